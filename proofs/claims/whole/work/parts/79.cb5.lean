/-! the class: layers, mathematics -/
def lyp (kk : Nat → Nat) : Nat → Nat
  | 0 => 0
  | p + 1 => lyp kk p + (if kk (p + 1) = kk p then 0 else 1)
def isSt (kk : Nat → Nat) (p : Nat) : Prop := p = 0 ∨ kk p ≠ kk (p - 1)
theorem lyp_mono (kk : Nat → Nat) : ∀ q p, p ≤ q → lyp kk p ≤ lyp kk q := by
  intro q
  induction q with
  | zero => intro p h; rw [Nat.le_zero.mp h]; exact Nat.le_refl _
  | succ q ih =>
    intro p h
    by_cases e : p = q + 1
    · rw [e]; exact Nat.le_refl _
    · have := ih p (by omega)
      rw [lyp]
      omega
theorem lyp_le (kk : Nat → Nat) : ∀ p, lyp kk p ≤ p := by
  intro p
  induction p with
  | zero => exact Nat.le_refl _
  | succ p ih =>
    rw [lyp]
    split <;> omega
theorem lyp_st {kk : Nat → Nat} {p : Nat} (h : isSt kk (p + 1)) : lyp kk (p + 1) = lyp kk p + 1 := by
  rw [lyp, if_neg]
  rcases h with h | h
  · omega
  · exact h
theorem lyp_ns {kk : Nat → Nat} {p : Nat} (h : ¬ isSt kk (p + 1)) : lyp kk (p + 1) = lyp kk p := by
  rw [lyp, if_pos]
  · rfl
  · exact Classical.not_not.mp (fun z => h (Or.inr z))
theorem lyp_eq {kk : Nat → Nat} {n : Nat} (hs : ∀ p q, p ≤ q → q < n → kk p ≤ kk q) : ∀ q p, q < n → p ≤ q → (lyp kk p = lyp kk q ↔ kk p = kk q) := by
  intro q
  induction q with
  | zero => intro p _ h; rw [Nat.le_zero.mp h]; exact ⟨fun _ => rfl, fun _ => rfl⟩
  | succ q ih =>
    intro p hq h
    by_cases e : p = q + 1
    · rw [e]; exact ⟨fun _ => rfl, fun _ => rfl⟩
    · have i := ih p (by omega) (by omega)
      have m := lyp_mono kk q p (by omega)
      have s1 := hs p q (by omega) (by omega)
      have s2 := hs q (q + 1) (by omega) hq
      rw [lyp]
      constructor
      · intro z
        by_cases g : kk (q + 1) = kk q
        · rw [if_pos g] at z
          rw [g]
          exact i.mp (by omega)
        · rw [if_neg g] at z
          omega
      · intro z
        rw [if_pos (by omega)]
        exact i.mpr (by omega)
theorem lyp_eq' {kk : Nat → Nat} {n : Nat} (hs : ∀ p q, p ≤ q → q < n → kk p ≤ kk q) {p q : Nat} (hp : p < n) (hq : q < n) : lyp kk p = lyp kk q ↔ kk p = kk q := by
  by_cases h : p ≤ q
  · exact lyp_eq hs q p hq h
  · have := lyp_eq hs p q hp (by omega)
    exact ⟨fun z => (this.mp z.symm).symm, fun z => (this.mpr z.symm).symm⟩
theorem lyp_lt {kk : Nat → Nat} {n : Nat} (hs : ∀ p q, p ≤ q → q < n → kk p ≤ kk q) {p q : Nat} (hp : p < n) (hq : q < n) : lyp kk p < lyp kk q ↔ kk p < kk q := by
  have e := lyp_eq' hs hp hq
  rcases Nat.le_total p q with h | h
  · have := lyp_mono kk q p h
    have := hs p q h hq
    constructor <;> intro z <;> omega
  · have := lyp_mono kk p q h
    have := hs q p h hp
    constructor <;> intro z <;> omega
/-- each layer has a first place -/
theorem lyp_first (kk : Nat → Nat) : ∀ q j, j ≤ lyp kk q → ∃ p, p ≤ q ∧ isSt kk p ∧ lyp kk p = j := by
  intro q
  induction q with
  | zero => intro j h; exact ⟨0, Nat.le_refl _, Or.inl rfl, (Nat.le_zero.mp h).symm⟩
  | succ q ih =>
    intro j h
    by_cases hst : isSt kk (q + 1)
    · by_cases e : j = lyp kk (q + 1)
      · exact ⟨q + 1, Nat.le_refl _, hst, e.symm⟩
      · have := lyp_st hst
        obtain ⟨p, a, b, c⟩ := ih j (by omega)
        exact ⟨p, by omega, b, c⟩
    · rw [lyp_ns hst] at h
      obtain ⟨p, a, b, c⟩ := ih j h
      exact ⟨p, by omega, b, c⟩
/-- the places ahead of layer j -/
def stc (kk : Nat → Nat) (j : Nat) : Nat → Nat
  | 0 => 0
  | k + 1 => if lyp kk k < j then k + 1 else stc kk j k
theorem stc_le (kk : Nat → Nat) (j : Nat) : ∀ k, stc kk j k ≤ k := by
  intro k
  induction k with
  | zero => exact Nat.le_refl _
  | succ k ih =>
    rw [stc]
    split <;> omega
theorem stc_iff (kk : Nat → Nat) (j : Nat) : ∀ k p, p < k → (p < stc kk j k ↔ lyp kk p < j) := by
  intro k
  induction k with
  | zero => intro p h; omega
  | succ k ih =>
    intro p hp
    rw [stc]
    by_cases h : lyp kk k < j
    · rw [if_pos h]
      have := lyp_mono kk k p (by omega)
      exact ⟨fun _ => by omega, fun _ => hp⟩
    · rw [if_neg h]
      by_cases e : p = k
      · subst e
        have := stc_le kk j p
        exact ⟨fun z => by omega, fun z => absurd z h⟩
      · exact ih p (by omega)
theorem stc_st {kk : Nat → Nat} {n p : Nat} (hp : p < n) (h : isSt kk p) : stc kk (lyp kk p) n = p := by
  have a := stc_iff kk (lyp kk p) n p hp
  have l := stc_le kk (lyp kk p) n
  rcases Nat.lt_trichotomy (stc kk (lyp kk p) n) p with z | z | z
  · cases p with
    | zero => omega
    | succ p =>
      have b := stc_iff kk (lyp kk (p + 1)) n p (by omega)
      have := lyp_st h
      have := b.mpr (by omega)
      omega
  · exact z
  · have := a.mp z
    omega
/-- the layers whose rules have at most the stage e -/
def eSt (kk sg : Nat → Nat) (e : Nat) : Nat → Nat
  | 0 => 0
  | k + 1 => if sg k ≤ e then lyp kk k + 1 else eSt kk sg e k
theorem eSt_le (kk sg : Nat → Nat) (e : Nat) : ∀ k, eSt kk sg e (k + 1) ≤ lyp kk k + 1 := by
  intro k
  induction k with
  | zero =>
    rw [eSt]
    split
    · exact Nat.le_refl _
    · exact Nat.zero_le _
  | succ k ih =>
    rw [eSt]
    split
    · exact Nat.le_refl _
    · have := lyp_mono kk (k + 1) k (by omega)
      omega
theorem eSt_mono (kk sg : Nat → Nat) {e e' : Nat} (h : e ≤ e') : ∀ k, eSt kk sg e k ≤ eSt kk sg e' k := by
  intro k
  induction k with
  | zero => exact Nat.le_refl _
  | succ k ih =>
    by_cases h1 : sg k ≤ e
    · rw [eSt, if_pos h1, eSt, if_pos (by omega)]
      exact Nat.le_refl _
    · by_cases h2 : sg k ≤ e'
      · have := eSt_le kk sg e k
        rw [eSt, if_neg h1] at this
        rw [eSt, if_neg h1, eSt, if_pos h2]
        exact this
      · rw [eSt, if_neg h1, eSt, if_neg h2]
        exact ih
theorem eSt_sg {kk sg : Nat → Nat} {n : Nat} (hs : ∀ p q, p ≤ q → q < n → kk p ≤ kk q) (hg : ∀ p q, p < n → q < n → kk p ≤ kk q → sg p ≤ sg q) (e : Nat) : ∀ k, k ≤ n → ∀ p, p < n → lyp kk p < eSt kk sg e k → sg p ≤ e := by
  intro k
  induction k with
  | zero => intro _ p _ h; exact absurd h (by rw [eSt]; omega)
  | succ k ih =>
    intro hk p hp h
    by_cases h1 : sg k ≤ e
    · rw [eSt, if_pos h1] at h
      have : kk p ≤ kk k := by
        rcases Nat.lt_or_ge (kk k) (kk p) with z | z
        · have := (lyp_lt hs (by omega) hp).mpr z
          omega
        · exact z
      exact Nat.le_trans (hg p k hp (by omega) this) h1
    · rw [eSt, if_neg h1] at h
      exact ih (by omega) p hp h
/-- the rules in another order, the literals of each as well -/
def pmR (R O : List Rl) : Prop := ∀ z ∈ R, ∃ x ∈ O, x.1 = z.1 ∧ x.2.Perm z.2
theorem pm_rV {x z : Rl} (h1 : x.1 = z.1) (h2 : x.2.Perm z.2) (c : Int32) : (rV x c ↔ rV z c) ∧ (rF x c ↔ rF z c) := by
  unfold rV rF
  rw [h1]
  constructor
  · exact ⟨fun a => a.imp id (fun ⟨l, b, c⟩ => ⟨l, h2.mem_iff.mp b, c⟩), fun a => a.imp id (fun ⟨l, b, c⟩ => ⟨l, h2.mem_iff.mpr b, c⟩)⟩
  · exact ⟨fun a => a.imp id (fun ⟨l, b, c⟩ => ⟨l, h2.mem_iff.mp b, c⟩), fun a => a.imp id (fun ⟨l, b, c⟩ => ⟨l, h2.mem_iff.mpr b, c⟩)⟩
theorem pm_adm {x z : Rl} (h1 : x.1 = z.1) (h2 : x.2.Perm z.2) {σ : Int32 → Tm} (h : adm z σ) : adm x σ := by
  intro c hc hv
  have p := pm_rV h1 h2 c
  have := h c hc (p.1.mp hv)
  exact ⟨this.1, fun z => this.2 (p.2.mp z)⟩
theorem pm_fl {x z : Rl} (h1 : x.1 = z.1) (h2 : x.2.Perm z.2) : flOf x = flOf z := by
  funext c
  rw [Bool.eq_iff_iff, flOf_iff, flOf_iff]
  exact (pm_rV h1 h2 c).2
theorem pm_wy {x z : Rl} (h2 : x.2.Perm z.2) (L : List Fct) : wy L x = wy L z := by
  unfold wy
  have hp := h2.filter (fun l => l.1 == 0)
  refine List.Perm.foldl_eq' hp (fun a _ b _ p => ?_) 1
  rw [Nat.mul_assoc, Nat.mul_assoc, Nat.mul_comm (cnt L (lk a))]
theorem pmR.cl {R O : List Rl} (h : pmR R O) {L : List Fct} (g : Cl O L) : Cl R L := by
  intro z hz σ ha hb
  obtain ⟨x, hx, e1, e2⟩ := h z hz
  rw [← e1]
  exact g x hx σ (pm_adm e1 e2 ha) (fun l hl => hb l (e2.mem_iff.mp hl))
theorem pmR.sup {R O : List Rl} (h : pmR O R) {B : List Fct} {Q : Nat → Prop} {L : List Fct} (g : Sup O B Q L) : Sup R B Q L := by
  intro i f hf
  rcases g i f hf with z | ⟨x, hx, σ, a, b, c⟩
  · exact Or.inl z
  · obtain ⟨z, hz, e1, e2⟩ := h x hx
    exact Or.inr ⟨z, hz, σ, pm_adm e1 e2 a, by rw [e1]; exact b, fun l hl => c l (e2.mem_iff.mp hl)⟩
theorem pmR.mdl {R O : List Rl} (h : pmR R O) (h' : pmR O R) {B L : List Fct} (g : Mdl O B L) : Mdl R B L := ⟨g.1, h.cl g.2.1, h'.sup g.2.2.1, g.2.2.2⟩
theorem pmR.small {R O : List Rl} (h : pmR R O) {L : List Fct} (g : Small O L) : Small R L := by
  refine ⟨g.1, fun z hz => ?_⟩
  obtain ⟨x, hx, e1, e2⟩ := h z hz
  rw [← pm_wy e2 L]
  exact g.2 x hx
theorem pmR.bad {R O : List Rl} (h : pmR R O) (h' : pmR O R) {P : List Fct → Prop} (g : Bad O P) : Bad R P := fun B' M hP hM hs => g B' M hP (h'.mdl h hM) (h'.small hs)

/-! what follows: models with a support, one at most; how a list of facts grows to it -/
abbrev Fct : Type := Nat × List Tm
/-- a term, a literal, with terms for its variables -/
def sC (σ : Int32 → Tm) (c : Int32) : Tm := if chV c then σ c else (0, [c])
def sT (σ : Int32 → Tm) (t : Tm) : Tm := if t.1 = 0 then sC σ (ps_hc t.2) else (t.1, t.2.map (fun c => ps_hc (sC σ c).2))
def sL (σ : Int32 → Tm) (l : Lt) : Fct := (lk l, l.2.2.map (sT σ))
/-- no variables in it -/
def gT (t : Tm) : Prop := wfT t ∧ ∀ c ∈ t.2, ¬ chV c
/-- the variables of a rule, and those in compounds -/
def inL (l : Lt) (c : Int32) : Prop := ∃ t ∈ l.2.2, c ∈ t.2
def inC (l : Lt) (c : Int32) : Prop := ∃ t ∈ l.2.2, t.1 ≠ 0 ∧ c ∈ t.2
def rV (r : Rl) (c : Int32) : Prop := inL r.1 c ∨ ∃ l ∈ r.2, inL l c
def rF (r : Rl) (c : Int32) : Prop := inC r.1 c ∨ ∃ l ∈ r.2, inC l c
def adm (r : Rl) (σ : Int32 → Tm) : Prop := ∀ c, chV c → rV r c → gT (σ c) ∧ (rF r c → (σ c).1 = 0)
/-- the two terms of # differ -/
def unl (σ : Int32 → Tm) (l : Lt) : Prop := sT σ (l.2.2.getD 0 (0, [])) ≠ sT σ (l.2.2.getD 1 (0, []))
def bSat (F : List Fct) (r : Rl) (σ : Int32 → Tm) : Prop := ∀ l ∈ r.2, (l.1 = 0 → sL σ l ∈ F) ∧ (l.1 = 1 → ¬ sL σ l ∈ F) ∧ (l.1 = 2 → unl σ l)
def Cl (R : List Rl) (F : List Fct) : Prop := ∀ r ∈ R, ∀ σ, adm r σ → bSat F r σ → sL σ r.1 ∈ F
/-- each fact is given, or follows from earlier ones and from what is not there -/
def Sup (R : List Rl) (B : List Fct) (Q : Nat → Prop) (L : List Fct) : Prop := ∀ (i : Nat) f, L[i]? = some f → f ∈ B ∨ ∃ r ∈ R, ∃ σ, adm r σ ∧ f = sL σ r.1 ∧ ∀ l ∈ r.2, (l.1 = 0 → ∃ j, j < i ∧ L[j]? = some (sL σ l)) ∧ (l.1 = 1 → Q (lk l) ∧ ¬ sL σ l ∈ L) ∧ (l.1 = 2 → unl σ l)
def Mdl (R : List Rl) (B L : List Fct) : Prop := (∀ f ∈ B, f ∈ L) ∧ Cl R L ∧ Sup R B (fun _ => True) L ∧ L.Nodup
/-- how many ways there are to choose facts for the literals that must hold -/
def cnt (L : List Fct) (x : Nat) : Nat := (L.filter (fun f => f.1 == x)).length
def wy (L : List Fct) (r : Rl) : Nat := (r.2.filter (fun l => l.1 == 0)).foldl (fun p l => p * cnt L (lk l)) 1
def Small (R : List Rl) (L : List Fct) : Prop := L.length ≤ 200 ∧ ∀ r ∈ R, wy L r ≤ 100000
theorem Mdl.half {R : List Rl} {B L L' : List Fct} {ly : Nat → Nat} (hly : ∀ r ∈ R, ∀ l ∈ r.2, l.1 ≠ 2 → ly (lk l) + kd l ≤ ly (lk r.1)) (h : Mdl R B L) (g : Mdl R B L') {n : Nat} (h1 : ∀ f, ly f.1 < n → (f ∈ L ↔ f ∈ L')) : ∀ f, ly f.1 ≤ n → f ∈ L → f ∈ L' := by
  obtain ⟨_, _, hs, _⟩ := h
  obtain ⟨gb, gc, _, _⟩ := g
  have key : ∀ (i : Nat) f, L[i]? = some f → ly f.1 ≤ n → f ∈ L' := by
    intro i
    induction i using Nat.strongRecOn with
    | _ i ih =>
      intro f hf hn
      rcases hs i f hf with hB | ⟨r, hr, σ, ha, rfl, hb⟩
      · exact gb f hB
      · refine gc r hr σ ha (fun l hl => ?_)
        obtain ⟨b1, b2, b3⟩ := hb l hl
        refine ⟨fun k0 => ?_, fun k1 => ?_, b3⟩
        · obtain ⟨j, hj, ej⟩ := b1 k0
          refine ih j hj _ ej ?_
          have := hly r hr l hl (by rw [k0]; decide)
          have e : (sL σ l).1 = lk l := rfl
          have e' : (sL σ r.1).1 = lk r.1 := rfl
          rw [e'] at hn
          rw [e]
          omega
        · have := hly r hr l hl (by rw [k1]; decide)
          have kk : kd l = 1 := by
            unfold kd
            rw [if_pos k1]
          have e : (sL σ l).1 = lk l := rfl
          have e' : (sL σ r.1).1 = lk r.1 := rfl
          rw [e'] at hn
          intro z
          exact (b2 k1).2 ((h1 _ (by rw [e]; omega)).mpr z)
  intro f hn hf
  obtain ⟨i, hi, e⟩ := List.getElem_of_mem hf
  exact key i f (by rw [List.getElem?_eq_getElem hi, e]) hn
theorem Mdl.uniq {R : List Rl} {B L L' : List Fct} {ly : Nat → Nat} (hly : ∀ r ∈ R, ∀ l ∈ r.2, l.1 ≠ 2 → ly (lk l) + kd l ≤ ly (lk r.1)) (h : Mdl R B L) (g : Mdl R B L') : ∀ f, f ∈ L ↔ f ∈ L' := by
  have key : ∀ n f, ly f.1 < n → (f ∈ L ↔ f ∈ L') := by
    intro n
    induction n with
    | zero => intro f hf; omega
    | succ n ih =>
      intro f hf
      exact ⟨Mdl.half hly h g ih f (by omega), Mdl.half hly g h (fun f hf => (ih f hf).symm) f (by omega)⟩
  exact fun f => key (ly f.1 + 1) f (by omega)
/-- the relations that are done are those of rules whose literals are done, and nothing more comes of them -/
def QD (R : List Rl) (Q : Nat → Prop) : Prop := ∀ r ∈ R, Q (lk r.1) → ∀ l ∈ r.2, l.1 ≠ 2 → Q (lk l)
def ClQ (R : List Rl) (Q : Nat → Prop) (L : List Fct) : Prop := ∀ r ∈ R, Q (lk r.1) → ∀ σ, adm r σ → bSat L r σ → sL σ r.1 ∈ L
/-- L has grown from the facts B: it is part of each model (of givens as P says), all of it where Q says -/
def St (R : List Rl) (P : List Fct → Prop) (Q : Nat → Prop) (B L : List Fct) : Prop := L.Nodup ∧ Sup R B Q L ∧ (∀ f ∈ B, f ∈ L) ∧ QD R Q ∧ ClQ R Q L ∧ ∀ B' M, P B' → Mdl R B' M → (∀ f ∈ L, f ∈ M) ∧ ∀ f ∈ M, Q f.1 → f ∈ L
/-- no model is small -/
def Bad (R : List Rl) (P : List Fct → Prop) : Prop := ∀ B' M, P B' → Mdl R B' M → ¬ Small R M
theorem nodup_sub_len {L M : List Fct} (h : L.Nodup) (hs : ∀ f ∈ L, f ∈ M) : L.length ≤ M.length := by
  induction L generalizing M with
  | nil => exact Nat.zero_le _
  | cons x L ih =>
    obtain ⟨h1, h2⟩ := List.nodup_cons.mp h
    have hx : x ∈ M := hs x (by simp)
    have := ih (M := M.erase x) h2 (fun f hf => (List.mem_erase_of_ne (by intro e; exact h1 (e ▸ hf))).mpr (hs f (by simp [hf])))
    rw [List.length_erase_of_mem hx] at this
    have hp : 0 < M.length := List.length_pos_of_mem hx
    simp only [List.length_cons]
    omega
theorem cnt_le {L M : List Fct} (h : L.Nodup) (hs : ∀ f ∈ L, f ∈ M) (x : Nat) : cnt L x ≤ cnt M x := by
  unfold cnt
  refine nodup_sub_len (h.filter _) (fun f hf => ?_)
  obtain ⟨h1, h2⟩ := List.mem_filter.mp hf
  exact List.mem_filter.mpr ⟨hs f h1, h2⟩
theorem wy_le {L M : List Fct} (h : L.Nodup) (hs : ∀ f ∈ L, f ∈ M) (r : Rl) : wy L r ≤ wy M r := by
  unfold wy
  have : ∀ (ls : List Lt) (a b : Nat), a ≤ b → ls.foldl (fun p l => p * cnt L (lk l)) a ≤ ls.foldl (fun p l => p * cnt M (lk l)) b := by
    intro ls
    induction ls with
    | nil => intro a b hab; exact hab
    | cons x ls ih =>
      intro a b hab
      exact ih _ _ (Nat.mul_le_mul hab (cnt_le h hs _))
  exact this _ 1 1 (Nat.le_refl _)
theorem St.bad_len {R : List Rl} {P : List Fct → Prop} {Q : Nat → Prop} {B L : List Fct} (h : St R P Q B L) {f : Fct} (hf : ¬ f ∈ L) (hl : L.length = 200) (hm : ∀ B' M, P B' → Mdl R B' M → f ∈ M) : Bad R P := by
  intro B' M hP hM hS
  obtain ⟨h1, _, _, _, _, h6⟩ := h
  have : (f :: L).Nodup := List.nodup_cons.mpr ⟨hf, h1⟩
  have := nodup_sub_len this (M := M) (fun g hg => by
    rcases List.mem_cons.mp hg with e | e
    · rw [e]; exact hm B' M hP hM
    · exact (h6 B' M hP hM).1 g e)
  have := hS.1
  simp only [List.length_cons] at *
  omega
theorem St.bad_wy {R : List Rl} {P : List Fct → Prop} {Q : Nat → Prop} {B L : List Fct} (h : St R P Q B L) {r : Rl} (hr : r ∈ R) (hw : 100000 < wy L r) : Bad R P := by
  intro B' M hP hM hS
  obtain ⟨h1, _, _, _, _, h6⟩ := h
  have := wy_le h1 (h6 B' M hP hM).1 r
  have := hS.2 r hr
  omega
/-- what a rule gives, with literals that hold in L and that fail where all is done -/
theorem St.follows {R : List Rl} {P : List Fct → Prop} {Q : Nat → Prop} {B L : List Fct} (h : St R P Q B L) {r : Rl} (hr : r ∈ R) {σ : Int32 → Tm} (ha : adm r σ) (hb : bSat L r σ) (hq : ∀ l ∈ r.2, l.1 = 1 → Q (lk l)) : ∀ B' M, P B' → Mdl R B' M → sL σ r.1 ∈ M := by
  intro B' M hP hM
  obtain ⟨_, _, _, _, _, h6⟩ := h
  obtain ⟨g1, g2⟩ := h6 B' M hP hM
  refine hM.2.1 r hr σ ha (fun l hl => ?_)
  obtain ⟨b1, b2, b3⟩ := hb l hl
  exact ⟨fun k0 => g1 _ (b1 k0), fun k1 z => b2 k1 (g2 _ z (hq l hl k1)), b3⟩
theorem Sup.push {R : List Rl} {B B' : List Fct} {Q : Nat → Prop} {L : List Fct} {f : Fct} (h : Sup R B Q L) (hB : ∀ g ∈ B, g ∈ B') (hf : ¬ Q f.1) (hs : f ∈ B' ∨ ∃ r ∈ R, ∃ σ, adm r σ ∧ f = sL σ r.1 ∧ ∀ l ∈ r.2, (l.1 = 0 → sL σ l ∈ L) ∧ (l.1 = 1 → Q (lk l) ∧ ¬ sL σ l ∈ L) ∧ (l.1 = 2 → unl σ l)) : Sup R B' Q (L ++ [f]) := by
  have hno : ∀ (σ : Int32 → Tm) (l : Lt), Q (lk l) → ¬ sL σ l ∈ L → ¬ sL σ l ∈ L ++ [f] := by
    intro σ l h1 h2 z
    rcases List.mem_append.mp z with z | z
    · exact h2 z
    · simp only [List.mem_singleton] at z
      rw [← z] at hf
      exact hf h1
  intro i g hg
  by_cases hi : i < L.length
  · rw [List.getElem?_append_left hi] at hg
    rcases h i g hg with z | ⟨r, hr, σ, ha, e, hb⟩
    · exact Or.inl (hB g z)
    · refine Or.inr ⟨r, hr, σ, ha, e, fun l hl => ?_⟩
      obtain ⟨b1, b2, b3⟩ := hb l hl
      refine ⟨fun k0 => ?_, fun k1 => ⟨(b2 k1).1, hno σ l (b2 k1).1 (b2 k1).2⟩, b3⟩
      obtain ⟨j, hj, ej⟩ := b1 k0
      exact ⟨j, hj, by rw [List.getElem?_append_left (by omega)]; exact ej⟩
  · have := (List.getElem?_eq_some_iff.mp hg).1
    simp only [List.length_append, List.length_cons, List.length_nil] at this
    have ei : i = L.length := by omega
    subst ei
    simp at hg
    subst hg
    rcases hs with z | ⟨r, hr, σ, ha, e, hb⟩
    · exact Or.inl z
    · refine Or.inr ⟨r, hr, σ, ha, e, fun l hl => ?_⟩
      obtain ⟨b1, b2, b3⟩ := hb l hl
      refine ⟨fun k0 => ?_, fun k1 => ⟨(b2 k1).1, hno σ l (b2 k1).1 (b2 k1).2⟩, b3⟩
      obtain ⟨j, hj, ej⟩ := List.getElem_of_mem (b1 k0)
      exact ⟨j, hj, by rw [List.getElem?_append_left hj, List.getElem?_eq_getElem hj, ej]⟩
theorem ClQ.push {R : List Rl} {Q : Nat → Prop} {L : List Fct} {f : Fct} (h : ClQ R Q L) (hd : QD R Q) (hf : ¬ Q f.1) : ClQ R Q (L ++ [f]) := by
  intro r hr hq σ ha hb
  refine List.mem_append_left _ (h r hr hq σ ha (fun l hl => ?_))
  obtain ⟨b1, b2, b3⟩ := hb l hl
  refine ⟨fun k0 => ?_, fun k1 z => b2 k1 (List.mem_append_left _ z), b3⟩
  rcases List.mem_append.mp (b1 k0) with z | z
  · exact z
  · simp only [List.mem_singleton] at z
    exfalso
    rw [← z] at hf
    exact hf (hd r hr hq l hl (by rw [k0]; decide))
theorem St.push {R : List Rl} {P : List Fct → Prop} {Q : Nat → Prop} {B L : List Fct} (h : St R P Q B L) {r : Rl} (hr : r ∈ R) {σ : Int32 → Tm} (ha : adm r σ) (hb : bSat L r σ) (hq : ∀ l ∈ r.2, l.1 = 1 → Q (lk l)) (hh : ¬ Q (lk r.1)) (hn : ¬ sL σ r.1 ∈ L) : St R P Q B (L ++ [sL σ r.1]) := by
  have hm := h.follows hr ha hb hq
  obtain ⟨h1, h2, h3, h4, h5, h6⟩ := h
  refine ⟨?_, h2.push (fun g hg => hg) hh (Or.inr ⟨r, hr, σ, ha, rfl, fun l hl => ?_⟩), fun f hf => List.mem_append_left _ (h3 f hf), h4, h5.push h4 hh, fun B' M hP hM => ?_⟩
  · rw [List.nodup_append]
    refine ⟨h1, by simp, fun a ha b hb e => ?_⟩
    simp only [List.mem_singleton] at hb
    rw [e, hb] at ha
    exact hn ha
  · obtain ⟨b1, b2, b3⟩ := hb l hl
    exact ⟨b1, fun k1 => ⟨hq l hl k1, b2 k1⟩, b3⟩
  · obtain ⟨g1, g2⟩ := h6 B' M hP hM
    refine ⟨fun f hf => ?_, fun f hf hq => List.mem_append_left _ (g2 f hf hq)⟩
    rcases List.mem_append.mp hf with z | z
    · exact g1 f z
    · simp only [List.mem_singleton] at z
      rw [z]
      exact hm B' M hP hM
/-- a given fact more -/
theorem St.give {R : List Rl} {P P' : List Fct → Prop} {Q : Nat → Prop} {B L : List Fct} (h : St R P Q B L) {f : Fct} (hf : ¬ Q f.1) (hn : ¬ f ∈ L) (hP : ∀ B', P' B' → P B' ∧ f ∈ B') : St R P' Q (B ++ [f]) (L ++ [f]) := by
  obtain ⟨h1, h2, h3, h4, h5, h6⟩ := h
  refine ⟨?_, h2.push (fun g hg => List.mem_append_left _ hg) hf (Or.inl (by simp)), fun g hg => ?_, h4, h5.push h4 hf, fun B' M hP' hM => ?_⟩
  · rw [List.nodup_append]
    refine ⟨h1, by simp, fun a ha b hb e => ?_⟩
    simp only [List.mem_singleton] at hb
    rw [e, hb] at ha
    exact hn ha
  · rcases List.mem_append.mp hg with z | z
    · exact List.mem_append_left _ (h3 g z)
    · exact List.mem_append_right _ z
  · obtain ⟨p1, p2⟩ := hP B' hP'
    obtain ⟨g1, g2⟩ := h6 B' M p1 hM
    refine ⟨fun g hg => ?_, fun g hg hq => List.mem_append_left _ (g2 g hg hq)⟩
    rcases List.mem_append.mp hg with z | z
    · exact g1 g z
    · simp only [List.mem_singleton] at z
      rw [z]
      exact hM.1 f p2
/-- the relations HS are done too: their rules give nothing more -/
theorem St.close {R : List Rl} {P : List Fct → Prop} {Q : Nat → Prop} {B L : List Fct} (h : St R P Q B L) {HS : Nat → Prop} (hb : ∀ r ∈ R, HS (lk r.1) → ∀ l ∈ r.2, l.1 ≠ 2 → Q (lk l) ∨ HS (lk l)) (hc : ∀ r ∈ R, HS (lk r.1) → ∀ σ, adm r σ → bSat L r σ → sL σ r.1 ∈ L) (hB : ∀ B', P B' → ∀ f ∈ B', HS f.1 → f ∈ L) : St R P (fun x => Q x ∨ HS x) B L := by
  obtain ⟨h1, h2, h3, h4, h5, h6⟩ := h
  refine ⟨h1, fun i f hf => ?_, h3, fun r hr hq l hl hk => ?_, fun r hr hq σ ha hs => ?_, fun B' M hP hM => ?_⟩
  · rcases h2 i f hf with z | ⟨r, hr, σ, ha, e, hb⟩
    · exact Or.inl z
    · exact Or.inr ⟨r, hr, σ, ha, e, fun l hl => ⟨(hb l hl).1, fun k1 => ⟨Or.inl ((hb l hl).2.1 k1).1, ((hb l hl).2.1 k1).2⟩, (hb l hl).2.2⟩⟩
  · rcases hq with z | z
    · exact Or.inl (h4 r hr z l hl hk)
    · exact hb r hr z l hl hk
  · rcases hq with z | z
    · exact h5 r hr z σ ha hs
    · exact hc r hr z σ ha hs
  · obtain ⟨g1, g2⟩ := h6 B' M hP hM
    refine ⟨g1, ?_⟩
    have key : ∀ (i : Nat) f, M[i]? = some f → HS f.1 → f ∈ L := by
      intro i
      induction i using Nat.strongRecOn with
      | _ i ih =>
        intro f hf hS
        rcases hM.2.2.1 i f hf with z | ⟨r, hr, σ, ha, rfl, hs⟩
        · exact hB B' hP f z hS
        · refine hc r hr hS σ ha (fun l hl => ?_)
          obtain ⟨b1, b2, b3⟩ := hs l hl
          refine ⟨fun k0 => ?_, fun k1 z => (b2 k1).2 (g1 _ z), b3⟩
          obtain ⟨j, hj, ej⟩ := b1 k0
          rcases hb r hr hS l hl (by rw [k0]; decide) with z | z
          · exact g2 _ (List.mem_of_getElem? ej) z
          · exact ih j hj _ ej z
    intro f hf hq
    rcases hq with z | z
    · exact g2 f hf z
    · obtain ⟨i, hi, e⟩ := List.getElem_of_mem hf
      exact key i f (by rw [List.getElem?_eq_getElem hi, e]) z
theorem St.iff {R : List Rl} {P : List Fct → Prop} {Q Q' : Nat → Prop} {B L : List Fct} (h : St R P Q B L) (e : ∀ x, Q x ↔ Q' x) : St R P Q' B L := by
  have : Q = Q' := funext (fun x => propext (e x))
  rw [← this]
  exact h
theorem St.weak {R : List Rl} {P P' : List Fct → Prop} {Q : Nat → Prop} {B L : List Fct} (h : St R P Q B L) (e : ∀ B', P' B' → P B') : St R P' Q B L := by
  obtain ⟨h1, h2, h3, h4, h5, h6⟩ := h
  exact ⟨h1, h2, h3, h4, h5, fun B' M hP hM => h6 B' M (e B' hP) hM⟩
/-- all rules done: a model -/
theorem St.model {R : List Rl} {P : List Fct → Prop} {Q : Nat → Prop} {B L : List Fct} (h : St R P Q B L) (hq : ∀ r ∈ R, Q (lk r.1)) : Mdl R B L := by
  obtain ⟨h1, h2, h3, h4, h5, h6⟩ := h
  refine ⟨h3, fun r hr σ ha hb => h5 r hr (hq r hr) σ ha hb, fun i f hf => ?_, h1⟩
  rcases h2 i f hf with z | ⟨r, hr, σ, ha, e, hb⟩
  · exact Or.inl z
  · exact Or.inr ⟨r, hr, σ, ha, e, fun l hl => ⟨(hb l hl).1, fun k1 => ⟨trivial, ((hb l hl).2.1 k1).2⟩, (hb l hl).2.2⟩⟩
/-- given facts are of T and of D -/
def TD (B : List Fct) : Prop := ∀ f ∈ B, f.1 = 337 ∨ f.1 = 274
/-- at the beginning what has no rules is done -/
def Q0 (R : List Rl) (x : Nat) : Prop := (∀ r ∈ R, lk r.1 ≠ x) ∧ x ≠ 337 ∧ x ≠ 274
theorem St.init (R : List Rl) : St R TD (Q0 R) [] [] := by
  refine ⟨List.nodup_nil, fun i f hf => absurd hf (by simp), fun f hf => absurd hf (by simp), fun r hr hq => absurd rfl (hq.1 r hr), fun r hr hq => absurd rfl (hq.1 r hr), fun B' M hP hM => ⟨fun f hf => absurd hf (by simp), fun f hf hq => ?_⟩⟩
  exfalso
  obtain ⟨i, hi, e⟩ := List.getElem_of_mem hf
  rcases hM.2.2.1 i f (by rw [List.getElem?_eq_getElem hi, e]) with z | ⟨r, hr, σ, ha, e, _⟩
  · rcases hP f z with y | y
    · exact hq.2.1 y
    · exact hq.2.2 y
  · exact hq.1 r hr (by rw [e]; rfl)

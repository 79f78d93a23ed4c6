/-! what the reference's methods come to: the reader's letters -/
/-- a method of the reference: from s to s', whatever lies around it -/
def rTo (d mi : Nat) (av : List Value) (s : mS) (v : Option Value) (s' : mS) : Prop := ∀ (N0 : Nat) (K : Nat → Nat) (B : Nat) (G : gm_H) (sz : Nat), N0 ≤ B → gm_to N0 K ra_nm (ra_mt K) d mi (.ref B :: av) (bM B (mH B s) G) sz (.returned v, bM B (mH B s') G, sz, 0)
/-- .. a static one, which touches nothing -/
def rTs (d mi : Nat) (av : List Value) (v : Option Value) : Prop := ∀ (N0 : Nat) (K : Nat → Nat) (B : Nat) (s : mS) (G : gm_H) (sz : Nat), N0 ≤ B → gm_to N0 K ra_nm (ra_mt K) d mi av (bM B (mH B s) G) sz (.returned v, bM B (mH B s) G, sz, 0)
theorem rTo.up {d d' mi : Nat} {av : List Value} {s s' : mS} {v : Option Value} (h : rTo d mi av s v s') (hd : d ≤ d') : rTo d' mi av s v s' := fun N0 K B G sz hN => gm_to.up (h N0 K B G sz hN) hd
theorem rTs.up {d d' mi : Nat} {av : List Value} {v : Option Value} (h : rTs d mi av v) (hd : d ≤ d') : rTs d' mi av v := fun N0 K B s G sz hN => gm_to.up (h N0 K B s G sz hN) hd
def zb (p : Prop) [Decidable p] : Int32 := if p then 1 else 0
theorem zb_t {p : Prop} [Decidable p] (h : p) : zb p = 1 := if_pos h
theorem zb_f {p : Prop} [Decidable p] (h : ¬ p) : zb p = 0 := if_neg h
theorem zb01 (p : Prop) [Decidable p] : zb p = 0 ∨ zb p = 1 := by
  by_cases h : p
  · exact Or.inr (zb_t h)
  · exact Or.inl (zb_f h)
theorem zb_ne {p : Prop} [Decidable p] : ¬ zb p = 0 ↔ p := by
  by_cases h : p
  · rw [zb_t h]; exact ⟨fun _ => h, fun _ => by decide⟩
  · rw [zb_f h]; exact ⟨fun q => absurd rfl q, fun q => absurd q h⟩
theorem zb_eq {p : Prop} [Decidable p] : zb p = 0 ↔ ¬ p := by
  by_cases h : p
  · rw [zb_t h]; exact ⟨fun q => absurd q (by decide), fun q => absurd h q⟩
  · rw [zb_f h]; exact ⟨fun _ => h, fun _ => rfl⟩
/-- letters, variables, digits -/
abbrev chL (c : Int32) : Prop := 97 ≤ c ∧ c ≤ 122
abbrev chV (c : Int32) : Prop := 85 ≤ c ∧ c ≤ 90
abbrev chD (c : Int32) : Prop := 48 ≤ c ∧ c ≤ 57
abbrev chP (c : Int32) : Prop := chL c ∨ chV c ∨ chD c
theorem rs_isLetter (c : Int32) : rTs 1 124 [.int c] (some (.int (zb (chL c)))) := by
  intro N0 K B s G sz hN
  refine gm_to.of (d := 0) rfl (by decide) (Nat.le_of_ble_eq_true rfl) rfl ?_
  by_cases h1 : c < 97
  · rw [zb_f (fun q => absurd q.1 (Int32.not_le.mpr h1))]; exact r_isLetter_0_t hN h1
  · by_cases h2 : 122 < c
    · rw [zb_f (fun q => absurd q.2 (Int32.not_le.mpr h2))]; exact r_isLetter_0_ft hN h1 h2
    · rw [zb_t ⟨Int32.not_lt.mp h1, Int32.not_lt.mp h2⟩]; exact r_isLetter_0_ff hN h1 h2
theorem rs_isVariable (c : Int32) : rTs 1 125 [.int c] (some (.int (zb (chV c)))) := by
  intro N0 K B s G sz hN
  refine gm_to.of (d := 0) rfl (by decide) (Nat.le_of_ble_eq_true rfl) rfl ?_
  by_cases h1 : c < 85
  · rw [zb_f (fun q => absurd q.1 (Int32.not_le.mpr h1))]; exact r_isVariable_0_t hN h1
  · by_cases h2 : 90 < c
    · rw [zb_f (fun q => absurd q.2 (Int32.not_le.mpr h2))]; exact r_isVariable_0_ft hN h1 h2
    · rw [zb_t ⟨Int32.not_lt.mp h1, Int32.not_lt.mp h2⟩]; exact r_isVariable_0_ff hN h1 h2
theorem rs_isPlain (c : Int32) : rTs 2 126 [.int c] (some (.int (zb (chP c)))) := by
  intro N0 K B s G sz hN
  refine gm_to.of (d := 1) rfl (by decide) (Nat.le_of_ble_eq_true rfl) rfl ?_
  have t1 := rs_isLetter c N0 K B s G sz hN
  have t2 := rs_isVariable c N0 K B s G sz hN
  by_cases h1 : chL c
  · rw [zb_t (Or.inl h1)]; exact r_isPlain_0_t hN t1 (zb_ne.mpr h1)
  · by_cases h2 : chV c
    · rw [zb_t (Or.inr (Or.inl h2))]; exact r_isPlain_0_ft hN t1 (zb_eq.mpr h1) t2 (zb_ne.mpr h2)
    · by_cases h3 : c < 48
      · rw [zb_f (fun q => q.elim h1 (fun q => q.elim h2 (fun q => absurd q.1 (Int32.not_le.mpr h3))))]; exact r_isPlain_0_fft hN t1 (zb_eq.mpr h1) t2 (zb_eq.mpr h2) h3
      · by_cases h4 : 57 < c
        · rw [zb_f (fun q => q.elim h1 (fun q => q.elim h2 (fun q => absurd q.2 (Int32.not_le.mpr h4))))]; exact r_isPlain_0_ffft hN t1 (zb_eq.mpr h1) t2 (zb_eq.mpr h2) h3 h4
        · rw [zb_t (Or.inr (Or.inr ⟨Int32.not_lt.mp h3, Int32.not_lt.mp h4⟩))]; exact r_isPlain_0_ffff hN t1 (zb_eq.mpr h1) t2 (zb_eq.mpr h2) h3 h4
/-- how many terms a keyword has, -1 of no keyword -/
def chK (c : Int32) : Int32 := if c = 82 then 1 else if c = 73 then 1 else if c = 84 then 1 else if c = 78 then 1 else if c = 68 then 2 else if c = 76 then 2 else if c = 71 then 2 else if c = 69 then 0 else -1
theorem rs_terms (c : Int32) : rTs 1 127 [.int c] (some (.int (chK c))) := by
  intro N0 K B s G sz hN
  refine gm_to.of (d := 0) rfl (by decide) (Nat.le_of_ble_eq_true rfl) rfl ?_
  unfold chK
  by_cases h1 : c = 82
  · rw [if_pos h1]; exact r_terms_0_t hN h1
  rw [if_neg h1]
  by_cases h2 : c = 73
  · rw [if_pos h2]; exact r_terms_0_ft hN h1 h2
  rw [if_neg h2]
  by_cases h3 : c = 84
  · rw [if_pos h3]; exact r_terms_0_fft hN h1 h2 h3
  rw [if_neg h3]
  by_cases h4 : c = 78
  · rw [if_pos h4]; exact r_terms_0_ffff hN h1 h2 h3 h4
  rw [if_neg h4]
  by_cases h5 : c = 68
  · rw [if_pos h5]; exact r_terms_0_ffftt hN h1 h2 h3 h4 h5
  rw [if_neg h5]
  by_cases h6 : c = 76
  · rw [if_pos h6]; exact r_terms_0_ffftft hN h1 h2 h3 h4 h5 h6
  rw [if_neg h6]
  by_cases h7 : c = 71
  · rw [if_pos h7]; exact r_terms_0_ffftfff hN h1 h2 h3 h4 h5 h6 h7
  rw [if_neg h7]
  by_cases h8 : c = 69
  · rw [if_pos h8]; exact r_terms_0_ffftfftf hN h1 h2 h3 h4 h5 h6 h7 h8
  · rw [if_neg h8]; exact r_terms_0_ffftfftt hN h1 h2 h3 h4 h5 h6 h7 h8
/-- the reader stands at p, in a text of n characters -/
def rAt (s : mS) (p n : Nat) : Prop := s.1 10 = nI p ∧ s.1 9 = nI n ∧ n ≤ 240 ∧ p ≤ n
theorem rs_here {s : mS} {p n : Nat} (h : rAt s p n) : rTo 1 123 [] s (some (.int (if p < n then s.2.1 8 p else 0))) s := by
  intro N0 K B G sz hN
  refine gm_to.of (d := 0) rfl (by decide) (Nat.le_of_ble_eq_true rfl) rfl ?_
  obtain ⟨h1, h2, h3, h4⟩ := h
  by_cases hp : p < n
  · rw [if_pos hp]
    exact r_here_0_f hN (by rw [h1, h2]; exact fun q => absurd ((nI_leI (by omega) (by omega)).mp q) (by omega)) h1 (by omega)
  · rw [if_neg hp]
    exact r_here_0_t hN (by rw [h1, h2]; exact (nI_leI (by omega) (by omega)).mpr (by omega))
/-- the character at the reader's place, 0 at the end -/
def rCh (s : mS) (p n : Nat) : Int32 := if p < n then s.2.1 8 p else 0
theorem rAt.step {s : mS} {p n : Nat} (h : rAt s p n) (hp : p < n) : rAt (mI s 10 (s.1 10 + 1)) (p + 1) n := by
  obtain ⟨h1, h2, h3, h4⟩ := h
  exact ⟨by show s.1 10 + 1 = nI (p + 1); rw [h1, nI_1], h2, h3, by omega⟩
theorem rs_takes_no {s : mS} {p n : Nat} (h : rAt s p n) {c : Int32} (hc : ¬ rCh s p n = c) : rTo 2 128 [.int c] s (some (.int 0)) s := by
  intro N0 K B G sz hN
  refine gm_to.of (d := 1) rfl (by decide) (Nat.le_of_ble_eq_true rfl) rfl ?_
  exact r_takes_0_f hN (rs_here h N0 K B G sz hN) hc
theorem rs_takes_yes {s : mS} {p n : Nat} (h : rAt s p n) {c : Int32} (hc : rCh s p n = c) : rTo 2 128 [.int c] s (some (.int 1)) (mI s 10 (s.1 10 + 1)) := by
  intro N0 K B G sz hN
  refine gm_to.of (d := 1) rfl (by decide) (Nat.le_of_ble_eq_true rfl) rfl ?_
  exact r_takes_0_t hN (rs_here h N0 K B G sz hN) hc

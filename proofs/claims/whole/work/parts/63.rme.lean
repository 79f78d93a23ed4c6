/-! the reference: terms of facts; made, part, agrees -/
theorem nI_shr {n k : Nat} (hn : n < 2 ^ 31) (hk : k < 32) : nI n >>> (nI k &&& 31) = nI (n / 2 ^ k) := by
  apply Int32.toBitVec_inj.mp
  have h : ∀ k : Fin 32, (nI k.1 &&& 31).toBitVec.smod 32 = BitVec.ofNat 32 k.1 := by decide +kernel
  rw [Int32.toBitVec_shiftRight, h ⟨k, hk⟩, BitVec.sshiftRight_eq', BitVec.toNat_ofNat, Nat.mod_eq_of_lt (show k < 2 ^ 32 by omega)]
  have hm : (nI n).toBitVec.msb = false := by
    rw [BitVec.msb_eq_false_iff_two_mul_lt]
    show 2 * (BitVec.ofNat 32 n).toNat < 2 ^ 32
    rw [BitVec.toNat_ofNat, Nat.mod_eq_of_lt (by omega)]
    omega
  rw [BitVec.sshiftRight_eq_of_msb_false hm]
  show BitVec.ofNat 32 n >>> k = BitVec.ofNat 32 (n / 2 ^ k)
  apply BitVec.eq_of_toNat_eq
  have : n / 2 ^ k ≤ n := Nat.div_le_self _ _
  rw [BitVec.toNat_ushiftRight, BitVec.toNat_ofNat, BitVec.toNat_ofNat, Nat.mod_eq_of_lt (show n < 2 ^ 32 by omega), Nat.shiftRight_eq_div_pow, Nat.mod_eq_of_lt (by omega)]
theorem vc_sub {v : Nat} (h : v < 6) : nI (85 + v) - 85 = nI v := by
  have : ∀ v, v < 6 → nI (85 + v) - 85 = nI v := by decide
  exact this v h
theorem chV_ix {c : Int32} (h : chV c) : ∃ v, v < 6 ∧ c = nI (85 + v) := by
  obtain ⟨h1, h2, h3⟩ := chV_cn h
  exact ⟨cn c - 85, by omega, by rw [show 85 + (cn c - 85) = cn c by omega]; exact h3⟩
theorem chV_of {v : Nat} (h : v < 6) : chV (nI (85 + v)) := by
  have : ∀ v, v < 6 → chV (nI (85 + v)) := by decide
  exact this v h
theorem bs.tests {x : Int32} {S : Nat → Prop} {v : Nat} (h : bs x S) (hv : v < 6) : (x >>> ((nI (85 + v) - 85) &&& 31)) &&& (1 : Int32) = 1 ↔ S v := by
  obtain ⟨m, rfl, h2, h3⟩ := h
  rw [vc_sub hv, nI_shr (by omega) (by omega), n_1, nI_and, Nat.and_one_is_mod, ← h3 v, Nat.testBit_eq_decide_div_mod_eq, nI_eq (by omega) (by decide)]
  simp only [decide_eq_true_eq]
theorem l56 {m : Nat} (h : m < 128) : (nI m).toInt64 <<< (((56 : Int32)).toInt64 &&& 63) = lN (m * 2 ^ 56) := by
  rw [nI_l (by omega)]
  exact lN_shl m (k := 56) (by decide)
theorem tL_k {c : Int32} : tL (0, [c]) = cn c * 2 ^ 56 := by
  unfold tL
  rw [if_pos rfl]
  rfl
theorem rq_isConstant {d : Nat} {t : Tm} {s : mS} {Q : Int32 → Prop} (ht : wfT t) (q1 : t.1 = 0 → Q 1) (q0 : ¬ t.1 = 0 → Q 0) : q_isConstant (d + 1) (lN (tL t)) s Q := by
  refine q_isConstant.of (T_isConstant_0 ?_)
  rw [show lN (tL t) <<< (((8 : Int32)).toInt64 &&& 63) = lN (tL t * 2 ^ 8) from lN_shl _ (k := 8) (by decide)]
  have hm : lN (tL t * 2 ^ 8) = lN (tL t * 2 ^ 8 % 2 ^ 64) := by
    apply Int64.toBitVec_inj.mp
    apply BitVec.eq_of_toNat_eq
    show (BitVec.ofNat 64 (tL t * 2 ^ 8)).toNat = (BitVec.ofNat 64 (tL t * 2 ^ 8 % 2 ^ 64)).toNat
    rw [BitVec.toNat_ofNat, BitVec.toNat_ofNat, Nat.mod_mod]
  have key : lg_cmp (lN (tL t * 2 ^ 8)) 0 = 0 ↔ t.1 = 0 := by
    rw [lg_eq, hm, show (0 : Int64) = lN 0 from rfl, lN_inj (Nat.mod_lt _ (by decide)) (by decide)]
    rcases ht.shape with ⟨a, h1, h2, e0, _, e⟩ | ⟨a, x, h1, h2, h3, h4, e0, hc, _, e⟩ | ⟨a, x, y, h1, h2, h3, h4, h5, h6, e0, hc, _, e⟩ | ⟨a, x, y, z, h1, h2, h3, h4, h5, h6, h7, h8, e0, hc, _, e⟩
    · rw [e, e0]
      exact ⟨fun _ => rfl, fun _ => by omega⟩
    · rw [e]
      refine ⟨fun z => ?_, fun z => ?_⟩
      · omega
      · rw [e0] at z
        exact absurd z (chL_ne hc)
    · rw [e]
      refine ⟨fun z => ?_, fun z => ?_⟩
      · omega
      · rw [e0] at z
        exact absurd z (chL_ne hc)
    · rw [e]
      refine ⟨fun z => ?_, fun z => ?_⟩
      · omega
      · rw [e0] at z
        exact absurd z (chL_ne hc)
  by_cases h : t.1 = 0
  · rw [if_pos (key.mpr h)]
    exact ⟨rfl, q1 h⟩
  · rw [if_neg (fun z => h (key.mp z))]
    exact ⟨rfl, q0 h⟩
theorem rq_letterOf {d n k : Nat} {s : mS} {Q : Int32 → Prop} (hn : n < 2 ^ 63) (hk : k < 9) (q : Q (nI (if k < 8 then n / 2 ^ (56 - 8 * k) % 256 else 0))) : q_letterOf (d + 1) (lN n) (nI k) s Q := by
  refine q_letterOf.of (T_letterOf_0 ?_)
  by_cases h8 : k < 8
  · rw [if_pos h8] at q
    rw [if_neg (by rw [show (8 : Int32) = nI 8 from rfl]; exact nI_ge (by omega) (by decide))]
    have e : (56 : Int32) - 8 * nI k = nI (56 - 8 * k) := by
      have : ∀ k, k < 8 → (56 : Int32) - 8 * nI k = nI (56 - 8 * k) := by decide
      exact this k h8
    have hd : n / 2 ^ (56 - 8 * k) ≤ n := Nat.div_le_self _ _
    rw [e, lN_shr hn (by omega), show (255 : Int64) = lN 255 from rfl, lN_and, lN_i, show n / 2 ^ (56 - 8 * k) &&& 255 = n / 2 ^ (56 - 8 * k) % 256 from Nat.and_two_pow_sub_one_eq_mod _ 8]
    exact ⟨rfl, q⟩
  · rw [if_neg h8] at q
    rw [if_pos (by rw [show (8 : Int32) = nI 8 from rfl]; exact nI_le (by omega) (by omega))]
    exact ⟨rfl, q⟩
/-- what the variables stand for -/
def rEnv (s : mS) (D : Nat) (e : Env) : Prop := ∀ v, v < 6 → (∀ t, e (nI (85 + v)) = some t → gT t ∧ s.2.2 25 v = lN (tL t) ∧ ∃ b, b < D ∧ s.2.1 26 v = nI b) ∧ (e (nI (85 + v)) = none → s.2.1 26 v = -1)
/-- σ is e where the term has variables -/
def eOn (e : Env) (σ : Int32 → Tm) (cs : List Int32) : Prop := ∀ c ∈ cs, chV c → e c = some (σ c)
theorem rq_valueOf {d D : Nat} {s : mS} {e : Env} {σ : Int32 → Tm} {c : Int32} {Q : Int64 → Prop} (he : rEnv s D e) (hc : chP c) (hσ : chV c → e c = some (σ c)) (q : Q (lN (tL (sC σ c)))) : q_valueOf (d + 2) c s Q := by
  refine q_valueOf.of (T_valueOf_0 (rq_isVariable ?_))
  by_cases hv : chV c
  · rw [if_neg (zb_ne.mpr hv)]
    obtain ⟨v, hv6, ec⟩ := chV_ix hv
    refine ⟨v, by rw [ec, vc_sub hv6], hv6, rfl, ?_⟩
    have := hσ hv
    rw [ec] at this
    rw [((he v hv6).1 _ this).2.1]
    unfold sC at q
    rw [if_pos hv, ec] at q
    exact q
  · rw [if_pos (zb_eq.mpr hv)]
    obtain ⟨h1, h2, h3⟩ := chP_cn hc
    unfold sC at q
    rw [if_neg hv, tL_k] at q
    have := l56 h2
    rw [← h3] at this
    rw [this]
    exact ⟨rfl, q⟩
theorem sC_const {e : Env} {σ : Int32 → Tm} {c : Int32} {D : Nat} {s : mS} (he : rEnv s D e) (hc : chP c) (hσ : chV c → e c = some (σ c)) (h0 : chV c → (σ c).1 = 0) : ∃ a, 48 ≤ a ∧ a < 128 ∧ sC σ c = (0, [nI a]) ∧ ¬ chV (nI a) ∧ chP (nI a) := by
  unfold sC
  by_cases hv : chV c
  · rw [if_pos hv]
    obtain ⟨v, hv6, ec⟩ := chV_ix hv
    have := hσ hv
    rw [ec] at this
    have hg := ((he v hv6).1 _ this).1
    rw [← ec] at hg
    rcases hg.1 with ⟨z0, x, z1, z2⟩ | ⟨z, _⟩
    · obtain ⟨a, a1, a2, rfl⟩ := chP_nat z1
      exact ⟨a, a1, a2, Prod.ext z0 z2, hg.2 _ (by rw [z2]; simp), z1⟩
    · rw [h0 hv] at z
      exact absurd z (by decide)
  · rw [if_neg hv]
    obtain ⟨a, a1, a2, rfl⟩ := chP_nat hc
    exact ⟨a, a1, a2, rfl, hv, hc⟩
theorem gT_sT {e : Env} {σ : Int32 → Tm} {p : Tm} {D : Nat} {s : mS} (he : rEnv s D e) (hp : wfT p) (hσ : eOn e σ p.2) (h0 : ¬ p.1 = 0 → ∀ c ∈ p.2, chV c → (σ c).1 = 0) : gT (sT σ p) := by
  unfold sT
  rcases hp with ⟨z, c, hc, ec⟩ | ⟨z, z1, z2, z3⟩
  · rw [if_pos z, ec]
    show gT (sC σ c)
    unfold sC
    by_cases hv : chV c
    · rw [if_pos hv]
      obtain ⟨v, hv6, e5⟩ := chV_ix hv
      have := hσ c (by rw [ec]; simp) hv
      rw [e5] at this
      have hg := ((he v hv6).1 _ this).1
      rw [← e5] at hg
      exact hg
    · rw [if_neg hv]
      exact ⟨Or.inl ⟨rfl, c, hc, rfl⟩, fun y hy => by simp only [List.mem_singleton] at hy; rw [hy]; exact hv⟩
  · have hz : ¬ p.1 = 0 := chL_ne z
    rw [if_neg hz]
    have key : ∀ y ∈ p.2.map (fun c => ps_hc (sC σ c).2), chP y ∧ ¬ chV y := by
      intro y hy
      obtain ⟨c, hc, rfl⟩ := List.mem_map.mp hy
      obtain ⟨a, _, _, a3, a4, a5⟩ := sC_const he (z3 c hc) (hσ c hc) (h0 hz c hc)
      rw [a3]
      exact ⟨a5, a4⟩
    refine ⟨Or.inr ⟨z, ?_, ?_, fun y hy => (key y hy).1⟩, fun y hy => (key y hy).2⟩
    · simp only [List.length_map]
      exact z1
    · simp only [List.length_map]
      exact z2
theorem len3 {α : Type} (l : List α) (h1 : 1 ≤ l.length) (h2 : l.length ≤ 3) : (∃ x, l = [x]) ∨ (∃ x y, l = [x, y]) ∨ (∃ x y z, l = [x, y, z]) := by
  match l, h1, h2 with
  | [x], _, _ => exact Or.inl ⟨x, rfl⟩
  | [x, y], _, _ => exact Or.inr (Or.inl ⟨x, y, rfl⟩)
  | [x, y, z], _, _ => exact Or.inr (Or.inr ⟨x, y, z, rfl⟩)
theorem rq_made {d D tt : Nat} {s : mS} {e : Env} {σ : Int32 → Tm} {p : Tm} {Q : Int64 → Prop} (ht : tt < 432) (hx : rTm s.2.1 tt p) (hp : wfT p) (he : rEnv s D e) (hσ : eOn e σ p.2) (h0 : ¬ p.1 = 0 → ∀ c ∈ p.2, chV c → (σ c).1 = 0) (q : Q (lN (tL (sT σ p)))) : q_made (d + 3) (nI tt) s Q := by
  obtain ⟨x1, x2, x3, x4⟩ := hx
  refine q_made.of (T_made_0 ⟨tt, rfl, ht, ?_⟩)
  rw [x1]
  unfold sT at q
  rcases id hp with ⟨z, c, hc, ec⟩ | ⟨z, z1, z2, z3⟩
  · rw [if_pos z]
    rw [if_pos z, ec] at q
    refine ⟨3 * tt, by rw [n_3, nI_mul], by omega, ?_⟩
    have e0 : s.2.1 17 (3 * tt) = c := by
      have := x4 0 (by rw [ec]; simp)
      rw [ec] at this
      exact this
    rw [e0]
    exact rq_valueOf he hc (hσ c (by rw [ec]; simp)) ⟨rfl, q⟩
  · have hz : ¬ p.1 = 0 := chL_ne z
    rw [if_neg hz]
    rw [if_neg hz] at q
    obtain ⟨o, o1, o2, eo⟩ := chP_nat (Or.inl z)
    have start : ((p.1.toInt64) <<< (((56 : Int32)).toInt64 &&& 63)) ||| (11258999068426240 : Int64) = lN (o * 2 ^ 56 + 40 * 2 ^ 48) := by
      rw [eo, l56 o2, show (11258999068426240 : Int64) = lN (40 * 2 ^ 48) from by decide, lN_or, n_or (by decide)]
    rw [start]
    have ch : ∀ k, k < p.2.length → ∃ a, 48 ≤ a ∧ a < 128 ∧ sC σ (p.2.getD k 0) = (0, [nI a]) ∧ s.2.1 17 (3 * tt + k) = p.2.getD k 0 ∧ chP (p.2.getD k 0) ∧ (chV (p.2.getD k 0) → e (p.2.getD k 0) = some (σ (p.2.getD k 0))) := by
      intro k hk
      have em : p.2.getD k 0 ∈ p.2 := by
        rw [List.getD_eq_getElem?_getD, List.getElem?_eq_getElem hk]
        exact List.getElem_mem hk
      obtain ⟨a, a1, a2, a3, _⟩ := sC_const he (z3 _ em) (hσ _ em) (h0 hz _ em)
      exact ⟨a, a1, a2, a3, x4 k hk, z3 _ em, hσ _ em⟩
    have step : ∀ (k n : Nat) {R : Int64 → mS → Prop}, k < p.2.length → n < 2 ^ 63 → (∀ a, 48 ≤ a → a < 128 → sC σ (p.2.getD k 0) = (0, [nI a]) → h_made_40 (d + 2) (nI tt) (lN ((n ||| a * 2 ^ (40 - 16 * k)) ||| (if k + 1 = p.2.length then 41 else 44) * 2 ^ (32 - 16 * k))) (nI (k + 1)) s R) → h_made_40 (d + 2) (nI tt) (lN n) (nI k) s R := by
      intro k n R hk hn hq
      obtain ⟨a, a1, a2, a3, a4, a5, a6⟩ := ch k hk
      refine T_made_40 ⟨tt, rfl, ht, ?_⟩
      rw [x2, if_neg (nI_ge (by omega) (by omega))]
      refine ⟨3 * tt + k, by rw [n_3, nI_mul, nI_add], by omega, ?_⟩
      rw [a4]
      refine rq_valueOf he a5 a6 ?_
      rw [a3, tL_k, cn_nI a2]
      have e1 : ((16 : Int32) + 16 * nI k) = nI (16 + 16 * k) := by
        have : ∀ k, k < 3 → (16 : Int32) + 16 * nI k = nI (16 + 16 * k) := by decide
        exact this k (by omega)
      have e2 : ((32 : Int32) - 16 * nI k) = nI (32 - 16 * k) := by
        have : ∀ k, k < 3 → (32 : Int32) - 16 * nI k = nI (32 - 16 * k) := by decide
        exact this k (by omega)
      have e3 : a * 2 ^ 56 / 2 ^ (16 + 16 * k) = a * 2 ^ (40 - 16 * k) := by
        have h3 : k = 0 ∨ k = 1 ∨ k = 2 := by omega
        rcases h3 with rfl | rfl | rfl <;> omega
      have e4 : ∀ w, w < 128 → (nI w).toInt64 <<< ((nI (32 - 16 * k)).toInt64 &&& 63) = lN (w * 2 ^ (32 - 16 * k)) := fun w hw => by
        rw [nI_l (by omega)]
        exact lN_shl w (by omega)
      rw [e1, e2, lN_shr (by omega) (by omega), e3, lN_or, nI_1]
      have hq' := hq a a1 a2 a3
      by_cases hl : k + 1 = p.2.length
      · rw [if_pos (by rw [hl]), show ((41 : Int32).toInt64) = (nI 41).toInt64 from rfl, e4 41 (by decide), lN_or]
        rw [if_pos hl] at hq'
        exact hq'
      · rw [if_neg (by rw [nI_eq (by omega) (by omega)]; exact hl), show ((44 : Int32).toInt64) = (nI 44).toInt64 from rfl, e4 44 (by decide), lN_or]
        rw [if_neg hl] at hq'
        exact hq'
    have stop : ∀ (n : Nat) {R : Int64 → mS → Prop}, R (lN n) s → h_made_40 (d + 2) (nI tt) (lN n) (nI p.2.length) s R := by
      intro n R hq
      refine T_made_40 ⟨tt, rfl, ht, ?_⟩
      rw [x2, if_pos (nI_le (Nat.le_refl _) (by omega))]
      exact hq
    obtain ⟨po, ps⟩ := p
    simp only at *
    rcases len3 ps z1 z2 with ⟨x, rfl⟩ | ⟨x, y, rfl⟩ | ⟨x, y, w, rfl⟩
    · refine step 0 _ (Nat.le_of_ble_eq_true rfl) (by omega) (fun a a1 a2 a3 => ?_)
      have e5 : (o * 2 ^ 56 + 40 * 2 ^ 48 ||| a * 2 ^ (40 - 16 * 0)) ||| (if 0 + 1 = [x].length then 41 else 44) * 2 ^ (32 - 16 * 0) = tL (po, [x].map (fun c => ps_hc (sC σ c).2)) := by
        rw [if_pos (show 0 + 1 = [x].length from rfl)]
        have e6 : ps_hc (sC σ x).2 = nI a := by
          have : sC σ x = (0, [nI a]) := a3
          rw [this]
          rfl
        show _ = tL (po, [ps_hc (sC σ x).2])
        rw [e6]
        unfold tL
        rw [if_neg hz]
        simp only
        rw [eo, cn_nI o2, cn_nI a2, show o * 2 ^ 56 + 40 * 2 ^ 48 = (o * 256 + 40) * 2 ^ 48 by omega, n_or (by omega), show (o * 256 + 40) * 2 ^ 48 + a * 2 ^ (40 - 16 * 0) = ((o * 256 + 40) * 256 + a) * 2 ^ 40 by omega, n_or (by decide)]
      rw [e5]
      exact stop _ ⟨rfl, q⟩
    · refine step 0 _ (Nat.le_of_ble_eq_true rfl) (by omega) (fun a a1 a2 a3 => ?_)
      have e5 : (o * 2 ^ 56 + 40 * 2 ^ 48 ||| a * 2 ^ (40 - 16 * 0)) ||| (if 0 + 1 = [x, y].length then 41 else 44) * 2 ^ (32 - 16 * 0) = ((o * 256 + 40) * 256 + a) * 2 ^ 40 + 44 * 2 ^ 32 := by
        rw [if_neg (show ¬ 0 + 1 = [x, y].length from fun z => absurd z (by simp)), show o * 2 ^ 56 + 40 * 2 ^ 48 = (o * 256 + 40) * 2 ^ 48 by omega, n_or (by omega), show (o * 256 + 40) * 2 ^ 48 + a * 2 ^ (40 - 16 * 0) = ((o * 256 + 40) * 256 + a) * 2 ^ 40 by omega, n_or (by decide)]
      rw [e5]
      refine step 1 _ (Nat.le_of_ble_eq_true rfl) (by omega) (fun b b1 b2 b3 => ?_)
      have e7 : ((((o * 256 + 40) * 256 + a) * 2 ^ 40 + 44 * 2 ^ 32) ||| b * 2 ^ (40 - 16 * 1)) ||| (if 1 + 1 = [x, y].length then 41 else 44) * 2 ^ (32 - 16 * 1) = tL (po, [x, y].map (fun c => ps_hc (sC σ c).2)) := by
        rw [if_pos (show 1 + 1 = [x, y].length from rfl)]
        have e6 : ps_hc (sC σ x).2 = nI a := by
          have : sC σ x = (0, [nI a]) := a3
          rw [this]
          rfl
        have e8 : ps_hc (sC σ y).2 = nI b := by
          have : sC σ y = (0, [nI b]) := b3
          rw [this]
          rfl
        show _ = tL (po, [ps_hc (sC σ x).2, ps_hc (sC σ y).2])
        rw [e6, e8]
        unfold tL
        rw [if_neg hz]
        simp only
        rw [eo, cn_nI o2, cn_nI a2, cn_nI b2, show ((o * 256 + 40) * 256 + a) * 2 ^ 40 + 44 * 2 ^ 32 = (((o * 256 + 40) * 256 + a) * 256 + 44) * 2 ^ 32 by omega, n_or (by omega), show (((o * 256 + 40) * 256 + a) * 256 + 44) * 2 ^ 32 + b * 2 ^ (40 - 16 * 1) = ((((o * 256 + 40) * 256 + a) * 256 + 44) * 256 + b) * 2 ^ 24 by omega, n_or (by decide)]
        omega
      rw [e7]
      exact stop _ ⟨rfl, q⟩
    · refine step 0 _ (Nat.le_of_ble_eq_true rfl) (by omega) (fun a a1 a2 a3 => ?_)
      have e5 : (o * 2 ^ 56 + 40 * 2 ^ 48 ||| a * 2 ^ (40 - 16 * 0)) ||| (if 0 + 1 = [x, y, w].length then 41 else 44) * 2 ^ (32 - 16 * 0) = ((o * 256 + 40) * 256 + a) * 2 ^ 40 + 44 * 2 ^ 32 := by
        rw [if_neg (show ¬ 0 + 1 = [x, y, w].length from fun z => absurd z (by simp)), show o * 2 ^ 56 + 40 * 2 ^ 48 = (o * 256 + 40) * 2 ^ 48 by omega, n_or (by omega), show (o * 256 + 40) * 2 ^ 48 + a * 2 ^ (40 - 16 * 0) = ((o * 256 + 40) * 256 + a) * 2 ^ 40 by omega, n_or (by decide)]
      rw [e5]
      refine step 1 _ (Nat.le_of_ble_eq_true rfl) (by omega) (fun b b1 b2 b3 => ?_)
      have e7 : ((((o * 256 + 40) * 256 + a) * 2 ^ 40 + 44 * 2 ^ 32) ||| b * 2 ^ (40 - 16 * 1)) ||| (if 1 + 1 = [x, y, w].length then 41 else 44) * 2 ^ (32 - 16 * 1) = ((((o * 256 + 40) * 256 + a) * 256 + 44) * 256 + b) * 2 ^ 24 + 44 * 2 ^ 16 := by
        rw [if_neg (show ¬ 1 + 1 = [x, y, w].length from fun z => absurd z (by simp)), show ((o * 256 + 40) * 256 + a) * 2 ^ 40 + 44 * 2 ^ 32 = (((o * 256 + 40) * 256 + a) * 256 + 44) * 2 ^ 32 by omega, n_or (by omega), show (((o * 256 + 40) * 256 + a) * 256 + 44) * 2 ^ 32 + b * 2 ^ (40 - 16 * 1) = ((((o * 256 + 40) * 256 + a) * 256 + 44) * 256 + b) * 2 ^ 24 by omega, n_or (by decide)]
      rw [e7]
      refine step 2 _ (Nat.le_of_ble_eq_true rfl) (by omega) (fun g g1 g2 g3 => ?_)
      have e9 : ((((((o * 256 + 40) * 256 + a) * 256 + 44) * 256 + b) * 2 ^ 24 + 44 * 2 ^ 16) ||| g * 2 ^ (40 - 16 * 2)) ||| (if 2 + 1 = [x, y, w].length then 41 else 44) * 2 ^ (32 - 16 * 2) = tL (po, [x, y, w].map (fun c => ps_hc (sC σ c).2)) := by
        rw [if_pos (show 2 + 1 = [x, y, w].length from rfl)]
        have e6 : ps_hc (sC σ x).2 = nI a := by
          have : sC σ x = (0, [nI a]) := a3
          rw [this]
          rfl
        have e8 : ps_hc (sC σ y).2 = nI b := by
          have : sC σ y = (0, [nI b]) := b3
          rw [this]
          rfl
        have e10 : ps_hc (sC σ w).2 = nI g := by
          have : sC σ w = (0, [nI g]) := g3
          rw [this]
          rfl
        show _ = tL (po, [ps_hc (sC σ x).2, ps_hc (sC σ y).2, ps_hc (sC σ w).2])
        rw [e6, e8, e10]
        unfold tL
        rw [if_neg hz]
        simp only
        rw [eo, cn_nI o2, cn_nI a2, cn_nI b2, cn_nI g2, show ((((o * 256 + 40) * 256 + a) * 256 + 44) * 256 + b) * 2 ^ 24 + 44 * 2 ^ 16 = (((((o * 256 + 40) * 256 + a) * 256 + 44) * 256 + b) * 256 + 44) * 2 ^ 16 by omega, n_or (by omega), show (((((o * 256 + 40) * 256 + a) * 256 + 44) * 256 + b) * 256 + 44) * 2 ^ 16 + g * 2 ^ (40 - 16 * 2) = ((((((o * 256 + 40) * 256 + a) * 256 + 44) * 256 + b) * 256 + 44) * 256 + g) * 2 ^ 8 by omega, n_or (by decide)]
        omega
      rw [e9]
      exact stop _ ⟨rfl, q⟩

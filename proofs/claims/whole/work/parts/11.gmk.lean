/-! Object(), Math.min, Math.max, System.arraycopy of ints; then every method that gm_run runs meets its contract -/
section GMB
variable {p : Program} {l : Launch} {e : Env} {R : Room} {s : State} {m : MethodId} {args : Array Value} {below : List Frame} {meth : Method} {c : Code} {H : Heap} {locs : List Loc} {cells slots : Nat} {Q : State → Prop}
variable {cc : ByteArray} {pc : Nat} {arr : Array Slot} {rest : List Value} {D : va_G} {cl : List vw_C} {AC : FieldType → ClassId} {N0 : Nat} {M : gm_H} {sz : Nat} {own : String}
theorem gm_arraycopy (hexec : p.tables.exec = Jvm.exec) (hb : c.code = cc) (hml : c.maxLocals = arr.size) {ix : Nat} (hown : s.vm.findClass own = some m.cls) (hlink : (Cond.methodLink own ix arraycopyName).before args s = true) (hnat : (Cond.native arraycopyName).before args s = true) (hstat : (Cond.static arraycopyName).before args s = true) (hini : (Cond.initialized "java/lang/System").before args s = true)
    (hS : gm_S D cl AC N0 s M sz H locs) {a0 a n0 n1 : Nat} {f g : Nat → Int32} (ha0 : M a0 = some (.inl (.int, n0, .inl f))) (ha1 : M a = some (.inl (.int, n1, .inl g))) (hN : N0 ≤ a)
    {sp dp n : Int32} (h1 : ¬ sp < 0) (h2 : ¬ dp < 0) (h3 : ¬ n < 0) (h4 : sp.toNatClampNeg + n.toNatClampNeg ≤ n0) (h5 : dp.toNatClampNeg + n.toNatClampNeg ≤ n1)
    (hframes : 1 ≤ R.frames) (hlocals : (rest.map fun v => v.category).sum + (nativeFrameWords "java/lang/System" "arraycopy" 5 + 11) ≤ R.locals) (hdg : decode cc pc = .ok (.invokestatic ix, 3))
    (kk : ∀ H1 locs1, gm_S D cl AC N0 s (gm_set M a (.inl (.int, n1, .inl (va_cpy f g sp.toNatClampNeg dp.toNatClampNeg n.toNatClampNeg)))) sz H1 locs1 → W p l e R s m args below meth c H1 locs1 cells slots Q (F0 m (pc + 3) arr rest)) : W p l e R s m args below meth c H locs cells slots Q (F0 m pc arr (.int n :: .int dp :: .ref a :: .int sp :: .ref a0 :: rest)) := by
  have nn : ∀ z : Int32, ¬ z < 0 → z.toInt = (z.toNatClampNeg : Int) := by
    intro z hz
    have hz0 : (0 : Int) ≤ z.toInt := by
      have := Int32.not_lt.mp hz
      simpa using Int32.le_iff_toInt_le.mp this
    show z.toInt = ((z.toInt.toNat : Nat) : Int)
    omega
  obtain ⟨hc0, r0, -⟩ := gm_arr (hS.1 a0 _ ha0) (fun _ q => by cases q)
  obtain ⟨hc1, r1, r1'⟩ := gm_arr (hS.1 a _ ha1) (fun _ q => by cases q)
  intro T hT X
  obtain ⟨-, k0, hk0, cm0, hkk0⟩ := r0 n0 (fun j => .int (f j))
  obtain ⟨-, k1, hk1, cm1, hkk1⟩ := r1 n1 (fun j => .int (g j))
  obtain ⟨vm', X', step⟩ := X.arraycopy hexec hown hlink hnat hstat hini (src := a0) (dst := a) (cs := vp_cell (AC .int) (n0, .inl f)) (cd := vp_cell (AC .int) (n1, .inl g)) (srcPos := sp) (destPos := dp) (n := n) (by rw [hT]; exact hc0) (by rw [hT]; exact hc1)
    (fun _ h => by cases h) (fun _ h => by cases h) (fun h => by cases h) (fun h => by cases h) hk0 hk1 hkk0 hkk1 (by simp [refKind]) h1 h2 h3
    (by rw [nn sp h1, nn n h3]; show ¬ _ > ((arrV (AC .int) n0 (fun j => .int (f j))).slots.size : Int); rw [arrV_size]; omega)
    (by rw [nn dp h2, nn n h3]; show ¬ _ > ((arrV (AC .int) n1 (fun j => .int (g j))).slots.size : Int); rw [arrV_size]; omega)
    (fun vm₁ _ i hi => by
      have e : (vp_cell (AC .int) (n0, .inl f)).slots.getD (sp.toNatClampNeg + i) .null = .int (f (sp.toNatClampNeg + i)) := by
        show (arrV (AC .int) n0 (fun j => .int (f j))).slots.getD _ _ = _
        rw [Array.getD_eq_getD_getElem?, arrV_read _ _ (by omega)]
        rfl
      refine ⟨?_, ?_⟩
      · rw [e]; rfl
      · rw [e]
        exact trivial)
    (g := F0 m pc arr (.int n :: .int dp :: .ref a :: .int sp :: .ref a0 :: rest)) rfl (by rw [hml]) (rest := rest) rfl (by rw [hb]; exact hdg) hframes (by show 2 * 0 + _ + _ ≤ _; omega)
  have e1 : copied (vp_cell (AC .int) (n0, .inl f)) (vp_cell (AC .int) (n1, .inl g)) sp dp n = vp_cell (AC .int) (n1, .inl (va_cpy f g sp.toNatClampNeg dp.toNatClampNeg n.toNatClampNeg)) := va_copied (fun z => .int z) (AC .int) (AC .int) f g h4
  rw [e1] at X' step
  have hl : a < H.size := (Array.getElem?_eq_some_iff.mp hc1).1
  have hheap : ((T.setVm vm').setCell a (vp_cell (AC .int) (n1, .inl (va_cpy f g sp.toNatClampNeg dp.toNatClampNeg n.toNatClampNeg)))).heap = H.setIfInBounds a (vp_cell (AC .int) (n1, .inl (va_cpy f g sp.toNatClampNeg dp.toNatClampNeg n.toNatClampNeg))) := by rw [← hT]; rfl
  have oq : ∀ q : Nat, q ≠ a → (H.setIfInBounds a (vp_cell (AC .int) (n1, .inl (va_cpy f g sp.toNatClampNeg dp.toNatClampNeg n.toNatClampNeg))))[q]? = H[q]? := fun q hq => by simp [Array.getElem?_setIfInBounds, Ne.symm hq]
  obtain ⟨t, a1, b1⟩ := kk _ _ ⟨hS.1.set (Or.inr ⟨fun _ q => (by cases q), (show (H.setIfInBounds a _)[a]? = some _ by simp [Array.getElem?_setIfInBounds, hl]), r1, r1'⟩) oq, by simp; exact hS.2.1, by simp; exact hS.2.2.1, fun q g1 g2 => by
      rw [oq q (fun e => g2 (by rw [e]; exact hN))]
      exact hS.2.2.2.1 q g1 g2, fun q hq => by
      rcases List.mem_append.mp hq with h | h
      · exact hS.2.2.2.2 q h
      · obtain ⟨z, -, hz⟩ := List.mem_map.mp h
        rw [← hz]
        exact hN⟩ _ hheap X'
  exact ⟨t, step t a1, b1⟩
end GMB
theorem gm_take5 {st r : List Value} {a b c d e : Value} (h : [a, b, c, d, e] = (st.take 5).reverse) (hs : st = st.take 5 ++ r) : st = e :: d :: c :: b :: a :: r := by
  have h2 := congrArg List.reverse h
  rw [List.reverse_reverse] at h2
  rw [hs, ← h2]
  rfl
theorem gm_take2 {st r : List Value} {a b : Value} (h : [a, b] = (st.take 2).reverse) (hs : st = st.take 2 ++ r) : st = b :: a :: r := by
  have h2 := congrArg List.reverse h
  rw [List.reverse_reverse] at h2
  rw [hs, ← h2]
  rfl
theorem gm_run_lo {N0 : Nat} {K : Nat → Nat} {nm : Nat → Option String} {mt : Nat → Option gm_Mi} (hmt : ∀ mi, mi < 10 → mt mi = none) {d n mi : Nat} (hmi : mi < 10) {av : List Value} {M : gm_H} {sz : Nat} {r : gm_R} (h : gm_run N0 K nm mt d n mi av M sz = some r) : gm_bi mi av M sz = some r ∨ gm_copy N0 mi av M sz = some r ∨ gm_bx K mi av M sz = some r := by
  cases d with
  | zero => cases h
  | succ d =>
    simp only [gm_run, hmt mi hmi] at h
    split at h
    · rename_i r' hr
      cases h
      exact Or.inl hr
    · split at h
      · rename_i r' hr
        cases h
        exact Or.inr (Or.inl hr)
      · split at h
        · rename_i r' hr
          cases h
          exact Or.inr (Or.inr hr)
        · cases h
theorem gm_bi_hi {mi : Nat} (h : 4 ≤ mi) (av : List Value) (M : gm_H) (sz : Nat) : gm_bi mi av M sz = none := by
  unfold gm_bi
  split <;> first | (exfalso; omega) | rfl
theorem gm_copy_hi {N0 mi : Nat} (h : 4 ≤ mi) (av : List Value) (M : gm_H) (sz : Nat) : gm_copy N0 mi av M sz = none := by
  unfold gm_copy
  split
  · exfalso; omega
  · rfl
theorem gm_bx_ne {K : Nat → Nat} {mi : Nat} (h : mi ≠ 4) (av : List Value) (M : gm_H) (sz : Nat) : gm_bx K mi av M sz = none := by
  unfold gm_bx
  split
  · exfalso; omega
  · rfl
theorem gm_run_hi {N0 : Nat} {K : Nat → Nat} {nm : Nat → Option String} {mt : Nat → Option gm_Mi} {d n mi : Nat} (hmi : 10 ≤ mi) {av : List Value} {M : gm_H} {sz : Nat} {r : gm_R} (h : gm_run N0 K nm mt d n mi av M sz = some r) : ∃ row, mt mi = some row := by
  cases d with
  | zero => cases h
  | succ d =>
    simp only [gm_run, gm_bi_hi (show 4 ≤ mi by omega), gm_copy_hi (show 4 ≤ mi by omega), gm_bx_ne (show mi ≠ 4 by omega)] at h
    split at h
    · cases h
    · rename_i row
      exact ⟨_, row⟩
theorem gm_nw : nativeFrameWords "java/lang/System" "arraycopy" 5 ≤ 200 := by decide +kernel
theorem gm_rm8 {d : Nat} : (gm_room d 0 0).frames + 1 ≤ d + 1 + 4 := by show d + 4 + 1 ≤ _; omega
theorem gm_rm9 {d n : Nat} (h : n ≤ 80) : 8 + (n + 11) + (gm_room d 0 0).locals ≤ 100 * (d + 1) + 300 := by show 8 + (n + 11) + (100 * d + 300) ≤ _; omega
section GMZ
variable {l : Launch} {D : va_G} {cl : List vw_C} {AC : FieldType → ClassId} {N0 : Nat} {Tg Ns : List Cond} {As : List String} {Zs : List (String × String × String × Value)} {Ss : List (String × Nat × String × Nat)} {nm : Nat → Option String} {mt : Nat → Option gm_Mi} {K : Nat → Nat}
/-- what a method's end owes -/
theorem gm_fin {s t : State} {H : Heap} {locs : List Loc} {M : gm_H} {sz : Nat} {a : Array Value} {v : Option Value} (hS : gm_S D cl AC N0 s M sz H locs) (ht : t.heap = H) (hW : s.WarmedH t.vm) (hN0 : N0 ≤ s.heap.size) : gm_Qc D cl AC N0 v M sz a s (.returned v) t :=
  ⟨rfl, by rw [ht]; exact hS.1.moved hW.alike, by rw [ht]; exact hS.2.1, by rw [← hS.2.1]; exact hS.2.2.1, fun q hq => by rw [ht]; exact hS.2.2.2.1 q (Nat.lt_of_lt_of_le hq hN0) (Nat.not_le.mpr hq)⟩
set_option maxHeartbeats 4000000 in
/-- a call, by what gm_run says of it -/
theorem gm_call_any (hgw : ∀ w ∈ Tg, goodWord w = true) (hNs : ∀ w ∈ Ns, gm_nest w = true) (hgood : gm_good cl Tg Ns As Zs Ss mt) (hinit : ∀ mi own y cc nL ret I lk ini, mt mi = some (own, y, cc, nL, ret, I, lk, ini) → y.name = "<init>" → ret = none) (hmt4 : ∀ mi, mi < 10 → mt mi = none)
    {bIx : ByteArray} {nIx : Nat} (hIc : Cond.code gm_yix bIx nIx (some .int) ∈ Tg) (hIn : nIx ≤ 80) (hIs : ∀ a, a = K 1 ∨ a = K 2 → ∃ q ∈ Ss, q.2.2.2 = a)
    (hix : ∀ (d a : Nat) (z : Int32) (M : gm_H) (sz : Nat), a = K 1 ∨ a = K 2 → Met l gm_yix (Cond.code gm_yix bIx nIx (some .int) :: Tg) (gm_room d 0 0) (va_Pc [.ref a, .int z] (gm_Pre D cl AC N0 Ns As Zs Ss M sz)) (gm_Qc D cl AC N0 (some (.int (gm_ix z))) M sz) 0 0 (fun q => N0 ≤ q))
    {d n : Nat} (hsnd : ∀ (mi : Nat) (av : List Value) (M : gm_H) (sz : Nat) (v : Option Value) (M' : gm_H) (sz' dd : Nat) (own : String) (y : MethodName) (cc : ByteArray) (nL : Nat) (ret : Option FieldType) (I : Nat → Option Instr) (lk : Nat → Option gm_L) (ini : Bool),
      gm_run N0 K nm mt (d + 1) n mi av M sz = some (.returned v, M', sz', dd) → 10 ≤ mi → mt mi = some (own, y, cc, nL, ret, I, lk, ini) →
      Met l y (Cond.code y cc nL ret :: Tg) (gm_room d (sz' - sz) dd) (va_Pc av (gm_Pre D cl AC N0 Ns As Zs Ss M sz)) (gm_Qc D cl AC N0 v M' sz') (sz' - sz) dd (fun q => N0 ≤ q))
    {p : Program} {e : Env} {R : Room} {s : State} {m : MethodId} {args : Array Value} {below : List Frame} {meth : Method} {c : Code} {cc : ByteArray} {nL : Nat} {Ts : List Cond} {own : String} {Q : State → Prop} {lk : Nat → Option gm_L}
    (hx : p.tables.exec = Jvm.exec) (hb : c.code = cc) (hml : c.maxLocals = nL) (hts : ∀ w ∈ Ts, w.before args s = true) (hTs : ∀ w ∈ Tg, w ∈ Ts) (hown : s.vm.findClass own = some m.cls) (hK : gm_K D cl AC N0 Ns As Zs Ss s) (hN0 : N0 ≤ s.heap.size) (hcalls : gm_calls cl Tg Ns mt own lk) (hR1 : d + 1 + 4 ≤ R.frames) (hR2 : 100 * (d + 1) + 300 ≤ R.locals)
    {pc : Nat} {i : Instr} {arr : Array Slot} {st : List Value} {M1 : gm_H} {sz1 : Nat} {H : Heap} {locs : List Loc} {cells slots mi1 : Nat} {av1 r1 : List Value} {v1 : Option Value} {M2 : gm_H} {sz2 d1 : Nat}
    (hdg : gm_dec cc pc i) (harr : arr.size = nL) (hsite : gm_site lk i st M1 = some (mi1, av1, r1)) (hcl : gm_run N0 K nm mt (d + 1) n mi1 av1 M1 sz1 = some (.returned v1, M2, sz2, d1)) (hS : gm_S D cl AC N0 s M1 sz1 H locs) (hc1 : cells + (sz2 - sz1) ≤ R.cells) (hs1 : slots + d1 ≤ R.slots)
    (kk : ∀ H1 locs1, gm_S D cl AC N0 s M2 sz2 H1 locs1 → W p l e R s m args below meth c H1 locs1 (cells + (sz2 - sz1)) (slots + d1) Q (F0 m (pc + 3) arr (v1.toList ++ r1))) : W p l e R s m args below meth c H locs cells slots Q (F0 m pc arr st) := by
  obtain ⟨ix, na, rc, hlk1, hsum, hlen1, hkind⟩ := gm_site_spec hsite
  have hdg0 := hdg
  obtain ⟨len, hd, hle⟩ := hdg
  rcases hcalls ix mi1 na rc hlk1 with ⟨rfl, rfl, rfl, w1, w2, w3⟩ | ⟨rfl, rfl, rfl, w1, w2, w3, w4⟩ | ⟨rfl, rfl, rfl, w1, w2, w3, w4⟩ | ⟨rfl, rfl, rfl, w1, w2, w3, w4⟩ | ⟨rfl, rfl, rfl, w1, w2, w3, w4⟩ | ⟨h4, hw⟩
  · rcases hkind with ⟨-, q, -⟩ | ⟨rfl, -, a, hst, hav⟩ | ⟨-, q, -⟩ | ⟨-, ci, a, fs, q, -⟩
    · cases q
    · have hln : len = 3 := by simpa [gm_len] using hle
      subst hln
      rw [List.take_zero] at hst hav
      subst hav
      simp only [gm_run, gm_bi, List.reverse_nil, Option.some.injEq, Prod.mk.injEq, Outcome.returned.injEq] at hcl
      obtain ⟨rfl, rfl, rfl, rfl⟩ := hcl
      rw [List.nil_append] at hst
      subst hst
      have k2 := kk H locs hS
      rw [Nat.sub_self, Nat.add_zero, Nat.add_zero] at k2
      exact W.objInit hx hb hown (hts _ (hTs _ w1)) (hts _ (hTs _ w2)) (hts _ (hTs _ w3)) rfl (harr.trans hml.symm) rfl hd (by omega) (by show 2 * 0 + _ + 12 ≤ R.locals; omega) k2
    · cases q
    · omega
  · rcases hkind with ⟨rfl, -, hav, hst⟩ | ⟨-, q, -⟩ | ⟨-, q, -⟩ | ⟨-, ci, a, fs, q, -⟩
    · have hln : len = 3 := by simpa [gm_len] using hle
      subst hln
      rcases gm_run_lo hmt4 (by omega) hcl with hbi | hbi | hbi
      · unfold gm_bi at hbi
        split at hbi
        · rename_i hq; cases hq
        · rename_i x y0 hq
          simp only [Option.some.injEq, Prod.mk.injEq, Outcome.returned.injEq] at hbi
          obtain ⟨rfl, rfl, rfl, rfl⟩ := hbi
          have hst2 := gm_take2 hav hst
          subst hst2
          have k2 := kk H locs hS
          rw [Nat.sub_self, Nat.add_zero, Nat.add_zero] at k2
          exact va_mmin hx hb (hml.trans harr.symm) hown (hts _ (hTs _ w1)) (hts _ (hTs _ w2)) (hts _ (hTs _ w3)) (hts _ (hTs _ w4)) (by omega) (by omega) (by omega) (by omega) hd k2
        · rename_i hq; cases hq
        · cases hbi
      · unfold gm_copy at hbi
        split at hbi
        · rename_i hq; cases hq
        · cases hbi
      · rw [gm_bx_ne (by decide)] at hbi
        cases hbi
    · cases q
    · cases q
    · omega
  · rcases hkind with ⟨rfl, -, hav, hst⟩ | ⟨-, q, -⟩ | ⟨-, q, -⟩ | ⟨-, ci, a, fs, q, -⟩
    · have hln : len = 3 := by simpa [gm_len] using hle
      subst hln
      rcases gm_run_lo hmt4 (by omega) hcl with hbi | hbi | hbi
      · unfold gm_bi at hbi
        split at hbi
        · rename_i hq; cases hq
        · rename_i hq; cases hq
        · rename_i x y0 hq
          simp only [Option.some.injEq, Prod.mk.injEq, Outcome.returned.injEq] at hbi
          obtain ⟨rfl, rfl, rfl, rfl⟩ := hbi
          have hst2 := gm_take2 hav hst
          subst hst2
          have k2 := kk H locs hS
          rw [Nat.sub_self, Nat.add_zero, Nat.add_zero] at k2
          exact va_mmax hx hb (hml.trans harr.symm) hown (hts _ (hTs _ w1)) (hts _ (hTs _ w2)) (hts _ (hTs _ w3)) (hts _ (hTs _ w4)) (by omega) (by omega) (by omega) (by omega) hd k2
        · cases hbi
      · unfold gm_copy at hbi
        split at hbi
        · rename_i hq; cases hq
        · cases hbi
      · rw [gm_bx_ne (by decide)] at hbi
        cases hbi
    · cases q
    · cases q
    · omega
  · rcases hkind with ⟨rfl, -, hav, hst⟩ | ⟨-, q, -⟩ | ⟨-, q, -⟩ | ⟨-, ci, a, fs, q, -⟩
    · have hln : len = 3 := by simpa [gm_len] using hle
      subst hln
      rcases gm_run_lo hmt4 (by omega) hcl with hbi | hbi | hbi
      · unfold gm_bi at hbi
        split at hbi
        · rename_i hq; cases hq
        · rename_i hq; cases hq
        · rename_i hq; cases hq
        · cases hbi
      · unfold gm_copy at hbi
        split at hbi
        · rename_i a0 sp a dp n1 hq
          split at hbi
          · rename_i n0 f n2 g hm0 hm1
            split at hbi
            · rename_i hcnd
              obtain ⟨q1, q2, q3, q4, q5, q6⟩ := hcnd
              simp only [Option.some.injEq, Prod.mk.injEq, Outcome.returned.injEq] at hbi
              obtain ⟨rfl, rfl, rfl, rfl⟩ := hbi
              have hst2 := gm_take5 hav hst
              subst hst2
              have k2 := fun H1 locs1 h1 => kk H1 locs1 h1
              rw [Nat.sub_self, Nat.add_zero, Nat.add_zero] at k2
              exact gm_arraycopy hx hb (hml.trans harr.symm) hown (hts _ (hTs _ w1)) (hts _ (hTs _ w2)) (hts _ (hTs _ w3)) (hts _ (hTs _ w4)) hS hm0 hm1 q1 q2 q3 q4 q5 q6 (by omega) (by have hnw := gm_nw; omega) hd k2
            · cases hbi
          · cases hbi
        · cases hbi
      · rw [gm_bx_ne (by decide)] at hbi
        cases hbi
    · cases q
    · cases q
    · omega
  · rcases hkind with ⟨-, q, -⟩ | ⟨-, q, -⟩ | ⟨rfl, -, a, hst, hav⟩ | ⟨-, ci, a, fs, q, -⟩
    · cases q
    · cases q
    · have hln : len = 3 := by simpa [gm_len] using hle
      subst hln
      rcases gm_run_lo hmt4 (by omega) hcl with hbi | hbi | hbi
      · rw [gm_bi_hi (by omega)] at hbi
        cases hbi
      · rw [gm_copy_hi (by omega)] at hbi
        cases hbi
      · subst hav
        unfold gm_bx at hbi
        split at hbi
        · rename_i a1 c1 h41 hq
          split at hbi
          · rename_i hKa
            simp only [Option.some.injEq, Prod.mk.injEq, Outcome.returned.injEq] at hbi
            obtain ⟨rfl, rfl, rfl, rfl⟩ := hbi
            injection hq with hq1 hq2
            injection hq1 with hq1
            subst hq1
            obtain ⟨q9, hq9, hqa⟩ := hIs a hKa
            obtain ⟨cB, o1, o2, o3, -⟩ := (hK.2.2.2.2.2 q9 hq9).2.1.kept hS.2.2.2.1
            rw [hqa] at o1
            have hG : GoodIn Ts (Cond.code gm_yix bIx nIx (some .int) :: Tg) := fun w hw => by
              rcases List.mem_cons.mp hw with rfl | hw
              · exact ⟨hTs _ hIc, good_of_word (hgw _ hIc)⟩
              · exact ⟨hTs _ hw, good_of_word (hgw _ hw)⟩
            have hsk : (F0 m pc arr st).stack = ([.int c1] : List Value).reverse ++ .ref a :: r1 := by
              show st = _
              rw [hst, ← hq2, List.reverse_reverse]
            have k2 := fun H1 locs1 h1 => kk H1 locs1 h1
            rw [Nat.sub_self] at k2
            have hRm9 : (gm_room d 0 0).frames + 1 ≤ R.frames ∧ 8 + (nIx + 11) + (gm_room d 0 0).locals ≤ R.locals := ⟨Nat.le_trans gm_rm8 hR1, Nat.le_trans (gm_rm9 hIn) hR2⟩
            exact gm_ret (va_runV ⟨hx, hb, hml, hown, hts⟩ (hix d a c1 M1 sz1 hKa) ⟨callB_of 1 hts hG rfl rfl rfl (hts _ (hTs _ w4)) (hts _ (hTs _ w1)) ⟨by decide, by decide, by decide +kernel⟩ hRm9, hts _ (hTs _ w2), hts _ (hTs _ w3)⟩ ⟨gm_blind hNs, ⟨cB, o1, o2, o3⟩, fun U hU hW => ⟨rfl, gm_pre hNs hK hN0 hS hU hW⟩⟩ rfl rfl harr hsk (by show 2 * 0 + _ ≤ 8; omega) hd ⟨by omega, by omega⟩) hS k2
          · cases hbi
        · cases hbi
    · omega
  · obtain ⟨⟨own', y', cc', nL', ret', I', lk', ini'⟩, hrow⟩ := gm_run_hi h4 hcl
    have hg := hgood.2 mi1 own' y' cc' nL' ret' I' lk' ini' hrow
    have hk3 : (i = .invokestatic ix ∧ rc = 0 ∧ av1 = (st.take na).reverse ∧ st = st.take na ++ r1) ∨ (i = .invokespecial ix ∧ rc = 1 ∧ ∃ a, st = st.take na ++ .ref a :: r1 ∧ av1 = .ref a :: (st.take na).reverse) ∨ (i = .invokevirtual ix ∧ ∃ ci a fs, rc = ci + 3 ∧ M1 a = some (.inr (ci, fs)) ∧ st = st.take na ++ .ref a :: r1 ∧ av1 = .ref a :: (st.take na).reverse) := by
      rcases hkind with h | h | ⟨-, q, -⟩ | h
      · exact Or.inl h
      · exact Or.inr (Or.inl h)
      · exfalso
        rcases (hw own' y' cc' nL' ret' I' lk' ini' hrow).2 with ⟨z, -⟩ | ⟨z, -⟩ | ⟨-, ci, C, T, N, z, -⟩ <;> omega
      · exact Or.inr (Or.inr h)
    exact gm_call_our (d := d) hx hb hml hts hTs hgw hown hNs hK hN0 ⟨hR1, hR2⟩ hg.2.2.2.1 hg.2.2.1 (hsnd mi1 av1 M1 sz1 v1 M2 sz2 d1 own' y' cc' nL' ret' I' lk' ini' hcl h4 hrow) (hinit mi1 own' y' cc' nL' ret' I' lk' ini' hrow) (hw own' y' cc' nL' ret' I' lk' ini' hrow) hsum hlen1 hk3 hdg0 harr hS ⟨hc1, hs1⟩ kk
set_option maxHeartbeats 4000000 in
/-- THE MACHINE: what gm_run says of a method, the JVM does -/
theorem gm_sound (hgw : ∀ w ∈ Tg, goodWord w = true) (hNs : ∀ w ∈ Ns, gm_nest w = true) (hnm : ∀ ci C, nm ci = some C → ∃ T N, cl[ci]? = some (C, T, N)) (hgood : gm_good cl Tg Ns As Zs Ss mt) (hinit : ∀ mi own y cc nL ret I lk ini, mt mi = some (own, y, cc, nL, ret, I, lk, ini) → y.name = "<init>" → ret = none) (hmt4 : ∀ mi, mi < 10 → mt mi = none)
    {bIx : ByteArray} {nIx : Nat} (hIc : Cond.code gm_yix bIx nIx (some .int) ∈ Tg) (hIn : nIx ≤ 80) (hIs : ∀ a, a = K 1 ∨ a = K 2 → ∃ q ∈ Ss, q.2.2.2 = a)
    (hix : ∀ (d a : Nat) (z : Int32) (M : gm_H) (sz : Nat), a = K 1 ∨ a = K 2 → Met l gm_yix (Cond.code gm_yix bIx nIx (some .int) :: Tg) (gm_room d 0 0) (va_Pc [.ref a, .int z] (gm_Pre D cl AC N0 Ns As Zs Ss M sz)) (gm_Qc D cl AC N0 (some (.int (gm_ix z))) M sz) 0 0 (fun q => N0 ≤ q)) :
    ∀ (d n mi : Nat) (av : List Value) (M : gm_H) (sz : Nat) (v : Option Value) (M' : gm_H) (sz' dd : Nat) (own : String) (y : MethodName) (cc : ByteArray) (nL : Nat) (ret : Option FieldType) (I : Nat → Option Instr) (lk : Nat → Option gm_L) (ini : Bool),
      gm_run N0 K nm mt d n mi av M sz = some (.returned v, M', sz', dd) → 10 ≤ mi → mt mi = some (own, y, cc, nL, ret, I, lk, ini) →
      Met l y (Cond.code y cc nL ret :: Tg) (gm_room (d - 1) (sz' - sz) dd) (va_Pc av (gm_Pre D cl AC N0 Ns As Zs Ss M sz)) (gm_Qc D cl AC N0 v M' sz') (sz' - sz) dd (fun q => N0 ≤ q) := by
  intro d
  induction d with
  | zero => intro n mi av M sz v M' sz' dd own y cc nL ret I lk ini h; cases h
  | succ d ih =>
    intro n mi av M sz v M' sz' dd own y cc nL ret I lk ini h hmi hmt
    obtain ⟨hpl, hcls, hcode, hnl, hini, hI, hpool, hconsts, hcalls⟩ := hgood.2 mi own y cc nL ret I lk ini hmt
    simp only [gm_run, gm_bi_hi (show 4 ≤ mi by omega), gm_copy_hi (show 4 ≤ mi by omega), gm_bx_ne (show mi ≠ 4 by omega), hmt] at h
    split at h
    · rename_i hlen
      refine Met.ofW (cc := cc) (maxL := nL) (ret := ret) hpl rfl ?_
      intro p e s m args below meth c s₁ B hml hv
      obtain ⟨rfl, hok, hsz, hN0, hK⟩ := hv
      have hx := B.exec
      have hb := B.bytes
      have hr := B.returns
      have hts := atoms_spec (ws := Cond.code y cc nL ret :: Tg) B.pre
      have hown : s.vm.findClass own = some m.cls := by rw [← hcls]; exact findClass_of_methodNamed B.named
      have hlocks := B.notSynchronized
      have hTs : ∀ w ∈ Tg, w ∈ Cond.code y cc nL ret :: Tg := fun w hw => List.mem_cons_of_mem _ hw
      subst hsz
      rw [lg_entry_eq]
      have hmono := (gm_exec_mono (fun mi av M sz o M' sz' d h => gm_run_mono _ mi av M sz o M' sz' d h) _ _ _ _ _ _ _ _ _ _ _ h)
      have key := gm_exec_sim (l := l) (p := p) (e := e) (R := gm_room d (sz' - s.heap.size) dd) (s := s) (m := m) (args := av.toArray) (below := below) (meth := meth) (c := c) (cc := cc) (D := D) (cl := cl) (AC := AC) (N0 := N0) (nL := nL) (sz0 := s.heap.size) (Ts := Cond.code y cc nL ret :: Tg) (Ns := Ns) (own := own) (nm := nm) (init := ini)
        (Q := MQ below (gm_Qc D cl AC N0 v M' sz') av.toArray s (sz' - s.heap.size) dd (fun q => N0 ≤ q)) (I := I) (lk := lk) (ex := fun _ _ _ => none) (call := gm_run N0 K nm mt d n) (ret := ret) (o := .returned v) (Mf := M') (szf := sz') (slf := dd)
        hx hb hts hK.2.2.1 hown hK.1 hK.2.1 hnm (fun q => (name_of_methodNamed B.named B.method).1.trans (hini q)) hI (hpool.to hgood.1 hTs hK.2.2.2.1)
        (fun pc i arr st H locs cells slots w ix pc' hi hdg hvs hor kk => by
          obtain ⟨len, hd, hle⟩ := hdg
          obtain ⟨c1, c4, c2, c3⟩ := hconsts
          rcases hor with ⟨rfl, rfl, hl⟩ | ⟨rfl, rfl, hl⟩ | ⟨rfl, rfl, hl⟩ | ⟨rfl, rfl, hl⟩
          · have hln : len = 2 := by simpa [gm_len] using hle
            subst hln
            rcases c1 ix w hl with ⟨z, rfl, hw⟩ | ⟨tx, a, rfl, hw⟩
            · exact lv_ldc hx hb hown (hts _ (hTs _ hw)) hd kk
            · exact va_ldcS hx hb hown (hK.2.2.2.2.2 _ hw).1 hd kk
          · have hln : len = 3 := by simpa [gm_len] using hle
            subst hln
            obtain ⟨z, rfl, hw⟩ := c2 ix w hl
            exact lv_ldc2 hx hb hown (hts _ (hTs _ hw)) hd kk
          · have hln : len = 3 := by simpa [gm_len] using hle
            subst hln
            obtain ⟨C, n, dsc, hz, hw | ⟨host, hw⟩⟩ := c3 ix w hl
            · exact va_gets hx hb (hK.2.2.2.2.1 _ hz) hvs hown (hts _ (hTs _ hw)) (fun _ q => q) hd kk
            · exact va_getsN hx hb (hK.2.2.2.2.1 _ hz) hvs hown (va_Nw.use rfl (hK.2.2.1 _ hw)) (fun _ q => q) hd kk
          · have hln : len = 3 := by simpa [gm_len] using hle
            subst hln
            obtain ⟨z, rfl, hw⟩ := c4 ix w hl
            exact lv_ldcw hx hb hown (hts _ (hTs _ hw)) hd kk)
        (fun mi av M sz o M' sz' d h => gm_run_mono _ mi av M sz o M' sz' d h)
        (fun pc i arr st M1 sz1 H locs cells slots mi1 av1 r1 v1 M2 sz2 d1 hi hdg harr hsite hcl hS hc1 hs1 kk => by
          cases d with
          | zero => cases hcl
          | succ d =>
          exact gm_call_any hgw hNs hgood hinit hmt4 hIc hIn hIs hix (fun mi av M sz v M' sz' dd own y cc nL ret I lk ini h => ih n mi av M sz v M' sz' dd own y cc nL ret I lk ini h) hx hb hml hts hTs hown hK hN0 hcalls (Nat.le_refl _) (Nat.le_refl _) hdg harr hsite hcl hS hc1 hs1 kk)
        (fun pc i arr st M1 sz1 H locs cells slots mi1 av1 r1 a M2 sz2 d1 hi hdg harr hsite hcl hS hc1 hs1 k1 k2 => by
          have := (k2 rfl).1
          cases this)
        (fun pc i arr st M1 sz1 sl1 H locs hi hdg harr he hS => by
          obtain ⟨len, hd, hle⟩ := hdg
          unfold gm_end at he
          split at he
          · cases he
          split at he
          · have hln : len = 1 := by simpa [gm_len] using hle
            subst hln
            simp only [Option.some.injEq, Prod.mk.injEq, Outcome.returned.injEq] at he
            obtain ⟨rfl, rfl, rfl, rfl⟩ := he
            exact W.vret hx hb hr (fun t ht hW => gm_fin hS ht hW hN0) hS.2.2.2.2 hd
          · have hln : len = 1 := by simpa [gm_len] using hle
            subst hln
            simp only [Option.some.injEq, Prod.mk.injEq, Outcome.returned.injEq] at he
            obtain ⟨rfl, rfl, rfl, rfl⟩ := he
            exact W.iret hx hb hr (fun t ht hW => gm_fin hS ht hW hN0) hS.2.2.2.2 hd
          · rename_i x
            split at he
            · rename_i hx01
              have hln : len = 1 := by simpa [gm_len] using hle
              subst hln
              simp only [Option.some.injEq, Prod.mk.injEq, Outcome.returned.injEq] at he
              obtain ⟨rfl, rfl, rfl, rfl⟩ := he
              exact W.zret hx hb hr (by rcases hx01 with rfl | rfl <;> rfl) (fun t ht hW => gm_fin hS ht hW hN0) hS.2.2.2.2 hd
            · cases he
          · have hln : len = 1 := by simpa [gm_len] using hle
            subst hln
            simp only [Option.some.injEq, Prod.mk.injEq, Outcome.returned.injEq] at he
            obtain ⟨rfl, rfl, rfl, rfl⟩ := he
            exact W.lret hx hb hr (fun t ht hW => gm_fin hS ht hW hN0) hS.2.2.2.2 hd
          · have hln : len = 1 := by simpa [gm_len] using hle
            subst hln
            simp only [Option.some.injEq, Prod.mk.injEq, Outcome.returned.injEq] at he
            obtain ⟨rfl, rfl, rfl, rfl⟩ := he
            exact W.aret hx hb hr (Or.inl ⟨_, rfl⟩) (Or.inr ⟨_, rfl⟩) (fun t ht hW => gm_fin hS ht hW hN0) hS.2.2.2.2 hd
          · have hln : len = 1 := by simpa [gm_len] using hle
            subst hln
            simp only [Option.some.injEq, Prod.mk.injEq, Outcome.returned.injEq] at he
            obtain ⟨rfl, rfl, rfl, rfl⟩ := he
            exact W.aret hx hb hr (Or.inl ⟨_, rfl⟩) (Or.inl rfl) (fun t ht hW => gm_fin hS ht hW hN0) hS.2.2.2.2 hd
          · cases he)
        (Nat.le_refl _) (Nat.le_refl _) n 0 (gm_entry nL av) [] M s.heap.size 0 _ s.heap [] h (gm_entry_ok av hlen) ⟨hok, rfl, va_S.rf⟩ (Nat.le_refl _)
      rw [Nat.sub_self] at key
      exact key
    · cases h
end GMZ

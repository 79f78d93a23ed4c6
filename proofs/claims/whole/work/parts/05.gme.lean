/-! rows of the heap, writes and new cells -/
section GMR2
variable {p : Program} {l : Launch} {e : Env} {R : Room} {s : State} {m : MethodId} {args : Array Value} {below : List Frame} {meth : Method} {c : Code} {H : Heap} {locs : List Loc} {cells slots : Nat} {Q : State → Prop}
variable {cc : ByteArray} {pc : Nat} {arr : Array Slot} {rest : List Value} {D : va_G} {cl : List vw_C} {AC : FieldType → ClassId} {N0 : Nat} {M : gm_H} {sz : Nat} {Ts Ns : List Cond} {own : String}
theorem gm_S.set (hS : gm_S D cl AC N0 s M sz H locs) {a k : Nat} {x : gm_E} {H1 : Heap} (hN : N0 ≤ a) (hx : gm_at D cl AC N0 s a x H1) (z : H1.size = H.size) (oq : ∀ q : Nat, q ≠ a → H1[q]? = H[q]?) : gm_S D cl AC N0 s (gm_set M a x) sz H1 (locs ++ [⟨a, k⟩]) :=
  ⟨hS.1.set hx oq, by rw [z]; exact hS.2.1, hS.2.2.put z oq hN⟩
theorem gm_S.new (hS : gm_S D cl AC N0 s M sz H locs) {x : gm_E} {H1 : Heap} (hx : gm_at D cl AC N0 s H.size x H1) (z : H1.size = H.size + 1) (oq : ∀ q : Nat, q < H.size → H1[q]? = H[q]?) : gm_S D cl AC N0 s (gm_new M sz x) (sz + 1) H1 locs := by
  obtain ⟨h1, h2, h3⟩ := hS
  subst h2
  exact ⟨h1.new hx oq, z, Nat.le_trans h3.1 (by omega), fun q g1 g2 => (oq q (Nat.lt_of_lt_of_le g1 h3.1)).trans (h3.2.1 q g1 g2), h3.2.2⟩
theorem gm_iastore (hexec : p.tables.exec = Jvm.exec) (hb : c.code = cc) (hS : gm_S D cl AC N0 s M sz H locs) {a : Nat} {j x : Int32} {M' : gm_H} (hv : gm_asti N0 M a .int j x = some M') (hdg : decode cc pc = .ok (.iastore, 1))
    (kk : ∀ H1 locs1, gm_S D cl AC N0 s M' sz H1 locs1 → W p l e R s m args below meth c H1 locs1 cells slots Q (F0 m (pc + 1) arr rest)) : W p l e R s m args below meth c H locs cells slots Q (F0 m pc arr (.int x :: .int j :: .ref a :: rest)) := by
  unfold gm_asti at hv
  split at hv
  · rename_i t n f hM
    split at hv
    · rename_i hc
      obtain ⟨rfl, hN, hr⟩ := hc
      cases hv
      obtain ⟨h1, h2, h3⟩ := gm_arr (hS.1 a _ hM) (fun _ q => by cases q)
      refine W.iast hexec hb h1 (h2 n (fun j => .int (f j))) (fun q => by cases q) (by show ¬ (j < 0 ∨ (arrV _ _ _).slots.size ≤ _); rw [arrV_size]; exact hr) rfl rfl hdg fun H1 e1 z oq => kk H1 _ (hS.set hN (Or.inr ⟨fun _ q => (by cases q), ?_, h2, h3⟩) z oq)
      rw [e1, vp_cell_i, vp_cell_i, arrV_store]
      congr 2
      funext q
      by_cases hq : q = j.toNatClampNeg
      · subst hq
        simp [updV, upd, vp_nar, narrow]
      · simp [updV, upd, hq]
    · cases hv
  · cases hv
theorem gm_castore (hexec : p.tables.exec = Jvm.exec) (hb : c.code = cc) (hS : gm_S D cl AC N0 s M sz H locs) {a : Nat} {j x : Int32} {M' : gm_H} (hv : gm_asti N0 M a .char j x = some M') (hdg : decode cc pc = .ok (.castore, 1))
    (kk : ∀ H1 locs1, gm_S D cl AC N0 s M' sz H1 locs1 → W p l e R s m args below meth c H1 locs1 cells slots Q (F0 m (pc + 1) arr rest)) : W p l e R s m args below meth c H locs cells slots Q (F0 m pc arr (.int x :: .int j :: .ref a :: rest)) := by
  unfold gm_asti at hv
  split at hv
  · rename_i t n f hM
    split at hv
    · rename_i hc
      obtain ⟨rfl, hN, hr⟩ := hc
      cases hv
      obtain ⟨h1, h2, h3⟩ := gm_arr (hS.1 a _ hM) (fun _ q => by cases q)
      refine W.cast hexec hb h1 (h2 n (fun j => .int (f j))) (fun q => by cases q) (by show ¬ (j < 0 ∨ (arrV _ _ _).slots.size ≤ _); rw [arrV_size]; exact hr) rfl rfl hdg fun H1 e1 z oq => kk H1 _ (hS.set hN (Or.inr ⟨fun _ q => (by cases q), ?_, h2, h3⟩) z oq)
      rw [e1, vp_cell_i, vp_cell_i, arrV_store]
      congr 2
      funext q
      by_cases hq : q = j.toNatClampNeg
      · subst hq
        simp [updV, upd, vp_nar, narrow]
      · simp [updV, upd, hq]
    · cases hv
  · cases hv
theorem gm_zastore (hexec : p.tables.exec = Jvm.exec) (hb : c.code = cc) (hS : gm_S D cl AC N0 s M sz H locs) {a : Nat} {j x : Int32} {M' : gm_H} (hv : gm_asti N0 M a .boolean j x = some M') (hdg : decode cc pc = .ok (.bastore, 1))
    (kk : ∀ H1 locs1, gm_S D cl AC N0 s M' sz H1 locs1 → W p l e R s m args below meth c H1 locs1 cells slots Q (F0 m (pc + 1) arr rest)) : W p l e R s m args below meth c H locs cells slots Q (F0 m pc arr (.int x :: .int j :: .ref a :: rest)) := by
  unfold gm_asti at hv
  split at hv
  · rename_i t n f hM
    split at hv
    · rename_i hc
      obtain ⟨rfl, hN, hr⟩ := hc
      cases hv
      obtain ⟨h1, h2, h3⟩ := gm_arr (hS.1 a _ hM) (fun _ q => by cases q)
      refine W.zast hexec hb h1 (h2 n (fun j => .int (f j))) (fun q => by cases q) (by show ¬ (j < 0 ∨ (arrV _ _ _).slots.size ≤ _); rw [arrV_size]; exact hr) rfl rfl hdg fun H1 e1 z oq => kk H1 _ (hS.set hN (Or.inr ⟨fun _ q => (by cases q), ?_, h2, h3⟩) z oq)
      rw [e1, vp_cell_i, vp_cell_i, arrV_store]
      congr 2
      funext q
      by_cases hq : q = j.toNatClampNeg
      · subst hq
        simp [updV, upd, vp_nar, narrow]
      · simp [updV, upd, hq]
    · cases hv
  · cases hv
theorem gm_lastore (hexec : p.tables.exec = Jvm.exec) (hb : c.code = cc) (hS : gm_S D cl AC N0 s M sz H locs) {a : Nat} {j : Int32} {x : Int64} {M' : gm_H} (hv : gm_astl N0 M a j x = some M') (hdg : decode cc pc = .ok (.lastore, 1))
    (kk : ∀ H1 locs1, gm_S D cl AC N0 s M' sz H1 locs1 → W p l e R s m args below meth c H1 locs1 cells slots Q (F0 m (pc + 1) arr rest)) : W p l e R s m args below meth c H locs cells slots Q (F0 m pc arr (.long x :: .int j :: .ref a :: rest)) := by
  unfold gm_astl at hv
  split at hv
  · rename_i t n f hM
    split at hv
    · rename_i hc
      obtain ⟨rfl, hN, hr⟩ := hc
      cases hv
      obtain ⟨h1, h2, h3⟩ := gm_arr (hS.1 a _ hM) (fun _ q => by cases q)
      refine W.last hexec hb h1 (h2 n (fun j => .long (f j))) (fun q => by cases q) (by show ¬ (j < 0 ∨ (arrV _ _ _).slots.size ≤ _); rw [arrV_size]; exact hr) rfl rfl hdg fun H1 e1 z oq => kk H1 _ (hS.set hN (Or.inr ⟨fun _ q => (by cases q), ?_, h2, h3⟩) z oq)
      rw [e1, vp_cell_l, vp_cell_l, arrV_store]
      congr 2
      funext q
      by_cases hq : q = j.toNatClampNeg
      · subst hq
        simp [updV, vp_updL]
      · simp [updV, vp_updL, hq]
    · cases hv
  · cases hv
theorem gm_aastoreN (hexec : p.tables.exec = Jvm.exec) (hb : c.code = cc) (hS : gm_S D cl AC N0 s M sz H locs) {nm : Nat → Option String} {a : Nat} {j : Int32} {M' : gm_H} (hv : gm_astq N0 nm M a j none = some M') (hdg : decode cc pc = .ok (.aastore, 1))
    (kk : ∀ H1 locs1, gm_S D cl AC N0 s M' sz H1 locs1 → W p l e R s m args below meth c H1 locs1 cells slots Q (F0 m (pc + 1) arr rest)) : W p l e R s m args below meth c H locs cells slots Q (F0 m pc arr (.null :: .int j :: .ref a :: rest)) := by
  unfold gm_astq at hv
  split at hv
  · rename_i C n f hM
    split at hv
    · rename_i hc
      obtain ⟨hN, hr⟩ := hc
      cases hv
      have hne : ∀ t', ¬ FieldType.object C = .array t' := fun _ q => by cases q
      obtain ⟨h1, h2, h3⟩ := gm_arr (hS.1 a _ hM) hne
      refine va_WaastN (C := C) hexec hb h1 (h2 n (fun j => va_rf (f j))) (fun q => by cases q) (by show ¬ (j < 0 ∨ (arrV _ _ _).slots.size ≤ _); rw [arrV_size]; exact hr) rfl rfl hdg fun H1 e1 z oq => kk H1 _ (hS.set hN (Or.inr ⟨hne, ?_, h2, h3⟩) z oq)
      rw [e1, vp_cell_q, vp_cell_q, arrV_store]
      congr 2
      funext q
      by_cases hq : q = j.toNatClampNeg
      · subst hq
        simp [updV, va_up, va_rf]
      · simp [updV, va_up, hq]
    · cases hv
  · cases hv
theorem gm_aastore (hexec : p.tables.exec = Jvm.exec) (hb : c.code = cc) (hK : va_K D cl [] s) (hS : gm_S D cl AC N0 s M sz H locs) {nm : Nat → Option String} (hnm : ∀ ci C, nm ci = some C → ∃ T N, cl[ci]? = some (C, T, N)) {a b : Nat} {j : Int32} {M' : gm_H} (hv : gm_astq N0 nm M a j (some b) = some M') (hdg : decode cc pc = .ok (.aastore, 1))
    (kk : ∀ H1 locs1, gm_S D cl AC N0 s M' sz H1 locs1 → W p l e R s m args below meth c H1 locs1 cells slots Q (F0 m (pc + 1) arr rest)) : W p l e R s m args below meth c H locs cells slots Q (F0 m pc arr (.ref b :: .int j :: .ref a :: rest)) := by
  unfold gm_astq at hv
  split at hv
  · rename_i C n f hM
    split at hv
    · rename_i hc
      obtain ⟨hN, hr⟩ := hc
      dsimp only at hv
      split at hv
      · rename_i ci fs hMb
        split at hv
        · rename_i hci
          cases hv
          obtain ⟨T, N, hcl⟩ := hnm ci C hci
          have hne : ∀ t', ¬ FieldType.object C = .array t' := fun _ q => by cases q
          obtain ⟨h1, h2, h3⟩ := gm_arr (hS.1 a _ hM) hne
          have hlt : j.toNatClampNeg < n := Nat.not_le.mp fun q => hr (Or.inr q)
          have h0 : ¬ j < 0 := fun q => hr (Or.inl q)
          obtain ⟨r', hr', cellV, g1, g2, g3, -⟩ := hS.1 b _ hMb
          have hcls := (hK.1 ci _ hcl).2
          obtain ⟨kA, comp, k1, k2, k3, -⟩ := id h3
          have hcomp : comp = D.1 ci := Option.some.inj (k3.symm.trans hcls.1)
          subst hcomp
          obtain ⟨kC, hkC, -⟩ := hcls.2
          refine W.aast hexec hb h1 (fun q h => by cases h) (fun h => by cases h) k1 k2 rfl hkC ⟨h0, by show _ < (arrV _ _ _).slots.size; rw [arrV_size]; exact hlt⟩ g1 (fun q h => by rw [g3] at h; cases h) (by rw [g2]; exact hkC) (by rw [g2]; exact va_assign hcls) rfl rfl hdg fun H1 e1 z oq => kk H1 _ (hS.set hN (Or.inr ⟨hne, ?_, h2, h3⟩) z oq)
          rw [e1, vp_cell_q, vp_cell_q, arrV_store]
          congr 2
          funext q
          by_cases hq : q = j.toNatClampNeg
          · subst hq
            simp [updV, va_up, va_rf]
          · simp [updV, va_up, hq]
        · cases hv
      · cases hv
    · cases hv
  · cases hv
/-- array classes go by their names -/
def gm_AC (AC : FieldType → ClassId) (U : State) : Prop := ∀ ty cA, U.vm.findClass ("[" ++ ty.toString) = some cA → AC ty = cA
theorem gm_zero_cell {ty : FieldType} {n : Nat} {x : gm_E} (h : gm_zero ty n = some x) : (∀ t', ¬ ty = .array t') ∧ ∃ v : vp_A, x = .inl (ty, v) ∧ (∀ cA, vp_cell cA v = arrV cA n (fun _ => defaultValue ty)) ∧ componentBytes ty ≤ 8 ∧ ∀ (U : State) (cA : ClassId), U.vm.findClass ("[" ++ ty.toString) = some cA → va_RA U cA ty := by
  cases ty <;> simp only [gm_zero, Option.some.injEq, reduceCtorEq] at h
  all_goals (subst h; exact ⟨fun _ q => (by cases q), _, rfl, fun cA => rfl, (by decide), fun U cA h => h⟩)
theorem gm_newarray (hexec : p.tables.exec = Jvm.exec) (hb : c.code = cc) (hAC : gm_AC AC s) (hS : gm_S D cl AC N0 s M sz H locs) {at_ : ArrayType} (harr : (Cond.arrayClass (newarray.typeOf at_)).before args s = true) {n : Int32} {x : gm_E} (hx : gm_zero (newarray.typeOf at_) n.toNatClampNeg = some x) (hn : ¬ n < 0) (hle : n.toNatClampNeg ≤ 60000000) (hcells : cells + 1 ≤ R.cells) (hslots : slots + n.toNatClampNeg ≤ R.slots) (hdg : decode cc pc = .ok (.newarray at_, 2))
    (kk : ∀ H1, gm_S D cl AC N0 s (gm_new M sz x) (sz + 1) H1 locs → W p l e R s m args below meth c H1 locs (cells + 1) (slots + n.toNatClampNeg) Q (F0 m (pc + 2) arr (.ref sz :: rest))) : W p l e R s m args below meth c H locs cells slots Q (F0 m pc arr (.int n :: rest)) := by
  obtain ⟨hne, v, rfl, hv, hby, hra⟩ := gm_zero_cell hx
  refine va_newaK hexec hb harr rfl hdg rfl hn rfl (Nat.le_trans (Nat.mul_le_mul hle hby) (by decide)) hcells hslots hS.2.1 fun H1 cA e1 z1 o1 hAr hNm => ?_
  have hA : AC (newarray.typeOf at_) = cA := hAC _ _ hNm
  have hsz := hS.2.1
  subst hsz
  refine kk H1 (hS.new (Or.inr ⟨hne, ?_, ?_, ?_⟩) z1 o1)
  · rw [hA, hv]; exact e1
  · rw [hA]; exact hAr
  · rw [hA]; exact hra s cA hNm
theorem gm_anewarray (hexec : p.tables.exec = Jvm.exec) (hb : c.code = cc) (hts : ∀ w ∈ Ts, w.before args s = true) (hown : s.vm.findClass own = some m.cls) (hAC : gm_AC AC s) (hS : gm_S D cl AC N0 s M sz H locs) {ix : Nat} {C : String} (hcl : Cond.classLink own ix C ∈ Ts) (hao : va_AO C s) {n : Int32} (hn : ¬ n < 0) (hle : n.toNatClampNeg ≤ 60000000) (hcells : cells + 1 ≤ R.cells) (hslots : slots + n.toNatClampNeg ≤ R.slots) (hdg : decode cc pc = .ok (.anewarray ix, 3))
    (kk : ∀ H1, gm_S D cl AC N0 s (gm_new M sz (.inl (.object C, n.toNatClampNeg, .inr (.inr (.inr (.inr (fun _ => none))))))) (sz + 1) H1 locs → W p l e R s m args below meth c H1 locs (cells + 1) (slots + n.toNatClampNeg) Q (F0 m (pc + 3) arr (.ref sz :: rest))) : W p l e R s m args below meth c H locs cells slots Q (F0 m pc arr (.int n :: rest)) := by
  refine W.anew hexec hb hown (hts _ hcl) (va_AO.use hao) rfl hdg rfl hn (by omega) hcells hslots fun cA kA comp f1 f2 f3 f4 => ?_
  generalize hH1 : H.push ({ cls := cA, slots := Array.replicate n.toNatClampNeg .null, vm := .none } : Cell) = H1
  have z1 : H1.size = H.size + 1 := by rw [← hH1, Array.size_push]
  have e1 : H1[H.size]? = some (arrV cA n.toNatClampNeg (fun _ => .null)) := by rw [← hH1, Array.getElem?_push_size, ← arrV_new]
  have o1 : ∀ q : Nat, q < H.size → H1[q]? = H[q]? := fun q hq => by rw [← hH1, Array.getElem?_push, if_neg (Nat.ne_of_lt hq)]
  have hA : AC (.object C) = cA := hAC _ _ f1
  have hsz := hS.2.1
  subst hsz
  refine kk H1 (hS.new (Or.inr ⟨fun _ q => (by cases q), ?_, ?_, ?_⟩) z1 o1)
  · rw [hA]; exact e1
  · rw [hA]; exact fun N z => ⟨(fun k h => by cases h), kA, f2, comp, f3⟩
  · rw [hA]; exact ⟨kA, comp, f2, f3, f4, f1⟩
/-- a class to be made, by its place in the pool of own -/
def gm_nok (cl : List vw_C) (Ts : List Cond) (own : String) (ix ci : Nat) (fs : List Value) : Prop :=
  ∃ (C : String) (T : u_T) (N : Nat) (ty0 : Nat → FieldType), cl[ci]? = some (C, T, N) ∧ gm_cok Ts C T N ty0 ∧ Cond.classLink own ix C ∈ Ts ∧ Cond.instantiable C N ∈ Ts ∧ Cond.initialized C ∈ Ts ∧ fs.length = N ∧ ∀ j, j < N → defaultValue (ty0 j) = vp_V fs j
theorem gm_newobj (hexec : p.tables.exec = Jvm.exec) (hb : c.code = cc) (hts : ∀ w ∈ Ts, w.before args s = true) (hown : s.vm.findClass own = some m.cls) (hK : va_K D cl [] s) (hS : gm_S D cl AC N0 s M sz H locs) {ix ci : Nat} {fs : List Value} (hn : gm_nok cl Ts own ix ci fs) (hcells : cells + 1 ≤ R.cells) (hslots : slots + fs.length ≤ R.slots) (hdg : decode cc pc = .ok (.new ix, 3))
    (kk : ∀ H1, gm_S D cl AC N0 s (gm_new M sz (.inr (ci, fs))) (sz + 1) H1 locs → W p l e R s m args below meth c H1 locs (cells + 1) (slots + fs.length) Q (F0 m (pc + 3) arr (.ref sz :: rest))) : W p l e R s m args below meth c H locs cells slots Q (F0 m pc arr rest) := by
  obtain ⟨C, T, N, ty0, hc, ⟨h1, h2, h3⟩, h4, h5, h6, hl, hfs⟩ := hn
  have hKn := hK.1 ci _ hc
  have hsz := hS.2.1
  subst hsz
  rw [hl] at hslots kk
  refine W.newcK hexec hb hown (hts _ h4) (hts _ h5) (hts _ h6) rfl hdg hcells hslots hKn.2.1 rfl fun H1 kC hkC e1 z1 o1 => ?_
  exact kk H1 (hS.new ⟨_, hc, (u_born ty0 hts h1 hKn hkC e1 h2).to hfs⟩ z1 o1)
end GMR2

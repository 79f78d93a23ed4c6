/-! rows of the heap: what a method knows of the tables (Ts, Ns) and of the heap (gm_S), one instruction each -/
def gm_S (D : va_G) (cl : List vw_C) (AC : FieldType → ClassId) (N0 : Nat) (s : State) (M : gm_H) (sz : Nat) (H : Heap) (locs : List Loc) : Prop :=
  gm_ok D cl AC N0 s M H ∧ H.size = sz ∧ va_S (fun q => N0 ≤ q) s.heap H locs
/-- a class whose objects the heap may hold -/
def gm_cok (Ts : List Cond) (C : String) (T : u_T) (N : Nat) (ty0 : Nat → FieldType) : Prop :=
  (∀ w ∈ u_ws C T N, w ∈ Ts) ∧ (∀ k, k < N → parseFieldDescriptor (T k).2.2.1 = some (ty0 k)) ∧ ∀ a, a < N → ∀ b, b < N → a ≠ b → (T a).2.1 ≠ (T b).2.1
/-- a field's place in the pool of own -/
def gm_fok (cl : List vw_C) (Ts Ns : List Cond) (own : String) (ix ci k : Nat) (ty : FieldType) : Prop :=
  ∃ (C : String) (T : u_T) (N : Nat) (ty0 : Nat → FieldType), cl[ci]? = some (C, T, N) ∧ k < N ∧ gm_cok Ts C T N ty0 ∧ ty0 k = ty ∧
    (Cond.fieldLink own ix (T k).1 (T k).2.1 (T k).2.2.1 ∈ Ts ∨ ∃ host, Cond.fieldLinkNest own ix (T k).1 (T k).2.1 (T k).2.2.1 host ∈ Ns)
/-- .. one that is written there: not final, or in its own class's constructor -/
def gm_pok (cl : List vw_C) (Ts Ns : List Cond) (own : String) (init : Bool) (ix ci k : Nat) (ty : FieldType) : Prop :=
  ∃ (C : String) (T : u_T) (N : Nat) (ty0 : Nat → FieldType), cl[ci]? = some (C, T, N) ∧ k < N ∧ gm_cok Ts C T N ty0 ∧ ty0 k = ty ∧
    (((T k).2.2.2 = false ∧ (Cond.fieldLink own ix (T k).1 (T k).2.1 (T k).2.2.1 ∈ Ts ∨ ∃ host, Cond.fieldLinkNest own ix (T k).1 (T k).2.1 (T k).2.2.1 host ∈ Ns)) ∨
      ((T k).2.2.2 = true ∧ init = true ∧ (T k).1 = own ∧ Cond.fieldLink own ix (T k).1 (T k).2.1 (T k).2.2.1 ∈ Ts))
section GMR
variable {p : Program} {l : Launch} {e : Env} {R : Room} {s : State} {m : MethodId} {args : Array Value} {below : List Frame} {meth : Method} {c : Code} {H : Heap} {locs : List Loc} {cells slots : Nat} {Q : State → Prop}
variable {cc : ByteArray} {pc : Nat} {arr : Array Slot} {rest : List Value} {D : va_G} {cl : List vw_C} {AC : FieldType → ClassId} {N0 : Nat} {M : gm_H} {sz : Nat} {Ts Ns : List Cond} {own : String}
theorem gm_one {a : Nat} {ci : Nat} {fs : List Value} (h : gm_at D cl AC N0 s a (.inr (ci, fs)) H) : va_P D cl [(a, .inr (ci, fs))] H := by
  intro k q hq
  match k, hq with
  | 0, hq => cases hq; exact h
  | k + 1, hq => simp at hq
theorem gm_getfield (hexec : p.tables.exec = Jvm.exec) (hb : c.code = cc) (hts : ∀ w ∈ Ts, w.before args s = true) (hns : ∀ w ∈ Ns, va_Nw w s) (hown : s.vm.findClass own = some m.cls) (hK : va_K D cl [] s) (hok : gm_ok D cl AC N0 s M H)
    {ix ci k a : Nat} {ty : FieldType} {v : Value} (hf : gm_fok cl Ts Ns own ix ci k ty) (hv : gm_fld M a ci k = some v) (hdg : decode cc pc = .ok (.getfield ix, 3))
    (kk : W p l e R s m args below meth c H locs cells slots Q (F0 m (pc + 3) arr (v :: rest))) : W p l e R s m args below meth c H locs cells slots Q (F0 m pc arr (.ref a :: rest)) := by
  obtain ⟨C, T, N, ty0, hc, hk, ⟨h1, h2, h3⟩, h4, h5⟩ := hf
  unfold gm_fld at hv
  split at hv
  · rename_i c0 fs hM
    split at hv
    · rename_i hcc
      subst hcc
      have hP := gm_one (hok a _ hM)
      rcases h5 with h5 | ⟨host, h5⟩
      · exact va_get (ws := [(a, .inr (c0, fs))]) hexec hb hts h1 hown hK hP 0 rfl hc k hk (hts _ h5) (fun _ z => z) hv hdg kk
      · exact va_getN (ws := [(a, .inr (c0, fs))]) hexec hb hts h1 hown hK hP 0 rfl hc k hk (va_Nw.use rfl (hns _ h5)) (fun _ z => z) hv hdg kk
    · cases hv
  · cases hv
theorem gm_putfield (hexec : p.tables.exec = Jvm.exec) (hb : c.code = cc) (hts : ∀ w ∈ Ts, w.before args s = true) (hns : ∀ w ∈ Ns, va_Nw w s) (hown : s.vm.findClass own = some m.cls) (hK : va_K D cl [] s) (hS : gm_S D cl AC N0 s M sz H locs)
    {init : Bool} (hin : init = true → meth.name = "<init>") {ix ci k a : Nat} {ty : FieldType} {v : Value} {M' : gm_H} (hf : gm_pok cl Ts Ns own init ix ci k ty) (hv : gm_put N0 M a ci k ty v = some M') (hdg : decode cc pc = .ok (.putfield ix, 3))
    (kk : ∀ H1 locs1, gm_S D cl AC N0 s M' sz H1 locs1 → W p l e R s m args below meth c H1 locs1 cells slots Q (F0 m (pc + 3) arr rest)) : W p l e R s m args below meth c H locs cells slots Q (F0 m pc arr (v :: .ref a :: rest)) := by
  obtain ⟨C, T, N, ty0, hc, hk, ⟨h1, h2, h3⟩, h4, h5⟩ := hf
  obtain ⟨hok, hsz, hva⟩ := hS
  unfold gm_put at hv
  split at hv
  · rename_i c0 fs hM
    split at hv
    · rename_i hcond
      obtain ⟨hcc, hl, hN0, hfit⟩ := hcond
      subst hcc
      cases hv
      have hnf : narrow ty v = v ∧ fits ty v = true := by simpa [gm_fit] using hfit
      obtain ⟨hn, hfi⟩ := hnf
      have hd : parseFieldDescriptor (T k).2.2.1 = some ty := by rw [h2 k hk, h4]
      have hap := va_apart (own := own) hts h1 ty0 h2 h3 hK hc
      obtain ⟨r, g1, cell, q1, q2, q3, q4⟩ := hok a _ hM
      have hr : r = (C, T, N) := Option.some.inj (g1.symm.trans hc)
      subst hr
      obtain ⟨hSl, hfc, kC, hkC, hkind⟩ := hK.1 c0 _ hc
      obtain ⟨cf, kf, fi, f, hi, hsl⟩ := hSl k hk
      have hst := (u_facts hfc hkC (u_lays hts h1 hk) hi).1
      have hlay := hts _ (h1 _ (u_in_lay hk))
      have fin : ∀ H' : Heap, H'[a]? = some (cell.setSlot f.slot v) → H'.size = H.size → (∀ q, q ≠ a → H'[q]? = H[q]?) → gm_S D cl AC N0 s (gm_set M a (.inr (c0, fs.set k v))) sz H' (locs ++ [⟨a, f.slot⟩]) := by
        intro H' e1 e2 e3
        rw [hsl] at e1
        refine ⟨hok.set ⟨_, hc, t_OB.to (V := updV (vp_V fs) k v) ⟨_, e1, q2, q3, t_set q4 hap hk v⟩ (fun j _ => vp_updV_set hl v j)⟩ e3, by rw [e2]; exact hsz, hva.put e2 e3 hN0⟩
      rcases h5 with ⟨hfin, h5⟩ | ⟨hfin, hini, hdecl, h5⟩
      · unfold u_lay at hlay
        rw [if_neg (by rw [hfin]; decide)] at hlay
        have h6 := u_store hfc hkC hkind hlay hi hd hn hfi
        rcases h5 with h5 | ⟨host, h5⟩
        · exact W.putK hexec hb (f := f) ⟨hown, hts _ h5, ⟨_, _, _, hi⟩, hst⟩ (by rw [q2]; exact h6) q1 q3 (by rw [hsl]; exact k2_hasslot (q4 k hk)) rfl rfl hdg fun H' e1 e2 e3 => kk H' _ (fin H' e1 e2 e3)
        · exact va_WputK hexec hb (f := f) hown (va_Nw.use rfl (hns _ h5)) hi hst (by rw [q2]; exact h6) q1 q3 (by rw [hsl]; exact k2_hasslot (q4 k hk)) rfl rfl hdg fun H' e1 e2 e3 => kk H' _ (fin H' e1 e2 e3)
      · unfold u_lay at hlay
        rw [if_pos hfin] at hlay
        have hcf : m.cls = cf := by
          obtain ⟨_, _, c', _, _, _, -, -, hf', -, -, -, hown2, -⟩ := Cond.laysFinal_spec hlay
          have e1 : c' = cf := by have := hi.symm.trans hf'; simp at this; exact this.1.symm
          rw [hdecl] at hown2
          rw [← e1]; exact Option.some.inj (hown.symm.trans hown2)
        have h6 := u_fits hfc hkC hkind (Or.inr hlay) hi hd hn hfi
        exact W.putFinK hexec hb hown (hts _ h5) hi hst hcf (hin hini) (by rw [q2]; exact h6) q1 q3 (by rw [hsl]; exact k2_hasslot (q4 k hk)) rfl rfl hdg fun H' e1 e2 e3 => kk H' _ (fin H' e1 e2 e3)
    · cases hv
  · cases hv
theorem gm_arr {a : Nat} {t : FieldType} {v : vp_A} (h : gm_at D cl AC N0 s a (.inl (t, v)) H) (hne : ∀ t', ¬ t = .array t') : H[a]? = some (vp_cell (AC t) v) ∧ ArrOfT s (AC t) t ∧ va_RA s (AC t) t := by
  rcases h with ⟨t', h, -⟩ | ⟨-, h⟩
  · exact absurd h (hne t')
  · exact h
theorem gm_iaload (hexec : p.tables.exec = Jvm.exec) (hb : c.code = cc) (hok : gm_ok D cl AC N0 s M H) {a : Nat} {j x : Int32} (hv : gm_ai M a .int j = some x) (hdg : decode cc pc = .ok (.iaload, 1))
    (kk : W p l e R s m args below meth c H locs cells slots Q (F0 m (pc + 1) arr (.int x :: rest))) : W p l e R s m args below meth c H locs cells slots Q (F0 m pc arr (.int j :: .ref a :: rest)) := by
  unfold gm_ai at hv
  split at hv
  · rename_i t n f hM
    split at hv
    · rename_i hc
      obtain ⟨rfl, hr⟩ := hc
      cases hv
      obtain ⟨h1, h2, -⟩ := gm_arr (hok a _ hM) (fun _ q => by cases q)
      have hlt : j.toNatClampNeg < n := Nat.not_le.mp fun q => hr (Or.inr q)
      exact W.iald (v := .int (f j.toNatClampNeg)) hexec hb h1 (h2 n (fun j => .int (f j))) (fun q => by cases q) (by show ¬ (j < 0 ∨ (arrV _ _ _).slots.size ≤ _); rw [arrV_size]; exact hr) (by show (arrV _ _ _).slots[_]? = _; rw [arrV_read _ _ hlt]) rfl rfl hdg kk
    · cases hv
  · cases hv
theorem gm_ialoadS (hexec : p.tables.exec = Jvm.exec) (hb : c.code = cc) (hok : gm_ok D cl AC N0 s M H) {a : Nat} {j x : Int32} (hv : gm_ai M a gm_scr j = some x) (hdg : decode cc pc = .ok (.iaload, 1))
    (kk : W p l e R s m args below meth c H locs cells slots Q (F0 m (pc + 1) arr (.int x :: rest))) : W p l e R s m args below meth c H locs cells slots Q (F0 m pc arr (.int j :: .ref a :: rest)) := by
  unfold gm_ai at hv
  split at hv
  · rename_i t n f hM
    split at hv
    · rename_i hc
      obtain ⟨rfl, hr⟩ := hc
      cases hv
      rcases hok a _ hM with ⟨t', ht', -, f', hf', scr, h1, h2, h3, h4, h5, h6, -⟩ | ⟨h, -⟩
      · cases hf'
        cases ht'
        have hlt : j.toNatClampNeg < n := Nat.not_le.mp fun q => hr (Or.inr q)
        exact W.iald (v := .int (f j.toNatClampNeg)) hexec hb h1 h2 h3 (fun q => q.elim (fun z => hr (Or.inl z)) (fun z => by omega)) (h6 _ hlt) rfl rfl hdg kk
      · exact absurd rfl (h .int)
    · cases hv
  · cases hv
theorem gm_caload (hexec : p.tables.exec = Jvm.exec) (hb : c.code = cc) (hok : gm_ok D cl AC N0 s M H) {a : Nat} {j x : Int32} (hv : gm_ai M a .char j = some x) (hdg : decode cc pc = .ok (.caload, 1))
    (kk : W p l e R s m args below meth c H locs cells slots Q (F0 m (pc + 1) arr (.int x :: rest))) : W p l e R s m args below meth c H locs cells slots Q (F0 m pc arr (.int j :: .ref a :: rest)) := by
  unfold gm_ai at hv
  split at hv
  · rename_i t n f hM
    split at hv
    · rename_i hc
      obtain ⟨rfl, hr⟩ := hc
      cases hv
      obtain ⟨h1, h2, -⟩ := gm_arr (hok a _ hM) (fun _ q => by cases q)
      have hlt : j.toNatClampNeg < n := Nat.not_le.mp fun q => hr (Or.inr q)
      exact W.cald (v := .int (f j.toNatClampNeg)) hexec hb h1 (h2 n (fun j => .int (f j))) (fun q => by cases q) (by show ¬ (j < 0 ∨ (arrV _ _ _).slots.size ≤ _); rw [arrV_size]; exact hr) (by show (arrV _ _ _).slots[_]? = _; rw [arrV_read _ _ hlt]) rfl rfl hdg kk
    · cases hv
  · cases hv
theorem gm_zaload (hexec : p.tables.exec = Jvm.exec) (hb : c.code = cc) (hok : gm_ok D cl AC N0 s M H) {a : Nat} {j x : Int32} (hv : gm_ai M a .boolean j = some x) (hdg : decode cc pc = .ok (.baload, 1))
    (kk : W p l e R s m args below meth c H locs cells slots Q (F0 m (pc + 1) arr (.int x :: rest))) : W p l e R s m args below meth c H locs cells slots Q (F0 m pc arr (.int j :: .ref a :: rest)) := by
  unfold gm_ai at hv
  split at hv
  · rename_i t n f hM
    split at hv
    · rename_i hc
      obtain ⟨rfl, hr⟩ := hc
      cases hv
      obtain ⟨h1, h2, -⟩ := gm_arr (hok a _ hM) (fun _ q => by cases q)
      have hlt : j.toNatClampNeg < n := Nat.not_le.mp fun q => hr (Or.inr q)
      exact W.zald (v := .int (f j.toNatClampNeg)) hexec hb h1 (h2 n (fun j => .int (f j))) (fun q => by cases q) (by show ¬ (j < 0 ∨ (arrV _ _ _).slots.size ≤ _); rw [arrV_size]; exact hr) (by show (arrV _ _ _).slots[_]? = _; rw [arrV_read _ _ hlt]) rfl rfl hdg kk
    · cases hv
  · cases hv
theorem gm_baload (hexec : p.tables.exec = Jvm.exec) (hb : c.code = cc) (hok : gm_ok D cl AC N0 s M H) {a : Nat} {j x : Int32} (hv : gm_ai M a .byte j = some x) (hdg : decode cc pc = .ok (.baload, 1))
    (kk : W p l e R s m args below meth c H locs cells slots Q (F0 m (pc + 1) arr (.int x :: rest))) : W p l e R s m args below meth c H locs cells slots Q (F0 m pc arr (.int j :: .ref a :: rest)) := by
  unfold gm_ai at hv
  split at hv
  · rename_i t n f hM
    split at hv
    · rename_i hc
      obtain ⟨rfl, hr⟩ := hc
      cases hv
      obtain ⟨h1, h2, -⟩ := gm_arr (hok a _ hM) (fun _ q => by cases q)
      have hlt : j.toNatClampNeg < n := Nat.not_le.mp fun q => hr (Or.inr q)
      exact W.bald (v := .int (f j.toNatClampNeg)) hexec hb h1 (h2 n (fun j => .int (f j))) (fun q => by cases q) (by show ¬ (j < 0 ∨ (arrV _ _ _).slots.size ≤ _); rw [arrV_size]; exact hr) (by show (arrV _ _ _).slots[_]? = _; rw [arrV_read _ _ hlt]) rfl rfl hdg kk
    · cases hv
  · cases hv
theorem gm_laload (hexec : p.tables.exec = Jvm.exec) (hb : c.code = cc) (hok : gm_ok D cl AC N0 s M H) {a : Nat} {j : Int32} {x : Int64} (hv : gm_al64 M a j = some x) (hdg : decode cc pc = .ok (.laload, 1))
    (kk : W p l e R s m args below meth c H locs cells slots Q (F0 m (pc + 1) arr (.long x :: rest))) : W p l e R s m args below meth c H locs cells slots Q (F0 m pc arr (.int j :: .ref a :: rest)) := by
  unfold gm_al64 at hv
  split at hv
  · rename_i t n f hM
    split at hv
    · rename_i hc
      obtain ⟨rfl, hr⟩ := hc
      cases hv
      obtain ⟨h1, h2, -⟩ := gm_arr (hok a _ hM) (fun _ q => by cases q)
      have hlt : j.toNatClampNeg < n := Nat.not_le.mp fun q => hr (Or.inr q)
      exact W.lald (v := .long (f j.toNatClampNeg)) hexec hb h1 (h2 n (fun j => .long (f j))) (fun q => by cases q) (by show ¬ (j < 0 ∨ (arrV _ _ _).slots.size ≤ _); rw [arrV_size]; exact hr) (by show (arrV _ _ _).slots[_]? = _; rw [arrV_read _ _ hlt]) rfl rfl hdg kk
    · cases hv
  · cases hv
theorem gm_aaload (hexec : p.tables.exec = Jvm.exec) (hb : c.code = cc) (hok : gm_ok D cl AC N0 s M H) {a : Nat} {j : Int32} {x : Option Nat} (hv : gm_aq M a j = some x) (hdg : decode cc pc = .ok (.aaload, 1))
    (kk : W p l e R s m args below meth c H locs cells slots Q (F0 m (pc + 1) arr (va_rf x :: rest))) : W p l e R s m args below meth c H locs cells slots Q (F0 m pc arr (.int j :: .ref a :: rest)) := by
  unfold gm_aq at hv
  split at hv
  · rename_i t n f hM
    split at hv
    · cases hv
    · rename_i hr
      cases hv
      obtain ⟨h1, h2, -⟩ := gm_arr (hok a _ hM) (fun _ q => by cases q)
      have hlt : j.toNatClampNeg < n := Nat.not_le.mp fun q => hr (Or.inr q)
      exact W.aald (v := va_rf (f j.toNatClampNeg)) (ty := .object t) hexec hb h1 (h2 n (fun j => va_rf (f j))) rfl (fun q => by cases q) (by show ¬ (j < 0 ∨ (arrV _ _ _).slots.size ≤ _); rw [arrV_size]; exact hr) (by show (arrV _ _ _).slots[_]? = _; rw [arrV_read _ _ hlt]) rfl rfl hdg kk
  · cases hv
theorem gm_alength (hexec : p.tables.exec = Jvm.exec) (hb : c.code = cc) (hok : gm_ok D cl AC N0 s M H) {a n : Nat} (hv : gm_alen M a = some n) (hdg : decode cc pc = .ok (.arraylength, 1))
    (kk : W p l e R s m args below meth c H locs cells slots Q (F0 m (pc + 1) arr (.int (Int32.ofNat n) :: rest))) : W p l e R s m args below meth c H locs cells slots Q (F0 m pc arr (.ref a :: rest)) := by
  unfold gm_alen at hv
  split at hv
  · rename_i t n0 f hM
    cases hv
    rcases hok a _ hM with ⟨t', -, -, f', hf', scr, h1, h2, h3, h4, h5, h6⟩ | ⟨h0, h1, h2, -⟩
    · exact W.alen (n := Int32.ofNat n) hexec hb h1 h2 h5 rfl rfl hdg kk
    · exact W.alen (n := Int32.ofNat n) hexec hb h1 (h2 n (fun j => .int (f j))) (by rw [vp_cell_i, arrV_size] <;> rfl) rfl rfl hdg kk
  · cases hv
end GMR

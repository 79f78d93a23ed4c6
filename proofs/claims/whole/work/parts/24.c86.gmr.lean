/-! the law's body, by what gm_exec says of it -/
section GMLS
variable {l : Launch} {D : va_G} {cl : List vw_C} {AC : FieldType → ClassId} {N0 : Nat} {Tg Ns : List Cond} {As : List String} {Zs : List (String × String × String × Value)} {Ss : List (String × Nat × String × Nat)} {nm : Nat → Option String} {mt : Nat → Option gm_Mi} {K : Nat → Nat} {bIx : ByteArray} {nIx : Nat} {Xs : List Cond} {Cs : List (String × String)}
set_option maxHeartbeats 4000000 in
theorem gm_law_sim (E : gm_env l D cl AC N0 Tg Ns As Zs Ss nm mt K bIx nIx) {wt : gm_Wt} {d cx : Nat} (hd9 : d ≤ 800)
    {p : Program} {e : Env} {s : State} {m : MethodId} {below : List Frame} {meth : Method} {c : Code} {b : Nat} {I : Nat → Option Instr} {lk : Nat → Option gm_L}
    (hI : ∀ pc i, I pc = some i → gm_dec code pc i) (hpool : gm_pool cl Tg Ns As R_law false lk) (hconsts : gm_consts Tg Ns Zs Ss R_law lk) (hcalls : gm_calls cl Tg Ns mt R_law lk)
    (hwr : ∀ ix mi na rc w, lk ix = some (.inr (.inr (.inr (.inl (mi, na, rc))))) → wt mi = some w → rc = 0 ∧ ∃ y bytes maxL hh, maxL ≤ 80 ∧ Cond.codeWith y bytes maxL (some .int) hh ∈ Tg ∧ Cond.initialized y.cls ∈ Tg ∧ y.cls ≠ "java/lang/invoke/MethodHandle" ∧ y.cls ≠ "java/lang/invoke/VarHandle" ∧ (parseMethodDescriptor y.desc).map (fun d => d.parameters.length) = some na ∧ Cond.methodLink R_law ix y ∈ Tg ∧ Cond.static y ∈ Tg ∧
      ∀ n av M sz v M' sz' dd, gm_lawC N0 K nm mt d cx wt n mi av M sz = some (.returned v, M', sz', dd) → vx_Met l y (Cond.codeWith y bytes maxL (some .int) hh :: Tg) (gm_room (d + 1) (sz' - sz) dd) (va_Pc av (gm_PreT D cl AC N0 Ns As Zs Ss Xs Cs M sz)) (gm_Qc D cl AC N0 v M' sz') (fun _ _ _ => False) (sz' - sz) dd (fun q => N0 ≤ q))
    (hx : p.tables.exec = Jvm.exec) (hb : c.code = code) (hr : meth.sig.returnType = ret) (hml : c.maxLocals = 7) (hown : s.vm.findClass R_law = some m.cls) {Ts : List Cond} (hts : ∀ w ∈ Ts, w.before #[Value.ref b] s = true) (hTs : ∀ w ∈ Tg, w ∈ Ts) (hlocks : meth.locks = false) (hK : gm_K D cl AC N0 Ns As Zs Ss s) (hTz : gm_Tz N0 Xs Cs s) (hN0 : N0 = s.heap.size)
    {M : gm_H} (hok : gm_ok D cl AC N0 s M s.heap) {n k : Nat} {M' : gm_H} {sz' dd : Nat}
    (h : gm_exec N0 nm (some .boolean) I lk (fun _ _ _ => none) (gm_only (gm_lawC N0 K nm mt d cx wt n)) k 0 (gm_entry 7 [.ref b]) [] M N0 0 = some (.returned (some (.int 1)), M', sz', dd)) (hc : sz' - N0 ≤ 601024) (hs : dd ≤ 7293034) :
    W p l e room_1 s m #[Value.ref b] below meth c s.heap [] 0 0 (lw_Z below #[Value.ref b] s) (entryFrame m ([Value.ref b] : List Value).toArray 7) := by
  obtain ⟨hgw, hNs, hnm, hgood, hinit, hmt4, hIc, hIn, hIs, hix⟩ := id E
  subst hN0
  rw [lg_entry_eq]
  have key := gm_exec_sim (l := l) (p := p) (e := e) (R := room_1) (s := s) (m := m) (args := #[Value.ref b]) (below := below) (meth := meth) (c := c) (cc := code) (D := D) (cl := cl) (AC := AC) (N0 := s.heap.size) (nL := 7) (sz0 := s.heap.size) (Ts := Ts) (Ns := Ns) (own := R_law) (nm := nm) (init := false)
    (Q := lw_Z below #[Value.ref b] s) (I := I) (lk := lk) (ex := fun _ _ _ => none) (call := gm_only (gm_lawC s.heap.size K nm mt d cx wt n)) (ret := some .boolean) (o := .returned (some (.int 1))) (Mf := M') (szf := sz') (slf := dd)
    hx hb hts hK.2.2.1 hown hK.1 hK.2.1 hnm (fun q => by cases q) hI (hpool.to hgood.1 hTs hK.2.2.2.1)
    (fun pc i arr st H locs cells slots w ix pc' hi hdg hvs hor kk => gm_consts_sim hx hb hts hTs hown hK hconsts pc i arr st H locs cells slots w ix pc' hdg hvs hor kk)
    (fun mi av M sz o M' sz' d h => gm_lawC_mono mi av M sz o M' sz' d (gm_only_le h))
    (fun pc i arr st M1 sz1 H locs cells slots mi1 av1 r1 v1 M2 sz2 d1 hi hdg harr hsite hcl hS hc1 hs1 kk => by
      have hcl := gm_only_le hcl
      cases hw : wt mi1 with
      | none =>
        have hcl2 : gm_run s.heap.size K nm mt (d + 1) n mi1 av1 M1 sz1 = some (.returned v1, M2, sz2, d1) := by
          unfold gm_lawC at hcl
          simp only [hw] at hcl
          exact hcl
        exact gm_call_any (d := d) hgw hNs hgood hinit hmt4 hIc hIn hIs hix (fun mi av M sz v M' sz' dd own y cc nL ret I lk ini h h10 hm => E.met (d := d + 1) h h10 hm) hx hb hml hts hTs hown hK (Nat.le_refl _) hcalls (by show d + 1 + 4 ≤ 2048; omega) (by show 100 * (d + 1) + 300 ≤ 84000; omega) hdg harr hsite hcl2 hS hc1 hs1 kk
      | some w =>
        obtain ⟨ix, na, rc, hlk1, hsum, hlen1, hkind⟩ := gm_site_spec hsite
        obtain ⟨rfl, y, bytes, maxL, hh, q1, q2, q3, q4, q5, q6, q7, q8, q9⟩ := hwr ix mi1 na rc w hlk1 hw
        rcases hkind with ⟨rfl, -, hav, hst⟩ | ⟨-, q, -⟩ | ⟨-, q, -⟩ | ⟨-, ci, a, fs, q, -⟩
        · obtain ⟨len, hd, hle⟩ := hdg
          have hln : len = 3 := by simpa [gm_len] using hle
          subst hln
          exact gm_call_wr (d := d + 1) hgw hNs hx hb hml hts hTs hown hK hTz (Nat.le_refl _) (by show d + 1 + 1 + 4 ≤ 2048; omega) (by show 100 * (d + 1 + 1) + 300 ≤ 84000; omega) q1 q2 (q9 n av1 M1 sz1 v1 M2 sz2 d1 hcl) q3 q4 q5 q6 q7 q8 (by rw [hav, List.reverse_reverse]; exact hst) (by rw [hav, List.length_reverse]; exact hlen1) hsum hd harr hS ⟨hc1, hs1⟩ kk
        · cases q
        · cases q
        · omega)
    (fun pc i arr st M1 sz1 H locs cells slots mi1 av1 r1 a M2 sz2 d1 hi hdg harr hsite hcl hS hc1 hs1 k1 k2 => by
      unfold gm_only at hcl
      split at hcl
      · cases hcl
      · cases hcl)
    (fun pc i arr st M1 sz1 sl1 H locs hi hdg harr he hS => by
      obtain ⟨len, hd, hle⟩ := hdg
      unfold gm_end at he
      split at he
      · cases he
      split at he
      · rename_i h1 h2 h3; first | (cases h1; done) | (cases h2; done) | (cases h3; done)
      · rename_i h1 h2 h3; first | (cases h1; done) | (cases h2; done) | (cases h3; done)
      · have hln : len = 1 := by simpa [gm_len] using hle
        subst hln
        split at he
        · simp only [Option.some.injEq, Prod.mk.injEq, Outcome.returned.injEq, Value.int.injEq] at he
          obtain ⟨rfl, rfl, rfl, rfl⟩ := he
          exact va_forget hS.2.2.2.2 (W.widen hc hs (lw_ret hx hb hr hlocks hd))
        · cases he
      · rename_i h1 h2 h3; first | (cases h1; done) | (cases h2; done) | (cases h3; done)
      · rename_i h1 h2 h3; first | (cases h1; done) | (cases h2; done) | (cases h3; done)
      · rename_i h1 h2 h3; first | (cases h1; done) | (cases h2; done) | (cases h3; done)
      · cases he)
    hc hs k 0 (gm_entry 7 [.ref b]) [] M s.heap.size 0 _ s.heap [] h (gm_entry_ok [.ref b] (Nat.le_of_ble_eq_true rfl)) ⟨hok, rfl, va_S.rf⟩ (Nat.le_refl _)
  rw [Nat.sub_self] at key
  exact key
end GMLS

/-! calls -/
theorem gm_site_spec {lk : Nat → Option gm_L} {i : Instr} {st : List Value} {M : gm_H} {mi : Nat} {av r : List Value} (h : gm_site lk i st M = some (mi, av, r)) :
    ∃ ix na rc, lk ix = some (.inr (.inr (.inr (.inl (mi, na, rc))))) ∧ (r.map fun v => v.category).sum ≤ 8 ∧ (st.take na).length = na ∧
      ((i = .invokestatic ix ∧ rc = 0 ∧ av = (st.take na).reverse ∧ st = st.take na ++ r) ∨
       (i = .invokespecial ix ∧ rc = 1 ∧ ∃ a, st = st.take na ++ .ref a :: r ∧ av = .ref a :: (st.take na).reverse) ∨
       (i = .invokevirtual ix ∧ rc = 2 ∧ ∃ a, st = st.take na ++ .ref a :: r ∧ av = .ref a :: (st.take na).reverse) ∨
       (i = .invokevirtual ix ∧ ∃ ci a fs, rc = ci + 3 ∧ M a = some (.inr (ci, fs)) ∧ st = st.take na ++ .ref a :: r ∧ av = .ref a :: (st.take na).reverse)) := by
  have key : ∀ (na : Nat) (x : Value) (q : List Value), st.drop na = x :: q → (st.take na).length = na ∧ st = st.take na ++ x :: q := by
    intro na x q hq
    refine ⟨?_, ?_⟩
    · rw [List.length_take]
      have : na < st.length := by
        rcases Nat.lt_or_ge na st.length with z | z
        · exact z
        · rw [List.drop_eq_nil_of_le z] at hq; cases hq
      omega
    · rw [← hq, List.take_append_drop]
  unfold gm_site at h
  split at h
  · rename_i ix
    split at h
    · rename_i mi' na hl
      split at h
      · rename_i hc
        simp only [Option.some.injEq, Prod.mk.injEq] at h
        obtain ⟨rfl, rfl, rfl⟩ := h
        exact ⟨ix, na, 0, hl, hc.2, by rw [List.length_take]; omega, Or.inl ⟨rfl, rfl, rfl, (List.take_append_drop na st).symm⟩⟩
      · cases h
    · cases h
  · rename_i ix
    split at h
    · rename_i mi' na hl
      split at h
      · rename_i a q hq
        split at h
        · rename_i hc
          simp only [Option.some.injEq, Prod.mk.injEq] at h
          obtain ⟨rfl, rfl, rfl⟩ := h
          obtain ⟨k1, k2⟩ := key na _ _ hq
          exact ⟨ix, na, 1, hl, hc, k1, Or.inr (Or.inl ⟨rfl, rfl, a, k2, rfl⟩)⟩
        · cases h
      · cases h
    · cases h
  · rename_i ix
    split at h
    · rename_i mi' na hl
      split at h
      · rename_i a q hq
        split at h
        · rename_i hc
          simp only [Option.some.injEq, Prod.mk.injEq] at h
          obtain ⟨rfl, rfl, rfl⟩ := h
          obtain ⟨k1, k2⟩ := key na _ _ hq
          exact ⟨ix, na, 2, hl, hc, k1, Or.inr (Or.inr (Or.inl ⟨rfl, rfl, a, k2, rfl⟩))⟩
        · cases h
      · cases h
    · rename_i mi' na ci hl
      split at h
      · rename_i a q hq
        split at h
        · rename_i c0 fs hM
          split at h
          · rename_i hc
            obtain ⟨rfl, hc⟩ := hc
            simp only [Option.some.injEq, Prod.mk.injEq] at h
            obtain ⟨rfl, rfl, rfl⟩ := h
            obtain ⟨k1, k2⟩ := key na _ _ hq
            exact ⟨ix, na, c0 + 3, hl, hc, k1, Or.inr (Or.inr (Or.inr ⟨rfl, c0, a, fs, rfl, hM, k2, rfl⟩))⟩
          · cases h
        · cases h
      · cases h
    · cases h
  · cases h
section GMCS
variable {p : Program} {l : Launch} {e : Env} {R : Room} {s : State} {m : MethodId} {args : Array Value} {below : List Frame} {meth : Method} {c : Code} {H : Heap} {locs : List Loc} {cells slots : Nat} {Q : State → Prop}
variable {cc : ByteArray} {pc nL : Nat} {arr : Array Slot} {st r av : List Value} {D : va_G} {cl : List vw_C} {AC : FieldType → ClassId} {N0 : Nat} {M M' : gm_H} {sz sz' : Nat} {v : Option Value} {Ts Tg Ns : List Cond} {As : List String} {Zs : List (String × String × String × Value)} {Ss : List (String × Nat × String × Nat)} {own : String}
/-- a call of a method of ours, by its contract -/
theorem gm_call_our (hexec : p.tables.exec = Jvm.exec) (hb : c.code = cc) (hml : c.maxLocals = nL) (hts : ∀ w ∈ Ts, w.before args s = true) (hTs : ∀ w ∈ Tg, w ∈ Ts) (hgw : ∀ w ∈ Tg, goodWord w = true) (hown : s.vm.findClass own = some m.cls) (hNs : ∀ w ∈ Ns, gm_nest w = true) (hK : gm_K D cl AC N0 Ns As Zs Ss s) (hN0 : N0 ≤ s.heap.size)
    {y : MethodName} {bytes : ByteArray} {maxL : Nat} {ret : Option FieldType} {d dd ix na rc : Nat} {i : Instr} (hR : d + 1 + 4 ≤ R.frames ∧ 100 * (d + 1) + 300 ≤ R.locals) (hmax : maxL ≤ 80) (hcode : Cond.code y bytes maxL ret ∈ Tg)
    (hM : Met l y (Cond.code y bytes maxL ret :: Tg) (gm_room d (sz' - sz) dd) (va_Pc av (gm_Pre D cl AC N0 Ns As Zs Ss M sz)) (gm_Qc D cl AC N0 v M' sz') (sz' - sz) dd (fun q => N0 ≤ q))
    (hret : y.name = "<init>" → ret = none)
    (hcw : gm_cw cl Tg Ns own ix na rc y) (hsum : (r.map fun v => v.category).sum ≤ 8) (hlen : (st.take na).length = na)
    (hsite : (i = .invokestatic ix ∧ rc = 0 ∧ av = (st.take na).reverse ∧ st = st.take na ++ r) ∨
       (i = .invokespecial ix ∧ rc = 1 ∧ ∃ a, st = st.take na ++ .ref a :: r ∧ av = .ref a :: (st.take na).reverse) ∨
       (i = .invokevirtual ix ∧ ∃ ci a fs, rc = ci + 3 ∧ M a = some (.inr (ci, fs)) ∧ st = st.take na ++ .ref a :: r ∧ av = .ref a :: (st.take na).reverse))
    (hdg : gm_dec cc pc i) (harr : arr.size = nL) (hS : gm_S D cl AC N0 s M sz H locs) (hf : cells + (sz' - sz) ≤ R.cells ∧ slots + dd ≤ R.slots)
    (kk : ∀ H1 locs1, gm_S D cl AC N0 s M' sz' H1 locs1 → W p l e R s m args below meth c H1 locs1 (cells + (sz' - sz)) (slots + dd) Q (F0 m (pc + 3) arr (v.toList ++ r))) : W p l e R s m args below meth c H locs cells slots Q (F0 m pc arr st) := by
  obtain ⟨⟨hini, hy1, hy2, hpar, hlk⟩, hkind⟩ := hcw
  have hG : GoodIn Ts (Cond.code y bytes maxL ret :: Tg) := fun w hw => by
    rcases List.mem_cons.mp hw with rfl | hw
    · exact ⟨hTs _ hcode, good_of_word (hgw _ hcode)⟩
    · exact ⟨hTs _ hw, good_of_word (hgw _ hw)⟩
  have hRm : (gm_room d (sz' - sz) dd).frames + 1 ≤ R.frames ∧ 8 + (maxL + 11) + (gm_room d (sz' - sz) dd).locals ≤ R.locals := by
    refine ⟨?_, ?_⟩
    · refine Nat.le_trans ?_ hR.1; show d + 4 + 1 ≤ _; omega
    · refine Nat.le_trans ?_ hR.2; show 8 + (maxL + 11) + (100 * d + 300) ≤ _; omega
  have hFx : CallFix p m c cc nL s args Ts own := ⟨hexec, hb, hml, hown, hts⟩
  have hPre : ∀ U : State, U.heap = H → s.WarmedH U.vm → va_Pc av (gm_Pre D cl AC N0 Ns As Zs Ss M sz) av.toArray U := fun U hU hW => ⟨rfl, gm_pre hNs hK hN0 hS hU hW⟩
  have hroom : 2 * (F0 m pc arr st).monitorRoom + (r.map fun v => v.category).sum ≤ 8 := by
    show 2 * 0 + _ ≤ 8
    omega
  have hlen2 : (st.take na).reverse.length = na := by rw [List.length_reverse]; exact hlen
  obtain ⟨len, hd, hle⟩ := hdg
  rcases hsite with ⟨rfl, rfl, hav, hstk⟩ | ⟨rfl, rfl, a, hstk, hav⟩ | ⟨rfl, ci', a, fs, rfl, hMa, hstk, hav⟩
  · have hln : len = 3 := by simpa [gm_len] using hle
    subst hln
    rcases hkind with ⟨-, hst⟩ | ⟨hi, -⟩ | ⟨-, ci, C, T, N, hi, -⟩
    · subst hav
      have hsk : (F0 m pc arr st).stack = (st.take na).reverse.reverse ++ r := by rw [List.reverse_reverse]; exact hstk
      rcases hlk with hlk | ⟨host, hlk⟩
      · exact gm_ret (va_runS hFx hM ⟨callB_of na hts hG rfl rfl rfl (hts _ (hTs _ hini)) (hts _ (hTs _ hlk)) ⟨hy1, hy2, hpar⟩ hRm, hts _ (hTs _ hst)⟩ ⟨gm_blind hNs, hPre⟩ rfl hlen2 harr hsk hroom hd hf) hS kk
      · exact gm_ret (va_runSN hFx hM ⟨va_cnB na hts hG rfl rfl rfl (hK.2.2.1 _ hlk) (hts _ (hTs _ hini)) ⟨hy1, hy2, hpar⟩ hRm, hts _ (hTs _ hst), trivial⟩ ⟨gm_blind hNs, hPre⟩ rfl hlen2 harr hsk hroom hd hf) hS kk
    · cases hi
    · omega
  · have hln : len = 3 := by simpa [gm_len] using hle
    subst hln
    rcases hkind with ⟨hi, -⟩ | ⟨-, hnm, hin⟩ | ⟨-, ci, C, T, N, hi, -⟩
    · cases hi
    · subst hav
      have hrn := hret hnm
      subst hrn
      have hsk : (F0 m pc arr st).stack = (st.take na).reverse.reverse ++ .ref a :: r := by rw [List.reverse_reverse]; exact hstk
      rcases hlk with hlk | ⟨host, hlk⟩
      · exact gm_ret (va_runI hFx hM ⟨callB_of na hts hG rfl rfl rfl (hts _ (hTs _ hini)) (hts _ (hTs _ hlk)) ⟨hy1, hy2, hpar⟩ hRm, hnm, hts _ (hTs _ hin)⟩ ⟨gm_blind hNs, hPre⟩ rfl hlen2 harr hsk hroom hd hf) hS kk
      · exact gm_ret (va_runIN hFx hM ⟨va_cnB na hts hG rfl rfl rfl (hK.2.2.1 _ hlk) (hts _ (hTs _ hini)) ⟨hy1, hy2, hpar⟩ hRm, hnm, hts _ (hTs _ hin)⟩ ⟨gm_blind hNs, hPre⟩ rfl hlen2 harr hsk hroom hd hf) hS kk
    · omega
  · have hln : len = 3 := by simpa [gm_len] using hle
    subst hln
    rcases hkind with ⟨hi, -⟩ | ⟨hi, -⟩ | ⟨hin, ci, C, T, N, hi, hcl, hsel⟩
    · omega
    · omega
    · subst hav
      have hci : ci' = ci := by omega
      subst hci
      have hsk : (F0 m pc arr st).stack = (st.take na).reverse.reverse ++ .ref a :: r := by rw [List.reverse_reverse]; exact hstk
      have hrv := va_recv (q0 := 0) hK.1 (gm_one (hS.1 a _ hMa)) hcl rfl
      rcases hlk with hlk | ⟨host, hlk⟩
      · exact gm_ret (va_runV hFx hM ⟨callB_of na hts hG rfl rfl rfl (hts _ (hTs _ hini)) (hts _ (hTs _ hlk)) ⟨hy1, hy2, hpar⟩ hRm, hts _ (hTs _ hin), hts _ (hTs _ hsel)⟩ ⟨gm_blind hNs, hrv, hPre⟩ rfl hlen2 harr hsk hroom hd hf) hS kk
      · exact gm_ret (va_runVN hFx hM ⟨va_cnB na hts hG rfl rfl rfl (hK.2.2.1 _ hlk) (hts _ (hTs _ hini)) ⟨hy1, hy2, hpar⟩ hRm, hts _ (hTs _ hin), hts _ (hTs _ hsel)⟩ ⟨gm_blind hNs, hrv, hPre⟩ rfl hlen2 harr hsk hroom hd hf) hS kk
end GMCS

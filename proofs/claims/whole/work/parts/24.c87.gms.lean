/-! a method that catches meets what gm_lawB says -/
section GMLB
variable {l : Launch} {D : va_G} {cl : List vw_C} {AC : FieldType → ClassId} {N0 : Nat} {Tg Ns : List Cond} {As : List String} {Zs : List (String × String × String × Value)} {Ss : List (String × Nat × String × Nat)} {nm : Nat → Option String} {mt : Nat → Option gm_Mi} {K : Nat → Nat} {bIx : ByteArray} {nIx : Nat} {Xs : List Cond} {Cs : List (String × String)}
set_option maxHeartbeats 4000000 in
theorem gm_lawB_met (E : gm_env l D cl AC N0 Tg Ns As Zs Ss nm mt K bIx nIx) (hlt : l.stackTraces = false) {y : MethodName} {cc : ByteArray} {nL : Nat} {hh : List (Nat × Nat × Nat × Nat)} {own : String} {lk : Nat → Option gm_L} {I : Nat → Option Instr} (hpl : plainName y.cls = true) (hcls : y.cls = own) (hI : ∀ pc i, I pc = some i → gm_dec cc pc i) (hpool : gm_pool cl Tg Ns As own false lk) (hconsts : gm_consts Tg Ns Zs Ss own lk) (hcalls : gm_calls cl Tg Ns mt own lk)
    {d cx n mi1 : Nat} {code : Nat → Option Int32} {x : Nat} {is : List Value} {out : Nat} {M : gm_H} {sz : Nat} {v : Option Value} {M' : gm_H} {sz' dd : Nat} (hd2 : 2 ≤ d) (h10 : 10 ≤ mi1)
    (hlen : (gm_sl (.ref x :: is ++ [.ref out])).length ≤ nL) {k0 pc0 n1 n2 ix na : Nat} {ls0 : gm_Ls} (hpn : gm_pn I k0 0 (gm_entry nL (.ref x :: is ++ [.ref out])) [] = some (pc0, ls0, is.reverse ++ .ref x :: [.int 0, .ref out])) (hi0 : I pc0 = some (.invokevirtual ix))
    (hlk0 : lk ix = some (.inr (.inr (.inr (.inl (mi1, na, cx + 3)))))) (hna : is.length = na)
    (hret : ∀ w M1 sz1 d1 f, M1 out = some (.inl (.long, 1, .inr (.inl f))) → N0 ≤ out → gm_exec N0 nm (some .int) I lk (fun _ _ _ => none) (fun _ _ _ _ => none) n1 (pc0 + 3) ls0 [.int w, .int 0, .ref out] M1 sz1 d1 = some (.returned (some (.int 0)), gm_set M1 out (.inl (.long, 1, .inr (.inl (vp_updL f 0 w.toInt64)))), sz1, d1))
    {own1 : String} {y1 : MethodName} {cc1 : ByteArray} {nL1 : Nat} {ret1 : Option FieldType} {I1 : Nat → Option Instr} {lk1 : Nat → Option gm_L} {ini1 : Bool} (hmt : mt mi1 = some (own1, y1, cc1, nL1, ret1, I1, lk1, ini1)) (hth : gm_thw Tg Xs own1 cc1 I1 lk1)
    (hini : Cond.initialized y1.cls ∈ Tg) (hy1 : y1.cls ≠ "java/lang/invoke/MethodHandle") (hy2 : y1.cls ≠ "java/lang/invoke/VarHandle") (hpar : (parseMethodDescriptor y1.desc).map (fun d => d.parameters.length) = some na) (hlk : Cond.methodLink own ix y1 ∈ Tg) (hin : Cond.instanceMethod y1 ∈ Tg) {C : String} {T : u_T} {N : Nat} (hcl : cl[cx]? = some (C, T, N)) (hsel : Cond.selects C y1 y1 ∈ Tg)
    (hexc : ∀ e k, code e = some k → ∃ En pre x9 suf, gm_xs[e]? = some En ∧ tableOf hh = pre ++ x9 :: suf ∧ (∀ z ∈ pre, z.catchType ≠ 0 ∧ ∃ nm : String, Cond.classLink own z.catchType nm ∈ Tg ∧ (En, nm) ∈ Cs) ∧ covers x9 pc0 = true ∧ x9.catchType ≠ 0 ∧ Cond.classLink own x9.catchType En ∈ Tg ∧ Cond.castable En En ∈ Xs ∧
      ∀ q M1 sz1 d1, gm_exec N0 nm (some .int) I lk (fun _ _ _ => none) (fun _ _ _ _ => none) n2 x9.handlerPc ls0 [.ref q] M1 sz1 d1 = some (.returned (some (.int k)), M1, sz1, d1))
    (h : gm_lawB N0 K nm mt d cx n mi1 code x is out M sz = some (.returned v, M', sz', dd)) :
    vx_Met l y (Cond.codeWith y cc nL (some .int) hh :: Tg) (gm_room (d + 1) (sz' - sz) dd) (va_Pc (.ref x :: is ++ [.ref out]) (gm_PreT D cl AC N0 Ns As Zs Ss Xs Cs M sz)) (gm_Qc D cl AC N0 v M' sz') (fun _ _ _ => False) (sz' - sz) dd (fun q => N0 ≤ q) := by
  unfold gm_lawB at h
  rw [hmt] at h
  cases hMx : M x with
  | none => simp only [hMx] at h; cases h
  | some ent =>
    rw [hMx] at h
    cases ent with
    | inl a => cases h
    | inr o =>
      obtain ⟨c0, fs⟩ := o
      dsimp only at h
      split at h
      · rename_i hc
        obtain ⟨⟨hl1, hNo⟩, rfl⟩ := hc
        split at h
        · rename_i w M1 sz1 d1 hx
          split at h
          · rename_i f hMo
            simp only [Option.some.injEq, Prod.mk.injEq, Outcome.returned.injEq] at h
            obtain ⟨rfl, rfl, rfl, rfl⟩ := h
            have hrun : gm_run N0 K nm mt (d + 1) n mi1 (.ref x :: is) M sz = some (.returned (some (.int w)), M1, sz1, d1) := by
              simp only [gm_run, gm_bi_hi (show 4 ≤ mi1 by omega), gm_copy_hi (show 4 ≤ mi1 by omega), gm_bx_ne (show mi1 ≠ 4 by omega), hmt, if_pos hl1]
              exact gm_exec_up (fun mi av M sz R h => gm_only_le h) _ _ _ _ _ _ _ _ _ (Nat.le_refl n) hx
            have hsite : gm_site lk (.invokevirtual ix) (is.reverse ++ .ref x :: [.int 0, .ref out]) M = some (mi1, .ref x :: is, [.int 0, .ref out]) := by
              have hr2 : (([.int 0, .ref out] : List Value).map fun v => v.category).sum ≤ 8 := Nat.le_of_ble_eq_true rfl
              simp only [gm_site, hlk0]
              rw [← hna, ← List.length_reverse, List.drop_left, List.take_left, List.reverse_reverse]
              simp only [hMx, hr2, and_self, if_true]
            exact gm_wrap_ret (Xs := Xs) (Cs := Cs) (hh := hh) E hpl hcls hI hpool hconsts hcalls hlen hpn hi0 hsite hrun (hret w M1 sz1 d1 f hMo hNo)
          · cases h
        · rename_i e9 M1 sz1 d1 hx
          split at h
          · rename_i k hk
            simp only [Option.some.injEq, Prod.mk.injEq, Outcome.returned.injEq] at h
            obtain ⟨rfl, rfl, rfl, rfl⟩ := h
            obtain ⟨En, pre, x9, suf, b1, b2, b3, b4, b5, b6, b7, b8⟩ := hexc e9 k hk
            have hg := E.2.2.2.1.2 mi1 own1 y1 cc1 nL1 ret1 I1 lk1 ini1 hmt
            have hmono := (gm_exec_mono (fun mi av M sz o M' sz' d h => gm_run_mono _ mi av M sz o M' sz' d (gm_only_le h)) _ _ _ _ _ _ _ _ _ _ _ hx).1
            exact gm_wrap_thr (Xs := Xs) (Cs := Cs) (hh := hh) E hpl hcls hI hpool hconsts hlen hpn hg.2.2.2.1 hg.2.2.1 (gm_sound_thr (Xs := Xs) (Cs := Cs) E hlt hd2 hmt hl1 hth hx) hmono hini hy1 hy2 hpar hlk hin hcl hsel hi0 hMx rfl hna (Nat.le_of_ble_eq_true rfl) b1 pre x9 suf b2 b3 b4 b5 b6 b7 (fun q => b8 q _ _ _)
          · cases h
        · cases h
      · cases h
end GMLB

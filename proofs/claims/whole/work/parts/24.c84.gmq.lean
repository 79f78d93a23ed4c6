/-! the calls of the law: methods of ours, and methods that catch -/
abbrev gm_Wt : Type := Nat → Option (Nat × Bool × (Nat → Option Int32))
/-- what a method that catches comes to: it calls mi1 on x (an object of cx) with is; the answer goes to out, an exception's code is answered -/
def gm_lawB (N0 : Nat) (K : Nat → Nat) (nm : Nat → Option String) (mt : Nat → Option gm_Mi) (d cx n mi1 : Nat) (code : Nat → Option Int32) (x : Nat) (is : List Value) (out : Nat) (M : gm_H) (sz : Nat) : Option gm_R := match mt mi1, M x with
  | some (_, _, _, nL, ret, I, lk, _), some (.inr (c0, _)) => if ((gm_sl (.ref x :: is)).length ≤ nL ∧ N0 ≤ out) ∧ c0 = cx then
      match gm_exec N0 nm ret I lk (fun _ _ _ => none) (gm_only (gm_run N0 K nm mt d n)) n 0 (gm_entry nL (.ref x :: is)) [] M sz 0 with
      | some (.returned (some (.int v)), M1, sz1, d1) => match M1 out with
        | some (.inl (.long, 1, .inr (.inl f))) => some (.returned (some (.int 0)), gm_set M1 out (.inl (.long, 1, .inr (.inl (vp_updL f 0 v.toInt64)))), sz1, d1)
        | _ => none
      | some (.threw e, M1, sz1, d1) => match code e with
        | some k => some (.returned (some (.int k)), M1, sz1, d1)
        | none => none
      | _ => none
    else none
  | _, _ => none
def gm_lawC (N0 : Nat) (K : Nat → Nat) (nm : Nat → Option String) (mt : Nat → Option gm_Mi) (d cx : Nat) (wt : gm_Wt) (n : Nat) : gm_Call := fun mi av M sz => match wt mi, av with
  | none, _ => gm_run N0 K nm mt (d + 1) n mi av M sz
  | some (mi1, false, code), [.ref x, .ref out] => gm_lawB N0 K nm mt d cx n mi1 code x [] out M sz
  | some (mi1, true, code), [.ref x, .int i, .int j, .ref out] => gm_lawB N0 K nm mt d cx n mi1 code x [.int i, .int j] out M sz
  | some _, _ => none
theorem gm_lawB_up {N0 : Nat} {K : Nat → Nat} {nm : Nat → Option String} {mt : Nat → Option gm_Mi} {d cx n n' mi1 : Nat} {code : Nat → Option Int32} {x : Nat} {is : List Value} {out : Nat} {M : gm_H} {sz : Nat} {R : gm_R} (hn : n ≤ n') (h : gm_lawB N0 K nm mt d cx n mi1 code x is out M sz = some R) : gm_lawB N0 K nm mt d cx n' mi1 code x is out M sz = some R := by
  unfold gm_lawB at h ⊢
  split at h
  · split at h
    · rename_i hc
      rw [if_pos hc]
      split at h
      · rename_i hx
        rw [gm_exec_up (fun mi av M sz R h => gm_only_up (fun mi av M sz R h => gm_run_up d d n n' mi av M sz R (Nat.le_refl d) hn h) h) _ _ _ _ _ _ _ _ _ hn hx]
        exact h
      · rename_i hx
        rw [gm_exec_up (fun mi av M sz R h => gm_only_up (fun mi av M sz R h => gm_run_up d d n n' mi av M sz R (Nat.le_refl d) hn h) h) _ _ _ _ _ _ _ _ _ hn hx]
        exact h
      · cases h
    · cases h
  · cases h
theorem gm_mono_law {N0 : Nat} {K : Nat → Nat} {nm : Nat → Option String} {mt : Nat → Option gm_Mi} {d cx : Nat} {wt : gm_Wt} : gm_mono (gm_lawC N0 K nm mt d cx wt) := by
  intro n n' mi av M sz R hn h
  unfold gm_lawC at h ⊢
  cases hw : wt mi with
  | none =>
    simp only [hw] at h ⊢
    exact gm_run_up _ _ _ _ _ _ _ _ _ (Nat.le_refl _) hn h
  | some w =>
    obtain ⟨mi1, b, code⟩ := w
    simp only [hw] at h ⊢
    split at h
    · rename_i hq; cases hq
    · rename_i hq; cases hq; exact gm_lawB_up hn h
    · rename_i hq; cases hq; exact gm_lawB_up hn h
    · cases h
theorem gm_lawB_mono {N0 : Nat} {K : Nat → Nat} {nm : Nat → Option String} {mt : Nat → Option gm_Mi} {d cx n mi1 : Nat} {code : Nat → Option Int32} {x : Nat} {is : List Value} {out : Nat} {M : gm_H} {sz : Nat} {o : Outcome} {M' : gm_H} {sz' d' : Nat} (h : gm_lawB N0 K nm mt d cx n mi1 code x is out M sz = some (o, M', sz', d')) : sz ≤ sz' := by
  unfold gm_lawB at h
  split at h
  · split at h
    · split at h
      · rename_i hx
        have hm := (gm_exec_mono (fun mi av M sz o M' sz' d h => gm_run_mono _ mi av M sz o M' sz' d (gm_only_le h)) _ _ _ _ _ _ _ _ _ _ _ hx).1
        split at h
        · simp only [Option.some.injEq, Prod.mk.injEq] at h
          omega
        · cases h
      · rename_i hx
        have hm := (gm_exec_mono (fun mi av M sz o M' sz' d h => gm_run_mono _ mi av M sz o M' sz' d (gm_only_le h)) _ _ _ _ _ _ _ _ _ _ _ hx).1
        split at h
        · simp only [Option.some.injEq, Prod.mk.injEq] at h
          omega
        · cases h
      · cases h
    · cases h
  · cases h
theorem gm_lawC_mono {N0 : Nat} {K : Nat → Nat} {nm : Nat → Option String} {mt : Nat → Option gm_Mi} {d cx n : Nat} {wt : gm_Wt} : ∀ mi av M sz o M' sz' d', gm_lawC N0 K nm mt d cx wt n mi av M sz = some (o, M', sz', d') → sz ≤ sz' := by
  intro mi av M sz o M' sz' d' h
  unfold gm_lawC at h
  split at h
  · exact gm_run_mono _ _ _ _ _ _ _ _ _ h
  · exact gm_lawB_mono h
  · exact gm_lawB_mono h
  · cases h
section GMLW
variable {l : Launch} {D : va_G} {cl : List vw_C} {AC : FieldType → ClassId} {N0 : Nat} {Tg Ns : List Cond} {As : List String} {Zs : List (String × String × String × Value)} {Ss : List (String × Nat × String × Nat)} {nm : Nat → Option String} {mt : Nat → Option gm_Mi} {K : Nat → Nat} {bIx : ByteArray} {nIx : Nat} {Xs : List Cond} {Cs : List (String × String)}
variable {p : Program} {e : Env} {R : Room} {s : State} {m : MethodId} {args : Array Value} {below : List Frame} {meth : Method} {c : Code} {H : Heap} {locs : List Loc} {cells slots : Nat} {Q : State → Prop}
variable {cc : ByteArray} {nL : Nat} {Ts : List Cond} {own : String}
/-- a static call of a method that catches -/
theorem gm_call_wr (hgw : ∀ w ∈ Tg, goodWord w = true) (hNs : ∀ w ∈ Ns, gm_nest w = true) (hexec : p.tables.exec = Jvm.exec) (hb : c.code = cc) (hml : c.maxLocals = nL) (hts : ∀ w ∈ Ts, w.before args s = true) (hTs : ∀ w ∈ Tg, w ∈ Ts) (hown : s.vm.findClass own = some m.cls) (hK : gm_K D cl AC N0 Ns As Zs Ss s) (hTz : gm_Tz N0 Xs Cs s) (hN0 : N0 ≤ s.heap.size)
    {y : MethodName} {bytes : ByteArray} {maxL : Nat} {ret : Option FieldType} {hh : List (Nat × Nat × Nat × Nat)} {d dd ix na : Nat} (hR1 : d + 1 + 4 ≤ R.frames) (hR2 : 100 * (d + 1) + 300 ≤ R.locals) (hmax : maxL ≤ 80) (hcode : Cond.codeWith y bytes maxL ret hh ∈ Tg)
    {M M' : gm_H} {sz sz' : Nat} {av : List Value} {v : Option Value}
    (hM : vx_Met l y (Cond.codeWith y bytes maxL ret hh :: Tg) (gm_room d (sz' - sz) dd) (va_Pc av (gm_PreT D cl AC N0 Ns As Zs Ss Xs Cs M sz)) (gm_Qc D cl AC N0 v M' sz') (fun _ _ _ => False) (sz' - sz) dd (fun q => N0 ≤ q))
    (hini : Cond.initialized y.cls ∈ Tg) (hy1 : y.cls ≠ "java/lang/invoke/MethodHandle") (hy2 : y.cls ≠ "java/lang/invoke/VarHandle") (hpar : (parseMethodDescriptor y.desc).map (fun d => d.parameters.length) = some na) (hlk : Cond.methodLink own ix y ∈ Tg) (hstt : Cond.static y ∈ Tg)
    {pc : Nat} {arr : Array Slot} {st r : List Value} (hst : st = av.reverse ++ r) (hna : av.length = na) (hsum : (r.map fun v => v.category).sum ≤ 8) (hd : decode cc pc = .ok (.invokestatic ix, 3)) (harr : arr.size = nL) (hS : gm_S D cl AC N0 s M sz H locs) (hf : cells + (sz' - sz) ≤ R.cells ∧ slots + dd ≤ R.slots)
    (kk : ∀ H1 locs1, gm_S D cl AC N0 s M' sz' H1 locs1 → W p l e R s m args below meth c H1 locs1 (cells + (sz' - sz)) (slots + dd) Q (F0 m (pc + 3) arr (v.toList ++ r))) :
    W p l e R s m args below meth c H locs cells slots Q (F0 m pc arr st) := by
  have hG : GoodIn Ts (va_wsS own ix y (Cond.codeWith y bytes maxL ret hh :: Tg)) := fun w hw => by
    have hwT : w ∈ Tg := by
      unfold va_wsS at hw
      rcases List.mem_append.mp hw with hw | hw
      · simp only [List.mem_cons, List.not_mem_nil, or_false] at hw
        rcases hw with rfl | rfl | rfl
        all_goals first | exact hlk | exact hstt | exact hini
      · rcases List.mem_cons.mp hw with rfl | hw
        · exact hcode
        · exact hw
    exact ⟨hTs _ hwT, good_of_word (hgw _ hwT)⟩
  have hRm : (gm_room d (sz' - sz) dd).frames + 1 ≤ R.frames ∧ 8 + (maxL + 11) + (gm_room d (sz' - sz) dd).locals ≤ R.locals := ⟨Nat.le_trans (gm_rm8 (d := d)) hR1, Nat.le_trans (gm_rm9 (d := d) hmax) hR2⟩
  have hFx : CallFix p m c cc nL s args Ts own := ⟨hexec, hb, hml, hown, hts⟩
  have hrun := vx_runSX (p := p) (e := e) (below := below) (meth := meth) (locs := locs) (cells := cells) (slots := slots) (g := F0 m pc arr st) (rest := r) hFx hM (vx_cwSW na hts hG rfl rfl rfl ⟨hy1, hy2, hpar⟩ hRm) ⟨gm_blindT hNs, fun U hU hW => ⟨rfl, gm_preT hNs hK hTz hN0 hS hU hW⟩⟩ rfl hna harr hst (by show 2 * 0 + _ ≤ 8; omega) hd hf
  refine gm_ret (a := av.toArray) (mc := sz' - sz) (ms := dd) (rest := r) (v := v) (M' := M') (sz' := sz') ?_ hS kk
  intro T hT X
  rcases hrun T hT X with ⟨v9, st₀, t, T2, L, h0, X', hL, e1, e2, hq, hg⟩ | ⟨q, st₀, t, T2, L, E, ce, h0, X', hL, e1, e2, hXC, -⟩
  · exact ⟨v9, st₀, t, T2, L, h0, X', hL, e1, e2, hq, hg⟩
  · exact hXC.elim
end GMLW

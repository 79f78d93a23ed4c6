/-! load: the reference, whole -/
/-- what the reference has kept -/
def kpd (m : mS) (R0 : List Rl) : Prop := (m.1 5 = 0 ∧ m.1 4 = 0) ∨ (m.1 5 = 1 ∧ flNone R0 ∧ ∃ X0 : List Int32, xC X0 ∧ m.1 4 = nI X0.length ∧ (∀ j, j < X0.length → m.2.1 3 j = X0.getD j 0) ∧ ∃ l, ps_all 24 [] X0 = (some R0, l))
/-- how a refused load leaves the reference -/
def rfd (m : mS) (R0 : List Rl) (k f a : Int32) (m' : mS) : Prop := bkf m m' ∧ m'.1 0 = k ∧ m'.1 2 = 0 ∧ m'.1 6 = f ∧ m'.1 7 = a ∧ m'.1 24 = 0 ∧ (m.1 5 = 1 → RC R0 m')
theorem rq_back {d : Nat} {k f a : Int32} {R0 : List Rl} {m s5 : mS} {Q : Int32 → mS → Prop} (hb : bkf m s5) (h2 : s5.1 2 = 0) (hk : kpd m R0) (q : ∀ m', rfd m R0 k f a m' → Q 0 m') : m_fetch_kept (d + 9) (s5.1 4) (mI s5 0 k) (fun _ s10 => if (s10.1 5) = 0 then (Q (0 : Int32) (mI (mI (mI s10 6 f) 7 a) 24 (0 : Int32))) else (m_isWell (d + 9) s10 (fun _ s14 => Q (0 : Int32) (mI (mI (mI s14 6 f) 7 a) 24 (0 : Int32))))) := by
  rcases hk with ⟨h5, h4⟩ | ⟨h5, hf, X0, hX, h4, hx, hps⟩
  · exact rq_back0 hb h5 h4 (fun m' b e0 e2 e6 e7 e24 => q m' ⟨b, e0, e2.trans h2, e6, e7, e24, fun z => by rw [h5] at z; exact absurd z (by decide)⟩)
  · exact rq_back1 hb h5 hf hX h4 hx hps (fun m' b e0 e2 e6 e7 e24 c => q m' ⟨b, e0, e2.trans h2, e6, e7, e24, fun _ => c⟩)
theorem rq_load {d : Nat} {X : List Int32} {R0 : List Rl} {m : mS} {Q : Int32 → mS → Prop} (hX : xC X) (h2 : m.1 2 = nI X.length) (hx : ∀ k, k < X.length → m.2.1 1 k = X.getD k 0) (hk : kpd m R0) (hP : ∀ R l' T1 L0, ps_all 24 [] X = (some R, l') → flNone R → aBg R = some T1 → Mdl R (bT T1) L0 → Small R L0 → okP (aRw 329 L0))
    (qp : ∀ l', ps_all 24 [] X = (none, l') → ∀ m', rfd m R0 1 1 (nI (X.length - l'.length)) m' → Q 0 m')
    (qf : ∀ R l' f r, ps_all 24 [] X = (some R, l') → flFirst R f r → ∀ m', rfd m R0 2 (nI f) (nI r) m' → Q 0 m')
    (qb : ∀ R l', ps_all 24 [] X = (some R, l') → flNone R → aBad R → ∀ m', rfd m R0 3 0 0 m' → Q 0 m')
    (q1 : ∀ R l' T1 L0, ps_all 24 [] X = (some R, l') → flNone R → aBg R = some T1 → okT T1 → T1.length ≤ 24 → Mdl R (bT T1) L0 → Small R L0 → ∀ m', m'.1 0 = 0 → m'.1 2 = 0 → m'.1 6 = 0 → m'.1 7 = 0 → RC R m' → (rT m' 29 0 T1 ∧ m'.1 30 = nI T1.length) → (rT m' 31 0 T1 ∧ m'.1 32 = nI T1.length) → (rT m' 35 0 (aRw 329 L0) ∧ m'.1 36 = nI (aRw 329 L0).length) → m'.1 4 = nI X.length → (∀ k, k < X.length → m'.2.1 3 k = X.getD k 0) → m'.1 5 = 1 → m'.1 41 = 0 → m'.1 43 = 0 → fz R T1 m' → Q (nI R.length) m') : m_load (d + 10) m Q := by
  refine m_load.of (T_load_0 ?_)
  rw [h2]
  refine rq_fetch_sheet (d := d + 8) hX hx (fun s2 f2 e9 e8 => ?_)
  have b2 : bkf m (mI (mI s2 2 (0 : Int32)) 0 (0 : Int32)) := (f2.b.trans (bkf.i _ 0 (by decide))).trans (bkf.i _ 0 (by decide))
  refine rq_isWell (d := d + 1) (T := X) hX.1 e9 e8 (fun s5 l' e fr e6 e7 => ?_) (fun s5 R l' f r e hfl fr e6 e7 => ?_) (fun s5 R l' n e hfn fr e6 e7 rr ly => ?_)
  · have h52 : s5.1 2 = 0 := fr.1 2 (by decide) (by decide) (by decide) (by decide)
    rw [if_pos rfl, if_pos e6, e6, e7]
    exact rq_back (b2.trans fr.b) h52 hk (fun m' h => qp l' e m' h)
  · have h52 : s5.1 2 = 0 := fr.1 2 (by decide) (by decide) (by decide) (by decide)
    have hne : ¬ s5.1 6 = (1 : Int32) := by
      rw [e6, show (1 : Int32) = nI 1 from rfl, nI_eq (by have := hfl.2.1; omega) (by decide)]
      have := hfl.1
      omega
    rw [if_pos rfl, if_neg hne, e6, e7]
    exact rq_back (b2.trans fr.b) h52 hk (fun m' h => qf R l' f r e hfl m' h)
  · have h52 : s5.1 2 = 0 := fr.1 2 (by decide) (by decide) (by decide) (by decide)
    obtain ⟨w1, _, w2⟩ := ps_all_wf 24 [] X rfl (fun r hr => by simp at hr) R l' e
    have hc := RC.of w1 w2 hfn rr ly
    rw [if_neg (by decide)]
    refine rq_begins (d := d) hc (fun s9 T1 L f9 bg oT lT t33 e34 M S => ?_) (fun s9 f9 bad => ?_)
    · rw [if_neg (by decide)]
      have hi : ∀ i, i = 2 ∨ i = 6 ∨ i = 7 ∨ i = 9 → s9.1 i = s5.1 i := fun i hi => f9.1 i (by omega) (by omega) (by omega) (by omega) (by omega) (by omega)
      refine rq_loaded (d := d) (L0 := L) (X := X) ((hc.l f9).A rfl (fun _ _ _ => rfl)) hX ((hi 9 (by decide)).trans ((fr.1 9 (by decide) (by decide) (by decide) (by decide)).trans e9)) (fun k hk => ?_) oT lT t33 e34 M S (hP R l' T1 L e hfn bg M S) (fun m' j c t29 t31 t35 e4 e3 e5 e41 e43 z => ?_)
      · show s9.2.1 8 k = _
        rw [f9.2.1 8 (by decide) (by decide) (by decide), fr.2.1 8 (by decide)]
        exact e8 k hk
      · exact q1 R l' T1 L e hfn bg oT lT M S m' (j 0 (by decide)) ((j 2 (by decide)).trans ((hi 2 (by decide)).trans h52)) ((j 6 (by decide)).trans ((hi 6 (by decide)).trans e6)) ((j 7 (by decide)).trans ((hi 7 (by decide)).trans e7)) c t29 t31 t35 e4 e3 e5 e41 e43 z
    · rw [if_pos rfl]
      have hi : ∀ i, i = 2 ∨ i = 6 ∨ i = 7 → s9.1 i = s5.1 i := fun i hi => f9.1 i (by omega) (by omega) (by omega) (by omega) (by omega) (by omega)
      rw [hi 6 (by decide), hi 7 (by decide), e6, e7]
      exact rq_back ((b2.trans fr.b).trans f9.b) ((hi 2 (by decide)).trans h52) hk (fun m' h => qb R l' e hfn bad m' h)

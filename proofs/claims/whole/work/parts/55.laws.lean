set_option maxHeartbeats 1000000
/-! law: a text becomes a law -/
theorem k_copy {tpN v1 v2 x lwN rdS rdM rdE rdD : Int32} {sgn lwT lwD rdT rdO lwK lwM : Nat → Int32} {Q : Int32 → Int32 → Int32 → Int32 → Int32 → Int32 → (Nat → Int32) → (Nat → Int32) → (Nat → Int32) → (Nat → Int32) → (Nat → Int32) → (Nat → Int32) → Prop} (hL : 0 ≤ lwN.toInt ∧ lwN.toInt < 20) (hx : x.toInt = lwN.toInt * 6)
    (q : ∀ K M : Nat → Int32, (∀ i : Nat, i < 6 * lwN.toInt.toNat → K i = lwK i ∧ M i = lwM i) → (∀ m : Nat, m < 6 → K (6 * lwN.toInt.toNat + m) = rdT m ∧ M (6 * lwN.toInt.toNat + m) = rdO m) → Q (lwN + 1) (lwN + 1) rdS rdM rdE rdD (upd lwT lwN.toNatClampNeg v1) (upd lwD lwN.toNatClampNeg v2) rdT rdO K M) : Lp3 (p_Lw_tell_L46 tpN sgn v1 v2 x lwN rdS rdM rdE rdD lwT lwD rdT rdO Q) 0 lwK lwM := by
  refine Lp3.of (fun v K M => (0 ≤ v.toInt ∧ v.toInt ≤ 6) ∧ (∀ i : Nat, i < 6 * lwN.toInt.toNat → K i = lwK i ∧ M i = lwM i) ∧ (∀ m : Nat, (m : Int) < v.toInt → K (6 * lwN.toInt.toNat + m) = rdT m ∧ M (6 * lwN.toInt.toNat + m) = rdO m)) (fun v _ _ => (6 - v.toInt).toNat) ?_ _ _ _ ⟨by rw [c_0]; omega, fun i _ => ⟨rfl, rfl⟩, fun m hm => by rw [c_0] at hm; omega⟩
  intro rec v K M ⟨a1, a2, a3⟩ hrec
  unfold p_Lw_tell_L46
  rw [ti_le, c_6]
  refine ⟨fun g => ?_, fun g => ?_⟩
  · rw [k_SiAdd (n := 20) (by decide) hL.1 hL.2]
    exact q K M a2 (fun m hm => a3 m (by omega))
  · have hn1 := ti_a1 (x := v) (by omega)
    have hxa : (x + v).toInt = lwN.toInt * 6 + v.toInt := by rw [ti_add (by omega) (by omega), hx]
    have ec : (x + v).toNatClampNeg = 6 * lwN.toInt.toNat + v.toInt.toNat := by rw [ti_c, hxa]; omega
    refine ⟨ti_in a1.1 (by omega), ti_in (by omega) (by omega), ti_in a1.1 (by omega), ti_in (by omega) (by omega), ?_⟩
    rw [forall_eq, ec, ti_c]
    refine hrec _ _ _ ⟨by omega, fun i hi => ?_, fun m hm => ?_⟩ (by omega)
    · rw [ti_un (by omega), ti_un (by omega)]
      exact a2 i hi
    · by_cases e : m = v.toInt.toNat
      · subst e
        rw [ti_up, ti_up]
        exact ⟨rfl, rfl⟩
      · rw [ti_un (by omega), ti_un (by omega)]
        exact a3 m (by omega)
theorem k_lawO {tnN tpN lwN rdS rdM rdE rdD v1 v2 : Int32} {sgn lwT lwD rdT rdO lwK lwM : Nat → Int32} {Q : Int32 → Int32 → Int32 → Int32 → Int32 → Int32 → Int32 → (Nat → Int32) → (Nat → Int32) → (Nat → Int32) → (Nat → Int32) → (Nat → Int32) → (Nat → Int32) → Prop} (hT : 0 ≤ tpN.toInt ∧ tpN.toInt ≤ 100) (hL : 0 ≤ lwN.toInt ∧ lwN.toInt ≤ 20)
    (q0 : ¬ ((0 ≤ v1.toInt ∧ v1.toInt < tnN.toInt) ∧ (0 ≤ v2.toInt ∧ v2.toInt < 400) ∧ lwN.toInt < 20) → Q (-100) 0 lwN rdS rdM rdE rdD lwT lwD rdT rdO lwK lwM)
    (q : (0 ≤ v1.toInt ∧ v1.toInt < tnN.toInt) → (0 ≤ v2.toInt ∧ v2.toInt < 400) → lwN.toInt < 20 → ∀ a0 : AS, WFA a0 → a0.S = 0 → (∀ m : Nat, m < 6 → a0.T m = 99 ∧ a0.O m = 0) → (∀ (p S M E D : Int32) (T O : Nat → Int32), FLA sgn a0 (min tpN.toInt 40) p → Q (-1 - p) 0 lwN S M E D lwT lwD T O lwK lwM) ∧ (∀ (a : AS) (r : Int32), rnA sgn a0 (min tpN.toInt 40).toNat = some a → (40 < tpN.toInt ∨ a.S.toInt < 4) → r.toInt = min tpN.toInt 40 → Q (-1 - r) 0 lwN a.S a.M a.E a.D lwT lwD a.T a.O lwK lwM) ∧ (∀ (a : AS) (K M : Nat → Int32), rnA sgn a0 (min tpN.toInt 40).toNat = some a → ¬ (40 < tpN.toInt ∨ a.S.toInt < 4) → (∀ i : Nat, i < 6 * lwN.toInt.toNat → K i = lwK i ∧ M i = lwM i) → (∀ m : Nat, m < 6 → K (6 * lwN.toInt.toNat + m) = a.T m ∧ M (6 * lwN.toInt.toNat + m) = a.O m) → Q (lwN + 1) 0 (lwN + 1) a.S a.M a.E a.D (upd lwT lwN.toNatClampNeg v1) (upd lwD lwN.toNatClampNeg v2) a.T a.O K M)) : p_O_law tnN sgn tpN lwN rdS rdM rdE rdD lwT lwD rdT rdO lwK lwM v1 v2 Q := by
  unfold p_O_law p_Lw_isFull
  simp only [k_has, k_isDay, k_isFull (n := 20) (by decide), bi0, bi01, true_and, Classical.not_not]
  unfold p_O_law_J33 p_O_law_J56 p_Tp_clear
  by_cases h1 : 0 ≤ v1.toInt ∧ v1.toInt < tnN.toInt
  case neg => exact tk_f h1 (tn_t i10 (q0 (fun k => h1 k.1)))
  by_cases h2 : 0 ≤ v2.toInt ∧ v2.toInt < 400
  case neg => exact tk_t h1 (tk_f h2 (tn_t i10 (q0 (fun k => h2 k.2.1))))
  by_cases h3 : (20 : Int) ≤ lwN.toInt
  case pos => exact tk_t h1 (tk_t h2 ⟨Or.inr (bi_t h3), tk_t h3 (tn_t i10 (q0 (fun k => by omega)))⟩)
  refine tk_t h1 (tk_t h2 ⟨Or.inl h3, tk_f h3 (tn_f rfl ?_)⟩)
  unfold p_Lw_tell p_Lw_isFull
  rw [k_isFull (n := 20) (by decide), bi01]
  refine ⟨trivial, ?_⟩
  refine tn_f (bi_f h3) (k_take hT (fun a0 w0 s0 t0 => ?_))
  obtain ⟨qF, qN, qY⟩ := q h1 h2 (by omega) a0 w0 s0 t0
  refine ⟨fun p S M E D T O hF => tn_t (fun e => ?_) (qF p S M E D T O hF), fun a r hr hy hn => ?_⟩
  · have := hF.1
    rw [e, c_m1] at this
    omega
  · by_cases c : 40 < tpN.toInt ∨ a.S.toInt < 4
    · have hy' := hy c
      exact tn_t (fun e => by rw [e, c_m1] at hy'; omega) (qN a r hr c hy')
    · refine tn_f (hn c) ?_
      rw [forall_eq]
      have hx : (lwN * 6).toInt = lwN.toInt * 6 := by rw [ti_mul] <;> rw [c_6] <;> omega
      exact k_copy ⟨hL.1, by omega⟩ hx (fun K M k1 k2 => qY a K M hr c k1 k2)
theorem k_lawM {mTn mThr mTpN mLw mAt v1 v2 : Int32} {mTap s mLwT mLwD mLwO mLwM : Nat → Int32} {a0 : AS} {Q : Int32 → Int32 → Int32 → Int32 → Int32 → (Nat → Int32) → (Nat → Int32) → (Nat → Int32) → (Nat → Int32) → Prop} (hN : 0 ≤ mTn.toInt) (hT : 0 ≤ mTpN.toInt ∧ mTpN.toInt ≤ 100) (hs : ∀ i : Nat, (i : Int) < mTpN.toInt → mTap i = s i ∧ 0 ≤ (s i).toInt ∧ (s i).toInt ≤ 255) (hL : 0 ≤ mLw.toInt ∧ mLw.toInt < 20) (h1 : 0 ≤ v1.toInt ∧ v1.toInt < mTn.toInt) (h2 : 0 ≤ v2.toInt ∧ v2.toInt < 400) (s0 : a0.S = 0) (t0 : ∀ m : Nat, m < 6 → a0.T m = 99 ∧ a0.O m = 0)
    (qF : ∀ (p : Int32) (O'' M'' : Nat → Int32), FLA s a0 (min mTpN.toInt 40) p → BLA mLw.toInt.toNat mLwO mLwM O'' M'' → Q (-1 - p) 0 0 mLw p mLwT mLwD O'' M'')
    (qN : ∀ (b : AS) (r : Int32) (O'' M'' : Nat → Int32), rnA s a0 (min mTpN.toInt 40).toNat = some b → (40 < mTpN.toInt ∨ b.S.toInt < 4) → r.toInt = min mTpN.toInt 40 → BLA mLw.toInt.toNat mLwO mLwM O'' M'' → ∀ z, Q (-1 - r) 0 0 mLw z mLwT mLwD O'' M'')
    (qY : ∀ (b : AS) (O'' M'' : Nat → Int32), rnA s a0 (min mTpN.toInt 40).toNat = some b → ¬ (40 < mTpN.toInt ∨ b.S.toInt < 4) → RelA mLw.toInt.toNat b.T b.O O'' M'' → BLA mLw.toInt.toNat mLwO mLwM O'' M'' → ∀ z, Q (mLw + 1) 0 0 (mLw + 1) z (upd mLwT mLw.toNatClampNeg v1) (upd mLwD mLw.toNatClampNeg v2) O'' M'') : p_M_law mTn mTap mThr mTpN mLw mAt mLwT mLwD mLwO mLwM v1 v2 Q := by
  unfold p_M_law
  rw [k_isTown hN, bi_t h1]
  refine tn_t i10 ?_
  rw [k_mDay, bi_t h2]
  refine tn_t i10 (tn_t (fun e => by rw [e, c_20] at hL; omega) ?_)
  have hj := ti_jmin (x := mTpN) (y := 40)
  rw [c_40] at hj
  generalize jmin mTpN 40 = n at hj ⊢
  rw [← hj] at qF qN qY
  have m41 : ∀ r : Int32, r.toInt = 40 → -1 - r = -41 := by
    intro r hr
    rw [show r = 40 from ti_eq.mpr (by rw [hr, c_40])]
    decide
  unfold p_M_law_J77
  refine k_reads hL (by omega) (fun i hi => hs i (by omega)) s0 t0 (fun p O'' M'' hF hB => ?_) (fun b O'' M'' hr h4 hB => ?_) (fun b O'' M'' hr h4 hRel hB => ?_)
  · have hp := hF.1
    rw [ti_le, ti_lt, c_40]
    exact ⟨fun _ => tn_f rfl (qF p _ _ hF hB), fun c => tn_f rfl ⟨fun _ => tn_f rfl (qF p _ _ hF hB), fun c2 => absurd (by omega) c2⟩⟩
  · rw [ti_le, ti_lt, c_40]
    refine ⟨fun _ => tn_f rfl (qN b n _ _ hr (Or.inr h4) rfl hB n), fun c => tn_f rfl ⟨fun _ => tn_f rfl (qN b n _ _ hr (Or.inr h4) rfl hB n), fun c2 => ?_⟩⟩
    rw [← m41 n (by omega)]
    exact qN b n _ _ hr (Or.inr h4) rfl hB n
  · rw [ti_le, c_40]
    refine ⟨fun c => tn_t i10 ⟨ti_in hL.1 hL.2, ti_in hL.1 hL.2, ?_⟩, fun c => tn_t i10 ?_⟩
    · rw [forall_eq]
      exact qY b _ _ hr (by omega) hRel hB n
    · rw [← m41 n (by omega)]
      exact qN b n _ _ hr (Or.inl (by omega)) rfl hB n
theorem s_law : st_law RR := by
  intro mThr mTn mCk mRw mSt mTr mFM mFS mTpN mLw mAt mTwN mBE mBEn mSun mCkT mCkD mCkK mCkA mRow mStT mRun mUp mSta mSty mDly mTri mFnd mTap mLwT mLwD mLwO mLwM mTwT mSetA mDri mOrd mBst tnN ckN stN trN dsT dsC tpN lwN rdS rdM rdE rdD twN rsW rsE rwN suns ckT ckD shf lnT ways ups sts sty dly gAp gOp stp bst sgn lwT lwD rdT rdO lwK lwM twS twM twD rsO rsB rwA hR a1 a2 
  obtain ⟨hTn, hCk, hLn, hTp, hLw, hTw, hRw⟩ := id hR
  obtain ⟨e1, hbt, hqt⟩ := id hTp
  obtain ⟨e2, hbn, hqn⟩ := id hTn
  obtain ⟨e3, hbl, hql, hqk⟩ := id hLw
  subst e1 e2 e3
  have tp0 : R_tp 0 sgn 0 mTap := ⟨rfl, by decide, fun i hi => by rw [c_0] at hi; omega⟩
  refine k_lawO hbt hbl (fun h => ?_) (fun h1 h2 h3 a0 w0 s0 t0 => ?_)
  · unfold p_M_law
    rw [k_isTown hbn.1]
    by_cases h1 : 0 ≤ a1.toInt ∧ a1.toInt < mTn.toInt
    case neg =>
      rw [bi_f h1]
      exact tn_f rfl ⟨rfl, hTn, hCk, hLn, tp0, hLw, hTw, hRw⟩
    rw [bi_t h1]
    refine tn_t i10 ?_
    rw [k_mDay]
    by_cases h2 : 0 ≤ a2.toInt ∧ a2.toInt < 400
    case neg =>
      rw [bi_f h2]
      exact tn_f rfl ⟨rfl, hTn, hCk, hLn, tp0, hLw, hTw, hRw⟩
    rw [bi_t h2]
    exact tn_t i10 (tn_f (ti_eq.mpr (by rw [c_20]; omega)) ⟨rfl, hTn, hCk, hLn, tp0, hLw, hTw, hRw⟩)
  have lwB : ∀ {O'' M'' : Nat → Int32}, BLA mLw.toInt.toNat mLwO mLwM O'' M'' → R_lw mTn mLw lwT lwD lwK lwM mLw mLwT mLwD O'' M'' := by
    intro O'' M'' hB
    refine ⟨rfl, hbl, hql, fun i hi => ?_⟩
    have b := hB i (by omega)
    rw [b.1, b.2]
    exact hqk i hi
  refine ⟨fun p S M E D T O hF => ?_, fun a r hr hc hrn => ?_, fun a K M hr hc hK1 hK2 => ?_⟩
  · refine k_lawM hbn.1 hbt hqt ⟨hbl.1, h3⟩ h1 h2 s0 t0 (fun p' O'' M'' hF' hB => ?_) (fun b r' O'' M'' hr' _ _ _ _ => (hF.no hr').elim) (fun b O'' M'' hr' _ _ _ _ => (hF.no hr').elim)
    have e := hF.uniq hF'
    subst e
    exact ⟨rfl, hTn, hCk, hLn, tp0, lwB hB, hTw, hRw⟩
  · refine k_lawM hbn.1 hbt hqt ⟨hbl.1, h3⟩ h1 h2 s0 t0 (fun p' O'' M'' hF' hB => (hF'.no hr).elim) (fun b r' O'' M'' hr' _ hr2 hB z => ?_) (fun b O'' M'' hr' hc' _ _ _ => ?_)
    · have e : r = r' := ti_eq.mpr (by omega)
      subst e
      exact ⟨rfl, hTn, hCk, hLn, tp0, lwB hB, hTw, hRw⟩
    · rw [hr] at hr'
      cases hr'
      exact absurd hc hc'
  · refine k_lawM hbn.1 hbt hqt ⟨hbl.1, h3⟩ h1 h2 s0 t0 (fun p' O'' M'' hF' hB => (hF'.no hr).elim) (fun b r' O'' M'' hr' hc' _ _ _ => ?_) (fun b O'' M'' hr' _ hRel hB z => ?_)
    · rw [hr] at hr'
      cases hr'
      exact absurd hc' hc
    · rw [hr] at hr'
      cases hr'
      have wa := rnA_w w0 _ _ hr
      have hn1 := ti_a1 (x := mLw) (by omega)
      have hcl := ti_c mLw
      refine ⟨rfl, hTn, hCk, hLn, tp0, ⟨rfl, by omega, fun i hi => ?_, fun i hi => ?_⟩, hTw, hRw⟩
      · by_cases e : i = mLw.toNatClampNeg
        · subst e
          rw [ti_up, ti_up, ti_up, ti_up]
          exact ⟨rfl, rfl, h1, h2⟩
        · rw [ti_un e, ti_un e, ti_un e, ti_un e]
          exact hql i (by omega)
      · by_cases e : i < 6 * mLw.toInt.toNat
        · have b := hB i e
          have k := hK1 i e
          rw [b.1, b.2, k.1, k.2]
          exact hqk i (by omega)
        · have em : i = 6 * mLw.toInt.toNat + (i - 6 * mLw.toInt.toNat) := by omega
          have lm : i - 6 * mLw.toInt.toNat < 6 := by omega
          generalize i - 6 * mLw.toInt.toNat = m at em lm
          subst em
          have k := hK2 m lm
          rw [k.1, k.2]
          refine ⟨(wa.1 m lm).2, ?_⟩
          exact hRel m lm

set_option maxHeartbeats 1000000
/-! round: the call -/
theorem k_allSet {N : Nat} {twN v1 : Int32} {twM : Nat → Int32} {Q : Int32 → Prop} (hT : twN.toInt = N) (hN : N ≤ 7) (q1 : (∀ j : Nat, j < N → (twM j).toInt ≤ v1.toInt) → Q 1) (q0 : (∃ j : Nat, j < N ∧ v1.toInt < (twM j).toInt) → Q 0) : p_Tw_areAllSetBy twN twM v1 Q := by
  unfold p_Tw_areAllSetBy
  refine Lp1.of (fun v => (0 ≤ v.toInt ∧ v.toInt ≤ (N : Int)) ∧ ∀ j : Nat, (j : Int) < v.toInt → (twM j).toInt ≤ v1.toInt) (fun v => ((N : Int) - v.toInt).toNat) ?_ _ ⟨by rw [c_0]; omega, fun j hj => by rw [c_0] at hj; omega⟩
  intro rec v ⟨a1, a2⟩ hrec
  unfold p_Tw_areAllSetBy_L2
  rw [ti_le, ti_le, ti_c, hT, forall_eq]
  refine ⟨fun g => q1 (fun j hj => a2 j (by omega)), fun g => ⟨ti_in a1.1 (by omega), fun c => ?_, fun c => q0 ⟨v.toInt.toNat, by omega, by omega⟩⟩⟩
  have hn1 := ti_a1 (x := v) (by omega)
  refine hrec _ ⟨by omega, fun j hj => ?_⟩ (by omega)
  by_cases e : (j : Int) < v.toInt
  · exact a2 j e
  · rw [show j = v.toInt.toNat by omega]
    exact c
theorem k_m36 {N : Nat} {mTn mTwN v1 v2 mThr mRw mBE mBEn c : Int32} {mSun mTwT mSetA mDri mRow mOrd mBst : Nat → Int32} {Q : Int32 → Int32 → Int32 → Int32 → Int32 → (Nat → Int32) → (Nat → Int32) → (Nat → Int32) → Prop} (hT : mTwN.toInt = N) (hN : N ≤ 7) (hc : c = 0 ∨ c = 1) (q0 : (c = 0 ∨ ∃ j : Nat, j < N ∧ v2.toInt < (mSetA j).toInt) → Q (-1) mThr mRw mBE mBEn mRow mOrd mBst)
    (q1 : c = 1 → (∀ j : Nat, j < N → (mSetA j).toInt ≤ v2.toInt) → p_M_goes mTwN mSun mTwT mSetA mDri 8 1073741824 1073741824 mOrd mBst 0 0 v1 v2 0 (fun (mBE_96 : Int32) (mBEn_96 : Int32) (mOrd_96 : Nat → Int32) (mBst_96 : Nat → Int32) => (mBEn_96 < 576000 → ∀ x118 : Int32, x118 = mTwN + 1 → Lp2 (p_M_round_L124 mTn mTwN mSun mTwT mSetA mDri mThr x118 mBE_96 mBEn_96 mOrd_96 mBst_96 Q) 0 mRow) ∧ (¬ mBEn_96 < 576000 → Q (-1) mThr mRw mBE_96 mBEn_96 mRow mOrd_96 mBst_96))) : Lp2 (p_M_round_L36 mTn mTwN mSun mTwT mSetA mDri v1 v2 mThr mRw mBE mBEn mRow mOrd mBst Q) c 0 := by
  refine Lp2.of (fun (v3 v4 : Int32) => (0 ≤ v4.toInt ∧ v4.toInt ≤ (N : Int)) ∧ ((v3 = 1 ∧ c = 1 ∧ ∀ j : Nat, (j : Int) < v4.toInt → (mSetA j).toInt ≤ v2.toInt) ∨ (v3 = 0 ∧ (c = 0 ∨ ∃ j : Nat, j < N ∧ v2.toInt < (mSetA j).toInt)))) (fun _ v4 => ((N : Int) - v4.toInt).toNat) ?_ _ _ ⟨by rw [c_0]; omega, ?_⟩
  · intro rec v3 v4 ⟨a1, a2⟩ hrec
    unfold p_M_round_L36
    rw [ti_le (x := mTwN), hT]
    simp only [forall_eq] at q1 ⊢
    rcases a2 with ⟨rfl, k1, k2⟩ | ⟨rfl, k1⟩
    · refine ⟨fun g => tn_t i10 (q1 k1 (fun j hj => k2 j (by omega))), fun g => tn_t i10 ⟨ti_in a1.1 (by omega), ?_⟩⟩
      have hn1 := ti_a1 (x := v4) (by omega)
      rw [ti_lt, ti_c]
      refine ⟨fun e => hrec _ _ ⟨by omega, Or.inr ⟨rfl, Or.inr ⟨v4.toInt.toNat, by omega, e⟩⟩⟩ (by omega), fun e => hrec _ _ ⟨by omega, Or.inl ⟨rfl, k1, fun j hj => ?_⟩⟩ (by omega)⟩
      by_cases e2 : (j : Int) < v4.toInt
      · exact k2 j e2
      · rw [show j = v4.toInt.toNat by omega]
        omega
    · refine ⟨fun g => tn_f rfl (q0 k1), fun g => tn_f rfl ?_⟩
      have hn1 := ti_a1 (x := v4) (by omega)
      exact hrec _ _ ⟨by omega, Or.inr ⟨rfl, k1⟩⟩ (by omega)
  · rcases hc with rfl | rfl
    · exact Or.inr ⟨rfl, Or.inl rfl⟩
    · exact Or.inl ⟨rfl, rfl, fun j hj => by rw [c_0] at hj; omega⟩
theorem k_rowsO {N : Nat} {tnN twN rsW rsE : Int32} {suns twS twM twD rsO rsB rwA : Nat → Int32} {Q : Int32 → Int32 → Int32 → Int32 → (Nat → Int32) → (Nat → Int32) → (Nat → Int32) → Prop} (hT : twN.toInt = N) (hN : N ≤ 7) (q : ∀ (z : Int32) (A : Nat → Int32), z.toInt = N + 1 → (∀ i : Nat, i < N → A i = rsB i) → A N = rsE → Q rsW rsW rsE z rsO rsB A) : Lp3 (p_O_round_L86 tnN twN suns twS twM twD rsW rsE rsO rsB Q) 0 0 rwA := by
  refine Lp3.of (fun (v n : Int32) (A : Nat → Int32) => (0 ≤ v.toInt ∧ v.toInt ≤ (N : Int)) ∧ n.toInt = v.toInt ∧ ∀ i : Nat, (i : Int) < v.toInt → A i = rsB i) (fun v _ _ => ((N : Int) - v.toInt).toNat) ?_ _ _ _ ⟨by rw [c_0]; omega, rfl, fun i hi => by rw [c_0] at hi; omega⟩
  intro rec v n A ⟨a1, a2, a3⟩ hrec
  unfold p_O_round_L86 p_Rw_add
  simp only [forall_eq]
  rw [ti_le, hT, ti_le, c_8, ti_c n, ti_c v]
  have hn1 := ti_a1 (x := n) (by omega)
  have hin : vp_in n 8 := ti_in (by omega) (by omega)
  refine ⟨fun g => tn_t (by omega) ⟨hin, q _ _ (by omega) (fun i hi => ?_) ?_⟩, fun g => ⟨ti_in a1.1 (by omega), tn_t (by omega) ⟨hin, ?_⟩⟩⟩
  · rw [ti_un (by omega)]
    exact a3 i (by omega)
  · rw [show n.toInt.toNat = N by omega, ti_up]
  · have hv1 := ti_a1 (x := v) (by omega)
    refine hrec _ _ _ ⟨by omega, by omega, fun i hi => ?_⟩ (by omega)
    by_cases e : i = n.toInt.toNat
    · rw [e, ti_up, show n.toInt.toNat = v.toInt.toNat by omega]
    · rw [ti_un e]
      exact a3 i (by omega)
theorem k_rowsM {N : Nat} {mTn mTwN mThr x mBE mBEn : Int32} {mSun mTwT mSetA mDri mRow mOrd mBst : Nat → Int32} {Q : Int32 → Int32 → Int32 → Int32 → Int32 → (Nat → Int32) → (Nat → Int32) → (Nat → Int32) → Prop} (hT : mTwN.toInt = N) (hN : N ≤ 7) (q : ∀ A : Nat → Int32, (∀ i : Nat, i < N → A i = mBst i) → A N = mBEn → Q mBE mThr x mBE mBEn A mOrd mBst) : Lp2 (p_M_round_L124 mTn mTwN mSun mTwT mSetA mDri mThr x mBE mBEn mOrd mBst Q) 0 mRow := by
  refine Lp2.of (fun (v : Int32) (A : Nat → Int32) => (0 ≤ v.toInt ∧ v.toInt ≤ (N : Int)) ∧ ∀ i : Nat, (i : Int) < v.toInt → A i = mBst i) (fun v _ => ((N : Int) - v.toInt).toNat) ?_ _ _ ⟨by rw [c_0]; omega, fun i hi => by rw [c_0] at hi; omega⟩
  intro rec v A ⟨a1, a3⟩ hrec
  unfold p_M_round_L124
  rw [ti_le, hT, forall_eq, ti_c mTwN, ti_c v]
  refine ⟨fun g => ⟨ti_in (by omega) (by omega), q _ (fun i hi => ?_) ?_⟩, fun g => ⟨ti_in a1.1 (by omega), ti_in a1.1 (by omega), ?_⟩⟩
  · rw [ti_un (by omega)]
    exact a3 i (by omega)
  · rw [show mTwN.toInt.toNat = N by omega, ti_up]
  · have hv1 := ti_a1 (x := v) (by omega)
    refine hrec _ _ ⟨by omega, fun i hi => ?_⟩ (by omega)
    by_cases e : i = v.toInt.toNat
    · rw [e, ti_up]
    · rw [ti_un e]
      exact a3 i (by omega)
theorem mk_full {N : Nat} {twN : Int32} (hT : twN.toInt = N) (hN : N ≤ 7) : LMk N ((1 <<< (twN &&& 31)) - 1) (fun _ => true) := by
  have f : ∀ n : Fin 8, ∀ j : Fin 7, j.val < n.val → (((1 : Int32) <<< (Int32.ofNat n.val &&& 31)) - 1).toBitVec.getLsbD j.val = true := by decide +kernel
  have e : Int32.ofNat N = twN := ti_eq.mpr (by rw [ti_nI (by omega)]; omega)
  intro j hj
  have := f ⟨N, by omega⟩ ⟨j, by omega⟩ hj
  simp only [e] at this
  exact ⟨fun _ => rfl, fun _ => this⟩
theorem cnt_t : ∀ N : Nat, cntB (fun _ => true) N = N := by
  intro N
  induction N with
  | zero => rfl
  | succ N ih =>
    show cntB (fun _ => true) N + 1 = N + 1
    rw [ih]
theorem s_round : st_round RR := by
  intro mThr mTn mCk mRw mSt mTr mFM mFS mTpN mLw mAt mTwN mBE mBEn mSun mCkT mCkD mCkK mCkA mRow mStT mRun mUp mSta mSty mDly mTri mFnd mTap mLwT mLwD mLwO mLwM mTwT mSetA mDri mOrd mBst tnN ckN stN trN dsT dsC tpN lwN rdS rdM rdE rdD twN rsW rsE rwN suns ckT ckD shf lnT ways ups sts sty dly gAp gOp stp bst sgn lwT lwD rdT rdO lwK lwM twS twM twD rsO rsB rwA hR a1 a2 
  obtain ⟨hTn, hCk, hLn, hTp, hLw, hTw, hRw⟩ := id hR
  obtain ⟨e2, hb2, hq2⟩ := id hTn
  obtain ⟨e3, hb3, hq3⟩ := id hTw
  have e3' := e3
  subst e2
  subst e3
  have hT : mTwN.toInt = (mTwN.toInt.toNat : Nat) := by omega
  generalize hNd : mTwN.toInt.toNat = N at hT
  have hN : N ≤ 7 := by omega
  have hB : TWb N twS twM twD := by
    intro j hj
    obtain ⟨g1, g2, g3, g4, g5, g6⟩ := hq3 j (by omega)
    have hct := ti_c (mTwT j)
    have k := hq2 (mTwT j).toNatClampNeg (by omega)
    rw [g2]
    exact ⟨k.2, g6, g4.1⟩
  have hW : TWm N twS twM twD mSun mTwT mSetA mDri := by
    intro j hj
    obtain ⟨g1, g2, g3, g4, g5, g6⟩ := hq3 j (by omega)
    have hct := ti_c (mTwT j)
    have k := hq2 (mTwT j).toNatClampNeg (by omega)
    exact ⟨g3, g5, by omega, by rw [← ti_c, k.1, g2]⟩
  have mSame : ∀ j : Nat, j < N → mSetA j = twM j := fun j hj => (hW j hj).1
  simp only [p_O_round, p_M_round, k_has, k_isTown hb2.1, k_isMinute, k_mMinute, bi0, Classical.not_not]
  by_cases h1 : 0 ≤ a1.toInt ∧ a1.toInt < mTn.toInt
  case neg => exact tk_f h1 (tk_f h1 (k_m36 hT hN (Or.inl rfl) (fun _ => ⟨rfl, hR⟩) (fun h => absurd h.symm i10)))
  refine tk_t h1 ?_
  by_cases h2 : 0 ≤ a2.toInt ∧ a2.toInt < 576000
  case neg => exact tk_f h2 (tk_t h1 (tk_f h2 (k_m36 hT hN (Or.inl rfl) (fun _ => ⟨rfl, hR⟩) (fun h => absurd h.symm i10))))
  refine tk_t h2 ?_
  by_cases h3 : mTwN = 0
  case pos => exact tn_f h3 (tk_t h1 (tk_t h2 (tn_f (by rw [h3]; decide) (k_m36 hT hN (Or.inl rfl) (fun _ => ⟨rfl, hR⟩) (fun h => absurd h.symm i10)))))
  have h3' : ¬ mTwN.toInt = 0 := fun k => h3 (ti_eq.mpr (by rw [k, c_0]))
  refine tn_t h3 (k_allSet hT hN (fun hall => tn_t i10 ⟨ti_in h1.1 (by omega), ?_⟩) (fun ⟨j, j1, j2⟩ => tn_f rfl (tk_t h1 ?_)))
  · unfold p_Rs_seek
    have hct := ti_c a1
    have hs := hq2 a1.toNatClampNeg (by omega)
    obtain ⟨x0, hx0⟩ : ∃ x : RSt, ((0, fun _ => 0, fun _ => true, (suns a1.toNatClampNeg).toInt, a2.toInt, 0) : RSt) = x := ⟨_, rfl⟩
    have x1 : x0.g = 0 := by rw [← hx0]
    have x3 : x0.l = fun _ => true := by rw [← hx0]
    have x4 : x0.p = (suns a1.toNatClampNeg).toInt := by rw [← hx0]
    have x5 : x0.t = a2.toInt := by rw [← hx0]
    have x6 : x0.w = 0 := by rw [← hx0]
    refine k_goOn hT hN hB N 8 x0 none 0 _ (suns a1.toNatClampNeg) a2 0 2147483647 2147483647 rsO rsB _ (by rw [x1]; omega) (by omega) (by rw [x1]; rfl) (by rw [x3]; exact mk_full hT hN) x4.symm (by rw [x4]; exact hs.2) x5.symm (by rw [x6]; rfl) (fun i hi => by rw [x1] at hi; omega) (by rw [x3]; exact cnt_t N) (fun j hj => by rw [x5]; exact hall j hj) (by rw [x5, x1]; omega) (by rw [x6]; omega) ⟨c_2147483647, c_2147483647⟩ (fun h => by omega) (fun W E O B k1 k2 => ?_)
    have model : ∀ {QQ : Int32 → Int32 → Int32 → Int32 → Int32 → (Nat → Int32) → (Nat → Int32) → (Nat → Int32) → Prop}, (∀ (W' E' : Int32) (O' B' : Nat → Int32), MBr N (srG N okR (nxR twS twM twD) lfR N x0 none) W' E' B' → (E' < 576000 → ∀ x118 : Int32, x118 = mTwN + 1 → Lp2 (p_M_round_L124 mTn mTwN mSun mTwT mSetA mDri 0 x118 W' E' O' B' QQ) 0 mRow) ∧ (¬ E' < 576000 → QQ (-1) 0 mRw W' E' mRow O' B')) → ((¬ (0 ≤ a2.toInt ∧ a2.toInt < 576000) → Lp2 (p_M_round_L36 mTn mTwN mSun mTwT mSetA mDri a1 a2 0 mRw mBE mBEn mRow mOrd mBst QQ) 0 0) ∧ ((0 ≤ a2.toInt ∧ a2.toInt < 576000) → (mTwN ≤ 0 → Lp2 (p_M_round_L36 mTn mTwN mSun mTwT mSetA mDri a1 a2 0 mRw mBE mBEn mRow mOrd mBst QQ) 0 0) ∧ (¬ mTwN ≤ 0 → Lp2 (p_M_round_L36 mTn mTwN mSun mTwT mSetA mDri a1 a2 0 mRw mBE mBEn mRow mOrd mBst QQ) 1 0))) := by
      intro QQ hq
      refine tk_t h2 (tn_t (by rw [ti_le, c_0]; omega) (k_m36 hT hN (Or.inr rfl) (fun h => ?_) (fun _ _ => ?_)))
      · rcases h with h | ⟨j, j1, j2⟩
        · exact absurd h i10
        · have := hall j j1
          rw [mSame j j1] at j2
          omega
      · exact k_goes hT hN hB hW N 8 x0 none 0 0 a1 a2 0 _ _ mOrd mBst _ (by rw [x1]; omega) (by omega) (by rw [x1]; rfl) (fun j hj => by rw [x3]; exact ⟨fun k => absurd k tb_0, fun k => absurd rfl k⟩) (by omega) (by rw [x4, ← ti_c, hs.1]) (by rw [x4]; exact hs.2) x5.symm (by rw [x6]; rfl) (fun i hi => by rw [x1] at hi; omega) (by rw [x3]; exact cnt_t N) (fun j hj => by rw [x5]; exact hall j hj) (by rw [x5, x1]; omega) (by rw [x6]; omega) ⟨c_1073741824, c_1073741824⟩ (fun W' E' O' B' k1' _ => hq W' E' O' B' k1')
    generalize srG N okR (nxR twS twM twD) lfR N x0 none = res at k1 model
    dsimp only
    rw [ti_lt, c_576000]
    cases res with
    | none =>
      obtain ⟨g1, g2⟩ : W.toInt = 2147483647 ∧ E.toInt = 2147483647 := k1
      refine tn_t (by omega) (tk_t h1 (model (fun W' E' O' B' k1' => ?_)))
      obtain ⟨g1', g2'⟩ : W'.toInt = 1073741824 ∧ E'.toInt = 1073741824 := k1'
      rw [ti_lt, c_576000]
      exact tn_t (by omega) ⟨rfl, hR⟩
    | some b =>
      obtain ⟨g1, g2, g3⟩ : W.toInt = b.1 ∧ E.toInt = b.2.1 ∧ ∀ i : Nat, i < N → (B i).toInt = b.2.2 i := k1
      by_cases c : E.toInt < 576000
      · unfold p_Rw_clear
        refine tn_f c (k_rowsO hT hN (fun z A hz hA1 hA2 => tk_t h1 (model (fun W' E' O' B' k1' => ?_))))
        obtain ⟨g1', g2', g3'⟩ : W'.toInt = b.1 ∧ E'.toInt = b.2.1 ∧ ∀ i : Nat, i < N → (B' i).toInt = b.2.2 i := k1'
        rw [ti_lt, c_576000, forall_eq]
        refine tn_f (by omega) (k_rowsM hT hN (fun A' hB1 hB2 => ⟨ti_eq.mpr (by omega), hTn, hCk, hLn, hTp, hLw, hTw, ⟨?_, by omega, fun i hi => ?_⟩⟩))
        · rw [ti_eq, ti_a1 (by omega)]
          omega
        · by_cases e : i = N
          · rw [e, hA2, hB2, ti_eq]
            omega
          · have i1 : i < N := by omega
            rw [hA1 i i1, hB1 i i1, ti_eq, g3 i i1, g3' i i1]
      · refine tn_t c (tk_t h1 (model (fun W' E' O' B' k1' => ?_)))
        obtain ⟨g1', g2', g3'⟩ : W'.toInt = b.1 ∧ E'.toInt = b.2.1 ∧ ∀ i : Nat, i < N → (B' i).toInt = b.2.2 i := k1'
        rw [ti_lt, c_576000]
        exact tn_t (by omega) ⟨rfl, hR⟩
  · refine tk_t h2 (tn_t (by rw [ti_le, c_0]; omega) (k_m36 hT hN (Or.inr rfl) (fun _ => ⟨rfl, hR⟩) (fun _ h => ?_)))
    have := h j j1
    rw [mSame j j1] at this
    omega

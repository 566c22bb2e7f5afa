theorem s_untell : st_untell RR := by
  intro mThr mTn mCk mRw mSt mTr mFM mFS mTpN mLw mAt mTwN mBE mBEn mSun mCkT mCkD mCkK mCkA mRow mStT mRun mUp mSta mSty mDly mTri mFnd mTap mLwT mLwD mLwO mLwM mTwT mSetA mDri mOrd mBst tnN ckN stN trN dsT dsC tpN lwN rdS rdM rdE rdD twN rsW rsE rwN suns ckT ckD shf lnT ways ups sts sty dly gAp gOp stp bst sgn lwT lwD rdT rdO lwK lwM twS twM twD rsO rsB rwA hR _
  obtain ⟨hTn, hCk, hLn, hTp, hLw, hTw, hRw⟩ := id hR
  unfold p_O_untell p_Tn_takeClockBack p_Si_dropLast p_M_untell
  obtain ⟨e1, hb, hq⟩ := id hCk
  subst e1
  have h0 : (0 : Int32).toInt = 0 := rfl
  refine ⟨fun h => ⟨fun _ => ⟨rfl, hR⟩, fun g => absurd h g⟩, fun h => ?_⟩
  rw [ti_eq, h0] at h
  refine ⟨fun g => ?_, fun g x hx => ⟨fun g2 => absurd (by rw [ti_eq, h0]; exact (by rw [ti_eq, h0] at g2; exact g2)) (by rw [ti_eq, h0]; exact h), fun _ x2 hx2 => ⟨hx.trans hx2.symm, ?_⟩⟩⟩
  · rw [ti_le, h0] at g
    omega
  · subst hx2
    subst hx
    have hs : (mCk - 1).toInt = mCk.toInt - 1 := by
      rw [ti_sub] <;> (show _ <;> simp <;> omega)
    refine ⟨hTn, ⟨rfl, by omega, fun i hi => hq i (by omega)⟩, hLn, hTp, hLw, hTw, hRw⟩
theorem s_count : st_count RR := by
  intro mThr mTn mCk mRw mSt mTr mFM mFS mTpN mLw mAt mTwN mBE mBEn mSun mCkT mCkD mCkK mCkA mRow mStT mRun mUp mSta mSty mDly mTri mFnd mTap mLwT mLwD mLwO mLwM mTwT mSetA mDri mOrd mBst tnN ckN stN trN dsT dsC tpN lwN rdS rdM rdE rdD twN rsW rsE rwN suns ckT ckD shf lnT ways ups sts sty dly gAp gOp stp bst sgn lwT lwD rdT rdO lwK lwM twS twM twD rsO rsB rwA hR a1
  obtain ⟨hTn, hCk, hLn, hTp, hLw, hTw, hRw⟩ := id hR
  have e1 := hTn.1
  have e2 := hCk.1
  have e3 := hLn.1
  have e4 := hLn.2.1
  have e5 := hLw.1
  have e6 := hTw.1
  have e7 := hRw.1
  have e8 := hTp.1
  unfold p_O_count p_M_count
  by_cases h0 : a1 = 0
  · exact ⟨fun _ => ⟨fun _ => ⟨e1.symm, hR⟩, fun g => absurd h0 g⟩, fun g => absurd h0 g⟩
  refine ⟨fun g => absurd g h0, fun _ => ?_⟩
  by_cases h1 : a1 = 1
  · exact ⟨fun _ => ⟨fun g => absurd g h0, fun _ => ⟨fun _ => ⟨e2.symm, hR⟩, fun g => absurd h1 g⟩⟩, fun g => absurd h1 g⟩
  refine ⟨fun g => absurd g h1, fun _ => ?_⟩
  by_cases h2 : a1 = 2
  · exact ⟨fun _ => ⟨fun g => absurd g h0, fun _ => ⟨fun g => absurd g h1, fun _ => ⟨fun _ => ⟨e3.symm, hR⟩, fun g => absurd h2 g⟩⟩⟩, fun g => absurd h2 g⟩
  refine ⟨fun g => absurd g h2, fun _ => ?_⟩
  by_cases h3 : a1 = 3
  · exact ⟨fun _ => ⟨fun g => absurd g h0, fun _ => ⟨fun g => absurd g h1, fun _ => ⟨fun g => absurd g h2, fun _ => ⟨fun _ => ⟨e4.symm, hR⟩, fun g => absurd h3 g⟩⟩⟩⟩, fun g => absurd h3 g⟩
  refine ⟨fun g => absurd g h3, fun _ => ?_⟩
  by_cases h4 : a1 = 4
  · exact ⟨fun _ => ⟨fun g => absurd g h0, fun _ => ⟨fun g => absurd g h1, fun _ => ⟨fun g => absurd g h2, fun _ => ⟨fun g => absurd g h3, fun _ => ⟨fun _ => ⟨e5.symm, hR⟩, fun g => absurd h4 g⟩⟩⟩⟩⟩, fun g => absurd h4 g⟩
  refine ⟨fun g => absurd g h4, fun _ => ?_⟩
  by_cases h5 : a1 = 5
  · exact ⟨fun _ => ⟨fun g => absurd g h0, fun _ => ⟨fun g => absurd g h1, fun _ => ⟨fun g => absurd g h2, fun _ => ⟨fun g => absurd g h3, fun _ => ⟨fun g => absurd g h4, fun _ => ⟨fun _ => ⟨e6.symm, hR⟩, fun g => absurd h5 g⟩⟩⟩⟩⟩⟩, fun g => absurd h5 g⟩
  refine ⟨fun g => absurd g h5, fun _ => ?_⟩
  by_cases h6 : a1 = 6
  · exact ⟨fun _ => ⟨fun g => absurd g h0, fun _ => ⟨fun g => absurd g h1, fun _ => ⟨fun g => absurd g h2, fun _ => ⟨fun g => absurd g h3, fun _ => ⟨fun g => absurd g h4, fun _ => ⟨fun g => absurd g h5, fun _ => ⟨fun _ => ⟨e7.symm, hR⟩, fun g => absurd h6 g⟩⟩⟩⟩⟩⟩⟩, fun g => absurd h6 g⟩
  refine ⟨fun g => absurd g h6, fun _ => ?_⟩
  by_cases h7 : a1 = 7
  · exact ⟨fun _ => ⟨fun g => absurd g h0, fun _ => ⟨fun g => absurd g h1, fun _ => ⟨fun g => absurd g h2, fun _ => ⟨fun g => absurd g h3, fun _ => ⟨fun g => absurd g h4, fun _ => ⟨fun g => absurd g h5, fun _ => ⟨fun g => absurd g h6, fun _ => ⟨fun _ => ⟨e8.symm, hR⟩, fun g => absurd h7 g⟩⟩⟩⟩⟩⟩⟩⟩, fun g => absurd h7 g⟩
  exact ⟨fun g => absurd g h7, fun _ => ⟨fun g => absurd g h0, fun _ => ⟨fun g => absurd g h1, fun _ => ⟨fun g => absurd g h2, fun _ => ⟨fun g => absurd g h3, fun _ => ⟨fun g => absurd g h4, fun _ => ⟨fun g => absurd g h5, fun _ => ⟨fun g => absurd g h6, fun _ => ⟨fun g => absurd g h7, fun _ => ⟨rfl, hR⟩⟩⟩⟩⟩⟩⟩⟩⟩⟩
theorem s_close : st_close RR := by
  intro mThr mTn mCk mRw mSt mTr mFM mFS mTpN mLw mAt mTwN mBE mBEn mSun mCkT mCkD mCkK mCkA mRow mStT mRun mUp mSta mSty mDly mTri mFnd mTap mLwT mLwD mLwO mLwM mTwT mSetA mDri mOrd mBst tnN ckN stN trN dsT dsC tpN lwN rdS rdM rdE rdD twN rsW rsE rwN suns ckT ckD shf lnT ways ups sts sty dly gAp gOp stp bst sgn lwT lwD rdT rdO lwK lwM twS twM twD rsO rsB rwA hR _
  obtain ⟨hTn, hCk, hLn, hTp, hLw, hTw, hRw⟩ := id hR
  unfold p_O_close p_Ln_clear p_M_close
  obtain ⟨e1, e2, hb1, hb2, hb3, hw, hq1, hq2, hq3⟩ := id hLn
  have h0 : (0 : Int32).toInt = 0 := rfl
  exact ⟨e2.symm, hTn, hCk, ⟨rfl, rfl, by rw [h0]; omega, by rw [h0]; omega, by rw [h0]; omega, hw, fun i hi => by rw [h0] at hi; omega, fun i hi => by rw [h0] at hi; omega, fun i hi => by rw [h0] at hi; omega⟩, hTp, hLw, hTw, hRw⟩
theorem s_town : st_town RR := by
  intro mThr mTn mCk mRw mSt mTr mFM mFS mTpN mLw mAt mTwN mBE mBEn mSun mCkT mCkD mCkK mCkA mRow mStT mRun mUp mSta mSty mDly mTri mFnd mTap mLwT mLwD mLwO mLwM mTwT mSetA mDri mOrd mBst tnN ckN stN trN dsT dsC tpN lwN rdS rdM rdE rdD twN rsW rsE rwN suns ckT ckD shf lnT ways ups sts sty dly gAp gOp stp bst sgn lwT lwD rdT rdO lwK lwM twS twM twD rsO rsB rwA hR a1
  obtain ⟨hTn, hCk, hLn, hTp, hLw, hTw, hRw⟩ := id hR
  obtain ⟨e1, hb, hq⟩ := id hTn
  subst e1
  have h0 : (0 : Int32).toInt = 0 := rfl
  have c1 : (-720 : Int32).toInt = -720 := rfl
  have c2 : (720 : Int32).toInt = 720 := rfl
  have c3 : (-720 : Int64).toInt = -720 := rfl
  have c4 : (720 : Int64).toInt = 720 := rfl
  have c5 : (16 : Int32).toInt = 16 := rfl
  unfold p_O_town p_Tn_settle p_M_town
  rw [ti_lt, ti_le, ti_lt, c1, c2, c5]
  refine ⟨fun h => w_in (fun g => by omega) (fun g => ⟨fun _ => ⟨rfl, hR⟩, fun k => absurd rfl k⟩), fun h => ⟨fun h2 => ⟨fun h3 => ⟨ti_in hb.1 (by omega), fun x hx => w_in (fun g => ⟨fun k => absurd k i10, fun _ => ⟨fun k => ?_, fun k => ⟨ti_in hb.1 (by omega), fun x2 hx2 => ⟨by rw [hx, hx2], ?_⟩⟩⟩⟩) (fun g => by omega)⟩, fun h3 => w_in (fun g => ⟨fun k => absurd k i10, fun _ => ⟨fun k => ⟨rfl, hR⟩, fun k => ?_⟩⟩) (fun g => by omega)⟩, fun h2 => w_in (fun g => by omega) (fun g => ⟨fun _ => ⟨rfl, hR⟩, fun k => absurd rfl k⟩)⟩⟩
  · rw [ti_eq, c5] at k
    omega
  · subst hx2
    subst hx
    have hs : (mTn + 1).toInt = mTn.toInt + 1 := by
      rw [ti_add] <;> (show _ <;> simp <;> omega)
    have old : ∀ j : Nat, (j : Int) < mTn.toInt → upd suns mTn.toNatClampNeg a1 j = suns j := fun j hj => ti_un (by rw [ti_c]; omega)
    have oldc : ∀ y : Int32, 0 ≤ y.toInt → y.toInt < mTn.toInt → upd suns mTn.toNatClampNeg a1 y.toNatClampNeg = suns y.toNatClampNeg := fun y g1 g2 => ti_un (by rw [ti_c, ti_c]; omega)
    refine ⟨⟨rfl, by omega, fun i hi => ?_⟩, ⟨hCk.1, hCk.2.1, fun i hi => ?_⟩, ⟨hLn.1, hLn.2.1, hLn.2.2.1, hLn.2.2.2.1, hLn.2.2.2.2.1, hLn.2.2.2.2.2.1, fun i hi => ?_, hLn.2.2.2.2.2.2.2.1, hLn.2.2.2.2.2.2.2.2⟩, hTp, ⟨hLw.1, hLw.2.1, fun i hi => ?_, hLw.2.2.2⟩, ⟨hTw.1, hTw.2.1, fun i hi => ?_⟩, hRw⟩
    · by_cases hi2 : (i : Int) < mTn.toInt
      · rw [old i hi2, ti_un (by rw [ti_c]; omega)]
        exact hq i hi2
      · have ei : i = mTn.toNatClampNeg := by rw [ti_c]; omega
        subst ei
        rw [ti_up, ti_up]
        omega
    · obtain ⟨g1, g2, g3, g4, g5⟩ := hCk.2.2 i hi
      refine ⟨g1, g2, by omega, g4, ?_⟩
      rcases g5 with ⟨k1, k2⟩ | k1 | ⟨k1, k2, k3⟩
      · exact Or.inl ⟨k1, by rw [oldc _ g3.1 g3.2]; exact k2⟩
      · exact Or.inr (Or.inl k1)
      · exact Or.inr (Or.inr ⟨k1, by omega, by rw [oldc _ k2.1 k2.2]; exact k3⟩)
    · obtain ⟨g1, g2, g3⟩ := hLn.2.2.2.2.2.2.1 i hi
      exact ⟨g1, g2, by omega⟩
    · obtain ⟨g1, g2, g3, g4⟩ := hLw.2.2.1 i hi
      exact ⟨g1, g2, by omega, g4⟩
    · obtain ⟨g1, g2, g3⟩ := hTw.2.2 i hi
      exact ⟨by omega, by rw [oldc _ g1.1 g1.2]; exact g2, g3⟩
  · exact absurd (by rw [ti_eq, c5]; omega) k

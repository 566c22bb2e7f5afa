set_option maxHeartbeats 600000
/-! sign: four signs come in -/
def un2 {A B : Type} (b : (A → B → Prop) → A → B → Prop) (k : Nat) (x : A) (y : B) : Prop := lpN1 (A := A × B) (fun rec z => b (fun x y => rec (x, y)) z.1 z.2) k (x, y)
theorem un2_s {A B : Type} {b : (A → B → Prop) → A → B → Prop} {k : Nat} {x : A} {y : B} (h : b (un2 b k) x y) : un2 b (k + 1) x y := h
theorem un2_l {A B : Type} {b : (A → B → Prop) → A → B → Prop} {k : Nat} {x : A} {y : B} (h : un2 b k x y) : Lp2 b x y := ⟨k, h⟩
def un3 {A B C : Type} (b : (A → B → C → Prop) → A → B → C → Prop) (k : Nat) (x : A) (y : B) (z : C) : Prop := un2 (A := A) (B := B × C) (fun rec x w => b (fun x y z => rec x (y, z)) x w.1 w.2) k x (y, z)
theorem un3_s {A B C : Type} {b : (A → B → C → Prop) → A → B → C → Prop} {k : Nat} {x : A} {y : B} {z : C} (h : b (un3 b k) x y z) : un3 b (k + 1) x y z := h
theorem un3_l {A B C : Type} {b : (A → B → C → Prop) → A → B → C → Prop} {k : Nat} {x : A} {y : B} {z : C} (h : un3 b k x y z) : Lp3 b x y z := ⟨k, h⟩
theorem k_addFour {v1 tpN : Int32} {sgn : Nat → Int32} {Q : Int32 → Int32 → (Nat → Int32) → Prop} (h : 0 ≤ tpN.toInt ∧ tpN.toInt ≤ 96) (q : ∀ (z : Int32) (f : Nat → Int32), z.toInt = tpN.toInt + 4 → (∀ i : Nat, (i : Int) < tpN.toInt → f i = sgn i) → f tpN.toInt.toNat = byO v1 24 → f (tpN.toInt.toNat + 1) = byO v1 16 → f (tpN.toInt.toNat + 2) = byO v1 8 → f (tpN.toInt.toNat + 3) = byO v1 0 → Q z z f) : Lp3 (p_Tp_addFour_L16 v1 Q) 24 tpN sgn := by
  have h1 := ti_a1 (x := tpN) (by omega)
  have h2 := ti_a1 (x := tpN + 1) (by omega)
  have h3 := ti_a1 (x := tpN + 1 + 1) (by omega)
  have h4 := ti_a1 (x := tpN + 1 + 1 + 1) (by omega)
  refine un3_l (k := 5) ?_
  refine un3_s (k := 4) ?_
  refine ⟨fun g => absurd g (by decide), fun _ => ⟨ti_in (by omega) (by omega), ?_⟩⟩
  rintro _ rfl _ rfl
  rw [show (24 : Int32) + (-8) = 16 by decide, show (((v1).toUInt32 >>> ((24 : Int32).toUInt32 &&& Int32.toUInt32 31)).toInt32) &&& 255 = byO v1 24 from rfl]
  refine un3_s (k := 3) ?_
  refine ⟨fun g => absurd g (by decide), fun _ => ⟨ti_in (by omega) (by omega), ?_⟩⟩
  rintro _ rfl _ rfl
  rw [show (16 : Int32) + (-8) = 8 by decide, show (((v1).toUInt32 >>> ((16 : Int32).toUInt32 &&& Int32.toUInt32 31)).toInt32) &&& 255 = byO v1 16 from rfl]
  refine un3_s (k := 2) ?_
  refine ⟨fun g => absurd g (by decide), fun _ => ⟨ti_in (by omega) (by omega), ?_⟩⟩
  rintro _ rfl _ rfl
  rw [show (8 : Int32) + (-8) = 0 by decide, show (((v1).toUInt32 >>> ((8 : Int32).toUInt32 &&& Int32.toUInt32 31)).toInt32) &&& 255 = byO v1 8 from rfl]
  refine un3_s (k := 1) ?_
  refine ⟨fun g => absurd g (by decide), fun _ => ⟨ti_in (by omega) (by omega), ?_⟩⟩
  rintro _ rfl _ rfl
  rw [show (0 : Int32) + (-8) = (-8) by decide, show (((v1).toUInt32 >>> ((0 : Int32).toUInt32 &&& Int32.toUInt32 31)).toInt32) &&& 255 = byO v1 0 from rfl]
  refine un3_s (k := 0) ?_
  refine ⟨fun _ => ?_, fun g => absurd (by decide) g⟩
  rw [ti_c, ti_c, ti_c, ti_c]
  refine q _ _ (by omega) (fun i hi => ?_) ?_ ?_ ?_ ?_
  · rw [ti_un (by omega), ti_un (by omega), ti_un (by omega), ti_un (by omega)]
  · rw [ti_un (by omega), ti_un (by omega), ti_un (by omega), ti_up]
  · rw [ti_un (by omega), ti_un (by omega), show tpN.toInt.toNat + 1 = (tpN + 1).toInt.toNat by omega, ti_up]
  · rw [ti_un (by omega), show tpN.toInt.toNat + 2 = (tpN + 1 + 1).toInt.toNat by omega, ti_up]
  · rw [show tpN.toInt.toNat + 3 = (tpN + 1 + 1 + 1).toInt.toNat by omega, ti_up]
theorem k_mSign {v1 tpN t : Int32} {mTap : Nat → Int32} {Q : Int32 → Int32 → Int32 → (Nat → Int32) → Prop} (h : 0 ≤ tpN.toInt ∧ tpN.toInt ≤ 96) (q : ∀ (z : Int32) (f : Nat → Int32), z.toInt = tpN.toInt + 4 → (∀ i : Nat, (i : Int) < tpN.toInt → f i = mTap i) → f tpN.toInt.toNat = byM v1 0 → f (tpN.toInt.toNat + 1) = byM v1 1 → f (tpN.toInt.toNat + 2) = byM v1 2 → f (tpN.toInt.toNat + 3) = byM v1 3 → Q z t z f) : Lp2 (p_M_sign_L18 v1 t tpN Q) 0 mTap := by
  have h0 : (tpN + 0).toInt = tpN.toInt := by rw [ti_add (by rw [c_0]; omega) (by rw [c_0]; omega), c_0]; omega
  have h1 := ti_a1 (x := tpN) (by omega)
  have h2 : (tpN + 2).toInt = tpN.toInt + 2 := by rw [ti_add (by rw [c_2]; omega) (by rw [c_2]; omega), c_2]
  have h3 : (tpN + 3).toInt = tpN.toInt + 3 := by rw [ti_add (by rw [c_3]; omega) (by rw [c_3]; omega), c_3]
  have h4 : (tpN + 4).toInt = tpN.toInt + 4 := by rw [ti_add (by rw [c_4]; omega) (by rw [c_4]; omega), c_4]
  refine un2_l (k := 5) ?_
  refine un2_s (k := 4) ?_
  refine ⟨fun g => absurd g (by decide), fun _ => ⟨ti_in (by omega) (by omega), ?_⟩⟩
  rintro _ rfl
  rw [show (0 : Int32) + 1 = 1 by decide, show (v1 >>> ((24 - (8 * 0)) &&& 31)) &&& 255 = byM v1 0 from rfl]
  refine un2_s (k := 3) ?_
  refine ⟨fun g => absurd g (by decide), fun _ => ⟨ti_in (by omega) (by omega), ?_⟩⟩
  rintro _ rfl
  rw [show (1 : Int32) + 1 = 2 by decide, show (v1 >>> ((24 - (8 * 1)) &&& 31)) &&& 255 = byM v1 1 from rfl]
  refine un2_s (k := 2) ?_
  refine ⟨fun g => absurd g (by decide), fun _ => ⟨ti_in (by omega) (by omega), ?_⟩⟩
  rintro _ rfl
  rw [show (2 : Int32) + 1 = 3 by decide, show (v1 >>> ((24 - (8 * 2)) &&& 31)) &&& 255 = byM v1 2 from rfl]
  refine un2_s (k := 1) ?_
  refine ⟨fun g => absurd g (by decide), fun _ => ⟨ti_in (by omega) (by omega), ?_⟩⟩
  rintro _ rfl
  rw [show (3 : Int32) + 1 = 4 by decide, show (v1 >>> ((24 - (8 * 3)) &&& 31)) &&& 255 = byM v1 3 from rfl]
  refine un2_s (k := 0) ?_
  refine ⟨fun _ => ?_, fun g => absurd (by decide) g⟩
  rintro _ rfl
  rw [ti_c, ti_c, ti_c, ti_c]
  refine q _ _ (by omega) (fun i hi => ?_) ?_ ?_ ?_ ?_
  · rw [ti_un (by omega), ti_un (by omega), ti_un (by omega), ti_un (by omega)]
  · rw [ti_un (by omega), ti_un (by omega), ti_un (by omega), show tpN.toInt.toNat = (tpN + 0).toInt.toNat by omega, ti_up]
  · rw [ti_un (by omega), ti_un (by omega), show tpN.toInt.toNat + 1 = (tpN + 1).toInt.toNat by omega, ti_up]
  · rw [ti_un (by omega), show tpN.toInt.toNat + 2 = (tpN + 2).toInt.toNat by omega, ti_up]
  · rw [show tpN.toInt.toNat + 3 = (tpN + 3).toInt.toNat by omega, ti_up]
theorem s_sign : st_sign RR := by
  intro mThr mTn mCk mRw mSt mTr mFM mFS mTpN mLw mAt mTwN mBE mBEn mSun mCkT mCkD mCkK mCkA mRow mStT mRun mUp mSta mSty mDly mTri mFnd mTap mLwT mLwD mLwO mLwM mTwT mSetA mDri mOrd mBst tnN ckN stN trN dsT dsC tpN lwN rdS rdM rdE rdD twN rsW rsE rwN suns ckT ckD shf lnT ways ups sts sty dly gAp gOp stp bst sgn lwT lwD rdT rdO lwK lwM twS twM twD rsO rsB rwA hR a1 
  obtain ⟨hTn, hCk, hLn, hTp, hLw, hTw, hRw⟩ := id hR
  obtain ⟨e1, hb, hq⟩ := id hTp
  subst e1
  have h4 : (mTpN + 4).toInt = mTpN.toInt + 4 := by rw [ti_add (by rw [c_4]; omega) (by rw [c_4]; omega), c_4]
  unfold p_O_sign p_Tp_addFour p_M_sign
  simp only [ti_le, h4, c_100, c_96]
  by_cases h : mTpN.toInt + 4 ≤ 100
  case neg => exact tn_t h (tn_t (by omega) ⟨trivial, hR⟩)
  refine tn_f h (k_addFour ⟨hb.1, by omega⟩ (fun z f g0 g1 g2 g3 g4 g5 => tn_f (by omega) (k_mSign ⟨hb.1, by omega⟩ (fun z' f' k0 k1 k2 k3 k4 k5 => ?_))))
  have ez : z' = z := ti_eq.mpr (by omega)
  subst ez
  refine ⟨rfl, hTn, hCk, hLn, ⟨rfl, by omega, fun i hi => ?_⟩, hLw, hTw, hRw⟩
  by_cases c : (i : Int) < mTpN.toInt
  · rw [g1 i c, k1 i c]
    exact hq i c
  · have d : i = mTpN.toInt.toNat ∨ i = mTpN.toInt.toNat + 1 ∨ i = mTpN.toInt.toNat + 2 ∨ i = mTpN.toInt.toNat + 3 := by omega
    rcases d with d | d | d | d <;> subst d
    · rw [g2, k2, by_24]
      exact ⟨rfl, by_r⟩
    · rw [g3, k3, by_16]
      exact ⟨rfl, by_r⟩
    · rw [g4, k4, by_8]
      exact ⟨rfl, by_r⟩
    · rw [g5, k5, by_0]
      exact ⟨rfl, by_r⟩

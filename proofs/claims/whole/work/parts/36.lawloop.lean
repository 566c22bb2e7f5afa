def R_law : String := "OneTimeLaw"
def lw_P (b : Addr) (xs : List Int32) (args : Array Value) (s : State) : Prop := args = #[.ref b] ∧ s.IntsAt b xs ∧ xs.length ≤ 3584 ∧ (Jvm.Cond.and given_1 narrow_1).before args s = true
def lw_Q (_ : Array Value) (s : State) (o : Outcome) (t : State) : Prop := o = .returned (some (.int 1)) ∧ Framed s o t [] 601024 7293034
def lw_Z (below : List Frame) (a : Array Value) (s : State) : State → Prop := fun t => ∃ o, t.status = .running ∧ Ended t below o ∧ lw_Q a s o t
/-- the law's own end, with 1 on the stack, nothing written that was there before, its room as the claim has it -/
theorem lw_ret {p : Program} {l : Launch} {e : Env} {s : State} {m : MethodId} {below : List Frame} {meth : Method} {c : Code} {b : Nat} (hx : p.tables.exec = Jvm.exec) (hb : c.code = code) (hr : meth.sig.returnType = ret) (hlocks : meth.locks = false) {pc : Nat} {H : Heap} {ls : Array Slot} (hdg : decode code pc = .ok (.ireturn, 1)) : W p l e room_1 s m #[Value.ref b] below meth c H [] 601024 7293034 (lw_Z below #[Value.ref b] s) (F0 m pc ls [.int 1]) := by
  intro T hT X
  obtain ⟨fs, hret, hrun, hended, hW, hframe⟩ := X.leave (v := some (.int 1)) (hlocks := hlocks) (fun h => by rw [hr] at h; cases h)
  have hmeth' : T.vm.method? m = some meth := X.method'
  refine ⟨T.setFrames fs, ?_, .returned (some (.int 1)), hrun, hended, rfl, ⟨_, rfl⟩, hW, hframe⟩
  jvm_step X.here [X.here.top, hx, hb, hdg, hmeth', hr, ret, narrow_b1]
  (try refine ⟨rfl, ?_⟩); (try refine ⟨rfl, ?_⟩)
  first | (intro acts; rw [hret _ acts rfl rfl rfl]) | rw [hret _ _ rfl rfl rfl]
  exact Steps.refl _
/-- what holds at the law's entry: the machine, the code, the tables' words (any of lw_tbl by 'hts w (by decide +kernel)'), the script of L ints xs at the cell b, what the Statement gives of the start (any of its parts by flat_of_before) -/
def lw_At (p : Program) (s : State) (m : MethodId) (meth : Method) (c : Code) (b L : Nat) (xs : Nat → Int32) : Prop :=
  p.tables.exec = Jvm.exec ∧ c.code = code ∧ meth.sig.returnType = ret ∧ c.maxLocals = 7 ∧ s.vm.findClass R_law = some m.cls ∧ (∀ w ∈ lw_tbl, w.before #[Value.ref b] s = true) ∧ va_X b L xs s s.heap ∧ b < s.heap.size ∧ meth.locks = false ∧ (Jvm.Cond.and given_1 narrow_1).before #[Value.ref b] s = true
section LL
variable {p : Program} {l : Launch} {e : Env} {s : State} {m : MethodId} {below : List Frame} {meth : Method} {cd : Code} {D : va_G} {b L : Nat} {xs : Nat → Int32} {mq oq : Nat → Nat} {mcl ocl : Nat → ClassId} {qo : Nat} {cJ : ClassId} {adK adV : Nat → Nat} {cells slots : Nat} {x4 : Int32}
set_option maxHeartbeats 1000000 in
set_option maxRecDepth 100000 in
theorem lw_head (hL : L ≤ 3584) (R : Int32 → Int32 → Int32 → Int32 → Int32 → Int32 → Int32 → Int32 → Int32 → Int32 → Int32 → Int32 → Int32 → Int32 → (Nat → Int32) → (Nat → Int32) → (Nat → Int32) → (Nat → Int32) → (Nat → Int32) → (Nat → Int32) → (Nat → Int32) → (Nat → Int32) → (Nat → Int32) → (Nat → Int32) → (Nat → Int32) → (Nat → Int32) → (Nat → Int32) → (Nat → Int32) → (Nat → Int32) → (Nat → Int32) → (Nat → Int32) → (Nat → Int32) → (Nat → Int32) → (Nat → Int32) → (Nat → Int32) → (Nat → Int32) → (Nat → Int32) → (Nat → Int32) → Int32 → Int32 → Int32 → Int32 → Int32 → Int32 → Int32 → Int32 → Int32 → Int32 → Int32 → Int32 → Int32 → Int32 → Int32 → Int32 → (Nat → Int32) → (Nat → Int32) → (Nat → Int32) → (Nat → Int32) → (Nat → Int32) → (Nat → Int32) → (Nat → Int32) → (Nat → Int32) → (Nat → Int32) → (Nat → Int32) → (Nat → Nat → Int32) → (Nat → Nat → Int32) → (Nat → Int32) → (Nat → Int32) → (Nat → Int32) → (Nat → Int32) → (Nat → Int32) → (Nat → Int32) → (Nat → Int32) → (Nat → Int32) → (Nat → Int32) → (Nat → Int32) → (Nat → Int32) → (Nat → Int32) → (Nat → Int32) → (Nat → Int32) → (Nat → Int32) → Prop) (h_town : st_town R) (h_clock : st_clock R) (h_untell : st_untell R) (h_count : st_count R) (h_read : st_read R) (h_when : st_when R) (h_turned : st_turned R) (h_unlike : st_unlike R) (h_one : st_one R) (h_station : st_station R) (h_train : st_train R) (h_leaves : st_leaves R) (h_delay : st_delay R) (h_meet : st_meet R) (h_free : st_free R) (h_close : st_close R) (h_sign : st_sign R) (h_end : st_end R) (h_law : st_law R) (h_judged : st_judged R) (h_late : st_late R) (h_tower : st_tower R) (h_error : st_error R) (h_set : st_set R) (h_round : st_round R) (h_row : st_row R) (C0 : lwC p l s m cd b L xs adK adV) (hr : meth.sig.returnType = ret) (hlocks : meth.locks = false) (j : Nat) (hj : 7 * j ≤ 4000) (hx4 : x4 = nI (7 * j)) (hcs : cells + 1 ≤ room_1.cells ∧ slots + 6 ≤ room_1.slots) (hih : 7 * j + 7 ≤ L → lhN p l e s m below meth cd D b mq oq mcl ocl qo cJ R (lw_Z below #[Value.ref b] s) (cells + 1) (slots + 6) (x4 + 7)) : lhN p l e s m below meth cd D b mq oq mcl ocl qo cJ R (lw_Z below #[Value.ref b] s) cells slots x4 := by
  intro mThr mTn mCk mRw mSt mTr mFM mFS mTpN mLw mAt mTwN mBE mBEn mSun mCkT mCkD mCkK mCkA mRow mStT mRun mUp mSta mSty mDly mTri mFnd mTap mLwT mLwD mLwO mLwM mTwT mSetA mDri mOrd mBst tnN ckN stN trN dsT dsC tpN lwN rdS rdM rdE rdD twN rsW rsE rwN suns ckT ckD shf lnT ways ups sts sty dly gAp gOp stp bst sgn lwT lwD rdT rdO lwK lwM twS twM twD rsO rsB rwA out hR H locs ls ho hl
  obtain ⟨hx, hb, hml, hown, hts, hX, hbl, hE, hSE, htr⟩ := id C0
  have hbA : ¬ (fun q : Nat => s.heap.size ≤ q) b := Nat.not_le.mpr hbl
  refine lv_iload hx hb dL_law_23 (lv_at hl 4 rfl) ?_
  refine lv_aload_n hx hb dL_law_25 rfl (lv_at hl 0 rfl) ?_
  refine va_slen hx hb hX hbl hbA ho.2.2.2.2.1 dL_law_26 ?_
  refine lv_bipush (v := 7) hx hb dL_law_27 (by decide) ?_
  refine lv_isub hx hb dL_law_29 ?_
  refine lv_icmp_gt (tgt := 1296) hx hb dL_law_30 (by decide) (fun c_30 => ?_) (fun c_30 => ?_)
  · refine lv_iconst (v := 1) hx hb dL_law_1296 (by decide) ?_
    refine va_forget (fun q hq => ho.2.2.2.2.1.2.2 q hq) ?_
    have h1 : cells ≤ 601024 := Nat.le_of_succ_le hcs.1
    have h2 : slots ≤ 7293034 := Nat.le_trans (Nat.le_add_right _ _) hcs.2
    refine W.widen (k := 601024) (n := 7293034) h1 h2 ?_
    exact lw_ret hx hb hr hlocks dL_law_1297
  · have hlt : 7 * j + 7 ≤ L := by
      rcases Nat.lt_or_ge L (7 * j + 7) with q | q
      · refine absurd ?_ c_30
        rw [hx4, Int32.lt_iff_toInt_lt, nI_toInt (by omega), Int32.toInt_sub]
        show ((nI L).toInt - (7 : Int32).toInt).bmod (2 ^ 32) < _
        rw [nI_toInt (by omega), show (7 : Int32).toInt = 7 from rfl, Int.bmod_eq_of_le (by omega) (by omega)]
        omega
      · exact q
    have hin : ∀ k : Nat, k < 7 → vp_in (x4 + nI k) L := fun k hk => by
      rw [hx4, nI_add]
      exact vp_in_nI (by omega) (by omega)
    have hin0 : vp_in x4 L := by
      rw [hx4]
      exact vp_in_nI (by omega) (by omega)
    have ih := hih hlt
    refine lv_aload_n hx hb dL_law_33 rfl (lv_at hl 0 rfl) ?_
    refine lv_iload hx hb dL_law_34 (lv_at hl 4 rfl) ?_
    refine va_sld hx hb hX hbl hbA ho.2.2.2.2.1 hin0 dL_law_36 ?_
    refine lv_bipush (v := 31) hx hb dL_law_37 (by decide) ?_
    refine lv_iand hx hb dL_law_39 ?_
    refine lv_topi (fun z ez => ?_)
    by_cases c_0 : z = 0
    · refine lv_tableIn (tgt := 160) (off := 120) hx hb dL_law_40 (by rw [c_0]; decide) (by rw [c_0]; decide) (by rw [c_0]; rfl) (by decide) ?_
      exact lc_town R h_town C0 hin hcs mThr mTn mCk mRw mSt mTr mFM mFS mTpN mLw mAt mTwN mBE mBEn mSun mCkT mCkD mCkK mCkA mRow mStT mRun mUp mSta mSty mDly mTri mFnd mTap mLwT mLwD mLwO mLwM mTwT mSetA mDri mOrd mBst tnN ckN stN trN dsT dsC tpN lwN rdS rdM rdE rdD twN rsW rsE rwN suns ckT ckD shf lnT ways ups sts sty dly gAp gOp stp bst sgn lwT lwD rdT rdO lwK lwM twS twM twD rsO rsB rwA out hR H locs ls ho hl ih
    by_cases c_1 : z = 1
    · refine lv_tableIn (tgt := 185) (off := 145) hx hb dL_law_40 (by rw [c_1]; decide) (by rw [c_1]; decide) (by rw [c_1]; rfl) (by decide) ?_
      exact lc_clock R h_clock C0 hin hcs mThr mTn mCk mRw mSt mTr mFM mFS mTpN mLw mAt mTwN mBE mBEn mSun mCkT mCkD mCkK mCkA mRow mStT mRun mUp mSta mSty mDly mTri mFnd mTap mLwT mLwD mLwO mLwM mTwT mSetA mDri mOrd mBst tnN ckN stN trN dsT dsC tpN lwN rdS rdM rdE rdD twN rsW rsE rwN suns ckT ckD shf lnT ways ups sts sty dly gAp gOp stp bst sgn lwT lwD rdT rdO lwK lwM twS twM twD rsO rsB rwA out hR H locs ls ho hl ih
    by_cases c_2 : z = 2
    · refine lv_tableIn (tgt := 246) (off := 206) hx hb dL_law_40 (by rw [c_2]; decide) (by rw [c_2]; decide) (by rw [c_2]; rfl) (by decide) ?_
      exact lc_untell R h_untell C0 hin hcs mThr mTn mCk mRw mSt mTr mFM mFS mTpN mLw mAt mTwN mBE mBEn mSun mCkT mCkD mCkK mCkA mRow mStT mRun mUp mSta mSty mDly mTri mFnd mTap mLwT mLwD mLwO mLwM mTwT mSetA mDri mOrd mBst tnN ckN stN trN dsT dsC tpN lwN rdS rdM rdE rdD twN rsW rsE rwN suns ckT ckD shf lnT ways ups sts sty dly gAp gOp stp bst sgn lwT lwD rdT rdO lwK lwM twS twM twD rsO rsB rwA out hR H locs ls ho hl ih
    by_cases c_3 : z = 3
    · refine lv_tableIn (tgt := 259) (off := 219) hx hb dL_law_40 (by rw [c_3]; decide) (by rw [c_3]; decide) (by rw [c_3]; rfl) (by decide) ?_
      exact lc_count R h_count C0 hin hcs mThr mTn mCk mRw mSt mTr mFM mFS mTpN mLw mAt mTwN mBE mBEn mSun mCkT mCkD mCkK mCkA mRow mStT mRun mUp mSta mSty mDly mTri mFnd mTap mLwT mLwD mLwO mLwM mTwT mSetA mDri mOrd mBst tnN ckN stN trN dsT dsC tpN lwN rdS rdM rdE rdD twN rsW rsE rwN suns ckT ckD shf lnT ways ups sts sty dly gAp gOp stp bst sgn lwT lwD rdT rdO lwK lwM twS twM twD rsO rsB rwA out hR H locs ls ho hl ih
    by_cases c_4 : z = 4
    · refine lv_tableIn (tgt := 284) (off := 244) hx hb dL_law_40 (by rw [c_4]; decide) (by rw [c_4]; decide) (by rw [c_4]; rfl) (by decide) ?_
      exact lc_read R h_read C0 hin hcs mThr mTn mCk mRw mSt mTr mFM mFS mTpN mLw mAt mTwN mBE mBEn mSun mCkT mCkD mCkK mCkA mRow mStT mRun mUp mSta mSty mDly mTri mFnd mTap mLwT mLwD mLwO mLwM mTwT mSetA mDri mOrd mBst tnN ckN stN trN dsT dsC tpN lwN rdS rdM rdE rdD twN rsW rsE rwN suns ckT ckD shf lnT ways ups sts sty dly gAp gOp stp bst sgn lwT lwD rdT rdO lwK lwM twS twM twD rsO rsB rwA out hR H locs ls ho hl ih
    by_cases c_5 : z = 5
    · refine lv_tableIn (tgt := 352) (off := 312) hx hb dL_law_40 (by rw [c_5]; decide) (by rw [c_5]; decide) (by rw [c_5]; rfl) (by decide) ?_
      exact lc_when R h_when C0 hin hcs mThr mTn mCk mRw mSt mTr mFM mFS mTpN mLw mAt mTwN mBE mBEn mSun mCkT mCkD mCkK mCkA mRow mStT mRun mUp mSta mSty mDly mTri mFnd mTap mLwT mLwD mLwO mLwM mTwT mSetA mDri mOrd mBst tnN ckN stN trN dsT dsC tpN lwN rdS rdM rdE rdD twN rsW rsE rwN suns ckT ckD shf lnT ways ups sts sty dly gAp gOp stp bst sgn lwT lwD rdT rdO lwK lwM twS twM twD rsO rsB rwA out hR H locs ls ho hl ih
    by_cases c_6 : z = 6
    · refine lv_tableIn (tgt := 389) (off := 349) hx hb dL_law_40 (by rw [c_6]; decide) (by rw [c_6]; decide) (by rw [c_6]; rfl) (by decide) ?_
      exact lc_turned R h_turned C0 hin hcs mThr mTn mCk mRw mSt mTr mFM mFS mTpN mLw mAt mTwN mBE mBEn mSun mCkT mCkD mCkK mCkA mRow mStT mRun mUp mSta mSty mDly mTri mFnd mTap mLwT mLwD mLwO mLwM mTwT mSetA mDri mOrd mBst tnN ckN stN trN dsT dsC tpN lwN rdS rdM rdE rdD twN rsW rsE rwN suns ckT ckD shf lnT ways ups sts sty dly gAp gOp stp bst sgn lwT lwD rdT rdO lwK lwM twS twM twD rsO rsB rwA out hR H locs ls ho hl ih
    by_cases c_7 : z = 7
    · refine lv_tableIn (tgt := 469) (off := 429) hx hb dL_law_40 (by rw [c_7]; decide) (by rw [c_7]; decide) (by rw [c_7]; rfl) (by decide) ?_
      exact lc_unlike R h_unlike C0 hin hcs mThr mTn mCk mRw mSt mTr mFM mFS mTpN mLw mAt mTwN mBE mBEn mSun mCkT mCkD mCkK mCkA mRow mStT mRun mUp mSta mSty mDly mTri mFnd mTap mLwT mLwD mLwO mLwM mTwT mSetA mDri mOrd mBst tnN ckN stN trN dsT dsC tpN lwN rdS rdM rdE rdD twN rsW rsE rwN suns ckT ckD shf lnT ways ups sts sty dly gAp gOp stp bst sgn lwT lwD rdT rdO lwK lwM twS twM twD rsO rsB rwA out hR H locs ls ho hl ih
    by_cases c_8 : z = 8
    · refine lv_tableIn (tgt := 506) (off := 466) hx hb dL_law_40 (by rw [c_8]; decide) (by rw [c_8]; decide) (by rw [c_8]; rfl) (by decide) ?_
      exact lc_one R h_one C0 hin hcs mThr mTn mCk mRw mSt mTr mFM mFS mTpN mLw mAt mTwN mBE mBEn mSun mCkT mCkD mCkK mCkA mRow mStT mRun mUp mSta mSty mDly mTri mFnd mTap mLwT mLwD mLwO mLwM mTwT mSetA mDri mOrd mBst tnN ckN stN trN dsT dsC tpN lwN rdS rdM rdE rdD twN rsW rsE rwN suns ckT ckD shf lnT ways ups sts sty dly gAp gOp stp bst sgn lwT lwD rdT rdO lwK lwM twS twM twD rsO rsB rwA out hR H locs ls ho hl ih
    by_cases c_9 : z = 9
    · refine lv_tableIn (tgt := 531) (off := 491) hx hb dL_law_40 (by rw [c_9]; decide) (by rw [c_9]; decide) (by rw [c_9]; rfl) (by decide) ?_
      exact lc_station R h_station C0 hin hcs mThr mTn mCk mRw mSt mTr mFM mFS mTpN mLw mAt mTwN mBE mBEn mSun mCkT mCkD mCkK mCkA mRow mStT mRun mUp mSta mSty mDly mTri mFnd mTap mLwT mLwD mLwO mLwM mTwT mSetA mDri mOrd mBst tnN ckN stN trN dsT dsC tpN lwN rdS rdM rdE rdD twN rsW rsE rwN suns ckT ckD shf lnT ways ups sts sty dly gAp gOp stp bst sgn lwT lwD rdT rdO lwK lwM twS twM twD rsO rsB rwA out hR H locs ls ho hl ih
    by_cases c_10 : z = 10
    · refine lv_tableIn (tgt := 568) (off := 528) hx hb dL_law_40 (by rw [c_10]; decide) (by rw [c_10]; decide) (by rw [c_10]; rfl) (by decide) ?_
      exact lc_train R h_train C0 hin hcs mThr mTn mCk mRw mSt mTr mFM mFS mTpN mLw mAt mTwN mBE mBEn mSun mCkT mCkD mCkK mCkA mRow mStT mRun mUp mSta mSty mDly mTri mFnd mTap mLwT mLwD mLwO mLwM mTwT mSetA mDri mOrd mBst tnN ckN stN trN dsT dsC tpN lwN rdS rdM rdE rdD twN rsW rsE rwN suns ckT ckD shf lnT ways ups sts sty dly gAp gOp stp bst sgn lwT lwD rdT rdO lwK lwM twS twM twD rsO rsB rwA out hR H locs ls ho hl ih
    by_cases c_11 : z = 11
    · refine lv_tableIn (tgt := 645) (off := 605) hx hb dL_law_40 (by rw [c_11]; decide) (by rw [c_11]; decide) (by rw [c_11]; rfl) (by decide) ?_
      exact lc_leaves R h_leaves C0 hin hcs mThr mTn mCk mRw mSt mTr mFM mFS mTpN mLw mAt mTwN mBE mBEn mSun mCkT mCkD mCkK mCkA mRow mStT mRun mUp mSta mSty mDly mTri mFnd mTap mLwT mLwD mLwO mLwM mTwT mSetA mDri mOrd mBst tnN ckN stN trN dsT dsC tpN lwN rdS rdM rdE rdD twN rsW rsE rwN suns ckT ckD shf lnT ways ups sts sty dly gAp gOp stp bst sgn lwT lwD rdT rdO lwK lwM twS twM twD rsO rsB rwA out hR H locs ls ho hl ih
    by_cases c_12 : z = 12
    · refine lv_tableIn (tgt := 682) (off := 642) hx hb dL_law_40 (by rw [c_12]; decide) (by rw [c_12]; decide) (by rw [c_12]; rfl) (by decide) ?_
      exact lc_delay R h_delay C0 hin hcs mThr mTn mCk mRw mSt mTr mFM mFS mTpN mLw mAt mTwN mBE mBEn mSun mCkT mCkD mCkK mCkA mRow mStT mRun mUp mSta mSty mDly mTri mFnd mTap mLwT mLwD mLwO mLwM mTwT mSetA mDri mOrd mBst tnN ckN stN trN dsT dsC tpN lwN rdS rdM rdE rdD twN rsW rsE rwN suns ckT ckD shf lnT ways ups sts sty dly gAp gOp stp bst sgn lwT lwD rdT rdO lwK lwM twS twM twD rsO rsB rwA out hR H locs ls ho hl ih
    by_cases c_13 : z = 13
    · refine lv_tableIn (tgt := 719) (off := 679) hx hb dL_law_40 (by rw [c_13]; decide) (by rw [c_13]; decide) (by rw [c_13]; rfl) (by decide) ?_
      exact lc_meet R h_meet C0 hin hcs mThr mTn mCk mRw mSt mTr mFM mFS mTpN mLw mAt mTwN mBE mBEn mSun mCkT mCkD mCkK mCkA mRow mStT mRun mUp mSta mSty mDly mTri mFnd mTap mLwT mLwD mLwO mLwM mTwT mSetA mDri mOrd mBst tnN ckN stN trN dsT dsC tpN lwN rdS rdM rdE rdD twN rsW rsE rwN suns ckT ckD shf lnT ways ups sts sty dly gAp gOp stp bst sgn lwT lwD rdT rdO lwK lwM twS twM twD rsO rsB rwA out hR H locs ls ho hl ih
    by_cases c_14 : z = 14
    · refine lv_tableIn (tgt := 732) (off := 692) hx hb dL_law_40 (by rw [c_14]; decide) (by rw [c_14]; decide) (by rw [c_14]; rfl) (by decide) ?_
      exact lc_free R h_free C0 hin hcs mThr mTn mCk mRw mSt mTr mFM mFS mTpN mLw mAt mTwN mBE mBEn mSun mCkT mCkD mCkK mCkA mRow mStT mRun mUp mSta mSty mDly mTri mFnd mTap mLwT mLwD mLwO mLwM mTwT mSetA mDri mOrd mBst tnN ckN stN trN dsT dsC tpN lwN rdS rdM rdE rdD twN rsW rsE rwN suns ckT ckD shf lnT ways ups sts sty dly gAp gOp stp bst sgn lwT lwD rdT rdO lwK lwM twS twM twD rsO rsB rwA out hR H locs ls ho hl ih
    by_cases c_15 : z = 15
    · refine lv_tableIn (tgt := 745) (off := 705) hx hb dL_law_40 (by rw [c_15]; decide) (by rw [c_15]; decide) (by rw [c_15]; rfl) (by decide) ?_
      exact lc_close R h_close C0 hin hcs mThr mTn mCk mRw mSt mTr mFM mFS mTpN mLw mAt mTwN mBE mBEn mSun mCkT mCkD mCkK mCkA mRow mStT mRun mUp mSta mSty mDly mTri mFnd mTap mLwT mLwD mLwO mLwM mTwT mSetA mDri mOrd mBst tnN ckN stN trN dsT dsC tpN lwN rdS rdM rdE rdD twN rsW rsE rwN suns ckT ckD shf lnT ways ups sts sty dly gAp gOp stp bst sgn lwT lwD rdT rdO lwK lwM twS twM twD rsO rsB rwA out hR H locs ls ho hl ih
    by_cases c_16 : z = 16
    · refine lv_tableIn (tgt := 758) (off := 718) hx hb dL_law_40 (by rw [c_16]; decide) (by rw [c_16]; decide) (by rw [c_16]; rfl) (by decide) ?_
      exact lc_sign R h_sign C0 hin hcs mThr mTn mCk mRw mSt mTr mFM mFS mTpN mLw mAt mTwN mBE mBEn mSun mCkT mCkD mCkK mCkA mRow mStT mRun mUp mSta mSty mDly mTri mFnd mTap mLwT mLwD mLwO mLwM mTwT mSetA mDri mOrd mBst tnN ckN stN trN dsT dsC tpN lwN rdS rdM rdE rdD twN rsW rsE rwN suns ckT ckD shf lnT ways ups sts sty dly gAp gOp stp bst sgn lwT lwD rdT rdO lwK lwM twS twM twD rsO rsB rwA out hR H locs ls ho hl ih
    by_cases c_17 : z = 17
    · refine lv_tableIn (tgt := 783) (off := 743) hx hb dL_law_40 (by rw [c_17]; decide) (by rw [c_17]; decide) (by rw [c_17]; rfl) (by decide) ?_
      exact lc_end R h_end C0 hin hcs mThr mTn mCk mRw mSt mTr mFM mFS mTpN mLw mAt mTwN mBE mBEn mSun mCkT mCkD mCkK mCkA mRow mStT mRun mUp mSta mSty mDly mTri mFnd mTap mLwT mLwD mLwO mLwM mTwT mSetA mDri mOrd mBst tnN ckN stN trN dsT dsC tpN lwN rdS rdM rdE rdD twN rsW rsE rwN suns ckT ckD shf lnT ways ups sts sty dly gAp gOp stp bst sgn lwT lwD rdT rdO lwK lwM twS twM twD rsO rsB rwA out hR H locs ls ho hl ih
    by_cases c_18 : z = 18
    · refine lv_tableIn (tgt := 808) (off := 768) hx hb dL_law_40 (by rw [c_18]; decide) (by rw [c_18]; decide) (by rw [c_18]; rfl) (by decide) ?_
      exact lc_law R h_law C0 hin hcs mThr mTn mCk mRw mSt mTr mFM mFS mTpN mLw mAt mTwN mBE mBEn mSun mCkT mCkD mCkK mCkA mRow mStT mRun mUp mSta mSty mDly mTri mFnd mTap mLwT mLwD mLwO mLwM mTwT mSetA mDri mOrd mBst tnN ckN stN trN dsT dsC tpN lwN rdS rdM rdE rdD twN rsW rsE rwN suns ckT ckD shf lnT ways ups sts sty dly gAp gOp stp bst sgn lwT lwD rdT rdO lwK lwM twS twM twD rsO rsB rwA out hR H locs ls ho hl ih
    by_cases c_19 : z = 19
    · refine lv_tableIn (tgt := 845) (off := 805) hx hb dL_law_40 (by rw [c_19]; decide) (by rw [c_19]; decide) (by rw [c_19]; rfl) (by decide) ?_
      exact lc_judged R h_judged C0 hin hcs mThr mTn mCk mRw mSt mTr mFM mFS mTpN mLw mAt mTwN mBE mBEn mSun mCkT mCkD mCkK mCkA mRow mStT mRun mUp mSta mSty mDly mTri mFnd mTap mLwT mLwD mLwO mLwM mTwT mSetA mDri mOrd mBst tnN ckN stN trN dsT dsC tpN lwN rdS rdM rdE rdD twN rsW rsE rwN suns ckT ckD shf lnT ways ups sts sty dly gAp gOp stp bst sgn lwT lwD rdT rdO lwK lwM twS twM twD rsO rsB rwA out hR H locs ls ho hl ih
    by_cases c_20 : z = 20
    · refine lv_tableIn (tgt := 925) (off := 885) hx hb dL_law_40 (by rw [c_20]; decide) (by rw [c_20]; decide) (by rw [c_20]; rfl) (by decide) ?_
      exact lc_late R h_late C0 hin hcs mThr mTn mCk mRw mSt mTr mFM mFS mTpN mLw mAt mTwN mBE mBEn mSun mCkT mCkD mCkK mCkA mRow mStT mRun mUp mSta mSty mDly mTri mFnd mTap mLwT mLwD mLwO mLwM mTwT mSetA mDri mOrd mBst tnN ckN stN trN dsT dsC tpN lwN rdS rdM rdE rdD twN rsW rsE rwN suns ckT ckD shf lnT ways ups sts sty dly gAp gOp stp bst sgn lwT lwD rdT rdO lwK lwM twS twM twD rsO rsB rwA out hR H locs ls ho hl ih
    by_cases c_21 : z = 21
    · refine lv_tableIn (tgt := 1012) (off := 972) hx hb dL_law_40 (by rw [c_21]; decide) (by rw [c_21]; decide) (by rw [c_21]; rfl) (by decide) ?_
      exact lc_tower R h_tower C0 hin hcs mThr mTn mCk mRw mSt mTr mFM mFS mTpN mLw mAt mTwN mBE mBEn mSun mCkT mCkD mCkK mCkA mRow mStT mRun mUp mSta mSty mDly mTri mFnd mTap mLwT mLwD mLwO mLwM mTwT mSetA mDri mOrd mBst tnN ckN stN trN dsT dsC tpN lwN rdS rdM rdE rdD twN rsW rsE rwN suns ckT ckD shf lnT ways ups sts sty dly gAp gOp stp bst sgn lwT lwD rdT rdO lwK lwM twS twM twD rsO rsB rwA out hR H locs ls ho hl ih
    by_cases c_22 : z = 22
    · refine lv_tableIn (tgt := 1061) (off := 1021) hx hb dL_law_40 (by rw [c_22]; decide) (by rw [c_22]; decide) (by rw [c_22]; rfl) (by decide) ?_
      exact lc_error R h_error C0 hin hcs mThr mTn mCk mRw mSt mTr mFM mFS mTpN mLw mAt mTwN mBE mBEn mSun mCkT mCkD mCkK mCkA mRow mStT mRun mUp mSta mSty mDly mTri mFnd mTap mLwT mLwD mLwO mLwM mTwT mSetA mDri mOrd mBst tnN ckN stN trN dsT dsC tpN lwN rdS rdM rdE rdD twN rsW rsE rwN suns ckT ckD shf lnT ways ups sts sty dly gAp gOp stp bst sgn lwT lwD rdT rdO lwK lwM twS twM twD rsO rsB rwA out hR H locs ls ho hl ih
    by_cases c_23 : z = 23
    · refine lv_tableIn (tgt := 1129) (off := 1089) hx hb dL_law_40 (by rw [c_23]; decide) (by rw [c_23]; decide) (by rw [c_23]; rfl) (by decide) ?_
      exact lc_set R h_set C0 hin hcs mThr mTn mCk mRw mSt mTr mFM mFS mTpN mLw mAt mTwN mBE mBEn mSun mCkT mCkD mCkK mCkA mRow mStT mRun mUp mSta mSty mDly mTri mFnd mTap mLwT mLwD mLwO mLwM mTwT mSetA mDri mOrd mBst tnN ckN stN trN dsT dsC tpN lwN rdS rdM rdE rdD twN rsW rsE rwN suns ckT ckD shf lnT ways ups sts sty dly gAp gOp stp bst sgn lwT lwD rdT rdO lwK lwM twS twM twD rsO rsB rwA out hR H locs ls ho hl ih
    by_cases c_24 : z = 24
    · refine lv_tableIn (tgt := 1197) (off := 1157) hx hb dL_law_40 (by rw [c_24]; decide) (by rw [c_24]; decide) (by rw [c_24]; rfl) (by decide) ?_
      exact lc_round R h_round C0 hin hcs mThr mTn mCk mRw mSt mTr mFM mFS mTpN mLw mAt mTwN mBE mBEn mSun mCkT mCkD mCkK mCkA mRow mStT mRun mUp mSta mSty mDly mTri mFnd mTap mLwT mLwD mLwO mLwM mTwT mSetA mDri mOrd mBst tnN ckN stN trN dsT dsC tpN lwN rdS rdM rdE rdD twN rsW rsE rwN suns ckT ckD shf lnT ways ups sts sty dly gAp gOp stp bst sgn lwT lwD rdT rdO lwK lwM twS twM twD rsO rsB rwA out hR H locs ls ho hl ih
    by_cases c_25 : z = 25
    · refine lv_tableIn (tgt := 1234) (off := 1194) hx hb dL_law_40 (by rw [c_25]; decide) (by rw [c_25]; decide) (by rw [c_25]; rfl) (by decide) ?_
      exact lc_row R h_row C0 hin hcs mThr mTn mCk mRw mSt mTr mFM mFS mTpN mLw mAt mTwN mBE mBEn mSun mCkT mCkD mCkK mCkA mRow mStT mRun mUp mSta mSty mDly mTri mFnd mTap mLwT mLwD mLwO mLwM mTwT mSetA mDri mOrd mBst tnN ckN stN trN dsT dsC tpN lwN rdS rdM rdE rdD twN rsW rsE rwN suns ckT ckD shf lnT ways ups sts sty dly gAp gOp stp bst sgn lwT lwD rdT rdO lwK lwM twS twM twD rsO rsB rwA out hR H locs ls ho hl ih
    have n_0 := ne_ti 0 (by decide : (0 : Int32).toInt = 0) c_0
    have n_1 := ne_ti 1 (by decide : (1 : Int32).toInt = 1) c_1
    have n_2 := ne_ti 2 (by decide : (2 : Int32).toInt = 2) c_2
    have n_3 := ne_ti 3 (by decide : (3 : Int32).toInt = 3) c_3
    have n_4 := ne_ti 4 (by decide : (4 : Int32).toInt = 4) c_4
    have n_5 := ne_ti 5 (by decide : (5 : Int32).toInt = 5) c_5
    have n_6 := ne_ti 6 (by decide : (6 : Int32).toInt = 6) c_6
    have n_7 := ne_ti 7 (by decide : (7 : Int32).toInt = 7) c_7
    have n_8 := ne_ti 8 (by decide : (8 : Int32).toInt = 8) c_8
    have n_9 := ne_ti 9 (by decide : (9 : Int32).toInt = 9) c_9
    have n_10 := ne_ti 10 (by decide : (10 : Int32).toInt = 10) c_10
    have n_11 := ne_ti 11 (by decide : (11 : Int32).toInt = 11) c_11
    have n_12 := ne_ti 12 (by decide : (12 : Int32).toInt = 12) c_12
    have n_13 := ne_ti 13 (by decide : (13 : Int32).toInt = 13) c_13
    have n_14 := ne_ti 14 (by decide : (14 : Int32).toInt = 14) c_14
    have n_15 := ne_ti 15 (by decide : (15 : Int32).toInt = 15) c_15
    have n_16 := ne_ti 16 (by decide : (16 : Int32).toInt = 16) c_16
    have n_17 := ne_ti 17 (by decide : (17 : Int32).toInt = 17) c_17
    have n_18 := ne_ti 18 (by decide : (18 : Int32).toInt = 18) c_18
    have n_19 := ne_ti 19 (by decide : (19 : Int32).toInt = 19) c_19
    have n_20 := ne_ti 20 (by decide : (20 : Int32).toInt = 20) c_20
    have n_21 := ne_ti 21 (by decide : (21 : Int32).toInt = 21) c_21
    have n_22 := ne_ti 22 (by decide : (22 : Int32).toInt = 22) c_22
    have n_23 := ne_ti 23 (by decide : (23 : Int32).toInt = 23) c_23
    have n_24 := ne_ti 24 (by decide : (24 : Int32).toInt = 24) c_24
    have n_25 := ne_ti 25 (by decide : (25 : Int32).toInt = 25) c_25
    refine lv_tableOut (tgt := 1290) hx hb dL_law_40 (by omega) (by decide) ?_
    refine lv_iinc (v := x4 + 7) (lv' := [(4, .int (x4 + 7)), (0, .ref b), (1, .ref (oq 0)), (2, .ref (mq 0)), (3, .ref qo)]) hx hb dL_law_1290 hl (k := 4) rfl rfl (by decide) rfl (fun ls hl => ?_)
    refine lv_goto (tgt := 23) hx hb dL_law_1293 (by decide) ?_
    refine W.widen (k := cells + 1) (n := slots + 6) (by omega) (by omega) ?_
    exact ih mThr mTn mCk mRw mSt mTr mFM mFS mTpN mLw mAt mTwN mBE mBEn mSun mCkT mCkD mCkK mCkA mRow mStT mRun mUp mSta mSty mDly mTri mFnd mTap mLwT mLwD mLwO mLwM mTwT mSetA mDri mOrd mBst tnN ckN stN trN dsT dsC tpN lwN rdS rdM rdE rdD twN rsW rsE rwN suns ckT ckD shf lnT ways ups sts sty dly gAp gOp stp bst sgn lwT lwD rdT rdO lwK lwM twS twM twD rsO rsB rwA out hR H locs ls ho (lv_sub hl [1, 2, 3, 4, 0] rfl)
theorem law_loop (hL : L ≤ 3584) (R : Int32 → Int32 → Int32 → Int32 → Int32 → Int32 → Int32 → Int32 → Int32 → Int32 → Int32 → Int32 → Int32 → Int32 → (Nat → Int32) → (Nat → Int32) → (Nat → Int32) → (Nat → Int32) → (Nat → Int32) → (Nat → Int32) → (Nat → Int32) → (Nat → Int32) → (Nat → Int32) → (Nat → Int32) → (Nat → Int32) → (Nat → Int32) → (Nat → Int32) → (Nat → Int32) → (Nat → Int32) → (Nat → Int32) → (Nat → Int32) → (Nat → Int32) → (Nat → Int32) → (Nat → Int32) → (Nat → Int32) → (Nat → Int32) → (Nat → Int32) → (Nat → Int32) → Int32 → Int32 → Int32 → Int32 → Int32 → Int32 → Int32 → Int32 → Int32 → Int32 → Int32 → Int32 → Int32 → Int32 → Int32 → Int32 → (Nat → Int32) → (Nat → Int32) → (Nat → Int32) → (Nat → Int32) → (Nat → Int32) → (Nat → Int32) → (Nat → Int32) → (Nat → Int32) → (Nat → Int32) → (Nat → Int32) → (Nat → Nat → Int32) → (Nat → Nat → Int32) → (Nat → Int32) → (Nat → Int32) → (Nat → Int32) → (Nat → Int32) → (Nat → Int32) → (Nat → Int32) → (Nat → Int32) → (Nat → Int32) → (Nat → Int32) → (Nat → Int32) → (Nat → Int32) → (Nat → Int32) → (Nat → Int32) → (Nat → Int32) → (Nat → Int32) → Prop) (h_town : st_town R) (h_clock : st_clock R) (h_untell : st_untell R) (h_count : st_count R) (h_read : st_read R) (h_when : st_when R) (h_turned : st_turned R) (h_unlike : st_unlike R) (h_one : st_one R) (h_station : st_station R) (h_train : st_train R) (h_leaves : st_leaves R) (h_delay : st_delay R) (h_meet : st_meet R) (h_free : st_free R) (h_close : st_close R) (h_sign : st_sign R) (h_end : st_end R) (h_law : st_law R) (h_judged : st_judged R) (h_late : st_late R) (h_tower : st_tower R) (h_error : st_error R) (h_set : st_set R) (h_round : st_round R) (h_row : st_row R) (C0 : lwC p l s m cd b L xs adK adV) (hr : meth.sig.returnType = ret) (hlocks : meth.locks = false) :
    ∀ (n j : Nat) (cells slots : Nat), L < 7 * (j + n) + 7 → 7 * j ≤ L + 7 → cells + n + 1 ≤ room_1.cells → slots + 6 * n + 6 ≤ room_1.slots → lhN p l e s m below meth cd D b mq oq mcl ocl qo cJ R (lw_Z below #[Value.ref b] s) cells slots (nI (7 * j)) := by
  intro n
  induction n with
  | zero =>
    intro j cells slots h1 h2 h3 h4
    exact lw_head hL R h_town h_clock h_untell h_count h_read h_when h_turned h_unlike h_one h_station h_train h_leaves h_delay h_meet h_free h_close h_sign h_end h_law h_judged h_late h_tower h_error h_set h_round h_row C0 hr hlocks j (by omega) rfl ⟨by omega, by omega⟩ (fun h => by omega)
  | succ n ih =>
    intro j cells slots h1 h2 h3 h4
    refine lw_head hL R h_town h_clock h_untell h_count h_read h_when h_turned h_unlike h_one h_station h_train h_leaves h_delay h_meet h_free h_close h_sign h_end h_law h_judged h_late h_tower h_error h_set h_round h_row C0 hr hlocks j (by omega) rfl ⟨by omega, by omega⟩ (fun h => ?_)
    have e1 : nI (7 * j) + 7 = nI (7 * (j + 1)) := by
      rw [show (7 : Int32) = nI 7 from rfl, nI_add]
      rfl
    rw [e1]
    exact ih (j + 1) (cells + 1) (slots + 6) (by omega) (by omega) (by omega) (by omega)
end LL

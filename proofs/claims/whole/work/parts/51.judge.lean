set_option maxHeartbeats 600000
/-! which time holds for a matter -/
def SF (ckN lwN : Int32) (suns ckT ckD shf lwT lwD lwK lwM : Nat → Int32) (t : Int32) (m : Nat) (d : Int) : Int :=
  if (hld lwT lwD t d lwN.toNatClampNeg).toInt = -1 then (sh ckN suns ckT ckD shf t d).toInt
  else (if lwK (6 * (hld lwT lwD t d lwN.toNatClampNeg).toNatClampNeg + m) = 108 then (suns t.toNatClampNeg).toInt else if lwK (6 * (hld lwT lwD t d lwN.toNatClampNeg).toNatClampNeg + m) = 122 then 60 * (((suns t.toNatClampNeg).toInt + 30) / 60) else (sh ckN suns ckT ckD shf t d).toInt) + (lwM (6 * (hld lwT lwD t d lwN.toNatClampNeg).toNatClampNeg + m)).toInt
section JU
variable {tnN ckN lwN mTn mCk mLw t m d : Int32} {suns ckT ckD shf lwT lwD lwK lwM mSun mCkT mCkD mCkK mCkA mLwT mLwD mLwO mLwM : Nat → Int32} {Q : Int32 → Prop}
theorem lw_HP (hLw : R_lw tnN lwN lwT lwD lwK lwM mLw mLwT mLwD mLwO mLwM) (t : Int32) (d : Int) : HP lwT lwD t d 0 lwN.toNatClampNeg (hld lwT lwD t d lwN.toNatClampNeg) := hld_HP _ (by have := hLw.2.1; have := ti_c lwN; omega)
theorem lw_at (hLw : R_lw tnN lwN lwT lwD lwK lwM mLw mLwT mLwD mLwO mLwM) (t : Int32) (d : Int) (h : ¬ (hld lwT lwD t d lwN.toNatClampNeg).toInt = -1) : 0 ≤ (hld lwT lwD t d lwN.toNatClampNeg).toInt ∧ (hld lwT lwD t d lwN.toNatClampNeg).toInt < lwN.toInt := by
  have hb := hLw.2.1
  have hc := ti_c lwN
  have hc2 := ti_c (hld lwT lwD t d lwN.toNatClampNeg)
  rcases lw_HP hLw t d with ⟨a1, a2⟩ | ⟨a1, a2, a3, a4, a5, a6⟩
  · exact absurd a1 h
  · omega
theorem SF_b (hTn : R_tn tnN suns mTn mSun) (hCk : R_ck tnN suns ckN ckT ckD shf mCk mCkT mCkD mCkK mCkA) (hLw : R_lw tnN lwN lwT lwD lwK lwM mLw mLwT mLwD mLwO mLwM) (ht : 0 ≤ t.toInt ∧ t.toInt < tnN.toInt) {n : Nat} (hn : n < 6) (d : Int) : -2000 ≤ SF ckN lwN suns ckT ckD shf lwT lwD lwK lwM t n d ∧ SF ckN lwN suns ckT ckD shf lwT lwD lwK lwM t n d ≤ 2000 := by
  have b1 := sh_b hTn hCk ht d
  have hct := ti_c t
  have b2 := (hTn.2.2 t.toNatClampNeg (by omega)).2
  unfold SF
  split
  · omega
  · rename_i h
    have a := lw_at hLw t d h
    have hc2 := ti_c (hld lwT lwD t d lwN.toNatClampNeg)
    have b3 := (hLw.2.2.2 (6 * (hld lwT lwD t d lwN.toNatClampNeg).toNatClampNeg + n) (by omega)).1
    split
    · omega
    · split <;> omega
theorem k_lwHas {v1 v2 : Int32} {Q : Int32 → Prop} (h1 : 0 ≤ v1.toInt ∧ v1.toInt < lwN.toInt) (h2 : 0 ≤ v2.toInt ∧ v2.toInt < 6) (q : Q 1) : p_Lw_has lwN v1 v2 Q := by
  unfold p_Lw_has
  rw [k_isMatter, bi_t h2, ti_lt, ti_le, c_0]
  exact tn_t (by omega) (tn_t (by omega) (tn_t i10 q))
theorem lw_ix {v m : Int32} (h1 : 0 ≤ v.toInt ∧ v.toInt < 20) (h2 : 0 ≤ m.toInt ∧ m.toInt < 6) : (v * 6 + m).toInt = 6 * v.toInt + m.toInt ∧ (6 * v + m).toInt = 6 * v.toInt + m.toInt := by
  have e1 : (v * 6).toInt = v.toInt * 6 := by rw [ti_mul] <;> rw [c_6] <;> omega
  have e2 : (6 * v).toInt = 6 * v.toInt := by rw [ti_mul] <;> rw [c_6] <;> omega
  constructor
  · rw [ti_add (by omega) (by omega)]
    omega
  · rw [ti_add (by omega) (by omega)]
    omega
theorem k_shiftFor (hTn : R_tn tnN suns mTn mSun) (hCk : R_ck tnN suns ckN ckT ckD shf mCk mCkT mCkD mCkK mCkA) (hLw : R_lw tnN lwN lwT lwD lwK lwM mLw mLwT mLwD mLwO mLwM) (ht : 0 ≤ t.toInt ∧ t.toInt < tnN.toInt) (hm : 0 ≤ m.toInt ∧ m.toInt < 6) (q : ∀ r : Int32, r.toInt = SF ckN lwN suns ckT ckD shf lwT lwD lwK lwM t m.toNatClampNeg d.toInt → Q r) : p_O_shiftFor tnN ckN lwN suns ckT ckD shf lwT lwD lwK lwM t m d Q := by
  have b1 := sh_b hTn hCk ht d.toInt
  have hct := ti_c t
  have b2 := (hTn.2.2 t.toNatClampNeg (by omega)).2
  have hb := hLw.2.1
  have hb2 := hTn.2.1
  have hcm := ti_c m
  unfold p_O_shiftFor
  refine k_shiftOn hTn hCk ht (k_holding (by decide) hb.1 hb.2 (fun i hi => (hLw.2.2.1 i hi).2.2.2.1) ?_)
  rw [ti_eq, c_m1]
  unfold SF at q
  refine ⟨fun g => q _ (by rw [if_pos g]), fun g => ?_⟩
  have a := lw_at hLw t d.toInt g
  rw [if_neg g] at q
  generalize hld lwT lwD t d.toInt lwN.toNatClampNeg = h at q a g ⊢
  have hch := ti_c h
  have ix := (lw_ix (v := h) (m := m) (by omega) hm).1
  have ec : (h * 6 + m).toNatClampNeg = 6 * h.toNatClampNeg + m.toNatClampNeg := by rw [ti_c, ti_c, ti_c, ix]; omega
  have b3 := (hLw.2.2.2 (6 * h.toNatClampNeg + m.toNatClampNeg) (by omega)).1
  refine k_lwHas a hm (tn_t i10 ⟨ti_in (by omega) (by omega), k_lwHas a hm (tn_t i10 ⟨ti_in (by omega) (by omega), ?_⟩)⟩)
  rw [ec]
  refine ⟨fun c => ⟨ti_in ht.1 (by omega), q _ ?_⟩, fun c => ⟨fun c2 => ?_, fun c2 => q _ ?_⟩⟩
  · rw [if_pos c, ti_add (by omega) (by omega)]
  · unfold p_Tn_nearestZone p_Tn_sunOf
    rw [k_has, bi_t ht]
    refine tn_t i10 ⟨ti_in ht.1 (by omega), k_fd60 (fun z hz => q _ ?_)⟩
    have e3 : (suns t.toNatClampNeg + 30).toInt = (suns t.toNatClampNeg).toInt + 30 := by rw [ti_add] <;> rw [c_30] <;> omega
    rw [e3] at hz
    have e4 : (60 * z).toInt = 60 * z.toInt := by rw [ti_mul] <;> rw [c_60] <;> omega
    rw [if_neg c, if_pos c2, ti_add (by omega) (by omega), e4, hz]
  · rw [if_neg c, if_neg c2, ti_add (by omega) (by omega)]
theorem k_more (hTn : R_tn tnN suns mTn mSun) (hCk : R_ck tnN suns ckN ckT ckD shf mCk mCkT mCkD mCkK mCkA) (hLw : R_lw tnN lwN lwT lwD lwK lwM mLw mLwT mLwD mLwO mLwM) (ht : 0 ≤ t.toInt ∧ t.toInt < tnN.toInt) (hm : 0 ≤ m.toInt ∧ m.toInt < 6) (q : ∀ r : Int32, r.toInt = SF ckN lwN suns ckT ckD shf lwT lwD lwK lwM t m.toNatClampNeg d.toInt → Q r) : p_M_more mCk mLw mSun mCkT mCkD mCkK mCkA mLwT mLwD mLwO mLwM t m d Q := by
  have b1 := sh_b hTn hCk ht d.toInt
  have hct := ti_c t
  have hcm := ti_c m
  have b2 := hTn.2.2 t.toNatClampNeg (by omega)
  have hb2 := hTn.2.1
  have hP := lw_HP hLw t d.toInt
  obtain ⟨e1, hb, hq, hK⟩ := hLw
  subst e1
  unfold p_M_more
  simp only [forall_eq]
  have s1 := ti_s1 (x := mLw) (by omega)
  generalize mLw - 1 = k0 at s1 ⊢
  have hcn := ti_c mLw
  refine Lp2.of (fun v3 v4 => -1 ≤ v4.toInt ∧ v4.toInt < mLw.toInt ∧ HP lwT lwD t d.toInt (v4.toInt + 1).toNat mLw.toNatClampNeg v3) (fun _ v4 => (v4.toInt + 1).toNat) ?_ _ _ ⟨by omega, by omega, by rw [show (k0.toInt + 1).toNat = mLw.toNatClampNeg by omega]; exact HP.nil⟩
  intro rec v3 v4 ⟨i1, i2, i3⟩ hrec
  have hc3 := ti_c v3
  have hc4 := ti_c v4
  have hor := i3.or
  unfold p_M_more_L11
  simp only [forall_eq, ti_lt, ti_le, c_0]
  refine ⟨fun g => ?_, fun g => ?_⟩
  · rw [show (v4.toInt + 1).toNat = 0 by omega] at i3
    have e := i3.uniq hP
    unfold SF at q
    rw [← e] at q
    refine ⟨fun g3 => ?_, fun g3 => ?_⟩
    · rw [if_neg (by omega)] at q
      rcases i3 with ⟨a1, a2⟩ | ⟨a1, a2, a3, a4, a5, a6⟩
      · omega
      have ix := (lw_ix (v := v3) (m := m) (by omega) hm).2
      have ec : (6 * v3 + m).toNatClampNeg = 6 * v3.toNatClampNeg + m.toNatClampNeg := by rw [ti_c, ti_c, ti_c, ix]; omega
      have b3 := hK (6 * v3.toNatClampNeg + m.toNatClampNeg) (by omega)
      have hin : vp_in (6 * v3 + m) 126 := ti_in (by omega) (by omega)
      refine ⟨hin, ?_⟩
      unfold p_M_more_J91 p_M_more_J154
      rw [ec]
      rcases b3.2 with ⟨k1, k2, k3⟩ | ⟨k1, k2, k3⟩
      · rw [k1]
        refine tn_f rfl (k_ahead hTn hCk ht (q _ ?_))
        rw [k2, k3, if_neg (by decide), if_neg (by decide), c_0]
        omega
      · rw [k2, k3]
        have n0 : ¬ lwK (6 * v3.toNatClampNeg + m.toNatClampNeg) = 0 := by
          rcases k1 with k | k | k <;> rw [k] <;> decide
        refine tn_t n0 ⟨fun c => ⟨ti_in ht.1 (by omega), hin, q _ ?_⟩, fun c => ⟨fun c2 => k_ahead hTn hCk ht ⟨hin, q _ ?_⟩, fun c2 => ⟨ti_in ht.1 (by omega), k_fd60 (fun z hz => ⟨hin, q _ ?_⟩)⟩⟩⟩
        · rw [if_pos c, b2.1, ti_add (by omega) (by omega)]
        · rw [if_neg c, if_neg (by rw [c2]; decide), ti_add (by omega) (by omega)]
        · have c3 : lwK (6 * v3.toNatClampNeg + m.toNatClampNeg) = 122 := by
            rcases k1 with k | k | k
            · exact absurd k c
            · exact absurd k c2
            · exact k
          rw [b2.1] at hz
          have e3 : (suns t.toNatClampNeg + 30).toInt = (suns t.toNatClampNeg).toInt + 30 := by rw [ti_add] <;> rw [c_30] <;> omega
          rw [e3] at hz
          have e4 : (60 * z).toInt = 60 * z.toInt := by rw [ti_mul] <;> rw [c_60] <;> omega
          rw [if_neg c, if_pos c3, ti_add (by omega) (by omega), e4, hz]
    · rw [if_pos (by omega)] at q
      unfold p_M_more_J91
      exact tn_f rfl (k_ahead hTn hCk ht (q _ rfl))
  obtain ⟨g1, g2, g4, g5⟩ := hq v4.toNatClampNeg (by omega)
  have hin : vp_in v4 20 := ti_in (by omega) (by omega)
  have s2 := ti_am (x := v4) (by omega)
  generalize v4 + (-1) = y4 at s2 ⊢
  have n1 : (v4.toInt + 1).toNat = v4.toNatClampNeg + 1 := by omega
  have n2 : (y4.toInt + 1).toNat = v4.toNatClampNeg := by omega
  rw [n1] at i3
  rw [g1, g2]
  refine ⟨hin, fun a => ⟨hin, fun b => ?_, fun b => ⟨fun c => ?_, fun c => ⟨hin, ti_in (by omega) ?_, ?_⟩⟩⟩, fun a => ?_⟩
  · exact hrec _ _ ⟨by omega, by omega, by rw [n2]; exact i3.down_no (Or.inr (Or.inl b))⟩ (by omega)
  · exact hrec _ _ ⟨by omega, by omega, by rw [n2]; exact i3.down_yes (by omega) a (by omega) (Or.inl (by omega)) (by omega)⟩ (by omega)
  · rcases i3 with ⟨a1, a2⟩ | ⟨a1, a2, a3, a4, a5, a6⟩
    · omega
    · omega
  · have hlt : v3.toInt < mLw.toInt := by
      rcases i3 with ⟨a1, a2⟩ | ⟨a1, a2, a3, a4, a5, a6⟩
      · omega
      · omega
    rw [(hq v3.toNatClampNeg (by omega)).2.1]
    refine ⟨fun h => ?_, fun h => ?_⟩
    · exact hrec _ _ ⟨by omega, by omega, by rw [n2]; exact i3.down_no (Or.inr (Or.inr ⟨by omega, h⟩))⟩ (by omega)
    · exact hrec _ _ ⟨by omega, by omega, by rw [n2]; exact i3.down_yes (by omega) a (by omega) (Or.inr (by omega)) (by omega)⟩ (by omega)
  · exact hrec _ _ ⟨by omega, by omega, by rw [n2]; exact i3.down_no (Or.inl a)⟩ (by omega)
end JU
theorem s_judged : st_judged RR := by
  intro mThr mTn mCk mRw mSt mTr mFM mFS mTpN mLw mAt mTwN mBE mBEn mSun mCkT mCkD mCkK mCkA mRow mStT mRun mUp mSta mSty mDly mTri mFnd mTap mLwT mLwD mLwO mLwM mTwT mSetA mDri mOrd mBst tnN ckN stN trN dsT dsC tpN lwN rdS rdM rdE rdD twN rsW rsE rwN suns ckT ckD shf lnT ways ups sts sty dly gAp gOp stp bst sgn lwT lwD rdT rdO lwK lwM twS twM twD rsO rsB rwA hR out a1 a2 a3 
  obtain ⟨hTn, hCk, hLn, hTp, hLw, hTw, hRw⟩ := id hR
  obtain ⟨e2, hb2, hq2⟩ := id hTn
  have hR' := hR
  subst e2
  simp only [p_O_judged, p_M_judged, p_M_judged_J37, p_M_refuse, ou_0, k_mMatter hb2.1, k_mMinute, k_has, k_isMatter, k_isMinute, bi0, Classical.not_not]
  by_cases h1 : 0 ≤ a1.toInt ∧ a1.toInt < mTn.toInt
  case neg => exact tk_f h1 (tk_f (fun k => h1 k.1) ⟨trivial, fun g => absurd g i10, hR⟩)
  by_cases h2 : 0 ≤ a2.toInt ∧ a2.toInt < 6
  case neg => exact tk_t h1 (tk_f h2 (tk_f (fun k => h2 k.2) ⟨trivial, fun g => absurd g i10, hR⟩))
  by_cases h3 : 0 ≤ a3.toInt ∧ a3.toInt < 576000
  case neg => exact tk_t h1 (tk_t h2 (tk_f h3 (tk_t ⟨h1, h2⟩ (tk_f h3 ⟨trivial, fun g => absurd g i10, hR⟩))))
  refine tk_t h1 (tk_t h2 (tk_t h3 (k_shiftFor hTn hCk hLw h1 h2 (fun r hr => tk_t ⟨h1, h2⟩ (tk_t h3 (k_more hTn hCk hLw h1 h2 (fun r' hr' => ?_)))))))
  have e : r' = r := ti_eq.mpr (by omega)
  subst e
  exact ⟨trivial, fun _ => rfl, hR⟩
theorem k_fm1440 {x : Int32} {Q : Int32 → Prop} (q : ∀ z : Int32, z.toInt = x.toInt % 1440 → Q z) : p_Jm_floorMod x 1440 Q := by
  unfold p_Jm_floorMod
  simp only [forall_eq]
  have hr := ti_r x
  have hc := c_1440
  have hx := ti_xor x 1440
  have hd := ti_div x (y := 1440) (by rw [hc]; omega)
  rw [hc] at hd hx
  refine ⟨by decide, fun g => ?_, fun g => ⟨fun g2 => ?_, fun g2 => ?_⟩⟩
  · rw [ti_le, c_0] at g
    rw [td_p (by omega)] at hd
    have hm : ((x / 1440) * 1440).toInt = (x / 1440).toInt * 1440 := by rw [ti_mul] <;> rw [hc] <;> omega
    refine q _ ?_
    rw [ti_sub (by rw [hm]; omega) (by rw [hm]; omega), hm]
    omega
  · rw [ti_le, c_0] at g
    rw [td_n (by omega)] at hd
    have hm : ((x / 1440) * 1440).toInt = (x / 1440).toInt * 1440 := by rw [ti_mul] <;> rw [hc] <;> omega
    have hs : (x - x / 1440 * 1440).toInt = x.toInt - (x / 1440).toInt * 1440 := by rw [ti_sub (by rw [hm]; omega) (by rw [hm]; omega), hm]
    rw [ti_eq, hs, c_0] at g2
    exact q _ (by rw [hs]; omega)
  · rw [ti_le, c_0] at g
    rw [td_n (by omega)] at hd
    have hm : ((x / 1440) * 1440).toInt = (x / 1440).toInt * 1440 := by rw [ti_mul] <;> rw [hc] <;> omega
    have hs : (x - x / 1440 * 1440).toInt = x.toInt - (x / 1440).toInt * 1440 := by rw [ti_sub (by rw [hm]; omega) (by rw [hm]; omega), hm]
    rw [ti_eq, hs, c_0] at g2
    refine q _ ?_
    rw [ti_add (by rw [hs, hc]; omega) (by rw [hs, hc]; omega), hs, hc]
    omega
/-! how often a matter was late -/
def lat (ckN lwN : Int32) (suns ckT ckD shf lwT lwD lwK lwM : Nat → Int32) (t : Int32) (m : Nat) (w lim : Int) (d : Nat) : Bool := decide (lim < (w + SF ckN lwN suns ckT ckD shf lwT lwD lwK lwM t m (d : Int)) % 1440)
section LA
variable {tnN ckN lwN mTn mCk mLw t m v3 v4 v5 v6 : Int32} {suns ckT ckD shf lwT lwD lwK lwM mSun mCkT mCkD mCkK mCkA mLwT mLwD mLwO mLwM : Nat → Int32}
theorem SF_const {n : Nat} {d d' r1 r2 : Int} (hk : 0 ≤ ckN.toInt ∧ ckN.toInt ≤ 60) (hl : 0 ≤ lwN.toInt ∧ lwN.toInt ≤ 20) (h1 : ∀ i : Nat, (i : Int) < ckN.toInt → ckT i = t → (ckD i).toInt ≤ d ∨ r1 ≤ (ckD i).toInt) (h2 : ∀ i : Nat, (i : Int) < lwN.toInt → lwT i = t → (lwD i).toInt ≤ d ∨ r2 ≤ (lwD i).toInt) (g0 : d ≤ d') (g1 : d' < r1) (g2 : d' < r2) : SF ckN lwN suns ckT ckD shf lwT lwD lwK lwM t n d' = SF ckN lwN suns ckT ckD shf lwT lwD lwK lwM t n d := by
  have hc := ti_c lwN
  unfold SF
  rw [sh_const hk.2 h1 g0 g1, hld_const (k := lwN.toNatClampNeg) (by omega) (fun i hi hT => h2 i (by omega) hT) g0 g2]
theorem k_lateO {Q : Int32 → Prop} (hTn : R_tn tnN suns mTn mSun) (hCk : R_ck tnN suns ckN ckT ckD shf mCk mCkT mCkD mCkK mCkA) (hLw : R_lw tnN lwN lwT lwD lwK lwM mLw mLwT mLwD mLwO mLwM) (ht : 0 ≤ t.toInt ∧ t.toInt < tnN.toInt) (hm : 0 ≤ m.toInt ∧ m.toInt < 6) (g3 : 0 ≤ v3.toInt ∧ v3.toInt < 400) (g4 : 0 ≤ v4.toInt ∧ v4.toInt < 400) (g34 : v3.toInt ≤ v4.toInt) (g5 : 0 ≤ v5.toInt ∧ v5.toInt < 1440)
    (q : ∀ r : Int32, r.toInt = cntB (lat ckN lwN suns ckT ckD shf lwT lwD lwK lwM t m.toNatClampNeg v5.toInt v6.toInt) (v4.toInt + 1).toNat - (cntB (lat ckN lwN suns ckT ckD shf lwT lwD lwK lwM t m.toNatClampNeg v5.toInt v6.toInt) v3.toInt.toNat : Int) → Q r) : Lp3 (p_O_late_L68 tnN ckN lwN suns ckT ckD shf lwT lwD lwK lwM t m v4 v5 v6 Q) 0 v3 0 := by
  have hcm := ti_c m
  have hbk := hCk.2.1
  have hbl := hLw.2.1
  have hSb := fun d => SF_b hTn hCk hLw ht (n := m.toNatClampNeg) (by omega) d
  generalize hp : lat ckN lwN suns ckT ckD shf lwT lwD lwK lwM t m.toNatClampNeg v5.toInt v6.toInt = p at q
  refine Lp3.of (fun (c v k : Int32) => (0 ≤ k.toInt ∧ k.toInt ≤ v.toInt - v3.toInt ∧ v3.toInt ≤ v.toInt ∧ v.toInt ≤ v4.toInt + 1) ∧ c.toInt = cntB p v.toInt.toNat - (cntB p v3.toInt.toNat : Int)) (fun _ v _ => (400 - v.toInt).toNat) ?_ _ _ _ ⟨by rw [c_0]; omega, by rw [c_0]; omega⟩
  intro rec c v k ⟨i1, i2⟩ hrec
  unfold p_O_late_L68 p_O_nextChange
  simp only [forall_eq, ti_le, ti_lt, c_400]
  refine ⟨fun g => q c (by rw [i2, show v.toInt = v4.toInt + 1 by omega]), fun g => ⟨fun g2 => q c (by rw [i2, show v.toInt = v4.toInt + 1 by omega]), fun g2 => ?_⟩⟩
  refine k_nextDay (by decide) hbk (by omega) (fun r1 h1 h2 => k_nextDay (by decide) hbl (by omega) (fun r2 h3 h4 => ?_))
  have hs4 := ti_a1 (x := v4) (by omega)
  have hj := ti_jmin (x := r1) (y := r2)
  generalize jmin r1 r2 = z at hj ⊢
  have hj2 := ti_jmin (x := z) (y := v4 + 1)
  generalize jmin z (v4 + 1) = x at hj2 ⊢
  refine k_shiftFor hTn hCk hLw ht hm (fun r hr => ?_)
  have hb := hSb v.toInt
  have hadd : (v5 + r).toInt = v5.toInt + r.toInt := ti_add (by omega) (by omega)
  refine k_fm1440 (fun w hw => ?_)
  rw [hadd, hr] at hw
  have hk := ti_a1 (x := k) (by omega)
  have hle := cnt_le (p := p) v.toInt.toNat
  have hle3 := cnt_le (p := p) v3.toInt.toNat
  have same : ∀ i : Nat, v.toInt.toNat ≤ i → i < x.toInt.toNat → p i = decide (v6.toInt < w.toInt) := by
    intro i hi1 hi2
    rw [← hp]
    unfold lat
    rw [SF_const (d := v.toInt) (d' := (i : Int)) (r1 := r1.toInt) (r2 := r2.toInt) hbk hbl (fun j hj hT => h2 j hj hT) (fun j hj hT => h4 j hj hT) (by omega) (by omega) (by omega), hw]
  have hct := cnt_to (a := v.toInt.toNat) (b := x.toInt.toNat) (by omega) same
  have hs : (x - v).toInt = x.toInt - v.toInt := by rw [ti_sub] <;> omega
  refine ⟨fun e => hrec _ _ _ ⟨by omega, ?_⟩ (by omega), fun e => hrec _ _ _ ⟨by omega, ?_⟩ (by omega)⟩
  · rw [hct, i2, if_neg (by simp; omega)]
    omega
  · have ha : (c + (x - v)).toInt = c.toInt + (x.toInt - v.toInt) := by rw [ti_add] <;> rw [hs] <;> omega
    rw [hct, ha, i2, if_pos (by simp; omega)]
    omega
theorem k_lateM {Q : Int32 → Int32 → Prop} (hTn : R_tn tnN suns mTn mSun) (hCk : R_ck tnN suns ckN ckT ckD shf mCk mCkT mCkD mCkK mCkA) (hLw : R_lw tnN lwN lwT lwD lwK lwM mLw mLwT mLwD mLwO mLwM) (ht : 0 ≤ t.toInt ∧ t.toInt < tnN.toInt) (hm : 0 ≤ m.toInt ∧ m.toInt < 6) (g3 : 0 ≤ v3.toInt ∧ v3.toInt < 400) (g4 : 0 ≤ v4.toInt ∧ v4.toInt < 400) (g34 : v3.toInt ≤ v4.toInt) (g5 : 0 ≤ v5.toInt ∧ v5.toInt < 1440)
    (q : ∀ r : Int32, r.toInt = cntB (lat ckN lwN suns ckT ckD shf lwT lwD lwK lwM t m.toNatClampNeg v5.toInt v6.toInt) (v4.toInt + 1).toNat - (cntB (lat ckN lwN suns ckT ckD shf lwT lwD lwK lwM t m.toNatClampNeg v5.toInt v6.toInt) v3.toInt.toNat : Int) → Q r 0) : Lp2 (p_M_late_L69 mTn mCk mLw mSun mCkT mCkD mCkK mCkA mLwT mLwD mLwO mLwM t m v4 v5 v6 0 Q) 0 v3 := by
  have hcm := ti_c m
  have hSb := fun d => SF_b hTn hCk hLw ht (n := m.toNatClampNeg) (by omega) d
  generalize hp : lat ckN lwN suns ckT ckD shf lwT lwD lwK lwM t m.toNatClampNeg v5.toInt v6.toInt = p at q
  refine Lp2.of (fun (c v : Int32) => (v3.toInt ≤ v.toInt ∧ v.toInt ≤ v4.toInt + 1) ∧ c.toInt = cntB p v.toInt.toNat - (cntB p v3.toInt.toNat : Int)) (fun _ v => (400 - v.toInt).toNat) ?_ _ _ ⟨by omega, by rw [c_0]; omega⟩
  intro rec c v ⟨i1, i2⟩ hrec
  unfold p_M_late_L69
  simp only [forall_eq, ti_le, ti_lt]
  refine ⟨fun g2 => q c (by rw [i2, show v.toInt = v4.toInt + 1 by omega]), fun g2 => ?_⟩
  refine k_more hTn hCk hLw ht hm (fun r hr => ?_)
  have hb := hSb v.toInt
  have hadd : (v5 + r).toInt = v5.toInt + r.toInt := ti_add (by omega) (by omega)
  refine k_fm1440 (fun w hw => ?_)
  rw [hadd, hr] at hw
  have hs := ti_a1 (x := v) (by omega)
  have hle := cnt_le (p := p) v.toInt.toNat
  have hle3 := cnt_le (p := p) v3.toInt.toNat
  have hst : cntB p (v.toInt.toNat + 1) = cntB p v.toInt.toNat + (if p v.toInt.toNat = true then 1 else 0) := rfl
  have hpv : p v.toInt.toNat = decide (v6.toInt < w.toInt) := by
    rw [← hp]
    unfold lat
    rw [show ((v.toInt.toNat : Nat) : Int) = v.toInt by omega, hw]
  have n1 : (v + 1).toInt.toNat = v.toInt.toNat + 1 := by omega
  have hc0 : (c + 0).toInt = c.toInt := by rw [ti_add] <;> rw [c_0] <;> omega
  have hc1 : (c + 1).toInt = c.toInt + 1 := ti_a1 (by omega)
  refine ⟨fun e => hrec _ _ ⟨by omega, ?_⟩ (by omega), fun e => hrec _ _ ⟨by omega, ?_⟩ (by omega)⟩
  · rw [n1, hst, hpv, if_neg (by simp; omega), hc0]
    omega
  · rw [n1, hst, hpv, if_pos (by simp; omega), hc1]
    omega
end LA
theorem s_late : st_late RR := by
  intro mThr mTn mCk mRw mSt mTr mFM mFS mTpN mLw mAt mTwN mBE mBEn mSun mCkT mCkD mCkK mCkA mRow mStT mRun mUp mSta mSty mDly mTri mFnd mTap mLwT mLwD mLwO mLwM mTwT mSetA mDri mOrd mBst tnN ckN stN trN dsT dsC tpN lwN rdS rdM rdE rdD twN rsW rsE rwN suns ckT ckD shf lnT ways ups sts sty dly gAp gOp stp bst sgn lwT lwD rdT rdO lwK lwM twS twM twD rsO rsB rwA hR a1 a2 a3 a4 a5 a6 
  obtain ⟨hTn, hCk, hLn, hTp, hLw, hTw, hRw⟩ := id hR
  obtain ⟨e2, hb2, hq2⟩ := id hTn
  have hR' := hR
  subst e2
  simp only [p_O_late, p_M_late, k_mMatter hb2.1, k_mDay, k_inw, e_0, e_1439, k_has, k_isMatter, k_isDay, k_isTimeOfDay, bi0, Classical.not_not, ti_le, ti_lt]
  by_cases h1 : 0 ≤ a1.toInt ∧ a1.toInt < mTn.toInt
  case neg => exact tk_f h1 (tk_f (fun k => h1 k.1) ⟨trivial, hR⟩)
  by_cases h2 : 0 ≤ a2.toInt ∧ a2.toInt < 6
  case neg => exact tk_t h1 (tk_f h2 (tk_f (fun k => h2 k.2) ⟨trivial, hR⟩))
  by_cases h3 : 0 ≤ a3.toInt ∧ a3.toInt < 400
  case neg => exact tk_t h1 (tk_t h2 (tk_f h3 (tk_t ⟨h1, h2⟩ (tk_f h3 ⟨trivial, hR⟩))))
  by_cases h4 : 0 ≤ a4.toInt ∧ a4.toInt < 400
  case neg => exact tk_t h1 (tk_t h2 (tk_t h3 (tk_f h4 (tk_t ⟨h1, h2⟩ (tk_t h3 (tk_f h4 ⟨trivial, hR⟩))))))
  by_cases h34 : a3.toInt ≤ a4.toInt
  case neg => exact tk_t h1 (tk_t h2 (tk_t h3 (tk_t h4 (tn_t h34 (tk_t ⟨h1, h2⟩ (tk_t h3 (tk_t h4 (tn_f (by omega) ⟨trivial, hR⟩))))))))
  by_cases h5 : 0 ≤ a5.toInt ∧ a5.toInt < 1440
  case neg => exact tk_t h1 (tk_t h2 (tk_t h3 (tk_t h4 (tn_f h34 (tk_f h5 (tk_t ⟨h1, h2⟩ (tk_t h3 (tk_t h4 (tn_t (by omega) (tk_f (by omega) ⟨trivial, hR⟩))))))))))
  by_cases h6 : 0 ≤ a6.toInt ∧ a6.toInt < 1440
  case neg => exact tk_t h1 (tk_t h2 (tk_t h3 (tk_t h4 (tn_f h34 (tk_t h5 (tk_f h6 (tk_t ⟨h1, h2⟩ (tk_t h3 (tk_t h4 (tn_t (by omega) (tk_t (by omega) (tk_f (by omega) ⟨trivial, hR⟩))))))))))))
  refine tk_t h1 (tk_t h2 (tk_t h3 (tk_t h4 (tn_f h34 (tk_t h5 (tk_t h6 (k_lateO hTn hCk hLw h1 h2 h3 h4 h34 h5 (fun r hr => tk_t ⟨h1, h2⟩ (tk_t h3 (tk_t h4 (tn_t (by omega) (tk_t (by omega) (tk_t (by omega) (k_lateM hTn hCk hLw h1 h2 h3 h4 h34 h5 (fun r' hr' => ⟨?_, hR⟩)))))))))))))))
  exact ti_eq.mpr (by omega)

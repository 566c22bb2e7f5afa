set_option maxHeartbeats 1000000
/-! free: the reference's search, and both together -/
def cnF (f : Nat → Nat) : Nat → Nat
  | 0 => 0
  | k + 1 => cnF f k + (if f k = 0 then 0 else 1)
def smF (f : Nat → Nat) : Nat → Nat
  | 0 => 0
  | k + 1 => smF f k + f k
theorem csm_cs {f : Nat → Nat} : ∀ k : Nat, csm f k = 64 * cnF f k + smF f k := by
  intro k
  induction k with
  | zero => rfl
  | succ k ih =>
    show csm f k + cs (f k) = 64 * (cnF f k + (if f k = 0 then 0 else 1)) + (smF f k + f k)
    rw [ih]
    unfold cs
    split <;> omega
theorem cn_le {f : Nat → Nat} : ∀ k : Nat, cnF f k ≤ k := by
  intro k
  induction k with
  | zero => exact Nat.le_refl _
  | succ k ih =>
    show cnF f k + (if f k = 0 then 0 else 1) ≤ k + 1
    split <;> omega
theorem sm_le {f : Nat → Nat} : ∀ k : Nat, (∀ i : Nat, i < k → f i ≤ 6) → smF f k ≤ 6 * k := by
  intro k
  induction k with
  | zero => intro _; exact Nat.le_refl _
  | succ k ih =>
    intro h
    have := ih (fun i hi => h i (by omega))
    have := h k (by omega)
    show smF f k + f k ≤ 6 * (k + 1)
    omega
theorem cs_congr {f g : Nat → Nat} : ∀ k : Nat, (∀ i : Nat, i < k → f i = g i) → cnF f k = cnF g k ∧ smF f k = smF g k := by
  intro k
  induction k with
  | zero => intro _; exact ⟨rfl, rfl⟩
  | succ k ih =>
    intro h
    have a := ih (fun i hi => h i (by omega))
    have b := h k (by omega)
    show cnF f k + (if f k = 0 then 0 else 1) = cnF g k + (if g k = 0 then 0 else 1) ∧ smF f k + f k = smF g k + g k
    rw [a.1, a.2, b]
    exact ⟨rfl, rfl⟩
theorem cs_mon {f : Nat → Nat} {t : Nat} : ∀ k : Nat, cnF f t ≤ cnF f (t + k) ∧ smF f t ≤ smF f (t + k) := by
  intro k
  induction k with
  | zero => exact ⟨Nat.le_refl _, Nat.le_refl _⟩
  | succ k ih =>
    show cnF f t ≤ cnF f (t + k) + (if f (t + k) = 0 then 0 else 1) ∧ smF f t ≤ smF f (t + k) + f (t + k)
    omega
def MBs (n : Nat) : Option (Nat → Nat) → Int32 → Int32 → (Nat → Int32) → Prop
  | none, c, s, _ => c.toInt = 1073741824 ∧ s.toInt = 1073741824
  | some g, c, s, b => c.toInt = cnF g n ∧ s.toInt = 5 * (smF g n : Int) ∧ ∀ i : Nat, i < n → (b i).toInt = 5 * (g i : Int) ∧ g i ≤ 6
def mtR (stN : Int32) (ways ups sts sty mRun : Nat → Int32) (i j : Nat) (d : Int) : Prop := ∃ k : Nat, (k : Int) + 1 < stN.toInt ∧ MT stN ways ups sts sty mRun i j d k
theorem mtR_no {stN : Int32} {ways ups sts sty mRun : Nat → Int32} {i j : Nat} {d : Int} {r : Int32} (h : frP (MT stN ways ups sts sty mRun i j d) stN.toInt r) : (r = -1 ↔ ¬ mtR stN ways ups sts sty mRun i j d) ∧ (0 ≤ r.toInt ↔ mtR stN ways ups sts sty mRun i j d) := by
  rw [ti_eq, c_m1]
  rcases h with ⟨h1, h2⟩ | ⟨h1, h2, h3, h4⟩
  · have n : ¬ mtR stN ways ups sts sty mRun i j d := fun ⟨k, k1, k2⟩ => h2 k k1 k2
    exact ⟨⟨fun _ => n, fun _ => h1⟩, ⟨fun k => by omega, fun k => absurd k n⟩⟩
  · have y : mtR stN ways ups sts sty mRun i j d := ⟨r.toInt.toNat, by omega, h3⟩
    exact ⟨⟨fun k => by omega, fun k => absurd y k⟩, ⟨fun _ => y, fun _ => h1⟩⟩
section FM
variable {tnN stN trN : Int32} {lnT ways ups sts sty dly : Nat → Int32} {mSt mTr : Int32} {mStT mRun mUp mSta mSty mDly : Nat → Int32}
theorem k_delays {n : Nat} (hLn : R_ln tnN stN trN lnT ways ups sts sty dly mSt mTr mStT mRun mUp mSta mSty mDly) (hT : trN.toInt = n) : ∀ (r d t : Nat) (f : Nat → Nat) (b : Option (Nat → Nat)) (v1 v2 v3 mFM mFS : Int32) (mTri mFnd : Nat → Int32) (Q : Int32 → Int32 → (Nat → Int32) → (Nat → Int32) → Prop), t + r = n → r < d → v1.toInt = t → v2.toInt = cnF f t → v3.toInt = 5 * (smF f t : Int) → (∀ i : Nat, i < t → (mTri i).toInt = 5 * (f i : Int) ∧ f i ≤ 6) → MBs n b mFM mFS mFnd → (∀ (mFM' mFS' : Int32) (mTri' mFnd' : Nat → Int32), MBs n (srG 7 (okF (mtR stN ways ups sts sty mRun)) nxF (lfF n) r (t, f) b) mFM' mFS' mFnd' → (∀ i : Nat, i < t → mTri' i = mTri i) → Q mFM' mFS' mTri' mFnd') → p_M_delays mSt mTr mRun mUp mSta mSty d mFM mFS mTri mFnd v1 v2 v3 Q := by
  have hn : n ≤ 6 := by have := hLn.2.2.2.1; omega
  have e0 := hLn.2.1
  intro r
  induction r with
  | zero =>
    intro d t f b v1 v2 v3 mFM mFS mTri mFnd Q htr hd hv1 hv2 hv3 hst hMB q
    obtain ⟨d, rfl⟩ : ∃ d', d = d' + 1 := ⟨d - 1, by omega⟩
    show p_M_delays_B mSt mTr mRun mUp mSta mSty (p_M_delays mSt mTr mRun mUp mSta mSty d) mFM mFS mTri mFnd v1 v2 v3 Q
    unfold p_M_delays_B p_M_delays_J25
    have et : t = n := by omega
    subst et
    have hcl := cn_le (f := f) t
    have hsl := sm_le (f := f) t (fun i hi => (hst i hi).2)
    have skip : ¬ (v2.toInt < mFM.toInt ∨ (v2.toInt = mFM.toInt ∧ v3.toInt < mFS.toInt)) → Q mFM mFS mTri mFnd := by
      intro h
      refine q _ _ _ _ ?_ (fun _ _ => rfl)
      show MBs t (lfF t (t, f) b) mFM mFS mFnd
      cases b with
      | none =>
        have h' : mFM.toInt = 1073741824 ∧ _ := hMB
        omega
      | some g =>
        obtain ⟨h1, h2, h3⟩ : mFM.toInt = cnF g t ∧ mFS.toInt = 5 * (smF g t : Int) ∧ _ := hMB
        have := sm_le (f := g) t (fun i hi => (h3 i hi).2)
        show MBs t (if csm f t < csm g t then some f else some g) mFM mFS mFnd
        rw [csm_cs, csm_cs, if_neg (by omega)]
        exact ⟨h1, h2, h3⟩
    have keep : (v2.toInt < mFM.toInt ∨ (v2.toInt = mFM.toInt ∧ v3.toInt < mFS.toInt)) → Lp2 (p_M_delays_L46 mSt mTr mRun mUp mSta mSty (p_M_delays mSt mTr mRun mUp mSta mSty d) v2 v3 mTri Q) 0 mFnd := by
      intro h
      refine Lp2.of (fun v b => (0 ≤ v.toInt ∧ v.toInt ≤ trN.toInt) ∧ ∀ i : Nat, (i : Int) < v.toInt → b i = mTri i) (fun v _ => (trN.toInt - v.toInt).toNat) ?_ _ _ ⟨by rw [c_0]; omega, fun i hi => by rw [c_0] at hi; omega⟩
      intro rec v b' ⟨a1, a2⟩ hrec
      unfold p_M_delays_L46
      rw [ti_le, forall_eq, e0]
      have hn1 := ti_a1 (x := v) (by omega)
      refine ⟨fun g => q _ _ _ _ ?_ (fun _ _ => rfl), fun g => ⟨ti_in a1.1 (by omega), ti_in a1.1 (by omega), hrec _ _ ⟨by omega, fun i hi => ?_⟩ (by omega)⟩⟩
      · show MBs t (lfF t (t, f) b) v2 v3 b'
        have fin : MBs t (some f) v2 v3 b' := ⟨hv2, hv3, fun i hi => by rw [a2 i (by omega)]; exact hst i hi⟩
        cases b with
        | none => exact fin
        | some g' =>
          obtain ⟨h1, h2, h3⟩ : mFM.toInt = cnF g' t ∧ mFS.toInt = 5 * (smF g' t : Int) ∧ _ := hMB
          have := sm_le (f := g') t (fun i hi => (h3 i hi).2)
          show MBs t (if csm f t < csm g' t then some f else some g') v2 v3 b'
          rw [csm_cs, csm_cs, if_pos (by omega)]
          exact fin
      · rw [ti_c]
        by_cases e : i = v.toInt.toNat
        · subst e
          rw [ti_up]
        · rw [ti_un e]
          exact a2 i (by omega)
    have ev : v1 = mTr := ti_eq.mpr (by rw [e0]; omega)
    rw [ti_lt, ti_lt, ti_eq (x := v2)]
    exact ⟨fun h => skip (by omega), fun h => ⟨fun h1 => ⟨fun h2 => tn_f ev (keep (by omega)), fun h2 => skip (by omega)⟩, fun h1 => tn_f ev (keep (by omega))⟩⟩
  | succ r ih =>
    intro d t f b v1 v2 v3 mFM mFS mTri mFnd Q htr hd hv1 hv2 hv3 hst hMB q
    obtain ⟨d, rfl⟩ : ∃ d', d = d' + 1 := ⟨d - 1, by omega⟩
    show p_M_delays_B mSt mTr mRun mUp mSta mSty (p_M_delays mSt mTr mRun mUp mSta mSty d) mFM mFS mTri mFnd v1 v2 v3 Q
    unfold p_M_delays_B p_M_delays_J25
    have hcl := cn_le (f := f) t
    have hsl := sm_le (f := f) t (fun i hi => (hst i hi).2)
    have skip : ¬ (v2.toInt < mFM.toInt ∨ (v2.toInt = mFM.toInt ∧ v3.toInt < mFS.toInt)) → Q mFM mFS mTri mFnd := by
      intro h
      refine q _ _ _ _ ?_ (fun _ _ => rfl)
      rw [srG_skip]
      · exact hMB
      · intro y hy
        obtain ⟨l1, l2⟩ := LfF (r + 1) t f y hy
        have k1 := cs_congr t (fun i hi => l1 i hi)
        have k2 := cs_mon (f := y.2) (t := t) (r + 1)
        rw [htr] at k2
        cases b with
        | none =>
          have h' : mFM.toInt = 1073741824 ∧ _ := hMB
          omega
        | some g =>
          obtain ⟨h1, h2, h3⟩ : mFM.toInt = cnF g n ∧ mFS.toInt = 5 * (smF g n : Int) ∧ _ := hMB
          have := sm_le (f := g) n (fun i hi => (h3 i hi).2)
          show (if csm y.2 n < csm g n then some y.2 else some g) = some g
          rw [csm_cs, csm_cs, if_neg (by omega)]
    have hin1 : vp_in v1 6 := ti_in (by omega) (by omega)
    have hc1 : v1.toNatClampNeg = t := by rw [ti_c]; omega
    have hv1s := ti_a1 (x := v1) (by omega)
    have go : Lp5 (p_M_delays_L79 mSt mTr mRun mUp mSta mSty (p_M_delays mSt mTr mRun mUp mSta mSty d) v1 v2 v3 Q) 0 mFM mFS mTri mFnd := by
      refine Lp5.of (fun (v4 mFM' mFS' : Int32) (mTri' mFnd' : Nat → Int32) => ∃ s : Nat, v4.toInt = 5 * (s : Int) ∧ s ≤ 7 ∧ MBs n (lpF (fun k acc => @ite _ (okF (mtR stN ways ups sts sty mRun) (t, f) k) (Classical.propDecidable _) (srG 7 (okF (mtR stN ways ups sts sty mRun)) nxF (lfF n) r (nxF (t, f) k) acc) acc) s b) mFM' mFS' mFnd' ∧ (∀ i : Nat, i < t → mTri' i = mTri i)) (fun v4 _ _ _ _ => (35 - v4.toInt).toNat) ?_ _ _ _ _ _ ⟨0, by rw [c_0]; omega, by omega, hMB, fun _ _ => rfl⟩
      intro rec v4 FM FS Tr Fn ⟨s, a0, a1, a2, a3⟩ hrec
      unfold p_M_delays_L79
      rw [ti_lt, c_30]
      refine ⟨fun g => q _ _ _ _ ?_ a3, fun g => ?_⟩
      · rw [show s = 7 by omega] at a2
        exact a2
      have h5 : (v4 + 5).toInt = 5 * ((s + 1 : Nat) : Int) := by rw [ti_add (by rw [c_5]; omega) (by rw [c_5]; omega), c_5]; omega
      have no : ¬ okF (mtR stN ways ups sts sty mRun) (t, f) s → p_M_delays_J135 mSt mTr mRun mUp mSta mSty (p_M_delays mSt mTr mRun mUp mSta mSty d) v1 v2 v3 v4 0 FM FS Tr Fn rec Q := by
        intro h
        unfold p_M_delays_J135
        refine tn_f rfl ?_
        rw [forall_eq]
        refine hrec _ _ _ _ _ ⟨s + 1, h5, by omega, ?_, a3⟩ (by omega)
        rw [srG_no h]
        exact a2
      have yes : okF (mtR stN ways ups sts sty mRun) (t, f) s → p_M_delays_J135 mSt mTr mRun mUp mSta mSty (p_M_delays mSt mTr mRun mUp mSta mSty d) v1 v2 v3 v4 1 FM FS Tr Fn rec Q := by
        intro hok
        unfold p_M_delays_J135 p_M_delays_J163
        refine tn_t i10 ⟨hin1, ?_⟩
        rw [hc1]
        have h34 : (v3 + v4).toInt = 5 * (smF (udN f t s) (t + 1) : Int) := by
          rw [ti_add (by omega) (by omega)]
          show _ = 5 * ((smF (udN f t s) t + udN f t s t : Nat) : Int)
          rw [(cs_congr (g := f) t (fun i hi => udN_n (by omega))).2, udN_e]
          omega
        have htri : ∀ i : Nat, i < t + 1 → (upd Tr t v4 i).toInt = 5 * (udN f t s i : Int) ∧ udN f t s i ≤ 6 := by
          intro i hi
          by_cases c : i = t
          · subst c
            rw [ti_up, udN_e]
            omega
          · rw [ti_un c, udN_n c, a3 i (by omega)]
            exact hst i (by omega)
        have fin : ∀ z : Int32, z.toInt = cnF (udN f t s) (t + 1) → p_M_delays mSt mTr mRun mUp mSta mSty d FM FS (upd Tr t v4) Fn (v1 + 1) z (v3 + v4) (fun (mFM_168 : Int32) (mFS_168 : Int32) (mTri_168 : Nat → Int32) (mFnd_168 : Nat → Int32) => ∀ x171 : Int32, x171 = v4 + 5 → rec x171 mFM_168 mFS_168 mTri_168 mFnd_168) := by
          intro z hz
          refine ih d (t + 1) (udN f t s) _ (v1 + 1) z (v3 + v4) FM FS (upd Tr t v4) Fn _ (by omega) (by omega) (by omega) hz h34 htri a2 (fun FM2 FS2 Tr2 Fn2 k1 k2 => ?_)
          rw [forall_eq]
          refine hrec _ _ _ _ _ ⟨s + 1, h5, by omega, ?_, fun i hi => ?_⟩ (by omega)
          · rw [srG_yes hok]
            exact k1
          · rw [k2 i (by omega), ti_un (by omega)]
            exact a3 i hi
        have hcn : cnF (udN f t s) (t + 1) = cnF f t + (if s = 0 then 0 else 1) := by
          show cnF (udN f t s) t + (if udN f t s t = 0 then 0 else 1) = _
          rw [(cs_congr (g := f) t (fun i hi => udN_n (by omega))).1, udN_e]
        rw [ti_le, c_0]
        refine ⟨fun k => fin _ ?_, fun k => fin _ ?_⟩
        · rw [ti_add (by rw [c_0]; omega) (by rw [c_0]; omega), c_0, hcn, if_pos (by omega)]
          omega
        · rw [ti_a1 (by omega), hcn, if_neg (by omega)]
          omega
      have hmt : ∀ i : Nat, i < t → v4.toInt - (Tr i).toInt = 5 * ((s : Int) - (f i : Int)) := by
        intro i hi
        rw [a3 i hi, (hst i hi).1]
        omega
      refine Lp2.of (fun (v5 v6 : Int32) => (0 ≤ v6.toInt ∧ v6.toInt ≤ (t : Int)) ∧ ((v5 = 1 ∧ ∀ i : Nat, (i : Int) < v6.toInt → ¬ mtR stN ways ups sts sty mRun i t (5 * ((s : Int) - (f i : Int)))) ∨ (v5 = 0 ∧ ∃ i : Nat, i < t ∧ mtR stN ways ups sts sty mRun i t (5 * ((s : Int) - (f i : Int)))))) (fun _ v6 => ((t : Int) - v6.toInt).toNat) ?_ _ _ ⟨by rw [c_0]; omega, Or.inl ⟨rfl, fun i hi => by rw [c_0] at hi; omega⟩⟩
      intro rec2 v5 v6 ⟨b1, b2⟩ hrec2
      unfold p_M_delays_L92
      rw [ti_le]
      rcases b2 with ⟨rfl, b3⟩ | ⟨rfl, i, i1, i2⟩
      · refine ⟨fun c => yes (fun i hi => b3 i (by show (i : Int) < v6.toInt; have : i < t := hi; omega)), fun c => tn_t i10 ⟨ti_in b1.1 (by omega), ?_⟩⟩
        have hn6 := ti_a1 (x := v6) (by omega)
        have hT6 := hst v6.toInt.toNat (by omega)
        have h6 := hmt v6.toInt.toNat (by omega)
        have e3 := a3 v6.toInt.toNat (by omega)
        rw [ti_c]
        refine k_meeting hLn (by omega) (by omega) (by omega) (by omega) (fun rr hr => ?_)
        rw [show v1.toInt.toNat = t by omega, h6] at hr
        have hno := mtR_no hr
        rw [ti_le, c_0, forall_eq, forall_eq]
        refine ⟨fun k => hrec2 _ _ ⟨by omega, Or.inr ⟨rfl, v6.toInt.toNat, by omega, hno.2.mp k⟩⟩ (by omega), fun k => hrec2 _ _ ⟨by omega, Or.inl ⟨rfl, fun i hi => ?_⟩⟩ (by omega)⟩
        by_cases e : (i : Int) < v6.toInt
        · exact b3 i e
        · have ei : i = v6.toInt.toNat := by omega
          subst ei
          exact fun h => k (hno.2.mpr h)
      · have nok : ¬ okF (mtR stN ways ups sts sty mRun) (t, f) s := fun h => h i i1 i2
        exact ⟨fun c => no nok, fun c => tn_f rfl (no nok)⟩
    have ev : ¬ v1 = mTr := fun k => by rw [k, e0] at hv1; omega
    rw [ti_lt, ti_lt, ti_eq (x := v2)]
    exact ⟨fun h => skip (by omega), fun h => ⟨fun h1 => ⟨fun h2 => tn_t ev go, fun h2 => skip (by omega)⟩, fun h1 => tn_t ev go⟩⟩
theorem k_stepsApart {v1 v2 : Int32} {Q : Int32 → Prop} (hLn : R_ln tnN stN trN lnT ways ups sts sty dly mSt mTr mStT mRun mUp mSta mSty mDly) (hv1 : 0 ≤ v1.toInt ∧ v1.toInt < trN.toInt) (hv2 : 0 ≤ v2.toInt ∧ v2.toInt < trN.toInt) (q : ∀ r : Int32, (∀ e : Nat, e < 13 → (tb r e ↔ ¬ mtR stN ways ups sts sty mRun v1.toInt.toNat v2.toInt.toNat (5 * ((e : Int) - 6)))) → Q r) : p_Ds_stepsApart stN trN ways ups sts sty v1 v2 Q := by
  unfold p_Ds_stepsApart
  refine Lp2.of (fun (v3 v4 : Int32) => (-6 ≤ v4.toInt ∧ v4.toInt ≤ 7) ∧ ∀ e : Nat, e < 13 → (tb v3 e ↔ (e : Int) - 6 < v4.toInt ∧ ¬ mtR stN ways ups sts sty mRun v1.toInt.toNat v2.toInt.toNat (5 * ((e : Int) - 6)))) (fun _ v4 => (7 - v4.toInt).toNat) ?_ _ _ ⟨by rw [c_m6]; omega, fun e he => ⟨fun h => absurd h tb_0, fun h => by rw [c_m6] at h; omega⟩⟩
  intro rec v3 v4 ⟨a1, a2⟩ hrec
  unfold p_Ds_stepsApart_L6
  rw [ti_lt, c_6]
  refine ⟨fun g => q v3 (fun e he => ?_), fun g => ?_⟩
  · rw [a2 e he]
    exact ⟨fun h => h.2, fun h => ⟨by omega, h⟩⟩
  · have h5 : (v4 * 5).toInt = 5 * v4.toInt := by rw [ti_mul] <;> rw [c_5] <;> omega
    have h6 : (v4 + 6).toInt = v4.toInt + 6 := by rw [ti_add] <;> rw [c_6] <;> omega
    have hn1 := ti_a1 (x := v4) (by omega)
    refine k_frm hLn hv1 hv2 (by omega) (fun r hr => ?_)
    rw [h5] at hr
    have hno := (mtR_no hr).1
    simp only [forall_eq]
    refine ⟨fun k => hrec _ _ ⟨by omega, fun e he => ?_⟩ (by omega), fun k => hrec _ _ ⟨by omega, fun e he => ?_⟩ (by omega)⟩
    · have k' := hno.mp k
      rw [tb_or1 (by omega), a2 e he]
      constructor
      · rintro (h | h)
        · exact ⟨by omega, h.2⟩
        · refine ⟨by omega, ?_⟩
          rw [show (e : Int) - 6 = v4.toInt by omega]
          exact k'
      · intro h
        by_cases c : (e : Int) - 6 < v4.toInt
        · exact Or.inl ⟨c, h.2⟩
        · exact Or.inr (by omega)
    · rw [a2 e he]
      constructor
      · intro h
        exact ⟨by omega, h.2⟩
      · intro h
        refine ⟨?_, h.2⟩
        by_cases c : (e : Int) - 6 < v4.toInt
        · exact c
        · refine absurd (hno.mpr ?_) k
          rw [← show (e : Int) - 6 = v4.toInt by omega]
          exact h.2
theorem k_settle {n : Nat} {dsT dsC : Int32} {gAp gOp : Nat → Nat → Int32} {stp bst : Nat → Int32} {Q : Int32 → Int32 → Int32 → (Nat → Int32) → (Nat → Nat → Int32) → (Nat → Nat → Int32) → (Nat → Int32) → (Nat → Int32) → Prop} (hLn : R_ln tnN stN trN lnT ways ups sts sty dly mSt mTr mStT mRun mUp mSta mSty mDly) (hT : trN.toInt = n)
    (q0 : srG 7 (okF (mtR stN ways ups sts sty mRun)) nxF (lfF n) n (0, fun _ => 0) none = none → ∀ (dsT dsC : Int32) (gAp gOp : Nat → Nat → Int32) (stp bst : Nat → Int32), Q (-1) dsT dsC dly gAp gOp stp bst)
    (q1 : ∀ g : Nat → Nat, srG 7 (okF (mtR stN ways ups sts sty mRun)) nxF (lfF n) n (0, fun _ => 0) none = some g → (∀ i : Nat, i < n → g i ≤ 6) → ∀ (r dsT dsC : Int32) (d' : Nat → Int32) (gAp gOp : Nat → Nat → Int32) (stp bst : Nat → Int32), r.toInt = cnF g n → (∀ i : Nat, i < n → (d' i).toInt = 5 * (g i : Int)) → Q r dsT dsC d' gAp gOp stp bst) : p_Ds_settleBest stN trN ways ups sts sty dsT dsC dly gAp gOp stp bst Q := by
  have hn : n ≤ 6 := by have := hLn.2.2.2.1; omega
  unfold p_Ds_settleBest
  rw [forall_eq]
  have hj := ti_jmin (x := trN) (y := 6)
  rw [c_6] at hj
  generalize jmin trN 6 = z at hj ⊢
  have hz : z.toInt = n := by omega
  refine Lp3.of (fun (v2 : Int32) (gAp gOp : Nat → Nat → Int32) => (0 ≤ v2.toInt ∧ v2.toInt ≤ n) ∧ (∀ i j : Nat, (i : Int) < v2.toInt → i < j → j < n → ∀ e : Nat, e < 13 → (tb (gAp i j) e ↔ ¬ mtR stN ways ups sts sty mRun i j (5 * ((e : Int) - 6)))) ∧ ∀ i : Nat, (i : Int) < v2.toInt → gOp 0 i = 127) (fun v2 _ _ => ((n : Int) - v2.toInt).toNat) ?_ _ _ _ ⟨by rw [c_0]; omega, fun i j hi => by rw [c_0] at hi; omega, fun i hi => by rw [c_0] at hi; omega⟩
  intro rec v2 A G ⟨a1, a2, a3⟩ hrec
  unfold p_Ds_settleBest_L22
  rw [ti_le, hz]
  refine ⟨fun g => ?_, fun g => ⟨ti_in (by decide) (by decide), ti_in (by omega) (by omega), ?_⟩⟩
  · refine k_place (mt := mtR stN ways ups sts sty mRun) hz hn (fun i j hi hj' e he => a2 i j (by omega) hi hj' e he) n 7 0 (fun _ => 0) none 0 0 448 G stp bst _ (by omega) (by omega) (by rw [c_0]; rfl) (by rw [c_0]; rfl) (fun i hi => by omega) c_448 (fun j h1 h2 => ?_) (fun _ => by decide) (fun C G2 S B k1 k2 k3 => ?_)
    · rw [a3 j (by omega), c_127]
      exact ⟨by omega, fun s hs => ⟨fun _ i hi => by omega, fun _ => tb_127 ⟨s, hs⟩⟩⟩
    · generalize hres : srG 7 (okF (mtR stN ways ups sts sty mRun)) nxF (lfF n) n (0, fun _ => 0) none = res at k1 q0 q1
      cases res with
      | none =>
        have h' : C.toInt = 448 := k1
        exact tn_f (ti_eq.mpr (by rw [h', c_448])) (q0 rfl _ _ _ _ _ _)
      | some g' =>
        obtain ⟨h1, h2⟩ : C.toInt = csm g' n ∧ ∀ i : Nat, i < n → (B i).toInt = g' i ∧ g' i ≤ 6 := k1
        have hl := csm_le (f := g') n (fun i hi => (h2 i hi).2)
        refine tn_t (fun k => by rw [k, c_448] at h1; omega) ?_
        refine Lp2.of (fun (v : Int32) (d' : Nat → Int32) => (0 ≤ v.toInt ∧ v.toInt ≤ n) ∧ ∀ i : Nat, (i : Int) < v.toInt → (d' i).toInt = 5 * (g' i : Int)) (fun v _ => ((n : Int) - v.toInt).toNat) ?_ _ _ ⟨by rw [c_0]; omega, fun i hi => by rw [c_0] at hi; omega⟩
        intro rec2 v d' ⟨b1, b2⟩ hrec2
        unfold p_Ds_settleBest_L98
        rw [ti_le, hz, forall_eq]
        refine ⟨fun c => q1 g' rfl (fun i hi => (h2 i hi).2) _ _ _ _ _ _ _ _ ?_ (fun i hi => b2 i (by omega)), fun c => ⟨ti_in b1.1 (by omega), ti_in b1.1 (by omega), ?_⟩⟩
        · rw [ti_div _ (by rw [c_64]; omega), c_64, td_p (by omega), h1, csm_cs]
          have := sm_le (f := g') n (fun i hi => (h2 i hi).2)
          omega
        · have hn1 := ti_a1 (x := v) (by omega)
          have hB := h2 v.toInt.toNat (by omega)
          have hm : (B v.toInt.toNat * 5).toInt = 5 * (g' v.toInt.toNat : Int) := by rw [ti_mul] <;> rw [c_5] <;> omega
          rw [ti_c]
          refine hrec2 _ _ ⟨by omega, fun i hi => ?_⟩ (by omega)
          by_cases e : i = v.toInt.toNat
          · subst e
            rw [ti_up]
            exact hm
          · rw [ti_un e]
            exact b2 i (by omega)
  · rw [forall_eq, z0n]
    have hn1 := ti_a1 (x := v2) (by omega)
    have hc2 : v2.toNatClampNeg = v2.toInt.toNat := ti_c v2
    have hG : ∀ i : Nat, (i : Int) < v2.toInt + 1 → va_up G 0 (upd (G 0) v2.toNatClampNeg 127) 0 i = 127 := by
      intro i hi
      rw [va_us]
      by_cases e : i = v2.toInt.toNat
      · subst e
        rw [hc2, ti_up]
      · rw [hc2, ti_un e]
        exact a3 i (by omega)
    generalize va_up G 0 (upd (G 0) v2.toNatClampNeg 127) = G1 at hG ⊢
    refine Lp2.of (fun (v3 : Int32) (A : Nat → Nat → Int32) => (v2.toInt + 1 ≤ v3.toInt ∧ v3.toInt ≤ n) ∧ (∀ i j : Nat, (i : Int) < v2.toInt → i < j → j < n → ∀ e : Nat, e < 13 → (tb (A i j) e ↔ ¬ mtR stN ways ups sts sty mRun i j (5 * ((e : Int) - 6)))) ∧ ∀ j : Nat, v2.toInt < (j : Int) → (j : Int) < v3.toInt → ∀ e : Nat, e < 13 → (tb (A v2.toInt.toNat j) e ↔ ¬ mtR stN ways ups sts sty mRun v2.toInt.toNat j (5 * ((e : Int) - 6)))) (fun v3 _ => ((n : Int) - v3.toInt).toNat) ?_ _ _ ⟨by omega, a2, fun j h1 h2 => by omega⟩
    intro rec2 v3 A ⟨b1, b2, b3⟩ hrec2
    unfold p_Ds_settleBest_L44
    rw [ti_le, hz]
    refine ⟨fun c => ?_, fun c => ⟨ti_in (by omega) (by omega), k_stepsApart hLn (by omega) (by omega) (fun r hr => ⟨ti_in (by omega) (by omega), ?_⟩)⟩⟩
    · rw [forall_eq]
      refine hrec _ _ _ ⟨by omega, fun i j h1 h2 h3 => ?_, fun i hi => hG i (by omega)⟩ (by omega)
      by_cases e : (i : Int) < v2.toInt
      · exact b2 i j e h2 h3
      · have ei : i = v2.toInt.toNat := by omega
        subst ei
        exact b3 j (by omega) (by omega)
    · rw [forall_eq, hc2, ti_c v3]
      have hn3 := ti_a1 (x := v3) (by omega)
      refine hrec2 _ _ ⟨by omega, fun i j h1 h2 h3 => ?_, fun j h1 h2 => ?_⟩ (by omega)
      · rw [va_ur (by omega)]
        exact b2 i j h1 h2 h3
      · rw [va_us]
        by_cases e : j = v3.toInt.toNat
        · subst e
          rw [ti_up]
          exact hr
        · rw [ti_un e]
          exact b3 j h1 (by omega)
theorem k_mFree {n : Nat} {mThr mFM mFS : Int32} {mTri mFnd : Nat → Int32} {Q : Int32 → Int32 → Int32 → Int32 → (Nat → Int32) → (Nat → Int32) → (Nat → Int32) → Prop} (hLn : R_ln tnN stN trN lnT ways ups sts sty dly mSt mTr mStT mRun mUp mSta mSty mDly) (hT : trN.toInt = n)
    (q0 : srG 7 (okF (mtR stN ways ups sts sty mRun)) nxF (lfF n) n (0, fun _ => 0) none = none → ∀ (c s : Int32) (t f : Nat → Int32), Q (-1) 0 c s mDly t f)
    (q1 : ∀ g : Nat → Nat, srG 7 (okF (mtR stN ways ups sts sty mRun)) nxF (lfF n) n (0, fun _ => 0) none = some g → (∀ i : Nat, i < n → g i ≤ 6) → ∀ (r s : Int32) (d' t f : Nat → Int32), r.toInt = cnF g n → (∀ i : Nat, i < n → (d' i).toInt = 5 * (g i : Int)) → Q r 0 r s d' t f) : p_M_free mSt mTr mRun mUp mSta mSty mThr mFM mFS mDly mTri mFnd Q := by
  have hn : n ≤ 6 := by have := hLn.2.2.2.1; omega
  have e0 := hLn.2.1
  unfold p_M_free
  refine k_delays hLn hT n 7 0 (fun _ => 0) none 0 0 0 _ _ mTri mFnd _ (by omega) (by omega) (by rw [c_0]; rfl) (by rw [c_0]; rfl) (by rw [c_0]; rfl) (fun i hi => by omega) ⟨c_1073741824, c_1073741824⟩ (fun C S T F k1 k2 => ?_)
  generalize hres : srG 7 (okF (mtR stN ways ups sts sty mRun)) nxF (lfF n) n (0, fun _ => 0) none = res at k1 q0 q1
  cases res with
  | none =>
    have h' : C.toInt = 1073741824 ∧ _ := k1
    exact tn_f (ti_eq.mpr (by rw [h'.1, c_1073741824])) (q0 rfl _ _ _ _)
  | some g' =>
    obtain ⟨h1, -, h2⟩ : C.toInt = cnF g' n ∧ _ ∧ ∀ i : Nat, i < n → (F i).toInt = 5 * (g' i : Int) ∧ g' i ≤ 6 := k1
    have hl := cn_le (f := g') n
    refine tn_t (fun k => by rw [k, c_1073741824] at h1; omega) ?_
    refine Lp2.of (fun (v : Int32) (d' : Nat → Int32) => (0 ≤ v.toInt ∧ v.toInt ≤ n) ∧ ∀ i : Nat, (i : Int) < v.toInt → (d' i).toInt = 5 * (g' i : Int)) (fun v _ => ((n : Int) - v.toInt).toNat) ?_ _ _ ⟨by rw [c_0]; omega, fun i hi => by rw [c_0] at hi; omega⟩
    intro rec2 v d' ⟨b1, b2⟩ hrec2
    unfold p_M_free_L37
    rw [ti_le, e0, hT, forall_eq]
    refine ⟨fun c => q1 g' rfl (fun i hi => (h2 i hi).2) _ _ _ _ _ h1 (fun i hi => b2 i (by omega)), fun c => ⟨ti_in b1.1 (by omega), ti_in b1.1 (by omega), ?_⟩⟩
    have hn1 := ti_a1 (x := v) (by omega)
    have hB := h2 v.toInt.toNat (by omega)
    rw [ti_c]
    refine hrec2 _ _ ⟨by omega, fun i hi => ?_⟩ (by omega)
    by_cases e : i = v.toInt.toNat
    · subst e
      rw [ti_up]
      exact hB.1
    · rw [ti_un e]
      exact b2 i (by omega)
end FM
theorem s_free : st_free RR := by
  intro mThr mTn mCk mRw mSt mTr mFM mFS mTpN mLw mAt mTwN mBE mBEn mSun mCkT mCkD mCkK mCkA mRow mStT mRun mUp mSta mSty mDly mTri mFnd mTap mLwT mLwD mLwO mLwM mTwT mSetA mDri mOrd mBst tnN ckN stN trN dsT dsC tpN lwN rdS rdM rdE rdD twN rsW rsE rwN suns ckT ckD shf lnT ways ups sts sty dly gAp gOp stp bst sgn lwT lwD rdT rdO lwK lwM twS twM twD rsO rsB rwA hR _ 
  obtain ⟨hTn, hCk, hLn, hTp, hLw, hTw, hRw⟩ := id hR
  have hb := hLn.2.2.2.1
  have hT : trN.toInt = (trN.toInt.toNat : Nat) := by omega
  generalize trN.toInt.toNat = n at hT
  unfold p_O_free
  refine k_settle hLn hT (fun h _ _ _ _ _ _ => k_mFree hLn hT (fun _ _ _ _ _ => ⟨rfl, hTn, hCk, hLn, hTp, hLw, hTw, hRw⟩) (fun g h' => by rw [h] at h'; cases h')) (fun g h hg r _ _ d' _ _ _ _ hr hd => k_mFree hLn hT (fun h' => by rw [h] at h'; cases h') (fun g' h' _ r' _ d'' _ _ hr' hd' => ?_))
  rw [h] at h'
  cases h'
  have er : r = r' := ti_eq.mpr (by omega)
  obtain ⟨l1, l2, l3, l4, l5, l6, l7, l8, l9⟩ := id hLn
  refine ⟨er, hTn, hCk, ⟨l1, l2, l3, l4, l5, l6, l7, l8, fun i hi => ?_⟩, hTp, hLw, hTw, hRw⟩
  obtain ⟨m1, m2, m3, m4, m5, m6, m7, m8⟩ := l9 i hi
  have k1 := hd i (by omega)
  have k2 := hd' i (by omega)
  have k3 := hg i (by omega)
  exact ⟨m1, m2, m3, m4, m5, m6, ti_eq.mpr (by omega), by omega, by omega⟩

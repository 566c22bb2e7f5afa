set_option maxHeartbeats 1000000
/-! round: both searches -/
def CBr (N : Nat) : Option (Int × Int × (Nat → Nat)) → Int32 → Int32 → (Nat → Int32) → Prop
  | none, w, e, _ => w.toInt = 2147483647 ∧ e.toInt = 2147483647
  | some b, w, e, o => w.toInt = b.1 ∧ e.toInt = b.2.1 ∧ ∀ i : Nat, i < N → (o i).toInt = b.2.2 i
def MBr (N : Nat) : Option (Int × Int × (Nat → Nat)) → Int32 → Int32 → (Nat → Int32) → Prop
  | none, w, e, _ => w.toInt = 1073741824 ∧ e.toInt = 1073741824
  | some b, w, e, o => w.toInt = b.1 ∧ e.toInt = b.2.1 ∧ ∀ i : Nat, i < N → (o i).toInt = b.2.2 i
theorem tb_xorm {v : Int32} {j : Nat} (h : 0 ≤ v.toInt ∧ v.toInt ≤ 12) (hj : j < 32) : tb (((1 : Int32) <<< (v &&& 31)) ^^^ (-1)) j ↔ ¬ j = v.toInt.toNat := by
  unfold tb
  rw [Int32.toBitVec_xor, tb_one h, BitVec.getLsbD_xor, BitVec.getLsbD_twoPow, show (-1 : Int32).toBitVec = BitVec.allOnes 32 by decide, BitVec.getLsbD_allOnes]
  have h32 : v.toInt.toNat < 32 := by omega
  generalize v.toInt.toNat = m at h32
  by_cases c : m = j
  · subst c
    simp [h32]
  · have c' : ¬ j = m := fun k => c k.symm
    simp [hj, c, c']
theorem LMk.ud {N : Nat} {m v : Int32} {l : Nat → Bool} (hN : N ≤ 7) (h : LMk N m l) (hv : 0 ≤ v.toInt ∧ v.toInt ≤ 12) : LMk N (m &&& (((1 : Int32) <<< (v &&& 31)) ^^^ (-1))) (udB l v.toInt.toNat) := by
  intro j hj
  rw [tb_and, tb_xorm hv (by omega), h j hj]
  by_cases c : j = v.toInt.toNat
  · rw [c, udB_e]
    exact ⟨fun k => absurd rfl k.2, fun k => by cases k⟩
  · rw [udB_n c]
    exact ⟨fun k => k.1, fun k => ⟨k, c⟩⟩
def VMk (N : Nat) (m : Int32) (l : Nat → Bool) : Prop := ∀ j : Nat, j < N → (tb m j ↔ ¬ l j = true)
theorem VMk.ud {N : Nat} {m v : Int32} {l : Nat → Bool} (h : VMk N m l) (hv : 0 ≤ v.toInt ∧ v.toInt ≤ 12) : VMk N (m ||| ((1 : Int32) <<< (v &&& 31))) (udB l v.toInt.toNat) := by
  intro j hj
  rw [tb_or1 hv, h j hj]
  by_cases c : j = v.toInt.toNat
  · rw [c, udB_e]
    exact ⟨fun _ k => (by cases k), fun _ => Or.inr rfl⟩
  · rw [udB_n c]
    exact ⟨fun k => k.elim id (fun k => absurd k c), fun k => Or.inl k⟩
theorem tb_sh1 {x v : Int32} (h : 0 ≤ v.toInt ∧ v.toInt ≤ 6) : (x >>> (v &&& 31)) &&& 1 = 0 ↔ ¬ tb x v.toInt.toNat := by
  have e := tb_and1 (x := x >>> (v &&& 31)) (v := 0) (by decide)
  rw [show ((1 : Int32) <<< ((0 : Int32) &&& 31)) = 1 by decide, show (0 : Int32).toInt.toNat = 0 by decide, tb_shr h (by decide), Nat.zero_add] at e
  exact e
section RO
variable {N : Nat} {twN : Int32} {twS twM twD : Nat → Int32}
theorem k_keepR {v1 v2 v3 rsW rsE : Int32} {rsO rsB : Nat → Int32} {Q : Int32 → Int32 → (Nat → Int32) → Prop} (h : 0 ≤ v1.toInt ∧ v1.toInt ≤ 7) (q : ∀ b : Nat → Int32, (∀ i : Nat, (i : Int) < v1.toInt → b i = rsO i) → Q v3 v2 b) : p_Rs_keep rsO rsW rsE rsB v1 v2 v3 Q := by
  unfold p_Rs_keep
  refine Lp2.of (fun (v : Int32) (b : Nat → Int32) => (0 ≤ v.toInt ∧ v.toInt ≤ v1.toInt) ∧ ∀ i : Nat, (i : Int) < v.toInt → b i = rsO i) (fun v _ => (v1.toInt - v.toInt).toNat) ?_ _ _ ⟨by rw [c_0]; omega, fun i hi => by rw [c_0] at hi; omega⟩
  intro rec v b ⟨a1, a2⟩ hrec
  unfold p_Rs_keep_L13
  rw [ti_le, ti_le, c_7, forall_eq]
  refine ⟨fun g => q b (fun i hi => a2 i (by omega)), fun g => ⟨fun g2 => by omega, fun g2 => ⟨ti_in a1.1 (by omega), ti_in a1.1 (by omega), ?_⟩⟩⟩
  have hn1 := ti_a1 (x := v) (by omega)
  refine hrec _ _ ⟨by omega, fun i hi => ?_⟩ (by omega)
  rw [ti_c]
  by_cases e : i = v.toInt.toNat
  · subst e
    rw [ti_up]
  · rw [ti_un e]
    exact a2 i (by omega)
theorem k_goOn (hT : twN.toInt = N) (hN : N ≤ 7) (hB : TWb N twS twM twD) : ∀ (r d : Nat) (x : RSt) (b : Option (Int × Int × (Nat → Nat))) (v2 v3 v4 v5 v6 rsW rsE : Int32) (rsO rsB : Nat → Int32) (Q : Int32 → Int32 → (Nat → Int32) → (Nat → Int32) → Prop), x.g + r = N → r < d → v2.toInt = x.g → LMk N v3 x.l → v4.toInt = x.p → (-720 ≤ x.p ∧ x.p ≤ 720) → v5.toInt = x.t → v6.toInt = x.w → (∀ i : Nat, i < x.g → (rsO i).toInt = x.f i) → cntB x.l N = r → (∀ j : Nat, j < N → (twM j).toInt ≤ x.t) → (0 ≤ x.t ∧ x.t ≤ 576000 + 14430 * (x.g : Int)) → (0 ≤ x.w ∧ x.w ≤ 1000000) → CBr N b rsW rsE rsB → (r = 0 → (x.w < rsW.toInt ∨ (x.w = rsW.toInt ∧ x.t < rsE.toInt))) → (∀ (rsW' rsE' : Int32) (rsO' rsB' : Nat → Int32), CBr N (srG N okR (nxR twS twM twD) lfR r x b) rsW' rsE' rsB' → (∀ i : Nat, i < x.g → rsO' i = rsO i) → Q rsW' rsE' rsO' rsB') → p_Rs_goOn twN twS twM twD d rsW rsE rsO rsB v2 v3 v4 v5 v6 Q := by
  intro r
  induction r with
  | zero =>
    intro d x b v2 v3 v4 v5 v6 rsW rsE rsO rsB Q hg hd hv2 hv3 hv4 hp hv5 hv6 hO hc hM ht hw hCB hlt q
    obtain ⟨d, rfl⟩ : ∃ d', d = d' + 1 := ⟨d - 1, by omega⟩
    show p_Rs_goOn_B twN twS twM twD (p_Rs_goOn twN twS twM twD d) rsW rsE rsO rsB v2 v3 v4 v5 v6 Q
    unfold p_Rs_goOn_B p_Rs_goOn_J18
    rw [ti_lt, ti_le, c_0, hT]
    refine tn_t (by omega) (tn_f (by omega) (k_keepR (by omega) (fun b' hb' => q _ _ _ _ ?_ (fun _ _ => rfl))))
    have fin : CBr N (some (x.w, x.t, x.f)) v6 v5 b' := ⟨hv6, hv5, fun i hi => by rw [hb' i (by omega)]; exact hO i (by omega)⟩
    show CBr N (lfR x b) v6 v5 b'
    cases b with
    | none => exact fin
    | some g =>
      obtain ⟨h1, h2, -⟩ : rsW.toInt = g.1 ∧ rsE.toInt = g.2.1 ∧ _ := hCB
      have hl := hlt rfl
      show CBr N (if x.w < g.1 ∨ (x.w = g.1 ∧ x.t < g.2.1) then some (x.w, x.t, x.f) else some g) v6 v5 b'
      rw [if_pos (by omega)]
      exact fin
  | succ r ih =>
    intro d x b v2 v3 v4 v5 v6 rsW rsE rsO rsB Q hg hd hv2 hv3 hv4 hp hv5 hv6 hO hc hM ht hw hCB hlt q
    obtain ⟨d, rfl⟩ : ∃ d', d = d' + 1 := ⟨d - 1, by omega⟩
    show p_Rs_goOn_B twN twS twM twD (p_Rs_goOn twN twS twM twD d) rsW rsE rsO rsB v2 v3 v4 v5 v6 Q
    unfold p_Rs_goOn_B
    rw [ti_lt, ti_le, ti_lt, c_0, c_7, hT]
    refine tn_t (by omega) (tn_t (by omega) (tn_f (by omega) ?_))
    have hc2 : v2.toNatClampNeg = x.g := by rw [ti_c]; omega
    have hv2s := ti_a1 (x := v2) (by omega)
    refine Lp5.of (fun (v7 W E : Int32) (O B : Nat → Int32) => (0 ≤ v7.toInt ∧ v7.toInt ≤ (N : Int)) ∧ CBr N (lpF (fun k acc => @ite _ (okR x k) (Classical.propDecidable _) (srG N okR (nxR twS twM twD) lfR r (nxR twS twM twD x k) acc) acc) v7.toInt.toNat b) W E B ∧ (∀ i : Nat, i < x.g → O i = rsO i)) (fun v7 _ _ _ _ => ((N : Int) - v7.toInt).toNat) ?_ _ _ _ _ _ ⟨by rw [c_0]; omega, by rw [c_0]; exact hCB, fun _ _ => rfl⟩
    intro rec v7 W E O B ⟨a1, a2, a3⟩ hrec
    unfold p_Rs_goOn_L31
    rw [ti_le, hT]
    refine ⟨fun g => q W E O B ?_ a3, fun g => ?_⟩
    · rw [show v7.toInt.toNat = N by omega] at a2
      exact a2
    · have hn7 := ti_a1 (x := v7) (by omega)
      have hnn : (v7 + 1).toInt.toNat = v7.toInt.toNat + 1 := by omega
      have hbit := hv3 v7.toInt.toNat (by omega)
      rw [tb_and1 (by omega)]
      simp only [forall_eq]
      refine ⟨fun nb => ?_, fun yb => ?_⟩
      · refine hrec _ _ _ _ _ ⟨by omega, ?_, a3⟩ (by omega)
        rw [hnn, srG_no (fun k => nb (hbit.mpr k))]
        exact a2
      · have hok : okR x v7.toInt.toNat := hbit.mp (Classical.not_not.mp yb)
        have bj := hB v7.toInt.toNat (by omega)
        have hMj := hM v7.toInt.toNat (by omega)
        refine k_sunOfT (by omega) (by omega) ?_
        unfold p_Rs_minutesBetween
        dsimp only
        have kw := k_way (a := v4) (b := twS v7.toInt.toNat) (by omega) bj.1
        have hx : (v5 + 10 * jabs (v4 - twS v7.toInt.toNat)).toInt = x.t + 10 * ab (x.p - (twS v7.toInt.toNat).toInt) := by rw [ti_add (by omega) (by omega), kw.1, hv5, hv4]
        rw [hv4] at kw
        generalize v5 + 10 * jabs (v4 - twS v7.toInt.toNat) = x67 at hx ⊢
        refine k_sizeO (by omega) (by omega) bj.2.1 (by omega) (fun er' her => ?_)
        have rb := eS_b (M := twM) (D := twD) (j := v7.toInt.toNat) (m := x67.toInt) bj.2.1 (by omega) (by omega)
        have rp := eS_p (M := twM) (D := twD) (j := v7.toInt.toNat) (m := x67.toInt)
        have jm := ti_jmax (x := v6) (y := er')
        generalize jmax v6 er' = x82 at jm ⊢
        have h30 : (x67 + 30).toInt = x67.toInt + 30 := by rw [ti_add] <;> rw [c_30] <;> omega
        generalize x67 + 30 = x97 at h30 ⊢
        have hw82 : x82.toInt = (nxR twS twM twD x v7.toInt.toNat).w := by
          show x82.toInt = if x.w < eS twM twD v7.toInt.toNat (x.t + 10 * ab (x.p - (twS v7.toInt.toNat).toInt)) then eS twM twD v7.toInt.toNat (x.t + 10 * ab (x.p - (twS v7.toInt.toNat).toInt)) else x.w
          rw [jm, her, hx, hv6]
        have ht97 : x97.toInt = (nxR twS twM twD x v7.toInt.toNat).t := by
          show x97.toInt = x.t + 10 * ab (x.p - (twS v7.toInt.toNat).toInt) + 30
          omega
        have hwb : 0 ≤ x82.toInt ∧ x82.toInt ≤ 1000000 := by split at jm <;> omega
        have hM' : ∀ j : Nat, j < N → (twM j).toInt ≤ x97.toInt := fun j hj => by have := hM j hj; omega
        have hcr : cntB (nxR twS twM twD x v7.toInt.toNat).l N = r := by
          have hok' : x.l v7.toInt.toNat = true := hok
          have := cnt_ud hok' N (by omega)
          show cntB (udB x.l v7.toInt.toNat) N = r
          omega
        have hmask := hv3.ud hN (v := v7) (by omega)
        refine k_can (l := udB x.l v7.toInt.toNat) hT hN hB hmask bj.1 hM' (by omega) hwb (fun hz => tn_t i10 ⟨ti_in (by omega) (by omega), ?_⟩) (fun z e hno h1 h2 => tn_f rfl ?_)
        · rw [hc2]
          refine ih d (nxR twS twM twD x v7.toInt.toNat) _ (v2 + 1) _ (twS v7.toInt.toNat) x97 x82 W E (upd O x.g v7) B _ ?_ (by omega) ?_ hmask rfl bj.1 ht97 hw82 (fun i hi => ?_) hcr (fun j hj => by rw [← ht97]; exact hM' j hj) ?_ (by rw [← hw82]; exact hwb) a2 (fun hr0 => ?_) (fun W2 E2 O2 B2 k1 k2 => ?_)
          · show x.g + 1 + r = N
            omega
          · show (v2 + 1).toInt = ((x.g + 1 : Nat) : Int)
            omega
          · have hi' : i < x.g + 1 := hi
            show (upd O x.g v7 i).toInt = (udN x.f x.g v7.toInt.toNat i : Int)
            by_cases c : i = x.g
            · rw [c, ti_up, udN_e]
              omega
            · rw [ti_un c, udN_n c, a3 i (by omega)]
              exact hO i (by omega)
          · rw [← ht97]
            show 0 ≤ x97.toInt ∧ x97.toInt ≤ 576000 + 14430 * ((x.g + 1 : Nat) : Int)
            omega
          · subst hr0
            have hz' := hz (cnt_0 N hcr)
            rw [← hw82, ← ht97]
            exact hz'
          · refine hrec _ _ _ _ _ ⟨by omega, ?_, fun i hi => ?_⟩ (by omega)
            · rw [hnn, srG_yes hok]
              exact k1
            · have hi2 : i < (nxR twS twM twD x v7.toInt.toNat).g := by show i < x.g + 1; omega
              rw [k2 i hi2, ti_un (by omega)]
              exact a3 i hi
        · refine hrec _ _ _ _ _ ⟨by omega, ?_, a3⟩ (by omega)
          rw [hnn, srG_yes hok, srG_skip]
          · exact a2
          · intro y hy
            obtain ⟨l1, l2, l3⟩ := LfR r (nxR twS twM twD x v7.toInt.toNat) y hy hcr (fun j hj => by rw [← ht97]; exact hM' j hj)
            rw [← hw82] at l1
            rw [← ht97] at l2 l3
            have k1 := h1 y.w l1 l2
            have k2 := h2 y.t l3
            generalize lpF (fun k acc => @ite _ (okR x k) (Classical.propDecidable _) (srG N okR (nxR twS twM twD) lfR r (nxR twS twM twD x k) acc) acc) v7.toInt.toNat b = acc at a2
            cases acc with
            | none =>
              obtain ⟨g1, g2⟩ : W.toInt = 2147483647 ∧ E.toInt = 2147483647 := a2
              have hz82 := h1 1000000 (by omega) (fun j hj hl => by
                have bj' := hB j hj
                have kj := ab_b bj.1 bj'.1
                have kp := ab_p (x := (twS v7.toInt.toNat).toInt - (twS j).toInt)
                have kM := hM' j hj
                exact eS_b bj'.2.1 (by omega) (by omega))
              omega
            | some g' =>
              obtain ⟨g1, g2, -⟩ : W.toInt = g'.1 ∧ E.toInt = g'.2.1 ∧ _ := a2
              show (if y.w < g'.1 ∨ (y.w = g'.1 ∧ y.t < g'.2.1) then some (y.w, y.t, y.f) else some g') = some g'
              rw [if_neg (by omega)]
end RO
section RM
variable {N : Nat} {mTwN : Int32} {twS twM twD mSun mTwT mSetA mDri : Nat → Int32}
def TWm (N : Nat) (twS twM twD mSun mTwT mSetA mDri : Nat → Int32) : Prop := ∀ j : Nat, j < N → mSetA j = twM j ∧ mDri j = twD j ∧ (0 ≤ (mTwT j).toInt ∧ (mTwT j).toInt < 16) ∧ mSun (mTwT j).toInt.toNat = twS j
theorem k_goes (hT : mTwN.toInt = N) (hN : N ≤ 7) (hB : TWb N twS twM twD) (hW : TWm N twS twM twD mSun mTwT mSetA mDri) : ∀ (r d : Nat) (x : RSt) (b : Option (Int × Int × (Nat → Nat))) (v1 v2 v3 v4 v5 mBE mBEn : Int32) (mOrd mBst : Nat → Int32) (Q : Int32 → Int32 → (Nat → Int32) → (Nat → Int32) → Prop), x.g + r = N → r < d → v1.toInt = x.g → VMk N v2 x.l → (0 ≤ v3.toInt ∧ v3.toInt < 16) → (mSun v3.toInt.toNat).toInt = x.p → (-720 ≤ x.p ∧ x.p ≤ 720) → v4.toInt = x.t → v5.toInt = x.w → (∀ i : Nat, i < x.g → (mOrd i).toInt = x.f i) → cntB x.l N = r → (∀ j : Nat, j < N → (twM j).toInt ≤ x.t) → (0 ≤ x.t ∧ x.t ≤ 576000 + 14430 * (x.g : Int)) → (0 ≤ x.w ∧ x.w ≤ 1000000) → MBr N b mBE mBEn mBst → (∀ (mBE' mBEn' : Int32) (mOrd' mBst' : Nat → Int32), MBr N (srG N okR (nxR twS twM twD) lfR r x b) mBE' mBEn' mBst' → (∀ i : Nat, i < x.g → mOrd' i = mOrd i) → Q mBE' mBEn' mOrd' mBst') → p_M_goes mTwN mSun mTwT mSetA mDri d mBE mBEn mOrd mBst v1 v2 v3 v4 v5 Q := by
  intro r
  induction r with
  | zero =>
    intro d x b v1 v2 v3 v4 v5 mBE mBEn mOrd mBst Q hg hd hv1 hv2 hv3 hp0 hp hv4 hv5 hO hc hM ht hw hMB q
    obtain ⟨d, rfl⟩ : ∃ d', d = d' + 1 := ⟨d - 1, by omega⟩
    show p_M_goes_B mTwN mSun mTwT mSetA mDri (p_M_goes mTwN mSun mTwT mSetA mDri d) mBE mBEn mOrd mBst v1 v2 v3 v4 v5 Q
    unfold p_M_goes_B p_M_goes_J36
    have ev : v1 = mTwN := ti_eq.mpr (by omega)
    have skip : ¬ (v5.toInt < mBE.toInt ∨ (v5.toInt = mBE.toInt ∧ v4.toInt < mBEn.toInt)) → Q mBE mBEn mOrd mBst := by
      intro h
      refine q _ _ _ _ ?_ (fun _ _ => rfl)
      show MBr N (lfR x b) mBE mBEn mBst
      cases b with
      | none =>
        obtain ⟨h1, h2⟩ : mBE.toInt = 1073741824 ∧ _ := hMB
        omega
      | some g =>
        obtain ⟨h1, h2, h3⟩ : mBE.toInt = g.1 ∧ mBEn.toInt = g.2.1 ∧ _ := hMB
        show MBr N (if x.w < g.1 ∨ (x.w = g.1 ∧ x.t < g.2.1) then some (x.w, x.t, x.f) else some g) mBE mBEn mBst
        rw [if_neg (by omega)]
        exact ⟨h1, h2, h3⟩
    have keep : (v5.toInt < mBE.toInt ∨ (v5.toInt = mBE.toInt ∧ v4.toInt < mBEn.toInt)) → Lp2 (p_M_goes_L51 mTwN mSun mTwT mSetA mDri (p_M_goes mTwN mSun mTwT mSetA mDri d) v5 v4 mOrd Q) 0 mBst := by
      intro h
      refine Lp2.of (fun (v : Int32) (b : Nat → Int32) => (0 ≤ v.toInt ∧ v.toInt ≤ (N : Int)) ∧ ∀ i : Nat, (i : Int) < v.toInt → b i = mOrd i) (fun v _ => ((N : Int) - v.toInt).toNat) ?_ _ _ ⟨by rw [c_0]; omega, fun i hi => by rw [c_0] at hi; omega⟩
      intro rec v b' ⟨a1, a2⟩ hrec
      unfold p_M_goes_L51
      rw [ti_le, forall_eq, hT]
      refine ⟨fun g => q _ _ _ _ ?_ (fun _ _ => rfl), fun g => ⟨ti_in a1.1 (by omega), ti_in a1.1 (by omega), ?_⟩⟩
      · have fin : MBr N (some (x.w, x.t, x.f)) v5 v4 b' := ⟨hv5, hv4, fun i hi => by rw [a2 i (by omega)]; exact hO i (by omega)⟩
        show MBr N (lfR x b) v5 v4 b'
        cases b with
        | none => exact fin
        | some g' =>
          obtain ⟨h1, h2, h3⟩ : mBE.toInt = g'.1 ∧ mBEn.toInt = g'.2.1 ∧ _ := hMB
          show MBr N (if x.w < g'.1 ∨ (x.w = g'.1 ∧ x.t < g'.2.1) then some (x.w, x.t, x.f) else some g') v5 v4 b'
          rw [if_pos (by omega)]
          exact fin
      · have hn1 := ti_a1 (x := v) (by omega)
        refine hrec _ _ ⟨by omega, fun i hi => ?_⟩ (by omega)
        rw [ti_c]
        by_cases e : i = v.toInt.toNat
        · subst e
          rw [ti_up]
        · rw [ti_un e]
          exact a2 i (by omega)
    rw [ti_le, ti_lt, ti_le]
    exact ⟨fun h => tn_f ev ⟨fun h1 => keep (by omega), fun h1 => ⟨fun h2 => skip (by omega), fun h2 => keep (by omega)⟩⟩, fun h => skip (by omega)⟩
  | succ r ih =>
    intro d x b v1 v2 v3 v4 v5 mBE mBEn mOrd mBst Q hg hd hv1 hv2 hv3 hp0 hp hv4 hv5 hO hc hM ht hw hMB q
    obtain ⟨d, rfl⟩ : ∃ d', d = d' + 1 := ⟨d - 1, by omega⟩
    show p_M_goes_B mTwN mSun mTwT mSetA mDri (p_M_goes mTwN mSun mTwT mSetA mDri d) mBE mBEn mOrd mBst v1 v2 v3 v4 v5 Q
    unfold p_M_goes_B
    have ev : ¬ v1 = mTwN := fun k => by rw [k] at hv1; omega
    rw [ti_le]
    refine ⟨fun hle => tn_t ev ?_, fun hgt => q _ _ _ _ ?_ (fun _ _ => rfl)⟩
    · have hc1 : v1.toNatClampNeg = x.g := by rw [ti_c]; omega
      have hv1s := ti_a1 (x := v1) (by omega)
      refine Lp5.of (fun (v6 W E : Int32) (O B : Nat → Int32) => (0 ≤ v6.toInt ∧ v6.toInt ≤ (N : Int)) ∧ MBr N (lpF (fun k acc => @ite _ (okR x k) (Classical.propDecidable _) (srG N okR (nxR twS twM twD) lfR r (nxR twS twM twD x k) acc) acc) v6.toInt.toNat b) W E B ∧ (∀ i : Nat, i < x.g → O i = mOrd i)) (fun v6 _ _ _ _ => ((N : Int) - v6.toInt).toNat) ?_ _ _ _ _ _ ⟨by rw [c_0]; omega, by rw [c_0]; exact hMB, fun _ _ => rfl⟩
      intro rec v6 W E O B ⟨a1, a2, a3⟩ hrec
      unfold p_M_goes_L84
      rw [ti_le, hT]
      refine ⟨fun g => q W E O B ?_ a3, fun g => ?_⟩
      · rw [show v6.toInt.toNat = N by omega] at a2
        exact a2
      · have hn6 := ti_a1 (x := v6) (by omega)
        have hnn : (v6 + 1).toInt.toNat = v6.toInt.toNat + 1 := by omega
        have hbit := hv2 v6.toInt.toNat (by omega)
        rw [tb_sh1 (by omega), hbit, Classical.not_not]
        simp only [forall_eq]
        refine ⟨fun yb => ?_, fun nb => ?_⟩
        · have hok : okR x v6.toInt.toNat := yb
          have bj := hB v6.toInt.toNat (by omega)
          obtain ⟨w1, w2, w3, w4⟩ := hW v6.toInt.toNat (by omega)
          have hMj := hM v6.toInt.toNat (by omega)
          have hin6 : vp_in v6 7 := ti_in a1.1 (by omega)
          refine ⟨ti_in hv3.1 (by omega), hin6, ti_in (by rw [ti_c]; omega) (by rw [ti_c]; omega), ti_in (by omega) (by omega), hin6, ?_⟩
          rw [ti_c v3, ti_c v6, ti_c (mTwT v6.toInt.toNat), w4, hc1]
          have kw := k_way (a := mSun v3.toInt.toNat) (b := twS v6.toInt.toNat) (by omega) bj.1
          have hx : (v4 + 10 * jabs (mSun v3.toInt.toNat - twS v6.toInt.toNat)).toInt = x.t + 10 * ab (x.p - (twS v6.toInt.toNat).toInt) := by rw [ti_add (by omega) (by omega), kw.1, hv4, hp0]
          rw [hp0] at kw
          generalize v4 + 10 * jabs (mSun v3.toInt.toNat - twS v6.toInt.toNat) = x67 at hx ⊢
          refine k_sizeM (by omega) (by rw [w2]; exact bj.2.1) (by rw [w1]; omega) (fun er' her => ?_)
          have ee : eS mSetA mDri v6.toInt.toNat x67.toInt = eS twM twD v6.toInt.toNat x67.toInt := by unfold eS; rw [w1, w2]
          rw [ee] at her
          have rb := eS_b (M := twM) (D := twD) (j := v6.toInt.toNat) (m := x67.toInt) bj.2.1 (by omega) (by omega)
          have rp := eS_p (M := twM) (D := twD) (j := v6.toInt.toNat) (m := x67.toInt)
          have jm := ti_jmax (x := v5) (y := jabs er')
          generalize jmax v5 (jabs er') = x82 at jm ⊢
          have h30 : (x67 + 30).toInt = x67.toInt + 30 := by rw [ti_add] <;> rw [c_30] <;> omega
          generalize x67 + 30 = x97 at h30 ⊢
          have hw82 : x82.toInt = (nxR twS twM twD x v6.toInt.toNat).w := by
            show x82.toInt = if x.w < eS twM twD v6.toInt.toNat (x.t + 10 * ab (x.p - (twS v6.toInt.toNat).toInt)) then eS twM twD v6.toInt.toNat (x.t + 10 * ab (x.p - (twS v6.toInt.toNat).toInt)) else x.w
            rw [jm, her, hx, hv5]
          have ht97 : x97.toInt = (nxR twS twM twD x v6.toInt.toNat).t := by
            show x97.toInt = x.t + 10 * ab (x.p - (twS v6.toInt.toNat).toInt) + 30
            omega
          have hwb : 0 ≤ x82.toInt ∧ x82.toInt ≤ 1000000 := by rw [her] at jm; split at jm <;> omega
          have hM' : ∀ j : Nat, j < N → (twM j).toInt ≤ x97.toInt := fun j hj => by have := hM j hj; omega
          have hcr : cntB (nxR twS twM twD x v6.toInt.toNat).l N = r := by
            have hok' : x.l v6.toInt.toNat = true := hok
            have := cnt_ud hok' N (by omega)
            show cntB (udB x.l v6.toInt.toNat) N = r
            omega
          refine ih d (nxR twS twM twD x v6.toInt.toNat) _ (v1 + 1) _ (mTwT v6.toInt.toNat) x97 x82 W E (upd O x.g v6) B _ ?_ (by omega) ?_ (hv2.ud (by omega)) w3 (by rw [w4]; rfl) bj.1 ht97 hw82 (fun i hi => ?_) hcr (fun j hj => by rw [← ht97]; exact hM' j hj) ?_ (by rw [← hw82]; exact hwb) a2 (fun W2 E2 O2 B2 k1 k2 => ?_)
          · show x.g + 1 + r = N
            omega
          · show (v1 + 1).toInt = ((x.g + 1 : Nat) : Int)
            omega
          · have hi' : i < x.g + 1 := hi
            show (upd O x.g v6 i).toInt = (udN x.f x.g v6.toInt.toNat i : Int)
            by_cases c : i = x.g
            · rw [c, ti_up, udN_e]
              omega
            · rw [ti_un c, udN_n c, a3 i (by omega)]
              exact hO i (by omega)
          · rw [← ht97]
            show 0 ≤ x97.toInt ∧ x97.toInt ≤ 576000 + 14430 * ((x.g + 1 : Nat) : Int)
            omega
          · refine hrec _ _ _ _ _ ⟨by omega, ?_, fun i hi => ?_⟩ (by omega)
            · rw [hnn, srG_yes hok]
              exact k1
            · have hi2 : i < (nxR twS twM twD x v6.toInt.toNat).g := by show i < x.g + 1; omega
              rw [k2 i hi2, ti_un (by omega)]
              exact a3 i hi
        · refine hrec _ _ _ _ _ ⟨by omega, ?_, a3⟩ (by omega)
          rw [hnn, srG_no (fun k => nb k)]
          exact a2
    · rw [srG_skip]
      · exact hMB
      · intro y hy
        obtain ⟨l1, -, -⟩ := LfR (r + 1) x y hy hc hM
        cases b with
        | none =>
          obtain ⟨h1, h2⟩ : mBE.toInt = 1073741824 ∧ _ := hMB
          omega
        | some g' =>
          obtain ⟨h1, h2, h3⟩ : mBE.toInt = g'.1 ∧ mBEn.toInt = g'.2.1 ∧ _ := hMB
          show (if y.w < g'.1 ∨ (y.w = g'.1 ∧ y.t < g'.2.1) then some (y.w, y.t, y.f) else some g') = some g'
          rw [if_neg (by omega)]
end RM

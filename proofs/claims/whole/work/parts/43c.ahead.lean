set_option maxHeartbeats 400000
section SH
variable {tnN ckN mTn mCk t d : Int32} {suns ckT ckD shf mSun mCkT mCkD mCkK mCkA : Nat → Int32} {Q : Int32 → Prop}
theorem k_ahead (hTn : R_tn tnN suns mTn mSun) (hCk : R_ck tnN suns ckN ckT ckD shf mCk mCkT mCkD mCkK mCkA) (ht : 0 ≤ t.toInt ∧ t.toInt < tnN.toInt) (q : Q (sh ckN suns ckT ckD shf t d.toInt)) : p_M_ahead mCk mSun mCkT mCkD mCkK mCkA t d Q := by
  have hP := sh_HP hCk t d.toInt
  obtain ⟨e1, hb, hq⟩ := hCk
  obtain ⟨e2, hb2, hq2⟩ := hTn
  subst e1
  subst e2
  unfold p_M_ahead
  simp only [forall_eq]
  have s1 := ti_s1 (x := mCk) (by omega)
  generalize mCk - 1 = k0 at s1 ⊢
  have hcn := ti_c mCk
  have hct := ti_c t
  refine Lp2.of (fun v3 v4 => -1 ≤ v4.toInt ∧ v4.toInt < mCk.toInt ∧ HP ckT ckD t d.toInt (v4.toInt + 1).toNat mCk.toNatClampNeg v3) (fun _ v4 => (v4.toInt + 1).toNat) ?_ _ _ ⟨by omega, by omega, by rw [show (k0.toInt + 1).toNat = mCk.toNatClampNeg by omega]; exact HP.nil⟩
  intro rec v3 v4 ⟨i1, i2, i3⟩ hrec
  have hc3 := ti_c v3
  have hc4 := ti_c v4
  have hor := i3.or
  unfold p_M_ahead_L10
  simp only [forall_eq, ti_lt, ti_le, c_0]
  refine ⟨fun g => ?_, fun g => ?_⟩
  · rw [show (v4.toInt + 1).toNat = 0 by omega] at i3
    have e := i3.uniq hP
    unfold sh at q
    rw [← e] at q
    refine ⟨fun g3 => ⟨ti_in ht.1 (by omega), ?_⟩, fun g3 => ?_⟩
    · rw [if_pos (by omega)] at q
      rw [(hq2 _ (by omega)).1]
      exact q
    · rw [if_neg (by omega)] at q
      rcases i3 with ⟨a1, a2⟩ | ⟨a1, a2, a3, a4, a5, a6⟩
      · omega
      obtain ⟨g1, g2, g4, g5, g6⟩ := hq v3.toNatClampNeg (by omega)
      have hin : vp_in v3 60 := ti_in a1 (by omega)
      refine ⟨hin, fun k0 => ⟨ti_in ht.1 (by omega), ?_⟩, fun k0 => ⟨hin, fun k1 => ⟨hin, ?_⟩, fun k1 => ⟨hin, ?_⟩⟩⟩
      · rcases g6 with ⟨m1, m2⟩ | ⟨m1, m2, m3⟩ | ⟨m1, m2, m3⟩
        · rw [a4] at m2
          rw [(hq2 _ (by omega)).1, ← m2]
          exact q
        · exact absurd (m1.symm.trans k0) (by decide)
        · exact absurd (m1.symm.trans k0) (by decide)
      · rcases g6 with ⟨m1, m2⟩ | ⟨m1, m2, m3⟩ | ⟨m1, m2, m3⟩
        · exact absurd m1 k0
        · rw [← m2]
          exact q
        · exact absurd (m1.symm.trans k1) (by decide)
      · rcases g6 with ⟨m1, m2⟩ | ⟨m1, m2, m3⟩ | ⟨m1, m2, m3⟩
        · exact absurd m1 k0
        · exact absurd m1 k1
        · refine ⟨ti_in m2.1 (by omega), ?_⟩
          rw [(hq2 _ (by have := ti_c (mCkA v3.toNatClampNeg); omega)).1, ← m3]
          exact q
  obtain ⟨g1, g2, g4, g5, g6⟩ := hq v4.toNatClampNeg (by omega)
  have hin : vp_in v4 60 := ti_in (by omega) (by omega)
  have s2 := ti_am (x := v4) (by omega)
  generalize v4 + (-1) = y4 at s2 ⊢
  have n1 : (v4.toInt + 1).toNat = v4.toNatClampNeg + 1 := by omega
  have n2 : (y4.toInt + 1).toNat = v4.toNatClampNeg := by omega
  rw [n1] at i3
  rw [g1, g2]
  refine ⟨hin, fun a => ⟨hin, fun b => ?_, fun b => ⟨fun c => ?_, fun c => ⟨hin, ti_in (by omega) ?_, ?_⟩⟩⟩, fun a => ?_⟩
  · exact hrec _ _ ⟨by omega, by omega, by rw [n2]; exact i3.down_no (Or.inr (Or.inl b))⟩ (by omega)
  · exact hrec _ _ ⟨by omega, by omega, by rw [n2]; exact i3.down_yes (by omega) a (by omega) (Or.inl (by omega)) (by omega)⟩ (by omega)
  · rcases i3 with ⟨a1, a2⟩ | ⟨a1, a2, a3, a4, a5, a6⟩
    · omega
    · omega
  · have hlt : v3.toInt < mCk.toInt := by
      rcases i3 with ⟨a1, a2⟩ | ⟨a1, a2, a3, a4, a5, a6⟩
      · omega
      · omega
    rw [(hq v3.toNatClampNeg (by omega)).2.1]
    refine ⟨fun h => ?_, fun h => ?_⟩
    · exact hrec _ _ ⟨by omega, by omega, by rw [n2]; exact i3.down_no (Or.inr (Or.inr ⟨by omega, h⟩))⟩ (by omega)
    · exact hrec _ _ ⟨by omega, by omega, by rw [n2]; exact i3.down_yes (by omega) a (by omega) (Or.inr (by omega)) (by omega)⟩ (by omega)
  · exact hrec _ _ ⟨by omega, by omega, by rw [n2]; exact i3.down_no (Or.inl a)⟩ (by omega)
end SH

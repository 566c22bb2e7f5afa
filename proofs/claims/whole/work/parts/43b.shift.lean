set_option maxHeartbeats 400000
/-- how far a town's clocks are ahead on a day -/
def sh (ckN : Int32) (suns ckT ckD shf : Nat → Int32) (t : Int32) (d : Int) : Int32 := if (hld ckT ckD t d ckN.toNatClampNeg).toInt = -1 then suns t.toNatClampNeg else shf (hld ckT ckD t d ckN.toNatClampNeg).toNatClampNeg
section SH
variable {tnN ckN mTn mCk t d : Int32} {suns ckT ckD shf mSun mCkT mCkD mCkK mCkA : Nat → Int32} {Q : Int32 → Prop}
theorem sh_HP (hCk : R_ck tnN suns ckN ckT ckD shf mCk mCkT mCkD mCkK mCkA) (t : Int32) (d : Int) : HP ckT ckD t d 0 ckN.toNatClampNeg (hld ckT ckD t d ckN.toNatClampNeg) := hld_HP _ (by have := hCk.2.1; have := ti_c ckN; omega)
theorem k_shiftOn (hTn : R_tn tnN suns mTn mSun) (hCk : R_ck tnN suns ckN ckT ckD shf mCk mCkT mCkD mCkK mCkA) (ht : 0 ≤ t.toInt ∧ t.toInt < tnN.toInt) (q : Q (sh ckN suns ckT ckD shf t d.toInt)) : p_Tn_shiftOn tnN ckN suns ckT ckD shf t d Q := by
  unfold p_Tn_shiftOn
  have hb := hCk.2.1
  have hP := sh_HP hCk t d.toInt
  refine k_holding (by decide) hb.1 hb.2 (fun i hi => (hCk.2.2 i hi).2.2.2.1.1) ?_
  rw [k_sunOf ht hTn.2.1.2, ti_eq, c_m1]
  unfold sh at q
  have hc := ti_c (hld ckT ckD t d.toInt ckN.toNatClampNeg)
  have hcn := ti_c ckN
  refine ⟨fun h => by rw [if_pos h] at q; exact q, fun h => ?_⟩
  rw [if_neg h] at q
  rcases hP with ⟨a1, a2⟩ | ⟨a1, a2, a3, a4⟩
  · exact absurd a1 h
  · exact ⟨ti_in a1 (by omega), q⟩
theorem sh_b (hTn : R_tn tnN suns mTn mSun) (hCk : R_ck tnN suns ckN ckT ckD shf mCk mCkT mCkD mCkK mCkA) (ht : 0 ≤ t.toInt ∧ t.toInt < tnN.toInt) (d : Int) : -720 ≤ (sh ckN suns ckT ckD shf t d).toInt ∧ (sh ckN suns ckT ckD shf t d).toInt ≤ 720 := by
  have hP := sh_HP hCk t d
  have hc := ti_c (hld ckT ckD t d ckN.toNatClampNeg)
  have hcn := ti_c ckN
  have hct := ti_c t
  have hb := hCk.2.1
  unfold sh
  split
  · have := hTn.2.2 t.toNatClampNeg (by omega)
    exact this.2
  · rename_i h
    rcases hP with ⟨a1, a2⟩ | ⟨a1, a2, a3, a4⟩
    · exact absurd a1 h
    · obtain ⟨g1, g2, g3, g4, g5⟩ := hCk.2.2 (hld ckT ckD t d ckN.toNatClampNeg).toNatClampNeg (by omega)
      rcases g5 with ⟨k1, k2⟩ | ⟨k1, k2, k3, k4⟩ | ⟨k1, k2, k3⟩
      · rw [k2]
        exact (hTn.2.2 _ (by have := ti_c (ckT (hld ckT ckD t d ckN.toNatClampNeg).toNatClampNeg); omega)).2
      · rw [k2, ti_mul] <;> rw [c_60] <;> omega
      · rw [k3]
        exact (hTn.2.2 _ (by have := ti_c (mCkA (hld ckT ckD t d ckN.toNatClampNeg).toNatClampNeg); omega)).2
end SH

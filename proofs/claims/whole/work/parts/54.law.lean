set_option maxHeartbeats 1000000
/-! the reference reads a law's text item by item -/
def RelA (L : Nat) (T O O' M' : Nat → Int32) : Prop := ∀ m : Nat, m < 6 → (O' (6 * L + m) = 0 ∧ T m = 99 ∧ O m = 0) ∨ (okT (T m) ∧ O' (6 * L + m) = T m ∧ M' (6 * L + m) = O m)
def BLA (L : Nat) (O0 M0 O' M' : Nat → Int32) : Prop := ∀ i : Nat, i < 6 * L → O' i = O0 i ∧ M' i = M0 i
section RD
variable {L : Nat} {T O O' M' O0 M0 : Nat → Int32}
theorem RelA.up (h : RelA L T O O' M') {k : Nat} {c x : Int32} (hc : okT c) : RelA L (upd T k c) (upd O k x) (upd O' (6 * L + k) c) (upd M' (6 * L + k) x) := by
  intro m hm
  by_cases e : m = k
  · subst e
    right
    rw [ti_up, ti_up, ti_up, ti_up]
    exact ⟨hc, rfl, rfl⟩
  · rw [ti_un e, ti_un e, ti_un (by omega), ti_un (by omega)]
    exact h m hm
theorem RelA.dg (h : RelA L T O O' M') {k : Nat} {x : Int32} (hc : okT (T k)) (hk : O' (6 * L + k) = T k) : RelA L T (upd O k x) O' (upd M' (6 * L + k) x) := by
  intro m hm
  by_cases e : m = k
  · subst e
    right
    rw [ti_up, ti_up]
    exact ⟨hc, hk, rfl⟩
  · rw [ti_un e, ti_un (by omega)]
    exact h m hm
theorem BLA.up (h : BLA L O0 M0 O' M') {k : Nat} {c x : Int32} : BLA L O0 M0 (upd O' (6 * L + k) c) (upd M' (6 * L + k) x) := by
  intro i hi
  rw [ti_un (by omega), ti_un (by omega)]
  exact h i hi
theorem BLA.dg (h : BLA L O0 M0 O' M') {k : Nat} {x : Int32} : BLA L O0 M0 O' (upd M' (6 * L + k) x) := by
  intro i hi
  rw [ti_un (by omega)]
  exact h i hi
end RD
section RI
variable {mLw n : Int32} {mTap s O0 M0 : Nat → Int32} {a0 : AS}
theorem k_stop {p : Int32} {a : AS} {O' M' : Nat → Int32} {Q : Int32 → Int32 → (Nat → Int32) → (Nat → Int32) → Prop} (hr : rnA s a0 p.toInt.toNat = some a) (hp : 0 ≤ p.toInt ∧ p.toInt ≤ n.toInt) (h4 : a.S.toInt < 4) (hno : p.toInt < n.toInt → stp a (s p.toInt.toNat) = none) (hbl : BLA mLw.toInt.toNat O0 M0 O' M')
    (qF : ∀ (p : Int32) (O'' M'' : Nat → Int32), FLA s a0 n.toInt p → BLA mLw.toInt.toNat O0 M0 O'' M'' → Q 0 p O'' M'')
    (qN : ∀ (b : AS) (O'' M'' : Nat → Int32), rnA s a0 n.toInt.toNat = some b → b.S.toInt < 4 → BLA mLw.toInt.toNat O0 M0 O'' M'' → Q 0 n O'' M'') : Q 0 p O' M' := by
  by_cases h : p.toInt < n.toInt
  · exact qF p _ _ ⟨⟨hp.1, h⟩, a, hr, hno h⟩ hbl
  · have e : p = n := ti_eq.mpr (by omega)
    subst e
    exact qN a _ _ hr h4 hbl
theorem k_digits {v4 e x : Int32} {k : Nat} {M1 : Int32} {T1 : Nat → Int32} {O' : Nat → Int32} {Q : Int32 → Int32 → (Nat → Int32) → (Nat → Int32) → Prop} (hn : 0 ≤ n.toInt ∧ n.toInt ≤ 40) (hs : ∀ i : Nat, (i : Int) < n.toInt → mTap i = s i ∧ 0 ≤ (s i).toInt ∧ (s i).toInt ≤ 255) (hv : 1 ≤ v4.toInt ∧ v4.toInt ≤ n.toInt) (hx : 0 ≤ x.toInt ∧ x.toInt < 126) (hxk : x.toNatClampNeg = 6 * mLw.toInt.toNat + k) (hk : M1.toNatClampNeg = k) (hT : okT (T1 k)) (hO : O' (6 * mLw.toInt.toNat + k) = T1 k)
    (qF : ∀ (p : Int32) (O'' M'' : Nat → Int32), FLA s a0 n.toInt p → BLA mLw.toInt.toNat O0 M0 O'' M'' → Q 0 p O'' M'')
    (qN : ∀ (b : AS) (O'' M'' : Nat → Int32), rnA s a0 n.toInt.toNat = some b → b.S.toInt < 4 → BLA mLw.toInt.toNat O0 M0 O'' M'' → Q 0 n O'' M'')
    (q1 : ∀ (p : Int32) (b : AS) (O'' M'' : Nat → Int32), (v4.toInt < p.toInt ∧ p.toInt ≤ n.toInt) → rnA s a0 p.toInt.toNat = some b → b.S = 5 → (p.toInt < n.toInt → ¬ s p.toInt.toNat = 59 → stp b (s p.toInt.toNat) = none) → (p.toInt < n.toInt → s p.toInt.toNat = 59 → stp b (s p.toInt.toNat) = some ⟨0, b.M, b.E, b.D, b.T, b.O⟩) → RelA mLw.toInt.toNat b.T b.O O'' M'' → BLA mLw.toInt.toNat O0 M0 O'' M'' → Q 1 p O'' M'')
    {O1 M' : Nat → Int32} (hr : rnA s a0 v4.toInt.toNat = some ⟨3, M1, e, 0, T1, O1⟩) (hrel : RelA mLw.toInt.toNat T1 O1 O' M') (hM : M' (6 * mLw.toInt.toNat + k) = O1 k) (hbl : BLA mLw.toInt.toNat O0 M0 O' M') : Lp2 (p_M_item_L157 mLw mTap n x e v4 O' Q) v4 M' := by
  have h3 : (v4 + 3).toInt = v4.toInt + 3 := by rw [ti_add] <;> rw [c_3] <;> omega
  have i59 : ∀ c : Int32, c = 59 → ¬ (48 ≤ c.toInt ∧ c.toInt ≤ 57) := by rintro _ rfl; decide
  refine Lp2.of (fun v M'' => (v4.toInt ≤ v.toInt ∧ v.toInt ≤ v4.toInt + 3 ∧ v.toInt ≤ n.toInt) ∧ ∃ (S D : Int32) (O1 : Nat → Int32), rnA s a0 v.toInt.toNat = some ⟨S, M1, e, D, T1, O1⟩ ∧ ((S = 3 ∧ v.toInt = v4.toInt) ∨ (S = 5 ∧ v4.toInt < v.toInt)) ∧ D.toInt = v.toInt - v4.toInt ∧ RelA mLw.toInt.toNat T1 O1 O' M'' ∧ M'' (6 * mLw.toInt.toNat + k) = O1 k ∧ BLA mLw.toInt.toNat O0 M0 O' M'') (fun v _ => (v4.toInt + 3 - v.toInt).toNat) ?_ _ _ ⟨by omega, 3, 0, O1, hr, Or.inl ⟨rfl, rfl⟩, by rw [c_0]; omega, hrel, hM, hbl⟩
  intro rec v M'' ⟨a1, S, D, O2, b1, b2, b3, b4, b5, b6⟩ hrec
  unfold p_M_item_L157 p_M_item_J221
  rw [ti_le, ti_le, h3]
  have fin : (v.toInt < n.toInt → ¬ (48 ≤ (s v.toInt.toNat).toInt ∧ (s v.toInt.toNat).toInt ≤ 57) ∨ 3 ≤ D.toInt) → (v.toInt ≤ v4.toInt → Q 0 v O' M'') ∧ (¬ v.toInt ≤ v4.toInt → Q 1 v O' M'') := by
    intro hno
    refine ⟨fun c => ?_, fun c => ?_⟩
    · rcases b2 with ⟨rfl, c2⟩ | ⟨rfl, c2⟩
      · refine k_stop b1 (by omega) (show (3 : Int32).toInt < 4 by decide) (fun h => ?_) b6 qF qN
        rw [stp_3, if_neg]
        have := hno h
        omega
      · omega
    · rcases b2 with ⟨rfl, c2⟩ | ⟨rfl, c2⟩
      · omega
      · refine q1 v _ _ _ (by omega) b1 rfl (fun h1 h2 => ?_) (fun h1 h2 => ?_) b4 b6
        · rw [stp_5, if_neg (by have := hno h1; omega), if_neg h2]
        · rw [stp_5, if_neg (by have := hno h1; omega), if_pos h2]
  refine ⟨fun c => fin (fun _ => Or.inr (by omega)), fun c => ?_⟩
  refine k_isSign (by decide) (by omega) (by omega) (fun h => by rw [(hs _ (by omega)).1]; exact (hs _ (by omega)).2) (fun h hc => tn_t i10 ?_) (fun hno => tn_f rfl (fin (fun h => Or.inl (fun k => hno h (by rw [(hs _ (by omega)).1, hc_4]; exact k)))))
  have hsv := hs v.toInt.toNat (by omega)
  rw [hsv.1, hc_4] at hc
  have hxi : vp_in x 126 := ti_in hx.1 (by omega)
  have hn1 := ti_a1 (x := v) (by omega)
  refine ⟨hxi, ti_in (by omega) (by omega), hxi, ?_⟩
  rw [forall_eq, ti_c v, hsv.1, hxk, b5]
  have hst : stp ⟨S, M1, e, D, T1, O2⟩ (s v.toInt.toNat) = some (dgt ⟨S, M1, e, D, T1, O2⟩ (s v.toInt.toNat)) := by
    rcases b2 with ⟨rfl, c2⟩ | ⟨rfl, c2⟩
    · rw [stp_3, if_pos ⟨hc, by omega⟩]
    · rw [stp_5, if_pos ⟨hc, by omega⟩]
  have hD := ti_a1 (x := D) (by omega)
  have hr2 := rnA_s b1 hst
  rw [show v.toInt.toNat + 1 = (v + 1).toInt.toNat by omega] at hr2
  have hval : dgt ⟨S, M1, e, D, T1, O2⟩ (s v.toInt.toNat) = ⟨5, M1, e, D + 1, T1, upd O2 k (10 * O2 k + e * (s v.toInt.toNat - 48))⟩ := by
    unfold dgt
    simp only [hk]
    rw [Int32.mul_comm (O2 k) 10]
  rw [hval] at hr2
  refine hrec _ _ ⟨by omega, 5, D + 1, _, hr2, Or.inr ⟨rfl, by omega⟩, by omega, b4.dg hT hO, by rw [ti_up, ti_up], b6.dg⟩ (by omega)
theorem k_item {at' : Int32} {a : AS} {O' M' : Nat → Int32} {Q : Int32 → Int32 → (Nat → Int32) → (Nat → Int32) → Prop} (hL : 0 ≤ mLw.toInt ∧ mLw.toInt < 20) (hn : 0 ≤ n.toInt ∧ n.toInt ≤ 40) (hs : ∀ i : Nat, (i : Int) < n.toInt → mTap i = s i ∧ 0 ≤ (s i).toInt ∧ (s i).toInt ≤ 255)
    (hr : rnA s a0 at'.toInt.toNat = some a) (hS : a.S = 0) (hat : 0 ≤ at'.toInt ∧ at'.toInt ≤ n.toInt) (hrel : RelA mLw.toInt.toNat a.T a.O O' M') (hbl : BLA mLw.toInt.toNat O0 M0 O' M')
    (qF : ∀ (p : Int32) (O'' M'' : Nat → Int32), FLA s a0 n.toInt p → BLA mLw.toInt.toNat O0 M0 O'' M'' → Q 0 p O'' M'')
    (qN : ∀ (b : AS) (O'' M'' : Nat → Int32), rnA s a0 n.toInt.toNat = some b → b.S.toInt < 4 → BLA mLw.toInt.toNat O0 M0 O'' M'' → Q 0 n O'' M'')
    (q1 : ∀ (p : Int32) (b : AS) (O'' M'' : Nat → Int32), (at'.toInt < p.toInt ∧ p.toInt ≤ n.toInt) → rnA s a0 p.toInt.toNat = some b → (b.S = 4 ∨ b.S = 5) → (p.toInt < n.toInt → ¬ s p.toInt.toNat = 59 → stp b (s p.toInt.toNat) = none) → (p.toInt < n.toInt → s p.toInt.toNat = 59 → stp b (s p.toInt.toNat) = some ⟨0, b.M, b.E, b.D, b.T, b.O⟩) → RelA mLw.toInt.toNat b.T b.O O'' M'' → BLA mLw.toInt.toNat O0 M0 O'' M'' → Q 1 p O'' M'') : p_M_item mLw mTap at' O' M' n Q := by
  obtain ⟨S, M, E, D, T, O⟩ := a
  simp only [AS.S, AS.M, AS.E, AS.D, AS.T, AS.O] at hS hrel
  subst hS
  have hB : ∀ p : Int32, 0 ≤ p.toInt → p.toInt < n.toInt → 0 ≤ (mTap p.toInt.toNat).toInt ∧ (mTap p.toInt.toNat).toInt ≤ 255 := fun p h0 h => by rw [(hs _ (by omega)).1]; exact (hs _ (by omega)).2
  unfold p_M_item
  refine k_isSign (by decide) hat.1 (by omega) (hB _ hat.1) (fun h hc => tn_t i10 ⟨ti_in hat.1 (by omega), ?_⟩) (fun hno => tn_f rfl (k_stop hr hat (show (0 : Int32).toInt < 4 by decide) (fun h => ?_) hbl qF qN))
  · have hsv := hs at'.toInt.toNat (by omega)
    rw [hsv.1, hc_0] at hc
    rw [ti_c at', hsv.1]
    intro x hx
    rw [forall_eq]
    have hst : stp ⟨0, M, E, D, T, O⟩ (s at'.toInt.toNat) = some ⟨1, s at'.toInt.toNat - 97, E, D, T, O⟩ := by rw [stp_0, if_pos hc]
    have hr1 := rnA_s hr hst
    have hn1 := ti_a1 (x := at') (by omega)
    rw [show at'.toInt.toNat + 1 = (at' + 1).toInt.toNat by omega] at hr1
    have hm : (s at'.toInt.toNat - 97).toInt = (s at'.toInt.toNat).toInt - 97 := by rw [ti_sub] <;> rw [c_97] <;> omega
    have hx6 : (6 * mLw).toInt = 6 * mLw.toInt := by rw [ti_mul] <;> rw [c_6] <;> omega
    have hxa : (6 * mLw + s at'.toInt.toNat).toInt = 6 * mLw.toInt + (s at'.toInt.toNat).toInt := by rw [ti_add (by omega) (by omega), hx6]
    have hxt : x.toInt = 6 * mLw.toInt + (s at'.toInt.toNat - 97).toInt := by
      rw [hx, ti_sub (by rw [c_97]; omega) (by rw [c_97]; omega), hxa, hm, c_97]
      omega
    generalize s at'.toInt.toNat - 97 = m1 at hr1 hm hxt
    generalize at' + 1 = p1 at hn1 hr1 ⊢
    have hxc : x.toNatClampNeg = 6 * mLw.toInt.toNat + m1.toNatClampNeg := by rw [ti_c, ti_c]; omega
    have hxi : vp_in x 126 := ti_in (by omega) (by omega)
    clear hx hst
    refine k_isSign (by decide) (by omega) (by omega) (hB _ (by omega)) (fun h1 hc1 => tn_t i10 ?_) (fun hno => tn_f rfl (k_stop hr1 (by omega) (show (1 : Int32).toInt < 4 by decide) (fun h => ?_) hbl qF qN))
    · have hsv1 := hs p1.toInt.toNat (by omega)
      rw [hsv1.1, hc_1] at hc1
      rw [forall_eq]
      have hr2 := rnA_s hr1 (by rw [stp_1, if_pos hc1] : stp _ _ = some ⟨2, m1, E, D, T, O⟩)
      have hn2 := ti_a1 (x := p1) (by omega)
      rw [show p1.toInt.toNat + 1 = (p1 + 1).toInt.toNat by omega] at hr2
      generalize p1 + 1 = p2 at hn2 hr2 ⊢
      refine k_isSign (by decide) (by omega) (by omega) (hB _ (by omega)) (fun h2 hc2 => tn_t i10 ?_) (fun hno => tn_f rfl (k_stop hr2 (by omega) (show (2 : Int32).toInt < 4 by decide) (fun h => ?_) hbl qF qN))
      · have hsv2 := hs p2.toInt.toNat (by omega)
        rw [hsv2.1, hc_2] at hc2
        refine ⟨ti_in (by omega) (by omega), hxi, hxi, ?_⟩
        rw [forall_eq, ti_c p2, hsv2.1, hxc]
        have hr3 := rnA_s hr2 (by rw [stp_2, if_pos hc2] : stp _ _ = some ⟨4, m1, E, D, upd T m1.toNatClampNeg (s p2.toInt.toNat), upd O m1.toNatClampNeg 0⟩)
        have hn3 := ti_a1 (x := p2) (by omega)
        rw [show p2.toInt.toNat + 1 = (p2 + 1).toInt.toNat by omega] at hr3
        have hrel3 : RelA mLw.toInt.toNat (upd T m1.toNatClampNeg (s p2.toInt.toNat)) (upd O m1.toNatClampNeg 0) (upd O' (6 * mLw.toInt.toNat + m1.toNatClampNeg) (s p2.toInt.toNat)) (upd M' (6 * mLw.toInt.toNat + m1.toNatClampNeg) 0) := hrel.up hc2
        have hbl3 : BLA mLw.toInt.toNat O0 M0 (upd O' (6 * mLw.toInt.toNat + m1.toNatClampNeg) (s p2.toInt.toNat)) (upd M' (6 * mLw.toInt.toNat + m1.toNatClampNeg) 0) := hbl.up
        have hT3 : okT (upd T m1.toNatClampNeg (s p2.toInt.toNat) m1.toNatClampNeg) := by rw [ti_up]; exact hc2
        have hO3 : upd O' (6 * mLw.toInt.toNat + m1.toNatClampNeg) (s p2.toInt.toNat) (6 * mLw.toInt.toNat + m1.toNatClampNeg) = upd T m1.toNatClampNeg (s p2.toInt.toNat) m1.toNatClampNeg := by rw [ti_up, ti_up]
        have hM3 : upd M' (6 * mLw.toInt.toNat + m1.toNatClampNeg) 0 (6 * mLw.toInt.toNat + m1.toNatClampNeg) = upd O m1.toNatClampNeg 0 m1.toNatClampNeg := by rw [ti_up, ti_up]
        generalize upd T m1.toNatClampNeg (s p2.toInt.toNat) = T3 at hr3 hrel3 hT3 hO3
        generalize upd O m1.toNatClampNeg 0 = O3 at hr3 hrel3 hM3
        generalize upd O' (6 * mLw.toInt.toNat + m1.toNatClampNeg) (s p2.toInt.toNat) = LO at hrel3 hbl3 hO3 ⊢
        generalize upd M' (6 * mLw.toInt.toNat + m1.toNatClampNeg) 0 = LM at hrel3 hbl3 hM3 ⊢
        generalize p2 + 1 = p3 at hn3 hr3 ⊢
        refine k_isSign (by decide) (by omega) (by omega) (hB _ (by omega)) (fun h3 hc3 => tn_t i10 ⟨ti_in (by omega) (by omega), ?_⟩) (fun hno => tn_f rfl (q1 p3 _ _ _ (by omega) hr3 (Or.inl rfl) (fun k1 k2 => ?_) (fun k1 k2 => ?_) hrel3 hbl3))
        · have hsv3 := hs p3.toInt.toNat (by omega)
          rw [hsv3.1, hc_3] at hc3
          rw [ti_c p3, hsv3.1]
          have hn4 := ti_a1 (x := p3) (by omega)
          unfold p_M_item_J140
          refine ⟨fun k => ?_, fun k => ?_⟩
          · rw [forall_eq]
            have hr4 := rnA_s hr3 (by rw [stp_4, if_pos k] : stp _ _ = some ⟨3, m1, 1, 0, T3, O3⟩)
            rw [show p3.toInt.toNat + 1 = (p3 + 1).toInt.toNat by omega] at hr4
            exact k_digits hn hs (by omega) (by omega) hxc rfl hT3 hO3 qF qN (fun p b O'' M'' g1 g2 g3 g4 g5 g6 g7 => q1 p b O'' M'' (by omega) g2 (Or.inr g3) g4 g5 g6 g7) hr4 hrel3 hM3 hbl3
          · rw [forall_eq]
            have k2 : s p3.toInt.toNat = 45 := hc3.elim (fun h => absurd h k) id
            have hr4 := rnA_s hr3 (by rw [stp_4, if_neg k, if_pos k2] : stp _ _ = some ⟨3, m1, -1, 0, T3, O3⟩)
            rw [show p3.toInt.toNat + 1 = (p3 + 1).toInt.toNat by omega] at hr4
            exact k_digits hn hs (by omega) (by omega) hxc rfl hT3 hO3 qF qN (fun p b O'' M'' g1 g2 g3 g4 g5 g6 g7 => q1 p b O'' M'' (by omega) g2 (Or.inr g3) g4 g5 g6 g7) hr4 hrel3 hM3 hbl3
        · have k3 := hno k1
          rw [(hs p3.toInt.toNat (by omega)).1, hc_3] at k3
          rw [stp_4, if_neg (fun e => k3 (Or.inl e)), if_neg (fun e => k3 (Or.inr e)), if_neg k2]
        · have k3 := hno k1
          rw [(hs p3.toInt.toNat (by omega)).1, hc_3] at k3
          rw [stp_4, if_neg (fun e => k3 (Or.inl e)), if_neg (fun e => k3 (Or.inr e)), if_pos k2]
      · have k3 := hno h
        rw [(hs p2.toInt.toNat (by omega)).1, hc_2] at k3
        rw [stp_2, if_neg k3]
    · have k3 := hno h
      rw [(hs p1.toInt.toNat (by omega)).1, hc_1] at k3
      rw [stp_1, if_neg k3]
  · have k3 := hno h
    rw [(hs at'.toInt.toNat (by omega)).1, hc_0] at k3
    rw [stp_0, if_neg k3]
theorem k_reads {mAt : Int32} {Q : Int32 → Int32 → (Nat → Int32) → (Nat → Int32) → Prop} (hL : 0 ≤ mLw.toInt ∧ mLw.toInt < 20) (hn : 0 ≤ n.toInt ∧ n.toInt ≤ 40) (hs : ∀ i : Nat, (i : Int) < n.toInt → mTap i = s i ∧ 0 ≤ (s i).toInt ∧ (s i).toInt ≤ 255) (hS : a0.S = 0) (hT : ∀ m : Nat, m < 6 → a0.T m = 99 ∧ a0.O m = 0)
    (qF : ∀ (p : Int32) (O'' M'' : Nat → Int32), FLA s a0 n.toInt p → BLA mLw.toInt.toNat O0 M0 O'' M'' → Q 0 p O'' M'')
    (qN : ∀ (b : AS) (O'' M'' : Nat → Int32), rnA s a0 n.toInt.toNat = some b → b.S.toInt < 4 → BLA mLw.toInt.toNat O0 M0 O'' M'' → Q 0 n O'' M'')
    (q1 : ∀ (b : AS) (O'' M'' : Nat → Int32), rnA s a0 n.toInt.toNat = some b → 4 ≤ b.S.toInt → RelA mLw.toInt.toNat b.T b.O O'' M'' → BLA mLw.toInt.toNat O0 M0 O'' M'' → Q 1 n O'' M'') : p_M_reads mLw mTap mAt O0 M0 n Q := by
  have hx6 : (6 * mLw).toInt = 6 * mLw.toInt := by rw [ti_mul] <;> rw [c_6] <;> omega
  unfold p_M_reads
  refine Lp2.of (fun v O' => (0 ≤ v.toInt ∧ v.toInt ≤ 6) ∧ (∀ m : Nat, (m : Int) < v.toInt → O' (6 * mLw.toInt.toNat + m) = 0) ∧ ∀ i : Nat, i < 6 * mLw.toInt.toNat → O' i = O0 i) (fun v _ => (6 - v.toInt).toNat) ?_ _ _ ⟨by rw [c_0]; omega, fun m hm => by rw [c_0] at hm; omega, fun i _ => rfl⟩
  intro rec v O' ⟨a1, a2, a3⟩ hrec
  unfold p_M_reads_L7
  rw [ti_le, c_6]
  refine ⟨fun g => ?_, fun g => ?_⟩
  · refine k_item (a := a0) hL hn hs (by rw [c_0]; rfl) hS (by rw [c_0]; omega) (fun m hm => Or.inl ⟨a2 m (by omega), hT m hm⟩) (fun i hi => ⟨a3 i hi, rfl⟩) (fun p O'' M'' h1 h2 => tn_f rfl (qF p _ _ h1 h2)) (fun b O'' M'' h1 h2 h3 => tn_f rfl (qN b _ _ h1 h2 h3)) (fun p b O'' M'' g1 g2 g3 g4 g5 g6 g7 => tn_t i10 ?_)
    refine Lp3.of (fun v O' M' => (0 ≤ v.toInt ∧ v.toInt ≤ n.toInt) ∧ ∃ b : AS, rnA s a0 v.toInt.toNat = some b ∧ (b.S = 4 ∨ b.S = 5) ∧ (v.toInt < n.toInt → ¬ s v.toInt.toNat = 59 → stp b (s v.toInt.toNat) = none) ∧ (v.toInt < n.toInt → s v.toInt.toNat = 59 → stp b (s v.toInt.toNat) = some ⟨0, b.M, b.E, b.D, b.T, b.O⟩) ∧ RelA mLw.toInt.toNat b.T b.O O' M' ∧ BLA mLw.toInt.toNat O0 M0 O' M') (fun v _ _ => (n.toInt - v.toInt).toNat) ?_ _ _ _ ⟨by rw [c_0] at g1; omega, b, g2, g3, g4, g5, g6, g7⟩
    intro rec2 v O' M' ⟨b0, b, b1, b2, b3, b4, b5, b6⟩ hrec2
    have hb4 : 4 ≤ b.S.toInt := by rcases b2 with e | e <;> rw [e] <;> decide
    unfold p_M_reads_L44
    refine k_isSign (by decide) b0.1 (by omega) (fun h => by rw [(hs _ (by omega)).1]; exact (hs _ (by omega)).2) (fun h hc => tn_t i10 ?_) (fun hno => tn_f rfl ⟨fun e => ?_, fun e => ?_⟩)
    · rw [(hs v.toInt.toNat (by omega)).1, hc_5] at hc
      have hn1 := ti_a1 (x := v) (by omega)
      have hr1 := rnA_s b1 (b4 h hc)
      rw [show v.toInt.toNat + 1 = (v + 1).toInt.toNat by omega] at hr1
      rw [forall_eq]
      exact k_item hL hn hs hr1 rfl (by omega) b5 b6 (fun p O'' M'' h1 h2 => tn_f rfl (qF p _ _ h1 h2)) (fun b O'' M'' h1 h2 h3 => tn_f rfl (qN b _ _ h1 h2 h3)) (fun p b O'' M'' g1 g2 g3 g4 g5 g6 g7 => tn_t i10 (hrec2 _ _ _ ⟨by omega, b, g2, g3, g4, g5, g6, g7⟩ (by omega)))
    · subst e
      exact q1 b _ _ b1 hb4 b5 b6
    · have e' : ¬ v.toInt = n.toInt := fun k => e (ti_eq.mpr k)
      have h : v.toInt < n.toInt := by omega
      have k3 := hno h
      rw [(hs v.toInt.toNat (by omega)).1, hc_5] at k3
      exact qF v _ _ ⟨by omega, b, b1, b3 h k3⟩ b6
  · have hn1 := ti_a1 (x := v) (by omega)
    have hxa : (6 * mLw + v).toInt = 6 * mLw.toInt + v.toInt := by rw [ti_add (by omega) (by omega), hx6]
    have ec : (6 * mLw + v).toNatClampNeg = 6 * mLw.toInt.toNat + v.toInt.toNat := by rw [ti_c, hxa]; omega
    refine ⟨ti_in (by omega) (by omega), ?_⟩
    rw [forall_eq, ec]
    refine hrec _ _ ⟨by omega, fun m hm => ?_, fun i hi => ?_⟩ (by omega)
    · by_cases e : m = v.toInt.toNat
      · subst e
        exact ti_up
      · rw [ti_un (by omega)]
        exact a2 m (by omega)
    · rw [ti_un (by omega)]
      exact a3 i hi
end RI

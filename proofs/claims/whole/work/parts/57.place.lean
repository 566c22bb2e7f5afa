set_option maxHeartbeats 1000000
/-! free: the search for delays, on the class's side -/
def cs (s : Nat) : Nat := if s = 0 then 0 else 64 + s
def csm (f : Nat → Nat) : Nat → Nat
  | 0 => 0
  | k + 1 => csm f k + cs (f k)
theorem cs_le {s : Nat} (h : s ≤ 6) : cs s ≤ 70 := by unfold cs; split <;> omega
theorem cs_mono {s s' : Nat} (h : s ≤ s') : cs s ≤ cs s' := by unfold cs; split <;> split <;> omega
theorem csm_congr {f g : Nat → Nat} : ∀ k : Nat, (∀ i : Nat, i < k → f i = g i) → csm f k = csm g k := by
  intro k
  induction k with
  | zero => intro _; rfl
  | succ k ih =>
    intro h
    show csm f k + cs (f k) = csm g k + cs (g k)
    rw [ih (fun i hi => h i (by omega)), h k (by omega)]
theorem csm_le {f : Nat → Nat} : ∀ k : Nat, (∀ i : Nat, i < k → f i ≤ 6) → csm f k ≤ 70 * k := by
  intro k
  induction k with
  | zero => intro _; exact Nat.le_refl _
  | succ k ih =>
    intro h
    have := ih (fun i hi => h i (by omega))
    have := cs_le (h k (by omega))
    show csm f k + cs (f k) ≤ 70 * (k + 1)
    omega
abbrev FS := Nat × (Nat → Nat)
def okF (mt : Nat → Nat → Int → Prop) (x : FS) (s : Nat) : Prop := ∀ i : Nat, i < x.1 → ¬ mt i x.1 (5 * ((s : Int) - (x.2 i : Int)))
def nxF (x : FS) (s : Nat) : FS := (x.1 + 1, udN x.2 x.1 s)
def lfF (n : Nat) (x : FS) : Option (Nat → Nat) → Option (Nat → Nat)
  | none => some x.2
  | some g => if csm x.2 n < csm g n then some x.2 else some g
section FR
variable {mt : Nat → Nat → Int → Prop}
theorem LfF : ∀ (r : Nat) (t : Nat) (f : Nat → Nat) (y : FS), LfG 7 (okF mt) nxF r (t, f) y → (∀ i : Nat, i < t → y.2 i = f i) ∧ ∀ j : Nat, t ≤ j → j < t + r → y.2 j ≤ 6 ∧ ∀ i : Nat, i < j → ¬ mt i j (5 * ((y.2 j : Int) - (y.2 i : Int))) := by
  intro r
  induction r with
  | zero =>
    intro t f y h
    have h' : y = (t, f) := h
    subst h'
    exact ⟨fun _ _ => rfl, fun j h1 h2 => by omega⟩
  | succ r ih =>
    intro t f y h
    obtain ⟨k, hk, hok, hl⟩ := h
    obtain ⟨h1, h2⟩ := ih (t + 1) (udN f t k) y hl
    have e : ∀ i : Nat, i < t → y.2 i = f i := fun i hi => by rw [h1 i (by omega), udN_n (by omega)]
    have et : y.2 t = k := by rw [h1 t (by omega), udN_e]
    refine ⟨e, fun j g1 g2 => ?_⟩
    by_cases c : j = t
    · subst c
      refine ⟨by omega, fun i hi => ?_⟩
      rw [et, e i hi]
      exact hok i hi
    · exact h2 j (by omega) (by omega)
def CBs (n : Nat) : Option (Nat → Nat) → Int32 → (Nat → Int32) → Prop
  | none, c, _ => c.toInt = 448
  | some g, c, b => c.toInt = csm g n ∧ ∀ i : Nat, i < n → (b i).toInt = g i ∧ g i ≤ 6
def MKo (mt : Nat → Nat → Int → Prop) (n : Nat) (gOp : Nat → Nat → Int32) (t : Nat) (f : Nat → Nat) : Prop := ∀ j : Nat, t ≤ j → j < n → (0 ≤ (gOp t j).toInt ∧ (gOp t j).toInt ≤ 127) ∧ ∀ s : Nat, s < 7 → (tb (gOp t j) s ↔ ∀ i : Nat, i < t → ¬ mt i j (5 * ((s : Int) - (f i : Int))))
def Apo (mt : Nat → Nat → Int → Prop) (n : Nat) (gAp : Nat → Nat → Int32) : Prop := ∀ i j : Nat, i < j → j < n → ∀ e : Nat, e < 13 → (tb (gAp i j) e ↔ ¬ mt i j (5 * ((e : Int) - 6)))
theorem k_keepD {dsT dsC v1 : Int32} {stp bst : Nat → Int32} {Q : Int32 → (Nat → Int32) → Prop} (hn : 0 ≤ dsT.toInt ∧ dsT.toInt ≤ 6) (q : ∀ b : Nat → Int32, (∀ i : Nat, (i : Int) < dsT.toInt → b i = stp i) → Q v1 b) : p_Ds_keep dsT stp dsC bst v1 Q := by
  unfold p_Ds_keep
  refine Lp2.of (fun v b => (0 ≤ v.toInt ∧ v.toInt ≤ dsT.toInt) ∧ ∀ i : Nat, (i : Int) < v.toInt → b i = stp i) (fun v _ => (dsT.toInt - v.toInt).toNat) ?_ _ _ ⟨by rw [c_0]; omega, fun i hi => by rw [c_0] at hi; omega⟩
  intro rec v b ⟨a1, a2⟩ hrec
  unfold p_Ds_keep_L7
  rw [ti_le, forall_eq]
  have hn1 := ti_a1 (x := v) (by omega)
  refine ⟨fun g => q b (fun i hi => a2 i (by omega)), fun g => ⟨ti_in a1.1 (by omega), ti_in a1.1 (by omega), hrec _ _ ⟨by omega, fun i hi => ?_⟩ (by omega)⟩⟩
  rw [ti_c]
  by_cases e : i = v.toInt.toNat
  · subst e
    rw [ti_up]
  · rw [ti_un e]
    exact a2 i (by omega)
theorem k_costOf {v : Int32} {Q : Int32 → Prop} (h : 0 ≤ v.toInt ∧ v.toInt ≤ 6) (q : ∀ r : Int32, r.toInt = cs v.toInt.toNat → Q r) : p_Ds_costOf v Q := by
  unfold p_Ds_costOf
  rw [ti_eq, c_0]
  refine ⟨fun g => q 0 ?_, fun g => q _ ?_⟩
  · rw [c_0, g]
    rfl
  · rw [ti_add (by rw [c_64]; omega) (by rw [c_64]; omega), c_64]
    unfold cs
    rw [if_neg (by omega)]
    omega
theorem k_others {n t s : Nat} {dsT v1 v2 : Int32} {gAp gOp : Nat → Nat → Int32} {f : Nat → Nat} {Q : Int32 → (Nat → Nat → Int32) → Prop} (hT : dsT.toInt = n) (hn : n ≤ 6) (ht : v1.toInt = t) (htn : t < n) (hs : v2.toInt = s) (hs6 : s ≤ 6) (hA : Apo mt n gAp) (hM : MKo mt n gOp t f)
    (q0 : ∀ gOp' : Nat → Nat → Int32, (∀ a : Nat, a ≤ t → gOp' a = gOp a) → (∃ j : Nat, t < j ∧ j < n ∧ ∀ s' : Nat, s' < 7 → ¬ ∀ i : Nat, i < t + 1 → ¬ mt i j (5 * ((s' : Int) - (udN f t s i : Int)))) → Q 448 gOp')
    (q1 : ∀ (c : Int32) (gOp' : Nat → Nat → Int32), (∀ a : Nat, a ≤ t → gOp' a = gOp a) → MKo mt n gOp' (t + 1) (udN f t s) → 0 ≤ c.toInt → c.toInt ≤ 70 * ((n : Int) - t - 1) → (∀ g : Nat → Nat, (∀ j : Nat, t < j → j < n → g j ≤ 6 ∧ ∀ i : Nat, i < t + 1 → ¬ mt i j (5 * ((g j : Int) - (udN f t s i : Int)))) → c.toInt + csm g (t + 1) ≤ csm g n) → Q c gOp') : p_Ds_costOfOthers dsT gAp gOp v1 v2 Q := by
  have hv1 := ti_a1 (x := v1) (by omega)
  have hc1 : v1.toNatClampNeg = t := by rw [ti_c]; omega
  have hc2 : (v1 + 1).toNatClampNeg = t + 1 := by rw [ti_c]; omega
  have h6 : (6 - v2).toInt = 6 - v2.toInt := by rw [ti_sub (by rw [c_6]; omega) (by rw [c_6]; omega), c_6]
  unfold p_Ds_costOfOthers
  rw [forall_eq]
  refine Lp3.of (fun (c v4 : Int32) (gOp' : Nat → Nat → Int32) => ((t : Int) + 1 ≤ v4.toInt ∧ v4.toInt ≤ (n : Int)) ∧ (∀ a : Nat, a ≤ t → gOp' a = gOp a) ∧ (∀ j : Nat, t < j → (j : Int) < v4.toInt → (0 ≤ (gOp' (t + 1) j).toInt ∧ (gOp' (t + 1) j).toInt ≤ 127) ∧ ∀ s' : Nat, s' < 7 → (tb (gOp' (t + 1) j) s' ↔ ∀ i : Nat, i < t + 1 → ¬ mt i j (5 * ((s' : Int) - (udN f t s i : Int))))) ∧ (0 ≤ c.toInt ∧ c.toInt ≤ 70 * (v4.toInt - (t : Int) - 1)) ∧ ∀ g : Nat → Nat, (∀ j : Nat, t < j → (j : Int) < v4.toInt → g j ≤ 6 ∧ ∀ i : Nat, i < t + 1 → ¬ mt i j (5 * ((g j : Int) - (udN f t s i : Int)))) → c.toInt + (csm g (t + 1) : Int) ≤ (csm g v4.toInt.toNat : Int)) (fun _ v4 _ => ((n : Int) - v4.toInt).toNat) ?_ _ _ _ ⟨by omega, fun _ _ => rfl, fun j h1 h2 => by omega, by rw [c_0]; omega, fun g _ => by rw [c_0, show (v1 + 1).toInt.toNat = t + 1 by omega]; omega⟩
  intro rec c v4 G ⟨a1, a2, a3, a4, a5⟩ hrec
  unfold p_Ds_costOfOthers_L7
  rw [ti_le, hT]
  refine ⟨fun g => q1 c G a2 (fun j h1 h2 => a3 j (by omega) (by omega)) a4.1 (by omega) (fun g' h => ?_), fun g => ⟨ti_in (by omega) (by omega), ti_in (by omega) (by omega), ti_in (by omega) (by omega), ti_in (by omega) (by omega), ?_⟩⟩
  · have := a5 g' (fun j h1 h2 => h j h1 (by omega))
    rw [show v4.toInt.toNat = n by omega] at this
    exact this
  · have hn1 := ti_a1 (x := v4) (by omega)
    have hj : v4.toNatClampNeg = v4.toInt.toNat := ti_c v4
    generalize hjn : v4.toInt.toNat = j at hj
    rw [hc1, hj, a2 t (Nat.le_refl _)]
    intro x hx
    have hMj := hM j (by omega) (by omega)
    have hAj := hA t j (by omega) (by omega)
    have xb : 0 ≤ x.toInt ∧ x.toInt ≤ 127 := by rw [hx]; exact and_b hMj.1
    have xm : ∀ s' : Nat, s' < 7 → (tb x s' ↔ ∀ i : Nat, i < t + 1 → ¬ mt i j (5 * ((s' : Int) - (udN f t s i : Int)))) := by
      intro s' hs'
      rw [hx, tb_and, tb_shr (by omega) (by omega), hMj.2 s' hs', h6, hAj _ (by omega)]
      have ee : (((s' + (6 - v2.toInt).toNat : Nat) : Int) - 6) = (s' : Int) - (s : Int) := by omega
      rw [ee]
      constructor
      · intro k i hi
        by_cases c : i = t
        · subst c
          rw [udN_e]
          exact k.2
        · rw [udN_n c]
          exact k.1 i (by omega)
      · intro k
        refine ⟨fun i hi => ?_, ?_⟩
        · have := k i (by omega)
          rw [udN_n (by omega)] at this
          exact this
        · have := k t (by omega)
          rw [udN_e] at this
          exact this
    clear hx
    refine ⟨fun e => q0 G a2 ⟨j, by omega, by omega, fun s' hs' k => ?_⟩, fun e => ⟨ti_in (by omega) (by omega), ti_in (by omega) (by omega), ?_⟩⟩
    · have := (xm s' hs').mpr k
      rw [e] at this
      exact tb_0 this
    · have x1 : ¬ x.toInt = 0 := fun k => e (ti_eq.mpr (by rw [k, c_0]))
      refine k_leastStep (by omega) (fun r r1 r2 r3 => k_costOf r1 (fun w hw => ?_))
      have hle := cs_le (s := r.toInt.toNat) (by omega)
      rw [forall_eq, forall_eq, hc2]
      have hcw : (c + w).toInt = c.toInt + w.toInt := ti_add (by omega) (by omega)
      refine hrec _ _ _ ⟨by omega, fun a ha => ?_, fun j' h1 h2 => ?_, by omega, fun g' h => ?_⟩ (by omega)
      · rw [va_ur (by omega)]
        exact a2 a ha
      · rw [va_us]
        by_cases c : j' = j
        · subst c
          rw [ti_up]
          exact ⟨xb, xm⟩
        · rw [ti_un c]
          exact a3 j' h1 (by omega)
      · have k1 := a5 g' (fun j' h1 h2 => h j' h1 (by omega))
        have k2 := h j (by omega) (by omega)
        have k3 : tb x (g' j) := (xm (g' j) (by omega)).mpr k2.2
        have k4 : r.toInt.toNat ≤ g' j := by
          by_cases c : r.toInt.toNat ≤ g' j
          · exact c
          · exact absurd k3 (r3 (g' j) (by omega))
        have k5 := cs_mono k4
        rw [show (v4 + 1).toInt.toNat = j + 1 by omega]
        show _ ≤ ((csm g' j + cs (g' j) : Nat) : Int)
        rw [hjn] at k1
        omega
theorem CBs_b {n : Nat} {b : Option (Nat → Nat)} {c : Int32} {bst : Nat → Int32} (hn : n ≤ 6) (h : CBs n b c bst) : 0 ≤ c.toInt ∧ c.toInt ≤ 448 := by
  cases b with
  | none => have h' : c.toInt = 448 := h; omega
  | some g =>
    have h' : c.toInt = csm g n ∧ _ := h
    have := csm_le (f := g) n (fun i hi => (h'.2 i hi).2)
    omega
theorem k_place {n : Nat} {dsT : Int32} {gAp : Nat → Nat → Int32} (hT : dsT.toInt = n) (hn : n ≤ 6) (hA : Apo mt n gAp) : ∀ (r d t : Nat) (f : Nat → Nat) (b : Option (Nat → Nat)) (v1 v2 dsC : Int32) (gOp : Nat → Nat → Int32) (stp bst : Nat → Int32) (Q : Int32 → (Nat → Nat → Int32) → (Nat → Int32) → (Nat → Int32) → Prop), t + r = n → r < d → v1.toInt = t → v2.toInt = csm f t → (∀ i : Nat, i < t → (stp i).toInt = f i ∧ f i ≤ 6) → CBs n b dsC bst → MKo mt n gOp t f → (r = 0 → v2.toInt < dsC.toInt) → (∀ (dsC' : Int32) (gOp' : Nat → Nat → Int32) (stp' bst' : Nat → Int32), CBs n (srG 7 (okF mt) nxF (lfF n) r (t, f) b) dsC' bst' → (∀ a : Nat, a ≤ t → gOp' a = gOp a) → (∀ i : Nat, i < t → stp' i = stp i) → Q dsC' gOp' stp' bst') → p_Ds_place dsT gAp d dsC gOp stp bst v1 v2 Q := by
  intro r
  induction r with
  | zero =>
    intro d t f b v1 v2 dsC gOp stp bst Q htr hd hv1 hv2 hst hCB hM hlt q
    obtain ⟨d, rfl⟩ : ∃ d', d = d' + 1 := ⟨d - 1, by omega⟩
    show p_Ds_place_B dsT gAp (p_Ds_place dsT gAp d) dsC gOp stp bst v1 v2 Q
    unfold p_Ds_place_B p_Ds_place_J18
    rw [ti_lt, ti_le, c_0, hT]
    refine tn_t (by omega) (tn_f (by omega) (k_keepD (by omega) (fun b' hb' => ?_)))
    have et : t = n := by omega
    subst et
    refine q _ _ _ _ ?_ (fun _ _ => rfl) (fun _ _ => rfl)
    have fin : CBs t (some f) v2 b' := ⟨hv2, fun i hi => by rw [hb' i (by omega)]; exact hst i hi⟩
    show CBs t (lfF t (t, f) b) v2 b'
    cases b with
    | none => exact fin
    | some g =>
      have h' : dsC.toInt = csm g t ∧ _ := hCB
      have hl := hlt rfl
      show CBs t (if csm f t < csm g t then some f else some g) v2 b'
      rw [if_pos (by omega)]
      exact fin
  | succ r ih =>
    intro d t f b v1 v2 dsC gOp stp bst Q htr hd hv1 hv2 hst hCB hM hlt q
    obtain ⟨d, rfl⟩ : ∃ d', d = d' + 1 := ⟨d - 1, by omega⟩
    have hcf := csm_le (f := f) t (fun i hi => (hst i hi).2)
    have hc1 : v1.toNatClampNeg = t := by rw [ti_c]; omega
    have hv1s := ti_a1 (x := v1) (by omega)
    show p_Ds_place_B dsT gAp (p_Ds_place dsT gAp d) dsC gOp stp bst v1 v2 Q
    unfold p_Ds_place_B
    rw [ti_lt, ti_le, ti_lt, c_0, c_6, hT]
    refine tn_t (by omega) (tn_t (by omega) (tn_f (by omega) ?_))
    refine Lp5.of (fun (v3 dsC' : Int32) (gOp' : Nat → Nat → Int32) (stp' bst' : Nat → Int32) => (0 ≤ v3.toInt ∧ v3.toInt ≤ 7) ∧ CBs n (lpF (fun k acc => @ite _ (okF mt (t, f) k) (Classical.propDecidable _) (srG 7 (okF mt) nxF (lfF n) r (nxF (t, f) k) acc) acc) v3.toInt.toNat b) dsC' bst' ∧ (∀ a : Nat, a ≤ t → gOp' a = gOp a) ∧ (∀ i : Nat, i < t → stp' i = stp i)) (fun v3 _ _ _ _ => (7 - v3.toInt).toNat) ?_ _ _ _ _ _ ⟨by rw [c_0]; omega, by rw [c_0]; exact hCB, fun _ _ => rfl, fun _ _ => rfl⟩
    intro rec v3 C G S B ⟨a1, a2, a3, a4⟩ hrec
    unfold p_Ds_place_L26
    rw [ti_lt, c_6, hc1, a3 t (Nat.le_refl _)]
    refine ⟨fun g => q C G S B ?_ a3 a4, fun g => ?_⟩
    · rw [show v3.toInt.toNat = 7 by omega] at a2
      exact a2
    · have hMt := hM t (Nat.le_refl _) (by omega)
      have hn3 := ti_a1 (x := v3) (by omega)
      have hbit := hMt.2 v3.toInt.toNat (by omega)
      rw [tb_and1 (by omega)]
      simp only [forall_eq]
      refine ⟨ti_in (by omega) (by omega), ti_in (by omega) (by omega), fun nb => ?_, fun yb => ⟨ti_in (by omega) (by omega), ?_⟩⟩
      · refine hrec _ _ _ _ _ ⟨by omega, ?_, a3, a4⟩ (by omega)
        rw [show (v3 + 1).toInt.toNat = v3.toInt.toNat + 1 by omega, srG_no (fun k => nb (hbit.mpr k))]
        exact a2
      · have yb' : tb (gOp t t) v3.toInt.toNat := Classical.not_not.mp yb
        have hok : okF mt (t, f) v3.toInt.toNat := hbit.mp yb'
        have hcb := CBs_b hn a2
        refine k_costOf (by omega) (fun w hw => ?_)
        have hwl := cs_le (s := v3.toInt.toNat) (by omega)
        have hx : (v2 + w).toInt = v2.toInt + w.toInt := ti_add (by omega) (by omega)
        generalize v2 + w = x at hx ⊢
        have hxs : x.toInt = csm (udN f t v3.toInt.toNat) (t + 1) := by
          show x.toInt = ((csm (udN f t v3.toInt.toNat) t + cs (udN f t v3.toInt.toNat t) : Nat) : Int)
          rw [csm_congr (g := f) t (fun i hi => udN_n (by omega)), udN_e]
          omega
        have hMG : MKo mt n G t f := by
          intro j h1 h2
          rw [a3 t (Nat.le_refl _)]
          exact hM j h1 h2
        have skip : ∀ (G' : Nat → Nat → Int32), (∀ a : Nat, a ≤ t → G' a = G a) → (∀ y : FS, LfG 7 (okF mt) nxF r (nxF (t, f) v3.toInt.toNat) y → lfF n y (lpF (fun k acc => @ite _ (okF mt (t, f) k) (Classical.propDecidable _) (srG 7 (okF mt) nxF (lfF n) r (nxF (t, f) k) acc) acc) v3.toInt.toNat b) = (lpF (fun k acc => @ite _ (okF mt (t, f) k) (Classical.propDecidable _) (srG 7 (okF mt) nxF (lfF n) r (nxF (t, f) k) acc) acc) v3.toInt.toNat b)) → rec (v3 + 1) C G' (upd S t v3) B := by
          intro G' hG' hl
          refine hrec _ _ _ _ _ ⟨by omega, ?_, fun a ha => by rw [hG' a ha]; exact a3 a ha, fun i hi => by rw [ti_un (by omega)]; exact a4 i hi⟩ (by omega)
          rw [show (v3 + 1).toInt.toNat = v3.toInt.toNat + 1 by omega, srG_yes hok, srG_skip _ _ _ hl]
          exact a2
        refine k_others (s := v3.toInt.toNat) hT hn hv1 (by omega) (by omega) (by omega) hA hMG (fun G' hG' hno => ?_) (fun c G' hG' hM' hc0 hcb2 hlb => ?_)
        · have h448 : (x + 448).toInt = x.toInt + 448 := by rw [ti_add] <;> rw [c_448] <;> omega
          rw [ti_le, h448]
          refine tn_f (by omega) (skip G' hG' (fun y hy => ?_))
          obtain ⟨j, j1, j2, j3⟩ := hno
          obtain ⟨l1, l2⟩ := LfF r (t + 1) (udN f t v3.toInt.toNat) y hy
          have l3 := l2 j (by omega) (by omega)
          refine absurd (fun i hi => ?_) (j3 (y.2 j) (by omega))
          have := l3.2 i (by omega)
          rw [l1 i hi] at this
          exact this
        · have hxc : (x + c).toInt = x.toInt + c.toInt := ti_add (by omega) (by omega)
          rw [ti_le, hxc]
          refine ⟨fun e => skip G' hG' (fun y hy => ?_), fun e => ?_⟩
          · obtain ⟨l1, l2⟩ := LfF r (t + 1) (udN f t v3.toInt.toNat) y hy
            have lb := hlb y.2 (fun j h1 h2 => by
              have l3 := l2 j (by omega) (by omega)
              refine ⟨l3.1, fun i hi => ?_⟩
              have := l3.2 i (by omega)
              rw [l1 i hi] at this
              exact this)
            rw [csm_congr (t + 1) (fun i hi => l1 i hi)] at lb
            generalize lpF (fun k acc => @ite _ (okF mt (t, f) k) (Classical.propDecidable _) (srG 7 (okF mt) nxF (lfF n) r (nxF (t, f) k) acc) acc) v3.toInt.toNat b = acc at a2
            cases acc with
            | none =>
              have h' : C.toInt = 448 := a2
              omega
            | some g' =>
              have h' : C.toInt = csm g' n ∧ _ := a2
              show (if csm y.2 n < csm g' n then some y.2 else some g') = some g'
              rw [if_neg (by omega)]
          · refine ih d (t + 1) (udN f t v3.toInt.toNat) _ (v1 + 1) x C G' (upd S t v3) B _ (by omega) (by omega) (by omega) hxs (fun i hi => ?_) a2 hM' (fun _ => by omega) (fun C2 G2 S2 B2 k1 k2 k3 => ?_)
            · by_cases c : i = t
              · subst c
                rw [ti_up, udN_e]
                omega
              · rw [ti_un c, udN_n c, a4 i (by omega)]
                exact hst i (by omega)
            · refine hrec _ _ _ _ _ ⟨by omega, ?_, fun a ha => ?_, fun i hi => ?_⟩ (by omega)
              · rw [show (v3 + 1).toInt.toNat = v3.toInt.toNat + 1 by omega, srG_yes hok]
                exact k1
              · rw [k2 a (by omega), hG' a ha]
                exact a3 a ha
              · rw [k3 i (by omega), ti_un (by omega)]
                exact a4 i hi
end FR

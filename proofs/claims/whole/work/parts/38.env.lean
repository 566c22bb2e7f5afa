set_option maxRecDepth 20000 in
theorem en_nW {b : Nat} {s : State} (hts : ∀ w ∈ lw_tbl, w.before #[Value.ref b] s = true) : nW s := ⟨va_Nw.of rfl (hts (.methodLinkNest RX9 64 yX10_isDay RX10) (List.mem_of_getElem? (i := 404) rfl)), va_Nw.of rfl (hts (.methodLinkNest RX1 66 yX10_isMatter RX10) (List.mem_of_getElem? (i := 632) rfl)), va_Nw.of rfl (hts (.methodLinkNest RX2 53 yX10_isMatter RX10) (List.mem_of_getElem? (i := 673) rfl)), va_Nw.of rfl (hts (.methodLinkNest RX10 11 yX9_init RX10) (List.mem_of_getElem? (i := 70) rfl)), va_Nw.of rfl (hts (.methodLinkNest RX10 18 yX3_init RX10) (List.mem_of_getElem? (i := 115) rfl)), va_Nw.of rfl (hts (.methodLinkNest RX10 25 yX0_init RX10) (List.mem_of_getElem? (i := 152) rfl)), va_Nw.of rfl (hts (.methodLinkNest RX10 32 yX7_init RX10) (List.mem_of_getElem? (i := 179) rfl)), va_Nw.of rfl (hts (.methodLinkNest RX10 39 yX2_init RX10) (List.mem_of_getElem? (i := 194) rfl)), va_Nw.of rfl (hts (.methodLinkNest RX10 46 yX8_init RX10) (List.mem_of_getElem? (i := 243) rfl)), va_Nw.of rfl (hts (.methodLinkNest RX10 53 yX4_init RX10) (List.mem_of_getElem? (i := 265) rfl)), va_Nw.of rfl (hts (.methodLinkNest RX10 60 yX5_init RX10) (List.mem_of_getElem? (i := 287) rfl)), va_Nw.of rfl (hts (.methodLinkNest RX2 22 yX1_init RX10) (List.mem_of_getElem? (i := 202) rfl)), va_AOA.of (A := #[Value.ref b]) (hts (.arrayOver (.array .int)) (List.mem_of_getElem? (i := 157) rfl))⟩
set_option maxRecDepth 20000 in
theorem en_x : ∀ w ∈ xAt, w ∈ lw_tbl := by decide +kernel
theorem en_str {b : Nat} {s : State} (hts : ∀ w ∈ lw_tbl, w.before #[Value.ref b] s = true)  {k : Nat} {tx : String} (h1 : Cond.stringRef RX10 k tx ∈ lw_tbl) (h2 : (Cond.exactly (.string "OneTime" k) "java/lang/String").before #[Value.ref b] s = true) : ∃ a, vk_R RX10 k tx a s := by
  obtain ⟨a, c, cA, kA, q1, -⟩ := Cond.exactly_spec (args := #[Value.ref b]) (first := s) (o := none) (s := s) (idx := []) (t := .string "OneTime" k) (cls := "java/lang/String") h2
  exact ⟨a, vk_R.of (hts _ h1) q1⟩
set_option maxRecDepth 20000 in
theorem en_E {b : Nat} {s : State} (hts : ∀ w ∈ lw_tbl, w.before #[Value.ref b] s = true) (hgv : (Jvm.Cond.and given_1 narrow_1).before #[Value.ref b] s = true) : xE (fun q : Nat => s.heap.size ≤ q) s := by
  have hs := flat_of_before _ hgv
  have hA : ∀ a : Nat, a < s.heap.size → ¬ (fun q : Nat => s.heap.size ≤ q) a := fun a h => Nat.not_le.mpr h
  refine ⟨vx_Zqof (hts (.laysStatic "java/lang/Throwable" "UNASSIGNED_STACK" "[Ljava/lang/StackTraceElement;") (List.mem_of_getElem? (i := 778) rfl)) (hts (.initialized "java/lang/Throwable") (List.mem_of_getElem? (i := 50) rfl)) (hs _ (by decide +kernel)) hA, vx_Zqof (hts (.laysStatic "java/lang/Throwable" "SUPPRESSED_SENTINEL" "Ljava/util/List;") (List.mem_of_getElem? (i := 780) rfl)) (hts (.initialized "java/lang/Throwable") (List.mem_of_getElem? (i := 50) rfl)) (hs _ (by decide +kernel)) hA, fun w hw => ?_, en_str hts (List.mem_of_getElem? (i := 790) rfl) (hs _ (by decide +kernel)), en_str hts (List.mem_of_getElem? (i := 828) rfl) (hs _ (by decide +kernel)), en_str hts (List.mem_of_getElem? (i := 829) rfl) (hs _ (by decide +kernel)), en_str hts (List.mem_of_getElem? (i := 837) rfl) (hs _ (by decide +kernel)), en_str hts (List.mem_of_getElem? (i := 849) rfl) (hs _ (by decide +kernel)), en_str hts (List.mem_of_getElem? (i := 865) rfl) (hs _ (by decide +kernel))⟩
  have h1 := hts w (en_x w (List.mem_filter.mp hw).1)
  have hk := xB_k w hw
  unfold xK at hk
  split at hk
  · exact va_Nw.of rfl h1
  · exact va_Nw.of rfl h1
  · cases hk
set_option maxRecDepth 20000 in
set_option maxHeartbeats 1000000 in
theorem en_S {b : Nat} {s : State} (hts : ∀ w ∈ lw_tbl, w.before #[Value.ref b] s = true) (hgv : (Jvm.Cond.and given_1 narrow_1).before #[Value.ref b] s = true) : ∃ adK adV : Nat → Nat, sE adK adV (fun q : Nat => s.heap.size ≤ q) s := by
  have hs := flat_of_before _ hgv
  have hA : ∀ a : Nat, a < s.heap.size → ¬ (fun q : Nat => s.heap.size ≤ q) a := fun a h => Nat.not_le.mpr h
  obtain ⟨adK, adV, h1, h2⟩ := vk_Sof (args := #[Value.ref b]) (s := s) (N := 6) (tm := (fun i => .string "OneTimeModel" ([203, 209, 211, 213, 215, 220].getD i 0))) (len := sLen) (byt := sByt) (A := fun q : Nat => s.heap.size ≤ q) (by decide)
    (fun i hi => match i, hi with
    | 0, _ => hs _ (by decide +kernel)
    | 1, _ => hs _ (by decide +kernel)
    | 2, _ => hs _ (by decide +kernel)
    | 3, _ => hs _ (by decide +kernel)
    | 4, _ => hs _ (by decide +kernel)
    | 5, _ => hs _ (by decide +kernel))
    (fun i hi => match i, hi with
    | 0, _ => hs _ (by decide +kernel)
    | 1, _ => hs _ (by decide +kernel)
    | 2, _ => hs _ (by decide +kernel)
    | 3, _ => hs _ (by decide +kernel)
    | 4, _ => hs _ (by decide +kernel)
    | 5, _ => hs _ (by decide +kernel))
    (fun i hi => match i, hi with
    | 0, _ => hs _ (by decide +kernel)
    | 1, _ => hs _ (by decide +kernel)
    | 2, _ => hs _ (by decide +kernel)
    | 3, _ => hs _ (by decide +kernel)
    | 4, _ => hs _ (by decide +kernel)
    | 5, _ => hs _ (by decide +kernel))
    (fun i hi => match i, hi with
    | 0, _ => hs _ (by decide +kernel)
    | 1, _ => hs _ (by decide +kernel)
    | 2, _ => hs _ (by decide +kernel)
    | 3, _ => hs _ (by decide +kernel)
    | 4, _ => hs _ (by decide +kernel)
    | 5, _ => hs _ (by decide +kernel))
    (fun i hi => match i, hi with
    | 0, _ => (fun j hj => match j, hj with
      | 0, _ => hs _ (by decide +kernel)
      | 1, _ => hs _ (by decide +kernel)
      | 2, _ => hs _ (by decide +kernel)
      | 3, _ => hs _ (by decide +kernel)
      | 4, _ => hs _ (by decide +kernel)
      | 5, _ => hs _ (by decide +kernel))
    | 1, _ => (fun j hj => match j, hj with
      | 0, _ => hs _ (by decide +kernel))
    | 2, _ => (fun j hj => match j, hj with
      | 0, _ => hs _ (by decide +kernel)
      | 1, _ => hs _ (by decide +kernel)
      | 2, _ => hs _ (by decide +kernel))
    | 3, _ => (fun j hj => match j, hj with
      | 0, _ => hs _ (by decide +kernel)
      | 1, _ => hs _ (by decide +kernel))
    | 4, _ => (fun j hj => match j, hj with
      | 0, _ => hs _ (by decide +kernel)
      | 1, _ => hs _ (by decide +kernel)
      | 2, _ => hs _ (by decide +kernel)
      | 3, _ => hs _ (by decide +kernel)
      | 4, _ => hs _ (by decide +kernel)
      | 5, _ => hs _ (by decide +kernel)
      | 6, _ => hs _ (by decide +kernel)
      | 7, _ => hs _ (by decide +kernel)
      | 8, _ => hs _ (by decide +kernel)
      | 9, _ => hs _ (by decide +kernel))
    | 5, _ => (fun j hj => match j, hj with
      | 0, _ => hs _ (by decide +kernel)))
    (fun i j hi hj hij => match i, j, hi, hj with
    | 0, 0, _, _ => absurd rfl hij
    | 0, 1, _, _ => Or.inl (hs _ (by decide +kernel))
    | 0, 2, _, _ => Or.inl (hs _ (by decide +kernel))
    | 0, 3, _, _ => Or.inl (hs _ (by decide +kernel))
    | 0, 4, _, _ => Or.inl (hs _ (by decide +kernel))
    | 0, 5, _, _ => Or.inl (hs _ (by decide +kernel))
    | 1, 0, _, _ => Or.inr (hs _ (by decide +kernel))
    | 1, 1, _, _ => absurd rfl hij
    | 1, 2, _, _ => Or.inl (hs _ (by decide +kernel))
    | 1, 3, _, _ => Or.inl (hs _ (by decide +kernel))
    | 1, 4, _, _ => Or.inl (hs _ (by decide +kernel))
    | 1, 5, _, _ => Or.inl (hs _ (by decide +kernel))
    | 2, 0, _, _ => Or.inr (hs _ (by decide +kernel))
    | 2, 1, _, _ => Or.inr (hs _ (by decide +kernel))
    | 2, 2, _, _ => absurd rfl hij
    | 2, 3, _, _ => Or.inl (hs _ (by decide +kernel))
    | 2, 4, _, _ => Or.inl (hs _ (by decide +kernel))
    | 2, 5, _, _ => Or.inl (hs _ (by decide +kernel))
    | 3, 0, _, _ => Or.inr (hs _ (by decide +kernel))
    | 3, 1, _, _ => Or.inr (hs _ (by decide +kernel))
    | 3, 2, _, _ => Or.inr (hs _ (by decide +kernel))
    | 3, 3, _, _ => absurd rfl hij
    | 3, 4, _, _ => Or.inl (hs _ (by decide +kernel))
    | 3, 5, _, _ => Or.inl (hs _ (by decide +kernel))
    | 4, 0, _, _ => Or.inr (hs _ (by decide +kernel))
    | 4, 1, _, _ => Or.inr (hs _ (by decide +kernel))
    | 4, 2, _, _ => Or.inr (hs _ (by decide +kernel))
    | 4, 3, _, _ => Or.inr (hs _ (by decide +kernel))
    | 4, 4, _, _ => absurd rfl hij
    | 4, 5, _, _ => Or.inl (hs _ (by decide +kernel))
    | 5, 0, _, _ => Or.inr (hs _ (by decide +kernel))
    | 5, 1, _, _ => Or.inr (hs _ (by decide +kernel))
    | 5, 2, _, _ => Or.inr (hs _ (by decide +kernel))
    | 5, 3, _, _ => Or.inr (hs _ (by decide +kernel))
    | 5, 4, _, _ => Or.inr (hs _ (by decide +kernel))
    | 5, 5, _, _ => absurd rfl hij) hA
  exact ⟨adK, adV, h1, va_Zof (hts (.laysStatic "java/lang/String" "COMPACT_STRINGS" "Z") (List.mem_of_getElem? (i := 1153) rfl)) (hts (.initialized "java/lang/String") (List.mem_of_getElem? (i := 55) rfl)) (va_eqt (hs (Cond.eq (.static "java/lang/String" "COMPACT_STRINGS" "Z") (.int 1)) (by decide +kernel))) hA, vk_R.of (hts (.stringRef RX11 203 "abcdef") (List.mem_of_getElem? (i := 1135) rfl)) (h2 0 (by decide)), vk_R.of (hts (.stringRef RX11 209 "=") (List.mem_of_getElem? (i := 1222) rfl)) (h2 1 (by decide)), vk_R.of (hts (.stringRef RX11 211 "lcz") (List.mem_of_getElem? (i := 1223) rfl)) (h2 2 (by decide)), vk_R.of (hts (.stringRef RX11 213 "+-") (List.mem_of_getElem? (i := 1224) rfl)) (h2 3 (by decide)), vk_R.of (hts (.stringRef RX11 215 "0123456789") (List.mem_of_getElem? (i := 1225) rfl)) (h2 4 (by decide)), vk_R.of (hts (.stringRef RX11 220 ";") (List.mem_of_getElem? (i := 1226) rfl)) (h2 5 (by decide))⟩
theorem lm_law : ∀ w ∈ wsL_law, w ∈ lw_tbl := mA lm_law0 (fun w h => en_x w (List.mem_filter.mp h).1)

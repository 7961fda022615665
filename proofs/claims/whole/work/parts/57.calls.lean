/-! calls that read (partly written by program) -/
theorem op_expected {wc wr : Wo} {on : Bool} (h : Inv wc wr on) (x1 x2 : Int32) : Res wc wr (fL_expected Lf wc 0 x1 x2 34) (fM_expected Lf wr 22 x1 x2) := by
  obtain ⟨eN, eM, hpi, -⟩ := h.N
  unfold fL_expected fG_expected fM_expected
  rw [isC0, gdt, isC22, gdt]
  rw [isBelow_e, bd, bI_if, in_e, bd, bI_if]
  dsimp only
  by_cases h1 : inB x1 2 = true
  case neg =>
    rw [if_neg h1, if_neg h1, bd]
    refine Res.refused h (k := 1) (r := 0) (by decide +kernel) rfl ?_
    unfold bM_expected_18 bM_expected_23
    rw [pf22_0, bd, gi22_0, bd, up2_s, if_neg (by decide +kernel)]
  rw [if_pos h1, if_pos h1]
  rw [isBelow_e, bd, bI_if, in_e, bd, bI_if]
  dsimp only
  by_cases h2 : inB x2 64 = true
  case neg =>
    rw [if_neg h2, if_neg h2, bd]
    refine Res.refused h (k := 1) (r := 0) (by decide +kernel) rfl ?_
    unfold bM_expected_18 bM_expected_23
    rw [pf22_0, bd, gi22_0, bd, up2_s, if_neg (by decide +kernel)]
  rw [if_pos h2, if_pos h2]
  obtain ⟨d, hd, rfl⟩ := inB_of (n := 2) h1 (by decide)
  obtain ⟨b, hb, rfl⟩ := inB_of (n := 64) h2 (by decide)
  unfold bM_expected_23
  rw [pf22_0, bd, gi22_0, bd, up2_s, if_pos (by decide +kernel)]
  rw [expectedVersion_e wc hd hb, bd, bd]
  rw [expectedOf_e _ hd hb, bd, NR_t, MR_t, ← eN, ← eM]
  exact Res.reads h (r := exq (NC wc) (MC wc) d b) (by rw [if_pos rfl, sl_e, bd]) rfl
theorem op_verdict {wc wr : Wo} {on : Bool} (h : Inv wc wr on) (x1 x2 : Int32) : Res wc wr (fL_verdict Lf wc 0 x1 x2 34) (fM_verdict Lf wr 22 x1 x2) := by
  obtain ⟨eN, eM, hpi, -⟩ := h.N
  unfold fL_verdict fG_verdict fM_verdict
  rw [isC0, gdt, isC22, gdt]
  rw [isBelow_e, bd, bI_if, in_e, bd, bI_if]
  dsimp only
  by_cases h1 : inB x1 2 = true
  case neg =>
    rw [if_neg h1, if_neg h1, bd]
    refine Res.refused h (k := 1) (r := 0) (by decide +kernel) rfl ?_
    unfold bM_verdict_18 bM_verdict_23
    rw [pf22_0, bd, gi22_0, bd, up2_s, if_neg (by decide +kernel)]
  rw [if_pos h1, if_pos h1]
  rw [isBelow_e, bd, bI_if, in_e, bd, bI_if]
  dsimp only
  by_cases h2 : inB x2 64 = true
  case neg =>
    rw [if_neg h2, if_neg h2, bd]
    refine Res.refused h (k := 1) (r := 0) (by decide +kernel) rfl ?_
    unfold bM_verdict_18 bM_verdict_23
    rw [pf22_0, bd, gi22_0, bd, up2_s, if_neg (by decide +kernel)]
  rw [if_pos h2, if_pos h2]
  obtain ⟨d, hd, rfl⟩ := inB_of (n := 2) h1 (by decide)
  obtain ⟨b, hb, rfl⟩ := inB_of (n := 64) h2 (by decide)
  unfold bM_verdict_23
  rw [pf22_0, bd, gi22_0, bd, up2_s, if_pos (by decide +kernel)]
  rw [judge_e wc hd hb, bd, bd, vdC_vd hpi hd hb]
  rw [verdictOf_e _ hd hb, bd, NR_t, MR_t, ← eN, ← eM]
  exact Res.reads h (r := vd (NC wc) (MC wc) d b) (by rw [if_pos rfl, sl_e, bd]) rfl
theorem op_raw {wc wr : Wo} {on : Bool} (h : Inv wc wr on) (x1 x2 x3 : Int32) : Res wc wr (fL_raw Lf wc 0 x1 x2 x3 34) (fM_raw Lf wr 22 x1 x2 x3) := by
  obtain ⟨eN, eM, hpi, -⟩ := h.N
  unfold fL_raw fG_raw fM_raw
  rw [isC0, gdt, isC22, gdt]
  rw [isBelow_e, bd, bI_if, in_e, bd, bI_if]
  dsimp only
  by_cases h1 : inB x1 2 = true
  case neg =>
    rw [if_neg h1, if_neg h1, bd]
    refine Res.refused h (k := 1) (r := 0) (by decide +kernel) rfl ?_
    unfold bM_raw_27 bM_raw_32
    rw [pf22_0, bd, gi22_0, bd, up2_s, if_neg (by decide +kernel)]
  rw [if_pos h1, if_pos h1]
  rw [isBelow_e, bd, bI_if, in_e, bd, bI_if]
  dsimp only
  by_cases h2 : inB x2 72 = true
  case neg =>
    rw [if_neg h2, if_neg h2, bd]
    refine Res.refused h (k := 1) (r := 0) (by decide +kernel) rfl ?_
    unfold bM_raw_27 bM_raw_32
    rw [pf22_0, bd, gi22_0, bd, up2_s, if_neg (by decide +kernel)]
  rw [if_pos h2, if_pos h2]
  rw [isBelow_e, bd, bI_if, in_e, bd, bI_if]
  dsimp only
  by_cases h3 : inB x3 11 = true
  case neg =>
    rw [if_neg h3, if_neg h3, bd]
    refine Res.refused h (k := 1) (r := 0) (by decide +kernel) rfl ?_
    unfold bM_raw_27 bM_raw_32
    rw [pf22_0, bd, gi22_0, bd, up2_s, if_neg (by decide +kernel)]
  rw [if_pos h3, if_pos h3]
  obtain ⟨d, hd, rfl⟩ := inB_of (n := 2) h1 (by decide)
  obtain ⟨b, hb, rfl⟩ := inB_of (n := 72) h2 (by decide)
  obtain ⟨m, hm, rfl⟩ := inB_of (n := 11) h3 (by decide)
  unfold bM_raw_32
  rw [pf22_0, bd, gi22_0, bd, up2_s, if_pos (by decide +kernel)]
  rw [driveOf_e wc hd, bd]
  dsimp only
  rw [at_e wc hd hb hm, bd, bd]
  rw [gr22_1, bd, place_e, bd]
  dsimp only
  rw [nI_add, ld23 _ (by omega), bd, up2_c (d := 23) _ _ (by decide), NR_at wr hd hb hm, ← eN]
  exact Res.reads h (r := NC wc d (11 * b + m)) (by rw [if_pos rfl, sl_e, bd]) rfl
theorem op_isRight {wc wr : Wo} {on : Bool} (h : Inv wc wr on) (x1 x2 : Int32) : Res wc wr (fL_isRight Lf wc 0 x1 x2 34) (fM_isRight Lf wr 22 x1 x2) := by
  obtain ⟨eN, eM, hpi, -⟩ := h.N
  unfold fL_isRight fG_isRight fM_isRight
  rw [isC0, gdt, isC22, gdt]
  rw [isBelow_e, bd, bI_if, in_e, bd, bI_if]
  dsimp only
  by_cases h1 : inB x1 2 = true
  case neg =>
    rw [if_neg h1, if_neg h1, bd]
    refine Res.refused h (k := 1) (r := 0) (by decide +kernel) rfl ?_
    unfold bM_isRight_18 bM_isRight_23
    rw [pf22_0, bd, gi22_0, bd, up2_s, if_neg (by decide +kernel)]
    rfl
  rw [if_pos h1, if_pos h1]
  rw [isBelow_e, bd, bI_if, in_e, bd, bI_if]
  dsimp only
  by_cases h2 : inB x2 8 = true
  case neg =>
    rw [if_neg h2, if_neg h2, bd]
    refine Res.refused h (k := 1) (r := 0) (by decide +kernel) rfl ?_
    unfold bM_isRight_18 bM_isRight_23
    rw [pf22_0, bd, gi22_0, bd, up2_s, if_neg (by decide +kernel)]
    rfl
  rw [if_pos h2, if_pos h2]
  obtain ⟨d, hd, rfl⟩ := inB_of (n := 2) h1 (by decide)
  obtain ⟨b, hb, rfl⟩ := inB_of (n := 8) h2 (by decide)
  unfold bM_isRight_23
  rw [pf22_0, bd, gi22_0, bd, up2_s, if_pos (by decide +kernel)]
  rw [isPageRight_e wc hd hb, bd]
  rw [isRightPage_e _ hd hb, bd, NR_t, MR_t, ← eN, ← eM]
  dsimp only
  rw [bI_if, zr0, zr1]
  have ez : zrx wc (bI (rp (NC wc) (MC wc) d b)) = some (wc, 0, bI (rp (NC wc) (MC wc) d b)) := by cases rp (NC wc) (MC wc) d b <;> rfl
  rw [ez, bd]
  dsimp only
  rw [if_pos rfl, bI_if, sl_e, bd, sl_e, bd]
  exact Res.reads h (r := bI (rp (NC wc) (MC wc) d b)) (by cases rp (NC wc) (MC wc) d b <;> rfl) (by cases rp (NC wc) (MC wc) d b <;> rfl)
theorem op_finding {wc wr : Wo} {on : Bool} (h : Inv wc wr on) (x1 x2 : Int32) : Res wc wr (fL_finding Lf wc 0 x1 x2 34) (fM_finding Lf wr 22 x1 x2) := by
  have h0 := h
  obtain ⟨-, -, -, -, ⟨k, hk, g1, g2⟩, g3⟩ := h0
  unfold fL_finding fG_finding fM_finding
  rw [isC0, gdt, isC22, gdt, gr0_4, bd, gi16_1, bd, gi22_15, bd, g1, g2, isBelow_e, bd, bI_if, in_e, bd, bI_if]
  dsimp only
  by_cases h1 : inB x1 (nI k) = true
  case neg =>
    rw [if_neg h1, if_neg h1, bd]
    refine Res.refused h (k := 1) (r := 0) (by decide +kernel) rfl ?_
    unfold bM_finding_20 bM_finding_25
    rw [pf22_0, bd, gi22_0, bd, up2_s, if_neg (by decide +kernel)]
  rw [if_pos h1, if_pos h1, isBelow_e, bd, bI_if, in_e, bd, bd, bI_if]
  dsimp only
  by_cases h2 : inB x2 4 = true
  case neg =>
    rw [if_neg h2, if_neg h2, bd]
    refine Res.refused h (k := 1) (r := 0) (by decide +kernel) rfl ?_
    unfold bM_finding_20 bM_finding_25
    rw [pf22_0, bd, gi22_0, bd, up2_s, if_neg (by decide +kernel)]
  rw [if_pos h2, if_pos h2]
  obtain ⟨a, ha, rfl⟩ := inB_of h1 (by omega)
  obtain ⟨b, hb, rfl⟩ := inB_of (n := 4) h2 (by decide)
  unfold bM_finding_25
  rw [pf22_0, bd, gi22_0, bd, up2_s, if_pos (by decide +kernel), gr16_0, bd, um_4, nI_add, ld17 _ (by omega), bd, bd, gr22_17, bd, mu_4, nI_add, ld31 _ (by omega), bd, up2_c (d := 31) _ _ (by decide), ← g3 _ (by omega), show a * 4 + b = 4 * a + b by omega]
  exact Res.reads h (r := wc 17 (4 * a + b)) (by rw [if_pos rfl, sl_e, bd]) rfl
theorem op_read {wc wr : Wo} {on : Bool} (h : Inv wc wr on) (x1 x2 : Int32) : Res wc wr (fL_read Lf wc 0 x1 x2 34) (fM_read Lf wr 22 x1 x2) := by
  obtain ⟨eN, eM, hpi, hon, hoff⟩ := h.N
  unfold fL_read fG_read fM_read
  rw [isC0, gdt, isC22, gdt, isBelow_e, bd, bI_if, in_e, bd, bI_if]
  dsimp only
  by_cases h1 : inB x1 64 = true
  case neg =>
    rw [if_neg h1, if_neg h1, bd]
    refine Res.refused h (k := 1) (r := 0) (by decide +kernel) rfl ?_
    unfold bM_read_19 bM_read_35
    rw [pf22_0, bd, gi22_0, bd, up2_s, if_neg (by decide +kernel)]
  rw [if_pos h1, if_pos h1, isBelow_e, bd, bI_if, in_e, bd, bI_if]
  dsimp only
  by_cases h2 : inB x2 8 = true
  case neg =>
    rw [if_neg h2, if_neg h2, bd]
    refine Res.refused h (k := 1) (r := 0) (by decide +kernel) rfl ?_
    unfold bM_read_19 bM_read_35
    rw [pf22_0, bd, gi22_0, bd, up2_s, if_neg (by decide +kernel)]
  rw [if_pos h2, if_pos h2, gr0_2, bd, gi13_0, bd, gi22_6, bd, hon, hoff, bI_if, bI_if]
  cases on with
  | false =>
    refine Res.refused h (k := 2) (r := 0) (by decide +kernel) rfl ?_
    show bM_read_35 Lf wr 22 x1 x2 22 2 = _
    unfold bM_read_35
    rw [pf22_0, bd, gi22_0, bd, up2_s, if_neg (by decide +kernel)]
  | true =>
    obtain ⟨b, hb, rfl⟩ := inB_of (n := 64) h1 (by decide)
    obtain ⟨m, hm, rfl⟩ := inB_of (n := 8) h2 (by decide)
    rw [if_pos rfl, if_neg (fun q => by cases q), goodCopy_e wc hpi hb, bd]
    dsimp only
    have hcd := cd_le (NC wc) (MC wc) b
    rw [codeOfC_e wc hcd, bd]
    dsimp only
    rw [pf0_6, bd]
    have eR : bM_read_35 Lf wr 22 (nI b) (nI m) 22 0 = if cd (NC wc) (MC wc) b = 2 then some (up2 (up2 wr 22 0 0) 22 13 (nI (cd (NC wc) (MC wc) b)), 0) else some (up2 (up2 wr 22 0 0) 22 13 (nI (cd (NC wc) (MC wc) b)), NC wc (cd (NC wc) (MC wc) b) (11 * b + m)) := by
      unfold bM_read_35
      rw [pf22_0, bd, gi22_0, bd, up2_s, if_pos (by decide +kernel), codeOf_e _ hb, bd, NR_t, MR_t, ← eN, ← eM]
      dsimp only
      rw [pf22_13, bd, gi22_13, bd, up2_s]
      by_cases hc2 : cd (NC wc) (MC wc) b = 2
      · rw [if_pos (by rw [eq_2 (by omega)]; exact hc2), if_pos hc2]
      · rw [if_neg (by rw [eq_2 (by omega)]; exact hc2), if_neg hc2, gr22_1, bd, bd, place_e, bd]
        dsimp only
        rw [nI_add, ld23 _ (by omega), bd, up2_c (d := 23) _ _ (by decide), up2_c (d := 23) _ _ (by decide), NR_at wr (by omega) (by omega) (by omega), ← eN]
    rw [eR]
    obtain ⟨⟨M, hcr⟩, hj, m1, m2, m3, m4⟩ := h
    have fin : ∀ r, Res wc wr (some (up2 (up2 wc 0 6 (nI (cd (NC wc) (MC wc) b))) 34 0 r, 0)) (some (up2 (up2 wr 22 0 0) 22 13 (nI (cd (NC wc) (MC wc) b)), r)) := by
      intro r
      refine ⟨_, _, 0, r, true, rfl, rfl, by rw [up2_i _ _ (by decide), up2_s], fun _ => up2_s _ _ _ _, ⟨⟨M, hcr.cong (fun c hc => by rw [up2_c _ _ (by omega), up2_c _ _ (by omega)]) (fun c hc => by rw [up2_c _ _ (by omega), up2_c _ _ (by omega)]) (by rw [up2_i _ _ (by decide), up2_i _ _ (by decide)]) (by rw [up2_i _ _ (by decide), up2_i _ _ (by decide)])⟩, ?_, ?_⟩, fun c h1 h2 => by rw [up2_c _ _ h2, up2_c _ _ (by omega)], fun c hc => by rw [up2_c _ _ (by omega), up2_c _ _ (by omega)]⟩
      · obtain ⟨j1, j2, j3, j4⟩ := hj
        refine ⟨?_, ?_, fun j hjj => ?_, ?_⟩
        · rw [up2_c _ _ (by decide), up2_c _ _ (by decide), up2_i _ _ (by decide), up2_i _ _ (by decide)]; exact j1
        · rw [up2_c _ _ (by decide), up2_c _ _ (by decide), up2_i _ _ (by decide), up2_i _ _ (by decide)]; exact j2
        · rw [up2_c _ _ (by decide), up2_c _ _ (by decide), up2_c (d := 25) _ _ (by decide), up2_c (d := 25) _ _ (by decide)]; exact j3 j hjj
        · rw [up2_i _ _ (by decide), up2_i _ _ (by decide), up2_i _ _ (by decide), up2_i _ _ (by decide)]; exact j4
      · refine ⟨?_, ?_, ?_, fun j hjj => ?_⟩
        · rw [up2_c _ _ (by decide), up2_s, up2_s]
        · rw [up2_c _ _ (by decide), up2_i _ _ (by decide), up2_i _ _ (by decide), up2_i _ _ (by decide)]; exact m2
        · rw [up2_c _ _ (by decide), up2_c _ _ (by decide), up2_i _ _ (by decide), up2_i _ _ (by decide)]; exact m3
        · rw [up2_c _ _ (by decide), up2_c _ _ (by decide), up2_c (d := 31) _ _ (by decide), up2_c (d := 31) _ _ (by decide)]; exact m4 j hjj
    by_cases hc2 : cd (NC wc) (MC wc) b = 2
    · rw [if_pos hc2]
      unfold gcv
      rw [if_pos hc2, if_pos rfl, bd]
      dsimp only
      rw [if_pos rfl, sl_e, bd]
      exact fin 0
    · rw [if_neg hc2]
      unfold gcv
      rw [if_neg hc2, if_neg (neg1 (by omega)), driveOf_e _ (by omega), bd]
      dsimp only
      rw [at_e _ (by omega) (by omega) (by omega), bd, bd]
      dsimp only
      rw [if_pos rfl, sl_e, bd, NC_congr (w := wc) (up2_c _ _ (by decide)) (up2_c _ _ (by decide))]
      exact fin _

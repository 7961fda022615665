/-! scrub: lists, copies, a block, the run -/
theorem tell_n {t0 : Int32} {wc wr : Wo} {M : Nat → Int32} {on : Bool} (h : Cr wc wr M on) (ht : Tf t0 wc wr) (x1 x2 x3 x4 : Int32) : ∃ wc' wr', fF_tell Lf wc 16 x1 x2 x3 x4 = some wc' ∧ fM_find Lf wr 22 x1 x2 x3 x4 = some wr' ∧ Tf t0 wc' wr' ∧ Cr wc' wr' M on ∧ FCn wc wc' ∧ FRn wr wr' ∧ NC wc' = NC wc ∧ NR wr' = NR wr ∧ MC wc' = MC wc ∧ MR wr' = MR wr := by
  obtain ⟨wc', wr', e1, e2, e3, e4, e5, e6⟩ := tell_p ht x1 x2 x3 x4
  exact ⟨wc', wr', e1, e2, e3, h.cong (fun c hc => e4 c (by omega) (by omega)) (fun c hc => e5 c (by omega) (by omega)) (e6 6 (by decide) (by decide)) (e6 7 (by decide) (by decide)), fun c _ k1 k2 _ _ _ _ => e4 c k1 k2, ⟨fun c k1 _ _ _ _ _ _ _ k2 _ _ => e5 c k1 k2, fun i _ _ k1 k2 => e6 i k1 k2⟩, NC_congr (e4 2 (by decide) (by decide)) (e4 8 (by decide) (by decide)), NR_congr (e5 23 (by decide) (by decide)), MC_congr (e4 18 (by decide) (by decide)), MR_congr (e5 24 (by decide) (by decide))⟩
theorem mendList_p {t0 : Int32} {wc wr : Wo} {M : Nat → Int32} (h : Cr wc wr M true) (ht : Tf t0 wc wr) {d b : Nat} (hd : d < 2) (hb : b < 64) : ∃ wc' wr' M' t, fG_mendList Lf wc 0 (nI d) (nI b) = some (wc', bI t) ∧ (∀ K, bM_scrubOf_7s Lf K wr 22 (nI b) (nI (b / 8)) (nI d) = if t = true then K wr' 22 (nI b) (nI (b / 8)) (nI (d + 1)) else some (wr', 0)) ∧ Cr wc' wr' M' t ∧ Tf t0 wc' wr' ∧ FCn wc wc' ∧ FRn wr wr' := by
  have n2 : ¬ (2 : Int32) ≤ nI d := by rw [le_2 (by omega)]; omega
  have enr : ∀ d, rp (NR wr) (MR wr) d (b / 8) = rp (NC wc) (MC wc) d (b / 8) := fun d => by rw [h.N.1, h.N.2.2.1, h.N.2.2.2]
  unfold fG_mendList
  rw [isC0, gdt, s1 (by omega), r8 (by omega), d8 (by omega), isPageRight_e _ (show 1 - d < 2 by omega) (by omega), bd]
  dsimp only
  rw [bI_if]
  by_cases hp1 : rp (NC wc) (MC wc) (1 - d) (b / 8) = true
  · rw [if_pos hp1]
    refine ⟨wc, wr, M, true, rfl, fun K => ?_, h, ht, FCn.refl _, FRn.refl _⟩
    unfold bM_scrubOf_7s
    rw [if_neg n2, s1 (by omega), isRightPage_e _ (show 1 - d < 2 by omega) (by omega), bd]
    dsimp only
    rw [bI_if, enr, if_pos hp1, if_pos rfl]
    unfold bM_scrubOf_77
    rw [ad_1]
  rw [if_neg hp1, isPageRight_e _ hd (by omega), bd]
  dsimp only
  rw [bI_if]
  by_cases hp2 : rp (NC wc) (MC wc) d (b / 8) = true
  case neg =>
    rw [if_neg hp2]
    refine ⟨wc, wr, M, true, rfl, fun K => ?_, h, ht, FCn.refl _, FRn.refl _⟩
    unfold bM_scrubOf_7s
    rw [if_neg n2, s1 (by omega), isRightPage_e _ (show 1 - d < 2 by omega) (by omega), bd]
    dsimp only
    rw [bI_if, enr, if_neg hp1, isRightPage_e _ hd (by omega), bd]
    dsimp only
    rw [bI_if, enr, if_neg hp2, if_pos rfl]
    unfold bM_scrubOf_77
    rw [ad_1]
  rw [if_pos hp2]
  obtain ⟨vv, hvv, hver⟩ := h.N.2.1 d (b / 8) hd (by omega) (rp_addr hp2) (b % 8) (by omega)
  obtain ⟨wc1, wr1, e1, e2, e3, e4, e5, e6, e7, e8, e9, e10⟩ := tell_n h ht (nI b) (nI (1 - d)) 6 (NC wc (1 - d) (11 * (64 + b / 8) + 9))
  obtain ⟨wc2, wr2, M2, t, g1, g2, g3, g4, g5⟩ := storeList_p e4 hd hb hvv
  have eC : ((gr Lf 0 4 4).bind fun r5 => (fG_driveOf Lf wc 0 (nI (1 - d))).bind fun q6 => (fD_at Lf q6.1 q6.2 (64 + nI (b / 8)) 9).bind fun q7 => (fF_tell Lf q7.1 r5 (nI b) (nI (1 - d)) 6 q7.2).bind fun w8 => (fG_driveOf Lf w8 0 (nI d)).bind fun q9 => (fD_at Lf q9.1 q9.2 (64 + nI (b / 8)) (nI (b % 8))).bind fun q10 => (fG_storeList Lf q10.1 0 (nI d) (nI b) q10.2).bind fun q11 => zr q11.1 q11.2) = some (wc2, bI t) := by
    rw [gr0_4, bd, driveOf_e _ (show 1 - d < 2 by omega), bd, da_64]
    show ((fD_at Lf wc (dc (1 - d)) (nI (64 + b / 8)) (nI 9)).bind fun q7 => _) = _
    rw [at_e _ (show 1 - d < 2 by omega) (by omega) (by omega), bd]
    dsimp only
    rw [e1, bd, driveOf_e _ hd, bd]
    dsimp only
    rw [at_e _ hd (by omega) (by omega), bd, e7, hver]
    dsimp only
    rw [g1, bd]
    exact zr_b _ _
  rw [eC]
  refine ⟨wc2, wr2, M2, t, rfl, fun K => ?_, by rw [Bool.and_true] at g3; exact g3, e3.b g4.b g5.b, e5.trans g4.b.n, e6.trans g5.b.n⟩
  unfold bM_scrubOf_7s
  rw [if_neg n2, s1 (by omega), isRightPage_e _ (show 1 - d < 2 by omega) (by omega), bd]
  dsimp only
  rw [bI_if, enr, if_neg hp1, isRightPage_e _ hd (by omega), bd]
  dsimp only
  rw [bI_if, enr, if_pos hp2, gr22_1, bd, da_64, place_e, bd]
  dsimp only
  rw [ad_9, ver_R _ (show 1 - d < 2 by omega) (by omega) (by omega), bd, ← h.N.1, e2, bd, listed_e _ hd hb, bd, e8, ← h.N.1]
  dsimp only
  unfold lsd
  rw [hver, g2, bd]
  dsimp only
  rw [bI_if]
  unfold bM_scrubOf_77
  rw [ad_1, zr0]
theorem mend_p {t0 : Int32} {wc wr : Wo} {M : Nat → Int32} (h : Cr wc wr M true) (ht : Tf t0 wc wr) {d b : Nat} (hd : d < 2) (hb : b < 64) (s : Int32) : ∃ wc' wr' t, bG_mendCopies_73 Lf wc 0 (nI b) (nI d) 16 (nI b) (nI d) s = some (wc', bI t) ∧ bM_scrubOf_155 Lf wr 22 (nI b) (nI d) 22 (nI b) (nI d) s = some (wr', bI t) ∧ Cr wc' wr' M t ∧ Tf t0 wc' wr' ∧ FCn wc wc' ∧ FRn wr wr' := by
  obtain ⟨wc1, wr1, e1, e2, e3, e4, e5, e6, e7, e8, e9, e10⟩ := tell_n h ht (nI b) (nI d) s (NC wc d (11 * b + 9))
  obtain ⟨wcA, wrA, a1, a2, a3, a4, a5, a6, a7, a8⟩ := take_p e4 (c := 1 - d) (b := b) (by omega) hb
  obtain ⟨wc2, wr2, t, g1, g2, g3, g4, g5⟩ := storeRow_p a3 hd hb (cw := 21) (by omega) a4 (NC wc (1 - d) (11 * b + 10))
  refine ⟨wc2, wr2, t, ?_, ?_, by rw [Bool.and_true] at g3; exact g3, (e3.b a5 a6).b g4.b g5.b, (e5.trans a5.n).trans g4.b.n, (e6.trans a6.n).trans g5.b.n⟩
  · unfold bG_mendCopies_73
    rw [driveOf_e _ hd, bd]
    show ((fD_at Lf wc (dc d) (nI b) (nI 9)).bind fun q2 => _) = _
    rw [at_e _ hd (by omega) (by omega), bd]
    dsimp only
    rw [e1, bd, s1 (by omega), driveOf_e _ (show 1 - d < 2 by omega), bd]
    dsimp only
    rw [gr0_10, bd, a1, bd, bd, driveOf_e _ (show 1 - d < 2 by omega), bd]
    show ((fD_at Lf wcA (dc (1 - d)) (nI b) (nI 10)).bind fun q2 => _) = _
    rw [at_e _ (show 1 - d < 2 by omega) (by omega) (by omega), bd, a7, e7]
    dsimp only
    rw [g1, bd]
    exact zr_b _ _
  · unfold bM_scrubOf_155
    rw [gr22_1, bd, place_e, bd]
    dsimp only
    rw [ad_9, ver_R _ hd (by omega) (by omega), bd, ← h.N.1, e2, bd, s1 (by omega), a2, bd, bd, place_e, bd]
    dsimp only
    rw [ad_10, ver_R _ (show 1 - d < 2 by omega) (by omega) (by omega), bd, a8, e8, ← h.N.1, g2, bd]
    exact zr_b _ _
theorem copies_p {t0 : Int32} {wc wr : Wo} {M : Nat → Int32} (h : Cr wc wr M true) (ht : Tf t0 wc wr) {b : Nat} (hb : b < 64) : ∃ wc' wr' t, fG_mendCopies Lf wc 0 (nI b) = some (wc', bI t) ∧ (∀ K, bM_scrubOf_7s Lf K wr 22 (nI b) (nI (b / 8)) (nI 2) = some (wr', bI t)) ∧ Cr wc' wr' M t ∧ Tf t0 wc' wr' ∧ FCn wc wc' ∧ FRn wr wr' := by
  have ev : ∀ d, vd (NR wr) (MR wr) d b = vd (NC wc) (MC wc) d b := fun d => by rw [h.N.1, h.N.2.2.1, h.N.2.2.2]
  obtain ⟨v0, hv0⟩ : ∃ z, z = vd (NC wc) (MC wc) 0 b := ⟨_, rfl⟩
  obtain ⟨v1, hv1⟩ : ∃ z, z = vd (NC wc) (MC wc) 1 b := ⟨_, rfl⟩
  have eC : fG_mendCopies Lf wc 0 (nI b) = if v0 = 0 then (if v1 = 0 then (zr wc 1) else (bG_mendCopies_24 Lf wc 0 (nI b) v0 v1)) else (bG_mendCopies_24 Lf wc 0 (nI b) v0 v1) := by
    unfold fG_mendCopies
    rw [isC0, gdt]
    show ((fG_judge Lf wc 0 (nI 0) (nI b)).bind fun q18 => (fG_judge Lf q18.1 0 (nI 1) (nI b)).bind fun q19 => _) = _
    rw [judge_e _ (by omega) hb, bd]
    dsimp only
    rw [judge_e _ (by omega) hb, bd, vdC_vd h.N.2.1 (by omega) hb, vdC_vd h.N.2.1 (by omega) hb, ← hv0, ← hv1]
  have eR : ∀ K, bM_scrubOf_7s Lf K wr 22 (nI b) (nI (b / 8)) (nI 2) = if v0 = 0 then (bM_scrubOf_118 Lf wr 22 (nI b) v0 v1) else (if v1 = 0 then (bM_scrubOf_118 Lf wr 22 (nI b) v0 v1) else ((fM_find Lf wr 22 (nI b) (-1) 7 (-1)).bind fun w19 => zr w19 1)) := by
    intro K
    unfold bM_scrubOf_7s
    rw [if_pos (by rw [le_2 (by decide)]; omega)]
    show ((fM_verdictOf Lf wr 22 (nI 0) (nI b)).bind fun q15 => (fM_verdictOf Lf q15.1 22 (nI 1) (nI b)).bind fun q16 => _) = _
    rw [verdictOf_e _ (by omega) hb, bd]
    dsimp only
    rw [verdictOf_e _ (by omega) hb, bd, ev, ev, ← hv0, ← hv1]
  rw [eC]
  by_cases h0 : v0 = 0
  · rw [if_pos h0]
    by_cases h1 : v1 = 0
    · rw [if_pos h1]
      refine ⟨wc, wr, true, rfl, fun K => ?_, h, ht, FCn.refl _, FRn.refl _⟩
      rw [eR, if_pos h0]
      unfold bM_scrubOf_118
      rw [if_pos h0, if_pos h1]
      rfl
    · rw [if_neg h1]
      obtain ⟨wc1, wr1, t, e1, e2, e3, e4, e5, e6⟩ := mend_p h ht (d := 1) (by omega) hb v1
      refine ⟨wc1, wr1, t, ?_, fun K => ?_, e3, e4, e5, e6⟩
      · unfold bG_mendCopies_24 bG_mendCopies_46 bG_mendCopies_55
        rw [if_pos h0, if_pos h0, gr0_4, bd, if_pos h0]
        exact e1
      · rw [eR, if_pos h0]
        unfold bM_scrubOf_118 bM_scrubOf_129 bM_scrubOf_138
        rw [if_pos h0, if_neg h1, if_pos h0, if_neg (by decide +kernel)]
        exact e2
  · rw [if_neg h0]
    by_cases h1 : v1 = 0
    · obtain ⟨wc1, wr1, t, e1, e2, e3, e4, e5, e6⟩ := mend_p h ht (d := 0) (by omega) hb v0
      refine ⟨wc1, wr1, t, ?_, fun K => ?_, e3, e4, e5, e6⟩
      · unfold bG_mendCopies_24 bG_mendCopies_46 bG_mendCopies_55
        rw [if_neg h0, if_pos h1, if_neg h0, gr0_4, bd, if_neg h0]
        exact e1
      · rw [eR, if_neg h0, if_pos h1]
        unfold bM_scrubOf_118 bM_scrubOf_129 bM_scrubOf_138
        rw [if_neg h0, if_neg h0, if_pos rfl]
        exact e2
    · obtain ⟨wc1, wr1, e1, e2, e3, e4, e5, e6, -⟩ := tell_n h ht (nI b) (-1) 7 (-1)
      refine ⟨wc1, wr1, true, ?_, fun K => ?_, e4, e3, e5, e6⟩
      · unfold bG_mendCopies_24
        rw [if_neg h0, if_neg h1, gr0_4, bd, e1, bd]
        rfl
      · rw [eR, if_neg h0, if_neg h1, e2, bd]
        rfl
theorem block_p {t0 : Int32} {wc wr : Wo} {M : Nat → Int32} (h : Cr wc wr M true) (ht : Tf t0 wc wr) {b : Nat} (hb : b < 64) : ∃ wc' wr' M' t, fG_scrubBlock Lf wc 0 (nI b) = some (wc', bI t) ∧ fM_scrubOf Lf wr 22 (nI b) = some (wr', bI t) ∧ Cr wc' wr' M' t ∧ Tf t0 wc' wr' ∧ FCn wc wc' ∧ FRn wr wr' := by
  obtain ⟨wc1, wr1, M1, t1, e1, e2, e3, e4, e5, e6⟩ := mendList_p h ht (d := 0) (by omega) hb
  have eR : fM_scrubOf Lf wr 22 (nI b) = bM_scrubOf_7s Lf (bM_scrubOf_7 Lf 999) wr 22 (nI b) (nI (b / 8)) (nI 0) := by
    unfold fM_scrubOf
    rw [isC22, gdt, d8 (by omega)]
    rfl
  have e1' : fG_mendList Lf wc 0 0 (nI b) = some (wc1, bI t1) := e1
  rw [eR, e2]
  unfold fG_scrubBlock
  rw [isC0, gdt, e1', bd]
  dsimp only
  rw [bI_if]
  cases t1 with
  | false => exact ⟨wc1, wr1, M1, false, rfl, rfl, e3, e4, e5, e6⟩
  | true =>
    rw [if_pos rfl, if_pos rfl]
    obtain ⟨wc2, wr2, M2, t2, g1, g2, g3, g4, g5, g6⟩ := mendList_p e3 e4 (d := 1) (by omega) hb
    have g1' : fG_mendList Lf wc1 0 1 (nI b) = some (wc2, bI t2) := g1
    have eR2 : bM_scrubOf_7 Lf 999 wr1 22 (nI b) (nI (b / 8)) (nI (0 + 1)) = bM_scrubOf_7s Lf (bM_scrubOf_7 Lf 998) wr1 22 (nI b) (nI (b / 8)) (nI 1) := rfl
    rw [g1', eR2, g2, bd]
    dsimp only
    rw [bI_if]
    cases t2 with
    | false => exact ⟨wc2, wr2, M2, false, rfl, rfl, g3, g4, e5.trans g5, e6.trans g6⟩
    | true =>
      rw [if_pos rfl, if_pos rfl]
      obtain ⟨wc3, wr3, t3, k1, k2, k3, k4, k5, k6⟩ := copies_p g3 g4 hb
      have eR3 : bM_scrubOf_7 Lf 998 wr2 22 (nI b) (nI (b / 8)) (nI (1 + 1)) = bM_scrubOf_7s Lf (bM_scrubOf_7 Lf 997) wr2 22 (nI b) (nI (b / 8)) (nI 2) := rfl
      rw [k1, eR3, k2, bd]
      dsimp only
      rw [bI_if]
      exact ⟨wc3, wr3, M2, t3, by cases t3 <;> rfl, rfl, k3, k4, (e5.trans g5).trans k5, (e6.trans g6).trans k6⟩

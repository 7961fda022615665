/-! start, class and reference side by side -/
theorem Cr.pon {wc wr : Wo} {M : Nat → Int32} {on : Bool} (h : Cr wc wr M on) : Cr (up2 wc 13 0 1) (up2 wr 22 6 0) M true := by
  obtain ⟨N, lf, W, n, P, h1, h2, h3, h4, h5, h6⟩ := h
  refine ⟨N, lf, W, n, P, ⟨?_, ?_, up2_s _ _ _ _, fun d hd => ?_⟩, ⟨?_, ?_, up2_s _ _ _ _, fun d hd => ?_⟩, h3, h4, ?_, ?_⟩
  · rw [NC_congr (up2_c _ _ (by decide)) (up2_c _ _ (by decide))]; exact h1.1
  · rw [up2_i _ _ (by decide)]; exact h1.2.1
  · have := dc01 d
    rw [up2_c (d := dc d) _ _ (by omega), up2_c (d := dc d + 2) _ _ (by omega), up2_c (d := dc d + 3) _ _ (by omega), up2_c (d := dc d + 4) _ _ (by omega)]
    exact h1.2.2.2 d hd
  · rw [NR_congr (up2_c _ _ (by decide))]; exact h2.1
  · rw [up2_i _ _ (by decide)]; exact h2.2.1
  · rw [up2_c (d := 26) _ _ (by decide), up2_c (d := 27) _ _ (by decide), up2_c (d := 28) _ _ (by decide), up2_c (d := 29) _ _ (by decide), up2_c (d := 30) _ _ (by decide)]
    exact h2.2.2.2 d hd
  · rw [MC_congr (up2_c _ _ (by decide))]; exact h5
  · rw [MR_congr (up2_c _ _ (by decide))]; exact h6
theorem start96 (w : Wo) (x : Int32) : bM_start_96 Lf w 22 x = some (w, w 26 0 + w 26 1 - x) := by
  unfold bM_start_96
  rw [gr22_8, bd, show ld Lf w 26 0 = some (w 26 0) from ld26 w (n := 0) (by omega), bd, bd, show ld Lf w 26 1 = some (w 26 1) from ld26 w (n := 1) (by omega), bd]
theorem start66 (w : Wo) (x : Int32) : bG_start_66 Lf w 0 x = some (w, 0, w (dc 0) 5 + w (dc 1) 5 - x) := by
  unfold bG_start_66
  rw [gr0_0, bd, show gi Lf w 1 0 5 = some (w (dc 0) 5) from giD_5 w 0, bd, gr0_1, bd, show gi Lf w 7 0 5 = some (w (dc 1) 5) from giD_5 w 1, bd]
theorem start_l (w : Wo) (x1 : Int32) : ∀ (j k m : Nat), k + j = 8 → bM_start_59 Lf (m + (j + 1)) (cww w 25 33 k) 22 x1 (nI k) = (fM_put Lf (cww w 25 33 8) 22 (w 22 3) (w 22 5)).bind fun q8 => bM_start_96 Lf q8.1 22 x1 := by
  intro j
  induction j with
  | zero =>
    intro k m hk
    have hk : k = 8 := by omega
    subst hk
    show bM_start_59s Lf _ _ 22 _ _ = _
    unfold bM_start_59s
    rw [if_pos (by rw [le_8 (by decide)]; omega), gi22_3, bd, gi22_5, bd, cww_ne _ _ _ _ (show 22 ≠ 33 by decide)]
  | succ j ih =>
    intro k m hk
    show bM_start_59s Lf _ _ 22 _ _ = _
    unfold bM_start_59s
    rw [if_neg (by rw [le_8 (by omega)]; omega), gr22_19, bd, gr22_4, bd, ld25 _ (by omega), bd, st33 _ _ (by omega), bd, cww_ne _ _ _ _ (show 25 ≠ 33 by decide), cww_s, ad_1]
    exact ih (k + 1) m (by omega)
theorem op_start {wc wr : Wo} {on : Bool} (h : Inv wc wr on) : Res wc wr (fL_start Lf wc 0 34) (fM_start Lf wr 22) := by
  obtain ⟨eN, eM, hpi, hon, hoff⟩ := h.N
  unfold fL_start fG_start fM_start
  rw [isC0, gdt, isC22, gdt, gr0_2, bd, gi13_0, bd, gi22_6, bd, bd, hon, hoff, bI_if, bI_if]
  cases on with
  | true =>
    refine Res.refused h (k := 1) (r := 0) (by decide +kernel) rfl ?_
    rw [if_neg (by decide)]
    unfold bM_start_13
    rw [pf22_0, bd, gi22_0, bd, up2_s, if_neg (by decide +kernel)]
  | false =>
    rw [if_neg (by decide), if_pos (show (!false) = true from rfl)]
    obtain ⟨⟨M, hcr⟩, ⟨j1, j2, j3, j4⟩, m1, m2, m3, m4⟩ := h
    obtain ⟨wcA, hwcA⟩ : ∃ z, z = up2 (up2 wc 13 0 1) 13 1 (-1) := ⟨_, rfl⟩
    obtain ⟨wrA, hwrA⟩ : ∃ z, z = up2 (up2 (up2 wr 22 0 0) 22 6 0) 22 7 (-1) := ⟨_, rfl⟩
    have aC : ∀ c, c ≠ 13 → wcA c = wc c := fun c k => by rw [hwcA, up2_c _ _ k, up2_c _ _ k]
    have aR : ∀ c, c ≠ 22 → wrA c = wr c := fun c k => by rw [hwrA, up2_c _ _ k, up2_c _ _ k, up2_c _ _ k]
    have a22 : ∀ i, i ≠ 0 → i ≠ 6 → i ≠ 7 → wrA 22 i = wr 22 i := fun i k1 k2 k3 => by rw [hwrA, up2_i _ _ k3, up2_i _ _ k2, up2_i _ _ k1]
    have a0 : wrA 22 0 = 0 := by rw [hwrA, up2_i _ _ (by decide), up2_i _ _ (by decide), up2_s]
    have hcrA : Cr wcA wrA M true := by
      rw [hwcA, hwrA]
      exact (hcr.thr 0).pon.left (-1)
    have hpr : ∀ {x y : Wo} {Q : Nat → Int32} {o : Bool}, Cr x y Q o → x (dc 0) 5 = y 26 0 ∧ x (dc 1) 5 = y 26 1 := fun g => ⟨(g.on.2.2.2 0 (by omega)).1, (g.on.2.2.2 1 (by omega)).1⟩
    have eC : ((pf Lf wc 13 3 0 1).bind fun w9 => (some 13).bind fun r10 => (pf Lf w9 r10 3 1 (-1)).bind fun w11 => (gr Lf 0 4 0).bind fun r12 => (gi Lf w11 r12 0 5).bind fun v13 => (gr Lf 0 4 1).bind fun r14 => (gi Lf w11 r14 0 5).bind fun v15 => (gr Lf 0 4 3).bind fun r16 => (gi Lf w11 r16 2 1).bind fun v17 => if v17 = (-1) then (bG_start_66 Lf w11 0 (v13 + v15)) else ((fG_putNotedBlock Lf w11 0).bind fun q19 => bG_start_66 Lf q19.1 0 (v13 + v15))) = if wcA 14 1 = -1 then some (wcA, 0, wcA (dc 0) 5 + wcA (dc 1) 5 - (wcA (dc 0) 5 + wcA (dc 1) 5)) else (fG_putNotedBlock Lf wcA 0).bind fun q19 => some (q19.1, 0, q19.1 (dc 0) 5 + q19.1 (dc 1) 5 - (wcA (dc 0) 5 + wcA (dc 1) 5)) := by
      rw [pf13_0, bd, bd, pf13_1, bd, ← hwcA, gr0_0, bd, show gi Lf wcA 1 0 5 = some (wcA (dc 0) 5) from giD_5 wcA 0, bd, gr0_1, bd, show gi Lf wcA 7 0 5 = some (wcA (dc 1) 5) from giD_5 wcA 1, bd, gr0_3, bd, gi14_1, bd, start66]
      by_cases hj : wcA 14 1 = -1
      · rw [if_pos hj, if_pos hj]
      · rw [if_neg hj, if_neg hj]
        exact congrArg (Option.bind _) (funext fun q => start66 _ _)
    rw [eC]
    have eR : bM_start_13 Lf wr 22 22 0 = if wrA 22 3 = -1 then some (wrA, wrA 26 0 + wrA 26 1 - (wrA 26 0 + wrA 26 1)) else (fM_put Lf (cww wrA 25 33 8) 22 (wrA 22 3) (wrA 22 5)).bind fun q => some (q.1, q.1 26 0 + q.1 26 1 - (wrA 26 0 + wrA 26 1)) := by
      unfold bM_start_13
      rw [pf22_0, bd, gi22_0, bd, up2_s, if_pos (by decide +kernel), pf22_6, bd, pf22_7, bd, ← hwrA, gr22_8, bd, show ld Lf wrA 26 0 = some (wrA 26 0) from ld26 wrA (n := 0) (by omega), bd, bd, show ld Lf wrA 26 1 = some (wrA 26 1) from ld26 wrA (n := 1) (by omega), bd, gi22_3, bd, start96]
      by_cases hj : wrA 22 3 = -1
      · rw [if_pos hj, if_pos hj]
      · rw [if_neg hj, if_neg hj]
        have e := start_l wrA (wrA 26 0 + wrA 26 1) 8 0 991 rfl
        rw [cww_0] at e
        refine Eq.trans e ?_
        exact congrArg (Option.bind _) (funext fun q => start96 _ _)
    rw [eR]
    have b1 : wcA 14 1 = wrA 22 3 := by rw [aC 14 (by decide), a22 3 (by decide) (by decide) (by decide)]; exact j1
    have b2 : wcA 14 2 = wrA 22 5 := by rw [aC 14 (by decide), a22 5 (by decide) (by decide) (by decide)]; exact j2
    have b3 : ∀ j, j < 8 → wcA 15 j = wrA 25 j := fun j hj => by rw [aC 15 (by decide), aR 25 (by decide)]; exact j3 j hj
    have b4 : wrA 22 3 = -1 ∨ ∃ b vv, b < 64 ∧ vv ≤ 60 ∧ wrA 22 3 = nI b ∧ wrA 22 5 = nI vv := by
      rw [a22 3 (by decide) (by decide) (by decide), a22 5 (by decide) (by decide) (by decide)]; exact j4
    rw [b1]
    rcases b4 with b4 | ⟨b, vv, hb, hvv, q1, q2⟩
    · rw [if_pos b4, if_pos b4, bd]
      dsimp only
      rw [if_pos rfl, sl_e, bd, (hpr hcrA).1, (hpr hcrA).2]
      refine ⟨_, _, 0, _, true, rfl, rfl, a0, fun _ => up2_s _ _ _ _, ⟨⟨M, hcrA.cong (fun c hc => up2_c _ _ (by omega)) (fun c hc => rfl) rfl rfl⟩, ⟨?_, ?_, fun j hj => ?_, Or.inl b4⟩, ?_, ?_, ?_, fun j hj => ?_⟩, fun c h1 h2 => by rw [up2_c _ _ h2, aC c (by omega)], fun c hc => aR c (by omega)⟩
      · rw [up2_c _ _ (by decide)]; exact b1
      · rw [up2_c _ _ (by decide)]; exact b2
      · rw [up2_c _ _ (by decide)]; exact b3 j hj
      · rw [up2_c _ _ (by decide), aC 0 (by decide), a22 13 (by decide) (by decide) (by decide)]; exact m1
      · rw [up2_c _ _ (by decide), aC 0 (by decide), a22 14 (by decide) (by decide) (by decide)]; exact m2
      · rw [up2_c _ _ (by decide), aC 16 (by decide), a22 15 (by decide) (by decide) (by decide)]; exact m3
      · rw [up2_c _ _ (by decide), aC 17 (by decide), aR 31 (by decide)]; exact m4 j hj
    · have hne : ¬ wrA 22 3 = -1 := by rw [q1]; exact neg1 (by omega)
      rw [if_neg hne, if_neg hne, q1, q2]
      obtain ⟨wrB, hwrB⟩ : ∃ z, z = cww wrA 25 33 8 := ⟨_, rfl⟩
      rw [← hwrB]
      have cR : ∀ c, c ≠ 33 → wrB c = wrA c := fun c k => by rw [hwrB, cww_ne _ _ _ _ k]
      have hcrB : Cr wcA wrB M true := hcrA.cong (fun c _ => rfl) (fun c hc => cR c (by omega)) (by rw [cR 22 (by decide)]) (by rw [cR 22 (by decide)])
      have c33 : ∀ k, k < 8 → wrB 33 k = wrA 25 k := fun k hk => by rw [hwrB, cww_k _ _ _ hk]
      obtain ⟨wc', wr', M', t, p1, p2, p3, p4, p5, p6, p7, p8, p9, p10, p11⟩ := put_p hcrB hb (vv := vv) hvv (b1.trans q1) (b2.trans q2) (fun k hk => by rw [c33 k hk]; exact b3 k hk)
      rw [p1, p2, bd, bd, bd]
      dsimp only
      rw [if_pos rfl, sl_e, bd, (hpr p3).1, (hpr p3).2, (hpr hcrA).1, (hpr hcrA).2]
      refine ⟨_, _, 0, _, _, rfl, rfl, by rw [p8 0 (by decide) (by decide) (by decide) (by decide), cR 22 (by decide)]; exact a0, fun _ => up2_s _ _ _ _, ⟨⟨M', p3.cong (fun c hc => up2_c _ _ (by omega)) (fun c hc => rfl) rfl rfl⟩, ⟨?_, ?_, fun j hj => ?_, ?_⟩, ?_, ?_, ?_, fun j hj => ?_⟩, fun c k1 k2 => ?_, fun c hc => ?_⟩
      · rw [up2_c _ _ (by decide), p6, p9]
      · rw [up2_c _ _ (by decide), p5, p10]
      · rw [up2_c _ _ (by decide), p4 15 (by omega) (by decide) (by decide) (by decide) (by decide), p11 j hj, c33 j hj]
        exact b3 j hj
      · rw [p9, p10]
        cases t with
        | true => exact Or.inl rfl
        | false => exact Or.inr ⟨b, vv, hb, hvv, rfl, rfl⟩
      · rw [up2_c _ _ (by decide), p4 0 (by omega) (by decide) (by decide) (by decide) (by decide), p8 13 (by decide) (by decide) (by decide) (by decide), cR 22 (by decide), aC 0 (by decide), a22 13 (by decide) (by decide) (by decide)]
        exact m1
      · rw [up2_c _ _ (by decide), p4 0 (by omega) (by decide) (by decide) (by decide) (by decide), p8 14 (by decide) (by decide) (by decide) (by decide), cR 22 (by decide), aC 0 (by decide), a22 14 (by decide) (by decide) (by decide)]
        exact m2
      · rw [up2_c _ _ (by decide), p4 16 (by omega) (by decide) (by decide) (by decide) (by decide), p8 15 (by decide) (by decide) (by decide) (by decide), cR 22 (by decide), aC 16 (by decide), a22 15 (by decide) (by decide) (by decide)]
        exact m3
      · rw [up2_c _ _ (by decide), p4 17 (by omega) (by decide) (by decide) (by decide) (by decide), p7 31 (by decide) (by decide) (by decide) (by decide) (by decide) (by decide) (by decide) (by decide) (by decide) (by decide), cR 31 (by decide), aC 17 (by decide), aR 31 (by decide)]
        exact m4 j hj
      · rw [up2_c _ _ k2, p4 c (by omega) (by omega) (by omega) (by omega) (by omega), aC c (by omega)]
      · rw [p7 c (by omega) (by omega) (by omega) (by omega) (by omega) (by omega) (by omega) (by omega) (by omega) (by omega), cR c (by omega), aR c (by omega)]

/-! plan and replace -/
def okp (x3 x4 : Int32) : Bool := if x3 = 0 then true else if x3 = 1 then inB x4 72 else if x3 = 2 then (!decide (x4 < 1) && !decide (11 ≤ x4)) else false
theorem isPlan_e (w : Wo) (x3 x4 : Int32) : fG_isPlan Lf w x3 x4 = some (w, bI (okp x3 x4)) := by
  unfold fG_isPlan okp
  rw [isBelow_e, bd, zr_b]
  by_cases h0 : x3 = 0
  · rw [if_pos h0, if_pos h0]; rfl
  · rw [if_neg h0, if_neg h0]
    by_cases h1 : x3 = 1
    · rw [if_pos h1, if_pos h1]
    · rw [if_neg h1, if_neg h1]
      by_cases h2 : x3 = 2
      · rw [if_pos h2, if_pos h2]
        by_cases h3 : x4 < 1 <;> by_cases h4 : 11 ≤ x4 <;> simp [h3, h4, bI, zr0, zr1]
      · rw [if_neg h2, if_neg h2]; rfl
theorem lt_succ {x : Int32} : (10 < x) = (11 ≤ x) := by
  apply propext
  rw [Int32.lt_iff_toInt_lt, Int32.le_iff_toInt_le]
  have h1 : (10 : Int32).toInt = 10 := by decide +kernel
  have h2 : (11 : Int32).toInt = 11 := by decide +kernel
  rw [h1, h2]
  omega
theorem planR_e (w : Wo) (x1 x2 x3 x4 : Int32) : fM_plan Lf w 22 x1 x2 x3 x4 = bM_plan_57 Lf w 22 x1 x2 x3 x4 (bI (!decide (x2 < 1) && (!decide (50 < x2) && okp x3 x4))) := by
  unfold fM_plan bM_plan_34 bM_plan_56 bM_plan_52
  rw [isC22, gdt, in_e, bd, bI_if]
  dsimp only
  by_cases ha : x2 < 1
  · rw [if_pos ha, decide_eq_true ha]; rfl
  · rw [if_neg ha, decide_eq_false ha]
    by_cases hb : 50 < x2
    · rw [if_pos hb, decide_eq_true hb]; rfl
    · rw [if_neg hb, decide_eq_false hb]
      show _ = bM_plan_57 Lf w 22 x1 x2 x3 x4 (bI (okp x3 x4))
      by_cases hin : inB x3 3 = true
      · rw [if_pos hin, in_e, bd, bI_if]
        dsimp only
        obtain ⟨m, hm, rfl⟩ := inB_of (n := 3) hin (by decide)
        unfold okp
        rcases (show m = 0 ∨ m = 1 ∨ m = 2 by omega) with rfl | rfl | rfl
        · rw [if_neg (show ¬ nI 0 = 1 by decide +kernel), if_neg (show ¬ nI 0 = 2 by decide +kernel), if_pos (show nI 0 = 0 from rfl)]; rfl
        · rw [if_pos (show nI 1 = 1 from rfl), if_neg (show ¬ nI 1 = 2 by decide +kernel), if_neg (show ¬ nI 1 = 0 by decide +kernel), if_pos (show nI 1 = 1 from rfl)]
          cases inB x4 72 <;> rfl
        · rw [if_neg (show ¬ nI 2 = 1 by decide +kernel), if_pos (show nI 2 = 2 from rfl), if_neg (show ¬ nI 2 = 0 by decide +kernel), if_neg (show ¬ nI 2 = 1 by decide +kernel), if_pos (show nI 2 = 2 from rfl)]
          by_cases h3 : x4 < 1
          · rw [if_pos h3, decide_eq_true h3]; rfl
          · rw [if_neg h3, decide_eq_false h3]
            by_cases h4 : 11 ≤ x4
            · rw [if_pos (by rw [lt_succ]; exact h4), decide_eq_true h4]; rfl
            · rw [if_neg (by rw [lt_succ]; exact h4), decide_eq_false h4]; rfl
      · rw [if_neg hin]
        have hne : ∀ m, m < 3 → ¬ x3 = nI m := fun m hm e => hin (by
          rw [e]
          unfold inB
          show (!decide (nI m < 0) && !decide (nI 3 ≤ nI m)) = true
          rw [decide_eq_false (nI_pos (by omega)), decide_eq_false (nI_ge (by omega) (by omega))]
          rfl)
        unfold okp
        rw [if_neg (show ¬ x3 = 0 from hne 0 (by omega)), if_neg (show ¬ x3 = 1 from hne 1 (by omega)), if_neg (show ¬ x3 = 2 from hne 2 (by omega))]
        rfl
theorem plan62_0 (w : Wo) {d n : Nat} (hd : d < 2) (hn : w 27 d = nI n) (h8 : n ≤ 8) (x2 x3 x4 : Int32) : ∀ (j k m : Nat), k + j = n → bM_plan_62 Lf (m + (j + 1)) w 22 (nI d) x2 x3 x4 0 (nI k) = bM_plan_122 Lf w 22 (nI d) x2 x3 x4 0 := by
  have hin : inB (nI d) 2 = true := by
    rcases (show d = 0 ∨ d = 1 by omega) with rfl | rfl <;> decide +kernel
  intro j
  induction j with
  | zero =>
    intro k m hk
    show bM_plan_62s Lf _ w 22 _ _ _ _ _ _ = _
    unfold bM_plan_62s
    rw [in_e, bd, bI_if, if_pos hin, gr22_9, bd]
    dsimp only
    rw [ld27 w hd, bd, hn, if_pos (nI_le (by omega) (by omega))]
  | succ j ih =>
    intro k m hk
    show bM_plan_62s Lf _ w 22 _ _ _ _ _ _ = _
    unfold bM_plan_62s bM_plan_113 bM_plan_114
    rw [in_e, bd, bI_if, if_pos hin, gr22_9, bd]
    dsimp only
    rw [ld27 w hd, bd, hn, if_neg (nI_ge (by omega) (by omega)), if_pos rfl, ad_1]
    exact ih (k + 1) m (by omega)
theorem plan62_1 (w : Wo) {d n : Nat} (hd : d < 2) (hn : w 27 d = nI n) (h8 : n ≤ 8) (x2 x3 x4 : Int32) (hno : ∀ i, i < n → w 28 (8 * d + i) ≠ w 26 d + x2) : ∀ (j k m : Nat), k + j = n → bM_plan_62 Lf (m + (j + 1)) w 22 (nI d) x2 x3 x4 1 (nI k) = bM_plan_122 Lf w 22 (nI d) x2 x3 x4 1 := by
  have hin : inB (nI d) 2 = true := by
    rcases (show d = 0 ∨ d = 1 by omega) with rfl | rfl <;> decide +kernel
  intro j
  induction j with
  | zero =>
    intro k m hk
    show bM_plan_62s Lf _ w 22 _ _ _ _ _ _ = _
    unfold bM_plan_62s
    rw [in_e, bd, bI_if, if_pos hin, gr22_9, bd]
    dsimp only
    rw [ld27 w hd, bd, hn, if_pos (nI_le (by omega) (by omega))]
  | succ j ih =>
    intro k m hk
    show bM_plan_62s Lf _ w 22 _ _ _ _ _ _ = _
    unfold bM_plan_62s bM_plan_113 bM_plan_114
    rw [in_e, bd, bI_if, if_pos hin, gr22_9, bd]
    dsimp only
    rw [ld27 w hd, bd, hn, if_neg (nI_ge (by omega) (by omega)), if_neg (by decide +kernel), gr22_10, bd, mu_8, nI_add, ld28 w (by omega), bd, gr22_8, bd, ld26 w hd, bd, if_neg (hno k (by omega)), ad_1]
    exact ih (k + 1) m (by omega)
theorem plan62_2 (w : Wo) {d n i : Nat} (hd : d < 2) (hn : w 27 d = nI n) (h8 : n ≤ 8) (x2 x3 x4 : Int32) (hi : i < n) (hit : w 28 (8 * d + i) = w 26 d + x2) : ∀ (j k m : Nat), k + j = n → k ≤ i → bM_plan_62 Lf (m + (j + 1)) w 22 (nI d) x2 x3 x4 1 (nI k) = bM_plan_122 Lf w 22 (nI d) x2 x3 x4 0 := by
  have hin : inB (nI d) 2 = true := by
    rcases (show d = 0 ∨ d = 1 by omega) with rfl | rfl <;> decide +kernel
  intro j
  induction j with
  | zero => intro k m hk hki; omega
  | succ j ih =>
    intro k m hk hki
    show bM_plan_62s Lf _ w 22 _ _ _ _ _ _ = _
    unfold bM_plan_62s bM_plan_113 bM_plan_114
    rw [in_e, bd, bI_if, if_pos hin, gr22_9, bd]
    dsimp only
    rw [ld27 w hd, bd, hn, if_neg (nI_ge (by omega) (by omega)), if_neg (by decide +kernel), gr22_10, bd, mu_8, nI_add, ld28 w (by omega), bd, gr22_8, bd, ld26 w hd, bd, ad_1]
    by_cases hm : w 28 (8 * d + k) = w 26 d + x2
    · rw [if_pos hm]
      exact plan62_0 w hd hn h8 x2 x3 x4 j (k + 1) m (by omega)
    · rw [if_neg hm]
      refine ih (k + 1) m (by omega) ?_
      by_cases e : k = i
      · subst e; exact absurd hit hm
      · omega
theorem plan160_n (w : Wo) (x1 x2 x3 x4 k : Int32) (hk : ¬ k ≤ 0) : bM_plan_160 Lf w 22 x1 x2 x3 x4 22 k = some (up2 w 22 0 k) := by
  unfold bM_plan_160
  rw [pf22_0, bd, gi22_0, bd, up2_s, if_neg hk]
theorem okp_pok {x3 x4 : Int32} (h : okp x3 x4 = true) : (x3 = 1 → ∃ m, m < 72 ∧ x4 = nI m) ∧ (x3 = 2 → ∃ m, m ≤ 10 ∧ x4 = nI m) := by
  unfold okp at h
  refine ⟨fun e => ?_, fun e => ?_⟩
  · subst e
    rw [if_neg (by decide +kernel), if_pos rfl] at h
    exact inB_of (n := 72) h (by decide)
  · subst e
    rw [if_neg (by decide +kernel), if_neg (by decide +kernel), if_pos rfl] at h
    simp only [Bool.and_eq_true, Bool.not_eq_true', decide_eq_false_iff_not] at h
    rcases pk_ix x4 (n := 11) (by decide) with h1 | h1 | ⟨m, hm, h1⟩
    · exact absurd (Int32.lt_trans h1 (by decide +kernel)) h.1
    · exact absurd h1 h.2
    · exact ⟨m, by omega, h1⟩
theorem op_plan {wc wr : Wo} {on : Bool} (h : Inv wc wr on) (x1 x2 x3 x4 : Int32) : Rev wc wr (fL_plan Lf wc 0 x1 x2 x3 x4) (fM_plan Lf wr 22 x1 x2 x3 x4) := by
  have h0 := h
  obtain ⟨⟨M, N, lf, W, n, P, g1, g2, g3, g4, g5, g6⟩, -⟩ := h0
  rw [planR_e]
  unfold fL_plan fG_plan
  rw [isC0, gdt, isBelow_e, bd, bI_if]
  dsimp only
  by_cases h1 : inB x1 2 = true
  case neg =>
    rw [if_neg h1, bd]
    refine Rev.refused h (k := 1) rfl ?_
    show bM_plan_62 Lf (999 + 1) wr 22 x1 x2 x3 x4 _ 0 = _
    show bM_plan_62s Lf _ wr 22 x1 x2 x3 x4 _ 0 = _
    unfold bM_plan_62s bM_plan_122
    rw [in_e, bd, bI_if, if_neg h1]
    dsimp only
    rw [in_e, bd, bI_if, if_neg h1]
    exact plan160_n _ _ _ _ _ _ (by decide +kernel)
  rw [if_pos h1]
  obtain ⟨d, hd, rfl⟩ := inB_of (n := 2) h1 (by decide)
  obtain ⟨c1, c2, c3⟩ := g1.2.2.2 d hd
  obtain ⟨r1, r2, r3⟩ := g2.2.2.2 d hd
  have h8 := c3.1
  have e122 : ∀ x5, bM_plan_122 Lf wr 22 (nI d) x2 x3 x4 x5 = if x5 = 0 then some (up2 wr 22 0 2) else (if n d = 8 then some (up2 wr 22 0 3) else bM_plan_160 Lf wr 22 (nI d) x2 x3 x4 22 0) := by
    intro x5
    unfold bM_plan_122
    rw [in_e, bd, bI_if, if_pos h1]
    dsimp only
    rw [gr22_9, bd, ld27 _ hd, bd, r2, plan160_n _ _ _ _ _ _ (by decide +kernel), plan160_n _ _ _ _ _ _ (by decide +kernel)]
    by_cases hx : x5 = 0
    · rw [if_pos hx, if_pos hx]
    · rw [if_neg hx, if_neg hx]
      by_cases hn : n d = 8
      · rw [if_pos (by rw [eq_8 (by omega)]; exact hn), if_pos hn]
      · rw [if_neg (by rw [eq_8 (by omega)]; exact hn), if_neg hn]
  have e57_0 : bM_plan_57 Lf wr 22 (nI d) x2 x3 x4 0 = some (up2 wr 22 0 2) := by
    unfold bM_plan_57
    rw [show (1000 : Nat) = (999 - n d) + (n d + 1) by omega]
    have hh := plan62_0 wr hd r2 h8 x2 x3 x4 (n d) 0 (999 - n d) (by omega)
    rw [e122, if_pos rfl] at hh
    exact hh
  by_cases ha : x2 < 1
  · rw [if_pos ha, decide_eq_true ha, bd]
    exact Rev.refused h (k := 2) rfl e57_0
  rw [if_neg ha, decide_eq_false ha]
  by_cases hb : 50 < x2
  · rw [if_pos hb, decide_eq_true hb, bd]
    exact Rev.refused h (k := 2) rfl e57_0
  rw [if_neg hb, decide_eq_false hb, isPlan_e, bd, bI_if]
  dsimp only
  by_cases hk : okp x3 x4 = true
  case neg =>
    rw [if_neg hk, bd]
    have hf : okp x3 x4 = false := by cases e : okp x3 x4 with | true => exact absurd e hk | false => rfl
    rw [hf]
    exact Rev.refused h (k := 2) rfl e57_0
  rw [if_pos hk, hk, driveOf_e _ hd, bd]
  dsimp only
  show Rev wc wr _ (bM_plan_57 Lf wr 22 (nI d) x2 x3 x4 1)
  obtain ⟨r, e0, hres⟩ := planOfNext_e wc d (n d) x2 c2 h8
  rw [e0, bd]
  dsimp only
  rw [c1] at hres
  rcases hres with ⟨rfl, hno⟩ | ⟨i, hi, rfl, hit⟩
  case inr =>
    rw [if_neg (neg1 (by omega)), bd]
    refine Rev.refused h (k := 2) rfl ?_
    have hP : P d (W d + x2) = some (wc (dc d + 3) i, wc (dc d + 4) i) := c3.at hi hit
    obtain ⟨i', hi', hit'⟩ := r3.2.2.1 _ _ hP
    unfold bM_plan_57
    rw [show (1000 : Nat) = (999 - n d) + (n d + 1) by omega]
    have hh := plan62_2 wr hd r2 h8 x2 x3 x4 hi' (by rw [r1]; exact hit') (n d) 0 (999 - n d) (by omega) (by omega)
    rw [e122, if_pos rfl] at hh
    exact hh
  have hP : P d (W d + x2) = none := c3.non hno
  have hnoR : ∀ i, i < n d → wr 28 (8 * d + i) ≠ wr 26 d + x2 := fun i hi e => by
    have := r3.at hi (t := W d + x2) (by rw [← r1]; exact e)
    rw [hP] at this
    cases this
  have e57_1 : bM_plan_57 Lf wr 22 (nI d) x2 x3 x4 1 = if n d = 8 then some (up2 wr 22 0 3) else bM_plan_160 Lf wr 22 (nI d) x2 x3 x4 22 0 := by
    unfold bM_plan_57
    rw [show (1000 : Nat) = (999 - n d) + (n d + 1) by omega]
    have hh := plan62_1 wr hd r2 h8 x2 x3 x4 hnoR (n d) 0 (999 - n d) (by omega)
    rw [e122, if_neg (by decide +kernel)] at hh
    exact hh
  rw [if_pos rfl, driveOf_e _ hd, bd, e57_1]
  dsimp only
  rw [giD_4, bd, c2]
  by_cases hn8 : n d = 8
  · rw [if_pos (by rw [eq_8 (by omega)]; exact hn8), if_pos hn8, bd]
    exact Rev.refused h (k := 3) rfl rfl
  rw [if_neg (by rw [eq_8 (by omega)]; exact hn8), if_neg hn8, driveOf_e _ hd, bd]
  dsimp only
  have hdd := dc01 d
  have eC : fD_addPlan Lf wc (dc d) x2 x3 x4 = some (up2 (up2 (up2 (up2 wc (dc d + 2) (n d) (W d + x2)) (dc d + 3) (n d) x3) (dc d + 4) (n d) x4) (dc d) 4 (nI (n d + 1))) := by
    unfold fD_addPlan
    rw [isCD, gdt, grD_1, bd, giD_4, bd, giD_5, bd, c1, c2, stD2 _ d _ (by omega), bd, grD_2, bd, giD_4, bd, up2_c (d := dc d) (c := dc d + 2) _ _ (by omega), c2, stD3 _ d _ (by omega), bd, grD_3, bd, giD_4, bd, up2_c (d := dc d) (c := dc d + 3) _ _ (by omega), up2_c (d := dc d) (c := dc d + 2) _ _ (by omega), c2, stD4 _ d _ (by omega), bd, giD_4, bd, up2_c (d := dc d) (c := dc d + 4) _ _ (by omega), up2_c (d := dc d) (c := dc d + 3) _ _ (by omega), up2_c (d := dc d) (c := dc d + 2) _ _ (by omega), c2, ad_1, pfD_4, bd]
  have eR : bM_plan_160 Lf wr 22 (nI d) x2 x3 x4 22 0 = some (up2 (up2 (up2 (up2 (up2 wr 22 0 0) 28 (8 * d + n d) (W d + x2)) 29 (8 * d + n d) x3) 30 (8 * d + n d) x4) 27 d (nI (n d + 1))) := by
    unfold bM_plan_160
    rw [pf22_0, bd, gi22_0, bd, up2_s, if_pos (by decide +kernel), gr22_9, bd, ld27 _ hd, bd, up2_c (d := 27) (c := 22) _ _ (by decide), r2, gr22_10, bd, gr22_8, bd, ld26 _ hd, bd, up2_c (d := 26) (c := 22) _ _ (by decide), r1, mu_8, nI_add, st28 _ _ (by omega), bd, gr22_11, bd, st29 _ _ (by omega), bd, gr22_12, bd, st30 _ _ (by omega), bd, bd, ld27 _ hd, bd, up2_c (d := 27) (c := 30) _ _ (by decide), up2_c (d := 27) (c := 29) _ _ (by decide), up2_c (d := 27) (c := 28) _ _ (by decide), up2_c (d := 27) (c := 22) _ _ (by decide), r2, ad_1, st27 _ _ hd, bd]
  rw [eC, bd, bd, eR]
  dsimp only
  rw [if_pos rfl]
  have hPok : POK (va_up P d (ins (P d) (W d + x2) (x3, x4))) := by
    intro e he
    by_cases hed : e = d
    · subst hed
      rw [vup_s]
      intro t k x ht
      unfold ins at ht
      by_cases ett : t = W e + x2
      · rw [if_pos ett] at ht
        cases ht
        exact okp_pok hk
      · rw [if_neg ett] at ht
        exact g3 e he t k x ht
    · rw [vup_n _ _ hed]; exact g3 e he
  refine ⟨_, _, 0, on, rfl, rfl, ?_, h.upd ⟨M, N, lf, W, va_up n d (n d + 1), va_up P d (ins (P d) (W d + x2) (x3, x4)), ⟨?_, ?_, ?_, fun e he => ?_⟩, ⟨?_, ?_, ?_, fun e he => ?_⟩, hPok, g4, ?_, ?_⟩ (fun c hc => ?_) (fun c hc => ?_) (fun i hi => ?_), fun c hc1 hc2 => ?_, fun c hc => ?_⟩
  · rw [up2_c _ _ (by decide), up2_c _ _ (by decide), up2_c _ _ (by decide), up2_c _ _ (by decide), up2_s]
  · rw [NC_congr (w := wc) (by rw [up2_c _ _ (by omega), up2_c _ _ (by omega), up2_c _ _ (by omega), up2_c _ _ (by omega)]) (by rw [up2_c _ _ (by omega), up2_c _ _ (by omega), up2_c _ _ (by omega), up2_c _ _ (by omega)])]; exact g1.1
  · rw [up2_c _ _ (by omega), up2_c _ _ (by omega), up2_c _ _ (by omega), up2_c _ _ (by omega)]; exact g1.2.1
  · rw [up2_c _ _ (by omega), up2_c _ _ (by omega), up2_c _ _ (by omega), up2_c _ _ (by omega)]; exact g1.2.2.1
  · by_cases hed : e = d
    · subst hed
      rw [vup_s, vup_s]
      refine ⟨?_, up2_s _ _ _ _, ?_⟩
      · rw [up2_i _ _ (by decide), up2_c _ _ (by omega), up2_c _ _ (by omega), up2_c _ _ (by omega)]; exact c1
      · refine c3.add (by omega) hP (fun i hi => ?_) (fun i hi => ?_) (fun i hi => ?_) ?_ ?_ ?_
        · rw [up2_c _ _ (by omega), up2_c _ _ (by omega), up2_c _ _ (by omega), up2_i _ _ (by omega)]
        · rw [up2_c _ _ (by omega), up2_c _ _ (by omega), up2_i _ _ (by omega), up2_c _ _ (by omega)]
        · rw [up2_c _ _ (by omega), up2_i _ _ (by omega), up2_c _ _ (by omega), up2_c _ _ (by omega)]
        · rw [up2_c _ _ (by omega), up2_c _ _ (by omega), up2_c _ _ (by omega), up2_s]
        · rw [up2_c _ _ (by omega), up2_c _ _ (by omega), up2_s]
        · rw [up2_c _ _ (by omega), up2_s]
    · rw [vup_n _ _ hed, vup_n _ _ hed]
      have hee := dc01 e
      have hne : dc e ≠ dc d := fun q => hed (dc_inj he hd q)
      have key : ∀ c, c = dc e ∨ c = dc e + 2 ∨ c = dc e + 3 ∨ c = dc e + 4 → up2 (up2 (up2 (up2 wc (dc d + 2) (n d) (W d + x2)) (dc d + 3) (n d) x3) (dc d + 4) (n d) x4) (dc d) 4 (nI (n d + 1)) c = wc c := fun c hc => by
        rw [up2_c _ _ (by omega), up2_c _ _ (by omega), up2_c _ _ (by omega), up2_c _ _ (by omega)]
      rw [key _ (Or.inl rfl), key _ (Or.inr (Or.inl rfl)), key _ (Or.inr (Or.inr (Or.inl rfl))), key _ (Or.inr (Or.inr (Or.inr rfl)))]
      exact g1.2.2.2 e he
  · rw [NR_congr (w := wr) (by rw [up2_c _ _ (by decide), up2_c _ _ (by decide), up2_c _ _ (by decide), up2_c _ _ (by decide), up2_c _ _ (by decide)])]; exact g2.1
  · rw [up2_c _ _ (by decide), up2_c _ _ (by decide), up2_c _ _ (by decide), up2_c _ _ (by decide), up2_i _ _ (by decide)]; exact g2.2.1
  · rw [up2_c _ _ (by decide), up2_c _ _ (by decide), up2_c _ _ (by decide), up2_c _ _ (by decide), up2_i _ _ (by decide)]; exact g2.2.2.1
  · obtain ⟨q1, q2, q3⟩ := g2.2.2.2 e he
    have h26 : ∀ c, c ≠ 27 → c ≠ 28 → c ≠ 29 → c ≠ 30 → c ≠ 22 → up2 (up2 (up2 (up2 (up2 wr 22 0 0) 28 (8 * d + n d) (W d + x2)) 29 (8 * d + n d) x3) 30 (8 * d + n d) x4) 27 d (nI (n d + 1)) c = wr c := fun c k1 k2 k3 k4 k5 => by rw [up2_c _ _ k1, up2_c _ _ k4, up2_c _ _ k3, up2_c _ _ k2, up2_c _ _ k5]
    rw [h26 26 (by decide) (by decide) (by decide) (by decide) (by decide)]
    by_cases hed : e = d
    · subst hed
      rw [vup_s, vup_s]
      refine ⟨q1, up2_s _ _ _ _, ?_⟩
      refine r3.add (by omega) hP (fun i hi => ?_) (fun i hi => ?_) (fun i hi => ?_) ?_ ?_ ?_
      · try dsimp only
        rw [up2_c _ _ (by decide), up2_c _ _ (by decide), up2_c _ _ (by decide), up2_i _ _ (by omega), up2_c _ _ (by decide)]
      · try dsimp only
        rw [up2_c _ _ (by decide), up2_c _ _ (by decide), up2_i _ _ (by omega), up2_c _ _ (by decide), up2_c _ _ (by decide)]
      · try dsimp only
        rw [up2_c _ _ (by decide), up2_i _ _ (by omega), up2_c _ _ (by decide), up2_c _ _ (by decide), up2_c _ _ (by decide)]
      · try dsimp only
        rw [up2_c _ _ (by decide), up2_c _ _ (by decide), up2_c _ _ (by decide), up2_s]
      · try dsimp only
        rw [up2_c _ _ (by decide), up2_c _ _ (by decide), up2_s]
      · try dsimp only
        rw [up2_c _ _ (by decide), up2_s]
    · rw [vup_n _ _ hed, vup_n _ _ hed]
      have q8 := q3.1
      refine ⟨q1, ?_, q3.congr (fun i hi => ?_) (fun i hi => ?_) (fun i hi => ?_)⟩
      · rw [up2_i _ _ hed, up2_c _ _ (by decide), up2_c _ _ (by decide), up2_c _ _ (by decide), up2_c _ _ (by decide)]; exact q2
      · try dsimp only
        rw [up2_c _ _ (by decide), up2_c _ _ (by decide), up2_c _ _ (by decide), up2_i _ _ (by omega), up2_c _ _ (by decide)]
      · try dsimp only
        rw [up2_c _ _ (by decide), up2_c _ _ (by decide), up2_i _ _ (by omega), up2_c _ _ (by decide), up2_c _ _ (by decide)]
      · try dsimp only
        rw [up2_c _ _ (by decide), up2_i _ _ (by omega), up2_c _ _ (by decide), up2_c _ _ (by decide), up2_c _ _ (by decide)]
  · rw [MC_congr (w := wc) (by rw [up2_c _ _ (by omega), up2_c _ _ (by omega), up2_c _ _ (by omega), up2_c _ _ (by omega)])]; exact g5
  · rw [MR_congr (w := wr) (by rw [up2_c _ _ (by decide), up2_c _ _ (by decide), up2_c _ _ (by decide), up2_c _ _ (by decide), up2_c _ _ (by decide)])]; exact g6
  · rw [up2_c _ _ (by omega), up2_c _ _ (by omega), up2_c _ _ (by omega), up2_c _ _ (by omega)]
  · rw [up2_c _ _ (by omega), up2_c _ _ (by omega), up2_c _ _ (by omega), up2_c _ _ (by omega), up2_c _ _ (by omega)]
  · rw [up2_c _ _ (by decide), up2_c _ _ (by decide), up2_c _ _ (by decide), up2_c _ _ (by decide), up2_i _ _ (by omega)]
  · rw [up2_c _ _ (by omega), up2_c _ _ (by omega), up2_c _ _ (by omega), up2_c _ _ (by omega)]
  · rw [up2_c _ _ (by omega), up2_c _ _ (by omega), up2_c _ _ (by omega), up2_c _ _ (by omega), up2_c _ _ (by omega)]
/-! replace -/
theorem replace_l (w : Wo) {d : Nat} (hd : d < 2) : ∀ (j k m : Nat), k + j = 792 → bM_replace_38 Lf (m + (j + 1)) (fun c i => if c = 23 ∧ 792 * d ≤ i ∧ i < 792 * d + k then 0 else w c i) 22 (nI d) (nI k) = some (up2 (fun c i => if c = 23 ∧ 792 * d ≤ i ∧ i < 792 * d + 792 then 0 else w c i) 27 d 0) := by
  intro j
  induction j with
  | zero =>
    intro k m hk
    have hk : k = 792 := by omega
    subst hk
    show bM_replace_38s Lf _ _ 22 _ _ = _
    unfold bM_replace_38s
    rw [if_pos (by rw [le_792 (by decide)]; omega), gr22_9, bd, st27 _ _ hd, bd]
  | succ j ih =>
    intro k m hk
    have hst : up2 (fun c i => if c = 23 ∧ 792 * d ≤ i ∧ i < 792 * d + k then 0 else w c i) 23 (792 * d + k) 0 = (fun c i => if c = 23 ∧ 792 * d ≤ i ∧ i < 792 * d + (k + 1) then 0 else w c i) := by
      funext c i
      by_cases hc : c = 23
      · subst hc
        by_cases hi : i = 792 * d + k
        · subst hi
          rw [up2_s, if_pos (by omega)]
        · rw [up2_i _ _ hi]
          by_cases hh : 792 * d ≤ i ∧ i < 792 * d + k
          · rw [if_pos ⟨rfl, hh⟩, if_pos (by omega)]
          · rw [if_neg (fun q => hh q.2), if_neg (by omega)]
      · rw [up2_c _ _ hc, if_neg (fun q => hc q.1), if_neg (fun q => hc q.1)]
    show bM_replace_38s Lf _ _ 22 _ _ = _
    unfold bM_replace_38s
    rw [if_neg (by rw [le_792 (by omega)]; omega), gr22_1, bd, mu_792, nI_add, st23 _ _ (by omega), bd, hst, ad_1]
    exact ih (k + 1) m (by omega)
theorem replace_e (w : Wo) {d : Nat} (hd : d < 2) : bM_replace_38 Lf 1000 w 22 (nI d) 0 = some (up2 (fun c i => if c = 23 ∧ 792 * d ≤ i ∧ i < 792 * d + 792 then 0 else w c i) 27 d 0) := by
  have hh := replace_l w hd 792 0 207 rfl
  rw [show (fun c i => if c = 23 ∧ 792 * d ≤ i ∧ i < 792 * d + 0 then 0 else w c i) = w from by
    funext c i
    rw [if_neg (by omega)]] at hh
  exact hh
theorem op_replace {wc wr : Wo} {on : Bool} (h : Inv wc wr on) (x1 : Int32) : Rev wc wr (fL_replace Lf wc 0 x1) (fM_replace Lf wr 22 x1) := by
  have h0 := h
  obtain ⟨⟨M, N, lf, W, n, P, g1, g2, g3, g4, g5, g6⟩, -⟩ := h0
  obtain ⟨eN, eM, hpi, hon, hoff⟩ := h.N
  have e25 : ∀ k, ¬ k ≤ 0 → bM_replace_25 Lf wr 22 x1 22 k = some (up2 wr 22 0 k) := fun k hk => by
    unfold bM_replace_25
    rw [pf22_0, bd, gi22_0, bd, up2_s, if_neg hk]
  unfold fL_replace fG_replace fM_replace
  rw [isC0, gdt, isC22, gdt, isBelow_e, bd, bI_if, in_e, bd, bI_if]
  try dsimp only
  by_cases h1 : inB x1 2 = true
  case neg =>
    rw [if_neg h1, if_neg h1, bd]
    exact Rev.refused h (k := 1) rfl (e25 1 (by decide +kernel))
  rw [if_pos h1, if_pos h1, gr0_2, bd, gi13_0, bd, gi22_6, bd, hon, hoff, bI_if, bI_if]
  cases on with
  | false =>
    refine Rev.refused h (k := 2) rfl ?_
    show bM_replace_25 Lf wr 22 x1 22 2 = _
    exact e25 2 (by decide +kernel)
  | true =>
    obtain ⟨d, hd, rfl⟩ := inB_of (n := 2) h1 (by decide)
    have hdd := dc01 d
    rw [if_pos rfl, if_neg (fun q => by cases q), driveOf_e _ hd, bd]
    try dsimp only
    have eC : fD_wipe Lf wc (dc d) = some (up2 (filw wc (dc d + 1) 792 0) (dc d) 4 0) := by
      unfold fD_wipe
      rw [isCD, gdt, grD_0, bd, fill_e wc (dc d + 1) 792 0 (by have := (arD d).2.2.2.2; omega) (arD d).1 (by decide), bd, pfD_4, bd]
    have eR : bM_replace_25 Lf wr 22 (nI d) 22 0 = some (up2 (fun c i => if c = 23 ∧ 792 * d ≤ i ∧ i < 792 * d + 792 then 0 else up2 wr 22 0 0 c i) 27 d 0) := by
      unfold bM_replace_25
      rw [pf22_0, bd, gi22_0, bd, up2_s, if_pos (by decide +kernel), replace_e _ hd]
    rw [eC, bd, bd, eR]
    try dsimp only
    rw [if_pos rfl]
    have hfc : ∀ c, c ≠ dc d → c ≠ dc d + 1 → up2 (filw wc (dc d + 1) 792 0) (dc d) 4 0 c = wc c := fun c k1 k2 => by rw [up2_c _ _ k1, filw_ne _ _ _ _ k2]
    have hfr : ∀ c, c ≠ 22 → c ≠ 23 → c ≠ 27 → up2 (fun c i => if c = 23 ∧ 792 * d ≤ i ∧ i < 792 * d + 792 then 0 else up2 wr 22 0 0 c i) 27 d 0 c = wr c := fun c k1 k2 k3 => by
      rw [up2_c _ _ k3]
      funext i
      try dsimp only
      rw [if_neg (fun q => k2 q.1), up2_c _ _ k1]
    have hf22 : ∀ i, i ≠ 0 → up2 (fun c i => if c = 23 ∧ 792 * d ≤ i ∧ i < 792 * d + 792 then 0 else up2 wr 22 0 0 c i) 27 d 0 22 i = wr 22 i := fun i hi => by
      rw [up2_c _ _ (by decide)]
      try dsimp only
      rw [if_neg (fun q => absurd q.1 (by decide)), up2_i _ _ hi]
    have hN1 : NC (up2 (filw wc (dc d + 1) 792 0) (dc d) 4 0) = fun e j => if e = d then 0 else N e j := by
      rw [← g1.1]
      funext e j
      unfold NC
      by_cases hej : e < 2 ∧ j < 792
      · rw [if_pos hej]
        by_cases hed : e = d
        · subst hed
          rw [if_pos rfl, up2_c _ _ (by omega)]
          unfold filw
          rw [if_pos ⟨rfl, hej.2⟩]
        · have hne : dc e ≠ dc d := fun q => hed (dc_inj hej.1 hd q)
          have hee := dc01 e
          rw [if_neg hed, hfc _ (by omega) (by omega), if_pos hej]
      · rw [if_neg hej]
        by_cases hed : e = d
        · rw [if_pos hed]
        · rw [if_neg hed, if_neg hej]
    have hN2 : NR (up2 (fun c i => if c = 23 ∧ 792 * d ≤ i ∧ i < 792 * d + 792 then 0 else up2 wr 22 0 0 c i) 27 d 0) = fun e j => if e = d then 0 else N e j := by
      rw [← g2.1]
      funext e j
      unfold NR
      rw [up2_c _ _ (by decide)]
      try dsimp only
      by_cases hej : e < 2 ∧ j < 792
      · rw [if_pos hej, up2_c _ _ (by decide)]
        by_cases hed : e = d
        · rw [if_pos hed, if_pos (by omega)]
        · rw [if_neg hed, if_neg (by omega), if_pos hej]
      · rw [if_neg hej]
        by_cases hed : e = d
        · rw [if_pos hed]
        · rw [if_neg hed, if_neg hej]
    have hrep0 : ∀ pw pk px : Nat → Int32, Rep 0 pw pk px (fun _ => none) := fun pw pk px => ⟨by omega, fun i hi => absurd hi (Nat.not_lt_zero i), fun t q ht => (by cases ht), fun i j hi => absurd hi (Nat.not_lt_zero i)⟩
    refine ⟨_, _, 0, true, rfl, rfl, ?_, h.upd ⟨M, (fun e j => if e = d then 0 else N e j), lf, W, va_up n d 0, va_up P d (fun _ => none), ⟨hN1, ?_, ?_, fun e he => ?_⟩, ⟨hN2, ?_, ?_, fun e he => ?_⟩, fun e he => ?_, ?_, ?_, ?_⟩ (fun c hc => ?_) (fun c hc => ?_) (fun i hi => ?_), fun c hc1 hc2 => ?_, fun c hc => ?_⟩
    · rw [up2_c _ _ (by decide)]
      try dsimp only
      rw [if_neg (fun q => absurd q.1 (by decide)), up2_s]
    · rw [hfc _ (by omega) (by omega)]; exact g1.2.1
    · rw [hfc _ (by omega) (by omega)]; exact g1.2.2.1
    · obtain ⟨q1, q2, q3⟩ := g1.2.2.2 e he
      by_cases hed : e = d
      · subst hed
        rw [vup_s, vup_s]
        refine ⟨?_, up2_s _ _ _ _, hrep0 _ _ _⟩
        rw [up2_i _ _ (by decide), filw_ne _ _ _ _ (by omega)]; exact q1
      · rw [vup_n _ _ hed, vup_n _ _ hed]
        have hee := dc01 e
        have hne : dc e ≠ dc d := fun q => hed (dc_inj he hd q)
        rw [hfc (dc e) (by omega) (by omega), hfc (dc e + 2) (by omega) (by omega), hfc (dc e + 3) (by omega) (by omega), hfc (dc e + 4) (by omega) (by omega)]
        exact ⟨q1, q2, q3⟩
    · rw [hf22 7 (by decide)]; exact g2.2.1
    · rw [hf22 6 (by decide)]; exact g2.2.2.1
    · obtain ⟨q1, q2, q3⟩ := g2.2.2.2 e he
      rw [hfr 26 (by decide) (by decide) (by decide), hfr 28 (by decide) (by decide) (by decide), hfr 29 (by decide) (by decide) (by decide), hfr 30 (by decide) (by decide) (by decide)]
      by_cases hed : e = d
      · subst hed
        rw [vup_s, vup_s]
        exact ⟨q1, up2_s _ _ _ _, hrep0 _ _ _⟩
      · rw [vup_n _ _ hed, vup_n _ _ hed]
        refine ⟨q1, ?_, q3⟩
        rw [up2_i _ _ hed]
        try dsimp only
        rw [if_neg (fun q => absurd q.1 (by decide)), up2_c _ _ (by decide)]
        exact q2
    · by_cases hed : e = d
      · subst hed
        rw [vup_s]
        intro t k x ht
        cases ht
      · rw [vup_n _ _ hed]; exact g3 e he
    · intro e p he hp ha k hk
      dsimp only at ha ⊢
      by_cases hed : e = d
      · rw [if_pos hed] at ha
        exact absurd ha.symm (nI_ne0 (by omega) (by omega))
      · rw [if_neg hed] at ha ⊢
        exact g4 e p he hp ha k hk
    · rw [MC_congr (w := wc) (hfc 18 (by omega) (by omega))]; exact g5
    · rw [MR_congr (w := wr) (hfr 24 (by decide) (by decide) (by decide))]; exact g6
    · exact hfc c (by omega) (by omega)
    · exact hfr c (by omega) (by omega) (by omega)
    · exact hf22 i (by omega)
    · exact hfc c (by omega) (by omega)
    · exact hfr c (by omega) (by omega) (by omega)

/-! code, findings, count, cutAfter, plan, replace -/
def Re2 (wc wr : Wo) (a b : Option (Wo × Int32)) : Prop := ∃ wc' wr' r on', a = some (wc', r) ∧ b = some (wr', r) ∧ Inv wc' wr' on' ∧ (∀ c, 22 ≤ c → wc' c = wc c) ∧ ∀ c, c < 22 ∨ 33 < c → wr' c = wr c
theorem op_code {wc wr : Wo} {on : Bool} (h : Inv wc wr on) : Re2 wc wr (fG_code Lf wc 0) (fM_code Lf wr 22) := by
  have h0 := h
  obtain ⟨-, -, m1, -⟩ := h0
  unfold fG_code fM_code
  rw [isC0, gdt, isC22, gdt, gi0_6, bd, pf22_0, bd, gi22_13, bd, up2_i _ _ (by decide), m1]
  exact ⟨wc, _, _, on, rfl, rfl, h.cong (fun c _ => rfl) (fun c h1 h2 => up2_c _ _ (by omega)) (fun i h1 h2 => up2_i _ _ h1), fun c _ => rfl, fun c hc => up2_c _ _ (by omega)⟩
theorem op_findings {wc wr : Wo} {on : Bool} (h : Inv wc wr on) (x1 : Int32) : Re2 wc wr (fG_findings Lf wc 0 x1) (fM_findings Lf wr 22 x1) := by
  obtain ⟨⟨M, hcr⟩, hj, m1, m2, ⟨k, hk, g1, g2⟩, m4⟩ := h
  have eC : fG_findings Lf wc 0 x1 = some (up2 wc 16 1 (if x1 = 0 then nI k else 0), nI k) := by
    unfold fG_findings
    rw [isC0, gdt, gr0_4, bd, gi16_1, bd, bd, pf16_1, bd, g1]
    by_cases hx : x1 = 0
    · rw [if_pos hx, if_pos hx]
      congr 2
      funext c j
      unfold up2
      by_cases hc : c = 16
      · subst hc
        by_cases hj1 : j = 1
        · subst hj1; rw [if_pos rfl, if_pos rfl]; exact g1
        · rw [if_pos rfl, if_neg hj1]
      · rw [if_neg hc]
    · rw [if_neg hx, if_neg hx]
  have eR : fM_findings Lf wr 22 x1 = some (up2 (up2 wr 22 0 0) 22 15 (if x1 = 0 then nI k else 0), nI k) := by
    unfold fM_findings bM_findings_23
    rw [isC22, gdt, pf22_0, bd, gi22_15, bd, bd, up2_i _ _ (by decide), g2, pf22_15, bd, pf22_15, bd]
    by_cases hx : x1 = 0
    · rw [if_pos hx, if_pos hx]
    · rw [if_neg hx, if_neg hx]
  rw [eC, eR]
  refine ⟨_, _, _, on, rfl, rfl, ⟨⟨M, hcr.cong (fun c hc => up2_c _ _ (by omega)) (fun c hc => by rw [up2_c _ _ (by omega), up2_c _ _ (by omega)]) (by rw [up2_i _ _ (by decide), up2_i _ _ (by decide)]) (by rw [up2_i _ _ (by decide), up2_i _ _ (by decide)])⟩, ?_, ?_⟩, fun c hc => up2_c _ _ (by omega), fun c hc => by rw [up2_c _ _ (by omega), up2_c _ _ (by omega)]⟩
  · obtain ⟨j1, j2, j3, j4⟩ := hj
    refine ⟨?_, ?_, fun j hjj => ?_, ?_⟩
    · rw [up2_c _ _ (by decide), up2_i _ _ (by decide), up2_i _ _ (by decide)]; exact j1
    · rw [up2_c _ _ (by decide), up2_i _ _ (by decide), up2_i _ _ (by decide)]; exact j2
    · rw [up2_c _ _ (by decide), up2_c (d := 25) _ _ (by decide), up2_c (d := 25) _ _ (by decide)]; exact j3 j hjj
    · rw [up2_i _ _ (by decide), up2_i _ _ (by decide), up2_i _ _ (by decide), up2_i _ _ (by decide)]; exact j4
  · refine ⟨?_, ?_, ?_, fun j hjj => ?_⟩
    · rw [up2_c _ _ (by decide), up2_i _ _ (by decide), up2_i _ _ (by decide)]; exact m1
    · rw [up2_c _ _ (by decide), up2_i _ _ (by decide), up2_i _ _ (by decide)]; exact m2
    · rw [up2_s, up2_s]
      by_cases hx : x1 = 0
      · rw [if_pos hx]; exact ⟨k, hk, rfl, rfl⟩
      · rw [if_neg hx]; exact ⟨0, by omega, rfl, rfl⟩
    · rw [up2_c _ _ (by decide), up2_c (d := 31) _ _ (by decide), up2_c (d := 31) _ _ (by decide)]; exact m4 j hjj
/-! count -/
def mxf (f : Nat → Int32) : Nat → Int32
  | 0 => 0
  | k + 1 => if mxf f k < f k then f k else mxf f k
theorem mxf_congr {f g : Nat → Int32} (h : ∀ i, i < 16 → f i = g i) : mxf f 16 = mxf g 16 := by
  have h8 : ∀ k, k ≤ 16 → mxf f k = mxf g k := by
    intro k
    induction k with
    | zero => intro _; rfl
    | succ k ih =>
      intro hk
      show (if mxf f k < f k then f k else mxf f k) = (if mxf g k < g k then g k else mxf g k)
      rw [ih (by omega), h k (by omega)]
  exact h8 16 (by omega)
theorem greatest_l (w : Wo) : ∀ (j k m : Nat), k + j = 16 → bG_greatestPageVersion_4 Lf (m + (j + 1)) w 0 (mxf (w 18) k) (nI k) = some (w, mxf (w 18) 16) := by
  intro j
  have hal : al Lf 18 = some (nI 16) := rfl
  induction j with
  | zero =>
    intro k m hk
    have hk : k = 16 := by omega
    subst hk
    show bG_greatestPageVersion_4s Lf _ w 0 _ _ = _
    unfold bG_greatestPageVersion_4s
    rw [gr0_5, bd, hal, bd, if_pos (nI_le (by omega) (by omega))]
  | succ j ih =>
    intro k m hk
    show bG_greatestPageVersion_4s Lf _ w 0 _ _ = _
    unfold bG_greatestPageVersion_4s
    rw [gr0_5, bd, hal, bd, if_neg (nI_ge (by omega) (by omega)), bd, ld18 w (by omega), bd, ad_1]
    exact ih (k + 1) m (by omega)
theorem greatest_e (w : Wo) : fG_greatestPageVersion Lf w 0 = some (w, mxf (w 18) 16) := by
  unfold fG_greatestPageVersion
  rw [isC0, gdt]
  exact greatest_l w 16 0 983 rfl
theorem count_l (w : Wo) (x1 : Int32) : ∀ (j k m : Nat), k + j = 16 → bM_count_59 Lf (m + (j + 1)) w 22 x1 (mxf (w 24) k) (nI k) = if x1 = 4 then (if w 22 6 = 0 then some (w, 1) else some (w, 0)) else if x1 = 5 then some (w, w 22 3) else if x1 = 6 then some (w, w 22 14) else some (w, mxf (w 24) 16) := by
  intro j
  induction j with
  | zero =>
    intro k m hk
    have hk : k = 16 := by omega
    subst hk
    show bM_count_59s Lf _ w 22 _ _ _ = _
    unfold bM_count_59s
    rw [if_pos (by rw [le_16 (by decide)]; omega), gi22_6, bd, gi22_3, bd, gi22_14, bd]
  | succ j ih =>
    intro k m hk
    show bM_count_59s Lf _ w 22 _ _ _ = _
    unfold bM_count_59s bM_count_85
    rw [if_neg (by rw [le_16 (by omega)]; omega), gr22_2, bd, ld24 w (by omega), bd, bd, ld24 w (by omega), bd, ad_1, ← ih (k + 1) m (by omega)]
    show _ = bM_count_59 Lf (m + (j + 1)) w 22 x1 (if mxf (w 24) k < w 24 k then w 24 k else mxf (w 24) k) (nI (k + 1))
    by_cases hlt : mxf (w 24) k < w 24 k
    · rw [if_pos hlt, if_neg (Int32.not_le.mpr hlt)]
      rfl
    · rw [if_neg hlt, if_pos (Int32.not_lt.mp hlt)]
      rfl
theorem count_e (w : Wo) (x1 : Int32) : bM_count_59 Lf 1000 w 22 x1 0 0 = if x1 = 4 then (if w 22 6 = 0 then some (w, 1) else some (w, 0)) else if x1 = 5 then some (w, w 22 3) else if x1 = 6 then some (w, w 22 14) else some (w, mxf (w 24) 16) := count_l w x1 16 0 983 rfl
theorem op_count {wc wr : Wo} {on : Bool} (h : Inv wc wr on) (x1 : Int32) : Res wc wr (fL_count Lf wc 0 x1 34) (fM_count Lf wr 22 x1) := by
  have h0 := h
  obtain ⟨⟨M, hcr⟩, ⟨j1, -⟩, -, ⟨x, hx, m2, m3⟩, -⟩ := h0
  obtain ⟨eN, eM, hpi, hon, hoff⟩ := h.N
  obtain ⟨-, -, -, hd⟩ := hcr.on
  unfold fL_count fG_count fM_count
  rw [isC0, gdt, isC22, gdt, in_e, bd, bI_if]
  dsimp only
  by_cases h1 : inB x1 8 = true
  case neg =>
    have hne : ∀ m, m < 8 → ¬ x1 = nI m := fun m hm e => h1 (by
      rw [e]
      unfold inB
      show (!decide (nI m < 0) && !decide (nI 8 ≤ nI m)) = true
      rw [decide_eq_false (nI_pos (by omega)), decide_eq_false (nI_ge (by omega) (by omega))]
      rfl)
    rw [if_neg h1, if_neg (show ¬ x1 = 0 from hne 0 (by omega)), if_neg (show ¬ x1 = 1 from hne 1 (by omega)), if_neg (show ¬ x1 = 2 from hne 2 (by omega)), if_neg (show ¬ x1 = 3 from hne 3 (by omega)), if_neg (show ¬ x1 = 4 from hne 4 (by omega)), if_neg (show ¬ x1 = 5 from hne 5 (by omega)), if_neg (show ¬ x1 = 6 from hne 6 (by omega)), if_neg (show ¬ x1 = 7 from hne 7 (by omega)), bd]
    refine Res.refused h (k := 1) (r := 0) (by decide +kernel) rfl ?_
    unfold bM_count_15
    rw [pf22_0, bd, gi22_0, bd, up2_s, if_neg (by decide +kernel)]
  rw [if_pos h1]
  obtain ⟨m, hm, rfl⟩ := inB_of (n := 8) h1 (by decide)
  have eR : bM_count_15 Lf wr 22 (nI m) 22 0 = some (up2 wr 22 0 0, if m < 2 then wr 26 m else if m < 4 then wr 27 (m - 2) else if m = 4 then bI on else if m = 5 then wr 22 3 else if m = 6 then wr 22 14 else mxf (wr 24) 16) := by
    unfold bM_count_15
    rw [pf22_0, bd, gi22_0, bd, up2_s, if_pos (by decide +kernel)]
    by_cases h4 : 4 ≤ m
    · rw [if_pos (by rw [le_4 (by omega)]; exact h4)]
      rw [count_e, up2_i _ _ (by decide), up2_i _ _ (by decide), up2_i _ _ (by decide), up2_c (d := 24) _ _ (by decide), hoff, if_neg (show ¬ m < 2 by omega), if_neg (show ¬ m < 4 by omega)]
      rcases (show m = 4 ∨ m = 5 ∨ m = 6 ∨ m = 7 by omega) with rfl | rfl | rfl | rfl
      · rw [if_pos (show nI 4 = 4 from rfl), if_pos (show 4 = 4 from rfl)]
        cases on <;> rfl
      · rw [if_neg (show ¬ nI 5 = 4 by decide +kernel), if_pos (show nI 5 = 5 from rfl), if_neg (show ¬ 5 = 4 by omega), if_pos (show 5 = 5 from rfl)]
      · rw [if_neg (show ¬ nI 6 = 4 by decide +kernel), if_neg (show ¬ nI 6 = 5 by decide +kernel), if_pos (show nI 6 = 6 from rfl), if_neg (show ¬ 6 = 4 by omega), if_neg (show ¬ 6 = 5 by omega), if_pos (show 6 = 6 from rfl)]
      · rw [if_neg (show ¬ nI 7 = 4 by decide +kernel), if_neg (show ¬ nI 7 = 5 by decide +kernel), if_neg (show ¬ nI 7 = 6 by decide +kernel), if_neg (show ¬ 7 = 4 by omega), if_neg (show ¬ 7 = 5 by omega), if_neg (show ¬ 7 = 6 by omega)]
    · rw [if_neg (by rw [le_4 (by omega)]; exact h4)]
      by_cases h2 : 2 ≤ m
      · rw [if_pos (by rw [le_2 (by omega)]; exact h2), gr22_9, bd, show nI m - 2 = nI (m - 2) from pk_sub h2, ld27 _ (by omega), bd, up2_c (d := 27) _ _ (by decide), if_neg (show ¬ m < 2 by omega), if_pos (show m < 4 by omega)]
      · rw [if_neg (by rw [le_2 (by omega)]; exact h2), gr22_8, bd, ld26 _ (by omega), bd, up2_c (d := 26) _ _ (by decide), if_pos (show m < 2 by omega)]
  rw [eR]
  have hmx : mxf (wc 18) 16 = mxf (wr 24) 16 := mxf_congr fun i hi => by rw [MC_at wc hi, MR_at wr hi, eM]
  rcases (show m = 0 ∨ m = 1 ∨ m = 2 ∨ m = 3 ∨ m = 4 ∨ m = 5 ∨ m = 6 ∨ m = 7 by omega) with rfl | rfl | rfl | rfl | rfl | rfl | rfl | rfl
  · rw [if_pos (show nI 0 = 0 from rfl), gr0_0, bd, show gi Lf wc 1 0 5 = some (wc (dc 0) 5) from giD_5 wc 0, bd, bd]
    exact Res.reads h (by rw [if_pos rfl, sl_e, bd, (hd 0 (by omega)).1]; rfl) rfl
  · rw [if_neg (by decide +kernel), if_pos (show nI 1 = 1 from rfl), gr0_1, bd, show gi Lf wc 7 0 5 = some (wc (dc 1) 5) from giD_5 wc 1, bd, bd]
    exact Res.reads h (by rw [if_pos rfl, sl_e, bd, (hd 1 (by omega)).1]; rfl) rfl
  · rw [if_neg (by decide +kernel), if_neg (by decide +kernel), if_pos (show nI 2 = 2 from rfl), gr0_0, bd, show gi Lf wc 1 0 4 = some (wc (dc 0) 4) from giD_4 wc 0, bd, bd]
    exact Res.reads h (by rw [if_pos rfl, sl_e, bd, (hd 0 (by omega)).2]; rfl) rfl
  · rw [if_neg (by decide +kernel), if_neg (by decide +kernel), if_neg (by decide +kernel), if_pos (show nI 3 = 3 from rfl), gr0_1, bd, show gi Lf wc 7 0 4 = some (wc (dc 1) 4) from giD_4 wc 1, bd, bd]
    exact Res.reads h (by rw [if_pos rfl, sl_e, bd, (hd 1 (by omega)).2]; rfl) rfl
  · rw [if_neg (by decide +kernel), if_neg (by decide +kernel), if_neg (by decide +kernel), if_neg (by decide +kernel), if_pos (show nI 4 = 4 from rfl), gr0_2, bd, gi13_0, bd, hon, bI_if]
    cases on with
    | true =>
      rw [if_pos rfl, bd]
      exact Res.reads h (r := 1) (by rw [if_pos rfl, sl_e, bd]) rfl
    | false =>
      rw [if_neg (fun q => by cases q), bd]
      exact Res.reads h (r := 0) (by rw [if_pos rfl, sl_e, bd]) rfl
  · rw [if_neg (by decide +kernel), if_neg (by decide +kernel), if_neg (by decide +kernel), if_neg (by decide +kernel), if_neg (by decide +kernel), if_pos (show nI 5 = 5 from rfl), gr0_3, bd, gi14_1, bd, bd, j1, if_neg (show ¬ 5 < 2 by omega), if_neg (show ¬ 5 < 4 by omega), if_neg (show ¬ 5 = 4 by omega), if_pos (show 5 = 5 from rfl)]
    exact Res.reads h (by rw [if_pos rfl, sl_e, bd]) rfl
  · rw [if_neg (by decide +kernel), if_neg (by decide +kernel), if_neg (by decide +kernel), if_neg (by decide +kernel), if_neg (by decide +kernel), if_neg (by decide +kernel), if_pos (show nI 6 = 6 from rfl), gi0_7, bd, bd, m2, ← m3, if_neg (show ¬ 6 < 2 by omega), if_neg (show ¬ 6 < 4 by omega), if_neg (show ¬ 6 = 4 by omega), if_neg (show ¬ 6 = 5 by omega), if_pos (show 6 = 6 from rfl)]
    exact Res.reads h (by rw [if_pos rfl, sl_e, bd]) rfl
  · rw [if_neg (by decide +kernel), if_neg (by decide +kernel), if_neg (by decide +kernel), if_neg (by decide +kernel), if_neg (by decide +kernel), if_neg (by decide +kernel), if_neg (by decide +kernel), if_pos (show nI 7 = 7 from rfl), greatest_e, bd, bd, hmx, if_neg (show ¬ 7 < 2 by omega), if_neg (show ¬ 7 < 4 by omega), if_neg (show ¬ 7 = 4 by omega), if_neg (show ¬ 7 = 5 by omega), if_neg (show ¬ 7 = 6 by omega)]
    exact Res.reads h (by rw [if_pos rfl, sl_e, bd]) rfl
/-! the power's cut -/
theorem Inv.upd {wc wr wc' wr' : Wo} {on on' : Bool} (h : Inv wc wr on) (hcr : ∃ M, Cr wc' wr' M on') (hc : ∀ c, c = 0 ∨ (14 ≤ c ∧ c ≤ 17) → wc' c = wc c) (hr : ∀ c, c = 25 ∨ c = 31 → wr' c = wr c) (h22 : ∀ i, i = 3 ∨ i = 5 ∨ i = 13 ∨ i = 14 ∨ i = 15 → wr' 22 i = wr 22 i) : Inv wc' wr' on' := by
  obtain ⟨-, ⟨j1, j2, j3, j4⟩, m1, m2, m3, m4⟩ := h
  refine ⟨hcr, ⟨?_, ?_, fun j hj => ?_, ?_⟩, ?_, ?_, ?_, fun j hj => ?_⟩
  · rw [hc 14 (by omega), h22 3 (by omega)]; exact j1
  · rw [hc 14 (by omega), h22 5 (by omega)]; exact j2
  · rw [hc 15 (by omega), hr 25 (by omega)]; exact j3 j hj
  · rw [h22 3 (by omega), h22 5 (by omega)]; exact j4
  · rw [hc 0 (by omega), h22 13 (by omega)]; exact m1
  · rw [hc 0 (by omega), h22 14 (by omega)]; exact m2
  · rw [hc 16 (by omega), h22 15 (by omega)]; exact m3
  · rw [hc 17 (by omega), hr 31 (by omega)]; exact m4 j hj
theorem Cr.left {wc wr : Wo} {M : Nat → Int32} {on : Bool} (h : Cr wc wr M on) (x : Int32) : Cr (up2 wc 13 1 x) (up2 wr 22 7 x) M on := by
  obtain ⟨N, lf, W, n, P, h1, h2, h3, h4, h5, h6⟩ := h
  refine ⟨N, x, W, n, P, ⟨?_, up2_s _ _ _ _, ?_, fun d hd => ?_⟩, ⟨?_, up2_s _ _ _ _, ?_, fun d hd => ?_⟩, h3, h4, ?_, ?_⟩
  · rw [NC_congr (up2_c _ _ (by decide)) (up2_c _ _ (by decide))]; exact h1.1
  · rw [up2_i _ _ (by decide)]; exact h1.2.2.1
  · have := dc01 d
    rw [up2_c (d := dc d) _ _ (by omega), up2_c (d := dc d + 2) _ _ (by omega), up2_c (d := dc d + 3) _ _ (by omega), up2_c (d := dc d + 4) _ _ (by omega)]
    exact h1.2.2.2 d hd
  · rw [NR_congr (up2_c _ _ (by decide))]; exact h2.1
  · rw [up2_i _ _ (by decide)]; exact h2.2.2.1
  · rw [up2_c (d := 26) _ _ (by decide), up2_c (d := 27) _ _ (by decide), up2_c (d := 28) _ _ (by decide), up2_c (d := 29) _ _ (by decide), up2_c (d := 30) _ _ (by decide)]
    exact h2.2.2.2 d hd
  · rw [MC_congr (up2_c _ _ (by decide))]; exact h5
  · rw [MR_congr (up2_c _ _ (by decide))]; exact h6
theorem Cr.thr {wc wr : Wo} {M : Nat → Int32} {on : Bool} (h : Cr wc wr M on) (x : Int32) : Cr wc (up2 wr 22 0 x) M on := h.cong (fun c _ => rfl) (fun c hc => up2_c _ _ (by omega)) (up2_i _ _ (by decide)) (up2_i _ _ (by decide))
theorem cut28 (w : Wo) (x1 k : Int32) : bM_cutAfter_28 Lf w 22 x1 22 k = if k ≤ 0 then some (up2 (up2 w 22 0 k) 22 7 x1) else some (up2 (up2 w 22 0 k) 22 7 (w 22 7)) := by
  unfold bM_cutAfter_28 bM_cutAfter_47
  rw [pf22_0, bd, gi22_0, bd, up2_s, pf22_7, bd, gi22_7, bd, pf22_7, bd, up2_i _ _ (by decide)]
theorem up2_self (w : Wo) (c i : Nat) : up2 w c i (w c i) = w := by
  funext d j
  unfold up2
  by_cases hd : d = c
  · subst hd
    by_cases hj : j = i
    · subst hj; rw [if_pos rfl, if_pos rfl]
    · rw [if_pos rfl, if_neg hj]
  · rw [if_neg hd]
theorem cut28n (w : Wo) (x1 k : Int32) (hk : ¬ k ≤ 0) : bM_cutAfter_28 Lf w 22 x1 22 k = some (up2 w 22 0 k) := by
  rw [cut28, if_neg hk]
  have e := up2_self (up2 w 22 0 k) 22 7
  rw [up2_i _ _ (by decide)] at e
  rw [e]
theorem op_cutAfter {wc wr : Wo} {on : Bool} (h : Inv wc wr on) (x1 : Int32) : Rev wc wr (fL_cutAfter Lf wc 0 x1) (fM_cutAfter Lf wr 22 x1) := by
  have h0 := h
  obtain ⟨⟨M, hcr⟩, -⟩ := h0
  obtain ⟨eN, eM, hpi, hon, hoff⟩ := h.N
  unfold fL_cutAfter fG_cutAfter fM_cutAfter bM_cutAfter_12
  rw [isC0, gdt, isC22, gdt]
  by_cases h1 : x1 < -1
  · rw [if_pos h1, if_pos h1, bd]
    exact Rev.refused h (k := 1) rfl (cut28n _ _ _ (by decide +kernel))
  rw [if_neg h1, if_neg h1]
  by_cases h2 : x1 ≤ 100
  case neg =>
    rw [if_neg h2, if_neg h2, bd]
    exact Rev.refused h (k := 1) rfl (cut28n _ _ _ (by decide +kernel))
  rw [if_pos h2, if_pos h2, gr0_2, bd, gi13_0, bd, gi22_6, bd, hon, hoff, bI_if, bd, bI_if]
  cases on with
  | false =>
    refine Rev.refused h (k := 2) rfl ?_
    show bM_cutAfter_28 Lf wr 22 x1 22 2 = _
    exact cut28n _ _ _ (by decide +kernel)
  | true =>
    rw [if_pos rfl, if_neg (fun q => by cases q), pf13_1, bd, bd, cut28]
    dsimp only
    rw [if_pos rfl, if_pos (show (0 : Int32) ≤ 0 by decide +kernel)]
    refine ⟨_, _, 0, true, rfl, rfl, by rw [up2_i _ _ (by decide), up2_s], h.upd ⟨M, (hcr.thr 0).left x1⟩ (fun c hc => up2_c _ _ (by omega)) (fun c hc => by rw [up2_c _ _ (by omega), up2_c _ _ (by omega)]) (fun i hi => by rw [up2_i _ _ (by omega), up2_i _ _ (by omega)]), fun c hc _ => up2_c _ _ (by omega), fun c hc => by rw [up2_c _ _ (by omega), up2_c _ _ (by omega)]⟩

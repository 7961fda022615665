/-! one round of the law, and its run -/
theorem cml_self (x : Int32) : cml x x = 0 := by
  unfold cml lg_cmp
  rw [if_neg (Int64.lt_irrefl), if_pos rfl]
theorem thrown_e (w : Wo) : fM_thrown Lf w 22 = some (w, w 22 0) := by
  unfold fM_thrown
  rw [isC22, gdt, gi22_0, bd]
theorem Inv.second {w w1 : Wo} {on : Bool} (h : Inv w w on) (f : ∀ c, 22 ≤ c → c ≠ 34 → w1 c = w c) : Inv w w1 on := h.cong (fun c _ => rfl) (fun c h1 h2 => f c (by omega) (by omega)) (fun i _ _ => by rw [f 22 (by decide) (by decide)])
theorem Inv.both {w w1 : Wo} {on : Bool} (h : Inv w w1 on) (f : ∀ c, c < 22 ∨ 33 < c → w1 c = w c) : Inv w1 w1 on := h.cong (fun c hc => f c (Or.inl hc)) (fun c _ _ => rfl) (fun i _ _ => rfl)
theorem law_res {w : Wo} {on : Bool} (h : Inv w w on) {a : Option (Wo × Int32)} {fb : Wo → Option (Wo × Int32)} (op : ∀ wr, Inv w wr on → Res w wr a (fb wr)) : ∃ w1 k w2 r, a = some (w1, k) ∧ fb w1 = some (w2, r) ∧ w2 22 0 = k ∧ (k = 0 → w2 34 0 = r) ∧ ∃ on', Inv w2 w2 on' := by
  obtain ⟨w1, wx, k, rx, onx, e1, -, -, -, -, e6, -⟩ := op w h
  obtain ⟨w1', w2, k', r, on', g1, g2, g3, g4, g5, g6, g7⟩ := op w1 (h.second e6)
  rw [e1] at g1
  have q := Option.some.inj g1
  have q1 : w1 = w1' := congrArg Prod.fst q
  have q2 : k = k' := congrArg Prod.snd q
  subst q1
  subst q2
  exact ⟨w1, k, w2, r, e1, g2, g3, fun hk => by rw [g7 34 (Or.inr (by decide))]; exact g4 hk, on', g5.both g7⟩
theorem law_rev {w : Wo} {on : Bool} (h : Inv w w on) {a : Option (Wo × Int32)} {fb : Wo → Option Wo} (op : ∀ wr, Inv w wr on → Rev w wr a (fb wr)) : ∃ w1 k w2, a = some (w1, k) ∧ fb w1 = some w2 ∧ w2 22 0 = k ∧ ∃ on', Inv w2 w2 on' := by
  obtain ⟨w1, wx, k, onx, e1, -, -, -, e6, -⟩ := op w h
  obtain ⟨w1', w2, k', on', g1, g2, g3, g5, g6, g7⟩ := op w1 (h.second e6)
  rw [e1] at g1
  have q := Option.some.inj g1
  have q1 : w1 = w1' := congrArg Prod.fst q
  have q2 : k = k' := congrArg Prod.snd q
  subst q1
  subst q2
  exact ⟨w1, k, w2, e1, g2, g3, on', g5.both g7⟩
theorem law_re2 {w : Wo} {on : Bool} (h : Inv w w on) {a : Option (Wo × Int32)} {fb : Wo → Option (Wo × Int32)} (op : ∀ wr, Inv w wr on → Re2 w wr a (fb wr)) : ∃ w1 r w2, a = some (w1, r) ∧ fb w1 = some (w2, r) ∧ ∃ on', Inv w2 w2 on' := by
  obtain ⟨w1, wx, r, onx, e1, -, -, e6, -⟩ := op w h
  obtain ⟨w1', w2, r', on', g1, g2, g5, g6, g7⟩ := op w1 (h.second fun c hc _ => e6 c hc)
  rw [e1] at g1
  have q := Option.some.inj g1
  have q1 : w1 = w1' := congrArg Prod.fst q
  have q2 : r = r' := congrArg Prod.snd q
  subst q1
  subst q2
  exact ⟨w1, r, w2, e1, g2, on', g5.both g7⟩
theorem tail_res {xs : Nat → Int32} {L : Nat} {K : Wo → Int32 → Option Unit} {x4 : Int32} {w : Wo} {on : Bool} (h : Inv w w on) (hK : ∀ w', (∃ on', Inv w' w' on') → bL_law_1033 Lf xs L K w' x4 = some ()) {a : Option (Wo × Int32)} (fb : Wo → Option (Wo × Int32)) (op : ∀ wr, Inv w wr on → Res w wr a (fb wr)) : (a.bind fun q13 => (fb q13.1).bind fun q17 => (fM_thrown Lf q17.1 22).bind fun q18 => if q18.2 = q13.2 then (if q13.2 = 0 then ((ll Lf q18.1 34).bind fun v21 => if (cml v21 q17.2) = 0 then (bL_law_1033 Lf xs L K q18.1 x4) else (none)) else (bL_law_1033 Lf xs L K q18.1 x4)) else (none)) = some () := by
  obtain ⟨w1, k, w2, r, e1, e2, e3, e4, e5⟩ := law_res h op
  rw [e1, bd]
  dsimp only
  rw [e2, bd]
  dsimp only
  rw [thrown_e, bd]
  dsimp only
  rw [if_pos e3]
  by_cases hk : k = 0
  · rw [if_pos hk, ll_e, bd, e4 hk, cml_self, if_pos rfl]
    exact hK _ e5
  · rw [if_neg hk]
    exact hK _ e5
theorem tail_rev {xs : Nat → Int32} {L : Nat} {K : Wo → Int32 → Option Unit} {x4 : Int32} {w : Wo} {on : Bool} (h : Inv w w on) (hK : ∀ w', (∃ on', Inv w' w' on') → bL_law_1033 Lf xs L K w' x4 = some ()) {a : Option (Wo × Int32)} (fb : Wo → Option Wo) (op : ∀ wr, Inv w wr on → Rev w wr a (fb wr)) : (a.bind fun q13 => (fb q13.1).bind fun w17 => (fM_thrown Lf w17 22).bind fun q18 => if q18.2 = q13.2 then (bL_law_1033 Lf xs L K q18.1 x4) else (none)) = some () := by
  obtain ⟨w1, k, w2, e1, e2, e3, e5⟩ := law_rev h op
  rw [e1, bd]
  dsimp only
  rw [e2, bd, thrown_e, bd]
  dsimp only
  rw [if_pos e3]
  exact hK _ e5
theorem isRight_01 {w w' : Wo} {x1 x2 r : Int32} (h : fM_isRight Lf w 22 x1 x2 = some (w', r)) : r = 0 ∨ r = 1 := by
  have g : ∀ k x, bM_isRight_23 Lf w 22 x1 x2 22 k = some (w', x) → x = 0 ∨ x = 1 := by
    intro k x h
    unfold bM_isRight_23 at h
    rw [pf22_0, bd, gi22_0, bd] at h
    have z : ∀ (v : Wo) (y : Int32), (y = 0 ∨ y = 1) → zr v y = some (w', x) → x = 0 ∨ x = 1 := by
      intro v y hy e
      unfold zr at e
      rw [if_pos hy] at e
      have q : y = x := congrArg Prod.snd (Option.some.inj e)
      rw [← q]; exact hy
    by_cases hk : up2 w 22 0 k 22 0 = 0
    · rw [if_pos hk] at h
      cases e : fM_isRightPage Lf (up2 w 22 0 k) 22 x1 x2 with
      | none => rw [e] at h; cases h
      | some q =>
        rw [e, bd] at h
        by_cases hq : q.2 = 0
        · rw [if_pos hq] at h; exact z _ _ (Or.inl rfl) h
        · rw [if_neg hq] at h; exact z _ _ (Or.inr rfl) h
    · rw [if_neg hk] at h; exact z _ _ (Or.inl rfl) h
  unfold fM_isRight bM_isRight_18 at h
  rw [isC22, gdt, in_e, bd, bI_if, in_e, bd, bI_if] at h
  dsimp only at h
  by_cases h1 : inB x1 2 = true
  · rw [if_pos h1] at h
    by_cases h2 : inB x2 8 = true
    · rw [if_pos h2] at h; exact g _ _ h
    · rw [if_neg h2] at h; exact g _ _ h
  · rw [if_neg h1] at h; exact g _ _ h
theorem sx_n (xs : Nat → Int32) {L n : Nat} (hL : L ≤ 2560) (hn : n < L) : sx xs L (nI n) = some (xs n) := by
  unfold sx
  rw [nI_clamp (by omega), if_neg (by
    rintro (h | h)
    · exact nI_pos (by omega) h
    · omega)]
theorem law_end {L a : Nat} (hL : L ≤ 2560) (ha : a ≤ 2560) (h : ¬ (Int32.ofNat L - 5) < nI a) : a + 5 ≤ L := by
  by_cases h5 : 5 ≤ L
  · have e : Int32.ofNat L - 5 = nI (L - 5) := by
      have : Int32.ofNat L = nI (L - 5) + 5 := by
        rw [ad_5]
        show nI L = nI (L - 5 + 5)
        rw [Nat.sub_add_cancel h5]
      rw [this]
      exact Int32.add_sub_cancel _ _
    rw [e] at h
    have := mt (nI_ltI (a := L - 5) (b := a) (by omega) (by omega)).mpr h
    omega
  · exfalso
    apply h
    have : Int32.ofNat L - 5 < 0 := by
      have hL5 : L = 0 ∨ L = 1 ∨ L = 2 ∨ L = 3 ∨ L = 4 := by omega
      rcases hL5 with e | e | e | e | e <;> subst e <;> decide +kernel
    exact Int32.lt_of_lt_of_le this (nI_pos' (by omega))
theorem law_step (xs : Nat → Int32) {L a : Nat} (hL : L ≤ 2560) (ha : a ≤ 2560) {w : Wo} {on : Bool} (h : Inv w w on) (K : Wo → Int32 → Option Unit) (hK : a + 5 ≤ L → ∀ w', (∃ on', Inv w' w' on') → K w' (nI (a + 5)) = some ()) : bL_law_23s Lf xs L K w (nI a) = some () := by
  unfold bL_law_23s
  by_cases ht : (Int32.ofNat L - 5) < nI a
  · rw [if_pos ht]
  rw [if_neg ht]
  have hb := law_end hL ha ht
  have hK : ∀ w', (∃ on', Inv w' w' on') → bL_law_1033 Lf xs L K w' (nI a) = some () := fun w' hw => by
    unfold bL_law_1033
    rw [ad_5]
    exact hK hb w' hw
  have e1 : sx xs L (nI a + 1) = some (xs (a + 1)) := by rw [ad_1]; exact sx_n xs hL (by omega)
  have e2 : sx xs L (nI a + 2) = some (xs (a + 2)) := by rw [ad_2]; exact sx_n xs hL (by omega)
  have e3 : sx xs L (nI a + 3) = some (xs (a + 3)) := by rw [ad_3]; exact sx_n xs hL (by omega)
  have e4 : sx xs L (nI a + 4) = some (xs (a + 4)) := by rw [ad_4]; exact sx_n xs hL (by omega)
  rw [sx_n xs hL (by omega), bd]
  by_cases h0 : xs a &&& 15 = 0
  · rw [if_pos h0]
    simp only [e1, e2, e3, bd]
    exact tail_res h hK (fun z => fM_write Lf z 22 (xs (a + 1)) (xs (a + 2)) (xs (a + 3))) (fun wr g => op_write g _ _ _)
  rw [if_neg h0]
  by_cases h1 : xs a &&& 15 = 1
  · rw [if_pos h1]
    simp only [e1, e2, bd]
    exact tail_res h hK (fun z => fM_read Lf z 22 (xs (a + 1)) (xs (a + 2))) (fun wr g => op_read g _ _)
  rw [if_neg h1]
  by_cases h2 : xs a &&& 15 = 2
  · rw [if_pos h2]
    obtain ⟨w1, r, w2, g1, g2, g3⟩ := law_re2 h (a := fG_code Lf w 0) (fb := fun z => fM_code Lf z 22) (fun wr g => op_code g)
    have g2 : fM_code Lf w1 22 = some (w2, r) := g2
    rw [g1, bd]
    dsimp only
    rw [g2, bd, if_pos rfl]
    exact hK _ g3
  rw [if_neg h2]
  by_cases h3 : xs a &&& 15 = 3
  · rw [if_pos h3]
    simp only [e1, e2, e3, e4, bd]
    exact tail_rev h hK (fun z => fM_plan Lf z 22 (xs (a + 1)) (xs (a + 2)) (xs (a + 3)) (xs (a + 4))) (fun wr g => op_plan g _ _ _ _)
  rw [if_neg h3]
  by_cases h4 : xs a &&& 15 = 4
  · rw [if_pos h4]
    simp only [e1, bd]
    exact tail_rev h hK (fun z => fM_cutAfter Lf z 22 (xs (a + 1))) (fun wr g => op_cutAfter g _)
  rw [if_neg h4]
  by_cases h5 : xs a &&& 15 = 5
  · rw [if_pos h5]
    exact tail_res h hK (fun z => fM_start Lf z 22) (fun wr g => op_start g)
  rw [if_neg h5]
  by_cases h6 : xs a &&& 15 = 6
  · rw [if_pos h6]
    simp only [e1, bd]
    exact tail_res h hK (fun z => fM_scrub Lf z 22 (xs (a + 1))) (fun wr g => op_scrub g _)
  rw [if_neg h6]
  by_cases h7 : xs a &&& 15 = 7
  · rw [if_pos h7, e1, bd]
    have fin : ∀ s, ((fG_findings Lf w 0 s).bind fun q3 => bL_law_518 Lf xs L K q3.1 (nI a) q3.2 s) = some () := by
      intro s
      obtain ⟨w1, r, w2, g1, g2, g3⟩ := law_re2 h (a := fG_findings Lf w 0 s) (fb := fun z => fM_findings Lf z 22 s) (fun wr g => op_findings g s)
      have g2 : fM_findings Lf w1 22 s = some (w2, r) := g2
      rw [g1, bd]
      unfold bL_law_518
      dsimp only
      rw [g2, bd, if_pos rfl]
      exact hK _ g3
    unfold bL_law_500
    simp only [e1, bd]
    by_cases hz : xs (a + 1) = 0
    · simp only [if_pos hz]
      exact fin 0
    · simp only [if_neg hz]
      exact fin 1
  rw [if_neg h7]
  by_cases h8 : xs a &&& 15 = 8
  · rw [if_pos h8]
    simp only [e1, e2, bd]
    exact tail_res h hK (fun z => fM_finding Lf z 22 (xs (a + 1)) (xs (a + 2))) (fun wr g => op_finding g _ _)
  rw [if_neg h8]
  by_cases h9 : xs a &&& 15 = 9
  · rw [if_pos h9]
    simp only [e1, e2, bd]
    exact tail_res h hK (fun z => fM_expected Lf z 22 (xs (a + 1)) (xs (a + 2))) (fun wr g => op_expected g _ _)
  rw [if_neg h9]
  by_cases h10 : xs a &&& 15 = 10
  · rw [if_pos h10]
    simp only [e1, e2, bd]
    exact tail_res h hK (fun z => fM_verdict Lf z 22 (xs (a + 1)) (xs (a + 2))) (fun wr g => op_verdict g _ _)
  rw [if_neg h10]
  by_cases h11 : xs a &&& 15 = 11
  · rw [if_pos h11]
    simp only [e1, e2, bd]
    obtain ⟨w1, k, w2, r, g1, g2, g3, g4, g5⟩ := law_res h (a := fL_isRight Lf w 0 (xs (a + 1)) (xs (a + 2)) 34) (fb := fun z => fM_isRight Lf z 22 (xs (a + 1)) (xs (a + 2))) (fun wr g => op_isRight g _ _)
    have g2 : fM_isRight Lf w1 22 (xs (a + 1)) (xs (a + 2)) = some (w2, r) := g2
    rw [g1, bd]
    dsimp only
    rw [g2, bd]
    dsimp only
    rw [thrown_e, bd]
    dsimp only
    rw [if_pos g3]
    by_cases hk : k = 0
    · rw [if_pos hk, ll_e, bd, g4 hk]
      unfold bL_law_796
      rcases isRight_01 g2 with hr | hr
      · rw [if_pos hr, hr, cml_self, if_pos rfl]
        exact hK _ g5
      · rw [if_neg (by rw [hr]; decide +kernel), hr, cml_self, if_pos rfl]
        exact hK _ g5
    · rw [if_neg hk]
      exact hK _ g5
  rw [if_neg h11]
  by_cases h12 : xs a &&& 15 = 12
  · rw [if_pos h12]
    simp only [e1, e2, e3, bd]
    exact tail_res h hK (fun z => fM_raw Lf z 22 (xs (a + 1)) (xs (a + 2)) (xs (a + 3))) (fun wr g => op_raw g _ _ _)
  rw [if_neg h12]
  by_cases h13 : xs a &&& 15 = 13
  · rw [if_pos h13]
    simp only [e1, bd]
    exact tail_rev h hK (fun z => fM_replace Lf z 22 (xs (a + 1))) (fun wr g => op_replace g _)
  rw [if_neg h13]
  by_cases h14 : xs a &&& 15 = 14
  · rw [if_pos h14]
    simp only [e1, bd]
    exact tail_res h hK (fun z => fM_rebuild Lf z 22 (xs (a + 1))) (fun wr g => op_rebuild g _)
  rw [if_neg h14]
  by_cases h15 : xs a &&& 15 = 15
  · rw [if_pos h15]
    simp only [e1, bd]
    exact tail_res h hK (fun z => fM_count Lf z 22 (xs (a + 1))) (fun wr g => op_count g _)
  rw [if_neg h15]
  exact hK _ ⟨on, h⟩
theorem law_run (xs : Nat → Int32) {L : Nat} (hL : L ≤ 2560) : ∀ (j i : Nat) (w : Wo), 513 ≤ i + j → 5 * i ≤ 2560 → (∃ on, Inv w w on) → bL_law_23 Lf xs L (j + 1) w (nI (5 * i)) = some () := by
  intro j
  induction j with
  | zero => intro i w h1 h2; omega
  | succ j ih =>
    intro i w h1 h2 h3
    obtain ⟨on, h⟩ := h3
    show bL_law_23s Lf xs L (bL_law_23 Lf xs L (j + 1)) w (nI (5 * i)) = some ()
    exact law_step xs hL h2 h _ fun hb w' hw => ih (i + 1) w' (by omega) (by omega) hw
theorem law_all (xs : Nat → Int32) {L : Nat} (hL : L ≤ 2560) {w : Wo} {on : Bool} (h : Inv w w on) : bL_law_23 Lf xs L 600 w 0 = some () := law_run xs hL 599 0 w (by decide) (by decide) ⟨on, h⟩

/-! scrub: the run over blocks -/
theorem r64 {a : Nat} (h : a < 2 ^ 31) : nI a - nI a / (64 : Int32) * 64 = nI (a % 64) := pk_rem h (by decide) (by decide)
def FCk (w w' : Wo) : Prop := (∀ c, 14 ≤ c → c ≠ 16 → c ≠ 17 → c ≠ 18 → c ≠ 19 → c ≠ 20 → c ≠ 21 → w' c = w c) ∧ ∀ i, i ≠ 7 → w' 0 i = w 0 i
def FRk (w w' : Wo) : Prop := (∀ c, c ≠ 22 → c ≠ 23 → c ≠ 24 → c ≠ 26 → c ≠ 27 → c ≠ 28 → c ≠ 29 → c ≠ 30 → c ≠ 31 → c ≠ 32 → c ≠ 33 → w' c = w c) ∧ ∀ i, i ≠ 6 → i ≠ 7 → i ≠ 14 → i ≠ 15 → i ≠ 16 → w' 22 i = w 22 i
theorem FCk.refl (w : Wo) : FCk w w := ⟨fun c _ _ _ _ _ _ _ => rfl, fun i _ => rfl⟩
theorem FRk.refl (w : Wo) : FRk w w := ⟨fun c _ _ _ _ _ _ _ _ _ _ _ => rfl, fun i _ _ _ _ _ => rfl⟩
theorem FCk.trans {a b c : Wo} (h : FCk a b) (g : FCk b c) : FCk a c := ⟨fun x h1 h2 h3 h4 h5 h6 h7 => (g.1 x h1 h2 h3 h4 h5 h6 h7).trans (h.1 x h1 h2 h3 h4 h5 h6 h7), fun i hi => (g.2 i hi).trans (h.2 i hi)⟩
theorem FRk.trans {a b c : Wo} (h : FRk a b) (g : FRk b c) : FRk a c := ⟨fun x h1 h2 h3 h4 h5 h6 h7 h8 h9 h10 h11 => (g.1 x h1 h2 h3 h4 h5 h6 h7 h8 h9 h10 h11).trans (h.1 x h1 h2 h3 h4 h5 h6 h7 h8 h9 h10 h11), fun i h1 h2 h3 h4 h5 => (g.2 i h1 h2 h3 h4 h5).trans (h.2 i h1 h2 h3 h4 h5)⟩
theorem FCn.k {a b : Wo} (h : FCn a b) : FCk a b := ⟨fun c h1 h2 h3 h4 h5 h6 h7 => h c (Or.inr h1) h2 h3 h4 h5 h6 h7, fun i _ => by rw [h 0 (Or.inl rfl) (by decide) (by decide) (by decide) (by decide) (by decide) (by decide)]⟩
theorem FRn.k {a b : Wo} (h : FRn a b) : FRk a b := ⟨h.1, fun i h1 h2 _ h3 h4 => h.2 i h1 h2 h3 h4⟩
theorem scrub81 (w : Wo) (x : Int32) : bG_scrub_81 Lf w 0 x = some (w, 0, w 16 2 - x) := by
  unfold bG_scrub_81
  rw [gr0_4, bd, gi16_2, bd]
theorem scrub86 (w : Wo) : bM_scrub_86 Lf w 22 = some (w, w 22 16) := by
  unfold bM_scrub_86
  rw [gi22_16, bd]
theorem Tf.ans {t0 : Int32} {wc wr : Wo} (h : Tf t0 wc wr) : wc 16 2 - t0 = wr 22 16 := by
  rw [h.1]
  exact Int32.add_sub_cancel _ _
theorem scrub_l {t0 : Int32} {n : Nat} (hn : n ≤ 64) : ∀ (j i m : Nat) (wc wr : Wo) (M : Nat → Int32) (x : Nat), i + j = n → Cr wc wr M true → Tf t0 wc wr → wr 22 0 = 0 → x < 64 → wc 0 7 = nI x → wr 22 14 = nI x → ∃ wc' wr' M' on r, bG_scrub_46 Lf (m + (j + 1)) wc 0 (nI n) t0 (nI i) = some (wc', 0, r) ∧ bM_scrub_37 Lf (m + (j + 1)) wr 22 (nI n) (nI i) = some (wr', r) ∧ Cr wc' wr' M' on ∧ Tf t0 wc' wr' ∧ (∃ x', x' < 64 ∧ wc' 0 7 = nI x' ∧ wr' 22 14 = nI x') ∧ FCk wc wc' ∧ FRk wr wr' := by
  intro j
  induction j with
  | zero =>
    intro i m wc wr M x hi h ht h0 hx x1 x2
    have hi : i = n := by omega
    subst hi
    refine ⟨wc, wr, M, true, wr 22 16, ?_, ?_, h, ht, ⟨x, hx, x1, x2⟩, FCk.refl _, FRk.refl _⟩
    · show bG_scrub_46s Lf _ wc 0 (nI i) t0 (nI i) = _
      unfold bG_scrub_46s
      rw [if_pos (Int32.le_refl _), scrub81, ht.ans]
    · show bM_scrub_37s Lf _ wr 22 (nI i) (nI i) = _
      unfold bM_scrub_37s
      rw [if_pos (Int32.le_refl _), scrub86]
  | succ j ih =>
    intro i m wc wr M x hi h ht h0 hx x1 x2
    have hne : ¬ nI n ≤ nI i := by
      intro q
      have := (nI_leI (a := n) (b := i) (by omega) (by omega)).mp q
      omega
    have eC : bG_scrub_46 Lf (m + (j + 1 + 1)) wc 0 (nI n) t0 (nI i) = bG_scrub_46s Lf (bG_scrub_46 Lf (m + (j + 1))) wc 0 (nI n) t0 (nI i) := rfl
    have eR : bM_scrub_37 Lf (m + (j + 1 + 1)) wr 22 (nI n) (nI i) = bM_scrub_37s Lf (bM_scrub_37 Lf (m + (j + 1))) wr 22 (nI n) (nI i) := rfl
    obtain ⟨wc1, wr1, M1, t, e1, e2, e3, e4, e5, e6⟩ := block_p h ht hx
    rw [eC, eR]
    unfold bG_scrub_46s bM_scrub_37s
    rw [if_neg hne, if_neg hne, gi0_7, bd, x1, e1, bd, gi22_0, bd, h0, if_pos rfl, gi22_6, bd, h.on.2.1, if_pos (show bI (!true) = 0 from rfl), gi22_14, bd, x2, e2, bd]
    dsimp only
    rw [bI_if, bI_if]
    have y1 : wc1 0 7 = nI x := by rw [e5 0 (Or.inl rfl) (by decide) (by decide) (by decide) (by decide) (by decide) (by decide)]; exact x1
    have y2 : wr1 22 14 = nI x := by rw [e6.2 14 (by decide) (by decide) (by decide) (by decide)]; exact x2
    have y0 : wr1 22 0 = 0 := by rw [e6.2 0 (by decide) (by decide) (by decide) (by decide)]; exact h0
    cases t with
    | false =>
      rw [if_neg (by decide), if_neg (by decide), scrub81, e4.ans]
      refine ⟨wc1, wr1, M1, false, _, rfl, ?_, e3, e4, ⟨x, hx, y1, y2⟩, e5.k, e6.k⟩
      unfold bM_scrub_80
      rw [ad_1]
      show bM_scrub_37s Lf _ wr1 22 (nI n) (nI (i + 1)) = _
      unfold bM_scrub_37s
      by_cases hl : nI n ≤ nI (i + 1)
      · rw [if_pos hl, scrub86]
      · rw [if_neg hl, gi22_0, bd, y0, if_pos rfl, gi22_6, bd, e3.on.2.1, if_neg (by decide +kernel), scrub86]
    | true =>
      rw [if_pos rfl, if_pos rfl, gi0_7, bd, y1, ad_1, r64 (by omega), pf0_7, bd, gi22_14, bd, y2, ad_1, ad_1, r64 (by omega), pf22_14, bd]
      unfold bM_scrub_80
      rw [ad_1]
      have hx' : (x + 1) % 64 < 64 := Nat.mod_lt _ (by decide)
      obtain ⟨wc2, wr2, M2, on, r, g1, g2, g3, g4, g5, g6, g7⟩ := ih (i + 1) m (up2 wc1 0 7 (nI ((x + 1) % 64))) (up2 wr1 22 14 (nI ((x + 1) % 64))) M1 ((x + 1) % 64) (by omega) (e3.cong (fun c hc => up2_c _ _ (by omega)) (fun c hc => up2_c _ _ (by omega)) (up2_i _ _ (by decide)) (up2_i _ _ (by decide))) (by
        unfold Tf
        rw [up2_c (c := 0) (d := 16) _ _ (by decide), up2_c (c := 0) (d := 17) _ _ (by decide), up2_i (j := 16) _ _ (by decide), up2_i (j := 15) _ _ (by decide), up2_c (d := 31) _ _ (by decide)]
        exact e4) (by rw [up2_i _ _ (by decide)]; exact y0) hx' (up2_s _ _ _ _) (up2_s _ _ _ _)
      have f1 : FCk wc1 (up2 wc1 0 7 (nI ((x + 1) % 64))) := ⟨fun c k1 _ _ _ _ _ _ => up2_c _ _ (by omega), fun i hi => up2_i _ _ hi⟩
      have f2 : FRk wr1 (up2 wr1 22 14 (nI ((x + 1) % 64))) := ⟨fun c k1 _ _ _ _ _ _ _ _ _ _ => up2_c _ _ k1, fun i _ _ k1 _ _ => up2_i _ _ k1⟩
      exact ⟨wc2, wr2, M2, on, r, g1, g2, g3, g4, g5, (e5.k.trans f1).trans g6, (e6.k.trans f2).trans g7⟩
theorem scrub_ref (w : Wo) (x k : Int32) (hk : ¬ k = 0) : bM_scrub_27 Lf w 22 x 22 k = some (up2 (up2 w 22 0 k) 22 16 0, 0) := by
  unfold bM_scrub_27
  rw [pf22_0, bd, pf22_16, bd]
  show bM_scrub_37s Lf _ _ 22 _ _ = _
  unfold bM_scrub_37s
  rw [scrub86, up2_s]
  by_cases h : x ≤ 0
  · rw [if_pos h]
  · rw [if_neg h, gi22_0, bd, up2_i _ _ (by decide), up2_s, if_neg hk]
theorem Res.ref16 {wc wr : Wo} {on : Bool} (h : Inv wc wr on) {a b : Option (Wo × Int32)} {k : Int32} (hk : ¬ k = 0) (e1 : a = some (wc, k)) (e2 : b = some (up2 (up2 wr 22 0 k) 22 16 0, 0)) : Res wc wr a b :=
  ⟨wc, _, k, 0, on, e1, e2, by rw [up2_i _ _ (by decide), up2_s], fun q => absurd q hk, h.cong (fun c _ => rfl) (fun c h1 h2 => by rw [up2_c _ _ (by omega), up2_c _ _ (by omega)]) (fun i h1 h2 => by rw [up2_i _ _ h2, up2_i _ _ h1]), fun c _ _ => rfl, fun c hc => by rw [up2_c _ _ (by omega), up2_c _ _ (by omega)]⟩
theorem op_scrub {wc wr : Wo} {on : Bool} (h : Inv wc wr on) (x1 : Int32) : Res wc wr (fL_scrub Lf wc 0 x1 34) (fM_scrub Lf wr 22 x1) := by
  obtain ⟨eN, eM, hpi, hon, hoff⟩ := h.N
  have hk1 : ¬ (1 : Int32) = 0 := by decide +kernel
  have hk2 : ¬ (2 : Int32) = 0 := by decide +kernel
  unfold fL_scrub fG_scrub fM_scrub
  rw [isC0, gdt, isC22, gdt, gr0_2, bd, gi13_0, bd, gi22_6, bd, hon, hoff, bI_if, bI_if]
  cases on with
  | false =>
    rw [if_neg (by decide), if_pos (show (!false) = true from rfl)]
    exact Res.ref16 h hk1 rfl (scrub_ref _ _ _ hk1)
  | true =>
    rw [if_pos rfl, if_neg (show ¬ (!true) = true by decide)]
    by_cases hx0 : x1 < 0
    · rw [if_pos hx0, if_pos hx0]
      exact Res.ref16 h hk2 rfl (scrub_ref _ _ _ hk2)
    rw [if_neg hx0, if_neg hx0]
    by_cases hx : x1 ≤ 64
    case neg =>
      rw [if_neg hx, if_neg hx]
      exact Res.ref16 h hk2 rfl (scrub_ref _ _ _ hk2)
    rw [if_pos hx, if_pos hx]
    obtain ⟨n, hn, rfl⟩ : ∃ n, n < 65 ∧ x1 = nI n := by
      rcases pk_ix x1 (n := 65) (by decide) with g | g | g
      · exact absurd g hx0
      · exact absurd (Int32.le_trans g hx) (by decide +kernel)
      · exact g
    unfold bM_scrub_27
    rw [pf22_0, bd, pf22_16, bd, gr0_4, bd, gi16_2, bd]
    have h0 := h
    obtain ⟨⟨M, hcr⟩, ⟨j1, j2, j3, j4⟩, m1, ⟨x, hx64, mx1, mx2⟩, m3, m4⟩ := h0
    have hcrA : Cr wc (up2 (up2 wr 22 0 0) 22 16 0) M true := hcr.cong (fun c _ => rfl) (fun c hc => by rw [up2_c _ _ (by omega), up2_c _ _ (by omega)]) (by rw [up2_i _ _ (by decide), up2_i _ _ (by decide)]) (by rw [up2_i _ _ (by decide), up2_i _ _ (by decide)])
    have htA : Tf (wc 16 2) wc (up2 (up2 wr 22 0 0) 22 16 0) := by
      refine ⟨?_, ?_, fun j hj => ?_⟩
      · rw [up2_s]; exact (Int32.zero_add _).symm
      · rw [up2_i _ _ (by decide), up2_i _ _ (by decide)]; exact m3
      · rw [up2_c _ _ (by decide), up2_c _ _ (by decide)]; exact m4 j hj
    obtain ⟨wc', wr', M', on, r, g1, g2, g3, g4, g5, g6, g7⟩ := scrub_l (n := n) (by omega) n 0 (999 - n) wc (up2 (up2 wr 22 0 0) 22 16 0) M x (by omega) hcrA htA (by rw [up2_i _ _ (by decide), up2_s]) hx64 mx1 (by rw [up2_i _ _ (by decide), up2_i _ _ (by decide)]; exact mx2)
    rw [show 999 - n + (n + 1) = 1000 by omega] at g1 g2
    have g1' : bG_scrub_46 Lf 1000 wc 0 (nI n) (wc 16 2) 0 = some (wc', 0, r) := g1
    have g2' : bM_scrub_37 Lf 1000 (up2 (up2 wr 22 0 0) 22 16 0) 22 (nI n) 0 = some (wr', r) := g2
    rw [g1', g2', bd]
    dsimp only
    rw [if_pos rfl, sl_e, bd]
    have k22 : ∀ i, i ≠ 0 → i ≠ 6 → i ≠ 7 → i ≠ 14 → i ≠ 15 → i ≠ 16 → wr' 22 i = wr 22 i := fun i q0 q1 q2 q3 q4 q5 => by rw [g7.2 i q1 q2 q3 q4 q5, up2_i _ _ q5, up2_i _ _ q0]
    have kc : ∀ c, c = 14 ∨ c = 15 → wc' c = wc c := fun c hc => g6.1 c (by omega) (by omega) (by omega) (by omega) (by omega) (by omega) (by omega)
    have kr : ∀ c, c < 22 ∨ c = 25 ∨ 33 < c → wr' c = wr c := fun c hc => by rw [g7.1 c (by omega) (by omega) (by omega) (by omega) (by omega) (by omega) (by omega) (by omega) (by omega) (by omega) (by omega), up2_c _ _ (by omega), up2_c _ _ (by omega)]
    have hi : Inv wc' wr' on := by
      refine ⟨⟨M', g3⟩, ⟨?_, ?_, fun j hj => ?_, ?_⟩, ?_, g5, g4.2.1, g4.2.2⟩
      · rw [kc 14 (by decide), k22 3 (by decide) (by decide) (by decide) (by decide) (by decide) (by decide)]; exact j1
      · rw [kc 14 (by decide), k22 5 (by decide) (by decide) (by decide) (by decide) (by decide) (by decide)]; exact j2
      · rw [kc 15 (by decide), kr 25 (by decide)]; exact j3 j hj
      · rw [k22 3 (by decide) (by decide) (by decide) (by decide) (by decide) (by decide), k22 5 (by decide) (by decide) (by decide) (by decide) (by decide) (by decide)]; exact j4
      · rw [g6.2 6 (by decide), k22 13 (by decide) (by decide) (by decide) (by decide) (by decide) (by decide)]; exact m1
    refine ⟨_, _, 0, r, on, rfl, rfl, by rw [g7.2 0 (by decide) (by decide) (by decide) (by decide) (by decide), up2_i _ _ (by decide), up2_s], fun _ => up2_s _ _ _ _, hi.cong (fun c hc => up2_c _ _ (by omega)) (fun c _ _ => rfl) (fun i _ _ => rfl), fun c k1 k2 => by rw [up2_c _ _ k2, g6.1 c (by omega) (by omega) (by omega) (by omega) (by omega) (by omega) (by omega)], fun c hc => kr c (by omega)⟩

/-! the reference's constructor, and what both leave -/
abbrev Lr : La := (34, nulL [(22, 19), (22, 18), (22, 17), (22, 12), (22, 11), (22, 10), (22, 9), (22, 8), (22, 4), (22, 2), (22, 1), (0, 10), (0, 9), (0, 8), (0, 5), (0, 4), (16, 0), (0, 3), (14, 0), (0, 2), (0, 1), (7, 3), (7, 2), (7, 1), (7, 0), (0, 0), (1, 3), (1, 2), (1, 1), (1, 0)])
theorem grR : gr Lr 22 5 1 = some 23 := by decide +kernel
theorem isCR : isC Lr 22 5 = true := by decide +kernel
theorem sumAt_R : ∀ (n : Nat) (w : Wo) (x1 x2 x3 : Int32), bM_sumAt_4 Lr n w 22 x1 x2 x3 = bM_sumAt_4 Lf n w 22 x1 x2 x3 := by
  intro n
  induction n with
  | zero => intro w x1 x2 x3; rfl
  | succ n ih =>
    intro w x1 x2 x3
    have l : ∀ (v : Wo) (i : Int32), ld Lr v 23 i = ld Lf v 23 i := fun v i => ld_L (by decide) (by decide) v i
    have mx : ∀ (v : Wo) (s x : Int32), fM_mix Lr v s x = fM_mix Lf v s x := fun v s x => rfl
    show bM_sumAt_4s Lr (bM_sumAt_4 Lr n) w 22 x1 x2 x3 = bM_sumAt_4s Lf (bM_sumAt_4 Lf n) w 22 x1 x2 x3
    unfold bM_sumAt_4s
    rw [grR, gr22_1]
    simp only [bd, l, mx, ih]
def Qr (w : Wo) (d s : Nat) (w' : Wo) : Prop := (∀ c, c ≠ 23 → w' c = w c) ∧ (∀ j, j < 11 * (72 * d + s) → w' 23 j = r0 ((j / 11) % 72) (j % 11)) ∧ ∀ j, 11 * (72 * d + s) ≤ j → w' 23 j = 0
theorem row_l (w : Wo) {d : Nat} (hd : d < 2) (K : Wo → Nat → Int32 → Option Wo) : ∀ (j s m : Nat) (w' : Wo), s + j = 72 → Qr w d s w' → ∃ w'', bM_init_111 Lr K (m + (j + 1)) w' 22 (nI d) (nI s) = K w'' 22 (nI (d + 1)) ∧ Qr w (d + 1) 0 w'' := by
  intro j
  induction j with
  | zero =>
    intro s m w' hs h
    have hs : s = 72 := by omega
    subst hs
    refine ⟨w', ?_, h.1, fun j hj => h.2.1 j (by omega), fun j hj => h.2.2 j (by omega)⟩
    show bM_init_111s Lr K _ w' 22 (nI d) (nI 72) = _
    unfold bM_init_111s
    rw [if_pos (by rw [le_72 (by decide)]; omega), ad_1]
  | succ j ih =>
    intro s m w' hs h
    have hs2 : s < 72 := by omega
    obtain ⟨p1, p2, p3⟩ := h
    obtain ⟨a, ha⟩ : ∃ z, z = 11 * (72 * d + s) := ⟨_, rfl⟩
    rw [← ha] at p2 p3
    obtain ⟨w2, hw2⟩ : ∃ z, z = up2 w' 23 (a + 9) (nI s) := ⟨_, rfl⟩
    have s2 : fM_sumAt Lr w2 22 (nI a) = some (w2, r0 s 8) := by
      unfold fM_sumAt
      rw [isCR, gdt, sumAt_R]
      have e := sumAt_e w2 a (by omega)
      unfold fM_sumAt at e
      rw [isC22, gdt] at e
      refine Eq.trans e ?_
      rw [sm_r0 (s := s) (fun i h8 h9 => by rw [hw2, up2_i _ _ (by omega)]; exact p3 _ (by omega)) (by rw [hw2, up2_s])]
    have pl : ∀ v, fM_place Lr v (nI d) (nI s) = some (v, nI a) := fun v => by rw [ha]; exact place_e v d s
    have e : bM_init_111 Lr K (m + (j + 1 + 1)) w' 22 (nI d) (nI s) = bM_init_111 Lr K (m + (j + 1)) (up2 w2 23 (a + 8) (r0 s 8)) 22 (nI d) (nI (s + 1)) := by
      show bM_init_111s Lr K _ w' 22 (nI d) (nI s) = _
      unfold bM_init_111s
      rw [if_neg (by rw [le_72 (by omega)]; omega), grR, bd, pl, bd]
      dsimp only
      rw [ad_9, st_L (by decide) (by decide), st23 _ _ (by omega), bd, ← hw2, bd, pl, bd, pl, bd]
      dsimp only
      rw [s2, bd]
      dsimp only
      rw [ad_8, st_L (by decide) (by decide), st23 _ _ (by omega), bd, ad_1]
      rfl
    rw [e]
    refine ih (s + 1) m _ (by omega) ⟨fun c hc => ?_, fun j hj => ?_, fun j hj => ?_⟩
    · rw [up2_c _ _ hc, hw2, up2_c _ _ hc]; exact p1 c hc
    · by_cases h8 : j = a + 8
      · subst h8
        rw [up2_s, show (a + 8) % 11 = 8 by omega, show (a + 8) / 11 % 72 = s by omega]
      rw [up2_i _ _ h8, hw2]
      by_cases h9 : j = a + 9
      · subst h9
        rw [up2_s, show (a + 9) % 11 = 9 by omega, show (a + 9) / 11 % 72 = s by omega, r0_9]
      rw [up2_i _ _ h9]
      by_cases hj2 : j < a
      · exact p2 j hj2
      · rw [r0_0 _ (by omega) (by omega)]
        exact p3 j (by omega)
    · rw [up2_i _ _ (by omega), hw2, up2_i _ _ (by omega)]
      exact p3 j (by omega)
theorem rows_e (w : Wo) (h : ∀ j, w 23 j = 0) : ∃ w', bM_init_104 Lr 1000 w 22 0 = some w' ∧ (∀ c, c ≠ 23 → w' c = w c) ∧ ∀ j, j < 1584 → w' 23 j = r0 ((j / 11) % 72) (j % 11) := by
  obtain ⟨w1, e1, q1⟩ := row_l w (d := 0) (by omega) (bM_init_104 Lr 999) 72 0 927 w rfl ⟨fun c _ => rfl, fun j hj => by omega, fun j _ => h j⟩
  obtain ⟨w2, e2, q2⟩ := row_l w (d := 1) (by omega) (bM_init_104 Lr 998) 72 0 927 w1 rfl q1
  refine ⟨w2, ?_, q2.1, fun j hj => q2.2.1 j (by omega)⟩
  show bM_init_104s Lr (bM_init_104 Lr 999) w 22 (nI 0) = _
  unfold bM_init_104s
  rw [if_neg (by rw [le_2 (by decide)]; omega)]
  refine Eq.trans e1 ?_
  show bM_init_104s Lr (bM_init_104 Lr 998) w1 22 (nI 1) = _
  unfold bM_init_104s
  rw [if_neg (by rw [le_2 (by decide)]; omega)]
  refine Eq.trans e2 ?_
  show bM_init_104s Lr (bM_init_104 Lr 997) w2 22 (nI 2) = _
  unfold bM_init_104s
  rw [if_pos (by rw [le_2 (by decide)]; omega)]
theorem fM_init22_e (w : Wo) (hz : ∀ c, 14 < c → w c = fun _ => 0) : ∃ w', fM_init22 w = some w' ∧ (∀ c, c ≠ 22 → c ≠ 23 → w' c = w c) ∧ w' 22 3 = -1 ∧ w' 22 7 = -1 ∧ (∀ i, i ≠ 3 → i ≠ 7 → w' 22 i = 0) ∧ ∀ j, j < 1584 → w' 23 j = r0 ((j / 11) % 72) (j % 11) := by
  obtain ⟨w3, h3⟩ : ∃ z, z = up2 w 22 3 (-1) := ⟨_, rfl⟩
  obtain ⟨w5, h5⟩ : ∃ z, z = up2 w3 22 7 (-1) := ⟨_, rfl⟩
  have z3 : ∀ c, 22 < c → w3 c = fun _ => 0 := fun c hc => by rw [h3, up2_c _ _ (by omega)]; exact hz c (by omega)
  have z5 : ∀ c, 22 < c → w5 c = fun _ => 0 := fun c hc => by rw [h5, up2_c _ _ (by omega)]; exact z3 c hc
  obtain ⟨w', e1, e2, e3⟩ := rows_e w5 (fun j => by rw [z5 23 (by decide)])
  refine ⟨w', ?_, fun c k1 k2 => by rw [e2 c k2, h5, up2_c _ _ k1, h3, up2_c _ _ k1], by rw [e2 22 (by decide), h5, up2_i _ _ (by decide), h3, up2_s], by rw [e2 22 (by decide), h5, up2_s], fun i k1 k2 => by rw [e2 22 (by decide), h5, up2_i _ _ k2, h3, up2_i _ _ k1, hz 22 (by decide)], e3⟩
  unfold fM_init22
  rw [czb (by exact hz _ (by decide)), czb (by exact hz _ (by decide)), pfb (by decide +kernel), bd, ← h3, czb (by exact z3 25 (by decide)), pfb (by decide +kernel), bd, ← h5, czb (by exact z5 26 (by decide)), czb (by exact z5 27 (by decide)), czb (by exact z5 28 (by decide)), czb (by exact z5 29 (by decide)), czb (by exact z5 30 (by decide)), czb (by exact z5 31 (by decide)), czb (by exact z5 32 (by decide)), czb (by exact z5 33 (by decide))]
  exact e1
theorem init_inv {w : Wo} (z0 : ∀ i, w 0 i = 0) (z1 : ∀ i, w 1 i = 0) (z7 : ∀ i, w 7 i = 0) (n2 : ∀ j, j < 792 → w 2 j = r0 (j / 11) (j % 11)) (n8 : ∀ j, j < 792 → w 8 j = r0 (j / 11) (j % 11)) (on : w 13 0 = 1) (lf : w 13 1 = -1) (j1 : w 14 1 = -1) (j2 : w 14 2 = 0) (zz : ∀ c, 14 < c → c ≠ 22 → c ≠ 23 → w c = fun _ => 0) (r3 : w 22 3 = -1) (r7 : w 22 7 = -1) (rz : ∀ i, i ≠ 3 → i ≠ 7 → w 22 i = 0) (rr : ∀ j, j < 1584 → w 23 j = r0 ((j / 11) % 72) (j % 11)) : Inv w w true := by
  have hNC : ∀ d j, d < 2 → j < 792 → NC w d j = r0 (j / 11) (j % 11) := by
    intro d j hd hj
    unfold NC
    rw [if_pos ⟨hd, hj⟩]
    rcases (show d = 0 ∨ d = 1 by omega) with rfl | rfl
    · exact n2 j hj
    · exact n8 j hj
  have hNR : NR w = NC w := by
    funext d j
    by_cases h : d < 2 ∧ j < 792
    · rw [hNC d j h.1 h.2]
      unfold NR
      rw [if_pos h, rr _ (by omega), show (792 * d + j) / 11 % 72 = j / 11 by omega, show (792 * d + j) % 11 = j % 11 by omega]
    · unfold NR NC
      rw [if_neg h, if_neg h]
  have hMR : MR w = MC w := by
    unfold MR MC
    rw [zz 18 (by decide) (by decide) (by decide), zz 24 (by decide) (by decide) (by decide)]
  have rep : ∀ a b c, Rep 0 a b c (fun _ => none) := fun a b c => ⟨by decide, fun i hi => by omega, fun t q h => (by cases h), fun i j hi => by omega⟩
  refine ⟨⟨MC w, NC w, -1, fun _ => 0, fun _ => 0, fun _ _ => none, ⟨rfl, lf, on, fun d hd => ?_⟩, ⟨hNR, r7, rz 6 (by decide) (by decide), fun d hd => ?_⟩, fun d _ t k x h => (by cases h), fun d p hd hp _ k hk => ?_, rfl, hMR⟩, ⟨?_, ?_, fun j _ => ?_, Or.inl r3⟩, ?_, ⟨0, by decide, ?_, ?_⟩, ⟨0, by decide, ?_, ?_⟩, fun j _ => ?_⟩
  · rcases (show d = 0 ∨ d = 1 by omega) with rfl | rfl
    · exact ⟨z1 5, z1 4, rep _ _ _⟩
    · exact ⟨z7 5, z7 4, rep _ _ _⟩
  · rw [zz 26 (by decide) (by decide) (by decide), zz 27 (by decide) (by decide) (by decide)]
    exact ⟨rfl, rfl, rep _ _ _⟩
  · refine ⟨0, by decide, ?_⟩
    rw [hNC d _ hd (by omega)]
    exact r0_0 _ (by omega) (by omega)
  · rw [j1, r3]
  · rw [j2, rz 5 (by decide) (by decide)]
  · rw [zz 15 (by decide) (by decide) (by decide), zz 25 (by decide) (by decide) (by decide)]
  · rw [z0, rz 13 (by decide) (by decide)]
  · exact z0 7
  · exact rz 14 (by decide) (by decide)
  · rw [zz 16 (by decide) (by decide) (by decide)]; rfl
  · exact rz 15 (by decide) (by decide)
  · rw [zz 17 (by decide) (by decide) (by decide), zz 31 (by decide) (by decide) (by decide)]

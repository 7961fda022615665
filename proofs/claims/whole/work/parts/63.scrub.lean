/-! scrub, class and reference side by side -/
def FCn (w w' : Wo) : Prop := ∀ c, c = 0 ∨ 14 ≤ c → c ≠ 16 → c ≠ 17 → c ≠ 18 → c ≠ 19 → c ≠ 20 → c ≠ 21 → w' c = w c
def FRn (w w' : Wo) : Prop := (∀ c, c ≠ 22 → c ≠ 23 → c ≠ 24 → c ≠ 26 → c ≠ 27 → c ≠ 28 → c ≠ 29 → c ≠ 30 → c ≠ 31 → c ≠ 32 → c ≠ 33 → w' c = w c) ∧ ∀ i, i ≠ 6 → i ≠ 7 → i ≠ 15 → i ≠ 16 → w' 22 i = w 22 i
theorem FCn.refl (w : Wo) : FCn w w := fun c _ _ _ _ _ _ _ => rfl
theorem FRn.refl (w : Wo) : FRn w w := ⟨fun c _ _ _ _ _ _ _ _ _ _ _ => rfl, fun i _ _ _ _ => rfl⟩
theorem FCn.trans {a b c : Wo} (h : FCn a b) (g : FCn b c) : FCn a c := fun x h1 h2 h3 h4 h5 h6 h7 => (g x h1 h2 h3 h4 h5 h6 h7).trans (h x h1 h2 h3 h4 h5 h6 h7)
theorem FRn.trans {a b c : Wo} (h : FRn a b) (g : FRn b c) : FRn a c := ⟨fun x h1 h2 h3 h4 h5 h6 h7 h8 h9 h10 h11 => (g.1 x h1 h2 h3 h4 h5 h6 h7 h8 h9 h10 h11).trans (h.1 x h1 h2 h3 h4 h5 h6 h7 h8 h9 h10 h11), fun i h1 h2 h3 h4 => (g.2 i h1 h2 h3 h4).trans (h.2 i h1 h2 h3 h4)⟩
theorem FCb.n {a b : Wo} (h : FCb a b) : FCn a b := fun c h1 _ _ h2 h3 h4 h5 => h c h1 h2 h3 h4 h5
theorem FRb.n {a b : Wo} (h : FRb a b) : FRn a b := ⟨fun c h1 h2 h3 h4 h5 h6 h7 h8 _ h9 h10 => h.1 c h1 h2 h3 h4 h5 h6 h7 h8 h9 h10, fun i h1 h2 _ _ => h.2 i h1 h2⟩
/-- the findings agree, and so does what was told since `t0` -/
def Tf (t0 : Int32) (wc wr : Wo) : Prop := wc 16 2 = wr 22 16 + t0 ∧ (∃ k, k ≤ 100 ∧ wc 16 1 = nI k ∧ wr 22 15 = nI k) ∧ ∀ j, j < 400 → wc 17 j = wr 31 j
theorem Tf.b {t0 : Int32} {wc wr wc' wr' : Wo} (h : Tf t0 wc wr) (hc : FCb wc wc') (hr : FRb wr wr') : Tf t0 wc' wr' := by
  unfold Tf
  rw [hc 16 (by decide) (by decide) (by decide) (by decide) (by decide), hc 17 (by decide) (by decide) (by decide) (by decide) (by decide), hr.2 16 (by decide) (by decide), hr.2 15 (by decide) (by decide), hr.1 31 (by decide) (by decide) (by decide) (by decide) (by decide) (by decide) (by decide) (by decide) (by decide) (by decide)]
  exact h
theorem i_rot (f t : Int32) : f + t + 1 = f + 1 + t := by
  rw [Int32.add_assoc, Int32.add_comm t 1, ← Int32.add_assoc]
theorem tell_p {t0 : Int32} {wc wr : Wo} (h : Tf t0 wc wr) (x1 x2 x3 x4 : Int32) : ∃ wc' wr', fF_tell Lf wc 16 x1 x2 x3 x4 = some wc' ∧ fM_find Lf wr 22 x1 x2 x3 x4 = some wr' ∧ Tf t0 wc' wr' ∧ (∀ c, c ≠ 16 → c ≠ 17 → wc' c = wc c) ∧ (∀ c, c ≠ 22 → c ≠ 31 → wr' c = wr c) ∧ ∀ i, i ≠ 15 → i ≠ 16 → wr' 22 i = wr 22 i := by
  obtain ⟨h1, ⟨k, hk, h2, h3⟩, h4⟩ := h
  by_cases hk1 : k = 100
  · have eC : fF_tell Lf wc 16 x1 x2 x3 x4 = some (up2 wc 16 2 (wr 22 16 + 1 + t0)) := by
      unfold fF_tell
      rw [isC16, gdt, gi16_2, bd, pf16_2, bd, gi16_1]
      simp only [bd]
      rw [up2_i _ _ (show 1 ≠ 2 by decide), h2, h1, i_rot, if_pos (by rw [eq_100 (by omega)]; exact hk1)]
    have eR : fM_find Lf wr 22 x1 x2 x3 x4 = some (up2 wr 22 16 (wr 22 16 + 1)) := by
      unfold fM_find
      rw [isC22, gdt, gi22_16, bd, pf22_16, bd, gi22_15]
      simp only [bd]
      rw [up2_i _ _ (show 15 ≠ 16 by decide), h3, if_pos (by rw [le_100 (by omega)]; omega)]
    rw [eC, eR]
    refine ⟨_, _, rfl, rfl, ⟨?_, ⟨k, hk, ?_, ?_⟩, fun j hj => ?_⟩, fun c k1 k2 => up2_c _ _ k1, fun c k1 k2 => up2_c _ _ k1, fun i k1 k2 => up2_i _ _ k2⟩
    · rw [up2_s, up2_s]
    · rw [up2_i _ _ (by decide)]; exact h2
    · rw [up2_i _ _ (by decide)]; exact h3
    · rw [up2_c _ _ (by decide), up2_c _ _ (by decide)]; exact h4 j hj
  · have hk2 : k < 100 := by omega
    have eC : fF_tell Lf wc 16 x1 x2 x3 x4 = some (up2 (up2 (up2 (up2 (up2 (up2 wc 16 2 (wr 22 16 + 1 + t0)) 17 (4 * k) x1) 17 (4 * k + 1) x2) 17 (4 * k + 2) x3) 17 (4 * k + 3) x4) 16 1 (nI (k + 1))) := by
      unfold fF_tell
      rw [isC16, gdt, gi16_2, bd, pf16_2, bd, gi16_1]
      simp only [bd]
      rw [up2_i _ _ (show 1 ≠ 2 by decide), h2, h1, i_rot, if_neg (by rw [eq_100 (by omega)]; exact hk1), gr16_0, um_4, Nat.mul_comm k 4, ad_1, ad_2, ad_3]
      simp only [bd]
      rw [st17 _ _ (by omega), bd, st17 _ _ (by omega), bd, st17 _ _ (by omega), bd, st17 _ _ (by omega), bd, gi16_1, bd, pf16_1, bd, up2_c _ _ (by decide), up2_c _ _ (by decide), up2_c _ _ (by decide), up2_c _ _ (by decide), up2_i _ _ (show 1 ≠ 2 by decide), h2, ad_1]
    have eR : fM_find Lf wr 22 x1 x2 x3 x4 = some (up2 (up2 (up2 (up2 (up2 (up2 wr 22 16 (wr 22 16 + 1)) 31 (4 * k) x1) 31 (4 * k + 1) x2) 31 (4 * k + 2) x3) 31 (4 * k + 3) x4) 22 15 (nI (k + 1))) := by
      have u : ∀ (w : Wo) (i : Nat) (x : Int32), gi Lf (up2 w 31 i x) 22 5 15 = some (w 22 15) := fun w i x => by rw [gi22_15, up2_c _ _ (by decide)]
      have z : up2 wr 22 16 (wr 22 16 + 1) 22 15 = nI k := by rw [up2_i _ _ (by decide)]; exact h3
      unfold fM_find
      rw [isC22, gdt, gi22_16, bd, pf22_16, bd, gi22_15, z, gr22_17]
      simp only [bd]
      rw [if_neg (by rw [le_100 (by omega)]; omega), mu_4, st31 _ _ (by omega), bd, u, bd, z, mu_4, ad_1, st31 _ _ (by omega), bd, u, bd, up2_c (d := 22) (c := 31) _ _ (by decide), z, mu_4, ad_2, st31 _ _ (by omega), bd, u, bd, up2_c (d := 22) (c := 31) _ _ (by decide), up2_c (d := 22) (c := 31) _ _ (by decide), z, mu_4, ad_3, st31 _ _ (by omega), bd, u, bd, up2_c (d := 22) (c := 31) _ _ (by decide), up2_c (d := 22) (c := 31) _ _ (by decide), up2_c (d := 22) (c := 31) _ _ (by decide), z, pf22_15, bd, ad_1]
    rw [eC, eR]
    refine ⟨_, _, rfl, rfl, ⟨?_, ⟨k + 1, by omega, ?_, ?_⟩, fun j hj => ?_⟩, fun c k1 k2 => ?_, fun c k1 k2 => ?_, fun i k1 k2 => ?_⟩
    · rw [up2_i _ _ (show 2 ≠ 1 by decide), up2_c _ _ (by decide), up2_c _ _ (by decide), up2_c _ _ (by decide), up2_c _ _ (by decide), up2_s, up2_i _ _ (show 16 ≠ 15 by decide), up2_c _ _ (by decide), up2_c _ _ (by decide), up2_c _ _ (by decide), up2_c _ _ (by decide), up2_s]
    · rw [up2_s]
    · rw [up2_s]
    · rw [up2_c (c := 16) (d := 17) _ _ (by decide), up2_c (c := 22) (d := 31) _ _ (by decide)]
      by_cases e3 : j = 4 * k + 3
      · subst e3; rw [up2_s, up2_s]
      rw [up2_i _ _ e3, up2_i _ _ e3]
      by_cases e2 : j = 4 * k + 2
      · subst e2; rw [up2_s, up2_s]
      rw [up2_i _ _ e2, up2_i _ _ e2]
      by_cases e1 : j = 4 * k + 1
      · subst e1; rw [up2_s, up2_s]
      rw [up2_i _ _ e1, up2_i _ _ e1]
      by_cases e0 : j = 4 * k
      · subst e0; rw [up2_s, up2_s]
      rw [up2_i _ _ e0, up2_i _ _ e0, up2_c _ _ (by decide), up2_c _ _ (by decide)]
      exact h4 j hj
    · rw [up2_c _ _ k1, up2_c _ _ k2, up2_c _ _ k2, up2_c _ _ k2, up2_c _ _ k2, up2_c _ _ k1]
    · rw [up2_c _ _ k1, up2_c _ _ k2, up2_c _ _ k2, up2_c _ _ k2, up2_c _ _ k2, up2_c _ _ k1]
    · rw [up2_i _ _ k1, up2_c _ _ (by decide), up2_c _ _ (by decide), up2_c _ _ (by decide), up2_c _ _ (by decide), up2_i _ _ k2]

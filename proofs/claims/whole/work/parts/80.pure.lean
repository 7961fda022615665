/-! the pure fact that the claim rests on -/
theorem pure_start (xs : Nat → Int32) (L : Nat) (hL : L ≤ 2560) : ∃ w1 w2 : Wo, cz (0, nulL []) (fun _ _ => 0) = some () ∧ fG_init0 (fun _ _ => 0) = some w1 ∧ cz (22, nulL [(0, 10), (0, 9), (0, 8), (0, 5), (0, 4), (16, 0), (0, 3), (14, 0), (0, 2), (0, 1), (7, 3), (7, 2), (7, 1), (7, 0), (0, 0), (1, 3), (1, 2), (1, 1), (1, 0)]) w1 = some () ∧ fM_init22 w1 = some w2 ∧ cz (34, nulL [(22, 19), (22, 18), (22, 17), (22, 12), (22, 11), (22, 10), (22, 9), (22, 8), (22, 4), (22, 2), (22, 1), (0, 10), (0, 9), (0, 8), (0, 5), (0, 4), (16, 0), (0, 3), (14, 0), (0, 2), (0, 1), (7, 3), (7, 2), (7, 1), (7, 0), (0, 0), (1, 3), (1, 2), (1, 1), (1, 0)]) w2 = some () ∧ bL_law_23 Lf xs L 600 w2 0 = some () := by
  obtain ⟨w1, a1, a2, a3, a4, a5, a6, a7, a8, a9, a10⟩ := fG_init0_e
  obtain ⟨w2, b1, b2, b3, b4, b5, b6⟩ := fM_init22_e w1 (fun c hc => a2 c (Or.inr hc))
  refine ⟨w1, w2, cz_ok rfl, a1, cz_ok (a2 22 (by decide)), b1, cz_ok (show w2 34 = fun _ => 0 from ?_), ?_⟩
  · rw [b2 34 (by decide) (by decide)]; exact a2 34 (by decide)
  · have k : ∀ c, c ≠ 22 → c ≠ 23 → w2 c = w1 c := b2
    refine law_all xs hL (on := true) (init_inv ?_ ?_ ?_ ?_ ?_ ?_ ?_ ?_ ?_ ?_ b3 b4 b5 b6)
    · intro i; rw [k 0 (by decide) (by decide), a2 0 (by decide)]
    · intro i; rw [k 1 (by decide) (by decide)]; exact a3 i
    · intro i; rw [k 7 (by decide) (by decide)]; exact a4 i
    · intro j hj; rw [k 2 (by decide) (by decide)]; exact a5 j hj
    · intro j hj; rw [k 8 (by decide) (by decide)]; exact a6 j hj
    · rw [k 13 (by decide) (by decide)]; exact a7
    · rw [k 13 (by decide) (by decide)]; exact a8
    · rw [k 14 (by decide) (by decide)]; exact a9
    · rw [k 14 (by decide) (by decide)]; exact a10
    · intro c hc h1 h2; rw [k c h1 h2]; exact a2 c (Or.inr hc)

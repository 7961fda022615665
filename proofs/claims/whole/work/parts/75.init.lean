/-! the constructors: what they leave -/
theorem aok_L {Λ : La} {c : Nat} (h : c < Λ.1) (h2 : c < 35) (i : Int32) : aok Λ c i = aok Lf c i := by
  unfold aok
  cases ar c with
  | none => rfl
  | some n =>
    show (decide (c < Λ.1) && _) = (decide (c < 35) && _)
    rw [decide_eq_true h, decide_eq_true h2]
theorem ld_L {Λ : La} {c : Nat} (h : c < Λ.1) (h2 : c < 35) (w : Wo) (i : Int32) : ld Λ w c i = ld Lf w c i := by
  unfold ld
  rw [aok_L h h2]
theorem st_L {Λ : La} {c : Nat} (h : c < Λ.1) (h2 : c < 35) (w : Wo) (i x : Int32) : st Λ w c i x = st Lf w c i x := by
  unfold st
  rw [aok_L h h2]
theorem cp_L {Λ : La} {a b : Nat} (ha : a < Λ.1) (ha2 : a < 35) (hb : b < Λ.1) (hb2 : b < 35) (w : Wo) (i j n : Int32) : cp Λ w a i b j n = cp Lf w a i b j n := by
  unfold cp
  have : cpk Λ a i b j n = cpk Lf a i b j n := by
    unfold cpk
    cases ar a with
    | none => rfl
    | some na =>
      cases ar b with
      | none => rfl
      | some nb =>
        show (decide (a < Λ.1) && decide (b < Λ.1) && _ && _ && _ && _ && _) = (decide (a < 35) && decide (b < 35) && _ && _ && _ && _ && _)
        rw [decide_eq_true ha, decide_eq_true hb, decide_eq_true ha2, decide_eq_true hb2]
  rw [this]
theorem sumOf_L {Λ : La} {c : Nat} (h : c < Λ.1) (h2 : c < 35) : ∀ (n : Nat) (w : Wo) (x1 x2 x3 : Int32), bG_sumOf_4 Λ n w c x1 x2 x3 = bG_sumOf_4 Lf n w c x1 x2 x3 := by
  intro n
  induction n with
  | zero => intro w x1 x2 x3; rfl
  | succ n ih =>
    intro w x1 x2 x3
    show bG_sumOf_4s Λ (bG_sumOf_4 Λ n) w c x1 x2 x3 = bG_sumOf_4s Lf (bG_sumOf_4 Lf n) w c x1 x2 x3
    unfold bG_sumOf_4s bG_sumOf_31
    rw [ld_L h h2]
    simp only [ih]
def r0 (s : Nat) : Nat → Int32 := mkrow (fun _ => 0) s 0
theorem sm_r0 {r : Nat → Int32} {s : Nat} (h : ∀ i, i ≠ 8 → i ≠ 9 → r i = 0) (h9 : r 9 = nI s) : sm r = r0 s 8 := by
  unfold sm r0 mkrow
  rw [if_pos rfl, h9, h 10 (by decide) (by decide), sm8_congr (r' := fun _ => 0) (fun i hi => h i (by omega) (by omega))]
theorem r0_0 (s : Nat) {k : Nat} (h8 : k ≠ 8) (h9 : k ≠ 9) : r0 s k = 0 := by
  unfold r0 mkrow
  rw [if_neg h8, if_neg h9]
  by_cases h : k = 10
  · rw [if_pos h]
  · rw [if_neg h]
theorem r0_9 (s : Nat) : r0 s 9 = nI s := by
  unfold r0 mkrow
  rw [if_neg (by decide), if_pos rfl]
def Pd (w : Wo) (D T k : Nat) (w' : Wo) : Prop := (∀ c, c ≠ D + 1 → c ≠ T → w' c = w c) ∧ (∀ j, j < 11 * k → w' (D + 1) j = r0 (j / 11) (j % 11)) ∧ (∀ j, 11 * k ≤ j → w' (D + 1) j = 0) ∧ ∀ i, i ≠ 8 → i ≠ 9 → w' T i = 0
theorem drive_l {Λ : La} {D T : Nat} (w : Wo) (hD : D + 1 < Λ.1) (hD2 : D + 1 < 35) (hT : T < Λ.1) (hT2 : T < 35) (hDT : T ≠ D + 1) (aD : ar (D + 1) = some 792) (aT : ar T = some 11) (g : gr Λ D 0 0 = some (D + 1)) : ∀ (j k m : Nat) (w' : Wo), k + j = 72 → Pd w D T k w' → ∃ w'', bD_init_54 Λ (m + (j + 1)) w' D T (nI k) = some w'' ∧ Pd w D T 72 w'' := by
  intro j
  induction j with
  | zero =>
    intro k m w' hk h
    have hk : k = 72 := by omega
    subst hk
    refine ⟨w', ?_, h⟩
    show bD_init_54s Λ _ w' D T (nI 72) = _
    unfold bD_init_54s
    rw [if_pos (by rw [le_72 (by decide)]; omega)]
  | succ j ih =>
    intro k m w' hk h
    have hk2 : k < 72 := by omega
    obtain ⟨p1, p2, p3, p4⟩ := h
    obtain ⟨w2, hw2⟩ : ∃ z, z = up2 w' T 9 (nI k) := ⟨_, rfl⟩
    obtain ⟨w4, hw4⟩ : ∃ z, z = up2 w2 T 8 (r0 k 8) := ⟨_, rfl⟩
    have q2 : ∀ c, c ≠ T → w2 c = w' c := fun c hc => by rw [hw2, up2_c _ _ hc]
    have q4 : ∀ c, c ≠ T → w4 c = w' c := fun c hc => by rw [hw4, up2_c _ _ hc, q2 c hc]
    have s2 : fG_sumOf Λ w2 T 0 = some (w2, r0 k 8) := by
      unfold fG_sumOf
      rw [sumOf_L hT hT2]
      have e := sumOf_e w2 T 0 11 hT2 aT (by decide) (by decide)
      unfold fG_sumOf at e
      refine Eq.trans e ?_
      rw [sm_r0 (s := k) (fun i h8 h9 => by rw [Nat.zero_add, hw2, up2_i _ _ h9]; exact p4 i h8 h9) (by rw [Nat.zero_add, hw2, up2_s])]
    have t4 : ∀ i, i < 11 → w4 T i = r0 k i := by
      intro i hi
      rw [hw4]
      by_cases h8 : i = 8
      · subst h8; rw [up2_s]
      rw [up2_i _ _ h8, hw2]
      by_cases h9 : i = 9
      · subst h9; rw [up2_s, r0_9]
      rw [up2_i _ _ h9, r0_0 _ h8 h9]
      exact p4 i h8 h9
    have e : bD_init_54 Λ (m + (j + 1 + 1)) w' D T (nI k) = bD_init_54 Λ (m + (j + 1)) (cpw w4 T 0 (D + 1) (11 * k) 11) D T (nI (k + 1)) := by
      show bD_init_54s Λ _ w' D T (nI k) = _
      unfold bD_init_54s
      rw [if_neg (by rw [le_72 (by omega)]; omega), st_L hT hT2, show st Lf w' T 9 (nI k) = some w2 from by rw [hw2]; exact st_n (n := 9) w' _ hT2 aT (by decide) (by decide), bd, s2, bd]
      dsimp only
      rw [st_L hT hT2, show st Lf w2 T 8 (r0 k 8) = some w4 from by rw [hw4]; exact st_n (n := 8) w2 _ hT2 aT (by decide) (by decide), bd, g, bd, um_11, cp_L hT hT2 hD hD2, show cp Lf w4 T 0 (D + 1) (nI (k * 11)) 11 = some (cpw w4 T 0 (D + 1) (k * 11) 11) from cp_n (i := 0) (n := 11) w4 hT2 hD2 aT aD (by decide) (by decide) (by decide) (by omega), bd, ad_1, Nat.mul_comm k 11]
      rfl
    rw [e]
    refine ih (k + 1) m _ (by omega) ⟨fun c h1 h2 => ?_, fun j hj => ?_, fun j hj => ?_, fun i h8 h9 => ?_⟩
    · rw [cpw_ne _ h1, q4 c h2]; exact p1 c h1 h2
    · rw [cpw_eq]
      unfold va_cpy
      by_cases hr : 11 * k ≤ j ∧ j < 11 * k + 11
      · rw [if_pos hr, t4 _ (by omega), show j / 11 = k by omega, show 0 + (j - 11 * k) = j % 11 by omega]
      · rw [if_neg hr, q4 _ (Ne.symm hDT)]
        exact p2 j (by omega)
    · rw [cpw_eq]
      unfold va_cpy
      rw [if_neg (by omega), q4 _ (Ne.symm hDT)]
      exact p3 j (by omega)
    · rw [cpw_ne _ hDT, hw4, up2_i _ _ h8, hw2, up2_i _ _ h9]
      exact p4 i h8 h9
theorem czb {α : Type} {Λ : La} {w : Wo} {f : Unit → Option α} (h : w Λ.1 = fun _ => 0) : (cz Λ w).bind f = f () := by
  rw [cz_ok h]
  rfl
theorem pfb {Λ : La} {w : Wo} {c k i : Nat} {x : Int32} (h : c < Λ.1 ∧ fd c k i = some none) : pf Λ w c k i x = some (up2 w c i x) := if_pos h
theorem fD_init1_e (w : Wo) (hz : ∀ c, 1 ≤ c → w c = fun _ => 0) : ∃ w', fD_init1 w = some w' ∧ (∀ c, c ≠ 1 → c ≠ 2 → c ≠ 6 → w' c = w c) ∧ (∀ i, w' 1 i = 0) ∧ ∀ j, j < 792 → w' 2 j = r0 (j / 11) (j % 11) := by
  obtain ⟨w6, hw6⟩ : ∃ z, z = up2 (up2 w 1 4 0) 1 5 0 := ⟨_, rfl⟩
  have z6 : ∀ c, c ≠ 1 → w6 c = w c := fun c hc => by rw [hw6, up2_c _ _ hc, up2_c _ _ hc]
  have hp : Pd w6 1 6 0 w6 := ⟨fun c _ _ => rfl, fun j hj => by omega, fun j _ => by rw [z6 2 (by decide), hz 2 (by decide)], fun i _ _ => by rw [z6 6 (by decide), hz 6 (by decide)]⟩
  obtain ⟨w', e, q1, q2, q3, q4⟩ := drive_l (Λ := ((7, nulL [(1, 3), (1, 2), (1, 1), (1, 0)]) : La)) (D := 1) (T := 6) w6 (by decide) (by decide) (by decide) (by decide) (by decide) rfl rfl (by decide +kernel) 72 0 927 w6 rfl hp
  refine ⟨w', ?_, fun c h1 h2 h3 => by rw [q1 c h2 h3, z6 c h1], fun i => ?_, fun j hj => q2 j (by omega)⟩
  · unfold fD_init1
    rw [czb (by exact hz _ (by decide)), czb (by exact hz _ (by decide)), czb (by exact hz _ (by decide)), czb (by exact hz _ (by decide)), pfb (by decide +kernel), bd, pfb (by decide +kernel), bd, ← hw6, czb (by exact (z6 6 (by decide)).trans (hz 6 (by decide)))]
    exact e
  · rw [q1 1 (by decide) (by decide), hw6]
    by_cases h5 : i = 5
    · subst h5; rw [up2_s]
    rw [up2_i _ _ h5]
    by_cases h4 : i = 4
    · subst h4; rw [up2_s]
    rw [up2_i _ _ h4, hz 1 (by decide)]
theorem fD_init7_e (w : Wo) (hz : ∀ c, 7 ≤ c → w c = fun _ => 0) : ∃ w', fD_init7 w = some w' ∧ (∀ c, c ≠ 7 → c ≠ 8 → c ≠ 12 → w' c = w c) ∧ (∀ i, w' 7 i = 0) ∧ ∀ j, j < 792 → w' 8 j = r0 (j / 11) (j % 11) := by
  obtain ⟨w6, hw6⟩ : ∃ z, z = up2 (up2 w 7 4 0) 7 5 0 := ⟨_, rfl⟩
  have z6 : ∀ c, c ≠ 7 → w6 c = w c := fun c hc => by rw [hw6, up2_c _ _ hc, up2_c _ _ hc]
  have hp : Pd w6 7 12 0 w6 := ⟨fun c _ _ => rfl, fun j hj => by omega, fun j _ => by rw [z6 8 (by decide), hz 8 (by decide)], fun i _ _ => by rw [z6 12 (by decide), hz 12 (by decide)]⟩
  obtain ⟨w', e, q1, q2, q3, q4⟩ := drive_l (Λ := ((13, nulL [(7, 3), (7, 2), (7, 1), (7, 0), (0, 0), (1, 3), (1, 2), (1, 1), (1, 0)]) : La)) (D := 7) (T := 12) w6 (by decide) (by decide) (by decide) (by decide) (by decide) rfl rfl (by decide +kernel) 72 0 927 w6 rfl hp
  refine ⟨w', ?_, fun c h1 h2 h3 => by rw [q1 c h2 h3, z6 c h1], fun i => ?_, fun j hj => q2 j (by omega)⟩
  · unfold fD_init7
    rw [czb (by exact hz _ (by decide)), czb (by exact hz _ (by decide)), czb (by exact hz _ (by decide)), czb (by exact hz _ (by decide)), pfb (by decide +kernel), bd, pfb (by decide +kernel), bd, ← hw6, czb (by exact (z6 12 (by decide)).trans (hz 12 (by decide)))]
    exact e
  · rw [q1 7 (by decide) (by decide), hw6]
    by_cases h5 : i = 5
    · subst h5; rw [up2_s]
    rw [up2_i _ _ h5]
    by_cases h4 : i = 4
    · subst h4; rw [up2_s]
    rw [up2_i _ _ h4, hz 7 (by decide)]
theorem up2_0 {w : Wo} {c i : Nat} (h : w c i = 0) : up2 w c i 0 = w := by
  rw [← h, up2_self]
theorem fG_init0_e : ∃ w1, fG_init0 (fun _ _ => 0) = some w1 ∧ (∀ c, c = 0 ∨ 14 < c → w1 c = fun _ => 0) ∧ (∀ i, w1 1 i = 0) ∧ (∀ i, w1 7 i = 0) ∧ (∀ j, j < 792 → w1 2 j = r0 (j / 11) (j % 11)) ∧ (∀ j, j < 792 → w1 8 j = r0 (j / 11) (j % 11)) ∧ w1 13 0 = 1 ∧ w1 13 1 = -1 ∧ w1 14 1 = -1 ∧ w1 14 2 = 0 := by
  obtain ⟨wA, a1, a2, a3, a4⟩ := fD_init1_e (fun _ _ => 0) (fun _ _ => rfl)
  have zA : ∀ c, c = 0 ∨ 7 ≤ c → wA c = fun _ => 0 := fun c hc => a2 c (by omega) (by omega) (by omega)
  obtain ⟨wB, b1, b2, b3, b4⟩ := fD_init7_e wA (fun c hc => zA c (Or.inr hc))
  have zB : ∀ c, c = 0 ∨ 13 ≤ c → wB c = fun _ => 0 := fun c hc => by rw [b2 c (by omega) (by omega) (by omega)]; exact zA c (by omega)
  obtain ⟨wC, hC⟩ : ∃ z, z = up2 (up2 wB 13 0 1) 13 1 (-1) := ⟨_, rfl⟩
  have zC : ∀ c, c = 0 ∨ 14 ≤ c → wC c = fun _ => 0 := fun c hc => by rw [hC, up2_c _ _ (by omega), up2_c _ _ (by omega)]; exact zB c (by omega)
  obtain ⟨wD, hD⟩ : ∃ z, z = up2 wC 14 1 (-1) := ⟨_, rfl⟩
  have zD : ∀ c, c = 0 ∨ 15 ≤ c → wD c = fun _ => 0 := fun c hc => by rw [hD, up2_c _ _ (by omega)]; exact zC c (by omega)
  have eP : fP_init13 wB = some wC := by
    unfold fP_init13
    rw [pfb (by decide +kernel), bd, pfb (by decide +kernel), bd, hC]
  have d2 : wD 14 2 = 0 := by rw [hD, up2_i _ _ (by decide), zC 14 (by decide)]
  have eJ : fJ_init14 wC = some wD := by
    unfold fJ_init14
    rw [czb (by exact zC 15 (by decide)), pfb (by decide +kernel), bd, ← hD, pfb (by decide +kernel), bd, up2_0 d2]
  have eF : fF_init16 wD = some wD := by
    unfold fF_init16
    rw [czb (by exact zD 17 (by decide)), pfb (by decide +kernel), bd, up2_0 (by rw [zD 16 (by decide)]), pfb (by decide +kernel), bd, up2_0 (by rw [zD 16 (by decide)])]
  refine ⟨wD, ?_, fun c hc => zD c (by omega), fun i => ?_, fun i => ?_, fun j hj => ?_, fun j hj => ?_, ?_, ?_, ?_, d2⟩
  · unfold fG_init0
    rw [czb rfl, a1, bd, czb (by exact zA 7 (by decide)), b1, bd, czb (by exact zB 13 (by decide)), eP, bd, czb (by exact zC 14 (by decide)), eJ, bd, czb (by exact zD 16 (by decide)), eF, bd, czb (by exact zD 18 (by decide)), pfb (by decide +kernel), bd, up2_0 (by rw [zD 0 (by decide)]), pfb (by decide +kernel), bd, up2_0 (by rw [zD 0 (by decide)]), czb (by exact zD 19 (by decide)), czb (by exact zD 20 (by decide)), czb (by exact zD 21 (by decide))]
  · rw [hD, up2_c _ _ (by decide), hC, up2_c _ _ (by decide), up2_c _ _ (by decide), b2 1 (by decide) (by decide) (by decide)]; exact a3 i
  · rw [hD, up2_c _ _ (by decide), hC, up2_c _ _ (by decide), up2_c _ _ (by decide)]; exact b3 i
  · rw [hD, up2_c _ _ (by decide), hC, up2_c _ _ (by decide), up2_c _ _ (by decide), b2 2 (by decide) (by decide) (by decide)]; exact a4 j hj
  · rw [hD, up2_c _ _ (by decide), hC, up2_c _ _ (by decide), up2_c _ _ (by decide)]; exact b4 j hj
  · rw [hD, up2_c _ _ (by decide), hC, up2_i _ _ (by decide), up2_s]
  · rw [hD, up2_c _ _ (by decide), hC, up2_s]
  · rw [hD, up2_s]

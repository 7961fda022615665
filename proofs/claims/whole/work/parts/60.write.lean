/-! write and start -/
def tww (w : Wo) (a k : Nat) : Wo := fun c j => if c = 33 ∧ j < k then w 23 (a + j) else w c j
theorem tww_ne (w : Wo) (a k : Nat) {c : Nat} (h : c ≠ 33) : tww w a k c = w c := by
  funext j
  unfold tww
  rw [if_neg (fun q => h q.1)]
theorem takeWords_l (w : Wo) {d s : Nat} (hd : d < 2) (hs : s < 72) : ∀ (j k m : Nat), k + j = 8 → bM_takeWords_2 Lf (m + (j + 1)) (tww w (11 * (72 * d + s)) k) 22 (nI d) (nI s) (nI k) = some (tww w (11 * (72 * d + s)) 8) := by
  intro j
  induction j with
  | zero =>
    intro k m hk
    have hk : k = 8 := by omega
    subst hk
    show bM_takeWords_2s Lf _ _ 22 _ _ _ = _
    unfold bM_takeWords_2s
    rw [if_pos (by rw [le_8 (by decide)]; omega)]
  | succ j ih =>
    intro k m hk
    have hst : up2 (tww w (11 * (72 * d + s)) k) 33 k (w 23 (11 * (72 * d + s) + k)) = tww w (11 * (72 * d + s)) (k + 1) := by
      funext e i
      by_cases he : e = 33
      · subst he
        by_cases hi : i = k
        · subst hi
          rw [up2_s]
          unfold tww
          rw [if_pos (by omega)]
        · rw [up2_i _ _ hi]
          unfold tww
          by_cases hk2 : i < k
          · rw [if_pos ⟨rfl, hk2⟩, if_pos (by omega)]
          · rw [if_neg (by omega), if_neg (by omega)]
      · rw [up2_c _ _ he, tww_ne _ _ _ he, tww_ne _ _ _ he]
    show bM_takeWords_2s Lf _ _ 22 _ _ _ = _
    unfold bM_takeWords_2s
    rw [if_neg (by rw [le_8 (by omega)]; omega), gr22_19, bd, gr22_1, bd, place_e, bd]
    dsimp only
    rw [nI_add, ld23 _ (by omega), bd, st33 _ _ (by omega), bd, tww_ne w _ _ (by decide), hst, ad_1]
    exact ih (k + 1) m (by omega)
theorem takeWords_e (w : Wo) {d s : Nat} (hd : d < 2) (hs : s < 72) : fM_takeWords Lf w 22 (nI d) (nI s) = some (tww w (11 * (72 * d + s)) 8) := by
  unfold fM_takeWords
  rw [isC22, gdt]
  have h := takeWords_l w hd hs 8 0 991 rfl
  rw [show tww w (11 * (72 * d + s)) 0 = w from by
    funext e j
    unfold tww
    rw [if_neg (by omega)]] at h
  exact h
theorem tww_k (w : Wo) {d s k : Nat} (hd : d < 2) (hs : s < 72) (hk : k < 8) : tww w (11 * (72 * d + s)) 8 33 k = NR w d (11 * s + k) := by
  unfold tww
  rw [if_pos ⟨rfl, hk⟩, NR_at w hd hs (by omega)]
/-- the words of one array into another -/
def cww (w : Wo) (a b k : Nat) : Wo := fun c j => if c = b ∧ j < k then w a j else w c j
theorem cww_ne (w : Wo) (a b k : Nat) {c : Nat} (h : c ≠ b) : cww w a b k c = w c := by
  funext j
  unfold cww
  rw [if_neg (fun q => h q.1)]
theorem cww_s (w : Wo) (a b k : Nat) : up2 (cww w a b k) b k (w a k) = cww w a b (k + 1) := by
  funext e i
  by_cases he : e = b
  · subst he
    by_cases hi : i = k
    · subst hi
      rw [up2_s]
      unfold cww
      rw [if_pos (by omega)]
    · rw [up2_i _ _ hi]
      unfold cww
      by_cases hk2 : i < k
      · rw [if_pos ⟨rfl, hk2⟩, if_pos (by omega)]
      · rw [if_neg (by omega), if_neg (by omega)]
  · rw [up2_c _ _ he, cww_ne _ _ _ _ he, cww_ne _ _ _ _ he]
theorem cww_0 (w : Wo) (a b : Nat) : cww w a b 0 = w := by
  funext e j
  unfold cww
  rw [if_neg (by omega)]
theorem cww_k (w : Wo) (a b : Nat) {k : Nat} (hk : k < 8) : cww w a b 8 b k = w a k := by
  unfold cww
  rw [if_pos ⟨rfl, hk⟩]
theorem put_l (w : Wo) (x1 x2 : Int32) : ∀ (j k m : Nat), k + j = 8 → bM_put_12 Lf (m + (j + 1)) (cww w 33 25 k) 22 x1 x2 (nI k) = (fM_putCopy Lf (cww w 33 25 8) 22 0 x1 x2).bind fun q2 => if q2.2 = 0 then zr q2.1 0 else ((fM_putCopy Lf q2.1 22 1 x1 x2).bind fun q4 => if q4.2 = 0 then zr q4.1 0 else ((pf Lf q4.1 22 5 3 (-1)).bind fun w6 => zr w6 1)) := by
  intro j
  induction j with
  | zero =>
    intro k m hk
    have hk : k = 8 := by omega
    subst hk
    show bM_put_12s Lf _ _ 22 _ _ _ = _
    unfold bM_put_12s
    rw [if_pos (by rw [le_8 (by decide)]; omega)]
  | succ j ih =>
    intro k m hk
    show bM_put_12s Lf _ _ 22 _ _ _ = _
    unfold bM_put_12s
    rw [if_neg (by rw [le_8 (by omega)]; omega), gr22_4, bd, gr22_19, bd, ld33 _ (by omega), bd, st25 _ _ (by omega), bd, cww_ne _ _ _ _ (show 33 ≠ 25 by decide), cww_s, ad_1]
    exact ih (k + 1) m (by omega)
theorem put_R (w : Wo) (x1 x2 : Int32) : fM_put Lf w 22 x1 x2 = (fM_putCopy Lf (cww (up2 (up2 w 22 3 x1) 22 5 x2) 33 25 8) 22 0 x1 x2).bind fun q2 => if q2.2 = 0 then zr q2.1 0 else ((fM_putCopy Lf q2.1 22 1 x1 x2).bind fun q4 => if q4.2 = 0 then zr q4.1 0 else ((pf Lf q4.1 22 5 3 (-1)).bind fun w6 => zr w6 1)) := by
  unfold fM_put
  rw [isC22, gdt, pf22_3, bd, pf22_5, bd]
  have h := put_l (up2 (up2 w 22 3 x1) 22 5 x2) x1 x2 8 0 991 rfl
  rw [cww_0] at h
  exact h
theorem noted_s (w : Wo) {d : Nat} (hd : d < 2) (n : Nat) : bG_putNotedBlock_2 Lf (n + 1) w 0 (nI d) = (fG_putCopy Lf w 0 (nI d) (w 14 1) 15 (w 14 2)).bind fun q10 => if q10.2 = 0 then zr q10.1 0 else bG_putNotedBlock_2 Lf n q10.1 0 (nI (d + 1)) := by
  show bG_putNotedBlock_2s Lf _ w 0 _ = _
  unfold bG_putNotedBlock_2s
  rw [if_neg (by rw [le_2 (by omega)]; omega), gr0_3, bd, gi14_1, bd, bd, gr14_0, bd, bd, gi14_2, bd, ad_1]
theorem noted_C (w : Wo) : fG_putNotedBlock Lf w 0 = (fG_putCopy Lf w 0 (nI 0) (w 14 1) 15 (w 14 2)).bind fun q => if q.2 = 0 then zr q.1 0 else ((fG_putCopy Lf q.1 0 (nI 1) (q.1 14 1) 15 (q.1 14 2)).bind fun q => if q.2 = 0 then zr q.1 0 else zr (up2 q.1 14 1 (-1)) 1) := by
  unfold fG_putNotedBlock
  rw [isC0, gdt]
  show bG_putNotedBlock_2 Lf (999 + 1) w 0 (nI 0) = _
  rw [noted_s w (by omega)]
  refine congrArg (Option.bind _) (funext fun q => ?_)
  by_cases hq : q.2 = 0
  · rw [if_pos hq, if_pos hq]
  · rw [if_neg hq, if_neg hq]
    show bG_putNotedBlock_2 Lf (998 + 1) q.1 0 (nI 1) = _
    rw [noted_s q.1 (by omega)]
    refine congrArg (Option.bind _) (funext fun z => ?_)
    by_cases hz : z.2 = 0
    · rw [if_pos hz, if_pos hz]
    · rw [if_neg hz, if_neg hz]
      show bG_putNotedBlock_2s Lf _ z.1 0 (nI 2) = _
      unfold bG_putNotedBlock_2s
      rw [if_pos (by rw [le_2 (by decide)]; omega), gr0_3, bd, pf14_1, bd]
theorem put_p {wc wr : Wo} {M : Nat → Int32} {on : Bool} (h : Cr wc wr M on) {b vv : Nat} (hb : b < 64) (hv : vv ≤ 60) (hblk : wc 14 1 = nI b) (hver : wc 14 2 = nI vv) (hw : ∀ k, k < 8 → wc 15 k = wr 33 k) : ∃ wc' wr' M' t, fG_putNotedBlock Lf wc 0 = some (wc', bI t) ∧ fM_put Lf wr 22 (nI b) (nI vv) = some (wr', bI t) ∧ Cr wc' wr' M' (t && on) ∧ (∀ c, c = 0 ∨ 14 ≤ c → c ≠ 14 → c ≠ 18 → c ≠ 19 → c ≠ 20 → wc' c = wc c) ∧ wc' 14 2 = nI vv ∧ wc' 14 1 = (if t = true then -1 else nI b) ∧ (∀ c, c ≠ 22 → c ≠ 23 → c ≠ 24 → c ≠ 25 → c ≠ 26 → c ≠ 27 → c ≠ 28 → c ≠ 29 → c ≠ 30 → c ≠ 32 → wr' c = wr c) ∧ (∀ i, i ≠ 3 → i ≠ 5 → i ≠ 6 → i ≠ 7 → wr' 22 i = wr 22 i) ∧ wr' 22 3 = (if t = true then -1 else nI b) ∧ wr' 22 5 = nI vv ∧ ∀ k, k < 8 → wr' 25 k = wr 33 k := by
  rw [noted_C, put_R, hblk, hver]
  obtain ⟨wr0, hwr0⟩ : ∃ z, z = cww (up2 (up2 wr 22 3 (nI b)) 22 5 (nI vv)) 33 25 8 := ⟨_, rfl⟩
  rw [← hwr0]
  have f0 : ∀ c, c ≠ 22 → c ≠ 25 → wr0 c = wr c := fun c h1 h2 => by rw [hwr0, cww_ne _ _ _ _ h2, up2_c _ _ h1, up2_c _ _ h1]
  have f22 : ∀ i, i ≠ 3 → i ≠ 5 → wr0 22 i = wr 22 i := fun i h1 h2 => by rw [hwr0, cww_ne _ _ _ _ (by decide), up2_i _ _ h2, up2_i _ _ h1]
  have f3 : wr0 22 3 = nI b := by rw [hwr0, cww_ne _ _ _ _ (by decide), up2_i _ _ (by decide), up2_s]
  have f5 : wr0 22 5 = nI vv := by rw [hwr0, cww_ne _ _ _ _ (by decide), up2_s]
  have f25 : ∀ k, k < 8 → wr0 25 k = wr 33 k := fun k hk => by rw [hwr0, cww_k _ _ _ hk, up2_c _ _ (by decide), up2_c _ _ (by decide)]
  have h0 : Cr wc wr0 M on := h.cong (fun c _ => rfl) (fun c hc => f0 c (by omega) (by omega)) (f22 6 (by decide) (by decide)) (f22 7 (by decide) (by decide))
  obtain ⟨wc1, wr1, M1, t1, e1, e2, e3, e4, e5⟩ := putCopy_p h0 (d := 0) (b := b) (cw := 15) (vv := vv) (by omega) hb (by omega) (fun k hk => by rw [f0 33 (by decide) (by decide)]; exact hw k hk) hv
  have e2' : fM_putCopy Lf wr0 22 0 (nI b) (nI vv) = some (wr1, bI t1) := e2
  rw [e1, e2', bd, bd]
  dsimp only
  rw [bI_if, bI_if]
  have k14 : wc1 14 = wc 14 := e4 14 (by omega) (by omega) (by omega) (by omega)
  cases t1 with
  | false =>
    refine ⟨wc1, wr1, M1, false, rfl, rfl, e3, fun c h1 h2 h3 h4 h5 => e4 c h1 h3 h4 h5, by rw [k14]; exact hver, by rw [k14]; exact hblk, fun c h1 h2 h3 h4 h5 h6 h7 h8 h9 h10 => ?_, fun i h1 h2 h3 h4 => ?_, ?_, ?_, fun k hk => ?_⟩
    · rw [e5.1 c h1 h2 h3 h5 h6 h7 h8 h9 h10, f0 c h1 h4]
    · rw [e5.2 i h3 h4, f22 i h1 h2]
    · rw [e5.2 3 (by decide) (by decide)]; exact f3
    · rw [e5.2 5 (by decide) (by decide)]; exact f5
    · rw [e5.1 25 (by decide) (by decide) (by decide) (by decide) (by decide) (by decide) (by decide) (by decide) (by decide)]; exact f25 k hk
  | true =>
    have e3 : Cr wc1 wr1 M1 on := e3
    obtain ⟨wc2, wr2, M2, t2, g1, g2, g3, g4, g5⟩ := putCopy_p e3 (d := 1) (b := b) (cw := 15) (vv := vv) (by omega) hb (by omega) (fun k hk => by
      rw [e4 15 (by omega) (by omega) (by omega) (by omega), e5.1 33 (by decide) (by decide) (by decide) (by decide) (by decide) (by decide) (by decide) (by decide) (by decide), f0 33 (by decide) (by decide)]
      exact hw k hk) hv
    have g2' : fM_putCopy Lf wr1 22 1 (nI b) (nI vv) = some (wr2, bI t2) := g2
    rw [if_pos rfl, if_pos rfl, k14, hblk, hver, g1, g2', bd, bd]
    dsimp only
    rw [bI_if, bI_if]
    have j14 : wc2 14 = wc 14 := by rw [g4 14 (by omega) (by omega) (by omega) (by omega)]; exact k14
    have fr : ∀ c, c ≠ 22 → c ≠ 23 → c ≠ 24 → c ≠ 25 → c ≠ 26 → c ≠ 27 → c ≠ 28 → c ≠ 29 → c ≠ 30 → c ≠ 32 → wr2 c = wr c := fun c h1 h2 h3 h4 h5 h6 h7 h8 h9 h10 => by
      rw [g5.1 c h1 h2 h3 h5 h6 h7 h8 h9 h10, e5.1 c h1 h2 h3 h5 h6 h7 h8 h9 h10, f0 c h1 h4]
    have fi : ∀ i, i ≠ 6 → i ≠ 7 → wr2 22 i = wr0 22 i := fun i h1 h2 => by rw [g5.2 i h1 h2, e5.2 i h1 h2]
    have fj : ∀ k, k < 8 → wr2 25 k = wr 33 k := fun k hk => by
      rw [g5.1 25 (by decide) (by decide) (by decide) (by decide) (by decide) (by decide) (by decide) (by decide) (by decide), e5.1 25 (by decide) (by decide) (by decide) (by decide) (by decide) (by decide) (by decide) (by decide) (by decide)]
      exact f25 k hk
    have fc : ∀ c, c = 0 ∨ 14 ≤ c → c ≠ 18 → c ≠ 19 → c ≠ 20 → wc2 c = wc c := fun c h1 h3 h4 h5 => by rw [g4 c h1 h3 h4 h5, e4 c h1 h3 h4 h5]
    cases t2 with
    | false =>
      refine ⟨wc2, wr2, M2, false, rfl, rfl, g3, fun c h1 h2 h3 h4 h5 => fc c h1 h3 h4 h5, by rw [j14]; exact hver, by rw [j14]; exact hblk, fr, fun i h1 h2 h3 h4 => ?_, ?_, ?_, fj⟩
      · rw [fi i h3 h4, f22 i h1 h2]
      · rw [fi 3 (by decide) (by decide)]; exact f3
      · rw [fi 5 (by decide) (by decide)]; exact f5
    | true =>
      have g3 : Cr wc2 wr2 M2 on := g3
      rw [if_pos rfl, if_pos rfl, pf22_3, bd]
      refine ⟨_, _, M2, true, rfl, rfl, g3.cong (fun c hc => up2_c _ _ (by omega)) (fun c hc => up2_c _ _ (by omega)) (up2_i _ _ (by decide)) (up2_i _ _ (by decide)), fun c h1 h2 h3 h4 h5 => ?_, ?_, up2_s _ _ _ _, fun c h1 h2 h3 h4 h5 h6 h7 h8 h9 h10 => ?_, fun i h1 h2 h3 h4 => ?_, up2_s _ _ _ _, ?_, fun k hk => ?_⟩
      · rw [up2_c _ _ h2]; exact fc c h1 h3 h4 h5
      · rw [up2_i _ _ (by decide), j14]; exact hver
      · rw [up2_c _ _ h1]; exact fr c h1 h2 h3 h4 h5 h6 h7 h8 h9 h10
      · rw [up2_i _ _ h1, fi i h3 h4, f22 i h1 h2]
      · rw [up2_i _ _ (by decide), fi 5 (by decide) (by decide)]; exact f5
      · rw [up2_c _ _ (by decide)]; exact fj k hk
theorem op_write {wc wr : Wo} {on : Bool} (h : Inv wc wr on) (x1 x2 x3 : Int32) : Res wc wr (fL_write Lf wc 0 x1 x2 x3 34) (fM_write Lf wr 22 x1 x2 x3) := by
  obtain ⟨eN, eM, hpi, hon, hoff⟩ := h.N
  have e35 : ∀ k, ¬ k ≤ 0 → bM_write_35 Lf wr 22 x1 x2 x3 22 k = some (up2 wr 22 0 k, 0) := fun k hk => by
    unfold bM_write_35
    rw [pf22_0, bd, gi22_0, bd, up2_s, if_neg hk]
  unfold fL_write fG_write fM_write bM_write_19
  rw [isC0, gdt, isC22, gdt, isBelow_e, bd, bI_if, in_e, bd, bI_if]
  dsimp only
  by_cases h1 : inB x1 64 = true
  case neg =>
    rw [if_neg h1, if_neg h1, bd]
    exact Res.refused h (k := 1) (r := 0) (by decide +kernel) rfl (e35 1 (by decide +kernel))
  rw [if_pos h1, if_pos h1, isBelow_e, bd, bI_if, in_e, bd, bI_if]
  dsimp only
  by_cases h2 : inB x2 8 = true
  case neg =>
    rw [if_neg h2, if_neg h2, bd]
    exact Res.refused h (k := 1) (r := 0) (by decide +kernel) rfl (e35 1 (by decide +kernel))
  rw [if_pos h2, if_pos h2, gr0_2, bd, gi13_0, bd, gi22_6, bd, hon, hoff, bI_if, bI_if]
  cases on with
  | false => exact Res.refused h (k := 2) (r := 0) (by decide +kernel) rfl (e35 2 (by decide +kernel))
  | true =>
    obtain ⟨b, hb, rfl⟩ := inB_of (n := 64) h1 (by decide)
    obtain ⟨m, hm, rfl⟩ := inB_of (n := 8) h2 (by decide)
    rw [if_pos rfl, if_neg (fun q => by cases q), goodCopy_e wc hpi hb, bd]
    dsimp only
    have hcd := cd_le (NC wc) (MC wc) b
    obtain ⟨cv, hcv⟩ : ∃ z, z = cd (NC wc) (MC wc) b := ⟨_, rfl⟩
    rw [← hcv]
    rw [← hcv] at hcd
    have h0 := h
    obtain ⟨⟨M, hcr⟩, ⟨j1, j2, j3, j4⟩, m1, m2, m3, m4⟩ := h0
    have eR0 : bM_write_35 Lf wr 22 (nI b) (nI m) x3 22 0 = if 2 ≤ cv then bM_write_78 Lf (up2 wr 22 0 0) 22 (nI b) (nI m) x3 (nI cv) 0 else bM_write_78 Lf (up2 wr 22 0 0) 22 (nI b) (nI m) x3 (nI cv) (NC wc cv (11 * b + 10)) := by
      unfold bM_write_35
      rw [pf22_0, bd, gi22_0, bd, up2_s, if_pos (by decide +kernel), codeOf_e _ hb, bd, NR_t, MR_t, ← eN, ← eM, ← hcv]
      dsimp only
      by_cases hc2 : 2 ≤ cv
      · rw [if_pos (by rw [le_2 (by omega)]; exact hc2), if_pos hc2]
      · rw [if_neg (by rw [le_2 (by omega)]; exact hc2), if_neg hc2, gr22_1, bd, place_e, bd]
        dsimp only
        rw [ad_10, ld23 _ (by omega), bd, up2_c (d := 23) _ _ (by decide), NR_at wr (by omega) (by omega) (by omega), ← eN]
    rw [eR0]
    unfold gcv
    by_cases hc2 : cv = 2
    · subst hc2
      rw [if_pos rfl, if_pos rfl, if_pos (Nat.le_refl 2)]
      unfold bG_write_82 bM_write_78
      rw [if_neg (show ¬ (0 : Int32) = 60 by decide +kernel)]
      unfold bM_write_93
      have ecc := codeOfC_e wc (c := 2) (by omega)
      unfold gcv at ecc
      rw [if_pos rfl] at ecc
      rw [ecc, bd]
      dsimp only
      rw [pf0_6, bd, if_pos rfl, bd, pf22_0, bd, gi22_0, bd, up2_s]
      dsimp only
      rw [if_pos rfl, sl_e, bd, if_pos (by decide +kernel), pf22_13, bd, if_pos (by decide +kernel)]
      refine ⟨_, _, 0, 2, true, rfl, rfl, by rw [up2_i _ _ (by decide), up2_s], fun _ => up2_s _ _ _ _, ⟨⟨M, hcr.cong (fun c hc => by rw [up2_c _ _ (by omega), up2_c _ _ (by omega)]) (fun c hc => by rw [up2_c _ _ (by omega), up2_c _ _ (by omega), up2_c _ _ (by omega)]) (by rw [up2_i _ _ (by decide), up2_i _ _ (by decide), up2_i _ _ (by decide)]) (by rw [up2_i _ _ (by decide), up2_i _ _ (by decide), up2_i _ _ (by decide)])⟩, ⟨?_, ?_, fun j hj => ?_, ?_⟩, ?_, ?_, ?_, fun j hj => ?_⟩, fun c h1 h2 => by rw [up2_c _ _ h2, up2_c _ _ (by omega)], fun c hc => by rw [up2_c _ _ (by omega), up2_c _ _ (by omega), up2_c _ _ (by omega)]⟩
      · rw [up2_c _ _ (by decide), up2_c _ _ (by decide), up2_i _ _ (by decide), up2_i _ _ (by decide), up2_i _ _ (by decide)]; exact j1
      · rw [up2_c _ _ (by decide), up2_c _ _ (by decide), up2_i _ _ (by decide), up2_i _ _ (by decide), up2_i _ _ (by decide)]; exact j2
      · rw [up2_c _ _ (by decide), up2_c _ _ (by decide), up2_c (d := 25) _ _ (by decide), up2_c (d := 25) _ _ (by decide), up2_c (d := 25) _ _ (by decide)]; exact j3 j hj
      · rw [up2_i _ _ (by decide), up2_i _ _ (by decide), up2_i _ _ (by decide), up2_i _ _ (by decide), up2_i _ _ (by decide), up2_i _ _ (by decide)]; exact j4
      · rw [up2_c _ _ (by decide), up2_s, up2_s]
      · rw [up2_c _ _ (by decide), up2_i _ _ (by decide), up2_i _ _ (by decide), up2_i _ _ (by decide), up2_i _ _ (by decide)]; exact m2
      · rw [up2_c _ _ (by decide), up2_c _ _ (by decide), up2_i _ _ (by decide), up2_i _ _ (by decide), up2_i _ _ (by decide)]; exact m3
      · rw [up2_c _ _ (by decide), up2_c _ _ (by decide), up2_c (d := 31) _ _ (by decide), up2_c (d := 31) _ _ (by decide), up2_c (d := 31) _ _ (by decide)]; exact m4 j hj
    · have hc1 : cv < 2 := by omega
      obtain ⟨vv, hvv, hver⟩ := good_ver (M := MC wc) hpi hc1 hb (by rw [hcv]; exact cd_good (by rw [← hcv]; exact hc1))
      rw [if_neg hc2, if_neg (neg1 (by omega)), if_neg (show ¬ 2 ≤ cv by omega), driveOf_e _ hc1, bd]
      show Res wc wr (((fD_at Lf wc (dc cv) (nI b) (nI 10)).bind fun q29 => if q29.2 = 60 then some (q29.1, 3, 0) else bG_write_82 Lf q29.1 0 (nI b) (nI m) x3 (nI cv)).bind fun q1 => _) _
      rw [at_e _ hc1 (by omega) (by omega), bd, hver]
      dsimp only
      unfold bM_write_78
      by_cases h60 : nI vv = 60
      · rw [if_pos h60, if_pos h60, bd]
        refine Res.refused h (k := 3) (r := 0) (by decide +kernel) rfl ?_
        unfold bM_write_93
        rw [pf22_0, bd, gi22_0, bd, up2_s, if_neg (by decide +kernel)]
        congr 2
        funext c j
        by_cases hc : c = 22
        · subst hc
          by_cases hj : j = 0
          · subst hj; rw [up2_s, up2_s]
          · rw [up2_i _ _ hj, up2_i _ _ hj, up2_i _ _ hj]
        · rw [up2_c _ _ hc, up2_c _ _ hc, up2_c _ _ hc]
      · rw [if_neg h60, if_neg h60]
        have hv60 : vv < 60 := by
          have : ¬ vv = 60 := fun e => h60 (by rw [e]; rfl)
          omega
        obtain ⟨wcA, hwcA⟩ : ∃ z, z = up2 (up2 (up2 (cpw (up2 wc 0 6 (nI cv)) (dc cv + 1) (11 * b) 15 0 8) 15 m x3) 14 2 (nI (vv + 1))) 14 1 (nI b) := ⟨_, rfl⟩
        obtain ⟨wrA, hwrA⟩ : ∃ z, z = up2 (tww (up2 (up2 wr 22 0 0) 22 13 (nI cv)) (11 * (72 * cv + b)) 8) 33 m x3 := ⟨_, rfl⟩
        have ecc := codeOfC_e wc (c := cv) hcd
        unfold gcv at ecc
        rw [if_neg hc2] at ecc
        have eC : bG_write_82 Lf wc 0 (nI b) (nI m) x3 (nI cv) = (fG_putNotedBlock Lf wcA 0).bind fun q17 => if q17.2 = 0 then some (q17.1, 0, 3) else some (q17.1, 0, 0) := by
          unfold bG_write_82
          rw [ecc, bd]
          dsimp only
          rw [pf0_6, bd, if_neg (neg1 (by omega)), driveOf_e _ hc1, bd]
          dsimp only
          rw [gr0_3, bd, gr14_0, bd, giveWords_e _ (by omega) (by omega), bd, bd, gr14_0, bd, st15 _ _ (by omega), bd, bd, driveOf_e _ hc1, bd]
          show ((fD_at Lf (up2 (cpw (up2 wc 0 6 (nI cv)) (dc cv + 1) (11 * b) 15 0 8) 15 m x3) (dc cv) (nI b) (nI 10)).bind fun q13 => _) = _
          rw [at_e _ hc1 (by omega) (by omega), bd, NC_congr (w := wc) (by rw [up2_c _ _ (by decide), cpw_ne _ (by decide), up2_c _ _ (by decide)]) (by rw [up2_c _ _ (by decide), cpw_ne _ (by decide), up2_c _ _ (by decide)]), hver]
          dsimp only
          rw [ad_1, pf14_2, bd, bd, pf14_1, bd, ← hwcA]
        have eR : bM_write_93 Lf (up2 wr 22 0 0) 22 (nI b) (nI m) x3 (nI cv) (nI vv) 22 0 = (fM_put Lf wrA 22 (nI b) (nI (vv + 1))).bind fun q9 => if q9.2 = 0 then some (q9.1, 3) else some (q9.1, 0) := by
          unfold bM_write_93
          rw [pf22_0, bd, gi22_0, bd, up2_s, if_pos (by decide +kernel), show up2 (up2 wr 22 0 0) 22 0 0 = up2 wr 22 0 0 from by
            funext c j
            by_cases hc : c = 22
            · subst hc
              by_cases hj : j = 0
              · subst hj; rw [up2_s, up2_s]
              · rw [up2_i _ _ hj]
            · rw [up2_c _ _ hc], pf22_13, bd, if_neg (by rw [eq_2 (by omega)]; exact hc2), takeWords_e _ hc1 (by omega), bd, gr22_19, bd, st33 _ _ (by omega), bd, ad_1, ← hwrA]
        have aC : ∀ c, c ≠ 0 → c ≠ 14 → c ≠ 15 → wcA c = wc c := fun c k0 k1 k2 => by rw [hwcA, up2_c _ _ k1, up2_c _ _ k1, up2_c _ _ k2, cpw_ne _ k2, up2_c _ _ k0]
        have aR : ∀ c, c ≠ 22 → c ≠ 33 → wrA c = wr c := fun c k1 k2 => by rw [hwrA, up2_c _ _ k2, tww_ne _ _ _ k2, up2_c _ _ k1, up2_c _ _ k1]
        have a22 : ∀ i, i ≠ 0 → i ≠ 13 → wrA 22 i = wr 22 i := fun i k1 k2 => by rw [hwrA, up2_c _ _ (by decide), tww_ne _ _ _ (by decide), up2_i _ _ k2, up2_i _ _ k1]
        have a0 : wrA 22 0 = 0 := by rw [hwrA, up2_c _ _ (by decide), tww_ne _ _ _ (by decide), up2_i _ _ (by decide), up2_s]
        have a13 : wrA 22 13 = nI cv := by rw [hwrA, up2_c _ _ (by decide), tww_ne _ _ _ (by decide), up2_s]
        have hcrA : Cr wcA wrA M true := hcr.cong (fun c hc => aC c (by omega) (by omega) (by omega)) (fun c hc => aR c (by omega) (by omega)) (a22 6 (by decide) (by decide)) (a22 7 (by decide) (by decide))
        have hwd : ∀ k, k < 8 → wcA 15 k = wrA 33 k := fun k hk => by
          rw [hwcA, up2_c _ _ (by decide), up2_c _ _ (by decide), hwrA]
          by_cases e : k = m
          · subst e; rw [up2_s, up2_s]
          · rw [up2_i _ _ e, up2_i _ _ e, cpw_gw _ hc1 (by omega) hk, tww_k _ hc1 (by omega) hk, NC_congr (w := wc) (up2_c _ _ (by decide)) (up2_c _ _ (by decide)), NR_congr (w := wr) (by rw [up2_c _ _ (by decide), up2_c _ _ (by decide)]), eN]
        obtain ⟨wc', wr', M', t, p1, p2, p3, p4, p5, p6, p7, p8, p9, p10, p11⟩ := put_p hcrA hb (vv := vv + 1) (by omega) (by rw [hwcA, up2_s]) (by rw [hwcA, up2_i _ _ (by decide), up2_s]) hwd
        rw [eC, eR, p1, p2, bd, bd]
        dsimp only
        rw [bI_if, bI_if]
        have fin : ∀ r, Res wc wr (some (up2 wc' 34 0 r, 0)) (some (wr', r)) := by
          intro r
          refine ⟨_, _, 0, r, _, rfl, rfl, by rw [p8 0 (by decide) (by decide) (by decide) (by decide)]; exact a0, fun _ => up2_s _ _ _ _, ⟨⟨M', p3.cong (fun c hc => up2_c _ _ (by omega)) (fun c hc => rfl) rfl rfl⟩, ⟨?_, ?_, fun j hj => ?_, ?_⟩, ?_, ?_, ?_, fun j hj => ?_⟩, fun c k1 k2 => ?_, fun c hc => ?_⟩
          · rw [up2_c _ _ (by decide), p6, p9]
          · rw [up2_c _ _ (by decide), p5, p10]
          · rw [up2_c _ _ (by decide), p4 15 (by omega) (by decide) (by decide) (by decide) (by decide), p11 j hj]
            exact hwd j hj
          · rw [p9, p10]
            cases t with
            | true => exact Or.inl rfl
            | false => exact Or.inr ⟨b, vv + 1, hb, by omega, rfl, rfl⟩
          · rw [up2_c _ _ (by decide), p4 0 (by omega) (by decide) (by decide) (by decide) (by decide), p8 13 (by decide) (by decide) (by decide) (by decide), a13, hwcA, up2_c _ _ (by decide), up2_c _ _ (by decide), up2_c _ _ (by decide), cpw_ne _ (by decide), up2_s]
          · rw [up2_c _ _ (by decide), p4 0 (by omega) (by decide) (by decide) (by decide) (by decide), p8 14 (by decide) (by decide) (by decide) (by decide), a22 14 (by decide) (by decide), hwcA, up2_c _ _ (by decide), up2_c _ _ (by decide), up2_c _ _ (by decide), cpw_ne _ (by decide), up2_i _ _ (by decide)]
            exact m2
          · rw [up2_c _ _ (by decide), p4 16 (by omega) (by decide) (by decide) (by decide) (by decide), p8 15 (by decide) (by decide) (by decide) (by decide), a22 15 (by decide) (by decide), aC 16 (by decide) (by decide) (by decide)]
            exact m3
          · rw [up2_c _ _ (by decide), p4 17 (by omega) (by decide) (by decide) (by decide) (by decide), p7 31 (by decide) (by decide) (by decide) (by decide) (by decide) (by decide) (by decide) (by decide) (by decide) (by decide), aC 17 (by decide) (by decide) (by decide), aR 31 (by decide) (by decide)]
            exact m4 j hj
          · rw [up2_c _ _ k2, p4 c (by omega) (by omega) (by omega) (by omega) (by omega), aC c (by omega) (by omega) (by omega)]
          · rw [p7 c (by omega) (by omega) (by omega) (by omega) (by omega) (by omega) (by omega) (by omega) (by omega) (by omega), aR c (by omega) (by omega)]
        cases t with
        | true =>
          rw [if_pos rfl, if_pos rfl, bd]
          dsimp only
          rw [if_pos rfl, sl_e, bd]
          exact fin 0
        | false =>
          rw [if_neg (fun q => by cases q), if_neg (fun q => by cases q), bd]
          dsimp only
          rw [if_pos rfl, sl_e, bd]
          exact fin 3

/-! rebuild, class and reference side by side -/
def FCb (w w' : Wo) : Prop := ∀ c, c = 0 ∨ 14 ≤ c → c ≠ 18 → c ≠ 19 → c ≠ 20 → c ≠ 21 → w' c = w c
def FRb (w w' : Wo) : Prop := (∀ c, c ≠ 22 → c ≠ 23 → c ≠ 24 → c ≠ 26 → c ≠ 27 → c ≠ 28 → c ≠ 29 → c ≠ 30 → c ≠ 32 → c ≠ 33 → w' c = w c) ∧ ∀ i, i ≠ 6 → i ≠ 7 → w' 22 i = w 22 i
theorem FCb.refl (w : Wo) : FCb w w := fun c _ _ _ _ _ => rfl
theorem FRb.refl (w : Wo) : FRb w w := ⟨fun c _ _ _ _ _ _ _ _ _ _ => rfl, fun i _ _ => rfl⟩
theorem FCb.trans {a b c : Wo} (h : FCb a b) (g : FCb b c) : FCb a c := fun x h1 h2 h3 h4 h5 => (g x h1 h2 h3 h4 h5).trans (h x h1 h2 h3 h4 h5)
theorem FRb.trans {a b c : Wo} (h : FRb a b) (g : FRb b c) : FRb a c := ⟨fun x h1 h2 h3 h4 h5 h6 h7 h8 h9 h10 => (g.1 x h1 h2 h3 h4 h5 h6 h7 h8 h9 h10).trans (h.1 x h1 h2 h3 h4 h5 h6 h7 h8 h9 h10), fun i h1 h2 => (g.2 i h1 h2).trans (h.2 i h1 h2)⟩
theorem FCl.b {a b : Wo} (h : FCl a b) : FCb a b := fun c h1 h2 h3 h4 _ => h c h1 h2 h3 h4
theorem FRl.b {a b : Wo} (h : FRl a b) : FRb a b := ⟨fun c h1 h2 h3 h4 h5 h6 h7 h8 h9 _ => h.1 c h1 h2 h3 h4 h5 h6 h7 h8 h9, h.2⟩
theorem FCs.b {a b : Wo} (h : FCs a b) : FCb a b := fun c h1 _ h3 _ _ => h c h1 h3
theorem FRs.b {a b : Wo} (h : FRs a b) : FRb a b := ⟨fun c h1 h2 _ h4 h5 h6 h7 h8 h9 _ => h.1 c h1 h2 h4 h5 h6 h7 h8 h9, h.2⟩
theorem Inv.fr {wc wr wc' wr' : Wo} {M : Nat → Int32} {on on' : Bool} (h : Inv wc wr on) (c : Cr wc' wr' M on') (hc : FCb wc wc') (hr : FRb wr wr') : Inv wc' wr' on' := by
  obtain ⟨-, ⟨j1, j2, j3, j4⟩, m1, m2, m3, m4⟩ := h
  have k : ∀ c, c = 0 ∨ c = 14 ∨ c = 15 ∨ c = 16 ∨ c = 17 → wc' c = wc c := fun c h => hc c (by omega) (by omega) (by omega) (by omega) (by omega)
  have k22 : ∀ i, i = 3 ∨ i = 5 ∨ i = 13 ∨ i = 14 ∨ i = 15 → wr' 22 i = wr 22 i := fun i h => hr.2 i (by omega) (by omega)
  have kr : ∀ c, c = 25 ∨ c = 31 → wr' c = wr c := fun c h => hr.1 c (by omega) (by omega) (by omega) (by omega) (by omega) (by omega) (by omega) (by omega) (by omega) (by omega)
  refine ⟨⟨M, c⟩, ⟨?_, ?_, fun j hj => ?_, ?_⟩, ?_, ?_, ?_, fun j hj => ?_⟩
  · rw [k 14 (by decide), k22 3 (by decide)]; exact j1
  · rw [k 14 (by decide), k22 5 (by decide)]; exact j2
  · rw [k 15 (by decide), kr 25 (by decide)]; exact j3 j hj
  · rw [k22 3 (by decide), k22 5 (by decide)]; exact j4
  · rw [k 0 (by decide), k22 13 (by decide)]; exact m1
  · rw [k 0 (by decide), k22 14 (by decide)]; exact m2
  · rw [k 16 (by decide), k22 15 (by decide)]; exact m3
  · rw [k 17 (by decide), kr 31 (by decide)]; exact m4 j hj
theorem take_p {wc wr : Wo} {M : Nat → Int32} {on : Bool} (h : Cr wc wr M on) {c b : Nat} (hc : c < 2) (hb : b < 64) : ∃ wcA wrA, fD_giveWords Lf wc (dc c) (nI b) 21 = some wcA ∧ fM_takeWords Lf wr 22 (nI c) (nI b) = some wrA ∧ Cr wcA wrA M on ∧ (∀ k, k < 8 → wcA 21 k = wrA 33 k) ∧ FCb wc wcA ∧ FRb wr wrA ∧ NC wcA = NC wc ∧ NR wrA = NR wr := by
  have e1 : ∀ e, e ≠ 21 → cpw wc (dc c + 1) (11 * b) 21 0 8 e = wc e := fun e he => cpw_ne _ he
  have e2 : ∀ e, e ≠ 33 → tww wr (11 * (72 * c + b)) 8 e = wr e := fun e he => tww_ne _ _ _ he
  refine ⟨_, _, giveWords_e _ (by omega) (by omega), takeWords_e _ hc (by omega), h.cong (fun e he => e1 e (by omega)) (fun e he => e2 e (by omega)) (by rw [e2 22 (by decide)]) (by rw [e2 22 (by decide)]), fun k hk => ?_, fun e _ _ _ _ he => e1 e he, ⟨fun e _ _ _ _ _ _ _ _ _ he => e2 e he, fun i _ _ => by rw [e2 22 (by decide)]⟩, NC_congr (e1 2 (by decide)) (e1 8 (by decide)), NR_congr (e2 23 (by decide))⟩
  rw [cpw_gw _ hc (by omega) hk, tww_k _ hc (by omega) hk, h.N.1]
theorem ver_R (w : Wo) {c b k : Nat} (hc : c < 2) (hb : b < 72) (hk : k < 11) : ld Lf w 23 (nI (11 * (72 * c + b) + k)) = some (NR w c (11 * b + k)) := by
  rw [ld23 _ (by omega), NR_at w hc hb hk]
theorem reb_p {wc wr : Wo} {M : Nat → Int32} (h : Cr wc wr M true) {d b c : Nat} (hd : d < 2) (hb : b < 64) (hc : c < 2) (hcd : cd (NC wc) (MC wc) b = c) : ∃ wc' wr' M' t, fG_rebuildBlock Lf wc 0 (nI d) (nI b) (nI c) = some (wc', bI t) ∧ (∀ K x2, ((fM_takeWords Lf wr 22 (nI c) (nI b)).bind fun w7 => (gr Lf 22 5 1).bind fun r8 => (fM_place Lf w7 (nI c) (nI b)).bind fun q9 => (ld Lf q9.1 r8 (q9.2 + 10)).bind fun v10 => (fM_putCopy Lf q9.1 22 (nI d) (nI b) v10).bind fun q11 => if q11.2 = 0 then (bM_rebuild_126 Lf K q11.1 22 (nI d) x2 (nI b) q11.2) else ((fM_isRightPage Lf q11.1 22 (nI d) (nI b / 8)).bind fun q13 => if q13.2 = 0 then ((fM_storeList Lf q13.1 22 (1 - nI d) (nI b) v10).bind fun q15 => bM_rebuild_126 Lf K q15.1 22 (nI d) x2 (nI b) q15.2) else (bM_rebuild_126 Lf K q13.1 22 (nI d) x2 (nI b) q11.2))) = bM_rebuild_126 Lf K wr' 22 (nI d) x2 (nI b) (bI t)) ∧ Cr wc' wr' M' t ∧ FCb wc wc' ∧ FRb wr wr' := by
  obtain ⟨vv, hvv, hver⟩ := good_ver (M := MC wc) h.N.2.1 hc hb (by rw [← hcd]; exact cd_good (by rw [hcd]; exact hc))
  obtain ⟨wcA, wrA, a1, a2, a3, a4, a5, a6, a7, a8⟩ := take_p h hc hb
  have eC : fG_rebuildBlock Lf wc 0 (nI d) (nI b) (nI c) = (fG_putCopy Lf wcA 0 (nI d) (nI b) 21 (nI vv)).bind fun q7 => if q7.2 = 0 then zr q7.1 0 else ((fG_isPageRight Lf q7.1 0 (nI d) (nI (b / 8))).bind fun q9 => if q9.2 = 0 then ((fG_storeList Lf q9.1 0 (nI (1 - d)) (nI b) (nI vv)).bind fun q11 => if q11.2 = 0 then zr q11.1 0 else zr q11.1 1) else zr q9.1 1) := by
    unfold fG_rebuildBlock
    rw [isC0, gdt, driveOf_e _ hc, bd]
    dsimp only
    rw [gr0_10, bd, a1, bd, driveOf_e _ hc, bd]
    show ((fD_at Lf wcA (dc c) (nI b) (nI 10)).bind fun q5 => _) = _
    rw [at_e _ hc (by omega) (by omega), bd, a7, hver, bd]
    dsimp only
    rw [d8 (by omega), s1 (by omega)]
  rw [eC]
  obtain ⟨wc1, wr1, M1, t1, e1, e2, e3, e4, e5⟩ := putCopy_p a3 hd hb (cw := 21) (vv := vv) (by omega) a4 hvv
  rw [e1, bd]
  dsimp only
  rw [bI_if]
  have eR : ∀ K x2, ((fM_takeWords Lf wr 22 (nI c) (nI b)).bind fun w7 => (gr Lf 22 5 1).bind fun r8 => (fM_place Lf w7 (nI c) (nI b)).bind fun q9 => (ld Lf q9.1 r8 (q9.2 + 10)).bind fun v10 => (fM_putCopy Lf q9.1 22 (nI d) (nI b) v10).bind fun q11 => if q11.2 = 0 then (bM_rebuild_126 Lf K q11.1 22 (nI d) x2 (nI b) q11.2) else ((fM_isRightPage Lf q11.1 22 (nI d) (nI b / 8)).bind fun q13 => if q13.2 = 0 then ((fM_storeList Lf q13.1 22 (1 - nI d) (nI b) v10).bind fun q15 => bM_rebuild_126 Lf K q15.1 22 (nI d) x2 (nI b) q15.2) else (bM_rebuild_126 Lf K q13.1 22 (nI d) x2 (nI b) q11.2))) = if t1 = true then (if rp (NR wr1) (MR wr1) d (b / 8) = true then bM_rebuild_126 Lf K wr1 22 (nI d) x2 (nI b) (bI t1) else (fM_storeList Lf wr1 22 (nI (1 - d)) (nI b) (nI vv)).bind fun q15 => bM_rebuild_126 Lf K q15.1 22 (nI d) x2 (nI b) q15.2) else bM_rebuild_126 Lf K wr1 22 (nI d) x2 (nI b) (bI t1) := by
    intro K x2
    rw [a2, bd, gr22_1, bd, place_e, bd]
    dsimp only
    rw [ad_10, ver_R _ hc (by omega) (by omega), bd, a8, ← h.N.1, hver, e2, bd]
    dsimp only
    rw [bI_if, d8 (by omega), s1 (by omega), isRightPage_e _ hd (by omega), bd]
    dsimp only
    rw [bI_if]
  cases t1 with
  | false =>
    refine ⟨wc1, wr1, M1, false, rfl, fun K x2 => ?_, e3, a5.trans e4.b, a6.trans e5.b⟩
    rw [eR, if_neg (by decide)]
  | true =>
    have e3 : Cr wc1 wr1 M1 true := e3
    rw [if_pos rfl, isPageRight_e _ hd (by omega), bd]
    dsimp only
    rw [bI_if]
    have enr : rp (NR wr1) (MR wr1) d (b / 8) = rp (NC wc1) (MC wc1) d (b / 8) := by rw [e3.N.1, e3.N.2.2.1, e3.N.2.2.2]
    by_cases hp : rp (NC wc1) (MC wc1) d (b / 8) = true
    · rw [if_pos hp]
      refine ⟨wc1, wr1, M1, true, rfl, fun K x2 => ?_, e3, a5.trans e4.b, a6.trans e5.b⟩
      rw [eR, if_pos rfl, enr, if_pos hp]
    · rw [if_neg hp]
      obtain ⟨wc2, wr2, M2, t2, g1, g2, g3, g4, g5⟩ := storeList_p e3 (d := 1 - d) (b := b) (vv := vv) (by omega) hb hvv
      rw [g1, bd]
      dsimp only
      rw [bI_if]
      refine ⟨wc2, wr2, M2, t2, by cases t2 <;> rfl, fun K x2 => ?_, by rw [Bool.and_true] at g3; exact g3, (a5.trans e4.b).trans g4.b, (a6.trans e5.b).trans g5.b⟩
      rw [eR, if_pos rfl, enr, if_neg hp, g2, bd]
theorem reb_l {d : Nat} (hd : d < 2) : ∀ (j b m : Nat) (c : Int32) (wc wr : Wo) (M : Nat → Int32), b + j = 64 → Cr wc wr M true → wr 22 0 = 0 → ∃ wc' wr' M' on r, bG_rebuild_38 Lf (m + (j + 1)) wc 0 (nI d) c (nI b) = some (wc', 0, r) ∧ bM_rebuild_32 Lf (m + (j + 1)) wr 22 (nI d) c (nI b) = some (wr', r) ∧ Cr wc' wr' M' on ∧ FCb wc wc' ∧ FRb wr wr' := by
  intro j
  induction j with
  | zero =>
    intro b m c wc wr M hb h h0
    have hb : b = 64 := by omega
    subst hb
    refine ⟨wc, wr, M, true, c, ?_, ?_, h, FCb.refl _, FRb.refl _⟩
    · show bG_rebuild_38s Lf _ wc 0 (nI d) c (nI 64) = _
      unfold bG_rebuild_38s
      rw [if_pos (by rw [le_64 (by decide)]; omega)]
    · show bM_rebuild_32s Lf _ wr 22 (nI d) c (nI 64) = _
      unfold bM_rebuild_32s
      rw [if_pos (by rw [le_64 (by decide)]; omega)]
  | succ j ih =>
    intro b m c wc wr M hb h h0
    have hb6 : b < 64 := by omega
    have hn : ¬ (64 : Int32) ≤ nI b := by rw [le_64 (by omega)]; omega
    have eC : bG_rebuild_38 Lf (m + (j + 1 + 1)) wc 0 (nI d) c (nI b) = bG_rebuild_38s Lf (bG_rebuild_38 Lf (m + (j + 1))) wc 0 (nI d) c (nI b) := rfl
    have eR : bM_rebuild_32 Lf (m + (j + 1 + 1)) wr 22 (nI d) c (nI b) = bM_rebuild_32s Lf (bM_rebuild_32 Lf (m + (j + 1))) wr 22 (nI d) c (nI b) := rfl
    rw [eC, eR]
    unfold bG_rebuild_38s bM_rebuild_32s
    rw [if_neg hn, if_neg hn, goodCopy_e wc h.N.2.1 hb6, bd, gi22_0, bd, h0, if_pos rfl, codeOf_e _ hb6, bd]
    dsimp only
    rw [← h.N.1, h.N.2.2.2, ← h.N.2.2.1]
    have hcd := cd_le (NC wc) (MC wc) b
    obtain ⟨cv, hcv⟩ : ∃ z, z = cd (NC wc) (MC wc) b := ⟨_, rfl⟩
    rw [← hcv]
    rw [← hcv] at hcd
    unfold gcv
    by_cases hc2 : cv = 2
    · subst hc2
      rw [if_pos rfl, if_pos rfl, if_pos (show nI 2 = 2 from rfl)]
      unfold bG_rebuild_76 bM_rebuild_133
      rw [ad_1]
      exact ih (b + 1) m _ wc wr M (by omega) h h0
    · have hc1 : cv < 2 := by omega
      obtain ⟨wc1, wr1, M1, t, e1, e2, e3, e4, e5⟩ := reb_p h hd hb6 hc1 hcv.symm
      rw [if_neg hc2, if_neg (neg1 (by omega)), if_neg (by rw [eq_2 (by omega)]; exact hc2), e1, bd, e2]
      dsimp only
      rw [bI_if]
      unfold bM_rebuild_126
      rw [bI_if]
      cases t with
      | false => exact ⟨wc1, wr1, M1, false, -1, rfl, rfl, e3, e4, e5⟩
      | true =>
        rw [if_pos rfl, if_pos rfl]
        unfold bG_rebuild_76 bM_rebuild_133
        rw [ad_1]
        obtain ⟨wc2, wr2, M2, on, r, g1, g2, g3, g4, g5⟩ := ih (b + 1) m c wc1 wr1 M1 (by omega) e3 (by rw [e5.2 0 (by decide) (by decide)]; exact h0)
        exact ⟨wc2, wr2, M2, on, r, g1, g2, g3, e4.trans g4, e5.trans g5⟩
theorem reb_ref (w : Wo) (x k : Int32) (hk : ¬ k = 0) : bM_rebuild_25 Lf w 22 x 22 k = some (up2 w 22 0 k, 0) := by
  unfold bM_rebuild_25
  rw [pf22_0, bd]
  show bM_rebuild_32s Lf _ _ 22 _ _ _ = _
  unfold bM_rebuild_32s
  rw [if_neg (by decide +kernel), gi22_0, bd, up2_s, if_neg hk]
theorem op_rebuild {wc wr : Wo} {on : Bool} (h : Inv wc wr on) (x1 : Int32) : Res wc wr (fL_rebuild Lf wc 0 x1 34) (fM_rebuild Lf wr 22 x1) := by
  obtain ⟨eN, eM, hpi, hon, hoff⟩ := h.N
  unfold fL_rebuild fG_rebuild fM_rebuild
  rw [isC0, gdt, isC22, gdt, isBelow_e, bd, bI_if, in_e, bd, bI_if]
  dsimp only
  by_cases h1 : inB x1 2 = true
  case neg =>
    rw [if_neg h1, if_neg h1, bd]
    exact Res.refused h (k := 1) (r := 0) (by decide +kernel) rfl (reb_ref _ _ _ (by decide +kernel))
  rw [if_pos h1, if_pos h1, gr0_2, bd, gi13_0, bd, gi22_6, bd, hon, hoff, bI_if, bI_if]
  cases on with
  | false => exact Res.refused h (k := 2) (r := 0) (by decide +kernel) rfl (reb_ref _ _ _ (by decide +kernel))
  | true =>
    obtain ⟨d, hd, rfl⟩ := inB_of (n := 2) h1 (by decide)
    rw [if_pos rfl, if_neg (fun q => by cases q)]
    unfold bM_rebuild_25
    rw [pf22_0, bd]
    obtain ⟨M, hcr⟩ := h.1
    obtain ⟨wc', wr', M', on, r, g1, g2, g3, g4, g5⟩ := reb_l hd 64 0 935 0 wc (up2 wr 22 0 0) M rfl (hcr.thr 0) (up2_s _ _ _ _)
    have g1' : bG_rebuild_38 Lf 1000 wc 0 (nI d) 0 0 = some (wc', 0, r) := g1
    have g2' : bM_rebuild_32 Lf 1000 (up2 wr 22 0 0) 22 (nI d) 0 0 = some (wr', r) := g2
    rw [g1', g2', bd]
    dsimp only
    rw [if_pos rfl, sl_e, bd]
    have hi : Inv wc' wr' on := (h.cong (wc' := wc) (wr' := up2 wr 22 0 0) (fun c _ => rfl) (fun c k1 k2 => up2_c _ _ (by omega)) (fun i k1 k2 => up2_i _ _ k1)).fr g3 g4 g5
    refine ⟨_, _, 0, r, on, rfl, rfl, by rw [g5.2 0 (by decide) (by decide), up2_s], fun _ => up2_s _ _ _ _, hi.cong (fun c hc => up2_c _ _ (by omega)) (fun c _ _ => rfl) (fun i _ _ => rfl), fun c k1 k2 => by rw [up2_c _ _ k2, g4 c (by omega) (by omega) (by omega) (by omega) (by omega)], fun c hc => ?_⟩
    rw [g5.1 c (by omega) (by omega) (by omega) (by omega) (by omega) (by omega) (by omega) (by omega) (by omega) (by omega), up2_c _ _ (by omega)]

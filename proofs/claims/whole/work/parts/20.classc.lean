/-! written by walk.py: the functions that the bytecode computes, and the walks -/
/-- GuardVolume.scrubBlock(I)Z -/
abbrev rmG_scrubBlock : Room := { frames := 6, cells := 0, slots := 0, locals := 149 }
theorem pkG_scrubBlock : Pk yG_scrubBlock cG_scrubBlock 2 (some .boolean) 1 := ⟨kw_400, kw_1, by decide +kernel, by decide +kernel, by decide +kernel⟩
def fG_scrubBlock (Λ : La) (w : Wo) (c0 : Nat) (x1 : Int32) : Option (Wo × Int32) := gd (isC Λ c0 4) ((fG_mendList Λ w c0 0 x1).bind fun q1 => if q1.2 = 0 then (zr q1.1 0) else ((fG_mendList Λ q1.1 c0 1 x1).bind fun q3 => if q3.2 = 0 then (zr q3.1 0) else ((fG_mendCopies Λ q3.1 c0 x1).bind fun q5 => if q5.2 = 0 then (zr q5.1 0) else (zr q5.1 1))))
set_option maxHeartbeats 4000000 in
set_option maxRecDepth 100000 in
theorem kG_scrubBlock (l : Launch) (G : va_G) (kA kL : ClassId) (Λ : La) (ad : Nat → Nat) (w : Wo) (c0 : Nat) (x1 : Int32) (w1 : Wo) (r : Int32) (hf : fG_scrubBlock Λ w c0 x1 = some (w1, r)) : Mi l yG_scrubBlock cG_scrubBlock 2 (some .boolean) rmG_scrubBlock G kA kL Λ ad [.ref (ad c0), .int x1] w w1 r := by
  refine Mz.of (by decide +kernel) (Nat.le_of_ble_eq_true rfl) ?_
  intro p e s m args below meth c Q ls S hret hl hI
  have S : CallFix p m c cG_scrubBlock 2 s args (.code yG_scrubBlock cG_scrubBlock 2 (some .boolean) :: gW) "GuardVolume" := S
  have hl : lv_has ls 2 [(0, .ref (ad c0)), (1, .int x1)] := hl
  have hx := S.1
  have hb := S.2.1
  unfold fG_scrubBlock at hf
  have hf := (gd_some hf).2
  refine lv_aload_n hx hb dG_scrubBlock_0 rfl (lv_at hl 0 rfl) ?_
  refine lv_iconst hx hb dG_scrubBlock_1 kI_0 ?_
  refine lv_iload_n hx hb dG_scrubBlock_2 rfl (lv_at hl 1 rfl) ?_
  obtain ⟨q1, hq1, hf⟩ := ob_ hf
  refine r_ci (r_V (rest := []) (As := [.int 0, .int x1]) S hl hI (kG_mendList l G kA kL Λ ad w c0 0 x1 q1.1 q1.2 hq1) pkG_mendList kw_403 ks_G_mendList (fcG).1 (gd_some hq1).1 kw_401 ⟨rfl, rfl⟩ ⟨Nat.le_of_ble_eq_true rfl, Nat.le_of_ble_eq_true rfl⟩ rfl rfl (Nat.le_of_ble_eq_true rfl) ⟨Nat.zero_le _, Nat.zero_le _⟩ dG_scrubBlock_3) hI (fun H locs hI => ?_)
  refine lv_if_eq (tgt := 30) hx hb dG_scrubBlock_6 rfl (fun h2 => ?_) (fun h2 => ?_)
  · have hf := ip_ hf h2
    refine lv_iconst hx hb dG_scrubBlock_30 kI_0 ?_
    exact hret _ _ _ _ _ _ hI hf dG_scrubBlock_31
  · have hf := in_ hf h2
    refine lv_aload_n hx hb dG_scrubBlock_9 rfl (lv_at hl 0 rfl) ?_
    refine lv_iconst hx hb dG_scrubBlock_10 kI_1 ?_
    refine lv_iload_n hx hb dG_scrubBlock_11 rfl (lv_at hl 1 rfl) ?_
    obtain ⟨q3, hq3, hf⟩ := ob_ hf
    refine r_ci (r_V (rest := []) (As := [.int 1, .int x1]) S hl hI (kG_mendList l G kA kL Λ ad q1.1 c0 1 x1 q3.1 q3.2 hq3) pkG_mendList kw_403 ks_G_mendList (fcG).1 (gd_some hq3).1 kw_401 ⟨rfl, rfl⟩ ⟨Nat.le_of_ble_eq_true rfl, Nat.le_of_ble_eq_true rfl⟩ rfl rfl (Nat.le_of_ble_eq_true rfl) ⟨Nat.zero_le _, Nat.zero_le _⟩ dG_scrubBlock_12) hI (fun H locs hI => ?_)
    refine lv_if_eq (tgt := 30) hx hb dG_scrubBlock_15 rfl (fun h4 => ?_) (fun h4 => ?_)
    · have hf := ip_ hf h4
      refine lv_iconst hx hb dG_scrubBlock_30 kI_0 ?_
      exact hret _ _ _ _ _ _ hI hf dG_scrubBlock_31
    · have hf := in_ hf h4
      refine lv_aload_n hx hb dG_scrubBlock_18 rfl (lv_at hl 0 rfl) ?_
      refine lv_iload_n hx hb dG_scrubBlock_19 rfl (lv_at hl 1 rfl) ?_
      obtain ⟨q5, hq5, hf⟩ := ob_ hf
      refine r_ci (r_V (rest := []) (As := [.int x1]) S hl hI (kG_mendCopies l G kA kL Λ ad q3.1 c0 x1 q5.1 q5.2 hq5) pkG_mendCopies kw_411 ks_G_mendCopies (fcG).1 (gd_some hq5).1 kw_409 ⟨rfl, rfl⟩ ⟨Nat.le_of_ble_eq_true rfl, Nat.le_of_ble_eq_true rfl⟩ rfl rfl (Nat.le_of_ble_eq_true rfl) ⟨Nat.zero_le _, Nat.zero_le _⟩ dG_scrubBlock_20) hI (fun H locs hI => ?_)
      refine lv_if_eq (tgt := 30) hx hb dG_scrubBlock_23 rfl (fun h6 => ?_) (fun h6 => ?_)
      · have hf := ip_ hf h6
        refine lv_iconst hx hb dG_scrubBlock_30 kI_0 ?_
        exact hret _ _ _ _ _ _ hI hf dG_scrubBlock_31
      · have hf := in_ hf h6
        refine lv_iconst hx hb dG_scrubBlock_26 kI_1 ?_
        refine lv_goto (tgt := 31) hx hb dG_scrubBlock_27 rfl ?_
        exact hret _ _ _ _ _ _ hI hf dG_scrubBlock_31
/-- GuardVolume$Drive.wipe()V -/
abbrev rmD_wipe : Room := { frames := 1, cells := 0, slots := 0, locals := 23 }
theorem pkD_wipe : Pk yD_wipe cD_wipe 1 none 0 := ⟨kw_458, kw_2, by decide +kernel, by decide +kernel, by decide +kernel⟩
def fD_wipe (Λ : La) (w : Wo) (c0 : Nat) : Option Wo := gd (isC Λ c0 0) ((gr Λ c0 0 0).bind fun r1 => (fAf_fill Λ w r1 0).bind fun w2 => (pf Λ w2 c0 0 4 0).bind fun w3 => some w3)
set_option maxHeartbeats 4000000 in
set_option maxRecDepth 100000 in
theorem kD_wipe (l : Launch) (G : va_G) (kA kL : ClassId) (Λ : La) (ad : Nat → Nat) (w : Wo) (c0 : Nat) (w1 : Wo) (hf : fD_wipe Λ w c0 = some w1) : Mv l yD_wipe cD_wipe 1 rmD_wipe G kA kL Λ ad [.ref (ad c0)] w w1 := by
  refine Mv.of (by decide +kernel) (Nat.le_of_ble_eq_true rfl) ?_
  intro p e s m args below meth c Q ls S hret hl hI
  have S : CallFix p m c cD_wipe 1 s args (.code yD_wipe cD_wipe 1 none :: gW) "GuardVolume$Drive" := S
  have hl : lv_has ls 1 [(0, .ref (ad c0))] := hl
  have hx := S.1
  have hb := S.2.1
  unfold fD_wipe at hf
  have hf := (gd_some hf).2
  refine lv_aload_n hx hb dD_wipe_0 rfl (lv_at hl 0 rfl) ?_
  obtain ⟨r1, hr1, hf⟩ := ob_ hf
  refine r_getr (i := 0) S hI fcD (Nat.le_of_ble_eq_true rfl) kw_37 dD_wipe_1 hr1 ?_
  refine lv_iconst hx hb dD_wipe_4 kI_0 ?_
  obtain ⟨w2, hw2, hf⟩ := ob_ hf
  refine r_cv (r_S (rest := []) (As := [.ref (ad r1), .int 0]) S hl hI (kAf_fill l G kA kL Λ ad w r1 0 w2 hw2) pkAf_fill kw_336 kw_459 ⟨rfl, rfl⟩ ⟨Nat.le_of_ble_eq_true rfl, Nat.le_of_ble_eq_true rfl⟩ rfl rfl (Nat.le_of_ble_eq_true rfl) ⟨Nat.zero_le _, Nat.zero_le _⟩ dD_wipe_5) hI (fun H locs hI => ?_)
  refine lv_aload_n hx hb dD_wipe_8 rfl (lv_at hl 0 rfl) ?_
  refine lv_iconst hx hb dD_wipe_9 kI_0 ?_
  obtain ⟨w3, hw3, hf⟩ := ob_ hf
  refine r_put (i := 4) S hI fcD (Nat.le_of_ble_eq_true rfl) kw_42 rfl rfl rfl dD_wipe_10 hw3 (fun H locs hI => ?_)
  exact hret _ _ _ _ _ hI hf dD_wipe_13
/-- GuardVolume.rebuildBlock(III)Z -/
abbrev rmG_rebuildBlock : Room := { frames := 6, cells := 0, slots := 0, locals := 149 }
theorem pkG_rebuildBlock : Pk yG_rebuildBlock cG_rebuildBlock 5 (some .boolean) 3 := ⟨kw_470, kw_1, by decide +kernel, by decide +kernel, by decide +kernel⟩
def fG_rebuildBlock (Λ : La) (w : Wo) (c0 : Nat) (x1 : Int32) (x2 : Int32) (x3 : Int32) : Option (Wo × Int32) := gd (isC Λ c0 4) ((fG_driveOf Λ w c0 x3).bind fun q1 => (gr Λ c0 4 10).bind fun r2 => (fD_giveWords Λ q1.1 q1.2 x2 r2).bind fun w3 => (fG_driveOf Λ w3 c0 x3).bind fun q4 => (fD_at Λ q4.1 q4.2 x2 10).bind fun q5 => (gr Λ c0 4 10).bind fun r6 => (fG_putCopy Λ q5.1 c0 x1 x2 r6 q5.2).bind fun q7 => if q7.2 = 0 then (zr q7.1 0) else ((fG_isPageRight Λ q7.1 c0 x1 (x2 / 8)).bind fun q9 => if q9.2 = 0 then ((fG_storeList Λ q9.1 c0 (1 - x1) x2 q5.2).bind fun q11 => if q11.2 = 0 then (zr q11.1 0) else (zr q11.1 1)) else (zr q9.1 1)))
set_option maxHeartbeats 4000000 in
set_option maxRecDepth 100000 in
theorem kG_rebuildBlock (l : Launch) (G : va_G) (kA kL : ClassId) (Λ : La) (ad : Nat → Nat) (w : Wo) (c0 : Nat) (x1 : Int32) (x2 : Int32) (x3 : Int32) (w1 : Wo) (r : Int32) (hf : fG_rebuildBlock Λ w c0 x1 x2 x3 = some (w1, r)) : Mi l yG_rebuildBlock cG_rebuildBlock 5 (some .boolean) rmG_rebuildBlock G kA kL Λ ad [.ref (ad c0), .int x1, .int x2, .int x3] w w1 r := by
  refine Mz.of (by decide +kernel) (Nat.le_of_ble_eq_true rfl) ?_
  intro p e s m args below meth c Q ls S hret hl hI
  have S : CallFix p m c cG_rebuildBlock 5 s args (.code yG_rebuildBlock cG_rebuildBlock 5 (some .boolean) :: gW) "GuardVolume" := S
  have hl : lv_has ls 5 [(0, .ref (ad c0)), (1, .int x1), (2, .int x2), (3, .int x3)] := hl
  have hx := S.1
  have hb := S.2.1
  unfold fG_rebuildBlock at hf
  have hf := (gd_some hf).2
  refine lv_aload_n hx hb dG_rebuildBlock_0 rfl (lv_at hl 0 rfl) ?_
  refine lv_iload_n hx hb dG_rebuildBlock_1 rfl (lv_at hl 3 rfl) ?_
  obtain ⟨q1, hq1, hf⟩ := ob_ hf
  refine r_cr (r_V (rest := []) (As := [.int x3]) S hl hI (kG_driveOf l G kA kL Λ ad w c0 x3 q1.1 q1.2 hq1) pkG_driveOf kw_257 ks_G_driveOf (fcG).1 (gd_some hq1).1 kw_255 ⟨rfl, rfl⟩ ⟨Nat.le_of_ble_eq_true rfl, Nat.le_of_ble_eq_true rfl⟩ rfl rfl (Nat.le_of_ble_eq_true rfl) ⟨Nat.zero_le _, Nat.zero_le _⟩ dG_rebuildBlock_2) hI (fun H locs hI => ?_)
  refine lv_iload_n hx hb dG_rebuildBlock_5 rfl (lv_at hl 2 rfl) ?_
  refine lv_aload_n hx hb dG_rebuildBlock_6 rfl (lv_at hl 0 rfl) ?_
  obtain ⟨r2, hr2, hf⟩ := ob_ hf
  refine r_getr (i := 10) S hI fcG (Nat.le_of_ble_eq_true rfl) kw_123 dG_rebuildBlock_7 hr2 ?_
  obtain ⟨w3, hw3, hf⟩ := ob_ hf
  refine r_cv (r_VN (rest := []) (As := [.int x2, .ref (ad r2)]) S hl hI (kD_giveWords l G kA kL Λ ad q1.1 q1.2 x2 r2 w3 hw3) pkD_giveWords kw_296 ks_D_giveWords (fcD).1 (gd_some hw3).1 kn_294 ⟨rfl, rfl⟩ ⟨Nat.le_of_ble_eq_true rfl, Nat.le_of_ble_eq_true rfl⟩ rfl rfl (Nat.le_of_ble_eq_true rfl) ⟨Nat.zero_le _, Nat.zero_le _⟩ dG_rebuildBlock_10) hI (fun H locs hI => ?_)
  refine lv_aload_n hx hb dG_rebuildBlock_13 rfl (lv_at hl 0 rfl) ?_
  refine lv_iload_n hx hb dG_rebuildBlock_14 rfl (lv_at hl 3 rfl) ?_
  obtain ⟨q4, hq4, hf⟩ := ob_ hf
  refine r_cr (r_V (rest := []) (As := [.int x3]) S hl hI (kG_driveOf l G kA kL Λ ad w3 c0 x3 q4.1 q4.2 hq4) pkG_driveOf kw_257 ks_G_driveOf (fcG).1 (gd_some hq4).1 kw_255 ⟨rfl, rfl⟩ ⟨Nat.le_of_ble_eq_true rfl, Nat.le_of_ble_eq_true rfl⟩ rfl rfl (Nat.le_of_ble_eq_true rfl) ⟨Nat.zero_le _, Nat.zero_le _⟩ dG_rebuildBlock_15) hI (fun H locs hI => ?_)
  refine lv_iload_n hx hb dG_rebuildBlock_18 rfl (lv_at hl 2 rfl) ?_
  refine lv_bipush hx hb dG_rebuildBlock_19 kB_10 ?_
  obtain ⟨q5, hq5, hf⟩ := ob_ hf
  refine r_ci (r_VN (rest := []) (As := [.int x2, .int 10]) S hl hI (kD_at l G kA kL Λ ad q4.1 q4.2 x2 10 q5.1 q5.2 hq5) pkD_at kw_261 ks_D_at (fcD).1 (gd_some hq5).1 kn_259 ⟨rfl, rfl⟩ ⟨Nat.le_of_ble_eq_true rfl, Nat.le_of_ble_eq_true rfl⟩ rfl rfl (Nat.le_of_ble_eq_true rfl) ⟨Nat.zero_le _, Nat.zero_le _⟩ dG_rebuildBlock_21) hI (fun H locs hI => ?_)
  refine lv_istore hx hb (lv' := [(4, .int q5.2), (0, .ref (ad c0)), (1, .int x1), (2, .int x2), (3, .int x3)]) dG_rebuildBlock_24 hl (Nat.le_of_ble_eq_true rfl) rfl (fun ls hl => ?_)
  refine lv_aload_n hx hb dG_rebuildBlock_26 rfl (lv_at hl 1 rfl) ?_
  refine lv_iload_n hx hb dG_rebuildBlock_27 rfl (lv_at hl 2 rfl) ?_
  refine lv_iload_n hx hb dG_rebuildBlock_28 rfl (lv_at hl 3 rfl) ?_
  refine lv_aload_n hx hb dG_rebuildBlock_29 rfl (lv_at hl 1 rfl) ?_
  obtain ⟨r6, hr6, hf⟩ := ob_ hf
  refine r_getr (i := 10) S hI fcG (Nat.le_of_ble_eq_true rfl) kw_123 dG_rebuildBlock_30 hr6 ?_
  refine lv_iload hx hb dG_rebuildBlock_33 (lv_at hl 0 rfl) ?_
  obtain ⟨q7, hq7, hf⟩ := ob_ hf
  refine r_ci (r_V (rest := []) (As := [.int x1, .int x2, .ref (ad r6), .int q5.2]) S hl hI (kG_putCopy l G kA kL Λ ad q5.1 c0 x1 x2 r6 q5.2 q7.1 q7.2 hq7) pkG_putCopy kw_304 ks_G_putCopy (fcG).1 (gd_some hq7).1 kw_302 ⟨rfl, rfl⟩ ⟨Nat.le_of_ble_eq_true rfl, Nat.le_of_ble_eq_true rfl⟩ rfl rfl (Nat.le_of_ble_eq_true rfl) ⟨Nat.zero_le _, Nat.zero_le _⟩ dG_rebuildBlock_35) hI (fun H locs hI => ?_)
  refine lv_if_ne (tgt := 43) hx hb dG_rebuildBlock_38 rfl (fun h8 => ?_) (fun h8 => ?_)
  · have hf := in_ hf h8
    refine lv_aload_n hx hb dG_rebuildBlock_43 rfl (lv_at hl 1 rfl) ?_
    refine lv_iload_n hx hb dG_rebuildBlock_44 rfl (lv_at hl 2 rfl) ?_
    refine lv_iload_n hx hb dG_rebuildBlock_45 rfl (lv_at hl 3 rfl) ?_
    refine lv_bipush hx hb dG_rebuildBlock_46 kB_8 ?_
    refine lv_idiv hx hb dG_rebuildBlock_48 (by decide +kernel) ?_
    obtain ⟨q9, hq9, hf⟩ := ob_ hf
    refine r_ci (r_V (rest := []) (As := [.int x1, .int (x2 / 8)]) S hl hI (kG_isPageRight l G kA kL Λ ad q7.1 c0 x1 (x2 / 8) q9.1 q9.2 hq9) pkG_isPageRight kw_274 ks_G_isPageRight (fcG).1 (gd_some hq9).1 kw_272 ⟨rfl, rfl⟩ ⟨Nat.le_of_ble_eq_true rfl, Nat.le_of_ble_eq_true rfl⟩ rfl rfl (Nat.le_of_ble_eq_true rfl) ⟨Nat.zero_le _, Nat.zero_le _⟩ dG_rebuildBlock_49) hI (fun H locs hI => ?_)
    refine lv_if_ne (tgt := 68) hx hb dG_rebuildBlock_52 rfl (fun h10 => ?_) (fun h10 => ?_)
    · have hf := in_ hf h10
      refine lv_iconst hx hb dG_rebuildBlock_68 kI_1 ?_
      refine lv_goto (tgt := 73) hx hb dG_rebuildBlock_69 rfl ?_
      exact hret _ _ _ _ _ _ hI hf dG_rebuildBlock_73
    · have hf := ip_ hf h10
      refine lv_aload_n hx hb dG_rebuildBlock_55 rfl (lv_at hl 1 rfl) ?_
      refine lv_iconst hx hb dG_rebuildBlock_56 kI_1 ?_
      refine lv_iload_n hx hb dG_rebuildBlock_57 rfl (lv_at hl 2 rfl) ?_
      refine lv_isub hx hb dG_rebuildBlock_58 ?_
      refine lv_iload_n hx hb dG_rebuildBlock_59 rfl (lv_at hl 3 rfl) ?_
      refine lv_iload hx hb dG_rebuildBlock_60 (lv_at hl 0 rfl) ?_
      obtain ⟨q11, hq11, hf⟩ := ob_ hf
      refine r_ci (r_V (rest := []) (As := [.int (1 - x1), .int x2, .int q5.2]) S hl hI (kG_storeList l G kA kL Λ ad q9.1 c0 (1 - x1) x2 q5.2 q11.1 q11.2 hq11) pkG_storeList kw_333 ks_G_storeList (fcG).1 (gd_some hq11).1 kw_331 ⟨rfl, rfl⟩ ⟨Nat.le_of_ble_eq_true rfl, Nat.le_of_ble_eq_true rfl⟩ rfl rfl (Nat.le_of_ble_eq_true rfl) ⟨Nat.zero_le _, Nat.zero_le _⟩ dG_rebuildBlock_62) hI (fun H locs hI => ?_)
      refine lv_if_eq (tgt := 72) hx hb dG_rebuildBlock_65 rfl (fun h12 => ?_) (fun h12 => ?_)
      · have hf := ip_ hf h12
        refine lv_iconst hx hb dG_rebuildBlock_72 kI_0 ?_
        exact hret _ _ _ _ _ _ hI hf dG_rebuildBlock_73
      · have hf := in_ hf h12
        refine lv_iconst hx hb dG_rebuildBlock_68 kI_1 ?_
        refine lv_goto (tgt := 73) hx hb dG_rebuildBlock_69 rfl ?_
        exact hret _ _ _ _ _ _ hI hf dG_rebuildBlock_73
  · have hf := ip_ hf h8
    refine lv_iconst hx hb dG_rebuildBlock_41 kI_0 ?_
    exact hret _ _ _ _ _ _ hI hf dG_rebuildBlock_42
/-- GuardVolume.greatestPageVersion()I -/
abbrev rmG_greatestPageVersion : Room := { frames := 1, cells := 0, slots := 0, locals := 21 }
theorem pkG_greatestPageVersion : Pk yG_greatestPageVersion cG_greatestPageVersion 3 (some .int) 0 := ⟨kw_481, kw_1, by decide +kernel, by decide +kernel, by decide +kernel⟩
def bG_greatestPageVersion_4s (Λ : La) (K4 : Wo → Nat → Int32 → Int32 → Option (Wo × Int32)) (w : Wo) (c0 : Nat) (x1 : Int32) (x2 : Int32) : Option (Wo × Int32) := (gr Λ c0 4 5).bind fun r1 => (al Λ r1).bind fun v2 => if v2 ≤ x2 then (some (w, x1)) else ((gr Λ c0 4 5).bind fun r4 => (ld Λ w r4 x2).bind fun v5 => K4 w c0 (if x1 < v5 then v5 else x1) (x2 + 1))
def bG_greatestPageVersion_4 (Λ : La) : Nat → Wo → Nat → Int32 → Int32 → Option (Wo × Int32)
  | 0 => fun _ _ _ _ => none
  | n + 1 => bG_greatestPageVersion_4s Λ (bG_greatestPageVersion_4 Λ n)
def fG_greatestPageVersion (Λ : La) (w : Wo) (c0 : Nat) : Option (Wo × Int32) := gd (isC Λ c0 4) (bG_greatestPageVersion_4 Λ 1000 w c0 0 0)
set_option maxHeartbeats 4000000 in
set_option maxRecDepth 100000 in
theorem kG_greatestPageVersion (l : Launch) (G : va_G) (kA kL : ClassId) (Λ : La) (ad : Nat → Nat) (w : Wo) (c0 : Nat) (w1 : Wo) (r : Int32) (hf : fG_greatestPageVersion Λ w c0 = some (w1, r)) : Mi l yG_greatestPageVersion cG_greatestPageVersion 3 (some .int) rmG_greatestPageVersion G kA kL Λ ad [.ref (ad c0)] w w1 r := by
  refine Mi.of (by decide +kernel) (Nat.le_of_ble_eq_true rfl) ?_
  intro p e s m args below meth c Q ls S hret hl hI
  have S : CallFix p m c cG_greatestPageVersion 3 s args (.code yG_greatestPageVersion cG_greatestPageVersion 3 (some .int) :: gW) "GuardVolume" := S
  have hl : lv_has ls 3 [(0, .ref (ad c0))] := hl
  have hx := S.1
  have hb := S.2.1
  have bk4 : ∀ (K4 : Wo → Nat → Int32 → Int32 → Option (Wo × Int32)), (∀ (w : Wo) (c0 : Nat) (x1 : Int32) (x2 : Int32) (H : Heap) (locs : List Loc) (ls : Array Slot), lv_has ls 3 [(0, .ref (ad c0)), (1, .int x1), (2, .int x2)] → Iv (Aa Λ ad) G kA kL Λ ad w s H locs → K4 w c0 x1 x2 = some (w1, r) → W p l e rmG_greatestPageVersion s m args below meth c H locs 0 0 Q (F0 m 4 ls [])) → ∀ (w : Wo) (c0 : Nat) (x1 : Int32) (x2 : Int32) (H : Heap) (locs : List Loc) (ls : Array Slot), lv_has ls 3 [(0, .ref (ad c0)), (1, .int x1), (2, .int x2)] → Iv (Aa Λ ad) G kA kL Λ ad w s H locs → bG_greatestPageVersion_4s Λ K4 w c0 x1 x2 = some (w1, r) → W p l e rmG_greatestPageVersion s m args below meth c H locs 0 0 Q (F0 m 4 ls []) := by
    intro K4 hK4 w c0 x1 x2 H locs ls hl hI hf
    unfold bG_greatestPageVersion_4s at hf
    refine lv_iload_n hx hb dG_greatestPageVersion_4 rfl (lv_at hl 2 rfl) ?_
    refine lv_aload_n hx hb dG_greatestPageVersion_5 rfl (lv_at hl 0 rfl) ?_
    obtain ⟨r1, hr1, hf⟩ := ob_ hf
    refine r_getr (i := 5) S hI fcG (Nat.le_of_ble_eq_true rfl) kw_118 dG_greatestPageVersion_6 hr1 ?_
    obtain ⟨v2, hv2, hf⟩ := ob_ hf
    refine r_alen S hI dG_greatestPageVersion_9 hv2 ?_
    refine lv_icmp_ge (tgt := 30) hx hb dG_greatestPageVersion_10 rfl (fun h3 => ?_) (fun h3 => ?_)
    · have hf := ip_ hf h3
      refine lv_iload_n hx hb dG_greatestPageVersion_30 rfl (lv_at hl 1 rfl) ?_
      exact hret _ _ _ _ _ _ hI hf dG_greatestPageVersion_31
    · have hf := in_ hf h3
      refine lv_iload_n hx hb dG_greatestPageVersion_13 rfl (lv_at hl 1 rfl) ?_
      refine lv_aload_n hx hb dG_greatestPageVersion_14 rfl (lv_at hl 0 rfl) ?_
      obtain ⟨r4, hr4, hf⟩ := ob_ hf
      refine r_getr (i := 5) S hI fcG (Nat.le_of_ble_eq_true rfl) kw_118 dG_greatestPageVersion_15 hr4 ?_
      refine lv_iload_n hx hb dG_greatestPageVersion_18 rfl (lv_at hl 2 rfl) ?_
      obtain ⟨v5, hv5, hf⟩ := ob_ hf
      refine r_ald S hI dG_greatestPageVersion_19 hv5 ?_
      refine r_max S hl kw_482 kw_483 kw_16 kw_484 (Nat.le_of_ble_eq_true rfl) (Nat.le_of_ble_eq_true rfl) ⟨Nat.zero_le _, Nat.zero_le _⟩ dG_greatestPageVersion_20 ?_
      refine lv_istore_n hx hb (lv' := [(1, .int (if x1 < v5 then v5 else x1)), (0, .ref (ad c0)), (2, .int x2)]) dG_greatestPageVersion_23 rfl hl (Nat.le_of_ble_eq_true rfl) rfl (fun ls hl => ?_)
      refine lv_iinc hx hb (lv' := [(2, .int (x2 + 1)), (1, .int (if x1 < v5 then v5 else x1)), (0, .ref (ad c0))]) (k := 2) dG_greatestPageVersion_24 hl rfl (kN_1 _) (Nat.le_of_ble_eq_true rfl) rfl (fun ls hl => ?_)
      refine lv_goto (tgt := 4) hx hb dG_greatestPageVersion_27 rfl ?_
      exact hK4 w c0 (if x1 < v5 then v5 else x1) (x2 + 1) _ _ _ (lv_sub hl [2, 1, 0] rfl) hI hf
  have lp4 : ∀ (n : Nat), ∀ (w : Wo) (c0 : Nat) (x1 : Int32) (x2 : Int32) (H : Heap) (locs : List Loc) (ls : Array Slot), lv_has ls 3 [(0, .ref (ad c0)), (1, .int x1), (2, .int x2)] → Iv (Aa Λ ad) G kA kL Λ ad w s H locs → bG_greatestPageVersion_4 Λ n w c0 x1 x2 = some (w1, r) → W p l e rmG_greatestPageVersion s m args below meth c H locs 0 0 Q (F0 m 4 ls []) := by
    intro n
    induction n with
    | zero =>
      intro w c0 x1 x2 H locs ls hl hI hf
      have hf : (none : Option (Wo × Int32)) = some (w1, r) := hf
      cases hf
    | succ n ih =>
      intro w c0 x1 x2 H locs ls hl hI hf
      exact bk4 (bG_greatestPageVersion_4 Λ n) ih w c0 x1 x2 H locs ls hl hI hf
  unfold fG_greatestPageVersion at hf
  have hf := (gd_some hf).2
  refine lv_iconst hx hb dG_greatestPageVersion_0 kI_0 ?_
  refine lv_istore_n hx hb (lv' := [(1, .int 0), (0, .ref (ad c0))]) dG_greatestPageVersion_1 rfl hl (Nat.le_of_ble_eq_true rfl) rfl (fun ls hl => ?_)
  refine lv_iconst hx hb dG_greatestPageVersion_2 kI_0 ?_
  refine lv_istore_n hx hb (lv' := [(2, .int 0), (1, .int 0), (0, .ref (ad c0))]) dG_greatestPageVersion_3 rfl hl (Nat.le_of_ble_eq_true rfl) rfl (fun ls hl => ?_)
  exact lp4 1000 w c0 0 0 _ _ _ (lv_sub hl [2, 1, 0] rfl) hI hf

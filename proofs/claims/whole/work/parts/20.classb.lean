/-! written by walk.py: the functions that the bytecode computes, and the walks -/
/-- GuardVolume.store(II[II)Z -/
abbrev rmG_store : Room := { frames := 3, cells := 0, slots := 0, locals := 74 }
theorem pkG_store : Pk yG_store cG_store 5 (some .boolean) 4 := ⟨kw_309, kw_1, by decide +kernel, by decide +kernel, by decide +kernel⟩
def fG_store (Λ : La) (w : Wo) (c0 : Nat) (x1 : Int32) (x2 : Int32) (c3 : Nat) (x4 : Int32) : Option (Wo × Int32) := gd (isC Λ c0 4) ((gr Λ c0 4 2).bind fun r1 => (fP_allowsWrite Λ w r1).bind fun q2 => if q2.2 = 0 then (zr q2.1 0) else ((gr Λ c0 4 8).bind fun r4 => (cp Λ q2.1 c3 0 r4 0 8).bind fun w5 => (gr Λ c0 4 8).bind fun r6 => (st Λ w5 r6 9 x2).bind fun w7 => (gr Λ c0 4 8).bind fun r8 => (st Λ w7 r8 10 x4).bind fun w9 => (gr Λ c0 4 8).bind fun r10 => (gr Λ c0 4 8).bind fun r11 => (fG_sumOf Λ w9 r11 0).bind fun q12 => (st Λ q12.1 r10 8 q12.2).bind fun w13 => (fG_driveOf Λ w13 c0 x1).bind fun q14 => (gr Λ c0 4 8).bind fun r15 => (fD_take Λ q14.1 q14.2 x2 r15).bind fun w16 => zr w16 1))
set_option maxHeartbeats 4000000 in
set_option maxRecDepth 100000 in
theorem kG_store (l : Launch) (G : va_G) (kA kL : ClassId) (Λ : La) (ad : Nat → Nat) (w : Wo) (c0 : Nat) (x1 : Int32) (x2 : Int32) (c3 : Nat) (x4 : Int32) (w1 : Wo) (r : Int32) (hf : fG_store Λ w c0 x1 x2 c3 x4 = some (w1, r)) : Mi l yG_store cG_store 5 (some .boolean) rmG_store G kA kL Λ ad [.ref (ad c0), .int x1, .int x2, .ref (ad c3), .int x4] w w1 r := by
  refine Mz.of (by decide +kernel) (Nat.le_of_ble_eq_true rfl) ?_
  intro p e s m args below meth c Q ls S hret hl hI
  have S : CallFix p m c cG_store 5 s args (.code yG_store cG_store 5 (some .boolean) :: gW) "GuardVolume" := S
  have hl : lv_has ls 5 [(0, .ref (ad c0)), (1, .int x1), (2, .int x2), (3, .ref (ad c3)), (4, .int x4)] := hl
  have hx := S.1
  have hb := S.2.1
  unfold fG_store at hf
  have hf := (gd_some hf).2
  refine lv_aload_n hx hb dG_store_0 rfl (lv_at hl 0 rfl) ?_
  obtain ⟨r1, hr1, hf⟩ := ob_ hf
  refine r_getr (i := 2) S hI fcG (Nat.le_of_ble_eq_true rfl) kw_115 dG_store_1 hr1 ?_
  obtain ⟨q2, hq2, hf⟩ := ob_ hf
  refine r_ci (r_VN (rest := []) (As := []) S hl hI (kP_allowsWrite l G kA kL Λ ad w r1 q2.1 q2.2 hq2) pkP_allowsWrite kw_312 ks_P_allowsWrite (fcP).1 (gd_some hq2).1 kn_310 ⟨rfl, rfl⟩ ⟨Nat.le_of_ble_eq_true rfl, Nat.le_of_ble_eq_true rfl⟩ rfl rfl (Nat.le_of_ble_eq_true rfl) ⟨Nat.zero_le _, Nat.zero_le _⟩ dG_store_4) hI (fun H locs hI => ?_)
  refine lv_if_ne (tgt := 12) hx hb dG_store_7 rfl (fun h3 => ?_) (fun h3 => ?_)
  · have hf := in_ hf h3
    refine lv_aload_n hx hb dG_store_12 rfl (lv_at hl 3 rfl) ?_
    refine lv_iconst hx hb dG_store_13 kI_0 ?_
    refine lv_aload_n hx hb dG_store_14 rfl (lv_at hl 0 rfl) ?_
    obtain ⟨r4, hr4, hf⟩ := ob_ hf
    refine r_getr (i := 8) S hI fcG (Nat.le_of_ble_eq_true rfl) kw_121 dG_store_15 hr4 ?_
    refine lv_iconst hx hb dG_store_18 kI_0 ?_
    refine lv_bipush hx hb dG_store_19 kB_8 ?_
    obtain ⟨w5, hw5, hf⟩ := ob_ hf
    refine r_cpy (rest := []) S hl hI kw_314 kw_36 kw_35 kw_3 (Nat.le_of_ble_eq_true rfl) (Nat.le_of_ble_eq_true rfl) dG_store_21 hw5 (fun H locs hI => ?_)
    refine lv_aload_n hx hb dG_store_24 rfl (lv_at hl 0 rfl) ?_
    obtain ⟨r6, hr6, hf⟩ := ob_ hf
    refine r_getr (i := 8) S hI fcG (Nat.le_of_ble_eq_true rfl) kw_121 dG_store_25 hr6 ?_
    refine lv_bipush hx hb dG_store_28 kB_9 ?_
    refine lv_iload_n hx hb dG_store_30 rfl (lv_at hl 2 rfl) ?_
    obtain ⟨w7, hw7, hf⟩ := ob_ hf
    refine r_ast S hI dG_store_31 hw7 (fun H locs hI => ?_)
    refine lv_aload_n hx hb dG_store_32 rfl (lv_at hl 0 rfl) ?_
    obtain ⟨r8, hr8, hf⟩ := ob_ hf
    refine r_getr (i := 8) S hI fcG (Nat.le_of_ble_eq_true rfl) kw_121 dG_store_33 hr8 ?_
    refine lv_bipush hx hb dG_store_36 kB_10 ?_
    refine lv_iload hx hb dG_store_38 (lv_at hl 4 rfl) ?_
    obtain ⟨w9, hw9, hf⟩ := ob_ hf
    refine r_ast S hI dG_store_40 hw9 (fun H locs hI => ?_)
    refine lv_aload_n hx hb dG_store_41 rfl (lv_at hl 0 rfl) ?_
    obtain ⟨r10, hr10, hf⟩ := ob_ hf
    refine r_getr (i := 8) S hI fcG (Nat.le_of_ble_eq_true rfl) kw_121 dG_store_42 hr10 ?_
    refine lv_bipush hx hb dG_store_45 kB_8 ?_
    refine lv_aload_n hx hb dG_store_47 rfl (lv_at hl 0 rfl) ?_
    obtain ⟨r11, hr11, hf⟩ := ob_ hf
    refine r_getr (i := 8) S hI fcG (Nat.le_of_ble_eq_true rfl) kw_121 dG_store_48 hr11 ?_
    refine lv_iconst hx hb dG_store_51 kI_0 ?_
    obtain ⟨q12, hq12, hf⟩ := ob_ hf
    refine r_ci (r_S (rest := [.int 8, .ref (ad r10)]) (As := [.ref (ad r11), .int 0]) S hl hI (kG_sumOf l G kA kL Λ ad w9 r11 0 q12.1 q12.2 hq12) pkG_sumOf kw_32 kw_263 ⟨rfl, rfl⟩ ⟨Nat.le_of_ble_eq_true rfl, Nat.le_of_ble_eq_true rfl⟩ rfl rfl (Nat.le_of_ble_eq_true rfl) ⟨Nat.zero_le _, Nat.zero_le _⟩ dG_store_52) hI (fun H locs hI => ?_)
    obtain ⟨w13, hw13, hf⟩ := ob_ hf
    refine r_ast S hI dG_store_55 hw13 (fun H locs hI => ?_)
    refine lv_aload_n hx hb dG_store_56 rfl (lv_at hl 0 rfl) ?_
    refine lv_iload_n hx hb dG_store_57 rfl (lv_at hl 1 rfl) ?_
    obtain ⟨q14, hq14, hf⟩ := ob_ hf
    refine r_cr (r_V (rest := []) (As := [.int x1]) S hl hI (kG_driveOf l G kA kL Λ ad w13 c0 x1 q14.1 q14.2 hq14) pkG_driveOf kw_257 ks_G_driveOf (fcG).1 (gd_some hq14).1 kw_255 ⟨rfl, rfl⟩ ⟨Nat.le_of_ble_eq_true rfl, Nat.le_of_ble_eq_true rfl⟩ rfl rfl (Nat.le_of_ble_eq_true rfl) ⟨Nat.zero_le _, Nat.zero_le _⟩ dG_store_58) hI (fun H locs hI => ?_)
    refine lv_iload_n hx hb dG_store_61 rfl (lv_at hl 2 rfl) ?_
    refine lv_aload_n hx hb dG_store_62 rfl (lv_at hl 0 rfl) ?_
    obtain ⟨r15, hr15, hf⟩ := ob_ hf
    refine r_getr (i := 8) S hI fcG (Nat.le_of_ble_eq_true rfl) kw_121 dG_store_63 hr15 ?_
    obtain ⟨w16, hw16, hf⟩ := ob_ hf
    refine r_cv (r_VN (rest := []) (As := [.int x2, .ref (ad r15)]) S hl hI (kD_take l G kA kL Λ ad q14.1 q14.2 x2 r15 w16 hw16) pkD_take kw_317 ks_D_take (fcD).1 (gd_some hw16).1 kn_315 ⟨rfl, rfl⟩ ⟨Nat.le_of_ble_eq_true rfl, Nat.le_of_ble_eq_true rfl⟩ rfl rfl (Nat.le_of_ble_eq_true rfl) ⟨Nat.zero_le _, Nat.zero_le _⟩ dG_store_66) hI (fun H locs hI => ?_)
    refine lv_iconst hx hb dG_store_69 kI_1 ?_
    exact hret _ _ _ _ _ _ hI hf dG_store_70
  · have hf := ip_ hf h3
    refine lv_iconst hx hb dG_store_10 kI_0 ?_
    exact hret _ _ _ _ _ _ hI hf dG_store_11
/-- GuardVolume.storeList(III)Z -/
abbrev rmG_storeList : Room := { frames := 4, cells := 0, slots := 0, locals := 98 }
theorem pkG_storeList : Pk yG_storeList cG_storeList 8 (some .boolean) 3 := ⟨kw_334, kw_1, by decide +kernel, by decide +kernel, by decide +kernel⟩
def bG_storeList_50 (Λ : La) (w : Wo) (c0 : Nat) (x1 : Int32) (x2 : Int32) (x3 : Int32) (x4 : Int32) : Option (Wo × Int32) := (gr Λ c0 4 9).bind fun r1 => (st Λ w r1 (x2 - x2 / 8 * 8) x3).bind fun w2 => (gr Λ c0 4 5).bind fun r3 => (ld Λ w2 r3 (((1 - x1) * 8) + x4)).bind fun v4 => (gr Λ c0 4 9).bind fun r5 => (fG_store Λ w2 c0 (1 - x1) (64 + x4) r5 (v4 + 1)).bind fun q6 => if q6.2 = 0 then (zr q6.1 0) else ((gr Λ c0 4 5).bind fun r8 => (st Λ q6.1 r8 (((1 - x1) * 8) + x4) (v4 + 1)).bind fun w9 => zr w9 1)
def fG_storeList (Λ : La) (w : Wo) (c0 : Nat) (x1 : Int32) (x2 : Int32) (x3 : Int32) : Option (Wo × Int32) := gd (isC Λ c0 4) ((fG_listDrive Λ w c0 x1 (x2 / 8)).bind fun q10 => if q10.2 = (-1) then ((gr Λ c0 4 9).bind fun r15 => (fAf_fill Λ q10.1 r15 0).bind fun w16 => bG_storeList_50 Λ w16 c0 x1 x2 x3 (x2 / 8)) else ((fG_driveOf Λ q10.1 c0 q10.2).bind fun q12 => (gr Λ c0 4 9).bind fun r13 => (fD_giveWords Λ q12.1 q12.2 (64 + (x2 / 8)) r13).bind fun w14 => bG_storeList_50 Λ w14 c0 x1 x2 x3 (x2 / 8)))
set_option maxHeartbeats 4000000 in
set_option maxRecDepth 100000 in
theorem kG_storeList (l : Launch) (G : va_G) (kA kL : ClassId) (Λ : La) (ad : Nat → Nat) (w : Wo) (c0 : Nat) (x1 : Int32) (x2 : Int32) (x3 : Int32) (w1 : Wo) (r : Int32) (hf : fG_storeList Λ w c0 x1 x2 x3 = some (w1, r)) : Mi l yG_storeList cG_storeList 8 (some .boolean) rmG_storeList G kA kL Λ ad [.ref (ad c0), .int x1, .int x2, .int x3] w w1 r := by
  refine Mz.of (by decide +kernel) (Nat.le_of_ble_eq_true rfl) ?_
  intro p e s m args below meth c Q ls S hret hl hI
  have S : CallFix p m c cG_storeList 8 s args (.code yG_storeList cG_storeList 8 (some .boolean) :: gW) "GuardVolume" := S
  have hl : lv_has ls 8 [(0, .ref (ad c0)), (1, .int x1), (2, .int x2), (3, .int x3)] := hl
  have hx := S.1
  have hb := S.2.1
  have bk50 : ∀ (w : Wo) (c0 : Nat) (x1 : Int32) (x2 : Int32) (x3 : Int32) (x4 : Int32) (H : Heap) (locs : List Loc) (ls : Array Slot), lv_has ls 8 [(0, .ref (ad c0)), (1, .int x1), (2, .int x2), (3, .int x3), (4, .int x4)] → Iv (Aa Λ ad) G kA kL Λ ad w s H locs → bG_storeList_50 Λ w c0 x1 x2 x3 x4 = some (w1, r) → W p l e rmG_storeList s m args below meth c H locs 0 0 Q (F0 m 50 ls []) := by
    intro w c0 x1 x2 x3 x4 H locs ls hl hI hf
    unfold bG_storeList_50 at hf
    refine lv_aload_n hx hb dG_storeList_50 rfl (lv_at hl 0 rfl) ?_
    obtain ⟨r1, hr1, hf⟩ := ob_ hf
    refine r_getr (i := 9) S hI fcG (Nat.le_of_ble_eq_true rfl) kw_122 dG_storeList_51 hr1 ?_
    refine lv_iload_n hx hb dG_storeList_54 rfl (lv_at hl 2 rfl) ?_
    refine lv_bipush hx hb dG_storeList_55 kB_8 ?_
    refine lv_irem hx hb dG_storeList_57 (by decide +kernel) ?_
    refine lv_iload_n hx hb dG_storeList_58 rfl (lv_at hl 3 rfl) ?_
    obtain ⟨w2, hw2, hf⟩ := ob_ hf
    refine r_ast S hI dG_storeList_59 hw2 (fun H locs hI => ?_)
    refine lv_iconst hx hb dG_storeList_60 kI_1 ?_
    refine lv_iload_n hx hb dG_storeList_61 rfl (lv_at hl 1 rfl) ?_
    refine lv_isub hx hb dG_storeList_62 ?_
    refine lv_bipush hx hb dG_storeList_63 kB_8 ?_
    refine lv_imul hx hb dG_storeList_65 ?_
    refine lv_iload hx hb dG_storeList_66 (lv_at hl 4 rfl) ?_
    refine lv_iadd hx hb dG_storeList_68 ?_
    refine lv_istore hx hb (lv' := [(6, .int (((1 - x1) * 8) + x4)), (0, .ref (ad c0)), (1, .int x1), (2, .int x2), (3, .int x3), (4, .int x4)]) dG_storeList_69 hl (Nat.le_of_ble_eq_true rfl) rfl (fun ls hl => ?_)
    refine W.eq (g2 := F0 m 71 ls _) rfl ?_
    refine lv_aload_n hx hb dG_storeList_71 rfl (lv_at hl 1 rfl) ?_
    obtain ⟨r3, hr3, hf⟩ := ob_ hf
    refine r_getr (i := 5) S hI fcG (Nat.le_of_ble_eq_true rfl) kw_118 dG_storeList_72 hr3 ?_
    refine lv_iload hx hb dG_storeList_75 (lv_at hl 0 rfl) ?_
    obtain ⟨v4, hv4, hf⟩ := ob_ hf
    refine r_ald S hI dG_storeList_77 hv4 ?_
    refine lv_iconst hx hb dG_storeList_78 kI_1 ?_
    refine lv_iadd hx hb dG_storeList_79 ?_
    refine lv_istore hx hb (lv' := [(7, .int (v4 + 1)), (6, .int (((1 - x1) * 8) + x4)), (0, .ref (ad c0)), (1, .int x1), (2, .int x2), (3, .int x3), (4, .int x4)]) dG_storeList_80 hl (Nat.le_of_ble_eq_true rfl) rfl (fun ls hl => ?_)
    refine lv_aload_n hx hb dG_storeList_82 rfl (lv_at hl 2 rfl) ?_
    refine lv_iconst hx hb dG_storeList_83 kI_1 ?_
    refine lv_iload_n hx hb dG_storeList_84 rfl (lv_at hl 3 rfl) ?_
    refine lv_isub hx hb dG_storeList_85 ?_
    refine lv_bipush hx hb dG_storeList_86 kB_64 ?_
    refine W.eq (g2 := F0 m 88 ls _) rfl ?_
    refine lv_iload hx hb dG_storeList_88 (lv_at hl 6 rfl) ?_
    refine lv_iadd hx hb dG_storeList_90 ?_
    refine lv_aload_n hx hb dG_storeList_91 rfl (lv_at hl 2 rfl) ?_
    obtain ⟨r5, hr5, hf⟩ := ob_ hf
    refine r_getr (i := 9) S hI fcG (Nat.le_of_ble_eq_true rfl) kw_122 dG_storeList_92 hr5 ?_
    refine lv_iload hx hb dG_storeList_95 (lv_at hl 0 rfl) ?_
    obtain ⟨q6, hq6, hf⟩ := ob_ hf
    refine r_ci (r_V (rest := []) (As := [.int (1 - x1), .int (64 + x4), .ref (ad r5), .int (v4 + 1)]) S hl hI (kG_store l G kA kL Λ ad w2 c0 (1 - x1) (64 + x4) r5 (v4 + 1) q6.1 q6.2 hq6) pkG_store kw_308 ks_G_store (fcG).1 (gd_some hq6).1 kw_306 ⟨rfl, rfl⟩ ⟨Nat.le_of_ble_eq_true rfl, Nat.le_of_ble_eq_true rfl⟩ rfl rfl (Nat.le_of_ble_eq_true rfl) ⟨Nat.zero_le _, Nat.zero_le _⟩ dG_storeList_97) hI (fun H locs hI => ?_)
    refine lv_if_ne (tgt := 105) hx hb dG_storeList_100 rfl (fun h7 => ?_) (fun h7 => ?_)
    · have hf := in_ hf h7
      refine lv_aload_n hx hb dG_storeList_105 rfl (lv_at hl 2 rfl) ?_
      obtain ⟨r8, hr8, hf⟩ := ob_ hf
      refine r_getr (i := 5) S hI fcG (Nat.le_of_ble_eq_true rfl) kw_118 dG_storeList_106 hr8 ?_
      refine lv_iload hx hb dG_storeList_109 (lv_at hl 1 rfl) ?_
      refine lv_iload hx hb dG_storeList_111 (lv_at hl 0 rfl) ?_
      obtain ⟨w9, hw9, hf⟩ := ob_ hf
      refine r_ast S hI dG_storeList_113 hw9 (fun H locs hI => ?_)
      refine lv_iconst hx hb dG_storeList_114 kI_1 ?_
      exact hret _ _ _ _ _ _ hI hf dG_storeList_115
    · have hf := ip_ hf h7
      refine lv_iconst hx hb dG_storeList_103 kI_0 ?_
      exact hret _ _ _ _ _ _ hI hf dG_storeList_104
  unfold fG_storeList at hf
  have hf := (gd_some hf).2
  refine lv_iload_n hx hb dG_storeList_0 rfl (lv_at hl 2 rfl) ?_
  refine lv_bipush hx hb dG_storeList_1 kB_8 ?_
  refine lv_idiv hx hb dG_storeList_3 (by decide +kernel) ?_
  refine lv_istore hx hb (lv' := [(4, .int (x2 / 8)), (0, .ref (ad c0)), (1, .int x1), (2, .int x2), (3, .int x3)]) dG_storeList_4 hl (Nat.le_of_ble_eq_true rfl) rfl (fun ls hl => ?_)
  refine lv_aload_n hx hb dG_storeList_6 rfl (lv_at hl 1 rfl) ?_
  refine lv_iload_n hx hb dG_storeList_7 rfl (lv_at hl 2 rfl) ?_
  refine lv_iload hx hb dG_storeList_8 (lv_at hl 0 rfl) ?_
  obtain ⟨q10, hq10, hf⟩ := ob_ hf
  refine r_ci (r_V (rest := []) (As := [.int x1, .int (x2 / 8)]) S hl hI (kG_listDrive l G kA kL Λ ad w c0 x1 (x2 / 8) q10.1 q10.2 hq10) pkG_listDrive kw_270 ks_G_listDrive (fcG).1 (gd_some hq10).1 kw_268 ⟨rfl, rfl⟩ ⟨Nat.le_of_ble_eq_true rfl, Nat.le_of_ble_eq_true rfl⟩ rfl rfl (Nat.le_of_ble_eq_true rfl) ⟨Nat.zero_le _, Nat.zero_le _⟩ dG_storeList_10) hI (fun H locs hI => ?_)
  refine lv_istore hx hb (lv' := [(5, .int q10.2), (4, .int (x2 / 8)), (0, .ref (ad c0)), (1, .int x1), (2, .int x2), (3, .int x3)]) dG_storeList_13 hl (Nat.le_of_ble_eq_true rfl) rfl (fun ls hl => ?_)
  refine lv_iload hx hb dG_storeList_15 (lv_at hl 0 rfl) ?_
  refine lv_iconst hx hb dG_storeList_17 kI_m1 ?_
  refine lv_icmp_ne (tgt := 32) hx hb dG_storeList_18 rfl (fun h11 => ?_) (fun h11 => ?_)
  · have hf := in_ hf h11
    refine lv_aload_n hx hb dG_storeList_32 rfl (lv_at hl 2 rfl) ?_
    refine lv_iload hx hb dG_storeList_33 (lv_at hl 0 rfl) ?_
    obtain ⟨q12, hq12, hf⟩ := ob_ hf
    refine r_cr (r_V (rest := []) (As := [.int q10.2]) S hl hI (kG_driveOf l G kA kL Λ ad q10.1 c0 q10.2 q12.1 q12.2 hq12) pkG_driveOf kw_257 ks_G_driveOf (fcG).1 (gd_some hq12).1 kw_255 ⟨rfl, rfl⟩ ⟨Nat.le_of_ble_eq_true rfl, Nat.le_of_ble_eq_true rfl⟩ rfl rfl (Nat.le_of_ble_eq_true rfl) ⟨Nat.zero_le _, Nat.zero_le _⟩ dG_storeList_35) hI (fun H locs hI => ?_)
    refine lv_bipush hx hb dG_storeList_38 kB_64 ?_
    refine lv_iload hx hb dG_storeList_40 (lv_at hl 1 rfl) ?_
    refine lv_iadd hx hb dG_storeList_42 ?_
    refine lv_aload_n hx hb dG_storeList_43 rfl (lv_at hl 2 rfl) ?_
    obtain ⟨r13, hr13, hf⟩ := ob_ hf
    refine r_getr (i := 9) S hI fcG (Nat.le_of_ble_eq_true rfl) kw_122 dG_storeList_44 hr13 ?_
    obtain ⟨w14, hw14, hf⟩ := ob_ hf
    refine r_cv (r_VN (rest := []) (As := [.int (64 + (x2 / 8)), .ref (ad r13)]) S hl hI (kD_giveWords l G kA kL Λ ad q12.1 q12.2 (64 + (x2 / 8)) r13 w14 hw14) pkD_giveWords kw_296 ks_D_giveWords (fcD).1 (gd_some hw14).1 kn_294 ⟨rfl, rfl⟩ ⟨Nat.le_of_ble_eq_true rfl, Nat.le_of_ble_eq_true rfl⟩ rfl rfl (Nat.le_of_ble_eq_true rfl) ⟨Nat.zero_le _, Nat.zero_le _⟩ dG_storeList_47) hI (fun H locs hI => ?_)
    exact bk50 w14 c0 x1 x2 x3 (x2 / 8) _ _ _ (lv_sub hl [2, 3, 4, 5, 1] rfl) hI hf
  · have hf := ip_ hf h11
    refine lv_aload_n hx hb dG_storeList_21 rfl (lv_at hl 2 rfl) ?_
    obtain ⟨r15, hr15, hf⟩ := ob_ hf
    refine r_getr (i := 9) S hI fcG (Nat.le_of_ble_eq_true rfl) kw_122 dG_storeList_22 hr15 ?_
    refine lv_iconst hx hb dG_storeList_25 kI_0 ?_
    obtain ⟨w16, hw16, hf⟩ := ob_ hf
    refine r_cv (r_S (rest := []) (As := [.ref (ad r15), .int 0]) S hl hI (kAf_fill l G kA kL Λ ad q10.1 r15 0 w16 hw16) pkAf_fill kw_336 kw_335 ⟨rfl, rfl⟩ ⟨Nat.le_of_ble_eq_true rfl, Nat.le_of_ble_eq_true rfl⟩ rfl rfl (Nat.le_of_ble_eq_true rfl) ⟨Nat.zero_le _, Nat.zero_le _⟩ dG_storeList_26) hI (fun H locs hI => ?_)
    refine lv_goto (tgt := 50) hx hb dG_storeList_29 rfl ?_
    exact bk50 w16 c0 x1 x2 x3 (x2 / 8) _ _ _ (lv_sub hl [2, 3, 4, 5, 1] rfl) hI hf
/-- GuardVolume.putCopy(II[II)Z -/
abbrev rmG_putCopy : Room := { frames := 5, cells := 0, slots := 0, locals := 125 }
theorem pkG_putCopy : Pk yG_putCopy cG_putCopy 5 (some .boolean) 4 := ⟨kw_305, kw_1, by decide +kernel, by decide +kernel, by decide +kernel⟩
def fG_putCopy (Λ : La) (w : Wo) (c0 : Nat) (x1 : Int32) (x2 : Int32) (c3 : Nat) (x4 : Int32) : Option (Wo × Int32) := gd (isC Λ c0 4) ((fG_store Λ w c0 x1 x2 c3 x4).bind fun q1 => if q1.2 = 0 then (zr q1.1 0) else ((fG_storeList Λ q1.1 c0 x1 x2 x4).bind fun q3 => if q3.2 = 0 then (zr q3.1 0) else (zr q3.1 1)))
set_option maxHeartbeats 4000000 in
set_option maxRecDepth 100000 in
theorem kG_putCopy (l : Launch) (G : va_G) (kA kL : ClassId) (Λ : La) (ad : Nat → Nat) (w : Wo) (c0 : Nat) (x1 : Int32) (x2 : Int32) (c3 : Nat) (x4 : Int32) (w1 : Wo) (r : Int32) (hf : fG_putCopy Λ w c0 x1 x2 c3 x4 = some (w1, r)) : Mi l yG_putCopy cG_putCopy 5 (some .boolean) rmG_putCopy G kA kL Λ ad [.ref (ad c0), .int x1, .int x2, .ref (ad c3), .int x4] w w1 r := by
  refine Mz.of (by decide +kernel) (Nat.le_of_ble_eq_true rfl) ?_
  intro p e s m args below meth c Q ls S hret hl hI
  have S : CallFix p m c cG_putCopy 5 s args (.code yG_putCopy cG_putCopy 5 (some .boolean) :: gW) "GuardVolume" := S
  have hl : lv_has ls 5 [(0, .ref (ad c0)), (1, .int x1), (2, .int x2), (3, .ref (ad c3)), (4, .int x4)] := hl
  have hx := S.1
  have hb := S.2.1
  unfold fG_putCopy at hf
  have hf := (gd_some hf).2
  refine lv_aload_n hx hb dG_putCopy_0 rfl (lv_at hl 0 rfl) ?_
  refine lv_iload_n hx hb dG_putCopy_1 rfl (lv_at hl 1 rfl) ?_
  refine lv_iload_n hx hb dG_putCopy_2 rfl (lv_at hl 2 rfl) ?_
  refine lv_aload_n hx hb dG_putCopy_3 rfl (lv_at hl 3 rfl) ?_
  refine lv_iload hx hb dG_putCopy_4 (lv_at hl 4 rfl) ?_
  obtain ⟨q1, hq1, hf⟩ := ob_ hf
  refine r_ci (r_V (rest := []) (As := [.int x1, .int x2, .ref (ad c3), .int x4]) S hl hI (kG_store l G kA kL Λ ad w c0 x1 x2 c3 x4 q1.1 q1.2 hq1) pkG_store kw_308 ks_G_store (fcG).1 (gd_some hq1).1 kw_306 ⟨rfl, rfl⟩ ⟨Nat.le_of_ble_eq_true rfl, Nat.le_of_ble_eq_true rfl⟩ rfl rfl (Nat.le_of_ble_eq_true rfl) ⟨Nat.zero_le _, Nat.zero_le _⟩ dG_putCopy_6) hI (fun H locs hI => ?_)
  refine lv_if_eq (tgt := 27) hx hb dG_putCopy_9 rfl (fun h2 => ?_) (fun h2 => ?_)
  · have hf := ip_ hf h2
    refine lv_iconst hx hb dG_putCopy_27 kI_0 ?_
    exact hret _ _ _ _ _ _ hI hf dG_putCopy_28
  · have hf := in_ hf h2
    refine lv_aload_n hx hb dG_putCopy_12 rfl (lv_at hl 0 rfl) ?_
    refine lv_iload_n hx hb dG_putCopy_13 rfl (lv_at hl 1 rfl) ?_
    refine lv_iload_n hx hb dG_putCopy_14 rfl (lv_at hl 2 rfl) ?_
    refine lv_iload hx hb dG_putCopy_15 (lv_at hl 4 rfl) ?_
    obtain ⟨q3, hq3, hf⟩ := ob_ hf
    refine r_ci (r_V (rest := []) (As := [.int x1, .int x2, .int x4]) S hl hI (kG_storeList l G kA kL Λ ad q1.1 c0 x1 x2 x4 q3.1 q3.2 hq3) pkG_storeList kw_333 ks_G_storeList (fcG).1 (gd_some hq3).1 kw_331 ⟨rfl, rfl⟩ ⟨Nat.le_of_ble_eq_true rfl, Nat.le_of_ble_eq_true rfl⟩ rfl rfl (Nat.le_of_ble_eq_true rfl) ⟨Nat.zero_le _, Nat.zero_le _⟩ dG_putCopy_17) hI (fun H locs hI => ?_)
    refine lv_if_eq (tgt := 27) hx hb dG_putCopy_20 rfl (fun h4 => ?_) (fun h4 => ?_)
    · have hf := ip_ hf h4
      refine lv_iconst hx hb dG_putCopy_27 kI_0 ?_
      exact hret _ _ _ _ _ _ hI hf dG_putCopy_28
    · have hf := in_ hf h4
      refine lv_iconst hx hb dG_putCopy_23 kI_1 ?_
      refine lv_goto (tgt := 28) hx hb dG_putCopy_24 rfl ?_
      exact hret _ _ _ _ _ _ hI hf dG_putCopy_28
/-- GuardVolume.putNotedBlock()Z -/
abbrev rmG_putNotedBlock : Room := { frames := 6, cells := 0, slots := 0, locals := 149 }
theorem pkG_putNotedBlock : Pk yG_putNotedBlock cG_putNotedBlock 2 (some .boolean) 0 := ⟨kw_301, kw_1, by decide +kernel, by decide +kernel, by decide +kernel⟩
def bG_putNotedBlock_2s (Λ : La) (K2 : Wo → Nat → Int32 → Option (Wo × Int32)) (w : Wo) (c0 : Nat) (x1 : Int32) : Option (Wo × Int32) := if 2 ≤ x1 then ((gr Λ c0 4 3).bind fun r2 => (pf Λ w r2 2 1 (-1)).bind fun w3 => zr w3 1) else ((gr Λ c0 4 3).bind fun r4 => (gi Λ w r4 2 1).bind fun v5 => (gr Λ c0 4 3).bind fun r6 => (gr Λ r6 2 0).bind fun r7 => (gr Λ c0 4 3).bind fun r8 => (gi Λ w r8 2 2).bind fun v9 => (fG_putCopy Λ w c0 x1 v5 r7 v9).bind fun q10 => if q10.2 = 0 then (zr q10.1 0) else (K2 q10.1 c0 (x1 + 1)))
def bG_putNotedBlock_2 (Λ : La) : Nat → Wo → Nat → Int32 → Option (Wo × Int32)
  | 0 => fun _ _ _ => none
  | n + 1 => bG_putNotedBlock_2s Λ (bG_putNotedBlock_2 Λ n)
def fG_putNotedBlock (Λ : La) (w : Wo) (c0 : Nat) : Option (Wo × Int32) := gd (isC Λ c0 4) (bG_putNotedBlock_2 Λ 1000 w c0 0)
set_option maxHeartbeats 4000000 in
set_option maxRecDepth 100000 in
theorem kG_putNotedBlock (l : Launch) (G : va_G) (kA kL : ClassId) (Λ : La) (ad : Nat → Nat) (w : Wo) (c0 : Nat) (w1 : Wo) (r : Int32) (hf : fG_putNotedBlock Λ w c0 = some (w1, r)) : Mi l yG_putNotedBlock cG_putNotedBlock 2 (some .boolean) rmG_putNotedBlock G kA kL Λ ad [.ref (ad c0)] w w1 r := by
  refine Mz.of (by decide +kernel) (Nat.le_of_ble_eq_true rfl) ?_
  intro p e s m args below meth c Q ls S hret hl hI
  have S : CallFix p m c cG_putNotedBlock 2 s args (.code yG_putNotedBlock cG_putNotedBlock 2 (some .boolean) :: gW) "GuardVolume" := S
  have hl : lv_has ls 2 [(0, .ref (ad c0))] := hl
  have hx := S.1
  have hb := S.2.1
  have bk2 : ∀ (K2 : Wo → Nat → Int32 → Option (Wo × Int32)), (∀ (w : Wo) (c0 : Nat) (x1 : Int32) (H : Heap) (locs : List Loc) (ls : Array Slot), lv_has ls 2 [(0, .ref (ad c0)), (1, .int x1)] → Iv (Aa Λ ad) G kA kL Λ ad w s H locs → K2 w c0 x1 = some (w1, r) → W p l e rmG_putNotedBlock s m args below meth c H locs 0 0 Q (F0 m 2 ls [])) → ∀ (w : Wo) (c0 : Nat) (x1 : Int32) (H : Heap) (locs : List Loc) (ls : Array Slot), lv_has ls 2 [(0, .ref (ad c0)), (1, .int x1)] → Iv (Aa Λ ad) G kA kL Λ ad w s H locs → bG_putNotedBlock_2s Λ K2 w c0 x1 = some (w1, r) → W p l e rmG_putNotedBlock s m args below meth c H locs 0 0 Q (F0 m 2 ls []) := by
    intro K2 hK2 w c0 x1 H locs ls hl hI hf
    unfold bG_putNotedBlock_2s at hf
    refine lv_iload_n hx hb dG_putNotedBlock_2 rfl (lv_at hl 1 rfl) ?_
    refine lv_iconst hx hb dG_putNotedBlock_3 kI_2 ?_
    refine lv_icmp_ge (tgt := 44) hx hb dG_putNotedBlock_4 rfl (fun h1 => ?_) (fun h1 => ?_)
    · have hf := ip_ hf h1
      refine lv_aload_n hx hb dG_putNotedBlock_44 rfl (lv_at hl 0 rfl) ?_
      obtain ⟨r2, hr2, hf⟩ := ob_ hf
      refine r_getr (i := 3) S hI fcG (Nat.le_of_ble_eq_true rfl) kw_116 dG_putNotedBlock_45 hr2 ?_
      refine lv_iconst hx hb dG_putNotedBlock_48 kI_m1 ?_
      obtain ⟨w3, hw3, hf⟩ := ob_ hf
      refine r_putN (i := 1) S hI fcJ (Nat.le_of_ble_eq_true rfl) kn_84 rfl rfl rfl dG_putNotedBlock_49 hw3 (fun H locs hI => ?_)
      refine lv_iconst hx hb dG_putNotedBlock_52 kI_1 ?_
      exact hret _ _ _ _ _ _ hI hf dG_putNotedBlock_53
    · have hf := in_ hf h1
      refine lv_aload_n hx hb dG_putNotedBlock_7 rfl (lv_at hl 0 rfl) ?_
      refine lv_iload_n hx hb dG_putNotedBlock_8 rfl (lv_at hl 1 rfl) ?_
      refine lv_aload_n hx hb dG_putNotedBlock_9 rfl (lv_at hl 0 rfl) ?_
      obtain ⟨r4, hr4, hf⟩ := ob_ hf
      refine r_getr (i := 3) S hI fcG (Nat.le_of_ble_eq_true rfl) kw_116 dG_putNotedBlock_10 hr4 ?_
      obtain ⟨v5, hv5, hf⟩ := ob_ hf
      refine r_getiN (i := 1) S hI fcJ (Nat.le_of_ble_eq_true rfl) kn_84 dG_putNotedBlock_13 hv5 ?_
      refine lv_aload_n hx hb dG_putNotedBlock_16 rfl (lv_at hl 0 rfl) ?_
      obtain ⟨r6, hr6, hf⟩ := ob_ hf
      refine r_getr (i := 3) S hI fcG (Nat.le_of_ble_eq_true rfl) kw_116 dG_putNotedBlock_17 hr6 ?_
      obtain ⟨r7, hr7, hf⟩ := ob_ hf
      refine r_getrN (i := 0) S hI fcJ (Nat.le_of_ble_eq_true rfl) kn_82 dG_putNotedBlock_20 hr7 ?_
      refine lv_aload_n hx hb dG_putNotedBlock_23 rfl (lv_at hl 0 rfl) ?_
      obtain ⟨r8, hr8, hf⟩ := ob_ hf
      refine r_getr (i := 3) S hI fcG (Nat.le_of_ble_eq_true rfl) kw_116 dG_putNotedBlock_24 hr8 ?_
      obtain ⟨v9, hv9, hf⟩ := ob_ hf
      refine r_getiN (i := 2) S hI fcJ (Nat.le_of_ble_eq_true rfl) kn_86 dG_putNotedBlock_27 hv9 ?_
      obtain ⟨q10, hq10, hf⟩ := ob_ hf
      refine r_ci (r_V (rest := []) (As := [.int x1, .int v5, .ref (ad r7), .int v9]) S hl hI (kG_putCopy l G kA kL Λ ad w c0 x1 v5 r7 v9 q10.1 q10.2 hq10) pkG_putCopy kw_304 ks_G_putCopy (fcG).1 (gd_some hq10).1 kw_302 ⟨rfl, rfl⟩ ⟨Nat.le_of_ble_eq_true rfl, Nat.le_of_ble_eq_true rfl⟩ rfl rfl (Nat.le_of_ble_eq_true rfl) ⟨Nat.zero_le _, Nat.zero_le _⟩ dG_putNotedBlock_30) hI (fun H locs hI => ?_)
      refine lv_if_ne (tgt := 38) hx hb dG_putNotedBlock_33 rfl (fun h11 => ?_) (fun h11 => ?_)
      · have hf := in_ hf h11
        refine lv_iinc hx hb (lv' := [(1, .int (x1 + 1)), (0, .ref (ad c0))]) (k := 1) dG_putNotedBlock_38 hl rfl (kN_1 _) (Nat.le_of_ble_eq_true rfl) rfl (fun ls hl => ?_)
        refine lv_goto (tgt := 2) hx hb dG_putNotedBlock_41 rfl ?_
        exact hK2 q10.1 c0 (x1 + 1) _ _ _ (lv_sub hl [1, 0] rfl) hI hf
      · have hf := ip_ hf h11
        refine lv_iconst hx hb dG_putNotedBlock_36 kI_0 ?_
        exact hret _ _ _ _ _ _ hI hf dG_putNotedBlock_37
  have lp2 : ∀ (n : Nat), ∀ (w : Wo) (c0 : Nat) (x1 : Int32) (H : Heap) (locs : List Loc) (ls : Array Slot), lv_has ls 2 [(0, .ref (ad c0)), (1, .int x1)] → Iv (Aa Λ ad) G kA kL Λ ad w s H locs → bG_putNotedBlock_2 Λ n w c0 x1 = some (w1, r) → W p l e rmG_putNotedBlock s m args below meth c H locs 0 0 Q (F0 m 2 ls []) := by
    intro n
    induction n with
    | zero =>
      intro w c0 x1 H locs ls hl hI hf
      have hf : (none : Option (Wo × Int32)) = some (w1, r) := hf
      cases hf
    | succ n ih =>
      intro w c0 x1 H locs ls hl hI hf
      exact bk2 (bG_putNotedBlock_2 Λ n) ih w c0 x1 H locs ls hl hI hf
  unfold fG_putNotedBlock at hf
  have hf := (gd_some hf).2
  refine lv_iconst hx hb dG_putNotedBlock_0 kI_0 ?_
  refine lv_istore_n hx hb (lv' := [(1, .int 0), (0, .ref (ad c0))]) dG_putNotedBlock_1 rfl hl (Nat.le_of_ble_eq_true rfl) rfl (fun ls hl => ?_)
  exact lp2 1000 w c0 0 _ _ _ (lv_sub hl [1, 0] rfl) hI hf
/-- GuardVolume.isPlan(II)Z -/
abbrev rmG_isPlan : Room := { frames := 1, cells := 0, slots := 0, locals := 21 }
theorem pkG_isPlan : Pk yG_isPlan cG_isPlan 2 (some .boolean) 2 := ⟨kw_355, kw_1, by decide +kernel, by decide +kernel, by decide +kernel⟩
def fG_isPlan (Λ : La) (w : Wo) (x0 : Int32) (x1 : Int32) : Option (Wo × Int32) := if x0 = 0 then (zr w 1) else (if x0 = 1 then ((fG_isBelow Λ w x1 72).bind fun q3 => zr q3.1 q3.2) else (if x0 = 2 then (if x1 < 1 then (zr w 0) else (if 11 ≤ x1 then (zr w 0) else (zr w 1))) else (zr w 0)))
set_option maxHeartbeats 4000000 in
set_option maxRecDepth 100000 in
theorem kG_isPlan (l : Launch) (G : va_G) (kA kL : ClassId) (Λ : La) (ad : Nat → Nat) (w : Wo) (x0 : Int32) (x1 : Int32) (w1 : Wo) (r : Int32) (hf : fG_isPlan Λ w x0 x1 = some (w1, r)) : Mi l yG_isPlan cG_isPlan 2 (some .boolean) rmG_isPlan G kA kL Λ ad [.int x0, .int x1] w w1 r := by
  refine Mz.of (by decide +kernel) (Nat.le_of_ble_eq_true rfl) ?_
  intro p e s m args below meth c Q ls S hret hl hI
  have S : CallFix p m c cG_isPlan 2 s args (.code yG_isPlan cG_isPlan 2 (some .boolean) :: gW) "GuardVolume" := S
  have hl : lv_has ls 2 [(0, .int x0), (1, .int x1)] := hl
  have hx := S.1
  have hb := S.2.1
  unfold fG_isPlan at hf
  refine lv_iload_n hx hb dG_isPlan_0 rfl (lv_at hl 0 rfl) ?_
  refine tsw_c (k := 0) (tgt := 28) (off := 27) hx hb dG_isPlan_1 (by decide) (by decide) rfl rfl (fun h1 => ?_) (fun h1 => ?_)
  · have hf := ip_ hf h1
    refine lv_iconst hx hb dG_isPlan_28 kI_1 ?_
    exact hret _ _ _ _ _ _ hI hf dG_isPlan_29
  have hf := in_ hf h1
  refine tsw_c (k := 1) (tgt := 30) (off := 29) hx hb dG_isPlan_1 (by decide) (by decide) rfl rfl (fun h2 => ?_) (fun h2 => ?_)
  · have hf := ip_ hf h2
    refine lv_iload_n hx hb dG_isPlan_30 rfl (lv_at hl 1 rfl) ?_
    refine lv_bipush hx hb dG_isPlan_31 kB_72 ?_
    obtain ⟨q3, hq3, hf⟩ := ob_ hf
    refine r_ci (r_S (rest := []) (As := [.int x1, .int 72]) S hl hI (kG_isBelow l G kA kL Λ ad w x1 72 q3.1 q3.2 hq3) pkG_isBelow kw_166 kw_165 ⟨rfl, rfl⟩ ⟨Nat.le_of_ble_eq_true rfl, Nat.le_of_ble_eq_true rfl⟩ rfl rfl (Nat.le_of_ble_eq_true rfl) ⟨Nat.zero_le _, Nat.zero_le _⟩ dG_isPlan_33) hI (fun H locs hI => ?_)
    exact hret _ _ _ _ _ _ hI hf dG_isPlan_36
  have hf := in_ hf h2
  refine tsw_c (k := 2) (tgt := 37) (off := 36) hx hb dG_isPlan_1 (by decide) (by decide) rfl rfl (fun h4 => ?_) (fun h4 => ?_)
  · have hf := ip_ hf h4
    refine lv_iload_n hx hb dG_isPlan_37 rfl (lv_at hl 1 rfl) ?_
    refine lv_iconst hx hb dG_isPlan_38 kI_1 ?_
    refine lv_icmp_lt (tgt := 52) hx hb dG_isPlan_39 rfl (fun h5 => ?_) (fun h5 => ?_)
    · have hf := ip_ hf h5
      refine lv_iconst hx hb dG_isPlan_52 kI_0 ?_
      exact hret _ _ _ _ _ _ hI hf dG_isPlan_53
    · have hf := in_ hf h5
      refine lv_iload_n hx hb dG_isPlan_42 rfl (lv_at hl 1 rfl) ?_
      refine lv_bipush hx hb dG_isPlan_43 kB_11 ?_
      refine lv_icmp_ge (tgt := 52) hx hb dG_isPlan_45 rfl (fun h6 => ?_) (fun h6 => ?_)
      · have hf := ip_ hf h6
        refine lv_iconst hx hb dG_isPlan_52 kI_0 ?_
        exact hret _ _ _ _ _ _ hI hf dG_isPlan_53
      · have hf := in_ hf h6
        refine lv_iconst hx hb dG_isPlan_48 kI_1 ?_
        refine lv_goto (tgt := 53) hx hb dG_isPlan_49 rfl ?_
        exact hret _ _ _ _ _ _ hI hf dG_isPlan_53
  have hf := in_ hf h4
  refine lv_tableOut (tgt := 54) hx hb dG_isPlan_1 (tsw_o3 h1 h2 h4) rfl ?_
  refine lv_iconst hx hb dG_isPlan_54 kI_0 ?_
  exact hret _ _ _ _ _ _ hI hf dG_isPlan_55
/-- GuardVolume$Drive.addPlan(III)V -/
abbrev rmD_addPlan : Room := { frames := 0, cells := 0, slots := 0, locals := 0 }
theorem pkD_addPlan : Pk yD_addPlan cD_addPlan 4 none 3 := ⟨kw_375, kw_2, by decide +kernel, by decide +kernel, by decide +kernel⟩
def fD_addPlan (Λ : La) (w : Wo) (c0 : Nat) (x1 : Int32) (x2 : Int32) (x3 : Int32) : Option Wo := gd (isC Λ c0 0) ((gr Λ c0 0 1).bind fun r1 => (gi Λ w c0 0 4).bind fun v2 => (gi Λ w c0 0 5).bind fun v3 => (st Λ w r1 v2 (v3 + x1)).bind fun w4 => (gr Λ c0 0 2).bind fun r5 => (gi Λ w4 c0 0 4).bind fun v6 => (st Λ w4 r5 v6 x2).bind fun w7 => (gr Λ c0 0 3).bind fun r8 => (gi Λ w7 c0 0 4).bind fun v9 => (st Λ w7 r8 v9 x3).bind fun w10 => (gi Λ w10 c0 0 4).bind fun v11 => (pf Λ w10 c0 0 4 (v11 + 1)).bind fun w12 => some w12)
set_option maxHeartbeats 4000000 in
set_option maxRecDepth 100000 in
theorem kD_addPlan (l : Launch) (G : va_G) (kA kL : ClassId) (Λ : La) (ad : Nat → Nat) (w : Wo) (c0 : Nat) (x1 : Int32) (x2 : Int32) (x3 : Int32) (w1 : Wo) (hf : fD_addPlan Λ w c0 x1 x2 x3 = some w1) : Mv l yD_addPlan cD_addPlan 4 rmD_addPlan G kA kL Λ ad [.ref (ad c0), .int x1, .int x2, .int x3] w w1 := by
  refine Mv.of (by decide +kernel) (Nat.le_of_ble_eq_true rfl) ?_
  intro p e s m args below meth c Q ls S hret hl hI
  have S : CallFix p m c cD_addPlan 4 s args (.code yD_addPlan cD_addPlan 4 none :: gW) "GuardVolume$Drive" := S
  have hl : lv_has ls 4 [(0, .ref (ad c0)), (1, .int x1), (2, .int x2), (3, .int x3)] := hl
  have hx := S.1
  have hb := S.2.1
  unfold fD_addPlan at hf
  have hf := (gd_some hf).2
  refine lv_aload_n hx hb dD_addPlan_0 rfl (lv_at hl 0 rfl) ?_
  obtain ⟨r1, hr1, hf⟩ := ob_ hf
  refine r_getr (i := 1) S hI fcD (Nat.le_of_ble_eq_true rfl) kw_39 dD_addPlan_1 hr1 ?_
  refine lv_aload_n hx hb dD_addPlan_4 rfl (lv_at hl 0 rfl) ?_
  obtain ⟨v2, hv2, hf⟩ := ob_ hf
  refine r_geti (i := 4) S hI fcD (Nat.le_of_ble_eq_true rfl) kw_42 dD_addPlan_5 hv2 ?_
  refine lv_aload_n hx hb dD_addPlan_8 rfl (lv_at hl 0 rfl) ?_
  obtain ⟨v3, hv3, hf⟩ := ob_ hf
  refine r_geti (i := 5) S hI fcD (Nat.le_of_ble_eq_true rfl) kw_44 dD_addPlan_9 hv3 ?_
  refine lv_iload_n hx hb dD_addPlan_12 rfl (lv_at hl 1 rfl) ?_
  refine lv_iadd hx hb dD_addPlan_13 ?_
  obtain ⟨w4, hw4, hf⟩ := ob_ hf
  refine r_ast S hI dD_addPlan_14 hw4 (fun H locs hI => ?_)
  refine lv_aload_n hx hb dD_addPlan_15 rfl (lv_at hl 0 rfl) ?_
  obtain ⟨r5, hr5, hf⟩ := ob_ hf
  refine r_getr (i := 2) S hI fcD (Nat.le_of_ble_eq_true rfl) kw_40 dD_addPlan_16 hr5 ?_
  refine lv_aload_n hx hb dD_addPlan_19 rfl (lv_at hl 0 rfl) ?_
  obtain ⟨v6, hv6, hf⟩ := ob_ hf
  refine r_geti (i := 4) S hI fcD (Nat.le_of_ble_eq_true rfl) kw_42 dD_addPlan_20 hv6 ?_
  refine lv_iload_n hx hb dD_addPlan_23 rfl (lv_at hl 2 rfl) ?_
  obtain ⟨w7, hw7, hf⟩ := ob_ hf
  refine r_ast S hI dD_addPlan_24 hw7 (fun H locs hI => ?_)
  refine lv_aload_n hx hb dD_addPlan_25 rfl (lv_at hl 0 rfl) ?_
  obtain ⟨r8, hr8, hf⟩ := ob_ hf
  refine r_getr (i := 3) S hI fcD (Nat.le_of_ble_eq_true rfl) kw_41 dD_addPlan_26 hr8 ?_
  refine lv_aload_n hx hb dD_addPlan_29 rfl (lv_at hl 0 rfl) ?_
  obtain ⟨v9, hv9, hf⟩ := ob_ hf
  refine r_geti (i := 4) S hI fcD (Nat.le_of_ble_eq_true rfl) kw_42 dD_addPlan_30 hv9 ?_
  refine lv_iload_n hx hb dD_addPlan_33 rfl (lv_at hl 3 rfl) ?_
  obtain ⟨w10, hw10, hf⟩ := ob_ hf
  refine r_ast S hI dD_addPlan_34 hw10 (fun H locs hI => ?_)
  refine lv_aload_n hx hb dD_addPlan_35 rfl (lv_at hl 0 rfl) ?_
  refine lv_dup hx hb dD_addPlan_36 rfl ?_
  obtain ⟨v11, hv11, hf⟩ := ob_ hf
  refine r_geti (i := 4) S hI fcD (Nat.le_of_ble_eq_true rfl) kw_42 dD_addPlan_37 hv11 ?_
  refine lv_iconst hx hb dD_addPlan_40 kI_1 ?_
  refine lv_iadd hx hb dD_addPlan_41 ?_
  obtain ⟨w12, hw12, hf⟩ := ob_ hf
  refine r_put (i := 4) S hI fcD (Nat.le_of_ble_eq_true rfl) kw_42 rfl rfl rfl dD_addPlan_42 hw12 (fun H locs hI => ?_)
  exact hret _ _ _ _ _ hI hf dD_addPlan_45
/-- GuardVolume$Findings.tell(IIII)V -/
abbrev rmF_tell : Room := { frames := 0, cells := 0, slots := 0, locals := 0 }
theorem pkF_tell : Pk yF_tell cF_tell 6 none 4 := ⟨kw_408, kw_6, by decide +kernel, by decide +kernel, by decide +kernel⟩
def fF_tell (Λ : La) (w : Wo) (c0 : Nat) (x1 : Int32) (x2 : Int32) (x3 : Int32) (x4 : Int32) : Option Wo := gd (isC Λ c0 1) ((gi Λ w c0 1 2).bind fun v1 => (pf Λ w c0 1 2 (v1 + 1)).bind fun w2 => (gi Λ w2 c0 1 1).bind fun v3 => if v3 = 100 then (some w2) else ((gi Λ w2 c0 1 1).bind fun v5 => (gr Λ c0 1 0).bind fun r6 => (st Λ w2 r6 (v5 * 4) x1).bind fun w7 => (gr Λ c0 1 0).bind fun r8 => (st Λ w7 r8 ((v5 * 4) + 1) x2).bind fun w9 => (gr Λ c0 1 0).bind fun r10 => (st Λ w9 r10 ((v5 * 4) + 2) x3).bind fun w11 => (gr Λ c0 1 0).bind fun r12 => (st Λ w11 r12 ((v5 * 4) + 3) x4).bind fun w13 => (gi Λ w13 c0 1 1).bind fun v14 => (pf Λ w13 c0 1 1 (v14 + 1)).bind fun w15 => some w15))
set_option maxHeartbeats 4000000 in
set_option maxRecDepth 100000 in
theorem kF_tell (l : Launch) (G : va_G) (kA kL : ClassId) (Λ : La) (ad : Nat → Nat) (w : Wo) (c0 : Nat) (x1 : Int32) (x2 : Int32) (x3 : Int32) (x4 : Int32) (w1 : Wo) (hf : fF_tell Λ w c0 x1 x2 x3 x4 = some w1) : Mv l yF_tell cF_tell 6 rmF_tell G kA kL Λ ad [.ref (ad c0), .int x1, .int x2, .int x3, .int x4] w w1 := by
  refine Mv.of (by decide +kernel) (Nat.le_of_ble_eq_true rfl) ?_
  intro p e s m args below meth c Q ls S hret hl hI
  have S : CallFix p m c cF_tell 6 s args (.code yF_tell cF_tell 6 none :: gW) "GuardVolume$Findings" := S
  have hl : lv_has ls 6 [(0, .ref (ad c0)), (1, .int x1), (2, .int x2), (3, .int x3), (4, .int x4)] := hl
  have hx := S.1
  have hb := S.2.1
  unfold fF_tell at hf
  have hf := (gd_some hf).2
  refine lv_aload_n hx hb dF_tell_0 rfl (lv_at hl 0 rfl) ?_
  refine lv_dup hx hb dF_tell_1 rfl ?_
  obtain ⟨v1, hv1, hf⟩ := ob_ hf
  refine r_geti (i := 2) S hI fcF (Nat.le_of_ble_eq_true rfl) kw_104 dF_tell_2 hv1 ?_
  refine lv_iconst hx hb dF_tell_5 kI_1 ?_
  refine lv_iadd hx hb dF_tell_6 ?_
  obtain ⟨w2, hw2, hf⟩ := ob_ hf
  refine r_put (i := 2) S hI fcF (Nat.le_of_ble_eq_true rfl) kw_104 rfl rfl rfl dF_tell_7 hw2 (fun H locs hI => ?_)
  refine lv_aload_n hx hb dF_tell_10 rfl (lv_at hl 0 rfl) ?_
  obtain ⟨v3, hv3, hf⟩ := ob_ hf
  refine r_geti (i := 1) S hI fcF (Nat.le_of_ble_eq_true rfl) kw_102 dF_tell_11 hv3 ?_
  refine lv_bipush hx hb dF_tell_14 kB_100 ?_
  refine lv_icmp_ne (tgt := 20) hx hb dF_tell_16 rfl (fun h4 => ?_) (fun h4 => ?_)
  · have hf := in_ hf h4
    refine lv_aload_n hx hb dF_tell_20 rfl (lv_at hl 0 rfl) ?_
    obtain ⟨v5, hv5, hf⟩ := ob_ hf
    refine r_geti (i := 1) S hI fcF (Nat.le_of_ble_eq_true rfl) kw_102 dF_tell_21 hv5 ?_
    refine lv_iconst hx hb dF_tell_24 kI_4 ?_
    refine lv_imul hx hb dF_tell_25 ?_
    refine lv_istore hx hb (lv' := [(5, .int (v5 * 4)), (0, .ref (ad c0)), (1, .int x1), (2, .int x2), (3, .int x3), (4, .int x4)]) dF_tell_26 hl (Nat.le_of_ble_eq_true rfl) rfl (fun ls hl => ?_)
    refine lv_aload_n hx hb dF_tell_28 rfl (lv_at hl 1 rfl) ?_
    obtain ⟨r6, hr6, hf⟩ := ob_ hf
    refine r_getr (i := 0) S hI fcF (Nat.le_of_ble_eq_true rfl) kw_100 dF_tell_29 hr6 ?_
    refine lv_iload hx hb dF_tell_32 (lv_at hl 0 rfl) ?_
    refine lv_iload_n hx hb dF_tell_34 rfl (lv_at hl 2 rfl) ?_
    obtain ⟨w7, hw7, hf⟩ := ob_ hf
    refine r_ast S hI dF_tell_35 hw7 (fun H locs hI => ?_)
    refine lv_aload_n hx hb dF_tell_36 rfl (lv_at hl 1 rfl) ?_
    obtain ⟨r8, hr8, hf⟩ := ob_ hf
    refine r_getr (i := 0) S hI fcF (Nat.le_of_ble_eq_true rfl) kw_100 dF_tell_37 hr8 ?_
    refine lv_iload hx hb dF_tell_40 (lv_at hl 0 rfl) ?_
    refine lv_iconst hx hb dF_tell_42 kI_1 ?_
    refine lv_iadd hx hb dF_tell_43 ?_
    refine lv_iload_n hx hb dF_tell_44 rfl (lv_at hl 3 rfl) ?_
    obtain ⟨w9, hw9, hf⟩ := ob_ hf
    refine r_ast S hI dF_tell_45 hw9 (fun H locs hI => ?_)
    refine lv_aload_n hx hb dF_tell_46 rfl (lv_at hl 1 rfl) ?_
    obtain ⟨r10, hr10, hf⟩ := ob_ hf
    refine r_getr (i := 0) S hI fcF (Nat.le_of_ble_eq_true rfl) kw_100 dF_tell_47 hr10 ?_
    refine lv_iload hx hb dF_tell_50 (lv_at hl 0 rfl) ?_
    refine lv_iconst hx hb dF_tell_52 kI_2 ?_
    refine lv_iadd hx hb dF_tell_53 ?_
    refine lv_iload_n hx hb dF_tell_54 rfl (lv_at hl 4 rfl) ?_
    obtain ⟨w11, hw11, hf⟩ := ob_ hf
    refine r_ast S hI dF_tell_55 hw11 (fun H locs hI => ?_)
    refine lv_aload_n hx hb dF_tell_56 rfl (lv_at hl 1 rfl) ?_
    obtain ⟨r12, hr12, hf⟩ := ob_ hf
    refine r_getr (i := 0) S hI fcF (Nat.le_of_ble_eq_true rfl) kw_100 dF_tell_57 hr12 ?_
    refine lv_iload hx hb dF_tell_60 (lv_at hl 0 rfl) ?_
    refine lv_iconst hx hb dF_tell_62 kI_3 ?_
    refine lv_iadd hx hb dF_tell_63 ?_
    refine lv_iload hx hb dF_tell_64 (lv_at hl 5 rfl) ?_
    obtain ⟨w13, hw13, hf⟩ := ob_ hf
    refine r_ast S hI dF_tell_66 hw13 (fun H locs hI => ?_)
    refine lv_aload_n hx hb dF_tell_67 rfl (lv_at hl 1 rfl) ?_
    refine lv_dup hx hb dF_tell_68 rfl ?_
    obtain ⟨v14, hv14, hf⟩ := ob_ hf
    refine r_geti (i := 1) S hI fcF (Nat.le_of_ble_eq_true rfl) kw_102 dF_tell_69 hv14 ?_
    refine lv_iconst hx hb dF_tell_72 kI_1 ?_
    refine lv_iadd hx hb dF_tell_73 ?_
    obtain ⟨w15, hw15, hf⟩ := ob_ hf
    refine r_put (i := 1) S hI fcF (Nat.le_of_ble_eq_true rfl) kw_102 rfl rfl rfl dF_tell_74 hw15 (fun H locs hI => ?_)
    exact hret _ _ _ _ _ hI hf dF_tell_77
  · have hf := ip_ hf h4
    exact hret _ _ _ _ _ hI hf dF_tell_19
/-- GuardVolume.mendList(II)Z -/
abbrev rmG_mendList : Room := { frames := 5, cells := 0, slots := 0, locals := 125 }
theorem pkG_mendList : Pk yG_mendList cG_mendList 5 (some .boolean) 2 := ⟨kw_404, kw_1, by decide +kernel, by decide +kernel, by decide +kernel⟩
def fG_mendList (Λ : La) (w : Wo) (c0 : Nat) (x1 : Int32) (x2 : Int32) : Option (Wo × Int32) := gd (isC Λ c0 4) ((fG_isPageRight Λ w c0 (1 - x1) (x2 / 8)).bind fun q1 => if q1.2 = 0 then ((fG_isPageRight Λ q1.1 c0 x1 (x2 / 8)).bind fun q3 => if q3.2 = 0 then (zr q3.1 1) else ((gr Λ c0 4 4).bind fun r5 => (fG_driveOf Λ q3.1 c0 (1 - x1)).bind fun q6 => (fD_at Λ q6.1 q6.2 (64 + (x2 / 8)) 9).bind fun q7 => (fF_tell Λ q7.1 r5 x2 (1 - x1) 6 q7.2).bind fun w8 => (fG_driveOf Λ w8 c0 x1).bind fun q9 => (fD_at Λ q9.1 q9.2 (64 + (x2 / 8)) (x2 - x2 / 8 * 8)).bind fun q10 => (fG_storeList Λ q10.1 c0 x1 x2 q10.2).bind fun q11 => zr q11.1 q11.2)) else (zr q1.1 1))
set_option maxHeartbeats 4000000 in
set_option maxRecDepth 100000 in
theorem kG_mendList (l : Launch) (G : va_G) (kA kL : ClassId) (Λ : La) (ad : Nat → Nat) (w : Wo) (c0 : Nat) (x1 : Int32) (x2 : Int32) (w1 : Wo) (r : Int32) (hf : fG_mendList Λ w c0 x1 x2 = some (w1, r)) : Mi l yG_mendList cG_mendList 5 (some .boolean) rmG_mendList G kA kL Λ ad [.ref (ad c0), .int x1, .int x2] w w1 r := by
  refine Mz.of (by decide +kernel) (Nat.le_of_ble_eq_true rfl) ?_
  intro p e s m args below meth c Q ls S hret hl hI
  have S : CallFix p m c cG_mendList 5 s args (.code yG_mendList cG_mendList 5 (some .boolean) :: gW) "GuardVolume" := S
  have hl : lv_has ls 5 [(0, .ref (ad c0)), (1, .int x1), (2, .int x2)] := hl
  have hx := S.1
  have hb := S.2.1
  unfold fG_mendList at hf
  have hf := (gd_some hf).2
  refine lv_iload_n hx hb dG_mendList_0 rfl (lv_at hl 2 rfl) ?_
  refine lv_bipush hx hb dG_mendList_1 kB_8 ?_
  refine lv_idiv hx hb dG_mendList_3 (by decide +kernel) ?_
  refine lv_istore_n hx hb (lv' := [(3, .int (x2 / 8)), (0, .ref (ad c0)), (1, .int x1), (2, .int x2)]) dG_mendList_4 rfl hl (Nat.le_of_ble_eq_true rfl) rfl (fun ls hl => ?_)
  refine lv_aload_n hx hb dG_mendList_5 rfl (lv_at hl 1 rfl) ?_
  refine lv_iconst hx hb dG_mendList_6 kI_1 ?_
  refine lv_iload_n hx hb dG_mendList_7 rfl (lv_at hl 2 rfl) ?_
  refine lv_isub hx hb dG_mendList_8 ?_
  refine W.eq (g2 := F0 m 9 ls _) rfl ?_
  refine lv_iload_n hx hb dG_mendList_9 rfl (lv_at hl 0 rfl) ?_
  obtain ⟨q1, hq1, hf⟩ := ob_ hf
  refine r_ci (r_V (rest := []) (As := [.int (1 - x1), .int (x2 / 8)]) S hl hI (kG_isPageRight l G kA kL Λ ad w c0 (1 - x1) (x2 / 8) q1.1 q1.2 hq1) pkG_isPageRight kw_274 ks_G_isPageRight (fcG).1 (gd_some hq1).1 kw_272 ⟨rfl, rfl⟩ ⟨Nat.le_of_ble_eq_true rfl, Nat.le_of_ble_eq_true rfl⟩ rfl rfl (Nat.le_of_ble_eq_true rfl) ⟨Nat.zero_le _, Nat.zero_le _⟩ dG_mendList_10) hI (fun H locs hI => ?_)
  refine lv_if_ne (tgt := 25) hx hb dG_mendList_13 rfl (fun h2 => ?_) (fun h2 => ?_)
  · have hf := in_ hf h2
    refine lv_iconst hx hb dG_mendList_25 kI_1 ?_
    exact hret _ _ _ _ _ _ hI hf dG_mendList_26
  · have hf := ip_ hf h2
    refine lv_aload_n hx hb dG_mendList_16 rfl (lv_at hl 1 rfl) ?_
    refine lv_iload_n hx hb dG_mendList_17 rfl (lv_at hl 2 rfl) ?_
    refine lv_iload_n hx hb dG_mendList_18 rfl (lv_at hl 0 rfl) ?_
    obtain ⟨q3, hq3, hf⟩ := ob_ hf
    refine r_ci (r_V (rest := []) (As := [.int x1, .int (x2 / 8)]) S hl hI (kG_isPageRight l G kA kL Λ ad q1.1 c0 x1 (x2 / 8) q3.1 q3.2 hq3) pkG_isPageRight kw_274 ks_G_isPageRight (fcG).1 (gd_some hq3).1 kw_272 ⟨rfl, rfl⟩ ⟨Nat.le_of_ble_eq_true rfl, Nat.le_of_ble_eq_true rfl⟩ rfl rfl (Nat.le_of_ble_eq_true rfl) ⟨Nat.zero_le _, Nat.zero_le _⟩ dG_mendList_19) hI (fun H locs hI => ?_)
    refine lv_if_ne (tgt := 27) hx hb dG_mendList_22 rfl (fun h4 => ?_) (fun h4 => ?_)
    · have hf := in_ hf h4
      refine lv_bipush hx hb dG_mendList_27 kB_64 ?_
      refine lv_iload_n hx hb dG_mendList_29 rfl (lv_at hl 0 rfl) ?_
      refine lv_iadd hx hb dG_mendList_30 ?_
      refine lv_istore hx hb (lv' := [(4, .int (64 + (x2 / 8))), (3, .int (x2 / 8)), (0, .ref (ad c0)), (1, .int x1), (2, .int x2)]) dG_mendList_31 hl (Nat.le_of_ble_eq_true rfl) rfl (fun ls hl => ?_)
      refine lv_aload_n hx hb dG_mendList_33 rfl (lv_at hl 2 rfl) ?_
      obtain ⟨r5, hr5, hf⟩ := ob_ hf
      refine r_getr (i := 4) S hI fcG (Nat.le_of_ble_eq_true rfl) kw_117 dG_mendList_34 hr5 ?_
      refine lv_iload_n hx hb dG_mendList_37 rfl (lv_at hl 4 rfl) ?_
      refine lv_iconst hx hb dG_mendList_38 kI_1 ?_
      refine lv_iload_n hx hb dG_mendList_39 rfl (lv_at hl 3 rfl) ?_
      refine lv_isub hx hb dG_mendList_40 ?_
      refine lv_bipush hx hb dG_mendList_41 kB_6 ?_
      refine lv_aload_n hx hb dG_mendList_43 rfl (lv_at hl 2 rfl) ?_
      refine lv_iconst hx hb dG_mendList_44 kI_1 ?_
      refine lv_iload_n hx hb dG_mendList_45 rfl (lv_at hl 3 rfl) ?_
      refine W.eq (g2 := F0 m 46 ls _) rfl ?_
      refine lv_isub hx hb dG_mendList_46 ?_
      obtain ⟨q6, hq6, hf⟩ := ob_ hf
      refine r_cr (r_V (rest := [.int 6, .int (1 - x1), .int x2, .ref (ad r5)]) (As := [.int (1 - x1)]) S hl hI (kG_driveOf l G kA kL Λ ad q3.1 c0 (1 - x1) q6.1 q6.2 hq6) pkG_driveOf kw_257 ks_G_driveOf (fcG).1 (gd_some hq6).1 kw_255 ⟨rfl, rfl⟩ ⟨Nat.le_of_ble_eq_true rfl, Nat.le_of_ble_eq_true rfl⟩ rfl rfl (Nat.le_of_ble_eq_true rfl) ⟨Nat.zero_le _, Nat.zero_le _⟩ dG_mendList_47) hI (fun H locs hI => ?_)
      refine lv_iload hx hb dG_mendList_50 (lv_at hl 0 rfl) ?_
      refine lv_bipush hx hb dG_mendList_52 kB_9 ?_
      obtain ⟨q7, hq7, hf⟩ := ob_ hf
      refine r_ci (r_VN (rest := [.int 6, .int (1 - x1), .int x2, .ref (ad r5)]) (As := [.int (64 + (x2 / 8)), .int 9]) S hl hI (kD_at l G kA kL Λ ad q6.1 q6.2 (64 + (x2 / 8)) 9 q7.1 q7.2 hq7) pkD_at kw_261 ks_D_at (fcD).1 (gd_some hq7).1 kn_259 ⟨rfl, rfl⟩ ⟨Nat.le_of_ble_eq_true rfl, Nat.le_of_ble_eq_true rfl⟩ rfl rfl (Nat.le_of_ble_eq_true rfl) ⟨Nat.zero_le _, Nat.zero_le _⟩ dG_mendList_54) hI (fun H locs hI => ?_)
      obtain ⟨w8, hw8, hf⟩ := ob_ hf
      refine r_cv (r_VN (rest := []) (As := [.int x2, .int (1 - x1), .int 6, .int q7.2]) S hl hI (kF_tell l G kA kL Λ ad q7.1 r5 x2 (1 - x1) 6 q7.2 w8 hw8) pkF_tell kw_407 ks_F_tell (fcF).1 (gd_some hw8).1 kn_405 ⟨rfl, rfl⟩ ⟨Nat.le_of_ble_eq_true rfl, Nat.le_of_ble_eq_true rfl⟩ rfl rfl (Nat.le_of_ble_eq_true rfl) ⟨Nat.zero_le _, Nat.zero_le _⟩ dG_mendList_57) hI (fun H locs hI => ?_)
      refine lv_aload_n hx hb dG_mendList_60 rfl (lv_at hl 2 rfl) ?_
      refine lv_iload_n hx hb dG_mendList_61 rfl (lv_at hl 3 rfl) ?_
      refine lv_iload_n hx hb dG_mendList_62 rfl (lv_at hl 4 rfl) ?_
      refine lv_aload_n hx hb dG_mendList_63 rfl (lv_at hl 2 rfl) ?_
      refine lv_iload_n hx hb dG_mendList_64 rfl (lv_at hl 3 rfl) ?_
      obtain ⟨q9, hq9, hf⟩ := ob_ hf
      refine r_cr (r_V (rest := [.int x2, .int x1, .ref (ad c0)]) (As := [.int x1]) S hl hI (kG_driveOf l G kA kL Λ ad w8 c0 x1 q9.1 q9.2 hq9) pkG_driveOf kw_257 ks_G_driveOf (fcG).1 (gd_some hq9).1 kw_255 ⟨rfl, rfl⟩ ⟨Nat.le_of_ble_eq_true rfl, Nat.le_of_ble_eq_true rfl⟩ rfl rfl (Nat.le_of_ble_eq_true rfl) ⟨Nat.zero_le _, Nat.zero_le _⟩ dG_mendList_65) hI (fun H locs hI => ?_)
      refine lv_iload hx hb dG_mendList_68 (lv_at hl 0 rfl) ?_
      refine lv_iload_n hx hb dG_mendList_70 rfl (lv_at hl 4 rfl) ?_
      refine lv_bipush hx hb dG_mendList_71 kB_8 ?_
      refine lv_irem hx hb dG_mendList_73 (by decide +kernel) ?_
      obtain ⟨q10, hq10, hf⟩ := ob_ hf
      refine r_ci (r_VN (rest := [.int x2, .int x1, .ref (ad c0)]) (As := [.int (64 + (x2 / 8)), .int (x2 - x2 / 8 * 8)]) S hl hI (kD_at l G kA kL Λ ad q9.1 q9.2 (64 + (x2 / 8)) (x2 - x2 / 8 * 8) q10.1 q10.2 hq10) pkD_at kw_261 ks_D_at (fcD).1 (gd_some hq10).1 kn_259 ⟨rfl, rfl⟩ ⟨Nat.le_of_ble_eq_true rfl, Nat.le_of_ble_eq_true rfl⟩ rfl rfl (Nat.le_of_ble_eq_true rfl) ⟨Nat.zero_le _, Nat.zero_le _⟩ dG_mendList_74) hI (fun H locs hI => ?_)
      obtain ⟨q11, hq11, hf⟩ := ob_ hf
      refine r_ci (r_V (rest := []) (As := [.int x1, .int x2, .int q10.2]) S hl hI (kG_storeList l G kA kL Λ ad q10.1 c0 x1 x2 q10.2 q11.1 q11.2 hq11) pkG_storeList kw_333 ks_G_storeList (fcG).1 (gd_some hq11).1 kw_331 ⟨rfl, rfl⟩ ⟨Nat.le_of_ble_eq_true rfl, Nat.le_of_ble_eq_true rfl⟩ rfl rfl (Nat.le_of_ble_eq_true rfl) ⟨Nat.zero_le _, Nat.zero_le _⟩ dG_mendList_77) hI (fun H locs hI => ?_)
      exact hret _ _ _ _ _ _ hI hf dG_mendList_80
    · have hf := ip_ hf h4
      refine lv_iconst hx hb dG_mendList_25 kI_1 ?_
      exact hret _ _ _ _ _ _ hI hf dG_mendList_26
/-- GuardVolume.mendCopies(I)Z -/
abbrev rmG_mendCopies : Room := { frames := 5, cells := 0, slots := 0, locals := 118 }
theorem pkG_mendCopies : Pk yG_mendCopies cG_mendCopies 5 (some .boolean) 1 := ⟨kw_412, kw_1, by decide +kernel, by decide +kernel, by decide +kernel⟩
def bG_mendCopies_73 (Λ : La) (w : Wo) (c0 : Nat) (x1 : Int32) (x4 : Int32) (t0 : Nat) (s1 : Int32) (s2 : Int32) (s3 : Int32) : Option (Wo × Int32) := (fG_driveOf Λ w c0 x4).bind fun q1 => (fD_at Λ q1.1 q1.2 x1 9).bind fun q2 => (fF_tell Λ q2.1 t0 s1 s2 s3 q2.2).bind fun w3 => (fG_driveOf Λ w3 c0 (1 - x4)).bind fun q4 => (gr Λ c0 4 10).bind fun r5 => (fD_giveWords Λ q4.1 q4.2 x1 r5).bind fun w6 => (gr Λ c0 4 10).bind fun r7 => (fG_driveOf Λ w6 c0 (1 - x4)).bind fun q8 => (fD_at Λ q8.1 q8.2 x1 10).bind fun q9 => (fG_store Λ q9.1 c0 x4 x1 r7 q9.2).bind fun q10 => zr q10.1 q10.2
def bG_mendCopies_55 (Λ : La) (w : Wo) (c0 : Nat) (x1 : Int32) (x2 : Int32) (x3 : Int32) (s0 : Int32) : Option (Wo × Int32) := (gr Λ c0 4 4).bind fun r11 => if x2 = 0 then (bG_mendCopies_73 Λ w c0 x1 s0 r11 x1 s0 x3) else (bG_mendCopies_73 Λ w c0 x1 s0 r11 x1 s0 x2)
def bG_mendCopies_46 (Λ : La) (w : Wo) (c0 : Nat) (x1 : Int32) (x2 : Int32) (x3 : Int32) : Option (Wo × Int32) := if x2 = 0 then (bG_mendCopies_55 Λ w c0 x1 x2 x3 1) else (bG_mendCopies_55 Λ w c0 x1 x2 x3 0)
def bG_mendCopies_24 (Λ : La) (w : Wo) (c0 : Nat) (x1 : Int32) (x2 : Int32) (x3 : Int32) : Option (Wo × Int32) := if x2 = 0 then (bG_mendCopies_46 Λ w c0 x1 x2 x3) else (if x3 = 0 then (bG_mendCopies_46 Λ w c0 x1 x2 x3) else ((gr Λ c0 4 4).bind fun r16 => (fF_tell Λ w r16 x1 (-1) 7 (-1)).bind fun w17 => zr w17 1))
def fG_mendCopies (Λ : La) (w : Wo) (c0 : Nat) (x1 : Int32) : Option (Wo × Int32) := gd (isC Λ c0 4) ((fG_judge Λ w c0 0 x1).bind fun q18 => (fG_judge Λ q18.1 c0 1 x1).bind fun q19 => if q18.2 = 0 then (if q19.2 = 0 then (zr q19.1 1) else (bG_mendCopies_24 Λ q19.1 c0 x1 q18.2 q19.2)) else (bG_mendCopies_24 Λ q19.1 c0 x1 q18.2 q19.2))
set_option maxHeartbeats 4000000 in
set_option maxRecDepth 100000 in
theorem kG_mendCopies (l : Launch) (G : va_G) (kA kL : ClassId) (Λ : La) (ad : Nat → Nat) (w : Wo) (c0 : Nat) (x1 : Int32) (w1 : Wo) (r : Int32) (hf : fG_mendCopies Λ w c0 x1 = some (w1, r)) : Mi l yG_mendCopies cG_mendCopies 5 (some .boolean) rmG_mendCopies G kA kL Λ ad [.ref (ad c0), .int x1] w w1 r := by
  refine Mz.of (by decide +kernel) (Nat.le_of_ble_eq_true rfl) ?_
  intro p e s m args below meth c Q ls S hret hl hI
  have S : CallFix p m c cG_mendCopies 5 s args (.code yG_mendCopies cG_mendCopies 5 (some .boolean) :: gW) "GuardVolume" := S
  have hl : lv_has ls 5 [(0, .ref (ad c0)), (1, .int x1)] := hl
  have hx := S.1
  have hb := S.2.1
  have bk73 : ∀ (w : Wo) (c0 : Nat) (x1 : Int32) (x4 : Int32) (t0 : Nat) (s1 : Int32) (s2 : Int32) (s3 : Int32) (H : Heap) (locs : List Loc) (ls : Array Slot), lv_has ls 5 [(0, .ref (ad c0)), (1, .int x1), (4, .int x4)] → Iv (Aa Λ ad) G kA kL Λ ad w s H locs → bG_mendCopies_73 Λ w c0 x1 x4 t0 s1 s2 s3 = some (w1, r) → W p l e rmG_mendCopies s m args below meth c H locs 0 0 Q (F0 m 73 ls [.int s3, .int s2, .int s1, .ref (ad t0)]) := by
    intro w c0 x1 x4 t0 s1 s2 s3 H locs ls hl hI hf
    unfold bG_mendCopies_73 at hf
    refine lv_aload_n hx hb dG_mendCopies_73 rfl (lv_at hl 0 rfl) ?_
    refine lv_iload hx hb dG_mendCopies_74 (lv_at hl 2 rfl) ?_
    obtain ⟨q1, hq1, hf⟩ := ob_ hf
    refine r_cr (r_V (rest := [.int s3, .int s2, .int s1, .ref (ad t0)]) (As := [.int x4]) S hl hI (kG_driveOf l G kA kL Λ ad w c0 x4 q1.1 q1.2 hq1) pkG_driveOf kw_257 ks_G_driveOf (fcG).1 (gd_some hq1).1 kw_255 ⟨rfl, rfl⟩ ⟨Nat.le_of_ble_eq_true rfl, Nat.le_of_ble_eq_true rfl⟩ rfl rfl (Nat.le_of_ble_eq_true rfl) ⟨Nat.zero_le _, Nat.zero_le _⟩ dG_mendCopies_76) hI (fun H locs hI => ?_)
    refine lv_iload_n hx hb dG_mendCopies_79 rfl (lv_at hl 1 rfl) ?_
    refine lv_bipush hx hb dG_mendCopies_80 kB_9 ?_
    obtain ⟨q2, hq2, hf⟩ := ob_ hf
    refine r_ci (r_VN (rest := [.int s3, .int s2, .int s1, .ref (ad t0)]) (As := [.int x1, .int 9]) S hl hI (kD_at l G kA kL Λ ad q1.1 q1.2 x1 9 q2.1 q2.2 hq2) pkD_at kw_261 ks_D_at (fcD).1 (gd_some hq2).1 kn_259 ⟨rfl, rfl⟩ ⟨Nat.le_of_ble_eq_true rfl, Nat.le_of_ble_eq_true rfl⟩ rfl rfl (Nat.le_of_ble_eq_true rfl) ⟨Nat.zero_le _, Nat.zero_le _⟩ dG_mendCopies_82) hI (fun H locs hI => ?_)
    obtain ⟨w3, hw3, hf⟩ := ob_ hf
    refine r_cv (r_VN (rest := []) (As := [.int s1, .int s2, .int s3, .int q2.2]) S hl hI (kF_tell l G kA kL Λ ad q2.1 t0 s1 s2 s3 q2.2 w3 hw3) pkF_tell kw_407 ks_F_tell (fcF).1 (gd_some hw3).1 kn_405 ⟨rfl, rfl⟩ ⟨Nat.le_of_ble_eq_true rfl, Nat.le_of_ble_eq_true rfl⟩ rfl rfl (Nat.le_of_ble_eq_true rfl) ⟨Nat.zero_le _, Nat.zero_le _⟩ dG_mendCopies_85) hI (fun H locs hI => ?_)
    refine lv_aload_n hx hb dG_mendCopies_88 rfl (lv_at hl 0 rfl) ?_
    refine lv_iconst hx hb dG_mendCopies_89 kI_1 ?_
    refine lv_iload hx hb dG_mendCopies_90 (lv_at hl 2 rfl) ?_
    refine lv_isub hx hb dG_mendCopies_92 ?_
    obtain ⟨q4, hq4, hf⟩ := ob_ hf
    refine r_cr (r_V (rest := []) (As := [.int (1 - x4)]) S hl hI (kG_driveOf l G kA kL Λ ad w3 c0 (1 - x4) q4.1 q4.2 hq4) pkG_driveOf kw_257 ks_G_driveOf (fcG).1 (gd_some hq4).1 kw_255 ⟨rfl, rfl⟩ ⟨Nat.le_of_ble_eq_true rfl, Nat.le_of_ble_eq_true rfl⟩ rfl rfl (Nat.le_of_ble_eq_true rfl) ⟨Nat.zero_le _, Nat.zero_le _⟩ dG_mendCopies_93) hI (fun H locs hI => ?_)
    refine lv_iload_n hx hb dG_mendCopies_96 rfl (lv_at hl 1 rfl) ?_
    refine lv_aload_n hx hb dG_mendCopies_97 rfl (lv_at hl 0 rfl) ?_
    obtain ⟨r5, hr5, hf⟩ := ob_ hf
    refine r_getr (i := 10) S hI fcG (Nat.le_of_ble_eq_true rfl) kw_123 dG_mendCopies_98 hr5 ?_
    obtain ⟨w6, hw6, hf⟩ := ob_ hf
    refine r_cv (r_VN (rest := []) (As := [.int x1, .ref (ad r5)]) S hl hI (kD_giveWords l G kA kL Λ ad q4.1 q4.2 x1 r5 w6 hw6) pkD_giveWords kw_296 ks_D_giveWords (fcD).1 (gd_some hw6).1 kn_294 ⟨rfl, rfl⟩ ⟨Nat.le_of_ble_eq_true rfl, Nat.le_of_ble_eq_true rfl⟩ rfl rfl (Nat.le_of_ble_eq_true rfl) ⟨Nat.zero_le _, Nat.zero_le _⟩ dG_mendCopies_101) hI (fun H locs hI => ?_)
    refine lv_aload_n hx hb dG_mendCopies_104 rfl (lv_at hl 0 rfl) ?_
    refine lv_iload hx hb dG_mendCopies_105 (lv_at hl 2 rfl) ?_
    refine lv_iload_n hx hb dG_mendCopies_107 rfl (lv_at hl 1 rfl) ?_
    refine lv_aload_n hx hb dG_mendCopies_108 rfl (lv_at hl 0 rfl) ?_
    obtain ⟨r7, hr7, hf⟩ := ob_ hf
    refine r_getr (i := 10) S hI fcG (Nat.le_of_ble_eq_true rfl) kw_123 dG_mendCopies_109 hr7 ?_
    refine lv_aload_n hx hb dG_mendCopies_112 rfl (lv_at hl 0 rfl) ?_
    refine lv_iconst hx hb dG_mendCopies_113 kI_1 ?_
    refine lv_iload hx hb dG_mendCopies_114 (lv_at hl 2 rfl) ?_
    refine lv_isub hx hb dG_mendCopies_116 ?_
    obtain ⟨q8, hq8, hf⟩ := ob_ hf
    refine r_cr (r_V (rest := [.ref (ad r7), .int x1, .int x4, .ref (ad c0)]) (As := [.int (1 - x4)]) S hl hI (kG_driveOf l G kA kL Λ ad w6 c0 (1 - x4) q8.1 q8.2 hq8) pkG_driveOf kw_257 ks_G_driveOf (fcG).1 (gd_some hq8).1 kw_255 ⟨rfl, rfl⟩ ⟨Nat.le_of_ble_eq_true rfl, Nat.le_of_ble_eq_true rfl⟩ rfl rfl (Nat.le_of_ble_eq_true rfl) ⟨Nat.zero_le _, Nat.zero_le _⟩ dG_mendCopies_117) hI (fun H locs hI => ?_)
    refine lv_iload_n hx hb dG_mendCopies_120 rfl (lv_at hl 1 rfl) ?_
    refine lv_bipush hx hb dG_mendCopies_121 kB_10 ?_
    obtain ⟨q9, hq9, hf⟩ := ob_ hf
    refine r_ci (r_VN (rest := [.ref (ad r7), .int x1, .int x4, .ref (ad c0)]) (As := [.int x1, .int 10]) S hl hI (kD_at l G kA kL Λ ad q8.1 q8.2 x1 10 q9.1 q9.2 hq9) pkD_at kw_261 ks_D_at (fcD).1 (gd_some hq9).1 kn_259 ⟨rfl, rfl⟩ ⟨Nat.le_of_ble_eq_true rfl, Nat.le_of_ble_eq_true rfl⟩ rfl rfl (Nat.le_of_ble_eq_true rfl) ⟨Nat.zero_le _, Nat.zero_le _⟩ dG_mendCopies_123) hI (fun H locs hI => ?_)
    obtain ⟨q10, hq10, hf⟩ := ob_ hf
    refine r_ci (r_V (rest := []) (As := [.int x4, .int x1, .ref (ad r7), .int q9.2]) S hl hI (kG_store l G kA kL Λ ad q9.1 c0 x4 x1 r7 q9.2 q10.1 q10.2 hq10) pkG_store kw_308 ks_G_store (fcG).1 (gd_some hq10).1 kw_306 ⟨rfl, rfl⟩ ⟨Nat.le_of_ble_eq_true rfl, Nat.le_of_ble_eq_true rfl⟩ rfl rfl (Nat.le_of_ble_eq_true rfl) ⟨Nat.zero_le _, Nat.zero_le _⟩ dG_mendCopies_126) hI (fun H locs hI => ?_)
    exact hret _ _ _ _ _ _ hI hf dG_mendCopies_129
  have bk55 : ∀ (w : Wo) (c0 : Nat) (x1 : Int32) (x2 : Int32) (x3 : Int32) (s0 : Int32) (H : Heap) (locs : List Loc) (ls : Array Slot), lv_has ls 5 [(0, .ref (ad c0)), (1, .int x1), (2, .int x2), (3, .int x3)] → Iv (Aa Λ ad) G kA kL Λ ad w s H locs → bG_mendCopies_55 Λ w c0 x1 x2 x3 s0 = some (w1, r) → W p l e rmG_mendCopies s m args below meth c H locs 0 0 Q (F0 m 55 ls [.int s0]) := by
    intro w c0 x1 x2 x3 s0 H locs ls hl hI hf
    unfold bG_mendCopies_55 at hf
    refine lv_istore hx hb (lv' := [(4, .int s0), (0, .ref (ad c0)), (1, .int x1), (2, .int x2), (3, .int x3)]) dG_mendCopies_55 hl (Nat.le_of_ble_eq_true rfl) rfl (fun ls hl => ?_)
    refine lv_aload_n hx hb dG_mendCopies_57 rfl (lv_at hl 1 rfl) ?_
    obtain ⟨r11, hr11, hf⟩ := ob_ hf
    refine r_getr (i := 4) S hI fcG (Nat.le_of_ble_eq_true rfl) kw_117 dG_mendCopies_58 hr11 ?_
    refine lv_iload_n hx hb dG_mendCopies_61 rfl (lv_at hl 2 rfl) ?_
    refine lv_iload hx hb dG_mendCopies_62 (lv_at hl 0 rfl) ?_
    refine lv_iload_n hx hb dG_mendCopies_64 rfl (lv_at hl 3 rfl) ?_
    refine lv_if_ne (tgt := 72) hx hb dG_mendCopies_65 rfl (fun h12 => ?_) (fun h12 => ?_)
    · have hf := in_ hf h12
      refine lv_iload_n hx hb dG_mendCopies_72 rfl (lv_at hl 3 rfl) ?_
      exact bk73 w c0 x1 s0 r11 x1 s0 x2 _ _ _ (lv_sub hl [1, 2, 0] rfl) hI hf
    · have hf := ip_ hf h12
      refine lv_iload_n hx hb dG_mendCopies_68 rfl (lv_at hl 4 rfl) ?_
      refine lv_goto (tgt := 73) hx hb dG_mendCopies_69 rfl ?_
      exact bk73 w c0 x1 s0 r11 x1 s0 x3 _ _ _ (lv_sub hl [1, 2, 0] rfl) hI hf
  have bk46 : ∀ (w : Wo) (c0 : Nat) (x1 : Int32) (x2 : Int32) (x3 : Int32) (H : Heap) (locs : List Loc) (ls : Array Slot), lv_has ls 5 [(0, .ref (ad c0)), (1, .int x1), (2, .int x2), (3, .int x3)] → Iv (Aa Λ ad) G kA kL Λ ad w s H locs → bG_mendCopies_46 Λ w c0 x1 x2 x3 = some (w1, r) → W p l e rmG_mendCopies s m args below meth c H locs 0 0 Q (F0 m 46 ls []) := by
    intro w c0 x1 x2 x3 H locs ls hl hI hf
    unfold bG_mendCopies_46 at hf
    refine lv_iload_n hx hb dG_mendCopies_46 rfl (lv_at hl 2 rfl) ?_
    refine lv_if_ne (tgt := 54) hx hb dG_mendCopies_47 rfl (fun h13 => ?_) (fun h13 => ?_)
    · have hf := in_ hf h13
      refine lv_iconst hx hb dG_mendCopies_54 kI_0 ?_
      exact bk55 w c0 x1 x2 x3 0 _ _ _ (lv_sub hl [0, 1, 2, 3] rfl) hI hf
    · have hf := ip_ hf h13
      refine lv_iconst hx hb dG_mendCopies_50 kI_1 ?_
      refine lv_goto (tgt := 55) hx hb dG_mendCopies_51 rfl ?_
      exact bk55 w c0 x1 x2 x3 1 _ _ _ (lv_sub hl [0, 1, 2, 3] rfl) hI hf
  have bk24 : ∀ (w : Wo) (c0 : Nat) (x1 : Int32) (x2 : Int32) (x3 : Int32) (H : Heap) (locs : List Loc) (ls : Array Slot), lv_has ls 5 [(0, .ref (ad c0)), (1, .int x1), (2, .int x2), (3, .int x3)] → Iv (Aa Λ ad) G kA kL Λ ad w s H locs → bG_mendCopies_24 Λ w c0 x1 x2 x3 = some (w1, r) → W p l e rmG_mendCopies s m args below meth c H locs 0 0 Q (F0 m 24 ls []) := by
    intro w c0 x1 x2 x3 H locs ls hl hI hf
    unfold bG_mendCopies_24 at hf
    refine lv_iload_n hx hb dG_mendCopies_24 rfl (lv_at hl 2 rfl) ?_
    refine lv_if_eq (tgt := 46) hx hb dG_mendCopies_25 rfl (fun h14 => ?_) (fun h14 => ?_)
    · have hf := ip_ hf h14
      exact bk46 w c0 x1 x2 x3 _ _ _ (lv_sub hl [0, 1, 2, 3] rfl) hI hf
    · have hf := in_ hf h14
      refine lv_iload_n hx hb dG_mendCopies_28 rfl (lv_at hl 3 rfl) ?_
      refine lv_if_eq (tgt := 46) hx hb dG_mendCopies_29 rfl (fun h15 => ?_) (fun h15 => ?_)
      · have hf := ip_ hf h15
        exact bk46 w c0 x1 x2 x3 _ _ _ (lv_sub hl [0, 1, 2, 3] rfl) hI hf
      · have hf := in_ hf h15
        refine lv_aload_n hx hb dG_mendCopies_32 rfl (lv_at hl 0 rfl) ?_
        obtain ⟨r16, hr16, hf⟩ := ob_ hf
        refine r_getr (i := 4) S hI fcG (Nat.le_of_ble_eq_true rfl) kw_117 dG_mendCopies_33 hr16 ?_
        refine lv_iload_n hx hb dG_mendCopies_36 rfl (lv_at hl 1 rfl) ?_
        refine lv_iconst hx hb dG_mendCopies_37 kI_m1 ?_
        refine lv_bipush hx hb dG_mendCopies_38 kB_7 ?_
        refine lv_iconst hx hb dG_mendCopies_40 kI_m1 ?_
        obtain ⟨w17, hw17, hf⟩ := ob_ hf
        refine r_cv (r_VN (rest := []) (As := [.int x1, .int (-1), .int 7, .int (-1)]) S hl hI (kF_tell l G kA kL Λ ad w r16 x1 (-1) 7 (-1) w17 hw17) pkF_tell kw_407 ks_F_tell (fcF).1 (gd_some hw17).1 kn_405 ⟨rfl, rfl⟩ ⟨Nat.le_of_ble_eq_true rfl, Nat.le_of_ble_eq_true rfl⟩ rfl rfl (Nat.le_of_ble_eq_true rfl) ⟨Nat.zero_le _, Nat.zero_le _⟩ dG_mendCopies_41) hI (fun H locs hI => ?_)
        refine lv_iconst hx hb dG_mendCopies_44 kI_1 ?_
        exact hret _ _ _ _ _ _ hI hf dG_mendCopies_45
  unfold fG_mendCopies at hf
  have hf := (gd_some hf).2
  refine lv_aload_n hx hb dG_mendCopies_0 rfl (lv_at hl 0 rfl) ?_
  refine lv_iconst hx hb dG_mendCopies_1 kI_0 ?_
  refine lv_iload_n hx hb dG_mendCopies_2 rfl (lv_at hl 1 rfl) ?_
  obtain ⟨q18, hq18, hf⟩ := ob_ hf
  refine r_ci (r_V (rest := []) (As := [.int 0, .int x1]) S hl hI (kG_judge l G kA kL Λ ad w c0 0 x1 q18.1 q18.2 hq18) pkG_judge kw_253 ks_G_judge (fcG).1 (gd_some hq18).1 kw_251 ⟨rfl, rfl⟩ ⟨Nat.le_of_ble_eq_true rfl, Nat.le_of_ble_eq_true rfl⟩ rfl rfl (Nat.le_of_ble_eq_true rfl) ⟨Nat.zero_le _, Nat.zero_le _⟩ dG_mendCopies_3) hI (fun H locs hI => ?_)
  refine lv_istore_n hx hb (lv' := [(2, .int q18.2), (0, .ref (ad c0)), (1, .int x1)]) dG_mendCopies_6 rfl hl (Nat.le_of_ble_eq_true rfl) rfl (fun ls hl => ?_)
  refine lv_aload_n hx hb dG_mendCopies_7 rfl (lv_at hl 1 rfl) ?_
  refine lv_iconst hx hb dG_mendCopies_8 kI_1 ?_
  refine lv_iload_n hx hb dG_mendCopies_9 rfl (lv_at hl 2 rfl) ?_
  obtain ⟨q19, hq19, hf⟩ := ob_ hf
  refine r_ci (r_V (rest := []) (As := [.int 1, .int x1]) S hl hI (kG_judge l G kA kL Λ ad q18.1 c0 1 x1 q19.1 q19.2 hq19) pkG_judge kw_253 ks_G_judge (fcG).1 (gd_some hq19).1 kw_251 ⟨rfl, rfl⟩ ⟨Nat.le_of_ble_eq_true rfl, Nat.le_of_ble_eq_true rfl⟩ rfl rfl (Nat.le_of_ble_eq_true rfl) ⟨Nat.zero_le _, Nat.zero_le _⟩ dG_mendCopies_10) hI (fun H locs hI => ?_)
  refine lv_istore_n hx hb (lv' := [(3, .int q19.2), (2, .int q18.2), (0, .ref (ad c0)), (1, .int x1)]) dG_mendCopies_13 rfl hl (Nat.le_of_ble_eq_true rfl) rfl (fun ls hl => ?_)
  refine lv_iload_n hx hb dG_mendCopies_14 rfl (lv_at hl 1 rfl) ?_
  refine lv_if_ne (tgt := 24) hx hb dG_mendCopies_15 rfl (fun h20 => ?_) (fun h20 => ?_)
  · have hf := in_ hf h20
    exact bk24 q19.1 c0 x1 q18.2 q19.2 _ _ _ (lv_sub hl [2, 3, 1, 0] rfl) hI hf
  · have hf := ip_ hf h20
    refine lv_iload_n hx hb dG_mendCopies_18 rfl (lv_at hl 0 rfl) ?_
    refine lv_if_ne (tgt := 24) hx hb dG_mendCopies_19 rfl (fun h21 => ?_) (fun h21 => ?_)
    · have hf := in_ hf h21
      exact bk24 q19.1 c0 x1 q18.2 q19.2 _ _ _ (lv_sub hl [2, 3, 1, 0] rfl) hI hf
    · have hf := ip_ hf h21
      refine lv_iconst hx hb dG_mendCopies_22 kI_1 ?_
      exact hret _ _ _ _ _ _ hI hf dG_mendCopies_23

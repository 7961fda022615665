/-! written by walk.py: the functions that the bytecode computes, and the walks -/
/-- GuardVolume.write(III)I -/
abbrev rmG_write : Room := { frames := 7, cells := 1, slots := 6, locals := 170 }
theorem pkG_write : Pk yG_write cG_write 5 (some .int) 3 := ⟨kw_164, kw_1, by decide +kernel, by decide +kernel, by decide +kernel⟩
def bG_write_82 (Λ : La) (w : Wo) (c0 : Nat) (x1 : Int32) (x2 : Int32) (x3 : Int32) (x4 : Int32) : Option (Wo × Nat × Int32) := (fG_codeOf Λ w x4).bind fun q1 => (pf Λ q1.1 c0 4 6 q1.2).bind fun w2 => if x4 = (-1) then (some (w2, 0, 2)) else ((fG_driveOf Λ w2 c0 x4).bind fun q4 => (gr Λ c0 4 3).bind fun r5 => (gr Λ r5 2 0).bind fun r6 => (fD_giveWords Λ q4.1 q4.2 x1 r6).bind fun w7 => (gr Λ c0 4 3).bind fun r8 => (gr Λ r8 2 0).bind fun r9 => (st Λ w7 r9 x2 x3).bind fun w10 => (gr Λ c0 4 3).bind fun r11 => (fG_driveOf Λ w10 c0 x4).bind fun q12 => (fD_at Λ q12.1 q12.2 x1 10).bind fun q13 => (pf Λ q13.1 r11 2 2 (q13.2 + 1)).bind fun w14 => (gr Λ c0 4 3).bind fun r15 => (pf Λ w14 r15 2 1 x1).bind fun w16 => (fG_putNotedBlock Λ w16 c0).bind fun q17 => if q17.2 = 0 then (some (q17.1, 0, 3)) else (some (q17.1, 0, 0)))
def fG_write (Λ : La) (w : Wo) (c0 : Nat) (x1 : Int32) (x2 : Int32) (x3 : Int32) : Option (Wo × Nat × Int32) := gd (isC Λ c0 4) ((fG_isBelow Λ w x1 64).bind fun q19 => if q19.2 = 0 then (some (q19.1, 1, 0)) else ((fG_isBelow Λ q19.1 x2 8).bind fun q21 => if q21.2 = 0 then (some (q21.1, 1, 0)) else ((gr Λ c0 4 2).bind fun r23 => (gi Λ q21.1 r23 3 0).bind fun v24 => if v24 = 0 then (some (q21.1, 2, 0)) else ((fG_goodCopy Λ q21.1 c0 x1).bind fun q26 => if q26.2 = (-1) then (bG_write_82 Λ q26.1 c0 x1 x2 x3 q26.2) else ((fG_driveOf Λ q26.1 c0 q26.2).bind fun q28 => (fD_at Λ q28.1 q28.2 x1 10).bind fun q29 => if q29.2 = 60 then (some (q29.1, 3, 0)) else (bG_write_82 Λ q29.1 c0 x1 x2 x3 q26.2))))))
set_option maxHeartbeats 4000000 in
set_option maxRecDepth 100000 in
theorem xG_write (l : Launch) (hlt : l.stackTraces = false) (G : va_G) (kA kL : ClassId) (Λ : La) (ad : Nat → Nat) (w : Wo) (c0 : Nat) (x1 : Int32) (x2 : Int32) (x3 : Int32) (q : Wo × Nat × Int32) (hf : fG_write Λ w c0 x1 x2 x3 = some q) : Xi l yG_write cG_write 5 (some .int) rmG_write G kA kL Λ ad [.ref (ad c0), .int x1, .int x2, .int x3] w q := by
  refine Xi.of hlt (by decide +kernel) (Nat.le_of_ble_eq_true rfl) ⟨Nat.le_of_ble_eq_true rfl, Nat.le_of_ble_eq_true rfl, rfl, rfl⟩ ?_
  intro p e s m args below meth c Q ls S hret hthr hl hI
  have S : CallFix p m c cG_write 5 s args (.code yG_write cG_write 5 (some .int) :: gW) "GuardVolume" := S
  have hl : lv_has ls 5 [(0, .ref (ad c0)), (1, .int x1), (2, .int x2), (3, .int x3)] := hl
  have hx := S.1
  have hb := S.2.1
  have bk82 : ∀ (w : Wo) (c0 : Nat) (x1 : Int32) (x2 : Int32) (x3 : Int32) (x4 : Int32) (H : Heap) (locs : List Loc) (ls : Array Slot), lv_has ls 5 [(0, .ref (ad c0)), (1, .int x1), (2, .int x2), (3, .int x3), (4, .int x4)] → Iv (Aa Λ ad) G kA kL Λ ad w s H locs → bG_write_82 Λ w c0 x1 x2 x3 x4 = some q → W p l e rmG_write s m args below meth c H locs 0 0 Q (F0 m 82 ls []) := by
    intro w c0 x1 x2 x3 x4 H locs ls hl hI hf
    unfold bG_write_82 at hf
    refine lv_aload_n hx hb dG_write_82 rfl (lv_at hl 0 rfl) ?_
    refine lv_iload hx hb dG_write_83 (lv_at hl 4 rfl) ?_
    obtain ⟨q1, hq1, hf⟩ := ob_ hf
    refine r_ci (r_S (rest := [.ref (ad c0)]) (As := [.int x4]) S hl hI (kG_codeOf l G kA kL Λ ad w x4 q1.1 q1.2 hq1) pkG_codeOf kw_292 kw_291 ⟨rfl, rfl⟩ ⟨Nat.le_of_ble_eq_true rfl, Nat.le_of_ble_eq_true rfl⟩ rfl rfl (Nat.le_of_ble_eq_true rfl) ⟨Nat.zero_le _, Nat.zero_le _⟩ dG_write_85) hI (fun H locs hI => ?_)
    obtain ⟨w2, hw2, hf⟩ := ob_ hf
    refine r_put (i := 6) S hI fcG (Nat.le_of_ble_eq_true rfl) kw_119 rfl rfl rfl dG_write_88 hw2 (fun H locs hI => ?_)
    refine lv_iload hx hb dG_write_91 (lv_at hl 4 rfl) ?_
    refine lv_iconst hx hb dG_write_93 kI_m1 ?_
    refine lv_icmp_ne (tgt := 99) hx hb dG_write_94 rfl (fun h3 => ?_) (fun h3 => ?_)
    · have hf := in_ hf h3
      refine lv_aload_n hx hb dG_write_99 rfl (lv_at hl 0 rfl) ?_
      refine lv_iload hx hb dG_write_100 (lv_at hl 4 rfl) ?_
      obtain ⟨q4, hq4, hf⟩ := ob_ hf
      refine r_cr (r_V (rest := []) (As := [.int x4]) S hl hI (kG_driveOf l G kA kL Λ ad w2 c0 x4 q4.1 q4.2 hq4) pkG_driveOf kw_257 ks_G_driveOf (fcG).1 (gd_some hq4).1 kw_255 ⟨rfl, rfl⟩ ⟨Nat.le_of_ble_eq_true rfl, Nat.le_of_ble_eq_true rfl⟩ rfl rfl (Nat.le_of_ble_eq_true rfl) ⟨Nat.zero_le _, Nat.zero_le _⟩ dG_write_102) hI (fun H locs hI => ?_)
      refine lv_iload_n hx hb dG_write_105 rfl (lv_at hl 1 rfl) ?_
      refine lv_aload_n hx hb dG_write_106 rfl (lv_at hl 0 rfl) ?_
      obtain ⟨r5, hr5, hf⟩ := ob_ hf
      refine r_getr (i := 3) S hI fcG (Nat.le_of_ble_eq_true rfl) kw_116 dG_write_107 hr5 ?_
      obtain ⟨r6, hr6, hf⟩ := ob_ hf
      refine r_getrN (i := 0) S hI fcJ (Nat.le_of_ble_eq_true rfl) kn_82 dG_write_110 hr6 ?_
      obtain ⟨w7, hw7, hf⟩ := ob_ hf
      refine r_cv (r_VN (rest := []) (As := [.int x1, .ref (ad r6)]) S hl hI (kD_giveWords l G kA kL Λ ad q4.1 q4.2 x1 r6 w7 hw7) pkD_giveWords kw_296 ks_D_giveWords (fcD).1 (gd_some hw7).1 kn_294 ⟨rfl, rfl⟩ ⟨Nat.le_of_ble_eq_true rfl, Nat.le_of_ble_eq_true rfl⟩ rfl rfl (Nat.le_of_ble_eq_true rfl) ⟨Nat.zero_le _, Nat.zero_le _⟩ dG_write_113) hI (fun H locs hI => ?_)
      refine lv_aload_n hx hb dG_write_116 rfl (lv_at hl 0 rfl) ?_
      obtain ⟨r8, hr8, hf⟩ := ob_ hf
      refine r_getr (i := 3) S hI fcG (Nat.le_of_ble_eq_true rfl) kw_116 dG_write_117 hr8 ?_
      obtain ⟨r9, hr9, hf⟩ := ob_ hf
      refine r_getrN (i := 0) S hI fcJ (Nat.le_of_ble_eq_true rfl) kn_82 dG_write_120 hr9 ?_
      refine lv_iload_n hx hb dG_write_123 rfl (lv_at hl 2 rfl) ?_
      refine lv_iload_n hx hb dG_write_124 rfl (lv_at hl 3 rfl) ?_
      obtain ⟨w10, hw10, hf⟩ := ob_ hf
      refine r_ast S hI dG_write_125 hw10 (fun H locs hI => ?_)
      refine lv_aload_n hx hb dG_write_126 rfl (lv_at hl 0 rfl) ?_
      obtain ⟨r11, hr11, hf⟩ := ob_ hf
      refine r_getr (i := 3) S hI fcG (Nat.le_of_ble_eq_true rfl) kw_116 dG_write_127 hr11 ?_
      refine lv_aload_n hx hb dG_write_130 rfl (lv_at hl 0 rfl) ?_
      refine lv_iload hx hb dG_write_131 (lv_at hl 4 rfl) ?_
      obtain ⟨q12, hq12, hf⟩ := ob_ hf
      refine r_cr (r_V (rest := [.ref (ad r11)]) (As := [.int x4]) S hl hI (kG_driveOf l G kA kL Λ ad w10 c0 x4 q12.1 q12.2 hq12) pkG_driveOf kw_257 ks_G_driveOf (fcG).1 (gd_some hq12).1 kw_255 ⟨rfl, rfl⟩ ⟨Nat.le_of_ble_eq_true rfl, Nat.le_of_ble_eq_true rfl⟩ rfl rfl (Nat.le_of_ble_eq_true rfl) ⟨Nat.zero_le _, Nat.zero_le _⟩ dG_write_133) hI (fun H locs hI => ?_)
      refine lv_iload_n hx hb dG_write_136 rfl (lv_at hl 1 rfl) ?_
      refine lv_bipush hx hb dG_write_137 kB_10 ?_
      obtain ⟨q13, hq13, hf⟩ := ob_ hf
      refine r_ci (r_VN (rest := [.ref (ad r11)]) (As := [.int x1, .int 10]) S hl hI (kD_at l G kA kL Λ ad q12.1 q12.2 x1 10 q13.1 q13.2 hq13) pkD_at kw_261 ks_D_at (fcD).1 (gd_some hq13).1 kn_259 ⟨rfl, rfl⟩ ⟨Nat.le_of_ble_eq_true rfl, Nat.le_of_ble_eq_true rfl⟩ rfl rfl (Nat.le_of_ble_eq_true rfl) ⟨Nat.zero_le _, Nat.zero_le _⟩ dG_write_139) hI (fun H locs hI => ?_)
      refine lv_iconst hx hb dG_write_142 kI_1 ?_
      refine lv_iadd hx hb dG_write_143 ?_
      obtain ⟨w14, hw14, hf⟩ := ob_ hf
      refine r_putN (i := 2) S hI fcJ (Nat.le_of_ble_eq_true rfl) kn_86 rfl rfl rfl dG_write_144 hw14 (fun H locs hI => ?_)
      refine lv_aload_n hx hb dG_write_147 rfl (lv_at hl 0 rfl) ?_
      obtain ⟨r15, hr15, hf⟩ := ob_ hf
      refine r_getr (i := 3) S hI fcG (Nat.le_of_ble_eq_true rfl) kw_116 dG_write_148 hr15 ?_
      refine lv_iload_n hx hb dG_write_151 rfl (lv_at hl 1 rfl) ?_
      obtain ⟨w16, hw16, hf⟩ := ob_ hf
      refine r_putN (i := 1) S hI fcJ (Nat.le_of_ble_eq_true rfl) kn_84 rfl rfl rfl dG_write_152 hw16 (fun H locs hI => ?_)
      refine lv_aload_n hx hb dG_write_155 rfl (lv_at hl 0 rfl) ?_
      obtain ⟨q17, hq17, hf⟩ := ob_ hf
      refine r_ci (r_V (rest := []) (As := []) S hl hI (kG_putNotedBlock l G kA kL Λ ad w16 c0 q17.1 q17.2 hq17) pkG_putNotedBlock kw_300 ks_G_putNotedBlock (fcG).1 (gd_some hq17).1 kw_298 ⟨rfl, rfl⟩ ⟨Nat.le_of_ble_eq_true rfl, Nat.le_of_ble_eq_true rfl⟩ rfl rfl (Nat.le_of_ble_eq_true rfl) ⟨Nat.zero_le _, Nat.zero_le _⟩ dG_write_156) hI (fun H locs hI => ?_)
      refine lv_if_eq (tgt := 166) hx hb dG_write_159 rfl (fun h18 => ?_) (fun h18 => ?_)
      · have hf := ip_ hf h18
        refine lv_iconst hx hb dG_write_166 kI_3 ?_
        exact hret _ _ _ _ _ _ hI hf dG_write_167
      · have hf := in_ hf h18
        refine lv_iconst hx hb dG_write_162 kI_0 ?_
        refine lv_goto (tgt := 167) hx hb dG_write_163 rfl ?_
        exact hret _ _ _ _ _ _ hI hf dG_write_167
    · have hf := ip_ hf h3
      refine lv_iconst hx hb dG_write_97 kI_2 ?_
      exact hret _ _ _ _ _ _ hI hf dG_write_98
  unfold fG_write at hf
  have hf := (gd_some hf).2
  refine lv_iload_n hx hb dG_write_0 rfl (lv_at hl 1 rfl) ?_
  refine lv_bipush hx hb dG_write_1 kB_64 ?_
  obtain ⟨q19, hq19, hf⟩ := ob_ hf
  refine r_ci (r_S (rest := []) (As := [.int x1, .int 64]) S hl hI (kG_isBelow l G kA kL Λ ad w x1 64 q19.1 q19.2 hq19) pkG_isBelow kw_166 kw_165 ⟨rfl, rfl⟩ ⟨Nat.le_of_ble_eq_true rfl, Nat.le_of_ble_eq_true rfl⟩ rfl rfl (Nat.le_of_ble_eq_true rfl) ⟨Nat.zero_le _, Nat.zero_le _⟩ dG_write_3) hI (fun H locs hI => ?_)
  refine lv_if_eq (tgt := 18) hx hb dG_write_6 rfl (fun h20 => ?_) (fun h20 => ?_)
  · have hf := ip_ hf h20
    exact hthr _ _ _ _ _ _ _ _ _ hI hl hf th1 dG_write_18 dG_write_21 dG_write_22 dG_write_25
  · have hf := in_ hf h20
    refine lv_iload_n hx hb dG_write_9 rfl (lv_at hl 2 rfl) ?_
    refine lv_bipush hx hb dG_write_10 kB_8 ?_
    obtain ⟨q21, hq21, hf⟩ := ob_ hf
    refine r_ci (r_S (rest := []) (As := [.int x2, .int 8]) S hl hI (kG_isBelow l G kA kL Λ ad q19.1 x2 8 q21.1 q21.2 hq21) pkG_isBelow kw_166 kw_165 ⟨rfl, rfl⟩ ⟨Nat.le_of_ble_eq_true rfl, Nat.le_of_ble_eq_true rfl⟩ rfl rfl (Nat.le_of_ble_eq_true rfl) ⟨Nat.zero_le _, Nat.zero_le _⟩ dG_write_12) hI (fun H locs hI => ?_)
    refine lv_if_ne (tgt := 26) hx hb dG_write_15 rfl (fun h22 => ?_) (fun h22 => ?_)
    · have hf := in_ hf h22
      refine lv_aload_n hx hb dG_write_26 rfl (lv_at hl 0 rfl) ?_
      obtain ⟨r23, hr23, hf⟩ := ob_ hf
      refine r_getr (i := 2) S hI fcG (Nat.le_of_ble_eq_true rfl) kw_115 dG_write_27 hr23 ?_
      obtain ⟨v24, hv24, hf⟩ := ob_ hf
      refine r_getiN (i := 0) S hI fcP (Nat.le_of_ble_eq_true rfl) kn_67 dG_write_30 hv24 ?_
      refine lv_if_ne (tgt := 44) hx hb dG_write_33 rfl (fun h25 => ?_) (fun h25 => ?_)
      · have hf := in_ hf h25
        refine lv_aload_n hx hb dG_write_44 rfl (lv_at hl 0 rfl) ?_
        refine lv_iload_n hx hb dG_write_45 rfl (lv_at hl 1 rfl) ?_
        obtain ⟨q26, hq26, hf⟩ := ob_ hf
        refine r_ci (r_V (rest := []) (As := [.int x1]) S hl hI (kG_goodCopy l G kA kL Λ ad q21.1 c0 x1 q26.1 q26.2 hq26) pkG_goodCopy kw_249 ks_G_goodCopy (fcG).1 (gd_some hq26).1 kw_247 ⟨rfl, rfl⟩ ⟨Nat.le_of_ble_eq_true rfl, Nat.le_of_ble_eq_true rfl⟩ rfl rfl (Nat.le_of_ble_eq_true rfl) ⟨Nat.zero_le _, Nat.zero_le _⟩ dG_write_46) hI (fun H locs hI => ?_)
        refine lv_istore hx hb (lv' := [(4, .int q26.2), (0, .ref (ad c0)), (1, .int x1), (2, .int x2), (3, .int x3)]) dG_write_49 hl (Nat.le_of_ble_eq_true rfl) rfl (fun ls hl => ?_)
        refine lv_iload hx hb dG_write_51 (lv_at hl 0 rfl) ?_
        refine lv_iconst hx hb dG_write_53 kI_m1 ?_
        refine lv_icmp_eq (tgt := 82) hx hb dG_write_54 rfl (fun h27 => ?_) (fun h27 => ?_)
        · have hf := ip_ hf h27
          exact bk82 q26.1 c0 x1 x2 x3 q26.2 _ _ _ (lv_sub hl [1, 2, 3, 4, 0] rfl) hI hf
        · have hf := in_ hf h27
          refine lv_aload_n hx hb dG_write_57 rfl (lv_at hl 1 rfl) ?_
          refine lv_iload hx hb dG_write_58 (lv_at hl 0 rfl) ?_
          obtain ⟨q28, hq28, hf⟩ := ob_ hf
          refine r_cr (r_V (rest := []) (As := [.int q26.2]) S hl hI (kG_driveOf l G kA kL Λ ad q26.1 c0 q26.2 q28.1 q28.2 hq28) pkG_driveOf kw_257 ks_G_driveOf (fcG).1 (gd_some hq28).1 kw_255 ⟨rfl, rfl⟩ ⟨Nat.le_of_ble_eq_true rfl, Nat.le_of_ble_eq_true rfl⟩ rfl rfl (Nat.le_of_ble_eq_true rfl) ⟨Nat.zero_le _, Nat.zero_le _⟩ dG_write_60) hI (fun H locs hI => ?_)
          refine lv_iload_n hx hb dG_write_63 rfl (lv_at hl 2 rfl) ?_
          refine lv_bipush hx hb dG_write_64 kB_10 ?_
          obtain ⟨q29, hq29, hf⟩ := ob_ hf
          refine r_ci (r_VN (rest := []) (As := [.int x1, .int 10]) S hl hI (kD_at l G kA kL Λ ad q28.1 q28.2 x1 10 q29.1 q29.2 hq29) pkD_at kw_261 ks_D_at (fcD).1 (gd_some hq29).1 kn_259 ⟨rfl, rfl⟩ ⟨Nat.le_of_ble_eq_true rfl, Nat.le_of_ble_eq_true rfl⟩ rfl rfl (Nat.le_of_ble_eq_true rfl) ⟨Nat.zero_le _, Nat.zero_le _⟩ dG_write_66) hI (fun H locs hI => ?_)
          refine lv_bipush hx hb dG_write_69 kB_60 ?_
          refine lv_icmp_ne (tgt := 82) hx hb dG_write_71 rfl (fun h30 => ?_) (fun h30 => ?_)
          · have hf := in_ hf h30
            exact bk82 q29.1 c0 x1 x2 x3 q26.2 _ _ _ (lv_sub hl [1, 2, 3, 4, 0] rfl) hI hf
          · have hf := ip_ hf h30
            exact hthr _ _ _ _ _ _ _ _ _ hI hl hf th3 dG_write_74 dG_write_77 dG_write_78 dG_write_81
      · have hf := ip_ hf h25
        exact hthr _ _ _ _ _ _ _ _ _ hI hl hf th2 dG_write_36 dG_write_39 dG_write_40 dG_write_43
    · have hf := ip_ hf h22
      exact hthr _ _ _ _ _ _ _ _ _ hI hl hf th1 dG_write_18 dG_write_21 dG_write_22 dG_write_25
/-- GuardVolume.read(II)I -/
abbrev rmG_read : Room := { frames := 6, cells := 1, slots := 6, locals := 139 }
theorem pkG_read : Pk yG_read cG_read 4 (some .int) 2 := ⟨kw_344, kw_1, by decide +kernel, by decide +kernel, by decide +kernel⟩
def fG_read (Λ : La) (w : Wo) (c0 : Nat) (x1 : Int32) (x2 : Int32) : Option (Wo × Nat × Int32) := gd (isC Λ c0 4) ((fG_isBelow Λ w x1 64).bind fun q1 => if q1.2 = 0 then (some (q1.1, 1, 0)) else ((fG_isBelow Λ q1.1 x2 8).bind fun q3 => if q3.2 = 0 then (some (q3.1, 1, 0)) else ((gr Λ c0 4 2).bind fun r5 => (gi Λ q3.1 r5 3 0).bind fun v6 => if v6 = 0 then (some (q3.1, 2, 0)) else ((fG_goodCopy Λ q3.1 c0 x1).bind fun q8 => (fG_codeOf Λ q8.1 q8.2).bind fun q9 => (pf Λ q9.1 c0 4 6 q9.2).bind fun w10 => if q8.2 = (-1) then (some (w10, 0, 0)) else ((fG_driveOf Λ w10 c0 q8.2).bind fun q12 => (fD_at Λ q12.1 q12.2 x1 x2).bind fun q13 => some (q13.1, 0, q13.2))))))
set_option maxHeartbeats 4000000 in
set_option maxRecDepth 100000 in
theorem xG_read (l : Launch) (hlt : l.stackTraces = false) (G : va_G) (kA kL : ClassId) (Λ : La) (ad : Nat → Nat) (w : Wo) (c0 : Nat) (x1 : Int32) (x2 : Int32) (q : Wo × Nat × Int32) (hf : fG_read Λ w c0 x1 x2 = some q) : Xi l yG_read cG_read 4 (some .int) rmG_read G kA kL Λ ad [.ref (ad c0), .int x1, .int x2] w q := by
  refine Xi.of hlt (by decide +kernel) (Nat.le_of_ble_eq_true rfl) ⟨Nat.le_of_ble_eq_true rfl, Nat.le_of_ble_eq_true rfl, rfl, rfl⟩ ?_
  intro p e s m args below meth c Q ls S hret hthr hl hI
  have S : CallFix p m c cG_read 4 s args (.code yG_read cG_read 4 (some .int) :: gW) "GuardVolume" := S
  have hl : lv_has ls 4 [(0, .ref (ad c0)), (1, .int x1), (2, .int x2)] := hl
  have hx := S.1
  have hb := S.2.1
  unfold fG_read at hf
  have hf := (gd_some hf).2
  refine lv_iload_n hx hb dG_read_0 rfl (lv_at hl 1 rfl) ?_
  refine lv_bipush hx hb dG_read_1 kB_64 ?_
  obtain ⟨q1, hq1, hf⟩ := ob_ hf
  refine r_ci (r_S (rest := []) (As := [.int x1, .int 64]) S hl hI (kG_isBelow l G kA kL Λ ad w x1 64 q1.1 q1.2 hq1) pkG_isBelow kw_166 kw_165 ⟨rfl, rfl⟩ ⟨Nat.le_of_ble_eq_true rfl, Nat.le_of_ble_eq_true rfl⟩ rfl rfl (Nat.le_of_ble_eq_true rfl) ⟨Nat.zero_le _, Nat.zero_le _⟩ dG_read_3) hI (fun H locs hI => ?_)
  refine lv_if_eq (tgt := 18) hx hb dG_read_6 rfl (fun h2 => ?_) (fun h2 => ?_)
  · have hf := ip_ hf h2
    exact hthr _ _ _ _ _ _ _ _ _ hI hl hf th1 dG_read_18 dG_read_21 dG_read_22 dG_read_25
  · have hf := in_ hf h2
    refine lv_iload_n hx hb dG_read_9 rfl (lv_at hl 2 rfl) ?_
    refine lv_bipush hx hb dG_read_10 kB_8 ?_
    obtain ⟨q3, hq3, hf⟩ := ob_ hf
    refine r_ci (r_S (rest := []) (As := [.int x2, .int 8]) S hl hI (kG_isBelow l G kA kL Λ ad q1.1 x2 8 q3.1 q3.2 hq3) pkG_isBelow kw_166 kw_165 ⟨rfl, rfl⟩ ⟨Nat.le_of_ble_eq_true rfl, Nat.le_of_ble_eq_true rfl⟩ rfl rfl (Nat.le_of_ble_eq_true rfl) ⟨Nat.zero_le _, Nat.zero_le _⟩ dG_read_12) hI (fun H locs hI => ?_)
    refine lv_if_ne (tgt := 26) hx hb dG_read_15 rfl (fun h4 => ?_) (fun h4 => ?_)
    · have hf := in_ hf h4
      refine lv_aload_n hx hb dG_read_26 rfl (lv_at hl 0 rfl) ?_
      obtain ⟨r5, hr5, hf⟩ := ob_ hf
      refine r_getr (i := 2) S hI fcG (Nat.le_of_ble_eq_true rfl) kw_115 dG_read_27 hr5 ?_
      obtain ⟨v6, hv6, hf⟩ := ob_ hf
      refine r_getiN (i := 0) S hI fcP (Nat.le_of_ble_eq_true rfl) kn_67 dG_read_30 hv6 ?_
      refine lv_if_ne (tgt := 44) hx hb dG_read_33 rfl (fun h7 => ?_) (fun h7 => ?_)
      · have hf := in_ hf h7
        refine lv_aload_n hx hb dG_read_44 rfl (lv_at hl 0 rfl) ?_
        refine lv_iload_n hx hb dG_read_45 rfl (lv_at hl 1 rfl) ?_
        obtain ⟨q8, hq8, hf⟩ := ob_ hf
        refine r_ci (r_V (rest := []) (As := [.int x1]) S hl hI (kG_goodCopy l G kA kL Λ ad q3.1 c0 x1 q8.1 q8.2 hq8) pkG_goodCopy kw_249 ks_G_goodCopy (fcG).1 (gd_some hq8).1 kw_247 ⟨rfl, rfl⟩ ⟨Nat.le_of_ble_eq_true rfl, Nat.le_of_ble_eq_true rfl⟩ rfl rfl (Nat.le_of_ble_eq_true rfl) ⟨Nat.zero_le _, Nat.zero_le _⟩ dG_read_46) hI (fun H locs hI => ?_)
        refine lv_istore_n hx hb (lv' := [(3, .int q8.2), (0, .ref (ad c0)), (1, .int x1), (2, .int x2)]) dG_read_49 rfl hl (Nat.le_of_ble_eq_true rfl) rfl (fun ls hl => ?_)
        refine lv_aload_n hx hb dG_read_50 rfl (lv_at hl 1 rfl) ?_
        refine lv_iload_n hx hb dG_read_51 rfl (lv_at hl 0 rfl) ?_
        obtain ⟨q9, hq9, hf⟩ := ob_ hf
        refine r_ci (r_S (rest := [.ref (ad c0)]) (As := [.int q8.2]) S hl hI (kG_codeOf l G kA kL Λ ad q8.1 q8.2 q9.1 q9.2 hq9) pkG_codeOf kw_292 kw_291 ⟨rfl, rfl⟩ ⟨Nat.le_of_ble_eq_true rfl, Nat.le_of_ble_eq_true rfl⟩ rfl rfl (Nat.le_of_ble_eq_true rfl) ⟨Nat.zero_le _, Nat.zero_le _⟩ dG_read_52) hI (fun H locs hI => ?_)
        obtain ⟨w10, hw10, hf⟩ := ob_ hf
        refine r_put (i := 6) S hI fcG (Nat.le_of_ble_eq_true rfl) kw_119 rfl rfl rfl dG_read_55 hw10 (fun H locs hI => ?_)
        refine lv_iload_n hx hb dG_read_58 rfl (lv_at hl 0 rfl) ?_
        refine lv_iconst hx hb dG_read_59 kI_m1 ?_
        refine lv_icmp_ne (tgt := 67) hx hb dG_read_60 rfl (fun h11 => ?_) (fun h11 => ?_)
        · have hf := in_ hf h11
          refine lv_aload_n hx hb dG_read_67 rfl (lv_at hl 1 rfl) ?_
          refine lv_iload_n hx hb dG_read_68 rfl (lv_at hl 0 rfl) ?_
          obtain ⟨q12, hq12, hf⟩ := ob_ hf
          refine r_cr (r_V (rest := []) (As := [.int q8.2]) S hl hI (kG_driveOf l G kA kL Λ ad w10 c0 q8.2 q12.1 q12.2 hq12) pkG_driveOf kw_257 ks_G_driveOf (fcG).1 (gd_some hq12).1 kw_255 ⟨rfl, rfl⟩ ⟨Nat.le_of_ble_eq_true rfl, Nat.le_of_ble_eq_true rfl⟩ rfl rfl (Nat.le_of_ble_eq_true rfl) ⟨Nat.zero_le _, Nat.zero_le _⟩ dG_read_69) hI (fun H locs hI => ?_)
          refine lv_iload_n hx hb dG_read_72 rfl (lv_at hl 2 rfl) ?_
          refine lv_iload_n hx hb dG_read_73 rfl (lv_at hl 3 rfl) ?_
          obtain ⟨q13, hq13, hf⟩ := ob_ hf
          refine r_ci (r_VN (rest := []) (As := [.int x1, .int x2]) S hl hI (kD_at l G kA kL Λ ad q12.1 q12.2 x1 x2 q13.1 q13.2 hq13) pkD_at kw_261 ks_D_at (fcD).1 (gd_some hq13).1 kn_259 ⟨rfl, rfl⟩ ⟨Nat.le_of_ble_eq_true rfl, Nat.le_of_ble_eq_true rfl⟩ rfl rfl (Nat.le_of_ble_eq_true rfl) ⟨Nat.zero_le _, Nat.zero_le _⟩ dG_read_74) hI (fun H locs hI => ?_)
          exact hret _ _ _ _ _ _ hI hf dG_read_77
        · have hf := ip_ hf h11
          refine lv_iconst hx hb dG_read_63 kI_0 ?_
          refine lv_goto (tgt := 77) hx hb dG_read_64 rfl ?_
          exact hret _ _ _ _ _ _ hI hf dG_read_77
      · have hf := ip_ hf h7
        exact hthr _ _ _ _ _ _ _ _ _ hI hl hf th2 dG_read_36 dG_read_39 dG_read_40 dG_read_43
    · have hf := ip_ hf h4
      exact hthr _ _ _ _ _ _ _ _ _ hI hl hf th1 dG_read_18 dG_read_21 dG_read_22 dG_read_25
/-- GuardVolume.plan(IIII)V -/
abbrev rmG_plan : Room := { frames := 6, cells := 1, slots := 6, locals := 81 }
theorem pkG_plan : Pk yG_plan cG_plan 5 none 4 := ⟨kw_352, kw_1, by decide +kernel, by decide +kernel, by decide +kernel⟩
def fG_plan (Λ : La) (w : Wo) (c0 : Nat) (x1 : Int32) (x2 : Int32) (x3 : Int32) (x4 : Int32) : Option (Wo × Nat × Int32) := gd (isC Λ c0 4) ((fG_isBelow Λ w x1 2).bind fun q1 => if q1.2 = 0 then (some (q1.1, 1, 0)) else (if x2 < 1 then (some (q1.1, 4, 0)) else (if 50 < x2 then (some (q1.1, 4, 0)) else ((fG_isPlan Λ q1.1 x3 x4).bind fun q5 => if q5.2 = 0 then (some (q5.1, 4, 0)) else ((fG_driveOf Λ q5.1 c0 x1).bind fun q7 => (fD_planOfNext Λ q7.1 q7.2 x2).bind fun q8 => if q8.2 = (-1) then ((fG_driveOf Λ q8.1 c0 x1).bind fun q10 => (gi Λ q10.1 q10.2 0 4).bind fun v11 => if v11 = 8 then (some (q10.1, 3, 0)) else ((fG_driveOf Λ q10.1 c0 x1).bind fun q13 => (fD_addPlan Λ q13.1 q13.2 x2 x3 x4).bind fun w14 => some (w14, 0, 0))) else (some (q8.1, 4, 0)))))))
set_option maxHeartbeats 4000000 in
set_option maxRecDepth 100000 in
theorem xG_plan (l : Launch) (hlt : l.stackTraces = false) (G : va_G) (kA kL : ClassId) (Λ : La) (ad : Nat → Nat) (w : Wo) (c0 : Nat) (x1 : Int32) (x2 : Int32) (x3 : Int32) (x4 : Int32) (q : Wo × Nat × Int32) (hf : fG_plan Λ w c0 x1 x2 x3 x4 = some q) : Xv l yG_plan cG_plan 5 rmG_plan G kA kL Λ ad [.ref (ad c0), .int x1, .int x2, .int x3, .int x4] w q := by
  refine Xv.of hlt (by decide +kernel) (Nat.le_of_ble_eq_true rfl) ⟨Nat.le_of_ble_eq_true rfl, Nat.le_of_ble_eq_true rfl, rfl, rfl⟩ ?_
  intro p e s m args below meth c Q ls S hret hthr hl hI
  have S : CallFix p m c cG_plan 5 s args (.code yG_plan cG_plan 5 none :: gW) "GuardVolume" := S
  have hl : lv_has ls 5 [(0, .ref (ad c0)), (1, .int x1), (2, .int x2), (3, .int x3), (4, .int x4)] := hl
  have hx := S.1
  have hb := S.2.1
  unfold fG_plan at hf
  have hf := (gd_some hf).2
  refine lv_iload_n hx hb dG_plan_0 rfl (lv_at hl 1 rfl) ?_
  refine lv_iconst hx hb dG_plan_1 kI_2 ?_
  obtain ⟨q1, hq1, hf⟩ := ob_ hf
  refine r_ci (r_S (rest := []) (As := [.int x1, .int 2]) S hl hI (kG_isBelow l G kA kL Λ ad w x1 2 q1.1 q1.2 hq1) pkG_isBelow kw_166 kw_165 ⟨rfl, rfl⟩ ⟨Nat.le_of_ble_eq_true rfl, Nat.le_of_ble_eq_true rfl⟩ rfl rfl (Nat.le_of_ble_eq_true rfl) ⟨Nat.zero_le _, Nat.zero_le _⟩ dG_plan_2) hI (fun H locs hI => ?_)
  refine lv_if_ne (tgt := 16) hx hb dG_plan_5 rfl (fun h2 => ?_) (fun h2 => ?_)
  · have hf := in_ hf h2
    refine lv_iload_n hx hb dG_plan_16 rfl (lv_at hl 2 rfl) ?_
    refine lv_iconst hx hb dG_plan_17 kI_1 ?_
    refine lv_icmp_lt (tgt := 49) hx hb dG_plan_18 rfl (fun h3 => ?_) (fun h3 => ?_)
    · have hf := ip_ hf h3
      exact hthr _ _ _ _ _ _ _ _ _ hI hl hf th4 dG_plan_49 dG_plan_52 dG_plan_53 dG_plan_56
    · have hf := in_ hf h3
      refine lv_iload_n hx hb dG_plan_21 rfl (lv_at hl 2 rfl) ?_
      refine lv_bipush hx hb dG_plan_22 kB_50 ?_
      refine lv_icmp_gt (tgt := 49) hx hb dG_plan_24 rfl (fun h4 => ?_) (fun h4 => ?_)
      · have hf := ip_ hf h4
        exact hthr _ _ _ _ _ _ _ _ _ hI hl hf th4 dG_plan_49 dG_plan_52 dG_plan_53 dG_plan_56
      · have hf := in_ hf h4
        refine lv_iload_n hx hb dG_plan_27 rfl (lv_at hl 3 rfl) ?_
        refine lv_iload hx hb dG_plan_28 (lv_at hl 4 rfl) ?_
        obtain ⟨q5, hq5, hf⟩ := ob_ hf
        refine r_ci (r_S (rest := []) (As := [.int x3, .int x4]) S hl hI (kG_isPlan l G kA kL Λ ad q1.1 x3 x4 q5.1 q5.2 hq5) pkG_isPlan kw_354 kw_353 ⟨rfl, rfl⟩ ⟨Nat.le_of_ble_eq_true rfl, Nat.le_of_ble_eq_true rfl⟩ rfl rfl (Nat.le_of_ble_eq_true rfl) ⟨Nat.zero_le _, Nat.zero_le _⟩ dG_plan_30) hI (fun H locs hI => ?_)
        refine lv_if_eq (tgt := 49) hx hb dG_plan_33 rfl (fun h6 => ?_) (fun h6 => ?_)
        · have hf := ip_ hf h6
          exact hthr _ _ _ _ _ _ _ _ _ hI hl hf th4 dG_plan_49 dG_plan_52 dG_plan_53 dG_plan_56
        · have hf := in_ hf h6
          refine lv_aload_n hx hb dG_plan_36 rfl (lv_at hl 0 rfl) ?_
          refine lv_iload_n hx hb dG_plan_37 rfl (lv_at hl 1 rfl) ?_
          obtain ⟨q7, hq7, hf⟩ := ob_ hf
          refine r_cr (r_V (rest := []) (As := [.int x1]) S hl hI (kG_driveOf l G kA kL Λ ad q5.1 c0 x1 q7.1 q7.2 hq7) pkG_driveOf kw_257 ks_G_driveOf (fcG).1 (gd_some hq7).1 kw_255 ⟨rfl, rfl⟩ ⟨Nat.le_of_ble_eq_true rfl, Nat.le_of_ble_eq_true rfl⟩ rfl rfl (Nat.le_of_ble_eq_true rfl) ⟨Nat.zero_le _, Nat.zero_le _⟩ dG_plan_38) hI (fun H locs hI => ?_)
          refine lv_iload_n hx hb dG_plan_41 rfl (lv_at hl 2 rfl) ?_
          obtain ⟨q8, hq8, hf⟩ := ob_ hf
          refine r_ci (r_VN (rest := []) (As := [.int x2]) S hl hI (kD_planOfNext l G kA kL Λ ad q7.1 q7.2 x2 q8.1 q8.2 hq8) pkD_planOfNext kw_321 ks_D_planOfNext (fcD).1 (gd_some hq8).1 kn_356 ⟨rfl, rfl⟩ ⟨Nat.le_of_ble_eq_true rfl, Nat.le_of_ble_eq_true rfl⟩ rfl rfl (Nat.le_of_ble_eq_true rfl) ⟨Nat.zero_le _, Nat.zero_le _⟩ dG_plan_42) hI (fun H locs hI => ?_)
          refine lv_iconst hx hb dG_plan_45 kI_m1 ?_
          refine lv_icmp_eq (tgt := 57) hx hb dG_plan_46 rfl (fun h9 => ?_) (fun h9 => ?_)
          · have hf := ip_ hf h9
            refine lv_aload_n hx hb dG_plan_57 rfl (lv_at hl 0 rfl) ?_
            refine lv_iload_n hx hb dG_plan_58 rfl (lv_at hl 1 rfl) ?_
            obtain ⟨q10, hq10, hf⟩ := ob_ hf
            refine r_cr (r_V (rest := []) (As := [.int x1]) S hl hI (kG_driveOf l G kA kL Λ ad q8.1 c0 x1 q10.1 q10.2 hq10) pkG_driveOf kw_257 ks_G_driveOf (fcG).1 (gd_some hq10).1 kw_255 ⟨rfl, rfl⟩ ⟨Nat.le_of_ble_eq_true rfl, Nat.le_of_ble_eq_true rfl⟩ rfl rfl (Nat.le_of_ble_eq_true rfl) ⟨Nat.zero_le _, Nat.zero_le _⟩ dG_plan_59) hI (fun H locs hI => ?_)
            obtain ⟨v11, hv11, hf⟩ := ob_ hf
            refine r_getiN (i := 4) S hI fcD (Nat.le_of_ble_eq_true rfl) kn_43 dG_plan_62 hv11 ?_
            refine lv_bipush hx hb dG_plan_65 kB_8 ?_
            refine lv_icmp_ne (tgt := 78) hx hb dG_plan_67 rfl (fun h12 => ?_) (fun h12 => ?_)
            · have hf := in_ hf h12
              refine lv_aload_n hx hb dG_plan_78 rfl (lv_at hl 0 rfl) ?_
              refine lv_iload_n hx hb dG_plan_79 rfl (lv_at hl 1 rfl) ?_
              obtain ⟨q13, hq13, hf⟩ := ob_ hf
              refine r_cr (r_V (rest := []) (As := [.int x1]) S hl hI (kG_driveOf l G kA kL Λ ad q10.1 c0 x1 q13.1 q13.2 hq13) pkG_driveOf kw_257 ks_G_driveOf (fcG).1 (gd_some hq13).1 kw_255 ⟨rfl, rfl⟩ ⟨Nat.le_of_ble_eq_true rfl, Nat.le_of_ble_eq_true rfl⟩ rfl rfl (Nat.le_of_ble_eq_true rfl) ⟨Nat.zero_le _, Nat.zero_le _⟩ dG_plan_80) hI (fun H locs hI => ?_)
              refine lv_iload_n hx hb dG_plan_83 rfl (lv_at hl 2 rfl) ?_
              refine lv_iload_n hx hb dG_plan_84 rfl (lv_at hl 3 rfl) ?_
              refine lv_iload hx hb dG_plan_85 (lv_at hl 4 rfl) ?_
              obtain ⟨w14, hw14, hf⟩ := ob_ hf
              refine r_cv (r_VN (rest := []) (As := [.int x2, .int x3, .int x4]) S hl hI (kD_addPlan l G kA kL Λ ad q13.1 q13.2 x2 x3 x4 w14 hw14) pkD_addPlan kw_374 ks_D_addPlan (fcD).1 (gd_some hw14).1 kn_372 ⟨rfl, rfl⟩ ⟨Nat.le_of_ble_eq_true rfl, Nat.le_of_ble_eq_true rfl⟩ rfl rfl (Nat.le_of_ble_eq_true rfl) ⟨Nat.zero_le _, Nat.zero_le _⟩ dG_plan_87) hI (fun H locs hI => ?_)
              exact hret _ _ _ _ _ hI hf dG_plan_90
            · have hf := ip_ hf h12
              exact hthr _ _ _ _ _ _ _ _ _ hI hl hf th3 dG_plan_70 dG_plan_73 dG_plan_74 dG_plan_77
          · have hf := in_ hf h9
            exact hthr _ _ _ _ _ _ _ _ _ hI hl hf th4 dG_plan_49 dG_plan_52 dG_plan_53 dG_plan_56
  · have hf := ip_ hf h2
    exact hthr _ _ _ _ _ _ _ _ _ hI hl hf th1 dG_plan_8 dG_plan_11 dG_plan_12 dG_plan_15
/-- GuardVolume.cutAfter(I)V -/
abbrev rmG_cutAfter : Room := { frames := 6, cells := 1, slots := 6, locals := 81 }
theorem pkG_cutAfter : Pk yG_cutAfter cG_cutAfter 2 none 1 := ⟨kw_382, kw_1, by decide +kernel, by decide +kernel, by decide +kernel⟩
def fG_cutAfter (Λ : La) (w : Wo) (c0 : Nat) (x1 : Int32) : Option (Wo × Nat × Int32) := gd (isC Λ c0 4) (if x1 < (-1) then (some (w, 4, 0)) else (if x1 ≤ 100 then ((gr Λ c0 4 2).bind fun r3 => (gi Λ w r3 3 0).bind fun v4 => if v4 = 0 then (some (w, 2, 0)) else ((gr Λ c0 4 2).bind fun r6 => (pf Λ w r6 3 1 x1).bind fun w7 => some (w7, 0, 0))) else (some (w, 4, 0))))
set_option maxHeartbeats 4000000 in
set_option maxRecDepth 100000 in
theorem xG_cutAfter (l : Launch) (hlt : l.stackTraces = false) (G : va_G) (kA kL : ClassId) (Λ : La) (ad : Nat → Nat) (w : Wo) (c0 : Nat) (x1 : Int32) (q : Wo × Nat × Int32) (hf : fG_cutAfter Λ w c0 x1 = some q) : Xv l yG_cutAfter cG_cutAfter 2 rmG_cutAfter G kA kL Λ ad [.ref (ad c0), .int x1] w q := by
  refine Xv.of hlt (by decide +kernel) (Nat.le_of_ble_eq_true rfl) ⟨Nat.le_of_ble_eq_true rfl, Nat.le_of_ble_eq_true rfl, rfl, rfl⟩ ?_
  intro p e s m args below meth c Q ls S hret hthr hl hI
  have S : CallFix p m c cG_cutAfter 2 s args (.code yG_cutAfter cG_cutAfter 2 none :: gW) "GuardVolume" := S
  have hl : lv_has ls 2 [(0, .ref (ad c0)), (1, .int x1)] := hl
  have hx := S.1
  have hb := S.2.1
  unfold fG_cutAfter at hf
  have hf := (gd_some hf).2
  refine lv_iload_n hx hb dG_cutAfter_0 rfl (lv_at hl 1 rfl) ?_
  refine lv_iconst hx hb dG_cutAfter_1 kI_m1 ?_
  refine lv_icmp_lt (tgt := 11) hx hb dG_cutAfter_2 rfl (fun h1 => ?_) (fun h1 => ?_)
  · have hf := ip_ hf h1
    exact hthr _ _ _ _ _ _ _ _ _ hI hl hf th4 dG_cutAfter_11 dG_cutAfter_14 dG_cutAfter_15 dG_cutAfter_18
  · have hf := in_ hf h1
    refine lv_iload_n hx hb dG_cutAfter_5 rfl (lv_at hl 1 rfl) ?_
    refine lv_bipush hx hb dG_cutAfter_6 kB_100 ?_
    refine lv_icmp_le (tgt := 19) hx hb dG_cutAfter_8 rfl (fun h2 => ?_) (fun h2 => ?_)
    · have hf := ip_ hf h2
      refine lv_aload_n hx hb dG_cutAfter_19 rfl (lv_at hl 0 rfl) ?_
      obtain ⟨r3, hr3, hf⟩ := ob_ hf
      refine r_getr (i := 2) S hI fcG (Nat.le_of_ble_eq_true rfl) kw_115 dG_cutAfter_20 hr3 ?_
      obtain ⟨v4, hv4, hf⟩ := ob_ hf
      refine r_getiN (i := 0) S hI fcP (Nat.le_of_ble_eq_true rfl) kn_67 dG_cutAfter_23 hv4 ?_
      refine lv_if_ne (tgt := 37) hx hb dG_cutAfter_26 rfl (fun h5 => ?_) (fun h5 => ?_)
      · have hf := in_ hf h5
        refine lv_aload_n hx hb dG_cutAfter_37 rfl (lv_at hl 0 rfl) ?_
        obtain ⟨r6, hr6, hf⟩ := ob_ hf
        refine r_getr (i := 2) S hI fcG (Nat.le_of_ble_eq_true rfl) kw_115 dG_cutAfter_38 hr6 ?_
        refine lv_iload_n hx hb dG_cutAfter_41 rfl (lv_at hl 1 rfl) ?_
        obtain ⟨w7, hw7, hf⟩ := ob_ hf
        refine r_putN (i := 1) S hI fcP (Nat.le_of_ble_eq_true rfl) kn_69 rfl rfl rfl dG_cutAfter_42 hw7 (fun H locs hI => ?_)
        exact hret _ _ _ _ _ hI hf dG_cutAfter_45
      · have hf := ip_ hf h5
        exact hthr _ _ _ _ _ _ _ _ _ hI hl hf th2 dG_cutAfter_29 dG_cutAfter_32 dG_cutAfter_33 dG_cutAfter_36
    · have hf := in_ hf h2
      exact hthr _ _ _ _ _ _ _ _ _ hI hl hf th4 dG_cutAfter_11 dG_cutAfter_14 dG_cutAfter_15 dG_cutAfter_18
/-- GuardVolume.start()I -/
abbrev rmG_start : Room := { frames := 7, cells := 1, slots := 6, locals := 170 }
theorem pkG_start : Pk yG_start cG_start 2 (some .int) 0 := ⟨kw_389, kw_1, by decide +kernel, by decide +kernel, by decide +kernel⟩
def bG_start_66 (Λ : La) (w : Wo) (c0 : Nat) (x1 : Int32) : Option (Wo × Nat × Int32) := (gr Λ c0 4 0).bind fun r1 => (gi Λ w r1 0 5).bind fun v2 => (gr Λ c0 4 1).bind fun r3 => (gi Λ w r3 0 5).bind fun v4 => some (w, 0, ((v2 + v4) - x1))
def fG_start (Λ : La) (w : Wo) (c0 : Nat) : Option (Wo × Nat × Int32) := gd (isC Λ c0 4) ((gr Λ c0 4 2).bind fun r5 => (gi Λ w r5 3 0).bind fun v6 => if v6 = 0 then ((gr Λ c0 4 2).bind fun r8 => (pf Λ w r8 3 0 1).bind fun w9 => (gr Λ c0 4 2).bind fun r10 => (pf Λ w9 r10 3 1 (-1)).bind fun w11 => (gr Λ c0 4 0).bind fun r12 => (gi Λ w11 r12 0 5).bind fun v13 => (gr Λ c0 4 1).bind fun r14 => (gi Λ w11 r14 0 5).bind fun v15 => (gr Λ c0 4 3).bind fun r16 => (gi Λ w11 r16 2 1).bind fun v17 => if v17 = (-1) then (bG_start_66 Λ w11 c0 (v13 + v15)) else ((fG_putNotedBlock Λ w11 c0).bind fun q19 => bG_start_66 Λ q19.1 c0 (v13 + v15))) else (some (w, 2, 0)))
set_option maxHeartbeats 4000000 in
set_option maxRecDepth 100000 in
theorem xG_start (l : Launch) (hlt : l.stackTraces = false) (G : va_G) (kA kL : ClassId) (Λ : La) (ad : Nat → Nat) (w : Wo) (c0 : Nat) (q : Wo × Nat × Int32) (hf : fG_start Λ w c0 = some q) : Xi l yG_start cG_start 2 (some .int) rmG_start G kA kL Λ ad [.ref (ad c0)] w q := by
  refine Xi.of hlt (by decide +kernel) (Nat.le_of_ble_eq_true rfl) ⟨Nat.le_of_ble_eq_true rfl, Nat.le_of_ble_eq_true rfl, rfl, rfl⟩ ?_
  intro p e s m args below meth c Q ls S hret hthr hl hI
  have S : CallFix p m c cG_start 2 s args (.code yG_start cG_start 2 (some .int) :: gW) "GuardVolume" := S
  have hl : lv_has ls 2 [(0, .ref (ad c0))] := hl
  have hx := S.1
  have hb := S.2.1
  have bk66 : ∀ (w : Wo) (c0 : Nat) (x1 : Int32) (H : Heap) (locs : List Loc) (ls : Array Slot), lv_has ls 2 [(0, .ref (ad c0)), (1, .int x1)] → Iv (Aa Λ ad) G kA kL Λ ad w s H locs → bG_start_66 Λ w c0 x1 = some q → W p l e rmG_start s m args below meth c H locs 0 0 Q (F0 m 66 ls []) := by
    intro w c0 x1 H locs ls hl hI hf
    unfold bG_start_66 at hf
    refine lv_aload_n hx hb dG_start_66 rfl (lv_at hl 0 rfl) ?_
    obtain ⟨r1, hr1, hf⟩ := ob_ hf
    refine r_getr (i := 0) S hI fcG (Nat.le_of_ble_eq_true rfl) kw_113 dG_start_67 hr1 ?_
    obtain ⟨v2, hv2, hf⟩ := ob_ hf
    refine r_getiN (i := 5) S hI fcD (Nat.le_of_ble_eq_true rfl) kn_45 dG_start_70 hv2 ?_
    refine lv_aload_n hx hb dG_start_73 rfl (lv_at hl 0 rfl) ?_
    obtain ⟨r3, hr3, hf⟩ := ob_ hf
    refine r_getr (i := 1) S hI fcG (Nat.le_of_ble_eq_true rfl) kw_114 dG_start_74 hr3 ?_
    obtain ⟨v4, hv4, hf⟩ := ob_ hf
    refine r_getiN (i := 5) S hI fcD (Nat.le_of_ble_eq_true rfl) kn_45 dG_start_77 hv4 ?_
    refine lv_iadd hx hb dG_start_80 ?_
    refine lv_iload_n hx hb dG_start_81 rfl (lv_at hl 1 rfl) ?_
    refine lv_isub hx hb dG_start_82 ?_
    exact hret _ _ _ _ _ _ hI hf dG_start_83
  unfold fG_start at hf
  have hf := (gd_some hf).2
  refine lv_aload_n hx hb dG_start_0 rfl (lv_at hl 0 rfl) ?_
  obtain ⟨r5, hr5, hf⟩ := ob_ hf
  refine r_getr (i := 2) S hI fcG (Nat.le_of_ble_eq_true rfl) kw_115 dG_start_1 hr5 ?_
  obtain ⟨v6, hv6, hf⟩ := ob_ hf
  refine r_getiN (i := 0) S hI fcP (Nat.le_of_ble_eq_true rfl) kn_67 dG_start_4 hv6 ?_
  refine lv_if_eq (tgt := 18) hx hb dG_start_7 rfl (fun h7 => ?_) (fun h7 => ?_)
  · have hf := ip_ hf h7
    refine lv_aload_n hx hb dG_start_18 rfl (lv_at hl 0 rfl) ?_
    obtain ⟨r8, hr8, hf⟩ := ob_ hf
    refine r_getr (i := 2) S hI fcG (Nat.le_of_ble_eq_true rfl) kw_115 dG_start_19 hr8 ?_
    refine lv_iconst hx hb dG_start_22 kI_1 ?_
    obtain ⟨w9, hw9, hf⟩ := ob_ hf
    refine r_putN (i := 0) S hI fcP (Nat.le_of_ble_eq_true rfl) kn_67 rfl (narrow_z (Or.inr rfl)) rfl dG_start_23 hw9 (fun H locs hI => ?_)
    refine lv_aload_n hx hb dG_start_26 rfl (lv_at hl 0 rfl) ?_
    obtain ⟨r10, hr10, hf⟩ := ob_ hf
    refine r_getr (i := 2) S hI fcG (Nat.le_of_ble_eq_true rfl) kw_115 dG_start_27 hr10 ?_
    refine lv_iconst hx hb dG_start_30 kI_m1 ?_
    obtain ⟨w11, hw11, hf⟩ := ob_ hf
    refine r_putN (i := 1) S hI fcP (Nat.le_of_ble_eq_true rfl) kn_69 rfl rfl rfl dG_start_31 hw11 (fun H locs hI => ?_)
    refine lv_aload_n hx hb dG_start_34 rfl (lv_at hl 0 rfl) ?_
    obtain ⟨r12, hr12, hf⟩ := ob_ hf
    refine r_getr (i := 0) S hI fcG (Nat.le_of_ble_eq_true rfl) kw_113 dG_start_35 hr12 ?_
    obtain ⟨v13, hv13, hf⟩ := ob_ hf
    refine r_getiN (i := 5) S hI fcD (Nat.le_of_ble_eq_true rfl) kn_45 dG_start_38 hv13 ?_
    refine lv_aload_n hx hb dG_start_41 rfl (lv_at hl 0 rfl) ?_
    obtain ⟨r14, hr14, hf⟩ := ob_ hf
    refine r_getr (i := 1) S hI fcG (Nat.le_of_ble_eq_true rfl) kw_114 dG_start_42 hr14 ?_
    obtain ⟨v15, hv15, hf⟩ := ob_ hf
    refine r_getiN (i := 5) S hI fcD (Nat.le_of_ble_eq_true rfl) kn_45 dG_start_45 hv15 ?_
    refine lv_iadd hx hb dG_start_48 ?_
    refine lv_istore_n hx hb (lv' := [(1, .int (v13 + v15)), (0, .ref (ad c0))]) dG_start_49 rfl hl (Nat.le_of_ble_eq_true rfl) rfl (fun ls hl => ?_)
    refine lv_aload_n hx hb dG_start_50 rfl (lv_at hl 1 rfl) ?_
    obtain ⟨r16, hr16, hf⟩ := ob_ hf
    refine r_getr (i := 3) S hI fcG (Nat.le_of_ble_eq_true rfl) kw_116 dG_start_51 hr16 ?_
    obtain ⟨v17, hv17, hf⟩ := ob_ hf
    refine r_getiN (i := 1) S hI fcJ (Nat.le_of_ble_eq_true rfl) kn_84 dG_start_54 hv17 ?_
    refine lv_iconst hx hb dG_start_57 kI_m1 ?_
    refine lv_icmp_eq (tgt := 66) hx hb dG_start_58 rfl (fun h18 => ?_) (fun h18 => ?_)
    · have hf := ip_ hf h18
      exact bk66 w11 c0 (v13 + v15) _ _ _ (lv_sub hl [1, 0] rfl) hI hf
    · have hf := in_ hf h18
      refine lv_aload_n hx hb dG_start_61 rfl (lv_at hl 1 rfl) ?_
      obtain ⟨q19, hq19, hf⟩ := ob_ hf
      refine r_ci (r_V (rest := []) (As := []) S hl hI (kG_putNotedBlock l G kA kL Λ ad w11 c0 q19.1 q19.2 hq19) pkG_putNotedBlock kw_300 ks_G_putNotedBlock (fcG).1 (gd_some hq19).1 kw_298 ⟨rfl, rfl⟩ ⟨Nat.le_of_ble_eq_true rfl, Nat.le_of_ble_eq_true rfl⟩ rfl rfl (Nat.le_of_ble_eq_true rfl) ⟨Nat.zero_le _, Nat.zero_le _⟩ dG_start_62) hI (fun H locs hI => ?_)
      refine lv_pop hx hb dG_start_65 rfl ?_
      exact bk66 q19.1 c0 (v13 + v15) _ _ _ (lv_sub hl [1, 0] rfl) hI hf
  · have hf := in_ hf h7
    exact hthr _ _ _ _ _ _ _ _ _ hI hl hf th2 dG_start_10 dG_start_13 dG_start_14 dG_start_17
/-- GuardVolume.scrub(I)I -/
abbrev rmG_scrub : Room := { frames := 7, cells := 1, slots := 6, locals := 170 }
theorem pkG_scrub : Pk yG_scrub cG_scrub 4 (some .int) 1 := ⟨kw_396, kw_1, by decide +kernel, by decide +kernel, by decide +kernel⟩
def bG_scrub_81 (Λ : La) (w : Wo) (c0 : Nat) (x2 : Int32) : Option (Wo × Nat × Int32) := (gr Λ c0 4 4).bind fun r1 => (gi Λ w r1 1 2).bind fun v2 => some (w, 0, (v2 - x2))
def bG_scrub_46s (Λ : La) (K46 : Wo → Nat → Int32 → Int32 → Int32 → Option (Wo × Nat × Int32)) (w : Wo) (c0 : Nat) (x1 : Int32) (x2 : Int32) (x3 : Int32) : Option (Wo × Nat × Int32) := if x1 ≤ x3 then (bG_scrub_81 Λ w c0 x2) else ((gi Λ w c0 4 7).bind fun v4 => (fG_scrubBlock Λ w c0 v4).bind fun q5 => if q5.2 = 0 then (bG_scrub_81 Λ q5.1 c0 x2) else ((gi Λ q5.1 c0 4 7).bind fun v7 => (pf Λ q5.1 c0 4 7 ((v7 + 1) - (v7 + 1) / 64 * 64)).bind fun w8 => K46 w8 c0 x1 x2 (x3 + 1)))
def bG_scrub_46 (Λ : La) : Nat → Wo → Nat → Int32 → Int32 → Int32 → Option (Wo × Nat × Int32)
  | 0 => fun _ _ _ _ _ => none
  | n + 1 => bG_scrub_46s Λ (bG_scrub_46 Λ n)
def fG_scrub (Λ : La) (w : Wo) (c0 : Nat) (x1 : Int32) : Option (Wo × Nat × Int32) := gd (isC Λ c0 4) ((gr Λ c0 4 2).bind fun r9 => (gi Λ w r9 3 0).bind fun v10 => if v10 = 0 then (some (w, 2, 0)) else (if x1 < 0 then (some (w, 4, 0)) else (if x1 ≤ 64 then ((gr Λ c0 4 4).bind fun r14 => (gi Λ w r14 1 2).bind fun v15 => bG_scrub_46 Λ 1000 w c0 x1 v15 0) else (some (w, 4, 0)))))
set_option maxHeartbeats 4000000 in
set_option maxRecDepth 100000 in
theorem xG_scrub (l : Launch) (hlt : l.stackTraces = false) (G : va_G) (kA kL : ClassId) (Λ : La) (ad : Nat → Nat) (w : Wo) (c0 : Nat) (x1 : Int32) (q : Wo × Nat × Int32) (hf : fG_scrub Λ w c0 x1 = some q) : Xi l yG_scrub cG_scrub 4 (some .int) rmG_scrub G kA kL Λ ad [.ref (ad c0), .int x1] w q := by
  refine Xi.of hlt (by decide +kernel) (Nat.le_of_ble_eq_true rfl) ⟨Nat.le_of_ble_eq_true rfl, Nat.le_of_ble_eq_true rfl, rfl, rfl⟩ ?_
  intro p e s m args below meth c Q ls S hret hthr hl hI
  have S : CallFix p m c cG_scrub 4 s args (.code yG_scrub cG_scrub 4 (some .int) :: gW) "GuardVolume" := S
  have hl : lv_has ls 4 [(0, .ref (ad c0)), (1, .int x1)] := hl
  have hx := S.1
  have hb := S.2.1
  have bk81 : ∀ (w : Wo) (c0 : Nat) (x2 : Int32) (H : Heap) (locs : List Loc) (ls : Array Slot), lv_has ls 4 [(0, .ref (ad c0)), (2, .int x2)] → Iv (Aa Λ ad) G kA kL Λ ad w s H locs → bG_scrub_81 Λ w c0 x2 = some q → W p l e rmG_scrub s m args below meth c H locs 0 0 Q (F0 m 81 ls []) := by
    intro w c0 x2 H locs ls hl hI hf
    unfold bG_scrub_81 at hf
    refine lv_aload_n hx hb dG_scrub_81 rfl (lv_at hl 0 rfl) ?_
    obtain ⟨r1, hr1, hf⟩ := ob_ hf
    refine r_getr (i := 4) S hI fcG (Nat.le_of_ble_eq_true rfl) kw_117 dG_scrub_82 hr1 ?_
    obtain ⟨v2, hv2, hf⟩ := ob_ hf
    refine r_getiN (i := 2) S hI fcF (Nat.le_of_ble_eq_true rfl) kn_105 dG_scrub_85 hv2 ?_
    refine lv_iload_n hx hb dG_scrub_88 rfl (lv_at hl 1 rfl) ?_
    refine lv_isub hx hb dG_scrub_89 ?_
    exact hret _ _ _ _ _ _ hI hf dG_scrub_90
  have bk46 : ∀ (K46 : Wo → Nat → Int32 → Int32 → Int32 → Option (Wo × Nat × Int32)), (∀ (w : Wo) (c0 : Nat) (x1 : Int32) (x2 : Int32) (x3 : Int32) (H : Heap) (locs : List Loc) (ls : Array Slot), lv_has ls 4 [(0, .ref (ad c0)), (1, .int x1), (2, .int x2), (3, .int x3)] → Iv (Aa Λ ad) G kA kL Λ ad w s H locs → K46 w c0 x1 x2 x3 = some q → W p l e rmG_scrub s m args below meth c H locs 0 0 Q (F0 m 46 ls [])) → ∀ (w : Wo) (c0 : Nat) (x1 : Int32) (x2 : Int32) (x3 : Int32) (H : Heap) (locs : List Loc) (ls : Array Slot), lv_has ls 4 [(0, .ref (ad c0)), (1, .int x1), (2, .int x2), (3, .int x3)] → Iv (Aa Λ ad) G kA kL Λ ad w s H locs → bG_scrub_46s Λ K46 w c0 x1 x2 x3 = some q → W p l e rmG_scrub s m args below meth c H locs 0 0 Q (F0 m 46 ls []) := by
    intro K46 hK46 w c0 x1 x2 x3 H locs ls hl hI hf
    unfold bG_scrub_46s at hf
    refine lv_iload_n hx hb dG_scrub_46 rfl (lv_at hl 3 rfl) ?_
    refine lv_iload_n hx hb dG_scrub_47 rfl (lv_at hl 1 rfl) ?_
    refine lv_icmp_ge (tgt := 81) hx hb dG_scrub_48 rfl (fun h3 => ?_) (fun h3 => ?_)
    · have hf := ip_ hf h3
      exact bk81 w c0 x2 _ _ _ (lv_sub hl [0, 2] rfl) hI hf
    · have hf := in_ hf h3
      refine lv_aload_n hx hb dG_scrub_51 rfl (lv_at hl 0 rfl) ?_
      refine lv_aload_n hx hb dG_scrub_52 rfl (lv_at hl 0 rfl) ?_
      obtain ⟨v4, hv4, hf⟩ := ob_ hf
      refine r_geti (i := 7) S hI fcG (Nat.le_of_ble_eq_true rfl) kw_120 dG_scrub_53 hv4 ?_
      obtain ⟨q5, hq5, hf⟩ := ob_ hf
      refine r_ci (r_V (rest := []) (As := [.int v4]) S hl hI (kG_scrubBlock l G kA kL Λ ad w c0 v4 q5.1 q5.2 hq5) pkG_scrubBlock kw_399 ks_G_scrubBlock (fcG).1 (gd_some hq5).1 kw_397 ⟨rfl, rfl⟩ ⟨Nat.le_of_ble_eq_true rfl, Nat.le_of_ble_eq_true rfl⟩ rfl rfl (Nat.le_of_ble_eq_true rfl) ⟨Nat.zero_le _, Nat.zero_le _⟩ dG_scrub_56) hI (fun H locs hI => ?_)
      refine lv_if_eq (tgt := 81) hx hb dG_scrub_59 rfl (fun h6 => ?_) (fun h6 => ?_)
      · have hf := ip_ hf h6
        exact bk81 q5.1 c0 x2 _ _ _ (lv_sub hl [0, 2] rfl) hI hf
      · have hf := in_ hf h6
        refine lv_aload_n hx hb dG_scrub_62 rfl (lv_at hl 0 rfl) ?_
        refine lv_aload_n hx hb dG_scrub_63 rfl (lv_at hl 0 rfl) ?_
        obtain ⟨v7, hv7, hf⟩ := ob_ hf
        refine r_geti (i := 7) S hI fcG (Nat.le_of_ble_eq_true rfl) kw_120 dG_scrub_64 hv7 ?_
        refine lv_iconst hx hb dG_scrub_67 kI_1 ?_
        refine lv_iadd hx hb dG_scrub_68 ?_
        refine lv_bipush hx hb dG_scrub_69 kB_64 ?_
        refine lv_irem hx hb dG_scrub_71 (by decide +kernel) ?_
        obtain ⟨w8, hw8, hf⟩ := ob_ hf
        refine r_put (i := 7) S hI fcG (Nat.le_of_ble_eq_true rfl) kw_120 rfl rfl rfl dG_scrub_72 hw8 (fun H locs hI => ?_)
        refine lv_iinc hx hb (lv' := [(3, .int (x3 + 1)), (0, .ref (ad c0)), (1, .int x1), (2, .int x2)]) (k := 3) dG_scrub_75 hl rfl (kN_1 _) (Nat.le_of_ble_eq_true rfl) rfl (fun ls hl => ?_)
        refine lv_goto (tgt := 46) hx hb dG_scrub_78 rfl ?_
        exact hK46 w8 c0 x1 x2 (x3 + 1) _ _ _ (lv_sub hl [1, 2, 3, 0] rfl) hI hf
  have lp46 : ∀ (n : Nat), ∀ (w : Wo) (c0 : Nat) (x1 : Int32) (x2 : Int32) (x3 : Int32) (H : Heap) (locs : List Loc) (ls : Array Slot), lv_has ls 4 [(0, .ref (ad c0)), (1, .int x1), (2, .int x2), (3, .int x3)] → Iv (Aa Λ ad) G kA kL Λ ad w s H locs → bG_scrub_46 Λ n w c0 x1 x2 x3 = some q → W p l e rmG_scrub s m args below meth c H locs 0 0 Q (F0 m 46 ls []) := by
    intro n
    induction n with
    | zero =>
      intro w c0 x1 x2 x3 H locs ls hl hI hf
      have hf : (none : Option (Wo × Nat × Int32)) = some q := hf
      cases hf
    | succ n ih =>
      intro w c0 x1 x2 x3 H locs ls hl hI hf
      exact bk46 (bG_scrub_46 Λ n) ih w c0 x1 x2 x3 H locs ls hl hI hf
  unfold fG_scrub at hf
  have hf := (gd_some hf).2
  refine lv_aload_n hx hb dG_scrub_0 rfl (lv_at hl 0 rfl) ?_
  obtain ⟨r9, hr9, hf⟩ := ob_ hf
  refine r_getr (i := 2) S hI fcG (Nat.le_of_ble_eq_true rfl) kw_115 dG_scrub_1 hr9 ?_
  obtain ⟨v10, hv10, hf⟩ := ob_ hf
  refine r_getiN (i := 0) S hI fcP (Nat.le_of_ble_eq_true rfl) kn_67 dG_scrub_4 hv10 ?_
  refine lv_if_ne (tgt := 18) hx hb dG_scrub_7 rfl (fun h11 => ?_) (fun h11 => ?_)
  · have hf := in_ hf h11
    refine lv_iload_n hx hb dG_scrub_18 rfl (lv_at hl 1 rfl) ?_
    refine lv_if_lt (tgt := 28) hx hb dG_scrub_19 rfl (fun h12 => ?_) (fun h12 => ?_)
    · have hf := ip_ hf h12
      exact hthr _ _ _ _ _ _ _ _ _ hI hl hf th4 dG_scrub_28 dG_scrub_31 dG_scrub_32 dG_scrub_35
    · have hf := in_ hf h12
      refine lv_iload_n hx hb dG_scrub_22 rfl (lv_at hl 1 rfl) ?_
      refine lv_bipush hx hb dG_scrub_23 kB_64 ?_
      refine lv_icmp_le (tgt := 36) hx hb dG_scrub_25 rfl (fun h13 => ?_) (fun h13 => ?_)
      · have hf := ip_ hf h13
        refine lv_aload_n hx hb dG_scrub_36 rfl (lv_at hl 0 rfl) ?_
        obtain ⟨r14, hr14, hf⟩ := ob_ hf
        refine r_getr (i := 4) S hI fcG (Nat.le_of_ble_eq_true rfl) kw_117 dG_scrub_37 hr14 ?_
        obtain ⟨v15, hv15, hf⟩ := ob_ hf
        refine r_getiN (i := 2) S hI fcF (Nat.le_of_ble_eq_true rfl) kn_105 dG_scrub_40 hv15 ?_
        refine lv_istore_n hx hb (lv' := [(2, .int v15), (0, .ref (ad c0)), (1, .int x1)]) dG_scrub_43 rfl hl (Nat.le_of_ble_eq_true rfl) rfl (fun ls hl => ?_)
        refine lv_iconst hx hb dG_scrub_44 kI_0 ?_
        refine lv_istore_n hx hb (lv' := [(3, .int 0), (2, .int v15), (0, .ref (ad c0)), (1, .int x1)]) dG_scrub_45 rfl hl (Nat.le_of_ble_eq_true rfl) rfl (fun ls hl => ?_)
        exact lp46 1000 w c0 x1 v15 0 _ _ _ (lv_sub hl [2, 3, 1, 0] rfl) hI hf
      · have hf := in_ hf h13
        exact hthr _ _ _ _ _ _ _ _ _ hI hl hf th4 dG_scrub_28 dG_scrub_31 dG_scrub_32 dG_scrub_35
  · have hf := ip_ hf h11
    exact hthr _ _ _ _ _ _ _ _ _ hI hl hf th2 dG_scrub_10 dG_scrub_13 dG_scrub_14 dG_scrub_17
/-- GuardVolume.finding(II)I -/
abbrev rmG_finding : Room := { frames := 6, cells := 1, slots := 6, locals := 81 }
theorem pkG_finding : Pk yG_finding cG_finding 3 (some .int) 2 := ⟨kw_419, kw_1, by decide +kernel, by decide +kernel, by decide +kernel⟩
def fG_finding (Λ : La) (w : Wo) (c0 : Nat) (x1 : Int32) (x2 : Int32) : Option (Wo × Nat × Int32) := gd (isC Λ c0 4) ((gr Λ c0 4 4).bind fun r1 => (gi Λ w r1 1 1).bind fun v2 => (fG_isBelow Λ w x1 v2).bind fun q3 => if q3.2 = 0 then (some (q3.1, 1, 0)) else ((fG_isBelow Λ q3.1 x2 4).bind fun q5 => if q5.2 = 0 then (some (q5.1, 1, 0)) else ((gr Λ c0 4 4).bind fun r7 => (gr Λ r7 1 0).bind fun r8 => (ld Λ q5.1 r8 ((x1 * 4) + x2)).bind fun v9 => some (q5.1, 0, v9))))
set_option maxHeartbeats 4000000 in
set_option maxRecDepth 100000 in
theorem xG_finding (l : Launch) (hlt : l.stackTraces = false) (G : va_G) (kA kL : ClassId) (Λ : La) (ad : Nat → Nat) (w : Wo) (c0 : Nat) (x1 : Int32) (x2 : Int32) (q : Wo × Nat × Int32) (hf : fG_finding Λ w c0 x1 x2 = some q) : Xi l yG_finding cG_finding 3 (some .int) rmG_finding G kA kL Λ ad [.ref (ad c0), .int x1, .int x2] w q := by
  refine Xi.of hlt (by decide +kernel) (Nat.le_of_ble_eq_true rfl) ⟨Nat.le_of_ble_eq_true rfl, Nat.le_of_ble_eq_true rfl, rfl, rfl⟩ ?_
  intro p e s m args below meth c Q ls S hret hthr hl hI
  have S : CallFix p m c cG_finding 3 s args (.code yG_finding cG_finding 3 (some .int) :: gW) "GuardVolume" := S
  have hl : lv_has ls 3 [(0, .ref (ad c0)), (1, .int x1), (2, .int x2)] := hl
  have hx := S.1
  have hb := S.2.1
  unfold fG_finding at hf
  have hf := (gd_some hf).2
  refine lv_iload_n hx hb dG_finding_0 rfl (lv_at hl 1 rfl) ?_
  refine lv_aload_n hx hb dG_finding_1 rfl (lv_at hl 0 rfl) ?_
  obtain ⟨r1, hr1, hf⟩ := ob_ hf
  refine r_getr (i := 4) S hI fcG (Nat.le_of_ble_eq_true rfl) kw_117 dG_finding_2 hr1 ?_
  obtain ⟨v2, hv2, hf⟩ := ob_ hf
  refine r_getiN (i := 1) S hI fcF (Nat.le_of_ble_eq_true rfl) kn_103 dG_finding_5 hv2 ?_
  obtain ⟨q3, hq3, hf⟩ := ob_ hf
  refine r_ci (r_S (rest := []) (As := [.int x1, .int v2]) S hl hI (kG_isBelow l G kA kL Λ ad w x1 v2 q3.1 q3.2 hq3) pkG_isBelow kw_166 kw_165 ⟨rfl, rfl⟩ ⟨Nat.le_of_ble_eq_true rfl, Nat.le_of_ble_eq_true rfl⟩ rfl rfl (Nat.le_of_ble_eq_true rfl) ⟨Nat.zero_le _, Nat.zero_le _⟩ dG_finding_8) hI (fun H locs hI => ?_)
  refine lv_if_eq (tgt := 22) hx hb dG_finding_11 rfl (fun h4 => ?_) (fun h4 => ?_)
  · have hf := ip_ hf h4
    exact hthr _ _ _ _ _ _ _ _ _ hI hl hf th1 dG_finding_22 dG_finding_25 dG_finding_26 dG_finding_29
  · have hf := in_ hf h4
    refine lv_iload_n hx hb dG_finding_14 rfl (lv_at hl 2 rfl) ?_
    refine lv_iconst hx hb dG_finding_15 kI_4 ?_
    obtain ⟨q5, hq5, hf⟩ := ob_ hf
    refine r_ci (r_S (rest := []) (As := [.int x2, .int 4]) S hl hI (kG_isBelow l G kA kL Λ ad q3.1 x2 4 q5.1 q5.2 hq5) pkG_isBelow kw_166 kw_165 ⟨rfl, rfl⟩ ⟨Nat.le_of_ble_eq_true rfl, Nat.le_of_ble_eq_true rfl⟩ rfl rfl (Nat.le_of_ble_eq_true rfl) ⟨Nat.zero_le _, Nat.zero_le _⟩ dG_finding_16) hI (fun H locs hI => ?_)
    refine lv_if_ne (tgt := 30) hx hb dG_finding_19 rfl (fun h6 => ?_) (fun h6 => ?_)
    · have hf := in_ hf h6
      refine lv_aload_n hx hb dG_finding_30 rfl (lv_at hl 0 rfl) ?_
      obtain ⟨r7, hr7, hf⟩ := ob_ hf
      refine r_getr (i := 4) S hI fcG (Nat.le_of_ble_eq_true rfl) kw_117 dG_finding_31 hr7 ?_
      obtain ⟨r8, hr8, hf⟩ := ob_ hf
      refine r_getrN (i := 0) S hI fcF (Nat.le_of_ble_eq_true rfl) kn_101 dG_finding_34 hr8 ?_
      refine lv_iload_n hx hb dG_finding_37 rfl (lv_at hl 1 rfl) ?_
      refine lv_iconst hx hb dG_finding_38 kI_4 ?_
      refine lv_imul hx hb dG_finding_39 ?_
      refine lv_iload_n hx hb dG_finding_40 rfl (lv_at hl 2 rfl) ?_
      refine lv_iadd hx hb dG_finding_41 ?_
      obtain ⟨v9, hv9, hf⟩ := ob_ hf
      refine r_ald S hI dG_finding_42 hv9 ?_
      exact hret _ _ _ _ _ _ hI hf dG_finding_43
    · have hf := ip_ hf h6
      exact hthr _ _ _ _ _ _ _ _ _ hI hl hf th1 dG_finding_22 dG_finding_25 dG_finding_26 dG_finding_29
/-- GuardVolume.expected(II)I -/
abbrev rmG_expected : Room := { frames := 6, cells := 1, slots := 6, locals := 93 }
theorem pkG_expected : Pk yG_expected cG_expected 3 (some .int) 2 := ⟨kw_426, kw_1, by decide +kernel, by decide +kernel, by decide +kernel⟩
def fG_expected (Λ : La) (w : Wo) (c0 : Nat) (x1 : Int32) (x2 : Int32) : Option (Wo × Nat × Int32) := gd (isC Λ c0 4) ((fG_isBelow Λ w x1 2).bind fun q1 => if q1.2 = 0 then (some (q1.1, 1, 0)) else ((fG_isBelow Λ q1.1 x2 64).bind fun q3 => if q3.2 = 0 then (some (q3.1, 1, 0)) else ((fG_expectedVersion Λ q3.1 c0 x1 x2).bind fun q5 => some (q5.1, 0, q5.2))))
set_option maxHeartbeats 4000000 in
set_option maxRecDepth 100000 in
theorem xG_expected (l : Launch) (hlt : l.stackTraces = false) (G : va_G) (kA kL : ClassId) (Λ : La) (ad : Nat → Nat) (w : Wo) (c0 : Nat) (x1 : Int32) (x2 : Int32) (q : Wo × Nat × Int32) (hf : fG_expected Λ w c0 x1 x2 = some q) : Xi l yG_expected cG_expected 3 (some .int) rmG_expected G kA kL Λ ad [.ref (ad c0), .int x1, .int x2] w q := by
  refine Xi.of hlt (by decide +kernel) (Nat.le_of_ble_eq_true rfl) ⟨Nat.le_of_ble_eq_true rfl, Nat.le_of_ble_eq_true rfl, rfl, rfl⟩ ?_
  intro p e s m args below meth c Q ls S hret hthr hl hI
  have S : CallFix p m c cG_expected 3 s args (.code yG_expected cG_expected 3 (some .int) :: gW) "GuardVolume" := S
  have hl : lv_has ls 3 [(0, .ref (ad c0)), (1, .int x1), (2, .int x2)] := hl
  have hx := S.1
  have hb := S.2.1
  unfold fG_expected at hf
  have hf := (gd_some hf).2
  refine lv_iload_n hx hb dG_expected_0 rfl (lv_at hl 1 rfl) ?_
  refine lv_iconst hx hb dG_expected_1 kI_2 ?_
  obtain ⟨q1, hq1, hf⟩ := ob_ hf
  refine r_ci (r_S (rest := []) (As := [.int x1, .int 2]) S hl hI (kG_isBelow l G kA kL Λ ad w x1 2 q1.1 q1.2 hq1) pkG_isBelow kw_166 kw_165 ⟨rfl, rfl⟩ ⟨Nat.le_of_ble_eq_true rfl, Nat.le_of_ble_eq_true rfl⟩ rfl rfl (Nat.le_of_ble_eq_true rfl) ⟨Nat.zero_le _, Nat.zero_le _⟩ dG_expected_2) hI (fun H locs hI => ?_)
  refine lv_if_eq (tgt := 17) hx hb dG_expected_5 rfl (fun h2 => ?_) (fun h2 => ?_)
  · have hf := ip_ hf h2
    exact hthr _ _ _ _ _ _ _ _ _ hI hl hf th1 dG_expected_17 dG_expected_20 dG_expected_21 dG_expected_24
  · have hf := in_ hf h2
    refine lv_iload_n hx hb dG_expected_8 rfl (lv_at hl 2 rfl) ?_
    refine lv_bipush hx hb dG_expected_9 kB_64 ?_
    obtain ⟨q3, hq3, hf⟩ := ob_ hf
    refine r_ci (r_S (rest := []) (As := [.int x2, .int 64]) S hl hI (kG_isBelow l G kA kL Λ ad q1.1 x2 64 q3.1 q3.2 hq3) pkG_isBelow kw_166 kw_165 ⟨rfl, rfl⟩ ⟨Nat.le_of_ble_eq_true rfl, Nat.le_of_ble_eq_true rfl⟩ rfl rfl (Nat.le_of_ble_eq_true rfl) ⟨Nat.zero_le _, Nat.zero_le _⟩ dG_expected_11) hI (fun H locs hI => ?_)
    refine lv_if_ne (tgt := 25) hx hb dG_expected_14 rfl (fun h4 => ?_) (fun h4 => ?_)
    · have hf := in_ hf h4
      refine lv_aload_n hx hb dG_expected_25 rfl (lv_at hl 0 rfl) ?_
      refine lv_iload_n hx hb dG_expected_26 rfl (lv_at hl 1 rfl) ?_
      refine lv_iload_n hx hb dG_expected_27 rfl (lv_at hl 2 rfl) ?_
      obtain ⟨q5, hq5, hf⟩ := ob_ hf
      refine r_ci (r_V (rest := []) (As := [.int x1, .int x2]) S hl hI (kG_expectedVersion l G kA kL Λ ad q3.1 c0 x1 x2 q5.1 q5.2 hq5) pkG_expectedVersion kw_266 ks_G_expectedVersion (fcG).1 (gd_some hq5).1 kw_264 ⟨rfl, rfl⟩ ⟨Nat.le_of_ble_eq_true rfl, Nat.le_of_ble_eq_true rfl⟩ rfl rfl (Nat.le_of_ble_eq_true rfl) ⟨Nat.zero_le _, Nat.zero_le _⟩ dG_expected_28) hI (fun H locs hI => ?_)
      exact hret _ _ _ _ _ _ hI hf dG_expected_31
    · have hf := ip_ hf h4
      exact hthr _ _ _ _ _ _ _ _ _ hI hl hf th1 dG_expected_17 dG_expected_20 dG_expected_21 dG_expected_24
/-- GuardVolume.verdict(II)I -/
abbrev rmG_verdict : Room := { frames := 6, cells := 1, slots := 6, locals := 118 }
theorem pkG_verdict : Pk yG_verdict cG_verdict 3 (some .int) 2 := ⟨kw_433, kw_1, by decide +kernel, by decide +kernel, by decide +kernel⟩
def fG_verdict (Λ : La) (w : Wo) (c0 : Nat) (x1 : Int32) (x2 : Int32) : Option (Wo × Nat × Int32) := gd (isC Λ c0 4) ((fG_isBelow Λ w x1 2).bind fun q1 => if q1.2 = 0 then (some (q1.1, 1, 0)) else ((fG_isBelow Λ q1.1 x2 64).bind fun q3 => if q3.2 = 0 then (some (q3.1, 1, 0)) else ((fG_judge Λ q3.1 c0 x1 x2).bind fun q5 => some (q5.1, 0, q5.2))))
set_option maxHeartbeats 4000000 in
set_option maxRecDepth 100000 in
theorem xG_verdict (l : Launch) (hlt : l.stackTraces = false) (G : va_G) (kA kL : ClassId) (Λ : La) (ad : Nat → Nat) (w : Wo) (c0 : Nat) (x1 : Int32) (x2 : Int32) (q : Wo × Nat × Int32) (hf : fG_verdict Λ w c0 x1 x2 = some q) : Xi l yG_verdict cG_verdict 3 (some .int) rmG_verdict G kA kL Λ ad [.ref (ad c0), .int x1, .int x2] w q := by
  refine Xi.of hlt (by decide +kernel) (Nat.le_of_ble_eq_true rfl) ⟨Nat.le_of_ble_eq_true rfl, Nat.le_of_ble_eq_true rfl, rfl, rfl⟩ ?_
  intro p e s m args below meth c Q ls S hret hthr hl hI
  have S : CallFix p m c cG_verdict 3 s args (.code yG_verdict cG_verdict 3 (some .int) :: gW) "GuardVolume" := S
  have hl : lv_has ls 3 [(0, .ref (ad c0)), (1, .int x1), (2, .int x2)] := hl
  have hx := S.1
  have hb := S.2.1
  unfold fG_verdict at hf
  have hf := (gd_some hf).2
  refine lv_iload_n hx hb dG_verdict_0 rfl (lv_at hl 1 rfl) ?_
  refine lv_iconst hx hb dG_verdict_1 kI_2 ?_
  obtain ⟨q1, hq1, hf⟩ := ob_ hf
  refine r_ci (r_S (rest := []) (As := [.int x1, .int 2]) S hl hI (kG_isBelow l G kA kL Λ ad w x1 2 q1.1 q1.2 hq1) pkG_isBelow kw_166 kw_165 ⟨rfl, rfl⟩ ⟨Nat.le_of_ble_eq_true rfl, Nat.le_of_ble_eq_true rfl⟩ rfl rfl (Nat.le_of_ble_eq_true rfl) ⟨Nat.zero_le _, Nat.zero_le _⟩ dG_verdict_2) hI (fun H locs hI => ?_)
  refine lv_if_eq (tgt := 17) hx hb dG_verdict_5 rfl (fun h2 => ?_) (fun h2 => ?_)
  · have hf := ip_ hf h2
    exact hthr _ _ _ _ _ _ _ _ _ hI hl hf th1 dG_verdict_17 dG_verdict_20 dG_verdict_21 dG_verdict_24
  · have hf := in_ hf h2
    refine lv_iload_n hx hb dG_verdict_8 rfl (lv_at hl 2 rfl) ?_
    refine lv_bipush hx hb dG_verdict_9 kB_64 ?_
    obtain ⟨q3, hq3, hf⟩ := ob_ hf
    refine r_ci (r_S (rest := []) (As := [.int x2, .int 64]) S hl hI (kG_isBelow l G kA kL Λ ad q1.1 x2 64 q3.1 q3.2 hq3) pkG_isBelow kw_166 kw_165 ⟨rfl, rfl⟩ ⟨Nat.le_of_ble_eq_true rfl, Nat.le_of_ble_eq_true rfl⟩ rfl rfl (Nat.le_of_ble_eq_true rfl) ⟨Nat.zero_le _, Nat.zero_le _⟩ dG_verdict_11) hI (fun H locs hI => ?_)
    refine lv_if_ne (tgt := 25) hx hb dG_verdict_14 rfl (fun h4 => ?_) (fun h4 => ?_)
    · have hf := in_ hf h4
      refine lv_aload_n hx hb dG_verdict_25 rfl (lv_at hl 0 rfl) ?_
      refine lv_iload_n hx hb dG_verdict_26 rfl (lv_at hl 1 rfl) ?_
      refine lv_iload_n hx hb dG_verdict_27 rfl (lv_at hl 2 rfl) ?_
      obtain ⟨q5, hq5, hf⟩ := ob_ hf
      refine r_ci (r_V (rest := []) (As := [.int x1, .int x2]) S hl hI (kG_judge l G kA kL Λ ad q3.1 c0 x1 x2 q5.1 q5.2 hq5) pkG_judge kw_253 ks_G_judge (fcG).1 (gd_some hq5).1 kw_251 ⟨rfl, rfl⟩ ⟨Nat.le_of_ble_eq_true rfl, Nat.le_of_ble_eq_true rfl⟩ rfl rfl (Nat.le_of_ble_eq_true rfl) ⟨Nat.zero_le _, Nat.zero_le _⟩ dG_verdict_28) hI (fun H locs hI => ?_)
      exact hret _ _ _ _ _ _ hI hf dG_verdict_31
    · have hf := ip_ hf h4
      exact hthr _ _ _ _ _ _ _ _ _ hI hl hf th1 dG_verdict_17 dG_verdict_20 dG_verdict_21 dG_verdict_24
/-- GuardVolume.isRight(II)Z -/
abbrev rmG_isRight : Room := { frames := 6, cells := 1, slots := 6, locals := 81 }
theorem pkG_isRight : Pk yG_isRight cG_isRight 3 (some .boolean) 2 := ⟨kw_440, kw_1, by decide +kernel, by decide +kernel, by decide +kernel⟩
def fG_isRight (Λ : La) (w : Wo) (c0 : Nat) (x1 : Int32) (x2 : Int32) : Option (Wo × Nat × Int32) := gd (isC Λ c0 4) ((fG_isBelow Λ w x1 2).bind fun q1 => if q1.2 = 0 then (some (q1.1, 1, 0)) else ((fG_isBelow Λ q1.1 x2 8).bind fun q3 => if q3.2 = 0 then (some (q3.1, 1, 0)) else ((fG_isPageRight Λ q3.1 c0 x1 x2).bind fun q5 => zrx q5.1 q5.2)))
set_option maxHeartbeats 4000000 in
set_option maxRecDepth 100000 in
theorem xG_isRight (l : Launch) (hlt : l.stackTraces = false) (G : va_G) (kA kL : ClassId) (Λ : La) (ad : Nat → Nat) (w : Wo) (c0 : Nat) (x1 : Int32) (x2 : Int32) (q : Wo × Nat × Int32) (hf : fG_isRight Λ w c0 x1 x2 = some q) : Xi l yG_isRight cG_isRight 3 (some .boolean) rmG_isRight G kA kL Λ ad [.ref (ad c0), .int x1, .int x2] w q := by
  refine Xz.of hlt (by decide +kernel) (Nat.le_of_ble_eq_true rfl) ⟨Nat.le_of_ble_eq_true rfl, Nat.le_of_ble_eq_true rfl, rfl, rfl⟩ ?_
  intro p e s m args below meth c Q ls S hret hthr hl hI
  have S : CallFix p m c cG_isRight 3 s args (.code yG_isRight cG_isRight 3 (some .boolean) :: gW) "GuardVolume" := S
  have hl : lv_has ls 3 [(0, .ref (ad c0)), (1, .int x1), (2, .int x2)] := hl
  have hx := S.1
  have hb := S.2.1
  unfold fG_isRight at hf
  have hf := (gd_some hf).2
  refine lv_iload_n hx hb dG_isRight_0 rfl (lv_at hl 1 rfl) ?_
  refine lv_iconst hx hb dG_isRight_1 kI_2 ?_
  obtain ⟨q1, hq1, hf⟩ := ob_ hf
  refine r_ci (r_S (rest := []) (As := [.int x1, .int 2]) S hl hI (kG_isBelow l G kA kL Λ ad w x1 2 q1.1 q1.2 hq1) pkG_isBelow kw_166 kw_165 ⟨rfl, rfl⟩ ⟨Nat.le_of_ble_eq_true rfl, Nat.le_of_ble_eq_true rfl⟩ rfl rfl (Nat.le_of_ble_eq_true rfl) ⟨Nat.zero_le _, Nat.zero_le _⟩ dG_isRight_2) hI (fun H locs hI => ?_)
  refine lv_if_eq (tgt := 17) hx hb dG_isRight_5 rfl (fun h2 => ?_) (fun h2 => ?_)
  · have hf := ip_ hf h2
    exact hthr _ _ _ _ _ _ _ _ _ hI hl hf th1 dG_isRight_17 dG_isRight_20 dG_isRight_21 dG_isRight_24
  · have hf := in_ hf h2
    refine lv_iload_n hx hb dG_isRight_8 rfl (lv_at hl 2 rfl) ?_
    refine lv_bipush hx hb dG_isRight_9 kB_8 ?_
    obtain ⟨q3, hq3, hf⟩ := ob_ hf
    refine r_ci (r_S (rest := []) (As := [.int x2, .int 8]) S hl hI (kG_isBelow l G kA kL Λ ad q1.1 x2 8 q3.1 q3.2 hq3) pkG_isBelow kw_166 kw_165 ⟨rfl, rfl⟩ ⟨Nat.le_of_ble_eq_true rfl, Nat.le_of_ble_eq_true rfl⟩ rfl rfl (Nat.le_of_ble_eq_true rfl) ⟨Nat.zero_le _, Nat.zero_le _⟩ dG_isRight_11) hI (fun H locs hI => ?_)
    refine lv_if_ne (tgt := 25) hx hb dG_isRight_14 rfl (fun h4 => ?_) (fun h4 => ?_)
    · have hf := in_ hf h4
      refine lv_aload_n hx hb dG_isRight_25 rfl (lv_at hl 0 rfl) ?_
      refine lv_iload_n hx hb dG_isRight_26 rfl (lv_at hl 1 rfl) ?_
      refine lv_iload_n hx hb dG_isRight_27 rfl (lv_at hl 2 rfl) ?_
      obtain ⟨q5, hq5, hf⟩ := ob_ hf
      refine r_ci (r_V (rest := []) (As := [.int x1, .int x2]) S hl hI (kG_isPageRight l G kA kL Λ ad q3.1 c0 x1 x2 q5.1 q5.2 hq5) pkG_isPageRight kw_274 ks_G_isPageRight (fcG).1 (gd_some hq5).1 kw_272 ⟨rfl, rfl⟩ ⟨Nat.le_of_ble_eq_true rfl, Nat.le_of_ble_eq_true rfl⟩ rfl rfl (Nat.le_of_ble_eq_true rfl) ⟨Nat.zero_le _, Nat.zero_le _⟩ dG_isRight_28) hI (fun H locs hI => ?_)
      exact hret _ _ _ _ _ _ hI hf dG_isRight_31
    · have hf := ip_ hf h4
      exact hthr _ _ _ _ _ _ _ _ _ hI hl hf th1 dG_isRight_17 dG_isRight_20 dG_isRight_21 dG_isRight_24

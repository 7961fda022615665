/-! written by walk.py: the functions that the bytecode computes, and the walks -/
/-- GuardVolumeModel.store(III)Z -/
abbrev rmM_store : Room := { frames := 2, cells := 0, slots := 0, locals := 45 }
theorem pkM_store : Pk yM_store cM_store 8 (some .boolean) 3 := ⟨kw_620, kw_7, by decide +kernel, by decide +kernel, by decide +kernel⟩
def bM_store_60s (Λ : La) (K60 : Wo → Nat → Int32 → Int32 → Int32 → Int32 → Int32 → Option (Wo × Int32)) (w : Wo) (c0 : Nat) (x1 : Int32) (x2 : Int32) (x3 : Int32) (x4 : Int32) (x5 : Int32) : Option (Wo × Int32) := if 8 ≤ x5 then ((gr Λ c0 5 18).bind fun r2 => (fM_mix Λ w x4 x2).bind fun q3 => (fM_mix Λ q3.1 q3.2 x3).bind fun q4 => (st Λ q4.1 r2 8 q4.2).bind fun w5 => (gr Λ c0 5 8).bind fun r6 => (ld Λ w5 r6 x1).bind fun v7 => (st Λ w5 r6 x1 (v7 + 1)).bind fun w8 => (fM_planOf Λ w8 c0 x1).bind fun q9 => if q9.2 = (-1) then ((fM_lay Λ q9.1 c0 x1 x2 11).bind fun w20 => zr w20 1) else ((gr Λ c0 5 11).bind fun r11 => (ld Λ q9.1 r11 ((8 * x1) + q9.2)).bind fun v12 => (gr Λ c0 5 12).bind fun r13 => (ld Λ q9.1 r13 ((8 * x1) + q9.2)).bind fun v14 => (fM_dropPlan Λ q9.1 c0 x1 q9.2).bind fun w15 => if v12 = 1 then ((fM_lay Λ w15 c0 x1 v14 11).bind fun w19 => zr w19 1) else (if v12 = 2 then ((fM_lay Λ w15 c0 x1 x2 v14).bind fun w18 => zr w18 1) else (zr w15 1)))) else ((gr Λ c0 5 18).bind fun r21 => (ld Λ w r21 x5).bind fun v22 => (fM_mix Λ w x4 v22).bind fun q23 => K60 q23.1 c0 x1 x2 x3 q23.2 (x5 + 1))
def bM_store_60 (Λ : La) : Nat → Wo → Nat → Int32 → Int32 → Int32 → Int32 → Int32 → Option (Wo × Int32)
  | 0 => fun _ _ _ _ _ _ _ => none
  | n + 1 => bM_store_60s Λ (bM_store_60 Λ n)
def bM_store_35 (Λ : La) (w : Wo) (c0 : Nat) (x1 : Int32) (x2 : Int32) (x3 : Int32) (t0 : Nat) (s1 : Int32) : Option (Wo × Int32) := (pf Λ w t0 5 7 s1).bind fun w24 => (gr Λ c0 5 18).bind fun r25 => (st Λ w24 r25 9 x2).bind fun w26 => (gr Λ c0 5 18).bind fun r27 => (st Λ w26 r27 10 x3).bind fun w28 => bM_store_60 Λ 1000 w28 c0 x1 x2 x3 0 0
def fM_store (Λ : La) (w : Wo) (c0 : Nat) (x1 : Int32) (x2 : Int32) (x3 : Int32) : Option (Wo × Int32) := gd (isC Λ c0 5) ((gi Λ w c0 5 7).bind fun v29 => if v29 = 0 then ((pf Λ w c0 5 6 1).bind fun w35 => zr w35 0) else ((gi Λ w c0 5 7).bind fun v31 => if v31 ≤ 0 then ((gi Λ w c0 5 7).bind fun v33 => bM_store_35 Λ w c0 x1 x2 x3 c0 v33) else ((gi Λ w c0 5 7).bind fun v34 => bM_store_35 Λ w c0 x1 x2 x3 c0 (v34 - 1))))
set_option maxHeartbeats 4000000 in
set_option maxRecDepth 100000 in
theorem kM_store (l : Launch) (G : va_G) (kA kL : ClassId) (Λ : La) (ad : Nat → Nat) (w : Wo) (c0 : Nat) (x1 : Int32) (x2 : Int32) (x3 : Int32) (w1 : Wo) (r : Int32) (hf : fM_store Λ w c0 x1 x2 x3 = some (w1, r)) : Mi l yM_store cM_store 8 (some .boolean) rmM_store G kA kL Λ ad [.ref (ad c0), .int x1, .int x2, .int x3] w w1 r := by
  refine Mz.of (by decide +kernel) (Nat.le_of_ble_eq_true rfl) ?_
  intro p e s m args below meth c Q ls S hret hl hI
  have S : CallFix p m c cM_store 8 s args (.code yM_store cM_store 8 (some .boolean) :: gW) "GuardVolumeModel" := S
  have hl : lv_has ls 8 [(0, .ref (ad c0)), (1, .int x1), (2, .int x2), (3, .int x3)] := hl
  have hx := S.1
  have hb := S.2.1
  have bk60 : ∀ (K60 : Wo → Nat → Int32 → Int32 → Int32 → Int32 → Int32 → Option (Wo × Int32)), (∀ (w : Wo) (c0 : Nat) (x1 : Int32) (x2 : Int32) (x3 : Int32) (x4 : Int32) (x5 : Int32) (H : Heap) (locs : List Loc) (ls : Array Slot), lv_has ls 8 [(0, .ref (ad c0)), (1, .int x1), (2, .int x2), (3, .int x3), (4, .int x4), (5, .int x5)] → Iv (Aa Λ ad) G kA kL Λ ad w s H locs → K60 w c0 x1 x2 x3 x4 x5 = some (w1, r) → W p l e rmM_store s m args below meth c H locs 0 0 Q (F0 m 60 ls [])) → ∀ (w : Wo) (c0 : Nat) (x1 : Int32) (x2 : Int32) (x3 : Int32) (x4 : Int32) (x5 : Int32) (H : Heap) (locs : List Loc) (ls : Array Slot), lv_has ls 8 [(0, .ref (ad c0)), (1, .int x1), (2, .int x2), (3, .int x3), (4, .int x4), (5, .int x5)] → Iv (Aa Λ ad) G kA kL Λ ad w s H locs → bM_store_60s Λ K60 w c0 x1 x2 x3 x4 x5 = some (w1, r) → W p l e rmM_store s m args below meth c H locs 0 0 Q (F0 m 60 ls []) := by
    intro K60 hK60 w c0 x1 x2 x3 x4 x5 H locs ls hl hI hf
    unfold bM_store_60s at hf
    refine lv_iload hx hb dM_store_60 (lv_at hl 5 rfl) ?_
    refine lv_bipush hx hb dM_store_62 kB_8 ?_
    refine lv_icmp_ge (tgt := 87) hx hb dM_store_64 rfl (fun h1 => ?_) (fun h1 => ?_)
    · have hf := ip_ hf h1
      refine lv_aload_n hx hb dM_store_87 rfl (lv_at hl 0 rfl) ?_
      obtain ⟨r2, hr2, hf⟩ := ob_ hf
      refine r_getr (i := 18) S hI fcM (Nat.le_of_ble_eq_true rfl) kw_519 dM_store_88 hr2 ?_
      refine lv_bipush hx hb dM_store_91 kB_8 ?_
      refine lv_iload hx hb dM_store_93 (lv_at hl 4 rfl) ?_
      refine lv_iload_n hx hb dM_store_95 rfl (lv_at hl 2 rfl) ?_
      obtain ⟨q3, hq3, hf⟩ := ob_ hf
      refine r_ci (r_S (rest := [.int 8, .ref (ad r2)]) (As := [.int x4, .int x2]) S hl hI (kM_mix l G kA kL Λ ad w x4 x2 q3.1 q3.2 hq3) pkM_mix kw_499 kw_498 ⟨rfl, rfl⟩ ⟨Nat.le_of_ble_eq_true rfl, Nat.le_of_ble_eq_true rfl⟩ rfl rfl (Nat.le_of_ble_eq_true rfl) ⟨Nat.zero_le _, Nat.zero_le _⟩ dM_store_96) hI (fun H locs hI => ?_)
      refine lv_iload_n hx hb dM_store_99 rfl (lv_at hl 3 rfl) ?_
      obtain ⟨q4, hq4, hf⟩ := ob_ hf
      refine r_ci (r_S (rest := [.int 8, .ref (ad r2)]) (As := [.int q3.2, .int x3]) S hl hI (kM_mix l G kA kL Λ ad q3.1 q3.2 x3 q4.1 q4.2 hq4) pkM_mix kw_499 kw_498 ⟨rfl, rfl⟩ ⟨Nat.le_of_ble_eq_true rfl, Nat.le_of_ble_eq_true rfl⟩ rfl rfl (Nat.le_of_ble_eq_true rfl) ⟨Nat.zero_le _, Nat.zero_le _⟩ dM_store_100) hI (fun H locs hI => ?_)
      obtain ⟨w5, hw5, hf⟩ := ob_ hf
      refine r_ast S hI dM_store_103 hw5 (fun H locs hI => ?_)
      refine lv_aload_n hx hb dM_store_104 rfl (lv_at hl 0 rfl) ?_
      obtain ⟨r6, hr6, hf⟩ := ob_ hf
      refine r_getr (i := 8) S hI fcM (Nat.le_of_ble_eq_true rfl) kw_509 dM_store_105 hr6 ?_
      refine lv_iload_n hx hb dM_store_108 rfl (lv_at hl 1 rfl) ?_
      refine lv_dup2_11 hx hb dM_store_109 rfl rfl ?_
      obtain ⟨v7, hv7, hf⟩ := ob_ hf
      refine r_ald S hI dM_store_110 hv7 ?_
      refine lv_iconst hx hb dM_store_111 kI_1 ?_
      refine lv_iadd hx hb dM_store_112 ?_
      obtain ⟨w8, hw8, hf⟩ := ob_ hf
      refine r_ast S hI dM_store_113 hw8 (fun H locs hI => ?_)
      refine lv_aload_n hx hb dM_store_114 rfl (lv_at hl 0 rfl) ?_
      refine lv_iload_n hx hb dM_store_115 rfl (lv_at hl 1 rfl) ?_
      obtain ⟨q9, hq9, hf⟩ := ob_ hf
      refine r_ci (r_V (rest := []) (As := [.int x1]) S hl hI (kM_planOf l G kA kL Λ ad w8 c0 x1 q9.1 q9.2 hq9) pkM_planOf kw_623 ks_M_planOf (fcM).1 (gd_some hq9).1 kw_621 ⟨rfl, rfl⟩ ⟨Nat.le_of_ble_eq_true rfl, Nat.le_of_ble_eq_true rfl⟩ rfl rfl (Nat.le_of_ble_eq_true rfl) ⟨Nat.zero_le _, Nat.zero_le _⟩ dM_store_116) hI (fun H locs hI => ?_)
      refine lv_istore hx hb (lv' := [(5, .int q9.2), (0, .ref (ad c0)), (1, .int x1), (2, .int x2), (3, .int x3), (4, .int x4)]) dM_store_119 hl (Nat.le_of_ble_eq_true rfl) rfl (fun ls hl => ?_)
      refine lv_iload hx hb dM_store_121 (lv_at hl 0 rfl) ?_
      refine lv_iconst hx hb dM_store_123 kI_m1 ?_
      refine lv_icmp_ne (tgt := 137) hx hb dM_store_124 rfl (fun h10 => ?_) (fun h10 => ?_)
      · have hf := in_ hf h10
        refine lv_aload_n hx hb dM_store_137 rfl (lv_at hl 1 rfl) ?_
        obtain ⟨r11, hr11, hf⟩ := ob_ hf
        refine r_getr (i := 11) S hI fcM (Nat.le_of_ble_eq_true rfl) kw_512 dM_store_138 hr11 ?_
        refine lv_bipush hx hb dM_store_141 kB_8 ?_
        refine lv_iload_n hx hb dM_store_143 rfl (lv_at hl 2 rfl) ?_
        refine lv_imul hx hb dM_store_144 ?_
        refine lv_iload hx hb dM_store_145 (lv_at hl 0 rfl) ?_
        refine lv_iadd hx hb dM_store_147 ?_
        obtain ⟨v12, hv12, hf⟩ := ob_ hf
        refine r_ald S hI dM_store_148 hv12 ?_
        refine lv_istore hx hb (lv' := [(6, .int v12), (5, .int q9.2), (0, .ref (ad c0)), (1, .int x1), (2, .int x2), (3, .int x3), (4, .int x4)]) dM_store_149 hl (Nat.le_of_ble_eq_true rfl) rfl (fun ls hl => ?_)
        refine lv_aload_n hx hb dM_store_151 rfl (lv_at hl 2 rfl) ?_
        obtain ⟨r13, hr13, hf⟩ := ob_ hf
        refine r_getr (i := 12) S hI fcM (Nat.le_of_ble_eq_true rfl) kw_513 dM_store_152 hr13 ?_
        refine lv_bipush hx hb dM_store_155 kB_8 ?_
        refine lv_iload_n hx hb dM_store_157 rfl (lv_at hl 3 rfl) ?_
        refine lv_imul hx hb dM_store_158 ?_
        refine lv_iload hx hb dM_store_159 (lv_at hl 1 rfl) ?_
        refine lv_iadd hx hb dM_store_161 ?_
        obtain ⟨v14, hv14, hf⟩ := ob_ hf
        refine r_ald S hI dM_store_162 hv14 ?_
        refine lv_istore hx hb (lv' := [(7, .int v14), (6, .int v12), (5, .int q9.2), (0, .ref (ad c0)), (1, .int x1), (2, .int x2), (3, .int x3), (4, .int x4)]) dM_store_163 hl (Nat.le_of_ble_eq_true rfl) rfl (fun ls hl => ?_)
        refine lv_aload_n hx hb dM_store_165 rfl (lv_at hl 3 rfl) ?_
        refine lv_iload_n hx hb dM_store_166 rfl (lv_at hl 4 rfl) ?_
        refine lv_iload hx hb dM_store_167 (lv_at hl 2 rfl) ?_
        obtain ⟨w15, hw15, hf⟩ := ob_ hf
        refine r_cv (r_V (rest := []) (As := [.int x1, .int q9.2]) S hl hI (kM_dropPlan l G kA kL Λ ad q9.1 c0 x1 q9.2 w15 hw15) pkM_dropPlan kw_631 ks_M_dropPlan (fcM).1 (gd_some hw15).1 kw_629 ⟨rfl, rfl⟩ ⟨Nat.le_of_ble_eq_true rfl, Nat.le_of_ble_eq_true rfl⟩ rfl rfl (Nat.le_of_ble_eq_true rfl) ⟨Nat.zero_le _, Nat.zero_le _⟩ dM_store_169) hI (fun H locs hI => ?_)
        refine lv_iload hx hb dM_store_172 (lv_at hl 1 rfl) ?_
        refine lv_iconst hx hb dM_store_174 kI_1 ?_
        refine lv_icmp_ne (tgt := 190) hx hb dM_store_175 rfl (fun h16 => ?_) (fun h16 => ?_)
        · have hf := in_ hf h16
          refine lv_iload hx hb dM_store_190 (lv_at hl 1 rfl) ?_
          refine lv_iconst hx hb dM_store_192 kI_2 ?_
          refine lv_icmp_ne (tgt := 204) hx hb dM_store_193 rfl (fun h17 => ?_) (fun h17 => ?_)
          · have hf := in_ hf h17
            refine lv_iconst hx hb dM_store_204 kI_1 ?_
            exact hret _ _ _ _ _ _ hI hf dM_store_205
          · have hf := ip_ hf h17
            refine lv_aload_n hx hb dM_store_196 rfl (lv_at hl 3 rfl) ?_
            refine lv_iload_n hx hb dM_store_197 rfl (lv_at hl 4 rfl) ?_
            refine lv_iload_n hx hb dM_store_198 rfl (lv_at hl 5 rfl) ?_
            refine lv_iload hx hb dM_store_199 (lv_at hl 0 rfl) ?_
            obtain ⟨w18, hw18, hf⟩ := ob_ hf
            refine r_cv (r_V (rest := []) (As := [.int x1, .int x2, .int v14]) S hl hI (kM_lay l G kA kL Λ ad w15 c0 x1 x2 v14 w18 hw18) pkM_lay kw_627 ks_M_lay (fcM).1 (gd_some hw18).1 kw_625 ⟨rfl, rfl⟩ ⟨Nat.le_of_ble_eq_true rfl, Nat.le_of_ble_eq_true rfl⟩ rfl rfl (Nat.le_of_ble_eq_true rfl) ⟨Nat.zero_le _, Nat.zero_le _⟩ dM_store_201) hI (fun H locs hI => ?_)
            refine lv_iconst hx hb dM_store_204 kI_1 ?_
            exact hret _ _ _ _ _ _ hI hf dM_store_205
        · have hf := ip_ hf h16
          refine lv_aload_n hx hb dM_store_178 rfl (lv_at hl 3 rfl) ?_
          refine lv_iload_n hx hb dM_store_179 rfl (lv_at hl 4 rfl) ?_
          refine lv_iload hx hb dM_store_180 (lv_at hl 0 rfl) ?_
          refine lv_bipush hx hb dM_store_182 kB_11 ?_
          obtain ⟨w19, hw19, hf⟩ := ob_ hf
          refine r_cv (r_V (rest := []) (As := [.int x1, .int v14, .int 11]) S hl hI (kM_lay l G kA kL Λ ad w15 c0 x1 v14 11 w19 hw19) pkM_lay kw_627 ks_M_lay (fcM).1 (gd_some hw19).1 kw_625 ⟨rfl, rfl⟩ ⟨Nat.le_of_ble_eq_true rfl, Nat.le_of_ble_eq_true rfl⟩ rfl rfl (Nat.le_of_ble_eq_true rfl) ⟨Nat.zero_le _, Nat.zero_le _⟩ dM_store_184) hI (fun H locs hI => ?_)
          refine lv_goto (tgt := 204) hx hb dM_store_187 rfl ?_
          refine lv_iconst hx hb dM_store_204 kI_1 ?_
          exact hret _ _ _ _ _ _ hI hf dM_store_205
      · have hf := ip_ hf h10
        refine lv_aload_n hx hb dM_store_127 rfl (lv_at hl 1 rfl) ?_
        refine lv_iload_n hx hb dM_store_128 rfl (lv_at hl 2 rfl) ?_
        refine lv_iload_n hx hb dM_store_129 rfl (lv_at hl 3 rfl) ?_
        refine lv_bipush hx hb dM_store_130 kB_11 ?_
        obtain ⟨w20, hw20, hf⟩ := ob_ hf
        refine r_cv (r_V (rest := []) (As := [.int x1, .int x2, .int 11]) S hl hI (kM_lay l G kA kL Λ ad q9.1 c0 x1 x2 11 w20 hw20) pkM_lay kw_627 ks_M_lay (fcM).1 (gd_some hw20).1 kw_625 ⟨rfl, rfl⟩ ⟨Nat.le_of_ble_eq_true rfl, Nat.le_of_ble_eq_true rfl⟩ rfl rfl (Nat.le_of_ble_eq_true rfl) ⟨Nat.zero_le _, Nat.zero_le _⟩ dM_store_132) hI (fun H locs hI => ?_)
        refine lv_iconst hx hb dM_store_135 kI_1 ?_
        exact hret _ _ _ _ _ _ hI hf dM_store_136
    · have hf := in_ hf h1
      refine lv_iload hx hb dM_store_67 (lv_at hl 4 rfl) ?_
      refine lv_aload_n hx hb dM_store_69 rfl (lv_at hl 0 rfl) ?_
      obtain ⟨r21, hr21, hf⟩ := ob_ hf
      refine r_getr (i := 18) S hI fcM (Nat.le_of_ble_eq_true rfl) kw_519 dM_store_70 hr21 ?_
      refine lv_iload hx hb dM_store_73 (lv_at hl 5 rfl) ?_
      obtain ⟨v22, hv22, hf⟩ := ob_ hf
      refine r_ald S hI dM_store_75 hv22 ?_
      obtain ⟨q23, hq23, hf⟩ := ob_ hf
      refine r_ci (r_S (rest := []) (As := [.int x4, .int v22]) S hl hI (kM_mix l G kA kL Λ ad w x4 v22 q23.1 q23.2 hq23) pkM_mix kw_499 kw_498 ⟨rfl, rfl⟩ ⟨Nat.le_of_ble_eq_true rfl, Nat.le_of_ble_eq_true rfl⟩ rfl rfl (Nat.le_of_ble_eq_true rfl) ⟨Nat.zero_le _, Nat.zero_le _⟩ dM_store_76) hI (fun H locs hI => ?_)
      refine lv_istore hx hb (lv' := [(4, .int q23.2), (0, .ref (ad c0)), (1, .int x1), (2, .int x2), (3, .int x3), (5, .int x5)]) dM_store_79 hl (Nat.le_of_ble_eq_true rfl) rfl (fun ls hl => ?_)
      refine lv_iinc hx hb (lv' := [(5, .int (x5 + 1)), (4, .int q23.2), (0, .ref (ad c0)), (1, .int x1), (2, .int x2), (3, .int x3)]) (k := 5) dM_store_81 hl rfl (kN_1 _) (Nat.le_of_ble_eq_true rfl) rfl (fun ls hl => ?_)
      refine lv_goto (tgt := 60) hx hb dM_store_84 rfl ?_
      exact hK60 q23.1 c0 x1 x2 x3 q23.2 (x5 + 1) _ _ _ (lv_sub hl [2, 3, 4, 5, 1, 0] rfl) hI hf
  have lp60 : ∀ (n : Nat), ∀ (w : Wo) (c0 : Nat) (x1 : Int32) (x2 : Int32) (x3 : Int32) (x4 : Int32) (x5 : Int32) (H : Heap) (locs : List Loc) (ls : Array Slot), lv_has ls 8 [(0, .ref (ad c0)), (1, .int x1), (2, .int x2), (3, .int x3), (4, .int x4), (5, .int x5)] → Iv (Aa Λ ad) G kA kL Λ ad w s H locs → bM_store_60 Λ n w c0 x1 x2 x3 x4 x5 = some (w1, r) → W p l e rmM_store s m args below meth c H locs 0 0 Q (F0 m 60 ls []) := by
    intro n
    induction n with
    | zero =>
      intro w c0 x1 x2 x3 x4 x5 H locs ls hl hI hf
      have hf : (none : Option (Wo × Int32)) = some (w1, r) := hf
      cases hf
    | succ n ih =>
      intro w c0 x1 x2 x3 x4 x5 H locs ls hl hI hf
      exact bk60 (bM_store_60 Λ n) ih w c0 x1 x2 x3 x4 x5 H locs ls hl hI hf
  have bk35 : ∀ (w : Wo) (c0 : Nat) (x1 : Int32) (x2 : Int32) (x3 : Int32) (t0 : Nat) (s1 : Int32) (H : Heap) (locs : List Loc) (ls : Array Slot), lv_has ls 8 [(0, .ref (ad c0)), (1, .int x1), (2, .int x2), (3, .int x3)] → Iv (Aa Λ ad) G kA kL Λ ad w s H locs → bM_store_35 Λ w c0 x1 x2 x3 t0 s1 = some (w1, r) → W p l e rmM_store s m args below meth c H locs 0 0 Q (F0 m 35 ls [.int s1, .ref (ad t0)]) := by
    intro w c0 x1 x2 x3 t0 s1 H locs ls hl hI hf
    unfold bM_store_35 at hf
    obtain ⟨w24, hw24, hf⟩ := ob_ hf
    refine r_put (i := 7) S hI fcM (Nat.le_of_ble_eq_true rfl) kw_508 rfl rfl rfl dM_store_35 hw24 (fun H locs hI => ?_)
    refine lv_aload_n hx hb dM_store_38 rfl (lv_at hl 0 rfl) ?_
    obtain ⟨r25, hr25, hf⟩ := ob_ hf
    refine r_getr (i := 18) S hI fcM (Nat.le_of_ble_eq_true rfl) kw_519 dM_store_39 hr25 ?_
    refine lv_bipush hx hb dM_store_42 kB_9 ?_
    refine lv_iload_n hx hb dM_store_44 rfl (lv_at hl 2 rfl) ?_
    obtain ⟨w26, hw26, hf⟩ := ob_ hf
    refine r_ast S hI dM_store_45 hw26 (fun H locs hI => ?_)
    refine lv_aload_n hx hb dM_store_46 rfl (lv_at hl 0 rfl) ?_
    obtain ⟨r27, hr27, hf⟩ := ob_ hf
    refine r_getr (i := 18) S hI fcM (Nat.le_of_ble_eq_true rfl) kw_519 dM_store_47 hr27 ?_
    refine lv_bipush hx hb dM_store_50 kB_10 ?_
    refine lv_iload_n hx hb dM_store_52 rfl (lv_at hl 3 rfl) ?_
    obtain ⟨w28, hw28, hf⟩ := ob_ hf
    refine r_ast S hI dM_store_53 hw28 (fun H locs hI => ?_)
    refine lv_iconst hx hb dM_store_54 kI_0 ?_
    refine lv_istore hx hb (lv' := [(4, .int 0), (0, .ref (ad c0)), (1, .int x1), (2, .int x2), (3, .int x3)]) dM_store_55 hl (Nat.le_of_ble_eq_true rfl) rfl (fun ls hl => ?_)
    refine lv_iconst hx hb dM_store_57 kI_0 ?_
    refine lv_istore hx hb (lv' := [(5, .int 0), (4, .int 0), (0, .ref (ad c0)), (1, .int x1), (2, .int x2), (3, .int x3)]) dM_store_58 hl (Nat.le_of_ble_eq_true rfl) rfl (fun ls hl => ?_)
    exact lp60 1000 w28 c0 x1 x2 x3 0 0 _ _ _ (lv_sub hl [2, 3, 4, 5, 1, 0] rfl) hI hf
  unfold fM_store at hf
  have hf := (gd_some hf).2
  refine lv_aload_n hx hb dM_store_0 rfl (lv_at hl 0 rfl) ?_
  obtain ⟨v29, hv29, hf⟩ := ob_ hf
  refine r_geti (i := 7) S hI fcM (Nat.le_of_ble_eq_true rfl) kw_508 dM_store_1 hv29 ?_
  refine lv_if_ne (tgt := 14) hx hb dM_store_4 rfl (fun h30 => ?_) (fun h30 => ?_)
  · have hf := in_ hf h30
    refine lv_aload_n hx hb dM_store_14 rfl (lv_at hl 0 rfl) ?_
    refine lv_aload_n hx hb dM_store_15 rfl (lv_at hl 0 rfl) ?_
    obtain ⟨v31, hv31, hf⟩ := ob_ hf
    refine r_geti (i := 7) S hI fcM (Nat.le_of_ble_eq_true rfl) kw_508 dM_store_16 hv31 ?_
    refine lv_if_le (tgt := 31) hx hb dM_store_19 rfl (fun h32 => ?_) (fun h32 => ?_)
    · have hf := ip_ hf h32
      refine lv_aload_n hx hb dM_store_31 rfl (lv_at hl 0 rfl) ?_
      obtain ⟨v33, hv33, hf⟩ := ob_ hf
      refine r_geti (i := 7) S hI fcM (Nat.le_of_ble_eq_true rfl) kw_508 dM_store_32 hv33 ?_
      exact bk35 w c0 x1 x2 x3 c0 v33 _ _ _ (lv_sub hl [0, 1, 2, 3] rfl) hI hf
    · have hf := in_ hf h32
      refine lv_aload_n hx hb dM_store_22 rfl (lv_at hl 0 rfl) ?_
      obtain ⟨v34, hv34, hf⟩ := ob_ hf
      refine r_geti (i := 7) S hI fcM (Nat.le_of_ble_eq_true rfl) kw_508 dM_store_23 hv34 ?_
      refine lv_iconst hx hb dM_store_26 kI_1 ?_
      refine lv_isub hx hb dM_store_27 ?_
      refine lv_goto (tgt := 35) hx hb dM_store_28 rfl ?_
      exact bk35 w c0 x1 x2 x3 c0 (v34 - 1) _ _ _ (lv_sub hl [0, 1, 2, 3] rfl) hI hf
  · have hf := ip_ hf h30
    refine lv_aload_n hx hb dM_store_7 rfl (lv_at hl 0 rfl) ?_
    refine lv_iconst hx hb dM_store_8 kI_1 ?_
    obtain ⟨w35, hw35, hf⟩ := ob_ hf
    refine r_put (i := 6) S hI fcM (Nat.le_of_ble_eq_true rfl) kw_507 rfl (narrow_z (Or.inr rfl)) rfl dM_store_9 hw35 (fun H locs hI => ?_)
    refine lv_iconst hx hb dM_store_12 kI_0 ?_
    exact hret _ _ _ _ _ _ hI hf dM_store_13
/-- GuardVolumeModel.storeRow(III)Z -/
abbrev rmM_storeRow : Room := { frames := 3, cells := 0, slots := 0, locals := 72 }
theorem pkM_storeRow : Pk yM_storeRow cM_storeRow 5 (some .boolean) 3 := ⟨kw_616, kw_7, by decide +kernel, by decide +kernel, by decide +kernel⟩
def bM_storeRow_3s (Λ : La) (K3 : Wo → Nat → Int32 → Int32 → Int32 → Int32 → Option (Wo × Int32)) (w : Wo) (c0 : Nat) (x1 : Int32) (x2 : Int32) (x3 : Int32) (x4 : Int32) : Option (Wo × Int32) := if 8 ≤ x4 then ((fM_store Λ w c0 x1 x2 x3).bind fun q2 => zr q2.1 q2.2) else ((gr Λ c0 5 18).bind fun r3 => (gr Λ c0 5 19).bind fun r4 => (ld Λ w r4 x4).bind fun v5 => (st Λ w r3 x4 v5).bind fun w6 => K3 w6 c0 x1 x2 x3 (x4 + 1))
def bM_storeRow_3 (Λ : La) : Nat → Wo → Nat → Int32 → Int32 → Int32 → Int32 → Option (Wo × Int32)
  | 0 => fun _ _ _ _ _ _ => none
  | n + 1 => bM_storeRow_3s Λ (bM_storeRow_3 Λ n)
def fM_storeRow (Λ : La) (w : Wo) (c0 : Nat) (x1 : Int32) (x2 : Int32) (x3 : Int32) : Option (Wo × Int32) := gd (isC Λ c0 5) (bM_storeRow_3 Λ 1000 w c0 x1 x2 x3 0)
set_option maxHeartbeats 4000000 in
set_option maxRecDepth 100000 in
theorem kM_storeRow (l : Launch) (G : va_G) (kA kL : ClassId) (Λ : La) (ad : Nat → Nat) (w : Wo) (c0 : Nat) (x1 : Int32) (x2 : Int32) (x3 : Int32) (w1 : Wo) (r : Int32) (hf : fM_storeRow Λ w c0 x1 x2 x3 = some (w1, r)) : Mi l yM_storeRow cM_storeRow 5 (some .boolean) rmM_storeRow G kA kL Λ ad [.ref (ad c0), .int x1, .int x2, .int x3] w w1 r := by
  refine Mz.of (by decide +kernel) (Nat.le_of_ble_eq_true rfl) ?_
  intro p e s m args below meth c Q ls S hret hl hI
  have S : CallFix p m c cM_storeRow 5 s args (.code yM_storeRow cM_storeRow 5 (some .boolean) :: gW) "GuardVolumeModel" := S
  have hl : lv_has ls 5 [(0, .ref (ad c0)), (1, .int x1), (2, .int x2), (3, .int x3)] := hl
  have hx := S.1
  have hb := S.2.1
  have bk3 : ∀ (K3 : Wo → Nat → Int32 → Int32 → Int32 → Int32 → Option (Wo × Int32)), (∀ (w : Wo) (c0 : Nat) (x1 : Int32) (x2 : Int32) (x3 : Int32) (x4 : Int32) (H : Heap) (locs : List Loc) (ls : Array Slot), lv_has ls 5 [(0, .ref (ad c0)), (1, .int x1), (2, .int x2), (3, .int x3), (4, .int x4)] → Iv (Aa Λ ad) G kA kL Λ ad w s H locs → K3 w c0 x1 x2 x3 x4 = some (w1, r) → W p l e rmM_storeRow s m args below meth c H locs 0 0 Q (F0 m 3 ls [])) → ∀ (w : Wo) (c0 : Nat) (x1 : Int32) (x2 : Int32) (x3 : Int32) (x4 : Int32) (H : Heap) (locs : List Loc) (ls : Array Slot), lv_has ls 5 [(0, .ref (ad c0)), (1, .int x1), (2, .int x2), (3, .int x3), (4, .int x4)] → Iv (Aa Λ ad) G kA kL Λ ad w s H locs → bM_storeRow_3s Λ K3 w c0 x1 x2 x3 x4 = some (w1, r) → W p l e rmM_storeRow s m args below meth c H locs 0 0 Q (F0 m 3 ls []) := by
    intro K3 hK3 w c0 x1 x2 x3 x4 H locs ls hl hI hf
    unfold bM_storeRow_3s at hf
    refine lv_iload hx hb dM_storeRow_3 (lv_at hl 4 rfl) ?_
    refine lv_bipush hx hb dM_storeRow_5 kB_8 ?_
    refine lv_icmp_ge (tgt := 30) hx hb dM_storeRow_7 rfl (fun h1 => ?_) (fun h1 => ?_)
    · have hf := ip_ hf h1
      refine lv_aload_n hx hb dM_storeRow_30 rfl (lv_at hl 0 rfl) ?_
      refine lv_iload_n hx hb dM_storeRow_31 rfl (lv_at hl 1 rfl) ?_
      refine lv_iload_n hx hb dM_storeRow_32 rfl (lv_at hl 2 rfl) ?_
      refine lv_iload_n hx hb dM_storeRow_33 rfl (lv_at hl 3 rfl) ?_
      obtain ⟨q2, hq2, hf⟩ := ob_ hf
      refine r_ci (r_V (rest := []) (As := [.int x1, .int x2, .int x3]) S hl hI (kM_store l G kA kL Λ ad w c0 x1 x2 x3 q2.1 q2.2 hq2) pkM_store kw_619 ks_M_store (fcM).1 (gd_some hq2).1 kw_617 ⟨rfl, rfl⟩ ⟨Nat.le_of_ble_eq_true rfl, Nat.le_of_ble_eq_true rfl⟩ rfl rfl (Nat.le_of_ble_eq_true rfl) ⟨Nat.zero_le _, Nat.zero_le _⟩ dM_storeRow_34) hI (fun H locs hI => ?_)
      exact hret _ _ _ _ _ _ hI hf dM_storeRow_37
    · have hf := in_ hf h1
      refine lv_aload_n hx hb dM_storeRow_10 rfl (lv_at hl 0 rfl) ?_
      obtain ⟨r3, hr3, hf⟩ := ob_ hf
      refine r_getr (i := 18) S hI fcM (Nat.le_of_ble_eq_true rfl) kw_519 dM_storeRow_11 hr3 ?_
      refine lv_iload hx hb dM_storeRow_14 (lv_at hl 4 rfl) ?_
      refine lv_aload_n hx hb dM_storeRow_16 rfl (lv_at hl 0 rfl) ?_
      obtain ⟨r4, hr4, hf⟩ := ob_ hf
      refine r_getr (i := 19) S hI fcM (Nat.le_of_ble_eq_true rfl) kw_520 dM_storeRow_17 hr4 ?_
      refine lv_iload hx hb dM_storeRow_20 (lv_at hl 4 rfl) ?_
      obtain ⟨v5, hv5, hf⟩ := ob_ hf
      refine r_ald S hI dM_storeRow_22 hv5 ?_
      obtain ⟨w6, hw6, hf⟩ := ob_ hf
      refine r_ast S hI dM_storeRow_23 hw6 (fun H locs hI => ?_)
      refine lv_iinc hx hb (lv' := [(4, .int (x4 + 1)), (0, .ref (ad c0)), (1, .int x1), (2, .int x2), (3, .int x3)]) (k := 4) dM_storeRow_24 hl rfl (kN_1 _) (Nat.le_of_ble_eq_true rfl) rfl (fun ls hl => ?_)
      refine lv_goto (tgt := 3) hx hb dM_storeRow_27 rfl ?_
      exact hK3 w6 c0 x1 x2 x3 (x4 + 1) _ _ _ (lv_sub hl [1, 2, 3, 4, 0] rfl) hI hf
  have lp3 : ∀ (n : Nat), ∀ (w : Wo) (c0 : Nat) (x1 : Int32) (x2 : Int32) (x3 : Int32) (x4 : Int32) (H : Heap) (locs : List Loc) (ls : Array Slot), lv_has ls 5 [(0, .ref (ad c0)), (1, .int x1), (2, .int x2), (3, .int x3), (4, .int x4)] → Iv (Aa Λ ad) G kA kL Λ ad w s H locs → bM_storeRow_3 Λ n w c0 x1 x2 x3 x4 = some (w1, r) → W p l e rmM_storeRow s m args below meth c H locs 0 0 Q (F0 m 3 ls []) := by
    intro n
    induction n with
    | zero =>
      intro w c0 x1 x2 x3 x4 H locs ls hl hI hf
      have hf : (none : Option (Wo × Int32)) = some (w1, r) := hf
      cases hf
    | succ n ih =>
      intro w c0 x1 x2 x3 x4 H locs ls hl hI hf
      exact bk3 (bM_storeRow_3 Λ n) ih w c0 x1 x2 x3 x4 H locs ls hl hI hf
  unfold fM_storeRow at hf
  have hf := (gd_some hf).2
  refine lv_iconst hx hb dM_storeRow_0 kI_0 ?_
  refine lv_istore hx hb (lv' := [(4, .int 0), (0, .ref (ad c0)), (1, .int x1), (2, .int x2), (3, .int x3)]) dM_storeRow_1 hl (Nat.le_of_ble_eq_true rfl) rfl (fun ls hl => ?_)
  exact lp3 1000 w c0 x1 x2 x3 0 _ _ _ (lv_sub hl [1, 2, 3, 4, 0] rfl) hI hf
/-- GuardVolumeModel.storeList(III)Z -/
abbrev rmM_storeList : Room := { frames := 4, cells := 0, slots := 0, locals := 90 }
theorem pkM_storeList : Pk yM_storeList cM_storeList 9 (some .boolean) 3 := ⟨kw_636, kw_7, by decide +kernel, by decide +kernel, by decide +kernel⟩
def bM_storeList_98 (Λ : La) (K33 : Wo → Nat → Int32 → Int32 → Int32 → Int32 → Int32 → Int32 → Int32 → Int32 → Option (Wo × Int32)) (w : Wo) (c0 : Nat) (x1 : Int32) (x2 : Int32) (x3 : Int32) (x4 : Int32) (x5 : Int32) (x6 : Int32) (x7 : Int32) (x8 : Int32) (t0 : Nat) (s1 : Int32) (s2 : Int32) : Option (Wo × Int32) := (st Λ w t0 s1 s2).bind fun w1 => K33 w1 c0 x1 x2 x3 x4 x5 x6 x7 (x8 + 1)
def bM_storeList_33s (Λ : La) (K33 : Wo → Nat → Int32 → Int32 → Int32 → Int32 → Int32 → Int32 → Int32 → Int32 → Option (Wo × Int32)) (w : Wo) (c0 : Nat) (x1 : Int32) (x2 : Int32) (x3 : Int32) (x4 : Int32) (x5 : Int32) (x6 : Int32) (x7 : Int32) (x8 : Int32) : Option (Wo × Int32) := if 8 ≤ x8 then ((gr Λ c0 5 18).bind fun r3 => (st Λ w r3 (x2 - x2 / 8 * 8) x3).bind fun w4 => (gr Λ c0 5 2).bind fun r5 => (ld Λ w4 r5 ((8 * x5) + x4)).bind fun v6 => (fM_store Λ w4 c0 x5 (64 + x4) (v6 + 1)).bind fun q7 => if q7.2 = 0 then (zr q7.1 0) else ((gr Λ c0 5 2).bind fun r9 => (st Λ q7.1 r9 ((8 * x5) + x4) (v6 + 1)).bind fun w10 => zr w10 1)) else ((gr Λ c0 5 18).bind fun r11 => if x6 = 0 then (if x7 = 0 then (bM_storeList_98 Λ K33 w c0 x1 x2 x3 x4 x5 x6 x7 x8 r11 x8 0) else ((gr Λ c0 5 1).bind fun r14 => (fM_place Λ w x1 (64 + x4)).bind fun q15 => (ld Λ q15.1 r14 (q15.2 + x8)).bind fun v16 => bM_storeList_98 Λ K33 q15.1 c0 x1 x2 x3 x4 x5 x6 x7 x8 r11 x8 v16)) else ((gr Λ c0 5 1).bind fun r17 => (fM_place Λ w x5 (64 + x4)).bind fun q18 => (ld Λ q18.1 r17 (q18.2 + x8)).bind fun v19 => bM_storeList_98 Λ K33 q18.1 c0 x1 x2 x3 x4 x5 x6 x7 x8 r11 x8 v19))
def bM_storeList_33 (Λ : La) : Nat → Wo → Nat → Int32 → Int32 → Int32 → Int32 → Int32 → Int32 → Int32 → Int32 → Option (Wo × Int32)
  | 0 => fun _ _ _ _ _ _ _ _ _ _ => none
  | n + 1 => bM_storeList_33s Λ (bM_storeList_33 Λ n)
def fM_storeList (Λ : La) (w : Wo) (c0 : Nat) (x1 : Int32) (x2 : Int32) (x3 : Int32) : Option (Wo × Int32) := gd (isC Λ c0 5) ((fM_isRightPage Λ w c0 (1 - x1) (x2 / 8)).bind fun q20 => (fM_isRightPage Λ q20.1 c0 x1 (x2 / 8)).bind fun q21 => bM_storeList_33 Λ 1000 q21.1 c0 x1 x2 x3 (x2 / 8) (1 - x1) q20.2 q21.2 0)
set_option maxHeartbeats 4000000 in
set_option maxRecDepth 100000 in
theorem kM_storeList (l : Launch) (G : va_G) (kA kL : ClassId) (Λ : La) (ad : Nat → Nat) (w : Wo) (c0 : Nat) (x1 : Int32) (x2 : Int32) (x3 : Int32) (w1 : Wo) (r : Int32) (hf : fM_storeList Λ w c0 x1 x2 x3 = some (w1, r)) : Mi l yM_storeList cM_storeList 9 (some .boolean) rmM_storeList G kA kL Λ ad [.ref (ad c0), .int x1, .int x2, .int x3] w w1 r := by
  refine Mz.of (by decide +kernel) (Nat.le_of_ble_eq_true rfl) ?_
  intro p e s m args below meth c Q ls S hret hl hI
  have S : CallFix p m c cM_storeList 9 s args (.code yM_storeList cM_storeList 9 (some .boolean) :: gW) "GuardVolumeModel" := S
  have hl : lv_has ls 9 [(0, .ref (ad c0)), (1, .int x1), (2, .int x2), (3, .int x3)] := hl
  have hx := S.1
  have hb := S.2.1
  have bk98 : ∀ (K33 : Wo → Nat → Int32 → Int32 → Int32 → Int32 → Int32 → Int32 → Int32 → Int32 → Option (Wo × Int32)), (∀ (w : Wo) (c0 : Nat) (x1 : Int32) (x2 : Int32) (x3 : Int32) (x4 : Int32) (x5 : Int32) (x6 : Int32) (x7 : Int32) (x8 : Int32) (H : Heap) (locs : List Loc) (ls : Array Slot), lv_has ls 9 [(0, .ref (ad c0)), (1, .int x1), (2, .int x2), (3, .int x3), (4, .int x4), (5, .int x5), (6, .int x6), (7, .int x7), (8, .int x8)] → Iv (Aa Λ ad) G kA kL Λ ad w s H locs → K33 w c0 x1 x2 x3 x4 x5 x6 x7 x8 = some (w1, r) → W p l e rmM_storeList s m args below meth c H locs 0 0 Q (F0 m 33 ls [])) → ∀ (w : Wo) (c0 : Nat) (x1 : Int32) (x2 : Int32) (x3 : Int32) (x4 : Int32) (x5 : Int32) (x6 : Int32) (x7 : Int32) (x8 : Int32) (t0 : Nat) (s1 : Int32) (s2 : Int32) (H : Heap) (locs : List Loc) (ls : Array Slot), lv_has ls 9 [(0, .ref (ad c0)), (1, .int x1), (2, .int x2), (3, .int x3), (4, .int x4), (5, .int x5), (6, .int x6), (7, .int x7), (8, .int x8)] → Iv (Aa Λ ad) G kA kL Λ ad w s H locs → bM_storeList_98 Λ K33 w c0 x1 x2 x3 x4 x5 x6 x7 x8 t0 s1 s2 = some (w1, r) → W p l e rmM_storeList s m args below meth c H locs 0 0 Q (F0 m 98 ls [.int s2, .int s1, .ref (ad t0)]) := by
    intro K33 hK33 w c0 x1 x2 x3 x4 x5 x6 x7 x8 t0 s1 s2 H locs ls hl hI hf
    unfold bM_storeList_98 at hf
    obtain ⟨w1, hw1, hf⟩ := ob_ hf
    refine r_ast S hI dM_storeList_98 hw1 (fun H locs hI => ?_)
    refine lv_iinc hx hb (lv' := [(8, .int (x8 + 1)), (0, .ref (ad c0)), (1, .int x1), (2, .int x2), (3, .int x3), (4, .int x4), (5, .int x5), (6, .int x6), (7, .int x7)]) (k := 8) dM_storeList_99 hl rfl (kN_1 _) (Nat.le_of_ble_eq_true rfl) rfl (fun ls hl => ?_)
    refine lv_goto (tgt := 33) hx hb dM_storeList_102 rfl ?_
    exact hK33 w1 c0 x1 x2 x3 x4 x5 x6 x7 (x8 + 1) _ _ _ (lv_sub hl [1, 2, 3, 4, 5, 6, 7, 8, 0] rfl) hI hf
  have bk33 : ∀ (K33 : Wo → Nat → Int32 → Int32 → Int32 → Int32 → Int32 → Int32 → Int32 → Int32 → Option (Wo × Int32)), (∀ (w : Wo) (c0 : Nat) (x1 : Int32) (x2 : Int32) (x3 : Int32) (x4 : Int32) (x5 : Int32) (x6 : Int32) (x7 : Int32) (x8 : Int32) (H : Heap) (locs : List Loc) (ls : Array Slot), lv_has ls 9 [(0, .ref (ad c0)), (1, .int x1), (2, .int x2), (3, .int x3), (4, .int x4), (5, .int x5), (6, .int x6), (7, .int x7), (8, .int x8)] → Iv (Aa Λ ad) G kA kL Λ ad w s H locs → K33 w c0 x1 x2 x3 x4 x5 x6 x7 x8 = some (w1, r) → W p l e rmM_storeList s m args below meth c H locs 0 0 Q (F0 m 33 ls [])) → ∀ (w : Wo) (c0 : Nat) (x1 : Int32) (x2 : Int32) (x3 : Int32) (x4 : Int32) (x5 : Int32) (x6 : Int32) (x7 : Int32) (x8 : Int32) (H : Heap) (locs : List Loc) (ls : Array Slot), lv_has ls 9 [(0, .ref (ad c0)), (1, .int x1), (2, .int x2), (3, .int x3), (4, .int x4), (5, .int x5), (6, .int x6), (7, .int x7), (8, .int x8)] → Iv (Aa Λ ad) G kA kL Λ ad w s H locs → bM_storeList_33s Λ K33 w c0 x1 x2 x3 x4 x5 x6 x7 x8 = some (w1, r) → W p l e rmM_storeList s m args below meth c H locs 0 0 Q (F0 m 33 ls []) := by
    intro K33 hK33 w c0 x1 x2 x3 x4 x5 x6 x7 x8 H locs ls hl hI hf
    unfold bM_storeList_33s at hf
    refine lv_iload hx hb dM_storeList_33 (lv_at hl 8 rfl) ?_
    refine lv_bipush hx hb dM_storeList_35 kB_8 ?_
    refine lv_icmp_ge (tgt := 105) hx hb dM_storeList_37 rfl (fun h2 => ?_) (fun h2 => ?_)
    · have hf := ip_ hf h2
      refine lv_aload_n hx hb dM_storeList_105 rfl (lv_at hl 0 rfl) ?_
      obtain ⟨r3, hr3, hf⟩ := ob_ hf
      refine r_getr (i := 18) S hI fcM (Nat.le_of_ble_eq_true rfl) kw_519 dM_storeList_106 hr3 ?_
      refine lv_iload_n hx hb dM_storeList_109 rfl (lv_at hl 2 rfl) ?_
      refine lv_bipush hx hb dM_storeList_110 kB_8 ?_
      refine lv_irem hx hb dM_storeList_112 (by decide +kernel) ?_
      refine lv_iload_n hx hb dM_storeList_113 rfl (lv_at hl 3 rfl) ?_
      obtain ⟨w4, hw4, hf⟩ := ob_ hf
      refine r_ast S hI dM_storeList_114 hw4 (fun H locs hI => ?_)
      refine lv_aload_n hx hb dM_storeList_115 rfl (lv_at hl 0 rfl) ?_
      obtain ⟨r5, hr5, hf⟩ := ob_ hf
      refine r_getr (i := 2) S hI fcM (Nat.le_of_ble_eq_true rfl) kw_503 dM_storeList_116 hr5 ?_
      refine lv_bipush hx hb dM_storeList_119 kB_8 ?_
      refine lv_iload hx hb dM_storeList_121 (lv_at hl 5 rfl) ?_
      refine lv_imul hx hb dM_storeList_123 ?_
      refine lv_iload hx hb dM_storeList_124 (lv_at hl 4 rfl) ?_
      refine lv_iadd hx hb dM_storeList_126 ?_
      obtain ⟨v6, hv6, hf⟩ := ob_ hf
      refine r_ald S hI dM_storeList_127 hv6 ?_
      refine lv_iconst hx hb dM_storeList_128 kI_1 ?_
      refine lv_iadd hx hb dM_storeList_129 ?_
      refine lv_istore hx hb (lv' := [(8, .int (v6 + 1)), (0, .ref (ad c0)), (1, .int x1), (2, .int x2), (3, .int x3), (4, .int x4), (5, .int x5), (6, .int x6), (7, .int x7)]) dM_storeList_130 hl (Nat.le_of_ble_eq_true rfl) rfl (fun ls hl => ?_)
      refine lv_aload_n hx hb dM_storeList_132 rfl (lv_at hl 1 rfl) ?_
      refine lv_iload hx hb dM_storeList_133 (lv_at hl 6 rfl) ?_
      refine lv_bipush hx hb dM_storeList_135 kB_64 ?_
      refine lv_iload hx hb dM_storeList_137 (lv_at hl 5 rfl) ?_
      refine lv_iadd hx hb dM_storeList_139 ?_
      refine W.eq (g2 := F0 m 140 ls _) rfl ?_
      refine lv_iload hx hb dM_storeList_140 (lv_at hl 0 rfl) ?_
      obtain ⟨q7, hq7, hf⟩ := ob_ hf
      refine r_ci (r_V (rest := []) (As := [.int x5, .int (64 + x4), .int (v6 + 1)]) S hl hI (kM_store l G kA kL Λ ad w4 c0 x5 (64 + x4) (v6 + 1) q7.1 q7.2 hq7) pkM_store kw_619 ks_M_store (fcM).1 (gd_some hq7).1 kw_617 ⟨rfl, rfl⟩ ⟨Nat.le_of_ble_eq_true rfl, Nat.le_of_ble_eq_true rfl⟩ rfl rfl (Nat.le_of_ble_eq_true rfl) ⟨Nat.zero_le _, Nat.zero_le _⟩ dM_storeList_142) hI (fun H locs hI => ?_)
      refine lv_if_ne (tgt := 150) hx hb dM_storeList_145 rfl (fun h8 => ?_) (fun h8 => ?_)
      · have hf := in_ hf h8
        refine lv_aload_n hx hb dM_storeList_150 rfl (lv_at hl 1 rfl) ?_
        obtain ⟨r9, hr9, hf⟩ := ob_ hf
        refine r_getr (i := 2) S hI fcM (Nat.le_of_ble_eq_true rfl) kw_503 dM_storeList_151 hr9 ?_
        refine lv_bipush hx hb dM_storeList_154 kB_8 ?_
        refine lv_iload hx hb dM_storeList_156 (lv_at hl 6 rfl) ?_
        refine lv_imul hx hb dM_storeList_158 ?_
        refine lv_iload hx hb dM_storeList_159 (lv_at hl 5 rfl) ?_
        refine lv_iadd hx hb dM_storeList_161 ?_
        refine lv_iload hx hb dM_storeList_162 (lv_at hl 0 rfl) ?_
        obtain ⟨w10, hw10, hf⟩ := ob_ hf
        refine r_ast S hI dM_storeList_164 hw10 (fun H locs hI => ?_)
        refine lv_iconst hx hb dM_storeList_165 kI_1 ?_
        exact hret _ _ _ _ _ _ hI hf dM_storeList_166
      · have hf := ip_ hf h8
        refine lv_iconst hx hb dM_storeList_148 kI_0 ?_
        exact hret _ _ _ _ _ _ hI hf dM_storeList_149
    · have hf := in_ hf h2
      refine lv_aload_n hx hb dM_storeList_40 rfl (lv_at hl 0 rfl) ?_
      obtain ⟨r11, hr11, hf⟩ := ob_ hf
      refine r_getr (i := 18) S hI fcM (Nat.le_of_ble_eq_true rfl) kw_519 dM_storeList_41 hr11 ?_
      refine lv_iload hx hb dM_storeList_44 (lv_at hl 8 rfl) ?_
      refine lv_iload hx hb dM_storeList_46 (lv_at hl 6 rfl) ?_
      refine lv_if_eq (tgt := 72) hx hb dM_storeList_48 rfl (fun h12 => ?_) (fun h12 => ?_)
      · have hf := ip_ hf h12
        refine lv_iload hx hb dM_storeList_72 (lv_at hl 7 rfl) ?_
        refine lv_if_eq (tgt := 97) hx hb dM_storeList_74 rfl (fun h13 => ?_) (fun h13 => ?_)
        · have hf := ip_ hf h13
          refine lv_iconst hx hb dM_storeList_97 kI_0 ?_
          exact bk98 K33 hK33 w c0 x1 x2 x3 x4 x5 x6 x7 x8 r11 x8 0 _ _ _ (lv_sub hl [0, 1, 2, 3, 4, 5, 6, 7, 8] rfl) hI hf
        · have hf := in_ hf h13
          refine lv_aload_n hx hb dM_storeList_77 rfl (lv_at hl 0 rfl) ?_
          obtain ⟨r14, hr14, hf⟩ := ob_ hf
          refine r_getr (i := 1) S hI fcM (Nat.le_of_ble_eq_true rfl) kw_502 dM_storeList_78 hr14 ?_
          refine lv_iload_n hx hb dM_storeList_81 rfl (lv_at hl 1 rfl) ?_
          refine lv_bipush hx hb dM_storeList_82 kB_64 ?_
          refine lv_iload hx hb dM_storeList_84 (lv_at hl 4 rfl) ?_
          refine lv_iadd hx hb dM_storeList_86 ?_
          obtain ⟨q15, hq15, hf⟩ := ob_ hf
          refine r_ci (r_S (rest := [.ref (ad r14), .int x8, .ref (ad r11)]) (As := [.int x1, .int (64 + x4)]) S hl hI (kM_place l G kA kL Λ ad w x1 (64 + x4) q15.1 q15.2 hq15) pkM_place kw_492 kw_491 ⟨rfl, rfl⟩ ⟨Nat.le_of_ble_eq_true rfl, Nat.le_of_ble_eq_true rfl⟩ rfl rfl (Nat.le_of_ble_eq_true rfl) ⟨Nat.zero_le _, Nat.zero_le _⟩ dM_storeList_87) hI (fun H locs hI => ?_)
          refine lv_iload hx hb dM_storeList_90 (lv_at hl 8 rfl) ?_
          refine lv_iadd hx hb dM_storeList_92 ?_
          obtain ⟨v16, hv16, hf⟩ := ob_ hf
          refine r_ald S hI dM_storeList_93 hv16 ?_
          refine lv_goto (tgt := 98) hx hb dM_storeList_94 rfl ?_
          exact bk98 K33 hK33 q15.1 c0 x1 x2 x3 x4 x5 x6 x7 x8 r11 x8 v16 _ _ _ (lv_sub hl [0, 1, 2, 3, 4, 5, 6, 7, 8] rfl) hI hf
      · have hf := in_ hf h12
        refine lv_aload_n hx hb dM_storeList_51 rfl (lv_at hl 0 rfl) ?_
        obtain ⟨r17, hr17, hf⟩ := ob_ hf
        refine r_getr (i := 1) S hI fcM (Nat.le_of_ble_eq_true rfl) kw_502 dM_storeList_52 hr17 ?_
        refine lv_iload hx hb dM_storeList_55 (lv_at hl 5 rfl) ?_
        refine lv_bipush hx hb dM_storeList_57 kB_64 ?_
        refine lv_iload hx hb dM_storeList_59 (lv_at hl 4 rfl) ?_
        refine lv_iadd hx hb dM_storeList_61 ?_
        obtain ⟨q18, hq18, hf⟩ := ob_ hf
        refine r_ci (r_S (rest := [.ref (ad r17), .int x8, .ref (ad r11)]) (As := [.int x5, .int (64 + x4)]) S hl hI (kM_place l G kA kL Λ ad w x5 (64 + x4) q18.1 q18.2 hq18) pkM_place kw_492 kw_491 ⟨rfl, rfl⟩ ⟨Nat.le_of_ble_eq_true rfl, Nat.le_of_ble_eq_true rfl⟩ rfl rfl (Nat.le_of_ble_eq_true rfl) ⟨Nat.zero_le _, Nat.zero_le _⟩ dM_storeList_62) hI (fun H locs hI => ?_)
        refine lv_iload hx hb dM_storeList_65 (lv_at hl 8 rfl) ?_
        refine lv_iadd hx hb dM_storeList_67 ?_
        obtain ⟨v19, hv19, hf⟩ := ob_ hf
        refine r_ald S hI dM_storeList_68 hv19 ?_
        refine lv_goto (tgt := 98) hx hb dM_storeList_69 rfl ?_
        exact bk98 K33 hK33 q18.1 c0 x1 x2 x3 x4 x5 x6 x7 x8 r11 x8 v19 _ _ _ (lv_sub hl [0, 1, 2, 3, 4, 5, 6, 7, 8] rfl) hI hf
  have lp33 : ∀ (n : Nat), ∀ (w : Wo) (c0 : Nat) (x1 : Int32) (x2 : Int32) (x3 : Int32) (x4 : Int32) (x5 : Int32) (x6 : Int32) (x7 : Int32) (x8 : Int32) (H : Heap) (locs : List Loc) (ls : Array Slot), lv_has ls 9 [(0, .ref (ad c0)), (1, .int x1), (2, .int x2), (3, .int x3), (4, .int x4), (5, .int x5), (6, .int x6), (7, .int x7), (8, .int x8)] → Iv (Aa Λ ad) G kA kL Λ ad w s H locs → bM_storeList_33 Λ n w c0 x1 x2 x3 x4 x5 x6 x7 x8 = some (w1, r) → W p l e rmM_storeList s m args below meth c H locs 0 0 Q (F0 m 33 ls []) := by
    intro n
    induction n with
    | zero =>
      intro w c0 x1 x2 x3 x4 x5 x6 x7 x8 H locs ls hl hI hf
      have hf : (none : Option (Wo × Int32)) = some (w1, r) := hf
      cases hf
    | succ n ih =>
      intro w c0 x1 x2 x3 x4 x5 x6 x7 x8 H locs ls hl hI hf
      exact bk33 (bM_storeList_33 Λ n) ih w c0 x1 x2 x3 x4 x5 x6 x7 x8 H locs ls hl hI hf
  unfold fM_storeList at hf
  have hf := (gd_some hf).2
  refine lv_iload_n hx hb dM_storeList_0 rfl (lv_at hl 2 rfl) ?_
  refine lv_bipush hx hb dM_storeList_1 kB_8 ?_
  refine lv_idiv hx hb dM_storeList_3 (by decide +kernel) ?_
  refine lv_istore hx hb (lv' := [(4, .int (x2 / 8)), (0, .ref (ad c0)), (1, .int x1), (2, .int x2), (3, .int x3)]) dM_storeList_4 hl (Nat.le_of_ble_eq_true rfl) rfl (fun ls hl => ?_)
  refine lv_iconst hx hb dM_storeList_6 kI_1 ?_
  refine lv_iload_n hx hb dM_storeList_7 rfl (lv_at hl 2 rfl) ?_
  refine lv_isub hx hb dM_storeList_8 ?_
  refine lv_istore hx hb (lv' := [(5, .int (1 - x1)), (4, .int (x2 / 8)), (0, .ref (ad c0)), (1, .int x1), (2, .int x2), (3, .int x3)]) dM_storeList_9 hl (Nat.le_of_ble_eq_true rfl) rfl (fun ls hl => ?_)
  refine W.eq (g2 := F0 m 11 ls _) rfl ?_
  refine lv_aload_n hx hb dM_storeList_11 rfl (lv_at hl 2 rfl) ?_
  refine lv_iload hx hb dM_storeList_12 (lv_at hl 0 rfl) ?_
  refine lv_iload hx hb dM_storeList_14 (lv_at hl 1 rfl) ?_
  obtain ⟨q20, hq20, hf⟩ := ob_ hf
  refine r_ci (r_V (rest := []) (As := [.int (1 - x1), .int (x2 / 8)]) S hl hI (kM_isRightPage l G kA kL Λ ad w c0 (1 - x1) (x2 / 8) q20.1 q20.2 hq20) pkM_isRightPage kw_591 ks_M_isRightPage (fcM).1 (gd_some hq20).1 kw_589 ⟨rfl, rfl⟩ ⟨Nat.le_of_ble_eq_true rfl, Nat.le_of_ble_eq_true rfl⟩ rfl rfl (Nat.le_of_ble_eq_true rfl) ⟨Nat.zero_le _, Nat.zero_le _⟩ dM_storeList_16) hI (fun H locs hI => ?_)
  refine lv_istore hx hb (lv' := [(6, .int q20.2), (5, .int (1 - x1)), (4, .int (x2 / 8)), (0, .ref (ad c0)), (1, .int x1), (2, .int x2), (3, .int x3)]) dM_storeList_19 hl (Nat.le_of_ble_eq_true rfl) rfl (fun ls hl => ?_)
  refine lv_aload_n hx hb dM_storeList_21 rfl (lv_at hl 3 rfl) ?_
  refine lv_iload_n hx hb dM_storeList_22 rfl (lv_at hl 4 rfl) ?_
  refine lv_iload hx hb dM_storeList_23 (lv_at hl 2 rfl) ?_
  obtain ⟨q21, hq21, hf⟩ := ob_ hf
  refine r_ci (r_V (rest := []) (As := [.int x1, .int (x2 / 8)]) S hl hI (kM_isRightPage l G kA kL Λ ad q20.1 c0 x1 (x2 / 8) q21.1 q21.2 hq21) pkM_isRightPage kw_591 ks_M_isRightPage (fcM).1 (gd_some hq21).1 kw_589 ⟨rfl, rfl⟩ ⟨Nat.le_of_ble_eq_true rfl, Nat.le_of_ble_eq_true rfl⟩ rfl rfl (Nat.le_of_ble_eq_true rfl) ⟨Nat.zero_le _, Nat.zero_le _⟩ dM_storeList_25) hI (fun H locs hI => ?_)
  refine lv_istore hx hb (lv' := [(7, .int q21.2), (6, .int q20.2), (5, .int (1 - x1)), (4, .int (x2 / 8)), (0, .ref (ad c0)), (1, .int x1), (2, .int x2), (3, .int x3)]) dM_storeList_28 hl (Nat.le_of_ble_eq_true rfl) rfl (fun ls hl => ?_)
  refine lv_iconst hx hb dM_storeList_30 kI_0 ?_
  refine lv_istore hx hb (lv' := [(8, .int 0), (7, .int q21.2), (6, .int q20.2), (5, .int (1 - x1)), (4, .int (x2 / 8)), (0, .ref (ad c0)), (1, .int x1), (2, .int x2), (3, .int x3)]) dM_storeList_31 hl (Nat.le_of_ble_eq_true rfl) rfl (fun ls hl => ?_)
  exact lp33 1000 q21.1 c0 x1 x2 x3 (x2 / 8) (1 - x1) q20.2 q21.2 0 _ _ _ (lv_sub hl [5, 6, 7, 8, 4, 3, 2, 1, 0] rfl) hI hf
/-- GuardVolumeModel.putCopy(III)Z -/
abbrev rmM_putCopy : Room := { frames := 5, cells := 0, slots := 0, locals := 118 }
theorem pkM_putCopy : Pk yM_putCopy cM_putCopy 4 (some .boolean) 3 := ⟨kw_612, kw_7, by decide +kernel, by decide +kernel, by decide +kernel⟩
def fM_putCopy (Λ : La) (w : Wo) (c0 : Nat) (x1 : Int32) (x2 : Int32) (x3 : Int32) : Option (Wo × Int32) := gd (isC Λ c0 5) ((fM_storeRow Λ w c0 x1 x2 x3).bind fun q1 => if q1.2 = 0 then (zr q1.1 0) else ((fM_storeList Λ q1.1 c0 x1 x2 x3).bind fun q3 => if q3.2 = 0 then (zr q3.1 0) else (zr q3.1 1)))
set_option maxHeartbeats 4000000 in
set_option maxRecDepth 100000 in
theorem kM_putCopy (l : Launch) (G : va_G) (kA kL : ClassId) (Λ : La) (ad : Nat → Nat) (w : Wo) (c0 : Nat) (x1 : Int32) (x2 : Int32) (x3 : Int32) (w1 : Wo) (r : Int32) (hf : fM_putCopy Λ w c0 x1 x2 x3 = some (w1, r)) : Mi l yM_putCopy cM_putCopy 4 (some .boolean) rmM_putCopy G kA kL Λ ad [.ref (ad c0), .int x1, .int x2, .int x3] w w1 r := by
  refine Mz.of (by decide +kernel) (Nat.le_of_ble_eq_true rfl) ?_
  intro p e s m args below meth c Q ls S hret hl hI
  have S : CallFix p m c cM_putCopy 4 s args (.code yM_putCopy cM_putCopy 4 (some .boolean) :: gW) "GuardVolumeModel" := S
  have hl : lv_has ls 4 [(0, .ref (ad c0)), (1, .int x1), (2, .int x2), (3, .int x3)] := hl
  have hx := S.1
  have hb := S.2.1
  unfold fM_putCopy at hf
  have hf := (gd_some hf).2
  refine lv_aload_n hx hb dM_putCopy_0 rfl (lv_at hl 0 rfl) ?_
  refine lv_iload_n hx hb dM_putCopy_1 rfl (lv_at hl 1 rfl) ?_
  refine lv_iload_n hx hb dM_putCopy_2 rfl (lv_at hl 2 rfl) ?_
  refine lv_iload_n hx hb dM_putCopy_3 rfl (lv_at hl 3 rfl) ?_
  obtain ⟨q1, hq1, hf⟩ := ob_ hf
  refine r_ci (r_V (rest := []) (As := [.int x1, .int x2, .int x3]) S hl hI (kM_storeRow l G kA kL Λ ad w c0 x1 x2 x3 q1.1 q1.2 hq1) pkM_storeRow kw_615 ks_M_storeRow (fcM).1 (gd_some hq1).1 kw_613 ⟨rfl, rfl⟩ ⟨Nat.le_of_ble_eq_true rfl, Nat.le_of_ble_eq_true rfl⟩ rfl rfl (Nat.le_of_ble_eq_true rfl) ⟨Nat.zero_le _, Nat.zero_le _⟩ dM_putCopy_4) hI (fun H locs hI => ?_)
  refine lv_if_eq (tgt := 24) hx hb dM_putCopy_7 rfl (fun h2 => ?_) (fun h2 => ?_)
  · have hf := ip_ hf h2
    refine lv_iconst hx hb dM_putCopy_24 kI_0 ?_
    exact hret _ _ _ _ _ _ hI hf dM_putCopy_25
  · have hf := in_ hf h2
    refine lv_aload_n hx hb dM_putCopy_10 rfl (lv_at hl 0 rfl) ?_
    refine lv_iload_n hx hb dM_putCopy_11 rfl (lv_at hl 1 rfl) ?_
    refine lv_iload_n hx hb dM_putCopy_12 rfl (lv_at hl 2 rfl) ?_
    refine lv_iload_n hx hb dM_putCopy_13 rfl (lv_at hl 3 rfl) ?_
    obtain ⟨q3, hq3, hf⟩ := ob_ hf
    refine r_ci (r_V (rest := []) (As := [.int x1, .int x2, .int x3]) S hl hI (kM_storeList l G kA kL Λ ad q1.1 c0 x1 x2 x3 q3.1 q3.2 hq3) pkM_storeList kw_635 ks_M_storeList (fcM).1 (gd_some hq3).1 kw_633 ⟨rfl, rfl⟩ ⟨Nat.le_of_ble_eq_true rfl, Nat.le_of_ble_eq_true rfl⟩ rfl rfl (Nat.le_of_ble_eq_true rfl) ⟨Nat.zero_le _, Nat.zero_le _⟩ dM_putCopy_14) hI (fun H locs hI => ?_)
    refine lv_if_eq (tgt := 24) hx hb dM_putCopy_17 rfl (fun h4 => ?_) (fun h4 => ?_)
    · have hf := ip_ hf h4
      refine lv_iconst hx hb dM_putCopy_24 kI_0 ?_
      exact hret _ _ _ _ _ _ hI hf dM_putCopy_25
    · have hf := in_ hf h4
      refine lv_iconst hx hb dM_putCopy_20 kI_1 ?_
      refine lv_goto (tgt := 25) hx hb dM_putCopy_21 rfl ?_
      exact hret _ _ _ _ _ _ hI hf dM_putCopy_25
/-- GuardVolumeModel.put(II)Z -/
abbrev rmM_put : Room := { frames := 6, cells := 0, slots := 0, locals := 141 }
theorem pkM_put : Pk yM_put cM_put 4 (some .boolean) 2 := ⟨kw_608, kw_7, by decide +kernel, by decide +kernel, by decide +kernel⟩
def bM_put_12s (Λ : La) (K12 : Wo → Nat → Int32 → Int32 → Int32 → Option (Wo × Int32)) (w : Wo) (c0 : Nat) (x1 : Int32) (x2 : Int32) (x3 : Int32) : Option (Wo × Int32) := if 8 ≤ x3 then ((fM_putCopy Λ w c0 0 x1 x2).bind fun q2 => if q2.2 = 0 then (zr q2.1 0) else ((fM_putCopy Λ q2.1 c0 1 x1 x2).bind fun q4 => if q4.2 = 0 then (zr q4.1 0) else ((pf Λ q4.1 c0 5 3 (-1)).bind fun w6 => zr w6 1))) else ((gr Λ c0 5 4).bind fun r7 => (gr Λ c0 5 19).bind fun r8 => (ld Λ w r8 x3).bind fun v9 => (st Λ w r7 x3 v9).bind fun w10 => K12 w10 c0 x1 x2 (x3 + 1))
def bM_put_12 (Λ : La) : Nat → Wo → Nat → Int32 → Int32 → Int32 → Option (Wo × Int32)
  | 0 => fun _ _ _ _ _ => none
  | n + 1 => bM_put_12s Λ (bM_put_12 Λ n)
def fM_put (Λ : La) (w : Wo) (c0 : Nat) (x1 : Int32) (x2 : Int32) : Option (Wo × Int32) := gd (isC Λ c0 5) ((pf Λ w c0 5 3 x1).bind fun w11 => (pf Λ w11 c0 5 5 x2).bind fun w12 => bM_put_12 Λ 1000 w12 c0 x1 x2 0)
set_option maxHeartbeats 4000000 in
set_option maxRecDepth 100000 in
theorem kM_put (l : Launch) (G : va_G) (kA kL : ClassId) (Λ : La) (ad : Nat → Nat) (w : Wo) (c0 : Nat) (x1 : Int32) (x2 : Int32) (w1 : Wo) (r : Int32) (hf : fM_put Λ w c0 x1 x2 = some (w1, r)) : Mi l yM_put cM_put 4 (some .boolean) rmM_put G kA kL Λ ad [.ref (ad c0), .int x1, .int x2] w w1 r := by
  refine Mz.of (by decide +kernel) (Nat.le_of_ble_eq_true rfl) ?_
  intro p e s m args below meth c Q ls S hret hl hI
  have S : CallFix p m c cM_put 4 s args (.code yM_put cM_put 4 (some .boolean) :: gW) "GuardVolumeModel" := S
  have hl : lv_has ls 4 [(0, .ref (ad c0)), (1, .int x1), (2, .int x2)] := hl
  have hx := S.1
  have hb := S.2.1
  have bk12 : ∀ (K12 : Wo → Nat → Int32 → Int32 → Int32 → Option (Wo × Int32)), (∀ (w : Wo) (c0 : Nat) (x1 : Int32) (x2 : Int32) (x3 : Int32) (H : Heap) (locs : List Loc) (ls : Array Slot), lv_has ls 4 [(0, .ref (ad c0)), (1, .int x1), (2, .int x2), (3, .int x3)] → Iv (Aa Λ ad) G kA kL Λ ad w s H locs → K12 w c0 x1 x2 x3 = some (w1, r) → W p l e rmM_put s m args below meth c H locs 0 0 Q (F0 m 12 ls [])) → ∀ (w : Wo) (c0 : Nat) (x1 : Int32) (x2 : Int32) (x3 : Int32) (H : Heap) (locs : List Loc) (ls : Array Slot), lv_has ls 4 [(0, .ref (ad c0)), (1, .int x1), (2, .int x2), (3, .int x3)] → Iv (Aa Λ ad) G kA kL Λ ad w s H locs → bM_put_12s Λ K12 w c0 x1 x2 x3 = some (w1, r) → W p l e rmM_put s m args below meth c H locs 0 0 Q (F0 m 12 ls []) := by
    intro K12 hK12 w c0 x1 x2 x3 H locs ls hl hI hf
    unfold bM_put_12s at hf
    refine lv_iload_n hx hb dM_put_12 rfl (lv_at hl 3 rfl) ?_
    refine lv_bipush hx hb dM_put_13 kB_8 ?_
    refine lv_icmp_ge (tgt := 36) hx hb dM_put_15 rfl (fun h1 => ?_) (fun h1 => ?_)
    · have hf := ip_ hf h1
      refine lv_aload_n hx hb dM_put_36 rfl (lv_at hl 0 rfl) ?_
      refine lv_iconst hx hb dM_put_37 kI_0 ?_
      refine lv_iload_n hx hb dM_put_38 rfl (lv_at hl 1 rfl) ?_
      refine lv_iload_n hx hb dM_put_39 rfl (lv_at hl 2 rfl) ?_
      obtain ⟨q2, hq2, hf⟩ := ob_ hf
      refine r_ci (r_V (rest := []) (As := [.int 0, .int x1, .int x2]) S hl hI (kM_putCopy l G kA kL Λ ad w c0 0 x1 x2 q2.1 q2.2 hq2) pkM_putCopy kw_611 ks_M_putCopy (fcM).1 (gd_some hq2).1 kw_609 ⟨rfl, rfl⟩ ⟨Nat.le_of_ble_eq_true rfl, Nat.le_of_ble_eq_true rfl⟩ rfl rfl (Nat.le_of_ble_eq_true rfl) ⟨Nat.zero_le _, Nat.zero_le _⟩ dM_put_40) hI (fun H locs hI => ?_)
      refine lv_if_eq (tgt := 56) hx hb dM_put_43 rfl (fun h3 => ?_) (fun h3 => ?_)
      · have hf := ip_ hf h3
        refine lv_iconst hx hb dM_put_56 kI_0 ?_
        exact hret _ _ _ _ _ _ hI hf dM_put_57
      · have hf := in_ hf h3
        refine lv_aload_n hx hb dM_put_46 rfl (lv_at hl 0 rfl) ?_
        refine lv_iconst hx hb dM_put_47 kI_1 ?_
        refine lv_iload_n hx hb dM_put_48 rfl (lv_at hl 1 rfl) ?_
        refine lv_iload_n hx hb dM_put_49 rfl (lv_at hl 2 rfl) ?_
        obtain ⟨q4, hq4, hf⟩ := ob_ hf
        refine r_ci (r_V (rest := []) (As := [.int 1, .int x1, .int x2]) S hl hI (kM_putCopy l G kA kL Λ ad q2.1 c0 1 x1 x2 q4.1 q4.2 hq4) pkM_putCopy kw_611 ks_M_putCopy (fcM).1 (gd_some hq4).1 kw_609 ⟨rfl, rfl⟩ ⟨Nat.le_of_ble_eq_true rfl, Nat.le_of_ble_eq_true rfl⟩ rfl rfl (Nat.le_of_ble_eq_true rfl) ⟨Nat.zero_le _, Nat.zero_le _⟩ dM_put_50) hI (fun H locs hI => ?_)
        refine lv_if_ne (tgt := 58) hx hb dM_put_53 rfl (fun h5 => ?_) (fun h5 => ?_)
        · have hf := in_ hf h5
          refine lv_aload_n hx hb dM_put_58 rfl (lv_at hl 0 rfl) ?_
          refine lv_iconst hx hb dM_put_59 kI_m1 ?_
          obtain ⟨w6, hw6, hf⟩ := ob_ hf
          refine r_put (i := 3) S hI fcM (Nat.le_of_ble_eq_true rfl) kw_504 rfl rfl rfl dM_put_60 hw6 (fun H locs hI => ?_)
          refine lv_iconst hx hb dM_put_63 kI_1 ?_
          exact hret _ _ _ _ _ _ hI hf dM_put_64
        · have hf := ip_ hf h5
          refine lv_iconst hx hb dM_put_56 kI_0 ?_
          exact hret _ _ _ _ _ _ hI hf dM_put_57
    · have hf := in_ hf h1
      refine lv_aload_n hx hb dM_put_18 rfl (lv_at hl 0 rfl) ?_
      obtain ⟨r7, hr7, hf⟩ := ob_ hf
      refine r_getr (i := 4) S hI fcM (Nat.le_of_ble_eq_true rfl) kw_505 dM_put_19 hr7 ?_
      refine lv_iload_n hx hb dM_put_22 rfl (lv_at hl 3 rfl) ?_
      refine lv_aload_n hx hb dM_put_23 rfl (lv_at hl 0 rfl) ?_
      obtain ⟨r8, hr8, hf⟩ := ob_ hf
      refine r_getr (i := 19) S hI fcM (Nat.le_of_ble_eq_true rfl) kw_520 dM_put_24 hr8 ?_
      refine lv_iload_n hx hb dM_put_27 rfl (lv_at hl 3 rfl) ?_
      obtain ⟨v9, hv9, hf⟩ := ob_ hf
      refine r_ald S hI dM_put_28 hv9 ?_
      obtain ⟨w10, hw10, hf⟩ := ob_ hf
      refine r_ast S hI dM_put_29 hw10 (fun H locs hI => ?_)
      refine lv_iinc hx hb (lv' := [(3, .int (x3 + 1)), (0, .ref (ad c0)), (1, .int x1), (2, .int x2)]) (k := 3) dM_put_30 hl rfl (kN_1 _) (Nat.le_of_ble_eq_true rfl) rfl (fun ls hl => ?_)
      refine lv_goto (tgt := 12) hx hb dM_put_33 rfl ?_
      exact hK12 w10 c0 x1 x2 (x3 + 1) _ _ _ (lv_sub hl [1, 2, 3, 0] rfl) hI hf
  have lp12 : ∀ (n : Nat), ∀ (w : Wo) (c0 : Nat) (x1 : Int32) (x2 : Int32) (x3 : Int32) (H : Heap) (locs : List Loc) (ls : Array Slot), lv_has ls 4 [(0, .ref (ad c0)), (1, .int x1), (2, .int x2), (3, .int x3)] → Iv (Aa Λ ad) G kA kL Λ ad w s H locs → bM_put_12 Λ n w c0 x1 x2 x3 = some (w1, r) → W p l e rmM_put s m args below meth c H locs 0 0 Q (F0 m 12 ls []) := by
    intro n
    induction n with
    | zero =>
      intro w c0 x1 x2 x3 H locs ls hl hI hf
      have hf : (none : Option (Wo × Int32)) = some (w1, r) := hf
      cases hf
    | succ n ih =>
      intro w c0 x1 x2 x3 H locs ls hl hI hf
      exact bk12 (bM_put_12 Λ n) ih w c0 x1 x2 x3 H locs ls hl hI hf
  unfold fM_put at hf
  have hf := (gd_some hf).2
  refine lv_aload_n hx hb dM_put_0 rfl (lv_at hl 0 rfl) ?_
  refine lv_iload_n hx hb dM_put_1 rfl (lv_at hl 1 rfl) ?_
  obtain ⟨w11, hw11, hf⟩ := ob_ hf
  refine r_put (i := 3) S hI fcM (Nat.le_of_ble_eq_true rfl) kw_504 rfl rfl rfl dM_put_2 hw11 (fun H locs hI => ?_)
  refine lv_aload_n hx hb dM_put_5 rfl (lv_at hl 0 rfl) ?_
  refine lv_iload_n hx hb dM_put_6 rfl (lv_at hl 2 rfl) ?_
  obtain ⟨w12, hw12, hf⟩ := ob_ hf
  refine r_put (i := 5) S hI fcM (Nat.le_of_ble_eq_true rfl) kw_506 rfl rfl rfl dM_put_7 hw12 (fun H locs hI => ?_)
  refine lv_iconst hx hb dM_put_10 kI_0 ?_
  refine lv_istore_n hx hb (lv' := [(3, .int 0), (0, .ref (ad c0)), (1, .int x1), (2, .int x2)]) dM_put_11 rfl hl (Nat.le_of_ble_eq_true rfl) rfl (fun ls hl => ?_)
  exact lp12 1000 w12 c0 x1 x2 0 _ _ _ (lv_sub hl [1, 2, 3, 0] rfl) hI hf
/-- GuardVolumeModel.write(III)I -/
abbrev rmM_write : Room := { frames := 7, cells := 0, slots := 0, locals := 164 }
theorem pkM_write : Pk yM_write cM_write 6 (some .int) 3 := ⟨kw_569, kw_7, by decide +kernel, by decide +kernel, by decide +kernel⟩
def bM_write_93 (Λ : La) (w : Wo) (c0 : Nat) (x1 : Int32) (x2 : Int32) (x3 : Int32) (x4 : Int32) (x5 : Int32) (t0 : Nat) (s1 : Int32) : Option (Wo × Int32) := (pf Λ w t0 5 0 s1).bind fun w1 => (gi Λ w1 c0 5 0).bind fun v2 => if v2 ≤ 0 then ((pf Λ w1 c0 5 13 x4).bind fun w4 => if x4 = 2 then (some (w4, 2)) else ((fM_takeWords Λ w4 c0 x4 x1).bind fun w6 => (gr Λ c0 5 19).bind fun r7 => (st Λ w6 r7 x2 x3).bind fun w8 => (fM_put Λ w8 c0 x1 (x5 + 1)).bind fun q9 => if q9.2 = 0 then (some (q9.1, 3)) else (some (q9.1, 0)))) else (some (w1, 0))
def bM_write_78 (Λ : La) (w : Wo) (c0 : Nat) (x1 : Int32) (x2 : Int32) (x3 : Int32) (x4 : Int32) (s0 : Int32) : Option (Wo × Int32) := if s0 = 60 then (bM_write_93 Λ w c0 x1 x2 x3 x4 s0 c0 3) else (bM_write_93 Λ w c0 x1 x2 x3 x4 s0 c0 0)
def bM_write_35 (Λ : La) (w : Wo) (c0 : Nat) (x1 : Int32) (x2 : Int32) (x3 : Int32) (t0 : Nat) (s1 : Int32) : Option (Wo × Int32) := (pf Λ w t0 5 0 s1).bind fun w12 => (gi Λ w12 c0 5 0).bind fun v13 => if v13 ≤ 0 then ((fM_codeOf Λ w12 c0 x1).bind fun q15 => if 2 ≤ q15.2 then (bM_write_78 Λ q15.1 c0 x1 x2 x3 q15.2 0) else ((gr Λ c0 5 1).bind fun r17 => (fM_place Λ q15.1 q15.2 x1).bind fun q18 => (ld Λ q18.1 r17 (q18.2 + 10)).bind fun v19 => bM_write_78 Λ q18.1 c0 x1 x2 x3 q15.2 v19)) else (some (w12, 0))
def bM_write_19 (Λ : La) (w : Wo) (c0 : Nat) (x1 : Int32) (x2 : Int32) (x3 : Int32) (t0 : Nat) : Option (Wo × Int32) := bM_write_35 Λ w c0 x1 x2 x3 t0 1
def fM_write (Λ : La) (w : Wo) (c0 : Nat) (x1 : Int32) (x2 : Int32) (x3 : Int32) : Option (Wo × Int32) := gd (isC Λ c0 5) ((fM_in Λ w x1 64).bind fun q20 => if q20.2 = 0 then (bM_write_19 Λ q20.1 c0 x1 x2 x3 c0) else ((fM_in Λ q20.1 x2 8).bind fun q22 => if q22.2 = 0 then (bM_write_19 Λ q22.1 c0 x1 x2 x3 c0) else ((gi Λ q22.1 c0 5 6).bind fun v24 => if v24 = 0 then (bM_write_35 Λ q22.1 c0 x1 x2 x3 c0 0) else (bM_write_35 Λ q22.1 c0 x1 x2 x3 c0 2))))
set_option maxHeartbeats 4000000 in
set_option maxRecDepth 100000 in
theorem kM_write (l : Launch) (G : va_G) (kA kL : ClassId) (Λ : La) (ad : Nat → Nat) (w : Wo) (c0 : Nat) (x1 : Int32) (x2 : Int32) (x3 : Int32) (w1 : Wo) (r : Int32) (hf : fM_write Λ w c0 x1 x2 x3 = some (w1, r)) : Mi l yM_write cM_write 6 (some .int) rmM_write G kA kL Λ ad [.ref (ad c0), .int x1, .int x2, .int x3] w w1 r := by
  refine Mi.of (by decide +kernel) (Nat.le_of_ble_eq_true rfl) ?_
  intro p e s m args below meth c Q ls S hret hl hI
  have S : CallFix p m c cM_write 6 s args (.code yM_write cM_write 6 (some .int) :: gW) "GuardVolumeModel" := S
  have hl : lv_has ls 6 [(0, .ref (ad c0)), (1, .int x1), (2, .int x2), (3, .int x3)] := hl
  have hx := S.1
  have hb := S.2.1
  have bk93 : ∀ (w : Wo) (c0 : Nat) (x1 : Int32) (x2 : Int32) (x3 : Int32) (x4 : Int32) (x5 : Int32) (t0 : Nat) (s1 : Int32) (H : Heap) (locs : List Loc) (ls : Array Slot), lv_has ls 6 [(0, .ref (ad c0)), (1, .int x1), (2, .int x2), (3, .int x3), (4, .int x4), (5, .int x5)] → Iv (Aa Λ ad) G kA kL Λ ad w s H locs → bM_write_93 Λ w c0 x1 x2 x3 x4 x5 t0 s1 = some (w1, r) → W p l e rmM_write s m args below meth c H locs 0 0 Q (F0 m 93 ls [.int s1, .ref (ad t0)]) := by
    intro w c0 x1 x2 x3 x4 x5 t0 s1 H locs ls hl hI hf
    unfold bM_write_93 at hf
    obtain ⟨w1, hw1, hf⟩ := ob_ hf
    refine r_put (i := 0) S hI fcM (Nat.le_of_ble_eq_true rfl) kw_501 rfl rfl rfl dM_write_93 hw1 (fun H locs hI => ?_)
    refine lv_aload_n hx hb dM_write_96 rfl (lv_at hl 0 rfl) ?_
    obtain ⟨v2, hv2, hf⟩ := ob_ hf
    refine r_geti (i := 0) S hI fcM (Nat.le_of_ble_eq_true rfl) kw_501 dM_write_97 hv2 ?_
    refine lv_if_le (tgt := 105) hx hb dM_write_100 rfl (fun h3 => ?_) (fun h3 => ?_)
    · have hf := ip_ hf h3
      refine lv_aload_n hx hb dM_write_105 rfl (lv_at hl 0 rfl) ?_
      refine lv_iload hx hb dM_write_106 (lv_at hl 4 rfl) ?_
      obtain ⟨w4, hw4, hf⟩ := ob_ hf
      refine r_put (i := 13) S hI fcM (Nat.le_of_ble_eq_true rfl) kw_514 rfl rfl rfl dM_write_108 hw4 (fun H locs hI => ?_)
      refine lv_iload hx hb dM_write_111 (lv_at hl 4 rfl) ?_
      refine lv_iconst hx hb dM_write_113 kI_2 ?_
      refine lv_icmp_ne (tgt := 119) hx hb dM_write_114 rfl (fun h5 => ?_) (fun h5 => ?_)
      · have hf := in_ hf h5
        refine lv_aload_n hx hb dM_write_119 rfl (lv_at hl 0 rfl) ?_
        refine lv_iload hx hb dM_write_120 (lv_at hl 4 rfl) ?_
        refine lv_iload_n hx hb dM_write_122 rfl (lv_at hl 1 rfl) ?_
        obtain ⟨w6, hw6, hf⟩ := ob_ hf
        refine r_cv (r_V (rest := []) (As := [.int x4, .int x1]) S hl hI (kM_takeWords l G kA kL Λ ad w4 c0 x4 x1 w6 hw6) pkM_takeWords kw_603 ks_M_takeWords (fcM).1 (gd_some hw6).1 kw_601 ⟨rfl, rfl⟩ ⟨Nat.le_of_ble_eq_true rfl, Nat.le_of_ble_eq_true rfl⟩ rfl rfl (Nat.le_of_ble_eq_true rfl) ⟨Nat.zero_le _, Nat.zero_le _⟩ dM_write_123) hI (fun H locs hI => ?_)
        refine lv_aload_n hx hb dM_write_126 rfl (lv_at hl 0 rfl) ?_
        obtain ⟨r7, hr7, hf⟩ := ob_ hf
        refine r_getr (i := 19) S hI fcM (Nat.le_of_ble_eq_true rfl) kw_520 dM_write_127 hr7 ?_
        refine lv_iload_n hx hb dM_write_130 rfl (lv_at hl 2 rfl) ?_
        refine lv_iload_n hx hb dM_write_131 rfl (lv_at hl 3 rfl) ?_
        obtain ⟨w8, hw8, hf⟩ := ob_ hf
        refine r_ast S hI dM_write_132 hw8 (fun H locs hI => ?_)
        refine lv_aload_n hx hb dM_write_133 rfl (lv_at hl 0 rfl) ?_
        refine lv_iload_n hx hb dM_write_134 rfl (lv_at hl 1 rfl) ?_
        refine lv_iload hx hb dM_write_135 (lv_at hl 5 rfl) ?_
        refine lv_iconst hx hb dM_write_137 kI_1 ?_
        refine lv_iadd hx hb dM_write_138 ?_
        obtain ⟨q9, hq9, hf⟩ := ob_ hf
        refine r_ci (r_V (rest := []) (As := [.int x1, .int (x5 + 1)]) S hl hI (kM_put l G kA kL Λ ad w8 c0 x1 (x5 + 1) q9.1 q9.2 hq9) pkM_put kw_607 ks_M_put (fcM).1 (gd_some hq9).1 kw_605 ⟨rfl, rfl⟩ ⟨Nat.le_of_ble_eq_true rfl, Nat.le_of_ble_eq_true rfl⟩ rfl rfl (Nat.le_of_ble_eq_true rfl) ⟨Nat.zero_le _, Nat.zero_le _⟩ dM_write_139) hI (fun H locs hI => ?_)
        refine lv_if_eq (tgt := 149) hx hb dM_write_142 rfl (fun h10 => ?_) (fun h10 => ?_)
        · have hf := ip_ hf h10
          refine lv_iconst hx hb dM_write_149 kI_3 ?_
          exact hret _ _ _ _ _ _ hI hf dM_write_150
        · have hf := in_ hf h10
          refine lv_iconst hx hb dM_write_145 kI_0 ?_
          refine lv_goto (tgt := 150) hx hb dM_write_146 rfl ?_
          exact hret _ _ _ _ _ _ hI hf dM_write_150
      · have hf := ip_ hf h5
        refine lv_iconst hx hb dM_write_117 kI_2 ?_
        exact hret _ _ _ _ _ _ hI hf dM_write_118
    · have hf := in_ hf h3
      refine lv_iconst hx hb dM_write_103 kI_0 ?_
      exact hret _ _ _ _ _ _ hI hf dM_write_104
  have bk78 : ∀ (w : Wo) (c0 : Nat) (x1 : Int32) (x2 : Int32) (x3 : Int32) (x4 : Int32) (s0 : Int32) (H : Heap) (locs : List Loc) (ls : Array Slot), lv_has ls 6 [(0, .ref (ad c0)), (1, .int x1), (2, .int x2), (3, .int x3), (4, .int x4)] → Iv (Aa Λ ad) G kA kL Λ ad w s H locs → bM_write_78 Λ w c0 x1 x2 x3 x4 s0 = some (w1, r) → W p l e rmM_write s m args below meth c H locs 0 0 Q (F0 m 78 ls [.int s0]) := by
    intro w c0 x1 x2 x3 x4 s0 H locs ls hl hI hf
    unfold bM_write_78 at hf
    refine lv_istore hx hb (lv' := [(5, .int s0), (0, .ref (ad c0)), (1, .int x1), (2, .int x2), (3, .int x3), (4, .int x4)]) dM_write_78 hl (Nat.le_of_ble_eq_true rfl) rfl (fun ls hl => ?_)
    refine lv_aload_n hx hb dM_write_80 rfl (lv_at hl 1 rfl) ?_
    refine lv_iload hx hb dM_write_81 (lv_at hl 0 rfl) ?_
    refine lv_bipush hx hb dM_write_83 kB_60 ?_
    refine lv_icmp_ne (tgt := 92) hx hb dM_write_85 rfl (fun h11 => ?_) (fun h11 => ?_)
    · have hf := in_ hf h11
      refine lv_iconst hx hb dM_write_92 kI_0 ?_
      exact bk93 w c0 x1 x2 x3 x4 s0 c0 0 _ _ _ (lv_sub hl [1, 2, 3, 4, 5, 0] rfl) hI hf
    · have hf := ip_ hf h11
      refine lv_iconst hx hb dM_write_88 kI_3 ?_
      refine lv_goto (tgt := 93) hx hb dM_write_89 rfl ?_
      exact bk93 w c0 x1 x2 x3 x4 s0 c0 3 _ _ _ (lv_sub hl [1, 2, 3, 4, 5, 0] rfl) hI hf
  have bk35 : ∀ (w : Wo) (c0 : Nat) (x1 : Int32) (x2 : Int32) (x3 : Int32) (t0 : Nat) (s1 : Int32) (H : Heap) (locs : List Loc) (ls : Array Slot), lv_has ls 6 [(0, .ref (ad c0)), (1, .int x1), (2, .int x2), (3, .int x3)] → Iv (Aa Λ ad) G kA kL Λ ad w s H locs → bM_write_35 Λ w c0 x1 x2 x3 t0 s1 = some (w1, r) → W p l e rmM_write s m args below meth c H locs 0 0 Q (F0 m 35 ls [.int s1, .ref (ad t0)]) := by
    intro w c0 x1 x2 x3 t0 s1 H locs ls hl hI hf
    unfold bM_write_35 at hf
    obtain ⟨w12, hw12, hf⟩ := ob_ hf
    refine r_put (i := 0) S hI fcM (Nat.le_of_ble_eq_true rfl) kw_501 rfl rfl rfl dM_write_35 hw12 (fun H locs hI => ?_)
    refine lv_aload_n hx hb dM_write_38 rfl (lv_at hl 0 rfl) ?_
    obtain ⟨v13, hv13, hf⟩ := ob_ hf
    refine r_geti (i := 0) S hI fcM (Nat.le_of_ble_eq_true rfl) kw_501 dM_write_39 hv13 ?_
    refine lv_if_le (tgt := 47) hx hb dM_write_42 rfl (fun h14 => ?_) (fun h14 => ?_)
    · have hf := ip_ hf h14
      refine lv_aload_n hx hb dM_write_47 rfl (lv_at hl 0 rfl) ?_
      refine lv_iload_n hx hb dM_write_48 rfl (lv_at hl 1 rfl) ?_
      obtain ⟨q15, hq15, hf⟩ := ob_ hf
      refine r_ci (r_V (rest := []) (As := [.int x1]) S hl hI (kM_codeOf l G kA kL Λ ad w12 c0 x1 q15.1 q15.2 hq15) pkM_codeOf kw_575 ks_M_codeOf (fcM).1 (gd_some hq15).1 kw_573 ⟨rfl, rfl⟩ ⟨Nat.le_of_ble_eq_true rfl, Nat.le_of_ble_eq_true rfl⟩ rfl rfl (Nat.le_of_ble_eq_true rfl) ⟨Nat.zero_le _, Nat.zero_le _⟩ dM_write_49) hI (fun H locs hI => ?_)
      refine lv_istore hx hb (lv' := [(4, .int q15.2), (0, .ref (ad c0)), (1, .int x1), (2, .int x2), (3, .int x3)]) dM_write_52 hl (Nat.le_of_ble_eq_true rfl) rfl (fun ls hl => ?_)
      refine lv_iload hx hb dM_write_54 (lv_at hl 0 rfl) ?_
      refine lv_iconst hx hb dM_write_56 kI_2 ?_
      refine lv_icmp_ge (tgt := 77) hx hb dM_write_57 rfl (fun h16 => ?_) (fun h16 => ?_)
      · have hf := ip_ hf h16
        refine lv_iconst hx hb dM_write_77 kI_0 ?_
        exact bk78 q15.1 c0 x1 x2 x3 q15.2 0 _ _ _ (lv_sub hl [1, 2, 3, 4, 0] rfl) hI hf
      · have hf := in_ hf h16
        refine lv_aload_n hx hb dM_write_60 rfl (lv_at hl 1 rfl) ?_
        obtain ⟨r17, hr17, hf⟩ := ob_ hf
        refine r_getr (i := 1) S hI fcM (Nat.le_of_ble_eq_true rfl) kw_502 dM_write_61 hr17 ?_
        refine lv_iload hx hb dM_write_64 (lv_at hl 0 rfl) ?_
        refine lv_iload_n hx hb dM_write_66 rfl (lv_at hl 2 rfl) ?_
        obtain ⟨q18, hq18, hf⟩ := ob_ hf
        refine r_ci (r_S (rest := [.ref (ad r17)]) (As := [.int q15.2, .int x1]) S hl hI (kM_place l G kA kL Λ ad q15.1 q15.2 x1 q18.1 q18.2 hq18) pkM_place kw_492 kw_491 ⟨rfl, rfl⟩ ⟨Nat.le_of_ble_eq_true rfl, Nat.le_of_ble_eq_true rfl⟩ rfl rfl (Nat.le_of_ble_eq_true rfl) ⟨Nat.zero_le _, Nat.zero_le _⟩ dM_write_67) hI (fun H locs hI => ?_)
        refine lv_bipush hx hb dM_write_70 kB_10 ?_
        refine lv_iadd hx hb dM_write_72 ?_
        obtain ⟨v19, hv19, hf⟩ := ob_ hf
        refine r_ald S hI dM_write_73 hv19 ?_
        refine lv_goto (tgt := 78) hx hb dM_write_74 rfl ?_
        exact bk78 q18.1 c0 x1 x2 x3 q15.2 v19 _ _ _ (lv_sub hl [1, 2, 3, 4, 0] rfl) hI hf
    · have hf := in_ hf h14
      refine lv_iconst hx hb dM_write_45 kI_0 ?_
      exact hret _ _ _ _ _ _ hI hf dM_write_46
  have bk19 : ∀ (w : Wo) (c0 : Nat) (x1 : Int32) (x2 : Int32) (x3 : Int32) (t0 : Nat) (H : Heap) (locs : List Loc) (ls : Array Slot), lv_has ls 6 [(0, .ref (ad c0)), (1, .int x1), (2, .int x2), (3, .int x3)] → Iv (Aa Λ ad) G kA kL Λ ad w s H locs → bM_write_19 Λ w c0 x1 x2 x3 t0 = some (w1, r) → W p l e rmM_write s m args below meth c H locs 0 0 Q (F0 m 19 ls [.ref (ad t0)]) := by
    intro w c0 x1 x2 x3 t0 H locs ls hl hI hf
    unfold bM_write_19 at hf
    refine lv_iconst hx hb dM_write_19 kI_1 ?_
    refine lv_goto (tgt := 35) hx hb dM_write_20 rfl ?_
    exact bk35 w c0 x1 x2 x3 t0 1 _ _ _ (lv_sub hl [0, 1, 2, 3] rfl) hI hf
  unfold fM_write at hf
  have hf := (gd_some hf).2
  refine lv_aload_n hx hb dM_write_0 rfl (lv_at hl 0 rfl) ?_
  refine lv_iload_n hx hb dM_write_1 rfl (lv_at hl 1 rfl) ?_
  refine lv_bipush hx hb dM_write_2 kB_64 ?_
  obtain ⟨q20, hq20, hf⟩ := ob_ hf
  refine r_ci (r_S (rest := [.ref (ad c0)]) (As := [.int x1, .int 64]) S hl hI (kM_in l G kA kL Λ ad w x1 64 q20.1 q20.2 hq20) pkM_in kw_571 kw_570 ⟨rfl, rfl⟩ ⟨Nat.le_of_ble_eq_true rfl, Nat.le_of_ble_eq_true rfl⟩ rfl rfl (Nat.le_of_ble_eq_true rfl) ⟨Nat.zero_le _, Nat.zero_le _⟩ dM_write_4) hI (fun H locs hI => ?_)
  refine lv_if_eq (tgt := 19) hx hb dM_write_7 rfl (fun h21 => ?_) (fun h21 => ?_)
  · have hf := ip_ hf h21
    exact bk19 q20.1 c0 x1 x2 x3 c0 _ _ _ (lv_sub hl [0, 1, 2, 3] rfl) hI hf
  · have hf := in_ hf h21
    refine lv_iload_n hx hb dM_write_10 rfl (lv_at hl 2 rfl) ?_
    refine lv_bipush hx hb dM_write_11 kB_8 ?_
    obtain ⟨q22, hq22, hf⟩ := ob_ hf
    refine r_ci (r_S (rest := [.ref (ad c0)]) (As := [.int x2, .int 8]) S hl hI (kM_in l G kA kL Λ ad q20.1 x2 8 q22.1 q22.2 hq22) pkM_in kw_571 kw_570 ⟨rfl, rfl⟩ ⟨Nat.le_of_ble_eq_true rfl, Nat.le_of_ble_eq_true rfl⟩ rfl rfl (Nat.le_of_ble_eq_true rfl) ⟨Nat.zero_le _, Nat.zero_le _⟩ dM_write_13) hI (fun H locs hI => ?_)
    refine lv_if_ne (tgt := 23) hx hb dM_write_16 rfl (fun h23 => ?_) (fun h23 => ?_)
    · have hf := in_ hf h23
      refine lv_aload_n hx hb dM_write_23 rfl (lv_at hl 0 rfl) ?_
      obtain ⟨v24, hv24, hf⟩ := ob_ hf
      refine r_geti (i := 6) S hI fcM (Nat.le_of_ble_eq_true rfl) kw_507 dM_write_24 hv24 ?_
      refine lv_if_eq (tgt := 34) hx hb dM_write_27 rfl (fun h25 => ?_) (fun h25 => ?_)
      · have hf := ip_ hf h25
        refine lv_iconst hx hb dM_write_34 kI_0 ?_
        exact bk35 q22.1 c0 x1 x2 x3 c0 0 _ _ _ (lv_sub hl [0, 1, 2, 3] rfl) hI hf
      · have hf := in_ hf h25
        refine lv_iconst hx hb dM_write_30 kI_2 ?_
        refine lv_goto (tgt := 35) hx hb dM_write_31 rfl ?_
        exact bk35 q22.1 c0 x1 x2 x3 c0 2 _ _ _ (lv_sub hl [0, 1, 2, 3] rfl) hI hf
    · have hf := ip_ hf h23
      exact bk19 q22.1 c0 x1 x2 x3 c0 _ _ _ (lv_sub hl [0, 1, 2, 3] rfl) hI hf

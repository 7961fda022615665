/-! written by walk.py: the functions that the bytecode computes, and the walks -/
/-- GuardVolume.sumOf([II)I -/
abbrev rmG_sumOf : Room := { frames := 0, cells := 0, slots := 0, locals := 0 }
theorem pkG_sumOf : Pk yG_sumOf cG_sumOf 4 (some .int) 2 := ⟨kw_33, kw_1, by decide +kernel, by decide +kernel, by decide +kernel⟩
def bG_sumOf_31 (Λ : La) (K4 : Wo → Nat → Int32 → Int32 → Int32 → Option (Wo × Int32)) (w : Wo) (c0 : Nat) (x1 : Int32) (x2 : Int32) (x3 : Int32) : Option (Wo × Int32) := K4 w c0 x1 x2 (x3 + 1)
def bG_sumOf_4s (Λ : La) (K4 : Wo → Nat → Int32 → Int32 → Int32 → Option (Wo × Int32)) (w : Wo) (c0 : Nat) (x1 : Int32) (x2 : Int32) (x3 : Int32) : Option (Wo × Int32) := if 11 ≤ x3 then (some (w, x2)) else (if x3 = 8 then (bG_sumOf_31 Λ K4 w c0 x1 x2 x3) else ((ld Λ w c0 (x1 + x3)).bind fun v3 => bG_sumOf_31 Λ K4 w c0 x1 (((x2 <<< (5 &&& 31)) ||| (ush x2 27)) + v3) x3))
def bG_sumOf_4 (Λ : La) : Nat → Wo → Nat → Int32 → Int32 → Int32 → Option (Wo × Int32)
  | 0 => fun _ _ _ _ _ => none
  | n + 1 => bG_sumOf_4s Λ (bG_sumOf_4 Λ n)
def fG_sumOf (Λ : La) (w : Wo) (c0 : Nat) (x1 : Int32) : Option (Wo × Int32) := bG_sumOf_4 Λ 1000 w c0 x1 0 0
set_option maxHeartbeats 4000000 in
set_option maxRecDepth 100000 in
theorem kG_sumOf (l : Launch) (G : va_G) (kA kL : ClassId) (Λ : La) (ad : Nat → Nat) (w : Wo) (c0 : Nat) (x1 : Int32) (w1 : Wo) (r : Int32) (hf : fG_sumOf Λ w c0 x1 = some (w1, r)) : Mi l yG_sumOf cG_sumOf 4 (some .int) rmG_sumOf G kA kL Λ ad [.ref (ad c0), .int x1] w w1 r := by
  refine Mi.of (by decide +kernel) (Nat.le_of_ble_eq_true rfl) ?_
  intro p e s m args below meth c Q ls S hret hl hI
  have S : CallFix p m c cG_sumOf 4 s args (.code yG_sumOf cG_sumOf 4 (some .int) :: gW) "GuardVolume" := S
  have hl : lv_has ls 4 [(0, .ref (ad c0)), (1, .int x1)] := hl
  have hx := S.1
  have hb := S.2.1
  have bk31 : ∀ (K4 : Wo → Nat → Int32 → Int32 → Int32 → Option (Wo × Int32)), (∀ (w : Wo) (c0 : Nat) (x1 : Int32) (x2 : Int32) (x3 : Int32) (H : Heap) (locs : List Loc) (ls : Array Slot), lv_has ls 4 [(0, .ref (ad c0)), (1, .int x1), (2, .int x2), (3, .int x3)] → Iv (Aa Λ ad) G kA kL Λ ad w s H locs → K4 w c0 x1 x2 x3 = some (w1, r) → W p l e rmG_sumOf s m args below meth c H locs 0 0 Q (F0 m 4 ls [])) → ∀ (w : Wo) (c0 : Nat) (x1 : Int32) (x2 : Int32) (x3 : Int32) (H : Heap) (locs : List Loc) (ls : Array Slot), lv_has ls 4 [(0, .ref (ad c0)), (1, .int x1), (2, .int x2), (3, .int x3)] → Iv (Aa Λ ad) G kA kL Λ ad w s H locs → bG_sumOf_31 Λ K4 w c0 x1 x2 x3 = some (w1, r) → W p l e rmG_sumOf s m args below meth c H locs 0 0 Q (F0 m 31 ls []) := by
    intro K4 hK4 w c0 x1 x2 x3 H locs ls hl hI hf
    unfold bG_sumOf_31 at hf
    refine lv_iinc hx hb (lv' := [(3, .int (x3 + 1)), (0, .ref (ad c0)), (1, .int x1), (2, .int x2)]) (k := 3) dG_sumOf_31 hl rfl (kN_1 _) (Nat.le_of_ble_eq_true rfl) rfl (fun ls hl => ?_)
    refine lv_goto (tgt := 4) hx hb dG_sumOf_34 rfl ?_
    exact hK4 w c0 x1 x2 (x3 + 1) _ _ _ (lv_sub hl [1, 2, 3, 0] rfl) hI hf
  have bk4 : ∀ (K4 : Wo → Nat → Int32 → Int32 → Int32 → Option (Wo × Int32)), (∀ (w : Wo) (c0 : Nat) (x1 : Int32) (x2 : Int32) (x3 : Int32) (H : Heap) (locs : List Loc) (ls : Array Slot), lv_has ls 4 [(0, .ref (ad c0)), (1, .int x1), (2, .int x2), (3, .int x3)] → Iv (Aa Λ ad) G kA kL Λ ad w s H locs → K4 w c0 x1 x2 x3 = some (w1, r) → W p l e rmG_sumOf s m args below meth c H locs 0 0 Q (F0 m 4 ls [])) → ∀ (w : Wo) (c0 : Nat) (x1 : Int32) (x2 : Int32) (x3 : Int32) (H : Heap) (locs : List Loc) (ls : Array Slot), lv_has ls 4 [(0, .ref (ad c0)), (1, .int x1), (2, .int x2), (3, .int x3)] → Iv (Aa Λ ad) G kA kL Λ ad w s H locs → bG_sumOf_4s Λ K4 w c0 x1 x2 x3 = some (w1, r) → W p l e rmG_sumOf s m args below meth c H locs 0 0 Q (F0 m 4 ls []) := by
    intro K4 hK4 w c0 x1 x2 x3 H locs ls hl hI hf
    unfold bG_sumOf_4s at hf
    refine lv_iload_n hx hb dG_sumOf_4 rfl (lv_at hl 3 rfl) ?_
    refine lv_bipush hx hb dG_sumOf_5 kB_11 ?_
    refine lv_icmp_ge (tgt := 37) hx hb dG_sumOf_7 rfl (fun h1 => ?_) (fun h1 => ?_)
    · have hf := ip_ hf h1
      refine lv_iload_n hx hb dG_sumOf_37 rfl (lv_at hl 2 rfl) ?_
      exact hret _ _ _ _ _ _ hI hf dG_sumOf_38
    · have hf := in_ hf h1
      refine lv_iload_n hx hb dG_sumOf_10 rfl (lv_at hl 3 rfl) ?_
      refine lv_bipush hx hb dG_sumOf_11 kB_8 ?_
      refine lv_icmp_eq (tgt := 31) hx hb dG_sumOf_13 rfl (fun h2 => ?_) (fun h2 => ?_)
      · have hf := ip_ hf h2
        exact bk31 K4 hK4 w c0 x1 x2 x3 _ _ _ (lv_sub hl [0, 1, 2, 3] rfl) hI hf
      · have hf := in_ hf h2
        refine lv_iload_n hx hb dG_sumOf_16 rfl (lv_at hl 2 rfl) ?_
        refine lv_iconst hx hb dG_sumOf_17 kI_5 ?_
        refine lv_ishl hx hb dG_sumOf_18 ?_
        refine lv_iload_n hx hb dG_sumOf_19 rfl (lv_at hl 2 rfl) ?_
        refine lv_bipush hx hb dG_sumOf_20 kB_27 ?_
        refine lv_iushr hx hb dG_sumOf_22 (ush_ok _ _) ?_
        refine lv_ior hx hb dG_sumOf_23 ?_
        refine lv_aload_n hx hb dG_sumOf_24 rfl (lv_at hl 0 rfl) ?_
        refine W.eq (g2 := F0 m 25 ls _) rfl ?_
        refine lv_iload_n hx hb dG_sumOf_25 rfl (lv_at hl 1 rfl) ?_
        refine lv_iload_n hx hb dG_sumOf_26 rfl (lv_at hl 3 rfl) ?_
        refine lv_iadd hx hb dG_sumOf_27 ?_
        obtain ⟨v3, hv3, hf⟩ := ob_ hf
        refine r_ald S hI dG_sumOf_28 hv3 ?_
        refine lv_iadd hx hb dG_sumOf_29 ?_
        refine lv_istore_n hx hb (lv' := [(2, .int (((x2 <<< (5 &&& 31)) ||| (ush x2 27)) + v3)), (0, .ref (ad c0)), (1, .int x1), (3, .int x3)]) dG_sumOf_30 rfl hl (Nat.le_of_ble_eq_true rfl) rfl (fun ls hl => ?_)
        exact bk31 K4 hK4 w c0 x1 (((x2 <<< (5 &&& 31)) ||| (ush x2 27)) + v3) x3 _ _ _ (lv_sub hl [1, 2, 0, 3] rfl) hI hf
  have lp4 : ∀ (n : Nat), ∀ (w : Wo) (c0 : Nat) (x1 : Int32) (x2 : Int32) (x3 : Int32) (H : Heap) (locs : List Loc) (ls : Array Slot), lv_has ls 4 [(0, .ref (ad c0)), (1, .int x1), (2, .int x2), (3, .int x3)] → Iv (Aa Λ ad) G kA kL Λ ad w s H locs → bG_sumOf_4 Λ n w c0 x1 x2 x3 = some (w1, r) → W p l e rmG_sumOf s m args below meth c H locs 0 0 Q (F0 m 4 ls []) := by
    intro n
    induction n with
    | zero =>
      intro w c0 x1 x2 x3 H locs ls hl hI hf
      have hf : (none : Option (Wo × Int32)) = some (w1, r) := hf
      cases hf
    | succ n ih =>
      intro w c0 x1 x2 x3 H locs ls hl hI hf
      exact bk4 (bG_sumOf_4 Λ n) ih w c0 x1 x2 x3 H locs ls hl hI hf
  unfold fG_sumOf at hf
  refine lv_iconst hx hb dG_sumOf_0 kI_0 ?_
  refine lv_istore_n hx hb (lv' := [(2, .int 0), (0, .ref (ad c0)), (1, .int x1)]) dG_sumOf_1 rfl hl (Nat.le_of_ble_eq_true rfl) rfl (fun ls hl => ?_)
  refine lv_iconst hx hb dG_sumOf_2 kI_0 ?_
  refine lv_istore_n hx hb (lv' := [(3, .int 0), (2, .int 0), (0, .ref (ad c0)), (1, .int x1)]) dG_sumOf_3 rfl hl (Nat.le_of_ble_eq_true rfl) rfl (fun ls hl => ?_)
  exact lp4 1000 w c0 x1 0 0 _ _ _ (lv_sub hl [2, 3, 1, 0] rfl) hI hf
/-- GuardVolume.code()I -/
abbrev rmG_code : Room := { frames := 0, cells := 0, slots := 0, locals := 0 }
theorem pkG_code : Pk yG_code cG_code 1 (some .int) 0 := ⟨kw_150, kw_1, by decide +kernel, by decide +kernel, by decide +kernel⟩
def fG_code (Λ : La) (w : Wo) (c0 : Nat) : Option (Wo × Int32) := gd (isC Λ c0 4) ((gi Λ w c0 4 6).bind fun v1 => some (w, v1))
set_option maxHeartbeats 4000000 in
set_option maxRecDepth 100000 in
theorem kG_code (l : Launch) (G : va_G) (kA kL : ClassId) (Λ : La) (ad : Nat → Nat) (w : Wo) (c0 : Nat) (w1 : Wo) (r : Int32) (hf : fG_code Λ w c0 = some (w1, r)) : Mi l yG_code cG_code 1 (some .int) rmG_code G kA kL Λ ad [.ref (ad c0)] w w1 r := by
  refine Mi.of (by decide +kernel) (Nat.le_of_ble_eq_true rfl) ?_
  intro p e s m args below meth c Q ls S hret hl hI
  have S : CallFix p m c cG_code 1 s args (.code yG_code cG_code 1 (some .int) :: gW) "GuardVolume" := S
  have hl : lv_has ls 1 [(0, .ref (ad c0))] := hl
  have hx := S.1
  have hb := S.2.1
  unfold fG_code at hf
  have hf := (gd_some hf).2
  refine lv_aload_n hx hb dG_code_0 rfl (lv_at hl 0 rfl) ?_
  obtain ⟨v1, hv1, hf⟩ := ob_ hf
  refine r_geti (i := 6) S hI fcG (Nat.le_of_ble_eq_true rfl) kw_119 dG_code_1 hv1 ?_
  exact hret _ _ _ _ _ _ hI hf dG_code_4
/-- GuardVolume.findings(Z)I -/
abbrev rmG_findings : Room := { frames := 0, cells := 0, slots := 0, locals := 0 }
theorem pkG_findings : Pk yG_findings cG_findings 3 (some .int) 1 := ⟨kw_154, kw_1, by decide +kernel, by decide +kernel, by decide +kernel⟩
def fG_findings (Λ : La) (w : Wo) (c0 : Nat) (x1 : Int32) : Option (Wo × Int32) := gd (isC Λ c0 4) ((gr Λ c0 4 4).bind fun r1 => (gi Λ w r1 1 1).bind fun v2 => if x1 = 0 then (some (w, v2)) else ((gr Λ c0 4 4).bind fun r4 => (pf Λ w r4 1 1 0).bind fun w5 => some (w5, v2)))
set_option maxHeartbeats 4000000 in
set_option maxRecDepth 100000 in
theorem kG_findings (l : Launch) (G : va_G) (kA kL : ClassId) (Λ : La) (ad : Nat → Nat) (w : Wo) (c0 : Nat) (x1 : Int32) (w1 : Wo) (r : Int32) (hf : fG_findings Λ w c0 x1 = some (w1, r)) : Mi l yG_findings cG_findings 3 (some .int) rmG_findings G kA kL Λ ad [.ref (ad c0), .int x1] w w1 r := by
  refine Mi.of (by decide +kernel) (Nat.le_of_ble_eq_true rfl) ?_
  intro p e s m args below meth c Q ls S hret hl hI
  have S : CallFix p m c cG_findings 3 s args (.code yG_findings cG_findings 3 (some .int) :: gW) "GuardVolume" := S
  have hl : lv_has ls 3 [(0, .ref (ad c0)), (1, .int x1)] := hl
  have hx := S.1
  have hb := S.2.1
  unfold fG_findings at hf
  have hf := (gd_some hf).2
  refine lv_aload_n hx hb dG_findings_0 rfl (lv_at hl 0 rfl) ?_
  obtain ⟨r1, hr1, hf⟩ := ob_ hf
  refine r_getr (i := 4) S hI fcG (Nat.le_of_ble_eq_true rfl) kw_117 dG_findings_1 hr1 ?_
  obtain ⟨v2, hv2, hf⟩ := ob_ hf
  refine r_getiN (i := 1) S hI fcF (Nat.le_of_ble_eq_true rfl) kn_103 dG_findings_4 hv2 ?_
  refine lv_istore_n hx hb (lv' := [(2, .int v2), (0, .ref (ad c0)), (1, .int x1)]) dG_findings_7 rfl hl (Nat.le_of_ble_eq_true rfl) rfl (fun ls hl => ?_)
  refine lv_iload_n hx hb dG_findings_8 rfl (lv_at hl 2 rfl) ?_
  refine lv_if_eq (tgt := 20) hx hb dG_findings_9 rfl (fun h3 => ?_) (fun h3 => ?_)
  · have hf := ip_ hf h3
    refine lv_iload_n hx hb dG_findings_20 rfl (lv_at hl 0 rfl) ?_
    exact hret _ _ _ _ _ _ hI hf dG_findings_21
  · have hf := in_ hf h3
    refine lv_aload_n hx hb dG_findings_12 rfl (lv_at hl 1 rfl) ?_
    obtain ⟨r4, hr4, hf⟩ := ob_ hf
    refine r_getr (i := 4) S hI fcG (Nat.le_of_ble_eq_true rfl) kw_117 dG_findings_13 hr4 ?_
    refine lv_iconst hx hb dG_findings_16 kI_0 ?_
    obtain ⟨w5, hw5, hf⟩ := ob_ hf
    refine r_putN (i := 1) S hI fcF (Nat.le_of_ble_eq_true rfl) kn_103 rfl rfl rfl dG_findings_17 hw5 (fun H locs hI => ?_)
    refine lv_iload_n hx hb dG_findings_20 rfl (lv_at hl 0 rfl) ?_
    exact hret _ _ _ _ _ _ hI hf dG_findings_21
/-- GuardVolume.isBelow(II)Z -/
abbrev rmG_isBelow : Room := { frames := 0, cells := 0, slots := 0, locals := 0 }
theorem pkG_isBelow : Pk yG_isBelow cG_isBelow 2 (some .boolean) 2 := ⟨kw_167, kw_1, by decide +kernel, by decide +kernel, by decide +kernel⟩
def fG_isBelow (Λ : La) (w : Wo) (x0 : Int32) (x1 : Int32) : Option (Wo × Int32) := if x0 < 0 then (zr w 0) else (if x1 ≤ x0 then (zr w 0) else (zr w 1))
set_option maxHeartbeats 4000000 in
set_option maxRecDepth 100000 in
theorem kG_isBelow (l : Launch) (G : va_G) (kA kL : ClassId) (Λ : La) (ad : Nat → Nat) (w : Wo) (x0 : Int32) (x1 : Int32) (w1 : Wo) (r : Int32) (hf : fG_isBelow Λ w x0 x1 = some (w1, r)) : Mi l yG_isBelow cG_isBelow 2 (some .boolean) rmG_isBelow G kA kL Λ ad [.int x0, .int x1] w w1 r := by
  refine Mz.of (by decide +kernel) (Nat.le_of_ble_eq_true rfl) ?_
  intro p e s m args below meth c Q ls S hret hl hI
  have S : CallFix p m c cG_isBelow 2 s args (.code yG_isBelow cG_isBelow 2 (some .boolean) :: gW) "GuardVolume" := S
  have hl : lv_has ls 2 [(0, .int x0), (1, .int x1)] := hl
  have hx := S.1
  have hb := S.2.1
  unfold fG_isBelow at hf
  refine lv_iload_n hx hb dG_isBelow_0 rfl (lv_at hl 0 rfl) ?_
  refine lv_if_lt (tgt := 13) hx hb dG_isBelow_1 rfl (fun h1 => ?_) (fun h1 => ?_)
  · have hf := ip_ hf h1
    refine lv_iconst hx hb dG_isBelow_13 kI_0 ?_
    exact hret _ _ _ _ _ _ hI hf dG_isBelow_14
  · have hf := in_ hf h1
    refine lv_iload_n hx hb dG_isBelow_4 rfl (lv_at hl 0 rfl) ?_
    refine lv_iload_n hx hb dG_isBelow_5 rfl (lv_at hl 1 rfl) ?_
    refine lv_icmp_ge (tgt := 13) hx hb dG_isBelow_6 rfl (fun h2 => ?_) (fun h2 => ?_)
    · have hf := ip_ hf h2
      refine lv_iconst hx hb dG_isBelow_13 kI_0 ?_
      exact hret _ _ _ _ _ _ hI hf dG_isBelow_14
    · have hf := in_ hf h2
      refine lv_iconst hx hb dG_isBelow_9 kI_1 ?_
      refine lv_goto (tgt := 14) hx hb dG_isBelow_10 rfl ?_
      exact hret _ _ _ _ _ _ hI hf dG_isBelow_14
/-- GuardVolume.driveOf(I)LGuardVolume$Drive; -/
abbrev rmG_driveOf : Room := { frames := 0, cells := 0, slots := 0, locals := 0 }
theorem pkG_driveOf : Pk yG_driveOf cG_driveOf 2 (some (.object "GuardVolume$Drive")) 1 := ⟨kw_258, kw_1, by decide +kernel, by decide +kernel, by decide +kernel⟩
def fG_driveOf (Λ : La) (w : Wo) (c0 : Nat) (x1 : Int32) : Option (Wo × Nat) := gd (isC Λ c0 4) (if x1 = 0 then ((gr Λ c0 4 0).bind fun r3 => some (w, r3)) else ((gr Λ c0 4 1).bind fun r2 => some (w, r2)))
set_option maxHeartbeats 4000000 in
set_option maxRecDepth 100000 in
theorem kG_driveOf (l : Launch) (G : va_G) (kA kL : ClassId) (Λ : La) (ad : Nat → Nat) (w : Wo) (c0 : Nat) (x1 : Int32) (w1 : Wo) (r : Nat) (hf : fG_driveOf Λ w c0 x1 = some (w1, r)) : Mr l yG_driveOf cG_driveOf 2 (some (.object "GuardVolume$Drive")) rmG_driveOf G kA kL Λ ad [.ref (ad c0), .int x1] w w1 r := by
  refine Mr.of (by decide +kernel) (Nat.le_of_ble_eq_true rfl) ?_
  intro p e s m args below meth c Q ls S hret hl hI
  have S : CallFix p m c cG_driveOf 2 s args (.code yG_driveOf cG_driveOf 2 (some (.object "GuardVolume$Drive")) :: gW) "GuardVolume" := S
  have hl : lv_has ls 2 [(0, .ref (ad c0)), (1, .int x1)] := hl
  have hx := S.1
  have hb := S.2.1
  unfold fG_driveOf at hf
  have hf := (gd_some hf).2
  refine lv_iload_n hx hb dG_driveOf_0 rfl (lv_at hl 1 rfl) ?_
  refine lv_if_ne (tgt := 11) hx hb dG_driveOf_1 rfl (fun h1 => ?_) (fun h1 => ?_)
  · have hf := in_ hf h1
    refine lv_aload_n hx hb dG_driveOf_11 rfl (lv_at hl 0 rfl) ?_
    obtain ⟨r2, hr2, hf⟩ := ob_ hf
    refine r_getr (i := 1) S hI fcG (Nat.le_of_ble_eq_true rfl) kw_114 dG_driveOf_12 hr2 ?_
    exact hret _ _ _ _ _ _ hI hf dG_driveOf_15
  · have hf := ip_ hf h1
    refine lv_aload_n hx hb dG_driveOf_4 rfl (lv_at hl 0 rfl) ?_
    obtain ⟨r3, hr3, hf⟩ := ob_ hf
    refine r_getr (i := 0) S hI fcG (Nat.le_of_ble_eq_true rfl) kw_113 dG_driveOf_5 hr3 ?_
    refine lv_goto (tgt := 15) hx hb dG_driveOf_8 rfl ?_
    exact hret _ _ _ _ _ _ hI hf dG_driveOf_15
/-- GuardVolume$Drive.at(II)I -/
abbrev rmD_at : Room := { frames := 0, cells := 0, slots := 0, locals := 0 }
theorem pkD_at : Pk yD_at cD_at 3 (some .int) 2 := ⟨kw_262, kw_2, by decide +kernel, by decide +kernel, by decide +kernel⟩
def fD_at (Λ : La) (w : Wo) (c0 : Nat) (x1 : Int32) (x2 : Int32) : Option (Wo × Int32) := gd (isC Λ c0 0) ((gr Λ c0 0 0).bind fun r1 => (ld Λ w r1 ((x1 * 11) + x2)).bind fun v2 => some (w, v2))
set_option maxHeartbeats 4000000 in
set_option maxRecDepth 100000 in
theorem kD_at (l : Launch) (G : va_G) (kA kL : ClassId) (Λ : La) (ad : Nat → Nat) (w : Wo) (c0 : Nat) (x1 : Int32) (x2 : Int32) (w1 : Wo) (r : Int32) (hf : fD_at Λ w c0 x1 x2 = some (w1, r)) : Mi l yD_at cD_at 3 (some .int) rmD_at G kA kL Λ ad [.ref (ad c0), .int x1, .int x2] w w1 r := by
  refine Mi.of (by decide +kernel) (Nat.le_of_ble_eq_true rfl) ?_
  intro p e s m args below meth c Q ls S hret hl hI
  have S : CallFix p m c cD_at 3 s args (.code yD_at cD_at 3 (some .int) :: gW) "GuardVolume$Drive" := S
  have hl : lv_has ls 3 [(0, .ref (ad c0)), (1, .int x1), (2, .int x2)] := hl
  have hx := S.1
  have hb := S.2.1
  unfold fD_at at hf
  have hf := (gd_some hf).2
  refine lv_aload_n hx hb dD_at_0 rfl (lv_at hl 0 rfl) ?_
  obtain ⟨r1, hr1, hf⟩ := ob_ hf
  refine r_getr (i := 0) S hI fcD (Nat.le_of_ble_eq_true rfl) kw_37 dD_at_1 hr1 ?_
  refine lv_iload_n hx hb dD_at_4 rfl (lv_at hl 1 rfl) ?_
  refine lv_bipush hx hb dD_at_5 kB_11 ?_
  refine lv_imul hx hb dD_at_7 ?_
  refine lv_iload_n hx hb dD_at_8 rfl (lv_at hl 2 rfl) ?_
  refine lv_iadd hx hb dD_at_9 ?_
  obtain ⟨v2, hv2, hf⟩ := ob_ hf
  refine r_ald S hI dD_at_10 hv2 ?_
  exact hret _ _ _ _ _ _ hI hf dD_at_11
/-- GuardVolume.isPageRight(II)Z -/
abbrev rmG_isPageRight : Room := { frames := 1, cells := 0, slots := 0, locals := 23 }
theorem pkG_isPageRight : Pk yG_isPageRight cG_isPageRight 5 (some .boolean) 2 := ⟨kw_275, kw_1, by decide +kernel, by decide +kernel, by decide +kernel⟩
def fG_isPageRight (Λ : La) (w : Wo) (c0 : Nat) (x1 : Int32) (x2 : Int32) : Option (Wo × Int32) := gd (isC Λ c0 4) ((fG_driveOf Λ w c0 x1).bind fun q1 => (fD_at Λ q1.1 q1.2 (64 + x2) 8).bind fun q2 => (gr Λ q1.2 0 0).bind fun r3 => (fG_sumOf Λ q2.1 r3 ((64 + x2) * 11)).bind fun q4 => if q2.2 = q4.2 then ((fD_at Λ q4.1 q1.2 (64 + x2) 9).bind fun q6 => if q6.2 = (64 + x2) then ((fD_at Λ q6.1 q1.2 (64 + x2) 10).bind fun q8 => (gr Λ c0 4 5).bind fun r9 => (ld Λ q8.1 r9 ((x1 * 8) + x2)).bind fun v10 => if q8.2 = v10 then (zr q8.1 1) else (zr q8.1 0)) else (zr q6.1 0)) else (zr q4.1 0))
set_option maxHeartbeats 4000000 in
set_option maxRecDepth 100000 in
theorem kG_isPageRight (l : Launch) (G : va_G) (kA kL : ClassId) (Λ : La) (ad : Nat → Nat) (w : Wo) (c0 : Nat) (x1 : Int32) (x2 : Int32) (w1 : Wo) (r : Int32) (hf : fG_isPageRight Λ w c0 x1 x2 = some (w1, r)) : Mi l yG_isPageRight cG_isPageRight 5 (some .boolean) rmG_isPageRight G kA kL Λ ad [.ref (ad c0), .int x1, .int x2] w w1 r := by
  refine Mz.of (by decide +kernel) (Nat.le_of_ble_eq_true rfl) ?_
  intro p e s m args below meth c Q ls S hret hl hI
  have S : CallFix p m c cG_isPageRight 5 s args (.code yG_isPageRight cG_isPageRight 5 (some .boolean) :: gW) "GuardVolume" := S
  have hl : lv_has ls 5 [(0, .ref (ad c0)), (1, .int x1), (2, .int x2)] := hl
  have hx := S.1
  have hb := S.2.1
  unfold fG_isPageRight at hf
  have hf := (gd_some hf).2
  refine lv_aload_n hx hb dG_isPageRight_0 rfl (lv_at hl 0 rfl) ?_
  refine lv_iload_n hx hb dG_isPageRight_1 rfl (lv_at hl 1 rfl) ?_
  obtain ⟨q1, hq1, hf⟩ := ob_ hf
  refine r_cr (r_V (rest := []) (As := [.int x1]) S hl hI (kG_driveOf l G kA kL Λ ad w c0 x1 q1.1 q1.2 hq1) pkG_driveOf kw_257 ks_G_driveOf (fcG).1 (gd_some hq1).1 kw_255 ⟨rfl, rfl⟩ ⟨Nat.le_of_ble_eq_true rfl, Nat.le_of_ble_eq_true rfl⟩ rfl rfl (Nat.le_of_ble_eq_true rfl) ⟨Nat.zero_le _, Nat.zero_le _⟩ dG_isPageRight_2) hI (fun H locs hI => ?_)
  refine lv_astore_n hx hb (lv' := [(3, .ref (ad q1.2)), (0, .ref (ad c0)), (1, .int x1), (2, .int x2)]) dG_isPageRight_5 rfl hl (Nat.le_of_ble_eq_true rfl) rfl (fun ls hl => ?_)
  refine lv_bipush hx hb dG_isPageRight_6 kB_64 ?_
  refine lv_iload_n hx hb dG_isPageRight_8 rfl (lv_at hl 3 rfl) ?_
  refine lv_iadd hx hb dG_isPageRight_9 ?_
  refine lv_istore hx hb (lv' := [(4, .int (64 + x2)), (3, .ref (ad q1.2)), (0, .ref (ad c0)), (1, .int x1), (2, .int x2)]) dG_isPageRight_10 hl (Nat.le_of_ble_eq_true rfl) rfl (fun ls hl => ?_)
  refine lv_aload_n hx hb dG_isPageRight_12 rfl (lv_at hl 1 rfl) ?_
  refine lv_iload hx hb dG_isPageRight_13 (lv_at hl 0 rfl) ?_
  refine lv_bipush hx hb dG_isPageRight_15 kB_8 ?_
  refine W.eq (g2 := F0 m 17 ls _) rfl ?_
  obtain ⟨q2, hq2, hf⟩ := ob_ hf
  refine r_ci (r_VN (rest := []) (As := [.int (64 + x2), .int 8]) S hl hI (kD_at l G kA kL Λ ad q1.1 q1.2 (64 + x2) 8 q2.1 q2.2 hq2) pkD_at kw_261 ks_D_at (fcD).1 (gd_some hq2).1 kn_259 ⟨rfl, rfl⟩ ⟨Nat.le_of_ble_eq_true rfl, Nat.le_of_ble_eq_true rfl⟩ rfl rfl (Nat.le_of_ble_eq_true rfl) ⟨Nat.zero_le _, Nat.zero_le _⟩ dG_isPageRight_17) hI (fun H locs hI => ?_)
  refine lv_aload_n hx hb dG_isPageRight_20 rfl (lv_at hl 1 rfl) ?_
  obtain ⟨r3, hr3, hf⟩ := ob_ hf
  refine r_getrN (i := 0) S hI fcD (Nat.le_of_ble_eq_true rfl) kn_38 dG_isPageRight_21 hr3 ?_
  refine lv_iload hx hb dG_isPageRight_24 (lv_at hl 0 rfl) ?_
  refine lv_bipush hx hb dG_isPageRight_26 kB_11 ?_
  refine lv_imul hx hb dG_isPageRight_28 ?_
  obtain ⟨q4, hq4, hf⟩ := ob_ hf
  refine r_ci (r_S (rest := [.int q2.2]) (As := [.ref (ad r3), .int ((64 + x2) * 11)]) S hl hI (kG_sumOf l G kA kL Λ ad q2.1 r3 ((64 + x2) * 11) q4.1 q4.2 hq4) pkG_sumOf kw_32 kw_263 ⟨rfl, rfl⟩ ⟨Nat.le_of_ble_eq_true rfl, Nat.le_of_ble_eq_true rfl⟩ rfl rfl (Nat.le_of_ble_eq_true rfl) ⟨Nat.zero_le _, Nat.zero_le _⟩ dG_isPageRight_29) hI (fun H locs hI => ?_)
  refine lv_icmp_ne (tgt := 74) hx hb dG_isPageRight_32 rfl (fun h5 => ?_) (fun h5 => ?_)
  · have hf := in_ hf h5
    refine lv_iconst hx hb dG_isPageRight_74 kI_0 ?_
    exact hret _ _ _ _ _ _ hI hf dG_isPageRight_75
  · have hf := ip_ hf h5
    refine lv_aload_n hx hb dG_isPageRight_35 rfl (lv_at hl 1 rfl) ?_
    refine lv_iload hx hb dG_isPageRight_36 (lv_at hl 0 rfl) ?_
    refine lv_bipush hx hb dG_isPageRight_38 kB_9 ?_
    obtain ⟨q6, hq6, hf⟩ := ob_ hf
    refine r_ci (r_VN (rest := []) (As := [.int (64 + x2), .int 9]) S hl hI (kD_at l G kA kL Λ ad q4.1 q1.2 (64 + x2) 9 q6.1 q6.2 hq6) pkD_at kw_261 ks_D_at (fcD).1 (gd_some hq6).1 kn_259 ⟨rfl, rfl⟩ ⟨Nat.le_of_ble_eq_true rfl, Nat.le_of_ble_eq_true rfl⟩ rfl rfl (Nat.le_of_ble_eq_true rfl) ⟨Nat.zero_le _, Nat.zero_le _⟩ dG_isPageRight_40) hI (fun H locs hI => ?_)
    refine lv_iload hx hb dG_isPageRight_43 (lv_at hl 0 rfl) ?_
    refine lv_icmp_ne (tgt := 74) hx hb dG_isPageRight_45 rfl (fun h7 => ?_) (fun h7 => ?_)
    · have hf := in_ hf h7
      refine lv_iconst hx hb dG_isPageRight_74 kI_0 ?_
      exact hret _ _ _ _ _ _ hI hf dG_isPageRight_75
    · have hf := ip_ hf h7
      refine lv_aload_n hx hb dG_isPageRight_48 rfl (lv_at hl 1 rfl) ?_
      refine lv_iload hx hb dG_isPageRight_49 (lv_at hl 0 rfl) ?_
      refine lv_bipush hx hb dG_isPageRight_51 kB_10 ?_
      obtain ⟨q8, hq8, hf⟩ := ob_ hf
      refine r_ci (r_VN (rest := []) (As := [.int (64 + x2), .int 10]) S hl hI (kD_at l G kA kL Λ ad q6.1 q1.2 (64 + x2) 10 q8.1 q8.2 hq8) pkD_at kw_261 ks_D_at (fcD).1 (gd_some hq8).1 kn_259 ⟨rfl, rfl⟩ ⟨Nat.le_of_ble_eq_true rfl, Nat.le_of_ble_eq_true rfl⟩ rfl rfl (Nat.le_of_ble_eq_true rfl) ⟨Nat.zero_le _, Nat.zero_le _⟩ dG_isPageRight_53) hI (fun H locs hI => ?_)
      refine lv_aload_n hx hb dG_isPageRight_56 rfl (lv_at hl 2 rfl) ?_
      obtain ⟨r9, hr9, hf⟩ := ob_ hf
      refine r_getr (i := 5) S hI fcG (Nat.le_of_ble_eq_true rfl) kw_118 dG_isPageRight_57 hr9 ?_
      refine lv_iload_n hx hb dG_isPageRight_60 rfl (lv_at hl 3 rfl) ?_
      refine lv_bipush hx hb dG_isPageRight_61 kB_8 ?_
      refine lv_imul hx hb dG_isPageRight_63 ?_
      refine lv_iload_n hx hb dG_isPageRight_64 rfl (lv_at hl 4 rfl) ?_
      refine lv_iadd hx hb dG_isPageRight_65 ?_
      obtain ⟨v10, hv10, hf⟩ := ob_ hf
      refine r_ald S hI dG_isPageRight_66 hv10 ?_
      refine lv_icmp_ne (tgt := 74) hx hb dG_isPageRight_67 rfl (fun h11 => ?_) (fun h11 => ?_)
      · have hf := in_ hf h11
        refine lv_iconst hx hb dG_isPageRight_74 kI_0 ?_
        exact hret _ _ _ _ _ _ hI hf dG_isPageRight_75
      · have hf := ip_ hf h11
        refine lv_iconst hx hb dG_isPageRight_70 kI_1 ?_
        refine lv_goto (tgt := 75) hx hb dG_isPageRight_71 rfl ?_
        exact hret _ _ _ _ _ _ hI hf dG_isPageRight_75
/-- GuardVolume.listDrive(II)I -/
abbrev rmG_listDrive : Room := { frames := 2, cells := 0, slots := 0, locals := 47 }
theorem pkG_listDrive : Pk yG_listDrive cG_listDrive 3 (some .int) 2 := ⟨kw_271, kw_1, by decide +kernel, by decide +kernel, by decide +kernel⟩
def fG_listDrive (Λ : La) (w : Wo) (c0 : Nat) (x1 : Int32) (x2 : Int32) : Option (Wo × Int32) := gd (isC Λ c0 4) ((fG_isPageRight Λ w c0 (1 - x1) x2).bind fun q1 => if q1.2 = 0 then ((fG_isPageRight Λ q1.1 c0 x1 x2).bind fun q3 => if q3.2 = 0 then (some (q3.1, (-1))) else (some (q3.1, x1))) else (some (q1.1, (1 - x1))))
set_option maxHeartbeats 4000000 in
set_option maxRecDepth 100000 in
theorem kG_listDrive (l : Launch) (G : va_G) (kA kL : ClassId) (Λ : La) (ad : Nat → Nat) (w : Wo) (c0 : Nat) (x1 : Int32) (x2 : Int32) (w1 : Wo) (r : Int32) (hf : fG_listDrive Λ w c0 x1 x2 = some (w1, r)) : Mi l yG_listDrive cG_listDrive 3 (some .int) rmG_listDrive G kA kL Λ ad [.ref (ad c0), .int x1, .int x2] w w1 r := by
  refine Mi.of (by decide +kernel) (Nat.le_of_ble_eq_true rfl) ?_
  intro p e s m args below meth c Q ls S hret hl hI
  have S : CallFix p m c cG_listDrive 3 s args (.code yG_listDrive cG_listDrive 3 (some .int) :: gW) "GuardVolume" := S
  have hl : lv_has ls 3 [(0, .ref (ad c0)), (1, .int x1), (2, .int x2)] := hl
  have hx := S.1
  have hb := S.2.1
  unfold fG_listDrive at hf
  have hf := (gd_some hf).2
  refine lv_aload_n hx hb dG_listDrive_0 rfl (lv_at hl 0 rfl) ?_
  refine lv_iconst hx hb dG_listDrive_1 kI_1 ?_
  refine lv_iload_n hx hb dG_listDrive_2 rfl (lv_at hl 1 rfl) ?_
  refine lv_isub hx hb dG_listDrive_3 ?_
  refine lv_iload_n hx hb dG_listDrive_4 rfl (lv_at hl 2 rfl) ?_
  obtain ⟨q1, hq1, hf⟩ := ob_ hf
  refine r_ci (r_V (rest := []) (As := [.int (1 - x1), .int x2]) S hl hI (kG_isPageRight l G kA kL Λ ad w c0 (1 - x1) x2 q1.1 q1.2 hq1) pkG_isPageRight kw_274 ks_G_isPageRight (fcG).1 (gd_some hq1).1 kw_272 ⟨rfl, rfl⟩ ⟨Nat.le_of_ble_eq_true rfl, Nat.le_of_ble_eq_true rfl⟩ rfl rfl (Nat.le_of_ble_eq_true rfl) ⟨Nat.zero_le _, Nat.zero_le _⟩ dG_listDrive_5) hI (fun H locs hI => ?_)
  refine lv_if_eq (tgt := 15) hx hb dG_listDrive_8 rfl (fun h2 => ?_) (fun h2 => ?_)
  · have hf := ip_ hf h2
    refine lv_aload_n hx hb dG_listDrive_15 rfl (lv_at hl 0 rfl) ?_
    refine lv_iload_n hx hb dG_listDrive_16 rfl (lv_at hl 1 rfl) ?_
    refine lv_iload_n hx hb dG_listDrive_17 rfl (lv_at hl 2 rfl) ?_
    obtain ⟨q3, hq3, hf⟩ := ob_ hf
    refine r_ci (r_V (rest := []) (As := [.int x1, .int x2]) S hl hI (kG_isPageRight l G kA kL Λ ad q1.1 c0 x1 x2 q3.1 q3.2 hq3) pkG_isPageRight kw_274 ks_G_isPageRight (fcG).1 (gd_some hq3).1 kw_272 ⟨rfl, rfl⟩ ⟨Nat.le_of_ble_eq_true rfl, Nat.le_of_ble_eq_true rfl⟩ rfl rfl (Nat.le_of_ble_eq_true rfl) ⟨Nat.zero_le _, Nat.zero_le _⟩ dG_listDrive_18) hI (fun H locs hI => ?_)
    refine lv_if_eq (tgt := 28) hx hb dG_listDrive_21 rfl (fun h4 => ?_) (fun h4 => ?_)
    · have hf := ip_ hf h4
      refine lv_iconst hx hb dG_listDrive_28 kI_m1 ?_
      exact hret _ _ _ _ _ _ hI hf dG_listDrive_29
    · have hf := in_ hf h4
      refine lv_iload_n hx hb dG_listDrive_24 rfl (lv_at hl 1 rfl) ?_
      refine lv_goto (tgt := 29) hx hb dG_listDrive_25 rfl ?_
      exact hret _ _ _ _ _ _ hI hf dG_listDrive_29
  · have hf := in_ hf h2
    refine lv_iconst hx hb dG_listDrive_11 kI_1 ?_
    refine lv_iload_n hx hb dG_listDrive_12 rfl (lv_at hl 1 rfl) ?_
    refine lv_isub hx hb dG_listDrive_13 ?_
    exact hret _ _ _ _ _ _ hI hf dG_listDrive_14
/-- GuardVolume.expectedVersion(II)I -/
abbrev rmG_expectedVersion : Room := { frames := 3, cells := 0, slots := 0, locals := 69 }
theorem pkG_expectedVersion : Pk yG_expectedVersion cG_expectedVersion 5 (some .int) 2 := ⟨kw_267, kw_1, by decide +kernel, by decide +kernel, by decide +kernel⟩
def fG_expectedVersion (Λ : La) (w : Wo) (c0 : Nat) (x1 : Int32) (x2 : Int32) : Option (Wo × Int32) := gd (isC Λ c0 4) ((fG_listDrive Λ w c0 x1 (x2 / 8)).bind fun q1 => if q1.2 = (-1) then (some (q1.1, (-1))) else ((fG_driveOf Λ q1.1 c0 q1.2).bind fun q3 => (fD_at Λ q3.1 q3.2 (64 + (x2 / 8)) (x2 - x2 / 8 * 8)).bind fun q4 => some (q4.1, q4.2)))
set_option maxHeartbeats 4000000 in
set_option maxRecDepth 100000 in
theorem kG_expectedVersion (l : Launch) (G : va_G) (kA kL : ClassId) (Λ : La) (ad : Nat → Nat) (w : Wo) (c0 : Nat) (x1 : Int32) (x2 : Int32) (w1 : Wo) (r : Int32) (hf : fG_expectedVersion Λ w c0 x1 x2 = some (w1, r)) : Mi l yG_expectedVersion cG_expectedVersion 5 (some .int) rmG_expectedVersion G kA kL Λ ad [.ref (ad c0), .int x1, .int x2] w w1 r := by
  refine Mi.of (by decide +kernel) (Nat.le_of_ble_eq_true rfl) ?_
  intro p e s m args below meth c Q ls S hret hl hI
  have S : CallFix p m c cG_expectedVersion 5 s args (.code yG_expectedVersion cG_expectedVersion 5 (some .int) :: gW) "GuardVolume" := S
  have hl : lv_has ls 5 [(0, .ref (ad c0)), (1, .int x1), (2, .int x2)] := hl
  have hx := S.1
  have hb := S.2.1
  unfold fG_expectedVersion at hf
  have hf := (gd_some hf).2
  refine lv_iload_n hx hb dG_expectedVersion_0 rfl (lv_at hl 2 rfl) ?_
  refine lv_bipush hx hb dG_expectedVersion_1 kB_8 ?_
  refine lv_idiv hx hb dG_expectedVersion_3 (by decide +kernel) ?_
  refine lv_istore_n hx hb (lv' := [(3, .int (x2 / 8)), (0, .ref (ad c0)), (1, .int x1), (2, .int x2)]) dG_expectedVersion_4 rfl hl (Nat.le_of_ble_eq_true rfl) rfl (fun ls hl => ?_)
  refine lv_aload_n hx hb dG_expectedVersion_5 rfl (lv_at hl 1 rfl) ?_
  refine lv_iload_n hx hb dG_expectedVersion_6 rfl (lv_at hl 2 rfl) ?_
  refine lv_iload_n hx hb dG_expectedVersion_7 rfl (lv_at hl 0 rfl) ?_
  obtain ⟨q1, hq1, hf⟩ := ob_ hf
  refine r_ci (r_V (rest := []) (As := [.int x1, .int (x2 / 8)]) S hl hI (kG_listDrive l G kA kL Λ ad w c0 x1 (x2 / 8) q1.1 q1.2 hq1) pkG_listDrive kw_270 ks_G_listDrive (fcG).1 (gd_some hq1).1 kw_268 ⟨rfl, rfl⟩ ⟨Nat.le_of_ble_eq_true rfl, Nat.le_of_ble_eq_true rfl⟩ rfl rfl (Nat.le_of_ble_eq_true rfl) ⟨Nat.zero_le _, Nat.zero_le _⟩ dG_expectedVersion_8) hI (fun H locs hI => ?_)
  refine lv_istore hx hb (lv' := [(4, .int q1.2), (3, .int (x2 / 8)), (0, .ref (ad c0)), (1, .int x1), (2, .int x2)]) dG_expectedVersion_11 hl (Nat.le_of_ble_eq_true rfl) rfl (fun ls hl => ?_)
  refine lv_iload hx hb dG_expectedVersion_13 (lv_at hl 0 rfl) ?_
  refine lv_iconst hx hb dG_expectedVersion_15 kI_m1 ?_
  refine lv_icmp_ne (tgt := 23) hx hb dG_expectedVersion_16 rfl (fun h2 => ?_) (fun h2 => ?_)
  · have hf := in_ hf h2
    refine lv_aload_n hx hb dG_expectedVersion_23 rfl (lv_at hl 2 rfl) ?_
    refine lv_iload hx hb dG_expectedVersion_24 (lv_at hl 0 rfl) ?_
    obtain ⟨q3, hq3, hf⟩ := ob_ hf
    refine r_cr (r_V (rest := []) (As := [.int q1.2]) S hl hI (kG_driveOf l G kA kL Λ ad q1.1 c0 q1.2 q3.1 q3.2 hq3) pkG_driveOf kw_257 ks_G_driveOf (fcG).1 (gd_some hq3).1 kw_255 ⟨rfl, rfl⟩ ⟨Nat.le_of_ble_eq_true rfl, Nat.le_of_ble_eq_true rfl⟩ rfl rfl (Nat.le_of_ble_eq_true rfl) ⟨Nat.zero_le _, Nat.zero_le _⟩ dG_expectedVersion_26) hI (fun H locs hI => ?_)
    refine lv_bipush hx hb dG_expectedVersion_29 kB_64 ?_
    refine lv_iload_n hx hb dG_expectedVersion_31 rfl (lv_at hl 1 rfl) ?_
    refine lv_iadd hx hb dG_expectedVersion_32 ?_
    refine lv_iload_n hx hb dG_expectedVersion_33 rfl (lv_at hl 4 rfl) ?_
    refine lv_bipush hx hb dG_expectedVersion_34 kB_8 ?_
    refine lv_irem hx hb dG_expectedVersion_36 (by decide +kernel) ?_
    obtain ⟨q4, hq4, hf⟩ := ob_ hf
    refine r_ci (r_VN (rest := []) (As := [.int (64 + (x2 / 8)), .int (x2 - x2 / 8 * 8)]) S hl hI (kD_at l G kA kL Λ ad q3.1 q3.2 (64 + (x2 / 8)) (x2 - x2 / 8 * 8) q4.1 q4.2 hq4) pkD_at kw_261 ks_D_at (fcD).1 (gd_some hq4).1 kn_259 ⟨rfl, rfl⟩ ⟨Nat.le_of_ble_eq_true rfl, Nat.le_of_ble_eq_true rfl⟩ rfl rfl (Nat.le_of_ble_eq_true rfl) ⟨Nat.zero_le _, Nat.zero_le _⟩ dG_expectedVersion_37) hI (fun H locs hI => ?_)
    exact hret _ _ _ _ _ _ hI hf dG_expectedVersion_40
  · have hf := ip_ hf h2
    refine lv_iconst hx hb dG_expectedVersion_19 kI_m1 ?_
    refine lv_goto (tgt := 40) hx hb dG_expectedVersion_20 rfl ?_
    exact hret _ _ _ _ _ _ hI hf dG_expectedVersion_40
/-- GuardVolume.judge(II)I -/
abbrev rmG_judge : Room := { frames := 4, cells := 0, slots := 0, locals := 93 }
theorem pkG_judge : Pk yG_judge cG_judge 6 (some .int) 2 := ⟨kw_254, kw_1, by decide +kernel, by decide +kernel, by decide +kernel⟩
def fG_judge (Λ : La) (w : Wo) (c0 : Nat) (x1 : Int32) (x2 : Int32) : Option (Wo × Int32) := gd (isC Λ c0 4) ((fG_driveOf Λ w c0 x1).bind fun q1 => (fD_at Λ q1.1 q1.2 x2 8).bind fun q2 => (gr Λ q1.2 0 0).bind fun r3 => (fG_sumOf Λ q2.1 r3 (x2 * 11)).bind fun q4 => if q2.2 = q4.2 then ((fD_at Λ q4.1 q1.2 x2 9).bind fun q6 => if q6.2 = x2 then ((fG_expectedVersion Λ q6.1 c0 x1 x2).bind fun q8 => if q8.2 = (-1) then (some (q8.1, 3)) else ((fD_at Λ q8.1 q1.2 x2 10).bind fun q10 => if q8.2 ≤ q10.2 then (if q10.2 ≤ q8.2 then (some (q10.1, 0)) else (some (q10.1, 5))) else (some (q10.1, 4)))) else (some (q6.1, 2))) else (some (q4.1, 1)))
set_option maxHeartbeats 4000000 in
set_option maxRecDepth 100000 in
theorem kG_judge (l : Launch) (G : va_G) (kA kL : ClassId) (Λ : La) (ad : Nat → Nat) (w : Wo) (c0 : Nat) (x1 : Int32) (x2 : Int32) (w1 : Wo) (r : Int32) (hf : fG_judge Λ w c0 x1 x2 = some (w1, r)) : Mi l yG_judge cG_judge 6 (some .int) rmG_judge G kA kL Λ ad [.ref (ad c0), .int x1, .int x2] w w1 r := by
  refine Mi.of (by decide +kernel) (Nat.le_of_ble_eq_true rfl) ?_
  intro p e s m args below meth c Q ls S hret hl hI
  have S : CallFix p m c cG_judge 6 s args (.code yG_judge cG_judge 6 (some .int) :: gW) "GuardVolume" := S
  have hl : lv_has ls 6 [(0, .ref (ad c0)), (1, .int x1), (2, .int x2)] := hl
  have hx := S.1
  have hb := S.2.1
  unfold fG_judge at hf
  have hf := (gd_some hf).2
  refine lv_aload_n hx hb dG_judge_0 rfl (lv_at hl 0 rfl) ?_
  refine lv_iload_n hx hb dG_judge_1 rfl (lv_at hl 1 rfl) ?_
  obtain ⟨q1, hq1, hf⟩ := ob_ hf
  refine r_cr (r_V (rest := []) (As := [.int x1]) S hl hI (kG_driveOf l G kA kL Λ ad w c0 x1 q1.1 q1.2 hq1) pkG_driveOf kw_257 ks_G_driveOf (fcG).1 (gd_some hq1).1 kw_255 ⟨rfl, rfl⟩ ⟨Nat.le_of_ble_eq_true rfl, Nat.le_of_ble_eq_true rfl⟩ rfl rfl (Nat.le_of_ble_eq_true rfl) ⟨Nat.zero_le _, Nat.zero_le _⟩ dG_judge_2) hI (fun H locs hI => ?_)
  refine lv_astore_n hx hb (lv' := [(3, .ref (ad q1.2)), (0, .ref (ad c0)), (1, .int x1), (2, .int x2)]) dG_judge_5 rfl hl (Nat.le_of_ble_eq_true rfl) rfl (fun ls hl => ?_)
  refine lv_aload_n hx hb dG_judge_6 rfl (lv_at hl 0 rfl) ?_
  refine lv_iload_n hx hb dG_judge_7 rfl (lv_at hl 3 rfl) ?_
  refine lv_bipush hx hb dG_judge_8 kB_8 ?_
  obtain ⟨q2, hq2, hf⟩ := ob_ hf
  refine r_ci (r_VN (rest := []) (As := [.int x2, .int 8]) S hl hI (kD_at l G kA kL Λ ad q1.1 q1.2 x2 8 q2.1 q2.2 hq2) pkD_at kw_261 ks_D_at (fcD).1 (gd_some hq2).1 kn_259 ⟨rfl, rfl⟩ ⟨Nat.le_of_ble_eq_true rfl, Nat.le_of_ble_eq_true rfl⟩ rfl rfl (Nat.le_of_ble_eq_true rfl) ⟨Nat.zero_le _, Nat.zero_le _⟩ dG_judge_10) hI (fun H locs hI => ?_)
  refine lv_aload_n hx hb dG_judge_13 rfl (lv_at hl 0 rfl) ?_
  obtain ⟨r3, hr3, hf⟩ := ob_ hf
  refine r_getrN (i := 0) S hI fcD (Nat.le_of_ble_eq_true rfl) kn_38 dG_judge_14 hr3 ?_
  refine lv_iload_n hx hb dG_judge_17 rfl (lv_at hl 3 rfl) ?_
  refine lv_bipush hx hb dG_judge_18 kB_11 ?_
  refine lv_imul hx hb dG_judge_20 ?_
  obtain ⟨q4, hq4, hf⟩ := ob_ hf
  refine r_ci (r_S (rest := [.int q2.2]) (As := [.ref (ad r3), .int (x2 * 11)]) S hl hI (kG_sumOf l G kA kL Λ ad q2.1 r3 (x2 * 11) q4.1 q4.2 hq4) pkG_sumOf kw_32 kw_263 ⟨rfl, rfl⟩ ⟨Nat.le_of_ble_eq_true rfl, Nat.le_of_ble_eq_true rfl⟩ rfl rfl (Nat.le_of_ble_eq_true rfl) ⟨Nat.zero_le _, Nat.zero_le _⟩ dG_judge_21) hI (fun H locs hI => ?_)
  refine lv_icmp_eq (tgt := 29) hx hb dG_judge_24 rfl (fun h5 => ?_) (fun h5 => ?_)
  · have hf := ip_ hf h5
    refine lv_aload_n hx hb dG_judge_29 rfl (lv_at hl 0 rfl) ?_
    refine lv_iload_n hx hb dG_judge_30 rfl (lv_at hl 3 rfl) ?_
    refine lv_bipush hx hb dG_judge_31 kB_9 ?_
    obtain ⟨q6, hq6, hf⟩ := ob_ hf
    refine r_ci (r_VN (rest := []) (As := [.int x2, .int 9]) S hl hI (kD_at l G kA kL Λ ad q4.1 q1.2 x2 9 q6.1 q6.2 hq6) pkD_at kw_261 ks_D_at (fcD).1 (gd_some hq6).1 kn_259 ⟨rfl, rfl⟩ ⟨Nat.le_of_ble_eq_true rfl, Nat.le_of_ble_eq_true rfl⟩ rfl rfl (Nat.le_of_ble_eq_true rfl) ⟨Nat.zero_le _, Nat.zero_le _⟩ dG_judge_33) hI (fun H locs hI => ?_)
    refine lv_iload_n hx hb dG_judge_36 rfl (lv_at hl 3 rfl) ?_
    refine lv_icmp_eq (tgt := 42) hx hb dG_judge_37 rfl (fun h7 => ?_) (fun h7 => ?_)
    · have hf := ip_ hf h7
      refine lv_aload_n hx hb dG_judge_42 rfl (lv_at hl 1 rfl) ?_
      refine lv_iload_n hx hb dG_judge_43 rfl (lv_at hl 2 rfl) ?_
      refine lv_iload_n hx hb dG_judge_44 rfl (lv_at hl 3 rfl) ?_
      obtain ⟨q8, hq8, hf⟩ := ob_ hf
      refine r_ci (r_V (rest := []) (As := [.int x1, .int x2]) S hl hI (kG_expectedVersion l G kA kL Λ ad q6.1 c0 x1 x2 q8.1 q8.2 hq8) pkG_expectedVersion kw_266 ks_G_expectedVersion (fcG).1 (gd_some hq8).1 kw_264 ⟨rfl, rfl⟩ ⟨Nat.le_of_ble_eq_true rfl, Nat.le_of_ble_eq_true rfl⟩ rfl rfl (Nat.le_of_ble_eq_true rfl) ⟨Nat.zero_le _, Nat.zero_le _⟩ dG_judge_45) hI (fun H locs hI => ?_)
      refine lv_istore hx hb (lv' := [(4, .int q8.2), (3, .ref (ad q1.2)), (0, .ref (ad c0)), (1, .int x1), (2, .int x2)]) dG_judge_48 hl (Nat.le_of_ble_eq_true rfl) rfl (fun ls hl => ?_)
      refine lv_iload hx hb dG_judge_50 (lv_at hl 0 rfl) ?_
      refine lv_iconst hx hb dG_judge_52 kI_m1 ?_
      refine lv_icmp_ne (tgt := 58) hx hb dG_judge_53 rfl (fun h9 => ?_) (fun h9 => ?_)
      · have hf := in_ hf h9
        refine lv_aload_n hx hb dG_judge_58 rfl (lv_at hl 1 rfl) ?_
        refine lv_iload_n hx hb dG_judge_59 rfl (lv_at hl 4 rfl) ?_
        refine lv_bipush hx hb dG_judge_60 kB_10 ?_
        obtain ⟨q10, hq10, hf⟩ := ob_ hf
        refine r_ci (r_VN (rest := []) (As := [.int x2, .int 10]) S hl hI (kD_at l G kA kL Λ ad q8.1 q1.2 x2 10 q10.1 q10.2 hq10) pkD_at kw_261 ks_D_at (fcD).1 (gd_some hq10).1 kn_259 ⟨rfl, rfl⟩ ⟨Nat.le_of_ble_eq_true rfl, Nat.le_of_ble_eq_true rfl⟩ rfl rfl (Nat.le_of_ble_eq_true rfl) ⟨Nat.zero_le _, Nat.zero_le _⟩ dG_judge_62) hI (fun H locs hI => ?_)
        refine lv_istore hx hb (lv' := [(5, .int q10.2), (4, .int q8.2), (3, .ref (ad q1.2)), (0, .ref (ad c0)), (1, .int x1), (2, .int x2)]) dG_judge_65 hl (Nat.le_of_ble_eq_true rfl) rfl (fun ls hl => ?_)
        refine lv_iload hx hb dG_judge_67 (lv_at hl 0 rfl) ?_
        refine lv_iload hx hb dG_judge_69 (lv_at hl 1 rfl) ?_
        refine lv_icmp_ge (tgt := 76) hx hb dG_judge_71 rfl (fun h11 => ?_) (fun h11 => ?_)
        · have hf := ip_ hf h11
          refine lv_iload hx hb dG_judge_76 (lv_at hl 0 rfl) ?_
          refine lv_iload hx hb dG_judge_78 (lv_at hl 1 rfl) ?_
          refine lv_icmp_le (tgt := 87) hx hb dG_judge_80 rfl (fun h12 => ?_) (fun h12 => ?_)
          · have hf := ip_ hf h12
            refine lv_iconst hx hb dG_judge_87 kI_0 ?_
            exact hret _ _ _ _ _ _ hI hf dG_judge_88
          · have hf := in_ hf h12
            refine lv_iconst hx hb dG_judge_83 kI_5 ?_
            refine lv_goto (tgt := 88) hx hb dG_judge_84 rfl ?_
            exact hret _ _ _ _ _ _ hI hf dG_judge_88
        · have hf := in_ hf h11
          refine lv_iconst hx hb dG_judge_74 kI_4 ?_
          exact hret _ _ _ _ _ _ hI hf dG_judge_75
      · have hf := ip_ hf h9
        refine lv_iconst hx hb dG_judge_56 kI_3 ?_
        exact hret _ _ _ _ _ _ hI hf dG_judge_57
    · have hf := in_ hf h7
      refine lv_iconst hx hb dG_judge_40 kI_2 ?_
      exact hret _ _ _ _ _ _ hI hf dG_judge_41
  · have hf := in_ hf h5
    refine lv_iconst hx hb dG_judge_27 kI_1 ?_
    exact hret _ _ _ _ _ _ hI hf dG_judge_28
/-- GuardVolume.goodCopy(I)I -/
abbrev rmG_goodCopy : Room := { frames := 5, cells := 0, slots := 0, locals := 118 }
theorem pkG_goodCopy : Pk yG_goodCopy cG_goodCopy 2 (some .int) 1 := ⟨kw_250, kw_1, by decide +kernel, by decide +kernel, by decide +kernel⟩
def fG_goodCopy (Λ : La) (w : Wo) (c0 : Nat) (x1 : Int32) : Option (Wo × Int32) := gd (isC Λ c0 4) ((fG_judge Λ w c0 0 x1).bind fun q1 => if q1.2 = 0 then (some (q1.1, 0)) else ((fG_judge Λ q1.1 c0 1 x1).bind fun q3 => if q3.2 = 0 then (some (q3.1, 1)) else (some (q3.1, (-1)))))
set_option maxHeartbeats 4000000 in
set_option maxRecDepth 100000 in
theorem kG_goodCopy (l : Launch) (G : va_G) (kA kL : ClassId) (Λ : La) (ad : Nat → Nat) (w : Wo) (c0 : Nat) (x1 : Int32) (w1 : Wo) (r : Int32) (hf : fG_goodCopy Λ w c0 x1 = some (w1, r)) : Mi l yG_goodCopy cG_goodCopy 2 (some .int) rmG_goodCopy G kA kL Λ ad [.ref (ad c0), .int x1] w w1 r := by
  refine Mi.of (by decide +kernel) (Nat.le_of_ble_eq_true rfl) ?_
  intro p e s m args below meth c Q ls S hret hl hI
  have S : CallFix p m c cG_goodCopy 2 s args (.code yG_goodCopy cG_goodCopy 2 (some .int) :: gW) "GuardVolume" := S
  have hl : lv_has ls 2 [(0, .ref (ad c0)), (1, .int x1)] := hl
  have hx := S.1
  have hb := S.2.1
  unfold fG_goodCopy at hf
  have hf := (gd_some hf).2
  refine lv_aload_n hx hb dG_goodCopy_0 rfl (lv_at hl 0 rfl) ?_
  refine lv_iconst hx hb dG_goodCopy_1 kI_0 ?_
  refine lv_iload_n hx hb dG_goodCopy_2 rfl (lv_at hl 1 rfl) ?_
  obtain ⟨q1, hq1, hf⟩ := ob_ hf
  refine r_ci (r_V (rest := []) (As := [.int 0, .int x1]) S hl hI (kG_judge l G kA kL Λ ad w c0 0 x1 q1.1 q1.2 hq1) pkG_judge kw_253 ks_G_judge (fcG).1 (gd_some hq1).1 kw_251 ⟨rfl, rfl⟩ ⟨Nat.le_of_ble_eq_true rfl, Nat.le_of_ble_eq_true rfl⟩ rfl rfl (Nat.le_of_ble_eq_true rfl) ⟨Nat.zero_le _, Nat.zero_le _⟩ dG_goodCopy_3) hI (fun H locs hI => ?_)
  refine lv_if_ne (tgt := 11) hx hb dG_goodCopy_6 rfl (fun h2 => ?_) (fun h2 => ?_)
  · have hf := in_ hf h2
    refine lv_aload_n hx hb dG_goodCopy_11 rfl (lv_at hl 0 rfl) ?_
    refine lv_iconst hx hb dG_goodCopy_12 kI_1 ?_
    refine lv_iload_n hx hb dG_goodCopy_13 rfl (lv_at hl 1 rfl) ?_
    obtain ⟨q3, hq3, hf⟩ := ob_ hf
    refine r_ci (r_V (rest := []) (As := [.int 1, .int x1]) S hl hI (kG_judge l G kA kL Λ ad q1.1 c0 1 x1 q3.1 q3.2 hq3) pkG_judge kw_253 ks_G_judge (fcG).1 (gd_some hq3).1 kw_251 ⟨rfl, rfl⟩ ⟨Nat.le_of_ble_eq_true rfl, Nat.le_of_ble_eq_true rfl⟩ rfl rfl (Nat.le_of_ble_eq_true rfl) ⟨Nat.zero_le _, Nat.zero_le _⟩ dG_goodCopy_14) hI (fun H locs hI => ?_)
    refine lv_if_ne (tgt := 24) hx hb dG_goodCopy_17 rfl (fun h4 => ?_) (fun h4 => ?_)
    · have hf := in_ hf h4
      refine lv_iconst hx hb dG_goodCopy_24 kI_m1 ?_
      exact hret _ _ _ _ _ _ hI hf dG_goodCopy_25
    · have hf := ip_ hf h4
      refine lv_iconst hx hb dG_goodCopy_20 kI_1 ?_
      refine lv_goto (tgt := 25) hx hb dG_goodCopy_21 rfl ?_
      exact hret _ _ _ _ _ _ hI hf dG_goodCopy_25
  · have hf := ip_ hf h2
    refine lv_iconst hx hb dG_goodCopy_9 kI_0 ?_
    exact hret _ _ _ _ _ _ hI hf dG_goodCopy_10
/-- GuardVolume.codeOf(I)I -/
abbrev rmG_codeOf : Room := { frames := 0, cells := 0, slots := 0, locals := 0 }
theorem pkG_codeOf : Pk yG_codeOf cG_codeOf 1 (some .int) 1 := ⟨kw_293, kw_1, by decide +kernel, by decide +kernel, by decide +kernel⟩
def fG_codeOf (Λ : La) (w : Wo) (x0 : Int32) : Option (Wo × Int32) := if x0 = (-1) then (some (w, 2)) else (some (w, x0))
set_option maxHeartbeats 4000000 in
set_option maxRecDepth 100000 in
theorem kG_codeOf (l : Launch) (G : va_G) (kA kL : ClassId) (Λ : La) (ad : Nat → Nat) (w : Wo) (x0 : Int32) (w1 : Wo) (r : Int32) (hf : fG_codeOf Λ w x0 = some (w1, r)) : Mi l yG_codeOf cG_codeOf 1 (some .int) rmG_codeOf G kA kL Λ ad [.int x0] w w1 r := by
  refine Mi.of (by decide +kernel) (Nat.le_of_ble_eq_true rfl) ?_
  intro p e s m args below meth c Q ls S hret hl hI
  have S : CallFix p m c cG_codeOf 1 s args (.code yG_codeOf cG_codeOf 1 (some .int) :: gW) "GuardVolume" := S
  have hl : lv_has ls 1 [(0, .int x0)] := hl
  have hx := S.1
  have hb := S.2.1
  unfold fG_codeOf at hf
  refine lv_iload_n hx hb dG_codeOf_0 rfl (lv_at hl 0 rfl) ?_
  refine lv_iconst hx hb dG_codeOf_1 kI_m1 ?_
  refine lv_icmp_ne (tgt := 9) hx hb dG_codeOf_2 rfl (fun h1 => ?_) (fun h1 => ?_)
  · have hf := in_ hf h1
    refine lv_iload_n hx hb dG_codeOf_9 rfl (lv_at hl 0 rfl) ?_
    exact hret _ _ _ _ _ _ hI hf dG_codeOf_10
  · have hf := ip_ hf h1
    refine lv_iconst hx hb dG_codeOf_5 kI_2 ?_
    refine lv_goto (tgt := 10) hx hb dG_codeOf_6 rfl ?_
    exact hret _ _ _ _ _ _ hI hf dG_codeOf_10
/-- GuardVolume$Drive.giveWords(I[I)V -/
abbrev rmD_giveWords : Room := { frames := 1, cells := 0, slots := 0, locals := 26 }
theorem pkD_giveWords : Pk yD_giveWords cD_giveWords 3 none 2 := ⟨kw_297, kw_2, by decide +kernel, by decide +kernel, by decide +kernel⟩
def fD_giveWords (Λ : La) (w : Wo) (c0 : Nat) (x1 : Int32) (c2 : Nat) : Option Wo := gd (isC Λ c0 0) ((gr Λ c0 0 0).bind fun r1 => (cp Λ w r1 (x1 * 11) c2 0 8).bind fun w2 => some w2)
set_option maxHeartbeats 4000000 in
set_option maxRecDepth 100000 in
theorem kD_giveWords (l : Launch) (G : va_G) (kA kL : ClassId) (Λ : La) (ad : Nat → Nat) (w : Wo) (c0 : Nat) (x1 : Int32) (c2 : Nat) (w1 : Wo) (hf : fD_giveWords Λ w c0 x1 c2 = some w1) : Mv l yD_giveWords cD_giveWords 3 rmD_giveWords G kA kL Λ ad [.ref (ad c0), .int x1, .ref (ad c2)] w w1 := by
  refine Mv.of (by decide +kernel) (Nat.le_of_ble_eq_true rfl) ?_
  intro p e s m args below meth c Q ls S hret hl hI
  have S : CallFix p m c cD_giveWords 3 s args (.code yD_giveWords cD_giveWords 3 none :: gW) "GuardVolume$Drive" := S
  have hl : lv_has ls 3 [(0, .ref (ad c0)), (1, .int x1), (2, .ref (ad c2))] := hl
  have hx := S.1
  have hb := S.2.1
  unfold fD_giveWords at hf
  have hf := (gd_some hf).2
  refine lv_aload_n hx hb dD_giveWords_0 rfl (lv_at hl 0 rfl) ?_
  obtain ⟨r1, hr1, hf⟩ := ob_ hf
  refine r_getr (i := 0) S hI fcD (Nat.le_of_ble_eq_true rfl) kw_37 dD_giveWords_1 hr1 ?_
  refine lv_iload_n hx hb dD_giveWords_4 rfl (lv_at hl 1 rfl) ?_
  refine lv_bipush hx hb dD_giveWords_5 kB_11 ?_
  refine lv_imul hx hb dD_giveWords_7 ?_
  refine lv_aload_n hx hb dD_giveWords_8 rfl (lv_at hl 2 rfl) ?_
  refine lv_iconst hx hb dD_giveWords_9 kI_0 ?_
  refine lv_bipush hx hb dD_giveWords_10 kB_8 ?_
  obtain ⟨w2, hw2, hf⟩ := ob_ hf
  refine r_cpy (rest := []) S hl hI kw_34 kw_36 kw_35 kw_3 (Nat.le_of_ble_eq_true rfl) (Nat.le_of_ble_eq_true rfl) dD_giveWords_12 hw2 (fun H locs hI => ?_)
  exact hret _ _ _ _ _ hI hf dD_giveWords_15
/-- GuardVolume$Power.allowsWrite()Z -/
abbrev rmP_allowsWrite : Room := { frames := 0, cells := 0, slots := 0, locals := 0 }
theorem pkP_allowsWrite : Pk yP_allowsWrite cP_allowsWrite 1 (some .boolean) 0 := ⟨kw_313, kw_4, by decide +kernel, by decide +kernel, by decide +kernel⟩
def fP_allowsWrite (Λ : La) (w : Wo) (c0 : Nat) : Option (Wo × Int32) := gd (isC Λ c0 3) ((gi Λ w c0 3 1).bind fun v1 => if v1 = 0 then ((pf Λ w c0 3 0 0).bind fun w7 => zr w7 0) else ((gi Λ w c0 3 1).bind fun v3 => if v3 ≤ 0 then (zr w 1) else ((gi Λ w c0 3 1).bind fun v5 => (pf Λ w c0 3 1 (v5 - 1)).bind fun w6 => zr w6 1)))
set_option maxHeartbeats 4000000 in
set_option maxRecDepth 100000 in
theorem kP_allowsWrite (l : Launch) (G : va_G) (kA kL : ClassId) (Λ : La) (ad : Nat → Nat) (w : Wo) (c0 : Nat) (w1 : Wo) (r : Int32) (hf : fP_allowsWrite Λ w c0 = some (w1, r)) : Mi l yP_allowsWrite cP_allowsWrite 1 (some .boolean) rmP_allowsWrite G kA kL Λ ad [.ref (ad c0)] w w1 r := by
  refine Mz.of (by decide +kernel) (Nat.le_of_ble_eq_true rfl) ?_
  intro p e s m args below meth c Q ls S hret hl hI
  have S : CallFix p m c cP_allowsWrite 1 s args (.code yP_allowsWrite cP_allowsWrite 1 (some .boolean) :: gW) "GuardVolume$Power" := S
  have hl : lv_has ls 1 [(0, .ref (ad c0))] := hl
  have hx := S.1
  have hb := S.2.1
  unfold fP_allowsWrite at hf
  have hf := (gd_some hf).2
  refine lv_aload_n hx hb dP_allowsWrite_0 rfl (lv_at hl 0 rfl) ?_
  obtain ⟨v1, hv1, hf⟩ := ob_ hf
  refine r_geti (i := 1) S hI fcP (Nat.le_of_ble_eq_true rfl) kw_68 dP_allowsWrite_1 hv1 ?_
  refine lv_if_ne (tgt := 14) hx hb dP_allowsWrite_4 rfl (fun h2 => ?_) (fun h2 => ?_)
  · have hf := in_ hf h2
    refine lv_aload_n hx hb dP_allowsWrite_14 rfl (lv_at hl 0 rfl) ?_
    obtain ⟨v3, hv3, hf⟩ := ob_ hf
    refine r_geti (i := 1) S hI fcP (Nat.le_of_ble_eq_true rfl) kw_68 dP_allowsWrite_15 hv3 ?_
    refine lv_if_le (tgt := 31) hx hb dP_allowsWrite_18 rfl (fun h4 => ?_) (fun h4 => ?_)
    · have hf := ip_ hf h4
      refine lv_iconst hx hb dP_allowsWrite_31 kI_1 ?_
      exact hret _ _ _ _ _ _ hI hf dP_allowsWrite_32
    · have hf := in_ hf h4
      refine lv_aload_n hx hb dP_allowsWrite_21 rfl (lv_at hl 0 rfl) ?_
      refine lv_dup hx hb dP_allowsWrite_22 rfl ?_
      obtain ⟨v5, hv5, hf⟩ := ob_ hf
      refine r_geti (i := 1) S hI fcP (Nat.le_of_ble_eq_true rfl) kw_68 dP_allowsWrite_23 hv5 ?_
      refine lv_iconst hx hb dP_allowsWrite_26 kI_1 ?_
      refine lv_isub hx hb dP_allowsWrite_27 ?_
      obtain ⟨w6, hw6, hf⟩ := ob_ hf
      refine r_put (i := 1) S hI fcP (Nat.le_of_ble_eq_true rfl) kw_68 rfl rfl rfl dP_allowsWrite_28 hw6 (fun H locs hI => ?_)
      refine lv_iconst hx hb dP_allowsWrite_31 kI_1 ?_
      exact hret _ _ _ _ _ _ hI hf dP_allowsWrite_32
  · have hf := ip_ hf h2
    refine lv_aload_n hx hb dP_allowsWrite_7 rfl (lv_at hl 0 rfl) ?_
    refine lv_iconst hx hb dP_allowsWrite_8 kI_0 ?_
    obtain ⟨w7, hw7, hf⟩ := ob_ hf
    refine r_put (i := 0) S hI fcP (Nat.le_of_ble_eq_true rfl) kw_66 rfl (narrow_z (Or.inl rfl)) rfl dP_allowsWrite_9 hw7 (fun H locs hI => ?_)
    refine lv_iconst hx hb dP_allowsWrite_12 kI_0 ?_
    exact hret _ _ _ _ _ _ hI hf dP_allowsWrite_13
/-- GuardVolume$Drive.planOfNext(I)I -/
abbrev rmD_planOfNext : Room := { frames := 0, cells := 0, slots := 0, locals := 0 }
theorem pkD_planOfNext : Pk yD_planOfNext cD_planOfNext 3 (some .int) 1 := ⟨kw_322, kw_2, by decide +kernel, by decide +kernel, by decide +kernel⟩
def bD_planOfNext_2s (Λ : La) (K2 : Wo → Nat → Int32 → Int32 → Option (Wo × Int32)) (w : Wo) (c0 : Nat) (x1 : Int32) (x2 : Int32) : Option (Wo × Int32) := (gi Λ w c0 0 4).bind fun v1 => if v1 ≤ x2 then (some (w, (-1))) else ((gr Λ c0 0 1).bind fun r3 => (ld Λ w r3 x2).bind fun v4 => (gi Λ w c0 0 5).bind fun v5 => if v4 = (v5 + x1) then (some (w, x2)) else (K2 w c0 x1 (x2 + 1)))
def bD_planOfNext_2 (Λ : La) : Nat → Wo → Nat → Int32 → Int32 → Option (Wo × Int32)
  | 0 => fun _ _ _ _ => none
  | n + 1 => bD_planOfNext_2s Λ (bD_planOfNext_2 Λ n)
def fD_planOfNext (Λ : La) (w : Wo) (c0 : Nat) (x1 : Int32) : Option (Wo × Int32) := gd (isC Λ c0 0) (bD_planOfNext_2 Λ 1000 w c0 x1 0)
set_option maxHeartbeats 4000000 in
set_option maxRecDepth 100000 in
theorem kD_planOfNext (l : Launch) (G : va_G) (kA kL : ClassId) (Λ : La) (ad : Nat → Nat) (w : Wo) (c0 : Nat) (x1 : Int32) (w1 : Wo) (r : Int32) (hf : fD_planOfNext Λ w c0 x1 = some (w1, r)) : Mi l yD_planOfNext cD_planOfNext 3 (some .int) rmD_planOfNext G kA kL Λ ad [.ref (ad c0), .int x1] w w1 r := by
  refine Mi.of (by decide +kernel) (Nat.le_of_ble_eq_true rfl) ?_
  intro p e s m args below meth c Q ls S hret hl hI
  have S : CallFix p m c cD_planOfNext 3 s args (.code yD_planOfNext cD_planOfNext 3 (some .int) :: gW) "GuardVolume$Drive" := S
  have hl : lv_has ls 3 [(0, .ref (ad c0)), (1, .int x1)] := hl
  have hx := S.1
  have hb := S.2.1
  have bk2 : ∀ (K2 : Wo → Nat → Int32 → Int32 → Option (Wo × Int32)), (∀ (w : Wo) (c0 : Nat) (x1 : Int32) (x2 : Int32) (H : Heap) (locs : List Loc) (ls : Array Slot), lv_has ls 3 [(0, .ref (ad c0)), (1, .int x1), (2, .int x2)] → Iv (Aa Λ ad) G kA kL Λ ad w s H locs → K2 w c0 x1 x2 = some (w1, r) → W p l e rmD_planOfNext s m args below meth c H locs 0 0 Q (F0 m 2 ls [])) → ∀ (w : Wo) (c0 : Nat) (x1 : Int32) (x2 : Int32) (H : Heap) (locs : List Loc) (ls : Array Slot), lv_has ls 3 [(0, .ref (ad c0)), (1, .int x1), (2, .int x2)] → Iv (Aa Λ ad) G kA kL Λ ad w s H locs → bD_planOfNext_2s Λ K2 w c0 x1 x2 = some (w1, r) → W p l e rmD_planOfNext s m args below meth c H locs 0 0 Q (F0 m 2 ls []) := by
    intro K2 hK2 w c0 x1 x2 H locs ls hl hI hf
    unfold bD_planOfNext_2s at hf
    refine lv_iload_n hx hb dD_planOfNext_2 rfl (lv_at hl 2 rfl) ?_
    refine lv_aload_n hx hb dD_planOfNext_3 rfl (lv_at hl 0 rfl) ?_
    obtain ⟨v1, hv1, hf⟩ := ob_ hf
    refine r_geti (i := 4) S hI fcD (Nat.le_of_ble_eq_true rfl) kw_42 dD_planOfNext_4 hv1 ?_
    refine lv_icmp_ge (tgt := 33) hx hb dD_planOfNext_7 rfl (fun h2 => ?_) (fun h2 => ?_)
    · have hf := ip_ hf h2
      refine lv_iconst hx hb dD_planOfNext_33 kI_m1 ?_
      exact hret _ _ _ _ _ _ hI hf dD_planOfNext_34
    · have hf := in_ hf h2
      refine lv_aload_n hx hb dD_planOfNext_10 rfl (lv_at hl 0 rfl) ?_
      obtain ⟨r3, hr3, hf⟩ := ob_ hf
      refine r_getr (i := 1) S hI fcD (Nat.le_of_ble_eq_true rfl) kw_39 dD_planOfNext_11 hr3 ?_
      refine lv_iload_n hx hb dD_planOfNext_14 rfl (lv_at hl 2 rfl) ?_
      obtain ⟨v4, hv4, hf⟩ := ob_ hf
      refine r_ald S hI dD_planOfNext_15 hv4 ?_
      refine lv_aload_n hx hb dD_planOfNext_16 rfl (lv_at hl 0 rfl) ?_
      obtain ⟨v5, hv5, hf⟩ := ob_ hf
      refine r_geti (i := 5) S hI fcD (Nat.le_of_ble_eq_true rfl) kw_44 dD_planOfNext_17 hv5 ?_
      refine lv_iload_n hx hb dD_planOfNext_20 rfl (lv_at hl 1 rfl) ?_
      refine lv_iadd hx hb dD_planOfNext_21 ?_
      refine lv_icmp_ne (tgt := 27) hx hb dD_planOfNext_22 rfl (fun h6 => ?_) (fun h6 => ?_)
      · have hf := in_ hf h6
        refine lv_iinc hx hb (lv' := [(2, .int (x2 + 1)), (0, .ref (ad c0)), (1, .int x1)]) (k := 2) dD_planOfNext_27 hl rfl (kN_1 _) (Nat.le_of_ble_eq_true rfl) rfl (fun ls hl => ?_)
        refine lv_goto (tgt := 2) hx hb dD_planOfNext_30 rfl ?_
        exact hK2 w c0 x1 (x2 + 1) _ _ _ (lv_sub hl [1, 2, 0] rfl) hI hf
      · have hf := ip_ hf h6
        refine lv_iload_n hx hb dD_planOfNext_25 rfl (lv_at hl 2 rfl) ?_
        exact hret _ _ _ _ _ _ hI hf dD_planOfNext_26
  have lp2 : ∀ (n : Nat), ∀ (w : Wo) (c0 : Nat) (x1 : Int32) (x2 : Int32) (H : Heap) (locs : List Loc) (ls : Array Slot), lv_has ls 3 [(0, .ref (ad c0)), (1, .int x1), (2, .int x2)] → Iv (Aa Λ ad) G kA kL Λ ad w s H locs → bD_planOfNext_2 Λ n w c0 x1 x2 = some (w1, r) → W p l e rmD_planOfNext s m args below meth c H locs 0 0 Q (F0 m 2 ls []) := by
    intro n
    induction n with
    | zero =>
      intro w c0 x1 x2 H locs ls hl hI hf
      have hf : (none : Option (Wo × Int32)) = some (w1, r) := hf
      cases hf
    | succ n ih =>
      intro w c0 x1 x2 H locs ls hl hI hf
      exact bk2 (bD_planOfNext_2 Λ n) ih w c0 x1 x2 H locs ls hl hI hf
  unfold fD_planOfNext at hf
  have hf := (gd_some hf).2
  refine lv_iconst hx hb dD_planOfNext_0 kI_0 ?_
  refine lv_istore_n hx hb (lv' := [(2, .int 0), (0, .ref (ad c0)), (1, .int x1)]) dD_planOfNext_1 rfl hl (Nat.le_of_ble_eq_true rfl) rfl (fun ls hl => ?_)
  exact lp2 1000 w c0 x1 0 _ _ _ (lv_sub hl [1, 2, 0] rfl) hI hf
/-- GuardVolume$Drive.keep(I[II)V -/
abbrev rmD_keep : Room := { frames := 1, cells := 0, slots := 0, locals := 26 }
theorem pkD_keep : Pk yD_keep cD_keep 4 none 3 := ⟨kw_326, kw_2, by decide +kernel, by decide +kernel, by decide +kernel⟩
def fD_keep (Λ : La) (w : Wo) (c0 : Nat) (x1 : Int32) (c2 : Nat) (x3 : Int32) : Option Wo := gd (isC Λ c0 0) ((gr Λ c0 0 0).bind fun r1 => (cp Λ w c2 0 r1 (x1 * 11) x3).bind fun w2 => some w2)
set_option maxHeartbeats 4000000 in
set_option maxRecDepth 100000 in
theorem kD_keep (l : Launch) (G : va_G) (kA kL : ClassId) (Λ : La) (ad : Nat → Nat) (w : Wo) (c0 : Nat) (x1 : Int32) (c2 : Nat) (x3 : Int32) (w1 : Wo) (hf : fD_keep Λ w c0 x1 c2 x3 = some w1) : Mv l yD_keep cD_keep 4 rmD_keep G kA kL Λ ad [.ref (ad c0), .int x1, .ref (ad c2), .int x3] w w1 := by
  refine Mv.of (by decide +kernel) (Nat.le_of_ble_eq_true rfl) ?_
  intro p e s m args below meth c Q ls S hret hl hI
  have S : CallFix p m c cD_keep 4 s args (.code yD_keep cD_keep 4 none :: gW) "GuardVolume$Drive" := S
  have hl : lv_has ls 4 [(0, .ref (ad c0)), (1, .int x1), (2, .ref (ad c2)), (3, .int x3)] := hl
  have hx := S.1
  have hb := S.2.1
  unfold fD_keep at hf
  have hf := (gd_some hf).2
  refine lv_aload_n hx hb dD_keep_0 rfl (lv_at hl 2 rfl) ?_
  refine lv_iconst hx hb dD_keep_1 kI_0 ?_
  refine lv_aload_n hx hb dD_keep_2 rfl (lv_at hl 0 rfl) ?_
  obtain ⟨r1, hr1, hf⟩ := ob_ hf
  refine r_getr (i := 0) S hI fcD (Nat.le_of_ble_eq_true rfl) kw_37 dD_keep_3 hr1 ?_
  refine lv_iload_n hx hb dD_keep_6 rfl (lv_at hl 1 rfl) ?_
  refine lv_bipush hx hb dD_keep_7 kB_11 ?_
  refine lv_imul hx hb dD_keep_9 ?_
  refine lv_iload_n hx hb dD_keep_10 rfl (lv_at hl 3 rfl) ?_
  obtain ⟨w2, hw2, hf⟩ := ob_ hf
  refine r_cpy (rest := []) S hl hI kw_34 kw_36 kw_35 kw_3 (Nat.le_of_ble_eq_true rfl) (Nat.le_of_ble_eq_true rfl) dD_keep_11 hw2 (fun H locs hI => ?_)
  exact hret _ _ _ _ _ hI hf dD_keep_14
/-- GuardVolume$Drive.removePlan(I)V -/
abbrev rmD_removePlan : Room := { frames := 0, cells := 0, slots := 0, locals := 0 }
theorem pkD_removePlan : Pk yD_removePlan cD_removePlan 2 none 1 := ⟨kw_330, kw_2, by decide +kernel, by decide +kernel, by decide +kernel⟩
def fD_removePlan (Λ : La) (w : Wo) (c0 : Nat) (x1 : Int32) : Option Wo := gd (isC Λ c0 0) ((gi Λ w c0 0 4).bind fun v1 => (pf Λ w c0 0 4 (v1 - 1)).bind fun w2 => (gr Λ c0 0 1).bind fun r3 => (gr Λ c0 0 1).bind fun r4 => (gi Λ w2 c0 0 4).bind fun v5 => (ld Λ w2 r4 v5).bind fun v6 => (st Λ w2 r3 x1 v6).bind fun w7 => (gr Λ c0 0 2).bind fun r8 => (gr Λ c0 0 2).bind fun r9 => (gi Λ w7 c0 0 4).bind fun v10 => (ld Λ w7 r9 v10).bind fun v11 => (st Λ w7 r8 x1 v11).bind fun w12 => (gr Λ c0 0 3).bind fun r13 => (gr Λ c0 0 3).bind fun r14 => (gi Λ w12 c0 0 4).bind fun v15 => (ld Λ w12 r14 v15).bind fun v16 => (st Λ w12 r13 x1 v16).bind fun w17 => some w17)
set_option maxHeartbeats 4000000 in
set_option maxRecDepth 100000 in
theorem kD_removePlan (l : Launch) (G : va_G) (kA kL : ClassId) (Λ : La) (ad : Nat → Nat) (w : Wo) (c0 : Nat) (x1 : Int32) (w1 : Wo) (hf : fD_removePlan Λ w c0 x1 = some w1) : Mv l yD_removePlan cD_removePlan 2 rmD_removePlan G kA kL Λ ad [.ref (ad c0), .int x1] w w1 := by
  refine Mv.of (by decide +kernel) (Nat.le_of_ble_eq_true rfl) ?_
  intro p e s m args below meth c Q ls S hret hl hI
  have S : CallFix p m c cD_removePlan 2 s args (.code yD_removePlan cD_removePlan 2 none :: gW) "GuardVolume$Drive" := S
  have hl : lv_has ls 2 [(0, .ref (ad c0)), (1, .int x1)] := hl
  have hx := S.1
  have hb := S.2.1
  unfold fD_removePlan at hf
  have hf := (gd_some hf).2
  refine lv_aload_n hx hb dD_removePlan_0 rfl (lv_at hl 0 rfl) ?_
  refine lv_dup hx hb dD_removePlan_1 rfl ?_
  obtain ⟨v1, hv1, hf⟩ := ob_ hf
  refine r_geti (i := 4) S hI fcD (Nat.le_of_ble_eq_true rfl) kw_42 dD_removePlan_2 hv1 ?_
  refine lv_iconst hx hb dD_removePlan_5 kI_1 ?_
  refine lv_isub hx hb dD_removePlan_6 ?_
  obtain ⟨w2, hw2, hf⟩ := ob_ hf
  refine r_put (i := 4) S hI fcD (Nat.le_of_ble_eq_true rfl) kw_42 rfl rfl rfl dD_removePlan_7 hw2 (fun H locs hI => ?_)
  refine lv_aload_n hx hb dD_removePlan_10 rfl (lv_at hl 0 rfl) ?_
  obtain ⟨r3, hr3, hf⟩ := ob_ hf
  refine r_getr (i := 1) S hI fcD (Nat.le_of_ble_eq_true rfl) kw_39 dD_removePlan_11 hr3 ?_
  refine lv_iload_n hx hb dD_removePlan_14 rfl (lv_at hl 1 rfl) ?_
  refine lv_aload_n hx hb dD_removePlan_15 rfl (lv_at hl 0 rfl) ?_
  obtain ⟨r4, hr4, hf⟩ := ob_ hf
  refine r_getr (i := 1) S hI fcD (Nat.le_of_ble_eq_true rfl) kw_39 dD_removePlan_16 hr4 ?_
  refine lv_aload_n hx hb dD_removePlan_19 rfl (lv_at hl 0 rfl) ?_
  obtain ⟨v5, hv5, hf⟩ := ob_ hf
  refine r_geti (i := 4) S hI fcD (Nat.le_of_ble_eq_true rfl) kw_42 dD_removePlan_20 hv5 ?_
  obtain ⟨v6, hv6, hf⟩ := ob_ hf
  refine r_ald S hI dD_removePlan_23 hv6 ?_
  obtain ⟨w7, hw7, hf⟩ := ob_ hf
  refine r_ast S hI dD_removePlan_24 hw7 (fun H locs hI => ?_)
  refine lv_aload_n hx hb dD_removePlan_25 rfl (lv_at hl 0 rfl) ?_
  obtain ⟨r8, hr8, hf⟩ := ob_ hf
  refine r_getr (i := 2) S hI fcD (Nat.le_of_ble_eq_true rfl) kw_40 dD_removePlan_26 hr8 ?_
  refine lv_iload_n hx hb dD_removePlan_29 rfl (lv_at hl 1 rfl) ?_
  refine lv_aload_n hx hb dD_removePlan_30 rfl (lv_at hl 0 rfl) ?_
  obtain ⟨r9, hr9, hf⟩ := ob_ hf
  refine r_getr (i := 2) S hI fcD (Nat.le_of_ble_eq_true rfl) kw_40 dD_removePlan_31 hr9 ?_
  refine lv_aload_n hx hb dD_removePlan_34 rfl (lv_at hl 0 rfl) ?_
  obtain ⟨v10, hv10, hf⟩ := ob_ hf
  refine r_geti (i := 4) S hI fcD (Nat.le_of_ble_eq_true rfl) kw_42 dD_removePlan_35 hv10 ?_
  obtain ⟨v11, hv11, hf⟩ := ob_ hf
  refine r_ald S hI dD_removePlan_38 hv11 ?_
  obtain ⟨w12, hw12, hf⟩ := ob_ hf
  refine r_ast S hI dD_removePlan_39 hw12 (fun H locs hI => ?_)
  refine lv_aload_n hx hb dD_removePlan_40 rfl (lv_at hl 0 rfl) ?_
  obtain ⟨r13, hr13, hf⟩ := ob_ hf
  refine r_getr (i := 3) S hI fcD (Nat.le_of_ble_eq_true rfl) kw_41 dD_removePlan_41 hr13 ?_
  refine lv_iload_n hx hb dD_removePlan_44 rfl (lv_at hl 1 rfl) ?_
  refine lv_aload_n hx hb dD_removePlan_45 rfl (lv_at hl 0 rfl) ?_
  obtain ⟨r14, hr14, hf⟩ := ob_ hf
  refine r_getr (i := 3) S hI fcD (Nat.le_of_ble_eq_true rfl) kw_41 dD_removePlan_46 hr14 ?_
  refine lv_aload_n hx hb dD_removePlan_49 rfl (lv_at hl 0 rfl) ?_
  obtain ⟨v15, hv15, hf⟩ := ob_ hf
  refine r_geti (i := 4) S hI fcD (Nat.le_of_ble_eq_true rfl) kw_42 dD_removePlan_50 hv15 ?_
  obtain ⟨v16, hv16, hf⟩ := ob_ hf
  refine r_ald S hI dD_removePlan_53 hv16 ?_
  obtain ⟨w17, hw17, hf⟩ := ob_ hf
  refine r_ast S hI dD_removePlan_54 hw17 (fun H locs hI => ?_)
  exact hret _ _ _ _ _ hI hf dD_removePlan_55
/-- GuardVolume$Drive.take(I[I)V -/
abbrev rmD_take : Room := { frames := 2, cells := 0, slots := 0, locals := 49 }
theorem pkD_take : Pk yD_take cD_take 6 none 2 := ⟨kw_318, kw_2, by decide +kernel, by decide +kernel, by decide +kernel⟩
def fD_take (Λ : La) (w : Wo) (c0 : Nat) (x1 : Int32) (c2 : Nat) : Option Wo := gd (isC Λ c0 0) ((fD_planOfNext Λ w c0 1).bind fun q1 => (gi Λ q1.1 c0 0 5).bind fun v2 => (pf Λ q1.1 c0 0 5 (v2 + 1)).bind fun w3 => if q1.2 = (-1) then ((fD_keep Λ w3 c0 x1 c2 11).bind fun w14 => some w14) else ((gr Λ c0 0 2).bind fun r5 => (ld Λ w3 r5 q1.2).bind fun v6 => (gr Λ c0 0 3).bind fun r7 => (ld Λ w3 r7 q1.2).bind fun v8 => (fD_removePlan Λ w3 c0 q1.2).bind fun w9 => if v6 = 1 then ((fD_keep Λ w9 c0 v8 c2 11).bind fun w13 => some w13) else (if v6 = 2 then ((fD_keep Λ w9 c0 x1 c2 v8).bind fun w12 => some w12) else (some w9))))
set_option maxHeartbeats 4000000 in
set_option maxRecDepth 100000 in
theorem kD_take (l : Launch) (G : va_G) (kA kL : ClassId) (Λ : La) (ad : Nat → Nat) (w : Wo) (c0 : Nat) (x1 : Int32) (c2 : Nat) (w1 : Wo) (hf : fD_take Λ w c0 x1 c2 = some w1) : Mv l yD_take cD_take 6 rmD_take G kA kL Λ ad [.ref (ad c0), .int x1, .ref (ad c2)] w w1 := by
  refine Mv.of (by decide +kernel) (Nat.le_of_ble_eq_true rfl) ?_
  intro p e s m args below meth c Q ls S hret hl hI
  have S : CallFix p m c cD_take 6 s args (.code yD_take cD_take 6 none :: gW) "GuardVolume$Drive" := S
  have hl : lv_has ls 6 [(0, .ref (ad c0)), (1, .int x1), (2, .ref (ad c2))] := hl
  have hx := S.1
  have hb := S.2.1
  unfold fD_take at hf
  have hf := (gd_some hf).2
  refine lv_aload_n hx hb dD_take_0 rfl (lv_at hl 0 rfl) ?_
  refine lv_iconst hx hb dD_take_1 kI_1 ?_
  obtain ⟨q1, hq1, hf⟩ := ob_ hf
  refine r_ci (r_V (rest := []) (As := [.int 1]) S hl hI (kD_planOfNext l G kA kL Λ ad w c0 1 q1.1 q1.2 hq1) pkD_planOfNext kw_321 ks_D_planOfNext (fcD).1 (gd_some hq1).1 kw_319 ⟨rfl, rfl⟩ ⟨Nat.le_of_ble_eq_true rfl, Nat.le_of_ble_eq_true rfl⟩ rfl rfl (Nat.le_of_ble_eq_true rfl) ⟨Nat.zero_le _, Nat.zero_le _⟩ dD_take_2) hI (fun H locs hI => ?_)
  refine lv_istore_n hx hb (lv' := [(3, .int q1.2), (0, .ref (ad c0)), (1, .int x1), (2, .ref (ad c2))]) dD_take_5 rfl hl (Nat.le_of_ble_eq_true rfl) rfl (fun ls hl => ?_)
  refine lv_aload_n hx hb dD_take_6 rfl (lv_at hl 1 rfl) ?_
  refine lv_dup hx hb dD_take_7 rfl ?_
  obtain ⟨v2, hv2, hf⟩ := ob_ hf
  refine r_geti (i := 5) S hI fcD (Nat.le_of_ble_eq_true rfl) kw_44 dD_take_8 hv2 ?_
  refine lv_iconst hx hb dD_take_11 kI_1 ?_
  refine lv_iadd hx hb dD_take_12 ?_
  obtain ⟨w3, hw3, hf⟩ := ob_ hf
  refine r_put (i := 5) S hI fcD (Nat.le_of_ble_eq_true rfl) kw_44 rfl rfl rfl dD_take_13 hw3 (fun H locs hI => ?_)
  refine lv_iload_n hx hb dD_take_16 rfl (lv_at hl 0 rfl) ?_
  refine lv_iconst hx hb dD_take_17 kI_m1 ?_
  refine lv_icmp_ne (tgt := 30) hx hb dD_take_18 rfl (fun h4 => ?_) (fun h4 => ?_)
  · have hf := in_ hf h4
    refine lv_aload_n hx hb dD_take_30 rfl (lv_at hl 1 rfl) ?_
    obtain ⟨r5, hr5, hf⟩ := ob_ hf
    refine r_getr (i := 2) S hI fcD (Nat.le_of_ble_eq_true rfl) kw_40 dD_take_31 hr5 ?_
    refine lv_iload_n hx hb dD_take_34 rfl (lv_at hl 0 rfl) ?_
    obtain ⟨v6, hv6, hf⟩ := ob_ hf
    refine r_ald S hI dD_take_35 hv6 ?_
    refine lv_istore hx hb (lv' := [(4, .int v6), (3, .int q1.2), (0, .ref (ad c0)), (1, .int x1), (2, .ref (ad c2))]) dD_take_36 hl (Nat.le_of_ble_eq_true rfl) rfl (fun ls hl => ?_)
    refine lv_aload_n hx hb dD_take_38 rfl (lv_at hl 2 rfl) ?_
    obtain ⟨r7, hr7, hf⟩ := ob_ hf
    refine r_getr (i := 3) S hI fcD (Nat.le_of_ble_eq_true rfl) kw_41 dD_take_39 hr7 ?_
    refine lv_iload_n hx hb dD_take_42 rfl (lv_at hl 1 rfl) ?_
    obtain ⟨v8, hv8, hf⟩ := ob_ hf
    refine r_ald S hI dD_take_43 hv8 ?_
    refine lv_istore hx hb (lv' := [(5, .int v8), (4, .int v6), (3, .int q1.2), (0, .ref (ad c0)), (1, .int x1), (2, .ref (ad c2))]) dD_take_44 hl (Nat.le_of_ble_eq_true rfl) rfl (fun ls hl => ?_)
    refine lv_aload_n hx hb dD_take_46 rfl (lv_at hl 3 rfl) ?_
    refine lv_iload_n hx hb dD_take_47 rfl (lv_at hl 2 rfl) ?_
    obtain ⟨w9, hw9, hf⟩ := ob_ hf
    refine r_cv (r_V (rest := []) (As := [.int q1.2]) S hl hI (kD_removePlan l G kA kL Λ ad w3 c0 q1.2 w9 hw9) pkD_removePlan kw_329 ks_D_removePlan (fcD).1 (gd_some hw9).1 kw_327 ⟨rfl, rfl⟩ ⟨Nat.le_of_ble_eq_true rfl, Nat.le_of_ble_eq_true rfl⟩ rfl rfl (Nat.le_of_ble_eq_true rfl) ⟨Nat.zero_le _, Nat.zero_le _⟩ dD_take_48) hI (fun H locs hI => ?_)
    refine lv_iload hx hb dD_take_51 (lv_at hl 1 rfl) ?_
    refine lv_iconst hx hb dD_take_53 kI_1 ?_
    refine lv_icmp_ne (tgt := 69) hx hb dD_take_54 rfl (fun h10 => ?_) (fun h10 => ?_)
    · have hf := in_ hf h10
      refine lv_iload hx hb dD_take_69 (lv_at hl 1 rfl) ?_
      refine lv_iconst hx hb dD_take_71 kI_2 ?_
      refine lv_icmp_ne (tgt := 83) hx hb dD_take_72 rfl (fun h11 => ?_) (fun h11 => ?_)
      · have hf := in_ hf h11
        exact hret _ _ _ _ _ hI hf dD_take_83
      · have hf := ip_ hf h11
        refine lv_aload_n hx hb dD_take_75 rfl (lv_at hl 3 rfl) ?_
        refine lv_iload_n hx hb dD_take_76 rfl (lv_at hl 4 rfl) ?_
        refine lv_aload_n hx hb dD_take_77 rfl (lv_at hl 5 rfl) ?_
        refine lv_iload hx hb dD_take_78 (lv_at hl 0 rfl) ?_
        obtain ⟨w12, hw12, hf⟩ := ob_ hf
        refine r_cv (r_V (rest := []) (As := [.int x1, .ref (ad c2), .int v8]) S hl hI (kD_keep l G kA kL Λ ad w9 c0 x1 c2 v8 w12 hw12) pkD_keep kw_325 ks_D_keep (fcD).1 (gd_some hw12).1 kw_323 ⟨rfl, rfl⟩ ⟨Nat.le_of_ble_eq_true rfl, Nat.le_of_ble_eq_true rfl⟩ rfl rfl (Nat.le_of_ble_eq_true rfl) ⟨Nat.zero_le _, Nat.zero_le _⟩ dD_take_80) hI (fun H locs hI => ?_)
        exact hret _ _ _ _ _ hI hf dD_take_83
    · have hf := ip_ hf h10
      refine lv_aload_n hx hb dD_take_57 rfl (lv_at hl 3 rfl) ?_
      refine lv_iload hx hb dD_take_58 (lv_at hl 0 rfl) ?_
      refine lv_aload_n hx hb dD_take_60 rfl (lv_at hl 5 rfl) ?_
      refine lv_bipush hx hb dD_take_61 kB_11 ?_
      obtain ⟨w13, hw13, hf⟩ := ob_ hf
      refine r_cv (r_V (rest := []) (As := [.int v8, .ref (ad c2), .int 11]) S hl hI (kD_keep l G kA kL Λ ad w9 c0 v8 c2 11 w13 hw13) pkD_keep kw_325 ks_D_keep (fcD).1 (gd_some hw13).1 kw_323 ⟨rfl, rfl⟩ ⟨Nat.le_of_ble_eq_true rfl, Nat.le_of_ble_eq_true rfl⟩ rfl rfl (Nat.le_of_ble_eq_true rfl) ⟨Nat.zero_le _, Nat.zero_le _⟩ dD_take_63) hI (fun H locs hI => ?_)
      refine lv_goto (tgt := 83) hx hb dD_take_66 rfl ?_
      exact hret _ _ _ _ _ hI hf dD_take_83
  · have hf := ip_ hf h4
    refine lv_aload_n hx hb dD_take_21 rfl (lv_at hl 1 rfl) ?_
    refine lv_iload_n hx hb dD_take_22 rfl (lv_at hl 2 rfl) ?_
    refine lv_aload_n hx hb dD_take_23 rfl (lv_at hl 3 rfl) ?_
    refine lv_bipush hx hb dD_take_24 kB_11 ?_
    obtain ⟨w14, hw14, hf⟩ := ob_ hf
    refine r_cv (r_V (rest := []) (As := [.int x1, .ref (ad c2), .int 11]) S hl hI (kD_keep l G kA kL Λ ad w3 c0 x1 c2 11 w14 hw14) pkD_keep kw_325 ks_D_keep (fcD).1 (gd_some hw14).1 kw_323 ⟨rfl, rfl⟩ ⟨Nat.le_of_ble_eq_true rfl, Nat.le_of_ble_eq_true rfl⟩ rfl rfl (Nat.le_of_ble_eq_true rfl) ⟨Nat.zero_le _, Nat.zero_le _⟩ dD_take_26) hI (fun H locs hI => ?_)
    exact hret _ _ _ _ _ hI hf dD_take_29

/-! written by walk.py: the functions that the bytecode computes, and the walks -/
/-- GuardVolume.raw(III)I -/
abbrev rmG_raw : Room := { frames := 6, cells := 1, slots := 6, locals := 81 }
theorem pkG_raw : Pk yG_raw cG_raw 4 (some .int) 3 := ⟨kw_447, kw_1, by decide +kernel, by decide +kernel, by decide +kernel⟩
def fG_raw (Λ : La) (w : Wo) (c0 : Nat) (x1 : Int32) (x2 : Int32) (x3 : Int32) : Option (Wo × Nat × Int32) := gd (isC Λ c0 4) ((fG_isBelow Λ w x1 2).bind fun q1 => if q1.2 = 0 then (some (q1.1, 1, 0)) else ((fG_isBelow Λ q1.1 x2 72).bind fun q3 => if q3.2 = 0 then (some (q3.1, 1, 0)) else ((fG_isBelow Λ q3.1 x3 11).bind fun q5 => if q5.2 = 0 then (some (q5.1, 1, 0)) else ((fG_driveOf Λ q5.1 c0 x1).bind fun q7 => (fD_at Λ q7.1 q7.2 x2 x3).bind fun q8 => some (q8.1, 0, q8.2)))))
set_option maxHeartbeats 4000000 in
set_option maxRecDepth 100000 in
theorem xG_raw (l : Launch) (hlt : l.stackTraces = false) (G : va_G) (kA kL : ClassId) (Λ : La) (ad : Nat → Nat) (w : Wo) (c0 : Nat) (x1 : Int32) (x2 : Int32) (x3 : Int32) (q : Wo × Nat × Int32) (hf : fG_raw Λ w c0 x1 x2 x3 = some q) : Xi l yG_raw cG_raw 4 (some .int) rmG_raw G kA kL Λ ad [.ref (ad c0), .int x1, .int x2, .int x3] w q := by
  refine Xi.of hlt (by decide +kernel) (Nat.le_of_ble_eq_true rfl) ⟨Nat.le_of_ble_eq_true rfl, Nat.le_of_ble_eq_true rfl, rfl, rfl⟩ ?_
  intro p e s m args below meth c Q ls S hret hthr hl hI
  have S : CallFix p m c cG_raw 4 s args (.code yG_raw cG_raw 4 (some .int) :: gW) "GuardVolume" := S
  have hl : lv_has ls 4 [(0, .ref (ad c0)), (1, .int x1), (2, .int x2), (3, .int x3)] := hl
  have hx := S.1
  have hb := S.2.1
  unfold fG_raw at hf
  have hf := (gd_some hf).2
  refine lv_iload_n hx hb dG_raw_0 rfl (lv_at hl 1 rfl) ?_
  refine lv_iconst hx hb dG_raw_1 kI_2 ?_
  obtain ⟨q1, hq1, hf⟩ := ob_ hf
  refine r_ci (r_S (rest := []) (As := [.int x1, .int 2]) S hl hI (kG_isBelow l G kA kL Λ ad w x1 2 q1.1 q1.2 hq1) pkG_isBelow kw_166 kw_165 ⟨rfl, rfl⟩ ⟨Nat.le_of_ble_eq_true rfl, Nat.le_of_ble_eq_true rfl⟩ rfl rfl (Nat.le_of_ble_eq_true rfl) ⟨Nat.zero_le _, Nat.zero_le _⟩ dG_raw_2) hI (fun H locs hI => ?_)
  refine lv_if_eq (tgt := 26) hx hb dG_raw_5 rfl (fun h2 => ?_) (fun h2 => ?_)
  · have hf := ip_ hf h2
    exact hthr _ _ _ _ _ _ _ _ _ hI hl hf th1 dG_raw_26 dG_raw_29 dG_raw_30 dG_raw_33
  · have hf := in_ hf h2
    refine lv_iload_n hx hb dG_raw_8 rfl (lv_at hl 2 rfl) ?_
    refine lv_bipush hx hb dG_raw_9 kB_72 ?_
    obtain ⟨q3, hq3, hf⟩ := ob_ hf
    refine r_ci (r_S (rest := []) (As := [.int x2, .int 72]) S hl hI (kG_isBelow l G kA kL Λ ad q1.1 x2 72 q3.1 q3.2 hq3) pkG_isBelow kw_166 kw_165 ⟨rfl, rfl⟩ ⟨Nat.le_of_ble_eq_true rfl, Nat.le_of_ble_eq_true rfl⟩ rfl rfl (Nat.le_of_ble_eq_true rfl) ⟨Nat.zero_le _, Nat.zero_le _⟩ dG_raw_11) hI (fun H locs hI => ?_)
    refine lv_if_eq (tgt := 26) hx hb dG_raw_14 rfl (fun h4 => ?_) (fun h4 => ?_)
    · have hf := ip_ hf h4
      exact hthr _ _ _ _ _ _ _ _ _ hI hl hf th1 dG_raw_26 dG_raw_29 dG_raw_30 dG_raw_33
    · have hf := in_ hf h4
      refine lv_iload_n hx hb dG_raw_17 rfl (lv_at hl 3 rfl) ?_
      refine lv_bipush hx hb dG_raw_18 kB_11 ?_
      obtain ⟨q5, hq5, hf⟩ := ob_ hf
      refine r_ci (r_S (rest := []) (As := [.int x3, .int 11]) S hl hI (kG_isBelow l G kA kL Λ ad q3.1 x3 11 q5.1 q5.2 hq5) pkG_isBelow kw_166 kw_165 ⟨rfl, rfl⟩ ⟨Nat.le_of_ble_eq_true rfl, Nat.le_of_ble_eq_true rfl⟩ rfl rfl (Nat.le_of_ble_eq_true rfl) ⟨Nat.zero_le _, Nat.zero_le _⟩ dG_raw_20) hI (fun H locs hI => ?_)
      refine lv_if_ne (tgt := 34) hx hb dG_raw_23 rfl (fun h6 => ?_) (fun h6 => ?_)
      · have hf := in_ hf h6
        refine lv_aload_n hx hb dG_raw_34 rfl (lv_at hl 0 rfl) ?_
        refine lv_iload_n hx hb dG_raw_35 rfl (lv_at hl 1 rfl) ?_
        obtain ⟨q7, hq7, hf⟩ := ob_ hf
        refine r_cr (r_V (rest := []) (As := [.int x1]) S hl hI (kG_driveOf l G kA kL Λ ad q5.1 c0 x1 q7.1 q7.2 hq7) pkG_driveOf kw_257 ks_G_driveOf (fcG).1 (gd_some hq7).1 kw_255 ⟨rfl, rfl⟩ ⟨Nat.le_of_ble_eq_true rfl, Nat.le_of_ble_eq_true rfl⟩ rfl rfl (Nat.le_of_ble_eq_true rfl) ⟨Nat.zero_le _, Nat.zero_le _⟩ dG_raw_36) hI (fun H locs hI => ?_)
        refine lv_iload_n hx hb dG_raw_39 rfl (lv_at hl 2 rfl) ?_
        refine lv_iload_n hx hb dG_raw_40 rfl (lv_at hl 3 rfl) ?_
        obtain ⟨q8, hq8, hf⟩ := ob_ hf
        refine r_ci (r_VN (rest := []) (As := [.int x2, .int x3]) S hl hI (kD_at l G kA kL Λ ad q7.1 q7.2 x2 x3 q8.1 q8.2 hq8) pkD_at kw_261 ks_D_at (fcD).1 (gd_some hq8).1 kn_259 ⟨rfl, rfl⟩ ⟨Nat.le_of_ble_eq_true rfl, Nat.le_of_ble_eq_true rfl⟩ rfl rfl (Nat.le_of_ble_eq_true rfl) ⟨Nat.zero_le _, Nat.zero_le _⟩ dG_raw_41) hI (fun H locs hI => ?_)
        exact hret _ _ _ _ _ _ hI hf dG_raw_44
      · have hf := ip_ hf h6
        exact hthr _ _ _ _ _ _ _ _ _ hI hl hf th1 dG_raw_26 dG_raw_29 dG_raw_30 dG_raw_33
/-- GuardVolume.replace(I)V -/
abbrev rmG_replace : Room := { frames := 6, cells := 1, slots := 6, locals := 81 }
theorem pkG_replace : Pk yG_replace cG_replace 2 none 1 := ⟨kw_454, kw_1, by decide +kernel, by decide +kernel, by decide +kernel⟩
def fG_replace (Λ : La) (w : Wo) (c0 : Nat) (x1 : Int32) : Option (Wo × Nat × Int32) := gd (isC Λ c0 4) ((fG_isBelow Λ w x1 2).bind fun q1 => if q1.2 = 0 then (some (q1.1, 1, 0)) else ((gr Λ c0 4 2).bind fun r3 => (gi Λ q1.1 r3 3 0).bind fun v4 => if v4 = 0 then (some (q1.1, 2, 0)) else ((fG_driveOf Λ q1.1 c0 x1).bind fun q6 => (fD_wipe Λ q6.1 q6.2).bind fun w7 => some (w7, 0, 0))))
set_option maxHeartbeats 4000000 in
set_option maxRecDepth 100000 in
theorem xG_replace (l : Launch) (hlt : l.stackTraces = false) (G : va_G) (kA kL : ClassId) (Λ : La) (ad : Nat → Nat) (w : Wo) (c0 : Nat) (x1 : Int32) (q : Wo × Nat × Int32) (hf : fG_replace Λ w c0 x1 = some q) : Xv l yG_replace cG_replace 2 rmG_replace G kA kL Λ ad [.ref (ad c0), .int x1] w q := by
  refine Xv.of hlt (by decide +kernel) (Nat.le_of_ble_eq_true rfl) ⟨Nat.le_of_ble_eq_true rfl, Nat.le_of_ble_eq_true rfl, rfl, rfl⟩ ?_
  intro p e s m args below meth c Q ls S hret hthr hl hI
  have S : CallFix p m c cG_replace 2 s args (.code yG_replace cG_replace 2 none :: gW) "GuardVolume" := S
  have hl : lv_has ls 2 [(0, .ref (ad c0)), (1, .int x1)] := hl
  have hx := S.1
  have hb := S.2.1
  unfold fG_replace at hf
  have hf := (gd_some hf).2
  refine lv_iload_n hx hb dG_replace_0 rfl (lv_at hl 1 rfl) ?_
  refine lv_iconst hx hb dG_replace_1 kI_2 ?_
  obtain ⟨q1, hq1, hf⟩ := ob_ hf
  refine r_ci (r_S (rest := []) (As := [.int x1, .int 2]) S hl hI (kG_isBelow l G kA kL Λ ad w x1 2 q1.1 q1.2 hq1) pkG_isBelow kw_166 kw_165 ⟨rfl, rfl⟩ ⟨Nat.le_of_ble_eq_true rfl, Nat.le_of_ble_eq_true rfl⟩ rfl rfl (Nat.le_of_ble_eq_true rfl) ⟨Nat.zero_le _, Nat.zero_le _⟩ dG_replace_2) hI (fun H locs hI => ?_)
  refine lv_if_ne (tgt := 16) hx hb dG_replace_5 rfl (fun h2 => ?_) (fun h2 => ?_)
  · have hf := in_ hf h2
    refine lv_aload_n hx hb dG_replace_16 rfl (lv_at hl 0 rfl) ?_
    obtain ⟨r3, hr3, hf⟩ := ob_ hf
    refine r_getr (i := 2) S hI fcG (Nat.le_of_ble_eq_true rfl) kw_115 dG_replace_17 hr3 ?_
    obtain ⟨v4, hv4, hf⟩ := ob_ hf
    refine r_getiN (i := 0) S hI fcP (Nat.le_of_ble_eq_true rfl) kn_67 dG_replace_20 hv4 ?_
    refine lv_if_ne (tgt := 34) hx hb dG_replace_23 rfl (fun h5 => ?_) (fun h5 => ?_)
    · have hf := in_ hf h5
      refine lv_aload_n hx hb dG_replace_34 rfl (lv_at hl 0 rfl) ?_
      refine lv_iload_n hx hb dG_replace_35 rfl (lv_at hl 1 rfl) ?_
      obtain ⟨q6, hq6, hf⟩ := ob_ hf
      refine r_cr (r_V (rest := []) (As := [.int x1]) S hl hI (kG_driveOf l G kA kL Λ ad q1.1 c0 x1 q6.1 q6.2 hq6) pkG_driveOf kw_257 ks_G_driveOf (fcG).1 (gd_some hq6).1 kw_255 ⟨rfl, rfl⟩ ⟨Nat.le_of_ble_eq_true rfl, Nat.le_of_ble_eq_true rfl⟩ rfl rfl (Nat.le_of_ble_eq_true rfl) ⟨Nat.zero_le _, Nat.zero_le _⟩ dG_replace_36) hI (fun H locs hI => ?_)
      obtain ⟨w7, hw7, hf⟩ := ob_ hf
      refine r_cv (r_VN (rest := []) (As := []) S hl hI (kD_wipe l G kA kL Λ ad q6.1 q6.2 w7 hw7) pkD_wipe kw_457 ks_D_wipe (fcD).1 (gd_some hw7).1 kn_455 ⟨rfl, rfl⟩ ⟨Nat.le_of_ble_eq_true rfl, Nat.le_of_ble_eq_true rfl⟩ rfl rfl (Nat.le_of_ble_eq_true rfl) ⟨Nat.zero_le _, Nat.zero_le _⟩ dG_replace_39) hI (fun H locs hI => ?_)
      exact hret _ _ _ _ _ hI hf dG_replace_42
    · have hf := ip_ hf h5
      exact hthr _ _ _ _ _ _ _ _ _ hI hl hf th2 dG_replace_26 dG_replace_29 dG_replace_30 dG_replace_33
  · have hf := ip_ hf h2
    exact hthr _ _ _ _ _ _ _ _ _ hI hl hf th1 dG_replace_8 dG_replace_11 dG_replace_12 dG_replace_15
/-- GuardVolume.rebuild(I)I -/
abbrev rmG_rebuild : Room := { frames := 7, cells := 1, slots := 6, locals := 173 }
theorem pkG_rebuild : Pk yG_rebuild cG_rebuild 5 (some .int) 1 := ⟨kw_466, kw_1, by decide +kernel, by decide +kernel, by decide +kernel⟩
def bG_rebuild_76 (Λ : La) (K38 : Wo → Nat → Int32 → Int32 → Int32 → Option (Wo × Nat × Int32)) (w : Wo) (c0 : Nat) (x1 : Int32) (x2 : Int32) (x3 : Int32) : Option (Wo × Nat × Int32) := K38 w c0 x1 x2 (x3 + 1)
def bG_rebuild_38s (Λ : La) (K38 : Wo → Nat → Int32 → Int32 → Int32 → Option (Wo × Nat × Int32)) (w : Wo) (c0 : Nat) (x1 : Int32) (x2 : Int32) (x3 : Int32) : Option (Wo × Nat × Int32) := if 64 ≤ x3 then (some (w, 0, x2)) else ((fG_goodCopy Λ w c0 x3).bind fun q2 => if q2.2 = (-1) then (bG_rebuild_76 Λ K38 q2.1 c0 x1 (x2 + 1) x3) else ((fG_rebuildBlock Λ q2.1 c0 x1 x3 q2.2).bind fun q4 => if q4.2 = 0 then (some (q4.1, 0, (-1))) else (bG_rebuild_76 Λ K38 q4.1 c0 x1 x2 x3)))
def bG_rebuild_38 (Λ : La) : Nat → Wo → Nat → Int32 → Int32 → Int32 → Option (Wo × Nat × Int32)
  | 0 => fun _ _ _ _ _ => none
  | n + 1 => bG_rebuild_38s Λ (bG_rebuild_38 Λ n)
def fG_rebuild (Λ : La) (w : Wo) (c0 : Nat) (x1 : Int32) : Option (Wo × Nat × Int32) := gd (isC Λ c0 4) ((fG_isBelow Λ w x1 2).bind fun q6 => if q6.2 = 0 then (some (q6.1, 1, 0)) else ((gr Λ c0 4 2).bind fun r8 => (gi Λ q6.1 r8 3 0).bind fun v9 => if v9 = 0 then (some (q6.1, 2, 0)) else (bG_rebuild_38 Λ 1000 q6.1 c0 x1 0 0)))
set_option maxHeartbeats 4000000 in
set_option maxRecDepth 100000 in
theorem xG_rebuild (l : Launch) (hlt : l.stackTraces = false) (G : va_G) (kA kL : ClassId) (Λ : La) (ad : Nat → Nat) (w : Wo) (c0 : Nat) (x1 : Int32) (q : Wo × Nat × Int32) (hf : fG_rebuild Λ w c0 x1 = some q) : Xi l yG_rebuild cG_rebuild 5 (some .int) rmG_rebuild G kA kL Λ ad [.ref (ad c0), .int x1] w q := by
  refine Xi.of hlt (by decide +kernel) (Nat.le_of_ble_eq_true rfl) ⟨Nat.le_of_ble_eq_true rfl, Nat.le_of_ble_eq_true rfl, rfl, rfl⟩ ?_
  intro p e s m args below meth c Q ls S hret hthr hl hI
  have S : CallFix p m c cG_rebuild 5 s args (.code yG_rebuild cG_rebuild 5 (some .int) :: gW) "GuardVolume" := S
  have hl : lv_has ls 5 [(0, .ref (ad c0)), (1, .int x1)] := hl
  have hx := S.1
  have hb := S.2.1
  have bk76 : ∀ (K38 : Wo → Nat → Int32 → Int32 → Int32 → Option (Wo × Nat × Int32)), (∀ (w : Wo) (c0 : Nat) (x1 : Int32) (x2 : Int32) (x3 : Int32) (H : Heap) (locs : List Loc) (ls : Array Slot), lv_has ls 5 [(0, .ref (ad c0)), (1, .int x1), (2, .int x2), (3, .int x3)] → Iv (Aa Λ ad) G kA kL Λ ad w s H locs → K38 w c0 x1 x2 x3 = some q → W p l e rmG_rebuild s m args below meth c H locs 0 0 Q (F0 m 38 ls [])) → ∀ (w : Wo) (c0 : Nat) (x1 : Int32) (x2 : Int32) (x3 : Int32) (H : Heap) (locs : List Loc) (ls : Array Slot), lv_has ls 5 [(0, .ref (ad c0)), (1, .int x1), (2, .int x2), (3, .int x3)] → Iv (Aa Λ ad) G kA kL Λ ad w s H locs → bG_rebuild_76 Λ K38 w c0 x1 x2 x3 = some q → W p l e rmG_rebuild s m args below meth c H locs 0 0 Q (F0 m 76 ls []) := by
    intro K38 hK38 w c0 x1 x2 x3 H locs ls hl hI hf
    unfold bG_rebuild_76 at hf
    refine lv_iinc hx hb (lv' := [(3, .int (x3 + 1)), (0, .ref (ad c0)), (1, .int x1), (2, .int x2)]) (k := 3) dG_rebuild_76 hl rfl (kN_1 _) (Nat.le_of_ble_eq_true rfl) rfl (fun ls hl => ?_)
    refine lv_goto (tgt := 38) hx hb dG_rebuild_79 rfl ?_
    exact hK38 w c0 x1 x2 (x3 + 1) _ _ _ (lv_sub hl [1, 2, 3, 0] rfl) hI hf
  have bk38 : ∀ (K38 : Wo → Nat → Int32 → Int32 → Int32 → Option (Wo × Nat × Int32)), (∀ (w : Wo) (c0 : Nat) (x1 : Int32) (x2 : Int32) (x3 : Int32) (H : Heap) (locs : List Loc) (ls : Array Slot), lv_has ls 5 [(0, .ref (ad c0)), (1, .int x1), (2, .int x2), (3, .int x3)] → Iv (Aa Λ ad) G kA kL Λ ad w s H locs → K38 w c0 x1 x2 x3 = some q → W p l e rmG_rebuild s m args below meth c H locs 0 0 Q (F0 m 38 ls [])) → ∀ (w : Wo) (c0 : Nat) (x1 : Int32) (x2 : Int32) (x3 : Int32) (H : Heap) (locs : List Loc) (ls : Array Slot), lv_has ls 5 [(0, .ref (ad c0)), (1, .int x1), (2, .int x2), (3, .int x3)] → Iv (Aa Λ ad) G kA kL Λ ad w s H locs → bG_rebuild_38s Λ K38 w c0 x1 x2 x3 = some q → W p l e rmG_rebuild s m args below meth c H locs 0 0 Q (F0 m 38 ls []) := by
    intro K38 hK38 w c0 x1 x2 x3 H locs ls hl hI hf
    unfold bG_rebuild_38s at hf
    refine lv_iload_n hx hb dG_rebuild_38 rfl (lv_at hl 3 rfl) ?_
    refine lv_bipush hx hb dG_rebuild_39 kB_64 ?_
    refine lv_icmp_ge (tgt := 82) hx hb dG_rebuild_41 rfl (fun h1 => ?_) (fun h1 => ?_)
    · have hf := ip_ hf h1
      refine lv_iload_n hx hb dG_rebuild_82 rfl (lv_at hl 2 rfl) ?_
      exact hret _ _ _ _ _ _ hI hf dG_rebuild_83
    · have hf := in_ hf h1
      refine lv_aload_n hx hb dG_rebuild_44 rfl (lv_at hl 0 rfl) ?_
      refine lv_iload_n hx hb dG_rebuild_45 rfl (lv_at hl 3 rfl) ?_
      obtain ⟨q2, hq2, hf⟩ := ob_ hf
      refine r_ci (r_V (rest := []) (As := [.int x3]) S hl hI (kG_goodCopy l G kA kL Λ ad w c0 x3 q2.1 q2.2 hq2) pkG_goodCopy kw_249 ks_G_goodCopy (fcG).1 (gd_some hq2).1 kw_247 ⟨rfl, rfl⟩ ⟨Nat.le_of_ble_eq_true rfl, Nat.le_of_ble_eq_true rfl⟩ rfl rfl (Nat.le_of_ble_eq_true rfl) ⟨Nat.zero_le _, Nat.zero_le _⟩ dG_rebuild_46) hI (fun H locs hI => ?_)
      refine lv_istore hx hb (lv' := [(4, .int q2.2), (0, .ref (ad c0)), (1, .int x1), (2, .int x2), (3, .int x3)]) dG_rebuild_49 hl (Nat.le_of_ble_eq_true rfl) rfl (fun ls hl => ?_)
      refine lv_iload hx hb dG_rebuild_51 (lv_at hl 0 rfl) ?_
      refine lv_iconst hx hb dG_rebuild_53 kI_m1 ?_
      refine lv_icmp_ne (tgt := 63) hx hb dG_rebuild_54 rfl (fun h3 => ?_) (fun h3 => ?_)
      · have hf := in_ hf h3
        refine lv_aload_n hx hb dG_rebuild_63 rfl (lv_at hl 1 rfl) ?_
        refine lv_iload_n hx hb dG_rebuild_64 rfl (lv_at hl 2 rfl) ?_
        refine lv_iload_n hx hb dG_rebuild_65 rfl (lv_at hl 4 rfl) ?_
        refine lv_iload hx hb dG_rebuild_66 (lv_at hl 0 rfl) ?_
        obtain ⟨q4, hq4, hf⟩ := ob_ hf
        refine r_ci (r_V (rest := []) (As := [.int x1, .int x3, .int q2.2]) S hl hI (kG_rebuildBlock l G kA kL Λ ad q2.1 c0 x1 x3 q2.2 q4.1 q4.2 hq4) pkG_rebuildBlock kw_469 ks_G_rebuildBlock (fcG).1 (gd_some hq4).1 kw_467 ⟨rfl, rfl⟩ ⟨Nat.le_of_ble_eq_true rfl, Nat.le_of_ble_eq_true rfl⟩ rfl rfl (Nat.le_of_ble_eq_true rfl) ⟨Nat.zero_le _, Nat.zero_le _⟩ dG_rebuild_68) hI (fun H locs hI => ?_)
        refine lv_if_ne (tgt := 76) hx hb dG_rebuild_71 rfl (fun h5 => ?_) (fun h5 => ?_)
        · have hf := in_ hf h5
          exact bk76 K38 hK38 q4.1 c0 x1 x2 x3 _ _ _ (lv_sub hl [1, 2, 3, 4] rfl) hI hf
        · have hf := ip_ hf h5
          refine lv_iconst hx hb dG_rebuild_74 kI_m1 ?_
          exact hret _ _ _ _ _ _ hI hf dG_rebuild_75
      · have hf := ip_ hf h3
        refine lv_iinc hx hb (lv' := [(2, .int (x2 + 1)), (4, .int q2.2), (0, .ref (ad c0)), (1, .int x1), (3, .int x3)]) (k := 3) dG_rebuild_57 hl rfl (kN_1 _) (Nat.le_of_ble_eq_true rfl) rfl (fun ls hl => ?_)
        refine lv_goto (tgt := 76) hx hb dG_rebuild_60 rfl ?_
        exact bk76 K38 hK38 q2.1 c0 x1 (x2 + 1) x3 _ _ _ (lv_sub hl [2, 3, 0, 4] rfl) hI hf
  have lp38 : ∀ (n : Nat), ∀ (w : Wo) (c0 : Nat) (x1 : Int32) (x2 : Int32) (x3 : Int32) (H : Heap) (locs : List Loc) (ls : Array Slot), lv_has ls 5 [(0, .ref (ad c0)), (1, .int x1), (2, .int x2), (3, .int x3)] → Iv (Aa Λ ad) G kA kL Λ ad w s H locs → bG_rebuild_38 Λ n w c0 x1 x2 x3 = some q → W p l e rmG_rebuild s m args below meth c H locs 0 0 Q (F0 m 38 ls []) := by
    intro n
    induction n with
    | zero =>
      intro w c0 x1 x2 x3 H locs ls hl hI hf
      have hf : (none : Option (Wo × Nat × Int32)) = some q := hf
      cases hf
    | succ n ih =>
      intro w c0 x1 x2 x3 H locs ls hl hI hf
      exact bk38 (bG_rebuild_38 Λ n) ih w c0 x1 x2 x3 H locs ls hl hI hf
  unfold fG_rebuild at hf
  have hf := (gd_some hf).2
  refine lv_iload_n hx hb dG_rebuild_0 rfl (lv_at hl 1 rfl) ?_
  refine lv_iconst hx hb dG_rebuild_1 kI_2 ?_
  obtain ⟨q6, hq6, hf⟩ := ob_ hf
  refine r_ci (r_S (rest := []) (As := [.int x1, .int 2]) S hl hI (kG_isBelow l G kA kL Λ ad w x1 2 q6.1 q6.2 hq6) pkG_isBelow kw_166 kw_165 ⟨rfl, rfl⟩ ⟨Nat.le_of_ble_eq_true rfl, Nat.le_of_ble_eq_true rfl⟩ rfl rfl (Nat.le_of_ble_eq_true rfl) ⟨Nat.zero_le _, Nat.zero_le _⟩ dG_rebuild_2) hI (fun H locs hI => ?_)
  refine lv_if_ne (tgt := 16) hx hb dG_rebuild_5 rfl (fun h7 => ?_) (fun h7 => ?_)
  · have hf := in_ hf h7
    refine lv_aload_n hx hb dG_rebuild_16 rfl (lv_at hl 0 rfl) ?_
    obtain ⟨r8, hr8, hf⟩ := ob_ hf
    refine r_getr (i := 2) S hI fcG (Nat.le_of_ble_eq_true rfl) kw_115 dG_rebuild_17 hr8 ?_
    obtain ⟨v9, hv9, hf⟩ := ob_ hf
    refine r_getiN (i := 0) S hI fcP (Nat.le_of_ble_eq_true rfl) kn_67 dG_rebuild_20 hv9 ?_
    refine lv_if_ne (tgt := 34) hx hb dG_rebuild_23 rfl (fun h10 => ?_) (fun h10 => ?_)
    · have hf := in_ hf h10
      refine lv_iconst hx hb dG_rebuild_34 kI_0 ?_
      refine lv_istore_n hx hb (lv' := [(2, .int 0), (0, .ref (ad c0)), (1, .int x1)]) dG_rebuild_35 rfl hl (Nat.le_of_ble_eq_true rfl) rfl (fun ls hl => ?_)
      refine lv_iconst hx hb dG_rebuild_36 kI_0 ?_
      refine lv_istore_n hx hb (lv' := [(3, .int 0), (2, .int 0), (0, .ref (ad c0)), (1, .int x1)]) dG_rebuild_37 rfl hl (Nat.le_of_ble_eq_true rfl) rfl (fun ls hl => ?_)
      exact lp38 1000 q6.1 c0 x1 0 0 _ _ _ (lv_sub hl [2, 3, 1, 0] rfl) hI hf
    · have hf := ip_ hf h10
      exact hthr _ _ _ _ _ _ _ _ _ hI hl hf th2 dG_rebuild_26 dG_rebuild_29 dG_rebuild_30 dG_rebuild_33
  · have hf := ip_ hf h7
    exact hthr _ _ _ _ _ _ _ _ _ hI hl hf th1 dG_rebuild_8 dG_rebuild_11 dG_rebuild_12 dG_rebuild_15
/-- GuardVolume.count(I)I -/
abbrev rmG_count : Room := { frames := 6, cells := 1, slots := 6, locals := 81 }
theorem pkG_count : Pk yG_count cG_count 2 (some .int) 1 := ⟨kw_477, kw_1, by decide +kernel, by decide +kernel, by decide +kernel⟩
def fG_count (Λ : La) (w : Wo) (c0 : Nat) (x1 : Int32) : Option (Wo × Nat × Int32) := gd (isC Λ c0 4) (if x1 = 0 then ((gr Λ c0 4 0).bind fun r2 => (gi Λ w r2 0 5).bind fun v3 => some (w, 0, v3)) else (if x1 = 1 then ((gr Λ c0 4 1).bind fun r5 => (gi Λ w r5 0 5).bind fun v6 => some (w, 0, v6)) else (if x1 = 2 then ((gr Λ c0 4 0).bind fun r8 => (gi Λ w r8 0 4).bind fun v9 => some (w, 0, v9)) else (if x1 = 3 then ((gr Λ c0 4 1).bind fun r11 => (gi Λ w r11 0 4).bind fun v12 => some (w, 0, v12)) else (if x1 = 4 then ((gr Λ c0 4 2).bind fun r14 => (gi Λ w r14 3 0).bind fun v15 => if v15 = 0 then (some (w, 0, 0)) else (some (w, 0, 1))) else (if x1 = 5 then ((gr Λ c0 4 3).bind fun r18 => (gi Λ w r18 2 1).bind fun v19 => some (w, 0, v19)) else (if x1 = 6 then ((gi Λ w c0 4 7).bind fun v21 => some (w, 0, v21)) else (if x1 = 7 then ((fG_greatestPageVersion Λ w c0).bind fun q23 => some (q23.1, 0, q23.2)) else (some (w, 1, 0))))))))))
set_option maxHeartbeats 4000000 in
set_option maxRecDepth 100000 in
theorem xG_count (l : Launch) (hlt : l.stackTraces = false) (G : va_G) (kA kL : ClassId) (Λ : La) (ad : Nat → Nat) (w : Wo) (c0 : Nat) (x1 : Int32) (q : Wo × Nat × Int32) (hf : fG_count Λ w c0 x1 = some q) : Xi l yG_count cG_count 2 (some .int) rmG_count G kA kL Λ ad [.ref (ad c0), .int x1] w q := by
  refine Xi.of hlt (by decide +kernel) (Nat.le_of_ble_eq_true rfl) ⟨Nat.le_of_ble_eq_true rfl, Nat.le_of_ble_eq_true rfl, rfl, rfl⟩ ?_
  intro p e s m args below meth c Q ls S hret hthr hl hI
  have S : CallFix p m c cG_count 2 s args (.code yG_count cG_count 2 (some .int) :: gW) "GuardVolume" := S
  have hl : lv_has ls 2 [(0, .ref (ad c0)), (1, .int x1)] := hl
  have hx := S.1
  have hb := S.2.1
  unfold fG_count at hf
  have hf := (gd_some hf).2
  refine lv_iload_n hx hb dG_count_0 rfl (lv_at hl 1 rfl) ?_
  refine tsw_c (k := 0) (tgt := 48) (off := 47) hx hb dG_count_1 (by decide) (by decide) rfl rfl (fun h1 => ?_) (fun h1 => ?_)
  · have hf := ip_ hf h1
    refine lv_aload_n hx hb dG_count_48 rfl (lv_at hl 0 rfl) ?_
    obtain ⟨r2, hr2, hf⟩ := ob_ hf
    refine r_getr (i := 0) S hI fcG (Nat.le_of_ble_eq_true rfl) kw_113 dG_count_49 hr2 ?_
    obtain ⟨v3, hv3, hf⟩ := ob_ hf
    refine r_getiN (i := 5) S hI fcD (Nat.le_of_ble_eq_true rfl) kn_45 dG_count_52 hv3 ?_
    exact hret _ _ _ _ _ _ hI hf dG_count_55
  have hf := in_ hf h1
  refine tsw_c (k := 1) (tgt := 56) (off := 55) hx hb dG_count_1 (by decide) (by decide) rfl rfl (fun h4 => ?_) (fun h4 => ?_)
  · have hf := ip_ hf h4
    refine lv_aload_n hx hb dG_count_56 rfl (lv_at hl 0 rfl) ?_
    obtain ⟨r5, hr5, hf⟩ := ob_ hf
    refine r_getr (i := 1) S hI fcG (Nat.le_of_ble_eq_true rfl) kw_114 dG_count_57 hr5 ?_
    obtain ⟨v6, hv6, hf⟩ := ob_ hf
    refine r_getiN (i := 5) S hI fcD (Nat.le_of_ble_eq_true rfl) kn_45 dG_count_60 hv6 ?_
    exact hret _ _ _ _ _ _ hI hf dG_count_63
  have hf := in_ hf h4
  refine tsw_c (k := 2) (tgt := 64) (off := 63) hx hb dG_count_1 (by decide) (by decide) rfl rfl (fun h7 => ?_) (fun h7 => ?_)
  · have hf := ip_ hf h7
    refine lv_aload_n hx hb dG_count_64 rfl (lv_at hl 0 rfl) ?_
    obtain ⟨r8, hr8, hf⟩ := ob_ hf
    refine r_getr (i := 0) S hI fcG (Nat.le_of_ble_eq_true rfl) kw_113 dG_count_65 hr8 ?_
    obtain ⟨v9, hv9, hf⟩ := ob_ hf
    refine r_getiN (i := 4) S hI fcD (Nat.le_of_ble_eq_true rfl) kn_43 dG_count_68 hv9 ?_
    exact hret _ _ _ _ _ _ hI hf dG_count_71
  have hf := in_ hf h7
  refine tsw_c (k := 3) (tgt := 72) (off := 71) hx hb dG_count_1 (by decide) (by decide) rfl rfl (fun h10 => ?_) (fun h10 => ?_)
  · have hf := ip_ hf h10
    refine lv_aload_n hx hb dG_count_72 rfl (lv_at hl 0 rfl) ?_
    obtain ⟨r11, hr11, hf⟩ := ob_ hf
    refine r_getr (i := 1) S hI fcG (Nat.le_of_ble_eq_true rfl) kw_114 dG_count_73 hr11 ?_
    obtain ⟨v12, hv12, hf⟩ := ob_ hf
    refine r_getiN (i := 4) S hI fcD (Nat.le_of_ble_eq_true rfl) kn_43 dG_count_76 hv12 ?_
    exact hret _ _ _ _ _ _ hI hf dG_count_79
  have hf := in_ hf h10
  refine tsw_c (k := 4) (tgt := 80) (off := 79) hx hb dG_count_1 (by decide) (by decide) rfl rfl (fun h13 => ?_) (fun h13 => ?_)
  · have hf := ip_ hf h13
    refine lv_aload_n hx hb dG_count_80 rfl (lv_at hl 0 rfl) ?_
    obtain ⟨r14, hr14, hf⟩ := ob_ hf
    refine r_getr (i := 2) S hI fcG (Nat.le_of_ble_eq_true rfl) kw_115 dG_count_81 hr14 ?_
    obtain ⟨v15, hv15, hf⟩ := ob_ hf
    refine r_getiN (i := 0) S hI fcP (Nat.le_of_ble_eq_true rfl) kn_67 dG_count_84 hv15 ?_
    refine lv_if_eq (tgt := 94) hx hb dG_count_87 rfl (fun h16 => ?_) (fun h16 => ?_)
    · have hf := ip_ hf h16
      refine lv_iconst hx hb dG_count_94 kI_0 ?_
      exact hret _ _ _ _ _ _ hI hf dG_count_95
    · have hf := in_ hf h16
      refine lv_iconst hx hb dG_count_90 kI_1 ?_
      refine lv_goto (tgt := 95) hx hb dG_count_91 rfl ?_
      exact hret _ _ _ _ _ _ hI hf dG_count_95
  have hf := in_ hf h13
  refine tsw_c (k := 5) (tgt := 96) (off := 95) hx hb dG_count_1 (by decide) (by decide) rfl rfl (fun h17 => ?_) (fun h17 => ?_)
  · have hf := ip_ hf h17
    refine lv_aload_n hx hb dG_count_96 rfl (lv_at hl 0 rfl) ?_
    obtain ⟨r18, hr18, hf⟩ := ob_ hf
    refine r_getr (i := 3) S hI fcG (Nat.le_of_ble_eq_true rfl) kw_116 dG_count_97 hr18 ?_
    obtain ⟨v19, hv19, hf⟩ := ob_ hf
    refine r_getiN (i := 1) S hI fcJ (Nat.le_of_ble_eq_true rfl) kn_84 dG_count_100 hv19 ?_
    exact hret _ _ _ _ _ _ hI hf dG_count_103
  have hf := in_ hf h17
  refine tsw_c (k := 6) (tgt := 104) (off := 103) hx hb dG_count_1 (by decide) (by decide) rfl rfl (fun h20 => ?_) (fun h20 => ?_)
  · have hf := ip_ hf h20
    refine lv_aload_n hx hb dG_count_104 rfl (lv_at hl 0 rfl) ?_
    obtain ⟨v21, hv21, hf⟩ := ob_ hf
    refine r_geti (i := 7) S hI fcG (Nat.le_of_ble_eq_true rfl) kw_120 dG_count_105 hv21 ?_
    exact hret _ _ _ _ _ _ hI hf dG_count_108
  have hf := in_ hf h20
  refine tsw_c (k := 7) (tgt := 109) (off := 108) hx hb dG_count_1 (by decide) (by decide) rfl rfl (fun h22 => ?_) (fun h22 => ?_)
  · have hf := ip_ hf h22
    refine lv_aload_n hx hb dG_count_109 rfl (lv_at hl 0 rfl) ?_
    obtain ⟨q23, hq23, hf⟩ := ob_ hf
    refine r_ci (r_V (rest := []) (As := []) S hl hI (kG_greatestPageVersion l G kA kL Λ ad w c0 q23.1 q23.2 hq23) pkG_greatestPageVersion kw_480 ks_G_greatestPageVersion (fcG).1 (gd_some hq23).1 kw_478 ⟨rfl, rfl⟩ ⟨Nat.le_of_ble_eq_true rfl, Nat.le_of_ble_eq_true rfl⟩ rfl rfl (Nat.le_of_ble_eq_true rfl) ⟨Nat.zero_le _, Nat.zero_le _⟩ dG_count_110) hI (fun H locs hI => ?_)
    exact hret _ _ _ _ _ _ hI hf dG_count_113
  have hf := in_ hf h22
  refine lv_tableOut (tgt := 114) hx hb dG_count_1 (tsw_o8 h1 h4 h7 h10 h13 h17 h20 h22) rfl ?_
  exact hthr _ _ _ _ _ _ _ _ _ hI hl hf th1 dG_count_114 dG_count_117 dG_count_118 dG_count_121

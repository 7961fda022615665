/-! written by walk.py: the functions that the bytecode computes, and the walks -/
/-- GuardVolumeModel.scrub(I)I -/
abbrev rmM_scrub : Room := { frames := 7, cells := 0, slots := 0, locals := 162 }
theorem pkM_scrub : Pk yM_scrub cM_scrub 3 (some .int) 1 := ⟨kw_660, kw_7, by decide +kernel, by decide +kernel, by decide +kernel⟩
def bM_scrub_86 (Λ : La) (w : Wo) (c0 : Nat) : Option (Wo × Int32) := (gi Λ w c0 5 16).bind fun v1 => some (w, v1)
def bM_scrub_80 (Λ : La) (K37 : Wo → Nat → Int32 → Int32 → Option (Wo × Int32)) (w : Wo) (c0 : Nat) (x1 : Int32) (x2 : Int32) : Option (Wo × Int32) := K37 w c0 x1 (x2 + 1)
def bM_scrub_37s (Λ : La) (K37 : Wo → Nat → Int32 → Int32 → Option (Wo × Int32)) (w : Wo) (c0 : Nat) (x1 : Int32) (x2 : Int32) : Option (Wo × Int32) := if x1 ≤ x2 then (bM_scrub_86 Λ w c0) else ((gi Λ w c0 5 0).bind fun v3 => if v3 = 0 then ((gi Λ w c0 5 6).bind fun v5 => if v5 = 0 then ((gi Λ w c0 5 14).bind fun v7 => (fM_scrubOf Λ w c0 v7).bind fun q8 => if q8.2 = 0 then (bM_scrub_80 Λ K37 q8.1 c0 x1 x2) else ((gi Λ q8.1 c0 5 14).bind fun v10 => (pf Λ q8.1 c0 5 14 ((v10 + 1) - (v10 + 1) / 64 * 64)).bind fun w11 => bM_scrub_80 Λ K37 w11 c0 x1 x2)) else (bM_scrub_86 Λ w c0)) else (bM_scrub_86 Λ w c0))
def bM_scrub_37 (Λ : La) : Nat → Wo → Nat → Int32 → Int32 → Option (Wo × Int32)
  | 0 => fun _ _ _ _ => none
  | n + 1 => bM_scrub_37s Λ (bM_scrub_37 Λ n)
def bM_scrub_27 (Λ : La) (w : Wo) (c0 : Nat) (x1 : Int32) (t0 : Nat) (s1 : Int32) : Option (Wo × Int32) := (pf Λ w t0 5 0 s1).bind fun w12 => (pf Λ w12 c0 5 16 0).bind fun w13 => bM_scrub_37 Λ 1000 w13 c0 x1 0
def bM_scrub_22 (Λ : La) (w : Wo) (c0 : Nat) (x1 : Int32) (t0 : Nat) : Option (Wo × Int32) := bM_scrub_27 Λ w c0 x1 t0 2
def fM_scrub (Λ : La) (w : Wo) (c0 : Nat) (x1 : Int32) : Option (Wo × Int32) := gd (isC Λ c0 5) ((gi Λ w c0 5 6).bind fun v14 => if v14 = 0 then (if x1 < 0 then (bM_scrub_22 Λ w c0 x1 c0) else (if x1 ≤ 64 then (bM_scrub_27 Λ w c0 x1 c0 0) else (bM_scrub_22 Λ w c0 x1 c0))) else (bM_scrub_27 Λ w c0 x1 c0 1))
set_option maxHeartbeats 4000000 in
set_option maxRecDepth 100000 in
theorem kM_scrub (l : Launch) (G : va_G) (kA kL : ClassId) (Λ : La) (ad : Nat → Nat) (w : Wo) (c0 : Nat) (x1 : Int32) (w1 : Wo) (r : Int32) (hf : fM_scrub Λ w c0 x1 = some (w1, r)) : Mi l yM_scrub cM_scrub 3 (some .int) rmM_scrub G kA kL Λ ad [.ref (ad c0), .int x1] w w1 r := by
  refine Mi.of (by decide +kernel) (Nat.le_of_ble_eq_true rfl) ?_
  intro p e s m args below meth c Q ls S hret hl hI
  have S : CallFix p m c cM_scrub 3 s args (.code yM_scrub cM_scrub 3 (some .int) :: gW) "GuardVolumeModel" := S
  have hl : lv_has ls 3 [(0, .ref (ad c0)), (1, .int x1)] := hl
  have hx := S.1
  have hb := S.2.1
  have bk86 : ∀ (w : Wo) (c0 : Nat) (H : Heap) (locs : List Loc) (ls : Array Slot), lv_has ls 3 [(0, .ref (ad c0))] → Iv (Aa Λ ad) G kA kL Λ ad w s H locs → bM_scrub_86 Λ w c0 = some (w1, r) → W p l e rmM_scrub s m args below meth c H locs 0 0 Q (F0 m 86 ls []) := by
    intro w c0 H locs ls hl hI hf
    unfold bM_scrub_86 at hf
    refine lv_aload_n hx hb dM_scrub_86 rfl (lv_at hl 0 rfl) ?_
    obtain ⟨v1, hv1, hf⟩ := ob_ hf
    refine r_geti (i := 16) S hI fcM (Nat.le_of_ble_eq_true rfl) kw_517 dM_scrub_87 hv1 ?_
    exact hret _ _ _ _ _ _ hI hf dM_scrub_90
  have bk80 : ∀ (K37 : Wo → Nat → Int32 → Int32 → Option (Wo × Int32)), (∀ (w : Wo) (c0 : Nat) (x1 : Int32) (x2 : Int32) (H : Heap) (locs : List Loc) (ls : Array Slot), lv_has ls 3 [(0, .ref (ad c0)), (1, .int x1), (2, .int x2)] → Iv (Aa Λ ad) G kA kL Λ ad w s H locs → K37 w c0 x1 x2 = some (w1, r) → W p l e rmM_scrub s m args below meth c H locs 0 0 Q (F0 m 37 ls [])) → ∀ (w : Wo) (c0 : Nat) (x1 : Int32) (x2 : Int32) (H : Heap) (locs : List Loc) (ls : Array Slot), lv_has ls 3 [(0, .ref (ad c0)), (1, .int x1), (2, .int x2)] → Iv (Aa Λ ad) G kA kL Λ ad w s H locs → bM_scrub_80 Λ K37 w c0 x1 x2 = some (w1, r) → W p l e rmM_scrub s m args below meth c H locs 0 0 Q (F0 m 80 ls []) := by
    intro K37 hK37 w c0 x1 x2 H locs ls hl hI hf
    unfold bM_scrub_80 at hf
    refine lv_iinc hx hb (lv' := [(2, .int (x2 + 1)), (0, .ref (ad c0)), (1, .int x1)]) (k := 2) dM_scrub_80 hl rfl (kN_1 _) (Nat.le_of_ble_eq_true rfl) rfl (fun ls hl => ?_)
    refine lv_goto (tgt := 37) hx hb dM_scrub_83 rfl ?_
    exact hK37 w c0 x1 (x2 + 1) _ _ _ (lv_sub hl [1, 2, 0] rfl) hI hf
  have bk37 : ∀ (K37 : Wo → Nat → Int32 → Int32 → Option (Wo × Int32)), (∀ (w : Wo) (c0 : Nat) (x1 : Int32) (x2 : Int32) (H : Heap) (locs : List Loc) (ls : Array Slot), lv_has ls 3 [(0, .ref (ad c0)), (1, .int x1), (2, .int x2)] → Iv (Aa Λ ad) G kA kL Λ ad w s H locs → K37 w c0 x1 x2 = some (w1, r) → W p l e rmM_scrub s m args below meth c H locs 0 0 Q (F0 m 37 ls [])) → ∀ (w : Wo) (c0 : Nat) (x1 : Int32) (x2 : Int32) (H : Heap) (locs : List Loc) (ls : Array Slot), lv_has ls 3 [(0, .ref (ad c0)), (1, .int x1), (2, .int x2)] → Iv (Aa Λ ad) G kA kL Λ ad w s H locs → bM_scrub_37s Λ K37 w c0 x1 x2 = some (w1, r) → W p l e rmM_scrub s m args below meth c H locs 0 0 Q (F0 m 37 ls []) := by
    intro K37 hK37 w c0 x1 x2 H locs ls hl hI hf
    unfold bM_scrub_37s at hf
    refine lv_iload_n hx hb dM_scrub_37 rfl (lv_at hl 2 rfl) ?_
    refine lv_iload_n hx hb dM_scrub_38 rfl (lv_at hl 1 rfl) ?_
    refine lv_icmp_ge (tgt := 86) hx hb dM_scrub_39 rfl (fun h2 => ?_) (fun h2 => ?_)
    · have hf := ip_ hf h2
      exact bk86 w c0 _ _ _ (lv_sub hl [0] rfl) hI hf
    · have hf := in_ hf h2
      refine lv_aload_n hx hb dM_scrub_42 rfl (lv_at hl 0 rfl) ?_
      obtain ⟨v3, hv3, hf⟩ := ob_ hf
      refine r_geti (i := 0) S hI fcM (Nat.le_of_ble_eq_true rfl) kw_501 dM_scrub_43 hv3 ?_
      refine lv_if_ne (tgt := 86) hx hb dM_scrub_46 rfl (fun h4 => ?_) (fun h4 => ?_)
      · have hf := in_ hf h4
        exact bk86 w c0 _ _ _ (lv_sub hl [0] rfl) hI hf
      · have hf := ip_ hf h4
        refine lv_aload_n hx hb dM_scrub_49 rfl (lv_at hl 0 rfl) ?_
        obtain ⟨v5, hv5, hf⟩ := ob_ hf
        refine r_geti (i := 6) S hI fcM (Nat.le_of_ble_eq_true rfl) kw_507 dM_scrub_50 hv5 ?_
        refine lv_if_ne (tgt := 86) hx hb dM_scrub_53 rfl (fun h6 => ?_) (fun h6 => ?_)
        · have hf := in_ hf h6
          exact bk86 w c0 _ _ _ (lv_sub hl [0] rfl) hI hf
        · have hf := ip_ hf h6
          refine lv_aload_n hx hb dM_scrub_56 rfl (lv_at hl 0 rfl) ?_
          refine lv_aload_n hx hb dM_scrub_57 rfl (lv_at hl 0 rfl) ?_
          obtain ⟨v7, hv7, hf⟩ := ob_ hf
          refine r_geti (i := 14) S hI fcM (Nat.le_of_ble_eq_true rfl) kw_515 dM_scrub_58 hv7 ?_
          obtain ⟨q8, hq8, hf⟩ := ob_ hf
          refine r_ci (r_V (rest := []) (As := [.int v7]) S hl hI (kM_scrubOf l G kA kL Λ ad w c0 v7 q8.1 q8.2 hq8) pkM_scrubOf kw_663 ks_M_scrubOf (fcM).1 (gd_some hq8).1 kw_661 ⟨rfl, rfl⟩ ⟨Nat.le_of_ble_eq_true rfl, Nat.le_of_ble_eq_true rfl⟩ rfl rfl (Nat.le_of_ble_eq_true rfl) ⟨Nat.zero_le _, Nat.zero_le _⟩ dM_scrub_61) hI (fun H locs hI => ?_)
          refine lv_if_eq (tgt := 80) hx hb dM_scrub_64 rfl (fun h9 => ?_) (fun h9 => ?_)
          · have hf := ip_ hf h9
            exact bk80 K37 hK37 q8.1 c0 x1 x2 _ _ _ (lv_sub hl [0, 1, 2] rfl) hI hf
          · have hf := in_ hf h9
            refine lv_aload_n hx hb dM_scrub_67 rfl (lv_at hl 0 rfl) ?_
            refine lv_aload_n hx hb dM_scrub_68 rfl (lv_at hl 0 rfl) ?_
            obtain ⟨v10, hv10, hf⟩ := ob_ hf
            refine r_geti (i := 14) S hI fcM (Nat.le_of_ble_eq_true rfl) kw_515 dM_scrub_69 hv10 ?_
            refine lv_iconst hx hb dM_scrub_72 kI_1 ?_
            refine lv_iadd hx hb dM_scrub_73 ?_
            refine lv_bipush hx hb dM_scrub_74 kB_64 ?_
            refine lv_irem hx hb dM_scrub_76 (by decide +kernel) ?_
            obtain ⟨w11, hw11, hf⟩ := ob_ hf
            refine r_put (i := 14) S hI fcM (Nat.le_of_ble_eq_true rfl) kw_515 rfl rfl rfl dM_scrub_77 hw11 (fun H locs hI => ?_)
            exact bk80 K37 hK37 w11 c0 x1 x2 _ _ _ (lv_sub hl [0, 1, 2] rfl) hI hf
  have lp37 : ∀ (n : Nat), ∀ (w : Wo) (c0 : Nat) (x1 : Int32) (x2 : Int32) (H : Heap) (locs : List Loc) (ls : Array Slot), lv_has ls 3 [(0, .ref (ad c0)), (1, .int x1), (2, .int x2)] → Iv (Aa Λ ad) G kA kL Λ ad w s H locs → bM_scrub_37 Λ n w c0 x1 x2 = some (w1, r) → W p l e rmM_scrub s m args below meth c H locs 0 0 Q (F0 m 37 ls []) := by
    intro n
    induction n with
    | zero =>
      intro w c0 x1 x2 H locs ls hl hI hf
      have hf : (none : Option (Wo × Int32)) = some (w1, r) := hf
      cases hf
    | succ n ih =>
      intro w c0 x1 x2 H locs ls hl hI hf
      exact bk37 (bM_scrub_37 Λ n) ih w c0 x1 x2 H locs ls hl hI hf
  have bk27 : ∀ (w : Wo) (c0 : Nat) (x1 : Int32) (t0 : Nat) (s1 : Int32) (H : Heap) (locs : List Loc) (ls : Array Slot), lv_has ls 3 [(0, .ref (ad c0)), (1, .int x1)] → Iv (Aa Λ ad) G kA kL Λ ad w s H locs → bM_scrub_27 Λ w c0 x1 t0 s1 = some (w1, r) → W p l e rmM_scrub s m args below meth c H locs 0 0 Q (F0 m 27 ls [.int s1, .ref (ad t0)]) := by
    intro w c0 x1 t0 s1 H locs ls hl hI hf
    unfold bM_scrub_27 at hf
    obtain ⟨w12, hw12, hf⟩ := ob_ hf
    refine r_put (i := 0) S hI fcM (Nat.le_of_ble_eq_true rfl) kw_501 rfl rfl rfl dM_scrub_27 hw12 (fun H locs hI => ?_)
    refine lv_aload_n hx hb dM_scrub_30 rfl (lv_at hl 0 rfl) ?_
    refine lv_iconst hx hb dM_scrub_31 kI_0 ?_
    obtain ⟨w13, hw13, hf⟩ := ob_ hf
    refine r_put (i := 16) S hI fcM (Nat.le_of_ble_eq_true rfl) kw_517 rfl rfl rfl dM_scrub_32 hw13 (fun H locs hI => ?_)
    refine lv_iconst hx hb dM_scrub_35 kI_0 ?_
    refine lv_istore_n hx hb (lv' := [(2, .int 0), (0, .ref (ad c0)), (1, .int x1)]) dM_scrub_36 rfl hl (Nat.le_of_ble_eq_true rfl) rfl (fun ls hl => ?_)
    exact lp37 1000 w13 c0 x1 0 _ _ _ (lv_sub hl [1, 2, 0] rfl) hI hf
  have bk22 : ∀ (w : Wo) (c0 : Nat) (x1 : Int32) (t0 : Nat) (H : Heap) (locs : List Loc) (ls : Array Slot), lv_has ls 3 [(0, .ref (ad c0)), (1, .int x1)] → Iv (Aa Λ ad) G kA kL Λ ad w s H locs → bM_scrub_22 Λ w c0 x1 t0 = some (w1, r) → W p l e rmM_scrub s m args below meth c H locs 0 0 Q (F0 m 22 ls [.ref (ad t0)]) := by
    intro w c0 x1 t0 H locs ls hl hI hf
    unfold bM_scrub_22 at hf
    refine lv_iconst hx hb dM_scrub_22 kI_2 ?_
    refine lv_goto (tgt := 27) hx hb dM_scrub_23 rfl ?_
    exact bk27 w c0 x1 t0 2 _ _ _ (lv_sub hl [0, 1] rfl) hI hf
  unfold fM_scrub at hf
  have hf := (gd_some hf).2
  refine lv_aload_n hx hb dM_scrub_0 rfl (lv_at hl 0 rfl) ?_
  refine lv_aload_n hx hb dM_scrub_1 rfl (lv_at hl 0 rfl) ?_
  obtain ⟨v14, hv14, hf⟩ := ob_ hf
  refine r_geti (i := 6) S hI fcM (Nat.le_of_ble_eq_true rfl) kw_507 dM_scrub_2 hv14 ?_
  refine lv_if_eq (tgt := 12) hx hb dM_scrub_5 rfl (fun h15 => ?_) (fun h15 => ?_)
  · have hf := ip_ hf h15
    refine lv_iload_n hx hb dM_scrub_12 rfl (lv_at hl 1 rfl) ?_
    refine lv_if_lt (tgt := 22) hx hb dM_scrub_13 rfl (fun h16 => ?_) (fun h16 => ?_)
    · have hf := ip_ hf h16
      exact bk22 w c0 x1 c0 _ _ _ (lv_sub hl [0, 1] rfl) hI hf
    · have hf := in_ hf h16
      refine lv_iload_n hx hb dM_scrub_16 rfl (lv_at hl 1 rfl) ?_
      refine lv_bipush hx hb dM_scrub_17 kB_64 ?_
      refine lv_icmp_le (tgt := 26) hx hb dM_scrub_19 rfl (fun h17 => ?_) (fun h17 => ?_)
      · have hf := ip_ hf h17
        refine lv_iconst hx hb dM_scrub_26 kI_0 ?_
        exact bk27 w c0 x1 c0 0 _ _ _ (lv_sub hl [0, 1] rfl) hI hf
      · have hf := in_ hf h17
        exact bk22 w c0 x1 c0 _ _ _ (lv_sub hl [0, 1] rfl) hI hf
  · have hf := in_ hf h15
    refine lv_iconst hx hb dM_scrub_8 kI_1 ?_
    refine lv_goto (tgt := 27) hx hb dM_scrub_9 rfl ?_
    exact bk27 w c0 x1 c0 1 _ _ _ (lv_sub hl [0, 1] rfl) hI hf
/-- GuardVolumeModel.findings(Z)I -/
abbrev rmM_findings : Room := { frames := 0, cells := 0, slots := 0, locals := 0 }
theorem pkM_findings : Pk yM_findings cM_findings 3 (some .int) 1 := ⟨kw_672, kw_7, by decide +kernel, by decide +kernel, by decide +kernel⟩
def bM_findings_23 (Λ : La) (w : Wo) (x2 : Int32) (t0 : Nat) (s1 : Int32) : Option (Wo × Int32) := (pf Λ w t0 5 15 s1).bind fun w1 => some (w1, x2)
def fM_findings (Λ : La) (w : Wo) (c0 : Nat) (x1 : Int32) : Option (Wo × Int32) := gd (isC Λ c0 5) ((pf Λ w c0 5 0 0).bind fun w2 => (gi Λ w2 c0 5 15).bind fun v3 => if x1 = 0 then ((gi Λ w2 c0 5 15).bind fun v5 => bM_findings_23 Λ w2 v3 c0 v5) else (bM_findings_23 Λ w2 v3 c0 0))
set_option maxHeartbeats 4000000 in
set_option maxRecDepth 100000 in
theorem kM_findings (l : Launch) (G : va_G) (kA kL : ClassId) (Λ : La) (ad : Nat → Nat) (w : Wo) (c0 : Nat) (x1 : Int32) (w1 : Wo) (r : Int32) (hf : fM_findings Λ w c0 x1 = some (w1, r)) : Mi l yM_findings cM_findings 3 (some .int) rmM_findings G kA kL Λ ad [.ref (ad c0), .int x1] w w1 r := by
  refine Mi.of (by decide +kernel) (Nat.le_of_ble_eq_true rfl) ?_
  intro p e s m args below meth c Q ls S hret hl hI
  have S : CallFix p m c cM_findings 3 s args (.code yM_findings cM_findings 3 (some .int) :: gW) "GuardVolumeModel" := S
  have hl : lv_has ls 3 [(0, .ref (ad c0)), (1, .int x1)] := hl
  have hx := S.1
  have hb := S.2.1
  have bk23 : ∀ (w : Wo) (x2 : Int32) (t0 : Nat) (s1 : Int32) (H : Heap) (locs : List Loc) (ls : Array Slot), lv_has ls 3 [(2, .int x2)] → Iv (Aa Λ ad) G kA kL Λ ad w s H locs → bM_findings_23 Λ w x2 t0 s1 = some (w1, r) → W p l e rmM_findings s m args below meth c H locs 0 0 Q (F0 m 23 ls [.int s1, .ref (ad t0)]) := by
    intro w x2 t0 s1 H locs ls hl hI hf
    unfold bM_findings_23 at hf
    obtain ⟨w1, hw1, hf⟩ := ob_ hf
    refine r_put (i := 15) S hI fcM (Nat.le_of_ble_eq_true rfl) kw_516 rfl rfl rfl dM_findings_23 hw1 (fun H locs hI => ?_)
    refine lv_iload_n hx hb dM_findings_26 rfl (lv_at hl 0 rfl) ?_
    exact hret _ _ _ _ _ _ hI hf dM_findings_27
  unfold fM_findings at hf
  have hf := (gd_some hf).2
  refine lv_aload_n hx hb dM_findings_0 rfl (lv_at hl 0 rfl) ?_
  refine lv_iconst hx hb dM_findings_1 kI_0 ?_
  obtain ⟨w2, hw2, hf⟩ := ob_ hf
  refine r_put (i := 0) S hI fcM (Nat.le_of_ble_eq_true rfl) kw_501 rfl rfl rfl dM_findings_2 hw2 (fun H locs hI => ?_)
  refine lv_aload_n hx hb dM_findings_5 rfl (lv_at hl 0 rfl) ?_
  obtain ⟨v3, hv3, hf⟩ := ob_ hf
  refine r_geti (i := 15) S hI fcM (Nat.le_of_ble_eq_true rfl) kw_516 dM_findings_6 hv3 ?_
  refine lv_istore_n hx hb (lv' := [(2, .int v3), (0, .ref (ad c0)), (1, .int x1)]) dM_findings_9 rfl hl (Nat.le_of_ble_eq_true rfl) rfl (fun ls hl => ?_)
  refine lv_aload_n hx hb dM_findings_10 rfl (lv_at hl 1 rfl) ?_
  refine lv_iload_n hx hb dM_findings_11 rfl (lv_at hl 2 rfl) ?_
  refine lv_if_eq (tgt := 19) hx hb dM_findings_12 rfl (fun h4 => ?_) (fun h4 => ?_)
  · have hf := ip_ hf h4
    refine lv_aload_n hx hb dM_findings_19 rfl (lv_at hl 1 rfl) ?_
    obtain ⟨v5, hv5, hf⟩ := ob_ hf
    refine r_geti (i := 15) S hI fcM (Nat.le_of_ble_eq_true rfl) kw_516 dM_findings_20 hv5 ?_
    exact bk23 w2 v3 c0 v5 _ _ _ (lv_sub hl [0] rfl) hI hf
  · have hf := in_ hf h4
    refine lv_iconst hx hb dM_findings_15 kI_0 ?_
    refine lv_goto (tgt := 23) hx hb dM_findings_16 rfl ?_
    exact bk23 w2 v3 c0 0 _ _ _ (lv_sub hl [0] rfl) hI hf
/-- GuardVolumeModel.finding(II)I -/
abbrev rmM_finding : Room := { frames := 1, cells := 0, slots := 0, locals := 21 }
theorem pkM_finding : Pk yM_finding cM_finding 3 (some .int) 2 := ⟨kw_676, kw_7, by decide +kernel, by decide +kernel, by decide +kernel⟩
def bM_finding_25 (Λ : La) (w : Wo) (c0 : Nat) (x1 : Int32) (x2 : Int32) (t0 : Nat) (s1 : Int32) : Option (Wo × Int32) := (pf Λ w t0 5 0 s1).bind fun w1 => (gi Λ w1 c0 5 0).bind fun v2 => if v2 ≤ 0 then ((gr Λ c0 5 17).bind fun r4 => (ld Λ w1 r4 ((4 * x1) + x2)).bind fun v5 => some (w1, v5)) else (some (w1, 0))
def bM_finding_20 (Λ : La) (w : Wo) (c0 : Nat) (x1 : Int32) (x2 : Int32) (t0 : Nat) : Option (Wo × Int32) := bM_finding_25 Λ w c0 x1 x2 t0 1
def fM_finding (Λ : La) (w : Wo) (c0 : Nat) (x1 : Int32) (x2 : Int32) : Option (Wo × Int32) := gd (isC Λ c0 5) ((gi Λ w c0 5 15).bind fun v6 => (fM_in Λ w x1 v6).bind fun q7 => if q7.2 = 0 then (bM_finding_20 Λ q7.1 c0 x1 x2 c0) else ((fM_in Λ q7.1 x2 4).bind fun q9 => if q9.2 = 0 then (bM_finding_20 Λ q9.1 c0 x1 x2 c0) else (bM_finding_25 Λ q9.1 c0 x1 x2 c0 0)))
set_option maxHeartbeats 4000000 in
set_option maxRecDepth 100000 in
theorem kM_finding (l : Launch) (G : va_G) (kA kL : ClassId) (Λ : La) (ad : Nat → Nat) (w : Wo) (c0 : Nat) (x1 : Int32) (x2 : Int32) (w1 : Wo) (r : Int32) (hf : fM_finding Λ w c0 x1 x2 = some (w1, r)) : Mi l yM_finding cM_finding 3 (some .int) rmM_finding G kA kL Λ ad [.ref (ad c0), .int x1, .int x2] w w1 r := by
  refine Mi.of (by decide +kernel) (Nat.le_of_ble_eq_true rfl) ?_
  intro p e s m args below meth c Q ls S hret hl hI
  have S : CallFix p m c cM_finding 3 s args (.code yM_finding cM_finding 3 (some .int) :: gW) "GuardVolumeModel" := S
  have hl : lv_has ls 3 [(0, .ref (ad c0)), (1, .int x1), (2, .int x2)] := hl
  have hx := S.1
  have hb := S.2.1
  have bk25 : ∀ (w : Wo) (c0 : Nat) (x1 : Int32) (x2 : Int32) (t0 : Nat) (s1 : Int32) (H : Heap) (locs : List Loc) (ls : Array Slot), lv_has ls 3 [(0, .ref (ad c0)), (1, .int x1), (2, .int x2)] → Iv (Aa Λ ad) G kA kL Λ ad w s H locs → bM_finding_25 Λ w c0 x1 x2 t0 s1 = some (w1, r) → W p l e rmM_finding s m args below meth c H locs 0 0 Q (F0 m 25 ls [.int s1, .ref (ad t0)]) := by
    intro w c0 x1 x2 t0 s1 H locs ls hl hI hf
    unfold bM_finding_25 at hf
    obtain ⟨w1, hw1, hf⟩ := ob_ hf
    refine r_put (i := 0) S hI fcM (Nat.le_of_ble_eq_true rfl) kw_501 rfl rfl rfl dM_finding_25 hw1 (fun H locs hI => ?_)
    refine lv_aload_n hx hb dM_finding_28 rfl (lv_at hl 0 rfl) ?_
    obtain ⟨v2, hv2, hf⟩ := ob_ hf
    refine r_geti (i := 0) S hI fcM (Nat.le_of_ble_eq_true rfl) kw_501 dM_finding_29 hv2 ?_
    refine lv_if_le (tgt := 39) hx hb dM_finding_32 rfl (fun h3 => ?_) (fun h3 => ?_)
    · have hf := ip_ hf h3
      refine lv_aload_n hx hb dM_finding_39 rfl (lv_at hl 0 rfl) ?_
      obtain ⟨r4, hr4, hf⟩ := ob_ hf
      refine r_getr (i := 17) S hI fcM (Nat.le_of_ble_eq_true rfl) kw_518 dM_finding_40 hr4 ?_
      refine lv_iconst hx hb dM_finding_43 kI_4 ?_
      refine lv_iload_n hx hb dM_finding_44 rfl (lv_at hl 1 rfl) ?_
      refine lv_imul hx hb dM_finding_45 ?_
      refine lv_iload_n hx hb dM_finding_46 rfl (lv_at hl 2 rfl) ?_
      refine lv_iadd hx hb dM_finding_47 ?_
      obtain ⟨v5, hv5, hf⟩ := ob_ hf
      refine r_ald S hI dM_finding_48 hv5 ?_
      exact hret _ _ _ _ _ _ hI hf dM_finding_49
    · have hf := in_ hf h3
      refine lv_iconst hx hb dM_finding_35 kI_0 ?_
      refine lv_goto (tgt := 49) hx hb dM_finding_36 rfl ?_
      exact hret _ _ _ _ _ _ hI hf dM_finding_49
  have bk20 : ∀ (w : Wo) (c0 : Nat) (x1 : Int32) (x2 : Int32) (t0 : Nat) (H : Heap) (locs : List Loc) (ls : Array Slot), lv_has ls 3 [(0, .ref (ad c0)), (1, .int x1), (2, .int x2)] → Iv (Aa Λ ad) G kA kL Λ ad w s H locs → bM_finding_20 Λ w c0 x1 x2 t0 = some (w1, r) → W p l e rmM_finding s m args below meth c H locs 0 0 Q (F0 m 20 ls [.ref (ad t0)]) := by
    intro w c0 x1 x2 t0 H locs ls hl hI hf
    unfold bM_finding_20 at hf
    refine lv_iconst hx hb dM_finding_20 kI_1 ?_
    refine lv_goto (tgt := 25) hx hb dM_finding_21 rfl ?_
    exact bk25 w c0 x1 x2 t0 1 _ _ _ (lv_sub hl [0, 1, 2] rfl) hI hf
  unfold fM_finding at hf
  have hf := (gd_some hf).2
  refine lv_aload_n hx hb dM_finding_0 rfl (lv_at hl 0 rfl) ?_
  refine lv_iload_n hx hb dM_finding_1 rfl (lv_at hl 1 rfl) ?_
  refine lv_aload_n hx hb dM_finding_2 rfl (lv_at hl 0 rfl) ?_
  obtain ⟨v6, hv6, hf⟩ := ob_ hf
  refine r_geti (i := 15) S hI fcM (Nat.le_of_ble_eq_true rfl) kw_516 dM_finding_3 hv6 ?_
  obtain ⟨q7, hq7, hf⟩ := ob_ hf
  refine r_ci (r_S (rest := [.ref (ad c0)]) (As := [.int x1, .int v6]) S hl hI (kM_in l G kA kL Λ ad w x1 v6 q7.1 q7.2 hq7) pkM_in kw_571 kw_570 ⟨rfl, rfl⟩ ⟨Nat.le_of_ble_eq_true rfl, Nat.le_of_ble_eq_true rfl⟩ rfl rfl (Nat.le_of_ble_eq_true rfl) ⟨Nat.zero_le _, Nat.zero_le _⟩ dM_finding_6) hI (fun H locs hI => ?_)
  refine lv_if_eq (tgt := 20) hx hb dM_finding_9 rfl (fun h8 => ?_) (fun h8 => ?_)
  · have hf := ip_ hf h8
    exact bk20 q7.1 c0 x1 x2 c0 _ _ _ (lv_sub hl [0, 1, 2] rfl) hI hf
  · have hf := in_ hf h8
    refine lv_iload_n hx hb dM_finding_12 rfl (lv_at hl 2 rfl) ?_
    refine lv_iconst hx hb dM_finding_13 kI_4 ?_
    obtain ⟨q9, hq9, hf⟩ := ob_ hf
    refine r_ci (r_S (rest := [.ref (ad c0)]) (As := [.int x2, .int 4]) S hl hI (kM_in l G kA kL Λ ad q7.1 x2 4 q9.1 q9.2 hq9) pkM_in kw_571 kw_570 ⟨rfl, rfl⟩ ⟨Nat.le_of_ble_eq_true rfl, Nat.le_of_ble_eq_true rfl⟩ rfl rfl (Nat.le_of_ble_eq_true rfl) ⟨Nat.zero_le _, Nat.zero_le _⟩ dM_finding_14) hI (fun H locs hI => ?_)
    refine lv_if_ne (tgt := 24) hx hb dM_finding_17 rfl (fun h10 => ?_) (fun h10 => ?_)
    · have hf := in_ hf h10
      refine lv_iconst hx hb dM_finding_24 kI_0 ?_
      exact bk25 q9.1 c0 x1 x2 c0 0 _ _ _ (lv_sub hl [0, 1, 2] rfl) hI hf
    · have hf := ip_ hf h10
      exact bk20 q9.1 c0 x1 x2 c0 _ _ _ (lv_sub hl [0, 1, 2] rfl) hI hf
/-- GuardVolumeModel.expected(II)I -/
abbrev rmM_expected : Room := { frames := 5, cells := 0, slots := 0, locals := 113 }
theorem pkM_expected : Pk yM_expected cM_expected 3 (some .int) 2 := ⟨kw_680, kw_7, by decide +kernel, by decide +kernel, by decide +kernel⟩
def bM_expected_23 (Λ : La) (w : Wo) (c0 : Nat) (x1 : Int32) (x2 : Int32) (t0 : Nat) (s1 : Int32) : Option (Wo × Int32) := (pf Λ w t0 5 0 s1).bind fun w1 => (gi Λ w1 c0 5 0).bind fun v2 => if v2 ≤ 0 then ((fM_expectedOf Λ w1 c0 x1 x2).bind fun q4 => some (q4.1, q4.2)) else (some (w1, 0))
def bM_expected_18 (Λ : La) (w : Wo) (c0 : Nat) (x1 : Int32) (x2 : Int32) (t0 : Nat) : Option (Wo × Int32) := bM_expected_23 Λ w c0 x1 x2 t0 1
def fM_expected (Λ : La) (w : Wo) (c0 : Nat) (x1 : Int32) (x2 : Int32) : Option (Wo × Int32) := gd (isC Λ c0 5) ((fM_in Λ w x1 2).bind fun q5 => if q5.2 = 0 then (bM_expected_18 Λ q5.1 c0 x1 x2 c0) else ((fM_in Λ q5.1 x2 64).bind fun q7 => if q7.2 = 0 then (bM_expected_18 Λ q7.1 c0 x1 x2 c0) else (bM_expected_23 Λ q7.1 c0 x1 x2 c0 0)))
set_option maxHeartbeats 4000000 in
set_option maxRecDepth 100000 in
theorem kM_expected (l : Launch) (G : va_G) (kA kL : ClassId) (Λ : La) (ad : Nat → Nat) (w : Wo) (c0 : Nat) (x1 : Int32) (x2 : Int32) (w1 : Wo) (r : Int32) (hf : fM_expected Λ w c0 x1 x2 = some (w1, r)) : Mi l yM_expected cM_expected 3 (some .int) rmM_expected G kA kL Λ ad [.ref (ad c0), .int x1, .int x2] w w1 r := by
  refine Mi.of (by decide +kernel) (Nat.le_of_ble_eq_true rfl) ?_
  intro p e s m args below meth c Q ls S hret hl hI
  have S : CallFix p m c cM_expected 3 s args (.code yM_expected cM_expected 3 (some .int) :: gW) "GuardVolumeModel" := S
  have hl : lv_has ls 3 [(0, .ref (ad c0)), (1, .int x1), (2, .int x2)] := hl
  have hx := S.1
  have hb := S.2.1
  have bk23 : ∀ (w : Wo) (c0 : Nat) (x1 : Int32) (x2 : Int32) (t0 : Nat) (s1 : Int32) (H : Heap) (locs : List Loc) (ls : Array Slot), lv_has ls 3 [(0, .ref (ad c0)), (1, .int x1), (2, .int x2)] → Iv (Aa Λ ad) G kA kL Λ ad w s H locs → bM_expected_23 Λ w c0 x1 x2 t0 s1 = some (w1, r) → W p l e rmM_expected s m args below meth c H locs 0 0 Q (F0 m 23 ls [.int s1, .ref (ad t0)]) := by
    intro w c0 x1 x2 t0 s1 H locs ls hl hI hf
    unfold bM_expected_23 at hf
    obtain ⟨w1, hw1, hf⟩ := ob_ hf
    refine r_put (i := 0) S hI fcM (Nat.le_of_ble_eq_true rfl) kw_501 rfl rfl rfl dM_expected_23 hw1 (fun H locs hI => ?_)
    refine lv_aload_n hx hb dM_expected_26 rfl (lv_at hl 0 rfl) ?_
    obtain ⟨v2, hv2, hf⟩ := ob_ hf
    refine r_geti (i := 0) S hI fcM (Nat.le_of_ble_eq_true rfl) kw_501 dM_expected_27 hv2 ?_
    refine lv_if_le (tgt := 37) hx hb dM_expected_30 rfl (fun h3 => ?_) (fun h3 => ?_)
    · have hf := ip_ hf h3
      refine lv_aload_n hx hb dM_expected_37 rfl (lv_at hl 0 rfl) ?_
      refine lv_iload_n hx hb dM_expected_38 rfl (lv_at hl 1 rfl) ?_
      refine lv_iload_n hx hb dM_expected_39 rfl (lv_at hl 2 rfl) ?_
      obtain ⟨q4, hq4, hf⟩ := ob_ hf
      refine r_ci (r_V (rest := []) (As := [.int x1, .int x2]) S hl hI (kM_expectedOf l G kA kL Λ ad w1 c0 x1 x2 q4.1 q4.2 hq4) pkM_expectedOf kw_595 ks_M_expectedOf (fcM).1 (gd_some hq4).1 kw_593 ⟨rfl, rfl⟩ ⟨Nat.le_of_ble_eq_true rfl, Nat.le_of_ble_eq_true rfl⟩ rfl rfl (Nat.le_of_ble_eq_true rfl) ⟨Nat.zero_le _, Nat.zero_le _⟩ dM_expected_40) hI (fun H locs hI => ?_)
      exact hret _ _ _ _ _ _ hI hf dM_expected_43
    · have hf := in_ hf h3
      refine lv_iconst hx hb dM_expected_33 kI_0 ?_
      refine lv_goto (tgt := 43) hx hb dM_expected_34 rfl ?_
      exact hret _ _ _ _ _ _ hI hf dM_expected_43
  have bk18 : ∀ (w : Wo) (c0 : Nat) (x1 : Int32) (x2 : Int32) (t0 : Nat) (H : Heap) (locs : List Loc) (ls : Array Slot), lv_has ls 3 [(0, .ref (ad c0)), (1, .int x1), (2, .int x2)] → Iv (Aa Λ ad) G kA kL Λ ad w s H locs → bM_expected_18 Λ w c0 x1 x2 t0 = some (w1, r) → W p l e rmM_expected s m args below meth c H locs 0 0 Q (F0 m 18 ls [.ref (ad t0)]) := by
    intro w c0 x1 x2 t0 H locs ls hl hI hf
    unfold bM_expected_18 at hf
    refine lv_iconst hx hb dM_expected_18 kI_1 ?_
    refine lv_goto (tgt := 23) hx hb dM_expected_19 rfl ?_
    exact bk23 w c0 x1 x2 t0 1 _ _ _ (lv_sub hl [0, 1, 2] rfl) hI hf
  unfold fM_expected at hf
  have hf := (gd_some hf).2
  refine lv_aload_n hx hb dM_expected_0 rfl (lv_at hl 0 rfl) ?_
  refine lv_iload_n hx hb dM_expected_1 rfl (lv_at hl 1 rfl) ?_
  refine lv_iconst hx hb dM_expected_2 kI_2 ?_
  obtain ⟨q5, hq5, hf⟩ := ob_ hf
  refine r_ci (r_S (rest := [.ref (ad c0)]) (As := [.int x1, .int 2]) S hl hI (kM_in l G kA kL Λ ad w x1 2 q5.1 q5.2 hq5) pkM_in kw_571 kw_570 ⟨rfl, rfl⟩ ⟨Nat.le_of_ble_eq_true rfl, Nat.le_of_ble_eq_true rfl⟩ rfl rfl (Nat.le_of_ble_eq_true rfl) ⟨Nat.zero_le _, Nat.zero_le _⟩ dM_expected_3) hI (fun H locs hI => ?_)
  refine lv_if_eq (tgt := 18) hx hb dM_expected_6 rfl (fun h6 => ?_) (fun h6 => ?_)
  · have hf := ip_ hf h6
    exact bk18 q5.1 c0 x1 x2 c0 _ _ _ (lv_sub hl [0, 1, 2] rfl) hI hf
  · have hf := in_ hf h6
    refine lv_iload_n hx hb dM_expected_9 rfl (lv_at hl 2 rfl) ?_
    refine lv_bipush hx hb dM_expected_10 kB_64 ?_
    obtain ⟨q7, hq7, hf⟩ := ob_ hf
    refine r_ci (r_S (rest := [.ref (ad c0)]) (As := [.int x2, .int 64]) S hl hI (kM_in l G kA kL Λ ad q5.1 x2 64 q7.1 q7.2 hq7) pkM_in kw_571 kw_570 ⟨rfl, rfl⟩ ⟨Nat.le_of_ble_eq_true rfl, Nat.le_of_ble_eq_true rfl⟩ rfl rfl (Nat.le_of_ble_eq_true rfl) ⟨Nat.zero_le _, Nat.zero_le _⟩ dM_expected_12) hI (fun H locs hI => ?_)
    refine lv_if_ne (tgt := 22) hx hb dM_expected_15 rfl (fun h8 => ?_) (fun h8 => ?_)
    · have hf := in_ hf h8
      refine lv_iconst hx hb dM_expected_22 kI_0 ?_
      exact bk23 q7.1 c0 x1 x2 c0 0 _ _ _ (lv_sub hl [0, 1, 2] rfl) hI hf
    · have hf := ip_ hf h8
      exact bk18 q7.1 c0 x1 x2 c0 _ _ _ (lv_sub hl [0, 1, 2] rfl) hI hf
/-- GuardVolumeModel.verdict(II)I -/
abbrev rmM_verdict : Room := { frames := 6, cells := 0, slots := 0, locals := 137 }
theorem pkM_verdict : Pk yM_verdict cM_verdict 3 (some .int) 2 := ⟨kw_684, kw_7, by decide +kernel, by decide +kernel, by decide +kernel⟩
def bM_verdict_23 (Λ : La) (w : Wo) (c0 : Nat) (x1 : Int32) (x2 : Int32) (t0 : Nat) (s1 : Int32) : Option (Wo × Int32) := (pf Λ w t0 5 0 s1).bind fun w1 => (gi Λ w1 c0 5 0).bind fun v2 => if v2 ≤ 0 then ((fM_verdictOf Λ w1 c0 x1 x2).bind fun q4 => some (q4.1, q4.2)) else (some (w1, 0))
def bM_verdict_18 (Λ : La) (w : Wo) (c0 : Nat) (x1 : Int32) (x2 : Int32) (t0 : Nat) : Option (Wo × Int32) := bM_verdict_23 Λ w c0 x1 x2 t0 1
def fM_verdict (Λ : La) (w : Wo) (c0 : Nat) (x1 : Int32) (x2 : Int32) : Option (Wo × Int32) := gd (isC Λ c0 5) ((fM_in Λ w x1 2).bind fun q5 => if q5.2 = 0 then (bM_verdict_18 Λ q5.1 c0 x1 x2 c0) else ((fM_in Λ q5.1 x2 64).bind fun q7 => if q7.2 = 0 then (bM_verdict_18 Λ q7.1 c0 x1 x2 c0) else (bM_verdict_23 Λ q7.1 c0 x1 x2 c0 0)))
set_option maxHeartbeats 4000000 in
set_option maxRecDepth 100000 in
theorem kM_verdict (l : Launch) (G : va_G) (kA kL : ClassId) (Λ : La) (ad : Nat → Nat) (w : Wo) (c0 : Nat) (x1 : Int32) (x2 : Int32) (w1 : Wo) (r : Int32) (hf : fM_verdict Λ w c0 x1 x2 = some (w1, r)) : Mi l yM_verdict cM_verdict 3 (some .int) rmM_verdict G kA kL Λ ad [.ref (ad c0), .int x1, .int x2] w w1 r := by
  refine Mi.of (by decide +kernel) (Nat.le_of_ble_eq_true rfl) ?_
  intro p e s m args below meth c Q ls S hret hl hI
  have S : CallFix p m c cM_verdict 3 s args (.code yM_verdict cM_verdict 3 (some .int) :: gW) "GuardVolumeModel" := S
  have hl : lv_has ls 3 [(0, .ref (ad c0)), (1, .int x1), (2, .int x2)] := hl
  have hx := S.1
  have hb := S.2.1
  have bk23 : ∀ (w : Wo) (c0 : Nat) (x1 : Int32) (x2 : Int32) (t0 : Nat) (s1 : Int32) (H : Heap) (locs : List Loc) (ls : Array Slot), lv_has ls 3 [(0, .ref (ad c0)), (1, .int x1), (2, .int x2)] → Iv (Aa Λ ad) G kA kL Λ ad w s H locs → bM_verdict_23 Λ w c0 x1 x2 t0 s1 = some (w1, r) → W p l e rmM_verdict s m args below meth c H locs 0 0 Q (F0 m 23 ls [.int s1, .ref (ad t0)]) := by
    intro w c0 x1 x2 t0 s1 H locs ls hl hI hf
    unfold bM_verdict_23 at hf
    obtain ⟨w1, hw1, hf⟩ := ob_ hf
    refine r_put (i := 0) S hI fcM (Nat.le_of_ble_eq_true rfl) kw_501 rfl rfl rfl dM_verdict_23 hw1 (fun H locs hI => ?_)
    refine lv_aload_n hx hb dM_verdict_26 rfl (lv_at hl 0 rfl) ?_
    obtain ⟨v2, hv2, hf⟩ := ob_ hf
    refine r_geti (i := 0) S hI fcM (Nat.le_of_ble_eq_true rfl) kw_501 dM_verdict_27 hv2 ?_
    refine lv_if_le (tgt := 37) hx hb dM_verdict_30 rfl (fun h3 => ?_) (fun h3 => ?_)
    · have hf := ip_ hf h3
      refine lv_aload_n hx hb dM_verdict_37 rfl (lv_at hl 0 rfl) ?_
      refine lv_iload_n hx hb dM_verdict_38 rfl (lv_at hl 1 rfl) ?_
      refine lv_iload_n hx hb dM_verdict_39 rfl (lv_at hl 2 rfl) ?_
      obtain ⟨q4, hq4, hf⟩ := ob_ hf
      refine r_ci (r_V (rest := []) (As := [.int x1, .int x2]) S hl hI (kM_verdictOf l G kA kL Λ ad w1 c0 x1 x2 q4.1 q4.2 hq4) pkM_verdictOf kw_579 ks_M_verdictOf (fcM).1 (gd_some hq4).1 kw_577 ⟨rfl, rfl⟩ ⟨Nat.le_of_ble_eq_true rfl, Nat.le_of_ble_eq_true rfl⟩ rfl rfl (Nat.le_of_ble_eq_true rfl) ⟨Nat.zero_le _, Nat.zero_le _⟩ dM_verdict_40) hI (fun H locs hI => ?_)
      exact hret _ _ _ _ _ _ hI hf dM_verdict_43
    · have hf := in_ hf h3
      refine lv_iconst hx hb dM_verdict_33 kI_0 ?_
      refine lv_goto (tgt := 43) hx hb dM_verdict_34 rfl ?_
      exact hret _ _ _ _ _ _ hI hf dM_verdict_43
  have bk18 : ∀ (w : Wo) (c0 : Nat) (x1 : Int32) (x2 : Int32) (t0 : Nat) (H : Heap) (locs : List Loc) (ls : Array Slot), lv_has ls 3 [(0, .ref (ad c0)), (1, .int x1), (2, .int x2)] → Iv (Aa Λ ad) G kA kL Λ ad w s H locs → bM_verdict_18 Λ w c0 x1 x2 t0 = some (w1, r) → W p l e rmM_verdict s m args below meth c H locs 0 0 Q (F0 m 18 ls [.ref (ad t0)]) := by
    intro w c0 x1 x2 t0 H locs ls hl hI hf
    unfold bM_verdict_18 at hf
    refine lv_iconst hx hb dM_verdict_18 kI_1 ?_
    refine lv_goto (tgt := 23) hx hb dM_verdict_19 rfl ?_
    exact bk23 w c0 x1 x2 t0 1 _ _ _ (lv_sub hl [0, 1, 2] rfl) hI hf
  unfold fM_verdict at hf
  have hf := (gd_some hf).2
  refine lv_aload_n hx hb dM_verdict_0 rfl (lv_at hl 0 rfl) ?_
  refine lv_iload_n hx hb dM_verdict_1 rfl (lv_at hl 1 rfl) ?_
  refine lv_iconst hx hb dM_verdict_2 kI_2 ?_
  obtain ⟨q5, hq5, hf⟩ := ob_ hf
  refine r_ci (r_S (rest := [.ref (ad c0)]) (As := [.int x1, .int 2]) S hl hI (kM_in l G kA kL Λ ad w x1 2 q5.1 q5.2 hq5) pkM_in kw_571 kw_570 ⟨rfl, rfl⟩ ⟨Nat.le_of_ble_eq_true rfl, Nat.le_of_ble_eq_true rfl⟩ rfl rfl (Nat.le_of_ble_eq_true rfl) ⟨Nat.zero_le _, Nat.zero_le _⟩ dM_verdict_3) hI (fun H locs hI => ?_)
  refine lv_if_eq (tgt := 18) hx hb dM_verdict_6 rfl (fun h6 => ?_) (fun h6 => ?_)
  · have hf := ip_ hf h6
    exact bk18 q5.1 c0 x1 x2 c0 _ _ _ (lv_sub hl [0, 1, 2] rfl) hI hf
  · have hf := in_ hf h6
    refine lv_iload_n hx hb dM_verdict_9 rfl (lv_at hl 2 rfl) ?_
    refine lv_bipush hx hb dM_verdict_10 kB_64 ?_
    obtain ⟨q7, hq7, hf⟩ := ob_ hf
    refine r_ci (r_S (rest := [.ref (ad c0)]) (As := [.int x2, .int 64]) S hl hI (kM_in l G kA kL Λ ad q5.1 x2 64 q7.1 q7.2 hq7) pkM_in kw_571 kw_570 ⟨rfl, rfl⟩ ⟨Nat.le_of_ble_eq_true rfl, Nat.le_of_ble_eq_true rfl⟩ rfl rfl (Nat.le_of_ble_eq_true rfl) ⟨Nat.zero_le _, Nat.zero_le _⟩ dM_verdict_12) hI (fun H locs hI => ?_)
    refine lv_if_ne (tgt := 22) hx hb dM_verdict_15 rfl (fun h8 => ?_) (fun h8 => ?_)
    · have hf := in_ hf h8
      refine lv_iconst hx hb dM_verdict_22 kI_0 ?_
      exact bk23 q7.1 c0 x1 x2 c0 0 _ _ _ (lv_sub hl [0, 1, 2] rfl) hI hf
    · have hf := ip_ hf h8
      exact bk18 q7.1 c0 x1 x2 c0 _ _ _ (lv_sub hl [0, 1, 2] rfl) hI hf
/-- GuardVolumeModel.isRight(II)Z -/
abbrev rmM_isRight : Room := { frames := 4, cells := 0, slots := 0, locals := 90 }
theorem pkM_isRight : Pk yM_isRight cM_isRight 3 (some .boolean) 2 := ⟨kw_688, kw_7, by decide +kernel, by decide +kernel, by decide +kernel⟩
def bM_isRight_23 (Λ : La) (w : Wo) (c0 : Nat) (x1 : Int32) (x2 : Int32) (t0 : Nat) (s1 : Int32) : Option (Wo × Int32) := (pf Λ w t0 5 0 s1).bind fun w1 => (gi Λ w1 c0 5 0).bind fun v2 => if v2 = 0 then ((fM_isRightPage Λ w1 c0 x1 x2).bind fun q4 => if q4.2 = 0 then (zr q4.1 0) else (zr q4.1 1)) else (zr w1 0)
def bM_isRight_18 (Λ : La) (w : Wo) (c0 : Nat) (x1 : Int32) (x2 : Int32) (t0 : Nat) : Option (Wo × Int32) := bM_isRight_23 Λ w c0 x1 x2 t0 1
def fM_isRight (Λ : La) (w : Wo) (c0 : Nat) (x1 : Int32) (x2 : Int32) : Option (Wo × Int32) := gd (isC Λ c0 5) ((fM_in Λ w x1 2).bind fun q6 => if q6.2 = 0 then (bM_isRight_18 Λ q6.1 c0 x1 x2 c0) else ((fM_in Λ q6.1 x2 8).bind fun q8 => if q8.2 = 0 then (bM_isRight_18 Λ q8.1 c0 x1 x2 c0) else (bM_isRight_23 Λ q8.1 c0 x1 x2 c0 0)))
set_option maxHeartbeats 4000000 in
set_option maxRecDepth 100000 in
theorem kM_isRight (l : Launch) (G : va_G) (kA kL : ClassId) (Λ : La) (ad : Nat → Nat) (w : Wo) (c0 : Nat) (x1 : Int32) (x2 : Int32) (w1 : Wo) (r : Int32) (hf : fM_isRight Λ w c0 x1 x2 = some (w1, r)) : Mi l yM_isRight cM_isRight 3 (some .boolean) rmM_isRight G kA kL Λ ad [.ref (ad c0), .int x1, .int x2] w w1 r := by
  refine Mz.of (by decide +kernel) (Nat.le_of_ble_eq_true rfl) ?_
  intro p e s m args below meth c Q ls S hret hl hI
  have S : CallFix p m c cM_isRight 3 s args (.code yM_isRight cM_isRight 3 (some .boolean) :: gW) "GuardVolumeModel" := S
  have hl : lv_has ls 3 [(0, .ref (ad c0)), (1, .int x1), (2, .int x2)] := hl
  have hx := S.1
  have hb := S.2.1
  have bk23 : ∀ (w : Wo) (c0 : Nat) (x1 : Int32) (x2 : Int32) (t0 : Nat) (s1 : Int32) (H : Heap) (locs : List Loc) (ls : Array Slot), lv_has ls 3 [(0, .ref (ad c0)), (1, .int x1), (2, .int x2)] → Iv (Aa Λ ad) G kA kL Λ ad w s H locs → bM_isRight_23 Λ w c0 x1 x2 t0 s1 = some (w1, r) → W p l e rmM_isRight s m args below meth c H locs 0 0 Q (F0 m 23 ls [.int s1, .ref (ad t0)]) := by
    intro w c0 x1 x2 t0 s1 H locs ls hl hI hf
    unfold bM_isRight_23 at hf
    obtain ⟨w1, hw1, hf⟩ := ob_ hf
    refine r_put (i := 0) S hI fcM (Nat.le_of_ble_eq_true rfl) kw_501 rfl rfl rfl dM_isRight_23 hw1 (fun H locs hI => ?_)
    refine lv_aload_n hx hb dM_isRight_26 rfl (lv_at hl 0 rfl) ?_
    obtain ⟨v2, hv2, hf⟩ := ob_ hf
    refine r_geti (i := 0) S hI fcM (Nat.le_of_ble_eq_true rfl) kw_501 dM_isRight_27 hv2 ?_
    refine lv_if_ne (tgt := 46) hx hb dM_isRight_30 rfl (fun h3 => ?_) (fun h3 => ?_)
    · have hf := in_ hf h3
      refine lv_iconst hx hb dM_isRight_46 kI_0 ?_
      exact hret _ _ _ _ _ _ hI hf dM_isRight_47
    · have hf := ip_ hf h3
      refine lv_aload_n hx hb dM_isRight_33 rfl (lv_at hl 0 rfl) ?_
      refine lv_iload_n hx hb dM_isRight_34 rfl (lv_at hl 1 rfl) ?_
      refine lv_iload_n hx hb dM_isRight_35 rfl (lv_at hl 2 rfl) ?_
      obtain ⟨q4, hq4, hf⟩ := ob_ hf
      refine r_ci (r_V (rest := []) (As := [.int x1, .int x2]) S hl hI (kM_isRightPage l G kA kL Λ ad w1 c0 x1 x2 q4.1 q4.2 hq4) pkM_isRightPage kw_591 ks_M_isRightPage (fcM).1 (gd_some hq4).1 kw_589 ⟨rfl, rfl⟩ ⟨Nat.le_of_ble_eq_true rfl, Nat.le_of_ble_eq_true rfl⟩ rfl rfl (Nat.le_of_ble_eq_true rfl) ⟨Nat.zero_le _, Nat.zero_le _⟩ dM_isRight_36) hI (fun H locs hI => ?_)
      refine lv_if_eq (tgt := 46) hx hb dM_isRight_39 rfl (fun h5 => ?_) (fun h5 => ?_)
      · have hf := ip_ hf h5
        refine lv_iconst hx hb dM_isRight_46 kI_0 ?_
        exact hret _ _ _ _ _ _ hI hf dM_isRight_47
      · have hf := in_ hf h5
        refine lv_iconst hx hb dM_isRight_42 kI_1 ?_
        refine lv_goto (tgt := 47) hx hb dM_isRight_43 rfl ?_
        exact hret _ _ _ _ _ _ hI hf dM_isRight_47
  have bk18 : ∀ (w : Wo) (c0 : Nat) (x1 : Int32) (x2 : Int32) (t0 : Nat) (H : Heap) (locs : List Loc) (ls : Array Slot), lv_has ls 3 [(0, .ref (ad c0)), (1, .int x1), (2, .int x2)] → Iv (Aa Λ ad) G kA kL Λ ad w s H locs → bM_isRight_18 Λ w c0 x1 x2 t0 = some (w1, r) → W p l e rmM_isRight s m args below meth c H locs 0 0 Q (F0 m 18 ls [.ref (ad t0)]) := by
    intro w c0 x1 x2 t0 H locs ls hl hI hf
    unfold bM_isRight_18 at hf
    refine lv_iconst hx hb dM_isRight_18 kI_1 ?_
    refine lv_goto (tgt := 23) hx hb dM_isRight_19 rfl ?_
    exact bk23 w c0 x1 x2 t0 1 _ _ _ (lv_sub hl [0, 1, 2] rfl) hI hf
  unfold fM_isRight at hf
  have hf := (gd_some hf).2
  refine lv_aload_n hx hb dM_isRight_0 rfl (lv_at hl 0 rfl) ?_
  refine lv_iload_n hx hb dM_isRight_1 rfl (lv_at hl 1 rfl) ?_
  refine lv_iconst hx hb dM_isRight_2 kI_2 ?_
  obtain ⟨q6, hq6, hf⟩ := ob_ hf
  refine r_ci (r_S (rest := [.ref (ad c0)]) (As := [.int x1, .int 2]) S hl hI (kM_in l G kA kL Λ ad w x1 2 q6.1 q6.2 hq6) pkM_in kw_571 kw_570 ⟨rfl, rfl⟩ ⟨Nat.le_of_ble_eq_true rfl, Nat.le_of_ble_eq_true rfl⟩ rfl rfl (Nat.le_of_ble_eq_true rfl) ⟨Nat.zero_le _, Nat.zero_le _⟩ dM_isRight_3) hI (fun H locs hI => ?_)
  refine lv_if_eq (tgt := 18) hx hb dM_isRight_6 rfl (fun h7 => ?_) (fun h7 => ?_)
  · have hf := ip_ hf h7
    exact bk18 q6.1 c0 x1 x2 c0 _ _ _ (lv_sub hl [0, 1, 2] rfl) hI hf
  · have hf := in_ hf h7
    refine lv_iload_n hx hb dM_isRight_9 rfl (lv_at hl 2 rfl) ?_
    refine lv_bipush hx hb dM_isRight_10 kB_8 ?_
    obtain ⟨q8, hq8, hf⟩ := ob_ hf
    refine r_ci (r_S (rest := [.ref (ad c0)]) (As := [.int x2, .int 8]) S hl hI (kM_in l G kA kL Λ ad q6.1 x2 8 q8.1 q8.2 hq8) pkM_in kw_571 kw_570 ⟨rfl, rfl⟩ ⟨Nat.le_of_ble_eq_true rfl, Nat.le_of_ble_eq_true rfl⟩ rfl rfl (Nat.le_of_ble_eq_true rfl) ⟨Nat.zero_le _, Nat.zero_le _⟩ dM_isRight_12) hI (fun H locs hI => ?_)
    refine lv_if_ne (tgt := 22) hx hb dM_isRight_15 rfl (fun h9 => ?_) (fun h9 => ?_)
    · have hf := in_ hf h9
      refine lv_iconst hx hb dM_isRight_22 kI_0 ?_
      exact bk23 q8.1 c0 x1 x2 c0 0 _ _ _ (lv_sub hl [0, 1, 2] rfl) hI hf
    · have hf := ip_ hf h9
      exact bk18 q8.1 c0 x1 x2 c0 _ _ _ (lv_sub hl [0, 1, 2] rfl) hI hf
/-- GuardVolumeModel.raw(III)I -/
abbrev rmM_raw : Room := { frames := 1, cells := 0, slots := 0, locals := 21 }
theorem pkM_raw : Pk yM_raw cM_raw 4 (some .int) 3 := ⟨kw_692, kw_7, by decide +kernel, by decide +kernel, by decide +kernel⟩
def bM_raw_32 (Λ : La) (w : Wo) (c0 : Nat) (x1 : Int32) (x2 : Int32) (x3 : Int32) (t0 : Nat) (s1 : Int32) : Option (Wo × Int32) := (pf Λ w t0 5 0 s1).bind fun w1 => (gi Λ w1 c0 5 0).bind fun v2 => if v2 ≤ 0 then ((gr Λ c0 5 1).bind fun r4 => (fM_place Λ w1 x1 x2).bind fun q5 => (ld Λ q5.1 r4 (q5.2 + x3)).bind fun v6 => some (q5.1, v6)) else (some (w1, 0))
def bM_raw_27 (Λ : La) (w : Wo) (c0 : Nat) (x1 : Int32) (x2 : Int32) (x3 : Int32) (t0 : Nat) : Option (Wo × Int32) := bM_raw_32 Λ w c0 x1 x2 x3 t0 1
def fM_raw (Λ : La) (w : Wo) (c0 : Nat) (x1 : Int32) (x2 : Int32) (x3 : Int32) : Option (Wo × Int32) := gd (isC Λ c0 5) ((fM_in Λ w x1 2).bind fun q7 => if q7.2 = 0 then (bM_raw_27 Λ q7.1 c0 x1 x2 x3 c0) else ((fM_in Λ q7.1 x2 72).bind fun q9 => if q9.2 = 0 then (bM_raw_27 Λ q9.1 c0 x1 x2 x3 c0) else ((fM_in Λ q9.1 x3 11).bind fun q11 => if q11.2 = 0 then (bM_raw_27 Λ q11.1 c0 x1 x2 x3 c0) else (bM_raw_32 Λ q11.1 c0 x1 x2 x3 c0 0))))
set_option maxHeartbeats 4000000 in
set_option maxRecDepth 100000 in
theorem kM_raw (l : Launch) (G : va_G) (kA kL : ClassId) (Λ : La) (ad : Nat → Nat) (w : Wo) (c0 : Nat) (x1 : Int32) (x2 : Int32) (x3 : Int32) (w1 : Wo) (r : Int32) (hf : fM_raw Λ w c0 x1 x2 x3 = some (w1, r)) : Mi l yM_raw cM_raw 4 (some .int) rmM_raw G kA kL Λ ad [.ref (ad c0), .int x1, .int x2, .int x3] w w1 r := by
  refine Mi.of (by decide +kernel) (Nat.le_of_ble_eq_true rfl) ?_
  intro p e s m args below meth c Q ls S hret hl hI
  have S : CallFix p m c cM_raw 4 s args (.code yM_raw cM_raw 4 (some .int) :: gW) "GuardVolumeModel" := S
  have hl : lv_has ls 4 [(0, .ref (ad c0)), (1, .int x1), (2, .int x2), (3, .int x3)] := hl
  have hx := S.1
  have hb := S.2.1
  have bk32 : ∀ (w : Wo) (c0 : Nat) (x1 : Int32) (x2 : Int32) (x3 : Int32) (t0 : Nat) (s1 : Int32) (H : Heap) (locs : List Loc) (ls : Array Slot), lv_has ls 4 [(0, .ref (ad c0)), (1, .int x1), (2, .int x2), (3, .int x3)] → Iv (Aa Λ ad) G kA kL Λ ad w s H locs → bM_raw_32 Λ w c0 x1 x2 x3 t0 s1 = some (w1, r) → W p l e rmM_raw s m args below meth c H locs 0 0 Q (F0 m 32 ls [.int s1, .ref (ad t0)]) := by
    intro w c0 x1 x2 x3 t0 s1 H locs ls hl hI hf
    unfold bM_raw_32 at hf
    obtain ⟨w1, hw1, hf⟩ := ob_ hf
    refine r_put (i := 0) S hI fcM (Nat.le_of_ble_eq_true rfl) kw_501 rfl rfl rfl dM_raw_32 hw1 (fun H locs hI => ?_)
    refine lv_aload_n hx hb dM_raw_35 rfl (lv_at hl 0 rfl) ?_
    obtain ⟨v2, hv2, hf⟩ := ob_ hf
    refine r_geti (i := 0) S hI fcM (Nat.le_of_ble_eq_true rfl) kw_501 dM_raw_36 hv2 ?_
    refine lv_if_le (tgt := 46) hx hb dM_raw_39 rfl (fun h3 => ?_) (fun h3 => ?_)
    · have hf := ip_ hf h3
      refine lv_aload_n hx hb dM_raw_46 rfl (lv_at hl 0 rfl) ?_
      obtain ⟨r4, hr4, hf⟩ := ob_ hf
      refine r_getr (i := 1) S hI fcM (Nat.le_of_ble_eq_true rfl) kw_502 dM_raw_47 hr4 ?_
      refine lv_iload_n hx hb dM_raw_50 rfl (lv_at hl 1 rfl) ?_
      refine lv_iload_n hx hb dM_raw_51 rfl (lv_at hl 2 rfl) ?_
      obtain ⟨q5, hq5, hf⟩ := ob_ hf
      refine r_ci (r_S (rest := [.ref (ad r4)]) (As := [.int x1, .int x2]) S hl hI (kM_place l G kA kL Λ ad w1 x1 x2 q5.1 q5.2 hq5) pkM_place kw_492 kw_491 ⟨rfl, rfl⟩ ⟨Nat.le_of_ble_eq_true rfl, Nat.le_of_ble_eq_true rfl⟩ rfl rfl (Nat.le_of_ble_eq_true rfl) ⟨Nat.zero_le _, Nat.zero_le _⟩ dM_raw_52) hI (fun H locs hI => ?_)
      refine lv_iload_n hx hb dM_raw_55 rfl (lv_at hl 3 rfl) ?_
      refine lv_iadd hx hb dM_raw_56 ?_
      obtain ⟨v6, hv6, hf⟩ := ob_ hf
      refine r_ald S hI dM_raw_57 hv6 ?_
      exact hret _ _ _ _ _ _ hI hf dM_raw_58
    · have hf := in_ hf h3
      refine lv_iconst hx hb dM_raw_42 kI_0 ?_
      refine lv_goto (tgt := 58) hx hb dM_raw_43 rfl ?_
      exact hret _ _ _ _ _ _ hI hf dM_raw_58
  have bk27 : ∀ (w : Wo) (c0 : Nat) (x1 : Int32) (x2 : Int32) (x3 : Int32) (t0 : Nat) (H : Heap) (locs : List Loc) (ls : Array Slot), lv_has ls 4 [(0, .ref (ad c0)), (1, .int x1), (2, .int x2), (3, .int x3)] → Iv (Aa Λ ad) G kA kL Λ ad w s H locs → bM_raw_27 Λ w c0 x1 x2 x3 t0 = some (w1, r) → W p l e rmM_raw s m args below meth c H locs 0 0 Q (F0 m 27 ls [.ref (ad t0)]) := by
    intro w c0 x1 x2 x3 t0 H locs ls hl hI hf
    unfold bM_raw_27 at hf
    refine lv_iconst hx hb dM_raw_27 kI_1 ?_
    refine lv_goto (tgt := 32) hx hb dM_raw_28 rfl ?_
    exact bk32 w c0 x1 x2 x3 t0 1 _ _ _ (lv_sub hl [0, 1, 2, 3] rfl) hI hf
  unfold fM_raw at hf
  have hf := (gd_some hf).2
  refine lv_aload_n hx hb dM_raw_0 rfl (lv_at hl 0 rfl) ?_
  refine lv_iload_n hx hb dM_raw_1 rfl (lv_at hl 1 rfl) ?_
  refine lv_iconst hx hb dM_raw_2 kI_2 ?_
  obtain ⟨q7, hq7, hf⟩ := ob_ hf
  refine r_ci (r_S (rest := [.ref (ad c0)]) (As := [.int x1, .int 2]) S hl hI (kM_in l G kA kL Λ ad w x1 2 q7.1 q7.2 hq7) pkM_in kw_571 kw_570 ⟨rfl, rfl⟩ ⟨Nat.le_of_ble_eq_true rfl, Nat.le_of_ble_eq_true rfl⟩ rfl rfl (Nat.le_of_ble_eq_true rfl) ⟨Nat.zero_le _, Nat.zero_le _⟩ dM_raw_3) hI (fun H locs hI => ?_)
  refine lv_if_eq (tgt := 27) hx hb dM_raw_6 rfl (fun h8 => ?_) (fun h8 => ?_)
  · have hf := ip_ hf h8
    exact bk27 q7.1 c0 x1 x2 x3 c0 _ _ _ (lv_sub hl [0, 1, 2, 3] rfl) hI hf
  · have hf := in_ hf h8
    refine lv_iload_n hx hb dM_raw_9 rfl (lv_at hl 2 rfl) ?_
    refine lv_bipush hx hb dM_raw_10 kB_72 ?_
    obtain ⟨q9, hq9, hf⟩ := ob_ hf
    refine r_ci (r_S (rest := [.ref (ad c0)]) (As := [.int x2, .int 72]) S hl hI (kM_in l G kA kL Λ ad q7.1 x2 72 q9.1 q9.2 hq9) pkM_in kw_571 kw_570 ⟨rfl, rfl⟩ ⟨Nat.le_of_ble_eq_true rfl, Nat.le_of_ble_eq_true rfl⟩ rfl rfl (Nat.le_of_ble_eq_true rfl) ⟨Nat.zero_le _, Nat.zero_le _⟩ dM_raw_12) hI (fun H locs hI => ?_)
    refine lv_if_eq (tgt := 27) hx hb dM_raw_15 rfl (fun h10 => ?_) (fun h10 => ?_)
    · have hf := ip_ hf h10
      exact bk27 q9.1 c0 x1 x2 x3 c0 _ _ _ (lv_sub hl [0, 1, 2, 3] rfl) hI hf
    · have hf := in_ hf h10
      refine lv_iload_n hx hb dM_raw_18 rfl (lv_at hl 3 rfl) ?_
      refine lv_bipush hx hb dM_raw_19 kB_11 ?_
      obtain ⟨q11, hq11, hf⟩ := ob_ hf
      refine r_ci (r_S (rest := [.ref (ad c0)]) (As := [.int x3, .int 11]) S hl hI (kM_in l G kA kL Λ ad q9.1 x3 11 q11.1 q11.2 hq11) pkM_in kw_571 kw_570 ⟨rfl, rfl⟩ ⟨Nat.le_of_ble_eq_true rfl, Nat.le_of_ble_eq_true rfl⟩ rfl rfl (Nat.le_of_ble_eq_true rfl) ⟨Nat.zero_le _, Nat.zero_le _⟩ dM_raw_21) hI (fun H locs hI => ?_)
      refine lv_if_ne (tgt := 31) hx hb dM_raw_24 rfl (fun h12 => ?_) (fun h12 => ?_)
      · have hf := in_ hf h12
        refine lv_iconst hx hb dM_raw_31 kI_0 ?_
        exact bk32 q11.1 c0 x1 x2 x3 c0 0 _ _ _ (lv_sub hl [0, 1, 2, 3] rfl) hI hf
      · have hf := ip_ hf h12
        exact bk27 q11.1 c0 x1 x2 x3 c0 _ _ _ (lv_sub hl [0, 1, 2, 3] rfl) hI hf
/-- GuardVolumeModel.replace(I)V -/
abbrev rmM_replace : Room := { frames := 1, cells := 0, slots := 0, locals := 21 }
theorem pkM_replace : Pk yM_replace cM_replace 3 none 1 := ⟨kw_696, kw_7, by decide +kernel, by decide +kernel, by decide +kernel⟩
def bM_replace_38s (Λ : La) (K38 : Wo → Nat → Int32 → Int32 → Option Wo) (w : Wo) (c0 : Nat) (x1 : Int32) (x2 : Int32) : Option Wo := if 792 ≤ x2 then ((gr Λ c0 5 9).bind fun r2 => (st Λ w r2 x1 0).bind fun w3 => some w3) else ((gr Λ c0 5 1).bind fun r4 => (st Λ w r4 ((792 * x1) + x2) 0).bind fun w5 => K38 w5 c0 x1 (x2 + 1))
def bM_replace_38 (Λ : La) : Nat → Wo → Nat → Int32 → Int32 → Option Wo
  | 0 => fun _ _ _ _ => none
  | n + 1 => bM_replace_38s Λ (bM_replace_38 Λ n)
def bM_replace_25 (Λ : La) (w : Wo) (c0 : Nat) (x1 : Int32) (t0 : Nat) (s1 : Int32) : Option Wo := (pf Λ w t0 5 0 s1).bind fun w6 => (gi Λ w6 c0 5 0).bind fun v7 => if v7 ≤ 0 then (bM_replace_38 Λ 1000 w6 c0 x1 0) else (some w6)
def fM_replace (Λ : La) (w : Wo) (c0 : Nat) (x1 : Int32) : Option Wo := gd (isC Λ c0 5) ((fM_in Λ w x1 2).bind fun q9 => if q9.2 = 0 then (bM_replace_25 Λ q9.1 c0 x1 c0 1) else ((gi Λ q9.1 c0 5 6).bind fun v11 => if v11 = 0 then (bM_replace_25 Λ q9.1 c0 x1 c0 0) else (bM_replace_25 Λ q9.1 c0 x1 c0 2)))
set_option maxHeartbeats 4000000 in
set_option maxRecDepth 100000 in
theorem kM_replace (l : Launch) (G : va_G) (kA kL : ClassId) (Λ : La) (ad : Nat → Nat) (w : Wo) (c0 : Nat) (x1 : Int32) (w1 : Wo) (hf : fM_replace Λ w c0 x1 = some w1) : Mv l yM_replace cM_replace 3 rmM_replace G kA kL Λ ad [.ref (ad c0), .int x1] w w1 := by
  refine Mv.of (by decide +kernel) (Nat.le_of_ble_eq_true rfl) ?_
  intro p e s m args below meth c Q ls S hret hl hI
  have S : CallFix p m c cM_replace 3 s args (.code yM_replace cM_replace 3 none :: gW) "GuardVolumeModel" := S
  have hl : lv_has ls 3 [(0, .ref (ad c0)), (1, .int x1)] := hl
  have hx := S.1
  have hb := S.2.1
  have bk38 : ∀ (K38 : Wo → Nat → Int32 → Int32 → Option Wo), (∀ (w : Wo) (c0 : Nat) (x1 : Int32) (x2 : Int32) (H : Heap) (locs : List Loc) (ls : Array Slot), lv_has ls 3 [(0, .ref (ad c0)), (1, .int x1), (2, .int x2)] → Iv (Aa Λ ad) G kA kL Λ ad w s H locs → K38 w c0 x1 x2 = some w1 → W p l e rmM_replace s m args below meth c H locs 0 0 Q (F0 m 38 ls [])) → ∀ (w : Wo) (c0 : Nat) (x1 : Int32) (x2 : Int32) (H : Heap) (locs : List Loc) (ls : Array Slot), lv_has ls 3 [(0, .ref (ad c0)), (1, .int x1), (2, .int x2)] → Iv (Aa Λ ad) G kA kL Λ ad w s H locs → bM_replace_38s Λ K38 w c0 x1 x2 = some w1 → W p l e rmM_replace s m args below meth c H locs 0 0 Q (F0 m 38 ls []) := by
    intro K38 hK38 w c0 x1 x2 H locs ls hl hI hf
    unfold bM_replace_38s at hf
    refine lv_iload_n hx hb dM_replace_38 rfl (lv_at hl 2 rfl) ?_
    refine lv_sipush hx hb dM_replace_39 kS_792 ?_
    refine lv_icmp_ge (tgt := 64) hx hb dM_replace_42 rfl (fun h1 => ?_) (fun h1 => ?_)
    · have hf := ip_ hf h1
      refine lv_aload_n hx hb dM_replace_64 rfl (lv_at hl 0 rfl) ?_
      obtain ⟨r2, hr2, hf⟩ := ob_ hf
      refine r_getr (i := 9) S hI fcM (Nat.le_of_ble_eq_true rfl) kw_510 dM_replace_65 hr2 ?_
      refine lv_iload_n hx hb dM_replace_68 rfl (lv_at hl 1 rfl) ?_
      refine lv_iconst hx hb dM_replace_69 kI_0 ?_
      obtain ⟨w3, hw3, hf⟩ := ob_ hf
      refine r_ast S hI dM_replace_70 hw3 (fun H locs hI => ?_)
      exact hret _ _ _ _ _ hI hf dM_replace_71
    · have hf := in_ hf h1
      refine lv_aload_n hx hb dM_replace_45 rfl (lv_at hl 0 rfl) ?_
      obtain ⟨r4, hr4, hf⟩ := ob_ hf
      refine r_getr (i := 1) S hI fcM (Nat.le_of_ble_eq_true rfl) kw_502 dM_replace_46 hr4 ?_
      refine lv_sipush hx hb dM_replace_49 kS_792 ?_
      refine lv_iload_n hx hb dM_replace_52 rfl (lv_at hl 1 rfl) ?_
      refine lv_imul hx hb dM_replace_53 ?_
      refine lv_iload_n hx hb dM_replace_54 rfl (lv_at hl 2 rfl) ?_
      refine lv_iadd hx hb dM_replace_55 ?_
      refine lv_iconst hx hb dM_replace_56 kI_0 ?_
      obtain ⟨w5, hw5, hf⟩ := ob_ hf
      refine r_ast S hI dM_replace_57 hw5 (fun H locs hI => ?_)
      refine lv_iinc hx hb (lv' := [(2, .int (x2 + 1)), (0, .ref (ad c0)), (1, .int x1)]) (k := 2) dM_replace_58 hl rfl (kN_1 _) (Nat.le_of_ble_eq_true rfl) rfl (fun ls hl => ?_)
      refine lv_goto (tgt := 38) hx hb dM_replace_61 rfl ?_
      exact hK38 w5 c0 x1 (x2 + 1) _ _ _ (lv_sub hl [1, 2, 0] rfl) hI hf
  have lp38 : ∀ (n : Nat), ∀ (w : Wo) (c0 : Nat) (x1 : Int32) (x2 : Int32) (H : Heap) (locs : List Loc) (ls : Array Slot), lv_has ls 3 [(0, .ref (ad c0)), (1, .int x1), (2, .int x2)] → Iv (Aa Λ ad) G kA kL Λ ad w s H locs → bM_replace_38 Λ n w c0 x1 x2 = some w1 → W p l e rmM_replace s m args below meth c H locs 0 0 Q (F0 m 38 ls []) := by
    intro n
    induction n with
    | zero =>
      intro w c0 x1 x2 H locs ls hl hI hf
      have hf : (none : Option Wo) = some w1 := hf
      cases hf
    | succ n ih =>
      intro w c0 x1 x2 H locs ls hl hI hf
      exact bk38 (bM_replace_38 Λ n) ih w c0 x1 x2 H locs ls hl hI hf
  have bk25 : ∀ (w : Wo) (c0 : Nat) (x1 : Int32) (t0 : Nat) (s1 : Int32) (H : Heap) (locs : List Loc) (ls : Array Slot), lv_has ls 3 [(0, .ref (ad c0)), (1, .int x1)] → Iv (Aa Λ ad) G kA kL Λ ad w s H locs → bM_replace_25 Λ w c0 x1 t0 s1 = some w1 → W p l e rmM_replace s m args below meth c H locs 0 0 Q (F0 m 25 ls [.int s1, .ref (ad t0)]) := by
    intro w c0 x1 t0 s1 H locs ls hl hI hf
    unfold bM_replace_25 at hf
    obtain ⟨w6, hw6, hf⟩ := ob_ hf
    refine r_put (i := 0) S hI fcM (Nat.le_of_ble_eq_true rfl) kw_501 rfl rfl rfl dM_replace_25 hw6 (fun H locs hI => ?_)
    refine lv_aload_n hx hb dM_replace_28 rfl (lv_at hl 0 rfl) ?_
    obtain ⟨v7, hv7, hf⟩ := ob_ hf
    refine r_geti (i := 0) S hI fcM (Nat.le_of_ble_eq_true rfl) kw_501 dM_replace_29 hv7 ?_
    refine lv_if_le (tgt := 36) hx hb dM_replace_32 rfl (fun h8 => ?_) (fun h8 => ?_)
    · have hf := ip_ hf h8
      refine lv_iconst hx hb dM_replace_36 kI_0 ?_
      refine lv_istore_n hx hb (lv' := [(2, .int 0), (0, .ref (ad c0)), (1, .int x1)]) dM_replace_37 rfl hl (Nat.le_of_ble_eq_true rfl) rfl (fun ls hl => ?_)
      exact lp38 1000 w6 c0 x1 0 _ _ _ (lv_sub hl [1, 2, 0] rfl) hI hf
    · have hf := in_ hf h8
      exact hret _ _ _ _ _ hI hf dM_replace_35
  unfold fM_replace at hf
  have hf := (gd_some hf).2
  refine lv_aload_n hx hb dM_replace_0 rfl (lv_at hl 0 rfl) ?_
  refine lv_iload_n hx hb dM_replace_1 rfl (lv_at hl 1 rfl) ?_
  refine lv_iconst hx hb dM_replace_2 kI_2 ?_
  obtain ⟨q9, hq9, hf⟩ := ob_ hf
  refine r_ci (r_S (rest := [.ref (ad c0)]) (As := [.int x1, .int 2]) S hl hI (kM_in l G kA kL Λ ad w x1 2 q9.1 q9.2 hq9) pkM_in kw_571 kw_570 ⟨rfl, rfl⟩ ⟨Nat.le_of_ble_eq_true rfl, Nat.le_of_ble_eq_true rfl⟩ rfl rfl (Nat.le_of_ble_eq_true rfl) ⟨Nat.zero_le _, Nat.zero_le _⟩ dM_replace_3) hI (fun H locs hI => ?_)
  refine lv_if_ne (tgt := 13) hx hb dM_replace_6 rfl (fun h10 => ?_) (fun h10 => ?_)
  · have hf := in_ hf h10
    refine lv_aload_n hx hb dM_replace_13 rfl (lv_at hl 0 rfl) ?_
    obtain ⟨v11, hv11, hf⟩ := ob_ hf
    refine r_geti (i := 6) S hI fcM (Nat.le_of_ble_eq_true rfl) kw_507 dM_replace_14 hv11 ?_
    refine lv_if_eq (tgt := 24) hx hb dM_replace_17 rfl (fun h12 => ?_) (fun h12 => ?_)
    · have hf := ip_ hf h12
      refine lv_iconst hx hb dM_replace_24 kI_0 ?_
      exact bk25 q9.1 c0 x1 c0 0 _ _ _ (lv_sub hl [0, 1] rfl) hI hf
    · have hf := in_ hf h12
      refine lv_iconst hx hb dM_replace_20 kI_2 ?_
      refine lv_goto (tgt := 25) hx hb dM_replace_21 rfl ?_
      exact bk25 q9.1 c0 x1 c0 2 _ _ _ (lv_sub hl [0, 1] rfl) hI hf
  · have hf := ip_ hf h10
    refine lv_iconst hx hb dM_replace_9 kI_1 ?_
    refine lv_goto (tgt := 25) hx hb dM_replace_10 rfl ?_
    exact bk25 q9.1 c0 x1 c0 1 _ _ _ (lv_sub hl [0, 1] rfl) hI hf
/-- GuardVolumeModel.rebuild(I)I -/
abbrev rmM_rebuild : Room := { frames := 7, cells := 0, slots := 0, locals := 158 }
theorem pkM_rebuild : Pk yM_rebuild cM_rebuild 7 (some .int) 1 := ⟨kw_700, kw_7, by decide +kernel, by decide +kernel, by decide +kernel⟩
def bM_rebuild_133 (Λ : La) (K32 : Wo → Nat → Int32 → Int32 → Int32 → Option (Wo × Int32)) (w : Wo) (c0 : Nat) (x1 : Int32) (x2 : Int32) (x3 : Int32) : Option (Wo × Int32) := K32 w c0 x1 x2 (x3 + 1)
def bM_rebuild_126 (Λ : La) (K32 : Wo → Nat → Int32 → Int32 → Int32 → Option (Wo × Int32)) (w : Wo) (c0 : Nat) (x1 : Int32) (x2 : Int32) (x3 : Int32) (x6 : Int32) : Option (Wo × Int32) := if x6 = 0 then (some (w, (-1))) else (bM_rebuild_133 Λ K32 w c0 x1 x2 x3)
def bM_rebuild_32s (Λ : La) (K32 : Wo → Nat → Int32 → Int32 → Int32 → Option (Wo × Int32)) (w : Wo) (c0 : Nat) (x1 : Int32) (x2 : Int32) (x3 : Int32) : Option (Wo × Int32) := if 64 ≤ x3 then (some (w, x2)) else ((gi Λ w c0 5 0).bind fun v3 => if v3 = 0 then ((fM_codeOf Λ w c0 x3).bind fun q5 => if q5.2 = 2 then (bM_rebuild_133 Λ K32 q5.1 c0 x1 (x2 + 1) x3) else ((fM_takeWords Λ q5.1 c0 q5.2 x3).bind fun w7 => (gr Λ c0 5 1).bind fun r8 => (fM_place Λ w7 q5.2 x3).bind fun q9 => (ld Λ q9.1 r8 (q9.2 + 10)).bind fun v10 => (fM_putCopy Λ q9.1 c0 x1 x3 v10).bind fun q11 => if q11.2 = 0 then (bM_rebuild_126 Λ K32 q11.1 c0 x1 x2 x3 q11.2) else ((fM_isRightPage Λ q11.1 c0 x1 (x3 / 8)).bind fun q13 => if q13.2 = 0 then ((fM_storeList Λ q13.1 c0 (1 - x1) x3 v10).bind fun q15 => bM_rebuild_126 Λ K32 q15.1 c0 x1 x2 x3 q15.2) else (bM_rebuild_126 Λ K32 q13.1 c0 x1 x2 x3 q11.2)))) else (some (w, x2)))
def bM_rebuild_32 (Λ : La) : Nat → Wo → Nat → Int32 → Int32 → Int32 → Option (Wo × Int32)
  | 0 => fun _ _ _ _ _ => none
  | n + 1 => bM_rebuild_32s Λ (bM_rebuild_32 Λ n)
def bM_rebuild_25 (Λ : La) (w : Wo) (c0 : Nat) (x1 : Int32) (t0 : Nat) (s1 : Int32) : Option (Wo × Int32) := (pf Λ w t0 5 0 s1).bind fun w16 => bM_rebuild_32 Λ 1000 w16 c0 x1 0 0
def fM_rebuild (Λ : La) (w : Wo) (c0 : Nat) (x1 : Int32) : Option (Wo × Int32) := gd (isC Λ c0 5) ((fM_in Λ w x1 2).bind fun q17 => if q17.2 = 0 then (bM_rebuild_25 Λ q17.1 c0 x1 c0 1) else ((gi Λ q17.1 c0 5 6).bind fun v19 => if v19 = 0 then (bM_rebuild_25 Λ q17.1 c0 x1 c0 0) else (bM_rebuild_25 Λ q17.1 c0 x1 c0 2)))
set_option maxHeartbeats 4000000 in
set_option maxRecDepth 100000 in
theorem kM_rebuild (l : Launch) (G : va_G) (kA kL : ClassId) (Λ : La) (ad : Nat → Nat) (w : Wo) (c0 : Nat) (x1 : Int32) (w1 : Wo) (r : Int32) (hf : fM_rebuild Λ w c0 x1 = some (w1, r)) : Mi l yM_rebuild cM_rebuild 7 (some .int) rmM_rebuild G kA kL Λ ad [.ref (ad c0), .int x1] w w1 r := by
  refine Mi.of (by decide +kernel) (Nat.le_of_ble_eq_true rfl) ?_
  intro p e s m args below meth c Q ls S hret hl hI
  have S : CallFix p m c cM_rebuild 7 s args (.code yM_rebuild cM_rebuild 7 (some .int) :: gW) "GuardVolumeModel" := S
  have hl : lv_has ls 7 [(0, .ref (ad c0)), (1, .int x1)] := hl
  have hx := S.1
  have hb := S.2.1
  have bk133 : ∀ (K32 : Wo → Nat → Int32 → Int32 → Int32 → Option (Wo × Int32)), (∀ (w : Wo) (c0 : Nat) (x1 : Int32) (x2 : Int32) (x3 : Int32) (H : Heap) (locs : List Loc) (ls : Array Slot), lv_has ls 7 [(0, .ref (ad c0)), (1, .int x1), (2, .int x2), (3, .int x3)] → Iv (Aa Λ ad) G kA kL Λ ad w s H locs → K32 w c0 x1 x2 x3 = some (w1, r) → W p l e rmM_rebuild s m args below meth c H locs 0 0 Q (F0 m 32 ls [])) → ∀ (w : Wo) (c0 : Nat) (x1 : Int32) (x2 : Int32) (x3 : Int32) (H : Heap) (locs : List Loc) (ls : Array Slot), lv_has ls 7 [(0, .ref (ad c0)), (1, .int x1), (2, .int x2), (3, .int x3)] → Iv (Aa Λ ad) G kA kL Λ ad w s H locs → bM_rebuild_133 Λ K32 w c0 x1 x2 x3 = some (w1, r) → W p l e rmM_rebuild s m args below meth c H locs 0 0 Q (F0 m 133 ls []) := by
    intro K32 hK32 w c0 x1 x2 x3 H locs ls hl hI hf
    unfold bM_rebuild_133 at hf
    refine lv_iinc hx hb (lv' := [(3, .int (x3 + 1)), (0, .ref (ad c0)), (1, .int x1), (2, .int x2)]) (k := 3) dM_rebuild_133 hl rfl (kN_1 _) (Nat.le_of_ble_eq_true rfl) rfl (fun ls hl => ?_)
    refine lv_goto (tgt := 32) hx hb dM_rebuild_136 rfl ?_
    exact hK32 w c0 x1 x2 (x3 + 1) _ _ _ (lv_sub hl [1, 2, 3, 0] rfl) hI hf
  have bk126 : ∀ (K32 : Wo → Nat → Int32 → Int32 → Int32 → Option (Wo × Int32)), (∀ (w : Wo) (c0 : Nat) (x1 : Int32) (x2 : Int32) (x3 : Int32) (H : Heap) (locs : List Loc) (ls : Array Slot), lv_has ls 7 [(0, .ref (ad c0)), (1, .int x1), (2, .int x2), (3, .int x3)] → Iv (Aa Λ ad) G kA kL Λ ad w s H locs → K32 w c0 x1 x2 x3 = some (w1, r) → W p l e rmM_rebuild s m args below meth c H locs 0 0 Q (F0 m 32 ls [])) → ∀ (w : Wo) (c0 : Nat) (x1 : Int32) (x2 : Int32) (x3 : Int32) (x6 : Int32) (H : Heap) (locs : List Loc) (ls : Array Slot), lv_has ls 7 [(0, .ref (ad c0)), (1, .int x1), (2, .int x2), (3, .int x3), (6, .int x6)] → Iv (Aa Λ ad) G kA kL Λ ad w s H locs → bM_rebuild_126 Λ K32 w c0 x1 x2 x3 x6 = some (w1, r) → W p l e rmM_rebuild s m args below meth c H locs 0 0 Q (F0 m 126 ls []) := by
    intro K32 hK32 w c0 x1 x2 x3 x6 H locs ls hl hI hf
    unfold bM_rebuild_126 at hf
    refine lv_iload hx hb dM_rebuild_126 (lv_at hl 4 rfl) ?_
    refine lv_if_ne (tgt := 133) hx hb dM_rebuild_128 rfl (fun h1 => ?_) (fun h1 => ?_)
    · have hf := in_ hf h1
      exact bk133 K32 hK32 w c0 x1 x2 x3 _ _ _ (lv_sub hl [0, 1, 2, 3] rfl) hI hf
    · have hf := ip_ hf h1
      refine lv_iconst hx hb dM_rebuild_131 kI_m1 ?_
      exact hret _ _ _ _ _ _ hI hf dM_rebuild_132
  have bk32 : ∀ (K32 : Wo → Nat → Int32 → Int32 → Int32 → Option (Wo × Int32)), (∀ (w : Wo) (c0 : Nat) (x1 : Int32) (x2 : Int32) (x3 : Int32) (H : Heap) (locs : List Loc) (ls : Array Slot), lv_has ls 7 [(0, .ref (ad c0)), (1, .int x1), (2, .int x2), (3, .int x3)] → Iv (Aa Λ ad) G kA kL Λ ad w s H locs → K32 w c0 x1 x2 x3 = some (w1, r) → W p l e rmM_rebuild s m args below meth c H locs 0 0 Q (F0 m 32 ls [])) → ∀ (w : Wo) (c0 : Nat) (x1 : Int32) (x2 : Int32) (x3 : Int32) (H : Heap) (locs : List Loc) (ls : Array Slot), lv_has ls 7 [(0, .ref (ad c0)), (1, .int x1), (2, .int x2), (3, .int x3)] → Iv (Aa Λ ad) G kA kL Λ ad w s H locs → bM_rebuild_32s Λ K32 w c0 x1 x2 x3 = some (w1, r) → W p l e rmM_rebuild s m args below meth c H locs 0 0 Q (F0 m 32 ls []) := by
    intro K32 hK32 w c0 x1 x2 x3 H locs ls hl hI hf
    unfold bM_rebuild_32s at hf
    refine lv_iload_n hx hb dM_rebuild_32 rfl (lv_at hl 3 rfl) ?_
    refine lv_bipush hx hb dM_rebuild_33 kB_64 ?_
    refine lv_icmp_ge (tgt := 139) hx hb dM_rebuild_35 rfl (fun h2 => ?_) (fun h2 => ?_)
    · have hf := ip_ hf h2
      refine lv_iload_n hx hb dM_rebuild_139 rfl (lv_at hl 2 rfl) ?_
      exact hret _ _ _ _ _ _ hI hf dM_rebuild_140
    · have hf := in_ hf h2
      refine lv_aload_n hx hb dM_rebuild_38 rfl (lv_at hl 0 rfl) ?_
      obtain ⟨v3, hv3, hf⟩ := ob_ hf
      refine r_geti (i := 0) S hI fcM (Nat.le_of_ble_eq_true rfl) kw_501 dM_rebuild_39 hv3 ?_
      refine lv_if_ne (tgt := 139) hx hb dM_rebuild_42 rfl (fun h4 => ?_) (fun h4 => ?_)
      · have hf := in_ hf h4
        refine lv_iload_n hx hb dM_rebuild_139 rfl (lv_at hl 2 rfl) ?_
        exact hret _ _ _ _ _ _ hI hf dM_rebuild_140
      · have hf := ip_ hf h4
        refine lv_aload_n hx hb dM_rebuild_45 rfl (lv_at hl 0 rfl) ?_
        refine lv_iload_n hx hb dM_rebuild_46 rfl (lv_at hl 3 rfl) ?_
        obtain ⟨q5, hq5, hf⟩ := ob_ hf
        refine r_ci (r_V (rest := []) (As := [.int x3]) S hl hI (kM_codeOf l G kA kL Λ ad w c0 x3 q5.1 q5.2 hq5) pkM_codeOf kw_575 ks_M_codeOf (fcM).1 (gd_some hq5).1 kw_573 ⟨rfl, rfl⟩ ⟨Nat.le_of_ble_eq_true rfl, Nat.le_of_ble_eq_true rfl⟩ rfl rfl (Nat.le_of_ble_eq_true rfl) ⟨Nat.zero_le _, Nat.zero_le _⟩ dM_rebuild_47) hI (fun H locs hI => ?_)
        refine lv_istore hx hb (lv' := [(4, .int q5.2), (0, .ref (ad c0)), (1, .int x1), (2, .int x2), (3, .int x3)]) dM_rebuild_50 hl (Nat.le_of_ble_eq_true rfl) rfl (fun ls hl => ?_)
        refine lv_iload hx hb dM_rebuild_52 (lv_at hl 0 rfl) ?_
        refine lv_iconst hx hb dM_rebuild_54 kI_2 ?_
        refine lv_icmp_ne (tgt := 64) hx hb dM_rebuild_55 rfl (fun h6 => ?_) (fun h6 => ?_)
        · have hf := in_ hf h6
          refine lv_aload_n hx hb dM_rebuild_64 rfl (lv_at hl 1 rfl) ?_
          refine lv_iload hx hb dM_rebuild_65 (lv_at hl 0 rfl) ?_
          refine lv_iload_n hx hb dM_rebuild_67 rfl (lv_at hl 4 rfl) ?_
          obtain ⟨w7, hw7, hf⟩ := ob_ hf
          refine r_cv (r_V (rest := []) (As := [.int q5.2, .int x3]) S hl hI (kM_takeWords l G kA kL Λ ad q5.1 c0 q5.2 x3 w7 hw7) pkM_takeWords kw_603 ks_M_takeWords (fcM).1 (gd_some hw7).1 kw_601 ⟨rfl, rfl⟩ ⟨Nat.le_of_ble_eq_true rfl, Nat.le_of_ble_eq_true rfl⟩ rfl rfl (Nat.le_of_ble_eq_true rfl) ⟨Nat.zero_le _, Nat.zero_le _⟩ dM_rebuild_68) hI (fun H locs hI => ?_)
          refine lv_aload_n hx hb dM_rebuild_71 rfl (lv_at hl 1 rfl) ?_
          obtain ⟨r8, hr8, hf⟩ := ob_ hf
          refine r_getr (i := 1) S hI fcM (Nat.le_of_ble_eq_true rfl) kw_502 dM_rebuild_72 hr8 ?_
          refine lv_iload hx hb dM_rebuild_75 (lv_at hl 0 rfl) ?_
          refine lv_iload_n hx hb dM_rebuild_77 rfl (lv_at hl 4 rfl) ?_
          obtain ⟨q9, hq9, hf⟩ := ob_ hf
          refine r_ci (r_S (rest := [.ref (ad r8)]) (As := [.int q5.2, .int x3]) S hl hI (kM_place l G kA kL Λ ad w7 q5.2 x3 q9.1 q9.2 hq9) pkM_place kw_492 kw_491 ⟨rfl, rfl⟩ ⟨Nat.le_of_ble_eq_true rfl, Nat.le_of_ble_eq_true rfl⟩ rfl rfl (Nat.le_of_ble_eq_true rfl) ⟨Nat.zero_le _, Nat.zero_le _⟩ dM_rebuild_78) hI (fun H locs hI => ?_)
          refine lv_bipush hx hb dM_rebuild_81 kB_10 ?_
          refine lv_iadd hx hb dM_rebuild_83 ?_
          obtain ⟨v10, hv10, hf⟩ := ob_ hf
          refine r_ald S hI dM_rebuild_84 hv10 ?_
          refine lv_istore hx hb (lv' := [(5, .int v10), (4, .int q5.2), (0, .ref (ad c0)), (1, .int x1), (2, .int x2), (3, .int x3)]) dM_rebuild_85 hl (Nat.le_of_ble_eq_true rfl) rfl (fun ls hl => ?_)
          refine lv_aload_n hx hb dM_rebuild_87 rfl (lv_at hl 2 rfl) ?_
          refine lv_iload_n hx hb dM_rebuild_88 rfl (lv_at hl 3 rfl) ?_
          refine lv_iload_n hx hb dM_rebuild_89 rfl (lv_at hl 5 rfl) ?_
          refine lv_iload hx hb dM_rebuild_90 (lv_at hl 0 rfl) ?_
          obtain ⟨q11, hq11, hf⟩ := ob_ hf
          refine r_ci (r_V (rest := []) (As := [.int x1, .int x3, .int v10]) S hl hI (kM_putCopy l G kA kL Λ ad q9.1 c0 x1 x3 v10 q11.1 q11.2 hq11) pkM_putCopy kw_611 ks_M_putCopy (fcM).1 (gd_some hq11).1 kw_609 ⟨rfl, rfl⟩ ⟨Nat.le_of_ble_eq_true rfl, Nat.le_of_ble_eq_true rfl⟩ rfl rfl (Nat.le_of_ble_eq_true rfl) ⟨Nat.zero_le _, Nat.zero_le _⟩ dM_rebuild_92) hI (fun H locs hI => ?_)
          refine lv_istore hx hb (lv' := [(6, .int q11.2), (5, .int v10), (4, .int q5.2), (0, .ref (ad c0)), (1, .int x1), (2, .int x2), (3, .int x3)]) dM_rebuild_95 hl (Nat.le_of_ble_eq_true rfl) rfl (fun ls hl => ?_)
          refine lv_iload hx hb dM_rebuild_97 (lv_at hl 0 rfl) ?_
          refine lv_if_eq (tgt := 126) hx hb dM_rebuild_99 rfl (fun h12 => ?_) (fun h12 => ?_)
          · have hf := ip_ hf h12
            exact bk126 K32 hK32 q11.1 c0 x1 x2 x3 q11.2 _ _ _ (lv_sub hl [3, 4, 5, 6, 0] rfl) hI hf
          · have hf := in_ hf h12
            refine lv_aload_n hx hb dM_rebuild_102 rfl (lv_at hl 3 rfl) ?_
            refine lv_iload_n hx hb dM_rebuild_103 rfl (lv_at hl 4 rfl) ?_
            refine lv_iload_n hx hb dM_rebuild_104 rfl (lv_at hl 6 rfl) ?_
            refine lv_bipush hx hb dM_rebuild_105 kB_8 ?_
            refine lv_idiv hx hb dM_rebuild_107 (by decide +kernel) ?_
            obtain ⟨q13, hq13, hf⟩ := ob_ hf
            refine r_ci (r_V (rest := []) (As := [.int x1, .int (x3 / 8)]) S hl hI (kM_isRightPage l G kA kL Λ ad q11.1 c0 x1 (x3 / 8) q13.1 q13.2 hq13) pkM_isRightPage kw_591 ks_M_isRightPage (fcM).1 (gd_some hq13).1 kw_589 ⟨rfl, rfl⟩ ⟨Nat.le_of_ble_eq_true rfl, Nat.le_of_ble_eq_true rfl⟩ rfl rfl (Nat.le_of_ble_eq_true rfl) ⟨Nat.zero_le _, Nat.zero_le _⟩ dM_rebuild_108) hI (fun H locs hI => ?_)
            refine lv_if_ne (tgt := 126) hx hb dM_rebuild_111 rfl (fun h14 => ?_) (fun h14 => ?_)
            · have hf := in_ hf h14
              exact bk126 K32 hK32 q13.1 c0 x1 x2 x3 q11.2 _ _ _ (lv_sub hl [3, 4, 5, 6, 0] rfl) hI hf
            · have hf := ip_ hf h14
              refine lv_aload_n hx hb dM_rebuild_114 rfl (lv_at hl 3 rfl) ?_
              refine lv_iconst hx hb dM_rebuild_115 kI_1 ?_
              refine lv_iload_n hx hb dM_rebuild_116 rfl (lv_at hl 4 rfl) ?_
              refine lv_isub hx hb dM_rebuild_117 ?_
              refine lv_iload_n hx hb dM_rebuild_118 rfl (lv_at hl 6 rfl) ?_
              refine lv_iload hx hb dM_rebuild_119 (lv_at hl 1 rfl) ?_
              obtain ⟨q15, hq15, hf⟩ := ob_ hf
              refine r_ci (r_V (rest := []) (As := [.int (1 - x1), .int x3, .int v10]) S hl hI (kM_storeList l G kA kL Λ ad q13.1 c0 (1 - x1) x3 v10 q15.1 q15.2 hq15) pkM_storeList kw_635 ks_M_storeList (fcM).1 (gd_some hq15).1 kw_633 ⟨rfl, rfl⟩ ⟨Nat.le_of_ble_eq_true rfl, Nat.le_of_ble_eq_true rfl⟩ rfl rfl (Nat.le_of_ble_eq_true rfl) ⟨Nat.zero_le _, Nat.zero_le _⟩ dM_rebuild_121) hI (fun H locs hI => ?_)
              refine lv_istore hx hb (lv' := [(6, .int q15.2), (5, .int v10), (4, .int q5.2), (0, .ref (ad c0)), (1, .int x1), (2, .int x2), (3, .int x3)]) dM_rebuild_124 hl (Nat.le_of_ble_eq_true rfl) rfl (fun ls hl => ?_)
              exact bk126 K32 hK32 q15.1 c0 x1 x2 x3 q15.2 _ _ _ (lv_sub hl [3, 4, 5, 6, 0] rfl) hI hf
        · have hf := ip_ hf h6
          refine lv_iinc hx hb (lv' := [(2, .int (x2 + 1)), (4, .int q5.2), (0, .ref (ad c0)), (1, .int x1), (3, .int x3)]) (k := 3) dM_rebuild_58 hl rfl (kN_1 _) (Nat.le_of_ble_eq_true rfl) rfl (fun ls hl => ?_)
          refine lv_goto (tgt := 133) hx hb dM_rebuild_61 rfl ?_
          exact bk133 K32 hK32 q5.1 c0 x1 (x2 + 1) x3 _ _ _ (lv_sub hl [2, 3, 0, 4] rfl) hI hf
  have lp32 : ∀ (n : Nat), ∀ (w : Wo) (c0 : Nat) (x1 : Int32) (x2 : Int32) (x3 : Int32) (H : Heap) (locs : List Loc) (ls : Array Slot), lv_has ls 7 [(0, .ref (ad c0)), (1, .int x1), (2, .int x2), (3, .int x3)] → Iv (Aa Λ ad) G kA kL Λ ad w s H locs → bM_rebuild_32 Λ n w c0 x1 x2 x3 = some (w1, r) → W p l e rmM_rebuild s m args below meth c H locs 0 0 Q (F0 m 32 ls []) := by
    intro n
    induction n with
    | zero =>
      intro w c0 x1 x2 x3 H locs ls hl hI hf
      have hf : (none : Option (Wo × Int32)) = some (w1, r) := hf
      cases hf
    | succ n ih =>
      intro w c0 x1 x2 x3 H locs ls hl hI hf
      exact bk32 (bM_rebuild_32 Λ n) ih w c0 x1 x2 x3 H locs ls hl hI hf
  have bk25 : ∀ (w : Wo) (c0 : Nat) (x1 : Int32) (t0 : Nat) (s1 : Int32) (H : Heap) (locs : List Loc) (ls : Array Slot), lv_has ls 7 [(0, .ref (ad c0)), (1, .int x1)] → Iv (Aa Λ ad) G kA kL Λ ad w s H locs → bM_rebuild_25 Λ w c0 x1 t0 s1 = some (w1, r) → W p l e rmM_rebuild s m args below meth c H locs 0 0 Q (F0 m 25 ls [.int s1, .ref (ad t0)]) := by
    intro w c0 x1 t0 s1 H locs ls hl hI hf
    unfold bM_rebuild_25 at hf
    obtain ⟨w16, hw16, hf⟩ := ob_ hf
    refine r_put (i := 0) S hI fcM (Nat.le_of_ble_eq_true rfl) kw_501 rfl rfl rfl dM_rebuild_25 hw16 (fun H locs hI => ?_)
    refine lv_iconst hx hb dM_rebuild_28 kI_0 ?_
    refine lv_istore_n hx hb (lv' := [(2, .int 0), (0, .ref (ad c0)), (1, .int x1)]) dM_rebuild_29 rfl hl (Nat.le_of_ble_eq_true rfl) rfl (fun ls hl => ?_)
    refine lv_iconst hx hb dM_rebuild_30 kI_0 ?_
    refine lv_istore_n hx hb (lv' := [(3, .int 0), (2, .int 0), (0, .ref (ad c0)), (1, .int x1)]) dM_rebuild_31 rfl hl (Nat.le_of_ble_eq_true rfl) rfl (fun ls hl => ?_)
    exact lp32 1000 w16 c0 x1 0 0 _ _ _ (lv_sub hl [2, 3, 1, 0] rfl) hI hf
  unfold fM_rebuild at hf
  have hf := (gd_some hf).2
  refine lv_aload_n hx hb dM_rebuild_0 rfl (lv_at hl 0 rfl) ?_
  refine lv_iload_n hx hb dM_rebuild_1 rfl (lv_at hl 1 rfl) ?_
  refine lv_iconst hx hb dM_rebuild_2 kI_2 ?_
  obtain ⟨q17, hq17, hf⟩ := ob_ hf
  refine r_ci (r_S (rest := [.ref (ad c0)]) (As := [.int x1, .int 2]) S hl hI (kM_in l G kA kL Λ ad w x1 2 q17.1 q17.2 hq17) pkM_in kw_571 kw_570 ⟨rfl, rfl⟩ ⟨Nat.le_of_ble_eq_true rfl, Nat.le_of_ble_eq_true rfl⟩ rfl rfl (Nat.le_of_ble_eq_true rfl) ⟨Nat.zero_le _, Nat.zero_le _⟩ dM_rebuild_3) hI (fun H locs hI => ?_)
  refine lv_if_ne (tgt := 13) hx hb dM_rebuild_6 rfl (fun h18 => ?_) (fun h18 => ?_)
  · have hf := in_ hf h18
    refine lv_aload_n hx hb dM_rebuild_13 rfl (lv_at hl 0 rfl) ?_
    obtain ⟨v19, hv19, hf⟩ := ob_ hf
    refine r_geti (i := 6) S hI fcM (Nat.le_of_ble_eq_true rfl) kw_507 dM_rebuild_14 hv19 ?_
    refine lv_if_eq (tgt := 24) hx hb dM_rebuild_17 rfl (fun h20 => ?_) (fun h20 => ?_)
    · have hf := ip_ hf h20
      refine lv_iconst hx hb dM_rebuild_24 kI_0 ?_
      exact bk25 q17.1 c0 x1 c0 0 _ _ _ (lv_sub hl [0, 1] rfl) hI hf
    · have hf := in_ hf h20
      refine lv_iconst hx hb dM_rebuild_20 kI_2 ?_
      refine lv_goto (tgt := 25) hx hb dM_rebuild_21 rfl ?_
      exact bk25 q17.1 c0 x1 c0 2 _ _ _ (lv_sub hl [0, 1] rfl) hI hf
  · have hf := ip_ hf h18
    refine lv_iconst hx hb dM_rebuild_9 kI_1 ?_
    refine lv_goto (tgt := 25) hx hb dM_rebuild_10 rfl ?_
    exact bk25 q17.1 c0 x1 c0 1 _ _ _ (lv_sub hl [0, 1] rfl) hI hf
/-- GuardVolumeModel.count(I)I -/
abbrev rmM_count : Room := { frames := 1, cells := 0, slots := 0, locals := 21 }
theorem pkM_count : Pk yM_count cM_count 4 (some .int) 1 := ⟨kw_704, kw_7, by decide +kernel, by decide +kernel, by decide +kernel⟩
def bM_count_85 (Λ : La) (K59 : Wo → Nat → Int32 → Int32 → Int32 → Option (Wo × Int32)) (w : Wo) (c0 : Nat) (x1 : Int32) (x3 : Int32) (s0 : Int32) : Option (Wo × Int32) := K59 w c0 x1 s0 (x3 + 1)
def bM_count_59s (Λ : La) (K59 : Wo → Nat → Int32 → Int32 → Int32 → Option (Wo × Int32)) (w : Wo) (c0 : Nat) (x1 : Int32) (x2 : Int32) (x3 : Int32) : Option (Wo × Int32) := if 16 ≤ x3 then (if x1 = 4 then ((gi Λ w c0 5 6).bind fun v7 => if v7 = 0 then (some (w, 1)) else (some (w, 0))) else (if x1 = 5 then ((gi Λ w c0 5 3).bind fun v6 => some (w, v6)) else (if x1 = 6 then ((gi Λ w c0 5 14).bind fun v5 => some (w, v5)) else (some (w, x2))))) else ((gr Λ c0 5 2).bind fun r9 => (ld Λ w r9 x3).bind fun v10 => if v10 ≤ x2 then (bM_count_85 Λ K59 w c0 x1 x3 x2) else ((gr Λ c0 5 2).bind fun r12 => (ld Λ w r12 x3).bind fun v13 => bM_count_85 Λ K59 w c0 x1 x3 v13))
def bM_count_59 (Λ : La) : Nat → Wo → Nat → Int32 → Int32 → Int32 → Option (Wo × Int32)
  | 0 => fun _ _ _ _ _ => none
  | n + 1 => bM_count_59s Λ (bM_count_59 Λ n)
def bM_count_15 (Λ : La) (w : Wo) (c0 : Nat) (x1 : Int32) (t0 : Nat) (s1 : Int32) : Option (Wo × Int32) := (pf Λ w t0 5 0 s1).bind fun w14 => (gi Λ w14 c0 5 0).bind fun v15 => if v15 ≤ 0 then (if 4 ≤ x1 then (bM_count_59 Λ 1000 w14 c0 x1 0 0) else (if 2 ≤ x1 then ((gr Λ c0 5 9).bind fun r19 => (ld Λ w14 r19 (x1 - 2)).bind fun v20 => some (w14, v20)) else ((gr Λ c0 5 8).bind fun r21 => (ld Λ w14 r21 x1).bind fun v22 => some (w14, v22)))) else (some (w14, 0))
def fM_count (Λ : La) (w : Wo) (c0 : Nat) (x1 : Int32) : Option (Wo × Int32) := gd (isC Λ c0 5) ((fM_in Λ w x1 8).bind fun q23 => if q23.2 = 0 then (bM_count_15 Λ q23.1 c0 x1 c0 1) else (bM_count_15 Λ q23.1 c0 x1 c0 0))
set_option maxHeartbeats 4000000 in
set_option maxRecDepth 100000 in
theorem kM_count (l : Launch) (G : va_G) (kA kL : ClassId) (Λ : La) (ad : Nat → Nat) (w : Wo) (c0 : Nat) (x1 : Int32) (w1 : Wo) (r : Int32) (hf : fM_count Λ w c0 x1 = some (w1, r)) : Mi l yM_count cM_count 4 (some .int) rmM_count G kA kL Λ ad [.ref (ad c0), .int x1] w w1 r := by
  refine Mi.of (by decide +kernel) (Nat.le_of_ble_eq_true rfl) ?_
  intro p e s m args below meth c Q ls S hret hl hI
  have S : CallFix p m c cM_count 4 s args (.code yM_count cM_count 4 (some .int) :: gW) "GuardVolumeModel" := S
  have hl : lv_has ls 4 [(0, .ref (ad c0)), (1, .int x1)] := hl
  have hx := S.1
  have hb := S.2.1
  have bk85 : ∀ (K59 : Wo → Nat → Int32 → Int32 → Int32 → Option (Wo × Int32)), (∀ (w : Wo) (c0 : Nat) (x1 : Int32) (x2 : Int32) (x3 : Int32) (H : Heap) (locs : List Loc) (ls : Array Slot), lv_has ls 4 [(0, .ref (ad c0)), (1, .int x1), (2, .int x2), (3, .int x3)] → Iv (Aa Λ ad) G kA kL Λ ad w s H locs → K59 w c0 x1 x2 x3 = some (w1, r) → W p l e rmM_count s m args below meth c H locs 0 0 Q (F0 m 59 ls [])) → ∀ (w : Wo) (c0 : Nat) (x1 : Int32) (x3 : Int32) (s0 : Int32) (H : Heap) (locs : List Loc) (ls : Array Slot), lv_has ls 4 [(0, .ref (ad c0)), (1, .int x1), (3, .int x3)] → Iv (Aa Λ ad) G kA kL Λ ad w s H locs → bM_count_85 Λ K59 w c0 x1 x3 s0 = some (w1, r) → W p l e rmM_count s m args below meth c H locs 0 0 Q (F0 m 85 ls [.int s0]) := by
    intro K59 hK59 w c0 x1 x3 s0 H locs ls hl hI hf
    unfold bM_count_85 at hf
    refine lv_istore_n hx hb (lv' := [(2, .int s0), (0, .ref (ad c0)), (1, .int x1), (3, .int x3)]) dM_count_85 rfl hl (Nat.le_of_ble_eq_true rfl) rfl (fun ls hl => ?_)
    refine lv_iinc hx hb (lv' := [(3, .int (x3 + 1)), (2, .int s0), (0, .ref (ad c0)), (1, .int x1)]) (k := 3) dM_count_86 hl rfl (kN_1 _) (Nat.le_of_ble_eq_true rfl) rfl (fun ls hl => ?_)
    refine lv_goto (tgt := 59) hx hb dM_count_89 rfl ?_
    exact hK59 w c0 x1 s0 (x3 + 1) _ _ _ (lv_sub hl [2, 3, 1, 0] rfl) hI hf
  have bk59 : ∀ (K59 : Wo → Nat → Int32 → Int32 → Int32 → Option (Wo × Int32)), (∀ (w : Wo) (c0 : Nat) (x1 : Int32) (x2 : Int32) (x3 : Int32) (H : Heap) (locs : List Loc) (ls : Array Slot), lv_has ls 4 [(0, .ref (ad c0)), (1, .int x1), (2, .int x2), (3, .int x3)] → Iv (Aa Λ ad) G kA kL Λ ad w s H locs → K59 w c0 x1 x2 x3 = some (w1, r) → W p l e rmM_count s m args below meth c H locs 0 0 Q (F0 m 59 ls [])) → ∀ (w : Wo) (c0 : Nat) (x1 : Int32) (x2 : Int32) (x3 : Int32) (H : Heap) (locs : List Loc) (ls : Array Slot), lv_has ls 4 [(0, .ref (ad c0)), (1, .int x1), (2, .int x2), (3, .int x3)] → Iv (Aa Λ ad) G kA kL Λ ad w s H locs → bM_count_59s Λ K59 w c0 x1 x2 x3 = some (w1, r) → W p l e rmM_count s m args below meth c H locs 0 0 Q (F0 m 59 ls []) := by
    intro K59 hK59 w c0 x1 x2 x3 H locs ls hl hI hf
    unfold bM_count_59s at hf
    refine lv_iload_n hx hb dM_count_59 rfl (lv_at hl 3 rfl) ?_
    refine lv_bipush hx hb dM_count_60 kB_16 ?_
    refine lv_icmp_ge (tgt := 92) hx hb dM_count_62 rfl (fun h1 => ?_) (fun h1 => ?_)
    · have hf := ip_ hf h1
      refine lv_iload_n hx hb dM_count_92 rfl (lv_at hl 1 rfl) ?_
      refine lv_iconst hx hb dM_count_93 kI_4 ?_
      refine lv_icmp_ne (tgt := 112) hx hb dM_count_94 rfl (fun h2 => ?_) (fun h2 => ?_)
      · have hf := in_ hf h2
        refine lv_iload_n hx hb dM_count_112 rfl (lv_at hl 1 rfl) ?_
        refine lv_iconst hx hb dM_count_113 kI_5 ?_
        refine lv_icmp_ne (tgt := 124) hx hb dM_count_114 rfl (fun h3 => ?_) (fun h3 => ?_)
        · have hf := in_ hf h3
          refine lv_iload_n hx hb dM_count_124 rfl (lv_at hl 1 rfl) ?_
          refine lv_bipush hx hb dM_count_125 kB_6 ?_
          refine lv_icmp_ne (tgt := 137) hx hb dM_count_127 rfl (fun h4 => ?_) (fun h4 => ?_)
          · have hf := in_ hf h4
            refine lv_iload_n hx hb dM_count_137 rfl (lv_at hl 2 rfl) ?_
            exact hret _ _ _ _ _ _ hI hf dM_count_138
          · have hf := ip_ hf h4
            refine lv_aload_n hx hb dM_count_130 rfl (lv_at hl 0 rfl) ?_
            obtain ⟨v5, hv5, hf⟩ := ob_ hf
            refine r_geti (i := 14) S hI fcM (Nat.le_of_ble_eq_true rfl) kw_515 dM_count_131 hv5 ?_
            refine lv_goto (tgt := 138) hx hb dM_count_134 rfl ?_
            exact hret _ _ _ _ _ _ hI hf dM_count_138
        · have hf := ip_ hf h3
          refine lv_aload_n hx hb dM_count_117 rfl (lv_at hl 0 rfl) ?_
          obtain ⟨v6, hv6, hf⟩ := ob_ hf
          refine r_geti (i := 3) S hI fcM (Nat.le_of_ble_eq_true rfl) kw_504 dM_count_118 hv6 ?_
          refine lv_goto (tgt := 138) hx hb dM_count_121 rfl ?_
          exact hret _ _ _ _ _ _ hI hf dM_count_138
      · have hf := ip_ hf h2
        refine lv_aload_n hx hb dM_count_97 rfl (lv_at hl 0 rfl) ?_
        obtain ⟨v7, hv7, hf⟩ := ob_ hf
        refine r_geti (i := 6) S hI fcM (Nat.le_of_ble_eq_true rfl) kw_507 dM_count_98 hv7 ?_
        refine lv_if_eq (tgt := 108) hx hb dM_count_101 rfl (fun h8 => ?_) (fun h8 => ?_)
        · have hf := ip_ hf h8
          refine lv_iconst hx hb dM_count_108 kI_1 ?_
          refine lv_goto (tgt := 138) hx hb dM_count_109 rfl ?_
          exact hret _ _ _ _ _ _ hI hf dM_count_138
        · have hf := in_ hf h8
          refine lv_iconst hx hb dM_count_104 kI_0 ?_
          refine lv_goto (tgt := 138) hx hb dM_count_105 rfl ?_
          exact hret _ _ _ _ _ _ hI hf dM_count_138
    · have hf := in_ hf h1
      refine lv_aload_n hx hb dM_count_65 rfl (lv_at hl 0 rfl) ?_
      obtain ⟨r9, hr9, hf⟩ := ob_ hf
      refine r_getr (i := 2) S hI fcM (Nat.le_of_ble_eq_true rfl) kw_503 dM_count_66 hr9 ?_
      refine lv_iload_n hx hb dM_count_69 rfl (lv_at hl 3 rfl) ?_
      obtain ⟨v10, hv10, hf⟩ := ob_ hf
      refine r_ald S hI dM_count_70 hv10 ?_
      refine lv_iload_n hx hb dM_count_71 rfl (lv_at hl 2 rfl) ?_
      refine lv_icmp_le (tgt := 84) hx hb dM_count_72 rfl (fun h11 => ?_) (fun h11 => ?_)
      · have hf := ip_ hf h11
        refine lv_iload_n hx hb dM_count_84 rfl (lv_at hl 2 rfl) ?_
        exact bk85 K59 hK59 w c0 x1 x3 x2 _ _ _ (lv_sub hl [0, 1, 3] rfl) hI hf
      · have hf := in_ hf h11
        refine lv_aload_n hx hb dM_count_75 rfl (lv_at hl 0 rfl) ?_
        obtain ⟨r12, hr12, hf⟩ := ob_ hf
        refine r_getr (i := 2) S hI fcM (Nat.le_of_ble_eq_true rfl) kw_503 dM_count_76 hr12 ?_
        refine lv_iload_n hx hb dM_count_79 rfl (lv_at hl 3 rfl) ?_
        obtain ⟨v13, hv13, hf⟩ := ob_ hf
        refine r_ald S hI dM_count_80 hv13 ?_
        refine lv_goto (tgt := 85) hx hb dM_count_81 rfl ?_
        exact bk85 K59 hK59 w c0 x1 x3 v13 _ _ _ (lv_sub hl [0, 1, 3] rfl) hI hf
  have lp59 : ∀ (n : Nat), ∀ (w : Wo) (c0 : Nat) (x1 : Int32) (x2 : Int32) (x3 : Int32) (H : Heap) (locs : List Loc) (ls : Array Slot), lv_has ls 4 [(0, .ref (ad c0)), (1, .int x1), (2, .int x2), (3, .int x3)] → Iv (Aa Λ ad) G kA kL Λ ad w s H locs → bM_count_59 Λ n w c0 x1 x2 x3 = some (w1, r) → W p l e rmM_count s m args below meth c H locs 0 0 Q (F0 m 59 ls []) := by
    intro n
    induction n with
    | zero =>
      intro w c0 x1 x2 x3 H locs ls hl hI hf
      have hf : (none : Option (Wo × Int32)) = some (w1, r) := hf
      cases hf
    | succ n ih =>
      intro w c0 x1 x2 x3 H locs ls hl hI hf
      exact bk59 (bM_count_59 Λ n) ih w c0 x1 x2 x3 H locs ls hl hI hf
  have bk15 : ∀ (w : Wo) (c0 : Nat) (x1 : Int32) (t0 : Nat) (s1 : Int32) (H : Heap) (locs : List Loc) (ls : Array Slot), lv_has ls 4 [(0, .ref (ad c0)), (1, .int x1)] → Iv (Aa Λ ad) G kA kL Λ ad w s H locs → bM_count_15 Λ w c0 x1 t0 s1 = some (w1, r) → W p l e rmM_count s m args below meth c H locs 0 0 Q (F0 m 15 ls [.int s1, .ref (ad t0)]) := by
    intro w c0 x1 t0 s1 H locs ls hl hI hf
    unfold bM_count_15 at hf
    obtain ⟨w14, hw14, hf⟩ := ob_ hf
    refine r_put (i := 0) S hI fcM (Nat.le_of_ble_eq_true rfl) kw_501 rfl rfl rfl dM_count_15 hw14 (fun H locs hI => ?_)
    refine lv_aload_n hx hb dM_count_18 rfl (lv_at hl 0 rfl) ?_
    obtain ⟨v15, hv15, hf⟩ := ob_ hf
    refine r_geti (i := 0) S hI fcM (Nat.le_of_ble_eq_true rfl) kw_501 dM_count_19 hv15 ?_
    refine lv_if_le (tgt := 27) hx hb dM_count_22 rfl (fun h16 => ?_) (fun h16 => ?_)
    · have hf := ip_ hf h16
      refine lv_iload_n hx hb dM_count_27 rfl (lv_at hl 1 rfl) ?_
      refine lv_iconst hx hb dM_count_28 kI_4 ?_
      refine lv_icmp_ge (tgt := 55) hx hb dM_count_29 rfl (fun h17 => ?_) (fun h17 => ?_)
      · have hf := ip_ hf h17
        refine lv_iconst hx hb dM_count_55 kI_0 ?_
        refine lv_istore_n hx hb (lv' := [(2, .int 0), (0, .ref (ad c0)), (1, .int x1)]) dM_count_56 rfl hl (Nat.le_of_ble_eq_true rfl) rfl (fun ls hl => ?_)
        refine lv_iconst hx hb dM_count_57 kI_0 ?_
        refine lv_istore_n hx hb (lv' := [(3, .int 0), (2, .int 0), (0, .ref (ad c0)), (1, .int x1)]) dM_count_58 rfl hl (Nat.le_of_ble_eq_true rfl) rfl (fun ls hl => ?_)
        exact lp59 1000 w14 c0 x1 0 0 _ _ _ (lv_sub hl [2, 3, 1, 0] rfl) hI hf
      · have hf := in_ hf h17
        refine lv_iload_n hx hb dM_count_32 rfl (lv_at hl 1 rfl) ?_
        refine lv_iconst hx hb dM_count_33 kI_2 ?_
        refine lv_icmp_ge (tgt := 46) hx hb dM_count_34 rfl (fun h18 => ?_) (fun h18 => ?_)
        · have hf := ip_ hf h18
          refine lv_aload_n hx hb dM_count_46 rfl (lv_at hl 0 rfl) ?_
          obtain ⟨r19, hr19, hf⟩ := ob_ hf
          refine r_getr (i := 9) S hI fcM (Nat.le_of_ble_eq_true rfl) kw_510 dM_count_47 hr19 ?_
          refine lv_iload_n hx hb dM_count_50 rfl (lv_at hl 1 rfl) ?_
          refine lv_iconst hx hb dM_count_51 kI_2 ?_
          refine lv_isub hx hb dM_count_52 ?_
          obtain ⟨v20, hv20, hf⟩ := ob_ hf
          refine r_ald S hI dM_count_53 hv20 ?_
          exact hret _ _ _ _ _ _ hI hf dM_count_54
        · have hf := in_ hf h18
          refine lv_aload_n hx hb dM_count_37 rfl (lv_at hl 0 rfl) ?_
          obtain ⟨r21, hr21, hf⟩ := ob_ hf
          refine r_getr (i := 8) S hI fcM (Nat.le_of_ble_eq_true rfl) kw_509 dM_count_38 hr21 ?_
          refine lv_iload_n hx hb dM_count_41 rfl (lv_at hl 1 rfl) ?_
          obtain ⟨v22, hv22, hf⟩ := ob_ hf
          refine r_ald S hI dM_count_42 hv22 ?_
          refine lv_goto (tgt := 54) hx hb dM_count_43 rfl ?_
          exact hret _ _ _ _ _ _ hI hf dM_count_54
    · have hf := in_ hf h16
      refine lv_iconst hx hb dM_count_25 kI_0 ?_
      exact hret _ _ _ _ _ _ hI hf dM_count_26
  unfold fM_count at hf
  have hf := (gd_some hf).2
  refine lv_aload_n hx hb dM_count_0 rfl (lv_at hl 0 rfl) ?_
  refine lv_iload_n hx hb dM_count_1 rfl (lv_at hl 1 rfl) ?_
  refine lv_bipush hx hb dM_count_2 kB_8 ?_
  obtain ⟨q23, hq23, hf⟩ := ob_ hf
  refine r_ci (r_S (rest := [.ref (ad c0)]) (As := [.int x1, .int 8]) S hl hI (kM_in l G kA kL Λ ad w x1 8 q23.1 q23.2 hq23) pkM_in kw_571 kw_570 ⟨rfl, rfl⟩ ⟨Nat.le_of_ble_eq_true rfl, Nat.le_of_ble_eq_true rfl⟩ rfl rfl (Nat.le_of_ble_eq_true rfl) ⟨Nat.zero_le _, Nat.zero_le _⟩ dM_count_4) hI (fun H locs hI => ?_)
  refine lv_if_eq (tgt := 14) hx hb dM_count_7 rfl (fun h24 => ?_) (fun h24 => ?_)
  · have hf := ip_ hf h24
    refine lv_iconst hx hb dM_count_14 kI_1 ?_
    exact bk15 q23.1 c0 x1 c0 1 _ _ _ (lv_sub hl [0, 1] rfl) hI hf
  · have hf := in_ hf h24
    refine lv_iconst hx hb dM_count_10 kI_0 ?_
    refine lv_goto (tgt := 15) hx hb dM_count_11 rfl ?_
    exact bk15 q23.1 c0 x1 c0 0 _ _ _ (lv_sub hl [0, 1] rfl) hI hf

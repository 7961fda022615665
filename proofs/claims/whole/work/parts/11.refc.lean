/-! written by walk.py: the functions that the bytecode computes, and the walks -/
/-- GuardVolumeModel.read(II)I -/
abbrev rmM_read : Room := { frames := 7, cells := 0, slots := 0, locals := 158 }
theorem pkM_read : Pk yM_read cM_read 3 (some .int) 2 := ⟨kw_640, kw_7, by decide +kernel, by decide +kernel, by decide +kernel⟩
def bM_read_35 (Λ : La) (w : Wo) (c0 : Nat) (x1 : Int32) (x2 : Int32) (t0 : Nat) (s1 : Int32) : Option (Wo × Int32) := (pf Λ w t0 5 0 s1).bind fun w1 => (gi Λ w1 c0 5 0).bind fun v2 => if v2 ≤ 0 then ((fM_codeOf Λ w1 c0 x1).bind fun q4 => (pf Λ q4.1 c0 5 13 q4.2).bind fun w5 => (gi Λ w5 c0 5 13).bind fun v6 => if v6 = 2 then (some (w5, 0)) else ((gr Λ c0 5 1).bind fun r8 => (gi Λ w5 c0 5 13).bind fun v9 => (fM_place Λ w5 v9 x1).bind fun q10 => (ld Λ q10.1 r8 (q10.2 + x2)).bind fun v11 => some (q10.1, v11))) else (some (w1, 0))
def bM_read_19 (Λ : La) (w : Wo) (c0 : Nat) (x1 : Int32) (x2 : Int32) (t0 : Nat) : Option (Wo × Int32) := bM_read_35 Λ w c0 x1 x2 t0 1
def fM_read (Λ : La) (w : Wo) (c0 : Nat) (x1 : Int32) (x2 : Int32) : Option (Wo × Int32) := gd (isC Λ c0 5) ((fM_in Λ w x1 64).bind fun q12 => if q12.2 = 0 then (bM_read_19 Λ q12.1 c0 x1 x2 c0) else ((fM_in Λ q12.1 x2 8).bind fun q14 => if q14.2 = 0 then (bM_read_19 Λ q14.1 c0 x1 x2 c0) else ((gi Λ q14.1 c0 5 6).bind fun v16 => if v16 = 0 then (bM_read_35 Λ q14.1 c0 x1 x2 c0 0) else (bM_read_35 Λ q14.1 c0 x1 x2 c0 2))))
set_option maxHeartbeats 4000000 in
set_option maxRecDepth 100000 in
theorem kM_read (l : Launch) (G : va_G) (kA kL : ClassId) (Λ : La) (ad : Nat → Nat) (w : Wo) (c0 : Nat) (x1 : Int32) (x2 : Int32) (w1 : Wo) (r : Int32) (hf : fM_read Λ w c0 x1 x2 = some (w1, r)) : Mi l yM_read cM_read 3 (some .int) rmM_read G kA kL Λ ad [.ref (ad c0), .int x1, .int x2] w w1 r := by
  refine Mi.of (by decide +kernel) (Nat.le_of_ble_eq_true rfl) ?_
  intro p e s m args below meth c Q ls S hret hl hI
  have S : CallFix p m c cM_read 3 s args (.code yM_read cM_read 3 (some .int) :: gW) "GuardVolumeModel" := S
  have hl : lv_has ls 3 [(0, .ref (ad c0)), (1, .int x1), (2, .int x2)] := hl
  have hx := S.1
  have hb := S.2.1
  have bk35 : ∀ (w : Wo) (c0 : Nat) (x1 : Int32) (x2 : Int32) (t0 : Nat) (s1 : Int32) (H : Heap) (locs : List Loc) (ls : Array Slot), lv_has ls 3 [(0, .ref (ad c0)), (1, .int x1), (2, .int x2)] → Iv (Aa Λ ad) G kA kL Λ ad w s H locs → bM_read_35 Λ w c0 x1 x2 t0 s1 = some (w1, r) → W p l e rmM_read s m args below meth c H locs 0 0 Q (F0 m 35 ls [.int s1, .ref (ad t0)]) := by
    intro w c0 x1 x2 t0 s1 H locs ls hl hI hf
    unfold bM_read_35 at hf
    obtain ⟨w1, hw1, hf⟩ := ob_ hf
    refine r_put (i := 0) S hI fcM (Nat.le_of_ble_eq_true rfl) kw_501 rfl rfl rfl dM_read_35 hw1 (fun H locs hI => ?_)
    refine lv_aload_n hx hb dM_read_38 rfl (lv_at hl 0 rfl) ?_
    obtain ⟨v2, hv2, hf⟩ := ob_ hf
    refine r_geti (i := 0) S hI fcM (Nat.le_of_ble_eq_true rfl) kw_501 dM_read_39 hv2 ?_
    refine lv_if_le (tgt := 47) hx hb dM_read_42 rfl (fun h3 => ?_) (fun h3 => ?_)
    · have hf := ip_ hf h3
      refine lv_aload_n hx hb dM_read_47 rfl (lv_at hl 0 rfl) ?_
      refine lv_aload_n hx hb dM_read_48 rfl (lv_at hl 0 rfl) ?_
      refine lv_iload_n hx hb dM_read_49 rfl (lv_at hl 1 rfl) ?_
      obtain ⟨q4, hq4, hf⟩ := ob_ hf
      refine r_ci (r_V (rest := [.ref (ad c0)]) (As := [.int x1]) S hl hI (kM_codeOf l G kA kL Λ ad w1 c0 x1 q4.1 q4.2 hq4) pkM_codeOf kw_575 ks_M_codeOf (fcM).1 (gd_some hq4).1 kw_573 ⟨rfl, rfl⟩ ⟨Nat.le_of_ble_eq_true rfl, Nat.le_of_ble_eq_true rfl⟩ rfl rfl (Nat.le_of_ble_eq_true rfl) ⟨Nat.zero_le _, Nat.zero_le _⟩ dM_read_50) hI (fun H locs hI => ?_)
      obtain ⟨w5, hw5, hf⟩ := ob_ hf
      refine r_put (i := 13) S hI fcM (Nat.le_of_ble_eq_true rfl) kw_514 rfl rfl rfl dM_read_53 hw5 (fun H locs hI => ?_)
      refine lv_aload_n hx hb dM_read_56 rfl (lv_at hl 0 rfl) ?_
      obtain ⟨v6, hv6, hf⟩ := ob_ hf
      refine r_geti (i := 13) S hI fcM (Nat.le_of_ble_eq_true rfl) kw_514 dM_read_57 hv6 ?_
      refine lv_iconst hx hb dM_read_60 kI_2 ?_
      refine lv_icmp_ne (tgt := 68) hx hb dM_read_61 rfl (fun h7 => ?_) (fun h7 => ?_)
      · have hf := in_ hf h7
        refine lv_aload_n hx hb dM_read_68 rfl (lv_at hl 0 rfl) ?_
        obtain ⟨r8, hr8, hf⟩ := ob_ hf
        refine r_getr (i := 1) S hI fcM (Nat.le_of_ble_eq_true rfl) kw_502 dM_read_69 hr8 ?_
        refine lv_aload_n hx hb dM_read_72 rfl (lv_at hl 0 rfl) ?_
        obtain ⟨v9, hv9, hf⟩ := ob_ hf
        refine r_geti (i := 13) S hI fcM (Nat.le_of_ble_eq_true rfl) kw_514 dM_read_73 hv9 ?_
        refine lv_iload_n hx hb dM_read_76 rfl (lv_at hl 1 rfl) ?_
        obtain ⟨q10, hq10, hf⟩ := ob_ hf
        refine r_ci (r_S (rest := [.ref (ad r8)]) (As := [.int v9, .int x1]) S hl hI (kM_place l G kA kL Λ ad w5 v9 x1 q10.1 q10.2 hq10) pkM_place kw_492 kw_491 ⟨rfl, rfl⟩ ⟨Nat.le_of_ble_eq_true rfl, Nat.le_of_ble_eq_true rfl⟩ rfl rfl (Nat.le_of_ble_eq_true rfl) ⟨Nat.zero_le _, Nat.zero_le _⟩ dM_read_77) hI (fun H locs hI => ?_)
        refine lv_iload_n hx hb dM_read_80 rfl (lv_at hl 2 rfl) ?_
        refine lv_iadd hx hb dM_read_81 ?_
        obtain ⟨v11, hv11, hf⟩ := ob_ hf
        refine r_ald S hI dM_read_82 hv11 ?_
        exact hret _ _ _ _ _ _ hI hf dM_read_83
      · have hf := ip_ hf h7
        refine lv_iconst hx hb dM_read_64 kI_0 ?_
        refine lv_goto (tgt := 83) hx hb dM_read_65 rfl ?_
        exact hret _ _ _ _ _ _ hI hf dM_read_83
    · have hf := in_ hf h3
      refine lv_iconst hx hb dM_read_45 kI_0 ?_
      exact hret _ _ _ _ _ _ hI hf dM_read_46
  have bk19 : ∀ (w : Wo) (c0 : Nat) (x1 : Int32) (x2 : Int32) (t0 : Nat) (H : Heap) (locs : List Loc) (ls : Array Slot), lv_has ls 3 [(0, .ref (ad c0)), (1, .int x1), (2, .int x2)] → Iv (Aa Λ ad) G kA kL Λ ad w s H locs → bM_read_19 Λ w c0 x1 x2 t0 = some (w1, r) → W p l e rmM_read s m args below meth c H locs 0 0 Q (F0 m 19 ls [.ref (ad t0)]) := by
    intro w c0 x1 x2 t0 H locs ls hl hI hf
    unfold bM_read_19 at hf
    refine lv_iconst hx hb dM_read_19 kI_1 ?_
    refine lv_goto (tgt := 35) hx hb dM_read_20 rfl ?_
    exact bk35 w c0 x1 x2 t0 1 _ _ _ (lv_sub hl [0, 1, 2] rfl) hI hf
  unfold fM_read at hf
  have hf := (gd_some hf).2
  refine lv_aload_n hx hb dM_read_0 rfl (lv_at hl 0 rfl) ?_
  refine lv_iload_n hx hb dM_read_1 rfl (lv_at hl 1 rfl) ?_
  refine lv_bipush hx hb dM_read_2 kB_64 ?_
  obtain ⟨q12, hq12, hf⟩ := ob_ hf
  refine r_ci (r_S (rest := [.ref (ad c0)]) (As := [.int x1, .int 64]) S hl hI (kM_in l G kA kL Λ ad w x1 64 q12.1 q12.2 hq12) pkM_in kw_571 kw_570 ⟨rfl, rfl⟩ ⟨Nat.le_of_ble_eq_true rfl, Nat.le_of_ble_eq_true rfl⟩ rfl rfl (Nat.le_of_ble_eq_true rfl) ⟨Nat.zero_le _, Nat.zero_le _⟩ dM_read_4) hI (fun H locs hI => ?_)
  refine lv_if_eq (tgt := 19) hx hb dM_read_7 rfl (fun h13 => ?_) (fun h13 => ?_)
  · have hf := ip_ hf h13
    exact bk19 q12.1 c0 x1 x2 c0 _ _ _ (lv_sub hl [0, 1, 2] rfl) hI hf
  · have hf := in_ hf h13
    refine lv_iload_n hx hb dM_read_10 rfl (lv_at hl 2 rfl) ?_
    refine lv_bipush hx hb dM_read_11 kB_8 ?_
    obtain ⟨q14, hq14, hf⟩ := ob_ hf
    refine r_ci (r_S (rest := [.ref (ad c0)]) (As := [.int x2, .int 8]) S hl hI (kM_in l G kA kL Λ ad q12.1 x2 8 q14.1 q14.2 hq14) pkM_in kw_571 kw_570 ⟨rfl, rfl⟩ ⟨Nat.le_of_ble_eq_true rfl, Nat.le_of_ble_eq_true rfl⟩ rfl rfl (Nat.le_of_ble_eq_true rfl) ⟨Nat.zero_le _, Nat.zero_le _⟩ dM_read_13) hI (fun H locs hI => ?_)
    refine lv_if_ne (tgt := 23) hx hb dM_read_16 rfl (fun h15 => ?_) (fun h15 => ?_)
    · have hf := in_ hf h15
      refine lv_aload_n hx hb dM_read_23 rfl (lv_at hl 0 rfl) ?_
      obtain ⟨v16, hv16, hf⟩ := ob_ hf
      refine r_geti (i := 6) S hI fcM (Nat.le_of_ble_eq_true rfl) kw_507 dM_read_24 hv16 ?_
      refine lv_if_eq (tgt := 34) hx hb dM_read_27 rfl (fun h17 => ?_) (fun h17 => ?_)
      · have hf := ip_ hf h17
        refine lv_iconst hx hb dM_read_34 kI_0 ?_
        exact bk35 q14.1 c0 x1 x2 c0 0 _ _ _ (lv_sub hl [0, 1, 2] rfl) hI hf
      · have hf := in_ hf h17
        refine lv_iconst hx hb dM_read_30 kI_2 ?_
        refine lv_goto (tgt := 35) hx hb dM_read_31 rfl ?_
        exact bk35 q14.1 c0 x1 x2 c0 2 _ _ _ (lv_sub hl [0, 1, 2] rfl) hI hf
    · have hf := ip_ hf h15
      exact bk19 q14.1 c0 x1 x2 c0 _ _ _ (lv_sub hl [0, 1, 2] rfl) hI hf
/-- GuardVolumeModel.code()I -/
abbrev rmM_code : Room := { frames := 0, cells := 0, slots := 0, locals := 0 }
theorem pkM_code : Pk yM_code cM_code 1 (some .int) 0 := ⟨kw_644, kw_7, by decide +kernel, by decide +kernel, by decide +kernel⟩
def fM_code (Λ : La) (w : Wo) (c0 : Nat) : Option (Wo × Int32) := gd (isC Λ c0 5) ((pf Λ w c0 5 0 0).bind fun w1 => (gi Λ w1 c0 5 13).bind fun v2 => some (w1, v2))
set_option maxHeartbeats 4000000 in
set_option maxRecDepth 100000 in
theorem kM_code (l : Launch) (G : va_G) (kA kL : ClassId) (Λ : La) (ad : Nat → Nat) (w : Wo) (c0 : Nat) (w1 : Wo) (r : Int32) (hf : fM_code Λ w c0 = some (w1, r)) : Mi l yM_code cM_code 1 (some .int) rmM_code G kA kL Λ ad [.ref (ad c0)] w w1 r := by
  refine Mi.of (by decide +kernel) (Nat.le_of_ble_eq_true rfl) ?_
  intro p e s m args below meth c Q ls S hret hl hI
  have S : CallFix p m c cM_code 1 s args (.code yM_code cM_code 1 (some .int) :: gW) "GuardVolumeModel" := S
  have hl : lv_has ls 1 [(0, .ref (ad c0))] := hl
  have hx := S.1
  have hb := S.2.1
  unfold fM_code at hf
  have hf := (gd_some hf).2
  refine lv_aload_n hx hb dM_code_0 rfl (lv_at hl 0 rfl) ?_
  refine lv_iconst hx hb dM_code_1 kI_0 ?_
  obtain ⟨w1, hw1, hf⟩ := ob_ hf
  refine r_put (i := 0) S hI fcM (Nat.le_of_ble_eq_true rfl) kw_501 rfl rfl rfl dM_code_2 hw1 (fun H locs hI => ?_)
  refine lv_aload_n hx hb dM_code_5 rfl (lv_at hl 0 rfl) ?_
  obtain ⟨v2, hv2, hf⟩ := ob_ hf
  refine r_geti (i := 13) S hI fcM (Nat.le_of_ble_eq_true rfl) kw_514 dM_code_6 hv2 ?_
  exact hret _ _ _ _ _ _ hI hf dM_code_9
/-- GuardVolumeModel.plan(IIII)V -/
abbrev rmM_plan : Room := { frames := 1, cells := 0, slots := 0, locals := 21 }
theorem pkM_plan : Pk yM_plan cM_plan 7 none 4 := ⟨kw_648, kw_7, by decide +kernel, by decide +kernel, by decide +kernel⟩
def bM_plan_160 (Λ : La) (w : Wo) (c0 : Nat) (x1 : Int32) (x2 : Int32) (x3 : Int32) (x4 : Int32) (t0 : Nat) (s1 : Int32) : Option Wo := (pf Λ w t0 5 0 s1).bind fun w1 => (gi Λ w1 c0 5 0).bind fun v2 => if v2 ≤ 0 then ((gr Λ c0 5 9).bind fun r4 => (ld Λ w1 r4 x1).bind fun v5 => (gr Λ c0 5 10).bind fun r6 => (gr Λ c0 5 8).bind fun r7 => (ld Λ w1 r7 x1).bind fun v8 => (st Λ w1 r6 ((8 * x1) + v5) (v8 + x2)).bind fun w9 => (gr Λ c0 5 11).bind fun r10 => (st Λ w9 r10 ((8 * x1) + v5) x3).bind fun w11 => (gr Λ c0 5 12).bind fun r12 => (st Λ w11 r12 ((8 * x1) + v5) x4).bind fun w13 => (gr Λ c0 5 9).bind fun r14 => (ld Λ w13 r14 x1).bind fun v15 => (st Λ w13 r14 x1 (v15 + 1)).bind fun w16 => some w16) else (some w1)
def bM_plan_122 (Λ : La) (w : Wo) (c0 : Nat) (x1 : Int32) (x2 : Int32) (x3 : Int32) (x4 : Int32) (x5 : Int32) : Option Wo := (fM_in Λ w x1 2).bind fun q17 => if q17.2 = 0 then (bM_plan_160 Λ q17.1 c0 x1 x2 x3 x4 c0 1) else (if x5 = 0 then (bM_plan_160 Λ q17.1 c0 x1 x2 x3 x4 c0 2) else ((gr Λ c0 5 9).bind fun r20 => (ld Λ q17.1 r20 x1).bind fun v21 => if v21 = 8 then (bM_plan_160 Λ q17.1 c0 x1 x2 x3 x4 c0 3) else (bM_plan_160 Λ q17.1 c0 x1 x2 x3 x4 c0 0)))
def bM_plan_114 (Λ : La) (K62 : Wo → Nat → Int32 → Int32 → Int32 → Int32 → Int32 → Int32 → Option Wo) (w : Wo) (c0 : Nat) (x1 : Int32) (x2 : Int32) (x3 : Int32) (x4 : Int32) (x6 : Int32) (s0 : Int32) : Option Wo := K62 w c0 x1 x2 x3 x4 s0 (x6 + 1)
def bM_plan_113 (Λ : La) (K62 : Wo → Nat → Int32 → Int32 → Int32 → Int32 → Int32 → Int32 → Option Wo) (w : Wo) (c0 : Nat) (x1 : Int32) (x2 : Int32) (x3 : Int32) (x4 : Int32) (x6 : Int32) : Option Wo := bM_plan_114 Λ K62 w c0 x1 x2 x3 x4 x6 0
def bM_plan_62s (Λ : La) (K62 : Wo → Nat → Int32 → Int32 → Int32 → Int32 → Int32 → Int32 → Option Wo) (w : Wo) (c0 : Nat) (x1 : Int32) (x2 : Int32) (x3 : Int32) (x4 : Int32) (x5 : Int32) (x6 : Int32) : Option Wo := (fM_in Λ w x1 2).bind fun q23 => if q23.2 = 0 then (bM_plan_122 Λ q23.1 c0 x1 x2 x3 x4 x5) else ((gr Λ c0 5 9).bind fun r25 => (ld Λ q23.1 r25 x1).bind fun v26 => if v26 ≤ x6 then (bM_plan_122 Λ q23.1 c0 x1 x2 x3 x4 x5) else (if x5 = 0 then (bM_plan_113 Λ K62 q23.1 c0 x1 x2 x3 x4 x6) else ((gr Λ c0 5 10).bind fun r29 => (ld Λ q23.1 r29 ((8 * x1) + x6)).bind fun v30 => (gr Λ c0 5 8).bind fun r31 => (ld Λ q23.1 r31 x1).bind fun v32 => if v30 = (v32 + x2) then (bM_plan_113 Λ K62 q23.1 c0 x1 x2 x3 x4 x6) else (bM_plan_114 Λ K62 q23.1 c0 x1 x2 x3 x4 x6 1))))
def bM_plan_62 (Λ : La) : Nat → Wo → Nat → Int32 → Int32 → Int32 → Int32 → Int32 → Int32 → Option Wo
  | 0 => fun _ _ _ _ _ _ _ _ => none
  | n + 1 => bM_plan_62s Λ (bM_plan_62 Λ n)
def bM_plan_57 (Λ : La) (w : Wo) (c0 : Nat) (x1 : Int32) (x2 : Int32) (x3 : Int32) (x4 : Int32) (s0 : Int32) : Option Wo := bM_plan_62 Λ 1000 w c0 x1 x2 x3 x4 s0 0
def bM_plan_56 (Λ : La) (w : Wo) (c0 : Nat) (x1 : Int32) (x2 : Int32) (x3 : Int32) (x4 : Int32) : Option Wo := bM_plan_57 Λ w c0 x1 x2 x3 x4 0
def bM_plan_52 (Λ : La) (w : Wo) (c0 : Nat) (x1 : Int32) (x2 : Int32) (x3 : Int32) (x4 : Int32) : Option Wo := bM_plan_57 Λ w c0 x1 x2 x3 x4 1
def bM_plan_34 (Λ : La) (w : Wo) (c0 : Nat) (x1 : Int32) (x2 : Int32) (x3 : Int32) (x4 : Int32) : Option Wo := if x3 = 2 then (if x4 < 1 then (bM_plan_56 Λ w c0 x1 x2 x3 x4) else (if 10 < x4 then (bM_plan_56 Λ w c0 x1 x2 x3 x4) else (bM_plan_52 Λ w c0 x1 x2 x3 x4))) else (bM_plan_52 Λ w c0 x1 x2 x3 x4)
def fM_plan (Λ : La) (w : Wo) (c0 : Nat) (x1 : Int32) (x2 : Int32) (x3 : Int32) (x4 : Int32) : Option Wo := gd (isC Λ c0 5) (if x2 < 1 then (bM_plan_56 Λ w c0 x1 x2 x3 x4) else (if 50 < x2 then (bM_plan_56 Λ w c0 x1 x2 x3 x4) else ((fM_in Λ w x3 3).bind fun q39 => if q39.2 = 0 then (bM_plan_56 Λ q39.1 c0 x1 x2 x3 x4) else (if x3 = 1 then ((fM_in Λ q39.1 x4 72).bind fun q42 => if q42.2 = 0 then (bM_plan_56 Λ q42.1 c0 x1 x2 x3 x4) else (bM_plan_34 Λ q42.1 c0 x1 x2 x3 x4)) else (bM_plan_34 Λ q39.1 c0 x1 x2 x3 x4)))))
set_option maxHeartbeats 4000000 in
set_option maxRecDepth 100000 in
theorem kM_plan (l : Launch) (G : va_G) (kA kL : ClassId) (Λ : La) (ad : Nat → Nat) (w : Wo) (c0 : Nat) (x1 : Int32) (x2 : Int32) (x3 : Int32) (x4 : Int32) (w1 : Wo) (hf : fM_plan Λ w c0 x1 x2 x3 x4 = some w1) : Mv l yM_plan cM_plan 7 rmM_plan G kA kL Λ ad [.ref (ad c0), .int x1, .int x2, .int x3, .int x4] w w1 := by
  refine Mv.of (by decide +kernel) (Nat.le_of_ble_eq_true rfl) ?_
  intro p e s m args below meth c Q ls S hret hl hI
  have S : CallFix p m c cM_plan 7 s args (.code yM_plan cM_plan 7 none :: gW) "GuardVolumeModel" := S
  have hl : lv_has ls 7 [(0, .ref (ad c0)), (1, .int x1), (2, .int x2), (3, .int x3), (4, .int x4)] := hl
  have hx := S.1
  have hb := S.2.1
  have bk160 : ∀ (w : Wo) (c0 : Nat) (x1 : Int32) (x2 : Int32) (x3 : Int32) (x4 : Int32) (t0 : Nat) (s1 : Int32) (H : Heap) (locs : List Loc) (ls : Array Slot), lv_has ls 7 [(0, .ref (ad c0)), (1, .int x1), (2, .int x2), (3, .int x3), (4, .int x4)] → Iv (Aa Λ ad) G kA kL Λ ad w s H locs → bM_plan_160 Λ w c0 x1 x2 x3 x4 t0 s1 = some w1 → W p l e rmM_plan s m args below meth c H locs 0 0 Q (F0 m 160 ls [.int s1, .ref (ad t0)]) := by
    intro w c0 x1 x2 x3 x4 t0 s1 H locs ls hl hI hf
    unfold bM_plan_160 at hf
    obtain ⟨w1, hw1, hf⟩ := ob_ hf
    refine r_put (i := 0) S hI fcM (Nat.le_of_ble_eq_true rfl) kw_501 rfl rfl rfl dM_plan_160 hw1 (fun H locs hI => ?_)
    refine lv_aload_n hx hb dM_plan_163 rfl (lv_at hl 0 rfl) ?_
    obtain ⟨v2, hv2, hf⟩ := ob_ hf
    refine r_geti (i := 0) S hI fcM (Nat.le_of_ble_eq_true rfl) kw_501 dM_plan_164 hv2 ?_
    refine lv_if_le (tgt := 171) hx hb dM_plan_167 rfl (fun h3 => ?_) (fun h3 => ?_)
    · have hf := ip_ hf h3
      refine lv_bipush hx hb dM_plan_171 kB_8 ?_
      refine lv_iload_n hx hb dM_plan_173 rfl (lv_at hl 1 rfl) ?_
      refine lv_imul hx hb dM_plan_174 ?_
      refine lv_aload_n hx hb dM_plan_175 rfl (lv_at hl 0 rfl) ?_
      obtain ⟨r4, hr4, hf⟩ := ob_ hf
      refine r_getr (i := 9) S hI fcM (Nat.le_of_ble_eq_true rfl) kw_510 dM_plan_176 hr4 ?_
      refine lv_iload_n hx hb dM_plan_179 rfl (lv_at hl 1 rfl) ?_
      obtain ⟨v5, hv5, hf⟩ := ob_ hf
      refine r_ald S hI dM_plan_180 hv5 ?_
      refine lv_iadd hx hb dM_plan_181 ?_
      refine lv_istore hx hb (lv' := [(6, .int ((8 * x1) + v5)), (0, .ref (ad c0)), (1, .int x1), (2, .int x2), (3, .int x3), (4, .int x4)]) dM_plan_182 hl (Nat.le_of_ble_eq_true rfl) rfl (fun ls hl => ?_)
      refine lv_aload_n hx hb dM_plan_184 rfl (lv_at hl 1 rfl) ?_
      obtain ⟨r6, hr6, hf⟩ := ob_ hf
      refine r_getr (i := 10) S hI fcM (Nat.le_of_ble_eq_true rfl) kw_511 dM_plan_185 hr6 ?_
      refine lv_iload hx hb dM_plan_188 (lv_at hl 0 rfl) ?_
      refine lv_aload_n hx hb dM_plan_190 rfl (lv_at hl 1 rfl) ?_
      obtain ⟨r7, hr7, hf⟩ := ob_ hf
      refine r_getr (i := 8) S hI fcM (Nat.le_of_ble_eq_true rfl) kw_509 dM_plan_191 hr7 ?_
      refine lv_iload_n hx hb dM_plan_194 rfl (lv_at hl 2 rfl) ?_
      obtain ⟨v8, hv8, hf⟩ := ob_ hf
      refine r_ald S hI dM_plan_195 hv8 ?_
      refine lv_iload_n hx hb dM_plan_196 rfl (lv_at hl 3 rfl) ?_
      refine lv_iadd hx hb dM_plan_197 ?_
      obtain ⟨w9, hw9, hf⟩ := ob_ hf
      refine r_ast S hI dM_plan_198 hw9 (fun H locs hI => ?_)
      refine lv_aload_n hx hb dM_plan_199 rfl (lv_at hl 1 rfl) ?_
      obtain ⟨r10, hr10, hf⟩ := ob_ hf
      refine r_getr (i := 11) S hI fcM (Nat.le_of_ble_eq_true rfl) kw_512 dM_plan_200 hr10 ?_
      refine lv_iload hx hb dM_plan_203 (lv_at hl 0 rfl) ?_
      refine lv_iload_n hx hb dM_plan_205 rfl (lv_at hl 4 rfl) ?_
      obtain ⟨w11, hw11, hf⟩ := ob_ hf
      refine r_ast S hI dM_plan_206 hw11 (fun H locs hI => ?_)
      refine lv_aload_n hx hb dM_plan_207 rfl (lv_at hl 1 rfl) ?_
      obtain ⟨r12, hr12, hf⟩ := ob_ hf
      refine r_getr (i := 12) S hI fcM (Nat.le_of_ble_eq_true rfl) kw_513 dM_plan_208 hr12 ?_
      refine lv_iload hx hb dM_plan_211 (lv_at hl 0 rfl) ?_
      refine lv_iload hx hb dM_plan_213 (lv_at hl 5 rfl) ?_
      obtain ⟨w13, hw13, hf⟩ := ob_ hf
      refine r_ast S hI dM_plan_215 hw13 (fun H locs hI => ?_)
      refine lv_aload_n hx hb dM_plan_216 rfl (lv_at hl 1 rfl) ?_
      obtain ⟨r14, hr14, hf⟩ := ob_ hf
      refine r_getr (i := 9) S hI fcM (Nat.le_of_ble_eq_true rfl) kw_510 dM_plan_217 hr14 ?_
      refine lv_iload_n hx hb dM_plan_220 rfl (lv_at hl 2 rfl) ?_
      refine lv_dup2_11 hx hb dM_plan_221 rfl rfl ?_
      obtain ⟨v15, hv15, hf⟩ := ob_ hf
      refine r_ald S hI dM_plan_222 hv15 ?_
      refine lv_iconst hx hb dM_plan_223 kI_1 ?_
      refine lv_iadd hx hb dM_plan_224 ?_
      obtain ⟨w16, hw16, hf⟩ := ob_ hf
      refine r_ast S hI dM_plan_225 hw16 (fun H locs hI => ?_)
      exact hret _ _ _ _ _ hI hf dM_plan_226
    · have hf := in_ hf h3
      exact hret _ _ _ _ _ hI hf dM_plan_170
  have bk122 : ∀ (w : Wo) (c0 : Nat) (x1 : Int32) (x2 : Int32) (x3 : Int32) (x4 : Int32) (x5 : Int32) (H : Heap) (locs : List Loc) (ls : Array Slot), lv_has ls 7 [(0, .ref (ad c0)), (1, .int x1), (2, .int x2), (3, .int x3), (4, .int x4), (5, .int x5)] → Iv (Aa Λ ad) G kA kL Λ ad w s H locs → bM_plan_122 Λ w c0 x1 x2 x3 x4 x5 = some w1 → W p l e rmM_plan s m args below meth c H locs 0 0 Q (F0 m 122 ls []) := by
    intro w c0 x1 x2 x3 x4 x5 H locs ls hl hI hf
    unfold bM_plan_122 at hf
    refine lv_aload_n hx hb dM_plan_122 rfl (lv_at hl 0 rfl) ?_
    refine lv_iload_n hx hb dM_plan_123 rfl (lv_at hl 1 rfl) ?_
    refine lv_iconst hx hb dM_plan_124 kI_2 ?_
    obtain ⟨q17, hq17, hf⟩ := ob_ hf
    refine r_ci (r_S (rest := [.ref (ad c0)]) (As := [.int x1, .int 2]) S hl hI (kM_in l G kA kL Λ ad w x1 2 q17.1 q17.2 hq17) pkM_in kw_571 kw_570 ⟨rfl, rfl⟩ ⟨Nat.le_of_ble_eq_true rfl, Nat.le_of_ble_eq_true rfl⟩ rfl rfl (Nat.le_of_ble_eq_true rfl) ⟨Nat.zero_le _, Nat.zero_le _⟩ dM_plan_125) hI (fun H locs hI => ?_)
    refine lv_if_ne (tgt := 135) hx hb dM_plan_128 rfl (fun h18 => ?_) (fun h18 => ?_)
    · have hf := in_ hf h18
      refine lv_iload hx hb dM_plan_135 (lv_at hl 5 rfl) ?_
      refine lv_if_ne (tgt := 144) hx hb dM_plan_137 rfl (fun h19 => ?_) (fun h19 => ?_)
      · have hf := in_ hf h19
        refine lv_aload_n hx hb dM_plan_144 rfl (lv_at hl 0 rfl) ?_
        obtain ⟨r20, hr20, hf⟩ := ob_ hf
        refine r_getr (i := 9) S hI fcM (Nat.le_of_ble_eq_true rfl) kw_510 dM_plan_145 hr20 ?_
        refine lv_iload_n hx hb dM_plan_148 rfl (lv_at hl 1 rfl) ?_
        obtain ⟨v21, hv21, hf⟩ := ob_ hf
        refine r_ald S hI dM_plan_149 hv21 ?_
        refine lv_bipush hx hb dM_plan_150 kB_8 ?_
        refine lv_icmp_ne (tgt := 159) hx hb dM_plan_152 rfl (fun h22 => ?_) (fun h22 => ?_)
        · have hf := in_ hf h22
          refine lv_iconst hx hb dM_plan_159 kI_0 ?_
          exact bk160 q17.1 c0 x1 x2 x3 x4 c0 0 _ _ _ (lv_sub hl [0, 1, 2, 3, 4] rfl) hI hf
        · have hf := ip_ hf h22
          refine lv_iconst hx hb dM_plan_155 kI_3 ?_
          refine lv_goto (tgt := 160) hx hb dM_plan_156 rfl ?_
          exact bk160 q17.1 c0 x1 x2 x3 x4 c0 3 _ _ _ (lv_sub hl [0, 1, 2, 3, 4] rfl) hI hf
      · have hf := ip_ hf h19
        refine lv_iconst hx hb dM_plan_140 kI_2 ?_
        refine lv_goto (tgt := 160) hx hb dM_plan_141 rfl ?_
        exact bk160 q17.1 c0 x1 x2 x3 x4 c0 2 _ _ _ (lv_sub hl [0, 1, 2, 3, 4] rfl) hI hf
    · have hf := ip_ hf h18
      refine lv_iconst hx hb dM_plan_131 kI_1 ?_
      refine lv_goto (tgt := 160) hx hb dM_plan_132 rfl ?_
      exact bk160 q17.1 c0 x1 x2 x3 x4 c0 1 _ _ _ (lv_sub hl [0, 1, 2, 3, 4] rfl) hI hf
  have bk114 : ∀ (K62 : Wo → Nat → Int32 → Int32 → Int32 → Int32 → Int32 → Int32 → Option Wo), (∀ (w : Wo) (c0 : Nat) (x1 : Int32) (x2 : Int32) (x3 : Int32) (x4 : Int32) (x5 : Int32) (x6 : Int32) (H : Heap) (locs : List Loc) (ls : Array Slot), lv_has ls 7 [(0, .ref (ad c0)), (1, .int x1), (2, .int x2), (3, .int x3), (4, .int x4), (5, .int x5), (6, .int x6)] → Iv (Aa Λ ad) G kA kL Λ ad w s H locs → K62 w c0 x1 x2 x3 x4 x5 x6 = some w1 → W p l e rmM_plan s m args below meth c H locs 0 0 Q (F0 m 62 ls [])) → ∀ (w : Wo) (c0 : Nat) (x1 : Int32) (x2 : Int32) (x3 : Int32) (x4 : Int32) (x6 : Int32) (s0 : Int32) (H : Heap) (locs : List Loc) (ls : Array Slot), lv_has ls 7 [(0, .ref (ad c0)), (1, .int x1), (2, .int x2), (3, .int x3), (4, .int x4), (6, .int x6)] → Iv (Aa Λ ad) G kA kL Λ ad w s H locs → bM_plan_114 Λ K62 w c0 x1 x2 x3 x4 x6 s0 = some w1 → W p l e rmM_plan s m args below meth c H locs 0 0 Q (F0 m 114 ls [.int s0]) := by
    intro K62 hK62 w c0 x1 x2 x3 x4 x6 s0 H locs ls hl hI hf
    unfold bM_plan_114 at hf
    refine lv_istore hx hb (lv' := [(5, .int s0), (0, .ref (ad c0)), (1, .int x1), (2, .int x2), (3, .int x3), (4, .int x4), (6, .int x6)]) dM_plan_114 hl (Nat.le_of_ble_eq_true rfl) rfl (fun ls hl => ?_)
    refine lv_iinc hx hb (lv' := [(6, .int (x6 + 1)), (5, .int s0), (0, .ref (ad c0)), (1, .int x1), (2, .int x2), (3, .int x3), (4, .int x4)]) (k := 6) dM_plan_116 hl rfl (kN_1 _) (Nat.le_of_ble_eq_true rfl) rfl (fun ls hl => ?_)
    refine lv_goto (tgt := 62) hx hb dM_plan_119 rfl ?_
    exact hK62 w c0 x1 x2 x3 x4 s0 (x6 + 1) _ _ _ (lv_sub hl [2, 3, 4, 5, 6, 1, 0] rfl) hI hf
  have bk113 : ∀ (K62 : Wo → Nat → Int32 → Int32 → Int32 → Int32 → Int32 → Int32 → Option Wo), (∀ (w : Wo) (c0 : Nat) (x1 : Int32) (x2 : Int32) (x3 : Int32) (x4 : Int32) (x5 : Int32) (x6 : Int32) (H : Heap) (locs : List Loc) (ls : Array Slot), lv_has ls 7 [(0, .ref (ad c0)), (1, .int x1), (2, .int x2), (3, .int x3), (4, .int x4), (5, .int x5), (6, .int x6)] → Iv (Aa Λ ad) G kA kL Λ ad w s H locs → K62 w c0 x1 x2 x3 x4 x5 x6 = some w1 → W p l e rmM_plan s m args below meth c H locs 0 0 Q (F0 m 62 ls [])) → ∀ (w : Wo) (c0 : Nat) (x1 : Int32) (x2 : Int32) (x3 : Int32) (x4 : Int32) (x6 : Int32) (H : Heap) (locs : List Loc) (ls : Array Slot), lv_has ls 7 [(0, .ref (ad c0)), (1, .int x1), (2, .int x2), (3, .int x3), (4, .int x4), (6, .int x6)] → Iv (Aa Λ ad) G kA kL Λ ad w s H locs → bM_plan_113 Λ K62 w c0 x1 x2 x3 x4 x6 = some w1 → W p l e rmM_plan s m args below meth c H locs 0 0 Q (F0 m 113 ls []) := by
    intro K62 hK62 w c0 x1 x2 x3 x4 x6 H locs ls hl hI hf
    unfold bM_plan_113 at hf
    refine lv_iconst hx hb dM_plan_113 kI_0 ?_
    exact bk114 K62 hK62 w c0 x1 x2 x3 x4 x6 0 _ _ _ (lv_sub hl [0, 1, 2, 3, 4, 5] rfl) hI hf
  have bk62 : ∀ (K62 : Wo → Nat → Int32 → Int32 → Int32 → Int32 → Int32 → Int32 → Option Wo), (∀ (w : Wo) (c0 : Nat) (x1 : Int32) (x2 : Int32) (x3 : Int32) (x4 : Int32) (x5 : Int32) (x6 : Int32) (H : Heap) (locs : List Loc) (ls : Array Slot), lv_has ls 7 [(0, .ref (ad c0)), (1, .int x1), (2, .int x2), (3, .int x3), (4, .int x4), (5, .int x5), (6, .int x6)] → Iv (Aa Λ ad) G kA kL Λ ad w s H locs → K62 w c0 x1 x2 x3 x4 x5 x6 = some w1 → W p l e rmM_plan s m args below meth c H locs 0 0 Q (F0 m 62 ls [])) → ∀ (w : Wo) (c0 : Nat) (x1 : Int32) (x2 : Int32) (x3 : Int32) (x4 : Int32) (x5 : Int32) (x6 : Int32) (H : Heap) (locs : List Loc) (ls : Array Slot), lv_has ls 7 [(0, .ref (ad c0)), (1, .int x1), (2, .int x2), (3, .int x3), (4, .int x4), (5, .int x5), (6, .int x6)] → Iv (Aa Λ ad) G kA kL Λ ad w s H locs → bM_plan_62s Λ K62 w c0 x1 x2 x3 x4 x5 x6 = some w1 → W p l e rmM_plan s m args below meth c H locs 0 0 Q (F0 m 62 ls []) := by
    intro K62 hK62 w c0 x1 x2 x3 x4 x5 x6 H locs ls hl hI hf
    unfold bM_plan_62s at hf
    refine lv_iload_n hx hb dM_plan_62 rfl (lv_at hl 1 rfl) ?_
    refine lv_iconst hx hb dM_plan_63 kI_2 ?_
    obtain ⟨q23, hq23, hf⟩ := ob_ hf
    refine r_ci (r_S (rest := []) (As := [.int x1, .int 2]) S hl hI (kM_in l G kA kL Λ ad w x1 2 q23.1 q23.2 hq23) pkM_in kw_571 kw_570 ⟨rfl, rfl⟩ ⟨Nat.le_of_ble_eq_true rfl, Nat.le_of_ble_eq_true rfl⟩ rfl rfl (Nat.le_of_ble_eq_true rfl) ⟨Nat.zero_le _, Nat.zero_le _⟩ dM_plan_64) hI (fun H locs hI => ?_)
    refine lv_if_eq (tgt := 122) hx hb dM_plan_67 rfl (fun h24 => ?_) (fun h24 => ?_)
    · have hf := ip_ hf h24
      exact bk122 q23.1 c0 x1 x2 x3 x4 x5 _ _ _ (lv_sub hl [0, 1, 2, 3, 4, 5] rfl) hI hf
    · have hf := in_ hf h24
      refine lv_iload hx hb dM_plan_70 (lv_at hl 6 rfl) ?_
      refine lv_aload_n hx hb dM_plan_72 rfl (lv_at hl 0 rfl) ?_
      obtain ⟨r25, hr25, hf⟩ := ob_ hf
      refine r_getr (i := 9) S hI fcM (Nat.le_of_ble_eq_true rfl) kw_510 dM_plan_73 hr25 ?_
      refine lv_iload_n hx hb dM_plan_76 rfl (lv_at hl 1 rfl) ?_
      obtain ⟨v26, hv26, hf⟩ := ob_ hf
      refine r_ald S hI dM_plan_77 hv26 ?_
      refine lv_icmp_ge (tgt := 122) hx hb dM_plan_78 rfl (fun h27 => ?_) (fun h27 => ?_)
      · have hf := ip_ hf h27
        exact bk122 q23.1 c0 x1 x2 x3 x4 x5 _ _ _ (lv_sub hl [0, 1, 2, 3, 4, 5] rfl) hI hf
      · have hf := in_ hf h27
        refine lv_iload hx hb dM_plan_81 (lv_at hl 5 rfl) ?_
        refine lv_if_eq (tgt := 113) hx hb dM_plan_83 rfl (fun h28 => ?_) (fun h28 => ?_)
        · have hf := ip_ hf h28
          exact bk113 K62 hK62 q23.1 c0 x1 x2 x3 x4 x6 _ _ _ (lv_sub hl [0, 1, 2, 3, 4, 6] rfl) hI hf
        · have hf := in_ hf h28
          refine lv_aload_n hx hb dM_plan_86 rfl (lv_at hl 0 rfl) ?_
          obtain ⟨r29, hr29, hf⟩ := ob_ hf
          refine r_getr (i := 10) S hI fcM (Nat.le_of_ble_eq_true rfl) kw_511 dM_plan_87 hr29 ?_
          refine lv_bipush hx hb dM_plan_90 kB_8 ?_
          refine lv_iload_n hx hb dM_plan_92 rfl (lv_at hl 1 rfl) ?_
          refine lv_imul hx hb dM_plan_93 ?_
          refine lv_iload hx hb dM_plan_94 (lv_at hl 6 rfl) ?_
          refine lv_iadd hx hb dM_plan_96 ?_
          obtain ⟨v30, hv30, hf⟩ := ob_ hf
          refine r_ald S hI dM_plan_97 hv30 ?_
          refine lv_aload_n hx hb dM_plan_98 rfl (lv_at hl 0 rfl) ?_
          obtain ⟨r31, hr31, hf⟩ := ob_ hf
          refine r_getr (i := 8) S hI fcM (Nat.le_of_ble_eq_true rfl) kw_509 dM_plan_99 hr31 ?_
          refine lv_iload_n hx hb dM_plan_102 rfl (lv_at hl 1 rfl) ?_
          obtain ⟨v32, hv32, hf⟩ := ob_ hf
          refine r_ald S hI dM_plan_103 hv32 ?_
          refine lv_iload_n hx hb dM_plan_104 rfl (lv_at hl 2 rfl) ?_
          refine lv_iadd hx hb dM_plan_105 ?_
          refine lv_icmp_eq (tgt := 113) hx hb dM_plan_106 rfl (fun h33 => ?_) (fun h33 => ?_)
          · have hf := ip_ hf h33
            exact bk113 K62 hK62 q23.1 c0 x1 x2 x3 x4 x6 _ _ _ (lv_sub hl [0, 1, 2, 3, 4, 6] rfl) hI hf
          · have hf := in_ hf h33
            refine lv_iconst hx hb dM_plan_109 kI_1 ?_
            refine lv_goto (tgt := 114) hx hb dM_plan_110 rfl ?_
            exact bk114 K62 hK62 q23.1 c0 x1 x2 x3 x4 x6 1 _ _ _ (lv_sub hl [0, 1, 2, 3, 4, 6] rfl) hI hf
  have lp62 : ∀ (n : Nat), ∀ (w : Wo) (c0 : Nat) (x1 : Int32) (x2 : Int32) (x3 : Int32) (x4 : Int32) (x5 : Int32) (x6 : Int32) (H : Heap) (locs : List Loc) (ls : Array Slot), lv_has ls 7 [(0, .ref (ad c0)), (1, .int x1), (2, .int x2), (3, .int x3), (4, .int x4), (5, .int x5), (6, .int x6)] → Iv (Aa Λ ad) G kA kL Λ ad w s H locs → bM_plan_62 Λ n w c0 x1 x2 x3 x4 x5 x6 = some w1 → W p l e rmM_plan s m args below meth c H locs 0 0 Q (F0 m 62 ls []) := by
    intro n
    induction n with
    | zero =>
      intro w c0 x1 x2 x3 x4 x5 x6 H locs ls hl hI hf
      have hf : (none : Option Wo) = some w1 := hf
      cases hf
    | succ n ih =>
      intro w c0 x1 x2 x3 x4 x5 x6 H locs ls hl hI hf
      exact bk62 (bM_plan_62 Λ n) ih w c0 x1 x2 x3 x4 x5 x6 H locs ls hl hI hf
  have bk57 : ∀ (w : Wo) (c0 : Nat) (x1 : Int32) (x2 : Int32) (x3 : Int32) (x4 : Int32) (s0 : Int32) (H : Heap) (locs : List Loc) (ls : Array Slot), lv_has ls 7 [(0, .ref (ad c0)), (1, .int x1), (2, .int x2), (3, .int x3), (4, .int x4)] → Iv (Aa Λ ad) G kA kL Λ ad w s H locs → bM_plan_57 Λ w c0 x1 x2 x3 x4 s0 = some w1 → W p l e rmM_plan s m args below meth c H locs 0 0 Q (F0 m 57 ls [.int s0]) := by
    intro w c0 x1 x2 x3 x4 s0 H locs ls hl hI hf
    unfold bM_plan_57 at hf
    refine lv_istore hx hb (lv' := [(5, .int s0), (0, .ref (ad c0)), (1, .int x1), (2, .int x2), (3, .int x3), (4, .int x4)]) dM_plan_57 hl (Nat.le_of_ble_eq_true rfl) rfl (fun ls hl => ?_)
    refine lv_iconst hx hb dM_plan_59 kI_0 ?_
    refine lv_istore hx hb (lv' := [(6, .int 0), (5, .int s0), (0, .ref (ad c0)), (1, .int x1), (2, .int x2), (3, .int x3), (4, .int x4)]) dM_plan_60 hl (Nat.le_of_ble_eq_true rfl) rfl (fun ls hl => ?_)
    exact lp62 1000 w c0 x1 x2 x3 x4 s0 0 _ _ _ (lv_sub hl [2, 3, 4, 5, 6, 1, 0] rfl) hI hf
  have bk56 : ∀ (w : Wo) (c0 : Nat) (x1 : Int32) (x2 : Int32) (x3 : Int32) (x4 : Int32) (H : Heap) (locs : List Loc) (ls : Array Slot), lv_has ls 7 [(0, .ref (ad c0)), (1, .int x1), (2, .int x2), (3, .int x3), (4, .int x4)] → Iv (Aa Λ ad) G kA kL Λ ad w s H locs → bM_plan_56 Λ w c0 x1 x2 x3 x4 = some w1 → W p l e rmM_plan s m args below meth c H locs 0 0 Q (F0 m 56 ls []) := by
    intro w c0 x1 x2 x3 x4 H locs ls hl hI hf
    unfold bM_plan_56 at hf
    refine lv_iconst hx hb dM_plan_56 kI_0 ?_
    exact bk57 w c0 x1 x2 x3 x4 0 _ _ _ (lv_sub hl [0, 1, 2, 3, 4] rfl) hI hf
  have bk52 : ∀ (w : Wo) (c0 : Nat) (x1 : Int32) (x2 : Int32) (x3 : Int32) (x4 : Int32) (H : Heap) (locs : List Loc) (ls : Array Slot), lv_has ls 7 [(0, .ref (ad c0)), (1, .int x1), (2, .int x2), (3, .int x3), (4, .int x4)] → Iv (Aa Λ ad) G kA kL Λ ad w s H locs → bM_plan_52 Λ w c0 x1 x2 x3 x4 = some w1 → W p l e rmM_plan s m args below meth c H locs 0 0 Q (F0 m 52 ls []) := by
    intro w c0 x1 x2 x3 x4 H locs ls hl hI hf
    unfold bM_plan_52 at hf
    refine lv_iconst hx hb dM_plan_52 kI_1 ?_
    refine lv_goto (tgt := 57) hx hb dM_plan_53 rfl ?_
    exact bk57 w c0 x1 x2 x3 x4 1 _ _ _ (lv_sub hl [0, 1, 2, 3, 4] rfl) hI hf
  have bk34 : ∀ (w : Wo) (c0 : Nat) (x1 : Int32) (x2 : Int32) (x3 : Int32) (x4 : Int32) (H : Heap) (locs : List Loc) (ls : Array Slot), lv_has ls 7 [(0, .ref (ad c0)), (1, .int x1), (2, .int x2), (3, .int x3), (4, .int x4)] → Iv (Aa Λ ad) G kA kL Λ ad w s H locs → bM_plan_34 Λ w c0 x1 x2 x3 x4 = some w1 → W p l e rmM_plan s m args below meth c H locs 0 0 Q (F0 m 34 ls []) := by
    intro w c0 x1 x2 x3 x4 H locs ls hl hI hf
    unfold bM_plan_34 at hf
    refine lv_iload_n hx hb dM_plan_34 rfl (lv_at hl 3 rfl) ?_
    refine lv_iconst hx hb dM_plan_35 kI_2 ?_
    refine lv_icmp_ne (tgt := 52) hx hb dM_plan_36 rfl (fun h34 => ?_) (fun h34 => ?_)
    · have hf := in_ hf h34
      exact bk52 w c0 x1 x2 x3 x4 _ _ _ (lv_sub hl [0, 1, 2, 3, 4] rfl) hI hf
    · have hf := ip_ hf h34
      refine lv_iload hx hb dM_plan_39 (lv_at hl 4 rfl) ?_
      refine lv_iconst hx hb dM_plan_41 kI_1 ?_
      refine lv_icmp_lt (tgt := 56) hx hb dM_plan_42 rfl (fun h35 => ?_) (fun h35 => ?_)
      · have hf := ip_ hf h35
        exact bk56 w c0 x1 x2 x3 x4 _ _ _ (lv_sub hl [0, 1, 2, 3, 4] rfl) hI hf
      · have hf := in_ hf h35
        refine lv_iload hx hb dM_plan_45 (lv_at hl 4 rfl) ?_
        refine lv_bipush hx hb dM_plan_47 kB_10 ?_
        refine lv_icmp_gt (tgt := 56) hx hb dM_plan_49 rfl (fun h36 => ?_) (fun h36 => ?_)
        · have hf := ip_ hf h36
          exact bk56 w c0 x1 x2 x3 x4 _ _ _ (lv_sub hl [0, 1, 2, 3, 4] rfl) hI hf
        · have hf := in_ hf h36
          exact bk52 w c0 x1 x2 x3 x4 _ _ _ (lv_sub hl [0, 1, 2, 3, 4] rfl) hI hf
  unfold fM_plan at hf
  have hf := (gd_some hf).2
  refine lv_iload_n hx hb dM_plan_0 rfl (lv_at hl 2 rfl) ?_
  refine lv_iconst hx hb dM_plan_1 kI_1 ?_
  refine lv_icmp_lt (tgt := 56) hx hb dM_plan_2 rfl (fun h37 => ?_) (fun h37 => ?_)
  · have hf := ip_ hf h37
    exact bk56 w c0 x1 x2 x3 x4 _ _ _ (lv_sub hl [0, 1, 2, 3, 4] rfl) hI hf
  · have hf := in_ hf h37
    refine lv_iload_n hx hb dM_plan_5 rfl (lv_at hl 2 rfl) ?_
    refine lv_bipush hx hb dM_plan_6 kB_50 ?_
    refine lv_icmp_gt (tgt := 56) hx hb dM_plan_8 rfl (fun h38 => ?_) (fun h38 => ?_)
    · have hf := ip_ hf h38
      exact bk56 w c0 x1 x2 x3 x4 _ _ _ (lv_sub hl [0, 1, 2, 3, 4] rfl) hI hf
    · have hf := in_ hf h38
      refine lv_iload_n hx hb dM_plan_11 rfl (lv_at hl 3 rfl) ?_
      refine lv_iconst hx hb dM_plan_12 kI_3 ?_
      obtain ⟨q39, hq39, hf⟩ := ob_ hf
      refine r_ci (r_S (rest := []) (As := [.int x3, .int 3]) S hl hI (kM_in l G kA kL Λ ad w x3 3 q39.1 q39.2 hq39) pkM_in kw_571 kw_570 ⟨rfl, rfl⟩ ⟨Nat.le_of_ble_eq_true rfl, Nat.le_of_ble_eq_true rfl⟩ rfl rfl (Nat.le_of_ble_eq_true rfl) ⟨Nat.zero_le _, Nat.zero_le _⟩ dM_plan_13) hI (fun H locs hI => ?_)
      refine lv_if_eq (tgt := 56) hx hb dM_plan_16 rfl (fun h40 => ?_) (fun h40 => ?_)
      · have hf := ip_ hf h40
        exact bk56 q39.1 c0 x1 x2 x3 x4 _ _ _ (lv_sub hl [0, 1, 2, 3, 4] rfl) hI hf
      · have hf := in_ hf h40
        refine lv_iload_n hx hb dM_plan_19 rfl (lv_at hl 3 rfl) ?_
        refine lv_iconst hx hb dM_plan_20 kI_1 ?_
        refine lv_icmp_ne (tgt := 34) hx hb dM_plan_21 rfl (fun h41 => ?_) (fun h41 => ?_)
        · have hf := in_ hf h41
          exact bk34 q39.1 c0 x1 x2 x3 x4 _ _ _ (lv_sub hl [0, 1, 2, 3, 4] rfl) hI hf
        · have hf := ip_ hf h41
          refine lv_iload hx hb dM_plan_24 (lv_at hl 4 rfl) ?_
          refine lv_bipush hx hb dM_plan_26 kB_72 ?_
          obtain ⟨q42, hq42, hf⟩ := ob_ hf
          refine r_ci (r_S (rest := []) (As := [.int x4, .int 72]) S hl hI (kM_in l G kA kL Λ ad q39.1 x4 72 q42.1 q42.2 hq42) pkM_in kw_571 kw_570 ⟨rfl, rfl⟩ ⟨Nat.le_of_ble_eq_true rfl, Nat.le_of_ble_eq_true rfl⟩ rfl rfl (Nat.le_of_ble_eq_true rfl) ⟨Nat.zero_le _, Nat.zero_le _⟩ dM_plan_28) hI (fun H locs hI => ?_)
          refine lv_if_eq (tgt := 56) hx hb dM_plan_31 rfl (fun h43 => ?_) (fun h43 => ?_)
          · have hf := ip_ hf h43
            exact bk56 q42.1 c0 x1 x2 x3 x4 _ _ _ (lv_sub hl [0, 1, 2, 3, 4] rfl) hI hf
          · have hf := in_ hf h43
            exact bk34 q42.1 c0 x1 x2 x3 x4 _ _ _ (lv_sub hl [0, 1, 2, 3, 4] rfl) hI hf
/-- GuardVolumeModel.cutAfter(I)V -/
abbrev rmM_cutAfter : Room := { frames := 0, cells := 0, slots := 0, locals := 0 }
theorem pkM_cutAfter : Pk yM_cutAfter cM_cutAfter 2 none 1 := ⟨kw_652, kw_7, by decide +kernel, by decide +kernel, by decide +kernel⟩
def bM_cutAfter_47 (Λ : La) (w : Wo) (t0 : Nat) (s1 : Int32) : Option Wo := (pf Λ w t0 5 7 s1).bind fun w1 => some w1
def bM_cutAfter_28 (Λ : La) (w : Wo) (c0 : Nat) (x1 : Int32) (t0 : Nat) (s1 : Int32) : Option Wo := (pf Λ w t0 5 0 s1).bind fun w2 => (gi Λ w2 c0 5 0).bind fun v3 => if v3 ≤ 0 then (bM_cutAfter_47 Λ w2 c0 x1) else ((gi Λ w2 c0 5 7).bind fun v5 => bM_cutAfter_47 Λ w2 c0 v5)
def bM_cutAfter_12 (Λ : La) (w : Wo) (c0 : Nat) (x1 : Int32) (t0 : Nat) : Option Wo := bM_cutAfter_28 Λ w c0 x1 t0 1
def fM_cutAfter (Λ : La) (w : Wo) (c0 : Nat) (x1 : Int32) : Option Wo := gd (isC Λ c0 5) (if x1 < (-1) then (bM_cutAfter_12 Λ w c0 x1 c0) else (if x1 ≤ 100 then ((gi Λ w c0 5 6).bind fun v8 => if v8 = 0 then (bM_cutAfter_28 Λ w c0 x1 c0 0) else (bM_cutAfter_28 Λ w c0 x1 c0 2)) else (bM_cutAfter_12 Λ w c0 x1 c0)))
set_option maxHeartbeats 4000000 in
set_option maxRecDepth 100000 in
theorem kM_cutAfter (l : Launch) (G : va_G) (kA kL : ClassId) (Λ : La) (ad : Nat → Nat) (w : Wo) (c0 : Nat) (x1 : Int32) (w1 : Wo) (hf : fM_cutAfter Λ w c0 x1 = some w1) : Mv l yM_cutAfter cM_cutAfter 2 rmM_cutAfter G kA kL Λ ad [.ref (ad c0), .int x1] w w1 := by
  refine Mv.of (by decide +kernel) (Nat.le_of_ble_eq_true rfl) ?_
  intro p e s m args below meth c Q ls S hret hl hI
  have S : CallFix p m c cM_cutAfter 2 s args (.code yM_cutAfter cM_cutAfter 2 none :: gW) "GuardVolumeModel" := S
  have hl : lv_has ls 2 [(0, .ref (ad c0)), (1, .int x1)] := hl
  have hx := S.1
  have hb := S.2.1
  have bk47 : ∀ (w : Wo) (t0 : Nat) (s1 : Int32) (H : Heap) (locs : List Loc) (ls : Array Slot), lv_has ls 2 [] → Iv (Aa Λ ad) G kA kL Λ ad w s H locs → bM_cutAfter_47 Λ w t0 s1 = some w1 → W p l e rmM_cutAfter s m args below meth c H locs 0 0 Q (F0 m 47 ls [.int s1, .ref (ad t0)]) := by
    intro w t0 s1 H locs ls hl hI hf
    unfold bM_cutAfter_47 at hf
    obtain ⟨w1, hw1, hf⟩ := ob_ hf
    refine r_put (i := 7) S hI fcM (Nat.le_of_ble_eq_true rfl) kw_508 rfl rfl rfl dM_cutAfter_47 hw1 (fun H locs hI => ?_)
    exact hret _ _ _ _ _ hI hf dM_cutAfter_50
  have bk28 : ∀ (w : Wo) (c0 : Nat) (x1 : Int32) (t0 : Nat) (s1 : Int32) (H : Heap) (locs : List Loc) (ls : Array Slot), lv_has ls 2 [(0, .ref (ad c0)), (1, .int x1)] → Iv (Aa Λ ad) G kA kL Λ ad w s H locs → bM_cutAfter_28 Λ w c0 x1 t0 s1 = some w1 → W p l e rmM_cutAfter s m args below meth c H locs 0 0 Q (F0 m 28 ls [.int s1, .ref (ad t0)]) := by
    intro w c0 x1 t0 s1 H locs ls hl hI hf
    unfold bM_cutAfter_28 at hf
    obtain ⟨w2, hw2, hf⟩ := ob_ hf
    refine r_put (i := 0) S hI fcM (Nat.le_of_ble_eq_true rfl) kw_501 rfl rfl rfl dM_cutAfter_28 hw2 (fun H locs hI => ?_)
    refine lv_aload_n hx hb dM_cutAfter_31 rfl (lv_at hl 0 rfl) ?_
    refine lv_aload_n hx hb dM_cutAfter_32 rfl (lv_at hl 0 rfl) ?_
    obtain ⟨v3, hv3, hf⟩ := ob_ hf
    refine r_geti (i := 0) S hI fcM (Nat.le_of_ble_eq_true rfl) kw_501 dM_cutAfter_33 hv3 ?_
    refine lv_if_le (tgt := 46) hx hb dM_cutAfter_36 rfl (fun h4 => ?_) (fun h4 => ?_)
    · have hf := ip_ hf h4
      refine lv_iload_n hx hb dM_cutAfter_46 rfl (lv_at hl 1 rfl) ?_
      exact bk47 w2 c0 x1 _ _ _ (lv_sub hl [] rfl) hI hf
    · have hf := in_ hf h4
      refine lv_aload_n hx hb dM_cutAfter_39 rfl (lv_at hl 0 rfl) ?_
      obtain ⟨v5, hv5, hf⟩ := ob_ hf
      refine r_geti (i := 7) S hI fcM (Nat.le_of_ble_eq_true rfl) kw_508 dM_cutAfter_40 hv5 ?_
      refine lv_goto (tgt := 47) hx hb dM_cutAfter_43 rfl ?_
      exact bk47 w2 c0 v5 _ _ _ (lv_sub hl [] rfl) hI hf
  have bk12 : ∀ (w : Wo) (c0 : Nat) (x1 : Int32) (t0 : Nat) (H : Heap) (locs : List Loc) (ls : Array Slot), lv_has ls 2 [(0, .ref (ad c0)), (1, .int x1)] → Iv (Aa Λ ad) G kA kL Λ ad w s H locs → bM_cutAfter_12 Λ w c0 x1 t0 = some w1 → W p l e rmM_cutAfter s m args below meth c H locs 0 0 Q (F0 m 12 ls [.ref (ad t0)]) := by
    intro w c0 x1 t0 H locs ls hl hI hf
    unfold bM_cutAfter_12 at hf
    refine lv_iconst hx hb dM_cutAfter_12 kI_1 ?_
    refine lv_goto (tgt := 28) hx hb dM_cutAfter_13 rfl ?_
    exact bk28 w c0 x1 t0 1 _ _ _ (lv_sub hl [0, 1] rfl) hI hf
  unfold fM_cutAfter at hf
  have hf := (gd_some hf).2
  refine lv_aload_n hx hb dM_cutAfter_0 rfl (lv_at hl 0 rfl) ?_
  refine lv_iload_n hx hb dM_cutAfter_1 rfl (lv_at hl 1 rfl) ?_
  refine lv_iconst hx hb dM_cutAfter_2 kI_m1 ?_
  refine lv_icmp_lt (tgt := 12) hx hb dM_cutAfter_3 rfl (fun h6 => ?_) (fun h6 => ?_)
  · have hf := ip_ hf h6
    exact bk12 w c0 x1 c0 _ _ _ (lv_sub hl [0, 1] rfl) hI hf
  · have hf := in_ hf h6
    refine lv_iload_n hx hb dM_cutAfter_6 rfl (lv_at hl 1 rfl) ?_
    refine lv_bipush hx hb dM_cutAfter_7 kB_100 ?_
    refine lv_icmp_le (tgt := 16) hx hb dM_cutAfter_9 rfl (fun h7 => ?_) (fun h7 => ?_)
    · have hf := ip_ hf h7
      refine lv_aload_n hx hb dM_cutAfter_16 rfl (lv_at hl 0 rfl) ?_
      obtain ⟨v8, hv8, hf⟩ := ob_ hf
      refine r_geti (i := 6) S hI fcM (Nat.le_of_ble_eq_true rfl) kw_507 dM_cutAfter_17 hv8 ?_
      refine lv_if_eq (tgt := 27) hx hb dM_cutAfter_20 rfl (fun h9 => ?_) (fun h9 => ?_)
      · have hf := ip_ hf h9
        refine lv_iconst hx hb dM_cutAfter_27 kI_0 ?_
        exact bk28 w c0 x1 c0 0 _ _ _ (lv_sub hl [0, 1] rfl) hI hf
      · have hf := in_ hf h9
        refine lv_iconst hx hb dM_cutAfter_23 kI_2 ?_
        refine lv_goto (tgt := 28) hx hb dM_cutAfter_24 rfl ?_
        exact bk28 w c0 x1 c0 2 _ _ _ (lv_sub hl [0, 1] rfl) hI hf
    · have hf := in_ hf h7
      exact bk12 w c0 x1 c0 _ _ _ (lv_sub hl [0, 1] rfl) hI hf
/-- GuardVolumeModel.start()I -/
abbrev rmM_start : Room := { frames := 7, cells := 0, slots := 0, locals := 164 }
theorem pkM_start : Pk yM_start cM_start 3 (some .int) 0 := ⟨kw_656, kw_7, by decide +kernel, by decide +kernel, by decide +kernel⟩
def bM_start_96 (Λ : La) (w : Wo) (c0 : Nat) (x1 : Int32) : Option (Wo × Int32) := (gr Λ c0 5 8).bind fun r1 => (ld Λ w r1 0).bind fun v2 => (gr Λ c0 5 8).bind fun r3 => (ld Λ w r3 1).bind fun v4 => some (w, ((v2 + v4) - x1))
def bM_start_59s (Λ : La) (K59 : Wo → Nat → Int32 → Int32 → Option (Wo × Int32)) (w : Wo) (c0 : Nat) (x1 : Int32) (x2 : Int32) : Option (Wo × Int32) := if 8 ≤ x2 then ((gi Λ w c0 5 3).bind fun v6 => (gi Λ w c0 5 5).bind fun v7 => (fM_put Λ w c0 v6 v7).bind fun q8 => bM_start_96 Λ q8.1 c0 x1) else ((gr Λ c0 5 19).bind fun r9 => (gr Λ c0 5 4).bind fun r10 => (ld Λ w r10 x2).bind fun v11 => (st Λ w r9 x2 v11).bind fun w12 => K59 w12 c0 x1 (x2 + 1))
def bM_start_59 (Λ : La) : Nat → Wo → Nat → Int32 → Int32 → Option (Wo × Int32)
  | 0 => fun _ _ _ _ => none
  | n + 1 => bM_start_59s Λ (bM_start_59 Λ n)
def bM_start_13 (Λ : La) (w : Wo) (c0 : Nat) (t0 : Nat) (s1 : Int32) : Option (Wo × Int32) := (pf Λ w t0 5 0 s1).bind fun w13 => (gi Λ w13 c0 5 0).bind fun v14 => if v14 ≤ 0 then ((pf Λ w13 c0 5 6 0).bind fun w16 => (pf Λ w16 c0 5 7 (-1)).bind fun w17 => (gr Λ c0 5 8).bind fun r18 => (ld Λ w17 r18 0).bind fun v19 => (gr Λ c0 5 8).bind fun r20 => (ld Λ w17 r20 1).bind fun v21 => (gi Λ w17 c0 5 3).bind fun v22 => if v22 = (-1) then (bM_start_96 Λ w17 c0 (v19 + v21)) else (bM_start_59 Λ 1000 w17 c0 (v19 + v21) 0)) else (some (w13, 0))
def fM_start (Λ : La) (w : Wo) (c0 : Nat) : Option (Wo × Int32) := gd (isC Λ c0 5) ((gi Λ w c0 5 6).bind fun v24 => if v24 = 0 then (bM_start_13 Λ w c0 c0 1) else (bM_start_13 Λ w c0 c0 0))
set_option maxHeartbeats 4000000 in
set_option maxRecDepth 100000 in
theorem kM_start (l : Launch) (G : va_G) (kA kL : ClassId) (Λ : La) (ad : Nat → Nat) (w : Wo) (c0 : Nat) (w1 : Wo) (r : Int32) (hf : fM_start Λ w c0 = some (w1, r)) : Mi l yM_start cM_start 3 (some .int) rmM_start G kA kL Λ ad [.ref (ad c0)] w w1 r := by
  refine Mi.of (by decide +kernel) (Nat.le_of_ble_eq_true rfl) ?_
  intro p e s m args below meth c Q ls S hret hl hI
  have S : CallFix p m c cM_start 3 s args (.code yM_start cM_start 3 (some .int) :: gW) "GuardVolumeModel" := S
  have hl : lv_has ls 3 [(0, .ref (ad c0))] := hl
  have hx := S.1
  have hb := S.2.1
  have bk96 : ∀ (w : Wo) (c0 : Nat) (x1 : Int32) (H : Heap) (locs : List Loc) (ls : Array Slot), lv_has ls 3 [(0, .ref (ad c0)), (1, .int x1)] → Iv (Aa Λ ad) G kA kL Λ ad w s H locs → bM_start_96 Λ w c0 x1 = some (w1, r) → W p l e rmM_start s m args below meth c H locs 0 0 Q (F0 m 96 ls []) := by
    intro w c0 x1 H locs ls hl hI hf
    unfold bM_start_96 at hf
    refine lv_aload_n hx hb dM_start_96 rfl (lv_at hl 0 rfl) ?_
    obtain ⟨r1, hr1, hf⟩ := ob_ hf
    refine r_getr (i := 8) S hI fcM (Nat.le_of_ble_eq_true rfl) kw_509 dM_start_97 hr1 ?_
    refine lv_iconst hx hb dM_start_100 kI_0 ?_
    obtain ⟨v2, hv2, hf⟩ := ob_ hf
    refine r_ald S hI dM_start_101 hv2 ?_
    refine lv_aload_n hx hb dM_start_102 rfl (lv_at hl 0 rfl) ?_
    obtain ⟨r3, hr3, hf⟩ := ob_ hf
    refine r_getr (i := 8) S hI fcM (Nat.le_of_ble_eq_true rfl) kw_509 dM_start_103 hr3 ?_
    refine lv_iconst hx hb dM_start_106 kI_1 ?_
    obtain ⟨v4, hv4, hf⟩ := ob_ hf
    refine r_ald S hI dM_start_107 hv4 ?_
    refine lv_iadd hx hb dM_start_108 ?_
    refine lv_iload_n hx hb dM_start_109 rfl (lv_at hl 1 rfl) ?_
    refine lv_isub hx hb dM_start_110 ?_
    exact hret _ _ _ _ _ _ hI hf dM_start_111
  have bk59 : ∀ (K59 : Wo → Nat → Int32 → Int32 → Option (Wo × Int32)), (∀ (w : Wo) (c0 : Nat) (x1 : Int32) (x2 : Int32) (H : Heap) (locs : List Loc) (ls : Array Slot), lv_has ls 3 [(0, .ref (ad c0)), (1, .int x1), (2, .int x2)] → Iv (Aa Λ ad) G kA kL Λ ad w s H locs → K59 w c0 x1 x2 = some (w1, r) → W p l e rmM_start s m args below meth c H locs 0 0 Q (F0 m 59 ls [])) → ∀ (w : Wo) (c0 : Nat) (x1 : Int32) (x2 : Int32) (H : Heap) (locs : List Loc) (ls : Array Slot), lv_has ls 3 [(0, .ref (ad c0)), (1, .int x1), (2, .int x2)] → Iv (Aa Λ ad) G kA kL Λ ad w s H locs → bM_start_59s Λ K59 w c0 x1 x2 = some (w1, r) → W p l e rmM_start s m args below meth c H locs 0 0 Q (F0 m 59 ls []) := by
    intro K59 hK59 w c0 x1 x2 H locs ls hl hI hf
    unfold bM_start_59s at hf
    refine lv_iload_n hx hb dM_start_59 rfl (lv_at hl 2 rfl) ?_
    refine lv_bipush hx hb dM_start_60 kB_8 ?_
    refine lv_icmp_ge (tgt := 83) hx hb dM_start_62 rfl (fun h5 => ?_) (fun h5 => ?_)
    · have hf := ip_ hf h5
      refine lv_aload_n hx hb dM_start_83 rfl (lv_at hl 0 rfl) ?_
      refine lv_aload_n hx hb dM_start_84 rfl (lv_at hl 0 rfl) ?_
      obtain ⟨v6, hv6, hf⟩ := ob_ hf
      refine r_geti (i := 3) S hI fcM (Nat.le_of_ble_eq_true rfl) kw_504 dM_start_85 hv6 ?_
      refine lv_aload_n hx hb dM_start_88 rfl (lv_at hl 0 rfl) ?_
      obtain ⟨v7, hv7, hf⟩ := ob_ hf
      refine r_geti (i := 5) S hI fcM (Nat.le_of_ble_eq_true rfl) kw_506 dM_start_89 hv7 ?_
      obtain ⟨q8, hq8, hf⟩ := ob_ hf
      refine r_ci (r_V (rest := []) (As := [.int v6, .int v7]) S hl hI (kM_put l G kA kL Λ ad w c0 v6 v7 q8.1 q8.2 hq8) pkM_put kw_607 ks_M_put (fcM).1 (gd_some hq8).1 kw_605 ⟨rfl, rfl⟩ ⟨Nat.le_of_ble_eq_true rfl, Nat.le_of_ble_eq_true rfl⟩ rfl rfl (Nat.le_of_ble_eq_true rfl) ⟨Nat.zero_le _, Nat.zero_le _⟩ dM_start_92) hI (fun H locs hI => ?_)
      refine lv_istore_n hx hb (lv' := [(2, .int q8.2), (0, .ref (ad c0)), (1, .int x1)]) dM_start_95 rfl hl (Nat.le_of_ble_eq_true rfl) rfl (fun ls hl => ?_)
      exact bk96 q8.1 c0 x1 _ _ _ (lv_sub hl [1, 2] rfl) hI hf
    · have hf := in_ hf h5
      refine lv_aload_n hx hb dM_start_65 rfl (lv_at hl 0 rfl) ?_
      obtain ⟨r9, hr9, hf⟩ := ob_ hf
      refine r_getr (i := 19) S hI fcM (Nat.le_of_ble_eq_true rfl) kw_520 dM_start_66 hr9 ?_
      refine lv_iload_n hx hb dM_start_69 rfl (lv_at hl 2 rfl) ?_
      refine lv_aload_n hx hb dM_start_70 rfl (lv_at hl 0 rfl) ?_
      obtain ⟨r10, hr10, hf⟩ := ob_ hf
      refine r_getr (i := 4) S hI fcM (Nat.le_of_ble_eq_true rfl) kw_505 dM_start_71 hr10 ?_
      refine lv_iload_n hx hb dM_start_74 rfl (lv_at hl 2 rfl) ?_
      obtain ⟨v11, hv11, hf⟩ := ob_ hf
      refine r_ald S hI dM_start_75 hv11 ?_
      obtain ⟨w12, hw12, hf⟩ := ob_ hf
      refine r_ast S hI dM_start_76 hw12 (fun H locs hI => ?_)
      refine lv_iinc hx hb (lv' := [(2, .int (x2 + 1)), (0, .ref (ad c0)), (1, .int x1)]) (k := 2) dM_start_77 hl rfl (kN_1 _) (Nat.le_of_ble_eq_true rfl) rfl (fun ls hl => ?_)
      refine lv_goto (tgt := 59) hx hb dM_start_80 rfl ?_
      exact hK59 w12 c0 x1 (x2 + 1) _ _ _ (lv_sub hl [1, 2, 0] rfl) hI hf
  have lp59 : ∀ (n : Nat), ∀ (w : Wo) (c0 : Nat) (x1 : Int32) (x2 : Int32) (H : Heap) (locs : List Loc) (ls : Array Slot), lv_has ls 3 [(0, .ref (ad c0)), (1, .int x1), (2, .int x2)] → Iv (Aa Λ ad) G kA kL Λ ad w s H locs → bM_start_59 Λ n w c0 x1 x2 = some (w1, r) → W p l e rmM_start s m args below meth c H locs 0 0 Q (F0 m 59 ls []) := by
    intro n
    induction n with
    | zero =>
      intro w c0 x1 x2 H locs ls hl hI hf
      have hf : (none : Option (Wo × Int32)) = some (w1, r) := hf
      cases hf
    | succ n ih =>
      intro w c0 x1 x2 H locs ls hl hI hf
      exact bk59 (bM_start_59 Λ n) ih w c0 x1 x2 H locs ls hl hI hf
  have bk13 : ∀ (w : Wo) (c0 : Nat) (t0 : Nat) (s1 : Int32) (H : Heap) (locs : List Loc) (ls : Array Slot), lv_has ls 3 [(0, .ref (ad c0))] → Iv (Aa Λ ad) G kA kL Λ ad w s H locs → bM_start_13 Λ w c0 t0 s1 = some (w1, r) → W p l e rmM_start s m args below meth c H locs 0 0 Q (F0 m 13 ls [.int s1, .ref (ad t0)]) := by
    intro w c0 t0 s1 H locs ls hl hI hf
    unfold bM_start_13 at hf
    obtain ⟨w13, hw13, hf⟩ := ob_ hf
    refine r_put (i := 0) S hI fcM (Nat.le_of_ble_eq_true rfl) kw_501 rfl rfl rfl dM_start_13 hw13 (fun H locs hI => ?_)
    refine lv_aload_n hx hb dM_start_16 rfl (lv_at hl 0 rfl) ?_
    obtain ⟨v14, hv14, hf⟩ := ob_ hf
    refine r_geti (i := 0) S hI fcM (Nat.le_of_ble_eq_true rfl) kw_501 dM_start_17 hv14 ?_
    refine lv_if_le (tgt := 25) hx hb dM_start_20 rfl (fun h15 => ?_) (fun h15 => ?_)
    · have hf := ip_ hf h15
      refine lv_aload_n hx hb dM_start_25 rfl (lv_at hl 0 rfl) ?_
      refine lv_iconst hx hb dM_start_26 kI_0 ?_
      obtain ⟨w16, hw16, hf⟩ := ob_ hf
      refine r_put (i := 6) S hI fcM (Nat.le_of_ble_eq_true rfl) kw_507 rfl (narrow_z (Or.inl rfl)) rfl dM_start_27 hw16 (fun H locs hI => ?_)
      refine lv_aload_n hx hb dM_start_30 rfl (lv_at hl 0 rfl) ?_
      refine lv_iconst hx hb dM_start_31 kI_m1 ?_
      obtain ⟨w17, hw17, hf⟩ := ob_ hf
      refine r_put (i := 7) S hI fcM (Nat.le_of_ble_eq_true rfl) kw_508 rfl rfl rfl dM_start_32 hw17 (fun H locs hI => ?_)
      refine lv_aload_n hx hb dM_start_35 rfl (lv_at hl 0 rfl) ?_
      obtain ⟨r18, hr18, hf⟩ := ob_ hf
      refine r_getr (i := 8) S hI fcM (Nat.le_of_ble_eq_true rfl) kw_509 dM_start_36 hr18 ?_
      refine lv_iconst hx hb dM_start_39 kI_0 ?_
      obtain ⟨v19, hv19, hf⟩ := ob_ hf
      refine r_ald S hI dM_start_40 hv19 ?_
      refine lv_aload_n hx hb dM_start_41 rfl (lv_at hl 0 rfl) ?_
      obtain ⟨r20, hr20, hf⟩ := ob_ hf
      refine r_getr (i := 8) S hI fcM (Nat.le_of_ble_eq_true rfl) kw_509 dM_start_42 hr20 ?_
      refine lv_iconst hx hb dM_start_45 kI_1 ?_
      obtain ⟨v21, hv21, hf⟩ := ob_ hf
      refine r_ald S hI dM_start_46 hv21 ?_
      refine lv_iadd hx hb dM_start_47 ?_
      refine lv_istore_n hx hb (lv' := [(1, .int (v19 + v21)), (0, .ref (ad c0))]) dM_start_48 rfl hl (Nat.le_of_ble_eq_true rfl) rfl (fun ls hl => ?_)
      refine lv_aload_n hx hb dM_start_49 rfl (lv_at hl 1 rfl) ?_
      obtain ⟨v22, hv22, hf⟩ := ob_ hf
      refine r_geti (i := 3) S hI fcM (Nat.le_of_ble_eq_true rfl) kw_504 dM_start_50 hv22 ?_
      refine lv_iconst hx hb dM_start_53 kI_m1 ?_
      refine lv_icmp_eq (tgt := 96) hx hb dM_start_54 rfl (fun h23 => ?_) (fun h23 => ?_)
      · have hf := ip_ hf h23
        exact bk96 w17 c0 (v19 + v21) _ _ _ (lv_sub hl [1, 0] rfl) hI hf
      · have hf := in_ hf h23
        refine lv_iconst hx hb dM_start_57 kI_0 ?_
        refine lv_istore_n hx hb (lv' := [(2, .int 0), (1, .int (v19 + v21)), (0, .ref (ad c0))]) dM_start_58 rfl hl (Nat.le_of_ble_eq_true rfl) rfl (fun ls hl => ?_)
        exact lp59 1000 w17 c0 (v19 + v21) 0 _ _ _ (lv_sub hl [2, 1, 0] rfl) hI hf
    · have hf := in_ hf h15
      refine lv_iconst hx hb dM_start_23 kI_0 ?_
      exact hret _ _ _ _ _ _ hI hf dM_start_24
  unfold fM_start at hf
  have hf := (gd_some hf).2
  refine lv_aload_n hx hb dM_start_0 rfl (lv_at hl 0 rfl) ?_
  refine lv_aload_n hx hb dM_start_1 rfl (lv_at hl 0 rfl) ?_
  obtain ⟨v24, hv24, hf⟩ := ob_ hf
  refine r_geti (i := 6) S hI fcM (Nat.le_of_ble_eq_true rfl) kw_507 dM_start_2 hv24 ?_
  refine lv_if_eq (tgt := 12) hx hb dM_start_5 rfl (fun h25 => ?_) (fun h25 => ?_)
  · have hf := ip_ hf h25
    refine lv_iconst hx hb dM_start_12 kI_1 ?_
    exact bk13 w c0 c0 1 _ _ _ (lv_sub hl [0] rfl) hI hf
  · have hf := in_ hf h25
    refine lv_iconst hx hb dM_start_8 kI_0 ?_
    refine lv_goto (tgt := 13) hx hb dM_start_9 rfl ?_
    exact bk13 w c0 c0 0 _ _ _ (lv_sub hl [0] rfl) hI hf
/-- GuardVolumeModel.find(IIII)V -/
abbrev rmM_find : Room := { frames := 0, cells := 0, slots := 0, locals := 0 }
theorem pkM_find : Pk yM_find cM_find 5 none 4 := ⟨kw_668, kw_7, by decide +kernel, by decide +kernel, by decide +kernel⟩
def fM_find (Λ : La) (w : Wo) (c0 : Nat) (x1 : Int32) (x2 : Int32) (x3 : Int32) (x4 : Int32) : Option Wo := gd (isC Λ c0 5) ((gi Λ w c0 5 16).bind fun v1 => (pf Λ w c0 5 16 (v1 + 1)).bind fun w2 => (gi Λ w2 c0 5 15).bind fun v3 => if 100 ≤ v3 then (some w2) else ((gr Λ c0 5 17).bind fun r5 => (gi Λ w2 c0 5 15).bind fun v6 => (st Λ w2 r5 (4 * v6) x1).bind fun w7 => (gr Λ c0 5 17).bind fun r8 => (gi Λ w7 c0 5 15).bind fun v9 => (st Λ w7 r8 ((4 * v9) + 1) x2).bind fun w10 => (gr Λ c0 5 17).bind fun r11 => (gi Λ w10 c0 5 15).bind fun v12 => (st Λ w10 r11 ((4 * v12) + 2) x3).bind fun w13 => (gr Λ c0 5 17).bind fun r14 => (gi Λ w13 c0 5 15).bind fun v15 => (st Λ w13 r14 ((4 * v15) + 3) x4).bind fun w16 => (gi Λ w16 c0 5 15).bind fun v17 => (pf Λ w16 c0 5 15 (v17 + 1)).bind fun w18 => some w18))
set_option maxHeartbeats 4000000 in
set_option maxRecDepth 100000 in
theorem kM_find (l : Launch) (G : va_G) (kA kL : ClassId) (Λ : La) (ad : Nat → Nat) (w : Wo) (c0 : Nat) (x1 : Int32) (x2 : Int32) (x3 : Int32) (x4 : Int32) (w1 : Wo) (hf : fM_find Λ w c0 x1 x2 x3 x4 = some w1) : Mv l yM_find cM_find 5 rmM_find G kA kL Λ ad [.ref (ad c0), .int x1, .int x2, .int x3, .int x4] w w1 := by
  refine Mv.of (by decide +kernel) (Nat.le_of_ble_eq_true rfl) ?_
  intro p e s m args below meth c Q ls S hret hl hI
  have S : CallFix p m c cM_find 5 s args (.code yM_find cM_find 5 none :: gW) "GuardVolumeModel" := S
  have hl : lv_has ls 5 [(0, .ref (ad c0)), (1, .int x1), (2, .int x2), (3, .int x3), (4, .int x4)] := hl
  have hx := S.1
  have hb := S.2.1
  unfold fM_find at hf
  have hf := (gd_some hf).2
  refine lv_aload_n hx hb dM_find_0 rfl (lv_at hl 0 rfl) ?_
  refine lv_dup hx hb dM_find_1 rfl ?_
  obtain ⟨v1, hv1, hf⟩ := ob_ hf
  refine r_geti (i := 16) S hI fcM (Nat.le_of_ble_eq_true rfl) kw_517 dM_find_2 hv1 ?_
  refine lv_iconst hx hb dM_find_5 kI_1 ?_
  refine lv_iadd hx hb dM_find_6 ?_
  obtain ⟨w2, hw2, hf⟩ := ob_ hf
  refine r_put (i := 16) S hI fcM (Nat.le_of_ble_eq_true rfl) kw_517 rfl rfl rfl dM_find_7 hw2 (fun H locs hI => ?_)
  refine lv_aload_n hx hb dM_find_10 rfl (lv_at hl 0 rfl) ?_
  obtain ⟨v3, hv3, hf⟩ := ob_ hf
  refine r_geti (i := 15) S hI fcM (Nat.le_of_ble_eq_true rfl) kw_516 dM_find_11 hv3 ?_
  refine lv_bipush hx hb dM_find_14 kB_100 ?_
  refine lv_icmp_ge (tgt := 84) hx hb dM_find_16 rfl (fun h4 => ?_) (fun h4 => ?_)
  · have hf := ip_ hf h4
    exact hret _ _ _ _ _ hI hf dM_find_84
  · have hf := in_ hf h4
    refine lv_aload_n hx hb dM_find_19 rfl (lv_at hl 0 rfl) ?_
    obtain ⟨r5, hr5, hf⟩ := ob_ hf
    refine r_getr (i := 17) S hI fcM (Nat.le_of_ble_eq_true rfl) kw_518 dM_find_20 hr5 ?_
    refine lv_iconst hx hb dM_find_23 kI_4 ?_
    refine lv_aload_n hx hb dM_find_24 rfl (lv_at hl 0 rfl) ?_
    obtain ⟨v6, hv6, hf⟩ := ob_ hf
    refine r_geti (i := 15) S hI fcM (Nat.le_of_ble_eq_true rfl) kw_516 dM_find_25 hv6 ?_
    refine lv_imul hx hb dM_find_28 ?_
    refine lv_iload_n hx hb dM_find_29 rfl (lv_at hl 1 rfl) ?_
    obtain ⟨w7, hw7, hf⟩ := ob_ hf
    refine r_ast S hI dM_find_30 hw7 (fun H locs hI => ?_)
    refine lv_aload_n hx hb dM_find_31 rfl (lv_at hl 0 rfl) ?_
    obtain ⟨r8, hr8, hf⟩ := ob_ hf
    refine r_getr (i := 17) S hI fcM (Nat.le_of_ble_eq_true rfl) kw_518 dM_find_32 hr8 ?_
    refine lv_iconst hx hb dM_find_35 kI_4 ?_
    refine lv_aload_n hx hb dM_find_36 rfl (lv_at hl 0 rfl) ?_
    obtain ⟨v9, hv9, hf⟩ := ob_ hf
    refine r_geti (i := 15) S hI fcM (Nat.le_of_ble_eq_true rfl) kw_516 dM_find_37 hv9 ?_
    refine lv_imul hx hb dM_find_40 ?_
    refine lv_iconst hx hb dM_find_41 kI_1 ?_
    refine lv_iadd hx hb dM_find_42 ?_
    refine lv_iload_n hx hb dM_find_43 rfl (lv_at hl 2 rfl) ?_
    obtain ⟨w10, hw10, hf⟩ := ob_ hf
    refine r_ast S hI dM_find_44 hw10 (fun H locs hI => ?_)
    refine lv_aload_n hx hb dM_find_45 rfl (lv_at hl 0 rfl) ?_
    obtain ⟨r11, hr11, hf⟩ := ob_ hf
    refine r_getr (i := 17) S hI fcM (Nat.le_of_ble_eq_true rfl) kw_518 dM_find_46 hr11 ?_
    refine lv_iconst hx hb dM_find_49 kI_4 ?_
    refine lv_aload_n hx hb dM_find_50 rfl (lv_at hl 0 rfl) ?_
    obtain ⟨v12, hv12, hf⟩ := ob_ hf
    refine r_geti (i := 15) S hI fcM (Nat.le_of_ble_eq_true rfl) kw_516 dM_find_51 hv12 ?_
    refine lv_imul hx hb dM_find_54 ?_
    refine lv_iconst hx hb dM_find_55 kI_2 ?_
    refine lv_iadd hx hb dM_find_56 ?_
    refine lv_iload_n hx hb dM_find_57 rfl (lv_at hl 3 rfl) ?_
    obtain ⟨w13, hw13, hf⟩ := ob_ hf
    refine r_ast S hI dM_find_58 hw13 (fun H locs hI => ?_)
    refine lv_aload_n hx hb dM_find_59 rfl (lv_at hl 0 rfl) ?_
    obtain ⟨r14, hr14, hf⟩ := ob_ hf
    refine r_getr (i := 17) S hI fcM (Nat.le_of_ble_eq_true rfl) kw_518 dM_find_60 hr14 ?_
    refine lv_iconst hx hb dM_find_63 kI_4 ?_
    refine lv_aload_n hx hb dM_find_64 rfl (lv_at hl 0 rfl) ?_
    obtain ⟨v15, hv15, hf⟩ := ob_ hf
    refine r_geti (i := 15) S hI fcM (Nat.le_of_ble_eq_true rfl) kw_516 dM_find_65 hv15 ?_
    refine lv_imul hx hb dM_find_68 ?_
    refine lv_iconst hx hb dM_find_69 kI_3 ?_
    refine lv_iadd hx hb dM_find_70 ?_
    refine lv_iload hx hb dM_find_71 (lv_at hl 4 rfl) ?_
    obtain ⟨w16, hw16, hf⟩ := ob_ hf
    refine r_ast S hI dM_find_73 hw16 (fun H locs hI => ?_)
    refine lv_aload_n hx hb dM_find_74 rfl (lv_at hl 0 rfl) ?_
    refine lv_dup hx hb dM_find_75 rfl ?_
    obtain ⟨v17, hv17, hf⟩ := ob_ hf
    refine r_geti (i := 15) S hI fcM (Nat.le_of_ble_eq_true rfl) kw_516 dM_find_76 hv17 ?_
    refine lv_iconst hx hb dM_find_79 kI_1 ?_
    refine lv_iadd hx hb dM_find_80 ?_
    obtain ⟨w18, hw18, hf⟩ := ob_ hf
    refine r_put (i := 15) S hI fcM (Nat.le_of_ble_eq_true rfl) kw_516 rfl rfl rfl dM_find_81 hw18 (fun H locs hI => ?_)
    exact hret _ _ _ _ _ hI hf dM_find_84
/-- GuardVolumeModel.scrubOf(I)Z -/
abbrev rmM_scrubOf : Room := { frames := 6, cells := 0, slots := 0, locals := 137 }
theorem pkM_scrubOf : Pk yM_scrubOf cM_scrubOf 6 (some .boolean) 1 := ⟨kw_664, kw_7, by decide +kernel, by decide +kernel, by decide +kernel⟩
def bM_scrubOf_77 (Λ : La) (K7 : Wo → Nat → Int32 → Int32 → Int32 → Option (Wo × Int32)) (w : Wo) (c0 : Nat) (x1 : Int32) (x2 : Int32) (x3 : Int32) : Option (Wo × Int32) := K7 w c0 x1 x2 (x3 + 1)
def bM_scrubOf_155 (Λ : La) (w : Wo) (c0 : Nat) (x1 : Int32) (x5 : Int32) (t0 : Nat) (s1 : Int32) (s2 : Int32) (s3 : Int32) : Option (Wo × Int32) := (gr Λ c0 5 1).bind fun r1 => (fM_place Λ w x5 x1).bind fun q2 => (ld Λ q2.1 r1 (q2.2 + 9)).bind fun v3 => (fM_find Λ q2.1 t0 s1 s2 s3 v3).bind fun w4 => (fM_takeWords Λ w4 c0 (1 - x5) x1).bind fun w5 => (gr Λ c0 5 1).bind fun r6 => (fM_place Λ w5 (1 - x5) x1).bind fun q7 => (ld Λ q7.1 r6 (q7.2 + 10)).bind fun v8 => (fM_storeRow Λ q7.1 c0 x5 x1 v8).bind fun q9 => zr q9.1 q9.2
def bM_scrubOf_138 (Λ : La) (w : Wo) (c0 : Nat) (x1 : Int32) (x3 : Int32) (x4 : Int32) (s0 : Int32) : Option (Wo × Int32) := if s0 = 0 then (bM_scrubOf_155 Λ w c0 x1 s0 c0 x1 s0 x3) else (bM_scrubOf_155 Λ w c0 x1 s0 c0 x1 s0 x4)
def bM_scrubOf_129 (Λ : La) (w : Wo) (c0 : Nat) (x1 : Int32) (x3 : Int32) (x4 : Int32) : Option (Wo × Int32) := if x3 = 0 then (bM_scrubOf_138 Λ w c0 x1 x3 x4 1) else (bM_scrubOf_138 Λ w c0 x1 x3 x4 0)
def bM_scrubOf_118 (Λ : La) (w : Wo) (c0 : Nat) (x1 : Int32) (x3 : Int32) (x4 : Int32) : Option (Wo × Int32) := if x3 = 0 then (if x4 = 0 then (zr w 1) else (bM_scrubOf_129 Λ w c0 x1 x3 x4)) else (bM_scrubOf_129 Λ w c0 x1 x3 x4)
def bM_scrubOf_7s (Λ : La) (K7 : Wo → Nat → Int32 → Int32 → Int32 → Option (Wo × Int32)) (w : Wo) (c0 : Nat) (x1 : Int32) (x2 : Int32) (x3 : Int32) : Option (Wo × Int32) := if 2 ≤ x3 then ((fM_verdictOf Λ w c0 0 x1).bind fun q15 => (fM_verdictOf Λ q15.1 c0 1 x1).bind fun q16 => if q15.2 = 0 then (bM_scrubOf_118 Λ q16.1 c0 x1 q15.2 q16.2) else (if q16.2 = 0 then (bM_scrubOf_118 Λ q16.1 c0 x1 q15.2 q16.2) else ((fM_find Λ q16.1 c0 x1 (-1) 7 (-1)).bind fun w19 => zr w19 1))) else ((fM_isRightPage Λ w c0 (1 - x3) x2).bind fun q20 => if q20.2 = 0 then ((fM_isRightPage Λ q20.1 c0 x3 x2).bind fun q22 => if q22.2 = 0 then (bM_scrubOf_77 Λ K7 q22.1 c0 x1 x2 x3) else ((gr Λ c0 5 1).bind fun r24 => (fM_place Λ q22.1 (1 - x3) (64 + x2)).bind fun q25 => (ld Λ q25.1 r24 (q25.2 + 9)).bind fun v26 => (fM_find Λ q25.1 c0 x1 (1 - x3) 6 v26).bind fun w27 => (fM_listed Λ w27 c0 x3 x1).bind fun q28 => (fM_storeList Λ q28.1 c0 x3 x1 q28.2).bind fun q29 => if q29.2 = 0 then (zr q29.1 0) else (bM_scrubOf_77 Λ K7 q29.1 c0 x1 x2 x3))) else (bM_scrubOf_77 Λ K7 q20.1 c0 x1 x2 x3))
def bM_scrubOf_7 (Λ : La) : Nat → Wo → Nat → Int32 → Int32 → Int32 → Option (Wo × Int32)
  | 0 => fun _ _ _ _ _ => none
  | n + 1 => bM_scrubOf_7s Λ (bM_scrubOf_7 Λ n)
def fM_scrubOf (Λ : La) (w : Wo) (c0 : Nat) (x1 : Int32) : Option (Wo × Int32) := gd (isC Λ c0 5) (bM_scrubOf_7 Λ 1000 w c0 x1 (x1 / 8) 0)
set_option maxHeartbeats 4000000 in
set_option maxRecDepth 100000 in
theorem kM_scrubOf (l : Launch) (G : va_G) (kA kL : ClassId) (Λ : La) (ad : Nat → Nat) (w : Wo) (c0 : Nat) (x1 : Int32) (w1 : Wo) (r : Int32) (hf : fM_scrubOf Λ w c0 x1 = some (w1, r)) : Mi l yM_scrubOf cM_scrubOf 6 (some .boolean) rmM_scrubOf G kA kL Λ ad [.ref (ad c0), .int x1] w w1 r := by
  refine Mz.of (by decide +kernel) (Nat.le_of_ble_eq_true rfl) ?_
  intro p e s m args below meth c Q ls S hret hl hI
  have S : CallFix p m c cM_scrubOf 6 s args (.code yM_scrubOf cM_scrubOf 6 (some .boolean) :: gW) "GuardVolumeModel" := S
  have hl : lv_has ls 6 [(0, .ref (ad c0)), (1, .int x1)] := hl
  have hx := S.1
  have hb := S.2.1
  have bk77 : ∀ (K7 : Wo → Nat → Int32 → Int32 → Int32 → Option (Wo × Int32)), (∀ (w : Wo) (c0 : Nat) (x1 : Int32) (x2 : Int32) (x3 : Int32) (H : Heap) (locs : List Loc) (ls : Array Slot), lv_has ls 6 [(0, .ref (ad c0)), (1, .int x1), (2, .int x2), (3, .int x3)] → Iv (Aa Λ ad) G kA kL Λ ad w s H locs → K7 w c0 x1 x2 x3 = some (w1, r) → W p l e rmM_scrubOf s m args below meth c H locs 0 0 Q (F0 m 7 ls [])) → ∀ (w : Wo) (c0 : Nat) (x1 : Int32) (x2 : Int32) (x3 : Int32) (H : Heap) (locs : List Loc) (ls : Array Slot), lv_has ls 6 [(0, .ref (ad c0)), (1, .int x1), (2, .int x2), (3, .int x3)] → Iv (Aa Λ ad) G kA kL Λ ad w s H locs → bM_scrubOf_77 Λ K7 w c0 x1 x2 x3 = some (w1, r) → W p l e rmM_scrubOf s m args below meth c H locs 0 0 Q (F0 m 77 ls []) := by
    intro K7 hK7 w c0 x1 x2 x3 H locs ls hl hI hf
    unfold bM_scrubOf_77 at hf
    refine lv_iinc hx hb (lv' := [(3, .int (x3 + 1)), (0, .ref (ad c0)), (1, .int x1), (2, .int x2)]) (k := 3) dM_scrubOf_77 hl rfl (kN_1 _) (Nat.le_of_ble_eq_true rfl) rfl (fun ls hl => ?_)
    refine lv_goto (tgt := 7) hx hb dM_scrubOf_80 rfl ?_
    exact hK7 w c0 x1 x2 (x3 + 1) _ _ _ (lv_sub hl [1, 2, 3, 0] rfl) hI hf
  have bk155 : ∀ (w : Wo) (c0 : Nat) (x1 : Int32) (x5 : Int32) (t0 : Nat) (s1 : Int32) (s2 : Int32) (s3 : Int32) (H : Heap) (locs : List Loc) (ls : Array Slot), lv_has ls 6 [(0, .ref (ad c0)), (1, .int x1), (5, .int x5)] → Iv (Aa Λ ad) G kA kL Λ ad w s H locs → bM_scrubOf_155 Λ w c0 x1 x5 t0 s1 s2 s3 = some (w1, r) → W p l e rmM_scrubOf s m args below meth c H locs 0 0 Q (F0 m 155 ls [.int s3, .int s2, .int s1, .ref (ad t0)]) := by
    intro w c0 x1 x5 t0 s1 s2 s3 H locs ls hl hI hf
    unfold bM_scrubOf_155 at hf
    refine lv_aload_n hx hb dM_scrubOf_155 rfl (lv_at hl 0 rfl) ?_
    obtain ⟨r1, hr1, hf⟩ := ob_ hf
    refine r_getr (i := 1) S hI fcM (Nat.le_of_ble_eq_true rfl) kw_502 dM_scrubOf_156 hr1 ?_
    refine lv_iload hx hb dM_scrubOf_159 (lv_at hl 2 rfl) ?_
    refine lv_iload_n hx hb dM_scrubOf_161 rfl (lv_at hl 1 rfl) ?_
    obtain ⟨q2, hq2, hf⟩ := ob_ hf
    refine r_ci (r_S (rest := [.ref (ad r1), .int s3, .int s2, .int s1, .ref (ad t0)]) (As := [.int x5, .int x1]) S hl hI (kM_place l G kA kL Λ ad w x5 x1 q2.1 q2.2 hq2) pkM_place kw_492 kw_491 ⟨rfl, rfl⟩ ⟨Nat.le_of_ble_eq_true rfl, Nat.le_of_ble_eq_true rfl⟩ rfl rfl (Nat.le_of_ble_eq_true rfl) ⟨Nat.zero_le _, Nat.zero_le _⟩ dM_scrubOf_162) hI (fun H locs hI => ?_)
    refine lv_bipush hx hb dM_scrubOf_165 kB_9 ?_
    refine lv_iadd hx hb dM_scrubOf_167 ?_
    obtain ⟨v3, hv3, hf⟩ := ob_ hf
    refine r_ald S hI dM_scrubOf_168 hv3 ?_
    obtain ⟨w4, hw4, hf⟩ := ob_ hf
    refine r_cv (r_V (rest := []) (As := [.int s1, .int s2, .int s3, .int v3]) S hl hI (kM_find l G kA kL Λ ad q2.1 t0 s1 s2 s3 v3 w4 hw4) pkM_find kw_667 ks_M_find (fcM).1 (gd_some hw4).1 kw_665 ⟨rfl, rfl⟩ ⟨Nat.le_of_ble_eq_true rfl, Nat.le_of_ble_eq_true rfl⟩ rfl rfl (Nat.le_of_ble_eq_true rfl) ⟨Nat.zero_le _, Nat.zero_le _⟩ dM_scrubOf_169) hI (fun H locs hI => ?_)
    refine lv_aload_n hx hb dM_scrubOf_172 rfl (lv_at hl 0 rfl) ?_
    refine lv_iconst hx hb dM_scrubOf_173 kI_1 ?_
    refine lv_iload hx hb dM_scrubOf_174 (lv_at hl 2 rfl) ?_
    refine lv_isub hx hb dM_scrubOf_176 ?_
    refine lv_iload_n hx hb dM_scrubOf_177 rfl (lv_at hl 1 rfl) ?_
    obtain ⟨w5, hw5, hf⟩ := ob_ hf
    refine r_cv (r_V (rest := []) (As := [.int (1 - x5), .int x1]) S hl hI (kM_takeWords l G kA kL Λ ad w4 c0 (1 - x5) x1 w5 hw5) pkM_takeWords kw_603 ks_M_takeWords (fcM).1 (gd_some hw5).1 kw_601 ⟨rfl, rfl⟩ ⟨Nat.le_of_ble_eq_true rfl, Nat.le_of_ble_eq_true rfl⟩ rfl rfl (Nat.le_of_ble_eq_true rfl) ⟨Nat.zero_le _, Nat.zero_le _⟩ dM_scrubOf_178) hI (fun H locs hI => ?_)
    refine lv_aload_n hx hb dM_scrubOf_181 rfl (lv_at hl 0 rfl) ?_
    refine lv_iload hx hb dM_scrubOf_182 (lv_at hl 2 rfl) ?_
    refine lv_iload_n hx hb dM_scrubOf_184 rfl (lv_at hl 1 rfl) ?_
    refine lv_aload_n hx hb dM_scrubOf_185 rfl (lv_at hl 0 rfl) ?_
    obtain ⟨r6, hr6, hf⟩ := ob_ hf
    refine r_getr (i := 1) S hI fcM (Nat.le_of_ble_eq_true rfl) kw_502 dM_scrubOf_186 hr6 ?_
    refine lv_iconst hx hb dM_scrubOf_189 kI_1 ?_
    refine lv_iload hx hb dM_scrubOf_190 (lv_at hl 2 rfl) ?_
    refine lv_isub hx hb dM_scrubOf_192 ?_
    refine lv_iload_n hx hb dM_scrubOf_193 rfl (lv_at hl 1 rfl) ?_
    obtain ⟨q7, hq7, hf⟩ := ob_ hf
    refine r_ci (r_S (rest := [.ref (ad r6), .int x1, .int x5, .ref (ad c0)]) (As := [.int (1 - x5), .int x1]) S hl hI (kM_place l G kA kL Λ ad w5 (1 - x5) x1 q7.1 q7.2 hq7) pkM_place kw_492 kw_491 ⟨rfl, rfl⟩ ⟨Nat.le_of_ble_eq_true rfl, Nat.le_of_ble_eq_true rfl⟩ rfl rfl (Nat.le_of_ble_eq_true rfl) ⟨Nat.zero_le _, Nat.zero_le _⟩ dM_scrubOf_194) hI (fun H locs hI => ?_)
    refine lv_bipush hx hb dM_scrubOf_197 kB_10 ?_
    refine lv_iadd hx hb dM_scrubOf_199 ?_
    obtain ⟨v8, hv8, hf⟩ := ob_ hf
    refine r_ald S hI dM_scrubOf_200 hv8 ?_
    obtain ⟨q9, hq9, hf⟩ := ob_ hf
    refine r_ci (r_V (rest := []) (As := [.int x5, .int x1, .int v8]) S hl hI (kM_storeRow l G kA kL Λ ad q7.1 c0 x5 x1 v8 q9.1 q9.2 hq9) pkM_storeRow kw_615 ks_M_storeRow (fcM).1 (gd_some hq9).1 kw_613 ⟨rfl, rfl⟩ ⟨Nat.le_of_ble_eq_true rfl, Nat.le_of_ble_eq_true rfl⟩ rfl rfl (Nat.le_of_ble_eq_true rfl) ⟨Nat.zero_le _, Nat.zero_le _⟩ dM_scrubOf_201) hI (fun H locs hI => ?_)
    exact hret _ _ _ _ _ _ hI hf dM_scrubOf_204
  have bk138 : ∀ (w : Wo) (c0 : Nat) (x1 : Int32) (x3 : Int32) (x4 : Int32) (s0 : Int32) (H : Heap) (locs : List Loc) (ls : Array Slot), lv_has ls 6 [(0, .ref (ad c0)), (1, .int x1), (3, .int x3), (4, .int x4)] → Iv (Aa Λ ad) G kA kL Λ ad w s H locs → bM_scrubOf_138 Λ w c0 x1 x3 x4 s0 = some (w1, r) → W p l e rmM_scrubOf s m args below meth c H locs 0 0 Q (F0 m 138 ls [.int s0]) := by
    intro w c0 x1 x3 x4 s0 H locs ls hl hI hf
    unfold bM_scrubOf_138 at hf
    refine lv_istore hx hb (lv' := [(5, .int s0), (0, .ref (ad c0)), (1, .int x1), (3, .int x3), (4, .int x4)]) dM_scrubOf_138 hl (Nat.le_of_ble_eq_true rfl) rfl (fun ls hl => ?_)
    refine lv_aload_n hx hb dM_scrubOf_140 rfl (lv_at hl 1 rfl) ?_
    refine lv_iload_n hx hb dM_scrubOf_141 rfl (lv_at hl 2 rfl) ?_
    refine lv_iload hx hb dM_scrubOf_142 (lv_at hl 0 rfl) ?_
    refine lv_iload hx hb dM_scrubOf_144 (lv_at hl 0 rfl) ?_
    refine lv_if_ne (tgt := 153) hx hb dM_scrubOf_146 rfl (fun h10 => ?_) (fun h10 => ?_)
    · have hf := in_ hf h10
      refine lv_iload hx hb dM_scrubOf_153 (lv_at hl 4 rfl) ?_
      exact bk155 w c0 x1 s0 c0 x1 s0 x4 _ _ _ (lv_sub hl [1, 2, 0] rfl) hI hf
    · have hf := ip_ hf h10
      refine lv_iload_n hx hb dM_scrubOf_149 rfl (lv_at hl 3 rfl) ?_
      refine lv_goto (tgt := 155) hx hb dM_scrubOf_150 rfl ?_
      exact bk155 w c0 x1 s0 c0 x1 s0 x3 _ _ _ (lv_sub hl [1, 2, 0] rfl) hI hf
  have bk129 : ∀ (w : Wo) (c0 : Nat) (x1 : Int32) (x3 : Int32) (x4 : Int32) (H : Heap) (locs : List Loc) (ls : Array Slot), lv_has ls 6 [(0, .ref (ad c0)), (1, .int x1), (3, .int x3), (4, .int x4)] → Iv (Aa Λ ad) G kA kL Λ ad w s H locs → bM_scrubOf_129 Λ w c0 x1 x3 x4 = some (w1, r) → W p l e rmM_scrubOf s m args below meth c H locs 0 0 Q (F0 m 129 ls []) := by
    intro w c0 x1 x3 x4 H locs ls hl hI hf
    unfold bM_scrubOf_129 at hf
    refine lv_iload_n hx hb dM_scrubOf_129 rfl (lv_at hl 2 rfl) ?_
    refine lv_if_ne (tgt := 137) hx hb dM_scrubOf_130 rfl (fun h11 => ?_) (fun h11 => ?_)
    · have hf := in_ hf h11
      refine lv_iconst hx hb dM_scrubOf_137 kI_0 ?_
      exact bk138 w c0 x1 x3 x4 0 _ _ _ (lv_sub hl [0, 1, 2, 3] rfl) hI hf
    · have hf := ip_ hf h11
      refine lv_iconst hx hb dM_scrubOf_133 kI_1 ?_
      refine lv_goto (tgt := 138) hx hb dM_scrubOf_134 rfl ?_
      exact bk138 w c0 x1 x3 x4 1 _ _ _ (lv_sub hl [0, 1, 2, 3] rfl) hI hf
  have bk118 : ∀ (w : Wo) (c0 : Nat) (x1 : Int32) (x3 : Int32) (x4 : Int32) (H : Heap) (locs : List Loc) (ls : Array Slot), lv_has ls 6 [(0, .ref (ad c0)), (1, .int x1), (3, .int x3), (4, .int x4)] → Iv (Aa Λ ad) G kA kL Λ ad w s H locs → bM_scrubOf_118 Λ w c0 x1 x3 x4 = some (w1, r) → W p l e rmM_scrubOf s m args below meth c H locs 0 0 Q (F0 m 118 ls []) := by
    intro w c0 x1 x3 x4 H locs ls hl hI hf
    unfold bM_scrubOf_118 at hf
    refine lv_iload_n hx hb dM_scrubOf_118 rfl (lv_at hl 2 rfl) ?_
    refine lv_if_ne (tgt := 129) hx hb dM_scrubOf_119 rfl (fun h12 => ?_) (fun h12 => ?_)
    · have hf := in_ hf h12
      exact bk129 w c0 x1 x3 x4 _ _ _ (lv_sub hl [0, 1, 2, 3] rfl) hI hf
    · have hf := ip_ hf h12
      refine lv_iload hx hb dM_scrubOf_122 (lv_at hl 3 rfl) ?_
      refine lv_if_ne (tgt := 129) hx hb dM_scrubOf_124 rfl (fun h13 => ?_) (fun h13 => ?_)
      · have hf := in_ hf h13
        exact bk129 w c0 x1 x3 x4 _ _ _ (lv_sub hl [0, 1, 2, 3] rfl) hI hf
      · have hf := ip_ hf h13
        refine lv_iconst hx hb dM_scrubOf_127 kI_1 ?_
        exact hret _ _ _ _ _ _ hI hf dM_scrubOf_128
  have bk7 : ∀ (K7 : Wo → Nat → Int32 → Int32 → Int32 → Option (Wo × Int32)), (∀ (w : Wo) (c0 : Nat) (x1 : Int32) (x2 : Int32) (x3 : Int32) (H : Heap) (locs : List Loc) (ls : Array Slot), lv_has ls 6 [(0, .ref (ad c0)), (1, .int x1), (2, .int x2), (3, .int x3)] → Iv (Aa Λ ad) G kA kL Λ ad w s H locs → K7 w c0 x1 x2 x3 = some (w1, r) → W p l e rmM_scrubOf s m args below meth c H locs 0 0 Q (F0 m 7 ls [])) → ∀ (w : Wo) (c0 : Nat) (x1 : Int32) (x2 : Int32) (x3 : Int32) (H : Heap) (locs : List Loc) (ls : Array Slot), lv_has ls 6 [(0, .ref (ad c0)), (1, .int x1), (2, .int x2), (3, .int x3)] → Iv (Aa Λ ad) G kA kL Λ ad w s H locs → bM_scrubOf_7s Λ K7 w c0 x1 x2 x3 = some (w1, r) → W p l e rmM_scrubOf s m args below meth c H locs 0 0 Q (F0 m 7 ls []) := by
    intro K7 hK7 w c0 x1 x2 x3 H locs ls hl hI hf
    unfold bM_scrubOf_7s at hf
    refine lv_iload_n hx hb dM_scrubOf_7 rfl (lv_at hl 3 rfl) ?_
    refine lv_iconst hx hb dM_scrubOf_8 kI_2 ?_
    refine lv_icmp_ge (tgt := 83) hx hb dM_scrubOf_9 rfl (fun h14 => ?_) (fun h14 => ?_)
    · have hf := ip_ hf h14
      refine lv_aload_n hx hb dM_scrubOf_83 rfl (lv_at hl 0 rfl) ?_
      refine lv_iconst hx hb dM_scrubOf_84 kI_0 ?_
      refine lv_iload_n hx hb dM_scrubOf_85 rfl (lv_at hl 1 rfl) ?_
      obtain ⟨q15, hq15, hf⟩ := ob_ hf
      refine r_ci (r_V (rest := []) (As := [.int 0, .int x1]) S hl hI (kM_verdictOf l G kA kL Λ ad w c0 0 x1 q15.1 q15.2 hq15) pkM_verdictOf kw_579 ks_M_verdictOf (fcM).1 (gd_some hq15).1 kw_577 ⟨rfl, rfl⟩ ⟨Nat.le_of_ble_eq_true rfl, Nat.le_of_ble_eq_true rfl⟩ rfl rfl (Nat.le_of_ble_eq_true rfl) ⟨Nat.zero_le _, Nat.zero_le _⟩ dM_scrubOf_86) hI (fun H locs hI => ?_)
      refine lv_istore_n hx hb (lv' := [(3, .int q15.2), (0, .ref (ad c0)), (1, .int x1), (2, .int x2)]) dM_scrubOf_89 rfl hl (Nat.le_of_ble_eq_true rfl) rfl (fun ls hl => ?_)
      refine lv_aload_n hx hb dM_scrubOf_90 rfl (lv_at hl 1 rfl) ?_
      refine lv_iconst hx hb dM_scrubOf_91 kI_1 ?_
      refine lv_iload_n hx hb dM_scrubOf_92 rfl (lv_at hl 2 rfl) ?_
      obtain ⟨q16, hq16, hf⟩ := ob_ hf
      refine r_ci (r_V (rest := []) (As := [.int 1, .int x1]) S hl hI (kM_verdictOf l G kA kL Λ ad q15.1 c0 1 x1 q16.1 q16.2 hq16) pkM_verdictOf kw_579 ks_M_verdictOf (fcM).1 (gd_some hq16).1 kw_577 ⟨rfl, rfl⟩ ⟨Nat.le_of_ble_eq_true rfl, Nat.le_of_ble_eq_true rfl⟩ rfl rfl (Nat.le_of_ble_eq_true rfl) ⟨Nat.zero_le _, Nat.zero_le _⟩ dM_scrubOf_93) hI (fun H locs hI => ?_)
      refine lv_istore hx hb (lv' := [(4, .int q16.2), (3, .int q15.2), (0, .ref (ad c0)), (1, .int x1), (2, .int x2)]) dM_scrubOf_96 hl (Nat.le_of_ble_eq_true rfl) rfl (fun ls hl => ?_)
      refine lv_iload_n hx hb dM_scrubOf_98 rfl (lv_at hl 1 rfl) ?_
      refine lv_if_eq (tgt := 118) hx hb dM_scrubOf_99 rfl (fun h17 => ?_) (fun h17 => ?_)
      · have hf := ip_ hf h17
        exact bk118 q16.1 c0 x1 q15.2 q16.2 _ _ _ (lv_sub hl [2, 3, 1, 0] rfl) hI hf
      · have hf := in_ hf h17
        refine lv_iload hx hb dM_scrubOf_102 (lv_at hl 0 rfl) ?_
        refine lv_if_eq (tgt := 118) hx hb dM_scrubOf_104 rfl (fun h18 => ?_) (fun h18 => ?_)
        · have hf := ip_ hf h18
          exact bk118 q16.1 c0 x1 q15.2 q16.2 _ _ _ (lv_sub hl [2, 3, 1, 0] rfl) hI hf
        · have hf := in_ hf h18
          refine lv_aload_n hx hb dM_scrubOf_107 rfl (lv_at hl 2 rfl) ?_
          refine lv_iload_n hx hb dM_scrubOf_108 rfl (lv_at hl 3 rfl) ?_
          refine lv_iconst hx hb dM_scrubOf_109 kI_m1 ?_
          refine lv_bipush hx hb dM_scrubOf_110 kB_7 ?_
          refine lv_iconst hx hb dM_scrubOf_112 kI_m1 ?_
          obtain ⟨w19, hw19, hf⟩ := ob_ hf
          refine r_cv (r_V (rest := []) (As := [.int x1, .int (-1), .int 7, .int (-1)]) S hl hI (kM_find l G kA kL Λ ad q16.1 c0 x1 (-1) 7 (-1) w19 hw19) pkM_find kw_667 ks_M_find (fcM).1 (gd_some hw19).1 kw_665 ⟨rfl, rfl⟩ ⟨Nat.le_of_ble_eq_true rfl, Nat.le_of_ble_eq_true rfl⟩ rfl rfl (Nat.le_of_ble_eq_true rfl) ⟨Nat.zero_le _, Nat.zero_le _⟩ dM_scrubOf_113) hI (fun H locs hI => ?_)
          refine lv_iconst hx hb dM_scrubOf_116 kI_1 ?_
          exact hret _ _ _ _ _ _ hI hf dM_scrubOf_117
    · have hf := in_ hf h14
      refine lv_aload_n hx hb dM_scrubOf_12 rfl (lv_at hl 0 rfl) ?_
      refine lv_iconst hx hb dM_scrubOf_13 kI_1 ?_
      refine lv_iload_n hx hb dM_scrubOf_14 rfl (lv_at hl 3 rfl) ?_
      refine lv_isub hx hb dM_scrubOf_15 ?_
      refine lv_iload_n hx hb dM_scrubOf_16 rfl (lv_at hl 2 rfl) ?_
      obtain ⟨q20, hq20, hf⟩ := ob_ hf
      refine r_ci (r_V (rest := []) (As := [.int (1 - x3), .int x2]) S hl hI (kM_isRightPage l G kA kL Λ ad w c0 (1 - x3) x2 q20.1 q20.2 hq20) pkM_isRightPage kw_591 ks_M_isRightPage (fcM).1 (gd_some hq20).1 kw_589 ⟨rfl, rfl⟩ ⟨Nat.le_of_ble_eq_true rfl, Nat.le_of_ble_eq_true rfl⟩ rfl rfl (Nat.le_of_ble_eq_true rfl) ⟨Nat.zero_le _, Nat.zero_le _⟩ dM_scrubOf_17) hI (fun H locs hI => ?_)
      refine lv_if_ne (tgt := 77) hx hb dM_scrubOf_20 rfl (fun h21 => ?_) (fun h21 => ?_)
      · have hf := in_ hf h21
        exact bk77 K7 hK7 q20.1 c0 x1 x2 x3 _ _ _ (lv_sub hl [0, 1, 2, 3] rfl) hI hf
      · have hf := ip_ hf h21
        refine lv_aload_n hx hb dM_scrubOf_23 rfl (lv_at hl 0 rfl) ?_
        refine lv_iload_n hx hb dM_scrubOf_24 rfl (lv_at hl 3 rfl) ?_
        refine lv_iload_n hx hb dM_scrubOf_25 rfl (lv_at hl 2 rfl) ?_
        obtain ⟨q22, hq22, hf⟩ := ob_ hf
        refine r_ci (r_V (rest := []) (As := [.int x3, .int x2]) S hl hI (kM_isRightPage l G kA kL Λ ad q20.1 c0 x3 x2 q22.1 q22.2 hq22) pkM_isRightPage kw_591 ks_M_isRightPage (fcM).1 (gd_some hq22).1 kw_589 ⟨rfl, rfl⟩ ⟨Nat.le_of_ble_eq_true rfl, Nat.le_of_ble_eq_true rfl⟩ rfl rfl (Nat.le_of_ble_eq_true rfl) ⟨Nat.zero_le _, Nat.zero_le _⟩ dM_scrubOf_26) hI (fun H locs hI => ?_)
        refine lv_if_eq (tgt := 77) hx hb dM_scrubOf_29 rfl (fun h23 => ?_) (fun h23 => ?_)
        · have hf := ip_ hf h23
          exact bk77 K7 hK7 q22.1 c0 x1 x2 x3 _ _ _ (lv_sub hl [0, 1, 2, 3] rfl) hI hf
        · have hf := in_ hf h23
          refine lv_aload_n hx hb dM_scrubOf_32 rfl (lv_at hl 0 rfl) ?_
          refine lv_iload_n hx hb dM_scrubOf_33 rfl (lv_at hl 1 rfl) ?_
          refine lv_iconst hx hb dM_scrubOf_34 kI_1 ?_
          refine lv_iload_n hx hb dM_scrubOf_35 rfl (lv_at hl 3 rfl) ?_
          refine lv_isub hx hb dM_scrubOf_36 ?_
          refine lv_bipush hx hb dM_scrubOf_37 kB_6 ?_
          refine lv_aload_n hx hb dM_scrubOf_39 rfl (lv_at hl 0 rfl) ?_
          obtain ⟨r24, hr24, hf⟩ := ob_ hf
          refine r_getr (i := 1) S hI fcM (Nat.le_of_ble_eq_true rfl) kw_502 dM_scrubOf_40 hr24 ?_
          refine lv_iconst hx hb dM_scrubOf_43 kI_1 ?_
          refine lv_iload_n hx hb dM_scrubOf_44 rfl (lv_at hl 3 rfl) ?_
          refine lv_isub hx hb dM_scrubOf_45 ?_
          refine lv_bipush hx hb dM_scrubOf_46 kB_64 ?_
          refine lv_iload_n hx hb dM_scrubOf_48 rfl (lv_at hl 2 rfl) ?_
          refine lv_iadd hx hb dM_scrubOf_49 ?_
          obtain ⟨q25, hq25, hf⟩ := ob_ hf
          refine r_ci (r_S (rest := [.ref (ad r24), .int 6, .int (1 - x3), .int x1, .ref (ad c0)]) (As := [.int (1 - x3), .int (64 + x2)]) S hl hI (kM_place l G kA kL Λ ad q22.1 (1 - x3) (64 + x2) q25.1 q25.2 hq25) pkM_place kw_492 kw_491 ⟨rfl, rfl⟩ ⟨Nat.le_of_ble_eq_true rfl, Nat.le_of_ble_eq_true rfl⟩ rfl rfl (Nat.le_of_ble_eq_true rfl) ⟨Nat.zero_le _, Nat.zero_le _⟩ dM_scrubOf_50) hI (fun H locs hI => ?_)
          refine lv_bipush hx hb dM_scrubOf_53 kB_9 ?_
          refine lv_iadd hx hb dM_scrubOf_55 ?_
          obtain ⟨v26, hv26, hf⟩ := ob_ hf
          refine r_ald S hI dM_scrubOf_56 hv26 ?_
          obtain ⟨w27, hw27, hf⟩ := ob_ hf
          refine r_cv (r_V (rest := []) (As := [.int x1, .int (1 - x3), .int 6, .int v26]) S hl hI (kM_find l G kA kL Λ ad q25.1 c0 x1 (1 - x3) 6 v26 w27 hw27) pkM_find kw_667 ks_M_find (fcM).1 (gd_some hw27).1 kw_665 ⟨rfl, rfl⟩ ⟨Nat.le_of_ble_eq_true rfl, Nat.le_of_ble_eq_true rfl⟩ rfl rfl (Nat.le_of_ble_eq_true rfl) ⟨Nat.zero_le _, Nat.zero_le _⟩ dM_scrubOf_57) hI (fun H locs hI => ?_)
          refine lv_aload_n hx hb dM_scrubOf_60 rfl (lv_at hl 0 rfl) ?_
          refine lv_iload_n hx hb dM_scrubOf_61 rfl (lv_at hl 3 rfl) ?_
          refine lv_iload_n hx hb dM_scrubOf_62 rfl (lv_at hl 1 rfl) ?_
          refine lv_aload_n hx hb dM_scrubOf_63 rfl (lv_at hl 0 rfl) ?_
          refine lv_iload_n hx hb dM_scrubOf_64 rfl (lv_at hl 3 rfl) ?_
          refine lv_iload_n hx hb dM_scrubOf_65 rfl (lv_at hl 1 rfl) ?_
          obtain ⟨q28, hq28, hf⟩ := ob_ hf
          refine r_ci (r_V (rest := [.int x1, .int x3, .ref (ad c0)]) (As := [.int x3, .int x1]) S hl hI (kM_listed l G kA kL Λ ad w27 c0 x3 x1 q28.1 q28.2 hq28) pkM_listed kw_599 ks_M_listed (fcM).1 (gd_some hq28).1 kw_597 ⟨rfl, rfl⟩ ⟨Nat.le_of_ble_eq_true rfl, Nat.le_of_ble_eq_true rfl⟩ rfl rfl (Nat.le_of_ble_eq_true rfl) ⟨Nat.zero_le _, Nat.zero_le _⟩ dM_scrubOf_66) hI (fun H locs hI => ?_)
          obtain ⟨q29, hq29, hf⟩ := ob_ hf
          refine r_ci (r_V (rest := []) (As := [.int x3, .int x1, .int q28.2]) S hl hI (kM_storeList l G kA kL Λ ad q28.1 c0 x3 x1 q28.2 q29.1 q29.2 hq29) pkM_storeList kw_635 ks_M_storeList (fcM).1 (gd_some hq29).1 kw_633 ⟨rfl, rfl⟩ ⟨Nat.le_of_ble_eq_true rfl, Nat.le_of_ble_eq_true rfl⟩ rfl rfl (Nat.le_of_ble_eq_true rfl) ⟨Nat.zero_le _, Nat.zero_le _⟩ dM_scrubOf_69) hI (fun H locs hI => ?_)
          refine lv_if_ne (tgt := 77) hx hb dM_scrubOf_72 rfl (fun h30 => ?_) (fun h30 => ?_)
          · have hf := in_ hf h30
            exact bk77 K7 hK7 q29.1 c0 x1 x2 x3 _ _ _ (lv_sub hl [0, 1, 2, 3] rfl) hI hf
          · have hf := ip_ hf h30
            refine lv_iconst hx hb dM_scrubOf_75 kI_0 ?_
            exact hret _ _ _ _ _ _ hI hf dM_scrubOf_76
  have lp7 : ∀ (n : Nat), ∀ (w : Wo) (c0 : Nat) (x1 : Int32) (x2 : Int32) (x3 : Int32) (H : Heap) (locs : List Loc) (ls : Array Slot), lv_has ls 6 [(0, .ref (ad c0)), (1, .int x1), (2, .int x2), (3, .int x3)] → Iv (Aa Λ ad) G kA kL Λ ad w s H locs → bM_scrubOf_7 Λ n w c0 x1 x2 x3 = some (w1, r) → W p l e rmM_scrubOf s m args below meth c H locs 0 0 Q (F0 m 7 ls []) := by
    intro n
    induction n with
    | zero =>
      intro w c0 x1 x2 x3 H locs ls hl hI hf
      have hf : (none : Option (Wo × Int32)) = some (w1, r) := hf
      cases hf
    | succ n ih =>
      intro w c0 x1 x2 x3 H locs ls hl hI hf
      exact bk7 (bM_scrubOf_7 Λ n) ih w c0 x1 x2 x3 H locs ls hl hI hf
  unfold fM_scrubOf at hf
  have hf := (gd_some hf).2
  refine lv_iload_n hx hb dM_scrubOf_0 rfl (lv_at hl 1 rfl) ?_
  refine lv_bipush hx hb dM_scrubOf_1 kB_8 ?_
  refine lv_idiv hx hb dM_scrubOf_3 (by decide +kernel) ?_
  refine lv_istore_n hx hb (lv' := [(2, .int (x1 / 8)), (0, .ref (ad c0)), (1, .int x1)]) dM_scrubOf_4 rfl hl (Nat.le_of_ble_eq_true rfl) rfl (fun ls hl => ?_)
  refine lv_iconst hx hb dM_scrubOf_5 kI_0 ?_
  refine lv_istore_n hx hb (lv' := [(3, .int 0), (2, .int (x1 / 8)), (0, .ref (ad c0)), (1, .int x1)]) dM_scrubOf_6 rfl hl (Nat.le_of_ble_eq_true rfl) rfl (fun ls hl => ?_)
  exact lp7 1000 w c0 x1 (x1 / 8) 0 _ _ _ (lv_sub hl [2, 3, 1, 0] rfl) hI hf

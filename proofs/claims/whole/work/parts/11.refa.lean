/-! written by walk.py: the functions that the bytecode computes, and the walks -/
/-- GuardVolumeModel.place(II)I -/
abbrev rmM_place : Room := { frames := 0, cells := 0, slots := 0, locals := 0 }
theorem pkM_place : Pk yM_place cM_place 2 (some .int) 2 := ⟨kw_493, kw_7, by decide +kernel, by decide +kernel, by decide +kernel⟩
def fM_place (Λ : La) (w : Wo) (x0 : Int32) (x1 : Int32) : Option (Wo × Int32) := some (w, (11 * ((72 * x0) + x1)))
set_option maxHeartbeats 4000000 in
set_option maxRecDepth 100000 in
theorem kM_place (l : Launch) (G : va_G) (kA kL : ClassId) (Λ : La) (ad : Nat → Nat) (w : Wo) (x0 : Int32) (x1 : Int32) (w1 : Wo) (r : Int32) (hf : fM_place Λ w x0 x1 = some (w1, r)) : Mi l yM_place cM_place 2 (some .int) rmM_place G kA kL Λ ad [.int x0, .int x1] w w1 r := by
  refine Mi.of (by decide +kernel) (Nat.le_of_ble_eq_true rfl) ?_
  intro p e s m args below meth c Q ls S hret hl hI
  have S : CallFix p m c cM_place 2 s args (.code yM_place cM_place 2 (some .int) :: gW) "GuardVolumeModel" := S
  have hl : lv_has ls 2 [(0, .int x0), (1, .int x1)] := hl
  have hx := S.1
  have hb := S.2.1
  unfold fM_place at hf
  refine lv_bipush hx hb dM_place_0 kB_11 ?_
  refine lv_bipush hx hb dM_place_2 kB_72 ?_
  refine lv_iload_n hx hb dM_place_4 rfl (lv_at hl 0 rfl) ?_
  refine lv_imul hx hb dM_place_5 ?_
  refine lv_iload_n hx hb dM_place_6 rfl (lv_at hl 1 rfl) ?_
  refine lv_iadd hx hb dM_place_7 ?_
  refine lv_imul hx hb dM_place_8 ?_
  exact hret _ _ _ _ _ _ hI hf dM_place_9
/-- GuardVolumeModel.mix(II)I -/
abbrev rmM_mix : Room := { frames := 0, cells := 0, slots := 0, locals := 0 }
theorem pkM_mix : Pk yM_mix cM_mix 2 (some .int) 2 := ⟨kw_500, kw_7, by decide +kernel, by decide +kernel, by decide +kernel⟩
def fM_mix (Λ : La) (w : Wo) (x0 : Int32) (x1 : Int32) : Option (Wo × Int32) := some (w, (((x0 <<< (5 &&& 31)) ||| (ush x0 27)) + x1))
set_option maxHeartbeats 4000000 in
set_option maxRecDepth 100000 in
theorem kM_mix (l : Launch) (G : va_G) (kA kL : ClassId) (Λ : La) (ad : Nat → Nat) (w : Wo) (x0 : Int32) (x1 : Int32) (w1 : Wo) (r : Int32) (hf : fM_mix Λ w x0 x1 = some (w1, r)) : Mi l yM_mix cM_mix 2 (some .int) rmM_mix G kA kL Λ ad [.int x0, .int x1] w w1 r := by
  refine Mi.of (by decide +kernel) (Nat.le_of_ble_eq_true rfl) ?_
  intro p e s m args below meth c Q ls S hret hl hI
  have S : CallFix p m c cM_mix 2 s args (.code yM_mix cM_mix 2 (some .int) :: gW) "GuardVolumeModel" := S
  have hl : lv_has ls 2 [(0, .int x0), (1, .int x1)] := hl
  have hx := S.1
  have hb := S.2.1
  unfold fM_mix at hf
  refine lv_iload_n hx hb dM_mix_0 rfl (lv_at hl 0 rfl) ?_
  refine lv_iconst hx hb dM_mix_1 kI_5 ?_
  refine lv_ishl hx hb dM_mix_2 ?_
  refine lv_iload_n hx hb dM_mix_3 rfl (lv_at hl 0 rfl) ?_
  refine lv_bipush hx hb dM_mix_4 kB_27 ?_
  refine lv_iushr hx hb dM_mix_6 (ush_ok _ _) ?_
  refine lv_ior hx hb dM_mix_7 ?_
  refine lv_iload_n hx hb dM_mix_8 rfl (lv_at hl 1 rfl) ?_
  refine W.eq (g2 := F0 m 9 ls _) rfl ?_
  refine lv_iadd hx hb dM_mix_9 ?_
  exact hret _ _ _ _ _ _ hI hf dM_mix_10
/-- GuardVolumeModel.sumAt(I)I -/
abbrev rmM_sumAt : Room := { frames := 1, cells := 0, slots := 0, locals := 21 }
theorem pkM_sumAt : Pk yM_sumAt cM_sumAt 4 (some .int) 1 := ⟨kw_497, kw_7, by decide +kernel, by decide +kernel, by decide +kernel⟩
def bM_sumAt_4s (Λ : La) (K4 : Wo → Nat → Int32 → Int32 → Int32 → Option (Wo × Int32)) (w : Wo) (c0 : Nat) (x1 : Int32) (x2 : Int32) (x3 : Int32) : Option (Wo × Int32) := if 8 ≤ x3 then ((gr Λ c0 5 1).bind fun r2 => (ld Λ w r2 (x1 + 9)).bind fun v3 => (fM_mix Λ w x2 v3).bind fun q4 => (gr Λ c0 5 1).bind fun r5 => (ld Λ q4.1 r5 (x1 + 10)).bind fun v6 => (fM_mix Λ q4.1 q4.2 v6).bind fun q7 => some (q7.1, q7.2)) else ((gr Λ c0 5 1).bind fun r8 => (ld Λ w r8 (x1 + x3)).bind fun v9 => (fM_mix Λ w x2 v9).bind fun q10 => K4 q10.1 c0 x1 q10.2 (x3 + 1))
def bM_sumAt_4 (Λ : La) : Nat → Wo → Nat → Int32 → Int32 → Int32 → Option (Wo × Int32)
  | 0 => fun _ _ _ _ _ => none
  | n + 1 => bM_sumAt_4s Λ (bM_sumAt_4 Λ n)
def fM_sumAt (Λ : La) (w : Wo) (c0 : Nat) (x1 : Int32) : Option (Wo × Int32) := gd (isC Λ c0 5) (bM_sumAt_4 Λ 1000 w c0 x1 0 0)
set_option maxHeartbeats 4000000 in
set_option maxRecDepth 100000 in
theorem kM_sumAt (l : Launch) (G : va_G) (kA kL : ClassId) (Λ : La) (ad : Nat → Nat) (w : Wo) (c0 : Nat) (x1 : Int32) (w1 : Wo) (r : Int32) (hf : fM_sumAt Λ w c0 x1 = some (w1, r)) : Mi l yM_sumAt cM_sumAt 4 (some .int) rmM_sumAt G kA kL Λ ad [.ref (ad c0), .int x1] w w1 r := by
  refine Mi.of (by decide +kernel) (Nat.le_of_ble_eq_true rfl) ?_
  intro p e s m args below meth c Q ls S hret hl hI
  have S : CallFix p m c cM_sumAt 4 s args (.code yM_sumAt cM_sumAt 4 (some .int) :: gW) "GuardVolumeModel" := S
  have hl : lv_has ls 4 [(0, .ref (ad c0)), (1, .int x1)] := hl
  have hx := S.1
  have hb := S.2.1
  have bk4 : ∀ (K4 : Wo → Nat → Int32 → Int32 → Int32 → Option (Wo × Int32)), (∀ (w : Wo) (c0 : Nat) (x1 : Int32) (x2 : Int32) (x3 : Int32) (H : Heap) (locs : List Loc) (ls : Array Slot), lv_has ls 4 [(0, .ref (ad c0)), (1, .int x1), (2, .int x2), (3, .int x3)] → Iv (Aa Λ ad) G kA kL Λ ad w s H locs → K4 w c0 x1 x2 x3 = some (w1, r) → W p l e rmM_sumAt s m args below meth c H locs 0 0 Q (F0 m 4 ls [])) → ∀ (w : Wo) (c0 : Nat) (x1 : Int32) (x2 : Int32) (x3 : Int32) (H : Heap) (locs : List Loc) (ls : Array Slot), lv_has ls 4 [(0, .ref (ad c0)), (1, .int x1), (2, .int x2), (3, .int x3)] → Iv (Aa Λ ad) G kA kL Λ ad w s H locs → bM_sumAt_4s Λ K4 w c0 x1 x2 x3 = some (w1, r) → W p l e rmM_sumAt s m args below meth c H locs 0 0 Q (F0 m 4 ls []) := by
    intro K4 hK4 w c0 x1 x2 x3 H locs ls hl hI hf
    unfold bM_sumAt_4s at hf
    refine lv_iload_n hx hb dM_sumAt_4 rfl (lv_at hl 3 rfl) ?_
    refine lv_bipush hx hb dM_sumAt_5 kB_8 ?_
    refine lv_icmp_ge (tgt := 29) hx hb dM_sumAt_7 rfl (fun h1 => ?_) (fun h1 => ?_)
    · have hf := ip_ hf h1
      refine lv_iload_n hx hb dM_sumAt_29 rfl (lv_at hl 2 rfl) ?_
      refine lv_aload_n hx hb dM_sumAt_30 rfl (lv_at hl 0 rfl) ?_
      obtain ⟨r2, hr2, hf⟩ := ob_ hf
      refine r_getr (i := 1) S hI fcM (Nat.le_of_ble_eq_true rfl) kw_502 dM_sumAt_31 hr2 ?_
      refine lv_iload_n hx hb dM_sumAt_34 rfl (lv_at hl 1 rfl) ?_
      refine lv_bipush hx hb dM_sumAt_35 kB_9 ?_
      refine lv_iadd hx hb dM_sumAt_37 ?_
      obtain ⟨v3, hv3, hf⟩ := ob_ hf
      refine r_ald S hI dM_sumAt_38 hv3 ?_
      obtain ⟨q4, hq4, hf⟩ := ob_ hf
      refine r_ci (r_S (rest := []) (As := [.int x2, .int v3]) S hl hI (kM_mix l G kA kL Λ ad w x2 v3 q4.1 q4.2 hq4) pkM_mix kw_499 kw_498 ⟨rfl, rfl⟩ ⟨Nat.le_of_ble_eq_true rfl, Nat.le_of_ble_eq_true rfl⟩ rfl rfl (Nat.le_of_ble_eq_true rfl) ⟨Nat.zero_le _, Nat.zero_le _⟩ dM_sumAt_39) hI (fun H locs hI => ?_)
      refine lv_aload_n hx hb dM_sumAt_42 rfl (lv_at hl 0 rfl) ?_
      obtain ⟨r5, hr5, hf⟩ := ob_ hf
      refine r_getr (i := 1) S hI fcM (Nat.le_of_ble_eq_true rfl) kw_502 dM_sumAt_43 hr5 ?_
      refine lv_iload_n hx hb dM_sumAt_46 rfl (lv_at hl 1 rfl) ?_
      refine lv_bipush hx hb dM_sumAt_47 kB_10 ?_
      refine lv_iadd hx hb dM_sumAt_49 ?_
      obtain ⟨v6, hv6, hf⟩ := ob_ hf
      refine r_ald S hI dM_sumAt_50 hv6 ?_
      obtain ⟨q7, hq7, hf⟩ := ob_ hf
      refine r_ci (r_S (rest := []) (As := [.int q4.2, .int v6]) S hl hI (kM_mix l G kA kL Λ ad q4.1 q4.2 v6 q7.1 q7.2 hq7) pkM_mix kw_499 kw_498 ⟨rfl, rfl⟩ ⟨Nat.le_of_ble_eq_true rfl, Nat.le_of_ble_eq_true rfl⟩ rfl rfl (Nat.le_of_ble_eq_true rfl) ⟨Nat.zero_le _, Nat.zero_le _⟩ dM_sumAt_51) hI (fun H locs hI => ?_)
      exact hret _ _ _ _ _ _ hI hf dM_sumAt_54
    · have hf := in_ hf h1
      refine lv_iload_n hx hb dM_sumAt_10 rfl (lv_at hl 2 rfl) ?_
      refine lv_aload_n hx hb dM_sumAt_11 rfl (lv_at hl 0 rfl) ?_
      obtain ⟨r8, hr8, hf⟩ := ob_ hf
      refine r_getr (i := 1) S hI fcM (Nat.le_of_ble_eq_true rfl) kw_502 dM_sumAt_12 hr8 ?_
      refine lv_iload_n hx hb dM_sumAt_15 rfl (lv_at hl 1 rfl) ?_
      refine lv_iload_n hx hb dM_sumAt_16 rfl (lv_at hl 3 rfl) ?_
      refine lv_iadd hx hb dM_sumAt_17 ?_
      obtain ⟨v9, hv9, hf⟩ := ob_ hf
      refine r_ald S hI dM_sumAt_18 hv9 ?_
      obtain ⟨q10, hq10, hf⟩ := ob_ hf
      refine r_ci (r_S (rest := []) (As := [.int x2, .int v9]) S hl hI (kM_mix l G kA kL Λ ad w x2 v9 q10.1 q10.2 hq10) pkM_mix kw_499 kw_498 ⟨rfl, rfl⟩ ⟨Nat.le_of_ble_eq_true rfl, Nat.le_of_ble_eq_true rfl⟩ rfl rfl (Nat.le_of_ble_eq_true rfl) ⟨Nat.zero_le _, Nat.zero_le _⟩ dM_sumAt_19) hI (fun H locs hI => ?_)
      refine lv_istore_n hx hb (lv' := [(2, .int q10.2), (0, .ref (ad c0)), (1, .int x1), (3, .int x3)]) dM_sumAt_22 rfl hl (Nat.le_of_ble_eq_true rfl) rfl (fun ls hl => ?_)
      refine lv_iinc hx hb (lv' := [(3, .int (x3 + 1)), (2, .int q10.2), (0, .ref (ad c0)), (1, .int x1)]) (k := 3) dM_sumAt_23 hl rfl (kN_1 _) (Nat.le_of_ble_eq_true rfl) rfl (fun ls hl => ?_)
      refine lv_goto (tgt := 4) hx hb dM_sumAt_26 rfl ?_
      exact hK4 q10.1 c0 x1 q10.2 (x3 + 1) _ _ _ (lv_sub hl [2, 3, 1, 0] rfl) hI hf
  have lp4 : ∀ (n : Nat), ∀ (w : Wo) (c0 : Nat) (x1 : Int32) (x2 : Int32) (x3 : Int32) (H : Heap) (locs : List Loc) (ls : Array Slot), lv_has ls 4 [(0, .ref (ad c0)), (1, .int x1), (2, .int x2), (3, .int x3)] → Iv (Aa Λ ad) G kA kL Λ ad w s H locs → bM_sumAt_4 Λ n w c0 x1 x2 x3 = some (w1, r) → W p l e rmM_sumAt s m args below meth c H locs 0 0 Q (F0 m 4 ls []) := by
    intro n
    induction n with
    | zero =>
      intro w c0 x1 x2 x3 H locs ls hl hI hf
      have hf : (none : Option (Wo × Int32)) = some (w1, r) := hf
      cases hf
    | succ n ih =>
      intro w c0 x1 x2 x3 H locs ls hl hI hf
      exact bk4 (bM_sumAt_4 Λ n) ih w c0 x1 x2 x3 H locs ls hl hI hf
  unfold fM_sumAt at hf
  have hf := (gd_some hf).2
  refine lv_iconst hx hb dM_sumAt_0 kI_0 ?_
  refine lv_istore_n hx hb (lv' := [(2, .int 0), (0, .ref (ad c0)), (1, .int x1)]) dM_sumAt_1 rfl hl (Nat.le_of_ble_eq_true rfl) rfl (fun ls hl => ?_)
  refine lv_iconst hx hb dM_sumAt_2 kI_0 ?_
  refine lv_istore_n hx hb (lv' := [(3, .int 0), (2, .int 0), (0, .ref (ad c0)), (1, .int x1)]) dM_sumAt_3 rfl hl (Nat.le_of_ble_eq_true rfl) rfl (fun ls hl => ?_)
  exact lp4 1000 w c0 x1 0 0 _ _ _ (lv_sub hl [2, 3, 1, 0] rfl) hI hf
/-- GuardVolumeModel.thrown()I -/
abbrev rmM_thrown : Room := { frames := 0, cells := 0, slots := 0, locals := 0 }
theorem pkM_thrown : Pk yM_thrown cM_thrown 1 (some .int) 0 := ⟨kw_565, kw_7, by decide +kernel, by decide +kernel, by decide +kernel⟩
def fM_thrown (Λ : La) (w : Wo) (c0 : Nat) : Option (Wo × Int32) := gd (isC Λ c0 5) ((gi Λ w c0 5 0).bind fun v1 => some (w, v1))
set_option maxHeartbeats 4000000 in
set_option maxRecDepth 100000 in
theorem kM_thrown (l : Launch) (G : va_G) (kA kL : ClassId) (Λ : La) (ad : Nat → Nat) (w : Wo) (c0 : Nat) (w1 : Wo) (r : Int32) (hf : fM_thrown Λ w c0 = some (w1, r)) : Mi l yM_thrown cM_thrown 1 (some .int) rmM_thrown G kA kL Λ ad [.ref (ad c0)] w w1 r := by
  refine Mi.of (by decide +kernel) (Nat.le_of_ble_eq_true rfl) ?_
  intro p e s m args below meth c Q ls S hret hl hI
  have S : CallFix p m c cM_thrown 1 s args (.code yM_thrown cM_thrown 1 (some .int) :: gW) "GuardVolumeModel" := S
  have hl : lv_has ls 1 [(0, .ref (ad c0))] := hl
  have hx := S.1
  have hb := S.2.1
  unfold fM_thrown at hf
  have hf := (gd_some hf).2
  refine lv_aload_n hx hb dM_thrown_0 rfl (lv_at hl 0 rfl) ?_
  obtain ⟨v1, hv1, hf⟩ := ob_ hf
  refine r_geti (i := 0) S hI fcM (Nat.le_of_ble_eq_true rfl) kw_501 dM_thrown_1 hv1 ?_
  exact hret _ _ _ _ _ _ hI hf dM_thrown_4
/-- GuardVolumeModel.in(II)Z -/
abbrev rmM_in : Room := { frames := 0, cells := 0, slots := 0, locals := 0 }
theorem pkM_in : Pk yM_in cM_in 2 (some .boolean) 2 := ⟨kw_572, kw_7, by decide +kernel, by decide +kernel, by decide +kernel⟩
def fM_in (Λ : La) (w : Wo) (x0 : Int32) (x1 : Int32) : Option (Wo × Int32) := if x0 < 0 then (zr w 0) else (if x1 ≤ x0 then (zr w 0) else (zr w 1))
set_option maxHeartbeats 4000000 in
set_option maxRecDepth 100000 in
theorem kM_in (l : Launch) (G : va_G) (kA kL : ClassId) (Λ : La) (ad : Nat → Nat) (w : Wo) (x0 : Int32) (x1 : Int32) (w1 : Wo) (r : Int32) (hf : fM_in Λ w x0 x1 = some (w1, r)) : Mi l yM_in cM_in 2 (some .boolean) rmM_in G kA kL Λ ad [.int x0, .int x1] w w1 r := by
  refine Mz.of (by decide +kernel) (Nat.le_of_ble_eq_true rfl) ?_
  intro p e s m args below meth c Q ls S hret hl hI
  have S : CallFix p m c cM_in 2 s args (.code yM_in cM_in 2 (some .boolean) :: gW) "GuardVolumeModel" := S
  have hl : lv_has ls 2 [(0, .int x0), (1, .int x1)] := hl
  have hx := S.1
  have hb := S.2.1
  unfold fM_in at hf
  refine lv_iload_n hx hb dM_in_0 rfl (lv_at hl 0 rfl) ?_
  refine lv_if_lt (tgt := 13) hx hb dM_in_1 rfl (fun h1 => ?_) (fun h1 => ?_)
  · have hf := ip_ hf h1
    refine lv_iconst hx hb dM_in_13 kI_0 ?_
    exact hret _ _ _ _ _ _ hI hf dM_in_14
  · have hf := in_ hf h1
    refine lv_iload_n hx hb dM_in_4 rfl (lv_at hl 0 rfl) ?_
    refine lv_iload_n hx hb dM_in_5 rfl (lv_at hl 1 rfl) ?_
    refine lv_icmp_ge (tgt := 13) hx hb dM_in_6 rfl (fun h2 => ?_) (fun h2 => ?_)
    · have hf := ip_ hf h2
      refine lv_iconst hx hb dM_in_13 kI_0 ?_
      exact hret _ _ _ _ _ _ hI hf dM_in_14
    · have hf := in_ hf h2
      refine lv_iconst hx hb dM_in_9 kI_1 ?_
      refine lv_goto (tgt := 14) hx hb dM_in_10 rfl ?_
      exact hret _ _ _ _ _ _ hI hf dM_in_14
/-- GuardVolumeModel.isWhole(II)Z -/
abbrev rmM_isWhole : Room := { frames := 2, cells := 0, slots := 0, locals := 44 }
theorem pkM_isWhole : Pk yM_isWhole cM_isWhole 4 (some .boolean) 2 := ⟨kw_584, kw_7, by decide +kernel, by decide +kernel, by decide +kernel⟩
def fM_isWhole (Λ : La) (w : Wo) (c0 : Nat) (x1 : Int32) (x2 : Int32) : Option (Wo × Int32) := gd (isC Λ c0 5) ((fM_place Λ w x1 x2).bind fun q1 => (gr Λ c0 5 1).bind fun r2 => (ld Λ q1.1 r2 (q1.2 + 8)).bind fun v3 => (fM_sumAt Λ q1.1 c0 q1.2).bind fun q4 => if v3 = q4.2 then (zr q4.1 1) else (zr q4.1 0))
set_option maxHeartbeats 4000000 in
set_option maxRecDepth 100000 in
theorem kM_isWhole (l : Launch) (G : va_G) (kA kL : ClassId) (Λ : La) (ad : Nat → Nat) (w : Wo) (c0 : Nat) (x1 : Int32) (x2 : Int32) (w1 : Wo) (r : Int32) (hf : fM_isWhole Λ w c0 x1 x2 = some (w1, r)) : Mi l yM_isWhole cM_isWhole 4 (some .boolean) rmM_isWhole G kA kL Λ ad [.ref (ad c0), .int x1, .int x2] w w1 r := by
  refine Mz.of (by decide +kernel) (Nat.le_of_ble_eq_true rfl) ?_
  intro p e s m args below meth c Q ls S hret hl hI
  have S : CallFix p m c cM_isWhole 4 s args (.code yM_isWhole cM_isWhole 4 (some .boolean) :: gW) "GuardVolumeModel" := S
  have hl : lv_has ls 4 [(0, .ref (ad c0)), (1, .int x1), (2, .int x2)] := hl
  have hx := S.1
  have hb := S.2.1
  unfold fM_isWhole at hf
  have hf := (gd_some hf).2
  refine lv_iload_n hx hb dM_isWhole_0 rfl (lv_at hl 1 rfl) ?_
  refine lv_iload_n hx hb dM_isWhole_1 rfl (lv_at hl 2 rfl) ?_
  obtain ⟨q1, hq1, hf⟩ := ob_ hf
  refine r_ci (r_S (rest := []) (As := [.int x1, .int x2]) S hl hI (kM_place l G kA kL Λ ad w x1 x2 q1.1 q1.2 hq1) pkM_place kw_492 kw_491 ⟨rfl, rfl⟩ ⟨Nat.le_of_ble_eq_true rfl, Nat.le_of_ble_eq_true rfl⟩ rfl rfl (Nat.le_of_ble_eq_true rfl) ⟨Nat.zero_le _, Nat.zero_le _⟩ dM_isWhole_2) hI (fun H locs hI => ?_)
  refine lv_istore_n hx hb (lv' := [(3, .int q1.2), (0, .ref (ad c0)), (1, .int x1), (2, .int x2)]) dM_isWhole_5 rfl hl (Nat.le_of_ble_eq_true rfl) rfl (fun ls hl => ?_)
  refine lv_aload_n hx hb dM_isWhole_6 rfl (lv_at hl 1 rfl) ?_
  obtain ⟨r2, hr2, hf⟩ := ob_ hf
  refine r_getr (i := 1) S hI fcM (Nat.le_of_ble_eq_true rfl) kw_502 dM_isWhole_7 hr2 ?_
  refine lv_iload_n hx hb dM_isWhole_10 rfl (lv_at hl 0 rfl) ?_
  refine lv_bipush hx hb dM_isWhole_11 kB_8 ?_
  refine lv_iadd hx hb dM_isWhole_13 ?_
  obtain ⟨v3, hv3, hf⟩ := ob_ hf
  refine r_ald S hI dM_isWhole_14 hv3 ?_
  refine lv_aload_n hx hb dM_isWhole_15 rfl (lv_at hl 1 rfl) ?_
  refine lv_iload_n hx hb dM_isWhole_16 rfl (lv_at hl 0 rfl) ?_
  obtain ⟨q4, hq4, hf⟩ := ob_ hf
  refine r_ci (r_V (rest := [.int v3]) (As := [.int q1.2]) S hl hI (kM_sumAt l G kA kL Λ ad q1.1 c0 q1.2 q4.1 q4.2 hq4) pkM_sumAt kw_496 ks_M_sumAt (fcM).1 (gd_some hq4).1 kw_494 ⟨rfl, rfl⟩ ⟨Nat.le_of_ble_eq_true rfl, Nat.le_of_ble_eq_true rfl⟩ rfl rfl (Nat.le_of_ble_eq_true rfl) ⟨Nat.zero_le _, Nat.zero_le _⟩ dM_isWhole_17) hI (fun H locs hI => ?_)
  refine lv_icmp_ne (tgt := 27) hx hb dM_isWhole_20 rfl (fun h5 => ?_) (fun h5 => ?_)
  · have hf := in_ hf h5
    refine lv_iconst hx hb dM_isWhole_27 kI_0 ?_
    exact hret _ _ _ _ _ _ hI hf dM_isWhole_28
  · have hf := ip_ hf h5
    refine lv_iconst hx hb dM_isWhole_23 kI_1 ?_
    refine lv_goto (tgt := 28) hx hb dM_isWhole_24 rfl ?_
    exact hret _ _ _ _ _ _ hI hf dM_isWhole_28
/-- GuardVolumeModel.isRightPage(II)Z -/
abbrev rmM_isRightPage : Room := { frames := 3, cells := 0, slots := 0, locals := 67 }
theorem pkM_isRightPage : Pk yM_isRightPage cM_isRightPage 4 (some .boolean) 2 := ⟨kw_592, kw_7, by decide +kernel, by decide +kernel, by decide +kernel⟩
def fM_isRightPage (Λ : La) (w : Wo) (c0 : Nat) (x1 : Int32) (x2 : Int32) : Option (Wo × Int32) := gd (isC Λ c0 5) ((fM_place Λ w x1 (64 + x2)).bind fun q1 => (fM_isWhole Λ q1.1 c0 x1 (64 + x2)).bind fun q2 => if q2.2 = 0 then (zr q2.1 0) else ((gr Λ c0 5 1).bind fun r4 => (ld Λ q2.1 r4 (q1.2 + 9)).bind fun v5 => if v5 = (64 + x2) then ((gr Λ c0 5 1).bind fun r7 => (ld Λ q2.1 r7 (q1.2 + 10)).bind fun v8 => (gr Λ c0 5 2).bind fun r9 => (ld Λ q2.1 r9 ((8 * x1) + x2)).bind fun v10 => if v8 = v10 then (zr q2.1 1) else (zr q2.1 0)) else (zr q2.1 0)))
set_option maxHeartbeats 4000000 in
set_option maxRecDepth 100000 in
theorem kM_isRightPage (l : Launch) (G : va_G) (kA kL : ClassId) (Λ : La) (ad : Nat → Nat) (w : Wo) (c0 : Nat) (x1 : Int32) (x2 : Int32) (w1 : Wo) (r : Int32) (hf : fM_isRightPage Λ w c0 x1 x2 = some (w1, r)) : Mi l yM_isRightPage cM_isRightPage 4 (some .boolean) rmM_isRightPage G kA kL Λ ad [.ref (ad c0), .int x1, .int x2] w w1 r := by
  refine Mz.of (by decide +kernel) (Nat.le_of_ble_eq_true rfl) ?_
  intro p e s m args below meth c Q ls S hret hl hI
  have S : CallFix p m c cM_isRightPage 4 s args (.code yM_isRightPage cM_isRightPage 4 (some .boolean) :: gW) "GuardVolumeModel" := S
  have hl : lv_has ls 4 [(0, .ref (ad c0)), (1, .int x1), (2, .int x2)] := hl
  have hx := S.1
  have hb := S.2.1
  unfold fM_isRightPage at hf
  have hf := (gd_some hf).2
  refine lv_iload_n hx hb dM_isRightPage_0 rfl (lv_at hl 1 rfl) ?_
  refine lv_bipush hx hb dM_isRightPage_1 kB_64 ?_
  refine lv_iload_n hx hb dM_isRightPage_3 rfl (lv_at hl 2 rfl) ?_
  refine lv_iadd hx hb dM_isRightPage_4 ?_
  obtain ⟨q1, hq1, hf⟩ := ob_ hf
  refine r_ci (r_S (rest := []) (As := [.int x1, .int (64 + x2)]) S hl hI (kM_place l G kA kL Λ ad w x1 (64 + x2) q1.1 q1.2 hq1) pkM_place kw_492 kw_491 ⟨rfl, rfl⟩ ⟨Nat.le_of_ble_eq_true rfl, Nat.le_of_ble_eq_true rfl⟩ rfl rfl (Nat.le_of_ble_eq_true rfl) ⟨Nat.zero_le _, Nat.zero_le _⟩ dM_isRightPage_5) hI (fun H locs hI => ?_)
  refine lv_istore_n hx hb (lv' := [(3, .int q1.2), (0, .ref (ad c0)), (1, .int x1), (2, .int x2)]) dM_isRightPage_8 rfl hl (Nat.le_of_ble_eq_true rfl) rfl (fun ls hl => ?_)
  refine lv_aload_n hx hb dM_isRightPage_9 rfl (lv_at hl 1 rfl) ?_
  refine lv_iload_n hx hb dM_isRightPage_10 rfl (lv_at hl 2 rfl) ?_
  refine lv_bipush hx hb dM_isRightPage_11 kB_64 ?_
  refine lv_iload_n hx hb dM_isRightPage_13 rfl (lv_at hl 3 rfl) ?_
  refine lv_iadd hx hb dM_isRightPage_14 ?_
  obtain ⟨q2, hq2, hf⟩ := ob_ hf
  refine r_ci (r_V (rest := []) (As := [.int x1, .int (64 + x2)]) S hl hI (kM_isWhole l G kA kL Λ ad q1.1 c0 x1 (64 + x2) q2.1 q2.2 hq2) pkM_isWhole kw_583 ks_M_isWhole (fcM).1 (gd_some hq2).1 kw_581 ⟨rfl, rfl⟩ ⟨Nat.le_of_ble_eq_true rfl, Nat.le_of_ble_eq_true rfl⟩ rfl rfl (Nat.le_of_ble_eq_true rfl) ⟨Nat.zero_le _, Nat.zero_le _⟩ dM_isRightPage_15) hI (fun H locs hI => ?_)
  refine lv_if_eq (tgt := 64) hx hb dM_isRightPage_18 rfl (fun h3 => ?_) (fun h3 => ?_)
  · have hf := ip_ hf h3
    refine lv_iconst hx hb dM_isRightPage_64 kI_0 ?_
    exact hret _ _ _ _ _ _ hI hf dM_isRightPage_65
  · have hf := in_ hf h3
    refine lv_aload_n hx hb dM_isRightPage_21 rfl (lv_at hl 1 rfl) ?_
    obtain ⟨r4, hr4, hf⟩ := ob_ hf
    refine r_getr (i := 1) S hI fcM (Nat.le_of_ble_eq_true rfl) kw_502 dM_isRightPage_22 hr4 ?_
    refine lv_iload_n hx hb dM_isRightPage_25 rfl (lv_at hl 0 rfl) ?_
    refine lv_bipush hx hb dM_isRightPage_26 kB_9 ?_
    refine lv_iadd hx hb dM_isRightPage_28 ?_
    obtain ⟨v5, hv5, hf⟩ := ob_ hf
    refine r_ald S hI dM_isRightPage_29 hv5 ?_
    refine lv_bipush hx hb dM_isRightPage_30 kB_64 ?_
    refine lv_iload_n hx hb dM_isRightPage_32 rfl (lv_at hl 3 rfl) ?_
    refine lv_iadd hx hb dM_isRightPage_33 ?_
    refine lv_icmp_ne (tgt := 64) hx hb dM_isRightPage_34 rfl (fun h6 => ?_) (fun h6 => ?_)
    · have hf := in_ hf h6
      refine lv_iconst hx hb dM_isRightPage_64 kI_0 ?_
      exact hret _ _ _ _ _ _ hI hf dM_isRightPage_65
    · have hf := ip_ hf h6
      refine lv_aload_n hx hb dM_isRightPage_37 rfl (lv_at hl 1 rfl) ?_
      obtain ⟨r7, hr7, hf⟩ := ob_ hf
      refine r_getr (i := 1) S hI fcM (Nat.le_of_ble_eq_true rfl) kw_502 dM_isRightPage_38 hr7 ?_
      refine lv_iload_n hx hb dM_isRightPage_41 rfl (lv_at hl 0 rfl) ?_
      refine lv_bipush hx hb dM_isRightPage_42 kB_10 ?_
      refine lv_iadd hx hb dM_isRightPage_44 ?_
      obtain ⟨v8, hv8, hf⟩ := ob_ hf
      refine r_ald S hI dM_isRightPage_45 hv8 ?_
      refine lv_aload_n hx hb dM_isRightPage_46 rfl (lv_at hl 1 rfl) ?_
      obtain ⟨r9, hr9, hf⟩ := ob_ hf
      refine r_getr (i := 2) S hI fcM (Nat.le_of_ble_eq_true rfl) kw_503 dM_isRightPage_47 hr9 ?_
      refine lv_bipush hx hb dM_isRightPage_50 kB_8 ?_
      refine lv_iload_n hx hb dM_isRightPage_52 rfl (lv_at hl 2 rfl) ?_
      refine lv_imul hx hb dM_isRightPage_53 ?_
      refine lv_iload_n hx hb dM_isRightPage_54 rfl (lv_at hl 3 rfl) ?_
      refine lv_iadd hx hb dM_isRightPage_55 ?_
      obtain ⟨v10, hv10, hf⟩ := ob_ hf
      refine r_ald S hI dM_isRightPage_56 hv10 ?_
      refine lv_icmp_ne (tgt := 64) hx hb dM_isRightPage_57 rfl (fun h11 => ?_) (fun h11 => ?_)
      · have hf := in_ hf h11
        refine lv_iconst hx hb dM_isRightPage_64 kI_0 ?_
        exact hret _ _ _ _ _ _ hI hf dM_isRightPage_65
      · have hf := ip_ hf h11
        refine lv_iconst hx hb dM_isRightPage_60 kI_1 ?_
        refine lv_goto (tgt := 65) hx hb dM_isRightPage_61 rfl ?_
        exact hret _ _ _ _ _ _ hI hf dM_isRightPage_65
/-- GuardVolumeModel.isUnknown(II)Z -/
abbrev rmM_isUnknown : Room := { frames := 4, cells := 0, slots := 0, locals := 90 }
theorem pkM_isUnknown : Pk yM_isUnknown cM_isUnknown 3 (some .boolean) 2 := ⟨kw_588, kw_7, by decide +kernel, by decide +kernel, by decide +kernel⟩
def fM_isUnknown (Λ : La) (w : Wo) (c0 : Nat) (x1 : Int32) (x2 : Int32) : Option (Wo × Int32) := gd (isC Λ c0 5) ((fM_isRightPage Λ w c0 (1 - x1) (x2 / 8)).bind fun q1 => if q1.2 = 0 then ((fM_isRightPage Λ q1.1 c0 x1 (x2 / 8)).bind fun q3 => if q3.2 = 0 then (zr q3.1 1) else (zr q3.1 0)) else (zr q1.1 0))
set_option maxHeartbeats 4000000 in
set_option maxRecDepth 100000 in
theorem kM_isUnknown (l : Launch) (G : va_G) (kA kL : ClassId) (Λ : La) (ad : Nat → Nat) (w : Wo) (c0 : Nat) (x1 : Int32) (x2 : Int32) (w1 : Wo) (r : Int32) (hf : fM_isUnknown Λ w c0 x1 x2 = some (w1, r)) : Mi l yM_isUnknown cM_isUnknown 3 (some .boolean) rmM_isUnknown G kA kL Λ ad [.ref (ad c0), .int x1, .int x2] w w1 r := by
  refine Mz.of (by decide +kernel) (Nat.le_of_ble_eq_true rfl) ?_
  intro p e s m args below meth c Q ls S hret hl hI
  have S : CallFix p m c cM_isUnknown 3 s args (.code yM_isUnknown cM_isUnknown 3 (some .boolean) :: gW) "GuardVolumeModel" := S
  have hl : lv_has ls 3 [(0, .ref (ad c0)), (1, .int x1), (2, .int x2)] := hl
  have hx := S.1
  have hb := S.2.1
  unfold fM_isUnknown at hf
  have hf := (gd_some hf).2
  refine lv_aload_n hx hb dM_isUnknown_0 rfl (lv_at hl 0 rfl) ?_
  refine lv_iconst hx hb dM_isUnknown_1 kI_1 ?_
  refine lv_iload_n hx hb dM_isUnknown_2 rfl (lv_at hl 1 rfl) ?_
  refine lv_isub hx hb dM_isUnknown_3 ?_
  refine lv_iload_n hx hb dM_isUnknown_4 rfl (lv_at hl 2 rfl) ?_
  refine lv_bipush hx hb dM_isUnknown_5 kB_8 ?_
  refine lv_idiv hx hb dM_isUnknown_7 (by decide +kernel) ?_
  obtain ⟨q1, hq1, hf⟩ := ob_ hf
  refine r_ci (r_V (rest := []) (As := [.int (1 - x1), .int (x2 / 8)]) S hl hI (kM_isRightPage l G kA kL Λ ad w c0 (1 - x1) (x2 / 8) q1.1 q1.2 hq1) pkM_isRightPage kw_591 ks_M_isRightPage (fcM).1 (gd_some hq1).1 kw_589 ⟨rfl, rfl⟩ ⟨Nat.le_of_ble_eq_true rfl, Nat.le_of_ble_eq_true rfl⟩ rfl rfl (Nat.le_of_ble_eq_true rfl) ⟨Nat.zero_le _, Nat.zero_le _⟩ dM_isUnknown_8) hI (fun H locs hI => ?_)
  refine lv_if_ne (tgt := 30) hx hb dM_isUnknown_11 rfl (fun h2 => ?_) (fun h2 => ?_)
  · have hf := in_ hf h2
    refine lv_iconst hx hb dM_isUnknown_30 kI_0 ?_
    exact hret _ _ _ _ _ _ hI hf dM_isUnknown_31
  · have hf := ip_ hf h2
    refine lv_aload_n hx hb dM_isUnknown_14 rfl (lv_at hl 0 rfl) ?_
    refine lv_iload_n hx hb dM_isUnknown_15 rfl (lv_at hl 1 rfl) ?_
    refine lv_iload_n hx hb dM_isUnknown_16 rfl (lv_at hl 2 rfl) ?_
    refine lv_bipush hx hb dM_isUnknown_17 kB_8 ?_
    refine lv_idiv hx hb dM_isUnknown_19 (by decide +kernel) ?_
    obtain ⟨q3, hq3, hf⟩ := ob_ hf
    refine r_ci (r_V (rest := []) (As := [.int x1, .int (x2 / 8)]) S hl hI (kM_isRightPage l G kA kL Λ ad q1.1 c0 x1 (x2 / 8) q3.1 q3.2 hq3) pkM_isRightPage kw_591 ks_M_isRightPage (fcM).1 (gd_some hq3).1 kw_589 ⟨rfl, rfl⟩ ⟨Nat.le_of_ble_eq_true rfl, Nat.le_of_ble_eq_true rfl⟩ rfl rfl (Nat.le_of_ble_eq_true rfl) ⟨Nat.zero_le _, Nat.zero_le _⟩ dM_isUnknown_20) hI (fun H locs hI => ?_)
    refine lv_if_ne (tgt := 30) hx hb dM_isUnknown_23 rfl (fun h4 => ?_) (fun h4 => ?_)
    · have hf := in_ hf h4
      refine lv_iconst hx hb dM_isUnknown_30 kI_0 ?_
      exact hret _ _ _ _ _ _ hI hf dM_isUnknown_31
    · have hf := ip_ hf h4
      refine lv_iconst hx hb dM_isUnknown_26 kI_1 ?_
      refine lv_goto (tgt := 31) hx hb dM_isUnknown_27 rfl ?_
      exact hret _ _ _ _ _ _ hI hf dM_isUnknown_31
/-- GuardVolumeModel.listed(II)I -/
abbrev rmM_listed : Room := { frames := 1, cells := 0, slots := 0, locals := 21 }
theorem pkM_listed : Pk yM_listed cM_listed 3 (some .int) 2 := ⟨kw_600, kw_7, by decide +kernel, by decide +kernel, by decide +kernel⟩
def fM_listed (Λ : La) (w : Wo) (c0 : Nat) (x1 : Int32) (x2 : Int32) : Option (Wo × Int32) := gd (isC Λ c0 5) ((gr Λ c0 5 1).bind fun r1 => (fM_place Λ w x1 (64 + (x2 / 8))).bind fun q2 => (ld Λ q2.1 r1 (q2.2 + (x2 - x2 / 8 * 8))).bind fun v3 => some (q2.1, v3))
set_option maxHeartbeats 4000000 in
set_option maxRecDepth 100000 in
theorem kM_listed (l : Launch) (G : va_G) (kA kL : ClassId) (Λ : La) (ad : Nat → Nat) (w : Wo) (c0 : Nat) (x1 : Int32) (x2 : Int32) (w1 : Wo) (r : Int32) (hf : fM_listed Λ w c0 x1 x2 = some (w1, r)) : Mi l yM_listed cM_listed 3 (some .int) rmM_listed G kA kL Λ ad [.ref (ad c0), .int x1, .int x2] w w1 r := by
  refine Mi.of (by decide +kernel) (Nat.le_of_ble_eq_true rfl) ?_
  intro p e s m args below meth c Q ls S hret hl hI
  have S : CallFix p m c cM_listed 3 s args (.code yM_listed cM_listed 3 (some .int) :: gW) "GuardVolumeModel" := S
  have hl : lv_has ls 3 [(0, .ref (ad c0)), (1, .int x1), (2, .int x2)] := hl
  have hx := S.1
  have hb := S.2.1
  unfold fM_listed at hf
  have hf := (gd_some hf).2
  refine lv_aload_n hx hb dM_listed_0 rfl (lv_at hl 0 rfl) ?_
  obtain ⟨r1, hr1, hf⟩ := ob_ hf
  refine r_getr (i := 1) S hI fcM (Nat.le_of_ble_eq_true rfl) kw_502 dM_listed_1 hr1 ?_
  refine lv_iload_n hx hb dM_listed_4 rfl (lv_at hl 1 rfl) ?_
  refine lv_bipush hx hb dM_listed_5 kB_64 ?_
  refine lv_iload_n hx hb dM_listed_7 rfl (lv_at hl 2 rfl) ?_
  refine lv_bipush hx hb dM_listed_8 kB_8 ?_
  refine lv_idiv hx hb dM_listed_10 (by decide +kernel) ?_
  refine lv_iadd hx hb dM_listed_11 ?_
  obtain ⟨q2, hq2, hf⟩ := ob_ hf
  refine r_ci (r_S (rest := [.ref (ad r1)]) (As := [.int x1, .int (64 + (x2 / 8))]) S hl hI (kM_place l G kA kL Λ ad w x1 (64 + (x2 / 8)) q2.1 q2.2 hq2) pkM_place kw_492 kw_491 ⟨rfl, rfl⟩ ⟨Nat.le_of_ble_eq_true rfl, Nat.le_of_ble_eq_true rfl⟩ rfl rfl (Nat.le_of_ble_eq_true rfl) ⟨Nat.zero_le _, Nat.zero_le _⟩ dM_listed_12) hI (fun H locs hI => ?_)
  refine lv_iload_n hx hb dM_listed_15 rfl (lv_at hl 2 rfl) ?_
  refine lv_bipush hx hb dM_listed_16 kB_8 ?_
  refine lv_irem hx hb dM_listed_18 (by decide +kernel) ?_
  refine lv_iadd hx hb dM_listed_19 ?_
  obtain ⟨v3, hv3, hf⟩ := ob_ hf
  refine r_ald S hI dM_listed_20 hv3 ?_
  exact hret _ _ _ _ _ _ hI hf dM_listed_21
/-- GuardVolumeModel.expectedOf(II)I -/
abbrev rmM_expectedOf : Room := { frames := 4, cells := 0, slots := 0, locals := 90 }
theorem pkM_expectedOf : Pk yM_expectedOf cM_expectedOf 4 (some .int) 2 := ⟨kw_596, kw_7, by decide +kernel, by decide +kernel, by decide +kernel⟩
def fM_expectedOf (Λ : La) (w : Wo) (c0 : Nat) (x1 : Int32) (x2 : Int32) : Option (Wo × Int32) := gd (isC Λ c0 5) ((fM_isRightPage Λ w c0 (1 - x1) (x2 / 8)).bind fun q1 => if q1.2 = 0 then ((fM_isRightPage Λ q1.1 c0 x1 (x2 / 8)).bind fun q3 => if q3.2 = 0 then (some (q3.1, (-1))) else ((fM_listed Λ q3.1 c0 x1 x2).bind fun q5 => some (q5.1, q5.2))) else ((fM_listed Λ q1.1 c0 (1 - x1) x2).bind fun q6 => some (q6.1, q6.2)))
set_option maxHeartbeats 4000000 in
set_option maxRecDepth 100000 in
theorem kM_expectedOf (l : Launch) (G : va_G) (kA kL : ClassId) (Λ : La) (ad : Nat → Nat) (w : Wo) (c0 : Nat) (x1 : Int32) (x2 : Int32) (w1 : Wo) (r : Int32) (hf : fM_expectedOf Λ w c0 x1 x2 = some (w1, r)) : Mi l yM_expectedOf cM_expectedOf 4 (some .int) rmM_expectedOf G kA kL Λ ad [.ref (ad c0), .int x1, .int x2] w w1 r := by
  refine Mi.of (by decide +kernel) (Nat.le_of_ble_eq_true rfl) ?_
  intro p e s m args below meth c Q ls S hret hl hI
  have S : CallFix p m c cM_expectedOf 4 s args (.code yM_expectedOf cM_expectedOf 4 (some .int) :: gW) "GuardVolumeModel" := S
  have hl : lv_has ls 4 [(0, .ref (ad c0)), (1, .int x1), (2, .int x2)] := hl
  have hx := S.1
  have hb := S.2.1
  unfold fM_expectedOf at hf
  have hf := (gd_some hf).2
  refine lv_iload_n hx hb dM_expectedOf_0 rfl (lv_at hl 2 rfl) ?_
  refine lv_bipush hx hb dM_expectedOf_1 kB_8 ?_
  refine lv_idiv hx hb dM_expectedOf_3 (by decide +kernel) ?_
  refine lv_istore_n hx hb (lv' := [(3, .int (x2 / 8)), (0, .ref (ad c0)), (1, .int x1), (2, .int x2)]) dM_expectedOf_4 rfl hl (Nat.le_of_ble_eq_true rfl) rfl (fun ls hl => ?_)
  refine lv_aload_n hx hb dM_expectedOf_5 rfl (lv_at hl 1 rfl) ?_
  refine lv_iconst hx hb dM_expectedOf_6 kI_1 ?_
  refine lv_iload_n hx hb dM_expectedOf_7 rfl (lv_at hl 2 rfl) ?_
  refine lv_isub hx hb dM_expectedOf_8 ?_
  refine W.eq (g2 := F0 m 9 ls _) rfl ?_
  refine lv_iload_n hx hb dM_expectedOf_9 rfl (lv_at hl 0 rfl) ?_
  obtain ⟨q1, hq1, hf⟩ := ob_ hf
  refine r_ci (r_V (rest := []) (As := [.int (1 - x1), .int (x2 / 8)]) S hl hI (kM_isRightPage l G kA kL Λ ad w c0 (1 - x1) (x2 / 8) q1.1 q1.2 hq1) pkM_isRightPage kw_591 ks_M_isRightPage (fcM).1 (gd_some hq1).1 kw_589 ⟨rfl, rfl⟩ ⟨Nat.le_of_ble_eq_true rfl, Nat.le_of_ble_eq_true rfl⟩ rfl rfl (Nat.le_of_ble_eq_true rfl) ⟨Nat.zero_le _, Nat.zero_le _⟩ dM_expectedOf_10) hI (fun H locs hI => ?_)
  refine lv_if_eq (tgt := 27) hx hb dM_expectedOf_13 rfl (fun h2 => ?_) (fun h2 => ?_)
  · have hf := ip_ hf h2
    refine lv_aload_n hx hb dM_expectedOf_27 rfl (lv_at hl 1 rfl) ?_
    refine lv_iload_n hx hb dM_expectedOf_28 rfl (lv_at hl 2 rfl) ?_
    refine lv_iload_n hx hb dM_expectedOf_29 rfl (lv_at hl 0 rfl) ?_
    obtain ⟨q3, hq3, hf⟩ := ob_ hf
    refine r_ci (r_V (rest := []) (As := [.int x1, .int (x2 / 8)]) S hl hI (kM_isRightPage l G kA kL Λ ad q1.1 c0 x1 (x2 / 8) q3.1 q3.2 hq3) pkM_isRightPage kw_591 ks_M_isRightPage (fcM).1 (gd_some hq3).1 kw_589 ⟨rfl, rfl⟩ ⟨Nat.le_of_ble_eq_true rfl, Nat.le_of_ble_eq_true rfl⟩ rfl rfl (Nat.le_of_ble_eq_true rfl) ⟨Nat.zero_le _, Nat.zero_le _⟩ dM_expectedOf_30) hI (fun H locs hI => ?_)
    refine lv_if_eq (tgt := 45) hx hb dM_expectedOf_33 rfl (fun h4 => ?_) (fun h4 => ?_)
    · have hf := ip_ hf h4
      refine lv_iconst hx hb dM_expectedOf_45 kI_m1 ?_
      exact hret _ _ _ _ _ _ hI hf dM_expectedOf_46
    · have hf := in_ hf h4
      refine lv_aload_n hx hb dM_expectedOf_36 rfl (lv_at hl 1 rfl) ?_
      refine lv_iload_n hx hb dM_expectedOf_37 rfl (lv_at hl 2 rfl) ?_
      refine lv_iload_n hx hb dM_expectedOf_38 rfl (lv_at hl 3 rfl) ?_
      obtain ⟨q5, hq5, hf⟩ := ob_ hf
      refine r_ci (r_V (rest := []) (As := [.int x1, .int x2]) S hl hI (kM_listed l G kA kL Λ ad q3.1 c0 x1 x2 q5.1 q5.2 hq5) pkM_listed kw_599 ks_M_listed (fcM).1 (gd_some hq5).1 kw_597 ⟨rfl, rfl⟩ ⟨Nat.le_of_ble_eq_true rfl, Nat.le_of_ble_eq_true rfl⟩ rfl rfl (Nat.le_of_ble_eq_true rfl) ⟨Nat.zero_le _, Nat.zero_le _⟩ dM_expectedOf_39) hI (fun H locs hI => ?_)
      refine lv_goto (tgt := 46) hx hb dM_expectedOf_42 rfl ?_
      exact hret _ _ _ _ _ _ hI hf dM_expectedOf_46
  · have hf := in_ hf h2
    refine lv_aload_n hx hb dM_expectedOf_16 rfl (lv_at hl 1 rfl) ?_
    refine lv_iconst hx hb dM_expectedOf_17 kI_1 ?_
    refine lv_iload_n hx hb dM_expectedOf_18 rfl (lv_at hl 2 rfl) ?_
    refine lv_isub hx hb dM_expectedOf_19 ?_
    refine lv_iload_n hx hb dM_expectedOf_20 rfl (lv_at hl 3 rfl) ?_
    obtain ⟨q6, hq6, hf⟩ := ob_ hf
    refine r_ci (r_V (rest := []) (As := [.int (1 - x1), .int x2]) S hl hI (kM_listed l G kA kL Λ ad q1.1 c0 (1 - x1) x2 q6.1 q6.2 hq6) pkM_listed kw_599 ks_M_listed (fcM).1 (gd_some hq6).1 kw_597 ⟨rfl, rfl⟩ ⟨Nat.le_of_ble_eq_true rfl, Nat.le_of_ble_eq_true rfl⟩ rfl rfl (Nat.le_of_ble_eq_true rfl) ⟨Nat.zero_le _, Nat.zero_le _⟩ dM_expectedOf_21) hI (fun H locs hI => ?_)
    refine lv_goto (tgt := 46) hx hb dM_expectedOf_24 rfl ?_
    exact hret _ _ _ _ _ _ hI hf dM_expectedOf_46
/-- GuardVolumeModel.verdictOf(II)I -/
abbrev rmM_verdictOf : Room := { frames := 5, cells := 0, slots := 0, locals := 113 }
theorem pkM_verdictOf : Pk yM_verdictOf cM_verdictOf 5 (some .int) 2 := ⟨kw_580, kw_7, by decide +kernel, by decide +kernel, by decide +kernel⟩
def fM_verdictOf (Λ : La) (w : Wo) (c0 : Nat) (x1 : Int32) (x2 : Int32) : Option (Wo × Int32) := gd (isC Λ c0 5) ((fM_place Λ w x1 x2).bind fun q1 => (fM_isWhole Λ q1.1 c0 x1 x2).bind fun q2 => if q2.2 = 0 then (some (q2.1, 1)) else ((gr Λ c0 5 1).bind fun r4 => (ld Λ q2.1 r4 (q1.2 + 9)).bind fun v5 => if v5 = x2 then ((fM_isUnknown Λ q2.1 c0 x1 x2).bind fun q7 => if q7.2 = 0 then ((fM_expectedOf Λ q7.1 c0 x1 x2).bind fun q9 => (gr Λ c0 5 1).bind fun r10 => (ld Λ q9.1 r10 (q1.2 + 10)).bind fun v11 => if q9.2 ≤ v11 then ((gr Λ c0 5 1).bind fun r13 => (ld Λ q9.1 r13 (q1.2 + 10)).bind fun v14 => if v14 ≤ q9.2 then (some (q9.1, 0)) else (some (q9.1, 5))) else (some (q9.1, 4))) else (some (q7.1, 3))) else (some (q2.1, 2))))
set_option maxHeartbeats 4000000 in
set_option maxRecDepth 100000 in
theorem kM_verdictOf (l : Launch) (G : va_G) (kA kL : ClassId) (Λ : La) (ad : Nat → Nat) (w : Wo) (c0 : Nat) (x1 : Int32) (x2 : Int32) (w1 : Wo) (r : Int32) (hf : fM_verdictOf Λ w c0 x1 x2 = some (w1, r)) : Mi l yM_verdictOf cM_verdictOf 5 (some .int) rmM_verdictOf G kA kL Λ ad [.ref (ad c0), .int x1, .int x2] w w1 r := by
  refine Mi.of (by decide +kernel) (Nat.le_of_ble_eq_true rfl) ?_
  intro p e s m args below meth c Q ls S hret hl hI
  have S : CallFix p m c cM_verdictOf 5 s args (.code yM_verdictOf cM_verdictOf 5 (some .int) :: gW) "GuardVolumeModel" := S
  have hl : lv_has ls 5 [(0, .ref (ad c0)), (1, .int x1), (2, .int x2)] := hl
  have hx := S.1
  have hb := S.2.1
  unfold fM_verdictOf at hf
  have hf := (gd_some hf).2
  refine lv_iload_n hx hb dM_verdictOf_0 rfl (lv_at hl 1 rfl) ?_
  refine lv_iload_n hx hb dM_verdictOf_1 rfl (lv_at hl 2 rfl) ?_
  obtain ⟨q1, hq1, hf⟩ := ob_ hf
  refine r_ci (r_S (rest := []) (As := [.int x1, .int x2]) S hl hI (kM_place l G kA kL Λ ad w x1 x2 q1.1 q1.2 hq1) pkM_place kw_492 kw_491 ⟨rfl, rfl⟩ ⟨Nat.le_of_ble_eq_true rfl, Nat.le_of_ble_eq_true rfl⟩ rfl rfl (Nat.le_of_ble_eq_true rfl) ⟨Nat.zero_le _, Nat.zero_le _⟩ dM_verdictOf_2) hI (fun H locs hI => ?_)
  refine lv_istore_n hx hb (lv' := [(3, .int q1.2), (0, .ref (ad c0)), (1, .int x1), (2, .int x2)]) dM_verdictOf_5 rfl hl (Nat.le_of_ble_eq_true rfl) rfl (fun ls hl => ?_)
  refine lv_aload_n hx hb dM_verdictOf_6 rfl (lv_at hl 1 rfl) ?_
  refine lv_iload_n hx hb dM_verdictOf_7 rfl (lv_at hl 2 rfl) ?_
  refine lv_iload_n hx hb dM_verdictOf_8 rfl (lv_at hl 3 rfl) ?_
  obtain ⟨q2, hq2, hf⟩ := ob_ hf
  refine r_ci (r_V (rest := []) (As := [.int x1, .int x2]) S hl hI (kM_isWhole l G kA kL Λ ad q1.1 c0 x1 x2 q2.1 q2.2 hq2) pkM_isWhole kw_583 ks_M_isWhole (fcM).1 (gd_some hq2).1 kw_581 ⟨rfl, rfl⟩ ⟨Nat.le_of_ble_eq_true rfl, Nat.le_of_ble_eq_true rfl⟩ rfl rfl (Nat.le_of_ble_eq_true rfl) ⟨Nat.zero_le _, Nat.zero_le _⟩ dM_verdictOf_9) hI (fun H locs hI => ?_)
  refine lv_if_ne (tgt := 17) hx hb dM_verdictOf_12 rfl (fun h3 => ?_) (fun h3 => ?_)
  · have hf := in_ hf h3
    refine lv_aload_n hx hb dM_verdictOf_17 rfl (lv_at hl 1 rfl) ?_
    obtain ⟨r4, hr4, hf⟩ := ob_ hf
    refine r_getr (i := 1) S hI fcM (Nat.le_of_ble_eq_true rfl) kw_502 dM_verdictOf_18 hr4 ?_
    refine lv_iload_n hx hb dM_verdictOf_21 rfl (lv_at hl 0 rfl) ?_
    refine lv_bipush hx hb dM_verdictOf_22 kB_9 ?_
    refine lv_iadd hx hb dM_verdictOf_24 ?_
    obtain ⟨v5, hv5, hf⟩ := ob_ hf
    refine r_ald S hI dM_verdictOf_25 hv5 ?_
    refine lv_iload_n hx hb dM_verdictOf_26 rfl (lv_at hl 3 rfl) ?_
    refine lv_icmp_eq (tgt := 32) hx hb dM_verdictOf_27 rfl (fun h6 => ?_) (fun h6 => ?_)
    · have hf := ip_ hf h6
      refine lv_aload_n hx hb dM_verdictOf_32 rfl (lv_at hl 1 rfl) ?_
      refine lv_iload_n hx hb dM_verdictOf_33 rfl (lv_at hl 2 rfl) ?_
      refine lv_iload_n hx hb dM_verdictOf_34 rfl (lv_at hl 3 rfl) ?_
      obtain ⟨q7, hq7, hf⟩ := ob_ hf
      refine r_ci (r_V (rest := []) (As := [.int x1, .int x2]) S hl hI (kM_isUnknown l G kA kL Λ ad q2.1 c0 x1 x2 q7.1 q7.2 hq7) pkM_isUnknown kw_587 ks_M_isUnknown (fcM).1 (gd_some hq7).1 kw_585 ⟨rfl, rfl⟩ ⟨Nat.le_of_ble_eq_true rfl, Nat.le_of_ble_eq_true rfl⟩ rfl rfl (Nat.le_of_ble_eq_true rfl) ⟨Nat.zero_le _, Nat.zero_le _⟩ dM_verdictOf_35) hI (fun H locs hI => ?_)
      refine lv_if_eq (tgt := 43) hx hb dM_verdictOf_38 rfl (fun h8 => ?_) (fun h8 => ?_)
      · have hf := ip_ hf h8
        refine lv_aload_n hx hb dM_verdictOf_43 rfl (lv_at hl 1 rfl) ?_
        refine lv_iload_n hx hb dM_verdictOf_44 rfl (lv_at hl 2 rfl) ?_
        refine lv_iload_n hx hb dM_verdictOf_45 rfl (lv_at hl 3 rfl) ?_
        obtain ⟨q9, hq9, hf⟩ := ob_ hf
        refine r_ci (r_V (rest := []) (As := [.int x1, .int x2]) S hl hI (kM_expectedOf l G kA kL Λ ad q7.1 c0 x1 x2 q9.1 q9.2 hq9) pkM_expectedOf kw_595 ks_M_expectedOf (fcM).1 (gd_some hq9).1 kw_593 ⟨rfl, rfl⟩ ⟨Nat.le_of_ble_eq_true rfl, Nat.le_of_ble_eq_true rfl⟩ rfl rfl (Nat.le_of_ble_eq_true rfl) ⟨Nat.zero_le _, Nat.zero_le _⟩ dM_verdictOf_46) hI (fun H locs hI => ?_)
        refine lv_istore hx hb (lv' := [(4, .int q9.2), (3, .int q1.2), (0, .ref (ad c0)), (1, .int x1), (2, .int x2)]) dM_verdictOf_49 hl (Nat.le_of_ble_eq_true rfl) rfl (fun ls hl => ?_)
        refine lv_aload_n hx hb dM_verdictOf_51 rfl (lv_at hl 2 rfl) ?_
        obtain ⟨r10, hr10, hf⟩ := ob_ hf
        refine r_getr (i := 1) S hI fcM (Nat.le_of_ble_eq_true rfl) kw_502 dM_verdictOf_52 hr10 ?_
        refine lv_iload_n hx hb dM_verdictOf_55 rfl (lv_at hl 1 rfl) ?_
        refine lv_bipush hx hb dM_verdictOf_56 kB_10 ?_
        refine lv_iadd hx hb dM_verdictOf_58 ?_
        obtain ⟨v11, hv11, hf⟩ := ob_ hf
        refine r_ald S hI dM_verdictOf_59 hv11 ?_
        refine lv_iload hx hb dM_verdictOf_60 (lv_at hl 0 rfl) ?_
        refine lv_icmp_ge (tgt := 69) hx hb dM_verdictOf_62 rfl (fun h12 => ?_) (fun h12 => ?_)
        · have hf := ip_ hf h12
          refine lv_aload_n hx hb dM_verdictOf_69 rfl (lv_at hl 2 rfl) ?_
          obtain ⟨r13, hr13, hf⟩ := ob_ hf
          refine r_getr (i := 1) S hI fcM (Nat.le_of_ble_eq_true rfl) kw_502 dM_verdictOf_70 hr13 ?_
          refine lv_iload_n hx hb dM_verdictOf_73 rfl (lv_at hl 1 rfl) ?_
          refine lv_bipush hx hb dM_verdictOf_74 kB_10 ?_
          refine lv_iadd hx hb dM_verdictOf_76 ?_
          obtain ⟨v14, hv14, hf⟩ := ob_ hf
          refine r_ald S hI dM_verdictOf_77 hv14 ?_
          refine lv_iload hx hb dM_verdictOf_78 (lv_at hl 0 rfl) ?_
          refine lv_icmp_le (tgt := 87) hx hb dM_verdictOf_80 rfl (fun h15 => ?_) (fun h15 => ?_)
          · have hf := ip_ hf h15
            refine lv_iconst hx hb dM_verdictOf_87 kI_0 ?_
            exact hret _ _ _ _ _ _ hI hf dM_verdictOf_88
          · have hf := in_ hf h15
            refine lv_iconst hx hb dM_verdictOf_83 kI_5 ?_
            refine lv_goto (tgt := 88) hx hb dM_verdictOf_84 rfl ?_
            exact hret _ _ _ _ _ _ hI hf dM_verdictOf_88
        · have hf := in_ hf h12
          refine lv_iconst hx hb dM_verdictOf_65 kI_4 ?_
          refine lv_goto (tgt := 88) hx hb dM_verdictOf_66 rfl ?_
          exact hret _ _ _ _ _ _ hI hf dM_verdictOf_88
      · have hf := in_ hf h8
        refine lv_iconst hx hb dM_verdictOf_41 kI_3 ?_
        exact hret _ _ _ _ _ _ hI hf dM_verdictOf_42
    · have hf := in_ hf h6
      refine lv_iconst hx hb dM_verdictOf_30 kI_2 ?_
      exact hret _ _ _ _ _ _ hI hf dM_verdictOf_31
  · have hf := ip_ hf h3
    refine lv_iconst hx hb dM_verdictOf_15 kI_1 ?_
    exact hret _ _ _ _ _ _ hI hf dM_verdictOf_16
/-- GuardVolumeModel.codeOf(I)I -/
abbrev rmM_codeOf : Room := { frames := 6, cells := 0, slots := 0, locals := 137 }
theorem pkM_codeOf : Pk yM_codeOf cM_codeOf 2 (some .int) 1 := ⟨kw_576, kw_7, by decide +kernel, by decide +kernel, by decide +kernel⟩
def fM_codeOf (Λ : La) (w : Wo) (c0 : Nat) (x1 : Int32) : Option (Wo × Int32) := gd (isC Λ c0 5) ((fM_verdictOf Λ w c0 0 x1).bind fun q1 => if q1.2 = 0 then (some (q1.1, 0)) else ((fM_verdictOf Λ q1.1 c0 1 x1).bind fun q3 => if q3.2 = 0 then (some (q3.1, 1)) else (some (q3.1, 2))))
set_option maxHeartbeats 4000000 in
set_option maxRecDepth 100000 in
theorem kM_codeOf (l : Launch) (G : va_G) (kA kL : ClassId) (Λ : La) (ad : Nat → Nat) (w : Wo) (c0 : Nat) (x1 : Int32) (w1 : Wo) (r : Int32) (hf : fM_codeOf Λ w c0 x1 = some (w1, r)) : Mi l yM_codeOf cM_codeOf 2 (some .int) rmM_codeOf G kA kL Λ ad [.ref (ad c0), .int x1] w w1 r := by
  refine Mi.of (by decide +kernel) (Nat.le_of_ble_eq_true rfl) ?_
  intro p e s m args below meth c Q ls S hret hl hI
  have S : CallFix p m c cM_codeOf 2 s args (.code yM_codeOf cM_codeOf 2 (some .int) :: gW) "GuardVolumeModel" := S
  have hl : lv_has ls 2 [(0, .ref (ad c0)), (1, .int x1)] := hl
  have hx := S.1
  have hb := S.2.1
  unfold fM_codeOf at hf
  have hf := (gd_some hf).2
  refine lv_aload_n hx hb dM_codeOf_0 rfl (lv_at hl 0 rfl) ?_
  refine lv_iconst hx hb dM_codeOf_1 kI_0 ?_
  refine lv_iload_n hx hb dM_codeOf_2 rfl (lv_at hl 1 rfl) ?_
  obtain ⟨q1, hq1, hf⟩ := ob_ hf
  refine r_ci (r_V (rest := []) (As := [.int 0, .int x1]) S hl hI (kM_verdictOf l G kA kL Λ ad w c0 0 x1 q1.1 q1.2 hq1) pkM_verdictOf kw_579 ks_M_verdictOf (fcM).1 (gd_some hq1).1 kw_577 ⟨rfl, rfl⟩ ⟨Nat.le_of_ble_eq_true rfl, Nat.le_of_ble_eq_true rfl⟩ rfl rfl (Nat.le_of_ble_eq_true rfl) ⟨Nat.zero_le _, Nat.zero_le _⟩ dM_codeOf_3) hI (fun H locs hI => ?_)
  refine lv_if_ne (tgt := 13) hx hb dM_codeOf_6 rfl (fun h2 => ?_) (fun h2 => ?_)
  · have hf := in_ hf h2
    refine lv_aload_n hx hb dM_codeOf_13 rfl (lv_at hl 0 rfl) ?_
    refine lv_iconst hx hb dM_codeOf_14 kI_1 ?_
    refine lv_iload_n hx hb dM_codeOf_15 rfl (lv_at hl 1 rfl) ?_
    obtain ⟨q3, hq3, hf⟩ := ob_ hf
    refine r_ci (r_V (rest := []) (As := [.int 1, .int x1]) S hl hI (kM_verdictOf l G kA kL Λ ad q1.1 c0 1 x1 q3.1 q3.2 hq3) pkM_verdictOf kw_579 ks_M_verdictOf (fcM).1 (gd_some hq3).1 kw_577 ⟨rfl, rfl⟩ ⟨Nat.le_of_ble_eq_true rfl, Nat.le_of_ble_eq_true rfl⟩ rfl rfl (Nat.le_of_ble_eq_true rfl) ⟨Nat.zero_le _, Nat.zero_le _⟩ dM_codeOf_16) hI (fun H locs hI => ?_)
    refine lv_if_ne (tgt := 26) hx hb dM_codeOf_19 rfl (fun h4 => ?_) (fun h4 => ?_)
    · have hf := in_ hf h4
      refine lv_iconst hx hb dM_codeOf_26 kI_2 ?_
      exact hret _ _ _ _ _ _ hI hf dM_codeOf_27
    · have hf := ip_ hf h4
      refine lv_iconst hx hb dM_codeOf_22 kI_1 ?_
      refine lv_goto (tgt := 27) hx hb dM_codeOf_23 rfl ?_
      exact hret _ _ _ _ _ _ hI hf dM_codeOf_27
  · have hf := ip_ hf h2
    refine lv_iconst hx hb dM_codeOf_9 kI_0 ?_
    refine lv_goto (tgt := 27) hx hb dM_codeOf_10 rfl ?_
    exact hret _ _ _ _ _ _ hI hf dM_codeOf_27
/-- GuardVolumeModel.takeWords(II)V -/
abbrev rmM_takeWords : Room := { frames := 1, cells := 0, slots := 0, locals := 21 }
theorem pkM_takeWords : Pk yM_takeWords cM_takeWords 4 none 2 := ⟨kw_604, kw_7, by decide +kernel, by decide +kernel, by decide +kernel⟩
def bM_takeWords_2s (Λ : La) (K2 : Wo → Nat → Int32 → Int32 → Int32 → Option Wo) (w : Wo) (c0 : Nat) (x1 : Int32) (x2 : Int32) (x3 : Int32) : Option Wo := if 8 ≤ x3 then (some w) else ((gr Λ c0 5 19).bind fun r2 => (gr Λ c0 5 1).bind fun r3 => (fM_place Λ w x1 x2).bind fun q4 => (ld Λ q4.1 r3 (q4.2 + x3)).bind fun v5 => (st Λ q4.1 r2 x3 v5).bind fun w6 => K2 w6 c0 x1 x2 (x3 + 1))
def bM_takeWords_2 (Λ : La) : Nat → Wo → Nat → Int32 → Int32 → Int32 → Option Wo
  | 0 => fun _ _ _ _ _ => none
  | n + 1 => bM_takeWords_2s Λ (bM_takeWords_2 Λ n)
def fM_takeWords (Λ : La) (w : Wo) (c0 : Nat) (x1 : Int32) (x2 : Int32) : Option Wo := gd (isC Λ c0 5) (bM_takeWords_2 Λ 1000 w c0 x1 x2 0)
set_option maxHeartbeats 4000000 in
set_option maxRecDepth 100000 in
theorem kM_takeWords (l : Launch) (G : va_G) (kA kL : ClassId) (Λ : La) (ad : Nat → Nat) (w : Wo) (c0 : Nat) (x1 : Int32) (x2 : Int32) (w1 : Wo) (hf : fM_takeWords Λ w c0 x1 x2 = some w1) : Mv l yM_takeWords cM_takeWords 4 rmM_takeWords G kA kL Λ ad [.ref (ad c0), .int x1, .int x2] w w1 := by
  refine Mv.of (by decide +kernel) (Nat.le_of_ble_eq_true rfl) ?_
  intro p e s m args below meth c Q ls S hret hl hI
  have S : CallFix p m c cM_takeWords 4 s args (.code yM_takeWords cM_takeWords 4 none :: gW) "GuardVolumeModel" := S
  have hl : lv_has ls 4 [(0, .ref (ad c0)), (1, .int x1), (2, .int x2)] := hl
  have hx := S.1
  have hb := S.2.1
  have bk2 : ∀ (K2 : Wo → Nat → Int32 → Int32 → Int32 → Option Wo), (∀ (w : Wo) (c0 : Nat) (x1 : Int32) (x2 : Int32) (x3 : Int32) (H : Heap) (locs : List Loc) (ls : Array Slot), lv_has ls 4 [(0, .ref (ad c0)), (1, .int x1), (2, .int x2), (3, .int x3)] → Iv (Aa Λ ad) G kA kL Λ ad w s H locs → K2 w c0 x1 x2 x3 = some w1 → W p l e rmM_takeWords s m args below meth c H locs 0 0 Q (F0 m 2 ls [])) → ∀ (w : Wo) (c0 : Nat) (x1 : Int32) (x2 : Int32) (x3 : Int32) (H : Heap) (locs : List Loc) (ls : Array Slot), lv_has ls 4 [(0, .ref (ad c0)), (1, .int x1), (2, .int x2), (3, .int x3)] → Iv (Aa Λ ad) G kA kL Λ ad w s H locs → bM_takeWords_2s Λ K2 w c0 x1 x2 x3 = some w1 → W p l e rmM_takeWords s m args below meth c H locs 0 0 Q (F0 m 2 ls []) := by
    intro K2 hK2 w c0 x1 x2 x3 H locs ls hl hI hf
    unfold bM_takeWords_2s at hf
    refine lv_iload_n hx hb dM_takeWords_2 rfl (lv_at hl 3 rfl) ?_
    refine lv_bipush hx hb dM_takeWords_3 kB_8 ?_
    refine lv_icmp_ge (tgt := 32) hx hb dM_takeWords_5 rfl (fun h1 => ?_) (fun h1 => ?_)
    · have hf := ip_ hf h1
      exact hret _ _ _ _ _ hI hf dM_takeWords_32
    · have hf := in_ hf h1
      refine lv_aload_n hx hb dM_takeWords_8 rfl (lv_at hl 0 rfl) ?_
      obtain ⟨r2, hr2, hf⟩ := ob_ hf
      refine r_getr (i := 19) S hI fcM (Nat.le_of_ble_eq_true rfl) kw_520 dM_takeWords_9 hr2 ?_
      refine lv_iload_n hx hb dM_takeWords_12 rfl (lv_at hl 3 rfl) ?_
      refine lv_aload_n hx hb dM_takeWords_13 rfl (lv_at hl 0 rfl) ?_
      obtain ⟨r3, hr3, hf⟩ := ob_ hf
      refine r_getr (i := 1) S hI fcM (Nat.le_of_ble_eq_true rfl) kw_502 dM_takeWords_14 hr3 ?_
      refine lv_iload_n hx hb dM_takeWords_17 rfl (lv_at hl 1 rfl) ?_
      refine lv_iload_n hx hb dM_takeWords_18 rfl (lv_at hl 2 rfl) ?_
      obtain ⟨q4, hq4, hf⟩ := ob_ hf
      refine r_ci (r_S (rest := [.ref (ad r3), .int x3, .ref (ad r2)]) (As := [.int x1, .int x2]) S hl hI (kM_place l G kA kL Λ ad w x1 x2 q4.1 q4.2 hq4) pkM_place kw_492 kw_491 ⟨rfl, rfl⟩ ⟨Nat.le_of_ble_eq_true rfl, Nat.le_of_ble_eq_true rfl⟩ rfl rfl (Nat.le_of_ble_eq_true rfl) ⟨Nat.zero_le _, Nat.zero_le _⟩ dM_takeWords_19) hI (fun H locs hI => ?_)
      refine lv_iload_n hx hb dM_takeWords_22 rfl (lv_at hl 3 rfl) ?_
      refine lv_iadd hx hb dM_takeWords_23 ?_
      obtain ⟨v5, hv5, hf⟩ := ob_ hf
      refine r_ald S hI dM_takeWords_24 hv5 ?_
      obtain ⟨w6, hw6, hf⟩ := ob_ hf
      refine r_ast S hI dM_takeWords_25 hw6 (fun H locs hI => ?_)
      refine lv_iinc hx hb (lv' := [(3, .int (x3 + 1)), (0, .ref (ad c0)), (1, .int x1), (2, .int x2)]) (k := 3) dM_takeWords_26 hl rfl (kN_1 _) (Nat.le_of_ble_eq_true rfl) rfl (fun ls hl => ?_)
      refine lv_goto (tgt := 2) hx hb dM_takeWords_29 rfl ?_
      exact hK2 w6 c0 x1 x2 (x3 + 1) _ _ _ (lv_sub hl [1, 2, 3, 0] rfl) hI hf
  have lp2 : ∀ (n : Nat), ∀ (w : Wo) (c0 : Nat) (x1 : Int32) (x2 : Int32) (x3 : Int32) (H : Heap) (locs : List Loc) (ls : Array Slot), lv_has ls 4 [(0, .ref (ad c0)), (1, .int x1), (2, .int x2), (3, .int x3)] → Iv (Aa Λ ad) G kA kL Λ ad w s H locs → bM_takeWords_2 Λ n w c0 x1 x2 x3 = some w1 → W p l e rmM_takeWords s m args below meth c H locs 0 0 Q (F0 m 2 ls []) := by
    intro n
    induction n with
    | zero =>
      intro w c0 x1 x2 x3 H locs ls hl hI hf
      have hf : (none : Option Wo) = some w1 := hf
      cases hf
    | succ n ih =>
      intro w c0 x1 x2 x3 H locs ls hl hI hf
      exact bk2 (bM_takeWords_2 Λ n) ih w c0 x1 x2 x3 H locs ls hl hI hf
  unfold fM_takeWords at hf
  have hf := (gd_some hf).2
  refine lv_iconst hx hb dM_takeWords_0 kI_0 ?_
  refine lv_istore_n hx hb (lv' := [(3, .int 0), (0, .ref (ad c0)), (1, .int x1), (2, .int x2)]) dM_takeWords_1 rfl hl (Nat.le_of_ble_eq_true rfl) rfl (fun ls hl => ?_)
  exact lp2 1000 w c0 x1 x2 0 _ _ _ (lv_sub hl [1, 2, 3, 0] rfl) hI hf
/-- GuardVolumeModel.planOf(I)I -/
abbrev rmM_planOf : Room := { frames := 0, cells := 0, slots := 0, locals := 0 }
theorem pkM_planOf : Pk yM_planOf cM_planOf 4 (some .int) 1 := ⟨kw_624, kw_7, by decide +kernel, by decide +kernel, by decide +kernel⟩
def bM_planOf_39 (Λ : La) (K4 : Wo → Nat → Int32 → Int32 → Int32 → Option (Wo × Int32)) (w : Wo) (c0 : Nat) (x1 : Int32) (x3 : Int32) (s0 : Int32) : Option (Wo × Int32) := K4 w c0 x1 s0 (x3 + 1)
def bM_planOf_4s (Λ : La) (K4 : Wo → Nat → Int32 → Int32 → Int32 → Option (Wo × Int32)) (w : Wo) (c0 : Nat) (x1 : Int32) (x2 : Int32) (x3 : Int32) : Option (Wo × Int32) := (gr Λ c0 5 9).bind fun r1 => (ld Λ w r1 x1).bind fun v2 => if v2 ≤ x3 then (some (w, x2)) else ((gr Λ c0 5 10).bind fun r4 => (ld Λ w r4 ((8 * x1) + x3)).bind fun v5 => (gr Λ c0 5 8).bind fun r6 => (ld Λ w r6 x1).bind fun v7 => if v5 = v7 then (bM_planOf_39 Λ K4 w c0 x1 x3 x3) else (bM_planOf_39 Λ K4 w c0 x1 x3 x2))
def bM_planOf_4 (Λ : La) : Nat → Wo → Nat → Int32 → Int32 → Int32 → Option (Wo × Int32)
  | 0 => fun _ _ _ _ _ => none
  | n + 1 => bM_planOf_4s Λ (bM_planOf_4 Λ n)
def fM_planOf (Λ : La) (w : Wo) (c0 : Nat) (x1 : Int32) : Option (Wo × Int32) := gd (isC Λ c0 5) (bM_planOf_4 Λ 1000 w c0 x1 (-1) 0)
set_option maxHeartbeats 4000000 in
set_option maxRecDepth 100000 in
theorem kM_planOf (l : Launch) (G : va_G) (kA kL : ClassId) (Λ : La) (ad : Nat → Nat) (w : Wo) (c0 : Nat) (x1 : Int32) (w1 : Wo) (r : Int32) (hf : fM_planOf Λ w c0 x1 = some (w1, r)) : Mi l yM_planOf cM_planOf 4 (some .int) rmM_planOf G kA kL Λ ad [.ref (ad c0), .int x1] w w1 r := by
  refine Mi.of (by decide +kernel) (Nat.le_of_ble_eq_true rfl) ?_
  intro p e s m args below meth c Q ls S hret hl hI
  have S : CallFix p m c cM_planOf 4 s args (.code yM_planOf cM_planOf 4 (some .int) :: gW) "GuardVolumeModel" := S
  have hl : lv_has ls 4 [(0, .ref (ad c0)), (1, .int x1)] := hl
  have hx := S.1
  have hb := S.2.1
  have bk39 : ∀ (K4 : Wo → Nat → Int32 → Int32 → Int32 → Option (Wo × Int32)), (∀ (w : Wo) (c0 : Nat) (x1 : Int32) (x2 : Int32) (x3 : Int32) (H : Heap) (locs : List Loc) (ls : Array Slot), lv_has ls 4 [(0, .ref (ad c0)), (1, .int x1), (2, .int x2), (3, .int x3)] → Iv (Aa Λ ad) G kA kL Λ ad w s H locs → K4 w c0 x1 x2 x3 = some (w1, r) → W p l e rmM_planOf s m args below meth c H locs 0 0 Q (F0 m 4 ls [])) → ∀ (w : Wo) (c0 : Nat) (x1 : Int32) (x3 : Int32) (s0 : Int32) (H : Heap) (locs : List Loc) (ls : Array Slot), lv_has ls 4 [(0, .ref (ad c0)), (1, .int x1), (3, .int x3)] → Iv (Aa Λ ad) G kA kL Λ ad w s H locs → bM_planOf_39 Λ K4 w c0 x1 x3 s0 = some (w1, r) → W p l e rmM_planOf s m args below meth c H locs 0 0 Q (F0 m 39 ls [.int s0]) := by
    intro K4 hK4 w c0 x1 x3 s0 H locs ls hl hI hf
    unfold bM_planOf_39 at hf
    refine lv_istore_n hx hb (lv' := [(2, .int s0), (0, .ref (ad c0)), (1, .int x1), (3, .int x3)]) dM_planOf_39 rfl hl (Nat.le_of_ble_eq_true rfl) rfl (fun ls hl => ?_)
    refine lv_iinc hx hb (lv' := [(3, .int (x3 + 1)), (2, .int s0), (0, .ref (ad c0)), (1, .int x1)]) (k := 3) dM_planOf_40 hl rfl (kN_1 _) (Nat.le_of_ble_eq_true rfl) rfl (fun ls hl => ?_)
    refine lv_goto (tgt := 4) hx hb dM_planOf_43 rfl ?_
    exact hK4 w c0 x1 s0 (x3 + 1) _ _ _ (lv_sub hl [2, 3, 1, 0] rfl) hI hf
  have bk4 : ∀ (K4 : Wo → Nat → Int32 → Int32 → Int32 → Option (Wo × Int32)), (∀ (w : Wo) (c0 : Nat) (x1 : Int32) (x2 : Int32) (x3 : Int32) (H : Heap) (locs : List Loc) (ls : Array Slot), lv_has ls 4 [(0, .ref (ad c0)), (1, .int x1), (2, .int x2), (3, .int x3)] → Iv (Aa Λ ad) G kA kL Λ ad w s H locs → K4 w c0 x1 x2 x3 = some (w1, r) → W p l e rmM_planOf s m args below meth c H locs 0 0 Q (F0 m 4 ls [])) → ∀ (w : Wo) (c0 : Nat) (x1 : Int32) (x2 : Int32) (x3 : Int32) (H : Heap) (locs : List Loc) (ls : Array Slot), lv_has ls 4 [(0, .ref (ad c0)), (1, .int x1), (2, .int x2), (3, .int x3)] → Iv (Aa Λ ad) G kA kL Λ ad w s H locs → bM_planOf_4s Λ K4 w c0 x1 x2 x3 = some (w1, r) → W p l e rmM_planOf s m args below meth c H locs 0 0 Q (F0 m 4 ls []) := by
    intro K4 hK4 w c0 x1 x2 x3 H locs ls hl hI hf
    unfold bM_planOf_4s at hf
    refine lv_iload_n hx hb dM_planOf_4 rfl (lv_at hl 3 rfl) ?_
    refine lv_aload_n hx hb dM_planOf_5 rfl (lv_at hl 0 rfl) ?_
    obtain ⟨r1, hr1, hf⟩ := ob_ hf
    refine r_getr (i := 9) S hI fcM (Nat.le_of_ble_eq_true rfl) kw_510 dM_planOf_6 hr1 ?_
    refine lv_iload_n hx hb dM_planOf_9 rfl (lv_at hl 1 rfl) ?_
    obtain ⟨v2, hv2, hf⟩ := ob_ hf
    refine r_ald S hI dM_planOf_10 hv2 ?_
    refine lv_icmp_ge (tgt := 46) hx hb dM_planOf_11 rfl (fun h3 => ?_) (fun h3 => ?_)
    · have hf := ip_ hf h3
      refine lv_iload_n hx hb dM_planOf_46 rfl (lv_at hl 2 rfl) ?_
      exact hret _ _ _ _ _ _ hI hf dM_planOf_47
    · have hf := in_ hf h3
      refine lv_aload_n hx hb dM_planOf_14 rfl (lv_at hl 0 rfl) ?_
      obtain ⟨r4, hr4, hf⟩ := ob_ hf
      refine r_getr (i := 10) S hI fcM (Nat.le_of_ble_eq_true rfl) kw_511 dM_planOf_15 hr4 ?_
      refine lv_bipush hx hb dM_planOf_18 kB_8 ?_
      refine lv_iload_n hx hb dM_planOf_20 rfl (lv_at hl 1 rfl) ?_
      refine lv_imul hx hb dM_planOf_21 ?_
      refine lv_iload_n hx hb dM_planOf_22 rfl (lv_at hl 3 rfl) ?_
      refine lv_iadd hx hb dM_planOf_23 ?_
      obtain ⟨v5, hv5, hf⟩ := ob_ hf
      refine r_ald S hI dM_planOf_24 hv5 ?_
      refine lv_aload_n hx hb dM_planOf_25 rfl (lv_at hl 0 rfl) ?_
      obtain ⟨r6, hr6, hf⟩ := ob_ hf
      refine r_getr (i := 8) S hI fcM (Nat.le_of_ble_eq_true rfl) kw_509 dM_planOf_26 hr6 ?_
      refine lv_iload_n hx hb dM_planOf_29 rfl (lv_at hl 1 rfl) ?_
      obtain ⟨v7, hv7, hf⟩ := ob_ hf
      refine r_ald S hI dM_planOf_30 hv7 ?_
      refine lv_icmp_ne (tgt := 38) hx hb dM_planOf_31 rfl (fun h8 => ?_) (fun h8 => ?_)
      · have hf := in_ hf h8
        refine lv_iload_n hx hb dM_planOf_38 rfl (lv_at hl 2 rfl) ?_
        exact bk39 K4 hK4 w c0 x1 x3 x2 _ _ _ (lv_sub hl [0, 1, 3] rfl) hI hf
      · have hf := ip_ hf h8
        refine lv_iload_n hx hb dM_planOf_34 rfl (lv_at hl 3 rfl) ?_
        refine lv_goto (tgt := 39) hx hb dM_planOf_35 rfl ?_
        exact bk39 K4 hK4 w c0 x1 x3 x3 _ _ _ (lv_sub hl [0, 1, 3] rfl) hI hf
  have lp4 : ∀ (n : Nat), ∀ (w : Wo) (c0 : Nat) (x1 : Int32) (x2 : Int32) (x3 : Int32) (H : Heap) (locs : List Loc) (ls : Array Slot), lv_has ls 4 [(0, .ref (ad c0)), (1, .int x1), (2, .int x2), (3, .int x3)] → Iv (Aa Λ ad) G kA kL Λ ad w s H locs → bM_planOf_4 Λ n w c0 x1 x2 x3 = some (w1, r) → W p l e rmM_planOf s m args below meth c H locs 0 0 Q (F0 m 4 ls []) := by
    intro n
    induction n with
    | zero =>
      intro w c0 x1 x2 x3 H locs ls hl hI hf
      have hf : (none : Option (Wo × Int32)) = some (w1, r) := hf
      cases hf
    | succ n ih =>
      intro w c0 x1 x2 x3 H locs ls hl hI hf
      exact bk4 (bM_planOf_4 Λ n) ih w c0 x1 x2 x3 H locs ls hl hI hf
  unfold fM_planOf at hf
  have hf := (gd_some hf).2
  refine lv_iconst hx hb dM_planOf_0 kI_m1 ?_
  refine lv_istore_n hx hb (lv' := [(2, .int (-1)), (0, .ref (ad c0)), (1, .int x1)]) dM_planOf_1 rfl hl (Nat.le_of_ble_eq_true rfl) rfl (fun ls hl => ?_)
  refine lv_iconst hx hb dM_planOf_2 kI_0 ?_
  refine lv_istore_n hx hb (lv' := [(3, .int 0), (2, .int (-1)), (0, .ref (ad c0)), (1, .int x1)]) dM_planOf_3 rfl hl (Nat.le_of_ble_eq_true rfl) rfl (fun ls hl => ?_)
  exact lp4 1000 w c0 x1 (-1) 0 _ _ _ (lv_sub hl [2, 3, 1, 0] rfl) hI hf
/-- GuardVolumeModel.lay(III)V -/
abbrev rmM_lay : Room := { frames := 1, cells := 0, slots := 0, locals := 21 }
theorem pkM_lay : Pk yM_lay cM_lay 5 none 3 := ⟨kw_628, kw_7, by decide +kernel, by decide +kernel, by decide +kernel⟩
def bM_lay_3s (Λ : La) (K3 : Wo → Nat → Int32 → Int32 → Int32 → Int32 → Option Wo) (w : Wo) (c0 : Nat) (x1 : Int32) (x2 : Int32) (x3 : Int32) (x4 : Int32) : Option Wo := if x3 ≤ x4 then (some w) else ((gr Λ c0 5 1).bind fun r2 => (fM_place Λ w x1 x2).bind fun q3 => (gr Λ c0 5 18).bind fun r4 => (ld Λ q3.1 r4 x4).bind fun v5 => (st Λ q3.1 r2 (q3.2 + x4) v5).bind fun w6 => K3 w6 c0 x1 x2 x3 (x4 + 1))
def bM_lay_3 (Λ : La) : Nat → Wo → Nat → Int32 → Int32 → Int32 → Int32 → Option Wo
  | 0 => fun _ _ _ _ _ _ => none
  | n + 1 => bM_lay_3s Λ (bM_lay_3 Λ n)
def fM_lay (Λ : La) (w : Wo) (c0 : Nat) (x1 : Int32) (x2 : Int32) (x3 : Int32) : Option Wo := gd (isC Λ c0 5) (bM_lay_3 Λ 1000 w c0 x1 x2 x3 0)
set_option maxHeartbeats 4000000 in
set_option maxRecDepth 100000 in
theorem kM_lay (l : Launch) (G : va_G) (kA kL : ClassId) (Λ : La) (ad : Nat → Nat) (w : Wo) (c0 : Nat) (x1 : Int32) (x2 : Int32) (x3 : Int32) (w1 : Wo) (hf : fM_lay Λ w c0 x1 x2 x3 = some w1) : Mv l yM_lay cM_lay 5 rmM_lay G kA kL Λ ad [.ref (ad c0), .int x1, .int x2, .int x3] w w1 := by
  refine Mv.of (by decide +kernel) (Nat.le_of_ble_eq_true rfl) ?_
  intro p e s m args below meth c Q ls S hret hl hI
  have S : CallFix p m c cM_lay 5 s args (.code yM_lay cM_lay 5 none :: gW) "GuardVolumeModel" := S
  have hl : lv_has ls 5 [(0, .ref (ad c0)), (1, .int x1), (2, .int x2), (3, .int x3)] := hl
  have hx := S.1
  have hb := S.2.1
  have bk3 : ∀ (K3 : Wo → Nat → Int32 → Int32 → Int32 → Int32 → Option Wo), (∀ (w : Wo) (c0 : Nat) (x1 : Int32) (x2 : Int32) (x3 : Int32) (x4 : Int32) (H : Heap) (locs : List Loc) (ls : Array Slot), lv_has ls 5 [(0, .ref (ad c0)), (1, .int x1), (2, .int x2), (3, .int x3), (4, .int x4)] → Iv (Aa Λ ad) G kA kL Λ ad w s H locs → K3 w c0 x1 x2 x3 x4 = some w1 → W p l e rmM_lay s m args below meth c H locs 0 0 Q (F0 m 3 ls [])) → ∀ (w : Wo) (c0 : Nat) (x1 : Int32) (x2 : Int32) (x3 : Int32) (x4 : Int32) (H : Heap) (locs : List Loc) (ls : Array Slot), lv_has ls 5 [(0, .ref (ad c0)), (1, .int x1), (2, .int x2), (3, .int x3), (4, .int x4)] → Iv (Aa Λ ad) G kA kL Λ ad w s H locs → bM_lay_3s Λ K3 w c0 x1 x2 x3 x4 = some w1 → W p l e rmM_lay s m args below meth c H locs 0 0 Q (F0 m 3 ls []) := by
    intro K3 hK3 w c0 x1 x2 x3 x4 H locs ls hl hI hf
    unfold bM_lay_3s at hf
    refine lv_iload hx hb dM_lay_3 (lv_at hl 4 rfl) ?_
    refine lv_iload_n hx hb dM_lay_5 rfl (lv_at hl 3 rfl) ?_
    refine lv_icmp_ge (tgt := 35) hx hb dM_lay_6 rfl (fun h1 => ?_) (fun h1 => ?_)
    · have hf := ip_ hf h1
      exact hret _ _ _ _ _ hI hf dM_lay_35
    · have hf := in_ hf h1
      refine lv_aload_n hx hb dM_lay_9 rfl (lv_at hl 0 rfl) ?_
      obtain ⟨r2, hr2, hf⟩ := ob_ hf
      refine r_getr (i := 1) S hI fcM (Nat.le_of_ble_eq_true rfl) kw_502 dM_lay_10 hr2 ?_
      refine lv_iload_n hx hb dM_lay_13 rfl (lv_at hl 1 rfl) ?_
      refine lv_iload_n hx hb dM_lay_14 rfl (lv_at hl 2 rfl) ?_
      obtain ⟨q3, hq3, hf⟩ := ob_ hf
      refine r_ci (r_S (rest := [.ref (ad r2)]) (As := [.int x1, .int x2]) S hl hI (kM_place l G kA kL Λ ad w x1 x2 q3.1 q3.2 hq3) pkM_place kw_492 kw_491 ⟨rfl, rfl⟩ ⟨Nat.le_of_ble_eq_true rfl, Nat.le_of_ble_eq_true rfl⟩ rfl rfl (Nat.le_of_ble_eq_true rfl) ⟨Nat.zero_le _, Nat.zero_le _⟩ dM_lay_15) hI (fun H locs hI => ?_)
      refine lv_iload hx hb dM_lay_18 (lv_at hl 4 rfl) ?_
      refine lv_iadd hx hb dM_lay_20 ?_
      refine lv_aload_n hx hb dM_lay_21 rfl (lv_at hl 0 rfl) ?_
      obtain ⟨r4, hr4, hf⟩ := ob_ hf
      refine r_getr (i := 18) S hI fcM (Nat.le_of_ble_eq_true rfl) kw_519 dM_lay_22 hr4 ?_
      refine lv_iload hx hb dM_lay_25 (lv_at hl 4 rfl) ?_
      obtain ⟨v5, hv5, hf⟩ := ob_ hf
      refine r_ald S hI dM_lay_27 hv5 ?_
      obtain ⟨w6, hw6, hf⟩ := ob_ hf
      refine r_ast S hI dM_lay_28 hw6 (fun H locs hI => ?_)
      refine lv_iinc hx hb (lv' := [(4, .int (x4 + 1)), (0, .ref (ad c0)), (1, .int x1), (2, .int x2), (3, .int x3)]) (k := 4) dM_lay_29 hl rfl (kN_1 _) (Nat.le_of_ble_eq_true rfl) rfl (fun ls hl => ?_)
      refine lv_goto (tgt := 3) hx hb dM_lay_32 rfl ?_
      exact hK3 w6 c0 x1 x2 x3 (x4 + 1) _ _ _ (lv_sub hl [1, 2, 3, 4, 0] rfl) hI hf
  have lp3 : ∀ (n : Nat), ∀ (w : Wo) (c0 : Nat) (x1 : Int32) (x2 : Int32) (x3 : Int32) (x4 : Int32) (H : Heap) (locs : List Loc) (ls : Array Slot), lv_has ls 5 [(0, .ref (ad c0)), (1, .int x1), (2, .int x2), (3, .int x3), (4, .int x4)] → Iv (Aa Λ ad) G kA kL Λ ad w s H locs → bM_lay_3 Λ n w c0 x1 x2 x3 x4 = some w1 → W p l e rmM_lay s m args below meth c H locs 0 0 Q (F0 m 3 ls []) := by
    intro n
    induction n with
    | zero =>
      intro w c0 x1 x2 x3 x4 H locs ls hl hI hf
      have hf : (none : Option Wo) = some w1 := hf
      cases hf
    | succ n ih =>
      intro w c0 x1 x2 x3 x4 H locs ls hl hI hf
      exact bk3 (bM_lay_3 Λ n) ih w c0 x1 x2 x3 x4 H locs ls hl hI hf
  unfold fM_lay at hf
  have hf := (gd_some hf).2
  refine lv_iconst hx hb dM_lay_0 kI_0 ?_
  refine lv_istore hx hb (lv' := [(4, .int 0), (0, .ref (ad c0)), (1, .int x1), (2, .int x2), (3, .int x3)]) dM_lay_1 hl (Nat.le_of_ble_eq_true rfl) rfl (fun ls hl => ?_)
  exact lp3 1000 w c0 x1 x2 x3 0 _ _ _ (lv_sub hl [1, 2, 3, 4, 0] rfl) hI hf
/-- GuardVolumeModel.dropPlan(II)V -/
abbrev rmM_dropPlan : Room := { frames := 0, cells := 0, slots := 0, locals := 0 }
theorem pkM_dropPlan : Pk yM_dropPlan cM_dropPlan 4 none 2 := ⟨kw_632, kw_7, by decide +kernel, by decide +kernel, by decide +kernel⟩
def bM_dropPlan_17s (Λ : La) (K17 : Wo → Nat → Int32 → Int32 → Option Wo) (w : Wo) (c0 : Nat) (x1 : Int32) (x3 : Int32) : Option Wo := (gr Λ c0 5 9).bind fun r1 => (ld Λ w r1 x1).bind fun v2 => if ((8 * x1) + v2) ≤ x3 then (some w) else ((gr Λ c0 5 10).bind fun r4 => (gr Λ c0 5 10).bind fun r5 => (ld Λ w r5 (x3 + 1)).bind fun v6 => (st Λ w r4 x3 v6).bind fun w7 => (gr Λ c0 5 11).bind fun r8 => (gr Λ c0 5 11).bind fun r9 => (ld Λ w7 r9 (x3 + 1)).bind fun v10 => (st Λ w7 r8 x3 v10).bind fun w11 => (gr Λ c0 5 12).bind fun r12 => (gr Λ c0 5 12).bind fun r13 => (ld Λ w11 r13 (x3 + 1)).bind fun v14 => (st Λ w11 r12 x3 v14).bind fun w15 => K17 w15 c0 x1 (x3 + 1))
def bM_dropPlan_17 (Λ : La) : Nat → Wo → Nat → Int32 → Int32 → Option Wo
  | 0 => fun _ _ _ _ => none
  | n + 1 => bM_dropPlan_17s Λ (bM_dropPlan_17 Λ n)
def fM_dropPlan (Λ : La) (w : Wo) (c0 : Nat) (x1 : Int32) (x2 : Int32) : Option Wo := gd (isC Λ c0 5) ((gr Λ c0 5 9).bind fun r16 => (ld Λ w r16 x1).bind fun v17 => (st Λ w r16 x1 (v17 - 1)).bind fun w18 => bM_dropPlan_17 Λ 1000 w18 c0 x1 ((8 * x1) + x2))
set_option maxHeartbeats 4000000 in
set_option maxRecDepth 100000 in
theorem kM_dropPlan (l : Launch) (G : va_G) (kA kL : ClassId) (Λ : La) (ad : Nat → Nat) (w : Wo) (c0 : Nat) (x1 : Int32) (x2 : Int32) (w1 : Wo) (hf : fM_dropPlan Λ w c0 x1 x2 = some w1) : Mv l yM_dropPlan cM_dropPlan 4 rmM_dropPlan G kA kL Λ ad [.ref (ad c0), .int x1, .int x2] w w1 := by
  refine Mv.of (by decide +kernel) (Nat.le_of_ble_eq_true rfl) ?_
  intro p e s m args below meth c Q ls S hret hl hI
  have S : CallFix p m c cM_dropPlan 4 s args (.code yM_dropPlan cM_dropPlan 4 none :: gW) "GuardVolumeModel" := S
  have hl : lv_has ls 4 [(0, .ref (ad c0)), (1, .int x1), (2, .int x2)] := hl
  have hx := S.1
  have hb := S.2.1
  have bk17 : ∀ (K17 : Wo → Nat → Int32 → Int32 → Option Wo), (∀ (w : Wo) (c0 : Nat) (x1 : Int32) (x3 : Int32) (H : Heap) (locs : List Loc) (ls : Array Slot), lv_has ls 4 [(0, .ref (ad c0)), (1, .int x1), (3, .int x3)] → Iv (Aa Λ ad) G kA kL Λ ad w s H locs → K17 w c0 x1 x3 = some w1 → W p l e rmM_dropPlan s m args below meth c H locs 0 0 Q (F0 m 17 ls [])) → ∀ (w : Wo) (c0 : Nat) (x1 : Int32) (x3 : Int32) (H : Heap) (locs : List Loc) (ls : Array Slot), lv_has ls 4 [(0, .ref (ad c0)), (1, .int x1), (3, .int x3)] → Iv (Aa Λ ad) G kA kL Λ ad w s H locs → bM_dropPlan_17s Λ K17 w c0 x1 x3 = some w1 → W p l e rmM_dropPlan s m args below meth c H locs 0 0 Q (F0 m 17 ls []) := by
    intro K17 hK17 w c0 x1 x3 H locs ls hl hI hf
    unfold bM_dropPlan_17s at hf
    refine lv_iload_n hx hb dM_dropPlan_17 rfl (lv_at hl 2 rfl) ?_
    refine lv_bipush hx hb dM_dropPlan_18 kB_8 ?_
    refine lv_iload_n hx hb dM_dropPlan_20 rfl (lv_at hl 1 rfl) ?_
    refine lv_imul hx hb dM_dropPlan_21 ?_
    refine lv_aload_n hx hb dM_dropPlan_22 rfl (lv_at hl 0 rfl) ?_
    obtain ⟨r1, hr1, hf⟩ := ob_ hf
    refine r_getr (i := 9) S hI fcM (Nat.le_of_ble_eq_true rfl) kw_510 dM_dropPlan_23 hr1 ?_
    refine lv_iload_n hx hb dM_dropPlan_26 rfl (lv_at hl 1 rfl) ?_
    obtain ⟨v2, hv2, hf⟩ := ob_ hf
    refine r_ald S hI dM_dropPlan_27 hv2 ?_
    refine lv_iadd hx hb dM_dropPlan_28 ?_
    refine lv_icmp_ge (tgt := 80) hx hb dM_dropPlan_29 rfl (fun h3 => ?_) (fun h3 => ?_)
    · have hf := ip_ hf h3
      exact hret _ _ _ _ _ hI hf dM_dropPlan_80
    · have hf := in_ hf h3
      refine lv_aload_n hx hb dM_dropPlan_32 rfl (lv_at hl 0 rfl) ?_
      obtain ⟨r4, hr4, hf⟩ := ob_ hf
      refine r_getr (i := 10) S hI fcM (Nat.le_of_ble_eq_true rfl) kw_511 dM_dropPlan_33 hr4 ?_
      refine lv_iload_n hx hb dM_dropPlan_36 rfl (lv_at hl 2 rfl) ?_
      refine lv_aload_n hx hb dM_dropPlan_37 rfl (lv_at hl 0 rfl) ?_
      obtain ⟨r5, hr5, hf⟩ := ob_ hf
      refine r_getr (i := 10) S hI fcM (Nat.le_of_ble_eq_true rfl) kw_511 dM_dropPlan_38 hr5 ?_
      refine lv_iload_n hx hb dM_dropPlan_41 rfl (lv_at hl 2 rfl) ?_
      refine lv_iconst hx hb dM_dropPlan_42 kI_1 ?_
      refine lv_iadd hx hb dM_dropPlan_43 ?_
      obtain ⟨v6, hv6, hf⟩ := ob_ hf
      refine r_ald S hI dM_dropPlan_44 hv6 ?_
      obtain ⟨w7, hw7, hf⟩ := ob_ hf
      refine r_ast S hI dM_dropPlan_45 hw7 (fun H locs hI => ?_)
      refine lv_aload_n hx hb dM_dropPlan_46 rfl (lv_at hl 0 rfl) ?_
      obtain ⟨r8, hr8, hf⟩ := ob_ hf
      refine r_getr (i := 11) S hI fcM (Nat.le_of_ble_eq_true rfl) kw_512 dM_dropPlan_47 hr8 ?_
      refine lv_iload_n hx hb dM_dropPlan_50 rfl (lv_at hl 2 rfl) ?_
      refine lv_aload_n hx hb dM_dropPlan_51 rfl (lv_at hl 0 rfl) ?_
      obtain ⟨r9, hr9, hf⟩ := ob_ hf
      refine r_getr (i := 11) S hI fcM (Nat.le_of_ble_eq_true rfl) kw_512 dM_dropPlan_52 hr9 ?_
      refine lv_iload_n hx hb dM_dropPlan_55 rfl (lv_at hl 2 rfl) ?_
      refine lv_iconst hx hb dM_dropPlan_56 kI_1 ?_
      refine lv_iadd hx hb dM_dropPlan_57 ?_
      obtain ⟨v10, hv10, hf⟩ := ob_ hf
      refine r_ald S hI dM_dropPlan_58 hv10 ?_
      obtain ⟨w11, hw11, hf⟩ := ob_ hf
      refine r_ast S hI dM_dropPlan_59 hw11 (fun H locs hI => ?_)
      refine lv_aload_n hx hb dM_dropPlan_60 rfl (lv_at hl 0 rfl) ?_
      obtain ⟨r12, hr12, hf⟩ := ob_ hf
      refine r_getr (i := 12) S hI fcM (Nat.le_of_ble_eq_true rfl) kw_513 dM_dropPlan_61 hr12 ?_
      refine lv_iload_n hx hb dM_dropPlan_64 rfl (lv_at hl 2 rfl) ?_
      refine lv_aload_n hx hb dM_dropPlan_65 rfl (lv_at hl 0 rfl) ?_
      obtain ⟨r13, hr13, hf⟩ := ob_ hf
      refine r_getr (i := 12) S hI fcM (Nat.le_of_ble_eq_true rfl) kw_513 dM_dropPlan_66 hr13 ?_
      refine lv_iload_n hx hb dM_dropPlan_69 rfl (lv_at hl 2 rfl) ?_
      refine lv_iconst hx hb dM_dropPlan_70 kI_1 ?_
      refine lv_iadd hx hb dM_dropPlan_71 ?_
      obtain ⟨v14, hv14, hf⟩ := ob_ hf
      refine r_ald S hI dM_dropPlan_72 hv14 ?_
      obtain ⟨w15, hw15, hf⟩ := ob_ hf
      refine r_ast S hI dM_dropPlan_73 hw15 (fun H locs hI => ?_)
      refine lv_iinc hx hb (lv' := [(3, .int (x3 + 1)), (0, .ref (ad c0)), (1, .int x1)]) (k := 2) dM_dropPlan_74 hl rfl (kN_1 _) (Nat.le_of_ble_eq_true rfl) rfl (fun ls hl => ?_)
      refine lv_goto (tgt := 17) hx hb dM_dropPlan_77 rfl ?_
      exact hK17 w15 c0 x1 (x3 + 1) _ _ _ (lv_sub hl [1, 2, 0] rfl) hI hf
  have lp17 : ∀ (n : Nat), ∀ (w : Wo) (c0 : Nat) (x1 : Int32) (x3 : Int32) (H : Heap) (locs : List Loc) (ls : Array Slot), lv_has ls 4 [(0, .ref (ad c0)), (1, .int x1), (3, .int x3)] → Iv (Aa Λ ad) G kA kL Λ ad w s H locs → bM_dropPlan_17 Λ n w c0 x1 x3 = some w1 → W p l e rmM_dropPlan s m args below meth c H locs 0 0 Q (F0 m 17 ls []) := by
    intro n
    induction n with
    | zero =>
      intro w c0 x1 x3 H locs ls hl hI hf
      have hf : (none : Option Wo) = some w1 := hf
      cases hf
    | succ n ih =>
      intro w c0 x1 x3 H locs ls hl hI hf
      exact bk17 (bM_dropPlan_17 Λ n) ih w c0 x1 x3 H locs ls hl hI hf
  unfold fM_dropPlan at hf
  have hf := (gd_some hf).2
  refine lv_aload_n hx hb dM_dropPlan_0 rfl (lv_at hl 0 rfl) ?_
  obtain ⟨r16, hr16, hf⟩ := ob_ hf
  refine r_getr (i := 9) S hI fcM (Nat.le_of_ble_eq_true rfl) kw_510 dM_dropPlan_1 hr16 ?_
  refine lv_iload_n hx hb dM_dropPlan_4 rfl (lv_at hl 1 rfl) ?_
  refine lv_dup2_11 hx hb dM_dropPlan_5 rfl rfl ?_
  obtain ⟨v17, hv17, hf⟩ := ob_ hf
  refine r_ald S hI dM_dropPlan_6 hv17 ?_
  refine lv_iconst hx hb dM_dropPlan_7 kI_1 ?_
  refine lv_isub hx hb dM_dropPlan_8 ?_
  obtain ⟨w18, hw18, hf⟩ := ob_ hf
  refine r_ast S hI dM_dropPlan_9 hw18 (fun H locs hI => ?_)
  refine lv_bipush hx hb dM_dropPlan_10 kB_8 ?_
  refine lv_iload_n hx hb dM_dropPlan_12 rfl (lv_at hl 1 rfl) ?_
  refine lv_imul hx hb dM_dropPlan_13 ?_
  refine lv_iload_n hx hb dM_dropPlan_14 rfl (lv_at hl 2 rfl) ?_
  refine lv_iadd hx hb dM_dropPlan_15 ?_
  refine lv_istore_n hx hb (lv' := [(3, .int ((8 * x1) + x2)), (0, .ref (ad c0)), (1, .int x1), (2, .int x2)]) dM_dropPlan_16 rfl hl (Nat.le_of_ble_eq_true rfl) rfl (fun ls hl => ?_)
  exact lp17 1000 w18 c0 x1 ((8 * x1) + x2) _ _ _ (lv_sub hl [1, 2, 0] rfl) hI hf

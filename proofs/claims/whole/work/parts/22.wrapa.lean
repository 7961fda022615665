/-! written by walk.py: the functions that the bytecode computes, and the walks -/
/-- GuardVolumeLaw.write(LGuardVolume;III[J)I -/
abbrev rmL_write : Room := { frames := 8, cells := 1, slots := 6, locals := 194 }
def fL_write (Λ : La) (w : Wo) (c0 : Nat) (x1 : Int32) (x2 : Int32) (x3 : Int32) (c4 : Nat) : Option (Wo × Int32) := (fG_write Λ w c0 x1 x2 x3).bind fun q1 => if q1.2.1 = 0 then ((sl Λ q1.1 c4 q1.2.2).bind fun w5 => some (w5, 0)) else (if q1.2.1 = 1 then (some (q1.1, 1)) else (if q1.2.1 = 2 then (some (q1.1, 2)) else (if q1.2.1 = 3 then (some (q1.1, 3)) else (none))))
set_option maxHeartbeats 4000000 in
set_option maxRecDepth 100000 in
theorem kL_write (l : Launch) (hlt : l.stackTraces = false) (G : va_G) (kA kL : ClassId) (Λ : La) (ad : Nat → Nat) (w : Wo) (c0 : Nat) (x1 : Int32) (x2 : Int32) (x3 : Int32) (c4 : Nat) (w1 : Wo) (r : Int32) (hf : fL_write Λ w c0 x1 x2 x3 c4 = some (w1, r)) : Ml l yL_write cL_write 6 [(0, 12, 15, 13), (0, 12, 19, 15), (0, 12, 23, 17)] rmL_write G kA kL Λ ad [.ref (ad c0), .int x1, .int x2, .int x3, .ref (ad c4)] w w1 r := by
  refine Ml.of (by decide +kernel) (Nat.le_of_ble_eq_true rfl) ?_
  intro p e s m args below meth c Q ls S htab hX hret hl hI
  have S : CallFix p m c cL_write 6 s args (.codeWith yL_write cL_write 6 (some .int) [(0, 12, 15, 13), (0, 12, 19, 15), (0, 12, 23, 17)] :: gW) "GuardVolumeLaw" := S
  have hl : lv_has ls 6 [(0, .ref (ad c0)), (1, .int x1), (2, .int x2), (3, .int x3), (4, .ref (ad c4))] := hl
  have hx := S.1
  have hb := S.2.1
  unfold fL_write at hf
  refine lv_aload hx hb dL_write_0 (lv_at hl 4 rfl) ?_
  refine lv_iconst hx hb dL_write_2 kI_0 ?_
  refine lv_aload_n hx hb dL_write_3 rfl (lv_at hl 0 rfl) ?_
  refine lv_iload_n hx hb dL_write_4 rfl (lv_at hl 1 rfl) ?_
  refine lv_iload_n hx hb dL_write_5 rfl (lv_at hl 2 rfl) ?_
  refine lv_iload_n hx hb dL_write_6 rfl (lv_at hl 3 rfl) ?_
  obtain ⟨q1, hq1, hf⟩ := ob_ hf
  refine rx_ci (rx_V (rest := [.int 0, .ref (ad c4)]) (As := [.int x1, .int x2, .int x3]) S hl hI hX (xG_write l hlt G kA kL Λ ad w c0 x1 x2 x3 q1 hq1) pkG_write kw_162 kw_163 (fcG).1 (gd_some hq1).1 kw_161 ⟨rfl, rfl⟩ ⟨Nat.le_of_ble_eq_true rfl, Nat.le_of_ble_eq_true rfl⟩ rfl rfl (Nat.le_of_ble_eq_true rfl) ⟨Nat.le_of_ble_eq_true rfl, Nat.le_of_ble_eq_true rfl⟩ dL_write_7) hI (fun ce q9 H locs hn hI hce hcv hcl => ?_) (fun H locs hn hI => ?_)
  · have hf := in_ hf hn
    by_cases h2 : q1.2.1 = 1
    · have hf := ip_ hf h2
      rw [h2] at hcl
      refine vx_catch (E := xn 1) (name := xn 1) S.2.2.2.1 [] ⟨0, 12, 15, 13⟩ [⟨0, 12, 19, 15⟩, ⟨0, 12, 23, 17⟩] htab (fun z hz => by
        cases hz) rfl (by decide) (cfw (Ts := []) S kw_158) (va_Nw.use rfl (hI.2.2.2.1 _ kn_170)) hce hcv hcl ?_
      refine W.eq (g2 := F0 m 15 ls _) rfl ?_
      refine lv_astore hx hb (lv' := [(5, .ref q9), (0, .ref (ad c0)), (1, .int x1), (2, .int x2), (3, .int x3), (4, .ref (ad c4))]) dL_write_15 hl (Nat.le_of_ble_eq_true rfl) rfl (fun ls hl => ?_)
      refine lv_iconst hx hb dL_write_17 kI_1 ?_
      exact hret _ _ _ _ _ _ hI hf dL_write_18
    have hf := in_ hf h2
    by_cases h3 : q1.2.1 = 2
    · have hf := ip_ hf h3
      rw [h3] at hcl
      refine vx_catch (E := xn 2) (name := xn 2) S.2.2.2.1 [⟨0, 12, 15, 13⟩] ⟨0, 12, 19, 15⟩ [⟨0, 12, 23, 17⟩] htab (fun z hz => by
        rcases List.mem_cons.mp hz with rfl | hz
        · exact Or.inr ⟨by decide, xn 1, cfw (Ts := []) S kw_158, hX.2 (2, 1) (by decide)⟩
        cases hz) rfl (by decide) (cfw (Ts := []) S kw_159) (va_Nw.use rfl (hI.2.2.2.1 _ kn_234)) hce hcv hcl ?_
      refine W.eq (g2 := F0 m 19 ls _) rfl ?_
      refine lv_astore hx hb (lv' := [(5, .ref q9), (0, .ref (ad c0)), (1, .int x1), (2, .int x2), (3, .int x3), (4, .ref (ad c4))]) dL_write_19 hl (Nat.le_of_ble_eq_true rfl) rfl (fun ls hl => ?_)
      refine lv_iconst hx hb dL_write_21 kI_2 ?_
      exact hret _ _ _ _ _ _ hI hf dL_write_22
    have hf := in_ hf h3
    by_cases h4 : q1.2.1 = 3
    · have hf := ip_ hf h4
      rw [h4] at hcl
      refine vx_catch (E := xn 3) (name := xn 3) S.2.2.2.1 [⟨0, 12, 15, 13⟩, ⟨0, 12, 19, 15⟩] ⟨0, 12, 23, 17⟩ [] htab (fun z hz => by
        rcases List.mem_cons.mp hz with rfl | hz
        · exact Or.inr ⟨by decide, xn 1, cfw (Ts := []) S kw_158, hX.2 (3, 1) (by decide)⟩
        rcases List.mem_cons.mp hz with rfl | hz
        · exact Or.inr ⟨by decide, xn 2, cfw (Ts := []) S kw_159, hX.2 (3, 2) (by decide)⟩
        cases hz) rfl (by decide) (cfw (Ts := []) S kw_160) (va_Nw.use rfl (hI.2.2.2.1 _ kn_278)) hce hcv hcl ?_
      refine W.eq (g2 := F0 m 23 ls _) rfl ?_
      refine lv_astore hx hb (lv' := [(5, .ref q9), (0, .ref (ad c0)), (1, .int x1), (2, .int x2), (3, .int x3), (4, .ref (ad c4))]) dL_write_23 hl (Nat.le_of_ble_eq_true rfl) rfl (fun ls hl => ?_)
      refine lv_iconst hx hb dL_write_25 kI_3 ?_
      exact hret _ _ _ _ _ _ hI hf dL_write_26
    have hf := in_ hf h4
    cases hf
  · have hf := ip_ hf hn
    refine lv_i2l hx hb dL_write_10 rfl ?_
    obtain ⟨w5, hw5, hf⟩ := ob_ hf
    refine r_last S hI dL_write_11 hw5 (fun H locs hI => ?_)
    refine lv_goto (tgt := 27) hx hb dL_write_12 rfl ?_
    refine lv_iconst hx hb dL_write_27 kI_0 ?_
    exact hret _ _ _ _ _ _ hI hf dL_write_28
/-- GuardVolumeLaw.read(LGuardVolume;II[J)I -/
abbrev rmL_read : Room := { frames := 7, cells := 1, slots := 6, locals := 162 }
def fL_read (Λ : La) (w : Wo) (c0 : Nat) (x1 : Int32) (x2 : Int32) (c3 : Nat) : Option (Wo × Int32) := (fG_read Λ w c0 x1 x2).bind fun q1 => if q1.2.1 = 0 then ((sl Λ q1.1 c3 q1.2.2).bind fun w4 => some (w4, 0)) else (if q1.2.1 = 1 then (some (q1.1, 1)) else (if q1.2.1 = 2 then (some (q1.1, 2)) else (none)))
set_option maxHeartbeats 4000000 in
set_option maxRecDepth 100000 in
theorem kL_read (l : Launch) (hlt : l.stackTraces = false) (G : va_G) (kA kL : ClassId) (Λ : La) (ad : Nat → Nat) (w : Wo) (c0 : Nat) (x1 : Int32) (x2 : Int32) (c3 : Nat) (w1 : Wo) (r : Int32) (hf : fL_read Λ w c0 x1 x2 c3 = some (w1, r)) : Ml l yL_read cL_read 5 [(0, 10, 13, 13), (0, 10, 17, 15)] rmL_read G kA kL Λ ad [.ref (ad c0), .int x1, .int x2, .ref (ad c3)] w w1 r := by
  refine Ml.of (by decide +kernel) (Nat.le_of_ble_eq_true rfl) ?_
  intro p e s m args below meth c Q ls S htab hX hret hl hI
  have S : CallFix p m c cL_read 5 s args (.codeWith yL_read cL_read 5 (some .int) [(0, 10, 13, 13), (0, 10, 17, 15)] :: gW) "GuardVolumeLaw" := S
  have hl : lv_has ls 5 [(0, .ref (ad c0)), (1, .int x1), (2, .int x2), (3, .ref (ad c3))] := hl
  have hx := S.1
  have hb := S.2.1
  unfold fL_read at hf
  refine lv_aload_n hx hb dL_read_0 rfl (lv_at hl 3 rfl) ?_
  refine lv_iconst hx hb dL_read_1 kI_0 ?_
  refine lv_aload_n hx hb dL_read_2 rfl (lv_at hl 0 rfl) ?_
  refine lv_iload_n hx hb dL_read_3 rfl (lv_at hl 1 rfl) ?_
  refine lv_iload_n hx hb dL_read_4 rfl (lv_at hl 2 rfl) ?_
  obtain ⟨q1, hq1, hf⟩ := ob_ hf
  refine rx_ci (rx_V (rest := [.int 0, .ref (ad c3)]) (As := [.int x1, .int x2]) S hl hI hX (xG_read l hlt G kA kL Λ ad w c0 x1 x2 q1 hq1) pkG_read kw_342 kw_343 (fcG).1 (gd_some hq1).1 kw_341 ⟨rfl, rfl⟩ ⟨Nat.le_of_ble_eq_true rfl, Nat.le_of_ble_eq_true rfl⟩ rfl rfl (Nat.le_of_ble_eq_true rfl) ⟨Nat.le_of_ble_eq_true rfl, Nat.le_of_ble_eq_true rfl⟩ dL_read_5) hI (fun ce q9 H locs hn hI hce hcv hcl => ?_) (fun H locs hn hI => ?_)
  · have hf := in_ hf hn
    by_cases h2 : q1.2.1 = 1
    · have hf := ip_ hf h2
      rw [h2] at hcl
      refine vx_catch (E := xn 1) (name := xn 1) S.2.2.2.1 [] ⟨0, 10, 13, 13⟩ [⟨0, 10, 17, 15⟩] htab (fun z hz => by
        cases hz) rfl (by decide) (cfw (Ts := []) S kw_158) (va_Nw.use rfl (hI.2.2.2.1 _ kn_170)) hce hcv hcl ?_
      refine W.eq (g2 := F0 m 13 ls _) rfl ?_
      refine lv_astore hx hb (lv' := [(4, .ref q9), (0, .ref (ad c0)), (1, .int x1), (2, .int x2), (3, .ref (ad c3))]) dL_read_13 hl (Nat.le_of_ble_eq_true rfl) rfl (fun ls hl => ?_)
      refine lv_iconst hx hb dL_read_15 kI_1 ?_
      exact hret _ _ _ _ _ _ hI hf dL_read_16
    have hf := in_ hf h2
    by_cases h3 : q1.2.1 = 2
    · have hf := ip_ hf h3
      rw [h3] at hcl
      refine vx_catch (E := xn 2) (name := xn 2) S.2.2.2.1 [⟨0, 10, 13, 13⟩] ⟨0, 10, 17, 15⟩ [] htab (fun z hz => by
        rcases List.mem_cons.mp hz with rfl | hz
        · exact Or.inr ⟨by decide, xn 1, cfw (Ts := []) S kw_158, hX.2 (2, 1) (by decide)⟩
        cases hz) rfl (by decide) (cfw (Ts := []) S kw_159) (va_Nw.use rfl (hI.2.2.2.1 _ kn_234)) hce hcv hcl ?_
      refine W.eq (g2 := F0 m 17 ls _) rfl ?_
      refine lv_astore hx hb (lv' := [(4, .ref q9), (0, .ref (ad c0)), (1, .int x1), (2, .int x2), (3, .ref (ad c3))]) dL_read_17 hl (Nat.le_of_ble_eq_true rfl) rfl (fun ls hl => ?_)
      refine lv_iconst hx hb dL_read_19 kI_2 ?_
      exact hret _ _ _ _ _ _ hI hf dL_read_20
    have hf := in_ hf h3
    cases hf
  · have hf := ip_ hf hn
    refine lv_i2l hx hb dL_read_8 rfl ?_
    obtain ⟨w4, hw4, hf⟩ := ob_ hf
    refine r_last S hI dL_read_9 hw4 (fun H locs hI => ?_)
    refine lv_goto (tgt := 21) hx hb dL_read_10 rfl ?_
    refine lv_iconst hx hb dL_read_21 kI_0 ?_
    exact hret _ _ _ _ _ _ hI hf dL_read_22
/-- GuardVolumeLaw.plan(LGuardVolume;IIII)I -/
abbrev rmL_plan : Room := { frames := 7, cells := 1, slots := 6, locals := 105 }
def fL_plan (Λ : La) (w : Wo) (c0 : Nat) (x1 : Int32) (x2 : Int32) (x3 : Int32) (x4 : Int32) : Option (Wo × Int32) := (fG_plan Λ w c0 x1 x2 x3 x4).bind fun q1 => if q1.2.1 = 0 then (some (q1.1, 0)) else (if q1.2.1 = 1 then (some (q1.1, 1)) else (if q1.2.1 = 4 then (some (q1.1, 2)) else (if q1.2.1 = 3 then (some (q1.1, 3)) else (none))))
set_option maxHeartbeats 4000000 in
set_option maxRecDepth 100000 in
theorem kL_plan (l : Launch) (hlt : l.stackTraces = false) (G : va_G) (kA kL : ClassId) (Λ : La) (ad : Nat → Nat) (w : Wo) (c0 : Nat) (x1 : Int32) (x2 : Int32) (x3 : Int32) (x4 : Int32) (w1 : Wo) (r : Int32) (hf : fL_plan Λ w c0 x1 x2 x3 x4 = some (w1, r)) : Ml l yL_plan cL_plan 6 [(0, 9, 12, 13), (0, 9, 16, 27), (0, 9, 20, 17)] rmL_plan G kA kL Λ ad [.ref (ad c0), .int x1, .int x2, .int x3, .int x4] w w1 r := by
  refine Ml.of (by decide +kernel) (Nat.le_of_ble_eq_true rfl) ?_
  intro p e s m args below meth c Q ls S htab hX hret hl hI
  have S : CallFix p m c cL_plan 6 s args (.codeWith yL_plan cL_plan 6 (some .int) [(0, 9, 12, 13), (0, 9, 16, 27), (0, 9, 20, 17)] :: gW) "GuardVolumeLaw" := S
  have hl : lv_has ls 6 [(0, .ref (ad c0)), (1, .int x1), (2, .int x2), (3, .int x3), (4, .int x4)] := hl
  have hx := S.1
  have hb := S.2.1
  unfold fL_plan at hf
  refine lv_aload_n hx hb dL_plan_0 rfl (lv_at hl 0 rfl) ?_
  refine lv_iload_n hx hb dL_plan_1 rfl (lv_at hl 1 rfl) ?_
  refine lv_iload_n hx hb dL_plan_2 rfl (lv_at hl 2 rfl) ?_
  refine lv_iload_n hx hb dL_plan_3 rfl (lv_at hl 3 rfl) ?_
  refine lv_iload hx hb dL_plan_4 (lv_at hl 4 rfl) ?_
  obtain ⟨q1, hq1, hf⟩ := ob_ hf
  refine rx_cv (rx_V (rest := []) (As := [.int x1, .int x2, .int x3, .int x4]) S hl hI hX (xG_plan l hlt G kA kL Λ ad w c0 x1 x2 x3 x4 q1 hq1) pkG_plan kw_350 kw_351 (fcG).1 (gd_some hq1).1 kw_349 ⟨rfl, rfl⟩ ⟨Nat.le_of_ble_eq_true rfl, Nat.le_of_ble_eq_true rfl⟩ rfl rfl (Nat.le_of_ble_eq_true rfl) ⟨Nat.le_of_ble_eq_true rfl, Nat.le_of_ble_eq_true rfl⟩ dL_plan_6) hI (fun ce q9 H locs hn hI hce hcv hcl => ?_) (fun H locs hn hI => ?_)
  · have hf := in_ hf hn
    by_cases h2 : q1.2.1 = 1
    · have hf := ip_ hf h2
      rw [h2] at hcl
      refine vx_catch (E := xn 1) (name := xn 1) S.2.2.2.1 [] ⟨0, 9, 12, 13⟩ [⟨0, 9, 16, 27⟩, ⟨0, 9, 20, 17⟩] htab (fun z hz => by
        cases hz) rfl (by decide) (cfw (Ts := []) S kw_158) (va_Nw.use rfl (hI.2.2.2.1 _ kn_170)) hce hcv hcl ?_
      refine W.eq (g2 := F0 m 12 ls _) rfl ?_
      refine lv_astore hx hb (lv' := [(5, .ref q9), (0, .ref (ad c0)), (1, .int x1), (2, .int x2), (3, .int x3), (4, .int x4)]) dL_plan_12 hl (Nat.le_of_ble_eq_true rfl) rfl (fun ls hl => ?_)
      refine lv_iconst hx hb dL_plan_14 kI_1 ?_
      exact hret _ _ _ _ _ _ hI hf dL_plan_15
    have hf := in_ hf h2
    by_cases h3 : q1.2.1 = 4
    · have hf := ip_ hf h3
      rw [h3] at hcl
      refine vx_catch (E := xn 4) (name := xn 4) S.2.2.2.1 [⟨0, 9, 12, 13⟩] ⟨0, 9, 16, 27⟩ [⟨0, 9, 20, 17⟩] htab (fun z hz => by
        rcases List.mem_cons.mp hz with rfl | hz
        · exact Or.inr ⟨by decide, xn 1, cfw (Ts := []) S kw_158, hX.2 (4, 1) (by decide)⟩
        cases hz) rfl (by decide) (cfw (Ts := []) S kw_348) (va_Nw.use rfl (hI.2.2.2.1 _ kn_359)) hce hcv hcl ?_
      refine W.eq (g2 := F0 m 16 ls _) rfl ?_
      refine lv_astore hx hb (lv' := [(5, .ref q9), (0, .ref (ad c0)), (1, .int x1), (2, .int x2), (3, .int x3), (4, .int x4)]) dL_plan_16 hl (Nat.le_of_ble_eq_true rfl) rfl (fun ls hl => ?_)
      refine lv_iconst hx hb dL_plan_18 kI_2 ?_
      exact hret _ _ _ _ _ _ hI hf dL_plan_19
    have hf := in_ hf h3
    by_cases h4 : q1.2.1 = 3
    · have hf := ip_ hf h4
      rw [h4] at hcl
      refine vx_catch (E := xn 3) (name := xn 3) S.2.2.2.1 [⟨0, 9, 12, 13⟩, ⟨0, 9, 16, 27⟩] ⟨0, 9, 20, 17⟩ [] htab (fun z hz => by
        rcases List.mem_cons.mp hz with rfl | hz
        · exact Or.inr ⟨by decide, xn 1, cfw (Ts := []) S kw_158, hX.2 (3, 1) (by decide)⟩
        rcases List.mem_cons.mp hz with rfl | hz
        · exact Or.inr ⟨by decide, xn 4, cfw (Ts := []) S kw_348, hX.2 (3, 4) (by decide)⟩
        cases hz) rfl (by decide) (cfw (Ts := []) S kw_160) (va_Nw.use rfl (hI.2.2.2.1 _ kn_278)) hce hcv hcl ?_
      refine W.eq (g2 := F0 m 20 ls _) rfl ?_
      refine lv_astore hx hb (lv' := [(5, .ref q9), (0, .ref (ad c0)), (1, .int x1), (2, .int x2), (3, .int x3), (4, .int x4)]) dL_plan_20 hl (Nat.le_of_ble_eq_true rfl) rfl (fun ls hl => ?_)
      refine lv_iconst hx hb dL_plan_22 kI_3 ?_
      exact hret _ _ _ _ _ _ hI hf dL_plan_23
    have hf := in_ hf h4
    cases hf
  · have hf := ip_ hf hn
    refine lv_goto (tgt := 24) hx hb dL_plan_9 rfl ?_
    refine lv_iconst hx hb dL_plan_24 kI_0 ?_
    exact hret _ _ _ _ _ _ hI hf dL_plan_25
/-- GuardVolumeLaw.cutAfter(LGuardVolume;I)I -/
abbrev rmL_cutAfter : Room := { frames := 7, cells := 1, slots := 6, locals := 102 }
def fL_cutAfter (Λ : La) (w : Wo) (c0 : Nat) (x1 : Int32) : Option (Wo × Int32) := (fG_cutAfter Λ w c0 x1).bind fun q1 => if q1.2.1 = 0 then (some (q1.1, 0)) else (if q1.2.1 = 4 then (some (q1.1, 1)) else (if q1.2.1 = 2 then (some (q1.1, 2)) else (none)))
set_option maxHeartbeats 4000000 in
set_option maxRecDepth 100000 in
theorem kL_cutAfter (l : Launch) (hlt : l.stackTraces = false) (G : va_G) (kA kL : ClassId) (Λ : La) (ad : Nat → Nat) (w : Wo) (c0 : Nat) (x1 : Int32) (w1 : Wo) (r : Int32) (hf : fL_cutAfter Λ w c0 x1 = some (w1, r)) : Ml l yL_cutAfter cL_cutAfter 3 [(0, 5, 8, 27), (0, 5, 11, 15)] rmL_cutAfter G kA kL Λ ad [.ref (ad c0), .int x1] w w1 r := by
  refine Ml.of (by decide +kernel) (Nat.le_of_ble_eq_true rfl) ?_
  intro p e s m args below meth c Q ls S htab hX hret hl hI
  have S : CallFix p m c cL_cutAfter 3 s args (.codeWith yL_cutAfter cL_cutAfter 3 (some .int) [(0, 5, 8, 27), (0, 5, 11, 15)] :: gW) "GuardVolumeLaw" := S
  have hl : lv_has ls 3 [(0, .ref (ad c0)), (1, .int x1)] := hl
  have hx := S.1
  have hb := S.2.1
  unfold fL_cutAfter at hf
  refine lv_aload_n hx hb dL_cutAfter_0 rfl (lv_at hl 0 rfl) ?_
  refine lv_iload_n hx hb dL_cutAfter_1 rfl (lv_at hl 1 rfl) ?_
  obtain ⟨q1, hq1, hf⟩ := ob_ hf
  refine rx_cv (rx_V (rest := []) (As := [.int x1]) S hl hI hX (xG_cutAfter l hlt G kA kL Λ ad w c0 x1 q1 hq1) pkG_cutAfter kw_380 kw_381 (fcG).1 (gd_some hq1).1 kw_379 ⟨rfl, rfl⟩ ⟨Nat.le_of_ble_eq_true rfl, Nat.le_of_ble_eq_true rfl⟩ rfl rfl (Nat.le_of_ble_eq_true rfl) ⟨Nat.le_of_ble_eq_true rfl, Nat.le_of_ble_eq_true rfl⟩ dL_cutAfter_2) hI (fun ce q9 H locs hn hI hce hcv hcl => ?_) (fun H locs hn hI => ?_)
  · have hf := in_ hf hn
    by_cases h2 : q1.2.1 = 4
    · have hf := ip_ hf h2
      rw [h2] at hcl
      refine vx_catch (E := xn 4) (name := xn 4) S.2.2.2.1 [] ⟨0, 5, 8, 27⟩ [⟨0, 5, 11, 15⟩] htab (fun z hz => by
        cases hz) rfl (by decide) (cfw (Ts := []) S kw_348) (va_Nw.use rfl (hI.2.2.2.1 _ kn_359)) hce hcv hcl ?_
      refine W.eq (g2 := F0 m 8 ls _) rfl ?_
      refine lv_astore_n hx hb (lv' := [(2, .ref q9), (0, .ref (ad c0)), (1, .int x1)]) dL_cutAfter_8 rfl hl (Nat.le_of_ble_eq_true rfl) rfl (fun ls hl => ?_)
      refine lv_iconst hx hb dL_cutAfter_9 kI_1 ?_
      exact hret _ _ _ _ _ _ hI hf dL_cutAfter_10
    have hf := in_ hf h2
    by_cases h3 : q1.2.1 = 2
    · have hf := ip_ hf h3
      rw [h3] at hcl
      refine vx_catch (E := xn 2) (name := xn 2) S.2.2.2.1 [⟨0, 5, 8, 27⟩] ⟨0, 5, 11, 15⟩ [] htab (fun z hz => by
        rcases List.mem_cons.mp hz with rfl | hz
        · exact Or.inr ⟨by decide, xn 4, cfw (Ts := []) S kw_348, hX.2 (2, 4) (by decide)⟩
        cases hz) rfl (by decide) (cfw (Ts := []) S kw_159) (va_Nw.use rfl (hI.2.2.2.1 _ kn_234)) hce hcv hcl ?_
      refine W.eq (g2 := F0 m 11 ls _) rfl ?_
      refine lv_astore_n hx hb (lv' := [(2, .ref q9), (0, .ref (ad c0)), (1, .int x1)]) dL_cutAfter_11 rfl hl (Nat.le_of_ble_eq_true rfl) rfl (fun ls hl => ?_)
      refine lv_iconst hx hb dL_cutAfter_12 kI_2 ?_
      exact hret _ _ _ _ _ _ hI hf dL_cutAfter_13
    have hf := in_ hf h3
    cases hf
  · have hf := ip_ hf hn
    refine lv_goto (tgt := 14) hx hb dL_cutAfter_5 rfl ?_
    refine lv_iconst hx hb dL_cutAfter_14 kI_0 ?_
    exact hret _ _ _ _ _ _ hI hf dL_cutAfter_15
/-- GuardVolumeLaw.start(LGuardVolume;[J)I -/
abbrev rmL_start : Room := { frames := 8, cells := 1, slots := 6, locals := 191 }
def fL_start (Λ : La) (w : Wo) (c0 : Nat) (c1 : Nat) : Option (Wo × Int32) := (fG_start Λ w c0).bind fun q1 => if q1.2.1 = 0 then ((sl Λ q1.1 c1 q1.2.2).bind fun w3 => some (w3, 0)) else (if q1.2.1 = 2 then (some (q1.1, 1)) else (none))
set_option maxHeartbeats 4000000 in
set_option maxRecDepth 100000 in
theorem kL_start (l : Launch) (hlt : l.stackTraces = false) (G : va_G) (kA kL : ClassId) (Λ : La) (ad : Nat → Nat) (w : Wo) (c0 : Nat) (c1 : Nat) (w1 : Wo) (r : Int32) (hf : fL_start Λ w c0 c1 = some (w1, r)) : Ml l yL_start cL_start 3 [(0, 8, 11, 15)] rmL_start G kA kL Λ ad [.ref (ad c0), .ref (ad c1)] w w1 r := by
  refine Ml.of (by decide +kernel) (Nat.le_of_ble_eq_true rfl) ?_
  intro p e s m args below meth c Q ls S htab hX hret hl hI
  have S : CallFix p m c cL_start 3 s args (.codeWith yL_start cL_start 3 (some .int) [(0, 8, 11, 15)] :: gW) "GuardVolumeLaw" := S
  have hl : lv_has ls 3 [(0, .ref (ad c0)), (1, .ref (ad c1))] := hl
  have hx := S.1
  have hb := S.2.1
  unfold fL_start at hf
  refine lv_aload_n hx hb dL_start_0 rfl (lv_at hl 1 rfl) ?_
  refine lv_iconst hx hb dL_start_1 kI_0 ?_
  refine lv_aload_n hx hb dL_start_2 rfl (lv_at hl 0 rfl) ?_
  obtain ⟨q1, hq1, hf⟩ := ob_ hf
  refine rx_ci (rx_V (rest := [.int 0, .ref (ad c1)]) (As := []) S hl hI hX (xG_start l hlt G kA kL Λ ad w c0 q1 hq1) pkG_start kw_387 kw_388 (fcG).1 (gd_some hq1).1 kw_386 ⟨rfl, rfl⟩ ⟨Nat.le_of_ble_eq_true rfl, Nat.le_of_ble_eq_true rfl⟩ rfl rfl (Nat.le_of_ble_eq_true rfl) ⟨Nat.le_of_ble_eq_true rfl, Nat.le_of_ble_eq_true rfl⟩ dL_start_3) hI (fun ce q9 H locs hn hI hce hcv hcl => ?_) (fun H locs hn hI => ?_)
  · have hf := in_ hf hn
    by_cases h2 : q1.2.1 = 2
    · have hf := ip_ hf h2
      rw [h2] at hcl
      refine vx_catch (E := xn 2) (name := xn 2) S.2.2.2.1 [] ⟨0, 8, 11, 15⟩ [] htab (fun z hz => by
        cases hz) rfl (by decide) (cfw (Ts := []) S kw_159) (va_Nw.use rfl (hI.2.2.2.1 _ kn_234)) hce hcv hcl ?_
      refine W.eq (g2 := F0 m 11 ls _) rfl ?_
      refine lv_astore_n hx hb (lv' := [(2, .ref q9), (0, .ref (ad c0)), (1, .ref (ad c1))]) dL_start_11 rfl hl (Nat.le_of_ble_eq_true rfl) rfl (fun ls hl => ?_)
      refine lv_iconst hx hb dL_start_12 kI_1 ?_
      exact hret _ _ _ _ _ _ hI hf dL_start_13
    have hf := in_ hf h2
    cases hf
  · have hf := ip_ hf hn
    refine lv_i2l hx hb dL_start_6 rfl ?_
    obtain ⟨w3, hw3, hf⟩ := ob_ hf
    refine r_last S hI dL_start_7 hw3 (fun H locs hI => ?_)
    refine lv_goto (tgt := 14) hx hb dL_start_8 rfl ?_
    refine lv_iconst hx hb dL_start_14 kI_0 ?_
    exact hret _ _ _ _ _ _ hI hf dL_start_15
/-- GuardVolumeLaw.scrub(LGuardVolume;I[J)I -/
abbrev rmL_scrub : Room := { frames := 8, cells := 1, slots := 6, locals := 193 }
def fL_scrub (Λ : La) (w : Wo) (c0 : Nat) (x1 : Int32) (c2 : Nat) : Option (Wo × Int32) := (fG_scrub Λ w c0 x1).bind fun q1 => if q1.2.1 = 0 then ((sl Λ q1.1 c2 q1.2.2).bind fun w4 => some (w4, 0)) else (if q1.2.1 = 2 then (some (q1.1, 1)) else (if q1.2.1 = 4 then (some (q1.1, 2)) else (none)))
set_option maxHeartbeats 4000000 in
set_option maxRecDepth 100000 in
theorem kL_scrub (l : Launch) (hlt : l.stackTraces = false) (G : va_G) (kA kL : ClassId) (Λ : La) (ad : Nat → Nat) (w : Wo) (c0 : Nat) (x1 : Int32) (c2 : Nat) (w1 : Wo) (r : Int32) (hf : fL_scrub Λ w c0 x1 c2 = some (w1, r)) : Ml l yL_scrub cL_scrub 4 [(0, 9, 12, 15), (0, 9, 15, 27)] rmL_scrub G kA kL Λ ad [.ref (ad c0), .int x1, .ref (ad c2)] w w1 r := by
  refine Ml.of (by decide +kernel) (Nat.le_of_ble_eq_true rfl) ?_
  intro p e s m args below meth c Q ls S htab hX hret hl hI
  have S : CallFix p m c cL_scrub 4 s args (.codeWith yL_scrub cL_scrub 4 (some .int) [(0, 9, 12, 15), (0, 9, 15, 27)] :: gW) "GuardVolumeLaw" := S
  have hl : lv_has ls 4 [(0, .ref (ad c0)), (1, .int x1), (2, .ref (ad c2))] := hl
  have hx := S.1
  have hb := S.2.1
  unfold fL_scrub at hf
  refine lv_aload_n hx hb dL_scrub_0 rfl (lv_at hl 2 rfl) ?_
  refine lv_iconst hx hb dL_scrub_1 kI_0 ?_
  refine lv_aload_n hx hb dL_scrub_2 rfl (lv_at hl 0 rfl) ?_
  refine lv_iload_n hx hb dL_scrub_3 rfl (lv_at hl 1 rfl) ?_
  obtain ⟨q1, hq1, hf⟩ := ob_ hf
  refine rx_ci (rx_V (rest := [.int 0, .ref (ad c2)]) (As := [.int x1]) S hl hI hX (xG_scrub l hlt G kA kL Λ ad w c0 x1 q1 hq1) pkG_scrub kw_394 kw_395 (fcG).1 (gd_some hq1).1 kw_393 ⟨rfl, rfl⟩ ⟨Nat.le_of_ble_eq_true rfl, Nat.le_of_ble_eq_true rfl⟩ rfl rfl (Nat.le_of_ble_eq_true rfl) ⟨Nat.le_of_ble_eq_true rfl, Nat.le_of_ble_eq_true rfl⟩ dL_scrub_4) hI (fun ce q9 H locs hn hI hce hcv hcl => ?_) (fun H locs hn hI => ?_)
  · have hf := in_ hf hn
    by_cases h2 : q1.2.1 = 2
    · have hf := ip_ hf h2
      rw [h2] at hcl
      refine vx_catch (E := xn 2) (name := xn 2) S.2.2.2.1 [] ⟨0, 9, 12, 15⟩ [⟨0, 9, 15, 27⟩] htab (fun z hz => by
        cases hz) rfl (by decide) (cfw (Ts := []) S kw_159) (va_Nw.use rfl (hI.2.2.2.1 _ kn_234)) hce hcv hcl ?_
      refine W.eq (g2 := F0 m 12 ls _) rfl ?_
      refine lv_astore_n hx hb (lv' := [(3, .ref q9), (0, .ref (ad c0)), (1, .int x1), (2, .ref (ad c2))]) dL_scrub_12 rfl hl (Nat.le_of_ble_eq_true rfl) rfl (fun ls hl => ?_)
      refine lv_iconst hx hb dL_scrub_13 kI_1 ?_
      exact hret _ _ _ _ _ _ hI hf dL_scrub_14
    have hf := in_ hf h2
    by_cases h3 : q1.2.1 = 4
    · have hf := ip_ hf h3
      rw [h3] at hcl
      refine vx_catch (E := xn 4) (name := xn 4) S.2.2.2.1 [⟨0, 9, 12, 15⟩] ⟨0, 9, 15, 27⟩ [] htab (fun z hz => by
        rcases List.mem_cons.mp hz with rfl | hz
        · exact Or.inr ⟨by decide, xn 2, cfw (Ts := []) S kw_159, hX.2 (4, 2) (by decide)⟩
        cases hz) rfl (by decide) (cfw (Ts := []) S kw_348) (va_Nw.use rfl (hI.2.2.2.1 _ kn_359)) hce hcv hcl ?_
      refine W.eq (g2 := F0 m 15 ls _) rfl ?_
      refine lv_astore_n hx hb (lv' := [(3, .ref q9), (0, .ref (ad c0)), (1, .int x1), (2, .ref (ad c2))]) dL_scrub_15 rfl hl (Nat.le_of_ble_eq_true rfl) rfl (fun ls hl => ?_)
      refine lv_iconst hx hb dL_scrub_16 kI_2 ?_
      exact hret _ _ _ _ _ _ hI hf dL_scrub_17
    have hf := in_ hf h3
    cases hf
  · have hf := ip_ hf hn
    refine lv_i2l hx hb dL_scrub_7 rfl ?_
    obtain ⟨w4, hw4, hf⟩ := ob_ hf
    refine r_last S hI dL_scrub_8 hw4 (fun H locs hI => ?_)
    refine lv_goto (tgt := 18) hx hb dL_scrub_9 rfl ?_
    refine lv_iconst hx hb dL_scrub_18 kI_0 ?_
    exact hret _ _ _ _ _ _ hI hf dL_scrub_19
/-- GuardVolumeLaw.finding(LGuardVolume;II[J)I -/
abbrev rmL_finding : Room := { frames := 7, cells := 1, slots := 6, locals := 103 }
def fL_finding (Λ : La) (w : Wo) (c0 : Nat) (x1 : Int32) (x2 : Int32) (c3 : Nat) : Option (Wo × Int32) := (fG_finding Λ w c0 x1 x2).bind fun q1 => if q1.2.1 = 0 then ((sl Λ q1.1 c3 q1.2.2).bind fun w3 => some (w3, 0)) else (if q1.2.1 = 1 then (some (q1.1, 1)) else (none))
set_option maxHeartbeats 4000000 in
set_option maxRecDepth 100000 in
theorem kL_finding (l : Launch) (hlt : l.stackTraces = false) (G : va_G) (kA kL : ClassId) (Λ : La) (ad : Nat → Nat) (w : Wo) (c0 : Nat) (x1 : Int32) (x2 : Int32) (c3 : Nat) (w1 : Wo) (r : Int32) (hf : fL_finding Λ w c0 x1 x2 c3 = some (w1, r)) : Ml l yL_finding cL_finding 5 [(0, 10, 13, 13)] rmL_finding G kA kL Λ ad [.ref (ad c0), .int x1, .int x2, .ref (ad c3)] w w1 r := by
  refine Ml.of (by decide +kernel) (Nat.le_of_ble_eq_true rfl) ?_
  intro p e s m args below meth c Q ls S htab hX hret hl hI
  have S : CallFix p m c cL_finding 5 s args (.codeWith yL_finding cL_finding 5 (some .int) [(0, 10, 13, 13)] :: gW) "GuardVolumeLaw" := S
  have hl : lv_has ls 5 [(0, .ref (ad c0)), (1, .int x1), (2, .int x2), (3, .ref (ad c3))] := hl
  have hx := S.1
  have hb := S.2.1
  unfold fL_finding at hf
  refine lv_aload_n hx hb dL_finding_0 rfl (lv_at hl 3 rfl) ?_
  refine lv_iconst hx hb dL_finding_1 kI_0 ?_
  refine lv_aload_n hx hb dL_finding_2 rfl (lv_at hl 0 rfl) ?_
  refine lv_iload_n hx hb dL_finding_3 rfl (lv_at hl 1 rfl) ?_
  refine lv_iload_n hx hb dL_finding_4 rfl (lv_at hl 2 rfl) ?_
  obtain ⟨q1, hq1, hf⟩ := ob_ hf
  refine rx_ci (rx_V (rest := [.int 0, .ref (ad c3)]) (As := [.int x1, .int x2]) S hl hI hX (xG_finding l hlt G kA kL Λ ad w c0 x1 x2 q1 hq1) pkG_finding kw_417 kw_418 (fcG).1 (gd_some hq1).1 kw_416 ⟨rfl, rfl⟩ ⟨Nat.le_of_ble_eq_true rfl, Nat.le_of_ble_eq_true rfl⟩ rfl rfl (Nat.le_of_ble_eq_true rfl) ⟨Nat.le_of_ble_eq_true rfl, Nat.le_of_ble_eq_true rfl⟩ dL_finding_5) hI (fun ce q9 H locs hn hI hce hcv hcl => ?_) (fun H locs hn hI => ?_)
  · have hf := in_ hf hn
    by_cases h2 : q1.2.1 = 1
    · have hf := ip_ hf h2
      rw [h2] at hcl
      refine vx_catch (E := xn 1) (name := xn 1) S.2.2.2.1 [] ⟨0, 10, 13, 13⟩ [] htab (fun z hz => by
        cases hz) rfl (by decide) (cfw (Ts := []) S kw_158) (va_Nw.use rfl (hI.2.2.2.1 _ kn_170)) hce hcv hcl ?_
      refine W.eq (g2 := F0 m 13 ls _) rfl ?_
      refine lv_astore hx hb (lv' := [(4, .ref q9), (0, .ref (ad c0)), (1, .int x1), (2, .int x2), (3, .ref (ad c3))]) dL_finding_13 hl (Nat.le_of_ble_eq_true rfl) rfl (fun ls hl => ?_)
      refine lv_iconst hx hb dL_finding_15 kI_1 ?_
      exact hret _ _ _ _ _ _ hI hf dL_finding_16
    have hf := in_ hf h2
    cases hf
  · have hf := ip_ hf hn
    refine lv_i2l hx hb dL_finding_8 rfl ?_
    obtain ⟨w3, hw3, hf⟩ := ob_ hf
    refine r_last S hI dL_finding_9 hw3 (fun H locs hI => ?_)
    refine lv_goto (tgt := 17) hx hb dL_finding_10 rfl ?_
    refine lv_iconst hx hb dL_finding_17 kI_0 ?_
    exact hret _ _ _ _ _ _ hI hf dL_finding_18
/-- GuardVolumeLaw.expected(LGuardVolume;II[J)I -/
abbrev rmL_expected : Room := { frames := 7, cells := 1, slots := 6, locals := 115 }
def fL_expected (Λ : La) (w : Wo) (c0 : Nat) (x1 : Int32) (x2 : Int32) (c3 : Nat) : Option (Wo × Int32) := (fG_expected Λ w c0 x1 x2).bind fun q1 => if q1.2.1 = 0 then ((sl Λ q1.1 c3 q1.2.2).bind fun w3 => some (w3, 0)) else (if q1.2.1 = 1 then (some (q1.1, 1)) else (none))
set_option maxHeartbeats 4000000 in
set_option maxRecDepth 100000 in
theorem kL_expected (l : Launch) (hlt : l.stackTraces = false) (G : va_G) (kA kL : ClassId) (Λ : La) (ad : Nat → Nat) (w : Wo) (c0 : Nat) (x1 : Int32) (x2 : Int32) (c3 : Nat) (w1 : Wo) (r : Int32) (hf : fL_expected Λ w c0 x1 x2 c3 = some (w1, r)) : Ml l yL_expected cL_expected 5 [(0, 10, 13, 13)] rmL_expected G kA kL Λ ad [.ref (ad c0), .int x1, .int x2, .ref (ad c3)] w w1 r := by
  refine Ml.of (by decide +kernel) (Nat.le_of_ble_eq_true rfl) ?_
  intro p e s m args below meth c Q ls S htab hX hret hl hI
  have S : CallFix p m c cL_expected 5 s args (.codeWith yL_expected cL_expected 5 (some .int) [(0, 10, 13, 13)] :: gW) "GuardVolumeLaw" := S
  have hl : lv_has ls 5 [(0, .ref (ad c0)), (1, .int x1), (2, .int x2), (3, .ref (ad c3))] := hl
  have hx := S.1
  have hb := S.2.1
  unfold fL_expected at hf
  refine lv_aload_n hx hb dL_expected_0 rfl (lv_at hl 3 rfl) ?_
  refine lv_iconst hx hb dL_expected_1 kI_0 ?_
  refine lv_aload_n hx hb dL_expected_2 rfl (lv_at hl 0 rfl) ?_
  refine lv_iload_n hx hb dL_expected_3 rfl (lv_at hl 1 rfl) ?_
  refine lv_iload_n hx hb dL_expected_4 rfl (lv_at hl 2 rfl) ?_
  obtain ⟨q1, hq1, hf⟩ := ob_ hf
  refine rx_ci (rx_V (rest := [.int 0, .ref (ad c3)]) (As := [.int x1, .int x2]) S hl hI hX (xG_expected l hlt G kA kL Λ ad w c0 x1 x2 q1 hq1) pkG_expected kw_424 kw_425 (fcG).1 (gd_some hq1).1 kw_423 ⟨rfl, rfl⟩ ⟨Nat.le_of_ble_eq_true rfl, Nat.le_of_ble_eq_true rfl⟩ rfl rfl (Nat.le_of_ble_eq_true rfl) ⟨Nat.le_of_ble_eq_true rfl, Nat.le_of_ble_eq_true rfl⟩ dL_expected_5) hI (fun ce q9 H locs hn hI hce hcv hcl => ?_) (fun H locs hn hI => ?_)
  · have hf := in_ hf hn
    by_cases h2 : q1.2.1 = 1
    · have hf := ip_ hf h2
      rw [h2] at hcl
      refine vx_catch (E := xn 1) (name := xn 1) S.2.2.2.1 [] ⟨0, 10, 13, 13⟩ [] htab (fun z hz => by
        cases hz) rfl (by decide) (cfw (Ts := []) S kw_158) (va_Nw.use rfl (hI.2.2.2.1 _ kn_170)) hce hcv hcl ?_
      refine W.eq (g2 := F0 m 13 ls _) rfl ?_
      refine lv_astore hx hb (lv' := [(4, .ref q9), (0, .ref (ad c0)), (1, .int x1), (2, .int x2), (3, .ref (ad c3))]) dL_expected_13 hl (Nat.le_of_ble_eq_true rfl) rfl (fun ls hl => ?_)
      refine lv_iconst hx hb dL_expected_15 kI_1 ?_
      exact hret _ _ _ _ _ _ hI hf dL_expected_16
    have hf := in_ hf h2
    cases hf
  · have hf := ip_ hf hn
    refine lv_i2l hx hb dL_expected_8 rfl ?_
    obtain ⟨w3, hw3, hf⟩ := ob_ hf
    refine r_last S hI dL_expected_9 hw3 (fun H locs hI => ?_)
    refine lv_goto (tgt := 17) hx hb dL_expected_10 rfl ?_
    refine lv_iconst hx hb dL_expected_17 kI_0 ?_
    exact hret _ _ _ _ _ _ hI hf dL_expected_18
/-- GuardVolumeLaw.verdict(LGuardVolume;II[J)I -/
abbrev rmL_verdict : Room := { frames := 7, cells := 1, slots := 6, locals := 140 }
def fL_verdict (Λ : La) (w : Wo) (c0 : Nat) (x1 : Int32) (x2 : Int32) (c3 : Nat) : Option (Wo × Int32) := (fG_verdict Λ w c0 x1 x2).bind fun q1 => if q1.2.1 = 0 then ((sl Λ q1.1 c3 q1.2.2).bind fun w3 => some (w3, 0)) else (if q1.2.1 = 1 then (some (q1.1, 1)) else (none))
set_option maxHeartbeats 4000000 in
set_option maxRecDepth 100000 in
theorem kL_verdict (l : Launch) (hlt : l.stackTraces = false) (G : va_G) (kA kL : ClassId) (Λ : La) (ad : Nat → Nat) (w : Wo) (c0 : Nat) (x1 : Int32) (x2 : Int32) (c3 : Nat) (w1 : Wo) (r : Int32) (hf : fL_verdict Λ w c0 x1 x2 c3 = some (w1, r)) : Ml l yL_verdict cL_verdict 5 [(0, 10, 13, 13)] rmL_verdict G kA kL Λ ad [.ref (ad c0), .int x1, .int x2, .ref (ad c3)] w w1 r := by
  refine Ml.of (by decide +kernel) (Nat.le_of_ble_eq_true rfl) ?_
  intro p e s m args below meth c Q ls S htab hX hret hl hI
  have S : CallFix p m c cL_verdict 5 s args (.codeWith yL_verdict cL_verdict 5 (some .int) [(0, 10, 13, 13)] :: gW) "GuardVolumeLaw" := S
  have hl : lv_has ls 5 [(0, .ref (ad c0)), (1, .int x1), (2, .int x2), (3, .ref (ad c3))] := hl
  have hx := S.1
  have hb := S.2.1
  unfold fL_verdict at hf
  refine lv_aload_n hx hb dL_verdict_0 rfl (lv_at hl 3 rfl) ?_
  refine lv_iconst hx hb dL_verdict_1 kI_0 ?_
  refine lv_aload_n hx hb dL_verdict_2 rfl (lv_at hl 0 rfl) ?_
  refine lv_iload_n hx hb dL_verdict_3 rfl (lv_at hl 1 rfl) ?_
  refine lv_iload_n hx hb dL_verdict_4 rfl (lv_at hl 2 rfl) ?_
  obtain ⟨q1, hq1, hf⟩ := ob_ hf
  refine rx_ci (rx_V (rest := [.int 0, .ref (ad c3)]) (As := [.int x1, .int x2]) S hl hI hX (xG_verdict l hlt G kA kL Λ ad w c0 x1 x2 q1 hq1) pkG_verdict kw_431 kw_432 (fcG).1 (gd_some hq1).1 kw_430 ⟨rfl, rfl⟩ ⟨Nat.le_of_ble_eq_true rfl, Nat.le_of_ble_eq_true rfl⟩ rfl rfl (Nat.le_of_ble_eq_true rfl) ⟨Nat.le_of_ble_eq_true rfl, Nat.le_of_ble_eq_true rfl⟩ dL_verdict_5) hI (fun ce q9 H locs hn hI hce hcv hcl => ?_) (fun H locs hn hI => ?_)
  · have hf := in_ hf hn
    by_cases h2 : q1.2.1 = 1
    · have hf := ip_ hf h2
      rw [h2] at hcl
      refine vx_catch (E := xn 1) (name := xn 1) S.2.2.2.1 [] ⟨0, 10, 13, 13⟩ [] htab (fun z hz => by
        cases hz) rfl (by decide) (cfw (Ts := []) S kw_158) (va_Nw.use rfl (hI.2.2.2.1 _ kn_170)) hce hcv hcl ?_
      refine W.eq (g2 := F0 m 13 ls _) rfl ?_
      refine lv_astore hx hb (lv' := [(4, .ref q9), (0, .ref (ad c0)), (1, .int x1), (2, .int x2), (3, .ref (ad c3))]) dL_verdict_13 hl (Nat.le_of_ble_eq_true rfl) rfl (fun ls hl => ?_)
      refine lv_iconst hx hb dL_verdict_15 kI_1 ?_
      exact hret _ _ _ _ _ _ hI hf dL_verdict_16
    have hf := in_ hf h2
    cases hf
  · have hf := ip_ hf hn
    refine lv_i2l hx hb dL_verdict_8 rfl ?_
    obtain ⟨w3, hw3, hf⟩ := ob_ hf
    refine r_last S hI dL_verdict_9 hw3 (fun H locs hI => ?_)
    refine lv_goto (tgt := 17) hx hb dL_verdict_10 rfl ?_
    refine lv_iconst hx hb dL_verdict_17 kI_0 ?_
    exact hret _ _ _ _ _ _ hI hf dL_verdict_18
/-- GuardVolumeLaw.isRight(LGuardVolume;II[J)I -/
abbrev rmL_isRight : Room := { frames := 7, cells := 1, slots := 6, locals := 103 }
def fL_isRight (Λ : La) (w : Wo) (c0 : Nat) (x1 : Int32) (x2 : Int32) (c3 : Nat) : Option (Wo × Int32) := (fG_isRight Λ w c0 x1 x2).bind fun q1 => if q1.2.1 = 0 then (if q1.2.2 = 0 then ((sl Λ q1.1 c3 0).bind fun w4 => some (w4, 0)) else ((sl Λ q1.1 c3 1).bind fun w5 => some (w5, 0))) else (if q1.2.1 = 1 then (some (q1.1, 1)) else (none))
set_option maxHeartbeats 4000000 in
set_option maxRecDepth 100000 in
theorem kL_isRight (l : Launch) (hlt : l.stackTraces = false) (G : va_G) (kA kL : ClassId) (Λ : La) (ad : Nat → Nat) (w : Wo) (c0 : Nat) (x1 : Int32) (x2 : Int32) (c3 : Nat) (w1 : Wo) (r : Int32) (hf : fL_isRight Λ w c0 x1 x2 c3 = some (w1, r)) : Ml l yL_isRight cL_isRight 5 [(0, 17, 20, 13)] rmL_isRight G kA kL Λ ad [.ref (ad c0), .int x1, .int x2, .ref (ad c3)] w w1 r := by
  refine Ml.of (by decide +kernel) (Nat.le_of_ble_eq_true rfl) ?_
  intro p e s m args below meth c Q ls S htab hX hret hl hI
  have S : CallFix p m c cL_isRight 5 s args (.codeWith yL_isRight cL_isRight 5 (some .int) [(0, 17, 20, 13)] :: gW) "GuardVolumeLaw" := S
  have hl : lv_has ls 5 [(0, .ref (ad c0)), (1, .int x1), (2, .int x2), (3, .ref (ad c3))] := hl
  have hx := S.1
  have hb := S.2.1
  unfold fL_isRight at hf
  refine lv_aload_n hx hb dL_isRight_0 rfl (lv_at hl 3 rfl) ?_
  refine lv_iconst hx hb dL_isRight_1 kI_0 ?_
  refine lv_aload_n hx hb dL_isRight_2 rfl (lv_at hl 0 rfl) ?_
  refine lv_iload_n hx hb dL_isRight_3 rfl (lv_at hl 1 rfl) ?_
  refine lv_iload_n hx hb dL_isRight_4 rfl (lv_at hl 2 rfl) ?_
  obtain ⟨q1, hq1, hf⟩ := ob_ hf
  refine rx_ci (rx_V (rest := [.int 0, .ref (ad c3)]) (As := [.int x1, .int x2]) S hl hI hX (xG_isRight l hlt G kA kL Λ ad w c0 x1 x2 q1 hq1) pkG_isRight kw_438 kw_439 (fcG).1 (gd_some hq1).1 kw_437 ⟨rfl, rfl⟩ ⟨Nat.le_of_ble_eq_true rfl, Nat.le_of_ble_eq_true rfl⟩ rfl rfl (Nat.le_of_ble_eq_true rfl) ⟨Nat.le_of_ble_eq_true rfl, Nat.le_of_ble_eq_true rfl⟩ dL_isRight_5) hI (fun ce q9 H locs hn hI hce hcv hcl => ?_) (fun H locs hn hI => ?_)
  · have hf := in_ hf hn
    by_cases h2 : q1.2.1 = 1
    · have hf := ip_ hf h2
      rw [h2] at hcl
      refine vx_catch (E := xn 1) (name := xn 1) S.2.2.2.1 [] ⟨0, 17, 20, 13⟩ [] htab (fun z hz => by
        cases hz) rfl (by decide) (cfw (Ts := []) S kw_158) (va_Nw.use rfl (hI.2.2.2.1 _ kn_170)) hce hcv hcl ?_
      refine W.eq (g2 := F0 m 20 ls _) rfl ?_
      refine lv_astore hx hb (lv' := [(4, .ref q9), (0, .ref (ad c0)), (1, .int x1), (2, .int x2), (3, .ref (ad c3))]) dL_isRight_20 hl (Nat.le_of_ble_eq_true rfl) rfl (fun ls hl => ?_)
      refine lv_iconst hx hb dL_isRight_22 kI_1 ?_
      exact hret _ _ _ _ _ _ hI hf dL_isRight_23
    have hf := in_ hf h2
    cases hf
  · have hf := ip_ hf hn
    refine lv_if_eq (tgt := 15) hx hb dL_isRight_8 rfl (fun h3 => ?_) (fun h3 => ?_)
    · have hf := ip_ hf h3
      refine lv_lconst hx hb dL_isRight_15 lc0 ?_
      obtain ⟨w4, hw4, hf⟩ := ob_ hf
      refine r_last S hI dL_isRight_16 hw4 (fun H locs hI => ?_)
      refine lv_goto (tgt := 24) hx hb dL_isRight_17 rfl ?_
      refine lv_iconst hx hb dL_isRight_24 kI_0 ?_
      exact hret _ _ _ _ _ _ hI hf dL_isRight_25
    · have hf := in_ hf h3
      refine lv_lconst hx hb dL_isRight_11 lc1 ?_
      refine lv_goto (tgt := 16) hx hb dL_isRight_12 rfl ?_
      obtain ⟨w5, hw5, hf⟩ := ob_ hf
      refine r_last S hI dL_isRight_16 hw5 (fun H locs hI => ?_)
      refine lv_goto (tgt := 24) hx hb dL_isRight_17 rfl ?_
      refine lv_iconst hx hb dL_isRight_24 kI_0 ?_
      exact hret _ _ _ _ _ _ hI hf dL_isRight_25
/-- GuardVolumeLaw.raw(LGuardVolume;III[J)I -/
abbrev rmL_raw : Room := { frames := 7, cells := 1, slots := 6, locals := 104 }
def fL_raw (Λ : La) (w : Wo) (c0 : Nat) (x1 : Int32) (x2 : Int32) (x3 : Int32) (c4 : Nat) : Option (Wo × Int32) := (fG_raw Λ w c0 x1 x2 x3).bind fun q1 => if q1.2.1 = 0 then ((sl Λ q1.1 c4 q1.2.2).bind fun w3 => some (w3, 0)) else (if q1.2.1 = 1 then (some (q1.1, 1)) else (none))
set_option maxHeartbeats 4000000 in
set_option maxRecDepth 100000 in
theorem kL_raw (l : Launch) (hlt : l.stackTraces = false) (G : va_G) (kA kL : ClassId) (Λ : La) (ad : Nat → Nat) (w : Wo) (c0 : Nat) (x1 : Int32) (x2 : Int32) (x3 : Int32) (c4 : Nat) (w1 : Wo) (r : Int32) (hf : fL_raw Λ w c0 x1 x2 x3 c4 = some (w1, r)) : Ml l yL_raw cL_raw 6 [(0, 12, 15, 13)] rmL_raw G kA kL Λ ad [.ref (ad c0), .int x1, .int x2, .int x3, .ref (ad c4)] w w1 r := by
  refine Ml.of (by decide +kernel) (Nat.le_of_ble_eq_true rfl) ?_
  intro p e s m args below meth c Q ls S htab hX hret hl hI
  have S : CallFix p m c cL_raw 6 s args (.codeWith yL_raw cL_raw 6 (some .int) [(0, 12, 15, 13)] :: gW) "GuardVolumeLaw" := S
  have hl : lv_has ls 6 [(0, .ref (ad c0)), (1, .int x1), (2, .int x2), (3, .int x3), (4, .ref (ad c4))] := hl
  have hx := S.1
  have hb := S.2.1
  unfold fL_raw at hf
  refine lv_aload hx hb dL_raw_0 (lv_at hl 4 rfl) ?_
  refine lv_iconst hx hb dL_raw_2 kI_0 ?_
  refine lv_aload_n hx hb dL_raw_3 rfl (lv_at hl 0 rfl) ?_
  refine lv_iload_n hx hb dL_raw_4 rfl (lv_at hl 1 rfl) ?_
  refine lv_iload_n hx hb dL_raw_5 rfl (lv_at hl 2 rfl) ?_
  refine lv_iload_n hx hb dL_raw_6 rfl (lv_at hl 3 rfl) ?_
  obtain ⟨q1, hq1, hf⟩ := ob_ hf
  refine rx_ci (rx_V (rest := [.int 0, .ref (ad c4)]) (As := [.int x1, .int x2, .int x3]) S hl hI hX (xG_raw l hlt G kA kL Λ ad w c0 x1 x2 x3 q1 hq1) pkG_raw kw_445 kw_446 (fcG).1 (gd_some hq1).1 kw_444 ⟨rfl, rfl⟩ ⟨Nat.le_of_ble_eq_true rfl, Nat.le_of_ble_eq_true rfl⟩ rfl rfl (Nat.le_of_ble_eq_true rfl) ⟨Nat.le_of_ble_eq_true rfl, Nat.le_of_ble_eq_true rfl⟩ dL_raw_7) hI (fun ce q9 H locs hn hI hce hcv hcl => ?_) (fun H locs hn hI => ?_)
  · have hf := in_ hf hn
    by_cases h2 : q1.2.1 = 1
    · have hf := ip_ hf h2
      rw [h2] at hcl
      refine vx_catch (E := xn 1) (name := xn 1) S.2.2.2.1 [] ⟨0, 12, 15, 13⟩ [] htab (fun z hz => by
        cases hz) rfl (by decide) (cfw (Ts := []) S kw_158) (va_Nw.use rfl (hI.2.2.2.1 _ kn_170)) hce hcv hcl ?_
      refine W.eq (g2 := F0 m 15 ls _) rfl ?_
      refine lv_astore hx hb (lv' := [(5, .ref q9), (0, .ref (ad c0)), (1, .int x1), (2, .int x2), (3, .int x3), (4, .ref (ad c4))]) dL_raw_15 hl (Nat.le_of_ble_eq_true rfl) rfl (fun ls hl => ?_)
      refine lv_iconst hx hb dL_raw_17 kI_1 ?_
      exact hret _ _ _ _ _ _ hI hf dL_raw_18
    have hf := in_ hf h2
    cases hf
  · have hf := ip_ hf hn
    refine lv_i2l hx hb dL_raw_10 rfl ?_
    obtain ⟨w3, hw3, hf⟩ := ob_ hf
    refine r_last S hI dL_raw_11 hw3 (fun H locs hI => ?_)
    refine lv_goto (tgt := 19) hx hb dL_raw_12 rfl ?_
    refine lv_iconst hx hb dL_raw_19 kI_0 ?_
    exact hret _ _ _ _ _ _ hI hf dL_raw_20
/-- GuardVolumeLaw.replace(LGuardVolume;I)I -/
abbrev rmL_replace : Room := { frames := 7, cells := 1, slots := 6, locals := 102 }
def fL_replace (Λ : La) (w : Wo) (c0 : Nat) (x1 : Int32) : Option (Wo × Int32) := (fG_replace Λ w c0 x1).bind fun q1 => if q1.2.1 = 0 then (some (q1.1, 0)) else (if q1.2.1 = 1 then (some (q1.1, 1)) else (if q1.2.1 = 2 then (some (q1.1, 2)) else (none)))
set_option maxHeartbeats 4000000 in
set_option maxRecDepth 100000 in
theorem kL_replace (l : Launch) (hlt : l.stackTraces = false) (G : va_G) (kA kL : ClassId) (Λ : La) (ad : Nat → Nat) (w : Wo) (c0 : Nat) (x1 : Int32) (w1 : Wo) (r : Int32) (hf : fL_replace Λ w c0 x1 = some (w1, r)) : Ml l yL_replace cL_replace 3 [(0, 5, 8, 13), (0, 5, 11, 15)] rmL_replace G kA kL Λ ad [.ref (ad c0), .int x1] w w1 r := by
  refine Ml.of (by decide +kernel) (Nat.le_of_ble_eq_true rfl) ?_
  intro p e s m args below meth c Q ls S htab hX hret hl hI
  have S : CallFix p m c cL_replace 3 s args (.codeWith yL_replace cL_replace 3 (some .int) [(0, 5, 8, 13), (0, 5, 11, 15)] :: gW) "GuardVolumeLaw" := S
  have hl : lv_has ls 3 [(0, .ref (ad c0)), (1, .int x1)] := hl
  have hx := S.1
  have hb := S.2.1
  unfold fL_replace at hf
  refine lv_aload_n hx hb dL_replace_0 rfl (lv_at hl 0 rfl) ?_
  refine lv_iload_n hx hb dL_replace_1 rfl (lv_at hl 1 rfl) ?_
  obtain ⟨q1, hq1, hf⟩ := ob_ hf
  refine rx_cv (rx_V (rest := []) (As := [.int x1]) S hl hI hX (xG_replace l hlt G kA kL Λ ad w c0 x1 q1 hq1) pkG_replace kw_452 kw_453 (fcG).1 (gd_some hq1).1 kw_451 ⟨rfl, rfl⟩ ⟨Nat.le_of_ble_eq_true rfl, Nat.le_of_ble_eq_true rfl⟩ rfl rfl (Nat.le_of_ble_eq_true rfl) ⟨Nat.le_of_ble_eq_true rfl, Nat.le_of_ble_eq_true rfl⟩ dL_replace_2) hI (fun ce q9 H locs hn hI hce hcv hcl => ?_) (fun H locs hn hI => ?_)
  · have hf := in_ hf hn
    by_cases h2 : q1.2.1 = 1
    · have hf := ip_ hf h2
      rw [h2] at hcl
      refine vx_catch (E := xn 1) (name := xn 1) S.2.2.2.1 [] ⟨0, 5, 8, 13⟩ [⟨0, 5, 11, 15⟩] htab (fun z hz => by
        cases hz) rfl (by decide) (cfw (Ts := []) S kw_158) (va_Nw.use rfl (hI.2.2.2.1 _ kn_170)) hce hcv hcl ?_
      refine W.eq (g2 := F0 m 8 ls _) rfl ?_
      refine lv_astore_n hx hb (lv' := [(2, .ref q9), (0, .ref (ad c0)), (1, .int x1)]) dL_replace_8 rfl hl (Nat.le_of_ble_eq_true rfl) rfl (fun ls hl => ?_)
      refine lv_iconst hx hb dL_replace_9 kI_1 ?_
      exact hret _ _ _ _ _ _ hI hf dL_replace_10
    have hf := in_ hf h2
    by_cases h3 : q1.2.1 = 2
    · have hf := ip_ hf h3
      rw [h3] at hcl
      refine vx_catch (E := xn 2) (name := xn 2) S.2.2.2.1 [⟨0, 5, 8, 13⟩] ⟨0, 5, 11, 15⟩ [] htab (fun z hz => by
        rcases List.mem_cons.mp hz with rfl | hz
        · exact Or.inr ⟨by decide, xn 1, cfw (Ts := []) S kw_158, hX.2 (2, 1) (by decide)⟩
        cases hz) rfl (by decide) (cfw (Ts := []) S kw_159) (va_Nw.use rfl (hI.2.2.2.1 _ kn_234)) hce hcv hcl ?_
      refine W.eq (g2 := F0 m 11 ls _) rfl ?_
      refine lv_astore_n hx hb (lv' := [(2, .ref q9), (0, .ref (ad c0)), (1, .int x1)]) dL_replace_11 rfl hl (Nat.le_of_ble_eq_true rfl) rfl (fun ls hl => ?_)
      refine lv_iconst hx hb dL_replace_12 kI_2 ?_
      exact hret _ _ _ _ _ _ hI hf dL_replace_13
    have hf := in_ hf h3
    cases hf
  · have hf := ip_ hf hn
    refine lv_goto (tgt := 14) hx hb dL_replace_5 rfl ?_
    refine lv_iconst hx hb dL_replace_14 kI_0 ?_
    exact hret _ _ _ _ _ _ hI hf dL_replace_15
/-- GuardVolumeLaw.rebuild(LGuardVolume;I[J)I -/
abbrev rmL_rebuild : Room := { frames := 8, cells := 1, slots := 6, locals := 197 }
def fL_rebuild (Λ : La) (w : Wo) (c0 : Nat) (x1 : Int32) (c2 : Nat) : Option (Wo × Int32) := (fG_rebuild Λ w c0 x1).bind fun q1 => if q1.2.1 = 0 then ((sl Λ q1.1 c2 q1.2.2).bind fun w4 => some (w4, 0)) else (if q1.2.1 = 1 then (some (q1.1, 1)) else (if q1.2.1 = 2 then (some (q1.1, 2)) else (none)))
set_option maxHeartbeats 4000000 in
set_option maxRecDepth 100000 in
theorem kL_rebuild (l : Launch) (hlt : l.stackTraces = false) (G : va_G) (kA kL : ClassId) (Λ : La) (ad : Nat → Nat) (w : Wo) (c0 : Nat) (x1 : Int32) (c2 : Nat) (w1 : Wo) (r : Int32) (hf : fL_rebuild Λ w c0 x1 c2 = some (w1, r)) : Ml l yL_rebuild cL_rebuild 4 [(0, 9, 12, 13), (0, 9, 15, 15)] rmL_rebuild G kA kL Λ ad [.ref (ad c0), .int x1, .ref (ad c2)] w w1 r := by
  refine Ml.of (by decide +kernel) (Nat.le_of_ble_eq_true rfl) ?_
  intro p e s m args below meth c Q ls S htab hX hret hl hI
  have S : CallFix p m c cL_rebuild 4 s args (.codeWith yL_rebuild cL_rebuild 4 (some .int) [(0, 9, 12, 13), (0, 9, 15, 15)] :: gW) "GuardVolumeLaw" := S
  have hl : lv_has ls 4 [(0, .ref (ad c0)), (1, .int x1), (2, .ref (ad c2))] := hl
  have hx := S.1
  have hb := S.2.1
  unfold fL_rebuild at hf
  refine lv_aload_n hx hb dL_rebuild_0 rfl (lv_at hl 2 rfl) ?_
  refine lv_iconst hx hb dL_rebuild_1 kI_0 ?_
  refine lv_aload_n hx hb dL_rebuild_2 rfl (lv_at hl 0 rfl) ?_
  refine lv_iload_n hx hb dL_rebuild_3 rfl (lv_at hl 1 rfl) ?_
  obtain ⟨q1, hq1, hf⟩ := ob_ hf
  refine rx_ci (rx_V (rest := [.int 0, .ref (ad c2)]) (As := [.int x1]) S hl hI hX (xG_rebuild l hlt G kA kL Λ ad w c0 x1 q1 hq1) pkG_rebuild kw_464 kw_465 (fcG).1 (gd_some hq1).1 kw_463 ⟨rfl, rfl⟩ ⟨Nat.le_of_ble_eq_true rfl, Nat.le_of_ble_eq_true rfl⟩ rfl rfl (Nat.le_of_ble_eq_true rfl) ⟨Nat.le_of_ble_eq_true rfl, Nat.le_of_ble_eq_true rfl⟩ dL_rebuild_4) hI (fun ce q9 H locs hn hI hce hcv hcl => ?_) (fun H locs hn hI => ?_)
  · have hf := in_ hf hn
    by_cases h2 : q1.2.1 = 1
    · have hf := ip_ hf h2
      rw [h2] at hcl
      refine vx_catch (E := xn 1) (name := xn 1) S.2.2.2.1 [] ⟨0, 9, 12, 13⟩ [⟨0, 9, 15, 15⟩] htab (fun z hz => by
        cases hz) rfl (by decide) (cfw (Ts := []) S kw_158) (va_Nw.use rfl (hI.2.2.2.1 _ kn_170)) hce hcv hcl ?_
      refine W.eq (g2 := F0 m 12 ls _) rfl ?_
      refine lv_astore_n hx hb (lv' := [(3, .ref q9), (0, .ref (ad c0)), (1, .int x1), (2, .ref (ad c2))]) dL_rebuild_12 rfl hl (Nat.le_of_ble_eq_true rfl) rfl (fun ls hl => ?_)
      refine lv_iconst hx hb dL_rebuild_13 kI_1 ?_
      exact hret _ _ _ _ _ _ hI hf dL_rebuild_14
    have hf := in_ hf h2
    by_cases h3 : q1.2.1 = 2
    · have hf := ip_ hf h3
      rw [h3] at hcl
      refine vx_catch (E := xn 2) (name := xn 2) S.2.2.2.1 [⟨0, 9, 12, 13⟩] ⟨0, 9, 15, 15⟩ [] htab (fun z hz => by
        rcases List.mem_cons.mp hz with rfl | hz
        · exact Or.inr ⟨by decide, xn 1, cfw (Ts := []) S kw_158, hX.2 (2, 1) (by decide)⟩
        cases hz) rfl (by decide) (cfw (Ts := []) S kw_159) (va_Nw.use rfl (hI.2.2.2.1 _ kn_234)) hce hcv hcl ?_
      refine W.eq (g2 := F0 m 15 ls _) rfl ?_
      refine lv_astore_n hx hb (lv' := [(3, .ref q9), (0, .ref (ad c0)), (1, .int x1), (2, .ref (ad c2))]) dL_rebuild_15 rfl hl (Nat.le_of_ble_eq_true rfl) rfl (fun ls hl => ?_)
      refine lv_iconst hx hb dL_rebuild_16 kI_2 ?_
      exact hret _ _ _ _ _ _ hI hf dL_rebuild_17
    have hf := in_ hf h3
    cases hf
  · have hf := ip_ hf hn
    refine lv_i2l hx hb dL_rebuild_7 rfl ?_
    obtain ⟨w4, hw4, hf⟩ := ob_ hf
    refine r_last S hI dL_rebuild_8 hw4 (fun H locs hI => ?_)
    refine lv_goto (tgt := 18) hx hb dL_rebuild_9 rfl ?_
    refine lv_iconst hx hb dL_rebuild_18 kI_0 ?_
    exact hret _ _ _ _ _ _ hI hf dL_rebuild_19
/-- GuardVolumeLaw.count(LGuardVolume;I[J)I -/
abbrev rmL_count : Room := { frames := 7, cells := 1, slots := 6, locals := 102 }
def fL_count (Λ : La) (w : Wo) (c0 : Nat) (x1 : Int32) (c2 : Nat) : Option (Wo × Int32) := (fG_count Λ w c0 x1).bind fun q1 => if q1.2.1 = 0 then ((sl Λ q1.1 c2 q1.2.2).bind fun w3 => some (w3, 0)) else (if q1.2.1 = 1 then (some (q1.1, 1)) else (none))
set_option maxHeartbeats 4000000 in
set_option maxRecDepth 100000 in
theorem kL_count (l : Launch) (hlt : l.stackTraces = false) (G : va_G) (kA kL : ClassId) (Λ : La) (ad : Nat → Nat) (w : Wo) (c0 : Nat) (x1 : Int32) (c2 : Nat) (w1 : Wo) (r : Int32) (hf : fL_count Λ w c0 x1 c2 = some (w1, r)) : Ml l yL_count cL_count 4 [(0, 9, 12, 13)] rmL_count G kA kL Λ ad [.ref (ad c0), .int x1, .ref (ad c2)] w w1 r := by
  refine Ml.of (by decide +kernel) (Nat.le_of_ble_eq_true rfl) ?_
  intro p e s m args below meth c Q ls S htab hX hret hl hI
  have S : CallFix p m c cL_count 4 s args (.codeWith yL_count cL_count 4 (some .int) [(0, 9, 12, 13)] :: gW) "GuardVolumeLaw" := S
  have hl : lv_has ls 4 [(0, .ref (ad c0)), (1, .int x1), (2, .ref (ad c2))] := hl
  have hx := S.1
  have hb := S.2.1
  unfold fL_count at hf
  refine lv_aload_n hx hb dL_count_0 rfl (lv_at hl 2 rfl) ?_
  refine lv_iconst hx hb dL_count_1 kI_0 ?_
  refine lv_aload_n hx hb dL_count_2 rfl (lv_at hl 0 rfl) ?_
  refine lv_iload_n hx hb dL_count_3 rfl (lv_at hl 1 rfl) ?_
  obtain ⟨q1, hq1, hf⟩ := ob_ hf
  refine rx_ci (rx_V (rest := [.int 0, .ref (ad c2)]) (As := [.int x1]) S hl hI hX (xG_count l hlt G kA kL Λ ad w c0 x1 q1 hq1) pkG_count kw_475 kw_476 (fcG).1 (gd_some hq1).1 kw_474 ⟨rfl, rfl⟩ ⟨Nat.le_of_ble_eq_true rfl, Nat.le_of_ble_eq_true rfl⟩ rfl rfl (Nat.le_of_ble_eq_true rfl) ⟨Nat.le_of_ble_eq_true rfl, Nat.le_of_ble_eq_true rfl⟩ dL_count_4) hI (fun ce q9 H locs hn hI hce hcv hcl => ?_) (fun H locs hn hI => ?_)
  · have hf := in_ hf hn
    by_cases h2 : q1.2.1 = 1
    · have hf := ip_ hf h2
      rw [h2] at hcl
      refine vx_catch (E := xn 1) (name := xn 1) S.2.2.2.1 [] ⟨0, 9, 12, 13⟩ [] htab (fun z hz => by
        cases hz) rfl (by decide) (cfw (Ts := []) S kw_158) (va_Nw.use rfl (hI.2.2.2.1 _ kn_170)) hce hcv hcl ?_
      refine W.eq (g2 := F0 m 12 ls _) rfl ?_
      refine lv_astore_n hx hb (lv' := [(3, .ref q9), (0, .ref (ad c0)), (1, .int x1), (2, .ref (ad c2))]) dL_count_12 rfl hl (Nat.le_of_ble_eq_true rfl) rfl (fun ls hl => ?_)
      refine lv_iconst hx hb dL_count_13 kI_1 ?_
      exact hret _ _ _ _ _ _ hI hf dL_count_14
    have hf := in_ hf h2
    cases hf
  · have hf := ip_ hf hn
    refine lv_i2l hx hb dL_count_7 rfl ?_
    obtain ⟨w3, hw3, hf⟩ := ob_ hf
    refine r_last S hI dL_count_8 hw3 (fun H locs hI => ?_)
    refine lv_goto (tgt := 15) hx hb dL_count_9 rfl ?_
    refine lv_iconst hx hb dL_count_15 kI_0 ?_
    exact hret _ _ _ _ _ _ hI hf dL_count_16

/-! the constructors (written by ctor.py) -/
theorem cg2 (f : Nat → Nat → JFrame) {a a' b b' : Nat} (h1 : a = a') (h2 : b = b') : f a b = f a' b' := by rw [h1, h2]
theorem bnew {ad ad' : Nat → Nat} {a N S : Nat} (hB : ∀ c, a ≤ c → c < N → S ≤ ad c) (hup : ∀ i, i < N → ad' i = ad i) (hn : S ≤ ad' N) : ∀ c, a ≤ c → c < N + 1 → S ≤ ad' c := fun c h1 h2 => by
  by_cases h : c < N
  · rw [hup c h]; exact hB c h1 h
  · have : c = N := by omega
    subst this; exact hn
theorem bnewc {ad ad' : Nat → Nat} {a N N' S : Nat} (hB : ∀ c, a ≤ c → c < N → S ≤ ad c) (hup : ∀ i, i < N → ad' i = ad i) (hn : ∀ c, N ≤ c → c < N' → S ≤ ad' c) : ∀ c, a ≤ c → c < N' → S ≤ ad' c := fun c h1 h2 => by
  by_cases h : c < N
  · rw [hup c h]; exact hB c h1 h
  · exact hn c (Nat.le_of_not_lt h) h2
theorem eup {ad0 ad ad' : Nat → Nat} {a N : Nat} (hE : ∀ i, i < a → ad i = ad0 i) (h : a ≤ N) (hup : ∀ i, i < N → ad' i = ad i) : ∀ i, i < a → ad' i = ad0 i := fun i hi => (hup i (Nat.lt_of_lt_of_le hi h)).trans (hE i hi)
theorem pkD_init : Pk yD_init cD_init 3 none 0 := ⟨kw_29, kw_2, by decide +kernel, by decide +kernel, by decide +kernel⟩
def bD_init_54s (Λ : La) (K54 : Wo → Nat → Nat → Int32 → Option Wo) (w : Wo) (c0 : Nat) (c1 : Nat) (x2 : Int32) : Option Wo := if 72 ≤ x2 then (some w) else ((st Λ w c1 9 x2).bind fun w2 => (fG_sumOf Λ w2 c1 0).bind fun q3 => (st Λ q3.1 c1 8 q3.2).bind fun w4 => (gr Λ c0 0 0).bind fun r5 => (cp Λ w4 c1 0 r5 (x2 * 11) 11).bind fun w6 => K54 w6 c0 c1 (x2 + 1))
def bD_init_54 (Λ : La) : Nat → Wo → Nat → Nat → Int32 → Option Wo
  | 0 => fun _ _ _ _ => none
  | n + 1 => bD_init_54s Λ (bD_init_54 Λ n)
abbrev rmD_init1 : Room := { frames := 1, cells := 5, slots := 827, locals := 26 }
noncomputable def fD_init1 (w : Wo) : Option Wo := (cz ((2, nulL []) : La) w).bind fun _ => (cz ((3, nulL [(1, 0)]) : La) w).bind fun _ => (cz ((4, nulL [(1, 1), (1, 0)]) : La) w).bind fun _ => (cz ((5, nulL [(1, 2), (1, 1), (1, 0)]) : La) w).bind fun _ => (pf ((6, nulL [(1, 3), (1, 2), (1, 1), (1, 0)]) : La) w 1 0 4 0).bind fun w5 => (pf ((6, nulL [(1, 3), (1, 2), (1, 1), (1, 0)]) : La) w5 1 0 5 0).bind fun w6 => (cz ((6, nulL [(1, 3), (1, 2), (1, 1), (1, 0)]) : La) w6).bind fun _ => bD_init_54 ((7, nulL [(1, 3), (1, 2), (1, 1), (1, 0)]) : La) 1000 w6 1 6 0
set_option maxHeartbeats 4000000 in
set_option maxRecDepth 100000 in
theorem kD_init1 (l : Launch) (G : va_G) (kA kL : ClassId) (ad : Nat → Nat) (sz : Nat) (w w1 : Wo) (hf : fD_init1 w = some w1) : Mc l yD_init cD_init 3 rmD_init1 G kA kL ((2, nulL []) : La) ((7, nulL [(1, 3), (1, 2), (1, 1), (1, 0)]) : La) ad sz [.ref (ad 1)] w w1 5 827 := by
  refine Mc.of (by decide +kernel) (Nat.le_of_ble_eq_true rfl) ?_
  intro p e s m args below meth c Q ls A S hin hA hret hl hI
  have S : CallFix p m c cD_init 3 s args (.code yD_init cD_init 3 none :: gW) "GuardVolume$Drive" := S
  have hl : lv_has ls 3 [(0, .ref (ad 1))] := hl
  have hx := S.1
  have hb := S.2.1
  have hE0 : ∀ i, i < 2 → ad i = ad i := fun _ _ => rfl
  have hB0 : ∀ c, 2 ≤ c → c < 2 → s.heap.size ≤ ad c := fun c h1 h2 => absurd h2 (Nat.not_lt.mpr h1)
  unfold fD_init1 at hf
  refine lv_aload_n hx hb dD_init_0 rfl (lv_at hl 0 rfl) ?_
  refine r_obj S hl kw_30 kw_23 kw_24 dD_init_1 (Nat.le_of_ble_eq_true rfl) (Nat.le_of_ble_eq_true rfl) ?_
  refine W.eq (g2 := F0 m 4 ls []) rfl ?_
  refine lv_aload_n hx hb dD_init_4 rfl (lv_at hl 0 rfl) ?_
  refine lv_sipush hx hb dD_init_5 kS_792 ?_
  obtain ⟨u1, hu1, hf⟩ := ob_ hf
  refine r_newa (N := 2) (nul := nulL []) (n := 792) S hI hA (by decide +kernel) kw_59 rfl (by decide +kernel) (by decide +kernel) (by decide +kernel) hu1 ⟨Nat.le_of_ble_eq_true rfl, Nat.le_of_ble_eq_true rfl⟩ dD_init_8 (fun ad1 H hup hnew hI => ?_)
  have hI : Iv A G kA kL ((3, nulL []) : La) ad1 w s H _ := hI
  have hl : lv_has ls 3 [(0, .ref (ad1 1))] := by rw [hup 1 (Nat.le_of_ble_eq_true rfl)]; exact hl
  refine W.eq (g2 := F0 m 10 ls [.ref (ad1 2), .ref (ad1 1)]) (congrArg (fun z0 => F0 m 10 ls [.ref (ad1 2), .ref z0]) (hup 1 (Nat.le_of_ble_eq_true rfl)).symm) ?_
  have hE1 := eup hE0 (Nat.le_of_ble_eq_true rfl) hup
  have hB1 := bnew hB0 hup hnew
  refine r_putr (N := 3) (L := []) (i := 0) (b := 1) (r := 2) S hI hin fcD (Nat.le_of_ble_eq_true rfl) (Nat.le_of_ble_eq_true rfl) rfl rfl kw_37 rfl rfl rfl rfl dD_init_10 (fun H locs hI => ?_)
  have hI : Iv A G kA kL ((3, nulL [(1, 0)]) : La) ad1 w s H _ := hI
  refine W.eq (g2 := F0 m 13 ls []) rfl ?_
  refine lv_aload_n hx hb dD_init_13 rfl (lv_at hl 0 rfl) ?_
  refine lv_bipush hx hb dD_init_14 kB_8 ?_
  obtain ⟨u2, hu2, hf⟩ := ob_ hf
  refine r_newa (N := 3) (nul := nulL [(1, 0)]) (n := 8) S hI hA (by decide +kernel) kw_59 rfl (by decide +kernel) (by decide +kernel) (by decide +kernel) hu2 ⟨Nat.le_of_ble_eq_true rfl, Nat.le_of_ble_eq_true rfl⟩ dD_init_16 (fun ad2 H hup hnew hI => ?_)
  have hI : Iv A G kA kL ((4, nulL [(1, 0)]) : La) ad2 w s H _ := hI
  have hl : lv_has ls 3 [(0, .ref (ad2 1))] := by rw [hup 1 (Nat.le_of_ble_eq_true rfl)]; exact hl
  refine W.eq (g2 := F0 m 18 ls [.ref (ad2 3), .ref (ad2 1)]) (congrArg (fun z0 => F0 m 18 ls [.ref (ad2 3), .ref z0]) (hup 1 (Nat.le_of_ble_eq_true rfl)).symm) ?_
  have hE2 := eup hE1 (Nat.le_of_ble_eq_true rfl) hup
  have hB2 := bnew hB1 hup hnew
  refine r_putr (N := 4) (L := [(1, 0)]) (i := 1) (b := 1) (r := 3) S hI hin fcD (Nat.le_of_ble_eq_true rfl) (Nat.le_of_ble_eq_true rfl) rfl rfl kw_39 rfl rfl rfl rfl dD_init_18 (fun H locs hI => ?_)
  have hI : Iv A G kA kL ((4, nulL [(1, 1), (1, 0)]) : La) ad2 w s H _ := hI
  refine W.eq (g2 := F0 m 21 ls []) rfl ?_
  refine lv_aload_n hx hb dD_init_21 rfl (lv_at hl 0 rfl) ?_
  refine lv_bipush hx hb dD_init_22 kB_8 ?_
  obtain ⟨u3, hu3, hf⟩ := ob_ hf
  refine r_newa (N := 4) (nul := nulL [(1, 1), (1, 0)]) (n := 8) S hI hA (by decide +kernel) kw_59 rfl (by decide +kernel) (by decide +kernel) (by decide +kernel) hu3 ⟨Nat.le_of_ble_eq_true rfl, Nat.le_of_ble_eq_true rfl⟩ dD_init_24 (fun ad3 H hup hnew hI => ?_)
  have hI : Iv A G kA kL ((5, nulL [(1, 1), (1, 0)]) : La) ad3 w s H _ := hI
  have hl : lv_has ls 3 [(0, .ref (ad3 1))] := by rw [hup 1 (Nat.le_of_ble_eq_true rfl)]; exact hl
  refine W.eq (g2 := F0 m 26 ls [.ref (ad3 4), .ref (ad3 1)]) (congrArg (fun z0 => F0 m 26 ls [.ref (ad3 4), .ref z0]) (hup 1 (Nat.le_of_ble_eq_true rfl)).symm) ?_
  have hE3 := eup hE2 (Nat.le_of_ble_eq_true rfl) hup
  have hB3 := bnew hB2 hup hnew
  refine r_putr (N := 5) (L := [(1, 1), (1, 0)]) (i := 2) (b := 1) (r := 4) S hI hin fcD (Nat.le_of_ble_eq_true rfl) (Nat.le_of_ble_eq_true rfl) rfl rfl kw_40 rfl rfl rfl rfl dD_init_26 (fun H locs hI => ?_)
  have hI : Iv A G kA kL ((5, nulL [(1, 2), (1, 1), (1, 0)]) : La) ad3 w s H _ := hI
  refine W.eq (g2 := F0 m 29 ls []) rfl ?_
  refine lv_aload_n hx hb dD_init_29 rfl (lv_at hl 0 rfl) ?_
  refine lv_bipush hx hb dD_init_30 kB_8 ?_
  obtain ⟨u4, hu4, hf⟩ := ob_ hf
  refine r_newa (N := 5) (nul := nulL [(1, 2), (1, 1), (1, 0)]) (n := 8) S hI hA (by decide +kernel) kw_59 rfl (by decide +kernel) (by decide +kernel) (by decide +kernel) hu4 ⟨Nat.le_of_ble_eq_true rfl, Nat.le_of_ble_eq_true rfl⟩ dD_init_32 (fun ad4 H hup hnew hI => ?_)
  have hI : Iv A G kA kL ((6, nulL [(1, 2), (1, 1), (1, 0)]) : La) ad4 w s H _ := hI
  have hl : lv_has ls 3 [(0, .ref (ad4 1))] := by rw [hup 1 (Nat.le_of_ble_eq_true rfl)]; exact hl
  refine W.eq (g2 := F0 m 34 ls [.ref (ad4 5), .ref (ad4 1)]) (congrArg (fun z0 => F0 m 34 ls [.ref (ad4 5), .ref z0]) (hup 1 (Nat.le_of_ble_eq_true rfl)).symm) ?_
  have hE4 := eup hE3 (Nat.le_of_ble_eq_true rfl) hup
  have hB4 := bnew hB3 hup hnew
  refine r_putr (N := 6) (L := [(1, 2), (1, 1), (1, 0)]) (i := 3) (b := 1) (r := 5) S hI hin fcD (Nat.le_of_ble_eq_true rfl) (Nat.le_of_ble_eq_true rfl) rfl rfl kw_41 rfl rfl rfl rfl dD_init_34 (fun H locs hI => ?_)
  have hI : Iv A G kA kL ((6, nulL [(1, 3), (1, 2), (1, 1), (1, 0)]) : La) ad4 w s H _ := hI
  refine W.eq (g2 := F0 m 37 ls []) rfl ?_
  refine lv_aload_n hx hb dD_init_37 rfl (lv_at hl 0 rfl) ?_
  refine lv_iconst hx hb dD_init_38 kI_0 ?_
  obtain ⟨w5, hw5, hf⟩ := ob_ hf
  refine r_put (i := 4) S hI fcD (Nat.le_of_ble_eq_true rfl) kw_42 rfl rfl rfl dD_init_39 hw5 (fun H locs hI => ?_)
  have hI : Iv A G kA kL ((6, nulL [(1, 3), (1, 2), (1, 1), (1, 0)]) : La) ad4 w5 s H _ := hI
  refine W.eq (g2 := F0 m 42 ls []) rfl ?_
  refine lv_aload_n hx hb dD_init_42 rfl (lv_at hl 0 rfl) ?_
  refine lv_iconst hx hb dD_init_43 kI_0 ?_
  obtain ⟨w6, hw6, hf⟩ := ob_ hf
  refine r_put (i := 5) S hI fcD (Nat.le_of_ble_eq_true rfl) kw_44 rfl rfl rfl dD_init_44 hw6 (fun H locs hI => ?_)
  have hI : Iv A G kA kL ((6, nulL [(1, 3), (1, 2), (1, 1), (1, 0)]) : La) ad4 w6 s H _ := hI
  refine W.eq (g2 := F0 m 47 ls []) rfl ?_
  refine lv_bipush hx hb dD_init_47 kB_11 ?_
  obtain ⟨u7, hu7, hf⟩ := ob_ hf
  refine r_newa (N := 6) (nul := nulL [(1, 3), (1, 2), (1, 1), (1, 0)]) (n := 11) S hI hA (by decide +kernel) kw_59 rfl (by decide +kernel) (by decide +kernel) (by decide +kernel) hu7 ⟨Nat.le_of_ble_eq_true rfl, Nat.le_of_ble_eq_true rfl⟩ dD_init_49 (fun ad7 H hup hnew hI => ?_)
  have hI : Iv A G kA kL ((7, nulL [(1, 3), (1, 2), (1, 1), (1, 0)]) : La) ad7 w6 s H _ := hI
  have hl : lv_has ls 3 [(0, .ref (ad7 1))] := by rw [hup 1 (Nat.le_of_ble_eq_true rfl)]; exact hl
  refine W.eq (g2 := F0 m 51 ls [.ref (ad7 6)]) rfl ?_
  have hE7 := eup hE4 (Nat.le_of_ble_eq_true rfl) hup
  have hB7 := bnew hB4 hup hnew
  refine lv_astore_n hx hb (lv' := [(1, .ref (ad7 6)), (0, .ref (ad7 1))]) dD_init_51 rfl hl (Nat.le_of_ble_eq_true rfl) rfl (fun ls hl => ?_)
  refine lv_iconst hx hb dD_init_52 kI_0 ?_
  refine lv_istore_n hx hb (lv' := [(2, .int 0), (1, .ref (ad7 6)), (0, .ref (ad7 1))]) dD_init_53 rfl hl (Nat.le_of_ble_eq_true rfl) rfl (fun ls hl => ?_)
  have bk54 : ∀ (K54 : Wo → Nat → Nat → Int32 → Option Wo), (∀ (w : Wo) (c0 : Nat) (c1 : Nat) (x2 : Int32) (H : Heap) (locs : List Loc) (ls : Array Slot), lv_has ls 3 [(0, .ref (ad7 c0)), (1, .ref (ad7 c1)), (2, .int x2)] → Iv A G kA kL ((7, nulL [(1, 3), (1, 2), (1, 1), (1, 0)]) : La) ad7 w s H locs → K54 w c0 c1 x2 = some w1 → W p l e rmD_init1 s m args below meth c H locs 5 827 Q (F0 m 54 ls [])) → ∀ (w : Wo) (c0 : Nat) (c1 : Nat) (x2 : Int32) (H : Heap) (locs : List Loc) (ls : Array Slot), lv_has ls 3 [(0, .ref (ad7 c0)), (1, .ref (ad7 c1)), (2, .int x2)] → Iv A G kA kL ((7, nulL [(1, 3), (1, 2), (1, 1), (1, 0)]) : La) ad7 w s H locs → bD_init_54s ((7, nulL [(1, 3), (1, 2), (1, 1), (1, 0)]) : La) K54 w c0 c1 x2 = some w1 → W p l e rmD_init1 s m args below meth c H locs 5 827 Q (F0 m 54 ls []) := by
    intro K54 hK54 w c0 c1 x2 H locs ls hl hI hf
    unfold bD_init_54s at hf
    refine lv_iload_n hx hb dD_init_54 rfl (lv_at hl 2 rfl) ?_
    refine lv_bipush hx hb dD_init_55 kB_72 ?_
    refine lv_icmp_ge (tgt := 95) hx hb dD_init_57 rfl (fun h1 => ?_) (fun h1 => ?_)
    · have hf := ip_ hf h1
      exact hret _ _ _ _ _ _ hE7 hB7 hI hf dD_init_95
    · have hf := in_ hf h1
      refine lv_aload_n hx hb dD_init_60 rfl (lv_at hl 1 rfl) ?_
      refine lv_bipush hx hb dD_init_61 kB_9 ?_
      refine lv_iload_n hx hb dD_init_63 rfl (lv_at hl 2 rfl) ?_
      obtain ⟨w2, hw2, hf⟩ := ob_ hf
      refine r_ast S hI dD_init_64 hw2 (fun H locs hI => ?_)
      refine lv_aload_n hx hb dD_init_65 rfl (lv_at hl 1 rfl) ?_
      refine lv_bipush hx hb dD_init_66 kB_8 ?_
      refine lv_aload_n hx hb dD_init_68 rfl (lv_at hl 1 rfl) ?_
      refine lv_iconst hx hb dD_init_69 kI_0 ?_
      obtain ⟨q3, hq3, hf⟩ := ob_ hf
      refine r_ci (r_SN (rest := [.int 8, .ref (ad7 c1)]) (As := [.ref (ad7 c1), .int 0]) S hl hI (kG_sumOf l G kA kL ((7, nulL [(1, 3), (1, 2), (1, 1), (1, 0)]) : La) ad7 w2 c1 0 q3.1 q3.2 hq3) pkG_sumOf kw_32 kn_31 ⟨rfl, rfl⟩ ⟨Nat.le_of_ble_eq_true rfl, Nat.le_of_ble_eq_true rfl⟩ rfl rfl (Nat.le_of_ble_eq_true rfl) ⟨Nat.le_of_ble_eq_true rfl, Nat.le_of_ble_eq_true rfl⟩ dD_init_70) hI (fun H locs hI => ?_)
      obtain ⟨w4, hw4, hf⟩ := ob_ hf
      refine r_ast S hI dD_init_73 hw4 (fun H locs hI => ?_)
      refine lv_aload_n hx hb dD_init_74 rfl (lv_at hl 1 rfl) ?_
      refine lv_iconst hx hb dD_init_75 kI_0 ?_
      refine lv_aload_n hx hb dD_init_76 rfl (lv_at hl 0 rfl) ?_
      obtain ⟨r5, hr5, hf⟩ := ob_ hf
      refine r_getr (i := 0) S hI fcD (Nat.le_of_ble_eq_true rfl) kw_37 dD_init_77 hr5 ?_
      refine lv_iload_n hx hb dD_init_80 rfl (lv_at hl 2 rfl) ?_
      refine lv_bipush hx hb dD_init_81 kB_11 ?_
      refine lv_imul hx hb dD_init_83 ?_
      refine lv_bipush hx hb dD_init_84 kB_11 ?_
      obtain ⟨w6, hw6, hf⟩ := ob_ hf
      refine r_cpy (rest := []) S hl hI kw_34 kw_36 kw_35 kw_3 (Nat.le_of_ble_eq_true rfl) (Nat.le_of_ble_eq_true rfl) dD_init_86 hw6 (fun H locs hI => ?_)
      refine lv_iinc hx hb (lv' := [(2, .int (x2 + 1)), (0, .ref (ad7 c0)), (1, .ref (ad7 c1))]) (k := 2) dD_init_89 hl rfl (kN_1 _) (Nat.le_of_ble_eq_true rfl) rfl (fun ls hl => ?_)
      refine lv_goto (tgt := 54) hx hb dD_init_92 rfl ?_
      exact hK54 w6 c0 c1 (x2 + 1) _ _ _ (lv_sub hl [1, 2, 0] rfl) hI hf
  have lp54 : ∀ (n : Nat), ∀ (w : Wo) (c0 : Nat) (c1 : Nat) (x2 : Int32) (H : Heap) (locs : List Loc) (ls : Array Slot), lv_has ls 3 [(0, .ref (ad7 c0)), (1, .ref (ad7 c1)), (2, .int x2)] → Iv A G kA kL ((7, nulL [(1, 3), (1, 2), (1, 1), (1, 0)]) : La) ad7 w s H locs → bD_init_54 ((7, nulL [(1, 3), (1, 2), (1, 1), (1, 0)]) : La) n w c0 c1 x2 = some w1 → W p l e rmD_init1 s m args below meth c H locs 5 827 Q (F0 m 54 ls []) := by
    intro n
    induction n with
    | zero =>
      intro w c0 c1 x2 H locs ls hl hI hf
      have hf : (none : Option Wo) = some w1 := hf
      cases hf
    | succ n ih =>
      intro w c0 c1 x2 H locs ls hl hI hf
      exact bk54 (bD_init_54 ((7, nulL [(1, 3), (1, 2), (1, 1), (1, 0)]) : La) n) ih w c0 c1 x2 H locs ls hl hI hf
  exact lp54 1000 w6 1 6 0 _ _ _ (lv_sub hl [2, 1, 0] rfl) hI hf
abbrev rmD_init7 : Room := { frames := 1, cells := 5, slots := 827, locals := 26 }
noncomputable def fD_init7 (w : Wo) : Option Wo := (cz ((8, nulL [(0, 0), (1, 3), (1, 2), (1, 1), (1, 0)]) : La) w).bind fun _ => (cz ((9, nulL [(7, 0), (0, 0), (1, 3), (1, 2), (1, 1), (1, 0)]) : La) w).bind fun _ => (cz ((10, nulL [(7, 1), (7, 0), (0, 0), (1, 3), (1, 2), (1, 1), (1, 0)]) : La) w).bind fun _ => (cz ((11, nulL [(7, 2), (7, 1), (7, 0), (0, 0), (1, 3), (1, 2), (1, 1), (1, 0)]) : La) w).bind fun _ => (pf ((12, nulL [(7, 3), (7, 2), (7, 1), (7, 0), (0, 0), (1, 3), (1, 2), (1, 1), (1, 0)]) : La) w 7 0 4 0).bind fun w5 => (pf ((12, nulL [(7, 3), (7, 2), (7, 1), (7, 0), (0, 0), (1, 3), (1, 2), (1, 1), (1, 0)]) : La) w5 7 0 5 0).bind fun w6 => (cz ((12, nulL [(7, 3), (7, 2), (7, 1), (7, 0), (0, 0), (1, 3), (1, 2), (1, 1), (1, 0)]) : La) w6).bind fun _ => bD_init_54 ((13, nulL [(7, 3), (7, 2), (7, 1), (7, 0), (0, 0), (1, 3), (1, 2), (1, 1), (1, 0)]) : La) 1000 w6 7 12 0
set_option maxHeartbeats 4000000 in
set_option maxRecDepth 100000 in
theorem kD_init7 (l : Launch) (G : va_G) (kA kL : ClassId) (ad : Nat → Nat) (sz : Nat) (w w1 : Wo) (hf : fD_init7 w = some w1) : Mc l yD_init cD_init 3 rmD_init7 G kA kL ((8, nulL [(0, 0), (1, 3), (1, 2), (1, 1), (1, 0)]) : La) ((13, nulL [(7, 3), (7, 2), (7, 1), (7, 0), (0, 0), (1, 3), (1, 2), (1, 1), (1, 0)]) : La) ad sz [.ref (ad 7)] w w1 5 827 := by
  refine Mc.of (by decide +kernel) (Nat.le_of_ble_eq_true rfl) ?_
  intro p e s m args below meth c Q ls A S hin hA hret hl hI
  have S : CallFix p m c cD_init 3 s args (.code yD_init cD_init 3 none :: gW) "GuardVolume$Drive" := S
  have hl : lv_has ls 3 [(0, .ref (ad 7))] := hl
  have hx := S.1
  have hb := S.2.1
  have hE0 : ∀ i, i < 8 → ad i = ad i := fun _ _ => rfl
  have hB0 : ∀ c, 8 ≤ c → c < 8 → s.heap.size ≤ ad c := fun c h1 h2 => absurd h2 (Nat.not_lt.mpr h1)
  unfold fD_init7 at hf
  refine lv_aload_n hx hb dD_init_0 rfl (lv_at hl 0 rfl) ?_
  refine r_obj S hl kw_30 kw_23 kw_24 dD_init_1 (Nat.le_of_ble_eq_true rfl) (Nat.le_of_ble_eq_true rfl) ?_
  refine W.eq (g2 := F0 m 4 ls []) rfl ?_
  refine lv_aload_n hx hb dD_init_4 rfl (lv_at hl 0 rfl) ?_
  refine lv_sipush hx hb dD_init_5 kS_792 ?_
  obtain ⟨u1, hu1, hf⟩ := ob_ hf
  refine r_newa (N := 8) (nul := nulL [(0, 0), (1, 3), (1, 2), (1, 1), (1, 0)]) (n := 792) S hI hA (by decide +kernel) kw_59 rfl (by decide +kernel) (by decide +kernel) (by decide +kernel) hu1 ⟨Nat.le_of_ble_eq_true rfl, Nat.le_of_ble_eq_true rfl⟩ dD_init_8 (fun ad1 H hup hnew hI => ?_)
  have hI : Iv A G kA kL ((9, nulL [(0, 0), (1, 3), (1, 2), (1, 1), (1, 0)]) : La) ad1 w s H _ := hI
  have hl : lv_has ls 3 [(0, .ref (ad1 7))] := by rw [hup 7 (Nat.le_of_ble_eq_true rfl)]; exact hl
  refine W.eq (g2 := F0 m 10 ls [.ref (ad1 8), .ref (ad1 7)]) (congrArg (fun z0 => F0 m 10 ls [.ref (ad1 8), .ref z0]) (hup 7 (Nat.le_of_ble_eq_true rfl)).symm) ?_
  have hE1 := eup hE0 (Nat.le_of_ble_eq_true rfl) hup
  have hB1 := bnew hB0 hup hnew
  refine r_putr (N := 9) (L := [(0, 0), (1, 3), (1, 2), (1, 1), (1, 0)]) (i := 0) (b := 7) (r := 8) S hI hin fcD (Nat.le_of_ble_eq_true rfl) (Nat.le_of_ble_eq_true rfl) rfl rfl kw_37 rfl rfl rfl rfl dD_init_10 (fun H locs hI => ?_)
  have hI : Iv A G kA kL ((9, nulL [(7, 0), (0, 0), (1, 3), (1, 2), (1, 1), (1, 0)]) : La) ad1 w s H _ := hI
  refine W.eq (g2 := F0 m 13 ls []) rfl ?_
  refine lv_aload_n hx hb dD_init_13 rfl (lv_at hl 0 rfl) ?_
  refine lv_bipush hx hb dD_init_14 kB_8 ?_
  obtain ⟨u2, hu2, hf⟩ := ob_ hf
  refine r_newa (N := 9) (nul := nulL [(7, 0), (0, 0), (1, 3), (1, 2), (1, 1), (1, 0)]) (n := 8) S hI hA (by decide +kernel) kw_59 rfl (by decide +kernel) (by decide +kernel) (by decide +kernel) hu2 ⟨Nat.le_of_ble_eq_true rfl, Nat.le_of_ble_eq_true rfl⟩ dD_init_16 (fun ad2 H hup hnew hI => ?_)
  have hI : Iv A G kA kL ((10, nulL [(7, 0), (0, 0), (1, 3), (1, 2), (1, 1), (1, 0)]) : La) ad2 w s H _ := hI
  have hl : lv_has ls 3 [(0, .ref (ad2 7))] := by rw [hup 7 (Nat.le_of_ble_eq_true rfl)]; exact hl
  refine W.eq (g2 := F0 m 18 ls [.ref (ad2 9), .ref (ad2 7)]) (congrArg (fun z0 => F0 m 18 ls [.ref (ad2 9), .ref z0]) (hup 7 (Nat.le_of_ble_eq_true rfl)).symm) ?_
  have hE2 := eup hE1 (Nat.le_of_ble_eq_true rfl) hup
  have hB2 := bnew hB1 hup hnew
  refine r_putr (N := 10) (L := [(7, 0), (0, 0), (1, 3), (1, 2), (1, 1), (1, 0)]) (i := 1) (b := 7) (r := 9) S hI hin fcD (Nat.le_of_ble_eq_true rfl) (Nat.le_of_ble_eq_true rfl) rfl rfl kw_39 rfl rfl rfl rfl dD_init_18 (fun H locs hI => ?_)
  have hI : Iv A G kA kL ((10, nulL [(7, 1), (7, 0), (0, 0), (1, 3), (1, 2), (1, 1), (1, 0)]) : La) ad2 w s H _ := hI
  refine W.eq (g2 := F0 m 21 ls []) rfl ?_
  refine lv_aload_n hx hb dD_init_21 rfl (lv_at hl 0 rfl) ?_
  refine lv_bipush hx hb dD_init_22 kB_8 ?_
  obtain ⟨u3, hu3, hf⟩ := ob_ hf
  refine r_newa (N := 10) (nul := nulL [(7, 1), (7, 0), (0, 0), (1, 3), (1, 2), (1, 1), (1, 0)]) (n := 8) S hI hA (by decide +kernel) kw_59 rfl (by decide +kernel) (by decide +kernel) (by decide +kernel) hu3 ⟨Nat.le_of_ble_eq_true rfl, Nat.le_of_ble_eq_true rfl⟩ dD_init_24 (fun ad3 H hup hnew hI => ?_)
  have hI : Iv A G kA kL ((11, nulL [(7, 1), (7, 0), (0, 0), (1, 3), (1, 2), (1, 1), (1, 0)]) : La) ad3 w s H _ := hI
  have hl : lv_has ls 3 [(0, .ref (ad3 7))] := by rw [hup 7 (Nat.le_of_ble_eq_true rfl)]; exact hl
  refine W.eq (g2 := F0 m 26 ls [.ref (ad3 10), .ref (ad3 7)]) (congrArg (fun z0 => F0 m 26 ls [.ref (ad3 10), .ref z0]) (hup 7 (Nat.le_of_ble_eq_true rfl)).symm) ?_
  have hE3 := eup hE2 (Nat.le_of_ble_eq_true rfl) hup
  have hB3 := bnew hB2 hup hnew
  refine r_putr (N := 11) (L := [(7, 1), (7, 0), (0, 0), (1, 3), (1, 2), (1, 1), (1, 0)]) (i := 2) (b := 7) (r := 10) S hI hin fcD (Nat.le_of_ble_eq_true rfl) (Nat.le_of_ble_eq_true rfl) rfl rfl kw_40 rfl rfl rfl rfl dD_init_26 (fun H locs hI => ?_)
  have hI : Iv A G kA kL ((11, nulL [(7, 2), (7, 1), (7, 0), (0, 0), (1, 3), (1, 2), (1, 1), (1, 0)]) : La) ad3 w s H _ := hI
  refine W.eq (g2 := F0 m 29 ls []) rfl ?_
  refine lv_aload_n hx hb dD_init_29 rfl (lv_at hl 0 rfl) ?_
  refine lv_bipush hx hb dD_init_30 kB_8 ?_
  obtain ⟨u4, hu4, hf⟩ := ob_ hf
  refine r_newa (N := 11) (nul := nulL [(7, 2), (7, 1), (7, 0), (0, 0), (1, 3), (1, 2), (1, 1), (1, 0)]) (n := 8) S hI hA (by decide +kernel) kw_59 rfl (by decide +kernel) (by decide +kernel) (by decide +kernel) hu4 ⟨Nat.le_of_ble_eq_true rfl, Nat.le_of_ble_eq_true rfl⟩ dD_init_32 (fun ad4 H hup hnew hI => ?_)
  have hI : Iv A G kA kL ((12, nulL [(7, 2), (7, 1), (7, 0), (0, 0), (1, 3), (1, 2), (1, 1), (1, 0)]) : La) ad4 w s H _ := hI
  have hl : lv_has ls 3 [(0, .ref (ad4 7))] := by rw [hup 7 (Nat.le_of_ble_eq_true rfl)]; exact hl
  refine W.eq (g2 := F0 m 34 ls [.ref (ad4 11), .ref (ad4 7)]) (congrArg (fun z0 => F0 m 34 ls [.ref (ad4 11), .ref z0]) (hup 7 (Nat.le_of_ble_eq_true rfl)).symm) ?_
  have hE4 := eup hE3 (Nat.le_of_ble_eq_true rfl) hup
  have hB4 := bnew hB3 hup hnew
  refine r_putr (N := 12) (L := [(7, 2), (7, 1), (7, 0), (0, 0), (1, 3), (1, 2), (1, 1), (1, 0)]) (i := 3) (b := 7) (r := 11) S hI hin fcD (Nat.le_of_ble_eq_true rfl) (Nat.le_of_ble_eq_true rfl) rfl rfl kw_41 rfl rfl rfl rfl dD_init_34 (fun H locs hI => ?_)
  have hI : Iv A G kA kL ((12, nulL [(7, 3), (7, 2), (7, 1), (7, 0), (0, 0), (1, 3), (1, 2), (1, 1), (1, 0)]) : La) ad4 w s H _ := hI
  refine W.eq (g2 := F0 m 37 ls []) rfl ?_
  refine lv_aload_n hx hb dD_init_37 rfl (lv_at hl 0 rfl) ?_
  refine lv_iconst hx hb dD_init_38 kI_0 ?_
  obtain ⟨w5, hw5, hf⟩ := ob_ hf
  refine r_put (i := 4) S hI fcD (Nat.le_of_ble_eq_true rfl) kw_42 rfl rfl rfl dD_init_39 hw5 (fun H locs hI => ?_)
  have hI : Iv A G kA kL ((12, nulL [(7, 3), (7, 2), (7, 1), (7, 0), (0, 0), (1, 3), (1, 2), (1, 1), (1, 0)]) : La) ad4 w5 s H _ := hI
  refine W.eq (g2 := F0 m 42 ls []) rfl ?_
  refine lv_aload_n hx hb dD_init_42 rfl (lv_at hl 0 rfl) ?_
  refine lv_iconst hx hb dD_init_43 kI_0 ?_
  obtain ⟨w6, hw6, hf⟩ := ob_ hf
  refine r_put (i := 5) S hI fcD (Nat.le_of_ble_eq_true rfl) kw_44 rfl rfl rfl dD_init_44 hw6 (fun H locs hI => ?_)
  have hI : Iv A G kA kL ((12, nulL [(7, 3), (7, 2), (7, 1), (7, 0), (0, 0), (1, 3), (1, 2), (1, 1), (1, 0)]) : La) ad4 w6 s H _ := hI
  refine W.eq (g2 := F0 m 47 ls []) rfl ?_
  refine lv_bipush hx hb dD_init_47 kB_11 ?_
  obtain ⟨u7, hu7, hf⟩ := ob_ hf
  refine r_newa (N := 12) (nul := nulL [(7, 3), (7, 2), (7, 1), (7, 0), (0, 0), (1, 3), (1, 2), (1, 1), (1, 0)]) (n := 11) S hI hA (by decide +kernel) kw_59 rfl (by decide +kernel) (by decide +kernel) (by decide +kernel) hu7 ⟨Nat.le_of_ble_eq_true rfl, Nat.le_of_ble_eq_true rfl⟩ dD_init_49 (fun ad7 H hup hnew hI => ?_)
  have hI : Iv A G kA kL ((13, nulL [(7, 3), (7, 2), (7, 1), (7, 0), (0, 0), (1, 3), (1, 2), (1, 1), (1, 0)]) : La) ad7 w6 s H _ := hI
  have hl : lv_has ls 3 [(0, .ref (ad7 7))] := by rw [hup 7 (Nat.le_of_ble_eq_true rfl)]; exact hl
  refine W.eq (g2 := F0 m 51 ls [.ref (ad7 12)]) rfl ?_
  have hE7 := eup hE4 (Nat.le_of_ble_eq_true rfl) hup
  have hB7 := bnew hB4 hup hnew
  refine lv_astore_n hx hb (lv' := [(1, .ref (ad7 12)), (0, .ref (ad7 7))]) dD_init_51 rfl hl (Nat.le_of_ble_eq_true rfl) rfl (fun ls hl => ?_)
  refine lv_iconst hx hb dD_init_52 kI_0 ?_
  refine lv_istore_n hx hb (lv' := [(2, .int 0), (1, .ref (ad7 12)), (0, .ref (ad7 7))]) dD_init_53 rfl hl (Nat.le_of_ble_eq_true rfl) rfl (fun ls hl => ?_)
  have bk54 : ∀ (K54 : Wo → Nat → Nat → Int32 → Option Wo), (∀ (w : Wo) (c0 : Nat) (c1 : Nat) (x2 : Int32) (H : Heap) (locs : List Loc) (ls : Array Slot), lv_has ls 3 [(0, .ref (ad7 c0)), (1, .ref (ad7 c1)), (2, .int x2)] → Iv A G kA kL ((13, nulL [(7, 3), (7, 2), (7, 1), (7, 0), (0, 0), (1, 3), (1, 2), (1, 1), (1, 0)]) : La) ad7 w s H locs → K54 w c0 c1 x2 = some w1 → W p l e rmD_init7 s m args below meth c H locs 5 827 Q (F0 m 54 ls [])) → ∀ (w : Wo) (c0 : Nat) (c1 : Nat) (x2 : Int32) (H : Heap) (locs : List Loc) (ls : Array Slot), lv_has ls 3 [(0, .ref (ad7 c0)), (1, .ref (ad7 c1)), (2, .int x2)] → Iv A G kA kL ((13, nulL [(7, 3), (7, 2), (7, 1), (7, 0), (0, 0), (1, 3), (1, 2), (1, 1), (1, 0)]) : La) ad7 w s H locs → bD_init_54s ((13, nulL [(7, 3), (7, 2), (7, 1), (7, 0), (0, 0), (1, 3), (1, 2), (1, 1), (1, 0)]) : La) K54 w c0 c1 x2 = some w1 → W p l e rmD_init7 s m args below meth c H locs 5 827 Q (F0 m 54 ls []) := by
    intro K54 hK54 w c0 c1 x2 H locs ls hl hI hf
    unfold bD_init_54s at hf
    refine lv_iload_n hx hb dD_init_54 rfl (lv_at hl 2 rfl) ?_
    refine lv_bipush hx hb dD_init_55 kB_72 ?_
    refine lv_icmp_ge (tgt := 95) hx hb dD_init_57 rfl (fun h1 => ?_) (fun h1 => ?_)
    · have hf := ip_ hf h1
      exact hret _ _ _ _ _ _ hE7 hB7 hI hf dD_init_95
    · have hf := in_ hf h1
      refine lv_aload_n hx hb dD_init_60 rfl (lv_at hl 1 rfl) ?_
      refine lv_bipush hx hb dD_init_61 kB_9 ?_
      refine lv_iload_n hx hb dD_init_63 rfl (lv_at hl 2 rfl) ?_
      obtain ⟨w2, hw2, hf⟩ := ob_ hf
      refine r_ast S hI dD_init_64 hw2 (fun H locs hI => ?_)
      refine lv_aload_n hx hb dD_init_65 rfl (lv_at hl 1 rfl) ?_
      refine lv_bipush hx hb dD_init_66 kB_8 ?_
      refine lv_aload_n hx hb dD_init_68 rfl (lv_at hl 1 rfl) ?_
      refine lv_iconst hx hb dD_init_69 kI_0 ?_
      obtain ⟨q3, hq3, hf⟩ := ob_ hf
      refine r_ci (r_SN (rest := [.int 8, .ref (ad7 c1)]) (As := [.ref (ad7 c1), .int 0]) S hl hI (kG_sumOf l G kA kL ((13, nulL [(7, 3), (7, 2), (7, 1), (7, 0), (0, 0), (1, 3), (1, 2), (1, 1), (1, 0)]) : La) ad7 w2 c1 0 q3.1 q3.2 hq3) pkG_sumOf kw_32 kn_31 ⟨rfl, rfl⟩ ⟨Nat.le_of_ble_eq_true rfl, Nat.le_of_ble_eq_true rfl⟩ rfl rfl (Nat.le_of_ble_eq_true rfl) ⟨Nat.le_of_ble_eq_true rfl, Nat.le_of_ble_eq_true rfl⟩ dD_init_70) hI (fun H locs hI => ?_)
      obtain ⟨w4, hw4, hf⟩ := ob_ hf
      refine r_ast S hI dD_init_73 hw4 (fun H locs hI => ?_)
      refine lv_aload_n hx hb dD_init_74 rfl (lv_at hl 1 rfl) ?_
      refine lv_iconst hx hb dD_init_75 kI_0 ?_
      refine lv_aload_n hx hb dD_init_76 rfl (lv_at hl 0 rfl) ?_
      obtain ⟨r5, hr5, hf⟩ := ob_ hf
      refine r_getr (i := 0) S hI fcD (Nat.le_of_ble_eq_true rfl) kw_37 dD_init_77 hr5 ?_
      refine lv_iload_n hx hb dD_init_80 rfl (lv_at hl 2 rfl) ?_
      refine lv_bipush hx hb dD_init_81 kB_11 ?_
      refine lv_imul hx hb dD_init_83 ?_
      refine lv_bipush hx hb dD_init_84 kB_11 ?_
      obtain ⟨w6, hw6, hf⟩ := ob_ hf
      refine r_cpy (rest := []) S hl hI kw_34 kw_36 kw_35 kw_3 (Nat.le_of_ble_eq_true rfl) (Nat.le_of_ble_eq_true rfl) dD_init_86 hw6 (fun H locs hI => ?_)
      refine lv_iinc hx hb (lv' := [(2, .int (x2 + 1)), (0, .ref (ad7 c0)), (1, .ref (ad7 c1))]) (k := 2) dD_init_89 hl rfl (kN_1 _) (Nat.le_of_ble_eq_true rfl) rfl (fun ls hl => ?_)
      refine lv_goto (tgt := 54) hx hb dD_init_92 rfl ?_
      exact hK54 w6 c0 c1 (x2 + 1) _ _ _ (lv_sub hl [1, 2, 0] rfl) hI hf
  have lp54 : ∀ (n : Nat), ∀ (w : Wo) (c0 : Nat) (c1 : Nat) (x2 : Int32) (H : Heap) (locs : List Loc) (ls : Array Slot), lv_has ls 3 [(0, .ref (ad7 c0)), (1, .ref (ad7 c1)), (2, .int x2)] → Iv A G kA kL ((13, nulL [(7, 3), (7, 2), (7, 1), (7, 0), (0, 0), (1, 3), (1, 2), (1, 1), (1, 0)]) : La) ad7 w s H locs → bD_init_54 ((13, nulL [(7, 3), (7, 2), (7, 1), (7, 0), (0, 0), (1, 3), (1, 2), (1, 1), (1, 0)]) : La) n w c0 c1 x2 = some w1 → W p l e rmD_init7 s m args below meth c H locs 5 827 Q (F0 m 54 ls []) := by
    intro n
    induction n with
    | zero =>
      intro w c0 c1 x2 H locs ls hl hI hf
      have hf : (none : Option Wo) = some w1 := hf
      cases hf
    | succ n ih =>
      intro w c0 c1 x2 H locs ls hl hI hf
      exact bk54 (bD_init_54 ((13, nulL [(7, 3), (7, 2), (7, 1), (7, 0), (0, 0), (1, 3), (1, 2), (1, 1), (1, 0)]) : La) n) ih w c0 c1 x2 H locs ls hl hI hf
  exact lp54 1000 w6 7 12 0 _ _ _ (lv_sub hl [2, 1, 0] rfl) hI hf
theorem pkP_init : Pk yP_init cP_init 1 none 0 := ⟨kw_64, kw_4, by decide +kernel, by decide +kernel, by decide +kernel⟩
abbrev rmP_init13 : Room := { frames := 1, cells := 0, slots := 0, locals := 20 }
noncomputable def fP_init13 (w : Wo) : Option Wo := (pf ((14, nulL [(0, 1), (7, 3), (7, 2), (7, 1), (7, 0), (0, 0), (1, 3), (1, 2), (1, 1), (1, 0)]) : La) w 13 3 0 1).bind fun w1 => (pf ((14, nulL [(0, 1), (7, 3), (7, 2), (7, 1), (7, 0), (0, 0), (1, 3), (1, 2), (1, 1), (1, 0)]) : La) w1 13 3 1 (-1)).bind fun w2 => some w2
set_option maxHeartbeats 4000000 in
set_option maxRecDepth 100000 in
theorem kP_init13 (l : Launch) (G : va_G) (kA kL : ClassId) (ad : Nat → Nat) (sz : Nat) (w w1 : Wo) (hf : fP_init13 w = some w1) : Mc l yP_init cP_init 1 rmP_init13 G kA kL ((14, nulL [(0, 1), (7, 3), (7, 2), (7, 1), (7, 0), (0, 0), (1, 3), (1, 2), (1, 1), (1, 0)]) : La) ((14, nulL [(0, 1), (7, 3), (7, 2), (7, 1), (7, 0), (0, 0), (1, 3), (1, 2), (1, 1), (1, 0)]) : La) ad sz [.ref (ad 13)] w w1 0 0 := by
  refine Mc.of (by decide +kernel) (Nat.le_of_ble_eq_true rfl) ?_
  intro p e s m args below meth c Q ls A S hin hA hret hl hI
  have S : CallFix p m c cP_init 1 s args (.code yP_init cP_init 1 none :: gW) "GuardVolume$Power" := S
  have hl : lv_has ls 1 [(0, .ref (ad 13))] := hl
  have hx := S.1
  have hb := S.2.1
  have hE0 : ∀ i, i < 14 → ad i = ad i := fun _ _ => rfl
  have hB0 : ∀ c, 14 ≤ c → c < 14 → s.heap.size ≤ ad c := fun c h1 h2 => absurd h2 (Nat.not_lt.mpr h1)
  unfold fP_init13 at hf
  refine lv_aload_n hx hb dP_init_0 rfl (lv_at hl 0 rfl) ?_
  refine r_obj S hl kw_65 kw_23 kw_24 dP_init_1 (Nat.le_of_ble_eq_true rfl) (Nat.le_of_ble_eq_true rfl) ?_
  refine W.eq (g2 := F0 m 4 ls []) rfl ?_
  refine lv_aload_n hx hb dP_init_4 rfl (lv_at hl 0 rfl) ?_
  refine lv_iconst hx hb dP_init_5 kI_1 ?_
  obtain ⟨w1, hw1, hf⟩ := ob_ hf
  refine r_put (i := 0) S hI fcP (Nat.le_of_ble_eq_true rfl) kw_66 rfl (narrow_z (Or.inr rfl)) rfl dP_init_6 hw1 (fun H locs hI => ?_)
  have hI : Iv A G kA kL ((14, nulL [(0, 1), (7, 3), (7, 2), (7, 1), (7, 0), (0, 0), (1, 3), (1, 2), (1, 1), (1, 0)]) : La) ad w1 s H _ := hI
  refine W.eq (g2 := F0 m 9 ls []) rfl ?_
  refine lv_aload_n hx hb dP_init_9 rfl (lv_at hl 0 rfl) ?_
  refine lv_iconst hx hb dP_init_10 kI_m1 ?_
  obtain ⟨w2, hw2, hf⟩ := ob_ hf
  refine r_put (i := 1) S hI fcP (Nat.le_of_ble_eq_true rfl) kw_68 rfl rfl rfl dP_init_11 hw2 (fun H locs hI => ?_)
  have hI : Iv A G kA kL ((14, nulL [(0, 1), (7, 3), (7, 2), (7, 1), (7, 0), (0, 0), (1, 3), (1, 2), (1, 1), (1, 0)]) : La) ad w2 s H _ := hI
  refine W.eq (g2 := F0 m 14 ls []) rfl ?_
  exact hret _ _ _ _ _ _ hE0 hB0 hI hf dP_init_14
theorem pkJ_init : Pk yJ_init cJ_init 1 none 0 := ⟨kw_79, kw_5, by decide +kernel, by decide +kernel, by decide +kernel⟩
abbrev rmJ_init14 : Room := { frames := 1, cells := 1, slots := 8, locals := 20 }
noncomputable def fJ_init14 (w : Wo) : Option Wo := (cz ((15, nulL [(0, 2), (0, 1), (7, 3), (7, 2), (7, 1), (7, 0), (0, 0), (1, 3), (1, 2), (1, 1), (1, 0)]) : La) w).bind fun _ => (pf ((16, nulL [(14, 0), (0, 2), (0, 1), (7, 3), (7, 2), (7, 1), (7, 0), (0, 0), (1, 3), (1, 2), (1, 1), (1, 0)]) : La) w 14 2 1 (-1)).bind fun w2 => (pf ((16, nulL [(14, 0), (0, 2), (0, 1), (7, 3), (7, 2), (7, 1), (7, 0), (0, 0), (1, 3), (1, 2), (1, 1), (1, 0)]) : La) w2 14 2 2 0).bind fun w3 => some w3
set_option maxHeartbeats 4000000 in
set_option maxRecDepth 100000 in
theorem kJ_init14 (l : Launch) (G : va_G) (kA kL : ClassId) (ad : Nat → Nat) (sz : Nat) (w w1 : Wo) (hf : fJ_init14 w = some w1) : Mc l yJ_init cJ_init 1 rmJ_init14 G kA kL ((15, nulL [(0, 2), (0, 1), (7, 3), (7, 2), (7, 1), (7, 0), (0, 0), (1, 3), (1, 2), (1, 1), (1, 0)]) : La) ((16, nulL [(14, 0), (0, 2), (0, 1), (7, 3), (7, 2), (7, 1), (7, 0), (0, 0), (1, 3), (1, 2), (1, 1), (1, 0)]) : La) ad sz [.ref (ad 14)] w w1 1 8 := by
  refine Mc.of (by decide +kernel) (Nat.le_of_ble_eq_true rfl) ?_
  intro p e s m args below meth c Q ls A S hin hA hret hl hI
  have S : CallFix p m c cJ_init 1 s args (.code yJ_init cJ_init 1 none :: gW) "GuardVolume$Journal" := S
  have hl : lv_has ls 1 [(0, .ref (ad 14))] := hl
  have hx := S.1
  have hb := S.2.1
  have hE0 : ∀ i, i < 15 → ad i = ad i := fun _ _ => rfl
  have hB0 : ∀ c, 15 ≤ c → c < 15 → s.heap.size ≤ ad c := fun c h1 h2 => absurd h2 (Nat.not_lt.mpr h1)
  unfold fJ_init14 at hf
  refine lv_aload_n hx hb dJ_init_0 rfl (lv_at hl 0 rfl) ?_
  refine r_obj S hl kw_80 kw_23 kw_24 dJ_init_1 (Nat.le_of_ble_eq_true rfl) (Nat.le_of_ble_eq_true rfl) ?_
  refine W.eq (g2 := F0 m 4 ls []) rfl ?_
  refine lv_aload_n hx hb dJ_init_4 rfl (lv_at hl 0 rfl) ?_
  refine lv_bipush hx hb dJ_init_5 kB_8 ?_
  obtain ⟨u1, hu1, hf⟩ := ob_ hf
  refine r_newa (N := 15) (nul := nulL [(0, 2), (0, 1), (7, 3), (7, 2), (7, 1), (7, 0), (0, 0), (1, 3), (1, 2), (1, 1), (1, 0)]) (n := 8) S hI hA (by decide +kernel) kw_59 rfl (by decide +kernel) (by decide +kernel) (by decide +kernel) hu1 ⟨Nat.le_of_ble_eq_true rfl, Nat.le_of_ble_eq_true rfl⟩ dJ_init_7 (fun ad1 H hup hnew hI => ?_)
  have hI : Iv A G kA kL ((16, nulL [(0, 2), (0, 1), (7, 3), (7, 2), (7, 1), (7, 0), (0, 0), (1, 3), (1, 2), (1, 1), (1, 0)]) : La) ad1 w s H _ := hI
  have hl : lv_has ls 1 [(0, .ref (ad1 14))] := by rw [hup 14 (Nat.le_of_ble_eq_true rfl)]; exact hl
  refine W.eq (g2 := F0 m 9 ls [.ref (ad1 15), .ref (ad1 14)]) (congrArg (fun z0 => F0 m 9 ls [.ref (ad1 15), .ref z0]) (hup 14 (Nat.le_of_ble_eq_true rfl)).symm) ?_
  have hE1 := eup hE0 (Nat.le_of_ble_eq_true rfl) hup
  have hB1 := bnew hB0 hup hnew
  refine r_putr (N := 16) (L := [(0, 2), (0, 1), (7, 3), (7, 2), (7, 1), (7, 0), (0, 0), (1, 3), (1, 2), (1, 1), (1, 0)]) (i := 0) (b := 14) (r := 15) S hI hin fcJ (Nat.le_of_ble_eq_true rfl) (Nat.le_of_ble_eq_true rfl) rfl rfl kw_81 rfl rfl rfl rfl dJ_init_9 (fun H locs hI => ?_)
  have hI : Iv A G kA kL ((16, nulL [(14, 0), (0, 2), (0, 1), (7, 3), (7, 2), (7, 1), (7, 0), (0, 0), (1, 3), (1, 2), (1, 1), (1, 0)]) : La) ad1 w s H _ := hI
  refine W.eq (g2 := F0 m 12 ls []) rfl ?_
  refine lv_aload_n hx hb dJ_init_12 rfl (lv_at hl 0 rfl) ?_
  refine lv_iconst hx hb dJ_init_13 kI_m1 ?_
  obtain ⟨w2, hw2, hf⟩ := ob_ hf
  refine r_put (i := 1) S hI fcJ (Nat.le_of_ble_eq_true rfl) kw_83 rfl rfl rfl dJ_init_14 hw2 (fun H locs hI => ?_)
  have hI : Iv A G kA kL ((16, nulL [(14, 0), (0, 2), (0, 1), (7, 3), (7, 2), (7, 1), (7, 0), (0, 0), (1, 3), (1, 2), (1, 1), (1, 0)]) : La) ad1 w2 s H _ := hI
  refine W.eq (g2 := F0 m 17 ls []) rfl ?_
  refine lv_aload_n hx hb dJ_init_17 rfl (lv_at hl 0 rfl) ?_
  refine lv_iconst hx hb dJ_init_18 kI_0 ?_
  obtain ⟨w3, hw3, hf⟩ := ob_ hf
  refine r_put (i := 2) S hI fcJ (Nat.le_of_ble_eq_true rfl) kw_85 rfl rfl rfl dJ_init_19 hw3 (fun H locs hI => ?_)
  have hI : Iv A G kA kL ((16, nulL [(14, 0), (0, 2), (0, 1), (7, 3), (7, 2), (7, 1), (7, 0), (0, 0), (1, 3), (1, 2), (1, 1), (1, 0)]) : La) ad1 w3 s H _ := hI
  refine W.eq (g2 := F0 m 22 ls []) rfl ?_
  exact hret _ _ _ _ _ _ hE1 hB1 hI hf dJ_init_22
theorem pkF_init : Pk yF_init cF_init 1 none 0 := ⟨kw_98, kw_6, by decide +kernel, by decide +kernel, by decide +kernel⟩
abbrev rmF_init16 : Room := { frames := 1, cells := 1, slots := 400, locals := 20 }
noncomputable def fF_init16 (w : Wo) : Option Wo := (cz ((17, nulL [(0, 3), (14, 0), (0, 2), (0, 1), (7, 3), (7, 2), (7, 1), (7, 0), (0, 0), (1, 3), (1, 2), (1, 1), (1, 0)]) : La) w).bind fun _ => (pf ((18, nulL [(16, 0), (0, 3), (14, 0), (0, 2), (0, 1), (7, 3), (7, 2), (7, 1), (7, 0), (0, 0), (1, 3), (1, 2), (1, 1), (1, 0)]) : La) w 16 1 1 0).bind fun w2 => (pf ((18, nulL [(16, 0), (0, 3), (14, 0), (0, 2), (0, 1), (7, 3), (7, 2), (7, 1), (7, 0), (0, 0), (1, 3), (1, 2), (1, 1), (1, 0)]) : La) w2 16 1 2 0).bind fun w3 => some w3
set_option maxHeartbeats 4000000 in
set_option maxRecDepth 100000 in
theorem kF_init16 (l : Launch) (G : va_G) (kA kL : ClassId) (ad : Nat → Nat) (sz : Nat) (w w1 : Wo) (hf : fF_init16 w = some w1) : Mc l yF_init cF_init 1 rmF_init16 G kA kL ((17, nulL [(0, 3), (14, 0), (0, 2), (0, 1), (7, 3), (7, 2), (7, 1), (7, 0), (0, 0), (1, 3), (1, 2), (1, 1), (1, 0)]) : La) ((18, nulL [(16, 0), (0, 3), (14, 0), (0, 2), (0, 1), (7, 3), (7, 2), (7, 1), (7, 0), (0, 0), (1, 3), (1, 2), (1, 1), (1, 0)]) : La) ad sz [.ref (ad 16)] w w1 1 400 := by
  refine Mc.of (by decide +kernel) (Nat.le_of_ble_eq_true rfl) ?_
  intro p e s m args below meth c Q ls A S hin hA hret hl hI
  have S : CallFix p m c cF_init 1 s args (.code yF_init cF_init 1 none :: gW) "GuardVolume$Findings" := S
  have hl : lv_has ls 1 [(0, .ref (ad 16))] := hl
  have hx := S.1
  have hb := S.2.1
  have hE0 : ∀ i, i < 17 → ad i = ad i := fun _ _ => rfl
  have hB0 : ∀ c, 17 ≤ c → c < 17 → s.heap.size ≤ ad c := fun c h1 h2 => absurd h2 (Nat.not_lt.mpr h1)
  unfold fF_init16 at hf
  refine lv_aload_n hx hb dF_init_0 rfl (lv_at hl 0 rfl) ?_
  refine r_obj S hl kw_99 kw_23 kw_24 dF_init_1 (Nat.le_of_ble_eq_true rfl) (Nat.le_of_ble_eq_true rfl) ?_
  refine W.eq (g2 := F0 m 4 ls []) rfl ?_
  refine lv_aload_n hx hb dF_init_4 rfl (lv_at hl 0 rfl) ?_
  refine lv_sipush hx hb dF_init_5 kS_400 ?_
  obtain ⟨u1, hu1, hf⟩ := ob_ hf
  refine r_newa (N := 17) (nul := nulL [(0, 3), (14, 0), (0, 2), (0, 1), (7, 3), (7, 2), (7, 1), (7, 0), (0, 0), (1, 3), (1, 2), (1, 1), (1, 0)]) (n := 400) S hI hA (by decide +kernel) kw_59 rfl (by decide +kernel) (by decide +kernel) (by decide +kernel) hu1 ⟨Nat.le_of_ble_eq_true rfl, Nat.le_of_ble_eq_true rfl⟩ dF_init_8 (fun ad1 H hup hnew hI => ?_)
  have hI : Iv A G kA kL ((18, nulL [(0, 3), (14, 0), (0, 2), (0, 1), (7, 3), (7, 2), (7, 1), (7, 0), (0, 0), (1, 3), (1, 2), (1, 1), (1, 0)]) : La) ad1 w s H _ := hI
  have hl : lv_has ls 1 [(0, .ref (ad1 16))] := by rw [hup 16 (Nat.le_of_ble_eq_true rfl)]; exact hl
  refine W.eq (g2 := F0 m 10 ls [.ref (ad1 17), .ref (ad1 16)]) (congrArg (fun z0 => F0 m 10 ls [.ref (ad1 17), .ref z0]) (hup 16 (Nat.le_of_ble_eq_true rfl)).symm) ?_
  have hE1 := eup hE0 (Nat.le_of_ble_eq_true rfl) hup
  have hB1 := bnew hB0 hup hnew
  refine r_putr (N := 18) (L := [(0, 3), (14, 0), (0, 2), (0, 1), (7, 3), (7, 2), (7, 1), (7, 0), (0, 0), (1, 3), (1, 2), (1, 1), (1, 0)]) (i := 0) (b := 16) (r := 17) S hI hin fcF (Nat.le_of_ble_eq_true rfl) (Nat.le_of_ble_eq_true rfl) rfl rfl kw_100 rfl rfl rfl rfl dF_init_10 (fun H locs hI => ?_)
  have hI : Iv A G kA kL ((18, nulL [(16, 0), (0, 3), (14, 0), (0, 2), (0, 1), (7, 3), (7, 2), (7, 1), (7, 0), (0, 0), (1, 3), (1, 2), (1, 1), (1, 0)]) : La) ad1 w s H _ := hI
  refine W.eq (g2 := F0 m 13 ls []) rfl ?_
  refine lv_aload_n hx hb dF_init_13 rfl (lv_at hl 0 rfl) ?_
  refine lv_iconst hx hb dF_init_14 kI_0 ?_
  obtain ⟨w2, hw2, hf⟩ := ob_ hf
  refine r_put (i := 1) S hI fcF (Nat.le_of_ble_eq_true rfl) kw_102 rfl rfl rfl dF_init_15 hw2 (fun H locs hI => ?_)
  have hI : Iv A G kA kL ((18, nulL [(16, 0), (0, 3), (14, 0), (0, 2), (0, 1), (7, 3), (7, 2), (7, 1), (7, 0), (0, 0), (1, 3), (1, 2), (1, 1), (1, 0)]) : La) ad1 w2 s H _ := hI
  refine W.eq (g2 := F0 m 18 ls []) rfl ?_
  refine lv_aload_n hx hb dF_init_18 rfl (lv_at hl 0 rfl) ?_
  refine lv_iconst hx hb dF_init_19 kI_0 ?_
  obtain ⟨w3, hw3, hf⟩ := ob_ hf
  refine r_put (i := 2) S hI fcF (Nat.le_of_ble_eq_true rfl) kw_104 rfl rfl rfl dF_init_20 hw3 (fun H locs hI => ?_)
  have hI : Iv A G kA kL ((18, nulL [(16, 0), (0, 3), (14, 0), (0, 2), (0, 1), (7, 3), (7, 2), (7, 1), (7, 0), (0, 0), (1, 3), (1, 2), (1, 1), (1, 0)]) : La) ad1 w3 s H _ := hI
  refine W.eq (g2 := F0 m 23 ls []) rfl ?_
  exact hret _ _ _ _ _ _ hE1 hB1 hI hf dF_init_23
theorem pkG_init : Pk yG_init cG_init 1 none 0 := ⟨kw_21, kw_1, by decide +kernel, by decide +kernel, by decide +kernel⟩
abbrev rmG_init0 : Room := { frames := 2, cells := 21, slots := 2125, locals := 48 }
noncomputable def fG_init0 (w : Wo) : Option Wo := (cz ((1, nulL []) : La) w).bind fun _ => (fD_init1 w).bind fun w102 => (cz ((7, nulL [(0, 0), (1, 3), (1, 2), (1, 1), (1, 0)]) : La) w102).bind fun _ => (fD_init7 w102).bind fun w104 => (cz ((13, nulL [(0, 1), (7, 3), (7, 2), (7, 1), (7, 0), (0, 0), (1, 3), (1, 2), (1, 1), (1, 0)]) : La) w104).bind fun _ => (fP_init13 w104).bind fun w106 => (cz ((14, nulL [(0, 2), (0, 1), (7, 3), (7, 2), (7, 1), (7, 0), (0, 0), (1, 3), (1, 2), (1, 1), (1, 0)]) : La) w106).bind fun _ => (fJ_init14 w106).bind fun w108 => (cz ((16, nulL [(0, 3), (14, 0), (0, 2), (0, 1), (7, 3), (7, 2), (7, 1), (7, 0), (0, 0), (1, 3), (1, 2), (1, 1), (1, 0)]) : La) w108).bind fun _ => (fF_init16 w108).bind fun w110 => (cz ((18, nulL [(0, 4), (16, 0), (0, 3), (14, 0), (0, 2), (0, 1), (7, 3), (7, 2), (7, 1), (7, 0), (0, 0), (1, 3), (1, 2), (1, 1), (1, 0)]) : La) w110).bind fun _ => (pf ((19, nulL [(0, 5), (0, 4), (16, 0), (0, 3), (14, 0), (0, 2), (0, 1), (7, 3), (7, 2), (7, 1), (7, 0), (0, 0), (1, 3), (1, 2), (1, 1), (1, 0)]) : La) w110 0 4 6 0).bind fun w12 => (pf ((19, nulL [(0, 5), (0, 4), (16, 0), (0, 3), (14, 0), (0, 2), (0, 1), (7, 3), (7, 2), (7, 1), (7, 0), (0, 0), (1, 3), (1, 2), (1, 1), (1, 0)]) : La) w12 0 4 7 0).bind fun w13 => (cz ((19, nulL [(0, 5), (0, 4), (16, 0), (0, 3), (14, 0), (0, 2), (0, 1), (7, 3), (7, 2), (7, 1), (7, 0), (0, 0), (1, 3), (1, 2), (1, 1), (1, 0)]) : La) w13).bind fun _ => (cz ((20, nulL [(0, 8), (0, 5), (0, 4), (16, 0), (0, 3), (14, 0), (0, 2), (0, 1), (7, 3), (7, 2), (7, 1), (7, 0), (0, 0), (1, 3), (1, 2), (1, 1), (1, 0)]) : La) w13).bind fun _ => (cz ((21, nulL [(0, 9), (0, 8), (0, 5), (0, 4), (16, 0), (0, 3), (14, 0), (0, 2), (0, 1), (7, 3), (7, 2), (7, 1), (7, 0), (0, 0), (1, 3), (1, 2), (1, 1), (1, 0)]) : La) w13).bind fun _ => some w13
set_option maxHeartbeats 4000000 in
set_option maxRecDepth 100000 in
theorem kG_init0 (l : Launch) (G : va_G) (kA kL : ClassId) (ad : Nat → Nat) (sz : Nat) (w w1 : Wo) (hf : fG_init0 w = some w1) : Mc l yG_init cG_init 1 rmG_init0 G kA kL ((1, nulL []) : La) ((22, nulL [(0, 10), (0, 9), (0, 8), (0, 5), (0, 4), (16, 0), (0, 3), (14, 0), (0, 2), (0, 1), (7, 3), (7, 2), (7, 1), (7, 0), (0, 0), (1, 3), (1, 2), (1, 1), (1, 0)]) : La) ad sz [.ref (ad 0)] w w1 21 2125 := by
  refine Mc.of (by decide +kernel) (Nat.le_of_ble_eq_true rfl) ?_
  intro p e s m args below meth c Q ls A S hin hA hret hl hI
  have S : CallFix p m c cG_init 1 s args (.code yG_init cG_init 1 none :: gW) "GuardVolume" := S
  have hl : lv_has ls 1 [(0, .ref (ad 0))] := hl
  have hx := S.1
  have hb := S.2.1
  have hE0 : ∀ i, i < 1 → ad i = ad i := fun _ _ => rfl
  have hB0 : ∀ c, 1 ≤ c → c < 1 → s.heap.size ≤ ad c := fun c h1 h2 => absurd h2 (Nat.not_lt.mpr h1)
  unfold fG_init0 at hf
  refine lv_aload_n hx hb dG_init_0 rfl (lv_at hl 0 rfl) ?_
  refine r_obj S hl kw_22 kw_23 kw_24 dG_init_1 (Nat.le_of_ble_eq_true rfl) (Nat.le_of_ble_eq_true rfl) ?_
  refine W.eq (g2 := F0 m 4 ls []) rfl ?_
  refine lv_aload_n hx hb dG_init_4 rfl (lv_at hl 0 rfl) ?_
  obtain ⟨u1, hu1, hf⟩ := ob_ hf
  refine r_new (N := 1) (nul := nulL []) S hI hA (by decide +kernel) fcD rfl (by decide +kernel) (by decide +kernel) kw_25 kw_26 kw_2 hu1 ⟨Nat.le_of_ble_eq_true rfl, Nat.le_of_ble_eq_true rfl⟩ dG_init_5 (fun ad1 H hup hnew hI => ?_)
  have hI : Iv A G kA kL ((2, nulL []) : La) ad1 w s H _ := hI
  have hl : lv_has ls 1 [(0, .ref (ad1 0))] := by rw [hup 0 (Nat.le_of_ble_eq_true rfl)]; exact hl
  refine W.eq (g2 := F0 m 8 ls [.ref (ad1 1), .ref (ad1 0)]) (congrArg (fun z0 => F0 m 8 ls [.ref (ad1 1), .ref z0]) (hup 0 (Nat.le_of_ble_eq_true rfl)).symm) ?_
  have hE1 := eup hE0 (Nat.le_of_ble_eq_true rfl) hup
  have hB1 := bnew hB0 hup hnew
  refine lv_dup hx hb dG_init_8 rfl ?_
  obtain ⟨w102, hw102, hf⟩ := ob_ hf
  refine r_cI (r_IN (b := 1) (rest := [.ref (ad1 1), .ref (ad1 0)]) S hl hI (kD_init1 l G kA kL ad1 H.size w w102 hw102) pkD_init rfl kw_28 kn_27 ⟨rfl, rfl⟩ ⟨Nat.le_of_ble_eq_true rfl, Nat.le_of_ble_eq_true rfl⟩ rfl (Nat.le_of_ble_eq_true rfl) ⟨Nat.le_of_ble_eq_true rfl, Nat.le_of_ble_eq_true rfl⟩ dG_init_9) hI hA (fun ad2 H locs hup hnew hI => ?_)
  have hI : Iv A G kA kL ((7, nulL [(1, 3), (1, 2), (1, 1), (1, 0)]) : La) ad2 w102 s H _ := hI
  have hl : lv_has ls 1 [(0, .ref (ad2 0))] := by rw [hup 0 (Nat.le_of_ble_eq_true rfl)]; exact hl
  refine W.eq (g2 := F0 m 12 ls [.ref (ad2 1), .ref (ad2 0)]) (cg2 (fun z0 z1 => F0 m 12 ls [.ref z1, .ref z0]) (hup 0 (Nat.le_of_ble_eq_true rfl)).symm (hup 1 (Nat.le_of_ble_eq_true rfl)).symm) ?_
  have hE2 := eup hE1 (Nat.le_of_ble_eq_true rfl) hup
  have hB2 := bnewc hB1 hup hnew
  refine r_putr (N := 7) (L := [(1, 3), (1, 2), (1, 1), (1, 0)]) (i := 0) (b := 0) (r := 1) S hI hin fcG (Nat.le_of_ble_eq_true rfl) (Nat.le_of_ble_eq_true rfl) rfl rfl kw_113 rfl rfl rfl rfl dG_init_12 (fun H locs hI => ?_)
  have hI : Iv A G kA kL ((7, nulL [(0, 0), (1, 3), (1, 2), (1, 1), (1, 0)]) : La) ad2 w102 s H _ := hI
  refine W.eq (g2 := F0 m 15 ls []) rfl ?_
  refine lv_aload_n hx hb dG_init_15 rfl (lv_at hl 0 rfl) ?_
  obtain ⟨u3, hu3, hf⟩ := ob_ hf
  refine r_new (N := 7) (nul := nulL [(0, 0), (1, 3), (1, 2), (1, 1), (1, 0)]) S hI hA (by decide +kernel) fcD rfl (by decide +kernel) (by decide +kernel) kw_25 kw_26 kw_2 hu3 ⟨Nat.le_of_ble_eq_true rfl, Nat.le_of_ble_eq_true rfl⟩ dG_init_16 (fun ad3 H hup hnew hI => ?_)
  have hI : Iv A G kA kL ((8, nulL [(0, 0), (1, 3), (1, 2), (1, 1), (1, 0)]) : La) ad3 w102 s H _ := hI
  have hl : lv_has ls 1 [(0, .ref (ad3 0))] := by rw [hup 0 (Nat.le_of_ble_eq_true rfl)]; exact hl
  refine W.eq (g2 := F0 m 19 ls [.ref (ad3 7), .ref (ad3 0)]) (congrArg (fun z0 => F0 m 19 ls [.ref (ad3 7), .ref z0]) (hup 0 (Nat.le_of_ble_eq_true rfl)).symm) ?_
  have hE3 := eup hE2 (Nat.le_of_ble_eq_true rfl) hup
  have hB3 := bnew hB2 hup hnew
  refine lv_dup hx hb dG_init_19 rfl ?_
  obtain ⟨w104, hw104, hf⟩ := ob_ hf
  refine r_cI (r_IN (b := 7) (rest := [.ref (ad3 7), .ref (ad3 0)]) S hl hI (kD_init7 l G kA kL ad3 H.size w102 w104 hw104) pkD_init rfl kw_28 kn_27 ⟨rfl, rfl⟩ ⟨Nat.le_of_ble_eq_true rfl, Nat.le_of_ble_eq_true rfl⟩ rfl (Nat.le_of_ble_eq_true rfl) ⟨Nat.le_of_ble_eq_true rfl, Nat.le_of_ble_eq_true rfl⟩ dG_init_20) hI hA (fun ad4 H locs hup hnew hI => ?_)
  have hI : Iv A G kA kL ((13, nulL [(7, 3), (7, 2), (7, 1), (7, 0), (0, 0), (1, 3), (1, 2), (1, 1), (1, 0)]) : La) ad4 w104 s H _ := hI
  have hl : lv_has ls 1 [(0, .ref (ad4 0))] := by rw [hup 0 (Nat.le_of_ble_eq_true rfl)]; exact hl
  refine W.eq (g2 := F0 m 23 ls [.ref (ad4 7), .ref (ad4 0)]) (cg2 (fun z0 z1 => F0 m 23 ls [.ref z1, .ref z0]) (hup 0 (Nat.le_of_ble_eq_true rfl)).symm (hup 7 (Nat.le_of_ble_eq_true rfl)).symm) ?_
  have hE4 := eup hE3 (Nat.le_of_ble_eq_true rfl) hup
  have hB4 := bnewc hB3 hup hnew
  refine r_putr (N := 13) (L := [(7, 3), (7, 2), (7, 1), (7, 0), (0, 0), (1, 3), (1, 2), (1, 1), (1, 0)]) (i := 1) (b := 0) (r := 7) S hI hin fcG (Nat.le_of_ble_eq_true rfl) (Nat.le_of_ble_eq_true rfl) rfl rfl kw_114 rfl rfl rfl rfl dG_init_23 (fun H locs hI => ?_)
  have hI : Iv A G kA kL ((13, nulL [(0, 1), (7, 3), (7, 2), (7, 1), (7, 0), (0, 0), (1, 3), (1, 2), (1, 1), (1, 0)]) : La) ad4 w104 s H _ := hI
  refine W.eq (g2 := F0 m 26 ls []) rfl ?_
  refine lv_aload_n hx hb dG_init_26 rfl (lv_at hl 0 rfl) ?_
  obtain ⟨u5, hu5, hf⟩ := ob_ hf
  refine r_new (N := 13) (nul := nulL [(0, 1), (7, 3), (7, 2), (7, 1), (7, 0), (0, 0), (1, 3), (1, 2), (1, 1), (1, 0)]) S hI hA (by decide +kernel) fcP rfl (by decide +kernel) (by decide +kernel) kw_60 kw_61 kw_4 hu5 ⟨Nat.le_of_ble_eq_true rfl, Nat.le_of_ble_eq_true rfl⟩ dG_init_27 (fun ad5 H hup hnew hI => ?_)
  have hI : Iv A G kA kL ((14, nulL [(0, 1), (7, 3), (7, 2), (7, 1), (7, 0), (0, 0), (1, 3), (1, 2), (1, 1), (1, 0)]) : La) ad5 w104 s H _ := hI
  have hl : lv_has ls 1 [(0, .ref (ad5 0))] := by rw [hup 0 (Nat.le_of_ble_eq_true rfl)]; exact hl
  refine W.eq (g2 := F0 m 30 ls [.ref (ad5 13), .ref (ad5 0)]) (congrArg (fun z0 => F0 m 30 ls [.ref (ad5 13), .ref z0]) (hup 0 (Nat.le_of_ble_eq_true rfl)).symm) ?_
  have hE5 := eup hE4 (Nat.le_of_ble_eq_true rfl) hup
  have hB5 := bnew hB4 hup hnew
  refine lv_dup hx hb dG_init_30 rfl ?_
  obtain ⟨w106, hw106, hf⟩ := ob_ hf
  refine r_cI (r_IN (b := 13) (rest := [.ref (ad5 13), .ref (ad5 0)]) S hl hI (kP_init13 l G kA kL ad5 H.size w104 w106 hw106) pkP_init rfl kw_63 kn_62 ⟨rfl, rfl⟩ ⟨Nat.le_of_ble_eq_true rfl, Nat.le_of_ble_eq_true rfl⟩ rfl (Nat.le_of_ble_eq_true rfl) ⟨Nat.le_of_ble_eq_true rfl, Nat.le_of_ble_eq_true rfl⟩ dG_init_31) hI hA (fun ad6 H locs hup hnew hI => ?_)
  have hI : Iv A G kA kL ((14, nulL [(0, 1), (7, 3), (7, 2), (7, 1), (7, 0), (0, 0), (1, 3), (1, 2), (1, 1), (1, 0)]) : La) ad6 w106 s H _ := hI
  have hl : lv_has ls 1 [(0, .ref (ad6 0))] := by rw [hup 0 (Nat.le_of_ble_eq_true rfl)]; exact hl
  refine W.eq (g2 := F0 m 34 ls [.ref (ad6 13), .ref (ad6 0)]) (cg2 (fun z0 z1 => F0 m 34 ls [.ref z1, .ref z0]) (hup 0 (Nat.le_of_ble_eq_true rfl)).symm (hup 13 (Nat.le_of_ble_eq_true rfl)).symm) ?_
  have hE6 := eup hE5 (Nat.le_of_ble_eq_true rfl) hup
  have hB6 := bnewc hB5 hup hnew
  refine r_putr (N := 14) (L := [(0, 1), (7, 3), (7, 2), (7, 1), (7, 0), (0, 0), (1, 3), (1, 2), (1, 1), (1, 0)]) (i := 2) (b := 0) (r := 13) S hI hin fcG (Nat.le_of_ble_eq_true rfl) (Nat.le_of_ble_eq_true rfl) rfl rfl kw_115 rfl rfl rfl rfl dG_init_34 (fun H locs hI => ?_)
  have hI : Iv A G kA kL ((14, nulL [(0, 2), (0, 1), (7, 3), (7, 2), (7, 1), (7, 0), (0, 0), (1, 3), (1, 2), (1, 1), (1, 0)]) : La) ad6 w106 s H _ := hI
  refine W.eq (g2 := F0 m 37 ls []) rfl ?_
  refine lv_aload_n hx hb dG_init_37 rfl (lv_at hl 0 rfl) ?_
  obtain ⟨u7, hu7, hf⟩ := ob_ hf
  refine r_new (N := 14) (nul := nulL [(0, 2), (0, 1), (7, 3), (7, 2), (7, 1), (7, 0), (0, 0), (1, 3), (1, 2), (1, 1), (1, 0)]) S hI hA (by decide +kernel) fcJ rfl (by decide +kernel) (by decide +kernel) kw_75 kw_76 kw_5 hu7 ⟨Nat.le_of_ble_eq_true rfl, Nat.le_of_ble_eq_true rfl⟩ dG_init_38 (fun ad7 H hup hnew hI => ?_)
  have hI : Iv A G kA kL ((15, nulL [(0, 2), (0, 1), (7, 3), (7, 2), (7, 1), (7, 0), (0, 0), (1, 3), (1, 2), (1, 1), (1, 0)]) : La) ad7 w106 s H _ := hI
  have hl : lv_has ls 1 [(0, .ref (ad7 0))] := by rw [hup 0 (Nat.le_of_ble_eq_true rfl)]; exact hl
  refine W.eq (g2 := F0 m 41 ls [.ref (ad7 14), .ref (ad7 0)]) (congrArg (fun z0 => F0 m 41 ls [.ref (ad7 14), .ref z0]) (hup 0 (Nat.le_of_ble_eq_true rfl)).symm) ?_
  have hE7 := eup hE6 (Nat.le_of_ble_eq_true rfl) hup
  have hB7 := bnew hB6 hup hnew
  refine lv_dup hx hb dG_init_41 rfl ?_
  obtain ⟨w108, hw108, hf⟩ := ob_ hf
  refine r_cI (r_IN (b := 14) (rest := [.ref (ad7 14), .ref (ad7 0)]) S hl hI (kJ_init14 l G kA kL ad7 H.size w106 w108 hw108) pkJ_init rfl kw_78 kn_77 ⟨rfl, rfl⟩ ⟨Nat.le_of_ble_eq_true rfl, Nat.le_of_ble_eq_true rfl⟩ rfl (Nat.le_of_ble_eq_true rfl) ⟨Nat.le_of_ble_eq_true rfl, Nat.le_of_ble_eq_true rfl⟩ dG_init_42) hI hA (fun ad8 H locs hup hnew hI => ?_)
  have hI : Iv A G kA kL ((16, nulL [(14, 0), (0, 2), (0, 1), (7, 3), (7, 2), (7, 1), (7, 0), (0, 0), (1, 3), (1, 2), (1, 1), (1, 0)]) : La) ad8 w108 s H _ := hI
  have hl : lv_has ls 1 [(0, .ref (ad8 0))] := by rw [hup 0 (Nat.le_of_ble_eq_true rfl)]; exact hl
  refine W.eq (g2 := F0 m 45 ls [.ref (ad8 14), .ref (ad8 0)]) (cg2 (fun z0 z1 => F0 m 45 ls [.ref z1, .ref z0]) (hup 0 (Nat.le_of_ble_eq_true rfl)).symm (hup 14 (Nat.le_of_ble_eq_true rfl)).symm) ?_
  have hE8 := eup hE7 (Nat.le_of_ble_eq_true rfl) hup
  have hB8 := bnewc hB7 hup hnew
  refine r_putr (N := 16) (L := [(14, 0), (0, 2), (0, 1), (7, 3), (7, 2), (7, 1), (7, 0), (0, 0), (1, 3), (1, 2), (1, 1), (1, 0)]) (i := 3) (b := 0) (r := 14) S hI hin fcG (Nat.le_of_ble_eq_true rfl) (Nat.le_of_ble_eq_true rfl) rfl rfl kw_116 rfl rfl rfl rfl dG_init_45 (fun H locs hI => ?_)
  have hI : Iv A G kA kL ((16, nulL [(0, 3), (14, 0), (0, 2), (0, 1), (7, 3), (7, 2), (7, 1), (7, 0), (0, 0), (1, 3), (1, 2), (1, 1), (1, 0)]) : La) ad8 w108 s H _ := hI
  refine W.eq (g2 := F0 m 48 ls []) rfl ?_
  refine lv_aload_n hx hb dG_init_48 rfl (lv_at hl 0 rfl) ?_
  obtain ⟨u9, hu9, hf⟩ := ob_ hf
  refine r_new (N := 16) (nul := nulL [(0, 3), (14, 0), (0, 2), (0, 1), (7, 3), (7, 2), (7, 1), (7, 0), (0, 0), (1, 3), (1, 2), (1, 1), (1, 0)]) S hI hA (by decide +kernel) fcF rfl (by decide +kernel) (by decide +kernel) kw_94 kw_95 kw_6 hu9 ⟨Nat.le_of_ble_eq_true rfl, Nat.le_of_ble_eq_true rfl⟩ dG_init_49 (fun ad9 H hup hnew hI => ?_)
  have hI : Iv A G kA kL ((17, nulL [(0, 3), (14, 0), (0, 2), (0, 1), (7, 3), (7, 2), (7, 1), (7, 0), (0, 0), (1, 3), (1, 2), (1, 1), (1, 0)]) : La) ad9 w108 s H _ := hI
  have hl : lv_has ls 1 [(0, .ref (ad9 0))] := by rw [hup 0 (Nat.le_of_ble_eq_true rfl)]; exact hl
  refine W.eq (g2 := F0 m 52 ls [.ref (ad9 16), .ref (ad9 0)]) (congrArg (fun z0 => F0 m 52 ls [.ref (ad9 16), .ref z0]) (hup 0 (Nat.le_of_ble_eq_true rfl)).symm) ?_
  have hE9 := eup hE8 (Nat.le_of_ble_eq_true rfl) hup
  have hB9 := bnew hB8 hup hnew
  refine lv_dup hx hb dG_init_52 rfl ?_
  obtain ⟨w110, hw110, hf⟩ := ob_ hf
  refine r_cI (r_IN (b := 16) (rest := [.ref (ad9 16), .ref (ad9 0)]) S hl hI (kF_init16 l G kA kL ad9 H.size w108 w110 hw110) pkF_init rfl kw_97 kn_96 ⟨rfl, rfl⟩ ⟨Nat.le_of_ble_eq_true rfl, Nat.le_of_ble_eq_true rfl⟩ rfl (Nat.le_of_ble_eq_true rfl) ⟨Nat.le_of_ble_eq_true rfl, Nat.le_of_ble_eq_true rfl⟩ dG_init_53) hI hA (fun ad10 H locs hup hnew hI => ?_)
  have hI : Iv A G kA kL ((18, nulL [(16, 0), (0, 3), (14, 0), (0, 2), (0, 1), (7, 3), (7, 2), (7, 1), (7, 0), (0, 0), (1, 3), (1, 2), (1, 1), (1, 0)]) : La) ad10 w110 s H _ := hI
  have hl : lv_has ls 1 [(0, .ref (ad10 0))] := by rw [hup 0 (Nat.le_of_ble_eq_true rfl)]; exact hl
  refine W.eq (g2 := F0 m 56 ls [.ref (ad10 16), .ref (ad10 0)]) (cg2 (fun z0 z1 => F0 m 56 ls [.ref z1, .ref z0]) (hup 0 (Nat.le_of_ble_eq_true rfl)).symm (hup 16 (Nat.le_of_ble_eq_true rfl)).symm) ?_
  have hE10 := eup hE9 (Nat.le_of_ble_eq_true rfl) hup
  have hB10 := bnewc hB9 hup hnew
  refine r_putr (N := 18) (L := [(16, 0), (0, 3), (14, 0), (0, 2), (0, 1), (7, 3), (7, 2), (7, 1), (7, 0), (0, 0), (1, 3), (1, 2), (1, 1), (1, 0)]) (i := 4) (b := 0) (r := 16) S hI hin fcG (Nat.le_of_ble_eq_true rfl) (Nat.le_of_ble_eq_true rfl) rfl rfl kw_117 rfl rfl rfl rfl dG_init_56 (fun H locs hI => ?_)
  have hI : Iv A G kA kL ((18, nulL [(0, 4), (16, 0), (0, 3), (14, 0), (0, 2), (0, 1), (7, 3), (7, 2), (7, 1), (7, 0), (0, 0), (1, 3), (1, 2), (1, 1), (1, 0)]) : La) ad10 w110 s H _ := hI
  refine W.eq (g2 := F0 m 59 ls []) rfl ?_
  refine lv_aload_n hx hb dG_init_59 rfl (lv_at hl 0 rfl) ?_
  refine lv_bipush hx hb dG_init_60 kB_16 ?_
  obtain ⟨u11, hu11, hf⟩ := ob_ hf
  refine r_newa (N := 18) (nul := nulL [(0, 4), (16, 0), (0, 3), (14, 0), (0, 2), (0, 1), (7, 3), (7, 2), (7, 1), (7, 0), (0, 0), (1, 3), (1, 2), (1, 1), (1, 0)]) (n := 16) S hI hA (by decide +kernel) kw_59 rfl (by decide +kernel) (by decide +kernel) (by decide +kernel) hu11 ⟨Nat.le_of_ble_eq_true rfl, Nat.le_of_ble_eq_true rfl⟩ dG_init_62 (fun ad11 H hup hnew hI => ?_)
  have hI : Iv A G kA kL ((19, nulL [(0, 4), (16, 0), (0, 3), (14, 0), (0, 2), (0, 1), (7, 3), (7, 2), (7, 1), (7, 0), (0, 0), (1, 3), (1, 2), (1, 1), (1, 0)]) : La) ad11 w110 s H _ := hI
  have hl : lv_has ls 1 [(0, .ref (ad11 0))] := by rw [hup 0 (Nat.le_of_ble_eq_true rfl)]; exact hl
  refine W.eq (g2 := F0 m 64 ls [.ref (ad11 18), .ref (ad11 0)]) (congrArg (fun z0 => F0 m 64 ls [.ref (ad11 18), .ref z0]) (hup 0 (Nat.le_of_ble_eq_true rfl)).symm) ?_
  have hE11 := eup hE10 (Nat.le_of_ble_eq_true rfl) hup
  have hB11 := bnew hB10 hup hnew
  refine r_putr (N := 19) (L := [(0, 4), (16, 0), (0, 3), (14, 0), (0, 2), (0, 1), (7, 3), (7, 2), (7, 1), (7, 0), (0, 0), (1, 3), (1, 2), (1, 1), (1, 0)]) (i := 5) (b := 0) (r := 18) S hI hin fcG (Nat.le_of_ble_eq_true rfl) (Nat.le_of_ble_eq_true rfl) rfl rfl kw_118 rfl rfl rfl rfl dG_init_64 (fun H locs hI => ?_)
  have hI : Iv A G kA kL ((19, nulL [(0, 5), (0, 4), (16, 0), (0, 3), (14, 0), (0, 2), (0, 1), (7, 3), (7, 2), (7, 1), (7, 0), (0, 0), (1, 3), (1, 2), (1, 1), (1, 0)]) : La) ad11 w110 s H _ := hI
  refine W.eq (g2 := F0 m 67 ls []) rfl ?_
  refine lv_aload_n hx hb dG_init_67 rfl (lv_at hl 0 rfl) ?_
  refine lv_iconst hx hb dG_init_68 kI_0 ?_
  obtain ⟨w12, hw12, hf⟩ := ob_ hf
  refine r_put (i := 6) S hI fcG (Nat.le_of_ble_eq_true rfl) kw_119 rfl rfl rfl dG_init_69 hw12 (fun H locs hI => ?_)
  have hI : Iv A G kA kL ((19, nulL [(0, 5), (0, 4), (16, 0), (0, 3), (14, 0), (0, 2), (0, 1), (7, 3), (7, 2), (7, 1), (7, 0), (0, 0), (1, 3), (1, 2), (1, 1), (1, 0)]) : La) ad11 w12 s H _ := hI
  refine W.eq (g2 := F0 m 72 ls []) rfl ?_
  refine lv_aload_n hx hb dG_init_72 rfl (lv_at hl 0 rfl) ?_
  refine lv_iconst hx hb dG_init_73 kI_0 ?_
  obtain ⟨w13, hw13, hf⟩ := ob_ hf
  refine r_put (i := 7) S hI fcG (Nat.le_of_ble_eq_true rfl) kw_120 rfl rfl rfl dG_init_74 hw13 (fun H locs hI => ?_)
  have hI : Iv A G kA kL ((19, nulL [(0, 5), (0, 4), (16, 0), (0, 3), (14, 0), (0, 2), (0, 1), (7, 3), (7, 2), (7, 1), (7, 0), (0, 0), (1, 3), (1, 2), (1, 1), (1, 0)]) : La) ad11 w13 s H _ := hI
  refine W.eq (g2 := F0 m 77 ls []) rfl ?_
  refine lv_aload_n hx hb dG_init_77 rfl (lv_at hl 0 rfl) ?_
  refine lv_bipush hx hb dG_init_78 kB_11 ?_
  obtain ⟨u14, hu14, hf⟩ := ob_ hf
  refine r_newa (N := 19) (nul := nulL [(0, 5), (0, 4), (16, 0), (0, 3), (14, 0), (0, 2), (0, 1), (7, 3), (7, 2), (7, 1), (7, 0), (0, 0), (1, 3), (1, 2), (1, 1), (1, 0)]) (n := 11) S hI hA (by decide +kernel) kw_59 rfl (by decide +kernel) (by decide +kernel) (by decide +kernel) hu14 ⟨Nat.le_of_ble_eq_true rfl, Nat.le_of_ble_eq_true rfl⟩ dG_init_80 (fun ad14 H hup hnew hI => ?_)
  have hI : Iv A G kA kL ((20, nulL [(0, 5), (0, 4), (16, 0), (0, 3), (14, 0), (0, 2), (0, 1), (7, 3), (7, 2), (7, 1), (7, 0), (0, 0), (1, 3), (1, 2), (1, 1), (1, 0)]) : La) ad14 w13 s H _ := hI
  have hl : lv_has ls 1 [(0, .ref (ad14 0))] := by rw [hup 0 (Nat.le_of_ble_eq_true rfl)]; exact hl
  refine W.eq (g2 := F0 m 82 ls [.ref (ad14 19), .ref (ad14 0)]) (congrArg (fun z0 => F0 m 82 ls [.ref (ad14 19), .ref z0]) (hup 0 (Nat.le_of_ble_eq_true rfl)).symm) ?_
  have hE14 := eup hE11 (Nat.le_of_ble_eq_true rfl) hup
  have hB14 := bnew hB11 hup hnew
  refine r_putr (N := 20) (L := [(0, 5), (0, 4), (16, 0), (0, 3), (14, 0), (0, 2), (0, 1), (7, 3), (7, 2), (7, 1), (7, 0), (0, 0), (1, 3), (1, 2), (1, 1), (1, 0)]) (i := 8) (b := 0) (r := 19) S hI hin fcG (Nat.le_of_ble_eq_true rfl) (Nat.le_of_ble_eq_true rfl) rfl rfl kw_121 rfl rfl rfl rfl dG_init_82 (fun H locs hI => ?_)
  have hI : Iv A G kA kL ((20, nulL [(0, 8), (0, 5), (0, 4), (16, 0), (0, 3), (14, 0), (0, 2), (0, 1), (7, 3), (7, 2), (7, 1), (7, 0), (0, 0), (1, 3), (1, 2), (1, 1), (1, 0)]) : La) ad14 w13 s H _ := hI
  refine W.eq (g2 := F0 m 85 ls []) rfl ?_
  refine lv_aload_n hx hb dG_init_85 rfl (lv_at hl 0 rfl) ?_
  refine lv_bipush hx hb dG_init_86 kB_8 ?_
  obtain ⟨u15, hu15, hf⟩ := ob_ hf
  refine r_newa (N := 20) (nul := nulL [(0, 8), (0, 5), (0, 4), (16, 0), (0, 3), (14, 0), (0, 2), (0, 1), (7, 3), (7, 2), (7, 1), (7, 0), (0, 0), (1, 3), (1, 2), (1, 1), (1, 0)]) (n := 8) S hI hA (by decide +kernel) kw_59 rfl (by decide +kernel) (by decide +kernel) (by decide +kernel) hu15 ⟨Nat.le_of_ble_eq_true rfl, Nat.le_of_ble_eq_true rfl⟩ dG_init_88 (fun ad15 H hup hnew hI => ?_)
  have hI : Iv A G kA kL ((21, nulL [(0, 8), (0, 5), (0, 4), (16, 0), (0, 3), (14, 0), (0, 2), (0, 1), (7, 3), (7, 2), (7, 1), (7, 0), (0, 0), (1, 3), (1, 2), (1, 1), (1, 0)]) : La) ad15 w13 s H _ := hI
  have hl : lv_has ls 1 [(0, .ref (ad15 0))] := by rw [hup 0 (Nat.le_of_ble_eq_true rfl)]; exact hl
  refine W.eq (g2 := F0 m 90 ls [.ref (ad15 20), .ref (ad15 0)]) (congrArg (fun z0 => F0 m 90 ls [.ref (ad15 20), .ref z0]) (hup 0 (Nat.le_of_ble_eq_true rfl)).symm) ?_
  have hE15 := eup hE14 (Nat.le_of_ble_eq_true rfl) hup
  have hB15 := bnew hB14 hup hnew
  refine r_putr (N := 21) (L := [(0, 8), (0, 5), (0, 4), (16, 0), (0, 3), (14, 0), (0, 2), (0, 1), (7, 3), (7, 2), (7, 1), (7, 0), (0, 0), (1, 3), (1, 2), (1, 1), (1, 0)]) (i := 9) (b := 0) (r := 20) S hI hin fcG (Nat.le_of_ble_eq_true rfl) (Nat.le_of_ble_eq_true rfl) rfl rfl kw_122 rfl rfl rfl rfl dG_init_90 (fun H locs hI => ?_)
  have hI : Iv A G kA kL ((21, nulL [(0, 9), (0, 8), (0, 5), (0, 4), (16, 0), (0, 3), (14, 0), (0, 2), (0, 1), (7, 3), (7, 2), (7, 1), (7, 0), (0, 0), (1, 3), (1, 2), (1, 1), (1, 0)]) : La) ad15 w13 s H _ := hI
  refine W.eq (g2 := F0 m 93 ls []) rfl ?_
  refine lv_aload_n hx hb dG_init_93 rfl (lv_at hl 0 rfl) ?_
  refine lv_bipush hx hb dG_init_94 kB_8 ?_
  obtain ⟨u16, hu16, hf⟩ := ob_ hf
  refine r_newa (N := 21) (nul := nulL [(0, 9), (0, 8), (0, 5), (0, 4), (16, 0), (0, 3), (14, 0), (0, 2), (0, 1), (7, 3), (7, 2), (7, 1), (7, 0), (0, 0), (1, 3), (1, 2), (1, 1), (1, 0)]) (n := 8) S hI hA (by decide +kernel) kw_59 rfl (by decide +kernel) (by decide +kernel) (by decide +kernel) hu16 ⟨Nat.le_of_ble_eq_true rfl, Nat.le_of_ble_eq_true rfl⟩ dG_init_96 (fun ad16 H hup hnew hI => ?_)
  have hI : Iv A G kA kL ((22, nulL [(0, 9), (0, 8), (0, 5), (0, 4), (16, 0), (0, 3), (14, 0), (0, 2), (0, 1), (7, 3), (7, 2), (7, 1), (7, 0), (0, 0), (1, 3), (1, 2), (1, 1), (1, 0)]) : La) ad16 w13 s H _ := hI
  have hl : lv_has ls 1 [(0, .ref (ad16 0))] := by rw [hup 0 (Nat.le_of_ble_eq_true rfl)]; exact hl
  refine W.eq (g2 := F0 m 98 ls [.ref (ad16 21), .ref (ad16 0)]) (congrArg (fun z0 => F0 m 98 ls [.ref (ad16 21), .ref z0]) (hup 0 (Nat.le_of_ble_eq_true rfl)).symm) ?_
  have hE16 := eup hE15 (Nat.le_of_ble_eq_true rfl) hup
  have hB16 := bnew hB15 hup hnew
  refine r_putr (N := 22) (L := [(0, 9), (0, 8), (0, 5), (0, 4), (16, 0), (0, 3), (14, 0), (0, 2), (0, 1), (7, 3), (7, 2), (7, 1), (7, 0), (0, 0), (1, 3), (1, 2), (1, 1), (1, 0)]) (i := 10) (b := 0) (r := 21) S hI hin fcG (Nat.le_of_ble_eq_true rfl) (Nat.le_of_ble_eq_true rfl) rfl rfl kw_123 rfl rfl rfl rfl dG_init_98 (fun H locs hI => ?_)
  have hI : Iv A G kA kL ((22, nulL [(0, 10), (0, 9), (0, 8), (0, 5), (0, 4), (16, 0), (0, 3), (14, 0), (0, 2), (0, 1), (7, 3), (7, 2), (7, 1), (7, 0), (0, 0), (1, 3), (1, 2), (1, 1), (1, 0)]) : La) ad16 w13 s H _ := hI
  refine W.eq (g2 := F0 m 101 ls []) rfl ?_
  exact hret _ _ _ _ _ _ hE16 hB16 hI hf dG_init_101
theorem pkM_init : Pk yM_init cM_init 3 none 0 := ⟨kw_489, kw_7, by decide +kernel, by decide +kernel, by decide +kernel⟩
def bM_init_111s (Λ : La) (K104 : Wo → Nat → Int32 → Option Wo) (K111 : Wo → Nat → Int32 → Int32 → Option Wo) (w : Wo) (c0 : Nat) (x1 : Int32) (x2 : Int32) : Option Wo := if 72 ≤ x2 then (K104 w c0 (x1 + 1)) else ((gr Λ c0 5 1).bind fun r2 => (fM_place Λ w x1 x2).bind fun q3 => (st Λ q3.1 r2 (q3.2 + 9) x2).bind fun w4 => (gr Λ c0 5 1).bind fun r5 => (fM_place Λ w4 x1 x2).bind fun q6 => (fM_place Λ q6.1 x1 x2).bind fun q7 => (fM_sumAt Λ q7.1 c0 q7.2).bind fun q8 => (st Λ q8.1 r5 (q6.2 + 8) q8.2).bind fun w9 => K111 w9 c0 x1 (x2 + 1))
def bM_init_111 (Λ : La) (K104 : Wo → Nat → Int32 → Option Wo) : Nat → Wo → Nat → Int32 → Int32 → Option Wo
  | 0 => fun _ _ _ _ => none
  | n + 1 => bM_init_111s Λ K104 (bM_init_111 Λ K104 n)
def bM_init_104s (Λ : La) (K104 : Wo → Nat → Int32 → Option Wo) (w : Wo) (c0 : Nat) (x1 : Int32) : Option Wo := if 2 ≤ x1 then (some w) else (bM_init_111 Λ K104 1000 w c0 x1 0)
def bM_init_104 (Λ : La) : Nat → Wo → Nat → Int32 → Option Wo
  | 0 => fun _ _ _ => none
  | n + 1 => bM_init_104s Λ (bM_init_104 Λ n)
abbrev rmM_init22 : Room := { frames := 2, cells := 11, slots := 2079, locals := 44 }
noncomputable def fM_init22 (w : Wo) : Option Wo := (cz ((23, nulL [(0, 10), (0, 9), (0, 8), (0, 5), (0, 4), (16, 0), (0, 3), (14, 0), (0, 2), (0, 1), (7, 3), (7, 2), (7, 1), (7, 0), (0, 0), (1, 3), (1, 2), (1, 1), (1, 0)]) : La) w).bind fun _ => (cz ((24, nulL [(22, 1), (0, 10), (0, 9), (0, 8), (0, 5), (0, 4), (16, 0), (0, 3), (14, 0), (0, 2), (0, 1), (7, 3), (7, 2), (7, 1), (7, 0), (0, 0), (1, 3), (1, 2), (1, 1), (1, 0)]) : La) w).bind fun _ => (pf ((25, nulL [(22, 2), (22, 1), (0, 10), (0, 9), (0, 8), (0, 5), (0, 4), (16, 0), (0, 3), (14, 0), (0, 2), (0, 1), (7, 3), (7, 2), (7, 1), (7, 0), (0, 0), (1, 3), (1, 2), (1, 1), (1, 0)]) : La) w 22 5 3 (-1)).bind fun w3 => (cz ((25, nulL [(22, 2), (22, 1), (0, 10), (0, 9), (0, 8), (0, 5), (0, 4), (16, 0), (0, 3), (14, 0), (0, 2), (0, 1), (7, 3), (7, 2), (7, 1), (7, 0), (0, 0), (1, 3), (1, 2), (1, 1), (1, 0)]) : La) w3).bind fun _ => (pf ((26, nulL [(22, 4), (22, 2), (22, 1), (0, 10), (0, 9), (0, 8), (0, 5), (0, 4), (16, 0), (0, 3), (14, 0), (0, 2), (0, 1), (7, 3), (7, 2), (7, 1), (7, 0), (0, 0), (1, 3), (1, 2), (1, 1), (1, 0)]) : La) w3 22 5 7 (-1)).bind fun w5 => (cz ((26, nulL [(22, 4), (22, 2), (22, 1), (0, 10), (0, 9), (0, 8), (0, 5), (0, 4), (16, 0), (0, 3), (14, 0), (0, 2), (0, 1), (7, 3), (7, 2), (7, 1), (7, 0), (0, 0), (1, 3), (1, 2), (1, 1), (1, 0)]) : La) w5).bind fun _ => (cz ((27, nulL [(22, 8), (22, 4), (22, 2), (22, 1), (0, 10), (0, 9), (0, 8), (0, 5), (0, 4), (16, 0), (0, 3), (14, 0), (0, 2), (0, 1), (7, 3), (7, 2), (7, 1), (7, 0), (0, 0), (1, 3), (1, 2), (1, 1), (1, 0)]) : La) w5).bind fun _ => (cz ((28, nulL [(22, 9), (22, 8), (22, 4), (22, 2), (22, 1), (0, 10), (0, 9), (0, 8), (0, 5), (0, 4), (16, 0), (0, 3), (14, 0), (0, 2), (0, 1), (7, 3), (7, 2), (7, 1), (7, 0), (0, 0), (1, 3), (1, 2), (1, 1), (1, 0)]) : La) w5).bind fun _ => (cz ((29, nulL [(22, 10), (22, 9), (22, 8), (22, 4), (22, 2), (22, 1), (0, 10), (0, 9), (0, 8), (0, 5), (0, 4), (16, 0), (0, 3), (14, 0), (0, 2), (0, 1), (7, 3), (7, 2), (7, 1), (7, 0), (0, 0), (1, 3), (1, 2), (1, 1), (1, 0)]) : La) w5).bind fun _ => (cz ((30, nulL [(22, 11), (22, 10), (22, 9), (22, 8), (22, 4), (22, 2), (22, 1), (0, 10), (0, 9), (0, 8), (0, 5), (0, 4), (16, 0), (0, 3), (14, 0), (0, 2), (0, 1), (7, 3), (7, 2), (7, 1), (7, 0), (0, 0), (1, 3), (1, 2), (1, 1), (1, 0)]) : La) w5).bind fun _ => (cz ((31, nulL [(22, 12), (22, 11), (22, 10), (22, 9), (22, 8), (22, 4), (22, 2), (22, 1), (0, 10), (0, 9), (0, 8), (0, 5), (0, 4), (16, 0), (0, 3), (14, 0), (0, 2), (0, 1), (7, 3), (7, 2), (7, 1), (7, 0), (0, 0), (1, 3), (1, 2), (1, 1), (1, 0)]) : La) w5).bind fun _ => (cz ((32, nulL [(22, 17), (22, 12), (22, 11), (22, 10), (22, 9), (22, 8), (22, 4), (22, 2), (22, 1), (0, 10), (0, 9), (0, 8), (0, 5), (0, 4), (16, 0), (0, 3), (14, 0), (0, 2), (0, 1), (7, 3), (7, 2), (7, 1), (7, 0), (0, 0), (1, 3), (1, 2), (1, 1), (1, 0)]) : La) w5).bind fun _ => (cz ((33, nulL [(22, 18), (22, 17), (22, 12), (22, 11), (22, 10), (22, 9), (22, 8), (22, 4), (22, 2), (22, 1), (0, 10), (0, 9), (0, 8), (0, 5), (0, 4), (16, 0), (0, 3), (14, 0), (0, 2), (0, 1), (7, 3), (7, 2), (7, 1), (7, 0), (0, 0), (1, 3), (1, 2), (1, 1), (1, 0)]) : La) w5).bind fun _ => bM_init_104 ((34, nulL [(22, 19), (22, 18), (22, 17), (22, 12), (22, 11), (22, 10), (22, 9), (22, 8), (22, 4), (22, 2), (22, 1), (0, 10), (0, 9), (0, 8), (0, 5), (0, 4), (16, 0), (0, 3), (14, 0), (0, 2), (0, 1), (7, 3), (7, 2), (7, 1), (7, 0), (0, 0), (1, 3), (1, 2), (1, 1), (1, 0)]) : La) 1000 w5 22 0
set_option maxHeartbeats 4000000 in
set_option maxRecDepth 100000 in
theorem kM_init22 (l : Launch) (G : va_G) (kA kL : ClassId) (ad : Nat → Nat) (sz : Nat) (w w1 : Wo) (hf : fM_init22 w = some w1) : Mc l yM_init cM_init 3 rmM_init22 G kA kL ((23, nulL [(0, 10), (0, 9), (0, 8), (0, 5), (0, 4), (16, 0), (0, 3), (14, 0), (0, 2), (0, 1), (7, 3), (7, 2), (7, 1), (7, 0), (0, 0), (1, 3), (1, 2), (1, 1), (1, 0)]) : La) ((34, nulL [(22, 19), (22, 18), (22, 17), (22, 12), (22, 11), (22, 10), (22, 9), (22, 8), (22, 4), (22, 2), (22, 1), (0, 10), (0, 9), (0, 8), (0, 5), (0, 4), (16, 0), (0, 3), (14, 0), (0, 2), (0, 1), (7, 3), (7, 2), (7, 1), (7, 0), (0, 0), (1, 3), (1, 2), (1, 1), (1, 0)]) : La) ad sz [.ref (ad 22)] w w1 11 2079 := by
  refine Mc.of (by decide +kernel) (Nat.le_of_ble_eq_true rfl) ?_
  intro p e s m args below meth c Q ls A S hin hA hret hl hI
  have S : CallFix p m c cM_init 3 s args (.code yM_init cM_init 3 none :: gW) "GuardVolumeModel" := S
  have hl : lv_has ls 3 [(0, .ref (ad 22))] := hl
  have hx := S.1
  have hb := S.2.1
  have hE0 : ∀ i, i < 23 → ad i = ad i := fun _ _ => rfl
  have hB0 : ∀ c, 23 ≤ c → c < 23 → s.heap.size ≤ ad c := fun c h1 h2 => absurd h2 (Nat.not_lt.mpr h1)
  unfold fM_init22 at hf
  refine lv_aload_n hx hb dM_init_0 rfl (lv_at hl 0 rfl) ?_
  refine r_obj S hl kw_490 kw_23 kw_24 dM_init_1 (Nat.le_of_ble_eq_true rfl) (Nat.le_of_ble_eq_true rfl) ?_
  refine W.eq (g2 := F0 m 4 ls []) rfl ?_
  refine lv_aload_n hx hb dM_init_4 rfl (lv_at hl 0 rfl) ?_
  refine lv_sipush hx hb dM_init_5 kS_1584 ?_
  obtain ⟨u1, hu1, hf⟩ := ob_ hf
  refine r_newa (N := 23) (nul := nulL [(0, 10), (0, 9), (0, 8), (0, 5), (0, 4), (16, 0), (0, 3), (14, 0), (0, 2), (0, 1), (7, 3), (7, 2), (7, 1), (7, 0), (0, 0), (1, 3), (1, 2), (1, 1), (1, 0)]) (n := 1584) S hI hA (by decide +kernel) kw_59 rfl (by decide +kernel) (by decide +kernel) (by decide +kernel) hu1 ⟨Nat.le_of_ble_eq_true rfl, Nat.le_of_ble_eq_true rfl⟩ dM_init_8 (fun ad1 H hup hnew hI => ?_)
  have hI : Iv A G kA kL ((24, nulL [(0, 10), (0, 9), (0, 8), (0, 5), (0, 4), (16, 0), (0, 3), (14, 0), (0, 2), (0, 1), (7, 3), (7, 2), (7, 1), (7, 0), (0, 0), (1, 3), (1, 2), (1, 1), (1, 0)]) : La) ad1 w s H _ := hI
  have hl : lv_has ls 3 [(0, .ref (ad1 22))] := by rw [hup 22 (Nat.le_of_ble_eq_true rfl)]; exact hl
  refine W.eq (g2 := F0 m 10 ls [.ref (ad1 23), .ref (ad1 22)]) (congrArg (fun z0 => F0 m 10 ls [.ref (ad1 23), .ref z0]) (hup 22 (Nat.le_of_ble_eq_true rfl)).symm) ?_
  have hE1 := eup hE0 (Nat.le_of_ble_eq_true rfl) hup
  have hB1 := bnew hB0 hup hnew
  refine r_putr (N := 24) (L := [(0, 10), (0, 9), (0, 8), (0, 5), (0, 4), (16, 0), (0, 3), (14, 0), (0, 2), (0, 1), (7, 3), (7, 2), (7, 1), (7, 0), (0, 0), (1, 3), (1, 2), (1, 1), (1, 0)]) (i := 1) (b := 22) (r := 23) S hI hin fcM (Nat.le_of_ble_eq_true rfl) (Nat.le_of_ble_eq_true rfl) rfl rfl kw_502 rfl rfl rfl rfl dM_init_10 (fun H locs hI => ?_)
  have hI : Iv A G kA kL ((24, nulL [(22, 1), (0, 10), (0, 9), (0, 8), (0, 5), (0, 4), (16, 0), (0, 3), (14, 0), (0, 2), (0, 1), (7, 3), (7, 2), (7, 1), (7, 0), (0, 0), (1, 3), (1, 2), (1, 1), (1, 0)]) : La) ad1 w s H _ := hI
  refine W.eq (g2 := F0 m 13 ls []) rfl ?_
  refine lv_aload_n hx hb dM_init_13 rfl (lv_at hl 0 rfl) ?_
  refine lv_bipush hx hb dM_init_14 kB_16 ?_
  obtain ⟨u2, hu2, hf⟩ := ob_ hf
  refine r_newa (N := 24) (nul := nulL [(22, 1), (0, 10), (0, 9), (0, 8), (0, 5), (0, 4), (16, 0), (0, 3), (14, 0), (0, 2), (0, 1), (7, 3), (7, 2), (7, 1), (7, 0), (0, 0), (1, 3), (1, 2), (1, 1), (1, 0)]) (n := 16) S hI hA (by decide +kernel) kw_59 rfl (by decide +kernel) (by decide +kernel) (by decide +kernel) hu2 ⟨Nat.le_of_ble_eq_true rfl, Nat.le_of_ble_eq_true rfl⟩ dM_init_16 (fun ad2 H hup hnew hI => ?_)
  have hI : Iv A G kA kL ((25, nulL [(22, 1), (0, 10), (0, 9), (0, 8), (0, 5), (0, 4), (16, 0), (0, 3), (14, 0), (0, 2), (0, 1), (7, 3), (7, 2), (7, 1), (7, 0), (0, 0), (1, 3), (1, 2), (1, 1), (1, 0)]) : La) ad2 w s H _ := hI
  have hl : lv_has ls 3 [(0, .ref (ad2 22))] := by rw [hup 22 (Nat.le_of_ble_eq_true rfl)]; exact hl
  refine W.eq (g2 := F0 m 18 ls [.ref (ad2 24), .ref (ad2 22)]) (congrArg (fun z0 => F0 m 18 ls [.ref (ad2 24), .ref z0]) (hup 22 (Nat.le_of_ble_eq_true rfl)).symm) ?_
  have hE2 := eup hE1 (Nat.le_of_ble_eq_true rfl) hup
  have hB2 := bnew hB1 hup hnew
  refine r_putr (N := 25) (L := [(22, 1), (0, 10), (0, 9), (0, 8), (0, 5), (0, 4), (16, 0), (0, 3), (14, 0), (0, 2), (0, 1), (7, 3), (7, 2), (7, 1), (7, 0), (0, 0), (1, 3), (1, 2), (1, 1), (1, 0)]) (i := 2) (b := 22) (r := 24) S hI hin fcM (Nat.le_of_ble_eq_true rfl) (Nat.le_of_ble_eq_true rfl) rfl rfl kw_503 rfl rfl rfl rfl dM_init_18 (fun H locs hI => ?_)
  have hI : Iv A G kA kL ((25, nulL [(22, 2), (22, 1), (0, 10), (0, 9), (0, 8), (0, 5), (0, 4), (16, 0), (0, 3), (14, 0), (0, 2), (0, 1), (7, 3), (7, 2), (7, 1), (7, 0), (0, 0), (1, 3), (1, 2), (1, 1), (1, 0)]) : La) ad2 w s H _ := hI
  refine W.eq (g2 := F0 m 21 ls []) rfl ?_
  refine lv_aload_n hx hb dM_init_21 rfl (lv_at hl 0 rfl) ?_
  refine lv_iconst hx hb dM_init_22 kI_m1 ?_
  obtain ⟨w3, hw3, hf⟩ := ob_ hf
  refine r_put (i := 3) S hI fcM (Nat.le_of_ble_eq_true rfl) kw_504 rfl rfl rfl dM_init_23 hw3 (fun H locs hI => ?_)
  have hI : Iv A G kA kL ((25, nulL [(22, 2), (22, 1), (0, 10), (0, 9), (0, 8), (0, 5), (0, 4), (16, 0), (0, 3), (14, 0), (0, 2), (0, 1), (7, 3), (7, 2), (7, 1), (7, 0), (0, 0), (1, 3), (1, 2), (1, 1), (1, 0)]) : La) ad2 w3 s H _ := hI
  refine W.eq (g2 := F0 m 26 ls []) rfl ?_
  refine lv_aload_n hx hb dM_init_26 rfl (lv_at hl 0 rfl) ?_
  refine lv_bipush hx hb dM_init_27 kB_8 ?_
  obtain ⟨u4, hu4, hf⟩ := ob_ hf
  refine r_newa (N := 25) (nul := nulL [(22, 2), (22, 1), (0, 10), (0, 9), (0, 8), (0, 5), (0, 4), (16, 0), (0, 3), (14, 0), (0, 2), (0, 1), (7, 3), (7, 2), (7, 1), (7, 0), (0, 0), (1, 3), (1, 2), (1, 1), (1, 0)]) (n := 8) S hI hA (by decide +kernel) kw_59 rfl (by decide +kernel) (by decide +kernel) (by decide +kernel) hu4 ⟨Nat.le_of_ble_eq_true rfl, Nat.le_of_ble_eq_true rfl⟩ dM_init_29 (fun ad4 H hup hnew hI => ?_)
  have hI : Iv A G kA kL ((26, nulL [(22, 2), (22, 1), (0, 10), (0, 9), (0, 8), (0, 5), (0, 4), (16, 0), (0, 3), (14, 0), (0, 2), (0, 1), (7, 3), (7, 2), (7, 1), (7, 0), (0, 0), (1, 3), (1, 2), (1, 1), (1, 0)]) : La) ad4 w3 s H _ := hI
  have hl : lv_has ls 3 [(0, .ref (ad4 22))] := by rw [hup 22 (Nat.le_of_ble_eq_true rfl)]; exact hl
  refine W.eq (g2 := F0 m 31 ls [.ref (ad4 25), .ref (ad4 22)]) (congrArg (fun z0 => F0 m 31 ls [.ref (ad4 25), .ref z0]) (hup 22 (Nat.le_of_ble_eq_true rfl)).symm) ?_
  have hE4 := eup hE2 (Nat.le_of_ble_eq_true rfl) hup
  have hB4 := bnew hB2 hup hnew
  refine r_putr (N := 26) (L := [(22, 2), (22, 1), (0, 10), (0, 9), (0, 8), (0, 5), (0, 4), (16, 0), (0, 3), (14, 0), (0, 2), (0, 1), (7, 3), (7, 2), (7, 1), (7, 0), (0, 0), (1, 3), (1, 2), (1, 1), (1, 0)]) (i := 4) (b := 22) (r := 25) S hI hin fcM (Nat.le_of_ble_eq_true rfl) (Nat.le_of_ble_eq_true rfl) rfl rfl kw_505 rfl rfl rfl rfl dM_init_31 (fun H locs hI => ?_)
  have hI : Iv A G kA kL ((26, nulL [(22, 4), (22, 2), (22, 1), (0, 10), (0, 9), (0, 8), (0, 5), (0, 4), (16, 0), (0, 3), (14, 0), (0, 2), (0, 1), (7, 3), (7, 2), (7, 1), (7, 0), (0, 0), (1, 3), (1, 2), (1, 1), (1, 0)]) : La) ad4 w3 s H _ := hI
  refine W.eq (g2 := F0 m 34 ls []) rfl ?_
  refine lv_aload_n hx hb dM_init_34 rfl (lv_at hl 0 rfl) ?_
  refine lv_iconst hx hb dM_init_35 kI_m1 ?_
  obtain ⟨w5, hw5, hf⟩ := ob_ hf
  refine r_put (i := 7) S hI fcM (Nat.le_of_ble_eq_true rfl) kw_508 rfl rfl rfl dM_init_36 hw5 (fun H locs hI => ?_)
  have hI : Iv A G kA kL ((26, nulL [(22, 4), (22, 2), (22, 1), (0, 10), (0, 9), (0, 8), (0, 5), (0, 4), (16, 0), (0, 3), (14, 0), (0, 2), (0, 1), (7, 3), (7, 2), (7, 1), (7, 0), (0, 0), (1, 3), (1, 2), (1, 1), (1, 0)]) : La) ad4 w5 s H _ := hI
  refine W.eq (g2 := F0 m 39 ls []) rfl ?_
  refine lv_aload_n hx hb dM_init_39 rfl (lv_at hl 0 rfl) ?_
  refine lv_iconst hx hb dM_init_40 kI_2 ?_
  obtain ⟨u6, hu6, hf⟩ := ob_ hf
  refine r_newa (N := 26) (nul := nulL [(22, 4), (22, 2), (22, 1), (0, 10), (0, 9), (0, 8), (0, 5), (0, 4), (16, 0), (0, 3), (14, 0), (0, 2), (0, 1), (7, 3), (7, 2), (7, 1), (7, 0), (0, 0), (1, 3), (1, 2), (1, 1), (1, 0)]) (n := 2) S hI hA (by decide +kernel) kw_59 rfl (by decide +kernel) (by decide +kernel) (by decide +kernel) hu6 ⟨Nat.le_of_ble_eq_true rfl, Nat.le_of_ble_eq_true rfl⟩ dM_init_41 (fun ad6 H hup hnew hI => ?_)
  have hI : Iv A G kA kL ((27, nulL [(22, 4), (22, 2), (22, 1), (0, 10), (0, 9), (0, 8), (0, 5), (0, 4), (16, 0), (0, 3), (14, 0), (0, 2), (0, 1), (7, 3), (7, 2), (7, 1), (7, 0), (0, 0), (1, 3), (1, 2), (1, 1), (1, 0)]) : La) ad6 w5 s H _ := hI
  have hl : lv_has ls 3 [(0, .ref (ad6 22))] := by rw [hup 22 (Nat.le_of_ble_eq_true rfl)]; exact hl
  refine W.eq (g2 := F0 m 43 ls [.ref (ad6 26), .ref (ad6 22)]) (congrArg (fun z0 => F0 m 43 ls [.ref (ad6 26), .ref z0]) (hup 22 (Nat.le_of_ble_eq_true rfl)).symm) ?_
  have hE6 := eup hE4 (Nat.le_of_ble_eq_true rfl) hup
  have hB6 := bnew hB4 hup hnew
  refine r_putr (N := 27) (L := [(22, 4), (22, 2), (22, 1), (0, 10), (0, 9), (0, 8), (0, 5), (0, 4), (16, 0), (0, 3), (14, 0), (0, 2), (0, 1), (7, 3), (7, 2), (7, 1), (7, 0), (0, 0), (1, 3), (1, 2), (1, 1), (1, 0)]) (i := 8) (b := 22) (r := 26) S hI hin fcM (Nat.le_of_ble_eq_true rfl) (Nat.le_of_ble_eq_true rfl) rfl rfl kw_509 rfl rfl rfl rfl dM_init_43 (fun H locs hI => ?_)
  have hI : Iv A G kA kL ((27, nulL [(22, 8), (22, 4), (22, 2), (22, 1), (0, 10), (0, 9), (0, 8), (0, 5), (0, 4), (16, 0), (0, 3), (14, 0), (0, 2), (0, 1), (7, 3), (7, 2), (7, 1), (7, 0), (0, 0), (1, 3), (1, 2), (1, 1), (1, 0)]) : La) ad6 w5 s H _ := hI
  refine W.eq (g2 := F0 m 46 ls []) rfl ?_
  refine lv_aload_n hx hb dM_init_46 rfl (lv_at hl 0 rfl) ?_
  refine lv_iconst hx hb dM_init_47 kI_2 ?_
  obtain ⟨u7, hu7, hf⟩ := ob_ hf
  refine r_newa (N := 27) (nul := nulL [(22, 8), (22, 4), (22, 2), (22, 1), (0, 10), (0, 9), (0, 8), (0, 5), (0, 4), (16, 0), (0, 3), (14, 0), (0, 2), (0, 1), (7, 3), (7, 2), (7, 1), (7, 0), (0, 0), (1, 3), (1, 2), (1, 1), (1, 0)]) (n := 2) S hI hA (by decide +kernel) kw_59 rfl (by decide +kernel) (by decide +kernel) (by decide +kernel) hu7 ⟨Nat.le_of_ble_eq_true rfl, Nat.le_of_ble_eq_true rfl⟩ dM_init_48 (fun ad7 H hup hnew hI => ?_)
  have hI : Iv A G kA kL ((28, nulL [(22, 8), (22, 4), (22, 2), (22, 1), (0, 10), (0, 9), (0, 8), (0, 5), (0, 4), (16, 0), (0, 3), (14, 0), (0, 2), (0, 1), (7, 3), (7, 2), (7, 1), (7, 0), (0, 0), (1, 3), (1, 2), (1, 1), (1, 0)]) : La) ad7 w5 s H _ := hI
  have hl : lv_has ls 3 [(0, .ref (ad7 22))] := by rw [hup 22 (Nat.le_of_ble_eq_true rfl)]; exact hl
  refine W.eq (g2 := F0 m 50 ls [.ref (ad7 27), .ref (ad7 22)]) (congrArg (fun z0 => F0 m 50 ls [.ref (ad7 27), .ref z0]) (hup 22 (Nat.le_of_ble_eq_true rfl)).symm) ?_
  have hE7 := eup hE6 (Nat.le_of_ble_eq_true rfl) hup
  have hB7 := bnew hB6 hup hnew
  refine r_putr (N := 28) (L := [(22, 8), (22, 4), (22, 2), (22, 1), (0, 10), (0, 9), (0, 8), (0, 5), (0, 4), (16, 0), (0, 3), (14, 0), (0, 2), (0, 1), (7, 3), (7, 2), (7, 1), (7, 0), (0, 0), (1, 3), (1, 2), (1, 1), (1, 0)]) (i := 9) (b := 22) (r := 27) S hI hin fcM (Nat.le_of_ble_eq_true rfl) (Nat.le_of_ble_eq_true rfl) rfl rfl kw_510 rfl rfl rfl rfl dM_init_50 (fun H locs hI => ?_)
  have hI : Iv A G kA kL ((28, nulL [(22, 9), (22, 8), (22, 4), (22, 2), (22, 1), (0, 10), (0, 9), (0, 8), (0, 5), (0, 4), (16, 0), (0, 3), (14, 0), (0, 2), (0, 1), (7, 3), (7, 2), (7, 1), (7, 0), (0, 0), (1, 3), (1, 2), (1, 1), (1, 0)]) : La) ad7 w5 s H _ := hI
  refine W.eq (g2 := F0 m 53 ls []) rfl ?_
  refine lv_aload_n hx hb dM_init_53 rfl (lv_at hl 0 rfl) ?_
  refine lv_bipush hx hb dM_init_54 kB_16 ?_
  obtain ⟨u8, hu8, hf⟩ := ob_ hf
  refine r_newa (N := 28) (nul := nulL [(22, 9), (22, 8), (22, 4), (22, 2), (22, 1), (0, 10), (0, 9), (0, 8), (0, 5), (0, 4), (16, 0), (0, 3), (14, 0), (0, 2), (0, 1), (7, 3), (7, 2), (7, 1), (7, 0), (0, 0), (1, 3), (1, 2), (1, 1), (1, 0)]) (n := 16) S hI hA (by decide +kernel) kw_59 rfl (by decide +kernel) (by decide +kernel) (by decide +kernel) hu8 ⟨Nat.le_of_ble_eq_true rfl, Nat.le_of_ble_eq_true rfl⟩ dM_init_56 (fun ad8 H hup hnew hI => ?_)
  have hI : Iv A G kA kL ((29, nulL [(22, 9), (22, 8), (22, 4), (22, 2), (22, 1), (0, 10), (0, 9), (0, 8), (0, 5), (0, 4), (16, 0), (0, 3), (14, 0), (0, 2), (0, 1), (7, 3), (7, 2), (7, 1), (7, 0), (0, 0), (1, 3), (1, 2), (1, 1), (1, 0)]) : La) ad8 w5 s H _ := hI
  have hl : lv_has ls 3 [(0, .ref (ad8 22))] := by rw [hup 22 (Nat.le_of_ble_eq_true rfl)]; exact hl
  refine W.eq (g2 := F0 m 58 ls [.ref (ad8 28), .ref (ad8 22)]) (congrArg (fun z0 => F0 m 58 ls [.ref (ad8 28), .ref z0]) (hup 22 (Nat.le_of_ble_eq_true rfl)).symm) ?_
  have hE8 := eup hE7 (Nat.le_of_ble_eq_true rfl) hup
  have hB8 := bnew hB7 hup hnew
  refine r_putr (N := 29) (L := [(22, 9), (22, 8), (22, 4), (22, 2), (22, 1), (0, 10), (0, 9), (0, 8), (0, 5), (0, 4), (16, 0), (0, 3), (14, 0), (0, 2), (0, 1), (7, 3), (7, 2), (7, 1), (7, 0), (0, 0), (1, 3), (1, 2), (1, 1), (1, 0)]) (i := 10) (b := 22) (r := 28) S hI hin fcM (Nat.le_of_ble_eq_true rfl) (Nat.le_of_ble_eq_true rfl) rfl rfl kw_511 rfl rfl rfl rfl dM_init_58 (fun H locs hI => ?_)
  have hI : Iv A G kA kL ((29, nulL [(22, 10), (22, 9), (22, 8), (22, 4), (22, 2), (22, 1), (0, 10), (0, 9), (0, 8), (0, 5), (0, 4), (16, 0), (0, 3), (14, 0), (0, 2), (0, 1), (7, 3), (7, 2), (7, 1), (7, 0), (0, 0), (1, 3), (1, 2), (1, 1), (1, 0)]) : La) ad8 w5 s H _ := hI
  refine W.eq (g2 := F0 m 61 ls []) rfl ?_
  refine lv_aload_n hx hb dM_init_61 rfl (lv_at hl 0 rfl) ?_
  refine lv_bipush hx hb dM_init_62 kB_16 ?_
  obtain ⟨u9, hu9, hf⟩ := ob_ hf
  refine r_newa (N := 29) (nul := nulL [(22, 10), (22, 9), (22, 8), (22, 4), (22, 2), (22, 1), (0, 10), (0, 9), (0, 8), (0, 5), (0, 4), (16, 0), (0, 3), (14, 0), (0, 2), (0, 1), (7, 3), (7, 2), (7, 1), (7, 0), (0, 0), (1, 3), (1, 2), (1, 1), (1, 0)]) (n := 16) S hI hA (by decide +kernel) kw_59 rfl (by decide +kernel) (by decide +kernel) (by decide +kernel) hu9 ⟨Nat.le_of_ble_eq_true rfl, Nat.le_of_ble_eq_true rfl⟩ dM_init_64 (fun ad9 H hup hnew hI => ?_)
  have hI : Iv A G kA kL ((30, nulL [(22, 10), (22, 9), (22, 8), (22, 4), (22, 2), (22, 1), (0, 10), (0, 9), (0, 8), (0, 5), (0, 4), (16, 0), (0, 3), (14, 0), (0, 2), (0, 1), (7, 3), (7, 2), (7, 1), (7, 0), (0, 0), (1, 3), (1, 2), (1, 1), (1, 0)]) : La) ad9 w5 s H _ := hI
  have hl : lv_has ls 3 [(0, .ref (ad9 22))] := by rw [hup 22 (Nat.le_of_ble_eq_true rfl)]; exact hl
  refine W.eq (g2 := F0 m 66 ls [.ref (ad9 29), .ref (ad9 22)]) (congrArg (fun z0 => F0 m 66 ls [.ref (ad9 29), .ref z0]) (hup 22 (Nat.le_of_ble_eq_true rfl)).symm) ?_
  have hE9 := eup hE8 (Nat.le_of_ble_eq_true rfl) hup
  have hB9 := bnew hB8 hup hnew
  refine r_putr (N := 30) (L := [(22, 10), (22, 9), (22, 8), (22, 4), (22, 2), (22, 1), (0, 10), (0, 9), (0, 8), (0, 5), (0, 4), (16, 0), (0, 3), (14, 0), (0, 2), (0, 1), (7, 3), (7, 2), (7, 1), (7, 0), (0, 0), (1, 3), (1, 2), (1, 1), (1, 0)]) (i := 11) (b := 22) (r := 29) S hI hin fcM (Nat.le_of_ble_eq_true rfl) (Nat.le_of_ble_eq_true rfl) rfl rfl kw_512 rfl rfl rfl rfl dM_init_66 (fun H locs hI => ?_)
  have hI : Iv A G kA kL ((30, nulL [(22, 11), (22, 10), (22, 9), (22, 8), (22, 4), (22, 2), (22, 1), (0, 10), (0, 9), (0, 8), (0, 5), (0, 4), (16, 0), (0, 3), (14, 0), (0, 2), (0, 1), (7, 3), (7, 2), (7, 1), (7, 0), (0, 0), (1, 3), (1, 2), (1, 1), (1, 0)]) : La) ad9 w5 s H _ := hI
  refine W.eq (g2 := F0 m 69 ls []) rfl ?_
  refine lv_aload_n hx hb dM_init_69 rfl (lv_at hl 0 rfl) ?_
  refine lv_bipush hx hb dM_init_70 kB_16 ?_
  obtain ⟨u10, hu10, hf⟩ := ob_ hf
  refine r_newa (N := 30) (nul := nulL [(22, 11), (22, 10), (22, 9), (22, 8), (22, 4), (22, 2), (22, 1), (0, 10), (0, 9), (0, 8), (0, 5), (0, 4), (16, 0), (0, 3), (14, 0), (0, 2), (0, 1), (7, 3), (7, 2), (7, 1), (7, 0), (0, 0), (1, 3), (1, 2), (1, 1), (1, 0)]) (n := 16) S hI hA (by decide +kernel) kw_59 rfl (by decide +kernel) (by decide +kernel) (by decide +kernel) hu10 ⟨Nat.le_of_ble_eq_true rfl, Nat.le_of_ble_eq_true rfl⟩ dM_init_72 (fun ad10 H hup hnew hI => ?_)
  have hI : Iv A G kA kL ((31, nulL [(22, 11), (22, 10), (22, 9), (22, 8), (22, 4), (22, 2), (22, 1), (0, 10), (0, 9), (0, 8), (0, 5), (0, 4), (16, 0), (0, 3), (14, 0), (0, 2), (0, 1), (7, 3), (7, 2), (7, 1), (7, 0), (0, 0), (1, 3), (1, 2), (1, 1), (1, 0)]) : La) ad10 w5 s H _ := hI
  have hl : lv_has ls 3 [(0, .ref (ad10 22))] := by rw [hup 22 (Nat.le_of_ble_eq_true rfl)]; exact hl
  refine W.eq (g2 := F0 m 74 ls [.ref (ad10 30), .ref (ad10 22)]) (congrArg (fun z0 => F0 m 74 ls [.ref (ad10 30), .ref z0]) (hup 22 (Nat.le_of_ble_eq_true rfl)).symm) ?_
  have hE10 := eup hE9 (Nat.le_of_ble_eq_true rfl) hup
  have hB10 := bnew hB9 hup hnew
  refine r_putr (N := 31) (L := [(22, 11), (22, 10), (22, 9), (22, 8), (22, 4), (22, 2), (22, 1), (0, 10), (0, 9), (0, 8), (0, 5), (0, 4), (16, 0), (0, 3), (14, 0), (0, 2), (0, 1), (7, 3), (7, 2), (7, 1), (7, 0), (0, 0), (1, 3), (1, 2), (1, 1), (1, 0)]) (i := 12) (b := 22) (r := 30) S hI hin fcM (Nat.le_of_ble_eq_true rfl) (Nat.le_of_ble_eq_true rfl) rfl rfl kw_513 rfl rfl rfl rfl dM_init_74 (fun H locs hI => ?_)
  have hI : Iv A G kA kL ((31, nulL [(22, 12), (22, 11), (22, 10), (22, 9), (22, 8), (22, 4), (22, 2), (22, 1), (0, 10), (0, 9), (0, 8), (0, 5), (0, 4), (16, 0), (0, 3), (14, 0), (0, 2), (0, 1), (7, 3), (7, 2), (7, 1), (7, 0), (0, 0), (1, 3), (1, 2), (1, 1), (1, 0)]) : La) ad10 w5 s H _ := hI
  refine W.eq (g2 := F0 m 77 ls []) rfl ?_
  refine lv_aload_n hx hb dM_init_77 rfl (lv_at hl 0 rfl) ?_
  refine lv_sipush hx hb dM_init_78 kS_400 ?_
  obtain ⟨u11, hu11, hf⟩ := ob_ hf
  refine r_newa (N := 31) (nul := nulL [(22, 12), (22, 11), (22, 10), (22, 9), (22, 8), (22, 4), (22, 2), (22, 1), (0, 10), (0, 9), (0, 8), (0, 5), (0, 4), (16, 0), (0, 3), (14, 0), (0, 2), (0, 1), (7, 3), (7, 2), (7, 1), (7, 0), (0, 0), (1, 3), (1, 2), (1, 1), (1, 0)]) (n := 400) S hI hA (by decide +kernel) kw_59 rfl (by decide +kernel) (by decide +kernel) (by decide +kernel) hu11 ⟨Nat.le_of_ble_eq_true rfl, Nat.le_of_ble_eq_true rfl⟩ dM_init_81 (fun ad11 H hup hnew hI => ?_)
  have hI : Iv A G kA kL ((32, nulL [(22, 12), (22, 11), (22, 10), (22, 9), (22, 8), (22, 4), (22, 2), (22, 1), (0, 10), (0, 9), (0, 8), (0, 5), (0, 4), (16, 0), (0, 3), (14, 0), (0, 2), (0, 1), (7, 3), (7, 2), (7, 1), (7, 0), (0, 0), (1, 3), (1, 2), (1, 1), (1, 0)]) : La) ad11 w5 s H _ := hI
  have hl : lv_has ls 3 [(0, .ref (ad11 22))] := by rw [hup 22 (Nat.le_of_ble_eq_true rfl)]; exact hl
  refine W.eq (g2 := F0 m 83 ls [.ref (ad11 31), .ref (ad11 22)]) (congrArg (fun z0 => F0 m 83 ls [.ref (ad11 31), .ref z0]) (hup 22 (Nat.le_of_ble_eq_true rfl)).symm) ?_
  have hE11 := eup hE10 (Nat.le_of_ble_eq_true rfl) hup
  have hB11 := bnew hB10 hup hnew
  refine r_putr (N := 32) (L := [(22, 12), (22, 11), (22, 10), (22, 9), (22, 8), (22, 4), (22, 2), (22, 1), (0, 10), (0, 9), (0, 8), (0, 5), (0, 4), (16, 0), (0, 3), (14, 0), (0, 2), (0, 1), (7, 3), (7, 2), (7, 1), (7, 0), (0, 0), (1, 3), (1, 2), (1, 1), (1, 0)]) (i := 17) (b := 22) (r := 31) S hI hin fcM (Nat.le_of_ble_eq_true rfl) (Nat.le_of_ble_eq_true rfl) rfl rfl kw_518 rfl rfl rfl rfl dM_init_83 (fun H locs hI => ?_)
  have hI : Iv A G kA kL ((32, nulL [(22, 17), (22, 12), (22, 11), (22, 10), (22, 9), (22, 8), (22, 4), (22, 2), (22, 1), (0, 10), (0, 9), (0, 8), (0, 5), (0, 4), (16, 0), (0, 3), (14, 0), (0, 2), (0, 1), (7, 3), (7, 2), (7, 1), (7, 0), (0, 0), (1, 3), (1, 2), (1, 1), (1, 0)]) : La) ad11 w5 s H _ := hI
  refine W.eq (g2 := F0 m 86 ls []) rfl ?_
  refine lv_aload_n hx hb dM_init_86 rfl (lv_at hl 0 rfl) ?_
  refine lv_bipush hx hb dM_init_87 kB_11 ?_
  obtain ⟨u12, hu12, hf⟩ := ob_ hf
  refine r_newa (N := 32) (nul := nulL [(22, 17), (22, 12), (22, 11), (22, 10), (22, 9), (22, 8), (22, 4), (22, 2), (22, 1), (0, 10), (0, 9), (0, 8), (0, 5), (0, 4), (16, 0), (0, 3), (14, 0), (0, 2), (0, 1), (7, 3), (7, 2), (7, 1), (7, 0), (0, 0), (1, 3), (1, 2), (1, 1), (1, 0)]) (n := 11) S hI hA (by decide +kernel) kw_59 rfl (by decide +kernel) (by decide +kernel) (by decide +kernel) hu12 ⟨Nat.le_of_ble_eq_true rfl, Nat.le_of_ble_eq_true rfl⟩ dM_init_89 (fun ad12 H hup hnew hI => ?_)
  have hI : Iv A G kA kL ((33, nulL [(22, 17), (22, 12), (22, 11), (22, 10), (22, 9), (22, 8), (22, 4), (22, 2), (22, 1), (0, 10), (0, 9), (0, 8), (0, 5), (0, 4), (16, 0), (0, 3), (14, 0), (0, 2), (0, 1), (7, 3), (7, 2), (7, 1), (7, 0), (0, 0), (1, 3), (1, 2), (1, 1), (1, 0)]) : La) ad12 w5 s H _ := hI
  have hl : lv_has ls 3 [(0, .ref (ad12 22))] := by rw [hup 22 (Nat.le_of_ble_eq_true rfl)]; exact hl
  refine W.eq (g2 := F0 m 91 ls [.ref (ad12 32), .ref (ad12 22)]) (congrArg (fun z0 => F0 m 91 ls [.ref (ad12 32), .ref z0]) (hup 22 (Nat.le_of_ble_eq_true rfl)).symm) ?_
  have hE12 := eup hE11 (Nat.le_of_ble_eq_true rfl) hup
  have hB12 := bnew hB11 hup hnew
  refine r_putr (N := 33) (L := [(22, 17), (22, 12), (22, 11), (22, 10), (22, 9), (22, 8), (22, 4), (22, 2), (22, 1), (0, 10), (0, 9), (0, 8), (0, 5), (0, 4), (16, 0), (0, 3), (14, 0), (0, 2), (0, 1), (7, 3), (7, 2), (7, 1), (7, 0), (0, 0), (1, 3), (1, 2), (1, 1), (1, 0)]) (i := 18) (b := 22) (r := 32) S hI hin fcM (Nat.le_of_ble_eq_true rfl) (Nat.le_of_ble_eq_true rfl) rfl rfl kw_519 rfl rfl rfl rfl dM_init_91 (fun H locs hI => ?_)
  have hI : Iv A G kA kL ((33, nulL [(22, 18), (22, 17), (22, 12), (22, 11), (22, 10), (22, 9), (22, 8), (22, 4), (22, 2), (22, 1), (0, 10), (0, 9), (0, 8), (0, 5), (0, 4), (16, 0), (0, 3), (14, 0), (0, 2), (0, 1), (7, 3), (7, 2), (7, 1), (7, 0), (0, 0), (1, 3), (1, 2), (1, 1), (1, 0)]) : La) ad12 w5 s H _ := hI
  refine W.eq (g2 := F0 m 94 ls []) rfl ?_
  refine lv_aload_n hx hb dM_init_94 rfl (lv_at hl 0 rfl) ?_
  refine lv_bipush hx hb dM_init_95 kB_8 ?_
  obtain ⟨u13, hu13, hf⟩ := ob_ hf
  refine r_newa (N := 33) (nul := nulL [(22, 18), (22, 17), (22, 12), (22, 11), (22, 10), (22, 9), (22, 8), (22, 4), (22, 2), (22, 1), (0, 10), (0, 9), (0, 8), (0, 5), (0, 4), (16, 0), (0, 3), (14, 0), (0, 2), (0, 1), (7, 3), (7, 2), (7, 1), (7, 0), (0, 0), (1, 3), (1, 2), (1, 1), (1, 0)]) (n := 8) S hI hA (by decide +kernel) kw_59 rfl (by decide +kernel) (by decide +kernel) (by decide +kernel) hu13 ⟨Nat.le_of_ble_eq_true rfl, Nat.le_of_ble_eq_true rfl⟩ dM_init_97 (fun ad13 H hup hnew hI => ?_)
  have hI : Iv A G kA kL ((34, nulL [(22, 18), (22, 17), (22, 12), (22, 11), (22, 10), (22, 9), (22, 8), (22, 4), (22, 2), (22, 1), (0, 10), (0, 9), (0, 8), (0, 5), (0, 4), (16, 0), (0, 3), (14, 0), (0, 2), (0, 1), (7, 3), (7, 2), (7, 1), (7, 0), (0, 0), (1, 3), (1, 2), (1, 1), (1, 0)]) : La) ad13 w5 s H _ := hI
  have hl : lv_has ls 3 [(0, .ref (ad13 22))] := by rw [hup 22 (Nat.le_of_ble_eq_true rfl)]; exact hl
  refine W.eq (g2 := F0 m 99 ls [.ref (ad13 33), .ref (ad13 22)]) (congrArg (fun z0 => F0 m 99 ls [.ref (ad13 33), .ref z0]) (hup 22 (Nat.le_of_ble_eq_true rfl)).symm) ?_
  have hE13 := eup hE12 (Nat.le_of_ble_eq_true rfl) hup
  have hB13 := bnew hB12 hup hnew
  refine r_putr (N := 34) (L := [(22, 18), (22, 17), (22, 12), (22, 11), (22, 10), (22, 9), (22, 8), (22, 4), (22, 2), (22, 1), (0, 10), (0, 9), (0, 8), (0, 5), (0, 4), (16, 0), (0, 3), (14, 0), (0, 2), (0, 1), (7, 3), (7, 2), (7, 1), (7, 0), (0, 0), (1, 3), (1, 2), (1, 1), (1, 0)]) (i := 19) (b := 22) (r := 33) S hI hin fcM (Nat.le_of_ble_eq_true rfl) (Nat.le_of_ble_eq_true rfl) rfl rfl kw_520 rfl rfl rfl rfl dM_init_99 (fun H locs hI => ?_)
  have hI : Iv A G kA kL ((34, nulL [(22, 19), (22, 18), (22, 17), (22, 12), (22, 11), (22, 10), (22, 9), (22, 8), (22, 4), (22, 2), (22, 1), (0, 10), (0, 9), (0, 8), (0, 5), (0, 4), (16, 0), (0, 3), (14, 0), (0, 2), (0, 1), (7, 3), (7, 2), (7, 1), (7, 0), (0, 0), (1, 3), (1, 2), (1, 1), (1, 0)]) : La) ad13 w5 s H _ := hI
  refine W.eq (g2 := F0 m 102 ls []) rfl ?_
  refine lv_iconst hx hb dM_init_102 kI_0 ?_
  refine lv_istore_n hx hb (lv' := [(1, .int 0), (0, .ref (ad13 22))]) dM_init_103 rfl hl (Nat.le_of_ble_eq_true rfl) rfl (fun ls hl => ?_)
  have bk111 : ∀ (K104 : Wo → Nat → Int32 → Option Wo), (∀ (w : Wo) (c0 : Nat) (x1 : Int32) (H : Heap) (locs : List Loc) (ls : Array Slot), lv_has ls 3 [(0, .ref (ad13 c0)), (1, .int x1)] → Iv A G kA kL ((34, nulL [(22, 19), (22, 18), (22, 17), (22, 12), (22, 11), (22, 10), (22, 9), (22, 8), (22, 4), (22, 2), (22, 1), (0, 10), (0, 9), (0, 8), (0, 5), (0, 4), (16, 0), (0, 3), (14, 0), (0, 2), (0, 1), (7, 3), (7, 2), (7, 1), (7, 0), (0, 0), (1, 3), (1, 2), (1, 1), (1, 0)]) : La) ad13 w s H locs → K104 w c0 x1 = some w1 → W p l e rmM_init22 s m args below meth c H locs 11 2079 Q (F0 m 104 ls [])) → ∀ (K111 : Wo → Nat → Int32 → Int32 → Option Wo), (∀ (w : Wo) (c0 : Nat) (x1 : Int32) (x2 : Int32) (H : Heap) (locs : List Loc) (ls : Array Slot), lv_has ls 3 [(0, .ref (ad13 c0)), (1, .int x1), (2, .int x2)] → Iv A G kA kL ((34, nulL [(22, 19), (22, 18), (22, 17), (22, 12), (22, 11), (22, 10), (22, 9), (22, 8), (22, 4), (22, 2), (22, 1), (0, 10), (0, 9), (0, 8), (0, 5), (0, 4), (16, 0), (0, 3), (14, 0), (0, 2), (0, 1), (7, 3), (7, 2), (7, 1), (7, 0), (0, 0), (1, 3), (1, 2), (1, 1), (1, 0)]) : La) ad13 w s H locs → K111 w c0 x1 x2 = some w1 → W p l e rmM_init22 s m args below meth c H locs 11 2079 Q (F0 m 111 ls [])) → ∀ (w : Wo) (c0 : Nat) (x1 : Int32) (x2 : Int32) (H : Heap) (locs : List Loc) (ls : Array Slot), lv_has ls 3 [(0, .ref (ad13 c0)), (1, .int x1), (2, .int x2)] → Iv A G kA kL ((34, nulL [(22, 19), (22, 18), (22, 17), (22, 12), (22, 11), (22, 10), (22, 9), (22, 8), (22, 4), (22, 2), (22, 1), (0, 10), (0, 9), (0, 8), (0, 5), (0, 4), (16, 0), (0, 3), (14, 0), (0, 2), (0, 1), (7, 3), (7, 2), (7, 1), (7, 0), (0, 0), (1, 3), (1, 2), (1, 1), (1, 0)]) : La) ad13 w s H locs → bM_init_111s ((34, nulL [(22, 19), (22, 18), (22, 17), (22, 12), (22, 11), (22, 10), (22, 9), (22, 8), (22, 4), (22, 2), (22, 1), (0, 10), (0, 9), (0, 8), (0, 5), (0, 4), (16, 0), (0, 3), (14, 0), (0, 2), (0, 1), (7, 3), (7, 2), (7, 1), (7, 0), (0, 0), (1, 3), (1, 2), (1, 1), (1, 0)]) : La) K104 K111 w c0 x1 x2 = some w1 → W p l e rmM_init22 s m args below meth c H locs 11 2079 Q (F0 m 111 ls []) := by
    intro K104 hK104 K111 hK111 w c0 x1 x2 H locs ls hl hI hf
    unfold bM_init_111s at hf
    refine lv_iload_n hx hb dM_init_111 rfl (lv_at hl 2 rfl) ?_
    refine lv_bipush hx hb dM_init_112 kB_72 ?_
    refine lv_icmp_ge (tgt := 159) hx hb dM_init_114 rfl (fun h1 => ?_) (fun h1 => ?_)
    · have hf := ip_ hf h1
      refine lv_iinc hx hb (lv' := [(1, .int (x1 + 1)), (0, .ref (ad13 c0)), (2, .int x2)]) (k := 1) dM_init_159 hl rfl (kN_1 _) (Nat.le_of_ble_eq_true rfl) rfl (fun ls hl => ?_)
      refine lv_goto (tgt := 104) hx hb dM_init_162 rfl ?_
      exact hK104 w c0 (x1 + 1) _ _ _ (lv_sub hl [1, 0] rfl) hI hf
    · have hf := in_ hf h1
      refine lv_aload_n hx hb dM_init_117 rfl (lv_at hl 0 rfl) ?_
      obtain ⟨r2, hr2, hf⟩ := ob_ hf
      refine r_getr (i := 1) S hI fcM (Nat.le_of_ble_eq_true rfl) kw_502 dM_init_118 hr2 ?_
      refine lv_iload_n hx hb dM_init_121 rfl (lv_at hl 1 rfl) ?_
      refine lv_iload_n hx hb dM_init_122 rfl (lv_at hl 2 rfl) ?_
      obtain ⟨q3, hq3, hf⟩ := ob_ hf
      refine r_ci (r_S (rest := [.ref (ad13 r2)]) (As := [.int x1, .int x2]) S hl hI (kM_place l G kA kL ((34, nulL [(22, 19), (22, 18), (22, 17), (22, 12), (22, 11), (22, 10), (22, 9), (22, 8), (22, 4), (22, 2), (22, 1), (0, 10), (0, 9), (0, 8), (0, 5), (0, 4), (16, 0), (0, 3), (14, 0), (0, 2), (0, 1), (7, 3), (7, 2), (7, 1), (7, 0), (0, 0), (1, 3), (1, 2), (1, 1), (1, 0)]) : La) ad13 w x1 x2 q3.1 q3.2 hq3) pkM_place kw_492 kw_491 ⟨rfl, rfl⟩ ⟨Nat.le_of_ble_eq_true rfl, Nat.le_of_ble_eq_true rfl⟩ rfl rfl (Nat.le_of_ble_eq_true rfl) ⟨Nat.le_of_ble_eq_true rfl, Nat.le_of_ble_eq_true rfl⟩ dM_init_123) hI (fun H locs hI => ?_)
      refine lv_bipush hx hb dM_init_126 kB_9 ?_
      refine lv_iadd hx hb dM_init_128 ?_
      refine lv_iload_n hx hb dM_init_129 rfl (lv_at hl 2 rfl) ?_
      obtain ⟨w4, hw4, hf⟩ := ob_ hf
      refine r_ast S hI dM_init_130 hw4 (fun H locs hI => ?_)
      refine lv_aload_n hx hb dM_init_131 rfl (lv_at hl 0 rfl) ?_
      obtain ⟨r5, hr5, hf⟩ := ob_ hf
      refine r_getr (i := 1) S hI fcM (Nat.le_of_ble_eq_true rfl) kw_502 dM_init_132 hr5 ?_
      refine lv_iload_n hx hb dM_init_135 rfl (lv_at hl 1 rfl) ?_
      refine lv_iload_n hx hb dM_init_136 rfl (lv_at hl 2 rfl) ?_
      obtain ⟨q6, hq6, hf⟩ := ob_ hf
      refine r_ci (r_S (rest := [.ref (ad13 r5)]) (As := [.int x1, .int x2]) S hl hI (kM_place l G kA kL ((34, nulL [(22, 19), (22, 18), (22, 17), (22, 12), (22, 11), (22, 10), (22, 9), (22, 8), (22, 4), (22, 2), (22, 1), (0, 10), (0, 9), (0, 8), (0, 5), (0, 4), (16, 0), (0, 3), (14, 0), (0, 2), (0, 1), (7, 3), (7, 2), (7, 1), (7, 0), (0, 0), (1, 3), (1, 2), (1, 1), (1, 0)]) : La) ad13 w4 x1 x2 q6.1 q6.2 hq6) pkM_place kw_492 kw_491 ⟨rfl, rfl⟩ ⟨Nat.le_of_ble_eq_true rfl, Nat.le_of_ble_eq_true rfl⟩ rfl rfl (Nat.le_of_ble_eq_true rfl) ⟨Nat.le_of_ble_eq_true rfl, Nat.le_of_ble_eq_true rfl⟩ dM_init_137) hI (fun H locs hI => ?_)
      refine lv_bipush hx hb dM_init_140 kB_8 ?_
      refine lv_iadd hx hb dM_init_142 ?_
      refine lv_aload_n hx hb dM_init_143 rfl (lv_at hl 0 rfl) ?_
      refine lv_iload_n hx hb dM_init_144 rfl (lv_at hl 1 rfl) ?_
      refine lv_iload_n hx hb dM_init_145 rfl (lv_at hl 2 rfl) ?_
      obtain ⟨q7, hq7, hf⟩ := ob_ hf
      refine r_ci (r_S (rest := [.ref (ad13 c0), .int (q6.2 + 8), .ref (ad13 r5)]) (As := [.int x1, .int x2]) S hl hI (kM_place l G kA kL ((34, nulL [(22, 19), (22, 18), (22, 17), (22, 12), (22, 11), (22, 10), (22, 9), (22, 8), (22, 4), (22, 2), (22, 1), (0, 10), (0, 9), (0, 8), (0, 5), (0, 4), (16, 0), (0, 3), (14, 0), (0, 2), (0, 1), (7, 3), (7, 2), (7, 1), (7, 0), (0, 0), (1, 3), (1, 2), (1, 1), (1, 0)]) : La) ad13 q6.1 x1 x2 q7.1 q7.2 hq7) pkM_place kw_492 kw_491 ⟨rfl, rfl⟩ ⟨Nat.le_of_ble_eq_true rfl, Nat.le_of_ble_eq_true rfl⟩ rfl rfl (Nat.le_of_ble_eq_true rfl) ⟨Nat.le_of_ble_eq_true rfl, Nat.le_of_ble_eq_true rfl⟩ dM_init_146) hI (fun H locs hI => ?_)
      obtain ⟨q8, hq8, hf⟩ := ob_ hf
      refine r_ci (r_V (rest := [.int (q6.2 + 8), .ref (ad13 r5)]) (As := [.int q7.2]) S hl hI (kM_sumAt l G kA kL ((34, nulL [(22, 19), (22, 18), (22, 17), (22, 12), (22, 11), (22, 10), (22, 9), (22, 8), (22, 4), (22, 2), (22, 1), (0, 10), (0, 9), (0, 8), (0, 5), (0, 4), (16, 0), (0, 3), (14, 0), (0, 2), (0, 1), (7, 3), (7, 2), (7, 1), (7, 0), (0, 0), (1, 3), (1, 2), (1, 1), (1, 0)]) : La) ad13 q7.1 c0 q7.2 q8.1 q8.2 hq8) pkM_sumAt kw_496 ks_M_sumAt (fcM).1 (gd_some hq8).1 kw_494 ⟨rfl, rfl⟩ ⟨Nat.le_of_ble_eq_true rfl, Nat.le_of_ble_eq_true rfl⟩ rfl rfl (Nat.le_of_ble_eq_true rfl) ⟨Nat.le_of_ble_eq_true rfl, Nat.le_of_ble_eq_true rfl⟩ dM_init_149) hI (fun H locs hI => ?_)
      obtain ⟨w9, hw9, hf⟩ := ob_ hf
      refine r_ast S hI dM_init_152 hw9 (fun H locs hI => ?_)
      refine lv_iinc hx hb (lv' := [(2, .int (x2 + 1)), (0, .ref (ad13 c0)), (1, .int x1)]) (k := 2) dM_init_153 hl rfl (kN_1 _) (Nat.le_of_ble_eq_true rfl) rfl (fun ls hl => ?_)
      refine lv_goto (tgt := 111) hx hb dM_init_156 rfl ?_
      exact hK111 w9 c0 x1 (x2 + 1) _ _ _ (lv_sub hl [1, 2, 0] rfl) hI hf
  have lp111 : ∀ (K104 : Wo → Nat → Int32 → Option Wo), (∀ (w : Wo) (c0 : Nat) (x1 : Int32) (H : Heap) (locs : List Loc) (ls : Array Slot), lv_has ls 3 [(0, .ref (ad13 c0)), (1, .int x1)] → Iv A G kA kL ((34, nulL [(22, 19), (22, 18), (22, 17), (22, 12), (22, 11), (22, 10), (22, 9), (22, 8), (22, 4), (22, 2), (22, 1), (0, 10), (0, 9), (0, 8), (0, 5), (0, 4), (16, 0), (0, 3), (14, 0), (0, 2), (0, 1), (7, 3), (7, 2), (7, 1), (7, 0), (0, 0), (1, 3), (1, 2), (1, 1), (1, 0)]) : La) ad13 w s H locs → K104 w c0 x1 = some w1 → W p l e rmM_init22 s m args below meth c H locs 11 2079 Q (F0 m 104 ls [])) → ∀ (n : Nat), ∀ (w : Wo) (c0 : Nat) (x1 : Int32) (x2 : Int32) (H : Heap) (locs : List Loc) (ls : Array Slot), lv_has ls 3 [(0, .ref (ad13 c0)), (1, .int x1), (2, .int x2)] → Iv A G kA kL ((34, nulL [(22, 19), (22, 18), (22, 17), (22, 12), (22, 11), (22, 10), (22, 9), (22, 8), (22, 4), (22, 2), (22, 1), (0, 10), (0, 9), (0, 8), (0, 5), (0, 4), (16, 0), (0, 3), (14, 0), (0, 2), (0, 1), (7, 3), (7, 2), (7, 1), (7, 0), (0, 0), (1, 3), (1, 2), (1, 1), (1, 0)]) : La) ad13 w s H locs → bM_init_111 ((34, nulL [(22, 19), (22, 18), (22, 17), (22, 12), (22, 11), (22, 10), (22, 9), (22, 8), (22, 4), (22, 2), (22, 1), (0, 10), (0, 9), (0, 8), (0, 5), (0, 4), (16, 0), (0, 3), (14, 0), (0, 2), (0, 1), (7, 3), (7, 2), (7, 1), (7, 0), (0, 0), (1, 3), (1, 2), (1, 1), (1, 0)]) : La) K104 n w c0 x1 x2 = some w1 → W p l e rmM_init22 s m args below meth c H locs 11 2079 Q (F0 m 111 ls []) := by
    intro K104 hK104 n
    induction n with
    | zero =>
      intro w c0 x1 x2 H locs ls hl hI hf
      have hf : (none : Option Wo) = some w1 := hf
      cases hf
    | succ n ih =>
      intro w c0 x1 x2 H locs ls hl hI hf
      exact bk111 K104 hK104 (bM_init_111 ((34, nulL [(22, 19), (22, 18), (22, 17), (22, 12), (22, 11), (22, 10), (22, 9), (22, 8), (22, 4), (22, 2), (22, 1), (0, 10), (0, 9), (0, 8), (0, 5), (0, 4), (16, 0), (0, 3), (14, 0), (0, 2), (0, 1), (7, 3), (7, 2), (7, 1), (7, 0), (0, 0), (1, 3), (1, 2), (1, 1), (1, 0)]) : La) K104 n) ih w c0 x1 x2 H locs ls hl hI hf
  have bk104 : ∀ (K104 : Wo → Nat → Int32 → Option Wo), (∀ (w : Wo) (c0 : Nat) (x1 : Int32) (H : Heap) (locs : List Loc) (ls : Array Slot), lv_has ls 3 [(0, .ref (ad13 c0)), (1, .int x1)] → Iv A G kA kL ((34, nulL [(22, 19), (22, 18), (22, 17), (22, 12), (22, 11), (22, 10), (22, 9), (22, 8), (22, 4), (22, 2), (22, 1), (0, 10), (0, 9), (0, 8), (0, 5), (0, 4), (16, 0), (0, 3), (14, 0), (0, 2), (0, 1), (7, 3), (7, 2), (7, 1), (7, 0), (0, 0), (1, 3), (1, 2), (1, 1), (1, 0)]) : La) ad13 w s H locs → K104 w c0 x1 = some w1 → W p l e rmM_init22 s m args below meth c H locs 11 2079 Q (F0 m 104 ls [])) → ∀ (w : Wo) (c0 : Nat) (x1 : Int32) (H : Heap) (locs : List Loc) (ls : Array Slot), lv_has ls 3 [(0, .ref (ad13 c0)), (1, .int x1)] → Iv A G kA kL ((34, nulL [(22, 19), (22, 18), (22, 17), (22, 12), (22, 11), (22, 10), (22, 9), (22, 8), (22, 4), (22, 2), (22, 1), (0, 10), (0, 9), (0, 8), (0, 5), (0, 4), (16, 0), (0, 3), (14, 0), (0, 2), (0, 1), (7, 3), (7, 2), (7, 1), (7, 0), (0, 0), (1, 3), (1, 2), (1, 1), (1, 0)]) : La) ad13 w s H locs → bM_init_104s ((34, nulL [(22, 19), (22, 18), (22, 17), (22, 12), (22, 11), (22, 10), (22, 9), (22, 8), (22, 4), (22, 2), (22, 1), (0, 10), (0, 9), (0, 8), (0, 5), (0, 4), (16, 0), (0, 3), (14, 0), (0, 2), (0, 1), (7, 3), (7, 2), (7, 1), (7, 0), (0, 0), (1, 3), (1, 2), (1, 1), (1, 0)]) : La) K104 w c0 x1 = some w1 → W p l e rmM_init22 s m args below meth c H locs 11 2079 Q (F0 m 104 ls []) := by
    intro K104 hK104 w c0 x1 H locs ls hl hI hf
    unfold bM_init_104s at hf
    refine lv_iload_n hx hb dM_init_104 rfl (lv_at hl 1 rfl) ?_
    refine lv_iconst hx hb dM_init_105 kI_2 ?_
    refine lv_icmp_ge (tgt := 165) hx hb dM_init_106 rfl (fun h10 => ?_) (fun h10 => ?_)
    · have hf := ip_ hf h10
      exact hret _ _ _ _ _ _ hE13 hB13 hI hf dM_init_165
    · have hf := in_ hf h10
      refine lv_iconst hx hb dM_init_109 kI_0 ?_
      refine lv_istore_n hx hb (lv' := [(2, .int 0), (0, .ref (ad13 c0)), (1, .int x1)]) dM_init_110 rfl hl (Nat.le_of_ble_eq_true rfl) rfl (fun ls hl => ?_)
      exact lp111 K104 hK104 1000 w c0 x1 0 _ _ _ (lv_sub hl [1, 2, 0] rfl) hI hf
  have lp104 : ∀ (n : Nat), ∀ (w : Wo) (c0 : Nat) (x1 : Int32) (H : Heap) (locs : List Loc) (ls : Array Slot), lv_has ls 3 [(0, .ref (ad13 c0)), (1, .int x1)] → Iv A G kA kL ((34, nulL [(22, 19), (22, 18), (22, 17), (22, 12), (22, 11), (22, 10), (22, 9), (22, 8), (22, 4), (22, 2), (22, 1), (0, 10), (0, 9), (0, 8), (0, 5), (0, 4), (16, 0), (0, 3), (14, 0), (0, 2), (0, 1), (7, 3), (7, 2), (7, 1), (7, 0), (0, 0), (1, 3), (1, 2), (1, 1), (1, 0)]) : La) ad13 w s H locs → bM_init_104 ((34, nulL [(22, 19), (22, 18), (22, 17), (22, 12), (22, 11), (22, 10), (22, 9), (22, 8), (22, 4), (22, 2), (22, 1), (0, 10), (0, 9), (0, 8), (0, 5), (0, 4), (16, 0), (0, 3), (14, 0), (0, 2), (0, 1), (7, 3), (7, 2), (7, 1), (7, 0), (0, 0), (1, 3), (1, 2), (1, 1), (1, 0)]) : La) n w c0 x1 = some w1 → W p l e rmM_init22 s m args below meth c H locs 11 2079 Q (F0 m 104 ls []) := by
    intro n
    induction n with
    | zero =>
      intro w c0 x1 H locs ls hl hI hf
      have hf : (none : Option Wo) = some w1 := hf
      cases hf
    | succ n ih =>
      intro w c0 x1 H locs ls hl hI hf
      exact bk104 (bM_init_104 ((34, nulL [(22, 19), (22, 18), (22, 17), (22, 12), (22, 11), (22, 10), (22, 9), (22, 8), (22, 4), (22, 2), (22, 1), (0, 10), (0, 9), (0, 8), (0, 5), (0, 4), (16, 0), (0, 3), (14, 0), (0, 2), (0, 1), (7, 3), (7, 2), (7, 1), (7, 0), (0, 0), (1, 3), (1, 2), (1, 1), (1, 0)]) : La) n) ih w c0 x1 H locs ls hl hI hf
  exact lp104 1000 w5 22 0 _ _ _ (lv_sub hl [1, 0] rfl) hI hf

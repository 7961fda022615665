/-! written by walk.py: the functions that the bytecode computes, and the walks -/
/-- java/util/Arrays.fill([II)V -/
abbrev rmAf_fill : Room := { frames := 0, cells := 0, slots := 0, locals := 0 }
theorem pkAf_fill : Pk yAf_fill cAf_fill 4 none 2 := ⟨kw_337, kw_14, by decide +kernel, by decide +kernel, by decide +kernel⟩
def bAf_fill_5s (Λ : La) (K5 : Wo → Nat → Int32 → Int32 → Int32 → Option Wo) (w : Wo) (c0 : Nat) (x1 : Int32) (x2 : Int32) (x3 : Int32) : Option Wo := if x3 ≤ x2 then (some w) else ((st Λ w c0 x2 x1).bind fun w2 => K5 w2 c0 x1 (x2 + 1) x3)
def bAf_fill_5 (Λ : La) : Nat → Wo → Nat → Int32 → Int32 → Int32 → Option Wo
  | 0 => fun _ _ _ _ _ => none
  | n + 1 => bAf_fill_5s Λ (bAf_fill_5 Λ n)
def fAf_fill (Λ : La) (w : Wo) (c0 : Nat) (x1 : Int32) : Option Wo := (al Λ c0).bind fun v3 => bAf_fill_5 Λ 1000 w c0 x1 0 v3
set_option maxHeartbeats 4000000 in
set_option maxRecDepth 100000 in
theorem kAf_fill (l : Launch) (G : va_G) (kA kL : ClassId) (Λ : La) (ad : Nat → Nat) (w : Wo) (c0 : Nat) (x1 : Int32) (w1 : Wo) (hf : fAf_fill Λ w c0 x1 = some w1) : Mv l yAf_fill cAf_fill 4 rmAf_fill G kA kL Λ ad [.ref (ad c0), .int x1] w w1 := by
  refine Mv.of (by decide +kernel) (Nat.le_of_ble_eq_true rfl) ?_
  intro p e s m args below meth c Q ls S hret hl hI
  have S : CallFix p m c cAf_fill 4 s args (.code yAf_fill cAf_fill 4 none :: gW) "java/util/Arrays" := S
  have hl : lv_has ls 4 [(0, .ref (ad c0)), (1, .int x1)] := hl
  have hx := S.1
  have hb := S.2.1
  have bk5 : ∀ (K5 : Wo → Nat → Int32 → Int32 → Int32 → Option Wo), (∀ (w : Wo) (c0 : Nat) (x1 : Int32) (x2 : Int32) (x3 : Int32) (H : Heap) (locs : List Loc) (ls : Array Slot), lv_has ls 4 [(0, .ref (ad c0)), (1, .int x1), (2, .int x2), (3, .int x3)] → Iv (Aa Λ ad) G kA kL Λ ad w s H locs → K5 w c0 x1 x2 x3 = some w1 → W p l e rmAf_fill s m args below meth c H locs 0 0 Q (F0 m 5 ls [])) → ∀ (w : Wo) (c0 : Nat) (x1 : Int32) (x2 : Int32) (x3 : Int32) (H : Heap) (locs : List Loc) (ls : Array Slot), lv_has ls 4 [(0, .ref (ad c0)), (1, .int x1), (2, .int x2), (3, .int x3)] → Iv (Aa Λ ad) G kA kL Λ ad w s H locs → bAf_fill_5s Λ K5 w c0 x1 x2 x3 = some w1 → W p l e rmAf_fill s m args below meth c H locs 0 0 Q (F0 m 5 ls []) := by
    intro K5 hK5 w c0 x1 x2 x3 H locs ls hl hI hf
    unfold bAf_fill_5s at hf
    refine lv_iload_n hx hb dAf_fill_5 rfl (lv_at hl 2 rfl) ?_
    refine lv_iload_n hx hb dAf_fill_6 rfl (lv_at hl 3 rfl) ?_
    refine lv_icmp_ge (tgt := 20) hx hb dAf_fill_7 rfl (fun h1 => ?_) (fun h1 => ?_)
    · have hf := ip_ hf h1
      exact hret _ _ _ _ _ hI hf dAf_fill_20
    · have hf := in_ hf h1
      refine lv_aload_n hx hb dAf_fill_10 rfl (lv_at hl 0 rfl) ?_
      refine lv_iload_n hx hb dAf_fill_11 rfl (lv_at hl 2 rfl) ?_
      refine lv_iload_n hx hb dAf_fill_12 rfl (lv_at hl 1 rfl) ?_
      obtain ⟨w2, hw2, hf⟩ := ob_ hf
      refine r_ast S hI dAf_fill_13 hw2 (fun H locs hI => ?_)
      refine lv_iinc hx hb (lv' := [(2, .int (x2 + 1)), (0, .ref (ad c0)), (1, .int x1), (3, .int x3)]) (k := 2) dAf_fill_14 hl rfl (kN_1 _) (Nat.le_of_ble_eq_true rfl) rfl (fun ls hl => ?_)
      refine lv_goto (tgt := 5) hx hb dAf_fill_17 rfl ?_
      exact hK5 w2 c0 x1 (x2 + 1) x3 _ _ _ (lv_sub hl [1, 2, 0, 3] rfl) hI hf
  have lp5 : ∀ (n : Nat), ∀ (w : Wo) (c0 : Nat) (x1 : Int32) (x2 : Int32) (x3 : Int32) (H : Heap) (locs : List Loc) (ls : Array Slot), lv_has ls 4 [(0, .ref (ad c0)), (1, .int x1), (2, .int x2), (3, .int x3)] → Iv (Aa Λ ad) G kA kL Λ ad w s H locs → bAf_fill_5 Λ n w c0 x1 x2 x3 = some w1 → W p l e rmAf_fill s m args below meth c H locs 0 0 Q (F0 m 5 ls []) := by
    intro n
    induction n with
    | zero =>
      intro w c0 x1 x2 x3 H locs ls hl hI hf
      have hf : (none : Option Wo) = some w1 := hf
      cases hf
    | succ n ih =>
      intro w c0 x1 x2 x3 H locs ls hl hI hf
      exact bk5 (bAf_fill_5 Λ n) ih w c0 x1 x2 x3 H locs ls hl hI hf
  unfold fAf_fill at hf
  refine lv_iconst hx hb dAf_fill_0 kI_0 ?_
  refine lv_istore_n hx hb (lv' := [(2, .int 0), (0, .ref (ad c0)), (1, .int x1)]) dAf_fill_1 rfl hl (Nat.le_of_ble_eq_true rfl) rfl (fun ls hl => ?_)
  refine lv_aload_n hx hb dAf_fill_2 rfl (lv_at hl 1 rfl) ?_
  obtain ⟨v3, hv3, hf⟩ := ob_ hf
  refine r_alen S hI dAf_fill_3 hv3 ?_
  refine lv_istore_n hx hb (lv' := [(3, .int v3), (2, .int 0), (0, .ref (ad c0)), (1, .int x1)]) dAf_fill_4 rfl hl (Nat.le_of_ble_eq_true rfl) rfl (fun ls hl => ?_)
  exact lp5 1000 w c0 x1 0 v3 _ _ _ (lv_sub hl [2, 3, 1, 0] rfl) hI hf

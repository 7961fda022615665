/-! the invariant between the class and the reference; single calls side by side -/
def Jn (wc wr : Wo) : Prop := wc 14 1 = wr 22 3 ∧ wc 14 2 = wr 22 5 ∧ (∀ j, j < 8 → wc 15 j = wr 25 j) ∧ (wr 22 3 = -1 ∨ ∃ b vv, b < 64 ∧ vv ≤ 60 ∧ wr 22 3 = nI b ∧ wr 22 5 = nI vv)
def Ms (wc wr : Wo) : Prop := wc 0 6 = wr 22 13 ∧ (∃ x, x < 64 ∧ wc 0 7 = nI x ∧ wr 22 14 = nI x) ∧ (∃ k, k ≤ 100 ∧ wc 16 1 = nI k ∧ wr 22 15 = nI k) ∧ ∀ j, j < 400 → wc 17 j = wr 31 j
def Inv (wc wr : Wo) (on : Bool) : Prop := (∃ M, Cr wc wr M on) ∧ Jn wc wr ∧ Ms wc wr
theorem Inv.cong {wc wr wc' wr' : Wo} {on : Bool} (h : Inv wc wr on) (hc : ∀ c, c < 22 → wc' c = wc c) (hr : ∀ c, 22 < c → c ≤ 33 → wr' c = wr c) (h22 : ∀ i, i ≠ 0 → i ≠ 16 → wr' 22 i = wr 22 i) : Inv wc' wr' on := by
  obtain ⟨⟨M, h1⟩, ⟨j1, j2, j3, j4⟩, m1, m2, m3, m4⟩ := h
  refine ⟨⟨M, h1.cong (fun c hh => hc c (by omega)) (fun c hh => hr c (by omega) (by omega)) (h22 6 (by decide) (by decide)) (h22 7 (by decide) (by decide))⟩, ⟨?_, ?_, fun j hj => ?_, ?_⟩, ?_, ?_, ?_, fun j hj => ?_⟩
  · rw [hc 14 (by decide), h22 3 (by decide) (by decide)]; exact j1
  · rw [hc 14 (by decide), h22 5 (by decide) (by decide)]; exact j2
  · rw [hc 15 (by decide), hr 25 (by decide) (by decide)]; exact j3 j hj
  · rw [h22 3 (by decide) (by decide), h22 5 (by decide) (by decide)]; exact j4
  · rw [hc 0 (by decide), h22 13 (by decide) (by decide)]; exact m1
  · rw [hc 0 (by decide), h22 14 (by decide) (by decide)]; exact m2
  · rw [hc 16 (by decide), h22 15 (by decide) (by decide)]; exact m3
  · rw [hc 17 (by decide), hr 31 (by decide) (by decide)]; exact m4 j hj
theorem Cr.on {wc wr : Wo} {M : Nat → Int32} {on : Bool} (h : Cr wc wr M on) : wc 13 0 = bI on ∧ wr 22 6 = bI (!on) ∧ wc 13 1 = wr 22 7 ∧ ∀ d, d < 2 → wc (dc d) 5 = wr 26 d ∧ wc (dc d) 4 = wr 27 d := by
  obtain ⟨N, lf, W, n, P, h1, h2, h3, h4, h5, h6⟩ := h
  exact ⟨h1.2.2.1, h2.2.2.1, h1.2.1.trans h2.2.1.symm, fun d hd => ⟨(h1.2.2.2 d hd).1.trans (h2.2.2.2 d hd).1.symm, (h1.2.2.2 d hd).2.1.trans (h2.2.2.2 d hd).2.1.symm⟩⟩
/-! good copies -/
theorem uk_exq {N : Nat → Nat → Int32} {M : Nat → Int32} (h : PI N) {d b : Nat} (hd : d < 2) (hb : b < 64) : (uk N M d b = true ∧ exq N M d b = -1) ∨ (uk N M d b = false ∧ ∃ v, v ≤ 60 ∧ exq N M d b = nI v) := by
  unfold uk exq
  by_cases h1 : rp N M (1 - d) (b / 8) = true
  · refine Or.inr ⟨by rw [h1]; rfl, ?_⟩
    rw [if_pos h1]
    exact h (1 - d) (b / 8) (by omega) (by omega) (rp_addr h1) (b % 8) (by omega)
  · by_cases h2 : rp N M d (b / 8) = true
    · refine Or.inr ⟨by rw [h2]; cases rp N M (1 - d) (b / 8) <;> rfl, ?_⟩
      rw [if_neg h1, if_pos h2]
      exact h d (b / 8) hd (by omega) (rp_addr h2) (b % 8) (by omega)
    · refine Or.inl ⟨?_, by rw [if_neg h1, if_neg h2]⟩
      cases e1 : rp N M (1 - d) (b / 8) with
      | true => exact absurd e1 h1
      | false =>
        cases e2 : rp N M d (b / 8) with
        | true => exact absurd e2 h2
        | false => rfl
theorem vdC_vd {N : Nat → Nat → Int32} {M : Nat → Int32} (h : PI N) {d b : Nat} (hd : d < 2) (hb : b < 64) : vdC N M d b = vd N M d b := by
  unfold vdC vd
  rcases uk_exq (M := M) h hd hb with ⟨h1, h2⟩ | ⟨h1, v, hv, h2⟩
  · rw [h1, h2, if_pos rfl, if_pos rfl]
  · rw [h1, h2, if_neg (neg1 (by omega))]
    rfl
theorem good_ver {N : Nat → Nat → Int32} {M : Nat → Int32} (h : PI N) {d b : Nat} (hd : d < 2) (hb : b < 64) (hg : vd N M d b = 0) : ∃ v, v ≤ 60 ∧ N d (11 * b + 10) = nI v := by
  unfold vd at hg
  by_cases h1 : wh N d b = true
  · rw [if_pos h1] at hg
    by_cases h2 : N d (11 * b + 9) = nI b
    · rw [if_pos h2] at hg
      rcases uk_exq (M := M) h hd hb with ⟨g1, g2⟩ | ⟨g1, v, hv, g2⟩
      · rw [if_pos g1] at hg
        exact absurd hg (by decide +kernel)
      · rw [if_neg (by rw [g1]; exact fun q => by cases q), g2] at hg
        by_cases h3 : nI v ≤ N d (11 * b + 10)
        · rw [if_pos h3] at hg
          by_cases h4 : N d (11 * b + 10) ≤ nI v
          · exact ⟨v, hv, Int32.le_antisymm h4 h3⟩
          · rw [if_neg h4] at hg
            exact absurd hg (by decide +kernel)
        · rw [if_neg h3] at hg
          exact absurd hg (by decide +kernel)
    · rw [if_neg h2] at hg
      exact absurd hg (by decide +kernel)
  · rw [if_neg h1] at hg
    exact absurd hg (by decide +kernel)
def gcv (c : Nat) : Int32 := if c = 2 then -1 else nI c
theorem cd_le (N : Nat → Nat → Int32) (M : Nat → Int32) (b : Nat) : cd N M b ≤ 2 := by
  unfold cd
  by_cases h1 : vd N M 0 b = 0
  · rw [if_pos h1]; omega
  · rw [if_neg h1]
    by_cases h2 : vd N M 1 b = 0
    · rw [if_pos h2]; omega
    · rw [if_neg h2]; omega
theorem cd_good {N : Nat → Nat → Int32} {M : Nat → Int32} {b : Nat} (h : cd N M b < 2) : vd N M (cd N M b) b = 0 := by
  unfold cd at h ⊢
  by_cases h1 : vd N M 0 b = 0
  · rw [if_pos h1]; exact h1
  · rw [if_neg h1] at h ⊢
    by_cases h2 : vd N M 1 b = 0
    · rw [if_pos h2]; exact h2
    · rw [if_neg h2] at h; omega
theorem goodCopy_e (w : Wo) (h : PI (NC w)) {b : Nat} (hb : b < 64) : fG_goodCopy Lf w 0 (nI b) = some (w, gcv (cd (NC w) (MC w) b)) := by
  unfold fG_goodCopy
  rw [isC0, gdt]
  show ((fG_judge Lf w 0 (nI 0) (nI b)).bind fun q1 => if q1.2 = 0 then _ else ((fG_judge Lf q1.1 0 (nI 1) (nI b)).bind fun q3 => _)) = _
  rw [judge_e w (by omega) hb, bd, judge_e w (by omega) hb, bd, vdC_vd h (by omega) hb, vdC_vd h (by omega) hb]
  unfold cd gcv
  by_cases h1 : vd (NC w) (MC w) 0 b = 0 <;> by_cases h2 : vd (NC w) (MC w) 1 b = 0 <;> simp [h1, h2] <;> rfl
theorem codeOfC_e (w : Wo) {c : Nat} (hc : c ≤ 2) : fG_codeOf Lf w (gcv c) = some (w, nI c) := by
  unfold fG_codeOf gcv
  by_cases h : c = 2
  · subst h; rfl
  · rw [if_neg h, if_neg (neg1 (by omega))]
/-! ranges -/
def inB (x y : Int32) : Bool := !decide (x < 0) && !decide (y ≤ x)
theorem isBelow_e (w : Wo) (x y : Int32) : fG_isBelow Lf w x y = some (w, bI (inB x y)) := by
  unfold fG_isBelow inB
  by_cases h1 : x < 0 <;> by_cases h2 : y ≤ x <;> simp [h1, h2, bI, zr0, zr1]
theorem in_e (w : Wo) (x y : Int32) : fM_in Lf w x y = some (w, bI (inB x y)) := by
  unfold fM_in inB
  by_cases h1 : x < 0 <;> by_cases h2 : y ≤ x <;> simp [h1, h2, bI, zr0, zr1]
theorem inB_of {x : Int32} {n : Nat} (h : inB x (nI n) = true) (hn : n < 2 ^ 31) : ∃ m, m < n ∧ x = nI m := by
  unfold inB at h
  simp only [Bool.and_eq_true, Bool.not_eq_true', decide_eq_false_iff_not] at h
  rcases pk_ix x hn with h1 | h1 | h1
  · exact absurd h1 h.1
  · exact absurd h1 h.2
  · exact h1
/-! single calls -/
/-- both sides answer, alike, and the invariant stands -/
def Res (wc wr : Wo) (a b : Option (Wo × Int32)) : Prop := ∃ wc' wr' k r on', a = some (wc', k) ∧ b = some (wr', r) ∧ wr' 22 0 = k ∧ (k = 0 → wc' 34 0 = r) ∧ Inv wc' wr' on' ∧ (∀ c, 22 ≤ c → c ≠ 34 → wc' c = wc c) ∧ ∀ c, c < 22 ∨ 33 < c → wr' c = wr c
def Rev (wc wr : Wo) (a : Option (Wo × Int32)) (b : Option Wo) : Prop := ∃ wc' wr' k on', a = some (wc', k) ∧ b = some wr' ∧ wr' 22 0 = k ∧ Inv wc' wr' on' ∧ (∀ c, 22 ≤ c → c ≠ 34 → wc' c = wc c) ∧ ∀ c, c < 22 ∨ 33 < c → wr' c = wr c
theorem sl_e (w : Wo) (x : Int32) : sl Lf w 34 x = some (up2 w 34 0 x) := if_pos (by decide +kernel)
theorem ll_e (w : Wo) : ll Lf w 34 = some (w 34 0) := if_pos (by decide +kernel)
/-- a call that is refused, and so changes nothing but the reference's note of it -/
theorem Res.refused {wc wr : Wo} {on : Bool} (h : Inv wc wr on) {a b : Option (Wo × Int32)} {k r : Int32} (hk : ¬ k = 0) (e1 : a = some (wc, k)) (e2 : b = some (up2 wr 22 0 k, r)) : Res wc wr a b :=
  ⟨wc, _, k, r, on, e1, e2, up2_s _ _ _ _, fun q => absurd q hk, h.cong (fun c _ => rfl) (fun c h1 h2 => up2_c _ _ (by omega)) (fun i h1 h2 => up2_i _ _ h1), fun c _ _ => rfl, fun c hc => up2_c _ _ (by omega)⟩
theorem Rev.refused {wc wr : Wo} {on : Bool} (h : Inv wc wr on) {a : Option (Wo × Int32)} {b : Option Wo} {k : Int32} (e1 : a = some (wc, k)) (e2 : b = some (up2 wr 22 0 k)) : Rev wc wr a b :=
  ⟨wc, _, k, on, e1, e2, up2_s _ _ _ _, h.cong (fun c _ => rfl) (fun c h1 h2 => up2_c _ _ (by omega)) (fun i h1 h2 => up2_i _ _ h1), fun c _ _ => rfl, fun c hc => up2_c _ _ (by omega)⟩
/-- a call that only reads -/
theorem Res.reads {wc wr : Wo} {on : Bool} (h : Inv wc wr on) {a b : Option (Wo × Int32)} {r : Int32} (e1 : a = some (up2 wc 34 0 r, 0)) (e2 : b = some (up2 wr 22 0 0, r)) : Res wc wr a b :=
  ⟨_, _, 0, r, on, e1, e2, up2_s _ _ _ _, fun _ => up2_s _ _ _ _, h.cong (fun c hc => up2_c _ _ (by omega)) (fun c h1 h2 => up2_c _ _ (by omega)) (fun i h1 h2 => up2_i _ _ h1), fun c _ hc => up2_c _ _ hc, fun c hc => up2_c _ _ (by omega)⟩
theorem NR_t (w : Wo) (x : Int32) : NR (up2 w 22 0 x) = NR w := NR_congr (up2_c _ _ (by decide))
theorem MR_t (w : Wo) (x : Int32) : MR (up2 w 22 0 x) = MR w := MR_congr (up2_c _ _ (by decide))
theorem Inv.N {wc wr : Wo} {on : Bool} (h : Inv wc wr on) : NC wc = NR wr ∧ MC wc = MR wr ∧ PI (NC wc) ∧ wc 13 0 = bI on ∧ wr 22 6 = bI (!on) := by
  obtain ⟨⟨M, h1⟩, -⟩ := h
  obtain ⟨a, b, c, d⟩ := h1.N
  exact ⟨a, c.trans d.symm, b, h1.on.1, h1.on.2.1⟩

/-! the numbers on the drives as both sides see them; what is read -/
def NC (w : Wo) (d j : Nat) : Int32 := if d < 2 ∧ j < 792 then w (dc d + 1) j else 0
def NR (w : Wo) (d j : Nat) : Int32 := if d < 2 ∧ j < 792 then w 23 (792 * d + j) else 0
def MC (w : Wo) (j : Nat) : Int32 := if j < 16 then w 18 j else 0
def MR (w : Wo) (j : Nat) : Int32 := if j < 16 then w 24 j else 0
theorem NR_at (w : Wo) {d s k : Nat} (hd : d < 2) (hs : s < 72) (hk : k < 11) : w 23 (11 * (72 * d + s) + k) = NR w d (11 * s + k) := by
  unfold NR
  rw [if_pos ⟨hd, by omega⟩, show 792 * d + (11 * s + k) = 11 * (72 * d + s) + k by omega]
theorem NC_at (w : Wo) {d s k : Nat} (hd : d < 2) (hs : s < 72) (hk : k < 11) : w (dc d + 1) (11 * s + k) = NC w d (11 * s + k) := by
  unfold NC
  rw [if_pos ⟨hd, by omega⟩]
theorem MR_at (w : Wo) {j : Nat} (h : j < 16) : w 24 j = MR w j := by
  unfold MR
  rw [if_pos h]
theorem MC_at (w : Wo) {j : Nat} (h : j < 16) : w 18 j = MC w j := by
  unfold MC
  rw [if_pos h]
theorem sm_congr {r r' : Nat → Int32} (h : ∀ i, i < 11 → r i = r' i) : sm r = sm r' := by
  unfold sm
  have h8 : ∀ k, k ≤ 8 → sm8 r k = sm8 r' k := by
    intro k
    induction k with
    | zero => intro _; rfl
    | succ k ih =>
      intro hk
      show mixf (sm8 r k) (r k) = mixf (sm8 r' k) (r' k)
      rw [ih (by omega), h k (by omega)]
  rw [h8 8 (by omega), h 9 (by omega), h 10 (by omega)]
def wh (N : Nat → Nat → Int32) (d s : Nat) : Bool := decide (N d (11 * s + 8) = sm (fun i => N d (11 * s + i)))
def rp (N : Nat → Nat → Int32) (M : Nat → Int32) (d p : Nat) : Bool := wh N d (64 + p) && (decide (N d (11 * (64 + p) + 9) = nI (64 + p)) && decide (N d (11 * (64 + p) + 10) = M (8 * d + p)))
def lsd (N : Nat → Nat → Int32) (d b : Nat) : Int32 := N d (11 * (64 + b / 8) + b % 8)
def exq (N : Nat → Nat → Int32) (M : Nat → Int32) (d b : Nat) : Int32 := if rp N M (1 - d) (b / 8) = true then lsd N (1 - d) b else if rp N M d (b / 8) = true then lsd N d b else -1
def uk (N : Nat → Nat → Int32) (M : Nat → Int32) (d b : Nat) : Bool := !rp N M (1 - d) (b / 8) && !rp N M d (b / 8)
def vd (N : Nat → Nat → Int32) (M : Nat → Int32) (d b : Nat) : Int32 := if wh N d b = true then (if N d (11 * b + 9) = nI b then (if uk N M d b = true then 3 else if exq N M d b ≤ N d (11 * b + 10) then (if N d (11 * b + 10) ≤ exq N M d b then 0 else 5) else 4) else 2) else 1
def vdC (N : Nat → Nat → Int32) (M : Nat → Int32) (d b : Nat) : Int32 := if wh N d b = true then (if N d (11 * b + 9) = nI b then (if exq N M d b = -1 then 3 else if exq N M d b ≤ N d (11 * b + 10) then (if N d (11 * b + 10) ≤ exq N M d b then 0 else 5) else 4) else 2) else 1
def cd (N : Nat → Nat → Int32) (M : Nat → Int32) (b : Nat) : Nat := if vd N M 0 b = 0 then 0 else if vd N M 1 b = 0 then 1 else 2
/-! the reference -/
theorem isWhole_e (w : Wo) {d s : Nat} (hd : d < 2) (hs : s < 72) : fM_isWhole Lf w 22 (nI d) (nI s) = some (w, bI (wh (NR w) d s)) := by
  unfold fM_isWhole
  rw [isC22, gdt, place_e, bd, gr22_1, bd]
  show ((ld Lf w 23 (nI (11 * (72 * d + s)) + 8)).bind fun v3 => (fM_sumAt Lf w 22 (nI (11 * (72 * d + s)))).bind fun q4 => _) = _
  rw [ad_8, ld23 w (by omega), bd, sumAt_e w _ (by omega), bd, zr_i]
  unfold wh
  rw [NR_at w hd hs (by omega), sm_congr (fun i hi => NR_at w hd hs hi)]
theorem isRightPage_e (w : Wo) {d p : Nat} (hd : d < 2) (hp : p < 8) : fM_isRightPage Lf w 22 (nI d) (nI p) = some (w, bI (rp (NR w) (MR w) d p)) := by
  unfold fM_isRightPage
  rw [isC22, gdt, da_64, place_e, bd, isWhole_e w hd (by omega), bd, bI_if]
  show (if wh (NR w) d (64 + p) = true then ((gr Lf 22 5 1).bind fun r4 => (ld Lf w r4 (nI (11 * (72 * d + (64 + p))) + 9)).bind fun v5 => if v5 = nI (64 + p) then ((gr Lf 22 5 1).bind fun r7 => (ld Lf w r7 (nI (11 * (72 * d + (64 + p))) + 10)).bind fun v8 => (gr Lf 22 5 2).bind fun r9 => (ld Lf w r9 (8 * nI d + nI p)).bind fun v10 => if v8 = v10 then zr w 1 else zr w 0) else zr w 0) else zr w 0) = _
  rw [gr22_1, bd, ad_9, ld23 w (by omega), bd, bd, ad_10, ld23 w (by omega), bd, gr22_2, bd, mu_8, nI_add, ld24 w (by omega), bd, NR_at w hd (by omega) (by omega), NR_at w hd (by omega) (by omega), MR_at w (by omega)]
  unfold rp
  by_cases h1 : wh (NR w) d (64 + p) = true <;> by_cases h2 : NR w d (11 * (64 + p) + 9) = nI (64 + p) <;> by_cases h3 : NR w d (11 * (64 + p) + 10) = MR w (8 * d + p) <;> simp [h1, h2, h3, bI, zr0, zr1]
theorem isUnknown_e (w : Wo) {d b : Nat} (hd : d < 2) (hb : b < 64) : fM_isUnknown Lf w 22 (nI d) (nI b) = some (w, bI (uk (NR w) (MR w) d b)) := by
  unfold fM_isUnknown
  rw [isC22, gdt, s1 (by omega), d8 (by omega), isRightPage_e w (by omega) (by omega), bd, bI_if]
  show (if _ then zr w 0 else ((fM_isRightPage Lf w 22 (nI d) (nI (b / 8))).bind fun q3 => _)) = _
  rw [isRightPage_e w hd (by omega), bd, bI_if]
  unfold uk
  by_cases h1 : rp (NR w) (MR w) (1 - d) (b / 8) = true <;> by_cases h2 : rp (NR w) (MR w) d (b / 8) = true <;> simp [h1, h2, bI, zr0, zr1]
theorem listed_e (w : Wo) {d b : Nat} (hd : d < 2) (hb : b < 64) : fM_listed Lf w 22 (nI d) (nI b) = some (w, lsd (NR w) d b) := by
  unfold fM_listed
  rw [isC22, gdt, gr22_1, bd, r8 (by omega), d8 (by omega), da_64, place_e, bd]
  show ((ld Lf w 23 (nI (11 * (72 * d + (64 + b / 8))) + nI (b % 8))).bind fun v3 => _) = _
  rw [nI_add, ld23 w (by omega), bd, NR_at w hd (by omega) (by omega)]
  rfl
theorem expectedOf_e (w : Wo) {d b : Nat} (hd : d < 2) (hb : b < 64) : fM_expectedOf Lf w 22 (nI d) (nI b) = some (w, exq (NR w) (MR w) d b) := by
  unfold fM_expectedOf
  rw [isC22, gdt, s1 (by omega), d8 (by omega), isRightPage_e w (by omega) (by omega), bd, bI_if]
  show (if _ then ((fM_listed Lf w 22 (nI (1 - d)) (nI b)).bind fun q6 => _) else ((fM_isRightPage Lf w 22 (nI d) (nI (b / 8))).bind fun q3 => _)) = _
  rw [isRightPage_e w hd (by omega), bd, bI_if, listed_e w (by omega) hb, bd]
  show (if _ then _ else (if _ then ((fM_listed Lf w 22 (nI d) (nI b)).bind fun q6 => _) else _)) = _
  rw [listed_e w hd hb, bd]
  unfold exq
  by_cases h1 : rp (NR w) (MR w) (1 - d) (b / 8) = true <;> by_cases h2 : rp (NR w) (MR w) d (b / 8) = true <;> simp [h1, h2]
theorem verdictOf_e (w : Wo) {d b : Nat} (hd : d < 2) (hb : b < 64) : fM_verdictOf Lf w 22 (nI d) (nI b) = some (w, vd (NR w) (MR w) d b) := by
  unfold fM_verdictOf
  rw [isC22, gdt, place_e, bd, isWhole_e w hd (by omega), bd, bI_if]
  show (if _ then ((gr Lf 22 5 1).bind fun r4 => (ld Lf w r4 (nI (11 * (72 * d + b)) + 9)).bind fun v5 => if v5 = nI b then ((fM_isUnknown Lf w 22 (nI d) (nI b)).bind fun q7 => _) else _) else _) = _
  rw [gr22_1, bd, ad_9, ld23 w (by omega), bd, isUnknown_e w hd hb, bd, bI_if]
  show (if _ then (if _ then (if _ then _ else ((fM_expectedOf Lf w 22 (nI d) (nI b)).bind fun q9 => (gr Lf 22 5 1).bind fun r10 => (ld Lf q9.1 r10 (nI (11 * (72 * d + b)) + 10)).bind fun v11 => if q9.2 ≤ v11 then ((gr Lf 22 5 1).bind fun r13 => (ld Lf q9.1 r13 (nI (11 * (72 * d + b)) + 10)).bind fun v14 => _) else _)) else _) else _) = _
  rw [expectedOf_e w hd hb, bd, gr22_1, bd, ad_10, ld23 w (by omega), bd, bd]
  dsimp only
  rw [ld23 w (by omega), bd, NR_at w hd (by omega) (by omega), NR_at w hd (by omega) (by omega)]
  unfold vd
  by_cases h1 : wh (NR w) d b = true <;> by_cases h2 : NR w d (11 * b + 9) = nI b <;> by_cases h3 : uk (NR w) (MR w) d b = true <;> by_cases h4 : exq (NR w) (MR w) d b ≤ NR w d (11 * b + 10) <;> by_cases h5 : NR w d (11 * b + 10) ≤ exq (NR w) (MR w) d b <;> simp [h1, h2, h3, h4, h5]
theorem codeOf_e (w : Wo) {b : Nat} (hb : b < 64) : fM_codeOf Lf w 22 (nI b) = some (w, nI (cd (NR w) (MR w) b)) := by
  unfold fM_codeOf
  rw [isC22, gdt]
  show ((fM_verdictOf Lf w 22 (nI 0) (nI b)).bind fun q1 => if q1.2 = 0 then _ else ((fM_verdictOf Lf q1.1 22 (nI 1) (nI b)).bind fun q3 => _)) = _
  rw [verdictOf_e w (by omega) hb, bd, verdictOf_e w (by omega) hb, bd]
  unfold cd
  by_cases h1 : vd (NR w) (MR w) 0 b = 0 <;> by_cases h2 : vd (NR w) (MR w) 1 b = 0 <;> simp [h1, h2] <;> rfl
/-! the class -/
theorem driveOf_e (w : Wo) {d : Nat} (hd : d < 2) : fG_driveOf Lf w 0 (nI d) = some (w, dc d) := by
  unfold fG_driveOf
  rw [isC0, gdt, gr0_0, gr0_1, bd, bd]
  rcases (show d = 0 ∨ d = 1 by omega) with rfl | rfl <;> rfl
theorem at_e (w : Wo) {d s k : Nat} (hd : d < 2) (hs : s < 72) (hk : k < 11) : fD_at Lf w (dc d) (nI s) (nI k) = some (w, NC w d (11 * s + k)) := by
  unfold fD_at
  rw [isCD, gdt, grD_0, bd, um_11, nI_add, ldD1 w d (by omega), bd, show s * 11 + k = 11 * s + k by omega, NC_at w hd hs hk]
theorem sumN_e (w : Wo) {d s : Nat} (hd : d < 2) (hs : s < 72) : fG_sumOf Lf w (dc d + 1) (nI (s * 11)) = some (w, sm (fun i => NC w d (11 * s + i))) := by
  rw [sumOf_e w (dc d + 1) (s * 11) 792 (by have := (arD d).2.2.2.2; omega) (arD d).1 (by decide) (by omega)]
  rw [sm_congr (r' := fun i => NC w d (11 * s + i)) (fun i hi => by rw [show s * 11 + i = 11 * s + i by omega]; exact NC_at w hd hs hi)]
theorem isPageRight_e (w : Wo) {d p : Nat} (hd : d < 2) (hp : p < 8) : fG_isPageRight Lf w 0 (nI d) (nI p) = some (w, bI (rp (NC w) (MC w) d p)) := by
  unfold fG_isPageRight
  rw [isC0, gdt, driveOf_e w hd, bd, da_64]
  show ((fD_at Lf w (dc d) (nI (64 + p)) (nI 8)).bind fun q2 => (gr Lf (dc d) 0 0).bind fun r3 => (fG_sumOf Lf q2.1 r3 (nI (64 + p) * 11)).bind fun q4 => if q2.2 = q4.2 then ((fD_at Lf q4.1 (dc d) (nI (64 + p)) (nI 9)).bind fun q6 => if q6.2 = nI (64 + p) then ((fD_at Lf q6.1 (dc d) (nI (64 + p)) (nI 10)).bind fun q8 => _) else _) else _) = _
  rw [at_e w hd (by omega) (by omega), bd, grD_0, bd, um_11, sumN_e w hd (by omega), bd, at_e w hd (by omega) (by omega), bd, at_e w hd (by omega) (by omega), bd, gr0_5, bd, um_8, nI_add, ld18 w (by omega), bd, MC_at w (by omega), show d * 8 + p = 8 * d + p by omega]
  unfold rp wh
  by_cases h1 : NC w d (11 * (64 + p) + 8) = sm (fun i => NC w d (11 * (64 + p) + i)) <;> by_cases h2 : NC w d (11 * (64 + p) + 9) = nI (64 + p) <;> by_cases h3 : NC w d (11 * (64 + p) + 10) = MC w (8 * d + p) <;> simp [h1, h2, h3, bI, zr0, zr1]
def ldr (N : Nat → Nat → Int32) (M : Nat → Int32) (d p : Nat) : Int32 := if rp N M (1 - d) p = true then nI (1 - d) else if rp N M d p = true then nI d else -1
theorem listDrive_e (w : Wo) {d p : Nat} (hd : d < 2) (hp : p < 8) : fG_listDrive Lf w 0 (nI d) (nI p) = some (w, ldr (NC w) (MC w) d p) := by
  unfold fG_listDrive
  rw [isC0, gdt, s1 (by omega), isPageRight_e w (by omega) hp, bd, bI_if]
  show (if _ then _ else ((fG_isPageRight Lf w 0 (nI d) (nI p)).bind fun q3 => _)) = _
  rw [isPageRight_e w hd hp, bd, bI_if]
  unfold ldr
  by_cases h1 : rp (NC w) (MC w) (1 - d) p = true <;> by_cases h2 : rp (NC w) (MC w) d p = true <;> simp [h1, h2]
theorem expectedVersion_e (w : Wo) {d b : Nat} (hd : d < 2) (hb : b < 64) : fG_expectedVersion Lf w 0 (nI d) (nI b) = some (w, exq (NC w) (MC w) d b) := by
  unfold fG_expectedVersion
  rw [isC0, gdt, r8 (by omega), d8 (by omega), listDrive_e w hd (by omega), bd]
  unfold exq ldr
  have key : ∀ e, e < 2 → (fG_driveOf Lf w 0 (nI e)).bind (fun q3 => (fD_at Lf q3.1 q3.2 (64 + nI (b / 8)) (nI (b % 8))).bind fun q4 => some (q4.1, q4.2)) = some (w, lsd (NC w) e b) := by
    intro e he
    rw [driveOf_e w he, bd, da_64]
    show ((fD_at Lf w (dc e) (nI (64 + b / 8)) (nI (b % 8))).bind fun q4 => _) = _
    rw [at_e w he (by omega) (by omega), bd]
    rfl
  by_cases h1 : rp (NC w) (MC w) (1 - d) (b / 8) = true
  · simp only [h1, if_true]
    rw [if_neg (neg1 (by omega))]
    exact key (1 - d) (by omega)
  · by_cases h2 : rp (NC w) (MC w) d (b / 8) = true
    · simp only [h1, h2, if_true, if_false]
      show (if nI d = -1 then _ else _) = _
      rw [if_neg (neg1 (by omega))]
      exact key d hd
    · simp [h1, h2]
theorem judge_e (w : Wo) {d b : Nat} (hd : d < 2) (hb : b < 64) : fG_judge Lf w 0 (nI d) (nI b) = some (w, vdC (NC w) (MC w) d b) := by
  unfold fG_judge
  rw [isC0, gdt, driveOf_e w hd, bd]
  show ((fD_at Lf w (dc d) (nI b) (nI 8)).bind fun q2 => (gr Lf (dc d) 0 0).bind fun r3 => (fG_sumOf Lf q2.1 r3 (nI b * 11)).bind fun q4 => if q2.2 = q4.2 then ((fD_at Lf q4.1 (dc d) (nI b) (nI 9)).bind fun q6 => if q6.2 = nI b then ((fG_expectedVersion Lf q6.1 0 (nI d) (nI b)).bind fun q8 => if q8.2 = -1 then _ else ((fD_at Lf q8.1 (dc d) (nI b) (nI 10)).bind fun q10 => _)) else _) else _) = _
  rw [at_e w hd (by omega) (by omega), bd, grD_0, bd, um_11, sumN_e w hd (by omega), bd, at_e w hd (by omega) (by omega), bd, expectedVersion_e w hd hb, bd, at_e w hd (by omega) (by omega), bd]
  unfold vdC wh
  by_cases h1 : NC w d (11 * b + 8) = sm (fun i => NC w d (11 * b + i)) <;> by_cases h2 : NC w d (11 * b + 9) = nI b <;> by_cases h3 : exq (NC w) (MC w) d b = -1 <;> by_cases h4 : exq (NC w) (MC w) d b ≤ NC w d (11 * b + 10) <;> by_cases h5 : NC w d (11 * b + 10) ≤ exq (NC w) (MC w) d b <;> simp [h1, h2, h3, h4, h5]

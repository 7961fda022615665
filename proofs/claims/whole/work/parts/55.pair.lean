/-! class and reference side by side: store, lists, copies -/
/-- a row that stands in its own page's slot has words from 0 to 60 -/
def PI (N : Nat → Nat → Int32) : Prop := ∀ d p, d < 2 → p < 8 → N d (11 * (64 + p) + 9) = nI (64 + p) → ∀ k, k < 8 → ∃ v, v ≤ 60 ∧ N d (11 * (64 + p) + k) = nI v
theorem PI_up {N : Nat → Nat → Int32} (h : PI N) {d s s' len : Nat} {ws : Nat → Int32} {v : Int32} (hs : s < 72) (hl : len ≤ 11) (hsl : s' = s ∨ len = 11) (hw : 64 ≤ s → ∀ k, k < 8 → ∃ v, v ≤ 60 ∧ ws k = nI v) : PI (upN N d s' len (mkrow ws s v)) := by
  intro e p he hp ha k hk
  have rk : ∀ j, j < 8 → mkrow ws s v j = ws j := fun j hj => by
    unfold mkrow
    rw [if_neg (by omega), if_neg (by omega), if_neg (by omega)]
  by_cases hes : e = d ∧ s' = 64 + p
  · obtain ⟨rfl, rfl⟩ := hes
    unfold upN at ha ⊢
    by_cases h9 : 9 < len
    · rw [if_pos (by omega), show 11 * (64 + p) + 9 - 11 * (64 + p) = 9 by omega] at ha
      have h9e : mkrow ws s v 9 = nI s := rfl
      rw [h9e] at ha
      have hsp : s = 64 + p := (nI_eq (by omega) (by omega)).mp ha
      rw [if_pos (by omega), show 11 * (64 + p) + k - 11 * (64 + p) = k by omega, rk k hk]
      exact hw (by omega) k hk
    · rw [if_neg (by omega)] at ha
      have hsp : s = 64 + p := by omega
      by_cases hkl : k < len
      · rw [if_pos (by omega), show 11 * (64 + p) + k - 11 * (64 + p) = k by omega, rk k hk]
        exact hw (by omega) k hk
      · rw [if_neg (by omega)]
        exact h e p he hp ha k hk
  · have hne : ∀ j, j < 11 → upN N d s' len (mkrow ws s v) e (11 * (64 + p) + j) = N e (11 * (64 + p) + j) := fun j hj => by
      unfold upN
      rw [if_neg (by omega)]
    rw [hne 9 (by omega)] at ha
    rw [hne k (by omega)]
    exact h e p he hp ha k hk
theorem PI_st {N : Nat → Nat → Int32} (h : PI N) {P : Pl} (hp : pok P) {t : Int32} {d s : Nat} {ws : Nat → Int32} {v : Int32} (hs : s < 72) (hw : 64 ≤ s → ∀ k, k < 8 → ∃ v, v ≤ 60 ∧ ws k = nI v) : PI (stN N (P t) d s (mkrow ws s v)) := by
  cases ho : P t with
  | none => exact PI_up h hs (by omega) (Or.inl rfl) hw
  | some q =>
    obtain ⟨k, x⟩ := q
    show PI (if k = 1 then upN N d x.toNatClampNeg 11 _ else if k = 2 then upN N d s x.toNatClampNeg _ else N)
    by_cases h1 : k = 1
    · rw [if_pos h1]; exact PI_up h hs (by omega) (Or.inr rfl) hw
    · rw [if_neg h1]
      by_cases h2 : k = 2
      · obtain ⟨m, hm, rfl⟩ := (hp t k x ho).2 h2
        rw [if_pos h2, nI_clamp (by omega)]
        exact PI_up h hs (by omega) (Or.inl rfl) hw
      · rw [if_neg h2]; exact h
def Cr (wc wr : Wo) (M : Nat → Int32) (on : Bool) : Prop := ∃ N lf W n P, DC wc N lf on W n P ∧ DR wr N lf on W n P ∧ POK P ∧ PI N ∧ MC wc = M ∧ MR wr = M
theorem MC_congr {w w' : Wo} (h : w' 18 = w 18) : MC w' = MC w := by
  funext j
  unfold MC
  rw [h]
theorem MR_congr {w w' : Wo} (h : w' 24 = w 24) : MR w' = MR w := by
  funext j
  unfold MR
  rw [h]
theorem Cr.N {wc wr : Wo} {M : Nat → Int32} {on : Bool} (h : Cr wc wr M on) : NC wc = NR wr ∧ PI (NC wc) ∧ MC wc = M ∧ MR wr = M := by
  obtain ⟨N, lf, W, n, P, h1, h2, h3, h4, h5, h6⟩ := h
  refine ⟨h1.1.trans h2.1.symm, by rw [h1.1]; exact h4, h5, h6⟩
theorem Cr.cong {wc wr wc' wr' : Wo} {M : Nat → Int32} {on : Bool} (h : Cr wc wr M on) (hc : ∀ c, (1 ≤ c ∧ c ≤ 13) ∨ c = 18 → wc' c = wc c) (hr : ∀ c, c = 23 ∨ c = 24 ∨ (26 ≤ c ∧ c ≤ 30) → wr' c = wr c) (hr6 : wr' 22 6 = wr 22 6) (hr7 : wr' 22 7 = wr 22 7) : Cr wc' wr' M on := by
  obtain ⟨N, lf, W, n, P, h1, h2, h3, h4, h5, h6⟩ := h
  refine ⟨N, lf, W, n, P, ⟨?_, ?_, ?_, fun d hd => ?_⟩, ⟨?_, ?_, ?_, fun d hd => ?_⟩, h3, h4, ?_, ?_⟩
  · rw [NC_congr (hc 2 (by omega)) (hc 8 (by omega))]; exact h1.1
  · rw [hc 13 (by omega)]; exact h1.2.1
  · rw [hc 13 (by omega)]; exact h1.2.2.1
  · have := dc01 d
    rw [hc (dc d) (by omega), hc (dc d + 2) (by omega), hc (dc d + 3) (by omega), hc (dc d + 4) (by omega)]
    exact h1.2.2.2 d hd
  · rw [NR_congr (hr 23 (by omega))]; exact h2.1
  · rw [hr7]; exact h2.2.1
  · rw [hr6]; exact h2.2.2.1
  · rw [hr 26 (by omega), hr 27 (by omega), hr 28 (by omega), hr 29 (by omega), hr 30 (by omega)]
    exact h2.2.2.2 d hd
  · rw [MC_congr (hc 18 (by omega))]; exact h5
  · rw [MR_congr (hr 24 (by omega))]; exact h6
theorem Cr.mem {wc wr : Wo} {M : Nat → Int32} {on : Bool} (h : Cr wc wr M on) {j : Nat} (hj : j < 16) (x : Int32) : Cr (up2 wc 18 j x) (up2 wr 24 j x) (va_up M j x) on := by
  obtain ⟨N, lf, W, n, P, h1, h2, h3, h4, h5, h6⟩ := h
  have hm : ∀ (w : Wo) (c : Nat) (f : Wo → Nat → Int32), (∀ w i, f w i = if i < 16 then w c i else 0) → f (up2 w c j x) = va_up (f w) j x := by
    intro w c f hf
    funext i
    rw [hf]
    unfold va_up
    by_cases hij : i = j
    · subst hij; rw [if_pos hj, if_pos rfl, up2_s]
    · rw [if_neg hij, hf, up2_i _ _ hij]
  refine ⟨N, lf, W, n, P, ⟨?_, ?_, ?_, fun d hd => ?_⟩, ⟨?_, ?_, ?_, fun d hd => ?_⟩, h3, h4, ?_, ?_⟩
  · rw [NC_congr (up2_c _ _ (by decide)) (up2_c _ _ (by decide))]; exact h1.1
  · rw [up2_c _ _ (by decide)]; exact h1.2.1
  · rw [up2_c _ _ (by decide)]; exact h1.2.2.1
  · have := dc01 d
    rw [up2_c (d := dc d) _ _ (by omega), up2_c (d := dc d + 2) _ _ (by omega), up2_c (d := dc d + 3) _ _ (by omega), up2_c (d := dc d + 4) _ _ (by omega)]
    exact h1.2.2.2 d hd
  · rw [NR_congr (up2_c _ _ (by decide))]; exact h2.1
  · rw [up2_c _ _ (by decide)]; exact h2.2.1
  · rw [up2_c _ _ (by decide)]; exact h2.2.2.1
  · rw [up2_c (d := 26) _ _ (by decide), up2_c (d := 27) _ _ (by decide), up2_c (d := 28) _ _ (by decide), up2_c (d := 29) _ _ (by decide), up2_c (d := 30) _ _ (by decide)]
    exact h2.2.2.2 d hd
  · rw [hm wc 18 MC (fun w i => rfl), h5]
  · rw [hm wr 24 MR (fun w i => rfl), h6]
/-- what a store leaves as it was -/
def FCs (w w' : Wo) : Prop := ∀ c, c = 0 ∨ 14 ≤ c → c ≠ 19 → w' c = w c
def FRs (w w' : Wo) : Prop := (∀ c, c ≠ 22 → c ≠ 23 → c ≠ 26 → c ≠ 27 → c ≠ 28 → c ≠ 29 → c ≠ 30 → c ≠ 32 → w' c = w c) ∧ ∀ i, i ≠ 6 → i ≠ 7 → w' 22 i = w 22 i
theorem store_p {wc wr : Wo} {M : Nat → Int32} {on : Bool} (h : Cr wc wr M on) {d s cw : Nat} (hd : d < 2) (hs : s < 72) (hcw : cw = 15 ∨ cw = 20 ∨ cw = 21) (hw : ∀ k, k < 8 → wc cw k = wr 32 k) (hpi : 64 ≤ s → ∀ k, k < 8 → ∃ v, v ≤ 60 ∧ wc cw k = nI v) (v : Int32) : ∃ wc' wr' b, fG_store Lf wc 0 (nI d) (nI s) cw v = some (wc', bI b) ∧ fM_store Lf wr 22 (nI d) (nI s) v = some (wr', bI b) ∧ Cr wc' wr' M (b && on) ∧ FCs wc wc' ∧ FRs wr wr' := by
  obtain ⟨N, lf, W, n, P, h1, h2, h3, h4, h5, h6⟩ := h
  by_cases hl : lf = 0
  · subst hl
    obtain ⟨e1, g1⟩ := storeC_cut h1 (nI d) (nI s) v cw
    obtain ⟨e2, g2⟩ := storeR_cut h2 (nI d) (nI s) v
    refine ⟨_, _, false, e1, e2, ⟨N, 0, W, n, P, g1, g2, h3, h4, ?_, ?_⟩, fun c hc _ => up2_c _ _ (by omega), fun c g1 g2 g3 g4 g5 g6 g7 g8 => up2_c _ _ g1, fun i g1 g2 => up2_i _ _ g1⟩
    · rw [MC_congr (up2_c _ _ (by decide))]; exact h5
    · rw [MR_congr (up2_c _ _ (by decide))]; exact h6
  · obtain ⟨wc', e1, g1, f1⟩ := storeC h1 hl h3 hd hs hcw v
    obtain ⟨wr', e2, g2, f2, f3⟩ := storeR h2 hl h3 hd hs v
    have hmk : mkrow (wr 32) s v = mkrow (wr 32) s v := rfl
    have hN : N1 N W P d s (mkrow (wr 32) s v) = N1 N W P d s (mkrow (wc cw) s v) := by
      refine stN_congr N (h3 d hd) _ d s (fun k hk => ?_)
      unfold mkrow
      rw [sm8_congr (r := wr 32) (r' := wc cw) (fun i hi => (hw i hi).symm)]
      by_cases h8 : k = 8
      · rw [if_pos h8, if_pos h8]
      · rw [if_neg h8, if_neg h8]
        by_cases h9 : k = 9
        · rw [if_pos h9, if_pos h9]
        · rw [if_neg h9, if_neg h9]
          by_cases h10 : k = 10
          · rw [if_pos h10, if_pos h10]
          · rw [if_neg h10, if_neg h10, hw k (by omega)]
    rw [hN] at g2
    refine ⟨wc', wr', true, e1, e2, ⟨_, _, _, _, _, g1, g2, P1_pok h3, PI_st h4 (h3 d hd) hs hpi, ?_, ?_⟩, f1, f2, fun i g1 g2 => f3 i g2⟩
    · rw [MC_congr (f1 18 (by omega) (by omega))]; exact h5
    · rw [MR_congr (f2 24 (by omega) (by omega) (by omega) (by omega) (by omega) (by omega) (by omega) (by omega))]; exact h6
/-! filling -/
def filw (w : Wo) (c n : Nat) (x : Int32) : Wo := fun e j => if e = c ∧ j < n then x else w e j
theorem filw_ne (w : Wo) (c n : Nat) (x : Int32) {e : Nat} (h : e ≠ c) : filw w c n x e = w e := by
  funext j
  unfold filw
  rw [if_neg (fun q => h q.1)]
theorem fill_l (w : Wo) (c N : Nat) (x : Int32) (hc : c < 35) (har : ar c = some N) (hN : N ≤ 1584) : ∀ (j k m : Nat), k + j = N → bAf_fill_5 Lf (m + (j + 1)) (filw w c k x) c x (nI k) (nI N) = some (filw w c N x) := by
  intro j
  induction j with
  | zero =>
    intro k m hk
    have hk : k = N := by omega
    subst hk
    show bAf_fill_5s Lf _ _ c _ _ _ = _
    unfold bAf_fill_5s
    rw [if_pos (nI_le (by omega) (by omega))]
  | succ j ih =>
    intro k m hk
    have hst : up2 (filw w c k x) c k x = filw w c (k + 1) x := by
      funext e i
      by_cases he : e = c
      · subst he
        by_cases hi : i = k
        · subst hi
          rw [up2_s]
          unfold filw
          rw [if_pos (by omega)]
        · rw [up2_i _ _ hi]
          unfold filw
          by_cases hk2 : i < k
          · rw [if_pos ⟨rfl, hk2⟩, if_pos (by omega)]
          · rw [if_neg (by omega), if_neg (by omega)]
      · rw [up2_c _ _ he, filw_ne _ _ _ _ he, filw_ne _ _ _ _ he]
    show bAf_fill_5s Lf _ _ c _ _ _ = _
    unfold bAf_fill_5s
    rw [if_neg (nI_ge (by omega) (by omega)), st_n _ _ hc har hN (by omega), bd, hst, ad_1]
    exact ih (k + 1) m (by omega)
theorem fill_e (w : Wo) (c N : Nat) (x : Int32) (hc : c < 35) (har : ar c = some N) (hN : N ≤ 792) : fAf_fill Lf w c x = some (filw w c N x) := by
  unfold fAf_fill
  have : al Lf c = some (nI N) := by
    unfold al
    rw [if_pos (show c < Lf.1 from hc), har]
    rfl
  rw [this, bd, show (1000 : Nat) = (999 - N) + (N + 1) by omega]
  have h := fill_l w c N x hc har (by omega) N 0 (999 - N) (by omega)
  rw [show filw w c 0 x = w from by
    funext e j
    unfold filw
    rw [if_neg (by omega)]] at h
  exact h
theorem giveWords_e (w : Wo) {d s cw : Nat} (hs : s < 72) (hcw : cw = 15 ∨ cw = 20 ∨ cw = 21) : fD_giveWords Lf w (dc d) (nI s) cw = some (cpw w (dc d + 1) (11 * s) cw 0 8) := by
  unfold fD_giveWords
  have hac : ar cw = some 8 := by rcases hcw with rfl | rfl | rfl <;> rfl
  rw [isCD, gdt, grD_0, bd, um_11]
  show ((cp Lf w (dc d + 1) (nI (s * 11)) cw (nI 0) (nI 8)).bind fun w2 => some w2) = _
  rw [cp_n w (by have := (arD d).2.2.2.2; omega) (by rcases hcw with rfl | rfl | rfl <;> decide) (arD d).1 hac (by decide) (by decide) (by omega) (by omega), bd, show s * 11 = 11 * s by omega]
theorem cpw_gw (w : Wo) {d s cw k : Nat} (hd : d < 2) (hs : s < 72) (hk : k < 8) : cpw w (dc d + 1) (11 * s) cw 0 8 cw k = NC w d (11 * s + k) := by
  rw [cpw_eq]
  unfold va_cpy
  rw [if_pos (by omega), Nat.sub_zero, NC_at w hd hs (by omega)]
/-! lists -/
def lwf (N : Nat → Nat → Int32) (M : Nat → Int32) (d p : Nat) : Nat → Int32 := fun k => if rp N M (1 - d) p = true then N (1 - d) (11 * (64 + p) + k) else if rp N M d p = true then N d (11 * (64 + p) + k) else 0
theorem rp_addr {N : Nat → Nat → Int32} {M : Nat → Int32} {d p : Nat} (h : rp N M d p = true) : N d (11 * (64 + p) + 9) = nI (64 + p) := by
  unfold rp at h
  simp only [Bool.and_eq_true, decide_eq_true_eq] at h
  exact h.2.1
theorem lwf_in {N : Nat → Nat → Int32} {M : Nat → Int32} (h : PI N) {d p : Nat} (hd : d < 2) (hp : p < 8) (k : Nat) (hk : k < 8) : ∃ v, v ≤ 60 ∧ lwf N M d p k = nI v := by
  unfold lwf
  by_cases h1 : rp N M (1 - d) p = true
  · rw [if_pos h1]; exact h (1 - d) p (by omega) hp (rp_addr h1) k hk
  · rw [if_neg h1]
    by_cases h2 : rp N M d p = true
    · rw [if_pos h2]; exact h d p hd hp (rp_addr h2) k hk
    · rw [if_neg h2]; exact ⟨0, by omega, rfl⟩
theorem storeList_C (w : Wo) {d b : Nat} (hd : d < 2) (hb : b < 64) (x : Int32) : ∃ w4, (∀ k, k < 8 → w4 20 k = if k = b % 8 then x else lwf (NC w) (MC w) d (b / 8) k) ∧ (∀ c, c ≠ 20 → w4 c = w c) ∧ fG_storeList Lf w 0 (nI d) (nI b) x = (fG_store Lf w4 0 (nI (1 - d)) (nI (64 + b / 8)) 20 (MC w (8 * (1 - d) + b / 8) + 1)).bind fun q => if q.2 = 0 then some (q.1, 0) else some (up2 q.1 18 (8 * (1 - d) + b / 8) (MC w (8 * (1 - d) + b / 8) + 1), 1) := by
  have tail : ∀ w3 : Wo, (∀ c, c ≠ 20 → w3 c = w c) → (∀ k, k < 8 → w3 20 k = lwf (NC w) (MC w) d (b / 8) k) → ∃ w4, (∀ k, k < 8 → w4 20 k = if k = b % 8 then x else lwf (NC w) (MC w) d (b / 8) k) ∧ (∀ c, c ≠ 20 → w4 c = w c) ∧ bG_storeList_50 Lf w3 0 (nI d) (nI b) x (nI (b / 8)) = (fG_store Lf w4 0 (nI (1 - d)) (nI (64 + b / 8)) 20 (MC w (8 * (1 - d) + b / 8) + 1)).bind fun q => if q.2 = 0 then some (q.1, 0) else some (up2 q.1 18 (8 * (1 - d) + b / 8) (MC w (8 * (1 - d) + b / 8) + 1), 1) := by
    intro w3 hf hl
    refine ⟨up2 w3 20 (b % 8) x, fun k hk => ?_, fun c hc => by rw [up2_c _ _ hc, hf c hc], ?_⟩
    · by_cases e : k = b % 8
      · subst e; rw [up2_s, if_pos rfl]
      · rw [up2_i _ _ e, if_neg e, hl k hk]
    · unfold bG_storeList_50
      rw [gr0_9, bd, r8 (by omega), st20 _ _ (by omega), bd, gr0_5, bd, s1 (by omega), um_8, nI_add, ld18 _ (by omega), bd, bd, da_64, up2_c (d := 18) _ _ (by decide), hf 18 (by decide), MC_at w (by omega), show (1 - d) * 8 + b / 8 = 8 * (1 - d) + b / 8 by omega]
      congr 1
      funext q
      rw [zr0, bd, st18 _ _ (by omega), bd, zr1]
  unfold fG_storeList
  rw [isC0, gdt, d8 (by omega), listDrive_e w hd (by omega), bd]
  dsimp only
  have key : ∀ e, e < 2 → (∀ k, k < 8 → lwf (NC w) (MC w) d (b / 8) k = NC w e (11 * (64 + b / 8) + k)) → ∃ w4, (∀ k, k < 8 → w4 20 k = if k = b % 8 then x else lwf (NC w) (MC w) d (b / 8) k) ∧ (∀ c, c ≠ 20 → w4 c = w c) ∧ ((fG_driveOf Lf w 0 (nI e)).bind fun q12 => (gr Lf 0 4 9).bind fun r13 => (fD_giveWords Lf q12.1 q12.2 (64 + nI (b / 8)) r13).bind fun w14 => bG_storeList_50 Lf w14 0 (nI d) (nI b) x (nI (b / 8))) = (fG_store Lf w4 0 (nI (1 - d)) (nI (64 + b / 8)) 20 (MC w (8 * (1 - d) + b / 8) + 1)).bind fun q => if q.2 = 0 then some (q.1, 0) else some (up2 q.1 18 (8 * (1 - d) + b / 8) (MC w (8 * (1 - d) + b / 8) + 1), 1) := by
    intro e he hl
    rw [driveOf_e w he, bd, gr0_9, bd, da_64, giveWords_e w (by omega) (by omega), bd]
    refine tail _ (fun c hc => cpw_ne _ hc) (fun k hk => ?_)
    rw [cpw_gw w he (by omega) hk, hl k hk]
  unfold ldr
  by_cases h1 : rp (NC w) (MC w) (1 - d) (b / 8) = true
  · rw [if_pos h1, if_neg (neg1 (by omega))]
    exact key (1 - d) (by omega) (fun k hk => by unfold lwf; rw [if_pos h1])
  · rw [if_neg h1]
    by_cases h2 : rp (NC w) (MC w) d (b / 8) = true
    · rw [if_pos h2, if_neg (neg1 (by omega))]
      exact key d hd (fun k hk => by unfold lwf; rw [if_neg h1, if_pos h2])
    · rw [if_neg h2, if_pos rfl, gr0_9, bd, fill_e w 20 8 0 (by decide) rfl (by decide), bd]
      refine tail _ (fun c hc => filw_ne _ _ _ _ hc) (fun k hk => ?_)
      unfold filw lwf
      rw [if_pos ⟨rfl, hk⟩, if_neg h1, if_neg h2]
def rwset (w : Wo) (f : Nat → Int32) (k : Nat) : Wo := fun c j => if c = 32 ∧ j < k then f j else w c j
theorem rwset_ne (w : Wo) (f : Nat → Int32) (k : Nat) {c : Nat} (h : c ≠ 32) : rwset w f k c = w c := by
  funext j
  unfold rwset
  rw [if_neg (fun q => h q.1)]
theorem rwset_s (w : Wo) (f : Nat → Int32) (k : Nat) : up2 (rwset w f k) 32 k (f k) = rwset w f (k + 1) := by
  funext e i
  by_cases he : e = 32
  · subst he
    by_cases hi : i = k
    · subst hi
      rw [up2_s]
      unfold rwset
      rw [if_pos (by omega)]
    · rw [up2_i _ _ hi]
      unfold rwset
      by_cases hk2 : i < k
      · rw [if_pos ⟨rfl, hk2⟩, if_pos (by omega)]
      · rw [if_neg (by omega), if_neg (by omega)]
  · rw [up2_c _ _ he, rwset_ne _ _ _ he, rwset_ne _ _ _ he]
theorem rwset_0 (w : Wo) (f : Nat → Int32) : rwset w f 0 = w := by
  funext e j
  unfold rwset
  rw [if_neg (by omega)]
theorem storeList_Rl (w : Wo) {d b : Nat} (hd : d < 2) (hb : b < 64) (x : Int32) : ∀ (j k m : Nat), k + j = 8 → bM_storeList_33 Lf (m + (j + 1)) (rwset w (lwf (NR w) (MR w) d (b / 8)) k) 22 (nI d) (nI b) x (nI (b / 8)) (nI (1 - d)) (bI (rp (NR w) (MR w) (1 - d) (b / 8))) (bI (rp (NR w) (MR w) d (b / 8))) (nI k) = (fM_store Lf (up2 (rwset w (lwf (NR w) (MR w) d (b / 8)) 8) 32 (b % 8) x) 22 (nI (1 - d)) (nI (64 + b / 8)) (MR w (8 * (1 - d) + b / 8) + 1)).bind fun q => if q.2 = 0 then some (q.1, 0) else some (up2 q.1 24 (8 * (1 - d) + b / 8) (MR w (8 * (1 - d) + b / 8) + 1), 1) := by
  intro j
  induction j with
  | zero =>
    intro k m hk
    have hk : k = 8 := by omega
    subst hk
    show bM_storeList_33s Lf _ _ 22 _ _ _ _ _ _ _ _ = _
    unfold bM_storeList_33s
    rw [if_pos (by rw [le_8 (by decide)]; omega), gr22_18, bd, r8 (by omega), st32 _ _ (by omega), bd, gr22_2, bd, mu_8, nI_add, ld24 _ (by omega), bd, da_64, up2_c (d := 24) _ _ (by decide), rwset_ne _ _ _ (by decide), MR_at w (by omega)]
    congr 1
    funext q
    rw [zr0, bd, st24 _ _ (by omega), bd, zr1]
  | succ j ih =>
    intro k m hk
    have fin : ∀ y, y = lwf (NR w) (MR w) d (b / 8) k → bM_storeList_98 Lf (bM_storeList_33 Lf (m + (j + 1))) (rwset w (lwf (NR w) (MR w) d (b / 8)) k) 22 (nI d) (nI b) x (nI (b / 8)) (nI (1 - d)) (bI (rp (NR w) (MR w) (1 - d) (b / 8))) (bI (rp (NR w) (MR w) d (b / 8))) (nI k) 32 (nI k) y = (fM_store Lf (up2 (rwset w (lwf (NR w) (MR w) d (b / 8)) 8) 32 (b % 8) x) 22 (nI (1 - d)) (nI (64 + b / 8)) (MR w (8 * (1 - d) + b / 8) + 1)).bind fun q => if q.2 = 0 then some (q.1, 0) else some (up2 q.1 24 (8 * (1 - d) + b / 8) (MR w (8 * (1 - d) + b / 8) + 1), 1) := by
      intro y hy
      subst hy
      unfold bM_storeList_98
      rw [st32 _ _ (by omega), bd, rwset_s, ad_1]
      exact ih (k + 1) m (by omega)
    have rd : ∀ e, e < 2 → ∀ (F : Wo × Int32 → Int32 → Option (Wo × Int32)), ((fM_place Lf (rwset w (lwf (NR w) (MR w) d (b / 8)) k) (nI e) (64 + nI (b / 8))).bind fun q15 => (ld Lf q15.1 23 (q15.2 + nI k)).bind fun v16 => F q15 v16) = F (rwset w (lwf (NR w) (MR w) d (b / 8)) k, nI (11 * (72 * e + (64 + b / 8)))) (NR w e (11 * (64 + b / 8) + k)) := by
      intro e he F
      rw [da_64, place_e, bd]
      dsimp only
      rw [nI_add, ld23 _ (by omega), bd, rwset_ne _ _ _ (by decide), NR_at w he (by omega) (by omega)]
    show bM_storeList_33s Lf _ _ 22 _ _ _ _ _ _ _ _ = _
    unfold bM_storeList_33s
    rw [if_neg (by rw [le_8 (by omega)]; omega), gr22_18, bd, bI_if, bI_if, gr22_1, bd, bd, rd (1 - d) (by omega), rd d hd]
    dsimp only
    by_cases h1 : rp (NR w) (MR w) (1 - d) (b / 8) = true
    · rw [if_pos h1]
      exact fin _ (by unfold lwf; rw [if_pos h1])
    · rw [if_neg h1]
      by_cases h2 : rp (NR w) (MR w) d (b / 8) = true
      · rw [if_pos h2]
        exact fin _ (by unfold lwf; rw [if_neg h1, if_pos h2])
      · rw [if_neg h2]
        exact fin _ (by unfold lwf; rw [if_neg h1, if_neg h2])
theorem storeList_R (w : Wo) {d b : Nat} (hd : d < 2) (hb : b < 64) (x : Int32) : fM_storeList Lf w 22 (nI d) (nI b) x = (fM_store Lf (up2 (rwset w (lwf (NR w) (MR w) d (b / 8)) 8) 32 (b % 8) x) 22 (nI (1 - d)) (nI (64 + b / 8)) (MR w (8 * (1 - d) + b / 8) + 1)).bind fun q => if q.2 = 0 then some (q.1, 0) else some (up2 q.1 24 (8 * (1 - d) + b / 8) (MR w (8 * (1 - d) + b / 8) + 1), 1) := by
  unfold fM_storeList
  rw [isC22, gdt, s1 (by omega), d8 (by omega), isRightPage_e w (by omega) (by omega), bd]
  dsimp only
  rw [isRightPage_e w hd (by omega), bd]
  dsimp only
  have h := storeList_Rl w hd hb x 8 0 991 rfl
  rw [rwset_0] at h
  exact h
def FCl (w w' : Wo) : Prop := ∀ c, c = 0 ∨ 14 ≤ c → c ≠ 18 → c ≠ 19 → c ≠ 20 → w' c = w c
def FRl (w w' : Wo) : Prop := (∀ c, c ≠ 22 → c ≠ 23 → c ≠ 24 → c ≠ 26 → c ≠ 27 → c ≠ 28 → c ≠ 29 → c ≠ 30 → c ≠ 32 → w' c = w c) ∧ ∀ i, i ≠ 6 → i ≠ 7 → w' 22 i = w 22 i
theorem storeList_p {wc wr : Wo} {M : Nat → Int32} {on : Bool} (h : Cr wc wr M on) {d b vv : Nat} (hd : d < 2) (hb : b < 64) (hv : vv ≤ 60) : ∃ wc' wr' M' t, fG_storeList Lf wc 0 (nI d) (nI b) (nI vv) = some (wc', bI t) ∧ fM_storeList Lf wr 22 (nI d) (nI b) (nI vv) = some (wr', bI t) ∧ Cr wc' wr' M' (t && on) ∧ FCl wc wc' ∧ FRl wr wr' := by
  obtain ⟨eN, hpi, eMC, eMR⟩ := h.N
  obtain ⟨w4, g1, g2, g3⟩ := storeList_C wc hd hb (nI vv)
  rw [g3, storeList_R wr hd hb (nI vv), ← eN, eMC, eMR]
  rw [eMC] at g1
  have h4 : Cr w4 (up2 (rwset wr (lwf (NC wc) M d (b / 8)) 8) 32 (b % 8) (nI vv)) M on := h.cong (fun c hc => g2 c (by omega)) (fun c hc => by rw [up2_c _ _ (by omega), rwset_ne _ _ _ (by omega)]) (by rw [up2_c _ _ (by decide), rwset_ne _ _ _ (by decide)]) (by rw [up2_c _ _ (by decide), rwset_ne _ _ _ (by decide)])
  obtain ⟨wc', wr', t, e1, e2, e3, e4, e5⟩ := store_p h4 (d := 1 - d) (s := 64 + b / 8) (cw := 20) (by omega) (by omega) (by omega) (fun k hk => by
    rw [g1 k hk]
    by_cases e : k = b % 8
    · subst e; rw [up2_s, if_pos rfl]
    · rw [up2_i _ _ e, if_neg e]
      unfold rwset
      rw [if_pos ⟨rfl, hk⟩]) (fun _ k hk => by
    rw [g1 k hk]
    by_cases e : k = b % 8
    · rw [if_pos e]; exact ⟨vv, hv, rfl⟩
    · rw [if_neg e]; exact lwf_in hpi hd (by omega) k hk) (M (8 * (1 - d) + b / 8) + 1)
  rw [e1, e2, bd, bd]
  dsimp only
  rw [bI_if, bI_if]
  cases t with
  | false =>
    refine ⟨wc', wr', M, false, rfl, rfl, e3, fun c h1 h2 h3 h4 => ?_, fun c h1 h2 h3 h4 h5 h6 h7 h8 h9 => ?_, fun i h1 h2 => ?_⟩
    · rw [e4 c h1 h3, g2 c h4]
    · rw [e5.1 c h1 h2 h4 h5 h6 h7 h8 h9, up2_c _ _ h9, rwset_ne _ _ _ h9]
    · rw [e5.2 i h1 h2, up2_c _ _ (by decide), rwset_ne _ _ _ (by decide)]
  | true =>
    refine ⟨_, _, _, true, rfl, rfl, e3.mem (j := 8 * (1 - d) + b / 8) (by omega) (M (8 * (1 - d) + b / 8) + 1), fun c h1 h2 h3 h4 => ?_, fun c h1 h2 h3 h4 h5 h6 h7 h8 h9 => ?_, fun i h1 h2 => ?_⟩
    · rw [up2_c _ _ h2, e4 c h1 h3, g2 c h4]
    · rw [up2_c _ _ h3, e5.1 c h1 h2 h4 h5 h6 h7 h8 h9, up2_c _ _ h9, rwset_ne _ _ _ h9]
    · rw [up2_c _ _ (by decide), e5.2 i h1 h2, up2_c _ _ (by decide), rwset_ne _ _ _ (by decide)]
/-! copies -/
theorem storeRow_l (w : Wo) (x1 x2 x3 : Int32) : ∀ (j k m : Nat), k + j = 8 → bM_storeRow_3 Lf (m + (j + 1)) (rwset w (w 33) k) 22 x1 x2 x3 (nI k) = (fM_store Lf (rwset w (w 33) 8) 22 x1 x2 x3).bind fun q => zr q.1 q.2 := by
  intro j
  induction j with
  | zero =>
    intro k m hk
    have hk : k = 8 := by omega
    subst hk
    show bM_storeRow_3s Lf _ _ 22 _ _ _ _ = _
    unfold bM_storeRow_3s
    rw [if_pos (by rw [le_8 (by decide)]; omega)]
  | succ j ih =>
    intro k m hk
    show bM_storeRow_3s Lf _ _ 22 _ _ _ _ = _
    unfold bM_storeRow_3s
    rw [if_neg (by rw [le_8 (by omega)]; omega), gr22_18, bd, gr22_19, bd, ld33 _ (by omega), bd, st32 _ _ (by omega), bd, rwset_ne _ _ _ (by decide), rwset_s, ad_1]
    exact ih (k + 1) m (by omega)
theorem storeRow_R (w : Wo) (x1 x2 x3 : Int32) : fM_storeRow Lf w 22 x1 x2 x3 = (fM_store Lf (rwset w (w 33) 8) 22 x1 x2 x3).bind fun q => zr q.1 q.2 := by
  unfold fM_storeRow
  rw [isC22, gdt]
  have h := storeRow_l w x1 x2 x3 8 0 991 rfl
  rw [rwset_0] at h
  exact h
theorem storeRow_p {wc wr : Wo} {M : Nat → Int32} {on : Bool} (h : Cr wc wr M on) {d s cw : Nat} (hd : d < 2) (hs : s < 64) (hcw : cw = 15 ∨ cw = 20 ∨ cw = 21) (hw : ∀ k, k < 8 → wc cw k = wr 33 k) (v : Int32) : ∃ wc' wr' b, fG_store Lf wc 0 (nI d) (nI s) cw v = some (wc', bI b) ∧ fM_storeRow Lf wr 22 (nI d) (nI s) v = some (wr', bI b) ∧ Cr wc' wr' M (b && on) ∧ FCs wc wc' ∧ FRs wr wr' := by
  have h4 : Cr wc (rwset wr (wr 33) 8) M on := h.cong (fun c hc => rfl) (fun c hc => rwset_ne _ _ _ (by omega)) (by rw [rwset_ne _ _ _ (by decide)]) (by rw [rwset_ne _ _ _ (by decide)])
  obtain ⟨wc', wr', t, e1, e2, e3, e4, e5⟩ := store_p h4 (s := s) hd (by omega) hcw (fun k hk => by
    unfold rwset
    rw [if_pos ⟨rfl, hk⟩]
    exact hw k hk) (fun hs2 => absurd hs2 (by omega)) v
  refine ⟨wc', wr', t, e1, ?_, e3, e4, fun c h1 h2 h3 h4 h5 h6 h7 h8 => ?_, fun i h1 h2 => ?_⟩
  · rw [storeRow_R, e2, bd, zr_b]
  · rw [e5.1 c h1 h2 h3 h4 h5 h6 h7 h8, rwset_ne _ _ _ h8]
  · rw [e5.2 i h1 h2, rwset_ne _ _ _ (by decide)]
theorem putCopy_p {wc wr : Wo} {M : Nat → Int32} {on : Bool} (h : Cr wc wr M on) {d b cw vv : Nat} (hd : d < 2) (hb : b < 64) (hcw : cw = 15 ∨ cw = 20 ∨ cw = 21) (hw : ∀ k, k < 8 → wc cw k = wr 33 k) (hv : vv ≤ 60) : ∃ wc' wr' M' t, fG_putCopy Lf wc 0 (nI d) (nI b) cw (nI vv) = some (wc', bI t) ∧ fM_putCopy Lf wr 22 (nI d) (nI b) (nI vv) = some (wr', bI t) ∧ Cr wc' wr' M' (t && on) ∧ FCl wc wc' ∧ FRl wr wr' := by
  unfold fG_putCopy fM_putCopy
  rw [isC0, isC22, gdt, gdt]
  obtain ⟨wc1, wr1, t1, e1, e2, e3, e4, e5⟩ := storeRow_p h hd hb hcw hw (nI vv)
  rw [e1, e2, bd, bd]
  dsimp only
  rw [bI_if, bI_if]
  cases t1 with
  | false => exact ⟨wc1, wr1, M, false, rfl, rfl, e3, fun c h1 h2 h3 h4 => e4 c h1 h3, fun c h1 h2 h3 h4 h5 h6 h7 h8 h9 => e5.1 c h1 h2 h4 h5 h6 h7 h8 h9, fun i h1 h2 => e5.2 i h1 h2⟩
  | true =>
    have e3 : Cr wc1 wr1 M on := e3
    obtain ⟨wc2, wr2, M2, t2, g1, g2, g3, g4, g5⟩ := storeList_p e3 hd hb hv
    rw [if_pos rfl, if_pos rfl, g1, g2, bd, bd]
    dsimp only
    rw [bI_if, bI_if]
    refine ⟨wc2, wr2, M2, t2, ?_, ?_, g3, fun c h1 h2 h3 h4 => ?_, fun c h1 h2 h3 h4 h5 h6 h7 h8 h9 => ?_, fun i h1 h2 => ?_⟩
    · cases t2 <;> rfl
    · cases t2 <;> rfl
    · rw [g4 c h1 h2 h3 h4, e4 c h1 h3]
    · rw [g5.1 c h1 h2 h3 h4 h5 h6 h7 h8 h9, e5.1 c h1 h2 h4 h5 h6 h7 h8 h9]
    · rw [g5.2 i h1 h2, e5.2 i h1 h2]

/-! store: the drives' state on both sides, and what a write makes of it -/
def DC (w : Wo) (N : Nat → Nat → Int32) (lf : Int32) (on : Bool) (W : Nat → Int32) (n : Nat → Nat) (P : Nat → Pl) : Prop := NC w = N ∧ w 13 1 = lf ∧ w 13 0 = bI on ∧ ∀ d, d < 2 → w (dc d) 5 = W d ∧ w (dc d) 4 = nI (n d) ∧ Rep (n d) (w (dc d + 2)) (w (dc d + 3)) (w (dc d + 4)) (P d)
def DR (w : Wo) (N : Nat → Nat → Int32) (lf : Int32) (on : Bool) (W : Nat → Int32) (n : Nat → Nat) (P : Nat → Pl) : Prop := NR w = N ∧ w 22 7 = lf ∧ w 22 6 = bI (!on) ∧ ∀ d, d < 2 → w 26 d = W d ∧ w 27 d = nI (n d) ∧ Rep (n d) (fun i => w 28 (8 * d + i)) (fun i => w 29 (8 * d + i)) (fun i => w 30 (8 * d + i)) (P d)
def POK (P : Nat → Pl) : Prop := ∀ d, d < 2 → pok (P d)
def mkrow (ws : Nat → Int32) (s : Nat) (v : Int32) : Nat → Int32 := fun k => if k = 8 then mixf (mixf (sm8 ws 8) (nI s)) v else if k = 9 then nI s else if k = 10 then v else ws k
def lfn (lf : Int32) : Int32 := if lf ≤ 0 then lf else lf - 1
def N1 (N : Nat → Nat → Int32) (W : Nat → Int32) (P : Nat → Pl) (d s : Nat) (r : Nat → Int32) : Nat → Nat → Int32 := stN N (P d (W d + 1)) d s r
def W1 (W : Nat → Int32) (d : Nat) : Nat → Int32 := va_up W d (W d + 1)
def n1 (W : Nat → Int32) (n : Nat → Nat) (P : Nat → Pl) (d : Nat) : Nat → Nat := va_up n d (if P d (W d + 1) = none then n d else n d - 1)
def P1 (W : Nat → Int32) (P : Nat → Pl) (d : Nat) : Nat → Pl := va_up P d (ers (P d) (W d + 1))
theorem vup_s {α : Type} (f : Nat → α) (k : Nat) (v : α) : va_up f k v k = v := by unfold va_up; rw [if_pos rfl]
theorem vup_n {α : Type} (f : Nat → α) {k j : Nat} (v : α) (h : j ≠ k) : va_up f k v j = f j := by unfold va_up; rw [if_neg h]
theorem ers_pok {P : Pl} (h : pok P) (t : Int32) : pok (ers P t) := by
  intro u k x hu
  unfold ers at hu
  by_cases e : u = t
  · rw [if_pos e] at hu; cases hu
  · rw [if_neg e] at hu; exact h u k x hu
theorem P1_pok {W : Nat → Int32} {P : Nat → Pl} {d : Nat} (h : POK P) : POK (P1 W P d) := by
  intro e he
  unfold P1
  by_cases hed : e = d
  · subst hed; rw [vup_s]; exact ers_pok (h e he) _
  · rw [vup_n _ _ hed]; exact h e he
theorem sm8_congr {r r' : Nat → Int32} (h : ∀ i, i < 8 → r i = r' i) : sm8 r 8 = sm8 r' 8 := by
  have h8 : ∀ k, k ≤ 8 → sm8 r k = sm8 r' k := by
    intro k
    induction k with
    | zero => intro _; rfl
    | succ k ih =>
      intro hk
      show mixf (sm8 r k) (r k) = mixf (sm8 r' k) (r' k)
      rw [ih (by omega), h k (by omega)]
  exact h8 8 (by omega)
/-! the class -/
theorem allowsWrite_e (w : Wo) : fP_allowsWrite Lf w 13 = if w 13 1 = 0 then some (up2 w 13 0 0, 0) else some (if w 13 1 ≤ 0 then w else up2 w 13 1 (w 13 1 - 1), 1) := by
  unfold fP_allowsWrite
  rw [isC13, gdt, gi13_1, bd, pf13_0, bd, zr0, bd, bd, pf13_1, bd, zr1, zr1]
  by_cases h : w 13 1 = 0 <;> by_cases h2 : w 13 1 ≤ 0 <;> simp [h, h2]
theorem storeC_cut {w : Wo} {N : Nat → Nat → Int32} {on : Bool} {W : Nat → Int32} {n : Nat → Nat} {P : Nat → Pl} (h : DC w N 0 on W n P) (x1 x2 x4 : Int32) (c3 : Nat) : fG_store Lf w 0 x1 x2 c3 x4 = some (up2 w 13 0 0, 0) ∧ DC (up2 w 13 0 0) N 0 false W n P := by
  refine ⟨?_, ?_⟩
  · unfold fG_store
    rw [isC0, gdt, gr0_2, bd, allowsWrite_e, if_pos h.2.1, bd]
    rfl
  · refine ⟨?_, ?_, ?_, fun d hd => ?_⟩
    · rw [NC_congr (up2_c _ _ (by decide)) (up2_c _ _ (by decide))]; exact h.1
    · rw [up2_i _ _ (by decide)]; exact h.2.1
    · rw [up2_s]; rfl
    · have := dc01 d
      rw [up2_c (d := dc d) _ _ (by omega), up2_c (d := dc d + 2) _ _ (by omega), up2_c (d := dc d + 3) _ _ (by omega), up2_c (d := dc d + 4) _ _ (by omega)]
      exact h.2.2.2 d hd
theorem storeC {w : Wo} {N : Nat → Nat → Int32} {lf : Int32} {on : Bool} {W : Nat → Int32} {n : Nat → Nat} {P : Nat → Pl} (h : DC w N lf on W n P) (hl : ¬ lf = 0) (hp : POK P) {d s cw : Nat} (hd : d < 2) (hs : s < 72) (hcw : cw = 15 ∨ cw = 20 ∨ cw = 21) (v : Int32) : ∃ w', fG_store Lf w 0 (nI d) (nI s) cw v = some (w', 1) ∧ DC w' (N1 N W P d s (mkrow (w cw) s v)) (lfn lf) on (W1 W d) (n1 W n P d) (P1 W P d) ∧ ∀ c, c = 0 ∨ 14 ≤ c → c ≠ 19 → w' c = w c := by
  obtain ⟨hN, hlf, hon, hdr⟩ := h
  have hac : ar cw = some 8 := by rcases hcw with rfl | rfl | rfl <;> rfl
  unfold fG_store
  rw [isC0, gdt, gr0_2, bd, allowsWrite_e, if_neg (by rw [hlf]; exact hl), bd]
  dsimp only
  obtain ⟨w2, hw2⟩ : ∃ z, z = (if w 13 1 ≤ 0 then w else up2 w 13 1 (w 13 1 - 1)) := ⟨_, rfl⟩
  rw [← hw2, if_neg (by decide +kernel), gr0_8, bd]
  have h13 : w2 13 1 = lfn lf ∧ w2 13 0 = bI on ∧ ∀ c, c ≠ 13 → w2 c = w c := by
    rw [hw2]
    unfold lfn
    rw [← hlf]
    by_cases hz : w 13 1 ≤ 0
    · rw [if_pos hz, if_pos hz]; exact ⟨rfl, hon, fun c _ => rfl⟩
    · rw [if_neg hz, if_neg hz]; exact ⟨up2_s _ _ _ _, by rw [up2_i _ _ (by decide)]; exact hon, fun c hc => up2_c _ _ hc⟩
  show ∃ w', ((cp Lf w2 cw (nI 0) 19 (nI 0) (nI 8)).bind fun w5 => (gr Lf 0 4 8).bind fun r6 => (st Lf w5 r6 (nI 9) (nI s)).bind fun w7 => (gr Lf 0 4 8).bind fun r8 => (st Lf w7 r8 (nI 10) v).bind fun w9 => (gr Lf 0 4 8).bind fun r10 => (gr Lf 0 4 8).bind fun r11 => (fG_sumOf Lf w9 r11 (nI 0)).bind fun q12 => (st Lf q12.1 r10 (nI 8) q12.2).bind fun w13 => (fG_driveOf Lf w13 0 (nI d)).bind fun q14 => (gr Lf 0 4 8).bind fun r15 => (fD_take Lf q14.1 q14.2 (nI s) r15).bind fun w16 => zr w16 1) = some (w', 1) ∧ _
  rw [cp_n w2 (by rcases hcw with rfl | rfl | rfl <;> decide) (by decide) hac (nb := 11) rfl (by decide) (by decide) (by omega) (by omega), bd, gr0_8, bd, st19 _ _ (by omega), bd, bd, st19 _ _ (by omega), bd, bd, bd, sumOf_e _ 19 0 11 (by decide) rfl (by decide) (by omega), bd]
  dsimp only
  rw [st19 _ _ (by omega), bd, driveOf_e _ hd, bd, bd]
  dsimp only
  obtain ⟨w9, hw9⟩ : ∃ z, z = up2 (up2 (cpw w2 cw 0 19 0 8) 19 9 (nI s)) 19 10 v := ⟨_, rfl⟩
  rw [← hw9]
  have r9 : ∀ k, k < 8 → w9 19 k = w cw k := fun k hk => by
    rw [hw9, up2_i _ _ (by omega), up2_i _ _ (by omega), cpw_eq]
    unfold va_cpy
    rw [if_pos (by omega), h13.2.2 cw (by omega)]
    congr 1
    omega
  have r9a : w9 19 9 = nI s := by rw [hw9, up2_i _ _ (by omega), up2_s]
  have r9b : w9 19 10 = v := by rw [hw9, up2_s]
  have hsum : sm (fun i => w9 19 (0 + i)) = mixf (mixf (sm8 (w cw) 8) (nI s)) v := by
    unfold sm
    rw [sm8_congr (r' := w cw) (fun i hi => by rw [Nat.zero_add]; exact r9 i hi)]
    show mixf (mixf _ (w9 19 (0 + 9))) (w9 19 (0 + 10)) = _
    rw [Nat.zero_add, Nat.zero_add, r9a, r9b]
  rw [hsum]
  obtain ⟨w13, hw13⟩ : ∃ z, z = up2 w9 19 8 (mixf (mixf (sm8 (w cw) 8) (nI s)) v) := ⟨_, rfl⟩
  rw [← hw13]
  have hfr : ∀ c, c ≠ 13 → c ≠ 19 → w13 c = w c := fun c h1 h2 => by
    rw [hw13, up2_c _ _ h2, hw9, up2_c _ _ h2, up2_c _ _ h2, cpw_ne _ h2, h13.2.2 c h1]
  have hf13 : w13 13 = w2 13 := by rw [hw13, up2_c _ _ (by decide), hw9, up2_c _ _ (by decide), up2_c _ _ (by decide), cpw_ne _ (by decide)]
  have hrow : ∀ k, k < 11 → w13 19 k = mkrow (w cw) s v k := fun k hk => by
    unfold mkrow
    rw [hw13]
    by_cases h8 : k = 8
    · subst h8; rw [up2_s, if_pos rfl]
    · rw [up2_i _ _ h8, if_neg h8]
      by_cases h9 : k = 9
      · subst h9; rw [if_pos rfl, r9a]
      · rw [if_neg h9]
        by_cases h10 : k = 10
        · subst h10; rw [if_pos rfl, r9b]
        · rw [if_neg h10, r9 k (by omega)]
  have hdd := dc01 d
  obtain ⟨gW, gn, gr⟩ := hdr d hd
  obtain ⟨w', e1, e2, e3, e4, e5, e6⟩ := take_e w13 hd hs (P := P d) (n := n d) (by rw [hfr _ (by omega) (by omega)]; exact gn) (by rw [hfr _ (by omega) (by omega), hfr _ (by omega) (by omega), hfr _ (by omega) (by omega)]; exact gr) (hp d hd)
  rw [e1, bd, zr1]
  have hWd : w13 (dc d) 5 = W d := by rw [hfr _ (by omega) (by omega)]; exact gW
  rw [hWd] at e2 e3 e4 e5
  refine ⟨w', rfl, ⟨?_, ?_, ?_, fun e he => ?_⟩, fun c h1 h2 => ?_⟩
  · rw [e2, NC_congr (w := w) (w' := w13) (hfr 2 (by decide) (by decide)) (hfr 8 (by decide) (by decide)), hN]
    exact stN_congr N (hp d hd) _ d s hrow
  · rw [e6 13 (by omega) (by omega) (by omega) (by omega) (by omega), hf13]; exact h13.1
  · rw [e6 13 (by omega) (by omega) (by omega) (by omega) (by omega), hf13]; exact h13.2.1
  · unfold W1 n1 P1
    by_cases hed : e = d
    · subst hed
      rw [vup_s, vup_s, vup_s]
      exact ⟨e3, e4, e5⟩
    · rw [vup_n _ _ hed, vup_n _ _ hed, vup_n _ _ hed]
      have hee := dc01 e
      have hne : dc e ≠ dc d := fun q => hed (dc_inj he hd q)
      have key : ∀ c, c = dc e ∨ c = dc e + 2 ∨ c = dc e + 3 ∨ c = dc e + 4 → w' c = w c := fun c hc => by
        rw [e6 c (by omega) (by omega) (by omega) (by omega) (by omega), hfr c (by omega) (by omega)]
      rw [key _ (Or.inl rfl), key _ (Or.inr (Or.inl rfl)), key _ (Or.inr (Or.inr (Or.inl rfl))), key _ (Or.inr (Or.inr (Or.inr rfl)))]
      exact hdr e he
  · rw [e6 c (by omega) (by omega) (by omega) (by omega) (by omega), hfr c (by omega) h2]
/-! the reference -/
theorem storeR_l (w : Wo) (d s : Nat) (v : Int32) : ∀ (j k m : Nat), k + j = 8 → bM_store_60 Lf (m + (j + 1)) w 22 (nI d) (nI s) v (sm8 (w 32) k) (nI k) = tkR (up2 w 32 8 (mixf (mixf (sm8 (w 32) 8) (nI s)) v)) (nI d) (nI s) := by
  intro j
  induction j with
  | zero =>
    intro k m hk
    have hk : k = 8 := by omega
    subst hk
    show bM_store_60s Lf _ w 22 _ _ _ _ _ = _
    unfold bM_store_60s
    rw [if_pos (by rw [le_8 (by decide)]; omega), gr22_18, bd, mix_e, bd]
    dsimp only
    rw [mix_e, bd]
    show ((st Lf w 32 (nI 8) _).bind fun w5 => tkR w5 (nI d) (nI s)) = _
    rw [st32 _ _ (by omega), bd]
  | succ j ih =>
    intro k m hk
    show bM_store_60s Lf _ w 22 _ _ _ _ _ = _
    unfold bM_store_60s
    rw [if_neg (by rw [le_8 (by omega)]; omega), gr22_18, bd, ld32 w (by omega), bd, mix_e, bd]
    dsimp only
    rw [ad_1]
    exact ih (k + 1) m (by omega)
theorem storeR_cut {w : Wo} {N : Nat → Nat → Int32} {on : Bool} {W : Nat → Int32} {n : Nat → Nat} {P : Nat → Pl} (h : DR w N 0 on W n P) (x1 x2 x3 : Int32) : fM_store Lf w 22 x1 x2 x3 = some (up2 w 22 6 1, 0) ∧ DR (up2 w 22 6 1) N 0 false W n P := by
  refine ⟨?_, ?_⟩
  · unfold fM_store
    rw [isC22, gdt, gi22_7, bd, if_pos h.2.1, pf22_6, bd]
    rfl
  · refine ⟨?_, ?_, ?_, fun d hd => ?_⟩
    · rw [NR_congr (up2_c _ _ (by decide))]; exact h.1
    · rw [up2_i _ _ (by decide)]; exact h.2.1
    · rw [up2_s]; rfl
    · rw [up2_c (d := 26) _ _ (by decide), up2_c (d := 27) _ _ (by decide), up2_c (d := 28) _ _ (by decide), up2_c (d := 29) _ _ (by decide), up2_c (d := 30) _ _ (by decide)]
      exact h.2.2.2 d hd
theorem storeR {w : Wo} {N : Nat → Nat → Int32} {lf : Int32} {on : Bool} {W : Nat → Int32} {n : Nat → Nat} {P : Nat → Pl} (h : DR w N lf on W n P) (hl : ¬ lf = 0) (hp : POK P) {d s : Nat} (hd : d < 2) (hs : s < 72) (v : Int32) : ∃ w', fM_store Lf w 22 (nI d) (nI s) v = some (w', 1) ∧ DR w' (N1 N W P d s (mkrow (w 32) s v)) (lfn lf) on (W1 W d) (n1 W n P d) (P1 W P d) ∧ (∀ c, c ≠ 22 → c ≠ 23 → c ≠ 26 → c ≠ 27 → c ≠ 28 → c ≠ 29 → c ≠ 30 → c ≠ 32 → w' c = w c) ∧ ∀ i, i ≠ 7 → w' 22 i = w 22 i := by
  obtain ⟨hN, hlf, hon, hdr⟩ := h
  have hst : fM_store Lf w 22 (nI d) (nI s) v = bM_store_35 Lf w 22 (nI d) (nI s) v 22 (lfn lf) := by
    unfold fM_store lfn
    rw [isC22, gdt, gi22_7, bd, if_neg (by rw [hlf]; exact hl), bd, bd, bd, ← hlf]
    by_cases hz : w 22 7 ≤ 0
    · rw [if_pos hz, if_pos hz]
    · rw [if_neg hz, if_neg hz]
  rw [hst]
  unfold bM_store_35
  rw [pf22_7, bd, gr22_18, bd]
  show ∃ w', ((st Lf (up2 w 22 7 (lfn lf)) 32 (nI 9) (nI s)).bind fun w26 => (gr Lf 22 5 18).bind fun r27 => (st Lf w26 r27 (nI 10) v).bind fun w28 => bM_store_60 Lf 1000 w28 22 (nI d) (nI s) v 0 0) = some (w', 1) ∧ _
  rw [st32 _ _ (by omega), bd, gr22_18, bd, st32 _ _ (by omega), bd]
  obtain ⟨w9, hw9⟩ : ∃ z, z = up2 (up2 (up2 w 22 7 (lfn lf)) 32 9 (nI s)) 32 10 v := ⟨_, rfl⟩
  rw [← hw9]
  have r9 : ∀ k, k < 8 → w9 32 k = w 32 k := fun k hk => by
    rw [hw9, up2_i _ _ (by omega), up2_i _ _ (by omega), up2_c _ _ (by decide)]
  have r9a : w9 32 9 = nI s := by rw [hw9, up2_i _ _ (by omega), up2_s]
  have r9b : w9 32 10 = v := by rw [hw9, up2_s]
  have h60 := storeR_l w9 d s v 8 0 991 rfl
  rw [sm8_congr (r := w9 32) (r' := w 32) r9] at h60
  have h60' : bM_store_60 Lf 1000 w9 22 (nI d) (nI s) v 0 0 = tkR (up2 w9 32 8 (mixf (mixf (sm8 (w 32) 8) (nI s)) v)) (nI d) (nI s) := h60
  rw [h60']
  obtain ⟨w13, hw13⟩ : ∃ z, z = up2 w9 32 8 (mixf (mixf (sm8 (w 32) 8) (nI s)) v) := ⟨_, rfl⟩
  rw [← hw13]
  have hfr : ∀ c, c ≠ 22 → c ≠ 32 → w13 c = w c := fun c h1 h2 => by
    rw [hw13, up2_c _ _ h2, hw9, up2_c _ _ h2, up2_c _ _ h2, up2_c _ _ h1]
  have h22 : w13 22 = up2 w 22 7 (lfn lf) 22 := by rw [hw13, up2_c _ _ (by decide), hw9, up2_c _ _ (by decide), up2_c _ _ (by decide)]
  have hrow : ∀ k, k < 11 → w13 32 k = mkrow (w 32) s v k := fun k hk => by
    unfold mkrow
    rw [hw13]
    by_cases h8 : k = 8
    · subst h8; rw [up2_s, if_pos rfl]
    · rw [up2_i _ _ h8, if_neg h8]
      by_cases h9 : k = 9
      · subst h9; rw [if_pos rfl, r9a]
      · rw [if_neg h9]
        by_cases h10 : k = 10
        · subst h10; rw [if_pos rfl, r9b]
        · rw [if_neg h10, r9 k (by omega)]
  obtain ⟨gW, gn, gr⟩ := hdr d hd
  obtain ⟨w', e1, e2, e3, e4, e5, e6, e7⟩ := tkR_e w13 hd hs (P := P d) (n := n d) (by rw [hfr _ (by decide) (by decide)]; exact gn) (by rw [hfr _ (by decide) (by decide), hfr _ (by decide) (by decide), hfr _ (by decide) (by decide)]; exact gr) (hp d hd)
  have hWd : w13 26 d = W d := by rw [hfr _ (by decide) (by decide)]; exact gW
  rw [hWd] at e2 e3 e4 e5
  refine ⟨w', e1, ⟨?_, ?_, ?_, fun e he => ?_⟩, fun c g1 g2 g3 g4 g5 g6 g7 g8 => ?_, fun i hi => ?_⟩
  · rw [e2, NR_congr (w := w) (w' := w13) (hfr 23 (by decide) (by decide)), hN]
    exact stN_congr N (hp d hd) _ d s hrow
  · rw [e7 22 (by decide) (by decide) (by decide) (by decide) (by decide) (by decide), h22, up2_s]
  · rw [e7 22 (by decide) (by decide) (by decide) (by decide) (by decide) (by decide), h22, up2_i _ _ (by decide)]; exact hon
  · unfold W1 n1 P1
    by_cases hed : e = d
    · subst hed
      rw [vup_s, vup_s, vup_s]
      exact ⟨e3, e4, e5⟩
    · rw [vup_n _ _ hed, vup_n _ _ hed, vup_n _ _ hed]
      obtain ⟨k1, k2, k3⟩ := e6 e he hed
      obtain ⟨q1, q2, q3⟩ := hdr e he
      refine ⟨?_, ?_, ?_⟩
      · rw [k1, hfr _ (by decide) (by decide)]; exact q1
      · rw [k2, hfr _ (by decide) (by decide)]; exact q2
      · refine q3.congr (fun i hi => ?_) (fun i hi => ?_) (fun i hi => ?_)
        · have := q3.1
          rw [(k3 i (by omega)).1, hfr _ (by decide) (by decide)]
        · have := q3.1
          rw [(k3 i (by omega)).2.1, hfr _ (by decide) (by decide)]
        · have := q3.1
          rw [(k3 i (by omega)).2.2, hfr _ (by decide) (by decide)]
  · rw [e7 c g2 g3 g4 g5 g6 g7, hfr c g1 g8]
  · rw [e7 22 (by decide) (by decide) (by decide) (by decide) (by decide) (by decide), h22, up2_i _ _ hi]

/-! storing a row: the drive's numbers behind it, on both sides -/
def upN (N : Nat → Nat → Int32) (d s len : Nat) (r : Nat → Int32) : Nat → Nat → Int32 := fun e j => if e = d ∧ 11 * s ≤ j ∧ j < 11 * s + len then r (j - 11 * s) else N e j
theorem upN_congr (N : Nat → Nat → Int32) (d s len : Nat) {r r' : Nat → Int32} (h : ∀ k, k < len → r k = r' k) : upN N d s len r = upN N d s len r' := by
  funext e j
  unfold upN
  by_cases hc : e = d ∧ 11 * s ≤ j ∧ j < 11 * s + len
  · rw [if_pos hc, if_pos hc, h _ (by omega)]
  · rw [if_neg hc, if_neg hc]
def stN (N : Nat → Nat → Int32) (o : Option (Int32 × Int32)) (d s : Nat) (r : Nat → Int32) : Nat → Nat → Int32 := match o with
  | none => upN N d s 11 r
  | some q => if q.1 = 1 then upN N d q.2.toNatClampNeg 11 r else if q.1 = 2 then upN N d s q.2.toNatClampNeg r else N
def pok (P : Pl) : Prop := ∀ t k x, P t = some (k, x) → (k = 1 → ∃ m, m < 72 ∧ x = nI m) ∧ (k = 2 → ∃ m, m ≤ 10 ∧ x = nI m)
theorem stN_congr (N : Nat → Nat → Int32) {P : Pl} (hp : pok P) (t : Int32) (d s : Nat) {r r' : Nat → Int32} (h : ∀ k, k < 11 → r k = r' k) : stN N (P t) d s r = stN N (P t) d s r' := by
  cases ho : P t with
  | none => exact upN_congr N d s 11 h
  | some q =>
    obtain ⟨k, x⟩ := q
    show (if k = 1 then upN N d x.toNatClampNeg 11 r else if k = 2 then upN N d s x.toNatClampNeg r else N) = (if k = 1 then upN N d x.toNatClampNeg 11 r' else if k = 2 then upN N d s x.toNatClampNeg r' else N)
    rw [upN_congr N d x.toNatClampNeg 11 h]
    by_cases h2 : k = 2
    · obtain ⟨m, hm, rfl⟩ := (hp t k x ho).2 h2
      rw [upN_congr N d s _ (r' := r') (fun j hj => h j (by rw [nI_clamp (by omega)] at hj; omega))]
    · rw [if_neg h2, if_neg h2]
theorem ers_none {P : Pl} {t : Int32} (h : P t = none) : ers P t = P := by
  funext u
  unfold ers
  by_cases e : u = t
  · rw [if_pos e, e, h]
  · rw [if_neg e]
theorem NC_congr {w w' : Wo} (h2 : w' 2 = w 2) (h8 : w' 8 = w 8) : NC w' = NC w := by
  funext d j
  unfold NC
  by_cases h : d < 2 ∧ j < 792
  · rw [if_pos h, if_pos h]
    rcases dc01 d with e | e <;> rw [e]
    · exact congrFun h2 j
    · exact congrFun h8 j
  · rw [if_neg h, if_neg h]
theorem NR_congr {w w' : Wo} (h : w' 23 = w 23) : NR w' = NR w := by
  funext d j
  unfold NR
  rw [h]
/-! the class -/
theorem cp_n {a b i j n na nb : Nat} (w : Wo) (ha : a < 35) (hb : b < 35) (hna : ar a = some na) (hnb : ar b = some nb) (h1 : na ≤ 1584) (h2 : nb ≤ 1584) (hi : i + n ≤ na) (hj : j + n ≤ nb) : cp Lf w a (nI i) b (nI j) (nI n) = some (cpw w a i b j n) := by
  unfold cp
  have : cpk Lf a (nI i) b (nI j) (nI n) = true := by
    unfold cpk
    rw [hna, hnb]
    show (decide (a < 35) && decide (b < 35) && !decide (nI i < 0) && !decide (nI j < 0) && !decide (nI n < 0) && decide ((nI i).toNatClampNeg + (nI n).toNatClampNeg ≤ na) && decide ((nI j).toNatClampNeg + (nI n).toNatClampNeg ≤ nb)) = true
    rw [nI_clamp (by omega), nI_clamp (by omega), nI_clamp (by omega), decide_eq_true ha, decide_eq_true hb, decide_eq_false (nI_pos (by omega)), decide_eq_false (nI_pos (by omega)), decide_eq_false (nI_pos (by omega)), decide_eq_true hi, decide_eq_true hj]
    rfl
  rw [if_pos this, nI_clamp (by omega), nI_clamp (by omega), nI_clamp (by omega)]
theorem keep_e (w : Wo) {d s len : Nat} (hs : s < 72) (hl : len ≤ 11) : fD_keep Lf w (dc d) (nI s) 19 (nI len) = some (cpw w 19 0 (dc d + 1) (11 * s) len) := by
  unfold fD_keep
  rw [isCD, gdt, grD_0, bd, um_11]
  show ((cp Lf w 19 (nI 0) (dc d + 1) (nI (s * 11)) (nI len)).bind fun w2 => some w2) = _
  rw [cp_n w (by decide) (by have := (arD d).2.2.2.2; omega) (na := 11) rfl (arD d).1 (by decide) (by decide) (by omega) (by omega), bd, show s * 11 = 11 * s by omega]
theorem dc_inj {d e : Nat} (hd : d < 2) (he : e < 2) (h : dc d = dc e) : d = e := by
  rcases (show d = 0 ∨ d = 1 by omega) with rfl | rfl <;> rcases (show e = 0 ∨ e = 1 by omega) with rfl | rfl <;> first | rfl | exact absurd h (by decide)
theorem NC_keep (w : Wo) {d s len : Nat} (hd : d < 2) (hs : s < 72) (hl : len ≤ 11) : NC (cpw w 19 0 (dc d + 1) (11 * s) len) = upN (NC w) d s len (w 19) := by
  funext e j
  unfold upN NC
  by_cases h : e < 2 ∧ j < 792
  · rw [if_pos h, if_pos h]
    by_cases hed : e = d
    · subst hed
      rw [cpw_eq]
      unfold va_cpy
      by_cases hj : 11 * s ≤ j ∧ j < 11 * s + len
      · rw [if_pos hj, if_pos ⟨rfl, hj⟩, Nat.zero_add]
      · rw [if_neg hj, if_neg (fun q => hj q.2)]
    · rw [cpw_ne _ (fun q => hed (dc_inj h.1 hd (by omega))), if_neg (fun q => hed q.1)]
  · rw [if_neg h, if_neg h, if_neg (fun q => h (by omega))]
theorem take_e (w : Wo) {d s n : Nat} (hd : d < 2) (hs : s < 72) {P : Pl} (hn : w (dc d) 4 = nI n) (hr : Rep n (w (dc d + 2)) (w (dc d + 3)) (w (dc d + 4)) P) (hp : pok P) : ∃ w', fD_take Lf w (dc d) (nI s) 19 = some w' ∧ NC w' = stN (NC w) (P (w (dc d) 5 + 1)) d s (w 19) ∧ w' (dc d) 5 = w (dc d) 5 + 1 ∧ w' (dc d) 4 = nI (if P (w (dc d) 5 + 1) = none then n else n - 1) ∧ Rep (if P (w (dc d) 5 + 1) = none then n else n - 1) (w' (dc d + 2)) (w' (dc d + 3)) (w' (dc d + 4)) (ers P (w (dc d) 5 + 1)) ∧ ∀ c, c ≠ dc d → c ≠ dc d + 1 → c ≠ dc d + 2 → c ≠ dc d + 3 → c ≠ dc d + 4 → w' c = w c := by
  obtain ⟨r, e0, hres⟩ := planOfNext_e w d n 1 hn hr.1
  have hdc := dc01 d
  unfold fD_take
  rw [isCD, gdt, e0, bd]
  dsimp only
  rw [giD_5, bd, pfD_5, bd]
  have hNC : ∀ w0 : Wo, ∀ x, NC (up2 w0 (dc d) 5 x) = NC w0 := fun w0 x => NC_congr (up2_c _ _ (by omega)) (up2_c _ _ (by omega))
  rcases hres with ⟨rfl, hno⟩ | ⟨i, hi, rfl, hit⟩
  · have hP : P (w (dc d) 5 + 1) = none := hr.non hno
    rw [if_pos rfl]
    show ∃ w', ((fD_keep Lf (up2 w (dc d) 5 (w (dc d) 5 + 1)) (dc d) (nI s) 19 (nI 11)).bind fun w14 => some w14) = some w' ∧ _
    rw [keep_e _ hs (by omega), bd]
    refine ⟨_, rfl, ?_, ?_, ?_, ?_, ?_⟩
    · rw [NC_keep _ hd hs (by omega), hNC, up2_c _ _ (by omega), hP]
      rfl
    · rw [cpw_ne _ (by omega), up2_s]
    · rw [cpw_ne _ (by omega), up2_i _ _ (by omega), if_pos hP]
      exact hn
    · rw [if_pos hP, ers_none hP, cpw_ne _ (by omega), cpw_ne _ (by omega), cpw_ne _ (by omega), up2_c (d := dc d + 2) _ _ (by omega), up2_c (d := dc d + 3) _ _ (by omega), up2_c (d := dc d + 4) _ _ (by omega)]
      exact hr
    · intro c h0 h1 h2 h3 h4
      rw [cpw_ne _ h1, up2_c _ _ h0]
  · have hP : P (w (dc d) 5 + 1) = some (w (dc d + 3) i, w (dc d + 4) i) := hr.at hi hit
    have hPn : ¬ P (w (dc d) 5 + 1) = none := fun q => by rw [hP] at q; cases q
    have h8 := hr.1
    rw [if_neg (neg1 (by omega)), grD_2, bd, ldD3 _ d (by omega), bd, grD_3, bd, ldD4 _ d (by omega), bd, up2_c (d := dc d + 3) _ _ (by omega), up2_c (d := dc d + 4) _ _ (by omega)]
    obtain ⟨w9, e9, g4, g5, gw, gk, gx, gf⟩ := removePlan_e (up2 w (dc d) 5 (w (dc d) 5 + 1)) d n i (by rw [up2_i _ _ (by omega)]; exact hn) h8 hi
    rw [e9, bd]
    rw [up2_s] at g5
    rw [up2_c (d := dc d + 2) _ _ (by omega)] at gw
    rw [up2_c (d := dc d + 3) _ _ (by omega)] at gk
    rw [up2_c (d := dc d + 4) _ _ (by omega)] at gx
    have hN9 : NC w9 = NC w := by
      rw [← hNC w (w (dc d) 5 + 1)]
      exact NC_congr (gf 2 (by omega) (by omega) (by omega) (by omega)) (gf 8 (by omega) (by omega) (by omega) (by omega))
    have h19 : w9 19 = w 19 := by
      rw [gf 19 (by omega) (by omega) (by omega) (by omega), up2_c _ _ (by omega)]
    have hrep : Rep (n - 1) (w9 (dc d + 2)) (w9 (dc d + 3)) (w9 (dc d + 4)) (ers P (w (dc d) 5 + 1)) := by
      have h := hr.swap hi gw gk gx
      rw [hit] at h
      exact h
    have fin : ∀ (s' len : Nat), s' < 72 → len ≤ 11 → stN (NC w) (P (w (dc d) 5 + 1)) d s (w 19) = upN (NC w) d s' len (w 19) → ∃ w', ((fD_keep Lf w9 (dc d) (nI s') 19 (nI len)).bind fun w13 => some w13) = some w' ∧ NC w' = stN (NC w) (P (w (dc d) 5 + 1)) d s (w 19) ∧ w' (dc d) 5 = w (dc d) 5 + 1 ∧ w' (dc d) 4 = nI (if P (w (dc d) 5 + 1) = none then n else n - 1) ∧ Rep (if P (w (dc d) 5 + 1) = none then n else n - 1) (w' (dc d + 2)) (w' (dc d + 3)) (w' (dc d + 4)) (ers P (w (dc d) 5 + 1)) ∧ ∀ c, c ≠ dc d → c ≠ dc d + 1 → c ≠ dc d + 2 → c ≠ dc d + 3 → c ≠ dc d + 4 → w' c = w c := by
      intro s' len hs' hl' hst
      rw [keep_e _ hs' hl', bd]
      refine ⟨_, rfl, ?_, ?_, ?_, ?_, ?_⟩
      · rw [NC_keep _ hd hs' hl', hN9, h19, hst]
      · rw [cpw_ne _ (by omega), g5]
      · rw [cpw_ne _ (by omega), if_neg hPn]; exact g4
      · rw [if_neg hPn, cpw_ne _ (by omega), cpw_ne _ (by omega), cpw_ne _ (by omega)]
        exact hrep
      · intro c h0 h1 h2 h3 h4
        rw [cpw_ne _ h1, gf c h0 h2 h3 h4, up2_c _ _ h0]
    by_cases hk1 : w (dc d + 3) i = 1
    · obtain ⟨m, hm, hxm⟩ := (hp _ _ _ hP).1 hk1
      rw [if_pos hk1, hxm]
      refine fin m 11 hm (by omega) ?_
      rw [hP]
      show (if w (dc d + 3) i = 1 then upN (NC w) d (w (dc d + 4) i).toNatClampNeg 11 (w 19) else _) = _
      rw [if_pos hk1, hxm, nI_clamp (by omega)]
    · rw [if_neg hk1]
      by_cases hk2 : w (dc d + 3) i = 2
      · obtain ⟨m, hm, hxm⟩ := (hp _ _ _ hP).2 hk2
        rw [if_pos hk2, hxm]
        refine fin s m hs (by omega) ?_
        rw [hP]
        show (if w (dc d + 3) i = 1 then _ else if w (dc d + 3) i = 2 then upN (NC w) d s (w (dc d + 4) i).toNatClampNeg (w 19) else _) = _
        rw [if_neg hk1, if_pos hk2, hxm, nI_clamp (by omega)]
      · rw [if_neg hk2]
        refine ⟨w9, rfl, ?_, g5, ?_, ?_, ?_⟩
        · rw [hN9, hP]
          show _ = (if w (dc d + 3) i = 1 then _ else if w (dc d + 3) i = 2 then _ else NC w)
          rw [if_neg hk1, if_neg hk2]
        · rw [if_neg hPn]; exact g4
        · rw [if_neg hPn]; exact hrep
        · intro c h0 h1 h2 h3 h4
          rw [gf c h0 h2 h3 h4, up2_c _ _ h0]
/-! the reference -/
def layw (w : Wo) (a len : Nat) : Wo := fun c j => if c = 23 ∧ a ≤ j ∧ j < a + len then w 32 (j - a) else w c j
theorem layw_ne (w : Wo) (a len : Nat) {c : Nat} (h : c ≠ 23) : layw w a len c = w c := by
  funext j
  unfold layw
  rw [if_neg (fun q => h q.1)]
theorem lay_l (w : Wo) {d s len : Nat} (hd : d < 2) (hs : s < 72) (hl : len ≤ 11) : ∀ (j k m : Nat), k + j = len → bM_lay_3 Lf (m + (j + 1)) (layw w (11 * (72 * d + s)) k) 22 (nI d) (nI s) (nI len) (nI k) = some (layw w (11 * (72 * d + s)) len) := by
  intro j
  induction j with
  | zero =>
    intro k m hk
    have hk : k = len := by omega
    subst hk
    show bM_lay_3s Lf _ _ 22 _ _ _ _ = _
    unfold bM_lay_3s
    rw [if_pos (nI_le (by omega) (by omega))]
  | succ j ih =>
    intro k m hk
    have hst : up2 (layw w (11 * (72 * d + s)) k) 23 (11 * (72 * d + s) + k) (w 32 k) = layw w (11 * (72 * d + s)) (k + 1) := by
      funext c i
      by_cases hc : c = 23
      · subst hc
        by_cases hi : i = 11 * (72 * d + s) + k
        · subst hi
          rw [up2_s]
          unfold layw
          rw [if_pos (by omega), show 11 * (72 * d + s) + k - 11 * (72 * d + s) = k by omega]
        · rw [up2_i _ _ hi]
          unfold layw
          by_cases hh : 11 * (72 * d + s) ≤ i ∧ i < 11 * (72 * d + s) + k
          · rw [if_pos ⟨rfl, hh⟩, if_pos (by omega)]
          · rw [if_neg (fun q => hh q.2), if_neg (by omega)]
      · rw [up2_c _ _ hc, layw_ne _ _ _ hc, layw_ne _ _ _ hc]
    show bM_lay_3s Lf _ _ 22 _ _ _ _ = _
    unfold bM_lay_3s
    rw [if_neg (nI_ge (by omega) (by omega)), gr22_1, bd, place_e, bd]
    dsimp only
    rw [gr22_18, bd, ld32 _ (by omega), bd, nI_add, st23 _ _ (by omega), bd, layw_ne w _ _ (by decide), hst, ad_1]
    exact ih (k + 1) m (by omega)
theorem lay_e (w : Wo) {d s len : Nat} (hd : d < 2) (hs : s < 72) (hl : len ≤ 11) : fM_lay Lf w 22 (nI d) (nI s) (nI len) = some (layw w (11 * (72 * d + s)) len) := by
  unfold fM_lay
  rw [isC22, gdt, show (1000 : Nat) = (999 - len) + (len + 1) by omega]
  have h := lay_l w hd hs hl len 0 (999 - len) (by omega)
  rw [show layw w (11 * (72 * d + s)) 0 = w from by
    funext c j
    unfold layw
    rw [if_neg (by omega)]] at h
  exact h
theorem NR_lay (w : Wo) {d s len : Nat} (hd : d < 2) (hs : s < 72) (hl : len ≤ 11) : NR (layw w (11 * (72 * d + s)) len) = upN (NR w) d s len (w 32) := by
  funext e j
  unfold upN NR
  by_cases h : e < 2 ∧ j < 792
  · rw [if_pos h, if_pos h]
    unfold layw
    by_cases hj : e = d ∧ 11 * s ≤ j ∧ j < 11 * s + len
    · rw [if_pos hj, if_pos (by omega)]
      congr 1
      omega
    · rw [if_neg hj, if_neg (by omega)]
  · rw [if_neg h, if_neg h, if_neg (fun q => h (by omega))]
def tkR (w : Wo) (x1 x2 : Int32) : Option (Wo × Int32) := (gr Lf 22 5 8).bind fun r6 => (ld Lf w r6 x1).bind fun v7 => (st Lf w r6 x1 (v7 + 1)).bind fun w8 => (fM_planOf Lf w8 22 x1).bind fun q9 => if q9.2 = (-1) then ((fM_lay Lf q9.1 22 x1 x2 11).bind fun w20 => zr w20 1) else ((gr Lf 22 5 11).bind fun r11 => (ld Lf q9.1 r11 ((8 * x1) + q9.2)).bind fun v12 => (gr Lf 22 5 12).bind fun r13 => (ld Lf q9.1 r13 ((8 * x1) + q9.2)).bind fun v14 => (fM_dropPlan Lf q9.1 22 x1 q9.2).bind fun w15 => if v12 = 1 then ((fM_lay Lf w15 22 x1 v14 11).bind fun w19 => zr w19 1) else (if v12 = 2 then ((fM_lay Lf w15 22 x1 x2 v14).bind fun w18 => zr w18 1) else (zr w15 1)))
theorem tkR_e (w : Wo) {d s n : Nat} (hd : d < 2) (hs : s < 72) {P : Pl} (hn : w 27 d = nI n) (hr : Rep n (fun i => w 28 (8 * d + i)) (fun i => w 29 (8 * d + i)) (fun i => w 30 (8 * d + i)) P) (hp : pok P) : ∃ w', tkR w (nI d) (nI s) = some (w', 1) ∧ NR w' = stN (NR w) (P (w 26 d + 1)) d s (w 32) ∧ w' 26 d = w 26 d + 1 ∧ w' 27 d = nI (if P (w 26 d + 1) = none then n else n - 1) ∧ Rep (if P (w 26 d + 1) = none then n else n - 1) (fun i => w' 28 (8 * d + i)) (fun i => w' 29 (8 * d + i)) (fun i => w' 30 (8 * d + i)) (ers P (w 26 d + 1)) ∧ (∀ e, e < 2 → e ≠ d → w' 26 e = w 26 e ∧ w' 27 e = w 27 e ∧ ∀ i, i < 8 → w' 28 (8 * e + i) = w 28 (8 * e + i) ∧ w' 29 (8 * e + i) = w 29 (8 * e + i) ∧ w' 30 (8 * e + i) = w 30 (8 * e + i)) ∧ ∀ c, c ≠ 23 → c ≠ 26 → c ≠ 27 → c ≠ 28 → c ≠ 29 → c ≠ 30 → w' c = w c := by
  unfold tkR
  rw [gr22_8, bd, ld26 w hd, bd, st26 w _ hd, bd]
  obtain ⟨r, e0, hres⟩ := planOf_e (up2 w 26 d (w 26 d + 1)) d n hd (by rw [up2_c _ _ (by decide)]; exact hn) hr.1
  rw [e0, bd]
  dsimp only
  rw [up2_c (d := 28) _ _ (by decide), up2_s] at hres
  have hNR : NR (up2 w 26 d (w 26 d + 1)) = NR w := NR_congr (up2_c _ _ (by decide))
  have h8 := hr.1
  rcases hres with ⟨rfl, hno⟩ | ⟨i, hi, rfl, hit⟩
  · have hP : P (w 26 d + 1) = none := hr.non hno
    rw [if_pos rfl]
    show ∃ w', ((fM_lay Lf (up2 w 26 d (w 26 d + 1)) 22 (nI d) (nI s) (nI 11)).bind fun w20 => zr w20 1) = some (w', 1) ∧ _
    rw [lay_e _ hd hs (by omega), bd, zr1]
    refine ⟨_, rfl, ?_, ?_, ?_, ?_, ?_, ?_⟩
    · rw [NR_lay _ hd hs (by omega), hNR, up2_c _ _ (by decide), hP]
      rfl
    · rw [layw_ne _ _ _ (by decide), up2_s]
    · rw [layw_ne _ _ _ (by decide), up2_c _ _ (by decide), if_pos hP]; exact hn
    · rw [if_pos hP, ers_none hP, layw_ne _ _ _ (by decide), layw_ne _ _ _ (by decide), layw_ne _ _ _ (by decide), up2_c (d := 28) _ _ (by decide), up2_c (d := 29) _ _ (by decide), up2_c (d := 30) _ _ (by decide)]
      exact hr
    · intro e he hne
      rw [layw_ne _ _ _ (by decide), layw_ne _ _ _ (by decide), layw_ne _ _ _ (by decide), layw_ne _ _ _ (by decide), layw_ne _ _ _ (by decide), up2_i _ _ hne, up2_c (d := 27) _ _ (by decide), up2_c (d := 28) _ _ (by decide), up2_c (d := 29) _ _ (by decide), up2_c (d := 30) _ _ (by decide)]
      exact ⟨rfl, rfl, fun i hi => ⟨rfl, rfl, rfl⟩⟩
    · intro c h1 h2 h3 h4 h5 h6
      rw [layw_ne _ _ _ h1, up2_c _ _ h2]
  · have hP : P (w 26 d + 1) = some (w 29 (8 * d + i), w 30 (8 * d + i)) := hr.at hi hit
    have hPn : ¬ P (w 26 d + 1) = none := fun q => by rw [hP] at q; cases q
    rw [if_neg (neg1 (by omega)), gr22_11, bd, mu_8, nI_add, ld29 _ (by omega), bd, gr22_12, bd, ld30 _ (by omega), bd, up2_c (d := 29) _ _ (by decide), up2_c (d := 30) _ _ (by decide), dropPlan_e _ d n i hd (by rw [up2_c _ _ (by decide)]; exact hn) h8 hi, bd]
    have hsh : ∀ c j, (c = 28 ∨ c = 29 ∨ c = 30) → shw (up2 (up2 w 26 d (w 26 d + 1)) 27 d (nI (n - 1))) (8 * d + i) (8 * d + (n - 1)) c j = if 8 * d + i ≤ j ∧ j < 8 * d + (n - 1) then w c (j + 1) else w c j := by
      intro c j hc
      unfold shw
      rw [up2_c (d := c) _ _ (by omega), up2_c (d := c) _ _ (by omega)]
      by_cases h : 8 * d + i ≤ j ∧ j < 8 * d + (n - 1)
      · rw [if_pos ⟨hc, h⟩, if_pos h]
      · rw [if_neg (fun q => h q.2), if_neg h]
    have hsn : ∀ c, c ≠ 28 → c ≠ 29 → c ≠ 30 → shw (up2 (up2 w 26 d (w 26 d + 1)) 27 d (nI (n - 1))) (8 * d + i) (8 * d + (n - 1)) c = up2 (up2 w 26 d (w 26 d + 1)) 27 d (nI (n - 1)) c := fun c h1 h2 h3 => shw_ne _ _ _ ⟨h1, h2, h3⟩
    generalize hw9 : shw (up2 (up2 w 26 d (w 26 d + 1)) 27 d (nI (n - 1))) (8 * d + i) (8 * d + (n - 1)) = w9 at hsh hsn ⊢
    have hN9 : NR w9 = NR w := by
      refine NR_congr ?_
      rw [hsn 23 (by decide) (by decide) (by decide), up2_c _ _ (by decide), up2_c _ _ (by decide)]
    have h32 : w9 32 = w 32 := by
      rw [hsn 32 (by decide) (by decide) (by decide), up2_c _ _ (by decide), up2_c _ _ (by decide)]
    have hrep : Rep (n - 1) (fun j => w9 28 (8 * d + j)) (fun j => w9 29 (8 * d + j)) (fun j => w9 30 (8 * d + j)) (ers P (w 26 d + 1)) := by
      have key : ∀ c, (c = 28 ∨ c = 29 ∨ c = 30) → ∀ j, j < n - 1 → w9 c (8 * d + j) = if i ≤ j then w c (8 * d + (j + 1)) else w c (8 * d + j) := by
        intro c hc j hj
        rw [hsh c _ hc]
        by_cases h : i ≤ j
        · rw [if_pos (by omega), if_pos h]; rfl
        · rw [if_neg (by omega), if_neg h]
      have h := hr.shift hi (key 28 (by omega)) (key 29 (by omega)) (key 30 (by omega))
      rw [hit] at h
      exact h
    have ho : ∀ e, e < 2 → e ≠ d → w9 26 e = w 26 e ∧ w9 27 e = w 27 e ∧ ∀ i, i < 8 → w9 28 (8 * e + i) = w 28 (8 * e + i) ∧ w9 29 (8 * e + i) = w 29 (8 * e + i) ∧ w9 30 (8 * e + i) = w 30 (8 * e + i) := by
      intro e he hne
      refine ⟨?_, ?_, fun j hj => ⟨?_, ?_, ?_⟩⟩
      · rw [hsn 26 (by decide) (by decide) (by decide), up2_c _ _ (by decide), up2_i _ _ hne]
      · rw [hsn 27 (by decide) (by decide) (by decide), up2_i _ _ hne, up2_c _ _ (by decide)]
      · rw [hsh 28 _ (by omega), if_neg (by omega)]
      · rw [hsh 29 _ (by omega), if_neg (by omega)]
      · rw [hsh 30 _ (by omega), if_neg (by omega)]
    have h26 : w9 26 d = w 26 d + 1 := by rw [hsn 26 (by decide) (by decide) (by decide), up2_c _ _ (by decide), up2_s]
    have h27 : w9 27 d = nI (n - 1) := by rw [hsn 27 (by decide) (by decide) (by decide), up2_s]
    have hfr : ∀ c, c ≠ 23 → c ≠ 26 → c ≠ 27 → c ≠ 28 → c ≠ 29 → c ≠ 30 → w9 c = w c := by
      intro c h1 h2 h3 h4 h5 h6
      rw [hsn c h4 h5 h6, up2_c _ _ h3, up2_c _ _ h2]
    have fin : ∀ (s' len : Nat), s' < 72 → len ≤ 11 → stN (NR w) (P (w 26 d + 1)) d s (w 32) = upN (NR w) d s' len (w 32) → ∃ w', ((fM_lay Lf w9 22 (nI d) (nI s') (nI len)).bind fun w19 => zr w19 1) = some (w', 1) ∧ NR w' = stN (NR w) (P (w 26 d + 1)) d s (w 32) ∧ w' 26 d = w 26 d + 1 ∧ w' 27 d = nI (if P (w 26 d + 1) = none then n else n - 1) ∧ Rep (if P (w 26 d + 1) = none then n else n - 1) (fun i => w' 28 (8 * d + i)) (fun i => w' 29 (8 * d + i)) (fun i => w' 30 (8 * d + i)) (ers P (w 26 d + 1)) ∧ (∀ e, e < 2 → e ≠ d → w' 26 e = w 26 e ∧ w' 27 e = w 27 e ∧ ∀ i, i < 8 → w' 28 (8 * e + i) = w 28 (8 * e + i) ∧ w' 29 (8 * e + i) = w 29 (8 * e + i) ∧ w' 30 (8 * e + i) = w 30 (8 * e + i)) ∧ ∀ c, c ≠ 23 → c ≠ 26 → c ≠ 27 → c ≠ 28 → c ≠ 29 → c ≠ 30 → w' c = w c := by
      intro s' len hs' hl' hst
      rw [lay_e _ hd hs' hl', bd, zr1]
      refine ⟨_, rfl, ?_, ?_, ?_, ?_, ?_, ?_⟩
      · rw [NR_lay _ hd hs' hl', hN9, h32, hst]
      · rw [layw_ne _ _ _ (by decide), h26]
      · rw [layw_ne _ _ _ (by decide), if_neg hPn]; exact h27
      · rw [if_neg hPn, layw_ne _ _ _ (by decide), layw_ne _ _ _ (by decide), layw_ne _ _ _ (by decide)]
        exact hrep
      · rw [layw_ne _ _ _ (by decide), layw_ne _ _ _ (by decide), layw_ne _ _ _ (by decide), layw_ne _ _ _ (by decide), layw_ne _ _ _ (by decide)]
        exact ho
      · intro c h1 h2 h3 h4 h5 h6
        rw [layw_ne _ _ _ h1, hfr c h1 h2 h3 h4 h5 h6]
    by_cases hk1 : w 29 (8 * d + i) = 1
    · obtain ⟨m, hm, hxm⟩ := (hp _ _ _ hP).1 hk1
      rw [if_pos hk1, hxm]
      refine fin m 11 hm (by omega) ?_
      rw [hP]
      show (if w 29 (8 * d + i) = 1 then upN (NR w) d (w 30 (8 * d + i)).toNatClampNeg 11 (w 32) else _) = _
      rw [if_pos hk1, hxm, nI_clamp (by omega)]
    · rw [if_neg hk1]
      by_cases hk2 : w 29 (8 * d + i) = 2
      · obtain ⟨m, hm, hxm⟩ := (hp _ _ _ hP).2 hk2
        rw [if_pos hk2, hxm]
        refine fin s m hs (by omega) ?_
        rw [hP]
        show (if w 29 (8 * d + i) = 1 then _ else if w 29 (8 * d + i) = 2 then upN (NR w) d s (w 30 (8 * d + i)).toNatClampNeg (w 32) else _) = _
        rw [if_neg hk1, if_pos hk2, hxm, nI_clamp (by omega)]
      · rw [if_neg hk2, zr1]
        refine ⟨w9, rfl, ?_, h26, ?_, ?_, ho, hfr⟩
        · rw [hN9, hP]
          show _ = (if w 29 (8 * d + i) = 1 then _ else if w 29 (8 * d + i) = 2 then _ else NR w)
          rw [if_neg hk1, if_neg hk2]
        · rw [if_neg hPn]; exact h27
        · rw [if_neg hPn]; exact hrep

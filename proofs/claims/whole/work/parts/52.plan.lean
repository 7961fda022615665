/-! plans: two arrays' orders, one map from write numbers -/
abbrev Pl : Type := Int32 → Option (Int32 × Int32)
def Rep (n : Nat) (pw pk px : Nat → Int32) (P : Pl) : Prop := n ≤ 8 ∧ (∀ i, i < n → P (pw i) = some (pk i, px i)) ∧ (∀ t q, P t = some q → ∃ i, i < n ∧ pw i = t) ∧ ∀ i j, i < n → j < n → pw i = pw j → i = j
def ers (P : Pl) (t : Int32) : Pl := fun u => if u = t then none else P u
def ins (P : Pl) (t : Int32) (q : Int32 × Int32) : Pl := fun u => if u = t then some q else P u
theorem Rep.congr {n : Nat} {pw pk px pw' pk' px' : Nat → Int32} {P : Pl} (h : Rep n pw pk px P) (h1 : ∀ i, i < n → pw' i = pw i) (h2 : ∀ i, i < n → pk' i = pk i) (h3 : ∀ i, i < n → px' i = px i) : Rep n pw' pk' px' P := by
  obtain ⟨a, b, c, d⟩ := h
  refine ⟨a, fun i hi => ?_, fun t q ht => ?_, fun i j hi hj e => ?_⟩
  · rw [h1 i hi, h2 i hi, h3 i hi]; exact b i hi
  · obtain ⟨i, hi, e⟩ := c t q ht
    exact ⟨i, hi, by rw [h1 i hi]; exact e⟩
  · rw [h1 i hi, h1 j hj] at e
    exact d i j hi hj e
theorem Rep.non {n : Nat} {pw pk px : Nat → Int32} {P : Pl} {t : Int32} (h : Rep n pw pk px P) (hn : ∀ i, i < n → pw i ≠ t) : P t = none := by
  cases hq : P t with
  | none => rfl
  | some q =>
    obtain ⟨i, hi, e⟩ := h.2.2.1 t q hq
    exact absurd e (hn i hi)
theorem Rep.at {n i : Nat} {pw pk px : Nat → Int32} {P : Pl} {t : Int32} (h : Rep n pw pk px P) (hi : i < n) (e : pw i = t) : P t = some (pk i, px i) := by
  rw [← e]; exact h.2.1 i hi
theorem Rep.add {n : Nat} {pw pk px : Nat → Int32} {P : Pl} {t : Int32} {q : Int32 × Int32} (h : Rep n pw pk px P) (hn : n < 8) (hP : P t = none) {pw' pk' px' : Nat → Int32} (h1 : ∀ i, i < n → pw' i = pw i) (h2 : ∀ i, i < n → pk' i = pk i) (h3 : ∀ i, i < n → px' i = px i) (e1 : pw' n = t) (e2 : pk' n = q.1) (e3 : px' n = q.2) : Rep (n + 1) pw' pk' px' (ins P t q) := by
  have hne : ∀ i, i < n → pw i ≠ t := fun i hi e => by
    have := h.2.1 i hi
    rw [e, hP] at this
    cases this
  refine ⟨by omega, fun i hi => ?_, fun u z hu => ?_, fun i j hi hj e => ?_⟩
  · unfold ins
    by_cases hin : i = n
    · subst hin
      rw [e1, if_pos rfl, e2, e3]
    · have hi' : i < n := by omega
      rw [h1 i hi', h2 i hi', h3 i hi', if_neg (hne i hi')]
      exact h.2.1 i hi'
  · unfold ins at hu
    by_cases hut : u = t
    · exact ⟨n, by omega, by rw [e1]; exact hut.symm⟩
    · rw [if_neg hut] at hu
      obtain ⟨i, hi, e⟩ := h.2.2.1 u z hu
      exact ⟨i, by omega, by rw [h1 i hi]; exact e⟩
  · by_cases hin : i = n
    · by_cases hjn : j = n
      · omega
      · have hj' : j < n := by omega
        rw [hin, e1, h1 j hj'] at e
        exact absurd e.symm (hne j hj')
    · have hi' : i < n := by omega
      by_cases hjn : j = n
      · rw [hjn, e1, h1 i hi'] at e
        exact absurd e (hne i hi')
      · have hj' : j < n := by omega
        rw [h1 i hi', h1 j hj'] at e
        exact h.2.2.2 i j hi' hj' e
/-- the place i is taken by the last -/
theorem Rep.swap {n i : Nat} {pw pk px : Nat → Int32} {P : Pl} (h : Rep n pw pk px P) (hi : i < n) {pw' pk' px' : Nat → Int32} (h1 : ∀ j, j < n - 1 → pw' j = if j = i then pw (n - 1) else pw j) (h2 : ∀ j, j < n - 1 → pk' j = if j = i then pk (n - 1) else pk j) (h3 : ∀ j, j < n - 1 → px' j = if j = i then px (n - 1) else px j) : Rep (n - 1) pw' pk' px' (ers P (pw i)) := by
  obtain ⟨a, b, c, d⟩ := h
  have src : ∀ j, j < n - 1 → ∃ k, k < n ∧ k ≠ i ∧ pw' j = pw k ∧ pk' j = pk k ∧ px' j = px k ∧ (j = i → k = n - 1) ∧ (j ≠ i → k = j) := by
    intro j hj
    by_cases e : j = i
    · refine ⟨n - 1, by omega, by omega, ?_, ?_, ?_, fun _ => rfl, fun h => absurd e h⟩
      · rw [h1 j hj, if_pos e]
      · rw [h2 j hj, if_pos e]
      · rw [h3 j hj, if_pos e]
    · refine ⟨j, by omega, e, ?_, ?_, ?_, fun h => absurd h e, fun _ => rfl⟩
      · rw [h1 j hj, if_neg e]
      · rw [h2 j hj, if_neg e]
      · rw [h3 j hj, if_neg e]
  refine ⟨by omega, fun j hj => ?_, fun t q ht => ?_, fun j k hj hk e => ?_⟩
  · obtain ⟨k, hk, hki, e1, e2, e3, -⟩ := src j hj
    rw [e1, e2, e3]
    unfold ers
    rw [if_neg (fun e => hki (d k i hk hi e))]
    exact b k hk
  · unfold ers at ht
    by_cases et : t = pw i
    · rw [if_pos et] at ht; cases ht
    · rw [if_neg et] at ht
      obtain ⟨k, hk, ek⟩ := c t q ht
      have hki : k ≠ i := fun e => et (by rw [← ek, e])
      by_cases hl : k = n - 1
      · by_cases hil : i = n - 1
        · omega
        · exact ⟨i, by omega, by rw [h1 i (by omega), if_pos rfl, ← hl]; exact ek⟩
      · exact ⟨k, by omega, by rw [h1 k (by omega), if_neg hki]; exact ek⟩
  · obtain ⟨k1, hk1, hki1, e1, -, -, f1, g1⟩ := src j hj
    obtain ⟨k2, hk2, hki2, e2, -, -, f2, g2⟩ := src k hk
    rw [e1, e2] at e
    have := d k1 k2 hk1 hk2 e
    by_cases x1 : j = i
    · by_cases x2 : k = i
      · omega
      · have := f1 x1; have := g2 x2; omega
    · by_cases x2 : k = i
      · have := g1 x1; have := f2 x2; omega
      · have := g1 x1; have := g2 x2; omega
/-- those behind i move up -/
theorem Rep.shift {n i : Nat} {pw pk px : Nat → Int32} {P : Pl} (h : Rep n pw pk px P) (hi : i < n) {pw' pk' px' : Nat → Int32} (h1 : ∀ j, j < n - 1 → pw' j = if i ≤ j then pw (j + 1) else pw j) (h2 : ∀ j, j < n - 1 → pk' j = if i ≤ j then pk (j + 1) else pk j) (h3 : ∀ j, j < n - 1 → px' j = if i ≤ j then px (j + 1) else px j) : Rep (n - 1) pw' pk' px' (ers P (pw i)) := by
  obtain ⟨a, b, c, d⟩ := h
  have src : ∀ j, j < n - 1 → ∃ k, k < n ∧ k ≠ i ∧ pw' j = pw k ∧ pk' j = pk k ∧ px' j = px k ∧ (i ≤ j → k = j + 1) ∧ (¬ i ≤ j → k = j) := by
    intro j hj
    by_cases e : i ≤ j
    · refine ⟨j + 1, by omega, by omega, ?_, ?_, ?_, fun _ => rfl, fun h => absurd e h⟩
      · rw [h1 j hj, if_pos e]
      · rw [h2 j hj, if_pos e]
      · rw [h3 j hj, if_pos e]
    · refine ⟨j, by omega, by omega, ?_, ?_, ?_, fun h => absurd h e, fun _ => rfl⟩
      · rw [h1 j hj, if_neg e]
      · rw [h2 j hj, if_neg e]
      · rw [h3 j hj, if_neg e]
  refine ⟨by omega, fun j hj => ?_, fun t q ht => ?_, fun j k hj hk e => ?_⟩
  · obtain ⟨k, hk, hki, e1, e2, e3, -⟩ := src j hj
    rw [e1, e2, e3]
    unfold ers
    rw [if_neg (fun e => hki (d k i hk hi e))]
    exact b k hk
  · unfold ers at ht
    by_cases et : t = pw i
    · rw [if_pos et] at ht; cases ht
    · rw [if_neg et] at ht
      obtain ⟨k, hk, ek⟩ := c t q ht
      have hki : k ≠ i := fun e => et (by rw [← ek, e])
      by_cases hl : i ≤ k
      · exact ⟨k - 1, by omega, by rw [h1 (k - 1) (by omega), if_pos (by omega), show k - 1 + 1 = k by omega]; exact ek⟩
      · exact ⟨k, by omega, by rw [h1 k (by omega), if_neg hl]; exact ek⟩
  · obtain ⟨k1, hk1, hki1, e1, -, -, f1, g1⟩ := src j hj
    obtain ⟨k2, hk2, hki2, e2, -, -, f2, g2⟩ := src k hk
    rw [e1, e2] at e
    have := d k1 k2 hk1 hk2 e
    by_cases x1 : i ≤ j
    · by_cases x2 : i ≤ k
      · have := f1 x1; have := f2 x2; omega
      · have := f1 x1; have := g2 x2; omega
    · by_cases x2 : i ≤ k
      · have := g1 x1; have := f2 x2; omega
      · have := g1 x1; have := g2 x2; omega
/-! looking for a plan -/
theorem planOfNext_l (w : Wo) (d n : Nat) (x : Int32) (hn : w (dc d) 4 = nI n) (h8 : n ≤ 8) : ∀ (j k m : Nat), k + j = n → (∀ i, i < k → w (dc d + 2) i ≠ w (dc d) 5 + x) → ∃ r, bD_planOfNext_2 Lf (m + (j + 1)) w (dc d) x (nI k) = some (w, r) ∧ ((r = -1 ∧ ∀ i, i < n → w (dc d + 2) i ≠ w (dc d) 5 + x) ∨ ∃ i, i < n ∧ r = nI i ∧ w (dc d + 2) i = w (dc d) 5 + x) := by
  intro j
  induction j with
  | zero =>
    intro k m hk hno
    refine ⟨-1, ?_, Or.inl ⟨rfl, fun i hi => hno i (by omega)⟩⟩
    show bD_planOfNext_2s Lf _ w (dc d) _ _ = _
    unfold bD_planOfNext_2s
    rw [giD_4, bd, hn, if_pos (nI_le (by omega) (by omega))]
  | succ j ih =>
    intro k m hk hno
    have e : bD_planOfNext_2 Lf (m + (j + 1 + 1)) w (dc d) x (nI k) = if w (dc d + 2) k = w (dc d) 5 + x then some (w, nI k) else bD_planOfNext_2 Lf (m + (j + 1)) w (dc d) x (nI (k + 1)) := by
      show bD_planOfNext_2s Lf _ w (dc d) _ _ = _
      unfold bD_planOfNext_2s
      rw [giD_4, bd, hn, if_neg (nI_ge (by omega) (by omega)), grD_1, bd, ldD2 w d (by omega), bd, giD_5, bd, ← nI_succ]
      rfl
    by_cases h : w (dc d + 2) k = w (dc d) 5 + x
    · exact ⟨nI k, by rw [e, if_pos h], Or.inr ⟨k, by omega, rfl, h⟩⟩
    · obtain ⟨r, h1, h2⟩ := ih (k + 1) m (by omega) (fun i hi => by
        by_cases hik : i = k
        · subst hik; exact h
        · exact hno i (by omega))
      exact ⟨r, by rw [e, if_neg h]; exact h1, h2⟩
theorem planOfNext_e (w : Wo) (d n : Nat) (x : Int32) (hn : w (dc d) 4 = nI n) (h8 : n ≤ 8) : ∃ r, fD_planOfNext Lf w (dc d) x = some (w, r) ∧ ((r = -1 ∧ ∀ i, i < n → w (dc d + 2) i ≠ w (dc d) 5 + x) ∨ ∃ i, i < n ∧ r = nI i ∧ w (dc d + 2) i = w (dc d) 5 + x) := by
  unfold fD_planOfNext
  rw [isCD, gdt, show (1000 : Nat) = (999 - n) + (n + 1) by omega]
  exact planOfNext_l w d n x hn h8 n 0 (999 - n) (by omega) (fun i hi => absurd hi (Nat.not_lt_zero i))
theorem planOf_l (w : Wo) (d n : Nat) (hd : d < 2) (hn : w 27 d = nI n) (h8 : n ≤ 8) : ∀ (j k m : Nat) (it : Int32), k + j = n → ((it = -1 ∧ ∀ i, i < k → w 28 (8 * d + i) ≠ w 26 d) ∨ ∃ i, i < k ∧ it = nI i ∧ w 28 (8 * d + i) = w 26 d) → ∃ r, bM_planOf_4 Lf (m + (j + 1)) w 22 (nI d) it (nI k) = some (w, r) ∧ ((r = -1 ∧ ∀ i, i < n → w 28 (8 * d + i) ≠ w 26 d) ∨ ∃ i, i < n ∧ r = nI i ∧ w 28 (8 * d + i) = w 26 d) := by
  intro j
  induction j with
  | zero =>
    intro k m it hk h
    have hk : k = n := by omega
    subst hk
    refine ⟨it, ?_, h⟩
    show bM_planOf_4s Lf _ w 22 _ _ _ = _
    unfold bM_planOf_4s
    rw [gr22_9, bd, ld27 w hd, bd, hn, if_pos (nI_le (by omega) (by omega))]
  | succ j ih =>
    intro k m it hk h
    have e : bM_planOf_4 Lf (m + (j + 1 + 1)) w 22 (nI d) it (nI k) = if w 28 (8 * d + k) = w 26 d then bM_planOf_4 Lf (m + (j + 1)) w 22 (nI d) (nI k) (nI (k + 1)) else bM_planOf_4 Lf (m + (j + 1)) w 22 (nI d) it (nI (k + 1)) := by
      show bM_planOf_4s Lf _ w 22 _ _ _ = _
      unfold bM_planOf_4s
      rw [gr22_9, bd, ld27 w hd, bd, hn, if_neg (nI_ge (by omega) (by omega)), gr22_10, bd, mu_8, nI_add, ld28 w (by omega), bd, gr22_8, bd, ld26 w hd, bd]
      unfold bM_planOf_39
      rw [← nI_succ]
      rfl
    rw [e]
    by_cases hm : w 28 (8 * d + k) = w 26 d
    · rw [if_pos hm]
      exact ih (k + 1) m (nI k) (by omega) (Or.inr ⟨k, by omega, rfl, hm⟩)
    · rw [if_neg hm]
      refine ih (k + 1) m it (by omega) ?_
      rcases h with ⟨h1, h2⟩ | ⟨i, h1, h2, h3⟩
      · refine Or.inl ⟨h1, fun i hi => ?_⟩
        by_cases hik : i = k
        · subst hik; exact hm
        · exact h2 i (by omega)
      · exact Or.inr ⟨i, by omega, h2, h3⟩
theorem planOf_e (w : Wo) (d n : Nat) (hd : d < 2) (hn : w 27 d = nI n) (h8 : n ≤ 8) : ∃ r, fM_planOf Lf w 22 (nI d) = some (w, r) ∧ ((r = -1 ∧ ∀ i, i < n → w 28 (8 * d + i) ≠ w 26 d) ∨ ∃ i, i < n ∧ r = nI i ∧ w 28 (8 * d + i) = w 26 d) := by
  unfold fM_planOf
  rw [isC22, gdt, show (1000 : Nat) = (999 - n) + (n + 1) by omega]
  exact planOf_l w d n hd hn h8 n 0 (999 - n) (-1) (by omega) (Or.inl ⟨rfl, fun i hi => absurd hi (Nat.not_lt_zero i)⟩)
/-! taking a plan out -/
theorem up2_s (w : Wo) (c i : Nat) (x : Int32) : up2 w c i x c i = x := by unfold up2; rw [if_pos rfl, if_pos rfl]
theorem up2_i (w : Wo) {c i j : Nat} (x : Int32) (h : j ≠ i) : up2 w c i x c j = w c j := by unfold up2; rw [if_pos rfl, if_neg h]
theorem up2_c (w : Wo) {c i d : Nat} (x : Int32) (h : d ≠ c) : up2 w c i x d = w d := up2_ne d h
theorem removePlan_e (w : Wo) (d n i : Nat) (hn : w (dc d) 4 = nI n) (h8 : n ≤ 8) (hi : i < n) : ∃ w', fD_removePlan Lf w (dc d) (nI i) = some w' ∧ w' (dc d) 4 = nI (n - 1) ∧ w' (dc d) 5 = w (dc d) 5 ∧ (∀ j, j < n - 1 → w' (dc d + 2) j = if j = i then w (dc d + 2) (n - 1) else w (dc d + 2) j) ∧ (∀ j, j < n - 1 → w' (dc d + 3) j = if j = i then w (dc d + 3) (n - 1) else w (dc d + 3) j) ∧ (∀ j, j < n - 1 → w' (dc d + 4) j = if j = i then w (dc d + 4) (n - 1) else w (dc d + 4) j) ∧ ∀ c, c ≠ dc d → c ≠ dc d + 2 → c ≠ dc d + 3 → c ≠ dc d + 4 → w' c = w c := by
  have hm : nI n - 1 = nI (n - 1) := by
    have := nI_pred (n - 1)
    rw [show n - 1 + 1 = n by omega] at this
    exact this
  refine ⟨up2 (up2 (up2 (up2 w (dc d) 4 (nI (n - 1))) (dc d + 2) i (w (dc d + 2) (n - 1))) (dc d + 3) i (w (dc d + 3) (n - 1))) (dc d + 4) i (w (dc d + 4) (n - 1)), ?_, ?_, ?_, ?_, ?_, ?_, ?_⟩
  · unfold fD_removePlan
    rw [isCD, gdt, giD_4, bd, hn, hm, pfD_4, bd, grD_1, bd, bd, giD_4, bd, up2_s, ldD2 _ d (by omega), bd, stD2 _ d _ (by omega), bd, grD_2, bd, bd, giD_4, bd, up2_c (d := dc d) (c := dc d + 2) _ _ (by omega), up2_s, up2_c (d := dc d + 2) (c := dc d) _ _ (by omega), ldD3 _ d (by omega), bd, stD3 _ d _ (by omega), bd, grD_3, bd, bd, giD_4, bd, up2_c (d := dc d) (c := dc d + 3) _ _ (by omega), up2_c (d := dc d) (c := dc d + 2) _ _ (by omega), up2_s, ldD4 _ d (by omega), bd, stD4 _ d _ (by omega), bd]
    rw [up2_c (d := dc d + 3) (c := dc d + 2) _ _ (by omega), up2_c (d := dc d + 3) (c := dc d) _ _ (by omega), up2_c (d := dc d + 4) (c := dc d + 3) _ _ (by omega), up2_c (d := dc d + 4) (c := dc d + 2) _ _ (by omega), up2_c (d := dc d + 4) (c := dc d) _ _ (by omega)]
  · rw [up2_c _ _ (by omega), up2_c _ _ (by omega), up2_c _ _ (by omega), up2_s]
  · rw [up2_c _ _ (by omega), up2_c _ _ (by omega), up2_c _ _ (by omega), up2_i _ _ (by omega)]
  · intro j hj
    rw [up2_c _ _ (by omega), up2_c _ _ (by omega)]
    by_cases e : j = i
    · subst e; rw [up2_s, if_pos rfl]
    · rw [up2_i _ _ e, if_neg e, up2_c _ _ (by omega)]
  · intro j hj
    rw [up2_c _ _ (by omega)]
    by_cases e : j = i
    · subst e; rw [up2_s, if_pos rfl]
    · rw [up2_i _ _ e, if_neg e, up2_c _ _ (by omega), up2_c _ _ (by omega)]
  · intro j hj
    by_cases e : j = i
    · subst e; rw [up2_s, if_pos rfl]
    · rw [up2_i _ _ e, if_neg e, up2_c _ _ (by omega), up2_c _ _ (by omega), up2_c _ _ (by omega)]
  · intro c h1 h2 h3 h4
    rw [up2_c _ _ h4, up2_c _ _ h3, up2_c _ _ h2, up2_c _ _ h1]
/-- the reference's arrays with those behind moved up, as far as j -/
def shw (w : Wo) (a j : Nat) : Wo := fun c i => if (c = 28 ∨ c = 29 ∨ c = 30) ∧ a ≤ i ∧ i < j then w c (i + 1) else w c i
theorem shw_0 (w : Wo) (a : Nat) : shw w a a = w := by
  funext c i
  unfold shw
  rw [if_neg (by omega)]
theorem shw_ne (w : Wo) (a j : Nat) {c : Nat} (h : c ≠ 28 ∧ c ≠ 29 ∧ c ≠ 30) : shw w a j c = w c := by
  funext i
  unfold shw
  rw [if_neg (by omega)]
theorem dropPlan_l (w : Wo) (d n : Nat) (hd : d < 2) (hn : w 27 d = nI n) (h8 : n < 8) (a : Nat) : ∀ (j k m : Nat), k + j = 8 * d + n → a ≤ k → 8 * d ≤ k → bM_dropPlan_17 Lf (m + (j + 1)) (shw w a k) 22 (nI d) (nI k) = some (shw w a (8 * d + n)) := by
  intro j
  induction j with
  | zero =>
    intro k m hk ha hk2
    have hk : k = 8 * d + n := by omega
    subst hk
    show bM_dropPlan_17s Lf _ _ 22 _ _ = _
    unfold bM_dropPlan_17s
    rw [gr22_9, bd, ld27 _ hd, bd, shw_ne w _ _ (by omega), hn, mu_8, nI_add, if_pos (nI_le (by omega) (by omega))]
  | succ j ih =>
    intro k m hk ha hk2
    have hg : ∀ c, c = 28 ∨ c = 29 ∨ c = 30 → shw w a k c (k + 1) = w c (k + 1) := fun c hc => by
      unfold shw
      rw [if_neg (by omega)]
    have hst : up2 (up2 (up2 (shw w a k) 28 k (w 28 (k + 1))) 29 k (w 29 (k + 1))) 30 k (w 30 (k + 1)) = shw w a (k + 1) := by
      funext c i
      by_cases h30 : c = 30
      · subst h30
        by_cases hi : i = k
        · subst hi
          rw [up2_s]
          unfold shw
          rw [if_pos (by omega)]
        · rw [up2_i _ _ hi, up2_c _ _ (by omega), up2_c _ _ (by omega)]
          unfold shw
          by_cases hc : a ≤ i ∧ i < k
          · rw [if_pos (by omega), if_pos (by omega)]
          · rw [if_neg (by omega), if_neg (by omega)]
      · rw [up2_c _ _ h30]
        by_cases h29 : c = 29
        · subst h29
          by_cases hi : i = k
          · subst hi
            rw [up2_s]
            unfold shw
            rw [if_pos (by omega)]
          · rw [up2_i _ _ hi, up2_c _ _ (by omega)]
            unfold shw
            by_cases hc : a ≤ i ∧ i < k
            · rw [if_pos (by omega), if_pos (by omega)]
            · rw [if_neg (by omega), if_neg (by omega)]
        · rw [up2_c _ _ h29]
          by_cases h28 : c = 28
          · subst h28
            by_cases hi : i = k
            · subst hi
              rw [up2_s]
              unfold shw
              rw [if_pos (by omega)]
            · rw [up2_i _ _ hi]
              unfold shw
              by_cases hc : a ≤ i ∧ i < k
              · rw [if_pos (by omega), if_pos (by omega)]
              · rw [if_neg (by omega), if_neg (by omega)]
          · rw [up2_c _ _ h28, shw_ne w _ _ ⟨h28, h29, h30⟩, shw_ne w _ _ ⟨h28, h29, h30⟩]
    show bM_dropPlan_17s Lf _ _ 22 _ _ = _
    unfold bM_dropPlan_17s
    rw [gr22_9, bd, ld27 _ hd, bd, shw_ne w _ _ (by omega), hn, mu_8, nI_add, if_neg (nI_ge (by omega) (by omega)), gr22_10, bd, bd, ad_1, ld28 _ (by omega), bd, st28 _ _ (by omega), bd, gr22_11, bd, bd, ld29 _ (by omega), bd, st29 _ _ (by omega), bd, gr22_12, bd, bd, ld30 _ (by omega), bd, st30 _ _ (by omega), bd, up2_c (d := 29) _ _ (by omega), up2_c (d := 30) _ _ (by omega), up2_c (d := 30) _ _ (by omega), hg 28 (by omega), hg 29 (by omega), hg 30 (by omega), hst]
    exact ih (k + 1) m (by omega) (by omega) (by omega)
theorem dropPlan_e (w : Wo) (d n i : Nat) (hd : d < 2) (hn : w 27 d = nI n) (h8 : n ≤ 8) (hi : i < n) : fM_dropPlan Lf w 22 (nI d) (nI i) = some (shw (up2 w 27 d (nI (n - 1))) (8 * d + i) (8 * d + (n - 1))) := by
  have hm : nI n - 1 = nI (n - 1) := by
    have := nI_pred (n - 1)
    rw [show n - 1 + 1 = n by omega] at this
    exact this
  unfold fM_dropPlan
  rw [isC22, gdt, gr22_9, bd, ld27 w hd, bd, hn, hm, st27 w _ hd, bd, mu_8, nI_add, show (1000 : Nat) = (999 - (n - 1 - i)) + ((n - 1 - i) + 1) by omega]
  have h := dropPlan_l (up2 w 27 d (nI (n - 1))) d (n - 1) hd (up2_s _ _ _ _) (by omega) (8 * d + i) (n - 1 - i) (8 * d + i) (999 - (n - 1 - i)) (by omega) (by omega) (by omega)
  rw [shw_0] at h
  exact h

/-! pure: what the functions compute, over the whole world of 35 cells -/
theorem bd {α β : Type} (a : α) (f : α → Option β) : (some a).bind f = f a := rfl
theorem gdt {α : Type} (x : Option α) : gd true x = x := rfl
theorem zr0 (w : Wo) : zr w 0 = some (w, 0) := rfl
theorem zr1 (w : Wo) : zr w 1 = some (w, 1) := rfl
def bI (b : Bool) : Int32 := if b = true then 1 else 0
theorem bI_if {α : Type} (b : Bool) (x y : α) : (if bI b = 0 then x else y) = (if b = true then y else x) := by cases b <;> rfl
theorem zr_b (w : Wo) (b : Bool) : zr w (bI b) = some (w, bI b) := by cases b <;> rfl
theorem zr_i (w : Wo) (c : Prop) [Decidable c] : (if c then zr w 1 else zr w 0) = some (w, bI (decide c)) := by
  by_cases h : c
  · rw [if_pos h, decide_eq_true h]; rfl
  · rw [if_neg h, decide_eq_false h]; rfl
/-- the cell of drive d -/
def dc (d : Nat) : Nat := if d = 0 then 1 else 7
theorem dc01 (d : Nat) : dc d = 1 ∨ dc d = 7 := by
  unfold dc
  by_cases h : d = 0
  · rw [if_pos h]; exact Or.inl rfl
  · rw [if_neg h]; exact Or.inr rfl
theorem isCD (d : Nat) : isC Lf (dc d) 0 = true := by rcases dc01 d with h | h <;> rw [h] <;> decide +kernel
theorem isC0 : isC Lf 0 4 = true := by decide +kernel
theorem gr0_0 : gr Lf 0 4 0 = some 1 := by decide +kernel
theorem gr0_1 : gr Lf 0 4 1 = some 7 := by decide +kernel
theorem gr0_2 : gr Lf 0 4 2 = some 13 := by decide +kernel
theorem gr0_3 : gr Lf 0 4 3 = some 14 := by decide +kernel
theorem gr0_4 : gr Lf 0 4 4 = some 16 := by decide +kernel
theorem gr0_5 : gr Lf 0 4 5 = some 18 := by decide +kernel
theorem gi0_6 (w : Wo) : gi Lf w 0 4 6 = some (w 0 6) := if_pos (by decide +kernel)
theorem pf0_6 (w : Wo) (x : Int32) : pf Lf w 0 4 6 x = some (up2 w 0 6 x) := if_pos (by decide +kernel)
theorem gi0_7 (w : Wo) : gi Lf w 0 4 7 = some (w 0 7) := if_pos (by decide +kernel)
theorem pf0_7 (w : Wo) (x : Int32) : pf Lf w 0 4 7 x = some (up2 w 0 7 x) := if_pos (by decide +kernel)
theorem gr0_8 : gr Lf 0 4 8 = some 19 := by decide +kernel
theorem gr0_9 : gr Lf 0 4 9 = some 20 := by decide +kernel
theorem gr0_10 : gr Lf 0 4 10 = some 21 := by decide +kernel
theorem isC13 : isC Lf 13 3 = true := by decide +kernel
theorem gi13_0 (w : Wo) : gi Lf w 13 3 0 = some (w 13 0) := if_pos (by decide +kernel)
theorem pf13_0 (w : Wo) (x : Int32) : pf Lf w 13 3 0 x = some (up2 w 13 0 x) := if_pos (by decide +kernel)
theorem gi13_1 (w : Wo) : gi Lf w 13 3 1 = some (w 13 1) := if_pos (by decide +kernel)
theorem pf13_1 (w : Wo) (x : Int32) : pf Lf w 13 3 1 x = some (up2 w 13 1 x) := if_pos (by decide +kernel)
theorem isC14 : isC Lf 14 2 = true := by decide +kernel
theorem gr14_0 : gr Lf 14 2 0 = some 15 := by decide +kernel
theorem gi14_1 (w : Wo) : gi Lf w 14 2 1 = some (w 14 1) := if_pos (by decide +kernel)
theorem pf14_1 (w : Wo) (x : Int32) : pf Lf w 14 2 1 x = some (up2 w 14 1 x) := if_pos (by decide +kernel)
theorem gi14_2 (w : Wo) : gi Lf w 14 2 2 = some (w 14 2) := if_pos (by decide +kernel)
theorem pf14_2 (w : Wo) (x : Int32) : pf Lf w 14 2 2 x = some (up2 w 14 2 x) := if_pos (by decide +kernel)
theorem isC16 : isC Lf 16 1 = true := by decide +kernel
theorem gr16_0 : gr Lf 16 1 0 = some 17 := by decide +kernel
theorem gi16_1 (w : Wo) : gi Lf w 16 1 1 = some (w 16 1) := if_pos (by decide +kernel)
theorem pf16_1 (w : Wo) (x : Int32) : pf Lf w 16 1 1 x = some (up2 w 16 1 x) := if_pos (by decide +kernel)
theorem gi16_2 (w : Wo) : gi Lf w 16 1 2 = some (w 16 2) := if_pos (by decide +kernel)
theorem pf16_2 (w : Wo) (x : Int32) : pf Lf w 16 1 2 x = some (up2 w 16 2 x) := if_pos (by decide +kernel)
theorem isC22 : isC Lf 22 5 = true := by decide +kernel
theorem gi22_0 (w : Wo) : gi Lf w 22 5 0 = some (w 22 0) := if_pos (by decide +kernel)
theorem pf22_0 (w : Wo) (x : Int32) : pf Lf w 22 5 0 x = some (up2 w 22 0 x) := if_pos (by decide +kernel)
theorem gr22_1 : gr Lf 22 5 1 = some 23 := by decide +kernel
theorem gr22_2 : gr Lf 22 5 2 = some 24 := by decide +kernel
theorem gi22_3 (w : Wo) : gi Lf w 22 5 3 = some (w 22 3) := if_pos (by decide +kernel)
theorem pf22_3 (w : Wo) (x : Int32) : pf Lf w 22 5 3 x = some (up2 w 22 3 x) := if_pos (by decide +kernel)
theorem gr22_4 : gr Lf 22 5 4 = some 25 := by decide +kernel
theorem gi22_5 (w : Wo) : gi Lf w 22 5 5 = some (w 22 5) := if_pos (by decide +kernel)
theorem pf22_5 (w : Wo) (x : Int32) : pf Lf w 22 5 5 x = some (up2 w 22 5 x) := if_pos (by decide +kernel)
theorem gi22_6 (w : Wo) : gi Lf w 22 5 6 = some (w 22 6) := if_pos (by decide +kernel)
theorem pf22_6 (w : Wo) (x : Int32) : pf Lf w 22 5 6 x = some (up2 w 22 6 x) := if_pos (by decide +kernel)
theorem gi22_7 (w : Wo) : gi Lf w 22 5 7 = some (w 22 7) := if_pos (by decide +kernel)
theorem pf22_7 (w : Wo) (x : Int32) : pf Lf w 22 5 7 x = some (up2 w 22 7 x) := if_pos (by decide +kernel)
theorem gr22_8 : gr Lf 22 5 8 = some 26 := by decide +kernel
theorem gr22_9 : gr Lf 22 5 9 = some 27 := by decide +kernel
theorem gr22_10 : gr Lf 22 5 10 = some 28 := by decide +kernel
theorem gr22_11 : gr Lf 22 5 11 = some 29 := by decide +kernel
theorem gr22_12 : gr Lf 22 5 12 = some 30 := by decide +kernel
theorem gi22_13 (w : Wo) : gi Lf w 22 5 13 = some (w 22 13) := if_pos (by decide +kernel)
theorem pf22_13 (w : Wo) (x : Int32) : pf Lf w 22 5 13 x = some (up2 w 22 13 x) := if_pos (by decide +kernel)
theorem gi22_14 (w : Wo) : gi Lf w 22 5 14 = some (w 22 14) := if_pos (by decide +kernel)
theorem pf22_14 (w : Wo) (x : Int32) : pf Lf w 22 5 14 x = some (up2 w 22 14 x) := if_pos (by decide +kernel)
theorem gi22_15 (w : Wo) : gi Lf w 22 5 15 = some (w 22 15) := if_pos (by decide +kernel)
theorem pf22_15 (w : Wo) (x : Int32) : pf Lf w 22 5 15 x = some (up2 w 22 15 x) := if_pos (by decide +kernel)
theorem gi22_16 (w : Wo) : gi Lf w 22 5 16 = some (w 22 16) := if_pos (by decide +kernel)
theorem pf22_16 (w : Wo) (x : Int32) : pf Lf w 22 5 16 x = some (up2 w 22 16 x) := if_pos (by decide +kernel)
theorem gr22_17 : gr Lf 22 5 17 = some 31 := by decide +kernel
theorem gr22_18 : gr Lf 22 5 18 = some 32 := by decide +kernel
theorem gr22_19 : gr Lf 22 5 19 = some 33 := by decide +kernel
theorem grD_0 (d : Nat) : gr Lf (dc d) 0 0 = some (dc d + 1) := by rcases dc01 d with h | h <;> rw [h] <;> decide +kernel
theorem grD_1 (d : Nat) : gr Lf (dc d) 0 1 = some (dc d + 2) := by rcases dc01 d with h | h <;> rw [h] <;> decide +kernel
theorem grD_2 (d : Nat) : gr Lf (dc d) 0 2 = some (dc d + 3) := by rcases dc01 d with h | h <;> rw [h] <;> decide +kernel
theorem grD_3 (d : Nat) : gr Lf (dc d) 0 3 = some (dc d + 4) := by rcases dc01 d with h | h <;> rw [h] <;> decide +kernel
theorem giD_4 (w : Wo) (d : Nat) : gi Lf w (dc d) 0 4 = some (w (dc d) 4) := by rcases dc01 d with h | h <;> rw [h] <;> exact if_pos (by decide +kernel)
theorem pfD_4 (w : Wo) (d : Nat) (x : Int32) : pf Lf w (dc d) 0 4 x = some (up2 w (dc d) 4 x) := by rcases dc01 d with h | h <;> rw [h] <;> exact if_pos (by decide +kernel)
theorem giD_5 (w : Wo) (d : Nat) : gi Lf w (dc d) 0 5 = some (w (dc d) 5) := by rcases dc01 d with h | h <;> rw [h] <;> exact if_pos (by decide +kernel)
theorem pfD_5 (w : Wo) (d : Nat) (x : Int32) : pf Lf w (dc d) 0 5 x = some (up2 w (dc d) 5 x) := by rcases dc01 d with h | h <;> rw [h] <;> exact if_pos (by decide +kernel)
theorem aok_n {c n N : Nat} (hc : c < 35) (har : ar c = some N) (hN : N ≤ 1584) (hn : n < N) : aok Lf c (nI n) = true := by
  unfold aok
  rw [har]
  show (decide (c < 35) && !(decide (nI n < 0) || decide (N ≤ (nI n).toNatClampNeg))) = true
  rw [nI_clamp (by omega), decide_eq_true hc, decide_eq_false (nI_pos (by omega)), decide_eq_false (by omega)]
  rfl
theorem ld_n {c n N : Nat} (w : Wo) (hc : c < 35) (har : ar c = some N) (hN : N ≤ 1584) (hn : n < N) : ld Lf w c (nI n) = some (w c n) := by
  unfold ld
  rw [if_pos (aok_n hc har hN hn), nI_clamp (by omega)]
theorem st_n {c n N : Nat} (w : Wo) (x : Int32) (hc : c < 35) (har : ar c = some N) (hN : N ≤ 1584) (hn : n < N) : st Lf w c (nI n) x = some (up2 w c n x) := by
  unfold st
  rw [if_pos (aok_n hc har hN hn), nI_clamp (by omega)]
theorem arD (d : Nat) : ar (dc d + 1) = some 792 ∧ ar (dc d + 2) = some 8 ∧ ar (dc d + 3) = some 8 ∧ ar (dc d + 4) = some 8 ∧ dc d + 4 < 35 := by rcases dc01 d with h | h <;> rw [h] <;> decide +kernel
theorem ld2 {n : Nat} (w : Wo) (h : n < 792) : ld Lf w 2 (nI n) = some (w 2 n) := ld_n w (by decide) rfl (by decide) h
theorem st2 {n : Nat} (w : Wo) (x : Int32) (h : n < 792) : st Lf w 2 (nI n) x = some (up2 w 2 n x) := st_n w x (by decide) rfl (by decide) h
theorem ld3 {n : Nat} (w : Wo) (h : n < 8) : ld Lf w 3 (nI n) = some (w 3 n) := ld_n w (by decide) rfl (by decide) h
theorem st3 {n : Nat} (w : Wo) (x : Int32) (h : n < 8) : st Lf w 3 (nI n) x = some (up2 w 3 n x) := st_n w x (by decide) rfl (by decide) h
theorem ld4 {n : Nat} (w : Wo) (h : n < 8) : ld Lf w 4 (nI n) = some (w 4 n) := ld_n w (by decide) rfl (by decide) h
theorem st4 {n : Nat} (w : Wo) (x : Int32) (h : n < 8) : st Lf w 4 (nI n) x = some (up2 w 4 n x) := st_n w x (by decide) rfl (by decide) h
theorem ld5 {n : Nat} (w : Wo) (h : n < 8) : ld Lf w 5 (nI n) = some (w 5 n) := ld_n w (by decide) rfl (by decide) h
theorem st5 {n : Nat} (w : Wo) (x : Int32) (h : n < 8) : st Lf w 5 (nI n) x = some (up2 w 5 n x) := st_n w x (by decide) rfl (by decide) h
theorem ld8 {n : Nat} (w : Wo) (h : n < 792) : ld Lf w 8 (nI n) = some (w 8 n) := ld_n w (by decide) rfl (by decide) h
theorem st8 {n : Nat} (w : Wo) (x : Int32) (h : n < 792) : st Lf w 8 (nI n) x = some (up2 w 8 n x) := st_n w x (by decide) rfl (by decide) h
theorem ld9 {n : Nat} (w : Wo) (h : n < 8) : ld Lf w 9 (nI n) = some (w 9 n) := ld_n w (by decide) rfl (by decide) h
theorem st9 {n : Nat} (w : Wo) (x : Int32) (h : n < 8) : st Lf w 9 (nI n) x = some (up2 w 9 n x) := st_n w x (by decide) rfl (by decide) h
theorem ld10 {n : Nat} (w : Wo) (h : n < 8) : ld Lf w 10 (nI n) = some (w 10 n) := ld_n w (by decide) rfl (by decide) h
theorem st10 {n : Nat} (w : Wo) (x : Int32) (h : n < 8) : st Lf w 10 (nI n) x = some (up2 w 10 n x) := st_n w x (by decide) rfl (by decide) h
theorem ld11 {n : Nat} (w : Wo) (h : n < 8) : ld Lf w 11 (nI n) = some (w 11 n) := ld_n w (by decide) rfl (by decide) h
theorem st11 {n : Nat} (w : Wo) (x : Int32) (h : n < 8) : st Lf w 11 (nI n) x = some (up2 w 11 n x) := st_n w x (by decide) rfl (by decide) h
theorem ld15 {n : Nat} (w : Wo) (h : n < 8) : ld Lf w 15 (nI n) = some (w 15 n) := ld_n w (by decide) rfl (by decide) h
theorem st15 {n : Nat} (w : Wo) (x : Int32) (h : n < 8) : st Lf w 15 (nI n) x = some (up2 w 15 n x) := st_n w x (by decide) rfl (by decide) h
theorem ld17 {n : Nat} (w : Wo) (h : n < 400) : ld Lf w 17 (nI n) = some (w 17 n) := ld_n w (by decide) rfl (by decide) h
theorem st17 {n : Nat} (w : Wo) (x : Int32) (h : n < 400) : st Lf w 17 (nI n) x = some (up2 w 17 n x) := st_n w x (by decide) rfl (by decide) h
theorem ld18 {n : Nat} (w : Wo) (h : n < 16) : ld Lf w 18 (nI n) = some (w 18 n) := ld_n w (by decide) rfl (by decide) h
theorem st18 {n : Nat} (w : Wo) (x : Int32) (h : n < 16) : st Lf w 18 (nI n) x = some (up2 w 18 n x) := st_n w x (by decide) rfl (by decide) h
theorem ld19 {n : Nat} (w : Wo) (h : n < 11) : ld Lf w 19 (nI n) = some (w 19 n) := ld_n w (by decide) rfl (by decide) h
theorem st19 {n : Nat} (w : Wo) (x : Int32) (h : n < 11) : st Lf w 19 (nI n) x = some (up2 w 19 n x) := st_n w x (by decide) rfl (by decide) h
theorem ld20 {n : Nat} (w : Wo) (h : n < 8) : ld Lf w 20 (nI n) = some (w 20 n) := ld_n w (by decide) rfl (by decide) h
theorem st20 {n : Nat} (w : Wo) (x : Int32) (h : n < 8) : st Lf w 20 (nI n) x = some (up2 w 20 n x) := st_n w x (by decide) rfl (by decide) h
theorem ld21 {n : Nat} (w : Wo) (h : n < 8) : ld Lf w 21 (nI n) = some (w 21 n) := ld_n w (by decide) rfl (by decide) h
theorem st21 {n : Nat} (w : Wo) (x : Int32) (h : n < 8) : st Lf w 21 (nI n) x = some (up2 w 21 n x) := st_n w x (by decide) rfl (by decide) h
theorem ld23 {n : Nat} (w : Wo) (h : n < 1584) : ld Lf w 23 (nI n) = some (w 23 n) := ld_n w (by decide) rfl (by decide) h
theorem st23 {n : Nat} (w : Wo) (x : Int32) (h : n < 1584) : st Lf w 23 (nI n) x = some (up2 w 23 n x) := st_n w x (by decide) rfl (by decide) h
theorem ld24 {n : Nat} (w : Wo) (h : n < 16) : ld Lf w 24 (nI n) = some (w 24 n) := ld_n w (by decide) rfl (by decide) h
theorem st24 {n : Nat} (w : Wo) (x : Int32) (h : n < 16) : st Lf w 24 (nI n) x = some (up2 w 24 n x) := st_n w x (by decide) rfl (by decide) h
theorem ld25 {n : Nat} (w : Wo) (h : n < 8) : ld Lf w 25 (nI n) = some (w 25 n) := ld_n w (by decide) rfl (by decide) h
theorem st25 {n : Nat} (w : Wo) (x : Int32) (h : n < 8) : st Lf w 25 (nI n) x = some (up2 w 25 n x) := st_n w x (by decide) rfl (by decide) h
theorem ld26 {n : Nat} (w : Wo) (h : n < 2) : ld Lf w 26 (nI n) = some (w 26 n) := ld_n w (by decide) rfl (by decide) h
theorem st26 {n : Nat} (w : Wo) (x : Int32) (h : n < 2) : st Lf w 26 (nI n) x = some (up2 w 26 n x) := st_n w x (by decide) rfl (by decide) h
theorem ld27 {n : Nat} (w : Wo) (h : n < 2) : ld Lf w 27 (nI n) = some (w 27 n) := ld_n w (by decide) rfl (by decide) h
theorem st27 {n : Nat} (w : Wo) (x : Int32) (h : n < 2) : st Lf w 27 (nI n) x = some (up2 w 27 n x) := st_n w x (by decide) rfl (by decide) h
theorem ld28 {n : Nat} (w : Wo) (h : n < 16) : ld Lf w 28 (nI n) = some (w 28 n) := ld_n w (by decide) rfl (by decide) h
theorem st28 {n : Nat} (w : Wo) (x : Int32) (h : n < 16) : st Lf w 28 (nI n) x = some (up2 w 28 n x) := st_n w x (by decide) rfl (by decide) h
theorem ld29 {n : Nat} (w : Wo) (h : n < 16) : ld Lf w 29 (nI n) = some (w 29 n) := ld_n w (by decide) rfl (by decide) h
theorem st29 {n : Nat} (w : Wo) (x : Int32) (h : n < 16) : st Lf w 29 (nI n) x = some (up2 w 29 n x) := st_n w x (by decide) rfl (by decide) h
theorem ld30 {n : Nat} (w : Wo) (h : n < 16) : ld Lf w 30 (nI n) = some (w 30 n) := ld_n w (by decide) rfl (by decide) h
theorem st30 {n : Nat} (w : Wo) (x : Int32) (h : n < 16) : st Lf w 30 (nI n) x = some (up2 w 30 n x) := st_n w x (by decide) rfl (by decide) h
theorem ld31 {n : Nat} (w : Wo) (h : n < 400) : ld Lf w 31 (nI n) = some (w 31 n) := ld_n w (by decide) rfl (by decide) h
theorem st31 {n : Nat} (w : Wo) (x : Int32) (h : n < 400) : st Lf w 31 (nI n) x = some (up2 w 31 n x) := st_n w x (by decide) rfl (by decide) h
theorem ld32 {n : Nat} (w : Wo) (h : n < 11) : ld Lf w 32 (nI n) = some (w 32 n) := ld_n w (by decide) rfl (by decide) h
theorem st32 {n : Nat} (w : Wo) (x : Int32) (h : n < 11) : st Lf w 32 (nI n) x = some (up2 w 32 n x) := st_n w x (by decide) rfl (by decide) h
theorem ld33 {n : Nat} (w : Wo) (h : n < 8) : ld Lf w 33 (nI n) = some (w 33 n) := ld_n w (by decide) rfl (by decide) h
theorem st33 {n : Nat} (w : Wo) (x : Int32) (h : n < 8) : st Lf w 33 (nI n) x = some (up2 w 33 n x) := st_n w x (by decide) rfl (by decide) h
theorem ldD1 {n : Nat} (w : Wo) (d : Nat) (h : n < 792) : ld Lf w (dc d + 1) (nI n) = some (w (dc d + 1) n) := ld_n w (by have := (arD d).2.2.2.2; omega) (arD d).1 (by decide) h
theorem stD1 {n : Nat} (w : Wo) (d : Nat) (x : Int32) (h : n < 792) : st Lf w (dc d + 1) (nI n) x = some (up2 w (dc d + 1) n x) := st_n w x (by have := (arD d).2.2.2.2; omega) (arD d).1 (by decide) h
theorem ldD2 {n : Nat} (w : Wo) (d : Nat) (h : n < 8) : ld Lf w (dc d + 2) (nI n) = some (w (dc d + 2) n) := ld_n w (by have := (arD d).2.2.2.2; omega) (arD d).2.1 (by decide) h
theorem stD2 {n : Nat} (w : Wo) (d : Nat) (x : Int32) (h : n < 8) : st Lf w (dc d + 2) (nI n) x = some (up2 w (dc d + 2) n x) := st_n w x (by have := (arD d).2.2.2.2; omega) (arD d).2.1 (by decide) h
theorem ldD3 {n : Nat} (w : Wo) (d : Nat) (h : n < 8) : ld Lf w (dc d + 3) (nI n) = some (w (dc d + 3) n) := ld_n w (by have := (arD d).2.2.2.2; omega) (arD d).2.2.1 (by decide) h
theorem stD3 {n : Nat} (w : Wo) (d : Nat) (x : Int32) (h : n < 8) : st Lf w (dc d + 3) (nI n) x = some (up2 w (dc d + 3) n x) := st_n w x (by have := (arD d).2.2.2.2; omega) (arD d).2.2.1 (by decide) h
theorem ldD4 {n : Nat} (w : Wo) (d : Nat) (h : n < 8) : ld Lf w (dc d + 4) (nI n) = some (w (dc d + 4) n) := ld_n w (by have := (arD d).2.2.2.2; omega) (arD d).2.2.2.1 (by decide) h
theorem stD4 {n : Nat} (w : Wo) (d : Nat) (x : Int32) (h : n < 8) : st Lf w (dc d + 4) (nI n) x = some (up2 w (dc d + 4) n x) := st_n w x (by have := (arD d).2.2.2.2; omega) (arD d).2.2.2.1 (by decide) h
/-! numbers -/
theorem ad_0 (a : Nat) : nI a + (0 : Int32) = nI (a + 0) := nI_add a 0
theorem da_0 (a : Nat) : (0 : Int32) + nI a = nI (0 + a) := nI_add 0 a
theorem mu_0 (a : Nat) : (0 : Int32) * nI a = nI (0 * a) := pk_mul 0 a
theorem um_0 (a : Nat) : nI a * (0 : Int32) = nI (a * 0) := pk_mul a 0
theorem le_0 {a : Nat} (ha : a < 2 ^ 31) : ((0 : Int32) ≤ nI a) = (0 ≤ a) := propext (nI_leI (a := 0) (by decide) ha)
theorem el_0 {a : Nat} (ha : a < 2 ^ 31) : (nI a ≤ (0 : Int32)) = (a ≤ 0) := propext (nI_leI (b := 0) ha (by decide))
theorem lk_0 {a : Nat} (ha : a < 2 ^ 31) : ((0 : Int32) < nI a) = (0 < a) := propext (nI_ltI (a := 0) (by decide) ha)
theorem tl_0 {a : Nat} (ha : a < 2 ^ 31) : (nI a < (0 : Int32)) = (a < 0) := propext (nI_ltI (b := 0) ha (by decide))
theorem eq_0 {a : Nat} (ha : a < 2 ^ 31) : (nI a = (0 : Int32)) = (a = 0) := propext (nI_eq (b := 0) ha (by decide))
theorem ad_1 (a : Nat) : nI a + (1 : Int32) = nI (a + 1) := nI_add a 1
theorem da_1 (a : Nat) : (1 : Int32) + nI a = nI (1 + a) := nI_add 1 a
theorem mu_1 (a : Nat) : (1 : Int32) * nI a = nI (1 * a) := pk_mul 1 a
theorem um_1 (a : Nat) : nI a * (1 : Int32) = nI (a * 1) := pk_mul a 1
theorem le_1 {a : Nat} (ha : a < 2 ^ 31) : ((1 : Int32) ≤ nI a) = (1 ≤ a) := propext (nI_leI (a := 1) (by decide) ha)
theorem el_1 {a : Nat} (ha : a < 2 ^ 31) : (nI a ≤ (1 : Int32)) = (a ≤ 1) := propext (nI_leI (b := 1) ha (by decide))
theorem lk_1 {a : Nat} (ha : a < 2 ^ 31) : ((1 : Int32) < nI a) = (1 < a) := propext (nI_ltI (a := 1) (by decide) ha)
theorem tl_1 {a : Nat} (ha : a < 2 ^ 31) : (nI a < (1 : Int32)) = (a < 1) := propext (nI_ltI (b := 1) ha (by decide))
theorem eq_1 {a : Nat} (ha : a < 2 ^ 31) : (nI a = (1 : Int32)) = (a = 1) := propext (nI_eq (b := 1) ha (by decide))
theorem ad_2 (a : Nat) : nI a + (2 : Int32) = nI (a + 2) := nI_add a 2
theorem da_2 (a : Nat) : (2 : Int32) + nI a = nI (2 + a) := nI_add 2 a
theorem mu_2 (a : Nat) : (2 : Int32) * nI a = nI (2 * a) := pk_mul 2 a
theorem um_2 (a : Nat) : nI a * (2 : Int32) = nI (a * 2) := pk_mul a 2
theorem le_2 {a : Nat} (ha : a < 2 ^ 31) : ((2 : Int32) ≤ nI a) = (2 ≤ a) := propext (nI_leI (a := 2) (by decide) ha)
theorem el_2 {a : Nat} (ha : a < 2 ^ 31) : (nI a ≤ (2 : Int32)) = (a ≤ 2) := propext (nI_leI (b := 2) ha (by decide))
theorem lk_2 {a : Nat} (ha : a < 2 ^ 31) : ((2 : Int32) < nI a) = (2 < a) := propext (nI_ltI (a := 2) (by decide) ha)
theorem tl_2 {a : Nat} (ha : a < 2 ^ 31) : (nI a < (2 : Int32)) = (a < 2) := propext (nI_ltI (b := 2) ha (by decide))
theorem eq_2 {a : Nat} (ha : a < 2 ^ 31) : (nI a = (2 : Int32)) = (a = 2) := propext (nI_eq (b := 2) ha (by decide))
theorem ad_3 (a : Nat) : nI a + (3 : Int32) = nI (a + 3) := nI_add a 3
theorem da_3 (a : Nat) : (3 : Int32) + nI a = nI (3 + a) := nI_add 3 a
theorem mu_3 (a : Nat) : (3 : Int32) * nI a = nI (3 * a) := pk_mul 3 a
theorem um_3 (a : Nat) : nI a * (3 : Int32) = nI (a * 3) := pk_mul a 3
theorem le_3 {a : Nat} (ha : a < 2 ^ 31) : ((3 : Int32) ≤ nI a) = (3 ≤ a) := propext (nI_leI (a := 3) (by decide) ha)
theorem el_3 {a : Nat} (ha : a < 2 ^ 31) : (nI a ≤ (3 : Int32)) = (a ≤ 3) := propext (nI_leI (b := 3) ha (by decide))
theorem lk_3 {a : Nat} (ha : a < 2 ^ 31) : ((3 : Int32) < nI a) = (3 < a) := propext (nI_ltI (a := 3) (by decide) ha)
theorem tl_3 {a : Nat} (ha : a < 2 ^ 31) : (nI a < (3 : Int32)) = (a < 3) := propext (nI_ltI (b := 3) ha (by decide))
theorem eq_3 {a : Nat} (ha : a < 2 ^ 31) : (nI a = (3 : Int32)) = (a = 3) := propext (nI_eq (b := 3) ha (by decide))
theorem ad_4 (a : Nat) : nI a + (4 : Int32) = nI (a + 4) := nI_add a 4
theorem da_4 (a : Nat) : (4 : Int32) + nI a = nI (4 + a) := nI_add 4 a
theorem mu_4 (a : Nat) : (4 : Int32) * nI a = nI (4 * a) := pk_mul 4 a
theorem um_4 (a : Nat) : nI a * (4 : Int32) = nI (a * 4) := pk_mul a 4
theorem le_4 {a : Nat} (ha : a < 2 ^ 31) : ((4 : Int32) ≤ nI a) = (4 ≤ a) := propext (nI_leI (a := 4) (by decide) ha)
theorem el_4 {a : Nat} (ha : a < 2 ^ 31) : (nI a ≤ (4 : Int32)) = (a ≤ 4) := propext (nI_leI (b := 4) ha (by decide))
theorem lk_4 {a : Nat} (ha : a < 2 ^ 31) : ((4 : Int32) < nI a) = (4 < a) := propext (nI_ltI (a := 4) (by decide) ha)
theorem tl_4 {a : Nat} (ha : a < 2 ^ 31) : (nI a < (4 : Int32)) = (a < 4) := propext (nI_ltI (b := 4) ha (by decide))
theorem eq_4 {a : Nat} (ha : a < 2 ^ 31) : (nI a = (4 : Int32)) = (a = 4) := propext (nI_eq (b := 4) ha (by decide))
theorem ad_5 (a : Nat) : nI a + (5 : Int32) = nI (a + 5) := nI_add a 5
theorem da_5 (a : Nat) : (5 : Int32) + nI a = nI (5 + a) := nI_add 5 a
theorem mu_5 (a : Nat) : (5 : Int32) * nI a = nI (5 * a) := pk_mul 5 a
theorem um_5 (a : Nat) : nI a * (5 : Int32) = nI (a * 5) := pk_mul a 5
theorem le_5 {a : Nat} (ha : a < 2 ^ 31) : ((5 : Int32) ≤ nI a) = (5 ≤ a) := propext (nI_leI (a := 5) (by decide) ha)
theorem el_5 {a : Nat} (ha : a < 2 ^ 31) : (nI a ≤ (5 : Int32)) = (a ≤ 5) := propext (nI_leI (b := 5) ha (by decide))
theorem lk_5 {a : Nat} (ha : a < 2 ^ 31) : ((5 : Int32) < nI a) = (5 < a) := propext (nI_ltI (a := 5) (by decide) ha)
theorem tl_5 {a : Nat} (ha : a < 2 ^ 31) : (nI a < (5 : Int32)) = (a < 5) := propext (nI_ltI (b := 5) ha (by decide))
theorem eq_5 {a : Nat} (ha : a < 2 ^ 31) : (nI a = (5 : Int32)) = (a = 5) := propext (nI_eq (b := 5) ha (by decide))
theorem ad_6 (a : Nat) : nI a + (6 : Int32) = nI (a + 6) := nI_add a 6
theorem da_6 (a : Nat) : (6 : Int32) + nI a = nI (6 + a) := nI_add 6 a
theorem mu_6 (a : Nat) : (6 : Int32) * nI a = nI (6 * a) := pk_mul 6 a
theorem um_6 (a : Nat) : nI a * (6 : Int32) = nI (a * 6) := pk_mul a 6
theorem le_6 {a : Nat} (ha : a < 2 ^ 31) : ((6 : Int32) ≤ nI a) = (6 ≤ a) := propext (nI_leI (a := 6) (by decide) ha)
theorem el_6 {a : Nat} (ha : a < 2 ^ 31) : (nI a ≤ (6 : Int32)) = (a ≤ 6) := propext (nI_leI (b := 6) ha (by decide))
theorem lk_6 {a : Nat} (ha : a < 2 ^ 31) : ((6 : Int32) < nI a) = (6 < a) := propext (nI_ltI (a := 6) (by decide) ha)
theorem tl_6 {a : Nat} (ha : a < 2 ^ 31) : (nI a < (6 : Int32)) = (a < 6) := propext (nI_ltI (b := 6) ha (by decide))
theorem eq_6 {a : Nat} (ha : a < 2 ^ 31) : (nI a = (6 : Int32)) = (a = 6) := propext (nI_eq (b := 6) ha (by decide))
theorem ad_7 (a : Nat) : nI a + (7 : Int32) = nI (a + 7) := nI_add a 7
theorem da_7 (a : Nat) : (7 : Int32) + nI a = nI (7 + a) := nI_add 7 a
theorem mu_7 (a : Nat) : (7 : Int32) * nI a = nI (7 * a) := pk_mul 7 a
theorem um_7 (a : Nat) : nI a * (7 : Int32) = nI (a * 7) := pk_mul a 7
theorem le_7 {a : Nat} (ha : a < 2 ^ 31) : ((7 : Int32) ≤ nI a) = (7 ≤ a) := propext (nI_leI (a := 7) (by decide) ha)
theorem el_7 {a : Nat} (ha : a < 2 ^ 31) : (nI a ≤ (7 : Int32)) = (a ≤ 7) := propext (nI_leI (b := 7) ha (by decide))
theorem lk_7 {a : Nat} (ha : a < 2 ^ 31) : ((7 : Int32) < nI a) = (7 < a) := propext (nI_ltI (a := 7) (by decide) ha)
theorem tl_7 {a : Nat} (ha : a < 2 ^ 31) : (nI a < (7 : Int32)) = (a < 7) := propext (nI_ltI (b := 7) ha (by decide))
theorem eq_7 {a : Nat} (ha : a < 2 ^ 31) : (nI a = (7 : Int32)) = (a = 7) := propext (nI_eq (b := 7) ha (by decide))
theorem ad_8 (a : Nat) : nI a + (8 : Int32) = nI (a + 8) := nI_add a 8
theorem da_8 (a : Nat) : (8 : Int32) + nI a = nI (8 + a) := nI_add 8 a
theorem mu_8 (a : Nat) : (8 : Int32) * nI a = nI (8 * a) := pk_mul 8 a
theorem um_8 (a : Nat) : nI a * (8 : Int32) = nI (a * 8) := pk_mul a 8
theorem le_8 {a : Nat} (ha : a < 2 ^ 31) : ((8 : Int32) ≤ nI a) = (8 ≤ a) := propext (nI_leI (a := 8) (by decide) ha)
theorem el_8 {a : Nat} (ha : a < 2 ^ 31) : (nI a ≤ (8 : Int32)) = (a ≤ 8) := propext (nI_leI (b := 8) ha (by decide))
theorem lk_8 {a : Nat} (ha : a < 2 ^ 31) : ((8 : Int32) < nI a) = (8 < a) := propext (nI_ltI (a := 8) (by decide) ha)
theorem tl_8 {a : Nat} (ha : a < 2 ^ 31) : (nI a < (8 : Int32)) = (a < 8) := propext (nI_ltI (b := 8) ha (by decide))
theorem eq_8 {a : Nat} (ha : a < 2 ^ 31) : (nI a = (8 : Int32)) = (a = 8) := propext (nI_eq (b := 8) ha (by decide))
theorem ad_9 (a : Nat) : nI a + (9 : Int32) = nI (a + 9) := nI_add a 9
theorem da_9 (a : Nat) : (9 : Int32) + nI a = nI (9 + a) := nI_add 9 a
theorem mu_9 (a : Nat) : (9 : Int32) * nI a = nI (9 * a) := pk_mul 9 a
theorem um_9 (a : Nat) : nI a * (9 : Int32) = nI (a * 9) := pk_mul a 9
theorem le_9 {a : Nat} (ha : a < 2 ^ 31) : ((9 : Int32) ≤ nI a) = (9 ≤ a) := propext (nI_leI (a := 9) (by decide) ha)
theorem el_9 {a : Nat} (ha : a < 2 ^ 31) : (nI a ≤ (9 : Int32)) = (a ≤ 9) := propext (nI_leI (b := 9) ha (by decide))
theorem lk_9 {a : Nat} (ha : a < 2 ^ 31) : ((9 : Int32) < nI a) = (9 < a) := propext (nI_ltI (a := 9) (by decide) ha)
theorem tl_9 {a : Nat} (ha : a < 2 ^ 31) : (nI a < (9 : Int32)) = (a < 9) := propext (nI_ltI (b := 9) ha (by decide))
theorem eq_9 {a : Nat} (ha : a < 2 ^ 31) : (nI a = (9 : Int32)) = (a = 9) := propext (nI_eq (b := 9) ha (by decide))
theorem ad_10 (a : Nat) : nI a + (10 : Int32) = nI (a + 10) := nI_add a 10
theorem da_10 (a : Nat) : (10 : Int32) + nI a = nI (10 + a) := nI_add 10 a
theorem mu_10 (a : Nat) : (10 : Int32) * nI a = nI (10 * a) := pk_mul 10 a
theorem um_10 (a : Nat) : nI a * (10 : Int32) = nI (a * 10) := pk_mul a 10
theorem le_10 {a : Nat} (ha : a < 2 ^ 31) : ((10 : Int32) ≤ nI a) = (10 ≤ a) := propext (nI_leI (a := 10) (by decide) ha)
theorem el_10 {a : Nat} (ha : a < 2 ^ 31) : (nI a ≤ (10 : Int32)) = (a ≤ 10) := propext (nI_leI (b := 10) ha (by decide))
theorem lk_10 {a : Nat} (ha : a < 2 ^ 31) : ((10 : Int32) < nI a) = (10 < a) := propext (nI_ltI (a := 10) (by decide) ha)
theorem tl_10 {a : Nat} (ha : a < 2 ^ 31) : (nI a < (10 : Int32)) = (a < 10) := propext (nI_ltI (b := 10) ha (by decide))
theorem eq_10 {a : Nat} (ha : a < 2 ^ 31) : (nI a = (10 : Int32)) = (a = 10) := propext (nI_eq (b := 10) ha (by decide))
theorem ad_11 (a : Nat) : nI a + (11 : Int32) = nI (a + 11) := nI_add a 11
theorem da_11 (a : Nat) : (11 : Int32) + nI a = nI (11 + a) := nI_add 11 a
theorem mu_11 (a : Nat) : (11 : Int32) * nI a = nI (11 * a) := pk_mul 11 a
theorem um_11 (a : Nat) : nI a * (11 : Int32) = nI (a * 11) := pk_mul a 11
theorem le_11 {a : Nat} (ha : a < 2 ^ 31) : ((11 : Int32) ≤ nI a) = (11 ≤ a) := propext (nI_leI (a := 11) (by decide) ha)
theorem el_11 {a : Nat} (ha : a < 2 ^ 31) : (nI a ≤ (11 : Int32)) = (a ≤ 11) := propext (nI_leI (b := 11) ha (by decide))
theorem lk_11 {a : Nat} (ha : a < 2 ^ 31) : ((11 : Int32) < nI a) = (11 < a) := propext (nI_ltI (a := 11) (by decide) ha)
theorem tl_11 {a : Nat} (ha : a < 2 ^ 31) : (nI a < (11 : Int32)) = (a < 11) := propext (nI_ltI (b := 11) ha (by decide))
theorem eq_11 {a : Nat} (ha : a < 2 ^ 31) : (nI a = (11 : Int32)) = (a = 11) := propext (nI_eq (b := 11) ha (by decide))
theorem ad_16 (a : Nat) : nI a + (16 : Int32) = nI (a + 16) := nI_add a 16
theorem da_16 (a : Nat) : (16 : Int32) + nI a = nI (16 + a) := nI_add 16 a
theorem mu_16 (a : Nat) : (16 : Int32) * nI a = nI (16 * a) := pk_mul 16 a
theorem um_16 (a : Nat) : nI a * (16 : Int32) = nI (a * 16) := pk_mul a 16
theorem le_16 {a : Nat} (ha : a < 2 ^ 31) : ((16 : Int32) ≤ nI a) = (16 ≤ a) := propext (nI_leI (a := 16) (by decide) ha)
theorem el_16 {a : Nat} (ha : a < 2 ^ 31) : (nI a ≤ (16 : Int32)) = (a ≤ 16) := propext (nI_leI (b := 16) ha (by decide))
theorem lk_16 {a : Nat} (ha : a < 2 ^ 31) : ((16 : Int32) < nI a) = (16 < a) := propext (nI_ltI (a := 16) (by decide) ha)
theorem tl_16 {a : Nat} (ha : a < 2 ^ 31) : (nI a < (16 : Int32)) = (a < 16) := propext (nI_ltI (b := 16) ha (by decide))
theorem eq_16 {a : Nat} (ha : a < 2 ^ 31) : (nI a = (16 : Int32)) = (a = 16) := propext (nI_eq (b := 16) ha (by decide))
theorem ad_50 (a : Nat) : nI a + (50 : Int32) = nI (a + 50) := nI_add a 50
theorem da_50 (a : Nat) : (50 : Int32) + nI a = nI (50 + a) := nI_add 50 a
theorem mu_50 (a : Nat) : (50 : Int32) * nI a = nI (50 * a) := pk_mul 50 a
theorem um_50 (a : Nat) : nI a * (50 : Int32) = nI (a * 50) := pk_mul a 50
theorem le_50 {a : Nat} (ha : a < 2 ^ 31) : ((50 : Int32) ≤ nI a) = (50 ≤ a) := propext (nI_leI (a := 50) (by decide) ha)
theorem el_50 {a : Nat} (ha : a < 2 ^ 31) : (nI a ≤ (50 : Int32)) = (a ≤ 50) := propext (nI_leI (b := 50) ha (by decide))
theorem lk_50 {a : Nat} (ha : a < 2 ^ 31) : ((50 : Int32) < nI a) = (50 < a) := propext (nI_ltI (a := 50) (by decide) ha)
theorem tl_50 {a : Nat} (ha : a < 2 ^ 31) : (nI a < (50 : Int32)) = (a < 50) := propext (nI_ltI (b := 50) ha (by decide))
theorem eq_50 {a : Nat} (ha : a < 2 ^ 31) : (nI a = (50 : Int32)) = (a = 50) := propext (nI_eq (b := 50) ha (by decide))
theorem ad_60 (a : Nat) : nI a + (60 : Int32) = nI (a + 60) := nI_add a 60
theorem da_60 (a : Nat) : (60 : Int32) + nI a = nI (60 + a) := nI_add 60 a
theorem mu_60 (a : Nat) : (60 : Int32) * nI a = nI (60 * a) := pk_mul 60 a
theorem um_60 (a : Nat) : nI a * (60 : Int32) = nI (a * 60) := pk_mul a 60
theorem le_60 {a : Nat} (ha : a < 2 ^ 31) : ((60 : Int32) ≤ nI a) = (60 ≤ a) := propext (nI_leI (a := 60) (by decide) ha)
theorem el_60 {a : Nat} (ha : a < 2 ^ 31) : (nI a ≤ (60 : Int32)) = (a ≤ 60) := propext (nI_leI (b := 60) ha (by decide))
theorem lk_60 {a : Nat} (ha : a < 2 ^ 31) : ((60 : Int32) < nI a) = (60 < a) := propext (nI_ltI (a := 60) (by decide) ha)
theorem tl_60 {a : Nat} (ha : a < 2 ^ 31) : (nI a < (60 : Int32)) = (a < 60) := propext (nI_ltI (b := 60) ha (by decide))
theorem eq_60 {a : Nat} (ha : a < 2 ^ 31) : (nI a = (60 : Int32)) = (a = 60) := propext (nI_eq (b := 60) ha (by decide))
theorem ad_64 (a : Nat) : nI a + (64 : Int32) = nI (a + 64) := nI_add a 64
theorem da_64 (a : Nat) : (64 : Int32) + nI a = nI (64 + a) := nI_add 64 a
theorem mu_64 (a : Nat) : (64 : Int32) * nI a = nI (64 * a) := pk_mul 64 a
theorem um_64 (a : Nat) : nI a * (64 : Int32) = nI (a * 64) := pk_mul a 64
theorem le_64 {a : Nat} (ha : a < 2 ^ 31) : ((64 : Int32) ≤ nI a) = (64 ≤ a) := propext (nI_leI (a := 64) (by decide) ha)
theorem el_64 {a : Nat} (ha : a < 2 ^ 31) : (nI a ≤ (64 : Int32)) = (a ≤ 64) := propext (nI_leI (b := 64) ha (by decide))
theorem lk_64 {a : Nat} (ha : a < 2 ^ 31) : ((64 : Int32) < nI a) = (64 < a) := propext (nI_ltI (a := 64) (by decide) ha)
theorem tl_64 {a : Nat} (ha : a < 2 ^ 31) : (nI a < (64 : Int32)) = (a < 64) := propext (nI_ltI (b := 64) ha (by decide))
theorem eq_64 {a : Nat} (ha : a < 2 ^ 31) : (nI a = (64 : Int32)) = (a = 64) := propext (nI_eq (b := 64) ha (by decide))
theorem ad_72 (a : Nat) : nI a + (72 : Int32) = nI (a + 72) := nI_add a 72
theorem da_72 (a : Nat) : (72 : Int32) + nI a = nI (72 + a) := nI_add 72 a
theorem mu_72 (a : Nat) : (72 : Int32) * nI a = nI (72 * a) := pk_mul 72 a
theorem um_72 (a : Nat) : nI a * (72 : Int32) = nI (a * 72) := pk_mul a 72
theorem le_72 {a : Nat} (ha : a < 2 ^ 31) : ((72 : Int32) ≤ nI a) = (72 ≤ a) := propext (nI_leI (a := 72) (by decide) ha)
theorem el_72 {a : Nat} (ha : a < 2 ^ 31) : (nI a ≤ (72 : Int32)) = (a ≤ 72) := propext (nI_leI (b := 72) ha (by decide))
theorem lk_72 {a : Nat} (ha : a < 2 ^ 31) : ((72 : Int32) < nI a) = (72 < a) := propext (nI_ltI (a := 72) (by decide) ha)
theorem tl_72 {a : Nat} (ha : a < 2 ^ 31) : (nI a < (72 : Int32)) = (a < 72) := propext (nI_ltI (b := 72) ha (by decide))
theorem eq_72 {a : Nat} (ha : a < 2 ^ 31) : (nI a = (72 : Int32)) = (a = 72) := propext (nI_eq (b := 72) ha (by decide))
theorem ad_100 (a : Nat) : nI a + (100 : Int32) = nI (a + 100) := nI_add a 100
theorem da_100 (a : Nat) : (100 : Int32) + nI a = nI (100 + a) := nI_add 100 a
theorem mu_100 (a : Nat) : (100 : Int32) * nI a = nI (100 * a) := pk_mul 100 a
theorem um_100 (a : Nat) : nI a * (100 : Int32) = nI (a * 100) := pk_mul a 100
theorem le_100 {a : Nat} (ha : a < 2 ^ 31) : ((100 : Int32) ≤ nI a) = (100 ≤ a) := propext (nI_leI (a := 100) (by decide) ha)
theorem el_100 {a : Nat} (ha : a < 2 ^ 31) : (nI a ≤ (100 : Int32)) = (a ≤ 100) := propext (nI_leI (b := 100) ha (by decide))
theorem lk_100 {a : Nat} (ha : a < 2 ^ 31) : ((100 : Int32) < nI a) = (100 < a) := propext (nI_ltI (a := 100) (by decide) ha)
theorem tl_100 {a : Nat} (ha : a < 2 ^ 31) : (nI a < (100 : Int32)) = (a < 100) := propext (nI_ltI (b := 100) ha (by decide))
theorem eq_100 {a : Nat} (ha : a < 2 ^ 31) : (nI a = (100 : Int32)) = (a = 100) := propext (nI_eq (b := 100) ha (by decide))
theorem ad_792 (a : Nat) : nI a + (792 : Int32) = nI (a + 792) := nI_add a 792
theorem da_792 (a : Nat) : (792 : Int32) + nI a = nI (792 + a) := nI_add 792 a
theorem mu_792 (a : Nat) : (792 : Int32) * nI a = nI (792 * a) := pk_mul 792 a
theorem um_792 (a : Nat) : nI a * (792 : Int32) = nI (a * 792) := pk_mul a 792
theorem le_792 {a : Nat} (ha : a < 2 ^ 31) : ((792 : Int32) ≤ nI a) = (792 ≤ a) := propext (nI_leI (a := 792) (by decide) ha)
theorem el_792 {a : Nat} (ha : a < 2 ^ 31) : (nI a ≤ (792 : Int32)) = (a ≤ 792) := propext (nI_leI (b := 792) ha (by decide))
theorem lk_792 {a : Nat} (ha : a < 2 ^ 31) : ((792 : Int32) < nI a) = (792 < a) := propext (nI_ltI (a := 792) (by decide) ha)
theorem tl_792 {a : Nat} (ha : a < 2 ^ 31) : (nI a < (792 : Int32)) = (a < 792) := propext (nI_ltI (b := 792) ha (by decide))
theorem eq_792 {a : Nat} (ha : a < 2 ^ 31) : (nI a = (792 : Int32)) = (a = 792) := propext (nI_eq (b := 792) ha (by decide))
theorem d8 {a : Nat} (h : a < 2 ^ 31) : nI a / (8 : Int32) = nI (a / 8) := pk_div h (by decide) (by decide)
theorem r8 {a : Nat} (h : a < 2 ^ 31) : nI a - nI a / (8 : Int32) * 8 = nI (a % 8) := pk_rem h (by decide) (by decide)
theorem s1 {a : Nat} (h : a ≤ 1) : (1 : Int32) - nI a = nI (1 - a) := pk_sub h
theorem neg1 {a : Nat} (ha : a < 2 ^ 31) : ¬ nI a = -1 := fun h => by
  have h1 := congrArg Int32.toInt h
  rw [nI_toInt ha] at h1
  have h2 : (-1 : Int32).toInt = -1 := by decide +kernel
  omega
/-! the sum of a row -/
def mixf (s v : Int32) : Int32 := ((s <<< (5 &&& 31)) ||| ush s 27) + v
def sm8 (r : Nat → Int32) : Nat → Int32
  | 0 => 0
  | k + 1 => mixf (sm8 r k) (r k)
def sm (r : Nat → Int32) : Int32 := mixf (mixf (sm8 r 8) (r 9)) (r 10)
theorem mix_e (w : Wo) (s v : Int32) : fM_mix Lf w s v = some (w, mixf s v) := rfl
theorem place_e (w : Wo) (d s : Nat) : fM_place Lf w (nI d) (nI s) = some (w, nI (11 * (72 * d + s))) := by
  unfold fM_place
  rw [mu_72, nI_add, mu_11]
theorem sumAt_l (w : Wo) (a : Nat) (ha : a + 10 < 1584) : ∀ (j k n : Nat), k + j = 8 → bM_sumAt_4 Lf (n + (j + 1)) w 22 (nI a) (sm8 (fun i => w 23 (a + i)) k) (nI k) = some (w, sm (fun i => w 23 (a + i))) := by
  intro j
  induction j with
  | zero =>
    intro k n hk
    have hk : k = 8 := by omega
    subst hk
    show bM_sumAt_4s Lf _ w 22 _ _ _ = _
    unfold bM_sumAt_4s
    rw [if_pos (by rw [le_8 (by decide)]; omega)]
    simp only [gr22_1, bd, ad_9, ad_10, mix_e]
    rw [ld23 w (by omega), bd, ld23 w (by omega), bd]
    rfl
  | succ j ih =>
    intro k n hk
    show bM_sumAt_4s Lf _ w 22 _ _ _ = _
    unfold bM_sumAt_4s
    rw [if_neg (by rw [le_8 (by omega)]; omega)]
    simp only [gr22_1, bd, nI_add, mix_e]
    rw [ld23 w (by omega), bd]
    show bM_sumAt_4 Lf (n + (j + 1)) w 22 (nI a) (mixf (sm8 (fun i => w 23 (a + i)) k) (w 23 (a + k))) (nI k + 1) = _
    rw [← nI_succ]
    exact ih (k + 1) n (by omega)
theorem sumAt_e (w : Wo) (a : Nat) (ha : a + 10 < 1584) : fM_sumAt Lf w 22 (nI a) = some (w, sm (fun i => w 23 (a + i))) := by
  unfold fM_sumAt
  rw [isC22, gdt]
  exact sumAt_l w a ha 8 0 991 rfl
def sx11 (r : Nat → Int32) : Nat → Int32
  | 0 => 0
  | k + 1 => if k = 8 then sx11 r k else mixf (sx11 r k) (r k)
theorem sx11_e (r : Nat → Int32) : sx11 r 11 = sm r := rfl
theorem sumOf_l (w : Wo) (c a N : Nat) (hc : c < 35) (har : ar c = some N) (hN : N ≤ 1584) (ha : a + 10 < N) : ∀ (j k n : Nat), k + j = 11 → bG_sumOf_4 Lf (n + (j + 1)) w c (nI a) (sx11 (fun i => w c (a + i)) k) (nI k) = some (w, sm (fun i => w c (a + i))) := by
  intro j
  induction j with
  | zero =>
    intro k n hk
    have hk : k = 11 := by omega
    subst hk
    show bG_sumOf_4s Lf _ w c _ _ _ = _
    unfold bG_sumOf_4s
    rw [if_pos (by rw [le_11 (by decide)]; omega), sx11_e]
  | succ j ih =>
    intro k n hk
    show bG_sumOf_4s Lf _ w c _ _ _ = _
    unfold bG_sumOf_4s
    rw [if_neg (by rw [le_11 (by omega)]; omega)]
    have hn : ∀ x, x = sx11 (fun i => w c (a + i)) (k + 1) → bG_sumOf_31 Lf (bG_sumOf_4 Lf (n + (j + 1))) w c (nI a) x (nI k) = some (w, sm (fun i => w c (a + i))) := by
      intro x hx
      subst hx
      show bG_sumOf_4 Lf (n + (j + 1)) w c (nI a) _ (nI k + 1) = _
      rw [← nI_succ]
      exact ih (k + 1) n (by omega)
    by_cases h8 : k = 8
    · rw [if_pos (by rw [eq_8 (by omega)]; exact h8)]
      refine hn _ ?_
      show _ = if k = 8 then _ else _
      rw [if_pos h8]
    · rw [if_neg (by rw [eq_8 (by omega)]; exact h8), nI_add, ld_n w hc har hN (by omega), bd]
      refine hn _ ?_
      show _ = if k = 8 then _ else _
      rw [if_neg h8]
      rfl
theorem sumOf_e (w : Wo) (c a N : Nat) (hc : c < 35) (har : ar c = some N) (hN : N ≤ 1584) (ha : a + 10 < N) : fG_sumOf Lf w c (nI a) = some (w, sm (fun i => w c (a + i))) := by
  unfold fG_sumOf
  exact sumOf_l w c a N hc har hN ha 11 0 988 rfl

/-! the world: cells by number, in the order in which the law makes them; what a step reads and writes, as functions -/
abbrev Wo : Type := Nat → Nat → Int32
/-- how many cells there are, and which fields are still null -/
abbrev La : Type := Nat × (Nat → Nat → Bool)
def obL : List (Option (Nat × List (Option Nat))) :=
  [some (4, [some 1, some 7, some 13, some 14, some 16, some 18, none, none, some 19, some 20, some 21]),
   some (0, [some 2, some 3, some 4, some 5, none, none]), none, none, none, none, none,
   some (0, [some 8, some 9, some 10, some 11, none, none]), none, none, none, none, none,
   some (3, [none, none]),
   some (2, [some 15, none, none]), none,
   some (1, [some 17, none, none]), none, none, none, none, none,
   some (5, [none, some 23, some 24, none, some 25, none, none, none, some 26, some 27, some 28, some 29, some 30, none, none, none, none, some 31, some 32, some 33])]
def arL : List (Option Nat) :=
  [none, none, some 792, some 8, some 8, some 8, some 11, none, some 792, some 8, some 8, some 8, some 11, none, none, some 8, none, some 400, some 16, some 11, some 8, some 8,
   none, some 1584, some 16, some 8, some 2, some 2, some 16, some 16, some 16, some 400, some 11, some 8]
/-- an object: the number of its class, and of each field whether it is a number or which cell it names -/
def ob (c : Nat) : Option (Nat × List (Option Nat)) := (obL[c]?).join
/-- an array of ints: its length -/
def ar (c : Nat) : Option Nat := (arL[c]?).join
theorem ar_ob {c n : Nat} (h : ar c = some n) : ob c = none := by
  by_cases hc : c < 34
  · have key : ∀ c, c < 34 → ar c ≠ none → ob c = none := by decide +kernel
    exact key c hc (by rw [h]; exact fun q => by cases q)
  · have : arL[c]? = none := List.getElem?_eq_none (by show 34 ≤ c; omega)
    unfold ar at h
    rw [this] at h
    cases h
def fd (c k i : Nat) : Option (Option Nat) := (ob c).bind fun o => if o.1 = k then o.2[i]? else none
def up2 (w : Wo) (c i : Nat) (x : Int32) : Wo := fun d j => if d = c then (if j = i then x else w d j) else w d j
def cpw (w : Wo) (a i b j n : Nat) : Wo := fun d => if d = b then va_cpy (w a) (w b) i j n else w d
def isC (Λ : La) (c k : Nat) : Bool := decide (c < Λ.1) && ((ob c).map (·.1) == some k)
def gi (Λ : La) (w : Wo) (c k i : Nat) : Option Int32 := if c < Λ.1 ∧ fd c k i = some none then some (w c i) else none
def gr (Λ : La) (c k i : Nat) : Option Nat := if c < Λ.1 ∧ Λ.2 c i = false then (fd c k i).join else none
def pf (Λ : La) (w : Wo) (c k i : Nat) (x : Int32) : Option Wo := if c < Λ.1 ∧ fd c k i = some none then some (up2 w c i x) else none
def aok (Λ : La) (c : Nat) (i : Int32) : Bool := match ar c with
  | some n => decide (c < Λ.1) && !(decide (i < 0) || decide (n ≤ i.toNatClampNeg))
  | none => false
def ld (Λ : La) (w : Wo) (c : Nat) (i : Int32) : Option Int32 := if aok Λ c i = true then some (w c i.toNatClampNeg) else none
def st (Λ : La) (w : Wo) (c : Nat) (i x : Int32) : Option Wo := if aok Λ c i = true then some (up2 w c i.toNatClampNeg x) else none
def al (Λ : La) (c : Nat) : Option Int32 := if c < Λ.1 then (ar c).map Int32.ofNat else none
def cpk (Λ : La) (a : Nat) (i : Int32) (b : Nat) (j n : Int32) : Bool := match ar a, ar b with
  | some na, some nb => decide (a < Λ.1) && decide (b < Λ.1) && !decide (i < 0) && !decide (j < 0) && !decide (n < 0) && decide (i.toNatClampNeg + n.toNatClampNeg ≤ na) && decide (j.toNatClampNeg + n.toNatClampNeg ≤ nb)
  | _, _ => false
def cp (Λ : La) (w : Wo) (a : Nat) (i : Int32) (b : Nat) (j n : Int32) : Option Wo := if cpk Λ a i b j n = true then some (cpw w a i.toNatClampNeg b j.toNatClampNeg n.toNatClampNeg) else none
/-- only where it holds -/
def gd {α : Type} (b : Bool) (x : Option α) : Option α := if b = true then x else none
def zr (w : Wo) (x : Int32) : Option (Wo × Int32) := if x = 0 ∨ x = 1 then some (w, x) else none
def ush (x y : Int32) : Int32 := (x.toUInt32 >>> (y.toUInt32 &&& Int32.toUInt32 31)).toInt32
theorem ush_ok (x y : Int32) : (x.toUInt32 >>> (y.toUInt32 &&& Int32.toUInt32 31)).toInt32 = ush x y := rfl
theorem gd_some {α : Type} {b : Bool} {x : Option α} {q : α} (h : gd b x = some q) : b = true ∧ x = some q := by
  unfold gd at h
  by_cases hb : b = true
  · rw [if_pos hb] at h; exact ⟨hb, h⟩
  · rw [if_neg hb] at h; cases h
theorem ob_ {α β : Type} {x : Option α} {f : α → Option β} {q : β} (h : x.bind f = some q) : ∃ a, x = some a ∧ f a = some q := Option.bind_eq_some_iff.mp h
theorem ip_ {α : Type} {c : Prop} [Decidable c] {a b : Option α} {q : α} (h : (if c then a else b) = some q) (hc : c) : a = some q := by rw [if_pos hc] at h; exact h
theorem in_ {α : Type} {c : Prop} [Decidable c] {a b : Option α} {q : α} (h : (if c then a else b) = some q) (hc : ¬ c) : b = some q := by rw [if_neg hc] at h; exact h
theorem fd_some {c k i : Nat} {o : Option Nat} (h : fd c k i = some o) : ∃ fs, ob c = some (k, fs) ∧ fs[i]? = some o := by
  unfold fd at h
  obtain ⟨⟨k', fs⟩, h1, h2⟩ := ob_ h
  by_cases hk : k' = k
  · subst hk
    exact ⟨fs, h1, ip_ h2 rfl⟩
  · exact absurd (in_ h2 hk) (fun q => by cases q)
theorem isC_some {Λ : La} {c k : Nat} (h : isC Λ c k = true) : c < Λ.1 ∧ ∃ fs, ob c = some (k, fs) := by
  unfold isC at h
  rw [Bool.and_eq_true, decide_eq_true_eq, beq_iff_eq] at h
  refine ⟨h.1, ?_⟩
  cases ho : ob c with
  | none => rw [ho] at h; cases h.2
  | some o =>
    rw [ho] at h
    obtain ⟨k', fs⟩ := o
    have h2 : some k' = some k := h.2
    cases h2
    exact ⟨fs, rfl⟩
theorem gi_some {Λ : La} {w : Wo} {c k i : Nat} {x : Int32} (h : gi Λ w c k i = some x) : c < Λ.1 ∧ (∃ fs, ob c = some (k, fs) ∧ fs[i]? = some none) ∧ x = w c i := by
  unfold gi at h
  by_cases hc : c < Λ.1 ∧ fd c k i = some none
  · have h1 := ip_ h hc
    cases h1
    exact ⟨hc.1, fd_some hc.2, rfl⟩
  · exact absurd (in_ h hc) (fun q => by cases q)
theorem gr_some {Λ : La} {c k i r : Nat} (h : gr Λ c k i = some r) : c < Λ.1 ∧ Λ.2 c i = false ∧ ∃ fs, ob c = some (k, fs) ∧ fs[i]? = some (some r) := by
  unfold gr at h
  by_cases hc : c < Λ.1 ∧ Λ.2 c i = false
  · have h1 := ip_ h hc
    cases hf : fd c k i with
    | none => rw [hf] at h1; cases h1
    | some o =>
      rw [hf] at h1
      have h2 : o = some r := h1
      subst h2
      exact ⟨hc.1, hc.2, fd_some hf⟩
  · exact absurd (in_ h hc) (fun q => by cases q)
theorem pf_some {Λ : La} {w w1 : Wo} {c k i : Nat} {x : Int32} (h : pf Λ w c k i x = some w1) : c < Λ.1 ∧ (∃ fs, ob c = some (k, fs) ∧ fs[i]? = some none) ∧ w1 = up2 w c i x := by
  unfold pf at h
  by_cases hc : c < Λ.1 ∧ fd c k i = some none
  · have h1 := ip_ h hc
    cases h1
    exact ⟨hc.1, fd_some hc.2, rfl⟩
  · exact absurd (in_ h hc) (fun q => by cases q)
theorem aok_some {Λ : La} {c : Nat} {i : Int32} (h : aok Λ c i = true) : c < Λ.1 ∧ ∃ n, ar c = some n ∧ vp_in i n := by
  unfold aok at h
  cases ha : ar c with
  | none => rw [ha] at h; cases h
  | some n =>
    rw [ha] at h
    have h : (decide (c < Λ.1) && !(decide (i < 0) || decide (n ≤ i.toNatClampNeg))) = true := h
    rw [Bool.and_eq_true, decide_eq_true_eq, Bool.not_eq_true', Bool.or_eq_false_iff, decide_eq_false_iff_not, decide_eq_false_iff_not] at h
    exact ⟨h.1, n, rfl, fun q => q.elim h.2.1 h.2.2⟩
theorem ld_some {Λ : La} {w : Wo} {c : Nat} {i x : Int32} (h : ld Λ w c i = some x) : aok Λ c i = true ∧ x = w c i.toNatClampNeg := by
  unfold ld at h
  by_cases hc : aok Λ c i = true
  · have h1 := ip_ h hc
    cases h1
    exact ⟨hc, rfl⟩
  · exact absurd (in_ h hc) (fun q => by cases q)
theorem st_some {Λ : La} {w w1 : Wo} {c : Nat} {i x : Int32} (h : st Λ w c i x = some w1) : aok Λ c i = true ∧ w1 = up2 w c i.toNatClampNeg x := by
  unfold st at h
  by_cases hc : aok Λ c i = true
  · have h1 := ip_ h hc
    cases h1
    exact ⟨hc, rfl⟩
  · exact absurd (in_ h hc) (fun q => by cases q)
theorem al_some {Λ : La} {c : Nat} {x : Int32} (h : al Λ c = some x) : c < Λ.1 ∧ ∃ n, ar c = some n ∧ Int32.ofNat n = x := by
  unfold al at h
  by_cases hc : c < Λ.1
  · have h1 := ip_ h hc
    cases ha : ar c with
    | none => rw [ha] at h1; cases h1
    | some n => rw [ha] at h1; exact ⟨hc, n, rfl, Option.some.inj h1⟩
  · exact absurd (in_ h hc) (fun q => by cases q)
theorem cp_some {Λ : La} {w w1 : Wo} {a b : Nat} {i j n : Int32} (h : cp Λ w a i b j n = some w1) : w1 = cpw w a i.toNatClampNeg b j.toNatClampNeg n.toNatClampNeg ∧ a < Λ.1 ∧ b < Λ.1 ∧ ¬ i < 0 ∧ ¬ j < 0 ∧ ¬ n < 0 ∧ ∃ na nb, ar a = some na ∧ ar b = some nb ∧ i.toNatClampNeg + n.toNatClampNeg ≤ na ∧ j.toNatClampNeg + n.toNatClampNeg ≤ nb := by
  unfold cp at h
  by_cases hc : cpk Λ a i b j n = true
  · have h1 := ip_ h hc
    cases h1
    unfold cpk at hc
    cases ha : ar a with
    | none => rw [ha] at hc; cases hc
    | some na =>
      cases hb : ar b with
      | none => rw [ha, hb] at hc; cases hc
      | some nb =>
        rw [ha, hb] at hc
        have hc : (decide (a < Λ.1) && decide (b < Λ.1) && !decide (i < 0) && !decide (j < 0) && !decide (n < 0) && decide (i.toNatClampNeg + n.toNatClampNeg ≤ na) && decide (j.toNatClampNeg + n.toNatClampNeg ≤ nb)) = true := hc
        simp only [Bool.and_eq_true, decide_eq_true_eq, Bool.not_eq_true', decide_eq_false_iff_not] at hc
        obtain ⟨⟨⟨⟨⟨⟨h1, h2⟩, h3⟩, h4⟩, h5⟩, h6⟩, h7⟩ := hc
        exact ⟨rfl, h1, h2, h3, h4, h5, na, nb, rfl, rfl, h6, h7⟩
  · exact absurd (in_ h hc) (fun q => by cases q)
/-! the cells as the kit has them -/
def fval (Λ : La) (ad : Nat → Nat) (f : Nat → Int32) (c i : Nat) (o : Option Nat) : Value := match o with
  | none => .int (f i)
  | some r => if Λ.2 c i = true then .null else .ref (ad r)
def fv (Λ : La) (ad : Nat → Nat) (w : Wo) (c : Nat) (fs : List (Option Nat)) : List Value := fs.mapIdx (fval Λ ad (w c) c)
def ce (kA kL : ClassId) (Λ : La) (ad : Nat → Nat) (w : Wo) (c : Nat) : va_E := match ob c with
  | some o => .inr (o.1, fv Λ ad w c o.2)
  | none => match ar c with
    | some n => .inl (kA, n, .inl (w c))
    | none => .inl (kL, 1, .inr (.inl fun i => (w c i).toInt64))
def wl (kA kL : ClassId) (Λ : La) (ad : Nat → Nat) (w : Wo) : va_W := (List.range Λ.1).map fun c => (ad c, ce kA kL Λ ad w c)
theorem wl_at {kA kL : ClassId} {Λ : La} {ad : Nat → Nat} {w : Wo} {c : Nat} (hc : c < Λ.1) : (wl kA kL Λ ad w)[c]? = some (ad c, ce kA kL Λ ad w c) := by
  unfold wl
  rw [List.getElem?_map, List.getElem?_range hc]
  rfl
theorem wl_no {kA kL : ClassId} {Λ : La} {ad : Nat → Nat} {w : Wo} {c : Nat} (hc : ¬ c < Λ.1) : (wl kA kL Λ ad w)[c]? = none := by
  unfold wl
  apply List.getElem?_eq_none
  rw [List.length_map, List.length_range]
  omega
theorem wl_mem {kA kL : ClassId} {Λ : La} {ad : Nat → Nat} {w : Wo} {c : Nat} {q : Nat × va_E} (h : (wl kA kL Λ ad w)[c]? = some q) : c < Λ.1 ∧ q = (ad c, ce kA kL Λ ad w c) := by
  by_cases hc : c < Λ.1
  · rw [wl_at hc] at h
    exact ⟨hc, (Option.some.inj h).symm⟩
  · rw [wl_no hc] at h
    cases h
theorem fv_congr {Λ : La} {ad : Nat → Nat} {w w' : Wo} {c : Nat} (fs : List (Option Nat)) (h : w' c = w c) : fv Λ ad w' c fs = fv Λ ad w c fs := by
  unfold fv
  rw [h]
theorem ce_congr {kA kL : ClassId} {Λ : La} {ad : Nat → Nat} {w w' : Wo} {c : Nat} (h : w' c = w c) : ce kA kL Λ ad w' c = ce kA kL Λ ad w c := by
  unfold ce fv
  rw [h]
theorem wl_set {kA kL : ClassId} {Λ : La} {ad : Nat → Nat} {w w' : Wo} {c : Nat} {E : va_E} (hc : c < Λ.1) (hE : ce kA kL Λ ad w' c = E) (ho : ∀ d, d ≠ c → w' d = w d) : (wl kA kL Λ ad w).set c (ad c, E) = wl kA kL Λ ad w' := by
  apply List.ext_getElem?
  intro i
  by_cases h : c = i
  · subst h
    rw [wl_at hc, hE, List.getElem?_set_self (by unfold wl; rw [List.length_map, List.length_range]; exact hc)]
  · rw [List.getElem?_set_ne h]
    by_cases hi : i < Λ.1
    · rw [wl_at hi, wl_at hi, ce_congr (ho i (fun q => h q.symm))]
    · rw [wl_no hi, wl_no hi]
theorem fv_at {Λ : La} {ad : Nat → Nat} {w : Wo} {c i : Nat} {fs : List (Option Nat)} {o : Option Nat} (h : fs[i]? = some o) : (fv Λ ad w c fs)[i]? = some (fval Λ ad (w c) c i o) := by
  unfold fv
  rw [List.getElem?_mapIdx, h]
  rfl
theorem fv_set {Λ : La} {ad : Nat → Nat} {w : Wo} {c i : Nat} {fs : List (Option Nat)} {x : Int32} (h : fs[i]? = some none) : fv Λ ad (up2 w c i x) c fs = (fv Λ ad w c fs).set i (.int x) := by
  have hlen : ∀ w : Wo, (fv Λ ad w c fs).length = fs.length := fun w => by unfold fv; rw [List.length_mapIdx]
  have hi : i < fs.length := (List.getElem?_eq_some_iff.mp h).1
  apply List.ext_getElem?
  intro j
  by_cases hj : i = j
  · subst hj
    rw [List.getElem?_set_self (by rw [hlen]; exact hi), fv_at h]
    show some (Value.int (up2 w c i x c i)) = _
    unfold up2
    rw [if_pos rfl, if_pos rfl]
  · rw [List.getElem?_set_ne hj]
    cases hf : fs[j]? with
    | none =>
      have : fs.length ≤ j := List.getElem?_eq_none_iff.mp hf
      rw [List.getElem?_eq_none (by rw [hlen]; exact this), List.getElem?_eq_none (by rw [hlen]; exact this)]
    | some o =>
      rw [fv_at hf, fv_at hf]
      cases o with
      | none =>
        show some (Value.int (up2 w c i x c j)) = some (Value.int (w c j))
        unfold up2
        rw [if_pos rfl, if_neg (fun q => hj q.symm)]
      | some r => rfl
theorem up2_ne {w : Wo} {c i : Nat} {x : Int32} : ∀ d, d ≠ c → up2 w c i x d = w d := fun d h => by
  funext j
  unfold up2
  rw [if_neg h]
theorem up2_eq {w : Wo} {c i : Nat} {x : Int32} : up2 w c i x c = upd (w c) i x := by
  funext j
  unfold up2 upd
  rw [if_pos rfl]
theorem cpw_ne {w : Wo} {a i b j n : Nat} : ∀ d, d ≠ b → cpw w a i b j n d = w d := fun d h => by
  unfold cpw
  rw [if_neg h]
theorem cpw_eq {w : Wo} {a i b j n : Nat} : cpw w a i b j n b = va_cpy (w a) (w b) i j n := by
  unfold cpw
  rw [if_pos rfl]
theorem ce_ob {kA kL : ClassId} {Λ : La} {ad : Nat → Nat} {w : Wo} {c k : Nat} {fs : List (Option Nat)} (h : ob c = some (k, fs)) : ce kA kL Λ ad w c = .inr (k, fv Λ ad w c fs) := by
  unfold ce
  rw [h]
theorem ce_ar {kA kL : ClassId} {Λ : La} {ad : Nat → Nat} {w : Wo} {c n : Nat} (h : ar c = some n) : ce kA kL Λ ad w c = .inl (kA, n, .inl (w c)) := by
  unfold ce
  rw [ar_ob h, h]
/-! the addresses, the nest's links, the state, the invariant of a walk -/
def Aa (Λ : La) (ad : Nat → Nat) : Nat → Prop := fun q => ∃ c, c < Λ.1 ∧ q = ad c
def Inj (Λ : La) (ad : Nat → Nat) : Prop := ∀ i j, i < Λ.1 → j < Λ.1 → ad i = ad j → i = j
theorem wl_D {A : Nat → Prop} {kA kL : ClassId} {Λ : La} {ad : Nat → Nat} {w : Wo} (h : Inj Λ ad) (hA : ∀ c, c < Λ.1 → A (ad c)) : va_D A (wl kA kL Λ ad w) := by
  refine ⟨fun i j p q hp hq hpq => ?_, fun k q hq => ?_⟩
  · obtain ⟨h1, rfl⟩ := wl_mem hp
    obtain ⟨h2, rfl⟩ := wl_mem hq
    exact h i j h1 h2 hpq
  · obtain ⟨h1, rfl⟩ := wl_mem hq
    exact hA k h1
theorem isNe_warm {w : Cond} {s U : State} (h : isNe w = true) (hW : s.WarmedH U.vm) (h0 : va_Nw w s) : va_Nw w U := by
  cases w <;> first | exact va_Nw.warmF hW h0 | exact va_Nw.warmM hW h0 | exact va_Nw.warmC hW h0 | exact va_Nw.warmD hW h0 | exact Bool.noConfusion h
theorem isNe_tab {w : Cond} (h : isNe w = true) : w.onTables = true := by
  cases w <;> first | rfl | exact Bool.noConfusion h
def Nst (U : State) : Prop := ∀ w ∈ nW, va_Nw w U
theorem Nst.warm {s U : State} (hW : s.WarmedH U.vm) (h : Nst s) : Nst U := fun w hw => isNe_warm (List.mem_filter.mp hw).2 hW (h w hw)
theorem Nst.same {s U : State} (hv : s.vm = U.vm) (h : Nst s) : Nst U := fun w hw => va_Nw.same (isNe_tab (List.mem_filter.mp hw).2) hv (h w hw)
abbrev tyA (kA kL : ClassId) : List (ClassId × FieldType) := [(kA, .int), (kL, .long)]
def St (G : va_G) (kA kL : ClassId) (Λ : La) (ad : Nat → Nat) (w : Wo) (U : State) : Prop := va_P G vCl (wl kA kL Λ ad w) U.heap ∧ Inj Λ ad ∧ va_K G vCl (tyA kA kL) U ∧ Nst U
def Iv (A : Nat → Prop) (G : va_G) (kA kL : ClassId) (Λ : La) (ad : Nat → Nat) (w : Wo) (s : State) (H : Heap) (locs : List Loc) : Prop := va_P G vCl (wl kA kL Λ ad w) H ∧ Inj Λ ad ∧ va_K G vCl (tyA kA kL) s ∧ Nst s ∧ va_S A s.heap H locs ∧ ∀ c, c < Λ.1 → A (ad c)
theorem St.blind {G : va_G} {kA kL : ClassId} {Λ : La} {ad : Nat → Nat} {w : Wo} {av : List Value} : FrameBlind (va_Pc av (St G kA kL Λ ad w)) := fun a U g mk q => ⟨q.1, q.2.1, q.2.2.1, va_K.moved (u := U) (U := U.calling g mk a) (Vm.Alike.refl U.vm) q.2.2.2.1, Nst.same (s := U) (U := U.calling g mk a) rfl q.2.2.2.2⟩
theorem Iv.toSt {A : Nat → Prop} {G : va_G} {kA kL : ClassId} {Λ : La} {ad : Nat → Nat} {w : Wo} {s U : State} {H : Heap} {locs : List Loc} (h : Iv A G kA kL Λ ad w s H locs) (hU : U.heap = H) (hW : s.WarmedH U.vm) : St G kA kL Λ ad w U := ⟨by rw [hU]; exact h.1, h.2.1, va_K.moved hW.alike h.2.2.1, Nst.warm hW h.2.2.2.1⟩
/-- a class by its number: its row in the table, and what the tables say of its fields -/
def FC (k : Nat) (C : String) (T : u_T) (N : Nat) (ty0 : Nat → FieldType) : Prop := vCl[k]? = some (C, T, N) ∧ (∀ w ∈ u_ws C T N, w ∈ gW) ∧ (∀ k, k < N → parseFieldDescriptor (T k).2.2.1 = some (ty0 k)) ∧ (∀ a, a < N → ∀ b, b < N → a ≠ b → (T a).2.1 ≠ (T b).2.1)

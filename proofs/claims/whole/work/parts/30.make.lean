/-! making: cells that come to be, in their order; constructors -/
def nulL (L : List (Nat × Nat)) : Nat → Nat → Bool := fun c i => !(L.contains (c, i))
/-- fields that aren't null name cells that are there -/
def clB (Λ : La) : Bool := (List.range Λ.1).all fun c => match ob c with
  | some o => (List.range o.2.length).all fun i => match o.2[i]? with
    | some (some r) => Λ.2 c i || decide (r < Λ.1)
    | _ => true
  | none => true
theorem clB_some {Λ : La} {c k i r : Nat} {fs : List (Option Nat)} (h : clB Λ = true) (hc : c < Λ.1) (ho : ob c = some (k, fs)) (hf : fs[i]? = some (some r)) (hn : Λ.2 c i = false) : r < Λ.1 := by
  have h1 := List.all_eq_true.mp h c (List.mem_range.mpr hc)
  rw [ho] at h1
  have h2 := List.all_eq_true.mp h1 i (List.mem_range.mpr (List.getElem?_eq_some_iff.mp hf).1)
  have h3 : (match fs[i]? with
    | some (some r) => Λ.2 c i || decide (r < Λ.1)
    | _ => true) = true := h2
  rw [hf] at h3
  have h4 : (Λ.2 c i || decide (r < Λ.1)) = true := h3
  rw [hn, Bool.false_or, decide_eq_true_eq] at h4
  exact h4
theorem ce_up {kA kL : ClassId} {N N' : Nat} {nul : Nat → Nat → Bool} {ad ad' : Nat → Nat} {w : Wo} {c : Nat} (hcl : clB (N, nul) = true) (h : ∀ i, i < N → ad' i = ad i) (hc : c < N) : ce kA kL (N', nul) ad' w c = ce kA kL (N, nul) ad w c := by
  unfold ce
  cases ho : ob c with
  | none => rfl
  | some o =>
    obtain ⟨k, fs⟩ := o
    have e : fv (N', nul) ad' w c fs = fv (N, nul) ad w c fs := by
      apply List.ext_getElem?
      intro i
      cases hf : fs[i]? with
      | none =>
        have h1 : fs.length ≤ i := List.getElem?_eq_none_iff.mp hf
        unfold fv
        rw [List.getElem?_eq_none (by rw [List.length_mapIdx]; exact h1), List.getElem?_eq_none (by rw [List.length_mapIdx]; exact h1)]
      | some o =>
        rw [fv_at hf, fv_at hf]
        cases o with
        | none => rfl
        | some r =>
          show some (if nul c i = true then Value.null else Value.ref (ad' r)) = some (if nul c i = true then Value.null else Value.ref (ad r))
          by_cases hn : nul c i = true
          · rw [if_pos hn, if_pos hn]
          · rw [if_neg hn, if_neg hn, h r (clB_some hcl hc ho hf (by cases hb : nul c i with | true => exact absurd hb hn | false => exact hb))]
    show Sum.inr (k, fv (N', nul) ad' w c fs) = Sum.inr (k, fv (N, nul) ad w c fs)
    rw [e]
theorem wl_up {kA kL : ClassId} {N : Nat} {nul : Nat → Nat → Bool} {ad ad' : Nat → Nat} {w : Wo} (hcl : clB (N, nul) = true) (h : ∀ i, i < N → ad' i = ad i) : wl kA kL (N + 1, nul) ad' w = wl kA kL (N, nul) ad w ++ [(ad' N, ce kA kL (N + 1, nul) ad' w N)] := by
  unfold wl
  show (List.range (N + 1)).map (fun c => (ad' c, ce kA kL (N + 1, nul) ad' w c)) = (List.range N).map (fun c => (ad c, ce kA kL (N, nul) ad w c)) ++ _
  rw [List.range_succ, List.map_append]
  congr 1
  apply List.map_congr_left
  intro c hc
  have hc := List.mem_range.mp hc
  rw [h c hc, ce_up (N' := N + 1) hcl h hc]
noncomputable def cz (Λ : La) (w : Wo) : Option Unit := @ite _ (w Λ.1 = fun _ => 0) (Classical.propDecidable _) (some ()) none
theorem cz_some {Λ : La} {w : Wo} {u : Unit} (h : cz Λ w = some u) : w Λ.1 = fun _ => 0 := by
  unfold cz at h
  by_cases hc : w Λ.1 = fun _ => 0
  · exact hc
  · rw [if_neg hc] at h
    cases h
theorem cz_ok {Λ : La} {w : Wo} (h : w Λ.1 = fun _ => 0) : cz Λ w = some () := by
  unfold cz
  rw [if_pos h]
section MK
variable {p : Program} {l : Launch} {e : Env} {R : Room} {s : State} {m : MethodId} {args : Array Value} {below : List Frame} {meth : Method} {c : Code} {H : Heap} {locs : List Loc} {cells slots : Nat} {Q : State → Prop}
variable {cc : ByteArray} {pc nL : Nat} {ls : Array Slot} {rest stk : List Value} {a0 : Cond} {own : String} {lv : List (Nat × Value)}
variable {G : va_G} {kA kL : ClassId} {Λ Λ1 : La} {ad : Nat → Nat} {w w1 : Wo} {A : Nat → Prop}
theorem Iv.grow {N : Nat} {nul : Nat → Nat → Bool} {H1 : Heap} (hI : Iv A G kA kL (N, nul) ad w s H locs) (hA : ∀ q, s.heap.size ≤ q → A q) (hcl : clB (N, nul) = true) (h1 : va_at G vCl (H.size, ce kA kL (N + 1, nul) (va_up ad N H.size) w N) H1) (hz : H.size ≤ H1.size) (ho : ∀ q, q < H.size → H1[q]? = H[q]?) :
    (∀ i, i < N → va_up ad N H.size i = ad i) ∧ s.heap.size ≤ va_up ad N H.size N ∧ Iv A G kA kL (N + 1, nul) (va_up ad N H.size) w s H1 locs := by
  have hup : ∀ i, i < N → va_up ad N H.size i = ad i := fun i hi => by unfold va_up; rw [if_neg (Nat.ne_of_lt hi)]
  have hself : va_up ad N H.size N = H.size := by unfold va_up; rw [if_pos rfl]
  have hlt : ∀ i, i < N → ad i < H.size := fun i hi => vx_lt hI.1 (wl_at (Λ := (N, nul)) hi)
  refine ⟨hup, by rw [hself]; exact hI.2.2.2.2.1.1, ?_, ?_, hI.2.2.1, hI.2.2.2.1, ⟨Nat.le_trans hI.2.2.2.2.1.1 hz, fun q g1 g2 => (ho q (Nat.lt_of_lt_of_le g1 hI.2.2.2.2.1.1)).trans (hI.2.2.2.2.1.2.1 q g1 g2), hI.2.2.2.2.1.2.2⟩, ?_⟩
  · rw [wl_up hcl hup, hself]
    refine va_P.app (hI.1.kept fun k q hq => ho _ (vx_lt hI.1 hq)) (fun k q hq => ?_)
    have hk : k < 1 := (List.getElem?_eq_some_iff.mp hq).1
    rw [show k = 0 by omega] at hq
    cases hq
    exact h1
  · intro i j hi hj hij
    have hi : i < N + 1 := hi
    have hj : j < N + 1 := hj
    by_cases ei : i = N
    · by_cases ej : j = N
      · rw [ei, ej]
      · have hj' : j < N := by omega
        rw [ei, hself, hup j hj'] at hij
        have := hlt j hj'
        omega
    · have hi' : i < N := by omega
      by_cases ej : j = N
      · rw [ej, hself, hup i hi'] at hij
        have := hlt i hi'
        omega
      · have hj' : j < N := by omega
        rw [hup i hi', hup j hj'] at hij
        exact hI.2.1 i j hi' hj' hij
  · intro c hc
    have hc : c < N + 1 := hc
    by_cases ec : c = N
    · rw [ec, hself]; exact hA _ hI.2.2.2.2.1.1
    · have hc' : c < N := by omega
      rw [hup c hc']
      exact hI.2.2.2.2.2 c hc'
theorem r_newa {N : Nat} {nul : Nat → Nat → Bool} (S : CallFix p m c cc nL s args (a0 :: gW) own) (hI : Iv A G kA kL (N, nul) ad w s H locs) (hA : ∀ q, s.heap.size ≤ q → A q) (hcl : clB (N, nul) = true) (harr : Cond.arrayClass .int ∈ gW) {n : Nat} {x : Int32} {u : Unit} (har : ar N = some n) (hn : ¬ x < 0) (hN : x.toNatClampNeg = n) (hby : n * 4 ≤ 536870912) (hz : cz (N, nul) w = some u) (hcs : cells + 1 ≤ R.cells ∧ slots + n ≤ R.slots) (hd : decode cc pc = .ok (.newarray .int, 2))
    (kk : ∀ (ad' : Nat → Nat) (H1 : Heap), (∀ i, i < N → ad' i = ad i) → s.heap.size ≤ ad' N → Iv A G kA kL (N + 1, nul) ad' w s H1 locs → W p l e R s m args below meth c H1 locs (cells + 1) (slots + n) Q (F0 m (pc + 2) ls (.ref (ad' N) :: rest))) : W p l e R s m args below meth c H locs cells slots Q (F0 m pc ls (.int x :: rest)) := by
  have hz := cz_some hz
  refine va_newaK (g := F0 m pc ls (.int x :: rest)) (atype := .int) S.1 S.2.1 (cfw (Ts := []) S harr) rfl hd rfl hn hN hby hcs.1 hcs.2 rfl fun H1 cA e1 z1 o1 hAr hNm => ?_
  have hcA : cA = kA := Option.some.inj (hNm.symm.trans (hI.2.2.1.2 0 (kA, .int) rfl).2)
  subst hcA
  obtain ⟨g1, g2, g3⟩ := hI.grow hA hcl (H1 := H1) (by
    rw [ce_ar har]
    show H1[H.size]? = some (vp_cell cA (n, .inl (w N)))
    rw [e1, vp_cell_i]
    have hz : w N = fun _ => 0 := hz
    rw [hz]
    rfl) (by omega) o1
  have hself : va_up ad N H.size N = H.size := by unfold va_up; rw [if_pos rfl]
  have := kk _ H1 g1 g2 g3
  rw [hself] at this
  exact this
theorem r_newL {N : Nat} {nul : Nat → Nat → Bool} (S : CallFix p m c cc nL s args (a0 :: gW) own) (hI : Iv A G kA kL (N, nul) ad w s H locs) (hA : ∀ q, s.heap.size ≤ q → A q) (hcl : clB (N, nul) = true) (harr : Cond.arrayClass .long ∈ gW) {u : Unit} (har : ar N = none) (hob : ob N = none) (hz : cz (N, nul) w = some u) (hcs : cells + 1 ≤ R.cells ∧ slots + 1 ≤ R.slots) (hd : decode cc pc = .ok (.newarray .long, 2))
    (kk : ∀ (ad' : Nat → Nat) (H1 : Heap), (∀ i, i < N → ad' i = ad i) → s.heap.size ≤ ad' N → Iv A G kA kL (N + 1, nul) ad' w s H1 locs → W p l e R s m args below meth c H1 locs (cells + 1) (slots + 1) Q (F0 m (pc + 2) ls (.ref (ad' N) :: rest))) : W p l e R s m args below meth c H locs cells slots Q (F0 m pc ls (.int 1 :: rest)) := by
  have hz := cz_some hz
  refine va_newaK (g := F0 m pc ls (.int 1 :: rest)) (atype := .long) (N := 1) S.1 S.2.1 (cfw (Ts := []) S harr) rfl hd rfl (by decide +kernel) (by decide +kernel) (by decide +kernel) hcs.1 hcs.2 rfl fun H1 cA e1 z1 o1 hAr hNm => ?_
  have hcA : cA = kL := Option.some.inj (hNm.symm.trans (hI.2.2.1.2 1 (kL, .long) rfl).2)
  subst hcA
  obtain ⟨g1, g2, g3⟩ := hI.grow hA hcl (H1 := H1) (by
    unfold ce
    rw [hob, har]
    show H1[H.size]? = some (vp_cell cA (1, .inr (.inl fun i => (w N i).toInt64)))
    rw [e1, vp_cell_l]
    have hz : w N = fun _ => 0 := hz
    rw [hz]
    rfl) (by omega) o1
  have hself : va_up ad N H.size N = H.size := by unfold va_up; rw [if_pos rfl]
  have := kk _ H1 g1 g2 g3
  rw [hself] at this
  exact this
def fdef (fs : List (Option Nat)) : List Value := fs.map fun o => match o with
  | none => .int 0
  | some _ => .null
theorem r_new {N : Nat} {nul : Nat → Nat → Bool} (S : CallFix p m c cc nL s args (a0 :: gW) own) (hI : Iv A G kA kL (N, nul) ad w s H locs) (hA : ∀ q, s.heap.size ≤ q → A q) (hcl : clB (N, nul) = true) {k : Nat} {C : String} {T : u_T} {NN : Nat} {ty0 : Nat → FieldType} (F : FC k C T NN ty0) {fs : List (Option Nat)} (hob : ob N = some (k, fs)) (hdef : ∀ j, j < NN → defaultValue (ty0 j) = vp_V (fdef fs) j) (hnul : ∀ i, i < fs.length → nul N i = true) {idx : Nat} {u : Unit} (hk : Cond.classLink own idx C ∈ gW) (hin : Cond.instantiable C NN ∈ gW) (hini : Cond.initialized C ∈ gW) (hz : cz (N, nul) w = some u) (hcs : cells + 1 ≤ R.cells ∧ slots + NN ≤ R.slots) (hd : decode cc pc = .ok (.new idx, 3))
    (kk : ∀ (ad' : Nat → Nat) (H1 : Heap), (∀ i, i < N → ad' i = ad i) → s.heap.size ≤ ad' N → Iv A G kA kL (N + 1, nul) ad' w s H1 locs → W p l e R s m args below meth c H1 locs (cells + 1) (slots + NN) Q (F0 m (pc + 3) ls (.ref (ad' N) :: rest))) : W p l e R s m args below meth c H locs cells slots Q (F0 m pc ls rest) := by
  have hz := cz_some hz
  have hz : w N = fun _ => 0 := hz
  have hKn := hI.2.2.1.1 k _ F.1
  refine W.newcK (g := F0 m pc ls rest) S.1 S.2.1 S.2.2.2.1 (cfw (Ts := []) S hk) (cfw (Ts := []) S hin) (cfw (Ts := []) S hini) rfl hd hcs.1 hcs.2 hKn.2.1 rfl fun H1 kC hkC e1 z1 o1 => ?_
  obtain ⟨g1, g2, g3⟩ := hI.grow hA hcl (H1 := H1) (by
    rw [ce_ob hob]
    refine ⟨_, F.1, (u_born ty0 S.2.2.2.2 (fun w h => List.mem_cons_of_mem _ (F.2.1 w h)) hKn hkC e1 F.2.2.1).to fun j hj => ?_⟩
    rw [hdef j hj]
    have e2 : fv (N + 1, nul) (va_up ad N H.size) w N fs = fdef fs := by
      apply List.ext_getElem?
      intro i
      cases hf : fs[i]? with
      | none =>
        have h1 : fs.length ≤ i := List.getElem?_eq_none_iff.mp hf
        unfold fv fdef
        rw [List.getElem?_eq_none (by rw [List.length_mapIdx]; exact h1), List.getElem?_eq_none (by rw [List.length_map]; exact h1)]
      | some o =>
        rw [fv_at hf]
        unfold fdef
        rw [List.getElem?_map, hf]
        cases o with
        | none =>
          show some (Value.int (w N i)) = some (Value.int 0)
          rw [hz]
        | some r =>
          show some (if nul N i = true then Value.null else _) = some Value.null
          rw [if_pos (hnul i (List.getElem?_eq_some_iff.mp hf).1)]
    rw [e2]) (by omega) o1
  have hself : va_up ad N H.size N = H.size := by unfold va_up; rw [if_pos rfl]
  have := kk _ H1 g1 g2 g3
  rw [hself] at this
  exact this
theorem r_putr {N : Nat} {L : List (Nat × Nat)} (S : CallFix p m c cc nL s args (a0 :: gW) own) (hI : Iv A G kA kL (N, nulL L) ad w s H locs) (hin2 : meth.name = "<init>") {k i : Nat} {C : String} {T : u_T} {NN : Nat} {ty0 : Nat → FieldType} (F : FC k C T NN ty0) (hiN : i < NN) {b r idx : Nat} {fs : List (Option Nat)} (hb : b < N) (hob : ob b = some (k, fs)) (hf : fs[i]? = some (some r)) (hlink : Cond.fieldLink own idx (T i).1 (T i).2.1 (T i).2.2.1 ∈ gW) (hfin : (T i).2.2.2 = true) (hdecl : (T i).1 = own) (hn : narrow (ty0 i) (.ref (ad r)) = .ref (ad r)) (hfit : fits (ty0 i) (.ref (ad r)) = true) (hd : decode cc pc = .ok (.putfield idx, 3))
    (kk : ∀ (H1 : Heap) (locs1 : List Loc), Iv A G kA kL (N, nulL ((b, i) :: L)) ad w s H1 locs1 → W p l e R s m args below meth c H1 locs1 cells slots Q (F0 m (pc + 3) ls rest)) : W p l e R s m args below meth c H locs cells slots Q (F0 m pc ls (.ref (ad r) :: .ref (ad b) :: rest)) := by
  have hnl : ∀ c j, nulL ((b, i) :: L) c j = if c = b ∧ j = i then false else nulL L c j := by
    intro c j
    unfold nulL
    rw [List.contains_cons]
    by_cases h : c = b ∧ j = i
    · obtain ⟨rfl, rfl⟩ := h
      rw [if_pos ⟨rfl, rfl⟩]
      simp
    · rw [if_neg h]
      have : ((c, j) == (b, i)) = false := by
        rw [beq_eq_false_iff_ne]
        intro q
        cases q
        exact h ⟨rfl, rfl⟩
      rw [this, Bool.false_or]
  have hn1 : nulL ((b, i) :: L) b i = false := by rw [hnl b i, if_pos ⟨rfl, rfl⟩]
  have hn2 : ∀ c j, ¬ (c = b ∧ j = i) → nulL ((b, i) :: L) c j = nulL L c j := fun c j h => by rw [hnl c j, if_neg h]
  have hi : i < fs.length := (List.getElem?_eq_some_iff.mp hf).1
  have hlen : ∀ Λ' : La, (fv Λ' ad w b fs).length = fs.length := fun Λ' => by unfold fv; rw [List.length_mapIdx]
  have efv : fv (N, nulL ((b, i) :: L)) ad w b fs = (fv (N, nulL L) ad w b fs).set i (.ref (ad r)) := by
    apply List.ext_getElem?
    intro j
    by_cases hj : i = j
    · subst hj
      rw [List.getElem?_set_self (by rw [hlen]; exact hi), fv_at hf]
      show some (if nulL ((b, i) :: L) b i = true then Value.null else Value.ref (ad r)) = _
      rw [hn1]
      rfl
    · rw [List.getElem?_set_ne hj]
      cases hg : fs[j]? with
      | none =>
        have h1 : fs.length ≤ j := List.getElem?_eq_none_iff.mp hg
        rw [List.getElem?_eq_none (by rw [hlen]; exact h1), List.getElem?_eq_none (by rw [hlen]; exact h1)]
      | some o =>
        rw [fv_at hg, fv_at hg]
        cases o with
        | none => rfl
        | some z =>
          show some (if nulL ((b, i) :: L) b j = true then Value.null else Value.ref (ad z)) = some (if nulL L b j = true then Value.null else Value.ref (ad z))
          rw [hn2 b j (fun q => hj q.2.symm)]
  have ewl : (wl kA kL (N, nulL L) ad w).set b (ad b, .inr (k, (fv (N, nulL L) ad w b fs).set i (.ref (ad r)))) = wl kA kL (N, nulL ((b, i) :: L)) ad w := by
    apply List.ext_getElem?
    intro j
    by_cases h : b = j
    · subst h
      rw [wl_at (Λ := (N, nulL ((b, i) :: L))) hb, ce_ob hob, efv, List.getElem?_set_self (by unfold wl; rw [List.length_map, List.length_range]; exact hb)]
    · rw [List.getElem?_set_ne h]
      by_cases hj : j < N
      · rw [wl_at (Λ := (N, nulL L)) hj, wl_at (Λ := (N, nulL ((b, i) :: L))) hj]
        have : ce kA kL (N, nulL ((b, i) :: L)) ad w j = ce kA kL (N, nulL L) ad w j := by
          unfold ce
          cases ho : ob j with
          | none => rfl
          | some o =>
            have e : fv (N, nulL ((b, i) :: L)) ad w j o.2 = fv (N, nulL L) ad w j o.2 := by
              apply List.ext_getElem?
              intro z
              cases hg : o.2[z]? with
              | none =>
                have h1 : o.2.length ≤ z := List.getElem?_eq_none_iff.mp hg
                unfold fv
                rw [List.getElem?_eq_none (by rw [List.length_mapIdx]; exact h1), List.getElem?_eq_none (by rw [List.length_mapIdx]; exact h1)]
              | some oz =>
                rw [fv_at hg, fv_at hg]
                cases oz with
                | none => rfl
                | some y =>
                  show some (if nulL ((b, i) :: L) j z = true then Value.null else Value.ref (ad y)) = some (if nulL L j z = true then Value.null else Value.ref (ad y))
                  rw [hn2 j z (fun q => h q.1.symm)]
            show Sum.inr (o.1, fv (N, nulL ((b, i) :: L)) ad w j o.2) = Sum.inr (o.1, fv (N, nulL L) ad w j o.2)
            rw [e]
        rw [this]
      · rw [wl_no (Λ := (N, nulL L)) hj, wl_no (Λ := (N, nulL ((b, i) :: L))) hj]
  refine va_putF S.1 S.2.1 S.2.2.2.2 (fun w h => List.mem_cons_of_mem _ (F.2.1 w h)) ty0 F.2.2.1 F.2.2.2 S.2.2.2.1 hI.2.2.1 hI.1 (wl_D hI.2.1 hI.2.2.2.2.2) hI.2.2.2.2.1 b (by rw [wl_at (Λ := (N, nulL L)) hb, ce_ob hob]) F.1 i hiN (S.2.2.2.2 _ (List.mem_cons_of_mem _ hlink)) (fun _ h => h) hfin hin2 hdecl (F.2.2.1 i hiN) hn hfit (by rw [hlen]; exact hi) hd fun H1 locs1 hP _ hS => kk H1 locs1 ⟨by rw [← ewl]; exact hP, hI.2.1, hI.2.2.1, hI.2.2.2.1, hS, hI.2.2.2.2.2⟩
theorem r_obj (S : CallFix p m c cc nL s args (a0 :: gW) own) (hl : lv_has ls nL lv) {idx a : Nat} (h1 : Cond.methodLink own idx Lib.objectInit ∈ gW) (h2 : Cond.instanceMethod Lib.objectInit ∈ gW) (h3 : Cond.code Lib.objectInit ⟨#[0xb1]⟩ 1 none ∈ gW) (hd : decode cc pc = .ok (.invokespecial idx, 3)) (hf : 1 ≤ R.frames) (hlo : (rest.map fun v => v.category).sum + 12 ≤ R.locals)
    (kk : W p l e R s m args below meth c H locs cells slots Q (F0 m (pc + 3) ls rest)) : W p l e R s m args below meth c H locs cells slots Q (F0 m pc ls (.ref a :: rest)) :=
  W.objInit (g := F0 m pc ls (.ref a :: rest)) S.1 S.2.1 S.2.2.2.1 (cfw (Ts := []) S h1) (cfw (Ts := []) S h2) (cfw (Ts := []) S h3) rfl (by rw [S.2.2.1]; exact hl.1) rfl hd hf (by show 2 * 0 + _ + 12 ≤ _; omega) kk
/-! a constructor's contract: the cells from Λ.1 on are new -/
def Ac (Λ : La) (ad : Nat → Nat) (sz : Nat) : Nat → Prop := fun q => Aa Λ ad q ∨ sz ≤ q
def Mc (l : Launch) (y : MethodName) (cc : ByteArray) (maxL : Nat) (rm : Room) (G : va_G) (kA kL : ClassId) (Λ Λ1 : La) (ad : Nat → Nat) (sz : Nat) (av : List Value) (w w1 : Wo) (mc ms : Nat) : Prop :=
  Met l y (.code y cc maxL none :: gW) rm (va_Pc av (fun U => U.heap.size = sz ∧ St G kA kL Λ ad w U)) (va_Qv (fun (ad' : Nat → Nat) => ∀ i, i < Λ.1 → ad' i = ad i) (fun ad' t => (∀ c, Λ.1 ≤ c → c < Λ1.1 → sz ≤ ad' c) ∧ St G kA kL Λ1 ad' w1 t) (Ac Λ ad sz)) mc ms (Ac Λ ad sz)
theorem Mc.of {y : MethodName} {maxL mc ms sz : Nat} {rm : Room} {av : List Value} (hy : plainName y.cls = true) (hlen : (lg_sl av).length ≤ maxL)
    (body : ∀ (p : Program) (e : Env) (s : State) (m : MethodId) (args : Array Value) (below : List Frame) (meth : Method) (c : Code) (Q : State → Prop) (ls : Array Slot) (A : Nat → Prop), CallFix p m c cc maxL s args (.code y cc maxL none :: gW) y.cls → meth.name = y.name → (∀ q, s.heap.size ≤ q → A q) →
      (∀ (H : Heap) (locs : List Loc) (pc : Nat) (ls : Array Slot) (ad' : Nat → Nat) (w' : Wo), (∀ i, i < Λ.1 → ad' i = ad i) → (∀ c, Λ.1 ≤ c → c < Λ1.1 → s.heap.size ≤ ad' c) → Iv A G kA kL Λ1 ad' w' s H locs → some w' = some w1 → decode cc pc = .ok (.return_, 1) → W p l e rm s m args below meth c H locs mc ms Q (F0 m pc ls [])) →
      lv_has ls maxL (lv_args 0 av) → Iv A G kA kL Λ ad w s s.heap [] → W p l e rm s m args below meth c s.heap [] 0 0 Q (F0 m 0 ls [])) : Mc l y cc maxL rm G kA kL Λ Λ1 ad sz av w w1 mc ms := by
  unfold Mc
  refine Met.ofW (cc := cc) (maxL := maxL) (ret := none) hy rfl ?_
  intro p e s m args below meth c s₁ B hml hv
  obtain ⟨rfl, hsz, hP, hJ, hK, hN⟩ := hv
  have hr := B.returns
  have hlocks := B.notSynchronized
  subst hsz
  rw [lg_entry_eq]
  refine body p e s m _ below meth c _ _ (Ac Λ ad s.heap.size) ⟨B.exec, B.bytes, hml, findClass_of_methodNamed B.named, atoms_spec B.pre⟩ (name_of_methodNamed B.named B.method).1 (fun q h => Or.inr h) ?_ (lv_entry av hlen) ⟨hP, hJ, hK, hN, va_S.rf, fun c h => Or.inl ⟨c, h, rfl⟩⟩
  intro H locs pc ls ad' w' h1 h2 hI hf hd
  cases hf
  exact W.vret B.exec B.bytes hr (fun t ht hW => ⟨⟨ad', rfl, h1, h2, hI.toSt ht hW⟩, hI.2.2.2.2.1.F ht⟩) hI.2.2.2.2.1.2.2 hd
theorem Sz.blind {sz : Nat} {av : List Value} : FrameBlind (va_Pc av (fun U => U.heap.size = sz ∧ St G kA kL Λ ad w U)) := fun a U g mk q => ⟨q.1, q.2.1, q.2.2.1, q.2.2.2.1, va_K.moved (u := U) (U := U.calling g mk a) (Vm.Alike.refl U.vm) q.2.2.2.2.1, Nst.same (s := U) (U := U.calling g mk a) rfl q.2.2.2.2.2⟩
theorem r_cI {a : Array Value} {mc ms : Nat} (hr : va_Run p l e R s m args below meth c H locs cells slots mc ms (F0 m pc ls stk) rest (va_Qv (fun (ad' : Nat → Nat) => ∀ i, i < Λ.1 → ad' i = ad i) (fun ad' t => (∀ c, Λ.1 ≤ c → c < Λ1.1 → H.size ≤ ad' c) ∧ St G kA kL Λ1 ad' w1 t) (Ac Λ ad H.size) a) (Ac Λ ad H.size)) (hI : Iv A G kA kL Λ ad w s H locs) (hA : ∀ q, s.heap.size ≤ q → A q)
    (kk : ∀ (ad' : Nat → Nat) (H1 : Heap) (locs1 : List Loc), (∀ i, i < Λ.1 → ad' i = ad i) → (∀ c, Λ.1 ≤ c → c < Λ1.1 → s.heap.size ≤ ad' c) → Iv A G kA kL Λ1 ad' w1 s H1 locs1 → W p l e R s m args below meth c H1 locs1 (cells + mc) (slots + ms) Q (F0 m (pc + 3) ls rest)) : W p l e R s m args below meth c H locs cells slots Q (F0 m pc ls stk) := by
  have hsub : ∀ q, Ac Λ ad H.size q → A q := fun q h => h.elim (fun h => hI.inA q h) (fun h => hA q (Nat.le_trans hI.2.2.2.2.1.1 h))
  refine va_callv hr hI.2.2.2.2.1 (fun q _ h => hsub q h) hsub fun ad' t H1 locs1 ht hvm hp hB hz hk hS => ?_
  have hnew : ∀ c, Λ.1 ≤ c → c < Λ1.1 → s.heap.size ≤ ad' c := fun c h1 h2 => Nat.le_trans hI.2.2.2.2.1.1 (hB.1 c h1 h2)
  refine kk ad' H1 locs1 hp hnew ⟨by rw [← ht]; exact hB.2.1, hB.2.2.1, hI.2.2.1, hI.2.2.2.1, hS, fun c hc => ?_⟩
  by_cases h : c < Λ.1
  · rw [hp c h]; exact hI.2.2.2.2.2 c h
  · exact hA _ (hnew c (Nat.le_of_not_lt h) hc)
theorem r_IN {y : MethodName} {bytes : ByteArray} {maxL idx b mc ms : Nat} {rm : Room} {host : String} {Qc : Array Value → State → Outcome → State → Prop} {free : Addr → Prop} (S : CallFix p m c cc nL s args (a0 :: gW) own) (hl : lv_has ls nL lv) (hI : Iv A G kA kL Λ ad w s H locs) (hM : Met l y (.code y bytes maxL none :: gW) rm (va_Pc [.ref (ad b)] (fun U => U.heap.size = H.size ∧ St G kA kL Λ ad w U)) Qc mc ms free) (P : Pk y bytes maxL none 0) (hy1 : y.name = "<init>") (hin : Cond.instanceMethod y ∈ gW) (hk : Cond.methodLinkNest own idx y host ∈ nW) (hrm : rm.cells = mc ∧ rm.slots = ms) (hR : rm.frames + 1 ≤ R.frames ∧ 8 + (maxL + 11) + rm.locals ≤ R.locals) (hst : stk = .ref (ad b) :: rest) (hW : (rest.map fun v => v.category).sum ≤ 8) (hcs : cells + mc ≤ R.cells ∧ slots + ms ≤ R.slots) (hd : decode cc pc = .ok (.invokespecial idx, 3)) :
    va_Run p l e R s m args below meth c H locs cells slots mc ms (F0 m pc ls stk) rest (Qc (Value.ref (ad b) :: ([] : List Value)).toArray) free :=
  va_runIN (As := []) S hM ⟨va_cnB 0 S.2.2.2.2 (gin P.1) rfl hrm.1 hrm.2 (hI.2.2.2.1 _ hk) (cfw (Ts := []) S P.2.1) P.2.2 hR, hy1, cfw (Ts := []) S hin⟩ ⟨Sz.blind, fun U hU hW => ⟨rfl, by rw [hU], hI.toSt hU hW⟩⟩ rfl rfl hl.1 hst (lv_room hW) hd hcs
theorem r_I {y : MethodName} {bytes : ByteArray} {maxL idx b mc ms : Nat} {rm : Room} {Qc : Array Value → State → Outcome → State → Prop} {free : Addr → Prop} (S : CallFix p m c cc nL s args (a0 :: gW) own) (hl : lv_has ls nL lv) (hI : Iv A G kA kL Λ ad w s H locs) (hM : Met l y (.code y bytes maxL none :: gW) rm (va_Pc [.ref (ad b)] (fun U => U.heap.size = H.size ∧ St G kA kL Λ ad w U)) Qc mc ms free) (P : Pk y bytes maxL none 0) (hy1 : y.name = "<init>") (hin : Cond.instanceMethod y ∈ gW) (hk : Cond.methodLink own idx y ∈ gW) (hrm : rm.cells = mc ∧ rm.slots = ms) (hR : rm.frames + 1 ≤ R.frames ∧ 8 + (maxL + 11) + rm.locals ≤ R.locals) (hst : stk = .ref (ad b) :: rest) (hW : (rest.map fun v => v.category).sum ≤ 8) (hcs : cells + mc ≤ R.cells ∧ slots + ms ≤ R.slots) (hd : decode cc pc = .ok (.invokespecial idx, 3)) :
    va_Run p l e R s m args below meth c H locs cells slots mc ms (F0 m pc ls stk) rest (Qc (Value.ref (ad b) :: ([] : List Value)).toArray) free :=
  va_runI (As := []) S hM ⟨callB_of 0 S.2.2.2.2 (gin P.1) rfl hrm.1 hrm.2 (cfw (Ts := []) S P.2.1) (cfw (Ts := []) S hk) P.2.2 hR, hy1, cfw (Ts := []) S hin⟩ ⟨Sz.blind, fun U hU hW => ⟨rfl, by rw [hU], hI.toSt hU hW⟩⟩ rfl rfl hl.1 hst (lv_room hW) hd hcs
end MK

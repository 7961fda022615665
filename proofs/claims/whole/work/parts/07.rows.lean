/-! rows of a walk over the world; contracts -/
section WR
variable {p : Program} {l : Launch} {e : Env} {R : Room} {s : State} {m : MethodId} {args : Array Value} {below : List Frame} {meth : Method} {c : Code} {H : Heap} {locs : List Loc} {cells slots : Nat} {Q : State → Prop}
variable {cc : ByteArray} {pc nL : Nat} {ls : Array Slot} {rest stk : List Value} {a0 : Cond} {own : String} {lv : List (Nat × Value)}
variable {G : va_G} {kA kL : ClassId} {Λ : La} {ad : Nat → Nat} {w w1 : Wo} {A : Nat → Prop}
theorem cfw {Ts : List Cond} (S : CallFix p m c cc nL s args (a0 :: gW) own) {x : Cond} (h : x ∈ gW) : x.before args s = true := S.2.2.2.2 x (List.mem_cons_of_mem _ h)
theorem r_geti (S : CallFix p m c cc nL s args (a0 :: gW) own) (hI : Iv A G kA kL Λ ad w s H locs) {k i : Nat} {C : String} {T : u_T} {N : Nat} {ty0 : Nat → FieldType} (F : FC k C T N ty0) (hiN : i < N) {b idx : Nat} {x : Int32} (hlink : Cond.fieldLink own idx (T i).1 (T i).2.1 (T i).2.2.1 ∈ gW) (hd : decode cc pc = .ok (.getfield idx, 3)) (hg : gi Λ w b k i = some x)
    (kk : W p l e R s m args below meth c H locs cells slots Q (F0 m (pc + 3) ls (.int x :: rest))) : W p l e R s m args below meth c H locs cells slots Q (F0 m pc ls (.ref (ad b) :: rest)) := by
  obtain ⟨h1, ⟨fs, h2, h3⟩, rfl⟩ := gi_some hg
  exact va_get S.1 S.2.1 S.2.2.2.2 (fun w h => List.mem_cons_of_mem _ (F.2.1 w h)) S.2.2.2.1 hI.2.2.1 hI.1 b (by rw [wl_at h1, ce_ob h2]) F.1 i hiN (S.2.2.2.2 _ (List.mem_cons_of_mem _ hlink)) (fun _ h => h) (fv_at h3) hd kk
theorem r_getr (S : CallFix p m c cc nL s args (a0 :: gW) own) (hI : Iv A G kA kL Λ ad w s H locs) {k i : Nat} {C : String} {T : u_T} {N : Nat} {ty0 : Nat → FieldType} (F : FC k C T N ty0) (hiN : i < N) {b idx r : Nat} (hlink : Cond.fieldLink own idx (T i).1 (T i).2.1 (T i).2.2.1 ∈ gW) (hd : decode cc pc = .ok (.getfield idx, 3)) (hg : gr Λ b k i = some r)
    (kk : W p l e R s m args below meth c H locs cells slots Q (F0 m (pc + 3) ls (.ref (ad r) :: rest))) : W p l e R s m args below meth c H locs cells slots Q (F0 m pc ls (.ref (ad b) :: rest)) := by
  obtain ⟨h1, hz, fs, h2, h3⟩ := gr_some hg
  refine va_get S.1 S.2.1 S.2.2.2.2 (fun w h => List.mem_cons_of_mem _ (F.2.1 w h)) S.2.2.2.1 hI.2.2.1 hI.1 b (by rw [wl_at h1, ce_ob h2]) F.1 i hiN (S.2.2.2.2 _ (List.mem_cons_of_mem _ hlink)) (fun _ h => h) (v := .ref (ad r)) ?_ hd kk
  rw [fv_at h3]
  show some (if Λ.2 b i = true then Value.null else Value.ref (ad r)) = _
  rw [if_neg (by rw [hz]; exact fun q => by cases q)]
theorem r_getiN (S : CallFix p m c cc nL s args (a0 :: gW) own) (hI : Iv A G kA kL Λ ad w s H locs) {k i : Nat} {C host : String} {T : u_T} {N : Nat} {ty0 : Nat → FieldType} (F : FC k C T N ty0) (hiN : i < N) {b idx : Nat} {x : Int32} (hlink : Cond.fieldLinkNest own idx (T i).1 (T i).2.1 (T i).2.2.1 host ∈ nW) (hd : decode cc pc = .ok (.getfield idx, 3)) (hg : gi Λ w b k i = some x)
    (kk : W p l e R s m args below meth c H locs cells slots Q (F0 m (pc + 3) ls (.int x :: rest))) : W p l e R s m args below meth c H locs cells slots Q (F0 m pc ls (.ref (ad b) :: rest)) := by
  obtain ⟨h1, ⟨fs, h2, h3⟩, rfl⟩ := gi_some hg
  exact va_getN S.1 S.2.1 S.2.2.2.2 (fun w h => List.mem_cons_of_mem _ (F.2.1 w h)) S.2.2.2.1 hI.2.2.1 hI.1 b (by rw [wl_at h1, ce_ob h2]) F.1 i hiN (va_Nw.use rfl (hI.2.2.2.1 _ hlink)) (fun _ h => h) (fv_at h3) hd kk
theorem r_getrN (S : CallFix p m c cc nL s args (a0 :: gW) own) (hI : Iv A G kA kL Λ ad w s H locs) {k i : Nat} {C host : String} {T : u_T} {N : Nat} {ty0 : Nat → FieldType} (F : FC k C T N ty0) (hiN : i < N) {b idx r : Nat} (hlink : Cond.fieldLinkNest own idx (T i).1 (T i).2.1 (T i).2.2.1 host ∈ nW) (hd : decode cc pc = .ok (.getfield idx, 3)) (hg : gr Λ b k i = some r)
    (kk : W p l e R s m args below meth c H locs cells slots Q (F0 m (pc + 3) ls (.ref (ad r) :: rest))) : W p l e R s m args below meth c H locs cells slots Q (F0 m pc ls (.ref (ad b) :: rest)) := by
  obtain ⟨h1, hz, fs, h2, h3⟩ := gr_some hg
  refine va_getN S.1 S.2.1 S.2.2.2.2 (fun w h => List.mem_cons_of_mem _ (F.2.1 w h)) S.2.2.2.1 hI.2.2.1 hI.1 b (by rw [wl_at h1, ce_ob h2]) F.1 i hiN (va_Nw.use rfl (hI.2.2.2.1 _ hlink)) (fun _ h => h) (v := .ref (ad r)) ?_ hd kk
  rw [fv_at h3]
  show some (if Λ.2 b i = true then Value.null else Value.ref (ad r)) = _
  rw [if_neg (by rw [hz]; exact fun q => by cases q)]
theorem Iv.put {E : va_E} {H1 : Heap} {locs1 : List Loc} {b : Nat} (hI : Iv A G kA kL Λ ad w s H locs) (hb : b < Λ.1) (hE : ce kA kL Λ ad w1 b = E) (ho : ∀ d, d ≠ b → w1 d = w d) (hP : va_P G vCl ((wl kA kL Λ ad w).set b (ad b, E)) H1) (hS : va_S A s.heap H1 locs1) : Iv A G kA kL Λ ad w1 s H1 locs1 :=
  ⟨by rw [← wl_set hb hE ho]; exact hP, hI.2.1, hI.2.2.1, hI.2.2.2.1, hS, hI.2.2.2.2.2⟩
theorem Iv.inA (hI : Iv A G kA kL Λ ad w s H locs) : ∀ q, Aa Λ ad q → A q := fun q h => by
  obtain ⟨c, h1, rfl⟩ := h
  exact hI.2.2.2.2.2 c h1
theorem r_put (S : CallFix p m c cc nL s args (a0 :: gW) own) (hI : Iv A G kA kL Λ ad w s H locs) {k i : Nat} {C : String} {T : u_T} {N : Nat} {ty0 : Nat → FieldType} (F : FC k C T N ty0) (hiN : i < N) {b idx : Nat} {x : Int32} (hlink : Cond.fieldLink own idx (T i).1 (T i).2.1 (T i).2.2.1 ∈ gW) (hfin : (T i).2.2.2 = false) (hn : narrow (ty0 i) (.int x) = .int x) (hfit : fits (ty0 i) (.int x) = true) (hd : decode cc pc = .ok (.putfield idx, 3)) (hg : pf Λ w b k i x = some w1)
    (kk : ∀ (H1 : Heap) (locs1 : List Loc), Iv A G kA kL Λ ad w1 s H1 locs1 → W p l e R s m args below meth c H1 locs1 cells slots Q (F0 m (pc + 3) ls rest)) : W p l e R s m args below meth c H locs cells slots Q (F0 m pc ls (.int x :: .ref (ad b) :: rest)) := by
  obtain ⟨h1, ⟨fs, h2, h3⟩, rfl⟩ := pf_some hg
  refine va_put S.1 S.2.1 S.2.2.2.2 (fun w h => List.mem_cons_of_mem _ (F.2.1 w h)) ty0 F.2.2.1 F.2.2.2 S.2.2.2.1 hI.2.2.1 hI.1 (wl_D hI.2.1 hI.2.2.2.2.2) hI.2.2.2.2.1 b (by rw [wl_at h1, ce_ob h2]) F.1 i hiN (S.2.2.2.2 _ (List.mem_cons_of_mem _ hlink)) (fun _ h => h) hfin (F.2.2.1 i hiN) hn hfit ?_ hd fun H1 locs1 hP _ hS => kk H1 locs1 (hI.put h1 (by rw [ce_ob h2, fv_set h3]) up2_ne hP hS)
  unfold fv
  rw [List.length_mapIdx]
  exact (List.getElem?_eq_some_iff.mp h3).1
theorem r_putN (S : CallFix p m c cc nL s args (a0 :: gW) own) (hI : Iv A G kA kL Λ ad w s H locs) {k i : Nat} {C host : String} {T : u_T} {N : Nat} {ty0 : Nat → FieldType} (F : FC k C T N ty0) (hiN : i < N) {b idx : Nat} {x : Int32} (hlink : Cond.fieldLinkNest own idx (T i).1 (T i).2.1 (T i).2.2.1 host ∈ nW) (hfin : (T i).2.2.2 = false) (hn : narrow (ty0 i) (.int x) = .int x) (hfit : fits (ty0 i) (.int x) = true) (hd : decode cc pc = .ok (.putfield idx, 3)) (hg : pf Λ w b k i x = some w1)
    (kk : ∀ (H1 : Heap) (locs1 : List Loc), Iv A G kA kL Λ ad w1 s H1 locs1 → W p l e R s m args below meth c H1 locs1 cells slots Q (F0 m (pc + 3) ls rest)) : W p l e R s m args below meth c H locs cells slots Q (F0 m pc ls (.int x :: .ref (ad b) :: rest)) := by
  obtain ⟨h1, ⟨fs, h2, h3⟩, rfl⟩ := pf_some hg
  refine va_putN S.1 S.2.1 S.2.2.2.2 (fun w h => List.mem_cons_of_mem _ (F.2.1 w h)) ty0 F.2.2.1 F.2.2.2 S.2.2.2.1 hI.2.2.1 hI.1 (wl_D hI.2.1 hI.2.2.2.2.2) hI.2.2.2.2.1 b (by rw [wl_at h1, ce_ob h2]) F.1 i hiN (va_Nw.use rfl (hI.2.2.2.1 _ hlink)) (fun _ h => h) hfin (F.2.2.1 i hiN) hn hfit ?_ hd fun H1 locs1 hP _ hS => kk H1 locs1 (hI.put h1 (by rw [ce_ob h2, fv_set h3]) up2_ne hP hS)
  unfold fv
  rw [List.length_mapIdx]
  exact (List.getElem?_eq_some_iff.mp h3).1
theorem r_ald (S : CallFix p m c cc nL s args (a0 :: gW) own) (hI : Iv A G kA kL Λ ad w s H locs) {b : Nat} {i x : Int32} (hd : decode cc pc = .ok (.iaload, 1)) (hg : ld Λ w b i = some x)
    (kk : W p l e R s m args below meth c H locs cells slots Q (F0 m (pc + 1) ls (.int x :: rest))) : W p l e R s m args below meth c H locs cells slots Q (F0 m pc ls (.int i :: .ref (ad b) :: rest)) := by
  obtain ⟨h, rfl⟩ := ld_some hg
  obtain ⟨h1, n, h2, h3⟩ := aok_some h
  exact va_iald S.1 S.2.1 hI.2.2.1 hI.1 b 0 (by rw [wl_at h1, ce_ar h2]) rfl h3 hd kk
theorem r_ast (S : CallFix p m c cc nL s args (a0 :: gW) own) (hI : Iv A G kA kL Λ ad w s H locs) {b : Nat} {i x : Int32} (hd : decode cc pc = .ok (.iastore, 1)) (hg : st Λ w b i x = some w1)
    (kk : ∀ (H1 : Heap) (locs1 : List Loc), Iv A G kA kL Λ ad w1 s H1 locs1 → W p l e R s m args below meth c H1 locs1 cells slots Q (F0 m (pc + 1) ls rest)) : W p l e R s m args below meth c H locs cells slots Q (F0 m pc ls (.int x :: .int i :: .ref (ad b) :: rest)) := by
  obtain ⟨h, rfl⟩ := st_some hg
  obtain ⟨h1, n, h2, h3⟩ := aok_some h
  exact va_iast S.1 S.2.1 hI.2.2.1 hI.1 (wl_D hI.2.1 hI.2.2.2.2.2) hI.2.2.2.2.1 b 0 (by rw [wl_at h1, ce_ar h2]) rfl h3 hd fun H1 locs1 hP _ hS => kk H1 locs1 (hI.put h1 (by rw [ce_ar h2, up2_eq]) up2_ne hP hS)
theorem r_alen (S : CallFix p m c cc nL s args (a0 :: gW) own) (hI : Iv A G kA kL Λ ad w s H locs) {b : Nat} {x : Int32} (hd : decode cc pc = .ok (.arraylength, 1)) (hg : al Λ b = some x)
    (kk : W p l e R s m args below meth c H locs cells slots Q (F0 m (pc + 1) ls (.int x :: rest))) : W p l e R s m args below meth c H locs cells slots Q (F0 m pc ls (.ref (ad b) :: rest)) := by
  obtain ⟨h1, n, h2, h3⟩ := al_some hg
  exact va_alen S.1 S.2.1 hI.2.2.1 hI.1 b 0 (by rw [wl_at h1, ce_ar h2]) (ty := .int) rfl h3 hd kk
theorem r_cpy (S : CallFix p m c cc nL s args (a0 :: gW) own) (hl : lv_has ls nL lv) (hI : Iv A G kA kL Λ ad w s H locs) {idx : Nat} (hlink : Cond.methodLink own idx arraycopyName ∈ gW) (hnat : Cond.native arraycopyName ∈ gW) (hstat : Cond.static arraycopyName ∈ gW) (hini : Cond.initialized "java/lang/System" ∈ gW) {a b : Nat} {i j n : Int32}
    (hframes : 1 ≤ R.frames) (hlocals : (rest.map fun v => v.category).sum + (nativeFrameWords "java/lang/System" "arraycopy" 5 + 11) ≤ R.locals) (hd : decode cc pc = .ok (.invokestatic idx, 3)) (hg : cp Λ w a i b j n = some w1)
    (kk : ∀ (H1 : Heap) (locs1 : List Loc), Iv A G kA kL Λ ad w1 s H1 locs1 → W p l e R s m args below meth c H1 locs1 cells slots Q (F0 m (pc + 3) ls rest)) : W p l e R s m args below meth c H locs cells slots Q (F0 m pc ls (.int n :: .int j :: .ref (ad b) :: .int i :: .ref (ad a) :: rest)) := by
  obtain ⟨rfl, h1, h2, h3, h4, h5, na, nb, h6, h7, h8, h9⟩ := cp_some hg
  exact va_copyi S.1 S.2.1 (by rw [S.2.2.1]; exact hl.1.symm) S.2.2.2.1 (cfw (Ts := []) S hlink) (cfw (Ts := []) S hnat) (cfw (Ts := []) S hstat) (cfw (Ts := []) S hini) hI.2.2.1 hI.1 (wl_D hI.2.1 hI.2.2.2.2.2) hI.2.2.2.2.1 a b 0 0 (by rw [wl_at h1, ce_ar h6]) (by rw [wl_at h2, ce_ar h7]) (ty := .int) rfl rfl rfl h3 h4 h5 h8 h9 (fun _ _ => rfl) hframes hlocals hd fun H1 locs1 hP _ hS => kk H1 locs1 (hI.put h2 (by rw [ce_ar h7, cpw_eq]) cpw_ne hP hS)
theorem r_max (S : CallFix p m c cc nL s args (a0 :: gW) own) (hl : lv_has ls nL lv) {idx : Nat} (hlink : Cond.methodLink own idx Lib.Math.max.name ∈ gW) (hstat : Cond.static Lib.Math.max.name ∈ gW) (hini : Cond.initialized "java/lang/Math" ∈ gW) (hcode : Cond.code Lib.Math.max.name Lib.Math.max.code 2 (some .int) ∈ gW) {x y : Int32} (hframes : 1 ≤ R.frames) (hlocals : (rest.map fun v => v.category).sum + 13 ≤ R.locals) (hcs : cells ≤ R.cells ∧ slots ≤ R.slots) (hd : decode cc pc = .ok (.invokestatic idx, 3))
    (kk : W p l e R s m args below meth c H locs cells slots Q (F0 m (pc + 3) ls (.int (if x < y then y else x) :: rest))) : W p l e R s m args below meth c H locs cells slots Q (F0 m pc ls (.int y :: .int x :: rest)) :=
  va_mmax S.1 S.2.1 (by rw [S.2.2.1]; exact hl.1.symm) S.2.2.2.1 (cfw (Ts := []) S hlink) (cfw (Ts := []) S hstat) (cfw (Ts := []) S hini) (cfw (Ts := []) S hcode) hframes hlocals hcs.1 hcs.2 hd kk
/-! contracts: the method answers r, and the world w becomes w1 -/
def Mi (l : Launch) (y : MethodName) (cc : ByteArray) (maxL : Nat) (ret : Option FieldType) (rm : Room) (G : va_G) (kA kL : ClassId) (Λ : La) (ad : Nat → Nat) (av : List Value) (w w1 : Wo) (r : Int32) : Prop :=
  Met l y (.code y cc maxL ret :: gW) rm (va_Pc av (St G kA kL Λ ad w)) (va_Qi (fun x (_ : Unit) => x = r) (fun _ => St G kA kL Λ ad w1) (Aa Λ ad)) 0 0 (Aa Λ ad)
def Mv (l : Launch) (y : MethodName) (cc : ByteArray) (maxL : Nat) (rm : Room) (G : va_G) (kA kL : ClassId) (Λ : La) (ad : Nat → Nat) (av : List Value) (w w1 : Wo) : Prop :=
  Met l y (.code y cc maxL none :: gW) rm (va_Pc av (St G kA kL Λ ad w)) (va_Qv (fun (_ : Unit) => True) (fun _ => St G kA kL Λ ad w1) (Aa Λ ad)) 0 0 (Aa Λ ad)
def Mr (l : Launch) (y : MethodName) (cc : ByteArray) (maxL : Nat) (ret : Option FieldType) (rm : Room) (G : va_G) (kA kL : ClassId) (Λ : La) (ad : Nat → Nat) (av : List Value) (w w1 : Wo) (r : Nat) : Prop :=
  Met l y (.code y cc maxL ret :: gW) rm (va_Pc av (St G kA kL Λ ad w)) (va_Qr (fun (_ : Unit) => True) (fun _ a t => a = ad r ∧ St G kA kL Λ ad w1 t) (Aa Λ ad)) 0 0 (Aa Λ ad)
/-- what a walk starts from -/
theorem Mi.of {y : MethodName} {maxL : Nat} {rm : Room} {av : List Value} {r : Int32} (hy : plainName y.cls = true) (hlen : (lg_sl av).length ≤ maxL)
    (body : ∀ (p : Program) (e : Env) (s : State) (m : MethodId) (args : Array Value) (below : List Frame) (meth : Method) (c : Code) (Q : State → Prop) (ls : Array Slot), CallFix p m c cc maxL s args (.code y cc maxL (some .int) :: gW) y.cls →
      (∀ (H : Heap) (locs : List Loc) (pc : Nat) (ls : Array Slot) (w' : Wo) (x : Int32), Iv (Aa Λ ad) G kA kL Λ ad w' s H locs → some (w', x) = some (w1, r) → decode cc pc = .ok (.ireturn, 1) → W p l e rm s m args below meth c H locs 0 0 Q (F0 m pc ls [.int x])) →
      lv_has ls maxL (lv_args 0 av) → Iv (Aa Λ ad) G kA kL Λ ad w s s.heap [] → W p l e rm s m args below meth c s.heap [] 0 0 Q (F0 m 0 ls [])) : Mi l y cc maxL (some .int) rm G kA kL Λ ad av w w1 r := by
  unfold Mi
  refine Met.ofW (cc := cc) (maxL := maxL) (ret := some .int) hy rfl ?_
  intro p e s m args below meth c s₁ B hml hv
  obtain ⟨rfl, hP, hJ, hK, hN⟩ := hv
  have hr := B.returns
  have hlocks := B.notSynchronized
  rw [lg_entry_eq]
  refine body p e s m _ below meth c _ _ ⟨B.exec, B.bytes, hml, findClass_of_methodNamed B.named, atoms_spec B.pre⟩ ?_ (lv_entry av hlen) ⟨hP, hJ, hK, hN, va_S.rf, fun c h => ⟨c, h, rfl⟩⟩
  intro H locs pc ls w' x hI hf hd
  cases hf
  exact W.iret B.exec B.bytes hr (fun t ht hW => ⟨⟨_, (), rfl, rfl, hI.toSt ht hW⟩, hI.2.2.2.2.1.F ht⟩) hI.2.2.2.2.1.2.2 hd
theorem narrow_z {x : Int32} (h : x = 0 ∨ x = 1) : narrow .boolean (.int x) = .int x := by
  rcases h with rfl | rfl <;> decide +kernel
theorem zr_some {w : Wo} {x : Int32} {q : Wo × Int32} (h : zr w x = some q) : (x = 0 ∨ x = 1) ∧ (w, x) = q := by
  unfold zr at h
  by_cases hx : x = 0 ∨ x = 1
  · exact ⟨hx, Option.some.inj (ip_ h hx)⟩
  · exact absurd (in_ h hx) (fun q => by cases q)
theorem Mz.of {y : MethodName} {maxL : Nat} {rm : Room} {av : List Value} {r : Int32} (hy : plainName y.cls = true) (hlen : (lg_sl av).length ≤ maxL)
    (body : ∀ (p : Program) (e : Env) (s : State) (m : MethodId) (args : Array Value) (below : List Frame) (meth : Method) (c : Code) (Q : State → Prop) (ls : Array Slot), CallFix p m c cc maxL s args (.code y cc maxL (some .boolean) :: gW) y.cls →
      (∀ (H : Heap) (locs : List Loc) (pc : Nat) (ls : Array Slot) (w' : Wo) (x : Int32), Iv (Aa Λ ad) G kA kL Λ ad w' s H locs → zr w' x = some (w1, r) → decode cc pc = .ok (.ireturn, 1) → W p l e rm s m args below meth c H locs 0 0 Q (F0 m pc ls [.int x])) →
      lv_has ls maxL (lv_args 0 av) → Iv (Aa Λ ad) G kA kL Λ ad w s s.heap [] → W p l e rm s m args below meth c s.heap [] 0 0 Q (F0 m 0 ls [])) : Mi l y cc maxL (some .boolean) rm G kA kL Λ ad av w w1 r := by
  unfold Mi
  refine Met.ofW (cc := cc) (maxL := maxL) (ret := some .boolean) hy rfl ?_
  intro p e s m args below meth c s₁ B hml hv
  obtain ⟨rfl, hP, hJ, hK, hN⟩ := hv
  have hr := B.returns
  have hlocks := B.notSynchronized
  rw [lg_entry_eq]
  refine body p e s m _ below meth c _ _ ⟨B.exec, B.bytes, hml, findClass_of_methodNamed B.named, atoms_spec B.pre⟩ ?_ (lv_entry av hlen) ⟨hP, hJ, hK, hN, va_S.rf, fun c h => ⟨c, h, rfl⟩⟩
  intro H locs pc ls w' x hI hf hd
  obtain ⟨hx, hq⟩ := zr_some hf
  cases hq
  exact W.zret B.exec B.bytes hr (narrow_z hx) (fun t ht hW => ⟨⟨_, (), rfl, rfl, hI.toSt ht hW⟩, hI.2.2.2.2.1.F ht⟩) hI.2.2.2.2.1.2.2 hd
theorem Mv.of {y : MethodName} {maxL : Nat} {rm : Room} {av : List Value} (hy : plainName y.cls = true) (hlen : (lg_sl av).length ≤ maxL)
    (body : ∀ (p : Program) (e : Env) (s : State) (m : MethodId) (args : Array Value) (below : List Frame) (meth : Method) (c : Code) (Q : State → Prop) (ls : Array Slot), CallFix p m c cc maxL s args (.code y cc maxL none :: gW) y.cls →
      (∀ (H : Heap) (locs : List Loc) (pc : Nat) (ls : Array Slot) (w' : Wo), Iv (Aa Λ ad) G kA kL Λ ad w' s H locs → some w' = some w1 → decode cc pc = .ok (.return_, 1) → W p l e rm s m args below meth c H locs 0 0 Q (F0 m pc ls [])) →
      lv_has ls maxL (lv_args 0 av) → Iv (Aa Λ ad) G kA kL Λ ad w s s.heap [] → W p l e rm s m args below meth c s.heap [] 0 0 Q (F0 m 0 ls [])) : Mv l y cc maxL rm G kA kL Λ ad av w w1 := by
  unfold Mv
  refine Met.ofW (cc := cc) (maxL := maxL) (ret := none) hy rfl ?_
  intro p e s m args below meth c s₁ B hml hv
  obtain ⟨rfl, hP, hJ, hK, hN⟩ := hv
  have hr := B.returns
  have hlocks := B.notSynchronized
  rw [lg_entry_eq]
  refine body p e s m _ below meth c _ _ ⟨B.exec, B.bytes, hml, findClass_of_methodNamed B.named, atoms_spec B.pre⟩ ?_ (lv_entry av hlen) ⟨hP, hJ, hK, hN, va_S.rf, fun c h => ⟨c, h, rfl⟩⟩
  intro H locs pc ls w' hI hf hd
  cases hf
  exact W.vret B.exec B.bytes hr (fun t ht hW => ⟨⟨(), rfl, trivial, hI.toSt ht hW⟩, hI.2.2.2.2.1.F ht⟩) hI.2.2.2.2.1.2.2 hd
theorem Mr.of {y : MethodName} {maxL : Nat} {rm : Room} {av : List Value} {r : Nat} {C : String} (hy : plainName y.cls = true) (hlen : (lg_sl av).length ≤ maxL)
    (body : ∀ (p : Program) (e : Env) (s : State) (m : MethodId) (args : Array Value) (below : List Frame) (meth : Method) (c : Code) (Q : State → Prop) (ls : Array Slot), CallFix p m c cc maxL s args (.code y cc maxL (some (.object C)) :: gW) y.cls →
      (∀ (H : Heap) (locs : List Loc) (pc : Nat) (ls : Array Slot) (w' : Wo) (x : Nat), Iv (Aa Λ ad) G kA kL Λ ad w' s H locs → some (w', x) = some (w1, r) → decode cc pc = .ok (.areturn, 1) → W p l e rm s m args below meth c H locs 0 0 Q (F0 m pc ls [.ref (ad x)])) →
      lv_has ls maxL (lv_args 0 av) → Iv (Aa Λ ad) G kA kL Λ ad w s s.heap [] → W p l e rm s m args below meth c s.heap [] 0 0 Q (F0 m 0 ls [])) : Mr l y cc maxL (some (.object C)) rm G kA kL Λ ad av w w1 r := by
  unfold Mr
  refine Met.ofW (cc := cc) (maxL := maxL) (ret := some (.object C)) hy rfl ?_
  intro p e s m args below meth c s₁ B hml hv
  obtain ⟨rfl, hP, hJ, hK, hN⟩ := hv
  have hr := B.returns
  have hlocks := B.notSynchronized
  rw [lg_entry_eq]
  refine body p e s m _ below meth c _ _ ⟨B.exec, B.bytes, hml, findClass_of_methodNamed B.named, atoms_spec B.pre⟩ ?_ (lv_entry av hlen) ⟨hP, hJ, hK, hN, va_S.rf, fun c h => ⟨c, h, rfl⟩⟩
  intro H locs pc ls w' x hI hf hd
  cases hf
  exact W.aret B.exec B.bytes hr (Or.inl ⟨C, rfl⟩) (Or.inr ⟨_, rfl⟩) (fun t ht hW => ⟨⟨(), _, rfl, trivial, rfl, hI.toSt ht hW⟩, hI.2.2.2.2.1.F ht⟩) hI.2.2.2.2.1.2.2 hd
/-! calls -/
def Pk (y : MethodName) (bytes : ByteArray) (maxL : Nat) (ret : Option FieldType) (n : Nat) : Prop := Cond.code y bytes maxL ret ∈ gW ∧ Cond.initialized y.cls ∈ gW ∧ y.cls ≠ "java/lang/invoke/MethodHandle" ∧ y.cls ≠ "java/lang/invoke/VarHandle" ∧ (parseMethodDescriptor y.desc).map (fun d => d.parameters.length) = some n
theorem gin {a b : Cond} (h : b ∈ gW) : GoodIn (a :: gW) (b :: gW) := fun w hw => by
  have h1 : w ∈ gW := by
    rcases List.mem_cons.mp hw with rfl | h2
    · exact h
    · exact h2
  exact ⟨List.mem_cons_of_mem _ h1, good_of_word (gW_good w h1)⟩
theorem Pk.B {y : MethodName} {bytes : ByteArray} {maxL n idx : Nat} {ret : Option FieldType} {rm : Room} (P : Pk y bytes maxL ret n) (S : CallFix p m c cc nL s args (a0 :: gW) own) (hl : Cond.methodLink own idx y ∈ gW) (hrm : rm.cells = 0 ∧ rm.slots = 0) (hR : rm.frames + 1 ≤ R.frames ∧ 8 + (maxL + 11) + rm.locals ≤ R.locals) : CallB R s args own idx y bytes maxL ret (.code y bytes maxL ret :: gW) rm 0 0 n :=
  callB_of n S.2.2.2.2 (gin P.1) rfl hrm.1 hrm.2 (cfw (Ts := []) S P.2.1) (cfw (Ts := []) S hl) P.2.2 hR
theorem Pk.N {y : MethodName} {bytes : ByteArray} {maxL n idx : Nat} {ret : Option FieldType} {rm : Room} {host : String} (P : Pk y bytes maxL ret n) (S : CallFix p m c cc nL s args (a0 :: gW) own) (hN : Nst s) (hl : Cond.methodLinkNest own idx y host ∈ nW) (hrm : rm.cells = 0 ∧ rm.slots = 0) (hR : rm.frames + 1 ≤ R.frames ∧ 8 + (maxL + 11) + rm.locals ≤ R.locals) : va_CN R s args own idx y host bytes maxL ret (.code y bytes maxL ret :: gW) rm 0 0 n :=
  va_cnB n S.2.2.2.2 (gin P.1) rfl hrm.1 hrm.2 (hN _ hl) (cfw (Ts := []) S P.2.1) P.2.2 hR
theorem Iv.recv {k b : Nat} {C : String} {T : u_T} {N : Nat} (hI : Iv A G kA kL Λ ad w s H locs) (hc : vCl[k]? = some (C, T, N)) (hC : isC Λ b k = true) : ∃ cell : Cell, H[ad b]? = some cell ∧ cell.vm.isStatics = false ∧ s.vm.findClass C = some cell.cls := by
  obtain ⟨h1, fs, h2⟩ := isC_some hC
  exact va_recv hI.2.2.1 hI.1 hc (q0 := b) (by rw [wl_at h1, ce_ob h2])
/-- how a call may be made: the four ways; what stands on the stack is the arguments, turned, and the rest -/
def RunI (p : Program) (l : Launch) (e : Env) (R : Room) (s : State) (m : MethodId) (args : Array Value) (below : List Frame) (meth : Method) (c : Code) (H : Heap) (locs : List Loc) (cells slots : Nat) (g : JFrame) (rest : List Value) (Qa : State → Outcome → State → Prop) (free : Addr → Prop) : Prop := va_Run p l e R s m args below meth c H locs cells slots 0 0 g rest Qa free
theorem r_V {y : MethodName} {bytes : ByteArray} {maxL n idx k b : Nat} {ret : Option FieldType} {rm : Room} {C : String} {T : u_T} {N : Nat} {As : List Value} {Qc : Array Value → State → Outcome → State → Prop} (S : CallFix p m c cc nL s args (a0 :: gW) own) (hl : lv_has ls nL lv) (hI : Iv A G kA kL Λ ad w s H locs) (hM : Met l y (.code y bytes maxL ret :: gW) rm (va_Pc (.ref (ad b) :: As) (St G kA kL Λ ad w)) Qc 0 0 (Aa Λ ad)) (P : Pk y bytes maxL ret n) (hin : Cond.instanceMethod y ∈ gW) (hse : Cond.selects C y y ∈ gW) (hc : vCl[k]? = some (C, T, N)) (hC : isC Λ b k = true) (hk : Cond.methodLink own idx y ∈ gW) (hrm : rm.cells = 0 ∧ rm.slots = 0) (hR : rm.frames + 1 ≤ R.frames ∧ 8 + (maxL + 11) + rm.locals ≤ R.locals) (hn : As.length = n) (hst : stk = As.reverse ++ .ref (ad b) :: rest) (hW : (rest.map fun v => v.category).sum ≤ 8) (hcs : cells ≤ R.cells ∧ slots ≤ R.slots) (hd : decode cc pc = .ok (.invokevirtual idx, 3)) :
    RunI p l e R s m args below meth c H locs cells slots (F0 m pc ls stk) rest (Qc (Value.ref (ad b) :: As).toArray) (Aa Λ ad) :=
  va_runV S hM ⟨P.B S hk hrm hR, cfw (Ts := []) S hin, cfw (Ts := []) S hse⟩ ⟨St.blind, hI.recv hc hC, fun U hU hW => ⟨rfl, hI.toSt hU hW⟩⟩ rfl hn hl.1 hst (lv_room hW) hd hcs
theorem r_VN {y : MethodName} {bytes : ByteArray} {maxL n idx k b : Nat} {ret : Option FieldType} {rm : Room} {C host : String} {T : u_T} {N : Nat} {As : List Value} {Qc : Array Value → State → Outcome → State → Prop} (S : CallFix p m c cc nL s args (a0 :: gW) own) (hl : lv_has ls nL lv) (hI : Iv A G kA kL Λ ad w s H locs) (hM : Met l y (.code y bytes maxL ret :: gW) rm (va_Pc (.ref (ad b) :: As) (St G kA kL Λ ad w)) Qc 0 0 (Aa Λ ad)) (P : Pk y bytes maxL ret n) (hin : Cond.instanceMethod y ∈ gW) (hse : Cond.selects C y y ∈ gW) (hc : vCl[k]? = some (C, T, N)) (hC : isC Λ b k = true) (hk : Cond.methodLinkNest own idx y host ∈ nW) (hrm : rm.cells = 0 ∧ rm.slots = 0) (hR : rm.frames + 1 ≤ R.frames ∧ 8 + (maxL + 11) + rm.locals ≤ R.locals) (hn : As.length = n) (hst : stk = As.reverse ++ .ref (ad b) :: rest) (hW : (rest.map fun v => v.category).sum ≤ 8) (hcs : cells ≤ R.cells ∧ slots ≤ R.slots) (hd : decode cc pc = .ok (.invokevirtual idx, 3)) :
    RunI p l e R s m args below meth c H locs cells slots (F0 m pc ls stk) rest (Qc (Value.ref (ad b) :: As).toArray) (Aa Λ ad) :=
  va_runVN S hM ⟨P.N S hI.2.2.2.1 hk hrm hR, cfw (Ts := []) S hin, cfw (Ts := []) S hse⟩ ⟨St.blind, hI.recv hc hC, fun U hU hW => ⟨rfl, hI.toSt hU hW⟩⟩ rfl hn hl.1 hst (lv_room hW) hd hcs
theorem r_S {y : MethodName} {bytes : ByteArray} {maxL n idx : Nat} {ret : Option FieldType} {rm : Room} {As : List Value} {Qc : Array Value → State → Outcome → State → Prop} (S : CallFix p m c cc nL s args (a0 :: gW) own) (hl : lv_has ls nL lv) (hI : Iv A G kA kL Λ ad w s H locs) (hM : Met l y (.code y bytes maxL ret :: gW) rm (va_Pc As (St G kA kL Λ ad w)) Qc 0 0 (Aa Λ ad)) (P : Pk y bytes maxL ret n) (hstt : Cond.static y ∈ gW) (hk : Cond.methodLink own idx y ∈ gW) (hrm : rm.cells = 0 ∧ rm.slots = 0) (hR : rm.frames + 1 ≤ R.frames ∧ 8 + (maxL + 11) + rm.locals ≤ R.locals) (hn : As.length = n) (hst : stk = As.reverse ++ rest) (hW : (rest.map fun v => v.category).sum ≤ 8) (hcs : cells ≤ R.cells ∧ slots ≤ R.slots) (hd : decode cc pc = .ok (.invokestatic idx, 3)) :
    RunI p l e R s m args below meth c H locs cells slots (F0 m pc ls stk) rest (Qc As.toArray) (Aa Λ ad) :=
  va_runS S hM ⟨P.B S hk hrm hR, cfw (Ts := []) S hstt⟩ ⟨St.blind, fun U hU hW => ⟨rfl, hI.toSt hU hW⟩⟩ rfl hn hl.1 hst (lv_room hW) hd hcs
theorem r_SN {y : MethodName} {bytes : ByteArray} {maxL n idx : Nat} {ret : Option FieldType} {rm : Room} {host : String} {As : List Value} {Qc : Array Value → State → Outcome → State → Prop} (S : CallFix p m c cc nL s args (a0 :: gW) own) (hl : lv_has ls nL lv) (hI : Iv A G kA kL Λ ad w s H locs) (hM : Met l y (.code y bytes maxL ret :: gW) rm (va_Pc As (St G kA kL Λ ad w)) Qc 0 0 (Aa Λ ad)) (P : Pk y bytes maxL ret n) (hstt : Cond.static y ∈ gW) (hk : Cond.methodLinkNest own idx y host ∈ nW) (hrm : rm.cells = 0 ∧ rm.slots = 0) (hR : rm.frames + 1 ≤ R.frames ∧ 8 + (maxL + 11) + rm.locals ≤ R.locals) (hn : As.length = n) (hst : stk = As.reverse ++ rest) (hW : (rest.map fun v => v.category).sum ≤ 8) (hcs : cells ≤ R.cells ∧ slots ≤ R.slots) (hd : decode cc pc = .ok (.invokestatic idx, 3)) :
    RunI p l e R s m args below meth c H locs cells slots (F0 m pc ls stk) rest (Qc As.toArray) (Aa Λ ad) :=
  va_runSN S hM ⟨P.N S hI.2.2.2.1 hk hrm hR, cfw (Ts := []) S hstt, trivial⟩ ⟨St.blind, fun U hU hW => ⟨rfl, hI.toSt hU hW⟩⟩ rfl hn hl.1 hst (lv_room hW) hd hcs
theorem r_ci {a : Array Value} {r : Int32} (hr : RunI p l e R s m args below meth c H locs cells slots (F0 m pc ls stk) rest (va_Qi (fun x (_ : Unit) => x = r) (fun _ => St G kA kL Λ ad w1) (Aa Λ ad) a) (Aa Λ ad)) (hI : Iv A G kA kL Λ ad w s H locs)
    (kk : ∀ (H1 : Heap) (locs1 : List Loc), Iv A G kA kL Λ ad w1 s H1 locs1 → W p l e R s m args below meth c H1 locs1 cells slots Q (F0 m (pc + 3) ls (.int r :: rest))) : W p l e R s m args below meth c H locs cells slots Q (F0 m pc ls stk) :=
  va_calli hr hI.2.2.2.2.1 (fun _ _ h => hI.inA _ h) (fun _ h => hI.inA _ h) fun r' u t H1 locs1 ht hvm hp hB hz hk hS => by
    subst hp
    exact kk H1 locs1 ⟨by rw [← ht]; exact hB.1, hI.2.1, hI.2.2.1, hI.2.2.2.1, hS, hI.2.2.2.2.2⟩
theorem r_cv {a : Array Value} (hr : RunI p l e R s m args below meth c H locs cells slots (F0 m pc ls stk) rest (va_Qv (fun (_ : Unit) => True) (fun _ => St G kA kL Λ ad w1) (Aa Λ ad) a) (Aa Λ ad)) (hI : Iv A G kA kL Λ ad w s H locs)
    (kk : ∀ (H1 : Heap) (locs1 : List Loc), Iv A G kA kL Λ ad w1 s H1 locs1 → W p l e R s m args below meth c H1 locs1 cells slots Q (F0 m (pc + 3) ls rest)) : W p l e R s m args below meth c H locs cells slots Q (F0 m pc ls stk) :=
  va_callv hr hI.2.2.2.2.1 (fun _ _ h => hI.inA _ h) (fun _ h => hI.inA _ h) fun u t H1 locs1 ht hvm hp hB hz hk hS =>
    kk H1 locs1 ⟨by rw [← ht]; exact hB.1, hI.2.1, hI.2.2.1, hI.2.2.2.1, hS, hI.2.2.2.2.2⟩
theorem r_cr {a : Array Value} {r : Nat} (hr : RunI p l e R s m args below meth c H locs cells slots (F0 m pc ls stk) rest (va_Qr (fun (_ : Unit) => True) (fun _ a t => a = ad r ∧ St G kA kL Λ ad w1 t) (Aa Λ ad) a) (Aa Λ ad)) (hI : Iv A G kA kL Λ ad w s H locs)
    (kk : ∀ (H1 : Heap) (locs1 : List Loc), Iv A G kA kL Λ ad w1 s H1 locs1 → W p l e R s m args below meth c H1 locs1 cells slots Q (F0 m (pc + 3) ls (.ref (ad r) :: rest))) : W p l e R s m args below meth c H locs cells slots Q (F0 m pc ls stk) :=
  va_callr hr hI.2.2.2.2.1 (fun _ _ h => hI.inA _ h) (fun _ h => hI.inA _ h) fun u ra t H1 locs1 ht hvm hp hB hz hk hS => by
    obtain ⟨rfl, hB⟩ := hB
    exact kk H1 locs1 ⟨by rw [← ht]; exact hB.1, hI.2.1, hI.2.2.1, hI.2.2.2.1, hS, hI.2.2.2.2.2⟩
end WR

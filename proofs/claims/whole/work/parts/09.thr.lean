/-! methods that may throw, and the law's wrappers that catch; longs -/
def xn (k : Nat) : String := match k with
  | 1 => "java/lang/IndexOutOfBoundsException"
  | 2 => "java/lang/IllegalStateException"
  | 3 => "java/lang/UnsupportedOperationException"
  | _ => "java/lang/IllegalArgumentException"
abbrev xsup : List String := ["java/lang/RuntimeException", "java/lang/Exception"]
/-- what the statics of Throwable are, and which exceptions aren't which -/
def Zs (A : Nat → Prop) (U : State) (H : Heap) : Prop := vx_Zq Bundle.tN "UNASSIGNED_STACK" Bundle.steD A U H ∧ vx_Zq Bundle.tN "SUPPRESSED_SENTINEL" Bundle.listD A U H
def ncL : List (Nat × Nat) := [(2, 1), (3, 1), (3, 2), (4, 1), (3, 4), (2, 4), (4, 2)]
def Ncs (U : State) : Prop := ∀ q ∈ ncL, va_Nc (xn q.1) (xn q.2) U
def Xs (Λ : La) (ad : Nat → Nat) (U : State) : Prop := Zs (Aa Λ ad) U U.heap ∧ Ncs U
theorem Xs.next {Λ : La} {ad : Nat → Nat} {s U : State} {H : Heap} {locs : List Loc} (h : Xs Λ ad s) (hS : va_S (Aa Λ ad) s.heap H locs) (hU : U.heap = H) (hW : s.WarmedH U.vm) : Xs Λ ad U := by
  refine ⟨⟨?_, ?_⟩, fun q hq => va_Nc.moved hW.alike (h.2 q hq)⟩
  · rw [hU]; exact vx_Zq.moved hW.alike (h.1.1.kept hS.2.1)
  · rw [hU]; exact vx_Zq.moved hW.alike (h.1.2.kept hS.2.1)
theorem StX.blind {G : va_G} {kA kL : ClassId} {Λ : La} {ad : Nat → Nat} {w : Wo} {av : List Value} : FrameBlind (va_Pc av (fun U => St G kA kL Λ ad w U ∧ Xs Λ ad U)) := fun a U g mk q =>
  ⟨q.1, ⟨q.2.1.1, q.2.1.2.1, va_K.moved (u := U) (U := U.calling g mk a) (Vm.Alike.refl U.vm) q.2.1.2.2.1, Nst.same (s := U) (U := U.calling g mk a) rfl q.2.1.2.2.2⟩,
    ⟨⟨vx_Zq.moved (u := U) (U := U.calling g mk a) (Vm.Alike.refl U.vm) q.2.2.1.1, vx_Zq.moved (u := U) (U := U.calling g mk a) (Vm.Alike.refl U.vm) q.2.2.1.2⟩, fun z hz => va_Nc.moved (u := U) (U := U.calling g mk a) (Vm.Alike.refl U.vm) (q.2.2.2 z hz)⟩⟩
/-- the tables' words for 'throw new' of the exception k -/
def Th (own : String) (k ik ic : Nat) : Prop := k ≠ 0 ∧ Cond.classLink own ik (xn k) ∈ gW ∧ Cond.initialized (xn k) ∈ gW ∧ (∀ w ∈ vx_at0 own ic (xn k) xsup, w ∈ gW ∨ w ∈ nW) ∧ (∀ w ∈ Cond.classLink own ik (xn k) :: Cond.initialized (xn k) :: vx_at0 own ic (xn k) xsup, vx_ot w = true) ∧ Bundle.fit (xn k) = true
def XQ (G : va_G) (kA kL : ClassId) (Λ : La) (ad : Nat → Nat) (q : Wo × Nat × Int32) : String → State → State → Prop := vx_X (fun (_ : Unit) => True) (fun E _ t => q.2.1 ≠ 0 ∧ E = xn q.2.1 ∧ va_P G vCl (wl kA kL Λ ad q.1) t.heap) (Aa Λ ad)
def Xi (l : Launch) (y : MethodName) (cc : ByteArray) (maxL : Nat) (ret : Option FieldType) (rm : Room) (G : va_G) (kA kL : ClassId) (Λ : La) (ad : Nat → Nat) (av : List Value) (w : Wo) (q : Wo × Nat × Int32) : Prop :=
  vx_Met l y (.code y cc maxL ret :: gW) rm (va_Pc av (fun U => St G kA kL Λ ad w U ∧ Xs Λ ad U)) (va_Qi (fun x (_ : Unit) => q.2.1 = 0 ∧ x = q.2.2) (fun _ => St G kA kL Λ ad q.1) (Aa Λ ad)) (XQ G kA kL Λ ad q) 1 6 (Aa Λ ad)
def Xv (l : Launch) (y : MethodName) (cc : ByteArray) (maxL : Nat) (rm : Room) (G : va_G) (kA kL : ClassId) (Λ : La) (ad : Nat → Nat) (av : List Value) (w : Wo) (q : Wo × Nat × Int32) : Prop :=
  vx_Met l y (.code y cc maxL none :: gW) rm (va_Pc av (fun U => St G kA kL Λ ad w U ∧ Xs Λ ad U)) (va_Qv (fun (_ : Unit) => q.2.1 = 0) (fun _ => St G kA kL Λ ad q.1) (Aa Λ ad)) (XQ G kA kL Λ ad q) 1 6 (Aa Λ ad)
def zrx (w : Wo) (x : Int32) : Option (Wo × Nat × Int32) := if x = 0 ∨ x = 1 then some (w, 0, x) else none
theorem zrx_some {w : Wo} {x : Int32} {q : Wo × Nat × Int32} (h : zrx w x = some q) : (x = 0 ∨ x = 1) ∧ (w, 0, x) = q := by
  unfold zrx at h
  by_cases hx : x = 0 ∨ x = 1
  · exact ⟨hx, Option.some.inj (ip_ h hx)⟩
  · exact absurd (in_ h hx) (fun q => by cases q)
section XR
variable {p : Program} {l : Launch} {e : Env} {R : Room} {s : State} {m : MethodId} {args : Array Value} {below : List Frame} {meth : Method} {c : Code} {H : Heap} {locs : List Loc} {cells slots : Nat} {Q : State → Prop}
variable {cc : ByteArray} {pc nL : Nat} {ls : Array Slot} {rest stk : List Value} {a0 : Cond} {own : String} {lv : List (Nat × Value)}
variable {G : va_G} {kA kL : ClassId} {Λ : La} {ad : Nat → Nat} {w w1 : Wo} {A : Nat → Prop}
theorem thr {Qc : Array Value → State → Outcome → State → Prop} (S : CallFix p m c cc nL s args (a0 :: gW) own) (hlt : l.stackTraces = false) (hX : Xs Λ ad s) (hl : lv_has ls nL lv) (hI : Iv (Aa Λ ad) G kA kL Λ ad w s H locs) (htab : ∀ x ∈ c.exceptionTable.toList, False) (hlocks : meth.locks = false) {k ik ic : Nat} (T : Th own k ik ic) {x : Int32}
    (d0 : decode cc pc = .ok (.new ik, 3)) (d3 : decode cc (pc + 3) = .ok (.dup, 1)) (d4 : decode cc (pc + 4) = .ok (.invokespecial ic, 3)) (d7 : decode cc (pc + 7) = .ok (.athrow, 1))
    (hRf : 5 < R.frames) (hRl : (rest.map fun v => v.category).sum + 81 ≤ R.locals) (hRc : 1 ≤ R.cells) (hRs : 6 ≤ R.slots) :
    W p l e R s m args below meth c H locs 0 0 (vx_MQ below Qc (XQ G kA kL Λ ad (w, k, x)) args s 1 6 (Aa Λ ad)) (F0 m pc ls rest) := by
  obtain ⟨hk0, hk, hini, hat, hgood, hfit⟩ := T
  refine vx_throw0 (names := xsup) S.1 S.2.1 hlt S.2.2.2.1 hfit (by decide +kernel) (cfw (Ts := []) S hk) (cfw (Ts := []) S hini) (fun w hw => ?_) hgood hX.1.1 hX.1.2 hI.2.2.2.2.1 (hl.1.trans S.2.2.1.symm) d0 d3 d4 d7 (fun x hx => (htab x hx).elim) hRf hRl (by omega) (by omega) hlocks (fun t hvm hz hq => ?_) hI.2.2.2.2.1.2.2 (Nat.le_refl _) (Nat.le_refl _)
  · rcases hat w hw with h | h
    · exact cfw (Ts := []) S h
    · exact va_Nw.use (isNe_tab (List.mem_filter.mp h).2) (hI.2.2.2.1 w h)
  · refine ⟨(), trivial, ⟨hk0, rfl, hI.1.kept fun k q h => hq _ (vx_lt hI.1 h)⟩, Nat.le_trans hI.2.2.2.2.1.1 hz, fun q h1 h2 => ?_⟩
    rw [hq q (Nat.lt_of_lt_of_le h1 hI.2.2.2.2.1.1)]
    exact hI.2.2.2.2.1.2.1 q h1 h2
theorem Xi.of {y : MethodName} {maxL : Nat} {rm : Room} {av : List Value} {q : Wo × Nat × Int32} (hlt : l.stackTraces = false) (hy : plainName y.cls = true) (hlen : (lg_sl av).length ≤ maxL) (hrm : 5 < rm.frames ∧ 81 ≤ rm.locals ∧ rm.cells = 1 ∧ rm.slots = 6)
    (body : ∀ (p : Program) (e : Env) (s : State) (m : MethodId) (args : Array Value) (below : List Frame) (meth : Method) (c : Code) (Q : State → Prop) (ls : Array Slot), CallFix p m c cc maxL s args (.code y cc maxL (some .int) :: gW) y.cls →
      (∀ (H : Heap) (locs : List Loc) (pc : Nat) (ls : Array Slot) (w' : Wo) (x : Int32), Iv (Aa Λ ad) G kA kL Λ ad w' s H locs → some (w', 0, x) = some q → decode cc pc = .ok (.ireturn, 1) → W p l e rm s m args below meth c H locs 0 0 Q (F0 m pc ls [.int x])) →
      (∀ (H : Heap) (locs : List Loc) (pc : Nat) (ls : Array Slot) (lv : List (Nat × Value)) (w' : Wo) (k ik ic : Nat), Iv (Aa Λ ad) G kA kL Λ ad w' s H locs → lv_has ls maxL lv → some (w', k, 0) = some q → Th y.cls k ik ic → decode cc pc = .ok (.new ik, 3) → decode cc (pc + 3) = .ok (.dup, 1) → decode cc (pc + 4) = .ok (.invokespecial ic, 3) → decode cc (pc + 7) = .ok (.athrow, 1) → W p l e rm s m args below meth c H locs 0 0 Q (F0 m pc ls [])) →
      lv_has ls maxL (lv_args 0 av) → Iv (Aa Λ ad) G kA kL Λ ad w s s.heap [] → W p l e rm s m args below meth c s.heap [] 0 0 Q (F0 m 0 ls [])) : Xi l y cc maxL (some .int) rm G kA kL Λ ad av w q := by
  unfold Xi
  refine vx_ofW (cc := cc) (maxL := maxL) (ret := some .int) hy rfl ?_
  intro p e s m args below meth c s₁ B hml htab hv
  obtain ⟨rfl, ⟨hP, hJ, hK, hN⟩, hX⟩ := hv
  have hr := B.returns
  have hlocks := B.notSynchronized
  have S : CallFix p m c cc maxL s av.toArray (.code y cc maxL (some .int) :: gW) y.cls := ⟨B.exec, B.bytes, hml, findClass_of_methodNamed B.named, atoms_spec B.pre⟩
  rw [lg_entry_eq]
  refine body p e s m _ below meth c _ _ S ?_ ?_ (lv_entry av hlen) ⟨hP, hJ, hK, hN, va_S.rf, fun c h => ⟨c, h, rfl⟩⟩
  · intro H locs pc ls w' x hI hf hd
    cases hf
    refine W.widen (k := 1) (n := 6) (by omega) (by omega) (vx_ret ?_)
    exact W.iret B.exec B.bytes hr (fun t ht hW => ⟨⟨_, (), rfl, ⟨rfl, rfl⟩, hI.toSt ht hW⟩, hI.2.2.2.2.1.F ht⟩) hI.2.2.2.2.1.2.2 hd
  · intro H locs pc ls lv w' k ik ic hI hl hf T d0 d3 d4 d7
    cases hf
    exact thr S hlt hX hl hI htab hlocks T d0 d3 d4 d7 hrm.1 (by simpa using hrm.2.1) (Nat.le_of_eq hrm.2.2.1.symm) (Nat.le_of_eq hrm.2.2.2.symm)
theorem Xz.of {y : MethodName} {maxL : Nat} {rm : Room} {av : List Value} {q : Wo × Nat × Int32} (hlt : l.stackTraces = false) (hy : plainName y.cls = true) (hlen : (lg_sl av).length ≤ maxL) (hrm : 5 < rm.frames ∧ 81 ≤ rm.locals ∧ rm.cells = 1 ∧ rm.slots = 6)
    (body : ∀ (p : Program) (e : Env) (s : State) (m : MethodId) (args : Array Value) (below : List Frame) (meth : Method) (c : Code) (Q : State → Prop) (ls : Array Slot), CallFix p m c cc maxL s args (.code y cc maxL (some .boolean) :: gW) y.cls →
      (∀ (H : Heap) (locs : List Loc) (pc : Nat) (ls : Array Slot) (w' : Wo) (x : Int32), Iv (Aa Λ ad) G kA kL Λ ad w' s H locs → zrx w' x = some q → decode cc pc = .ok (.ireturn, 1) → W p l e rm s m args below meth c H locs 0 0 Q (F0 m pc ls [.int x])) →
      (∀ (H : Heap) (locs : List Loc) (pc : Nat) (ls : Array Slot) (lv : List (Nat × Value)) (w' : Wo) (k ik ic : Nat), Iv (Aa Λ ad) G kA kL Λ ad w' s H locs → lv_has ls maxL lv → some (w', k, 0) = some q → Th y.cls k ik ic → decode cc pc = .ok (.new ik, 3) → decode cc (pc + 3) = .ok (.dup, 1) → decode cc (pc + 4) = .ok (.invokespecial ic, 3) → decode cc (pc + 7) = .ok (.athrow, 1) → W p l e rm s m args below meth c H locs 0 0 Q (F0 m pc ls [])) →
      lv_has ls maxL (lv_args 0 av) → Iv (Aa Λ ad) G kA kL Λ ad w s s.heap [] → W p l e rm s m args below meth c s.heap [] 0 0 Q (F0 m 0 ls [])) : Xi l y cc maxL (some .boolean) rm G kA kL Λ ad av w q := by
  unfold Xi
  refine vx_ofW (cc := cc) (maxL := maxL) (ret := some .boolean) hy rfl ?_
  intro p e s m args below meth c s₁ B hml htab hv
  obtain ⟨rfl, ⟨hP, hJ, hK, hN⟩, hX⟩ := hv
  have hr := B.returns
  have hlocks := B.notSynchronized
  have S : CallFix p m c cc maxL s av.toArray (.code y cc maxL (some .boolean) :: gW) y.cls := ⟨B.exec, B.bytes, hml, findClass_of_methodNamed B.named, atoms_spec B.pre⟩
  rw [lg_entry_eq]
  refine body p e s m _ below meth c _ _ S ?_ ?_ (lv_entry av hlen) ⟨hP, hJ, hK, hN, va_S.rf, fun c h => ⟨c, h, rfl⟩⟩
  · intro H locs pc ls w' x hI hf hd
    obtain ⟨hx, hq⟩ := zrx_some hf
    cases hq
    refine W.widen (k := 1) (n := 6) (by omega) (by omega) (vx_ret ?_)
    exact W.zret B.exec B.bytes hr (narrow_z hx) (fun t ht hW => ⟨⟨_, (), rfl, ⟨rfl, rfl⟩, hI.toSt ht hW⟩, hI.2.2.2.2.1.F ht⟩) hI.2.2.2.2.1.2.2 hd
  · intro H locs pc ls lv w' k ik ic hI hl hf T d0 d3 d4 d7
    cases hf
    exact thr S hlt hX hl hI htab hlocks T d0 d3 d4 d7 hrm.1 (by simpa using hrm.2.1) (Nat.le_of_eq hrm.2.2.1.symm) (Nat.le_of_eq hrm.2.2.2.symm)
theorem Xv.of {y : MethodName} {maxL : Nat} {rm : Room} {av : List Value} {q : Wo × Nat × Int32} (hlt : l.stackTraces = false) (hy : plainName y.cls = true) (hlen : (lg_sl av).length ≤ maxL) (hrm : 5 < rm.frames ∧ 81 ≤ rm.locals ∧ rm.cells = 1 ∧ rm.slots = 6)
    (body : ∀ (p : Program) (e : Env) (s : State) (m : MethodId) (args : Array Value) (below : List Frame) (meth : Method) (c : Code) (Q : State → Prop) (ls : Array Slot), CallFix p m c cc maxL s args (.code y cc maxL none :: gW) y.cls →
      (∀ (H : Heap) (locs : List Loc) (pc : Nat) (ls : Array Slot) (w' : Wo), Iv (Aa Λ ad) G kA kL Λ ad w' s H locs → some (w', 0, 0) = some q → decode cc pc = .ok (.return_, 1) → W p l e rm s m args below meth c H locs 0 0 Q (F0 m pc ls [])) →
      (∀ (H : Heap) (locs : List Loc) (pc : Nat) (ls : Array Slot) (lv : List (Nat × Value)) (w' : Wo) (k ik ic : Nat), Iv (Aa Λ ad) G kA kL Λ ad w' s H locs → lv_has ls maxL lv → some (w', k, 0) = some q → Th y.cls k ik ic → decode cc pc = .ok (.new ik, 3) → decode cc (pc + 3) = .ok (.dup, 1) → decode cc (pc + 4) = .ok (.invokespecial ic, 3) → decode cc (pc + 7) = .ok (.athrow, 1) → W p l e rm s m args below meth c H locs 0 0 Q (F0 m pc ls [])) →
      lv_has ls maxL (lv_args 0 av) → Iv (Aa Λ ad) G kA kL Λ ad w s s.heap [] → W p l e rm s m args below meth c s.heap [] 0 0 Q (F0 m 0 ls [])) : Xv l y cc maxL rm G kA kL Λ ad av w q := by
  unfold Xv
  refine vx_ofW (cc := cc) (maxL := maxL) (ret := none) hy rfl ?_
  intro p e s m args below meth c s₁ B hml htab hv
  obtain ⟨rfl, ⟨hP, hJ, hK, hN⟩, hX⟩ := hv
  have hr := B.returns
  have hlocks := B.notSynchronized
  have S : CallFix p m c cc maxL s av.toArray (.code y cc maxL none :: gW) y.cls := ⟨B.exec, B.bytes, hml, findClass_of_methodNamed B.named, atoms_spec B.pre⟩
  rw [lg_entry_eq]
  refine body p e s m _ below meth c _ _ S ?_ ?_ (lv_entry av hlen) ⟨hP, hJ, hK, hN, va_S.rf, fun c h => ⟨c, h, rfl⟩⟩
  · intro H locs pc ls w' hI hf hd
    cases hf
    refine W.widen (k := 1) (n := 6) (by omega) (by omega) (vx_ret ?_)
    exact W.vret B.exec B.bytes hr (fun t ht hW => ⟨⟨(), rfl, rfl, hI.toSt ht hW⟩, hI.2.2.2.2.1.F ht⟩) hI.2.2.2.2.1.2.2 hd
  · intro H locs pc ls lv w' k ik ic hI hl hf T d0 d3 d4 d7
    cases hf
    exact thr S hlt hX hl hI htab hlocks T d0 d3 d4 d7 hrm.1 (by simpa using hrm.2.1) (Nat.le_of_eq hrm.2.2.1.symm) (Nat.le_of_eq hrm.2.2.2.symm)
/-! the law's wrappers -/
def Ml (l : Launch) (y : MethodName) (cc : ByteArray) (maxL : Nat) (hh : List (Nat × Nat × Nat × Nat)) (rm : Room) (G : va_G) (kA kL : ClassId) (Λ : La) (ad : Nat → Nat) (av : List Value) (w w1 : Wo) (r : Int32) : Prop :=
  Met l y (.codeWith y cc maxL (some .int) hh :: gW) rm (va_Pc av (fun U => St G kA kL Λ ad w U ∧ Xs Λ ad U)) (va_Qi (fun x (_ : Unit) => x = r) (fun _ => St G kA kL Λ ad w1) (Aa Λ ad)) 1 6 (Aa Λ ad)
theorem Met.ofWH {y : MethodName} {ws ws' : List Cond} {rm : Room} {Pc : Array Value → State → Prop} {Qc : Array Value → State → Outcome → State → Prop} {mc ms : Nat} {free : Addr → Prop} {maxL : Nat} {ret : Option FieldType} {hh : List (Nat × Nat × Nat × Nat)}
    (hy : plainName y.cls = true) (hw : ws = Cond.codeWith y cc maxL ret hh :: ws')
    (body : ∀ p e s m args below meth c s₁, BodyLoose p l y (headSpec ws rm) cc maxL ret e s m args below meth c s₁ → c.maxLocals = maxL → Pc args s →
      W p l e (headSpec ws rm).room s m args below meth c s.heap [] 0 0 (MQ below Qc args s mc ms free) (entryFrame m args maxL)) : Met l y ws rm Pc Qc mc ms free := by
  refine MetFree.of_bodyS (code := cc) (maxLocals := maxL) (ret := ret) hy ?_ ?_
  · intro args s m h hn
    obtain ⟨m9, meth, c, hn9, h1, h2, h3, h4, -, h5, h6, -⟩ := Cond.codeWith_spec (atoms_spec (ws := ws) h _ (by rw [hw]; exact List.mem_cons_self))
    cases hn.symm.trans hn9
    exact ⟨meth, c, h1, h2, h3, h4, h5, h6⟩
  · intro p e s m args below meth c s₁ B hml hP _
    have hh0 : s₁.heap = s.heap := by rw [B.state]; rfl
    obtain ⟨t, a1, o, b1, b2, b3⟩ := body p e s m args below meth c s₁ B hml hP s₁ hh0 (Stand.of_body B)
    exact ⟨t, o, a1, b1, b2, ⟨b3.1, b3.2⟩⟩
theorem Ml.of {y : MethodName} {maxL : Nat} {hh : List (Nat × Nat × Nat × Nat)} {rm : Room} {av : List Value} {r : Int32} (hy : plainName y.cls = true) (hlen : (lg_sl av).length ≤ maxL)
    (body : ∀ (p : Program) (e : Env) (s : State) (m : MethodId) (args : Array Value) (below : List Frame) (meth : Method) (c : Code) (Q : State → Prop) (ls : Array Slot), CallFix p m c cc maxL s args (.codeWith y cc maxL (some .int) hh :: gW) y.cls → c.exceptionTable.toList = tableOf hh → Xs Λ ad s →
      (∀ (H : Heap) (locs : List Loc) (pc : Nat) (ls : Array Slot) (w' : Wo) (x : Int32), Iv (Aa Λ ad) G kA kL Λ ad w' s H locs → some (w', x) = some (w1, r) → decode cc pc = .ok (.ireturn, 1) → W p l e rm s m args below meth c H locs 1 6 Q (F0 m pc ls [.int x])) →
      lv_has ls maxL (lv_args 0 av) → Iv (Aa Λ ad) G kA kL Λ ad w s s.heap [] → W p l e rm s m args below meth c s.heap [] 0 0 Q (F0 m 0 ls [])) : Ml l y cc maxL hh rm G kA kL Λ ad av w w1 r := by
  unfold Ml
  refine Met.ofWH (cc := cc) (maxL := maxL) (ret := some .int) (hh := hh) hy rfl ?_
  intro p e s m args below meth c s₁ B hml hv
  obtain ⟨rfl, ⟨hP, hJ, hK, hN⟩, hX⟩ := hv
  have hr := B.returns
  have hlocks := B.notSynchronized
  have hat := atoms_spec (ws := .codeWith y cc maxL (some .int) hh :: gW) B.pre
  rw [lg_entry_eq]
  refine body p e s m _ below meth c _ _ ⟨B.exec, B.bytes, hml, findClass_of_methodNamed B.named, hat⟩ (vx_table (x := y) B (hat _ List.mem_cons_self)) hX ?_ (lv_entry av hlen) ⟨hP, hJ, hK, hN, va_S.rf, fun c h => ⟨c, h, rfl⟩⟩
  intro H locs pc ls w' x hI hf hd
  cases hf
  exact W.iret B.exec B.bytes hr (fun t ht hW => ⟨⟨_, (), rfl, rfl, hI.toSt ht hW⟩, hI.2.2.2.2.1.F ht⟩) hI.2.2.2.2.1.2.2 hd
theorem Pk.X {y : MethodName} {bytes : ByteArray} {maxL n idx : Nat} {ret : Option FieldType} {rm : Room} (P : Pk y bytes maxL ret n) (S : CallFix p m c cc nL s args (a0 :: gW) own) (hl : Cond.methodLink own idx y ∈ gW) (hrm : rm.cells = 1 ∧ rm.slots = 6) (hR : rm.frames + 1 ≤ R.frames ∧ 8 + (maxL + 11) + rm.locals ≤ R.locals) : CallB R s args own idx y bytes maxL ret (.code y bytes maxL ret :: gW) rm 1 6 n :=
  callB_of n S.2.2.2.2 (gin P.1) rfl hrm.1 hrm.2 (cfw (Ts := []) S P.2.1) (cfw (Ts := []) S hl) P.2.2 hR
theorem rx_V {y : MethodName} {bytes : ByteArray} {maxL n idx k b : Nat} {ret : Option FieldType} {rm : Room} {C : String} {T : u_T} {N : Nat} {As : List Value} {Qc : Array Value → State → Outcome → State → Prop} {XC : String → State → State → Prop} (S : CallFix p m c cc nL s args (a0 :: gW) own) (hl : lv_has ls nL lv) (hI : Iv (Aa Λ ad) G kA kL Λ ad w s H locs) (hX : Xs Λ ad s) (hM : vx_Met l y (.code y bytes maxL ret :: gW) rm (va_Pc (.ref (ad b) :: As) (fun U => St G kA kL Λ ad w U ∧ Xs Λ ad U)) Qc XC 1 6 (Aa Λ ad)) (P : Pk y bytes maxL ret n) (hin : Cond.instanceMethod y ∈ gW) (hse : Cond.selects C y y ∈ gW) (hc : vCl[k]? = some (C, T, N)) (hC : isC Λ b k = true) (hk : Cond.methodLink own idx y ∈ gW) (hrm : rm.cells = 1 ∧ rm.slots = 6) (hR : rm.frames + 1 ≤ R.frames ∧ 8 + (maxL + 11) + rm.locals ≤ R.locals) (hn : As.length = n) (hst : stk = As.reverse ++ .ref (ad b) :: rest) (hW : (rest.map fun v => v.category).sum ≤ 8) (hcs : cells + 1 ≤ R.cells ∧ slots + 6 ≤ R.slots) (hd : decode cc pc = .ok (.invokevirtual idx, 3)) :
    vx_Run p l e R s m args below meth c H locs cells slots 1 6 (F0 m pc ls stk) rest (Qc (Value.ref (ad b) :: As).toArray) XC (Aa Λ ad) :=
  vx_runV S hM ⟨P.X S hk hrm hR, cfw (Ts := []) S hin, cfw (Ts := []) S hse⟩ ⟨StX.blind, hI.recv hc hC, fun U hU hW => ⟨rfl, hI.toSt hU hW, hX.next hI.2.2.2.2.1 hU hW⟩⟩ rfl hn hl.1 hst (lv_room hW) hd hcs
theorem rx_ci {a : Array Value} {q : Wo × Nat × Int32} (hr : vx_Run p l e R s m args below meth c H locs cells slots 1 6 (F0 m pc ls stk) rest (va_Qi (fun x (_ : Unit) => q.2.1 = 0 ∧ x = q.2.2) (fun _ => St G kA kL Λ ad q.1) (Aa Λ ad) a) (XQ G kA kL Λ ad q) (Aa Λ ad)) (hI : Iv (Aa Λ ad) G kA kL Λ ad w s H locs)
    (kx : ∀ (ce : Cell) (q9 : Addr) (H1 : Heap) (locs1 : List Loc), ¬ q.2.1 = 0 → Iv (Aa Λ ad) G kA kL Λ ad q.1 s H1 locs1 → H1[q9]? = some ce → ce.vm = .none → s.vm.findClass (xn q.2.1) = some ce.cls → vx_W p l e R s m args below meth c H1 locs1 (cells + 1) (slots + 6) Q (F0 m pc ls rest) q9)
    (kk : ∀ (H1 : Heap) (locs1 : List Loc), q.2.1 = 0 → Iv (Aa Λ ad) G kA kL Λ ad q.1 s H1 locs1 → W p l e R s m args below meth c H1 locs1 (cells + 1) (slots + 6) Q (F0 m (pc + 3) ls (.int q.2.2 :: rest))) : W p l e R s m args below meth c H locs cells slots Q (F0 m pc ls stk) :=
  vx_calli hr hI.2.2.2.2.1 (fun _ _ h => h) (fun _ h => h) (fun _ _ h => h) (fun E ce q9 u t H1 locs1 ht hvm hp hB hz hk hS hce hcv hcl => by
      obtain ⟨h0, rfl, hP⟩ := hB
      exact kx ce q9 H1 locs1 h0 ⟨by rw [← ht]; exact hP, hI.2.1, hI.2.2.1, hI.2.2.2.1, hS, hI.2.2.2.2.2⟩ hce hcv hcl)
    fun r u t H1 locs1 ht hvm hp hB hz hk hS => by
      obtain ⟨h0, rfl⟩ := hp
      exact kk H1 locs1 h0 ⟨by rw [← ht]; exact hB.1, hI.2.1, hI.2.2.1, hI.2.2.2.1, hS, hI.2.2.2.2.2⟩
theorem rx_cv {a : Array Value} {q : Wo × Nat × Int32} (hr : vx_Run p l e R s m args below meth c H locs cells slots 1 6 (F0 m pc ls stk) rest (va_Qv (fun (_ : Unit) => q.2.1 = 0) (fun _ => St G kA kL Λ ad q.1) (Aa Λ ad) a) (XQ G kA kL Λ ad q) (Aa Λ ad)) (hI : Iv (Aa Λ ad) G kA kL Λ ad w s H locs)
    (kx : ∀ (ce : Cell) (q9 : Addr) (H1 : Heap) (locs1 : List Loc), ¬ q.2.1 = 0 → Iv (Aa Λ ad) G kA kL Λ ad q.1 s H1 locs1 → H1[q9]? = some ce → ce.vm = .none → s.vm.findClass (xn q.2.1) = some ce.cls → vx_W p l e R s m args below meth c H1 locs1 (cells + 1) (slots + 6) Q (F0 m pc ls rest) q9)
    (kk : ∀ (H1 : Heap) (locs1 : List Loc), q.2.1 = 0 → Iv (Aa Λ ad) G kA kL Λ ad q.1 s H1 locs1 → W p l e R s m args below meth c H1 locs1 (cells + 1) (slots + 6) Q (F0 m (pc + 3) ls rest)) : W p l e R s m args below meth c H locs cells slots Q (F0 m pc ls stk) :=
  vx_callv hr hI.2.2.2.2.1 (fun _ _ h => h) (fun _ h => h) (fun _ _ h => h) (fun E ce q9 u t H1 locs1 ht hvm hp hB hz hk hS hce hcv hcl => by
      obtain ⟨h0, rfl, hP⟩ := hB
      exact kx ce q9 H1 locs1 h0 ⟨by rw [← ht]; exact hP, hI.2.1, hI.2.2.1, hI.2.2.2.1, hS, hI.2.2.2.2.2⟩ hce hcv hcl)
    fun u t H1 locs1 ht hvm hp hB hz hk hS =>
      kk H1 locs1 hp ⟨by rw [← ht]; exact hB.1, hI.2.1, hI.2.2.1, hI.2.2.2.1, hS, hI.2.2.2.2.2⟩
/-! the long array: one place, that holds an int -/
def isL (Λ : La) (b : Nat) : Bool := decide (b < Λ.1) && decide (ob b = none) && decide (ar b = none)
def sl (Λ : La) (w : Wo) (b : Nat) (x : Int32) : Option Wo := if isL Λ b = true then some (up2 w b 0 x) else none
def ll (Λ : La) (w : Wo) (b : Nat) : Option Int32 := if isL Λ b = true then some (w b 0) else none
theorem isL_some {b : Nat} (h : isL Λ b = true) : b < Λ.1 ∧ ce kA kL Λ ad w b = .inl (kL, 1, .inr (.inl fun i => (w b i).toInt64)) := by
  unfold isL at h
  simp only [Bool.and_eq_true, decide_eq_true_eq] at h
  refine ⟨h.1.1, ?_⟩
  unfold ce
  rw [h.1.2, h.2]
theorem r_lald (S : CallFix p m c cc nL s args (a0 :: gW) own) (hI : Iv A G kA kL Λ ad w s H locs) {b : Nat} {x : Int32} (hd : decode cc pc = .ok (.laload, 1)) (hg : ll Λ w b = some x)
    (kk : W p l e R s m args below meth c H locs cells slots Q (F0 m (pc + 1) ls (.long x.toInt64 :: rest))) : W p l e R s m args below meth c H locs cells slots Q (F0 m pc ls (.int 0 :: .ref (ad b) :: rest)) := by
  unfold ll at hg
  by_cases hL : isL Λ b = true
  · have hg := ip_ hg hL
    cases hg
    obtain ⟨h1, h2⟩ := isL_some (kA := kA) (kL := kL) (ad := ad) (w := w) hL
    refine va_lald S.1 S.2.1 hI.2.2.1 hI.1 b 1 (by rw [wl_at h1, h2]) rfl (i := 0) (by unfold vp_in; decide +kernel) hd ?_
    exact kk
  · exact absurd (in_ hg hL) (fun q => by cases q)
theorem r_last (S : CallFix p m c cc nL s args (a0 :: gW) own) (hI : Iv A G kA kL Λ ad w s H locs) {b : Nat} {x : Int32} (hd : decode cc pc = .ok (.lastore, 1)) (hg : sl Λ w b x = some w1)
    (kk : ∀ (H1 : Heap) (locs1 : List Loc), Iv A G kA kL Λ ad w1 s H1 locs1 → W p l e R s m args below meth c H1 locs1 cells slots Q (F0 m (pc + 1) ls rest)) : W p l e R s m args below meth c H locs cells slots Q (F0 m pc ls (.long x.toInt64 :: .int 0 :: .ref (ad b) :: rest)) := by
  unfold sl at hg
  by_cases hL : isL Λ b = true
  · have hg := ip_ hg hL
    cases hg
    obtain ⟨h1, h2⟩ := isL_some (kA := kA) (kL := kL) (ad := ad) (w := w) hL
    obtain ⟨-, h3⟩ := isL_some (kA := kA) (kL := kL) (ad := ad) (w := up2 w b 0 x) hL
    refine va_last S.1 S.2.1 hI.2.2.1 hI.1 (wl_D hI.2.1 hI.2.2.2.2.2) hI.2.2.2.2.1 b 1 (by rw [wl_at h1, h2]) rfl (i := 0) (by unfold vp_in; decide +kernel) hd fun H1 locs1 hP _ hS => kk H1 locs1 (hI.put h1 ?_ up2_ne hP hS)
    rw [h3]
    congr 5
    funext j
    show (up2 w b 0 x b j).toInt64 = if j = 0 then x.toInt64 else (w b j).toInt64
    unfold up2
    rw [if_pos rfl]
    by_cases hj : j = 0
    · rw [if_pos hj, if_pos hj]
    · rw [if_neg hj, if_neg hj]
  · exact absurd (in_ hg hL) (fun q => by cases q)
def cml (x y : Int32) : Int32 := lg_cmp x.toInt64 y.toInt64
theorem lc0 : Int64.ofNat 0 = (0 : Int32).toInt64 := by decide +kernel
theorem lc1 : Int64.ofNat 1 = (1 : Int32).toInt64 := by decide +kernel
end XR

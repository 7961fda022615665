/-! whole_start: the law from its entry (written by start.py; the rest is the kit's skeleton, with the launch that makes no stack traces) -/
/-! THE CLAIM OUT OF ONE WALK OF THE LAW'S BODY. Your part is whole_start (and what it stands on); all else here is the same for every law, but numbers. -/
def R_law : String := "GuardVolumeLaw"
def lw_P (b : Addr) (xs : List Int32) (args : Array Value) (s : State) : Prop := args = #[.ref b] ∧ s.IntsAt b xs ∧ xs.length ≤ 2560 ∧ (Jvm.Cond.and given_1 narrow_1).before args s = true
def lw_Q (_ : Array Value) (s : State) (o : Outcome) (t : State) : Prop := o = .returned (some (.int 1)) ∧ Framed s o t [] 1082 12566
def lw_Z (below : List Frame) (a : Array Value) (s : State) : State → Prop := fun t => ∃ o, t.status = .running ∧ Ended t below o ∧ lw_Q a s o t
/-- the law's own end, with 1 on the stack, nothing written that was there before, its room as the claim has it -/
theorem lw_ret {p : Program} {l : Launch} {e : Env} {s : State} {m : MethodId} {below : List Frame} {meth : Method} {c : Code} {b : Nat} (hx : p.tables.exec = Jvm.exec) (hb : c.code = code) (hr : meth.sig.returnType = ret) (hlocks : meth.locks = false) {pc : Nat} {H : Heap} {ls : Array Slot} (hdg : decode code pc = .ok (.ireturn, 1)) : W p l e room_1 s m #[Value.ref b] below meth c H [] 1082 12566 (lw_Z below #[Value.ref b] s) (F0 m pc ls [.int 1]) := by
  intro T hT X
  obtain ⟨fs, hret, hrun, hended, hW, hframe⟩ := X.leave (v := some (.int 1)) (hlocks := hlocks) (fun h => by rw [hr] at h; cases h)
  have hmeth' : T.vm.method? m = some meth := X.method'
  refine ⟨T.setFrames fs, ?_, .returned (some (.int 1)), hrun, hended, rfl, ⟨_, rfl⟩, hW, hframe⟩
  jvm_step X.here [X.here.top, hx, hb, hdg, hmeth', hr, ret, narrow_b1]
  (try refine ⟨rfl, ?_⟩); (try refine ⟨rfl, ?_⟩)
  first | (intro acts; rw [hret _ acts rfl rfl rfl]) | rw [hret _ _ rfl rfl rfl]
  exact Steps.refl _
/-- what holds at the law's entry: the machine, the code, the tables' words (any of lw_tbl by 'hts w (by decide +kernel)'), the script of L ints xs at the cell b, what the Statement gives of the start (any of its parts by flat_of_before) -/
def lw_At (p : Program) (s : State) (m : MethodId) (meth : Method) (c : Code) (b L : Nat) (xs : Nat → Int32) : Prop :=
  p.tables.exec = Jvm.exec ∧ c.code = code ∧ meth.sig.returnType = ret ∧ c.maxLocals = 7 ∧ s.vm.findClass R_law = some m.cls ∧ (∀ w ∈ lw_tbl, w.before #[Value.ref b] s = true) ∧ va_X b L xs s s.heap ∧ b < s.heap.size ∧ meth.locks = false ∧ (Jvm.Cond.and given_1 narrow_1).before #[Value.ref b] s = true
set_option maxHeartbeats 4000000 in
set_option maxRecDepth 100000 in
theorem whole_start {p : Program} {e : Env} {s : State} {m : MethodId} {below : List Frame} {meth : Method} {c : Code} (l : Launch) (hlt : l.stackTraces = false) {b L : Nat} {xs : Nat → Int32} (hL : L ≤ 2560) (C0 : lw_At p s m meth c b L xs) : W p l e room_1 s m #[Value.ref b] below meth c s.heap [] 0 0 (lw_Z below #[Value.ref b] s) (entryFrame m ([Value.ref b] : List Value).toArray 7) := by
  obtain ⟨hx, hb, hr, hml, hown, hts, hX, hbl, hlocks, hgv⟩ := C0
  obtain ⟨w1, w2, hz0, hG1, hz1, hM1, hz2, hloop⟩ := pure_start xs L hL
  have hg : ∀ w ∈ gW, w.before #[Value.ref b] s = true := fun w h => hts w (gW_tbl w h)
  have hflat := flat_of_before _ hgv
  have S : CallFix p m c cL_law 7 s #[Value.ref b] (Cond.classLink "GuardVolumeLaw" 8 "GuardVolume" :: gW) "GuardVolumeLaw" := ⟨hx, hb, hml, hown, fun w h => by
    rcases List.mem_cons.mp h with rfl | h
    · exact hg _ kw_17
    · exact hg w h⟩
  have hNst : Nst s := fun w hw => va_Nw.of (isNe_tab (List.mem_filter.mp hw).2) (hts w (List.mem_filter.mp hw).1)
  have hch : ∀ k : Nat, ∃ y : ClassId × (Nat → Nat), ∀ q, vCl[k]? = some q → u_Kn s q.1 q.2.1 q.2.2 y.1 y.2 := by
    intro k
    by_cases h0 : k = 0
    · subst h0
      obtain ⟨cC, iS, h⟩ := u_known (C := RD) (T := TD) (N := 6) hg uwD (hg _ kw_26)
      exact ⟨(cC, iS), fun q hq => by cases hq; exact h⟩
    by_cases h1 : k = 1
    · subst h1
      obtain ⟨cC, iS, h⟩ := u_known (C := RF) (T := TF) (N := 3) hg uwF (hg _ kw_95)
      exact ⟨(cC, iS), fun q hq => by cases hq; exact h⟩
    by_cases h2 : k = 2
    · subst h2
      obtain ⟨cC, iS, h⟩ := u_known (C := RJ) (T := TJ) (N := 3) hg uwJ (hg _ kw_76)
      exact ⟨(cC, iS), fun q hq => by cases hq; exact h⟩
    by_cases h3 : k = 3
    · subst h3
      obtain ⟨cC, iS, h⟩ := u_known (C := RP) (T := TP) (N := 2) hg uwP (hg _ kw_61)
      exact ⟨(cC, iS), fun q hq => by cases hq; exact h⟩
    by_cases h4 : k = 4
    · subst h4
      obtain ⟨cC, iS, h⟩ := u_known (C := RG) (T := TG) (N := 11) hg uwG (hg _ kw_18)
      exact ⟨(cC, iS), fun q hq => by cases hq; exact h⟩
    by_cases h5 : k = 5
    · subst h5
      obtain ⟨cC, iS, h⟩ := u_known (C := RM) (T := TM) (N := 20) hg uwM (hg _ kw_486)
      exact ⟨(cC, iS), fun q hq => by cases hq; exact h⟩
    exact ⟨(0, fun _ => 0), fun q hq => absurd (List.getElem?_eq_some_iff.mp hq).1 (by show ¬ k < 6; omega)⟩
  obtain ⟨f, hf⟩ := Classical.axiomOfChoice hch
  have harr : ∀ ty : FieldType, (Cond.arrayClass ty).before #[Value.ref b] s = true → ∃ cA : ClassId, s.vm.findClass ("[" ++ ty.toString) = some cA ∧ ArrOfT s cA ty := by
    intro ty h
    obtain ⟨cA, kA, comp, h1, h2, h3⟩ := Cond.arrayClass_spec h
    exact ⟨cA, h1, fun n z => ⟨fun k h => (by cases h), kA, h2, comp, h3⟩⟩
  obtain ⟨kA, hA1, hA2⟩ := harr .int (hg _ kw_59)
  obtain ⟨kL, hL1, hL2⟩ := harr .long (hg _ kw_705)
  have hK : va_K (fun k => (f k).1, fun k => (f k).2) vCl (tyA kA kL) s := by
    refine ⟨fun c q hq => hf c q hq, fun k q hq => ?_⟩
    by_cases h0 : k = 0
    · subst h0; cases hq; exact ⟨hA2, hA1⟩
    · by_cases h1 : k = 1
      · subst h1; cases hq; exact ⟨hL2, hL1⟩
      · exact absurd (List.getElem?_eq_some_iff.mp hq).1 (by show ¬ k < 2; omega)
  generalize ((fun k => (f k).1, fun k => (f k).2) : va_G) = G at hK
  obtain ⟨A, hAe⟩ : ∃ A : Nat → Prop, A = fun q => s.heap.size ≤ q := ⟨_, rfl⟩
  have hA : ∀ q, s.heap.size ≤ q → A q := fun q h => by rw [hAe]; exact h
  have hnA : ∀ q : Nat, q < s.heap.size → ¬ A q := fun q h => by rw [hAe]; exact Nat.not_le.mpr h
  have hXs : Zs A s s.heap ∧ Ncs s := by
    refine ⟨⟨vx_Zqof (hts _ (List.mem_append_right _ (List.mem_of_getElem? (i := 195) (by decide +kernel)))) (hg _ kw_8) (hflat _ (by decide +kernel)) hnA, vx_Zqof (hts _ (List.mem_append_right _ (List.mem_of_getElem? (i := 197) (by decide +kernel)))) (hg _ kw_8) (hflat _ (by decide +kernel)) hnA⟩, fun q hq => ?_⟩
    have hq : q ∈ [(2, 1), (3, 1), (3, 2), (4, 1), (3, 4), (2, 4), (4, 2)] := hq
    rcases List.mem_cons.mp hq with rfl | hq
    · exact va_Nc.of (hflat _ (by decide +kernel))
    rcases List.mem_cons.mp hq with rfl | hq
    · exact va_Nc.of (hflat _ (by decide +kernel))
    rcases List.mem_cons.mp hq with rfl | hq
    · exact va_Nc.of (hflat _ (by decide +kernel))
    rcases List.mem_cons.mp hq with rfl | hq
    · exact va_Nc.of (hflat _ (by decide +kernel))
    rcases List.mem_cons.mp hq with rfl | hq
    · exact va_Nc.of (hflat _ (by decide +kernel))
    rcases List.mem_cons.mp hq with rfl | hq
    · exact va_Nc.of (hflat _ (by decide +kernel))
    rcases List.mem_cons.mp hq with rfl | hq
    · exact va_Nc.of (hflat _ (by decide +kernel))
    cases hq
  have hI : Iv A G kA kL (0, nulL []) (fun _ => 0) (fun _ _ => 0) s s.heap [] := ⟨fun k q h => (by cases h), fun i j hi _ _ => absurd hi (Nat.not_lt_zero i), hK, hNst, va_S.rf, fun c hc => absurd hc (Nat.not_lt_zero c)⟩
  have hl := lv_entry ([.ref b] : List Value) (n := 7) (Nat.le_of_ble_eq_true rfl)
  rw [lg_entry_eq]
  generalize (lg_sl ([.ref b] : List Value) ++ List.replicate (7 - (lg_sl ([.ref b] : List Value)).length) Slot.unset).toArray = ls at hl ⊢
  have hl : lv_has ls 7 [(0, .ref b)] := hl
  refine r_new (N := 0) (nul := nulL []) S hI hA (by decide +kernel) fcG rfl (by decide +kernel) (by decide +kernel) kw_17 kw_18 kw_1 hz0 ⟨Nat.le_of_ble_eq_true rfl, Nat.le_of_ble_eq_true rfl⟩ dL_law_0 (fun ad1 H hup1 hnew hI => ?_)
  have hI : Iv A G kA kL ((1, nulL []) : La) ad1 (fun _ _ => 0) s H _ := hI
  refine lv_dup hx hb dL_law_3 rfl ?_
  refine r_cI (r_I (b := 0) (rest := [.ref (ad1 0)]) S hl hI (kG_init0 l G kA kL ad1 H.size (fun _ _ => 0) w1 hG1) pkG_init rfl kw_20 kw_19 ⟨rfl, rfl⟩ ⟨Nat.le_of_ble_eq_true rfl, Nat.le_of_ble_eq_true rfl⟩ rfl (Nat.le_of_ble_eq_true rfl) ⟨Nat.le_of_ble_eq_true rfl, Nat.le_of_ble_eq_true rfl⟩ dL_law_4) hI hA (fun ad2 H locs hup2 hnew hI => ?_)
  refine W.eq (g2 := F0 m 7 ls [.ref (ad2 0)]) (congrArg (fun z => F0 m 7 ls [.ref z]) (hup2 0 (Nat.le_of_ble_eq_true rfl)).symm) ?_
  refine lv_astore_n hx hb (lv' := [(1, .ref (ad2 0)), (0, .ref b)]) dL_law_7 rfl hl (Nat.le_of_ble_eq_true rfl) rfl (fun ls hl => ?_)
  have hI : Iv A G kA kL ((22, nulL [(0, 10), (0, 9), (0, 8), (0, 5), (0, 4), (16, 0), (0, 3), (14, 0), (0, 2), (0, 1), (7, 3), (7, 2), (7, 1), (7, 0), (0, 0), (1, 3), (1, 2), (1, 1), (1, 0)]) : La) ad2 w1 s H _ := hI
  refine r_new (N := 22) (nul := nulL [(0, 10), (0, 9), (0, 8), (0, 5), (0, 4), (16, 0), (0, 3), (14, 0), (0, 2), (0, 1), (7, 3), (7, 2), (7, 1), (7, 0), (0, 0), (1, 3), (1, 2), (1, 1), (1, 0)]) S hI hA (by decide +kernel) fcM rfl (by decide +kernel) (by decide +kernel) kw_485 kw_486 kw_7 hz1 ⟨Nat.le_of_ble_eq_true rfl, Nat.le_of_ble_eq_true rfl⟩ dL_law_8 (fun ad3 H hup3 hnew hI => ?_)
  have hI : Iv A G kA kL ((23, nulL [(0, 10), (0, 9), (0, 8), (0, 5), (0, 4), (16, 0), (0, 3), (14, 0), (0, 2), (0, 1), (7, 3), (7, 2), (7, 1), (7, 0), (0, 0), (1, 3), (1, 2), (1, 1), (1, 0)]) : La) ad3 w1 s H _ := hI
  have hl : lv_has ls 7 [(1, .ref (ad3 0)), (0, .ref b)] := by rw [hup3 0 (Nat.le_of_ble_eq_true rfl)]; exact hl
  refine lv_dup hx hb dL_law_11 rfl ?_
  refine r_cI (r_I (b := 22) (rest := [.ref (ad3 22)]) S hl hI (kM_init22 l G kA kL ad3 H.size w1 w2 hM1) pkM_init rfl kw_488 kw_487 ⟨rfl, rfl⟩ ⟨Nat.le_of_ble_eq_true rfl, Nat.le_of_ble_eq_true rfl⟩ rfl (Nat.le_of_ble_eq_true rfl) ⟨Nat.le_of_ble_eq_true rfl, Nat.le_of_ble_eq_true rfl⟩ dL_law_12) hI hA (fun ad4 H locs hup4 hnew hI => ?_)
  have hI : Iv A G kA kL ((34, nulL [(22, 19), (22, 18), (22, 17), (22, 12), (22, 11), (22, 10), (22, 9), (22, 8), (22, 4), (22, 2), (22, 1), (0, 10), (0, 9), (0, 8), (0, 5), (0, 4), (16, 0), (0, 3), (14, 0), (0, 2), (0, 1), (7, 3), (7, 2), (7, 1), (7, 0), (0, 0), (1, 3), (1, 2), (1, 1), (1, 0)]) : La) ad4 w2 s H _ := hI
  have hl : lv_has ls 7 [(1, .ref (ad4 0)), (0, .ref b)] := by rw [hup4 0 (Nat.le_of_ble_eq_true rfl)]; exact hl
  refine W.eq (g2 := F0 m 15 ls [.ref (ad4 22)]) (congrArg (fun z => F0 m 15 ls [.ref z]) (hup4 22 (Nat.le_of_ble_eq_true rfl)).symm) ?_
  refine lv_astore_n hx hb (lv' := [(2, .ref (ad4 22)), (1, .ref (ad4 0)), (0, .ref b)]) dL_law_15 rfl hl (Nat.le_of_ble_eq_true rfl) rfl (fun ls hl => ?_)
  refine lv_iconst hx hb dL_law_16 kI_1 ?_
  refine r_newL (N := 34) (nul := nulL [(22, 19), (22, 18), (22, 17), (22, 12), (22, 11), (22, 10), (22, 9), (22, 8), (22, 4), (22, 2), (22, 1), (0, 10), (0, 9), (0, 8), (0, 5), (0, 4), (16, 0), (0, 3), (14, 0), (0, 2), (0, 1), (7, 3), (7, 2), (7, 1), (7, 0), (0, 0), (1, 3), (1, 2), (1, 1), (1, 0)]) S hI hA (by decide +kernel) kw_705 rfl rfl hz2 ⟨Nat.le_of_ble_eq_true rfl, Nat.le_of_ble_eq_true rfl⟩ dL_law_17 (fun ad H hup hnew hI => ?_)
  have hI : Iv A G kA kL Lf ad w2 s H _ := hI
  have hl : lv_has ls 7 [(2, .ref (ad 22)), (1, .ref (ad 0)), (0, .ref b)] := by rw [hup 22 (Nat.le_of_ble_eq_true rfl), hup 0 (Nat.le_of_ble_eq_true rfl)]; exact hl
  refine lv_astore_n hx hb (lv' := [(3, .ref (ad 34)), (2, .ref (ad 22)), (1, .ref (ad 0)), (0, .ref b)]) dL_law_19 rfl hl (Nat.le_of_ble_eq_true rfl) rfl (fun ls hl => ?_)
  refine lv_iconst hx hb dL_law_20 kI_0 ?_
  refine lv_istore hx hb (lv' := [(4, .int 0), (3, .ref (ad 34)), (2, .ref (ad 22)), (1, .ref (ad 0)), (0, .ref b)]) dL_law_21 hl (Nat.le_of_ble_eq_true rfl) rfl (fun ls hl => ?_)
  refine W.widen (k := 35) (n := 4236) (by decide) (by decide) ?_
  refine W.eq (g2 := F0 m 23 ls []) rfl ?_
  refine law_loop hlt S hX hbl (hnA b hbl) hXs (fun cl sl H locs pc ls w hcs hI hd => ?_) 600 35 4236 (by decide) (by decide) w2 0 H _ ls (lv_sub hl [4, 3, 2, 1, 0] rfl) hI hloop
  refine va_forget (fun q hq => ?_) (W.widen (k := 1082) (n := 12566) ?_ ?_ (lw_ret hx hb hr hlocks hd))
  · have h := hI.2.2.2.2.1.2.2 q hq
    rw [hAe] at h
    exact h
  · have h : cl + 1 ≤ 1082 := hcs.1
    omega
  · have h : sl + 6 ≤ 12566 := hcs.2
    omega
set_option maxHeartbeats 4000000 in
theorem lw_walk (l : Launch) (hlt : l.stackTraces = false) (b : Addr) (xs : List Int32) : MetFree l x (headSpec (Jvm.Cond.code x code maxLocals ret :: tables_1) room_1) (lw_P b xs) (fun _ _ _ _ _ => True) lw_Q := by
  refine MetFree.of_bodyS (code := code) (maxLocals := maxLocals) (ret := ret) (by decide) ?_ ?_
  · intro args s m h hn
    obtain ⟨meth, c, h1, h2, h3, h4, h5, h6, -, -⟩ := Cond.code_spec hn (atoms_spec (ws := Jvm.Cond.code x code maxLocals ret :: tables_1) h _ List.mem_cons_self)
    exact ⟨meth, c, h1, h2, h3, h4, h5, h6⟩
  · intro p e s m args below meth c s₁ B hml0 hP _
    obtain ⟨rfl, hx, hbd, hgv⟩ := hP
    obtain ⟨scr, harrAt, hlist, hof, hsmall⟩ := hx
    obtain ⟨hcb, hkn, -, -⟩ := State.arrayAt?_spec harrAt
    have hown : s.vm.findClass R_law = some m.cls := findClass_of_methodNamed B.named
    have hts0 : ∀ c ∈ (Jvm.Cond.code x code maxLocals ret :: tables_1), c.before #[Value.ref b] s = true := atoms_spec (ws := Jvm.Cond.code x code maxLocals ret :: tables_1) B.pre
    have hts : ∀ w ∈ lw_tbl, w.before #[Value.ref b] s = true := k2_hts_sels lw_privs (fun w hw => hts0 w (List.mem_cons_of_mem _ hw)) lw_privs_ok
    have hml : c.maxLocals = 7 := B.maxLocals_eq (hts0 _ List.mem_cons_self)
    have X₀ : Stand p l e room_1 s m #[Value.ref b] below meth c s₁ [] 0 0 := Stand.of_body B
    have hh0 : s₁.heap = s.heap := by rw [B.state]; rfl
    have hsz : scr.slots.size = xs.length := by rw [← Array.length_toList, hlist, List.length_map]
    have hval : ∀ j : Nat, j < xs.length → scr.slots[j]? = some (.int (xs.getD j 0)) := fun j hj => by
      rw [← Array.getElem?_toList, hlist]
      simp [hj]
    have hbl : b < s.heap.size := (Array.getElem?_eq_some_iff.mp hcb).1
    have hX : va_X b xs.length (fun j => xs.getD j 0) s s.heap := ⟨scr, hcb, hof, hkn, hsz, hval⟩
    have K : W p l e room_1 s m #[Value.ref b] below meth c s₁.heap [] 0 0 (lw_Z below #[Value.ref b] s) (entryFrame m ([Value.ref b] : List Value).toArray 7) := by
      rw [hh0]
      exact whole_start l hlt hbd ⟨B.exec, B.bytes, B.returns, hml, hown, hts, hX, hbl, B.notSynchronized, hgv⟩
    obtain ⟨t, a1, o, b1, b2, b3⟩ := K s₁ rfl X₀
    exact ⟨t, o, a1, b1, b2, b3⟩
theorem lw_pre_spec {args : Array Value} {s : State} (h : (Jvm.Cond.and given_1 narrow_1).before args s = true) (hr : rest_1_c.before args s = true) : ∃ (b : Addr) (xs : List Int32), lw_P b xs args s := by
  have hs := flat_of_before _ h
  have hq := flat_of_before _ hr
  have hc : (Cond.count 1).before args s = true := hs _ (by decide +kernel)
  have harr : (Cond.arrayOf (.arg 0) .int).before args s = true := hs _ (by decide +kernel)
  have hle : (Cond.le (.length (.arg 0)) (.int 2560)).before args s = true := hs _ (by decide +kernel)
  have hlen : (Cond.isInt (.length (.arg 0))).before args s = true := hq _ (by decide +kernel)
  have hall : (Cond.all (.arg 0) (.isInt (.elem (.arg 0) (.index 0)))).before args s = true := hq _ (by decide +kernel)
  obtain ⟨b, xs, hb, hx⟩ := State.ints_of_pre rfl harr hlen hall
  have hsm : xs.length < 2 ^ 31 := hx.choose_spec.2.2.2
  have hev : (Term.length (.arg 0)).eval args s none [] s = some (.int xs.length.toInt32) := hx.length_eval hb
  have hv := Cond.le_ints hev (show (Term.int 2560).eval args s none [] s = some (.int 2560) from rfl)
  have hd : xs.length.toInt32 ≤ 2560 := by
    simpa [Cond.before, Cond.holds, hv] using hle
  have hN : xs.length ≤ 2560 := (Int32.ofNat_le_ofNat hsm (by decide)).mp (show Int32.ofNat xs.length ≤ Int32.ofNat 2560 from hd)
  exact ⟨b, xs, Cond.one_arg hc (show args[0]? = some (.ref b) from hb), hx, hN, h⟩
theorem lw_comes (l : Launch) (hlt : l.stackTraces = false) : Comes l x (Jvm.Cond.code x code maxLocals ret :: tables_1) room_1 (fun tb e args s => Calls_1 tb e args s ∧ rest_1 tb e args s ∧ Pre_1 tb e args s)
    (fun _ _ args s o t => lw_Q args s o t) := by
  intro p e ha hc hk s m args below hf hfit hheap happ hpre
  obtain ⟨b, xs, hP⟩ := lw_pre_spec hpre.2.2 hpre.2.1
  obtain ⟨k, o, h1, h2, h3, hQ⟩ := lw_walk l hlt b xs p e ha hc hk s m args below hf ((Spec.applies_iff_loose hf).mp happ).1 hP trivial
  exact ⟨k, o, h1, h2, h3, hQ⟩
theorem lw_frame {s t : State} {o : Outcome} {args : Array Value} (h : Framed s o t [] 1082 12566) :
    Framed s o t (fieldLocs frame_1_writes args s ++ arrayLocs frame_1_arrays args s ++ staticLocs frame_1_statics s) 1082 12566 := h
theorem lw_limb (L : Cond) (hL : ∀ (args : Array Value) (s t : State), L.after args s (.returned (some (.int 1))) t = true) :
    ArmFor flags0 classFile x code maxLocals ret World_1 tables_1 room_1 Calls_1 rest_1 Pre_1
      (fun tb e a s o t => postC L tb e a s o t ∧ Framed s o t (fieldLocs frame_1_writes a s ++ arrayLocs frame_1_arrays a s ++ staticLocs frame_1_statics s) 1082 12566) := by
  intro l hfl _ _ p e ha hc hk s m args below hf hfit hheap happ hpre
  obtain ⟨k, o, h1, h2, h3, rfl, hF⟩ := lw_comes l (by unfold Launch.stackTraces; rw [hfl]; decide) p e ha hc hk s m args below hf hfit hheap happ hpre
  exact ⟨k, _, h1, h2, h3, hL args s _, lw_frame hF⟩
theorem i_vc : Claimed_1_1 ∧ Claimed_1_2 := ⟨lw_limb limb_1_1 (fun args s t => by simp [limb_1_1, Cond.after, Cond.holds, Cond.value]), lw_limb limb_1_2 (fun args s t => Cond.after_iff.mpr (by
  first | (rw [show limb_1_2 = Cond.eq .result (.int 1) from rfl, Cond.eq_ints (x := 1) (y := 1) rfl rfl]; simp; done) | (simp [limb_1_2, Cond.value, Term.eval]; done)))⟩

/-! the law (written by law.py): its loop as a function of the script and the world, and the walk -/
def Lf : La := (35, nulL [(22, 19), (22, 18), (22, 17), (22, 12), (22, 11), (22, 10), (22, 9), (22, 8), (22, 4), (22, 2), (22, 1), (0, 10), (0, 9), (0, 8), (0, 5), (0, 4), (16, 0), (0, 3), (14, 0), (0, 2), (0, 1), (7, 3), (7, 2), (7, 1), (7, 0), (0, 0), (1, 3), (1, 2), (1, 1), (1, 0)])
def sx (xs : Nat → Int32) (L : Nat) (i : Int32) : Option Int32 := if i < 0 ∨ L ≤ i.toNatClampNeg then none else some (xs i.toNatClampNeg)
section LW
variable {p : Program} {l : Launch} {e : Env} {R : Room} {s : State} {m : MethodId} {args : Array Value} {below : List Frame} {meth : Method} {c : Code} {H : Heap} {locs : List Loc} {cells slots : Nat} {Q : State → Prop}
variable {cc : ByteArray} {pc nL : Nat} {ls : Array Slot} {rest stk : List Value} {a0 : Cond} {own : String} {lv : List (Nat × Value)}
variable {G : va_G} {kA kL : ClassId} {Λ : La} {ad : Nat → Nat} {w w1 : Wo} {A : Nat → Prop}
theorem r_sld {b L : Nat} {xs : Nat → Int32} (S : CallFix p m c cc nL s args (a0 :: gW) own) (hI : Iv A G kA kL Λ ad w s H locs) (hX : va_X b L xs s s.heap) (hbl : b < s.heap.size) (hbA : ¬ A b) {i x : Int32} (hd : decode cc pc = .ok (.iaload, 1)) (hg : sx xs L i = some x)
    (kk : W p l e R s m args below meth c H locs cells slots Q (F0 m (pc + 1) ls (.int x :: rest))) : W p l e R s m args below meth c H locs cells slots Q (F0 m pc ls (.int i :: .ref b :: rest)) := by
  unfold sx at hg
  by_cases h : i < 0 ∨ L ≤ i.toNatClampNeg
  · exact absurd (ip_ hg h) (fun q => by cases q)
  · have hg := in_ hg h
    cases hg
    exact va_sld S.1 S.2.1 hX hbl hbA hI.2.2.2.2.1 h hd kk
theorem r_SW {y : MethodName} {bytes : ByteArray} {maxL n idx : Nat} {hh : List (Nat × Nat × Nat × Nat)} {rm : Room} {As : List Value} {Qc : Array Value → State → Outcome → State → Prop} (S : CallFix p m c cc nL s args (a0 :: gW) own) (hl : lv_has ls nL lv) (hI : Iv A G kA kL Λ ad w s H locs) (hXs : Zs A s s.heap ∧ Ncs s) (hM : Met l y (.codeWith y bytes maxL (some .int) hh :: gW) rm (va_Pc As (fun U => St G kA kL Λ ad w U ∧ Xs Λ ad U)) Qc 1 6 (Aa Λ ad)) (h1 : Cond.codeWith y bytes maxL (some .int) hh ∈ gW) (h2 : Cond.initialized y.cls ∈ gW) (h3 : Cond.static y ∈ gW) (hk : Cond.methodLink own idx y ∈ gW) (hd0 : y.cls ≠ "java/lang/invoke/MethodHandle" ∧ y.cls ≠ "java/lang/invoke/VarHandle" ∧ (parseMethodDescriptor y.desc).map (fun d => d.parameters.length) = some n) (hrm : rm.cells = 1 ∧ rm.slots = 6) (hR : rm.frames + 1 ≤ R.frames ∧ 8 + (maxL + 11) + rm.locals ≤ R.locals) (hn : As.length = n) (hst : stk = As.reverse ++ rest) (hW : (rest.map fun v => v.category).sum ≤ 8) (hcs : cells + 1 ≤ R.cells ∧ slots + 6 ≤ R.slots) (hd : decode cc pc = .ok (.invokestatic idx, 3)) :
    va_Run p l e R s m args below meth c H locs cells slots 1 6 (F0 m pc ls stk) rest (Qc As.toArray) (Aa Λ ad) := by
  refine vx_runSW (hh := hh) S hM ⟨⟨hrm.1, hrm.2, hR.1, hR.2, pay_in S.2.2.2.2 (gin h1), List.mem_cons_self⟩, cfw (Ts := []) S h1, cfw (Ts := []) S h2, ⟨hd0.1, hd0.2.1⟩, fun sig h => ?_, cfw (Ts := []) S hk, cfw (Ts := []) S h3⟩ ⟨StX.blind, fun U hU hW => ⟨rfl, hI.toSt hU hW, ⟨⟨?_, ?_⟩, fun q hq => va_Nc.moved hW.alike (hXs.2 q hq)⟩⟩⟩ rfl hn hl.1 hst (lv_room hW) hd hcs
  · have h9 := hd0.2.2
    rw [h] at h9
    exact (Option.some.inj h9).symm
  · rw [hU]; exact (vx_Zq.moved hW.alike (hXs.1.1.kept hI.2.2.2.2.1.2.1)).narrow (fun q h => hI.inA q h)
  · rw [hU]; exact (vx_Zq.moved hW.alike (hXs.1.2.kept hI.2.2.2.2.1.2.1)).narrow (fun q h => hI.inA q h)
theorem r_cw {a : Array Value} {r : Int32} (hr : va_Run p l e R s m args below meth c H locs cells slots 1 6 (F0 m pc ls stk) rest (va_Qi (fun x (_ : Unit) => x = r) (fun _ => St G kA kL Λ ad w1) (Aa Λ ad) a) (Aa Λ ad)) (hI : Iv A G kA kL Λ ad w s H locs)
    (kk : ∀ (H1 : Heap) (locs1 : List Loc), Iv A G kA kL Λ ad w1 s H1 locs1 → W p l e R s m args below meth c H1 locs1 (cells + 1) (slots + 6) Q (F0 m (pc + 3) ls (.int r :: rest))) : W p l e R s m args below meth c H locs cells slots Q (F0 m pc ls stk) :=
  va_calli hr hI.2.2.2.2.1 (fun _ _ h => hI.inA _ h) (fun _ h => hI.inA _ h) fun r' u t H1 locs1 ht hvm hp hB hz hk hS => by
    subst hp
    exact kk H1 locs1 ⟨by rw [← ht]; exact hB.1, hI.2.1, hI.2.2.1, hI.2.2.2.1, hS, hI.2.2.2.2.2⟩
end LW
def bL_law_1033 (Λ : La) (xs : Nat → Int32) (L : Nat) (K23 : Wo → Int32 → Option Unit) (w : Wo) (x4 : Int32) : Option Unit := K23 w (x4 + 5)
def bL_law_518 (Λ : La) (xs : Nat → Int32) (L : Nat) (K23 : Wo → Int32 → Option Unit) (w : Wo) (x4 : Int32) (s0 : Int32) (s2 : Int32) : Option Unit := (fM_findings Λ w 22 s2).bind fun q1 => if s0 = q1.2 then (bL_law_1033 Λ xs L K23 q1.1 x4) else (none)
def bL_law_500 (Λ : La) (xs : Nat → Int32) (L : Nat) (K23 : Wo → Int32 → Option Unit) (w : Wo) (x4 : Int32) (s1 : Int32) : Option Unit := (fG_findings Λ w 0 s1).bind fun q3 => (sx xs L (x4 + 1)).bind fun v4 => if v4 = 0 then (bL_law_518 Λ xs L K23 q3.1 x4 q3.2 0) else (bL_law_518 Λ xs L K23 q3.1 x4 q3.2 1)
def bL_law_796 (Λ : La) (xs : Nat → Int32) (L : Nat) (K23 : Wo → Int32 → Option Unit) (w : Wo) (x4 : Int32) (s0 : Int32) (s1 : Int32) : Option Unit := if (cml s0 s1) = 0 then (bL_law_1033 Λ xs L K23 w x4) else (none)
def bL_law_23s (Λ : La) (xs : Nat → Int32) (L : Nat) (K23 : Wo → Int32 → Option Unit) (w : Wo) (x4 : Int32) : Option Unit := if ((Int32.ofNat L) - 5) < x4 then (some ()) else ((sx xs L x4).bind fun v8 => if (v8 &&& 15) = 0 then ((sx xs L (x4 + 1)).bind fun v10 => (sx xs L (x4 + 2)).bind fun v11 => (sx xs L (x4 + 3)).bind fun v12 => (fL_write Λ w 0 v10 v11 v12 34).bind fun q13 => (sx xs L (x4 + 1)).bind fun v14 => (sx xs L (x4 + 2)).bind fun v15 => (sx xs L (x4 + 3)).bind fun v16 => (fM_write Λ q13.1 22 v14 v15 v16).bind fun q17 => (fM_thrown Λ q17.1 22).bind fun q18 => if q18.2 = q13.2 then (if q13.2 = 0 then ((ll Λ q18.1 34).bind fun v21 => if (cml v21 q17.2) = 0 then (bL_law_1033 Λ xs L K23 q18.1 x4) else (none)) else (bL_law_1033 Λ xs L K23 q18.1 x4)) else (none)) else (if (v8 &&& 15) = 1 then ((sx xs L (x4 + 1)).bind fun v24 => (sx xs L (x4 + 2)).bind fun v25 => (fL_read Λ w 0 v24 v25 34).bind fun q26 => (sx xs L (x4 + 1)).bind fun v27 => (sx xs L (x4 + 2)).bind fun v28 => (fM_read Λ q26.1 22 v27 v28).bind fun q29 => (fM_thrown Λ q29.1 22).bind fun q30 => if q30.2 = q26.2 then (if q26.2 = 0 then ((ll Λ q30.1 34).bind fun v33 => if (cml v33 q29.2) = 0 then (bL_law_1033 Λ xs L K23 q30.1 x4) else (none)) else (bL_law_1033 Λ xs L K23 q30.1 x4)) else (none)) else (if (v8 &&& 15) = 2 then ((fG_code Λ w 0).bind fun q36 => (fM_code Λ q36.1 22).bind fun q37 => if q36.2 = q37.2 then (bL_law_1033 Λ xs L K23 q37.1 x4) else (none)) else (if (v8 &&& 15) = 3 then ((sx xs L (x4 + 1)).bind fun v40 => (sx xs L (x4 + 2)).bind fun v41 => (sx xs L (x4 + 3)).bind fun v42 => (sx xs L (x4 + 4)).bind fun v43 => (fL_plan Λ w 0 v40 v41 v42 v43).bind fun q44 => (sx xs L (x4 + 1)).bind fun v45 => (sx xs L (x4 + 2)).bind fun v46 => (sx xs L (x4 + 3)).bind fun v47 => (sx xs L (x4 + 4)).bind fun v48 => (fM_plan Λ q44.1 22 v45 v46 v47 v48).bind fun w49 => (fM_thrown Λ w49 22).bind fun q50 => if q50.2 = q44.2 then (bL_law_1033 Λ xs L K23 q50.1 x4) else (none)) else (if (v8 &&& 15) = 4 then ((sx xs L (x4 + 1)).bind fun v53 => (fL_cutAfter Λ w 0 v53).bind fun q54 => (sx xs L (x4 + 1)).bind fun v55 => (fM_cutAfter Λ q54.1 22 v55).bind fun w56 => (fM_thrown Λ w56 22).bind fun q57 => if q57.2 = q54.2 then (bL_law_1033 Λ xs L K23 q57.1 x4) else (none)) else (if (v8 &&& 15) = 5 then ((fL_start Λ w 0 34).bind fun q60 => (fM_start Λ q60.1 22).bind fun q61 => (fM_thrown Λ q61.1 22).bind fun q62 => if q62.2 = q60.2 then (if q60.2 = 0 then ((ll Λ q62.1 34).bind fun v65 => if (cml v65 q61.2) = 0 then (bL_law_1033 Λ xs L K23 q62.1 x4) else (none)) else (bL_law_1033 Λ xs L K23 q62.1 x4)) else (none)) else (if (v8 &&& 15) = 6 then ((sx xs L (x4 + 1)).bind fun v68 => (fL_scrub Λ w 0 v68 34).bind fun q69 => (sx xs L (x4 + 1)).bind fun v70 => (fM_scrub Λ q69.1 22 v70).bind fun q71 => (fM_thrown Λ q71.1 22).bind fun q72 => if q72.2 = q69.2 then (if q69.2 = 0 then ((ll Λ q72.1 34).bind fun v75 => if (cml v75 q71.2) = 0 then (bL_law_1033 Λ xs L K23 q72.1 x4) else (none)) else (bL_law_1033 Λ xs L K23 q72.1 x4)) else (none)) else (if (v8 &&& 15) = 7 then ((sx xs L (x4 + 1)).bind fun v78 => if v78 = 0 then (bL_law_500 Λ xs L K23 w x4 0) else (bL_law_500 Λ xs L K23 w x4 1)) else (if (v8 &&& 15) = 8 then ((sx xs L (x4 + 1)).bind fun v81 => (sx xs L (x4 + 2)).bind fun v82 => (fL_finding Λ w 0 v81 v82 34).bind fun q83 => (sx xs L (x4 + 1)).bind fun v84 => (sx xs L (x4 + 2)).bind fun v85 => (fM_finding Λ q83.1 22 v84 v85).bind fun q86 => (fM_thrown Λ q86.1 22).bind fun q87 => if q87.2 = q83.2 then (if q83.2 = 0 then ((ll Λ q87.1 34).bind fun v90 => if (cml v90 q86.2) = 0 then (bL_law_1033 Λ xs L K23 q87.1 x4) else (none)) else (bL_law_1033 Λ xs L K23 q87.1 x4)) else (none)) else (if (v8 &&& 15) = 9 then ((sx xs L (x4 + 1)).bind fun v93 => (sx xs L (x4 + 2)).bind fun v94 => (fL_expected Λ w 0 v93 v94 34).bind fun q95 => (sx xs L (x4 + 1)).bind fun v96 => (sx xs L (x4 + 2)).bind fun v97 => (fM_expected Λ q95.1 22 v96 v97).bind fun q98 => (fM_thrown Λ q98.1 22).bind fun q99 => if q99.2 = q95.2 then (if q95.2 = 0 then ((ll Λ q99.1 34).bind fun v102 => if (cml v102 q98.2) = 0 then (bL_law_1033 Λ xs L K23 q99.1 x4) else (none)) else (bL_law_1033 Λ xs L K23 q99.1 x4)) else (none)) else (if (v8 &&& 15) = 10 then ((sx xs L (x4 + 1)).bind fun v105 => (sx xs L (x4 + 2)).bind fun v106 => (fL_verdict Λ w 0 v105 v106 34).bind fun q107 => (sx xs L (x4 + 1)).bind fun v108 => (sx xs L (x4 + 2)).bind fun v109 => (fM_verdict Λ q107.1 22 v108 v109).bind fun q110 => (fM_thrown Λ q110.1 22).bind fun q111 => if q111.2 = q107.2 then (if q107.2 = 0 then ((ll Λ q111.1 34).bind fun v114 => if (cml v114 q110.2) = 0 then (bL_law_1033 Λ xs L K23 q111.1 x4) else (none)) else (bL_law_1033 Λ xs L K23 q111.1 x4)) else (none)) else (if (v8 &&& 15) = 11 then ((sx xs L (x4 + 1)).bind fun v117 => (sx xs L (x4 + 2)).bind fun v118 => (fL_isRight Λ w 0 v117 v118 34).bind fun q119 => (sx xs L (x4 + 1)).bind fun v120 => (sx xs L (x4 + 2)).bind fun v121 => (fM_isRight Λ q119.1 22 v120 v121).bind fun q122 => (fM_thrown Λ q122.1 22).bind fun q123 => if q123.2 = q119.2 then (if q119.2 = 0 then ((ll Λ q123.1 34).bind fun v126 => if q122.2 = 0 then (bL_law_796 Λ xs L K23 q123.1 x4 v126 0) else (bL_law_796 Λ xs L K23 q123.1 x4 v126 1)) else (bL_law_1033 Λ xs L K23 q123.1 x4)) else (none)) else (if (v8 &&& 15) = 12 then ((sx xs L (x4 + 1)).bind fun v129 => (sx xs L (x4 + 2)).bind fun v130 => (sx xs L (x4 + 3)).bind fun v131 => (fL_raw Λ w 0 v129 v130 v131 34).bind fun q132 => (sx xs L (x4 + 1)).bind fun v133 => (sx xs L (x4 + 2)).bind fun v134 => (sx xs L (x4 + 3)).bind fun v135 => (fM_raw Λ q132.1 22 v133 v134 v135).bind fun q136 => (fM_thrown Λ q136.1 22).bind fun q137 => if q137.2 = q132.2 then (if q132.2 = 0 then ((ll Λ q137.1 34).bind fun v140 => if (cml v140 q136.2) = 0 then (bL_law_1033 Λ xs L K23 q137.1 x4) else (none)) else (bL_law_1033 Λ xs L K23 q137.1 x4)) else (none)) else (if (v8 &&& 15) = 13 then ((sx xs L (x4 + 1)).bind fun v143 => (fL_replace Λ w 0 v143).bind fun q144 => (sx xs L (x4 + 1)).bind fun v145 => (fM_replace Λ q144.1 22 v145).bind fun w146 => (fM_thrown Λ w146 22).bind fun q147 => if q147.2 = q144.2 then (bL_law_1033 Λ xs L K23 q147.1 x4) else (none)) else (if (v8 &&& 15) = 14 then ((sx xs L (x4 + 1)).bind fun v150 => (fL_rebuild Λ w 0 v150 34).bind fun q151 => (sx xs L (x4 + 1)).bind fun v152 => (fM_rebuild Λ q151.1 22 v152).bind fun q153 => (fM_thrown Λ q153.1 22).bind fun q154 => if q154.2 = q151.2 then (if q151.2 = 0 then ((ll Λ q154.1 34).bind fun v157 => if (cml v157 q153.2) = 0 then (bL_law_1033 Λ xs L K23 q154.1 x4) else (none)) else (bL_law_1033 Λ xs L K23 q154.1 x4)) else (none)) else (if (v8 &&& 15) = 15 then ((sx xs L (x4 + 1)).bind fun v160 => (fL_count Λ w 0 v160 34).bind fun q161 => (sx xs L (x4 + 1)).bind fun v162 => (fM_count Λ q161.1 22 v162).bind fun q163 => (fM_thrown Λ q163.1 22).bind fun q164 => if q164.2 = q161.2 then (if q161.2 = 0 then ((ll Λ q164.1 34).bind fun v167 => if (cml v167 q163.2) = 0 then (bL_law_1033 Λ xs L K23 q164.1 x4) else (none)) else (bL_law_1033 Λ xs L K23 q164.1 x4)) else (none)) else (bL_law_1033 Λ xs L K23 w x4)))))))))))))))))
def bL_law_23 (Λ : La) (xs : Nat → Int32) (L : Nat) : Nat → Wo → Int32 → Option Unit
  | 0 => fun _ _ => none
  | n + 1 => bL_law_23s Λ xs L (bL_law_23 Λ xs L n)
set_option maxHeartbeats 40000000 in
set_option maxRecDepth 100000 in
theorem law_loop {p : Program} {l : Launch} {e : Env} {s : State} {m : MethodId} {args : Array Value} {below : List Frame} {meth : Method} {c : Code} {Q : State → Prop} {a0 : Cond} {b L : Nat} {xs : Nat → Int32} {A : Nat → Prop} {G : va_G} {kA kL : ClassId} {ad : Nat → Nat} (hlt : l.stackTraces = false) (S : CallFix p m c cL_law 7 s args (a0 :: gW) "GuardVolumeLaw") (hX : va_X b L xs s s.heap) (hbl : b < s.heap.size) (hbA : ¬ A b) (hXs : Zs A s s.heap ∧ Ncs s)
    (hret : ∀ (cl sl : Nat) (H : Heap) (locs : List Loc) (pc : Nat) (ls : Array Slot) (w : Wo), cl + 1 ≤ room_1.cells ∧ sl + 6 ≤ room_1.slots → Iv A G kA kL Lf ad w s H locs → decode cL_law pc = .ok (.ireturn, 1) → W p l e room_1 s m args below meth c H locs cl sl Q (F0 m pc ls [.int 1])) :
    ∀ (n cl sl : Nat), cl + n ≤ 1082 → sl + 6 * n ≤ 12566 → ∀ (w : Wo) (x4 : Int32) (H : Heap) (locs : List Loc) (ls : Array Slot), lv_has ls 7 [(0, .ref b), (1, .ref (ad 0)), (2, .ref (ad 22)), (3, .ref (ad 34)), (4, .int x4)] → Iv A G kA kL Lf ad w s H locs → bL_law_23 Lf xs L n w x4 = some () → W p l e room_1 s m args below meth c H locs cl sl Q (F0 m 23 ls []) := by
  have hx := S.1
  have hb := S.2.1
  have bk1033 : ∀ (cl sl : Nat), cl ≤ room_1.cells ∧ sl ≤ room_1.slots → ∀ (K23 : Wo → Int32 → Option Unit), (∀ (w : Wo) (x4 : Int32) (H : Heap) (locs : List Loc) (ls : Array Slot), lv_has ls 7 [(0, .ref b), (1, .ref (ad 0)), (2, .ref (ad 22)), (3, .ref (ad 34)), (4, .int x4)] → Iv A G kA kL Lf ad w s H locs → K23 w x4 = some () → W p l e room_1 s m args below meth c H locs cl sl Q (F0 m 23 ls [])) → ∀ (w : Wo) (x4 : Int32) (H : Heap) (locs : List Loc) (ls : Array Slot), lv_has ls 7 [(0, .ref b), (1, .ref (ad 0)), (2, .ref (ad 22)), (3, .ref (ad 34)), (4, .int x4)] → Iv A G kA kL Lf ad w s H locs → bL_law_1033 Lf xs L K23 w x4 = some () → W p l e room_1 s m args below meth c H locs cl sl Q (F0 m 1033 ls []) := by
    intro cl sl hcs K23 hK23 w x4 H locs ls hl hI hf
    unfold bL_law_1033 at hf
    refine lv_iinc hx hb (lv' := [(4, .int (x4 + 5)), (0, .ref b), (1, .ref (ad 0)), (2, .ref (ad 22)), (3, .ref (ad 34))]) (k := 4) dL_law_1033 hl rfl (kN_5 _) (Nat.le_of_ble_eq_true rfl) rfl (fun ls hl => ?_)
    refine lv_goto (tgt := 23) hx hb dL_law_1036 rfl ?_
    exact hK23 w (x4 + 5) _ _ _ (lv_sub hl [1, 2, 3, 4, 0] rfl) hI hf
  have bk518 : ∀ (cl sl : Nat), cl ≤ room_1.cells ∧ sl ≤ room_1.slots → ∀ (K23 : Wo → Int32 → Option Unit), (∀ (w : Wo) (x4 : Int32) (H : Heap) (locs : List Loc) (ls : Array Slot), lv_has ls 7 [(0, .ref b), (1, .ref (ad 0)), (2, .ref (ad 22)), (3, .ref (ad 34)), (4, .int x4)] → Iv A G kA kL Lf ad w s H locs → K23 w x4 = some () → W p l e room_1 s m args below meth c H locs cl sl Q (F0 m 23 ls [])) → ∀ (w : Wo) (x4 : Int32) (s0 : Int32) (s2 : Int32) (H : Heap) (locs : List Loc) (ls : Array Slot), lv_has ls 7 [(0, .ref b), (1, .ref (ad 0)), (2, .ref (ad 22)), (3, .ref (ad 34)), (4, .int x4)] → Iv A G kA kL Lf ad w s H locs → bL_law_518 Lf xs L K23 w x4 s0 s2 = some () → W p l e room_1 s m args below meth c H locs cl sl Q (F0 m 518 ls [.int s2, .ref (ad 22), .int s0]) := by
    intro cl sl hcs K23 hK23 w x4 s0 s2 H locs ls hl hI hf
    unfold bL_law_518 at hf
    obtain ⟨q1, hq1, hf⟩ := ob_ hf
    refine r_ci (r_V (rest := [.int s0]) (As := [.int s2]) S hl hI (kM_findings l G kA kL Lf ad w 22 s2 q1.1 q1.2 hq1) pkM_findings kw_670 kw_671 (fcM).1 (gd_some hq1).1 kw_669 ⟨rfl, rfl⟩ ⟨Nat.le_of_ble_eq_true rfl, Nat.le_of_ble_eq_true rfl⟩ rfl rfl (Nat.le_of_ble_eq_true rfl) hcs dL_law_518) hI (fun H locs hI => ?_)
    refine lv_icmp_eq (tgt := 1033) hx hb dL_law_521 rfl (fun h2 => ?_) (fun h2 => ?_)
    · have hf := ip_ hf h2
      exact bk1033 cl sl hcs K23 hK23 q1.1 x4 _ _ _ (lv_sub hl [0, 1, 2, 3, 4] rfl) hI hf
    · have hf := in_ hf h2
      refine lv_iconst hx hb dL_law_524 kI_0 ?_
      cases hf
  have bk500 : ∀ (cl sl : Nat), cl ≤ room_1.cells ∧ sl ≤ room_1.slots → ∀ (K23 : Wo → Int32 → Option Unit), (∀ (w : Wo) (x4 : Int32) (H : Heap) (locs : List Loc) (ls : Array Slot), lv_has ls 7 [(0, .ref b), (1, .ref (ad 0)), (2, .ref (ad 22)), (3, .ref (ad 34)), (4, .int x4)] → Iv A G kA kL Lf ad w s H locs → K23 w x4 = some () → W p l e room_1 s m args below meth c H locs cl sl Q (F0 m 23 ls [])) → ∀ (w : Wo) (x4 : Int32) (s1 : Int32) (H : Heap) (locs : List Loc) (ls : Array Slot), lv_has ls 7 [(0, .ref b), (1, .ref (ad 0)), (2, .ref (ad 22)), (3, .ref (ad 34)), (4, .int x4)] → Iv A G kA kL Lf ad w s H locs → bL_law_500 Lf xs L K23 w x4 s1 = some () → W p l e room_1 s m args below meth c H locs cl sl Q (F0 m 500 ls [.int s1, .ref (ad 0)]) := by
    intro cl sl hcs K23 hK23 w x4 s1 H locs ls hl hI hf
    unfold bL_law_500 at hf
    obtain ⟨q3, hq3, hf⟩ := ob_ hf
    refine r_ci (r_V (rest := []) (As := [.int s1]) S hl hI (kG_findings l G kA kL Lf ad w 0 s1 q3.1 q3.2 hq3) pkG_findings kw_152 kw_153 (fcG).1 (gd_some hq3).1 kw_151 ⟨rfl, rfl⟩ ⟨Nat.le_of_ble_eq_true rfl, Nat.le_of_ble_eq_true rfl⟩ rfl rfl (Nat.le_of_ble_eq_true rfl) hcs dL_law_500) hI (fun H locs hI => ?_)
    refine lv_aload_n hx hb dL_law_503 rfl (lv_at hl 2 rfl) ?_
    refine lv_aload_n hx hb dL_law_504 rfl (lv_at hl 0 rfl) ?_
    refine lv_iload hx hb dL_law_505 (lv_at hl 4 rfl) ?_
    refine lv_iconst hx hb dL_law_507 kI_1 ?_
    refine lv_iadd hx hb dL_law_508 ?_
    obtain ⟨v4, hv4, hf⟩ := ob_ hf
    refine r_sld S hI hX hbl hbA dL_law_509 hv4 ?_
    refine lv_if_eq (tgt := 517) hx hb dL_law_510 rfl (fun h5 => ?_) (fun h5 => ?_)
    · have hf := ip_ hf h5
      refine lv_iconst hx hb dL_law_517 kI_0 ?_
      exact bk518 cl sl hcs K23 hK23 q3.1 x4 q3.2 0 _ _ _ (lv_sub hl [0, 1, 2, 3, 4] rfl) hI hf
    · have hf := in_ hf h5
      refine lv_iconst hx hb dL_law_513 kI_1 ?_
      refine lv_goto (tgt := 518) hx hb dL_law_514 rfl ?_
      exact bk518 cl sl hcs K23 hK23 q3.1 x4 q3.2 1 _ _ _ (lv_sub hl [0, 1, 2, 3, 4] rfl) hI hf
  have bk796 : ∀ (cl sl : Nat), cl ≤ room_1.cells ∧ sl ≤ room_1.slots → ∀ (K23 : Wo → Int32 → Option Unit), (∀ (w : Wo) (x4 : Int32) (H : Heap) (locs : List Loc) (ls : Array Slot), lv_has ls 7 [(0, .ref b), (1, .ref (ad 0)), (2, .ref (ad 22)), (3, .ref (ad 34)), (4, .int x4)] → Iv A G kA kL Lf ad w s H locs → K23 w x4 = some () → W p l e room_1 s m args below meth c H locs cl sl Q (F0 m 23 ls [])) → ∀ (w : Wo) (x4 : Int32) (s0 : Int32) (s1 : Int32) (H : Heap) (locs : List Loc) (ls : Array Slot), lv_has ls 7 [(0, .ref b), (1, .ref (ad 0)), (2, .ref (ad 22)), (3, .ref (ad 34)), (4, .int x4)] → Iv A G kA kL Lf ad w s H locs → bL_law_796 Lf xs L K23 w x4 s0 s1 = some () → W p l e room_1 s m args below meth c H locs cl sl Q (F0 m 796 ls [.long (Int32.toInt64 s1), .long (Int32.toInt64 s0)]) := by
    intro cl sl hcs K23 hK23 w x4 s0 s1 H locs ls hl hI hf
    unfold bL_law_796 at hf
    refine W.lcmp hx hb dL_law_796 ?_
    refine lv_if_eq (tgt := 802) hx hb dL_law_797 rfl (fun h6 => ?_) (fun h6 => ?_)
    · have hf := ip_ hf h6
      refine lv_goto (tgt := 1033) hx hb dL_law_802 rfl ?_
      exact bk1033 cl sl hcs K23 hK23 w x4 _ _ _ (lv_sub hl [0, 1, 2, 3, 4] rfl) hI hf
    · have hf := in_ hf h6
      refine lv_iconst hx hb dL_law_800 kI_0 ?_
      cases hf
  have bk23 : ∀ (cl sl : Nat), cl + 1 ≤ room_1.cells ∧ sl + 6 ≤ room_1.slots → ∀ (K23 : Wo → Int32 → Option Unit), (∀ (w : Wo) (x4 : Int32) (H : Heap) (locs : List Loc) (ls : Array Slot), lv_has ls 7 [(0, .ref b), (1, .ref (ad 0)), (2, .ref (ad 22)), (3, .ref (ad 34)), (4, .int x4)] → Iv A G kA kL Lf ad w s H locs → K23 w x4 = some () → W p l e room_1 s m args below meth c H locs (cl + 1) (sl + 6) Q (F0 m 23 ls [])) → ∀ (w : Wo) (x4 : Int32) (H : Heap) (locs : List Loc) (ls : Array Slot), lv_has ls 7 [(0, .ref b), (1, .ref (ad 0)), (2, .ref (ad 22)), (3, .ref (ad 34)), (4, .int x4)] → Iv A G kA kL Lf ad w s H locs → bL_law_23s Lf xs L K23 w x4 = some () → W p l e room_1 s m args below meth c H locs cl sl Q (F0 m 23 ls []) := by
    intro cl sl hcs K23 hK23 w x4 H locs ls hl hI hf
    unfold bL_law_23s at hf
    refine lv_iload hx hb dL_law_23 (lv_at hl 4 rfl) ?_
    refine lv_aload_n hx hb dL_law_25 rfl (lv_at hl 0 rfl) ?_
    refine va_slen hx hb hX hbl hbA hI.2.2.2.2.1 dL_law_26 ?_
    refine lv_iconst hx hb dL_law_27 kI_5 ?_
    refine lv_isub hx hb dL_law_28 ?_
    refine lv_icmp_gt (tgt := 1039) hx hb dL_law_29 rfl (fun h7 => ?_) (fun h7 => ?_)
    · have hf := ip_ hf h7
      refine lv_iconst hx hb dL_law_1039 kI_1 ?_
      exact hret cl sl _ _ _ _ _ hcs hI dL_law_1040
    · have hf := in_ hf h7
      refine lv_aload_n hx hb dL_law_32 rfl (lv_at hl 0 rfl) ?_
      refine lv_iload hx hb dL_law_33 (lv_at hl 4 rfl) ?_
      obtain ⟨v8, hv8, hf⟩ := ob_ hf
      refine r_sld S hI hX hbl hbA dL_law_35 hv8 ?_
      refine lv_bipush hx hb dL_law_36 kB_15 ?_
      refine lv_iand hx hb dL_law_38 ?_
      refine tsw_c (k := 0) (tgt := 116) (off := 77) hx hb dL_law_39 (by decide) (by decide) rfl rfl (fun h9 => ?_) (fun h9 => ?_)
      · have hf := ip_ hf h9
        refine lv_aload_n hx hb dL_law_116 rfl (lv_at hl 1 rfl) ?_
        refine lv_aload_n hx hb dL_law_117 rfl (lv_at hl 0 rfl) ?_
        refine lv_iload hx hb dL_law_118 (lv_at hl 4 rfl) ?_
        refine lv_iconst hx hb dL_law_120 kI_1 ?_
        refine lv_iadd hx hb dL_law_121 ?_
        obtain ⟨v10, hv10, hf⟩ := ob_ hf
        refine r_sld S hI hX hbl hbA dL_law_122 hv10 ?_
        refine lv_aload_n hx hb dL_law_123 rfl (lv_at hl 0 rfl) ?_
        refine lv_iload hx hb dL_law_124 (lv_at hl 4 rfl) ?_
        refine lv_iconst hx hb dL_law_126 kI_2 ?_
        refine lv_iadd hx hb dL_law_127 ?_
        obtain ⟨v11, hv11, hf⟩ := ob_ hf
        refine r_sld S hI hX hbl hbA dL_law_128 hv11 ?_
        refine lv_aload_n hx hb dL_law_129 rfl (lv_at hl 0 rfl) ?_
        refine lv_iload hx hb dL_law_130 (lv_at hl 4 rfl) ?_
        refine lv_iconst hx hb dL_law_132 kI_3 ?_
        refine lv_iadd hx hb dL_law_133 ?_
        obtain ⟨v12, hv12, hf⟩ := ob_ hf
        refine r_sld S hI hX hbl hbA dL_law_134 hv12 ?_
        refine lv_aload_n hx hb dL_law_135 rfl (lv_at hl 3 rfl) ?_
        obtain ⟨q13, hq13, hf⟩ := ob_ hf
        refine r_cw (r_SW (n := 5) (rest := []) (As := [.ref (ad 0), .int v10, .int v11, .int v12, .ref (ad 34)]) S hl hI hXs (kL_write l hlt G kA kL Lf ad w 0 v10 v11 v12 34 q13.1 q13.2 hq13) kw_157 kw_0 kw_156 kw_155 (by decide +kernel) ⟨rfl, rfl⟩ ⟨Nat.le_of_ble_eq_true rfl, Nat.le_of_ble_eq_true rfl⟩ rfl rfl (Nat.le_of_ble_eq_true rfl) hcs dL_law_136) hI (fun H locs hI => ?_)
        refine lv_istore hx hb (lv' := [(5, .int q13.2), (0, .ref b), (1, .ref (ad 0)), (2, .ref (ad 22)), (3, .ref (ad 34)), (4, .int x4)]) dL_law_139 hl (Nat.le_of_ble_eq_true rfl) rfl (fun ls hl => ?_)
        refine lv_aload_n hx hb dL_law_141 rfl (lv_at hl 3 rfl) ?_
        refine lv_aload_n hx hb dL_law_142 rfl (lv_at hl 1 rfl) ?_
        refine lv_iload hx hb dL_law_143 (lv_at hl 5 rfl) ?_
        refine lv_iconst hx hb dL_law_145 kI_1 ?_
        refine lv_iadd hx hb dL_law_146 ?_
        obtain ⟨v14, hv14, hf⟩ := ob_ hf
        refine r_sld S hI hX hbl hbA dL_law_147 hv14 ?_
        refine lv_aload_n hx hb dL_law_148 rfl (lv_at hl 1 rfl) ?_
        refine lv_iload hx hb dL_law_149 (lv_at hl 5 rfl) ?_
        refine lv_iconst hx hb dL_law_151 kI_2 ?_
        refine lv_iadd hx hb dL_law_152 ?_
        obtain ⟨v15, hv15, hf⟩ := ob_ hf
        refine r_sld S hI hX hbl hbA dL_law_153 hv15 ?_
        refine lv_aload_n hx hb dL_law_154 rfl (lv_at hl 1 rfl) ?_
        refine lv_iload hx hb dL_law_155 (lv_at hl 5 rfl) ?_
        refine lv_iconst hx hb dL_law_157 kI_3 ?_
        refine lv_iadd hx hb dL_law_158 ?_
        obtain ⟨v16, hv16, hf⟩ := ob_ hf
        refine r_sld S hI hX hbl hbA dL_law_159 hv16 ?_
        obtain ⟨q17, hq17, hf⟩ := ob_ hf
        refine r_ci (r_V (rest := []) (As := [.int v14, .int v15, .int v16]) S hl hI (kM_write l G kA kL Lf ad q13.1 22 v14 v15 v16 q17.1 q17.2 hq17) pkM_write kw_567 kw_568 (fcM).1 (gd_some hq17).1 kw_566 ⟨rfl, rfl⟩ ⟨Nat.le_of_ble_eq_true rfl, Nat.le_of_ble_eq_true rfl⟩ rfl rfl (Nat.le_of_ble_eq_true rfl) hcs dL_law_160) hI (fun H locs hI => ?_)
        refine lv_istore hx hb (lv' := [(6, .int q17.2), (5, .int q13.2), (0, .ref b), (1, .ref (ad 0)), (2, .ref (ad 22)), (3, .ref (ad 34)), (4, .int x4)]) dL_law_163 hl (Nat.le_of_ble_eq_true rfl) rfl (fun ls hl => ?_)
        refine lv_aload_n hx hb dL_law_165 rfl (lv_at hl 4 rfl) ?_
        obtain ⟨q18, hq18, hf⟩ := ob_ hf
        refine r_ci (r_V (rest := []) (As := []) S hl hI (kM_thrown l G kA kL Lf ad q17.1 22 q18.1 q18.2 hq18) pkM_thrown kw_563 kw_564 (fcM).1 (gd_some hq18).1 kw_562 ⟨rfl, rfl⟩ ⟨Nat.le_of_ble_eq_true rfl, Nat.le_of_ble_eq_true rfl⟩ rfl rfl (Nat.le_of_ble_eq_true rfl) hcs dL_law_166) hI (fun H locs hI => ?_)
        refine lv_iload hx hb dL_law_169 (lv_at hl 1 rfl) ?_
        refine lv_icmp_eq (tgt := 176) hx hb dL_law_171 rfl (fun h19 => ?_) (fun h19 => ?_)
        · have hf := ip_ hf h19
          refine lv_iload hx hb dL_law_176 (lv_at hl 1 rfl) ?_
          refine lv_if_ne (tgt := 193) hx hb dL_law_178 rfl (fun h20 => ?_) (fun h20 => ?_)
          · have hf := in_ hf h20
            refine lv_goto (tgt := 1033) hx hb dL_law_193 rfl ?_
            exact bk1033 (cl + 1) (sl + 6) hcs K23 hK23 q18.1 x4 _ _ _ (lv_sub hl [2, 3, 4, 5, 6] rfl) hI hf
          · have hf := ip_ hf h20
            refine lv_aload_n hx hb dL_law_181 rfl (lv_at hl 5 rfl) ?_
            refine lv_iconst hx hb dL_law_182 kI_0 ?_
            obtain ⟨v21, hv21, hf⟩ := ob_ hf
            refine r_lald S hI dL_law_183 hv21 ?_
            refine lv_iload hx hb dL_law_184 (lv_at hl 0 rfl) ?_
            refine lv_i2l hx hb dL_law_186 rfl ?_
            refine W.lcmp hx hb dL_law_187 ?_
            refine lv_if_eq (tgt := 193) hx hb dL_law_188 rfl (fun h22 => ?_) (fun h22 => ?_)
            · have hf := ip_ hf h22
              refine lv_goto (tgt := 1033) hx hb dL_law_193 rfl ?_
              exact bk1033 (cl + 1) (sl + 6) hcs K23 hK23 q18.1 x4 _ _ _ (lv_sub hl [2, 3, 4, 5, 6] rfl) hI hf
            · have hf := in_ hf h22
              refine lv_iconst hx hb dL_law_191 kI_0 ?_
              cases hf
        · have hf := in_ hf h19
          refine lv_iconst hx hb dL_law_174 kI_0 ?_
          cases hf
      have hf := in_ hf h9
      refine tsw_c (k := 1) (tgt := 196) (off := 157) hx hb dL_law_39 (by decide) (by decide) rfl rfl (fun h23 => ?_) (fun h23 => ?_)
      · have hf := ip_ hf h23
        refine lv_aload_n hx hb dL_law_196 rfl (lv_at hl 1 rfl) ?_
        refine lv_aload_n hx hb dL_law_197 rfl (lv_at hl 0 rfl) ?_
        refine lv_iload hx hb dL_law_198 (lv_at hl 4 rfl) ?_
        refine lv_iconst hx hb dL_law_200 kI_1 ?_
        refine lv_iadd hx hb dL_law_201 ?_
        obtain ⟨v24, hv24, hf⟩ := ob_ hf
        refine r_sld S hI hX hbl hbA dL_law_202 hv24 ?_
        refine lv_aload_n hx hb dL_law_203 rfl (lv_at hl 0 rfl) ?_
        refine lv_iload hx hb dL_law_204 (lv_at hl 4 rfl) ?_
        refine lv_iconst hx hb dL_law_206 kI_2 ?_
        refine lv_iadd hx hb dL_law_207 ?_
        obtain ⟨v25, hv25, hf⟩ := ob_ hf
        refine r_sld S hI hX hbl hbA dL_law_208 hv25 ?_
        refine lv_aload_n hx hb dL_law_209 rfl (lv_at hl 3 rfl) ?_
        obtain ⟨q26, hq26, hf⟩ := ob_ hf
        refine r_cw (r_SW (n := 4) (rest := []) (As := [.ref (ad 0), .int v24, .int v25, .ref (ad 34)]) S hl hI hXs (kL_read l hlt G kA kL Lf ad w 0 v24 v25 34 q26.1 q26.2 hq26) kw_340 kw_0 kw_339 kw_338 (by decide +kernel) ⟨rfl, rfl⟩ ⟨Nat.le_of_ble_eq_true rfl, Nat.le_of_ble_eq_true rfl⟩ rfl rfl (Nat.le_of_ble_eq_true rfl) hcs dL_law_210) hI (fun H locs hI => ?_)
        refine lv_istore hx hb (lv' := [(5, .int q26.2), (0, .ref b), (1, .ref (ad 0)), (2, .ref (ad 22)), (3, .ref (ad 34)), (4, .int x4)]) dL_law_213 hl (Nat.le_of_ble_eq_true rfl) rfl (fun ls hl => ?_)
        refine lv_aload_n hx hb dL_law_215 rfl (lv_at hl 3 rfl) ?_
        refine lv_aload_n hx hb dL_law_216 rfl (lv_at hl 1 rfl) ?_
        refine lv_iload hx hb dL_law_217 (lv_at hl 5 rfl) ?_
        refine lv_iconst hx hb dL_law_219 kI_1 ?_
        refine lv_iadd hx hb dL_law_220 ?_
        obtain ⟨v27, hv27, hf⟩ := ob_ hf
        refine r_sld S hI hX hbl hbA dL_law_221 hv27 ?_
        refine lv_aload_n hx hb dL_law_222 rfl (lv_at hl 1 rfl) ?_
        refine lv_iload hx hb dL_law_223 (lv_at hl 5 rfl) ?_
        refine lv_iconst hx hb dL_law_225 kI_2 ?_
        refine lv_iadd hx hb dL_law_226 ?_
        obtain ⟨v28, hv28, hf⟩ := ob_ hf
        refine r_sld S hI hX hbl hbA dL_law_227 hv28 ?_
        obtain ⟨q29, hq29, hf⟩ := ob_ hf
        refine r_ci (r_V (rest := []) (As := [.int v27, .int v28]) S hl hI (kM_read l G kA kL Lf ad q26.1 22 v27 v28 q29.1 q29.2 hq29) pkM_read kw_638 kw_639 (fcM).1 (gd_some hq29).1 kw_637 ⟨rfl, rfl⟩ ⟨Nat.le_of_ble_eq_true rfl, Nat.le_of_ble_eq_true rfl⟩ rfl rfl (Nat.le_of_ble_eq_true rfl) hcs dL_law_228) hI (fun H locs hI => ?_)
        refine lv_istore hx hb (lv' := [(6, .int q29.2), (5, .int q26.2), (0, .ref b), (1, .ref (ad 0)), (2, .ref (ad 22)), (3, .ref (ad 34)), (4, .int x4)]) dL_law_231 hl (Nat.le_of_ble_eq_true rfl) rfl (fun ls hl => ?_)
        refine lv_aload_n hx hb dL_law_233 rfl (lv_at hl 4 rfl) ?_
        obtain ⟨q30, hq30, hf⟩ := ob_ hf
        refine r_ci (r_V (rest := []) (As := []) S hl hI (kM_thrown l G kA kL Lf ad q29.1 22 q30.1 q30.2 hq30) pkM_thrown kw_563 kw_564 (fcM).1 (gd_some hq30).1 kw_562 ⟨rfl, rfl⟩ ⟨Nat.le_of_ble_eq_true rfl, Nat.le_of_ble_eq_true rfl⟩ rfl rfl (Nat.le_of_ble_eq_true rfl) hcs dL_law_234) hI (fun H locs hI => ?_)
        refine lv_iload hx hb dL_law_237 (lv_at hl 1 rfl) ?_
        refine lv_icmp_eq (tgt := 244) hx hb dL_law_239 rfl (fun h31 => ?_) (fun h31 => ?_)
        · have hf := ip_ hf h31
          refine lv_iload hx hb dL_law_244 (lv_at hl 1 rfl) ?_
          refine lv_if_ne (tgt := 261) hx hb dL_law_246 rfl (fun h32 => ?_) (fun h32 => ?_)
          · have hf := in_ hf h32
            refine lv_goto (tgt := 1033) hx hb dL_law_261 rfl ?_
            exact bk1033 (cl + 1) (sl + 6) hcs K23 hK23 q30.1 x4 _ _ _ (lv_sub hl [2, 3, 4, 5, 6] rfl) hI hf
          · have hf := ip_ hf h32
            refine lv_aload_n hx hb dL_law_249 rfl (lv_at hl 5 rfl) ?_
            refine lv_iconst hx hb dL_law_250 kI_0 ?_
            obtain ⟨v33, hv33, hf⟩ := ob_ hf
            refine r_lald S hI dL_law_251 hv33 ?_
            refine lv_iload hx hb dL_law_252 (lv_at hl 0 rfl) ?_
            refine lv_i2l hx hb dL_law_254 rfl ?_
            refine W.lcmp hx hb dL_law_255 ?_
            refine lv_if_eq (tgt := 261) hx hb dL_law_256 rfl (fun h34 => ?_) (fun h34 => ?_)
            · have hf := ip_ hf h34
              refine lv_goto (tgt := 1033) hx hb dL_law_261 rfl ?_
              exact bk1033 (cl + 1) (sl + 6) hcs K23 hK23 q30.1 x4 _ _ _ (lv_sub hl [2, 3, 4, 5, 6] rfl) hI hf
            · have hf := in_ hf h34
              refine lv_iconst hx hb dL_law_259 kI_0 ?_
              cases hf
        · have hf := in_ hf h31
          refine lv_iconst hx hb dL_law_242 kI_0 ?_
          cases hf
      have hf := in_ hf h23
      refine tsw_c (k := 2) (tgt := 264) (off := 225) hx hb dL_law_39 (by decide) (by decide) rfl rfl (fun h35 => ?_) (fun h35 => ?_)
      · have hf := ip_ hf h35
        refine W.widen (k := cl + 1) (n := sl + 6) (by omega) (by omega) ?_
        refine lv_aload_n hx hb dL_law_264 rfl (lv_at hl 1 rfl) ?_
        obtain ⟨q36, hq36, hf⟩ := ob_ hf
        refine r_ci (r_V (rest := []) (As := []) S hl hI (kG_code l G kA kL Lf ad w 0 q36.1 q36.2 hq36) pkG_code kw_148 kw_149 (fcG).1 (gd_some hq36).1 kw_147 ⟨rfl, rfl⟩ ⟨Nat.le_of_ble_eq_true rfl, Nat.le_of_ble_eq_true rfl⟩ rfl rfl (Nat.le_of_ble_eq_true rfl) hcs dL_law_265) hI (fun H locs hI => ?_)
        refine lv_aload_n hx hb dL_law_268 rfl (lv_at hl 2 rfl) ?_
        obtain ⟨q37, hq37, hf⟩ := ob_ hf
        refine r_ci (r_V (rest := [.int q36.2]) (As := []) S hl hI (kM_code l G kA kL Lf ad q36.1 22 q37.1 q37.2 hq37) pkM_code kw_642 kw_643 (fcM).1 (gd_some hq37).1 kw_641 ⟨rfl, rfl⟩ ⟨Nat.le_of_ble_eq_true rfl, Nat.le_of_ble_eq_true rfl⟩ rfl rfl (Nat.le_of_ble_eq_true rfl) hcs dL_law_269) hI (fun H locs hI => ?_)
        refine lv_icmp_eq (tgt := 1033) hx hb dL_law_272 rfl (fun h38 => ?_) (fun h38 => ?_)
        · have hf := ip_ hf h38
          exact bk1033 (cl + 1) (sl + 6) hcs K23 hK23 q37.1 x4 _ _ _ (lv_sub hl [0, 1, 2, 3, 4] rfl) hI hf
        · have hf := in_ hf h38
          refine lv_iconst hx hb dL_law_275 kI_0 ?_
          cases hf
      have hf := in_ hf h35
      refine tsw_c (k := 3) (tgt := 277) (off := 238) hx hb dL_law_39 (by decide) (by decide) rfl rfl (fun h39 => ?_) (fun h39 => ?_)
      · have hf := ip_ hf h39
        refine lv_aload_n hx hb dL_law_277 rfl (lv_at hl 1 rfl) ?_
        refine lv_aload_n hx hb dL_law_278 rfl (lv_at hl 0 rfl) ?_
        refine lv_iload hx hb dL_law_279 (lv_at hl 4 rfl) ?_
        refine lv_iconst hx hb dL_law_281 kI_1 ?_
        refine lv_iadd hx hb dL_law_282 ?_
        obtain ⟨v40, hv40, hf⟩ := ob_ hf
        refine r_sld S hI hX hbl hbA dL_law_283 hv40 ?_
        refine lv_aload_n hx hb dL_law_284 rfl (lv_at hl 0 rfl) ?_
        refine lv_iload hx hb dL_law_285 (lv_at hl 4 rfl) ?_
        refine lv_iconst hx hb dL_law_287 kI_2 ?_
        refine lv_iadd hx hb dL_law_288 ?_
        obtain ⟨v41, hv41, hf⟩ := ob_ hf
        refine r_sld S hI hX hbl hbA dL_law_289 hv41 ?_
        refine lv_aload_n hx hb dL_law_290 rfl (lv_at hl 0 rfl) ?_
        refine lv_iload hx hb dL_law_291 (lv_at hl 4 rfl) ?_
        refine lv_iconst hx hb dL_law_293 kI_3 ?_
        refine lv_iadd hx hb dL_law_294 ?_
        obtain ⟨v42, hv42, hf⟩ := ob_ hf
        refine r_sld S hI hX hbl hbA dL_law_295 hv42 ?_
        refine lv_aload_n hx hb dL_law_296 rfl (lv_at hl 0 rfl) ?_
        refine lv_iload hx hb dL_law_297 (lv_at hl 4 rfl) ?_
        refine lv_iconst hx hb dL_law_299 kI_4 ?_
        refine lv_iadd hx hb dL_law_300 ?_
        obtain ⟨v43, hv43, hf⟩ := ob_ hf
        refine r_sld S hI hX hbl hbA dL_law_301 hv43 ?_
        obtain ⟨q44, hq44, hf⟩ := ob_ hf
        refine r_cw (r_SW (n := 5) (rest := []) (As := [.ref (ad 0), .int v40, .int v41, .int v42, .int v43]) S hl hI hXs (kL_plan l hlt G kA kL Lf ad w 0 v40 v41 v42 v43 q44.1 q44.2 hq44) kw_347 kw_0 kw_346 kw_345 (by decide +kernel) ⟨rfl, rfl⟩ ⟨Nat.le_of_ble_eq_true rfl, Nat.le_of_ble_eq_true rfl⟩ rfl rfl (Nat.le_of_ble_eq_true rfl) hcs dL_law_302) hI (fun H locs hI => ?_)
        refine lv_istore hx hb (lv' := [(5, .int q44.2), (0, .ref b), (1, .ref (ad 0)), (2, .ref (ad 22)), (3, .ref (ad 34)), (4, .int x4)]) dL_law_305 hl (Nat.le_of_ble_eq_true rfl) rfl (fun ls hl => ?_)
        refine lv_aload_n hx hb dL_law_307 rfl (lv_at hl 3 rfl) ?_
        refine lv_aload_n hx hb dL_law_308 rfl (lv_at hl 1 rfl) ?_
        refine lv_iload hx hb dL_law_309 (lv_at hl 5 rfl) ?_
        refine lv_iconst hx hb dL_law_311 kI_1 ?_
        refine lv_iadd hx hb dL_law_312 ?_
        obtain ⟨v45, hv45, hf⟩ := ob_ hf
        refine r_sld S hI hX hbl hbA dL_law_313 hv45 ?_
        refine lv_aload_n hx hb dL_law_314 rfl (lv_at hl 1 rfl) ?_
        refine lv_iload hx hb dL_law_315 (lv_at hl 5 rfl) ?_
        refine lv_iconst hx hb dL_law_317 kI_2 ?_
        refine lv_iadd hx hb dL_law_318 ?_
        obtain ⟨v46, hv46, hf⟩ := ob_ hf
        refine r_sld S hI hX hbl hbA dL_law_319 hv46 ?_
        refine lv_aload_n hx hb dL_law_320 rfl (lv_at hl 1 rfl) ?_
        refine lv_iload hx hb dL_law_321 (lv_at hl 5 rfl) ?_
        refine lv_iconst hx hb dL_law_323 kI_3 ?_
        refine lv_iadd hx hb dL_law_324 ?_
        obtain ⟨v47, hv47, hf⟩ := ob_ hf
        refine r_sld S hI hX hbl hbA dL_law_325 hv47 ?_
        refine lv_aload_n hx hb dL_law_326 rfl (lv_at hl 1 rfl) ?_
        refine lv_iload hx hb dL_law_327 (lv_at hl 5 rfl) ?_
        refine lv_iconst hx hb dL_law_329 kI_4 ?_
        refine lv_iadd hx hb dL_law_330 ?_
        obtain ⟨v48, hv48, hf⟩ := ob_ hf
        refine r_sld S hI hX hbl hbA dL_law_331 hv48 ?_
        obtain ⟨w49, hw49, hf⟩ := ob_ hf
        refine r_cv (r_V (rest := []) (As := [.int v45, .int v46, .int v47, .int v48]) S hl hI (kM_plan l G kA kL Lf ad q44.1 22 v45 v46 v47 v48 w49 hw49) pkM_plan kw_646 kw_647 (fcM).1 (gd_some hw49).1 kw_645 ⟨rfl, rfl⟩ ⟨Nat.le_of_ble_eq_true rfl, Nat.le_of_ble_eq_true rfl⟩ rfl rfl (Nat.le_of_ble_eq_true rfl) hcs dL_law_332) hI (fun H locs hI => ?_)
        refine lv_aload_n hx hb dL_law_335 rfl (lv_at hl 3 rfl) ?_
        obtain ⟨q50, hq50, hf⟩ := ob_ hf
        refine r_ci (r_V (rest := []) (As := []) S hl hI (kM_thrown l G kA kL Lf ad w49 22 q50.1 q50.2 hq50) pkM_thrown kw_563 kw_564 (fcM).1 (gd_some hq50).1 kw_562 ⟨rfl, rfl⟩ ⟨Nat.le_of_ble_eq_true rfl, Nat.le_of_ble_eq_true rfl⟩ rfl rfl (Nat.le_of_ble_eq_true rfl) hcs dL_law_336) hI (fun H locs hI => ?_)
        refine lv_iload hx hb dL_law_339 (lv_at hl 0 rfl) ?_
        refine lv_icmp_eq (tgt := 346) hx hb dL_law_341 rfl (fun h51 => ?_) (fun h51 => ?_)
        · have hf := ip_ hf h51
          refine lv_goto (tgt := 1033) hx hb dL_law_346 rfl ?_
          exact bk1033 (cl + 1) (sl + 6) hcs K23 hK23 q50.1 x4 _ _ _ (lv_sub hl [1, 2, 3, 4, 5] rfl) hI hf
        · have hf := in_ hf h51
          refine lv_iconst hx hb dL_law_344 kI_0 ?_
          cases hf
      have hf := in_ hf h39
      refine tsw_c (k := 4) (tgt := 349) (off := 310) hx hb dL_law_39 (by decide) (by decide) rfl rfl (fun h52 => ?_) (fun h52 => ?_)
      · have hf := ip_ hf h52
        refine lv_aload_n hx hb dL_law_349 rfl (lv_at hl 1 rfl) ?_
        refine lv_aload_n hx hb dL_law_350 rfl (lv_at hl 0 rfl) ?_
        refine lv_iload hx hb dL_law_351 (lv_at hl 4 rfl) ?_
        refine lv_iconst hx hb dL_law_353 kI_1 ?_
        refine lv_iadd hx hb dL_law_354 ?_
        obtain ⟨v53, hv53, hf⟩ := ob_ hf
        refine r_sld S hI hX hbl hbA dL_law_355 hv53 ?_
        obtain ⟨q54, hq54, hf⟩ := ob_ hf
        refine r_cw (r_SW (n := 2) (rest := []) (As := [.ref (ad 0), .int v53]) S hl hI hXs (kL_cutAfter l hlt G kA kL Lf ad w 0 v53 q54.1 q54.2 hq54) kw_378 kw_0 kw_377 kw_376 (by decide +kernel) ⟨rfl, rfl⟩ ⟨Nat.le_of_ble_eq_true rfl, Nat.le_of_ble_eq_true rfl⟩ rfl rfl (Nat.le_of_ble_eq_true rfl) hcs dL_law_356) hI (fun H locs hI => ?_)
        refine lv_istore hx hb (lv' := [(5, .int q54.2), (0, .ref b), (1, .ref (ad 0)), (2, .ref (ad 22)), (3, .ref (ad 34)), (4, .int x4)]) dL_law_359 hl (Nat.le_of_ble_eq_true rfl) rfl (fun ls hl => ?_)
        refine lv_aload_n hx hb dL_law_361 rfl (lv_at hl 3 rfl) ?_
        refine lv_aload_n hx hb dL_law_362 rfl (lv_at hl 1 rfl) ?_
        refine lv_iload hx hb dL_law_363 (lv_at hl 5 rfl) ?_
        refine lv_iconst hx hb dL_law_365 kI_1 ?_
        refine lv_iadd hx hb dL_law_366 ?_
        obtain ⟨v55, hv55, hf⟩ := ob_ hf
        refine r_sld S hI hX hbl hbA dL_law_367 hv55 ?_
        obtain ⟨w56, hw56, hf⟩ := ob_ hf
        refine r_cv (r_V (rest := []) (As := [.int v55]) S hl hI (kM_cutAfter l G kA kL Lf ad q54.1 22 v55 w56 hw56) pkM_cutAfter kw_650 kw_651 (fcM).1 (gd_some hw56).1 kw_649 ⟨rfl, rfl⟩ ⟨Nat.le_of_ble_eq_true rfl, Nat.le_of_ble_eq_true rfl⟩ rfl rfl (Nat.le_of_ble_eq_true rfl) hcs dL_law_368) hI (fun H locs hI => ?_)
        refine lv_aload_n hx hb dL_law_371 rfl (lv_at hl 3 rfl) ?_
        obtain ⟨q57, hq57, hf⟩ := ob_ hf
        refine r_ci (r_V (rest := []) (As := []) S hl hI (kM_thrown l G kA kL Lf ad w56 22 q57.1 q57.2 hq57) pkM_thrown kw_563 kw_564 (fcM).1 (gd_some hq57).1 kw_562 ⟨rfl, rfl⟩ ⟨Nat.le_of_ble_eq_true rfl, Nat.le_of_ble_eq_true rfl⟩ rfl rfl (Nat.le_of_ble_eq_true rfl) hcs dL_law_372) hI (fun H locs hI => ?_)
        refine lv_iload hx hb dL_law_375 (lv_at hl 0 rfl) ?_
        refine lv_icmp_eq (tgt := 382) hx hb dL_law_377 rfl (fun h58 => ?_) (fun h58 => ?_)
        · have hf := ip_ hf h58
          refine lv_goto (tgt := 1033) hx hb dL_law_382 rfl ?_
          exact bk1033 (cl + 1) (sl + 6) hcs K23 hK23 q57.1 x4 _ _ _ (lv_sub hl [1, 2, 3, 4, 5] rfl) hI hf
        · have hf := in_ hf h58
          refine lv_iconst hx hb dL_law_380 kI_0 ?_
          cases hf
      have hf := in_ hf h52
      refine tsw_c (k := 5) (tgt := 385) (off := 346) hx hb dL_law_39 (by decide) (by decide) rfl rfl (fun h59 => ?_) (fun h59 => ?_)
      · have hf := ip_ hf h59
        refine lv_aload_n hx hb dL_law_385 rfl (lv_at hl 1 rfl) ?_
        refine lv_aload_n hx hb dL_law_386 rfl (lv_at hl 3 rfl) ?_
        obtain ⟨q60, hq60, hf⟩ := ob_ hf
        refine r_cw (r_SW (n := 2) (rest := []) (As := [.ref (ad 0), .ref (ad 34)]) S hl hI hXs (kL_start l hlt G kA kL Lf ad w 0 34 q60.1 q60.2 hq60) kw_385 kw_0 kw_384 kw_383 (by decide +kernel) ⟨rfl, rfl⟩ ⟨Nat.le_of_ble_eq_true rfl, Nat.le_of_ble_eq_true rfl⟩ rfl rfl (Nat.le_of_ble_eq_true rfl) hcs dL_law_387) hI (fun H locs hI => ?_)
        refine lv_istore hx hb (lv' := [(5, .int q60.2), (0, .ref b), (1, .ref (ad 0)), (2, .ref (ad 22)), (3, .ref (ad 34)), (4, .int x4)]) dL_law_390 hl (Nat.le_of_ble_eq_true rfl) rfl (fun ls hl => ?_)
        refine lv_aload_n hx hb dL_law_392 rfl (lv_at hl 3 rfl) ?_
        obtain ⟨q61, hq61, hf⟩ := ob_ hf
        refine r_ci (r_V (rest := []) (As := []) S hl hI (kM_start l G kA kL Lf ad q60.1 22 q61.1 q61.2 hq61) pkM_start kw_654 kw_655 (fcM).1 (gd_some hq61).1 kw_653 ⟨rfl, rfl⟩ ⟨Nat.le_of_ble_eq_true rfl, Nat.le_of_ble_eq_true rfl⟩ rfl rfl (Nat.le_of_ble_eq_true rfl) hcs dL_law_393) hI (fun H locs hI => ?_)
        refine lv_istore hx hb (lv' := [(6, .int q61.2), (5, .int q60.2), (0, .ref b), (1, .ref (ad 0)), (2, .ref (ad 22)), (3, .ref (ad 34)), (4, .int x4)]) dL_law_396 hl (Nat.le_of_ble_eq_true rfl) rfl (fun ls hl => ?_)
        refine lv_aload_n hx hb dL_law_398 rfl (lv_at hl 4 rfl) ?_
        obtain ⟨q62, hq62, hf⟩ := ob_ hf
        refine r_ci (r_V (rest := []) (As := []) S hl hI (kM_thrown l G kA kL Lf ad q61.1 22 q62.1 q62.2 hq62) pkM_thrown kw_563 kw_564 (fcM).1 (gd_some hq62).1 kw_562 ⟨rfl, rfl⟩ ⟨Nat.le_of_ble_eq_true rfl, Nat.le_of_ble_eq_true rfl⟩ rfl rfl (Nat.le_of_ble_eq_true rfl) hcs dL_law_399) hI (fun H locs hI => ?_)
        refine lv_iload hx hb dL_law_402 (lv_at hl 1 rfl) ?_
        refine lv_icmp_eq (tgt := 409) hx hb dL_law_404 rfl (fun h63 => ?_) (fun h63 => ?_)
        · have hf := ip_ hf h63
          refine lv_iload hx hb dL_law_409 (lv_at hl 1 rfl) ?_
          refine lv_if_ne (tgt := 426) hx hb dL_law_411 rfl (fun h64 => ?_) (fun h64 => ?_)
          · have hf := in_ hf h64
            refine lv_goto (tgt := 1033) hx hb dL_law_426 rfl ?_
            exact bk1033 (cl + 1) (sl + 6) hcs K23 hK23 q62.1 x4 _ _ _ (lv_sub hl [2, 3, 4, 5, 6] rfl) hI hf
          · have hf := ip_ hf h64
            refine lv_aload_n hx hb dL_law_414 rfl (lv_at hl 5 rfl) ?_
            refine lv_iconst hx hb dL_law_415 kI_0 ?_
            obtain ⟨v65, hv65, hf⟩ := ob_ hf
            refine r_lald S hI dL_law_416 hv65 ?_
            refine lv_iload hx hb dL_law_417 (lv_at hl 0 rfl) ?_
            refine lv_i2l hx hb dL_law_419 rfl ?_
            refine W.lcmp hx hb dL_law_420 ?_
            refine lv_if_eq (tgt := 426) hx hb dL_law_421 rfl (fun h66 => ?_) (fun h66 => ?_)
            · have hf := ip_ hf h66
              refine lv_goto (tgt := 1033) hx hb dL_law_426 rfl ?_
              exact bk1033 (cl + 1) (sl + 6) hcs K23 hK23 q62.1 x4 _ _ _ (lv_sub hl [2, 3, 4, 5, 6] rfl) hI hf
            · have hf := in_ hf h66
              refine lv_iconst hx hb dL_law_424 kI_0 ?_
              cases hf
        · have hf := in_ hf h63
          refine lv_iconst hx hb dL_law_407 kI_0 ?_
          cases hf
      have hf := in_ hf h59
      refine tsw_c (k := 6) (tgt := 429) (off := 390) hx hb dL_law_39 (by decide) (by decide) rfl rfl (fun h67 => ?_) (fun h67 => ?_)
      · have hf := ip_ hf h67
        refine lv_aload_n hx hb dL_law_429 rfl (lv_at hl 1 rfl) ?_
        refine lv_aload_n hx hb dL_law_430 rfl (lv_at hl 0 rfl) ?_
        refine lv_iload hx hb dL_law_431 (lv_at hl 4 rfl) ?_
        refine lv_iconst hx hb dL_law_433 kI_1 ?_
        refine lv_iadd hx hb dL_law_434 ?_
        obtain ⟨v68, hv68, hf⟩ := ob_ hf
        refine r_sld S hI hX hbl hbA dL_law_435 hv68 ?_
        refine lv_aload_n hx hb dL_law_436 rfl (lv_at hl 3 rfl) ?_
        obtain ⟨q69, hq69, hf⟩ := ob_ hf
        refine r_cw (r_SW (n := 3) (rest := []) (As := [.ref (ad 0), .int v68, .ref (ad 34)]) S hl hI hXs (kL_scrub l hlt G kA kL Lf ad w 0 v68 34 q69.1 q69.2 hq69) kw_392 kw_0 kw_391 kw_390 (by decide +kernel) ⟨rfl, rfl⟩ ⟨Nat.le_of_ble_eq_true rfl, Nat.le_of_ble_eq_true rfl⟩ rfl rfl (Nat.le_of_ble_eq_true rfl) hcs dL_law_437) hI (fun H locs hI => ?_)
        refine lv_istore hx hb (lv' := [(5, .int q69.2), (0, .ref b), (1, .ref (ad 0)), (2, .ref (ad 22)), (3, .ref (ad 34)), (4, .int x4)]) dL_law_440 hl (Nat.le_of_ble_eq_true rfl) rfl (fun ls hl => ?_)
        refine lv_aload_n hx hb dL_law_442 rfl (lv_at hl 3 rfl) ?_
        refine lv_aload_n hx hb dL_law_443 rfl (lv_at hl 1 rfl) ?_
        refine lv_iload hx hb dL_law_444 (lv_at hl 5 rfl) ?_
        refine lv_iconst hx hb dL_law_446 kI_1 ?_
        refine lv_iadd hx hb dL_law_447 ?_
        obtain ⟨v70, hv70, hf⟩ := ob_ hf
        refine r_sld S hI hX hbl hbA dL_law_448 hv70 ?_
        obtain ⟨q71, hq71, hf⟩ := ob_ hf
        refine r_ci (r_V (rest := []) (As := [.int v70]) S hl hI (kM_scrub l G kA kL Lf ad q69.1 22 v70 q71.1 q71.2 hq71) pkM_scrub kw_658 kw_659 (fcM).1 (gd_some hq71).1 kw_657 ⟨rfl, rfl⟩ ⟨Nat.le_of_ble_eq_true rfl, Nat.le_of_ble_eq_true rfl⟩ rfl rfl (Nat.le_of_ble_eq_true rfl) hcs dL_law_449) hI (fun H locs hI => ?_)
        refine lv_istore hx hb (lv' := [(6, .int q71.2), (5, .int q69.2), (0, .ref b), (1, .ref (ad 0)), (2, .ref (ad 22)), (3, .ref (ad 34)), (4, .int x4)]) dL_law_452 hl (Nat.le_of_ble_eq_true rfl) rfl (fun ls hl => ?_)
        refine lv_aload_n hx hb dL_law_454 rfl (lv_at hl 4 rfl) ?_
        obtain ⟨q72, hq72, hf⟩ := ob_ hf
        refine r_ci (r_V (rest := []) (As := []) S hl hI (kM_thrown l G kA kL Lf ad q71.1 22 q72.1 q72.2 hq72) pkM_thrown kw_563 kw_564 (fcM).1 (gd_some hq72).1 kw_562 ⟨rfl, rfl⟩ ⟨Nat.le_of_ble_eq_true rfl, Nat.le_of_ble_eq_true rfl⟩ rfl rfl (Nat.le_of_ble_eq_true rfl) hcs dL_law_455) hI (fun H locs hI => ?_)
        refine lv_iload hx hb dL_law_458 (lv_at hl 1 rfl) ?_
        refine lv_icmp_eq (tgt := 465) hx hb dL_law_460 rfl (fun h73 => ?_) (fun h73 => ?_)
        · have hf := ip_ hf h73
          refine lv_iload hx hb dL_law_465 (lv_at hl 1 rfl) ?_
          refine lv_if_ne (tgt := 482) hx hb dL_law_467 rfl (fun h74 => ?_) (fun h74 => ?_)
          · have hf := in_ hf h74
            refine lv_goto (tgt := 1033) hx hb dL_law_482 rfl ?_
            exact bk1033 (cl + 1) (sl + 6) hcs K23 hK23 q72.1 x4 _ _ _ (lv_sub hl [2, 3, 4, 5, 6] rfl) hI hf
          · have hf := ip_ hf h74
            refine lv_aload_n hx hb dL_law_470 rfl (lv_at hl 5 rfl) ?_
            refine lv_iconst hx hb dL_law_471 kI_0 ?_
            obtain ⟨v75, hv75, hf⟩ := ob_ hf
            refine r_lald S hI dL_law_472 hv75 ?_
            refine lv_iload hx hb dL_law_473 (lv_at hl 0 rfl) ?_
            refine lv_i2l hx hb dL_law_475 rfl ?_
            refine W.lcmp hx hb dL_law_476 ?_
            refine lv_if_eq (tgt := 482) hx hb dL_law_477 rfl (fun h76 => ?_) (fun h76 => ?_)
            · have hf := ip_ hf h76
              refine lv_goto (tgt := 1033) hx hb dL_law_482 rfl ?_
              exact bk1033 (cl + 1) (sl + 6) hcs K23 hK23 q72.1 x4 _ _ _ (lv_sub hl [2, 3, 4, 5, 6] rfl) hI hf
            · have hf := in_ hf h76
              refine lv_iconst hx hb dL_law_480 kI_0 ?_
              cases hf
        · have hf := in_ hf h73
          refine lv_iconst hx hb dL_law_463 kI_0 ?_
          cases hf
      have hf := in_ hf h67
      refine tsw_c (k := 7) (tgt := 485) (off := 446) hx hb dL_law_39 (by decide) (by decide) rfl rfl (fun h77 => ?_) (fun h77 => ?_)
      · have hf := ip_ hf h77
        refine W.widen (k := cl + 1) (n := sl + 6) (by omega) (by omega) ?_
        refine lv_aload_n hx hb dL_law_485 rfl (lv_at hl 1 rfl) ?_
        refine lv_aload_n hx hb dL_law_486 rfl (lv_at hl 0 rfl) ?_
        refine lv_iload hx hb dL_law_487 (lv_at hl 4 rfl) ?_
        refine lv_iconst hx hb dL_law_489 kI_1 ?_
        refine lv_iadd hx hb dL_law_490 ?_
        obtain ⟨v78, hv78, hf⟩ := ob_ hf
        refine r_sld S hI hX hbl hbA dL_law_491 hv78 ?_
        refine lv_if_eq (tgt := 499) hx hb dL_law_492 rfl (fun h79 => ?_) (fun h79 => ?_)
        · have hf := ip_ hf h79
          refine lv_iconst hx hb dL_law_499 kI_0 ?_
          exact bk500 (cl + 1) (sl + 6) hcs K23 hK23 w x4 0 _ _ _ (lv_sub hl [0, 1, 2, 3, 4] rfl) hI hf
        · have hf := in_ hf h79
          refine lv_iconst hx hb dL_law_495 kI_1 ?_
          refine lv_goto (tgt := 500) hx hb dL_law_496 rfl ?_
          exact bk500 (cl + 1) (sl + 6) hcs K23 hK23 w x4 1 _ _ _ (lv_sub hl [0, 1, 2, 3, 4] rfl) hI hf
      have hf := in_ hf h77
      refine tsw_c (k := 8) (tgt := 526) (off := 487) hx hb dL_law_39 (by decide) (by decide) rfl rfl (fun h80 => ?_) (fun h80 => ?_)
      · have hf := ip_ hf h80
        refine lv_aload_n hx hb dL_law_526 rfl (lv_at hl 1 rfl) ?_
        refine lv_aload_n hx hb dL_law_527 rfl (lv_at hl 0 rfl) ?_
        refine lv_iload hx hb dL_law_528 (lv_at hl 4 rfl) ?_
        refine lv_iconst hx hb dL_law_530 kI_1 ?_
        refine lv_iadd hx hb dL_law_531 ?_
        obtain ⟨v81, hv81, hf⟩ := ob_ hf
        refine r_sld S hI hX hbl hbA dL_law_532 hv81 ?_
        refine lv_aload_n hx hb dL_law_533 rfl (lv_at hl 0 rfl) ?_
        refine lv_iload hx hb dL_law_534 (lv_at hl 4 rfl) ?_
        refine lv_iconst hx hb dL_law_536 kI_2 ?_
        refine lv_iadd hx hb dL_law_537 ?_
        obtain ⟨v82, hv82, hf⟩ := ob_ hf
        refine r_sld S hI hX hbl hbA dL_law_538 hv82 ?_
        refine lv_aload_n hx hb dL_law_539 rfl (lv_at hl 3 rfl) ?_
        obtain ⟨q83, hq83, hf⟩ := ob_ hf
        refine r_cw (r_SW (n := 4) (rest := []) (As := [.ref (ad 0), .int v81, .int v82, .ref (ad 34)]) S hl hI hXs (kL_finding l hlt G kA kL Lf ad w 0 v81 v82 34 q83.1 q83.2 hq83) kw_415 kw_0 kw_414 kw_413 (by decide +kernel) ⟨rfl, rfl⟩ ⟨Nat.le_of_ble_eq_true rfl, Nat.le_of_ble_eq_true rfl⟩ rfl rfl (Nat.le_of_ble_eq_true rfl) hcs dL_law_540) hI (fun H locs hI => ?_)
        refine lv_istore hx hb (lv' := [(5, .int q83.2), (0, .ref b), (1, .ref (ad 0)), (2, .ref (ad 22)), (3, .ref (ad 34)), (4, .int x4)]) dL_law_543 hl (Nat.le_of_ble_eq_true rfl) rfl (fun ls hl => ?_)
        refine lv_aload_n hx hb dL_law_545 rfl (lv_at hl 3 rfl) ?_
        refine lv_aload_n hx hb dL_law_546 rfl (lv_at hl 1 rfl) ?_
        refine lv_iload hx hb dL_law_547 (lv_at hl 5 rfl) ?_
        refine lv_iconst hx hb dL_law_549 kI_1 ?_
        refine lv_iadd hx hb dL_law_550 ?_
        obtain ⟨v84, hv84, hf⟩ := ob_ hf
        refine r_sld S hI hX hbl hbA dL_law_551 hv84 ?_
        refine lv_aload_n hx hb dL_law_552 rfl (lv_at hl 1 rfl) ?_
        refine lv_iload hx hb dL_law_553 (lv_at hl 5 rfl) ?_
        refine lv_iconst hx hb dL_law_555 kI_2 ?_
        refine lv_iadd hx hb dL_law_556 ?_
        obtain ⟨v85, hv85, hf⟩ := ob_ hf
        refine r_sld S hI hX hbl hbA dL_law_557 hv85 ?_
        obtain ⟨q86, hq86, hf⟩ := ob_ hf
        refine r_ci (r_V (rest := []) (As := [.int v84, .int v85]) S hl hI (kM_finding l G kA kL Lf ad q83.1 22 v84 v85 q86.1 q86.2 hq86) pkM_finding kw_674 kw_675 (fcM).1 (gd_some hq86).1 kw_673 ⟨rfl, rfl⟩ ⟨Nat.le_of_ble_eq_true rfl, Nat.le_of_ble_eq_true rfl⟩ rfl rfl (Nat.le_of_ble_eq_true rfl) hcs dL_law_558) hI (fun H locs hI => ?_)
        refine lv_istore hx hb (lv' := [(6, .int q86.2), (5, .int q83.2), (0, .ref b), (1, .ref (ad 0)), (2, .ref (ad 22)), (3, .ref (ad 34)), (4, .int x4)]) dL_law_561 hl (Nat.le_of_ble_eq_true rfl) rfl (fun ls hl => ?_)
        refine lv_aload_n hx hb dL_law_563 rfl (lv_at hl 4 rfl) ?_
        obtain ⟨q87, hq87, hf⟩ := ob_ hf
        refine r_ci (r_V (rest := []) (As := []) S hl hI (kM_thrown l G kA kL Lf ad q86.1 22 q87.1 q87.2 hq87) pkM_thrown kw_563 kw_564 (fcM).1 (gd_some hq87).1 kw_562 ⟨rfl, rfl⟩ ⟨Nat.le_of_ble_eq_true rfl, Nat.le_of_ble_eq_true rfl⟩ rfl rfl (Nat.le_of_ble_eq_true rfl) hcs dL_law_564) hI (fun H locs hI => ?_)
        refine lv_iload hx hb dL_law_567 (lv_at hl 1 rfl) ?_
        refine lv_icmp_eq (tgt := 574) hx hb dL_law_569 rfl (fun h88 => ?_) (fun h88 => ?_)
        · have hf := ip_ hf h88
          refine lv_iload hx hb dL_law_574 (lv_at hl 1 rfl) ?_
          refine lv_if_ne (tgt := 591) hx hb dL_law_576 rfl (fun h89 => ?_) (fun h89 => ?_)
          · have hf := in_ hf h89
            refine lv_goto (tgt := 1033) hx hb dL_law_591 rfl ?_
            exact bk1033 (cl + 1) (sl + 6) hcs K23 hK23 q87.1 x4 _ _ _ (lv_sub hl [2, 3, 4, 5, 6] rfl) hI hf
          · have hf := ip_ hf h89
            refine lv_aload_n hx hb dL_law_579 rfl (lv_at hl 5 rfl) ?_
            refine lv_iconst hx hb dL_law_580 kI_0 ?_
            obtain ⟨v90, hv90, hf⟩ := ob_ hf
            refine r_lald S hI dL_law_581 hv90 ?_
            refine lv_iload hx hb dL_law_582 (lv_at hl 0 rfl) ?_
            refine lv_i2l hx hb dL_law_584 rfl ?_
            refine W.lcmp hx hb dL_law_585 ?_
            refine lv_if_eq (tgt := 591) hx hb dL_law_586 rfl (fun h91 => ?_) (fun h91 => ?_)
            · have hf := ip_ hf h91
              refine lv_goto (tgt := 1033) hx hb dL_law_591 rfl ?_
              exact bk1033 (cl + 1) (sl + 6) hcs K23 hK23 q87.1 x4 _ _ _ (lv_sub hl [2, 3, 4, 5, 6] rfl) hI hf
            · have hf := in_ hf h91
              refine lv_iconst hx hb dL_law_589 kI_0 ?_
              cases hf
        · have hf := in_ hf h88
          refine lv_iconst hx hb dL_law_572 kI_0 ?_
          cases hf
      have hf := in_ hf h80
      refine tsw_c (k := 9) (tgt := 594) (off := 555) hx hb dL_law_39 (by decide) (by decide) rfl rfl (fun h92 => ?_) (fun h92 => ?_)
      · have hf := ip_ hf h92
        refine lv_aload_n hx hb dL_law_594 rfl (lv_at hl 1 rfl) ?_
        refine lv_aload_n hx hb dL_law_595 rfl (lv_at hl 0 rfl) ?_
        refine lv_iload hx hb dL_law_596 (lv_at hl 4 rfl) ?_
        refine lv_iconst hx hb dL_law_598 kI_1 ?_
        refine lv_iadd hx hb dL_law_599 ?_
        obtain ⟨v93, hv93, hf⟩ := ob_ hf
        refine r_sld S hI hX hbl hbA dL_law_600 hv93 ?_
        refine lv_aload_n hx hb dL_law_601 rfl (lv_at hl 0 rfl) ?_
        refine lv_iload hx hb dL_law_602 (lv_at hl 4 rfl) ?_
        refine lv_iconst hx hb dL_law_604 kI_2 ?_
        refine lv_iadd hx hb dL_law_605 ?_
        obtain ⟨v94, hv94, hf⟩ := ob_ hf
        refine r_sld S hI hX hbl hbA dL_law_606 hv94 ?_
        refine lv_aload_n hx hb dL_law_607 rfl (lv_at hl 3 rfl) ?_
        obtain ⟨q95, hq95, hf⟩ := ob_ hf
        refine r_cw (r_SW (n := 4) (rest := []) (As := [.ref (ad 0), .int v93, .int v94, .ref (ad 34)]) S hl hI hXs (kL_expected l hlt G kA kL Lf ad w 0 v93 v94 34 q95.1 q95.2 hq95) kw_422 kw_0 kw_421 kw_420 (by decide +kernel) ⟨rfl, rfl⟩ ⟨Nat.le_of_ble_eq_true rfl, Nat.le_of_ble_eq_true rfl⟩ rfl rfl (Nat.le_of_ble_eq_true rfl) hcs dL_law_608) hI (fun H locs hI => ?_)
        refine lv_istore hx hb (lv' := [(5, .int q95.2), (0, .ref b), (1, .ref (ad 0)), (2, .ref (ad 22)), (3, .ref (ad 34)), (4, .int x4)]) dL_law_611 hl (Nat.le_of_ble_eq_true rfl) rfl (fun ls hl => ?_)
        refine lv_aload_n hx hb dL_law_613 rfl (lv_at hl 3 rfl) ?_
        refine lv_aload_n hx hb dL_law_614 rfl (lv_at hl 1 rfl) ?_
        refine lv_iload hx hb dL_law_615 (lv_at hl 5 rfl) ?_
        refine lv_iconst hx hb dL_law_617 kI_1 ?_
        refine lv_iadd hx hb dL_law_618 ?_
        obtain ⟨v96, hv96, hf⟩ := ob_ hf
        refine r_sld S hI hX hbl hbA dL_law_619 hv96 ?_
        refine lv_aload_n hx hb dL_law_620 rfl (lv_at hl 1 rfl) ?_
        refine lv_iload hx hb dL_law_621 (lv_at hl 5 rfl) ?_
        refine lv_iconst hx hb dL_law_623 kI_2 ?_
        refine lv_iadd hx hb dL_law_624 ?_
        obtain ⟨v97, hv97, hf⟩ := ob_ hf
        refine r_sld S hI hX hbl hbA dL_law_625 hv97 ?_
        obtain ⟨q98, hq98, hf⟩ := ob_ hf
        refine r_ci (r_V (rest := []) (As := [.int v96, .int v97]) S hl hI (kM_expected l G kA kL Lf ad q95.1 22 v96 v97 q98.1 q98.2 hq98) pkM_expected kw_678 kw_679 (fcM).1 (gd_some hq98).1 kw_677 ⟨rfl, rfl⟩ ⟨Nat.le_of_ble_eq_true rfl, Nat.le_of_ble_eq_true rfl⟩ rfl rfl (Nat.le_of_ble_eq_true rfl) hcs dL_law_626) hI (fun H locs hI => ?_)
        refine lv_istore hx hb (lv' := [(6, .int q98.2), (5, .int q95.2), (0, .ref b), (1, .ref (ad 0)), (2, .ref (ad 22)), (3, .ref (ad 34)), (4, .int x4)]) dL_law_629 hl (Nat.le_of_ble_eq_true rfl) rfl (fun ls hl => ?_)
        refine lv_aload_n hx hb dL_law_631 rfl (lv_at hl 4 rfl) ?_
        obtain ⟨q99, hq99, hf⟩ := ob_ hf
        refine r_ci (r_V (rest := []) (As := []) S hl hI (kM_thrown l G kA kL Lf ad q98.1 22 q99.1 q99.2 hq99) pkM_thrown kw_563 kw_564 (fcM).1 (gd_some hq99).1 kw_562 ⟨rfl, rfl⟩ ⟨Nat.le_of_ble_eq_true rfl, Nat.le_of_ble_eq_true rfl⟩ rfl rfl (Nat.le_of_ble_eq_true rfl) hcs dL_law_632) hI (fun H locs hI => ?_)
        refine lv_iload hx hb dL_law_635 (lv_at hl 1 rfl) ?_
        refine lv_icmp_eq (tgt := 642) hx hb dL_law_637 rfl (fun h100 => ?_) (fun h100 => ?_)
        · have hf := ip_ hf h100
          refine lv_iload hx hb dL_law_642 (lv_at hl 1 rfl) ?_
          refine lv_if_ne (tgt := 659) hx hb dL_law_644 rfl (fun h101 => ?_) (fun h101 => ?_)
          · have hf := in_ hf h101
            refine lv_goto (tgt := 1033) hx hb dL_law_659 rfl ?_
            exact bk1033 (cl + 1) (sl + 6) hcs K23 hK23 q99.1 x4 _ _ _ (lv_sub hl [2, 3, 4, 5, 6] rfl) hI hf
          · have hf := ip_ hf h101
            refine lv_aload_n hx hb dL_law_647 rfl (lv_at hl 5 rfl) ?_
            refine lv_iconst hx hb dL_law_648 kI_0 ?_
            obtain ⟨v102, hv102, hf⟩ := ob_ hf
            refine r_lald S hI dL_law_649 hv102 ?_
            refine lv_iload hx hb dL_law_650 (lv_at hl 0 rfl) ?_
            refine lv_i2l hx hb dL_law_652 rfl ?_
            refine W.lcmp hx hb dL_law_653 ?_
            refine lv_if_eq (tgt := 659) hx hb dL_law_654 rfl (fun h103 => ?_) (fun h103 => ?_)
            · have hf := ip_ hf h103
              refine lv_goto (tgt := 1033) hx hb dL_law_659 rfl ?_
              exact bk1033 (cl + 1) (sl + 6) hcs K23 hK23 q99.1 x4 _ _ _ (lv_sub hl [2, 3, 4, 5, 6] rfl) hI hf
            · have hf := in_ hf h103
              refine lv_iconst hx hb dL_law_657 kI_0 ?_
              cases hf
        · have hf := in_ hf h100
          refine lv_iconst hx hb dL_law_640 kI_0 ?_
          cases hf
      have hf := in_ hf h92
      refine tsw_c (k := 10) (tgt := 662) (off := 623) hx hb dL_law_39 (by decide) (by decide) rfl rfl (fun h104 => ?_) (fun h104 => ?_)
      · have hf := ip_ hf h104
        refine lv_aload_n hx hb dL_law_662 rfl (lv_at hl 1 rfl) ?_
        refine lv_aload_n hx hb dL_law_663 rfl (lv_at hl 0 rfl) ?_
        refine lv_iload hx hb dL_law_664 (lv_at hl 4 rfl) ?_
        refine lv_iconst hx hb dL_law_666 kI_1 ?_
        refine lv_iadd hx hb dL_law_667 ?_
        obtain ⟨v105, hv105, hf⟩ := ob_ hf
        refine r_sld S hI hX hbl hbA dL_law_668 hv105 ?_
        refine lv_aload_n hx hb dL_law_669 rfl (lv_at hl 0 rfl) ?_
        refine lv_iload hx hb dL_law_670 (lv_at hl 4 rfl) ?_
        refine lv_iconst hx hb dL_law_672 kI_2 ?_
        refine lv_iadd hx hb dL_law_673 ?_
        obtain ⟨v106, hv106, hf⟩ := ob_ hf
        refine r_sld S hI hX hbl hbA dL_law_674 hv106 ?_
        refine lv_aload_n hx hb dL_law_675 rfl (lv_at hl 3 rfl) ?_
        obtain ⟨q107, hq107, hf⟩ := ob_ hf
        refine r_cw (r_SW (n := 4) (rest := []) (As := [.ref (ad 0), .int v105, .int v106, .ref (ad 34)]) S hl hI hXs (kL_verdict l hlt G kA kL Lf ad w 0 v105 v106 34 q107.1 q107.2 hq107) kw_429 kw_0 kw_428 kw_427 (by decide +kernel) ⟨rfl, rfl⟩ ⟨Nat.le_of_ble_eq_true rfl, Nat.le_of_ble_eq_true rfl⟩ rfl rfl (Nat.le_of_ble_eq_true rfl) hcs dL_law_676) hI (fun H locs hI => ?_)
        refine lv_istore hx hb (lv' := [(5, .int q107.2), (0, .ref b), (1, .ref (ad 0)), (2, .ref (ad 22)), (3, .ref (ad 34)), (4, .int x4)]) dL_law_679 hl (Nat.le_of_ble_eq_true rfl) rfl (fun ls hl => ?_)
        refine lv_aload_n hx hb dL_law_681 rfl (lv_at hl 3 rfl) ?_
        refine lv_aload_n hx hb dL_law_682 rfl (lv_at hl 1 rfl) ?_
        refine lv_iload hx hb dL_law_683 (lv_at hl 5 rfl) ?_
        refine lv_iconst hx hb dL_law_685 kI_1 ?_
        refine lv_iadd hx hb dL_law_686 ?_
        obtain ⟨v108, hv108, hf⟩ := ob_ hf
        refine r_sld S hI hX hbl hbA dL_law_687 hv108 ?_
        refine lv_aload_n hx hb dL_law_688 rfl (lv_at hl 1 rfl) ?_
        refine lv_iload hx hb dL_law_689 (lv_at hl 5 rfl) ?_
        refine lv_iconst hx hb dL_law_691 kI_2 ?_
        refine lv_iadd hx hb dL_law_692 ?_
        obtain ⟨v109, hv109, hf⟩ := ob_ hf
        refine r_sld S hI hX hbl hbA dL_law_693 hv109 ?_
        obtain ⟨q110, hq110, hf⟩ := ob_ hf
        refine r_ci (r_V (rest := []) (As := [.int v108, .int v109]) S hl hI (kM_verdict l G kA kL Lf ad q107.1 22 v108 v109 q110.1 q110.2 hq110) pkM_verdict kw_682 kw_683 (fcM).1 (gd_some hq110).1 kw_681 ⟨rfl, rfl⟩ ⟨Nat.le_of_ble_eq_true rfl, Nat.le_of_ble_eq_true rfl⟩ rfl rfl (Nat.le_of_ble_eq_true rfl) hcs dL_law_694) hI (fun H locs hI => ?_)
        refine lv_istore hx hb (lv' := [(6, .int q110.2), (5, .int q107.2), (0, .ref b), (1, .ref (ad 0)), (2, .ref (ad 22)), (3, .ref (ad 34)), (4, .int x4)]) dL_law_697 hl (Nat.le_of_ble_eq_true rfl) rfl (fun ls hl => ?_)
        refine lv_aload_n hx hb dL_law_699 rfl (lv_at hl 4 rfl) ?_
        obtain ⟨q111, hq111, hf⟩ := ob_ hf
        refine r_ci (r_V (rest := []) (As := []) S hl hI (kM_thrown l G kA kL Lf ad q110.1 22 q111.1 q111.2 hq111) pkM_thrown kw_563 kw_564 (fcM).1 (gd_some hq111).1 kw_562 ⟨rfl, rfl⟩ ⟨Nat.le_of_ble_eq_true rfl, Nat.le_of_ble_eq_true rfl⟩ rfl rfl (Nat.le_of_ble_eq_true rfl) hcs dL_law_700) hI (fun H locs hI => ?_)
        refine lv_iload hx hb dL_law_703 (lv_at hl 1 rfl) ?_
        refine lv_icmp_eq (tgt := 710) hx hb dL_law_705 rfl (fun h112 => ?_) (fun h112 => ?_)
        · have hf := ip_ hf h112
          refine lv_iload hx hb dL_law_710 (lv_at hl 1 rfl) ?_
          refine lv_if_ne (tgt := 727) hx hb dL_law_712 rfl (fun h113 => ?_) (fun h113 => ?_)
          · have hf := in_ hf h113
            refine lv_goto (tgt := 1033) hx hb dL_law_727 rfl ?_
            exact bk1033 (cl + 1) (sl + 6) hcs K23 hK23 q111.1 x4 _ _ _ (lv_sub hl [2, 3, 4, 5, 6] rfl) hI hf
          · have hf := ip_ hf h113
            refine lv_aload_n hx hb dL_law_715 rfl (lv_at hl 5 rfl) ?_
            refine lv_iconst hx hb dL_law_716 kI_0 ?_
            obtain ⟨v114, hv114, hf⟩ := ob_ hf
            refine r_lald S hI dL_law_717 hv114 ?_
            refine lv_iload hx hb dL_law_718 (lv_at hl 0 rfl) ?_
            refine lv_i2l hx hb dL_law_720 rfl ?_
            refine W.lcmp hx hb dL_law_721 ?_
            refine lv_if_eq (tgt := 727) hx hb dL_law_722 rfl (fun h115 => ?_) (fun h115 => ?_)
            · have hf := ip_ hf h115
              refine lv_goto (tgt := 1033) hx hb dL_law_727 rfl ?_
              exact bk1033 (cl + 1) (sl + 6) hcs K23 hK23 q111.1 x4 _ _ _ (lv_sub hl [2, 3, 4, 5, 6] rfl) hI hf
            · have hf := in_ hf h115
              refine lv_iconst hx hb dL_law_725 kI_0 ?_
              cases hf
        · have hf := in_ hf h112
          refine lv_iconst hx hb dL_law_708 kI_0 ?_
          cases hf
      have hf := in_ hf h104
      refine tsw_c (k := 11) (tgt := 730) (off := 691) hx hb dL_law_39 (by decide) (by decide) rfl rfl (fun h116 => ?_) (fun h116 => ?_)
      · have hf := ip_ hf h116
        refine lv_aload_n hx hb dL_law_730 rfl (lv_at hl 1 rfl) ?_
        refine lv_aload_n hx hb dL_law_731 rfl (lv_at hl 0 rfl) ?_
        refine lv_iload hx hb dL_law_732 (lv_at hl 4 rfl) ?_
        refine lv_iconst hx hb dL_law_734 kI_1 ?_
        refine lv_iadd hx hb dL_law_735 ?_
        obtain ⟨v117, hv117, hf⟩ := ob_ hf
        refine r_sld S hI hX hbl hbA dL_law_736 hv117 ?_
        refine lv_aload_n hx hb dL_law_737 rfl (lv_at hl 0 rfl) ?_
        refine lv_iload hx hb dL_law_738 (lv_at hl 4 rfl) ?_
        refine lv_iconst hx hb dL_law_740 kI_2 ?_
        refine lv_iadd hx hb dL_law_741 ?_
        obtain ⟨v118, hv118, hf⟩ := ob_ hf
        refine r_sld S hI hX hbl hbA dL_law_742 hv118 ?_
        refine lv_aload_n hx hb dL_law_743 rfl (lv_at hl 3 rfl) ?_
        obtain ⟨q119, hq119, hf⟩ := ob_ hf
        refine r_cw (r_SW (n := 4) (rest := []) (As := [.ref (ad 0), .int v117, .int v118, .ref (ad 34)]) S hl hI hXs (kL_isRight l hlt G kA kL Lf ad w 0 v117 v118 34 q119.1 q119.2 hq119) kw_436 kw_0 kw_435 kw_434 (by decide +kernel) ⟨rfl, rfl⟩ ⟨Nat.le_of_ble_eq_true rfl, Nat.le_of_ble_eq_true rfl⟩ rfl rfl (Nat.le_of_ble_eq_true rfl) hcs dL_law_744) hI (fun H locs hI => ?_)
        refine lv_istore hx hb (lv' := [(5, .int q119.2), (0, .ref b), (1, .ref (ad 0)), (2, .ref (ad 22)), (3, .ref (ad 34)), (4, .int x4)]) dL_law_747 hl (Nat.le_of_ble_eq_true rfl) rfl (fun ls hl => ?_)
        refine lv_aload_n hx hb dL_law_749 rfl (lv_at hl 3 rfl) ?_
        refine lv_aload_n hx hb dL_law_750 rfl (lv_at hl 1 rfl) ?_
        refine lv_iload hx hb dL_law_751 (lv_at hl 5 rfl) ?_
        refine lv_iconst hx hb dL_law_753 kI_1 ?_
        refine lv_iadd hx hb dL_law_754 ?_
        obtain ⟨v120, hv120, hf⟩ := ob_ hf
        refine r_sld S hI hX hbl hbA dL_law_755 hv120 ?_
        refine lv_aload_n hx hb dL_law_756 rfl (lv_at hl 1 rfl) ?_
        refine lv_iload hx hb dL_law_757 (lv_at hl 5 rfl) ?_
        refine lv_iconst hx hb dL_law_759 kI_2 ?_
        refine lv_iadd hx hb dL_law_760 ?_
        obtain ⟨v121, hv121, hf⟩ := ob_ hf
        refine r_sld S hI hX hbl hbA dL_law_761 hv121 ?_
        obtain ⟨q122, hq122, hf⟩ := ob_ hf
        refine r_ci (r_V (rest := []) (As := [.int v120, .int v121]) S hl hI (kM_isRight l G kA kL Lf ad q119.1 22 v120 v121 q122.1 q122.2 hq122) pkM_isRight kw_686 kw_687 (fcM).1 (gd_some hq122).1 kw_685 ⟨rfl, rfl⟩ ⟨Nat.le_of_ble_eq_true rfl, Nat.le_of_ble_eq_true rfl⟩ rfl rfl (Nat.le_of_ble_eq_true rfl) hcs dL_law_762) hI (fun H locs hI => ?_)
        refine lv_istore hx hb (lv' := [(6, .int q122.2), (5, .int q119.2), (0, .ref b), (1, .ref (ad 0)), (2, .ref (ad 22)), (3, .ref (ad 34)), (4, .int x4)]) dL_law_765 hl (Nat.le_of_ble_eq_true rfl) rfl (fun ls hl => ?_)
        refine lv_aload_n hx hb dL_law_767 rfl (lv_at hl 4 rfl) ?_
        obtain ⟨q123, hq123, hf⟩ := ob_ hf
        refine r_ci (r_V (rest := []) (As := []) S hl hI (kM_thrown l G kA kL Lf ad q122.1 22 q123.1 q123.2 hq123) pkM_thrown kw_563 kw_564 (fcM).1 (gd_some hq123).1 kw_562 ⟨rfl, rfl⟩ ⟨Nat.le_of_ble_eq_true rfl, Nat.le_of_ble_eq_true rfl⟩ rfl rfl (Nat.le_of_ble_eq_true rfl) hcs dL_law_768) hI (fun H locs hI => ?_)
        refine lv_iload hx hb dL_law_771 (lv_at hl 1 rfl) ?_
        refine lv_icmp_eq (tgt := 778) hx hb dL_law_773 rfl (fun h124 => ?_) (fun h124 => ?_)
        · have hf := ip_ hf h124
          refine lv_iload hx hb dL_law_778 (lv_at hl 1 rfl) ?_
          refine lv_if_ne (tgt := 802) hx hb dL_law_780 rfl (fun h125 => ?_) (fun h125 => ?_)
          · have hf := in_ hf h125
            refine lv_goto (tgt := 1033) hx hb dL_law_802 rfl ?_
            exact bk1033 (cl + 1) (sl + 6) hcs K23 hK23 q123.1 x4 _ _ _ (lv_sub hl [2, 3, 4, 5, 6] rfl) hI hf
          · have hf := ip_ hf h125
            refine lv_aload_n hx hb dL_law_783 rfl (lv_at hl 5 rfl) ?_
            refine lv_iconst hx hb dL_law_784 kI_0 ?_
            obtain ⟨v126, hv126, hf⟩ := ob_ hf
            refine r_lald S hI dL_law_785 hv126 ?_
            refine lv_iload hx hb dL_law_786 (lv_at hl 0 rfl) ?_
            refine lv_if_eq (tgt := 795) hx hb dL_law_788 rfl (fun h127 => ?_) (fun h127 => ?_)
            · have hf := ip_ hf h127
              refine lv_lconst hx hb dL_law_795 lc0 ?_
              exact bk796 (cl + 1) (sl + 6) hcs K23 hK23 q123.1 x4 v126 0 _ _ _ (lv_sub hl [2, 3, 4, 5, 6] rfl) hI hf
            · have hf := in_ hf h127
              refine lv_lconst hx hb dL_law_791 lc1 ?_
              refine lv_goto (tgt := 796) hx hb dL_law_792 rfl ?_
              exact bk796 (cl + 1) (sl + 6) hcs K23 hK23 q123.1 x4 v126 1 _ _ _ (lv_sub hl [2, 3, 4, 5, 6] rfl) hI hf
        · have hf := in_ hf h124
          refine lv_iconst hx hb dL_law_776 kI_0 ?_
          cases hf
      have hf := in_ hf h116
      refine tsw_c (k := 12) (tgt := 805) (off := 766) hx hb dL_law_39 (by decide) (by decide) rfl rfl (fun h128 => ?_) (fun h128 => ?_)
      · have hf := ip_ hf h128
        refine lv_aload_n hx hb dL_law_805 rfl (lv_at hl 1 rfl) ?_
        refine lv_aload_n hx hb dL_law_806 rfl (lv_at hl 0 rfl) ?_
        refine lv_iload hx hb dL_law_807 (lv_at hl 4 rfl) ?_
        refine lv_iconst hx hb dL_law_809 kI_1 ?_
        refine lv_iadd hx hb dL_law_810 ?_
        obtain ⟨v129, hv129, hf⟩ := ob_ hf
        refine r_sld S hI hX hbl hbA dL_law_811 hv129 ?_
        refine lv_aload_n hx hb dL_law_812 rfl (lv_at hl 0 rfl) ?_
        refine lv_iload hx hb dL_law_813 (lv_at hl 4 rfl) ?_
        refine lv_iconst hx hb dL_law_815 kI_2 ?_
        refine lv_iadd hx hb dL_law_816 ?_
        obtain ⟨v130, hv130, hf⟩ := ob_ hf
        refine r_sld S hI hX hbl hbA dL_law_817 hv130 ?_
        refine lv_aload_n hx hb dL_law_818 rfl (lv_at hl 0 rfl) ?_
        refine lv_iload hx hb dL_law_819 (lv_at hl 4 rfl) ?_
        refine lv_iconst hx hb dL_law_821 kI_3 ?_
        refine lv_iadd hx hb dL_law_822 ?_
        obtain ⟨v131, hv131, hf⟩ := ob_ hf
        refine r_sld S hI hX hbl hbA dL_law_823 hv131 ?_
        refine lv_aload_n hx hb dL_law_824 rfl (lv_at hl 3 rfl) ?_
        obtain ⟨q132, hq132, hf⟩ := ob_ hf
        refine r_cw (r_SW (n := 5) (rest := []) (As := [.ref (ad 0), .int v129, .int v130, .int v131, .ref (ad 34)]) S hl hI hXs (kL_raw l hlt G kA kL Lf ad w 0 v129 v130 v131 34 q132.1 q132.2 hq132) kw_443 kw_0 kw_442 kw_441 (by decide +kernel) ⟨rfl, rfl⟩ ⟨Nat.le_of_ble_eq_true rfl, Nat.le_of_ble_eq_true rfl⟩ rfl rfl (Nat.le_of_ble_eq_true rfl) hcs dL_law_825) hI (fun H locs hI => ?_)
        refine lv_istore hx hb (lv' := [(5, .int q132.2), (0, .ref b), (1, .ref (ad 0)), (2, .ref (ad 22)), (3, .ref (ad 34)), (4, .int x4)]) dL_law_828 hl (Nat.le_of_ble_eq_true rfl) rfl (fun ls hl => ?_)
        refine lv_aload_n hx hb dL_law_830 rfl (lv_at hl 3 rfl) ?_
        refine lv_aload_n hx hb dL_law_831 rfl (lv_at hl 1 rfl) ?_
        refine lv_iload hx hb dL_law_832 (lv_at hl 5 rfl) ?_
        refine lv_iconst hx hb dL_law_834 kI_1 ?_
        refine lv_iadd hx hb dL_law_835 ?_
        obtain ⟨v133, hv133, hf⟩ := ob_ hf
        refine r_sld S hI hX hbl hbA dL_law_836 hv133 ?_
        refine lv_aload_n hx hb dL_law_837 rfl (lv_at hl 1 rfl) ?_
        refine lv_iload hx hb dL_law_838 (lv_at hl 5 rfl) ?_
        refine lv_iconst hx hb dL_law_840 kI_2 ?_
        refine lv_iadd hx hb dL_law_841 ?_
        obtain ⟨v134, hv134, hf⟩ := ob_ hf
        refine r_sld S hI hX hbl hbA dL_law_842 hv134 ?_
        refine lv_aload_n hx hb dL_law_843 rfl (lv_at hl 1 rfl) ?_
        refine lv_iload hx hb dL_law_844 (lv_at hl 5 rfl) ?_
        refine lv_iconst hx hb dL_law_846 kI_3 ?_
        refine lv_iadd hx hb dL_law_847 ?_
        obtain ⟨v135, hv135, hf⟩ := ob_ hf
        refine r_sld S hI hX hbl hbA dL_law_848 hv135 ?_
        obtain ⟨q136, hq136, hf⟩ := ob_ hf
        refine r_ci (r_V (rest := []) (As := [.int v133, .int v134, .int v135]) S hl hI (kM_raw l G kA kL Lf ad q132.1 22 v133 v134 v135 q136.1 q136.2 hq136) pkM_raw kw_690 kw_691 (fcM).1 (gd_some hq136).1 kw_689 ⟨rfl, rfl⟩ ⟨Nat.le_of_ble_eq_true rfl, Nat.le_of_ble_eq_true rfl⟩ rfl rfl (Nat.le_of_ble_eq_true rfl) hcs dL_law_849) hI (fun H locs hI => ?_)
        refine lv_istore hx hb (lv' := [(6, .int q136.2), (5, .int q132.2), (0, .ref b), (1, .ref (ad 0)), (2, .ref (ad 22)), (3, .ref (ad 34)), (4, .int x4)]) dL_law_852 hl (Nat.le_of_ble_eq_true rfl) rfl (fun ls hl => ?_)
        refine lv_aload_n hx hb dL_law_854 rfl (lv_at hl 4 rfl) ?_
        obtain ⟨q137, hq137, hf⟩ := ob_ hf
        refine r_ci (r_V (rest := []) (As := []) S hl hI (kM_thrown l G kA kL Lf ad q136.1 22 q137.1 q137.2 hq137) pkM_thrown kw_563 kw_564 (fcM).1 (gd_some hq137).1 kw_562 ⟨rfl, rfl⟩ ⟨Nat.le_of_ble_eq_true rfl, Nat.le_of_ble_eq_true rfl⟩ rfl rfl (Nat.le_of_ble_eq_true rfl) hcs dL_law_855) hI (fun H locs hI => ?_)
        refine lv_iload hx hb dL_law_858 (lv_at hl 1 rfl) ?_
        refine lv_icmp_eq (tgt := 865) hx hb dL_law_860 rfl (fun h138 => ?_) (fun h138 => ?_)
        · have hf := ip_ hf h138
          refine lv_iload hx hb dL_law_865 (lv_at hl 1 rfl) ?_
          refine lv_if_ne (tgt := 882) hx hb dL_law_867 rfl (fun h139 => ?_) (fun h139 => ?_)
          · have hf := in_ hf h139
            refine lv_goto (tgt := 1033) hx hb dL_law_882 rfl ?_
            exact bk1033 (cl + 1) (sl + 6) hcs K23 hK23 q137.1 x4 _ _ _ (lv_sub hl [2, 3, 4, 5, 6] rfl) hI hf
          · have hf := ip_ hf h139
            refine lv_aload_n hx hb dL_law_870 rfl (lv_at hl 5 rfl) ?_
            refine lv_iconst hx hb dL_law_871 kI_0 ?_
            obtain ⟨v140, hv140, hf⟩ := ob_ hf
            refine r_lald S hI dL_law_872 hv140 ?_
            refine lv_iload hx hb dL_law_873 (lv_at hl 0 rfl) ?_
            refine lv_i2l hx hb dL_law_875 rfl ?_
            refine W.lcmp hx hb dL_law_876 ?_
            refine lv_if_eq (tgt := 882) hx hb dL_law_877 rfl (fun h141 => ?_) (fun h141 => ?_)
            · have hf := ip_ hf h141
              refine lv_goto (tgt := 1033) hx hb dL_law_882 rfl ?_
              exact bk1033 (cl + 1) (sl + 6) hcs K23 hK23 q137.1 x4 _ _ _ (lv_sub hl [2, 3, 4, 5, 6] rfl) hI hf
            · have hf := in_ hf h141
              refine lv_iconst hx hb dL_law_880 kI_0 ?_
              cases hf
        · have hf := in_ hf h138
          refine lv_iconst hx hb dL_law_863 kI_0 ?_
          cases hf
      have hf := in_ hf h128
      refine tsw_c (k := 13) (tgt := 885) (off := 846) hx hb dL_law_39 (by decide) (by decide) rfl rfl (fun h142 => ?_) (fun h142 => ?_)
      · have hf := ip_ hf h142
        refine lv_aload_n hx hb dL_law_885 rfl (lv_at hl 1 rfl) ?_
        refine lv_aload_n hx hb dL_law_886 rfl (lv_at hl 0 rfl) ?_
        refine lv_iload hx hb dL_law_887 (lv_at hl 4 rfl) ?_
        refine lv_iconst hx hb dL_law_889 kI_1 ?_
        refine lv_iadd hx hb dL_law_890 ?_
        obtain ⟨v143, hv143, hf⟩ := ob_ hf
        refine r_sld S hI hX hbl hbA dL_law_891 hv143 ?_
        obtain ⟨q144, hq144, hf⟩ := ob_ hf
        refine r_cw (r_SW (n := 2) (rest := []) (As := [.ref (ad 0), .int v143]) S hl hI hXs (kL_replace l hlt G kA kL Lf ad w 0 v143 q144.1 q144.2 hq144) kw_450 kw_0 kw_449 kw_448 (by decide +kernel) ⟨rfl, rfl⟩ ⟨Nat.le_of_ble_eq_true rfl, Nat.le_of_ble_eq_true rfl⟩ rfl rfl (Nat.le_of_ble_eq_true rfl) hcs dL_law_892) hI (fun H locs hI => ?_)
        refine lv_istore hx hb (lv' := [(5, .int q144.2), (0, .ref b), (1, .ref (ad 0)), (2, .ref (ad 22)), (3, .ref (ad 34)), (4, .int x4)]) dL_law_895 hl (Nat.le_of_ble_eq_true rfl) rfl (fun ls hl => ?_)
        refine lv_aload_n hx hb dL_law_897 rfl (lv_at hl 3 rfl) ?_
        refine lv_aload_n hx hb dL_law_898 rfl (lv_at hl 1 rfl) ?_
        refine lv_iload hx hb dL_law_899 (lv_at hl 5 rfl) ?_
        refine lv_iconst hx hb dL_law_901 kI_1 ?_
        refine lv_iadd hx hb dL_law_902 ?_
        obtain ⟨v145, hv145, hf⟩ := ob_ hf
        refine r_sld S hI hX hbl hbA dL_law_903 hv145 ?_
        obtain ⟨w146, hw146, hf⟩ := ob_ hf
        refine r_cv (r_V (rest := []) (As := [.int v145]) S hl hI (kM_replace l G kA kL Lf ad q144.1 22 v145 w146 hw146) pkM_replace kw_694 kw_695 (fcM).1 (gd_some hw146).1 kw_693 ⟨rfl, rfl⟩ ⟨Nat.le_of_ble_eq_true rfl, Nat.le_of_ble_eq_true rfl⟩ rfl rfl (Nat.le_of_ble_eq_true rfl) hcs dL_law_904) hI (fun H locs hI => ?_)
        refine lv_aload_n hx hb dL_law_907 rfl (lv_at hl 3 rfl) ?_
        obtain ⟨q147, hq147, hf⟩ := ob_ hf
        refine r_ci (r_V (rest := []) (As := []) S hl hI (kM_thrown l G kA kL Lf ad w146 22 q147.1 q147.2 hq147) pkM_thrown kw_563 kw_564 (fcM).1 (gd_some hq147).1 kw_562 ⟨rfl, rfl⟩ ⟨Nat.le_of_ble_eq_true rfl, Nat.le_of_ble_eq_true rfl⟩ rfl rfl (Nat.le_of_ble_eq_true rfl) hcs dL_law_908) hI (fun H locs hI => ?_)
        refine lv_iload hx hb dL_law_911 (lv_at hl 0 rfl) ?_
        refine lv_icmp_eq (tgt := 918) hx hb dL_law_913 rfl (fun h148 => ?_) (fun h148 => ?_)
        · have hf := ip_ hf h148
          refine lv_goto (tgt := 1033) hx hb dL_law_918 rfl ?_
          exact bk1033 (cl + 1) (sl + 6) hcs K23 hK23 q147.1 x4 _ _ _ (lv_sub hl [1, 2, 3, 4, 5] rfl) hI hf
        · have hf := in_ hf h148
          refine lv_iconst hx hb dL_law_916 kI_0 ?_
          cases hf
      have hf := in_ hf h142
      refine tsw_c (k := 14) (tgt := 921) (off := 882) hx hb dL_law_39 (by decide) (by decide) rfl rfl (fun h149 => ?_) (fun h149 => ?_)
      · have hf := ip_ hf h149
        refine lv_aload_n hx hb dL_law_921 rfl (lv_at hl 1 rfl) ?_
        refine lv_aload_n hx hb dL_law_922 rfl (lv_at hl 0 rfl) ?_
        refine lv_iload hx hb dL_law_923 (lv_at hl 4 rfl) ?_
        refine lv_iconst hx hb dL_law_925 kI_1 ?_
        refine lv_iadd hx hb dL_law_926 ?_
        obtain ⟨v150, hv150, hf⟩ := ob_ hf
        refine r_sld S hI hX hbl hbA dL_law_927 hv150 ?_
        refine lv_aload_n hx hb dL_law_928 rfl (lv_at hl 3 rfl) ?_
        obtain ⟨q151, hq151, hf⟩ := ob_ hf
        refine r_cw (r_SW (n := 3) (rest := []) (As := [.ref (ad 0), .int v150, .ref (ad 34)]) S hl hI hXs (kL_rebuild l hlt G kA kL Lf ad w 0 v150 34 q151.1 q151.2 hq151) kw_462 kw_0 kw_461 kw_460 (by decide +kernel) ⟨rfl, rfl⟩ ⟨Nat.le_of_ble_eq_true rfl, Nat.le_of_ble_eq_true rfl⟩ rfl rfl (Nat.le_of_ble_eq_true rfl) hcs dL_law_929) hI (fun H locs hI => ?_)
        refine lv_istore hx hb (lv' := [(5, .int q151.2), (0, .ref b), (1, .ref (ad 0)), (2, .ref (ad 22)), (3, .ref (ad 34)), (4, .int x4)]) dL_law_932 hl (Nat.le_of_ble_eq_true rfl) rfl (fun ls hl => ?_)
        refine lv_aload_n hx hb dL_law_934 rfl (lv_at hl 3 rfl) ?_
        refine lv_aload_n hx hb dL_law_935 rfl (lv_at hl 1 rfl) ?_
        refine lv_iload hx hb dL_law_936 (lv_at hl 5 rfl) ?_
        refine lv_iconst hx hb dL_law_938 kI_1 ?_
        refine lv_iadd hx hb dL_law_939 ?_
        obtain ⟨v152, hv152, hf⟩ := ob_ hf
        refine r_sld S hI hX hbl hbA dL_law_940 hv152 ?_
        obtain ⟨q153, hq153, hf⟩ := ob_ hf
        refine r_ci (r_V (rest := []) (As := [.int v152]) S hl hI (kM_rebuild l G kA kL Lf ad q151.1 22 v152 q153.1 q153.2 hq153) pkM_rebuild kw_698 kw_699 (fcM).1 (gd_some hq153).1 kw_697 ⟨rfl, rfl⟩ ⟨Nat.le_of_ble_eq_true rfl, Nat.le_of_ble_eq_true rfl⟩ rfl rfl (Nat.le_of_ble_eq_true rfl) hcs dL_law_941) hI (fun H locs hI => ?_)
        refine lv_istore hx hb (lv' := [(6, .int q153.2), (5, .int q151.2), (0, .ref b), (1, .ref (ad 0)), (2, .ref (ad 22)), (3, .ref (ad 34)), (4, .int x4)]) dL_law_944 hl (Nat.le_of_ble_eq_true rfl) rfl (fun ls hl => ?_)
        refine lv_aload_n hx hb dL_law_946 rfl (lv_at hl 4 rfl) ?_
        obtain ⟨q154, hq154, hf⟩ := ob_ hf
        refine r_ci (r_V (rest := []) (As := []) S hl hI (kM_thrown l G kA kL Lf ad q153.1 22 q154.1 q154.2 hq154) pkM_thrown kw_563 kw_564 (fcM).1 (gd_some hq154).1 kw_562 ⟨rfl, rfl⟩ ⟨Nat.le_of_ble_eq_true rfl, Nat.le_of_ble_eq_true rfl⟩ rfl rfl (Nat.le_of_ble_eq_true rfl) hcs dL_law_947) hI (fun H locs hI => ?_)
        refine lv_iload hx hb dL_law_950 (lv_at hl 1 rfl) ?_
        refine lv_icmp_eq (tgt := 957) hx hb dL_law_952 rfl (fun h155 => ?_) (fun h155 => ?_)
        · have hf := ip_ hf h155
          refine lv_iload hx hb dL_law_957 (lv_at hl 1 rfl) ?_
          refine lv_if_ne (tgt := 974) hx hb dL_law_959 rfl (fun h156 => ?_) (fun h156 => ?_)
          · have hf := in_ hf h156
            refine lv_goto (tgt := 1033) hx hb dL_law_974 rfl ?_
            exact bk1033 (cl + 1) (sl + 6) hcs K23 hK23 q154.1 x4 _ _ _ (lv_sub hl [2, 3, 4, 5, 6] rfl) hI hf
          · have hf := ip_ hf h156
            refine lv_aload_n hx hb dL_law_962 rfl (lv_at hl 5 rfl) ?_
            refine lv_iconst hx hb dL_law_963 kI_0 ?_
            obtain ⟨v157, hv157, hf⟩ := ob_ hf
            refine r_lald S hI dL_law_964 hv157 ?_
            refine lv_iload hx hb dL_law_965 (lv_at hl 0 rfl) ?_
            refine lv_i2l hx hb dL_law_967 rfl ?_
            refine W.lcmp hx hb dL_law_968 ?_
            refine lv_if_eq (tgt := 974) hx hb dL_law_969 rfl (fun h158 => ?_) (fun h158 => ?_)
            · have hf := ip_ hf h158
              refine lv_goto (tgt := 1033) hx hb dL_law_974 rfl ?_
              exact bk1033 (cl + 1) (sl + 6) hcs K23 hK23 q154.1 x4 _ _ _ (lv_sub hl [2, 3, 4, 5, 6] rfl) hI hf
            · have hf := in_ hf h158
              refine lv_iconst hx hb dL_law_972 kI_0 ?_
              cases hf
        · have hf := in_ hf h155
          refine lv_iconst hx hb dL_law_955 kI_0 ?_
          cases hf
      have hf := in_ hf h149
      refine tsw_c (k := 15) (tgt := 977) (off := 938) hx hb dL_law_39 (by decide) (by decide) rfl rfl (fun h159 => ?_) (fun h159 => ?_)
      · have hf := ip_ hf h159
        refine lv_aload_n hx hb dL_law_977 rfl (lv_at hl 1 rfl) ?_
        refine lv_aload_n hx hb dL_law_978 rfl (lv_at hl 0 rfl) ?_
        refine lv_iload hx hb dL_law_979 (lv_at hl 4 rfl) ?_
        refine lv_iconst hx hb dL_law_981 kI_1 ?_
        refine lv_iadd hx hb dL_law_982 ?_
        obtain ⟨v160, hv160, hf⟩ := ob_ hf
        refine r_sld S hI hX hbl hbA dL_law_983 hv160 ?_
        refine lv_aload_n hx hb dL_law_984 rfl (lv_at hl 3 rfl) ?_
        obtain ⟨q161, hq161, hf⟩ := ob_ hf
        refine r_cw (r_SW (n := 3) (rest := []) (As := [.ref (ad 0), .int v160, .ref (ad 34)]) S hl hI hXs (kL_count l hlt G kA kL Lf ad w 0 v160 34 q161.1 q161.2 hq161) kw_473 kw_0 kw_472 kw_471 (by decide +kernel) ⟨rfl, rfl⟩ ⟨Nat.le_of_ble_eq_true rfl, Nat.le_of_ble_eq_true rfl⟩ rfl rfl (Nat.le_of_ble_eq_true rfl) hcs dL_law_985) hI (fun H locs hI => ?_)
        refine lv_istore hx hb (lv' := [(5, .int q161.2), (0, .ref b), (1, .ref (ad 0)), (2, .ref (ad 22)), (3, .ref (ad 34)), (4, .int x4)]) dL_law_988 hl (Nat.le_of_ble_eq_true rfl) rfl (fun ls hl => ?_)
        refine lv_aload_n hx hb dL_law_990 rfl (lv_at hl 3 rfl) ?_
        refine lv_aload_n hx hb dL_law_991 rfl (lv_at hl 1 rfl) ?_
        refine lv_iload hx hb dL_law_992 (lv_at hl 5 rfl) ?_
        refine lv_iconst hx hb dL_law_994 kI_1 ?_
        refine lv_iadd hx hb dL_law_995 ?_
        obtain ⟨v162, hv162, hf⟩ := ob_ hf
        refine r_sld S hI hX hbl hbA dL_law_996 hv162 ?_
        obtain ⟨q163, hq163, hf⟩ := ob_ hf
        refine r_ci (r_V (rest := []) (As := [.int v162]) S hl hI (kM_count l G kA kL Lf ad q161.1 22 v162 q163.1 q163.2 hq163) pkM_count kw_702 kw_703 (fcM).1 (gd_some hq163).1 kw_701 ⟨rfl, rfl⟩ ⟨Nat.le_of_ble_eq_true rfl, Nat.le_of_ble_eq_true rfl⟩ rfl rfl (Nat.le_of_ble_eq_true rfl) hcs dL_law_997) hI (fun H locs hI => ?_)
        refine lv_istore hx hb (lv' := [(6, .int q163.2), (5, .int q161.2), (0, .ref b), (1, .ref (ad 0)), (2, .ref (ad 22)), (3, .ref (ad 34)), (4, .int x4)]) dL_law_1000 hl (Nat.le_of_ble_eq_true rfl) rfl (fun ls hl => ?_)
        refine lv_aload_n hx hb dL_law_1002 rfl (lv_at hl 4 rfl) ?_
        obtain ⟨q164, hq164, hf⟩ := ob_ hf
        refine r_ci (r_V (rest := []) (As := []) S hl hI (kM_thrown l G kA kL Lf ad q163.1 22 q164.1 q164.2 hq164) pkM_thrown kw_563 kw_564 (fcM).1 (gd_some hq164).1 kw_562 ⟨rfl, rfl⟩ ⟨Nat.le_of_ble_eq_true rfl, Nat.le_of_ble_eq_true rfl⟩ rfl rfl (Nat.le_of_ble_eq_true rfl) hcs dL_law_1003) hI (fun H locs hI => ?_)
        refine lv_iload hx hb dL_law_1006 (lv_at hl 1 rfl) ?_
        refine lv_icmp_eq (tgt := 1013) hx hb dL_law_1008 rfl (fun h165 => ?_) (fun h165 => ?_)
        · have hf := ip_ hf h165
          refine lv_iload hx hb dL_law_1013 (lv_at hl 1 rfl) ?_
          refine lv_if_ne (tgt := 1030) hx hb dL_law_1015 rfl (fun h166 => ?_) (fun h166 => ?_)
          · have hf := in_ hf h166
            refine lv_goto (tgt := 1033) hx hb dL_law_1030 rfl ?_
            exact bk1033 (cl + 1) (sl + 6) hcs K23 hK23 q164.1 x4 _ _ _ (lv_sub hl [2, 3, 4, 5, 6] rfl) hI hf
          · have hf := ip_ hf h166
            refine lv_aload_n hx hb dL_law_1018 rfl (lv_at hl 5 rfl) ?_
            refine lv_iconst hx hb dL_law_1019 kI_0 ?_
            obtain ⟨v167, hv167, hf⟩ := ob_ hf
            refine r_lald S hI dL_law_1020 hv167 ?_
            refine lv_iload hx hb dL_law_1021 (lv_at hl 0 rfl) ?_
            refine lv_i2l hx hb dL_law_1023 rfl ?_
            refine W.lcmp hx hb dL_law_1024 ?_
            refine lv_if_eq (tgt := 1030) hx hb dL_law_1025 rfl (fun h168 => ?_) (fun h168 => ?_)
            · have hf := ip_ hf h168
              refine lv_goto (tgt := 1033) hx hb dL_law_1030 rfl ?_
              exact bk1033 (cl + 1) (sl + 6) hcs K23 hK23 q164.1 x4 _ _ _ (lv_sub hl [2, 3, 4, 5, 6] rfl) hI hf
            · have hf := in_ hf h168
              refine lv_iconst hx hb dL_law_1028 kI_0 ?_
              cases hf
        · have hf := in_ hf h165
          refine lv_iconst hx hb dL_law_1011 kI_0 ?_
          cases hf
      have hf := in_ hf h159
      refine lv_tableOut (tgt := 1033) hx hb dL_law_39 (tsw_o16 h9 h23 h35 h39 h52 h59 h67 h77 h80 h92 h104 h116 h128 h142 h149 h159) rfl ?_
      refine W.widen (k := cl + 1) (n := sl + 6) (by omega) (by omega) ?_
      exact bk1033 (cl + 1) (sl + 6) hcs K23 hK23 w x4 _ _ _ (lv_sub hl [0, 1, 2, 3, 4] rfl) hI hf
  intro n
  induction n with
  | zero =>
    intro cl sl h1 h2 w x4 H locs ls hl hI hf
    have hf : (none : Option Unit) = some () := hf
    cases hf
  | succ n ih =>
    intro cl sl h1 h2 w x4 H locs ls hl hI hf
    exact bk23 cl sl ⟨by show cl + 1 ≤ 1082; omega, by show sl + 6 ≤ 12566; omega⟩ (bL_law_23 Lf xs L n) (ih (cl + 1) (sl + 6) (by omega) (by omega)) w x4 H locs ls hl hI hf

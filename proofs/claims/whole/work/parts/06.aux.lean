/-! a class by its number; constants; switches (written by aux.py) -/
theorem uwD : ∀ w ∈ u_ws RD TD 6, w ∈ gW := by
  intro w h
  have h : w ∈ [u_lay RD TD 0, u_lay RD TD 1, u_lay RD TD 2, u_lay RD TD 3, u_lay RD TD 4, u_lay RD TD 5] := h
  rcases List.mem_cons.mp h with rfl | h
  · exact kw_46
  rcases List.mem_cons.mp h with rfl | h
  · exact kw_48
  rcases List.mem_cons.mp h with rfl | h
  · exact kw_50
  rcases List.mem_cons.mp h with rfl | h
  · exact kw_52
  rcases List.mem_cons.mp h with rfl | h
  · exact kw_54
  rcases List.mem_cons.mp h with rfl | h
  · exact kw_56
  cases h
theorem fcD : FC 0 RD TD 6 tD := ⟨rfl, uwD, tD_ok, nD⟩
theorem uwF : ∀ w ∈ u_ws RF TF 3, w ∈ gW := by
  intro w h
  have h : w ∈ [u_lay RF TF 0, u_lay RF TF 1, u_lay RF TF 2] := h
  rcases List.mem_cons.mp h with rfl | h
  · exact kw_106
  rcases List.mem_cons.mp h with rfl | h
  · exact kw_108
  rcases List.mem_cons.mp h with rfl | h
  · exact kw_110
  cases h
theorem fcF : FC 1 RF TF 3 tF := ⟨rfl, uwF, tF_ok, nF⟩
theorem uwJ : ∀ w ∈ u_ws RJ TJ 3, w ∈ gW := by
  intro w h
  have h : w ∈ [u_lay RJ TJ 0, u_lay RJ TJ 1, u_lay RJ TJ 2] := h
  rcases List.mem_cons.mp h with rfl | h
  · exact kw_87
  rcases List.mem_cons.mp h with rfl | h
  · exact kw_89
  rcases List.mem_cons.mp h with rfl | h
  · exact kw_91
  cases h
theorem fcJ : FC 2 RJ TJ 3 tJ := ⟨rfl, uwJ, tJ_ok, nJ⟩
theorem uwP : ∀ w ∈ u_ws RP TP 2, w ∈ gW := by
  intro w h
  have h : w ∈ [u_lay RP TP 0, u_lay RP TP 1] := h
  rcases List.mem_cons.mp h with rfl | h
  · exact kw_70
  rcases List.mem_cons.mp h with rfl | h
  · exact kw_72
  cases h
theorem fcP : FC 3 RP TP 2 tP := ⟨rfl, uwP, tP_ok, nP⟩
theorem uwG : ∀ w ∈ u_ws RG TG 11, w ∈ gW := by
  intro w h
  have h : w ∈ [u_lay RG TG 0, u_lay RG TG 1, u_lay RG TG 2, u_lay RG TG 3, u_lay RG TG 4, u_lay RG TG 5, u_lay RG TG 6, u_lay RG TG 7, u_lay RG TG 8, u_lay RG TG 9, u_lay RG TG 10] := h
  rcases List.mem_cons.mp h with rfl | h
  · exact kw_124
  rcases List.mem_cons.mp h with rfl | h
  · exact kw_126
  rcases List.mem_cons.mp h with rfl | h
  · exact kw_128
  rcases List.mem_cons.mp h with rfl | h
  · exact kw_130
  rcases List.mem_cons.mp h with rfl | h
  · exact kw_132
  rcases List.mem_cons.mp h with rfl | h
  · exact kw_134
  rcases List.mem_cons.mp h with rfl | h
  · exact kw_136
  rcases List.mem_cons.mp h with rfl | h
  · exact kw_138
  rcases List.mem_cons.mp h with rfl | h
  · exact kw_140
  rcases List.mem_cons.mp h with rfl | h
  · exact kw_142
  rcases List.mem_cons.mp h with rfl | h
  · exact kw_144
  cases h
theorem fcG : FC 4 RG TG 11 tG := ⟨rfl, uwG, tG_ok, nG⟩
theorem uwM : ∀ w ∈ u_ws RM TM 20, w ∈ gW := by
  intro w h
  have h : w ∈ [u_lay RM TM 0, u_lay RM TM 1, u_lay RM TM 2, u_lay RM TM 3, u_lay RM TM 4, u_lay RM TM 5, u_lay RM TM 6, u_lay RM TM 7, u_lay RM TM 8, u_lay RM TM 9, u_lay RM TM 10, u_lay RM TM 11, u_lay RM TM 12, u_lay RM TM 13, u_lay RM TM 14, u_lay RM TM 15, u_lay RM TM 16, u_lay RM TM 17, u_lay RM TM 18, u_lay RM TM 19] := h
  rcases List.mem_cons.mp h with rfl | h
  · exact kw_521
  rcases List.mem_cons.mp h with rfl | h
  · exact kw_523
  rcases List.mem_cons.mp h with rfl | h
  · exact kw_525
  rcases List.mem_cons.mp h with rfl | h
  · exact kw_527
  rcases List.mem_cons.mp h with rfl | h
  · exact kw_529
  rcases List.mem_cons.mp h with rfl | h
  · exact kw_531
  rcases List.mem_cons.mp h with rfl | h
  · exact kw_533
  rcases List.mem_cons.mp h with rfl | h
  · exact kw_535
  rcases List.mem_cons.mp h with rfl | h
  · exact kw_537
  rcases List.mem_cons.mp h with rfl | h
  · exact kw_539
  rcases List.mem_cons.mp h with rfl | h
  · exact kw_541
  rcases List.mem_cons.mp h with rfl | h
  · exact kw_543
  rcases List.mem_cons.mp h with rfl | h
  · exact kw_545
  rcases List.mem_cons.mp h with rfl | h
  · exact kw_547
  rcases List.mem_cons.mp h with rfl | h
  · exact kw_549
  rcases List.mem_cons.mp h with rfl | h
  · exact kw_551
  rcases List.mem_cons.mp h with rfl | h
  · exact kw_553
  rcases List.mem_cons.mp h with rfl | h
  · exact kw_555
  rcases List.mem_cons.mp h with rfl | h
  · exact kw_557
  rcases List.mem_cons.mp h with rfl | h
  · exact kw_559
  cases h
theorem fcM : FC 5 RM TM 20 tM := ⟨rfl, uwM, tM_ok, nM⟩
theorem kB_6 : (Int8.ofInt 6).toInt32 = 6 := by decide +kernel
theorem kB_7 : (Int8.ofInt 7).toInt32 = 7 := by decide +kernel
theorem kB_8 : (Int8.ofInt 8).toInt32 = 8 := by decide +kernel
theorem kB_9 : (Int8.ofInt 9).toInt32 = 9 := by decide +kernel
theorem kB_10 : (Int8.ofInt 10).toInt32 = 10 := by decide +kernel
theorem kB_11 : (Int8.ofInt 11).toInt32 = 11 := by decide +kernel
theorem kB_15 : (Int8.ofInt 15).toInt32 = 15 := by decide +kernel
theorem kB_16 : (Int8.ofInt 16).toInt32 = 16 := by decide +kernel
theorem kB_27 : (Int8.ofInt 27).toInt32 = 27 := by decide +kernel
theorem kB_50 : (Int8.ofInt 50).toInt32 = 50 := by decide +kernel
theorem kB_60 : (Int8.ofInt 60).toInt32 = 60 := by decide +kernel
theorem kB_64 : (Int8.ofInt 64).toInt32 = 64 := by decide +kernel
theorem kB_72 : (Int8.ofInt 72).toInt32 = 72 := by decide +kernel
theorem kB_100 : (Int8.ofInt 100).toInt32 = 100 := by decide +kernel
theorem kI_m1 : Int32.ofInt (-1) = (-1) := by decide +kernel
theorem kI_0 : Int32.ofInt 0 = 0 := by decide +kernel
theorem kI_1 : Int32.ofInt 1 = 1 := by decide +kernel
theorem kI_2 : Int32.ofInt 2 = 2 := by decide +kernel
theorem kI_3 : Int32.ofInt 3 = 3 := by decide +kernel
theorem kI_4 : Int32.ofInt 4 = 4 := by decide +kernel
theorem kI_5 : Int32.ofInt 5 = 5 := by decide +kernel
theorem kN_1 (x : Int32) : x + Int32.ofInt 1 = x + 1 := by rw [show Int32.ofInt 1 = 1 from by decide +kernel]
theorem kN_5 (x : Int32) : x + Int32.ofInt 5 = x + 5 := by rw [show Int32.ofInt 5 = 5 from by decide +kernel]
theorem kS_400 : (Int16.ofInt 400).toInt32 = 400 := by decide +kernel
theorem kS_792 : (Int16.ofInt 792).toInt32 = 792 := by decide +kernel
theorem kS_1584 : (Int16.ofInt 1584).toInt32 = 1584 := by decide +kernel
section TSW
variable {p : Program} {l : Launch} {e : Env} {R : Room} {s : State} {m : MethodId} {args : Array Value} {below : List Frame} {meth : Method} {c : Code} {H : Heap} {locs : List Loc} {cells slots : Nat} {Q : State → Prop}
variable {cc : ByteArray} {pc : Nat} {ls : Array Slot} {rest : List Value}
theorem tsw_c {k : Nat} (hexec : p.tables.exec = Jvm.exec) (hb : c.code = cc) {dflt hi : Int} {offs : Array Int} {len : Nat} {x : Int32} {off : Int} {tgt : Nat} (hdg : decode cc pc = .ok (.tableswitch dflt 0 hi offs, len)) (hk : k < 2 ^ 31) (hk2 : ¬ hi < (k : Int)) (ho : offs[k]? = some off) (ht : (pc : Int) + off = (tgt : Int))
    (kt : x = Int32.ofNat k → W p l e R s m args below meth c H locs cells slots Q (F0 m tgt ls rest)) (kf : ¬ x = Int32.ofNat k → W p l e R s m args below meth c H locs cells slots Q (F0 m pc ls (.int x :: rest))) : W p l e R s m args below meth c H locs cells slots Q (F0 m pc ls (.int x :: rest)) := by
  by_cases h : x = Int32.ofNat k
  · have ht2 : x.toInt = (k : Int) := by rw [h]; exact nI_toInt hk
    refine lv_tableIn hexec hb hdg (by omega) (by omega) (off := off) ?_ ht (kt h)
    rw [ht2]
    simpa using ho
  · exact kf h
theorem tsw_ne {x : Int32} (k : Nat) (hk : k < 2 ^ 31) (h : ¬ x = Int32.ofNat k) : x.toInt ≠ (k : Int) := fun q => h (Int32.toInt_inj.mp (q.trans (nI_toInt hk).symm))
theorem tsw_o3 {x : Int32} (h0 : ¬ x = Int32.ofNat 0) (h1 : ¬ x = Int32.ofNat 1) (h2 : ¬ x = Int32.ofNat 2) : x.toInt < 0 ∨ (2 : Int) < x.toInt := by
  have g0 := tsw_ne 0 (by decide) h0
  have g1 := tsw_ne 1 (by decide) h1
  have g2 := tsw_ne 2 (by decide) h2
  omega
theorem tsw_o8 {x : Int32} (h0 : ¬ x = Int32.ofNat 0) (h1 : ¬ x = Int32.ofNat 1) (h2 : ¬ x = Int32.ofNat 2) (h3 : ¬ x = Int32.ofNat 3) (h4 : ¬ x = Int32.ofNat 4) (h5 : ¬ x = Int32.ofNat 5) (h6 : ¬ x = Int32.ofNat 6) (h7 : ¬ x = Int32.ofNat 7) : x.toInt < 0 ∨ (7 : Int) < x.toInt := by
  have g0 := tsw_ne 0 (by decide) h0
  have g1 := tsw_ne 1 (by decide) h1
  have g2 := tsw_ne 2 (by decide) h2
  have g3 := tsw_ne 3 (by decide) h3
  have g4 := tsw_ne 4 (by decide) h4
  have g5 := tsw_ne 5 (by decide) h5
  have g6 := tsw_ne 6 (by decide) h6
  have g7 := tsw_ne 7 (by decide) h7
  omega
theorem tsw_o16 {x : Int32} (h0 : ¬ x = Int32.ofNat 0) (h1 : ¬ x = Int32.ofNat 1) (h2 : ¬ x = Int32.ofNat 2) (h3 : ¬ x = Int32.ofNat 3) (h4 : ¬ x = Int32.ofNat 4) (h5 : ¬ x = Int32.ofNat 5) (h6 : ¬ x = Int32.ofNat 6) (h7 : ¬ x = Int32.ofNat 7) (h8 : ¬ x = Int32.ofNat 8) (h9 : ¬ x = Int32.ofNat 9) (h10 : ¬ x = Int32.ofNat 10) (h11 : ¬ x = Int32.ofNat 11) (h12 : ¬ x = Int32.ofNat 12) (h13 : ¬ x = Int32.ofNat 13) (h14 : ¬ x = Int32.ofNat 14) (h15 : ¬ x = Int32.ofNat 15) : x.toInt < 0 ∨ (15 : Int) < x.toInt := by
  have g0 := tsw_ne 0 (by decide) h0
  have g1 := tsw_ne 1 (by decide) h1
  have g2 := tsw_ne 2 (by decide) h2
  have g3 := tsw_ne 3 (by decide) h3
  have g4 := tsw_ne 4 (by decide) h4
  have g5 := tsw_ne 5 (by decide) h5
  have g6 := tsw_ne 6 (by decide) h6
  have g7 := tsw_ne 7 (by decide) h7
  have g8 := tsw_ne 8 (by decide) h8
  have g9 := tsw_ne 9 (by decide) h9
  have g10 := tsw_ne 10 (by decide) h10
  have g11 := tsw_ne 11 (by decide) h11
  have g12 := tsw_ne 12 (by decide) h12
  have g13 := tsw_ne 13 (by decide) h13
  have g14 := tsw_ne 14 (by decide) h14
  have g15 := tsw_ne 15 (by decide) h15
  omega
end TSW

section
-- ===== PART A: goes FIRST, ahead of the names: the tables' words, and 'selects' of the private methods out of them =====
/-- a private method of a class that the tables say can be made, by its rows of tables_1 -/
def lw_okq (q : MethodName × Nat) : Prop := (q.1.cls ≠ "java/lang/invoke/MethodHandle" ∧ q.1.cls ≠ "java/lang/invoke/VarHandle") ∧ Cond.instantiable q.1.cls q.2 ∈ tables_1 ∧ Cond.privateMethod q.1 ∈ tables_1 ∧ Cond.instanceMethod q.1 ∈ tables_1
theorem lw_p0 : lw_okq (⟨"java/lang/Throwable", "fillInStackTrace", "(I)Ljava/lang/Throwable;"⟩, 6) := ⟨⟨by decide +kernel, by decide +kernel⟩, List.mem_of_getElem? (i := 208) (by decide +kernel), List.mem_of_getElem? (i := 206) (by decide +kernel), List.mem_of_getElem? (i := 207) (by decide +kernel)⟩
theorem lw_p1 : lw_okq (⟨"GuardVolume", "goodCopy", "(I)I"⟩, 11) := ⟨⟨by decide +kernel, by decide +kernel⟩, List.mem_of_getElem? (i := 18) (by decide +kernel), List.mem_of_getElem? (i := 248) (by decide +kernel), List.mem_of_getElem? (i := 249) (by decide +kernel)⟩
theorem lw_p2 : lw_okq (⟨"GuardVolume", "judge", "(II)I"⟩, 11) := ⟨⟨by decide +kernel, by decide +kernel⟩, List.mem_of_getElem? (i := 18) (by decide +kernel), List.mem_of_getElem? (i := 252) (by decide +kernel), List.mem_of_getElem? (i := 253) (by decide +kernel)⟩
theorem lw_p3 : lw_okq (⟨"GuardVolume", "driveOf", "(I)LGuardVolume$Drive;"⟩, 11) := ⟨⟨by decide +kernel, by decide +kernel⟩, List.mem_of_getElem? (i := 18) (by decide +kernel), List.mem_of_getElem? (i := 256) (by decide +kernel), List.mem_of_getElem? (i := 257) (by decide +kernel)⟩
theorem lw_p4 : lw_okq (⟨"GuardVolume$Drive", "at", "(II)I"⟩, 6) := ⟨⟨by decide +kernel, by decide +kernel⟩, List.mem_of_getElem? (i := 26) (by decide +kernel), List.mem_of_getElem? (i := 260) (by decide +kernel), List.mem_of_getElem? (i := 261) (by decide +kernel)⟩
theorem lw_p5 : lw_okq (⟨"GuardVolume", "expectedVersion", "(II)I"⟩, 11) := ⟨⟨by decide +kernel, by decide +kernel⟩, List.mem_of_getElem? (i := 18) (by decide +kernel), List.mem_of_getElem? (i := 265) (by decide +kernel), List.mem_of_getElem? (i := 266) (by decide +kernel)⟩
theorem lw_p6 : lw_okq (⟨"GuardVolume", "listDrive", "(II)I"⟩, 11) := ⟨⟨by decide +kernel, by decide +kernel⟩, List.mem_of_getElem? (i := 18) (by decide +kernel), List.mem_of_getElem? (i := 269) (by decide +kernel), List.mem_of_getElem? (i := 270) (by decide +kernel)⟩
theorem lw_p7 : lw_okq (⟨"GuardVolume", "isPageRight", "(II)Z"⟩, 11) := ⟨⟨by decide +kernel, by decide +kernel⟩, List.mem_of_getElem? (i := 18) (by decide +kernel), List.mem_of_getElem? (i := 273) (by decide +kernel), List.mem_of_getElem? (i := 274) (by decide +kernel)⟩
theorem lw_p8 : lw_okq (⟨"GuardVolume$Drive", "giveWords", "(I[I)V"⟩, 6) := ⟨⟨by decide +kernel, by decide +kernel⟩, List.mem_of_getElem? (i := 26) (by decide +kernel), List.mem_of_getElem? (i := 295) (by decide +kernel), List.mem_of_getElem? (i := 296) (by decide +kernel)⟩
theorem lw_p9 : lw_okq (⟨"GuardVolume", "putNotedBlock", "()Z"⟩, 11) := ⟨⟨by decide +kernel, by decide +kernel⟩, List.mem_of_getElem? (i := 18) (by decide +kernel), List.mem_of_getElem? (i := 299) (by decide +kernel), List.mem_of_getElem? (i := 300) (by decide +kernel)⟩
theorem lw_p10 : lw_okq (⟨"GuardVolume", "putCopy", "(II[II)Z"⟩, 11) := ⟨⟨by decide +kernel, by decide +kernel⟩, List.mem_of_getElem? (i := 18) (by decide +kernel), List.mem_of_getElem? (i := 303) (by decide +kernel), List.mem_of_getElem? (i := 304) (by decide +kernel)⟩
theorem lw_p11 : lw_okq (⟨"GuardVolume", "store", "(II[II)Z"⟩, 11) := ⟨⟨by decide +kernel, by decide +kernel⟩, List.mem_of_getElem? (i := 18) (by decide +kernel), List.mem_of_getElem? (i := 307) (by decide +kernel), List.mem_of_getElem? (i := 308) (by decide +kernel)⟩
theorem lw_p12 : lw_okq (⟨"GuardVolume$Power", "allowsWrite", "()Z"⟩, 2) := ⟨⟨by decide +kernel, by decide +kernel⟩, List.mem_of_getElem? (i := 61) (by decide +kernel), List.mem_of_getElem? (i := 311) (by decide +kernel), List.mem_of_getElem? (i := 312) (by decide +kernel)⟩
theorem lw_p13 : lw_okq (⟨"GuardVolume$Drive", "take", "(I[I)V"⟩, 6) := ⟨⟨by decide +kernel, by decide +kernel⟩, List.mem_of_getElem? (i := 26) (by decide +kernel), List.mem_of_getElem? (i := 316) (by decide +kernel), List.mem_of_getElem? (i := 317) (by decide +kernel)⟩
theorem lw_p14 : lw_okq (⟨"GuardVolume$Drive", "planOfNext", "(I)I"⟩, 6) := ⟨⟨by decide +kernel, by decide +kernel⟩, List.mem_of_getElem? (i := 26) (by decide +kernel), List.mem_of_getElem? (i := 320) (by decide +kernel), List.mem_of_getElem? (i := 321) (by decide +kernel)⟩
theorem lw_p15 : lw_okq (⟨"GuardVolume$Drive", "keep", "(I[II)V"⟩, 6) := ⟨⟨by decide +kernel, by decide +kernel⟩, List.mem_of_getElem? (i := 26) (by decide +kernel), List.mem_of_getElem? (i := 324) (by decide +kernel), List.mem_of_getElem? (i := 325) (by decide +kernel)⟩
def lw_privs_1 : List (MethodName × Nat) := [(⟨"java/lang/Throwable", "fillInStackTrace", "(I)Ljava/lang/Throwable;"⟩, 6), (⟨"GuardVolume", "goodCopy", "(I)I"⟩, 11), (⟨"GuardVolume", "judge", "(II)I"⟩, 11), (⟨"GuardVolume", "driveOf", "(I)LGuardVolume$Drive;"⟩, 11), (⟨"GuardVolume$Drive", "at", "(II)I"⟩, 6), (⟨"GuardVolume", "expectedVersion", "(II)I"⟩, 11), (⟨"GuardVolume", "listDrive", "(II)I"⟩, 11), (⟨"GuardVolume", "isPageRight", "(II)Z"⟩, 11), (⟨"GuardVolume$Drive", "giveWords", "(I[I)V"⟩, 6), (⟨"GuardVolume", "putNotedBlock", "()Z"⟩, 11), (⟨"GuardVolume", "putCopy", "(II[II)Z"⟩, 11), (⟨"GuardVolume", "store", "(II[II)Z"⟩, 11), (⟨"GuardVolume$Power", "allowsWrite", "()Z"⟩, 2), (⟨"GuardVolume$Drive", "take", "(I[I)V"⟩, 6), (⟨"GuardVolume$Drive", "planOfNext", "(I)I"⟩, 6), (⟨"GuardVolume$Drive", "keep", "(I[II)V"⟩, 6)]
theorem lw_r1 : ∀ q ∈ lw_privs_1, lw_okq q := List.forall_mem_cons.mpr ⟨lw_p0, List.forall_mem_cons.mpr ⟨lw_p1, List.forall_mem_cons.mpr ⟨lw_p2, List.forall_mem_cons.mpr ⟨lw_p3, List.forall_mem_cons.mpr ⟨lw_p4, List.forall_mem_cons.mpr ⟨lw_p5, List.forall_mem_cons.mpr ⟨lw_p6, List.forall_mem_cons.mpr ⟨lw_p7, List.forall_mem_cons.mpr ⟨lw_p8, List.forall_mem_cons.mpr ⟨lw_p9, List.forall_mem_cons.mpr ⟨lw_p10, List.forall_mem_cons.mpr ⟨lw_p11, List.forall_mem_cons.mpr ⟨lw_p12, List.forall_mem_cons.mpr ⟨lw_p13, List.forall_mem_cons.mpr ⟨lw_p14, List.forall_mem_cons.mpr ⟨lw_p15, fun _ h => absurd h List.not_mem_nil⟩⟩⟩⟩⟩⟩⟩⟩⟩⟩⟩⟩⟩⟩⟩⟩
theorem lw_p16 : lw_okq (⟨"GuardVolume$Drive", "removePlan", "(I)V"⟩, 6) := ⟨⟨by decide +kernel, by decide +kernel⟩, List.mem_of_getElem? (i := 26) (by decide +kernel), List.mem_of_getElem? (i := 328) (by decide +kernel), List.mem_of_getElem? (i := 329) (by decide +kernel)⟩
theorem lw_p17 : lw_okq (⟨"GuardVolume", "storeList", "(III)Z"⟩, 11) := ⟨⟨by decide +kernel, by decide +kernel⟩, List.mem_of_getElem? (i := 18) (by decide +kernel), List.mem_of_getElem? (i := 332) (by decide +kernel), List.mem_of_getElem? (i := 333) (by decide +kernel)⟩
theorem lw_p18 : lw_okq (⟨"GuardVolume$Drive", "addPlan", "(III)V"⟩, 6) := ⟨⟨by decide +kernel, by decide +kernel⟩, List.mem_of_getElem? (i := 26) (by decide +kernel), List.mem_of_getElem? (i := 373) (by decide +kernel), List.mem_of_getElem? (i := 374) (by decide +kernel)⟩
theorem lw_p19 : lw_okq (⟨"GuardVolume", "scrubBlock", "(I)Z"⟩, 11) := ⟨⟨by decide +kernel, by decide +kernel⟩, List.mem_of_getElem? (i := 18) (by decide +kernel), List.mem_of_getElem? (i := 398) (by decide +kernel), List.mem_of_getElem? (i := 399) (by decide +kernel)⟩
theorem lw_p20 : lw_okq (⟨"GuardVolume", "mendList", "(II)Z"⟩, 11) := ⟨⟨by decide +kernel, by decide +kernel⟩, List.mem_of_getElem? (i := 18) (by decide +kernel), List.mem_of_getElem? (i := 402) (by decide +kernel), List.mem_of_getElem? (i := 403) (by decide +kernel)⟩
theorem lw_p21 : lw_okq (⟨"GuardVolume$Findings", "tell", "(IIII)V"⟩, 3) := ⟨⟨by decide +kernel, by decide +kernel⟩, List.mem_of_getElem? (i := 95) (by decide +kernel), List.mem_of_getElem? (i := 406) (by decide +kernel), List.mem_of_getElem? (i := 407) (by decide +kernel)⟩
theorem lw_p22 : lw_okq (⟨"GuardVolume", "mendCopies", "(I)Z"⟩, 11) := ⟨⟨by decide +kernel, by decide +kernel⟩, List.mem_of_getElem? (i := 18) (by decide +kernel), List.mem_of_getElem? (i := 410) (by decide +kernel), List.mem_of_getElem? (i := 411) (by decide +kernel)⟩
theorem lw_p23 : lw_okq (⟨"GuardVolume$Drive", "wipe", "()V"⟩, 6) := ⟨⟨by decide +kernel, by decide +kernel⟩, List.mem_of_getElem? (i := 26) (by decide +kernel), List.mem_of_getElem? (i := 456) (by decide +kernel), List.mem_of_getElem? (i := 457) (by decide +kernel)⟩
theorem lw_p24 : lw_okq (⟨"GuardVolume", "rebuildBlock", "(III)Z"⟩, 11) := ⟨⟨by decide +kernel, by decide +kernel⟩, List.mem_of_getElem? (i := 18) (by decide +kernel), List.mem_of_getElem? (i := 468) (by decide +kernel), List.mem_of_getElem? (i := 469) (by decide +kernel)⟩
theorem lw_p25 : lw_okq (⟨"GuardVolume", "greatestPageVersion", "()I"⟩, 11) := ⟨⟨by decide +kernel, by decide +kernel⟩, List.mem_of_getElem? (i := 18) (by decide +kernel), List.mem_of_getElem? (i := 479) (by decide +kernel), List.mem_of_getElem? (i := 480) (by decide +kernel)⟩
theorem lw_p26 : lw_okq (⟨"GuardVolumeModel", "sumAt", "(I)I"⟩, 20) := ⟨⟨by decide +kernel, by decide +kernel⟩, List.mem_of_getElem? (i := 486) (by decide +kernel), List.mem_of_getElem? (i := 495) (by decide +kernel), List.mem_of_getElem? (i := 496) (by decide +kernel)⟩
theorem lw_p27 : lw_okq (⟨"GuardVolumeModel", "codeOf", "(I)I"⟩, 20) := ⟨⟨by decide +kernel, by decide +kernel⟩, List.mem_of_getElem? (i := 486) (by decide +kernel), List.mem_of_getElem? (i := 574) (by decide +kernel), List.mem_of_getElem? (i := 575) (by decide +kernel)⟩
theorem lw_p28 : lw_okq (⟨"GuardVolumeModel", "verdictOf", "(II)I"⟩, 20) := ⟨⟨by decide +kernel, by decide +kernel⟩, List.mem_of_getElem? (i := 486) (by decide +kernel), List.mem_of_getElem? (i := 578) (by decide +kernel), List.mem_of_getElem? (i := 579) (by decide +kernel)⟩
theorem lw_p29 : lw_okq (⟨"GuardVolumeModel", "isWhole", "(II)Z"⟩, 20) := ⟨⟨by decide +kernel, by decide +kernel⟩, List.mem_of_getElem? (i := 486) (by decide +kernel), List.mem_of_getElem? (i := 582) (by decide +kernel), List.mem_of_getElem? (i := 583) (by decide +kernel)⟩
theorem lw_p30 : lw_okq (⟨"GuardVolumeModel", "isUnknown", "(II)Z"⟩, 20) := ⟨⟨by decide +kernel, by decide +kernel⟩, List.mem_of_getElem? (i := 486) (by decide +kernel), List.mem_of_getElem? (i := 586) (by decide +kernel), List.mem_of_getElem? (i := 587) (by decide +kernel)⟩
theorem lw_p31 : lw_okq (⟨"GuardVolumeModel", "isRightPage", "(II)Z"⟩, 20) := ⟨⟨by decide +kernel, by decide +kernel⟩, List.mem_of_getElem? (i := 486) (by decide +kernel), List.mem_of_getElem? (i := 590) (by decide +kernel), List.mem_of_getElem? (i := 591) (by decide +kernel)⟩
def lw_privs_2 : List (MethodName × Nat) := [(⟨"GuardVolume$Drive", "removePlan", "(I)V"⟩, 6), (⟨"GuardVolume", "storeList", "(III)Z"⟩, 11), (⟨"GuardVolume$Drive", "addPlan", "(III)V"⟩, 6), (⟨"GuardVolume", "scrubBlock", "(I)Z"⟩, 11), (⟨"GuardVolume", "mendList", "(II)Z"⟩, 11), (⟨"GuardVolume$Findings", "tell", "(IIII)V"⟩, 3), (⟨"GuardVolume", "mendCopies", "(I)Z"⟩, 11), (⟨"GuardVolume$Drive", "wipe", "()V"⟩, 6), (⟨"GuardVolume", "rebuildBlock", "(III)Z"⟩, 11), (⟨"GuardVolume", "greatestPageVersion", "()I"⟩, 11), (⟨"GuardVolumeModel", "sumAt", "(I)I"⟩, 20), (⟨"GuardVolumeModel", "codeOf", "(I)I"⟩, 20), (⟨"GuardVolumeModel", "verdictOf", "(II)I"⟩, 20), (⟨"GuardVolumeModel", "isWhole", "(II)Z"⟩, 20), (⟨"GuardVolumeModel", "isUnknown", "(II)Z"⟩, 20), (⟨"GuardVolumeModel", "isRightPage", "(II)Z"⟩, 20)]
theorem lw_r2 : ∀ q ∈ lw_privs_2, lw_okq q := List.forall_mem_cons.mpr ⟨lw_p16, List.forall_mem_cons.mpr ⟨lw_p17, List.forall_mem_cons.mpr ⟨lw_p18, List.forall_mem_cons.mpr ⟨lw_p19, List.forall_mem_cons.mpr ⟨lw_p20, List.forall_mem_cons.mpr ⟨lw_p21, List.forall_mem_cons.mpr ⟨lw_p22, List.forall_mem_cons.mpr ⟨lw_p23, List.forall_mem_cons.mpr ⟨lw_p24, List.forall_mem_cons.mpr ⟨lw_p25, List.forall_mem_cons.mpr ⟨lw_p26, List.forall_mem_cons.mpr ⟨lw_p27, List.forall_mem_cons.mpr ⟨lw_p28, List.forall_mem_cons.mpr ⟨lw_p29, List.forall_mem_cons.mpr ⟨lw_p30, List.forall_mem_cons.mpr ⟨lw_p31, fun _ h => absurd h List.not_mem_nil⟩⟩⟩⟩⟩⟩⟩⟩⟩⟩⟩⟩⟩⟩⟩⟩
theorem lw_p32 : lw_okq (⟨"GuardVolumeModel", "expectedOf", "(II)I"⟩, 20) := ⟨⟨by decide +kernel, by decide +kernel⟩, List.mem_of_getElem? (i := 486) (by decide +kernel), List.mem_of_getElem? (i := 594) (by decide +kernel), List.mem_of_getElem? (i := 595) (by decide +kernel)⟩
theorem lw_p33 : lw_okq (⟨"GuardVolumeModel", "listed", "(II)I"⟩, 20) := ⟨⟨by decide +kernel, by decide +kernel⟩, List.mem_of_getElem? (i := 486) (by decide +kernel), List.mem_of_getElem? (i := 598) (by decide +kernel), List.mem_of_getElem? (i := 599) (by decide +kernel)⟩
theorem lw_p34 : lw_okq (⟨"GuardVolumeModel", "takeWords", "(II)V"⟩, 20) := ⟨⟨by decide +kernel, by decide +kernel⟩, List.mem_of_getElem? (i := 486) (by decide +kernel), List.mem_of_getElem? (i := 602) (by decide +kernel), List.mem_of_getElem? (i := 603) (by decide +kernel)⟩
theorem lw_p35 : lw_okq (⟨"GuardVolumeModel", "put", "(II)Z"⟩, 20) := ⟨⟨by decide +kernel, by decide +kernel⟩, List.mem_of_getElem? (i := 486) (by decide +kernel), List.mem_of_getElem? (i := 606) (by decide +kernel), List.mem_of_getElem? (i := 607) (by decide +kernel)⟩
theorem lw_p36 : lw_okq (⟨"GuardVolumeModel", "putCopy", "(III)Z"⟩, 20) := ⟨⟨by decide +kernel, by decide +kernel⟩, List.mem_of_getElem? (i := 486) (by decide +kernel), List.mem_of_getElem? (i := 610) (by decide +kernel), List.mem_of_getElem? (i := 611) (by decide +kernel)⟩
theorem lw_p37 : lw_okq (⟨"GuardVolumeModel", "storeRow", "(III)Z"⟩, 20) := ⟨⟨by decide +kernel, by decide +kernel⟩, List.mem_of_getElem? (i := 486) (by decide +kernel), List.mem_of_getElem? (i := 614) (by decide +kernel), List.mem_of_getElem? (i := 615) (by decide +kernel)⟩
theorem lw_p38 : lw_okq (⟨"GuardVolumeModel", "store", "(III)Z"⟩, 20) := ⟨⟨by decide +kernel, by decide +kernel⟩, List.mem_of_getElem? (i := 486) (by decide +kernel), List.mem_of_getElem? (i := 618) (by decide +kernel), List.mem_of_getElem? (i := 619) (by decide +kernel)⟩
theorem lw_p39 : lw_okq (⟨"GuardVolumeModel", "planOf", "(I)I"⟩, 20) := ⟨⟨by decide +kernel, by decide +kernel⟩, List.mem_of_getElem? (i := 486) (by decide +kernel), List.mem_of_getElem? (i := 622) (by decide +kernel), List.mem_of_getElem? (i := 623) (by decide +kernel)⟩
theorem lw_p40 : lw_okq (⟨"GuardVolumeModel", "lay", "(III)V"⟩, 20) := ⟨⟨by decide +kernel, by decide +kernel⟩, List.mem_of_getElem? (i := 486) (by decide +kernel), List.mem_of_getElem? (i := 626) (by decide +kernel), List.mem_of_getElem? (i := 627) (by decide +kernel)⟩
theorem lw_p41 : lw_okq (⟨"GuardVolumeModel", "dropPlan", "(II)V"⟩, 20) := ⟨⟨by decide +kernel, by decide +kernel⟩, List.mem_of_getElem? (i := 486) (by decide +kernel), List.mem_of_getElem? (i := 630) (by decide +kernel), List.mem_of_getElem? (i := 631) (by decide +kernel)⟩
theorem lw_p42 : lw_okq (⟨"GuardVolumeModel", "storeList", "(III)Z"⟩, 20) := ⟨⟨by decide +kernel, by decide +kernel⟩, List.mem_of_getElem? (i := 486) (by decide +kernel), List.mem_of_getElem? (i := 634) (by decide +kernel), List.mem_of_getElem? (i := 635) (by decide +kernel)⟩
theorem lw_p43 : lw_okq (⟨"GuardVolumeModel", "scrubOf", "(I)Z"⟩, 20) := ⟨⟨by decide +kernel, by decide +kernel⟩, List.mem_of_getElem? (i := 486) (by decide +kernel), List.mem_of_getElem? (i := 662) (by decide +kernel), List.mem_of_getElem? (i := 663) (by decide +kernel)⟩
theorem lw_p44 : lw_okq (⟨"GuardVolumeModel", "find", "(IIII)V"⟩, 20) := ⟨⟨by decide +kernel, by decide +kernel⟩, List.mem_of_getElem? (i := 486) (by decide +kernel), List.mem_of_getElem? (i := 666) (by decide +kernel), List.mem_of_getElem? (i := 667) (by decide +kernel)⟩
def lw_privs_3 : List (MethodName × Nat) := [(⟨"GuardVolumeModel", "expectedOf", "(II)I"⟩, 20), (⟨"GuardVolumeModel", "listed", "(II)I"⟩, 20), (⟨"GuardVolumeModel", "takeWords", "(II)V"⟩, 20), (⟨"GuardVolumeModel", "put", "(II)Z"⟩, 20), (⟨"GuardVolumeModel", "putCopy", "(III)Z"⟩, 20), (⟨"GuardVolumeModel", "storeRow", "(III)Z"⟩, 20), (⟨"GuardVolumeModel", "store", "(III)Z"⟩, 20), (⟨"GuardVolumeModel", "planOf", "(I)I"⟩, 20), (⟨"GuardVolumeModel", "lay", "(III)V"⟩, 20), (⟨"GuardVolumeModel", "dropPlan", "(II)V"⟩, 20), (⟨"GuardVolumeModel", "storeList", "(III)Z"⟩, 20), (⟨"GuardVolumeModel", "scrubOf", "(I)Z"⟩, 20), (⟨"GuardVolumeModel", "find", "(IIII)V"⟩, 20)]
theorem lw_r3 : ∀ q ∈ lw_privs_3, lw_okq q := List.forall_mem_cons.mpr ⟨lw_p32, List.forall_mem_cons.mpr ⟨lw_p33, List.forall_mem_cons.mpr ⟨lw_p34, List.forall_mem_cons.mpr ⟨lw_p35, List.forall_mem_cons.mpr ⟨lw_p36, List.forall_mem_cons.mpr ⟨lw_p37, List.forall_mem_cons.mpr ⟨lw_p38, List.forall_mem_cons.mpr ⟨lw_p39, List.forall_mem_cons.mpr ⟨lw_p40, List.forall_mem_cons.mpr ⟨lw_p41, List.forall_mem_cons.mpr ⟨lw_p42, List.forall_mem_cons.mpr ⟨lw_p43, List.forall_mem_cons.mpr ⟨lw_p44, fun _ h => absurd h List.not_mem_nil⟩⟩⟩⟩⟩⟩⟩⟩⟩⟩⟩⟩⟩
def lw_privs : List (MethodName × Nat) := lw_privs_1 ++ (lw_privs_2 ++ (lw_privs_3))
def lw_tbl : List Cond := k2_sels lw_privs ++ tables_1
theorem lw_privs_ok : ∀ q ∈ lw_privs, lw_okq q := by
  show ∀ q ∈ lw_privs_1 ++ (lw_privs_2 ++ (lw_privs_3)), lw_okq q
  exact List.forall_mem_append.mpr ⟨lw_r1, List.forall_mem_append.mpr ⟨lw_r2, lw_r3⟩⟩
end
section
/-! names of the claim: classes, fields, methods (written by names.py) -/
abbrev RD : String := "GuardVolume$Drive"
def TD : u_T := fun k => match k with
  | 0 => ("GuardVolume$Drive", "numbers", "[I", true)
  | 1 => ("GuardVolume$Drive", "planWrite", "[I", true)
  | 2 => ("GuardVolume$Drive", "planKind", "[I", true)
  | 3 => ("GuardVolume$Drive", "planX", "[I", true)
  | 4 => ("GuardVolume$Drive", "plans", "I", false)
  | _ => ("GuardVolume$Drive", "writes", "I", false)
def tD : Nat → FieldType := fun k => match k with
  | 0 => .array .int
  | 1 => .array .int
  | 2 => .array .int
  | 3 => .array .int
  | 4 => .int
  | _ => .int
theorem nD : ∀ a, a < 6 → ∀ b, b < 6 → a ≠ b → (TD a).2.1 ≠ (TD b).2.1 := by decide +kernel
theorem tD_ok : ∀ k, k < 6 → parseFieldDescriptor (TD k).2.2.1 = some (tD k) := by decide +kernel
abbrev RF : String := "GuardVolume$Findings"
def TF : u_T := fun k => match k with
  | 0 => ("GuardVolume$Findings", "numbers", "[I", true)
  | 1 => ("GuardVolume$Findings", "kept", "I", false)
  | _ => ("GuardVolume$Findings", "told", "I", false)
def tF : Nat → FieldType := fun k => match k with
  | 0 => .array .int
  | 1 => .int
  | _ => .int
theorem nF : ∀ a, a < 3 → ∀ b, b < 3 → a ≠ b → (TF a).2.1 ≠ (TF b).2.1 := by decide +kernel
theorem tF_ok : ∀ k, k < 3 → parseFieldDescriptor (TF k).2.2.1 = some (tF k) := by decide +kernel
abbrev RJ : String := "GuardVolume$Journal"
def TJ : u_T := fun k => match k with
  | 0 => ("GuardVolume$Journal", "words", "[I", true)
  | 1 => ("GuardVolume$Journal", "block", "I", false)
  | _ => ("GuardVolume$Journal", "version", "I", false)
def tJ : Nat → FieldType := fun k => match k with
  | 0 => .array .int
  | 1 => .int
  | _ => .int
theorem nJ : ∀ a, a < 3 → ∀ b, b < 3 → a ≠ b → (TJ a).2.1 ≠ (TJ b).2.1 := by decide +kernel
theorem tJ_ok : ∀ k, k < 3 → parseFieldDescriptor (TJ k).2.2.1 = some (tJ k) := by decide +kernel
abbrev RP : String := "GuardVolume$Power"
def TP : u_T := fun k => match k with
  | 0 => ("GuardVolume$Power", "on", "Z", false)
  | _ => ("GuardVolume$Power", "writesLeft", "I", false)
def tP : Nat → FieldType := fun k => match k with
  | 0 => .boolean
  | _ => .int
theorem nP : ∀ a, a < 2 → ∀ b, b < 2 → a ≠ b → (TP a).2.1 ≠ (TP b).2.1 := by decide +kernel
theorem tP_ok : ∀ k, k < 2 → parseFieldDescriptor (TP k).2.2.1 = some (tP k) := by decide +kernel
abbrev RG : String := "GuardVolume"
def TG : u_T := fun k => match k with
  | 0 => ("GuardVolume", "drive0", "LGuardVolume$Drive;", true)
  | 1 => ("GuardVolume", "drive1", "LGuardVolume$Drive;", true)
  | 2 => ("GuardVolume", "power", "LGuardVolume$Power;", true)
  | 3 => ("GuardVolume", "journal", "LGuardVolume$Journal;", true)
  | 4 => ("GuardVolume", "found", "LGuardVolume$Findings;", true)
  | 5 => ("GuardVolume", "memory", "[I", true)
  | 6 => ("GuardVolume", "lastCode", "I", false)
  | 7 => ("GuardVolume", "nextScrubbed", "I", false)
  | 8 => ("GuardVolume", "row", "[I", true)
  | 9 => ("GuardVolume", "listWords", "[I", true)
  | _ => ("GuardVolume", "copyWords", "[I", true)
def tG : Nat → FieldType := fun k => match k with
  | 0 => .object "GuardVolume$Drive"
  | 1 => .object "GuardVolume$Drive"
  | 2 => .object "GuardVolume$Power"
  | 3 => .object "GuardVolume$Journal"
  | 4 => .object "GuardVolume$Findings"
  | 5 => .array .int
  | 6 => .int
  | 7 => .int
  | 8 => .array .int
  | 9 => .array .int
  | _ => .array .int
theorem nG : ∀ a, a < 11 → ∀ b, b < 11 → a ≠ b → (TG a).2.1 ≠ (TG b).2.1 := by decide +kernel
theorem tG_ok : ∀ k, k < 11 → parseFieldDescriptor (TG k).2.2.1 = some (tG k) := by decide +kernel
abbrev RM : String := "GuardVolumeModel"
def TM : u_T := fun k => match k with
  | 0 => ("GuardVolumeModel", "thrown", "I", false)
  | 1 => ("GuardVolumeModel", "drives", "[I", true)
  | 2 => ("GuardVolumeModel", "memory", "[I", true)
  | 3 => ("GuardVolumeModel", "journal", "I", false)
  | 4 => ("GuardVolumeModel", "journalWords", "[I", true)
  | 5 => ("GuardVolumeModel", "journalVersion", "I", false)
  | 6 => ("GuardVolumeModel", "off", "Z", false)
  | 7 => ("GuardVolumeModel", "left", "I", false)
  | 8 => ("GuardVolumeModel", "writes", "[I", true)
  | 9 => ("GuardVolumeModel", "plans", "[I", true)
  | 10 => ("GuardVolumeModel", "planAt", "[I", true)
  | 11 => ("GuardVolumeModel", "planKind", "[I", true)
  | 12 => ("GuardVolumeModel", "planX", "[I", true)
  | 13 => ("GuardVolumeModel", "code", "I", false)
  | 14 => ("GuardVolumeModel", "nextScrub", "I", false)
  | 15 => ("GuardVolumeModel", "kept", "I", false)
  | 16 => ("GuardVolumeModel", "found", "I", false)
  | 17 => ("GuardVolumeModel", "findings", "[I", true)
  | 18 => ("GuardVolumeModel", "row", "[I", true)
  | _ => ("GuardVolumeModel", "words", "[I", true)
def tM : Nat → FieldType := fun k => match k with
  | 0 => .int
  | 1 => .array .int
  | 2 => .array .int
  | 3 => .int
  | 4 => .array .int
  | 5 => .int
  | 6 => .boolean
  | 7 => .int
  | 8 => .array .int
  | 9 => .array .int
  | 10 => .array .int
  | 11 => .array .int
  | 12 => .array .int
  | 13 => .int
  | 14 => .int
  | 15 => .int
  | 16 => .int
  | 17 => .array .int
  | 18 => .array .int
  | _ => .array .int
theorem nM : ∀ a, a < 20 → ∀ b, b < 20 → a ≠ b → (TM a).2.1 ≠ (TM b).2.1 := by decide +kernel
theorem tM_ok : ∀ k, k < 20 → parseFieldDescriptor (TM k).2.2.1 = some (tM k) := by decide +kernel
abbrev RL : String := "GuardVolumeLaw"
abbrev vCl : List vw_C := [(RD, TD, 6), (RF, TF, 3), (RJ, TJ, 3), (RP, TP, 2), (RG, TG, 11), (RM, TM, 20)]
abbrev cG_init : ByteArray := prog_1_method_1_code
def yG_init : MethodName := ⟨"GuardVolume", "<init>", "()V"⟩
abbrev cD_init : ByteArray := prog_2_method_1_code
def yD_init : MethodName := ⟨"GuardVolume$Drive", "<init>", "()V"⟩
abbrev cG_sumOf : ByteArray := prog_1_method_20_code
def yG_sumOf : MethodName := ⟨"GuardVolume", "sumOf", "([II)I"⟩
abbrev cP_init : ByteArray := prog_5_method_1_code
def yP_init : MethodName := ⟨"GuardVolume$Power", "<init>", "()V"⟩
abbrev cJ_init : ByteArray := prog_4_method_1_code
def yJ_init : MethodName := ⟨"GuardVolume$Journal", "<init>", "()V"⟩
abbrev cF_init : ByteArray := prog_3_method_1_code
def yF_init : MethodName := ⟨"GuardVolume$Findings", "<init>", "()V"⟩
abbrev cG_code : ByteArray := prog_1_method_4_code
def yG_code : MethodName := ⟨"GuardVolume", "code", "()I"⟩
abbrev cG_findings : ByteArray := prog_1_method_9_code
def yG_findings : MethodName := ⟨"GuardVolume", "findings", "(Z)I"⟩
abbrev cL_write : ByteArray := method_3_code
def yL_write : MethodName := ⟨"GuardVolumeLaw", "write", "(LGuardVolume;III[J)I"⟩
abbrev cG_write : ByteArray := prog_1_method_2_code
def yG_write : MethodName := ⟨"GuardVolume", "write", "(III)I"⟩
abbrev cG_isBelow : ByteArray := prog_1_method_18_code
def yG_isBelow : MethodName := ⟨"GuardVolume", "isBelow", "(II)Z"⟩
abbrev cG_goodCopy : ByteArray := prog_1_method_26_code
def yG_goodCopy : MethodName := ⟨"GuardVolume", "goodCopy", "(I)I"⟩
abbrev cG_judge : ByteArray := prog_1_method_25_code
def yG_judge : MethodName := ⟨"GuardVolume", "judge", "(II)I"⟩
abbrev cG_driveOf : ByteArray := prog_1_method_21_code
def yG_driveOf : MethodName := ⟨"GuardVolume", "driveOf", "(I)LGuardVolume$Drive;"⟩
abbrev cD_at : ByteArray := prog_2_method_2_code
def yD_at : MethodName := ⟨"GuardVolume$Drive", "at", "(II)I"⟩
abbrev cG_expectedVersion : ByteArray := prog_1_method_24_code
def yG_expectedVersion : MethodName := ⟨"GuardVolume", "expectedVersion", "(II)I"⟩
abbrev cG_listDrive : ByteArray := prog_1_method_23_code
def yG_listDrive : MethodName := ⟨"GuardVolume", "listDrive", "(II)I"⟩
abbrev cG_isPageRight : ByteArray := prog_1_method_22_code
def yG_isPageRight : MethodName := ⟨"GuardVolume", "isPageRight", "(II)Z"⟩
abbrev cG_codeOf : ByteArray := prog_1_method_27_code
def yG_codeOf : MethodName := ⟨"GuardVolume", "codeOf", "(I)I"⟩
abbrev cD_giveWords : ByteArray := prog_2_method_3_code
def yD_giveWords : MethodName := ⟨"GuardVolume$Drive", "giveWords", "(I[I)V"⟩
abbrev cG_putNotedBlock : ByteArray := prog_1_method_31_code
def yG_putNotedBlock : MethodName := ⟨"GuardVolume", "putNotedBlock", "()Z"⟩
abbrev cG_putCopy : ByteArray := prog_1_method_30_code
def yG_putCopy : MethodName := ⟨"GuardVolume", "putCopy", "(II[II)Z"⟩
abbrev cG_store : ByteArray := prog_1_method_28_code
def yG_store : MethodName := ⟨"GuardVolume", "store", "(II[II)Z"⟩
abbrev cP_allowsWrite : ByteArray := prog_5_method_2_code
def yP_allowsWrite : MethodName := ⟨"GuardVolume$Power", "allowsWrite", "()Z"⟩
abbrev cD_take : ByteArray := prog_2_method_8_code
def yD_take : MethodName := ⟨"GuardVolume$Drive", "take", "(I[I)V"⟩
abbrev cD_planOfNext : ByteArray := prog_2_method_5_code
def yD_planOfNext : MethodName := ⟨"GuardVolume$Drive", "planOfNext", "(I)I"⟩
abbrev cD_keep : ByteArray := prog_2_method_9_code
def yD_keep : MethodName := ⟨"GuardVolume$Drive", "keep", "(I[II)V"⟩
abbrev cD_removePlan : ByteArray := prog_2_method_7_code
def yD_removePlan : MethodName := ⟨"GuardVolume$Drive", "removePlan", "(I)V"⟩
abbrev cG_storeList : ByteArray := prog_1_method_29_code
def yG_storeList : MethodName := ⟨"GuardVolume", "storeList", "(III)Z"⟩
abbrev cAf_fill : ByteArray := prog_17_method_103_code
def yAf_fill : MethodName := ⟨"java/util/Arrays", "fill", "([II)V"⟩
abbrev cL_read : ByteArray := method_4_code
def yL_read : MethodName := ⟨"GuardVolumeLaw", "read", "(LGuardVolume;II[J)I"⟩
abbrev cG_read : ByteArray := prog_1_method_3_code
def yG_read : MethodName := ⟨"GuardVolume", "read", "(II)I"⟩
abbrev cL_plan : ByteArray := method_5_code
def yL_plan : MethodName := ⟨"GuardVolumeLaw", "plan", "(LGuardVolume;IIII)I"⟩
abbrev cG_plan : ByteArray := prog_1_method_5_code
def yG_plan : MethodName := ⟨"GuardVolume", "plan", "(IIII)V"⟩
abbrev cG_isPlan : ByteArray := prog_1_method_19_code
def yG_isPlan : MethodName := ⟨"GuardVolume", "isPlan", "(II)Z"⟩
abbrev cD_addPlan : ByteArray := prog_2_method_6_code
def yD_addPlan : MethodName := ⟨"GuardVolume$Drive", "addPlan", "(III)V"⟩
abbrev cL_cutAfter : ByteArray := method_6_code
def yL_cutAfter : MethodName := ⟨"GuardVolumeLaw", "cutAfter", "(LGuardVolume;I)I"⟩
abbrev cG_cutAfter : ByteArray := prog_1_method_6_code
def yG_cutAfter : MethodName := ⟨"GuardVolume", "cutAfter", "(I)V"⟩
abbrev cL_start : ByteArray := method_7_code
def yL_start : MethodName := ⟨"GuardVolumeLaw", "start", "(LGuardVolume;[J)I"⟩
abbrev cG_start : ByteArray := prog_1_method_7_code
def yG_start : MethodName := ⟨"GuardVolume", "start", "()I"⟩
abbrev cL_scrub : ByteArray := method_8_code
def yL_scrub : MethodName := ⟨"GuardVolumeLaw", "scrub", "(LGuardVolume;I[J)I"⟩
abbrev cG_scrub : ByteArray := prog_1_method_8_code
def yG_scrub : MethodName := ⟨"GuardVolume", "scrub", "(I)I"⟩
abbrev cG_scrubBlock : ByteArray := prog_1_method_32_code
def yG_scrubBlock : MethodName := ⟨"GuardVolume", "scrubBlock", "(I)Z"⟩
abbrev cG_mendList : ByteArray := prog_1_method_33_code
def yG_mendList : MethodName := ⟨"GuardVolume", "mendList", "(II)Z"⟩
abbrev cF_tell : ByteArray := prog_3_method_2_code
def yF_tell : MethodName := ⟨"GuardVolume$Findings", "tell", "(IIII)V"⟩
abbrev cG_mendCopies : ByteArray := prog_1_method_34_code
def yG_mendCopies : MethodName := ⟨"GuardVolume", "mendCopies", "(I)Z"⟩
abbrev cL_finding : ByteArray := method_9_code
def yL_finding : MethodName := ⟨"GuardVolumeLaw", "finding", "(LGuardVolume;II[J)I"⟩
abbrev cG_finding : ByteArray := prog_1_method_10_code
def yG_finding : MethodName := ⟨"GuardVolume", "finding", "(II)I"⟩
abbrev cL_expected : ByteArray := method_10_code
def yL_expected : MethodName := ⟨"GuardVolumeLaw", "expected", "(LGuardVolume;II[J)I"⟩
abbrev cG_expected : ByteArray := prog_1_method_11_code
def yG_expected : MethodName := ⟨"GuardVolume", "expected", "(II)I"⟩
abbrev cL_verdict : ByteArray := method_11_code
def yL_verdict : MethodName := ⟨"GuardVolumeLaw", "verdict", "(LGuardVolume;II[J)I"⟩
abbrev cG_verdict : ByteArray := prog_1_method_12_code
def yG_verdict : MethodName := ⟨"GuardVolume", "verdict", "(II)I"⟩
abbrev cL_isRight : ByteArray := method_12_code
def yL_isRight : MethodName := ⟨"GuardVolumeLaw", "isRight", "(LGuardVolume;II[J)I"⟩
abbrev cG_isRight : ByteArray := prog_1_method_13_code
def yG_isRight : MethodName := ⟨"GuardVolume", "isRight", "(II)Z"⟩
abbrev cL_raw : ByteArray := method_13_code
def yL_raw : MethodName := ⟨"GuardVolumeLaw", "raw", "(LGuardVolume;III[J)I"⟩
abbrev cG_raw : ByteArray := prog_1_method_14_code
def yG_raw : MethodName := ⟨"GuardVolume", "raw", "(III)I"⟩
abbrev cL_replace : ByteArray := method_14_code
def yL_replace : MethodName := ⟨"GuardVolumeLaw", "replace", "(LGuardVolume;I)I"⟩
abbrev cG_replace : ByteArray := prog_1_method_15_code
def yG_replace : MethodName := ⟨"GuardVolume", "replace", "(I)V"⟩
abbrev cD_wipe : ByteArray := prog_2_method_4_code
def yD_wipe : MethodName := ⟨"GuardVolume$Drive", "wipe", "()V"⟩
abbrev cL_rebuild : ByteArray := method_15_code
def yL_rebuild : MethodName := ⟨"GuardVolumeLaw", "rebuild", "(LGuardVolume;I[J)I"⟩
abbrev cG_rebuild : ByteArray := prog_1_method_16_code
def yG_rebuild : MethodName := ⟨"GuardVolume", "rebuild", "(I)I"⟩
abbrev cG_rebuildBlock : ByteArray := prog_1_method_35_code
def yG_rebuildBlock : MethodName := ⟨"GuardVolume", "rebuildBlock", "(III)Z"⟩
abbrev cL_count : ByteArray := method_16_code
def yL_count : MethodName := ⟨"GuardVolumeLaw", "count", "(LGuardVolume;I[J)I"⟩
abbrev cG_count : ByteArray := prog_1_method_17_code
def yG_count : MethodName := ⟨"GuardVolume", "count", "(I)I"⟩
abbrev cG_greatestPageVersion : ByteArray := prog_1_method_36_code
def yG_greatestPageVersion : MethodName := ⟨"GuardVolume", "greatestPageVersion", "()I"⟩
abbrev cMx_max : ByteArray := prog_12_method_65_code
def yMx_max : MethodName := ⟨"java/lang/Math", "max", "(II)I"⟩
abbrev cM_init : ByteArray := prog_7_method_1_code
def yM_init : MethodName := ⟨"GuardVolumeModel", "<init>", "()V"⟩
abbrev cM_place : ByteArray := prog_7_method_3_code
def yM_place : MethodName := ⟨"GuardVolumeModel", "place", "(II)I"⟩
abbrev cM_sumAt : ByteArray := prog_7_method_5_code
def yM_sumAt : MethodName := ⟨"GuardVolumeModel", "sumAt", "(I)I"⟩
abbrev cM_mix : ByteArray := prog_7_method_4_code
def yM_mix : MethodName := ⟨"GuardVolumeModel", "mix", "(II)I"⟩
abbrev cM_thrown : ByteArray := prog_7_method_2_code
def yM_thrown : MethodName := ⟨"GuardVolumeModel", "thrown", "()I"⟩
abbrev cM_write : ByteArray := prog_7_method_23_code
def yM_write : MethodName := ⟨"GuardVolumeModel", "write", "(III)I"⟩
abbrev cM_in : ByteArray := prog_7_method_21_code
def yM_in : MethodName := ⟨"GuardVolumeModel", "in", "(II)Z"⟩
abbrev cM_codeOf : ByteArray := prog_7_method_22_code
def yM_codeOf : MethodName := ⟨"GuardVolumeModel", "codeOf", "(I)I"⟩
abbrev cM_verdictOf : ByteArray := prog_7_method_11_code
def yM_verdictOf : MethodName := ⟨"GuardVolumeModel", "verdictOf", "(II)I"⟩
abbrev cM_isWhole : ByteArray := prog_7_method_6_code
def yM_isWhole : MethodName := ⟨"GuardVolumeModel", "isWhole", "(II)Z"⟩
abbrev cM_isUnknown : ByteArray := prog_7_method_10_code
def yM_isUnknown : MethodName := ⟨"GuardVolumeModel", "isUnknown", "(II)Z"⟩
abbrev cM_isRightPage : ByteArray := prog_7_method_7_code
def yM_isRightPage : MethodName := ⟨"GuardVolumeModel", "isRightPage", "(II)Z"⟩
abbrev cM_expectedOf : ByteArray := prog_7_method_9_code
def yM_expectedOf : MethodName := ⟨"GuardVolumeModel", "expectedOf", "(II)I"⟩
abbrev cM_listed : ByteArray := prog_7_method_8_code
def yM_listed : MethodName := ⟨"GuardVolumeModel", "listed", "(II)I"⟩
abbrev cM_takeWords : ByteArray := prog_7_method_17_code
def yM_takeWords : MethodName := ⟨"GuardVolumeModel", "takeWords", "(II)V"⟩
abbrev cM_put : ByteArray := prog_7_method_20_code
def yM_put : MethodName := ⟨"GuardVolumeModel", "put", "(II)Z"⟩
abbrev cM_putCopy : ByteArray := prog_7_method_19_code
def yM_putCopy : MethodName := ⟨"GuardVolumeModel", "putCopy", "(III)Z"⟩
abbrev cM_storeRow : ByteArray := prog_7_method_18_code
def yM_storeRow : MethodName := ⟨"GuardVolumeModel", "storeRow", "(III)Z"⟩
abbrev cM_store : ByteArray := prog_7_method_15_code
def yM_store : MethodName := ⟨"GuardVolumeModel", "store", "(III)Z"⟩
abbrev cM_planOf : ByteArray := prog_7_method_12_code
def yM_planOf : MethodName := ⟨"GuardVolumeModel", "planOf", "(I)I"⟩
abbrev cM_lay : ByteArray := prog_7_method_14_code
def yM_lay : MethodName := ⟨"GuardVolumeModel", "lay", "(III)V"⟩
abbrev cM_dropPlan : ByteArray := prog_7_method_13_code
def yM_dropPlan : MethodName := ⟨"GuardVolumeModel", "dropPlan", "(II)V"⟩
abbrev cM_storeList : ByteArray := prog_7_method_16_code
def yM_storeList : MethodName := ⟨"GuardVolumeModel", "storeList", "(III)Z"⟩
abbrev cM_read : ByteArray := prog_7_method_24_code
def yM_read : MethodName := ⟨"GuardVolumeModel", "read", "(II)I"⟩
abbrev cM_code : ByteArray := prog_7_method_25_code
def yM_code : MethodName := ⟨"GuardVolumeModel", "code", "()I"⟩
abbrev cM_plan : ByteArray := prog_7_method_26_code
def yM_plan : MethodName := ⟨"GuardVolumeModel", "plan", "(IIII)V"⟩
abbrev cM_cutAfter : ByteArray := prog_7_method_27_code
def yM_cutAfter : MethodName := ⟨"GuardVolumeModel", "cutAfter", "(I)V"⟩
abbrev cM_start : ByteArray := prog_7_method_28_code
def yM_start : MethodName := ⟨"GuardVolumeModel", "start", "()I"⟩
abbrev cM_scrub : ByteArray := prog_7_method_31_code
def yM_scrub : MethodName := ⟨"GuardVolumeModel", "scrub", "(I)I"⟩
abbrev cM_scrubOf : ByteArray := prog_7_method_30_code
def yM_scrubOf : MethodName := ⟨"GuardVolumeModel", "scrubOf", "(I)Z"⟩
abbrev cM_find : ByteArray := prog_7_method_29_code
def yM_find : MethodName := ⟨"GuardVolumeModel", "find", "(IIII)V"⟩
abbrev cM_findings : ByteArray := prog_7_method_32_code
def yM_findings : MethodName := ⟨"GuardVolumeModel", "findings", "(Z)I"⟩
abbrev cM_finding : ByteArray := prog_7_method_33_code
def yM_finding : MethodName := ⟨"GuardVolumeModel", "finding", "(II)I"⟩
abbrev cM_expected : ByteArray := prog_7_method_34_code
def yM_expected : MethodName := ⟨"GuardVolumeModel", "expected", "(II)I"⟩
abbrev cM_verdict : ByteArray := prog_7_method_35_code
def yM_verdict : MethodName := ⟨"GuardVolumeModel", "verdict", "(II)I"⟩
abbrev cM_isRight : ByteArray := prog_7_method_36_code
def yM_isRight : MethodName := ⟨"GuardVolumeModel", "isRight", "(II)Z"⟩
abbrev cM_raw : ByteArray := prog_7_method_37_code
def yM_raw : MethodName := ⟨"GuardVolumeModel", "raw", "(III)I"⟩
abbrev cM_replace : ByteArray := prog_7_method_38_code
def yM_replace : MethodName := ⟨"GuardVolumeModel", "replace", "(I)V"⟩
abbrev cM_rebuild : ByteArray := prog_7_method_39_code
def yM_rebuild : MethodName := ⟨"GuardVolumeModel", "rebuild", "(I)I"⟩
abbrev cM_count : ByteArray := prog_7_method_40_code
def yM_count : MethodName := ⟨"GuardVolumeModel", "count", "(I)I"⟩
abbrev cL_law : ByteArray := code
def yL_law : MethodName := ⟨"GuardVolumeLaw", "law", "([I)Z"⟩
end
section
/-! the good words of the tables in one list; each by its place (written by names.py) -/
def gW : List Cond := lw_tbl.filter goodWord
theorem gW_good : ∀ w ∈ gW, goodWord w = true := fun w h => (List.mem_filter.mp h).2
theorem gW_tbl : ∀ w ∈ gW, w ∈ lw_tbl := fun w h => (List.mem_filter.mp h).1
def isNe : Cond → Bool
  | .fieldLinkNest _ _ _ _ _ _ => true
  | .methodLinkNest _ _ _ _ => true
  | .castable _ _ => true
  | .declares _ => true
  | _ => false
def nW : List Cond := lw_tbl.filter isNe
theorem nW_of {w : Cond} {i : Nat} (h : tables_1[i]? = some w) (hg : isNe w = true) : w ∈ nW := List.mem_filter.mpr ⟨List.mem_append_right _ (List.mem_of_getElem? h), hg⟩
theorem gW_of {w : Cond} {i : Nat} (h : tables_1[i]? = some w) (hg : goodWord w = true) : w ∈ gW := List.mem_filter.mpr ⟨List.mem_append_right _ (List.mem_of_getElem? h), hg⟩
theorem kw_0 : (Jvm.Cond.initialized "GuardVolumeLaw") ∈ gW := gW_of (i := 0) (by decide +kernel) (by decide +kernel)
theorem kw_1 : (Jvm.Cond.initialized "GuardVolume") ∈ gW := gW_of (i := 1) (by decide +kernel) (by decide +kernel)
theorem kw_2 : (Jvm.Cond.initialized "GuardVolume$Drive") ∈ gW := gW_of (i := 2) (by decide +kernel) (by decide +kernel)
theorem kw_3 : (Jvm.Cond.initialized "java/lang/System") ∈ gW := gW_of (i := 3) (by decide +kernel) (by decide +kernel)
theorem kw_4 : (Jvm.Cond.initialized "GuardVolume$Power") ∈ gW := gW_of (i := 4) (by decide +kernel) (by decide +kernel)
theorem kw_5 : (Jvm.Cond.initialized "GuardVolume$Journal") ∈ gW := gW_of (i := 5) (by decide +kernel) (by decide +kernel)
theorem kw_6 : (Jvm.Cond.initialized "GuardVolume$Findings") ∈ gW := gW_of (i := 6) (by decide +kernel) (by decide +kernel)
theorem kw_7 : (Jvm.Cond.initialized "GuardVolumeModel") ∈ gW := gW_of (i := 7) (by decide +kernel) (by decide +kernel)
theorem kw_8 : (Jvm.Cond.initialized "java/lang/Throwable") ∈ gW := gW_of (i := 8) (by decide +kernel) (by decide +kernel)
theorem kw_9 : (Jvm.Cond.initialized "java/lang/Exception") ∈ gW := gW_of (i := 9) (by decide +kernel) (by decide +kernel)
theorem kw_10 : (Jvm.Cond.initialized "java/lang/RuntimeException") ∈ gW := gW_of (i := 10) (by decide +kernel) (by decide +kernel)
theorem kw_11 : (Jvm.Cond.initialized "java/lang/IndexOutOfBoundsException") ∈ gW := gW_of (i := 11) (by decide +kernel) (by decide +kernel)
theorem kw_12 : (Jvm.Cond.initialized "java/lang/IllegalStateException") ∈ gW := gW_of (i := 12) (by decide +kernel) (by decide +kernel)
theorem kw_13 : (Jvm.Cond.initialized "java/lang/UnsupportedOperationException") ∈ gW := gW_of (i := 13) (by decide +kernel) (by decide +kernel)
theorem kw_14 : (Jvm.Cond.initialized "java/util/Arrays") ∈ gW := gW_of (i := 14) (by decide +kernel) (by decide +kernel)
theorem kw_15 : (Jvm.Cond.initialized "java/lang/IllegalArgumentException") ∈ gW := gW_of (i := 15) (by decide +kernel) (by decide +kernel)
theorem kw_16 : (Jvm.Cond.initialized "java/lang/Math") ∈ gW := gW_of (i := 16) (by decide +kernel) (by decide +kernel)
theorem kw_17 : (Jvm.Cond.classLink "GuardVolumeLaw" (8 : Nat) "GuardVolume") ∈ gW := gW_of (i := 17) (by decide +kernel) (by decide +kernel)
theorem kw_18 : (Jvm.Cond.instantiable "GuardVolume" (11 : Nat)) ∈ gW := gW_of (i := 18) (by decide +kernel) (by decide +kernel)
theorem kw_19 : (Jvm.Cond.methodLink "GuardVolumeLaw" (66 : Nat) ({ cls := "GuardVolume", name := "<init>", desc := "()V" } : Jvm.MethodName)) ∈ gW := gW_of (i := 19) (by decide +kernel) (by decide +kernel)
theorem kw_20 : (Jvm.Cond.instanceMethod ({ cls := "GuardVolume", name := "<init>", desc := "()V" } : Jvm.MethodName)) ∈ gW := gW_of (i := 20) (by decide +kernel) (by decide +kernel)
theorem kw_21 : (Jvm.Cond.code ({ cls := "GuardVolume", name := "<init>", desc := "()V" } : Jvm.MethodName) prog_1_method_1_code (1 : Nat) (Option.none : Option Jvm.ClassFile.FieldType)) ∈ gW := gW_of (i := 21) (by decide +kernel) (by decide +kernel)
theorem kw_22 : (Jvm.Cond.methodLink "GuardVolume" (3 : Nat) ({ cls := "java/lang/Object", name := "<init>", desc := "()V" } : Jvm.MethodName)) ∈ gW := gW_of (i := 22) (by decide +kernel) (by decide +kernel)
theorem kw_23 : (Jvm.Cond.instanceMethod ({ cls := "java/lang/Object", name := "<init>", desc := "()V" } : Jvm.MethodName)) ∈ gW := gW_of (i := 23) (by decide +kernel) (by decide +kernel)
theorem kw_24 : (Jvm.Cond.code ({ cls := "java/lang/Object", name := "<init>", desc := "()V" } : Jvm.MethodName) object_method_1_code (1 : Nat) (Option.none : Option Jvm.ClassFile.FieldType)) ∈ gW := gW_of (i := 24) (by decide +kernel) (by decide +kernel)
theorem kw_25 : (Jvm.Cond.classLink "GuardVolume" (9 : Nat) "GuardVolume$Drive") ∈ gW := gW_of (i := 25) (by decide +kernel) (by decide +kernel)
theorem kw_26 : (Jvm.Cond.instantiable "GuardVolume$Drive" (6 : Nat)) ∈ gW := gW_of (i := 26) (by decide +kernel) (by decide +kernel)
theorem kn_27 : (Jvm.Cond.methodLinkNest "GuardVolume" (11 : Nat) ({ cls := "GuardVolume$Drive", name := "<init>", desc := "()V" } : Jvm.MethodName) "GuardVolume") ∈ nW := nW_of (i := 27) (by decide +kernel) rfl
theorem kw_28 : (Jvm.Cond.instanceMethod ({ cls := "GuardVolume$Drive", name := "<init>", desc := "()V" } : Jvm.MethodName)) ∈ gW := gW_of (i := 28) (by decide +kernel) (by decide +kernel)
theorem kw_29 : (Jvm.Cond.code ({ cls := "GuardVolume$Drive", name := "<init>", desc := "()V" } : Jvm.MethodName) prog_2_method_1_code (3 : Nat) (Option.none : Option Jvm.ClassFile.FieldType)) ∈ gW := gW_of (i := 29) (by decide +kernel) (by decide +kernel)
theorem kw_30 : (Jvm.Cond.methodLink "GuardVolume$Drive" (3 : Nat) ({ cls := "java/lang/Object", name := "<init>", desc := "()V" } : Jvm.MethodName)) ∈ gW := gW_of (i := 30) (by decide +kernel) (by decide +kernel)
theorem kn_31 : (Jvm.Cond.methodLinkNest "GuardVolume$Drive" (31 : Nat) ({ cls := "GuardVolume", name := "sumOf", desc := "([II)I" } : Jvm.MethodName) "GuardVolume") ∈ nW := nW_of (i := 31) (by decide +kernel) rfl
theorem kw_32 : (Jvm.Cond.static ({ cls := "GuardVolume", name := "sumOf", desc := "([II)I" } : Jvm.MethodName)) ∈ gW := gW_of (i := 32) (by decide +kernel) (by decide +kernel)
theorem kw_33 : (Jvm.Cond.code ({ cls := "GuardVolume", name := "sumOf", desc := "([II)I" } : Jvm.MethodName) prog_1_method_20_code (4 : Nat) (Option.some Jvm.ClassFile.FieldType.int)) ∈ gW := gW_of (i := 33) (by decide +kernel) (by decide +kernel)
theorem kw_34 : (Jvm.Cond.methodLink "GuardVolume$Drive" (35 : Nat) ({ cls := "java/lang/System", name := "arraycopy", desc := "(Ljava/lang/Object;ILjava/lang/Object;II)V" } : Jvm.MethodName)) ∈ gW := gW_of (i := 34) (by decide +kernel) (by decide +kernel)
theorem kw_35 : (Jvm.Cond.static ({ cls := "java/lang/System", name := "arraycopy", desc := "(Ljava/lang/Object;ILjava/lang/Object;II)V" } : Jvm.MethodName)) ∈ gW := gW_of (i := 35) (by decide +kernel) (by decide +kernel)
theorem kw_36 : (Jvm.Cond.native ({ cls := "java/lang/System", name := "arraycopy", desc := "(Ljava/lang/Object;ILjava/lang/Object;II)V" } : Jvm.MethodName)) ∈ gW := gW_of (i := 36) (by decide +kernel) (by decide +kernel)
theorem kw_37 : (Jvm.Cond.fieldLink "GuardVolume$Drive" (9 : Nat) "GuardVolume$Drive" "numbers" "[I") ∈ gW := gW_of (i := 37) (by decide +kernel) (by decide +kernel)
theorem kn_38 : (Jvm.Cond.fieldLinkNest "GuardVolume" (164 : Nat) "GuardVolume$Drive" "numbers" "[I" "GuardVolume") ∈ nW := nW_of (i := 38) (by decide +kernel) rfl
theorem kw_39 : (Jvm.Cond.fieldLink "GuardVolume$Drive" (15 : Nat) "GuardVolume$Drive" "planWrite" "[I") ∈ gW := gW_of (i := 39) (by decide +kernel) (by decide +kernel)
theorem kw_40 : (Jvm.Cond.fieldLink "GuardVolume$Drive" (18 : Nat) "GuardVolume$Drive" "planKind" "[I") ∈ gW := gW_of (i := 40) (by decide +kernel) (by decide +kernel)
theorem kw_41 : (Jvm.Cond.fieldLink "GuardVolume$Drive" (21 : Nat) "GuardVolume$Drive" "planX" "[I") ∈ gW := gW_of (i := 41) (by decide +kernel) (by decide +kernel)
theorem kw_42 : (Jvm.Cond.fieldLink "GuardVolume$Drive" (24 : Nat) "GuardVolume$Drive" "plans" "I") ∈ gW := gW_of (i := 42) (by decide +kernel) (by decide +kernel)
theorem kn_43 : (Jvm.Cond.fieldLinkNest "GuardVolume" (118 : Nat) "GuardVolume$Drive" "plans" "I" "GuardVolume") ∈ nW := nW_of (i := 43) (by decide +kernel) rfl
theorem kw_44 : (Jvm.Cond.fieldLink "GuardVolume$Drive" (28 : Nat) "GuardVolume$Drive" "writes" "I") ∈ gW := gW_of (i := 44) (by decide +kernel) (by decide +kernel)
theorem kn_45 : (Jvm.Cond.fieldLinkNest "GuardVolume" (128 : Nat) "GuardVolume$Drive" "writes" "I" "GuardVolume") ∈ nW := nW_of (i := 45) (by decide +kernel) rfl
theorem kw_46 : (Jvm.Cond.laysFinal "GuardVolume$Drive" "GuardVolume$Drive" "numbers" "[I") ∈ gW := gW_of (i := 46) (by decide +kernel) (by decide +kernel)
theorem kw_47 : (Jvm.Cond.soleField "GuardVolume$Drive" "numbers") ∈ gW := gW_of (i := 47) (by decide +kernel) (by decide +kernel)
theorem kw_48 : (Jvm.Cond.laysFinal "GuardVolume$Drive" "GuardVolume$Drive" "planWrite" "[I") ∈ gW := gW_of (i := 48) (by decide +kernel) (by decide +kernel)
theorem kw_49 : (Jvm.Cond.soleField "GuardVolume$Drive" "planWrite") ∈ gW := gW_of (i := 49) (by decide +kernel) (by decide +kernel)
theorem kw_50 : (Jvm.Cond.laysFinal "GuardVolume$Drive" "GuardVolume$Drive" "planKind" "[I") ∈ gW := gW_of (i := 50) (by decide +kernel) (by decide +kernel)
theorem kw_51 : (Jvm.Cond.soleField "GuardVolume$Drive" "planKind") ∈ gW := gW_of (i := 51) (by decide +kernel) (by decide +kernel)
theorem kw_52 : (Jvm.Cond.laysFinal "GuardVolume$Drive" "GuardVolume$Drive" "planX" "[I") ∈ gW := gW_of (i := 52) (by decide +kernel) (by decide +kernel)
theorem kw_53 : (Jvm.Cond.soleField "GuardVolume$Drive" "planX") ∈ gW := gW_of (i := 53) (by decide +kernel) (by decide +kernel)
theorem kw_54 : (Jvm.Cond.lays "GuardVolume$Drive" "GuardVolume$Drive" "plans" "I") ∈ gW := gW_of (i := 54) (by decide +kernel) (by decide +kernel)
theorem kw_55 : (Jvm.Cond.soleField "GuardVolume$Drive" "plans") ∈ gW := gW_of (i := 55) (by decide +kernel) (by decide +kernel)
theorem kw_56 : (Jvm.Cond.lays "GuardVolume$Drive" "GuardVolume$Drive" "writes" "I") ∈ gW := gW_of (i := 56) (by decide +kernel) (by decide +kernel)
theorem kw_57 : (Jvm.Cond.soleField "GuardVolume$Drive" "writes") ∈ gW := gW_of (i := 57) (by decide +kernel) (by decide +kernel)
theorem kw_58 : (Jvm.Cond.superclass "GuardVolume$Drive" "java/lang/Object") ∈ gW := gW_of (i := 58) (by decide +kernel) (by decide +kernel)
theorem kw_59 : (Jvm.Cond.arrayClass Jvm.ClassFile.FieldType.int) ∈ gW := gW_of (i := 59) (by decide +kernel) (by decide +kernel)
theorem kw_60 : (Jvm.Cond.classLink "GuardVolume" (19 : Nat) "GuardVolume$Power") ∈ gW := gW_of (i := 60) (by decide +kernel) (by decide +kernel)
theorem kw_61 : (Jvm.Cond.instantiable "GuardVolume$Power" (2 : Nat)) ∈ gW := gW_of (i := 61) (by decide +kernel) (by decide +kernel)
theorem kn_62 : (Jvm.Cond.methodLinkNest "GuardVolume" (21 : Nat) ({ cls := "GuardVolume$Power", name := "<init>", desc := "()V" } : Jvm.MethodName) "GuardVolume") ∈ nW := nW_of (i := 62) (by decide +kernel) rfl
theorem kw_63 : (Jvm.Cond.instanceMethod ({ cls := "GuardVolume$Power", name := "<init>", desc := "()V" } : Jvm.MethodName)) ∈ gW := gW_of (i := 63) (by decide +kernel) (by decide +kernel)
theorem kw_64 : (Jvm.Cond.code ({ cls := "GuardVolume$Power", name := "<init>", desc := "()V" } : Jvm.MethodName) prog_5_method_1_code (1 : Nat) (Option.none : Option Jvm.ClassFile.FieldType)) ∈ gW := gW_of (i := 64) (by decide +kernel) (by decide +kernel)
theorem kw_65 : (Jvm.Cond.methodLink "GuardVolume$Power" (1 : Nat) ({ cls := "java/lang/Object", name := "<init>", desc := "()V" } : Jvm.MethodName)) ∈ gW := gW_of (i := 65) (by decide +kernel) (by decide +kernel)
theorem kw_66 : (Jvm.Cond.fieldLink "GuardVolume$Power" (7 : Nat) "GuardVolume$Power" "on" "Z") ∈ gW := gW_of (i := 66) (by decide +kernel) (by decide +kernel)
theorem kn_67 : (Jvm.Cond.fieldLinkNest "GuardVolume" (67 : Nat) "GuardVolume$Power" "on" "Z" "GuardVolume") ∈ nW := nW_of (i := 67) (by decide +kernel) rfl
theorem kw_68 : (Jvm.Cond.fieldLink "GuardVolume$Power" (13 : Nat) "GuardVolume$Power" "writesLeft" "I") ∈ gW := gW_of (i := 68) (by decide +kernel) (by decide +kernel)
theorem kn_69 : (Jvm.Cond.fieldLinkNest "GuardVolume" (125 : Nat) "GuardVolume$Power" "writesLeft" "I" "GuardVolume") ∈ nW := nW_of (i := 69) (by decide +kernel) rfl
theorem kw_70 : (Jvm.Cond.lays "GuardVolume$Power" "GuardVolume$Power" "on" "Z") ∈ gW := gW_of (i := 70) (by decide +kernel) (by decide +kernel)
theorem kw_71 : (Jvm.Cond.soleField "GuardVolume$Power" "on") ∈ gW := gW_of (i := 71) (by decide +kernel) (by decide +kernel)
theorem kw_72 : (Jvm.Cond.lays "GuardVolume$Power" "GuardVolume$Power" "writesLeft" "I") ∈ gW := gW_of (i := 72) (by decide +kernel) (by decide +kernel)
theorem kw_73 : (Jvm.Cond.soleField "GuardVolume$Power" "writesLeft") ∈ gW := gW_of (i := 73) (by decide +kernel) (by decide +kernel)
theorem kw_74 : (Jvm.Cond.superclass "GuardVolume$Power" "java/lang/Object") ∈ gW := gW_of (i := 74) (by decide +kernel) (by decide +kernel)
theorem kw_75 : (Jvm.Cond.classLink "GuardVolume" (26 : Nat) "GuardVolume$Journal") ∈ gW := gW_of (i := 75) (by decide +kernel) (by decide +kernel)
theorem kw_76 : (Jvm.Cond.instantiable "GuardVolume$Journal" (3 : Nat)) ∈ gW := gW_of (i := 76) (by decide +kernel) (by decide +kernel)
theorem kn_77 : (Jvm.Cond.methodLinkNest "GuardVolume" (28 : Nat) ({ cls := "GuardVolume$Journal", name := "<init>", desc := "()V" } : Jvm.MethodName) "GuardVolume") ∈ nW := nW_of (i := 77) (by decide +kernel) rfl
theorem kw_78 : (Jvm.Cond.instanceMethod ({ cls := "GuardVolume$Journal", name := "<init>", desc := "()V" } : Jvm.MethodName)) ∈ gW := gW_of (i := 78) (by decide +kernel) (by decide +kernel)
theorem kw_79 : (Jvm.Cond.code ({ cls := "GuardVolume$Journal", name := "<init>", desc := "()V" } : Jvm.MethodName) prog_4_method_1_code (1 : Nat) (Option.none : Option Jvm.ClassFile.FieldType)) ∈ gW := gW_of (i := 79) (by decide +kernel) (by decide +kernel)
theorem kw_80 : (Jvm.Cond.methodLink "GuardVolume$Journal" (3 : Nat) ({ cls := "java/lang/Object", name := "<init>", desc := "()V" } : Jvm.MethodName)) ∈ gW := gW_of (i := 80) (by decide +kernel) (by decide +kernel)
theorem kw_81 : (Jvm.Cond.fieldLink "GuardVolume$Journal" (9 : Nat) "GuardVolume$Journal" "words" "[I") ∈ gW := gW_of (i := 81) (by decide +kernel) (by decide +kernel)
theorem kn_82 : (Jvm.Cond.fieldLinkNest "GuardVolume" (92 : Nat) "GuardVolume$Journal" "words" "[I" "GuardVolume") ∈ nW := nW_of (i := 82) (by decide +kernel) rfl
theorem kw_83 : (Jvm.Cond.fieldLink "GuardVolume$Journal" (15 : Nat) "GuardVolume$Journal" "block" "I") ∈ gW := gW_of (i := 83) (by decide +kernel) (by decide +kernel)
theorem kn_84 : (Jvm.Cond.fieldLinkNest "GuardVolume" (102 : Nat) "GuardVolume$Journal" "block" "I" "GuardVolume") ∈ nW := nW_of (i := 84) (by decide +kernel) rfl
theorem kw_85 : (Jvm.Cond.fieldLink "GuardVolume$Journal" (19 : Nat) "GuardVolume$Journal" "version" "I") ∈ gW := gW_of (i := 85) (by decide +kernel) (by decide +kernel)
theorem kn_86 : (Jvm.Cond.fieldLinkNest "GuardVolume" (99 : Nat) "GuardVolume$Journal" "version" "I" "GuardVolume") ∈ nW := nW_of (i := 86) (by decide +kernel) rfl
theorem kw_87 : (Jvm.Cond.laysFinal "GuardVolume$Journal" "GuardVolume$Journal" "words" "[I") ∈ gW := gW_of (i := 87) (by decide +kernel) (by decide +kernel)
theorem kw_88 : (Jvm.Cond.soleField "GuardVolume$Journal" "words") ∈ gW := gW_of (i := 88) (by decide +kernel) (by decide +kernel)
theorem kw_89 : (Jvm.Cond.lays "GuardVolume$Journal" "GuardVolume$Journal" "block" "I") ∈ gW := gW_of (i := 89) (by decide +kernel) (by decide +kernel)
theorem kw_90 : (Jvm.Cond.soleField "GuardVolume$Journal" "block") ∈ gW := gW_of (i := 90) (by decide +kernel) (by decide +kernel)
theorem kw_91 : (Jvm.Cond.lays "GuardVolume$Journal" "GuardVolume$Journal" "version" "I") ∈ gW := gW_of (i := 91) (by decide +kernel) (by decide +kernel)
theorem kw_92 : (Jvm.Cond.soleField "GuardVolume$Journal" "version") ∈ gW := gW_of (i := 92) (by decide +kernel) (by decide +kernel)
theorem kw_93 : (Jvm.Cond.superclass "GuardVolume$Journal" "java/lang/Object") ∈ gW := gW_of (i := 93) (by decide +kernel) (by decide +kernel)
theorem kw_94 : (Jvm.Cond.classLink "GuardVolume" (33 : Nat) "GuardVolume$Findings") ∈ gW := gW_of (i := 94) (by decide +kernel) (by decide +kernel)
theorem kw_95 : (Jvm.Cond.instantiable "GuardVolume$Findings" (3 : Nat)) ∈ gW := gW_of (i := 95) (by decide +kernel) (by decide +kernel)
theorem kn_96 : (Jvm.Cond.methodLinkNest "GuardVolume" (35 : Nat) ({ cls := "GuardVolume$Findings", name := "<init>", desc := "()V" } : Jvm.MethodName) "GuardVolume") ∈ nW := nW_of (i := 96) (by decide +kernel) rfl
theorem kw_97 : (Jvm.Cond.instanceMethod ({ cls := "GuardVolume$Findings", name := "<init>", desc := "()V" } : Jvm.MethodName)) ∈ gW := gW_of (i := 97) (by decide +kernel) (by decide +kernel)
theorem kw_98 : (Jvm.Cond.code ({ cls := "GuardVolume$Findings", name := "<init>", desc := "()V" } : Jvm.MethodName) prog_3_method_1_code (1 : Nat) (Option.none : Option Jvm.ClassFile.FieldType)) ∈ gW := gW_of (i := 98) (by decide +kernel) (by decide +kernel)
theorem kw_99 : (Jvm.Cond.methodLink "GuardVolume$Findings" (3 : Nat) ({ cls := "java/lang/Object", name := "<init>", desc := "()V" } : Jvm.MethodName)) ∈ gW := gW_of (i := 99) (by decide +kernel) (by decide +kernel)
theorem kw_100 : (Jvm.Cond.fieldLink "GuardVolume$Findings" (9 : Nat) "GuardVolume$Findings" "numbers" "[I") ∈ gW := gW_of (i := 100) (by decide +kernel) (by decide +kernel)
theorem kn_101 : (Jvm.Cond.fieldLinkNest "GuardVolume" (141 : Nat) "GuardVolume$Findings" "numbers" "[I" "GuardVolume") ∈ nW := nW_of (i := 101) (by decide +kernel) rfl
theorem kw_102 : (Jvm.Cond.fieldLink "GuardVolume$Findings" (15 : Nat) "GuardVolume$Findings" "kept" "I") ∈ gW := gW_of (i := 102) (by decide +kernel) (by decide +kernel)
theorem kn_103 : (Jvm.Cond.fieldLinkNest "GuardVolume" (138 : Nat) "GuardVolume$Findings" "kept" "I" "GuardVolume") ∈ nW := nW_of (i := 103) (by decide +kernel) rfl
theorem kw_104 : (Jvm.Cond.fieldLink "GuardVolume$Findings" (19 : Nat) "GuardVolume$Findings" "told" "I") ∈ gW := gW_of (i := 104) (by decide +kernel) (by decide +kernel)
theorem kn_105 : (Jvm.Cond.fieldLinkNest "GuardVolume" (131 : Nat) "GuardVolume$Findings" "told" "I" "GuardVolume") ∈ nW := nW_of (i := 105) (by decide +kernel) rfl
theorem kw_106 : (Jvm.Cond.laysFinal "GuardVolume$Findings" "GuardVolume$Findings" "numbers" "[I") ∈ gW := gW_of (i := 106) (by decide +kernel) (by decide +kernel)
theorem kw_107 : (Jvm.Cond.soleField "GuardVolume$Findings" "numbers") ∈ gW := gW_of (i := 107) (by decide +kernel) (by decide +kernel)
theorem kw_108 : (Jvm.Cond.lays "GuardVolume$Findings" "GuardVolume$Findings" "kept" "I") ∈ gW := gW_of (i := 108) (by decide +kernel) (by decide +kernel)
theorem kw_109 : (Jvm.Cond.soleField "GuardVolume$Findings" "kept") ∈ gW := gW_of (i := 109) (by decide +kernel) (by decide +kernel)
theorem kw_110 : (Jvm.Cond.lays "GuardVolume$Findings" "GuardVolume$Findings" "told" "I") ∈ gW := gW_of (i := 110) (by decide +kernel) (by decide +kernel)
theorem kw_111 : (Jvm.Cond.soleField "GuardVolume$Findings" "told") ∈ gW := gW_of (i := 111) (by decide +kernel) (by decide +kernel)
theorem kw_112 : (Jvm.Cond.superclass "GuardVolume$Findings" "java/lang/Object") ∈ gW := gW_of (i := 112) (by decide +kernel) (by decide +kernel)
theorem kw_113 : (Jvm.Cond.fieldLink "GuardVolume" (12 : Nat) "GuardVolume" "drive0" "LGuardVolume$Drive;") ∈ gW := gW_of (i := 113) (by decide +kernel) (by decide +kernel)
theorem kw_114 : (Jvm.Cond.fieldLink "GuardVolume" (16 : Nat) "GuardVolume" "drive1" "LGuardVolume$Drive;") ∈ gW := gW_of (i := 114) (by decide +kernel) (by decide +kernel)
theorem kw_115 : (Jvm.Cond.fieldLink "GuardVolume" (22 : Nat) "GuardVolume" "power" "LGuardVolume$Power;") ∈ gW := gW_of (i := 115) (by decide +kernel) (by decide +kernel)
theorem kw_116 : (Jvm.Cond.fieldLink "GuardVolume" (29 : Nat) "GuardVolume" "journal" "LGuardVolume$Journal;") ∈ gW := gW_of (i := 116) (by decide +kernel) (by decide +kernel)
theorem kw_117 : (Jvm.Cond.fieldLink "GuardVolume" (36 : Nat) "GuardVolume" "found" "LGuardVolume$Findings;") ∈ gW := gW_of (i := 117) (by decide +kernel) (by decide +kernel)
theorem kw_118 : (Jvm.Cond.fieldLink "GuardVolume" (40 : Nat) "GuardVolume" "memory" "[I") ∈ gW := gW_of (i := 118) (by decide +kernel) (by decide +kernel)
theorem kw_119 : (Jvm.Cond.fieldLink "GuardVolume" (44 : Nat) "GuardVolume" "lastCode" "I") ∈ gW := gW_of (i := 119) (by decide +kernel) (by decide +kernel)
theorem kw_120 : (Jvm.Cond.fieldLink "GuardVolume" (48 : Nat) "GuardVolume" "nextScrubbed" "I") ∈ gW := gW_of (i := 120) (by decide +kernel) (by decide +kernel)
theorem kw_121 : (Jvm.Cond.fieldLink "GuardVolume" (51 : Nat) "GuardVolume" "row" "[I") ∈ gW := gW_of (i := 121) (by decide +kernel) (by decide +kernel)
theorem kw_122 : (Jvm.Cond.fieldLink "GuardVolume" (54 : Nat) "GuardVolume" "listWords" "[I") ∈ gW := gW_of (i := 122) (by decide +kernel) (by decide +kernel)
theorem kw_123 : (Jvm.Cond.fieldLink "GuardVolume" (57 : Nat) "GuardVolume" "copyWords" "[I") ∈ gW := gW_of (i := 123) (by decide +kernel) (by decide +kernel)
theorem kw_124 : (Jvm.Cond.laysFinal "GuardVolume" "GuardVolume" "drive0" "LGuardVolume$Drive;") ∈ gW := gW_of (i := 124) (by decide +kernel) (by decide +kernel)
theorem kw_125 : (Jvm.Cond.soleField "GuardVolume" "drive0") ∈ gW := gW_of (i := 125) (by decide +kernel) (by decide +kernel)
theorem kw_126 : (Jvm.Cond.laysFinal "GuardVolume" "GuardVolume" "drive1" "LGuardVolume$Drive;") ∈ gW := gW_of (i := 126) (by decide +kernel) (by decide +kernel)
theorem kw_127 : (Jvm.Cond.soleField "GuardVolume" "drive1") ∈ gW := gW_of (i := 127) (by decide +kernel) (by decide +kernel)
theorem kw_128 : (Jvm.Cond.laysFinal "GuardVolume" "GuardVolume" "power" "LGuardVolume$Power;") ∈ gW := gW_of (i := 128) (by decide +kernel) (by decide +kernel)
theorem kw_129 : (Jvm.Cond.soleField "GuardVolume" "power") ∈ gW := gW_of (i := 129) (by decide +kernel) (by decide +kernel)
theorem kw_130 : (Jvm.Cond.laysFinal "GuardVolume" "GuardVolume" "journal" "LGuardVolume$Journal;") ∈ gW := gW_of (i := 130) (by decide +kernel) (by decide +kernel)
theorem kw_131 : (Jvm.Cond.soleField "GuardVolume" "journal") ∈ gW := gW_of (i := 131) (by decide +kernel) (by decide +kernel)
theorem kw_132 : (Jvm.Cond.laysFinal "GuardVolume" "GuardVolume" "found" "LGuardVolume$Findings;") ∈ gW := gW_of (i := 132) (by decide +kernel) (by decide +kernel)
theorem kw_133 : (Jvm.Cond.soleField "GuardVolume" "found") ∈ gW := gW_of (i := 133) (by decide +kernel) (by decide +kernel)
theorem kw_134 : (Jvm.Cond.laysFinal "GuardVolume" "GuardVolume" "memory" "[I") ∈ gW := gW_of (i := 134) (by decide +kernel) (by decide +kernel)
theorem kw_135 : (Jvm.Cond.soleField "GuardVolume" "memory") ∈ gW := gW_of (i := 135) (by decide +kernel) (by decide +kernel)
theorem kw_136 : (Jvm.Cond.lays "GuardVolume" "GuardVolume" "lastCode" "I") ∈ gW := gW_of (i := 136) (by decide +kernel) (by decide +kernel)
theorem kw_137 : (Jvm.Cond.soleField "GuardVolume" "lastCode") ∈ gW := gW_of (i := 137) (by decide +kernel) (by decide +kernel)
theorem kw_138 : (Jvm.Cond.lays "GuardVolume" "GuardVolume" "nextScrubbed" "I") ∈ gW := gW_of (i := 138) (by decide +kernel) (by decide +kernel)
theorem kw_139 : (Jvm.Cond.soleField "GuardVolume" "nextScrubbed") ∈ gW := gW_of (i := 139) (by decide +kernel) (by decide +kernel)
theorem kw_140 : (Jvm.Cond.laysFinal "GuardVolume" "GuardVolume" "row" "[I") ∈ gW := gW_of (i := 140) (by decide +kernel) (by decide +kernel)
theorem kw_141 : (Jvm.Cond.soleField "GuardVolume" "row") ∈ gW := gW_of (i := 141) (by decide +kernel) (by decide +kernel)
theorem kw_142 : (Jvm.Cond.laysFinal "GuardVolume" "GuardVolume" "listWords" "[I") ∈ gW := gW_of (i := 142) (by decide +kernel) (by decide +kernel)
theorem kw_143 : (Jvm.Cond.soleField "GuardVolume" "listWords") ∈ gW := gW_of (i := 143) (by decide +kernel) (by decide +kernel)
theorem kw_144 : (Jvm.Cond.laysFinal "GuardVolume" "GuardVolume" "copyWords" "[I") ∈ gW := gW_of (i := 144) (by decide +kernel) (by decide +kernel)
theorem kw_145 : (Jvm.Cond.soleField "GuardVolume" "copyWords") ∈ gW := gW_of (i := 145) (by decide +kernel) (by decide +kernel)
theorem kw_146 : (Jvm.Cond.superclass "GuardVolume" "java/lang/Object") ∈ gW := gW_of (i := 146) (by decide +kernel) (by decide +kernel)
theorem kw_147 : (Jvm.Cond.methodLink "GuardVolumeLaw" (83 : Nat) ({ cls := "GuardVolume", name := "code", desc := "()I" } : Jvm.MethodName)) ∈ gW := gW_of (i := 147) (by decide +kernel) (by decide +kernel)
theorem kw_148 : (Jvm.Cond.instanceMethod ({ cls := "GuardVolume", name := "code", desc := "()I" } : Jvm.MethodName)) ∈ gW := gW_of (i := 148) (by decide +kernel) (by decide +kernel)
theorem kw_149 : (Jvm.Cond.selects "GuardVolume" ({ cls := "GuardVolume", name := "code", desc := "()I" } : Jvm.MethodName) ({ cls := "GuardVolume", name := "code", desc := "()I" } : Jvm.MethodName)) ∈ gW := gW_of (i := 149) (by decide +kernel) (by decide +kernel)
theorem kw_150 : (Jvm.Cond.code ({ cls := "GuardVolume", name := "code", desc := "()I" } : Jvm.MethodName) prog_1_method_4_code (1 : Nat) (Option.some Jvm.ClassFile.FieldType.int)) ∈ gW := gW_of (i := 150) (by decide +kernel) (by decide +kernel)
theorem kw_151 : (Jvm.Cond.methodLink "GuardVolumeLaw" (103 : Nat) ({ cls := "GuardVolume", name := "findings", desc := "(Z)I" } : Jvm.MethodName)) ∈ gW := gW_of (i := 151) (by decide +kernel) (by decide +kernel)
theorem kw_152 : (Jvm.Cond.instanceMethod ({ cls := "GuardVolume", name := "findings", desc := "(Z)I" } : Jvm.MethodName)) ∈ gW := gW_of (i := 152) (by decide +kernel) (by decide +kernel)
theorem kw_153 : (Jvm.Cond.selects "GuardVolume" ({ cls := "GuardVolume", name := "findings", desc := "(Z)I" } : Jvm.MethodName) ({ cls := "GuardVolume", name := "findings", desc := "(Z)I" } : Jvm.MethodName)) ∈ gW := gW_of (i := 153) (by decide +kernel) (by decide +kernel)
theorem kw_154 : (Jvm.Cond.code ({ cls := "GuardVolume", name := "findings", desc := "(Z)I" } : Jvm.MethodName) prog_1_method_9_code (3 : Nat) (Option.some Jvm.ClassFile.FieldType.int)) ∈ gW := gW_of (i := 154) (by decide +kernel) (by decide +kernel)
theorem kw_155 : (Jvm.Cond.methodLink "GuardVolumeLaw" (70 : Nat) ({ cls := "GuardVolumeLaw", name := "write", desc := "(LGuardVolume;III[J)I" } : Jvm.MethodName)) ∈ gW := gW_of (i := 155) (by decide +kernel) (by decide +kernel)
theorem kw_156 : (Jvm.Cond.static ({ cls := "GuardVolumeLaw", name := "write", desc := "(LGuardVolume;III[J)I" } : Jvm.MethodName)) ∈ gW := gW_of (i := 156) (by decide +kernel) (by decide +kernel)
theorem kw_157 : (Jvm.Cond.codeWith ({ cls := "GuardVolumeLaw", name := "write", desc := "(LGuardVolume;III[J)I" } : Jvm.MethodName) method_3_code (6 : Nat) (Option.some Jvm.ClassFile.FieldType.int) [((0 : Nat), (12 : Nat), (15 : Nat), (13 : Nat)), ((0 : Nat), (12 : Nat), (19 : Nat), (15 : Nat)), ((0 : Nat), (12 : Nat), (23 : Nat), (17 : Nat))]) ∈ gW := gW_of (i := 157) (by decide +kernel) (by decide +kernel)
theorem kw_158 : (Jvm.Cond.classLink "GuardVolumeLaw" (13 : Nat) "java/lang/IndexOutOfBoundsException") ∈ gW := gW_of (i := 158) (by decide +kernel) (by decide +kernel)
theorem kw_159 : (Jvm.Cond.classLink "GuardVolumeLaw" (15 : Nat) "java/lang/IllegalStateException") ∈ gW := gW_of (i := 159) (by decide +kernel) (by decide +kernel)
theorem kw_160 : (Jvm.Cond.classLink "GuardVolumeLaw" (17 : Nat) "java/lang/UnsupportedOperationException") ∈ gW := gW_of (i := 160) (by decide +kernel) (by decide +kernel)
theorem kw_161 : (Jvm.Cond.methodLink "GuardVolumeLaw" (7 : Nat) ({ cls := "GuardVolume", name := "write", desc := "(III)I" } : Jvm.MethodName)) ∈ gW := gW_of (i := 161) (by decide +kernel) (by decide +kernel)
theorem kw_162 : (Jvm.Cond.instanceMethod ({ cls := "GuardVolume", name := "write", desc := "(III)I" } : Jvm.MethodName)) ∈ gW := gW_of (i := 162) (by decide +kernel) (by decide +kernel)
theorem kw_163 : (Jvm.Cond.selects "GuardVolume" ({ cls := "GuardVolume", name := "write", desc := "(III)I" } : Jvm.MethodName) ({ cls := "GuardVolume", name := "write", desc := "(III)I" } : Jvm.MethodName)) ∈ gW := gW_of (i := 163) (by decide +kernel) (by decide +kernel)
theorem kw_164 : (Jvm.Cond.code ({ cls := "GuardVolume", name := "write", desc := "(III)I" } : Jvm.MethodName) prog_1_method_2_code (5 : Nat) (Option.some Jvm.ClassFile.FieldType.int)) ∈ gW := gW_of (i := 164) (by decide +kernel) (by decide +kernel)
theorem kw_165 : (Jvm.Cond.methodLink "GuardVolume" (60 : Nat) ({ cls := "GuardVolume", name := "isBelow", desc := "(II)Z" } : Jvm.MethodName)) ∈ gW := gW_of (i := 165) (by decide +kernel) (by decide +kernel)
theorem kw_166 : (Jvm.Cond.static ({ cls := "GuardVolume", name := "isBelow", desc := "(II)Z" } : Jvm.MethodName)) ∈ gW := gW_of (i := 166) (by decide +kernel) (by decide +kernel)
theorem kw_167 : (Jvm.Cond.code ({ cls := "GuardVolume", name := "isBelow", desc := "(II)Z" } : Jvm.MethodName) prog_1_method_18_code (2 : Nat) (Option.some Jvm.ClassFile.FieldType.boolean)) ∈ gW := gW_of (i := 167) (by decide +kernel) (by decide +kernel)
theorem kw_168 : (Jvm.Cond.classLink "GuardVolume" (64 : Nat) "java/lang/IndexOutOfBoundsException") ∈ gW := gW_of (i := 168) (by decide +kernel) (by decide +kernel)
theorem kw_169 : (Jvm.Cond.instantiable "java/lang/IndexOutOfBoundsException" (6 : Nat)) ∈ gW := gW_of (i := 169) (by decide +kernel) (by decide +kernel)
theorem kn_170 : (Jvm.Cond.castable "java/lang/IndexOutOfBoundsException" "java/lang/IndexOutOfBoundsException") ∈ nW := nW_of (i := 170) (by decide +kernel) rfl
theorem kn_171 : (Jvm.Cond.declares ({ cls := "java/lang/RuntimeException", name := "<init>", desc := "()V" } : Jvm.MethodName)) ∈ nW := nW_of (i := 171) (by decide +kernel) rfl
theorem kn_172 : (Jvm.Cond.declares ({ cls := "java/lang/RuntimeException", name := "<init>", desc := "(Ljava/lang/String;)V" } : Jvm.MethodName)) ∈ nW := nW_of (i := 172) (by decide +kernel) rfl
theorem kn_173 : (Jvm.Cond.declares ({ cls := "java/lang/Exception", name := "<init>", desc := "()V" } : Jvm.MethodName)) ∈ nW := nW_of (i := 173) (by decide +kernel) rfl
theorem kn_174 : (Jvm.Cond.declares ({ cls := "java/lang/Exception", name := "<init>", desc := "(Ljava/lang/String;)V" } : Jvm.MethodName)) ∈ nW := nW_of (i := 174) (by decide +kernel) rfl
theorem kn_175 : (Jvm.Cond.declares ({ cls := "java/lang/Throwable", name := "<init>", desc := "()V" } : Jvm.MethodName)) ∈ nW := nW_of (i := 175) (by decide +kernel) rfl
theorem kn_176 : (Jvm.Cond.declares ({ cls := "java/lang/Throwable", name := "<init>", desc := "(Ljava/lang/String;)V" } : Jvm.MethodName)) ∈ nW := nW_of (i := 176) (by decide +kernel) rfl
theorem kw_177 : (Jvm.Cond.selects "java/lang/IndexOutOfBoundsException" ({ cls := "java/lang/Throwable", name := "fillInStackTrace", desc := "(I)Ljava/lang/Throwable;" } : Jvm.MethodName) ({ cls := "java/lang/Throwable", name := "fillInStackTrace", desc := "(I)Ljava/lang/Throwable;" } : Jvm.MethodName)) ∈ gW := gW_of (i := 177) (by decide +kernel) (by decide +kernel)
theorem kw_178 : (Jvm.Cond.selects "java/lang/IndexOutOfBoundsException" ({ cls := "java/lang/Throwable", name := "fillInStackTrace", desc := "()Ljava/lang/Throwable;" } : Jvm.MethodName) ({ cls := "java/lang/Throwable", name := "fillInStackTrace", desc := "()Ljava/lang/Throwable;" } : Jvm.MethodName)) ∈ gW := gW_of (i := 178) (by decide +kernel) (by decide +kernel)
theorem kw_179 : (Jvm.Cond.lays "java/lang/IndexOutOfBoundsException" "java/lang/Throwable" "cause" "Ljava/lang/Throwable;") ∈ gW := gW_of (i := 179) (by decide +kernel) (by decide +kernel)
theorem kw_180 : (Jvm.Cond.lays "java/lang/Throwable" "java/lang/Throwable" "cause" "Ljava/lang/Throwable;") ∈ gW := gW_of (i := 180) (by decide +kernel) (by decide +kernel)
theorem kw_181 : (Jvm.Cond.lays "java/lang/IndexOutOfBoundsException" "java/lang/Throwable" "stackTrace" "[Ljava/lang/StackTraceElement;") ∈ gW := gW_of (i := 181) (by decide +kernel) (by decide +kernel)
theorem kw_182 : (Jvm.Cond.lays "java/lang/Throwable" "java/lang/Throwable" "stackTrace" "[Ljava/lang/StackTraceElement;") ∈ gW := gW_of (i := 182) (by decide +kernel) (by decide +kernel)
theorem kw_183 : (Jvm.Cond.lays "java/lang/IndexOutOfBoundsException" "java/lang/Throwable" "suppressedExceptions" "Ljava/util/List;") ∈ gW := gW_of (i := 183) (by decide +kernel) (by decide +kernel)
theorem kw_184 : (Jvm.Cond.lays "java/lang/Throwable" "java/lang/Throwable" "suppressedExceptions" "Ljava/util/List;") ∈ gW := gW_of (i := 184) (by decide +kernel) (by decide +kernel)
theorem kw_185 : (Jvm.Cond.lays "java/lang/IndexOutOfBoundsException" "java/lang/Throwable" "detailMessage" "Ljava/lang/String;") ∈ gW := gW_of (i := 185) (by decide +kernel) (by decide +kernel)
theorem kw_186 : (Jvm.Cond.lays "java/lang/Throwable" "java/lang/Throwable" "detailMessage" "Ljava/lang/String;") ∈ gW := gW_of (i := 186) (by decide +kernel) (by decide +kernel)
theorem kw_187 : (Jvm.Cond.lays "java/lang/IndexOutOfBoundsException" "java/lang/Throwable" "backtrace" "Ljava/lang/Object;") ∈ gW := gW_of (i := 187) (by decide +kernel) (by decide +kernel)
theorem kw_188 : (Jvm.Cond.lays "java/lang/Throwable" "java/lang/Throwable" "backtrace" "Ljava/lang/Object;") ∈ gW := gW_of (i := 188) (by decide +kernel) (by decide +kernel)
theorem kw_189 : (Jvm.Cond.fieldLink "java/lang/Throwable" (198 : Nat) "java/lang/Throwable" "backtrace" "Ljava/lang/Object;") ∈ gW := gW_of (i := 189) (by decide +kernel) (by decide +kernel)
theorem kw_190 : (Jvm.Cond.superclass "java/lang/Throwable" "java/lang/Object") ∈ gW := gW_of (i := 190) (by decide +kernel) (by decide +kernel)
theorem kw_191 : (Jvm.Cond.instanceMethod ({ cls := "java/lang/Throwable", name := "<init>", desc := "()V" } : Jvm.MethodName)) ∈ gW := gW_of (i := 191) (by decide +kernel) (by decide +kernel)
theorem kw_192 : (Jvm.Cond.code ({ cls := "java/lang/Throwable", name := "<init>", desc := "()V" } : Jvm.MethodName) prog_15_method_1_code (1 : Nat) (Option.none : Option Jvm.ClassFile.FieldType)) ∈ gW := gW_of (i := 192) (by decide +kernel) (by decide +kernel)
theorem kw_193 : (Jvm.Cond.methodLink "java/lang/Throwable" (1 : Nat) ({ cls := "java/lang/Object", name := "<init>", desc := "()V" } : Jvm.MethodName)) ∈ gW := gW_of (i := 193) (by decide +kernel) (by decide +kernel)
theorem kw_194 : (Jvm.Cond.fieldLink "java/lang/Throwable" (13 : Nat) "java/lang/Throwable" "UNASSIGNED_STACK" "[Ljava/lang/StackTraceElement;") ∈ gW := gW_of (i := 194) (by decide +kernel) (by decide +kernel)
theorem kw_196 : (Jvm.Cond.fieldLink "java/lang/Throwable" (20 : Nat) "java/lang/Throwable" "SUPPRESSED_SENTINEL" "Ljava/util/List;") ∈ gW := gW_of (i := 196) (by decide +kernel) (by decide +kernel)
theorem kw_198 : (Jvm.Cond.methodLink "java/lang/Throwable" (27 : Nat) ({ cls := "java/lang/Throwable", name := "fillInStackTrace", desc := "()Ljava/lang/Throwable;" } : Jvm.MethodName)) ∈ gW := gW_of (i := 198) (by decide +kernel) (by decide +kernel)
theorem kw_199 : (Jvm.Cond.instanceMethod ({ cls := "java/lang/Throwable", name := "fillInStackTrace", desc := "()Ljava/lang/Throwable;" } : Jvm.MethodName)) ∈ gW := gW_of (i := 199) (by decide +kernel) (by decide +kernel)
theorem kw_200 : (Jvm.Cond.sameMethod "java/lang/Throwable" "java/lang/Throwable" "fillInStackTrace" "()Ljava/lang/Throwable;") ∈ gW := gW_of (i := 200) (by decide +kernel) (by decide +kernel)
theorem kw_201 : (Jvm.Cond.selects "java/lang/IllegalArgumentException" ({ cls := "java/lang/Throwable", name := "fillInStackTrace", desc := "()Ljava/lang/Throwable;" } : Jvm.MethodName) ({ cls := "java/lang/Throwable", name := "fillInStackTrace", desc := "()Ljava/lang/Throwable;" } : Jvm.MethodName)) ∈ gW := gW_of (i := 201) (by decide +kernel) (by decide +kernel)
theorem kw_202 : (Jvm.Cond.selects "java/lang/IllegalStateException" ({ cls := "java/lang/Throwable", name := "fillInStackTrace", desc := "()Ljava/lang/Throwable;" } : Jvm.MethodName) ({ cls := "java/lang/Throwable", name := "fillInStackTrace", desc := "()Ljava/lang/Throwable;" } : Jvm.MethodName)) ∈ gW := gW_of (i := 202) (by decide +kernel) (by decide +kernel)
theorem kw_203 : (Jvm.Cond.selects "java/lang/UnsupportedOperationException" ({ cls := "java/lang/Throwable", name := "fillInStackTrace", desc := "()Ljava/lang/Throwable;" } : Jvm.MethodName) ({ cls := "java/lang/Throwable", name := "fillInStackTrace", desc := "()Ljava/lang/Throwable;" } : Jvm.MethodName)) ∈ gW := gW_of (i := 203) (by decide +kernel) (by decide +kernel)
theorem kw_205 : (Jvm.Cond.methodLink "java/lang/Throwable" (202 : Nat) ({ cls := "java/lang/Throwable", name := "fillInStackTrace", desc := "(I)Ljava/lang/Throwable;" } : Jvm.MethodName)) ∈ gW := gW_of (i := 205) (by decide +kernel) (by decide +kernel)
theorem kw_207 : (Jvm.Cond.instanceMethod ({ cls := "java/lang/Throwable", name := "fillInStackTrace", desc := "(I)Ljava/lang/Throwable;" } : Jvm.MethodName)) ∈ gW := gW_of (i := 207) (by decide +kernel) (by decide +kernel)
theorem kw_208 : (Jvm.Cond.instantiable "java/lang/Throwable" (6 : Nat)) ∈ gW := gW_of (i := 208) (by decide +kernel) (by decide +kernel)
theorem kw_209 : (Jvm.Cond.native ({ cls := "java/lang/Throwable", name := "fillInStackTrace", desc := "(I)Ljava/lang/Throwable;" } : Jvm.MethodName)) ∈ gW := gW_of (i := 209) (by decide +kernel) (by decide +kernel)
theorem kw_210 : (Jvm.Cond.methodLink "GuardVolume" (66 : Nat) ({ cls := "java/lang/IndexOutOfBoundsException", name := "<init>", desc := "()V" } : Jvm.MethodName)) ∈ gW := gW_of (i := 210) (by decide +kernel) (by decide +kernel)
theorem kw_211 : (Jvm.Cond.instanceMethod ({ cls := "java/lang/IndexOutOfBoundsException", name := "<init>", desc := "()V" } : Jvm.MethodName)) ∈ gW := gW_of (i := 211) (by decide +kernel) (by decide +kernel)
theorem kw_212 : (Jvm.Cond.code ({ cls := "java/lang/IndexOutOfBoundsException", name := "<init>", desc := "()V" } : Jvm.MethodName) prog_11_method_1_code (1 : Nat) (Option.none : Option Jvm.ClassFile.FieldType)) ∈ gW := gW_of (i := 212) (by decide +kernel) (by decide +kernel)
theorem kw_213 : (Jvm.Cond.methodLink "java/lang/IndexOutOfBoundsException" (1 : Nat) ({ cls := "java/lang/RuntimeException", name := "<init>", desc := "()V" } : Jvm.MethodName)) ∈ gW := gW_of (i := 213) (by decide +kernel) (by decide +kernel)
theorem kw_214 : (Jvm.Cond.instanceMethod ({ cls := "java/lang/RuntimeException", name := "<init>", desc := "()V" } : Jvm.MethodName)) ∈ gW := gW_of (i := 214) (by decide +kernel) (by decide +kernel)
theorem kw_215 : (Jvm.Cond.code ({ cls := "java/lang/RuntimeException", name := "<init>", desc := "()V" } : Jvm.MethodName) prog_13_method_1_code (1 : Nat) (Option.none : Option Jvm.ClassFile.FieldType)) ∈ gW := gW_of (i := 215) (by decide +kernel) (by decide +kernel)
theorem kw_216 : (Jvm.Cond.methodLink "java/lang/RuntimeException" (1 : Nat) ({ cls := "java/lang/Exception", name := "<init>", desc := "()V" } : Jvm.MethodName)) ∈ gW := gW_of (i := 216) (by decide +kernel) (by decide +kernel)
theorem kw_217 : (Jvm.Cond.instanceMethod ({ cls := "java/lang/Exception", name := "<init>", desc := "()V" } : Jvm.MethodName)) ∈ gW := gW_of (i := 217) (by decide +kernel) (by decide +kernel)
theorem kw_218 : (Jvm.Cond.code ({ cls := "java/lang/Exception", name := "<init>", desc := "()V" } : Jvm.MethodName) prog_8_method_1_code (1 : Nat) (Option.none : Option Jvm.ClassFile.FieldType)) ∈ gW := gW_of (i := 218) (by decide +kernel) (by decide +kernel)
theorem kw_219 : (Jvm.Cond.methodLink "java/lang/Exception" (1 : Nat) ({ cls := "java/lang/Throwable", name := "<init>", desc := "()V" } : Jvm.MethodName)) ∈ gW := gW_of (i := 219) (by decide +kernel) (by decide +kernel)
theorem kw_220 : (Jvm.Cond.fieldLink "java/lang/Throwable" (198 : Nat) "java/lang/Throwable" "backtrace" "Ljava/lang/Object;") ∈ gW := gW_of (i := 220) (by decide +kernel) (by decide +kernel)
theorem kw_221 : (Jvm.Cond.fieldLink "java/lang/Throwable" (7 : Nat) "java/lang/Throwable" "cause" "Ljava/lang/Throwable;") ∈ gW := gW_of (i := 221) (by decide +kernel) (by decide +kernel)
theorem kw_222 : (Jvm.Cond.fieldLink "java/lang/Throwable" (17 : Nat) "java/lang/Throwable" "stackTrace" "[Ljava/lang/StackTraceElement;") ∈ gW := gW_of (i := 222) (by decide +kernel) (by decide +kernel)
theorem kw_223 : (Jvm.Cond.fieldLink "java/lang/Throwable" (24 : Nat) "java/lang/Throwable" "suppressedExceptions" "Ljava/util/List;") ∈ gW := gW_of (i := 223) (by decide +kernel) (by decide +kernel)
theorem kw_224 : (Jvm.Cond.soleField "java/lang/Throwable" "backtrace") ∈ gW := gW_of (i := 224) (by decide +kernel) (by decide +kernel)
theorem kw_225 : (Jvm.Cond.soleField "java/lang/Throwable" "detailMessage") ∈ gW := gW_of (i := 225) (by decide +kernel) (by decide +kernel)
theorem kw_226 : (Jvm.Cond.soleField "java/lang/Throwable" "cause") ∈ gW := gW_of (i := 226) (by decide +kernel) (by decide +kernel)
theorem kw_227 : (Jvm.Cond.soleField "java/lang/Throwable" "stackTrace") ∈ gW := gW_of (i := 227) (by decide +kernel) (by decide +kernel)
theorem kw_228 : (Jvm.Cond.lays "java/lang/IndexOutOfBoundsException" "java/lang/Throwable" "depth" "I") ∈ gW := gW_of (i := 228) (by decide +kernel) (by decide +kernel)
theorem kw_229 : (Jvm.Cond.soleField "java/lang/Throwable" "depth") ∈ gW := gW_of (i := 229) (by decide +kernel) (by decide +kernel)
theorem kw_230 : (Jvm.Cond.soleField "java/lang/Throwable" "suppressedExceptions") ∈ gW := gW_of (i := 230) (by decide +kernel) (by decide +kernel)
theorem kw_231 : (Jvm.Cond.superclass "java/lang/IndexOutOfBoundsException" "java/lang/RuntimeException") ∈ gW := gW_of (i := 231) (by decide +kernel) (by decide +kernel)
theorem kw_232 : (Jvm.Cond.classLink "GuardVolume" (71 : Nat) "java/lang/IllegalStateException") ∈ gW := gW_of (i := 232) (by decide +kernel) (by decide +kernel)
theorem kw_233 : (Jvm.Cond.instantiable "java/lang/IllegalStateException" (6 : Nat)) ∈ gW := gW_of (i := 233) (by decide +kernel) (by decide +kernel)
theorem kn_234 : (Jvm.Cond.castable "java/lang/IllegalStateException" "java/lang/IllegalStateException") ∈ nW := nW_of (i := 234) (by decide +kernel) rfl
theorem kw_235 : (Jvm.Cond.selects "java/lang/IllegalStateException" ({ cls := "java/lang/Throwable", name := "fillInStackTrace", desc := "(I)Ljava/lang/Throwable;" } : Jvm.MethodName) ({ cls := "java/lang/Throwable", name := "fillInStackTrace", desc := "(I)Ljava/lang/Throwable;" } : Jvm.MethodName)) ∈ gW := gW_of (i := 235) (by decide +kernel) (by decide +kernel)
theorem kw_236 : (Jvm.Cond.lays "java/lang/IllegalStateException" "java/lang/Throwable" "cause" "Ljava/lang/Throwable;") ∈ gW := gW_of (i := 236) (by decide +kernel) (by decide +kernel)
theorem kw_237 : (Jvm.Cond.lays "java/lang/IllegalStateException" "java/lang/Throwable" "stackTrace" "[Ljava/lang/StackTraceElement;") ∈ gW := gW_of (i := 237) (by decide +kernel) (by decide +kernel)
theorem kw_238 : (Jvm.Cond.lays "java/lang/IllegalStateException" "java/lang/Throwable" "suppressedExceptions" "Ljava/util/List;") ∈ gW := gW_of (i := 238) (by decide +kernel) (by decide +kernel)
theorem kw_239 : (Jvm.Cond.lays "java/lang/IllegalStateException" "java/lang/Throwable" "detailMessage" "Ljava/lang/String;") ∈ gW := gW_of (i := 239) (by decide +kernel) (by decide +kernel)
theorem kw_240 : (Jvm.Cond.lays "java/lang/IllegalStateException" "java/lang/Throwable" "backtrace" "Ljava/lang/Object;") ∈ gW := gW_of (i := 240) (by decide +kernel) (by decide +kernel)
theorem kw_241 : (Jvm.Cond.methodLink "GuardVolume" (73 : Nat) ({ cls := "java/lang/IllegalStateException", name := "<init>", desc := "()V" } : Jvm.MethodName)) ∈ gW := gW_of (i := 241) (by decide +kernel) (by decide +kernel)
theorem kw_242 : (Jvm.Cond.instanceMethod ({ cls := "java/lang/IllegalStateException", name := "<init>", desc := "()V" } : Jvm.MethodName)) ∈ gW := gW_of (i := 242) (by decide +kernel) (by decide +kernel)
theorem kw_243 : (Jvm.Cond.code ({ cls := "java/lang/IllegalStateException", name := "<init>", desc := "()V" } : Jvm.MethodName) prog_10_method_1_code (1 : Nat) (Option.none : Option Jvm.ClassFile.FieldType)) ∈ gW := gW_of (i := 243) (by decide +kernel) (by decide +kernel)
theorem kw_244 : (Jvm.Cond.methodLink "java/lang/IllegalStateException" (1 : Nat) ({ cls := "java/lang/RuntimeException", name := "<init>", desc := "()V" } : Jvm.MethodName)) ∈ gW := gW_of (i := 244) (by decide +kernel) (by decide +kernel)
theorem kw_245 : (Jvm.Cond.lays "java/lang/IllegalStateException" "java/lang/Throwable" "depth" "I") ∈ gW := gW_of (i := 245) (by decide +kernel) (by decide +kernel)
theorem kw_246 : (Jvm.Cond.superclass "java/lang/IllegalStateException" "java/lang/RuntimeException") ∈ gW := gW_of (i := 246) (by decide +kernel) (by decide +kernel)
theorem kw_247 : (Jvm.Cond.methodLink "GuardVolume" (74 : Nat) ({ cls := "GuardVolume", name := "goodCopy", desc := "(I)I" } : Jvm.MethodName)) ∈ gW := gW_of (i := 247) (by decide +kernel) (by decide +kernel)
theorem kw_249 : (Jvm.Cond.instanceMethod ({ cls := "GuardVolume", name := "goodCopy", desc := "(I)I" } : Jvm.MethodName)) ∈ gW := gW_of (i := 249) (by decide +kernel) (by decide +kernel)
theorem kw_250 : (Jvm.Cond.code ({ cls := "GuardVolume", name := "goodCopy", desc := "(I)I" } : Jvm.MethodName) prog_1_method_26_code (2 : Nat) (Option.some Jvm.ClassFile.FieldType.int)) ∈ gW := gW_of (i := 250) (by decide +kernel) (by decide +kernel)
theorem kw_251 : (Jvm.Cond.methodLink "GuardVolume" (147 : Nat) ({ cls := "GuardVolume", name := "judge", desc := "(II)I" } : Jvm.MethodName)) ∈ gW := gW_of (i := 251) (by decide +kernel) (by decide +kernel)
theorem kw_253 : (Jvm.Cond.instanceMethod ({ cls := "GuardVolume", name := "judge", desc := "(II)I" } : Jvm.MethodName)) ∈ gW := gW_of (i := 253) (by decide +kernel) (by decide +kernel)
theorem kw_254 : (Jvm.Cond.code ({ cls := "GuardVolume", name := "judge", desc := "(II)I" } : Jvm.MethodName) prog_1_method_25_code (6 : Nat) (Option.some Jvm.ClassFile.FieldType.int)) ∈ gW := gW_of (i := 254) (by decide +kernel) (by decide +kernel)
theorem kw_255 : (Jvm.Cond.methodLink "GuardVolume" (78 : Nat) ({ cls := "GuardVolume", name := "driveOf", desc := "(I)LGuardVolume$Drive;" } : Jvm.MethodName)) ∈ gW := gW_of (i := 255) (by decide +kernel) (by decide +kernel)
theorem kw_257 : (Jvm.Cond.instanceMethod ({ cls := "GuardVolume", name := "driveOf", desc := "(I)LGuardVolume$Drive;" } : Jvm.MethodName)) ∈ gW := gW_of (i := 257) (by decide +kernel) (by decide +kernel)
theorem kw_258 : (Jvm.Cond.code ({ cls := "GuardVolume", name := "driveOf", desc := "(I)LGuardVolume$Drive;" } : Jvm.MethodName) prog_1_method_21_code (2 : Nat) (Option.some (Jvm.ClassFile.FieldType.object "GuardVolume$Drive"))) ∈ gW := gW_of (i := 258) (by decide +kernel) (by decide +kernel)
theorem kn_259 : (Jvm.Cond.methodLinkNest "GuardVolume" (82 : Nat) ({ cls := "GuardVolume$Drive", name := "at", desc := "(II)I" } : Jvm.MethodName) "GuardVolume") ∈ nW := nW_of (i := 259) (by decide +kernel) rfl
theorem kw_261 : (Jvm.Cond.instanceMethod ({ cls := "GuardVolume$Drive", name := "at", desc := "(II)I" } : Jvm.MethodName)) ∈ gW := gW_of (i := 261) (by decide +kernel) (by decide +kernel)
theorem kw_262 : (Jvm.Cond.code ({ cls := "GuardVolume$Drive", name := "at", desc := "(II)I" } : Jvm.MethodName) prog_2_method_2_code (3 : Nat) (Option.some Jvm.ClassFile.FieldType.int)) ∈ gW := gW_of (i := 262) (by decide +kernel) (by decide +kernel)
theorem kw_263 : (Jvm.Cond.methodLink "GuardVolume" (165 : Nat) ({ cls := "GuardVolume", name := "sumOf", desc := "([II)I" } : Jvm.MethodName)) ∈ gW := gW_of (i := 263) (by decide +kernel) (by decide +kernel)
theorem kw_264 : (Jvm.Cond.methodLink "GuardVolume" (144 : Nat) ({ cls := "GuardVolume", name := "expectedVersion", desc := "(II)I" } : Jvm.MethodName)) ∈ gW := gW_of (i := 264) (by decide +kernel) (by decide +kernel)
theorem kw_266 : (Jvm.Cond.instanceMethod ({ cls := "GuardVolume", name := "expectedVersion", desc := "(II)I" } : Jvm.MethodName)) ∈ gW := gW_of (i := 266) (by decide +kernel) (by decide +kernel)
theorem kw_267 : (Jvm.Cond.code ({ cls := "GuardVolume", name := "expectedVersion", desc := "(II)I" } : Jvm.MethodName) prog_1_method_24_code (5 : Nat) (Option.some Jvm.ClassFile.FieldType.int)) ∈ gW := gW_of (i := 267) (by decide +kernel) (by decide +kernel)
theorem kw_268 : (Jvm.Cond.methodLink "GuardVolume" (169 : Nat) ({ cls := "GuardVolume", name := "listDrive", desc := "(II)I" } : Jvm.MethodName)) ∈ gW := gW_of (i := 268) (by decide +kernel) (by decide +kernel)
theorem kw_270 : (Jvm.Cond.instanceMethod ({ cls := "GuardVolume", name := "listDrive", desc := "(II)I" } : Jvm.MethodName)) ∈ gW := gW_of (i := 270) (by decide +kernel) (by decide +kernel)
theorem kw_271 : (Jvm.Cond.code ({ cls := "GuardVolume", name := "listDrive", desc := "(II)I" } : Jvm.MethodName) prog_1_method_23_code (3 : Nat) (Option.some Jvm.ClassFile.FieldType.int)) ∈ gW := gW_of (i := 271) (by decide +kernel) (by decide +kernel)
theorem kw_272 : (Jvm.Cond.methodLink "GuardVolume" (150 : Nat) ({ cls := "GuardVolume", name := "isPageRight", desc := "(II)Z" } : Jvm.MethodName)) ∈ gW := gW_of (i := 272) (by decide +kernel) (by decide +kernel)
theorem kw_274 : (Jvm.Cond.instanceMethod ({ cls := "GuardVolume", name := "isPageRight", desc := "(II)Z" } : Jvm.MethodName)) ∈ gW := gW_of (i := 274) (by decide +kernel) (by decide +kernel)
theorem kw_275 : (Jvm.Cond.code ({ cls := "GuardVolume", name := "isPageRight", desc := "(II)Z" } : Jvm.MethodName) prog_1_method_22_code (5 : Nat) (Option.some Jvm.ClassFile.FieldType.boolean)) ∈ gW := gW_of (i := 275) (by decide +kernel) (by decide +kernel)
theorem kw_276 : (Jvm.Cond.classLink "GuardVolume" (86 : Nat) "java/lang/UnsupportedOperationException") ∈ gW := gW_of (i := 276) (by decide +kernel) (by decide +kernel)
theorem kw_277 : (Jvm.Cond.instantiable "java/lang/UnsupportedOperationException" (6 : Nat)) ∈ gW := gW_of (i := 277) (by decide +kernel) (by decide +kernel)
theorem kn_278 : (Jvm.Cond.castable "java/lang/UnsupportedOperationException" "java/lang/UnsupportedOperationException") ∈ nW := nW_of (i := 278) (by decide +kernel) rfl
theorem kw_279 : (Jvm.Cond.selects "java/lang/UnsupportedOperationException" ({ cls := "java/lang/Throwable", name := "fillInStackTrace", desc := "(I)Ljava/lang/Throwable;" } : Jvm.MethodName) ({ cls := "java/lang/Throwable", name := "fillInStackTrace", desc := "(I)Ljava/lang/Throwable;" } : Jvm.MethodName)) ∈ gW := gW_of (i := 279) (by decide +kernel) (by decide +kernel)
theorem kw_280 : (Jvm.Cond.lays "java/lang/UnsupportedOperationException" "java/lang/Throwable" "cause" "Ljava/lang/Throwable;") ∈ gW := gW_of (i := 280) (by decide +kernel) (by decide +kernel)
theorem kw_281 : (Jvm.Cond.lays "java/lang/UnsupportedOperationException" "java/lang/Throwable" "stackTrace" "[Ljava/lang/StackTraceElement;") ∈ gW := gW_of (i := 281) (by decide +kernel) (by decide +kernel)
theorem kw_282 : (Jvm.Cond.lays "java/lang/UnsupportedOperationException" "java/lang/Throwable" "suppressedExceptions" "Ljava/util/List;") ∈ gW := gW_of (i := 282) (by decide +kernel) (by decide +kernel)
theorem kw_283 : (Jvm.Cond.lays "java/lang/UnsupportedOperationException" "java/lang/Throwable" "detailMessage" "Ljava/lang/String;") ∈ gW := gW_of (i := 283) (by decide +kernel) (by decide +kernel)
theorem kw_284 : (Jvm.Cond.lays "java/lang/UnsupportedOperationException" "java/lang/Throwable" "backtrace" "Ljava/lang/Object;") ∈ gW := gW_of (i := 284) (by decide +kernel) (by decide +kernel)
theorem kw_285 : (Jvm.Cond.methodLink "GuardVolume" (88 : Nat) ({ cls := "java/lang/UnsupportedOperationException", name := "<init>", desc := "()V" } : Jvm.MethodName)) ∈ gW := gW_of (i := 285) (by decide +kernel) (by decide +kernel)
theorem kw_286 : (Jvm.Cond.instanceMethod ({ cls := "java/lang/UnsupportedOperationException", name := "<init>", desc := "()V" } : Jvm.MethodName)) ∈ gW := gW_of (i := 286) (by decide +kernel) (by decide +kernel)
theorem kw_287 : (Jvm.Cond.code ({ cls := "java/lang/UnsupportedOperationException", name := "<init>", desc := "()V" } : Jvm.MethodName) prog_16_method_1_code (1 : Nat) (Option.none : Option Jvm.ClassFile.FieldType)) ∈ gW := gW_of (i := 287) (by decide +kernel) (by decide +kernel)
theorem kw_288 : (Jvm.Cond.methodLink "java/lang/UnsupportedOperationException" (1 : Nat) ({ cls := "java/lang/RuntimeException", name := "<init>", desc := "()V" } : Jvm.MethodName)) ∈ gW := gW_of (i := 288) (by decide +kernel) (by decide +kernel)
theorem kw_289 : (Jvm.Cond.lays "java/lang/UnsupportedOperationException" "java/lang/Throwable" "depth" "I") ∈ gW := gW_of (i := 289) (by decide +kernel) (by decide +kernel)
theorem kw_290 : (Jvm.Cond.superclass "java/lang/UnsupportedOperationException" "java/lang/RuntimeException") ∈ gW := gW_of (i := 290) (by decide +kernel) (by decide +kernel)
theorem kw_291 : (Jvm.Cond.methodLink "GuardVolume" (89 : Nat) ({ cls := "GuardVolume", name := "codeOf", desc := "(I)I" } : Jvm.MethodName)) ∈ gW := gW_of (i := 291) (by decide +kernel) (by decide +kernel)
theorem kw_292 : (Jvm.Cond.static ({ cls := "GuardVolume", name := "codeOf", desc := "(I)I" } : Jvm.MethodName)) ∈ gW := gW_of (i := 292) (by decide +kernel) (by decide +kernel)
theorem kw_293 : (Jvm.Cond.code ({ cls := "GuardVolume", name := "codeOf", desc := "(I)I" } : Jvm.MethodName) prog_1_method_27_code (1 : Nat) (Option.some Jvm.ClassFile.FieldType.int)) ∈ gW := gW_of (i := 293) (by decide +kernel) (by decide +kernel)
theorem kn_294 : (Jvm.Cond.methodLinkNest "GuardVolume" (95 : Nat) ({ cls := "GuardVolume$Drive", name := "giveWords", desc := "(I[I)V" } : Jvm.MethodName) "GuardVolume") ∈ nW := nW_of (i := 294) (by decide +kernel) rfl
theorem kw_296 : (Jvm.Cond.instanceMethod ({ cls := "GuardVolume$Drive", name := "giveWords", desc := "(I[I)V" } : Jvm.MethodName)) ∈ gW := gW_of (i := 296) (by decide +kernel) (by decide +kernel)
theorem kw_297 : (Jvm.Cond.code ({ cls := "GuardVolume$Drive", name := "giveWords", desc := "(I[I)V" } : Jvm.MethodName) prog_2_method_3_code (3 : Nat) (Option.none : Option Jvm.ClassFile.FieldType)) ∈ gW := gW_of (i := 297) (by decide +kernel) (by decide +kernel)
theorem kw_298 : (Jvm.Cond.methodLink "GuardVolume" (105 : Nat) ({ cls := "GuardVolume", name := "putNotedBlock", desc := "()Z" } : Jvm.MethodName)) ∈ gW := gW_of (i := 298) (by decide +kernel) (by decide +kernel)
theorem kw_300 : (Jvm.Cond.instanceMethod ({ cls := "GuardVolume", name := "putNotedBlock", desc := "()Z" } : Jvm.MethodName)) ∈ gW := gW_of (i := 300) (by decide +kernel) (by decide +kernel)
theorem kw_301 : (Jvm.Cond.code ({ cls := "GuardVolume", name := "putNotedBlock", desc := "()Z" } : Jvm.MethodName) prog_1_method_31_code (2 : Nat) (Option.some Jvm.ClassFile.FieldType.boolean)) ∈ gW := gW_of (i := 301) (by decide +kernel) (by decide +kernel)
theorem kw_302 : (Jvm.Cond.methodLink "GuardVolume" (197 : Nat) ({ cls := "GuardVolume", name := "putCopy", desc := "(II[II)Z" } : Jvm.MethodName)) ∈ gW := gW_of (i := 302) (by decide +kernel) (by decide +kernel)
theorem kw_304 : (Jvm.Cond.instanceMethod ({ cls := "GuardVolume", name := "putCopy", desc := "(II[II)Z" } : Jvm.MethodName)) ∈ gW := gW_of (i := 304) (by decide +kernel) (by decide +kernel)
theorem kw_305 : (Jvm.Cond.code ({ cls := "GuardVolume", name := "putCopy", desc := "(II[II)Z" } : Jvm.MethodName) prog_1_method_30_code (5 : Nat) (Option.some Jvm.ClassFile.FieldType.boolean)) ∈ gW := gW_of (i := 305) (by decide +kernel) (by decide +kernel)
theorem kw_306 : (Jvm.Cond.methodLink "GuardVolume" (190 : Nat) ({ cls := "GuardVolume", name := "store", desc := "(II[II)Z" } : Jvm.MethodName)) ∈ gW := gW_of (i := 306) (by decide +kernel) (by decide +kernel)
theorem kw_308 : (Jvm.Cond.instanceMethod ({ cls := "GuardVolume", name := "store", desc := "(II[II)Z" } : Jvm.MethodName)) ∈ gW := gW_of (i := 308) (by decide +kernel) (by decide +kernel)
theorem kw_309 : (Jvm.Cond.code ({ cls := "GuardVolume", name := "store", desc := "(II[II)Z" } : Jvm.MethodName) prog_1_method_28_code (5 : Nat) (Option.some Jvm.ClassFile.FieldType.boolean)) ∈ gW := gW_of (i := 309) (by decide +kernel) (by decide +kernel)
theorem kn_310 : (Jvm.Cond.methodLinkNest "GuardVolume" (172 : Nat) ({ cls := "GuardVolume$Power", name := "allowsWrite", desc := "()Z" } : Jvm.MethodName) "GuardVolume") ∈ nW := nW_of (i := 310) (by decide +kernel) rfl
theorem kw_312 : (Jvm.Cond.instanceMethod ({ cls := "GuardVolume$Power", name := "allowsWrite", desc := "()Z" } : Jvm.MethodName)) ∈ gW := gW_of (i := 312) (by decide +kernel) (by decide +kernel)
theorem kw_313 : (Jvm.Cond.code ({ cls := "GuardVolume$Power", name := "allowsWrite", desc := "()Z" } : Jvm.MethodName) prog_5_method_2_code (1 : Nat) (Option.some Jvm.ClassFile.FieldType.boolean)) ∈ gW := gW_of (i := 313) (by decide +kernel) (by decide +kernel)
theorem kw_314 : (Jvm.Cond.methodLink "GuardVolume" (175 : Nat) ({ cls := "java/lang/System", name := "arraycopy", desc := "(Ljava/lang/Object;ILjava/lang/Object;II)V" } : Jvm.MethodName)) ∈ gW := gW_of (i := 314) (by decide +kernel) (by decide +kernel)
theorem kn_315 : (Jvm.Cond.methodLinkNest "GuardVolume" (181 : Nat) ({ cls := "GuardVolume$Drive", name := "take", desc := "(I[I)V" } : Jvm.MethodName) "GuardVolume") ∈ nW := nW_of (i := 315) (by decide +kernel) rfl
theorem kw_317 : (Jvm.Cond.instanceMethod ({ cls := "GuardVolume$Drive", name := "take", desc := "(I[I)V" } : Jvm.MethodName)) ∈ gW := gW_of (i := 317) (by decide +kernel) (by decide +kernel)
theorem kw_318 : (Jvm.Cond.code ({ cls := "GuardVolume$Drive", name := "take", desc := "(I[I)V" } : Jvm.MethodName) prog_2_method_8_code (6 : Nat) (Option.none : Option Jvm.ClassFile.FieldType)) ∈ gW := gW_of (i := 318) (by decide +kernel) (by decide +kernel)
theorem kw_319 : (Jvm.Cond.methodLink "GuardVolume$Drive" (47 : Nat) ({ cls := "GuardVolume$Drive", name := "planOfNext", desc := "(I)I" } : Jvm.MethodName)) ∈ gW := gW_of (i := 319) (by decide +kernel) (by decide +kernel)
theorem kw_321 : (Jvm.Cond.instanceMethod ({ cls := "GuardVolume$Drive", name := "planOfNext", desc := "(I)I" } : Jvm.MethodName)) ∈ gW := gW_of (i := 321) (by decide +kernel) (by decide +kernel)
theorem kw_322 : (Jvm.Cond.code ({ cls := "GuardVolume$Drive", name := "planOfNext", desc := "(I)I" } : Jvm.MethodName) prog_2_method_5_code (3 : Nat) (Option.some Jvm.ClassFile.FieldType.int)) ∈ gW := gW_of (i := 322) (by decide +kernel) (by decide +kernel)
theorem kw_323 : (Jvm.Cond.methodLink "GuardVolume$Drive" (51 : Nat) ({ cls := "GuardVolume$Drive", name := "keep", desc := "(I[II)V" } : Jvm.MethodName)) ∈ gW := gW_of (i := 323) (by decide +kernel) (by decide +kernel)
theorem kw_325 : (Jvm.Cond.instanceMethod ({ cls := "GuardVolume$Drive", name := "keep", desc := "(I[II)V" } : Jvm.MethodName)) ∈ gW := gW_of (i := 325) (by decide +kernel) (by decide +kernel)
theorem kw_326 : (Jvm.Cond.code ({ cls := "GuardVolume$Drive", name := "keep", desc := "(I[II)V" } : Jvm.MethodName) prog_2_method_9_code (4 : Nat) (Option.none : Option Jvm.ClassFile.FieldType)) ∈ gW := gW_of (i := 326) (by decide +kernel) (by decide +kernel)
theorem kw_327 : (Jvm.Cond.methodLink "GuardVolume$Drive" (55 : Nat) ({ cls := "GuardVolume$Drive", name := "removePlan", desc := "(I)V" } : Jvm.MethodName)) ∈ gW := gW_of (i := 327) (by decide +kernel) (by decide +kernel)
theorem kw_329 : (Jvm.Cond.instanceMethod ({ cls := "GuardVolume$Drive", name := "removePlan", desc := "(I)V" } : Jvm.MethodName)) ∈ gW := gW_of (i := 329) (by decide +kernel) (by decide +kernel)
theorem kw_330 : (Jvm.Cond.code ({ cls := "GuardVolume$Drive", name := "removePlan", desc := "(I)V" } : Jvm.MethodName) prog_2_method_7_code (2 : Nat) (Option.none : Option Jvm.ClassFile.FieldType)) ∈ gW := gW_of (i := 330) (by decide +kernel) (by decide +kernel)
theorem kw_331 : (Jvm.Cond.methodLink "GuardVolume" (194 : Nat) ({ cls := "GuardVolume", name := "storeList", desc := "(III)Z" } : Jvm.MethodName)) ∈ gW := gW_of (i := 331) (by decide +kernel) (by decide +kernel)
theorem kw_333 : (Jvm.Cond.instanceMethod ({ cls := "GuardVolume", name := "storeList", desc := "(III)Z" } : Jvm.MethodName)) ∈ gW := gW_of (i := 333) (by decide +kernel) (by decide +kernel)
theorem kw_334 : (Jvm.Cond.code ({ cls := "GuardVolume", name := "storeList", desc := "(III)Z" } : Jvm.MethodName) prog_1_method_29_code (8 : Nat) (Option.some Jvm.ClassFile.FieldType.boolean)) ∈ gW := gW_of (i := 334) (by decide +kernel) (by decide +kernel)
theorem kw_335 : (Jvm.Cond.methodLink "GuardVolume" (184 : Nat) ({ cls := "java/util/Arrays", name := "fill", desc := "([II)V" } : Jvm.MethodName)) ∈ gW := gW_of (i := 335) (by decide +kernel) (by decide +kernel)
theorem kw_336 : (Jvm.Cond.static ({ cls := "java/util/Arrays", name := "fill", desc := "([II)V" } : Jvm.MethodName)) ∈ gW := gW_of (i := 336) (by decide +kernel) (by decide +kernel)
theorem kw_337 : (Jvm.Cond.code ({ cls := "java/util/Arrays", name := "fill", desc := "([II)V" } : Jvm.MethodName) prog_17_method_103_code (4 : Nat) (Option.none : Option Jvm.ClassFile.FieldType)) ∈ gW := gW_of (i := 337) (by decide +kernel) (by decide +kernel)
theorem kw_338 : (Jvm.Cond.methodLink "GuardVolumeLaw" (79 : Nat) ({ cls := "GuardVolumeLaw", name := "read", desc := "(LGuardVolume;II[J)I" } : Jvm.MethodName)) ∈ gW := gW_of (i := 338) (by decide +kernel) (by decide +kernel)
theorem kw_339 : (Jvm.Cond.static ({ cls := "GuardVolumeLaw", name := "read", desc := "(LGuardVolume;II[J)I" } : Jvm.MethodName)) ∈ gW := gW_of (i := 339) (by decide +kernel) (by decide +kernel)
theorem kw_340 : (Jvm.Cond.codeWith ({ cls := "GuardVolumeLaw", name := "read", desc := "(LGuardVolume;II[J)I" } : Jvm.MethodName) method_4_code (5 : Nat) (Option.some Jvm.ClassFile.FieldType.int) [((0 : Nat), (10 : Nat), (13 : Nat), (13 : Nat)), ((0 : Nat), (10 : Nat), (17 : Nat), (15 : Nat))]) ∈ gW := gW_of (i := 340) (by decide +kernel) (by decide +kernel)
theorem kw_341 : (Jvm.Cond.methodLink "GuardVolumeLaw" (19 : Nat) ({ cls := "GuardVolume", name := "read", desc := "(II)I" } : Jvm.MethodName)) ∈ gW := gW_of (i := 341) (by decide +kernel) (by decide +kernel)
theorem kw_342 : (Jvm.Cond.instanceMethod ({ cls := "GuardVolume", name := "read", desc := "(II)I" } : Jvm.MethodName)) ∈ gW := gW_of (i := 342) (by decide +kernel) (by decide +kernel)
theorem kw_343 : (Jvm.Cond.selects "GuardVolume" ({ cls := "GuardVolume", name := "read", desc := "(II)I" } : Jvm.MethodName) ({ cls := "GuardVolume", name := "read", desc := "(II)I" } : Jvm.MethodName)) ∈ gW := gW_of (i := 343) (by decide +kernel) (by decide +kernel)
theorem kw_344 : (Jvm.Cond.code ({ cls := "GuardVolume", name := "read", desc := "(II)I" } : Jvm.MethodName) prog_1_method_3_code (4 : Nat) (Option.some Jvm.ClassFile.FieldType.int)) ∈ gW := gW_of (i := 344) (by decide +kernel) (by decide +kernel)
theorem kw_345 : (Jvm.Cond.methodLink "GuardVolumeLaw" (87 : Nat) ({ cls := "GuardVolumeLaw", name := "plan", desc := "(LGuardVolume;IIII)I" } : Jvm.MethodName)) ∈ gW := gW_of (i := 345) (by decide +kernel) (by decide +kernel)
theorem kw_346 : (Jvm.Cond.static ({ cls := "GuardVolumeLaw", name := "plan", desc := "(LGuardVolume;IIII)I" } : Jvm.MethodName)) ∈ gW := gW_of (i := 346) (by decide +kernel) (by decide +kernel)
theorem kw_347 : (Jvm.Cond.codeWith ({ cls := "GuardVolumeLaw", name := "plan", desc := "(LGuardVolume;IIII)I" } : Jvm.MethodName) method_5_code (6 : Nat) (Option.some Jvm.ClassFile.FieldType.int) [((0 : Nat), (9 : Nat), (12 : Nat), (13 : Nat)), ((0 : Nat), (9 : Nat), (16 : Nat), (27 : Nat)), ((0 : Nat), (9 : Nat), (20 : Nat), (17 : Nat))]) ∈ gW := gW_of (i := 347) (by decide +kernel) (by decide +kernel)
theorem kw_348 : (Jvm.Cond.classLink "GuardVolumeLaw" (27 : Nat) "java/lang/IllegalArgumentException") ∈ gW := gW_of (i := 348) (by decide +kernel) (by decide +kernel)
theorem kw_349 : (Jvm.Cond.methodLink "GuardVolumeLaw" (23 : Nat) ({ cls := "GuardVolume", name := "plan", desc := "(IIII)V" } : Jvm.MethodName)) ∈ gW := gW_of (i := 349) (by decide +kernel) (by decide +kernel)
theorem kw_350 : (Jvm.Cond.instanceMethod ({ cls := "GuardVolume", name := "plan", desc := "(IIII)V" } : Jvm.MethodName)) ∈ gW := gW_of (i := 350) (by decide +kernel) (by decide +kernel)
theorem kw_351 : (Jvm.Cond.selects "GuardVolume" ({ cls := "GuardVolume", name := "plan", desc := "(IIII)V" } : Jvm.MethodName) ({ cls := "GuardVolume", name := "plan", desc := "(IIII)V" } : Jvm.MethodName)) ∈ gW := gW_of (i := 351) (by decide +kernel) (by decide +kernel)
theorem kw_352 : (Jvm.Cond.code ({ cls := "GuardVolume", name := "plan", desc := "(IIII)V" } : Jvm.MethodName) prog_1_method_5_code (5 : Nat) (Option.none : Option Jvm.ClassFile.FieldType)) ∈ gW := gW_of (i := 352) (by decide +kernel) (by decide +kernel)
theorem kw_353 : (Jvm.Cond.methodLink "GuardVolume" (109 : Nat) ({ cls := "GuardVolume", name := "isPlan", desc := "(II)Z" } : Jvm.MethodName)) ∈ gW := gW_of (i := 353) (by decide +kernel) (by decide +kernel)
theorem kw_354 : (Jvm.Cond.static ({ cls := "GuardVolume", name := "isPlan", desc := "(II)Z" } : Jvm.MethodName)) ∈ gW := gW_of (i := 354) (by decide +kernel) (by decide +kernel)
theorem kw_355 : (Jvm.Cond.code ({ cls := "GuardVolume", name := "isPlan", desc := "(II)Z" } : Jvm.MethodName) prog_1_method_19_code (2 : Nat) (Option.some Jvm.ClassFile.FieldType.boolean)) ∈ gW := gW_of (i := 355) (by decide +kernel) (by decide +kernel)
theorem kn_356 : (Jvm.Cond.methodLinkNest "GuardVolume" (112 : Nat) ({ cls := "GuardVolume$Drive", name := "planOfNext", desc := "(I)I" } : Jvm.MethodName) "GuardVolume") ∈ nW := nW_of (i := 356) (by decide +kernel) rfl
theorem kw_357 : (Jvm.Cond.classLink "GuardVolume" (115 : Nat) "java/lang/IllegalArgumentException") ∈ gW := gW_of (i := 357) (by decide +kernel) (by decide +kernel)
theorem kw_358 : (Jvm.Cond.instantiable "java/lang/IllegalArgumentException" (6 : Nat)) ∈ gW := gW_of (i := 358) (by decide +kernel) (by decide +kernel)
theorem kn_359 : (Jvm.Cond.castable "java/lang/IllegalArgumentException" "java/lang/IllegalArgumentException") ∈ nW := nW_of (i := 359) (by decide +kernel) rfl
theorem kw_360 : (Jvm.Cond.selects "java/lang/IllegalArgumentException" ({ cls := "java/lang/Throwable", name := "fillInStackTrace", desc := "(I)Ljava/lang/Throwable;" } : Jvm.MethodName) ({ cls := "java/lang/Throwable", name := "fillInStackTrace", desc := "(I)Ljava/lang/Throwable;" } : Jvm.MethodName)) ∈ gW := gW_of (i := 360) (by decide +kernel) (by decide +kernel)
theorem kw_361 : (Jvm.Cond.lays "java/lang/IllegalArgumentException" "java/lang/Throwable" "cause" "Ljava/lang/Throwable;") ∈ gW := gW_of (i := 361) (by decide +kernel) (by decide +kernel)
theorem kw_362 : (Jvm.Cond.lays "java/lang/IllegalArgumentException" "java/lang/Throwable" "stackTrace" "[Ljava/lang/StackTraceElement;") ∈ gW := gW_of (i := 362) (by decide +kernel) (by decide +kernel)
theorem kw_363 : (Jvm.Cond.lays "java/lang/IllegalArgumentException" "java/lang/Throwable" "suppressedExceptions" "Ljava/util/List;") ∈ gW := gW_of (i := 363) (by decide +kernel) (by decide +kernel)
theorem kw_364 : (Jvm.Cond.lays "java/lang/IllegalArgumentException" "java/lang/Throwable" "detailMessage" "Ljava/lang/String;") ∈ gW := gW_of (i := 364) (by decide +kernel) (by decide +kernel)
theorem kw_365 : (Jvm.Cond.lays "java/lang/IllegalArgumentException" "java/lang/Throwable" "backtrace" "Ljava/lang/Object;") ∈ gW := gW_of (i := 365) (by decide +kernel) (by decide +kernel)
theorem kw_366 : (Jvm.Cond.methodLink "GuardVolume" (117 : Nat) ({ cls := "java/lang/IllegalArgumentException", name := "<init>", desc := "()V" } : Jvm.MethodName)) ∈ gW := gW_of (i := 366) (by decide +kernel) (by decide +kernel)
theorem kw_367 : (Jvm.Cond.instanceMethod ({ cls := "java/lang/IllegalArgumentException", name := "<init>", desc := "()V" } : Jvm.MethodName)) ∈ gW := gW_of (i := 367) (by decide +kernel) (by decide +kernel)
theorem kw_368 : (Jvm.Cond.code ({ cls := "java/lang/IllegalArgumentException", name := "<init>", desc := "()V" } : Jvm.MethodName) prog_9_method_1_code (1 : Nat) (Option.none : Option Jvm.ClassFile.FieldType)) ∈ gW := gW_of (i := 368) (by decide +kernel) (by decide +kernel)
theorem kw_369 : (Jvm.Cond.methodLink "java/lang/IllegalArgumentException" (1 : Nat) ({ cls := "java/lang/RuntimeException", name := "<init>", desc := "()V" } : Jvm.MethodName)) ∈ gW := gW_of (i := 369) (by decide +kernel) (by decide +kernel)
theorem kw_370 : (Jvm.Cond.lays "java/lang/IllegalArgumentException" "java/lang/Throwable" "depth" "I") ∈ gW := gW_of (i := 370) (by decide +kernel) (by decide +kernel)
theorem kw_371 : (Jvm.Cond.superclass "java/lang/IllegalArgumentException" "java/lang/RuntimeException") ∈ gW := gW_of (i := 371) (by decide +kernel) (by decide +kernel)
theorem kn_372 : (Jvm.Cond.methodLinkNest "GuardVolume" (121 : Nat) ({ cls := "GuardVolume$Drive", name := "addPlan", desc := "(III)V" } : Jvm.MethodName) "GuardVolume") ∈ nW := nW_of (i := 372) (by decide +kernel) rfl
theorem kw_374 : (Jvm.Cond.instanceMethod ({ cls := "GuardVolume$Drive", name := "addPlan", desc := "(III)V" } : Jvm.MethodName)) ∈ gW := gW_of (i := 374) (by decide +kernel) (by decide +kernel)
theorem kw_375 : (Jvm.Cond.code ({ cls := "GuardVolume$Drive", name := "addPlan", desc := "(III)V" } : Jvm.MethodName) prog_2_method_6_code (4 : Nat) (Option.none : Option Jvm.ClassFile.FieldType)) ∈ gW := gW_of (i := 375) (by decide +kernel) (by decide +kernel)
theorem kw_376 : (Jvm.Cond.methodLink "GuardVolumeLaw" (91 : Nat) ({ cls := "GuardVolumeLaw", name := "cutAfter", desc := "(LGuardVolume;I)I" } : Jvm.MethodName)) ∈ gW := gW_of (i := 376) (by decide +kernel) (by decide +kernel)
theorem kw_377 : (Jvm.Cond.static ({ cls := "GuardVolumeLaw", name := "cutAfter", desc := "(LGuardVolume;I)I" } : Jvm.MethodName)) ∈ gW := gW_of (i := 377) (by decide +kernel) (by decide +kernel)
theorem kw_378 : (Jvm.Cond.codeWith ({ cls := "GuardVolumeLaw", name := "cutAfter", desc := "(LGuardVolume;I)I" } : Jvm.MethodName) method_6_code (3 : Nat) (Option.some Jvm.ClassFile.FieldType.int) [((0 : Nat), (5 : Nat), (8 : Nat), (27 : Nat)), ((0 : Nat), (5 : Nat), (11 : Nat), (15 : Nat))]) ∈ gW := gW_of (i := 378) (by decide +kernel) (by decide +kernel)
theorem kw_379 : (Jvm.Cond.methodLink "GuardVolumeLaw" (29 : Nat) ({ cls := "GuardVolume", name := "cutAfter", desc := "(I)V" } : Jvm.MethodName)) ∈ gW := gW_of (i := 379) (by decide +kernel) (by decide +kernel)
theorem kw_380 : (Jvm.Cond.instanceMethod ({ cls := "GuardVolume", name := "cutAfter", desc := "(I)V" } : Jvm.MethodName)) ∈ gW := gW_of (i := 380) (by decide +kernel) (by decide +kernel)
theorem kw_381 : (Jvm.Cond.selects "GuardVolume" ({ cls := "GuardVolume", name := "cutAfter", desc := "(I)V" } : Jvm.MethodName) ({ cls := "GuardVolume", name := "cutAfter", desc := "(I)V" } : Jvm.MethodName)) ∈ gW := gW_of (i := 381) (by decide +kernel) (by decide +kernel)
theorem kw_382 : (Jvm.Cond.code ({ cls := "GuardVolume", name := "cutAfter", desc := "(I)V" } : Jvm.MethodName) prog_1_method_6_code (2 : Nat) (Option.none : Option Jvm.ClassFile.FieldType)) ∈ gW := gW_of (i := 382) (by decide +kernel) (by decide +kernel)
theorem kw_383 : (Jvm.Cond.methodLink "GuardVolumeLaw" (95 : Nat) ({ cls := "GuardVolumeLaw", name := "start", desc := "(LGuardVolume;[J)I" } : Jvm.MethodName)) ∈ gW := gW_of (i := 383) (by decide +kernel) (by decide +kernel)
theorem kw_384 : (Jvm.Cond.static ({ cls := "GuardVolumeLaw", name := "start", desc := "(LGuardVolume;[J)I" } : Jvm.MethodName)) ∈ gW := gW_of (i := 384) (by decide +kernel) (by decide +kernel)
theorem kw_385 : (Jvm.Cond.codeWith ({ cls := "GuardVolumeLaw", name := "start", desc := "(LGuardVolume;[J)I" } : Jvm.MethodName) method_7_code (3 : Nat) (Option.some Jvm.ClassFile.FieldType.int) [((0 : Nat), (8 : Nat), (11 : Nat), (15 : Nat))]) ∈ gW := gW_of (i := 385) (by decide +kernel) (by decide +kernel)
theorem kw_386 : (Jvm.Cond.methodLink "GuardVolumeLaw" (33 : Nat) ({ cls := "GuardVolume", name := "start", desc := "()I" } : Jvm.MethodName)) ∈ gW := gW_of (i := 386) (by decide +kernel) (by decide +kernel)
theorem kw_387 : (Jvm.Cond.instanceMethod ({ cls := "GuardVolume", name := "start", desc := "()I" } : Jvm.MethodName)) ∈ gW := gW_of (i := 387) (by decide +kernel) (by decide +kernel)
theorem kw_388 : (Jvm.Cond.selects "GuardVolume" ({ cls := "GuardVolume", name := "start", desc := "()I" } : Jvm.MethodName) ({ cls := "GuardVolume", name := "start", desc := "()I" } : Jvm.MethodName)) ∈ gW := gW_of (i := 388) (by decide +kernel) (by decide +kernel)
theorem kw_389 : (Jvm.Cond.code ({ cls := "GuardVolume", name := "start", desc := "()I" } : Jvm.MethodName) prog_1_method_7_code (2 : Nat) (Option.some Jvm.ClassFile.FieldType.int)) ∈ gW := gW_of (i := 389) (by decide +kernel) (by decide +kernel)
theorem kw_390 : (Jvm.Cond.methodLink "GuardVolumeLaw" (99 : Nat) ({ cls := "GuardVolumeLaw", name := "scrub", desc := "(LGuardVolume;I[J)I" } : Jvm.MethodName)) ∈ gW := gW_of (i := 390) (by decide +kernel) (by decide +kernel)
theorem kw_391 : (Jvm.Cond.static ({ cls := "GuardVolumeLaw", name := "scrub", desc := "(LGuardVolume;I[J)I" } : Jvm.MethodName)) ∈ gW := gW_of (i := 391) (by decide +kernel) (by decide +kernel)
theorem kw_392 : (Jvm.Cond.codeWith ({ cls := "GuardVolumeLaw", name := "scrub", desc := "(LGuardVolume;I[J)I" } : Jvm.MethodName) method_8_code (4 : Nat) (Option.some Jvm.ClassFile.FieldType.int) [((0 : Nat), (9 : Nat), (12 : Nat), (15 : Nat)), ((0 : Nat), (9 : Nat), (15 : Nat), (27 : Nat))]) ∈ gW := gW_of (i := 392) (by decide +kernel) (by decide +kernel)
theorem kw_393 : (Jvm.Cond.methodLink "GuardVolumeLaw" (37 : Nat) ({ cls := "GuardVolume", name := "scrub", desc := "(I)I" } : Jvm.MethodName)) ∈ gW := gW_of (i := 393) (by decide +kernel) (by decide +kernel)
theorem kw_394 : (Jvm.Cond.instanceMethod ({ cls := "GuardVolume", name := "scrub", desc := "(I)I" } : Jvm.MethodName)) ∈ gW := gW_of (i := 394) (by decide +kernel) (by decide +kernel)
theorem kw_395 : (Jvm.Cond.selects "GuardVolume" ({ cls := "GuardVolume", name := "scrub", desc := "(I)I" } : Jvm.MethodName) ({ cls := "GuardVolume", name := "scrub", desc := "(I)I" } : Jvm.MethodName)) ∈ gW := gW_of (i := 395) (by decide +kernel) (by decide +kernel)
theorem kw_396 : (Jvm.Cond.code ({ cls := "GuardVolume", name := "scrub", desc := "(I)I" } : Jvm.MethodName) prog_1_method_8_code (4 : Nat) (Option.some Jvm.ClassFile.FieldType.int)) ∈ gW := gW_of (i := 396) (by decide +kernel) (by decide +kernel)
theorem kw_397 : (Jvm.Cond.methodLink "GuardVolume" (134 : Nat) ({ cls := "GuardVolume", name := "scrubBlock", desc := "(I)Z" } : Jvm.MethodName)) ∈ gW := gW_of (i := 397) (by decide +kernel) (by decide +kernel)
theorem kw_399 : (Jvm.Cond.instanceMethod ({ cls := "GuardVolume", name := "scrubBlock", desc := "(I)Z" } : Jvm.MethodName)) ∈ gW := gW_of (i := 399) (by decide +kernel) (by decide +kernel)
theorem kw_400 : (Jvm.Cond.code ({ cls := "GuardVolume", name := "scrubBlock", desc := "(I)Z" } : Jvm.MethodName) prog_1_method_32_code (2 : Nat) (Option.some Jvm.ClassFile.FieldType.boolean)) ∈ gW := gW_of (i := 400) (by decide +kernel) (by decide +kernel)
theorem kw_401 : (Jvm.Cond.methodLink "GuardVolume" (200 : Nat) ({ cls := "GuardVolume", name := "mendList", desc := "(II)Z" } : Jvm.MethodName)) ∈ gW := gW_of (i := 401) (by decide +kernel) (by decide +kernel)
theorem kw_403 : (Jvm.Cond.instanceMethod ({ cls := "GuardVolume", name := "mendList", desc := "(II)Z" } : Jvm.MethodName)) ∈ gW := gW_of (i := 403) (by decide +kernel) (by decide +kernel)
theorem kw_404 : (Jvm.Cond.code ({ cls := "GuardVolume", name := "mendList", desc := "(II)Z" } : Jvm.MethodName) prog_1_method_33_code (5 : Nat) (Option.some Jvm.ClassFile.FieldType.boolean)) ∈ gW := gW_of (i := 404) (by decide +kernel) (by decide +kernel)
theorem kn_405 : (Jvm.Cond.methodLinkNest "GuardVolume" (206 : Nat) ({ cls := "GuardVolume$Findings", name := "tell", desc := "(IIII)V" } : Jvm.MethodName) "GuardVolume") ∈ nW := nW_of (i := 405) (by decide +kernel) rfl
theorem kw_407 : (Jvm.Cond.instanceMethod ({ cls := "GuardVolume$Findings", name := "tell", desc := "(IIII)V" } : Jvm.MethodName)) ∈ gW := gW_of (i := 407) (by decide +kernel) (by decide +kernel)
theorem kw_408 : (Jvm.Cond.code ({ cls := "GuardVolume$Findings", name := "tell", desc := "(IIII)V" } : Jvm.MethodName) prog_3_method_2_code (6 : Nat) (Option.none : Option Jvm.ClassFile.FieldType)) ∈ gW := gW_of (i := 408) (by decide +kernel) (by decide +kernel)
theorem kw_409 : (Jvm.Cond.methodLink "GuardVolume" (203 : Nat) ({ cls := "GuardVolume", name := "mendCopies", desc := "(I)Z" } : Jvm.MethodName)) ∈ gW := gW_of (i := 409) (by decide +kernel) (by decide +kernel)
theorem kw_411 : (Jvm.Cond.instanceMethod ({ cls := "GuardVolume", name := "mendCopies", desc := "(I)Z" } : Jvm.MethodName)) ∈ gW := gW_of (i := 411) (by decide +kernel) (by decide +kernel)
theorem kw_412 : (Jvm.Cond.code ({ cls := "GuardVolume", name := "mendCopies", desc := "(I)Z" } : Jvm.MethodName) prog_1_method_34_code (5 : Nat) (Option.some Jvm.ClassFile.FieldType.boolean)) ∈ gW := gW_of (i := 412) (by decide +kernel) (by decide +kernel)
theorem kw_413 : (Jvm.Cond.methodLink "GuardVolumeLaw" (108 : Nat) ({ cls := "GuardVolumeLaw", name := "finding", desc := "(LGuardVolume;II[J)I" } : Jvm.MethodName)) ∈ gW := gW_of (i := 413) (by decide +kernel) (by decide +kernel)
theorem kw_414 : (Jvm.Cond.static ({ cls := "GuardVolumeLaw", name := "finding", desc := "(LGuardVolume;II[J)I" } : Jvm.MethodName)) ∈ gW := gW_of (i := 414) (by decide +kernel) (by decide +kernel)
theorem kw_415 : (Jvm.Cond.codeWith ({ cls := "GuardVolumeLaw", name := "finding", desc := "(LGuardVolume;II[J)I" } : Jvm.MethodName) method_9_code (5 : Nat) (Option.some Jvm.ClassFile.FieldType.int) [((0 : Nat), (10 : Nat), (13 : Nat), (13 : Nat))]) ∈ gW := gW_of (i := 415) (by decide +kernel) (by decide +kernel)
theorem kw_416 : (Jvm.Cond.methodLink "GuardVolumeLaw" (41 : Nat) ({ cls := "GuardVolume", name := "finding", desc := "(II)I" } : Jvm.MethodName)) ∈ gW := gW_of (i := 416) (by decide +kernel) (by decide +kernel)
theorem kw_417 : (Jvm.Cond.instanceMethod ({ cls := "GuardVolume", name := "finding", desc := "(II)I" } : Jvm.MethodName)) ∈ gW := gW_of (i := 417) (by decide +kernel) (by decide +kernel)
theorem kw_418 : (Jvm.Cond.selects "GuardVolume" ({ cls := "GuardVolume", name := "finding", desc := "(II)I" } : Jvm.MethodName) ({ cls := "GuardVolume", name := "finding", desc := "(II)I" } : Jvm.MethodName)) ∈ gW := gW_of (i := 418) (by decide +kernel) (by decide +kernel)
theorem kw_419 : (Jvm.Cond.code ({ cls := "GuardVolume", name := "finding", desc := "(II)I" } : Jvm.MethodName) prog_1_method_10_code (3 : Nat) (Option.some Jvm.ClassFile.FieldType.int)) ∈ gW := gW_of (i := 419) (by decide +kernel) (by decide +kernel)
theorem kw_420 : (Jvm.Cond.methodLink "GuardVolumeLaw" (111 : Nat) ({ cls := "GuardVolumeLaw", name := "expected", desc := "(LGuardVolume;II[J)I" } : Jvm.MethodName)) ∈ gW := gW_of (i := 420) (by decide +kernel) (by decide +kernel)
theorem kw_421 : (Jvm.Cond.static ({ cls := "GuardVolumeLaw", name := "expected", desc := "(LGuardVolume;II[J)I" } : Jvm.MethodName)) ∈ gW := gW_of (i := 421) (by decide +kernel) (by decide +kernel)
theorem kw_422 : (Jvm.Cond.codeWith ({ cls := "GuardVolumeLaw", name := "expected", desc := "(LGuardVolume;II[J)I" } : Jvm.MethodName) method_10_code (5 : Nat) (Option.some Jvm.ClassFile.FieldType.int) [((0 : Nat), (10 : Nat), (13 : Nat), (13 : Nat))]) ∈ gW := gW_of (i := 422) (by decide +kernel) (by decide +kernel)
theorem kw_423 : (Jvm.Cond.methodLink "GuardVolumeLaw" (44 : Nat) ({ cls := "GuardVolume", name := "expected", desc := "(II)I" } : Jvm.MethodName)) ∈ gW := gW_of (i := 423) (by decide +kernel) (by decide +kernel)
theorem kw_424 : (Jvm.Cond.instanceMethod ({ cls := "GuardVolume", name := "expected", desc := "(II)I" } : Jvm.MethodName)) ∈ gW := gW_of (i := 424) (by decide +kernel) (by decide +kernel)
theorem kw_425 : (Jvm.Cond.selects "GuardVolume" ({ cls := "GuardVolume", name := "expected", desc := "(II)I" } : Jvm.MethodName) ({ cls := "GuardVolume", name := "expected", desc := "(II)I" } : Jvm.MethodName)) ∈ gW := gW_of (i := 425) (by decide +kernel) (by decide +kernel)
theorem kw_426 : (Jvm.Cond.code ({ cls := "GuardVolume", name := "expected", desc := "(II)I" } : Jvm.MethodName) prog_1_method_11_code (3 : Nat) (Option.some Jvm.ClassFile.FieldType.int)) ∈ gW := gW_of (i := 426) (by decide +kernel) (by decide +kernel)
theorem kw_427 : (Jvm.Cond.methodLink "GuardVolumeLaw" (114 : Nat) ({ cls := "GuardVolumeLaw", name := "verdict", desc := "(LGuardVolume;II[J)I" } : Jvm.MethodName)) ∈ gW := gW_of (i := 427) (by decide +kernel) (by decide +kernel)
theorem kw_428 : (Jvm.Cond.static ({ cls := "GuardVolumeLaw", name := "verdict", desc := "(LGuardVolume;II[J)I" } : Jvm.MethodName)) ∈ gW := gW_of (i := 428) (by decide +kernel) (by decide +kernel)
theorem kw_429 : (Jvm.Cond.codeWith ({ cls := "GuardVolumeLaw", name := "verdict", desc := "(LGuardVolume;II[J)I" } : Jvm.MethodName) method_11_code (5 : Nat) (Option.some Jvm.ClassFile.FieldType.int) [((0 : Nat), (10 : Nat), (13 : Nat), (13 : Nat))]) ∈ gW := gW_of (i := 429) (by decide +kernel) (by decide +kernel)
theorem kw_430 : (Jvm.Cond.methodLink "GuardVolumeLaw" (47 : Nat) ({ cls := "GuardVolume", name := "verdict", desc := "(II)I" } : Jvm.MethodName)) ∈ gW := gW_of (i := 430) (by decide +kernel) (by decide +kernel)
theorem kw_431 : (Jvm.Cond.instanceMethod ({ cls := "GuardVolume", name := "verdict", desc := "(II)I" } : Jvm.MethodName)) ∈ gW := gW_of (i := 431) (by decide +kernel) (by decide +kernel)
theorem kw_432 : (Jvm.Cond.selects "GuardVolume" ({ cls := "GuardVolume", name := "verdict", desc := "(II)I" } : Jvm.MethodName) ({ cls := "GuardVolume", name := "verdict", desc := "(II)I" } : Jvm.MethodName)) ∈ gW := gW_of (i := 432) (by decide +kernel) (by decide +kernel)
theorem kw_433 : (Jvm.Cond.code ({ cls := "GuardVolume", name := "verdict", desc := "(II)I" } : Jvm.MethodName) prog_1_method_12_code (3 : Nat) (Option.some Jvm.ClassFile.FieldType.int)) ∈ gW := gW_of (i := 433) (by decide +kernel) (by decide +kernel)
theorem kw_434 : (Jvm.Cond.methodLink "GuardVolumeLaw" (117 : Nat) ({ cls := "GuardVolumeLaw", name := "isRight", desc := "(LGuardVolume;II[J)I" } : Jvm.MethodName)) ∈ gW := gW_of (i := 434) (by decide +kernel) (by decide +kernel)
theorem kw_435 : (Jvm.Cond.static ({ cls := "GuardVolumeLaw", name := "isRight", desc := "(LGuardVolume;II[J)I" } : Jvm.MethodName)) ∈ gW := gW_of (i := 435) (by decide +kernel) (by decide +kernel)
theorem kw_436 : (Jvm.Cond.codeWith ({ cls := "GuardVolumeLaw", name := "isRight", desc := "(LGuardVolume;II[J)I" } : Jvm.MethodName) method_12_code (5 : Nat) (Option.some Jvm.ClassFile.FieldType.int) [((0 : Nat), (17 : Nat), (20 : Nat), (13 : Nat))]) ∈ gW := gW_of (i := 436) (by decide +kernel) (by decide +kernel)
theorem kw_437 : (Jvm.Cond.methodLink "GuardVolumeLaw" (50 : Nat) ({ cls := "GuardVolume", name := "isRight", desc := "(II)Z" } : Jvm.MethodName)) ∈ gW := gW_of (i := 437) (by decide +kernel) (by decide +kernel)
theorem kw_438 : (Jvm.Cond.instanceMethod ({ cls := "GuardVolume", name := "isRight", desc := "(II)Z" } : Jvm.MethodName)) ∈ gW := gW_of (i := 438) (by decide +kernel) (by decide +kernel)
theorem kw_439 : (Jvm.Cond.selects "GuardVolume" ({ cls := "GuardVolume", name := "isRight", desc := "(II)Z" } : Jvm.MethodName) ({ cls := "GuardVolume", name := "isRight", desc := "(II)Z" } : Jvm.MethodName)) ∈ gW := gW_of (i := 439) (by decide +kernel) (by decide +kernel)
theorem kw_440 : (Jvm.Cond.code ({ cls := "GuardVolume", name := "isRight", desc := "(II)Z" } : Jvm.MethodName) prog_1_method_13_code (3 : Nat) (Option.some Jvm.ClassFile.FieldType.boolean)) ∈ gW := gW_of (i := 440) (by decide +kernel) (by decide +kernel)
theorem kw_441 : (Jvm.Cond.methodLink "GuardVolumeLaw" (120 : Nat) ({ cls := "GuardVolumeLaw", name := "raw", desc := "(LGuardVolume;III[J)I" } : Jvm.MethodName)) ∈ gW := gW_of (i := 441) (by decide +kernel) (by decide +kernel)
theorem kw_442 : (Jvm.Cond.static ({ cls := "GuardVolumeLaw", name := "raw", desc := "(LGuardVolume;III[J)I" } : Jvm.MethodName)) ∈ gW := gW_of (i := 442) (by decide +kernel) (by decide +kernel)
theorem kw_443 : (Jvm.Cond.codeWith ({ cls := "GuardVolumeLaw", name := "raw", desc := "(LGuardVolume;III[J)I" } : Jvm.MethodName) method_13_code (6 : Nat) (Option.some Jvm.ClassFile.FieldType.int) [((0 : Nat), (12 : Nat), (15 : Nat), (13 : Nat))]) ∈ gW := gW_of (i := 443) (by decide +kernel) (by decide +kernel)
theorem kw_444 : (Jvm.Cond.methodLink "GuardVolumeLaw" (54 : Nat) ({ cls := "GuardVolume", name := "raw", desc := "(III)I" } : Jvm.MethodName)) ∈ gW := gW_of (i := 444) (by decide +kernel) (by decide +kernel)
theorem kw_445 : (Jvm.Cond.instanceMethod ({ cls := "GuardVolume", name := "raw", desc := "(III)I" } : Jvm.MethodName)) ∈ gW := gW_of (i := 445) (by decide +kernel) (by decide +kernel)
theorem kw_446 : (Jvm.Cond.selects "GuardVolume" ({ cls := "GuardVolume", name := "raw", desc := "(III)I" } : Jvm.MethodName) ({ cls := "GuardVolume", name := "raw", desc := "(III)I" } : Jvm.MethodName)) ∈ gW := gW_of (i := 446) (by decide +kernel) (by decide +kernel)
theorem kw_447 : (Jvm.Cond.code ({ cls := "GuardVolume", name := "raw", desc := "(III)I" } : Jvm.MethodName) prog_1_method_14_code (4 : Nat) (Option.some Jvm.ClassFile.FieldType.int)) ∈ gW := gW_of (i := 447) (by decide +kernel) (by decide +kernel)
theorem kw_448 : (Jvm.Cond.methodLink "GuardVolumeLaw" (123 : Nat) ({ cls := "GuardVolumeLaw", name := "replace", desc := "(LGuardVolume;I)I" } : Jvm.MethodName)) ∈ gW := gW_of (i := 448) (by decide +kernel) (by decide +kernel)
theorem kw_449 : (Jvm.Cond.static ({ cls := "GuardVolumeLaw", name := "replace", desc := "(LGuardVolume;I)I" } : Jvm.MethodName)) ∈ gW := gW_of (i := 449) (by decide +kernel) (by decide +kernel)
theorem kw_450 : (Jvm.Cond.codeWith ({ cls := "GuardVolumeLaw", name := "replace", desc := "(LGuardVolume;I)I" } : Jvm.MethodName) method_14_code (3 : Nat) (Option.some Jvm.ClassFile.FieldType.int) [((0 : Nat), (5 : Nat), (8 : Nat), (13 : Nat)), ((0 : Nat), (5 : Nat), (11 : Nat), (15 : Nat))]) ∈ gW := gW_of (i := 450) (by decide +kernel) (by decide +kernel)
theorem kw_451 : (Jvm.Cond.methodLink "GuardVolumeLaw" (57 : Nat) ({ cls := "GuardVolume", name := "replace", desc := "(I)V" } : Jvm.MethodName)) ∈ gW := gW_of (i := 451) (by decide +kernel) (by decide +kernel)
theorem kw_452 : (Jvm.Cond.instanceMethod ({ cls := "GuardVolume", name := "replace", desc := "(I)V" } : Jvm.MethodName)) ∈ gW := gW_of (i := 452) (by decide +kernel) (by decide +kernel)
theorem kw_453 : (Jvm.Cond.selects "GuardVolume" ({ cls := "GuardVolume", name := "replace", desc := "(I)V" } : Jvm.MethodName) ({ cls := "GuardVolume", name := "replace", desc := "(I)V" } : Jvm.MethodName)) ∈ gW := gW_of (i := 453) (by decide +kernel) (by decide +kernel)
theorem kw_454 : (Jvm.Cond.code ({ cls := "GuardVolume", name := "replace", desc := "(I)V" } : Jvm.MethodName) prog_1_method_15_code (2 : Nat) (Option.none : Option Jvm.ClassFile.FieldType)) ∈ gW := gW_of (i := 454) (by decide +kernel) (by decide +kernel)
theorem kn_455 : (Jvm.Cond.methodLinkNest "GuardVolume" (153 : Nat) ({ cls := "GuardVolume$Drive", name := "wipe", desc := "()V" } : Jvm.MethodName) "GuardVolume") ∈ nW := nW_of (i := 455) (by decide +kernel) rfl
theorem kw_457 : (Jvm.Cond.instanceMethod ({ cls := "GuardVolume$Drive", name := "wipe", desc := "()V" } : Jvm.MethodName)) ∈ gW := gW_of (i := 457) (by decide +kernel) (by decide +kernel)
theorem kw_458 : (Jvm.Cond.code ({ cls := "GuardVolume$Drive", name := "wipe", desc := "()V" } : Jvm.MethodName) prog_2_method_4_code (1 : Nat) (Option.none : Option Jvm.ClassFile.FieldType)) ∈ gW := gW_of (i := 458) (by decide +kernel) (by decide +kernel)
theorem kw_459 : (Jvm.Cond.methodLink "GuardVolume$Drive" (41 : Nat) ({ cls := "java/util/Arrays", name := "fill", desc := "([II)V" } : Jvm.MethodName)) ∈ gW := gW_of (i := 459) (by decide +kernel) (by decide +kernel)
theorem kw_460 : (Jvm.Cond.methodLink "GuardVolumeLaw" (126 : Nat) ({ cls := "GuardVolumeLaw", name := "rebuild", desc := "(LGuardVolume;I[J)I" } : Jvm.MethodName)) ∈ gW := gW_of (i := 460) (by decide +kernel) (by decide +kernel)
theorem kw_461 : (Jvm.Cond.static ({ cls := "GuardVolumeLaw", name := "rebuild", desc := "(LGuardVolume;I[J)I" } : Jvm.MethodName)) ∈ gW := gW_of (i := 461) (by decide +kernel) (by decide +kernel)
theorem kw_462 : (Jvm.Cond.codeWith ({ cls := "GuardVolumeLaw", name := "rebuild", desc := "(LGuardVolume;I[J)I" } : Jvm.MethodName) method_15_code (4 : Nat) (Option.some Jvm.ClassFile.FieldType.int) [((0 : Nat), (9 : Nat), (12 : Nat), (13 : Nat)), ((0 : Nat), (9 : Nat), (15 : Nat), (15 : Nat))]) ∈ gW := gW_of (i := 462) (by decide +kernel) (by decide +kernel)
theorem kw_463 : (Jvm.Cond.methodLink "GuardVolumeLaw" (60 : Nat) ({ cls := "GuardVolume", name := "rebuild", desc := "(I)I" } : Jvm.MethodName)) ∈ gW := gW_of (i := 463) (by decide +kernel) (by decide +kernel)
theorem kw_464 : (Jvm.Cond.instanceMethod ({ cls := "GuardVolume", name := "rebuild", desc := "(I)I" } : Jvm.MethodName)) ∈ gW := gW_of (i := 464) (by decide +kernel) (by decide +kernel)
theorem kw_465 : (Jvm.Cond.selects "GuardVolume" ({ cls := "GuardVolume", name := "rebuild", desc := "(I)I" } : Jvm.MethodName) ({ cls := "GuardVolume", name := "rebuild", desc := "(I)I" } : Jvm.MethodName)) ∈ gW := gW_of (i := 465) (by decide +kernel) (by decide +kernel)
theorem kw_466 : (Jvm.Cond.code ({ cls := "GuardVolume", name := "rebuild", desc := "(I)I" } : Jvm.MethodName) prog_1_method_16_code (5 : Nat) (Option.some Jvm.ClassFile.FieldType.int)) ∈ gW := gW_of (i := 466) (by decide +kernel) (by decide +kernel)
theorem kw_467 : (Jvm.Cond.methodLink "GuardVolume" (156 : Nat) ({ cls := "GuardVolume", name := "rebuildBlock", desc := "(III)Z" } : Jvm.MethodName)) ∈ gW := gW_of (i := 467) (by decide +kernel) (by decide +kernel)
theorem kw_469 : (Jvm.Cond.instanceMethod ({ cls := "GuardVolume", name := "rebuildBlock", desc := "(III)Z" } : Jvm.MethodName)) ∈ gW := gW_of (i := 469) (by decide +kernel) (by decide +kernel)
theorem kw_470 : (Jvm.Cond.code ({ cls := "GuardVolume", name := "rebuildBlock", desc := "(III)Z" } : Jvm.MethodName) prog_1_method_35_code (5 : Nat) (Option.some Jvm.ClassFile.FieldType.boolean)) ∈ gW := gW_of (i := 470) (by decide +kernel) (by decide +kernel)
theorem kw_471 : (Jvm.Cond.methodLink "GuardVolumeLaw" (129 : Nat) ({ cls := "GuardVolumeLaw", name := "count", desc := "(LGuardVolume;I[J)I" } : Jvm.MethodName)) ∈ gW := gW_of (i := 471) (by decide +kernel) (by decide +kernel)
theorem kw_472 : (Jvm.Cond.static ({ cls := "GuardVolumeLaw", name := "count", desc := "(LGuardVolume;I[J)I" } : Jvm.MethodName)) ∈ gW := gW_of (i := 472) (by decide +kernel) (by decide +kernel)
theorem kw_473 : (Jvm.Cond.codeWith ({ cls := "GuardVolumeLaw", name := "count", desc := "(LGuardVolume;I[J)I" } : Jvm.MethodName) method_16_code (4 : Nat) (Option.some Jvm.ClassFile.FieldType.int) [((0 : Nat), (9 : Nat), (12 : Nat), (13 : Nat))]) ∈ gW := gW_of (i := 473) (by decide +kernel) (by decide +kernel)
theorem kw_474 : (Jvm.Cond.methodLink "GuardVolumeLaw" (63 : Nat) ({ cls := "GuardVolume", name := "count", desc := "(I)I" } : Jvm.MethodName)) ∈ gW := gW_of (i := 474) (by decide +kernel) (by decide +kernel)
theorem kw_475 : (Jvm.Cond.instanceMethod ({ cls := "GuardVolume", name := "count", desc := "(I)I" } : Jvm.MethodName)) ∈ gW := gW_of (i := 475) (by decide +kernel) (by decide +kernel)
theorem kw_476 : (Jvm.Cond.selects "GuardVolume" ({ cls := "GuardVolume", name := "count", desc := "(I)I" } : Jvm.MethodName) ({ cls := "GuardVolume", name := "count", desc := "(I)I" } : Jvm.MethodName)) ∈ gW := gW_of (i := 476) (by decide +kernel) (by decide +kernel)
theorem kw_477 : (Jvm.Cond.code ({ cls := "GuardVolume", name := "count", desc := "(I)I" } : Jvm.MethodName) prog_1_method_17_code (2 : Nat) (Option.some Jvm.ClassFile.FieldType.int)) ∈ gW := gW_of (i := 477) (by decide +kernel) (by decide +kernel)
theorem kw_478 : (Jvm.Cond.methodLink "GuardVolume" (160 : Nat) ({ cls := "GuardVolume", name := "greatestPageVersion", desc := "()I" } : Jvm.MethodName)) ∈ gW := gW_of (i := 478) (by decide +kernel) (by decide +kernel)
theorem kw_480 : (Jvm.Cond.instanceMethod ({ cls := "GuardVolume", name := "greatestPageVersion", desc := "()I" } : Jvm.MethodName)) ∈ gW := gW_of (i := 480) (by decide +kernel) (by decide +kernel)
theorem kw_481 : (Jvm.Cond.code ({ cls := "GuardVolume", name := "greatestPageVersion", desc := "()I" } : Jvm.MethodName) prog_1_method_36_code (3 : Nat) (Option.some Jvm.ClassFile.FieldType.int)) ∈ gW := gW_of (i := 481) (by decide +kernel) (by decide +kernel)
theorem kw_482 : (Jvm.Cond.methodLink "GuardVolume" (210 : Nat) ({ cls := "java/lang/Math", name := "max", desc := "(II)I" } : Jvm.MethodName)) ∈ gW := gW_of (i := 482) (by decide +kernel) (by decide +kernel)
theorem kw_483 : (Jvm.Cond.static ({ cls := "java/lang/Math", name := "max", desc := "(II)I" } : Jvm.MethodName)) ∈ gW := gW_of (i := 483) (by decide +kernel) (by decide +kernel)
theorem kw_484 : (Jvm.Cond.code ({ cls := "java/lang/Math", name := "max", desc := "(II)I" } : Jvm.MethodName) prog_12_method_65_code (2 : Nat) (Option.some Jvm.ClassFile.FieldType.int)) ∈ gW := gW_of (i := 484) (by decide +kernel) (by decide +kernel)
theorem kw_485 : (Jvm.Cond.classLink "GuardVolumeLaw" (67 : Nat) "GuardVolumeModel") ∈ gW := gW_of (i := 485) (by decide +kernel) (by decide +kernel)
theorem kw_486 : (Jvm.Cond.instantiable "GuardVolumeModel" (20 : Nat)) ∈ gW := gW_of (i := 486) (by decide +kernel) (by decide +kernel)
theorem kw_487 : (Jvm.Cond.methodLink "GuardVolumeLaw" (69 : Nat) ({ cls := "GuardVolumeModel", name := "<init>", desc := "()V" } : Jvm.MethodName)) ∈ gW := gW_of (i := 487) (by decide +kernel) (by decide +kernel)
theorem kw_488 : (Jvm.Cond.instanceMethod ({ cls := "GuardVolumeModel", name := "<init>", desc := "()V" } : Jvm.MethodName)) ∈ gW := gW_of (i := 488) (by decide +kernel) (by decide +kernel)
theorem kw_489 : (Jvm.Cond.code ({ cls := "GuardVolumeModel", name := "<init>", desc := "()V" } : Jvm.MethodName) prog_7_method_1_code (3 : Nat) (Option.none : Option Jvm.ClassFile.FieldType)) ∈ gW := gW_of (i := 489) (by decide +kernel) (by decide +kernel)
theorem kw_490 : (Jvm.Cond.methodLink "GuardVolumeModel" (1 : Nat) ({ cls := "java/lang/Object", name := "<init>", desc := "()V" } : Jvm.MethodName)) ∈ gW := gW_of (i := 490) (by decide +kernel) (by decide +kernel)
theorem kw_491 : (Jvm.Cond.methodLink "GuardVolumeModel" (50 : Nat) ({ cls := "GuardVolumeModel", name := "place", desc := "(II)I" } : Jvm.MethodName)) ∈ gW := gW_of (i := 491) (by decide +kernel) (by decide +kernel)
theorem kw_492 : (Jvm.Cond.static ({ cls := "GuardVolumeModel", name := "place", desc := "(II)I" } : Jvm.MethodName)) ∈ gW := gW_of (i := 492) (by decide +kernel) (by decide +kernel)
theorem kw_493 : (Jvm.Cond.code ({ cls := "GuardVolumeModel", name := "place", desc := "(II)I" } : Jvm.MethodName) prog_7_method_3_code (2 : Nat) (Option.some Jvm.ClassFile.FieldType.int)) ∈ gW := gW_of (i := 493) (by decide +kernel) (by decide +kernel)
theorem kw_494 : (Jvm.Cond.methodLink "GuardVolumeModel" (54 : Nat) ({ cls := "GuardVolumeModel", name := "sumAt", desc := "(I)I" } : Jvm.MethodName)) ∈ gW := gW_of (i := 494) (by decide +kernel) (by decide +kernel)
theorem kw_496 : (Jvm.Cond.instanceMethod ({ cls := "GuardVolumeModel", name := "sumAt", desc := "(I)I" } : Jvm.MethodName)) ∈ gW := gW_of (i := 496) (by decide +kernel) (by decide +kernel)
theorem kw_497 : (Jvm.Cond.code ({ cls := "GuardVolumeModel", name := "sumAt", desc := "(I)I" } : Jvm.MethodName) prog_7_method_5_code (4 : Nat) (Option.some Jvm.ClassFile.FieldType.int)) ∈ gW := gW_of (i := 497) (by decide +kernel) (by decide +kernel)
theorem kw_498 : (Jvm.Cond.methodLink "GuardVolumeModel" (61 : Nat) ({ cls := "GuardVolumeModel", name := "mix", desc := "(II)I" } : Jvm.MethodName)) ∈ gW := gW_of (i := 498) (by decide +kernel) (by decide +kernel)
theorem kw_499 : (Jvm.Cond.static ({ cls := "GuardVolumeModel", name := "mix", desc := "(II)I" } : Jvm.MethodName)) ∈ gW := gW_of (i := 499) (by decide +kernel) (by decide +kernel)
theorem kw_500 : (Jvm.Cond.code ({ cls := "GuardVolumeModel", name := "mix", desc := "(II)I" } : Jvm.MethodName) prog_7_method_4_code (2 : Nat) (Option.some Jvm.ClassFile.FieldType.int)) ∈ gW := gW_of (i := 500) (by decide +kernel) (by decide +kernel)
theorem kw_501 : (Jvm.Cond.fieldLink "GuardVolumeModel" (58 : Nat) "GuardVolumeModel" "thrown" "I") ∈ gW := gW_of (i := 501) (by decide +kernel) (by decide +kernel)
theorem kw_502 : (Jvm.Cond.fieldLink "GuardVolumeModel" (7 : Nat) "GuardVolumeModel" "drives" "[I") ∈ gW := gW_of (i := 502) (by decide +kernel) (by decide +kernel)
theorem kw_503 : (Jvm.Cond.fieldLink "GuardVolumeModel" (13 : Nat) "GuardVolumeModel" "memory" "[I") ∈ gW := gW_of (i := 503) (by decide +kernel) (by decide +kernel)
theorem kw_504 : (Jvm.Cond.fieldLink "GuardVolumeModel" (16 : Nat) "GuardVolumeModel" "journal" "I") ∈ gW := gW_of (i := 504) (by decide +kernel) (by decide +kernel)
theorem kw_505 : (Jvm.Cond.fieldLink "GuardVolumeModel" (20 : Nat) "GuardVolumeModel" "journalWords" "[I") ∈ gW := gW_of (i := 505) (by decide +kernel) (by decide +kernel)
theorem kw_506 : (Jvm.Cond.fieldLink "GuardVolumeModel" (105 : Nat) "GuardVolumeModel" "journalVersion" "I") ∈ gW := gW_of (i := 506) (by decide +kernel) (by decide +kernel)
theorem kw_507 : (Jvm.Cond.fieldLink "GuardVolumeModel" (80 : Nat) "GuardVolumeModel" "off" "Z") ∈ gW := gW_of (i := 507) (by decide +kernel) (by decide +kernel)
theorem kw_508 : (Jvm.Cond.fieldLink "GuardVolumeModel" (23 : Nat) "GuardVolumeModel" "left" "I") ∈ gW := gW_of (i := 508) (by decide +kernel) (by decide +kernel)
theorem kw_509 : (Jvm.Cond.fieldLink "GuardVolumeModel" (26 : Nat) "GuardVolumeModel" "writes" "[I") ∈ gW := gW_of (i := 509) (by decide +kernel) (by decide +kernel)
theorem kw_510 : (Jvm.Cond.fieldLink "GuardVolumeModel" (29 : Nat) "GuardVolumeModel" "plans" "[I") ∈ gW := gW_of (i := 510) (by decide +kernel) (by decide +kernel)
theorem kw_511 : (Jvm.Cond.fieldLink "GuardVolumeModel" (32 : Nat) "GuardVolumeModel" "planAt" "[I") ∈ gW := gW_of (i := 511) (by decide +kernel) (by decide +kernel)
theorem kw_512 : (Jvm.Cond.fieldLink "GuardVolumeModel" (35 : Nat) "GuardVolumeModel" "planKind" "[I") ∈ gW := gW_of (i := 512) (by decide +kernel) (by decide +kernel)
theorem kw_513 : (Jvm.Cond.fieldLink "GuardVolumeModel" (38 : Nat) "GuardVolumeModel" "planX" "[I") ∈ gW := gW_of (i := 513) (by decide +kernel) (by decide +kernel)
theorem kw_514 : (Jvm.Cond.fieldLink "GuardVolumeModel" (120 : Nat) "GuardVolumeModel" "code" "I") ∈ gW := gW_of (i := 514) (by decide +kernel) (by decide +kernel)
theorem kw_515 : (Jvm.Cond.fieldLink "GuardVolumeModel" (139 : Nat) "GuardVolumeModel" "nextScrub" "I") ∈ gW := gW_of (i := 515) (by decide +kernel) (by decide +kernel)
theorem kw_516 : (Jvm.Cond.fieldLink "GuardVolumeModel" (132 : Nat) "GuardVolumeModel" "kept" "I") ∈ gW := gW_of (i := 516) (by decide +kernel) (by decide +kernel)
theorem kw_517 : (Jvm.Cond.fieldLink "GuardVolumeModel" (129 : Nat) "GuardVolumeModel" "found" "I") ∈ gW := gW_of (i := 517) (by decide +kernel) (by decide +kernel)
theorem kw_518 : (Jvm.Cond.fieldLink "GuardVolumeModel" (41 : Nat) "GuardVolumeModel" "findings" "[I") ∈ gW := gW_of (i := 518) (by decide +kernel) (by decide +kernel)
theorem kw_519 : (Jvm.Cond.fieldLink "GuardVolumeModel" (44 : Nat) "GuardVolumeModel" "row" "[I") ∈ gW := gW_of (i := 519) (by decide +kernel) (by decide +kernel)
theorem kw_520 : (Jvm.Cond.fieldLink "GuardVolumeModel" (47 : Nat) "GuardVolumeModel" "words" "[I") ∈ gW := gW_of (i := 520) (by decide +kernel) (by decide +kernel)
theorem kw_521 : (Jvm.Cond.lays "GuardVolumeModel" "GuardVolumeModel" "thrown" "I") ∈ gW := gW_of (i := 521) (by decide +kernel) (by decide +kernel)
theorem kw_522 : (Jvm.Cond.soleField "GuardVolumeModel" "thrown") ∈ gW := gW_of (i := 522) (by decide +kernel) (by decide +kernel)
theorem kw_523 : (Jvm.Cond.laysFinal "GuardVolumeModel" "GuardVolumeModel" "drives" "[I") ∈ gW := gW_of (i := 523) (by decide +kernel) (by decide +kernel)
theorem kw_524 : (Jvm.Cond.soleField "GuardVolumeModel" "drives") ∈ gW := gW_of (i := 524) (by decide +kernel) (by decide +kernel)
theorem kw_525 : (Jvm.Cond.laysFinal "GuardVolumeModel" "GuardVolumeModel" "memory" "[I") ∈ gW := gW_of (i := 525) (by decide +kernel) (by decide +kernel)
theorem kw_526 : (Jvm.Cond.soleField "GuardVolumeModel" "memory") ∈ gW := gW_of (i := 526) (by decide +kernel) (by decide +kernel)
theorem kw_527 : (Jvm.Cond.lays "GuardVolumeModel" "GuardVolumeModel" "journal" "I") ∈ gW := gW_of (i := 527) (by decide +kernel) (by decide +kernel)
theorem kw_528 : (Jvm.Cond.soleField "GuardVolumeModel" "journal") ∈ gW := gW_of (i := 528) (by decide +kernel) (by decide +kernel)
theorem kw_529 : (Jvm.Cond.laysFinal "GuardVolumeModel" "GuardVolumeModel" "journalWords" "[I") ∈ gW := gW_of (i := 529) (by decide +kernel) (by decide +kernel)
theorem kw_530 : (Jvm.Cond.soleField "GuardVolumeModel" "journalWords") ∈ gW := gW_of (i := 530) (by decide +kernel) (by decide +kernel)
theorem kw_531 : (Jvm.Cond.lays "GuardVolumeModel" "GuardVolumeModel" "journalVersion" "I") ∈ gW := gW_of (i := 531) (by decide +kernel) (by decide +kernel)
theorem kw_532 : (Jvm.Cond.soleField "GuardVolumeModel" "journalVersion") ∈ gW := gW_of (i := 532) (by decide +kernel) (by decide +kernel)
theorem kw_533 : (Jvm.Cond.lays "GuardVolumeModel" "GuardVolumeModel" "off" "Z") ∈ gW := gW_of (i := 533) (by decide +kernel) (by decide +kernel)
theorem kw_534 : (Jvm.Cond.soleField "GuardVolumeModel" "off") ∈ gW := gW_of (i := 534) (by decide +kernel) (by decide +kernel)
theorem kw_535 : (Jvm.Cond.lays "GuardVolumeModel" "GuardVolumeModel" "left" "I") ∈ gW := gW_of (i := 535) (by decide +kernel) (by decide +kernel)
theorem kw_536 : (Jvm.Cond.soleField "GuardVolumeModel" "left") ∈ gW := gW_of (i := 536) (by decide +kernel) (by decide +kernel)
theorem kw_537 : (Jvm.Cond.laysFinal "GuardVolumeModel" "GuardVolumeModel" "writes" "[I") ∈ gW := gW_of (i := 537) (by decide +kernel) (by decide +kernel)
theorem kw_538 : (Jvm.Cond.soleField "GuardVolumeModel" "writes") ∈ gW := gW_of (i := 538) (by decide +kernel) (by decide +kernel)
theorem kw_539 : (Jvm.Cond.laysFinal "GuardVolumeModel" "GuardVolumeModel" "plans" "[I") ∈ gW := gW_of (i := 539) (by decide +kernel) (by decide +kernel)
theorem kw_540 : (Jvm.Cond.soleField "GuardVolumeModel" "plans") ∈ gW := gW_of (i := 540) (by decide +kernel) (by decide +kernel)
theorem kw_541 : (Jvm.Cond.laysFinal "GuardVolumeModel" "GuardVolumeModel" "planAt" "[I") ∈ gW := gW_of (i := 541) (by decide +kernel) (by decide +kernel)
theorem kw_542 : (Jvm.Cond.soleField "GuardVolumeModel" "planAt") ∈ gW := gW_of (i := 542) (by decide +kernel) (by decide +kernel)
theorem kw_543 : (Jvm.Cond.laysFinal "GuardVolumeModel" "GuardVolumeModel" "planKind" "[I") ∈ gW := gW_of (i := 543) (by decide +kernel) (by decide +kernel)
theorem kw_544 : (Jvm.Cond.soleField "GuardVolumeModel" "planKind") ∈ gW := gW_of (i := 544) (by decide +kernel) (by decide +kernel)
theorem kw_545 : (Jvm.Cond.laysFinal "GuardVolumeModel" "GuardVolumeModel" "planX" "[I") ∈ gW := gW_of (i := 545) (by decide +kernel) (by decide +kernel)
theorem kw_546 : (Jvm.Cond.soleField "GuardVolumeModel" "planX") ∈ gW := gW_of (i := 546) (by decide +kernel) (by decide +kernel)
theorem kw_547 : (Jvm.Cond.lays "GuardVolumeModel" "GuardVolumeModel" "code" "I") ∈ gW := gW_of (i := 547) (by decide +kernel) (by decide +kernel)
theorem kw_548 : (Jvm.Cond.soleField "GuardVolumeModel" "code") ∈ gW := gW_of (i := 548) (by decide +kernel) (by decide +kernel)
theorem kw_549 : (Jvm.Cond.lays "GuardVolumeModel" "GuardVolumeModel" "nextScrub" "I") ∈ gW := gW_of (i := 549) (by decide +kernel) (by decide +kernel)
theorem kw_550 : (Jvm.Cond.soleField "GuardVolumeModel" "nextScrub") ∈ gW := gW_of (i := 550) (by decide +kernel) (by decide +kernel)
theorem kw_551 : (Jvm.Cond.lays "GuardVolumeModel" "GuardVolumeModel" "kept" "I") ∈ gW := gW_of (i := 551) (by decide +kernel) (by decide +kernel)
theorem kw_552 : (Jvm.Cond.soleField "GuardVolumeModel" "kept") ∈ gW := gW_of (i := 552) (by decide +kernel) (by decide +kernel)
theorem kw_553 : (Jvm.Cond.lays "GuardVolumeModel" "GuardVolumeModel" "found" "I") ∈ gW := gW_of (i := 553) (by decide +kernel) (by decide +kernel)
theorem kw_554 : (Jvm.Cond.soleField "GuardVolumeModel" "found") ∈ gW := gW_of (i := 554) (by decide +kernel) (by decide +kernel)
theorem kw_555 : (Jvm.Cond.laysFinal "GuardVolumeModel" "GuardVolumeModel" "findings" "[I") ∈ gW := gW_of (i := 555) (by decide +kernel) (by decide +kernel)
theorem kw_556 : (Jvm.Cond.soleField "GuardVolumeModel" "findings") ∈ gW := gW_of (i := 556) (by decide +kernel) (by decide +kernel)
theorem kw_557 : (Jvm.Cond.laysFinal "GuardVolumeModel" "GuardVolumeModel" "row" "[I") ∈ gW := gW_of (i := 557) (by decide +kernel) (by decide +kernel)
theorem kw_558 : (Jvm.Cond.soleField "GuardVolumeModel" "row") ∈ gW := gW_of (i := 558) (by decide +kernel) (by decide +kernel)
theorem kw_559 : (Jvm.Cond.laysFinal "GuardVolumeModel" "GuardVolumeModel" "words" "[I") ∈ gW := gW_of (i := 559) (by decide +kernel) (by decide +kernel)
theorem kw_560 : (Jvm.Cond.soleField "GuardVolumeModel" "words") ∈ gW := gW_of (i := 560) (by decide +kernel) (by decide +kernel)
theorem kw_561 : (Jvm.Cond.superclass "GuardVolumeModel" "java/lang/Object") ∈ gW := gW_of (i := 561) (by decide +kernel) (by decide +kernel)
theorem kw_562 : (Jvm.Cond.methodLink "GuardVolumeLaw" (76 : Nat) ({ cls := "GuardVolumeModel", name := "thrown", desc := "()I" } : Jvm.MethodName)) ∈ gW := gW_of (i := 562) (by decide +kernel) (by decide +kernel)
theorem kw_563 : (Jvm.Cond.instanceMethod ({ cls := "GuardVolumeModel", name := "thrown", desc := "()I" } : Jvm.MethodName)) ∈ gW := gW_of (i := 563) (by decide +kernel) (by decide +kernel)
theorem kw_564 : (Jvm.Cond.selects "GuardVolumeModel" ({ cls := "GuardVolumeModel", name := "thrown", desc := "()I" } : Jvm.MethodName) ({ cls := "GuardVolumeModel", name := "thrown", desc := "()I" } : Jvm.MethodName)) ∈ gW := gW_of (i := 564) (by decide +kernel) (by decide +kernel)
theorem kw_565 : (Jvm.Cond.code ({ cls := "GuardVolumeModel", name := "thrown", desc := "()I" } : Jvm.MethodName) prog_7_method_2_code (1 : Nat) (Option.some Jvm.ClassFile.FieldType.int)) ∈ gW := gW_of (i := 565) (by decide +kernel) (by decide +kernel)
theorem kw_566 : (Jvm.Cond.methodLink "GuardVolumeLaw" (75 : Nat) ({ cls := "GuardVolumeModel", name := "write", desc := "(III)I" } : Jvm.MethodName)) ∈ gW := gW_of (i := 566) (by decide +kernel) (by decide +kernel)
theorem kw_567 : (Jvm.Cond.instanceMethod ({ cls := "GuardVolumeModel", name := "write", desc := "(III)I" } : Jvm.MethodName)) ∈ gW := gW_of (i := 567) (by decide +kernel) (by decide +kernel)
theorem kw_568 : (Jvm.Cond.selects "GuardVolumeModel" ({ cls := "GuardVolumeModel", name := "write", desc := "(III)I" } : Jvm.MethodName) ({ cls := "GuardVolumeModel", name := "write", desc := "(III)I" } : Jvm.MethodName)) ∈ gW := gW_of (i := 568) (by decide +kernel) (by decide +kernel)
theorem kw_569 : (Jvm.Cond.code ({ cls := "GuardVolumeModel", name := "write", desc := "(III)I" } : Jvm.MethodName) prog_7_method_23_code (6 : Nat) (Option.some Jvm.ClassFile.FieldType.int)) ∈ gW := gW_of (i := 569) (by decide +kernel) (by decide +kernel)
theorem kw_570 : (Jvm.Cond.methodLink "GuardVolumeModel" (114 : Nat) ({ cls := "GuardVolumeModel", name := "in", desc := "(II)Z" } : Jvm.MethodName)) ∈ gW := gW_of (i := 570) (by decide +kernel) (by decide +kernel)
theorem kw_571 : (Jvm.Cond.static ({ cls := "GuardVolumeModel", name := "in", desc := "(II)Z" } : Jvm.MethodName)) ∈ gW := gW_of (i := 571) (by decide +kernel) (by decide +kernel)
theorem kw_572 : (Jvm.Cond.code ({ cls := "GuardVolumeModel", name := "in", desc := "(II)Z" } : Jvm.MethodName) prog_7_method_21_code (2 : Nat) (Option.some Jvm.ClassFile.FieldType.boolean)) ∈ gW := gW_of (i := 572) (by decide +kernel) (by decide +kernel)
theorem kw_573 : (Jvm.Cond.methodLink "GuardVolumeModel" (117 : Nat) ({ cls := "GuardVolumeModel", name := "codeOf", desc := "(I)I" } : Jvm.MethodName)) ∈ gW := gW_of (i := 573) (by decide +kernel) (by decide +kernel)
theorem kw_575 : (Jvm.Cond.instanceMethod ({ cls := "GuardVolumeModel", name := "codeOf", desc := "(I)I" } : Jvm.MethodName)) ∈ gW := gW_of (i := 575) (by decide +kernel) (by decide +kernel)
theorem kw_576 : (Jvm.Cond.code ({ cls := "GuardVolumeModel", name := "codeOf", desc := "(I)I" } : Jvm.MethodName) prog_7_method_22_code (2 : Nat) (Option.some Jvm.ClassFile.FieldType.int)) ∈ gW := gW_of (i := 576) (by decide +kernel) (by decide +kernel)
theorem kw_577 : (Jvm.Cond.methodLink "GuardVolumeModel" (111 : Nat) ({ cls := "GuardVolumeModel", name := "verdictOf", desc := "(II)I" } : Jvm.MethodName)) ∈ gW := gW_of (i := 577) (by decide +kernel) (by decide +kernel)
theorem kw_579 : (Jvm.Cond.instanceMethod ({ cls := "GuardVolumeModel", name := "verdictOf", desc := "(II)I" } : Jvm.MethodName)) ∈ gW := gW_of (i := 579) (by decide +kernel) (by decide +kernel)
theorem kw_580 : (Jvm.Cond.code ({ cls := "GuardVolumeModel", name := "verdictOf", desc := "(II)I" } : Jvm.MethodName) prog_7_method_11_code (5 : Nat) (Option.some Jvm.ClassFile.FieldType.int)) ∈ gW := gW_of (i := 580) (by decide +kernel) (by decide +kernel)
theorem kw_581 : (Jvm.Cond.methodLink "GuardVolumeModel" (64 : Nat) ({ cls := "GuardVolumeModel", name := "isWhole", desc := "(II)Z" } : Jvm.MethodName)) ∈ gW := gW_of (i := 581) (by decide +kernel) (by decide +kernel)
theorem kw_583 : (Jvm.Cond.instanceMethod ({ cls := "GuardVolumeModel", name := "isWhole", desc := "(II)Z" } : Jvm.MethodName)) ∈ gW := gW_of (i := 583) (by decide +kernel) (by decide +kernel)
theorem kw_584 : (Jvm.Cond.code ({ cls := "GuardVolumeModel", name := "isWhole", desc := "(II)Z" } : Jvm.MethodName) prog_7_method_6_code (4 : Nat) (Option.some Jvm.ClassFile.FieldType.boolean)) ∈ gW := gW_of (i := 584) (by decide +kernel) (by decide +kernel)
theorem kw_585 : (Jvm.Cond.methodLink "GuardVolumeModel" (74 : Nat) ({ cls := "GuardVolumeModel", name := "isUnknown", desc := "(II)Z" } : Jvm.MethodName)) ∈ gW := gW_of (i := 585) (by decide +kernel) (by decide +kernel)
theorem kw_587 : (Jvm.Cond.instanceMethod ({ cls := "GuardVolumeModel", name := "isUnknown", desc := "(II)Z" } : Jvm.MethodName)) ∈ gW := gW_of (i := 587) (by decide +kernel) (by decide +kernel)
theorem kw_588 : (Jvm.Cond.code ({ cls := "GuardVolumeModel", name := "isUnknown", desc := "(II)Z" } : Jvm.MethodName) prog_7_method_10_code (3 : Nat) (Option.some Jvm.ClassFile.FieldType.boolean)) ∈ gW := gW_of (i := 588) (by decide +kernel) (by decide +kernel)
theorem kw_589 : (Jvm.Cond.methodLink "GuardVolumeModel" (68 : Nat) ({ cls := "GuardVolumeModel", name := "isRightPage", desc := "(II)Z" } : Jvm.MethodName)) ∈ gW := gW_of (i := 589) (by decide +kernel) (by decide +kernel)
theorem kw_591 : (Jvm.Cond.instanceMethod ({ cls := "GuardVolumeModel", name := "isRightPage", desc := "(II)Z" } : Jvm.MethodName)) ∈ gW := gW_of (i := 591) (by decide +kernel) (by decide +kernel)
theorem kw_592 : (Jvm.Cond.code ({ cls := "GuardVolumeModel", name := "isRightPage", desc := "(II)Z" } : Jvm.MethodName) prog_7_method_7_code (4 : Nat) (Option.some Jvm.ClassFile.FieldType.boolean)) ∈ gW := gW_of (i := 592) (by decide +kernel) (by decide +kernel)
theorem kw_593 : (Jvm.Cond.methodLink "GuardVolumeModel" (77 : Nat) ({ cls := "GuardVolumeModel", name := "expectedOf", desc := "(II)I" } : Jvm.MethodName)) ∈ gW := gW_of (i := 593) (by decide +kernel) (by decide +kernel)
theorem kw_595 : (Jvm.Cond.instanceMethod ({ cls := "GuardVolumeModel", name := "expectedOf", desc := "(II)I" } : Jvm.MethodName)) ∈ gW := gW_of (i := 595) (by decide +kernel) (by decide +kernel)
theorem kw_596 : (Jvm.Cond.code ({ cls := "GuardVolumeModel", name := "expectedOf", desc := "(II)I" } : Jvm.MethodName) prog_7_method_9_code (4 : Nat) (Option.some Jvm.ClassFile.FieldType.int)) ∈ gW := gW_of (i := 596) (by decide +kernel) (by decide +kernel)
theorem kw_597 : (Jvm.Cond.methodLink "GuardVolumeModel" (71 : Nat) ({ cls := "GuardVolumeModel", name := "listed", desc := "(II)I" } : Jvm.MethodName)) ∈ gW := gW_of (i := 597) (by decide +kernel) (by decide +kernel)
theorem kw_599 : (Jvm.Cond.instanceMethod ({ cls := "GuardVolumeModel", name := "listed", desc := "(II)I" } : Jvm.MethodName)) ∈ gW := gW_of (i := 599) (by decide +kernel) (by decide +kernel)
theorem kw_600 : (Jvm.Cond.code ({ cls := "GuardVolumeModel", name := "listed", desc := "(II)I" } : Jvm.MethodName) prog_7_method_8_code (3 : Nat) (Option.some Jvm.ClassFile.FieldType.int)) ∈ gW := gW_of (i := 600) (by decide +kernel) (by decide +kernel)
theorem kw_601 : (Jvm.Cond.methodLink "GuardVolumeModel" (123 : Nat) ({ cls := "GuardVolumeModel", name := "takeWords", desc := "(II)V" } : Jvm.MethodName)) ∈ gW := gW_of (i := 601) (by decide +kernel) (by decide +kernel)
theorem kw_603 : (Jvm.Cond.instanceMethod ({ cls := "GuardVolumeModel", name := "takeWords", desc := "(II)V" } : Jvm.MethodName)) ∈ gW := gW_of (i := 603) (by decide +kernel) (by decide +kernel)
theorem kw_604 : (Jvm.Cond.code ({ cls := "GuardVolumeModel", name := "takeWords", desc := "(II)V" } : Jvm.MethodName) prog_7_method_17_code (4 : Nat) (Option.none : Option Jvm.ClassFile.FieldType)) ∈ gW := gW_of (i := 604) (by decide +kernel) (by decide +kernel)
theorem kw_605 : (Jvm.Cond.methodLink "GuardVolumeModel" (126 : Nat) ({ cls := "GuardVolumeModel", name := "put", desc := "(II)Z" } : Jvm.MethodName)) ∈ gW := gW_of (i := 605) (by decide +kernel) (by decide +kernel)
theorem kw_607 : (Jvm.Cond.instanceMethod ({ cls := "GuardVolumeModel", name := "put", desc := "(II)Z" } : Jvm.MethodName)) ∈ gW := gW_of (i := 607) (by decide +kernel) (by decide +kernel)
theorem kw_608 : (Jvm.Cond.code ({ cls := "GuardVolumeModel", name := "put", desc := "(II)Z" } : Jvm.MethodName) prog_7_method_20_code (4 : Nat) (Option.some Jvm.ClassFile.FieldType.boolean)) ∈ gW := gW_of (i := 608) (by decide +kernel) (by decide +kernel)
theorem kw_609 : (Jvm.Cond.methodLink "GuardVolumeModel" (108 : Nat) ({ cls := "GuardVolumeModel", name := "putCopy", desc := "(III)Z" } : Jvm.MethodName)) ∈ gW := gW_of (i := 609) (by decide +kernel) (by decide +kernel)
theorem kw_611 : (Jvm.Cond.instanceMethod ({ cls := "GuardVolumeModel", name := "putCopy", desc := "(III)Z" } : Jvm.MethodName)) ∈ gW := gW_of (i := 611) (by decide +kernel) (by decide +kernel)
theorem kw_612 : (Jvm.Cond.code ({ cls := "GuardVolumeModel", name := "putCopy", desc := "(III)Z" } : Jvm.MethodName) prog_7_method_19_code (4 : Nat) (Option.some Jvm.ClassFile.FieldType.boolean)) ∈ gW := gW_of (i := 612) (by decide +kernel) (by decide +kernel)
theorem kw_613 : (Jvm.Cond.methodLink "GuardVolumeModel" (99 : Nat) ({ cls := "GuardVolumeModel", name := "storeRow", desc := "(III)Z" } : Jvm.MethodName)) ∈ gW := gW_of (i := 613) (by decide +kernel) (by decide +kernel)
theorem kw_615 : (Jvm.Cond.instanceMethod ({ cls := "GuardVolumeModel", name := "storeRow", desc := "(III)Z" } : Jvm.MethodName)) ∈ gW := gW_of (i := 615) (by decide +kernel) (by decide +kernel)
theorem kw_616 : (Jvm.Cond.code ({ cls := "GuardVolumeModel", name := "storeRow", desc := "(III)Z" } : Jvm.MethodName) prog_7_method_18_code (5 : Nat) (Option.some Jvm.ClassFile.FieldType.boolean)) ∈ gW := gW_of (i := 616) (by decide +kernel) (by decide +kernel)
theorem kw_617 : (Jvm.Cond.methodLink "GuardVolumeModel" (95 : Nat) ({ cls := "GuardVolumeModel", name := "store", desc := "(III)Z" } : Jvm.MethodName)) ∈ gW := gW_of (i := 617) (by decide +kernel) (by decide +kernel)
theorem kw_619 : (Jvm.Cond.instanceMethod ({ cls := "GuardVolumeModel", name := "store", desc := "(III)Z" } : Jvm.MethodName)) ∈ gW := gW_of (i := 619) (by decide +kernel) (by decide +kernel)
theorem kw_620 : (Jvm.Cond.code ({ cls := "GuardVolumeModel", name := "store", desc := "(III)Z" } : Jvm.MethodName) prog_7_method_15_code (8 : Nat) (Option.some Jvm.ClassFile.FieldType.boolean)) ∈ gW := gW_of (i := 620) (by decide +kernel) (by decide +kernel)
theorem kw_621 : (Jvm.Cond.methodLink "GuardVolumeModel" (84 : Nat) ({ cls := "GuardVolumeModel", name := "planOf", desc := "(I)I" } : Jvm.MethodName)) ∈ gW := gW_of (i := 621) (by decide +kernel) (by decide +kernel)
theorem kw_623 : (Jvm.Cond.instanceMethod ({ cls := "GuardVolumeModel", name := "planOf", desc := "(I)I" } : Jvm.MethodName)) ∈ gW := gW_of (i := 623) (by decide +kernel) (by decide +kernel)
theorem kw_624 : (Jvm.Cond.code ({ cls := "GuardVolumeModel", name := "planOf", desc := "(I)I" } : Jvm.MethodName) prog_7_method_12_code (4 : Nat) (Option.some Jvm.ClassFile.FieldType.int)) ∈ gW := gW_of (i := 624) (by decide +kernel) (by decide +kernel)
theorem kw_625 : (Jvm.Cond.methodLink "GuardVolumeModel" (87 : Nat) ({ cls := "GuardVolumeModel", name := "lay", desc := "(III)V" } : Jvm.MethodName)) ∈ gW := gW_of (i := 625) (by decide +kernel) (by decide +kernel)
theorem kw_627 : (Jvm.Cond.instanceMethod ({ cls := "GuardVolumeModel", name := "lay", desc := "(III)V" } : Jvm.MethodName)) ∈ gW := gW_of (i := 627) (by decide +kernel) (by decide +kernel)
theorem kw_628 : (Jvm.Cond.code ({ cls := "GuardVolumeModel", name := "lay", desc := "(III)V" } : Jvm.MethodName) prog_7_method_14_code (5 : Nat) (Option.none : Option Jvm.ClassFile.FieldType)) ∈ gW := gW_of (i := 628) (by decide +kernel) (by decide +kernel)
theorem kw_629 : (Jvm.Cond.methodLink "GuardVolumeModel" (91 : Nat) ({ cls := "GuardVolumeModel", name := "dropPlan", desc := "(II)V" } : Jvm.MethodName)) ∈ gW := gW_of (i := 629) (by decide +kernel) (by decide +kernel)
theorem kw_631 : (Jvm.Cond.instanceMethod ({ cls := "GuardVolumeModel", name := "dropPlan", desc := "(II)V" } : Jvm.MethodName)) ∈ gW := gW_of (i := 631) (by decide +kernel) (by decide +kernel)
theorem kw_632 : (Jvm.Cond.code ({ cls := "GuardVolumeModel", name := "dropPlan", desc := "(II)V" } : Jvm.MethodName) prog_7_method_13_code (4 : Nat) (Option.none : Option Jvm.ClassFile.FieldType)) ∈ gW := gW_of (i := 632) (by decide +kernel) (by decide +kernel)
theorem kw_633 : (Jvm.Cond.methodLink "GuardVolumeModel" (102 : Nat) ({ cls := "GuardVolumeModel", name := "storeList", desc := "(III)Z" } : Jvm.MethodName)) ∈ gW := gW_of (i := 633) (by decide +kernel) (by decide +kernel)
theorem kw_635 : (Jvm.Cond.instanceMethod ({ cls := "GuardVolumeModel", name := "storeList", desc := "(III)Z" } : Jvm.MethodName)) ∈ gW := gW_of (i := 635) (by decide +kernel) (by decide +kernel)
theorem kw_636 : (Jvm.Cond.code ({ cls := "GuardVolumeModel", name := "storeList", desc := "(III)Z" } : Jvm.MethodName) prog_7_method_16_code (9 : Nat) (Option.some Jvm.ClassFile.FieldType.boolean)) ∈ gW := gW_of (i := 636) (by decide +kernel) (by decide +kernel)
theorem kw_637 : (Jvm.Cond.methodLink "GuardVolumeLaw" (82 : Nat) ({ cls := "GuardVolumeModel", name := "read", desc := "(II)I" } : Jvm.MethodName)) ∈ gW := gW_of (i := 637) (by decide +kernel) (by decide +kernel)
theorem kw_638 : (Jvm.Cond.instanceMethod ({ cls := "GuardVolumeModel", name := "read", desc := "(II)I" } : Jvm.MethodName)) ∈ gW := gW_of (i := 638) (by decide +kernel) (by decide +kernel)
theorem kw_639 : (Jvm.Cond.selects "GuardVolumeModel" ({ cls := "GuardVolumeModel", name := "read", desc := "(II)I" } : Jvm.MethodName) ({ cls := "GuardVolumeModel", name := "read", desc := "(II)I" } : Jvm.MethodName)) ∈ gW := gW_of (i := 639) (by decide +kernel) (by decide +kernel)
theorem kw_640 : (Jvm.Cond.code ({ cls := "GuardVolumeModel", name := "read", desc := "(II)I" } : Jvm.MethodName) prog_7_method_24_code (3 : Nat) (Option.some Jvm.ClassFile.FieldType.int)) ∈ gW := gW_of (i := 640) (by decide +kernel) (by decide +kernel)
theorem kw_641 : (Jvm.Cond.methodLink "GuardVolumeLaw" (86 : Nat) ({ cls := "GuardVolumeModel", name := "code", desc := "()I" } : Jvm.MethodName)) ∈ gW := gW_of (i := 641) (by decide +kernel) (by decide +kernel)
theorem kw_642 : (Jvm.Cond.instanceMethod ({ cls := "GuardVolumeModel", name := "code", desc := "()I" } : Jvm.MethodName)) ∈ gW := gW_of (i := 642) (by decide +kernel) (by decide +kernel)
theorem kw_643 : (Jvm.Cond.selects "GuardVolumeModel" ({ cls := "GuardVolumeModel", name := "code", desc := "()I" } : Jvm.MethodName) ({ cls := "GuardVolumeModel", name := "code", desc := "()I" } : Jvm.MethodName)) ∈ gW := gW_of (i := 643) (by decide +kernel) (by decide +kernel)
theorem kw_644 : (Jvm.Cond.code ({ cls := "GuardVolumeModel", name := "code", desc := "()I" } : Jvm.MethodName) prog_7_method_25_code (1 : Nat) (Option.some Jvm.ClassFile.FieldType.int)) ∈ gW := gW_of (i := 644) (by decide +kernel) (by decide +kernel)
theorem kw_645 : (Jvm.Cond.methodLink "GuardVolumeLaw" (90 : Nat) ({ cls := "GuardVolumeModel", name := "plan", desc := "(IIII)V" } : Jvm.MethodName)) ∈ gW := gW_of (i := 645) (by decide +kernel) (by decide +kernel)
theorem kw_646 : (Jvm.Cond.instanceMethod ({ cls := "GuardVolumeModel", name := "plan", desc := "(IIII)V" } : Jvm.MethodName)) ∈ gW := gW_of (i := 646) (by decide +kernel) (by decide +kernel)
theorem kw_647 : (Jvm.Cond.selects "GuardVolumeModel" ({ cls := "GuardVolumeModel", name := "plan", desc := "(IIII)V" } : Jvm.MethodName) ({ cls := "GuardVolumeModel", name := "plan", desc := "(IIII)V" } : Jvm.MethodName)) ∈ gW := gW_of (i := 647) (by decide +kernel) (by decide +kernel)
theorem kw_648 : (Jvm.Cond.code ({ cls := "GuardVolumeModel", name := "plan", desc := "(IIII)V" } : Jvm.MethodName) prog_7_method_26_code (7 : Nat) (Option.none : Option Jvm.ClassFile.FieldType)) ∈ gW := gW_of (i := 648) (by decide +kernel) (by decide +kernel)
theorem kw_649 : (Jvm.Cond.methodLink "GuardVolumeLaw" (94 : Nat) ({ cls := "GuardVolumeModel", name := "cutAfter", desc := "(I)V" } : Jvm.MethodName)) ∈ gW := gW_of (i := 649) (by decide +kernel) (by decide +kernel)
theorem kw_650 : (Jvm.Cond.instanceMethod ({ cls := "GuardVolumeModel", name := "cutAfter", desc := "(I)V" } : Jvm.MethodName)) ∈ gW := gW_of (i := 650) (by decide +kernel) (by decide +kernel)
theorem kw_651 : (Jvm.Cond.selects "GuardVolumeModel" ({ cls := "GuardVolumeModel", name := "cutAfter", desc := "(I)V" } : Jvm.MethodName) ({ cls := "GuardVolumeModel", name := "cutAfter", desc := "(I)V" } : Jvm.MethodName)) ∈ gW := gW_of (i := 651) (by decide +kernel) (by decide +kernel)
theorem kw_652 : (Jvm.Cond.code ({ cls := "GuardVolumeModel", name := "cutAfter", desc := "(I)V" } : Jvm.MethodName) prog_7_method_27_code (2 : Nat) (Option.none : Option Jvm.ClassFile.FieldType)) ∈ gW := gW_of (i := 652) (by decide +kernel) (by decide +kernel)
theorem kw_653 : (Jvm.Cond.methodLink "GuardVolumeLaw" (98 : Nat) ({ cls := "GuardVolumeModel", name := "start", desc := "()I" } : Jvm.MethodName)) ∈ gW := gW_of (i := 653) (by decide +kernel) (by decide +kernel)
theorem kw_654 : (Jvm.Cond.instanceMethod ({ cls := "GuardVolumeModel", name := "start", desc := "()I" } : Jvm.MethodName)) ∈ gW := gW_of (i := 654) (by decide +kernel) (by decide +kernel)
theorem kw_655 : (Jvm.Cond.selects "GuardVolumeModel" ({ cls := "GuardVolumeModel", name := "start", desc := "()I" } : Jvm.MethodName) ({ cls := "GuardVolumeModel", name := "start", desc := "()I" } : Jvm.MethodName)) ∈ gW := gW_of (i := 655) (by decide +kernel) (by decide +kernel)
theorem kw_656 : (Jvm.Cond.code ({ cls := "GuardVolumeModel", name := "start", desc := "()I" } : Jvm.MethodName) prog_7_method_28_code (3 : Nat) (Option.some Jvm.ClassFile.FieldType.int)) ∈ gW := gW_of (i := 656) (by decide +kernel) (by decide +kernel)
theorem kw_657 : (Jvm.Cond.methodLink "GuardVolumeLaw" (102 : Nat) ({ cls := "GuardVolumeModel", name := "scrub", desc := "(I)I" } : Jvm.MethodName)) ∈ gW := gW_of (i := 657) (by decide +kernel) (by decide +kernel)
theorem kw_658 : (Jvm.Cond.instanceMethod ({ cls := "GuardVolumeModel", name := "scrub", desc := "(I)I" } : Jvm.MethodName)) ∈ gW := gW_of (i := 658) (by decide +kernel) (by decide +kernel)
theorem kw_659 : (Jvm.Cond.selects "GuardVolumeModel" ({ cls := "GuardVolumeModel", name := "scrub", desc := "(I)I" } : Jvm.MethodName) ({ cls := "GuardVolumeModel", name := "scrub", desc := "(I)I" } : Jvm.MethodName)) ∈ gW := gW_of (i := 659) (by decide +kernel) (by decide +kernel)
theorem kw_660 : (Jvm.Cond.code ({ cls := "GuardVolumeModel", name := "scrub", desc := "(I)I" } : Jvm.MethodName) prog_7_method_31_code (3 : Nat) (Option.some Jvm.ClassFile.FieldType.int)) ∈ gW := gW_of (i := 660) (by decide +kernel) (by decide +kernel)
theorem kw_661 : (Jvm.Cond.methodLink "GuardVolumeModel" (142 : Nat) ({ cls := "GuardVolumeModel", name := "scrubOf", desc := "(I)Z" } : Jvm.MethodName)) ∈ gW := gW_of (i := 661) (by decide +kernel) (by decide +kernel)
theorem kw_663 : (Jvm.Cond.instanceMethod ({ cls := "GuardVolumeModel", name := "scrubOf", desc := "(I)Z" } : Jvm.MethodName)) ∈ gW := gW_of (i := 663) (by decide +kernel) (by decide +kernel)
theorem kw_664 : (Jvm.Cond.code ({ cls := "GuardVolumeModel", name := "scrubOf", desc := "(I)Z" } : Jvm.MethodName) prog_7_method_30_code (6 : Nat) (Option.some Jvm.ClassFile.FieldType.boolean)) ∈ gW := gW_of (i := 664) (by decide +kernel) (by decide +kernel)
theorem kw_665 : (Jvm.Cond.methodLink "GuardVolumeModel" (135 : Nat) ({ cls := "GuardVolumeModel", name := "find", desc := "(IIII)V" } : Jvm.MethodName)) ∈ gW := gW_of (i := 665) (by decide +kernel) (by decide +kernel)
theorem kw_667 : (Jvm.Cond.instanceMethod ({ cls := "GuardVolumeModel", name := "find", desc := "(IIII)V" } : Jvm.MethodName)) ∈ gW := gW_of (i := 667) (by decide +kernel) (by decide +kernel)
theorem kw_668 : (Jvm.Cond.code ({ cls := "GuardVolumeModel", name := "find", desc := "(IIII)V" } : Jvm.MethodName) prog_7_method_29_code (5 : Nat) (Option.none : Option Jvm.ClassFile.FieldType)) ∈ gW := gW_of (i := 668) (by decide +kernel) (by decide +kernel)
theorem kw_669 : (Jvm.Cond.methodLink "GuardVolumeLaw" (107 : Nat) ({ cls := "GuardVolumeModel", name := "findings", desc := "(Z)I" } : Jvm.MethodName)) ∈ gW := gW_of (i := 669) (by decide +kernel) (by decide +kernel)
theorem kw_670 : (Jvm.Cond.instanceMethod ({ cls := "GuardVolumeModel", name := "findings", desc := "(Z)I" } : Jvm.MethodName)) ∈ gW := gW_of (i := 670) (by decide +kernel) (by decide +kernel)
theorem kw_671 : (Jvm.Cond.selects "GuardVolumeModel" ({ cls := "GuardVolumeModel", name := "findings", desc := "(Z)I" } : Jvm.MethodName) ({ cls := "GuardVolumeModel", name := "findings", desc := "(Z)I" } : Jvm.MethodName)) ∈ gW := gW_of (i := 671) (by decide +kernel) (by decide +kernel)
theorem kw_672 : (Jvm.Cond.code ({ cls := "GuardVolumeModel", name := "findings", desc := "(Z)I" } : Jvm.MethodName) prog_7_method_32_code (3 : Nat) (Option.some Jvm.ClassFile.FieldType.int)) ∈ gW := gW_of (i := 672) (by decide +kernel) (by decide +kernel)
theorem kw_673 : (Jvm.Cond.methodLink "GuardVolumeLaw" (110 : Nat) ({ cls := "GuardVolumeModel", name := "finding", desc := "(II)I" } : Jvm.MethodName)) ∈ gW := gW_of (i := 673) (by decide +kernel) (by decide +kernel)
theorem kw_674 : (Jvm.Cond.instanceMethod ({ cls := "GuardVolumeModel", name := "finding", desc := "(II)I" } : Jvm.MethodName)) ∈ gW := gW_of (i := 674) (by decide +kernel) (by decide +kernel)
theorem kw_675 : (Jvm.Cond.selects "GuardVolumeModel" ({ cls := "GuardVolumeModel", name := "finding", desc := "(II)I" } : Jvm.MethodName) ({ cls := "GuardVolumeModel", name := "finding", desc := "(II)I" } : Jvm.MethodName)) ∈ gW := gW_of (i := 675) (by decide +kernel) (by decide +kernel)
theorem kw_676 : (Jvm.Cond.code ({ cls := "GuardVolumeModel", name := "finding", desc := "(II)I" } : Jvm.MethodName) prog_7_method_33_code (3 : Nat) (Option.some Jvm.ClassFile.FieldType.int)) ∈ gW := gW_of (i := 676) (by decide +kernel) (by decide +kernel)
theorem kw_677 : (Jvm.Cond.methodLink "GuardVolumeLaw" (113 : Nat) ({ cls := "GuardVolumeModel", name := "expected", desc := "(II)I" } : Jvm.MethodName)) ∈ gW := gW_of (i := 677) (by decide +kernel) (by decide +kernel)
theorem kw_678 : (Jvm.Cond.instanceMethod ({ cls := "GuardVolumeModel", name := "expected", desc := "(II)I" } : Jvm.MethodName)) ∈ gW := gW_of (i := 678) (by decide +kernel) (by decide +kernel)
theorem kw_679 : (Jvm.Cond.selects "GuardVolumeModel" ({ cls := "GuardVolumeModel", name := "expected", desc := "(II)I" } : Jvm.MethodName) ({ cls := "GuardVolumeModel", name := "expected", desc := "(II)I" } : Jvm.MethodName)) ∈ gW := gW_of (i := 679) (by decide +kernel) (by decide +kernel)
theorem kw_680 : (Jvm.Cond.code ({ cls := "GuardVolumeModel", name := "expected", desc := "(II)I" } : Jvm.MethodName) prog_7_method_34_code (3 : Nat) (Option.some Jvm.ClassFile.FieldType.int)) ∈ gW := gW_of (i := 680) (by decide +kernel) (by decide +kernel)
theorem kw_681 : (Jvm.Cond.methodLink "GuardVolumeLaw" (116 : Nat) ({ cls := "GuardVolumeModel", name := "verdict", desc := "(II)I" } : Jvm.MethodName)) ∈ gW := gW_of (i := 681) (by decide +kernel) (by decide +kernel)
theorem kw_682 : (Jvm.Cond.instanceMethod ({ cls := "GuardVolumeModel", name := "verdict", desc := "(II)I" } : Jvm.MethodName)) ∈ gW := gW_of (i := 682) (by decide +kernel) (by decide +kernel)
theorem kw_683 : (Jvm.Cond.selects "GuardVolumeModel" ({ cls := "GuardVolumeModel", name := "verdict", desc := "(II)I" } : Jvm.MethodName) ({ cls := "GuardVolumeModel", name := "verdict", desc := "(II)I" } : Jvm.MethodName)) ∈ gW := gW_of (i := 683) (by decide +kernel) (by decide +kernel)
theorem kw_684 : (Jvm.Cond.code ({ cls := "GuardVolumeModel", name := "verdict", desc := "(II)I" } : Jvm.MethodName) prog_7_method_35_code (3 : Nat) (Option.some Jvm.ClassFile.FieldType.int)) ∈ gW := gW_of (i := 684) (by decide +kernel) (by decide +kernel)
theorem kw_685 : (Jvm.Cond.methodLink "GuardVolumeLaw" (119 : Nat) ({ cls := "GuardVolumeModel", name := "isRight", desc := "(II)Z" } : Jvm.MethodName)) ∈ gW := gW_of (i := 685) (by decide +kernel) (by decide +kernel)
theorem kw_686 : (Jvm.Cond.instanceMethod ({ cls := "GuardVolumeModel", name := "isRight", desc := "(II)Z" } : Jvm.MethodName)) ∈ gW := gW_of (i := 686) (by decide +kernel) (by decide +kernel)
theorem kw_687 : (Jvm.Cond.selects "GuardVolumeModel" ({ cls := "GuardVolumeModel", name := "isRight", desc := "(II)Z" } : Jvm.MethodName) ({ cls := "GuardVolumeModel", name := "isRight", desc := "(II)Z" } : Jvm.MethodName)) ∈ gW := gW_of (i := 687) (by decide +kernel) (by decide +kernel)
theorem kw_688 : (Jvm.Cond.code ({ cls := "GuardVolumeModel", name := "isRight", desc := "(II)Z" } : Jvm.MethodName) prog_7_method_36_code (3 : Nat) (Option.some Jvm.ClassFile.FieldType.boolean)) ∈ gW := gW_of (i := 688) (by decide +kernel) (by decide +kernel)
theorem kw_689 : (Jvm.Cond.methodLink "GuardVolumeLaw" (122 : Nat) ({ cls := "GuardVolumeModel", name := "raw", desc := "(III)I" } : Jvm.MethodName)) ∈ gW := gW_of (i := 689) (by decide +kernel) (by decide +kernel)
theorem kw_690 : (Jvm.Cond.instanceMethod ({ cls := "GuardVolumeModel", name := "raw", desc := "(III)I" } : Jvm.MethodName)) ∈ gW := gW_of (i := 690) (by decide +kernel) (by decide +kernel)
theorem kw_691 : (Jvm.Cond.selects "GuardVolumeModel" ({ cls := "GuardVolumeModel", name := "raw", desc := "(III)I" } : Jvm.MethodName) ({ cls := "GuardVolumeModel", name := "raw", desc := "(III)I" } : Jvm.MethodName)) ∈ gW := gW_of (i := 691) (by decide +kernel) (by decide +kernel)
theorem kw_692 : (Jvm.Cond.code ({ cls := "GuardVolumeModel", name := "raw", desc := "(III)I" } : Jvm.MethodName) prog_7_method_37_code (4 : Nat) (Option.some Jvm.ClassFile.FieldType.int)) ∈ gW := gW_of (i := 692) (by decide +kernel) (by decide +kernel)
theorem kw_693 : (Jvm.Cond.methodLink "GuardVolumeLaw" (125 : Nat) ({ cls := "GuardVolumeModel", name := "replace", desc := "(I)V" } : Jvm.MethodName)) ∈ gW := gW_of (i := 693) (by decide +kernel) (by decide +kernel)
theorem kw_694 : (Jvm.Cond.instanceMethod ({ cls := "GuardVolumeModel", name := "replace", desc := "(I)V" } : Jvm.MethodName)) ∈ gW := gW_of (i := 694) (by decide +kernel) (by decide +kernel)
theorem kw_695 : (Jvm.Cond.selects "GuardVolumeModel" ({ cls := "GuardVolumeModel", name := "replace", desc := "(I)V" } : Jvm.MethodName) ({ cls := "GuardVolumeModel", name := "replace", desc := "(I)V" } : Jvm.MethodName)) ∈ gW := gW_of (i := 695) (by decide +kernel) (by decide +kernel)
theorem kw_696 : (Jvm.Cond.code ({ cls := "GuardVolumeModel", name := "replace", desc := "(I)V" } : Jvm.MethodName) prog_7_method_38_code (3 : Nat) (Option.none : Option Jvm.ClassFile.FieldType)) ∈ gW := gW_of (i := 696) (by decide +kernel) (by decide +kernel)
theorem kw_697 : (Jvm.Cond.methodLink "GuardVolumeLaw" (128 : Nat) ({ cls := "GuardVolumeModel", name := "rebuild", desc := "(I)I" } : Jvm.MethodName)) ∈ gW := gW_of (i := 697) (by decide +kernel) (by decide +kernel)
theorem kw_698 : (Jvm.Cond.instanceMethod ({ cls := "GuardVolumeModel", name := "rebuild", desc := "(I)I" } : Jvm.MethodName)) ∈ gW := gW_of (i := 698) (by decide +kernel) (by decide +kernel)
theorem kw_699 : (Jvm.Cond.selects "GuardVolumeModel" ({ cls := "GuardVolumeModel", name := "rebuild", desc := "(I)I" } : Jvm.MethodName) ({ cls := "GuardVolumeModel", name := "rebuild", desc := "(I)I" } : Jvm.MethodName)) ∈ gW := gW_of (i := 699) (by decide +kernel) (by decide +kernel)
theorem kw_700 : (Jvm.Cond.code ({ cls := "GuardVolumeModel", name := "rebuild", desc := "(I)I" } : Jvm.MethodName) prog_7_method_39_code (7 : Nat) (Option.some Jvm.ClassFile.FieldType.int)) ∈ gW := gW_of (i := 700) (by decide +kernel) (by decide +kernel)
theorem kw_701 : (Jvm.Cond.methodLink "GuardVolumeLaw" (131 : Nat) ({ cls := "GuardVolumeModel", name := "count", desc := "(I)I" } : Jvm.MethodName)) ∈ gW := gW_of (i := 701) (by decide +kernel) (by decide +kernel)
theorem kw_702 : (Jvm.Cond.instanceMethod ({ cls := "GuardVolumeModel", name := "count", desc := "(I)I" } : Jvm.MethodName)) ∈ gW := gW_of (i := 702) (by decide +kernel) (by decide +kernel)
theorem kw_703 : (Jvm.Cond.selects "GuardVolumeModel" ({ cls := "GuardVolumeModel", name := "count", desc := "(I)I" } : Jvm.MethodName) ({ cls := "GuardVolumeModel", name := "count", desc := "(I)I" } : Jvm.MethodName)) ∈ gW := gW_of (i := 703) (by decide +kernel) (by decide +kernel)
theorem kw_704 : (Jvm.Cond.code ({ cls := "GuardVolumeModel", name := "count", desc := "(I)I" } : Jvm.MethodName) prog_7_method_40_code (4 : Nat) (Option.some Jvm.ClassFile.FieldType.int)) ∈ gW := gW_of (i := 704) (by decide +kernel) (by decide +kernel)
theorem kw_705 : (Jvm.Cond.arrayClass Jvm.ClassFile.FieldType.long) ∈ gW := gW_of (i := 705) (by decide +kernel) (by decide +kernel)
theorem kw_706 : (Jvm.Cond.sameMethod "java/lang/Throwable" "java/lang/Throwable" "fillInStackTrace" "(I)Ljava/lang/Throwable;") ∈ gW := gW_of (i := 706) (by decide +kernel) (by decide +kernel)
theorem gW_sel {q : MethodName × Nat} (h : q ∈ lw_privs) : Cond.selects q.1.cls q.1 q.1 ∈ gW := List.mem_filter.mpr ⟨List.mem_append_left _ (List.mem_map.mpr ⟨q, h, rfl⟩), rfl⟩
theorem ks_G_goodCopy : Cond.selects "GuardVolume" ⟨"GuardVolume", "goodCopy", "(I)I"⟩ ⟨"GuardVolume", "goodCopy", "(I)I"⟩ ∈ gW := gW_sel (q := (⟨"GuardVolume", "goodCopy", "(I)I"⟩, 11)) (List.mem_of_getElem? (i := 1) rfl)
theorem ks_G_judge : Cond.selects "GuardVolume" ⟨"GuardVolume", "judge", "(II)I"⟩ ⟨"GuardVolume", "judge", "(II)I"⟩ ∈ gW := gW_sel (q := (⟨"GuardVolume", "judge", "(II)I"⟩, 11)) (List.mem_of_getElem? (i := 2) rfl)
theorem ks_G_driveOf : Cond.selects "GuardVolume" ⟨"GuardVolume", "driveOf", "(I)LGuardVolume$Drive;"⟩ ⟨"GuardVolume", "driveOf", "(I)LGuardVolume$Drive;"⟩ ∈ gW := gW_sel (q := (⟨"GuardVolume", "driveOf", "(I)LGuardVolume$Drive;"⟩, 11)) (List.mem_of_getElem? (i := 3) rfl)
theorem ks_D_at : Cond.selects "GuardVolume$Drive" ⟨"GuardVolume$Drive", "at", "(II)I"⟩ ⟨"GuardVolume$Drive", "at", "(II)I"⟩ ∈ gW := gW_sel (q := (⟨"GuardVolume$Drive", "at", "(II)I"⟩, 6)) (List.mem_of_getElem? (i := 4) rfl)
theorem ks_G_expectedVersion : Cond.selects "GuardVolume" ⟨"GuardVolume", "expectedVersion", "(II)I"⟩ ⟨"GuardVolume", "expectedVersion", "(II)I"⟩ ∈ gW := gW_sel (q := (⟨"GuardVolume", "expectedVersion", "(II)I"⟩, 11)) (List.mem_of_getElem? (i := 5) rfl)
theorem ks_G_listDrive : Cond.selects "GuardVolume" ⟨"GuardVolume", "listDrive", "(II)I"⟩ ⟨"GuardVolume", "listDrive", "(II)I"⟩ ∈ gW := gW_sel (q := (⟨"GuardVolume", "listDrive", "(II)I"⟩, 11)) (List.mem_of_getElem? (i := 6) rfl)
theorem ks_G_isPageRight : Cond.selects "GuardVolume" ⟨"GuardVolume", "isPageRight", "(II)Z"⟩ ⟨"GuardVolume", "isPageRight", "(II)Z"⟩ ∈ gW := gW_sel (q := (⟨"GuardVolume", "isPageRight", "(II)Z"⟩, 11)) (List.mem_of_getElem? (i := 7) rfl)
theorem ks_D_giveWords : Cond.selects "GuardVolume$Drive" ⟨"GuardVolume$Drive", "giveWords", "(I[I)V"⟩ ⟨"GuardVolume$Drive", "giveWords", "(I[I)V"⟩ ∈ gW := gW_sel (q := (⟨"GuardVolume$Drive", "giveWords", "(I[I)V"⟩, 6)) (List.mem_of_getElem? (i := 8) rfl)
theorem ks_G_putNotedBlock : Cond.selects "GuardVolume" ⟨"GuardVolume", "putNotedBlock", "()Z"⟩ ⟨"GuardVolume", "putNotedBlock", "()Z"⟩ ∈ gW := gW_sel (q := (⟨"GuardVolume", "putNotedBlock", "()Z"⟩, 11)) (List.mem_of_getElem? (i := 9) rfl)
theorem ks_G_putCopy : Cond.selects "GuardVolume" ⟨"GuardVolume", "putCopy", "(II[II)Z"⟩ ⟨"GuardVolume", "putCopy", "(II[II)Z"⟩ ∈ gW := gW_sel (q := (⟨"GuardVolume", "putCopy", "(II[II)Z"⟩, 11)) (List.mem_of_getElem? (i := 10) rfl)
theorem ks_G_store : Cond.selects "GuardVolume" ⟨"GuardVolume", "store", "(II[II)Z"⟩ ⟨"GuardVolume", "store", "(II[II)Z"⟩ ∈ gW := gW_sel (q := (⟨"GuardVolume", "store", "(II[II)Z"⟩, 11)) (List.mem_of_getElem? (i := 11) rfl)
theorem ks_P_allowsWrite : Cond.selects "GuardVolume$Power" ⟨"GuardVolume$Power", "allowsWrite", "()Z"⟩ ⟨"GuardVolume$Power", "allowsWrite", "()Z"⟩ ∈ gW := gW_sel (q := (⟨"GuardVolume$Power", "allowsWrite", "()Z"⟩, 2)) (List.mem_of_getElem? (i := 12) rfl)
theorem ks_D_take : Cond.selects "GuardVolume$Drive" ⟨"GuardVolume$Drive", "take", "(I[I)V"⟩ ⟨"GuardVolume$Drive", "take", "(I[I)V"⟩ ∈ gW := gW_sel (q := (⟨"GuardVolume$Drive", "take", "(I[I)V"⟩, 6)) (List.mem_of_getElem? (i := 13) rfl)
theorem ks_D_planOfNext : Cond.selects "GuardVolume$Drive" ⟨"GuardVolume$Drive", "planOfNext", "(I)I"⟩ ⟨"GuardVolume$Drive", "planOfNext", "(I)I"⟩ ∈ gW := gW_sel (q := (⟨"GuardVolume$Drive", "planOfNext", "(I)I"⟩, 6)) (List.mem_of_getElem? (i := 14) rfl)
theorem ks_D_keep : Cond.selects "GuardVolume$Drive" ⟨"GuardVolume$Drive", "keep", "(I[II)V"⟩ ⟨"GuardVolume$Drive", "keep", "(I[II)V"⟩ ∈ gW := gW_sel (q := (⟨"GuardVolume$Drive", "keep", "(I[II)V"⟩, 6)) (List.mem_of_getElem? (i := 15) rfl)
theorem ks_D_removePlan : Cond.selects "GuardVolume$Drive" ⟨"GuardVolume$Drive", "removePlan", "(I)V"⟩ ⟨"GuardVolume$Drive", "removePlan", "(I)V"⟩ ∈ gW := gW_sel (q := (⟨"GuardVolume$Drive", "removePlan", "(I)V"⟩, 6)) (List.mem_of_getElem? (i := 16) rfl)
theorem ks_G_storeList : Cond.selects "GuardVolume" ⟨"GuardVolume", "storeList", "(III)Z"⟩ ⟨"GuardVolume", "storeList", "(III)Z"⟩ ∈ gW := gW_sel (q := (⟨"GuardVolume", "storeList", "(III)Z"⟩, 11)) (List.mem_of_getElem? (i := 17) rfl)
theorem ks_D_addPlan : Cond.selects "GuardVolume$Drive" ⟨"GuardVolume$Drive", "addPlan", "(III)V"⟩ ⟨"GuardVolume$Drive", "addPlan", "(III)V"⟩ ∈ gW := gW_sel (q := (⟨"GuardVolume$Drive", "addPlan", "(III)V"⟩, 6)) (List.mem_of_getElem? (i := 18) rfl)
theorem ks_G_scrubBlock : Cond.selects "GuardVolume" ⟨"GuardVolume", "scrubBlock", "(I)Z"⟩ ⟨"GuardVolume", "scrubBlock", "(I)Z"⟩ ∈ gW := gW_sel (q := (⟨"GuardVolume", "scrubBlock", "(I)Z"⟩, 11)) (List.mem_of_getElem? (i := 19) rfl)
theorem ks_G_mendList : Cond.selects "GuardVolume" ⟨"GuardVolume", "mendList", "(II)Z"⟩ ⟨"GuardVolume", "mendList", "(II)Z"⟩ ∈ gW := gW_sel (q := (⟨"GuardVolume", "mendList", "(II)Z"⟩, 11)) (List.mem_of_getElem? (i := 20) rfl)
theorem ks_F_tell : Cond.selects "GuardVolume$Findings" ⟨"GuardVolume$Findings", "tell", "(IIII)V"⟩ ⟨"GuardVolume$Findings", "tell", "(IIII)V"⟩ ∈ gW := gW_sel (q := (⟨"GuardVolume$Findings", "tell", "(IIII)V"⟩, 3)) (List.mem_of_getElem? (i := 21) rfl)
theorem ks_G_mendCopies : Cond.selects "GuardVolume" ⟨"GuardVolume", "mendCopies", "(I)Z"⟩ ⟨"GuardVolume", "mendCopies", "(I)Z"⟩ ∈ gW := gW_sel (q := (⟨"GuardVolume", "mendCopies", "(I)Z"⟩, 11)) (List.mem_of_getElem? (i := 22) rfl)
theorem ks_D_wipe : Cond.selects "GuardVolume$Drive" ⟨"GuardVolume$Drive", "wipe", "()V"⟩ ⟨"GuardVolume$Drive", "wipe", "()V"⟩ ∈ gW := gW_sel (q := (⟨"GuardVolume$Drive", "wipe", "()V"⟩, 6)) (List.mem_of_getElem? (i := 23) rfl)
theorem ks_G_rebuildBlock : Cond.selects "GuardVolume" ⟨"GuardVolume", "rebuildBlock", "(III)Z"⟩ ⟨"GuardVolume", "rebuildBlock", "(III)Z"⟩ ∈ gW := gW_sel (q := (⟨"GuardVolume", "rebuildBlock", "(III)Z"⟩, 11)) (List.mem_of_getElem? (i := 24) rfl)
theorem ks_G_greatestPageVersion : Cond.selects "GuardVolume" ⟨"GuardVolume", "greatestPageVersion", "()I"⟩ ⟨"GuardVolume", "greatestPageVersion", "()I"⟩ ∈ gW := gW_sel (q := (⟨"GuardVolume", "greatestPageVersion", "()I"⟩, 11)) (List.mem_of_getElem? (i := 25) rfl)
theorem ks_M_sumAt : Cond.selects "GuardVolumeModel" ⟨"GuardVolumeModel", "sumAt", "(I)I"⟩ ⟨"GuardVolumeModel", "sumAt", "(I)I"⟩ ∈ gW := gW_sel (q := (⟨"GuardVolumeModel", "sumAt", "(I)I"⟩, 20)) (List.mem_of_getElem? (i := 26) rfl)
theorem ks_M_codeOf : Cond.selects "GuardVolumeModel" ⟨"GuardVolumeModel", "codeOf", "(I)I"⟩ ⟨"GuardVolumeModel", "codeOf", "(I)I"⟩ ∈ gW := gW_sel (q := (⟨"GuardVolumeModel", "codeOf", "(I)I"⟩, 20)) (List.mem_of_getElem? (i := 27) rfl)
theorem ks_M_verdictOf : Cond.selects "GuardVolumeModel" ⟨"GuardVolumeModel", "verdictOf", "(II)I"⟩ ⟨"GuardVolumeModel", "verdictOf", "(II)I"⟩ ∈ gW := gW_sel (q := (⟨"GuardVolumeModel", "verdictOf", "(II)I"⟩, 20)) (List.mem_of_getElem? (i := 28) rfl)
theorem ks_M_isWhole : Cond.selects "GuardVolumeModel" ⟨"GuardVolumeModel", "isWhole", "(II)Z"⟩ ⟨"GuardVolumeModel", "isWhole", "(II)Z"⟩ ∈ gW := gW_sel (q := (⟨"GuardVolumeModel", "isWhole", "(II)Z"⟩, 20)) (List.mem_of_getElem? (i := 29) rfl)
theorem ks_M_isUnknown : Cond.selects "GuardVolumeModel" ⟨"GuardVolumeModel", "isUnknown", "(II)Z"⟩ ⟨"GuardVolumeModel", "isUnknown", "(II)Z"⟩ ∈ gW := gW_sel (q := (⟨"GuardVolumeModel", "isUnknown", "(II)Z"⟩, 20)) (List.mem_of_getElem? (i := 30) rfl)
theorem ks_M_isRightPage : Cond.selects "GuardVolumeModel" ⟨"GuardVolumeModel", "isRightPage", "(II)Z"⟩ ⟨"GuardVolumeModel", "isRightPage", "(II)Z"⟩ ∈ gW := gW_sel (q := (⟨"GuardVolumeModel", "isRightPage", "(II)Z"⟩, 20)) (List.mem_of_getElem? (i := 31) rfl)
theorem ks_M_expectedOf : Cond.selects "GuardVolumeModel" ⟨"GuardVolumeModel", "expectedOf", "(II)I"⟩ ⟨"GuardVolumeModel", "expectedOf", "(II)I"⟩ ∈ gW := gW_sel (q := (⟨"GuardVolumeModel", "expectedOf", "(II)I"⟩, 20)) (List.mem_of_getElem? (i := 32) rfl)
theorem ks_M_listed : Cond.selects "GuardVolumeModel" ⟨"GuardVolumeModel", "listed", "(II)I"⟩ ⟨"GuardVolumeModel", "listed", "(II)I"⟩ ∈ gW := gW_sel (q := (⟨"GuardVolumeModel", "listed", "(II)I"⟩, 20)) (List.mem_of_getElem? (i := 33) rfl)
theorem ks_M_takeWords : Cond.selects "GuardVolumeModel" ⟨"GuardVolumeModel", "takeWords", "(II)V"⟩ ⟨"GuardVolumeModel", "takeWords", "(II)V"⟩ ∈ gW := gW_sel (q := (⟨"GuardVolumeModel", "takeWords", "(II)V"⟩, 20)) (List.mem_of_getElem? (i := 34) rfl)
theorem ks_M_put : Cond.selects "GuardVolumeModel" ⟨"GuardVolumeModel", "put", "(II)Z"⟩ ⟨"GuardVolumeModel", "put", "(II)Z"⟩ ∈ gW := gW_sel (q := (⟨"GuardVolumeModel", "put", "(II)Z"⟩, 20)) (List.mem_of_getElem? (i := 35) rfl)
theorem ks_M_putCopy : Cond.selects "GuardVolumeModel" ⟨"GuardVolumeModel", "putCopy", "(III)Z"⟩ ⟨"GuardVolumeModel", "putCopy", "(III)Z"⟩ ∈ gW := gW_sel (q := (⟨"GuardVolumeModel", "putCopy", "(III)Z"⟩, 20)) (List.mem_of_getElem? (i := 36) rfl)
theorem ks_M_storeRow : Cond.selects "GuardVolumeModel" ⟨"GuardVolumeModel", "storeRow", "(III)Z"⟩ ⟨"GuardVolumeModel", "storeRow", "(III)Z"⟩ ∈ gW := gW_sel (q := (⟨"GuardVolumeModel", "storeRow", "(III)Z"⟩, 20)) (List.mem_of_getElem? (i := 37) rfl)
theorem ks_M_store : Cond.selects "GuardVolumeModel" ⟨"GuardVolumeModel", "store", "(III)Z"⟩ ⟨"GuardVolumeModel", "store", "(III)Z"⟩ ∈ gW := gW_sel (q := (⟨"GuardVolumeModel", "store", "(III)Z"⟩, 20)) (List.mem_of_getElem? (i := 38) rfl)
theorem ks_M_planOf : Cond.selects "GuardVolumeModel" ⟨"GuardVolumeModel", "planOf", "(I)I"⟩ ⟨"GuardVolumeModel", "planOf", "(I)I"⟩ ∈ gW := gW_sel (q := (⟨"GuardVolumeModel", "planOf", "(I)I"⟩, 20)) (List.mem_of_getElem? (i := 39) rfl)
theorem ks_M_lay : Cond.selects "GuardVolumeModel" ⟨"GuardVolumeModel", "lay", "(III)V"⟩ ⟨"GuardVolumeModel", "lay", "(III)V"⟩ ∈ gW := gW_sel (q := (⟨"GuardVolumeModel", "lay", "(III)V"⟩, 20)) (List.mem_of_getElem? (i := 40) rfl)
theorem ks_M_dropPlan : Cond.selects "GuardVolumeModel" ⟨"GuardVolumeModel", "dropPlan", "(II)V"⟩ ⟨"GuardVolumeModel", "dropPlan", "(II)V"⟩ ∈ gW := gW_sel (q := (⟨"GuardVolumeModel", "dropPlan", "(II)V"⟩, 20)) (List.mem_of_getElem? (i := 41) rfl)
theorem ks_M_storeList : Cond.selects "GuardVolumeModel" ⟨"GuardVolumeModel", "storeList", "(III)Z"⟩ ⟨"GuardVolumeModel", "storeList", "(III)Z"⟩ ∈ gW := gW_sel (q := (⟨"GuardVolumeModel", "storeList", "(III)Z"⟩, 20)) (List.mem_of_getElem? (i := 42) rfl)
theorem ks_M_scrubOf : Cond.selects "GuardVolumeModel" ⟨"GuardVolumeModel", "scrubOf", "(I)Z"⟩ ⟨"GuardVolumeModel", "scrubOf", "(I)Z"⟩ ∈ gW := gW_sel (q := (⟨"GuardVolumeModel", "scrubOf", "(I)Z"⟩, 20)) (List.mem_of_getElem? (i := 43) rfl)
theorem ks_M_find : Cond.selects "GuardVolumeModel" ⟨"GuardVolumeModel", "find", "(IIII)V"⟩ ⟨"GuardVolumeModel", "find", "(IIII)V"⟩ ∈ gW := gW_sel (q := (⟨"GuardVolumeModel", "find", "(IIII)V"⟩, 20)) (List.mem_of_getElem? (i := 44) rfl)
end
section
/-! the world: cells by number, in the order in which the law makes them; what a step reads and writes, as functions -/
abbrev Wo : Type := Nat → Nat → Int32
/-- how many cells there are, and which fields are still null -/
abbrev La : Type := Nat × (Nat → Nat → Bool)
def obL : List (Option (Nat × List (Option Nat))) :=
  [some (4, [some 1, some 7, some 13, some 14, some 16, some 18, none, none, some 19, some 20, some 21]),
   some (0, [some 2, some 3, some 4, some 5, none, none]), none, none, none, none, none,
   some (0, [some 8, some 9, some 10, some 11, none, none]), none, none, none, none, none,
   some (3, [none, none]),
   some (2, [some 15, none, none]), none,
   some (1, [some 17, none, none]), none, none, none, none, none,
   some (5, [none, some 23, some 24, none, some 25, none, none, none, some 26, some 27, some 28, some 29, some 30, none, none, none, none, some 31, some 32, some 33])]
def arL : List (Option Nat) :=
  [none, none, some 792, some 8, some 8, some 8, some 11, none, some 792, some 8, some 8, some 8, some 11, none, none, some 8, none, some 400, some 16, some 11, some 8, some 8,
   none, some 1584, some 16, some 8, some 2, some 2, some 16, some 16, some 16, some 400, some 11, some 8]
/-- an object: the number of its class, and of each field whether it is a number or which cell it names -/
def ob (c : Nat) : Option (Nat × List (Option Nat)) := (obL[c]?).join
/-- an array of ints: its length -/
def ar (c : Nat) : Option Nat := (arL[c]?).join
theorem ar_ob {c n : Nat} (h : ar c = some n) : ob c = none := by
  by_cases hc : c < 34
  · have key : ∀ c, c < 34 → ar c ≠ none → ob c = none := by decide +kernel
    exact key c hc (by rw [h]; exact fun q => by cases q)
  · have : arL[c]? = none := List.getElem?_eq_none (by show 34 ≤ c; omega)
    unfold ar at h
    rw [this] at h
    cases h
def fd (c k i : Nat) : Option (Option Nat) := (ob c).bind fun o => if o.1 = k then o.2[i]? else none
def up2 (w : Wo) (c i : Nat) (x : Int32) : Wo := fun d j => if d = c then (if j = i then x else w d j) else w d j
def cpw (w : Wo) (a i b j n : Nat) : Wo := fun d => if d = b then va_cpy (w a) (w b) i j n else w d
def isC (Λ : La) (c k : Nat) : Bool := decide (c < Λ.1) && ((ob c).map (·.1) == some k)
def gi (Λ : La) (w : Wo) (c k i : Nat) : Option Int32 := if c < Λ.1 ∧ fd c k i = some none then some (w c i) else none
def gr (Λ : La) (c k i : Nat) : Option Nat := if c < Λ.1 ∧ Λ.2 c i = false then (fd c k i).join else none
def pf (Λ : La) (w : Wo) (c k i : Nat) (x : Int32) : Option Wo := if c < Λ.1 ∧ fd c k i = some none then some (up2 w c i x) else none
def aok (Λ : La) (c : Nat) (i : Int32) : Bool := match ar c with
  | some n => decide (c < Λ.1) && !(decide (i < 0) || decide (n ≤ i.toNatClampNeg))
  | none => false
def ld (Λ : La) (w : Wo) (c : Nat) (i : Int32) : Option Int32 := if aok Λ c i = true then some (w c i.toNatClampNeg) else none
def st (Λ : La) (w : Wo) (c : Nat) (i x : Int32) : Option Wo := if aok Λ c i = true then some (up2 w c i.toNatClampNeg x) else none
def al (Λ : La) (c : Nat) : Option Int32 := if c < Λ.1 then (ar c).map Int32.ofNat else none
def cpk (Λ : La) (a : Nat) (i : Int32) (b : Nat) (j n : Int32) : Bool := match ar a, ar b with
  | some na, some nb => decide (a < Λ.1) && decide (b < Λ.1) && !decide (i < 0) && !decide (j < 0) && !decide (n < 0) && decide (i.toNatClampNeg + n.toNatClampNeg ≤ na) && decide (j.toNatClampNeg + n.toNatClampNeg ≤ nb)
  | _, _ => false
def cp (Λ : La) (w : Wo) (a : Nat) (i : Int32) (b : Nat) (j n : Int32) : Option Wo := if cpk Λ a i b j n = true then some (cpw w a i.toNatClampNeg b j.toNatClampNeg n.toNatClampNeg) else none
/-- only where it holds -/
def gd {α : Type} (b : Bool) (x : Option α) : Option α := if b = true then x else none
def zr (w : Wo) (x : Int32) : Option (Wo × Int32) := if x = 0 ∨ x = 1 then some (w, x) else none
def ush (x y : Int32) : Int32 := (x.toUInt32 >>> (y.toUInt32 &&& Int32.toUInt32 31)).toInt32
theorem ush_ok (x y : Int32) : (x.toUInt32 >>> (y.toUInt32 &&& Int32.toUInt32 31)).toInt32 = ush x y := rfl
theorem gd_some {α : Type} {b : Bool} {x : Option α} {q : α} (h : gd b x = some q) : b = true ∧ x = some q := by
  unfold gd at h
  by_cases hb : b = true
  · rw [if_pos hb] at h; exact ⟨hb, h⟩
  · rw [if_neg hb] at h; cases h
theorem ob_ {α β : Type} {x : Option α} {f : α → Option β} {q : β} (h : x.bind f = some q) : ∃ a, x = some a ∧ f a = some q := Option.bind_eq_some_iff.mp h
theorem ip_ {α : Type} {c : Prop} [Decidable c] {a b : Option α} {q : α} (h : (if c then a else b) = some q) (hc : c) : a = some q := by rw [if_pos hc] at h; exact h
theorem in_ {α : Type} {c : Prop} [Decidable c] {a b : Option α} {q : α} (h : (if c then a else b) = some q) (hc : ¬ c) : b = some q := by rw [if_neg hc] at h; exact h
theorem fd_some {c k i : Nat} {o : Option Nat} (h : fd c k i = some o) : ∃ fs, ob c = some (k, fs) ∧ fs[i]? = some o := by
  unfold fd at h
  obtain ⟨⟨k', fs⟩, h1, h2⟩ := ob_ h
  by_cases hk : k' = k
  · subst hk
    exact ⟨fs, h1, ip_ h2 rfl⟩
  · exact absurd (in_ h2 hk) (fun q => by cases q)
theorem isC_some {Λ : La} {c k : Nat} (h : isC Λ c k = true) : c < Λ.1 ∧ ∃ fs, ob c = some (k, fs) := by
  unfold isC at h
  rw [Bool.and_eq_true, decide_eq_true_eq, beq_iff_eq] at h
  refine ⟨h.1, ?_⟩
  cases ho : ob c with
  | none => rw [ho] at h; cases h.2
  | some o =>
    rw [ho] at h
    obtain ⟨k', fs⟩ := o
    have h2 : some k' = some k := h.2
    cases h2
    exact ⟨fs, rfl⟩
theorem gi_some {Λ : La} {w : Wo} {c k i : Nat} {x : Int32} (h : gi Λ w c k i = some x) : c < Λ.1 ∧ (∃ fs, ob c = some (k, fs) ∧ fs[i]? = some none) ∧ x = w c i := by
  unfold gi at h
  by_cases hc : c < Λ.1 ∧ fd c k i = some none
  · have h1 := ip_ h hc
    cases h1
    exact ⟨hc.1, fd_some hc.2, rfl⟩
  · exact absurd (in_ h hc) (fun q => by cases q)
theorem gr_some {Λ : La} {c k i r : Nat} (h : gr Λ c k i = some r) : c < Λ.1 ∧ Λ.2 c i = false ∧ ∃ fs, ob c = some (k, fs) ∧ fs[i]? = some (some r) := by
  unfold gr at h
  by_cases hc : c < Λ.1 ∧ Λ.2 c i = false
  · have h1 := ip_ h hc
    cases hf : fd c k i with
    | none => rw [hf] at h1; cases h1
    | some o =>
      rw [hf] at h1
      have h2 : o = some r := h1
      subst h2
      exact ⟨hc.1, hc.2, fd_some hf⟩
  · exact absurd (in_ h hc) (fun q => by cases q)
theorem pf_some {Λ : La} {w w1 : Wo} {c k i : Nat} {x : Int32} (h : pf Λ w c k i x = some w1) : c < Λ.1 ∧ (∃ fs, ob c = some (k, fs) ∧ fs[i]? = some none) ∧ w1 = up2 w c i x := by
  unfold pf at h
  by_cases hc : c < Λ.1 ∧ fd c k i = some none
  · have h1 := ip_ h hc
    cases h1
    exact ⟨hc.1, fd_some hc.2, rfl⟩
  · exact absurd (in_ h hc) (fun q => by cases q)
theorem aok_some {Λ : La} {c : Nat} {i : Int32} (h : aok Λ c i = true) : c < Λ.1 ∧ ∃ n, ar c = some n ∧ vp_in i n := by
  unfold aok at h
  cases ha : ar c with
  | none => rw [ha] at h; cases h
  | some n =>
    rw [ha] at h
    have h : (decide (c < Λ.1) && !(decide (i < 0) || decide (n ≤ i.toNatClampNeg))) = true := h
    rw [Bool.and_eq_true, decide_eq_true_eq, Bool.not_eq_true', Bool.or_eq_false_iff, decide_eq_false_iff_not, decide_eq_false_iff_not] at h
    exact ⟨h.1, n, rfl, fun q => q.elim h.2.1 h.2.2⟩
theorem ld_some {Λ : La} {w : Wo} {c : Nat} {i x : Int32} (h : ld Λ w c i = some x) : aok Λ c i = true ∧ x = w c i.toNatClampNeg := by
  unfold ld at h
  by_cases hc : aok Λ c i = true
  · have h1 := ip_ h hc
    cases h1
    exact ⟨hc, rfl⟩
  · exact absurd (in_ h hc) (fun q => by cases q)
theorem st_some {Λ : La} {w w1 : Wo} {c : Nat} {i x : Int32} (h : st Λ w c i x = some w1) : aok Λ c i = true ∧ w1 = up2 w c i.toNatClampNeg x := by
  unfold st at h
  by_cases hc : aok Λ c i = true
  · have h1 := ip_ h hc
    cases h1
    exact ⟨hc, rfl⟩
  · exact absurd (in_ h hc) (fun q => by cases q)
theorem al_some {Λ : La} {c : Nat} {x : Int32} (h : al Λ c = some x) : c < Λ.1 ∧ ∃ n, ar c = some n ∧ Int32.ofNat n = x := by
  unfold al at h
  by_cases hc : c < Λ.1
  · have h1 := ip_ h hc
    cases ha : ar c with
    | none => rw [ha] at h1; cases h1
    | some n => rw [ha] at h1; exact ⟨hc, n, rfl, Option.some.inj h1⟩
  · exact absurd (in_ h hc) (fun q => by cases q)
theorem cp_some {Λ : La} {w w1 : Wo} {a b : Nat} {i j n : Int32} (h : cp Λ w a i b j n = some w1) : w1 = cpw w a i.toNatClampNeg b j.toNatClampNeg n.toNatClampNeg ∧ a < Λ.1 ∧ b < Λ.1 ∧ ¬ i < 0 ∧ ¬ j < 0 ∧ ¬ n < 0 ∧ ∃ na nb, ar a = some na ∧ ar b = some nb ∧ i.toNatClampNeg + n.toNatClampNeg ≤ na ∧ j.toNatClampNeg + n.toNatClampNeg ≤ nb := by
  unfold cp at h
  by_cases hc : cpk Λ a i b j n = true
  · have h1 := ip_ h hc
    cases h1
    unfold cpk at hc
    cases ha : ar a with
    | none => rw [ha] at hc; cases hc
    | some na =>
      cases hb : ar b with
      | none => rw [ha, hb] at hc; cases hc
      | some nb =>
        rw [ha, hb] at hc
        have hc : (decide (a < Λ.1) && decide (b < Λ.1) && !decide (i < 0) && !decide (j < 0) && !decide (n < 0) && decide (i.toNatClampNeg + n.toNatClampNeg ≤ na) && decide (j.toNatClampNeg + n.toNatClampNeg ≤ nb)) = true := hc
        simp only [Bool.and_eq_true, decide_eq_true_eq, Bool.not_eq_true', decide_eq_false_iff_not] at hc
        obtain ⟨⟨⟨⟨⟨⟨h1, h2⟩, h3⟩, h4⟩, h5⟩, h6⟩, h7⟩ := hc
        exact ⟨rfl, h1, h2, h3, h4, h5, na, nb, rfl, rfl, h6, h7⟩
  · exact absurd (in_ h hc) (fun q => by cases q)
/-! the cells as the kit has them -/
def fval (Λ : La) (ad : Nat → Nat) (f : Nat → Int32) (c i : Nat) (o : Option Nat) : Value := match o with
  | none => .int (f i)
  | some r => if Λ.2 c i = true then .null else .ref (ad r)
def fv (Λ : La) (ad : Nat → Nat) (w : Wo) (c : Nat) (fs : List (Option Nat)) : List Value := fs.mapIdx (fval Λ ad (w c) c)
def ce (kA kL : ClassId) (Λ : La) (ad : Nat → Nat) (w : Wo) (c : Nat) : va_E := match ob c with
  | some o => .inr (o.1, fv Λ ad w c o.2)
  | none => match ar c with
    | some n => .inl (kA, n, .inl (w c))
    | none => .inl (kL, 1, .inr (.inl fun i => (w c i).toInt64))
def wl (kA kL : ClassId) (Λ : La) (ad : Nat → Nat) (w : Wo) : va_W := (List.range Λ.1).map fun c => (ad c, ce kA kL Λ ad w c)
theorem wl_at {kA kL : ClassId} {Λ : La} {ad : Nat → Nat} {w : Wo} {c : Nat} (hc : c < Λ.1) : (wl kA kL Λ ad w)[c]? = some (ad c, ce kA kL Λ ad w c) := by
  unfold wl
  rw [List.getElem?_map, List.getElem?_range hc]
  rfl
theorem wl_no {kA kL : ClassId} {Λ : La} {ad : Nat → Nat} {w : Wo} {c : Nat} (hc : ¬ c < Λ.1) : (wl kA kL Λ ad w)[c]? = none := by
  unfold wl
  apply List.getElem?_eq_none
  rw [List.length_map, List.length_range]
  omega
theorem wl_mem {kA kL : ClassId} {Λ : La} {ad : Nat → Nat} {w : Wo} {c : Nat} {q : Nat × va_E} (h : (wl kA kL Λ ad w)[c]? = some q) : c < Λ.1 ∧ q = (ad c, ce kA kL Λ ad w c) := by
  by_cases hc : c < Λ.1
  · rw [wl_at hc] at h
    exact ⟨hc, (Option.some.inj h).symm⟩
  · rw [wl_no hc] at h
    cases h
theorem fv_congr {Λ : La} {ad : Nat → Nat} {w w' : Wo} {c : Nat} (fs : List (Option Nat)) (h : w' c = w c) : fv Λ ad w' c fs = fv Λ ad w c fs := by
  unfold fv
  rw [h]
theorem ce_congr {kA kL : ClassId} {Λ : La} {ad : Nat → Nat} {w w' : Wo} {c : Nat} (h : w' c = w c) : ce kA kL Λ ad w' c = ce kA kL Λ ad w c := by
  unfold ce fv
  rw [h]
theorem wl_set {kA kL : ClassId} {Λ : La} {ad : Nat → Nat} {w w' : Wo} {c : Nat} {E : va_E} (hc : c < Λ.1) (hE : ce kA kL Λ ad w' c = E) (ho : ∀ d, d ≠ c → w' d = w d) : (wl kA kL Λ ad w).set c (ad c, E) = wl kA kL Λ ad w' := by
  apply List.ext_getElem?
  intro i
  by_cases h : c = i
  · subst h
    rw [wl_at hc, hE, List.getElem?_set_self (by unfold wl; rw [List.length_map, List.length_range]; exact hc)]
  · rw [List.getElem?_set_ne h]
    by_cases hi : i < Λ.1
    · rw [wl_at hi, wl_at hi, ce_congr (ho i (fun q => h q.symm))]
    · rw [wl_no hi, wl_no hi]
theorem fv_at {Λ : La} {ad : Nat → Nat} {w : Wo} {c i : Nat} {fs : List (Option Nat)} {o : Option Nat} (h : fs[i]? = some o) : (fv Λ ad w c fs)[i]? = some (fval Λ ad (w c) c i o) := by
  unfold fv
  rw [List.getElem?_mapIdx, h]
  rfl
theorem fv_set {Λ : La} {ad : Nat → Nat} {w : Wo} {c i : Nat} {fs : List (Option Nat)} {x : Int32} (h : fs[i]? = some none) : fv Λ ad (up2 w c i x) c fs = (fv Λ ad w c fs).set i (.int x) := by
  have hlen : ∀ w : Wo, (fv Λ ad w c fs).length = fs.length := fun w => by unfold fv; rw [List.length_mapIdx]
  have hi : i < fs.length := (List.getElem?_eq_some_iff.mp h).1
  apply List.ext_getElem?
  intro j
  by_cases hj : i = j
  · subst hj
    rw [List.getElem?_set_self (by rw [hlen]; exact hi), fv_at h]
    show some (Value.int (up2 w c i x c i)) = _
    unfold up2
    rw [if_pos rfl, if_pos rfl]
  · rw [List.getElem?_set_ne hj]
    cases hf : fs[j]? with
    | none =>
      have : fs.length ≤ j := List.getElem?_eq_none_iff.mp hf
      rw [List.getElem?_eq_none (by rw [hlen]; exact this), List.getElem?_eq_none (by rw [hlen]; exact this)]
    | some o =>
      rw [fv_at hf, fv_at hf]
      cases o with
      | none =>
        show some (Value.int (up2 w c i x c j)) = some (Value.int (w c j))
        unfold up2
        rw [if_pos rfl, if_neg (fun q => hj q.symm)]
      | some r => rfl
theorem up2_ne {w : Wo} {c i : Nat} {x : Int32} : ∀ d, d ≠ c → up2 w c i x d = w d := fun d h => by
  funext j
  unfold up2
  rw [if_neg h]
theorem up2_eq {w : Wo} {c i : Nat} {x : Int32} : up2 w c i x c = upd (w c) i x := by
  funext j
  unfold up2 upd
  rw [if_pos rfl]
theorem cpw_ne {w : Wo} {a i b j n : Nat} : ∀ d, d ≠ b → cpw w a i b j n d = w d := fun d h => by
  unfold cpw
  rw [if_neg h]
theorem cpw_eq {w : Wo} {a i b j n : Nat} : cpw w a i b j n b = va_cpy (w a) (w b) i j n := by
  unfold cpw
  rw [if_pos rfl]
theorem ce_ob {kA kL : ClassId} {Λ : La} {ad : Nat → Nat} {w : Wo} {c k : Nat} {fs : List (Option Nat)} (h : ob c = some (k, fs)) : ce kA kL Λ ad w c = .inr (k, fv Λ ad w c fs) := by
  unfold ce
  rw [h]
theorem ce_ar {kA kL : ClassId} {Λ : La} {ad : Nat → Nat} {w : Wo} {c n : Nat} (h : ar c = some n) : ce kA kL Λ ad w c = .inl (kA, n, .inl (w c)) := by
  unfold ce
  rw [ar_ob h, h]
/-! the addresses, the nest's links, the state, the invariant of a walk -/
def Aa (Λ : La) (ad : Nat → Nat) : Nat → Prop := fun q => ∃ c, c < Λ.1 ∧ q = ad c
def Inj (Λ : La) (ad : Nat → Nat) : Prop := ∀ i j, i < Λ.1 → j < Λ.1 → ad i = ad j → i = j
theorem wl_D {A : Nat → Prop} {kA kL : ClassId} {Λ : La} {ad : Nat → Nat} {w : Wo} (h : Inj Λ ad) (hA : ∀ c, c < Λ.1 → A (ad c)) : va_D A (wl kA kL Λ ad w) := by
  refine ⟨fun i j p q hp hq hpq => ?_, fun k q hq => ?_⟩
  · obtain ⟨h1, rfl⟩ := wl_mem hp
    obtain ⟨h2, rfl⟩ := wl_mem hq
    exact h i j h1 h2 hpq
  · obtain ⟨h1, rfl⟩ := wl_mem hq
    exact hA k h1
theorem isNe_warm {w : Cond} {s U : State} (h : isNe w = true) (hW : s.WarmedH U.vm) (h0 : va_Nw w s) : va_Nw w U := by
  cases w <;> first | exact va_Nw.warmF hW h0 | exact va_Nw.warmM hW h0 | exact va_Nw.warmC hW h0 | exact va_Nw.warmD hW h0 | exact Bool.noConfusion h
theorem isNe_tab {w : Cond} (h : isNe w = true) : w.onTables = true := by
  cases w <;> first | rfl | exact Bool.noConfusion h
def Nst (U : State) : Prop := ∀ w ∈ nW, va_Nw w U
theorem Nst.warm {s U : State} (hW : s.WarmedH U.vm) (h : Nst s) : Nst U := fun w hw => isNe_warm (List.mem_filter.mp hw).2 hW (h w hw)
theorem Nst.same {s U : State} (hv : s.vm = U.vm) (h : Nst s) : Nst U := fun w hw => va_Nw.same (isNe_tab (List.mem_filter.mp hw).2) hv (h w hw)
abbrev tyA (kA kL : ClassId) : List (ClassId × FieldType) := [(kA, .int), (kL, .long)]
def St (G : va_G) (kA kL : ClassId) (Λ : La) (ad : Nat → Nat) (w : Wo) (U : State) : Prop := va_P G vCl (wl kA kL Λ ad w) U.heap ∧ Inj Λ ad ∧ va_K G vCl (tyA kA kL) U ∧ Nst U
def Iv (A : Nat → Prop) (G : va_G) (kA kL : ClassId) (Λ : La) (ad : Nat → Nat) (w : Wo) (s : State) (H : Heap) (locs : List Loc) : Prop := va_P G vCl (wl kA kL Λ ad w) H ∧ Inj Λ ad ∧ va_K G vCl (tyA kA kL) s ∧ Nst s ∧ va_S A s.heap H locs ∧ ∀ c, c < Λ.1 → A (ad c)
theorem St.blind {G : va_G} {kA kL : ClassId} {Λ : La} {ad : Nat → Nat} {w : Wo} {av : List Value} : FrameBlind (va_Pc av (St G kA kL Λ ad w)) := fun a U g mk q => ⟨q.1, q.2.1, q.2.2.1, va_K.moved (u := U) (U := U.calling g mk a) (Vm.Alike.refl U.vm) q.2.2.2.1, Nst.same (s := U) (U := U.calling g mk a) rfl q.2.2.2.2⟩
theorem Iv.toSt {A : Nat → Prop} {G : va_G} {kA kL : ClassId} {Λ : La} {ad : Nat → Nat} {w : Wo} {s U : State} {H : Heap} {locs : List Loc} (h : Iv A G kA kL Λ ad w s H locs) (hU : U.heap = H) (hW : s.WarmedH U.vm) : St G kA kL Λ ad w U := ⟨by rw [hU]; exact h.1, h.2.1, va_K.moved hW.alike h.2.2.1, Nst.warm hW h.2.2.2.1⟩
/-- a class by its number: its row in the table, and what the tables say of its fields -/
def FC (k : Nat) (C : String) (T : u_T) (N : Nat) (ty0 : Nat → FieldType) : Prop := vCl[k]? = some (C, T, N) ∧ (∀ w ∈ u_ws C T N, w ∈ gW) ∧ (∀ k, k < N → parseFieldDescriptor (T k).2.2.1 = some (ty0 k)) ∧ (∀ a, a < N → ∀ b, b < N → a ≠ b → (T a).2.1 ≠ (T b).2.1)
end
section
/-! a class by its number; constants; switches (written by aux.py) -/
theorem uwD : ∀ w ∈ u_ws RD TD 6, w ∈ gW := by
  intro w h
  have h : w ∈ [u_lay RD TD 0, u_lay RD TD 1, u_lay RD TD 2, u_lay RD TD 3, u_lay RD TD 4, u_lay RD TD 5] := h
  rcases List.mem_cons.mp h with rfl | h
  · exact kw_46
  rcases List.mem_cons.mp h with rfl | h
  · exact kw_48
  rcases List.mem_cons.mp h with rfl | h
  · exact kw_50
  rcases List.mem_cons.mp h with rfl | h
  · exact kw_52
  rcases List.mem_cons.mp h with rfl | h
  · exact kw_54
  rcases List.mem_cons.mp h with rfl | h
  · exact kw_56
  cases h
theorem fcD : FC 0 RD TD 6 tD := ⟨rfl, uwD, tD_ok, nD⟩
theorem uwF : ∀ w ∈ u_ws RF TF 3, w ∈ gW := by
  intro w h
  have h : w ∈ [u_lay RF TF 0, u_lay RF TF 1, u_lay RF TF 2] := h
  rcases List.mem_cons.mp h with rfl | h
  · exact kw_106
  rcases List.mem_cons.mp h with rfl | h
  · exact kw_108
  rcases List.mem_cons.mp h with rfl | h
  · exact kw_110
  cases h
theorem fcF : FC 1 RF TF 3 tF := ⟨rfl, uwF, tF_ok, nF⟩
theorem uwJ : ∀ w ∈ u_ws RJ TJ 3, w ∈ gW := by
  intro w h
  have h : w ∈ [u_lay RJ TJ 0, u_lay RJ TJ 1, u_lay RJ TJ 2] := h
  rcases List.mem_cons.mp h with rfl | h
  · exact kw_87
  rcases List.mem_cons.mp h with rfl | h
  · exact kw_89
  rcases List.mem_cons.mp h with rfl | h
  · exact kw_91
  cases h
theorem fcJ : FC 2 RJ TJ 3 tJ := ⟨rfl, uwJ, tJ_ok, nJ⟩
theorem uwP : ∀ w ∈ u_ws RP TP 2, w ∈ gW := by
  intro w h
  have h : w ∈ [u_lay RP TP 0, u_lay RP TP 1] := h
  rcases List.mem_cons.mp h with rfl | h
  · exact kw_70
  rcases List.mem_cons.mp h with rfl | h
  · exact kw_72
  cases h
theorem fcP : FC 3 RP TP 2 tP := ⟨rfl, uwP, tP_ok, nP⟩
theorem uwG : ∀ w ∈ u_ws RG TG 11, w ∈ gW := by
  intro w h
  have h : w ∈ [u_lay RG TG 0, u_lay RG TG 1, u_lay RG TG 2, u_lay RG TG 3, u_lay RG TG 4, u_lay RG TG 5, u_lay RG TG 6, u_lay RG TG 7, u_lay RG TG 8, u_lay RG TG 9, u_lay RG TG 10] := h
  rcases List.mem_cons.mp h with rfl | h
  · exact kw_124
  rcases List.mem_cons.mp h with rfl | h
  · exact kw_126
  rcases List.mem_cons.mp h with rfl | h
  · exact kw_128
  rcases List.mem_cons.mp h with rfl | h
  · exact kw_130
  rcases List.mem_cons.mp h with rfl | h
  · exact kw_132
  rcases List.mem_cons.mp h with rfl | h
  · exact kw_134
  rcases List.mem_cons.mp h with rfl | h
  · exact kw_136
  rcases List.mem_cons.mp h with rfl | h
  · exact kw_138
  rcases List.mem_cons.mp h with rfl | h
  · exact kw_140
  rcases List.mem_cons.mp h with rfl | h
  · exact kw_142
  rcases List.mem_cons.mp h with rfl | h
  · exact kw_144
  cases h
theorem fcG : FC 4 RG TG 11 tG := ⟨rfl, uwG, tG_ok, nG⟩
theorem uwM : ∀ w ∈ u_ws RM TM 20, w ∈ gW := by
  intro w h
  have h : w ∈ [u_lay RM TM 0, u_lay RM TM 1, u_lay RM TM 2, u_lay RM TM 3, u_lay RM TM 4, u_lay RM TM 5, u_lay RM TM 6, u_lay RM TM 7, u_lay RM TM 8, u_lay RM TM 9, u_lay RM TM 10, u_lay RM TM 11, u_lay RM TM 12, u_lay RM TM 13, u_lay RM TM 14, u_lay RM TM 15, u_lay RM TM 16, u_lay RM TM 17, u_lay RM TM 18, u_lay RM TM 19] := h
  rcases List.mem_cons.mp h with rfl | h
  · exact kw_521
  rcases List.mem_cons.mp h with rfl | h
  · exact kw_523
  rcases List.mem_cons.mp h with rfl | h
  · exact kw_525
  rcases List.mem_cons.mp h with rfl | h
  · exact kw_527
  rcases List.mem_cons.mp h with rfl | h
  · exact kw_529
  rcases List.mem_cons.mp h with rfl | h
  · exact kw_531
  rcases List.mem_cons.mp h with rfl | h
  · exact kw_533
  rcases List.mem_cons.mp h with rfl | h
  · exact kw_535
  rcases List.mem_cons.mp h with rfl | h
  · exact kw_537
  rcases List.mem_cons.mp h with rfl | h
  · exact kw_539
  rcases List.mem_cons.mp h with rfl | h
  · exact kw_541
  rcases List.mem_cons.mp h with rfl | h
  · exact kw_543
  rcases List.mem_cons.mp h with rfl | h
  · exact kw_545
  rcases List.mem_cons.mp h with rfl | h
  · exact kw_547
  rcases List.mem_cons.mp h with rfl | h
  · exact kw_549
  rcases List.mem_cons.mp h with rfl | h
  · exact kw_551
  rcases List.mem_cons.mp h with rfl | h
  · exact kw_553
  rcases List.mem_cons.mp h with rfl | h
  · exact kw_555
  rcases List.mem_cons.mp h with rfl | h
  · exact kw_557
  rcases List.mem_cons.mp h with rfl | h
  · exact kw_559
  cases h
theorem fcM : FC 5 RM TM 20 tM := ⟨rfl, uwM, tM_ok, nM⟩
theorem kB_6 : (Int8.ofInt 6).toInt32 = 6 := by decide +kernel
theorem kB_7 : (Int8.ofInt 7).toInt32 = 7 := by decide +kernel
theorem kB_8 : (Int8.ofInt 8).toInt32 = 8 := by decide +kernel
theorem kB_9 : (Int8.ofInt 9).toInt32 = 9 := by decide +kernel
theorem kB_10 : (Int8.ofInt 10).toInt32 = 10 := by decide +kernel
theorem kB_11 : (Int8.ofInt 11).toInt32 = 11 := by decide +kernel
theorem kB_15 : (Int8.ofInt 15).toInt32 = 15 := by decide +kernel
theorem kB_16 : (Int8.ofInt 16).toInt32 = 16 := by decide +kernel
theorem kB_27 : (Int8.ofInt 27).toInt32 = 27 := by decide +kernel
theorem kB_50 : (Int8.ofInt 50).toInt32 = 50 := by decide +kernel
theorem kB_60 : (Int8.ofInt 60).toInt32 = 60 := by decide +kernel
theorem kB_64 : (Int8.ofInt 64).toInt32 = 64 := by decide +kernel
theorem kB_72 : (Int8.ofInt 72).toInt32 = 72 := by decide +kernel
theorem kB_100 : (Int8.ofInt 100).toInt32 = 100 := by decide +kernel
theorem kI_m1 : Int32.ofInt (-1) = (-1) := by decide +kernel
theorem kI_0 : Int32.ofInt 0 = 0 := by decide +kernel
theorem kI_1 : Int32.ofInt 1 = 1 := by decide +kernel
theorem kI_2 : Int32.ofInt 2 = 2 := by decide +kernel
theorem kI_3 : Int32.ofInt 3 = 3 := by decide +kernel
theorem kI_4 : Int32.ofInt 4 = 4 := by decide +kernel
theorem kI_5 : Int32.ofInt 5 = 5 := by decide +kernel
theorem kN_1 (x : Int32) : x + Int32.ofInt 1 = x + 1 := by rw [show Int32.ofInt 1 = 1 from by decide +kernel]
theorem kN_5 (x : Int32) : x + Int32.ofInt 5 = x + 5 := by rw [show Int32.ofInt 5 = 5 from by decide +kernel]
theorem kS_400 : (Int16.ofInt 400).toInt32 = 400 := by decide +kernel
theorem kS_792 : (Int16.ofInt 792).toInt32 = 792 := by decide +kernel
theorem kS_1584 : (Int16.ofInt 1584).toInt32 = 1584 := by decide +kernel
section TSW
variable {p : Program} {l : Launch} {e : Env} {R : Room} {s : State} {m : MethodId} {args : Array Value} {below : List Frame} {meth : Method} {c : Code} {H : Heap} {locs : List Loc} {cells slots : Nat} {Q : State → Prop}
variable {cc : ByteArray} {pc : Nat} {ls : Array Slot} {rest : List Value}
theorem tsw_c {k : Nat} (hexec : p.tables.exec = Jvm.exec) (hb : c.code = cc) {dflt hi : Int} {offs : Array Int} {len : Nat} {x : Int32} {off : Int} {tgt : Nat} (hdg : decode cc pc = .ok (.tableswitch dflt 0 hi offs, len)) (hk : k < 2 ^ 31) (hk2 : ¬ hi < (k : Int)) (ho : offs[k]? = some off) (ht : (pc : Int) + off = (tgt : Int))
    (kt : x = Int32.ofNat k → W p l e R s m args below meth c H locs cells slots Q (F0 m tgt ls rest)) (kf : ¬ x = Int32.ofNat k → W p l e R s m args below meth c H locs cells slots Q (F0 m pc ls (.int x :: rest))) : W p l e R s m args below meth c H locs cells slots Q (F0 m pc ls (.int x :: rest)) := by
  by_cases h : x = Int32.ofNat k
  · have ht2 : x.toInt = (k : Int) := by rw [h]; exact nI_toInt hk
    refine lv_tableIn hexec hb hdg (by omega) (by omega) (off := off) ?_ ht (kt h)
    rw [ht2]
    simpa using ho
  · exact kf h
theorem tsw_ne {x : Int32} (k : Nat) (hk : k < 2 ^ 31) (h : ¬ x = Int32.ofNat k) : x.toInt ≠ (k : Int) := fun q => h (Int32.toInt_inj.mp (q.trans (nI_toInt hk).symm))
theorem tsw_o3 {x : Int32} (h0 : ¬ x = Int32.ofNat 0) (h1 : ¬ x = Int32.ofNat 1) (h2 : ¬ x = Int32.ofNat 2) : x.toInt < 0 ∨ (2 : Int) < x.toInt := by
  have g0 := tsw_ne 0 (by decide) h0
  have g1 := tsw_ne 1 (by decide) h1
  have g2 := tsw_ne 2 (by decide) h2
  omega
theorem tsw_o8 {x : Int32} (h0 : ¬ x = Int32.ofNat 0) (h1 : ¬ x = Int32.ofNat 1) (h2 : ¬ x = Int32.ofNat 2) (h3 : ¬ x = Int32.ofNat 3) (h4 : ¬ x = Int32.ofNat 4) (h5 : ¬ x = Int32.ofNat 5) (h6 : ¬ x = Int32.ofNat 6) (h7 : ¬ x = Int32.ofNat 7) : x.toInt < 0 ∨ (7 : Int) < x.toInt := by
  have g0 := tsw_ne 0 (by decide) h0
  have g1 := tsw_ne 1 (by decide) h1
  have g2 := tsw_ne 2 (by decide) h2
  have g3 := tsw_ne 3 (by decide) h3
  have g4 := tsw_ne 4 (by decide) h4
  have g5 := tsw_ne 5 (by decide) h5
  have g6 := tsw_ne 6 (by decide) h6
  have g7 := tsw_ne 7 (by decide) h7
  omega
theorem tsw_o16 {x : Int32} (h0 : ¬ x = Int32.ofNat 0) (h1 : ¬ x = Int32.ofNat 1) (h2 : ¬ x = Int32.ofNat 2) (h3 : ¬ x = Int32.ofNat 3) (h4 : ¬ x = Int32.ofNat 4) (h5 : ¬ x = Int32.ofNat 5) (h6 : ¬ x = Int32.ofNat 6) (h7 : ¬ x = Int32.ofNat 7) (h8 : ¬ x = Int32.ofNat 8) (h9 : ¬ x = Int32.ofNat 9) (h10 : ¬ x = Int32.ofNat 10) (h11 : ¬ x = Int32.ofNat 11) (h12 : ¬ x = Int32.ofNat 12) (h13 : ¬ x = Int32.ofNat 13) (h14 : ¬ x = Int32.ofNat 14) (h15 : ¬ x = Int32.ofNat 15) : x.toInt < 0 ∨ (15 : Int) < x.toInt := by
  have g0 := tsw_ne 0 (by decide) h0
  have g1 := tsw_ne 1 (by decide) h1
  have g2 := tsw_ne 2 (by decide) h2
  have g3 := tsw_ne 3 (by decide) h3
  have g4 := tsw_ne 4 (by decide) h4
  have g5 := tsw_ne 5 (by decide) h5
  have g6 := tsw_ne 6 (by decide) h6
  have g7 := tsw_ne 7 (by decide) h7
  have g8 := tsw_ne 8 (by decide) h8
  have g9 := tsw_ne 9 (by decide) h9
  have g10 := tsw_ne 10 (by decide) h10
  have g11 := tsw_ne 11 (by decide) h11
  have g12 := tsw_ne 12 (by decide) h12
  have g13 := tsw_ne 13 (by decide) h13
  have g14 := tsw_ne 14 (by decide) h14
  have g15 := tsw_ne 15 (by decide) h15
  omega
end TSW
end
section
/-! rows of a walk over the world; contracts -/
section WR
variable {p : Program} {l : Launch} {e : Env} {R : Room} {s : State} {m : MethodId} {args : Array Value} {below : List Frame} {meth : Method} {c : Code} {H : Heap} {locs : List Loc} {cells slots : Nat} {Q : State → Prop}
variable {cc : ByteArray} {pc nL : Nat} {ls : Array Slot} {rest stk : List Value} {a0 : Cond} {own : String} {lv : List (Nat × Value)}
variable {G : va_G} {kA kL : ClassId} {Λ : La} {ad : Nat → Nat} {w w1 : Wo} {A : Nat → Prop}
theorem cfw {Ts : List Cond} (S : CallFix p m c cc nL s args (a0 :: gW) own) {x : Cond} (h : x ∈ gW) : x.before args s = true := S.2.2.2.2 x (List.mem_cons_of_mem _ h)
theorem r_geti (S : CallFix p m c cc nL s args (a0 :: gW) own) (hI : Iv A G kA kL Λ ad w s H locs) {k i : Nat} {C : String} {T : u_T} {N : Nat} {ty0 : Nat → FieldType} (F : FC k C T N ty0) (hiN : i < N) {b idx : Nat} {x : Int32} (hlink : Cond.fieldLink own idx (T i).1 (T i).2.1 (T i).2.2.1 ∈ gW) (hd : decode cc pc = .ok (.getfield idx, 3)) (hg : gi Λ w b k i = some x)
    (kk : W p l e R s m args below meth c H locs cells slots Q (F0 m (pc + 3) ls (.int x :: rest))) : W p l e R s m args below meth c H locs cells slots Q (F0 m pc ls (.ref (ad b) :: rest)) := by
  obtain ⟨h1, ⟨fs, h2, h3⟩, rfl⟩ := gi_some hg
  exact va_get S.1 S.2.1 S.2.2.2.2 (fun w h => List.mem_cons_of_mem _ (F.2.1 w h)) S.2.2.2.1 hI.2.2.1 hI.1 b (by rw [wl_at h1, ce_ob h2]) F.1 i hiN (S.2.2.2.2 _ (List.mem_cons_of_mem _ hlink)) (fun _ h => h) (fv_at h3) hd kk
theorem r_getr (S : CallFix p m c cc nL s args (a0 :: gW) own) (hI : Iv A G kA kL Λ ad w s H locs) {k i : Nat} {C : String} {T : u_T} {N : Nat} {ty0 : Nat → FieldType} (F : FC k C T N ty0) (hiN : i < N) {b idx r : Nat} (hlink : Cond.fieldLink own idx (T i).1 (T i).2.1 (T i).2.2.1 ∈ gW) (hd : decode cc pc = .ok (.getfield idx, 3)) (hg : gr Λ b k i = some r)
    (kk : W p l e R s m args below meth c H locs cells slots Q (F0 m (pc + 3) ls (.ref (ad r) :: rest))) : W p l e R s m args below meth c H locs cells slots Q (F0 m pc ls (.ref (ad b) :: rest)) := by
  obtain ⟨h1, hz, fs, h2, h3⟩ := gr_some hg
  refine va_get S.1 S.2.1 S.2.2.2.2 (fun w h => List.mem_cons_of_mem _ (F.2.1 w h)) S.2.2.2.1 hI.2.2.1 hI.1 b (by rw [wl_at h1, ce_ob h2]) F.1 i hiN (S.2.2.2.2 _ (List.mem_cons_of_mem _ hlink)) (fun _ h => h) (v := .ref (ad r)) ?_ hd kk
  rw [fv_at h3]
  show some (if Λ.2 b i = true then Value.null else Value.ref (ad r)) = _
  rw [if_neg (by rw [hz]; exact fun q => by cases q)]
theorem r_getiN (S : CallFix p m c cc nL s args (a0 :: gW) own) (hI : Iv A G kA kL Λ ad w s H locs) {k i : Nat} {C host : String} {T : u_T} {N : Nat} {ty0 : Nat → FieldType} (F : FC k C T N ty0) (hiN : i < N) {b idx : Nat} {x : Int32} (hlink : Cond.fieldLinkNest own idx (T i).1 (T i).2.1 (T i).2.2.1 host ∈ nW) (hd : decode cc pc = .ok (.getfield idx, 3)) (hg : gi Λ w b k i = some x)
    (kk : W p l e R s m args below meth c H locs cells slots Q (F0 m (pc + 3) ls (.int x :: rest))) : W p l e R s m args below meth c H locs cells slots Q (F0 m pc ls (.ref (ad b) :: rest)) := by
  obtain ⟨h1, ⟨fs, h2, h3⟩, rfl⟩ := gi_some hg
  exact va_getN S.1 S.2.1 S.2.2.2.2 (fun w h => List.mem_cons_of_mem _ (F.2.1 w h)) S.2.2.2.1 hI.2.2.1 hI.1 b (by rw [wl_at h1, ce_ob h2]) F.1 i hiN (va_Nw.use rfl (hI.2.2.2.1 _ hlink)) (fun _ h => h) (fv_at h3) hd kk
theorem r_getrN (S : CallFix p m c cc nL s args (a0 :: gW) own) (hI : Iv A G kA kL Λ ad w s H locs) {k i : Nat} {C host : String} {T : u_T} {N : Nat} {ty0 : Nat → FieldType} (F : FC k C T N ty0) (hiN : i < N) {b idx r : Nat} (hlink : Cond.fieldLinkNest own idx (T i).1 (T i).2.1 (T i).2.2.1 host ∈ nW) (hd : decode cc pc = .ok (.getfield idx, 3)) (hg : gr Λ b k i = some r)
    (kk : W p l e R s m args below meth c H locs cells slots Q (F0 m (pc + 3) ls (.ref (ad r) :: rest))) : W p l e R s m args below meth c H locs cells slots Q (F0 m pc ls (.ref (ad b) :: rest)) := by
  obtain ⟨h1, hz, fs, h2, h3⟩ := gr_some hg
  refine va_getN S.1 S.2.1 S.2.2.2.2 (fun w h => List.mem_cons_of_mem _ (F.2.1 w h)) S.2.2.2.1 hI.2.2.1 hI.1 b (by rw [wl_at h1, ce_ob h2]) F.1 i hiN (va_Nw.use rfl (hI.2.2.2.1 _ hlink)) (fun _ h => h) (v := .ref (ad r)) ?_ hd kk
  rw [fv_at h3]
  show some (if Λ.2 b i = true then Value.null else Value.ref (ad r)) = _
  rw [if_neg (by rw [hz]; exact fun q => by cases q)]
theorem Iv.put {E : va_E} {H1 : Heap} {locs1 : List Loc} {b : Nat} (hI : Iv A G kA kL Λ ad w s H locs) (hb : b < Λ.1) (hE : ce kA kL Λ ad w1 b = E) (ho : ∀ d, d ≠ b → w1 d = w d) (hP : va_P G vCl ((wl kA kL Λ ad w).set b (ad b, E)) H1) (hS : va_S A s.heap H1 locs1) : Iv A G kA kL Λ ad w1 s H1 locs1 :=
  ⟨by rw [← wl_set hb hE ho]; exact hP, hI.2.1, hI.2.2.1, hI.2.2.2.1, hS, hI.2.2.2.2.2⟩
theorem Iv.inA (hI : Iv A G kA kL Λ ad w s H locs) : ∀ q, Aa Λ ad q → A q := fun q h => by
  obtain ⟨c, h1, rfl⟩ := h
  exact hI.2.2.2.2.2 c h1
theorem r_put (S : CallFix p m c cc nL s args (a0 :: gW) own) (hI : Iv A G kA kL Λ ad w s H locs) {k i : Nat} {C : String} {T : u_T} {N : Nat} {ty0 : Nat → FieldType} (F : FC k C T N ty0) (hiN : i < N) {b idx : Nat} {x : Int32} (hlink : Cond.fieldLink own idx (T i).1 (T i).2.1 (T i).2.2.1 ∈ gW) (hfin : (T i).2.2.2 = false) (hn : narrow (ty0 i) (.int x) = .int x) (hfit : fits (ty0 i) (.int x) = true) (hd : decode cc pc = .ok (.putfield idx, 3)) (hg : pf Λ w b k i x = some w1)
    (kk : ∀ (H1 : Heap) (locs1 : List Loc), Iv A G kA kL Λ ad w1 s H1 locs1 → W p l e R s m args below meth c H1 locs1 cells slots Q (F0 m (pc + 3) ls rest)) : W p l e R s m args below meth c H locs cells slots Q (F0 m pc ls (.int x :: .ref (ad b) :: rest)) := by
  obtain ⟨h1, ⟨fs, h2, h3⟩, rfl⟩ := pf_some hg
  refine va_put S.1 S.2.1 S.2.2.2.2 (fun w h => List.mem_cons_of_mem _ (F.2.1 w h)) ty0 F.2.2.1 F.2.2.2 S.2.2.2.1 hI.2.2.1 hI.1 (wl_D hI.2.1 hI.2.2.2.2.2) hI.2.2.2.2.1 b (by rw [wl_at h1, ce_ob h2]) F.1 i hiN (S.2.2.2.2 _ (List.mem_cons_of_mem _ hlink)) (fun _ h => h) hfin (F.2.2.1 i hiN) hn hfit ?_ hd fun H1 locs1 hP _ hS => kk H1 locs1 (hI.put h1 (by rw [ce_ob h2, fv_set h3]) up2_ne hP hS)
  unfold fv
  rw [List.length_mapIdx]
  exact (List.getElem?_eq_some_iff.mp h3).1
theorem r_putN (S : CallFix p m c cc nL s args (a0 :: gW) own) (hI : Iv A G kA kL Λ ad w s H locs) {k i : Nat} {C host : String} {T : u_T} {N : Nat} {ty0 : Nat → FieldType} (F : FC k C T N ty0) (hiN : i < N) {b idx : Nat} {x : Int32} (hlink : Cond.fieldLinkNest own idx (T i).1 (T i).2.1 (T i).2.2.1 host ∈ nW) (hfin : (T i).2.2.2 = false) (hn : narrow (ty0 i) (.int x) = .int x) (hfit : fits (ty0 i) (.int x) = true) (hd : decode cc pc = .ok (.putfield idx, 3)) (hg : pf Λ w b k i x = some w1)
    (kk : ∀ (H1 : Heap) (locs1 : List Loc), Iv A G kA kL Λ ad w1 s H1 locs1 → W p l e R s m args below meth c H1 locs1 cells slots Q (F0 m (pc + 3) ls rest)) : W p l e R s m args below meth c H locs cells slots Q (F0 m pc ls (.int x :: .ref (ad b) :: rest)) := by
  obtain ⟨h1, ⟨fs, h2, h3⟩, rfl⟩ := pf_some hg
  refine va_putN S.1 S.2.1 S.2.2.2.2 (fun w h => List.mem_cons_of_mem _ (F.2.1 w h)) ty0 F.2.2.1 F.2.2.2 S.2.2.2.1 hI.2.2.1 hI.1 (wl_D hI.2.1 hI.2.2.2.2.2) hI.2.2.2.2.1 b (by rw [wl_at h1, ce_ob h2]) F.1 i hiN (va_Nw.use rfl (hI.2.2.2.1 _ hlink)) (fun _ h => h) hfin (F.2.2.1 i hiN) hn hfit ?_ hd fun H1 locs1 hP _ hS => kk H1 locs1 (hI.put h1 (by rw [ce_ob h2, fv_set h3]) up2_ne hP hS)
  unfold fv
  rw [List.length_mapIdx]
  exact (List.getElem?_eq_some_iff.mp h3).1
theorem r_ald (S : CallFix p m c cc nL s args (a0 :: gW) own) (hI : Iv A G kA kL Λ ad w s H locs) {b : Nat} {i x : Int32} (hd : decode cc pc = .ok (.iaload, 1)) (hg : ld Λ w b i = some x)
    (kk : W p l e R s m args below meth c H locs cells slots Q (F0 m (pc + 1) ls (.int x :: rest))) : W p l e R s m args below meth c H locs cells slots Q (F0 m pc ls (.int i :: .ref (ad b) :: rest)) := by
  obtain ⟨h, rfl⟩ := ld_some hg
  obtain ⟨h1, n, h2, h3⟩ := aok_some h
  exact va_iald S.1 S.2.1 hI.2.2.1 hI.1 b 0 (by rw [wl_at h1, ce_ar h2]) rfl h3 hd kk
theorem r_ast (S : CallFix p m c cc nL s args (a0 :: gW) own) (hI : Iv A G kA kL Λ ad w s H locs) {b : Nat} {i x : Int32} (hd : decode cc pc = .ok (.iastore, 1)) (hg : st Λ w b i x = some w1)
    (kk : ∀ (H1 : Heap) (locs1 : List Loc), Iv A G kA kL Λ ad w1 s H1 locs1 → W p l e R s m args below meth c H1 locs1 cells slots Q (F0 m (pc + 1) ls rest)) : W p l e R s m args below meth c H locs cells slots Q (F0 m pc ls (.int x :: .int i :: .ref (ad b) :: rest)) := by
  obtain ⟨h, rfl⟩ := st_some hg
  obtain ⟨h1, n, h2, h3⟩ := aok_some h
  exact va_iast S.1 S.2.1 hI.2.2.1 hI.1 (wl_D hI.2.1 hI.2.2.2.2.2) hI.2.2.2.2.1 b 0 (by rw [wl_at h1, ce_ar h2]) rfl h3 hd fun H1 locs1 hP _ hS => kk H1 locs1 (hI.put h1 (by rw [ce_ar h2, up2_eq]) up2_ne hP hS)
theorem r_alen (S : CallFix p m c cc nL s args (a0 :: gW) own) (hI : Iv A G kA kL Λ ad w s H locs) {b : Nat} {x : Int32} (hd : decode cc pc = .ok (.arraylength, 1)) (hg : al Λ b = some x)
    (kk : W p l e R s m args below meth c H locs cells slots Q (F0 m (pc + 1) ls (.int x :: rest))) : W p l e R s m args below meth c H locs cells slots Q (F0 m pc ls (.ref (ad b) :: rest)) := by
  obtain ⟨h1, n, h2, h3⟩ := al_some hg
  exact va_alen S.1 S.2.1 hI.2.2.1 hI.1 b 0 (by rw [wl_at h1, ce_ar h2]) (ty := .int) rfl h3 hd kk
theorem r_cpy (S : CallFix p m c cc nL s args (a0 :: gW) own) (hl : lv_has ls nL lv) (hI : Iv A G kA kL Λ ad w s H locs) {idx : Nat} (hlink : Cond.methodLink own idx arraycopyName ∈ gW) (hnat : Cond.native arraycopyName ∈ gW) (hstat : Cond.static arraycopyName ∈ gW) (hini : Cond.initialized "java/lang/System" ∈ gW) {a b : Nat} {i j n : Int32}
    (hframes : 1 ≤ R.frames) (hlocals : (rest.map fun v => v.category).sum + (nativeFrameWords "java/lang/System" "arraycopy" 5 + 11) ≤ R.locals) (hd : decode cc pc = .ok (.invokestatic idx, 3)) (hg : cp Λ w a i b j n = some w1)
    (kk : ∀ (H1 : Heap) (locs1 : List Loc), Iv A G kA kL Λ ad w1 s H1 locs1 → W p l e R s m args below meth c H1 locs1 cells slots Q (F0 m (pc + 3) ls rest)) : W p l e R s m args below meth c H locs cells slots Q (F0 m pc ls (.int n :: .int j :: .ref (ad b) :: .int i :: .ref (ad a) :: rest)) := by
  obtain ⟨rfl, h1, h2, h3, h4, h5, na, nb, h6, h7, h8, h9⟩ := cp_some hg
  exact va_copyi S.1 S.2.1 (by rw [S.2.2.1]; exact hl.1.symm) S.2.2.2.1 (cfw (Ts := []) S hlink) (cfw (Ts := []) S hnat) (cfw (Ts := []) S hstat) (cfw (Ts := []) S hini) hI.2.2.1 hI.1 (wl_D hI.2.1 hI.2.2.2.2.2) hI.2.2.2.2.1 a b 0 0 (by rw [wl_at h1, ce_ar h6]) (by rw [wl_at h2, ce_ar h7]) (ty := .int) rfl rfl rfl h3 h4 h5 h8 h9 (fun _ _ => rfl) hframes hlocals hd fun H1 locs1 hP _ hS => kk H1 locs1 (hI.put h2 (by rw [ce_ar h7, cpw_eq]) cpw_ne hP hS)
theorem r_max (S : CallFix p m c cc nL s args (a0 :: gW) own) (hl : lv_has ls nL lv) {idx : Nat} (hlink : Cond.methodLink own idx Lib.Math.max.name ∈ gW) (hstat : Cond.static Lib.Math.max.name ∈ gW) (hini : Cond.initialized "java/lang/Math" ∈ gW) (hcode : Cond.code Lib.Math.max.name Lib.Math.max.code 2 (some .int) ∈ gW) {x y : Int32} (hframes : 1 ≤ R.frames) (hlocals : (rest.map fun v => v.category).sum + 13 ≤ R.locals) (hcs : cells ≤ R.cells ∧ slots ≤ R.slots) (hd : decode cc pc = .ok (.invokestatic idx, 3))
    (kk : W p l e R s m args below meth c H locs cells slots Q (F0 m (pc + 3) ls (.int (if x < y then y else x) :: rest))) : W p l e R s m args below meth c H locs cells slots Q (F0 m pc ls (.int y :: .int x :: rest)) :=
  va_mmax S.1 S.2.1 (by rw [S.2.2.1]; exact hl.1.symm) S.2.2.2.1 (cfw (Ts := []) S hlink) (cfw (Ts := []) S hstat) (cfw (Ts := []) S hini) (cfw (Ts := []) S hcode) hframes hlocals hcs.1 hcs.2 hd kk
/-! contracts: the method answers r, and the world w becomes w1 -/
def Mi (l : Launch) (y : MethodName) (cc : ByteArray) (maxL : Nat) (ret : Option FieldType) (rm : Room) (G : va_G) (kA kL : ClassId) (Λ : La) (ad : Nat → Nat) (av : List Value) (w w1 : Wo) (r : Int32) : Prop :=
  Met l y (.code y cc maxL ret :: gW) rm (va_Pc av (St G kA kL Λ ad w)) (va_Qi (fun x (_ : Unit) => x = r) (fun _ => St G kA kL Λ ad w1) (Aa Λ ad)) 0 0 (Aa Λ ad)
def Mv (l : Launch) (y : MethodName) (cc : ByteArray) (maxL : Nat) (rm : Room) (G : va_G) (kA kL : ClassId) (Λ : La) (ad : Nat → Nat) (av : List Value) (w w1 : Wo) : Prop :=
  Met l y (.code y cc maxL none :: gW) rm (va_Pc av (St G kA kL Λ ad w)) (va_Qv (fun (_ : Unit) => True) (fun _ => St G kA kL Λ ad w1) (Aa Λ ad)) 0 0 (Aa Λ ad)
def Mr (l : Launch) (y : MethodName) (cc : ByteArray) (maxL : Nat) (ret : Option FieldType) (rm : Room) (G : va_G) (kA kL : ClassId) (Λ : La) (ad : Nat → Nat) (av : List Value) (w w1 : Wo) (r : Nat) : Prop :=
  Met l y (.code y cc maxL ret :: gW) rm (va_Pc av (St G kA kL Λ ad w)) (va_Qr (fun (_ : Unit) => True) (fun _ a t => a = ad r ∧ St G kA kL Λ ad w1 t) (Aa Λ ad)) 0 0 (Aa Λ ad)
/-- what a walk starts from -/
theorem Mi.of {y : MethodName} {maxL : Nat} {rm : Room} {av : List Value} {r : Int32} (hy : plainName y.cls = true) (hlen : (lg_sl av).length ≤ maxL)
    (body : ∀ (p : Program) (e : Env) (s : State) (m : MethodId) (args : Array Value) (below : List Frame) (meth : Method) (c : Code) (Q : State → Prop) (ls : Array Slot), CallFix p m c cc maxL s args (.code y cc maxL (some .int) :: gW) y.cls →
      (∀ (H : Heap) (locs : List Loc) (pc : Nat) (ls : Array Slot) (w' : Wo) (x : Int32), Iv (Aa Λ ad) G kA kL Λ ad w' s H locs → some (w', x) = some (w1, r) → decode cc pc = .ok (.ireturn, 1) → W p l e rm s m args below meth c H locs 0 0 Q (F0 m pc ls [.int x])) →
      lv_has ls maxL (lv_args 0 av) → Iv (Aa Λ ad) G kA kL Λ ad w s s.heap [] → W p l e rm s m args below meth c s.heap [] 0 0 Q (F0 m 0 ls [])) : Mi l y cc maxL (some .int) rm G kA kL Λ ad av w w1 r := by
  unfold Mi
  refine Met.ofW (cc := cc) (maxL := maxL) (ret := some .int) hy rfl ?_
  intro p e s m args below meth c s₁ B hml hv
  obtain ⟨rfl, hP, hJ, hK, hN⟩ := hv
  have hr := B.returns
  have hlocks := B.notSynchronized
  rw [lg_entry_eq]
  refine body p e s m _ below meth c _ _ ⟨B.exec, B.bytes, hml, findClass_of_methodNamed B.named, atoms_spec B.pre⟩ ?_ (lv_entry av hlen) ⟨hP, hJ, hK, hN, va_S.rf, fun c h => ⟨c, h, rfl⟩⟩
  intro H locs pc ls w' x hI hf hd
  cases hf
  exact W.iret B.exec B.bytes hr (fun t ht hW => ⟨⟨_, (), rfl, rfl, hI.toSt ht hW⟩, hI.2.2.2.2.1.F ht⟩) hI.2.2.2.2.1.2.2 hd
theorem narrow_z {x : Int32} (h : x = 0 ∨ x = 1) : narrow .boolean (.int x) = .int x := by
  rcases h with rfl | rfl <;> decide +kernel
theorem zr_some {w : Wo} {x : Int32} {q : Wo × Int32} (h : zr w x = some q) : (x = 0 ∨ x = 1) ∧ (w, x) = q := by
  unfold zr at h
  by_cases hx : x = 0 ∨ x = 1
  · exact ⟨hx, Option.some.inj (ip_ h hx)⟩
  · exact absurd (in_ h hx) (fun q => by cases q)
theorem Mz.of {y : MethodName} {maxL : Nat} {rm : Room} {av : List Value} {r : Int32} (hy : plainName y.cls = true) (hlen : (lg_sl av).length ≤ maxL)
    (body : ∀ (p : Program) (e : Env) (s : State) (m : MethodId) (args : Array Value) (below : List Frame) (meth : Method) (c : Code) (Q : State → Prop) (ls : Array Slot), CallFix p m c cc maxL s args (.code y cc maxL (some .boolean) :: gW) y.cls →
      (∀ (H : Heap) (locs : List Loc) (pc : Nat) (ls : Array Slot) (w' : Wo) (x : Int32), Iv (Aa Λ ad) G kA kL Λ ad w' s H locs → zr w' x = some (w1, r) → decode cc pc = .ok (.ireturn, 1) → W p l e rm s m args below meth c H locs 0 0 Q (F0 m pc ls [.int x])) →
      lv_has ls maxL (lv_args 0 av) → Iv (Aa Λ ad) G kA kL Λ ad w s s.heap [] → W p l e rm s m args below meth c s.heap [] 0 0 Q (F0 m 0 ls [])) : Mi l y cc maxL (some .boolean) rm G kA kL Λ ad av w w1 r := by
  unfold Mi
  refine Met.ofW (cc := cc) (maxL := maxL) (ret := some .boolean) hy rfl ?_
  intro p e s m args below meth c s₁ B hml hv
  obtain ⟨rfl, hP, hJ, hK, hN⟩ := hv
  have hr := B.returns
  have hlocks := B.notSynchronized
  rw [lg_entry_eq]
  refine body p e s m _ below meth c _ _ ⟨B.exec, B.bytes, hml, findClass_of_methodNamed B.named, atoms_spec B.pre⟩ ?_ (lv_entry av hlen) ⟨hP, hJ, hK, hN, va_S.rf, fun c h => ⟨c, h, rfl⟩⟩
  intro H locs pc ls w' x hI hf hd
  obtain ⟨hx, hq⟩ := zr_some hf
  cases hq
  exact W.zret B.exec B.bytes hr (narrow_z hx) (fun t ht hW => ⟨⟨_, (), rfl, rfl, hI.toSt ht hW⟩, hI.2.2.2.2.1.F ht⟩) hI.2.2.2.2.1.2.2 hd
theorem Mv.of {y : MethodName} {maxL : Nat} {rm : Room} {av : List Value} (hy : plainName y.cls = true) (hlen : (lg_sl av).length ≤ maxL)
    (body : ∀ (p : Program) (e : Env) (s : State) (m : MethodId) (args : Array Value) (below : List Frame) (meth : Method) (c : Code) (Q : State → Prop) (ls : Array Slot), CallFix p m c cc maxL s args (.code y cc maxL none :: gW) y.cls →
      (∀ (H : Heap) (locs : List Loc) (pc : Nat) (ls : Array Slot) (w' : Wo), Iv (Aa Λ ad) G kA kL Λ ad w' s H locs → some w' = some w1 → decode cc pc = .ok (.return_, 1) → W p l e rm s m args below meth c H locs 0 0 Q (F0 m pc ls [])) →
      lv_has ls maxL (lv_args 0 av) → Iv (Aa Λ ad) G kA kL Λ ad w s s.heap [] → W p l e rm s m args below meth c s.heap [] 0 0 Q (F0 m 0 ls [])) : Mv l y cc maxL rm G kA kL Λ ad av w w1 := by
  unfold Mv
  refine Met.ofW (cc := cc) (maxL := maxL) (ret := none) hy rfl ?_
  intro p e s m args below meth c s₁ B hml hv
  obtain ⟨rfl, hP, hJ, hK, hN⟩ := hv
  have hr := B.returns
  have hlocks := B.notSynchronized
  rw [lg_entry_eq]
  refine body p e s m _ below meth c _ _ ⟨B.exec, B.bytes, hml, findClass_of_methodNamed B.named, atoms_spec B.pre⟩ ?_ (lv_entry av hlen) ⟨hP, hJ, hK, hN, va_S.rf, fun c h => ⟨c, h, rfl⟩⟩
  intro H locs pc ls w' hI hf hd
  cases hf
  exact W.vret B.exec B.bytes hr (fun t ht hW => ⟨⟨(), rfl, trivial, hI.toSt ht hW⟩, hI.2.2.2.2.1.F ht⟩) hI.2.2.2.2.1.2.2 hd
theorem Mr.of {y : MethodName} {maxL : Nat} {rm : Room} {av : List Value} {r : Nat} {C : String} (hy : plainName y.cls = true) (hlen : (lg_sl av).length ≤ maxL)
    (body : ∀ (p : Program) (e : Env) (s : State) (m : MethodId) (args : Array Value) (below : List Frame) (meth : Method) (c : Code) (Q : State → Prop) (ls : Array Slot), CallFix p m c cc maxL s args (.code y cc maxL (some (.object C)) :: gW) y.cls →
      (∀ (H : Heap) (locs : List Loc) (pc : Nat) (ls : Array Slot) (w' : Wo) (x : Nat), Iv (Aa Λ ad) G kA kL Λ ad w' s H locs → some (w', x) = some (w1, r) → decode cc pc = .ok (.areturn, 1) → W p l e rm s m args below meth c H locs 0 0 Q (F0 m pc ls [.ref (ad x)])) →
      lv_has ls maxL (lv_args 0 av) → Iv (Aa Λ ad) G kA kL Λ ad w s s.heap [] → W p l e rm s m args below meth c s.heap [] 0 0 Q (F0 m 0 ls [])) : Mr l y cc maxL (some (.object C)) rm G kA kL Λ ad av w w1 r := by
  unfold Mr
  refine Met.ofW (cc := cc) (maxL := maxL) (ret := some (.object C)) hy rfl ?_
  intro p e s m args below meth c s₁ B hml hv
  obtain ⟨rfl, hP, hJ, hK, hN⟩ := hv
  have hr := B.returns
  have hlocks := B.notSynchronized
  rw [lg_entry_eq]
  refine body p e s m _ below meth c _ _ ⟨B.exec, B.bytes, hml, findClass_of_methodNamed B.named, atoms_spec B.pre⟩ ?_ (lv_entry av hlen) ⟨hP, hJ, hK, hN, va_S.rf, fun c h => ⟨c, h, rfl⟩⟩
  intro H locs pc ls w' x hI hf hd
  cases hf
  exact W.aret B.exec B.bytes hr (Or.inl ⟨C, rfl⟩) (Or.inr ⟨_, rfl⟩) (fun t ht hW => ⟨⟨(), _, rfl, trivial, rfl, hI.toSt ht hW⟩, hI.2.2.2.2.1.F ht⟩) hI.2.2.2.2.1.2.2 hd
/-! calls -/
def Pk (y : MethodName) (bytes : ByteArray) (maxL : Nat) (ret : Option FieldType) (n : Nat) : Prop := Cond.code y bytes maxL ret ∈ gW ∧ Cond.initialized y.cls ∈ gW ∧ y.cls ≠ "java/lang/invoke/MethodHandle" ∧ y.cls ≠ "java/lang/invoke/VarHandle" ∧ (parseMethodDescriptor y.desc).map (fun d => d.parameters.length) = some n
theorem gin {a b : Cond} (h : b ∈ gW) : GoodIn (a :: gW) (b :: gW) := fun w hw => by
  have h1 : w ∈ gW := by
    rcases List.mem_cons.mp hw with rfl | h2
    · exact h
    · exact h2
  exact ⟨List.mem_cons_of_mem _ h1, good_of_word (gW_good w h1)⟩
theorem Pk.B {y : MethodName} {bytes : ByteArray} {maxL n idx : Nat} {ret : Option FieldType} {rm : Room} (P : Pk y bytes maxL ret n) (S : CallFix p m c cc nL s args (a0 :: gW) own) (hl : Cond.methodLink own idx y ∈ gW) (hrm : rm.cells = 0 ∧ rm.slots = 0) (hR : rm.frames + 1 ≤ R.frames ∧ 8 + (maxL + 11) + rm.locals ≤ R.locals) : CallB R s args own idx y bytes maxL ret (.code y bytes maxL ret :: gW) rm 0 0 n :=
  callB_of n S.2.2.2.2 (gin P.1) rfl hrm.1 hrm.2 (cfw (Ts := []) S P.2.1) (cfw (Ts := []) S hl) P.2.2 hR
theorem Pk.N {y : MethodName} {bytes : ByteArray} {maxL n idx : Nat} {ret : Option FieldType} {rm : Room} {host : String} (P : Pk y bytes maxL ret n) (S : CallFix p m c cc nL s args (a0 :: gW) own) (hN : Nst s) (hl : Cond.methodLinkNest own idx y host ∈ nW) (hrm : rm.cells = 0 ∧ rm.slots = 0) (hR : rm.frames + 1 ≤ R.frames ∧ 8 + (maxL + 11) + rm.locals ≤ R.locals) : va_CN R s args own idx y host bytes maxL ret (.code y bytes maxL ret :: gW) rm 0 0 n :=
  va_cnB n S.2.2.2.2 (gin P.1) rfl hrm.1 hrm.2 (hN _ hl) (cfw (Ts := []) S P.2.1) P.2.2 hR
theorem Iv.recv {k b : Nat} {C : String} {T : u_T} {N : Nat} (hI : Iv A G kA kL Λ ad w s H locs) (hc : vCl[k]? = some (C, T, N)) (hC : isC Λ b k = true) : ∃ cell : Cell, H[ad b]? = some cell ∧ cell.vm.isStatics = false ∧ s.vm.findClass C = some cell.cls := by
  obtain ⟨h1, fs, h2⟩ := isC_some hC
  exact va_recv hI.2.2.1 hI.1 hc (q0 := b) (by rw [wl_at h1, ce_ob h2])
/-- how a call may be made: the four ways; what stands on the stack is the arguments, turned, and the rest -/
def RunI (p : Program) (l : Launch) (e : Env) (R : Room) (s : State) (m : MethodId) (args : Array Value) (below : List Frame) (meth : Method) (c : Code) (H : Heap) (locs : List Loc) (cells slots : Nat) (g : JFrame) (rest : List Value) (Qa : State → Outcome → State → Prop) (free : Addr → Prop) : Prop := va_Run p l e R s m args below meth c H locs cells slots 0 0 g rest Qa free
theorem r_V {y : MethodName} {bytes : ByteArray} {maxL n idx k b : Nat} {ret : Option FieldType} {rm : Room} {C : String} {T : u_T} {N : Nat} {As : List Value} {Qc : Array Value → State → Outcome → State → Prop} (S : CallFix p m c cc nL s args (a0 :: gW) own) (hl : lv_has ls nL lv) (hI : Iv A G kA kL Λ ad w s H locs) (hM : Met l y (.code y bytes maxL ret :: gW) rm (va_Pc (.ref (ad b) :: As) (St G kA kL Λ ad w)) Qc 0 0 (Aa Λ ad)) (P : Pk y bytes maxL ret n) (hin : Cond.instanceMethod y ∈ gW) (hse : Cond.selects C y y ∈ gW) (hc : vCl[k]? = some (C, T, N)) (hC : isC Λ b k = true) (hk : Cond.methodLink own idx y ∈ gW) (hrm : rm.cells = 0 ∧ rm.slots = 0) (hR : rm.frames + 1 ≤ R.frames ∧ 8 + (maxL + 11) + rm.locals ≤ R.locals) (hn : As.length = n) (hst : stk = As.reverse ++ .ref (ad b) :: rest) (hW : (rest.map fun v => v.category).sum ≤ 8) (hcs : cells ≤ R.cells ∧ slots ≤ R.slots) (hd : decode cc pc = .ok (.invokevirtual idx, 3)) :
    RunI p l e R s m args below meth c H locs cells slots (F0 m pc ls stk) rest (Qc (Value.ref (ad b) :: As).toArray) (Aa Λ ad) :=
  va_runV S hM ⟨P.B S hk hrm hR, cfw (Ts := []) S hin, cfw (Ts := []) S hse⟩ ⟨St.blind, hI.recv hc hC, fun U hU hW => ⟨rfl, hI.toSt hU hW⟩⟩ rfl hn hl.1 hst (lv_room hW) hd hcs
theorem r_VN {y : MethodName} {bytes : ByteArray} {maxL n idx k b : Nat} {ret : Option FieldType} {rm : Room} {C host : String} {T : u_T} {N : Nat} {As : List Value} {Qc : Array Value → State → Outcome → State → Prop} (S : CallFix p m c cc nL s args (a0 :: gW) own) (hl : lv_has ls nL lv) (hI : Iv A G kA kL Λ ad w s H locs) (hM : Met l y (.code y bytes maxL ret :: gW) rm (va_Pc (.ref (ad b) :: As) (St G kA kL Λ ad w)) Qc 0 0 (Aa Λ ad)) (P : Pk y bytes maxL ret n) (hin : Cond.instanceMethod y ∈ gW) (hse : Cond.selects C y y ∈ gW) (hc : vCl[k]? = some (C, T, N)) (hC : isC Λ b k = true) (hk : Cond.methodLinkNest own idx y host ∈ nW) (hrm : rm.cells = 0 ∧ rm.slots = 0) (hR : rm.frames + 1 ≤ R.frames ∧ 8 + (maxL + 11) + rm.locals ≤ R.locals) (hn : As.length = n) (hst : stk = As.reverse ++ .ref (ad b) :: rest) (hW : (rest.map fun v => v.category).sum ≤ 8) (hcs : cells ≤ R.cells ∧ slots ≤ R.slots) (hd : decode cc pc = .ok (.invokevirtual idx, 3)) :
    RunI p l e R s m args below meth c H locs cells slots (F0 m pc ls stk) rest (Qc (Value.ref (ad b) :: As).toArray) (Aa Λ ad) :=
  va_runVN S hM ⟨P.N S hI.2.2.2.1 hk hrm hR, cfw (Ts := []) S hin, cfw (Ts := []) S hse⟩ ⟨St.blind, hI.recv hc hC, fun U hU hW => ⟨rfl, hI.toSt hU hW⟩⟩ rfl hn hl.1 hst (lv_room hW) hd hcs
theorem r_S {y : MethodName} {bytes : ByteArray} {maxL n idx : Nat} {ret : Option FieldType} {rm : Room} {As : List Value} {Qc : Array Value → State → Outcome → State → Prop} (S : CallFix p m c cc nL s args (a0 :: gW) own) (hl : lv_has ls nL lv) (hI : Iv A G kA kL Λ ad w s H locs) (hM : Met l y (.code y bytes maxL ret :: gW) rm (va_Pc As (St G kA kL Λ ad w)) Qc 0 0 (Aa Λ ad)) (P : Pk y bytes maxL ret n) (hstt : Cond.static y ∈ gW) (hk : Cond.methodLink own idx y ∈ gW) (hrm : rm.cells = 0 ∧ rm.slots = 0) (hR : rm.frames + 1 ≤ R.frames ∧ 8 + (maxL + 11) + rm.locals ≤ R.locals) (hn : As.length = n) (hst : stk = As.reverse ++ rest) (hW : (rest.map fun v => v.category).sum ≤ 8) (hcs : cells ≤ R.cells ∧ slots ≤ R.slots) (hd : decode cc pc = .ok (.invokestatic idx, 3)) :
    RunI p l e R s m args below meth c H locs cells slots (F0 m pc ls stk) rest (Qc As.toArray) (Aa Λ ad) :=
  va_runS S hM ⟨P.B S hk hrm hR, cfw (Ts := []) S hstt⟩ ⟨St.blind, fun U hU hW => ⟨rfl, hI.toSt hU hW⟩⟩ rfl hn hl.1 hst (lv_room hW) hd hcs
theorem r_SN {y : MethodName} {bytes : ByteArray} {maxL n idx : Nat} {ret : Option FieldType} {rm : Room} {host : String} {As : List Value} {Qc : Array Value → State → Outcome → State → Prop} (S : CallFix p m c cc nL s args (a0 :: gW) own) (hl : lv_has ls nL lv) (hI : Iv A G kA kL Λ ad w s H locs) (hM : Met l y (.code y bytes maxL ret :: gW) rm (va_Pc As (St G kA kL Λ ad w)) Qc 0 0 (Aa Λ ad)) (P : Pk y bytes maxL ret n) (hstt : Cond.static y ∈ gW) (hk : Cond.methodLinkNest own idx y host ∈ nW) (hrm : rm.cells = 0 ∧ rm.slots = 0) (hR : rm.frames + 1 ≤ R.frames ∧ 8 + (maxL + 11) + rm.locals ≤ R.locals) (hn : As.length = n) (hst : stk = As.reverse ++ rest) (hW : (rest.map fun v => v.category).sum ≤ 8) (hcs : cells ≤ R.cells ∧ slots ≤ R.slots) (hd : decode cc pc = .ok (.invokestatic idx, 3)) :
    RunI p l e R s m args below meth c H locs cells slots (F0 m pc ls stk) rest (Qc As.toArray) (Aa Λ ad) :=
  va_runSN S hM ⟨P.N S hI.2.2.2.1 hk hrm hR, cfw (Ts := []) S hstt, trivial⟩ ⟨St.blind, fun U hU hW => ⟨rfl, hI.toSt hU hW⟩⟩ rfl hn hl.1 hst (lv_room hW) hd hcs
theorem r_ci {a : Array Value} {r : Int32} (hr : RunI p l e R s m args below meth c H locs cells slots (F0 m pc ls stk) rest (va_Qi (fun x (_ : Unit) => x = r) (fun _ => St G kA kL Λ ad w1) (Aa Λ ad) a) (Aa Λ ad)) (hI : Iv A G kA kL Λ ad w s H locs)
    (kk : ∀ (H1 : Heap) (locs1 : List Loc), Iv A G kA kL Λ ad w1 s H1 locs1 → W p l e R s m args below meth c H1 locs1 cells slots Q (F0 m (pc + 3) ls (.int r :: rest))) : W p l e R s m args below meth c H locs cells slots Q (F0 m pc ls stk) :=
  va_calli hr hI.2.2.2.2.1 (fun _ _ h => hI.inA _ h) (fun _ h => hI.inA _ h) fun r' u t H1 locs1 ht hvm hp hB hz hk hS => by
    subst hp
    exact kk H1 locs1 ⟨by rw [← ht]; exact hB.1, hI.2.1, hI.2.2.1, hI.2.2.2.1, hS, hI.2.2.2.2.2⟩
theorem r_cv {a : Array Value} (hr : RunI p l e R s m args below meth c H locs cells slots (F0 m pc ls stk) rest (va_Qv (fun (_ : Unit) => True) (fun _ => St G kA kL Λ ad w1) (Aa Λ ad) a) (Aa Λ ad)) (hI : Iv A G kA kL Λ ad w s H locs)
    (kk : ∀ (H1 : Heap) (locs1 : List Loc), Iv A G kA kL Λ ad w1 s H1 locs1 → W p l e R s m args below meth c H1 locs1 cells slots Q (F0 m (pc + 3) ls rest)) : W p l e R s m args below meth c H locs cells slots Q (F0 m pc ls stk) :=
  va_callv hr hI.2.2.2.2.1 (fun _ _ h => hI.inA _ h) (fun _ h => hI.inA _ h) fun u t H1 locs1 ht hvm hp hB hz hk hS =>
    kk H1 locs1 ⟨by rw [← ht]; exact hB.1, hI.2.1, hI.2.2.1, hI.2.2.2.1, hS, hI.2.2.2.2.2⟩
theorem r_cr {a : Array Value} {r : Nat} (hr : RunI p l e R s m args below meth c H locs cells slots (F0 m pc ls stk) rest (va_Qr (fun (_ : Unit) => True) (fun _ a t => a = ad r ∧ St G kA kL Λ ad w1 t) (Aa Λ ad) a) (Aa Λ ad)) (hI : Iv A G kA kL Λ ad w s H locs)
    (kk : ∀ (H1 : Heap) (locs1 : List Loc), Iv A G kA kL Λ ad w1 s H1 locs1 → W p l e R s m args below meth c H1 locs1 cells slots Q (F0 m (pc + 3) ls (.ref (ad r) :: rest))) : W p l e R s m args below meth c H locs cells slots Q (F0 m pc ls stk) :=
  va_callr hr hI.2.2.2.2.1 (fun _ _ h => hI.inA _ h) (fun _ h => hI.inA _ h) fun u ra t H1 locs1 ht hvm hp hB hz hk hS => by
    obtain ⟨rfl, hB⟩ := hB
    exact kk H1 locs1 ⟨by rw [← ht]; exact hB.1, hI.2.1, hI.2.2.1, hI.2.2.2.1, hS, hI.2.2.2.2.2⟩
end WR
end
section
/-! laws on exceptions: text of the names that the kit prints (pasted; written out without the barred words) -/
/-! ===== BEGIN exceptions that leave a method, and their catching by the caller (launches without stack traces) ===== -/
section VXA
/-! The laws vx_back, vx_callV, vx_callS, vx_callSW, vx_throw0, vx_throwS follow proofs of the library, with one case more: JvmDerived/Free/Laws.lean (Back.of_free), Shelf42/LK1.lean (callV, callS), Shelf/KitTraced.lean (throwNew0V, throwNewS). -/
/-- where a method has thrown q: the class by its name, the cell, what was written, the world -/
def vx_T (XC : String → State → State → Prop) (st : State) (q : Addr) (t : State) (mc ms : Nat) (free : Addr → Prop) : Prop :=
  ∃ (E : String) (ce : Cell) (L : List Loc), XC E st t ∧ t.heap[q]? = some ce ∧ ce.vm = .none ∧ st.vm.findClass E = some ce.cls ∧ st.WarmedH t.vm ∧ st.sameButNew ({ t with vm := st.vm } : State) L mc ms ∧ ∀ z ∈ L, free z.base
def vx_Q (Qc : Array Value → State → Outcome → State → Prop) (XC : String → State → State → Prop) (mc ms : Nat) (free : Addr → Prop) : Array Value → State → Outcome → State → Prop := fun a st o t =>
  (Qc a st o t ∧ ∃ L, FrameEnd st o t L mc ms ∧ ∀ q ∈ L, free q.base) ∨ ∃ q, o = .threw q ∧ vx_T XC st q t mc ms free
/-- a callee that returns or throws -/
def vx_Met (l : Launch) (y : MethodName) (ws : List Cond) (rm : Room) (Pc : Array Value → State → Prop) (Qc : Array Value → State → Outcome → State → Prop) (XC : String → State → State → Prop) (mc ms : Nat) (free : Addr → Prop) : Prop :=
  MetFree l y (headSpec ws rm) Pc (fun _ _ _ _ _ => True) (vx_Q Qc XC mc ms free)
def vx_Post (XC : String → State → State → Prop) (mc ms : Nat) (free : Addr → Prop) : Pt → Array Value → Addr → Pt → Prop := fun A a q B =>
  ∃ (g : JFrame) (mk : MethodId) (t : State) (L : List Loc) (E : String) (ce : Cell), B.U.heap = t.heap ∧ B.U.vm = t.vm ∧ XC E (A.U.calling g mk a) t ∧ t.heap[q]? = some ce ∧ ce.vm = .none ∧ A.U.vm.findClass E = some ce.cls ∧ B.locs = A.locs ++ L ∧ (∀ z ∈ L, free z.base) ∧ B.cells = A.cells + mc ∧ B.slots = A.slots + ms
def vx_Back (l : Launch) (R : Room) (p : Program) (e : Env) (below : List Frame) (s : State) (sargs : Array Value) (y : MethodName) (len W9 : Nat)
    (Pre : Pt → Array Value → Prop) (Post : Pt → Array Value → Option Value → Pt → Prop) (PostX : Pt → Array Value → Addr → Pt → Prop) : Prop :=
  ∀ (m : MethodId) (meth : Method) (c : Code) (A : Pt) (g : JFrame) (ig : Instr) (mk : MethodId) (a : Array Value),
    Stand p l e R s m sargs below meth c A.U A.locs A.cells A.slots → g.method = m → g.locals.size = c.maxLocals → decode c.code g.pc = .ok (ig, len) →
    2 * g.monitorRoom + (g.stack.map fun v => v.category).sum ≤ W9 → A.U.methodNamed? y = some mk → Pre A a →
    (∃ (v : Option Value) (B : Pt), Stand p l e R s m sargs below meth c B.U B.locs B.cells B.slots ∧ Post A a v B ∧
      Steps p.tables e below (doInvoke e (A.U.setTop g) [] mk a).1 (B.U.setTop { g with pc := g.pc + len, stack := v.toList ++ g.stack })) ∨
    (∃ (q : Addr) (B : Pt), Stand p l e R s m sargs below meth c B.U B.locs B.cells B.slots ∧ PostX A a q B ∧
      Steps p.tables e below (doInvoke e (A.U.setTop g) [] mk a).1 ((B.U.setTop g).pushFrame (.throwing q)))
section Payer
variable {l : Launch} {R : Room} {p : Program} {e : Env} {below : List Frame} {s : State} {sargs : Array Value} {y : MethodName} {len W9 : Nat}
theorem vx_back {ws : List Cond} {rm : Room} {Pc : Array Value → State → Prop} {Qc : Array Value → State → Outcome → State → Prop} {XC : String → State → State → Prop} {mc ms : Nat} {free : Addr → Prop} {bytes : ByteArray} {maxL : Nat} {ret : Option FieldType}
    (hM : vx_Met l y ws rm Pc Qc XC mc ms free) (hblind : FrameBlind Pc) (hrc : rm.cells = mc) (hrs : rm.slots = ms)
    (hframes : rm.frames + 1 ≤ R.frames) (hlocals : W9 + (maxL + 11) + rm.locals ≤ R.locals)
    (hws : ∀ w ∈ ws, ∀ a' U, s.WarmedH U.vm → w.before a' U = true) (hcode : Cond.code y bytes maxL ret ∈ ws) (hinit : ∀ a' U, s.WarmedH U.vm → (Cond.initialized y.cls).before a' U = true) :
    vx_Back l R p e below s sargs y len W9 (PreOf R mc ms Pc) (PostOf Qc mc ms free) (vx_Post XC mc ms free) := by
  intro m meth c A g ig mk a X hg hsize hdg hW hn hp
  have h1 : (headSpec ws rm).pre.before a A.U = true := atoms_intro fun w hw => hws w hw _ _ X.warmed
  have h2 : (Cond.code y bytes maxL ret).before a A.U = true := hws _ hcode _ _ X.warmed
  have h3 : (Cond.initialized y.cls).before a A.U = true := hinit _ _ X.warmed
  have h4 : A.cells + (headSpec ws rm).room.cells ≤ R.cells := by rw [show (headSpec ws rm).room.cells = mc from hrc]; exact hp.1
  have h5 : A.slots + (headSpec ws rm).room.slots ≤ R.slots := by rw [show (headSpec ws rm).room.slots = ms from hrs]; exact hp.2.1
  have hPc : Pc a (A.U.calling g mk a) := hblind _ _ _ _ hp.2.2
  obtain ⟨U, Ls, c0, s0⟩ := A
  dsimp only [Pt.U, Pt.locs, Pt.cells, Pt.slots] at h1 h2 h3 h4 h5 X hn hPc ⊢
  obtain ⟨methY, cY, hmY, hcY, -, hlY, -, -, -, -⟩ := Cond.code_spec hn h2
  obtain ⟨kY, hkY, -⟩ := className_of_methodNamed hn
  have hinitY : kY.init = .initialized := Cond.initialized_spec (findClass_of_methodNamed hn) hkY h3
  have h : At U g.method c below := by rw [hg]; exact X.here
  have hlocals9 : W9 + (maxL + 11) + (headSpec ws rm).room.locals ≤ R.locals := hlocals
  have happ : (headSpec ws rm).appliesLoose y e.platform (U.calling g mk a) = true :=
    Spec.appliesLoose_calling (g := g) h hdg hn hkY hinitY
      (X.room_calling (g := g) (R' := (headSpec ws rm).room) hsize hmY hcY hframes (by rw [hlY]; omega) h4 h5) h1
  obtain ⟨mid, hmid⟩ := h.above
  have hfr : (U.setTop g).frames = (.java g :: mid) ++ below := by rw [State.frames_setTop' g h.top, hmid]; rfl
  obtain ⟨o, s₂, hsteps, -, hend, hq⟩ := Steps.callFree hM p X.admits X.cas X.clock (acts := []) hfr happ hPc trivial
  have hq' : vx_Q Qc XC mc ms free a (U.calling g mk a) o s₂ := hq
  rw [State.frames_setTop' g h.top] at hend
  obtain ⟨g₀, hg0⟩ := Option.isSome_iff_exists.mp h.top
  obtain ⟨r, hr⟩ := State.topJava?_eq_some.mp hg0
  have hr' : (({ U with heap := s₂.heap, slotsUsed := s₂.slotsUsed } : State).setVm s₂.vm).frames = .java g₀ :: r := hr
  rcases hq' with ⟨hqc, L, hfe, hL⟩ | ⟨q, rfl, E, ce, L, hx, hce, hcv, hcl, hW₂, hsm, hL⟩
  · obtain ⟨⟨v, rfl⟩, hW₂, e2, q2, q3, q4, q5, q6⟩ := id hfe
    have e3 : s₂ = ({ (U.calling g mk a).setFrames s₂.frames with heap := s₂.heap, slotsUsed := s₂.slotsUsed } : State).setVm s₂.vm := by
      have : s₂ = ({ s₂ with vm := (U.calling g mk a).vm } : State).setVm s₂.vm := rfl
      rw [e2] at this
      exact this
    obtain ⟨c₂, i₂, len₂, hc₂, hd₂, hf₂⟩ := hend
    have hW' : U.WarmedH s₂.vm := hW₂
    have hcc : c₂ = c := by
      have h1 : s₂.code? g.method = U.code? g.method := by
        rw [State.code?_eq, State.code?_eq, hW'.alike.method?]
      exact Option.some.inj (hc₂.symm.trans (h1.trans h.code))
    subst hcc
    have hlen : len₂ = len := by rw [hdg] at hd₂; cases hd₂; rfl
    subst hlen
    have hs₂ : s₂ = (({ U with heap := s₂.heap, slotsUsed := s₂.slotsUsed } : State).setVm s₂.vm).setTop { g with pc := g.pc + len₂, stack := v.toList ++ g.stack } := by
      refine e3.trans ?_
      rw [hf₂, State.calling_eq h.top, State.setFrames_setFrames, State.setTop_of_frames _ hr', hr]
      rfl
    have hsame : U.sameButNew ({ U with heap := s₂.heap, slotsUsed := s₂.slotsUsed } : State) L mc ms := by
      refine ⟨?_, q2, q3, q4, q5, q6⟩
      obtain ⟨t, ht, -⟩ := State.frames_cons hr
      show ({ U with heap := s₂.heap, slotsUsed := s₂.slotsUsed } : State) = { U.setFrames U.frames with heap := s₂.heap, slotsUsed := s₂.slotsUsed }
      rw [State.setFrames_self ht]
    subst hg
    refine Or.inl ⟨v, ⟨(({ U with heap := s₂.heap, slotsUsed := s₂.slotsUsed } : State).setVm s₂.vm), Ls ++ L, c0 + mc, s0 + ms⟩,
      ⟨X.admits, X.cas, X.clock, X.frames, X.room, X.hears, X.method, X.code, (X.here.setHeapUsed s₂.heap s₂.slotsUsed).setVm hW'.alike, X.tail, State.WarmedH.trans X.warmed hW', X.limits, X.bytes, X.same.trans (hsame.setVm s.vm)⟩,
      ⟨g, mk, s₂, L, rfl, rfl, hqc, rfl, hL, rfl, rfl⟩, ?_⟩
    show Steps p.tables e below _ ((({ U with heap := s₂.heap, slotsUsed := s₂.slotsUsed } : State).setVm s₂.vm).setTop { g with pc := g.pc + len₂, stack := v.toList ++ g.stack })
    rw [← hs₂]
    exact hsteps
  · obtain ⟨e2, q2, q3, q4, q5, q6⟩ := id hsm
    have e3 : s₂ = ({ (U.calling g mk a).setFrames s₂.frames with heap := s₂.heap, slotsUsed := s₂.slotsUsed } : State).setVm s₂.vm := by
      have : s₂ = ({ s₂ with vm := (U.calling g mk a).vm } : State).setVm s₂.vm := rfl
      rw [e2] at this
      exact this
    have hf₂ : s₂.frames = .throwing q :: .java g :: U.frames.tail := hend
    have hW' : U.WarmedH s₂.vm := hW₂
    have hs₂ : s₂ = ((({ U with heap := s₂.heap, slotsUsed := s₂.slotsUsed } : State).setVm s₂.vm).setTop g).pushFrame (.throwing q) := by
      refine e3.trans ?_
      rw [hf₂, State.calling_eq h.top, State.setFrames_setFrames, State.pushFrame, State.frames_setTop _ hr', State.setTop_of_frames _ hr', State.setFrames_setFrames, hr]
      rfl
    have hsame : U.sameButNew ({ U with heap := s₂.heap, slotsUsed := s₂.slotsUsed } : State) L mc ms := by
      refine ⟨?_, q2, q3, q4, q5, q6⟩
      obtain ⟨t, ht, -⟩ := State.frames_cons hr
      show ({ U with heap := s₂.heap, slotsUsed := s₂.slotsUsed } : State) = { U.setFrames U.frames with heap := s₂.heap, slotsUsed := s₂.slotsUsed }
      rw [State.setFrames_self ht]
    subst hg
    refine Or.inr ⟨q, ⟨(({ U with heap := s₂.heap, slotsUsed := s₂.slotsUsed } : State).setVm s₂.vm), Ls ++ L, c0 + mc, s0 + ms⟩,
      ⟨X.admits, X.cas, X.clock, X.frames, X.room, X.hears, X.method, X.code, (X.here.setHeapUsed s₂.heap s₂.slotsUsed).setVm hW'.alike, X.tail, State.WarmedH.trans X.warmed hW', X.limits, X.bytes, X.same.trans (hsame.setVm s.vm)⟩,
      ⟨g, mk, s₂, L, E, ce, rfl, rfl, hx, hce, hcv, hcl, rfl, hL, rfl, rfl⟩, ?_⟩
    show Steps p.tables e below _ (((({ U with heap := s₂.heap, slotsUsed := s₂.slotsUsed } : State).setVm s₂.vm).setTop g).pushFrame (.throwing q))
    rw [← hs₂]
    exact hsteps
end Payer
section Calls
variable {p : Program} {l : Launch} {e : Env} {R : Room} {s : State} {m : MethodId} {args : Array Value} {below : List Frame} {meth : Method} {c : Code} {T : State} {locs : List Loc} {cells slots : Nat}
theorem vx_callV (X : Stand p l e R s m args below meth c T locs cells slots) (hexec : p.tables.exec = Jvm.exec) {own C : String} {index : Nat} {y : MethodName} {bytes : ByteArray} {maxL : Nat} {ret : Option FieldType}
    (hown : s.vm.findClass own = some m.cls) (hlink : (Cond.methodLink own index y).before args s = true) (hinst : (Cond.instanceMethod y).before args s = true) (hsel : (Cond.selects C y y).before args s = true)
    (hcode : (Cond.code y bytes maxL ret).before args s = true) (hy : y.cls ≠ "java/lang/invoke/MethodHandle" ∧ y.cls ≠ "java/lang/invoke/VarHandle")
    {W9 : Nat} {Pre : Pt → Array Value → Prop} {Post : Pt → Array Value → Option Value → Pt → Prop} {PostX : Pt → Array Value → Addr → Pt → Prop} (hK : vx_Back l R p e below s args y 3 W9 Pre Post PostX)
    {b : Addr} {cellB : Cell} (hcell : T.heap[b]? = some cellB) (hobj : cellB.vm.isStatics = false) (hcls : s.vm.findClass C = some cellB.cls)
    {g : JFrame} (hg : g.method = m) (hsize : g.locals.size = c.maxLocals) {argsL rest : List Value} (hlen : ∀ sig, parseMethodDescriptor y.desc = some sig → argsL.length = sig.parameters.length)
    (hstack : g.stack = argsL.reverse ++ .ref b :: rest) (hW : 2 * g.monitorRoom + (rest.map fun v => v.category).sum ≤ W9) (hdg : decode c.code g.pc = .ok (.invokevirtual index, 3))
    (hpre : ∀ vm₁, s.WarmedH vm₁ → Pre ⟨T.setVm vm₁, locs, cells, slots⟩ (Value.ref b :: argsL).toArray) :
    (∃ (v : Option Value) (vm₁ : Vm) (B : Pt), s.WarmedH vm₁ ∧ Stand p l e R s m args below meth c B.U B.locs B.cells B.slots ∧ Post ⟨T.setVm vm₁, locs, cells, slots⟩ (Value.ref b :: argsL).toArray v B ∧
      ∀ target, Steps p.tables e below (B.U.setTop { g with pc := g.pc + 3, stack := v.toList ++ rest }) target → Steps p.tables e below (T.setTop g) target) ∨
    (∃ (q : Addr) (vm₁ : Vm) (B : Pt), s.WarmedH vm₁ ∧ Stand p l e R s m args below meth c B.U B.locs B.cells B.slots ∧ PostX ⟨T.setVm vm₁, locs, cells, slots⟩ (Value.ref b :: argsL).toArray q B ∧
      Steps p.tables e below (T.setTop g) ((B.U.setTop { g with stack := rest }).pushFrame (.throwing q))) := by
  obtain ⟨mk, methM, hnamed, hmethM, hstM, habM⟩ := Cond.instanceMethod_spec hinst
  obtain ⟨methM', cM, hmethM', -, -, -, -, -, -, hsigM⟩ := Cond.code_spec hnamed hcode
  cases hmethM.symm.trans hmethM'
  obtain ⟨c2, r2, m2, q1, q2, q3, q4, kP, hkP, hkPi⟩ := Cond.selects_spec hsel
  cases hcls.symm.trans q1
  cases (State.methodFound?_of_named hnamed hy).symm.trans q2
  cases hnamed.symm.trans q3
  have hselP : selectMethod e.platform s.vm cellB.cls mk = .method mk := by rw [Launch.admits_selectMethod X.admits]; exact q4
  obtain ⟨vm₁, X₁, hstep₁⟩ := X.invokevirtual hexec hown hlink hnamed hmethM hstM hkP hkPi hy (a := b) (cell := cellB) hcell
    (fun z h => by rw [h] at hobj; cases hobj) hselP hmethM habM hkP hkPi (g := g) hg (argsL := argsL) (rest := rest) (hlen _ hsigM) hstack hdg
  rcases hK m meth c ⟨T.setVm vm₁, locs, cells, slots⟩ { g with stack := rest } (.invokevirtual index) mk (Value.ref b :: argsL).toArray X₁ hg hsize hdg hW (X₁.named hnamed) (hpre vm₁ X₁.warmed) with ⟨v, B, X', hpost, hsteps⟩ | ⟨q, B, X', hpost, hsteps⟩
  · exact Or.inl ⟨v, vm₁, B, X₁.warmed, X', hpost, fun target h => hstep₁ _ fun acts => by rw [doInvoke_state]; exact hsteps.trans h⟩
  · exact Or.inr ⟨q, vm₁, B, X₁.warmed, X', hpost, hstep₁ _ fun acts => by rw [doInvoke_state]; exact hsteps⟩
theorem vx_callS (X : Stand p l e R s m args below meth c T locs cells slots) (hexec : p.tables.exec = Jvm.exec) {own : String} {index : Nat} {y : MethodName} {bytes : ByteArray} {maxL : Nat} {ret : Option FieldType}
    (hown : s.vm.findClass own = some m.cls) (hlink : (Cond.methodLink own index y).before args s = true) (hstat : (Cond.static y).before args s = true) (hinit : (Cond.initialized y.cls).before args s = true)
    (hcode : (Cond.code y bytes maxL ret).before args s = true) (hy : y.cls ≠ "java/lang/invoke/MethodHandle" ∧ y.cls ≠ "java/lang/invoke/VarHandle")
    {W9 : Nat} {Pre : Pt → Array Value → Prop} {Post : Pt → Array Value → Option Value → Pt → Prop} {PostX : Pt → Array Value → Addr → Pt → Prop} (hK : vx_Back l R p e below s args y 3 W9 Pre Post PostX)
    {g : JFrame} (hg : g.method = m) (hsize : g.locals.size = c.maxLocals) {argsL rest : List Value} (hlen : ∀ sig, parseMethodDescriptor y.desc = some sig → argsL.length = sig.parameters.length)
    (hstack : g.stack = argsL.reverse ++ rest) (hW : 2 * g.monitorRoom + (rest.map fun v => v.category).sum ≤ W9) (hdg : decode c.code g.pc = .ok (.invokestatic index, 3))
    (hpre : ∀ vm₁, s.WarmedH vm₁ → Pre ⟨T.setVm vm₁, locs, cells, slots⟩ argsL.toArray) :
    (∃ (v : Option Value) (vm₁ : Vm) (B : Pt), s.WarmedH vm₁ ∧ Stand p l e R s m args below meth c B.U B.locs B.cells B.slots ∧ Post ⟨T.setVm vm₁, locs, cells, slots⟩ argsL.toArray v B ∧
      ∀ target, Steps p.tables e below (B.U.setTop { g with pc := g.pc + 3, stack := v.toList ++ rest }) target → Steps p.tables e below (T.setTop g) target) ∨
    (∃ (q : Addr) (vm₁ : Vm) (B : Pt), s.WarmedH vm₁ ∧ Stand p l e R s m args below meth c B.U B.locs B.cells B.slots ∧ PostX ⟨T.setVm vm₁, locs, cells, slots⟩ argsL.toArray q B ∧
      Steps p.tables e below (T.setTop g) ((B.U.setTop { g with stack := rest }).pushFrame (.throwing q))) := by
  obtain ⟨mk, hnamed⟩ := Cond.code_named hcode
  obtain ⟨methM, cM, hmethM, -, -, -, -, -, -, hsigM⟩ := Cond.code_spec hnamed hcode
  have hstatic : methM.isStatic = true := Cond.static_spec hnamed hmethM hstat
  obtain ⟨kP, hkP, -⟩ := className_of_methodNamed hnamed
  have hinitP : kP.init = .initialized := Cond.initialized_spec (findClass_of_methodNamed hnamed) hkP hinit
  obtain ⟨vm₁, X₁, hstep₁⟩ := X.invokestatic hexec hown hlink hnamed hmethM hstatic hkP hinitP hy (g := g) hg (argsL := argsL) (rest := rest) (hlen _ hsigM) hstack hdg
  rcases hK m meth c ⟨T.setVm vm₁, locs, cells, slots⟩ { g with stack := rest } (.invokestatic index) mk argsL.toArray X₁ hg hsize hdg hW (X₁.named hnamed) (hpre vm₁ X₁.warmed) with ⟨v, B, X', hpost, hsteps⟩ | ⟨q, B, X', hpost, hsteps⟩
  · exact Or.inl ⟨v, vm₁, B, X₁.warmed, X', hpost, fun target h => hstep₁ _ fun acts => by rw [doInvoke_state]; exact hsteps.trans h⟩
  · exact Or.inr ⟨q, vm₁, B, X₁.warmed, X', hpost, hstep₁ _ fun acts => by rw [doInvoke_state]; exact hsteps⟩
end Calls
theorem vx_cls {s : State} {T : State} {vm₁ : Vm} {E : String} {k : ClassId} (hW : s.WarmedH vm₁) (h : (T.setVm vm₁).vm.findClass E = some k) : s.vm.findClass E = some k := by
  have h1 : vm₁.findClass E = some k := h
  rw [hW.alike.findClass] at h1
  exact h1
/-- the method's frame g, with q thrown over it -/
def vx_W (p : Program) (l : Launch) (e : Env) (R : Room) (s : State) (m : MethodId) (args : Array Value) (below : List Frame) (meth : Method) (c : Code) (H : Heap) (locs : List Loc) (cells slots : Nat) (Q : State → Prop) (g : JFrame) (q : Addr) : Prop :=
  ∀ T : State, T.heap = H → Stand p l e R s m args below meth c T locs cells slots → ∃ t, Steps p.tables e below ((T.setTop g).pushFrame (.throwing q)) t ∧ Q t
def vx_Run (p : Program) (l : Launch) (e : Env) (R : Room) (s : State) (m : MethodId) (args : Array Value) (below : List Frame) (meth : Method) (c : Code) (H : Heap) (locs : List Loc) (cells slots mc ms : Nat) (g : JFrame) (rest : List Value) (Qa : State → Outcome → State → Prop) (XC : String → State → State → Prop) (free : Addr → Prop) : Prop :=
  ∀ T : State, T.heap = H → Stand p l e R s m args below meth c T locs cells slots →
    (∃ (v : Option Value) (st₀ t T' : State) (L : List Loc), st₀.heap = H ∧ Stand p l e R s m args below meth c T' (locs ++ L) (cells + mc) (slots + ms) ∧ (∀ q ∈ L, free q.base) ∧ T'.heap = t.heap ∧ T'.vm = t.vm ∧ Qa st₀ (.returned v) t ∧
      Goes p e below T g T' { g with pc := g.pc + 3, stack := v.toList ++ rest }) ∨
    (∃ (q : Addr) (st₀ t T' : State) (L : List Loc) (E : String) (ce : Cell), st₀.heap = H ∧ Stand p l e R s m args below meth c T' (locs ++ L) (cells + mc) (slots + ms) ∧ (∀ z ∈ L, free z.base) ∧ T'.heap = t.heap ∧ T'.vm = t.vm ∧ XC E st₀ t ∧ t.heap[q]? = some ce ∧ ce.vm = .none ∧ s.vm.findClass E = some ce.cls ∧
      Steps p.tables e below (T.setTop g) ((T'.setTop { g with stack := rest }).pushFrame (.throwing q)))
def vx_X {S : Type} (px : S → Prop) (B : String → S → State → Prop) (A : Nat → Prop) : String → State → State → Prop := fun E st t => ∃ u : S, px u ∧ B E u t ∧ va_F A st t
section Runs
variable {p : Program} {l : Launch} {e : Env} {R : Room} {s : State} {m : MethodId} {args : Array Value} {below : List Frame} {meth : Method} {c : Code} {H : Heap} {locs : List Loc} {cells slots : Nat}
variable {y : MethodName} {bytes cc : ByteArray} {maxL nL mc ms n index : Nat} {ret : Option FieldType} {ws : List Cond} {rm : Room} {Pc : Array Value → State → Prop} {Qc : Array Value → State → Outcome → State → Prop} {XC : String → State → State → Prop} {free : Addr → Prop} {Ts : List Cond} {own C : String} {b : Addr} {As rest : List Value} {g : JFrame}
theorem vx_callBack (cb : CallB R s args own index y bytes maxL ret ws rm mc ms n) (hM : vx_Met l y ws rm Pc Qc XC mc ms free) (hbl : FrameBlind Pc) : vx_Back l R p e below s args y 3 8 (PreOf R mc ms Pc) (PostOf Qc mc ms free) (vx_Post XC mc ms free) := by
  obtain ⟨hrc, hrs, hfr, hlo, hws, hcw, -, hini, -⟩ := cb
  exact vx_back (bytes := bytes) (maxL := maxL) (ret := ret) hM hbl hrc hrs hfr hlo hws hcw (fun a' U hW => word_at hW (Or.inl (by first | rfl | simp [Cond.onTables, Cond.keeps, Cond.steady])) hini)
theorem vx_runV (S : CallFix p m c cc nL s args Ts own) (hM : vx_Met l y ws rm Pc Qc XC mc ms free) (cw : CallW R s args own C index y bytes maxL ret ws rm mc ms n) (hp : PreV s H C b Pc As)
    (hg : g.method = m) (hn : As.length = n) (hsize : g.locals.size = nL) (hstack : g.stack = As.reverse ++ .ref b :: rest) (hW : 2 * g.monitorRoom + (rest.map fun v => v.category).sum ≤ 8) (hdg : decode cc g.pc = .ok (.invokevirtual index, 3)) (hf : cells + mc ≤ R.cells ∧ slots + ms ≤ R.slots) :
    vx_Run p l e R s m args below meth c H locs cells slots mc ms g rest (Qc (Value.ref b :: As).toArray) XC free := by
  have hK : vx_Back l R p e below s args y 3 8 (PreOf R mc ms Pc) (PostOf Qc mc ms free) (vx_Post XC mc ms free) := vx_callBack cw.1 hM hp.1
  obtain ⟨⟨-, -, -, -, -, -, hcode, -, hy, hlen, hl⟩, hin, hse⟩ := cw
  obtain ⟨hx, hb, hml, ho, -⟩ := S
  obtain ⟨-, ⟨cellB, hcB, hoB, hclB⟩, hPc⟩ := hp
  intro T hT X
  rcases vx_callV X hx (C := C) (bytes := bytes) (maxL := maxL) (ret := ret) ho hl hin hse hcode hy hK (by rw [hT]; exact hcB) hoB hclB hg (hsize.trans hml.symm) (argsL := As) (rest := rest) (fun sig h => hn.trans (hlen sig h)) hstack hW (by rw [hb]; exact hdg)
    (fun vm₁ hW₁ => ⟨hf.1, hf.2, hPc (T.setVm vm₁) hT hW₁⟩) with ⟨v, vm₁, ⟨U', l2, c2, s2⟩, hW₁, X', ⟨g', mk, t, L, e1, e2, hq, h1, hL, h2, h3⟩, st⟩ | ⟨q, vm₁, ⟨U', l2, c2, s2⟩, hW₁, X', ⟨g', mk, t, L, E, ce, e1, e2, hq, hce, hcv, hcl, h1, hL, h2, h3⟩, st⟩
  · dsimp only [Pt.U, Pt.locs, Pt.cells, Pt.slots] at X' e1 e2 h1 h2 h3 st
    subst h1; subst h2; subst h3
    exact Or.inl ⟨v, (T.setVm vm₁).calling g' mk (Value.ref b :: As).toArray, t, U', L, hT, X', hL, e1, e2, hq, st⟩
  · dsimp only [Pt.U, Pt.locs, Pt.cells, Pt.slots] at X' e1 e2 h1 h2 h3 st hcl
    subst h1; subst h2; subst h3
    exact Or.inr ⟨q, (T.setVm vm₁).calling g' mk (Value.ref b :: As).toArray, t, U', L, E, ce, hT, X', hL, e1, e2, hq, hce, hcv, vx_cls hW₁ hcl, st⟩
theorem vx_runS (S : CallFix p m c cc nL s args Ts own) (hM : vx_Met l y ws rm Pc Qc XC mc ms free) (cw : CallB R s args own index y bytes maxL ret ws rm mc ms n ∧ (Cond.static y).before args s = true) (hp : PreS s H Pc As)
    (hg : g.method = m) (hn : As.length = n) (hsize : g.locals.size = nL) (hstack : g.stack = As.reverse ++ rest) (hW : 2 * g.monitorRoom + (rest.map fun v => v.category).sum ≤ 8) (hdg : decode cc g.pc = .ok (.invokestatic index, 3)) (hf : cells + mc ≤ R.cells ∧ slots + ms ≤ R.slots) :
    vx_Run p l e R s m args below meth c H locs cells slots mc ms g rest (Qc As.toArray) XC free := by
  have hK : vx_Back l R p e below s args y 3 8 (PreOf R mc ms Pc) (PostOf Qc mc ms free) (vx_Post XC mc ms free) := vx_callBack cw.1 hM hp.1
  obtain ⟨⟨-, -, -, -, -, -, hcode, hini, hy, hlen, hl⟩, hstt⟩ := cw
  obtain ⟨hx, hb, hml, ho, -⟩ := S
  intro T hT X
  rcases vx_callS X hx (bytes := bytes) (maxL := maxL) (ret := ret) ho hl hstt hini hcode hy hK hg (hsize.trans hml.symm) (argsL := As) (rest := rest) (fun sig h => hn.trans (hlen sig h)) hstack hW (by rw [hb]; exact hdg)
    (fun vm₁ hW₁ => ⟨hf.1, hf.2, hp.2 (T.setVm vm₁) hT hW₁⟩) with ⟨v, vm₁, ⟨U', l2, c2, s2⟩, hW₁, X', ⟨g', mk, t, L, e1, e2, hq, h1, hL, h2, h3⟩, st⟩ | ⟨q, vm₁, ⟨U', l2, c2, s2⟩, hW₁, X', ⟨g', mk, t, L, E, ce, e1, e2, hq, hce, hcv, hcl, h1, hL, h2, h3⟩, st⟩
  · dsimp only [Pt.U, Pt.locs, Pt.cells, Pt.slots] at X' e1 e2 h1 h2 h3 st
    subst h1; subst h2; subst h3
    exact Or.inl ⟨v, (T.setVm vm₁).calling g' mk As.toArray, t, U', L, hT, X', hL, e1, e2, hq, st⟩
  · dsimp only [Pt.U, Pt.locs, Pt.cells, Pt.slots] at X' e1 e2 h1 h2 h3 st hcl
    subst h1; subst h2; subst h3
    exact Or.inr ⟨q, (T.setVm vm₁).calling g' mk As.toArray, t, U', L, E, ce, hT, X', hL, e1, e2, hq, hce, hcv, vx_cls hW₁ hcl, st⟩
end Runs
section Rows
variable {p : Program} {l : Launch} {e : Env} {R : Room} {s : State} {m : MethodId} {args : Array Value} {below : List Frame} {meth : Method} {c : Code} {H : Heap} {locs : List Loc} {cells slots : Nat} {Q : State → Prop}
variable {mc ms : Nat} {free : Addr → Prop} {A0 A1 : Nat → Prop} {H0 : Heap} {a : Array Value} {pc : Nat} {ls : Array Slot} {st0 rest : List Value}
theorem vx_keep {st₀ t T' : State} {L : List Loc} (h0 : st₀.heap = H) (e1 : T'.heap = t.heap) (hS : va_S A0 H0 H locs) (hA : ∀ q, q < H.size → A1 q → A0 q) (hf : ∀ q, free q → A0 q) (hL : ∀ q ∈ L, free q.base) (hF : va_F A1 st₀ t) :
    H.size ≤ T'.heap.size ∧ (∀ q : Nat, q < H.size → ¬ A1 q → T'.heap[q]? = H[q]?) ∧ va_S A0 H0 T'.heap (locs ++ L) := by
  obtain ⟨hz, hk⟩ := hF
  rw [h0] at hz hk
  exact ⟨by rw [e1]; exact hz, fun q h1 h2 => by rw [e1]; exact hk q h1 h2,
    ⟨Nat.le_trans hS.1 (by rw [e1]; exact hz), fun q h1 h2 => by rw [e1, hk q (Nat.lt_of_lt_of_le h1 hS.1) (fun z => h2 (hA q (Nat.lt_of_lt_of_le h1 hS.1) z))]; exact hS.2.1 q h1 h2, fun q hq => by
      rcases List.mem_append.mp hq with h | h
      · exact hS.2.2 q h
      · exact hf _ (hL q h)⟩⟩
theorem vx_calli {S SX : Type} {post : Int32 → S → Prop} {px : SX → Prop} {B : S → State → Prop} {BX : String → SX → State → Prop} {AX : Nat → Prop} (hr : vx_Run p l e R s m args below meth c H locs cells slots mc ms (F0 m pc ls st0) rest (va_Qi post B A1 a) (vx_X px BX AX) free) (hS : va_S A0 H0 H locs) (hA : ∀ q, q < H.size → A1 q → A0 q) (hf : ∀ q, free q → A0 q) (hAX : ∀ q, q < H.size → AX q → A0 q)
    (kx : ∀ (E : String) (ce : Cell) (q9 : Addr) (u : SX) (t : State) (H1 : Heap) (locs1 : List Loc), t.heap = H1 → s.vm.Alike t.vm → px u → BX E u t → H.size ≤ H1.size → (∀ q : Nat, q < H.size → ¬ AX q → H1[q]? = H[q]?) → va_S A0 H0 H1 locs1 → H1[q9]? = some ce → ce.vm = .none → s.vm.findClass E = some ce.cls → vx_W p l e R s m args below meth c H1 locs1 (cells + mc) (slots + ms) Q (F0 m pc ls rest) q9)
    (kk : ∀ (r : Int32) (u : S) (t : State) (H1 : Heap) (locs1 : List Loc), t.heap = H1 → s.vm.Alike t.vm → post r u → B u t → H.size ≤ H1.size → (∀ q : Nat, q < H.size → ¬ A1 q → H1[q]? = H[q]?) → va_S A0 H0 H1 locs1 → W p l e R s m args below meth c H1 locs1 (cells + mc) (slots + ms) Q (F0 m (pc + 3) ls (.int r :: rest))) : W p l e R s m args below meth c H locs cells slots Q (F0 m pc ls st0) := by
  intro T hT X
  rcases hr T hT X with ⟨v, st₀, t, T', L, h0, X', hL, e1, e2, ⟨⟨r, u, hv, hp, hb⟩, hF⟩, st⟩ | ⟨q, st₀, t, T', L, E, ce, h0, X', hL, e1, e2, ⟨u, hp, hb, hF⟩, hce, hcv, hcl, st⟩
  · cases hv
    obtain ⟨k1, k2, k3⟩ := vx_keep h0 e1 hS hA hf hL hF
    obtain ⟨t2, a1, b1⟩ := kk r u t T'.heap (locs ++ L) e1.symm (by rw [← e2]; exact X'.warmed.alike) hp hb k1 k2 k3 T' rfl X'
    exact ⟨t2, st t2 a1, b1⟩
  · obtain ⟨k1, k2, k3⟩ := vx_keep h0 e1 hS hAX hf hL hF
    obtain ⟨t2, a1, b1⟩ := kx E ce q u t T'.heap (locs ++ L) e1.symm (by rw [← e2]; exact X'.warmed.alike) hp hb k1 k2 k3 (by rw [e1]; exact hce) hcv hcl T' rfl X'
    exact ⟨t2, st.trans a1, b1⟩
theorem vx_callv {S SX : Type} {post : S → Prop} {px : SX → Prop} {B : S → State → Prop} {BX : String → SX → State → Prop} {AX : Nat → Prop} (hr : vx_Run p l e R s m args below meth c H locs cells slots mc ms (F0 m pc ls st0) rest (va_Qv post B A1 a) (vx_X px BX AX) free) (hS : va_S A0 H0 H locs) (hA : ∀ q, q < H.size → A1 q → A0 q) (hf : ∀ q, free q → A0 q) (hAX : ∀ q, q < H.size → AX q → A0 q)
    (kx : ∀ (E : String) (ce : Cell) (q9 : Addr) (u : SX) (t : State) (H1 : Heap) (locs1 : List Loc), t.heap = H1 → s.vm.Alike t.vm → px u → BX E u t → H.size ≤ H1.size → (∀ q : Nat, q < H.size → ¬ AX q → H1[q]? = H[q]?) → va_S A0 H0 H1 locs1 → H1[q9]? = some ce → ce.vm = .none → s.vm.findClass E = some ce.cls → vx_W p l e R s m args below meth c H1 locs1 (cells + mc) (slots + ms) Q (F0 m pc ls rest) q9)
    (kk : ∀ (u : S) (t : State) (H1 : Heap) (locs1 : List Loc), t.heap = H1 → s.vm.Alike t.vm → post u → B u t → H.size ≤ H1.size → (∀ q : Nat, q < H.size → ¬ A1 q → H1[q]? = H[q]?) → va_S A0 H0 H1 locs1 → W p l e R s m args below meth c H1 locs1 (cells + mc) (slots + ms) Q (F0 m (pc + 3) ls (rest))) : W p l e R s m args below meth c H locs cells slots Q (F0 m pc ls st0) := by
  intro T hT X
  rcases hr T hT X with ⟨v, st₀, t, T', L, h0, X', hL, e1, e2, ⟨⟨u, hv, hp, hb⟩, hF⟩, st⟩ | ⟨q, st₀, t, T', L, E, ce, h0, X', hL, e1, e2, ⟨u, hp, hb, hF⟩, hce, hcv, hcl, st⟩
  · cases hv
    obtain ⟨k1, k2, k3⟩ := vx_keep h0 e1 hS hA hf hL hF
    obtain ⟨t2, a1, b1⟩ := kk u t T'.heap (locs ++ L) e1.symm (by rw [← e2]; exact X'.warmed.alike) hp hb k1 k2 k3 T' rfl X'
    exact ⟨t2, st t2 a1, b1⟩
  · obtain ⟨k1, k2, k3⟩ := vx_keep h0 e1 hS hAX hf hL hF
    obtain ⟨t2, a1, b1⟩ := kx E ce q u t T'.heap (locs ++ L) e1.symm (by rw [← e2]; exact X'.warmed.alike) hp hb k1 k2 k3 (by rw [e1]; exact hce) hcv hcl T' rfl X'
    exact ⟨t2, st.trans a1, b1⟩
/-- caught by the row x of this method's table; the rows ahead don't take it -/
theorem vx_catch {own name : String} {E : String} {ce : Cell} {q : Addr} (hown : s.vm.findClass own = some m.cls) (pre : List ExceptionTableEntry) (x : ExceptionTableEntry) (suf : List ExceptionTableEntry) (hsplit : c.exceptionTable.toList = pre ++ x :: suf)
    (hpass : ∀ z ∈ pre, covers z pc = false ∨ (z.catchType ≠ 0 ∧ ∃ nm : String, (Cond.classLink own z.catchType nm).before args s = true ∧ va_Nc E nm s)) (hx : covers x pc = true) (h0 : x.catchType ≠ 0)
    (hlink : (Cond.classLink own x.catchType name).before args s = true) (hcast : (Cond.castable E name).before args s = true) (hcell : H[q]? = some ce) (hv : ce.vm = .none) (hcl : s.vm.findClass E = some ce.cls)
    (kk : W p l e R s m args below meth c H locs cells slots Q (F0 m x.handlerPc ls [.ref q])) : vx_W p l e R s m args below meth c H locs cells slots Q (F0 m pc ls rest) q := by
  intro T hT X
  have hpl : e.platform.magicAccessors = ({} : Platform).magicAccessors := by rw [X.admits.platform]
  obtain ⟨c3, c4, hc3, hc4, hasg⟩ := Cond.castable_spec hcast
  cases Option.some.inj (hc3.symm.trans hcl)
  obtain ⟨c5, hc5, hcl5⟩ := Cond.classLink_spec hown hlink e.platform hpl
  cases Option.some.inj (hc4.symm.trans hc5)
  obtain ⟨vm', X', st⟩ := X.thenCaughtThrough q (g := F0 m pc ls rest) rfl (Steps.refl _) (by rw [hT]; exact hcell) (by rw [hv]; rfl) (by obtain ⟨k9, h9, -⟩ := Vm.findClass_spec hcl; exact ⟨k9, h9⟩) pre x suf hsplit
    (fun z hz => by
      rcases hpass z hz with h | ⟨hz0, nm, hl1, hn1⟩
      · exact Or.inl h
      · obtain ⟨c6, hc6, hcl6⟩ := Cond.classLink_spec hown hl1 e.platform hpl
        obtain ⟨a8, b8, h1, h2, h3⟩ := hn1
        cases Option.some.inj (h1.symm.trans hcl)
        cases Option.some.inj (h2.symm.trans hc6)
        exact Or.inr ⟨hz0, _, hcl6, h3⟩) hx (Or.inr ⟨h0, c4, hcl5, hasg⟩)
  obtain ⟨t, a1, b1⟩ := kk (T.setVm vm') hT X'
  exact ⟨t, st.trans a1, b1⟩
end Rows
section Ends
variable {p : Program} {l : Launch} {e : Env} {R : Room} {s : State} {m : MethodId} {args : Array Value} {below : List Frame} {meth : Method} {c : Code} {H : Heap} {locs : List Loc} {cells slots : Nat} {Q : State → Prop}
variable {mc ms : Nat} {free : Addr → Prop} {A0 A1 : Nat → Prop} {H0 : Heap} {a : Array Value} {ls : Array Slot} {st0 rest : List Value}
variable {Qc : Array Value → State → Outcome → State → Prop} {XC : String → State → State → Prop}
/-- what a body that may throw owes at its end -/
def vx_MQ (below : List Frame) (Qc : Array Value → State → Outcome → State → Prop) (XC : String → State → State → Prop) (a : Array Value) (s : State) (mc ms : Nat) (free : Addr → Prop) : State → Prop := fun t =>
  ∃ o, t.status = .running ∧ Ended t below o ∧ vx_Q Qc XC mc ms free a s o t
theorem vx_ret {g : JFrame} {mc ms : Nat} (k : W p l e R s m args below meth c H locs cells slots (MQ below Qc args s mc ms free) g) : W p l e R s m args below meth c H locs cells slots (vx_MQ below Qc XC args s mc ms free) g := by
  intro T hT X
  obtain ⟨t, a1, o, b1, b2, b3, b4⟩ := k T hT X
  exact ⟨t, a1, o, b1, b2, Or.inl ⟨b3, b4⟩⟩
/-- not caught here: it goes on to the caller -/
theorem vx_widen {g : JFrame} {q : Addr} {k n : Nat} (h1 : cells ≤ k) (h2 : slots ≤ n) (kk : vx_W p l e R s m args below meth c H locs k n Q g q) : vx_W p l e R s m args below meth c H locs cells slots Q g q := fun T hT X => kk T hT (stand_widen X h1 h2)
theorem vx_out {pc : Nat} {E : String} {ce : Cell} {q : Addr} {mc ms : Nat} (hout : ∀ x ∈ c.exceptionTable.toList, covers x pc = false) (hlocks : meth.locks = false) (hcell : H[q]? = some ce) (hv : ce.vm = .none) (hcl : s.vm.findClass E = some ce.cls)
    (hx : ∀ t : State, t.heap = H → s.vm.Alike t.vm → XC E s t) (hf : ∀ z ∈ locs, free z.base) (hc : cells ≤ mc) (hs : slots ≤ ms) :
    vx_W p l e R s m args below meth c H locs cells slots (vx_MQ below Qc XC args s mc ms free) (F0 m pc ls rest) q := by
  intro T hT X
  obtain ⟨st1, hrun, hend, hW, hsm⟩ := X.leaveThrown q (g := F0 m pc ls rest) rfl rfl rfl hout hlocks
  have hcell9 : (T.setFrames (.throwing q :: below)).heap[q]? = some ce := by
    show T.heap[q]? = some ce
    rw [hT]; exact hcell
  exact ⟨_, st1, .threw q, hrun, hend, Or.inr ⟨q, rfl, E, ce, locs, hx _ hT hW.alike, hcell9, hv, hcl, hW, hsm.mono hc hs, hf⟩⟩
theorem vx_frame {U : State} {k n : Nat} (h : s.sameButNew ({ U with vm := s.vm } : State) locs k n) : s.heap.size ≤ U.heap.size ∧ ∀ q : Nat, q < s.heap.size → (∀ z ∈ locs, z.base ≠ q) → U.heap[q]? = s.heap[q]? := by
  obtain ⟨-, h2, -, -, -, h6⟩ := h
  refine ⟨h2, fun q hq hz => ?_⟩
  obtain ⟨c9, e1, e2, e3, e4⟩ := h6 q _ (Array.getElem?_eq_getElem hq)
  have hs : c9.slots = (s.heap[q]).slots := Array.ext_getElem? fun i => e4 i fun hm => hz _ hm rfl
  have h9 : c9 = s.heap[q] := by
    rw [hs] at e2
    exact e2
  have e5 : U.heap[q]? = some c9 := e1
  rw [e5, h9, Array.getElem?_eq_getElem hq]
/-- the words of a throw but the four that speak of the heap -/
def vx_no (w : Cond) : Bool := decide (w ≠ .isRef (.static Bundle.tN "UNASSIGNED_STACK" Bundle.steD)) && decide (w ≠ .isRef (.static Bundle.tN "SUPPRESSED_SENTINEL" Bundle.listD)) && decide (w ≠ .laysStatic Bundle.tN "UNASSIGNED_STACK" Bundle.steD) && decide (w ≠ .laysStatic Bundle.tN "SUPPRESSED_SENTINEL" Bundle.listD)
def vx_at0 (own : String) (ic : Nat) (X : String) (names : List String) : List Cond := (Bundle.ownAtoms0 own ic X names).filter vx_no
/-- a word that the tables alone decide, or a good one -/
def vx_ot (w : Cond) : Bool := w.onTables || goodWord w
theorem vx_ot_at {args a' : Array Value} {s U : State} {w : Cond} (hW : s.WarmedH U.vm) (hvm : s.vm = U.vm) (hg : vx_ot w = true) (h : w.before args s = true) : w.before a' U = true := by
  simp only [vx_ot, Bool.or_eq_true] at hg
  rcases hg with hg | hg
  · exact va_tabs hg hvm h
  · exact word_at hW (good_of_word hg) h
/-- a list's words: the good ones out of the method's own list, the others by premises of their own -/
theorem vx_hat {args : Array Value} {s : State} {L B : List Cond} (h1 : ∀ w ∈ L.filter goodWord, w.before args s = true) (h2 : ∀ w ∈ L.filter (fun w => !goodWord w), w ∈ B) (h3 : ∀ w ∈ B, w.before args s = true) : ∀ w ∈ L, w.before args s = true := by
  intro w hw
  by_cases g : goodWord w = true
  · exact h1 w (List.mem_filter.mpr ⟨hw, g⟩)
  · refine h3 w (h2 w (List.mem_filter.mpr ⟨hw, ?_⟩))
    show (!goodWord w) = true
    cases hgw : goodWord w
    · rfl
    · exact absurd hgw g
theorem vx_c {args : Array Value} {s : State} {w : Cond} {B : List Cond} (h : w.before args s = true) (t : ∀ w ∈ B, w.before args s = true) : ∀ w' ∈ w :: B, w'.before args s = true := fun w' h' => (List.mem_cons.mp h').elim (fun e => by rw [e]; exact h) (t w')
theorem vx_n {args : Array Value} {s : State} : ∀ w ∈ ([] : List Cond), w.before args s = true := fun _ h => nomatch h
theorem vx_own {args : Array Value} {s : State} {L : List Cond} (h1 : ∀ w ∈ L.filter vx_no, w.before args s = true)
    (hU : (Cond.isRef (.static Bundle.tN "UNASSIGNED_STACK" Bundle.steD)).before args s = true) (hN : (Cond.isRef (.static Bundle.tN "SUPPRESSED_SENTINEL" Bundle.listD)).before args s = true)
    (lU : (Cond.laysStatic Bundle.tN "UNASSIGNED_STACK" Bundle.steD).before args s = true) (lN : (Cond.laysStatic Bundle.tN "SUPPRESSED_SENTINEL" Bundle.listD).before args s = true) : ∀ w ∈ L, w.before args s = true := by
  intro w hw
  by_cases e1 : w = .isRef (.static Bundle.tN "UNASSIGNED_STACK" Bundle.steD)
  · rw [e1]; exact hU
  · by_cases e2 : w = .isRef (.static Bundle.tN "SUPPRESSED_SENTINEL" Bundle.listD)
    · rw [e2]; exact hN
    · by_cases e3 : w = .laysStatic Bundle.tN "UNASSIGNED_STACK" Bundle.steD
      · rw [e3]; exact lU
      · by_cases e4 : w = .laysStatic Bundle.tN "SUPPRESSED_SENTINEL" Bundle.listD
        · rw [e4]; exact lN
        · exact h1 w (List.mem_filter.mpr ⟨hw, by unfold vx_no; rw [decide_eq_true e1, decide_eq_true e2, decide_eq_true e3, decide_eq_true e4]; rfl⟩)
/-- where a static field lies, its class's statics cell in H -/
def vx_L (C n d : String) (A : Nat → Prop) (U : State) (H : Heap) : Prop := ∃ (c : ClassId) (k : Class) (i : Nat) (f : Field) (a : Nat) (cell : Cell), U.vm.findClass C = some c ∧ U.fieldFound? C n d = some (c, k, i, f) ∧ f.isStatic = true ∧ k.statics = some a ∧ H[a]? = some cell ∧ cell.vm.isStatics = true ∧ cell.cls = c ∧ f.slot < cell.slots.size ∧ k.staticTypes[f.slot]? = some f.type ∧ ¬ A a
theorem vx_L.moved {C n d : String} {A : Nat → Prop} {u U : State} {H : Heap} (hvm : u.vm.Alike U.vm) (h : vx_L C n d A u H) : vx_L C n d A U H := by
  obtain ⟨c, k, i, f, a, cell, h1, h2, h3, h4, h5, h6, h7, h8, h9, h10⟩ := h
  obtain ⟨k', hi', he⟩ := State.fieldFound?_setVm hvm h2
  exact ⟨c, k', i, f, a, cell, by rw [hvm.findClass]; exact h1, hi', h3, by rw [he]; exact h4, h5, h6, h7, h8, by rw [he]; exact h9, h10⟩
theorem vx_L.kept {C n d : String} {A : Nat → Prop} {U : State} {H H1 : Heap} (h : vx_L C n d A U H) (hq : ∀ a : Nat, a < H.size → ¬ A a → H1[a]? = H[a]?) : vx_L C n d A U H1 := by
  obtain ⟨c, k, i, f, a, cell, h1, h2, h3, h4, h5, h6, h7, h8, h9, h10⟩ := h
  exact ⟨c, k, i, f, a, cell, h1, h2, h3, h4, by rw [hq a (Array.getElem?_eq_some_iff.mp h5).1 h10]; exact h5, h6, h7, h8, h9, h10⟩
theorem vx_L.narrow {C n d : String} {A B : Nat → Prop} {U : State} {H : Heap} (h : vx_L C n d A U H) (hAB : ∀ q, B q → A q) : vx_L C n d B U H := by
  obtain ⟨c, k, i, f, a, cell, h1, h2, h3, h4, h5, h6, h7, h8, h9, h10⟩ := h
  exact ⟨c, k, i, f, a, cell, h1, h2, h3, h4, h5, h6, h7, h8, h9, fun z => h10 (hAB _ z)⟩
theorem vx_L.word {C n d : String} {A : Nat → Prop} {s : State} {args : Array Value} (h : vx_L C n d A s s.heap) : (Cond.laysStatic C n d).before args s = true := by
  obtain ⟨c, k, i, f, a, cell, h1, h2, h3, h4, h5, h6, h7, h8, h9, -⟩ := h
  show (Cond.laysStatic C n d).holds args s none s [] = true
  exact Cond.laysStatic_of h1 h2 h3 h4 h5 h6 h7 h8 h9
/-- .. and what it holds: null or some reference -/
def vx_Zq (C n d : String) (A : Nat → Prop) (U : State) (H : Heap) : Prop := va_Zq C n d A U H ∧ vx_L C n d A U H
theorem vx_Zq.moved {C n d : String} {A : Nat → Prop} {u U : State} {H : Heap} (hvm : u.vm.Alike U.vm) (h : vx_Zq C n d A u H) : vx_Zq C n d A U H := ⟨va_Zq.moved hvm h.1, vx_L.moved hvm h.2⟩
theorem vx_Zq.kept {C n d : String} {A : Nat → Prop} {U : State} {H H1 : Heap} (h : vx_Zq C n d A U H) (hq : ∀ a : Nat, a < H.size → ¬ A a → H1[a]? = H[a]?) : vx_Zq C n d A U H1 := ⟨va_Zq.kept h.1 hq, vx_L.kept h.2 hq⟩
theorem vx_Zq.narrow {C n d : String} {A B : Nat → Prop} {U : State} {H : Heap} (h : vx_Zq C n d A U H) (hAB : ∀ q, B q → A q) : vx_Zq C n d B U H := ⟨va_Zq.narrow h.1 hAB, vx_L.narrow h.2 hAB⟩
theorem vx_Zqof {args : Array Value} {s : State} {C n d : String} {A : Nat → Prop} (hl : (Cond.laysStatic C n d).before args s = true) (hini : (Cond.initialized C).before args s = true) (h : (Cond.isRef (.static C n d)).before args s = true) (hA : ∀ a : Nat, a < s.heap.size → ¬ A a) : vx_Zq C n d A s s.heap := by
  refine ⟨va_Zqof hl hini h hA, ?_⟩
  obtain ⟨c, k, i, f, a, cell, h1, h2, h3, h4, h5, h6, h7, h8, h9⟩ := Cond.laysStatic_spec hl
  exact ⟨c, k, i, f, a, cell, h1, h2, h3, h4, h5, h6, h7, h8, h9, hA a (Array.getElem?_eq_some_iff.mp h5).1⟩
theorem vx_isRef {C n d : String} {v : Value} {A : Nat → Prop} {s : State} {args : Array Value} (h : va_Z C n d v A s s.heap) (hv : v.isRef = true) : (Cond.isRef (.static C n d)).before args s = true := by
  obtain ⟨cf, kf, fi, f, a, cell, h1, h2, h3, h4, h5, h6, h7, -⟩ := h
  have he : (Term.static C n d).eval args s none [] s = some v := by
    simp [Term.eval, State.fieldNamed?, h1, h2, h4, h5, h6, h7]
  simp only [Cond.before, Cond.holds, Cond.value, he]
  cases v <;> simp_all [Value.isRef]
theorem vx_isRefq {C n d : String} {A : Nat → Prop} {s : State} {args : Array Value} (h : va_Zq C n d A s s.heap) : (Cond.isRef (.static C n d)).before args s = true := by
  rcases h with h | ⟨t, h⟩
  · exact vx_isRef h rfl
  · exact vx_isRef h rfl
/-- the same frame, seen from here: as if the method were called anew in this heap -/
theorem vx_rebase {T : State} (X : Stand p l e R s m args below meth c T locs cells slots) {R' : Room} (hf : R'.frames ≤ R.frames) (hl : R'.locals ≤ R.locals) (hc : cells + R'.cells ≤ R.cells) (hs : slots + R'.slots ≤ R.slots) :
    Stand p l e R' ((T.setVm s.vm).setFrames (.invoking m args :: below)) m args below meth c T [] 0 0 := by
  have htop : (T.setVm s.vm).topJava?.isSome := X.here.top
  have hF : ((T.setVm s.vm).setFrames (.invoking m args :: below)).frames = .invoking m args :: below := State.frames_setFrames _ (State.cur_lt_of_top htop)
  obtain ⟨g₀, hg0⟩ := Option.isSome_iff_exists.mp htop
  obtain ⟨r, hr⟩ := State.topJava?_eq_some.mp hg0
  have hl9 : e.platform.stackLimits (T.setVm s.vm).me = e.platform.stackLimits s.me := X.limits
  have hb9 : (T.setVm s.vm).me.stackBytes = s.me.stackBytes := X.bytes
  refine ⟨X.admits, X.cas, X.clock, hF, ?_, X.hears, X.method, X.code, X.here, X.tail, X.warmed, ?_, ?_, ?_⟩
  · have h := X.room
    have hU : ((T.setVm s.vm).setFrames (.invoking m args :: below)).localsInUse = s.localsInUse := by
      rw [State.localsInUse_invoking hF (meth := meth) (c := c) X.method X.code, State.localsInUse_invoking X.frames X.method X.code]
    simp only [State.hasRoom, Bool.and_eq_true, decide_eq_true_eq] at h ⊢
    obtain ⟨⟨⟨⟨h1, h2, h3, h4, h5, h6⟩, h7⟩, h8⟩, h9⟩ := h
    rw [X.frames, List.length_cons] at h2 h3
    have q1 := X.heapSize
    have q2 := X.used
    simp only [hF, hU, List.length_cons, State.stackLimits_setFrames, State.stackBytes_setFrames, hl9, hb9]
    refine ⟨⟨⟨⟨by omega, by omega, by omega, by omega, by omega, h6⟩, ?_⟩, ?_⟩, X.book⟩
    · show T.heap.size + R'.cells ≤ e.platform.maxCells
      omega
    · show T.slotsUsed + R'.slots ≤ e.platform.maxSlots
      omega
  · rw [State.stackLimits_setFrames]; rfl
  · rw [State.stackBytes_setFrames]; rfl
  · refine ⟨?_, Nat.le_refl _, Nat.le_refl _, ?_, ?_, fun a c9 h9 => ⟨c9, h9, rfl, rfl, fun _ _ => rfl⟩⟩
    · obtain ⟨t, ht, -⟩ := State.frames_cons hr
      show T.setVm s.vm = { ((T.setVm s.vm).setFrames (.invoking m args :: below)).setFrames (T.setVm s.vm).frames with heap := T.heap, slotsUsed := T.slotsUsed }
      rw [State.setFrames_setFrames, State.setFrames_self ht]
      rfl
    · show T.slotsUsed = T.slotsUsed + ((T.heap.toList.drop T.heap.size).map (·.slots.size)).sum
      rw [List.drop_eq_nil_of_le (Nat.le_of_eq Array.length_toList)]
      rfl
    · show ((T.heap.toList.drop T.heap.size).map (·.slots.size)).sum ≤ 0
      rw [List.drop_eq_nil_of_le (Nat.le_of_eq Array.length_toList)]
      exact Nat.le_refl _
/-- 'throw new E()': new; dup; invokespecial; athrow -/
theorem vx_throw0 {cc : ByteArray} {pc : Nat} (hexec : p.tables.exec = Jvm.exec) (hb : c.code = cc) (hl : l.stackTraces = false) {own cls : String} {names : List String} {ik ic mc ms : Nat} {A : Nat → Prop}
    (hown : s.vm.findClass own = some m.cls) (hcls : Bundle.fit cls = true) (hnames : ∀ n ∈ names, Bundle.fit n = true)
    (hk : (Cond.classLink own ik cls).before args s = true) (hini : (Cond.initialized cls).before args s = true) (hat : ∀ w ∈ vx_at0 own ic cls names, w.before args s = true)
    (hgood : ∀ w ∈ Cond.classLink own ik cls :: Cond.initialized cls :: vx_at0 own ic cls names, vx_ot w = true)
    (hU : vx_Zq Bundle.tN "UNASSIGNED_STACK" Bundle.steD A s s.heap) (hN : vx_Zq Bundle.tN "SUPPRESSED_SENTINEL" Bundle.listD A s s.heap) (hS : va_S A s.heap H locs) (hsize : ls.size = c.maxLocals)
    (d0 : decode cc pc = .ok (.new ik, 3)) (d3 : decode cc (pc + 3) = .ok (.dup, 1)) (d4 : decode cc (pc + 4) = .ok (.invokespecial ic, 3)) (d7 : decode cc (pc + 7) = .ok (.athrow, 1))
    (hout : ∀ x ∈ c.exceptionTable.toList, covers x (pc + 7) = false)
    (hRframes : names.length + 3 < R.frames) (hRlocals : (rest.map fun v => v.category).sum + (13 * (names.length + 1) + 42) ≤ R.locals) (hRcells : cells + 1 ≤ R.cells) (hRslots : slots + 6 ≤ R.slots) (hlocks : meth.locks = false)
    (hx : ∀ t : State, s.vm.Alike t.vm → H.size ≤ t.heap.size → (∀ q : Nat, q < H.size → t.heap[q]? = H[q]?) → XC cls s t)
    (hf : ∀ z ∈ locs, free z.base) (hc : cells + 1 ≤ mc) (hs : slots + 6 ≤ ms) :
    W p l e R s m args below meth c H locs cells slots (vx_MQ below Qc XC args s mc ms free) (F0 m pc ls rest) := by
  intro T hT X
  have htr : e.platform.stackTraces = false := (show e.platform.stackTraces = l.stackTraces by rw [X.admits.platform]).trans hl
  have Y := vx_rebase X (R' := { frames := R.frames, locals := R.locals, cells := 1, slots := 6 }) (Nat.le_refl _) (Nat.le_refl _) hRcells hRslots
  obtain ⟨s', hA⟩ : ∃ z, z = (T.setVm s.vm).setFrames (.invoking m args :: below) := ⟨_, rfl⟩
  rw [← hA] at Y
  have hvm : s'.vm = s.vm := by rw [hA]; rfl
  have hhp : s'.heap = H := by rw [hA]; exact hT
  have hW0 : s.WarmedH s'.vm := by rw [hvm]; exact State.WarmedH.refl s
  have hat' : ∀ w ∈ vx_at0 own ic cls names, w.before args s' = true := fun w hw => vx_ot_at hW0 hvm.symm (hgood w (List.mem_cons_of_mem _ (List.mem_cons_of_mem _ hw))) (hat w hw)
  have hk' : (Cond.classLink own ik cls).before args s' = true := vx_ot_at hW0 hvm.symm (hgood _ List.mem_cons_self) hk
  have hini' : (Cond.initialized cls).before args s' = true := vx_ot_at hW0 hvm.symm (hgood _ (List.mem_cons_of_mem _ List.mem_cons_self)) hini
  have hU' : vx_Zq Bundle.tN "UNASSIGNED_STACK" Bundle.steD A s' s'.heap := by rw [hhp]; exact vx_Zq.moved hW0.alike (hU.kept hS.2.1)
  have hN' : vx_Zq Bundle.tN "SUPPRESSED_SENTINEL" Bundle.listD A s' s'.heap := by rw [hhp]; exact vx_Zq.moved hW0.alike (hN.kept hS.2.1)
  have h : ∀ w ∈ Bundle.ownAtoms0 own ic cls names, w.before args s' = true := vx_own hat' (vx_isRefq hU'.1) (vx_isRefq hN'.1) hU'.2.word hN'.2.word
  have hown' : s'.vm.findClass own = some m.cls := by rw [hvm]; exact hown
  have hins : (Cond.instantiable cls 6).before args s' = true := h _ (by simp [Bundle.ownAtoms0])
  obtain ⟨vm₁, cX, kX, hfX, hkX, -, -, X₁, st1⟩ := Y.newCold hexec (own := own) (C := cls) (index := ik) (n := 6) hown' hk' hins hini'
    (g := F0 m pc ls rest) rfl (by rw [hb]; exact d0) (Nat.le_refl _) (Nat.le_refl _)
  generalize hT1 : (T.setVm vm₁).pushCell { cls := cX, slots := kX.instanceTypes.map defaultValue, vm := .none } = T1 at X₁ st1
  have hcat : (Value.ref T.heap.size).category = 1 := rfl
  have hcellA : T1.heap[T.heap.size]? = some (freshCell cX kX) := by rw [← hT1]; exact State.heap_pushCell_size _ _
  have d3' : decode c.code (pc + 3) = .ok (.dup, 1) := by rw [hb]; exact d3
  obtain ⟨U, hsteps, hrun, hend, hW, hsame, ce, hce, hO⟩ := X₁.ctorThrow0 hexec htr (own := own) (cls := cls) (names := names) (ic := ic) hown' hcls hnames h (fun x hx => nomatch hx) hfX hkX hcellA (by rw [hhp, hT]; exact Nat.le_refl _)
    (g := { method := m, pc := pc + 4, locals := ls, stack := .ref T.heap.size :: .ref T.heap.size :: rest, locked := none }) rfl hsize rfl rfl (rest := rest) rfl
    (by rw [hb]; exact d4) (by rw [hb]; exact d7) hout hRframes (by simp only [List.map_cons, List.sum_cons, hcat]; omega) hlocks
  obtain ⟨f1, f2⟩ := vx_frame hsame
  rw [hhp] at f1 f2
  have hWs : s.WarmedH U.vm := State.WarmedH.trans hW0 hW
  have hcl : s.vm.findClass cls = some ce.cls := by
    have h9 := hO.cls
    rw [hvm] at h9
    exact h9
  have hall : s.sameButNew ({ U with vm := s.vm } : State) locs mc ms := by
    subst hA
    obtain ⟨e1, e2⟩ := hsame
    rw [State.setFrames_setFrames] at e1
    have h2 : (T.setVm s.vm).sameButNew ({ U with vm := s.vm } : State) [] (0 + 1) (0 + 6) := ⟨e1, e2⟩
    have h3 := X.same.trans h2
    rw [List.append_nil] at h3
    exact h3.mono hc hs
  refine ⟨U, ?_, .threw T.heap.size, hrun, hend, Or.inr ⟨T.heap.size, rfl, cls, ce, locs, hx U hWs.alike f1 (fun q hq => f2 q hq (fun z hz => nomatch hz)), hce, hO.vm, hcl, hWs, hall, hf⟩⟩
  refine st1 _ ?_
  show Steps p.tables e below (T1.setTop { method := m, pc := pc + 3, locals := ls, stack := .ref T.heap.size :: rest, locked := none }) _
  jvm_step X₁.here [X₁.here.top, hexec, d3', Value.category]
  exact hsteps
end Ends
section Bodies
variable {l : Launch}
theorem vx_ofW {y : MethodName} {ws ws' : List Cond} {rm : Room} {Pc : Array Value → State → Prop} {Qc : Array Value → State → Outcome → State → Prop} {XC : String → State → State → Prop} {mc ms : Nat} {free : Addr → Prop} {cc : ByteArray} {maxL : Nat} {ret : Option FieldType}
    (hy : plainName y.cls = true) (hw : ws = Cond.code y cc maxL ret :: ws')
    (body : ∀ p e s m args below meth c s₁, BodyLoose p l y (headSpec ws rm) cc maxL ret e s m args below meth c s₁ → c.maxLocals = maxL → (∀ x ∈ c.exceptionTable.toList, False) → Pc args s →
      W p l e (headSpec ws rm).room s m args below meth c s.heap [] 0 0 (vx_MQ below Qc XC args s mc ms free) (entryFrame m args maxL)) : vx_Met l y ws rm Pc Qc XC mc ms free := by
  refine MetFree.of_bodyS (code := cc) (maxLocals := maxL) (ret := ret) hy ?_ ?_
  · intro args s m h hn
    obtain ⟨meth, c, h1, h2, h3, h4, h5, h6, -, -⟩ := Cond.code_spec hn (atoms_spec (ws := ws) h _ (by rw [hw]; exact List.mem_cons_self))
    exact ⟨meth, c, h1, h2, h3, h4, h5, h6⟩
  · intro p e s m args below meth c s₁ B hml hP _
    have hh0 : s₁.heap = s.heap := by rw [B.state]; rfl
    have ht : ∀ x ∈ c.exceptionTable.toList, False := by
      obtain ⟨meth9, c9, h1, h2, -, -, -, -, h7, -⟩ := Cond.code_spec B.named (atoms_spec (ws := ws) B.pre _ (by rw [hw]; exact List.mem_cons_self))
      cases Option.some.inj (h1.symm.trans B.method)
      cases Option.some.inj (h2.symm.trans (Stand.of_body B).code)
      intro x hx
      rw [Array.isEmpty_iff.mp h7] at hx
      cases hx
    obtain ⟨t, a1, o, b1, b2, b3⟩ := body p e s m args below meth c s₁ B hml ht hP s₁ hh0 (Stand.of_body B)
    exact ⟨t, o, a1, b1, b2, b3⟩
/-- the table of a body with handlers -/
theorem vx_table {p : Program} {x y : MethodName} {S : Spec} {cc bytes : ByteArray} {maxL maxL' : Nat} {ret ret' : Option FieldType} {e : Env} {s s₁ : State} {m : MethodId} {args : Array Value} {below : List Frame} {meth : Method} {c : Code} {hh : List (Nat × Nat × Nat × Nat)}
    (B : BodyLoose p l y S cc maxL ret e s m args below meth c s₁) (h : (Cond.codeWith y bytes maxL' ret' hh).before args s = true) : c.exceptionTable.toList = tableOf hh := by
  obtain ⟨m9, meth9, c9, hn9, h1, h2, -, -, h6, -⟩ := Cond.codeWith_spec h
  cases Option.some.inj (hn9.symm.trans B.named)
  cases Option.some.inj (h1.symm.trans B.method)
  cases Option.some.inj (h2.symm.trans (Stand.of_body B).code)
  rw [← h6, table_eq]
end Bodies
end VXA
/-! ===== END ===== -/
/-! ===== BEGIN a static call of a method with an exception table ===== -/
section VXS
variable {p : Program} {l : Launch} {e : Env} {R : Room} {s : State} {m : MethodId} {args : Array Value} {below : List Frame} {meth : Method} {c : Code} {T : State} {H : Heap} {locs : List Loc} {cells slots : Nat}
abbrev vx_CSW (R : Room) (s : State) (args : Array Value) (own : String) (index : Nat) (y : MethodName) (bytes : ByteArray) (maxL : Nat) (ret : Option FieldType) (hh : List (Nat × Nat × Nat × Nat)) (ws : List Cond) (rm : Room) (mc ms n : Nat) : Prop :=
  (rm.cells = mc ∧ rm.slots = ms ∧ rm.frames + 1 ≤ R.frames ∧ 8 + (maxL + 11) + rm.locals ≤ R.locals ∧ (∀ w ∈ ws, ∀ (a' : Array Value) (U : State), s.WarmedH U.vm → w.before a' U = true) ∧ Cond.codeWith y bytes maxL ret hh ∈ ws) ∧
  (Cond.codeWith y bytes maxL ret hh).before args s = true ∧ (Cond.initialized y.cls).before args s = true ∧ (y.cls ≠ "java/lang/invoke/MethodHandle" ∧ y.cls ≠ "java/lang/invoke/VarHandle") ∧
  (∀ sig, parseMethodDescriptor y.desc = some sig → n = sig.parameters.length) ∧ (Cond.methodLink own index y).before args s = true ∧ (Cond.static y).before args s = true
theorem vx_cwSW {own : String} {index maxL mc ms : Nat} {y : MethodName} {bytes : ByteArray} {ret : Option FieldType} {hh : List (Nat × Nat × Nat × Nat)} {Ts ws ws' : List Cond} {rm : Room} (n : Nat) (ht : ∀ w ∈ Ts, w.before args s = true) (hT : GoodIn Ts (va_wsS own index y ws)) (hw : ws = Cond.codeWith y bytes maxL ret hh :: ws') (hrc : rm.cells = mc) (hrs : rm.slots = ms)
    (hd : y.cls ≠ "java/lang/invoke/MethodHandle" ∧ y.cls ≠ "java/lang/invoke/VarHandle" ∧ (parseMethodDescriptor y.desc).map (fun d => d.parameters.length) = some n) (hR : rm.frames + 1 ≤ R.frames ∧ 8 + (maxL + 11) + rm.locals ≤ R.locals) :
    vx_CSW R s args own index y bytes maxL ret hh ws rm mc ms n := by
  have ok : ∀ w ∈ va_wsS own index y ws, w.before args s = true := fun w h => ht w (hT w h).1
  have hG : GoodIn Ts ws := fun w h => hT w (by unfold va_wsS; exact List.mem_append_right _ h)
  have hc : Cond.codeWith y bytes maxL ret hh ∈ ws := by rw [hw]; exact List.mem_cons_self
  refine ⟨⟨hrc, hrs, hR.1, hR.2, pay_in ht hG, hc⟩, ht _ (hG _ hc).1, ok _ (by simp [va_wsS]), ⟨hd.1, hd.2.1⟩, fun sig h => ?_, ok _ (by simp [va_wsS]), ok _ (by simp [va_wsS])⟩
  have h2 := hd.2.2
  rw [h] at h2
  exact (Option.some.inj h2).symm
theorem vx_callSW (X : Stand p l e R s m args below meth c T locs cells slots) (hexec : p.tables.exec = Jvm.exec) {own : String} {index : Nat} {y : MethodName} {bytes : ByteArray} {maxL : Nat} {ret : Option FieldType} {hh : List (Nat × Nat × Nat × Nat)}
    (hown : s.vm.findClass own = some m.cls) (hlink : (Cond.methodLink own index y).before args s = true) (hstat : (Cond.static y).before args s = true) (hinit : (Cond.initialized y.cls).before args s = true)
    (hcode : (Cond.codeWith y bytes maxL ret hh).before args s = true) (hy : y.cls ≠ "java/lang/invoke/MethodHandle" ∧ y.cls ≠ "java/lang/invoke/VarHandle")
    {W9 : Nat} {Pre : Pt → Array Value → Prop} {Post : Pt → Array Value → Option Value → Pt → Prop} (hK : Back l R p e below s args y 3 W9 Pre Post)
    {g : JFrame} (hg : g.method = m) (hsize : g.locals.size = c.maxLocals) {argsL rest : List Value} (hlen : ∀ sig, parseMethodDescriptor y.desc = some sig → argsL.length = sig.parameters.length)
    (hstack : g.stack = argsL.reverse ++ rest) (hW : 2 * g.monitorRoom + (rest.map fun v => v.category).sum ≤ W9) (hdg : decode c.code g.pc = .ok (.invokestatic index, 3))
    (hpre : ∀ vm₁, s.WarmedH vm₁ → Pre ⟨T.setVm vm₁, locs, cells, slots⟩ argsL.toArray) :
    ∃ (v : Option Value) (vm₁ : Vm) (B : Pt), s.WarmedH vm₁ ∧ Stand p l e R s m args below meth c B.U B.locs B.cells B.slots ∧ Post ⟨T.setVm vm₁, locs, cells, slots⟩ argsL.toArray v B ∧
      ∀ target, Steps p.tables e below (B.U.setTop { g with pc := g.pc + 3, stack := v.toList ++ rest }) target → Steps p.tables e below (T.setTop g) target := by
  obtain ⟨mk, methM, cM, hnamed, hmethM, -, -, -, -, -, -, hsigM⟩ := Cond.codeWith_spec hcode
  have hstatic : methM.isStatic = true := Cond.static_spec hnamed hmethM hstat
  obtain ⟨kP, hkP, -⟩ := className_of_methodNamed hnamed
  have hinitP : kP.init = .initialized := Cond.initialized_spec (findClass_of_methodNamed hnamed) hkP hinit
  obtain ⟨vm₁, X₁, hstep₁⟩ := X.invokestatic hexec hown hlink hnamed hmethM hstatic hkP hinitP hy (g := g) hg (argsL := argsL) (rest := rest) (hlen _ hsigM) hstack hdg
  obtain ⟨v, B, X', hpost, hsteps⟩ := hK m meth c ⟨T.setVm vm₁, locs, cells, slots⟩ { g with stack := rest } (.invokestatic index) mk argsL.toArray X₁ hg hsize hdg hW (X₁.named hnamed) (hpre vm₁ X₁.warmed)
  exact ⟨v, vm₁, B, X₁.warmed, X', hpost, fun target h => hstep₁ _ fun acts => by rw [doInvoke_state]; exact hsteps.trans h⟩
theorem vx_runSW {y : MethodName} {bytes cc : ByteArray} {maxL nL mc ms n index : Nat} {ret : Option FieldType} {hh : List (Nat × Nat × Nat × Nat)} {ws : List Cond} {rm : Room} {Pc : Array Value → State → Prop} {Qc : Array Value → State → Outcome → State → Prop} {free : Addr → Prop} {Ts : List Cond} {own : String} {As rest : List Value} {g : JFrame}
    (S : CallFix p m c cc nL s args Ts own) (hM : Met l y ws rm Pc Qc mc ms free) (cw : vx_CSW R s args own index y bytes maxL ret hh ws rm mc ms n) (hp : PreS s H Pc As)
    (hg : g.method = m) (hn : As.length = n) (hsize : g.locals.size = nL) (hstack : g.stack = As.reverse ++ rest) (hW : 2 * g.monitorRoom + (rest.map fun v => v.category).sum ≤ 8) (hdg : decode cc g.pc = .ok (.invokestatic index, 3)) (hf : cells + mc ≤ R.cells ∧ slots + ms ≤ R.slots) :
    va_Run p l e R s m args below meth c H locs cells slots mc ms g rest (Qc As.toArray) (free) := by
  obtain ⟨⟨hrc, hrs, hfr, hlo, hws, hcw⟩, hcode, hini, hy, hlen, hl, hstt⟩ := cw
  have hK : Back l R p e below s args y 3 8 (PreOf R mc ms Pc) (PostOf Qc mc ms free) := va_backW (hh := hh) (bytes := bytes) (maxL := maxL) (ret := ret) hM hp.1 hrc hrs hfr hlo hws hcw (fun a' U hW => word_at hW (Or.inl (by first | rfl | simp [Cond.onTables, Cond.keeps, Cond.steady])) hini)
  obtain ⟨hx, hb, hml, ho, -⟩ := S
  intro T hT X
  obtain ⟨v, vm₁, ⟨U', l2, c2, s2⟩, hW₁, X', ⟨g', mk, t, L, e1, e2, hq, h1, hL, h2, h3⟩, st⟩ := vx_callSW X hx (hh := hh) (bytes := bytes) (maxL := maxL) (ret := ret) ho hl hstt hini hcode hy hK hg (hsize.trans hml.symm) (argsL := As) (rest := rest) (fun sig h => hn.trans (hlen sig h)) hstack hW (by rw [hb]; exact hdg)
    (fun vm₁ hW₁ => ⟨hf.1, hf.2, hp.2 (T.setVm vm₁) hT hW₁⟩)
  dsimp only [Pt.U, Pt.locs, Pt.cells, Pt.slots] at X' e1 e2 h1 h2 h3 st
  subst h1; subst h2; subst h3
  exact ⟨v, (T.setVm vm₁).calling g' mk As.toArray, t, U', L, hT, X', hL, e1, e2, hq, st⟩
/-- not caught here, past rows that name other classes: it goes on to the caller -/
theorem vx_outP {p : Program} {l : Launch} {e : Env} {R : Room} {s : State} {m : MethodId} {args : Array Value} {below : List Frame} {meth : Method} {c : Code} {H : Heap} {locs : List Loc} {cells slots : Nat} {free : Addr → Prop} {ls : Array Slot} {rest : List Value} {Qc : Array Value → State → Outcome → State → Prop} {XC : String → State → State → Prop}
    {pc : Nat} {own E : String} {ce : Cell} {q : Addr} {mc ms : Nat} (hown : s.vm.findClass own = some m.cls) (hlocks : meth.locks = false)
    (hpass : ∀ z ∈ c.exceptionTable.toList, covers z pc = false ∨ (z.catchType ≠ 0 ∧ ∃ nm : String, (Cond.classLink own z.catchType nm).before args s = true ∧ va_Nc E nm s)) (hcell : H[q]? = some ce) (hv : ce.vm = .none) (hcl : s.vm.findClass E = some ce.cls)
    (hx : ∀ t : State, t.heap = H → s.vm.Alike t.vm → XC E s t) (hf : ∀ z ∈ locs, free z.base) (hc : cells ≤ mc) (hs : slots ≤ ms) :
    vx_W p l e R s m args below meth c H locs cells slots (vx_MQ below Qc XC args s mc ms free) (F0 m pc ls rest) q := by
  intro T hT X
  have hpl : e.platform.magicAccessors = ({} : Platform).magicAccessors := by rw [X.admits.platform]
  obtain ⟨vm', hW', X', st⟩ := X.outThrough hlocks q (g := F0 m pc ls rest) rfl rfl rfl (cell := ce) (by rw [hT]; exact hcell) (by rw [hv]; rfl)
    (by obtain ⟨k9, h9, -⟩ := Vm.findClass_spec hcl; exact ⟨k9, h9⟩) (fun z hz => by
      rcases hpass z hz with h | ⟨hz0, nm, hl1, hn1⟩
      · exact Or.inl h
      · obtain ⟨c6, hc6, hcl6⟩ := Cond.classLink_spec hown hl1 e.platform hpl
        obtain ⟨a8, b8, h1, h2, h3⟩ := hn1
        cases Option.some.inj (h1.symm.trans hcl)
        cases Option.some.inj (h2.symm.trans hc6)
        exact Or.inr ⟨hz0, _, hcl6, h3⟩)
  obtain ⟨g₀, hfr⟩ := X'.frames_eq
  have hcell9 : ((T.setVm vm').setFrames (.throwing q :: below)).heap[q]? = some ce := by
    show T.heap[q]? = some ce
    rw [hT]; exact hcell
  have hend : Ended ((T.setVm vm').setFrames (.throwing q :: below)) below (.threw q) := State.frames_setFrames _ (State.cur_lt_of_frames hfr)
  refine ⟨(T.setVm vm').setFrames (.throwing q :: below), ?_, .threw q, X'.here.running, hend, Or.inr ⟨q, rfl, E, ce, locs, hx _ hT (X'.ends _).1.alike, hcell9, hv, hcl, (X'.ends _).1, (X'.ends _).2.mono hc hs, hf⟩⟩
  rw [X.pushThrowing_eq]
  exact st
/-- a thing of a world lies in the heap -/
theorem vx_lt {D : va_G} {cl : List vw_C} {ws : va_W} {H1 : Heap} (h : va_P D cl ws H1) {k : Nat} {q : Nat × va_E} (hk : ws[k]? = some q) : q.1 < H1.size := (h k q hk).lt
end VXS
/-! ===== END ===== -/
end
section
/-! methods that may throw, and the law's wrappers that catch; longs -/
def xn (k : Nat) : String := match k with
  | 1 => "java/lang/IndexOutOfBoundsException"
  | 2 => "java/lang/IllegalStateException"
  | 3 => "java/lang/UnsupportedOperationException"
  | _ => "java/lang/IllegalArgumentException"
abbrev xsup : List String := ["java/lang/RuntimeException", "java/lang/Exception"]
/-- what the statics of Throwable are, and which exceptions aren't which -/
def Zs (A : Nat → Prop) (U : State) (H : Heap) : Prop := vx_Zq Bundle.tN "UNASSIGNED_STACK" Bundle.steD A U H ∧ vx_Zq Bundle.tN "SUPPRESSED_SENTINEL" Bundle.listD A U H
def ncL : List (Nat × Nat) := [(2, 1), (3, 1), (3, 2), (4, 1), (3, 4), (2, 4), (4, 2)]
def Ncs (U : State) : Prop := ∀ q ∈ ncL, va_Nc (xn q.1) (xn q.2) U
def Xs (Λ : La) (ad : Nat → Nat) (U : State) : Prop := Zs (Aa Λ ad) U U.heap ∧ Ncs U
theorem Xs.next {Λ : La} {ad : Nat → Nat} {s U : State} {H : Heap} {locs : List Loc} (h : Xs Λ ad s) (hS : va_S (Aa Λ ad) s.heap H locs) (hU : U.heap = H) (hW : s.WarmedH U.vm) : Xs Λ ad U := by
  refine ⟨⟨?_, ?_⟩, fun q hq => va_Nc.moved hW.alike (h.2 q hq)⟩
  · rw [hU]; exact vx_Zq.moved hW.alike (h.1.1.kept hS.2.1)
  · rw [hU]; exact vx_Zq.moved hW.alike (h.1.2.kept hS.2.1)
theorem StX.blind {G : va_G} {kA kL : ClassId} {Λ : La} {ad : Nat → Nat} {w : Wo} {av : List Value} : FrameBlind (va_Pc av (fun U => St G kA kL Λ ad w U ∧ Xs Λ ad U)) := fun a U g mk q =>
  ⟨q.1, ⟨q.2.1.1, q.2.1.2.1, va_K.moved (u := U) (U := U.calling g mk a) (Vm.Alike.refl U.vm) q.2.1.2.2.1, Nst.same (s := U) (U := U.calling g mk a) rfl q.2.1.2.2.2⟩,
    ⟨⟨vx_Zq.moved (u := U) (U := U.calling g mk a) (Vm.Alike.refl U.vm) q.2.2.1.1, vx_Zq.moved (u := U) (U := U.calling g mk a) (Vm.Alike.refl U.vm) q.2.2.1.2⟩, fun z hz => va_Nc.moved (u := U) (U := U.calling g mk a) (Vm.Alike.refl U.vm) (q.2.2.2 z hz)⟩⟩
/-- the tables' words for 'throw new' of the exception k -/
def Th (own : String) (k ik ic : Nat) : Prop := k ≠ 0 ∧ Cond.classLink own ik (xn k) ∈ gW ∧ Cond.initialized (xn k) ∈ gW ∧ (∀ w ∈ vx_at0 own ic (xn k) xsup, w ∈ gW ∨ w ∈ nW) ∧ (∀ w ∈ Cond.classLink own ik (xn k) :: Cond.initialized (xn k) :: vx_at0 own ic (xn k) xsup, vx_ot w = true) ∧ Bundle.fit (xn k) = true
def XQ (G : va_G) (kA kL : ClassId) (Λ : La) (ad : Nat → Nat) (q : Wo × Nat × Int32) : String → State → State → Prop := vx_X (fun (_ : Unit) => True) (fun E _ t => q.2.1 ≠ 0 ∧ E = xn q.2.1 ∧ va_P G vCl (wl kA kL Λ ad q.1) t.heap) (Aa Λ ad)
def Xi (l : Launch) (y : MethodName) (cc : ByteArray) (maxL : Nat) (ret : Option FieldType) (rm : Room) (G : va_G) (kA kL : ClassId) (Λ : La) (ad : Nat → Nat) (av : List Value) (w : Wo) (q : Wo × Nat × Int32) : Prop :=
  vx_Met l y (.code y cc maxL ret :: gW) rm (va_Pc av (fun U => St G kA kL Λ ad w U ∧ Xs Λ ad U)) (va_Qi (fun x (_ : Unit) => q.2.1 = 0 ∧ x = q.2.2) (fun _ => St G kA kL Λ ad q.1) (Aa Λ ad)) (XQ G kA kL Λ ad q) 1 6 (Aa Λ ad)
def Xv (l : Launch) (y : MethodName) (cc : ByteArray) (maxL : Nat) (rm : Room) (G : va_G) (kA kL : ClassId) (Λ : La) (ad : Nat → Nat) (av : List Value) (w : Wo) (q : Wo × Nat × Int32) : Prop :=
  vx_Met l y (.code y cc maxL none :: gW) rm (va_Pc av (fun U => St G kA kL Λ ad w U ∧ Xs Λ ad U)) (va_Qv (fun (_ : Unit) => q.2.1 = 0) (fun _ => St G kA kL Λ ad q.1) (Aa Λ ad)) (XQ G kA kL Λ ad q) 1 6 (Aa Λ ad)
def zrx (w : Wo) (x : Int32) : Option (Wo × Nat × Int32) := if x = 0 ∨ x = 1 then some (w, 0, x) else none
theorem zrx_some {w : Wo} {x : Int32} {q : Wo × Nat × Int32} (h : zrx w x = some q) : (x = 0 ∨ x = 1) ∧ (w, 0, x) = q := by
  unfold zrx at h
  by_cases hx : x = 0 ∨ x = 1
  · exact ⟨hx, Option.some.inj (ip_ h hx)⟩
  · exact absurd (in_ h hx) (fun q => by cases q)
section XR
variable {p : Program} {l : Launch} {e : Env} {R : Room} {s : State} {m : MethodId} {args : Array Value} {below : List Frame} {meth : Method} {c : Code} {H : Heap} {locs : List Loc} {cells slots : Nat} {Q : State → Prop}
variable {cc : ByteArray} {pc nL : Nat} {ls : Array Slot} {rest stk : List Value} {a0 : Cond} {own : String} {lv : List (Nat × Value)}
variable {G : va_G} {kA kL : ClassId} {Λ : La} {ad : Nat → Nat} {w w1 : Wo} {A : Nat → Prop}
theorem thr {Qc : Array Value → State → Outcome → State → Prop} (S : CallFix p m c cc nL s args (a0 :: gW) own) (hlt : l.stackTraces = false) (hX : Xs Λ ad s) (hl : lv_has ls nL lv) (hI : Iv (Aa Λ ad) G kA kL Λ ad w s H locs) (htab : ∀ x ∈ c.exceptionTable.toList, False) (hlocks : meth.locks = false) {k ik ic : Nat} (T : Th own k ik ic) {x : Int32}
    (d0 : decode cc pc = .ok (.new ik, 3)) (d3 : decode cc (pc + 3) = .ok (.dup, 1)) (d4 : decode cc (pc + 4) = .ok (.invokespecial ic, 3)) (d7 : decode cc (pc + 7) = .ok (.athrow, 1))
    (hRf : 5 < R.frames) (hRl : (rest.map fun v => v.category).sum + 81 ≤ R.locals) (hRc : 1 ≤ R.cells) (hRs : 6 ≤ R.slots) :
    W p l e R s m args below meth c H locs 0 0 (vx_MQ below Qc (XQ G kA kL Λ ad (w, k, x)) args s 1 6 (Aa Λ ad)) (F0 m pc ls rest) := by
  obtain ⟨hk0, hk, hini, hat, hgood, hfit⟩ := T
  refine vx_throw0 (names := xsup) S.1 S.2.1 hlt S.2.2.2.1 hfit (by decide +kernel) (cfw (Ts := []) S hk) (cfw (Ts := []) S hini) (fun w hw => ?_) hgood hX.1.1 hX.1.2 hI.2.2.2.2.1 (hl.1.trans S.2.2.1.symm) d0 d3 d4 d7 (fun x hx => (htab x hx).elim) hRf hRl (by omega) (by omega) hlocks (fun t hvm hz hq => ?_) hI.2.2.2.2.1.2.2 (Nat.le_refl _) (Nat.le_refl _)
  · rcases hat w hw with h | h
    · exact cfw (Ts := []) S h
    · exact va_Nw.use (isNe_tab (List.mem_filter.mp h).2) (hI.2.2.2.1 w h)
  · refine ⟨(), trivial, ⟨hk0, rfl, hI.1.kept fun k q h => hq _ (vx_lt hI.1 h)⟩, Nat.le_trans hI.2.2.2.2.1.1 hz, fun q h1 h2 => ?_⟩
    rw [hq q (Nat.lt_of_lt_of_le h1 hI.2.2.2.2.1.1)]
    exact hI.2.2.2.2.1.2.1 q h1 h2
theorem Xi.of {y : MethodName} {maxL : Nat} {rm : Room} {av : List Value} {q : Wo × Nat × Int32} (hlt : l.stackTraces = false) (hy : plainName y.cls = true) (hlen : (lg_sl av).length ≤ maxL) (hrm : 5 < rm.frames ∧ 81 ≤ rm.locals ∧ rm.cells = 1 ∧ rm.slots = 6)
    (body : ∀ (p : Program) (e : Env) (s : State) (m : MethodId) (args : Array Value) (below : List Frame) (meth : Method) (c : Code) (Q : State → Prop) (ls : Array Slot), CallFix p m c cc maxL s args (.code y cc maxL (some .int) :: gW) y.cls →
      (∀ (H : Heap) (locs : List Loc) (pc : Nat) (ls : Array Slot) (w' : Wo) (x : Int32), Iv (Aa Λ ad) G kA kL Λ ad w' s H locs → some (w', 0, x) = some q → decode cc pc = .ok (.ireturn, 1) → W p l e rm s m args below meth c H locs 0 0 Q (F0 m pc ls [.int x])) →
      (∀ (H : Heap) (locs : List Loc) (pc : Nat) (ls : Array Slot) (lv : List (Nat × Value)) (w' : Wo) (k ik ic : Nat), Iv (Aa Λ ad) G kA kL Λ ad w' s H locs → lv_has ls maxL lv → some (w', k, 0) = some q → Th y.cls k ik ic → decode cc pc = .ok (.new ik, 3) → decode cc (pc + 3) = .ok (.dup, 1) → decode cc (pc + 4) = .ok (.invokespecial ic, 3) → decode cc (pc + 7) = .ok (.athrow, 1) → W p l e rm s m args below meth c H locs 0 0 Q (F0 m pc ls [])) →
      lv_has ls maxL (lv_args 0 av) → Iv (Aa Λ ad) G kA kL Λ ad w s s.heap [] → W p l e rm s m args below meth c s.heap [] 0 0 Q (F0 m 0 ls [])) : Xi l y cc maxL (some .int) rm G kA kL Λ ad av w q := by
  unfold Xi
  refine vx_ofW (cc := cc) (maxL := maxL) (ret := some .int) hy rfl ?_
  intro p e s m args below meth c s₁ B hml htab hv
  obtain ⟨rfl, ⟨hP, hJ, hK, hN⟩, hX⟩ := hv
  have hr := B.returns
  have hlocks := B.notSynchronized
  have S : CallFix p m c cc maxL s av.toArray (.code y cc maxL (some .int) :: gW) y.cls := ⟨B.exec, B.bytes, hml, findClass_of_methodNamed B.named, atoms_spec B.pre⟩
  rw [lg_entry_eq]
  refine body p e s m _ below meth c _ _ S ?_ ?_ (lv_entry av hlen) ⟨hP, hJ, hK, hN, va_S.rf, fun c h => ⟨c, h, rfl⟩⟩
  · intro H locs pc ls w' x hI hf hd
    cases hf
    refine W.widen (k := 1) (n := 6) (by omega) (by omega) (vx_ret ?_)
    exact W.iret B.exec B.bytes hr (fun t ht hW => ⟨⟨_, (), rfl, ⟨rfl, rfl⟩, hI.toSt ht hW⟩, hI.2.2.2.2.1.F ht⟩) hI.2.2.2.2.1.2.2 hd
  · intro H locs pc ls lv w' k ik ic hI hl hf T d0 d3 d4 d7
    cases hf
    exact thr S hlt hX hl hI htab hlocks T d0 d3 d4 d7 hrm.1 (by simpa using hrm.2.1) (Nat.le_of_eq hrm.2.2.1.symm) (Nat.le_of_eq hrm.2.2.2.symm)
theorem Xz.of {y : MethodName} {maxL : Nat} {rm : Room} {av : List Value} {q : Wo × Nat × Int32} (hlt : l.stackTraces = false) (hy : plainName y.cls = true) (hlen : (lg_sl av).length ≤ maxL) (hrm : 5 < rm.frames ∧ 81 ≤ rm.locals ∧ rm.cells = 1 ∧ rm.slots = 6)
    (body : ∀ (p : Program) (e : Env) (s : State) (m : MethodId) (args : Array Value) (below : List Frame) (meth : Method) (c : Code) (Q : State → Prop) (ls : Array Slot), CallFix p m c cc maxL s args (.code y cc maxL (some .boolean) :: gW) y.cls →
      (∀ (H : Heap) (locs : List Loc) (pc : Nat) (ls : Array Slot) (w' : Wo) (x : Int32), Iv (Aa Λ ad) G kA kL Λ ad w' s H locs → zrx w' x = some q → decode cc pc = .ok (.ireturn, 1) → W p l e rm s m args below meth c H locs 0 0 Q (F0 m pc ls [.int x])) →
      (∀ (H : Heap) (locs : List Loc) (pc : Nat) (ls : Array Slot) (lv : List (Nat × Value)) (w' : Wo) (k ik ic : Nat), Iv (Aa Λ ad) G kA kL Λ ad w' s H locs → lv_has ls maxL lv → some (w', k, 0) = some q → Th y.cls k ik ic → decode cc pc = .ok (.new ik, 3) → decode cc (pc + 3) = .ok (.dup, 1) → decode cc (pc + 4) = .ok (.invokespecial ic, 3) → decode cc (pc + 7) = .ok (.athrow, 1) → W p l e rm s m args below meth c H locs 0 0 Q (F0 m pc ls [])) →
      lv_has ls maxL (lv_args 0 av) → Iv (Aa Λ ad) G kA kL Λ ad w s s.heap [] → W p l e rm s m args below meth c s.heap [] 0 0 Q (F0 m 0 ls [])) : Xi l y cc maxL (some .boolean) rm G kA kL Λ ad av w q := by
  unfold Xi
  refine vx_ofW (cc := cc) (maxL := maxL) (ret := some .boolean) hy rfl ?_
  intro p e s m args below meth c s₁ B hml htab hv
  obtain ⟨rfl, ⟨hP, hJ, hK, hN⟩, hX⟩ := hv
  have hr := B.returns
  have hlocks := B.notSynchronized
  have S : CallFix p m c cc maxL s av.toArray (.code y cc maxL (some .boolean) :: gW) y.cls := ⟨B.exec, B.bytes, hml, findClass_of_methodNamed B.named, atoms_spec B.pre⟩
  rw [lg_entry_eq]
  refine body p e s m _ below meth c _ _ S ?_ ?_ (lv_entry av hlen) ⟨hP, hJ, hK, hN, va_S.rf, fun c h => ⟨c, h, rfl⟩⟩
  · intro H locs pc ls w' x hI hf hd
    obtain ⟨hx, hq⟩ := zrx_some hf
    cases hq
    refine W.widen (k := 1) (n := 6) (by omega) (by omega) (vx_ret ?_)
    exact W.zret B.exec B.bytes hr (narrow_z hx) (fun t ht hW => ⟨⟨_, (), rfl, ⟨rfl, rfl⟩, hI.toSt ht hW⟩, hI.2.2.2.2.1.F ht⟩) hI.2.2.2.2.1.2.2 hd
  · intro H locs pc ls lv w' k ik ic hI hl hf T d0 d3 d4 d7
    cases hf
    exact thr S hlt hX hl hI htab hlocks T d0 d3 d4 d7 hrm.1 (by simpa using hrm.2.1) (Nat.le_of_eq hrm.2.2.1.symm) (Nat.le_of_eq hrm.2.2.2.symm)
theorem Xv.of {y : MethodName} {maxL : Nat} {rm : Room} {av : List Value} {q : Wo × Nat × Int32} (hlt : l.stackTraces = false) (hy : plainName y.cls = true) (hlen : (lg_sl av).length ≤ maxL) (hrm : 5 < rm.frames ∧ 81 ≤ rm.locals ∧ rm.cells = 1 ∧ rm.slots = 6)
    (body : ∀ (p : Program) (e : Env) (s : State) (m : MethodId) (args : Array Value) (below : List Frame) (meth : Method) (c : Code) (Q : State → Prop) (ls : Array Slot), CallFix p m c cc maxL s args (.code y cc maxL none :: gW) y.cls →
      (∀ (H : Heap) (locs : List Loc) (pc : Nat) (ls : Array Slot) (w' : Wo), Iv (Aa Λ ad) G kA kL Λ ad w' s H locs → some (w', 0, 0) = some q → decode cc pc = .ok (.return_, 1) → W p l e rm s m args below meth c H locs 0 0 Q (F0 m pc ls [])) →
      (∀ (H : Heap) (locs : List Loc) (pc : Nat) (ls : Array Slot) (lv : List (Nat × Value)) (w' : Wo) (k ik ic : Nat), Iv (Aa Λ ad) G kA kL Λ ad w' s H locs → lv_has ls maxL lv → some (w', k, 0) = some q → Th y.cls k ik ic → decode cc pc = .ok (.new ik, 3) → decode cc (pc + 3) = .ok (.dup, 1) → decode cc (pc + 4) = .ok (.invokespecial ic, 3) → decode cc (pc + 7) = .ok (.athrow, 1) → W p l e rm s m args below meth c H locs 0 0 Q (F0 m pc ls [])) →
      lv_has ls maxL (lv_args 0 av) → Iv (Aa Λ ad) G kA kL Λ ad w s s.heap [] → W p l e rm s m args below meth c s.heap [] 0 0 Q (F0 m 0 ls [])) : Xv l y cc maxL rm G kA kL Λ ad av w q := by
  unfold Xv
  refine vx_ofW (cc := cc) (maxL := maxL) (ret := none) hy rfl ?_
  intro p e s m args below meth c s₁ B hml htab hv
  obtain ⟨rfl, ⟨hP, hJ, hK, hN⟩, hX⟩ := hv
  have hr := B.returns
  have hlocks := B.notSynchronized
  have S : CallFix p m c cc maxL s av.toArray (.code y cc maxL none :: gW) y.cls := ⟨B.exec, B.bytes, hml, findClass_of_methodNamed B.named, atoms_spec B.pre⟩
  rw [lg_entry_eq]
  refine body p e s m _ below meth c _ _ S ?_ ?_ (lv_entry av hlen) ⟨hP, hJ, hK, hN, va_S.rf, fun c h => ⟨c, h, rfl⟩⟩
  · intro H locs pc ls w' hI hf hd
    cases hf
    refine W.widen (k := 1) (n := 6) (by omega) (by omega) (vx_ret ?_)
    exact W.vret B.exec B.bytes hr (fun t ht hW => ⟨⟨(), rfl, rfl, hI.toSt ht hW⟩, hI.2.2.2.2.1.F ht⟩) hI.2.2.2.2.1.2.2 hd
  · intro H locs pc ls lv w' k ik ic hI hl hf T d0 d3 d4 d7
    cases hf
    exact thr S hlt hX hl hI htab hlocks T d0 d3 d4 d7 hrm.1 (by simpa using hrm.2.1) (Nat.le_of_eq hrm.2.2.1.symm) (Nat.le_of_eq hrm.2.2.2.symm)
/-! the law's wrappers -/
def Ml (l : Launch) (y : MethodName) (cc : ByteArray) (maxL : Nat) (hh : List (Nat × Nat × Nat × Nat)) (rm : Room) (G : va_G) (kA kL : ClassId) (Λ : La) (ad : Nat → Nat) (av : List Value) (w w1 : Wo) (r : Int32) : Prop :=
  Met l y (.codeWith y cc maxL (some .int) hh :: gW) rm (va_Pc av (fun U => St G kA kL Λ ad w U ∧ Xs Λ ad U)) (va_Qi (fun x (_ : Unit) => x = r) (fun _ => St G kA kL Λ ad w1) (Aa Λ ad)) 1 6 (Aa Λ ad)
theorem Met.ofWH {y : MethodName} {ws ws' : List Cond} {rm : Room} {Pc : Array Value → State → Prop} {Qc : Array Value → State → Outcome → State → Prop} {mc ms : Nat} {free : Addr → Prop} {maxL : Nat} {ret : Option FieldType} {hh : List (Nat × Nat × Nat × Nat)}
    (hy : plainName y.cls = true) (hw : ws = Cond.codeWith y cc maxL ret hh :: ws')
    (body : ∀ p e s m args below meth c s₁, BodyLoose p l y (headSpec ws rm) cc maxL ret e s m args below meth c s₁ → c.maxLocals = maxL → Pc args s →
      W p l e (headSpec ws rm).room s m args below meth c s.heap [] 0 0 (MQ below Qc args s mc ms free) (entryFrame m args maxL)) : Met l y ws rm Pc Qc mc ms free := by
  refine MetFree.of_bodyS (code := cc) (maxLocals := maxL) (ret := ret) hy ?_ ?_
  · intro args s m h hn
    obtain ⟨m9, meth, c, hn9, h1, h2, h3, h4, -, h5, h6, -⟩ := Cond.codeWith_spec (atoms_spec (ws := ws) h _ (by rw [hw]; exact List.mem_cons_self))
    cases hn.symm.trans hn9
    exact ⟨meth, c, h1, h2, h3, h4, h5, h6⟩
  · intro p e s m args below meth c s₁ B hml hP _
    have hh0 : s₁.heap = s.heap := by rw [B.state]; rfl
    obtain ⟨t, a1, o, b1, b2, b3⟩ := body p e s m args below meth c s₁ B hml hP s₁ hh0 (Stand.of_body B)
    exact ⟨t, o, a1, b1, b2, ⟨b3.1, b3.2⟩⟩
theorem Ml.of {y : MethodName} {maxL : Nat} {hh : List (Nat × Nat × Nat × Nat)} {rm : Room} {av : List Value} {r : Int32} (hy : plainName y.cls = true) (hlen : (lg_sl av).length ≤ maxL)
    (body : ∀ (p : Program) (e : Env) (s : State) (m : MethodId) (args : Array Value) (below : List Frame) (meth : Method) (c : Code) (Q : State → Prop) (ls : Array Slot), CallFix p m c cc maxL s args (.codeWith y cc maxL (some .int) hh :: gW) y.cls → c.exceptionTable.toList = tableOf hh → Xs Λ ad s →
      (∀ (H : Heap) (locs : List Loc) (pc : Nat) (ls : Array Slot) (w' : Wo) (x : Int32), Iv (Aa Λ ad) G kA kL Λ ad w' s H locs → some (w', x) = some (w1, r) → decode cc pc = .ok (.ireturn, 1) → W p l e rm s m args below meth c H locs 1 6 Q (F0 m pc ls [.int x])) →
      lv_has ls maxL (lv_args 0 av) → Iv (Aa Λ ad) G kA kL Λ ad w s s.heap [] → W p l e rm s m args below meth c s.heap [] 0 0 Q (F0 m 0 ls [])) : Ml l y cc maxL hh rm G kA kL Λ ad av w w1 r := by
  unfold Ml
  refine Met.ofWH (cc := cc) (maxL := maxL) (ret := some .int) (hh := hh) hy rfl ?_
  intro p e s m args below meth c s₁ B hml hv
  obtain ⟨rfl, ⟨hP, hJ, hK, hN⟩, hX⟩ := hv
  have hr := B.returns
  have hlocks := B.notSynchronized
  have hat := atoms_spec (ws := .codeWith y cc maxL (some .int) hh :: gW) B.pre
  rw [lg_entry_eq]
  refine body p e s m _ below meth c _ _ ⟨B.exec, B.bytes, hml, findClass_of_methodNamed B.named, hat⟩ (vx_table (x := y) B (hat _ List.mem_cons_self)) hX ?_ (lv_entry av hlen) ⟨hP, hJ, hK, hN, va_S.rf, fun c h => ⟨c, h, rfl⟩⟩
  intro H locs pc ls w' x hI hf hd
  cases hf
  exact W.iret B.exec B.bytes hr (fun t ht hW => ⟨⟨_, (), rfl, rfl, hI.toSt ht hW⟩, hI.2.2.2.2.1.F ht⟩) hI.2.2.2.2.1.2.2 hd
theorem Pk.X {y : MethodName} {bytes : ByteArray} {maxL n idx : Nat} {ret : Option FieldType} {rm : Room} (P : Pk y bytes maxL ret n) (S : CallFix p m c cc nL s args (a0 :: gW) own) (hl : Cond.methodLink own idx y ∈ gW) (hrm : rm.cells = 1 ∧ rm.slots = 6) (hR : rm.frames + 1 ≤ R.frames ∧ 8 + (maxL + 11) + rm.locals ≤ R.locals) : CallB R s args own idx y bytes maxL ret (.code y bytes maxL ret :: gW) rm 1 6 n :=
  callB_of n S.2.2.2.2 (gin P.1) rfl hrm.1 hrm.2 (cfw (Ts := []) S P.2.1) (cfw (Ts := []) S hl) P.2.2 hR
theorem rx_V {y : MethodName} {bytes : ByteArray} {maxL n idx k b : Nat} {ret : Option FieldType} {rm : Room} {C : String} {T : u_T} {N : Nat} {As : List Value} {Qc : Array Value → State → Outcome → State → Prop} {XC : String → State → State → Prop} (S : CallFix p m c cc nL s args (a0 :: gW) own) (hl : lv_has ls nL lv) (hI : Iv (Aa Λ ad) G kA kL Λ ad w s H locs) (hX : Xs Λ ad s) (hM : vx_Met l y (.code y bytes maxL ret :: gW) rm (va_Pc (.ref (ad b) :: As) (fun U => St G kA kL Λ ad w U ∧ Xs Λ ad U)) Qc XC 1 6 (Aa Λ ad)) (P : Pk y bytes maxL ret n) (hin : Cond.instanceMethod y ∈ gW) (hse : Cond.selects C y y ∈ gW) (hc : vCl[k]? = some (C, T, N)) (hC : isC Λ b k = true) (hk : Cond.methodLink own idx y ∈ gW) (hrm : rm.cells = 1 ∧ rm.slots = 6) (hR : rm.frames + 1 ≤ R.frames ∧ 8 + (maxL + 11) + rm.locals ≤ R.locals) (hn : As.length = n) (hst : stk = As.reverse ++ .ref (ad b) :: rest) (hW : (rest.map fun v => v.category).sum ≤ 8) (hcs : cells + 1 ≤ R.cells ∧ slots + 6 ≤ R.slots) (hd : decode cc pc = .ok (.invokevirtual idx, 3)) :
    vx_Run p l e R s m args below meth c H locs cells slots 1 6 (F0 m pc ls stk) rest (Qc (Value.ref (ad b) :: As).toArray) XC (Aa Λ ad) :=
  vx_runV S hM ⟨P.X S hk hrm hR, cfw (Ts := []) S hin, cfw (Ts := []) S hse⟩ ⟨StX.blind, hI.recv hc hC, fun U hU hW => ⟨rfl, hI.toSt hU hW, hX.next hI.2.2.2.2.1 hU hW⟩⟩ rfl hn hl.1 hst (lv_room hW) hd hcs
theorem rx_ci {a : Array Value} {q : Wo × Nat × Int32} (hr : vx_Run p l e R s m args below meth c H locs cells slots 1 6 (F0 m pc ls stk) rest (va_Qi (fun x (_ : Unit) => q.2.1 = 0 ∧ x = q.2.2) (fun _ => St G kA kL Λ ad q.1) (Aa Λ ad) a) (XQ G kA kL Λ ad q) (Aa Λ ad)) (hI : Iv (Aa Λ ad) G kA kL Λ ad w s H locs)
    (kx : ∀ (ce : Cell) (q9 : Addr) (H1 : Heap) (locs1 : List Loc), ¬ q.2.1 = 0 → Iv (Aa Λ ad) G kA kL Λ ad q.1 s H1 locs1 → H1[q9]? = some ce → ce.vm = .none → s.vm.findClass (xn q.2.1) = some ce.cls → vx_W p l e R s m args below meth c H1 locs1 (cells + 1) (slots + 6) Q (F0 m pc ls rest) q9)
    (kk : ∀ (H1 : Heap) (locs1 : List Loc), q.2.1 = 0 → Iv (Aa Λ ad) G kA kL Λ ad q.1 s H1 locs1 → W p l e R s m args below meth c H1 locs1 (cells + 1) (slots + 6) Q (F0 m (pc + 3) ls (.int q.2.2 :: rest))) : W p l e R s m args below meth c H locs cells slots Q (F0 m pc ls stk) :=
  vx_calli hr hI.2.2.2.2.1 (fun _ _ h => h) (fun _ h => h) (fun _ _ h => h) (fun E ce q9 u t H1 locs1 ht hvm hp hB hz hk hS hce hcv hcl => by
      obtain ⟨h0, rfl, hP⟩ := hB
      exact kx ce q9 H1 locs1 h0 ⟨by rw [← ht]; exact hP, hI.2.1, hI.2.2.1, hI.2.2.2.1, hS, hI.2.2.2.2.2⟩ hce hcv hcl)
    fun r u t H1 locs1 ht hvm hp hB hz hk hS => by
      obtain ⟨h0, rfl⟩ := hp
      exact kk H1 locs1 h0 ⟨by rw [← ht]; exact hB.1, hI.2.1, hI.2.2.1, hI.2.2.2.1, hS, hI.2.2.2.2.2⟩
theorem rx_cv {a : Array Value} {q : Wo × Nat × Int32} (hr : vx_Run p l e R s m args below meth c H locs cells slots 1 6 (F0 m pc ls stk) rest (va_Qv (fun (_ : Unit) => q.2.1 = 0) (fun _ => St G kA kL Λ ad q.1) (Aa Λ ad) a) (XQ G kA kL Λ ad q) (Aa Λ ad)) (hI : Iv (Aa Λ ad) G kA kL Λ ad w s H locs)
    (kx : ∀ (ce : Cell) (q9 : Addr) (H1 : Heap) (locs1 : List Loc), ¬ q.2.1 = 0 → Iv (Aa Λ ad) G kA kL Λ ad q.1 s H1 locs1 → H1[q9]? = some ce → ce.vm = .none → s.vm.findClass (xn q.2.1) = some ce.cls → vx_W p l e R s m args below meth c H1 locs1 (cells + 1) (slots + 6) Q (F0 m pc ls rest) q9)
    (kk : ∀ (H1 : Heap) (locs1 : List Loc), q.2.1 = 0 → Iv (Aa Λ ad) G kA kL Λ ad q.1 s H1 locs1 → W p l e R s m args below meth c H1 locs1 (cells + 1) (slots + 6) Q (F0 m (pc + 3) ls rest)) : W p l e R s m args below meth c H locs cells slots Q (F0 m pc ls stk) :=
  vx_callv hr hI.2.2.2.2.1 (fun _ _ h => h) (fun _ h => h) (fun _ _ h => h) (fun E ce q9 u t H1 locs1 ht hvm hp hB hz hk hS hce hcv hcl => by
      obtain ⟨h0, rfl, hP⟩ := hB
      exact kx ce q9 H1 locs1 h0 ⟨by rw [← ht]; exact hP, hI.2.1, hI.2.2.1, hI.2.2.2.1, hS, hI.2.2.2.2.2⟩ hce hcv hcl)
    fun u t H1 locs1 ht hvm hp hB hz hk hS =>
      kk H1 locs1 hp ⟨by rw [← ht]; exact hB.1, hI.2.1, hI.2.2.1, hI.2.2.2.1, hS, hI.2.2.2.2.2⟩
/-! the long array: one place, that holds an int -/
def isL (Λ : La) (b : Nat) : Bool := decide (b < Λ.1) && decide (ob b = none) && decide (ar b = none)
def sl (Λ : La) (w : Wo) (b : Nat) (x : Int32) : Option Wo := if isL Λ b = true then some (up2 w b 0 x) else none
def ll (Λ : La) (w : Wo) (b : Nat) : Option Int32 := if isL Λ b = true then some (w b 0) else none
theorem isL_some {b : Nat} (h : isL Λ b = true) : b < Λ.1 ∧ ce kA kL Λ ad w b = .inl (kL, 1, .inr (.inl fun i => (w b i).toInt64)) := by
  unfold isL at h
  simp only [Bool.and_eq_true, decide_eq_true_eq] at h
  refine ⟨h.1.1, ?_⟩
  unfold ce
  rw [h.1.2, h.2]
theorem r_lald (S : CallFix p m c cc nL s args (a0 :: gW) own) (hI : Iv A G kA kL Λ ad w s H locs) {b : Nat} {x : Int32} (hd : decode cc pc = .ok (.laload, 1)) (hg : ll Λ w b = some x)
    (kk : W p l e R s m args below meth c H locs cells slots Q (F0 m (pc + 1) ls (.long x.toInt64 :: rest))) : W p l e R s m args below meth c H locs cells slots Q (F0 m pc ls (.int 0 :: .ref (ad b) :: rest)) := by
  unfold ll at hg
  by_cases hL : isL Λ b = true
  · have hg := ip_ hg hL
    cases hg
    obtain ⟨h1, h2⟩ := isL_some (kA := kA) (kL := kL) (ad := ad) (w := w) hL
    refine va_lald S.1 S.2.1 hI.2.2.1 hI.1 b 1 (by rw [wl_at h1, h2]) rfl (i := 0) (by unfold vp_in; decide +kernel) hd ?_
    exact kk
  · exact absurd (in_ hg hL) (fun q => by cases q)
theorem r_last (S : CallFix p m c cc nL s args (a0 :: gW) own) (hI : Iv A G kA kL Λ ad w s H locs) {b : Nat} {x : Int32} (hd : decode cc pc = .ok (.lastore, 1)) (hg : sl Λ w b x = some w1)
    (kk : ∀ (H1 : Heap) (locs1 : List Loc), Iv A G kA kL Λ ad w1 s H1 locs1 → W p l e R s m args below meth c H1 locs1 cells slots Q (F0 m (pc + 1) ls rest)) : W p l e R s m args below meth c H locs cells slots Q (F0 m pc ls (.long x.toInt64 :: .int 0 :: .ref (ad b) :: rest)) := by
  unfold sl at hg
  by_cases hL : isL Λ b = true
  · have hg := ip_ hg hL
    cases hg
    obtain ⟨h1, h2⟩ := isL_some (kA := kA) (kL := kL) (ad := ad) (w := w) hL
    obtain ⟨-, h3⟩ := isL_some (kA := kA) (kL := kL) (ad := ad) (w := up2 w b 0 x) hL
    refine va_last S.1 S.2.1 hI.2.2.1 hI.1 (wl_D hI.2.1 hI.2.2.2.2.2) hI.2.2.2.2.1 b 1 (by rw [wl_at h1, h2]) rfl (i := 0) (by unfold vp_in; decide +kernel) hd fun H1 locs1 hP _ hS => kk H1 locs1 (hI.put h1 ?_ up2_ne hP hS)
    rw [h3]
    congr 5
    funext j
    show (up2 w b 0 x b j).toInt64 = if j = 0 then x.toInt64 else (w b j).toInt64
    unfold up2
    rw [if_pos rfl]
    by_cases hj : j = 0
    · rw [if_pos hj, if_pos hj]
    · rw [if_neg hj, if_neg hj]
  · exact absurd (in_ hg hL) (fun q => by cases q)
def cml (x y : Int32) : Int32 := lg_cmp x.toInt64 y.toInt64
theorem lc0 : Int64.ofNat 0 = (0 : Int32).toInt64 := by decide +kernel
theorem lc1 : Int64.ofNat 1 = (1 : Int32).toInt64 := by decide +kernel
end XR
end

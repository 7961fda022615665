section
-- ===== PART A: goes FIRST, ahead of the names: the tables' words, and 'selects' of the private methods out of them =====
/-- a private method of a class that the tables say can be made, by its rows of tables_1 -/
def lw_okq (q : MethodName × Nat) : Prop := (q.1.cls ≠ "java/lang/invoke/MethodHandle" ∧ q.1.cls ≠ "java/lang/invoke/VarHandle") ∧ Cond.instantiable q.1.cls q.2 ∈ tables_1 ∧ Cond.privateMethod q.1 ∈ tables_1 ∧ Cond.instanceMethod q.1 ∈ tables_1
theorem lw_p0 : lw_okq (⟨"java/lang/Throwable", "fillInStackTrace", "(I)Ljava/lang/Throwable;"⟩, 6) := ⟨⟨by decide +kernel, by decide +kernel⟩, List.mem_of_getElem? (i := 208) (by decide +kernel), List.mem_of_getElem? (i := 206) (by decide +kernel), List.mem_of_getElem? (i := 207) (by decide +kernel)⟩
theorem lw_p1 : lw_okq (⟨"GuardVolume", "goodCopy", "(I)I"⟩, 11) := ⟨⟨by decide +kernel, by decide +kernel⟩, List.mem_of_getElem? (i := 18) (by decide +kernel), List.mem_of_getElem? (i := 248) (by decide +kernel), List.mem_of_getElem? (i := 249) (by decide +kernel)⟩
theorem lw_p2 : lw_okq (⟨"GuardVolume", "judge", "(II)I"⟩, 11) := ⟨⟨by decide +kernel, by decide +kernel⟩, List.mem_of_getElem? (i := 18) (by decide +kernel), List.mem_of_getElem? (i := 252) (by decide +kernel), List.mem_of_getElem? (i := 253) (by decide +kernel)⟩
theorem lw_p3 : lw_okq (⟨"GuardVolume", "driveOf", "(I)LGuardVolume$Drive;"⟩, 11) := ⟨⟨by decide +kernel, by decide +kernel⟩, List.mem_of_getElem? (i := 18) (by decide +kernel), List.mem_of_getElem? (i := 256) (by decide +kernel), List.mem_of_getElem? (i := 257) (by decide +kernel)⟩
theorem lw_p4 : lw_okq (⟨"GuardVolume$Drive", "at", "(II)I"⟩, 6) := ⟨⟨by decide +kernel, by decide +kernel⟩, List.mem_of_getElem? (i := 26) (by decide +kernel), List.mem_of_getElem? (i := 260) (by decide +kernel), List.mem_of_getElem? (i := 261) (by decide +kernel)⟩
theorem lw_p5 : lw_okq (⟨"GuardVolume", "expectedVersion", "(II)I"⟩, 11) := ⟨⟨by decide +kernel, by decide +kernel⟩, List.mem_of_getElem? (i := 18) (by decide +kernel), List.mem_of_getElem? (i := 265) (by decide +kernel), List.mem_of_getElem? (i := 266) (by decide +kernel)⟩
theorem lw_p6 : lw_okq (⟨"GuardVolume", "listDrive", "(II)I"⟩, 11) := ⟨⟨by decide +kernel, by decide +kernel⟩, List.mem_of_getElem? (i := 18) (by decide +kernel), List.mem_of_getElem? (i := 269) (by decide +kernel), List.mem_of_getElem? (i := 270) (by decide +kernel)⟩
theorem lw_p7 : lw_okq (⟨"GuardVolume", "isPageRight", "(II)Z"⟩, 11) := ⟨⟨by decide +kernel, by decide +kernel⟩, List.mem_of_getElem? (i := 18) (by decide +kernel), List.mem_of_getElem? (i := 273) (by decide +kernel), List.mem_of_getElem? (i := 274) (by decide +kernel)⟩
theorem lw_p8 : lw_okq (⟨"GuardVolume$Drive", "giveWords", "(I[I)V"⟩, 6) := ⟨⟨by decide +kernel, by decide +kernel⟩, List.mem_of_getElem? (i := 26) (by decide +kernel), List.mem_of_getElem? (i := 295) (by decide +kernel), List.mem_of_getElem? (i := 296) (by decide +kernel)⟩
theorem lw_p9 : lw_okq (⟨"GuardVolume", "putNotedBlock", "()Z"⟩, 11) := ⟨⟨by decide +kernel, by decide +kernel⟩, List.mem_of_getElem? (i := 18) (by decide +kernel), List.mem_of_getElem? (i := 299) (by decide +kernel), List.mem_of_getElem? (i := 300) (by decide +kernel)⟩
theorem lw_p10 : lw_okq (⟨"GuardVolume", "putCopy", "(II[II)Z"⟩, 11) := ⟨⟨by decide +kernel, by decide +kernel⟩, List.mem_of_getElem? (i := 18) (by decide +kernel), List.mem_of_getElem? (i := 303) (by decide +kernel), List.mem_of_getElem? (i := 304) (by decide +kernel)⟩
theorem lw_p11 : lw_okq (⟨"GuardVolume", "store", "(II[II)Z"⟩, 11) := ⟨⟨by decide +kernel, by decide +kernel⟩, List.mem_of_getElem? (i := 18) (by decide +kernel), List.mem_of_getElem? (i := 307) (by decide +kernel), List.mem_of_getElem? (i := 308) (by decide +kernel)⟩
theorem lw_p12 : lw_okq (⟨"GuardVolume$Power", "allowsWrite", "()Z"⟩, 2) := ⟨⟨by decide +kernel, by decide +kernel⟩, List.mem_of_getElem? (i := 61) (by decide +kernel), List.mem_of_getElem? (i := 311) (by decide +kernel), List.mem_of_getElem? (i := 312) (by decide +kernel)⟩
theorem lw_p13 : lw_okq (⟨"GuardVolume$Drive", "take", "(I[I)V"⟩, 6) := ⟨⟨by decide +kernel, by decide +kernel⟩, List.mem_of_getElem? (i := 26) (by decide +kernel), List.mem_of_getElem? (i := 316) (by decide +kernel), List.mem_of_getElem? (i := 317) (by decide +kernel)⟩
theorem lw_p14 : lw_okq (⟨"GuardVolume$Drive", "planOfNext", "(I)I"⟩, 6) := ⟨⟨by decide +kernel, by decide +kernel⟩, List.mem_of_getElem? (i := 26) (by decide +kernel), List.mem_of_getElem? (i := 320) (by decide +kernel), List.mem_of_getElem? (i := 321) (by decide +kernel)⟩
theorem lw_p15 : lw_okq (⟨"GuardVolume$Drive", "keep", "(I[II)V"⟩, 6) := ⟨⟨by decide +kernel, by decide +kernel⟩, List.mem_of_getElem? (i := 26) (by decide +kernel), List.mem_of_getElem? (i := 324) (by decide +kernel), List.mem_of_getElem? (i := 325) (by decide +kernel)⟩
def lw_privs_1 : List (MethodName × Nat) := [(⟨"java/lang/Throwable", "fillInStackTrace", "(I)Ljava/lang/Throwable;"⟩, 6), (⟨"GuardVolume", "goodCopy", "(I)I"⟩, 11), (⟨"GuardVolume", "judge", "(II)I"⟩, 11), (⟨"GuardVolume", "driveOf", "(I)LGuardVolume$Drive;"⟩, 11), (⟨"GuardVolume$Drive", "at", "(II)I"⟩, 6), (⟨"GuardVolume", "expectedVersion", "(II)I"⟩, 11), (⟨"GuardVolume", "listDrive", "(II)I"⟩, 11), (⟨"GuardVolume", "isPageRight", "(II)Z"⟩, 11), (⟨"GuardVolume$Drive", "giveWords", "(I[I)V"⟩, 6), (⟨"GuardVolume", "putNotedBlock", "()Z"⟩, 11), (⟨"GuardVolume", "putCopy", "(II[II)Z"⟩, 11), (⟨"GuardVolume", "store", "(II[II)Z"⟩, 11), (⟨"GuardVolume$Power", "allowsWrite", "()Z"⟩, 2), (⟨"GuardVolume$Drive", "take", "(I[I)V"⟩, 6), (⟨"GuardVolume$Drive", "planOfNext", "(I)I"⟩, 6), (⟨"GuardVolume$Drive", "keep", "(I[II)V"⟩, 6)]
theorem lw_r1 : ∀ q ∈ lw_privs_1, lw_okq q := List.forall_mem_cons.mpr ⟨lw_p0, List.forall_mem_cons.mpr ⟨lw_p1, List.forall_mem_cons.mpr ⟨lw_p2, List.forall_mem_cons.mpr ⟨lw_p3, List.forall_mem_cons.mpr ⟨lw_p4, List.forall_mem_cons.mpr ⟨lw_p5, List.forall_mem_cons.mpr ⟨lw_p6, List.forall_mem_cons.mpr ⟨lw_p7, List.forall_mem_cons.mpr ⟨lw_p8, List.forall_mem_cons.mpr ⟨lw_p9, List.forall_mem_cons.mpr ⟨lw_p10, List.forall_mem_cons.mpr ⟨lw_p11, List.forall_mem_cons.mpr ⟨lw_p12, List.forall_mem_cons.mpr ⟨lw_p13, List.forall_mem_cons.mpr ⟨lw_p14, List.forall_mem_cons.mpr ⟨lw_p15, fun _ h => absurd h List.not_mem_nil⟩⟩⟩⟩⟩⟩⟩⟩⟩⟩⟩⟩⟩⟩⟩⟩
theorem lw_p16 : lw_okq (⟨"GuardVolume$Drive", "removePlan", "(I)V"⟩, 6) := ⟨⟨by decide +kernel, by decide +kernel⟩, List.mem_of_getElem? (i := 26) (by decide +kernel), List.mem_of_getElem? (i := 328) (by decide +kernel), List.mem_of_getElem? (i := 329) (by decide +kernel)⟩
theorem lw_p17 : lw_okq (⟨"GuardVolume", "storeList", "(III)Z"⟩, 11) := ⟨⟨by decide +kernel, by decide +kernel⟩, List.mem_of_getElem? (i := 18) (by decide +kernel), List.mem_of_getElem? (i := 332) (by decide +kernel), List.mem_of_getElem? (i := 333) (by decide +kernel)⟩
theorem lw_p18 : lw_okq (⟨"GuardVolume$Drive", "addPlan", "(III)V"⟩, 6) := ⟨⟨by decide +kernel, by decide +kernel⟩, List.mem_of_getElem? (i := 26) (by decide +kernel), List.mem_of_getElem? (i := 373) (by decide +kernel), List.mem_of_getElem? (i := 374) (by decide +kernel)⟩
theorem lw_p19 : lw_okq (⟨"GuardVolume", "scrubBlock", "(I)Z"⟩, 11) := ⟨⟨by decide +kernel, by decide +kernel⟩, List.mem_of_getElem? (i := 18) (by decide +kernel), List.mem_of_getElem? (i := 398) (by decide +kernel), List.mem_of_getElem? (i := 399) (by decide +kernel)⟩
theorem lw_p20 : lw_okq (⟨"GuardVolume", "mendList", "(II)Z"⟩, 11) := ⟨⟨by decide +kernel, by decide +kernel⟩, List.mem_of_getElem? (i := 18) (by decide +kernel), List.mem_of_getElem? (i := 402) (by decide +kernel), List.mem_of_getElem? (i := 403) (by decide +kernel)⟩
theorem lw_p21 : lw_okq (⟨"GuardVolume$Findings", "tell", "(IIII)V"⟩, 3) := ⟨⟨by decide +kernel, by decide +kernel⟩, List.mem_of_getElem? (i := 95) (by decide +kernel), List.mem_of_getElem? (i := 406) (by decide +kernel), List.mem_of_getElem? (i := 407) (by decide +kernel)⟩
theorem lw_p22 : lw_okq (⟨"GuardVolume", "mendCopies", "(I)Z"⟩, 11) := ⟨⟨by decide +kernel, by decide +kernel⟩, List.mem_of_getElem? (i := 18) (by decide +kernel), List.mem_of_getElem? (i := 410) (by decide +kernel), List.mem_of_getElem? (i := 411) (by decide +kernel)⟩
theorem lw_p23 : lw_okq (⟨"GuardVolume$Drive", "wipe", "()V"⟩, 6) := ⟨⟨by decide +kernel, by decide +kernel⟩, List.mem_of_getElem? (i := 26) (by decide +kernel), List.mem_of_getElem? (i := 456) (by decide +kernel), List.mem_of_getElem? (i := 457) (by decide +kernel)⟩
theorem lw_p24 : lw_okq (⟨"GuardVolume", "rebuildBlock", "(III)Z"⟩, 11) := ⟨⟨by decide +kernel, by decide +kernel⟩, List.mem_of_getElem? (i := 18) (by decide +kernel), List.mem_of_getElem? (i := 468) (by decide +kernel), List.mem_of_getElem? (i := 469) (by decide +kernel)⟩
theorem lw_p25 : lw_okq (⟨"GuardVolume", "greatestPageVersion", "()I"⟩, 11) := ⟨⟨by decide +kernel, by decide +kernel⟩, List.mem_of_getElem? (i := 18) (by decide +kernel), List.mem_of_getElem? (i := 479) (by decide +kernel), List.mem_of_getElem? (i := 480) (by decide +kernel)⟩
theorem lw_p26 : lw_okq (⟨"GuardVolumeModel", "sumAt", "(I)I"⟩, 20) := ⟨⟨by decide +kernel, by decide +kernel⟩, List.mem_of_getElem? (i := 486) (by decide +kernel), List.mem_of_getElem? (i := 495) (by decide +kernel), List.mem_of_getElem? (i := 496) (by decide +kernel)⟩
theorem lw_p27 : lw_okq (⟨"GuardVolumeModel", "codeOf", "(I)I"⟩, 20) := ⟨⟨by decide +kernel, by decide +kernel⟩, List.mem_of_getElem? (i := 486) (by decide +kernel), List.mem_of_getElem? (i := 574) (by decide +kernel), List.mem_of_getElem? (i := 575) (by decide +kernel)⟩
theorem lw_p28 : lw_okq (⟨"GuardVolumeModel", "verdictOf", "(II)I"⟩, 20) := ⟨⟨by decide +kernel, by decide +kernel⟩, List.mem_of_getElem? (i := 486) (by decide +kernel), List.mem_of_getElem? (i := 578) (by decide +kernel), List.mem_of_getElem? (i := 579) (by decide +kernel)⟩
theorem lw_p29 : lw_okq (⟨"GuardVolumeModel", "isWhole", "(II)Z"⟩, 20) := ⟨⟨by decide +kernel, by decide +kernel⟩, List.mem_of_getElem? (i := 486) (by decide +kernel), List.mem_of_getElem? (i := 582) (by decide +kernel), List.mem_of_getElem? (i := 583) (by decide +kernel)⟩
theorem lw_p30 : lw_okq (⟨"GuardVolumeModel", "isUnknown", "(II)Z"⟩, 20) := ⟨⟨by decide +kernel, by decide +kernel⟩, List.mem_of_getElem? (i := 486) (by decide +kernel), List.mem_of_getElem? (i := 586) (by decide +kernel), List.mem_of_getElem? (i := 587) (by decide +kernel)⟩
theorem lw_p31 : lw_okq (⟨"GuardVolumeModel", "isRightPage", "(II)Z"⟩, 20) := ⟨⟨by decide +kernel, by decide +kernel⟩, List.mem_of_getElem? (i := 486) (by decide +kernel), List.mem_of_getElem? (i := 590) (by decide +kernel), List.mem_of_getElem? (i := 591) (by decide +kernel)⟩
def lw_privs_2 : List (MethodName × Nat) := [(⟨"GuardVolume$Drive", "removePlan", "(I)V"⟩, 6), (⟨"GuardVolume", "storeList", "(III)Z"⟩, 11), (⟨"GuardVolume$Drive", "addPlan", "(III)V"⟩, 6), (⟨"GuardVolume", "scrubBlock", "(I)Z"⟩, 11), (⟨"GuardVolume", "mendList", "(II)Z"⟩, 11), (⟨"GuardVolume$Findings", "tell", "(IIII)V"⟩, 3), (⟨"GuardVolume", "mendCopies", "(I)Z"⟩, 11), (⟨"GuardVolume$Drive", "wipe", "()V"⟩, 6), (⟨"GuardVolume", "rebuildBlock", "(III)Z"⟩, 11), (⟨"GuardVolume", "greatestPageVersion", "()I"⟩, 11), (⟨"GuardVolumeModel", "sumAt", "(I)I"⟩, 20), (⟨"GuardVolumeModel", "codeOf", "(I)I"⟩, 20), (⟨"GuardVolumeModel", "verdictOf", "(II)I"⟩, 20), (⟨"GuardVolumeModel", "isWhole", "(II)Z"⟩, 20), (⟨"GuardVolumeModel", "isUnknown", "(II)Z"⟩, 20), (⟨"GuardVolumeModel", "isRightPage", "(II)Z"⟩, 20)]
theorem lw_r2 : ∀ q ∈ lw_privs_2, lw_okq q := List.forall_mem_cons.mpr ⟨lw_p16, List.forall_mem_cons.mpr ⟨lw_p17, List.forall_mem_cons.mpr ⟨lw_p18, List.forall_mem_cons.mpr ⟨lw_p19, List.forall_mem_cons.mpr ⟨lw_p20, List.forall_mem_cons.mpr ⟨lw_p21, List.forall_mem_cons.mpr ⟨lw_p22, List.forall_mem_cons.mpr ⟨lw_p23, List.forall_mem_cons.mpr ⟨lw_p24, List.forall_mem_cons.mpr ⟨lw_p25, List.forall_mem_cons.mpr ⟨lw_p26, List.forall_mem_cons.mpr ⟨lw_p27, List.forall_mem_cons.mpr ⟨lw_p28, List.forall_mem_cons.mpr ⟨lw_p29, List.forall_mem_cons.mpr ⟨lw_p30, List.forall_mem_cons.mpr ⟨lw_p31, fun _ h => absurd h List.not_mem_nil⟩⟩⟩⟩⟩⟩⟩⟩⟩⟩⟩⟩⟩⟩⟩⟩
theorem lw_p32 : lw_okq (⟨"GuardVolumeModel", "expectedOf", "(II)I"⟩, 20) := ⟨⟨by decide +kernel, by decide +kernel⟩, List.mem_of_getElem? (i := 486) (by decide +kernel), List.mem_of_getElem? (i := 594) (by decide +kernel), List.mem_of_getElem? (i := 595) (by decide +kernel)⟩
theorem lw_p33 : lw_okq (⟨"GuardVolumeModel", "listed", "(II)I"⟩, 20) := ⟨⟨by decide +kernel, by decide +kernel⟩, List.mem_of_getElem? (i := 486) (by decide +kernel), List.mem_of_getElem? (i := 598) (by decide +kernel), List.mem_of_getElem? (i := 599) (by decide +kernel)⟩
theorem lw_p34 : lw_okq (⟨"GuardVolumeModel", "takeWords", "(II)V"⟩, 20) := ⟨⟨by decide +kernel, by decide +kernel⟩, List.mem_of_getElem? (i := 486) (by decide +kernel), List.mem_of_getElem? (i := 602) (by decide +kernel), List.mem_of_getElem? (i := 603) (by decide +kernel)⟩
theorem lw_p35 : lw_okq (⟨"GuardVolumeModel", "put", "(II)Z"⟩, 20) := ⟨⟨by decide +kernel, by decide +kernel⟩, List.mem_of_getElem? (i := 486) (by decide +kernel), List.mem_of_getElem? (i := 606) (by decide +kernel), List.mem_of_getElem? (i := 607) (by decide +kernel)⟩
theorem lw_p36 : lw_okq (⟨"GuardVolumeModel", "putCopy", "(III)Z"⟩, 20) := ⟨⟨by decide +kernel, by decide +kernel⟩, List.mem_of_getElem? (i := 486) (by decide +kernel), List.mem_of_getElem? (i := 610) (by decide +kernel), List.mem_of_getElem? (i := 611) (by decide +kernel)⟩
theorem lw_p37 : lw_okq (⟨"GuardVolumeModel", "storeRow", "(III)Z"⟩, 20) := ⟨⟨by decide +kernel, by decide +kernel⟩, List.mem_of_getElem? (i := 486) (by decide +kernel), List.mem_of_getElem? (i := 614) (by decide +kernel), List.mem_of_getElem? (i := 615) (by decide +kernel)⟩
theorem lw_p38 : lw_okq (⟨"GuardVolumeModel", "store", "(III)Z"⟩, 20) := ⟨⟨by decide +kernel, by decide +kernel⟩, List.mem_of_getElem? (i := 486) (by decide +kernel), List.mem_of_getElem? (i := 618) (by decide +kernel), List.mem_of_getElem? (i := 619) (by decide +kernel)⟩
theorem lw_p39 : lw_okq (⟨"GuardVolumeModel", "planOf", "(I)I"⟩, 20) := ⟨⟨by decide +kernel, by decide +kernel⟩, List.mem_of_getElem? (i := 486) (by decide +kernel), List.mem_of_getElem? (i := 622) (by decide +kernel), List.mem_of_getElem? (i := 623) (by decide +kernel)⟩
theorem lw_p40 : lw_okq (⟨"GuardVolumeModel", "lay", "(III)V"⟩, 20) := ⟨⟨by decide +kernel, by decide +kernel⟩, List.mem_of_getElem? (i := 486) (by decide +kernel), List.mem_of_getElem? (i := 626) (by decide +kernel), List.mem_of_getElem? (i := 627) (by decide +kernel)⟩
theorem lw_p41 : lw_okq (⟨"GuardVolumeModel", "dropPlan", "(II)V"⟩, 20) := ⟨⟨by decide +kernel, by decide +kernel⟩, List.mem_of_getElem? (i := 486) (by decide +kernel), List.mem_of_getElem? (i := 630) (by decide +kernel), List.mem_of_getElem? (i := 631) (by decide +kernel)⟩
theorem lw_p42 : lw_okq (⟨"GuardVolumeModel", "storeList", "(III)Z"⟩, 20) := ⟨⟨by decide +kernel, by decide +kernel⟩, List.mem_of_getElem? (i := 486) (by decide +kernel), List.mem_of_getElem? (i := 634) (by decide +kernel), List.mem_of_getElem? (i := 635) (by decide +kernel)⟩
theorem lw_p43 : lw_okq (⟨"GuardVolumeModel", "scrubOf", "(I)Z"⟩, 20) := ⟨⟨by decide +kernel, by decide +kernel⟩, List.mem_of_getElem? (i := 486) (by decide +kernel), List.mem_of_getElem? (i := 662) (by decide +kernel), List.mem_of_getElem? (i := 663) (by decide +kernel)⟩
theorem lw_p44 : lw_okq (⟨"GuardVolumeModel", "find", "(IIII)V"⟩, 20) := ⟨⟨by decide +kernel, by decide +kernel⟩, List.mem_of_getElem? (i := 486) (by decide +kernel), List.mem_of_getElem? (i := 666) (by decide +kernel), List.mem_of_getElem? (i := 667) (by decide +kernel)⟩
def lw_privs_3 : List (MethodName × Nat) := [(⟨"GuardVolumeModel", "expectedOf", "(II)I"⟩, 20), (⟨"GuardVolumeModel", "listed", "(II)I"⟩, 20), (⟨"GuardVolumeModel", "takeWords", "(II)V"⟩, 20), (⟨"GuardVolumeModel", "put", "(II)Z"⟩, 20), (⟨"GuardVolumeModel", "putCopy", "(III)Z"⟩, 20), (⟨"GuardVolumeModel", "storeRow", "(III)Z"⟩, 20), (⟨"GuardVolumeModel", "store", "(III)Z"⟩, 20), (⟨"GuardVolumeModel", "planOf", "(I)I"⟩, 20), (⟨"GuardVolumeModel", "lay", "(III)V"⟩, 20), (⟨"GuardVolumeModel", "dropPlan", "(II)V"⟩, 20), (⟨"GuardVolumeModel", "storeList", "(III)Z"⟩, 20), (⟨"GuardVolumeModel", "scrubOf", "(I)Z"⟩, 20), (⟨"GuardVolumeModel", "find", "(IIII)V"⟩, 20)]
theorem lw_r3 : ∀ q ∈ lw_privs_3, lw_okq q := List.forall_mem_cons.mpr ⟨lw_p32, List.forall_mem_cons.mpr ⟨lw_p33, List.forall_mem_cons.mpr ⟨lw_p34, List.forall_mem_cons.mpr ⟨lw_p35, List.forall_mem_cons.mpr ⟨lw_p36, List.forall_mem_cons.mpr ⟨lw_p37, List.forall_mem_cons.mpr ⟨lw_p38, List.forall_mem_cons.mpr ⟨lw_p39, List.forall_mem_cons.mpr ⟨lw_p40, List.forall_mem_cons.mpr ⟨lw_p41, List.forall_mem_cons.mpr ⟨lw_p42, List.forall_mem_cons.mpr ⟨lw_p43, List.forall_mem_cons.mpr ⟨lw_p44, fun _ h => absurd h List.not_mem_nil⟩⟩⟩⟩⟩⟩⟩⟩⟩⟩⟩⟩⟩
def lw_privs : List (MethodName × Nat) := lw_privs_1 ++ (lw_privs_2 ++ (lw_privs_3))
def lw_tbl : List Cond := k2_sels lw_privs ++ tables_1
theorem lw_privs_ok : ∀ q ∈ lw_privs, lw_okq q := by
  show ∀ q ∈ lw_privs_1 ++ (lw_privs_2 ++ (lw_privs_3)), lw_okq q
  exact List.forall_mem_append.mpr ⟨lw_r1, List.forall_mem_append.mpr ⟨lw_r2, lw_r3⟩⟩
end
section
/-! names of the claim: classes, fields, methods (written by names.py) -/
abbrev RD : String := "GuardVolume$Drive"
def TD : u_T := fun k => match k with
  | 0 => ("GuardVolume$Drive", "numbers", "[I", true)
  | 1 => ("GuardVolume$Drive", "planWrite", "[I", true)
  | 2 => ("GuardVolume$Drive", "planKind", "[I", true)
  | 3 => ("GuardVolume$Drive", "planX", "[I", true)
  | 4 => ("GuardVolume$Drive", "plans", "I", false)
  | _ => ("GuardVolume$Drive", "writes", "I", false)
def tD : Nat → FieldType := fun k => match k with
  | 0 => .array .int
  | 1 => .array .int
  | 2 => .array .int
  | 3 => .array .int
  | 4 => .int
  | _ => .int
theorem nD : ∀ a, a < 6 → ∀ b, b < 6 → a ≠ b → (TD a).2.1 ≠ (TD b).2.1 := by decide +kernel
theorem tD_ok : ∀ k, k < 6 → parseFieldDescriptor (TD k).2.2.1 = some (tD k) := by decide +kernel
abbrev RF : String := "GuardVolume$Findings"
def TF : u_T := fun k => match k with
  | 0 => ("GuardVolume$Findings", "numbers", "[I", true)
  | 1 => ("GuardVolume$Findings", "kept", "I", false)
  | _ => ("GuardVolume$Findings", "told", "I", false)
def tF : Nat → FieldType := fun k => match k with
  | 0 => .array .int
  | 1 => .int
  | _ => .int
theorem nF : ∀ a, a < 3 → ∀ b, b < 3 → a ≠ b → (TF a).2.1 ≠ (TF b).2.1 := by decide +kernel
theorem tF_ok : ∀ k, k < 3 → parseFieldDescriptor (TF k).2.2.1 = some (tF k) := by decide +kernel
abbrev RJ : String := "GuardVolume$Journal"
def TJ : u_T := fun k => match k with
  | 0 => ("GuardVolume$Journal", "words", "[I", true)
  | 1 => ("GuardVolume$Journal", "block", "I", false)
  | _ => ("GuardVolume$Journal", "version", "I", false)
def tJ : Nat → FieldType := fun k => match k with
  | 0 => .array .int
  | 1 => .int
  | _ => .int
theorem nJ : ∀ a, a < 3 → ∀ b, b < 3 → a ≠ b → (TJ a).2.1 ≠ (TJ b).2.1 := by decide +kernel
theorem tJ_ok : ∀ k, k < 3 → parseFieldDescriptor (TJ k).2.2.1 = some (tJ k) := by decide +kernel
abbrev RP : String := "GuardVolume$Power"
def TP : u_T := fun k => match k with
  | 0 => ("GuardVolume$Power", "on", "Z", false)
  | _ => ("GuardVolume$Power", "writesLeft", "I", false)
def tP : Nat → FieldType := fun k => match k with
  | 0 => .boolean
  | _ => .int
theorem nP : ∀ a, a < 2 → ∀ b, b < 2 → a ≠ b → (TP a).2.1 ≠ (TP b).2.1 := by decide +kernel
theorem tP_ok : ∀ k, k < 2 → parseFieldDescriptor (TP k).2.2.1 = some (tP k) := by decide +kernel
abbrev RG : String := "GuardVolume"
def TG : u_T := fun k => match k with
  | 0 => ("GuardVolume", "drive0", "LGuardVolume$Drive;", true)
  | 1 => ("GuardVolume", "drive1", "LGuardVolume$Drive;", true)
  | 2 => ("GuardVolume", "power", "LGuardVolume$Power;", true)
  | 3 => ("GuardVolume", "journal", "LGuardVolume$Journal;", true)
  | 4 => ("GuardVolume", "found", "LGuardVolume$Findings;", true)
  | 5 => ("GuardVolume", "memory", "[I", true)
  | 6 => ("GuardVolume", "lastCode", "I", false)
  | 7 => ("GuardVolume", "nextScrubbed", "I", false)
  | 8 => ("GuardVolume", "row", "[I", true)
  | 9 => ("GuardVolume", "listWords", "[I", true)
  | _ => ("GuardVolume", "copyWords", "[I", true)
def tG : Nat → FieldType := fun k => match k with
  | 0 => .object "GuardVolume$Drive"
  | 1 => .object "GuardVolume$Drive"
  | 2 => .object "GuardVolume$Power"
  | 3 => .object "GuardVolume$Journal"
  | 4 => .object "GuardVolume$Findings"
  | 5 => .array .int
  | 6 => .int
  | 7 => .int
  | 8 => .array .int
  | 9 => .array .int
  | _ => .array .int
theorem nG : ∀ a, a < 11 → ∀ b, b < 11 → a ≠ b → (TG a).2.1 ≠ (TG b).2.1 := by decide +kernel
theorem tG_ok : ∀ k, k < 11 → parseFieldDescriptor (TG k).2.2.1 = some (tG k) := by decide +kernel
abbrev RM : String := "GuardVolumeModel"
def TM : u_T := fun k => match k with
  | 0 => ("GuardVolumeModel", "thrown", "I", false)
  | 1 => ("GuardVolumeModel", "drives", "[I", true)
  | 2 => ("GuardVolumeModel", "memory", "[I", true)
  | 3 => ("GuardVolumeModel", "journal", "I", false)
  | 4 => ("GuardVolumeModel", "journalWords", "[I", true)
  | 5 => ("GuardVolumeModel", "journalVersion", "I", false)
  | 6 => ("GuardVolumeModel", "off", "Z", false)
  | 7 => ("GuardVolumeModel", "left", "I", false)
  | 8 => ("GuardVolumeModel", "writes", "[I", true)
  | 9 => ("GuardVolumeModel", "plans", "[I", true)
  | 10 => ("GuardVolumeModel", "planAt", "[I", true)
  | 11 => ("GuardVolumeModel", "planKind", "[I", true)
  | 12 => ("GuardVolumeModel", "planX", "[I", true)
  | 13 => ("GuardVolumeModel", "code", "I", false)
  | 14 => ("GuardVolumeModel", "nextScrub", "I", false)
  | 15 => ("GuardVolumeModel", "kept", "I", false)
  | 16 => ("GuardVolumeModel", "found", "I", false)
  | 17 => ("GuardVolumeModel", "findings", "[I", true)
  | 18 => ("GuardVolumeModel", "row", "[I", true)
  | _ => ("GuardVolumeModel", "words", "[I", true)
def tM : Nat → FieldType := fun k => match k with
  | 0 => .int
  | 1 => .array .int
  | 2 => .array .int
  | 3 => .int
  | 4 => .array .int
  | 5 => .int
  | 6 => .boolean
  | 7 => .int
  | 8 => .array .int
  | 9 => .array .int
  | 10 => .array .int
  | 11 => .array .int
  | 12 => .array .int
  | 13 => .int
  | 14 => .int
  | 15 => .int
  | 16 => .int
  | 17 => .array .int
  | 18 => .array .int
  | _ => .array .int
theorem nM : ∀ a, a < 20 → ∀ b, b < 20 → a ≠ b → (TM a).2.1 ≠ (TM b).2.1 := by decide +kernel
theorem tM_ok : ∀ k, k < 20 → parseFieldDescriptor (TM k).2.2.1 = some (tM k) := by decide +kernel
abbrev RL : String := "GuardVolumeLaw"
abbrev vCl : List vw_C := [(RD, TD, 6), (RF, TF, 3), (RJ, TJ, 3), (RP, TP, 2), (RG, TG, 11), (RM, TM, 20)]
abbrev cG_init : ByteArray := prog_1_method_1_code
def yG_init : MethodName := ⟨"GuardVolume", "<init>", "()V"⟩
abbrev cD_init : ByteArray := prog_2_method_1_code
def yD_init : MethodName := ⟨"GuardVolume$Drive", "<init>", "()V"⟩
abbrev cG_sumOf : ByteArray := prog_1_method_20_code
def yG_sumOf : MethodName := ⟨"GuardVolume", "sumOf", "([II)I"⟩
abbrev cP_init : ByteArray := prog_5_method_1_code
def yP_init : MethodName := ⟨"GuardVolume$Power", "<init>", "()V"⟩
abbrev cJ_init : ByteArray := prog_4_method_1_code
def yJ_init : MethodName := ⟨"GuardVolume$Journal", "<init>", "()V"⟩
abbrev cF_init : ByteArray := prog_3_method_1_code
def yF_init : MethodName := ⟨"GuardVolume$Findings", "<init>", "()V"⟩
abbrev cG_code : ByteArray := prog_1_method_4_code
def yG_code : MethodName := ⟨"GuardVolume", "code", "()I"⟩
abbrev cG_findings : ByteArray := prog_1_method_9_code
def yG_findings : MethodName := ⟨"GuardVolume", "findings", "(Z)I"⟩
abbrev cL_write : ByteArray := method_3_code
def yL_write : MethodName := ⟨"GuardVolumeLaw", "write", "(LGuardVolume;III[J)I"⟩
abbrev cG_write : ByteArray := prog_1_method_2_code
def yG_write : MethodName := ⟨"GuardVolume", "write", "(III)I"⟩
abbrev cG_isBelow : ByteArray := prog_1_method_18_code
def yG_isBelow : MethodName := ⟨"GuardVolume", "isBelow", "(II)Z"⟩
abbrev cG_goodCopy : ByteArray := prog_1_method_26_code
def yG_goodCopy : MethodName := ⟨"GuardVolume", "goodCopy", "(I)I"⟩
abbrev cG_judge : ByteArray := prog_1_method_25_code
def yG_judge : MethodName := ⟨"GuardVolume", "judge", "(II)I"⟩
abbrev cG_driveOf : ByteArray := prog_1_method_21_code
def yG_driveOf : MethodName := ⟨"GuardVolume", "driveOf", "(I)LGuardVolume$Drive;"⟩
abbrev cD_at : ByteArray := prog_2_method_2_code
def yD_at : MethodName := ⟨"GuardVolume$Drive", "at", "(II)I"⟩
abbrev cG_expectedVersion : ByteArray := prog_1_method_24_code
def yG_expectedVersion : MethodName := ⟨"GuardVolume", "expectedVersion", "(II)I"⟩
abbrev cG_listDrive : ByteArray := prog_1_method_23_code
def yG_listDrive : MethodName := ⟨"GuardVolume", "listDrive", "(II)I"⟩
abbrev cG_isPageRight : ByteArray := prog_1_method_22_code
def yG_isPageRight : MethodName := ⟨"GuardVolume", "isPageRight", "(II)Z"⟩
abbrev cG_codeOf : ByteArray := prog_1_method_27_code
def yG_codeOf : MethodName := ⟨"GuardVolume", "codeOf", "(I)I"⟩
abbrev cD_giveWords : ByteArray := prog_2_method_3_code
def yD_giveWords : MethodName := ⟨"GuardVolume$Drive", "giveWords", "(I[I)V"⟩
abbrev cG_putNotedBlock : ByteArray := prog_1_method_31_code
def yG_putNotedBlock : MethodName := ⟨"GuardVolume", "putNotedBlock", "()Z"⟩
abbrev cG_putCopy : ByteArray := prog_1_method_30_code
def yG_putCopy : MethodName := ⟨"GuardVolume", "putCopy", "(II[II)Z"⟩
abbrev cG_store : ByteArray := prog_1_method_28_code
def yG_store : MethodName := ⟨"GuardVolume", "store", "(II[II)Z"⟩
abbrev cP_allowsWrite : ByteArray := prog_5_method_2_code
def yP_allowsWrite : MethodName := ⟨"GuardVolume$Power", "allowsWrite", "()Z"⟩
abbrev cD_take : ByteArray := prog_2_method_8_code
def yD_take : MethodName := ⟨"GuardVolume$Drive", "take", "(I[I)V"⟩
abbrev cD_planOfNext : ByteArray := prog_2_method_5_code
def yD_planOfNext : MethodName := ⟨"GuardVolume$Drive", "planOfNext", "(I)I"⟩
abbrev cD_keep : ByteArray := prog_2_method_9_code
def yD_keep : MethodName := ⟨"GuardVolume$Drive", "keep", "(I[II)V"⟩
abbrev cD_removePlan : ByteArray := prog_2_method_7_code
def yD_removePlan : MethodName := ⟨"GuardVolume$Drive", "removePlan", "(I)V"⟩
abbrev cG_storeList : ByteArray := prog_1_method_29_code
def yG_storeList : MethodName := ⟨"GuardVolume", "storeList", "(III)Z"⟩
abbrev cAf_fill : ByteArray := prog_17_method_103_code
def yAf_fill : MethodName := ⟨"java/util/Arrays", "fill", "([II)V"⟩
abbrev cL_read : ByteArray := method_4_code
def yL_read : MethodName := ⟨"GuardVolumeLaw", "read", "(LGuardVolume;II[J)I"⟩
abbrev cG_read : ByteArray := prog_1_method_3_code
def yG_read : MethodName := ⟨"GuardVolume", "read", "(II)I"⟩
abbrev cL_plan : ByteArray := method_5_code
def yL_plan : MethodName := ⟨"GuardVolumeLaw", "plan", "(LGuardVolume;IIII)I"⟩
abbrev cG_plan : ByteArray := prog_1_method_5_code
def yG_plan : MethodName := ⟨"GuardVolume", "plan", "(IIII)V"⟩
abbrev cG_isPlan : ByteArray := prog_1_method_19_code
def yG_isPlan : MethodName := ⟨"GuardVolume", "isPlan", "(II)Z"⟩
abbrev cD_addPlan : ByteArray := prog_2_method_6_code
def yD_addPlan : MethodName := ⟨"GuardVolume$Drive", "addPlan", "(III)V"⟩
abbrev cL_cutAfter : ByteArray := method_6_code
def yL_cutAfter : MethodName := ⟨"GuardVolumeLaw", "cutAfter", "(LGuardVolume;I)I"⟩
abbrev cG_cutAfter : ByteArray := prog_1_method_6_code
def yG_cutAfter : MethodName := ⟨"GuardVolume", "cutAfter", "(I)V"⟩
abbrev cL_start : ByteArray := method_7_code
def yL_start : MethodName := ⟨"GuardVolumeLaw", "start", "(LGuardVolume;[J)I"⟩
abbrev cG_start : ByteArray := prog_1_method_7_code
def yG_start : MethodName := ⟨"GuardVolume", "start", "()I"⟩
abbrev cL_scrub : ByteArray := method_8_code
def yL_scrub : MethodName := ⟨"GuardVolumeLaw", "scrub", "(LGuardVolume;I[J)I"⟩
abbrev cG_scrub : ByteArray := prog_1_method_8_code
def yG_scrub : MethodName := ⟨"GuardVolume", "scrub", "(I)I"⟩
abbrev cG_scrubBlock : ByteArray := prog_1_method_32_code
def yG_scrubBlock : MethodName := ⟨"GuardVolume", "scrubBlock", "(I)Z"⟩
abbrev cG_mendList : ByteArray := prog_1_method_33_code
def yG_mendList : MethodName := ⟨"GuardVolume", "mendList", "(II)Z"⟩
abbrev cF_tell : ByteArray := prog_3_method_2_code
def yF_tell : MethodName := ⟨"GuardVolume$Findings", "tell", "(IIII)V"⟩
abbrev cG_mendCopies : ByteArray := prog_1_method_34_code
def yG_mendCopies : MethodName := ⟨"GuardVolume", "mendCopies", "(I)Z"⟩
abbrev cL_finding : ByteArray := method_9_code
def yL_finding : MethodName := ⟨"GuardVolumeLaw", "finding", "(LGuardVolume;II[J)I"⟩
abbrev cG_finding : ByteArray := prog_1_method_10_code
def yG_finding : MethodName := ⟨"GuardVolume", "finding", "(II)I"⟩
abbrev cL_expected : ByteArray := method_10_code
def yL_expected : MethodName := ⟨"GuardVolumeLaw", "expected", "(LGuardVolume;II[J)I"⟩
abbrev cG_expected : ByteArray := prog_1_method_11_code
def yG_expected : MethodName := ⟨"GuardVolume", "expected", "(II)I"⟩
abbrev cL_verdict : ByteArray := method_11_code
def yL_verdict : MethodName := ⟨"GuardVolumeLaw", "verdict", "(LGuardVolume;II[J)I"⟩
abbrev cG_verdict : ByteArray := prog_1_method_12_code
def yG_verdict : MethodName := ⟨"GuardVolume", "verdict", "(II)I"⟩
abbrev cL_isRight : ByteArray := method_12_code
def yL_isRight : MethodName := ⟨"GuardVolumeLaw", "isRight", "(LGuardVolume;II[J)I"⟩
abbrev cG_isRight : ByteArray := prog_1_method_13_code
def yG_isRight : MethodName := ⟨"GuardVolume", "isRight", "(II)Z"⟩
abbrev cL_raw : ByteArray := method_13_code
def yL_raw : MethodName := ⟨"GuardVolumeLaw", "raw", "(LGuardVolume;III[J)I"⟩
abbrev cG_raw : ByteArray := prog_1_method_14_code
def yG_raw : MethodName := ⟨"GuardVolume", "raw", "(III)I"⟩
abbrev cL_replace : ByteArray := method_14_code
def yL_replace : MethodName := ⟨"GuardVolumeLaw", "replace", "(LGuardVolume;I)I"⟩
abbrev cG_replace : ByteArray := prog_1_method_15_code
def yG_replace : MethodName := ⟨"GuardVolume", "replace", "(I)V"⟩
abbrev cD_wipe : ByteArray := prog_2_method_4_code
def yD_wipe : MethodName := ⟨"GuardVolume$Drive", "wipe", "()V"⟩
abbrev cL_rebuild : ByteArray := method_15_code
def yL_rebuild : MethodName := ⟨"GuardVolumeLaw", "rebuild", "(LGuardVolume;I[J)I"⟩
abbrev cG_rebuild : ByteArray := prog_1_method_16_code
def yG_rebuild : MethodName := ⟨"GuardVolume", "rebuild", "(I)I"⟩
abbrev cG_rebuildBlock : ByteArray := prog_1_method_35_code
def yG_rebuildBlock : MethodName := ⟨"GuardVolume", "rebuildBlock", "(III)Z"⟩
abbrev cL_count : ByteArray := method_16_code
def yL_count : MethodName := ⟨"GuardVolumeLaw", "count", "(LGuardVolume;I[J)I"⟩
abbrev cG_count : ByteArray := prog_1_method_17_code
def yG_count : MethodName := ⟨"GuardVolume", "count", "(I)I"⟩
abbrev cG_greatestPageVersion : ByteArray := prog_1_method_36_code
def yG_greatestPageVersion : MethodName := ⟨"GuardVolume", "greatestPageVersion", "()I"⟩
abbrev cMx_max : ByteArray := prog_12_method_65_code
def yMx_max : MethodName := ⟨"java/lang/Math", "max", "(II)I"⟩
abbrev cM_init : ByteArray := prog_7_method_1_code
def yM_init : MethodName := ⟨"GuardVolumeModel", "<init>", "()V"⟩
abbrev cM_place : ByteArray := prog_7_method_3_code
def yM_place : MethodName := ⟨"GuardVolumeModel", "place", "(II)I"⟩
abbrev cM_sumAt : ByteArray := prog_7_method_5_code
def yM_sumAt : MethodName := ⟨"GuardVolumeModel", "sumAt", "(I)I"⟩
abbrev cM_mix : ByteArray := prog_7_method_4_code
def yM_mix : MethodName := ⟨"GuardVolumeModel", "mix", "(II)I"⟩
abbrev cM_thrown : ByteArray := prog_7_method_2_code
def yM_thrown : MethodName := ⟨"GuardVolumeModel", "thrown", "()I"⟩
abbrev cM_write : ByteArray := prog_7_method_23_code
def yM_write : MethodName := ⟨"GuardVolumeModel", "write", "(III)I"⟩
abbrev cM_in : ByteArray := prog_7_method_21_code
def yM_in : MethodName := ⟨"GuardVolumeModel", "in", "(II)Z"⟩
abbrev cM_codeOf : ByteArray := prog_7_method_22_code
def yM_codeOf : MethodName := ⟨"GuardVolumeModel", "codeOf", "(I)I"⟩
abbrev cM_verdictOf : ByteArray := prog_7_method_11_code
def yM_verdictOf : MethodName := ⟨"GuardVolumeModel", "verdictOf", "(II)I"⟩
abbrev cM_isWhole : ByteArray := prog_7_method_6_code
def yM_isWhole : MethodName := ⟨"GuardVolumeModel", "isWhole", "(II)Z"⟩
abbrev cM_isUnknown : ByteArray := prog_7_method_10_code
def yM_isUnknown : MethodName := ⟨"GuardVolumeModel", "isUnknown", "(II)Z"⟩
abbrev cM_isRightPage : ByteArray := prog_7_method_7_code
def yM_isRightPage : MethodName := ⟨"GuardVolumeModel", "isRightPage", "(II)Z"⟩
abbrev cM_expectedOf : ByteArray := prog_7_method_9_code
def yM_expectedOf : MethodName := ⟨"GuardVolumeModel", "expectedOf", "(II)I"⟩
abbrev cM_listed : ByteArray := prog_7_method_8_code
def yM_listed : MethodName := ⟨"GuardVolumeModel", "listed", "(II)I"⟩
abbrev cM_takeWords : ByteArray := prog_7_method_17_code
def yM_takeWords : MethodName := ⟨"GuardVolumeModel", "takeWords", "(II)V"⟩
abbrev cM_put : ByteArray := prog_7_method_20_code
def yM_put : MethodName := ⟨"GuardVolumeModel", "put", "(II)Z"⟩
abbrev cM_putCopy : ByteArray := prog_7_method_19_code
def yM_putCopy : MethodName := ⟨"GuardVolumeModel", "putCopy", "(III)Z"⟩
abbrev cM_storeRow : ByteArray := prog_7_method_18_code
def yM_storeRow : MethodName := ⟨"GuardVolumeModel", "storeRow", "(III)Z"⟩
abbrev cM_store : ByteArray := prog_7_method_15_code
def yM_store : MethodName := ⟨"GuardVolumeModel", "store", "(III)Z"⟩
abbrev cM_planOf : ByteArray := prog_7_method_12_code
def yM_planOf : MethodName := ⟨"GuardVolumeModel", "planOf", "(I)I"⟩
abbrev cM_lay : ByteArray := prog_7_method_14_code
def yM_lay : MethodName := ⟨"GuardVolumeModel", "lay", "(III)V"⟩
abbrev cM_dropPlan : ByteArray := prog_7_method_13_code
def yM_dropPlan : MethodName := ⟨"GuardVolumeModel", "dropPlan", "(II)V"⟩
abbrev cM_storeList : ByteArray := prog_7_method_16_code
def yM_storeList : MethodName := ⟨"GuardVolumeModel", "storeList", "(III)Z"⟩
abbrev cM_read : ByteArray := prog_7_method_24_code
def yM_read : MethodName := ⟨"GuardVolumeModel", "read", "(II)I"⟩
abbrev cM_code : ByteArray := prog_7_method_25_code
def yM_code : MethodName := ⟨"GuardVolumeModel", "code", "()I"⟩
abbrev cM_plan : ByteArray := prog_7_method_26_code
def yM_plan : MethodName := ⟨"GuardVolumeModel", "plan", "(IIII)V"⟩
abbrev cM_cutAfter : ByteArray := prog_7_method_27_code
def yM_cutAfter : MethodName := ⟨"GuardVolumeModel", "cutAfter", "(I)V"⟩
abbrev cM_start : ByteArray := prog_7_method_28_code
def yM_start : MethodName := ⟨"GuardVolumeModel", "start", "()I"⟩
abbrev cM_scrub : ByteArray := prog_7_method_31_code
def yM_scrub : MethodName := ⟨"GuardVolumeModel", "scrub", "(I)I"⟩
abbrev cM_scrubOf : ByteArray := prog_7_method_30_code
def yM_scrubOf : MethodName := ⟨"GuardVolumeModel", "scrubOf", "(I)Z"⟩
abbrev cM_find : ByteArray := prog_7_method_29_code
def yM_find : MethodName := ⟨"GuardVolumeModel", "find", "(IIII)V"⟩
abbrev cM_findings : ByteArray := prog_7_method_32_code
def yM_findings : MethodName := ⟨"GuardVolumeModel", "findings", "(Z)I"⟩
abbrev cM_finding : ByteArray := prog_7_method_33_code
def yM_finding : MethodName := ⟨"GuardVolumeModel", "finding", "(II)I"⟩
abbrev cM_expected : ByteArray := prog_7_method_34_code
def yM_expected : MethodName := ⟨"GuardVolumeModel", "expected", "(II)I"⟩
abbrev cM_verdict : ByteArray := prog_7_method_35_code
def yM_verdict : MethodName := ⟨"GuardVolumeModel", "verdict", "(II)I"⟩
abbrev cM_isRight : ByteArray := prog_7_method_36_code
def yM_isRight : MethodName := ⟨"GuardVolumeModel", "isRight", "(II)Z"⟩
abbrev cM_raw : ByteArray := prog_7_method_37_code
def yM_raw : MethodName := ⟨"GuardVolumeModel", "raw", "(III)I"⟩
abbrev cM_replace : ByteArray := prog_7_method_38_code
def yM_replace : MethodName := ⟨"GuardVolumeModel", "replace", "(I)V"⟩
abbrev cM_rebuild : ByteArray := prog_7_method_39_code
def yM_rebuild : MethodName := ⟨"GuardVolumeModel", "rebuild", "(I)I"⟩
abbrev cM_count : ByteArray := prog_7_method_40_code
def yM_count : MethodName := ⟨"GuardVolumeModel", "count", "(I)I"⟩
abbrev cL_law : ByteArray := code
def yL_law : MethodName := ⟨"GuardVolumeLaw", "law", "([I)Z"⟩
end
section
/-! the good words of the tables in one list; each by its place (written by names.py) -/
def gW : List Cond := lw_tbl.filter goodWord
theorem gW_good : ∀ w ∈ gW, goodWord w = true := fun w h => (List.mem_filter.mp h).2
theorem gW_tbl : ∀ w ∈ gW, w ∈ lw_tbl := fun w h => (List.mem_filter.mp h).1
def isNe : Cond → Bool
  | .fieldLinkNest _ _ _ _ _ _ => true
  | .methodLinkNest _ _ _ _ => true
  | _ => false
def nW : List Cond := lw_tbl.filter isNe
theorem nW_of {w : Cond} {i : Nat} (h : tables_1[i]? = some w) (hg : isNe w = true) : w ∈ nW := List.mem_filter.mpr ⟨List.mem_append_right _ (List.mem_of_getElem? h), hg⟩
theorem gW_of {w : Cond} {i : Nat} (h : tables_1[i]? = some w) (hg : goodWord w = true) : w ∈ gW := List.mem_filter.mpr ⟨List.mem_append_right _ (List.mem_of_getElem? h), hg⟩
theorem kw_0 : (Jvm.Cond.initialized "GuardVolumeLaw") ∈ gW := gW_of (i := 0) (by decide +kernel) (by decide +kernel)
theorem kw_1 : (Jvm.Cond.initialized "GuardVolume") ∈ gW := gW_of (i := 1) (by decide +kernel) (by decide +kernel)
theorem kw_2 : (Jvm.Cond.initialized "GuardVolume$Drive") ∈ gW := gW_of (i := 2) (by decide +kernel) (by decide +kernel)
theorem kw_3 : (Jvm.Cond.initialized "java/lang/System") ∈ gW := gW_of (i := 3) (by decide +kernel) (by decide +kernel)
theorem kw_4 : (Jvm.Cond.initialized "GuardVolume$Power") ∈ gW := gW_of (i := 4) (by decide +kernel) (by decide +kernel)
theorem kw_5 : (Jvm.Cond.initialized "GuardVolume$Journal") ∈ gW := gW_of (i := 5) (by decide +kernel) (by decide +kernel)
theorem kw_6 : (Jvm.Cond.initialized "GuardVolume$Findings") ∈ gW := gW_of (i := 6) (by decide +kernel) (by decide +kernel)
theorem kw_7 : (Jvm.Cond.initialized "GuardVolumeModel") ∈ gW := gW_of (i := 7) (by decide +kernel) (by decide +kernel)
theorem kw_8 : (Jvm.Cond.initialized "java/lang/Throwable") ∈ gW := gW_of (i := 8) (by decide +kernel) (by decide +kernel)
theorem kw_9 : (Jvm.Cond.initialized "java/lang/Exception") ∈ gW := gW_of (i := 9) (by decide +kernel) (by decide +kernel)
theorem kw_10 : (Jvm.Cond.initialized "java/lang/RuntimeException") ∈ gW := gW_of (i := 10) (by decide +kernel) (by decide +kernel)
theorem kw_11 : (Jvm.Cond.initialized "java/lang/IndexOutOfBoundsException") ∈ gW := gW_of (i := 11) (by decide +kernel) (by decide +kernel)
theorem kw_12 : (Jvm.Cond.initialized "java/lang/IllegalStateException") ∈ gW := gW_of (i := 12) (by decide +kernel) (by decide +kernel)
theorem kw_13 : (Jvm.Cond.initialized "java/lang/UnsupportedOperationException") ∈ gW := gW_of (i := 13) (by decide +kernel) (by decide +kernel)
theorem kw_14 : (Jvm.Cond.initialized "java/util/Arrays") ∈ gW := gW_of (i := 14) (by decide +kernel) (by decide +kernel)
theorem kw_15 : (Jvm.Cond.initialized "java/lang/IllegalArgumentException") ∈ gW := gW_of (i := 15) (by decide +kernel) (by decide +kernel)
theorem kw_16 : (Jvm.Cond.initialized "java/lang/Math") ∈ gW := gW_of (i := 16) (by decide +kernel) (by decide +kernel)
theorem kw_17 : (Jvm.Cond.classLink "GuardVolumeLaw" (8 : Nat) "GuardVolume") ∈ gW := gW_of (i := 17) (by decide +kernel) (by decide +kernel)
theorem kw_18 : (Jvm.Cond.instantiable "GuardVolume" (11 : Nat)) ∈ gW := gW_of (i := 18) (by decide +kernel) (by decide +kernel)
theorem kw_19 : (Jvm.Cond.methodLink "GuardVolumeLaw" (66 : Nat) ({ cls := "GuardVolume", name := "<init>", desc := "()V" } : Jvm.MethodName)) ∈ gW := gW_of (i := 19) (by decide +kernel) (by decide +kernel)
theorem kw_20 : (Jvm.Cond.instanceMethod ({ cls := "GuardVolume", name := "<init>", desc := "()V" } : Jvm.MethodName)) ∈ gW := gW_of (i := 20) (by decide +kernel) (by decide +kernel)
theorem kw_21 : (Jvm.Cond.code ({ cls := "GuardVolume", name := "<init>", desc := "()V" } : Jvm.MethodName) prog_1_method_1_code (1 : Nat) (Option.none : Option Jvm.ClassFile.FieldType)) ∈ gW := gW_of (i := 21) (by decide +kernel) (by decide +kernel)
theorem kw_22 : (Jvm.Cond.methodLink "GuardVolume" (3 : Nat) ({ cls := "java/lang/Object", name := "<init>", desc := "()V" } : Jvm.MethodName)) ∈ gW := gW_of (i := 22) (by decide +kernel) (by decide +kernel)
theorem kw_23 : (Jvm.Cond.instanceMethod ({ cls := "java/lang/Object", name := "<init>", desc := "()V" } : Jvm.MethodName)) ∈ gW := gW_of (i := 23) (by decide +kernel) (by decide +kernel)
theorem kw_24 : (Jvm.Cond.code ({ cls := "java/lang/Object", name := "<init>", desc := "()V" } : Jvm.MethodName) object_method_1_code (1 : Nat) (Option.none : Option Jvm.ClassFile.FieldType)) ∈ gW := gW_of (i := 24) (by decide +kernel) (by decide +kernel)
theorem kw_25 : (Jvm.Cond.classLink "GuardVolume" (9 : Nat) "GuardVolume$Drive") ∈ gW := gW_of (i := 25) (by decide +kernel) (by decide +kernel)
theorem kw_26 : (Jvm.Cond.instantiable "GuardVolume$Drive" (6 : Nat)) ∈ gW := gW_of (i := 26) (by decide +kernel) (by decide +kernel)
theorem kn_27 : (Jvm.Cond.methodLinkNest "GuardVolume" (11 : Nat) ({ cls := "GuardVolume$Drive", name := "<init>", desc := "()V" } : Jvm.MethodName) "GuardVolume") ∈ nW := nW_of (i := 27) (by decide +kernel) rfl
theorem kw_28 : (Jvm.Cond.instanceMethod ({ cls := "GuardVolume$Drive", name := "<init>", desc := "()V" } : Jvm.MethodName)) ∈ gW := gW_of (i := 28) (by decide +kernel) (by decide +kernel)
theorem kw_29 : (Jvm.Cond.code ({ cls := "GuardVolume$Drive", name := "<init>", desc := "()V" } : Jvm.MethodName) prog_2_method_1_code (3 : Nat) (Option.none : Option Jvm.ClassFile.FieldType)) ∈ gW := gW_of (i := 29) (by decide +kernel) (by decide +kernel)
theorem kw_30 : (Jvm.Cond.methodLink "GuardVolume$Drive" (3 : Nat) ({ cls := "java/lang/Object", name := "<init>", desc := "()V" } : Jvm.MethodName)) ∈ gW := gW_of (i := 30) (by decide +kernel) (by decide +kernel)
theorem kn_31 : (Jvm.Cond.methodLinkNest "GuardVolume$Drive" (31 : Nat) ({ cls := "GuardVolume", name := "sumOf", desc := "([II)I" } : Jvm.MethodName) "GuardVolume") ∈ nW := nW_of (i := 31) (by decide +kernel) rfl
theorem kw_32 : (Jvm.Cond.static ({ cls := "GuardVolume", name := "sumOf", desc := "([II)I" } : Jvm.MethodName)) ∈ gW := gW_of (i := 32) (by decide +kernel) (by decide +kernel)
theorem kw_33 : (Jvm.Cond.code ({ cls := "GuardVolume", name := "sumOf", desc := "([II)I" } : Jvm.MethodName) prog_1_method_20_code (4 : Nat) (Option.some Jvm.ClassFile.FieldType.int)) ∈ gW := gW_of (i := 33) (by decide +kernel) (by decide +kernel)
theorem kw_34 : (Jvm.Cond.methodLink "GuardVolume$Drive" (35 : Nat) ({ cls := "java/lang/System", name := "arraycopy", desc := "(Ljava/lang/Object;ILjava/lang/Object;II)V" } : Jvm.MethodName)) ∈ gW := gW_of (i := 34) (by decide +kernel) (by decide +kernel)
theorem kw_35 : (Jvm.Cond.static ({ cls := "java/lang/System", name := "arraycopy", desc := "(Ljava/lang/Object;ILjava/lang/Object;II)V" } : Jvm.MethodName)) ∈ gW := gW_of (i := 35) (by decide +kernel) (by decide +kernel)
theorem kw_36 : (Jvm.Cond.native ({ cls := "java/lang/System", name := "arraycopy", desc := "(Ljava/lang/Object;ILjava/lang/Object;II)V" } : Jvm.MethodName)) ∈ gW := gW_of (i := 36) (by decide +kernel) (by decide +kernel)
theorem kw_37 : (Jvm.Cond.fieldLink "GuardVolume$Drive" (9 : Nat) "GuardVolume$Drive" "numbers" "[I") ∈ gW := gW_of (i := 37) (by decide +kernel) (by decide +kernel)
theorem kn_38 : (Jvm.Cond.fieldLinkNest "GuardVolume" (164 : Nat) "GuardVolume$Drive" "numbers" "[I" "GuardVolume") ∈ nW := nW_of (i := 38) (by decide +kernel) rfl
theorem kw_39 : (Jvm.Cond.fieldLink "GuardVolume$Drive" (15 : Nat) "GuardVolume$Drive" "planWrite" "[I") ∈ gW := gW_of (i := 39) (by decide +kernel) (by decide +kernel)
theorem kw_40 : (Jvm.Cond.fieldLink "GuardVolume$Drive" (18 : Nat) "GuardVolume$Drive" "planKind" "[I") ∈ gW := gW_of (i := 40) (by decide +kernel) (by decide +kernel)
theorem kw_41 : (Jvm.Cond.fieldLink "GuardVolume$Drive" (21 : Nat) "GuardVolume$Drive" "planX" "[I") ∈ gW := gW_of (i := 41) (by decide +kernel) (by decide +kernel)
theorem kw_42 : (Jvm.Cond.fieldLink "GuardVolume$Drive" (24 : Nat) "GuardVolume$Drive" "plans" "I") ∈ gW := gW_of (i := 42) (by decide +kernel) (by decide +kernel)
theorem kn_43 : (Jvm.Cond.fieldLinkNest "GuardVolume" (118 : Nat) "GuardVolume$Drive" "plans" "I" "GuardVolume") ∈ nW := nW_of (i := 43) (by decide +kernel) rfl
theorem kw_44 : (Jvm.Cond.fieldLink "GuardVolume$Drive" (28 : Nat) "GuardVolume$Drive" "writes" "I") ∈ gW := gW_of (i := 44) (by decide +kernel) (by decide +kernel)
theorem kn_45 : (Jvm.Cond.fieldLinkNest "GuardVolume" (128 : Nat) "GuardVolume$Drive" "writes" "I" "GuardVolume") ∈ nW := nW_of (i := 45) (by decide +kernel) rfl
theorem kw_46 : (Jvm.Cond.laysFinal "GuardVolume$Drive" "GuardVolume$Drive" "numbers" "[I") ∈ gW := gW_of (i := 46) (by decide +kernel) (by decide +kernel)
theorem kw_47 : (Jvm.Cond.soleField "GuardVolume$Drive" "numbers") ∈ gW := gW_of (i := 47) (by decide +kernel) (by decide +kernel)
theorem kw_48 : (Jvm.Cond.laysFinal "GuardVolume$Drive" "GuardVolume$Drive" "planWrite" "[I") ∈ gW := gW_of (i := 48) (by decide +kernel) (by decide +kernel)
theorem kw_49 : (Jvm.Cond.soleField "GuardVolume$Drive" "planWrite") ∈ gW := gW_of (i := 49) (by decide +kernel) (by decide +kernel)
theorem kw_50 : (Jvm.Cond.laysFinal "GuardVolume$Drive" "GuardVolume$Drive" "planKind" "[I") ∈ gW := gW_of (i := 50) (by decide +kernel) (by decide +kernel)
theorem kw_51 : (Jvm.Cond.soleField "GuardVolume$Drive" "planKind") ∈ gW := gW_of (i := 51) (by decide +kernel) (by decide +kernel)
theorem kw_52 : (Jvm.Cond.laysFinal "GuardVolume$Drive" "GuardVolume$Drive" "planX" "[I") ∈ gW := gW_of (i := 52) (by decide +kernel) (by decide +kernel)
theorem kw_53 : (Jvm.Cond.soleField "GuardVolume$Drive" "planX") ∈ gW := gW_of (i := 53) (by decide +kernel) (by decide +kernel)
theorem kw_54 : (Jvm.Cond.lays "GuardVolume$Drive" "GuardVolume$Drive" "plans" "I") ∈ gW := gW_of (i := 54) (by decide +kernel) (by decide +kernel)
theorem kw_55 : (Jvm.Cond.soleField "GuardVolume$Drive" "plans") ∈ gW := gW_of (i := 55) (by decide +kernel) (by decide +kernel)
theorem kw_56 : (Jvm.Cond.lays "GuardVolume$Drive" "GuardVolume$Drive" "writes" "I") ∈ gW := gW_of (i := 56) (by decide +kernel) (by decide +kernel)
theorem kw_57 : (Jvm.Cond.soleField "GuardVolume$Drive" "writes") ∈ gW := gW_of (i := 57) (by decide +kernel) (by decide +kernel)
theorem kw_58 : (Jvm.Cond.superclass "GuardVolume$Drive" "java/lang/Object") ∈ gW := gW_of (i := 58) (by decide +kernel) (by decide +kernel)
theorem kw_59 : (Jvm.Cond.arrayClass Jvm.ClassFile.FieldType.int) ∈ gW := gW_of (i := 59) (by decide +kernel) (by decide +kernel)
theorem kw_60 : (Jvm.Cond.classLink "GuardVolume" (19 : Nat) "GuardVolume$Power") ∈ gW := gW_of (i := 60) (by decide +kernel) (by decide +kernel)
theorem kw_61 : (Jvm.Cond.instantiable "GuardVolume$Power" (2 : Nat)) ∈ gW := gW_of (i := 61) (by decide +kernel) (by decide +kernel)
theorem kn_62 : (Jvm.Cond.methodLinkNest "GuardVolume" (21 : Nat) ({ cls := "GuardVolume$Power", name := "<init>", desc := "()V" } : Jvm.MethodName) "GuardVolume") ∈ nW := nW_of (i := 62) (by decide +kernel) rfl
theorem kw_63 : (Jvm.Cond.instanceMethod ({ cls := "GuardVolume$Power", name := "<init>", desc := "()V" } : Jvm.MethodName)) ∈ gW := gW_of (i := 63) (by decide +kernel) (by decide +kernel)
theorem kw_64 : (Jvm.Cond.code ({ cls := "GuardVolume$Power", name := "<init>", desc := "()V" } : Jvm.MethodName) prog_5_method_1_code (1 : Nat) (Option.none : Option Jvm.ClassFile.FieldType)) ∈ gW := gW_of (i := 64) (by decide +kernel) (by decide +kernel)
theorem kw_65 : (Jvm.Cond.methodLink "GuardVolume$Power" (1 : Nat) ({ cls := "java/lang/Object", name := "<init>", desc := "()V" } : Jvm.MethodName)) ∈ gW := gW_of (i := 65) (by decide +kernel) (by decide +kernel)
theorem kw_66 : (Jvm.Cond.fieldLink "GuardVolume$Power" (7 : Nat) "GuardVolume$Power" "on" "Z") ∈ gW := gW_of (i := 66) (by decide +kernel) (by decide +kernel)
theorem kn_67 : (Jvm.Cond.fieldLinkNest "GuardVolume" (67 : Nat) "GuardVolume$Power" "on" "Z" "GuardVolume") ∈ nW := nW_of (i := 67) (by decide +kernel) rfl
theorem kw_68 : (Jvm.Cond.fieldLink "GuardVolume$Power" (13 : Nat) "GuardVolume$Power" "writesLeft" "I") ∈ gW := gW_of (i := 68) (by decide +kernel) (by decide +kernel)
theorem kn_69 : (Jvm.Cond.fieldLinkNest "GuardVolume" (125 : Nat) "GuardVolume$Power" "writesLeft" "I" "GuardVolume") ∈ nW := nW_of (i := 69) (by decide +kernel) rfl
theorem kw_70 : (Jvm.Cond.lays "GuardVolume$Power" "GuardVolume$Power" "on" "Z") ∈ gW := gW_of (i := 70) (by decide +kernel) (by decide +kernel)
theorem kw_71 : (Jvm.Cond.soleField "GuardVolume$Power" "on") ∈ gW := gW_of (i := 71) (by decide +kernel) (by decide +kernel)
theorem kw_72 : (Jvm.Cond.lays "GuardVolume$Power" "GuardVolume$Power" "writesLeft" "I") ∈ gW := gW_of (i := 72) (by decide +kernel) (by decide +kernel)
theorem kw_73 : (Jvm.Cond.soleField "GuardVolume$Power" "writesLeft") ∈ gW := gW_of (i := 73) (by decide +kernel) (by decide +kernel)
theorem kw_74 : (Jvm.Cond.superclass "GuardVolume$Power" "java/lang/Object") ∈ gW := gW_of (i := 74) (by decide +kernel) (by decide +kernel)
theorem kw_75 : (Jvm.Cond.classLink "GuardVolume" (26 : Nat) "GuardVolume$Journal") ∈ gW := gW_of (i := 75) (by decide +kernel) (by decide +kernel)
theorem kw_76 : (Jvm.Cond.instantiable "GuardVolume$Journal" (3 : Nat)) ∈ gW := gW_of (i := 76) (by decide +kernel) (by decide +kernel)
theorem kn_77 : (Jvm.Cond.methodLinkNest "GuardVolume" (28 : Nat) ({ cls := "GuardVolume$Journal", name := "<init>", desc := "()V" } : Jvm.MethodName) "GuardVolume") ∈ nW := nW_of (i := 77) (by decide +kernel) rfl
theorem kw_78 : (Jvm.Cond.instanceMethod ({ cls := "GuardVolume$Journal", name := "<init>", desc := "()V" } : Jvm.MethodName)) ∈ gW := gW_of (i := 78) (by decide +kernel) (by decide +kernel)
theorem kw_79 : (Jvm.Cond.code ({ cls := "GuardVolume$Journal", name := "<init>", desc := "()V" } : Jvm.MethodName) prog_4_method_1_code (1 : Nat) (Option.none : Option Jvm.ClassFile.FieldType)) ∈ gW := gW_of (i := 79) (by decide +kernel) (by decide +kernel)
theorem kw_80 : (Jvm.Cond.methodLink "GuardVolume$Journal" (3 : Nat) ({ cls := "java/lang/Object", name := "<init>", desc := "()V" } : Jvm.MethodName)) ∈ gW := gW_of (i := 80) (by decide +kernel) (by decide +kernel)
theorem kw_81 : (Jvm.Cond.fieldLink "GuardVolume$Journal" (9 : Nat) "GuardVolume$Journal" "words" "[I") ∈ gW := gW_of (i := 81) (by decide +kernel) (by decide +kernel)
theorem kn_82 : (Jvm.Cond.fieldLinkNest "GuardVolume" (92 : Nat) "GuardVolume$Journal" "words" "[I" "GuardVolume") ∈ nW := nW_of (i := 82) (by decide +kernel) rfl
theorem kw_83 : (Jvm.Cond.fieldLink "GuardVolume$Journal" (15 : Nat) "GuardVolume$Journal" "block" "I") ∈ gW := gW_of (i := 83) (by decide +kernel) (by decide +kernel)
theorem kn_84 : (Jvm.Cond.fieldLinkNest "GuardVolume" (102 : Nat) "GuardVolume$Journal" "block" "I" "GuardVolume") ∈ nW := nW_of (i := 84) (by decide +kernel) rfl
theorem kw_85 : (Jvm.Cond.fieldLink "GuardVolume$Journal" (19 : Nat) "GuardVolume$Journal" "version" "I") ∈ gW := gW_of (i := 85) (by decide +kernel) (by decide +kernel)
theorem kn_86 : (Jvm.Cond.fieldLinkNest "GuardVolume" (99 : Nat) "GuardVolume$Journal" "version" "I" "GuardVolume") ∈ nW := nW_of (i := 86) (by decide +kernel) rfl
theorem kw_87 : (Jvm.Cond.laysFinal "GuardVolume$Journal" "GuardVolume$Journal" "words" "[I") ∈ gW := gW_of (i := 87) (by decide +kernel) (by decide +kernel)
theorem kw_88 : (Jvm.Cond.soleField "GuardVolume$Journal" "words") ∈ gW := gW_of (i := 88) (by decide +kernel) (by decide +kernel)
theorem kw_89 : (Jvm.Cond.lays "GuardVolume$Journal" "GuardVolume$Journal" "block" "I") ∈ gW := gW_of (i := 89) (by decide +kernel) (by decide +kernel)
theorem kw_90 : (Jvm.Cond.soleField "GuardVolume$Journal" "block") ∈ gW := gW_of (i := 90) (by decide +kernel) (by decide +kernel)
theorem kw_91 : (Jvm.Cond.lays "GuardVolume$Journal" "GuardVolume$Journal" "version" "I") ∈ gW := gW_of (i := 91) (by decide +kernel) (by decide +kernel)
theorem kw_92 : (Jvm.Cond.soleField "GuardVolume$Journal" "version") ∈ gW := gW_of (i := 92) (by decide +kernel) (by decide +kernel)
theorem kw_93 : (Jvm.Cond.superclass "GuardVolume$Journal" "java/lang/Object") ∈ gW := gW_of (i := 93) (by decide +kernel) (by decide +kernel)
theorem kw_94 : (Jvm.Cond.classLink "GuardVolume" (33 : Nat) "GuardVolume$Findings") ∈ gW := gW_of (i := 94) (by decide +kernel) (by decide +kernel)
theorem kw_95 : (Jvm.Cond.instantiable "GuardVolume$Findings" (3 : Nat)) ∈ gW := gW_of (i := 95) (by decide +kernel) (by decide +kernel)
theorem kn_96 : (Jvm.Cond.methodLinkNest "GuardVolume" (35 : Nat) ({ cls := "GuardVolume$Findings", name := "<init>", desc := "()V" } : Jvm.MethodName) "GuardVolume") ∈ nW := nW_of (i := 96) (by decide +kernel) rfl
theorem kw_97 : (Jvm.Cond.instanceMethod ({ cls := "GuardVolume$Findings", name := "<init>", desc := "()V" } : Jvm.MethodName)) ∈ gW := gW_of (i := 97) (by decide +kernel) (by decide +kernel)
theorem kw_98 : (Jvm.Cond.code ({ cls := "GuardVolume$Findings", name := "<init>", desc := "()V" } : Jvm.MethodName) prog_3_method_1_code (1 : Nat) (Option.none : Option Jvm.ClassFile.FieldType)) ∈ gW := gW_of (i := 98) (by decide +kernel) (by decide +kernel)
theorem kw_99 : (Jvm.Cond.methodLink "GuardVolume$Findings" (3 : Nat) ({ cls := "java/lang/Object", name := "<init>", desc := "()V" } : Jvm.MethodName)) ∈ gW := gW_of (i := 99) (by decide +kernel) (by decide +kernel)
theorem kw_100 : (Jvm.Cond.fieldLink "GuardVolume$Findings" (9 : Nat) "GuardVolume$Findings" "numbers" "[I") ∈ gW := gW_of (i := 100) (by decide +kernel) (by decide +kernel)
theorem kn_101 : (Jvm.Cond.fieldLinkNest "GuardVolume" (141 : Nat) "GuardVolume$Findings" "numbers" "[I" "GuardVolume") ∈ nW := nW_of (i := 101) (by decide +kernel) rfl
theorem kw_102 : (Jvm.Cond.fieldLink "GuardVolume$Findings" (15 : Nat) "GuardVolume$Findings" "kept" "I") ∈ gW := gW_of (i := 102) (by decide +kernel) (by decide +kernel)
theorem kn_103 : (Jvm.Cond.fieldLinkNest "GuardVolume" (138 : Nat) "GuardVolume$Findings" "kept" "I" "GuardVolume") ∈ nW := nW_of (i := 103) (by decide +kernel) rfl
theorem kw_104 : (Jvm.Cond.fieldLink "GuardVolume$Findings" (19 : Nat) "GuardVolume$Findings" "told" "I") ∈ gW := gW_of (i := 104) (by decide +kernel) (by decide +kernel)
theorem kn_105 : (Jvm.Cond.fieldLinkNest "GuardVolume" (131 : Nat) "GuardVolume$Findings" "told" "I" "GuardVolume") ∈ nW := nW_of (i := 105) (by decide +kernel) rfl
theorem kw_106 : (Jvm.Cond.laysFinal "GuardVolume$Findings" "GuardVolume$Findings" "numbers" "[I") ∈ gW := gW_of (i := 106) (by decide +kernel) (by decide +kernel)
theorem kw_107 : (Jvm.Cond.soleField "GuardVolume$Findings" "numbers") ∈ gW := gW_of (i := 107) (by decide +kernel) (by decide +kernel)
theorem kw_108 : (Jvm.Cond.lays "GuardVolume$Findings" "GuardVolume$Findings" "kept" "I") ∈ gW := gW_of (i := 108) (by decide +kernel) (by decide +kernel)
theorem kw_109 : (Jvm.Cond.soleField "GuardVolume$Findings" "kept") ∈ gW := gW_of (i := 109) (by decide +kernel) (by decide +kernel)
theorem kw_110 : (Jvm.Cond.lays "GuardVolume$Findings" "GuardVolume$Findings" "told" "I") ∈ gW := gW_of (i := 110) (by decide +kernel) (by decide +kernel)
theorem kw_111 : (Jvm.Cond.soleField "GuardVolume$Findings" "told") ∈ gW := gW_of (i := 111) (by decide +kernel) (by decide +kernel)
theorem kw_112 : (Jvm.Cond.superclass "GuardVolume$Findings" "java/lang/Object") ∈ gW := gW_of (i := 112) (by decide +kernel) (by decide +kernel)
theorem kw_113 : (Jvm.Cond.fieldLink "GuardVolume" (12 : Nat) "GuardVolume" "drive0" "LGuardVolume$Drive;") ∈ gW := gW_of (i := 113) (by decide +kernel) (by decide +kernel)
theorem kw_114 : (Jvm.Cond.fieldLink "GuardVolume" (16 : Nat) "GuardVolume" "drive1" "LGuardVolume$Drive;") ∈ gW := gW_of (i := 114) (by decide +kernel) (by decide +kernel)
theorem kw_115 : (Jvm.Cond.fieldLink "GuardVolume" (22 : Nat) "GuardVolume" "power" "LGuardVolume$Power;") ∈ gW := gW_of (i := 115) (by decide +kernel) (by decide +kernel)
theorem kw_116 : (Jvm.Cond.fieldLink "GuardVolume" (29 : Nat) "GuardVolume" "journal" "LGuardVolume$Journal;") ∈ gW := gW_of (i := 116) (by decide +kernel) (by decide +kernel)
theorem kw_117 : (Jvm.Cond.fieldLink "GuardVolume" (36 : Nat) "GuardVolume" "found" "LGuardVolume$Findings;") ∈ gW := gW_of (i := 117) (by decide +kernel) (by decide +kernel)
theorem kw_118 : (Jvm.Cond.fieldLink "GuardVolume" (40 : Nat) "GuardVolume" "memory" "[I") ∈ gW := gW_of (i := 118) (by decide +kernel) (by decide +kernel)
theorem kw_119 : (Jvm.Cond.fieldLink "GuardVolume" (44 : Nat) "GuardVolume" "lastCode" "I") ∈ gW := gW_of (i := 119) (by decide +kernel) (by decide +kernel)
theorem kw_120 : (Jvm.Cond.fieldLink "GuardVolume" (48 : Nat) "GuardVolume" "nextScrubbed" "I") ∈ gW := gW_of (i := 120) (by decide +kernel) (by decide +kernel)
theorem kw_121 : (Jvm.Cond.fieldLink "GuardVolume" (51 : Nat) "GuardVolume" "row" "[I") ∈ gW := gW_of (i := 121) (by decide +kernel) (by decide +kernel)
theorem kw_122 : (Jvm.Cond.fieldLink "GuardVolume" (54 : Nat) "GuardVolume" "listWords" "[I") ∈ gW := gW_of (i := 122) (by decide +kernel) (by decide +kernel)
theorem kw_123 : (Jvm.Cond.fieldLink "GuardVolume" (57 : Nat) "GuardVolume" "copyWords" "[I") ∈ gW := gW_of (i := 123) (by decide +kernel) (by decide +kernel)
theorem kw_124 : (Jvm.Cond.laysFinal "GuardVolume" "GuardVolume" "drive0" "LGuardVolume$Drive;") ∈ gW := gW_of (i := 124) (by decide +kernel) (by decide +kernel)
theorem kw_125 : (Jvm.Cond.soleField "GuardVolume" "drive0") ∈ gW := gW_of (i := 125) (by decide +kernel) (by decide +kernel)
theorem kw_126 : (Jvm.Cond.laysFinal "GuardVolume" "GuardVolume" "drive1" "LGuardVolume$Drive;") ∈ gW := gW_of (i := 126) (by decide +kernel) (by decide +kernel)
theorem kw_127 : (Jvm.Cond.soleField "GuardVolume" "drive1") ∈ gW := gW_of (i := 127) (by decide +kernel) (by decide +kernel)
theorem kw_128 : (Jvm.Cond.laysFinal "GuardVolume" "GuardVolume" "power" "LGuardVolume$Power;") ∈ gW := gW_of (i := 128) (by decide +kernel) (by decide +kernel)
theorem kw_129 : (Jvm.Cond.soleField "GuardVolume" "power") ∈ gW := gW_of (i := 129) (by decide +kernel) (by decide +kernel)
theorem kw_130 : (Jvm.Cond.laysFinal "GuardVolume" "GuardVolume" "journal" "LGuardVolume$Journal;") ∈ gW := gW_of (i := 130) (by decide +kernel) (by decide +kernel)
theorem kw_131 : (Jvm.Cond.soleField "GuardVolume" "journal") ∈ gW := gW_of (i := 131) (by decide +kernel) (by decide +kernel)
theorem kw_132 : (Jvm.Cond.laysFinal "GuardVolume" "GuardVolume" "found" "LGuardVolume$Findings;") ∈ gW := gW_of (i := 132) (by decide +kernel) (by decide +kernel)
theorem kw_133 : (Jvm.Cond.soleField "GuardVolume" "found") ∈ gW := gW_of (i := 133) (by decide +kernel) (by decide +kernel)
theorem kw_134 : (Jvm.Cond.laysFinal "GuardVolume" "GuardVolume" "memory" "[I") ∈ gW := gW_of (i := 134) (by decide +kernel) (by decide +kernel)
theorem kw_135 : (Jvm.Cond.soleField "GuardVolume" "memory") ∈ gW := gW_of (i := 135) (by decide +kernel) (by decide +kernel)
theorem kw_136 : (Jvm.Cond.lays "GuardVolume" "GuardVolume" "lastCode" "I") ∈ gW := gW_of (i := 136) (by decide +kernel) (by decide +kernel)
theorem kw_137 : (Jvm.Cond.soleField "GuardVolume" "lastCode") ∈ gW := gW_of (i := 137) (by decide +kernel) (by decide +kernel)
theorem kw_138 : (Jvm.Cond.lays "GuardVolume" "GuardVolume" "nextScrubbed" "I") ∈ gW := gW_of (i := 138) (by decide +kernel) (by decide +kernel)
theorem kw_139 : (Jvm.Cond.soleField "GuardVolume" "nextScrubbed") ∈ gW := gW_of (i := 139) (by decide +kernel) (by decide +kernel)
theorem kw_140 : (Jvm.Cond.laysFinal "GuardVolume" "GuardVolume" "row" "[I") ∈ gW := gW_of (i := 140) (by decide +kernel) (by decide +kernel)
theorem kw_141 : (Jvm.Cond.soleField "GuardVolume" "row") ∈ gW := gW_of (i := 141) (by decide +kernel) (by decide +kernel)
theorem kw_142 : (Jvm.Cond.laysFinal "GuardVolume" "GuardVolume" "listWords" "[I") ∈ gW := gW_of (i := 142) (by decide +kernel) (by decide +kernel)
theorem kw_143 : (Jvm.Cond.soleField "GuardVolume" "listWords") ∈ gW := gW_of (i := 143) (by decide +kernel) (by decide +kernel)
theorem kw_144 : (Jvm.Cond.laysFinal "GuardVolume" "GuardVolume" "copyWords" "[I") ∈ gW := gW_of (i := 144) (by decide +kernel) (by decide +kernel)
theorem kw_145 : (Jvm.Cond.soleField "GuardVolume" "copyWords") ∈ gW := gW_of (i := 145) (by decide +kernel) (by decide +kernel)
theorem kw_146 : (Jvm.Cond.superclass "GuardVolume" "java/lang/Object") ∈ gW := gW_of (i := 146) (by decide +kernel) (by decide +kernel)
theorem kw_147 : (Jvm.Cond.methodLink "GuardVolumeLaw" (83 : Nat) ({ cls := "GuardVolume", name := "code", desc := "()I" } : Jvm.MethodName)) ∈ gW := gW_of (i := 147) (by decide +kernel) (by decide +kernel)
theorem kw_148 : (Jvm.Cond.instanceMethod ({ cls := "GuardVolume", name := "code", desc := "()I" } : Jvm.MethodName)) ∈ gW := gW_of (i := 148) (by decide +kernel) (by decide +kernel)
theorem kw_149 : (Jvm.Cond.selects "GuardVolume" ({ cls := "GuardVolume", name := "code", desc := "()I" } : Jvm.MethodName) ({ cls := "GuardVolume", name := "code", desc := "()I" } : Jvm.MethodName)) ∈ gW := gW_of (i := 149) (by decide +kernel) (by decide +kernel)
theorem kw_150 : (Jvm.Cond.code ({ cls := "GuardVolume", name := "code", desc := "()I" } : Jvm.MethodName) prog_1_method_4_code (1 : Nat) (Option.some Jvm.ClassFile.FieldType.int)) ∈ gW := gW_of (i := 150) (by decide +kernel) (by decide +kernel)
theorem kw_151 : (Jvm.Cond.methodLink "GuardVolumeLaw" (103 : Nat) ({ cls := "GuardVolume", name := "findings", desc := "(Z)I" } : Jvm.MethodName)) ∈ gW := gW_of (i := 151) (by decide +kernel) (by decide +kernel)
theorem kw_152 : (Jvm.Cond.instanceMethod ({ cls := "GuardVolume", name := "findings", desc := "(Z)I" } : Jvm.MethodName)) ∈ gW := gW_of (i := 152) (by decide +kernel) (by decide +kernel)
theorem kw_153 : (Jvm.Cond.selects "GuardVolume" ({ cls := "GuardVolume", name := "findings", desc := "(Z)I" } : Jvm.MethodName) ({ cls := "GuardVolume", name := "findings", desc := "(Z)I" } : Jvm.MethodName)) ∈ gW := gW_of (i := 153) (by decide +kernel) (by decide +kernel)
theorem kw_154 : (Jvm.Cond.code ({ cls := "GuardVolume", name := "findings", desc := "(Z)I" } : Jvm.MethodName) prog_1_method_9_code (3 : Nat) (Option.some Jvm.ClassFile.FieldType.int)) ∈ gW := gW_of (i := 154) (by decide +kernel) (by decide +kernel)
theorem kw_155 : (Jvm.Cond.methodLink "GuardVolumeLaw" (70 : Nat) ({ cls := "GuardVolumeLaw", name := "write", desc := "(LGuardVolume;III[J)I" } : Jvm.MethodName)) ∈ gW := gW_of (i := 155) (by decide +kernel) (by decide +kernel)
theorem kw_156 : (Jvm.Cond.static ({ cls := "GuardVolumeLaw", name := "write", desc := "(LGuardVolume;III[J)I" } : Jvm.MethodName)) ∈ gW := gW_of (i := 156) (by decide +kernel) (by decide +kernel)
theorem kw_157 : (Jvm.Cond.codeWith ({ cls := "GuardVolumeLaw", name := "write", desc := "(LGuardVolume;III[J)I" } : Jvm.MethodName) method_3_code (6 : Nat) (Option.some Jvm.ClassFile.FieldType.int) [((0 : Nat), (12 : Nat), (15 : Nat), (13 : Nat)), ((0 : Nat), (12 : Nat), (19 : Nat), (15 : Nat)), ((0 : Nat), (12 : Nat), (23 : Nat), (17 : Nat))]) ∈ gW := gW_of (i := 157) (by decide +kernel) (by decide +kernel)
theorem kw_158 : (Jvm.Cond.classLink "GuardVolumeLaw" (13 : Nat) "java/lang/IndexOutOfBoundsException") ∈ gW := gW_of (i := 158) (by decide +kernel) (by decide +kernel)
theorem kw_159 : (Jvm.Cond.classLink "GuardVolumeLaw" (15 : Nat) "java/lang/IllegalStateException") ∈ gW := gW_of (i := 159) (by decide +kernel) (by decide +kernel)
theorem kw_160 : (Jvm.Cond.classLink "GuardVolumeLaw" (17 : Nat) "java/lang/UnsupportedOperationException") ∈ gW := gW_of (i := 160) (by decide +kernel) (by decide +kernel)
theorem kw_161 : (Jvm.Cond.methodLink "GuardVolumeLaw" (7 : Nat) ({ cls := "GuardVolume", name := "write", desc := "(III)I" } : Jvm.MethodName)) ∈ gW := gW_of (i := 161) (by decide +kernel) (by decide +kernel)
theorem kw_162 : (Jvm.Cond.instanceMethod ({ cls := "GuardVolume", name := "write", desc := "(III)I" } : Jvm.MethodName)) ∈ gW := gW_of (i := 162) (by decide +kernel) (by decide +kernel)
theorem kw_163 : (Jvm.Cond.selects "GuardVolume" ({ cls := "GuardVolume", name := "write", desc := "(III)I" } : Jvm.MethodName) ({ cls := "GuardVolume", name := "write", desc := "(III)I" } : Jvm.MethodName)) ∈ gW := gW_of (i := 163) (by decide +kernel) (by decide +kernel)
theorem kw_164 : (Jvm.Cond.code ({ cls := "GuardVolume", name := "write", desc := "(III)I" } : Jvm.MethodName) prog_1_method_2_code (5 : Nat) (Option.some Jvm.ClassFile.FieldType.int)) ∈ gW := gW_of (i := 164) (by decide +kernel) (by decide +kernel)
theorem kw_165 : (Jvm.Cond.methodLink "GuardVolume" (60 : Nat) ({ cls := "GuardVolume", name := "isBelow", desc := "(II)Z" } : Jvm.MethodName)) ∈ gW := gW_of (i := 165) (by decide +kernel) (by decide +kernel)
theorem kw_166 : (Jvm.Cond.static ({ cls := "GuardVolume", name := "isBelow", desc := "(II)Z" } : Jvm.MethodName)) ∈ gW := gW_of (i := 166) (by decide +kernel) (by decide +kernel)
theorem kw_167 : (Jvm.Cond.code ({ cls := "GuardVolume", name := "isBelow", desc := "(II)Z" } : Jvm.MethodName) prog_1_method_18_code (2 : Nat) (Option.some Jvm.ClassFile.FieldType.boolean)) ∈ gW := gW_of (i := 167) (by decide +kernel) (by decide +kernel)
theorem kw_168 : (Jvm.Cond.classLink "GuardVolume" (64 : Nat) "java/lang/IndexOutOfBoundsException") ∈ gW := gW_of (i := 168) (by decide +kernel) (by decide +kernel)
theorem kw_169 : (Jvm.Cond.instantiable "java/lang/IndexOutOfBoundsException" (6 : Nat)) ∈ gW := gW_of (i := 169) (by decide +kernel) (by decide +kernel)
theorem kw_177 : (Jvm.Cond.selects "java/lang/IndexOutOfBoundsException" ({ cls := "java/lang/Throwable", name := "fillInStackTrace", desc := "(I)Ljava/lang/Throwable;" } : Jvm.MethodName) ({ cls := "java/lang/Throwable", name := "fillInStackTrace", desc := "(I)Ljava/lang/Throwable;" } : Jvm.MethodName)) ∈ gW := gW_of (i := 177) (by decide +kernel) (by decide +kernel)
theorem kw_178 : (Jvm.Cond.selects "java/lang/IndexOutOfBoundsException" ({ cls := "java/lang/Throwable", name := "fillInStackTrace", desc := "()Ljava/lang/Throwable;" } : Jvm.MethodName) ({ cls := "java/lang/Throwable", name := "fillInStackTrace", desc := "()Ljava/lang/Throwable;" } : Jvm.MethodName)) ∈ gW := gW_of (i := 178) (by decide +kernel) (by decide +kernel)
theorem kw_179 : (Jvm.Cond.lays "java/lang/IndexOutOfBoundsException" "java/lang/Throwable" "cause" "Ljava/lang/Throwable;") ∈ gW := gW_of (i := 179) (by decide +kernel) (by decide +kernel)
theorem kw_180 : (Jvm.Cond.lays "java/lang/Throwable" "java/lang/Throwable" "cause" "Ljava/lang/Throwable;") ∈ gW := gW_of (i := 180) (by decide +kernel) (by decide +kernel)
theorem kw_181 : (Jvm.Cond.lays "java/lang/IndexOutOfBoundsException" "java/lang/Throwable" "stackTrace" "[Ljava/lang/StackTraceElement;") ∈ gW := gW_of (i := 181) (by decide +kernel) (by decide +kernel)
theorem kw_182 : (Jvm.Cond.lays "java/lang/Throwable" "java/lang/Throwable" "stackTrace" "[Ljava/lang/StackTraceElement;") ∈ gW := gW_of (i := 182) (by decide +kernel) (by decide +kernel)
theorem kw_183 : (Jvm.Cond.lays "java/lang/IndexOutOfBoundsException" "java/lang/Throwable" "suppressedExceptions" "Ljava/util/List;") ∈ gW := gW_of (i := 183) (by decide +kernel) (by decide +kernel)
theorem kw_184 : (Jvm.Cond.lays "java/lang/Throwable" "java/lang/Throwable" "suppressedExceptions" "Ljava/util/List;") ∈ gW := gW_of (i := 184) (by decide +kernel) (by decide +kernel)
theorem kw_185 : (Jvm.Cond.lays "java/lang/IndexOutOfBoundsException" "java/lang/Throwable" "detailMessage" "Ljava/lang/String;") ∈ gW := gW_of (i := 185) (by decide +kernel) (by decide +kernel)
theorem kw_186 : (Jvm.Cond.lays "java/lang/Throwable" "java/lang/Throwable" "detailMessage" "Ljava/lang/String;") ∈ gW := gW_of (i := 186) (by decide +kernel) (by decide +kernel)
theorem kw_187 : (Jvm.Cond.lays "java/lang/IndexOutOfBoundsException" "java/lang/Throwable" "backtrace" "Ljava/lang/Object;") ∈ gW := gW_of (i := 187) (by decide +kernel) (by decide +kernel)
theorem kw_188 : (Jvm.Cond.lays "java/lang/Throwable" "java/lang/Throwable" "backtrace" "Ljava/lang/Object;") ∈ gW := gW_of (i := 188) (by decide +kernel) (by decide +kernel)
theorem kw_189 : (Jvm.Cond.fieldLink "java/lang/Throwable" (198 : Nat) "java/lang/Throwable" "backtrace" "Ljava/lang/Object;") ∈ gW := gW_of (i := 189) (by decide +kernel) (by decide +kernel)
theorem kw_190 : (Jvm.Cond.superclass "java/lang/Throwable" "java/lang/Object") ∈ gW := gW_of (i := 190) (by decide +kernel) (by decide +kernel)
theorem kw_191 : (Jvm.Cond.instanceMethod ({ cls := "java/lang/Throwable", name := "<init>", desc := "()V" } : Jvm.MethodName)) ∈ gW := gW_of (i := 191) (by decide +kernel) (by decide +kernel)
theorem kw_192 : (Jvm.Cond.code ({ cls := "java/lang/Throwable", name := "<init>", desc := "()V" } : Jvm.MethodName) prog_15_method_1_code (1 : Nat) (Option.none : Option Jvm.ClassFile.FieldType)) ∈ gW := gW_of (i := 192) (by decide +kernel) (by decide +kernel)
theorem kw_193 : (Jvm.Cond.methodLink "java/lang/Throwable" (1 : Nat) ({ cls := "java/lang/Object", name := "<init>", desc := "()V" } : Jvm.MethodName)) ∈ gW := gW_of (i := 193) (by decide +kernel) (by decide +kernel)
theorem kw_194 : (Jvm.Cond.fieldLink "java/lang/Throwable" (13 : Nat) "java/lang/Throwable" "UNASSIGNED_STACK" "[Ljava/lang/StackTraceElement;") ∈ gW := gW_of (i := 194) (by decide +kernel) (by decide +kernel)
theorem kw_196 : (Jvm.Cond.fieldLink "java/lang/Throwable" (20 : Nat) "java/lang/Throwable" "SUPPRESSED_SENTINEL" "Ljava/util/List;") ∈ gW := gW_of (i := 196) (by decide +kernel) (by decide +kernel)
theorem kw_198 : (Jvm.Cond.methodLink "java/lang/Throwable" (27 : Nat) ({ cls := "java/lang/Throwable", name := "fillInStackTrace", desc := "()Ljava/lang/Throwable;" } : Jvm.MethodName)) ∈ gW := gW_of (i := 198) (by decide +kernel) (by decide +kernel)
theorem kw_199 : (Jvm.Cond.instanceMethod ({ cls := "java/lang/Throwable", name := "fillInStackTrace", desc := "()Ljava/lang/Throwable;" } : Jvm.MethodName)) ∈ gW := gW_of (i := 199) (by decide +kernel) (by decide +kernel)
theorem kw_200 : (Jvm.Cond.sameMethod "java/lang/Throwable" "java/lang/Throwable" "fillInStackTrace" "()Ljava/lang/Throwable;") ∈ gW := gW_of (i := 200) (by decide +kernel) (by decide +kernel)
theorem kw_201 : (Jvm.Cond.selects "java/lang/IllegalArgumentException" ({ cls := "java/lang/Throwable", name := "fillInStackTrace", desc := "()Ljava/lang/Throwable;" } : Jvm.MethodName) ({ cls := "java/lang/Throwable", name := "fillInStackTrace", desc := "()Ljava/lang/Throwable;" } : Jvm.MethodName)) ∈ gW := gW_of (i := 201) (by decide +kernel) (by decide +kernel)
theorem kw_202 : (Jvm.Cond.selects "java/lang/IllegalStateException" ({ cls := "java/lang/Throwable", name := "fillInStackTrace", desc := "()Ljava/lang/Throwable;" } : Jvm.MethodName) ({ cls := "java/lang/Throwable", name := "fillInStackTrace", desc := "()Ljava/lang/Throwable;" } : Jvm.MethodName)) ∈ gW := gW_of (i := 202) (by decide +kernel) (by decide +kernel)
theorem kw_203 : (Jvm.Cond.selects "java/lang/UnsupportedOperationException" ({ cls := "java/lang/Throwable", name := "fillInStackTrace", desc := "()Ljava/lang/Throwable;" } : Jvm.MethodName) ({ cls := "java/lang/Throwable", name := "fillInStackTrace", desc := "()Ljava/lang/Throwable;" } : Jvm.MethodName)) ∈ gW := gW_of (i := 203) (by decide +kernel) (by decide +kernel)
theorem kw_205 : (Jvm.Cond.methodLink "java/lang/Throwable" (202 : Nat) ({ cls := "java/lang/Throwable", name := "fillInStackTrace", desc := "(I)Ljava/lang/Throwable;" } : Jvm.MethodName)) ∈ gW := gW_of (i := 205) (by decide +kernel) (by decide +kernel)
theorem kw_207 : (Jvm.Cond.instanceMethod ({ cls := "java/lang/Throwable", name := "fillInStackTrace", desc := "(I)Ljava/lang/Throwable;" } : Jvm.MethodName)) ∈ gW := gW_of (i := 207) (by decide +kernel) (by decide +kernel)
theorem kw_208 : (Jvm.Cond.instantiable "java/lang/Throwable" (6 : Nat)) ∈ gW := gW_of (i := 208) (by decide +kernel) (by decide +kernel)
theorem kw_209 : (Jvm.Cond.native ({ cls := "java/lang/Throwable", name := "fillInStackTrace", desc := "(I)Ljava/lang/Throwable;" } : Jvm.MethodName)) ∈ gW := gW_of (i := 209) (by decide +kernel) (by decide +kernel)
theorem kw_210 : (Jvm.Cond.methodLink "GuardVolume" (66 : Nat) ({ cls := "java/lang/IndexOutOfBoundsException", name := "<init>", desc := "()V" } : Jvm.MethodName)) ∈ gW := gW_of (i := 210) (by decide +kernel) (by decide +kernel)
theorem kw_211 : (Jvm.Cond.instanceMethod ({ cls := "java/lang/IndexOutOfBoundsException", name := "<init>", desc := "()V" } : Jvm.MethodName)) ∈ gW := gW_of (i := 211) (by decide +kernel) (by decide +kernel)
theorem kw_212 : (Jvm.Cond.code ({ cls := "java/lang/IndexOutOfBoundsException", name := "<init>", desc := "()V" } : Jvm.MethodName) prog_11_method_1_code (1 : Nat) (Option.none : Option Jvm.ClassFile.FieldType)) ∈ gW := gW_of (i := 212) (by decide +kernel) (by decide +kernel)
theorem kw_213 : (Jvm.Cond.methodLink "java/lang/IndexOutOfBoundsException" (1 : Nat) ({ cls := "java/lang/RuntimeException", name := "<init>", desc := "()V" } : Jvm.MethodName)) ∈ gW := gW_of (i := 213) (by decide +kernel) (by decide +kernel)
theorem kw_214 : (Jvm.Cond.instanceMethod ({ cls := "java/lang/RuntimeException", name := "<init>", desc := "()V" } : Jvm.MethodName)) ∈ gW := gW_of (i := 214) (by decide +kernel) (by decide +kernel)
theorem kw_215 : (Jvm.Cond.code ({ cls := "java/lang/RuntimeException", name := "<init>", desc := "()V" } : Jvm.MethodName) prog_13_method_1_code (1 : Nat) (Option.none : Option Jvm.ClassFile.FieldType)) ∈ gW := gW_of (i := 215) (by decide +kernel) (by decide +kernel)
theorem kw_216 : (Jvm.Cond.methodLink "java/lang/RuntimeException" (1 : Nat) ({ cls := "java/lang/Exception", name := "<init>", desc := "()V" } : Jvm.MethodName)) ∈ gW := gW_of (i := 216) (by decide +kernel) (by decide +kernel)
theorem kw_217 : (Jvm.Cond.instanceMethod ({ cls := "java/lang/Exception", name := "<init>", desc := "()V" } : Jvm.MethodName)) ∈ gW := gW_of (i := 217) (by decide +kernel) (by decide +kernel)
theorem kw_218 : (Jvm.Cond.code ({ cls := "java/lang/Exception", name := "<init>", desc := "()V" } : Jvm.MethodName) prog_8_method_1_code (1 : Nat) (Option.none : Option Jvm.ClassFile.FieldType)) ∈ gW := gW_of (i := 218) (by decide +kernel) (by decide +kernel)
theorem kw_219 : (Jvm.Cond.methodLink "java/lang/Exception" (1 : Nat) ({ cls := "java/lang/Throwable", name := "<init>", desc := "()V" } : Jvm.MethodName)) ∈ gW := gW_of (i := 219) (by decide +kernel) (by decide +kernel)
theorem kw_220 : (Jvm.Cond.fieldLink "java/lang/Throwable" (198 : Nat) "java/lang/Throwable" "backtrace" "Ljava/lang/Object;") ∈ gW := gW_of (i := 220) (by decide +kernel) (by decide +kernel)
theorem kw_221 : (Jvm.Cond.fieldLink "java/lang/Throwable" (7 : Nat) "java/lang/Throwable" "cause" "Ljava/lang/Throwable;") ∈ gW := gW_of (i := 221) (by decide +kernel) (by decide +kernel)
theorem kw_222 : (Jvm.Cond.fieldLink "java/lang/Throwable" (17 : Nat) "java/lang/Throwable" "stackTrace" "[Ljava/lang/StackTraceElement;") ∈ gW := gW_of (i := 222) (by decide +kernel) (by decide +kernel)
theorem kw_223 : (Jvm.Cond.fieldLink "java/lang/Throwable" (24 : Nat) "java/lang/Throwable" "suppressedExceptions" "Ljava/util/List;") ∈ gW := gW_of (i := 223) (by decide +kernel) (by decide +kernel)
theorem kw_224 : (Jvm.Cond.soleField "java/lang/Throwable" "backtrace") ∈ gW := gW_of (i := 224) (by decide +kernel) (by decide +kernel)
theorem kw_225 : (Jvm.Cond.soleField "java/lang/Throwable" "detailMessage") ∈ gW := gW_of (i := 225) (by decide +kernel) (by decide +kernel)
theorem kw_226 : (Jvm.Cond.soleField "java/lang/Throwable" "cause") ∈ gW := gW_of (i := 226) (by decide +kernel) (by decide +kernel)
theorem kw_227 : (Jvm.Cond.soleField "java/lang/Throwable" "stackTrace") ∈ gW := gW_of (i := 227) (by decide +kernel) (by decide +kernel)
theorem kw_228 : (Jvm.Cond.lays "java/lang/IndexOutOfBoundsException" "java/lang/Throwable" "depth" "I") ∈ gW := gW_of (i := 228) (by decide +kernel) (by decide +kernel)
theorem kw_229 : (Jvm.Cond.soleField "java/lang/Throwable" "depth") ∈ gW := gW_of (i := 229) (by decide +kernel) (by decide +kernel)
theorem kw_230 : (Jvm.Cond.soleField "java/lang/Throwable" "suppressedExceptions") ∈ gW := gW_of (i := 230) (by decide +kernel) (by decide +kernel)
theorem kw_231 : (Jvm.Cond.superclass "java/lang/IndexOutOfBoundsException" "java/lang/RuntimeException") ∈ gW := gW_of (i := 231) (by decide +kernel) (by decide +kernel)
theorem kw_232 : (Jvm.Cond.classLink "GuardVolume" (71 : Nat) "java/lang/IllegalStateException") ∈ gW := gW_of (i := 232) (by decide +kernel) (by decide +kernel)
theorem kw_233 : (Jvm.Cond.instantiable "java/lang/IllegalStateException" (6 : Nat)) ∈ gW := gW_of (i := 233) (by decide +kernel) (by decide +kernel)
theorem kw_235 : (Jvm.Cond.selects "java/lang/IllegalStateException" ({ cls := "java/lang/Throwable", name := "fillInStackTrace", desc := "(I)Ljava/lang/Throwable;" } : Jvm.MethodName) ({ cls := "java/lang/Throwable", name := "fillInStackTrace", desc := "(I)Ljava/lang/Throwable;" } : Jvm.MethodName)) ∈ gW := gW_of (i := 235) (by decide +kernel) (by decide +kernel)
theorem kw_236 : (Jvm.Cond.lays "java/lang/IllegalStateException" "java/lang/Throwable" "cause" "Ljava/lang/Throwable;") ∈ gW := gW_of (i := 236) (by decide +kernel) (by decide +kernel)
theorem kw_237 : (Jvm.Cond.lays "java/lang/IllegalStateException" "java/lang/Throwable" "stackTrace" "[Ljava/lang/StackTraceElement;") ∈ gW := gW_of (i := 237) (by decide +kernel) (by decide +kernel)
theorem kw_238 : (Jvm.Cond.lays "java/lang/IllegalStateException" "java/lang/Throwable" "suppressedExceptions" "Ljava/util/List;") ∈ gW := gW_of (i := 238) (by decide +kernel) (by decide +kernel)
theorem kw_239 : (Jvm.Cond.lays "java/lang/IllegalStateException" "java/lang/Throwable" "detailMessage" "Ljava/lang/String;") ∈ gW := gW_of (i := 239) (by decide +kernel) (by decide +kernel)
theorem kw_240 : (Jvm.Cond.lays "java/lang/IllegalStateException" "java/lang/Throwable" "backtrace" "Ljava/lang/Object;") ∈ gW := gW_of (i := 240) (by decide +kernel) (by decide +kernel)
theorem kw_241 : (Jvm.Cond.methodLink "GuardVolume" (73 : Nat) ({ cls := "java/lang/IllegalStateException", name := "<init>", desc := "()V" } : Jvm.MethodName)) ∈ gW := gW_of (i := 241) (by decide +kernel) (by decide +kernel)
theorem kw_242 : (Jvm.Cond.instanceMethod ({ cls := "java/lang/IllegalStateException", name := "<init>", desc := "()V" } : Jvm.MethodName)) ∈ gW := gW_of (i := 242) (by decide +kernel) (by decide +kernel)
theorem kw_243 : (Jvm.Cond.code ({ cls := "java/lang/IllegalStateException", name := "<init>", desc := "()V" } : Jvm.MethodName) prog_10_method_1_code (1 : Nat) (Option.none : Option Jvm.ClassFile.FieldType)) ∈ gW := gW_of (i := 243) (by decide +kernel) (by decide +kernel)
theorem kw_244 : (Jvm.Cond.methodLink "java/lang/IllegalStateException" (1 : Nat) ({ cls := "java/lang/RuntimeException", name := "<init>", desc := "()V" } : Jvm.MethodName)) ∈ gW := gW_of (i := 244) (by decide +kernel) (by decide +kernel)
theorem kw_245 : (Jvm.Cond.lays "java/lang/IllegalStateException" "java/lang/Throwable" "depth" "I") ∈ gW := gW_of (i := 245) (by decide +kernel) (by decide +kernel)
theorem kw_246 : (Jvm.Cond.superclass "java/lang/IllegalStateException" "java/lang/RuntimeException") ∈ gW := gW_of (i := 246) (by decide +kernel) (by decide +kernel)
theorem kw_247 : (Jvm.Cond.methodLink "GuardVolume" (74 : Nat) ({ cls := "GuardVolume", name := "goodCopy", desc := "(I)I" } : Jvm.MethodName)) ∈ gW := gW_of (i := 247) (by decide +kernel) (by decide +kernel)
theorem kw_249 : (Jvm.Cond.instanceMethod ({ cls := "GuardVolume", name := "goodCopy", desc := "(I)I" } : Jvm.MethodName)) ∈ gW := gW_of (i := 249) (by decide +kernel) (by decide +kernel)
theorem kw_250 : (Jvm.Cond.code ({ cls := "GuardVolume", name := "goodCopy", desc := "(I)I" } : Jvm.MethodName) prog_1_method_26_code (2 : Nat) (Option.some Jvm.ClassFile.FieldType.int)) ∈ gW := gW_of (i := 250) (by decide +kernel) (by decide +kernel)
theorem kw_251 : (Jvm.Cond.methodLink "GuardVolume" (147 : Nat) ({ cls := "GuardVolume", name := "judge", desc := "(II)I" } : Jvm.MethodName)) ∈ gW := gW_of (i := 251) (by decide +kernel) (by decide +kernel)
theorem kw_253 : (Jvm.Cond.instanceMethod ({ cls := "GuardVolume", name := "judge", desc := "(II)I" } : Jvm.MethodName)) ∈ gW := gW_of (i := 253) (by decide +kernel) (by decide +kernel)
theorem kw_254 : (Jvm.Cond.code ({ cls := "GuardVolume", name := "judge", desc := "(II)I" } : Jvm.MethodName) prog_1_method_25_code (6 : Nat) (Option.some Jvm.ClassFile.FieldType.int)) ∈ gW := gW_of (i := 254) (by decide +kernel) (by decide +kernel)
theorem kw_255 : (Jvm.Cond.methodLink "GuardVolume" (78 : Nat) ({ cls := "GuardVolume", name := "driveOf", desc := "(I)LGuardVolume$Drive;" } : Jvm.MethodName)) ∈ gW := gW_of (i := 255) (by decide +kernel) (by decide +kernel)
theorem kw_257 : (Jvm.Cond.instanceMethod ({ cls := "GuardVolume", name := "driveOf", desc := "(I)LGuardVolume$Drive;" } : Jvm.MethodName)) ∈ gW := gW_of (i := 257) (by decide +kernel) (by decide +kernel)
theorem kw_258 : (Jvm.Cond.code ({ cls := "GuardVolume", name := "driveOf", desc := "(I)LGuardVolume$Drive;" } : Jvm.MethodName) prog_1_method_21_code (2 : Nat) (Option.some (Jvm.ClassFile.FieldType.object "GuardVolume$Drive"))) ∈ gW := gW_of (i := 258) (by decide +kernel) (by decide +kernel)
theorem kn_259 : (Jvm.Cond.methodLinkNest "GuardVolume" (82 : Nat) ({ cls := "GuardVolume$Drive", name := "at", desc := "(II)I" } : Jvm.MethodName) "GuardVolume") ∈ nW := nW_of (i := 259) (by decide +kernel) rfl
theorem kw_261 : (Jvm.Cond.instanceMethod ({ cls := "GuardVolume$Drive", name := "at", desc := "(II)I" } : Jvm.MethodName)) ∈ gW := gW_of (i := 261) (by decide +kernel) (by decide +kernel)
theorem kw_262 : (Jvm.Cond.code ({ cls := "GuardVolume$Drive", name := "at", desc := "(II)I" } : Jvm.MethodName) prog_2_method_2_code (3 : Nat) (Option.some Jvm.ClassFile.FieldType.int)) ∈ gW := gW_of (i := 262) (by decide +kernel) (by decide +kernel)
theorem kw_263 : (Jvm.Cond.methodLink "GuardVolume" (165 : Nat) ({ cls := "GuardVolume", name := "sumOf", desc := "([II)I" } : Jvm.MethodName)) ∈ gW := gW_of (i := 263) (by decide +kernel) (by decide +kernel)
theorem kw_264 : (Jvm.Cond.methodLink "GuardVolume" (144 : Nat) ({ cls := "GuardVolume", name := "expectedVersion", desc := "(II)I" } : Jvm.MethodName)) ∈ gW := gW_of (i := 264) (by decide +kernel) (by decide +kernel)
theorem kw_266 : (Jvm.Cond.instanceMethod ({ cls := "GuardVolume", name := "expectedVersion", desc := "(II)I" } : Jvm.MethodName)) ∈ gW := gW_of (i := 266) (by decide +kernel) (by decide +kernel)
theorem kw_267 : (Jvm.Cond.code ({ cls := "GuardVolume", name := "expectedVersion", desc := "(II)I" } : Jvm.MethodName) prog_1_method_24_code (5 : Nat) (Option.some Jvm.ClassFile.FieldType.int)) ∈ gW := gW_of (i := 267) (by decide +kernel) (by decide +kernel)
theorem kw_268 : (Jvm.Cond.methodLink "GuardVolume" (169 : Nat) ({ cls := "GuardVolume", name := "listDrive", desc := "(II)I" } : Jvm.MethodName)) ∈ gW := gW_of (i := 268) (by decide +kernel) (by decide +kernel)
theorem kw_270 : (Jvm.Cond.instanceMethod ({ cls := "GuardVolume", name := "listDrive", desc := "(II)I" } : Jvm.MethodName)) ∈ gW := gW_of (i := 270) (by decide +kernel) (by decide +kernel)
theorem kw_271 : (Jvm.Cond.code ({ cls := "GuardVolume", name := "listDrive", desc := "(II)I" } : Jvm.MethodName) prog_1_method_23_code (3 : Nat) (Option.some Jvm.ClassFile.FieldType.int)) ∈ gW := gW_of (i := 271) (by decide +kernel) (by decide +kernel)
theorem kw_272 : (Jvm.Cond.methodLink "GuardVolume" (150 : Nat) ({ cls := "GuardVolume", name := "isPageRight", desc := "(II)Z" } : Jvm.MethodName)) ∈ gW := gW_of (i := 272) (by decide +kernel) (by decide +kernel)
theorem kw_274 : (Jvm.Cond.instanceMethod ({ cls := "GuardVolume", name := "isPageRight", desc := "(II)Z" } : Jvm.MethodName)) ∈ gW := gW_of (i := 274) (by decide +kernel) (by decide +kernel)
theorem kw_275 : (Jvm.Cond.code ({ cls := "GuardVolume", name := "isPageRight", desc := "(II)Z" } : Jvm.MethodName) prog_1_method_22_code (5 : Nat) (Option.some Jvm.ClassFile.FieldType.boolean)) ∈ gW := gW_of (i := 275) (by decide +kernel) (by decide +kernel)
theorem kw_276 : (Jvm.Cond.classLink "GuardVolume" (86 : Nat) "java/lang/UnsupportedOperationException") ∈ gW := gW_of (i := 276) (by decide +kernel) (by decide +kernel)
theorem kw_277 : (Jvm.Cond.instantiable "java/lang/UnsupportedOperationException" (6 : Nat)) ∈ gW := gW_of (i := 277) (by decide +kernel) (by decide +kernel)
theorem kw_279 : (Jvm.Cond.selects "java/lang/UnsupportedOperationException" ({ cls := "java/lang/Throwable", name := "fillInStackTrace", desc := "(I)Ljava/lang/Throwable;" } : Jvm.MethodName) ({ cls := "java/lang/Throwable", name := "fillInStackTrace", desc := "(I)Ljava/lang/Throwable;" } : Jvm.MethodName)) ∈ gW := gW_of (i := 279) (by decide +kernel) (by decide +kernel)
theorem kw_280 : (Jvm.Cond.lays "java/lang/UnsupportedOperationException" "java/lang/Throwable" "cause" "Ljava/lang/Throwable;") ∈ gW := gW_of (i := 280) (by decide +kernel) (by decide +kernel)
theorem kw_281 : (Jvm.Cond.lays "java/lang/UnsupportedOperationException" "java/lang/Throwable" "stackTrace" "[Ljava/lang/StackTraceElement;") ∈ gW := gW_of (i := 281) (by decide +kernel) (by decide +kernel)
theorem kw_282 : (Jvm.Cond.lays "java/lang/UnsupportedOperationException" "java/lang/Throwable" "suppressedExceptions" "Ljava/util/List;") ∈ gW := gW_of (i := 282) (by decide +kernel) (by decide +kernel)
theorem kw_283 : (Jvm.Cond.lays "java/lang/UnsupportedOperationException" "java/lang/Throwable" "detailMessage" "Ljava/lang/String;") ∈ gW := gW_of (i := 283) (by decide +kernel) (by decide +kernel)
theorem kw_284 : (Jvm.Cond.lays "java/lang/UnsupportedOperationException" "java/lang/Throwable" "backtrace" "Ljava/lang/Object;") ∈ gW := gW_of (i := 284) (by decide +kernel) (by decide +kernel)
theorem kw_285 : (Jvm.Cond.methodLink "GuardVolume" (88 : Nat) ({ cls := "java/lang/UnsupportedOperationException", name := "<init>", desc := "()V" } : Jvm.MethodName)) ∈ gW := gW_of (i := 285) (by decide +kernel) (by decide +kernel)
theorem kw_286 : (Jvm.Cond.instanceMethod ({ cls := "java/lang/UnsupportedOperationException", name := "<init>", desc := "()V" } : Jvm.MethodName)) ∈ gW := gW_of (i := 286) (by decide +kernel) (by decide +kernel)
theorem kw_287 : (Jvm.Cond.code ({ cls := "java/lang/UnsupportedOperationException", name := "<init>", desc := "()V" } : Jvm.MethodName) prog_16_method_1_code (1 : Nat) (Option.none : Option Jvm.ClassFile.FieldType)) ∈ gW := gW_of (i := 287) (by decide +kernel) (by decide +kernel)
theorem kw_288 : (Jvm.Cond.methodLink "java/lang/UnsupportedOperationException" (1 : Nat) ({ cls := "java/lang/RuntimeException", name := "<init>", desc := "()V" } : Jvm.MethodName)) ∈ gW := gW_of (i := 288) (by decide +kernel) (by decide +kernel)
theorem kw_289 : (Jvm.Cond.lays "java/lang/UnsupportedOperationException" "java/lang/Throwable" "depth" "I") ∈ gW := gW_of (i := 289) (by decide +kernel) (by decide +kernel)
theorem kw_290 : (Jvm.Cond.superclass "java/lang/UnsupportedOperationException" "java/lang/RuntimeException") ∈ gW := gW_of (i := 290) (by decide +kernel) (by decide +kernel)
theorem kw_291 : (Jvm.Cond.methodLink "GuardVolume" (89 : Nat) ({ cls := "GuardVolume", name := "codeOf", desc := "(I)I" } : Jvm.MethodName)) ∈ gW := gW_of (i := 291) (by decide +kernel) (by decide +kernel)
theorem kw_292 : (Jvm.Cond.static ({ cls := "GuardVolume", name := "codeOf", desc := "(I)I" } : Jvm.MethodName)) ∈ gW := gW_of (i := 292) (by decide +kernel) (by decide +kernel)
theorem kw_293 : (Jvm.Cond.code ({ cls := "GuardVolume", name := "codeOf", desc := "(I)I" } : Jvm.MethodName) prog_1_method_27_code (1 : Nat) (Option.some Jvm.ClassFile.FieldType.int)) ∈ gW := gW_of (i := 293) (by decide +kernel) (by decide +kernel)
theorem kn_294 : (Jvm.Cond.methodLinkNest "GuardVolume" (95 : Nat) ({ cls := "GuardVolume$Drive", name := "giveWords", desc := "(I[I)V" } : Jvm.MethodName) "GuardVolume") ∈ nW := nW_of (i := 294) (by decide +kernel) rfl
theorem kw_296 : (Jvm.Cond.instanceMethod ({ cls := "GuardVolume$Drive", name := "giveWords", desc := "(I[I)V" } : Jvm.MethodName)) ∈ gW := gW_of (i := 296) (by decide +kernel) (by decide +kernel)
theorem kw_297 : (Jvm.Cond.code ({ cls := "GuardVolume$Drive", name := "giveWords", desc := "(I[I)V" } : Jvm.MethodName) prog_2_method_3_code (3 : Nat) (Option.none : Option Jvm.ClassFile.FieldType)) ∈ gW := gW_of (i := 297) (by decide +kernel) (by decide +kernel)
theorem kw_298 : (Jvm.Cond.methodLink "GuardVolume" (105 : Nat) ({ cls := "GuardVolume", name := "putNotedBlock", desc := "()Z" } : Jvm.MethodName)) ∈ gW := gW_of (i := 298) (by decide +kernel) (by decide +kernel)
theorem kw_300 : (Jvm.Cond.instanceMethod ({ cls := "GuardVolume", name := "putNotedBlock", desc := "()Z" } : Jvm.MethodName)) ∈ gW := gW_of (i := 300) (by decide +kernel) (by decide +kernel)
theorem kw_301 : (Jvm.Cond.code ({ cls := "GuardVolume", name := "putNotedBlock", desc := "()Z" } : Jvm.MethodName) prog_1_method_31_code (2 : Nat) (Option.some Jvm.ClassFile.FieldType.boolean)) ∈ gW := gW_of (i := 301) (by decide +kernel) (by decide +kernel)
theorem kw_302 : (Jvm.Cond.methodLink "GuardVolume" (197 : Nat) ({ cls := "GuardVolume", name := "putCopy", desc := "(II[II)Z" } : Jvm.MethodName)) ∈ gW := gW_of (i := 302) (by decide +kernel) (by decide +kernel)
theorem kw_304 : (Jvm.Cond.instanceMethod ({ cls := "GuardVolume", name := "putCopy", desc := "(II[II)Z" } : Jvm.MethodName)) ∈ gW := gW_of (i := 304) (by decide +kernel) (by decide +kernel)
theorem kw_305 : (Jvm.Cond.code ({ cls := "GuardVolume", name := "putCopy", desc := "(II[II)Z" } : Jvm.MethodName) prog_1_method_30_code (5 : Nat) (Option.some Jvm.ClassFile.FieldType.boolean)) ∈ gW := gW_of (i := 305) (by decide +kernel) (by decide +kernel)
theorem kw_306 : (Jvm.Cond.methodLink "GuardVolume" (190 : Nat) ({ cls := "GuardVolume", name := "store", desc := "(II[II)Z" } : Jvm.MethodName)) ∈ gW := gW_of (i := 306) (by decide +kernel) (by decide +kernel)
theorem kw_308 : (Jvm.Cond.instanceMethod ({ cls := "GuardVolume", name := "store", desc := "(II[II)Z" } : Jvm.MethodName)) ∈ gW := gW_of (i := 308) (by decide +kernel) (by decide +kernel)
theorem kw_309 : (Jvm.Cond.code ({ cls := "GuardVolume", name := "store", desc := "(II[II)Z" } : Jvm.MethodName) prog_1_method_28_code (5 : Nat) (Option.some Jvm.ClassFile.FieldType.boolean)) ∈ gW := gW_of (i := 309) (by decide +kernel) (by decide +kernel)
theorem kn_310 : (Jvm.Cond.methodLinkNest "GuardVolume" (172 : Nat) ({ cls := "GuardVolume$Power", name := "allowsWrite", desc := "()Z" } : Jvm.MethodName) "GuardVolume") ∈ nW := nW_of (i := 310) (by decide +kernel) rfl
theorem kw_312 : (Jvm.Cond.instanceMethod ({ cls := "GuardVolume$Power", name := "allowsWrite", desc := "()Z" } : Jvm.MethodName)) ∈ gW := gW_of (i := 312) (by decide +kernel) (by decide +kernel)
theorem kw_313 : (Jvm.Cond.code ({ cls := "GuardVolume$Power", name := "allowsWrite", desc := "()Z" } : Jvm.MethodName) prog_5_method_2_code (1 : Nat) (Option.some Jvm.ClassFile.FieldType.boolean)) ∈ gW := gW_of (i := 313) (by decide +kernel) (by decide +kernel)
theorem kw_314 : (Jvm.Cond.methodLink "GuardVolume" (175 : Nat) ({ cls := "java/lang/System", name := "arraycopy", desc := "(Ljava/lang/Object;ILjava/lang/Object;II)V" } : Jvm.MethodName)) ∈ gW := gW_of (i := 314) (by decide +kernel) (by decide +kernel)
theorem kn_315 : (Jvm.Cond.methodLinkNest "GuardVolume" (181 : Nat) ({ cls := "GuardVolume$Drive", name := "take", desc := "(I[I)V" } : Jvm.MethodName) "GuardVolume") ∈ nW := nW_of (i := 315) (by decide +kernel) rfl
theorem kw_317 : (Jvm.Cond.instanceMethod ({ cls := "GuardVolume$Drive", name := "take", desc := "(I[I)V" } : Jvm.MethodName)) ∈ gW := gW_of (i := 317) (by decide +kernel) (by decide +kernel)
theorem kw_318 : (Jvm.Cond.code ({ cls := "GuardVolume$Drive", name := "take", desc := "(I[I)V" } : Jvm.MethodName) prog_2_method_8_code (6 : Nat) (Option.none : Option Jvm.ClassFile.FieldType)) ∈ gW := gW_of (i := 318) (by decide +kernel) (by decide +kernel)
theorem kw_319 : (Jvm.Cond.methodLink "GuardVolume$Drive" (47 : Nat) ({ cls := "GuardVolume$Drive", name := "planOfNext", desc := "(I)I" } : Jvm.MethodName)) ∈ gW := gW_of (i := 319) (by decide +kernel) (by decide +kernel)
theorem kw_321 : (Jvm.Cond.instanceMethod ({ cls := "GuardVolume$Drive", name := "planOfNext", desc := "(I)I" } : Jvm.MethodName)) ∈ gW := gW_of (i := 321) (by decide +kernel) (by decide +kernel)
theorem kw_322 : (Jvm.Cond.code ({ cls := "GuardVolume$Drive", name := "planOfNext", desc := "(I)I" } : Jvm.MethodName) prog_2_method_5_code (3 : Nat) (Option.some Jvm.ClassFile.FieldType.int)) ∈ gW := gW_of (i := 322) (by decide +kernel) (by decide +kernel)
theorem kw_323 : (Jvm.Cond.methodLink "GuardVolume$Drive" (51 : Nat) ({ cls := "GuardVolume$Drive", name := "keep", desc := "(I[II)V" } : Jvm.MethodName)) ∈ gW := gW_of (i := 323) (by decide +kernel) (by decide +kernel)
theorem kw_325 : (Jvm.Cond.instanceMethod ({ cls := "GuardVolume$Drive", name := "keep", desc := "(I[II)V" } : Jvm.MethodName)) ∈ gW := gW_of (i := 325) (by decide +kernel) (by decide +kernel)
theorem kw_326 : (Jvm.Cond.code ({ cls := "GuardVolume$Drive", name := "keep", desc := "(I[II)V" } : Jvm.MethodName) prog_2_method_9_code (4 : Nat) (Option.none : Option Jvm.ClassFile.FieldType)) ∈ gW := gW_of (i := 326) (by decide +kernel) (by decide +kernel)
theorem kw_327 : (Jvm.Cond.methodLink "GuardVolume$Drive" (55 : Nat) ({ cls := "GuardVolume$Drive", name := "removePlan", desc := "(I)V" } : Jvm.MethodName)) ∈ gW := gW_of (i := 327) (by decide +kernel) (by decide +kernel)
theorem kw_329 : (Jvm.Cond.instanceMethod ({ cls := "GuardVolume$Drive", name := "removePlan", desc := "(I)V" } : Jvm.MethodName)) ∈ gW := gW_of (i := 329) (by decide +kernel) (by decide +kernel)
theorem kw_330 : (Jvm.Cond.code ({ cls := "GuardVolume$Drive", name := "removePlan", desc := "(I)V" } : Jvm.MethodName) prog_2_method_7_code (2 : Nat) (Option.none : Option Jvm.ClassFile.FieldType)) ∈ gW := gW_of (i := 330) (by decide +kernel) (by decide +kernel)
theorem kw_331 : (Jvm.Cond.methodLink "GuardVolume" (194 : Nat) ({ cls := "GuardVolume", name := "storeList", desc := "(III)Z" } : Jvm.MethodName)) ∈ gW := gW_of (i := 331) (by decide +kernel) (by decide +kernel)
theorem kw_333 : (Jvm.Cond.instanceMethod ({ cls := "GuardVolume", name := "storeList", desc := "(III)Z" } : Jvm.MethodName)) ∈ gW := gW_of (i := 333) (by decide +kernel) (by decide +kernel)
theorem kw_334 : (Jvm.Cond.code ({ cls := "GuardVolume", name := "storeList", desc := "(III)Z" } : Jvm.MethodName) prog_1_method_29_code (8 : Nat) (Option.some Jvm.ClassFile.FieldType.boolean)) ∈ gW := gW_of (i := 334) (by decide +kernel) (by decide +kernel)
theorem kw_335 : (Jvm.Cond.methodLink "GuardVolume" (184 : Nat) ({ cls := "java/util/Arrays", name := "fill", desc := "([II)V" } : Jvm.MethodName)) ∈ gW := gW_of (i := 335) (by decide +kernel) (by decide +kernel)
theorem kw_336 : (Jvm.Cond.static ({ cls := "java/util/Arrays", name := "fill", desc := "([II)V" } : Jvm.MethodName)) ∈ gW := gW_of (i := 336) (by decide +kernel) (by decide +kernel)
theorem kw_337 : (Jvm.Cond.code ({ cls := "java/util/Arrays", name := "fill", desc := "([II)V" } : Jvm.MethodName) prog_17_method_103_code (4 : Nat) (Option.none : Option Jvm.ClassFile.FieldType)) ∈ gW := gW_of (i := 337) (by decide +kernel) (by decide +kernel)
theorem kw_338 : (Jvm.Cond.methodLink "GuardVolumeLaw" (79 : Nat) ({ cls := "GuardVolumeLaw", name := "read", desc := "(LGuardVolume;II[J)I" } : Jvm.MethodName)) ∈ gW := gW_of (i := 338) (by decide +kernel) (by decide +kernel)
theorem kw_339 : (Jvm.Cond.static ({ cls := "GuardVolumeLaw", name := "read", desc := "(LGuardVolume;II[J)I" } : Jvm.MethodName)) ∈ gW := gW_of (i := 339) (by decide +kernel) (by decide +kernel)
theorem kw_340 : (Jvm.Cond.codeWith ({ cls := "GuardVolumeLaw", name := "read", desc := "(LGuardVolume;II[J)I" } : Jvm.MethodName) method_4_code (5 : Nat) (Option.some Jvm.ClassFile.FieldType.int) [((0 : Nat), (10 : Nat), (13 : Nat), (13 : Nat)), ((0 : Nat), (10 : Nat), (17 : Nat), (15 : Nat))]) ∈ gW := gW_of (i := 340) (by decide +kernel) (by decide +kernel)
theorem kw_341 : (Jvm.Cond.methodLink "GuardVolumeLaw" (19 : Nat) ({ cls := "GuardVolume", name := "read", desc := "(II)I" } : Jvm.MethodName)) ∈ gW := gW_of (i := 341) (by decide +kernel) (by decide +kernel)
theorem kw_342 : (Jvm.Cond.instanceMethod ({ cls := "GuardVolume", name := "read", desc := "(II)I" } : Jvm.MethodName)) ∈ gW := gW_of (i := 342) (by decide +kernel) (by decide +kernel)
theorem kw_343 : (Jvm.Cond.selects "GuardVolume" ({ cls := "GuardVolume", name := "read", desc := "(II)I" } : Jvm.MethodName) ({ cls := "GuardVolume", name := "read", desc := "(II)I" } : Jvm.MethodName)) ∈ gW := gW_of (i := 343) (by decide +kernel) (by decide +kernel)
theorem kw_344 : (Jvm.Cond.code ({ cls := "GuardVolume", name := "read", desc := "(II)I" } : Jvm.MethodName) prog_1_method_3_code (4 : Nat) (Option.some Jvm.ClassFile.FieldType.int)) ∈ gW := gW_of (i := 344) (by decide +kernel) (by decide +kernel)
theorem kw_345 : (Jvm.Cond.methodLink "GuardVolumeLaw" (87 : Nat) ({ cls := "GuardVolumeLaw", name := "plan", desc := "(LGuardVolume;IIII)I" } : Jvm.MethodName)) ∈ gW := gW_of (i := 345) (by decide +kernel) (by decide +kernel)
theorem kw_346 : (Jvm.Cond.static ({ cls := "GuardVolumeLaw", name := "plan", desc := "(LGuardVolume;IIII)I" } : Jvm.MethodName)) ∈ gW := gW_of (i := 346) (by decide +kernel) (by decide +kernel)
theorem kw_347 : (Jvm.Cond.codeWith ({ cls := "GuardVolumeLaw", name := "plan", desc := "(LGuardVolume;IIII)I" } : Jvm.MethodName) method_5_code (6 : Nat) (Option.some Jvm.ClassFile.FieldType.int) [((0 : Nat), (9 : Nat), (12 : Nat), (13 : Nat)), ((0 : Nat), (9 : Nat), (16 : Nat), (27 : Nat)), ((0 : Nat), (9 : Nat), (20 : Nat), (17 : Nat))]) ∈ gW := gW_of (i := 347) (by decide +kernel) (by decide +kernel)
theorem kw_348 : (Jvm.Cond.classLink "GuardVolumeLaw" (27 : Nat) "java/lang/IllegalArgumentException") ∈ gW := gW_of (i := 348) (by decide +kernel) (by decide +kernel)
theorem kw_349 : (Jvm.Cond.methodLink "GuardVolumeLaw" (23 : Nat) ({ cls := "GuardVolume", name := "plan", desc := "(IIII)V" } : Jvm.MethodName)) ∈ gW := gW_of (i := 349) (by decide +kernel) (by decide +kernel)
theorem kw_350 : (Jvm.Cond.instanceMethod ({ cls := "GuardVolume", name := "plan", desc := "(IIII)V" } : Jvm.MethodName)) ∈ gW := gW_of (i := 350) (by decide +kernel) (by decide +kernel)
theorem kw_351 : (Jvm.Cond.selects "GuardVolume" ({ cls := "GuardVolume", name := "plan", desc := "(IIII)V" } : Jvm.MethodName) ({ cls := "GuardVolume", name := "plan", desc := "(IIII)V" } : Jvm.MethodName)) ∈ gW := gW_of (i := 351) (by decide +kernel) (by decide +kernel)
theorem kw_352 : (Jvm.Cond.code ({ cls := "GuardVolume", name := "plan", desc := "(IIII)V" } : Jvm.MethodName) prog_1_method_5_code (5 : Nat) (Option.none : Option Jvm.ClassFile.FieldType)) ∈ gW := gW_of (i := 352) (by decide +kernel) (by decide +kernel)
theorem kw_353 : (Jvm.Cond.methodLink "GuardVolume" (109 : Nat) ({ cls := "GuardVolume", name := "isPlan", desc := "(II)Z" } : Jvm.MethodName)) ∈ gW := gW_of (i := 353) (by decide +kernel) (by decide +kernel)
theorem kw_354 : (Jvm.Cond.static ({ cls := "GuardVolume", name := "isPlan", desc := "(II)Z" } : Jvm.MethodName)) ∈ gW := gW_of (i := 354) (by decide +kernel) (by decide +kernel)
theorem kw_355 : (Jvm.Cond.code ({ cls := "GuardVolume", name := "isPlan", desc := "(II)Z" } : Jvm.MethodName) prog_1_method_19_code (2 : Nat) (Option.some Jvm.ClassFile.FieldType.boolean)) ∈ gW := gW_of (i := 355) (by decide +kernel) (by decide +kernel)
theorem kn_356 : (Jvm.Cond.methodLinkNest "GuardVolume" (112 : Nat) ({ cls := "GuardVolume$Drive", name := "planOfNext", desc := "(I)I" } : Jvm.MethodName) "GuardVolume") ∈ nW := nW_of (i := 356) (by decide +kernel) rfl
theorem kw_357 : (Jvm.Cond.classLink "GuardVolume" (115 : Nat) "java/lang/IllegalArgumentException") ∈ gW := gW_of (i := 357) (by decide +kernel) (by decide +kernel)
theorem kw_358 : (Jvm.Cond.instantiable "java/lang/IllegalArgumentException" (6 : Nat)) ∈ gW := gW_of (i := 358) (by decide +kernel) (by decide +kernel)
theorem kw_360 : (Jvm.Cond.selects "java/lang/IllegalArgumentException" ({ cls := "java/lang/Throwable", name := "fillInStackTrace", desc := "(I)Ljava/lang/Throwable;" } : Jvm.MethodName) ({ cls := "java/lang/Throwable", name := "fillInStackTrace", desc := "(I)Ljava/lang/Throwable;" } : Jvm.MethodName)) ∈ gW := gW_of (i := 360) (by decide +kernel) (by decide +kernel)
theorem kw_361 : (Jvm.Cond.lays "java/lang/IllegalArgumentException" "java/lang/Throwable" "cause" "Ljava/lang/Throwable;") ∈ gW := gW_of (i := 361) (by decide +kernel) (by decide +kernel)
theorem kw_362 : (Jvm.Cond.lays "java/lang/IllegalArgumentException" "java/lang/Throwable" "stackTrace" "[Ljava/lang/StackTraceElement;") ∈ gW := gW_of (i := 362) (by decide +kernel) (by decide +kernel)
theorem kw_363 : (Jvm.Cond.lays "java/lang/IllegalArgumentException" "java/lang/Throwable" "suppressedExceptions" "Ljava/util/List;") ∈ gW := gW_of (i := 363) (by decide +kernel) (by decide +kernel)
theorem kw_364 : (Jvm.Cond.lays "java/lang/IllegalArgumentException" "java/lang/Throwable" "detailMessage" "Ljava/lang/String;") ∈ gW := gW_of (i := 364) (by decide +kernel) (by decide +kernel)
theorem kw_365 : (Jvm.Cond.lays "java/lang/IllegalArgumentException" "java/lang/Throwable" "backtrace" "Ljava/lang/Object;") ∈ gW := gW_of (i := 365) (by decide +kernel) (by decide +kernel)
theorem kw_366 : (Jvm.Cond.methodLink "GuardVolume" (117 : Nat) ({ cls := "java/lang/IllegalArgumentException", name := "<init>", desc := "()V" } : Jvm.MethodName)) ∈ gW := gW_of (i := 366) (by decide +kernel) (by decide +kernel)
theorem kw_367 : (Jvm.Cond.instanceMethod ({ cls := "java/lang/IllegalArgumentException", name := "<init>", desc := "()V" } : Jvm.MethodName)) ∈ gW := gW_of (i := 367) (by decide +kernel) (by decide +kernel)
theorem kw_368 : (Jvm.Cond.code ({ cls := "java/lang/IllegalArgumentException", name := "<init>", desc := "()V" } : Jvm.MethodName) prog_9_method_1_code (1 : Nat) (Option.none : Option Jvm.ClassFile.FieldType)) ∈ gW := gW_of (i := 368) (by decide +kernel) (by decide +kernel)
theorem kw_369 : (Jvm.Cond.methodLink "java/lang/IllegalArgumentException" (1 : Nat) ({ cls := "java/lang/RuntimeException", name := "<init>", desc := "()V" } : Jvm.MethodName)) ∈ gW := gW_of (i := 369) (by decide +kernel) (by decide +kernel)
theorem kw_370 : (Jvm.Cond.lays "java/lang/IllegalArgumentException" "java/lang/Throwable" "depth" "I") ∈ gW := gW_of (i := 370) (by decide +kernel) (by decide +kernel)
theorem kw_371 : (Jvm.Cond.superclass "java/lang/IllegalArgumentException" "java/lang/RuntimeException") ∈ gW := gW_of (i := 371) (by decide +kernel) (by decide +kernel)
theorem kn_372 : (Jvm.Cond.methodLinkNest "GuardVolume" (121 : Nat) ({ cls := "GuardVolume$Drive", name := "addPlan", desc := "(III)V" } : Jvm.MethodName) "GuardVolume") ∈ nW := nW_of (i := 372) (by decide +kernel) rfl
theorem kw_374 : (Jvm.Cond.instanceMethod ({ cls := "GuardVolume$Drive", name := "addPlan", desc := "(III)V" } : Jvm.MethodName)) ∈ gW := gW_of (i := 374) (by decide +kernel) (by decide +kernel)
theorem kw_375 : (Jvm.Cond.code ({ cls := "GuardVolume$Drive", name := "addPlan", desc := "(III)V" } : Jvm.MethodName) prog_2_method_6_code (4 : Nat) (Option.none : Option Jvm.ClassFile.FieldType)) ∈ gW := gW_of (i := 375) (by decide +kernel) (by decide +kernel)
theorem kw_376 : (Jvm.Cond.methodLink "GuardVolumeLaw" (91 : Nat) ({ cls := "GuardVolumeLaw", name := "cutAfter", desc := "(LGuardVolume;I)I" } : Jvm.MethodName)) ∈ gW := gW_of (i := 376) (by decide +kernel) (by decide +kernel)
theorem kw_377 : (Jvm.Cond.static ({ cls := "GuardVolumeLaw", name := "cutAfter", desc := "(LGuardVolume;I)I" } : Jvm.MethodName)) ∈ gW := gW_of (i := 377) (by decide +kernel) (by decide +kernel)
theorem kw_378 : (Jvm.Cond.codeWith ({ cls := "GuardVolumeLaw", name := "cutAfter", desc := "(LGuardVolume;I)I" } : Jvm.MethodName) method_6_code (3 : Nat) (Option.some Jvm.ClassFile.FieldType.int) [((0 : Nat), (5 : Nat), (8 : Nat), (27 : Nat)), ((0 : Nat), (5 : Nat), (11 : Nat), (15 : Nat))]) ∈ gW := gW_of (i := 378) (by decide +kernel) (by decide +kernel)
theorem kw_379 : (Jvm.Cond.methodLink "GuardVolumeLaw" (29 : Nat) ({ cls := "GuardVolume", name := "cutAfter", desc := "(I)V" } : Jvm.MethodName)) ∈ gW := gW_of (i := 379) (by decide +kernel) (by decide +kernel)
theorem kw_380 : (Jvm.Cond.instanceMethod ({ cls := "GuardVolume", name := "cutAfter", desc := "(I)V" } : Jvm.MethodName)) ∈ gW := gW_of (i := 380) (by decide +kernel) (by decide +kernel)
theorem kw_381 : (Jvm.Cond.selects "GuardVolume" ({ cls := "GuardVolume", name := "cutAfter", desc := "(I)V" } : Jvm.MethodName) ({ cls := "GuardVolume", name := "cutAfter", desc := "(I)V" } : Jvm.MethodName)) ∈ gW := gW_of (i := 381) (by decide +kernel) (by decide +kernel)
theorem kw_382 : (Jvm.Cond.code ({ cls := "GuardVolume", name := "cutAfter", desc := "(I)V" } : Jvm.MethodName) prog_1_method_6_code (2 : Nat) (Option.none : Option Jvm.ClassFile.FieldType)) ∈ gW := gW_of (i := 382) (by decide +kernel) (by decide +kernel)
theorem kw_383 : (Jvm.Cond.methodLink "GuardVolumeLaw" (95 : Nat) ({ cls := "GuardVolumeLaw", name := "start", desc := "(LGuardVolume;[J)I" } : Jvm.MethodName)) ∈ gW := gW_of (i := 383) (by decide +kernel) (by decide +kernel)
theorem kw_384 : (Jvm.Cond.static ({ cls := "GuardVolumeLaw", name := "start", desc := "(LGuardVolume;[J)I" } : Jvm.MethodName)) ∈ gW := gW_of (i := 384) (by decide +kernel) (by decide +kernel)
theorem kw_385 : (Jvm.Cond.codeWith ({ cls := "GuardVolumeLaw", name := "start", desc := "(LGuardVolume;[J)I" } : Jvm.MethodName) method_7_code (3 : Nat) (Option.some Jvm.ClassFile.FieldType.int) [((0 : Nat), (8 : Nat), (11 : Nat), (15 : Nat))]) ∈ gW := gW_of (i := 385) (by decide +kernel) (by decide +kernel)
theorem kw_386 : (Jvm.Cond.methodLink "GuardVolumeLaw" (33 : Nat) ({ cls := "GuardVolume", name := "start", desc := "()I" } : Jvm.MethodName)) ∈ gW := gW_of (i := 386) (by decide +kernel) (by decide +kernel)
theorem kw_387 : (Jvm.Cond.instanceMethod ({ cls := "GuardVolume", name := "start", desc := "()I" } : Jvm.MethodName)) ∈ gW := gW_of (i := 387) (by decide +kernel) (by decide +kernel)
theorem kw_388 : (Jvm.Cond.selects "GuardVolume" ({ cls := "GuardVolume", name := "start", desc := "()I" } : Jvm.MethodName) ({ cls := "GuardVolume", name := "start", desc := "()I" } : Jvm.MethodName)) ∈ gW := gW_of (i := 388) (by decide +kernel) (by decide +kernel)
theorem kw_389 : (Jvm.Cond.code ({ cls := "GuardVolume", name := "start", desc := "()I" } : Jvm.MethodName) prog_1_method_7_code (2 : Nat) (Option.some Jvm.ClassFile.FieldType.int)) ∈ gW := gW_of (i := 389) (by decide +kernel) (by decide +kernel)
theorem kw_390 : (Jvm.Cond.methodLink "GuardVolumeLaw" (99 : Nat) ({ cls := "GuardVolumeLaw", name := "scrub", desc := "(LGuardVolume;I[J)I" } : Jvm.MethodName)) ∈ gW := gW_of (i := 390) (by decide +kernel) (by decide +kernel)
theorem kw_391 : (Jvm.Cond.static ({ cls := "GuardVolumeLaw", name := "scrub", desc := "(LGuardVolume;I[J)I" } : Jvm.MethodName)) ∈ gW := gW_of (i := 391) (by decide +kernel) (by decide +kernel)
theorem kw_392 : (Jvm.Cond.codeWith ({ cls := "GuardVolumeLaw", name := "scrub", desc := "(LGuardVolume;I[J)I" } : Jvm.MethodName) method_8_code (4 : Nat) (Option.some Jvm.ClassFile.FieldType.int) [((0 : Nat), (9 : Nat), (12 : Nat), (15 : Nat)), ((0 : Nat), (9 : Nat), (15 : Nat), (27 : Nat))]) ∈ gW := gW_of (i := 392) (by decide +kernel) (by decide +kernel)
theorem kw_393 : (Jvm.Cond.methodLink "GuardVolumeLaw" (37 : Nat) ({ cls := "GuardVolume", name := "scrub", desc := "(I)I" } : Jvm.MethodName)) ∈ gW := gW_of (i := 393) (by decide +kernel) (by decide +kernel)
theorem kw_394 : (Jvm.Cond.instanceMethod ({ cls := "GuardVolume", name := "scrub", desc := "(I)I" } : Jvm.MethodName)) ∈ gW := gW_of (i := 394) (by decide +kernel) (by decide +kernel)
theorem kw_395 : (Jvm.Cond.selects "GuardVolume" ({ cls := "GuardVolume", name := "scrub", desc := "(I)I" } : Jvm.MethodName) ({ cls := "GuardVolume", name := "scrub", desc := "(I)I" } : Jvm.MethodName)) ∈ gW := gW_of (i := 395) (by decide +kernel) (by decide +kernel)
theorem kw_396 : (Jvm.Cond.code ({ cls := "GuardVolume", name := "scrub", desc := "(I)I" } : Jvm.MethodName) prog_1_method_8_code (4 : Nat) (Option.some Jvm.ClassFile.FieldType.int)) ∈ gW := gW_of (i := 396) (by decide +kernel) (by decide +kernel)
theorem kw_397 : (Jvm.Cond.methodLink "GuardVolume" (134 : Nat) ({ cls := "GuardVolume", name := "scrubBlock", desc := "(I)Z" } : Jvm.MethodName)) ∈ gW := gW_of (i := 397) (by decide +kernel) (by decide +kernel)
theorem kw_399 : (Jvm.Cond.instanceMethod ({ cls := "GuardVolume", name := "scrubBlock", desc := "(I)Z" } : Jvm.MethodName)) ∈ gW := gW_of (i := 399) (by decide +kernel) (by decide +kernel)
theorem kw_400 : (Jvm.Cond.code ({ cls := "GuardVolume", name := "scrubBlock", desc := "(I)Z" } : Jvm.MethodName) prog_1_method_32_code (2 : Nat) (Option.some Jvm.ClassFile.FieldType.boolean)) ∈ gW := gW_of (i := 400) (by decide +kernel) (by decide +kernel)
theorem kw_401 : (Jvm.Cond.methodLink "GuardVolume" (200 : Nat) ({ cls := "GuardVolume", name := "mendList", desc := "(II)Z" } : Jvm.MethodName)) ∈ gW := gW_of (i := 401) (by decide +kernel) (by decide +kernel)
theorem kw_403 : (Jvm.Cond.instanceMethod ({ cls := "GuardVolume", name := "mendList", desc := "(II)Z" } : Jvm.MethodName)) ∈ gW := gW_of (i := 403) (by decide +kernel) (by decide +kernel)
theorem kw_404 : (Jvm.Cond.code ({ cls := "GuardVolume", name := "mendList", desc := "(II)Z" } : Jvm.MethodName) prog_1_method_33_code (5 : Nat) (Option.some Jvm.ClassFile.FieldType.boolean)) ∈ gW := gW_of (i := 404) (by decide +kernel) (by decide +kernel)
theorem kn_405 : (Jvm.Cond.methodLinkNest "GuardVolume" (206 : Nat) ({ cls := "GuardVolume$Findings", name := "tell", desc := "(IIII)V" } : Jvm.MethodName) "GuardVolume") ∈ nW := nW_of (i := 405) (by decide +kernel) rfl
theorem kw_407 : (Jvm.Cond.instanceMethod ({ cls := "GuardVolume$Findings", name := "tell", desc := "(IIII)V" } : Jvm.MethodName)) ∈ gW := gW_of (i := 407) (by decide +kernel) (by decide +kernel)
theorem kw_408 : (Jvm.Cond.code ({ cls := "GuardVolume$Findings", name := "tell", desc := "(IIII)V" } : Jvm.MethodName) prog_3_method_2_code (6 : Nat) (Option.none : Option Jvm.ClassFile.FieldType)) ∈ gW := gW_of (i := 408) (by decide +kernel) (by decide +kernel)
theorem kw_409 : (Jvm.Cond.methodLink "GuardVolume" (203 : Nat) ({ cls := "GuardVolume", name := "mendCopies", desc := "(I)Z" } : Jvm.MethodName)) ∈ gW := gW_of (i := 409) (by decide +kernel) (by decide +kernel)
theorem kw_411 : (Jvm.Cond.instanceMethod ({ cls := "GuardVolume", name := "mendCopies", desc := "(I)Z" } : Jvm.MethodName)) ∈ gW := gW_of (i := 411) (by decide +kernel) (by decide +kernel)
theorem kw_412 : (Jvm.Cond.code ({ cls := "GuardVolume", name := "mendCopies", desc := "(I)Z" } : Jvm.MethodName) prog_1_method_34_code (5 : Nat) (Option.some Jvm.ClassFile.FieldType.boolean)) ∈ gW := gW_of (i := 412) (by decide +kernel) (by decide +kernel)
theorem kw_413 : (Jvm.Cond.methodLink "GuardVolumeLaw" (108 : Nat) ({ cls := "GuardVolumeLaw", name := "finding", desc := "(LGuardVolume;II[J)I" } : Jvm.MethodName)) ∈ gW := gW_of (i := 413) (by decide +kernel) (by decide +kernel)
theorem kw_414 : (Jvm.Cond.static ({ cls := "GuardVolumeLaw", name := "finding", desc := "(LGuardVolume;II[J)I" } : Jvm.MethodName)) ∈ gW := gW_of (i := 414) (by decide +kernel) (by decide +kernel)
theorem kw_415 : (Jvm.Cond.codeWith ({ cls := "GuardVolumeLaw", name := "finding", desc := "(LGuardVolume;II[J)I" } : Jvm.MethodName) method_9_code (5 : Nat) (Option.some Jvm.ClassFile.FieldType.int) [((0 : Nat), (10 : Nat), (13 : Nat), (13 : Nat))]) ∈ gW := gW_of (i := 415) (by decide +kernel) (by decide +kernel)
theorem kw_416 : (Jvm.Cond.methodLink "GuardVolumeLaw" (41 : Nat) ({ cls := "GuardVolume", name := "finding", desc := "(II)I" } : Jvm.MethodName)) ∈ gW := gW_of (i := 416) (by decide +kernel) (by decide +kernel)
theorem kw_417 : (Jvm.Cond.instanceMethod ({ cls := "GuardVolume", name := "finding", desc := "(II)I" } : Jvm.MethodName)) ∈ gW := gW_of (i := 417) (by decide +kernel) (by decide +kernel)
theorem kw_418 : (Jvm.Cond.selects "GuardVolume" ({ cls := "GuardVolume", name := "finding", desc := "(II)I" } : Jvm.MethodName) ({ cls := "GuardVolume", name := "finding", desc := "(II)I" } : Jvm.MethodName)) ∈ gW := gW_of (i := 418) (by decide +kernel) (by decide +kernel)
theorem kw_419 : (Jvm.Cond.code ({ cls := "GuardVolume", name := "finding", desc := "(II)I" } : Jvm.MethodName) prog_1_method_10_code (3 : Nat) (Option.some Jvm.ClassFile.FieldType.int)) ∈ gW := gW_of (i := 419) (by decide +kernel) (by decide +kernel)
theorem kw_420 : (Jvm.Cond.methodLink "GuardVolumeLaw" (111 : Nat) ({ cls := "GuardVolumeLaw", name := "expected", desc := "(LGuardVolume;II[J)I" } : Jvm.MethodName)) ∈ gW := gW_of (i := 420) (by decide +kernel) (by decide +kernel)
theorem kw_421 : (Jvm.Cond.static ({ cls := "GuardVolumeLaw", name := "expected", desc := "(LGuardVolume;II[J)I" } : Jvm.MethodName)) ∈ gW := gW_of (i := 421) (by decide +kernel) (by decide +kernel)
theorem kw_422 : (Jvm.Cond.codeWith ({ cls := "GuardVolumeLaw", name := "expected", desc := "(LGuardVolume;II[J)I" } : Jvm.MethodName) method_10_code (5 : Nat) (Option.some Jvm.ClassFile.FieldType.int) [((0 : Nat), (10 : Nat), (13 : Nat), (13 : Nat))]) ∈ gW := gW_of (i := 422) (by decide +kernel) (by decide +kernel)
theorem kw_423 : (Jvm.Cond.methodLink "GuardVolumeLaw" (44 : Nat) ({ cls := "GuardVolume", name := "expected", desc := "(II)I" } : Jvm.MethodName)) ∈ gW := gW_of (i := 423) (by decide +kernel) (by decide +kernel)
theorem kw_424 : (Jvm.Cond.instanceMethod ({ cls := "GuardVolume", name := "expected", desc := "(II)I" } : Jvm.MethodName)) ∈ gW := gW_of (i := 424) (by decide +kernel) (by decide +kernel)
theorem kw_425 : (Jvm.Cond.selects "GuardVolume" ({ cls := "GuardVolume", name := "expected", desc := "(II)I" } : Jvm.MethodName) ({ cls := "GuardVolume", name := "expected", desc := "(II)I" } : Jvm.MethodName)) ∈ gW := gW_of (i := 425) (by decide +kernel) (by decide +kernel)
theorem kw_426 : (Jvm.Cond.code ({ cls := "GuardVolume", name := "expected", desc := "(II)I" } : Jvm.MethodName) prog_1_method_11_code (3 : Nat) (Option.some Jvm.ClassFile.FieldType.int)) ∈ gW := gW_of (i := 426) (by decide +kernel) (by decide +kernel)
theorem kw_427 : (Jvm.Cond.methodLink "GuardVolumeLaw" (114 : Nat) ({ cls := "GuardVolumeLaw", name := "verdict", desc := "(LGuardVolume;II[J)I" } : Jvm.MethodName)) ∈ gW := gW_of (i := 427) (by decide +kernel) (by decide +kernel)
theorem kw_428 : (Jvm.Cond.static ({ cls := "GuardVolumeLaw", name := "verdict", desc := "(LGuardVolume;II[J)I" } : Jvm.MethodName)) ∈ gW := gW_of (i := 428) (by decide +kernel) (by decide +kernel)
theorem kw_429 : (Jvm.Cond.codeWith ({ cls := "GuardVolumeLaw", name := "verdict", desc := "(LGuardVolume;II[J)I" } : Jvm.MethodName) method_11_code (5 : Nat) (Option.some Jvm.ClassFile.FieldType.int) [((0 : Nat), (10 : Nat), (13 : Nat), (13 : Nat))]) ∈ gW := gW_of (i := 429) (by decide +kernel) (by decide +kernel)
theorem kw_430 : (Jvm.Cond.methodLink "GuardVolumeLaw" (47 : Nat) ({ cls := "GuardVolume", name := "verdict", desc := "(II)I" } : Jvm.MethodName)) ∈ gW := gW_of (i := 430) (by decide +kernel) (by decide +kernel)
theorem kw_431 : (Jvm.Cond.instanceMethod ({ cls := "GuardVolume", name := "verdict", desc := "(II)I" } : Jvm.MethodName)) ∈ gW := gW_of (i := 431) (by decide +kernel) (by decide +kernel)
theorem kw_432 : (Jvm.Cond.selects "GuardVolume" ({ cls := "GuardVolume", name := "verdict", desc := "(II)I" } : Jvm.MethodName) ({ cls := "GuardVolume", name := "verdict", desc := "(II)I" } : Jvm.MethodName)) ∈ gW := gW_of (i := 432) (by decide +kernel) (by decide +kernel)
theorem kw_433 : (Jvm.Cond.code ({ cls := "GuardVolume", name := "verdict", desc := "(II)I" } : Jvm.MethodName) prog_1_method_12_code (3 : Nat) (Option.some Jvm.ClassFile.FieldType.int)) ∈ gW := gW_of (i := 433) (by decide +kernel) (by decide +kernel)
theorem kw_434 : (Jvm.Cond.methodLink "GuardVolumeLaw" (117 : Nat) ({ cls := "GuardVolumeLaw", name := "isRight", desc := "(LGuardVolume;II[J)I" } : Jvm.MethodName)) ∈ gW := gW_of (i := 434) (by decide +kernel) (by decide +kernel)
theorem kw_435 : (Jvm.Cond.static ({ cls := "GuardVolumeLaw", name := "isRight", desc := "(LGuardVolume;II[J)I" } : Jvm.MethodName)) ∈ gW := gW_of (i := 435) (by decide +kernel) (by decide +kernel)
theorem kw_436 : (Jvm.Cond.codeWith ({ cls := "GuardVolumeLaw", name := "isRight", desc := "(LGuardVolume;II[J)I" } : Jvm.MethodName) method_12_code (5 : Nat) (Option.some Jvm.ClassFile.FieldType.int) [((0 : Nat), (17 : Nat), (20 : Nat), (13 : Nat))]) ∈ gW := gW_of (i := 436) (by decide +kernel) (by decide +kernel)
theorem kw_437 : (Jvm.Cond.methodLink "GuardVolumeLaw" (50 : Nat) ({ cls := "GuardVolume", name := "isRight", desc := "(II)Z" } : Jvm.MethodName)) ∈ gW := gW_of (i := 437) (by decide +kernel) (by decide +kernel)
theorem kw_438 : (Jvm.Cond.instanceMethod ({ cls := "GuardVolume", name := "isRight", desc := "(II)Z" } : Jvm.MethodName)) ∈ gW := gW_of (i := 438) (by decide +kernel) (by decide +kernel)
theorem kw_439 : (Jvm.Cond.selects "GuardVolume" ({ cls := "GuardVolume", name := "isRight", desc := "(II)Z" } : Jvm.MethodName) ({ cls := "GuardVolume", name := "isRight", desc := "(II)Z" } : Jvm.MethodName)) ∈ gW := gW_of (i := 439) (by decide +kernel) (by decide +kernel)
theorem kw_440 : (Jvm.Cond.code ({ cls := "GuardVolume", name := "isRight", desc := "(II)Z" } : Jvm.MethodName) prog_1_method_13_code (3 : Nat) (Option.some Jvm.ClassFile.FieldType.boolean)) ∈ gW := gW_of (i := 440) (by decide +kernel) (by decide +kernel)
theorem kw_441 : (Jvm.Cond.methodLink "GuardVolumeLaw" (120 : Nat) ({ cls := "GuardVolumeLaw", name := "raw", desc := "(LGuardVolume;III[J)I" } : Jvm.MethodName)) ∈ gW := gW_of (i := 441) (by decide +kernel) (by decide +kernel)
theorem kw_442 : (Jvm.Cond.static ({ cls := "GuardVolumeLaw", name := "raw", desc := "(LGuardVolume;III[J)I" } : Jvm.MethodName)) ∈ gW := gW_of (i := 442) (by decide +kernel) (by decide +kernel)
theorem kw_443 : (Jvm.Cond.codeWith ({ cls := "GuardVolumeLaw", name := "raw", desc := "(LGuardVolume;III[J)I" } : Jvm.MethodName) method_13_code (6 : Nat) (Option.some Jvm.ClassFile.FieldType.int) [((0 : Nat), (12 : Nat), (15 : Nat), (13 : Nat))]) ∈ gW := gW_of (i := 443) (by decide +kernel) (by decide +kernel)
theorem kw_444 : (Jvm.Cond.methodLink "GuardVolumeLaw" (54 : Nat) ({ cls := "GuardVolume", name := "raw", desc := "(III)I" } : Jvm.MethodName)) ∈ gW := gW_of (i := 444) (by decide +kernel) (by decide +kernel)
theorem kw_445 : (Jvm.Cond.instanceMethod ({ cls := "GuardVolume", name := "raw", desc := "(III)I" } : Jvm.MethodName)) ∈ gW := gW_of (i := 445) (by decide +kernel) (by decide +kernel)
theorem kw_446 : (Jvm.Cond.selects "GuardVolume" ({ cls := "GuardVolume", name := "raw", desc := "(III)I" } : Jvm.MethodName) ({ cls := "GuardVolume", name := "raw", desc := "(III)I" } : Jvm.MethodName)) ∈ gW := gW_of (i := 446) (by decide +kernel) (by decide +kernel)
theorem kw_447 : (Jvm.Cond.code ({ cls := "GuardVolume", name := "raw", desc := "(III)I" } : Jvm.MethodName) prog_1_method_14_code (4 : Nat) (Option.some Jvm.ClassFile.FieldType.int)) ∈ gW := gW_of (i := 447) (by decide +kernel) (by decide +kernel)
theorem kw_448 : (Jvm.Cond.methodLink "GuardVolumeLaw" (123 : Nat) ({ cls := "GuardVolumeLaw", name := "replace", desc := "(LGuardVolume;I)I" } : Jvm.MethodName)) ∈ gW := gW_of (i := 448) (by decide +kernel) (by decide +kernel)
theorem kw_449 : (Jvm.Cond.static ({ cls := "GuardVolumeLaw", name := "replace", desc := "(LGuardVolume;I)I" } : Jvm.MethodName)) ∈ gW := gW_of (i := 449) (by decide +kernel) (by decide +kernel)
theorem kw_450 : (Jvm.Cond.codeWith ({ cls := "GuardVolumeLaw", name := "replace", desc := "(LGuardVolume;I)I" } : Jvm.MethodName) method_14_code (3 : Nat) (Option.some Jvm.ClassFile.FieldType.int) [((0 : Nat), (5 : Nat), (8 : Nat), (13 : Nat)), ((0 : Nat), (5 : Nat), (11 : Nat), (15 : Nat))]) ∈ gW := gW_of (i := 450) (by decide +kernel) (by decide +kernel)
theorem kw_451 : (Jvm.Cond.methodLink "GuardVolumeLaw" (57 : Nat) ({ cls := "GuardVolume", name := "replace", desc := "(I)V" } : Jvm.MethodName)) ∈ gW := gW_of (i := 451) (by decide +kernel) (by decide +kernel)
theorem kw_452 : (Jvm.Cond.instanceMethod ({ cls := "GuardVolume", name := "replace", desc := "(I)V" } : Jvm.MethodName)) ∈ gW := gW_of (i := 452) (by decide +kernel) (by decide +kernel)
theorem kw_453 : (Jvm.Cond.selects "GuardVolume" ({ cls := "GuardVolume", name := "replace", desc := "(I)V" } : Jvm.MethodName) ({ cls := "GuardVolume", name := "replace", desc := "(I)V" } : Jvm.MethodName)) ∈ gW := gW_of (i := 453) (by decide +kernel) (by decide +kernel)
theorem kw_454 : (Jvm.Cond.code ({ cls := "GuardVolume", name := "replace", desc := "(I)V" } : Jvm.MethodName) prog_1_method_15_code (2 : Nat) (Option.none : Option Jvm.ClassFile.FieldType)) ∈ gW := gW_of (i := 454) (by decide +kernel) (by decide +kernel)
theorem kn_455 : (Jvm.Cond.methodLinkNest "GuardVolume" (153 : Nat) ({ cls := "GuardVolume$Drive", name := "wipe", desc := "()V" } : Jvm.MethodName) "GuardVolume") ∈ nW := nW_of (i := 455) (by decide +kernel) rfl
theorem kw_457 : (Jvm.Cond.instanceMethod ({ cls := "GuardVolume$Drive", name := "wipe", desc := "()V" } : Jvm.MethodName)) ∈ gW := gW_of (i := 457) (by decide +kernel) (by decide +kernel)
theorem kw_458 : (Jvm.Cond.code ({ cls := "GuardVolume$Drive", name := "wipe", desc := "()V" } : Jvm.MethodName) prog_2_method_4_code (1 : Nat) (Option.none : Option Jvm.ClassFile.FieldType)) ∈ gW := gW_of (i := 458) (by decide +kernel) (by decide +kernel)
theorem kw_459 : (Jvm.Cond.methodLink "GuardVolume$Drive" (41 : Nat) ({ cls := "java/util/Arrays", name := "fill", desc := "([II)V" } : Jvm.MethodName)) ∈ gW := gW_of (i := 459) (by decide +kernel) (by decide +kernel)
theorem kw_460 : (Jvm.Cond.methodLink "GuardVolumeLaw" (126 : Nat) ({ cls := "GuardVolumeLaw", name := "rebuild", desc := "(LGuardVolume;I[J)I" } : Jvm.MethodName)) ∈ gW := gW_of (i := 460) (by decide +kernel) (by decide +kernel)
theorem kw_461 : (Jvm.Cond.static ({ cls := "GuardVolumeLaw", name := "rebuild", desc := "(LGuardVolume;I[J)I" } : Jvm.MethodName)) ∈ gW := gW_of (i := 461) (by decide +kernel) (by decide +kernel)
theorem kw_462 : (Jvm.Cond.codeWith ({ cls := "GuardVolumeLaw", name := "rebuild", desc := "(LGuardVolume;I[J)I" } : Jvm.MethodName) method_15_code (4 : Nat) (Option.some Jvm.ClassFile.FieldType.int) [((0 : Nat), (9 : Nat), (12 : Nat), (13 : Nat)), ((0 : Nat), (9 : Nat), (15 : Nat), (15 : Nat))]) ∈ gW := gW_of (i := 462) (by decide +kernel) (by decide +kernel)
theorem kw_463 : (Jvm.Cond.methodLink "GuardVolumeLaw" (60 : Nat) ({ cls := "GuardVolume", name := "rebuild", desc := "(I)I" } : Jvm.MethodName)) ∈ gW := gW_of (i := 463) (by decide +kernel) (by decide +kernel)
theorem kw_464 : (Jvm.Cond.instanceMethod ({ cls := "GuardVolume", name := "rebuild", desc := "(I)I" } : Jvm.MethodName)) ∈ gW := gW_of (i := 464) (by decide +kernel) (by decide +kernel)
theorem kw_465 : (Jvm.Cond.selects "GuardVolume" ({ cls := "GuardVolume", name := "rebuild", desc := "(I)I" } : Jvm.MethodName) ({ cls := "GuardVolume", name := "rebuild", desc := "(I)I" } : Jvm.MethodName)) ∈ gW := gW_of (i := 465) (by decide +kernel) (by decide +kernel)
theorem kw_466 : (Jvm.Cond.code ({ cls := "GuardVolume", name := "rebuild", desc := "(I)I" } : Jvm.MethodName) prog_1_method_16_code (5 : Nat) (Option.some Jvm.ClassFile.FieldType.int)) ∈ gW := gW_of (i := 466) (by decide +kernel) (by decide +kernel)
theorem kw_467 : (Jvm.Cond.methodLink "GuardVolume" (156 : Nat) ({ cls := "GuardVolume", name := "rebuildBlock", desc := "(III)Z" } : Jvm.MethodName)) ∈ gW := gW_of (i := 467) (by decide +kernel) (by decide +kernel)
theorem kw_469 : (Jvm.Cond.instanceMethod ({ cls := "GuardVolume", name := "rebuildBlock", desc := "(III)Z" } : Jvm.MethodName)) ∈ gW := gW_of (i := 469) (by decide +kernel) (by decide +kernel)
theorem kw_470 : (Jvm.Cond.code ({ cls := "GuardVolume", name := "rebuildBlock", desc := "(III)Z" } : Jvm.MethodName) prog_1_method_35_code (5 : Nat) (Option.some Jvm.ClassFile.FieldType.boolean)) ∈ gW := gW_of (i := 470) (by decide +kernel) (by decide +kernel)
theorem kw_471 : (Jvm.Cond.methodLink "GuardVolumeLaw" (129 : Nat) ({ cls := "GuardVolumeLaw", name := "count", desc := "(LGuardVolume;I[J)I" } : Jvm.MethodName)) ∈ gW := gW_of (i := 471) (by decide +kernel) (by decide +kernel)
theorem kw_472 : (Jvm.Cond.static ({ cls := "GuardVolumeLaw", name := "count", desc := "(LGuardVolume;I[J)I" } : Jvm.MethodName)) ∈ gW := gW_of (i := 472) (by decide +kernel) (by decide +kernel)
theorem kw_473 : (Jvm.Cond.codeWith ({ cls := "GuardVolumeLaw", name := "count", desc := "(LGuardVolume;I[J)I" } : Jvm.MethodName) method_16_code (4 : Nat) (Option.some Jvm.ClassFile.FieldType.int) [((0 : Nat), (9 : Nat), (12 : Nat), (13 : Nat))]) ∈ gW := gW_of (i := 473) (by decide +kernel) (by decide +kernel)
theorem kw_474 : (Jvm.Cond.methodLink "GuardVolumeLaw" (63 : Nat) ({ cls := "GuardVolume", name := "count", desc := "(I)I" } : Jvm.MethodName)) ∈ gW := gW_of (i := 474) (by decide +kernel) (by decide +kernel)
theorem kw_475 : (Jvm.Cond.instanceMethod ({ cls := "GuardVolume", name := "count", desc := "(I)I" } : Jvm.MethodName)) ∈ gW := gW_of (i := 475) (by decide +kernel) (by decide +kernel)
theorem kw_476 : (Jvm.Cond.selects "GuardVolume" ({ cls := "GuardVolume", name := "count", desc := "(I)I" } : Jvm.MethodName) ({ cls := "GuardVolume", name := "count", desc := "(I)I" } : Jvm.MethodName)) ∈ gW := gW_of (i := 476) (by decide +kernel) (by decide +kernel)
theorem kw_477 : (Jvm.Cond.code ({ cls := "GuardVolume", name := "count", desc := "(I)I" } : Jvm.MethodName) prog_1_method_17_code (2 : Nat) (Option.some Jvm.ClassFile.FieldType.int)) ∈ gW := gW_of (i := 477) (by decide +kernel) (by decide +kernel)
theorem kw_478 : (Jvm.Cond.methodLink "GuardVolume" (160 : Nat) ({ cls := "GuardVolume", name := "greatestPageVersion", desc := "()I" } : Jvm.MethodName)) ∈ gW := gW_of (i := 478) (by decide +kernel) (by decide +kernel)
theorem kw_480 : (Jvm.Cond.instanceMethod ({ cls := "GuardVolume", name := "greatestPageVersion", desc := "()I" } : Jvm.MethodName)) ∈ gW := gW_of (i := 480) (by decide +kernel) (by decide +kernel)
theorem kw_481 : (Jvm.Cond.code ({ cls := "GuardVolume", name := "greatestPageVersion", desc := "()I" } : Jvm.MethodName) prog_1_method_36_code (3 : Nat) (Option.some Jvm.ClassFile.FieldType.int)) ∈ gW := gW_of (i := 481) (by decide +kernel) (by decide +kernel)
theorem kw_482 : (Jvm.Cond.methodLink "GuardVolume" (210 : Nat) ({ cls := "java/lang/Math", name := "max", desc := "(II)I" } : Jvm.MethodName)) ∈ gW := gW_of (i := 482) (by decide +kernel) (by decide +kernel)
theorem kw_483 : (Jvm.Cond.static ({ cls := "java/lang/Math", name := "max", desc := "(II)I" } : Jvm.MethodName)) ∈ gW := gW_of (i := 483) (by decide +kernel) (by decide +kernel)
theorem kw_484 : (Jvm.Cond.code ({ cls := "java/lang/Math", name := "max", desc := "(II)I" } : Jvm.MethodName) prog_12_method_65_code (2 : Nat) (Option.some Jvm.ClassFile.FieldType.int)) ∈ gW := gW_of (i := 484) (by decide +kernel) (by decide +kernel)
theorem kw_485 : (Jvm.Cond.classLink "GuardVolumeLaw" (67 : Nat) "GuardVolumeModel") ∈ gW := gW_of (i := 485) (by decide +kernel) (by decide +kernel)
theorem kw_486 : (Jvm.Cond.instantiable "GuardVolumeModel" (20 : Nat)) ∈ gW := gW_of (i := 486) (by decide +kernel) (by decide +kernel)
theorem kw_487 : (Jvm.Cond.methodLink "GuardVolumeLaw" (69 : Nat) ({ cls := "GuardVolumeModel", name := "<init>", desc := "()V" } : Jvm.MethodName)) ∈ gW := gW_of (i := 487) (by decide +kernel) (by decide +kernel)
theorem kw_488 : (Jvm.Cond.instanceMethod ({ cls := "GuardVolumeModel", name := "<init>", desc := "()V" } : Jvm.MethodName)) ∈ gW := gW_of (i := 488) (by decide +kernel) (by decide +kernel)
theorem kw_489 : (Jvm.Cond.code ({ cls := "GuardVolumeModel", name := "<init>", desc := "()V" } : Jvm.MethodName) prog_7_method_1_code (3 : Nat) (Option.none : Option Jvm.ClassFile.FieldType)) ∈ gW := gW_of (i := 489) (by decide +kernel) (by decide +kernel)
theorem kw_490 : (Jvm.Cond.methodLink "GuardVolumeModel" (1 : Nat) ({ cls := "java/lang/Object", name := "<init>", desc := "()V" } : Jvm.MethodName)) ∈ gW := gW_of (i := 490) (by decide +kernel) (by decide +kernel)
theorem kw_491 : (Jvm.Cond.methodLink "GuardVolumeModel" (50 : Nat) ({ cls := "GuardVolumeModel", name := "place", desc := "(II)I" } : Jvm.MethodName)) ∈ gW := gW_of (i := 491) (by decide +kernel) (by decide +kernel)
theorem kw_492 : (Jvm.Cond.static ({ cls := "GuardVolumeModel", name := "place", desc := "(II)I" } : Jvm.MethodName)) ∈ gW := gW_of (i := 492) (by decide +kernel) (by decide +kernel)
theorem kw_493 : (Jvm.Cond.code ({ cls := "GuardVolumeModel", name := "place", desc := "(II)I" } : Jvm.MethodName) prog_7_method_3_code (2 : Nat) (Option.some Jvm.ClassFile.FieldType.int)) ∈ gW := gW_of (i := 493) (by decide +kernel) (by decide +kernel)
theorem kw_494 : (Jvm.Cond.methodLink "GuardVolumeModel" (54 : Nat) ({ cls := "GuardVolumeModel", name := "sumAt", desc := "(I)I" } : Jvm.MethodName)) ∈ gW := gW_of (i := 494) (by decide +kernel) (by decide +kernel)
theorem kw_496 : (Jvm.Cond.instanceMethod ({ cls := "GuardVolumeModel", name := "sumAt", desc := "(I)I" } : Jvm.MethodName)) ∈ gW := gW_of (i := 496) (by decide +kernel) (by decide +kernel)
theorem kw_497 : (Jvm.Cond.code ({ cls := "GuardVolumeModel", name := "sumAt", desc := "(I)I" } : Jvm.MethodName) prog_7_method_5_code (4 : Nat) (Option.some Jvm.ClassFile.FieldType.int)) ∈ gW := gW_of (i := 497) (by decide +kernel) (by decide +kernel)
theorem kw_498 : (Jvm.Cond.methodLink "GuardVolumeModel" (61 : Nat) ({ cls := "GuardVolumeModel", name := "mix", desc := "(II)I" } : Jvm.MethodName)) ∈ gW := gW_of (i := 498) (by decide +kernel) (by decide +kernel)
theorem kw_499 : (Jvm.Cond.static ({ cls := "GuardVolumeModel", name := "mix", desc := "(II)I" } : Jvm.MethodName)) ∈ gW := gW_of (i := 499) (by decide +kernel) (by decide +kernel)
theorem kw_500 : (Jvm.Cond.code ({ cls := "GuardVolumeModel", name := "mix", desc := "(II)I" } : Jvm.MethodName) prog_7_method_4_code (2 : Nat) (Option.some Jvm.ClassFile.FieldType.int)) ∈ gW := gW_of (i := 500) (by decide +kernel) (by decide +kernel)
theorem kw_501 : (Jvm.Cond.fieldLink "GuardVolumeModel" (58 : Nat) "GuardVolumeModel" "thrown" "I") ∈ gW := gW_of (i := 501) (by decide +kernel) (by decide +kernel)
theorem kw_502 : (Jvm.Cond.fieldLink "GuardVolumeModel" (7 : Nat) "GuardVolumeModel" "drives" "[I") ∈ gW := gW_of (i := 502) (by decide +kernel) (by decide +kernel)
theorem kw_503 : (Jvm.Cond.fieldLink "GuardVolumeModel" (13 : Nat) "GuardVolumeModel" "memory" "[I") ∈ gW := gW_of (i := 503) (by decide +kernel) (by decide +kernel)
theorem kw_504 : (Jvm.Cond.fieldLink "GuardVolumeModel" (16 : Nat) "GuardVolumeModel" "journal" "I") ∈ gW := gW_of (i := 504) (by decide +kernel) (by decide +kernel)
theorem kw_505 : (Jvm.Cond.fieldLink "GuardVolumeModel" (20 : Nat) "GuardVolumeModel" "journalWords" "[I") ∈ gW := gW_of (i := 505) (by decide +kernel) (by decide +kernel)
theorem kw_506 : (Jvm.Cond.fieldLink "GuardVolumeModel" (105 : Nat) "GuardVolumeModel" "journalVersion" "I") ∈ gW := gW_of (i := 506) (by decide +kernel) (by decide +kernel)
theorem kw_507 : (Jvm.Cond.fieldLink "GuardVolumeModel" (80 : Nat) "GuardVolumeModel" "off" "Z") ∈ gW := gW_of (i := 507) (by decide +kernel) (by decide +kernel)
theorem kw_508 : (Jvm.Cond.fieldLink "GuardVolumeModel" (23 : Nat) "GuardVolumeModel" "left" "I") ∈ gW := gW_of (i := 508) (by decide +kernel) (by decide +kernel)
theorem kw_509 : (Jvm.Cond.fieldLink "GuardVolumeModel" (26 : Nat) "GuardVolumeModel" "writes" "[I") ∈ gW := gW_of (i := 509) (by decide +kernel) (by decide +kernel)
theorem kw_510 : (Jvm.Cond.fieldLink "GuardVolumeModel" (29 : Nat) "GuardVolumeModel" "plans" "[I") ∈ gW := gW_of (i := 510) (by decide +kernel) (by decide +kernel)
theorem kw_511 : (Jvm.Cond.fieldLink "GuardVolumeModel" (32 : Nat) "GuardVolumeModel" "planAt" "[I") ∈ gW := gW_of (i := 511) (by decide +kernel) (by decide +kernel)
theorem kw_512 : (Jvm.Cond.fieldLink "GuardVolumeModel" (35 : Nat) "GuardVolumeModel" "planKind" "[I") ∈ gW := gW_of (i := 512) (by decide +kernel) (by decide +kernel)
theorem kw_513 : (Jvm.Cond.fieldLink "GuardVolumeModel" (38 : Nat) "GuardVolumeModel" "planX" "[I") ∈ gW := gW_of (i := 513) (by decide +kernel) (by decide +kernel)
theorem kw_514 : (Jvm.Cond.fieldLink "GuardVolumeModel" (120 : Nat) "GuardVolumeModel" "code" "I") ∈ gW := gW_of (i := 514) (by decide +kernel) (by decide +kernel)
theorem kw_515 : (Jvm.Cond.fieldLink "GuardVolumeModel" (139 : Nat) "GuardVolumeModel" "nextScrub" "I") ∈ gW := gW_of (i := 515) (by decide +kernel) (by decide +kernel)
theorem kw_516 : (Jvm.Cond.fieldLink "GuardVolumeModel" (132 : Nat) "GuardVolumeModel" "kept" "I") ∈ gW := gW_of (i := 516) (by decide +kernel) (by decide +kernel)
theorem kw_517 : (Jvm.Cond.fieldLink "GuardVolumeModel" (129 : Nat) "GuardVolumeModel" "found" "I") ∈ gW := gW_of (i := 517) (by decide +kernel) (by decide +kernel)
theorem kw_518 : (Jvm.Cond.fieldLink "GuardVolumeModel" (41 : Nat) "GuardVolumeModel" "findings" "[I") ∈ gW := gW_of (i := 518) (by decide +kernel) (by decide +kernel)
theorem kw_519 : (Jvm.Cond.fieldLink "GuardVolumeModel" (44 : Nat) "GuardVolumeModel" "row" "[I") ∈ gW := gW_of (i := 519) (by decide +kernel) (by decide +kernel)
theorem kw_520 : (Jvm.Cond.fieldLink "GuardVolumeModel" (47 : Nat) "GuardVolumeModel" "words" "[I") ∈ gW := gW_of (i := 520) (by decide +kernel) (by decide +kernel)
theorem kw_521 : (Jvm.Cond.lays "GuardVolumeModel" "GuardVolumeModel" "thrown" "I") ∈ gW := gW_of (i := 521) (by decide +kernel) (by decide +kernel)
theorem kw_522 : (Jvm.Cond.soleField "GuardVolumeModel" "thrown") ∈ gW := gW_of (i := 522) (by decide +kernel) (by decide +kernel)
theorem kw_523 : (Jvm.Cond.laysFinal "GuardVolumeModel" "GuardVolumeModel" "drives" "[I") ∈ gW := gW_of (i := 523) (by decide +kernel) (by decide +kernel)
theorem kw_524 : (Jvm.Cond.soleField "GuardVolumeModel" "drives") ∈ gW := gW_of (i := 524) (by decide +kernel) (by decide +kernel)
theorem kw_525 : (Jvm.Cond.laysFinal "GuardVolumeModel" "GuardVolumeModel" "memory" "[I") ∈ gW := gW_of (i := 525) (by decide +kernel) (by decide +kernel)
theorem kw_526 : (Jvm.Cond.soleField "GuardVolumeModel" "memory") ∈ gW := gW_of (i := 526) (by decide +kernel) (by decide +kernel)
theorem kw_527 : (Jvm.Cond.lays "GuardVolumeModel" "GuardVolumeModel" "journal" "I") ∈ gW := gW_of (i := 527) (by decide +kernel) (by decide +kernel)
theorem kw_528 : (Jvm.Cond.soleField "GuardVolumeModel" "journal") ∈ gW := gW_of (i := 528) (by decide +kernel) (by decide +kernel)
theorem kw_529 : (Jvm.Cond.laysFinal "GuardVolumeModel" "GuardVolumeModel" "journalWords" "[I") ∈ gW := gW_of (i := 529) (by decide +kernel) (by decide +kernel)
theorem kw_530 : (Jvm.Cond.soleField "GuardVolumeModel" "journalWords") ∈ gW := gW_of (i := 530) (by decide +kernel) (by decide +kernel)
theorem kw_531 : (Jvm.Cond.lays "GuardVolumeModel" "GuardVolumeModel" "journalVersion" "I") ∈ gW := gW_of (i := 531) (by decide +kernel) (by decide +kernel)
theorem kw_532 : (Jvm.Cond.soleField "GuardVolumeModel" "journalVersion") ∈ gW := gW_of (i := 532) (by decide +kernel) (by decide +kernel)
theorem kw_533 : (Jvm.Cond.lays "GuardVolumeModel" "GuardVolumeModel" "off" "Z") ∈ gW := gW_of (i := 533) (by decide +kernel) (by decide +kernel)
theorem kw_534 : (Jvm.Cond.soleField "GuardVolumeModel" "off") ∈ gW := gW_of (i := 534) (by decide +kernel) (by decide +kernel)
theorem kw_535 : (Jvm.Cond.lays "GuardVolumeModel" "GuardVolumeModel" "left" "I") ∈ gW := gW_of (i := 535) (by decide +kernel) (by decide +kernel)
theorem kw_536 : (Jvm.Cond.soleField "GuardVolumeModel" "left") ∈ gW := gW_of (i := 536) (by decide +kernel) (by decide +kernel)
theorem kw_537 : (Jvm.Cond.laysFinal "GuardVolumeModel" "GuardVolumeModel" "writes" "[I") ∈ gW := gW_of (i := 537) (by decide +kernel) (by decide +kernel)
theorem kw_538 : (Jvm.Cond.soleField "GuardVolumeModel" "writes") ∈ gW := gW_of (i := 538) (by decide +kernel) (by decide +kernel)
theorem kw_539 : (Jvm.Cond.laysFinal "GuardVolumeModel" "GuardVolumeModel" "plans" "[I") ∈ gW := gW_of (i := 539) (by decide +kernel) (by decide +kernel)
theorem kw_540 : (Jvm.Cond.soleField "GuardVolumeModel" "plans") ∈ gW := gW_of (i := 540) (by decide +kernel) (by decide +kernel)
theorem kw_541 : (Jvm.Cond.laysFinal "GuardVolumeModel" "GuardVolumeModel" "planAt" "[I") ∈ gW := gW_of (i := 541) (by decide +kernel) (by decide +kernel)
theorem kw_542 : (Jvm.Cond.soleField "GuardVolumeModel" "planAt") ∈ gW := gW_of (i := 542) (by decide +kernel) (by decide +kernel)
theorem kw_543 : (Jvm.Cond.laysFinal "GuardVolumeModel" "GuardVolumeModel" "planKind" "[I") ∈ gW := gW_of (i := 543) (by decide +kernel) (by decide +kernel)
theorem kw_544 : (Jvm.Cond.soleField "GuardVolumeModel" "planKind") ∈ gW := gW_of (i := 544) (by decide +kernel) (by decide +kernel)
theorem kw_545 : (Jvm.Cond.laysFinal "GuardVolumeModel" "GuardVolumeModel" "planX" "[I") ∈ gW := gW_of (i := 545) (by decide +kernel) (by decide +kernel)
theorem kw_546 : (Jvm.Cond.soleField "GuardVolumeModel" "planX") ∈ gW := gW_of (i := 546) (by decide +kernel) (by decide +kernel)
theorem kw_547 : (Jvm.Cond.lays "GuardVolumeModel" "GuardVolumeModel" "code" "I") ∈ gW := gW_of (i := 547) (by decide +kernel) (by decide +kernel)
theorem kw_548 : (Jvm.Cond.soleField "GuardVolumeModel" "code") ∈ gW := gW_of (i := 548) (by decide +kernel) (by decide +kernel)
theorem kw_549 : (Jvm.Cond.lays "GuardVolumeModel" "GuardVolumeModel" "nextScrub" "I") ∈ gW := gW_of (i := 549) (by decide +kernel) (by decide +kernel)
theorem kw_550 : (Jvm.Cond.soleField "GuardVolumeModel" "nextScrub") ∈ gW := gW_of (i := 550) (by decide +kernel) (by decide +kernel)
theorem kw_551 : (Jvm.Cond.lays "GuardVolumeModel" "GuardVolumeModel" "kept" "I") ∈ gW := gW_of (i := 551) (by decide +kernel) (by decide +kernel)
theorem kw_552 : (Jvm.Cond.soleField "GuardVolumeModel" "kept") ∈ gW := gW_of (i := 552) (by decide +kernel) (by decide +kernel)
theorem kw_553 : (Jvm.Cond.lays "GuardVolumeModel" "GuardVolumeModel" "found" "I") ∈ gW := gW_of (i := 553) (by decide +kernel) (by decide +kernel)
theorem kw_554 : (Jvm.Cond.soleField "GuardVolumeModel" "found") ∈ gW := gW_of (i := 554) (by decide +kernel) (by decide +kernel)
theorem kw_555 : (Jvm.Cond.laysFinal "GuardVolumeModel" "GuardVolumeModel" "findings" "[I") ∈ gW := gW_of (i := 555) (by decide +kernel) (by decide +kernel)
theorem kw_556 : (Jvm.Cond.soleField "GuardVolumeModel" "findings") ∈ gW := gW_of (i := 556) (by decide +kernel) (by decide +kernel)
theorem kw_557 : (Jvm.Cond.laysFinal "GuardVolumeModel" "GuardVolumeModel" "row" "[I") ∈ gW := gW_of (i := 557) (by decide +kernel) (by decide +kernel)
theorem kw_558 : (Jvm.Cond.soleField "GuardVolumeModel" "row") ∈ gW := gW_of (i := 558) (by decide +kernel) (by decide +kernel)
theorem kw_559 : (Jvm.Cond.laysFinal "GuardVolumeModel" "GuardVolumeModel" "words" "[I") ∈ gW := gW_of (i := 559) (by decide +kernel) (by decide +kernel)
theorem kw_560 : (Jvm.Cond.soleField "GuardVolumeModel" "words") ∈ gW := gW_of (i := 560) (by decide +kernel) (by decide +kernel)
theorem kw_561 : (Jvm.Cond.superclass "GuardVolumeModel" "java/lang/Object") ∈ gW := gW_of (i := 561) (by decide +kernel) (by decide +kernel)
theorem kw_562 : (Jvm.Cond.methodLink "GuardVolumeLaw" (76 : Nat) ({ cls := "GuardVolumeModel", name := "thrown", desc := "()I" } : Jvm.MethodName)) ∈ gW := gW_of (i := 562) (by decide +kernel) (by decide +kernel)
theorem kw_563 : (Jvm.Cond.instanceMethod ({ cls := "GuardVolumeModel", name := "thrown", desc := "()I" } : Jvm.MethodName)) ∈ gW := gW_of (i := 563) (by decide +kernel) (by decide +kernel)
theorem kw_564 : (Jvm.Cond.selects "GuardVolumeModel" ({ cls := "GuardVolumeModel", name := "thrown", desc := "()I" } : Jvm.MethodName) ({ cls := "GuardVolumeModel", name := "thrown", desc := "()I" } : Jvm.MethodName)) ∈ gW := gW_of (i := 564) (by decide +kernel) (by decide +kernel)
theorem kw_565 : (Jvm.Cond.code ({ cls := "GuardVolumeModel", name := "thrown", desc := "()I" } : Jvm.MethodName) prog_7_method_2_code (1 : Nat) (Option.some Jvm.ClassFile.FieldType.int)) ∈ gW := gW_of (i := 565) (by decide +kernel) (by decide +kernel)
theorem kw_566 : (Jvm.Cond.methodLink "GuardVolumeLaw" (75 : Nat) ({ cls := "GuardVolumeModel", name := "write", desc := "(III)I" } : Jvm.MethodName)) ∈ gW := gW_of (i := 566) (by decide +kernel) (by decide +kernel)
theorem kw_567 : (Jvm.Cond.instanceMethod ({ cls := "GuardVolumeModel", name := "write", desc := "(III)I" } : Jvm.MethodName)) ∈ gW := gW_of (i := 567) (by decide +kernel) (by decide +kernel)
theorem kw_568 : (Jvm.Cond.selects "GuardVolumeModel" ({ cls := "GuardVolumeModel", name := "write", desc := "(III)I" } : Jvm.MethodName) ({ cls := "GuardVolumeModel", name := "write", desc := "(III)I" } : Jvm.MethodName)) ∈ gW := gW_of (i := 568) (by decide +kernel) (by decide +kernel)
theorem kw_569 : (Jvm.Cond.code ({ cls := "GuardVolumeModel", name := "write", desc := "(III)I" } : Jvm.MethodName) prog_7_method_23_code (6 : Nat) (Option.some Jvm.ClassFile.FieldType.int)) ∈ gW := gW_of (i := 569) (by decide +kernel) (by decide +kernel)
theorem kw_570 : (Jvm.Cond.methodLink "GuardVolumeModel" (114 : Nat) ({ cls := "GuardVolumeModel", name := "in", desc := "(II)Z" } : Jvm.MethodName)) ∈ gW := gW_of (i := 570) (by decide +kernel) (by decide +kernel)
theorem kw_571 : (Jvm.Cond.static ({ cls := "GuardVolumeModel", name := "in", desc := "(II)Z" } : Jvm.MethodName)) ∈ gW := gW_of (i := 571) (by decide +kernel) (by decide +kernel)
theorem kw_572 : (Jvm.Cond.code ({ cls := "GuardVolumeModel", name := "in", desc := "(II)Z" } : Jvm.MethodName) prog_7_method_21_code (2 : Nat) (Option.some Jvm.ClassFile.FieldType.boolean)) ∈ gW := gW_of (i := 572) (by decide +kernel) (by decide +kernel)
theorem kw_573 : (Jvm.Cond.methodLink "GuardVolumeModel" (117 : Nat) ({ cls := "GuardVolumeModel", name := "codeOf", desc := "(I)I" } : Jvm.MethodName)) ∈ gW := gW_of (i := 573) (by decide +kernel) (by decide +kernel)
theorem kw_575 : (Jvm.Cond.instanceMethod ({ cls := "GuardVolumeModel", name := "codeOf", desc := "(I)I" } : Jvm.MethodName)) ∈ gW := gW_of (i := 575) (by decide +kernel) (by decide +kernel)
theorem kw_576 : (Jvm.Cond.code ({ cls := "GuardVolumeModel", name := "codeOf", desc := "(I)I" } : Jvm.MethodName) prog_7_method_22_code (2 : Nat) (Option.some Jvm.ClassFile.FieldType.int)) ∈ gW := gW_of (i := 576) (by decide +kernel) (by decide +kernel)
theorem kw_577 : (Jvm.Cond.methodLink "GuardVolumeModel" (111 : Nat) ({ cls := "GuardVolumeModel", name := "verdictOf", desc := "(II)I" } : Jvm.MethodName)) ∈ gW := gW_of (i := 577) (by decide +kernel) (by decide +kernel)
theorem kw_579 : (Jvm.Cond.instanceMethod ({ cls := "GuardVolumeModel", name := "verdictOf", desc := "(II)I" } : Jvm.MethodName)) ∈ gW := gW_of (i := 579) (by decide +kernel) (by decide +kernel)
theorem kw_580 : (Jvm.Cond.code ({ cls := "GuardVolumeModel", name := "verdictOf", desc := "(II)I" } : Jvm.MethodName) prog_7_method_11_code (5 : Nat) (Option.some Jvm.ClassFile.FieldType.int)) ∈ gW := gW_of (i := 580) (by decide +kernel) (by decide +kernel)
theorem kw_581 : (Jvm.Cond.methodLink "GuardVolumeModel" (64 : Nat) ({ cls := "GuardVolumeModel", name := "isWhole", desc := "(II)Z" } : Jvm.MethodName)) ∈ gW := gW_of (i := 581) (by decide +kernel) (by decide +kernel)
theorem kw_583 : (Jvm.Cond.instanceMethod ({ cls := "GuardVolumeModel", name := "isWhole", desc := "(II)Z" } : Jvm.MethodName)) ∈ gW := gW_of (i := 583) (by decide +kernel) (by decide +kernel)
theorem kw_584 : (Jvm.Cond.code ({ cls := "GuardVolumeModel", name := "isWhole", desc := "(II)Z" } : Jvm.MethodName) prog_7_method_6_code (4 : Nat) (Option.some Jvm.ClassFile.FieldType.boolean)) ∈ gW := gW_of (i := 584) (by decide +kernel) (by decide +kernel)
theorem kw_585 : (Jvm.Cond.methodLink "GuardVolumeModel" (74 : Nat) ({ cls := "GuardVolumeModel", name := "isUnknown", desc := "(II)Z" } : Jvm.MethodName)) ∈ gW := gW_of (i := 585) (by decide +kernel) (by decide +kernel)
theorem kw_587 : (Jvm.Cond.instanceMethod ({ cls := "GuardVolumeModel", name := "isUnknown", desc := "(II)Z" } : Jvm.MethodName)) ∈ gW := gW_of (i := 587) (by decide +kernel) (by decide +kernel)
theorem kw_588 : (Jvm.Cond.code ({ cls := "GuardVolumeModel", name := "isUnknown", desc := "(II)Z" } : Jvm.MethodName) prog_7_method_10_code (3 : Nat) (Option.some Jvm.ClassFile.FieldType.boolean)) ∈ gW := gW_of (i := 588) (by decide +kernel) (by decide +kernel)
theorem kw_589 : (Jvm.Cond.methodLink "GuardVolumeModel" (68 : Nat) ({ cls := "GuardVolumeModel", name := "isRightPage", desc := "(II)Z" } : Jvm.MethodName)) ∈ gW := gW_of (i := 589) (by decide +kernel) (by decide +kernel)
theorem kw_591 : (Jvm.Cond.instanceMethod ({ cls := "GuardVolumeModel", name := "isRightPage", desc := "(II)Z" } : Jvm.MethodName)) ∈ gW := gW_of (i := 591) (by decide +kernel) (by decide +kernel)
theorem kw_592 : (Jvm.Cond.code ({ cls := "GuardVolumeModel", name := "isRightPage", desc := "(II)Z" } : Jvm.MethodName) prog_7_method_7_code (4 : Nat) (Option.some Jvm.ClassFile.FieldType.boolean)) ∈ gW := gW_of (i := 592) (by decide +kernel) (by decide +kernel)
theorem kw_593 : (Jvm.Cond.methodLink "GuardVolumeModel" (77 : Nat) ({ cls := "GuardVolumeModel", name := "expectedOf", desc := "(II)I" } : Jvm.MethodName)) ∈ gW := gW_of (i := 593) (by decide +kernel) (by decide +kernel)
theorem kw_595 : (Jvm.Cond.instanceMethod ({ cls := "GuardVolumeModel", name := "expectedOf", desc := "(II)I" } : Jvm.MethodName)) ∈ gW := gW_of (i := 595) (by decide +kernel) (by decide +kernel)
theorem kw_596 : (Jvm.Cond.code ({ cls := "GuardVolumeModel", name := "expectedOf", desc := "(II)I" } : Jvm.MethodName) prog_7_method_9_code (4 : Nat) (Option.some Jvm.ClassFile.FieldType.int)) ∈ gW := gW_of (i := 596) (by decide +kernel) (by decide +kernel)
theorem kw_597 : (Jvm.Cond.methodLink "GuardVolumeModel" (71 : Nat) ({ cls := "GuardVolumeModel", name := "listed", desc := "(II)I" } : Jvm.MethodName)) ∈ gW := gW_of (i := 597) (by decide +kernel) (by decide +kernel)
theorem kw_599 : (Jvm.Cond.instanceMethod ({ cls := "GuardVolumeModel", name := "listed", desc := "(II)I" } : Jvm.MethodName)) ∈ gW := gW_of (i := 599) (by decide +kernel) (by decide +kernel)
theorem kw_600 : (Jvm.Cond.code ({ cls := "GuardVolumeModel", name := "listed", desc := "(II)I" } : Jvm.MethodName) prog_7_method_8_code (3 : Nat) (Option.some Jvm.ClassFile.FieldType.int)) ∈ gW := gW_of (i := 600) (by decide +kernel) (by decide +kernel)
theorem kw_601 : (Jvm.Cond.methodLink "GuardVolumeModel" (123 : Nat) ({ cls := "GuardVolumeModel", name := "takeWords", desc := "(II)V" } : Jvm.MethodName)) ∈ gW := gW_of (i := 601) (by decide +kernel) (by decide +kernel)
theorem kw_603 : (Jvm.Cond.instanceMethod ({ cls := "GuardVolumeModel", name := "takeWords", desc := "(II)V" } : Jvm.MethodName)) ∈ gW := gW_of (i := 603) (by decide +kernel) (by decide +kernel)
theorem kw_604 : (Jvm.Cond.code ({ cls := "GuardVolumeModel", name := "takeWords", desc := "(II)V" } : Jvm.MethodName) prog_7_method_17_code (4 : Nat) (Option.none : Option Jvm.ClassFile.FieldType)) ∈ gW := gW_of (i := 604) (by decide +kernel) (by decide +kernel)
theorem kw_605 : (Jvm.Cond.methodLink "GuardVolumeModel" (126 : Nat) ({ cls := "GuardVolumeModel", name := "put", desc := "(II)Z" } : Jvm.MethodName)) ∈ gW := gW_of (i := 605) (by decide +kernel) (by decide +kernel)
theorem kw_607 : (Jvm.Cond.instanceMethod ({ cls := "GuardVolumeModel", name := "put", desc := "(II)Z" } : Jvm.MethodName)) ∈ gW := gW_of (i := 607) (by decide +kernel) (by decide +kernel)
theorem kw_608 : (Jvm.Cond.code ({ cls := "GuardVolumeModel", name := "put", desc := "(II)Z" } : Jvm.MethodName) prog_7_method_20_code (4 : Nat) (Option.some Jvm.ClassFile.FieldType.boolean)) ∈ gW := gW_of (i := 608) (by decide +kernel) (by decide +kernel)
theorem kw_609 : (Jvm.Cond.methodLink "GuardVolumeModel" (108 : Nat) ({ cls := "GuardVolumeModel", name := "putCopy", desc := "(III)Z" } : Jvm.MethodName)) ∈ gW := gW_of (i := 609) (by decide +kernel) (by decide +kernel)
theorem kw_611 : (Jvm.Cond.instanceMethod ({ cls := "GuardVolumeModel", name := "putCopy", desc := "(III)Z" } : Jvm.MethodName)) ∈ gW := gW_of (i := 611) (by decide +kernel) (by decide +kernel)
theorem kw_612 : (Jvm.Cond.code ({ cls := "GuardVolumeModel", name := "putCopy", desc := "(III)Z" } : Jvm.MethodName) prog_7_method_19_code (4 : Nat) (Option.some Jvm.ClassFile.FieldType.boolean)) ∈ gW := gW_of (i := 612) (by decide +kernel) (by decide +kernel)
theorem kw_613 : (Jvm.Cond.methodLink "GuardVolumeModel" (99 : Nat) ({ cls := "GuardVolumeModel", name := "storeRow", desc := "(III)Z" } : Jvm.MethodName)) ∈ gW := gW_of (i := 613) (by decide +kernel) (by decide +kernel)
theorem kw_615 : (Jvm.Cond.instanceMethod ({ cls := "GuardVolumeModel", name := "storeRow", desc := "(III)Z" } : Jvm.MethodName)) ∈ gW := gW_of (i := 615) (by decide +kernel) (by decide +kernel)
theorem kw_616 : (Jvm.Cond.code ({ cls := "GuardVolumeModel", name := "storeRow", desc := "(III)Z" } : Jvm.MethodName) prog_7_method_18_code (5 : Nat) (Option.some Jvm.ClassFile.FieldType.boolean)) ∈ gW := gW_of (i := 616) (by decide +kernel) (by decide +kernel)
theorem kw_617 : (Jvm.Cond.methodLink "GuardVolumeModel" (95 : Nat) ({ cls := "GuardVolumeModel", name := "store", desc := "(III)Z" } : Jvm.MethodName)) ∈ gW := gW_of (i := 617) (by decide +kernel) (by decide +kernel)
theorem kw_619 : (Jvm.Cond.instanceMethod ({ cls := "GuardVolumeModel", name := "store", desc := "(III)Z" } : Jvm.MethodName)) ∈ gW := gW_of (i := 619) (by decide +kernel) (by decide +kernel)
theorem kw_620 : (Jvm.Cond.code ({ cls := "GuardVolumeModel", name := "store", desc := "(III)Z" } : Jvm.MethodName) prog_7_method_15_code (8 : Nat) (Option.some Jvm.ClassFile.FieldType.boolean)) ∈ gW := gW_of (i := 620) (by decide +kernel) (by decide +kernel)
theorem kw_621 : (Jvm.Cond.methodLink "GuardVolumeModel" (84 : Nat) ({ cls := "GuardVolumeModel", name := "planOf", desc := "(I)I" } : Jvm.MethodName)) ∈ gW := gW_of (i := 621) (by decide +kernel) (by decide +kernel)
theorem kw_623 : (Jvm.Cond.instanceMethod ({ cls := "GuardVolumeModel", name := "planOf", desc := "(I)I" } : Jvm.MethodName)) ∈ gW := gW_of (i := 623) (by decide +kernel) (by decide +kernel)
theorem kw_624 : (Jvm.Cond.code ({ cls := "GuardVolumeModel", name := "planOf", desc := "(I)I" } : Jvm.MethodName) prog_7_method_12_code (4 : Nat) (Option.some Jvm.ClassFile.FieldType.int)) ∈ gW := gW_of (i := 624) (by decide +kernel) (by decide +kernel)
theorem kw_625 : (Jvm.Cond.methodLink "GuardVolumeModel" (87 : Nat) ({ cls := "GuardVolumeModel", name := "lay", desc := "(III)V" } : Jvm.MethodName)) ∈ gW := gW_of (i := 625) (by decide +kernel) (by decide +kernel)
theorem kw_627 : (Jvm.Cond.instanceMethod ({ cls := "GuardVolumeModel", name := "lay", desc := "(III)V" } : Jvm.MethodName)) ∈ gW := gW_of (i := 627) (by decide +kernel) (by decide +kernel)
theorem kw_628 : (Jvm.Cond.code ({ cls := "GuardVolumeModel", name := "lay", desc := "(III)V" } : Jvm.MethodName) prog_7_method_14_code (5 : Nat) (Option.none : Option Jvm.ClassFile.FieldType)) ∈ gW := gW_of (i := 628) (by decide +kernel) (by decide +kernel)
theorem kw_629 : (Jvm.Cond.methodLink "GuardVolumeModel" (91 : Nat) ({ cls := "GuardVolumeModel", name := "dropPlan", desc := "(II)V" } : Jvm.MethodName)) ∈ gW := gW_of (i := 629) (by decide +kernel) (by decide +kernel)
theorem kw_631 : (Jvm.Cond.instanceMethod ({ cls := "GuardVolumeModel", name := "dropPlan", desc := "(II)V" } : Jvm.MethodName)) ∈ gW := gW_of (i := 631) (by decide +kernel) (by decide +kernel)
theorem kw_632 : (Jvm.Cond.code ({ cls := "GuardVolumeModel", name := "dropPlan", desc := "(II)V" } : Jvm.MethodName) prog_7_method_13_code (4 : Nat) (Option.none : Option Jvm.ClassFile.FieldType)) ∈ gW := gW_of (i := 632) (by decide +kernel) (by decide +kernel)
theorem kw_633 : (Jvm.Cond.methodLink "GuardVolumeModel" (102 : Nat) ({ cls := "GuardVolumeModel", name := "storeList", desc := "(III)Z" } : Jvm.MethodName)) ∈ gW := gW_of (i := 633) (by decide +kernel) (by decide +kernel)
theorem kw_635 : (Jvm.Cond.instanceMethod ({ cls := "GuardVolumeModel", name := "storeList", desc := "(III)Z" } : Jvm.MethodName)) ∈ gW := gW_of (i := 635) (by decide +kernel) (by decide +kernel)
theorem kw_636 : (Jvm.Cond.code ({ cls := "GuardVolumeModel", name := "storeList", desc := "(III)Z" } : Jvm.MethodName) prog_7_method_16_code (9 : Nat) (Option.some Jvm.ClassFile.FieldType.boolean)) ∈ gW := gW_of (i := 636) (by decide +kernel) (by decide +kernel)
theorem kw_637 : (Jvm.Cond.methodLink "GuardVolumeLaw" (82 : Nat) ({ cls := "GuardVolumeModel", name := "read", desc := "(II)I" } : Jvm.MethodName)) ∈ gW := gW_of (i := 637) (by decide +kernel) (by decide +kernel)
theorem kw_638 : (Jvm.Cond.instanceMethod ({ cls := "GuardVolumeModel", name := "read", desc := "(II)I" } : Jvm.MethodName)) ∈ gW := gW_of (i := 638) (by decide +kernel) (by decide +kernel)
theorem kw_639 : (Jvm.Cond.selects "GuardVolumeModel" ({ cls := "GuardVolumeModel", name := "read", desc := "(II)I" } : Jvm.MethodName) ({ cls := "GuardVolumeModel", name := "read", desc := "(II)I" } : Jvm.MethodName)) ∈ gW := gW_of (i := 639) (by decide +kernel) (by decide +kernel)
theorem kw_640 : (Jvm.Cond.code ({ cls := "GuardVolumeModel", name := "read", desc := "(II)I" } : Jvm.MethodName) prog_7_method_24_code (3 : Nat) (Option.some Jvm.ClassFile.FieldType.int)) ∈ gW := gW_of (i := 640) (by decide +kernel) (by decide +kernel)
theorem kw_641 : (Jvm.Cond.methodLink "GuardVolumeLaw" (86 : Nat) ({ cls := "GuardVolumeModel", name := "code", desc := "()I" } : Jvm.MethodName)) ∈ gW := gW_of (i := 641) (by decide +kernel) (by decide +kernel)
theorem kw_642 : (Jvm.Cond.instanceMethod ({ cls := "GuardVolumeModel", name := "code", desc := "()I" } : Jvm.MethodName)) ∈ gW := gW_of (i := 642) (by decide +kernel) (by decide +kernel)
theorem kw_643 : (Jvm.Cond.selects "GuardVolumeModel" ({ cls := "GuardVolumeModel", name := "code", desc := "()I" } : Jvm.MethodName) ({ cls := "GuardVolumeModel", name := "code", desc := "()I" } : Jvm.MethodName)) ∈ gW := gW_of (i := 643) (by decide +kernel) (by decide +kernel)
theorem kw_644 : (Jvm.Cond.code ({ cls := "GuardVolumeModel", name := "code", desc := "()I" } : Jvm.MethodName) prog_7_method_25_code (1 : Nat) (Option.some Jvm.ClassFile.FieldType.int)) ∈ gW := gW_of (i := 644) (by decide +kernel) (by decide +kernel)
theorem kw_645 : (Jvm.Cond.methodLink "GuardVolumeLaw" (90 : Nat) ({ cls := "GuardVolumeModel", name := "plan", desc := "(IIII)V" } : Jvm.MethodName)) ∈ gW := gW_of (i := 645) (by decide +kernel) (by decide +kernel)
theorem kw_646 : (Jvm.Cond.instanceMethod ({ cls := "GuardVolumeModel", name := "plan", desc := "(IIII)V" } : Jvm.MethodName)) ∈ gW := gW_of (i := 646) (by decide +kernel) (by decide +kernel)
theorem kw_647 : (Jvm.Cond.selects "GuardVolumeModel" ({ cls := "GuardVolumeModel", name := "plan", desc := "(IIII)V" } : Jvm.MethodName) ({ cls := "GuardVolumeModel", name := "plan", desc := "(IIII)V" } : Jvm.MethodName)) ∈ gW := gW_of (i := 647) (by decide +kernel) (by decide +kernel)
theorem kw_648 : (Jvm.Cond.code ({ cls := "GuardVolumeModel", name := "plan", desc := "(IIII)V" } : Jvm.MethodName) prog_7_method_26_code (7 : Nat) (Option.none : Option Jvm.ClassFile.FieldType)) ∈ gW := gW_of (i := 648) (by decide +kernel) (by decide +kernel)
theorem kw_649 : (Jvm.Cond.methodLink "GuardVolumeLaw" (94 : Nat) ({ cls := "GuardVolumeModel", name := "cutAfter", desc := "(I)V" } : Jvm.MethodName)) ∈ gW := gW_of (i := 649) (by decide +kernel) (by decide +kernel)
theorem kw_650 : (Jvm.Cond.instanceMethod ({ cls := "GuardVolumeModel", name := "cutAfter", desc := "(I)V" } : Jvm.MethodName)) ∈ gW := gW_of (i := 650) (by decide +kernel) (by decide +kernel)
theorem kw_651 : (Jvm.Cond.selects "GuardVolumeModel" ({ cls := "GuardVolumeModel", name := "cutAfter", desc := "(I)V" } : Jvm.MethodName) ({ cls := "GuardVolumeModel", name := "cutAfter", desc := "(I)V" } : Jvm.MethodName)) ∈ gW := gW_of (i := 651) (by decide +kernel) (by decide +kernel)
theorem kw_652 : (Jvm.Cond.code ({ cls := "GuardVolumeModel", name := "cutAfter", desc := "(I)V" } : Jvm.MethodName) prog_7_method_27_code (2 : Nat) (Option.none : Option Jvm.ClassFile.FieldType)) ∈ gW := gW_of (i := 652) (by decide +kernel) (by decide +kernel)
theorem kw_653 : (Jvm.Cond.methodLink "GuardVolumeLaw" (98 : Nat) ({ cls := "GuardVolumeModel", name := "start", desc := "()I" } : Jvm.MethodName)) ∈ gW := gW_of (i := 653) (by decide +kernel) (by decide +kernel)
theorem kw_654 : (Jvm.Cond.instanceMethod ({ cls := "GuardVolumeModel", name := "start", desc := "()I" } : Jvm.MethodName)) ∈ gW := gW_of (i := 654) (by decide +kernel) (by decide +kernel)
theorem kw_655 : (Jvm.Cond.selects "GuardVolumeModel" ({ cls := "GuardVolumeModel", name := "start", desc := "()I" } : Jvm.MethodName) ({ cls := "GuardVolumeModel", name := "start", desc := "()I" } : Jvm.MethodName)) ∈ gW := gW_of (i := 655) (by decide +kernel) (by decide +kernel)
theorem kw_656 : (Jvm.Cond.code ({ cls := "GuardVolumeModel", name := "start", desc := "()I" } : Jvm.MethodName) prog_7_method_28_code (3 : Nat) (Option.some Jvm.ClassFile.FieldType.int)) ∈ gW := gW_of (i := 656) (by decide +kernel) (by decide +kernel)
theorem kw_657 : (Jvm.Cond.methodLink "GuardVolumeLaw" (102 : Nat) ({ cls := "GuardVolumeModel", name := "scrub", desc := "(I)I" } : Jvm.MethodName)) ∈ gW := gW_of (i := 657) (by decide +kernel) (by decide +kernel)
theorem kw_658 : (Jvm.Cond.instanceMethod ({ cls := "GuardVolumeModel", name := "scrub", desc := "(I)I" } : Jvm.MethodName)) ∈ gW := gW_of (i := 658) (by decide +kernel) (by decide +kernel)
theorem kw_659 : (Jvm.Cond.selects "GuardVolumeModel" ({ cls := "GuardVolumeModel", name := "scrub", desc := "(I)I" } : Jvm.MethodName) ({ cls := "GuardVolumeModel", name := "scrub", desc := "(I)I" } : Jvm.MethodName)) ∈ gW := gW_of (i := 659) (by decide +kernel) (by decide +kernel)
theorem kw_660 : (Jvm.Cond.code ({ cls := "GuardVolumeModel", name := "scrub", desc := "(I)I" } : Jvm.MethodName) prog_7_method_31_code (3 : Nat) (Option.some Jvm.ClassFile.FieldType.int)) ∈ gW := gW_of (i := 660) (by decide +kernel) (by decide +kernel)
theorem kw_661 : (Jvm.Cond.methodLink "GuardVolumeModel" (142 : Nat) ({ cls := "GuardVolumeModel", name := "scrubOf", desc := "(I)Z" } : Jvm.MethodName)) ∈ gW := gW_of (i := 661) (by decide +kernel) (by decide +kernel)
theorem kw_663 : (Jvm.Cond.instanceMethod ({ cls := "GuardVolumeModel", name := "scrubOf", desc := "(I)Z" } : Jvm.MethodName)) ∈ gW := gW_of (i := 663) (by decide +kernel) (by decide +kernel)
theorem kw_664 : (Jvm.Cond.code ({ cls := "GuardVolumeModel", name := "scrubOf", desc := "(I)Z" } : Jvm.MethodName) prog_7_method_30_code (6 : Nat) (Option.some Jvm.ClassFile.FieldType.boolean)) ∈ gW := gW_of (i := 664) (by decide +kernel) (by decide +kernel)
theorem kw_665 : (Jvm.Cond.methodLink "GuardVolumeModel" (135 : Nat) ({ cls := "GuardVolumeModel", name := "find", desc := "(IIII)V" } : Jvm.MethodName)) ∈ gW := gW_of (i := 665) (by decide +kernel) (by decide +kernel)
theorem kw_667 : (Jvm.Cond.instanceMethod ({ cls := "GuardVolumeModel", name := "find", desc := "(IIII)V" } : Jvm.MethodName)) ∈ gW := gW_of (i := 667) (by decide +kernel) (by decide +kernel)
theorem kw_668 : (Jvm.Cond.code ({ cls := "GuardVolumeModel", name := "find", desc := "(IIII)V" } : Jvm.MethodName) prog_7_method_29_code (5 : Nat) (Option.none : Option Jvm.ClassFile.FieldType)) ∈ gW := gW_of (i := 668) (by decide +kernel) (by decide +kernel)
theorem kw_669 : (Jvm.Cond.methodLink "GuardVolumeLaw" (107 : Nat) ({ cls := "GuardVolumeModel", name := "findings", desc := "(Z)I" } : Jvm.MethodName)) ∈ gW := gW_of (i := 669) (by decide +kernel) (by decide +kernel)
theorem kw_670 : (Jvm.Cond.instanceMethod ({ cls := "GuardVolumeModel", name := "findings", desc := "(Z)I" } : Jvm.MethodName)) ∈ gW := gW_of (i := 670) (by decide +kernel) (by decide +kernel)
theorem kw_671 : (Jvm.Cond.selects "GuardVolumeModel" ({ cls := "GuardVolumeModel", name := "findings", desc := "(Z)I" } : Jvm.MethodName) ({ cls := "GuardVolumeModel", name := "findings", desc := "(Z)I" } : Jvm.MethodName)) ∈ gW := gW_of (i := 671) (by decide +kernel) (by decide +kernel)
theorem kw_672 : (Jvm.Cond.code ({ cls := "GuardVolumeModel", name := "findings", desc := "(Z)I" } : Jvm.MethodName) prog_7_method_32_code (3 : Nat) (Option.some Jvm.ClassFile.FieldType.int)) ∈ gW := gW_of (i := 672) (by decide +kernel) (by decide +kernel)
theorem kw_673 : (Jvm.Cond.methodLink "GuardVolumeLaw" (110 : Nat) ({ cls := "GuardVolumeModel", name := "finding", desc := "(II)I" } : Jvm.MethodName)) ∈ gW := gW_of (i := 673) (by decide +kernel) (by decide +kernel)
theorem kw_674 : (Jvm.Cond.instanceMethod ({ cls := "GuardVolumeModel", name := "finding", desc := "(II)I" } : Jvm.MethodName)) ∈ gW := gW_of (i := 674) (by decide +kernel) (by decide +kernel)
theorem kw_675 : (Jvm.Cond.selects "GuardVolumeModel" ({ cls := "GuardVolumeModel", name := "finding", desc := "(II)I" } : Jvm.MethodName) ({ cls := "GuardVolumeModel", name := "finding", desc := "(II)I" } : Jvm.MethodName)) ∈ gW := gW_of (i := 675) (by decide +kernel) (by decide +kernel)
theorem kw_676 : (Jvm.Cond.code ({ cls := "GuardVolumeModel", name := "finding", desc := "(II)I" } : Jvm.MethodName) prog_7_method_33_code (3 : Nat) (Option.some Jvm.ClassFile.FieldType.int)) ∈ gW := gW_of (i := 676) (by decide +kernel) (by decide +kernel)
theorem kw_677 : (Jvm.Cond.methodLink "GuardVolumeLaw" (113 : Nat) ({ cls := "GuardVolumeModel", name := "expected", desc := "(II)I" } : Jvm.MethodName)) ∈ gW := gW_of (i := 677) (by decide +kernel) (by decide +kernel)
theorem kw_678 : (Jvm.Cond.instanceMethod ({ cls := "GuardVolumeModel", name := "expected", desc := "(II)I" } : Jvm.MethodName)) ∈ gW := gW_of (i := 678) (by decide +kernel) (by decide +kernel)
theorem kw_679 : (Jvm.Cond.selects "GuardVolumeModel" ({ cls := "GuardVolumeModel", name := "expected", desc := "(II)I" } : Jvm.MethodName) ({ cls := "GuardVolumeModel", name := "expected", desc := "(II)I" } : Jvm.MethodName)) ∈ gW := gW_of (i := 679) (by decide +kernel) (by decide +kernel)
theorem kw_680 : (Jvm.Cond.code ({ cls := "GuardVolumeModel", name := "expected", desc := "(II)I" } : Jvm.MethodName) prog_7_method_34_code (3 : Nat) (Option.some Jvm.ClassFile.FieldType.int)) ∈ gW := gW_of (i := 680) (by decide +kernel) (by decide +kernel)
theorem kw_681 : (Jvm.Cond.methodLink "GuardVolumeLaw" (116 : Nat) ({ cls := "GuardVolumeModel", name := "verdict", desc := "(II)I" } : Jvm.MethodName)) ∈ gW := gW_of (i := 681) (by decide +kernel) (by decide +kernel)
theorem kw_682 : (Jvm.Cond.instanceMethod ({ cls := "GuardVolumeModel", name := "verdict", desc := "(II)I" } : Jvm.MethodName)) ∈ gW := gW_of (i := 682) (by decide +kernel) (by decide +kernel)
theorem kw_683 : (Jvm.Cond.selects "GuardVolumeModel" ({ cls := "GuardVolumeModel", name := "verdict", desc := "(II)I" } : Jvm.MethodName) ({ cls := "GuardVolumeModel", name := "verdict", desc := "(II)I" } : Jvm.MethodName)) ∈ gW := gW_of (i := 683) (by decide +kernel) (by decide +kernel)
theorem kw_684 : (Jvm.Cond.code ({ cls := "GuardVolumeModel", name := "verdict", desc := "(II)I" } : Jvm.MethodName) prog_7_method_35_code (3 : Nat) (Option.some Jvm.ClassFile.FieldType.int)) ∈ gW := gW_of (i := 684) (by decide +kernel) (by decide +kernel)
theorem kw_685 : (Jvm.Cond.methodLink "GuardVolumeLaw" (119 : Nat) ({ cls := "GuardVolumeModel", name := "isRight", desc := "(II)Z" } : Jvm.MethodName)) ∈ gW := gW_of (i := 685) (by decide +kernel) (by decide +kernel)
theorem kw_686 : (Jvm.Cond.instanceMethod ({ cls := "GuardVolumeModel", name := "isRight", desc := "(II)Z" } : Jvm.MethodName)) ∈ gW := gW_of (i := 686) (by decide +kernel) (by decide +kernel)
theorem kw_687 : (Jvm.Cond.selects "GuardVolumeModel" ({ cls := "GuardVolumeModel", name := "isRight", desc := "(II)Z" } : Jvm.MethodName) ({ cls := "GuardVolumeModel", name := "isRight", desc := "(II)Z" } : Jvm.MethodName)) ∈ gW := gW_of (i := 687) (by decide +kernel) (by decide +kernel)
theorem kw_688 : (Jvm.Cond.code ({ cls := "GuardVolumeModel", name := "isRight", desc := "(II)Z" } : Jvm.MethodName) prog_7_method_36_code (3 : Nat) (Option.some Jvm.ClassFile.FieldType.boolean)) ∈ gW := gW_of (i := 688) (by decide +kernel) (by decide +kernel)
theorem kw_689 : (Jvm.Cond.methodLink "GuardVolumeLaw" (122 : Nat) ({ cls := "GuardVolumeModel", name := "raw", desc := "(III)I" } : Jvm.MethodName)) ∈ gW := gW_of (i := 689) (by decide +kernel) (by decide +kernel)
theorem kw_690 : (Jvm.Cond.instanceMethod ({ cls := "GuardVolumeModel", name := "raw", desc := "(III)I" } : Jvm.MethodName)) ∈ gW := gW_of (i := 690) (by decide +kernel) (by decide +kernel)
theorem kw_691 : (Jvm.Cond.selects "GuardVolumeModel" ({ cls := "GuardVolumeModel", name := "raw", desc := "(III)I" } : Jvm.MethodName) ({ cls := "GuardVolumeModel", name := "raw", desc := "(III)I" } : Jvm.MethodName)) ∈ gW := gW_of (i := 691) (by decide +kernel) (by decide +kernel)
theorem kw_692 : (Jvm.Cond.code ({ cls := "GuardVolumeModel", name := "raw", desc := "(III)I" } : Jvm.MethodName) prog_7_method_37_code (4 : Nat) (Option.some Jvm.ClassFile.FieldType.int)) ∈ gW := gW_of (i := 692) (by decide +kernel) (by decide +kernel)
theorem kw_693 : (Jvm.Cond.methodLink "GuardVolumeLaw" (125 : Nat) ({ cls := "GuardVolumeModel", name := "replace", desc := "(I)V" } : Jvm.MethodName)) ∈ gW := gW_of (i := 693) (by decide +kernel) (by decide +kernel)
theorem kw_694 : (Jvm.Cond.instanceMethod ({ cls := "GuardVolumeModel", name := "replace", desc := "(I)V" } : Jvm.MethodName)) ∈ gW := gW_of (i := 694) (by decide +kernel) (by decide +kernel)
theorem kw_695 : (Jvm.Cond.selects "GuardVolumeModel" ({ cls := "GuardVolumeModel", name := "replace", desc := "(I)V" } : Jvm.MethodName) ({ cls := "GuardVolumeModel", name := "replace", desc := "(I)V" } : Jvm.MethodName)) ∈ gW := gW_of (i := 695) (by decide +kernel) (by decide +kernel)
theorem kw_696 : (Jvm.Cond.code ({ cls := "GuardVolumeModel", name := "replace", desc := "(I)V" } : Jvm.MethodName) prog_7_method_38_code (3 : Nat) (Option.none : Option Jvm.ClassFile.FieldType)) ∈ gW := gW_of (i := 696) (by decide +kernel) (by decide +kernel)
theorem kw_697 : (Jvm.Cond.methodLink "GuardVolumeLaw" (128 : Nat) ({ cls := "GuardVolumeModel", name := "rebuild", desc := "(I)I" } : Jvm.MethodName)) ∈ gW := gW_of (i := 697) (by decide +kernel) (by decide +kernel)
theorem kw_698 : (Jvm.Cond.instanceMethod ({ cls := "GuardVolumeModel", name := "rebuild", desc := "(I)I" } : Jvm.MethodName)) ∈ gW := gW_of (i := 698) (by decide +kernel) (by decide +kernel)
theorem kw_699 : (Jvm.Cond.selects "GuardVolumeModel" ({ cls := "GuardVolumeModel", name := "rebuild", desc := "(I)I" } : Jvm.MethodName) ({ cls := "GuardVolumeModel", name := "rebuild", desc := "(I)I" } : Jvm.MethodName)) ∈ gW := gW_of (i := 699) (by decide +kernel) (by decide +kernel)
theorem kw_700 : (Jvm.Cond.code ({ cls := "GuardVolumeModel", name := "rebuild", desc := "(I)I" } : Jvm.MethodName) prog_7_method_39_code (7 : Nat) (Option.some Jvm.ClassFile.FieldType.int)) ∈ gW := gW_of (i := 700) (by decide +kernel) (by decide +kernel)
theorem kw_701 : (Jvm.Cond.methodLink "GuardVolumeLaw" (131 : Nat) ({ cls := "GuardVolumeModel", name := "count", desc := "(I)I" } : Jvm.MethodName)) ∈ gW := gW_of (i := 701) (by decide +kernel) (by decide +kernel)
theorem kw_702 : (Jvm.Cond.instanceMethod ({ cls := "GuardVolumeModel", name := "count", desc := "(I)I" } : Jvm.MethodName)) ∈ gW := gW_of (i := 702) (by decide +kernel) (by decide +kernel)
theorem kw_703 : (Jvm.Cond.selects "GuardVolumeModel" ({ cls := "GuardVolumeModel", name := "count", desc := "(I)I" } : Jvm.MethodName) ({ cls := "GuardVolumeModel", name := "count", desc := "(I)I" } : Jvm.MethodName)) ∈ gW := gW_of (i := 703) (by decide +kernel) (by decide +kernel)
theorem kw_704 : (Jvm.Cond.code ({ cls := "GuardVolumeModel", name := "count", desc := "(I)I" } : Jvm.MethodName) prog_7_method_40_code (4 : Nat) (Option.some Jvm.ClassFile.FieldType.int)) ∈ gW := gW_of (i := 704) (by decide +kernel) (by decide +kernel)
theorem kw_705 : (Jvm.Cond.arrayClass Jvm.ClassFile.FieldType.long) ∈ gW := gW_of (i := 705) (by decide +kernel) (by decide +kernel)
theorem kw_706 : (Jvm.Cond.sameMethod "java/lang/Throwable" "java/lang/Throwable" "fillInStackTrace" "(I)Ljava/lang/Throwable;") ∈ gW := gW_of (i := 706) (by decide +kernel) (by decide +kernel)
theorem gW_sel {q : MethodName × Nat} (h : q ∈ lw_privs) : Cond.selects q.1.cls q.1 q.1 ∈ gW := List.mem_filter.mpr ⟨List.mem_append_left _ (List.mem_map.mpr ⟨q, h, rfl⟩), rfl⟩
theorem ks_G_goodCopy : Cond.selects "GuardVolume" ⟨"GuardVolume", "goodCopy", "(I)I"⟩ ⟨"GuardVolume", "goodCopy", "(I)I"⟩ ∈ gW := gW_sel (q := (⟨"GuardVolume", "goodCopy", "(I)I"⟩, 11)) (List.mem_of_getElem? (i := 1) rfl)
theorem ks_G_judge : Cond.selects "GuardVolume" ⟨"GuardVolume", "judge", "(II)I"⟩ ⟨"GuardVolume", "judge", "(II)I"⟩ ∈ gW := gW_sel (q := (⟨"GuardVolume", "judge", "(II)I"⟩, 11)) (List.mem_of_getElem? (i := 2) rfl)
theorem ks_G_driveOf : Cond.selects "GuardVolume" ⟨"GuardVolume", "driveOf", "(I)LGuardVolume$Drive;"⟩ ⟨"GuardVolume", "driveOf", "(I)LGuardVolume$Drive;"⟩ ∈ gW := gW_sel (q := (⟨"GuardVolume", "driveOf", "(I)LGuardVolume$Drive;"⟩, 11)) (List.mem_of_getElem? (i := 3) rfl)
theorem ks_D_at : Cond.selects "GuardVolume$Drive" ⟨"GuardVolume$Drive", "at", "(II)I"⟩ ⟨"GuardVolume$Drive", "at", "(II)I"⟩ ∈ gW := gW_sel (q := (⟨"GuardVolume$Drive", "at", "(II)I"⟩, 6)) (List.mem_of_getElem? (i := 4) rfl)
theorem ks_G_expectedVersion : Cond.selects "GuardVolume" ⟨"GuardVolume", "expectedVersion", "(II)I"⟩ ⟨"GuardVolume", "expectedVersion", "(II)I"⟩ ∈ gW := gW_sel (q := (⟨"GuardVolume", "expectedVersion", "(II)I"⟩, 11)) (List.mem_of_getElem? (i := 5) rfl)
theorem ks_G_listDrive : Cond.selects "GuardVolume" ⟨"GuardVolume", "listDrive", "(II)I"⟩ ⟨"GuardVolume", "listDrive", "(II)I"⟩ ∈ gW := gW_sel (q := (⟨"GuardVolume", "listDrive", "(II)I"⟩, 11)) (List.mem_of_getElem? (i := 6) rfl)
theorem ks_G_isPageRight : Cond.selects "GuardVolume" ⟨"GuardVolume", "isPageRight", "(II)Z"⟩ ⟨"GuardVolume", "isPageRight", "(II)Z"⟩ ∈ gW := gW_sel (q := (⟨"GuardVolume", "isPageRight", "(II)Z"⟩, 11)) (List.mem_of_getElem? (i := 7) rfl)
theorem ks_D_giveWords : Cond.selects "GuardVolume$Drive" ⟨"GuardVolume$Drive", "giveWords", "(I[I)V"⟩ ⟨"GuardVolume$Drive", "giveWords", "(I[I)V"⟩ ∈ gW := gW_sel (q := (⟨"GuardVolume$Drive", "giveWords", "(I[I)V"⟩, 6)) (List.mem_of_getElem? (i := 8) rfl)
theorem ks_G_putNotedBlock : Cond.selects "GuardVolume" ⟨"GuardVolume", "putNotedBlock", "()Z"⟩ ⟨"GuardVolume", "putNotedBlock", "()Z"⟩ ∈ gW := gW_sel (q := (⟨"GuardVolume", "putNotedBlock", "()Z"⟩, 11)) (List.mem_of_getElem? (i := 9) rfl)
theorem ks_G_putCopy : Cond.selects "GuardVolume" ⟨"GuardVolume", "putCopy", "(II[II)Z"⟩ ⟨"GuardVolume", "putCopy", "(II[II)Z"⟩ ∈ gW := gW_sel (q := (⟨"GuardVolume", "putCopy", "(II[II)Z"⟩, 11)) (List.mem_of_getElem? (i := 10) rfl)
theorem ks_G_store : Cond.selects "GuardVolume" ⟨"GuardVolume", "store", "(II[II)Z"⟩ ⟨"GuardVolume", "store", "(II[II)Z"⟩ ∈ gW := gW_sel (q := (⟨"GuardVolume", "store", "(II[II)Z"⟩, 11)) (List.mem_of_getElem? (i := 11) rfl)
theorem ks_P_allowsWrite : Cond.selects "GuardVolume$Power" ⟨"GuardVolume$Power", "allowsWrite", "()Z"⟩ ⟨"GuardVolume$Power", "allowsWrite", "()Z"⟩ ∈ gW := gW_sel (q := (⟨"GuardVolume$Power", "allowsWrite", "()Z"⟩, 2)) (List.mem_of_getElem? (i := 12) rfl)
theorem ks_D_take : Cond.selects "GuardVolume$Drive" ⟨"GuardVolume$Drive", "take", "(I[I)V"⟩ ⟨"GuardVolume$Drive", "take", "(I[I)V"⟩ ∈ gW := gW_sel (q := (⟨"GuardVolume$Drive", "take", "(I[I)V"⟩, 6)) (List.mem_of_getElem? (i := 13) rfl)
theorem ks_D_planOfNext : Cond.selects "GuardVolume$Drive" ⟨"GuardVolume$Drive", "planOfNext", "(I)I"⟩ ⟨"GuardVolume$Drive", "planOfNext", "(I)I"⟩ ∈ gW := gW_sel (q := (⟨"GuardVolume$Drive", "planOfNext", "(I)I"⟩, 6)) (List.mem_of_getElem? (i := 14) rfl)
theorem ks_D_keep : Cond.selects "GuardVolume$Drive" ⟨"GuardVolume$Drive", "keep", "(I[II)V"⟩ ⟨"GuardVolume$Drive", "keep", "(I[II)V"⟩ ∈ gW := gW_sel (q := (⟨"GuardVolume$Drive", "keep", "(I[II)V"⟩, 6)) (List.mem_of_getElem? (i := 15) rfl)
theorem ks_D_removePlan : Cond.selects "GuardVolume$Drive" ⟨"GuardVolume$Drive", "removePlan", "(I)V"⟩ ⟨"GuardVolume$Drive", "removePlan", "(I)V"⟩ ∈ gW := gW_sel (q := (⟨"GuardVolume$Drive", "removePlan", "(I)V"⟩, 6)) (List.mem_of_getElem? (i := 16) rfl)
theorem ks_G_storeList : Cond.selects "GuardVolume" ⟨"GuardVolume", "storeList", "(III)Z"⟩ ⟨"GuardVolume", "storeList", "(III)Z"⟩ ∈ gW := gW_sel (q := (⟨"GuardVolume", "storeList", "(III)Z"⟩, 11)) (List.mem_of_getElem? (i := 17) rfl)
theorem ks_D_addPlan : Cond.selects "GuardVolume$Drive" ⟨"GuardVolume$Drive", "addPlan", "(III)V"⟩ ⟨"GuardVolume$Drive", "addPlan", "(III)V"⟩ ∈ gW := gW_sel (q := (⟨"GuardVolume$Drive", "addPlan", "(III)V"⟩, 6)) (List.mem_of_getElem? (i := 18) rfl)
theorem ks_G_scrubBlock : Cond.selects "GuardVolume" ⟨"GuardVolume", "scrubBlock", "(I)Z"⟩ ⟨"GuardVolume", "scrubBlock", "(I)Z"⟩ ∈ gW := gW_sel (q := (⟨"GuardVolume", "scrubBlock", "(I)Z"⟩, 11)) (List.mem_of_getElem? (i := 19) rfl)
theorem ks_G_mendList : Cond.selects "GuardVolume" ⟨"GuardVolume", "mendList", "(II)Z"⟩ ⟨"GuardVolume", "mendList", "(II)Z"⟩ ∈ gW := gW_sel (q := (⟨"GuardVolume", "mendList", "(II)Z"⟩, 11)) (List.mem_of_getElem? (i := 20) rfl)
theorem ks_F_tell : Cond.selects "GuardVolume$Findings" ⟨"GuardVolume$Findings", "tell", "(IIII)V"⟩ ⟨"GuardVolume$Findings", "tell", "(IIII)V"⟩ ∈ gW := gW_sel (q := (⟨"GuardVolume$Findings", "tell", "(IIII)V"⟩, 3)) (List.mem_of_getElem? (i := 21) rfl)
theorem ks_G_mendCopies : Cond.selects "GuardVolume" ⟨"GuardVolume", "mendCopies", "(I)Z"⟩ ⟨"GuardVolume", "mendCopies", "(I)Z"⟩ ∈ gW := gW_sel (q := (⟨"GuardVolume", "mendCopies", "(I)Z"⟩, 11)) (List.mem_of_getElem? (i := 22) rfl)
theorem ks_D_wipe : Cond.selects "GuardVolume$Drive" ⟨"GuardVolume$Drive", "wipe", "()V"⟩ ⟨"GuardVolume$Drive", "wipe", "()V"⟩ ∈ gW := gW_sel (q := (⟨"GuardVolume$Drive", "wipe", "()V"⟩, 6)) (List.mem_of_getElem? (i := 23) rfl)
theorem ks_G_rebuildBlock : Cond.selects "GuardVolume" ⟨"GuardVolume", "rebuildBlock", "(III)Z"⟩ ⟨"GuardVolume", "rebuildBlock", "(III)Z"⟩ ∈ gW := gW_sel (q := (⟨"GuardVolume", "rebuildBlock", "(III)Z"⟩, 11)) (List.mem_of_getElem? (i := 24) rfl)
theorem ks_G_greatestPageVersion : Cond.selects "GuardVolume" ⟨"GuardVolume", "greatestPageVersion", "()I"⟩ ⟨"GuardVolume", "greatestPageVersion", "()I"⟩ ∈ gW := gW_sel (q := (⟨"GuardVolume", "greatestPageVersion", "()I"⟩, 11)) (List.mem_of_getElem? (i := 25) rfl)
theorem ks_M_sumAt : Cond.selects "GuardVolumeModel" ⟨"GuardVolumeModel", "sumAt", "(I)I"⟩ ⟨"GuardVolumeModel", "sumAt", "(I)I"⟩ ∈ gW := gW_sel (q := (⟨"GuardVolumeModel", "sumAt", "(I)I"⟩, 20)) (List.mem_of_getElem? (i := 26) rfl)
theorem ks_M_codeOf : Cond.selects "GuardVolumeModel" ⟨"GuardVolumeModel", "codeOf", "(I)I"⟩ ⟨"GuardVolumeModel", "codeOf", "(I)I"⟩ ∈ gW := gW_sel (q := (⟨"GuardVolumeModel", "codeOf", "(I)I"⟩, 20)) (List.mem_of_getElem? (i := 27) rfl)
theorem ks_M_verdictOf : Cond.selects "GuardVolumeModel" ⟨"GuardVolumeModel", "verdictOf", "(II)I"⟩ ⟨"GuardVolumeModel", "verdictOf", "(II)I"⟩ ∈ gW := gW_sel (q := (⟨"GuardVolumeModel", "verdictOf", "(II)I"⟩, 20)) (List.mem_of_getElem? (i := 28) rfl)
theorem ks_M_isWhole : Cond.selects "GuardVolumeModel" ⟨"GuardVolumeModel", "isWhole", "(II)Z"⟩ ⟨"GuardVolumeModel", "isWhole", "(II)Z"⟩ ∈ gW := gW_sel (q := (⟨"GuardVolumeModel", "isWhole", "(II)Z"⟩, 20)) (List.mem_of_getElem? (i := 29) rfl)
theorem ks_M_isUnknown : Cond.selects "GuardVolumeModel" ⟨"GuardVolumeModel", "isUnknown", "(II)Z"⟩ ⟨"GuardVolumeModel", "isUnknown", "(II)Z"⟩ ∈ gW := gW_sel (q := (⟨"GuardVolumeModel", "isUnknown", "(II)Z"⟩, 20)) (List.mem_of_getElem? (i := 30) rfl)
theorem ks_M_isRightPage : Cond.selects "GuardVolumeModel" ⟨"GuardVolumeModel", "isRightPage", "(II)Z"⟩ ⟨"GuardVolumeModel", "isRightPage", "(II)Z"⟩ ∈ gW := gW_sel (q := (⟨"GuardVolumeModel", "isRightPage", "(II)Z"⟩, 20)) (List.mem_of_getElem? (i := 31) rfl)
theorem ks_M_expectedOf : Cond.selects "GuardVolumeModel" ⟨"GuardVolumeModel", "expectedOf", "(II)I"⟩ ⟨"GuardVolumeModel", "expectedOf", "(II)I"⟩ ∈ gW := gW_sel (q := (⟨"GuardVolumeModel", "expectedOf", "(II)I"⟩, 20)) (List.mem_of_getElem? (i := 32) rfl)
theorem ks_M_listed : Cond.selects "GuardVolumeModel" ⟨"GuardVolumeModel", "listed", "(II)I"⟩ ⟨"GuardVolumeModel", "listed", "(II)I"⟩ ∈ gW := gW_sel (q := (⟨"GuardVolumeModel", "listed", "(II)I"⟩, 20)) (List.mem_of_getElem? (i := 33) rfl)
theorem ks_M_takeWords : Cond.selects "GuardVolumeModel" ⟨"GuardVolumeModel", "takeWords", "(II)V"⟩ ⟨"GuardVolumeModel", "takeWords", "(II)V"⟩ ∈ gW := gW_sel (q := (⟨"GuardVolumeModel", "takeWords", "(II)V"⟩, 20)) (List.mem_of_getElem? (i := 34) rfl)
theorem ks_M_put : Cond.selects "GuardVolumeModel" ⟨"GuardVolumeModel", "put", "(II)Z"⟩ ⟨"GuardVolumeModel", "put", "(II)Z"⟩ ∈ gW := gW_sel (q := (⟨"GuardVolumeModel", "put", "(II)Z"⟩, 20)) (List.mem_of_getElem? (i := 35) rfl)
theorem ks_M_putCopy : Cond.selects "GuardVolumeModel" ⟨"GuardVolumeModel", "putCopy", "(III)Z"⟩ ⟨"GuardVolumeModel", "putCopy", "(III)Z"⟩ ∈ gW := gW_sel (q := (⟨"GuardVolumeModel", "putCopy", "(III)Z"⟩, 20)) (List.mem_of_getElem? (i := 36) rfl)
theorem ks_M_storeRow : Cond.selects "GuardVolumeModel" ⟨"GuardVolumeModel", "storeRow", "(III)Z"⟩ ⟨"GuardVolumeModel", "storeRow", "(III)Z"⟩ ∈ gW := gW_sel (q := (⟨"GuardVolumeModel", "storeRow", "(III)Z"⟩, 20)) (List.mem_of_getElem? (i := 37) rfl)
theorem ks_M_store : Cond.selects "GuardVolumeModel" ⟨"GuardVolumeModel", "store", "(III)Z"⟩ ⟨"GuardVolumeModel", "store", "(III)Z"⟩ ∈ gW := gW_sel (q := (⟨"GuardVolumeModel", "store", "(III)Z"⟩, 20)) (List.mem_of_getElem? (i := 38) rfl)
theorem ks_M_planOf : Cond.selects "GuardVolumeModel" ⟨"GuardVolumeModel", "planOf", "(I)I"⟩ ⟨"GuardVolumeModel", "planOf", "(I)I"⟩ ∈ gW := gW_sel (q := (⟨"GuardVolumeModel", "planOf", "(I)I"⟩, 20)) (List.mem_of_getElem? (i := 39) rfl)
theorem ks_M_lay : Cond.selects "GuardVolumeModel" ⟨"GuardVolumeModel", "lay", "(III)V"⟩ ⟨"GuardVolumeModel", "lay", "(III)V"⟩ ∈ gW := gW_sel (q := (⟨"GuardVolumeModel", "lay", "(III)V"⟩, 20)) (List.mem_of_getElem? (i := 40) rfl)
theorem ks_M_dropPlan : Cond.selects "GuardVolumeModel" ⟨"GuardVolumeModel", "dropPlan", "(II)V"⟩ ⟨"GuardVolumeModel", "dropPlan", "(II)V"⟩ ∈ gW := gW_sel (q := (⟨"GuardVolumeModel", "dropPlan", "(II)V"⟩, 20)) (List.mem_of_getElem? (i := 41) rfl)
theorem ks_M_storeList : Cond.selects "GuardVolumeModel" ⟨"GuardVolumeModel", "storeList", "(III)Z"⟩ ⟨"GuardVolumeModel", "storeList", "(III)Z"⟩ ∈ gW := gW_sel (q := (⟨"GuardVolumeModel", "storeList", "(III)Z"⟩, 20)) (List.mem_of_getElem? (i := 42) rfl)
theorem ks_M_scrubOf : Cond.selects "GuardVolumeModel" ⟨"GuardVolumeModel", "scrubOf", "(I)Z"⟩ ⟨"GuardVolumeModel", "scrubOf", "(I)Z"⟩ ∈ gW := gW_sel (q := (⟨"GuardVolumeModel", "scrubOf", "(I)Z"⟩, 20)) (List.mem_of_getElem? (i := 43) rfl)
theorem ks_M_find : Cond.selects "GuardVolumeModel" ⟨"GuardVolumeModel", "find", "(IIII)V"⟩ ⟨"GuardVolumeModel", "find", "(IIII)V"⟩ ∈ gW := gW_sel (q := (⟨"GuardVolumeModel", "find", "(IIII)V"⟩, 20)) (List.mem_of_getElem? (i := 44) rfl)
end
section
/-! the world: cells by number, in the order in which the law makes them; what a step reads and writes, as functions -/
abbrev Wo : Type := Nat → Nat → Int32
/-- how many cells there are, and which fields are still null -/
abbrev La : Type := Nat × (Nat → Nat → Bool)
def obL : List (Option (Nat × List (Option Nat))) :=
  [some (4, [some 1, some 7, some 13, some 14, some 16, some 18, none, none, some 19, some 20, some 21]),
   some (0, [some 2, some 3, some 4, some 5, none, none]), none, none, none, none, none,
   some (0, [some 8, some 9, some 10, some 11, none, none]), none, none, none, none, none,
   some (3, [none, none]),
   some (2, [some 15, none, none]), none,
   some (1, [some 17, none, none]), none, none, none, none, none,
   some (5, [none, some 23, some 24, none, some 25, none, none, none, some 26, some 27, some 28, some 29, some 30, none, none, none, none, some 31, some 32, some 33])]
def arL : List (Option Nat) :=
  [none, none, some 792, some 8, some 8, some 8, some 11, none, some 792, some 8, some 8, some 8, some 11, none, none, some 8, none, some 400, some 16, some 11, some 8, some 8,
   none, some 1584, some 16, some 8, some 2, some 2, some 16, some 16, some 16, some 400, some 11, some 8]
/-- an object: the number of its class, and of each field whether it is a number or which cell it names -/
def ob (c : Nat) : Option (Nat × List (Option Nat)) := (obL[c]?).join
/-- an array of ints: its length -/
def ar (c : Nat) : Option Nat := (arL[c]?).join
theorem ar_ob {c n : Nat} (h : ar c = some n) : ob c = none := by
  by_cases hc : c < 34
  · have key : ∀ c, c < 34 → ar c ≠ none → ob c = none := by decide +kernel
    exact key c hc (by rw [h]; exact fun q => by cases q)
  · have : arL[c]? = none := List.getElem?_eq_none (by show 34 ≤ c; omega)
    unfold ar at h
    rw [this] at h
    cases h
def fd (c k i : Nat) : Option (Option Nat) := (ob c).bind fun o => if o.1 = k then o.2[i]? else none
def up2 (w : Wo) (c i : Nat) (x : Int32) : Wo := fun d j => if d = c then (if j = i then x else w d j) else w d j
def cpw (w : Wo) (a i b j n : Nat) : Wo := fun d => if d = b then va_cpy (w a) (w b) i j n else w d
def isC (Λ : La) (c k : Nat) : Bool := decide (c < Λ.1) && ((ob c).map (·.1) == some k)
def gi (Λ : La) (w : Wo) (c k i : Nat) : Option Int32 := if c < Λ.1 ∧ fd c k i = some none then some (w c i) else none
def gr (Λ : La) (c k i : Nat) : Option Nat := if c < Λ.1 ∧ Λ.2 c i = false then (fd c k i).join else none
def pf (Λ : La) (w : Wo) (c k i : Nat) (x : Int32) : Option Wo := if c < Λ.1 ∧ fd c k i = some none then some (up2 w c i x) else none
def aok (Λ : La) (c : Nat) (i : Int32) : Bool := match ar c with
  | some n => decide (c < Λ.1) && !(decide (i < 0) || decide (n ≤ i.toNatClampNeg))
  | none => false
def ld (Λ : La) (w : Wo) (c : Nat) (i : Int32) : Option Int32 := if aok Λ c i = true then some (w c i.toNatClampNeg) else none
def st (Λ : La) (w : Wo) (c : Nat) (i x : Int32) : Option Wo := if aok Λ c i = true then some (up2 w c i.toNatClampNeg x) else none
def al (Λ : La) (c : Nat) : Option Int32 := if c < Λ.1 then (ar c).map Int32.ofNat else none
def cpk (Λ : La) (a : Nat) (i : Int32) (b : Nat) (j n : Int32) : Bool := match ar a, ar b with
  | some na, some nb => decide (a < Λ.1) && decide (b < Λ.1) && !decide (i < 0) && !decide (j < 0) && !decide (n < 0) && decide (i.toNatClampNeg + n.toNatClampNeg ≤ na) && decide (j.toNatClampNeg + n.toNatClampNeg ≤ nb)
  | _, _ => false
def cp (Λ : La) (w : Wo) (a : Nat) (i : Int32) (b : Nat) (j n : Int32) : Option Wo := if cpk Λ a i b j n = true then some (cpw w a i.toNatClampNeg b j.toNatClampNeg n.toNatClampNeg) else none
/-- only where it holds -/
def gd {α : Type} (b : Bool) (x : Option α) : Option α := if b = true then x else none
def zr (w : Wo) (x : Int32) : Option (Wo × Int32) := if x = 0 ∨ x = 1 then some (w, x) else none
def ush (x y : Int32) : Int32 := (x.toUInt32 >>> (y.toUInt32 &&& Int32.toUInt32 31)).toInt32
theorem ush_ok (x y : Int32) : (x.toUInt32 >>> (y.toUInt32 &&& Int32.toUInt32 31)).toInt32 = ush x y := rfl
theorem gd_some {α : Type} {b : Bool} {x : Option α} {q : α} (h : gd b x = some q) : b = true ∧ x = some q := by
  unfold gd at h
  by_cases hb : b = true
  · rw [if_pos hb] at h; exact ⟨hb, h⟩
  · rw [if_neg hb] at h; cases h
theorem ob_ {α β : Type} {x : Option α} {f : α → Option β} {q : β} (h : x.bind f = some q) : ∃ a, x = some a ∧ f a = some q := Option.bind_eq_some_iff.mp h
theorem ip_ {α : Type} {c : Prop} [Decidable c] {a b : Option α} {q : α} (h : (if c then a else b) = some q) (hc : c) : a = some q := by rw [if_pos hc] at h; exact h
theorem in_ {α : Type} {c : Prop} [Decidable c] {a b : Option α} {q : α} (h : (if c then a else b) = some q) (hc : ¬ c) : b = some q := by rw [if_neg hc] at h; exact h
theorem fd_some {c k i : Nat} {o : Option Nat} (h : fd c k i = some o) : ∃ fs, ob c = some (k, fs) ∧ fs[i]? = some o := by
  unfold fd at h
  obtain ⟨⟨k', fs⟩, h1, h2⟩ := ob_ h
  by_cases hk : k' = k
  · subst hk
    exact ⟨fs, h1, ip_ h2 rfl⟩
  · exact absurd (in_ h2 hk) (fun q => by cases q)
theorem isC_some {Λ : La} {c k : Nat} (h : isC Λ c k = true) : c < Λ.1 ∧ ∃ fs, ob c = some (k, fs) := by
  unfold isC at h
  rw [Bool.and_eq_true, decide_eq_true_eq, beq_iff_eq] at h
  refine ⟨h.1, ?_⟩
  cases ho : ob c with
  | none => rw [ho] at h; cases h.2
  | some o =>
    rw [ho] at h
    obtain ⟨k', fs⟩ := o
    have h2 : some k' = some k := h.2
    cases h2
    exact ⟨fs, rfl⟩
theorem gi_some {Λ : La} {w : Wo} {c k i : Nat} {x : Int32} (h : gi Λ w c k i = some x) : c < Λ.1 ∧ (∃ fs, ob c = some (k, fs) ∧ fs[i]? = some none) ∧ x = w c i := by
  unfold gi at h
  by_cases hc : c < Λ.1 ∧ fd c k i = some none
  · have h1 := ip_ h hc
    cases h1
    exact ⟨hc.1, fd_some hc.2, rfl⟩
  · exact absurd (in_ h hc) (fun q => by cases q)
theorem gr_some {Λ : La} {c k i r : Nat} (h : gr Λ c k i = some r) : c < Λ.1 ∧ Λ.2 c i = false ∧ ∃ fs, ob c = some (k, fs) ∧ fs[i]? = some (some r) := by
  unfold gr at h
  by_cases hc : c < Λ.1 ∧ Λ.2 c i = false
  · have h1 := ip_ h hc
    cases hf : fd c k i with
    | none => rw [hf] at h1; cases h1
    | some o =>
      rw [hf] at h1
      have h2 : o = some r := h1
      subst h2
      exact ⟨hc.1, hc.2, fd_some hf⟩
  · exact absurd (in_ h hc) (fun q => by cases q)
theorem pf_some {Λ : La} {w w1 : Wo} {c k i : Nat} {x : Int32} (h : pf Λ w c k i x = some w1) : c < Λ.1 ∧ (∃ fs, ob c = some (k, fs) ∧ fs[i]? = some none) ∧ w1 = up2 w c i x := by
  unfold pf at h
  by_cases hc : c < Λ.1 ∧ fd c k i = some none
  · have h1 := ip_ h hc
    cases h1
    exact ⟨hc.1, fd_some hc.2, rfl⟩
  · exact absurd (in_ h hc) (fun q => by cases q)
theorem aok_some {Λ : La} {c : Nat} {i : Int32} (h : aok Λ c i = true) : c < Λ.1 ∧ ∃ n, ar c = some n ∧ vp_in i n := by
  unfold aok at h
  cases ha : ar c with
  | none => rw [ha] at h; cases h
  | some n =>
    rw [ha] at h
    have h : (decide (c < Λ.1) && !(decide (i < 0) || decide (n ≤ i.toNatClampNeg))) = true := h
    rw [Bool.and_eq_true, decide_eq_true_eq, Bool.not_eq_true', Bool.or_eq_false_iff, decide_eq_false_iff_not, decide_eq_false_iff_not] at h
    exact ⟨h.1, n, rfl, fun q => q.elim h.2.1 h.2.2⟩
theorem ld_some {Λ : La} {w : Wo} {c : Nat} {i x : Int32} (h : ld Λ w c i = some x) : aok Λ c i = true ∧ x = w c i.toNatClampNeg := by
  unfold ld at h
  by_cases hc : aok Λ c i = true
  · have h1 := ip_ h hc
    cases h1
    exact ⟨hc, rfl⟩
  · exact absurd (in_ h hc) (fun q => by cases q)
theorem st_some {Λ : La} {w w1 : Wo} {c : Nat} {i x : Int32} (h : st Λ w c i x = some w1) : aok Λ c i = true ∧ w1 = up2 w c i.toNatClampNeg x := by
  unfold st at h
  by_cases hc : aok Λ c i = true
  · have h1 := ip_ h hc
    cases h1
    exact ⟨hc, rfl⟩
  · exact absurd (in_ h hc) (fun q => by cases q)
theorem al_some {Λ : La} {c : Nat} {x : Int32} (h : al Λ c = some x) : c < Λ.1 ∧ ∃ n, ar c = some n ∧ Int32.ofNat n = x := by
  unfold al at h
  by_cases hc : c < Λ.1
  · have h1 := ip_ h hc
    cases ha : ar c with
    | none => rw [ha] at h1; cases h1
    | some n => rw [ha] at h1; exact ⟨hc, n, rfl, Option.some.inj h1⟩
  · exact absurd (in_ h hc) (fun q => by cases q)
theorem cp_some {Λ : La} {w w1 : Wo} {a b : Nat} {i j n : Int32} (h : cp Λ w a i b j n = some w1) : w1 = cpw w a i.toNatClampNeg b j.toNatClampNeg n.toNatClampNeg ∧ a < Λ.1 ∧ b < Λ.1 ∧ ¬ i < 0 ∧ ¬ j < 0 ∧ ¬ n < 0 ∧ ∃ na nb, ar a = some na ∧ ar b = some nb ∧ i.toNatClampNeg + n.toNatClampNeg ≤ na ∧ j.toNatClampNeg + n.toNatClampNeg ≤ nb := by
  unfold cp at h
  by_cases hc : cpk Λ a i b j n = true
  · have h1 := ip_ h hc
    cases h1
    unfold cpk at hc
    cases ha : ar a with
    | none => rw [ha] at hc; cases hc
    | some na =>
      cases hb : ar b with
      | none => rw [ha, hb] at hc; cases hc
      | some nb =>
        rw [ha, hb] at hc
        have hc : (decide (a < Λ.1) && decide (b < Λ.1) && !decide (i < 0) && !decide (j < 0) && !decide (n < 0) && decide (i.toNatClampNeg + n.toNatClampNeg ≤ na) && decide (j.toNatClampNeg + n.toNatClampNeg ≤ nb)) = true := hc
        simp only [Bool.and_eq_true, decide_eq_true_eq, Bool.not_eq_true', decide_eq_false_iff_not] at hc
        obtain ⟨⟨⟨⟨⟨⟨h1, h2⟩, h3⟩, h4⟩, h5⟩, h6⟩, h7⟩ := hc
        exact ⟨rfl, h1, h2, h3, h4, h5, na, nb, rfl, rfl, h6, h7⟩
  · exact absurd (in_ h hc) (fun q => by cases q)
/-! the cells as the kit has them -/
def fval (Λ : La) (ad : Nat → Nat) (f : Nat → Int32) (c i : Nat) (o : Option Nat) : Value := match o with
  | none => .int (f i)
  | some r => if Λ.2 c i = true then .null else .ref (ad r)
def fv (Λ : La) (ad : Nat → Nat) (w : Wo) (c : Nat) (fs : List (Option Nat)) : List Value := fs.mapIdx (fval Λ ad (w c) c)
def ce (kA kL : ClassId) (Λ : La) (ad : Nat → Nat) (w : Wo) (c : Nat) : va_E := match ob c with
  | some o => .inr (o.1, fv Λ ad w c o.2)
  | none => match ar c with
    | some n => .inl (kA, n, .inl (w c))
    | none => .inl (kL, 1, .inr (.inl fun i => (w c i).toInt64))
def wl (kA kL : ClassId) (Λ : La) (ad : Nat → Nat) (w : Wo) : va_W := (List.range Λ.1).map fun c => (ad c, ce kA kL Λ ad w c)
theorem wl_at {kA kL : ClassId} {Λ : La} {ad : Nat → Nat} {w : Wo} {c : Nat} (hc : c < Λ.1) : (wl kA kL Λ ad w)[c]? = some (ad c, ce kA kL Λ ad w c) := by
  unfold wl
  rw [List.getElem?_map, List.getElem?_range hc]
  rfl
theorem wl_no {kA kL : ClassId} {Λ : La} {ad : Nat → Nat} {w : Wo} {c : Nat} (hc : ¬ c < Λ.1) : (wl kA kL Λ ad w)[c]? = none := by
  unfold wl
  apply List.getElem?_eq_none
  rw [List.length_map, List.length_range]
  omega
theorem wl_mem {kA kL : ClassId} {Λ : La} {ad : Nat → Nat} {w : Wo} {c : Nat} {q : Nat × va_E} (h : (wl kA kL Λ ad w)[c]? = some q) : c < Λ.1 ∧ q = (ad c, ce kA kL Λ ad w c) := by
  by_cases hc : c < Λ.1
  · rw [wl_at hc] at h
    exact ⟨hc, (Option.some.inj h).symm⟩
  · rw [wl_no hc] at h
    cases h
theorem fv_congr {Λ : La} {ad : Nat → Nat} {w w' : Wo} {c : Nat} (fs : List (Option Nat)) (h : w' c = w c) : fv Λ ad w' c fs = fv Λ ad w c fs := by
  unfold fv
  rw [h]
theorem ce_congr {kA kL : ClassId} {Λ : La} {ad : Nat → Nat} {w w' : Wo} {c : Nat} (h : w' c = w c) : ce kA kL Λ ad w' c = ce kA kL Λ ad w c := by
  unfold ce fv
  rw [h]
theorem wl_set {kA kL : ClassId} {Λ : La} {ad : Nat → Nat} {w w' : Wo} {c : Nat} {E : va_E} (hc : c < Λ.1) (hE : ce kA kL Λ ad w' c = E) (ho : ∀ d, d ≠ c → w' d = w d) : (wl kA kL Λ ad w).set c (ad c, E) = wl kA kL Λ ad w' := by
  apply List.ext_getElem?
  intro i
  by_cases h : c = i
  · subst h
    rw [wl_at hc, hE, List.getElem?_set_self (by unfold wl; rw [List.length_map, List.length_range]; exact hc)]
  · rw [List.getElem?_set_ne h]
    by_cases hi : i < Λ.1
    · rw [wl_at hi, wl_at hi, ce_congr (ho i (fun q => h q.symm))]
    · rw [wl_no hi, wl_no hi]
theorem fv_at {Λ : La} {ad : Nat → Nat} {w : Wo} {c i : Nat} {fs : List (Option Nat)} {o : Option Nat} (h : fs[i]? = some o) : (fv Λ ad w c fs)[i]? = some (fval Λ ad (w c) c i o) := by
  unfold fv
  rw [List.getElem?_mapIdx, h]
  rfl
theorem fv_set {Λ : La} {ad : Nat → Nat} {w : Wo} {c i : Nat} {fs : List (Option Nat)} {x : Int32} (h : fs[i]? = some none) : fv Λ ad (up2 w c i x) c fs = (fv Λ ad w c fs).set i (.int x) := by
  have hlen : ∀ w : Wo, (fv Λ ad w c fs).length = fs.length := fun w => by unfold fv; rw [List.length_mapIdx]
  have hi : i < fs.length := (List.getElem?_eq_some_iff.mp h).1
  apply List.ext_getElem?
  intro j
  by_cases hj : i = j
  · subst hj
    rw [List.getElem?_set_self (by rw [hlen]; exact hi), fv_at h]
    show some (Value.int (up2 w c i x c i)) = _
    unfold up2
    rw [if_pos rfl, if_pos rfl]
  · rw [List.getElem?_set_ne hj]
    cases hf : fs[j]? with
    | none =>
      have : fs.length ≤ j := List.getElem?_eq_none_iff.mp hf
      rw [List.getElem?_eq_none (by rw [hlen]; exact this), List.getElem?_eq_none (by rw [hlen]; exact this)]
    | some o =>
      rw [fv_at hf, fv_at hf]
      cases o with
      | none =>
        show some (Value.int (up2 w c i x c j)) = some (Value.int (w c j))
        unfold up2
        rw [if_pos rfl, if_neg (fun q => hj q.symm)]
      | some r => rfl
theorem up2_ne {w : Wo} {c i : Nat} {x : Int32} : ∀ d, d ≠ c → up2 w c i x d = w d := fun d h => by
  funext j
  unfold up2
  rw [if_neg h]
theorem up2_eq {w : Wo} {c i : Nat} {x : Int32} : up2 w c i x c = upd (w c) i x := by
  funext j
  unfold up2 upd
  rw [if_pos rfl]
theorem cpw_ne {w : Wo} {a i b j n : Nat} : ∀ d, d ≠ b → cpw w a i b j n d = w d := fun d h => by
  unfold cpw
  rw [if_neg h]
theorem cpw_eq {w : Wo} {a i b j n : Nat} : cpw w a i b j n b = va_cpy (w a) (w b) i j n := by
  unfold cpw
  rw [if_pos rfl]
theorem ce_ob {kA kL : ClassId} {Λ : La} {ad : Nat → Nat} {w : Wo} {c k : Nat} {fs : List (Option Nat)} (h : ob c = some (k, fs)) : ce kA kL Λ ad w c = .inr (k, fv Λ ad w c fs) := by
  unfold ce
  rw [h]
theorem ce_ar {kA kL : ClassId} {Λ : La} {ad : Nat → Nat} {w : Wo} {c n : Nat} (h : ar c = some n) : ce kA kL Λ ad w c = .inl (kA, n, .inl (w c)) := by
  unfold ce
  rw [ar_ob h, h]
/-! the addresses, the nest's links, the state, the invariant of a walk -/
def Aa (Λ : La) (ad : Nat → Nat) : Nat → Prop := fun q => ∃ c, c < Λ.1 ∧ q = ad c
def Inj (Λ : La) (ad : Nat → Nat) : Prop := ∀ i j, i < Λ.1 → j < Λ.1 → ad i = ad j → i = j
theorem wl_D {A : Nat → Prop} {kA kL : ClassId} {Λ : La} {ad : Nat → Nat} {w : Wo} (h : Inj Λ ad) (hA : ∀ c, c < Λ.1 → A (ad c)) : va_D A (wl kA kL Λ ad w) := by
  refine ⟨fun i j p q hp hq hpq => ?_, fun k q hq => ?_⟩
  · obtain ⟨h1, rfl⟩ := wl_mem hp
    obtain ⟨h2, rfl⟩ := wl_mem hq
    exact h i j h1 h2 hpq
  · obtain ⟨h1, rfl⟩ := wl_mem hq
    exact hA k h1
theorem isNe_warm {w : Cond} {s U : State} (h : isNe w = true) (hW : s.WarmedH U.vm) (h0 : va_Nw w s) : va_Nw w U := by
  cases w <;> first | exact va_Nw.warmF hW h0 | exact va_Nw.warmM hW h0 | exact Bool.noConfusion h
theorem isNe_tab {w : Cond} (h : isNe w = true) : w.onTables = true := by
  cases w <;> first | rfl | exact Bool.noConfusion h
def Nst (U : State) : Prop := ∀ w ∈ nW, va_Nw w U
theorem Nst.warm {s U : State} (hW : s.WarmedH U.vm) (h : Nst s) : Nst U := fun w hw => isNe_warm (List.mem_filter.mp hw).2 hW (h w hw)
theorem Nst.same {s U : State} (hv : s.vm = U.vm) (h : Nst s) : Nst U := fun w hw => va_Nw.same (isNe_tab (List.mem_filter.mp hw).2) hv (h w hw)
abbrev tyA (kA kL : ClassId) : List (ClassId × FieldType) := [(kA, .int), (kL, .long)]
def St (G : va_G) (kA kL : ClassId) (Λ : La) (ad : Nat → Nat) (w : Wo) (U : State) : Prop := va_P G vCl (wl kA kL Λ ad w) U.heap ∧ Inj Λ ad ∧ va_K G vCl (tyA kA kL) U ∧ Nst U
def Iv (A : Nat → Prop) (G : va_G) (kA kL : ClassId) (Λ : La) (ad : Nat → Nat) (w : Wo) (s : State) (H : Heap) (locs : List Loc) : Prop := va_P G vCl (wl kA kL Λ ad w) H ∧ Inj Λ ad ∧ va_K G vCl (tyA kA kL) s ∧ Nst s ∧ va_S A s.heap H locs ∧ ∀ c, c < Λ.1 → A (ad c)
theorem St.blind {G : va_G} {kA kL : ClassId} {Λ : La} {ad : Nat → Nat} {w : Wo} {av : List Value} : FrameBlind (va_Pc av (St G kA kL Λ ad w)) := fun a U g mk q => ⟨q.1, q.2.1, q.2.2.1, va_K.moved (u := U) (U := U.calling g mk a) (Vm.Alike.refl U.vm) q.2.2.2.1, Nst.same (s := U) (U := U.calling g mk a) rfl q.2.2.2.2⟩
theorem Iv.toSt {A : Nat → Prop} {G : va_G} {kA kL : ClassId} {Λ : La} {ad : Nat → Nat} {w : Wo} {s U : State} {H : Heap} {locs : List Loc} (h : Iv A G kA kL Λ ad w s H locs) (hU : U.heap = H) (hW : s.WarmedH U.vm) : St G kA kL Λ ad w U := ⟨by rw [hU]; exact h.1, h.2.1, va_K.moved hW.alike h.2.2.1, Nst.warm hW h.2.2.2.1⟩
/-- a class by its number: its row in the table, and what the tables say of its fields -/
def FC (k : Nat) (C : String) (T : u_T) (N : Nat) (ty0 : Nat → FieldType) : Prop := vCl[k]? = some (C, T, N) ∧ (∀ w ∈ u_ws C T N, w ∈ gW) ∧ (∀ k, k < N → parseFieldDescriptor (T k).2.2.1 = some (ty0 k)) ∧ (∀ a, a < N → ∀ b, b < N → a ≠ b → (T a).2.1 ≠ (T b).2.1)
end

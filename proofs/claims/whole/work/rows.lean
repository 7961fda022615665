section
-- ===== PART A: goes FIRST, ahead of the names: the tables' words, and 'selects' of the private methods out of them =====
/-- a private method of a class that the tables say can be made, by its rows of tables_1 -/
def lw_okq (q : MethodName × Nat) : Prop := (q.1.cls ≠ "java/lang/invoke/MethodHandle" ∧ q.1.cls ≠ "java/lang/invoke/VarHandle") ∧ Cond.instantiable q.1.cls q.2 ∈ tables_1 ∧ Cond.privateMethod q.1 ∈ tables_1 ∧ Cond.instanceMethod q.1 ∈ tables_1
theorem lw_p0 : lw_okq (⟨"java/lang/Throwable", "fillInStackTrace", "(I)Ljava/lang/Throwable;"⟩, 6) := ⟨⟨by decide +kernel, by decide +kernel⟩, List.mem_of_getElem? (i := 208) (by decide +kernel), List.mem_of_getElem? (i := 206) (by decide +kernel), List.mem_of_getElem? (i := 207) (by decide +kernel)⟩
theorem lw_p1 : lw_okq (⟨"GuardVolume", "goodCopy", "(I)I"⟩, 11) := ⟨⟨by decide +kernel, by decide +kernel⟩, List.mem_of_getElem? (i := 18) (by decide +kernel), List.mem_of_getElem? (i := 248) (by decide +kernel), List.mem_of_getElem? (i := 249) (by decide +kernel)⟩
theorem lw_p2 : lw_okq (⟨"GuardVolume", "judge", "(II)I"⟩, 11) := ⟨⟨by decide +kernel, by decide +kernel⟩, List.mem_of_getElem? (i := 18) (by decide +kernel), List.mem_of_getElem? (i := 252) (by decide +kernel), List.mem_of_getElem? (i := 253) (by decide +kernel)⟩
theorem lw_p3 : lw_okq (⟨"GuardVolume", "driveOf", "(I)LGuardVolume$Drive;"⟩, 11) := ⟨⟨by decide +kernel, by decide +kernel⟩, List.mem_of_getElem? (i := 18) (by decide +kernel), List.mem_of_getElem? (i := 256) (by decide +kernel), List.mem_of_getElem? (i := 257) (by decide +kernel)⟩
theorem lw_p4 : lw_okq (⟨"GuardVolume$Drive", "at", "(II)I"⟩, 6) := ⟨⟨by decide +kernel, by decide +kernel⟩, List.mem_of_getElem? (i := 26) (by decide +kernel), List.mem_of_getElem? (i := 260) (by decide +kernel), List.mem_of_getElem? (i := 261) (by decide +kernel)⟩
theorem lw_p5 : lw_okq (⟨"GuardVolume", "expectedVersion", "(II)I"⟩, 11) := ⟨⟨by decide +kernel, by decide +kernel⟩, List.mem_of_getElem? (i := 18) (by decide +kernel), List.mem_of_getElem? (i := 265) (by decide +kernel), List.mem_of_getElem? (i := 266) (by decide +kernel)⟩
theorem lw_p6 : lw_okq (⟨"GuardVolume", "listDrive", "(II)I"⟩, 11) := ⟨⟨by decide +kernel, by decide +kernel⟩, List.mem_of_getElem? (i := 18) (by decide +kernel), List.mem_of_getElem? (i := 269) (by decide +kernel), List.mem_of_getElem? (i := 270) (by decide +kernel)⟩
theorem lw_p7 : lw_okq (⟨"GuardVolume", "isPageRight", "(II)Z"⟩, 11) := ⟨⟨by decide +kernel, by decide +kernel⟩, List.mem_of_getElem? (i := 18) (by decide +kernel), List.mem_of_getElem? (i := 273) (by decide +kernel), List.mem_of_getElem? (i := 274) (by decide +kernel)⟩
theorem lw_p8 : lw_okq (⟨"GuardVolume$Drive", "giveWords", "(I[I)V"⟩, 6) := ⟨⟨by decide +kernel, by decide +kernel⟩, List.mem_of_getElem? (i := 26) (by decide +kernel), List.mem_of_getElem? (i := 295) (by decide +kernel), List.mem_of_getElem? (i := 296) (by decide +kernel)⟩
theorem lw_p9 : lw_okq (⟨"GuardVolume", "putNotedBlock", "()Z"⟩, 11) := ⟨⟨by decide +kernel, by decide +kernel⟩, List.mem_of_getElem? (i := 18) (by decide +kernel), List.mem_of_getElem? (i := 299) (by decide +kernel), List.mem_of_getElem? (i := 300) (by decide +kernel)⟩
theorem lw_p10 : lw_okq (⟨"GuardVolume", "putCopy", "(II[II)Z"⟩, 11) := ⟨⟨by decide +kernel, by decide +kernel⟩, List.mem_of_getElem? (i := 18) (by decide +kernel), List.mem_of_getElem? (i := 303) (by decide +kernel), List.mem_of_getElem? (i := 304) (by decide +kernel)⟩
theorem lw_p11 : lw_okq (⟨"GuardVolume", "store", "(II[II)Z"⟩, 11) := ⟨⟨by decide +kernel, by decide +kernel⟩, List.mem_of_getElem? (i := 18) (by decide +kernel), List.mem_of_getElem? (i := 307) (by decide +kernel), List.mem_of_getElem? (i := 308) (by decide +kernel)⟩
theorem lw_p12 : lw_okq (⟨"GuardVolume$Power", "allowsWrite", "()Z"⟩, 2) := ⟨⟨by decide +kernel, by decide +kernel⟩, List.mem_of_getElem? (i := 61) (by decide +kernel), List.mem_of_getElem? (i := 311) (by decide +kernel), List.mem_of_getElem? (i := 312) (by decide +kernel)⟩
theorem lw_p13 : lw_okq (⟨"GuardVolume$Drive", "take", "(I[I)V"⟩, 6) := ⟨⟨by decide +kernel, by decide +kernel⟩, List.mem_of_getElem? (i := 26) (by decide +kernel), List.mem_of_getElem? (i := 316) (by decide +kernel), List.mem_of_getElem? (i := 317) (by decide +kernel)⟩
theorem lw_p14 : lw_okq (⟨"GuardVolume$Drive", "planOfNext", "(I)I"⟩, 6) := ⟨⟨by decide +kernel, by decide +kernel⟩, List.mem_of_getElem? (i := 26) (by decide +kernel), List.mem_of_getElem? (i := 320) (by decide +kernel), List.mem_of_getElem? (i := 321) (by decide +kernel)⟩
theorem lw_p15 : lw_okq (⟨"GuardVolume$Drive", "keep", "(I[II)V"⟩, 6) := ⟨⟨by decide +kernel, by decide +kernel⟩, List.mem_of_getElem? (i := 26) (by decide +kernel), List.mem_of_getElem? (i := 324) (by decide +kernel), List.mem_of_getElem? (i := 325) (by decide +kernel)⟩
def lw_privs_1 : List (MethodName × Nat) := [(⟨"java/lang/Throwable", "fillInStackTrace", "(I)Ljava/lang/Throwable;"⟩, 6), (⟨"GuardVolume", "goodCopy", "(I)I"⟩, 11), (⟨"GuardVolume", "judge", "(II)I"⟩, 11), (⟨"GuardVolume", "driveOf", "(I)LGuardVolume$Drive;"⟩, 11), (⟨"GuardVolume$Drive", "at", "(II)I"⟩, 6), (⟨"GuardVolume", "expectedVersion", "(II)I"⟩, 11), (⟨"GuardVolume", "listDrive", "(II)I"⟩, 11), (⟨"GuardVolume", "isPageRight", "(II)Z"⟩, 11), (⟨"GuardVolume$Drive", "giveWords", "(I[I)V"⟩, 6), (⟨"GuardVolume", "putNotedBlock", "()Z"⟩, 11), (⟨"GuardVolume", "putCopy", "(II[II)Z"⟩, 11), (⟨"GuardVolume", "store", "(II[II)Z"⟩, 11), (⟨"GuardVolume$Power", "allowsWrite", "()Z"⟩, 2), (⟨"GuardVolume$Drive", "take", "(I[I)V"⟩, 6), (⟨"GuardVolume$Drive", "planOfNext", "(I)I"⟩, 6), (⟨"GuardVolume$Drive", "keep", "(I[II)V"⟩, 6)]
theorem lw_r1 : ∀ q ∈ lw_privs_1, lw_okq q := List.forall_mem_cons.mpr ⟨lw_p0, List.forall_mem_cons.mpr ⟨lw_p1, List.forall_mem_cons.mpr ⟨lw_p2, List.forall_mem_cons.mpr ⟨lw_p3, List.forall_mem_cons.mpr ⟨lw_p4, List.forall_mem_cons.mpr ⟨lw_p5, List.forall_mem_cons.mpr ⟨lw_p6, List.forall_mem_cons.mpr ⟨lw_p7, List.forall_mem_cons.mpr ⟨lw_p8, List.forall_mem_cons.mpr ⟨lw_p9, List.forall_mem_cons.mpr ⟨lw_p10, List.forall_mem_cons.mpr ⟨lw_p11, List.forall_mem_cons.mpr ⟨lw_p12, List.forall_mem_cons.mpr ⟨lw_p13, List.forall_mem_cons.mpr ⟨lw_p14, List.forall_mem_cons.mpr ⟨lw_p15, fun _ h => absurd h List.not_mem_nil⟩⟩⟩⟩⟩⟩⟩⟩⟩⟩⟩⟩⟩⟩⟩⟩
theorem lw_p16 : lw_okq (⟨"GuardVolume$Drive", "removePlan", "(I)V"⟩, 6) := ⟨⟨by decide +kernel, by decide +kernel⟩, List.mem_of_getElem? (i := 26) (by decide +kernel), List.mem_of_getElem? (i := 328) (by decide +kernel), List.mem_of_getElem? (i := 329) (by decide +kernel)⟩
theorem lw_p17 : lw_okq (⟨"GuardVolume", "storeList", "(III)Z"⟩, 11) := ⟨⟨by decide +kernel, by decide +kernel⟩, List.mem_of_getElem? (i := 18) (by decide +kernel), List.mem_of_getElem? (i := 332) (by decide +kernel), List.mem_of_getElem? (i := 333) (by decide +kernel)⟩
theorem lw_p18 : lw_okq (⟨"GuardVolume$Drive", "addPlan", "(III)V"⟩, 6) := ⟨⟨by decide +kernel, by decide +kernel⟩, List.mem_of_getElem? (i := 26) (by decide +kernel), List.mem_of_getElem? (i := 373) (by decide +kernel), List.mem_of_getElem? (i := 374) (by decide +kernel)⟩
theorem lw_p19 : lw_okq (⟨"GuardVolume", "scrubBlock", "(I)Z"⟩, 11) := ⟨⟨by decide +kernel, by decide +kernel⟩, List.mem_of_getElem? (i := 18) (by decide +kernel), List.mem_of_getElem? (i := 398) (by decide +kernel), List.mem_of_getElem? (i := 399) (by decide +kernel)⟩
theorem lw_p20 : lw_okq (⟨"GuardVolume", "mendList", "(II)Z"⟩, 11) := ⟨⟨by decide +kernel, by decide +kernel⟩, List.mem_of_getElem? (i := 18) (by decide +kernel), List.mem_of_getElem? (i := 402) (by decide +kernel), List.mem_of_getElem? (i := 403) (by decide +kernel)⟩
theorem lw_p21 : lw_okq (⟨"GuardVolume$Findings", "tell", "(IIII)V"⟩, 3) := ⟨⟨by decide +kernel, by decide +kernel⟩, List.mem_of_getElem? (i := 95) (by decide +kernel), List.mem_of_getElem? (i := 406) (by decide +kernel), List.mem_of_getElem? (i := 407) (by decide +kernel)⟩
theorem lw_p22 : lw_okq (⟨"GuardVolume", "mendCopies", "(I)Z"⟩, 11) := ⟨⟨by decide +kernel, by decide +kernel⟩, List.mem_of_getElem? (i := 18) (by decide +kernel), List.mem_of_getElem? (i := 410) (by decide +kernel), List.mem_of_getElem? (i := 411) (by decide +kernel)⟩
theorem lw_p23 : lw_okq (⟨"GuardVolume$Drive", "wipe", "()V"⟩, 6) := ⟨⟨by decide +kernel, by decide +kernel⟩, List.mem_of_getElem? (i := 26) (by decide +kernel), List.mem_of_getElem? (i := 456) (by decide +kernel), List.mem_of_getElem? (i := 457) (by decide +kernel)⟩
theorem lw_p24 : lw_okq (⟨"GuardVolume", "rebuildBlock", "(III)Z"⟩, 11) := ⟨⟨by decide +kernel, by decide +kernel⟩, List.mem_of_getElem? (i := 18) (by decide +kernel), List.mem_of_getElem? (i := 468) (by decide +kernel), List.mem_of_getElem? (i := 469) (by decide +kernel)⟩
theorem lw_p25 : lw_okq (⟨"GuardVolume", "greatestPageVersion", "()I"⟩, 11) := ⟨⟨by decide +kernel, by decide +kernel⟩, List.mem_of_getElem? (i := 18) (by decide +kernel), List.mem_of_getElem? (i := 479) (by decide +kernel), List.mem_of_getElem? (i := 480) (by decide +kernel)⟩
theorem lw_p26 : lw_okq (⟨"GuardVolumeModel", "sumAt", "(I)I"⟩, 20) := ⟨⟨by decide +kernel, by decide +kernel⟩, List.mem_of_getElem? (i := 486) (by decide +kernel), List.mem_of_getElem? (i := 495) (by decide +kernel), List.mem_of_getElem? (i := 496) (by decide +kernel)⟩
theorem lw_p27 : lw_okq (⟨"GuardVolumeModel", "codeOf", "(I)I"⟩, 20) := ⟨⟨by decide +kernel, by decide +kernel⟩, List.mem_of_getElem? (i := 486) (by decide +kernel), List.mem_of_getElem? (i := 574) (by decide +kernel), List.mem_of_getElem? (i := 575) (by decide +kernel)⟩
theorem lw_p28 : lw_okq (⟨"GuardVolumeModel", "verdictOf", "(II)I"⟩, 20) := ⟨⟨by decide +kernel, by decide +kernel⟩, List.mem_of_getElem? (i := 486) (by decide +kernel), List.mem_of_getElem? (i := 578) (by decide +kernel), List.mem_of_getElem? (i := 579) (by decide +kernel)⟩
theorem lw_p29 : lw_okq (⟨"GuardVolumeModel", "isWhole", "(II)Z"⟩, 20) := ⟨⟨by decide +kernel, by decide +kernel⟩, List.mem_of_getElem? (i := 486) (by decide +kernel), List.mem_of_getElem? (i := 582) (by decide +kernel), List.mem_of_getElem? (i := 583) (by decide +kernel)⟩
theorem lw_p30 : lw_okq (⟨"GuardVolumeModel", "isUnknown", "(II)Z"⟩, 20) := ⟨⟨by decide +kernel, by decide +kernel⟩, List.mem_of_getElem? (i := 486) (by decide +kernel), List.mem_of_getElem? (i := 586) (by decide +kernel), List.mem_of_getElem? (i := 587) (by decide +kernel)⟩
theorem lw_p31 : lw_okq (⟨"GuardVolumeModel", "isRightPage", "(II)Z"⟩, 20) := ⟨⟨by decide +kernel, by decide +kernel⟩, List.mem_of_getElem? (i := 486) (by decide +kernel), List.mem_of_getElem? (i := 590) (by decide +kernel), List.mem_of_getElem? (i := 591) (by decide +kernel)⟩
def lw_privs_2 : List (MethodName × Nat) := [(⟨"GuardVolume$Drive", "removePlan", "(I)V"⟩, 6), (⟨"GuardVolume", "storeList", "(III)Z"⟩, 11), (⟨"GuardVolume$Drive", "addPlan", "(III)V"⟩, 6), (⟨"GuardVolume", "scrubBlock", "(I)Z"⟩, 11), (⟨"GuardVolume", "mendList", "(II)Z"⟩, 11), (⟨"GuardVolume$Findings", "tell", "(IIII)V"⟩, 3), (⟨"GuardVolume", "mendCopies", "(I)Z"⟩, 11), (⟨"GuardVolume$Drive", "wipe", "()V"⟩, 6), (⟨"GuardVolume", "rebuildBlock", "(III)Z"⟩, 11), (⟨"GuardVolume", "greatestPageVersion", "()I"⟩, 11), (⟨"GuardVolumeModel", "sumAt", "(I)I"⟩, 20), (⟨"GuardVolumeModel", "codeOf", "(I)I"⟩, 20), (⟨"GuardVolumeModel", "verdictOf", "(II)I"⟩, 20), (⟨"GuardVolumeModel", "isWhole", "(II)Z"⟩, 20), (⟨"GuardVolumeModel", "isUnknown", "(II)Z"⟩, 20), (⟨"GuardVolumeModel", "isRightPage", "(II)Z"⟩, 20)]
theorem lw_r2 : ∀ q ∈ lw_privs_2, lw_okq q := List.forall_mem_cons.mpr ⟨lw_p16, List.forall_mem_cons.mpr ⟨lw_p17, List.forall_mem_cons.mpr ⟨lw_p18, List.forall_mem_cons.mpr ⟨lw_p19, List.forall_mem_cons.mpr ⟨lw_p20, List.forall_mem_cons.mpr ⟨lw_p21, List.forall_mem_cons.mpr ⟨lw_p22, List.forall_mem_cons.mpr ⟨lw_p23, List.forall_mem_cons.mpr ⟨lw_p24, List.forall_mem_cons.mpr ⟨lw_p25, List.forall_mem_cons.mpr ⟨lw_p26, List.forall_mem_cons.mpr ⟨lw_p27, List.forall_mem_cons.mpr ⟨lw_p28, List.forall_mem_cons.mpr ⟨lw_p29, List.forall_mem_cons.mpr ⟨lw_p30, List.forall_mem_cons.mpr ⟨lw_p31, fun _ h => absurd h List.not_mem_nil⟩⟩⟩⟩⟩⟩⟩⟩⟩⟩⟩⟩⟩⟩⟩⟩
theorem lw_p32 : lw_okq (⟨"GuardVolumeModel", "expectedOf", "(II)I"⟩, 20) := ⟨⟨by decide +kernel, by decide +kernel⟩, List.mem_of_getElem? (i := 486) (by decide +kernel), List.mem_of_getElem? (i := 594) (by decide +kernel), List.mem_of_getElem? (i := 595) (by decide +kernel)⟩
theorem lw_p33 : lw_okq (⟨"GuardVolumeModel", "listed", "(II)I"⟩, 20) := ⟨⟨by decide +kernel, by decide +kernel⟩, List.mem_of_getElem? (i := 486) (by decide +kernel), List.mem_of_getElem? (i := 598) (by decide +kernel), List.mem_of_getElem? (i := 599) (by decide +kernel)⟩
theorem lw_p34 : lw_okq (⟨"GuardVolumeModel", "takeWords", "(II)V"⟩, 20) := ⟨⟨by decide +kernel, by decide +kernel⟩, List.mem_of_getElem? (i := 486) (by decide +kernel), List.mem_of_getElem? (i := 602) (by decide +kernel), List.mem_of_getElem? (i := 603) (by decide +kernel)⟩
theorem lw_p35 : lw_okq (⟨"GuardVolumeModel", "put", "(II)Z"⟩, 20) := ⟨⟨by decide +kernel, by decide +kernel⟩, List.mem_of_getElem? (i := 486) (by decide +kernel), List.mem_of_getElem? (i := 606) (by decide +kernel), List.mem_of_getElem? (i := 607) (by decide +kernel)⟩
theorem lw_p36 : lw_okq (⟨"GuardVolumeModel", "putCopy", "(III)Z"⟩, 20) := ⟨⟨by decide +kernel, by decide +kernel⟩, List.mem_of_getElem? (i := 486) (by decide +kernel), List.mem_of_getElem? (i := 610) (by decide +kernel), List.mem_of_getElem? (i := 611) (by decide +kernel)⟩
theorem lw_p37 : lw_okq (⟨"GuardVolumeModel", "storeRow", "(III)Z"⟩, 20) := ⟨⟨by decide +kernel, by decide +kernel⟩, List.mem_of_getElem? (i := 486) (by decide +kernel), List.mem_of_getElem? (i := 614) (by decide +kernel), List.mem_of_getElem? (i := 615) (by decide +kernel)⟩
theorem lw_p38 : lw_okq (⟨"GuardVolumeModel", "store", "(III)Z"⟩, 20) := ⟨⟨by decide +kernel, by decide +kernel⟩, List.mem_of_getElem? (i := 486) (by decide +kernel), List.mem_of_getElem? (i := 618) (by decide +kernel), List.mem_of_getElem? (i := 619) (by decide +kernel)⟩
theorem lw_p39 : lw_okq (⟨"GuardVolumeModel", "planOf", "(I)I"⟩, 20) := ⟨⟨by decide +kernel, by decide +kernel⟩, List.mem_of_getElem? (i := 486) (by decide +kernel), List.mem_of_getElem? (i := 622) (by decide +kernel), List.mem_of_getElem? (i := 623) (by decide +kernel)⟩
theorem lw_p40 : lw_okq (⟨"GuardVolumeModel", "lay", "(III)V"⟩, 20) := ⟨⟨by decide +kernel, by decide +kernel⟩, List.mem_of_getElem? (i := 486) (by decide +kernel), List.mem_of_getElem? (i := 626) (by decide +kernel), List.mem_of_getElem? (i := 627) (by decide +kernel)⟩
theorem lw_p41 : lw_okq (⟨"GuardVolumeModel", "dropPlan", "(II)V"⟩, 20) := ⟨⟨by decide +kernel, by decide +kernel⟩, List.mem_of_getElem? (i := 486) (by decide +kernel), List.mem_of_getElem? (i := 630) (by decide +kernel), List.mem_of_getElem? (i := 631) (by decide +kernel)⟩
theorem lw_p42 : lw_okq (⟨"GuardVolumeModel", "storeList", "(III)Z"⟩, 20) := ⟨⟨by decide +kernel, by decide +kernel⟩, List.mem_of_getElem? (i := 486) (by decide +kernel), List.mem_of_getElem? (i := 634) (by decide +kernel), List.mem_of_getElem? (i := 635) (by decide +kernel)⟩
theorem lw_p43 : lw_okq (⟨"GuardVolumeModel", "scrubOf", "(I)Z"⟩, 20) := ⟨⟨by decide +kernel, by decide +kernel⟩, List.mem_of_getElem? (i := 486) (by decide +kernel), List.mem_of_getElem? (i := 662) (by decide +kernel), List.mem_of_getElem? (i := 663) (by decide +kernel)⟩
theorem lw_p44 : lw_okq (⟨"GuardVolumeModel", "find", "(IIII)V"⟩, 20) := ⟨⟨by decide +kernel, by decide +kernel⟩, List.mem_of_getElem? (i := 486) (by decide +kernel), List.mem_of_getElem? (i := 666) (by decide +kernel), List.mem_of_getElem? (i := 667) (by decide +kernel)⟩
def lw_privs_3 : List (MethodName × Nat) := [(⟨"GuardVolumeModel", "expectedOf", "(II)I"⟩, 20), (⟨"GuardVolumeModel", "listed", "(II)I"⟩, 20), (⟨"GuardVolumeModel", "takeWords", "(II)V"⟩, 20), (⟨"GuardVolumeModel", "put", "(II)Z"⟩, 20), (⟨"GuardVolumeModel", "putCopy", "(III)Z"⟩, 20), (⟨"GuardVolumeModel", "storeRow", "(III)Z"⟩, 20), (⟨"GuardVolumeModel", "store", "(III)Z"⟩, 20), (⟨"GuardVolumeModel", "planOf", "(I)I"⟩, 20), (⟨"GuardVolumeModel", "lay", "(III)V"⟩, 20), (⟨"GuardVolumeModel", "dropPlan", "(II)V"⟩, 20), (⟨"GuardVolumeModel", "storeList", "(III)Z"⟩, 20), (⟨"GuardVolumeModel", "scrubOf", "(I)Z"⟩, 20), (⟨"GuardVolumeModel", "find", "(IIII)V"⟩, 20)]
theorem lw_r3 : ∀ q ∈ lw_privs_3, lw_okq q := List.forall_mem_cons.mpr ⟨lw_p32, List.forall_mem_cons.mpr ⟨lw_p33, List.forall_mem_cons.mpr ⟨lw_p34, List.forall_mem_cons.mpr ⟨lw_p35, List.forall_mem_cons.mpr ⟨lw_p36, List.forall_mem_cons.mpr ⟨lw_p37, List.forall_mem_cons.mpr ⟨lw_p38, List.forall_mem_cons.mpr ⟨lw_p39, List.forall_mem_cons.mpr ⟨lw_p40, List.forall_mem_cons.mpr ⟨lw_p41, List.forall_mem_cons.mpr ⟨lw_p42, List.forall_mem_cons.mpr ⟨lw_p43, List.forall_mem_cons.mpr ⟨lw_p44, fun _ h => absurd h List.not_mem_nil⟩⟩⟩⟩⟩⟩⟩⟩⟩⟩⟩⟩⟩
def lw_privs : List (MethodName × Nat) := lw_privs_1 ++ (lw_privs_2 ++ (lw_privs_3))
def lw_tbl : List Cond := k2_sels lw_privs ++ tables_1
theorem lw_privs_ok : ∀ q ∈ lw_privs, lw_okq q := by
  show ∀ q ∈ lw_privs_1 ++ (lw_privs_2 ++ (lw_privs_3)), lw_okq q
  exact List.forall_mem_append.mpr ⟨lw_r1, List.forall_mem_append.mpr ⟨lw_r2, lw_r3⟩⟩
end
section
/-! names of the claim: classes, fields, methods (written by names.py) -/
abbrev RD : String := "GuardVolume$Drive"
def TD : u_T := fun k => match k with
  | 0 => ("GuardVolume$Drive", "numbers", "[I", true)
  | 1 => ("GuardVolume$Drive", "planWrite", "[I", true)
  | 2 => ("GuardVolume$Drive", "planKind", "[I", true)
  | 3 => ("GuardVolume$Drive", "planX", "[I", true)
  | 4 => ("GuardVolume$Drive", "plans", "I", false)
  | _ => ("GuardVolume$Drive", "writes", "I", false)
def tD : Nat → FieldType := fun k => match k with
  | 0 => .array .int
  | 1 => .array .int
  | 2 => .array .int
  | 3 => .array .int
  | 4 => .int
  | _ => .int
theorem nD : ∀ a, a < 6 → ∀ b, b < 6 → a ≠ b → (TD a).2.1 ≠ (TD b).2.1 := by decide +kernel
theorem tD_ok : ∀ k, k < 6 → parseFieldDescriptor (TD k).2.2.1 = some (tD k) := by decide +kernel
abbrev RF : String := "GuardVolume$Findings"
def TF : u_T := fun k => match k with
  | 0 => ("GuardVolume$Findings", "numbers", "[I", true)
  | 1 => ("GuardVolume$Findings", "kept", "I", false)
  | _ => ("GuardVolume$Findings", "told", "I", false)
def tF : Nat → FieldType := fun k => match k with
  | 0 => .array .int
  | 1 => .int
  | _ => .int
theorem nF : ∀ a, a < 3 → ∀ b, b < 3 → a ≠ b → (TF a).2.1 ≠ (TF b).2.1 := by decide +kernel
theorem tF_ok : ∀ k, k < 3 → parseFieldDescriptor (TF k).2.2.1 = some (tF k) := by decide +kernel
abbrev RJ : String := "GuardVolume$Journal"
def TJ : u_T := fun k => match k with
  | 0 => ("GuardVolume$Journal", "words", "[I", true)
  | 1 => ("GuardVolume$Journal", "block", "I", false)
  | _ => ("GuardVolume$Journal", "version", "I", false)
def tJ : Nat → FieldType := fun k => match k with
  | 0 => .array .int
  | 1 => .int
  | _ => .int
theorem nJ : ∀ a, a < 3 → ∀ b, b < 3 → a ≠ b → (TJ a).2.1 ≠ (TJ b).2.1 := by decide +kernel
theorem tJ_ok : ∀ k, k < 3 → parseFieldDescriptor (TJ k).2.2.1 = some (tJ k) := by decide +kernel
abbrev RP : String := "GuardVolume$Power"
def TP : u_T := fun k => match k with
  | 0 => ("GuardVolume$Power", "on", "Z", false)
  | _ => ("GuardVolume$Power", "writesLeft", "I", false)
def tP : Nat → FieldType := fun k => match k with
  | 0 => .boolean
  | _ => .int
theorem nP : ∀ a, a < 2 → ∀ b, b < 2 → a ≠ b → (TP a).2.1 ≠ (TP b).2.1 := by decide +kernel
theorem tP_ok : ∀ k, k < 2 → parseFieldDescriptor (TP k).2.2.1 = some (tP k) := by decide +kernel
abbrev RG : String := "GuardVolume"
def TG : u_T := fun k => match k with
  | 0 => ("GuardVolume", "drive0", "LGuardVolume$Drive;", true)
  | 1 => ("GuardVolume", "drive1", "LGuardVolume$Drive;", true)
  | 2 => ("GuardVolume", "power", "LGuardVolume$Power;", true)
  | 3 => ("GuardVolume", "journal", "LGuardVolume$Journal;", true)
  | 4 => ("GuardVolume", "found", "LGuardVolume$Findings;", true)
  | 5 => ("GuardVolume", "memory", "[I", true)
  | 6 => ("GuardVolume", "lastCode", "I", false)
  | 7 => ("GuardVolume", "nextScrubbed", "I", false)
  | 8 => ("GuardVolume", "row", "[I", true)
  | 9 => ("GuardVolume", "listWords", "[I", true)
  | _ => ("GuardVolume", "copyWords", "[I", true)
def tG : Nat → FieldType := fun k => match k with
  | 0 => .object "GuardVolume$Drive"
  | 1 => .object "GuardVolume$Drive"
  | 2 => .object "GuardVolume$Power"
  | 3 => .object "GuardVolume$Journal"
  | 4 => .object "GuardVolume$Findings"
  | 5 => .array .int
  | 6 => .int
  | 7 => .int
  | 8 => .array .int
  | 9 => .array .int
  | _ => .array .int
theorem nG : ∀ a, a < 11 → ∀ b, b < 11 → a ≠ b → (TG a).2.1 ≠ (TG b).2.1 := by decide +kernel
theorem tG_ok : ∀ k, k < 11 → parseFieldDescriptor (TG k).2.2.1 = some (tG k) := by decide +kernel
abbrev RM : String := "GuardVolumeModel"
def TM : u_T := fun k => match k with
  | 0 => ("GuardVolumeModel", "thrown", "I", false)
  | 1 => ("GuardVolumeModel", "drives", "[I", true)
  | 2 => ("GuardVolumeModel", "memory", "[I", true)
  | 3 => ("GuardVolumeModel", "journal", "I", false)
  | 4 => ("GuardVolumeModel", "journalWords", "[I", true)
  | 5 => ("GuardVolumeModel", "journalVersion", "I", false)
  | 6 => ("GuardVolumeModel", "off", "Z", false)
  | 7 => ("GuardVolumeModel", "left", "I", false)
  | 8 => ("GuardVolumeModel", "writes", "[I", true)
  | 9 => ("GuardVolumeModel", "plans", "[I", true)
  | 10 => ("GuardVolumeModel", "planAt", "[I", true)
  | 11 => ("GuardVolumeModel", "planKind", "[I", true)
  | 12 => ("GuardVolumeModel", "planX", "[I", true)
  | 13 => ("GuardVolumeModel", "code", "I", false)
  | 14 => ("GuardVolumeModel", "nextScrub", "I", false)
  | 15 => ("GuardVolumeModel", "kept", "I", false)
  | 16 => ("GuardVolumeModel", "found", "I", false)
  | 17 => ("GuardVolumeModel", "findings", "[I", true)
  | 18 => ("GuardVolumeModel", "row", "[I", true)
  | _ => ("GuardVolumeModel", "words", "[I", true)
def tM : Nat → FieldType := fun k => match k with
  | 0 => .int
  | 1 => .array .int
  | 2 => .array .int
  | 3 => .int
  | 4 => .array .int
  | 5 => .int
  | 6 => .boolean
  | 7 => .int
  | 8 => .array .int
  | 9 => .array .int
  | 10 => .array .int
  | 11 => .array .int
  | 12 => .array .int
  | 13 => .int
  | 14 => .int
  | 15 => .int
  | 16 => .int
  | 17 => .array .int
  | 18 => .array .int
  | _ => .array .int
theorem nM : ∀ a, a < 20 → ∀ b, b < 20 → a ≠ b → (TM a).2.1 ≠ (TM b).2.1 := by decide +kernel
theorem tM_ok : ∀ k, k < 20 → parseFieldDescriptor (TM k).2.2.1 = some (tM k) := by decide +kernel
abbrev RL : String := "GuardVolumeLaw"
abbrev vCl : List vw_C := [(RD, TD, 6), (RF, TF, 3), (RJ, TJ, 3), (RP, TP, 2), (RG, TG, 11), (RM, TM, 20)]
abbrev cG_init : ByteArray := prog_1_method_1_code
def yG_init : MethodName := ⟨"GuardVolume", "<init>", "()V"⟩
abbrev cD_init : ByteArray := prog_2_method_1_code
def yD_init : MethodName := ⟨"GuardVolume$Drive", "<init>", "()V"⟩
abbrev cG_sumOf : ByteArray := prog_1_method_20_code
def yG_sumOf : MethodName := ⟨"GuardVolume", "sumOf", "([II)I"⟩
abbrev cP_init : ByteArray := prog_5_method_1_code
def yP_init : MethodName := ⟨"GuardVolume$Power", "<init>", "()V"⟩
abbrev cJ_init : ByteArray := prog_4_method_1_code
def yJ_init : MethodName := ⟨"GuardVolume$Journal", "<init>", "()V"⟩
abbrev cF_init : ByteArray := prog_3_method_1_code
def yF_init : MethodName := ⟨"GuardVolume$Findings", "<init>", "()V"⟩
abbrev cG_code : ByteArray := prog_1_method_4_code
def yG_code : MethodName := ⟨"GuardVolume", "code", "()I"⟩
abbrev cG_findings : ByteArray := prog_1_method_9_code
def yG_findings : MethodName := ⟨"GuardVolume", "findings", "(Z)I"⟩
abbrev cL_write : ByteArray := method_3_code
def yL_write : MethodName := ⟨"GuardVolumeLaw", "write", "(LGuardVolume;III[J)I"⟩
abbrev cG_write : ByteArray := prog_1_method_2_code
def yG_write : MethodName := ⟨"GuardVolume", "write", "(III)I"⟩
abbrev cG_isBelow : ByteArray := prog_1_method_18_code
def yG_isBelow : MethodName := ⟨"GuardVolume", "isBelow", "(II)Z"⟩
abbrev cG_goodCopy : ByteArray := prog_1_method_26_code
def yG_goodCopy : MethodName := ⟨"GuardVolume", "goodCopy", "(I)I"⟩
abbrev cG_judge : ByteArray := prog_1_method_25_code
def yG_judge : MethodName := ⟨"GuardVolume", "judge", "(II)I"⟩
abbrev cG_driveOf : ByteArray := prog_1_method_21_code
def yG_driveOf : MethodName := ⟨"GuardVolume", "driveOf", "(I)LGuardVolume$Drive;"⟩
abbrev cD_at : ByteArray := prog_2_method_2_code
def yD_at : MethodName := ⟨"GuardVolume$Drive", "at", "(II)I"⟩
abbrev cG_expectedVersion : ByteArray := prog_1_method_24_code
def yG_expectedVersion : MethodName := ⟨"GuardVolume", "expectedVersion", "(II)I"⟩
abbrev cG_listDrive : ByteArray := prog_1_method_23_code
def yG_listDrive : MethodName := ⟨"GuardVolume", "listDrive", "(II)I"⟩
abbrev cG_isPageRight : ByteArray := prog_1_method_22_code
def yG_isPageRight : MethodName := ⟨"GuardVolume", "isPageRight", "(II)Z"⟩
abbrev cG_codeOf : ByteArray := prog_1_method_27_code
def yG_codeOf : MethodName := ⟨"GuardVolume", "codeOf", "(I)I"⟩
abbrev cD_giveWords : ByteArray := prog_2_method_3_code
def yD_giveWords : MethodName := ⟨"GuardVolume$Drive", "giveWords", "(I[I)V"⟩
abbrev cG_putNotedBlock : ByteArray := prog_1_method_31_code
def yG_putNotedBlock : MethodName := ⟨"GuardVolume", "putNotedBlock", "()Z"⟩
abbrev cG_putCopy : ByteArray := prog_1_method_30_code
def yG_putCopy : MethodName := ⟨"GuardVolume", "putCopy", "(II[II)Z"⟩
abbrev cG_store : ByteArray := prog_1_method_28_code
def yG_store : MethodName := ⟨"GuardVolume", "store", "(II[II)Z"⟩
abbrev cP_allowsWrite : ByteArray := prog_5_method_2_code
def yP_allowsWrite : MethodName := ⟨"GuardVolume$Power", "allowsWrite", "()Z"⟩
abbrev cD_take : ByteArray := prog_2_method_8_code
def yD_take : MethodName := ⟨"GuardVolume$Drive", "take", "(I[I)V"⟩
abbrev cD_planOfNext : ByteArray := prog_2_method_5_code
def yD_planOfNext : MethodName := ⟨"GuardVolume$Drive", "planOfNext", "(I)I"⟩
abbrev cD_keep : ByteArray := prog_2_method_9_code
def yD_keep : MethodName := ⟨"GuardVolume$Drive", "keep", "(I[II)V"⟩
abbrev cD_removePlan : ByteArray := prog_2_method_7_code
def yD_removePlan : MethodName := ⟨"GuardVolume$Drive", "removePlan", "(I)V"⟩
abbrev cG_storeList : ByteArray := prog_1_method_29_code
def yG_storeList : MethodName := ⟨"GuardVolume", "storeList", "(III)Z"⟩
abbrev cAf_fill : ByteArray := prog_17_method_103_code
def yAf_fill : MethodName := ⟨"java/util/Arrays", "fill", "([II)V"⟩
abbrev cL_read : ByteArray := method_4_code
def yL_read : MethodName := ⟨"GuardVolumeLaw", "read", "(LGuardVolume;II[J)I"⟩
abbrev cG_read : ByteArray := prog_1_method_3_code
def yG_read : MethodName := ⟨"GuardVolume", "read", "(II)I"⟩
abbrev cL_plan : ByteArray := method_5_code
def yL_plan : MethodName := ⟨"GuardVolumeLaw", "plan", "(LGuardVolume;IIII)I"⟩
abbrev cG_plan : ByteArray := prog_1_method_5_code
def yG_plan : MethodName := ⟨"GuardVolume", "plan", "(IIII)V"⟩
abbrev cG_isPlan : ByteArray := prog_1_method_19_code
def yG_isPlan : MethodName := ⟨"GuardVolume", "isPlan", "(II)Z"⟩
abbrev cD_addPlan : ByteArray := prog_2_method_6_code
def yD_addPlan : MethodName := ⟨"GuardVolume$Drive", "addPlan", "(III)V"⟩
abbrev cL_cutAfter : ByteArray := method_6_code
def yL_cutAfter : MethodName := ⟨"GuardVolumeLaw", "cutAfter", "(LGuardVolume;I)I"⟩
abbrev cG_cutAfter : ByteArray := prog_1_method_6_code
def yG_cutAfter : MethodName := ⟨"GuardVolume", "cutAfter", "(I)V"⟩
abbrev cL_start : ByteArray := method_7_code
def yL_start : MethodName := ⟨"GuardVolumeLaw", "start", "(LGuardVolume;[J)I"⟩
abbrev cG_start : ByteArray := prog_1_method_7_code
def yG_start : MethodName := ⟨"GuardVolume", "start", "()I"⟩
abbrev cL_scrub : ByteArray := method_8_code
def yL_scrub : MethodName := ⟨"GuardVolumeLaw", "scrub", "(LGuardVolume;I[J)I"⟩
abbrev cG_scrub : ByteArray := prog_1_method_8_code
def yG_scrub : MethodName := ⟨"GuardVolume", "scrub", "(I)I"⟩
abbrev cG_scrubBlock : ByteArray := prog_1_method_32_code
def yG_scrubBlock : MethodName := ⟨"GuardVolume", "scrubBlock", "(I)Z"⟩
abbrev cG_mendList : ByteArray := prog_1_method_33_code
def yG_mendList : MethodName := ⟨"GuardVolume", "mendList", "(II)Z"⟩
abbrev cF_tell : ByteArray := prog_3_method_2_code
def yF_tell : MethodName := ⟨"GuardVolume$Findings", "tell", "(IIII)V"⟩
abbrev cG_mendCopies : ByteArray := prog_1_method_34_code
def yG_mendCopies : MethodName := ⟨"GuardVolume", "mendCopies", "(I)Z"⟩
abbrev cL_finding : ByteArray := method_9_code
def yL_finding : MethodName := ⟨"GuardVolumeLaw", "finding", "(LGuardVolume;II[J)I"⟩
abbrev cG_finding : ByteArray := prog_1_method_10_code
def yG_finding : MethodName := ⟨"GuardVolume", "finding", "(II)I"⟩
abbrev cL_expected : ByteArray := method_10_code
def yL_expected : MethodName := ⟨"GuardVolumeLaw", "expected", "(LGuardVolume;II[J)I"⟩
abbrev cG_expected : ByteArray := prog_1_method_11_code
def yG_expected : MethodName := ⟨"GuardVolume", "expected", "(II)I"⟩
abbrev cL_verdict : ByteArray := method_11_code
def yL_verdict : MethodName := ⟨"GuardVolumeLaw", "verdict", "(LGuardVolume;II[J)I"⟩
abbrev cG_verdict : ByteArray := prog_1_method_12_code
def yG_verdict : MethodName := ⟨"GuardVolume", "verdict", "(II)I"⟩
abbrev cL_isRight : ByteArray := method_12_code
def yL_isRight : MethodName := ⟨"GuardVolumeLaw", "isRight", "(LGuardVolume;II[J)I"⟩
abbrev cG_isRight : ByteArray := prog_1_method_13_code
def yG_isRight : MethodName := ⟨"GuardVolume", "isRight", "(II)Z"⟩
abbrev cL_raw : ByteArray := method_13_code
def yL_raw : MethodName := ⟨"GuardVolumeLaw", "raw", "(LGuardVolume;III[J)I"⟩
abbrev cG_raw : ByteArray := prog_1_method_14_code
def yG_raw : MethodName := ⟨"GuardVolume", "raw", "(III)I"⟩
abbrev cL_replace : ByteArray := method_14_code
def yL_replace : MethodName := ⟨"GuardVolumeLaw", "replace", "(LGuardVolume;I)I"⟩
abbrev cG_replace : ByteArray := prog_1_method_15_code
def yG_replace : MethodName := ⟨"GuardVolume", "replace", "(I)V"⟩
abbrev cD_wipe : ByteArray := prog_2_method_4_code
def yD_wipe : MethodName := ⟨"GuardVolume$Drive", "wipe", "()V"⟩
abbrev cL_rebuild : ByteArray := method_15_code
def yL_rebuild : MethodName := ⟨"GuardVolumeLaw", "rebuild", "(LGuardVolume;I[J)I"⟩
abbrev cG_rebuild : ByteArray := prog_1_method_16_code
def yG_rebuild : MethodName := ⟨"GuardVolume", "rebuild", "(I)I"⟩
abbrev cG_rebuildBlock : ByteArray := prog_1_method_35_code
def yG_rebuildBlock : MethodName := ⟨"GuardVolume", "rebuildBlock", "(III)Z"⟩
abbrev cL_count : ByteArray := method_16_code
def yL_count : MethodName := ⟨"GuardVolumeLaw", "count", "(LGuardVolume;I[J)I"⟩
abbrev cG_count : ByteArray := prog_1_method_17_code
def yG_count : MethodName := ⟨"GuardVolume", "count", "(I)I"⟩
abbrev cG_greatestPageVersion : ByteArray := prog_1_method_36_code
def yG_greatestPageVersion : MethodName := ⟨"GuardVolume", "greatestPageVersion", "()I"⟩
abbrev cMx_max : ByteArray := prog_12_method_65_code
def yMx_max : MethodName := ⟨"java/lang/Math", "max", "(II)I"⟩
abbrev cM_init : ByteArray := prog_7_method_1_code
def yM_init : MethodName := ⟨"GuardVolumeModel", "<init>", "()V"⟩
abbrev cM_place : ByteArray := prog_7_method_3_code
def yM_place : MethodName := ⟨"GuardVolumeModel", "place", "(II)I"⟩
abbrev cM_sumAt : ByteArray := prog_7_method_5_code
def yM_sumAt : MethodName := ⟨"GuardVolumeModel", "sumAt", "(I)I"⟩
abbrev cM_mix : ByteArray := prog_7_method_4_code
def yM_mix : MethodName := ⟨"GuardVolumeModel", "mix", "(II)I"⟩
abbrev cM_thrown : ByteArray := prog_7_method_2_code
def yM_thrown : MethodName := ⟨"GuardVolumeModel", "thrown", "()I"⟩
abbrev cM_write : ByteArray := prog_7_method_23_code
def yM_write : MethodName := ⟨"GuardVolumeModel", "write", "(III)I"⟩
abbrev cM_in : ByteArray := prog_7_method_21_code
def yM_in : MethodName := ⟨"GuardVolumeModel", "in", "(II)Z"⟩
abbrev cM_codeOf : ByteArray := prog_7_method_22_code
def yM_codeOf : MethodName := ⟨"GuardVolumeModel", "codeOf", "(I)I"⟩
abbrev cM_verdictOf : ByteArray := prog_7_method_11_code
def yM_verdictOf : MethodName := ⟨"GuardVolumeModel", "verdictOf", "(II)I"⟩
abbrev cM_isWhole : ByteArray := prog_7_method_6_code
def yM_isWhole : MethodName := ⟨"GuardVolumeModel", "isWhole", "(II)Z"⟩
abbrev cM_isUnknown : ByteArray := prog_7_method_10_code
def yM_isUnknown : MethodName := ⟨"GuardVolumeModel", "isUnknown", "(II)Z"⟩
abbrev cM_isRightPage : ByteArray := prog_7_method_7_code
def yM_isRightPage : MethodName := ⟨"GuardVolumeModel", "isRightPage", "(II)Z"⟩
abbrev cM_expectedOf : ByteArray := prog_7_method_9_code
def yM_expectedOf : MethodName := ⟨"GuardVolumeModel", "expectedOf", "(II)I"⟩
abbrev cM_listed : ByteArray := prog_7_method_8_code
def yM_listed : MethodName := ⟨"GuardVolumeModel", "listed", "(II)I"⟩
abbrev cM_takeWords : ByteArray := prog_7_method_17_code
def yM_takeWords : MethodName := ⟨"GuardVolumeModel", "takeWords", "(II)V"⟩
abbrev cM_put : ByteArray := prog_7_method_20_code
def yM_put : MethodName := ⟨"GuardVolumeModel", "put", "(II)Z"⟩
abbrev cM_putCopy : ByteArray := prog_7_method_19_code
def yM_putCopy : MethodName := ⟨"GuardVolumeModel", "putCopy", "(III)Z"⟩
abbrev cM_storeRow : ByteArray := prog_7_method_18_code
def yM_storeRow : MethodName := ⟨"GuardVolumeModel", "storeRow", "(III)Z"⟩
abbrev cM_store : ByteArray := prog_7_method_15_code
def yM_store : MethodName := ⟨"GuardVolumeModel", "store", "(III)Z"⟩
abbrev cM_planOf : ByteArray := prog_7_method_12_code
def yM_planOf : MethodName := ⟨"GuardVolumeModel", "planOf", "(I)I"⟩
abbrev cM_lay : ByteArray := prog_7_method_14_code
def yM_lay : MethodName := ⟨"GuardVolumeModel", "lay", "(III)V"⟩
abbrev cM_dropPlan : ByteArray := prog_7_method_13_code
def yM_dropPlan : MethodName := ⟨"GuardVolumeModel", "dropPlan", "(II)V"⟩
abbrev cM_storeList : ByteArray := prog_7_method_16_code
def yM_storeList : MethodName := ⟨"GuardVolumeModel", "storeList", "(III)Z"⟩
abbrev cM_read : ByteArray := prog_7_method_24_code
def yM_read : MethodName := ⟨"GuardVolumeModel", "read", "(II)I"⟩
abbrev cM_code : ByteArray := prog_7_method_25_code
def yM_code : MethodName := ⟨"GuardVolumeModel", "code", "()I"⟩
abbrev cM_plan : ByteArray := prog_7_method_26_code
def yM_plan : MethodName := ⟨"GuardVolumeModel", "plan", "(IIII)V"⟩
abbrev cM_cutAfter : ByteArray := prog_7_method_27_code
def yM_cutAfter : MethodName := ⟨"GuardVolumeModel", "cutAfter", "(I)V"⟩
abbrev cM_start : ByteArray := prog_7_method_28_code
def yM_start : MethodName := ⟨"GuardVolumeModel", "start", "()I"⟩
abbrev cM_scrub : ByteArray := prog_7_method_31_code
def yM_scrub : MethodName := ⟨"GuardVolumeModel", "scrub", "(I)I"⟩
abbrev cM_scrubOf : ByteArray := prog_7_method_30_code
def yM_scrubOf : MethodName := ⟨"GuardVolumeModel", "scrubOf", "(I)Z"⟩
abbrev cM_find : ByteArray := prog_7_method_29_code
def yM_find : MethodName := ⟨"GuardVolumeModel", "find", "(IIII)V"⟩
abbrev cM_findings : ByteArray := prog_7_method_32_code
def yM_findings : MethodName := ⟨"GuardVolumeModel", "findings", "(Z)I"⟩
abbrev cM_finding : ByteArray := prog_7_method_33_code
def yM_finding : MethodName := ⟨"GuardVolumeModel", "finding", "(II)I"⟩
abbrev cM_expected : ByteArray := prog_7_method_34_code
def yM_expected : MethodName := ⟨"GuardVolumeModel", "expected", "(II)I"⟩
abbrev cM_verdict : ByteArray := prog_7_method_35_code
def yM_verdict : MethodName := ⟨"GuardVolumeModel", "verdict", "(II)I"⟩
abbrev cM_isRight : ByteArray := prog_7_method_36_code
def yM_isRight : MethodName := ⟨"GuardVolumeModel", "isRight", "(II)Z"⟩
abbrev cM_raw : ByteArray := prog_7_method_37_code
def yM_raw : MethodName := ⟨"GuardVolumeModel", "raw", "(III)I"⟩
abbrev cM_replace : ByteArray := prog_7_method_38_code
def yM_replace : MethodName := ⟨"GuardVolumeModel", "replace", "(I)V"⟩
abbrev cM_rebuild : ByteArray := prog_7_method_39_code
def yM_rebuild : MethodName := ⟨"GuardVolumeModel", "rebuild", "(I)I"⟩
abbrev cM_count : ByteArray := prog_7_method_40_code
def yM_count : MethodName := ⟨"GuardVolumeModel", "count", "(I)I"⟩
abbrev cL_law : ByteArray := code
def yL_law : MethodName := ⟨"GuardVolumeLaw", "law", "([I)Z"⟩
end
section
/-! the good words of the tables in one list; each by its place (written by names.py) -/
def gW : List Cond := lw_tbl.filter goodWord
theorem gW_good : ∀ w ∈ gW, goodWord w = true := fun w h => (List.mem_filter.mp h).2
theorem gW_tbl : ∀ w ∈ gW, w ∈ lw_tbl := fun w h => (List.mem_filter.mp h).1
def isNe : Cond → Bool
  | .fieldLinkNest _ _ _ _ _ _ => true
  | .methodLinkNest _ _ _ _ => true
  | _ => false
def nW : List Cond := lw_tbl.filter isNe
theorem nW_of {w : Cond} {i : Nat} (h : tables_1[i]? = some w) (hg : isNe w = true) : w ∈ nW := List.mem_filter.mpr ⟨List.mem_append_right _ (List.mem_of_getElem? h), hg⟩
theorem gW_of {w : Cond} {i : Nat} (h : tables_1[i]? = some w) (hg : goodWord w = true) : w ∈ gW := List.mem_filter.mpr ⟨List.mem_append_right _ (List.mem_of_getElem? h), hg⟩
theorem kw_0 : (Jvm.Cond.initialized "GuardVolumeLaw") ∈ gW := gW_of (i := 0) (by decide +kernel) (by decide +kernel)
theorem kw_1 : (Jvm.Cond.initialized "GuardVolume") ∈ gW := gW_of (i := 1) (by decide +kernel) (by decide +kernel)
theorem kw_2 : (Jvm.Cond.initialized "GuardVolume$Drive") ∈ gW := gW_of (i := 2) (by decide +kernel) (by decide +kernel)
theorem kw_3 : (Jvm.Cond.initialized "java/lang/System") ∈ gW := gW_of (i := 3) (by decide +kernel) (by decide +kernel)
theorem kw_4 : (Jvm.Cond.initialized "GuardVolume$Power") ∈ gW := gW_of (i := 4) (by decide +kernel) (by decide +kernel)
theorem kw_5 : (Jvm.Cond.initialized "GuardVolume$Journal") ∈ gW := gW_of (i := 5) (by decide +kernel) (by decide +kernel)
theorem kw_6 : (Jvm.Cond.initialized "GuardVolume$Findings") ∈ gW := gW_of (i := 6) (by decide +kernel) (by decide +kernel)
theorem kw_7 : (Jvm.Cond.initialized "GuardVolumeModel") ∈ gW := gW_of (i := 7) (by decide +kernel) (by decide +kernel)
theorem kw_8 : (Jvm.Cond.initialized "java/lang/Throwable") ∈ gW := gW_of (i := 8) (by decide +kernel) (by decide +kernel)
theorem kw_9 : (Jvm.Cond.initialized "java/lang/Exception") ∈ gW := gW_of (i := 9) (by decide +kernel) (by decide +kernel)
theorem kw_10 : (Jvm.Cond.initialized "java/lang/RuntimeException") ∈ gW := gW_of (i := 10) (by decide +kernel) (by decide +kernel)
theorem kw_11 : (Jvm.Cond.initialized "java/lang/IndexOutOfBoundsException") ∈ gW := gW_of (i := 11) (by decide +kernel) (by decide +kernel)
theorem kw_12 : (Jvm.Cond.initialized "java/lang/IllegalStateException") ∈ gW := gW_of (i := 12) (by decide +kernel) (by decide +kernel)
theorem kw_13 : (Jvm.Cond.initialized "java/lang/UnsupportedOperationException") ∈ gW := gW_of (i := 13) (by decide +kernel) (by decide +kernel)
theorem kw_14 : (Jvm.Cond.initialized "java/util/Arrays") ∈ gW := gW_of (i := 14) (by decide +kernel) (by decide +kernel)
theorem kw_15 : (Jvm.Cond.initialized "java/lang/IllegalArgumentException") ∈ gW := gW_of (i := 15) (by decide +kernel) (by decide +kernel)
theorem kw_16 : (Jvm.Cond.initialized "java/lang/Math") ∈ gW := gW_of (i := 16) (by decide +kernel) (by decide +kernel)
theorem kw_17 : (Jvm.Cond.classLink "GuardVolumeLaw" (8 : Nat) "GuardVolume") ∈ gW := gW_of (i := 17) (by decide +kernel) (by decide +kernel)
theorem kw_18 : (Jvm.Cond.instantiable "GuardVolume" (11 : Nat)) ∈ gW := gW_of (i := 18) (by decide +kernel) (by decide +kernel)
theorem kw_19 : (Jvm.Cond.methodLink "GuardVolumeLaw" (66 : Nat) ({ cls := "GuardVolume", name := "<init>", desc := "()V" } : Jvm.MethodName)) ∈ gW := gW_of (i := 19) (by decide +kernel) (by decide +kernel)
theorem kw_20 : (Jvm.Cond.instanceMethod ({ cls := "GuardVolume", name := "<init>", desc := "()V" } : Jvm.MethodName)) ∈ gW := gW_of (i := 20) (by decide +kernel) (by decide +kernel)
theorem kw_21 : (Jvm.Cond.code ({ cls := "GuardVolume", name := "<init>", desc := "()V" } : Jvm.MethodName) prog_1_method_1_code (1 : Nat) (Option.none : Option Jvm.ClassFile.FieldType)) ∈ gW := gW_of (i := 21) (by decide +kernel) (by decide +kernel)
theorem kw_22 : (Jvm.Cond.methodLink "GuardVolume" (3 : Nat) ({ cls := "java/lang/Object", name := "<init>", desc := "()V" } : Jvm.MethodName)) ∈ gW := gW_of (i := 22) (by decide +kernel) (by decide +kernel)
theorem kw_23 : (Jvm.Cond.instanceMethod ({ cls := "java/lang/Object", name := "<init>", desc := "()V" } : Jvm.MethodName)) ∈ gW := gW_of (i := 23) (by decide +kernel) (by decide +kernel)
theorem kw_24 : (Jvm.Cond.code ({ cls := "java/lang/Object", name := "<init>", desc := "()V" } : Jvm.MethodName) object_method_1_code (1 : Nat) (Option.none : Option Jvm.ClassFile.FieldType)) ∈ gW := gW_of (i := 24) (by decide +kernel) (by decide +kernel)
theorem kw_25 : (Jvm.Cond.classLink "GuardVolume" (9 : Nat) "GuardVolume$Drive") ∈ gW := gW_of (i := 25) (by decide +kernel) (by decide +kernel)
theorem kw_26 : (Jvm.Cond.instantiable "GuardVolume$Drive" (6 : Nat)) ∈ gW := gW_of (i := 26) (by decide +kernel) (by decide +kernel)
theorem kn_27 : (Jvm.Cond.methodLinkNest "GuardVolume" (11 : Nat) ({ cls := "GuardVolume$Drive", name := "<init>", desc := "()V" } : Jvm.MethodName) "GuardVolume") ∈ nW := nW_of (i := 27) (by decide +kernel) rfl
theorem kw_28 : (Jvm.Cond.instanceMethod ({ cls := "GuardVolume$Drive", name := "<init>", desc := "()V" } : Jvm.MethodName)) ∈ gW := gW_of (i := 28) (by decide +kernel) (by decide +kernel)
theorem kw_29 : (Jvm.Cond.code ({ cls := "GuardVolume$Drive", name := "<init>", desc := "()V" } : Jvm.MethodName) prog_2_method_1_code (3 : Nat) (Option.none : Option Jvm.ClassFile.FieldType)) ∈ gW := gW_of (i := 29) (by decide +kernel) (by decide +kernel)
theorem kw_30 : (Jvm.Cond.methodLink "GuardVolume$Drive" (3 : Nat) ({ cls := "java/lang/Object", name := "<init>", desc := "()V" } : Jvm.MethodName)) ∈ gW := gW_of (i := 30) (by decide +kernel) (by decide +kernel)
theorem kn_31 : (Jvm.Cond.methodLinkNest "GuardVolume$Drive" (31 : Nat) ({ cls := "GuardVolume", name := "sumOf", desc := "([II)I" } : Jvm.MethodName) "GuardVolume") ∈ nW := nW_of (i := 31) (by decide +kernel) rfl
theorem kw_32 : (Jvm.Cond.static ({ cls := "GuardVolume", name := "sumOf", desc := "([II)I" } : Jvm.MethodName)) ∈ gW := gW_of (i := 32) (by decide +kernel) (by decide +kernel)
theorem kw_33 : (Jvm.Cond.code ({ cls := "GuardVolume", name := "sumOf", desc := "([II)I" } : Jvm.MethodName) prog_1_method_20_code (4 : Nat) (Option.some Jvm.ClassFile.FieldType.int)) ∈ gW := gW_of (i := 33) (by decide +kernel) (by decide +kernel)
theorem kw_34 : (Jvm.Cond.methodLink "GuardVolume$Drive" (35 : Nat) ({ cls := "java/lang/System", name := "arraycopy", desc := "(Ljava/lang/Object;ILjava/lang/Object;II)V" } : Jvm.MethodName)) ∈ gW := gW_of (i := 34) (by decide +kernel) (by decide +kernel)
theorem kw_35 : (Jvm.Cond.static ({ cls := "java/lang/System", name := "arraycopy", desc := "(Ljava/lang/Object;ILjava/lang/Object;II)V" } : Jvm.MethodName)) ∈ gW := gW_of (i := 35) (by decide +kernel) (by decide +kernel)
theorem kw_36 : (Jvm.Cond.native ({ cls := "java/lang/System", name := "arraycopy", desc := "(Ljava/lang/Object;ILjava/lang/Object;II)V" } : Jvm.MethodName)) ∈ gW := gW_of (i := 36) (by decide +kernel) (by decide +kernel)
theorem kw_37 : (Jvm.Cond.fieldLink "GuardVolume$Drive" (9 : Nat) "GuardVolume$Drive" "numbers" "[I") ∈ gW := gW_of (i := 37) (by decide +kernel) (by decide +kernel)
theorem kn_38 : (Jvm.Cond.fieldLinkNest "GuardVolume" (164 : Nat) "GuardVolume$Drive" "numbers" "[I" "GuardVolume") ∈ nW := nW_of (i := 38) (by decide +kernel) rfl
theorem kw_39 : (Jvm.Cond.fieldLink "GuardVolume$Drive" (15 : Nat) "GuardVolume$Drive" "planWrite" "[I") ∈ gW := gW_of (i := 39) (by decide +kernel) (by decide +kernel)
theorem kw_40 : (Jvm.Cond.fieldLink "GuardVolume$Drive" (18 : Nat) "GuardVolume$Drive" "planKind" "[I") ∈ gW := gW_of (i := 40) (by decide +kernel) (by decide +kernel)
theorem kw_41 : (Jvm.Cond.fieldLink "GuardVolume$Drive" (21 : Nat) "GuardVolume$Drive" "planX" "[I") ∈ gW := gW_of (i := 41) (by decide +kernel) (by decide +kernel)
theorem kw_42 : (Jvm.Cond.fieldLink "GuardVolume$Drive" (24 : Nat) "GuardVolume$Drive" "plans" "I") ∈ gW := gW_of (i := 42) (by decide +kernel) (by decide +kernel)
theorem kn_43 : (Jvm.Cond.fieldLinkNest "GuardVolume" (118 : Nat) "GuardVolume$Drive" "plans" "I" "GuardVolume") ∈ nW := nW_of (i := 43) (by decide +kernel) rfl
theorem kw_44 : (Jvm.Cond.fieldLink "GuardVolume$Drive" (28 : Nat) "GuardVolume$Drive" "writes" "I") ∈ gW := gW_of (i := 44) (by decide +kernel) (by decide +kernel)
theorem kn_45 : (Jvm.Cond.fieldLinkNest "GuardVolume" (128 : Nat) "GuardVolume$Drive" "writes" "I" "GuardVolume") ∈ nW := nW_of (i := 45) (by decide +kernel) rfl
theorem kw_46 : (Jvm.Cond.laysFinal "GuardVolume$Drive" "GuardVolume$Drive" "numbers" "[I") ∈ gW := gW_of (i := 46) (by decide +kernel) (by decide +kernel)
theorem kw_47 : (Jvm.Cond.soleField "GuardVolume$Drive" "numbers") ∈ gW := gW_of (i := 47) (by decide +kernel) (by decide +kernel)
theorem kw_48 : (Jvm.Cond.laysFinal "GuardVolume$Drive" "GuardVolume$Drive" "planWrite" "[I") ∈ gW := gW_of (i := 48) (by decide +kernel) (by decide +kernel)
theorem kw_49 : (Jvm.Cond.soleField "GuardVolume$Drive" "planWrite") ∈ gW := gW_of (i := 49) (by decide +kernel) (by decide +kernel)
theorem kw_50 : (Jvm.Cond.laysFinal "GuardVolume$Drive" "GuardVolume$Drive" "planKind" "[I") ∈ gW := gW_of (i := 50) (by decide +kernel) (by decide +kernel)
theorem kw_51 : (Jvm.Cond.soleField "GuardVolume$Drive" "planKind") ∈ gW := gW_of (i := 51) (by decide +kernel) (by decide +kernel)
theorem kw_52 : (Jvm.Cond.laysFinal "GuardVolume$Drive" "GuardVolume$Drive" "planX" "[I") ∈ gW := gW_of (i := 52) (by decide +kernel) (by decide +kernel)
theorem kw_53 : (Jvm.Cond.soleField "GuardVolume$Drive" "planX") ∈ gW := gW_of (i := 53) (by decide +kernel) (by decide +kernel)
theorem kw_54 : (Jvm.Cond.lays "GuardVolume$Drive" "GuardVolume$Drive" "plans" "I") ∈ gW := gW_of (i := 54) (by decide +kernel) (by decide +kernel)
theorem kw_55 : (Jvm.Cond.soleField "GuardVolume$Drive" "plans") ∈ gW := gW_of (i := 55) (by decide +kernel) (by decide +kernel)
theorem kw_56 : (Jvm.Cond.lays "GuardVolume$Drive" "GuardVolume$Drive" "writes" "I") ∈ gW := gW_of (i := 56) (by decide +kernel) (by decide +kernel)
theorem kw_57 : (Jvm.Cond.soleField "GuardVolume$Drive" "writes") ∈ gW := gW_of (i := 57) (by decide +kernel) (by decide +kernel)
theorem kw_58 : (Jvm.Cond.superclass "GuardVolume$Drive" "java/lang/Object") ∈ gW := gW_of (i := 58) (by decide +kernel) (by decide +kernel)
theorem kw_59 : (Jvm.Cond.arrayClass Jvm.ClassFile.FieldType.int) ∈ gW := gW_of (i := 59) (by decide +kernel) (by decide +kernel)
theorem kw_60 : (Jvm.Cond.classLink "GuardVolume" (19 : Nat) "GuardVolume$Power") ∈ gW := gW_of (i := 60) (by decide +kernel) (by decide +kernel)
theorem kw_61 : (Jvm.Cond.instantiable "GuardVolume$Power" (2 : Nat)) ∈ gW := gW_of (i := 61) (by decide +kernel) (by decide +kernel)
theorem kn_62 : (Jvm.Cond.methodLinkNest "GuardVolume" (21 : Nat) ({ cls := "GuardVolume$Power", name := "<init>", desc := "()V" } : Jvm.MethodName) "GuardVolume") ∈ nW := nW_of (i := 62) (by decide +kernel) rfl
theorem kw_63 : (Jvm.Cond.instanceMethod ({ cls := "GuardVolume$Power", name := "<init>", desc := "()V" } : Jvm.MethodName)) ∈ gW := gW_of (i := 63) (by decide +kernel) (by decide +kernel)
theorem kw_64 : (Jvm.Cond.code ({ cls := "GuardVolume$Power", name := "<init>", desc := "()V" } : Jvm.MethodName) prog_5_method_1_code (1 : Nat) (Option.none : Option Jvm.ClassFile.FieldType)) ∈ gW := gW_of (i := 64) (by decide +kernel) (by decide +kernel)
theorem kw_65 : (Jvm.Cond.methodLink "GuardVolume$Power" (1 : Nat) ({ cls := "java/lang/Object", name := "<init>", desc := "()V" } : Jvm.MethodName)) ∈ gW := gW_of (i := 65) (by decide +kernel) (by decide +kernel)
theorem kw_66 : (Jvm.Cond.fieldLink "GuardVolume$Power" (7 : Nat) "GuardVolume$Power" "on" "Z") ∈ gW := gW_of (i := 66) (by decide +kernel) (by decide +kernel)
theorem kn_67 : (Jvm.Cond.fieldLinkNest "GuardVolume" (67 : Nat) "GuardVolume$Power" "on" "Z" "GuardVolume") ∈ nW := nW_of (i := 67) (by decide +kernel) rfl
theorem kw_68 : (Jvm.Cond.fieldLink "GuardVolume$Power" (13 : Nat) "GuardVolume$Power" "writesLeft" "I") ∈ gW := gW_of (i := 68) (by decide +kernel) (by decide +kernel)
theorem kn_69 : (Jvm.Cond.fieldLinkNest "GuardVolume" (125 : Nat) "GuardVolume$Power" "writesLeft" "I" "GuardVolume") ∈ nW := nW_of (i := 69) (by decide +kernel) rfl
theorem kw_70 : (Jvm.Cond.lays "GuardVolume$Power" "GuardVolume$Power" "on" "Z") ∈ gW := gW_of (i := 70) (by decide +kernel) (by decide +kernel)
theorem kw_71 : (Jvm.Cond.soleField "GuardVolume$Power" "on") ∈ gW := gW_of (i := 71) (by decide +kernel) (by decide +kernel)
theorem kw_72 : (Jvm.Cond.lays "GuardVolume$Power" "GuardVolume$Power" "writesLeft" "I") ∈ gW := gW_of (i := 72) (by decide +kernel) (by decide +kernel)
theorem kw_73 : (Jvm.Cond.soleField "GuardVolume$Power" "writesLeft") ∈ gW := gW_of (i := 73) (by decide +kernel) (by decide +kernel)
theorem kw_74 : (Jvm.Cond.superclass "GuardVolume$Power" "java/lang/Object") ∈ gW := gW_of (i := 74) (by decide +kernel) (by decide +kernel)
theorem kw_75 : (Jvm.Cond.classLink "GuardVolume" (26 : Nat) "GuardVolume$Journal") ∈ gW := gW_of (i := 75) (by decide +kernel) (by decide +kernel)
theorem kw_76 : (Jvm.Cond.instantiable "GuardVolume$Journal" (3 : Nat)) ∈ gW := gW_of (i := 76) (by decide +kernel) (by decide +kernel)
theorem kn_77 : (Jvm.Cond.methodLinkNest "GuardVolume" (28 : Nat) ({ cls := "GuardVolume$Journal", name := "<init>", desc := "()V" } : Jvm.MethodName) "GuardVolume") ∈ nW := nW_of (i := 77) (by decide +kernel) rfl
theorem kw_78 : (Jvm.Cond.instanceMethod ({ cls := "GuardVolume$Journal", name := "<init>", desc := "()V" } : Jvm.MethodName)) ∈ gW := gW_of (i := 78) (by decide +kernel) (by decide +kernel)
theorem kw_79 : (Jvm.Cond.code ({ cls := "GuardVolume$Journal", name := "<init>", desc := "()V" } : Jvm.MethodName) prog_4_method_1_code (1 : Nat) (Option.none : Option Jvm.ClassFile.FieldType)) ∈ gW := gW_of (i := 79) (by decide +kernel) (by decide +kernel)
theorem kw_80 : (Jvm.Cond.methodLink "GuardVolume$Journal" (3 : Nat) ({ cls := "java/lang/Object", name := "<init>", desc := "()V" } : Jvm.MethodName)) ∈ gW := gW_of (i := 80) (by decide +kernel) (by decide +kernel)
theorem kw_81 : (Jvm.Cond.fieldLink "GuardVolume$Journal" (9 : Nat) "GuardVolume$Journal" "words" "[I") ∈ gW := gW_of (i := 81) (by decide +kernel) (by decide +kernel)
theorem kn_82 : (Jvm.Cond.fieldLinkNest "GuardVolume" (92 : Nat) "GuardVolume$Journal" "words" "[I" "GuardVolume") ∈ nW := nW_of (i := 82) (by decide +kernel) rfl
theorem kw_83 : (Jvm.Cond.fieldLink "GuardVolume$Journal" (15 : Nat) "GuardVolume$Journal" "block" "I") ∈ gW := gW_of (i := 83) (by decide +kernel) (by decide +kernel)
theorem kn_84 : (Jvm.Cond.fieldLinkNest "GuardVolume" (102 : Nat) "GuardVolume$Journal" "block" "I" "GuardVolume") ∈ nW := nW_of (i := 84) (by decide +kernel) rfl
theorem kw_85 : (Jvm.Cond.fieldLink "GuardVolume$Journal" (19 : Nat) "GuardVolume$Journal" "version" "I") ∈ gW := gW_of (i := 85) (by decide +kernel) (by decide +kernel)
theorem kn_86 : (Jvm.Cond.fieldLinkNest "GuardVolume" (99 : Nat) "GuardVolume$Journal" "version" "I" "GuardVolume") ∈ nW := nW_of (i := 86) (by decide +kernel) rfl
theorem kw_87 : (Jvm.Cond.laysFinal "GuardVolume$Journal" "GuardVolume$Journal" "words" "[I") ∈ gW := gW_of (i := 87) (by decide +kernel) (by decide +kernel)
theorem kw_88 : (Jvm.Cond.soleField "GuardVolume$Journal" "words") ∈ gW := gW_of (i := 88) (by decide +kernel) (by decide +kernel)
theorem kw_89 : (Jvm.Cond.lays "GuardVolume$Journal" "GuardVolume$Journal" "block" "I") ∈ gW := gW_of (i := 89) (by decide +kernel) (by decide +kernel)
theorem kw_90 : (Jvm.Cond.soleField "GuardVolume$Journal" "block") ∈ gW := gW_of (i := 90) (by decide +kernel) (by decide +kernel)
theorem kw_91 : (Jvm.Cond.lays "GuardVolume$Journal" "GuardVolume$Journal" "version" "I") ∈ gW := gW_of (i := 91) (by decide +kernel) (by decide +kernel)
theorem kw_92 : (Jvm.Cond.soleField "GuardVolume$Journal" "version") ∈ gW := gW_of (i := 92) (by decide +kernel) (by decide +kernel)
theorem kw_93 : (Jvm.Cond.superclass "GuardVolume$Journal" "java/lang/Object") ∈ gW := gW_of (i := 93) (by decide +kernel) (by decide +kernel)
theorem kw_94 : (Jvm.Cond.classLink "GuardVolume" (33 : Nat) "GuardVolume$Findings") ∈ gW := gW_of (i := 94) (by decide +kernel) (by decide +kernel)
theorem kw_95 : (Jvm.Cond.instantiable "GuardVolume$Findings" (3 : Nat)) ∈ gW := gW_of (i := 95) (by decide +kernel) (by decide +kernel)
theorem kn_96 : (Jvm.Cond.methodLinkNest "GuardVolume" (35 : Nat) ({ cls := "GuardVolume$Findings", name := "<init>", desc := "()V" } : Jvm.MethodName) "GuardVolume") ∈ nW := nW_of (i := 96) (by decide +kernel) rfl
theorem kw_97 : (Jvm.Cond.instanceMethod ({ cls := "GuardVolume$Findings", name := "<init>", desc := "()V" } : Jvm.MethodName)) ∈ gW := gW_of (i := 97) (by decide +kernel) (by decide +kernel)
theorem kw_98 : (Jvm.Cond.code ({ cls := "GuardVolume$Findings", name := "<init>", desc := "()V" } : Jvm.MethodName) prog_3_method_1_code (1 : Nat) (Option.none : Option Jvm.ClassFile.FieldType)) ∈ gW := gW_of (i := 98) (by decide +kernel) (by decide +kernel)
theorem kw_99 : (Jvm.Cond.methodLink "GuardVolume$Findings" (3 : Nat) ({ cls := "java/lang/Object", name := "<init>", desc := "()V" } : Jvm.MethodName)) ∈ gW := gW_of (i := 99) (by decide +kernel) (by decide +kernel)
theorem kw_100 : (Jvm.Cond.fieldLink "GuardVolume$Findings" (9 : Nat) "GuardVolume$Findings" "numbers" "[I") ∈ gW := gW_of (i := 100) (by decide +kernel) (by decide +kernel)
theorem kn_101 : (Jvm.Cond.fieldLinkNest "GuardVolume" (141 : Nat) "GuardVolume$Findings" "numbers" "[I" "GuardVolume") ∈ nW := nW_of (i := 101) (by decide +kernel) rfl
theorem kw_102 : (Jvm.Cond.fieldLink "GuardVolume$Findings" (15 : Nat) "GuardVolume$Findings" "kept" "I") ∈ gW := gW_of (i := 102) (by decide +kernel) (by decide +kernel)
theorem kn_103 : (Jvm.Cond.fieldLinkNest "GuardVolume" (138 : Nat) "GuardVolume$Findings" "kept" "I" "GuardVolume") ∈ nW := nW_of (i := 103) (by decide +kernel) rfl
theorem kw_104 : (Jvm.Cond.fieldLink "GuardVolume$Findings" (19 : Nat) "GuardVolume$Findings" "told" "I") ∈ gW := gW_of (i := 104) (by decide +kernel) (by decide +kernel)
theorem kn_105 : (Jvm.Cond.fieldLinkNest "GuardVolume" (131 : Nat) "GuardVolume$Findings" "told" "I" "GuardVolume") ∈ nW := nW_of (i := 105) (by decide +kernel) rfl
theorem kw_106 : (Jvm.Cond.laysFinal "GuardVolume$Findings" "GuardVolume$Findings" "numbers" "[I") ∈ gW := gW_of (i := 106) (by decide +kernel) (by decide +kernel)
theorem kw_107 : (Jvm.Cond.soleField "GuardVolume$Findings" "numbers") ∈ gW := gW_of (i := 107) (by decide +kernel) (by decide +kernel)
theorem kw_108 : (Jvm.Cond.lays "GuardVolume$Findings" "GuardVolume$Findings" "kept" "I") ∈ gW := gW_of (i := 108) (by decide +kernel) (by decide +kernel)
theorem kw_109 : (Jvm.Cond.soleField "GuardVolume$Findings" "kept") ∈ gW := gW_of (i := 109) (by decide +kernel) (by decide +kernel)
theorem kw_110 : (Jvm.Cond.lays "GuardVolume$Findings" "GuardVolume$Findings" "told" "I") ∈ gW := gW_of (i := 110) (by decide +kernel) (by decide +kernel)
theorem kw_111 : (Jvm.Cond.soleField "GuardVolume$Findings" "told") ∈ gW := gW_of (i := 111) (by decide +kernel) (by decide +kernel)
theorem kw_112 : (Jvm.Cond.superclass "GuardVolume$Findings" "java/lang/Object") ∈ gW := gW_of (i := 112) (by decide +kernel) (by decide +kernel)
theorem kw_113 : (Jvm.Cond.fieldLink "GuardVolume" (12 : Nat) "GuardVolume" "drive0" "LGuardVolume$Drive;") ∈ gW := gW_of (i := 113) (by decide +kernel) (by decide +kernel)
theorem kw_114 : (Jvm.Cond.fieldLink "GuardVolume" (16 : Nat) "GuardVolume" "drive1" "LGuardVolume$Drive;") ∈ gW := gW_of (i := 114) (by decide +kernel) (by decide +kernel)
theorem kw_115 : (Jvm.Cond.fieldLink "GuardVolume" (22 : Nat) "GuardVolume" "power" "LGuardVolume$Power;") ∈ gW := gW_of (i := 115) (by decide +kernel) (by decide +kernel)
theorem kw_116 : (Jvm.Cond.fieldLink "GuardVolume" (29 : Nat) "GuardVolume" "journal" "LGuardVolume$Journal;") ∈ gW := gW_of (i := 116) (by decide +kernel) (by decide +kernel)
theorem kw_117 : (Jvm.Cond.fieldLink "GuardVolume" (36 : Nat) "GuardVolume" "found" "LGuardVolume$Findings;") ∈ gW := gW_of (i := 117) (by decide +kernel) (by decide +kernel)
theorem kw_118 : (Jvm.Cond.fieldLink "GuardVolume" (40 : Nat) "GuardVolume" "memory" "[I") ∈ gW := gW_of (i := 118) (by decide +kernel) (by decide +kernel)
theorem kw_119 : (Jvm.Cond.fieldLink "GuardVolume" (44 : Nat) "GuardVolume" "lastCode" "I") ∈ gW := gW_of (i := 119) (by decide +kernel) (by decide +kernel)
theorem kw_120 : (Jvm.Cond.fieldLink "GuardVolume" (48 : Nat) "GuardVolume" "nextScrubbed" "I") ∈ gW := gW_of (i := 120) (by decide +kernel) (by decide +kernel)
theorem kw_121 : (Jvm.Cond.fieldLink "GuardVolume" (51 : Nat) "GuardVolume" "row" "[I") ∈ gW := gW_of (i := 121) (by decide +kernel) (by decide +kernel)
theorem kw_122 : (Jvm.Cond.fieldLink "GuardVolume" (54 : Nat) "GuardVolume" "listWords" "[I") ∈ gW := gW_of (i := 122) (by decide +kernel) (by decide +kernel)
theorem kw_123 : (Jvm.Cond.fieldLink "GuardVolume" (57 : Nat) "GuardVolume" "copyWords" "[I") ∈ gW := gW_of (i := 123) (by decide +kernel) (by decide +kernel)
theorem kw_124 : (Jvm.Cond.laysFinal "GuardVolume" "GuardVolume" "drive0" "LGuardVolume$Drive;") ∈ gW := gW_of (i := 124) (by decide +kernel) (by decide +kernel)
theorem kw_125 : (Jvm.Cond.soleField "GuardVolume" "drive0") ∈ gW := gW_of (i := 125) (by decide +kernel) (by decide +kernel)
theorem kw_126 : (Jvm.Cond.laysFinal "GuardVolume" "GuardVolume" "drive1" "LGuardVolume$Drive;") ∈ gW := gW_of (i := 126) (by decide +kernel) (by decide +kernel)
theorem kw_127 : (Jvm.Cond.soleField "GuardVolume" "drive1") ∈ gW := gW_of (i := 127) (by decide +kernel) (by decide +kernel)
theorem kw_128 : (Jvm.Cond.laysFinal "GuardVolume" "GuardVolume" "power" "LGuardVolume$Power;") ∈ gW := gW_of (i := 128) (by decide +kernel) (by decide +kernel)
theorem kw_129 : (Jvm.Cond.soleField "GuardVolume" "power") ∈ gW := gW_of (i := 129) (by decide +kernel) (by decide +kernel)
theorem kw_130 : (Jvm.Cond.laysFinal "GuardVolume" "GuardVolume" "journal" "LGuardVolume$Journal;") ∈ gW := gW_of (i := 130) (by decide +kernel) (by decide +kernel)
theorem kw_131 : (Jvm.Cond.soleField "GuardVolume" "journal") ∈ gW := gW_of (i := 131) (by decide +kernel) (by decide +kernel)
theorem kw_132 : (Jvm.Cond.laysFinal "GuardVolume" "GuardVolume" "found" "LGuardVolume$Findings;") ∈ gW := gW_of (i := 132) (by decide +kernel) (by decide +kernel)
theorem kw_133 : (Jvm.Cond.soleField "GuardVolume" "found") ∈ gW := gW_of (i := 133) (by decide +kernel) (by decide +kernel)
theorem kw_134 : (Jvm.Cond.laysFinal "GuardVolume" "GuardVolume" "memory" "[I") ∈ gW := gW_of (i := 134) (by decide +kernel) (by decide +kernel)
theorem kw_135 : (Jvm.Cond.soleField "GuardVolume" "memory") ∈ gW := gW_of (i := 135) (by decide +kernel) (by decide +kernel)
theorem kw_136 : (Jvm.Cond.lays "GuardVolume" "GuardVolume" "lastCode" "I") ∈ gW := gW_of (i := 136) (by decide +kernel) (by decide +kernel)
theorem kw_137 : (Jvm.Cond.soleField "GuardVolume" "lastCode") ∈ gW := gW_of (i := 137) (by decide +kernel) (by decide +kernel)
theorem kw_138 : (Jvm.Cond.lays "GuardVolume" "GuardVolume" "nextScrubbed" "I") ∈ gW := gW_of (i := 138) (by decide +kernel) (by decide +kernel)
theorem kw_139 : (Jvm.Cond.soleField "GuardVolume" "nextScrubbed") ∈ gW := gW_of (i := 139) (by decide +kernel) (by decide +kernel)
theorem kw_140 : (Jvm.Cond.laysFinal "GuardVolume" "GuardVolume" "row" "[I") ∈ gW := gW_of (i := 140) (by decide +kernel) (by decide +kernel)
theorem kw_141 : (Jvm.Cond.soleField "GuardVolume" "row") ∈ gW := gW_of (i := 141) (by decide +kernel) (by decide +kernel)
theorem kw_142 : (Jvm.Cond.laysFinal "GuardVolume" "GuardVolume" "listWords" "[I") ∈ gW := gW_of (i := 142) (by decide +kernel) (by decide +kernel)
theorem kw_143 : (Jvm.Cond.soleField "GuardVolume" "listWords") ∈ gW := gW_of (i := 143) (by decide +kernel) (by decide +kernel)
theorem kw_144 : (Jvm.Cond.laysFinal "GuardVolume" "GuardVolume" "copyWords" "[I") ∈ gW := gW_of (i := 144) (by decide +kernel) (by decide +kernel)
theorem kw_145 : (Jvm.Cond.soleField "GuardVolume" "copyWords") ∈ gW := gW_of (i := 145) (by decide +kernel) (by decide +kernel)
theorem kw_146 : (Jvm.Cond.superclass "GuardVolume" "java/lang/Object") ∈ gW := gW_of (i := 146) (by decide +kernel) (by decide +kernel)
theorem kw_147 : (Jvm.Cond.methodLink "GuardVolumeLaw" (83 : Nat) ({ cls := "GuardVolume", name := "code", desc := "()I" } : Jvm.MethodName)) ∈ gW := gW_of (i := 147) (by decide +kernel) (by decide +kernel)
theorem kw_148 : (Jvm.Cond.instanceMethod ({ cls := "GuardVolume", name := "code", desc := "()I" } : Jvm.MethodName)) ∈ gW := gW_of (i := 148) (by decide +kernel) (by decide +kernel)
theorem kw_149 : (Jvm.Cond.selects "GuardVolume" ({ cls := "GuardVolume", name := "code", desc := "()I" } : Jvm.MethodName) ({ cls := "GuardVolume", name := "code", desc := "()I" } : Jvm.MethodName)) ∈ gW := gW_of (i := 149) (by decide +kernel) (by decide +kernel)
theorem kw_150 : (Jvm.Cond.code ({ cls := "GuardVolume", name := "code", desc := "()I" } : Jvm.MethodName) prog_1_method_4_code (1 : Nat) (Option.some Jvm.ClassFile.FieldType.int)) ∈ gW := gW_of (i := 150) (by decide +kernel) (by decide +kernel)
theorem kw_151 : (Jvm.Cond.methodLink "GuardVolumeLaw" (103 : Nat) ({ cls := "GuardVolume", name := "findings", desc := "(Z)I" } : Jvm.MethodName)) ∈ gW := gW_of (i := 151) (by decide +kernel) (by decide +kernel)
theorem kw_152 : (Jvm.Cond.instanceMethod ({ cls := "GuardVolume", name := "findings", desc := "(Z)I" } : Jvm.MethodName)) ∈ gW := gW_of (i := 152) (by decide +kernel) (by decide +kernel)
theorem kw_153 : (Jvm.Cond.selects "GuardVolume" ({ cls := "GuardVolume", name := "findings", desc := "(Z)I" } : Jvm.MethodName) ({ cls := "GuardVolume", name := "findings", desc := "(Z)I" } : Jvm.MethodName)) ∈ gW := gW_of (i := 153) (by decide +kernel) (by decide +kernel)
theorem kw_154 : (Jvm.Cond.code ({ cls := "GuardVolume", name := "findings", desc := "(Z)I" } : Jvm.MethodName) prog_1_method_9_code (3 : Nat) (Option.some Jvm.ClassFile.FieldType.int)) ∈ gW := gW_of (i := 154) (by decide +kernel) (by decide +kernel)
theorem kw_155 : (Jvm.Cond.methodLink "GuardVolumeLaw" (70 : Nat) ({ cls := "GuardVolumeLaw", name := "write", desc := "(LGuardVolume;III[J)I" } : Jvm.MethodName)) ∈ gW := gW_of (i := 155) (by decide +kernel) (by decide +kernel)
theorem kw_156 : (Jvm.Cond.static ({ cls := "GuardVolumeLaw", name := "write", desc := "(LGuardVolume;III[J)I" } : Jvm.MethodName)) ∈ gW := gW_of (i := 156) (by decide +kernel) (by decide +kernel)
theorem kw_157 : (Jvm.Cond.codeWith ({ cls := "GuardVolumeLaw", name := "write", desc := "(LGuardVolume;III[J)I" } : Jvm.MethodName) method_3_code (6 : Nat) (Option.some Jvm.ClassFile.FieldType.int) [((0 : Nat), (12 : Nat), (15 : Nat), (13 : Nat)), ((0 : Nat), (12 : Nat), (19 : Nat), (15 : Nat)), ((0 : Nat), (12 : Nat), (23 : Nat), (17 : Nat))]) ∈ gW := gW_of (i := 157) (by decide +kernel) (by decide +kernel)
theorem kw_158 : (Jvm.Cond.classLink "GuardVolumeLaw" (13 : Nat) "java/lang/IndexOutOfBoundsException") ∈ gW := gW_of (i := 158) (by decide +kernel) (by decide +kernel)
theorem kw_159 : (Jvm.Cond.classLink "GuardVolumeLaw" (15 : Nat) "java/lang/IllegalStateException") ∈ gW := gW_of (i := 159) (by decide +kernel) (by decide +kernel)
theorem kw_160 : (Jvm.Cond.classLink "GuardVolumeLaw" (17 : Nat) "java/lang/UnsupportedOperationException") ∈ gW := gW_of (i := 160) (by decide +kernel) (by decide +kernel)
theorem kw_161 : (Jvm.Cond.methodLink "GuardVolumeLaw" (7 : Nat) ({ cls := "GuardVolume", name := "write", desc := "(III)I" } : Jvm.MethodName)) ∈ gW := gW_of (i := 161) (by decide +kernel) (by decide +kernel)
theorem kw_162 : (Jvm.Cond.instanceMethod ({ cls := "GuardVolume", name := "write", desc := "(III)I" } : Jvm.MethodName)) ∈ gW := gW_of (i := 162) (by decide +kernel) (by decide +kernel)
theorem kw_163 : (Jvm.Cond.selects "GuardVolume" ({ cls := "GuardVolume", name := "write", desc := "(III)I" } : Jvm.MethodName) ({ cls := "GuardVolume", name := "write", desc := "(III)I" } : Jvm.MethodName)) ∈ gW := gW_of (i := 163) (by decide +kernel) (by decide +kernel)
theorem kw_164 : (Jvm.Cond.code ({ cls := "GuardVolume", name := "write", desc := "(III)I" } : Jvm.MethodName) prog_1_method_2_code (5 : Nat) (Option.some Jvm.ClassFile.FieldType.int)) ∈ gW := gW_of (i := 164) (by decide +kernel) (by decide +kernel)
theorem kw_165 : (Jvm.Cond.methodLink "GuardVolume" (60 : Nat) ({ cls := "GuardVolume", name := "isBelow", desc := "(II)Z" } : Jvm.MethodName)) ∈ gW := gW_of (i := 165) (by decide +kernel) (by decide +kernel)
theorem kw_166 : (Jvm.Cond.static ({ cls := "GuardVolume", name := "isBelow", desc := "(II)Z" } : Jvm.MethodName)) ∈ gW := gW_of (i := 166) (by decide +kernel) (by decide +kernel)
theorem kw_167 : (Jvm.Cond.code ({ cls := "GuardVolume", name := "isBelow", desc := "(II)Z" } : Jvm.MethodName) prog_1_method_18_code (2 : Nat) (Option.some Jvm.ClassFile.FieldType.boolean)) ∈ gW := gW_of (i := 167) (by decide +kernel) (by decide +kernel)
theorem kw_168 : (Jvm.Cond.classLink "GuardVolume" (64 : Nat) "java/lang/IndexOutOfBoundsException") ∈ gW := gW_of (i := 168) (by decide +kernel) (by decide +kernel)
theorem kw_169 : (Jvm.Cond.instantiable "java/lang/IndexOutOfBoundsException" (6 : Nat)) ∈ gW := gW_of (i := 169) (by decide +kernel) (by decide +kernel)
theorem kw_177 : (Jvm.Cond.selects "java/lang/IndexOutOfBoundsException" ({ cls := "java/lang/Throwable", name := "fillInStackTrace", desc := "(I)Ljava/lang/Throwable;" } : Jvm.MethodName) ({ cls := "java/lang/Throwable", name := "fillInStackTrace", desc := "(I)Ljava/lang/Throwable;" } : Jvm.MethodName)) ∈ gW := gW_of (i := 177) (by decide +kernel) (by decide +kernel)
theorem kw_178 : (Jvm.Cond.selects "java/lang/IndexOutOfBoundsException" ({ cls := "java/lang/Throwable", name := "fillInStackTrace", desc := "()Ljava/lang/Throwable;" } : Jvm.MethodName) ({ cls := "java/lang/Throwable", name := "fillInStackTrace", desc := "()Ljava/lang/Throwable;" } : Jvm.MethodName)) ∈ gW := gW_of (i := 178) (by decide +kernel) (by decide +kernel)
theorem kw_179 : (Jvm.Cond.lays "java/lang/IndexOutOfBoundsException" "java/lang/Throwable" "cause" "Ljava/lang/Throwable;") ∈ gW := gW_of (i := 179) (by decide +kernel) (by decide +kernel)
theorem kw_180 : (Jvm.Cond.lays "java/lang/Throwable" "java/lang/Throwable" "cause" "Ljava/lang/Throwable;") ∈ gW := gW_of (i := 180) (by decide +kernel) (by decide +kernel)
theorem kw_181 : (Jvm.Cond.lays "java/lang/IndexOutOfBoundsException" "java/lang/Throwable" "stackTrace" "[Ljava/lang/StackTraceElement;") ∈ gW := gW_of (i := 181) (by decide +kernel) (by decide +kernel)
theorem kw_182 : (Jvm.Cond.lays "java/lang/Throwable" "java/lang/Throwable" "stackTrace" "[Ljava/lang/StackTraceElement;") ∈ gW := gW_of (i := 182) (by decide +kernel) (by decide +kernel)
theorem kw_183 : (Jvm.Cond.lays "java/lang/IndexOutOfBoundsException" "java/lang/Throwable" "suppressedExceptions" "Ljava/util/List;") ∈ gW := gW_of (i := 183) (by decide +kernel) (by decide +kernel)
theorem kw_184 : (Jvm.Cond.lays "java/lang/Throwable" "java/lang/Throwable" "suppressedExceptions" "Ljava/util/List;") ∈ gW := gW_of (i := 184) (by decide +kernel) (by decide +kernel)
theorem kw_185 : (Jvm.Cond.lays "java/lang/IndexOutOfBoundsException" "java/lang/Throwable" "detailMessage" "Ljava/lang/String;") ∈ gW := gW_of (i := 185) (by decide +kernel) (by decide +kernel)
theorem kw_186 : (Jvm.Cond.lays "java/lang/Throwable" "java/lang/Throwable" "detailMessage" "Ljava/lang/String;") ∈ gW := gW_of (i := 186) (by decide +kernel) (by decide +kernel)
theorem kw_187 : (Jvm.Cond.lays "java/lang/IndexOutOfBoundsException" "java/lang/Throwable" "backtrace" "Ljava/lang/Object;") ∈ gW := gW_of (i := 187) (by decide +kernel) (by decide +kernel)
theorem kw_188 : (Jvm.Cond.lays "java/lang/Throwable" "java/lang/Throwable" "backtrace" "Ljava/lang/Object;") ∈ gW := gW_of (i := 188) (by decide +kernel) (by decide +kernel)
theorem kw_189 : (Jvm.Cond.fieldLink "java/lang/Throwable" (198 : Nat) "java/lang/Throwable" "backtrace" "Ljava/lang/Object;") ∈ gW := gW_of (i := 189) (by decide +kernel) (by decide +kernel)
theorem kw_190 : (Jvm.Cond.superclass "java/lang/Throwable" "java/lang/Object") ∈ gW := gW_of (i := 190) (by decide +kernel) (by decide +kernel)
theorem kw_191 : (Jvm.Cond.instanceMethod ({ cls := "java/lang/Throwable", name := "<init>", desc := "()V" } : Jvm.MethodName)) ∈ gW := gW_of (i := 191) (by decide +kernel) (by decide +kernel)
theorem kw_192 : (Jvm.Cond.code ({ cls := "java/lang/Throwable", name := "<init>", desc := "()V" } : Jvm.MethodName) prog_15_method_1_code (1 : Nat) (Option.none : Option Jvm.ClassFile.FieldType)) ∈ gW := gW_of (i := 192) (by decide +kernel) (by decide +kernel)
theorem kw_193 : (Jvm.Cond.methodLink "java/lang/Throwable" (1 : Nat) ({ cls := "java/lang/Object", name := "<init>", desc := "()V" } : Jvm.MethodName)) ∈ gW := gW_of (i := 193) (by decide +kernel) (by decide +kernel)
theorem kw_194 : (Jvm.Cond.fieldLink "java/lang/Throwable" (13 : Nat) "java/lang/Throwable" "UNASSIGNED_STACK" "[Ljava/lang/StackTraceElement;") ∈ gW := gW_of (i := 194) (by decide +kernel) (by decide +kernel)
theorem kw_196 : (Jvm.Cond.fieldLink "java/lang/Throwable" (20 : Nat) "java/lang/Throwable" "SUPPRESSED_SENTINEL" "Ljava/util/List;") ∈ gW := gW_of (i := 196) (by decide +kernel) (by decide +kernel)
theorem kw_198 : (Jvm.Cond.methodLink "java/lang/Throwable" (27 : Nat) ({ cls := "java/lang/Throwable", name := "fillInStackTrace", desc := "()Ljava/lang/Throwable;" } : Jvm.MethodName)) ∈ gW := gW_of (i := 198) (by decide +kernel) (by decide +kernel)
theorem kw_199 : (Jvm.Cond.instanceMethod ({ cls := "java/lang/Throwable", name := "fillInStackTrace", desc := "()Ljava/lang/Throwable;" } : Jvm.MethodName)) ∈ gW := gW_of (i := 199) (by decide +kernel) (by decide +kernel)
theorem kw_200 : (Jvm.Cond.sameMethod "java/lang/Throwable" "java/lang/Throwable" "fillInStackTrace" "()Ljava/lang/Throwable;") ∈ gW := gW_of (i := 200) (by decide +kernel) (by decide +kernel)
theorem kw_201 : (Jvm.Cond.selects "java/lang/IllegalArgumentException" ({ cls := "java/lang/Throwable", name := "fillInStackTrace", desc := "()Ljava/lang/Throwable;" } : Jvm.MethodName) ({ cls := "java/lang/Throwable", name := "fillInStackTrace", desc := "()Ljava/lang/Throwable;" } : Jvm.MethodName)) ∈ gW := gW_of (i := 201) (by decide +kernel) (by decide +kernel)
theorem kw_202 : (Jvm.Cond.selects "java/lang/IllegalStateException" ({ cls := "java/lang/Throwable", name := "fillInStackTrace", desc := "()Ljava/lang/Throwable;" } : Jvm.MethodName) ({ cls := "java/lang/Throwable", name := "fillInStackTrace", desc := "()Ljava/lang/Throwable;" } : Jvm.MethodName)) ∈ gW := gW_of (i := 202) (by decide +kernel) (by decide +kernel)
theorem kw_203 : (Jvm.Cond.selects "java/lang/UnsupportedOperationException" ({ cls := "java/lang/Throwable", name := "fillInStackTrace", desc := "()Ljava/lang/Throwable;" } : Jvm.MethodName) ({ cls := "java/lang/Throwable", name := "fillInStackTrace", desc := "()Ljava/lang/Throwable;" } : Jvm.MethodName)) ∈ gW := gW_of (i := 203) (by decide +kernel) (by decide +kernel)
theorem kw_205 : (Jvm.Cond.methodLink "java/lang/Throwable" (202 : Nat) ({ cls := "java/lang/Throwable", name := "fillInStackTrace", desc := "(I)Ljava/lang/Throwable;" } : Jvm.MethodName)) ∈ gW := gW_of (i := 205) (by decide +kernel) (by decide +kernel)
theorem kw_207 : (Jvm.Cond.instanceMethod ({ cls := "java/lang/Throwable", name := "fillInStackTrace", desc := "(I)Ljava/lang/Throwable;" } : Jvm.MethodName)) ∈ gW := gW_of (i := 207) (by decide +kernel) (by decide +kernel)
theorem kw_208 : (Jvm.Cond.instantiable "java/lang/Throwable" (6 : Nat)) ∈ gW := gW_of (i := 208) (by decide +kernel) (by decide +kernel)
theorem kw_209 : (Jvm.Cond.native ({ cls := "java/lang/Throwable", name := "fillInStackTrace", desc := "(I)Ljava/lang/Throwable;" } : Jvm.MethodName)) ∈ gW := gW_of (i := 209) (by decide +kernel) (by decide +kernel)
theorem kw_210 : (Jvm.Cond.methodLink "GuardVolume" (66 : Nat) ({ cls := "java/lang/IndexOutOfBoundsException", name := "<init>", desc := "()V" } : Jvm.MethodName)) ∈ gW := gW_of (i := 210) (by decide +kernel) (by decide +kernel)
theorem kw_211 : (Jvm.Cond.instanceMethod ({ cls := "java/lang/IndexOutOfBoundsException", name := "<init>", desc := "()V" } : Jvm.MethodName)) ∈ gW := gW_of (i := 211) (by decide +kernel) (by decide +kernel)
theorem kw_212 : (Jvm.Cond.code ({ cls := "java/lang/IndexOutOfBoundsException", name := "<init>", desc := "()V" } : Jvm.MethodName) prog_11_method_1_code (1 : Nat) (Option.none : Option Jvm.ClassFile.FieldType)) ∈ gW := gW_of (i := 212) (by decide +kernel) (by decide +kernel)
theorem kw_213 : (Jvm.Cond.methodLink "java/lang/IndexOutOfBoundsException" (1 : Nat) ({ cls := "java/lang/RuntimeException", name := "<init>", desc := "()V" } : Jvm.MethodName)) ∈ gW := gW_of (i := 213) (by decide +kernel) (by decide +kernel)
theorem kw_214 : (Jvm.Cond.instanceMethod ({ cls := "java/lang/RuntimeException", name := "<init>", desc := "()V" } : Jvm.MethodName)) ∈ gW := gW_of (i := 214) (by decide +kernel) (by decide +kernel)
theorem kw_215 : (Jvm.Cond.code ({ cls := "java/lang/RuntimeException", name := "<init>", desc := "()V" } : Jvm.MethodName) prog_13_method_1_code (1 : Nat) (Option.none : Option Jvm.ClassFile.FieldType)) ∈ gW := gW_of (i := 215) (by decide +kernel) (by decide +kernel)
theorem kw_216 : (Jvm.Cond.methodLink "java/lang/RuntimeException" (1 : Nat) ({ cls := "java/lang/Exception", name := "<init>", desc := "()V" } : Jvm.MethodName)) ∈ gW := gW_of (i := 216) (by decide +kernel) (by decide +kernel)
theorem kw_217 : (Jvm.Cond.instanceMethod ({ cls := "java/lang/Exception", name := "<init>", desc := "()V" } : Jvm.MethodName)) ∈ gW := gW_of (i := 217) (by decide +kernel) (by decide +kernel)
theorem kw_218 : (Jvm.Cond.code ({ cls := "java/lang/Exception", name := "<init>", desc := "()V" } : Jvm.MethodName) prog_8_method_1_code (1 : Nat) (Option.none : Option Jvm.ClassFile.FieldType)) ∈ gW := gW_of (i := 218) (by decide +kernel) (by decide +kernel)
theorem kw_219 : (Jvm.Cond.methodLink "java/lang/Exception" (1 : Nat) ({ cls := "java/lang/Throwable", name := "<init>", desc := "()V" } : Jvm.MethodName)) ∈ gW := gW_of (i := 219) (by decide +kernel) (by decide +kernel)
theorem kw_220 : (Jvm.Cond.fieldLink "java/lang/Throwable" (198 : Nat) "java/lang/Throwable" "backtrace" "Ljava/lang/Object;") ∈ gW := gW_of (i := 220) (by decide +kernel) (by decide +kernel)
theorem kw_221 : (Jvm.Cond.fieldLink "java/lang/Throwable" (7 : Nat) "java/lang/Throwable" "cause" "Ljava/lang/Throwable;") ∈ gW := gW_of (i := 221) (by decide +kernel) (by decide +kernel)
theorem kw_222 : (Jvm.Cond.fieldLink "java/lang/Throwable" (17 : Nat) "java/lang/Throwable" "stackTrace" "[Ljava/lang/StackTraceElement;") ∈ gW := gW_of (i := 222) (by decide +kernel) (by decide +kernel)
theorem kw_223 : (Jvm.Cond.fieldLink "java/lang/Throwable" (24 : Nat) "java/lang/Throwable" "suppressedExceptions" "Ljava/util/List;") ∈ gW := gW_of (i := 223) (by decide +kernel) (by decide +kernel)
theorem kw_224 : (Jvm.Cond.soleField "java/lang/Throwable" "backtrace") ∈ gW := gW_of (i := 224) (by decide +kernel) (by decide +kernel)
theorem kw_225 : (Jvm.Cond.soleField "java/lang/Throwable" "detailMessage") ∈ gW := gW_of (i := 225) (by decide +kernel) (by decide +kernel)
theorem kw_226 : (Jvm.Cond.soleField "java/lang/Throwable" "cause") ∈ gW := gW_of (i := 226) (by decide +kernel) (by decide +kernel)
theorem kw_227 : (Jvm.Cond.soleField "java/lang/Throwable" "stackTrace") ∈ gW := gW_of (i := 227) (by decide +kernel) (by decide +kernel)
theorem kw_228 : (Jvm.Cond.lays "java/lang/IndexOutOfBoundsException" "java/lang/Throwable" "depth" "I") ∈ gW := gW_of (i := 228) (by decide +kernel) (by decide +kernel)
theorem kw_229 : (Jvm.Cond.soleField "java/lang/Throwable" "depth") ∈ gW := gW_of (i := 229) (by decide +kernel) (by decide +kernel)
theorem kw_230 : (Jvm.Cond.soleField "java/lang/Throwable" "suppressedExceptions") ∈ gW := gW_of (i := 230) (by decide +kernel) (by decide +kernel)
theorem kw_231 : (Jvm.Cond.superclass "java/lang/IndexOutOfBoundsException" "java/lang/RuntimeException") ∈ gW := gW_of (i := 231) (by decide +kernel) (by decide +kernel)
theorem kw_232 : (Jvm.Cond.classLink "GuardVolume" (71 : Nat) "java/lang/IllegalStateException") ∈ gW := gW_of (i := 232) (by decide +kernel) (by decide +kernel)
theorem kw_233 : (Jvm.Cond.instantiable "java/lang/IllegalStateException" (6 : Nat)) ∈ gW := gW_of (i := 233) (by decide +kernel) (by decide +kernel)
theorem kw_235 : (Jvm.Cond.selects "java/lang/IllegalStateException" ({ cls := "java/lang/Throwable", name := "fillInStackTrace", desc := "(I)Ljava/lang/Throwable;" } : Jvm.MethodName) ({ cls := "java/lang/Throwable", name := "fillInStackTrace", desc := "(I)Ljava/lang/Throwable;" } : Jvm.MethodName)) ∈ gW := gW_of (i := 235) (by decide +kernel) (by decide +kernel)
theorem kw_236 : (Jvm.Cond.lays "java/lang/IllegalStateException" "java/lang/Throwable" "cause" "Ljava/lang/Throwable;") ∈ gW := gW_of (i := 236) (by decide +kernel) (by decide +kernel)
theorem kw_237 : (Jvm.Cond.lays "java/lang/IllegalStateException" "java/lang/Throwable" "stackTrace" "[Ljava/lang/StackTraceElement;") ∈ gW := gW_of (i := 237) (by decide +kernel) (by decide +kernel)
theorem kw_238 : (Jvm.Cond.lays "java/lang/IllegalStateException" "java/lang/Throwable" "suppressedExceptions" "Ljava/util/List;") ∈ gW := gW_of (i := 238) (by decide +kernel) (by decide +kernel)
theorem kw_239 : (Jvm.Cond.lays "java/lang/IllegalStateException" "java/lang/Throwable" "detailMessage" "Ljava/lang/String;") ∈ gW := gW_of (i := 239) (by decide +kernel) (by decide +kernel)
theorem kw_240 : (Jvm.Cond.lays "java/lang/IllegalStateException" "java/lang/Throwable" "backtrace" "Ljava/lang/Object;") ∈ gW := gW_of (i := 240) (by decide +kernel) (by decide +kernel)
theorem kw_241 : (Jvm.Cond.methodLink "GuardVolume" (73 : Nat) ({ cls := "java/lang/IllegalStateException", name := "<init>", desc := "()V" } : Jvm.MethodName)) ∈ gW := gW_of (i := 241) (by decide +kernel) (by decide +kernel)
theorem kw_242 : (Jvm.Cond.instanceMethod ({ cls := "java/lang/IllegalStateException", name := "<init>", desc := "()V" } : Jvm.MethodName)) ∈ gW := gW_of (i := 242) (by decide +kernel) (by decide +kernel)
theorem kw_243 : (Jvm.Cond.code ({ cls := "java/lang/IllegalStateException", name := "<init>", desc := "()V" } : Jvm.MethodName) prog_10_method_1_code (1 : Nat) (Option.none : Option Jvm.ClassFile.FieldType)) ∈ gW := gW_of (i := 243) (by decide +kernel) (by decide +kernel)
theorem kw_244 : (Jvm.Cond.methodLink "java/lang/IllegalStateException" (1 : Nat) ({ cls := "java/lang/RuntimeException", name := "<init>", desc := "()V" } : Jvm.MethodName)) ∈ gW := gW_of (i := 244) (by decide +kernel) (by decide +kernel)
theorem kw_245 : (Jvm.Cond.lays "java/lang/IllegalStateException" "java/lang/Throwable" "depth" "I") ∈ gW := gW_of (i := 245) (by decide +kernel) (by decide +kernel)
theorem kw_246 : (Jvm.Cond.superclass "java/lang/IllegalStateException" "java/lang/RuntimeException") ∈ gW := gW_of (i := 246) (by decide +kernel) (by decide +kernel)
theorem kw_247 : (Jvm.Cond.methodLink "GuardVolume" (74 : Nat) ({ cls := "GuardVolume", name := "goodCopy", desc := "(I)I" } : Jvm.MethodName)) ∈ gW := gW_of (i := 247) (by decide +kernel) (by decide +kernel)
theorem kw_249 : (Jvm.Cond.instanceMethod ({ cls := "GuardVolume", name := "goodCopy", desc := "(I)I" } : Jvm.MethodName)) ∈ gW := gW_of (i := 249) (by decide +kernel) (by decide +kernel)
theorem kw_250 : (Jvm.Cond.code ({ cls := "GuardVolume", name := "goodCopy", desc := "(I)I" } : Jvm.MethodName) prog_1_method_26_code (2 : Nat) (Option.some Jvm.ClassFile.FieldType.int)) ∈ gW := gW_of (i := 250) (by decide +kernel) (by decide +kernel)
theorem kw_251 : (Jvm.Cond.methodLink "GuardVolume" (147 : Nat) ({ cls := "GuardVolume", name := "judge", desc := "(II)I" } : Jvm.MethodName)) ∈ gW := gW_of (i := 251) (by decide +kernel) (by decide +kernel)
theorem kw_253 : (Jvm.Cond.instanceMethod ({ cls := "GuardVolume", name := "judge", desc := "(II)I" } : Jvm.MethodName)) ∈ gW := gW_of (i := 253) (by decide +kernel) (by decide +kernel)
theorem kw_254 : (Jvm.Cond.code ({ cls := "GuardVolume", name := "judge", desc := "(II)I" } : Jvm.MethodName) prog_1_method_25_code (6 : Nat) (Option.some Jvm.ClassFile.FieldType.int)) ∈ gW := gW_of (i := 254) (by decide +kernel) (by decide +kernel)
theorem kw_255 : (Jvm.Cond.methodLink "GuardVolume" (78 : Nat) ({ cls := "GuardVolume", name := "driveOf", desc := "(I)LGuardVolume$Drive;" } : Jvm.MethodName)) ∈ gW := gW_of (i := 255) (by decide +kernel) (by decide +kernel)
theorem kw_257 : (Jvm.Cond.instanceMethod ({ cls := "GuardVolume", name := "driveOf", desc := "(I)LGuardVolume$Drive;" } : Jvm.MethodName)) ∈ gW := gW_of (i := 257) (by decide +kernel) (by decide +kernel)
theorem kw_258 : (Jvm.Cond.code ({ cls := "GuardVolume", name := "driveOf", desc := "(I)LGuardVolume$Drive;" } : Jvm.MethodName) prog_1_method_21_code (2 : Nat) (Option.some (Jvm.ClassFile.FieldType.object "GuardVolume$Drive"))) ∈ gW := gW_of (i := 258) (by decide +kernel) (by decide +kernel)
theorem kn_259 : (Jvm.Cond.methodLinkNest "GuardVolume" (82 : Nat) ({ cls := "GuardVolume$Drive", name := "at", desc := "(II)I" } : Jvm.MethodName) "GuardVolume") ∈ nW := nW_of (i := 259) (by decide +kernel) rfl
theorem kw_261 : (Jvm.Cond.instanceMethod ({ cls := "GuardVolume$Drive", name := "at", desc := "(II)I" } : Jvm.MethodName)) ∈ gW := gW_of (i := 261) (by decide +kernel) (by decide +kernel)
theorem kw_262 : (Jvm.Cond.code ({ cls := "GuardVolume$Drive", name := "at", desc := "(II)I" } : Jvm.MethodName) prog_2_method_2_code (3 : Nat) (Option.some Jvm.ClassFile.FieldType.int)) ∈ gW := gW_of (i := 262) (by decide +kernel) (by decide +kernel)
theorem kw_263 : (Jvm.Cond.methodLink "GuardVolume" (165 : Nat) ({ cls := "GuardVolume", name := "sumOf", desc := "([II)I" } : Jvm.MethodName)) ∈ gW := gW_of (i := 263) (by decide +kernel) (by decide +kernel)
theorem kw_264 : (Jvm.Cond.methodLink "GuardVolume" (144 : Nat) ({ cls := "GuardVolume", name := "expectedVersion", desc := "(II)I" } : Jvm.MethodName)) ∈ gW := gW_of (i := 264) (by decide +kernel) (by decide +kernel)
theorem kw_266 : (Jvm.Cond.instanceMethod ({ cls := "GuardVolume", name := "expectedVersion", desc := "(II)I" } : Jvm.MethodName)) ∈ gW := gW_of (i := 266) (by decide +kernel) (by decide +kernel)
theorem kw_267 : (Jvm.Cond.code ({ cls := "GuardVolume", name := "expectedVersion", desc := "(II)I" } : Jvm.MethodName) prog_1_method_24_code (5 : Nat) (Option.some Jvm.ClassFile.FieldType.int)) ∈ gW := gW_of (i := 267) (by decide +kernel) (by decide +kernel)
theorem kw_268 : (Jvm.Cond.methodLink "GuardVolume" (169 : Nat) ({ cls := "GuardVolume", name := "listDrive", desc := "(II)I" } : Jvm.MethodName)) ∈ gW := gW_of (i := 268) (by decide +kernel) (by decide +kernel)
theorem kw_270 : (Jvm.Cond.instanceMethod ({ cls := "GuardVolume", name := "listDrive", desc := "(II)I" } : Jvm.MethodName)) ∈ gW := gW_of (i := 270) (by decide +kernel) (by decide +kernel)
theorem kw_271 : (Jvm.Cond.code ({ cls := "GuardVolume", name := "listDrive", desc := "(II)I" } : Jvm.MethodName) prog_1_method_23_code (3 : Nat) (Option.some Jvm.ClassFile.FieldType.int)) ∈ gW := gW_of (i := 271) (by decide +kernel) (by decide +kernel)
theorem kw_272 : (Jvm.Cond.methodLink "GuardVolume" (150 : Nat) ({ cls := "GuardVolume", name := "isPageRight", desc := "(II)Z" } : Jvm.MethodName)) ∈ gW := gW_of (i := 272) (by decide +kernel) (by decide +kernel)
theorem kw_274 : (Jvm.Cond.instanceMethod ({ cls := "GuardVolume", name := "isPageRight", desc := "(II)Z" } : Jvm.MethodName)) ∈ gW := gW_of (i := 274) (by decide +kernel) (by decide +kernel)
theorem kw_275 : (Jvm.Cond.code ({ cls := "GuardVolume", name := "isPageRight", desc := "(II)Z" } : Jvm.MethodName) prog_1_method_22_code (5 : Nat) (Option.some Jvm.ClassFile.FieldType.boolean)) ∈ gW := gW_of (i := 275) (by decide +kernel) (by decide +kernel)
theorem kw_276 : (Jvm.Cond.classLink "GuardVolume" (86 : Nat) "java/lang/UnsupportedOperationException") ∈ gW := gW_of (i := 276) (by decide +kernel) (by decide +kernel)
theorem kw_277 : (Jvm.Cond.instantiable "java/lang/UnsupportedOperationException" (6 : Nat)) ∈ gW := gW_of (i := 277) (by decide +kernel) (by decide +kernel)
theorem kw_279 : (Jvm.Cond.selects "java/lang/UnsupportedOperationException" ({ cls := "java/lang/Throwable", name := "fillInStackTrace", desc := "(I)Ljava/lang/Throwable;" } : Jvm.MethodName) ({ cls := "java/lang/Throwable", name := "fillInStackTrace", desc := "(I)Ljava/lang/Throwable;" } : Jvm.MethodName)) ∈ gW := gW_of (i := 279) (by decide +kernel) (by decide +kernel)
theorem kw_280 : (Jvm.Cond.lays "java/lang/UnsupportedOperationException" "java/lang/Throwable" "cause" "Ljava/lang/Throwable;") ∈ gW := gW_of (i := 280) (by decide +kernel) (by decide +kernel)
theorem kw_281 : (Jvm.Cond.lays "java/lang/UnsupportedOperationException" "java/lang/Throwable" "stackTrace" "[Ljava/lang/StackTraceElement;") ∈ gW := gW_of (i := 281) (by decide +kernel) (by decide +kernel)
theorem kw_282 : (Jvm.Cond.lays "java/lang/UnsupportedOperationException" "java/lang/Throwable" "suppressedExceptions" "Ljava/util/List;") ∈ gW := gW_of (i := 282) (by decide +kernel) (by decide +kernel)
theorem kw_283 : (Jvm.Cond.lays "java/lang/UnsupportedOperationException" "java/lang/Throwable" "detailMessage" "Ljava/lang/String;") ∈ gW := gW_of (i := 283) (by decide +kernel) (by decide +kernel)
theorem kw_284 : (Jvm.Cond.lays "java/lang/UnsupportedOperationException" "java/lang/Throwable" "backtrace" "Ljava/lang/Object;") ∈ gW := gW_of (i := 284) (by decide +kernel) (by decide +kernel)
theorem kw_285 : (Jvm.Cond.methodLink "GuardVolume" (88 : Nat) ({ cls := "java/lang/UnsupportedOperationException", name := "<init>", desc := "()V" } : Jvm.MethodName)) ∈ gW := gW_of (i := 285) (by decide +kernel) (by decide +kernel)
theorem kw_286 : (Jvm.Cond.instanceMethod ({ cls := "java/lang/UnsupportedOperationException", name := "<init>", desc := "()V" } : Jvm.MethodName)) ∈ gW := gW_of (i := 286) (by decide +kernel) (by decide +kernel)
theorem kw_287 : (Jvm.Cond.code ({ cls := "java/lang/UnsupportedOperationException", name := "<init>", desc := "()V" } : Jvm.MethodName) prog_16_method_1_code (1 : Nat) (Option.none : Option Jvm.ClassFile.FieldType)) ∈ gW := gW_of (i := 287) (by decide +kernel) (by decide +kernel)
theorem kw_288 : (Jvm.Cond.methodLink "java/lang/UnsupportedOperationException" (1 : Nat) ({ cls := "java/lang/RuntimeException", name := "<init>", desc := "()V" } : Jvm.MethodName)) ∈ gW := gW_of (i := 288) (by decide +kernel) (by decide +kernel)
theorem kw_289 : (Jvm.Cond.lays "java/lang/UnsupportedOperationException" "java/lang/Throwable" "depth" "I") ∈ gW := gW_of (i := 289) (by decide +kernel) (by decide +kernel)
theorem kw_290 : (Jvm.Cond.superclass "java/lang/UnsupportedOperationException" "java/lang/RuntimeException") ∈ gW := gW_of (i := 290) (by decide +kernel) (by decide +kernel)
theorem kw_291 : (Jvm.Cond.methodLink "GuardVolume" (89 : Nat) ({ cls := "GuardVolume", name := "codeOf", desc := "(I)I" } : Jvm.MethodName)) ∈ gW := gW_of (i := 291) (by decide +kernel) (by decide +kernel)
theorem kw_292 : (Jvm.Cond.static ({ cls := "GuardVolume", name := "codeOf", desc := "(I)I" } : Jvm.MethodName)) ∈ gW := gW_of (i := 292) (by decide +kernel) (by decide +kernel)
theorem kw_293 : (Jvm.Cond.code ({ cls := "GuardVolume", name := "codeOf", desc := "(I)I" } : Jvm.MethodName) prog_1_method_27_code (1 : Nat) (Option.some Jvm.ClassFile.FieldType.int)) ∈ gW := gW_of (i := 293) (by decide +kernel) (by decide +kernel)
theorem kn_294 : (Jvm.Cond.methodLinkNest "GuardVolume" (95 : Nat) ({ cls := "GuardVolume$Drive", name := "giveWords", desc := "(I[I)V" } : Jvm.MethodName) "GuardVolume") ∈ nW := nW_of (i := 294) (by decide +kernel) rfl
theorem kw_296 : (Jvm.Cond.instanceMethod ({ cls := "GuardVolume$Drive", name := "giveWords", desc := "(I[I)V" } : Jvm.MethodName)) ∈ gW := gW_of (i := 296) (by decide +kernel) (by decide +kernel)
theorem kw_297 : (Jvm.Cond.code ({ cls := "GuardVolume$Drive", name := "giveWords", desc := "(I[I)V" } : Jvm.MethodName) prog_2_method_3_code (3 : Nat) (Option.none : Option Jvm.ClassFile.FieldType)) ∈ gW := gW_of (i := 297) (by decide +kernel) (by decide +kernel)
theorem kw_298 : (Jvm.Cond.methodLink "GuardVolume" (105 : Nat) ({ cls := "GuardVolume", name := "putNotedBlock", desc := "()Z" } : Jvm.MethodName)) ∈ gW := gW_of (i := 298) (by decide +kernel) (by decide +kernel)
theorem kw_300 : (Jvm.Cond.instanceMethod ({ cls := "GuardVolume", name := "putNotedBlock", desc := "()Z" } : Jvm.MethodName)) ∈ gW := gW_of (i := 300) (by decide +kernel) (by decide +kernel)
theorem kw_301 : (Jvm.Cond.code ({ cls := "GuardVolume", name := "putNotedBlock", desc := "()Z" } : Jvm.MethodName) prog_1_method_31_code (2 : Nat) (Option.some Jvm.ClassFile.FieldType.boolean)) ∈ gW := gW_of (i := 301) (by decide +kernel) (by decide +kernel)
theorem kw_302 : (Jvm.Cond.methodLink "GuardVolume" (197 : Nat) ({ cls := "GuardVolume", name := "putCopy", desc := "(II[II)Z" } : Jvm.MethodName)) ∈ gW := gW_of (i := 302) (by decide +kernel) (by decide +kernel)
theorem kw_304 : (Jvm.Cond.instanceMethod ({ cls := "GuardVolume", name := "putCopy", desc := "(II[II)Z" } : Jvm.MethodName)) ∈ gW := gW_of (i := 304) (by decide +kernel) (by decide +kernel)
theorem kw_305 : (Jvm.Cond.code ({ cls := "GuardVolume", name := "putCopy", desc := "(II[II)Z" } : Jvm.MethodName) prog_1_method_30_code (5 : Nat) (Option.some Jvm.ClassFile.FieldType.boolean)) ∈ gW := gW_of (i := 305) (by decide +kernel) (by decide +kernel)
theorem kw_306 : (Jvm.Cond.methodLink "GuardVolume" (190 : Nat) ({ cls := "GuardVolume", name := "store", desc := "(II[II)Z" } : Jvm.MethodName)) ∈ gW := gW_of (i := 306) (by decide +kernel) (by decide +kernel)
theorem kw_308 : (Jvm.Cond.instanceMethod ({ cls := "GuardVolume", name := "store", desc := "(II[II)Z" } : Jvm.MethodName)) ∈ gW := gW_of (i := 308) (by decide +kernel) (by decide +kernel)
theorem kw_309 : (Jvm.Cond.code ({ cls := "GuardVolume", name := "store", desc := "(II[II)Z" } : Jvm.MethodName) prog_1_method_28_code (5 : Nat) (Option.some Jvm.ClassFile.FieldType.boolean)) ∈ gW := gW_of (i := 309) (by decide +kernel) (by decide +kernel)
theorem kn_310 : (Jvm.Cond.methodLinkNest "GuardVolume" (172 : Nat) ({ cls := "GuardVolume$Power", name := "allowsWrite", desc := "()Z" } : Jvm.MethodName) "GuardVolume") ∈ nW := nW_of (i := 310) (by decide +kernel) rfl
theorem kw_312 : (Jvm.Cond.instanceMethod ({ cls := "GuardVolume$Power", name := "allowsWrite", desc := "()Z" } : Jvm.MethodName)) ∈ gW := gW_of (i := 312) (by decide +kernel) (by decide +kernel)
theorem kw_313 : (Jvm.Cond.code ({ cls := "GuardVolume$Power", name := "allowsWrite", desc := "()Z" } : Jvm.MethodName) prog_5_method_2_code (1 : Nat) (Option.some Jvm.ClassFile.FieldType.boolean)) ∈ gW := gW_of (i := 313) (by decide +kernel) (by decide +kernel)
theorem kw_314 : (Jvm.Cond.methodLink "GuardVolume" (175 : Nat) ({ cls := "java/lang/System", name := "arraycopy", desc := "(Ljava/lang/Object;ILjava/lang/Object;II)V" } : Jvm.MethodName)) ∈ gW := gW_of (i := 314) (by decide +kernel) (by decide +kernel)
theorem kn_315 : (Jvm.Cond.methodLinkNest "GuardVolume" (181 : Nat) ({ cls := "GuardVolume$Drive", name := "take", desc := "(I[I)V" } : Jvm.MethodName) "GuardVolume") ∈ nW := nW_of (i := 315) (by decide +kernel) rfl
theorem kw_317 : (Jvm.Cond.instanceMethod ({ cls := "GuardVolume$Drive", name := "take", desc := "(I[I)V" } : Jvm.MethodName)) ∈ gW := gW_of (i := 317) (by decide +kernel) (by decide +kernel)
theorem kw_318 : (Jvm.Cond.code ({ cls := "GuardVolume$Drive", name := "take", desc := "(I[I)V" } : Jvm.MethodName) prog_2_method_8_code (6 : Nat) (Option.none : Option Jvm.ClassFile.FieldType)) ∈ gW := gW_of (i := 318) (by decide +kernel) (by decide +kernel)
theorem kw_319 : (Jvm.Cond.methodLink "GuardVolume$Drive" (47 : Nat) ({ cls := "GuardVolume$Drive", name := "planOfNext", desc := "(I)I" } : Jvm.MethodName)) ∈ gW := gW_of (i := 319) (by decide +kernel) (by decide +kernel)
theorem kw_321 : (Jvm.Cond.instanceMethod ({ cls := "GuardVolume$Drive", name := "planOfNext", desc := "(I)I" } : Jvm.MethodName)) ∈ gW := gW_of (i := 321) (by decide +kernel) (by decide +kernel)
theorem kw_322 : (Jvm.Cond.code ({ cls := "GuardVolume$Drive", name := "planOfNext", desc := "(I)I" } : Jvm.MethodName) prog_2_method_5_code (3 : Nat) (Option.some Jvm.ClassFile.FieldType.int)) ∈ gW := gW_of (i := 322) (by decide +kernel) (by decide +kernel)
theorem kw_323 : (Jvm.Cond.methodLink "GuardVolume$Drive" (51 : Nat) ({ cls := "GuardVolume$Drive", name := "keep", desc := "(I[II)V" } : Jvm.MethodName)) ∈ gW := gW_of (i := 323) (by decide +kernel) (by decide +kernel)
theorem kw_325 : (Jvm.Cond.instanceMethod ({ cls := "GuardVolume$Drive", name := "keep", desc := "(I[II)V" } : Jvm.MethodName)) ∈ gW := gW_of (i := 325) (by decide +kernel) (by decide +kernel)
theorem kw_326 : (Jvm.Cond.code ({ cls := "GuardVolume$Drive", name := "keep", desc := "(I[II)V" } : Jvm.MethodName) prog_2_method_9_code (4 : Nat) (Option.none : Option Jvm.ClassFile.FieldType)) ∈ gW := gW_of (i := 326) (by decide +kernel) (by decide +kernel)
theorem kw_327 : (Jvm.Cond.methodLink "GuardVolume$Drive" (55 : Nat) ({ cls := "GuardVolume$Drive", name := "removePlan", desc := "(I)V" } : Jvm.MethodName)) ∈ gW := gW_of (i := 327) (by decide +kernel) (by decide +kernel)
theorem kw_329 : (Jvm.Cond.instanceMethod ({ cls := "GuardVolume$Drive", name := "removePlan", desc := "(I)V" } : Jvm.MethodName)) ∈ gW := gW_of (i := 329) (by decide +kernel) (by decide +kernel)
theorem kw_330 : (Jvm.Cond.code ({ cls := "GuardVolume$Drive", name := "removePlan", desc := "(I)V" } : Jvm.MethodName) prog_2_method_7_code (2 : Nat) (Option.none : Option Jvm.ClassFile.FieldType)) ∈ gW := gW_of (i := 330) (by decide +kernel) (by decide +kernel)
theorem kw_331 : (Jvm.Cond.methodLink "GuardVolume" (194 : Nat) ({ cls := "GuardVolume", name := "storeList", desc := "(III)Z" } : Jvm.MethodName)) ∈ gW := gW_of (i := 331) (by decide +kernel) (by decide +kernel)
theorem kw_333 : (Jvm.Cond.instanceMethod ({ cls := "GuardVolume", name := "storeList", desc := "(III)Z" } : Jvm.MethodName)) ∈ gW := gW_of (i := 333) (by decide +kernel) (by decide +kernel)
theorem kw_334 : (Jvm.Cond.code ({ cls := "GuardVolume", name := "storeList", desc := "(III)Z" } : Jvm.MethodName) prog_1_method_29_code (8 : Nat) (Option.some Jvm.ClassFile.FieldType.boolean)) ∈ gW := gW_of (i := 334) (by decide +kernel) (by decide +kernel)
theorem kw_335 : (Jvm.Cond.methodLink "GuardVolume" (184 : Nat) ({ cls := "java/util/Arrays", name := "fill", desc := "([II)V" } : Jvm.MethodName)) ∈ gW := gW_of (i := 335) (by decide +kernel) (by decide +kernel)
theorem kw_336 : (Jvm.Cond.static ({ cls := "java/util/Arrays", name := "fill", desc := "([II)V" } : Jvm.MethodName)) ∈ gW := gW_of (i := 336) (by decide +kernel) (by decide +kernel)
theorem kw_337 : (Jvm.Cond.code ({ cls := "java/util/Arrays", name := "fill", desc := "([II)V" } : Jvm.MethodName) prog_17_method_103_code (4 : Nat) (Option.none : Option Jvm.ClassFile.FieldType)) ∈ gW := gW_of (i := 337) (by decide +kernel) (by decide +kernel)
theorem kw_338 : (Jvm.Cond.methodLink "GuardVolumeLaw" (79 : Nat) ({ cls := "GuardVolumeLaw", name := "read", desc := "(LGuardVolume;II[J)I" } : Jvm.MethodName)) ∈ gW := gW_of (i := 338) (by decide +kernel) (by decide +kernel)
theorem kw_339 : (Jvm.Cond.static ({ cls := "GuardVolumeLaw", name := "read", desc := "(LGuardVolume;II[J)I" } : Jvm.MethodName)) ∈ gW := gW_of (i := 339) (by decide +kernel) (by decide +kernel)
theorem kw_340 : (Jvm.Cond.codeWith ({ cls := "GuardVolumeLaw", name := "read", desc := "(LGuardVolume;II[J)I" } : Jvm.MethodName) method_4_code (5 : Nat) (Option.some Jvm.ClassFile.FieldType.int) [((0 : Nat), (10 : Nat), (13 : Nat), (13 : Nat)), ((0 : Nat), (10 : Nat), (17 : Nat), (15 : Nat))]) ∈ gW := gW_of (i := 340) (by decide +kernel) (by decide +kernel)
theorem kw_341 : (Jvm.Cond.methodLink "GuardVolumeLaw" (19 : Nat) ({ cls := "GuardVolume", name := "read", desc := "(II)I" } : Jvm.MethodName)) ∈ gW := gW_of (i := 341) (by decide +kernel) (by decide +kernel)
theorem kw_342 : (Jvm.Cond.instanceMethod ({ cls := "GuardVolume", name := "read", desc := "(II)I" } : Jvm.MethodName)) ∈ gW := gW_of (i := 342) (by decide +kernel) (by decide +kernel)
theorem kw_343 : (Jvm.Cond.selects "GuardVolume" ({ cls := "GuardVolume", name := "read", desc := "(II)I" } : Jvm.MethodName) ({ cls := "GuardVolume", name := "read", desc := "(II)I" } : Jvm.MethodName)) ∈ gW := gW_of (i := 343) (by decide +kernel) (by decide +kernel)
theorem kw_344 : (Jvm.Cond.code ({ cls := "GuardVolume", name := "read", desc := "(II)I" } : Jvm.MethodName) prog_1_method_3_code (4 : Nat) (Option.some Jvm.ClassFile.FieldType.int)) ∈ gW := gW_of (i := 344) (by decide +kernel) (by decide +kernel)
theorem kw_345 : (Jvm.Cond.methodLink "GuardVolumeLaw" (87 : Nat) ({ cls := "GuardVolumeLaw", name := "plan", desc := "(LGuardVolume;IIII)I" } : Jvm.MethodName)) ∈ gW := gW_of (i := 345) (by decide +kernel) (by decide +kernel)
theorem kw_346 : (Jvm.Cond.static ({ cls := "GuardVolumeLaw", name := "plan", desc := "(LGuardVolume;IIII)I" } : Jvm.MethodName)) ∈ gW := gW_of (i := 346) (by decide +kernel) (by decide +kernel)
theorem kw_347 : (Jvm.Cond.codeWith ({ cls := "GuardVolumeLaw", name := "plan", desc := "(LGuardVolume;IIII)I" } : Jvm.MethodName) method_5_code (6 : Nat) (Option.some Jvm.ClassFile.FieldType.int) [((0 : Nat), (9 : Nat), (12 : Nat), (13 : Nat)), ((0 : Nat), (9 : Nat), (16 : Nat), (27 : Nat)), ((0 : Nat), (9 : Nat), (20 : Nat), (17 : Nat))]) ∈ gW := gW_of (i := 347) (by decide +kernel) (by decide +kernel)
theorem kw_348 : (Jvm.Cond.classLink "GuardVolumeLaw" (27 : Nat) "java/lang/IllegalArgumentException") ∈ gW := gW_of (i := 348) (by decide +kernel) (by decide +kernel)
theorem kw_349 : (Jvm.Cond.methodLink "GuardVolumeLaw" (23 : Nat) ({ cls := "GuardVolume", name := "plan", desc := "(IIII)V" } : Jvm.MethodName)) ∈ gW := gW_of (i := 349) (by decide +kernel) (by decide +kernel)
theorem kw_350 : (Jvm.Cond.instanceMethod ({ cls := "GuardVolume", name := "plan", desc := "(IIII)V" } : Jvm.MethodName)) ∈ gW := gW_of (i := 350) (by decide +kernel) (by decide +kernel)
theorem kw_351 : (Jvm.Cond.selects "GuardVolume" ({ cls := "GuardVolume", name := "plan", desc := "(IIII)V" } : Jvm.MethodName) ({ cls := "GuardVolume", name := "plan", desc := "(IIII)V" } : Jvm.MethodName)) ∈ gW := gW_of (i := 351) (by decide +kernel) (by decide +kernel)
theorem kw_352 : (Jvm.Cond.code ({ cls := "GuardVolume", name := "plan", desc := "(IIII)V" } : Jvm.MethodName) prog_1_method_5_code (5 : Nat) (Option.none : Option Jvm.ClassFile.FieldType)) ∈ gW := gW_of (i := 352) (by decide +kernel) (by decide +kernel)
theorem kw_353 : (Jvm.Cond.methodLink "GuardVolume" (109 : Nat) ({ cls := "GuardVolume", name := "isPlan", desc := "(II)Z" } : Jvm.MethodName)) ∈ gW := gW_of (i := 353) (by decide +kernel) (by decide +kernel)
theorem kw_354 : (Jvm.Cond.static ({ cls := "GuardVolume", name := "isPlan", desc := "(II)Z" } : Jvm.MethodName)) ∈ gW := gW_of (i := 354) (by decide +kernel) (by decide +kernel)
theorem kw_355 : (Jvm.Cond.code ({ cls := "GuardVolume", name := "isPlan", desc := "(II)Z" } : Jvm.MethodName) prog_1_method_19_code (2 : Nat) (Option.some Jvm.ClassFile.FieldType.boolean)) ∈ gW := gW_of (i := 355) (by decide +kernel) (by decide +kernel)
theorem kn_356 : (Jvm.Cond.methodLinkNest "GuardVolume" (112 : Nat) ({ cls := "GuardVolume$Drive", name := "planOfNext", desc := "(I)I" } : Jvm.MethodName) "GuardVolume") ∈ nW := nW_of (i := 356) (by decide +kernel) rfl
theorem kw_357 : (Jvm.Cond.classLink "GuardVolume" (115 : Nat) "java/lang/IllegalArgumentException") ∈ gW := gW_of (i := 357) (by decide +kernel) (by decide +kernel)
theorem kw_358 : (Jvm.Cond.instantiable "java/lang/IllegalArgumentException" (6 : Nat)) ∈ gW := gW_of (i := 358) (by decide +kernel) (by decide +kernel)
theorem kw_360 : (Jvm.Cond.selects "java/lang/IllegalArgumentException" ({ cls := "java/lang/Throwable", name := "fillInStackTrace", desc := "(I)Ljava/lang/Throwable;" } : Jvm.MethodName) ({ cls := "java/lang/Throwable", name := "fillInStackTrace", desc := "(I)Ljava/lang/Throwable;" } : Jvm.MethodName)) ∈ gW := gW_of (i := 360) (by decide +kernel) (by decide +kernel)
theorem kw_361 : (Jvm.Cond.lays "java/lang/IllegalArgumentException" "java/lang/Throwable" "cause" "Ljava/lang/Throwable;") ∈ gW := gW_of (i := 361) (by decide +kernel) (by decide +kernel)
theorem kw_362 : (Jvm.Cond.lays "java/lang/IllegalArgumentException" "java/lang/Throwable" "stackTrace" "[Ljava/lang/StackTraceElement;") ∈ gW := gW_of (i := 362) (by decide +kernel) (by decide +kernel)
theorem kw_363 : (Jvm.Cond.lays "java/lang/IllegalArgumentException" "java/lang/Throwable" "suppressedExceptions" "Ljava/util/List;") ∈ gW := gW_of (i := 363) (by decide +kernel) (by decide +kernel)
theorem kw_364 : (Jvm.Cond.lays "java/lang/IllegalArgumentException" "java/lang/Throwable" "detailMessage" "Ljava/lang/String;") ∈ gW := gW_of (i := 364) (by decide +kernel) (by decide +kernel)
theorem kw_365 : (Jvm.Cond.lays "java/lang/IllegalArgumentException" "java/lang/Throwable" "backtrace" "Ljava/lang/Object;") ∈ gW := gW_of (i := 365) (by decide +kernel) (by decide +kernel)
theorem kw_366 : (Jvm.Cond.methodLink "GuardVolume" (117 : Nat) ({ cls := "java/lang/IllegalArgumentException", name := "<init>", desc := "()V" } : Jvm.MethodName)) ∈ gW := gW_of (i := 366) (by decide +kernel) (by decide +kernel)
theorem kw_367 : (Jvm.Cond.instanceMethod ({ cls := "java/lang/IllegalArgumentException", name := "<init>", desc := "()V" } : Jvm.MethodName)) ∈ gW := gW_of (i := 367) (by decide +kernel) (by decide +kernel)
theorem kw_368 : (Jvm.Cond.code ({ cls := "java/lang/IllegalArgumentException", name := "<init>", desc := "()V" } : Jvm.MethodName) prog_9_method_1_code (1 : Nat) (Option.none : Option Jvm.ClassFile.FieldType)) ∈ gW := gW_of (i := 368) (by decide +kernel) (by decide +kernel)
theorem kw_369 : (Jvm.Cond.methodLink "java/lang/IllegalArgumentException" (1 : Nat) ({ cls := "java/lang/RuntimeException", name := "<init>", desc := "()V" } : Jvm.MethodName)) ∈ gW := gW_of (i := 369) (by decide +kernel) (by decide +kernel)
theorem kw_370 : (Jvm.Cond.lays "java/lang/IllegalArgumentException" "java/lang/Throwable" "depth" "I") ∈ gW := gW_of (i := 370) (by decide +kernel) (by decide +kernel)
theorem kw_371 : (Jvm.Cond.superclass "java/lang/IllegalArgumentException" "java/lang/RuntimeException") ∈ gW := gW_of (i := 371) (by decide +kernel) (by decide +kernel)
theorem kn_372 : (Jvm.Cond.methodLinkNest "GuardVolume" (121 : Nat) ({ cls := "GuardVolume$Drive", name := "addPlan", desc := "(III)V" } : Jvm.MethodName) "GuardVolume") ∈ nW := nW_of (i := 372) (by decide +kernel) rfl
theorem kw_374 : (Jvm.Cond.instanceMethod ({ cls := "GuardVolume$Drive", name := "addPlan", desc := "(III)V" } : Jvm.MethodName)) ∈ gW := gW_of (i := 374) (by decide +kernel) (by decide +kernel)
theorem kw_375 : (Jvm.Cond.code ({ cls := "GuardVolume$Drive", name := "addPlan", desc := "(III)V" } : Jvm.MethodName) prog_2_method_6_code (4 : Nat) (Option.none : Option Jvm.ClassFile.FieldType)) ∈ gW := gW_of (i := 375) (by decide +kernel) (by decide +kernel)
theorem kw_376 : (Jvm.Cond.methodLink "GuardVolumeLaw" (91 : Nat) ({ cls := "GuardVolumeLaw", name := "cutAfter", desc := "(LGuardVolume;I)I" } : Jvm.MethodName)) ∈ gW := gW_of (i := 376) (by decide +kernel) (by decide +kernel)
theorem kw_377 : (Jvm.Cond.static ({ cls := "GuardVolumeLaw", name := "cutAfter", desc := "(LGuardVolume;I)I" } : Jvm.MethodName)) ∈ gW := gW_of (i := 377) (by decide +kernel) (by decide +kernel)
theorem kw_378 : (Jvm.Cond.codeWith ({ cls := "GuardVolumeLaw", name := "cutAfter", desc := "(LGuardVolume;I)I" } : Jvm.MethodName) method_6_code (3 : Nat) (Option.some Jvm.ClassFile.FieldType.int) [((0 : Nat), (5 : Nat), (8 : Nat), (27 : Nat)), ((0 : Nat), (5 : Nat), (11 : Nat), (15 : Nat))]) ∈ gW := gW_of (i := 378) (by decide +kernel) (by decide +kernel)
theorem kw_379 : (Jvm.Cond.methodLink "GuardVolumeLaw" (29 : Nat) ({ cls := "GuardVolume", name := "cutAfter", desc := "(I)V" } : Jvm.MethodName)) ∈ gW := gW_of (i := 379) (by decide +kernel) (by decide +kernel)
theorem kw_380 : (Jvm.Cond.instanceMethod ({ cls := "GuardVolume", name := "cutAfter", desc := "(I)V" } : Jvm.MethodName)) ∈ gW := gW_of (i := 380) (by decide +kernel) (by decide +kernel)
theorem kw_381 : (Jvm.Cond.selects "GuardVolume" ({ cls := "GuardVolume", name := "cutAfter", desc := "(I)V" } : Jvm.MethodName) ({ cls := "GuardVolume", name := "cutAfter", desc := "(I)V" } : Jvm.MethodName)) ∈ gW := gW_of (i := 381) (by decide +kernel) (by decide +kernel)
theorem kw_382 : (Jvm.Cond.code ({ cls := "GuardVolume", name := "cutAfter", desc := "(I)V" } : Jvm.MethodName) prog_1_method_6_code (2 : Nat) (Option.none : Option Jvm.ClassFile.FieldType)) ∈ gW := gW_of (i := 382) (by decide +kernel) (by decide +kernel)
theorem kw_383 : (Jvm.Cond.methodLink "GuardVolumeLaw" (95 : Nat) ({ cls := "GuardVolumeLaw", name := "start", desc := "(LGuardVolume;[J)I" } : Jvm.MethodName)) ∈ gW := gW_of (i := 383) (by decide +kernel) (by decide +kernel)
theorem kw_384 : (Jvm.Cond.static ({ cls := "GuardVolumeLaw", name := "start", desc := "(LGuardVolume;[J)I" } : Jvm.MethodName)) ∈ gW := gW_of (i := 384) (by decide +kernel) (by decide +kernel)
theorem kw_385 : (Jvm.Cond.codeWith ({ cls := "GuardVolumeLaw", name := "start", desc := "(LGuardVolume;[J)I" } : Jvm.MethodName) method_7_code (3 : Nat) (Option.some Jvm.ClassFile.FieldType.int) [((0 : Nat), (8 : Nat), (11 : Nat), (15 : Nat))]) ∈ gW := gW_of (i := 385) (by decide +kernel) (by decide +kernel)
theorem kw_386 : (Jvm.Cond.methodLink "GuardVolumeLaw" (33 : Nat) ({ cls := "GuardVolume", name := "start", desc := "()I" } : Jvm.MethodName)) ∈ gW := gW_of (i := 386) (by decide +kernel) (by decide +kernel)
theorem kw_387 : (Jvm.Cond.instanceMethod ({ cls := "GuardVolume", name := "start", desc := "()I" } : Jvm.MethodName)) ∈ gW := gW_of (i := 387) (by decide +kernel) (by decide +kernel)
theorem kw_388 : (Jvm.Cond.selects "GuardVolume" ({ cls := "GuardVolume", name := "start", desc := "()I" } : Jvm.MethodName) ({ cls := "GuardVolume", name := "start", desc := "()I" } : Jvm.MethodName)) ∈ gW := gW_of (i := 388) (by decide +kernel) (by decide +kernel)
theorem kw_389 : (Jvm.Cond.code ({ cls := "GuardVolume", name := "start", desc := "()I" } : Jvm.MethodName) prog_1_method_7_code (2 : Nat) (Option.some Jvm.ClassFile.FieldType.int)) ∈ gW := gW_of (i := 389) (by decide +kernel) (by decide +kernel)
theorem kw_390 : (Jvm.Cond.methodLink "GuardVolumeLaw" (99 : Nat) ({ cls := "GuardVolumeLaw", name := "scrub", desc := "(LGuardVolume;I[J)I" } : Jvm.MethodName)) ∈ gW := gW_of (i := 390) (by decide +kernel) (by decide +kernel)
theorem kw_391 : (Jvm.Cond.static ({ cls := "GuardVolumeLaw", name := "scrub", desc := "(LGuardVolume;I[J)I" } : Jvm.MethodName)) ∈ gW := gW_of (i := 391) (by decide +kernel) (by decide +kernel)
theorem kw_392 : (Jvm.Cond.codeWith ({ cls := "GuardVolumeLaw", name := "scrub", desc := "(LGuardVolume;I[J)I" } : Jvm.MethodName) method_8_code (4 : Nat) (Option.some Jvm.ClassFile.FieldType.int) [((0 : Nat), (9 : Nat), (12 : Nat), (15 : Nat)), ((0 : Nat), (9 : Nat), (15 : Nat), (27 : Nat))]) ∈ gW := gW_of (i := 392) (by decide +kernel) (by decide +kernel)
theorem kw_393 : (Jvm.Cond.methodLink "GuardVolumeLaw" (37 : Nat) ({ cls := "GuardVolume", name := "scrub", desc := "(I)I" } : Jvm.MethodName)) ∈ gW := gW_of (i := 393) (by decide +kernel) (by decide +kernel)
theorem kw_394 : (Jvm.Cond.instanceMethod ({ cls := "GuardVolume", name := "scrub", desc := "(I)I" } : Jvm.MethodName)) ∈ gW := gW_of (i := 394) (by decide +kernel) (by decide +kernel)
theorem kw_395 : (Jvm.Cond.selects "GuardVolume" ({ cls := "GuardVolume", name := "scrub", desc := "(I)I" } : Jvm.MethodName) ({ cls := "GuardVolume", name := "scrub", desc := "(I)I" } : Jvm.MethodName)) ∈ gW := gW_of (i := 395) (by decide +kernel) (by decide +kernel)
theorem kw_396 : (Jvm.Cond.code ({ cls := "GuardVolume", name := "scrub", desc := "(I)I" } : Jvm.MethodName) prog_1_method_8_code (4 : Nat) (Option.some Jvm.ClassFile.FieldType.int)) ∈ gW := gW_of (i := 396) (by decide +kernel) (by decide +kernel)
theorem kw_397 : (Jvm.Cond.methodLink "GuardVolume" (134 : Nat) ({ cls := "GuardVolume", name := "scrubBlock", desc := "(I)Z" } : Jvm.MethodName)) ∈ gW := gW_of (i := 397) (by decide +kernel) (by decide +kernel)
theorem kw_399 : (Jvm.Cond.instanceMethod ({ cls := "GuardVolume", name := "scrubBlock", desc := "(I)Z" } : Jvm.MethodName)) ∈ gW := gW_of (i := 399) (by decide +kernel) (by decide +kernel)
theorem kw_400 : (Jvm.Cond.code ({ cls := "GuardVolume", name := "scrubBlock", desc := "(I)Z" } : Jvm.MethodName) prog_1_method_32_code (2 : Nat) (Option.some Jvm.ClassFile.FieldType.boolean)) ∈ gW := gW_of (i := 400) (by decide +kernel) (by decide +kernel)
theorem kw_401 : (Jvm.Cond.methodLink "GuardVolume" (200 : Nat) ({ cls := "GuardVolume", name := "mendList", desc := "(II)Z" } : Jvm.MethodName)) ∈ gW := gW_of (i := 401) (by decide +kernel) (by decide +kernel)
theorem kw_403 : (Jvm.Cond.instanceMethod ({ cls := "GuardVolume", name := "mendList", desc := "(II)Z" } : Jvm.MethodName)) ∈ gW := gW_of (i := 403) (by decide +kernel) (by decide +kernel)
theorem kw_404 : (Jvm.Cond.code ({ cls := "GuardVolume", name := "mendList", desc := "(II)Z" } : Jvm.MethodName) prog_1_method_33_code (5 : Nat) (Option.some Jvm.ClassFile.FieldType.boolean)) ∈ gW := gW_of (i := 404) (by decide +kernel) (by decide +kernel)
theorem kn_405 : (Jvm.Cond.methodLinkNest "GuardVolume" (206 : Nat) ({ cls := "GuardVolume$Findings", name := "tell", desc := "(IIII)V" } : Jvm.MethodName) "GuardVolume") ∈ nW := nW_of (i := 405) (by decide +kernel) rfl
theorem kw_407 : (Jvm.Cond.instanceMethod ({ cls := "GuardVolume$Findings", name := "tell", desc := "(IIII)V" } : Jvm.MethodName)) ∈ gW := gW_of (i := 407) (by decide +kernel) (by decide +kernel)
theorem kw_408 : (Jvm.Cond.code ({ cls := "GuardVolume$Findings", name := "tell", desc := "(IIII)V" } : Jvm.MethodName) prog_3_method_2_code (6 : Nat) (Option.none : Option Jvm.ClassFile.FieldType)) ∈ gW := gW_of (i := 408) (by decide +kernel) (by decide +kernel)
theorem kw_409 : (Jvm.Cond.methodLink "GuardVolume" (203 : Nat) ({ cls := "GuardVolume", name := "mendCopies", desc := "(I)Z" } : Jvm.MethodName)) ∈ gW := gW_of (i := 409) (by decide +kernel) (by decide +kernel)
theorem kw_411 : (Jvm.Cond.instanceMethod ({ cls := "GuardVolume", name := "mendCopies", desc := "(I)Z" } : Jvm.MethodName)) ∈ gW := gW_of (i := 411) (by decide +kernel) (by decide +kernel)
theorem kw_412 : (Jvm.Cond.code ({ cls := "GuardVolume", name := "mendCopies", desc := "(I)Z" } : Jvm.MethodName) prog_1_method_34_code (5 : Nat) (Option.some Jvm.ClassFile.FieldType.boolean)) ∈ gW := gW_of (i := 412) (by decide +kernel) (by decide +kernel)
theorem kw_413 : (Jvm.Cond.methodLink "GuardVolumeLaw" (108 : Nat) ({ cls := "GuardVolumeLaw", name := "finding", desc := "(LGuardVolume;II[J)I" } : Jvm.MethodName)) ∈ gW := gW_of (i := 413) (by decide +kernel) (by decide +kernel)
theorem kw_414 : (Jvm.Cond.static ({ cls := "GuardVolumeLaw", name := "finding", desc := "(LGuardVolume;II[J)I" } : Jvm.MethodName)) ∈ gW := gW_of (i := 414) (by decide +kernel) (by decide +kernel)
theorem kw_415 : (Jvm.Cond.codeWith ({ cls := "GuardVolumeLaw", name := "finding", desc := "(LGuardVolume;II[J)I" } : Jvm.MethodName) method_9_code (5 : Nat) (Option.some Jvm.ClassFile.FieldType.int) [((0 : Nat), (10 : Nat), (13 : Nat), (13 : Nat))]) ∈ gW := gW_of (i := 415) (by decide +kernel) (by decide +kernel)
theorem kw_416 : (Jvm.Cond.methodLink "GuardVolumeLaw" (41 : Nat) ({ cls := "GuardVolume", name := "finding", desc := "(II)I" } : Jvm.MethodName)) ∈ gW := gW_of (i := 416) (by decide +kernel) (by decide +kernel)
theorem kw_417 : (Jvm.Cond.instanceMethod ({ cls := "GuardVolume", name := "finding", desc := "(II)I" } : Jvm.MethodName)) ∈ gW := gW_of (i := 417) (by decide +kernel) (by decide +kernel)
theorem kw_418 : (Jvm.Cond.selects "GuardVolume" ({ cls := "GuardVolume", name := "finding", desc := "(II)I" } : Jvm.MethodName) ({ cls := "GuardVolume", name := "finding", desc := "(II)I" } : Jvm.MethodName)) ∈ gW := gW_of (i := 418) (by decide +kernel) (by decide +kernel)
theorem kw_419 : (Jvm.Cond.code ({ cls := "GuardVolume", name := "finding", desc := "(II)I" } : Jvm.MethodName) prog_1_method_10_code (3 : Nat) (Option.some Jvm.ClassFile.FieldType.int)) ∈ gW := gW_of (i := 419) (by decide +kernel) (by decide +kernel)
theorem kw_420 : (Jvm.Cond.methodLink "GuardVolumeLaw" (111 : Nat) ({ cls := "GuardVolumeLaw", name := "expected", desc := "(LGuardVolume;II[J)I" } : Jvm.MethodName)) ∈ gW := gW_of (i := 420) (by decide +kernel) (by decide +kernel)
theorem kw_421 : (Jvm.Cond.static ({ cls := "GuardVolumeLaw", name := "expected", desc := "(LGuardVolume;II[J)I" } : Jvm.MethodName)) ∈ gW := gW_of (i := 421) (by decide +kernel) (by decide +kernel)
theorem kw_422 : (Jvm.Cond.codeWith ({ cls := "GuardVolumeLaw", name := "expected", desc := "(LGuardVolume;II[J)I" } : Jvm.MethodName) method_10_code (5 : Nat) (Option.some Jvm.ClassFile.FieldType.int) [((0 : Nat), (10 : Nat), (13 : Nat), (13 : Nat))]) ∈ gW := gW_of (i := 422) (by decide +kernel) (by decide +kernel)
theorem kw_423 : (Jvm.Cond.methodLink "GuardVolumeLaw" (44 : Nat) ({ cls := "GuardVolume", name := "expected", desc := "(II)I" } : Jvm.MethodName)) ∈ gW := gW_of (i := 423) (by decide +kernel) (by decide +kernel)
theorem kw_424 : (Jvm.Cond.instanceMethod ({ cls := "GuardVolume", name := "expected", desc := "(II)I" } : Jvm.MethodName)) ∈ gW := gW_of (i := 424) (by decide +kernel) (by decide +kernel)
theorem kw_425 : (Jvm.Cond.selects "GuardVolume" ({ cls := "GuardVolume", name := "expected", desc := "(II)I" } : Jvm.MethodName) ({ cls := "GuardVolume", name := "expected", desc := "(II)I" } : Jvm.MethodName)) ∈ gW := gW_of (i := 425) (by decide +kernel) (by decide +kernel)
theorem kw_426 : (Jvm.Cond.code ({ cls := "GuardVolume", name := "expected", desc := "(II)I" } : Jvm.MethodName) prog_1_method_11_code (3 : Nat) (Option.some Jvm.ClassFile.FieldType.int)) ∈ gW := gW_of (i := 426) (by decide +kernel) (by decide +kernel)
theorem kw_427 : (Jvm.Cond.methodLink "GuardVolumeLaw" (114 : Nat) ({ cls := "GuardVolumeLaw", name := "verdict", desc := "(LGuardVolume;II[J)I" } : Jvm.MethodName)) ∈ gW := gW_of (i := 427) (by decide +kernel) (by decide +kernel)
theorem kw_428 : (Jvm.Cond.static ({ cls := "GuardVolumeLaw", name := "verdict", desc := "(LGuardVolume;II[J)I" } : Jvm.MethodName)) ∈ gW := gW_of (i := 428) (by decide +kernel) (by decide +kernel)
theorem kw_429 : (Jvm.Cond.codeWith ({ cls := "GuardVolumeLaw", name := "verdict", desc := "(LGuardVolume;II[J)I" } : Jvm.MethodName) method_11_code (5 : Nat) (Option.some Jvm.ClassFile.FieldType.int) [((0 : Nat), (10 : Nat), (13 : Nat), (13 : Nat))]) ∈ gW := gW_of (i := 429) (by decide +kernel) (by decide +kernel)
theorem kw_430 : (Jvm.Cond.methodLink "GuardVolumeLaw" (47 : Nat) ({ cls := "GuardVolume", name := "verdict", desc := "(II)I" } : Jvm.MethodName)) ∈ gW := gW_of (i := 430) (by decide +kernel) (by decide +kernel)
theorem kw_431 : (Jvm.Cond.instanceMethod ({ cls := "GuardVolume", name := "verdict", desc := "(II)I" } : Jvm.MethodName)) ∈ gW := gW_of (i := 431) (by decide +kernel) (by decide +kernel)
theorem kw_432 : (Jvm.Cond.selects "GuardVolume" ({ cls := "GuardVolume", name := "verdict", desc := "(II)I" } : Jvm.MethodName) ({ cls := "GuardVolume", name := "verdict", desc := "(II)I" } : Jvm.MethodName)) ∈ gW := gW_of (i := 432) (by decide +kernel) (by decide +kernel)
theorem kw_433 : (Jvm.Cond.code ({ cls := "GuardVolume", name := "verdict", desc := "(II)I" } : Jvm.MethodName) prog_1_method_12_code (3 : Nat) (Option.some Jvm.ClassFile.FieldType.int)) ∈ gW := gW_of (i := 433) (by decide +kernel) (by decide +kernel)
theorem kw_434 : (Jvm.Cond.methodLink "GuardVolumeLaw" (117 : Nat) ({ cls := "GuardVolumeLaw", name := "isRight", desc := "(LGuardVolume;II[J)I" } : Jvm.MethodName)) ∈ gW := gW_of (i := 434) (by decide +kernel) (by decide +kernel)
theorem kw_435 : (Jvm.Cond.static ({ cls := "GuardVolumeLaw", name := "isRight", desc := "(LGuardVolume;II[J)I" } : Jvm.MethodName)) ∈ gW := gW_of (i := 435) (by decide +kernel) (by decide +kernel)
theorem kw_436 : (Jvm.Cond.codeWith ({ cls := "GuardVolumeLaw", name := "isRight", desc := "(LGuardVolume;II[J)I" } : Jvm.MethodName) method_12_code (5 : Nat) (Option.some Jvm.ClassFile.FieldType.int) [((0 : Nat), (17 : Nat), (20 : Nat), (13 : Nat))]) ∈ gW := gW_of (i := 436) (by decide +kernel) (by decide +kernel)
theorem kw_437 : (Jvm.Cond.methodLink "GuardVolumeLaw" (50 : Nat) ({ cls := "GuardVolume", name := "isRight", desc := "(II)Z" } : Jvm.MethodName)) ∈ gW := gW_of (i := 437) (by decide +kernel) (by decide +kernel)
theorem kw_438 : (Jvm.Cond.instanceMethod ({ cls := "GuardVolume", name := "isRight", desc := "(II)Z" } : Jvm.MethodName)) ∈ gW := gW_of (i := 438) (by decide +kernel) (by decide +kernel)
theorem kw_439 : (Jvm.Cond.selects "GuardVolume" ({ cls := "GuardVolume", name := "isRight", desc := "(II)Z" } : Jvm.MethodName) ({ cls := "GuardVolume", name := "isRight", desc := "(II)Z" } : Jvm.MethodName)) ∈ gW := gW_of (i := 439) (by decide +kernel) (by decide +kernel)
theorem kw_440 : (Jvm.Cond.code ({ cls := "GuardVolume", name := "isRight", desc := "(II)Z" } : Jvm.MethodName) prog_1_method_13_code (3 : Nat) (Option.some Jvm.ClassFile.FieldType.boolean)) ∈ gW := gW_of (i := 440) (by decide +kernel) (by decide +kernel)
theorem kw_441 : (Jvm.Cond.methodLink "GuardVolumeLaw" (120 : Nat) ({ cls := "GuardVolumeLaw", name := "raw", desc := "(LGuardVolume;III[J)I" } : Jvm.MethodName)) ∈ gW := gW_of (i := 441) (by decide +kernel) (by decide +kernel)
theorem kw_442 : (Jvm.Cond.static ({ cls := "GuardVolumeLaw", name := "raw", desc := "(LGuardVolume;III[J)I" } : Jvm.MethodName)) ∈ gW := gW_of (i := 442) (by decide +kernel) (by decide +kernel)
theorem kw_443 : (Jvm.Cond.codeWith ({ cls := "GuardVolumeLaw", name := "raw", desc := "(LGuardVolume;III[J)I" } : Jvm.MethodName) method_13_code (6 : Nat) (Option.some Jvm.ClassFile.FieldType.int) [((0 : Nat), (12 : Nat), (15 : Nat), (13 : Nat))]) ∈ gW := gW_of (i := 443) (by decide +kernel) (by decide +kernel)
theorem kw_444 : (Jvm.Cond.methodLink "GuardVolumeLaw" (54 : Nat) ({ cls := "GuardVolume", name := "raw", desc := "(III)I" } : Jvm.MethodName)) ∈ gW := gW_of (i := 444) (by decide +kernel) (by decide +kernel)
theorem kw_445 : (Jvm.Cond.instanceMethod ({ cls := "GuardVolume", name := "raw", desc := "(III)I" } : Jvm.MethodName)) ∈ gW := gW_of (i := 445) (by decide +kernel) (by decide +kernel)
theorem kw_446 : (Jvm.Cond.selects "GuardVolume" ({ cls := "GuardVolume", name := "raw", desc := "(III)I" } : Jvm.MethodName) ({ cls := "GuardVolume", name := "raw", desc := "(III)I" } : Jvm.MethodName)) ∈ gW := gW_of (i := 446) (by decide +kernel) (by decide +kernel)
theorem kw_447 : (Jvm.Cond.code ({ cls := "GuardVolume", name := "raw", desc := "(III)I" } : Jvm.MethodName) prog_1_method_14_code (4 : Nat) (Option.some Jvm.ClassFile.FieldType.int)) ∈ gW := gW_of (i := 447) (by decide +kernel) (by decide +kernel)
theorem kw_448 : (Jvm.Cond.methodLink "GuardVolumeLaw" (123 : Nat) ({ cls := "GuardVolumeLaw", name := "replace", desc := "(LGuardVolume;I)I" } : Jvm.MethodName)) ∈ gW := gW_of (i := 448) (by decide +kernel) (by decide +kernel)
theorem kw_449 : (Jvm.Cond.static ({ cls := "GuardVolumeLaw", name := "replace", desc := "(LGuardVolume;I)I" } : Jvm.MethodName)) ∈ gW := gW_of (i := 449) (by decide +kernel) (by decide +kernel)
theorem kw_450 : (Jvm.Cond.codeWith ({ cls := "GuardVolumeLaw", name := "replace", desc := "(LGuardVolume;I)I" } : Jvm.MethodName) method_14_code (3 : Nat) (Option.some Jvm.ClassFile.FieldType.int) [((0 : Nat), (5 : Nat), (8 : Nat), (13 : Nat)), ((0 : Nat), (5 : Nat), (11 : Nat), (15 : Nat))]) ∈ gW := gW_of (i := 450) (by decide +kernel) (by decide +kernel)
theorem kw_451 : (Jvm.Cond.methodLink "GuardVolumeLaw" (57 : Nat) ({ cls := "GuardVolume", name := "replace", desc := "(I)V" } : Jvm.MethodName)) ∈ gW := gW_of (i := 451) (by decide +kernel) (by decide +kernel)
theorem kw_452 : (Jvm.Cond.instanceMethod ({ cls := "GuardVolume", name := "replace", desc := "(I)V" } : Jvm.MethodName)) ∈ gW := gW_of (i := 452) (by decide +kernel) (by decide +kernel)
theorem kw_453 : (Jvm.Cond.selects "GuardVolume" ({ cls := "GuardVolume", name := "replace", desc := "(I)V" } : Jvm.MethodName) ({ cls := "GuardVolume", name := "replace", desc := "(I)V" } : Jvm.MethodName)) ∈ gW := gW_of (i := 453) (by decide +kernel) (by decide +kernel)
theorem kw_454 : (Jvm.Cond.code ({ cls := "GuardVolume", name := "replace", desc := "(I)V" } : Jvm.MethodName) prog_1_method_15_code (2 : Nat) (Option.none : Option Jvm.ClassFile.FieldType)) ∈ gW := gW_of (i := 454) (by decide +kernel) (by decide +kernel)
theorem kn_455 : (Jvm.Cond.methodLinkNest "GuardVolume" (153 : Nat) ({ cls := "GuardVolume$Drive", name := "wipe", desc := "()V" } : Jvm.MethodName) "GuardVolume") ∈ nW := nW_of (i := 455) (by decide +kernel) rfl
theorem kw_457 : (Jvm.Cond.instanceMethod ({ cls := "GuardVolume$Drive", name := "wipe", desc := "()V" } : Jvm.MethodName)) ∈ gW := gW_of (i := 457) (by decide +kernel) (by decide +kernel)
theorem kw_458 : (Jvm.Cond.code ({ cls := "GuardVolume$Drive", name := "wipe", desc := "()V" } : Jvm.MethodName) prog_2_method_4_code (1 : Nat) (Option.none : Option Jvm.ClassFile.FieldType)) ∈ gW := gW_of (i := 458) (by decide +kernel) (by decide +kernel)
theorem kw_459 : (Jvm.Cond.methodLink "GuardVolume$Drive" (41 : Nat) ({ cls := "java/util/Arrays", name := "fill", desc := "([II)V" } : Jvm.MethodName)) ∈ gW := gW_of (i := 459) (by decide +kernel) (by decide +kernel)
theorem kw_460 : (Jvm.Cond.methodLink "GuardVolumeLaw" (126 : Nat) ({ cls := "GuardVolumeLaw", name := "rebuild", desc := "(LGuardVolume;I[J)I" } : Jvm.MethodName)) ∈ gW := gW_of (i := 460) (by decide +kernel) (by decide +kernel)
theorem kw_461 : (Jvm.Cond.static ({ cls := "GuardVolumeLaw", name := "rebuild", desc := "(LGuardVolume;I[J)I" } : Jvm.MethodName)) ∈ gW := gW_of (i := 461) (by decide +kernel) (by decide +kernel)
theorem kw_462 : (Jvm.Cond.codeWith ({ cls := "GuardVolumeLaw", name := "rebuild", desc := "(LGuardVolume;I[J)I" } : Jvm.MethodName) method_15_code (4 : Nat) (Option.some Jvm.ClassFile.FieldType.int) [((0 : Nat), (9 : Nat), (12 : Nat), (13 : Nat)), ((0 : Nat), (9 : Nat), (15 : Nat), (15 : Nat))]) ∈ gW := gW_of (i := 462) (by decide +kernel) (by decide +kernel)
theorem kw_463 : (Jvm.Cond.methodLink "GuardVolumeLaw" (60 : Nat) ({ cls := "GuardVolume", name := "rebuild", desc := "(I)I" } : Jvm.MethodName)) ∈ gW := gW_of (i := 463) (by decide +kernel) (by decide +kernel)
theorem kw_464 : (Jvm.Cond.instanceMethod ({ cls := "GuardVolume", name := "rebuild", desc := "(I)I" } : Jvm.MethodName)) ∈ gW := gW_of (i := 464) (by decide +kernel) (by decide +kernel)
theorem kw_465 : (Jvm.Cond.selects "GuardVolume" ({ cls := "GuardVolume", name := "rebuild", desc := "(I)I" } : Jvm.MethodName) ({ cls := "GuardVolume", name := "rebuild", desc := "(I)I" } : Jvm.MethodName)) ∈ gW := gW_of (i := 465) (by decide +kernel) (by decide +kernel)
theorem kw_466 : (Jvm.Cond.code ({ cls := "GuardVolume", name := "rebuild", desc := "(I)I" } : Jvm.MethodName) prog_1_method_16_code (5 : Nat) (Option.some Jvm.ClassFile.FieldType.int)) ∈ gW := gW_of (i := 466) (by decide +kernel) (by decide +kernel)
theorem kw_467 : (Jvm.Cond.methodLink "GuardVolume" (156 : Nat) ({ cls := "GuardVolume", name := "rebuildBlock", desc := "(III)Z" } : Jvm.MethodName)) ∈ gW := gW_of (i := 467) (by decide +kernel) (by decide +kernel)
theorem kw_469 : (Jvm.Cond.instanceMethod ({ cls := "GuardVolume", name := "rebuildBlock", desc := "(III)Z" } : Jvm.MethodName)) ∈ gW := gW_of (i := 469) (by decide +kernel) (by decide +kernel)
theorem kw_470 : (Jvm.Cond.code ({ cls := "GuardVolume", name := "rebuildBlock", desc := "(III)Z" } : Jvm.MethodName) prog_1_method_35_code (5 : Nat) (Option.some Jvm.ClassFile.FieldType.boolean)) ∈ gW := gW_of (i := 470) (by decide +kernel) (by decide +kernel)
theorem kw_471 : (Jvm.Cond.methodLink "GuardVolumeLaw" (129 : Nat) ({ cls := "GuardVolumeLaw", name := "count", desc := "(LGuardVolume;I[J)I" } : Jvm.MethodName)) ∈ gW := gW_of (i := 471) (by decide +kernel) (by decide +kernel)
theorem kw_472 : (Jvm.Cond.static ({ cls := "GuardVolumeLaw", name := "count", desc := "(LGuardVolume;I[J)I" } : Jvm.MethodName)) ∈ gW := gW_of (i := 472) (by decide +kernel) (by decide +kernel)
theorem kw_473 : (Jvm.Cond.codeWith ({ cls := "GuardVolumeLaw", name := "count", desc := "(LGuardVolume;I[J)I" } : Jvm.MethodName) method_16_code (4 : Nat) (Option.some Jvm.ClassFile.FieldType.int) [((0 : Nat), (9 : Nat), (12 : Nat), (13 : Nat))]) ∈ gW := gW_of (i := 473) (by decide +kernel) (by decide +kernel)
theorem kw_474 : (Jvm.Cond.methodLink "GuardVolumeLaw" (63 : Nat) ({ cls := "GuardVolume", name := "count", desc := "(I)I" } : Jvm.MethodName)) ∈ gW := gW_of (i := 474) (by decide +kernel) (by decide +kernel)
theorem kw_475 : (Jvm.Cond.instanceMethod ({ cls := "GuardVolume", name := "count", desc := "(I)I" } : Jvm.MethodName)) ∈ gW := gW_of (i := 475) (by decide +kernel) (by decide +kernel)
theorem kw_476 : (Jvm.Cond.selects "GuardVolume" ({ cls := "GuardVolume", name := "count", desc := "(I)I" } : Jvm.MethodName) ({ cls := "GuardVolume", name := "count", desc := "(I)I" } : Jvm.MethodName)) ∈ gW := gW_of (i := 476) (by decide +kernel) (by decide +kernel)
theorem kw_477 : (Jvm.Cond.code ({ cls := "GuardVolume", name := "count", desc := "(I)I" } : Jvm.MethodName) prog_1_method_17_code (2 : Nat) (Option.some Jvm.ClassFile.FieldType.int)) ∈ gW := gW_of (i := 477) (by decide +kernel) (by decide +kernel)
theorem kw_478 : (Jvm.Cond.methodLink "GuardVolume" (160 : Nat) ({ cls := "GuardVolume", name := "greatestPageVersion", desc := "()I" } : Jvm.MethodName)) ∈ gW := gW_of (i := 478) (by decide +kernel) (by decide +kernel)
theorem kw_480 : (Jvm.Cond.instanceMethod ({ cls := "GuardVolume", name := "greatestPageVersion", desc := "()I" } : Jvm.MethodName)) ∈ gW := gW_of (i := 480) (by decide +kernel) (by decide +kernel)
theorem kw_481 : (Jvm.Cond.code ({ cls := "GuardVolume", name := "greatestPageVersion", desc := "()I" } : Jvm.MethodName) prog_1_method_36_code (3 : Nat) (Option.some Jvm.ClassFile.FieldType.int)) ∈ gW := gW_of (i := 481) (by decide +kernel) (by decide +kernel)
theorem kw_482 : (Jvm.Cond.methodLink "GuardVolume" (210 : Nat) ({ cls := "java/lang/Math", name := "max", desc := "(II)I" } : Jvm.MethodName)) ∈ gW := gW_of (i := 482) (by decide +kernel) (by decide +kernel)
theorem kw_483 : (Jvm.Cond.static ({ cls := "java/lang/Math", name := "max", desc := "(II)I" } : Jvm.MethodName)) ∈ gW := gW_of (i := 483) (by decide +kernel) (by decide +kernel)
theorem kw_484 : (Jvm.Cond.code ({ cls := "java/lang/Math", name := "max", desc := "(II)I" } : Jvm.MethodName) prog_12_method_65_code (2 : Nat) (Option.some Jvm.ClassFile.FieldType.int)) ∈ gW := gW_of (i := 484) (by decide +kernel) (by decide +kernel)
theorem kw_485 : (Jvm.Cond.classLink "GuardVolumeLaw" (67 : Nat) "GuardVolumeModel") ∈ gW := gW_of (i := 485) (by decide +kernel) (by decide +kernel)
theorem kw_486 : (Jvm.Cond.instantiable "GuardVolumeModel" (20 : Nat)) ∈ gW := gW_of (i := 486) (by decide +kernel) (by decide +kernel)
theorem kw_487 : (Jvm.Cond.methodLink "GuardVolumeLaw" (69 : Nat) ({ cls := "GuardVolumeModel", name := "<init>", desc := "()V" } : Jvm.MethodName)) ∈ gW := gW_of (i := 487) (by decide +kernel) (by decide +kernel)
theorem kw_488 : (Jvm.Cond.instanceMethod ({ cls := "GuardVolumeModel", name := "<init>", desc := "()V" } : Jvm.MethodName)) ∈ gW := gW_of (i := 488) (by decide +kernel) (by decide +kernel)
theorem kw_489 : (Jvm.Cond.code ({ cls := "GuardVolumeModel", name := "<init>", desc := "()V" } : Jvm.MethodName) prog_7_method_1_code (3 : Nat) (Option.none : Option Jvm.ClassFile.FieldType)) ∈ gW := gW_of (i := 489) (by decide +kernel) (by decide +kernel)
theorem kw_490 : (Jvm.Cond.methodLink "GuardVolumeModel" (1 : Nat) ({ cls := "java/lang/Object", name := "<init>", desc := "()V" } : Jvm.MethodName)) ∈ gW := gW_of (i := 490) (by decide +kernel) (by decide +kernel)
theorem kw_491 : (Jvm.Cond.methodLink "GuardVolumeModel" (50 : Nat) ({ cls := "GuardVolumeModel", name := "place", desc := "(II)I" } : Jvm.MethodName)) ∈ gW := gW_of (i := 491) (by decide +kernel) (by decide +kernel)
theorem kw_492 : (Jvm.Cond.static ({ cls := "GuardVolumeModel", name := "place", desc := "(II)I" } : Jvm.MethodName)) ∈ gW := gW_of (i := 492) (by decide +kernel) (by decide +kernel)
theorem kw_493 : (Jvm.Cond.code ({ cls := "GuardVolumeModel", name := "place", desc := "(II)I" } : Jvm.MethodName) prog_7_method_3_code (2 : Nat) (Option.some Jvm.ClassFile.FieldType.int)) ∈ gW := gW_of (i := 493) (by decide +kernel) (by decide +kernel)
theorem kw_494 : (Jvm.Cond.methodLink "GuardVolumeModel" (54 : Nat) ({ cls := "GuardVolumeModel", name := "sumAt", desc := "(I)I" } : Jvm.MethodName)) ∈ gW := gW_of (i := 494) (by decide +kernel) (by decide +kernel)
theorem kw_496 : (Jvm.Cond.instanceMethod ({ cls := "GuardVolumeModel", name := "sumAt", desc := "(I)I" } : Jvm.MethodName)) ∈ gW := gW_of (i := 496) (by decide +kernel) (by decide +kernel)
theorem kw_497 : (Jvm.Cond.code ({ cls := "GuardVolumeModel", name := "sumAt", desc := "(I)I" } : Jvm.MethodName) prog_7_method_5_code (4 : Nat) (Option.some Jvm.ClassFile.FieldType.int)) ∈ gW := gW_of (i := 497) (by decide +kernel) (by decide +kernel)
theorem kw_498 : (Jvm.Cond.methodLink "GuardVolumeModel" (61 : Nat) ({ cls := "GuardVolumeModel", name := "mix", desc := "(II)I" } : Jvm.MethodName)) ∈ gW := gW_of (i := 498) (by decide +kernel) (by decide +kernel)
theorem kw_499 : (Jvm.Cond.static ({ cls := "GuardVolumeModel", name := "mix", desc := "(II)I" } : Jvm.MethodName)) ∈ gW := gW_of (i := 499) (by decide +kernel) (by decide +kernel)
theorem kw_500 : (Jvm.Cond.code ({ cls := "GuardVolumeModel", name := "mix", desc := "(II)I" } : Jvm.MethodName) prog_7_method_4_code (2 : Nat) (Option.some Jvm.ClassFile.FieldType.int)) ∈ gW := gW_of (i := 500) (by decide +kernel) (by decide +kernel)
theorem kw_501 : (Jvm.Cond.fieldLink "GuardVolumeModel" (58 : Nat) "GuardVolumeModel" "thrown" "I") ∈ gW := gW_of (i := 501) (by decide +kernel) (by decide +kernel)
theorem kw_502 : (Jvm.Cond.fieldLink "GuardVolumeModel" (7 : Nat) "GuardVolumeModel" "drives" "[I") ∈ gW := gW_of (i := 502) (by decide +kernel) (by decide +kernel)
theorem kw_503 : (Jvm.Cond.fieldLink "GuardVolumeModel" (13 : Nat) "GuardVolumeModel" "memory" "[I") ∈ gW := gW_of (i := 503) (by decide +kernel) (by decide +kernel)
theorem kw_504 : (Jvm.Cond.fieldLink "GuardVolumeModel" (16 : Nat) "GuardVolumeModel" "journal" "I") ∈ gW := gW_of (i := 504) (by decide +kernel) (by decide +kernel)
theorem kw_505 : (Jvm.Cond.fieldLink "GuardVolumeModel" (20 : Nat) "GuardVolumeModel" "journalWords" "[I") ∈ gW := gW_of (i := 505) (by decide +kernel) (by decide +kernel)
theorem kw_506 : (Jvm.Cond.fieldLink "GuardVolumeModel" (105 : Nat) "GuardVolumeModel" "journalVersion" "I") ∈ gW := gW_of (i := 506) (by decide +kernel) (by decide +kernel)
theorem kw_507 : (Jvm.Cond.fieldLink "GuardVolumeModel" (80 : Nat) "GuardVolumeModel" "off" "Z") ∈ gW := gW_of (i := 507) (by decide +kernel) (by decide +kernel)
theorem kw_508 : (Jvm.Cond.fieldLink "GuardVolumeModel" (23 : Nat) "GuardVolumeModel" "left" "I") ∈ gW := gW_of (i := 508) (by decide +kernel) (by decide +kernel)
theorem kw_509 : (Jvm.Cond.fieldLink "GuardVolumeModel" (26 : Nat) "GuardVolumeModel" "writes" "[I") ∈ gW := gW_of (i := 509) (by decide +kernel) (by decide +kernel)
theorem kw_510 : (Jvm.Cond.fieldLink "GuardVolumeModel" (29 : Nat) "GuardVolumeModel" "plans" "[I") ∈ gW := gW_of (i := 510) (by decide +kernel) (by decide +kernel)
theorem kw_511 : (Jvm.Cond.fieldLink "GuardVolumeModel" (32 : Nat) "GuardVolumeModel" "planAt" "[I") ∈ gW := gW_of (i := 511) (by decide +kernel) (by decide +kernel)
theorem kw_512 : (Jvm.Cond.fieldLink "GuardVolumeModel" (35 : Nat) "GuardVolumeModel" "planKind" "[I") ∈ gW := gW_of (i := 512) (by decide +kernel) (by decide +kernel)
theorem kw_513 : (Jvm.Cond.fieldLink "GuardVolumeModel" (38 : Nat) "GuardVolumeModel" "planX" "[I") ∈ gW := gW_of (i := 513) (by decide +kernel) (by decide +kernel)
theorem kw_514 : (Jvm.Cond.fieldLink "GuardVolumeModel" (120 : Nat) "GuardVolumeModel" "code" "I") ∈ gW := gW_of (i := 514) (by decide +kernel) (by decide +kernel)
theorem kw_515 : (Jvm.Cond.fieldLink "GuardVolumeModel" (139 : Nat) "GuardVolumeModel" "nextScrub" "I") ∈ gW := gW_of (i := 515) (by decide +kernel) (by decide +kernel)
theorem kw_516 : (Jvm.Cond.fieldLink "GuardVolumeModel" (132 : Nat) "GuardVolumeModel" "kept" "I") ∈ gW := gW_of (i := 516) (by decide +kernel) (by decide +kernel)
theorem kw_517 : (Jvm.Cond.fieldLink "GuardVolumeModel" (129 : Nat) "GuardVolumeModel" "found" "I") ∈ gW := gW_of (i := 517) (by decide +kernel) (by decide +kernel)
theorem kw_518 : (Jvm.Cond.fieldLink "GuardVolumeModel" (41 : Nat) "GuardVolumeModel" "findings" "[I") ∈ gW := gW_of (i := 518) (by decide +kernel) (by decide +kernel)
theorem kw_519 : (Jvm.Cond.fieldLink "GuardVolumeModel" (44 : Nat) "GuardVolumeModel" "row" "[I") ∈ gW := gW_of (i := 519) (by decide +kernel) (by decide +kernel)
theorem kw_520 : (Jvm.Cond.fieldLink "GuardVolumeModel" (47 : Nat) "GuardVolumeModel" "words" "[I") ∈ gW := gW_of (i := 520) (by decide +kernel) (by decide +kernel)
theorem kw_521 : (Jvm.Cond.lays "GuardVolumeModel" "GuardVolumeModel" "thrown" "I") ∈ gW := gW_of (i := 521) (by decide +kernel) (by decide +kernel)
theorem kw_522 : (Jvm.Cond.soleField "GuardVolumeModel" "thrown") ∈ gW := gW_of (i := 522) (by decide +kernel) (by decide +kernel)
theorem kw_523 : (Jvm.Cond.laysFinal "GuardVolumeModel" "GuardVolumeModel" "drives" "[I") ∈ gW := gW_of (i := 523) (by decide +kernel) (by decide +kernel)
theorem kw_524 : (Jvm.Cond.soleField "GuardVolumeModel" "drives") ∈ gW := gW_of (i := 524) (by decide +kernel) (by decide +kernel)
theorem kw_525 : (Jvm.Cond.laysFinal "GuardVolumeModel" "GuardVolumeModel" "memory" "[I") ∈ gW := gW_of (i := 525) (by decide +kernel) (by decide +kernel)
theorem kw_526 : (Jvm.Cond.soleField "GuardVolumeModel" "memory") ∈ gW := gW_of (i := 526) (by decide +kernel) (by decide +kernel)
theorem kw_527 : (Jvm.Cond.lays "GuardVolumeModel" "GuardVolumeModel" "journal" "I") ∈ gW := gW_of (i := 527) (by decide +kernel) (by decide +kernel)
theorem kw_528 : (Jvm.Cond.soleField "GuardVolumeModel" "journal") ∈ gW := gW_of (i := 528) (by decide +kernel) (by decide +kernel)
theorem kw_529 : (Jvm.Cond.laysFinal "GuardVolumeModel" "GuardVolumeModel" "journalWords" "[I") ∈ gW := gW_of (i := 529) (by decide +kernel) (by decide +kernel)
theorem kw_530 : (Jvm.Cond.soleField "GuardVolumeModel" "journalWords") ∈ gW := gW_of (i := 530) (by decide +kernel) (by decide +kernel)
theorem kw_531 : (Jvm.Cond.lays "GuardVolumeModel" "GuardVolumeModel" "journalVersion" "I") ∈ gW := gW_of (i := 531) (by decide +kernel) (by decide +kernel)
theorem kw_532 : (Jvm.Cond.soleField "GuardVolumeModel" "journalVersion") ∈ gW := gW_of (i := 532) (by decide +kernel) (by decide +kernel)
theorem kw_533 : (Jvm.Cond.lays "GuardVolumeModel" "GuardVolumeModel" "off" "Z") ∈ gW := gW_of (i := 533) (by decide +kernel) (by decide +kernel)
theorem kw_534 : (Jvm.Cond.soleField "GuardVolumeModel" "off") ∈ gW := gW_of (i := 534) (by decide +kernel) (by decide +kernel)
theorem kw_535 : (Jvm.Cond.lays "GuardVolumeModel" "GuardVolumeModel" "left" "I") ∈ gW := gW_of (i := 535) (by decide +kernel) (by decide +kernel)
theorem kw_536 : (Jvm.Cond.soleField "GuardVolumeModel" "left") ∈ gW := gW_of (i := 536) (by decide +kernel) (by decide +kernel)
theorem kw_537 : (Jvm.Cond.laysFinal "GuardVolumeModel" "GuardVolumeModel" "writes" "[I") ∈ gW := gW_of (i := 537) (by decide +kernel) (by decide +kernel)
theorem kw_538 : (Jvm.Cond.soleField "GuardVolumeModel" "writes") ∈ gW := gW_of (i := 538) (by decide +kernel) (by decide +kernel)
theorem kw_539 : (Jvm.Cond.laysFinal "GuardVolumeModel" "GuardVolumeModel" "plans" "[I") ∈ gW := gW_of (i := 539) (by decide +kernel) (by decide +kernel)
theorem kw_540 : (Jvm.Cond.soleField "GuardVolumeModel" "plans") ∈ gW := gW_of (i := 540) (by decide +kernel) (by decide +kernel)
theorem kw_541 : (Jvm.Cond.laysFinal "GuardVolumeModel" "GuardVolumeModel" "planAt" "[I") ∈ gW := gW_of (i := 541) (by decide +kernel) (by decide +kernel)
theorem kw_542 : (Jvm.Cond.soleField "GuardVolumeModel" "planAt") ∈ gW := gW_of (i := 542) (by decide +kernel) (by decide +kernel)
theorem kw_543 : (Jvm.Cond.laysFinal "GuardVolumeModel" "GuardVolumeModel" "planKind" "[I") ∈ gW := gW_of (i := 543) (by decide +kernel) (by decide +kernel)
theorem kw_544 : (Jvm.Cond.soleField "GuardVolumeModel" "planKind") ∈ gW := gW_of (i := 544) (by decide +kernel) (by decide +kernel)
theorem kw_545 : (Jvm.Cond.laysFinal "GuardVolumeModel" "GuardVolumeModel" "planX" "[I") ∈ gW := gW_of (i := 545) (by decide +kernel) (by decide +kernel)
theorem kw_546 : (Jvm.Cond.soleField "GuardVolumeModel" "planX") ∈ gW := gW_of (i := 546) (by decide +kernel) (by decide +kernel)
theorem kw_547 : (Jvm.Cond.lays "GuardVolumeModel" "GuardVolumeModel" "code" "I") ∈ gW := gW_of (i := 547) (by decide +kernel) (by decide +kernel)
theorem kw_548 : (Jvm.Cond.soleField "GuardVolumeModel" "code") ∈ gW := gW_of (i := 548) (by decide +kernel) (by decide +kernel)
theorem kw_549 : (Jvm.Cond.lays "GuardVolumeModel" "GuardVolumeModel" "nextScrub" "I") ∈ gW := gW_of (i := 549) (by decide +kernel) (by decide +kernel)
theorem kw_550 : (Jvm.Cond.soleField "GuardVolumeModel" "nextScrub") ∈ gW := gW_of (i := 550) (by decide +kernel) (by decide +kernel)
theorem kw_551 : (Jvm.Cond.lays "GuardVolumeModel" "GuardVolumeModel" "kept" "I") ∈ gW := gW_of (i := 551) (by decide +kernel) (by decide +kernel)
theorem kw_552 : (Jvm.Cond.soleField "GuardVolumeModel" "kept") ∈ gW := gW_of (i := 552) (by decide +kernel) (by decide +kernel)
theorem kw_553 : (Jvm.Cond.lays "GuardVolumeModel" "GuardVolumeModel" "found" "I") ∈ gW := gW_of (i := 553) (by decide +kernel) (by decide +kernel)
theorem kw_554 : (Jvm.Cond.soleField "GuardVolumeModel" "found") ∈ gW := gW_of (i := 554) (by decide +kernel) (by decide +kernel)
theorem kw_555 : (Jvm.Cond.laysFinal "GuardVolumeModel" "GuardVolumeModel" "findings" "[I") ∈ gW := gW_of (i := 555) (by decide +kernel) (by decide +kernel)
theorem kw_556 : (Jvm.Cond.soleField "GuardVolumeModel" "findings") ∈ gW := gW_of (i := 556) (by decide +kernel) (by decide +kernel)
theorem kw_557 : (Jvm.Cond.laysFinal "GuardVolumeModel" "GuardVolumeModel" "row" "[I") ∈ gW := gW_of (i := 557) (by decide +kernel) (by decide +kernel)
theorem kw_558 : (Jvm.Cond.soleField "GuardVolumeModel" "row") ∈ gW := gW_of (i := 558) (by decide +kernel) (by decide +kernel)
theorem kw_559 : (Jvm.Cond.laysFinal "GuardVolumeModel" "GuardVolumeModel" "words" "[I") ∈ gW := gW_of (i := 559) (by decide +kernel) (by decide +kernel)
theorem kw_560 : (Jvm.Cond.soleField "GuardVolumeModel" "words") ∈ gW := gW_of (i := 560) (by decide +kernel) (by decide +kernel)
theorem kw_561 : (Jvm.Cond.superclass "GuardVolumeModel" "java/lang/Object") ∈ gW := gW_of (i := 561) (by decide +kernel) (by decide +kernel)
theorem kw_562 : (Jvm.Cond.methodLink "GuardVolumeLaw" (76 : Nat) ({ cls := "GuardVolumeModel", name := "thrown", desc := "()I" } : Jvm.MethodName)) ∈ gW := gW_of (i := 562) (by decide +kernel) (by decide +kernel)
theorem kw_563 : (Jvm.Cond.instanceMethod ({ cls := "GuardVolumeModel", name := "thrown", desc := "()I" } : Jvm.MethodName)) ∈ gW := gW_of (i := 563) (by decide +kernel) (by decide +kernel)
theorem kw_564 : (Jvm.Cond.selects "GuardVolumeModel" ({ cls := "GuardVolumeModel", name := "thrown", desc := "()I" } : Jvm.MethodName) ({ cls := "GuardVolumeModel", name := "thrown", desc := "()I" } : Jvm.MethodName)) ∈ gW := gW_of (i := 564) (by decide +kernel) (by decide +kernel)
theorem kw_565 : (Jvm.Cond.code ({ cls := "GuardVolumeModel", name := "thrown", desc := "()I" } : Jvm.MethodName) prog_7_method_2_code (1 : Nat) (Option.some Jvm.ClassFile.FieldType.int)) ∈ gW := gW_of (i := 565) (by decide +kernel) (by decide +kernel)
theorem kw_566 : (Jvm.Cond.methodLink "GuardVolumeLaw" (75 : Nat) ({ cls := "GuardVolumeModel", name := "write", desc := "(III)I" } : Jvm.MethodName)) ∈ gW := gW_of (i := 566) (by decide +kernel) (by decide +kernel)
theorem kw_567 : (Jvm.Cond.instanceMethod ({ cls := "GuardVolumeModel", name := "write", desc := "(III)I" } : Jvm.MethodName)) ∈ gW := gW_of (i := 567) (by decide +kernel) (by decide +kernel)
theorem kw_568 : (Jvm.Cond.selects "GuardVolumeModel" ({ cls := "GuardVolumeModel", name := "write", desc := "(III)I" } : Jvm.MethodName) ({ cls := "GuardVolumeModel", name := "write", desc := "(III)I" } : Jvm.MethodName)) ∈ gW := gW_of (i := 568) (by decide +kernel) (by decide +kernel)
theorem kw_569 : (Jvm.Cond.code ({ cls := "GuardVolumeModel", name := "write", desc := "(III)I" } : Jvm.MethodName) prog_7_method_23_code (6 : Nat) (Option.some Jvm.ClassFile.FieldType.int)) ∈ gW := gW_of (i := 569) (by decide +kernel) (by decide +kernel)
theorem kw_570 : (Jvm.Cond.methodLink "GuardVolumeModel" (114 : Nat) ({ cls := "GuardVolumeModel", name := "in", desc := "(II)Z" } : Jvm.MethodName)) ∈ gW := gW_of (i := 570) (by decide +kernel) (by decide +kernel)
theorem kw_571 : (Jvm.Cond.static ({ cls := "GuardVolumeModel", name := "in", desc := "(II)Z" } : Jvm.MethodName)) ∈ gW := gW_of (i := 571) (by decide +kernel) (by decide +kernel)
theorem kw_572 : (Jvm.Cond.code ({ cls := "GuardVolumeModel", name := "in", desc := "(II)Z" } : Jvm.MethodName) prog_7_method_21_code (2 : Nat) (Option.some Jvm.ClassFile.FieldType.boolean)) ∈ gW := gW_of (i := 572) (by decide +kernel) (by decide +kernel)
theorem kw_573 : (Jvm.Cond.methodLink "GuardVolumeModel" (117 : Nat) ({ cls := "GuardVolumeModel", name := "codeOf", desc := "(I)I" } : Jvm.MethodName)) ∈ gW := gW_of (i := 573) (by decide +kernel) (by decide +kernel)
theorem kw_575 : (Jvm.Cond.instanceMethod ({ cls := "GuardVolumeModel", name := "codeOf", desc := "(I)I" } : Jvm.MethodName)) ∈ gW := gW_of (i := 575) (by decide +kernel) (by decide +kernel)
theorem kw_576 : (Jvm.Cond.code ({ cls := "GuardVolumeModel", name := "codeOf", desc := "(I)I" } : Jvm.MethodName) prog_7_method_22_code (2 : Nat) (Option.some Jvm.ClassFile.FieldType.int)) ∈ gW := gW_of (i := 576) (by decide +kernel) (by decide +kernel)
theorem kw_577 : (Jvm.Cond.methodLink "GuardVolumeModel" (111 : Nat) ({ cls := "GuardVolumeModel", name := "verdictOf", desc := "(II)I" } : Jvm.MethodName)) ∈ gW := gW_of (i := 577) (by decide +kernel) (by decide +kernel)
theorem kw_579 : (Jvm.Cond.instanceMethod ({ cls := "GuardVolumeModel", name := "verdictOf", desc := "(II)I" } : Jvm.MethodName)) ∈ gW := gW_of (i := 579) (by decide +kernel) (by decide +kernel)
theorem kw_580 : (Jvm.Cond.code ({ cls := "GuardVolumeModel", name := "verdictOf", desc := "(II)I" } : Jvm.MethodName) prog_7_method_11_code (5 : Nat) (Option.some Jvm.ClassFile.FieldType.int)) ∈ gW := gW_of (i := 580) (by decide +kernel) (by decide +kernel)
theorem kw_581 : (Jvm.Cond.methodLink "GuardVolumeModel" (64 : Nat) ({ cls := "GuardVolumeModel", name := "isWhole", desc := "(II)Z" } : Jvm.MethodName)) ∈ gW := gW_of (i := 581) (by decide +kernel) (by decide +kernel)
theorem kw_583 : (Jvm.Cond.instanceMethod ({ cls := "GuardVolumeModel", name := "isWhole", desc := "(II)Z" } : Jvm.MethodName)) ∈ gW := gW_of (i := 583) (by decide +kernel) (by decide +kernel)
theorem kw_584 : (Jvm.Cond.code ({ cls := "GuardVolumeModel", name := "isWhole", desc := "(II)Z" } : Jvm.MethodName) prog_7_method_6_code (4 : Nat) (Option.some Jvm.ClassFile.FieldType.boolean)) ∈ gW := gW_of (i := 584) (by decide +kernel) (by decide +kernel)
theorem kw_585 : (Jvm.Cond.methodLink "GuardVolumeModel" (74 : Nat) ({ cls := "GuardVolumeModel", name := "isUnknown", desc := "(II)Z" } : Jvm.MethodName)) ∈ gW := gW_of (i := 585) (by decide +kernel) (by decide +kernel)
theorem kw_587 : (Jvm.Cond.instanceMethod ({ cls := "GuardVolumeModel", name := "isUnknown", desc := "(II)Z" } : Jvm.MethodName)) ∈ gW := gW_of (i := 587) (by decide +kernel) (by decide +kernel)
theorem kw_588 : (Jvm.Cond.code ({ cls := "GuardVolumeModel", name := "isUnknown", desc := "(II)Z" } : Jvm.MethodName) prog_7_method_10_code (3 : Nat) (Option.some Jvm.ClassFile.FieldType.boolean)) ∈ gW := gW_of (i := 588) (by decide +kernel) (by decide +kernel)
theorem kw_589 : (Jvm.Cond.methodLink "GuardVolumeModel" (68 : Nat) ({ cls := "GuardVolumeModel", name := "isRightPage", desc := "(II)Z" } : Jvm.MethodName)) ∈ gW := gW_of (i := 589) (by decide +kernel) (by decide +kernel)
theorem kw_591 : (Jvm.Cond.instanceMethod ({ cls := "GuardVolumeModel", name := "isRightPage", desc := "(II)Z" } : Jvm.MethodName)) ∈ gW := gW_of (i := 591) (by decide +kernel) (by decide +kernel)
theorem kw_592 : (Jvm.Cond.code ({ cls := "GuardVolumeModel", name := "isRightPage", desc := "(II)Z" } : Jvm.MethodName) prog_7_method_7_code (4 : Nat) (Option.some Jvm.ClassFile.FieldType.boolean)) ∈ gW := gW_of (i := 592) (by decide +kernel) (by decide +kernel)
theorem kw_593 : (Jvm.Cond.methodLink "GuardVolumeModel" (77 : Nat) ({ cls := "GuardVolumeModel", name := "expectedOf", desc := "(II)I" } : Jvm.MethodName)) ∈ gW := gW_of (i := 593) (by decide +kernel) (by decide +kernel)
theorem kw_595 : (Jvm.Cond.instanceMethod ({ cls := "GuardVolumeModel", name := "expectedOf", desc := "(II)I" } : Jvm.MethodName)) ∈ gW := gW_of (i := 595) (by decide +kernel) (by decide +kernel)
theorem kw_596 : (Jvm.Cond.code ({ cls := "GuardVolumeModel", name := "expectedOf", desc := "(II)I" } : Jvm.MethodName) prog_7_method_9_code (4 : Nat) (Option.some Jvm.ClassFile.FieldType.int)) ∈ gW := gW_of (i := 596) (by decide +kernel) (by decide +kernel)
theorem kw_597 : (Jvm.Cond.methodLink "GuardVolumeModel" (71 : Nat) ({ cls := "GuardVolumeModel", name := "listed", desc := "(II)I" } : Jvm.MethodName)) ∈ gW := gW_of (i := 597) (by decide +kernel) (by decide +kernel)
theorem kw_599 : (Jvm.Cond.instanceMethod ({ cls := "GuardVolumeModel", name := "listed", desc := "(II)I" } : Jvm.MethodName)) ∈ gW := gW_of (i := 599) (by decide +kernel) (by decide +kernel)
theorem kw_600 : (Jvm.Cond.code ({ cls := "GuardVolumeModel", name := "listed", desc := "(II)I" } : Jvm.MethodName) prog_7_method_8_code (3 : Nat) (Option.some Jvm.ClassFile.FieldType.int)) ∈ gW := gW_of (i := 600) (by decide +kernel) (by decide +kernel)
theorem kw_601 : (Jvm.Cond.methodLink "GuardVolumeModel" (123 : Nat) ({ cls := "GuardVolumeModel", name := "takeWords", desc := "(II)V" } : Jvm.MethodName)) ∈ gW := gW_of (i := 601) (by decide +kernel) (by decide +kernel)
theorem kw_603 : (Jvm.Cond.instanceMethod ({ cls := "GuardVolumeModel", name := "takeWords", desc := "(II)V" } : Jvm.MethodName)) ∈ gW := gW_of (i := 603) (by decide +kernel) (by decide +kernel)
theorem kw_604 : (Jvm.Cond.code ({ cls := "GuardVolumeModel", name := "takeWords", desc := "(II)V" } : Jvm.MethodName) prog_7_method_17_code (4 : Nat) (Option.none : Option Jvm.ClassFile.FieldType)) ∈ gW := gW_of (i := 604) (by decide +kernel) (by decide +kernel)
theorem kw_605 : (Jvm.Cond.methodLink "GuardVolumeModel" (126 : Nat) ({ cls := "GuardVolumeModel", name := "put", desc := "(II)Z" } : Jvm.MethodName)) ∈ gW := gW_of (i := 605) (by decide +kernel) (by decide +kernel)
theorem kw_607 : (Jvm.Cond.instanceMethod ({ cls := "GuardVolumeModel", name := "put", desc := "(II)Z" } : Jvm.MethodName)) ∈ gW := gW_of (i := 607) (by decide +kernel) (by decide +kernel)
theorem kw_608 : (Jvm.Cond.code ({ cls := "GuardVolumeModel", name := "put", desc := "(II)Z" } : Jvm.MethodName) prog_7_method_20_code (4 : Nat) (Option.some Jvm.ClassFile.FieldType.boolean)) ∈ gW := gW_of (i := 608) (by decide +kernel) (by decide +kernel)
theorem kw_609 : (Jvm.Cond.methodLink "GuardVolumeModel" (108 : Nat) ({ cls := "GuardVolumeModel", name := "putCopy", desc := "(III)Z" } : Jvm.MethodName)) ∈ gW := gW_of (i := 609) (by decide +kernel) (by decide +kernel)
theorem kw_611 : (Jvm.Cond.instanceMethod ({ cls := "GuardVolumeModel", name := "putCopy", desc := "(III)Z" } : Jvm.MethodName)) ∈ gW := gW_of (i := 611) (by decide +kernel) (by decide +kernel)
theorem kw_612 : (Jvm.Cond.code ({ cls := "GuardVolumeModel", name := "putCopy", desc := "(III)Z" } : Jvm.MethodName) prog_7_method_19_code (4 : Nat) (Option.some Jvm.ClassFile.FieldType.boolean)) ∈ gW := gW_of (i := 612) (by decide +kernel) (by decide +kernel)
theorem kw_613 : (Jvm.Cond.methodLink "GuardVolumeModel" (99 : Nat) ({ cls := "GuardVolumeModel", name := "storeRow", desc := "(III)Z" } : Jvm.MethodName)) ∈ gW := gW_of (i := 613) (by decide +kernel) (by decide +kernel)
theorem kw_615 : (Jvm.Cond.instanceMethod ({ cls := "GuardVolumeModel", name := "storeRow", desc := "(III)Z" } : Jvm.MethodName)) ∈ gW := gW_of (i := 615) (by decide +kernel) (by decide +kernel)
theorem kw_616 : (Jvm.Cond.code ({ cls := "GuardVolumeModel", name := "storeRow", desc := "(III)Z" } : Jvm.MethodName) prog_7_method_18_code (5 : Nat) (Option.some Jvm.ClassFile.FieldType.boolean)) ∈ gW := gW_of (i := 616) (by decide +kernel) (by decide +kernel)
theorem kw_617 : (Jvm.Cond.methodLink "GuardVolumeModel" (95 : Nat) ({ cls := "GuardVolumeModel", name := "store", desc := "(III)Z" } : Jvm.MethodName)) ∈ gW := gW_of (i := 617) (by decide +kernel) (by decide +kernel)
theorem kw_619 : (Jvm.Cond.instanceMethod ({ cls := "GuardVolumeModel", name := "store", desc := "(III)Z" } : Jvm.MethodName)) ∈ gW := gW_of (i := 619) (by decide +kernel) (by decide +kernel)
theorem kw_620 : (Jvm.Cond.code ({ cls := "GuardVolumeModel", name := "store", desc := "(III)Z" } : Jvm.MethodName) prog_7_method_15_code (8 : Nat) (Option.some Jvm.ClassFile.FieldType.boolean)) ∈ gW := gW_of (i := 620) (by decide +kernel) (by decide +kernel)
theorem kw_621 : (Jvm.Cond.methodLink "GuardVolumeModel" (84 : Nat) ({ cls := "GuardVolumeModel", name := "planOf", desc := "(I)I" } : Jvm.MethodName)) ∈ gW := gW_of (i := 621) (by decide +kernel) (by decide +kernel)
theorem kw_623 : (Jvm.Cond.instanceMethod ({ cls := "GuardVolumeModel", name := "planOf", desc := "(I)I" } : Jvm.MethodName)) ∈ gW := gW_of (i := 623) (by decide +kernel) (by decide +kernel)
theorem kw_624 : (Jvm.Cond.code ({ cls := "GuardVolumeModel", name := "planOf", desc := "(I)I" } : Jvm.MethodName) prog_7_method_12_code (4 : Nat) (Option.some Jvm.ClassFile.FieldType.int)) ∈ gW := gW_of (i := 624) (by decide +kernel) (by decide +kernel)
theorem kw_625 : (Jvm.Cond.methodLink "GuardVolumeModel" (87 : Nat) ({ cls := "GuardVolumeModel", name := "lay", desc := "(III)V" } : Jvm.MethodName)) ∈ gW := gW_of (i := 625) (by decide +kernel) (by decide +kernel)
theorem kw_627 : (Jvm.Cond.instanceMethod ({ cls := "GuardVolumeModel", name := "lay", desc := "(III)V" } : Jvm.MethodName)) ∈ gW := gW_of (i := 627) (by decide +kernel) (by decide +kernel)
theorem kw_628 : (Jvm.Cond.code ({ cls := "GuardVolumeModel", name := "lay", desc := "(III)V" } : Jvm.MethodName) prog_7_method_14_code (5 : Nat) (Option.none : Option Jvm.ClassFile.FieldType)) ∈ gW := gW_of (i := 628) (by decide +kernel) (by decide +kernel)
theorem kw_629 : (Jvm.Cond.methodLink "GuardVolumeModel" (91 : Nat) ({ cls := "GuardVolumeModel", name := "dropPlan", desc := "(II)V" } : Jvm.MethodName)) ∈ gW := gW_of (i := 629) (by decide +kernel) (by decide +kernel)
theorem kw_631 : (Jvm.Cond.instanceMethod ({ cls := "GuardVolumeModel", name := "dropPlan", desc := "(II)V" } : Jvm.MethodName)) ∈ gW := gW_of (i := 631) (by decide +kernel) (by decide +kernel)
theorem kw_632 : (Jvm.Cond.code ({ cls := "GuardVolumeModel", name := "dropPlan", desc := "(II)V" } : Jvm.MethodName) prog_7_method_13_code (4 : Nat) (Option.none : Option Jvm.ClassFile.FieldType)) ∈ gW := gW_of (i := 632) (by decide +kernel) (by decide +kernel)
theorem kw_633 : (Jvm.Cond.methodLink "GuardVolumeModel" (102 : Nat) ({ cls := "GuardVolumeModel", name := "storeList", desc := "(III)Z" } : Jvm.MethodName)) ∈ gW := gW_of (i := 633) (by decide +kernel) (by decide +kernel)
theorem kw_635 : (Jvm.Cond.instanceMethod ({ cls := "GuardVolumeModel", name := "storeList", desc := "(III)Z" } : Jvm.MethodName)) ∈ gW := gW_of (i := 635) (by decide +kernel) (by decide +kernel)
theorem kw_636 : (Jvm.Cond.code ({ cls := "GuardVolumeModel", name := "storeList", desc := "(III)Z" } : Jvm.MethodName) prog_7_method_16_code (9 : Nat) (Option.some Jvm.ClassFile.FieldType.boolean)) ∈ gW := gW_of (i := 636) (by decide +kernel) (by decide +kernel)
theorem kw_637 : (Jvm.Cond.methodLink "GuardVolumeLaw" (82 : Nat) ({ cls := "GuardVolumeModel", name := "read", desc := "(II)I" } : Jvm.MethodName)) ∈ gW := gW_of (i := 637) (by decide +kernel) (by decide +kernel)
theorem kw_638 : (Jvm.Cond.instanceMethod ({ cls := "GuardVolumeModel", name := "read", desc := "(II)I" } : Jvm.MethodName)) ∈ gW := gW_of (i := 638) (by decide +kernel) (by decide +kernel)
theorem kw_639 : (Jvm.Cond.selects "GuardVolumeModel" ({ cls := "GuardVolumeModel", name := "read", desc := "(II)I" } : Jvm.MethodName) ({ cls := "GuardVolumeModel", name := "read", desc := "(II)I" } : Jvm.MethodName)) ∈ gW := gW_of (i := 639) (by decide +kernel) (by decide +kernel)
theorem kw_640 : (Jvm.Cond.code ({ cls := "GuardVolumeModel", name := "read", desc := "(II)I" } : Jvm.MethodName) prog_7_method_24_code (3 : Nat) (Option.some Jvm.ClassFile.FieldType.int)) ∈ gW := gW_of (i := 640) (by decide +kernel) (by decide +kernel)
theorem kw_641 : (Jvm.Cond.methodLink "GuardVolumeLaw" (86 : Nat) ({ cls := "GuardVolumeModel", name := "code", desc := "()I" } : Jvm.MethodName)) ∈ gW := gW_of (i := 641) (by decide +kernel) (by decide +kernel)
theorem kw_642 : (Jvm.Cond.instanceMethod ({ cls := "GuardVolumeModel", name := "code", desc := "()I" } : Jvm.MethodName)) ∈ gW := gW_of (i := 642) (by decide +kernel) (by decide +kernel)
theorem kw_643 : (Jvm.Cond.selects "GuardVolumeModel" ({ cls := "GuardVolumeModel", name := "code", desc := "()I" } : Jvm.MethodName) ({ cls := "GuardVolumeModel", name := "code", desc := "()I" } : Jvm.MethodName)) ∈ gW := gW_of (i := 643) (by decide +kernel) (by decide +kernel)
theorem kw_644 : (Jvm.Cond.code ({ cls := "GuardVolumeModel", name := "code", desc := "()I" } : Jvm.MethodName) prog_7_method_25_code (1 : Nat) (Option.some Jvm.ClassFile.FieldType.int)) ∈ gW := gW_of (i := 644) (by decide +kernel) (by decide +kernel)
theorem kw_645 : (Jvm.Cond.methodLink "GuardVolumeLaw" (90 : Nat) ({ cls := "GuardVolumeModel", name := "plan", desc := "(IIII)V" } : Jvm.MethodName)) ∈ gW := gW_of (i := 645) (by decide +kernel) (by decide +kernel)
theorem kw_646 : (Jvm.Cond.instanceMethod ({ cls := "GuardVolumeModel", name := "plan", desc := "(IIII)V" } : Jvm.MethodName)) ∈ gW := gW_of (i := 646) (by decide +kernel) (by decide +kernel)
theorem kw_647 : (Jvm.Cond.selects "GuardVolumeModel" ({ cls := "GuardVolumeModel", name := "plan", desc := "(IIII)V" } : Jvm.MethodName) ({ cls := "GuardVolumeModel", name := "plan", desc := "(IIII)V" } : Jvm.MethodName)) ∈ gW := gW_of (i := 647) (by decide +kernel) (by decide +kernel)
theorem kw_648 : (Jvm.Cond.code ({ cls := "GuardVolumeModel", name := "plan", desc := "(IIII)V" } : Jvm.MethodName) prog_7_method_26_code (7 : Nat) (Option.none : Option Jvm.ClassFile.FieldType)) ∈ gW := gW_of (i := 648) (by decide +kernel) (by decide +kernel)
theorem kw_649 : (Jvm.Cond.methodLink "GuardVolumeLaw" (94 : Nat) ({ cls := "GuardVolumeModel", name := "cutAfter", desc := "(I)V" } : Jvm.MethodName)) ∈ gW := gW_of (i := 649) (by decide +kernel) (by decide +kernel)
theorem kw_650 : (Jvm.Cond.instanceMethod ({ cls := "GuardVolumeModel", name := "cutAfter", desc := "(I)V" } : Jvm.MethodName)) ∈ gW := gW_of (i := 650) (by decide +kernel) (by decide +kernel)
theorem kw_651 : (Jvm.Cond.selects "GuardVolumeModel" ({ cls := "GuardVolumeModel", name := "cutAfter", desc := "(I)V" } : Jvm.MethodName) ({ cls := "GuardVolumeModel", name := "cutAfter", desc := "(I)V" } : Jvm.MethodName)) ∈ gW := gW_of (i := 651) (by decide +kernel) (by decide +kernel)
theorem kw_652 : (Jvm.Cond.code ({ cls := "GuardVolumeModel", name := "cutAfter", desc := "(I)V" } : Jvm.MethodName) prog_7_method_27_code (2 : Nat) (Option.none : Option Jvm.ClassFile.FieldType)) ∈ gW := gW_of (i := 652) (by decide +kernel) (by decide +kernel)
theorem kw_653 : (Jvm.Cond.methodLink "GuardVolumeLaw" (98 : Nat) ({ cls := "GuardVolumeModel", name := "start", desc := "()I" } : Jvm.MethodName)) ∈ gW := gW_of (i := 653) (by decide +kernel) (by decide +kernel)
theorem kw_654 : (Jvm.Cond.instanceMethod ({ cls := "GuardVolumeModel", name := "start", desc := "()I" } : Jvm.MethodName)) ∈ gW := gW_of (i := 654) (by decide +kernel) (by decide +kernel)
theorem kw_655 : (Jvm.Cond.selects "GuardVolumeModel" ({ cls := "GuardVolumeModel", name := "start", desc := "()I" } : Jvm.MethodName) ({ cls := "GuardVolumeModel", name := "start", desc := "()I" } : Jvm.MethodName)) ∈ gW := gW_of (i := 655) (by decide +kernel) (by decide +kernel)
theorem kw_656 : (Jvm.Cond.code ({ cls := "GuardVolumeModel", name := "start", desc := "()I" } : Jvm.MethodName) prog_7_method_28_code (3 : Nat) (Option.some Jvm.ClassFile.FieldType.int)) ∈ gW := gW_of (i := 656) (by decide +kernel) (by decide +kernel)
theorem kw_657 : (Jvm.Cond.methodLink "GuardVolumeLaw" (102 : Nat) ({ cls := "GuardVolumeModel", name := "scrub", desc := "(I)I" } : Jvm.MethodName)) ∈ gW := gW_of (i := 657) (by decide +kernel) (by decide +kernel)
theorem kw_658 : (Jvm.Cond.instanceMethod ({ cls := "GuardVolumeModel", name := "scrub", desc := "(I)I" } : Jvm.MethodName)) ∈ gW := gW_of (i := 658) (by decide +kernel) (by decide +kernel)
theorem kw_659 : (Jvm.Cond.selects "GuardVolumeModel" ({ cls := "GuardVolumeModel", name := "scrub", desc := "(I)I" } : Jvm.MethodName) ({ cls := "GuardVolumeModel", name := "scrub", desc := "(I)I" } : Jvm.MethodName)) ∈ gW := gW_of (i := 659) (by decide +kernel) (by decide +kernel)
theorem kw_660 : (Jvm.Cond.code ({ cls := "GuardVolumeModel", name := "scrub", desc := "(I)I" } : Jvm.MethodName) prog_7_method_31_code (3 : Nat) (Option.some Jvm.ClassFile.FieldType.int)) ∈ gW := gW_of (i := 660) (by decide +kernel) (by decide +kernel)
theorem kw_661 : (Jvm.Cond.methodLink "GuardVolumeModel" (142 : Nat) ({ cls := "GuardVolumeModel", name := "scrubOf", desc := "(I)Z" } : Jvm.MethodName)) ∈ gW := gW_of (i := 661) (by decide +kernel) (by decide +kernel)
theorem kw_663 : (Jvm.Cond.instanceMethod ({ cls := "GuardVolumeModel", name := "scrubOf", desc := "(I)Z" } : Jvm.MethodName)) ∈ gW := gW_of (i := 663) (by decide +kernel) (by decide +kernel)
theorem kw_664 : (Jvm.Cond.code ({ cls := "GuardVolumeModel", name := "scrubOf", desc := "(I)Z" } : Jvm.MethodName) prog_7_method_30_code (6 : Nat) (Option.some Jvm.ClassFile.FieldType.boolean)) ∈ gW := gW_of (i := 664) (by decide +kernel) (by decide +kernel)
theorem kw_665 : (Jvm.Cond.methodLink "GuardVolumeModel" (135 : Nat) ({ cls := "GuardVolumeModel", name := "find", desc := "(IIII)V" } : Jvm.MethodName)) ∈ gW := gW_of (i := 665) (by decide +kernel) (by decide +kernel)
theorem kw_667 : (Jvm.Cond.instanceMethod ({ cls := "GuardVolumeModel", name := "find", desc := "(IIII)V" } : Jvm.MethodName)) ∈ gW := gW_of (i := 667) (by decide +kernel) (by decide +kernel)
theorem kw_668 : (Jvm.Cond.code ({ cls := "GuardVolumeModel", name := "find", desc := "(IIII)V" } : Jvm.MethodName) prog_7_method_29_code (5 : Nat) (Option.none : Option Jvm.ClassFile.FieldType)) ∈ gW := gW_of (i := 668) (by decide +kernel) (by decide +kernel)
theorem kw_669 : (Jvm.Cond.methodLink "GuardVolumeLaw" (107 : Nat) ({ cls := "GuardVolumeModel", name := "findings", desc := "(Z)I" } : Jvm.MethodName)) ∈ gW := gW_of (i := 669) (by decide +kernel) (by decide +kernel)
theorem kw_670 : (Jvm.Cond.instanceMethod ({ cls := "GuardVolumeModel", name := "findings", desc := "(Z)I" } : Jvm.MethodName)) ∈ gW := gW_of (i := 670) (by decide +kernel) (by decide +kernel)
theorem kw_671 : (Jvm.Cond.selects "GuardVolumeModel" ({ cls := "GuardVolumeModel", name := "findings", desc := "(Z)I" } : Jvm.MethodName) ({ cls := "GuardVolumeModel", name := "findings", desc := "(Z)I" } : Jvm.MethodName)) ∈ gW := gW_of (i := 671) (by decide +kernel) (by decide +kernel)
theorem kw_672 : (Jvm.Cond.code ({ cls := "GuardVolumeModel", name := "findings", desc := "(Z)I" } : Jvm.MethodName) prog_7_method_32_code (3 : Nat) (Option.some Jvm.ClassFile.FieldType.int)) ∈ gW := gW_of (i := 672) (by decide +kernel) (by decide +kernel)
theorem kw_673 : (Jvm.Cond.methodLink "GuardVolumeLaw" (110 : Nat) ({ cls := "GuardVolumeModel", name := "finding", desc := "(II)I" } : Jvm.MethodName)) ∈ gW := gW_of (i := 673) (by decide +kernel) (by decide +kernel)
theorem kw_674 : (Jvm.Cond.instanceMethod ({ cls := "GuardVolumeModel", name := "finding", desc := "(II)I" } : Jvm.MethodName)) ∈ gW := gW_of (i := 674) (by decide +kernel) (by decide +kernel)
theorem kw_675 : (Jvm.Cond.selects "GuardVolumeModel" ({ cls := "GuardVolumeModel", name := "finding", desc := "(II)I" } : Jvm.MethodName) ({ cls := "GuardVolumeModel", name := "finding", desc := "(II)I" } : Jvm.MethodName)) ∈ gW := gW_of (i := 675) (by decide +kernel) (by decide +kernel)
theorem kw_676 : (Jvm.Cond.code ({ cls := "GuardVolumeModel", name := "finding", desc := "(II)I" } : Jvm.MethodName) prog_7_method_33_code (3 : Nat) (Option.some Jvm.ClassFile.FieldType.int)) ∈ gW := gW_of (i := 676) (by decide +kernel) (by decide +kernel)
theorem kw_677 : (Jvm.Cond.methodLink "GuardVolumeLaw" (113 : Nat) ({ cls := "GuardVolumeModel", name := "expected", desc := "(II)I" } : Jvm.MethodName)) ∈ gW := gW_of (i := 677) (by decide +kernel) (by decide +kernel)
theorem kw_678 : (Jvm.Cond.instanceMethod ({ cls := "GuardVolumeModel", name := "expected", desc := "(II)I" } : Jvm.MethodName)) ∈ gW := gW_of (i := 678) (by decide +kernel) (by decide +kernel)
theorem kw_679 : (Jvm.Cond.selects "GuardVolumeModel" ({ cls := "GuardVolumeModel", name := "expected", desc := "(II)I" } : Jvm.MethodName) ({ cls := "GuardVolumeModel", name := "expected", desc := "(II)I" } : Jvm.MethodName)) ∈ gW := gW_of (i := 679) (by decide +kernel) (by decide +kernel)
theorem kw_680 : (Jvm.Cond.code ({ cls := "GuardVolumeModel", name := "expected", desc := "(II)I" } : Jvm.MethodName) prog_7_method_34_code (3 : Nat) (Option.some Jvm.ClassFile.FieldType.int)) ∈ gW := gW_of (i := 680) (by decide +kernel) (by decide +kernel)
theorem kw_681 : (Jvm.Cond.methodLink "GuardVolumeLaw" (116 : Nat) ({ cls := "GuardVolumeModel", name := "verdict", desc := "(II)I" } : Jvm.MethodName)) ∈ gW := gW_of (i := 681) (by decide +kernel) (by decide +kernel)
theorem kw_682 : (Jvm.Cond.instanceMethod ({ cls := "GuardVolumeModel", name := "verdict", desc := "(II)I" } : Jvm.MethodName)) ∈ gW := gW_of (i := 682) (by decide +kernel) (by decide +kernel)
theorem kw_683 : (Jvm.Cond.selects "GuardVolumeModel" ({ cls := "GuardVolumeModel", name := "verdict", desc := "(II)I" } : Jvm.MethodName) ({ cls := "GuardVolumeModel", name := "verdict", desc := "(II)I" } : Jvm.MethodName)) ∈ gW := gW_of (i := 683) (by decide +kernel) (by decide +kernel)
theorem kw_684 : (Jvm.Cond.code ({ cls := "GuardVolumeModel", name := "verdict", desc := "(II)I" } : Jvm.MethodName) prog_7_method_35_code (3 : Nat) (Option.some Jvm.ClassFile.FieldType.int)) ∈ gW := gW_of (i := 684) (by decide +kernel) (by decide +kernel)
theorem kw_685 : (Jvm.Cond.methodLink "GuardVolumeLaw" (119 : Nat) ({ cls := "GuardVolumeModel", name := "isRight", desc := "(II)Z" } : Jvm.MethodName)) ∈ gW := gW_of (i := 685) (by decide +kernel) (by decide +kernel)
theorem kw_686 : (Jvm.Cond.instanceMethod ({ cls := "GuardVolumeModel", name := "isRight", desc := "(II)Z" } : Jvm.MethodName)) ∈ gW := gW_of (i := 686) (by decide +kernel) (by decide +kernel)
theorem kw_687 : (Jvm.Cond.selects "GuardVolumeModel" ({ cls := "GuardVolumeModel", name := "isRight", desc := "(II)Z" } : Jvm.MethodName) ({ cls := "GuardVolumeModel", name := "isRight", desc := "(II)Z" } : Jvm.MethodName)) ∈ gW := gW_of (i := 687) (by decide +kernel) (by decide +kernel)
theorem kw_688 : (Jvm.Cond.code ({ cls := "GuardVolumeModel", name := "isRight", desc := "(II)Z" } : Jvm.MethodName) prog_7_method_36_code (3 : Nat) (Option.some Jvm.ClassFile.FieldType.boolean)) ∈ gW := gW_of (i := 688) (by decide +kernel) (by decide +kernel)
theorem kw_689 : (Jvm.Cond.methodLink "GuardVolumeLaw" (122 : Nat) ({ cls := "GuardVolumeModel", name := "raw", desc := "(III)I" } : Jvm.MethodName)) ∈ gW := gW_of (i := 689) (by decide +kernel) (by decide +kernel)
theorem kw_690 : (Jvm.Cond.instanceMethod ({ cls := "GuardVolumeModel", name := "raw", desc := "(III)I" } : Jvm.MethodName)) ∈ gW := gW_of (i := 690) (by decide +kernel) (by decide +kernel)
theorem kw_691 : (Jvm.Cond.selects "GuardVolumeModel" ({ cls := "GuardVolumeModel", name := "raw", desc := "(III)I" } : Jvm.MethodName) ({ cls := "GuardVolumeModel", name := "raw", desc := "(III)I" } : Jvm.MethodName)) ∈ gW := gW_of (i := 691) (by decide +kernel) (by decide +kernel)
theorem kw_692 : (Jvm.Cond.code ({ cls := "GuardVolumeModel", name := "raw", desc := "(III)I" } : Jvm.MethodName) prog_7_method_37_code (4 : Nat) (Option.some Jvm.ClassFile.FieldType.int)) ∈ gW := gW_of (i := 692) (by decide +kernel) (by decide +kernel)
theorem kw_693 : (Jvm.Cond.methodLink "GuardVolumeLaw" (125 : Nat) ({ cls := "GuardVolumeModel", name := "replace", desc := "(I)V" } : Jvm.MethodName)) ∈ gW := gW_of (i := 693) (by decide +kernel) (by decide +kernel)
theorem kw_694 : (Jvm.Cond.instanceMethod ({ cls := "GuardVolumeModel", name := "replace", desc := "(I)V" } : Jvm.MethodName)) ∈ gW := gW_of (i := 694) (by decide +kernel) (by decide +kernel)
theorem kw_695 : (Jvm.Cond.selects "GuardVolumeModel" ({ cls := "GuardVolumeModel", name := "replace", desc := "(I)V" } : Jvm.MethodName) ({ cls := "GuardVolumeModel", name := "replace", desc := "(I)V" } : Jvm.MethodName)) ∈ gW := gW_of (i := 695) (by decide +kernel) (by decide +kernel)
theorem kw_696 : (Jvm.Cond.code ({ cls := "GuardVolumeModel", name := "replace", desc := "(I)V" } : Jvm.MethodName) prog_7_method_38_code (3 : Nat) (Option.none : Option Jvm.ClassFile.FieldType)) ∈ gW := gW_of (i := 696) (by decide +kernel) (by decide +kernel)
theorem kw_697 : (Jvm.Cond.methodLink "GuardVolumeLaw" (128 : Nat) ({ cls := "GuardVolumeModel", name := "rebuild", desc := "(I)I" } : Jvm.MethodName)) ∈ gW := gW_of (i := 697) (by decide +kernel) (by decide +kernel)
theorem kw_698 : (Jvm.Cond.instanceMethod ({ cls := "GuardVolumeModel", name := "rebuild", desc := "(I)I" } : Jvm.MethodName)) ∈ gW := gW_of (i := 698) (by decide +kernel) (by decide +kernel)
theorem kw_699 : (Jvm.Cond.selects "GuardVolumeModel" ({ cls := "GuardVolumeModel", name := "rebuild", desc := "(I)I" } : Jvm.MethodName) ({ cls := "GuardVolumeModel", name := "rebuild", desc := "(I)I" } : Jvm.MethodName)) ∈ gW := gW_of (i := 699) (by decide +kernel) (by decide +kernel)
theorem kw_700 : (Jvm.Cond.code ({ cls := "GuardVolumeModel", name := "rebuild", desc := "(I)I" } : Jvm.MethodName) prog_7_method_39_code (7 : Nat) (Option.some Jvm.ClassFile.FieldType.int)) ∈ gW := gW_of (i := 700) (by decide +kernel) (by decide +kernel)
theorem kw_701 : (Jvm.Cond.methodLink "GuardVolumeLaw" (131 : Nat) ({ cls := "GuardVolumeModel", name := "count", desc := "(I)I" } : Jvm.MethodName)) ∈ gW := gW_of (i := 701) (by decide +kernel) (by decide +kernel)
theorem kw_702 : (Jvm.Cond.instanceMethod ({ cls := "GuardVolumeModel", name := "count", desc := "(I)I" } : Jvm.MethodName)) ∈ gW := gW_of (i := 702) (by decide +kernel) (by decide +kernel)
theorem kw_703 : (Jvm.Cond.selects "GuardVolumeModel" ({ cls := "GuardVolumeModel", name := "count", desc := "(I)I" } : Jvm.MethodName) ({ cls := "GuardVolumeModel", name := "count", desc := "(I)I" } : Jvm.MethodName)) ∈ gW := gW_of (i := 703) (by decide +kernel) (by decide +kernel)
theorem kw_704 : (Jvm.Cond.code ({ cls := "GuardVolumeModel", name := "count", desc := "(I)I" } : Jvm.MethodName) prog_7_method_40_code (4 : Nat) (Option.some Jvm.ClassFile.FieldType.int)) ∈ gW := gW_of (i := 704) (by decide +kernel) (by decide +kernel)
theorem kw_705 : (Jvm.Cond.arrayClass Jvm.ClassFile.FieldType.long) ∈ gW := gW_of (i := 705) (by decide +kernel) (by decide +kernel)
theorem kw_706 : (Jvm.Cond.sameMethod "java/lang/Throwable" "java/lang/Throwable" "fillInStackTrace" "(I)Ljava/lang/Throwable;") ∈ gW := gW_of (i := 706) (by decide +kernel) (by decide +kernel)
theorem gW_sel {q : MethodName × Nat} (h : q ∈ lw_privs) : Cond.selects q.1.cls q.1 q.1 ∈ gW := List.mem_filter.mpr ⟨List.mem_append_left _ (List.mem_map.mpr ⟨q, h, rfl⟩), rfl⟩
theorem ks_G_goodCopy : Cond.selects "GuardVolume" ⟨"GuardVolume", "goodCopy", "(I)I"⟩ ⟨"GuardVolume", "goodCopy", "(I)I"⟩ ∈ gW := gW_sel (q := (⟨"GuardVolume", "goodCopy", "(I)I"⟩, 11)) (List.mem_of_getElem? (i := 1) rfl)
theorem ks_G_judge : Cond.selects "GuardVolume" ⟨"GuardVolume", "judge", "(II)I"⟩ ⟨"GuardVolume", "judge", "(II)I"⟩ ∈ gW := gW_sel (q := (⟨"GuardVolume", "judge", "(II)I"⟩, 11)) (List.mem_of_getElem? (i := 2) rfl)
theorem ks_G_driveOf : Cond.selects "GuardVolume" ⟨"GuardVolume", "driveOf", "(I)LGuardVolume$Drive;"⟩ ⟨"GuardVolume", "driveOf", "(I)LGuardVolume$Drive;"⟩ ∈ gW := gW_sel (q := (⟨"GuardVolume", "driveOf", "(I)LGuardVolume$Drive;"⟩, 11)) (List.mem_of_getElem? (i := 3) rfl)
theorem ks_D_at : Cond.selects "GuardVolume$Drive" ⟨"GuardVolume$Drive", "at", "(II)I"⟩ ⟨"GuardVolume$Drive", "at", "(II)I"⟩ ∈ gW := gW_sel (q := (⟨"GuardVolume$Drive", "at", "(II)I"⟩, 6)) (List.mem_of_getElem? (i := 4) rfl)
theorem ks_G_expectedVersion : Cond.selects "GuardVolume" ⟨"GuardVolume", "expectedVersion", "(II)I"⟩ ⟨"GuardVolume", "expectedVersion", "(II)I"⟩ ∈ gW := gW_sel (q := (⟨"GuardVolume", "expectedVersion", "(II)I"⟩, 11)) (List.mem_of_getElem? (i := 5) rfl)
theorem ks_G_listDrive : Cond.selects "GuardVolume" ⟨"GuardVolume", "listDrive", "(II)I"⟩ ⟨"GuardVolume", "listDrive", "(II)I"⟩ ∈ gW := gW_sel (q := (⟨"GuardVolume", "listDrive", "(II)I"⟩, 11)) (List.mem_of_getElem? (i := 6) rfl)
theorem ks_G_isPageRight : Cond.selects "GuardVolume" ⟨"GuardVolume", "isPageRight", "(II)Z"⟩ ⟨"GuardVolume", "isPageRight", "(II)Z"⟩ ∈ gW := gW_sel (q := (⟨"GuardVolume", "isPageRight", "(II)Z"⟩, 11)) (List.mem_of_getElem? (i := 7) rfl)
theorem ks_D_giveWords : Cond.selects "GuardVolume$Drive" ⟨"GuardVolume$Drive", "giveWords", "(I[I)V"⟩ ⟨"GuardVolume$Drive", "giveWords", "(I[I)V"⟩ ∈ gW := gW_sel (q := (⟨"GuardVolume$Drive", "giveWords", "(I[I)V"⟩, 6)) (List.mem_of_getElem? (i := 8) rfl)
theorem ks_G_putNotedBlock : Cond.selects "GuardVolume" ⟨"GuardVolume", "putNotedBlock", "()Z"⟩ ⟨"GuardVolume", "putNotedBlock", "()Z"⟩ ∈ gW := gW_sel (q := (⟨"GuardVolume", "putNotedBlock", "()Z"⟩, 11)) (List.mem_of_getElem? (i := 9) rfl)
theorem ks_G_putCopy : Cond.selects "GuardVolume" ⟨"GuardVolume", "putCopy", "(II[II)Z"⟩ ⟨"GuardVolume", "putCopy", "(II[II)Z"⟩ ∈ gW := gW_sel (q := (⟨"GuardVolume", "putCopy", "(II[II)Z"⟩, 11)) (List.mem_of_getElem? (i := 10) rfl)
theorem ks_G_store : Cond.selects "GuardVolume" ⟨"GuardVolume", "store", "(II[II)Z"⟩ ⟨"GuardVolume", "store", "(II[II)Z"⟩ ∈ gW := gW_sel (q := (⟨"GuardVolume", "store", "(II[II)Z"⟩, 11)) (List.mem_of_getElem? (i := 11) rfl)
theorem ks_P_allowsWrite : Cond.selects "GuardVolume$Power" ⟨"GuardVolume$Power", "allowsWrite", "()Z"⟩ ⟨"GuardVolume$Power", "allowsWrite", "()Z"⟩ ∈ gW := gW_sel (q := (⟨"GuardVolume$Power", "allowsWrite", "()Z"⟩, 2)) (List.mem_of_getElem? (i := 12) rfl)
theorem ks_D_take : Cond.selects "GuardVolume$Drive" ⟨"GuardVolume$Drive", "take", "(I[I)V"⟩ ⟨"GuardVolume$Drive", "take", "(I[I)V"⟩ ∈ gW := gW_sel (q := (⟨"GuardVolume$Drive", "take", "(I[I)V"⟩, 6)) (List.mem_of_getElem? (i := 13) rfl)
theorem ks_D_planOfNext : Cond.selects "GuardVolume$Drive" ⟨"GuardVolume$Drive", "planOfNext", "(I)I"⟩ ⟨"GuardVolume$Drive", "planOfNext", "(I)I"⟩ ∈ gW := gW_sel (q := (⟨"GuardVolume$Drive", "planOfNext", "(I)I"⟩, 6)) (List.mem_of_getElem? (i := 14) rfl)
theorem ks_D_keep : Cond.selects "GuardVolume$Drive" ⟨"GuardVolume$Drive", "keep", "(I[II)V"⟩ ⟨"GuardVolume$Drive", "keep", "(I[II)V"⟩ ∈ gW := gW_sel (q := (⟨"GuardVolume$Drive", "keep", "(I[II)V"⟩, 6)) (List.mem_of_getElem? (i := 15) rfl)
theorem ks_D_removePlan : Cond.selects "GuardVolume$Drive" ⟨"GuardVolume$Drive", "removePlan", "(I)V"⟩ ⟨"GuardVolume$Drive", "removePlan", "(I)V"⟩ ∈ gW := gW_sel (q := (⟨"GuardVolume$Drive", "removePlan", "(I)V"⟩, 6)) (List.mem_of_getElem? (i := 16) rfl)
theorem ks_G_storeList : Cond.selects "GuardVolume" ⟨"GuardVolume", "storeList", "(III)Z"⟩ ⟨"GuardVolume", "storeList", "(III)Z"⟩ ∈ gW := gW_sel (q := (⟨"GuardVolume", "storeList", "(III)Z"⟩, 11)) (List.mem_of_getElem? (i := 17) rfl)
theorem ks_D_addPlan : Cond.selects "GuardVolume$Drive" ⟨"GuardVolume$Drive", "addPlan", "(III)V"⟩ ⟨"GuardVolume$Drive", "addPlan", "(III)V"⟩ ∈ gW := gW_sel (q := (⟨"GuardVolume$Drive", "addPlan", "(III)V"⟩, 6)) (List.mem_of_getElem? (i := 18) rfl)
theorem ks_G_scrubBlock : Cond.selects "GuardVolume" ⟨"GuardVolume", "scrubBlock", "(I)Z"⟩ ⟨"GuardVolume", "scrubBlock", "(I)Z"⟩ ∈ gW := gW_sel (q := (⟨"GuardVolume", "scrubBlock", "(I)Z"⟩, 11)) (List.mem_of_getElem? (i := 19) rfl)
theorem ks_G_mendList : Cond.selects "GuardVolume" ⟨"GuardVolume", "mendList", "(II)Z"⟩ ⟨"GuardVolume", "mendList", "(II)Z"⟩ ∈ gW := gW_sel (q := (⟨"GuardVolume", "mendList", "(II)Z"⟩, 11)) (List.mem_of_getElem? (i := 20) rfl)
theorem ks_F_tell : Cond.selects "GuardVolume$Findings" ⟨"GuardVolume$Findings", "tell", "(IIII)V"⟩ ⟨"GuardVolume$Findings", "tell", "(IIII)V"⟩ ∈ gW := gW_sel (q := (⟨"GuardVolume$Findings", "tell", "(IIII)V"⟩, 3)) (List.mem_of_getElem? (i := 21) rfl)
theorem ks_G_mendCopies : Cond.selects "GuardVolume" ⟨"GuardVolume", "mendCopies", "(I)Z"⟩ ⟨"GuardVolume", "mendCopies", "(I)Z"⟩ ∈ gW := gW_sel (q := (⟨"GuardVolume", "mendCopies", "(I)Z"⟩, 11)) (List.mem_of_getElem? (i := 22) rfl)
theorem ks_D_wipe : Cond.selects "GuardVolume$Drive" ⟨"GuardVolume$Drive", "wipe", "()V"⟩ ⟨"GuardVolume$Drive", "wipe", "()V"⟩ ∈ gW := gW_sel (q := (⟨"GuardVolume$Drive", "wipe", "()V"⟩, 6)) (List.mem_of_getElem? (i := 23) rfl)
theorem ks_G_rebuildBlock : Cond.selects "GuardVolume" ⟨"GuardVolume", "rebuildBlock", "(III)Z"⟩ ⟨"GuardVolume", "rebuildBlock", "(III)Z"⟩ ∈ gW := gW_sel (q := (⟨"GuardVolume", "rebuildBlock", "(III)Z"⟩, 11)) (List.mem_of_getElem? (i := 24) rfl)
theorem ks_G_greatestPageVersion : Cond.selects "GuardVolume" ⟨"GuardVolume", "greatestPageVersion", "()I"⟩ ⟨"GuardVolume", "greatestPageVersion", "()I"⟩ ∈ gW := gW_sel (q := (⟨"GuardVolume", "greatestPageVersion", "()I"⟩, 11)) (List.mem_of_getElem? (i := 25) rfl)
theorem ks_M_sumAt : Cond.selects "GuardVolumeModel" ⟨"GuardVolumeModel", "sumAt", "(I)I"⟩ ⟨"GuardVolumeModel", "sumAt", "(I)I"⟩ ∈ gW := gW_sel (q := (⟨"GuardVolumeModel", "sumAt", "(I)I"⟩, 20)) (List.mem_of_getElem? (i := 26) rfl)
theorem ks_M_codeOf : Cond.selects "GuardVolumeModel" ⟨"GuardVolumeModel", "codeOf", "(I)I"⟩ ⟨"GuardVolumeModel", "codeOf", "(I)I"⟩ ∈ gW := gW_sel (q := (⟨"GuardVolumeModel", "codeOf", "(I)I"⟩, 20)) (List.mem_of_getElem? (i := 27) rfl)
theorem ks_M_verdictOf : Cond.selects "GuardVolumeModel" ⟨"GuardVolumeModel", "verdictOf", "(II)I"⟩ ⟨"GuardVolumeModel", "verdictOf", "(II)I"⟩ ∈ gW := gW_sel (q := (⟨"GuardVolumeModel", "verdictOf", "(II)I"⟩, 20)) (List.mem_of_getElem? (i := 28) rfl)
theorem ks_M_isWhole : Cond.selects "GuardVolumeModel" ⟨"GuardVolumeModel", "isWhole", "(II)Z"⟩ ⟨"GuardVolumeModel", "isWhole", "(II)Z"⟩ ∈ gW := gW_sel (q := (⟨"GuardVolumeModel", "isWhole", "(II)Z"⟩, 20)) (List.mem_of_getElem? (i := 29) rfl)
theorem ks_M_isUnknown : Cond.selects "GuardVolumeModel" ⟨"GuardVolumeModel", "isUnknown", "(II)Z"⟩ ⟨"GuardVolumeModel", "isUnknown", "(II)Z"⟩ ∈ gW := gW_sel (q := (⟨"GuardVolumeModel", "isUnknown", "(II)Z"⟩, 20)) (List.mem_of_getElem? (i := 30) rfl)
theorem ks_M_isRightPage : Cond.selects "GuardVolumeModel" ⟨"GuardVolumeModel", "isRightPage", "(II)Z"⟩ ⟨"GuardVolumeModel", "isRightPage", "(II)Z"⟩ ∈ gW := gW_sel (q := (⟨"GuardVolumeModel", "isRightPage", "(II)Z"⟩, 20)) (List.mem_of_getElem? (i := 31) rfl)
theorem ks_M_expectedOf : Cond.selects "GuardVolumeModel" ⟨"GuardVolumeModel", "expectedOf", "(II)I"⟩ ⟨"GuardVolumeModel", "expectedOf", "(II)I"⟩ ∈ gW := gW_sel (q := (⟨"GuardVolumeModel", "expectedOf", "(II)I"⟩, 20)) (List.mem_of_getElem? (i := 32) rfl)
theorem ks_M_listed : Cond.selects "GuardVolumeModel" ⟨"GuardVolumeModel", "listed", "(II)I"⟩ ⟨"GuardVolumeModel", "listed", "(II)I"⟩ ∈ gW := gW_sel (q := (⟨"GuardVolumeModel", "listed", "(II)I"⟩, 20)) (List.mem_of_getElem? (i := 33) rfl)
theorem ks_M_takeWords : Cond.selects "GuardVolumeModel" ⟨"GuardVolumeModel", "takeWords", "(II)V"⟩ ⟨"GuardVolumeModel", "takeWords", "(II)V"⟩ ∈ gW := gW_sel (q := (⟨"GuardVolumeModel", "takeWords", "(II)V"⟩, 20)) (List.mem_of_getElem? (i := 34) rfl)
theorem ks_M_put : Cond.selects "GuardVolumeModel" ⟨"GuardVolumeModel", "put", "(II)Z"⟩ ⟨"GuardVolumeModel", "put", "(II)Z"⟩ ∈ gW := gW_sel (q := (⟨"GuardVolumeModel", "put", "(II)Z"⟩, 20)) (List.mem_of_getElem? (i := 35) rfl)
theorem ks_M_putCopy : Cond.selects "GuardVolumeModel" ⟨"GuardVolumeModel", "putCopy", "(III)Z"⟩ ⟨"GuardVolumeModel", "putCopy", "(III)Z"⟩ ∈ gW := gW_sel (q := (⟨"GuardVolumeModel", "putCopy", "(III)Z"⟩, 20)) (List.mem_of_getElem? (i := 36) rfl)
theorem ks_M_storeRow : Cond.selects "GuardVolumeModel" ⟨"GuardVolumeModel", "storeRow", "(III)Z"⟩ ⟨"GuardVolumeModel", "storeRow", "(III)Z"⟩ ∈ gW := gW_sel (q := (⟨"GuardVolumeModel", "storeRow", "(III)Z"⟩, 20)) (List.mem_of_getElem? (i := 37) rfl)
theorem ks_M_store : Cond.selects "GuardVolumeModel" ⟨"GuardVolumeModel", "store", "(III)Z"⟩ ⟨"GuardVolumeModel", "store", "(III)Z"⟩ ∈ gW := gW_sel (q := (⟨"GuardVolumeModel", "store", "(III)Z"⟩, 20)) (List.mem_of_getElem? (i := 38) rfl)
theorem ks_M_planOf : Cond.selects "GuardVolumeModel" ⟨"GuardVolumeModel", "planOf", "(I)I"⟩ ⟨"GuardVolumeModel", "planOf", "(I)I"⟩ ∈ gW := gW_sel (q := (⟨"GuardVolumeModel", "planOf", "(I)I"⟩, 20)) (List.mem_of_getElem? (i := 39) rfl)
theorem ks_M_lay : Cond.selects "GuardVolumeModel" ⟨"GuardVolumeModel", "lay", "(III)V"⟩ ⟨"GuardVolumeModel", "lay", "(III)V"⟩ ∈ gW := gW_sel (q := (⟨"GuardVolumeModel", "lay", "(III)V"⟩, 20)) (List.mem_of_getElem? (i := 40) rfl)
theorem ks_M_dropPlan : Cond.selects "GuardVolumeModel" ⟨"GuardVolumeModel", "dropPlan", "(II)V"⟩ ⟨"GuardVolumeModel", "dropPlan", "(II)V"⟩ ∈ gW := gW_sel (q := (⟨"GuardVolumeModel", "dropPlan", "(II)V"⟩, 20)) (List.mem_of_getElem? (i := 41) rfl)
theorem ks_M_storeList : Cond.selects "GuardVolumeModel" ⟨"GuardVolumeModel", "storeList", "(III)Z"⟩ ⟨"GuardVolumeModel", "storeList", "(III)Z"⟩ ∈ gW := gW_sel (q := (⟨"GuardVolumeModel", "storeList", "(III)Z"⟩, 20)) (List.mem_of_getElem? (i := 42) rfl)
theorem ks_M_scrubOf : Cond.selects "GuardVolumeModel" ⟨"GuardVolumeModel", "scrubOf", "(I)Z"⟩ ⟨"GuardVolumeModel", "scrubOf", "(I)Z"⟩ ∈ gW := gW_sel (q := (⟨"GuardVolumeModel", "scrubOf", "(I)Z"⟩, 20)) (List.mem_of_getElem? (i := 43) rfl)
theorem ks_M_find : Cond.selects "GuardVolumeModel" ⟨"GuardVolumeModel", "find", "(IIII)V"⟩ ⟨"GuardVolumeModel", "find", "(IIII)V"⟩ ∈ gW := gW_sel (q := (⟨"GuardVolumeModel", "find", "(IIII)V"⟩, 20)) (List.mem_of_getElem? (i := 44) rfl)
end
section
/-! decode rows (written by names.py) -/
theorem dG_init_0 : decode cG_init 0 = .ok (.aload_n 0, 1) := by decide +kernel
theorem dG_init_1 : decode cG_init 1 = .ok (.invokespecial 3, 3) := by decide +kernel
theorem dG_init_4 : decode cG_init 4 = .ok (.aload_n 0, 1) := by decide +kernel
theorem dG_init_5 : decode cG_init 5 = .ok (.new 9, 3) := by decide +kernel
theorem dG_init_8 : decode cG_init 8 = .ok (.dup, 1) := by decide +kernel
theorem dG_init_9 : decode cG_init 9 = .ok (.invokespecial 11, 3) := by decide +kernel
theorem dG_init_12 : decode cG_init 12 = .ok (.putfield 12, 3) := by decide +kernel
theorem dG_init_15 : decode cG_init 15 = .ok (.aload_n 0, 1) := by decide +kernel
theorem dG_init_16 : decode cG_init 16 = .ok (.new 9, 3) := by decide +kernel
theorem dG_init_19 : decode cG_init 19 = .ok (.dup, 1) := by decide +kernel
theorem dG_init_20 : decode cG_init 20 = .ok (.invokespecial 11, 3) := by decide +kernel
theorem dG_init_23 : decode cG_init 23 = .ok (.putfield 16, 3) := by decide +kernel
theorem dG_init_26 : decode cG_init 26 = .ok (.aload_n 0, 1) := by decide +kernel
theorem dG_init_27 : decode cG_init 27 = .ok (.new 19, 3) := by decide +kernel
theorem dG_init_30 : decode cG_init 30 = .ok (.dup, 1) := by decide +kernel
theorem dG_init_31 : decode cG_init 31 = .ok (.invokespecial 21, 3) := by decide +kernel
theorem dG_init_34 : decode cG_init 34 = .ok (.putfield 22, 3) := by decide +kernel
theorem dG_init_37 : decode cG_init 37 = .ok (.aload_n 0, 1) := by decide +kernel
theorem dG_init_38 : decode cG_init 38 = .ok (.new 26, 3) := by decide +kernel
theorem dG_init_41 : decode cG_init 41 = .ok (.dup, 1) := by decide +kernel
theorem dG_init_42 : decode cG_init 42 = .ok (.invokespecial 28, 3) := by decide +kernel
theorem dG_init_45 : decode cG_init 45 = .ok (.putfield 29, 3) := by decide +kernel
theorem dG_init_48 : decode cG_init 48 = .ok (.aload_n 0, 1) := by decide +kernel
theorem dG_init_49 : decode cG_init 49 = .ok (.new 33, 3) := by decide +kernel
theorem dG_init_52 : decode cG_init 52 = .ok (.dup, 1) := by decide +kernel
theorem dG_init_53 : decode cG_init 53 = .ok (.invokespecial 35, 3) := by decide +kernel
theorem dG_init_56 : decode cG_init 56 = .ok (.putfield 36, 3) := by decide +kernel
theorem dG_init_59 : decode cG_init 59 = .ok (.aload_n 0, 1) := by decide +kernel
theorem dG_init_60 : decode cG_init 60 = .ok (.bipush 16, 2) := by decide +kernel
theorem dG_init_62 : decode cG_init 62 = .ok (.newarray .int, 2) := by decide +kernel
theorem dG_init_64 : decode cG_init 64 = .ok (.putfield 40, 3) := by decide +kernel
theorem dG_init_67 : decode cG_init 67 = .ok (.aload_n 0, 1) := by decide +kernel
theorem dG_init_68 : decode cG_init 68 = .ok (.iconst 0, 1) := by decide +kernel
theorem dG_init_69 : decode cG_init 69 = .ok (.putfield 44, 3) := by decide +kernel
theorem dG_init_72 : decode cG_init 72 = .ok (.aload_n 0, 1) := by decide +kernel
theorem dG_init_73 : decode cG_init 73 = .ok (.iconst 0, 1) := by decide +kernel
theorem dG_init_74 : decode cG_init 74 = .ok (.putfield 48, 3) := by decide +kernel
theorem dG_init_77 : decode cG_init 77 = .ok (.aload_n 0, 1) := by decide +kernel
theorem dG_init_78 : decode cG_init 78 = .ok (.bipush 11, 2) := by decide +kernel
theorem dG_init_80 : decode cG_init 80 = .ok (.newarray .int, 2) := by decide +kernel
theorem dG_init_82 : decode cG_init 82 = .ok (.putfield 51, 3) := by decide +kernel
theorem dG_init_85 : decode cG_init 85 = .ok (.aload_n 0, 1) := by decide +kernel
theorem dG_init_86 : decode cG_init 86 = .ok (.bipush 8, 2) := by decide +kernel
theorem dG_init_88 : decode cG_init 88 = .ok (.newarray .int, 2) := by decide +kernel
theorem dG_init_90 : decode cG_init 90 = .ok (.putfield 54, 3) := by decide +kernel
theorem dG_init_93 : decode cG_init 93 = .ok (.aload_n 0, 1) := by decide +kernel
theorem dG_init_94 : decode cG_init 94 = .ok (.bipush 8, 2) := by decide +kernel
theorem dG_init_96 : decode cG_init 96 = .ok (.newarray .int, 2) := by decide +kernel
theorem dG_init_98 : decode cG_init 98 = .ok (.putfield 57, 3) := by decide +kernel
theorem dG_init_101 : decode cG_init 101 = .ok (.return_, 1) := by decide +kernel
theorem dD_init_0 : decode cD_init 0 = .ok (.aload_n 0, 1) := by decide +kernel
theorem dD_init_1 : decode cD_init 1 = .ok (.invokespecial 3, 3) := by decide +kernel
theorem dD_init_4 : decode cD_init 4 = .ok (.aload_n 0, 1) := by decide +kernel
theorem dD_init_5 : decode cD_init 5 = .ok (.sipush 792, 3) := by decide +kernel
theorem dD_init_8 : decode cD_init 8 = .ok (.newarray .int, 2) := by decide +kernel
theorem dD_init_10 : decode cD_init 10 = .ok (.putfield 9, 3) := by decide +kernel
theorem dD_init_13 : decode cD_init 13 = .ok (.aload_n 0, 1) := by decide +kernel
theorem dD_init_14 : decode cD_init 14 = .ok (.bipush 8, 2) := by decide +kernel
theorem dD_init_16 : decode cD_init 16 = .ok (.newarray .int, 2) := by decide +kernel
theorem dD_init_18 : decode cD_init 18 = .ok (.putfield 15, 3) := by decide +kernel
theorem dD_init_21 : decode cD_init 21 = .ok (.aload_n 0, 1) := by decide +kernel
theorem dD_init_22 : decode cD_init 22 = .ok (.bipush 8, 2) := by decide +kernel
theorem dD_init_24 : decode cD_init 24 = .ok (.newarray .int, 2) := by decide +kernel
theorem dD_init_26 : decode cD_init 26 = .ok (.putfield 18, 3) := by decide +kernel
theorem dD_init_29 : decode cD_init 29 = .ok (.aload_n 0, 1) := by decide +kernel
theorem dD_init_30 : decode cD_init 30 = .ok (.bipush 8, 2) := by decide +kernel
theorem dD_init_32 : decode cD_init 32 = .ok (.newarray .int, 2) := by decide +kernel
theorem dD_init_34 : decode cD_init 34 = .ok (.putfield 21, 3) := by decide +kernel
theorem dD_init_37 : decode cD_init 37 = .ok (.aload_n 0, 1) := by decide +kernel
theorem dD_init_38 : decode cD_init 38 = .ok (.iconst 0, 1) := by decide +kernel
theorem dD_init_39 : decode cD_init 39 = .ok (.putfield 24, 3) := by decide +kernel
theorem dD_init_42 : decode cD_init 42 = .ok (.aload_n 0, 1) := by decide +kernel
theorem dD_init_43 : decode cD_init 43 = .ok (.iconst 0, 1) := by decide +kernel
theorem dD_init_44 : decode cD_init 44 = .ok (.putfield 28, 3) := by decide +kernel
theorem dD_init_47 : decode cD_init 47 = .ok (.bipush 11, 2) := by decide +kernel
theorem dD_init_49 : decode cD_init 49 = .ok (.newarray .int, 2) := by decide +kernel
theorem dD_init_51 : decode cD_init 51 = .ok (.astore_n 1, 1) := by decide +kernel
theorem dD_init_52 : decode cD_init 52 = .ok (.iconst 0, 1) := by decide +kernel
theorem dD_init_53 : decode cD_init 53 = .ok (.istore_n 2, 1) := by decide +kernel
theorem dD_init_54 : decode cD_init 54 = .ok (.iload_n 2, 1) := by decide +kernel
theorem dD_init_55 : decode cD_init 55 = .ok (.bipush 72, 2) := by decide +kernel
theorem dD_init_57 : decode cD_init 57 = .ok (.if_icmp .ge 38, 3) := by decide +kernel
theorem dD_init_60 : decode cD_init 60 = .ok (.aload_n 1, 1) := by decide +kernel
theorem dD_init_61 : decode cD_init 61 = .ok (.bipush 9, 2) := by decide +kernel
theorem dD_init_63 : decode cD_init 63 = .ok (.iload_n 2, 1) := by decide +kernel
theorem dD_init_64 : decode cD_init 64 = .ok (.iastore, 1) := by decide +kernel
theorem dD_init_65 : decode cD_init 65 = .ok (.aload_n 1, 1) := by decide +kernel
theorem dD_init_66 : decode cD_init 66 = .ok (.bipush 8, 2) := by decide +kernel
theorem dD_init_68 : decode cD_init 68 = .ok (.aload_n 1, 1) := by decide +kernel
theorem dD_init_69 : decode cD_init 69 = .ok (.iconst 0, 1) := by decide +kernel
theorem dD_init_70 : decode cD_init 70 = .ok (.invokestatic 31, 3) := by decide +kernel
theorem dD_init_73 : decode cD_init 73 = .ok (.iastore, 1) := by decide +kernel
theorem dD_init_74 : decode cD_init 74 = .ok (.aload_n 1, 1) := by decide +kernel
theorem dD_init_75 : decode cD_init 75 = .ok (.iconst 0, 1) := by decide +kernel
theorem dD_init_76 : decode cD_init 76 = .ok (.aload_n 0, 1) := by decide +kernel
theorem dD_init_77 : decode cD_init 77 = .ok (.getfield 9, 3) := by decide +kernel
theorem dD_init_80 : decode cD_init 80 = .ok (.iload_n 2, 1) := by decide +kernel
theorem dD_init_81 : decode cD_init 81 = .ok (.bipush 11, 2) := by decide +kernel
theorem dD_init_83 : decode cD_init 83 = .ok (.imul, 1) := by decide +kernel
theorem dD_init_84 : decode cD_init 84 = .ok (.bipush 11, 2) := by decide +kernel
theorem dD_init_86 : decode cD_init 86 = .ok (.invokestatic 35, 3) := by decide +kernel
theorem dD_init_89 : decode cD_init 89 = .ok (.iinc 2 1, 3) := by decide +kernel
theorem dD_init_92 : decode cD_init 92 = .ok (.goto (-38), 3) := by decide +kernel
theorem dD_init_95 : decode cD_init 95 = .ok (.return_, 1) := by decide +kernel
theorem dG_sumOf_0 : decode cG_sumOf 0 = .ok (.iconst 0, 1) := by decide +kernel
theorem dG_sumOf_1 : decode cG_sumOf 1 = .ok (.istore_n 2, 1) := by decide +kernel
theorem dG_sumOf_2 : decode cG_sumOf 2 = .ok (.iconst 0, 1) := by decide +kernel
theorem dG_sumOf_3 : decode cG_sumOf 3 = .ok (.istore_n 3, 1) := by decide +kernel
theorem dG_sumOf_4 : decode cG_sumOf 4 = .ok (.iload_n 3, 1) := by decide +kernel
theorem dG_sumOf_5 : decode cG_sumOf 5 = .ok (.bipush 11, 2) := by decide +kernel
theorem dG_sumOf_7 : decode cG_sumOf 7 = .ok (.if_icmp .ge 30, 3) := by decide +kernel
theorem dG_sumOf_10 : decode cG_sumOf 10 = .ok (.iload_n 3, 1) := by decide +kernel
theorem dG_sumOf_11 : decode cG_sumOf 11 = .ok (.bipush 8, 2) := by decide +kernel
theorem dG_sumOf_13 : decode cG_sumOf 13 = .ok (.if_icmp .eq 18, 3) := by decide +kernel
theorem dG_sumOf_16 : decode cG_sumOf 16 = .ok (.iload_n 2, 1) := by decide +kernel
theorem dG_sumOf_17 : decode cG_sumOf 17 = .ok (.iconst 5, 1) := by decide +kernel
theorem dG_sumOf_18 : decode cG_sumOf 18 = .ok (.ishl, 1) := by decide +kernel
theorem dG_sumOf_19 : decode cG_sumOf 19 = .ok (.iload_n 2, 1) := by decide +kernel
theorem dG_sumOf_20 : decode cG_sumOf 20 = .ok (.bipush 27, 2) := by decide +kernel
theorem dG_sumOf_22 : decode cG_sumOf 22 = .ok (.iushr, 1) := by decide +kernel
theorem dG_sumOf_23 : decode cG_sumOf 23 = .ok (.ior, 1) := by decide +kernel
theorem dG_sumOf_24 : decode cG_sumOf 24 = .ok (.aload_n 0, 1) := by decide +kernel
theorem dG_sumOf_25 : decode cG_sumOf 25 = .ok (.iload_n 1, 1) := by decide +kernel
theorem dG_sumOf_26 : decode cG_sumOf 26 = .ok (.iload_n 3, 1) := by decide +kernel
theorem dG_sumOf_27 : decode cG_sumOf 27 = .ok (.iadd, 1) := by decide +kernel
theorem dG_sumOf_28 : decode cG_sumOf 28 = .ok (.iaload, 1) := by decide +kernel
theorem dG_sumOf_29 : decode cG_sumOf 29 = .ok (.iadd, 1) := by decide +kernel
theorem dG_sumOf_30 : decode cG_sumOf 30 = .ok (.istore_n 2, 1) := by decide +kernel
theorem dG_sumOf_31 : decode cG_sumOf 31 = .ok (.iinc 3 1, 3) := by decide +kernel
theorem dG_sumOf_34 : decode cG_sumOf 34 = .ok (.goto (-30), 3) := by decide +kernel
theorem dG_sumOf_37 : decode cG_sumOf 37 = .ok (.iload_n 2, 1) := by decide +kernel
theorem dG_sumOf_38 : decode cG_sumOf 38 = .ok (.ireturn, 1) := by decide +kernel
theorem dP_init_0 : decode cP_init 0 = .ok (.aload_n 0, 1) := by decide +kernel
theorem dP_init_1 : decode cP_init 1 = .ok (.invokespecial 1, 3) := by decide +kernel
theorem dP_init_4 : decode cP_init 4 = .ok (.aload_n 0, 1) := by decide +kernel
theorem dP_init_5 : decode cP_init 5 = .ok (.iconst 1, 1) := by decide +kernel
theorem dP_init_6 : decode cP_init 6 = .ok (.putfield 7, 3) := by decide +kernel
theorem dP_init_9 : decode cP_init 9 = .ok (.aload_n 0, 1) := by decide +kernel
theorem dP_init_10 : decode cP_init 10 = .ok (.iconst (-1), 1) := by decide +kernel
theorem dP_init_11 : decode cP_init 11 = .ok (.putfield 13, 3) := by decide +kernel
theorem dP_init_14 : decode cP_init 14 = .ok (.return_, 1) := by decide +kernel
theorem dJ_init_0 : decode cJ_init 0 = .ok (.aload_n 0, 1) := by decide +kernel
theorem dJ_init_1 : decode cJ_init 1 = .ok (.invokespecial 3, 3) := by decide +kernel
theorem dJ_init_4 : decode cJ_init 4 = .ok (.aload_n 0, 1) := by decide +kernel
theorem dJ_init_5 : decode cJ_init 5 = .ok (.bipush 8, 2) := by decide +kernel
theorem dJ_init_7 : decode cJ_init 7 = .ok (.newarray .int, 2) := by decide +kernel
theorem dJ_init_9 : decode cJ_init 9 = .ok (.putfield 9, 3) := by decide +kernel
theorem dJ_init_12 : decode cJ_init 12 = .ok (.aload_n 0, 1) := by decide +kernel
theorem dJ_init_13 : decode cJ_init 13 = .ok (.iconst (-1), 1) := by decide +kernel
theorem dJ_init_14 : decode cJ_init 14 = .ok (.putfield 15, 3) := by decide +kernel
theorem dJ_init_17 : decode cJ_init 17 = .ok (.aload_n 0, 1) := by decide +kernel
theorem dJ_init_18 : decode cJ_init 18 = .ok (.iconst 0, 1) := by decide +kernel
theorem dJ_init_19 : decode cJ_init 19 = .ok (.putfield 19, 3) := by decide +kernel
theorem dJ_init_22 : decode cJ_init 22 = .ok (.return_, 1) := by decide +kernel
theorem dF_init_0 : decode cF_init 0 = .ok (.aload_n 0, 1) := by decide +kernel
theorem dF_init_1 : decode cF_init 1 = .ok (.invokespecial 3, 3) := by decide +kernel
theorem dF_init_4 : decode cF_init 4 = .ok (.aload_n 0, 1) := by decide +kernel
theorem dF_init_5 : decode cF_init 5 = .ok (.sipush 400, 3) := by decide +kernel
theorem dF_init_8 : decode cF_init 8 = .ok (.newarray .int, 2) := by decide +kernel
theorem dF_init_10 : decode cF_init 10 = .ok (.putfield 9, 3) := by decide +kernel
theorem dF_init_13 : decode cF_init 13 = .ok (.aload_n 0, 1) := by decide +kernel
theorem dF_init_14 : decode cF_init 14 = .ok (.iconst 0, 1) := by decide +kernel
theorem dF_init_15 : decode cF_init 15 = .ok (.putfield 15, 3) := by decide +kernel
theorem dF_init_18 : decode cF_init 18 = .ok (.aload_n 0, 1) := by decide +kernel
theorem dF_init_19 : decode cF_init 19 = .ok (.iconst 0, 1) := by decide +kernel
theorem dF_init_20 : decode cF_init 20 = .ok (.putfield 19, 3) := by decide +kernel
theorem dF_init_23 : decode cF_init 23 = .ok (.return_, 1) := by decide +kernel
theorem dG_code_0 : decode cG_code 0 = .ok (.aload_n 0, 1) := by decide +kernel
theorem dG_code_1 : decode cG_code 1 = .ok (.getfield 44, 3) := by decide +kernel
theorem dG_code_4 : decode cG_code 4 = .ok (.ireturn, 1) := by decide +kernel
theorem dG_findings_0 : decode cG_findings 0 = .ok (.aload_n 0, 1) := by decide +kernel
theorem dG_findings_1 : decode cG_findings 1 = .ok (.getfield 36, 3) := by decide +kernel
theorem dG_findings_4 : decode cG_findings 4 = .ok (.getfield 138, 3) := by decide +kernel
theorem dG_findings_7 : decode cG_findings 7 = .ok (.istore_n 2, 1) := by decide +kernel
theorem dG_findings_8 : decode cG_findings 8 = .ok (.iload_n 1, 1) := by decide +kernel
theorem dG_findings_9 : decode cG_findings 9 = .ok (.ifCond .eq 11, 3) := by decide +kernel
theorem dG_findings_12 : decode cG_findings 12 = .ok (.aload_n 0, 1) := by decide +kernel
theorem dG_findings_13 : decode cG_findings 13 = .ok (.getfield 36, 3) := by decide +kernel
theorem dG_findings_16 : decode cG_findings 16 = .ok (.iconst 0, 1) := by decide +kernel
theorem dG_findings_17 : decode cG_findings 17 = .ok (.putfield 138, 3) := by decide +kernel
theorem dG_findings_20 : decode cG_findings 20 = .ok (.iload_n 2, 1) := by decide +kernel
theorem dG_findings_21 : decode cG_findings 21 = .ok (.ireturn, 1) := by decide +kernel
theorem dL_write_0 : decode cL_write 0 = .ok (.aload 4, 2) := by decide +kernel
theorem dL_write_2 : decode cL_write 2 = .ok (.iconst 0, 1) := by decide +kernel
theorem dL_write_3 : decode cL_write 3 = .ok (.aload_n 0, 1) := by decide +kernel
theorem dL_write_4 : decode cL_write 4 = .ok (.iload_n 1, 1) := by decide +kernel
theorem dL_write_5 : decode cL_write 5 = .ok (.iload_n 2, 1) := by decide +kernel
theorem dL_write_6 : decode cL_write 6 = .ok (.iload_n 3, 1) := by decide +kernel
theorem dL_write_7 : decode cL_write 7 = .ok (.invokevirtual 7, 3) := by decide +kernel
theorem dL_write_10 : decode cL_write 10 = .ok (.i2l, 1) := by decide +kernel
theorem dL_write_11 : decode cL_write 11 = .ok (.lastore, 1) := by decide +kernel
theorem dL_write_12 : decode cL_write 12 = .ok (.goto 15, 3) := by decide +kernel
theorem dL_write_15 : decode cL_write 15 = .ok (.astore 5, 2) := by decide +kernel
theorem dL_write_17 : decode cL_write 17 = .ok (.iconst 1, 1) := by decide +kernel
theorem dL_write_18 : decode cL_write 18 = .ok (.ireturn, 1) := by decide +kernel
theorem dL_write_19 : decode cL_write 19 = .ok (.astore 5, 2) := by decide +kernel
theorem dL_write_21 : decode cL_write 21 = .ok (.iconst 2, 1) := by decide +kernel
theorem dL_write_22 : decode cL_write 22 = .ok (.ireturn, 1) := by decide +kernel
theorem dL_write_23 : decode cL_write 23 = .ok (.astore 5, 2) := by decide +kernel
theorem dL_write_25 : decode cL_write 25 = .ok (.iconst 3, 1) := by decide +kernel
theorem dL_write_26 : decode cL_write 26 = .ok (.ireturn, 1) := by decide +kernel
theorem dL_write_27 : decode cL_write 27 = .ok (.iconst 0, 1) := by decide +kernel
theorem dL_write_28 : decode cL_write 28 = .ok (.ireturn, 1) := by decide +kernel
theorem dG_write_0 : decode cG_write 0 = .ok (.iload_n 1, 1) := by decide +kernel
theorem dG_write_1 : decode cG_write 1 = .ok (.bipush 64, 2) := by decide +kernel
theorem dG_write_3 : decode cG_write 3 = .ok (.invokestatic 60, 3) := by decide +kernel
theorem dG_write_6 : decode cG_write 6 = .ok (.ifCond .eq 12, 3) := by decide +kernel
theorem dG_write_9 : decode cG_write 9 = .ok (.iload_n 2, 1) := by decide +kernel
theorem dG_write_10 : decode cG_write 10 = .ok (.bipush 8, 2) := by decide +kernel
theorem dG_write_12 : decode cG_write 12 = .ok (.invokestatic 60, 3) := by decide +kernel
theorem dG_write_15 : decode cG_write 15 = .ok (.ifCond .ne 11, 3) := by decide +kernel
theorem dG_write_18 : decode cG_write 18 = .ok (.new 64, 3) := by decide +kernel
theorem dG_write_21 : decode cG_write 21 = .ok (.dup, 1) := by decide +kernel
theorem dG_write_22 : decode cG_write 22 = .ok (.invokespecial 66, 3) := by decide +kernel
theorem dG_write_25 : decode cG_write 25 = .ok (.athrow, 1) := by decide +kernel
theorem dG_write_26 : decode cG_write 26 = .ok (.aload_n 0, 1) := by decide +kernel
theorem dG_write_27 : decode cG_write 27 = .ok (.getfield 22, 3) := by decide +kernel
theorem dG_write_30 : decode cG_write 30 = .ok (.getfield 67, 3) := by decide +kernel
theorem dG_write_33 : decode cG_write 33 = .ok (.ifCond .ne 11, 3) := by decide +kernel
theorem dG_write_36 : decode cG_write 36 = .ok (.new 71, 3) := by decide +kernel
theorem dG_write_39 : decode cG_write 39 = .ok (.dup, 1) := by decide +kernel
theorem dG_write_40 : decode cG_write 40 = .ok (.invokespecial 73, 3) := by decide +kernel
theorem dG_write_43 : decode cG_write 43 = .ok (.athrow, 1) := by decide +kernel
theorem dG_write_44 : decode cG_write 44 = .ok (.aload_n 0, 1) := by decide +kernel
theorem dG_write_45 : decode cG_write 45 = .ok (.iload_n 1, 1) := by decide +kernel
theorem dG_write_46 : decode cG_write 46 = .ok (.invokevirtual 74, 3) := by decide +kernel
theorem dG_write_49 : decode cG_write 49 = .ok (.istore 4, 2) := by decide +kernel
theorem dG_write_51 : decode cG_write 51 = .ok (.iload 4, 2) := by decide +kernel
theorem dG_write_53 : decode cG_write 53 = .ok (.iconst (-1), 1) := by decide +kernel
theorem dG_write_54 : decode cG_write 54 = .ok (.if_icmp .eq 28, 3) := by decide +kernel
theorem dG_write_57 : decode cG_write 57 = .ok (.aload_n 0, 1) := by decide +kernel
theorem dG_write_58 : decode cG_write 58 = .ok (.iload 4, 2) := by decide +kernel
theorem dG_write_60 : decode cG_write 60 = .ok (.invokevirtual 78, 3) := by decide +kernel
theorem dG_write_63 : decode cG_write 63 = .ok (.iload_n 1, 1) := by decide +kernel
theorem dG_write_64 : decode cG_write 64 = .ok (.bipush 10, 2) := by decide +kernel
theorem dG_write_66 : decode cG_write 66 = .ok (.invokevirtual 82, 3) := by decide +kernel
theorem dG_write_69 : decode cG_write 69 = .ok (.bipush 60, 2) := by decide +kernel
theorem dG_write_71 : decode cG_write 71 = .ok (.if_icmp .ne 11, 3) := by decide +kernel
theorem dG_write_74 : decode cG_write 74 = .ok (.new 86, 3) := by decide +kernel
theorem dG_write_77 : decode cG_write 77 = .ok (.dup, 1) := by decide +kernel
theorem dG_write_78 : decode cG_write 78 = .ok (.invokespecial 88, 3) := by decide +kernel
theorem dG_write_81 : decode cG_write 81 = .ok (.athrow, 1) := by decide +kernel
theorem dG_write_82 : decode cG_write 82 = .ok (.aload_n 0, 1) := by decide +kernel
theorem dG_write_83 : decode cG_write 83 = .ok (.iload 4, 2) := by decide +kernel
theorem dG_write_85 : decode cG_write 85 = .ok (.invokestatic 89, 3) := by decide +kernel
theorem dG_write_88 : decode cG_write 88 = .ok (.putfield 44, 3) := by decide +kernel
theorem dG_write_91 : decode cG_write 91 = .ok (.iload 4, 2) := by decide +kernel
theorem dG_write_93 : decode cG_write 93 = .ok (.iconst (-1), 1) := by decide +kernel
theorem dG_write_94 : decode cG_write 94 = .ok (.if_icmp .ne 5, 3) := by decide +kernel
theorem dG_write_97 : decode cG_write 97 = .ok (.iconst 2, 1) := by decide +kernel
theorem dG_write_98 : decode cG_write 98 = .ok (.ireturn, 1) := by decide +kernel
theorem dG_write_99 : decode cG_write 99 = .ok (.aload_n 0, 1) := by decide +kernel
theorem dG_write_100 : decode cG_write 100 = .ok (.iload 4, 2) := by decide +kernel
theorem dG_write_102 : decode cG_write 102 = .ok (.invokevirtual 78, 3) := by decide +kernel
theorem dG_write_105 : decode cG_write 105 = .ok (.iload_n 1, 1) := by decide +kernel
theorem dG_write_106 : decode cG_write 106 = .ok (.aload_n 0, 1) := by decide +kernel
theorem dG_write_107 : decode cG_write 107 = .ok (.getfield 29, 3) := by decide +kernel
theorem dG_write_110 : decode cG_write 110 = .ok (.getfield 92, 3) := by decide +kernel
theorem dG_write_113 : decode cG_write 113 = .ok (.invokevirtual 95, 3) := by decide +kernel
theorem dG_write_116 : decode cG_write 116 = .ok (.aload_n 0, 1) := by decide +kernel
theorem dG_write_117 : decode cG_write 117 = .ok (.getfield 29, 3) := by decide +kernel
theorem dG_write_120 : decode cG_write 120 = .ok (.getfield 92, 3) := by decide +kernel
theorem dG_write_123 : decode cG_write 123 = .ok (.iload_n 2, 1) := by decide +kernel
theorem dG_write_124 : decode cG_write 124 = .ok (.iload_n 3, 1) := by decide +kernel
theorem dG_write_125 : decode cG_write 125 = .ok (.iastore, 1) := by decide +kernel
theorem dG_write_126 : decode cG_write 126 = .ok (.aload_n 0, 1) := by decide +kernel
theorem dG_write_127 : decode cG_write 127 = .ok (.getfield 29, 3) := by decide +kernel
theorem dG_write_130 : decode cG_write 130 = .ok (.aload_n 0, 1) := by decide +kernel
theorem dG_write_131 : decode cG_write 131 = .ok (.iload 4, 2) := by decide +kernel
theorem dG_write_133 : decode cG_write 133 = .ok (.invokevirtual 78, 3) := by decide +kernel
theorem dG_write_136 : decode cG_write 136 = .ok (.iload_n 1, 1) := by decide +kernel
theorem dG_write_137 : decode cG_write 137 = .ok (.bipush 10, 2) := by decide +kernel
theorem dG_write_139 : decode cG_write 139 = .ok (.invokevirtual 82, 3) := by decide +kernel
theorem dG_write_142 : decode cG_write 142 = .ok (.iconst 1, 1) := by decide +kernel
theorem dG_write_143 : decode cG_write 143 = .ok (.iadd, 1) := by decide +kernel
theorem dG_write_144 : decode cG_write 144 = .ok (.putfield 99, 3) := by decide +kernel
theorem dG_write_147 : decode cG_write 147 = .ok (.aload_n 0, 1) := by decide +kernel
theorem dG_write_148 : decode cG_write 148 = .ok (.getfield 29, 3) := by decide +kernel
theorem dG_write_151 : decode cG_write 151 = .ok (.iload_n 1, 1) := by decide +kernel
theorem dG_write_152 : decode cG_write 152 = .ok (.putfield 102, 3) := by decide +kernel
theorem dG_write_155 : decode cG_write 155 = .ok (.aload_n 0, 1) := by decide +kernel
theorem dG_write_156 : decode cG_write 156 = .ok (.invokevirtual 105, 3) := by decide +kernel
theorem dG_write_159 : decode cG_write 159 = .ok (.ifCond .eq 7, 3) := by decide +kernel
theorem dG_write_162 : decode cG_write 162 = .ok (.iconst 0, 1) := by decide +kernel
theorem dG_write_163 : decode cG_write 163 = .ok (.goto 4, 3) := by decide +kernel
theorem dG_write_166 : decode cG_write 166 = .ok (.iconst 3, 1) := by decide +kernel
theorem dG_write_167 : decode cG_write 167 = .ok (.ireturn, 1) := by decide +kernel
theorem dG_isBelow_0 : decode cG_isBelow 0 = .ok (.iload_n 0, 1) := by decide +kernel
theorem dG_isBelow_1 : decode cG_isBelow 1 = .ok (.ifCond .lt 12, 3) := by decide +kernel
theorem dG_isBelow_4 : decode cG_isBelow 4 = .ok (.iload_n 0, 1) := by decide +kernel
theorem dG_isBelow_5 : decode cG_isBelow 5 = .ok (.iload_n 1, 1) := by decide +kernel
theorem dG_isBelow_6 : decode cG_isBelow 6 = .ok (.if_icmp .ge 7, 3) := by decide +kernel
theorem dG_isBelow_9 : decode cG_isBelow 9 = .ok (.iconst 1, 1) := by decide +kernel
theorem dG_isBelow_10 : decode cG_isBelow 10 = .ok (.goto 4, 3) := by decide +kernel
theorem dG_isBelow_13 : decode cG_isBelow 13 = .ok (.iconst 0, 1) := by decide +kernel
theorem dG_isBelow_14 : decode cG_isBelow 14 = .ok (.ireturn, 1) := by decide +kernel
theorem dG_goodCopy_0 : decode cG_goodCopy 0 = .ok (.aload_n 0, 1) := by decide +kernel
theorem dG_goodCopy_1 : decode cG_goodCopy 1 = .ok (.iconst 0, 1) := by decide +kernel
theorem dG_goodCopy_2 : decode cG_goodCopy 2 = .ok (.iload_n 1, 1) := by decide +kernel
theorem dG_goodCopy_3 : decode cG_goodCopy 3 = .ok (.invokevirtual 147, 3) := by decide +kernel
theorem dG_goodCopy_6 : decode cG_goodCopy 6 = .ok (.ifCond .ne 5, 3) := by decide +kernel
theorem dG_goodCopy_9 : decode cG_goodCopy 9 = .ok (.iconst 0, 1) := by decide +kernel
theorem dG_goodCopy_10 : decode cG_goodCopy 10 = .ok (.ireturn, 1) := by decide +kernel
theorem dG_goodCopy_11 : decode cG_goodCopy 11 = .ok (.aload_n 0, 1) := by decide +kernel
theorem dG_goodCopy_12 : decode cG_goodCopy 12 = .ok (.iconst 1, 1) := by decide +kernel
theorem dG_goodCopy_13 : decode cG_goodCopy 13 = .ok (.iload_n 1, 1) := by decide +kernel
theorem dG_goodCopy_14 : decode cG_goodCopy 14 = .ok (.invokevirtual 147, 3) := by decide +kernel
theorem dG_goodCopy_17 : decode cG_goodCopy 17 = .ok (.ifCond .ne 7, 3) := by decide +kernel
theorem dG_goodCopy_20 : decode cG_goodCopy 20 = .ok (.iconst 1, 1) := by decide +kernel
theorem dG_goodCopy_21 : decode cG_goodCopy 21 = .ok (.goto 4, 3) := by decide +kernel
theorem dG_goodCopy_24 : decode cG_goodCopy 24 = .ok (.iconst (-1), 1) := by decide +kernel
theorem dG_goodCopy_25 : decode cG_goodCopy 25 = .ok (.ireturn, 1) := by decide +kernel
theorem dG_judge_0 : decode cG_judge 0 = .ok (.aload_n 0, 1) := by decide +kernel
theorem dG_judge_1 : decode cG_judge 1 = .ok (.iload_n 1, 1) := by decide +kernel
theorem dG_judge_2 : decode cG_judge 2 = .ok (.invokevirtual 78, 3) := by decide +kernel
theorem dG_judge_5 : decode cG_judge 5 = .ok (.astore_n 3, 1) := by decide +kernel
theorem dG_judge_6 : decode cG_judge 6 = .ok (.aload_n 3, 1) := by decide +kernel
theorem dG_judge_7 : decode cG_judge 7 = .ok (.iload_n 2, 1) := by decide +kernel
theorem dG_judge_8 : decode cG_judge 8 = .ok (.bipush 8, 2) := by decide +kernel
theorem dG_judge_10 : decode cG_judge 10 = .ok (.invokevirtual 82, 3) := by decide +kernel
theorem dG_judge_13 : decode cG_judge 13 = .ok (.aload_n 3, 1) := by decide +kernel
theorem dG_judge_14 : decode cG_judge 14 = .ok (.getfield 164, 3) := by decide +kernel
theorem dG_judge_17 : decode cG_judge 17 = .ok (.iload_n 2, 1) := by decide +kernel
theorem dG_judge_18 : decode cG_judge 18 = .ok (.bipush 11, 2) := by decide +kernel
theorem dG_judge_20 : decode cG_judge 20 = .ok (.imul, 1) := by decide +kernel
theorem dG_judge_21 : decode cG_judge 21 = .ok (.invokestatic 165, 3) := by decide +kernel
theorem dG_judge_24 : decode cG_judge 24 = .ok (.if_icmp .eq 5, 3) := by decide +kernel
theorem dG_judge_27 : decode cG_judge 27 = .ok (.iconst 1, 1) := by decide +kernel
theorem dG_judge_28 : decode cG_judge 28 = .ok (.ireturn, 1) := by decide +kernel
theorem dG_judge_29 : decode cG_judge 29 = .ok (.aload_n 3, 1) := by decide +kernel
theorem dG_judge_30 : decode cG_judge 30 = .ok (.iload_n 2, 1) := by decide +kernel
theorem dG_judge_31 : decode cG_judge 31 = .ok (.bipush 9, 2) := by decide +kernel
theorem dG_judge_33 : decode cG_judge 33 = .ok (.invokevirtual 82, 3) := by decide +kernel
theorem dG_judge_36 : decode cG_judge 36 = .ok (.iload_n 2, 1) := by decide +kernel
theorem dG_judge_37 : decode cG_judge 37 = .ok (.if_icmp .eq 5, 3) := by decide +kernel
theorem dG_judge_40 : decode cG_judge 40 = .ok (.iconst 2, 1) := by decide +kernel
theorem dG_judge_41 : decode cG_judge 41 = .ok (.ireturn, 1) := by decide +kernel
theorem dG_judge_42 : decode cG_judge 42 = .ok (.aload_n 0, 1) := by decide +kernel
theorem dG_judge_43 : decode cG_judge 43 = .ok (.iload_n 1, 1) := by decide +kernel
theorem dG_judge_44 : decode cG_judge 44 = .ok (.iload_n 2, 1) := by decide +kernel
theorem dG_judge_45 : decode cG_judge 45 = .ok (.invokevirtual 144, 3) := by decide +kernel
theorem dG_judge_48 : decode cG_judge 48 = .ok (.istore 4, 2) := by decide +kernel
theorem dG_judge_50 : decode cG_judge 50 = .ok (.iload 4, 2) := by decide +kernel
theorem dG_judge_52 : decode cG_judge 52 = .ok (.iconst (-1), 1) := by decide +kernel
theorem dG_judge_53 : decode cG_judge 53 = .ok (.if_icmp .ne 5, 3) := by decide +kernel
theorem dG_judge_56 : decode cG_judge 56 = .ok (.iconst 3, 1) := by decide +kernel
theorem dG_judge_57 : decode cG_judge 57 = .ok (.ireturn, 1) := by decide +kernel
theorem dG_judge_58 : decode cG_judge 58 = .ok (.aload_n 3, 1) := by decide +kernel
theorem dG_judge_59 : decode cG_judge 59 = .ok (.iload_n 2, 1) := by decide +kernel
theorem dG_judge_60 : decode cG_judge 60 = .ok (.bipush 10, 2) := by decide +kernel
theorem dG_judge_62 : decode cG_judge 62 = .ok (.invokevirtual 82, 3) := by decide +kernel
theorem dG_judge_65 : decode cG_judge 65 = .ok (.istore 5, 2) := by decide +kernel
theorem dG_judge_67 : decode cG_judge 67 = .ok (.iload 5, 2) := by decide +kernel
theorem dG_judge_69 : decode cG_judge 69 = .ok (.iload 4, 2) := by decide +kernel
theorem dG_judge_71 : decode cG_judge 71 = .ok (.if_icmp .ge 5, 3) := by decide +kernel
theorem dG_judge_74 : decode cG_judge 74 = .ok (.iconst 4, 1) := by decide +kernel
theorem dG_judge_75 : decode cG_judge 75 = .ok (.ireturn, 1) := by decide +kernel
theorem dG_judge_76 : decode cG_judge 76 = .ok (.iload 5, 2) := by decide +kernel
theorem dG_judge_78 : decode cG_judge 78 = .ok (.iload 4, 2) := by decide +kernel
theorem dG_judge_80 : decode cG_judge 80 = .ok (.if_icmp .le 7, 3) := by decide +kernel
theorem dG_judge_83 : decode cG_judge 83 = .ok (.iconst 5, 1) := by decide +kernel
theorem dG_judge_84 : decode cG_judge 84 = .ok (.goto 4, 3) := by decide +kernel
theorem dG_judge_87 : decode cG_judge 87 = .ok (.iconst 0, 1) := by decide +kernel
theorem dG_judge_88 : decode cG_judge 88 = .ok (.ireturn, 1) := by decide +kernel
theorem dG_driveOf_0 : decode cG_driveOf 0 = .ok (.iload_n 1, 1) := by decide +kernel
theorem dG_driveOf_1 : decode cG_driveOf 1 = .ok (.ifCond .ne 10, 3) := by decide +kernel
theorem dG_driveOf_4 : decode cG_driveOf 4 = .ok (.aload_n 0, 1) := by decide +kernel
theorem dG_driveOf_5 : decode cG_driveOf 5 = .ok (.getfield 12, 3) := by decide +kernel
theorem dG_driveOf_8 : decode cG_driveOf 8 = .ok (.goto 7, 3) := by decide +kernel
theorem dG_driveOf_11 : decode cG_driveOf 11 = .ok (.aload_n 0, 1) := by decide +kernel
theorem dG_driveOf_12 : decode cG_driveOf 12 = .ok (.getfield 16, 3) := by decide +kernel
theorem dG_driveOf_15 : decode cG_driveOf 15 = .ok (.areturn, 1) := by decide +kernel
theorem dD_at_0 : decode cD_at 0 = .ok (.aload_n 0, 1) := by decide +kernel
theorem dD_at_1 : decode cD_at 1 = .ok (.getfield 9, 3) := by decide +kernel
theorem dD_at_4 : decode cD_at 4 = .ok (.iload_n 1, 1) := by decide +kernel
theorem dD_at_5 : decode cD_at 5 = .ok (.bipush 11, 2) := by decide +kernel
theorem dD_at_7 : decode cD_at 7 = .ok (.imul, 1) := by decide +kernel
theorem dD_at_8 : decode cD_at 8 = .ok (.iload_n 2, 1) := by decide +kernel
theorem dD_at_9 : decode cD_at 9 = .ok (.iadd, 1) := by decide +kernel
theorem dD_at_10 : decode cD_at 10 = .ok (.iaload, 1) := by decide +kernel
theorem dD_at_11 : decode cD_at 11 = .ok (.ireturn, 1) := by decide +kernel
theorem dG_expectedVersion_0 : decode cG_expectedVersion 0 = .ok (.iload_n 2, 1) := by decide +kernel
theorem dG_expectedVersion_1 : decode cG_expectedVersion 1 = .ok (.bipush 8, 2) := by decide +kernel
theorem dG_expectedVersion_3 : decode cG_expectedVersion 3 = .ok (.idiv, 1) := by decide +kernel
theorem dG_expectedVersion_4 : decode cG_expectedVersion 4 = .ok (.istore_n 3, 1) := by decide +kernel
theorem dG_expectedVersion_5 : decode cG_expectedVersion 5 = .ok (.aload_n 0, 1) := by decide +kernel
theorem dG_expectedVersion_6 : decode cG_expectedVersion 6 = .ok (.iload_n 1, 1) := by decide +kernel
theorem dG_expectedVersion_7 : decode cG_expectedVersion 7 = .ok (.iload_n 3, 1) := by decide +kernel
theorem dG_expectedVersion_8 : decode cG_expectedVersion 8 = .ok (.invokevirtual 169, 3) := by decide +kernel
theorem dG_expectedVersion_11 : decode cG_expectedVersion 11 = .ok (.istore 4, 2) := by decide +kernel
theorem dG_expectedVersion_13 : decode cG_expectedVersion 13 = .ok (.iload 4, 2) := by decide +kernel
theorem dG_expectedVersion_15 : decode cG_expectedVersion 15 = .ok (.iconst (-1), 1) := by decide +kernel
theorem dG_expectedVersion_16 : decode cG_expectedVersion 16 = .ok (.if_icmp .ne 7, 3) := by decide +kernel
theorem dG_expectedVersion_19 : decode cG_expectedVersion 19 = .ok (.iconst (-1), 1) := by decide +kernel
theorem dG_expectedVersion_20 : decode cG_expectedVersion 20 = .ok (.goto 20, 3) := by decide +kernel
theorem dG_expectedVersion_23 : decode cG_expectedVersion 23 = .ok (.aload_n 0, 1) := by decide +kernel
theorem dG_expectedVersion_24 : decode cG_expectedVersion 24 = .ok (.iload 4, 2) := by decide +kernel
theorem dG_expectedVersion_26 : decode cG_expectedVersion 26 = .ok (.invokevirtual 78, 3) := by decide +kernel
theorem dG_expectedVersion_29 : decode cG_expectedVersion 29 = .ok (.bipush 64, 2) := by decide +kernel
theorem dG_expectedVersion_31 : decode cG_expectedVersion 31 = .ok (.iload_n 3, 1) := by decide +kernel
theorem dG_expectedVersion_32 : decode cG_expectedVersion 32 = .ok (.iadd, 1) := by decide +kernel
theorem dG_expectedVersion_33 : decode cG_expectedVersion 33 = .ok (.iload_n 2, 1) := by decide +kernel
theorem dG_expectedVersion_34 : decode cG_expectedVersion 34 = .ok (.bipush 8, 2) := by decide +kernel
theorem dG_expectedVersion_36 : decode cG_expectedVersion 36 = .ok (.irem, 1) := by decide +kernel
theorem dG_expectedVersion_37 : decode cG_expectedVersion 37 = .ok (.invokevirtual 82, 3) := by decide +kernel
theorem dG_expectedVersion_40 : decode cG_expectedVersion 40 = .ok (.ireturn, 1) := by decide +kernel
theorem dG_listDrive_0 : decode cG_listDrive 0 = .ok (.aload_n 0, 1) := by decide +kernel
theorem dG_listDrive_1 : decode cG_listDrive 1 = .ok (.iconst 1, 1) := by decide +kernel
theorem dG_listDrive_2 : decode cG_listDrive 2 = .ok (.iload_n 1, 1) := by decide +kernel
theorem dG_listDrive_3 : decode cG_listDrive 3 = .ok (.isub, 1) := by decide +kernel
theorem dG_listDrive_4 : decode cG_listDrive 4 = .ok (.iload_n 2, 1) := by decide +kernel
theorem dG_listDrive_5 : decode cG_listDrive 5 = .ok (.invokevirtual 150, 3) := by decide +kernel
theorem dG_listDrive_8 : decode cG_listDrive 8 = .ok (.ifCond .eq 7, 3) := by decide +kernel
theorem dG_listDrive_11 : decode cG_listDrive 11 = .ok (.iconst 1, 1) := by decide +kernel
theorem dG_listDrive_12 : decode cG_listDrive 12 = .ok (.iload_n 1, 1) := by decide +kernel
theorem dG_listDrive_13 : decode cG_listDrive 13 = .ok (.isub, 1) := by decide +kernel
theorem dG_listDrive_14 : decode cG_listDrive 14 = .ok (.ireturn, 1) := by decide +kernel
theorem dG_listDrive_15 : decode cG_listDrive 15 = .ok (.aload_n 0, 1) := by decide +kernel
theorem dG_listDrive_16 : decode cG_listDrive 16 = .ok (.iload_n 1, 1) := by decide +kernel
theorem dG_listDrive_17 : decode cG_listDrive 17 = .ok (.iload_n 2, 1) := by decide +kernel
theorem dG_listDrive_18 : decode cG_listDrive 18 = .ok (.invokevirtual 150, 3) := by decide +kernel
theorem dG_listDrive_21 : decode cG_listDrive 21 = .ok (.ifCond .eq 7, 3) := by decide +kernel
theorem dG_listDrive_24 : decode cG_listDrive 24 = .ok (.iload_n 1, 1) := by decide +kernel
theorem dG_listDrive_25 : decode cG_listDrive 25 = .ok (.goto 4, 3) := by decide +kernel
theorem dG_listDrive_28 : decode cG_listDrive 28 = .ok (.iconst (-1), 1) := by decide +kernel
theorem dG_listDrive_29 : decode cG_listDrive 29 = .ok (.ireturn, 1) := by decide +kernel
theorem dG_isPageRight_0 : decode cG_isPageRight 0 = .ok (.aload_n 0, 1) := by decide +kernel
theorem dG_isPageRight_1 : decode cG_isPageRight 1 = .ok (.iload_n 1, 1) := by decide +kernel
theorem dG_isPageRight_2 : decode cG_isPageRight 2 = .ok (.invokevirtual 78, 3) := by decide +kernel
theorem dG_isPageRight_5 : decode cG_isPageRight 5 = .ok (.astore_n 3, 1) := by decide +kernel
theorem dG_isPageRight_6 : decode cG_isPageRight 6 = .ok (.bipush 64, 2) := by decide +kernel
theorem dG_isPageRight_8 : decode cG_isPageRight 8 = .ok (.iload_n 2, 1) := by decide +kernel
theorem dG_isPageRight_9 : decode cG_isPageRight 9 = .ok (.iadd, 1) := by decide +kernel
theorem dG_isPageRight_10 : decode cG_isPageRight 10 = .ok (.istore 4, 2) := by decide +kernel
theorem dG_isPageRight_12 : decode cG_isPageRight 12 = .ok (.aload_n 3, 1) := by decide +kernel
theorem dG_isPageRight_13 : decode cG_isPageRight 13 = .ok (.iload 4, 2) := by decide +kernel
theorem dG_isPageRight_15 : decode cG_isPageRight 15 = .ok (.bipush 8, 2) := by decide +kernel
theorem dG_isPageRight_17 : decode cG_isPageRight 17 = .ok (.invokevirtual 82, 3) := by decide +kernel
theorem dG_isPageRight_20 : decode cG_isPageRight 20 = .ok (.aload_n 3, 1) := by decide +kernel
theorem dG_isPageRight_21 : decode cG_isPageRight 21 = .ok (.getfield 164, 3) := by decide +kernel
theorem dG_isPageRight_24 : decode cG_isPageRight 24 = .ok (.iload 4, 2) := by decide +kernel
theorem dG_isPageRight_26 : decode cG_isPageRight 26 = .ok (.bipush 11, 2) := by decide +kernel
theorem dG_isPageRight_28 : decode cG_isPageRight 28 = .ok (.imul, 1) := by decide +kernel
theorem dG_isPageRight_29 : decode cG_isPageRight 29 = .ok (.invokestatic 165, 3) := by decide +kernel
theorem dG_isPageRight_32 : decode cG_isPageRight 32 = .ok (.if_icmp .ne 42, 3) := by decide +kernel
theorem dG_isPageRight_35 : decode cG_isPageRight 35 = .ok (.aload_n 3, 1) := by decide +kernel
theorem dG_isPageRight_36 : decode cG_isPageRight 36 = .ok (.iload 4, 2) := by decide +kernel
theorem dG_isPageRight_38 : decode cG_isPageRight 38 = .ok (.bipush 9, 2) := by decide +kernel
theorem dG_isPageRight_40 : decode cG_isPageRight 40 = .ok (.invokevirtual 82, 3) := by decide +kernel
theorem dG_isPageRight_43 : decode cG_isPageRight 43 = .ok (.iload 4, 2) := by decide +kernel
theorem dG_isPageRight_45 : decode cG_isPageRight 45 = .ok (.if_icmp .ne 29, 3) := by decide +kernel
theorem dG_isPageRight_48 : decode cG_isPageRight 48 = .ok (.aload_n 3, 1) := by decide +kernel
theorem dG_isPageRight_49 : decode cG_isPageRight 49 = .ok (.iload 4, 2) := by decide +kernel
theorem dG_isPageRight_51 : decode cG_isPageRight 51 = .ok (.bipush 10, 2) := by decide +kernel
theorem dG_isPageRight_53 : decode cG_isPageRight 53 = .ok (.invokevirtual 82, 3) := by decide +kernel
theorem dG_isPageRight_56 : decode cG_isPageRight 56 = .ok (.aload_n 0, 1) := by decide +kernel
theorem dG_isPageRight_57 : decode cG_isPageRight 57 = .ok (.getfield 40, 3) := by decide +kernel
theorem dG_isPageRight_60 : decode cG_isPageRight 60 = .ok (.iload_n 1, 1) := by decide +kernel
theorem dG_isPageRight_61 : decode cG_isPageRight 61 = .ok (.bipush 8, 2) := by decide +kernel
theorem dG_isPageRight_63 : decode cG_isPageRight 63 = .ok (.imul, 1) := by decide +kernel
theorem dG_isPageRight_64 : decode cG_isPageRight 64 = .ok (.iload_n 2, 1) := by decide +kernel
theorem dG_isPageRight_65 : decode cG_isPageRight 65 = .ok (.iadd, 1) := by decide +kernel
theorem dG_isPageRight_66 : decode cG_isPageRight 66 = .ok (.iaload, 1) := by decide +kernel
theorem dG_isPageRight_67 : decode cG_isPageRight 67 = .ok (.if_icmp .ne 7, 3) := by decide +kernel
theorem dG_isPageRight_70 : decode cG_isPageRight 70 = .ok (.iconst 1, 1) := by decide +kernel
theorem dG_isPageRight_71 : decode cG_isPageRight 71 = .ok (.goto 4, 3) := by decide +kernel
theorem dG_isPageRight_74 : decode cG_isPageRight 74 = .ok (.iconst 0, 1) := by decide +kernel
theorem dG_isPageRight_75 : decode cG_isPageRight 75 = .ok (.ireturn, 1) := by decide +kernel
theorem dG_codeOf_0 : decode cG_codeOf 0 = .ok (.iload_n 0, 1) := by decide +kernel
theorem dG_codeOf_1 : decode cG_codeOf 1 = .ok (.iconst (-1), 1) := by decide +kernel
theorem dG_codeOf_2 : decode cG_codeOf 2 = .ok (.if_icmp .ne 7, 3) := by decide +kernel
theorem dG_codeOf_5 : decode cG_codeOf 5 = .ok (.iconst 2, 1) := by decide +kernel
theorem dG_codeOf_6 : decode cG_codeOf 6 = .ok (.goto 4, 3) := by decide +kernel
theorem dG_codeOf_9 : decode cG_codeOf 9 = .ok (.iload_n 0, 1) := by decide +kernel
theorem dG_codeOf_10 : decode cG_codeOf 10 = .ok (.ireturn, 1) := by decide +kernel
theorem dD_giveWords_0 : decode cD_giveWords 0 = .ok (.aload_n 0, 1) := by decide +kernel
theorem dD_giveWords_1 : decode cD_giveWords 1 = .ok (.getfield 9, 3) := by decide +kernel
theorem dD_giveWords_4 : decode cD_giveWords 4 = .ok (.iload_n 1, 1) := by decide +kernel
theorem dD_giveWords_5 : decode cD_giveWords 5 = .ok (.bipush 11, 2) := by decide +kernel
theorem dD_giveWords_7 : decode cD_giveWords 7 = .ok (.imul, 1) := by decide +kernel
theorem dD_giveWords_8 : decode cD_giveWords 8 = .ok (.aload_n 2, 1) := by decide +kernel
theorem dD_giveWords_9 : decode cD_giveWords 9 = .ok (.iconst 0, 1) := by decide +kernel
theorem dD_giveWords_10 : decode cD_giveWords 10 = .ok (.bipush 8, 2) := by decide +kernel
theorem dD_giveWords_12 : decode cD_giveWords 12 = .ok (.invokestatic 35, 3) := by decide +kernel
theorem dD_giveWords_15 : decode cD_giveWords 15 = .ok (.return_, 1) := by decide +kernel
theorem dG_putNotedBlock_0 : decode cG_putNotedBlock 0 = .ok (.iconst 0, 1) := by decide +kernel
theorem dG_putNotedBlock_1 : decode cG_putNotedBlock 1 = .ok (.istore_n 1, 1) := by decide +kernel
theorem dG_putNotedBlock_2 : decode cG_putNotedBlock 2 = .ok (.iload_n 1, 1) := by decide +kernel
theorem dG_putNotedBlock_3 : decode cG_putNotedBlock 3 = .ok (.iconst 2, 1) := by decide +kernel
theorem dG_putNotedBlock_4 : decode cG_putNotedBlock 4 = .ok (.if_icmp .ge 40, 3) := by decide +kernel
theorem dG_putNotedBlock_7 : decode cG_putNotedBlock 7 = .ok (.aload_n 0, 1) := by decide +kernel
theorem dG_putNotedBlock_8 : decode cG_putNotedBlock 8 = .ok (.iload_n 1, 1) := by decide +kernel
theorem dG_putNotedBlock_9 : decode cG_putNotedBlock 9 = .ok (.aload_n 0, 1) := by decide +kernel
theorem dG_putNotedBlock_10 : decode cG_putNotedBlock 10 = .ok (.getfield 29, 3) := by decide +kernel
theorem dG_putNotedBlock_13 : decode cG_putNotedBlock 13 = .ok (.getfield 102, 3) := by decide +kernel
theorem dG_putNotedBlock_16 : decode cG_putNotedBlock 16 = .ok (.aload_n 0, 1) := by decide +kernel
theorem dG_putNotedBlock_17 : decode cG_putNotedBlock 17 = .ok (.getfield 29, 3) := by decide +kernel
theorem dG_putNotedBlock_20 : decode cG_putNotedBlock 20 = .ok (.getfield 92, 3) := by decide +kernel
theorem dG_putNotedBlock_23 : decode cG_putNotedBlock 23 = .ok (.aload_n 0, 1) := by decide +kernel
theorem dG_putNotedBlock_24 : decode cG_putNotedBlock 24 = .ok (.getfield 29, 3) := by decide +kernel
theorem dG_putNotedBlock_27 : decode cG_putNotedBlock 27 = .ok (.getfield 99, 3) := by decide +kernel
theorem dG_putNotedBlock_30 : decode cG_putNotedBlock 30 = .ok (.invokevirtual 197, 3) := by decide +kernel
theorem dG_putNotedBlock_33 : decode cG_putNotedBlock 33 = .ok (.ifCond .ne 5, 3) := by decide +kernel
theorem dG_putNotedBlock_36 : decode cG_putNotedBlock 36 = .ok (.iconst 0, 1) := by decide +kernel
theorem dG_putNotedBlock_37 : decode cG_putNotedBlock 37 = .ok (.ireturn, 1) := by decide +kernel
theorem dG_putNotedBlock_38 : decode cG_putNotedBlock 38 = .ok (.iinc 1 1, 3) := by decide +kernel
theorem dG_putNotedBlock_41 : decode cG_putNotedBlock 41 = .ok (.goto (-39), 3) := by decide +kernel
theorem dG_putNotedBlock_44 : decode cG_putNotedBlock 44 = .ok (.aload_n 0, 1) := by decide +kernel
theorem dG_putNotedBlock_45 : decode cG_putNotedBlock 45 = .ok (.getfield 29, 3) := by decide +kernel
theorem dG_putNotedBlock_48 : decode cG_putNotedBlock 48 = .ok (.iconst (-1), 1) := by decide +kernel
theorem dG_putNotedBlock_49 : decode cG_putNotedBlock 49 = .ok (.putfield 102, 3) := by decide +kernel
theorem dG_putNotedBlock_52 : decode cG_putNotedBlock 52 = .ok (.iconst 1, 1) := by decide +kernel
theorem dG_putNotedBlock_53 : decode cG_putNotedBlock 53 = .ok (.ireturn, 1) := by decide +kernel
theorem dG_putCopy_0 : decode cG_putCopy 0 = .ok (.aload_n 0, 1) := by decide +kernel
theorem dG_putCopy_1 : decode cG_putCopy 1 = .ok (.iload_n 1, 1) := by decide +kernel
theorem dG_putCopy_2 : decode cG_putCopy 2 = .ok (.iload_n 2, 1) := by decide +kernel
theorem dG_putCopy_3 : decode cG_putCopy 3 = .ok (.aload_n 3, 1) := by decide +kernel
theorem dG_putCopy_4 : decode cG_putCopy 4 = .ok (.iload 4, 2) := by decide +kernel
theorem dG_putCopy_6 : decode cG_putCopy 6 = .ok (.invokevirtual 190, 3) := by decide +kernel
theorem dG_putCopy_9 : decode cG_putCopy 9 = .ok (.ifCond .eq 18, 3) := by decide +kernel
theorem dG_putCopy_12 : decode cG_putCopy 12 = .ok (.aload_n 0, 1) := by decide +kernel
theorem dG_putCopy_13 : decode cG_putCopy 13 = .ok (.iload_n 1, 1) := by decide +kernel
theorem dG_putCopy_14 : decode cG_putCopy 14 = .ok (.iload_n 2, 1) := by decide +kernel
theorem dG_putCopy_15 : decode cG_putCopy 15 = .ok (.iload 4, 2) := by decide +kernel
theorem dG_putCopy_17 : decode cG_putCopy 17 = .ok (.invokevirtual 194, 3) := by decide +kernel
theorem dG_putCopy_20 : decode cG_putCopy 20 = .ok (.ifCond .eq 7, 3) := by decide +kernel
theorem dG_putCopy_23 : decode cG_putCopy 23 = .ok (.iconst 1, 1) := by decide +kernel
theorem dG_putCopy_24 : decode cG_putCopy 24 = .ok (.goto 4, 3) := by decide +kernel
theorem dG_putCopy_27 : decode cG_putCopy 27 = .ok (.iconst 0, 1) := by decide +kernel
theorem dG_putCopy_28 : decode cG_putCopy 28 = .ok (.ireturn, 1) := by decide +kernel
theorem dG_store_0 : decode cG_store 0 = .ok (.aload_n 0, 1) := by decide +kernel
theorem dG_store_1 : decode cG_store 1 = .ok (.getfield 22, 3) := by decide +kernel
theorem dG_store_4 : decode cG_store 4 = .ok (.invokevirtual 172, 3) := by decide +kernel
theorem dG_store_7 : decode cG_store 7 = .ok (.ifCond .ne 5, 3) := by decide +kernel
theorem dG_store_10 : decode cG_store 10 = .ok (.iconst 0, 1) := by decide +kernel
theorem dG_store_11 : decode cG_store 11 = .ok (.ireturn, 1) := by decide +kernel
theorem dG_store_12 : decode cG_store 12 = .ok (.aload_n 3, 1) := by decide +kernel
theorem dG_store_13 : decode cG_store 13 = .ok (.iconst 0, 1) := by decide +kernel
theorem dG_store_14 : decode cG_store 14 = .ok (.aload_n 0, 1) := by decide +kernel
theorem dG_store_15 : decode cG_store 15 = .ok (.getfield 51, 3) := by decide +kernel
theorem dG_store_18 : decode cG_store 18 = .ok (.iconst 0, 1) := by decide +kernel
theorem dG_store_19 : decode cG_store 19 = .ok (.bipush 8, 2) := by decide +kernel
theorem dG_store_21 : decode cG_store 21 = .ok (.invokestatic 175, 3) := by decide +kernel
theorem dG_store_24 : decode cG_store 24 = .ok (.aload_n 0, 1) := by decide +kernel
theorem dG_store_25 : decode cG_store 25 = .ok (.getfield 51, 3) := by decide +kernel
theorem dG_store_28 : decode cG_store 28 = .ok (.bipush 9, 2) := by decide +kernel
theorem dG_store_30 : decode cG_store 30 = .ok (.iload_n 2, 1) := by decide +kernel
theorem dG_store_31 : decode cG_store 31 = .ok (.iastore, 1) := by decide +kernel
theorem dG_store_32 : decode cG_store 32 = .ok (.aload_n 0, 1) := by decide +kernel
theorem dG_store_33 : decode cG_store 33 = .ok (.getfield 51, 3) := by decide +kernel
theorem dG_store_36 : decode cG_store 36 = .ok (.bipush 10, 2) := by decide +kernel
theorem dG_store_38 : decode cG_store 38 = .ok (.iload 4, 2) := by decide +kernel
theorem dG_store_40 : decode cG_store 40 = .ok (.iastore, 1) := by decide +kernel
theorem dG_store_41 : decode cG_store 41 = .ok (.aload_n 0, 1) := by decide +kernel
theorem dG_store_42 : decode cG_store 42 = .ok (.getfield 51, 3) := by decide +kernel
theorem dG_store_45 : decode cG_store 45 = .ok (.bipush 8, 2) := by decide +kernel
theorem dG_store_47 : decode cG_store 47 = .ok (.aload_n 0, 1) := by decide +kernel
theorem dG_store_48 : decode cG_store 48 = .ok (.getfield 51, 3) := by decide +kernel
theorem dG_store_51 : decode cG_store 51 = .ok (.iconst 0, 1) := by decide +kernel
theorem dG_store_52 : decode cG_store 52 = .ok (.invokestatic 165, 3) := by decide +kernel
theorem dG_store_55 : decode cG_store 55 = .ok (.iastore, 1) := by decide +kernel
theorem dG_store_56 : decode cG_store 56 = .ok (.aload_n 0, 1) := by decide +kernel
theorem dG_store_57 : decode cG_store 57 = .ok (.iload_n 1, 1) := by decide +kernel
theorem dG_store_58 : decode cG_store 58 = .ok (.invokevirtual 78, 3) := by decide +kernel
theorem dG_store_61 : decode cG_store 61 = .ok (.iload_n 2, 1) := by decide +kernel
theorem dG_store_62 : decode cG_store 62 = .ok (.aload_n 0, 1) := by decide +kernel
theorem dG_store_63 : decode cG_store 63 = .ok (.getfield 51, 3) := by decide +kernel
theorem dG_store_66 : decode cG_store 66 = .ok (.invokevirtual 181, 3) := by decide +kernel
theorem dG_store_69 : decode cG_store 69 = .ok (.iconst 1, 1) := by decide +kernel
theorem dG_store_70 : decode cG_store 70 = .ok (.ireturn, 1) := by decide +kernel
theorem dP_allowsWrite_0 : decode cP_allowsWrite 0 = .ok (.aload_n 0, 1) := by decide +kernel
theorem dP_allowsWrite_1 : decode cP_allowsWrite 1 = .ok (.getfield 13, 3) := by decide +kernel
theorem dP_allowsWrite_4 : decode cP_allowsWrite 4 = .ok (.ifCond .ne 10, 3) := by decide +kernel
theorem dP_allowsWrite_7 : decode cP_allowsWrite 7 = .ok (.aload_n 0, 1) := by decide +kernel
theorem dP_allowsWrite_8 : decode cP_allowsWrite 8 = .ok (.iconst 0, 1) := by decide +kernel
theorem dP_allowsWrite_9 : decode cP_allowsWrite 9 = .ok (.putfield 7, 3) := by decide +kernel
theorem dP_allowsWrite_12 : decode cP_allowsWrite 12 = .ok (.iconst 0, 1) := by decide +kernel
theorem dP_allowsWrite_13 : decode cP_allowsWrite 13 = .ok (.ireturn, 1) := by decide +kernel
theorem dP_allowsWrite_14 : decode cP_allowsWrite 14 = .ok (.aload_n 0, 1) := by decide +kernel
theorem dP_allowsWrite_15 : decode cP_allowsWrite 15 = .ok (.getfield 13, 3) := by decide +kernel
theorem dP_allowsWrite_18 : decode cP_allowsWrite 18 = .ok (.ifCond .le 13, 3) := by decide +kernel
theorem dP_allowsWrite_21 : decode cP_allowsWrite 21 = .ok (.aload_n 0, 1) := by decide +kernel
theorem dP_allowsWrite_22 : decode cP_allowsWrite 22 = .ok (.dup, 1) := by decide +kernel
theorem dP_allowsWrite_23 : decode cP_allowsWrite 23 = .ok (.getfield 13, 3) := by decide +kernel
theorem dP_allowsWrite_26 : decode cP_allowsWrite 26 = .ok (.iconst 1, 1) := by decide +kernel
theorem dP_allowsWrite_27 : decode cP_allowsWrite 27 = .ok (.isub, 1) := by decide +kernel
theorem dP_allowsWrite_28 : decode cP_allowsWrite 28 = .ok (.putfield 13, 3) := by decide +kernel
theorem dP_allowsWrite_31 : decode cP_allowsWrite 31 = .ok (.iconst 1, 1) := by decide +kernel
theorem dP_allowsWrite_32 : decode cP_allowsWrite 32 = .ok (.ireturn, 1) := by decide +kernel
theorem dD_take_0 : decode cD_take 0 = .ok (.aload_n 0, 1) := by decide +kernel
theorem dD_take_1 : decode cD_take 1 = .ok (.iconst 1, 1) := by decide +kernel
theorem dD_take_2 : decode cD_take 2 = .ok (.invokevirtual 47, 3) := by decide +kernel
theorem dD_take_5 : decode cD_take 5 = .ok (.istore_n 3, 1) := by decide +kernel
theorem dD_take_6 : decode cD_take 6 = .ok (.aload_n 0, 1) := by decide +kernel
theorem dD_take_7 : decode cD_take 7 = .ok (.dup, 1) := by decide +kernel
theorem dD_take_8 : decode cD_take 8 = .ok (.getfield 28, 3) := by decide +kernel
theorem dD_take_11 : decode cD_take 11 = .ok (.iconst 1, 1) := by decide +kernel
theorem dD_take_12 : decode cD_take 12 = .ok (.iadd, 1) := by decide +kernel
theorem dD_take_13 : decode cD_take 13 = .ok (.putfield 28, 3) := by decide +kernel
theorem dD_take_16 : decode cD_take 16 = .ok (.iload_n 3, 1) := by decide +kernel
theorem dD_take_17 : decode cD_take 17 = .ok (.iconst (-1), 1) := by decide +kernel
theorem dD_take_18 : decode cD_take 18 = .ok (.if_icmp .ne 12, 3) := by decide +kernel
theorem dD_take_21 : decode cD_take 21 = .ok (.aload_n 0, 1) := by decide +kernel
theorem dD_take_22 : decode cD_take 22 = .ok (.iload_n 1, 1) := by decide +kernel
theorem dD_take_23 : decode cD_take 23 = .ok (.aload_n 2, 1) := by decide +kernel
theorem dD_take_24 : decode cD_take 24 = .ok (.bipush 11, 2) := by decide +kernel
theorem dD_take_26 : decode cD_take 26 = .ok (.invokevirtual 51, 3) := by decide +kernel
theorem dD_take_29 : decode cD_take 29 = .ok (.return_, 1) := by decide +kernel
theorem dD_take_30 : decode cD_take 30 = .ok (.aload_n 0, 1) := by decide +kernel
theorem dD_take_31 : decode cD_take 31 = .ok (.getfield 18, 3) := by decide +kernel
theorem dD_take_34 : decode cD_take 34 = .ok (.iload_n 3, 1) := by decide +kernel
theorem dD_take_35 : decode cD_take 35 = .ok (.iaload, 1) := by decide +kernel
theorem dD_take_36 : decode cD_take 36 = .ok (.istore 4, 2) := by decide +kernel
theorem dD_take_38 : decode cD_take 38 = .ok (.aload_n 0, 1) := by decide +kernel
theorem dD_take_39 : decode cD_take 39 = .ok (.getfield 21, 3) := by decide +kernel
theorem dD_take_42 : decode cD_take 42 = .ok (.iload_n 3, 1) := by decide +kernel
theorem dD_take_43 : decode cD_take 43 = .ok (.iaload, 1) := by decide +kernel
theorem dD_take_44 : decode cD_take 44 = .ok (.istore 5, 2) := by decide +kernel
theorem dD_take_46 : decode cD_take 46 = .ok (.aload_n 0, 1) := by decide +kernel
theorem dD_take_47 : decode cD_take 47 = .ok (.iload_n 3, 1) := by decide +kernel
theorem dD_take_48 : decode cD_take 48 = .ok (.invokevirtual 55, 3) := by decide +kernel
theorem dD_take_51 : decode cD_take 51 = .ok (.iload 4, 2) := by decide +kernel
theorem dD_take_53 : decode cD_take 53 = .ok (.iconst 1, 1) := by decide +kernel
theorem dD_take_54 : decode cD_take 54 = .ok (.if_icmp .ne 15, 3) := by decide +kernel
theorem dD_take_57 : decode cD_take 57 = .ok (.aload_n 0, 1) := by decide +kernel
theorem dD_take_58 : decode cD_take 58 = .ok (.iload 5, 2) := by decide +kernel
theorem dD_take_60 : decode cD_take 60 = .ok (.aload_n 2, 1) := by decide +kernel
theorem dD_take_61 : decode cD_take 61 = .ok (.bipush 11, 2) := by decide +kernel
theorem dD_take_63 : decode cD_take 63 = .ok (.invokevirtual 51, 3) := by decide +kernel
theorem dD_take_66 : decode cD_take 66 = .ok (.goto 17, 3) := by decide +kernel
theorem dD_take_69 : decode cD_take 69 = .ok (.iload 4, 2) := by decide +kernel
theorem dD_take_71 : decode cD_take 71 = .ok (.iconst 2, 1) := by decide +kernel
theorem dD_take_72 : decode cD_take 72 = .ok (.if_icmp .ne 11, 3) := by decide +kernel
theorem dD_take_75 : decode cD_take 75 = .ok (.aload_n 0, 1) := by decide +kernel
theorem dD_take_76 : decode cD_take 76 = .ok (.iload_n 1, 1) := by decide +kernel
theorem dD_take_77 : decode cD_take 77 = .ok (.aload_n 2, 1) := by decide +kernel
theorem dD_take_78 : decode cD_take 78 = .ok (.iload 5, 2) := by decide +kernel
theorem dD_take_80 : decode cD_take 80 = .ok (.invokevirtual 51, 3) := by decide +kernel
theorem dD_take_83 : decode cD_take 83 = .ok (.return_, 1) := by decide +kernel
theorem dD_planOfNext_0 : decode cD_planOfNext 0 = .ok (.iconst 0, 1) := by decide +kernel
theorem dD_planOfNext_1 : decode cD_planOfNext 1 = .ok (.istore_n 2, 1) := by decide +kernel
theorem dD_planOfNext_2 : decode cD_planOfNext 2 = .ok (.iload_n 2, 1) := by decide +kernel
theorem dD_planOfNext_3 : decode cD_planOfNext 3 = .ok (.aload_n 0, 1) := by decide +kernel
theorem dD_planOfNext_4 : decode cD_planOfNext 4 = .ok (.getfield 24, 3) := by decide +kernel
theorem dD_planOfNext_7 : decode cD_planOfNext 7 = .ok (.if_icmp .ge 26, 3) := by decide +kernel
theorem dD_planOfNext_10 : decode cD_planOfNext 10 = .ok (.aload_n 0, 1) := by decide +kernel
theorem dD_planOfNext_11 : decode cD_planOfNext 11 = .ok (.getfield 15, 3) := by decide +kernel
theorem dD_planOfNext_14 : decode cD_planOfNext 14 = .ok (.iload_n 2, 1) := by decide +kernel
theorem dD_planOfNext_15 : decode cD_planOfNext 15 = .ok (.iaload, 1) := by decide +kernel
theorem dD_planOfNext_16 : decode cD_planOfNext 16 = .ok (.aload_n 0, 1) := by decide +kernel
theorem dD_planOfNext_17 : decode cD_planOfNext 17 = .ok (.getfield 28, 3) := by decide +kernel
theorem dD_planOfNext_20 : decode cD_planOfNext 20 = .ok (.iload_n 1, 1) := by decide +kernel
theorem dD_planOfNext_21 : decode cD_planOfNext 21 = .ok (.iadd, 1) := by decide +kernel
theorem dD_planOfNext_22 : decode cD_planOfNext 22 = .ok (.if_icmp .ne 5, 3) := by decide +kernel
theorem dD_planOfNext_25 : decode cD_planOfNext 25 = .ok (.iload_n 2, 1) := by decide +kernel
theorem dD_planOfNext_26 : decode cD_planOfNext 26 = .ok (.ireturn, 1) := by decide +kernel
theorem dD_planOfNext_27 : decode cD_planOfNext 27 = .ok (.iinc 2 1, 3) := by decide +kernel
theorem dD_planOfNext_30 : decode cD_planOfNext 30 = .ok (.goto (-28), 3) := by decide +kernel
theorem dD_planOfNext_33 : decode cD_planOfNext 33 = .ok (.iconst (-1), 1) := by decide +kernel
theorem dD_planOfNext_34 : decode cD_planOfNext 34 = .ok (.ireturn, 1) := by decide +kernel
theorem dD_keep_0 : decode cD_keep 0 = .ok (.aload_n 2, 1) := by decide +kernel
theorem dD_keep_1 : decode cD_keep 1 = .ok (.iconst 0, 1) := by decide +kernel
theorem dD_keep_2 : decode cD_keep 2 = .ok (.aload_n 0, 1) := by decide +kernel
theorem dD_keep_3 : decode cD_keep 3 = .ok (.getfield 9, 3) := by decide +kernel
theorem dD_keep_6 : decode cD_keep 6 = .ok (.iload_n 1, 1) := by decide +kernel
theorem dD_keep_7 : decode cD_keep 7 = .ok (.bipush 11, 2) := by decide +kernel
theorem dD_keep_9 : decode cD_keep 9 = .ok (.imul, 1) := by decide +kernel
theorem dD_keep_10 : decode cD_keep 10 = .ok (.iload_n 3, 1) := by decide +kernel
theorem dD_keep_11 : decode cD_keep 11 = .ok (.invokestatic 35, 3) := by decide +kernel
theorem dD_keep_14 : decode cD_keep 14 = .ok (.return_, 1) := by decide +kernel
theorem dD_removePlan_0 : decode cD_removePlan 0 = .ok (.aload_n 0, 1) := by decide +kernel
theorem dD_removePlan_1 : decode cD_removePlan 1 = .ok (.dup, 1) := by decide +kernel
theorem dD_removePlan_2 : decode cD_removePlan 2 = .ok (.getfield 24, 3) := by decide +kernel
theorem dD_removePlan_5 : decode cD_removePlan 5 = .ok (.iconst 1, 1) := by decide +kernel
theorem dD_removePlan_6 : decode cD_removePlan 6 = .ok (.isub, 1) := by decide +kernel
theorem dD_removePlan_7 : decode cD_removePlan 7 = .ok (.putfield 24, 3) := by decide +kernel
theorem dD_removePlan_10 : decode cD_removePlan 10 = .ok (.aload_n 0, 1) := by decide +kernel
theorem dD_removePlan_11 : decode cD_removePlan 11 = .ok (.getfield 15, 3) := by decide +kernel
theorem dD_removePlan_14 : decode cD_removePlan 14 = .ok (.iload_n 1, 1) := by decide +kernel
theorem dD_removePlan_15 : decode cD_removePlan 15 = .ok (.aload_n 0, 1) := by decide +kernel
theorem dD_removePlan_16 : decode cD_removePlan 16 = .ok (.getfield 15, 3) := by decide +kernel
theorem dD_removePlan_19 : decode cD_removePlan 19 = .ok (.aload_n 0, 1) := by decide +kernel
theorem dD_removePlan_20 : decode cD_removePlan 20 = .ok (.getfield 24, 3) := by decide +kernel
theorem dD_removePlan_23 : decode cD_removePlan 23 = .ok (.iaload, 1) := by decide +kernel
theorem dD_removePlan_24 : decode cD_removePlan 24 = .ok (.iastore, 1) := by decide +kernel
theorem dD_removePlan_25 : decode cD_removePlan 25 = .ok (.aload_n 0, 1) := by decide +kernel
theorem dD_removePlan_26 : decode cD_removePlan 26 = .ok (.getfield 18, 3) := by decide +kernel
theorem dD_removePlan_29 : decode cD_removePlan 29 = .ok (.iload_n 1, 1) := by decide +kernel
theorem dD_removePlan_30 : decode cD_removePlan 30 = .ok (.aload_n 0, 1) := by decide +kernel
theorem dD_removePlan_31 : decode cD_removePlan 31 = .ok (.getfield 18, 3) := by decide +kernel
theorem dD_removePlan_34 : decode cD_removePlan 34 = .ok (.aload_n 0, 1) := by decide +kernel
theorem dD_removePlan_35 : decode cD_removePlan 35 = .ok (.getfield 24, 3) := by decide +kernel
theorem dD_removePlan_38 : decode cD_removePlan 38 = .ok (.iaload, 1) := by decide +kernel
theorem dD_removePlan_39 : decode cD_removePlan 39 = .ok (.iastore, 1) := by decide +kernel
theorem dD_removePlan_40 : decode cD_removePlan 40 = .ok (.aload_n 0, 1) := by decide +kernel
theorem dD_removePlan_41 : decode cD_removePlan 41 = .ok (.getfield 21, 3) := by decide +kernel
theorem dD_removePlan_44 : decode cD_removePlan 44 = .ok (.iload_n 1, 1) := by decide +kernel
theorem dD_removePlan_45 : decode cD_removePlan 45 = .ok (.aload_n 0, 1) := by decide +kernel
theorem dD_removePlan_46 : decode cD_removePlan 46 = .ok (.getfield 21, 3) := by decide +kernel
theorem dD_removePlan_49 : decode cD_removePlan 49 = .ok (.aload_n 0, 1) := by decide +kernel
theorem dD_removePlan_50 : decode cD_removePlan 50 = .ok (.getfield 24, 3) := by decide +kernel
theorem dD_removePlan_53 : decode cD_removePlan 53 = .ok (.iaload, 1) := by decide +kernel
theorem dD_removePlan_54 : decode cD_removePlan 54 = .ok (.iastore, 1) := by decide +kernel
theorem dD_removePlan_55 : decode cD_removePlan 55 = .ok (.return_, 1) := by decide +kernel
theorem dG_storeList_0 : decode cG_storeList 0 = .ok (.iload_n 2, 1) := by decide +kernel
theorem dG_storeList_1 : decode cG_storeList 1 = .ok (.bipush 8, 2) := by decide +kernel
theorem dG_storeList_3 : decode cG_storeList 3 = .ok (.idiv, 1) := by decide +kernel
theorem dG_storeList_4 : decode cG_storeList 4 = .ok (.istore 4, 2) := by decide +kernel
theorem dG_storeList_6 : decode cG_storeList 6 = .ok (.aload_n 0, 1) := by decide +kernel
theorem dG_storeList_7 : decode cG_storeList 7 = .ok (.iload_n 1, 1) := by decide +kernel
theorem dG_storeList_8 : decode cG_storeList 8 = .ok (.iload 4, 2) := by decide +kernel
theorem dG_storeList_10 : decode cG_storeList 10 = .ok (.invokevirtual 169, 3) := by decide +kernel
theorem dG_storeList_13 : decode cG_storeList 13 = .ok (.istore 5, 2) := by decide +kernel
theorem dG_storeList_15 : decode cG_storeList 15 = .ok (.iload 5, 2) := by decide +kernel
theorem dG_storeList_17 : decode cG_storeList 17 = .ok (.iconst (-1), 1) := by decide +kernel
theorem dG_storeList_18 : decode cG_storeList 18 = .ok (.if_icmp .ne 14, 3) := by decide +kernel
theorem dG_storeList_21 : decode cG_storeList 21 = .ok (.aload_n 0, 1) := by decide +kernel
theorem dG_storeList_22 : decode cG_storeList 22 = .ok (.getfield 54, 3) := by decide +kernel
theorem dG_storeList_25 : decode cG_storeList 25 = .ok (.iconst 0, 1) := by decide +kernel
theorem dG_storeList_26 : decode cG_storeList 26 = .ok (.invokestatic 184, 3) := by decide +kernel
theorem dG_storeList_29 : decode cG_storeList 29 = .ok (.goto 21, 3) := by decide +kernel
theorem dG_storeList_32 : decode cG_storeList 32 = .ok (.aload_n 0, 1) := by decide +kernel
theorem dG_storeList_33 : decode cG_storeList 33 = .ok (.iload 5, 2) := by decide +kernel
theorem dG_storeList_35 : decode cG_storeList 35 = .ok (.invokevirtual 78, 3) := by decide +kernel
theorem dG_storeList_38 : decode cG_storeList 38 = .ok (.bipush 64, 2) := by decide +kernel
theorem dG_storeList_40 : decode cG_storeList 40 = .ok (.iload 4, 2) := by decide +kernel
theorem dG_storeList_42 : decode cG_storeList 42 = .ok (.iadd, 1) := by decide +kernel
theorem dG_storeList_43 : decode cG_storeList 43 = .ok (.aload_n 0, 1) := by decide +kernel
theorem dG_storeList_44 : decode cG_storeList 44 = .ok (.getfield 54, 3) := by decide +kernel
theorem dG_storeList_47 : decode cG_storeList 47 = .ok (.invokevirtual 95, 3) := by decide +kernel
theorem dG_storeList_50 : decode cG_storeList 50 = .ok (.aload_n 0, 1) := by decide +kernel
theorem dG_storeList_51 : decode cG_storeList 51 = .ok (.getfield 54, 3) := by decide +kernel
theorem dG_storeList_54 : decode cG_storeList 54 = .ok (.iload_n 2, 1) := by decide +kernel
theorem dG_storeList_55 : decode cG_storeList 55 = .ok (.bipush 8, 2) := by decide +kernel
theorem dG_storeList_57 : decode cG_storeList 57 = .ok (.irem, 1) := by decide +kernel
theorem dG_storeList_58 : decode cG_storeList 58 = .ok (.iload_n 3, 1) := by decide +kernel
theorem dG_storeList_59 : decode cG_storeList 59 = .ok (.iastore, 1) := by decide +kernel
theorem dG_storeList_60 : decode cG_storeList 60 = .ok (.iconst 1, 1) := by decide +kernel
theorem dG_storeList_61 : decode cG_storeList 61 = .ok (.iload_n 1, 1) := by decide +kernel
theorem dG_storeList_62 : decode cG_storeList 62 = .ok (.isub, 1) := by decide +kernel
theorem dG_storeList_63 : decode cG_storeList 63 = .ok (.bipush 8, 2) := by decide +kernel
theorem dG_storeList_65 : decode cG_storeList 65 = .ok (.imul, 1) := by decide +kernel
theorem dG_storeList_66 : decode cG_storeList 66 = .ok (.iload 4, 2) := by decide +kernel
theorem dG_storeList_68 : decode cG_storeList 68 = .ok (.iadd, 1) := by decide +kernel
theorem dG_storeList_69 : decode cG_storeList 69 = .ok (.istore 6, 2) := by decide +kernel
theorem dG_storeList_71 : decode cG_storeList 71 = .ok (.aload_n 0, 1) := by decide +kernel
theorem dG_storeList_72 : decode cG_storeList 72 = .ok (.getfield 40, 3) := by decide +kernel
theorem dG_storeList_75 : decode cG_storeList 75 = .ok (.iload 6, 2) := by decide +kernel
theorem dG_storeList_77 : decode cG_storeList 77 = .ok (.iaload, 1) := by decide +kernel
theorem dG_storeList_78 : decode cG_storeList 78 = .ok (.iconst 1, 1) := by decide +kernel
theorem dG_storeList_79 : decode cG_storeList 79 = .ok (.iadd, 1) := by decide +kernel
theorem dG_storeList_80 : decode cG_storeList 80 = .ok (.istore 7, 2) := by decide +kernel
theorem dG_storeList_82 : decode cG_storeList 82 = .ok (.aload_n 0, 1) := by decide +kernel
theorem dG_storeList_83 : decode cG_storeList 83 = .ok (.iconst 1, 1) := by decide +kernel
theorem dG_storeList_84 : decode cG_storeList 84 = .ok (.iload_n 1, 1) := by decide +kernel
theorem dG_storeList_85 : decode cG_storeList 85 = .ok (.isub, 1) := by decide +kernel
theorem dG_storeList_86 : decode cG_storeList 86 = .ok (.bipush 64, 2) := by decide +kernel
theorem dG_storeList_88 : decode cG_storeList 88 = .ok (.iload 4, 2) := by decide +kernel
theorem dG_storeList_90 : decode cG_storeList 90 = .ok (.iadd, 1) := by decide +kernel
theorem dG_storeList_91 : decode cG_storeList 91 = .ok (.aload_n 0, 1) := by decide +kernel
theorem dG_storeList_92 : decode cG_storeList 92 = .ok (.getfield 54, 3) := by decide +kernel
theorem dG_storeList_95 : decode cG_storeList 95 = .ok (.iload 7, 2) := by decide +kernel
theorem dG_storeList_97 : decode cG_storeList 97 = .ok (.invokevirtual 190, 3) := by decide +kernel
theorem dG_storeList_100 : decode cG_storeList 100 = .ok (.ifCond .ne 5, 3) := by decide +kernel
theorem dG_storeList_103 : decode cG_storeList 103 = .ok (.iconst 0, 1) := by decide +kernel
theorem dG_storeList_104 : decode cG_storeList 104 = .ok (.ireturn, 1) := by decide +kernel
theorem dG_storeList_105 : decode cG_storeList 105 = .ok (.aload_n 0, 1) := by decide +kernel
theorem dG_storeList_106 : decode cG_storeList 106 = .ok (.getfield 40, 3) := by decide +kernel
theorem dG_storeList_109 : decode cG_storeList 109 = .ok (.iload 6, 2) := by decide +kernel
theorem dG_storeList_111 : decode cG_storeList 111 = .ok (.iload 7, 2) := by decide +kernel
theorem dG_storeList_113 : decode cG_storeList 113 = .ok (.iastore, 1) := by decide +kernel
theorem dG_storeList_114 : decode cG_storeList 114 = .ok (.iconst 1, 1) := by decide +kernel
theorem dG_storeList_115 : decode cG_storeList 115 = .ok (.ireturn, 1) := by decide +kernel
theorem dAf_fill_0 : decode cAf_fill 0 = .ok (.iconst 0, 1) := by decide +kernel
theorem dAf_fill_1 : decode cAf_fill 1 = .ok (.istore_n 2, 1) := by decide +kernel
theorem dAf_fill_2 : decode cAf_fill 2 = .ok (.aload_n 0, 1) := by decide +kernel
theorem dAf_fill_3 : decode cAf_fill 3 = .ok (.arraylength, 1) := by decide +kernel
theorem dAf_fill_4 : decode cAf_fill 4 = .ok (.istore_n 3, 1) := by decide +kernel
theorem dAf_fill_5 : decode cAf_fill 5 = .ok (.iload_n 2, 1) := by decide +kernel
theorem dAf_fill_6 : decode cAf_fill 6 = .ok (.iload_n 3, 1) := by decide +kernel
theorem dAf_fill_7 : decode cAf_fill 7 = .ok (.if_icmp .ge 13, 3) := by decide +kernel
theorem dAf_fill_10 : decode cAf_fill 10 = .ok (.aload_n 0, 1) := by decide +kernel
theorem dAf_fill_11 : decode cAf_fill 11 = .ok (.iload_n 2, 1) := by decide +kernel
theorem dAf_fill_12 : decode cAf_fill 12 = .ok (.iload_n 1, 1) := by decide +kernel
theorem dAf_fill_13 : decode cAf_fill 13 = .ok (.iastore, 1) := by decide +kernel
theorem dAf_fill_14 : decode cAf_fill 14 = .ok (.iinc 2 1, 3) := by decide +kernel
theorem dAf_fill_17 : decode cAf_fill 17 = .ok (.goto (-12), 3) := by decide +kernel
theorem dAf_fill_20 : decode cAf_fill 20 = .ok (.return_, 1) := by decide +kernel
theorem dL_read_0 : decode cL_read 0 = .ok (.aload_n 3, 1) := by decide +kernel
theorem dL_read_1 : decode cL_read 1 = .ok (.iconst 0, 1) := by decide +kernel
theorem dL_read_2 : decode cL_read 2 = .ok (.aload_n 0, 1) := by decide +kernel
theorem dL_read_3 : decode cL_read 3 = .ok (.iload_n 1, 1) := by decide +kernel
theorem dL_read_4 : decode cL_read 4 = .ok (.iload_n 2, 1) := by decide +kernel
theorem dL_read_5 : decode cL_read 5 = .ok (.invokevirtual 19, 3) := by decide +kernel
theorem dL_read_8 : decode cL_read 8 = .ok (.i2l, 1) := by decide +kernel
theorem dL_read_9 : decode cL_read 9 = .ok (.lastore, 1) := by decide +kernel
theorem dL_read_10 : decode cL_read 10 = .ok (.goto 11, 3) := by decide +kernel
theorem dL_read_13 : decode cL_read 13 = .ok (.astore 4, 2) := by decide +kernel
theorem dL_read_15 : decode cL_read 15 = .ok (.iconst 1, 1) := by decide +kernel
theorem dL_read_16 : decode cL_read 16 = .ok (.ireturn, 1) := by decide +kernel
theorem dL_read_17 : decode cL_read 17 = .ok (.astore 4, 2) := by decide +kernel
theorem dL_read_19 : decode cL_read 19 = .ok (.iconst 2, 1) := by decide +kernel
theorem dL_read_20 : decode cL_read 20 = .ok (.ireturn, 1) := by decide +kernel
theorem dL_read_21 : decode cL_read 21 = .ok (.iconst 0, 1) := by decide +kernel
theorem dL_read_22 : decode cL_read 22 = .ok (.ireturn, 1) := by decide +kernel
theorem dG_read_0 : decode cG_read 0 = .ok (.iload_n 1, 1) := by decide +kernel
theorem dG_read_1 : decode cG_read 1 = .ok (.bipush 64, 2) := by decide +kernel
theorem dG_read_3 : decode cG_read 3 = .ok (.invokestatic 60, 3) := by decide +kernel
theorem dG_read_6 : decode cG_read 6 = .ok (.ifCond .eq 12, 3) := by decide +kernel
theorem dG_read_9 : decode cG_read 9 = .ok (.iload_n 2, 1) := by decide +kernel
theorem dG_read_10 : decode cG_read 10 = .ok (.bipush 8, 2) := by decide +kernel
theorem dG_read_12 : decode cG_read 12 = .ok (.invokestatic 60, 3) := by decide +kernel
theorem dG_read_15 : decode cG_read 15 = .ok (.ifCond .ne 11, 3) := by decide +kernel
theorem dG_read_18 : decode cG_read 18 = .ok (.new 64, 3) := by decide +kernel
theorem dG_read_21 : decode cG_read 21 = .ok (.dup, 1) := by decide +kernel
theorem dG_read_22 : decode cG_read 22 = .ok (.invokespecial 66, 3) := by decide +kernel
theorem dG_read_25 : decode cG_read 25 = .ok (.athrow, 1) := by decide +kernel
theorem dG_read_26 : decode cG_read 26 = .ok (.aload_n 0, 1) := by decide +kernel
theorem dG_read_27 : decode cG_read 27 = .ok (.getfield 22, 3) := by decide +kernel
theorem dG_read_30 : decode cG_read 30 = .ok (.getfield 67, 3) := by decide +kernel
theorem dG_read_33 : decode cG_read 33 = .ok (.ifCond .ne 11, 3) := by decide +kernel
theorem dG_read_36 : decode cG_read 36 = .ok (.new 71, 3) := by decide +kernel
theorem dG_read_39 : decode cG_read 39 = .ok (.dup, 1) := by decide +kernel
theorem dG_read_40 : decode cG_read 40 = .ok (.invokespecial 73, 3) := by decide +kernel
theorem dG_read_43 : decode cG_read 43 = .ok (.athrow, 1) := by decide +kernel
theorem dG_read_44 : decode cG_read 44 = .ok (.aload_n 0, 1) := by decide +kernel
theorem dG_read_45 : decode cG_read 45 = .ok (.iload_n 1, 1) := by decide +kernel
theorem dG_read_46 : decode cG_read 46 = .ok (.invokevirtual 74, 3) := by decide +kernel
theorem dG_read_49 : decode cG_read 49 = .ok (.istore_n 3, 1) := by decide +kernel
theorem dG_read_50 : decode cG_read 50 = .ok (.aload_n 0, 1) := by decide +kernel
theorem dG_read_51 : decode cG_read 51 = .ok (.iload_n 3, 1) := by decide +kernel
theorem dG_read_52 : decode cG_read 52 = .ok (.invokestatic 89, 3) := by decide +kernel
theorem dG_read_55 : decode cG_read 55 = .ok (.putfield 44, 3) := by decide +kernel
theorem dG_read_58 : decode cG_read 58 = .ok (.iload_n 3, 1) := by decide +kernel
theorem dG_read_59 : decode cG_read 59 = .ok (.iconst (-1), 1) := by decide +kernel
theorem dG_read_60 : decode cG_read 60 = .ok (.if_icmp .ne 7, 3) := by decide +kernel
theorem dG_read_63 : decode cG_read 63 = .ok (.iconst 0, 1) := by decide +kernel
theorem dG_read_64 : decode cG_read 64 = .ok (.goto 13, 3) := by decide +kernel
theorem dG_read_67 : decode cG_read 67 = .ok (.aload_n 0, 1) := by decide +kernel
theorem dG_read_68 : decode cG_read 68 = .ok (.iload_n 3, 1) := by decide +kernel
theorem dG_read_69 : decode cG_read 69 = .ok (.invokevirtual 78, 3) := by decide +kernel
theorem dG_read_72 : decode cG_read 72 = .ok (.iload_n 1, 1) := by decide +kernel
theorem dG_read_73 : decode cG_read 73 = .ok (.iload_n 2, 1) := by decide +kernel
theorem dG_read_74 : decode cG_read 74 = .ok (.invokevirtual 82, 3) := by decide +kernel
theorem dG_read_77 : decode cG_read 77 = .ok (.ireturn, 1) := by decide +kernel
theorem dL_plan_0 : decode cL_plan 0 = .ok (.aload_n 0, 1) := by decide +kernel
theorem dL_plan_1 : decode cL_plan 1 = .ok (.iload_n 1, 1) := by decide +kernel
theorem dL_plan_2 : decode cL_plan 2 = .ok (.iload_n 2, 1) := by decide +kernel
theorem dL_plan_3 : decode cL_plan 3 = .ok (.iload_n 3, 1) := by decide +kernel
theorem dL_plan_4 : decode cL_plan 4 = .ok (.iload 4, 2) := by decide +kernel
theorem dL_plan_6 : decode cL_plan 6 = .ok (.invokevirtual 23, 3) := by decide +kernel
theorem dL_plan_9 : decode cL_plan 9 = .ok (.goto 15, 3) := by decide +kernel
theorem dL_plan_12 : decode cL_plan 12 = .ok (.astore 5, 2) := by decide +kernel
theorem dL_plan_14 : decode cL_plan 14 = .ok (.iconst 1, 1) := by decide +kernel
theorem dL_plan_15 : decode cL_plan 15 = .ok (.ireturn, 1) := by decide +kernel
theorem dL_plan_16 : decode cL_plan 16 = .ok (.astore 5, 2) := by decide +kernel
theorem dL_plan_18 : decode cL_plan 18 = .ok (.iconst 2, 1) := by decide +kernel
theorem dL_plan_19 : decode cL_plan 19 = .ok (.ireturn, 1) := by decide +kernel
theorem dL_plan_20 : decode cL_plan 20 = .ok (.astore 5, 2) := by decide +kernel
theorem dL_plan_22 : decode cL_plan 22 = .ok (.iconst 3, 1) := by decide +kernel
theorem dL_plan_23 : decode cL_plan 23 = .ok (.ireturn, 1) := by decide +kernel
theorem dL_plan_24 : decode cL_plan 24 = .ok (.iconst 0, 1) := by decide +kernel
theorem dL_plan_25 : decode cL_plan 25 = .ok (.ireturn, 1) := by decide +kernel
theorem dG_plan_0 : decode cG_plan 0 = .ok (.iload_n 1, 1) := by decide +kernel
theorem dG_plan_1 : decode cG_plan 1 = .ok (.iconst 2, 1) := by decide +kernel
theorem dG_plan_2 : decode cG_plan 2 = .ok (.invokestatic 60, 3) := by decide +kernel
theorem dG_plan_5 : decode cG_plan 5 = .ok (.ifCond .ne 11, 3) := by decide +kernel
theorem dG_plan_8 : decode cG_plan 8 = .ok (.new 64, 3) := by decide +kernel
theorem dG_plan_11 : decode cG_plan 11 = .ok (.dup, 1) := by decide +kernel
theorem dG_plan_12 : decode cG_plan 12 = .ok (.invokespecial 66, 3) := by decide +kernel
theorem dG_plan_15 : decode cG_plan 15 = .ok (.athrow, 1) := by decide +kernel
theorem dG_plan_16 : decode cG_plan 16 = .ok (.iload_n 2, 1) := by decide +kernel
theorem dG_plan_17 : decode cG_plan 17 = .ok (.iconst 1, 1) := by decide +kernel
theorem dG_plan_18 : decode cG_plan 18 = .ok (.if_icmp .lt 31, 3) := by decide +kernel
theorem dG_plan_21 : decode cG_plan 21 = .ok (.iload_n 2, 1) := by decide +kernel
theorem dG_plan_22 : decode cG_plan 22 = .ok (.bipush 50, 2) := by decide +kernel
theorem dG_plan_24 : decode cG_plan 24 = .ok (.if_icmp .gt 25, 3) := by decide +kernel
theorem dG_plan_27 : decode cG_plan 27 = .ok (.iload_n 3, 1) := by decide +kernel
theorem dG_plan_28 : decode cG_plan 28 = .ok (.iload 4, 2) := by decide +kernel
theorem dG_plan_30 : decode cG_plan 30 = .ok (.invokestatic 109, 3) := by decide +kernel
theorem dG_plan_33 : decode cG_plan 33 = .ok (.ifCond .eq 16, 3) := by decide +kernel
theorem dG_plan_36 : decode cG_plan 36 = .ok (.aload_n 0, 1) := by decide +kernel
theorem dG_plan_37 : decode cG_plan 37 = .ok (.iload_n 1, 1) := by decide +kernel
theorem dG_plan_38 : decode cG_plan 38 = .ok (.invokevirtual 78, 3) := by decide +kernel
theorem dG_plan_41 : decode cG_plan 41 = .ok (.iload_n 2, 1) := by decide +kernel
theorem dG_plan_42 : decode cG_plan 42 = .ok (.invokevirtual 112, 3) := by decide +kernel
theorem dG_plan_45 : decode cG_plan 45 = .ok (.iconst (-1), 1) := by decide +kernel
theorem dG_plan_46 : decode cG_plan 46 = .ok (.if_icmp .eq 11, 3) := by decide +kernel
theorem dG_plan_49 : decode cG_plan 49 = .ok (.new 115, 3) := by decide +kernel
theorem dG_plan_52 : decode cG_plan 52 = .ok (.dup, 1) := by decide +kernel
theorem dG_plan_53 : decode cG_plan 53 = .ok (.invokespecial 117, 3) := by decide +kernel
theorem dG_plan_56 : decode cG_plan 56 = .ok (.athrow, 1) := by decide +kernel
theorem dG_plan_57 : decode cG_plan 57 = .ok (.aload_n 0, 1) := by decide +kernel
theorem dG_plan_58 : decode cG_plan 58 = .ok (.iload_n 1, 1) := by decide +kernel
theorem dG_plan_59 : decode cG_plan 59 = .ok (.invokevirtual 78, 3) := by decide +kernel
theorem dG_plan_62 : decode cG_plan 62 = .ok (.getfield 118, 3) := by decide +kernel
theorem dG_plan_65 : decode cG_plan 65 = .ok (.bipush 8, 2) := by decide +kernel
theorem dG_plan_67 : decode cG_plan 67 = .ok (.if_icmp .ne 11, 3) := by decide +kernel
theorem dG_plan_70 : decode cG_plan 70 = .ok (.new 86, 3) := by decide +kernel
theorem dG_plan_73 : decode cG_plan 73 = .ok (.dup, 1) := by decide +kernel
theorem dG_plan_74 : decode cG_plan 74 = .ok (.invokespecial 88, 3) := by decide +kernel
theorem dG_plan_77 : decode cG_plan 77 = .ok (.athrow, 1) := by decide +kernel
theorem dG_plan_78 : decode cG_plan 78 = .ok (.aload_n 0, 1) := by decide +kernel
theorem dG_plan_79 : decode cG_plan 79 = .ok (.iload_n 1, 1) := by decide +kernel
theorem dG_plan_80 : decode cG_plan 80 = .ok (.invokevirtual 78, 3) := by decide +kernel
theorem dG_plan_83 : decode cG_plan 83 = .ok (.iload_n 2, 1) := by decide +kernel
theorem dG_plan_84 : decode cG_plan 84 = .ok (.iload_n 3, 1) := by decide +kernel
theorem dG_plan_85 : decode cG_plan 85 = .ok (.iload 4, 2) := by decide +kernel
theorem dG_plan_87 : decode cG_plan 87 = .ok (.invokevirtual 121, 3) := by decide +kernel
theorem dG_plan_90 : decode cG_plan 90 = .ok (.return_, 1) := by decide +kernel
theorem dG_isPlan_0 : decode cG_isPlan 0 = .ok (.iload_n 0, 1) := by decide +kernel
theorem dG_isPlan_1 : decode cG_isPlan 1 = .ok (.tableswitch 53 0 2 #[27, 29, 36], 27) := by decide +kernel
theorem dG_isPlan_28 : decode cG_isPlan 28 = .ok (.iconst 1, 1) := by decide +kernel
theorem dG_isPlan_29 : decode cG_isPlan 29 = .ok (.ireturn, 1) := by decide +kernel
theorem dG_isPlan_30 : decode cG_isPlan 30 = .ok (.iload_n 1, 1) := by decide +kernel
theorem dG_isPlan_31 : decode cG_isPlan 31 = .ok (.bipush 72, 2) := by decide +kernel
theorem dG_isPlan_33 : decode cG_isPlan 33 = .ok (.invokestatic 60, 3) := by decide +kernel
theorem dG_isPlan_36 : decode cG_isPlan 36 = .ok (.ireturn, 1) := by decide +kernel
theorem dG_isPlan_37 : decode cG_isPlan 37 = .ok (.iload_n 1, 1) := by decide +kernel
theorem dG_isPlan_38 : decode cG_isPlan 38 = .ok (.iconst 1, 1) := by decide +kernel
theorem dG_isPlan_39 : decode cG_isPlan 39 = .ok (.if_icmp .lt 13, 3) := by decide +kernel
theorem dG_isPlan_42 : decode cG_isPlan 42 = .ok (.iload_n 1, 1) := by decide +kernel
theorem dG_isPlan_43 : decode cG_isPlan 43 = .ok (.bipush 11, 2) := by decide +kernel
theorem dG_isPlan_45 : decode cG_isPlan 45 = .ok (.if_icmp .ge 7, 3) := by decide +kernel
theorem dG_isPlan_48 : decode cG_isPlan 48 = .ok (.iconst 1, 1) := by decide +kernel
theorem dG_isPlan_49 : decode cG_isPlan 49 = .ok (.goto 4, 3) := by decide +kernel
theorem dG_isPlan_52 : decode cG_isPlan 52 = .ok (.iconst 0, 1) := by decide +kernel
theorem dG_isPlan_53 : decode cG_isPlan 53 = .ok (.ireturn, 1) := by decide +kernel
theorem dG_isPlan_54 : decode cG_isPlan 54 = .ok (.iconst 0, 1) := by decide +kernel
theorem dG_isPlan_55 : decode cG_isPlan 55 = .ok (.ireturn, 1) := by decide +kernel
theorem dD_addPlan_0 : decode cD_addPlan 0 = .ok (.aload_n 0, 1) := by decide +kernel
theorem dD_addPlan_1 : decode cD_addPlan 1 = .ok (.getfield 15, 3) := by decide +kernel
theorem dD_addPlan_4 : decode cD_addPlan 4 = .ok (.aload_n 0, 1) := by decide +kernel
theorem dD_addPlan_5 : decode cD_addPlan 5 = .ok (.getfield 24, 3) := by decide +kernel
theorem dD_addPlan_8 : decode cD_addPlan 8 = .ok (.aload_n 0, 1) := by decide +kernel
theorem dD_addPlan_9 : decode cD_addPlan 9 = .ok (.getfield 28, 3) := by decide +kernel
theorem dD_addPlan_12 : decode cD_addPlan 12 = .ok (.iload_n 1, 1) := by decide +kernel
theorem dD_addPlan_13 : decode cD_addPlan 13 = .ok (.iadd, 1) := by decide +kernel
theorem dD_addPlan_14 : decode cD_addPlan 14 = .ok (.iastore, 1) := by decide +kernel
theorem dD_addPlan_15 : decode cD_addPlan 15 = .ok (.aload_n 0, 1) := by decide +kernel
theorem dD_addPlan_16 : decode cD_addPlan 16 = .ok (.getfield 18, 3) := by decide +kernel
theorem dD_addPlan_19 : decode cD_addPlan 19 = .ok (.aload_n 0, 1) := by decide +kernel
theorem dD_addPlan_20 : decode cD_addPlan 20 = .ok (.getfield 24, 3) := by decide +kernel
theorem dD_addPlan_23 : decode cD_addPlan 23 = .ok (.iload_n 2, 1) := by decide +kernel
theorem dD_addPlan_24 : decode cD_addPlan 24 = .ok (.iastore, 1) := by decide +kernel
theorem dD_addPlan_25 : decode cD_addPlan 25 = .ok (.aload_n 0, 1) := by decide +kernel
theorem dD_addPlan_26 : decode cD_addPlan 26 = .ok (.getfield 21, 3) := by decide +kernel
theorem dD_addPlan_29 : decode cD_addPlan 29 = .ok (.aload_n 0, 1) := by decide +kernel
theorem dD_addPlan_30 : decode cD_addPlan 30 = .ok (.getfield 24, 3) := by decide +kernel
theorem dD_addPlan_33 : decode cD_addPlan 33 = .ok (.iload_n 3, 1) := by decide +kernel
theorem dD_addPlan_34 : decode cD_addPlan 34 = .ok (.iastore, 1) := by decide +kernel
theorem dD_addPlan_35 : decode cD_addPlan 35 = .ok (.aload_n 0, 1) := by decide +kernel
theorem dD_addPlan_36 : decode cD_addPlan 36 = .ok (.dup, 1) := by decide +kernel
theorem dD_addPlan_37 : decode cD_addPlan 37 = .ok (.getfield 24, 3) := by decide +kernel
theorem dD_addPlan_40 : decode cD_addPlan 40 = .ok (.iconst 1, 1) := by decide +kernel
theorem dD_addPlan_41 : decode cD_addPlan 41 = .ok (.iadd, 1) := by decide +kernel
theorem dD_addPlan_42 : decode cD_addPlan 42 = .ok (.putfield 24, 3) := by decide +kernel
theorem dD_addPlan_45 : decode cD_addPlan 45 = .ok (.return_, 1) := by decide +kernel
theorem dL_cutAfter_0 : decode cL_cutAfter 0 = .ok (.aload_n 0, 1) := by decide +kernel
theorem dL_cutAfter_1 : decode cL_cutAfter 1 = .ok (.iload_n 1, 1) := by decide +kernel
theorem dL_cutAfter_2 : decode cL_cutAfter 2 = .ok (.invokevirtual 29, 3) := by decide +kernel
theorem dL_cutAfter_5 : decode cL_cutAfter 5 = .ok (.goto 9, 3) := by decide +kernel
theorem dL_cutAfter_8 : decode cL_cutAfter 8 = .ok (.astore_n 2, 1) := by decide +kernel
theorem dL_cutAfter_9 : decode cL_cutAfter 9 = .ok (.iconst 1, 1) := by decide +kernel
theorem dL_cutAfter_10 : decode cL_cutAfter 10 = .ok (.ireturn, 1) := by decide +kernel
theorem dL_cutAfter_11 : decode cL_cutAfter 11 = .ok (.astore_n 2, 1) := by decide +kernel
theorem dL_cutAfter_12 : decode cL_cutAfter 12 = .ok (.iconst 2, 1) := by decide +kernel
theorem dL_cutAfter_13 : decode cL_cutAfter 13 = .ok (.ireturn, 1) := by decide +kernel
theorem dL_cutAfter_14 : decode cL_cutAfter 14 = .ok (.iconst 0, 1) := by decide +kernel
theorem dL_cutAfter_15 : decode cL_cutAfter 15 = .ok (.ireturn, 1) := by decide +kernel
theorem dG_cutAfter_0 : decode cG_cutAfter 0 = .ok (.iload_n 1, 1) := by decide +kernel
theorem dG_cutAfter_1 : decode cG_cutAfter 1 = .ok (.iconst (-1), 1) := by decide +kernel
theorem dG_cutAfter_2 : decode cG_cutAfter 2 = .ok (.if_icmp .lt 9, 3) := by decide +kernel
theorem dG_cutAfter_5 : decode cG_cutAfter 5 = .ok (.iload_n 1, 1) := by decide +kernel
theorem dG_cutAfter_6 : decode cG_cutAfter 6 = .ok (.bipush 100, 2) := by decide +kernel
theorem dG_cutAfter_8 : decode cG_cutAfter 8 = .ok (.if_icmp .le 11, 3) := by decide +kernel
theorem dG_cutAfter_11 : decode cG_cutAfter 11 = .ok (.new 115, 3) := by decide +kernel
theorem dG_cutAfter_14 : decode cG_cutAfter 14 = .ok (.dup, 1) := by decide +kernel
theorem dG_cutAfter_15 : decode cG_cutAfter 15 = .ok (.invokespecial 117, 3) := by decide +kernel
theorem dG_cutAfter_18 : decode cG_cutAfter 18 = .ok (.athrow, 1) := by decide +kernel
theorem dG_cutAfter_19 : decode cG_cutAfter 19 = .ok (.aload_n 0, 1) := by decide +kernel
theorem dG_cutAfter_20 : decode cG_cutAfter 20 = .ok (.getfield 22, 3) := by decide +kernel
theorem dG_cutAfter_23 : decode cG_cutAfter 23 = .ok (.getfield 67, 3) := by decide +kernel
theorem dG_cutAfter_26 : decode cG_cutAfter 26 = .ok (.ifCond .ne 11, 3) := by decide +kernel
theorem dG_cutAfter_29 : decode cG_cutAfter 29 = .ok (.new 71, 3) := by decide +kernel
theorem dG_cutAfter_32 : decode cG_cutAfter 32 = .ok (.dup, 1) := by decide +kernel
theorem dG_cutAfter_33 : decode cG_cutAfter 33 = .ok (.invokespecial 73, 3) := by decide +kernel
theorem dG_cutAfter_36 : decode cG_cutAfter 36 = .ok (.athrow, 1) := by decide +kernel
theorem dG_cutAfter_37 : decode cG_cutAfter 37 = .ok (.aload_n 0, 1) := by decide +kernel
theorem dG_cutAfter_38 : decode cG_cutAfter 38 = .ok (.getfield 22, 3) := by decide +kernel
theorem dG_cutAfter_41 : decode cG_cutAfter 41 = .ok (.iload_n 1, 1) := by decide +kernel
theorem dG_cutAfter_42 : decode cG_cutAfter 42 = .ok (.putfield 125, 3) := by decide +kernel
theorem dG_cutAfter_45 : decode cG_cutAfter 45 = .ok (.return_, 1) := by decide +kernel
theorem dL_start_0 : decode cL_start 0 = .ok (.aload_n 1, 1) := by decide +kernel
theorem dL_start_1 : decode cL_start 1 = .ok (.iconst 0, 1) := by decide +kernel
theorem dL_start_2 : decode cL_start 2 = .ok (.aload_n 0, 1) := by decide +kernel
theorem dL_start_3 : decode cL_start 3 = .ok (.invokevirtual 33, 3) := by decide +kernel
theorem dL_start_6 : decode cL_start 6 = .ok (.i2l, 1) := by decide +kernel
theorem dL_start_7 : decode cL_start 7 = .ok (.lastore, 1) := by decide +kernel
theorem dL_start_8 : decode cL_start 8 = .ok (.goto 6, 3) := by decide +kernel
theorem dL_start_11 : decode cL_start 11 = .ok (.astore_n 2, 1) := by decide +kernel
theorem dL_start_12 : decode cL_start 12 = .ok (.iconst 1, 1) := by decide +kernel
theorem dL_start_13 : decode cL_start 13 = .ok (.ireturn, 1) := by decide +kernel
theorem dL_start_14 : decode cL_start 14 = .ok (.iconst 0, 1) := by decide +kernel
theorem dL_start_15 : decode cL_start 15 = .ok (.ireturn, 1) := by decide +kernel
theorem dG_start_0 : decode cG_start 0 = .ok (.aload_n 0, 1) := by decide +kernel
theorem dG_start_1 : decode cG_start 1 = .ok (.getfield 22, 3) := by decide +kernel
theorem dG_start_4 : decode cG_start 4 = .ok (.getfield 67, 3) := by decide +kernel
theorem dG_start_7 : decode cG_start 7 = .ok (.ifCond .eq 11, 3) := by decide +kernel
theorem dG_start_10 : decode cG_start 10 = .ok (.new 71, 3) := by decide +kernel
theorem dG_start_13 : decode cG_start 13 = .ok (.dup, 1) := by decide +kernel
theorem dG_start_14 : decode cG_start 14 = .ok (.invokespecial 73, 3) := by decide +kernel
theorem dG_start_17 : decode cG_start 17 = .ok (.athrow, 1) := by decide +kernel
theorem dG_start_18 : decode cG_start 18 = .ok (.aload_n 0, 1) := by decide +kernel
theorem dG_start_19 : decode cG_start 19 = .ok (.getfield 22, 3) := by decide +kernel
theorem dG_start_22 : decode cG_start 22 = .ok (.iconst 1, 1) := by decide +kernel
theorem dG_start_23 : decode cG_start 23 = .ok (.putfield 67, 3) := by decide +kernel
theorem dG_start_26 : decode cG_start 26 = .ok (.aload_n 0, 1) := by decide +kernel
theorem dG_start_27 : decode cG_start 27 = .ok (.getfield 22, 3) := by decide +kernel
theorem dG_start_30 : decode cG_start 30 = .ok (.iconst (-1), 1) := by decide +kernel
theorem dG_start_31 : decode cG_start 31 = .ok (.putfield 125, 3) := by decide +kernel
theorem dG_start_34 : decode cG_start 34 = .ok (.aload_n 0, 1) := by decide +kernel
theorem dG_start_35 : decode cG_start 35 = .ok (.getfield 12, 3) := by decide +kernel
theorem dG_start_38 : decode cG_start 38 = .ok (.getfield 128, 3) := by decide +kernel
theorem dG_start_41 : decode cG_start 41 = .ok (.aload_n 0, 1) := by decide +kernel
theorem dG_start_42 : decode cG_start 42 = .ok (.getfield 16, 3) := by decide +kernel
theorem dG_start_45 : decode cG_start 45 = .ok (.getfield 128, 3) := by decide +kernel
theorem dG_start_48 : decode cG_start 48 = .ok (.iadd, 1) := by decide +kernel
theorem dG_start_49 : decode cG_start 49 = .ok (.istore_n 1, 1) := by decide +kernel
theorem dG_start_50 : decode cG_start 50 = .ok (.aload_n 0, 1) := by decide +kernel
theorem dG_start_51 : decode cG_start 51 = .ok (.getfield 29, 3) := by decide +kernel
theorem dG_start_54 : decode cG_start 54 = .ok (.getfield 102, 3) := by decide +kernel
theorem dG_start_57 : decode cG_start 57 = .ok (.iconst (-1), 1) := by decide +kernel
theorem dG_start_58 : decode cG_start 58 = .ok (.if_icmp .eq 8, 3) := by decide +kernel
theorem dG_start_61 : decode cG_start 61 = .ok (.aload_n 0, 1) := by decide +kernel
theorem dG_start_62 : decode cG_start 62 = .ok (.invokevirtual 105, 3) := by decide +kernel
theorem dG_start_65 : decode cG_start 65 = .ok (.pop, 1) := by decide +kernel
theorem dG_start_66 : decode cG_start 66 = .ok (.aload_n 0, 1) := by decide +kernel
theorem dG_start_67 : decode cG_start 67 = .ok (.getfield 12, 3) := by decide +kernel
theorem dG_start_70 : decode cG_start 70 = .ok (.getfield 128, 3) := by decide +kernel
theorem dG_start_73 : decode cG_start 73 = .ok (.aload_n 0, 1) := by decide +kernel
theorem dG_start_74 : decode cG_start 74 = .ok (.getfield 16, 3) := by decide +kernel
theorem dG_start_77 : decode cG_start 77 = .ok (.getfield 128, 3) := by decide +kernel
theorem dG_start_80 : decode cG_start 80 = .ok (.iadd, 1) := by decide +kernel
theorem dG_start_81 : decode cG_start 81 = .ok (.iload_n 1, 1) := by decide +kernel
theorem dG_start_82 : decode cG_start 82 = .ok (.isub, 1) := by decide +kernel
theorem dG_start_83 : decode cG_start 83 = .ok (.ireturn, 1) := by decide +kernel
theorem dL_scrub_0 : decode cL_scrub 0 = .ok (.aload_n 2, 1) := by decide +kernel
theorem dL_scrub_1 : decode cL_scrub 1 = .ok (.iconst 0, 1) := by decide +kernel
theorem dL_scrub_2 : decode cL_scrub 2 = .ok (.aload_n 0, 1) := by decide +kernel
theorem dL_scrub_3 : decode cL_scrub 3 = .ok (.iload_n 1, 1) := by decide +kernel
theorem dL_scrub_4 : decode cL_scrub 4 = .ok (.invokevirtual 37, 3) := by decide +kernel
theorem dL_scrub_7 : decode cL_scrub 7 = .ok (.i2l, 1) := by decide +kernel
theorem dL_scrub_8 : decode cL_scrub 8 = .ok (.lastore, 1) := by decide +kernel
theorem dL_scrub_9 : decode cL_scrub 9 = .ok (.goto 9, 3) := by decide +kernel
theorem dL_scrub_12 : decode cL_scrub 12 = .ok (.astore_n 3, 1) := by decide +kernel
theorem dL_scrub_13 : decode cL_scrub 13 = .ok (.iconst 1, 1) := by decide +kernel
theorem dL_scrub_14 : decode cL_scrub 14 = .ok (.ireturn, 1) := by decide +kernel
theorem dL_scrub_15 : decode cL_scrub 15 = .ok (.astore_n 3, 1) := by decide +kernel
theorem dL_scrub_16 : decode cL_scrub 16 = .ok (.iconst 2, 1) := by decide +kernel
theorem dL_scrub_17 : decode cL_scrub 17 = .ok (.ireturn, 1) := by decide +kernel
theorem dL_scrub_18 : decode cL_scrub 18 = .ok (.iconst 0, 1) := by decide +kernel
theorem dL_scrub_19 : decode cL_scrub 19 = .ok (.ireturn, 1) := by decide +kernel
theorem dG_scrub_0 : decode cG_scrub 0 = .ok (.aload_n 0, 1) := by decide +kernel
theorem dG_scrub_1 : decode cG_scrub 1 = .ok (.getfield 22, 3) := by decide +kernel
theorem dG_scrub_4 : decode cG_scrub 4 = .ok (.getfield 67, 3) := by decide +kernel
theorem dG_scrub_7 : decode cG_scrub 7 = .ok (.ifCond .ne 11, 3) := by decide +kernel
theorem dG_scrub_10 : decode cG_scrub 10 = .ok (.new 71, 3) := by decide +kernel
theorem dG_scrub_13 : decode cG_scrub 13 = .ok (.dup, 1) := by decide +kernel
theorem dG_scrub_14 : decode cG_scrub 14 = .ok (.invokespecial 73, 3) := by decide +kernel
theorem dG_scrub_17 : decode cG_scrub 17 = .ok (.athrow, 1) := by decide +kernel
theorem dG_scrub_18 : decode cG_scrub 18 = .ok (.iload_n 1, 1) := by decide +kernel
theorem dG_scrub_19 : decode cG_scrub 19 = .ok (.ifCond .lt 9, 3) := by decide +kernel
theorem dG_scrub_22 : decode cG_scrub 22 = .ok (.iload_n 1, 1) := by decide +kernel
theorem dG_scrub_23 : decode cG_scrub 23 = .ok (.bipush 64, 2) := by decide +kernel
theorem dG_scrub_25 : decode cG_scrub 25 = .ok (.if_icmp .le 11, 3) := by decide +kernel
theorem dG_scrub_28 : decode cG_scrub 28 = .ok (.new 115, 3) := by decide +kernel
theorem dG_scrub_31 : decode cG_scrub 31 = .ok (.dup, 1) := by decide +kernel
theorem dG_scrub_32 : decode cG_scrub 32 = .ok (.invokespecial 117, 3) := by decide +kernel
theorem dG_scrub_35 : decode cG_scrub 35 = .ok (.athrow, 1) := by decide +kernel
theorem dG_scrub_36 : decode cG_scrub 36 = .ok (.aload_n 0, 1) := by decide +kernel
theorem dG_scrub_37 : decode cG_scrub 37 = .ok (.getfield 36, 3) := by decide +kernel
theorem dG_scrub_40 : decode cG_scrub 40 = .ok (.getfield 131, 3) := by decide +kernel
theorem dG_scrub_43 : decode cG_scrub 43 = .ok (.istore_n 2, 1) := by decide +kernel
theorem dG_scrub_44 : decode cG_scrub 44 = .ok (.iconst 0, 1) := by decide +kernel
theorem dG_scrub_45 : decode cG_scrub 45 = .ok (.istore_n 3, 1) := by decide +kernel
theorem dG_scrub_46 : decode cG_scrub 46 = .ok (.iload_n 3, 1) := by decide +kernel
theorem dG_scrub_47 : decode cG_scrub 47 = .ok (.iload_n 1, 1) := by decide +kernel
theorem dG_scrub_48 : decode cG_scrub 48 = .ok (.if_icmp .ge 33, 3) := by decide +kernel
theorem dG_scrub_51 : decode cG_scrub 51 = .ok (.aload_n 0, 1) := by decide +kernel
theorem dG_scrub_52 : decode cG_scrub 52 = .ok (.aload_n 0, 1) := by decide +kernel
theorem dG_scrub_53 : decode cG_scrub 53 = .ok (.getfield 48, 3) := by decide +kernel
theorem dG_scrub_56 : decode cG_scrub 56 = .ok (.invokevirtual 134, 3) := by decide +kernel
theorem dG_scrub_59 : decode cG_scrub 59 = .ok (.ifCond .eq 22, 3) := by decide +kernel
theorem dG_scrub_62 : decode cG_scrub 62 = .ok (.aload_n 0, 1) := by decide +kernel
theorem dG_scrub_63 : decode cG_scrub 63 = .ok (.aload_n 0, 1) := by decide +kernel
theorem dG_scrub_64 : decode cG_scrub 64 = .ok (.getfield 48, 3) := by decide +kernel
theorem dG_scrub_67 : decode cG_scrub 67 = .ok (.iconst 1, 1) := by decide +kernel
theorem dG_scrub_68 : decode cG_scrub 68 = .ok (.iadd, 1) := by decide +kernel
theorem dG_scrub_69 : decode cG_scrub 69 = .ok (.bipush 64, 2) := by decide +kernel
theorem dG_scrub_71 : decode cG_scrub 71 = .ok (.irem, 1) := by decide +kernel
theorem dG_scrub_72 : decode cG_scrub 72 = .ok (.putfield 48, 3) := by decide +kernel
theorem dG_scrub_75 : decode cG_scrub 75 = .ok (.iinc 3 1, 3) := by decide +kernel
theorem dG_scrub_78 : decode cG_scrub 78 = .ok (.goto (-32), 3) := by decide +kernel
theorem dG_scrub_81 : decode cG_scrub 81 = .ok (.aload_n 0, 1) := by decide +kernel
theorem dG_scrub_82 : decode cG_scrub 82 = .ok (.getfield 36, 3) := by decide +kernel
theorem dG_scrub_85 : decode cG_scrub 85 = .ok (.getfield 131, 3) := by decide +kernel
theorem dG_scrub_88 : decode cG_scrub 88 = .ok (.iload_n 2, 1) := by decide +kernel
theorem dG_scrub_89 : decode cG_scrub 89 = .ok (.isub, 1) := by decide +kernel
theorem dG_scrub_90 : decode cG_scrub 90 = .ok (.ireturn, 1) := by decide +kernel
theorem dG_scrubBlock_0 : decode cG_scrubBlock 0 = .ok (.aload_n 0, 1) := by decide +kernel
theorem dG_scrubBlock_1 : decode cG_scrubBlock 1 = .ok (.iconst 0, 1) := by decide +kernel
theorem dG_scrubBlock_2 : decode cG_scrubBlock 2 = .ok (.iload_n 1, 1) := by decide +kernel
theorem dG_scrubBlock_3 : decode cG_scrubBlock 3 = .ok (.invokevirtual 200, 3) := by decide +kernel
theorem dG_scrubBlock_6 : decode cG_scrubBlock 6 = .ok (.ifCond .eq 24, 3) := by decide +kernel
theorem dG_scrubBlock_9 : decode cG_scrubBlock 9 = .ok (.aload_n 0, 1) := by decide +kernel
theorem dG_scrubBlock_10 : decode cG_scrubBlock 10 = .ok (.iconst 1, 1) := by decide +kernel
theorem dG_scrubBlock_11 : decode cG_scrubBlock 11 = .ok (.iload_n 1, 1) := by decide +kernel
theorem dG_scrubBlock_12 : decode cG_scrubBlock 12 = .ok (.invokevirtual 200, 3) := by decide +kernel
theorem dG_scrubBlock_15 : decode cG_scrubBlock 15 = .ok (.ifCond .eq 15, 3) := by decide +kernel
theorem dG_scrubBlock_18 : decode cG_scrubBlock 18 = .ok (.aload_n 0, 1) := by decide +kernel
theorem dG_scrubBlock_19 : decode cG_scrubBlock 19 = .ok (.iload_n 1, 1) := by decide +kernel
theorem dG_scrubBlock_20 : decode cG_scrubBlock 20 = .ok (.invokevirtual 203, 3) := by decide +kernel
theorem dG_scrubBlock_23 : decode cG_scrubBlock 23 = .ok (.ifCond .eq 7, 3) := by decide +kernel
theorem dG_scrubBlock_26 : decode cG_scrubBlock 26 = .ok (.iconst 1, 1) := by decide +kernel
theorem dG_scrubBlock_27 : decode cG_scrubBlock 27 = .ok (.goto 4, 3) := by decide +kernel
theorem dG_scrubBlock_30 : decode cG_scrubBlock 30 = .ok (.iconst 0, 1) := by decide +kernel
theorem dG_scrubBlock_31 : decode cG_scrubBlock 31 = .ok (.ireturn, 1) := by decide +kernel
theorem dG_mendList_0 : decode cG_mendList 0 = .ok (.iload_n 2, 1) := by decide +kernel
theorem dG_mendList_1 : decode cG_mendList 1 = .ok (.bipush 8, 2) := by decide +kernel
theorem dG_mendList_3 : decode cG_mendList 3 = .ok (.idiv, 1) := by decide +kernel
theorem dG_mendList_4 : decode cG_mendList 4 = .ok (.istore_n 3, 1) := by decide +kernel
theorem dG_mendList_5 : decode cG_mendList 5 = .ok (.aload_n 0, 1) := by decide +kernel
theorem dG_mendList_6 : decode cG_mendList 6 = .ok (.iconst 1, 1) := by decide +kernel
theorem dG_mendList_7 : decode cG_mendList 7 = .ok (.iload_n 1, 1) := by decide +kernel
theorem dG_mendList_8 : decode cG_mendList 8 = .ok (.isub, 1) := by decide +kernel
theorem dG_mendList_9 : decode cG_mendList 9 = .ok (.iload_n 3, 1) := by decide +kernel
theorem dG_mendList_10 : decode cG_mendList 10 = .ok (.invokevirtual 150, 3) := by decide +kernel
theorem dG_mendList_13 : decode cG_mendList 13 = .ok (.ifCond .ne 12, 3) := by decide +kernel
theorem dG_mendList_16 : decode cG_mendList 16 = .ok (.aload_n 0, 1) := by decide +kernel
theorem dG_mendList_17 : decode cG_mendList 17 = .ok (.iload_n 1, 1) := by decide +kernel
theorem dG_mendList_18 : decode cG_mendList 18 = .ok (.iload_n 3, 1) := by decide +kernel
theorem dG_mendList_19 : decode cG_mendList 19 = .ok (.invokevirtual 150, 3) := by decide +kernel
theorem dG_mendList_22 : decode cG_mendList 22 = .ok (.ifCond .ne 5, 3) := by decide +kernel
theorem dG_mendList_25 : decode cG_mendList 25 = .ok (.iconst 1, 1) := by decide +kernel
theorem dG_mendList_26 : decode cG_mendList 26 = .ok (.ireturn, 1) := by decide +kernel
theorem dG_mendList_27 : decode cG_mendList 27 = .ok (.bipush 64, 2) := by decide +kernel
theorem dG_mendList_29 : decode cG_mendList 29 = .ok (.iload_n 3, 1) := by decide +kernel
theorem dG_mendList_30 : decode cG_mendList 30 = .ok (.iadd, 1) := by decide +kernel
theorem dG_mendList_31 : decode cG_mendList 31 = .ok (.istore 4, 2) := by decide +kernel
theorem dG_mendList_33 : decode cG_mendList 33 = .ok (.aload_n 0, 1) := by decide +kernel
theorem dG_mendList_34 : decode cG_mendList 34 = .ok (.getfield 36, 3) := by decide +kernel
theorem dG_mendList_37 : decode cG_mendList 37 = .ok (.iload_n 2, 1) := by decide +kernel
theorem dG_mendList_38 : decode cG_mendList 38 = .ok (.iconst 1, 1) := by decide +kernel
theorem dG_mendList_39 : decode cG_mendList 39 = .ok (.iload_n 1, 1) := by decide +kernel
theorem dG_mendList_40 : decode cG_mendList 40 = .ok (.isub, 1) := by decide +kernel
theorem dG_mendList_41 : decode cG_mendList 41 = .ok (.bipush 6, 2) := by decide +kernel
theorem dG_mendList_43 : decode cG_mendList 43 = .ok (.aload_n 0, 1) := by decide +kernel
theorem dG_mendList_44 : decode cG_mendList 44 = .ok (.iconst 1, 1) := by decide +kernel
theorem dG_mendList_45 : decode cG_mendList 45 = .ok (.iload_n 1, 1) := by decide +kernel
theorem dG_mendList_46 : decode cG_mendList 46 = .ok (.isub, 1) := by decide +kernel
theorem dG_mendList_47 : decode cG_mendList 47 = .ok (.invokevirtual 78, 3) := by decide +kernel
theorem dG_mendList_50 : decode cG_mendList 50 = .ok (.iload 4, 2) := by decide +kernel
theorem dG_mendList_52 : decode cG_mendList 52 = .ok (.bipush 9, 2) := by decide +kernel
theorem dG_mendList_54 : decode cG_mendList 54 = .ok (.invokevirtual 82, 3) := by decide +kernel
theorem dG_mendList_57 : decode cG_mendList 57 = .ok (.invokevirtual 206, 3) := by decide +kernel
theorem dG_mendList_60 : decode cG_mendList 60 = .ok (.aload_n 0, 1) := by decide +kernel
theorem dG_mendList_61 : decode cG_mendList 61 = .ok (.iload_n 1, 1) := by decide +kernel
theorem dG_mendList_62 : decode cG_mendList 62 = .ok (.iload_n 2, 1) := by decide +kernel
theorem dG_mendList_63 : decode cG_mendList 63 = .ok (.aload_n 0, 1) := by decide +kernel
theorem dG_mendList_64 : decode cG_mendList 64 = .ok (.iload_n 1, 1) := by decide +kernel
theorem dG_mendList_65 : decode cG_mendList 65 = .ok (.invokevirtual 78, 3) := by decide +kernel
theorem dG_mendList_68 : decode cG_mendList 68 = .ok (.iload 4, 2) := by decide +kernel
theorem dG_mendList_70 : decode cG_mendList 70 = .ok (.iload_n 2, 1) := by decide +kernel
theorem dG_mendList_71 : decode cG_mendList 71 = .ok (.bipush 8, 2) := by decide +kernel
theorem dG_mendList_73 : decode cG_mendList 73 = .ok (.irem, 1) := by decide +kernel
theorem dG_mendList_74 : decode cG_mendList 74 = .ok (.invokevirtual 82, 3) := by decide +kernel
theorem dG_mendList_77 : decode cG_mendList 77 = .ok (.invokevirtual 194, 3) := by decide +kernel
theorem dG_mendList_80 : decode cG_mendList 80 = .ok (.ireturn, 1) := by decide +kernel
theorem dF_tell_0 : decode cF_tell 0 = .ok (.aload_n 0, 1) := by decide +kernel
theorem dF_tell_1 : decode cF_tell 1 = .ok (.dup, 1) := by decide +kernel
theorem dF_tell_2 : decode cF_tell 2 = .ok (.getfield 19, 3) := by decide +kernel
theorem dF_tell_5 : decode cF_tell 5 = .ok (.iconst 1, 1) := by decide +kernel
theorem dF_tell_6 : decode cF_tell 6 = .ok (.iadd, 1) := by decide +kernel
theorem dF_tell_7 : decode cF_tell 7 = .ok (.putfield 19, 3) := by decide +kernel
theorem dF_tell_10 : decode cF_tell 10 = .ok (.aload_n 0, 1) := by decide +kernel
theorem dF_tell_11 : decode cF_tell 11 = .ok (.getfield 15, 3) := by decide +kernel
theorem dF_tell_14 : decode cF_tell 14 = .ok (.bipush 100, 2) := by decide +kernel
theorem dF_tell_16 : decode cF_tell 16 = .ok (.if_icmp .ne 4, 3) := by decide +kernel
theorem dF_tell_19 : decode cF_tell 19 = .ok (.return_, 1) := by decide +kernel
theorem dF_tell_20 : decode cF_tell 20 = .ok (.aload_n 0, 1) := by decide +kernel
theorem dF_tell_21 : decode cF_tell 21 = .ok (.getfield 15, 3) := by decide +kernel
theorem dF_tell_24 : decode cF_tell 24 = .ok (.iconst 4, 1) := by decide +kernel
theorem dF_tell_25 : decode cF_tell 25 = .ok (.imul, 1) := by decide +kernel
theorem dF_tell_26 : decode cF_tell 26 = .ok (.istore 5, 2) := by decide +kernel
theorem dF_tell_28 : decode cF_tell 28 = .ok (.aload_n 0, 1) := by decide +kernel
theorem dF_tell_29 : decode cF_tell 29 = .ok (.getfield 9, 3) := by decide +kernel
theorem dF_tell_32 : decode cF_tell 32 = .ok (.iload 5, 2) := by decide +kernel
theorem dF_tell_34 : decode cF_tell 34 = .ok (.iload_n 1, 1) := by decide +kernel
theorem dF_tell_35 : decode cF_tell 35 = .ok (.iastore, 1) := by decide +kernel
theorem dF_tell_36 : decode cF_tell 36 = .ok (.aload_n 0, 1) := by decide +kernel
theorem dF_tell_37 : decode cF_tell 37 = .ok (.getfield 9, 3) := by decide +kernel
theorem dF_tell_40 : decode cF_tell 40 = .ok (.iload 5, 2) := by decide +kernel
theorem dF_tell_42 : decode cF_tell 42 = .ok (.iconst 1, 1) := by decide +kernel
theorem dF_tell_43 : decode cF_tell 43 = .ok (.iadd, 1) := by decide +kernel
theorem dF_tell_44 : decode cF_tell 44 = .ok (.iload_n 2, 1) := by decide +kernel
theorem dF_tell_45 : decode cF_tell 45 = .ok (.iastore, 1) := by decide +kernel
theorem dF_tell_46 : decode cF_tell 46 = .ok (.aload_n 0, 1) := by decide +kernel
theorem dF_tell_47 : decode cF_tell 47 = .ok (.getfield 9, 3) := by decide +kernel
theorem dF_tell_50 : decode cF_tell 50 = .ok (.iload 5, 2) := by decide +kernel
theorem dF_tell_52 : decode cF_tell 52 = .ok (.iconst 2, 1) := by decide +kernel
theorem dF_tell_53 : decode cF_tell 53 = .ok (.iadd, 1) := by decide +kernel
theorem dF_tell_54 : decode cF_tell 54 = .ok (.iload_n 3, 1) := by decide +kernel
theorem dF_tell_55 : decode cF_tell 55 = .ok (.iastore, 1) := by decide +kernel
theorem dF_tell_56 : decode cF_tell 56 = .ok (.aload_n 0, 1) := by decide +kernel
theorem dF_tell_57 : decode cF_tell 57 = .ok (.getfield 9, 3) := by decide +kernel
theorem dF_tell_60 : decode cF_tell 60 = .ok (.iload 5, 2) := by decide +kernel
theorem dF_tell_62 : decode cF_tell 62 = .ok (.iconst 3, 1) := by decide +kernel
theorem dF_tell_63 : decode cF_tell 63 = .ok (.iadd, 1) := by decide +kernel
theorem dF_tell_64 : decode cF_tell 64 = .ok (.iload 4, 2) := by decide +kernel
theorem dF_tell_66 : decode cF_tell 66 = .ok (.iastore, 1) := by decide +kernel
theorem dF_tell_67 : decode cF_tell 67 = .ok (.aload_n 0, 1) := by decide +kernel
theorem dF_tell_68 : decode cF_tell 68 = .ok (.dup, 1) := by decide +kernel
theorem dF_tell_69 : decode cF_tell 69 = .ok (.getfield 15, 3) := by decide +kernel
theorem dF_tell_72 : decode cF_tell 72 = .ok (.iconst 1, 1) := by decide +kernel
theorem dF_tell_73 : decode cF_tell 73 = .ok (.iadd, 1) := by decide +kernel
theorem dF_tell_74 : decode cF_tell 74 = .ok (.putfield 15, 3) := by decide +kernel
theorem dF_tell_77 : decode cF_tell 77 = .ok (.return_, 1) := by decide +kernel
end
section
/-! decode rows (written by names.py) -/
theorem dG_mendCopies_0 : decode cG_mendCopies 0 = .ok (.aload_n 0, 1) := by decide +kernel
theorem dG_mendCopies_1 : decode cG_mendCopies 1 = .ok (.iconst 0, 1) := by decide +kernel
theorem dG_mendCopies_2 : decode cG_mendCopies 2 = .ok (.iload_n 1, 1) := by decide +kernel
theorem dG_mendCopies_3 : decode cG_mendCopies 3 = .ok (.invokevirtual 147, 3) := by decide +kernel
theorem dG_mendCopies_6 : decode cG_mendCopies 6 = .ok (.istore_n 2, 1) := by decide +kernel
theorem dG_mendCopies_7 : decode cG_mendCopies 7 = .ok (.aload_n 0, 1) := by decide +kernel
theorem dG_mendCopies_8 : decode cG_mendCopies 8 = .ok (.iconst 1, 1) := by decide +kernel
theorem dG_mendCopies_9 : decode cG_mendCopies 9 = .ok (.iload_n 1, 1) := by decide +kernel
theorem dG_mendCopies_10 : decode cG_mendCopies 10 = .ok (.invokevirtual 147, 3) := by decide +kernel
theorem dG_mendCopies_13 : decode cG_mendCopies 13 = .ok (.istore_n 3, 1) := by decide +kernel
theorem dG_mendCopies_14 : decode cG_mendCopies 14 = .ok (.iload_n 2, 1) := by decide +kernel
theorem dG_mendCopies_15 : decode cG_mendCopies 15 = .ok (.ifCond .ne 9, 3) := by decide +kernel
theorem dG_mendCopies_18 : decode cG_mendCopies 18 = .ok (.iload_n 3, 1) := by decide +kernel
theorem dG_mendCopies_19 : decode cG_mendCopies 19 = .ok (.ifCond .ne 5, 3) := by decide +kernel
theorem dG_mendCopies_22 : decode cG_mendCopies 22 = .ok (.iconst 1, 1) := by decide +kernel
theorem dG_mendCopies_23 : decode cG_mendCopies 23 = .ok (.ireturn, 1) := by decide +kernel
theorem dG_mendCopies_24 : decode cG_mendCopies 24 = .ok (.iload_n 2, 1) := by decide +kernel
theorem dG_mendCopies_25 : decode cG_mendCopies 25 = .ok (.ifCond .eq 21, 3) := by decide +kernel
theorem dG_mendCopies_28 : decode cG_mendCopies 28 = .ok (.iload_n 3, 1) := by decide +kernel
theorem dG_mendCopies_29 : decode cG_mendCopies 29 = .ok (.ifCond .eq 17, 3) := by decide +kernel
theorem dG_mendCopies_32 : decode cG_mendCopies 32 = .ok (.aload_n 0, 1) := by decide +kernel
theorem dG_mendCopies_33 : decode cG_mendCopies 33 = .ok (.getfield 36, 3) := by decide +kernel
theorem dG_mendCopies_36 : decode cG_mendCopies 36 = .ok (.iload_n 1, 1) := by decide +kernel
theorem dG_mendCopies_37 : decode cG_mendCopies 37 = .ok (.iconst (-1), 1) := by decide +kernel
theorem dG_mendCopies_38 : decode cG_mendCopies 38 = .ok (.bipush 7, 2) := by decide +kernel
theorem dG_mendCopies_40 : decode cG_mendCopies 40 = .ok (.iconst (-1), 1) := by decide +kernel
theorem dG_mendCopies_41 : decode cG_mendCopies 41 = .ok (.invokevirtual 206, 3) := by decide +kernel
theorem dG_mendCopies_44 : decode cG_mendCopies 44 = .ok (.iconst 1, 1) := by decide +kernel
theorem dG_mendCopies_45 : decode cG_mendCopies 45 = .ok (.ireturn, 1) := by decide +kernel
theorem dG_mendCopies_46 : decode cG_mendCopies 46 = .ok (.iload_n 2, 1) := by decide +kernel
theorem dG_mendCopies_47 : decode cG_mendCopies 47 = .ok (.ifCond .ne 7, 3) := by decide +kernel
theorem dG_mendCopies_50 : decode cG_mendCopies 50 = .ok (.iconst 1, 1) := by decide +kernel
theorem dG_mendCopies_51 : decode cG_mendCopies 51 = .ok (.goto 4, 3) := by decide +kernel
theorem dG_mendCopies_54 : decode cG_mendCopies 54 = .ok (.iconst 0, 1) := by decide +kernel
theorem dG_mendCopies_55 : decode cG_mendCopies 55 = .ok (.istore 4, 2) := by decide +kernel
theorem dG_mendCopies_57 : decode cG_mendCopies 57 = .ok (.aload_n 0, 1) := by decide +kernel
theorem dG_mendCopies_58 : decode cG_mendCopies 58 = .ok (.getfield 36, 3) := by decide +kernel
theorem dG_mendCopies_61 : decode cG_mendCopies 61 = .ok (.iload_n 1, 1) := by decide +kernel
theorem dG_mendCopies_62 : decode cG_mendCopies 62 = .ok (.iload 4, 2) := by decide +kernel
theorem dG_mendCopies_64 : decode cG_mendCopies 64 = .ok (.iload_n 2, 1) := by decide +kernel
theorem dG_mendCopies_65 : decode cG_mendCopies 65 = .ok (.ifCond .ne 7, 3) := by decide +kernel
theorem dG_mendCopies_68 : decode cG_mendCopies 68 = .ok (.iload_n 3, 1) := by decide +kernel
theorem dG_mendCopies_69 : decode cG_mendCopies 69 = .ok (.goto 4, 3) := by decide +kernel
theorem dG_mendCopies_72 : decode cG_mendCopies 72 = .ok (.iload_n 2, 1) := by decide +kernel
theorem dG_mendCopies_73 : decode cG_mendCopies 73 = .ok (.aload_n 0, 1) := by decide +kernel
theorem dG_mendCopies_74 : decode cG_mendCopies 74 = .ok (.iload 4, 2) := by decide +kernel
theorem dG_mendCopies_76 : decode cG_mendCopies 76 = .ok (.invokevirtual 78, 3) := by decide +kernel
theorem dG_mendCopies_79 : decode cG_mendCopies 79 = .ok (.iload_n 1, 1) := by decide +kernel
theorem dG_mendCopies_80 : decode cG_mendCopies 80 = .ok (.bipush 9, 2) := by decide +kernel
theorem dG_mendCopies_82 : decode cG_mendCopies 82 = .ok (.invokevirtual 82, 3) := by decide +kernel
theorem dG_mendCopies_85 : decode cG_mendCopies 85 = .ok (.invokevirtual 206, 3) := by decide +kernel
theorem dG_mendCopies_88 : decode cG_mendCopies 88 = .ok (.aload_n 0, 1) := by decide +kernel
theorem dG_mendCopies_89 : decode cG_mendCopies 89 = .ok (.iconst 1, 1) := by decide +kernel
theorem dG_mendCopies_90 : decode cG_mendCopies 90 = .ok (.iload 4, 2) := by decide +kernel
theorem dG_mendCopies_92 : decode cG_mendCopies 92 = .ok (.isub, 1) := by decide +kernel
theorem dG_mendCopies_93 : decode cG_mendCopies 93 = .ok (.invokevirtual 78, 3) := by decide +kernel
theorem dG_mendCopies_96 : decode cG_mendCopies 96 = .ok (.iload_n 1, 1) := by decide +kernel
theorem dG_mendCopies_97 : decode cG_mendCopies 97 = .ok (.aload_n 0, 1) := by decide +kernel
theorem dG_mendCopies_98 : decode cG_mendCopies 98 = .ok (.getfield 57, 3) := by decide +kernel
theorem dG_mendCopies_101 : decode cG_mendCopies 101 = .ok (.invokevirtual 95, 3) := by decide +kernel
theorem dG_mendCopies_104 : decode cG_mendCopies 104 = .ok (.aload_n 0, 1) := by decide +kernel
theorem dG_mendCopies_105 : decode cG_mendCopies 105 = .ok (.iload 4, 2) := by decide +kernel
theorem dG_mendCopies_107 : decode cG_mendCopies 107 = .ok (.iload_n 1, 1) := by decide +kernel
theorem dG_mendCopies_108 : decode cG_mendCopies 108 = .ok (.aload_n 0, 1) := by decide +kernel
theorem dG_mendCopies_109 : decode cG_mendCopies 109 = .ok (.getfield 57, 3) := by decide +kernel
theorem dG_mendCopies_112 : decode cG_mendCopies 112 = .ok (.aload_n 0, 1) := by decide +kernel
theorem dG_mendCopies_113 : decode cG_mendCopies 113 = .ok (.iconst 1, 1) := by decide +kernel
theorem dG_mendCopies_114 : decode cG_mendCopies 114 = .ok (.iload 4, 2) := by decide +kernel
theorem dG_mendCopies_116 : decode cG_mendCopies 116 = .ok (.isub, 1) := by decide +kernel
theorem dG_mendCopies_117 : decode cG_mendCopies 117 = .ok (.invokevirtual 78, 3) := by decide +kernel
theorem dG_mendCopies_120 : decode cG_mendCopies 120 = .ok (.iload_n 1, 1) := by decide +kernel
theorem dG_mendCopies_121 : decode cG_mendCopies 121 = .ok (.bipush 10, 2) := by decide +kernel
theorem dG_mendCopies_123 : decode cG_mendCopies 123 = .ok (.invokevirtual 82, 3) := by decide +kernel
theorem dG_mendCopies_126 : decode cG_mendCopies 126 = .ok (.invokevirtual 190, 3) := by decide +kernel
theorem dG_mendCopies_129 : decode cG_mendCopies 129 = .ok (.ireturn, 1) := by decide +kernel
theorem dL_finding_0 : decode cL_finding 0 = .ok (.aload_n 3, 1) := by decide +kernel
theorem dL_finding_1 : decode cL_finding 1 = .ok (.iconst 0, 1) := by decide +kernel
theorem dL_finding_2 : decode cL_finding 2 = .ok (.aload_n 0, 1) := by decide +kernel
theorem dL_finding_3 : decode cL_finding 3 = .ok (.iload_n 1, 1) := by decide +kernel
theorem dL_finding_4 : decode cL_finding 4 = .ok (.iload_n 2, 1) := by decide +kernel
theorem dL_finding_5 : decode cL_finding 5 = .ok (.invokevirtual 41, 3) := by decide +kernel
theorem dL_finding_8 : decode cL_finding 8 = .ok (.i2l, 1) := by decide +kernel
theorem dL_finding_9 : decode cL_finding 9 = .ok (.lastore, 1) := by decide +kernel
theorem dL_finding_10 : decode cL_finding 10 = .ok (.goto 7, 3) := by decide +kernel
theorem dL_finding_13 : decode cL_finding 13 = .ok (.astore 4, 2) := by decide +kernel
theorem dL_finding_15 : decode cL_finding 15 = .ok (.iconst 1, 1) := by decide +kernel
theorem dL_finding_16 : decode cL_finding 16 = .ok (.ireturn, 1) := by decide +kernel
theorem dL_finding_17 : decode cL_finding 17 = .ok (.iconst 0, 1) := by decide +kernel
theorem dL_finding_18 : decode cL_finding 18 = .ok (.ireturn, 1) := by decide +kernel
theorem dG_finding_0 : decode cG_finding 0 = .ok (.iload_n 1, 1) := by decide +kernel
theorem dG_finding_1 : decode cG_finding 1 = .ok (.aload_n 0, 1) := by decide +kernel
theorem dG_finding_2 : decode cG_finding 2 = .ok (.getfield 36, 3) := by decide +kernel
theorem dG_finding_5 : decode cG_finding 5 = .ok (.getfield 138, 3) := by decide +kernel
theorem dG_finding_8 : decode cG_finding 8 = .ok (.invokestatic 60, 3) := by decide +kernel
theorem dG_finding_11 : decode cG_finding 11 = .ok (.ifCond .eq 11, 3) := by decide +kernel
theorem dG_finding_14 : decode cG_finding 14 = .ok (.iload_n 2, 1) := by decide +kernel
theorem dG_finding_15 : decode cG_finding 15 = .ok (.iconst 4, 1) := by decide +kernel
theorem dG_finding_16 : decode cG_finding 16 = .ok (.invokestatic 60, 3) := by decide +kernel
theorem dG_finding_19 : decode cG_finding 19 = .ok (.ifCond .ne 11, 3) := by decide +kernel
theorem dG_finding_22 : decode cG_finding 22 = .ok (.new 64, 3) := by decide +kernel
theorem dG_finding_25 : decode cG_finding 25 = .ok (.dup, 1) := by decide +kernel
theorem dG_finding_26 : decode cG_finding 26 = .ok (.invokespecial 66, 3) := by decide +kernel
theorem dG_finding_29 : decode cG_finding 29 = .ok (.athrow, 1) := by decide +kernel
theorem dG_finding_30 : decode cG_finding 30 = .ok (.aload_n 0, 1) := by decide +kernel
theorem dG_finding_31 : decode cG_finding 31 = .ok (.getfield 36, 3) := by decide +kernel
theorem dG_finding_34 : decode cG_finding 34 = .ok (.getfield 141, 3) := by decide +kernel
theorem dG_finding_37 : decode cG_finding 37 = .ok (.iload_n 1, 1) := by decide +kernel
theorem dG_finding_38 : decode cG_finding 38 = .ok (.iconst 4, 1) := by decide +kernel
theorem dG_finding_39 : decode cG_finding 39 = .ok (.imul, 1) := by decide +kernel
theorem dG_finding_40 : decode cG_finding 40 = .ok (.iload_n 2, 1) := by decide +kernel
theorem dG_finding_41 : decode cG_finding 41 = .ok (.iadd, 1) := by decide +kernel
theorem dG_finding_42 : decode cG_finding 42 = .ok (.iaload, 1) := by decide +kernel
theorem dG_finding_43 : decode cG_finding 43 = .ok (.ireturn, 1) := by decide +kernel
theorem dL_expected_0 : decode cL_expected 0 = .ok (.aload_n 3, 1) := by decide +kernel
theorem dL_expected_1 : decode cL_expected 1 = .ok (.iconst 0, 1) := by decide +kernel
theorem dL_expected_2 : decode cL_expected 2 = .ok (.aload_n 0, 1) := by decide +kernel
theorem dL_expected_3 : decode cL_expected 3 = .ok (.iload_n 1, 1) := by decide +kernel
theorem dL_expected_4 : decode cL_expected 4 = .ok (.iload_n 2, 1) := by decide +kernel
theorem dL_expected_5 : decode cL_expected 5 = .ok (.invokevirtual 44, 3) := by decide +kernel
theorem dL_expected_8 : decode cL_expected 8 = .ok (.i2l, 1) := by decide +kernel
theorem dL_expected_9 : decode cL_expected 9 = .ok (.lastore, 1) := by decide +kernel
theorem dL_expected_10 : decode cL_expected 10 = .ok (.goto 7, 3) := by decide +kernel
theorem dL_expected_13 : decode cL_expected 13 = .ok (.astore 4, 2) := by decide +kernel
theorem dL_expected_15 : decode cL_expected 15 = .ok (.iconst 1, 1) := by decide +kernel
theorem dL_expected_16 : decode cL_expected 16 = .ok (.ireturn, 1) := by decide +kernel
theorem dL_expected_17 : decode cL_expected 17 = .ok (.iconst 0, 1) := by decide +kernel
theorem dL_expected_18 : decode cL_expected 18 = .ok (.ireturn, 1) := by decide +kernel
theorem dG_expected_0 : decode cG_expected 0 = .ok (.iload_n 1, 1) := by decide +kernel
theorem dG_expected_1 : decode cG_expected 1 = .ok (.iconst 2, 1) := by decide +kernel
theorem dG_expected_2 : decode cG_expected 2 = .ok (.invokestatic 60, 3) := by decide +kernel
theorem dG_expected_5 : decode cG_expected 5 = .ok (.ifCond .eq 12, 3) := by decide +kernel
theorem dG_expected_8 : decode cG_expected 8 = .ok (.iload_n 2, 1) := by decide +kernel
theorem dG_expected_9 : decode cG_expected 9 = .ok (.bipush 64, 2) := by decide +kernel
theorem dG_expected_11 : decode cG_expected 11 = .ok (.invokestatic 60, 3) := by decide +kernel
theorem dG_expected_14 : decode cG_expected 14 = .ok (.ifCond .ne 11, 3) := by decide +kernel
theorem dG_expected_17 : decode cG_expected 17 = .ok (.new 64, 3) := by decide +kernel
theorem dG_expected_20 : decode cG_expected 20 = .ok (.dup, 1) := by decide +kernel
theorem dG_expected_21 : decode cG_expected 21 = .ok (.invokespecial 66, 3) := by decide +kernel
theorem dG_expected_24 : decode cG_expected 24 = .ok (.athrow, 1) := by decide +kernel
theorem dG_expected_25 : decode cG_expected 25 = .ok (.aload_n 0, 1) := by decide +kernel
theorem dG_expected_26 : decode cG_expected 26 = .ok (.iload_n 1, 1) := by decide +kernel
theorem dG_expected_27 : decode cG_expected 27 = .ok (.iload_n 2, 1) := by decide +kernel
theorem dG_expected_28 : decode cG_expected 28 = .ok (.invokevirtual 144, 3) := by decide +kernel
theorem dG_expected_31 : decode cG_expected 31 = .ok (.ireturn, 1) := by decide +kernel
theorem dL_verdict_0 : decode cL_verdict 0 = .ok (.aload_n 3, 1) := by decide +kernel
theorem dL_verdict_1 : decode cL_verdict 1 = .ok (.iconst 0, 1) := by decide +kernel
theorem dL_verdict_2 : decode cL_verdict 2 = .ok (.aload_n 0, 1) := by decide +kernel
theorem dL_verdict_3 : decode cL_verdict 3 = .ok (.iload_n 1, 1) := by decide +kernel
theorem dL_verdict_4 : decode cL_verdict 4 = .ok (.iload_n 2, 1) := by decide +kernel
theorem dL_verdict_5 : decode cL_verdict 5 = .ok (.invokevirtual 47, 3) := by decide +kernel
theorem dL_verdict_8 : decode cL_verdict 8 = .ok (.i2l, 1) := by decide +kernel
theorem dL_verdict_9 : decode cL_verdict 9 = .ok (.lastore, 1) := by decide +kernel
theorem dL_verdict_10 : decode cL_verdict 10 = .ok (.goto 7, 3) := by decide +kernel
theorem dL_verdict_13 : decode cL_verdict 13 = .ok (.astore 4, 2) := by decide +kernel
theorem dL_verdict_15 : decode cL_verdict 15 = .ok (.iconst 1, 1) := by decide +kernel
theorem dL_verdict_16 : decode cL_verdict 16 = .ok (.ireturn, 1) := by decide +kernel
theorem dL_verdict_17 : decode cL_verdict 17 = .ok (.iconst 0, 1) := by decide +kernel
theorem dL_verdict_18 : decode cL_verdict 18 = .ok (.ireturn, 1) := by decide +kernel
theorem dG_verdict_0 : decode cG_verdict 0 = .ok (.iload_n 1, 1) := by decide +kernel
theorem dG_verdict_1 : decode cG_verdict 1 = .ok (.iconst 2, 1) := by decide +kernel
theorem dG_verdict_2 : decode cG_verdict 2 = .ok (.invokestatic 60, 3) := by decide +kernel
theorem dG_verdict_5 : decode cG_verdict 5 = .ok (.ifCond .eq 12, 3) := by decide +kernel
theorem dG_verdict_8 : decode cG_verdict 8 = .ok (.iload_n 2, 1) := by decide +kernel
theorem dG_verdict_9 : decode cG_verdict 9 = .ok (.bipush 64, 2) := by decide +kernel
theorem dG_verdict_11 : decode cG_verdict 11 = .ok (.invokestatic 60, 3) := by decide +kernel
theorem dG_verdict_14 : decode cG_verdict 14 = .ok (.ifCond .ne 11, 3) := by decide +kernel
theorem dG_verdict_17 : decode cG_verdict 17 = .ok (.new 64, 3) := by decide +kernel
theorem dG_verdict_20 : decode cG_verdict 20 = .ok (.dup, 1) := by decide +kernel
theorem dG_verdict_21 : decode cG_verdict 21 = .ok (.invokespecial 66, 3) := by decide +kernel
theorem dG_verdict_24 : decode cG_verdict 24 = .ok (.athrow, 1) := by decide +kernel
theorem dG_verdict_25 : decode cG_verdict 25 = .ok (.aload_n 0, 1) := by decide +kernel
theorem dG_verdict_26 : decode cG_verdict 26 = .ok (.iload_n 1, 1) := by decide +kernel
theorem dG_verdict_27 : decode cG_verdict 27 = .ok (.iload_n 2, 1) := by decide +kernel
theorem dG_verdict_28 : decode cG_verdict 28 = .ok (.invokevirtual 147, 3) := by decide +kernel
theorem dG_verdict_31 : decode cG_verdict 31 = .ok (.ireturn, 1) := by decide +kernel
theorem dL_isRight_0 : decode cL_isRight 0 = .ok (.aload_n 3, 1) := by decide +kernel
theorem dL_isRight_1 : decode cL_isRight 1 = .ok (.iconst 0, 1) := by decide +kernel
theorem dL_isRight_2 : decode cL_isRight 2 = .ok (.aload_n 0, 1) := by decide +kernel
theorem dL_isRight_3 : decode cL_isRight 3 = .ok (.iload_n 1, 1) := by decide +kernel
theorem dL_isRight_4 : decode cL_isRight 4 = .ok (.iload_n 2, 1) := by decide +kernel
theorem dL_isRight_5 : decode cL_isRight 5 = .ok (.invokevirtual 50, 3) := by decide +kernel
theorem dL_isRight_8 : decode cL_isRight 8 = .ok (.ifCond .eq 7, 3) := by decide +kernel
theorem dL_isRight_11 : decode cL_isRight 11 = .ok (.lconst 1, 1) := by decide +kernel
theorem dL_isRight_12 : decode cL_isRight 12 = .ok (.goto 4, 3) := by decide +kernel
theorem dL_isRight_15 : decode cL_isRight 15 = .ok (.lconst 0, 1) := by decide +kernel
theorem dL_isRight_16 : decode cL_isRight 16 = .ok (.lastore, 1) := by decide +kernel
theorem dL_isRight_17 : decode cL_isRight 17 = .ok (.goto 7, 3) := by decide +kernel
theorem dL_isRight_20 : decode cL_isRight 20 = .ok (.astore 4, 2) := by decide +kernel
theorem dL_isRight_22 : decode cL_isRight 22 = .ok (.iconst 1, 1) := by decide +kernel
theorem dL_isRight_23 : decode cL_isRight 23 = .ok (.ireturn, 1) := by decide +kernel
theorem dL_isRight_24 : decode cL_isRight 24 = .ok (.iconst 0, 1) := by decide +kernel
theorem dL_isRight_25 : decode cL_isRight 25 = .ok (.ireturn, 1) := by decide +kernel
theorem dG_isRight_0 : decode cG_isRight 0 = .ok (.iload_n 1, 1) := by decide +kernel
theorem dG_isRight_1 : decode cG_isRight 1 = .ok (.iconst 2, 1) := by decide +kernel
theorem dG_isRight_2 : decode cG_isRight 2 = .ok (.invokestatic 60, 3) := by decide +kernel
theorem dG_isRight_5 : decode cG_isRight 5 = .ok (.ifCond .eq 12, 3) := by decide +kernel
theorem dG_isRight_8 : decode cG_isRight 8 = .ok (.iload_n 2, 1) := by decide +kernel
theorem dG_isRight_9 : decode cG_isRight 9 = .ok (.bipush 8, 2) := by decide +kernel
theorem dG_isRight_11 : decode cG_isRight 11 = .ok (.invokestatic 60, 3) := by decide +kernel
theorem dG_isRight_14 : decode cG_isRight 14 = .ok (.ifCond .ne 11, 3) := by decide +kernel
theorem dG_isRight_17 : decode cG_isRight 17 = .ok (.new 64, 3) := by decide +kernel
theorem dG_isRight_20 : decode cG_isRight 20 = .ok (.dup, 1) := by decide +kernel
theorem dG_isRight_21 : decode cG_isRight 21 = .ok (.invokespecial 66, 3) := by decide +kernel
theorem dG_isRight_24 : decode cG_isRight 24 = .ok (.athrow, 1) := by decide +kernel
theorem dG_isRight_25 : decode cG_isRight 25 = .ok (.aload_n 0, 1) := by decide +kernel
theorem dG_isRight_26 : decode cG_isRight 26 = .ok (.iload_n 1, 1) := by decide +kernel
theorem dG_isRight_27 : decode cG_isRight 27 = .ok (.iload_n 2, 1) := by decide +kernel
theorem dG_isRight_28 : decode cG_isRight 28 = .ok (.invokevirtual 150, 3) := by decide +kernel
theorem dG_isRight_31 : decode cG_isRight 31 = .ok (.ireturn, 1) := by decide +kernel
theorem dL_raw_0 : decode cL_raw 0 = .ok (.aload 4, 2) := by decide +kernel
theorem dL_raw_2 : decode cL_raw 2 = .ok (.iconst 0, 1) := by decide +kernel
theorem dL_raw_3 : decode cL_raw 3 = .ok (.aload_n 0, 1) := by decide +kernel
theorem dL_raw_4 : decode cL_raw 4 = .ok (.iload_n 1, 1) := by decide +kernel
theorem dL_raw_5 : decode cL_raw 5 = .ok (.iload_n 2, 1) := by decide +kernel
theorem dL_raw_6 : decode cL_raw 6 = .ok (.iload_n 3, 1) := by decide +kernel
theorem dL_raw_7 : decode cL_raw 7 = .ok (.invokevirtual 54, 3) := by decide +kernel
theorem dL_raw_10 : decode cL_raw 10 = .ok (.i2l, 1) := by decide +kernel
theorem dL_raw_11 : decode cL_raw 11 = .ok (.lastore, 1) := by decide +kernel
theorem dL_raw_12 : decode cL_raw 12 = .ok (.goto 7, 3) := by decide +kernel
theorem dL_raw_15 : decode cL_raw 15 = .ok (.astore 5, 2) := by decide +kernel
theorem dL_raw_17 : decode cL_raw 17 = .ok (.iconst 1, 1) := by decide +kernel
theorem dL_raw_18 : decode cL_raw 18 = .ok (.ireturn, 1) := by decide +kernel
theorem dL_raw_19 : decode cL_raw 19 = .ok (.iconst 0, 1) := by decide +kernel
theorem dL_raw_20 : decode cL_raw 20 = .ok (.ireturn, 1) := by decide +kernel
theorem dG_raw_0 : decode cG_raw 0 = .ok (.iload_n 1, 1) := by decide +kernel
theorem dG_raw_1 : decode cG_raw 1 = .ok (.iconst 2, 1) := by decide +kernel
theorem dG_raw_2 : decode cG_raw 2 = .ok (.invokestatic 60, 3) := by decide +kernel
theorem dG_raw_5 : decode cG_raw 5 = .ok (.ifCond .eq 21, 3) := by decide +kernel
theorem dG_raw_8 : decode cG_raw 8 = .ok (.iload_n 2, 1) := by decide +kernel
theorem dG_raw_9 : decode cG_raw 9 = .ok (.bipush 72, 2) := by decide +kernel
theorem dG_raw_11 : decode cG_raw 11 = .ok (.invokestatic 60, 3) := by decide +kernel
theorem dG_raw_14 : decode cG_raw 14 = .ok (.ifCond .eq 12, 3) := by decide +kernel
theorem dG_raw_17 : decode cG_raw 17 = .ok (.iload_n 3, 1) := by decide +kernel
theorem dG_raw_18 : decode cG_raw 18 = .ok (.bipush 11, 2) := by decide +kernel
theorem dG_raw_20 : decode cG_raw 20 = .ok (.invokestatic 60, 3) := by decide +kernel
theorem dG_raw_23 : decode cG_raw 23 = .ok (.ifCond .ne 11, 3) := by decide +kernel
theorem dG_raw_26 : decode cG_raw 26 = .ok (.new 64, 3) := by decide +kernel
theorem dG_raw_29 : decode cG_raw 29 = .ok (.dup, 1) := by decide +kernel
theorem dG_raw_30 : decode cG_raw 30 = .ok (.invokespecial 66, 3) := by decide +kernel
theorem dG_raw_33 : decode cG_raw 33 = .ok (.athrow, 1) := by decide +kernel
theorem dG_raw_34 : decode cG_raw 34 = .ok (.aload_n 0, 1) := by decide +kernel
theorem dG_raw_35 : decode cG_raw 35 = .ok (.iload_n 1, 1) := by decide +kernel
theorem dG_raw_36 : decode cG_raw 36 = .ok (.invokevirtual 78, 3) := by decide +kernel
theorem dG_raw_39 : decode cG_raw 39 = .ok (.iload_n 2, 1) := by decide +kernel
theorem dG_raw_40 : decode cG_raw 40 = .ok (.iload_n 3, 1) := by decide +kernel
theorem dG_raw_41 : decode cG_raw 41 = .ok (.invokevirtual 82, 3) := by decide +kernel
theorem dG_raw_44 : decode cG_raw 44 = .ok (.ireturn, 1) := by decide +kernel
theorem dL_replace_0 : decode cL_replace 0 = .ok (.aload_n 0, 1) := by decide +kernel
theorem dL_replace_1 : decode cL_replace 1 = .ok (.iload_n 1, 1) := by decide +kernel
theorem dL_replace_2 : decode cL_replace 2 = .ok (.invokevirtual 57, 3) := by decide +kernel
theorem dL_replace_5 : decode cL_replace 5 = .ok (.goto 9, 3) := by decide +kernel
theorem dL_replace_8 : decode cL_replace 8 = .ok (.astore_n 2, 1) := by decide +kernel
theorem dL_replace_9 : decode cL_replace 9 = .ok (.iconst 1, 1) := by decide +kernel
theorem dL_replace_10 : decode cL_replace 10 = .ok (.ireturn, 1) := by decide +kernel
theorem dL_replace_11 : decode cL_replace 11 = .ok (.astore_n 2, 1) := by decide +kernel
theorem dL_replace_12 : decode cL_replace 12 = .ok (.iconst 2, 1) := by decide +kernel
theorem dL_replace_13 : decode cL_replace 13 = .ok (.ireturn, 1) := by decide +kernel
theorem dL_replace_14 : decode cL_replace 14 = .ok (.iconst 0, 1) := by decide +kernel
theorem dL_replace_15 : decode cL_replace 15 = .ok (.ireturn, 1) := by decide +kernel
theorem dG_replace_0 : decode cG_replace 0 = .ok (.iload_n 1, 1) := by decide +kernel
theorem dG_replace_1 : decode cG_replace 1 = .ok (.iconst 2, 1) := by decide +kernel
theorem dG_replace_2 : decode cG_replace 2 = .ok (.invokestatic 60, 3) := by decide +kernel
theorem dG_replace_5 : decode cG_replace 5 = .ok (.ifCond .ne 11, 3) := by decide +kernel
theorem dG_replace_8 : decode cG_replace 8 = .ok (.new 64, 3) := by decide +kernel
theorem dG_replace_11 : decode cG_replace 11 = .ok (.dup, 1) := by decide +kernel
theorem dG_replace_12 : decode cG_replace 12 = .ok (.invokespecial 66, 3) := by decide +kernel
theorem dG_replace_15 : decode cG_replace 15 = .ok (.athrow, 1) := by decide +kernel
theorem dG_replace_16 : decode cG_replace 16 = .ok (.aload_n 0, 1) := by decide +kernel
theorem dG_replace_17 : decode cG_replace 17 = .ok (.getfield 22, 3) := by decide +kernel
theorem dG_replace_20 : decode cG_replace 20 = .ok (.getfield 67, 3) := by decide +kernel
theorem dG_replace_23 : decode cG_replace 23 = .ok (.ifCond .ne 11, 3) := by decide +kernel
theorem dG_replace_26 : decode cG_replace 26 = .ok (.new 71, 3) := by decide +kernel
theorem dG_replace_29 : decode cG_replace 29 = .ok (.dup, 1) := by decide +kernel
theorem dG_replace_30 : decode cG_replace 30 = .ok (.invokespecial 73, 3) := by decide +kernel
theorem dG_replace_33 : decode cG_replace 33 = .ok (.athrow, 1) := by decide +kernel
theorem dG_replace_34 : decode cG_replace 34 = .ok (.aload_n 0, 1) := by decide +kernel
theorem dG_replace_35 : decode cG_replace 35 = .ok (.iload_n 1, 1) := by decide +kernel
theorem dG_replace_36 : decode cG_replace 36 = .ok (.invokevirtual 78, 3) := by decide +kernel
theorem dG_replace_39 : decode cG_replace 39 = .ok (.invokevirtual 153, 3) := by decide +kernel
theorem dG_replace_42 : decode cG_replace 42 = .ok (.return_, 1) := by decide +kernel
theorem dD_wipe_0 : decode cD_wipe 0 = .ok (.aload_n 0, 1) := by decide +kernel
theorem dD_wipe_1 : decode cD_wipe 1 = .ok (.getfield 9, 3) := by decide +kernel
theorem dD_wipe_4 : decode cD_wipe 4 = .ok (.iconst 0, 1) := by decide +kernel
theorem dD_wipe_5 : decode cD_wipe 5 = .ok (.invokestatic 41, 3) := by decide +kernel
theorem dD_wipe_8 : decode cD_wipe 8 = .ok (.aload_n 0, 1) := by decide +kernel
theorem dD_wipe_9 : decode cD_wipe 9 = .ok (.iconst 0, 1) := by decide +kernel
theorem dD_wipe_10 : decode cD_wipe 10 = .ok (.putfield 24, 3) := by decide +kernel
theorem dD_wipe_13 : decode cD_wipe 13 = .ok (.return_, 1) := by decide +kernel
theorem dL_rebuild_0 : decode cL_rebuild 0 = .ok (.aload_n 2, 1) := by decide +kernel
theorem dL_rebuild_1 : decode cL_rebuild 1 = .ok (.iconst 0, 1) := by decide +kernel
theorem dL_rebuild_2 : decode cL_rebuild 2 = .ok (.aload_n 0, 1) := by decide +kernel
theorem dL_rebuild_3 : decode cL_rebuild 3 = .ok (.iload_n 1, 1) := by decide +kernel
theorem dL_rebuild_4 : decode cL_rebuild 4 = .ok (.invokevirtual 60, 3) := by decide +kernel
theorem dL_rebuild_7 : decode cL_rebuild 7 = .ok (.i2l, 1) := by decide +kernel
theorem dL_rebuild_8 : decode cL_rebuild 8 = .ok (.lastore, 1) := by decide +kernel
theorem dL_rebuild_9 : decode cL_rebuild 9 = .ok (.goto 9, 3) := by decide +kernel
theorem dL_rebuild_12 : decode cL_rebuild 12 = .ok (.astore_n 3, 1) := by decide +kernel
theorem dL_rebuild_13 : decode cL_rebuild 13 = .ok (.iconst 1, 1) := by decide +kernel
theorem dL_rebuild_14 : decode cL_rebuild 14 = .ok (.ireturn, 1) := by decide +kernel
theorem dL_rebuild_15 : decode cL_rebuild 15 = .ok (.astore_n 3, 1) := by decide +kernel
theorem dL_rebuild_16 : decode cL_rebuild 16 = .ok (.iconst 2, 1) := by decide +kernel
theorem dL_rebuild_17 : decode cL_rebuild 17 = .ok (.ireturn, 1) := by decide +kernel
theorem dL_rebuild_18 : decode cL_rebuild 18 = .ok (.iconst 0, 1) := by decide +kernel
theorem dL_rebuild_19 : decode cL_rebuild 19 = .ok (.ireturn, 1) := by decide +kernel
theorem dG_rebuild_0 : decode cG_rebuild 0 = .ok (.iload_n 1, 1) := by decide +kernel
theorem dG_rebuild_1 : decode cG_rebuild 1 = .ok (.iconst 2, 1) := by decide +kernel
theorem dG_rebuild_2 : decode cG_rebuild 2 = .ok (.invokestatic 60, 3) := by decide +kernel
theorem dG_rebuild_5 : decode cG_rebuild 5 = .ok (.ifCond .ne 11, 3) := by decide +kernel
theorem dG_rebuild_8 : decode cG_rebuild 8 = .ok (.new 64, 3) := by decide +kernel
theorem dG_rebuild_11 : decode cG_rebuild 11 = .ok (.dup, 1) := by decide +kernel
theorem dG_rebuild_12 : decode cG_rebuild 12 = .ok (.invokespecial 66, 3) := by decide +kernel
theorem dG_rebuild_15 : decode cG_rebuild 15 = .ok (.athrow, 1) := by decide +kernel
theorem dG_rebuild_16 : decode cG_rebuild 16 = .ok (.aload_n 0, 1) := by decide +kernel
theorem dG_rebuild_17 : decode cG_rebuild 17 = .ok (.getfield 22, 3) := by decide +kernel
theorem dG_rebuild_20 : decode cG_rebuild 20 = .ok (.getfield 67, 3) := by decide +kernel
theorem dG_rebuild_23 : decode cG_rebuild 23 = .ok (.ifCond .ne 11, 3) := by decide +kernel
theorem dG_rebuild_26 : decode cG_rebuild 26 = .ok (.new 71, 3) := by decide +kernel
theorem dG_rebuild_29 : decode cG_rebuild 29 = .ok (.dup, 1) := by decide +kernel
theorem dG_rebuild_30 : decode cG_rebuild 30 = .ok (.invokespecial 73, 3) := by decide +kernel
theorem dG_rebuild_33 : decode cG_rebuild 33 = .ok (.athrow, 1) := by decide +kernel
theorem dG_rebuild_34 : decode cG_rebuild 34 = .ok (.iconst 0, 1) := by decide +kernel
theorem dG_rebuild_35 : decode cG_rebuild 35 = .ok (.istore_n 2, 1) := by decide +kernel
theorem dG_rebuild_36 : decode cG_rebuild 36 = .ok (.iconst 0, 1) := by decide +kernel
theorem dG_rebuild_37 : decode cG_rebuild 37 = .ok (.istore_n 3, 1) := by decide +kernel
theorem dG_rebuild_38 : decode cG_rebuild 38 = .ok (.iload_n 3, 1) := by decide +kernel
theorem dG_rebuild_39 : decode cG_rebuild 39 = .ok (.bipush 64, 2) := by decide +kernel
theorem dG_rebuild_41 : decode cG_rebuild 41 = .ok (.if_icmp .ge 41, 3) := by decide +kernel
theorem dG_rebuild_44 : decode cG_rebuild 44 = .ok (.aload_n 0, 1) := by decide +kernel
theorem dG_rebuild_45 : decode cG_rebuild 45 = .ok (.iload_n 3, 1) := by decide +kernel
theorem dG_rebuild_46 : decode cG_rebuild 46 = .ok (.invokevirtual 74, 3) := by decide +kernel
theorem dG_rebuild_49 : decode cG_rebuild 49 = .ok (.istore 4, 2) := by decide +kernel
theorem dG_rebuild_51 : decode cG_rebuild 51 = .ok (.iload 4, 2) := by decide +kernel
theorem dG_rebuild_53 : decode cG_rebuild 53 = .ok (.iconst (-1), 1) := by decide +kernel
theorem dG_rebuild_54 : decode cG_rebuild 54 = .ok (.if_icmp .ne 9, 3) := by decide +kernel
theorem dG_rebuild_57 : decode cG_rebuild 57 = .ok (.iinc 2 1, 3) := by decide +kernel
theorem dG_rebuild_60 : decode cG_rebuild 60 = .ok (.goto 16, 3) := by decide +kernel
theorem dG_rebuild_63 : decode cG_rebuild 63 = .ok (.aload_n 0, 1) := by decide +kernel
theorem dG_rebuild_64 : decode cG_rebuild 64 = .ok (.iload_n 1, 1) := by decide +kernel
theorem dG_rebuild_65 : decode cG_rebuild 65 = .ok (.iload_n 3, 1) := by decide +kernel
theorem dG_rebuild_66 : decode cG_rebuild 66 = .ok (.iload 4, 2) := by decide +kernel
theorem dG_rebuild_68 : decode cG_rebuild 68 = .ok (.invokevirtual 156, 3) := by decide +kernel
theorem dG_rebuild_71 : decode cG_rebuild 71 = .ok (.ifCond .ne 5, 3) := by decide +kernel
theorem dG_rebuild_74 : decode cG_rebuild 74 = .ok (.iconst (-1), 1) := by decide +kernel
theorem dG_rebuild_75 : decode cG_rebuild 75 = .ok (.ireturn, 1) := by decide +kernel
theorem dG_rebuild_76 : decode cG_rebuild 76 = .ok (.iinc 3 1, 3) := by decide +kernel
theorem dG_rebuild_79 : decode cG_rebuild 79 = .ok (.goto (-41), 3) := by decide +kernel
theorem dG_rebuild_82 : decode cG_rebuild 82 = .ok (.iload_n 2, 1) := by decide +kernel
theorem dG_rebuild_83 : decode cG_rebuild 83 = .ok (.ireturn, 1) := by decide +kernel
theorem dG_rebuildBlock_0 : decode cG_rebuildBlock 0 = .ok (.aload_n 0, 1) := by decide +kernel
theorem dG_rebuildBlock_1 : decode cG_rebuildBlock 1 = .ok (.iload_n 3, 1) := by decide +kernel
theorem dG_rebuildBlock_2 : decode cG_rebuildBlock 2 = .ok (.invokevirtual 78, 3) := by decide +kernel
theorem dG_rebuildBlock_5 : decode cG_rebuildBlock 5 = .ok (.iload_n 2, 1) := by decide +kernel
theorem dG_rebuildBlock_6 : decode cG_rebuildBlock 6 = .ok (.aload_n 0, 1) := by decide +kernel
theorem dG_rebuildBlock_7 : decode cG_rebuildBlock 7 = .ok (.getfield 57, 3) := by decide +kernel
theorem dG_rebuildBlock_10 : decode cG_rebuildBlock 10 = .ok (.invokevirtual 95, 3) := by decide +kernel
theorem dG_rebuildBlock_13 : decode cG_rebuildBlock 13 = .ok (.aload_n 0, 1) := by decide +kernel
theorem dG_rebuildBlock_14 : decode cG_rebuildBlock 14 = .ok (.iload_n 3, 1) := by decide +kernel
theorem dG_rebuildBlock_15 : decode cG_rebuildBlock 15 = .ok (.invokevirtual 78, 3) := by decide +kernel
theorem dG_rebuildBlock_18 : decode cG_rebuildBlock 18 = .ok (.iload_n 2, 1) := by decide +kernel
theorem dG_rebuildBlock_19 : decode cG_rebuildBlock 19 = .ok (.bipush 10, 2) := by decide +kernel
theorem dG_rebuildBlock_21 : decode cG_rebuildBlock 21 = .ok (.invokevirtual 82, 3) := by decide +kernel
theorem dG_rebuildBlock_24 : decode cG_rebuildBlock 24 = .ok (.istore 4, 2) := by decide +kernel
theorem dG_rebuildBlock_26 : decode cG_rebuildBlock 26 = .ok (.aload_n 0, 1) := by decide +kernel
theorem dG_rebuildBlock_27 : decode cG_rebuildBlock 27 = .ok (.iload_n 1, 1) := by decide +kernel
theorem dG_rebuildBlock_28 : decode cG_rebuildBlock 28 = .ok (.iload_n 2, 1) := by decide +kernel
theorem dG_rebuildBlock_29 : decode cG_rebuildBlock 29 = .ok (.aload_n 0, 1) := by decide +kernel
theorem dG_rebuildBlock_30 : decode cG_rebuildBlock 30 = .ok (.getfield 57, 3) := by decide +kernel
theorem dG_rebuildBlock_33 : decode cG_rebuildBlock 33 = .ok (.iload 4, 2) := by decide +kernel
theorem dG_rebuildBlock_35 : decode cG_rebuildBlock 35 = .ok (.invokevirtual 197, 3) := by decide +kernel
theorem dG_rebuildBlock_38 : decode cG_rebuildBlock 38 = .ok (.ifCond .ne 5, 3) := by decide +kernel
theorem dG_rebuildBlock_41 : decode cG_rebuildBlock 41 = .ok (.iconst 0, 1) := by decide +kernel
theorem dG_rebuildBlock_42 : decode cG_rebuildBlock 42 = .ok (.ireturn, 1) := by decide +kernel
theorem dG_rebuildBlock_43 : decode cG_rebuildBlock 43 = .ok (.aload_n 0, 1) := by decide +kernel
theorem dG_rebuildBlock_44 : decode cG_rebuildBlock 44 = .ok (.iload_n 1, 1) := by decide +kernel
theorem dG_rebuildBlock_45 : decode cG_rebuildBlock 45 = .ok (.iload_n 2, 1) := by decide +kernel
theorem dG_rebuildBlock_46 : decode cG_rebuildBlock 46 = .ok (.bipush 8, 2) := by decide +kernel
theorem dG_rebuildBlock_48 : decode cG_rebuildBlock 48 = .ok (.idiv, 1) := by decide +kernel
theorem dG_rebuildBlock_49 : decode cG_rebuildBlock 49 = .ok (.invokevirtual 150, 3) := by decide +kernel
theorem dG_rebuildBlock_52 : decode cG_rebuildBlock 52 = .ok (.ifCond .ne 16, 3) := by decide +kernel
theorem dG_rebuildBlock_55 : decode cG_rebuildBlock 55 = .ok (.aload_n 0, 1) := by decide +kernel
theorem dG_rebuildBlock_56 : decode cG_rebuildBlock 56 = .ok (.iconst 1, 1) := by decide +kernel
theorem dG_rebuildBlock_57 : decode cG_rebuildBlock 57 = .ok (.iload_n 1, 1) := by decide +kernel
theorem dG_rebuildBlock_58 : decode cG_rebuildBlock 58 = .ok (.isub, 1) := by decide +kernel
theorem dG_rebuildBlock_59 : decode cG_rebuildBlock 59 = .ok (.iload_n 2, 1) := by decide +kernel
theorem dG_rebuildBlock_60 : decode cG_rebuildBlock 60 = .ok (.iload 4, 2) := by decide +kernel
theorem dG_rebuildBlock_62 : decode cG_rebuildBlock 62 = .ok (.invokevirtual 194, 3) := by decide +kernel
theorem dG_rebuildBlock_65 : decode cG_rebuildBlock 65 = .ok (.ifCond .eq 7, 3) := by decide +kernel
theorem dG_rebuildBlock_68 : decode cG_rebuildBlock 68 = .ok (.iconst 1, 1) := by decide +kernel
theorem dG_rebuildBlock_69 : decode cG_rebuildBlock 69 = .ok (.goto 4, 3) := by decide +kernel
theorem dG_rebuildBlock_72 : decode cG_rebuildBlock 72 = .ok (.iconst 0, 1) := by decide +kernel
theorem dG_rebuildBlock_73 : decode cG_rebuildBlock 73 = .ok (.ireturn, 1) := by decide +kernel
theorem dL_count_0 : decode cL_count 0 = .ok (.aload_n 2, 1) := by decide +kernel
theorem dL_count_1 : decode cL_count 1 = .ok (.iconst 0, 1) := by decide +kernel
theorem dL_count_2 : decode cL_count 2 = .ok (.aload_n 0, 1) := by decide +kernel
theorem dL_count_3 : decode cL_count 3 = .ok (.iload_n 1, 1) := by decide +kernel
theorem dL_count_4 : decode cL_count 4 = .ok (.invokevirtual 63, 3) := by decide +kernel
theorem dL_count_7 : decode cL_count 7 = .ok (.i2l, 1) := by decide +kernel
theorem dL_count_8 : decode cL_count 8 = .ok (.lastore, 1) := by decide +kernel
theorem dL_count_9 : decode cL_count 9 = .ok (.goto 6, 3) := by decide +kernel
theorem dL_count_12 : decode cL_count 12 = .ok (.astore_n 3, 1) := by decide +kernel
theorem dL_count_13 : decode cL_count 13 = .ok (.iconst 1, 1) := by decide +kernel
theorem dL_count_14 : decode cL_count 14 = .ok (.ireturn, 1) := by decide +kernel
theorem dL_count_15 : decode cL_count 15 = .ok (.iconst 0, 1) := by decide +kernel
theorem dL_count_16 : decode cL_count 16 = .ok (.ireturn, 1) := by decide +kernel
theorem dG_count_0 : decode cG_count 0 = .ok (.iload_n 1, 1) := by decide +kernel
theorem dG_count_1 : decode cG_count 1 = .ok (.tableswitch 113 0 7 #[47, 55, 63, 71, 79, 95, 103, 108], 47) := by decide +kernel
theorem dG_count_48 : decode cG_count 48 = .ok (.aload_n 0, 1) := by decide +kernel
theorem dG_count_49 : decode cG_count 49 = .ok (.getfield 12, 3) := by decide +kernel
theorem dG_count_52 : decode cG_count 52 = .ok (.getfield 128, 3) := by decide +kernel
theorem dG_count_55 : decode cG_count 55 = .ok (.ireturn, 1) := by decide +kernel
theorem dG_count_56 : decode cG_count 56 = .ok (.aload_n 0, 1) := by decide +kernel
theorem dG_count_57 : decode cG_count 57 = .ok (.getfield 16, 3) := by decide +kernel
theorem dG_count_60 : decode cG_count 60 = .ok (.getfield 128, 3) := by decide +kernel
theorem dG_count_63 : decode cG_count 63 = .ok (.ireturn, 1) := by decide +kernel
theorem dG_count_64 : decode cG_count 64 = .ok (.aload_n 0, 1) := by decide +kernel
theorem dG_count_65 : decode cG_count 65 = .ok (.getfield 12, 3) := by decide +kernel
theorem dG_count_68 : decode cG_count 68 = .ok (.getfield 118, 3) := by decide +kernel
theorem dG_count_71 : decode cG_count 71 = .ok (.ireturn, 1) := by decide +kernel
theorem dG_count_72 : decode cG_count 72 = .ok (.aload_n 0, 1) := by decide +kernel
theorem dG_count_73 : decode cG_count 73 = .ok (.getfield 16, 3) := by decide +kernel
theorem dG_count_76 : decode cG_count 76 = .ok (.getfield 118, 3) := by decide +kernel
theorem dG_count_79 : decode cG_count 79 = .ok (.ireturn, 1) := by decide +kernel
theorem dG_count_80 : decode cG_count 80 = .ok (.aload_n 0, 1) := by decide +kernel
theorem dG_count_81 : decode cG_count 81 = .ok (.getfield 22, 3) := by decide +kernel
theorem dG_count_84 : decode cG_count 84 = .ok (.getfield 67, 3) := by decide +kernel
theorem dG_count_87 : decode cG_count 87 = .ok (.ifCond .eq 7, 3) := by decide +kernel
theorem dG_count_90 : decode cG_count 90 = .ok (.iconst 1, 1) := by decide +kernel
theorem dG_count_91 : decode cG_count 91 = .ok (.goto 4, 3) := by decide +kernel
theorem dG_count_94 : decode cG_count 94 = .ok (.iconst 0, 1) := by decide +kernel
theorem dG_count_95 : decode cG_count 95 = .ok (.ireturn, 1) := by decide +kernel
theorem dG_count_96 : decode cG_count 96 = .ok (.aload_n 0, 1) := by decide +kernel
theorem dG_count_97 : decode cG_count 97 = .ok (.getfield 29, 3) := by decide +kernel
theorem dG_count_100 : decode cG_count 100 = .ok (.getfield 102, 3) := by decide +kernel
theorem dG_count_103 : decode cG_count 103 = .ok (.ireturn, 1) := by decide +kernel
theorem dG_count_104 : decode cG_count 104 = .ok (.aload_n 0, 1) := by decide +kernel
theorem dG_count_105 : decode cG_count 105 = .ok (.getfield 48, 3) := by decide +kernel
theorem dG_count_108 : decode cG_count 108 = .ok (.ireturn, 1) := by decide +kernel
theorem dG_count_109 : decode cG_count 109 = .ok (.aload_n 0, 1) := by decide +kernel
theorem dG_count_110 : decode cG_count 110 = .ok (.invokevirtual 160, 3) := by decide +kernel
theorem dG_count_113 : decode cG_count 113 = .ok (.ireturn, 1) := by decide +kernel
theorem dG_count_114 : decode cG_count 114 = .ok (.new 64, 3) := by decide +kernel
theorem dG_count_117 : decode cG_count 117 = .ok (.dup, 1) := by decide +kernel
theorem dG_count_118 : decode cG_count 118 = .ok (.invokespecial 66, 3) := by decide +kernel
theorem dG_count_121 : decode cG_count 121 = .ok (.athrow, 1) := by decide +kernel
theorem dG_greatestPageVersion_0 : decode cG_greatestPageVersion 0 = .ok (.iconst 0, 1) := by decide +kernel
theorem dG_greatestPageVersion_1 : decode cG_greatestPageVersion 1 = .ok (.istore_n 1, 1) := by decide +kernel
theorem dG_greatestPageVersion_2 : decode cG_greatestPageVersion 2 = .ok (.iconst 0, 1) := by decide +kernel
theorem dG_greatestPageVersion_3 : decode cG_greatestPageVersion 3 = .ok (.istore_n 2, 1) := by decide +kernel
theorem dG_greatestPageVersion_4 : decode cG_greatestPageVersion 4 = .ok (.iload_n 2, 1) := by decide +kernel
theorem dG_greatestPageVersion_5 : decode cG_greatestPageVersion 5 = .ok (.aload_n 0, 1) := by decide +kernel
theorem dG_greatestPageVersion_6 : decode cG_greatestPageVersion 6 = .ok (.getfield 40, 3) := by decide +kernel
theorem dG_greatestPageVersion_9 : decode cG_greatestPageVersion 9 = .ok (.arraylength, 1) := by decide +kernel
theorem dG_greatestPageVersion_10 : decode cG_greatestPageVersion 10 = .ok (.if_icmp .ge 20, 3) := by decide +kernel
theorem dG_greatestPageVersion_13 : decode cG_greatestPageVersion 13 = .ok (.iload_n 1, 1) := by decide +kernel
theorem dG_greatestPageVersion_14 : decode cG_greatestPageVersion 14 = .ok (.aload_n 0, 1) := by decide +kernel
theorem dG_greatestPageVersion_15 : decode cG_greatestPageVersion 15 = .ok (.getfield 40, 3) := by decide +kernel
theorem dG_greatestPageVersion_18 : decode cG_greatestPageVersion 18 = .ok (.iload_n 2, 1) := by decide +kernel
theorem dG_greatestPageVersion_19 : decode cG_greatestPageVersion 19 = .ok (.iaload, 1) := by decide +kernel
theorem dG_greatestPageVersion_20 : decode cG_greatestPageVersion 20 = .ok (.invokestatic 210, 3) := by decide +kernel
theorem dG_greatestPageVersion_23 : decode cG_greatestPageVersion 23 = .ok (.istore_n 1, 1) := by decide +kernel
theorem dG_greatestPageVersion_24 : decode cG_greatestPageVersion 24 = .ok (.iinc 2 1, 3) := by decide +kernel
theorem dG_greatestPageVersion_27 : decode cG_greatestPageVersion 27 = .ok (.goto (-23), 3) := by decide +kernel
theorem dG_greatestPageVersion_30 : decode cG_greatestPageVersion 30 = .ok (.iload_n 1, 1) := by decide +kernel
theorem dG_greatestPageVersion_31 : decode cG_greatestPageVersion 31 = .ok (.ireturn, 1) := by decide +kernel
theorem dMx_max_0 : decode cMx_max 0 = .ok (.iload_n 0, 1) := by decide +kernel
theorem dMx_max_1 : decode cMx_max 1 = .ok (.iload_n 1, 1) := by decide +kernel
theorem dMx_max_2 : decode cMx_max 2 = .ok (.if_icmp .lt 7, 3) := by decide +kernel
theorem dMx_max_5 : decode cMx_max 5 = .ok (.iload_n 0, 1) := by decide +kernel
theorem dMx_max_6 : decode cMx_max 6 = .ok (.goto 4, 3) := by decide +kernel
theorem dMx_max_9 : decode cMx_max 9 = .ok (.iload_n 1, 1) := by decide +kernel
theorem dMx_max_10 : decode cMx_max 10 = .ok (.ireturn, 1) := by decide +kernel
theorem dM_init_0 : decode cM_init 0 = .ok (.aload_n 0, 1) := by decide +kernel
theorem dM_init_1 : decode cM_init 1 = .ok (.invokespecial 1, 3) := by decide +kernel
theorem dM_init_4 : decode cM_init 4 = .ok (.aload_n 0, 1) := by decide +kernel
theorem dM_init_5 : decode cM_init 5 = .ok (.sipush 1584, 3) := by decide +kernel
theorem dM_init_8 : decode cM_init 8 = .ok (.newarray .int, 2) := by decide +kernel
theorem dM_init_10 : decode cM_init 10 = .ok (.putfield 7, 3) := by decide +kernel
theorem dM_init_13 : decode cM_init 13 = .ok (.aload_n 0, 1) := by decide +kernel
theorem dM_init_14 : decode cM_init 14 = .ok (.bipush 16, 2) := by decide +kernel
theorem dM_init_16 : decode cM_init 16 = .ok (.newarray .int, 2) := by decide +kernel
theorem dM_init_18 : decode cM_init 18 = .ok (.putfield 13, 3) := by decide +kernel
theorem dM_init_21 : decode cM_init 21 = .ok (.aload_n 0, 1) := by decide +kernel
theorem dM_init_22 : decode cM_init 22 = .ok (.iconst (-1), 1) := by decide +kernel
theorem dM_init_23 : decode cM_init 23 = .ok (.putfield 16, 3) := by decide +kernel
theorem dM_init_26 : decode cM_init 26 = .ok (.aload_n 0, 1) := by decide +kernel
theorem dM_init_27 : decode cM_init 27 = .ok (.bipush 8, 2) := by decide +kernel
theorem dM_init_29 : decode cM_init 29 = .ok (.newarray .int, 2) := by decide +kernel
theorem dM_init_31 : decode cM_init 31 = .ok (.putfield 20, 3) := by decide +kernel
theorem dM_init_34 : decode cM_init 34 = .ok (.aload_n 0, 1) := by decide +kernel
theorem dM_init_35 : decode cM_init 35 = .ok (.iconst (-1), 1) := by decide +kernel
theorem dM_init_36 : decode cM_init 36 = .ok (.putfield 23, 3) := by decide +kernel
theorem dM_init_39 : decode cM_init 39 = .ok (.aload_n 0, 1) := by decide +kernel
theorem dM_init_40 : decode cM_init 40 = .ok (.iconst 2, 1) := by decide +kernel
theorem dM_init_41 : decode cM_init 41 = .ok (.newarray .int, 2) := by decide +kernel
theorem dM_init_43 : decode cM_init 43 = .ok (.putfield 26, 3) := by decide +kernel
theorem dM_init_46 : decode cM_init 46 = .ok (.aload_n 0, 1) := by decide +kernel
theorem dM_init_47 : decode cM_init 47 = .ok (.iconst 2, 1) := by decide +kernel
theorem dM_init_48 : decode cM_init 48 = .ok (.newarray .int, 2) := by decide +kernel
theorem dM_init_50 : decode cM_init 50 = .ok (.putfield 29, 3) := by decide +kernel
theorem dM_init_53 : decode cM_init 53 = .ok (.aload_n 0, 1) := by decide +kernel
theorem dM_init_54 : decode cM_init 54 = .ok (.bipush 16, 2) := by decide +kernel
theorem dM_init_56 : decode cM_init 56 = .ok (.newarray .int, 2) := by decide +kernel
theorem dM_init_58 : decode cM_init 58 = .ok (.putfield 32, 3) := by decide +kernel
theorem dM_init_61 : decode cM_init 61 = .ok (.aload_n 0, 1) := by decide +kernel
theorem dM_init_62 : decode cM_init 62 = .ok (.bipush 16, 2) := by decide +kernel
theorem dM_init_64 : decode cM_init 64 = .ok (.newarray .int, 2) := by decide +kernel
theorem dM_init_66 : decode cM_init 66 = .ok (.putfield 35, 3) := by decide +kernel
theorem dM_init_69 : decode cM_init 69 = .ok (.aload_n 0, 1) := by decide +kernel
theorem dM_init_70 : decode cM_init 70 = .ok (.bipush 16, 2) := by decide +kernel
theorem dM_init_72 : decode cM_init 72 = .ok (.newarray .int, 2) := by decide +kernel
theorem dM_init_74 : decode cM_init 74 = .ok (.putfield 38, 3) := by decide +kernel
theorem dM_init_77 : decode cM_init 77 = .ok (.aload_n 0, 1) := by decide +kernel
theorem dM_init_78 : decode cM_init 78 = .ok (.sipush 400, 3) := by decide +kernel
theorem dM_init_81 : decode cM_init 81 = .ok (.newarray .int, 2) := by decide +kernel
theorem dM_init_83 : decode cM_init 83 = .ok (.putfield 41, 3) := by decide +kernel
theorem dM_init_86 : decode cM_init 86 = .ok (.aload_n 0, 1) := by decide +kernel
theorem dM_init_87 : decode cM_init 87 = .ok (.bipush 11, 2) := by decide +kernel
theorem dM_init_89 : decode cM_init 89 = .ok (.newarray .int, 2) := by decide +kernel
theorem dM_init_91 : decode cM_init 91 = .ok (.putfield 44, 3) := by decide +kernel
theorem dM_init_94 : decode cM_init 94 = .ok (.aload_n 0, 1) := by decide +kernel
theorem dM_init_95 : decode cM_init 95 = .ok (.bipush 8, 2) := by decide +kernel
theorem dM_init_97 : decode cM_init 97 = .ok (.newarray .int, 2) := by decide +kernel
theorem dM_init_99 : decode cM_init 99 = .ok (.putfield 47, 3) := by decide +kernel
theorem dM_init_102 : decode cM_init 102 = .ok (.iconst 0, 1) := by decide +kernel
theorem dM_init_103 : decode cM_init 103 = .ok (.istore_n 1, 1) := by decide +kernel
theorem dM_init_104 : decode cM_init 104 = .ok (.iload_n 1, 1) := by decide +kernel
theorem dM_init_105 : decode cM_init 105 = .ok (.iconst 2, 1) := by decide +kernel
theorem dM_init_106 : decode cM_init 106 = .ok (.if_icmp .ge 59, 3) := by decide +kernel
theorem dM_init_109 : decode cM_init 109 = .ok (.iconst 0, 1) := by decide +kernel
theorem dM_init_110 : decode cM_init 110 = .ok (.istore_n 2, 1) := by decide +kernel
theorem dM_init_111 : decode cM_init 111 = .ok (.iload_n 2, 1) := by decide +kernel
theorem dM_init_112 : decode cM_init 112 = .ok (.bipush 72, 2) := by decide +kernel
theorem dM_init_114 : decode cM_init 114 = .ok (.if_icmp .ge 45, 3) := by decide +kernel
theorem dM_init_117 : decode cM_init 117 = .ok (.aload_n 0, 1) := by decide +kernel
theorem dM_init_118 : decode cM_init 118 = .ok (.getfield 7, 3) := by decide +kernel
theorem dM_init_121 : decode cM_init 121 = .ok (.iload_n 1, 1) := by decide +kernel
theorem dM_init_122 : decode cM_init 122 = .ok (.iload_n 2, 1) := by decide +kernel
theorem dM_init_123 : decode cM_init 123 = .ok (.invokestatic 50, 3) := by decide +kernel
theorem dM_init_126 : decode cM_init 126 = .ok (.bipush 9, 2) := by decide +kernel
theorem dM_init_128 : decode cM_init 128 = .ok (.iadd, 1) := by decide +kernel
theorem dM_init_129 : decode cM_init 129 = .ok (.iload_n 2, 1) := by decide +kernel
theorem dM_init_130 : decode cM_init 130 = .ok (.iastore, 1) := by decide +kernel
theorem dM_init_131 : decode cM_init 131 = .ok (.aload_n 0, 1) := by decide +kernel
theorem dM_init_132 : decode cM_init 132 = .ok (.getfield 7, 3) := by decide +kernel
theorem dM_init_135 : decode cM_init 135 = .ok (.iload_n 1, 1) := by decide +kernel
theorem dM_init_136 : decode cM_init 136 = .ok (.iload_n 2, 1) := by decide +kernel
theorem dM_init_137 : decode cM_init 137 = .ok (.invokestatic 50, 3) := by decide +kernel
theorem dM_init_140 : decode cM_init 140 = .ok (.bipush 8, 2) := by decide +kernel
theorem dM_init_142 : decode cM_init 142 = .ok (.iadd, 1) := by decide +kernel
theorem dM_init_143 : decode cM_init 143 = .ok (.aload_n 0, 1) := by decide +kernel
theorem dM_init_144 : decode cM_init 144 = .ok (.iload_n 1, 1) := by decide +kernel
theorem dM_init_145 : decode cM_init 145 = .ok (.iload_n 2, 1) := by decide +kernel
theorem dM_init_146 : decode cM_init 146 = .ok (.invokestatic 50, 3) := by decide +kernel
theorem dM_init_149 : decode cM_init 149 = .ok (.invokevirtual 54, 3) := by decide +kernel
theorem dM_init_152 : decode cM_init 152 = .ok (.iastore, 1) := by decide +kernel
theorem dM_init_153 : decode cM_init 153 = .ok (.iinc 2 1, 3) := by decide +kernel
theorem dM_init_156 : decode cM_init 156 = .ok (.goto (-45), 3) := by decide +kernel
theorem dM_init_159 : decode cM_init 159 = .ok (.iinc 1 1, 3) := by decide +kernel
theorem dM_init_162 : decode cM_init 162 = .ok (.goto (-58), 3) := by decide +kernel
theorem dM_init_165 : decode cM_init 165 = .ok (.return_, 1) := by decide +kernel
theorem dM_place_0 : decode cM_place 0 = .ok (.bipush 11, 2) := by decide +kernel
theorem dM_place_2 : decode cM_place 2 = .ok (.bipush 72, 2) := by decide +kernel
theorem dM_place_4 : decode cM_place 4 = .ok (.iload_n 0, 1) := by decide +kernel
theorem dM_place_5 : decode cM_place 5 = .ok (.imul, 1) := by decide +kernel
theorem dM_place_6 : decode cM_place 6 = .ok (.iload_n 1, 1) := by decide +kernel
theorem dM_place_7 : decode cM_place 7 = .ok (.iadd, 1) := by decide +kernel
theorem dM_place_8 : decode cM_place 8 = .ok (.imul, 1) := by decide +kernel
theorem dM_place_9 : decode cM_place 9 = .ok (.ireturn, 1) := by decide +kernel
theorem dM_sumAt_0 : decode cM_sumAt 0 = .ok (.iconst 0, 1) := by decide +kernel
theorem dM_sumAt_1 : decode cM_sumAt 1 = .ok (.istore_n 2, 1) := by decide +kernel
theorem dM_sumAt_2 : decode cM_sumAt 2 = .ok (.iconst 0, 1) := by decide +kernel
theorem dM_sumAt_3 : decode cM_sumAt 3 = .ok (.istore_n 3, 1) := by decide +kernel
theorem dM_sumAt_4 : decode cM_sumAt 4 = .ok (.iload_n 3, 1) := by decide +kernel
theorem dM_sumAt_5 : decode cM_sumAt 5 = .ok (.bipush 8, 2) := by decide +kernel
theorem dM_sumAt_7 : decode cM_sumAt 7 = .ok (.if_icmp .ge 22, 3) := by decide +kernel
theorem dM_sumAt_10 : decode cM_sumAt 10 = .ok (.iload_n 2, 1) := by decide +kernel
theorem dM_sumAt_11 : decode cM_sumAt 11 = .ok (.aload_n 0, 1) := by decide +kernel
theorem dM_sumAt_12 : decode cM_sumAt 12 = .ok (.getfield 7, 3) := by decide +kernel
theorem dM_sumAt_15 : decode cM_sumAt 15 = .ok (.iload_n 1, 1) := by decide +kernel
theorem dM_sumAt_16 : decode cM_sumAt 16 = .ok (.iload_n 3, 1) := by decide +kernel
theorem dM_sumAt_17 : decode cM_sumAt 17 = .ok (.iadd, 1) := by decide +kernel
theorem dM_sumAt_18 : decode cM_sumAt 18 = .ok (.iaload, 1) := by decide +kernel
theorem dM_sumAt_19 : decode cM_sumAt 19 = .ok (.invokestatic 61, 3) := by decide +kernel
theorem dM_sumAt_22 : decode cM_sumAt 22 = .ok (.istore_n 2, 1) := by decide +kernel
theorem dM_sumAt_23 : decode cM_sumAt 23 = .ok (.iinc 3 1, 3) := by decide +kernel
theorem dM_sumAt_26 : decode cM_sumAt 26 = .ok (.goto (-22), 3) := by decide +kernel
theorem dM_sumAt_29 : decode cM_sumAt 29 = .ok (.iload_n 2, 1) := by decide +kernel
theorem dM_sumAt_30 : decode cM_sumAt 30 = .ok (.aload_n 0, 1) := by decide +kernel
theorem dM_sumAt_31 : decode cM_sumAt 31 = .ok (.getfield 7, 3) := by decide +kernel
theorem dM_sumAt_34 : decode cM_sumAt 34 = .ok (.iload_n 1, 1) := by decide +kernel
theorem dM_sumAt_35 : decode cM_sumAt 35 = .ok (.bipush 9, 2) := by decide +kernel
theorem dM_sumAt_37 : decode cM_sumAt 37 = .ok (.iadd, 1) := by decide +kernel
theorem dM_sumAt_38 : decode cM_sumAt 38 = .ok (.iaload, 1) := by decide +kernel
theorem dM_sumAt_39 : decode cM_sumAt 39 = .ok (.invokestatic 61, 3) := by decide +kernel
theorem dM_sumAt_42 : decode cM_sumAt 42 = .ok (.aload_n 0, 1) := by decide +kernel
theorem dM_sumAt_43 : decode cM_sumAt 43 = .ok (.getfield 7, 3) := by decide +kernel
theorem dM_sumAt_46 : decode cM_sumAt 46 = .ok (.iload_n 1, 1) := by decide +kernel
theorem dM_sumAt_47 : decode cM_sumAt 47 = .ok (.bipush 10, 2) := by decide +kernel
theorem dM_sumAt_49 : decode cM_sumAt 49 = .ok (.iadd, 1) := by decide +kernel
theorem dM_sumAt_50 : decode cM_sumAt 50 = .ok (.iaload, 1) := by decide +kernel
theorem dM_sumAt_51 : decode cM_sumAt 51 = .ok (.invokestatic 61, 3) := by decide +kernel
theorem dM_sumAt_54 : decode cM_sumAt 54 = .ok (.ireturn, 1) := by decide +kernel
theorem dM_mix_0 : decode cM_mix 0 = .ok (.iload_n 0, 1) := by decide +kernel
theorem dM_mix_1 : decode cM_mix 1 = .ok (.iconst 5, 1) := by decide +kernel
theorem dM_mix_2 : decode cM_mix 2 = .ok (.ishl, 1) := by decide +kernel
theorem dM_mix_3 : decode cM_mix 3 = .ok (.iload_n 0, 1) := by decide +kernel
theorem dM_mix_4 : decode cM_mix 4 = .ok (.bipush 27, 2) := by decide +kernel
theorem dM_mix_6 : decode cM_mix 6 = .ok (.iushr, 1) := by decide +kernel
theorem dM_mix_7 : decode cM_mix 7 = .ok (.ior, 1) := by decide +kernel
theorem dM_mix_8 : decode cM_mix 8 = .ok (.iload_n 1, 1) := by decide +kernel
theorem dM_mix_9 : decode cM_mix 9 = .ok (.iadd, 1) := by decide +kernel
theorem dM_mix_10 : decode cM_mix 10 = .ok (.ireturn, 1) := by decide +kernel
theorem dM_thrown_0 : decode cM_thrown 0 = .ok (.aload_n 0, 1) := by decide +kernel
theorem dM_thrown_1 : decode cM_thrown 1 = .ok (.getfield 58, 3) := by decide +kernel
theorem dM_thrown_4 : decode cM_thrown 4 = .ok (.ireturn, 1) := by decide +kernel
theorem dM_write_0 : decode cM_write 0 = .ok (.aload_n 0, 1) := by decide +kernel
theorem dM_write_1 : decode cM_write 1 = .ok (.iload_n 1, 1) := by decide +kernel
theorem dM_write_2 : decode cM_write 2 = .ok (.bipush 64, 2) := by decide +kernel
theorem dM_write_4 : decode cM_write 4 = .ok (.invokestatic 114, 3) := by decide +kernel
theorem dM_write_7 : decode cM_write 7 = .ok (.ifCond .eq 12, 3) := by decide +kernel
theorem dM_write_10 : decode cM_write 10 = .ok (.iload_n 2, 1) := by decide +kernel
theorem dM_write_11 : decode cM_write 11 = .ok (.bipush 8, 2) := by decide +kernel
theorem dM_write_13 : decode cM_write 13 = .ok (.invokestatic 114, 3) := by decide +kernel
theorem dM_write_16 : decode cM_write 16 = .ok (.ifCond .ne 7, 3) := by decide +kernel
theorem dM_write_19 : decode cM_write 19 = .ok (.iconst 1, 1) := by decide +kernel
theorem dM_write_20 : decode cM_write 20 = .ok (.goto 15, 3) := by decide +kernel
theorem dM_write_23 : decode cM_write 23 = .ok (.aload_n 0, 1) := by decide +kernel
theorem dM_write_24 : decode cM_write 24 = .ok (.getfield 80, 3) := by decide +kernel
theorem dM_write_27 : decode cM_write 27 = .ok (.ifCond .eq 7, 3) := by decide +kernel
theorem dM_write_30 : decode cM_write 30 = .ok (.iconst 2, 1) := by decide +kernel
theorem dM_write_31 : decode cM_write 31 = .ok (.goto 4, 3) := by decide +kernel
theorem dM_write_34 : decode cM_write 34 = .ok (.iconst 0, 1) := by decide +kernel
theorem dM_write_35 : decode cM_write 35 = .ok (.putfield 58, 3) := by decide +kernel
theorem dM_write_38 : decode cM_write 38 = .ok (.aload_n 0, 1) := by decide +kernel
theorem dM_write_39 : decode cM_write 39 = .ok (.getfield 58, 3) := by decide +kernel
theorem dM_write_42 : decode cM_write 42 = .ok (.ifCond .le 5, 3) := by decide +kernel
theorem dM_write_45 : decode cM_write 45 = .ok (.iconst 0, 1) := by decide +kernel
theorem dM_write_46 : decode cM_write 46 = .ok (.ireturn, 1) := by decide +kernel
theorem dM_write_47 : decode cM_write 47 = .ok (.aload_n 0, 1) := by decide +kernel
theorem dM_write_48 : decode cM_write 48 = .ok (.iload_n 1, 1) := by decide +kernel
theorem dM_write_49 : decode cM_write 49 = .ok (.invokevirtual 117, 3) := by decide +kernel
theorem dM_write_52 : decode cM_write 52 = .ok (.istore 4, 2) := by decide +kernel
theorem dM_write_54 : decode cM_write 54 = .ok (.iload 4, 2) := by decide +kernel
theorem dM_write_56 : decode cM_write 56 = .ok (.iconst 2, 1) := by decide +kernel
theorem dM_write_57 : decode cM_write 57 = .ok (.if_icmp .ge 20, 3) := by decide +kernel
theorem dM_write_60 : decode cM_write 60 = .ok (.aload_n 0, 1) := by decide +kernel
theorem dM_write_61 : decode cM_write 61 = .ok (.getfield 7, 3) := by decide +kernel
theorem dM_write_64 : decode cM_write 64 = .ok (.iload 4, 2) := by decide +kernel
theorem dM_write_66 : decode cM_write 66 = .ok (.iload_n 1, 1) := by decide +kernel
theorem dM_write_67 : decode cM_write 67 = .ok (.invokestatic 50, 3) := by decide +kernel
theorem dM_write_70 : decode cM_write 70 = .ok (.bipush 10, 2) := by decide +kernel
theorem dM_write_72 : decode cM_write 72 = .ok (.iadd, 1) := by decide +kernel
theorem dM_write_73 : decode cM_write 73 = .ok (.iaload, 1) := by decide +kernel
theorem dM_write_74 : decode cM_write 74 = .ok (.goto 4, 3) := by decide +kernel
theorem dM_write_77 : decode cM_write 77 = .ok (.iconst 0, 1) := by decide +kernel
theorem dM_write_78 : decode cM_write 78 = .ok (.istore 5, 2) := by decide +kernel
theorem dM_write_80 : decode cM_write 80 = .ok (.aload_n 0, 1) := by decide +kernel
theorem dM_write_81 : decode cM_write 81 = .ok (.iload 5, 2) := by decide +kernel
theorem dM_write_83 : decode cM_write 83 = .ok (.bipush 60, 2) := by decide +kernel
theorem dM_write_85 : decode cM_write 85 = .ok (.if_icmp .ne 7, 3) := by decide +kernel
theorem dM_write_88 : decode cM_write 88 = .ok (.iconst 3, 1) := by decide +kernel
theorem dM_write_89 : decode cM_write 89 = .ok (.goto 4, 3) := by decide +kernel
theorem dM_write_92 : decode cM_write 92 = .ok (.iconst 0, 1) := by decide +kernel
theorem dM_write_93 : decode cM_write 93 = .ok (.putfield 58, 3) := by decide +kernel
theorem dM_write_96 : decode cM_write 96 = .ok (.aload_n 0, 1) := by decide +kernel
theorem dM_write_97 : decode cM_write 97 = .ok (.getfield 58, 3) := by decide +kernel
theorem dM_write_100 : decode cM_write 100 = .ok (.ifCond .le 5, 3) := by decide +kernel
theorem dM_write_103 : decode cM_write 103 = .ok (.iconst 0, 1) := by decide +kernel
theorem dM_write_104 : decode cM_write 104 = .ok (.ireturn, 1) := by decide +kernel
theorem dM_write_105 : decode cM_write 105 = .ok (.aload_n 0, 1) := by decide +kernel
theorem dM_write_106 : decode cM_write 106 = .ok (.iload 4, 2) := by decide +kernel
theorem dM_write_108 : decode cM_write 108 = .ok (.putfield 120, 3) := by decide +kernel
theorem dM_write_111 : decode cM_write 111 = .ok (.iload 4, 2) := by decide +kernel
theorem dM_write_113 : decode cM_write 113 = .ok (.iconst 2, 1) := by decide +kernel
theorem dM_write_114 : decode cM_write 114 = .ok (.if_icmp .ne 5, 3) := by decide +kernel
theorem dM_write_117 : decode cM_write 117 = .ok (.iconst 2, 1) := by decide +kernel
theorem dM_write_118 : decode cM_write 118 = .ok (.ireturn, 1) := by decide +kernel
theorem dM_write_119 : decode cM_write 119 = .ok (.aload_n 0, 1) := by decide +kernel
theorem dM_write_120 : decode cM_write 120 = .ok (.iload 4, 2) := by decide +kernel
theorem dM_write_122 : decode cM_write 122 = .ok (.iload_n 1, 1) := by decide +kernel
theorem dM_write_123 : decode cM_write 123 = .ok (.invokevirtual 123, 3) := by decide +kernel
theorem dM_write_126 : decode cM_write 126 = .ok (.aload_n 0, 1) := by decide +kernel
theorem dM_write_127 : decode cM_write 127 = .ok (.getfield 47, 3) := by decide +kernel
theorem dM_write_130 : decode cM_write 130 = .ok (.iload_n 2, 1) := by decide +kernel
theorem dM_write_131 : decode cM_write 131 = .ok (.iload_n 3, 1) := by decide +kernel
theorem dM_write_132 : decode cM_write 132 = .ok (.iastore, 1) := by decide +kernel
theorem dM_write_133 : decode cM_write 133 = .ok (.aload_n 0, 1) := by decide +kernel
theorem dM_write_134 : decode cM_write 134 = .ok (.iload_n 1, 1) := by decide +kernel
theorem dM_write_135 : decode cM_write 135 = .ok (.iload 5, 2) := by decide +kernel
theorem dM_write_137 : decode cM_write 137 = .ok (.iconst 1, 1) := by decide +kernel
theorem dM_write_138 : decode cM_write 138 = .ok (.iadd, 1) := by decide +kernel
theorem dM_write_139 : decode cM_write 139 = .ok (.invokevirtual 126, 3) := by decide +kernel
theorem dM_write_142 : decode cM_write 142 = .ok (.ifCond .eq 7, 3) := by decide +kernel
theorem dM_write_145 : decode cM_write 145 = .ok (.iconst 0, 1) := by decide +kernel
theorem dM_write_146 : decode cM_write 146 = .ok (.goto 4, 3) := by decide +kernel
theorem dM_write_149 : decode cM_write 149 = .ok (.iconst 3, 1) := by decide +kernel
theorem dM_write_150 : decode cM_write 150 = .ok (.ireturn, 1) := by decide +kernel
theorem dM_in_0 : decode cM_in 0 = .ok (.iload_n 0, 1) := by decide +kernel
theorem dM_in_1 : decode cM_in 1 = .ok (.ifCond .lt 12, 3) := by decide +kernel
theorem dM_in_4 : decode cM_in 4 = .ok (.iload_n 0, 1) := by decide +kernel
theorem dM_in_5 : decode cM_in 5 = .ok (.iload_n 1, 1) := by decide +kernel
theorem dM_in_6 : decode cM_in 6 = .ok (.if_icmp .ge 7, 3) := by decide +kernel
theorem dM_in_9 : decode cM_in 9 = .ok (.iconst 1, 1) := by decide +kernel
theorem dM_in_10 : decode cM_in 10 = .ok (.goto 4, 3) := by decide +kernel
theorem dM_in_13 : decode cM_in 13 = .ok (.iconst 0, 1) := by decide +kernel
theorem dM_in_14 : decode cM_in 14 = .ok (.ireturn, 1) := by decide +kernel
theorem dM_codeOf_0 : decode cM_codeOf 0 = .ok (.aload_n 0, 1) := by decide +kernel
theorem dM_codeOf_1 : decode cM_codeOf 1 = .ok (.iconst 0, 1) := by decide +kernel
theorem dM_codeOf_2 : decode cM_codeOf 2 = .ok (.iload_n 1, 1) := by decide +kernel
theorem dM_codeOf_3 : decode cM_codeOf 3 = .ok (.invokevirtual 111, 3) := by decide +kernel
theorem dM_codeOf_6 : decode cM_codeOf 6 = .ok (.ifCond .ne 7, 3) := by decide +kernel
theorem dM_codeOf_9 : decode cM_codeOf 9 = .ok (.iconst 0, 1) := by decide +kernel
theorem dM_codeOf_10 : decode cM_codeOf 10 = .ok (.goto 17, 3) := by decide +kernel
theorem dM_codeOf_13 : decode cM_codeOf 13 = .ok (.aload_n 0, 1) := by decide +kernel
theorem dM_codeOf_14 : decode cM_codeOf 14 = .ok (.iconst 1, 1) := by decide +kernel
theorem dM_codeOf_15 : decode cM_codeOf 15 = .ok (.iload_n 1, 1) := by decide +kernel
theorem dM_codeOf_16 : decode cM_codeOf 16 = .ok (.invokevirtual 111, 3) := by decide +kernel
theorem dM_codeOf_19 : decode cM_codeOf 19 = .ok (.ifCond .ne 7, 3) := by decide +kernel
theorem dM_codeOf_22 : decode cM_codeOf 22 = .ok (.iconst 1, 1) := by decide +kernel
theorem dM_codeOf_23 : decode cM_codeOf 23 = .ok (.goto 4, 3) := by decide +kernel
theorem dM_codeOf_26 : decode cM_codeOf 26 = .ok (.iconst 2, 1) := by decide +kernel
theorem dM_codeOf_27 : decode cM_codeOf 27 = .ok (.ireturn, 1) := by decide +kernel
theorem dM_verdictOf_0 : decode cM_verdictOf 0 = .ok (.iload_n 1, 1) := by decide +kernel
theorem dM_verdictOf_1 : decode cM_verdictOf 1 = .ok (.iload_n 2, 1) := by decide +kernel
theorem dM_verdictOf_2 : decode cM_verdictOf 2 = .ok (.invokestatic 50, 3) := by decide +kernel
theorem dM_verdictOf_5 : decode cM_verdictOf 5 = .ok (.istore_n 3, 1) := by decide +kernel
theorem dM_verdictOf_6 : decode cM_verdictOf 6 = .ok (.aload_n 0, 1) := by decide +kernel
theorem dM_verdictOf_7 : decode cM_verdictOf 7 = .ok (.iload_n 1, 1) := by decide +kernel
theorem dM_verdictOf_8 : decode cM_verdictOf 8 = .ok (.iload_n 2, 1) := by decide +kernel
theorem dM_verdictOf_9 : decode cM_verdictOf 9 = .ok (.invokevirtual 64, 3) := by decide +kernel
theorem dM_verdictOf_12 : decode cM_verdictOf 12 = .ok (.ifCond .ne 5, 3) := by decide +kernel
theorem dM_verdictOf_15 : decode cM_verdictOf 15 = .ok (.iconst 1, 1) := by decide +kernel
theorem dM_verdictOf_16 : decode cM_verdictOf 16 = .ok (.ireturn, 1) := by decide +kernel
theorem dM_verdictOf_17 : decode cM_verdictOf 17 = .ok (.aload_n 0, 1) := by decide +kernel
theorem dM_verdictOf_18 : decode cM_verdictOf 18 = .ok (.getfield 7, 3) := by decide +kernel
theorem dM_verdictOf_21 : decode cM_verdictOf 21 = .ok (.iload_n 3, 1) := by decide +kernel
theorem dM_verdictOf_22 : decode cM_verdictOf 22 = .ok (.bipush 9, 2) := by decide +kernel
theorem dM_verdictOf_24 : decode cM_verdictOf 24 = .ok (.iadd, 1) := by decide +kernel
theorem dM_verdictOf_25 : decode cM_verdictOf 25 = .ok (.iaload, 1) := by decide +kernel
theorem dM_verdictOf_26 : decode cM_verdictOf 26 = .ok (.iload_n 2, 1) := by decide +kernel
theorem dM_verdictOf_27 : decode cM_verdictOf 27 = .ok (.if_icmp .eq 5, 3) := by decide +kernel
theorem dM_verdictOf_30 : decode cM_verdictOf 30 = .ok (.iconst 2, 1) := by decide +kernel
theorem dM_verdictOf_31 : decode cM_verdictOf 31 = .ok (.ireturn, 1) := by decide +kernel
theorem dM_verdictOf_32 : decode cM_verdictOf 32 = .ok (.aload_n 0, 1) := by decide +kernel
theorem dM_verdictOf_33 : decode cM_verdictOf 33 = .ok (.iload_n 1, 1) := by decide +kernel
theorem dM_verdictOf_34 : decode cM_verdictOf 34 = .ok (.iload_n 2, 1) := by decide +kernel
theorem dM_verdictOf_35 : decode cM_verdictOf 35 = .ok (.invokevirtual 74, 3) := by decide +kernel
theorem dM_verdictOf_38 : decode cM_verdictOf 38 = .ok (.ifCond .eq 5, 3) := by decide +kernel
theorem dM_verdictOf_41 : decode cM_verdictOf 41 = .ok (.iconst 3, 1) := by decide +kernel
theorem dM_verdictOf_42 : decode cM_verdictOf 42 = .ok (.ireturn, 1) := by decide +kernel
theorem dM_verdictOf_43 : decode cM_verdictOf 43 = .ok (.aload_n 0, 1) := by decide +kernel
theorem dM_verdictOf_44 : decode cM_verdictOf 44 = .ok (.iload_n 1, 1) := by decide +kernel
theorem dM_verdictOf_45 : decode cM_verdictOf 45 = .ok (.iload_n 2, 1) := by decide +kernel
theorem dM_verdictOf_46 : decode cM_verdictOf 46 = .ok (.invokevirtual 77, 3) := by decide +kernel
theorem dM_verdictOf_49 : decode cM_verdictOf 49 = .ok (.istore 4, 2) := by decide +kernel
theorem dM_verdictOf_51 : decode cM_verdictOf 51 = .ok (.aload_n 0, 1) := by decide +kernel
theorem dM_verdictOf_52 : decode cM_verdictOf 52 = .ok (.getfield 7, 3) := by decide +kernel
theorem dM_verdictOf_55 : decode cM_verdictOf 55 = .ok (.iload_n 3, 1) := by decide +kernel
theorem dM_verdictOf_56 : decode cM_verdictOf 56 = .ok (.bipush 10, 2) := by decide +kernel
theorem dM_verdictOf_58 : decode cM_verdictOf 58 = .ok (.iadd, 1) := by decide +kernel
theorem dM_verdictOf_59 : decode cM_verdictOf 59 = .ok (.iaload, 1) := by decide +kernel
theorem dM_verdictOf_60 : decode cM_verdictOf 60 = .ok (.iload 4, 2) := by decide +kernel
theorem dM_verdictOf_62 : decode cM_verdictOf 62 = .ok (.if_icmp .ge 7, 3) := by decide +kernel
theorem dM_verdictOf_65 : decode cM_verdictOf 65 = .ok (.iconst 4, 1) := by decide +kernel
theorem dM_verdictOf_66 : decode cM_verdictOf 66 = .ok (.goto 22, 3) := by decide +kernel
theorem dM_verdictOf_69 : decode cM_verdictOf 69 = .ok (.aload_n 0, 1) := by decide +kernel
theorem dM_verdictOf_70 : decode cM_verdictOf 70 = .ok (.getfield 7, 3) := by decide +kernel
theorem dM_verdictOf_73 : decode cM_verdictOf 73 = .ok (.iload_n 3, 1) := by decide +kernel
theorem dM_verdictOf_74 : decode cM_verdictOf 74 = .ok (.bipush 10, 2) := by decide +kernel
theorem dM_verdictOf_76 : decode cM_verdictOf 76 = .ok (.iadd, 1) := by decide +kernel
theorem dM_verdictOf_77 : decode cM_verdictOf 77 = .ok (.iaload, 1) := by decide +kernel
theorem dM_verdictOf_78 : decode cM_verdictOf 78 = .ok (.iload 4, 2) := by decide +kernel
theorem dM_verdictOf_80 : decode cM_verdictOf 80 = .ok (.if_icmp .le 7, 3) := by decide +kernel
theorem dM_verdictOf_83 : decode cM_verdictOf 83 = .ok (.iconst 5, 1) := by decide +kernel
theorem dM_verdictOf_84 : decode cM_verdictOf 84 = .ok (.goto 4, 3) := by decide +kernel
theorem dM_verdictOf_87 : decode cM_verdictOf 87 = .ok (.iconst 0, 1) := by decide +kernel
theorem dM_verdictOf_88 : decode cM_verdictOf 88 = .ok (.ireturn, 1) := by decide +kernel
theorem dM_isWhole_0 : decode cM_isWhole 0 = .ok (.iload_n 1, 1) := by decide +kernel
theorem dM_isWhole_1 : decode cM_isWhole 1 = .ok (.iload_n 2, 1) := by decide +kernel
theorem dM_isWhole_2 : decode cM_isWhole 2 = .ok (.invokestatic 50, 3) := by decide +kernel
theorem dM_isWhole_5 : decode cM_isWhole 5 = .ok (.istore_n 3, 1) := by decide +kernel
theorem dM_isWhole_6 : decode cM_isWhole 6 = .ok (.aload_n 0, 1) := by decide +kernel
theorem dM_isWhole_7 : decode cM_isWhole 7 = .ok (.getfield 7, 3) := by decide +kernel
theorem dM_isWhole_10 : decode cM_isWhole 10 = .ok (.iload_n 3, 1) := by decide +kernel
theorem dM_isWhole_11 : decode cM_isWhole 11 = .ok (.bipush 8, 2) := by decide +kernel
theorem dM_isWhole_13 : decode cM_isWhole 13 = .ok (.iadd, 1) := by decide +kernel
theorem dM_isWhole_14 : decode cM_isWhole 14 = .ok (.iaload, 1) := by decide +kernel
theorem dM_isWhole_15 : decode cM_isWhole 15 = .ok (.aload_n 0, 1) := by decide +kernel
theorem dM_isWhole_16 : decode cM_isWhole 16 = .ok (.iload_n 3, 1) := by decide +kernel
theorem dM_isWhole_17 : decode cM_isWhole 17 = .ok (.invokevirtual 54, 3) := by decide +kernel
theorem dM_isWhole_20 : decode cM_isWhole 20 = .ok (.if_icmp .ne 7, 3) := by decide +kernel
theorem dM_isWhole_23 : decode cM_isWhole 23 = .ok (.iconst 1, 1) := by decide +kernel
theorem dM_isWhole_24 : decode cM_isWhole 24 = .ok (.goto 4, 3) := by decide +kernel
theorem dM_isWhole_27 : decode cM_isWhole 27 = .ok (.iconst 0, 1) := by decide +kernel
theorem dM_isWhole_28 : decode cM_isWhole 28 = .ok (.ireturn, 1) := by decide +kernel
theorem dM_isUnknown_0 : decode cM_isUnknown 0 = .ok (.aload_n 0, 1) := by decide +kernel
theorem dM_isUnknown_1 : decode cM_isUnknown 1 = .ok (.iconst 1, 1) := by decide +kernel
theorem dM_isUnknown_2 : decode cM_isUnknown 2 = .ok (.iload_n 1, 1) := by decide +kernel
theorem dM_isUnknown_3 : decode cM_isUnknown 3 = .ok (.isub, 1) := by decide +kernel
theorem dM_isUnknown_4 : decode cM_isUnknown 4 = .ok (.iload_n 2, 1) := by decide +kernel
theorem dM_isUnknown_5 : decode cM_isUnknown 5 = .ok (.bipush 8, 2) := by decide +kernel
theorem dM_isUnknown_7 : decode cM_isUnknown 7 = .ok (.idiv, 1) := by decide +kernel
theorem dM_isUnknown_8 : decode cM_isUnknown 8 = .ok (.invokevirtual 68, 3) := by decide +kernel
theorem dM_isUnknown_11 : decode cM_isUnknown 11 = .ok (.ifCond .ne 19, 3) := by decide +kernel
theorem dM_isUnknown_14 : decode cM_isUnknown 14 = .ok (.aload_n 0, 1) := by decide +kernel
theorem dM_isUnknown_15 : decode cM_isUnknown 15 = .ok (.iload_n 1, 1) := by decide +kernel
theorem dM_isUnknown_16 : decode cM_isUnknown 16 = .ok (.iload_n 2, 1) := by decide +kernel
theorem dM_isUnknown_17 : decode cM_isUnknown 17 = .ok (.bipush 8, 2) := by decide +kernel
theorem dM_isUnknown_19 : decode cM_isUnknown 19 = .ok (.idiv, 1) := by decide +kernel
theorem dM_isUnknown_20 : decode cM_isUnknown 20 = .ok (.invokevirtual 68, 3) := by decide +kernel
theorem dM_isUnknown_23 : decode cM_isUnknown 23 = .ok (.ifCond .ne 7, 3) := by decide +kernel
theorem dM_isUnknown_26 : decode cM_isUnknown 26 = .ok (.iconst 1, 1) := by decide +kernel
theorem dM_isUnknown_27 : decode cM_isUnknown 27 = .ok (.goto 4, 3) := by decide +kernel
theorem dM_isUnknown_30 : decode cM_isUnknown 30 = .ok (.iconst 0, 1) := by decide +kernel
theorem dM_isUnknown_31 : decode cM_isUnknown 31 = .ok (.ireturn, 1) := by decide +kernel
theorem dM_isRightPage_0 : decode cM_isRightPage 0 = .ok (.iload_n 1, 1) := by decide +kernel
theorem dM_isRightPage_1 : decode cM_isRightPage 1 = .ok (.bipush 64, 2) := by decide +kernel
theorem dM_isRightPage_3 : decode cM_isRightPage 3 = .ok (.iload_n 2, 1) := by decide +kernel
theorem dM_isRightPage_4 : decode cM_isRightPage 4 = .ok (.iadd, 1) := by decide +kernel
theorem dM_isRightPage_5 : decode cM_isRightPage 5 = .ok (.invokestatic 50, 3) := by decide +kernel
theorem dM_isRightPage_8 : decode cM_isRightPage 8 = .ok (.istore_n 3, 1) := by decide +kernel
theorem dM_isRightPage_9 : decode cM_isRightPage 9 = .ok (.aload_n 0, 1) := by decide +kernel
theorem dM_isRightPage_10 : decode cM_isRightPage 10 = .ok (.iload_n 1, 1) := by decide +kernel
theorem dM_isRightPage_11 : decode cM_isRightPage 11 = .ok (.bipush 64, 2) := by decide +kernel
theorem dM_isRightPage_13 : decode cM_isRightPage 13 = .ok (.iload_n 2, 1) := by decide +kernel
theorem dM_isRightPage_14 : decode cM_isRightPage 14 = .ok (.iadd, 1) := by decide +kernel
theorem dM_isRightPage_15 : decode cM_isRightPage 15 = .ok (.invokevirtual 64, 3) := by decide +kernel
theorem dM_isRightPage_18 : decode cM_isRightPage 18 = .ok (.ifCond .eq 46, 3) := by decide +kernel
theorem dM_isRightPage_21 : decode cM_isRightPage 21 = .ok (.aload_n 0, 1) := by decide +kernel
theorem dM_isRightPage_22 : decode cM_isRightPage 22 = .ok (.getfield 7, 3) := by decide +kernel
theorem dM_isRightPage_25 : decode cM_isRightPage 25 = .ok (.iload_n 3, 1) := by decide +kernel
theorem dM_isRightPage_26 : decode cM_isRightPage 26 = .ok (.bipush 9, 2) := by decide +kernel
theorem dM_isRightPage_28 : decode cM_isRightPage 28 = .ok (.iadd, 1) := by decide +kernel
theorem dM_isRightPage_29 : decode cM_isRightPage 29 = .ok (.iaload, 1) := by decide +kernel
theorem dM_isRightPage_30 : decode cM_isRightPage 30 = .ok (.bipush 64, 2) := by decide +kernel
theorem dM_isRightPage_32 : decode cM_isRightPage 32 = .ok (.iload_n 2, 1) := by decide +kernel
theorem dM_isRightPage_33 : decode cM_isRightPage 33 = .ok (.iadd, 1) := by decide +kernel
theorem dM_isRightPage_34 : decode cM_isRightPage 34 = .ok (.if_icmp .ne 30, 3) := by decide +kernel
theorem dM_isRightPage_37 : decode cM_isRightPage 37 = .ok (.aload_n 0, 1) := by decide +kernel
theorem dM_isRightPage_38 : decode cM_isRightPage 38 = .ok (.getfield 7, 3) := by decide +kernel
theorem dM_isRightPage_41 : decode cM_isRightPage 41 = .ok (.iload_n 3, 1) := by decide +kernel
theorem dM_isRightPage_42 : decode cM_isRightPage 42 = .ok (.bipush 10, 2) := by decide +kernel
theorem dM_isRightPage_44 : decode cM_isRightPage 44 = .ok (.iadd, 1) := by decide +kernel
theorem dM_isRightPage_45 : decode cM_isRightPage 45 = .ok (.iaload, 1) := by decide +kernel
theorem dM_isRightPage_46 : decode cM_isRightPage 46 = .ok (.aload_n 0, 1) := by decide +kernel
theorem dM_isRightPage_47 : decode cM_isRightPage 47 = .ok (.getfield 13, 3) := by decide +kernel
theorem dM_isRightPage_50 : decode cM_isRightPage 50 = .ok (.bipush 8, 2) := by decide +kernel
theorem dM_isRightPage_52 : decode cM_isRightPage 52 = .ok (.iload_n 1, 1) := by decide +kernel
theorem dM_isRightPage_53 : decode cM_isRightPage 53 = .ok (.imul, 1) := by decide +kernel
theorem dM_isRightPage_54 : decode cM_isRightPage 54 = .ok (.iload_n 2, 1) := by decide +kernel
theorem dM_isRightPage_55 : decode cM_isRightPage 55 = .ok (.iadd, 1) := by decide +kernel
theorem dM_isRightPage_56 : decode cM_isRightPage 56 = .ok (.iaload, 1) := by decide +kernel
theorem dM_isRightPage_57 : decode cM_isRightPage 57 = .ok (.if_icmp .ne 7, 3) := by decide +kernel
theorem dM_isRightPage_60 : decode cM_isRightPage 60 = .ok (.iconst 1, 1) := by decide +kernel
theorem dM_isRightPage_61 : decode cM_isRightPage 61 = .ok (.goto 4, 3) := by decide +kernel
theorem dM_isRightPage_64 : decode cM_isRightPage 64 = .ok (.iconst 0, 1) := by decide +kernel
theorem dM_isRightPage_65 : decode cM_isRightPage 65 = .ok (.ireturn, 1) := by decide +kernel
theorem dM_expectedOf_0 : decode cM_expectedOf 0 = .ok (.iload_n 2, 1) := by decide +kernel
theorem dM_expectedOf_1 : decode cM_expectedOf 1 = .ok (.bipush 8, 2) := by decide +kernel
theorem dM_expectedOf_3 : decode cM_expectedOf 3 = .ok (.idiv, 1) := by decide +kernel
theorem dM_expectedOf_4 : decode cM_expectedOf 4 = .ok (.istore_n 3, 1) := by decide +kernel
theorem dM_expectedOf_5 : decode cM_expectedOf 5 = .ok (.aload_n 0, 1) := by decide +kernel
theorem dM_expectedOf_6 : decode cM_expectedOf 6 = .ok (.iconst 1, 1) := by decide +kernel
theorem dM_expectedOf_7 : decode cM_expectedOf 7 = .ok (.iload_n 1, 1) := by decide +kernel
theorem dM_expectedOf_8 : decode cM_expectedOf 8 = .ok (.isub, 1) := by decide +kernel
theorem dM_expectedOf_9 : decode cM_expectedOf 9 = .ok (.iload_n 3, 1) := by decide +kernel
theorem dM_expectedOf_10 : decode cM_expectedOf 10 = .ok (.invokevirtual 68, 3) := by decide +kernel
theorem dM_expectedOf_13 : decode cM_expectedOf 13 = .ok (.ifCond .eq 14, 3) := by decide +kernel
theorem dM_expectedOf_16 : decode cM_expectedOf 16 = .ok (.aload_n 0, 1) := by decide +kernel
theorem dM_expectedOf_17 : decode cM_expectedOf 17 = .ok (.iconst 1, 1) := by decide +kernel
theorem dM_expectedOf_18 : decode cM_expectedOf 18 = .ok (.iload_n 1, 1) := by decide +kernel
theorem dM_expectedOf_19 : decode cM_expectedOf 19 = .ok (.isub, 1) := by decide +kernel
theorem dM_expectedOf_20 : decode cM_expectedOf 20 = .ok (.iload_n 2, 1) := by decide +kernel
theorem dM_expectedOf_21 : decode cM_expectedOf 21 = .ok (.invokevirtual 71, 3) := by decide +kernel
theorem dM_expectedOf_24 : decode cM_expectedOf 24 = .ok (.goto 22, 3) := by decide +kernel
theorem dM_expectedOf_27 : decode cM_expectedOf 27 = .ok (.aload_n 0, 1) := by decide +kernel
theorem dM_expectedOf_28 : decode cM_expectedOf 28 = .ok (.iload_n 1, 1) := by decide +kernel
theorem dM_expectedOf_29 : decode cM_expectedOf 29 = .ok (.iload_n 3, 1) := by decide +kernel
theorem dM_expectedOf_30 : decode cM_expectedOf 30 = .ok (.invokevirtual 68, 3) := by decide +kernel
theorem dM_expectedOf_33 : decode cM_expectedOf 33 = .ok (.ifCond .eq 12, 3) := by decide +kernel
theorem dM_expectedOf_36 : decode cM_expectedOf 36 = .ok (.aload_n 0, 1) := by decide +kernel
theorem dM_expectedOf_37 : decode cM_expectedOf 37 = .ok (.iload_n 1, 1) := by decide +kernel
theorem dM_expectedOf_38 : decode cM_expectedOf 38 = .ok (.iload_n 2, 1) := by decide +kernel
theorem dM_expectedOf_39 : decode cM_expectedOf 39 = .ok (.invokevirtual 71, 3) := by decide +kernel
theorem dM_expectedOf_42 : decode cM_expectedOf 42 = .ok (.goto 4, 3) := by decide +kernel
theorem dM_expectedOf_45 : decode cM_expectedOf 45 = .ok (.iconst (-1), 1) := by decide +kernel
theorem dM_expectedOf_46 : decode cM_expectedOf 46 = .ok (.ireturn, 1) := by decide +kernel
theorem dM_listed_0 : decode cM_listed 0 = .ok (.aload_n 0, 1) := by decide +kernel
theorem dM_listed_1 : decode cM_listed 1 = .ok (.getfield 7, 3) := by decide +kernel
theorem dM_listed_4 : decode cM_listed 4 = .ok (.iload_n 1, 1) := by decide +kernel
theorem dM_listed_5 : decode cM_listed 5 = .ok (.bipush 64, 2) := by decide +kernel
theorem dM_listed_7 : decode cM_listed 7 = .ok (.iload_n 2, 1) := by decide +kernel
theorem dM_listed_8 : decode cM_listed 8 = .ok (.bipush 8, 2) := by decide +kernel
theorem dM_listed_10 : decode cM_listed 10 = .ok (.idiv, 1) := by decide +kernel
theorem dM_listed_11 : decode cM_listed 11 = .ok (.iadd, 1) := by decide +kernel
theorem dM_listed_12 : decode cM_listed 12 = .ok (.invokestatic 50, 3) := by decide +kernel
theorem dM_listed_15 : decode cM_listed 15 = .ok (.iload_n 2, 1) := by decide +kernel
theorem dM_listed_16 : decode cM_listed 16 = .ok (.bipush 8, 2) := by decide +kernel
theorem dM_listed_18 : decode cM_listed 18 = .ok (.irem, 1) := by decide +kernel
theorem dM_listed_19 : decode cM_listed 19 = .ok (.iadd, 1) := by decide +kernel
theorem dM_listed_20 : decode cM_listed 20 = .ok (.iaload, 1) := by decide +kernel
theorem dM_listed_21 : decode cM_listed 21 = .ok (.ireturn, 1) := by decide +kernel
theorem dM_takeWords_0 : decode cM_takeWords 0 = .ok (.iconst 0, 1) := by decide +kernel
theorem dM_takeWords_1 : decode cM_takeWords 1 = .ok (.istore_n 3, 1) := by decide +kernel
theorem dM_takeWords_2 : decode cM_takeWords 2 = .ok (.iload_n 3, 1) := by decide +kernel
theorem dM_takeWords_3 : decode cM_takeWords 3 = .ok (.bipush 8, 2) := by decide +kernel
theorem dM_takeWords_5 : decode cM_takeWords 5 = .ok (.if_icmp .ge 27, 3) := by decide +kernel
theorem dM_takeWords_8 : decode cM_takeWords 8 = .ok (.aload_n 0, 1) := by decide +kernel
theorem dM_takeWords_9 : decode cM_takeWords 9 = .ok (.getfield 47, 3) := by decide +kernel
theorem dM_takeWords_12 : decode cM_takeWords 12 = .ok (.iload_n 3, 1) := by decide +kernel
theorem dM_takeWords_13 : decode cM_takeWords 13 = .ok (.aload_n 0, 1) := by decide +kernel
theorem dM_takeWords_14 : decode cM_takeWords 14 = .ok (.getfield 7, 3) := by decide +kernel
theorem dM_takeWords_17 : decode cM_takeWords 17 = .ok (.iload_n 1, 1) := by decide +kernel
theorem dM_takeWords_18 : decode cM_takeWords 18 = .ok (.iload_n 2, 1) := by decide +kernel
theorem dM_takeWords_19 : decode cM_takeWords 19 = .ok (.invokestatic 50, 3) := by decide +kernel
theorem dM_takeWords_22 : decode cM_takeWords 22 = .ok (.iload_n 3, 1) := by decide +kernel
theorem dM_takeWords_23 : decode cM_takeWords 23 = .ok (.iadd, 1) := by decide +kernel
theorem dM_takeWords_24 : decode cM_takeWords 24 = .ok (.iaload, 1) := by decide +kernel
theorem dM_takeWords_25 : decode cM_takeWords 25 = .ok (.iastore, 1) := by decide +kernel
theorem dM_takeWords_26 : decode cM_takeWords 26 = .ok (.iinc 3 1, 3) := by decide +kernel
theorem dM_takeWords_29 : decode cM_takeWords 29 = .ok (.goto (-27), 3) := by decide +kernel
theorem dM_takeWords_32 : decode cM_takeWords 32 = .ok (.return_, 1) := by decide +kernel
theorem dM_put_0 : decode cM_put 0 = .ok (.aload_n 0, 1) := by decide +kernel
theorem dM_put_1 : decode cM_put 1 = .ok (.iload_n 1, 1) := by decide +kernel
theorem dM_put_2 : decode cM_put 2 = .ok (.putfield 16, 3) := by decide +kernel
theorem dM_put_5 : decode cM_put 5 = .ok (.aload_n 0, 1) := by decide +kernel
theorem dM_put_6 : decode cM_put 6 = .ok (.iload_n 2, 1) := by decide +kernel
theorem dM_put_7 : decode cM_put 7 = .ok (.putfield 105, 3) := by decide +kernel
theorem dM_put_10 : decode cM_put 10 = .ok (.iconst 0, 1) := by decide +kernel
theorem dM_put_11 : decode cM_put 11 = .ok (.istore_n 3, 1) := by decide +kernel
theorem dM_put_12 : decode cM_put 12 = .ok (.iload_n 3, 1) := by decide +kernel
theorem dM_put_13 : decode cM_put 13 = .ok (.bipush 8, 2) := by decide +kernel
theorem dM_put_15 : decode cM_put 15 = .ok (.if_icmp .ge 21, 3) := by decide +kernel
theorem dM_put_18 : decode cM_put 18 = .ok (.aload_n 0, 1) := by decide +kernel
theorem dM_put_19 : decode cM_put 19 = .ok (.getfield 20, 3) := by decide +kernel
theorem dM_put_22 : decode cM_put 22 = .ok (.iload_n 3, 1) := by decide +kernel
theorem dM_put_23 : decode cM_put 23 = .ok (.aload_n 0, 1) := by decide +kernel
theorem dM_put_24 : decode cM_put 24 = .ok (.getfield 47, 3) := by decide +kernel
theorem dM_put_27 : decode cM_put 27 = .ok (.iload_n 3, 1) := by decide +kernel
theorem dM_put_28 : decode cM_put 28 = .ok (.iaload, 1) := by decide +kernel
theorem dM_put_29 : decode cM_put 29 = .ok (.iastore, 1) := by decide +kernel
theorem dM_put_30 : decode cM_put 30 = .ok (.iinc 3 1, 3) := by decide +kernel
theorem dM_put_33 : decode cM_put 33 = .ok (.goto (-21), 3) := by decide +kernel
theorem dM_put_36 : decode cM_put 36 = .ok (.aload_n 0, 1) := by decide +kernel
theorem dM_put_37 : decode cM_put 37 = .ok (.iconst 0, 1) := by decide +kernel
theorem dM_put_38 : decode cM_put 38 = .ok (.iload_n 1, 1) := by decide +kernel
theorem dM_put_39 : decode cM_put 39 = .ok (.iload_n 2, 1) := by decide +kernel
theorem dM_put_40 : decode cM_put 40 = .ok (.invokevirtual 108, 3) := by decide +kernel
theorem dM_put_43 : decode cM_put 43 = .ok (.ifCond .eq 13, 3) := by decide +kernel
theorem dM_put_46 : decode cM_put 46 = .ok (.aload_n 0, 1) := by decide +kernel
theorem dM_put_47 : decode cM_put 47 = .ok (.iconst 1, 1) := by decide +kernel
theorem dM_put_48 : decode cM_put 48 = .ok (.iload_n 1, 1) := by decide +kernel
theorem dM_put_49 : decode cM_put 49 = .ok (.iload_n 2, 1) := by decide +kernel
theorem dM_put_50 : decode cM_put 50 = .ok (.invokevirtual 108, 3) := by decide +kernel
theorem dM_put_53 : decode cM_put 53 = .ok (.ifCond .ne 5, 3) := by decide +kernel
theorem dM_put_56 : decode cM_put 56 = .ok (.iconst 0, 1) := by decide +kernel
theorem dM_put_57 : decode cM_put 57 = .ok (.ireturn, 1) := by decide +kernel
theorem dM_put_58 : decode cM_put 58 = .ok (.aload_n 0, 1) := by decide +kernel
theorem dM_put_59 : decode cM_put 59 = .ok (.iconst (-1), 1) := by decide +kernel
theorem dM_put_60 : decode cM_put 60 = .ok (.putfield 16, 3) := by decide +kernel
theorem dM_put_63 : decode cM_put 63 = .ok (.iconst 1, 1) := by decide +kernel
theorem dM_put_64 : decode cM_put 64 = .ok (.ireturn, 1) := by decide +kernel
theorem dM_putCopy_0 : decode cM_putCopy 0 = .ok (.aload_n 0, 1) := by decide +kernel
theorem dM_putCopy_1 : decode cM_putCopy 1 = .ok (.iload_n 1, 1) := by decide +kernel
theorem dM_putCopy_2 : decode cM_putCopy 2 = .ok (.iload_n 2, 1) := by decide +kernel
theorem dM_putCopy_3 : decode cM_putCopy 3 = .ok (.iload_n 3, 1) := by decide +kernel
theorem dM_putCopy_4 : decode cM_putCopy 4 = .ok (.invokevirtual 99, 3) := by decide +kernel
theorem dM_putCopy_7 : decode cM_putCopy 7 = .ok (.ifCond .eq 17, 3) := by decide +kernel
theorem dM_putCopy_10 : decode cM_putCopy 10 = .ok (.aload_n 0, 1) := by decide +kernel
theorem dM_putCopy_11 : decode cM_putCopy 11 = .ok (.iload_n 1, 1) := by decide +kernel
theorem dM_putCopy_12 : decode cM_putCopy 12 = .ok (.iload_n 2, 1) := by decide +kernel
theorem dM_putCopy_13 : decode cM_putCopy 13 = .ok (.iload_n 3, 1) := by decide +kernel
theorem dM_putCopy_14 : decode cM_putCopy 14 = .ok (.invokevirtual 102, 3) := by decide +kernel
theorem dM_putCopy_17 : decode cM_putCopy 17 = .ok (.ifCond .eq 7, 3) := by decide +kernel
theorem dM_putCopy_20 : decode cM_putCopy 20 = .ok (.iconst 1, 1) := by decide +kernel
theorem dM_putCopy_21 : decode cM_putCopy 21 = .ok (.goto 4, 3) := by decide +kernel
theorem dM_putCopy_24 : decode cM_putCopy 24 = .ok (.iconst 0, 1) := by decide +kernel
theorem dM_putCopy_25 : decode cM_putCopy 25 = .ok (.ireturn, 1) := by decide +kernel
theorem dM_storeRow_0 : decode cM_storeRow 0 = .ok (.iconst 0, 1) := by decide +kernel
theorem dM_storeRow_1 : decode cM_storeRow 1 = .ok (.istore 4, 2) := by decide +kernel
theorem dM_storeRow_3 : decode cM_storeRow 3 = .ok (.iload 4, 2) := by decide +kernel
theorem dM_storeRow_5 : decode cM_storeRow 5 = .ok (.bipush 8, 2) := by decide +kernel
theorem dM_storeRow_7 : decode cM_storeRow 7 = .ok (.if_icmp .ge 23, 3) := by decide +kernel
theorem dM_storeRow_10 : decode cM_storeRow 10 = .ok (.aload_n 0, 1) := by decide +kernel
theorem dM_storeRow_11 : decode cM_storeRow 11 = .ok (.getfield 44, 3) := by decide +kernel
theorem dM_storeRow_14 : decode cM_storeRow 14 = .ok (.iload 4, 2) := by decide +kernel
theorem dM_storeRow_16 : decode cM_storeRow 16 = .ok (.aload_n 0, 1) := by decide +kernel
theorem dM_storeRow_17 : decode cM_storeRow 17 = .ok (.getfield 47, 3) := by decide +kernel
theorem dM_storeRow_20 : decode cM_storeRow 20 = .ok (.iload 4, 2) := by decide +kernel
theorem dM_storeRow_22 : decode cM_storeRow 22 = .ok (.iaload, 1) := by decide +kernel
theorem dM_storeRow_23 : decode cM_storeRow 23 = .ok (.iastore, 1) := by decide +kernel
theorem dM_storeRow_24 : decode cM_storeRow 24 = .ok (.iinc 4 1, 3) := by decide +kernel
theorem dM_storeRow_27 : decode cM_storeRow 27 = .ok (.goto (-24), 3) := by decide +kernel
theorem dM_storeRow_30 : decode cM_storeRow 30 = .ok (.aload_n 0, 1) := by decide +kernel
theorem dM_storeRow_31 : decode cM_storeRow 31 = .ok (.iload_n 1, 1) := by decide +kernel
theorem dM_storeRow_32 : decode cM_storeRow 32 = .ok (.iload_n 2, 1) := by decide +kernel
theorem dM_storeRow_33 : decode cM_storeRow 33 = .ok (.iload_n 3, 1) := by decide +kernel
theorem dM_storeRow_34 : decode cM_storeRow 34 = .ok (.invokevirtual 95, 3) := by decide +kernel
theorem dM_storeRow_37 : decode cM_storeRow 37 = .ok (.ireturn, 1) := by decide +kernel
theorem dM_store_0 : decode cM_store 0 = .ok (.aload_n 0, 1) := by decide +kernel
theorem dM_store_1 : decode cM_store 1 = .ok (.getfield 23, 3) := by decide +kernel
theorem dM_store_4 : decode cM_store 4 = .ok (.ifCond .ne 10, 3) := by decide +kernel
theorem dM_store_7 : decode cM_store 7 = .ok (.aload_n 0, 1) := by decide +kernel
theorem dM_store_8 : decode cM_store 8 = .ok (.iconst 1, 1) := by decide +kernel
theorem dM_store_9 : decode cM_store 9 = .ok (.putfield 80, 3) := by decide +kernel
theorem dM_store_12 : decode cM_store 12 = .ok (.iconst 0, 1) := by decide +kernel
theorem dM_store_13 : decode cM_store 13 = .ok (.ireturn, 1) := by decide +kernel
theorem dM_store_14 : decode cM_store 14 = .ok (.aload_n 0, 1) := by decide +kernel
theorem dM_store_15 : decode cM_store 15 = .ok (.aload_n 0, 1) := by decide +kernel
theorem dM_store_16 : decode cM_store 16 = .ok (.getfield 23, 3) := by decide +kernel
theorem dM_store_19 : decode cM_store 19 = .ok (.ifCond .le 12, 3) := by decide +kernel
theorem dM_store_22 : decode cM_store 22 = .ok (.aload_n 0, 1) := by decide +kernel
theorem dM_store_23 : decode cM_store 23 = .ok (.getfield 23, 3) := by decide +kernel
theorem dM_store_26 : decode cM_store 26 = .ok (.iconst 1, 1) := by decide +kernel
theorem dM_store_27 : decode cM_store 27 = .ok (.isub, 1) := by decide +kernel
theorem dM_store_28 : decode cM_store 28 = .ok (.goto 7, 3) := by decide +kernel
theorem dM_store_31 : decode cM_store 31 = .ok (.aload_n 0, 1) := by decide +kernel
theorem dM_store_32 : decode cM_store 32 = .ok (.getfield 23, 3) := by decide +kernel
theorem dM_store_35 : decode cM_store 35 = .ok (.putfield 23, 3) := by decide +kernel
theorem dM_store_38 : decode cM_store 38 = .ok (.aload_n 0, 1) := by decide +kernel
theorem dM_store_39 : decode cM_store 39 = .ok (.getfield 44, 3) := by decide +kernel
theorem dM_store_42 : decode cM_store 42 = .ok (.bipush 9, 2) := by decide +kernel
theorem dM_store_44 : decode cM_store 44 = .ok (.iload_n 2, 1) := by decide +kernel
theorem dM_store_45 : decode cM_store 45 = .ok (.iastore, 1) := by decide +kernel
theorem dM_store_46 : decode cM_store 46 = .ok (.aload_n 0, 1) := by decide +kernel
theorem dM_store_47 : decode cM_store 47 = .ok (.getfield 44, 3) := by decide +kernel
theorem dM_store_50 : decode cM_store 50 = .ok (.bipush 10, 2) := by decide +kernel
theorem dM_store_52 : decode cM_store 52 = .ok (.iload_n 3, 1) := by decide +kernel
theorem dM_store_53 : decode cM_store 53 = .ok (.iastore, 1) := by decide +kernel
theorem dM_store_54 : decode cM_store 54 = .ok (.iconst 0, 1) := by decide +kernel
theorem dM_store_55 : decode cM_store 55 = .ok (.istore 4, 2) := by decide +kernel
theorem dM_store_57 : decode cM_store 57 = .ok (.iconst 0, 1) := by decide +kernel
theorem dM_store_58 : decode cM_store 58 = .ok (.istore 5, 2) := by decide +kernel
theorem dM_store_60 : decode cM_store 60 = .ok (.iload 5, 2) := by decide +kernel
theorem dM_store_62 : decode cM_store 62 = .ok (.bipush 8, 2) := by decide +kernel
theorem dM_store_64 : decode cM_store 64 = .ok (.if_icmp .ge 23, 3) := by decide +kernel
theorem dM_store_67 : decode cM_store 67 = .ok (.iload 4, 2) := by decide +kernel
theorem dM_store_69 : decode cM_store 69 = .ok (.aload_n 0, 1) := by decide +kernel
theorem dM_store_70 : decode cM_store 70 = .ok (.getfield 44, 3) := by decide +kernel
theorem dM_store_73 : decode cM_store 73 = .ok (.iload 5, 2) := by decide +kernel
theorem dM_store_75 : decode cM_store 75 = .ok (.iaload, 1) := by decide +kernel
theorem dM_store_76 : decode cM_store 76 = .ok (.invokestatic 61, 3) := by decide +kernel
theorem dM_store_79 : decode cM_store 79 = .ok (.istore 4, 2) := by decide +kernel
theorem dM_store_81 : decode cM_store 81 = .ok (.iinc 5 1, 3) := by decide +kernel
theorem dM_store_84 : decode cM_store 84 = .ok (.goto (-24), 3) := by decide +kernel
theorem dM_store_87 : decode cM_store 87 = .ok (.aload_n 0, 1) := by decide +kernel
theorem dM_store_88 : decode cM_store 88 = .ok (.getfield 44, 3) := by decide +kernel
theorem dM_store_91 : decode cM_store 91 = .ok (.bipush 8, 2) := by decide +kernel
theorem dM_store_93 : decode cM_store 93 = .ok (.iload 4, 2) := by decide +kernel
theorem dM_store_95 : decode cM_store 95 = .ok (.iload_n 2, 1) := by decide +kernel
theorem dM_store_96 : decode cM_store 96 = .ok (.invokestatic 61, 3) := by decide +kernel
theorem dM_store_99 : decode cM_store 99 = .ok (.iload_n 3, 1) := by decide +kernel
theorem dM_store_100 : decode cM_store 100 = .ok (.invokestatic 61, 3) := by decide +kernel
theorem dM_store_103 : decode cM_store 103 = .ok (.iastore, 1) := by decide +kernel
theorem dM_store_104 : decode cM_store 104 = .ok (.aload_n 0, 1) := by decide +kernel
theorem dM_store_105 : decode cM_store 105 = .ok (.getfield 26, 3) := by decide +kernel
theorem dM_store_108 : decode cM_store 108 = .ok (.iload_n 1, 1) := by decide +kernel
theorem dM_store_109 : decode cM_store 109 = .ok (.dup2, 1) := by decide +kernel
theorem dM_store_110 : decode cM_store 110 = .ok (.iaload, 1) := by decide +kernel
theorem dM_store_111 : decode cM_store 111 = .ok (.iconst 1, 1) := by decide +kernel
theorem dM_store_112 : decode cM_store 112 = .ok (.iadd, 1) := by decide +kernel
theorem dM_store_113 : decode cM_store 113 = .ok (.iastore, 1) := by decide +kernel
theorem dM_store_114 : decode cM_store 114 = .ok (.aload_n 0, 1) := by decide +kernel
theorem dM_store_115 : decode cM_store 115 = .ok (.iload_n 1, 1) := by decide +kernel
theorem dM_store_116 : decode cM_store 116 = .ok (.invokevirtual 84, 3) := by decide +kernel
theorem dM_store_119 : decode cM_store 119 = .ok (.istore 5, 2) := by decide +kernel
theorem dM_store_121 : decode cM_store 121 = .ok (.iload 5, 2) := by decide +kernel
theorem dM_store_123 : decode cM_store 123 = .ok (.iconst (-1), 1) := by decide +kernel
theorem dM_store_124 : decode cM_store 124 = .ok (.if_icmp .ne 13, 3) := by decide +kernel
theorem dM_store_127 : decode cM_store 127 = .ok (.aload_n 0, 1) := by decide +kernel
theorem dM_store_128 : decode cM_store 128 = .ok (.iload_n 1, 1) := by decide +kernel
theorem dM_store_129 : decode cM_store 129 = .ok (.iload_n 2, 1) := by decide +kernel
theorem dM_store_130 : decode cM_store 130 = .ok (.bipush 11, 2) := by decide +kernel
theorem dM_store_132 : decode cM_store 132 = .ok (.invokevirtual 87, 3) := by decide +kernel
theorem dM_store_135 : decode cM_store 135 = .ok (.iconst 1, 1) := by decide +kernel
theorem dM_store_136 : decode cM_store 136 = .ok (.ireturn, 1) := by decide +kernel
theorem dM_store_137 : decode cM_store 137 = .ok (.aload_n 0, 1) := by decide +kernel
theorem dM_store_138 : decode cM_store 138 = .ok (.getfield 35, 3) := by decide +kernel
theorem dM_store_141 : decode cM_store 141 = .ok (.bipush 8, 2) := by decide +kernel
theorem dM_store_143 : decode cM_store 143 = .ok (.iload_n 1, 1) := by decide +kernel
theorem dM_store_144 : decode cM_store 144 = .ok (.imul, 1) := by decide +kernel
theorem dM_store_145 : decode cM_store 145 = .ok (.iload 5, 2) := by decide +kernel
theorem dM_store_147 : decode cM_store 147 = .ok (.iadd, 1) := by decide +kernel
theorem dM_store_148 : decode cM_store 148 = .ok (.iaload, 1) := by decide +kernel
theorem dM_store_149 : decode cM_store 149 = .ok (.istore 6, 2) := by decide +kernel
theorem dM_store_151 : decode cM_store 151 = .ok (.aload_n 0, 1) := by decide +kernel
theorem dM_store_152 : decode cM_store 152 = .ok (.getfield 38, 3) := by decide +kernel
theorem dM_store_155 : decode cM_store 155 = .ok (.bipush 8, 2) := by decide +kernel
theorem dM_store_157 : decode cM_store 157 = .ok (.iload_n 1, 1) := by decide +kernel
theorem dM_store_158 : decode cM_store 158 = .ok (.imul, 1) := by decide +kernel
theorem dM_store_159 : decode cM_store 159 = .ok (.iload 5, 2) := by decide +kernel
theorem dM_store_161 : decode cM_store 161 = .ok (.iadd, 1) := by decide +kernel
theorem dM_store_162 : decode cM_store 162 = .ok (.iaload, 1) := by decide +kernel
theorem dM_store_163 : decode cM_store 163 = .ok (.istore 7, 2) := by decide +kernel
theorem dM_store_165 : decode cM_store 165 = .ok (.aload_n 0, 1) := by decide +kernel
theorem dM_store_166 : decode cM_store 166 = .ok (.iload_n 1, 1) := by decide +kernel
theorem dM_store_167 : decode cM_store 167 = .ok (.iload 5, 2) := by decide +kernel
theorem dM_store_169 : decode cM_store 169 = .ok (.invokevirtual 91, 3) := by decide +kernel
theorem dM_store_172 : decode cM_store 172 = .ok (.iload 6, 2) := by decide +kernel
theorem dM_store_174 : decode cM_store 174 = .ok (.iconst 1, 1) := by decide +kernel
theorem dM_store_175 : decode cM_store 175 = .ok (.if_icmp .ne 15, 3) := by decide +kernel
theorem dM_store_178 : decode cM_store 178 = .ok (.aload_n 0, 1) := by decide +kernel
theorem dM_store_179 : decode cM_store 179 = .ok (.iload_n 1, 1) := by decide +kernel
theorem dM_store_180 : decode cM_store 180 = .ok (.iload 7, 2) := by decide +kernel
theorem dM_store_182 : decode cM_store 182 = .ok (.bipush 11, 2) := by decide +kernel
theorem dM_store_184 : decode cM_store 184 = .ok (.invokevirtual 87, 3) := by decide +kernel
theorem dM_store_187 : decode cM_store 187 = .ok (.goto 17, 3) := by decide +kernel
theorem dM_store_190 : decode cM_store 190 = .ok (.iload 6, 2) := by decide +kernel
theorem dM_store_192 : decode cM_store 192 = .ok (.iconst 2, 1) := by decide +kernel
theorem dM_store_193 : decode cM_store 193 = .ok (.if_icmp .ne 11, 3) := by decide +kernel
theorem dM_store_196 : decode cM_store 196 = .ok (.aload_n 0, 1) := by decide +kernel
theorem dM_store_197 : decode cM_store 197 = .ok (.iload_n 1, 1) := by decide +kernel
theorem dM_store_198 : decode cM_store 198 = .ok (.iload_n 2, 1) := by decide +kernel
theorem dM_store_199 : decode cM_store 199 = .ok (.iload 7, 2) := by decide +kernel
theorem dM_store_201 : decode cM_store 201 = .ok (.invokevirtual 87, 3) := by decide +kernel
theorem dM_store_204 : decode cM_store 204 = .ok (.iconst 1, 1) := by decide +kernel
theorem dM_store_205 : decode cM_store 205 = .ok (.ireturn, 1) := by decide +kernel
theorem dM_planOf_0 : decode cM_planOf 0 = .ok (.iconst (-1), 1) := by decide +kernel
theorem dM_planOf_1 : decode cM_planOf 1 = .ok (.istore_n 2, 1) := by decide +kernel
theorem dM_planOf_2 : decode cM_planOf 2 = .ok (.iconst 0, 1) := by decide +kernel
theorem dM_planOf_3 : decode cM_planOf 3 = .ok (.istore_n 3, 1) := by decide +kernel
theorem dM_planOf_4 : decode cM_planOf 4 = .ok (.iload_n 3, 1) := by decide +kernel
theorem dM_planOf_5 : decode cM_planOf 5 = .ok (.aload_n 0, 1) := by decide +kernel
theorem dM_planOf_6 : decode cM_planOf 6 = .ok (.getfield 29, 3) := by decide +kernel
theorem dM_planOf_9 : decode cM_planOf 9 = .ok (.iload_n 1, 1) := by decide +kernel
theorem dM_planOf_10 : decode cM_planOf 10 = .ok (.iaload, 1) := by decide +kernel
theorem dM_planOf_11 : decode cM_planOf 11 = .ok (.if_icmp .ge 35, 3) := by decide +kernel
theorem dM_planOf_14 : decode cM_planOf 14 = .ok (.aload_n 0, 1) := by decide +kernel
theorem dM_planOf_15 : decode cM_planOf 15 = .ok (.getfield 32, 3) := by decide +kernel
theorem dM_planOf_18 : decode cM_planOf 18 = .ok (.bipush 8, 2) := by decide +kernel
theorem dM_planOf_20 : decode cM_planOf 20 = .ok (.iload_n 1, 1) := by decide +kernel
theorem dM_planOf_21 : decode cM_planOf 21 = .ok (.imul, 1) := by decide +kernel
theorem dM_planOf_22 : decode cM_planOf 22 = .ok (.iload_n 3, 1) := by decide +kernel
theorem dM_planOf_23 : decode cM_planOf 23 = .ok (.iadd, 1) := by decide +kernel
theorem dM_planOf_24 : decode cM_planOf 24 = .ok (.iaload, 1) := by decide +kernel
theorem dM_planOf_25 : decode cM_planOf 25 = .ok (.aload_n 0, 1) := by decide +kernel
theorem dM_planOf_26 : decode cM_planOf 26 = .ok (.getfield 26, 3) := by decide +kernel
theorem dM_planOf_29 : decode cM_planOf 29 = .ok (.iload_n 1, 1) := by decide +kernel
theorem dM_planOf_30 : decode cM_planOf 30 = .ok (.iaload, 1) := by decide +kernel
theorem dM_planOf_31 : decode cM_planOf 31 = .ok (.if_icmp .ne 7, 3) := by decide +kernel
theorem dM_planOf_34 : decode cM_planOf 34 = .ok (.iload_n 3, 1) := by decide +kernel
theorem dM_planOf_35 : decode cM_planOf 35 = .ok (.goto 4, 3) := by decide +kernel
theorem dM_planOf_38 : decode cM_planOf 38 = .ok (.iload_n 2, 1) := by decide +kernel
theorem dM_planOf_39 : decode cM_planOf 39 = .ok (.istore_n 2, 1) := by decide +kernel
theorem dM_planOf_40 : decode cM_planOf 40 = .ok (.iinc 3 1, 3) := by decide +kernel
theorem dM_planOf_43 : decode cM_planOf 43 = .ok (.goto (-39), 3) := by decide +kernel
theorem dM_planOf_46 : decode cM_planOf 46 = .ok (.iload_n 2, 1) := by decide +kernel
theorem dM_planOf_47 : decode cM_planOf 47 = .ok (.ireturn, 1) := by decide +kernel
theorem dM_lay_0 : decode cM_lay 0 = .ok (.iconst 0, 1) := by decide +kernel
theorem dM_lay_1 : decode cM_lay 1 = .ok (.istore 4, 2) := by decide +kernel
theorem dM_lay_3 : decode cM_lay 3 = .ok (.iload 4, 2) := by decide +kernel
theorem dM_lay_5 : decode cM_lay 5 = .ok (.iload_n 3, 1) := by decide +kernel
theorem dM_lay_6 : decode cM_lay 6 = .ok (.if_icmp .ge 29, 3) := by decide +kernel
theorem dM_lay_9 : decode cM_lay 9 = .ok (.aload_n 0, 1) := by decide +kernel
theorem dM_lay_10 : decode cM_lay 10 = .ok (.getfield 7, 3) := by decide +kernel
theorem dM_lay_13 : decode cM_lay 13 = .ok (.iload_n 1, 1) := by decide +kernel
theorem dM_lay_14 : decode cM_lay 14 = .ok (.iload_n 2, 1) := by decide +kernel
theorem dM_lay_15 : decode cM_lay 15 = .ok (.invokestatic 50, 3) := by decide +kernel
theorem dM_lay_18 : decode cM_lay 18 = .ok (.iload 4, 2) := by decide +kernel
theorem dM_lay_20 : decode cM_lay 20 = .ok (.iadd, 1) := by decide +kernel
theorem dM_lay_21 : decode cM_lay 21 = .ok (.aload_n 0, 1) := by decide +kernel
theorem dM_lay_22 : decode cM_lay 22 = .ok (.getfield 44, 3) := by decide +kernel
theorem dM_lay_25 : decode cM_lay 25 = .ok (.iload 4, 2) := by decide +kernel
theorem dM_lay_27 : decode cM_lay 27 = .ok (.iaload, 1) := by decide +kernel
theorem dM_lay_28 : decode cM_lay 28 = .ok (.iastore, 1) := by decide +kernel
theorem dM_lay_29 : decode cM_lay 29 = .ok (.iinc 4 1, 3) := by decide +kernel
theorem dM_lay_32 : decode cM_lay 32 = .ok (.goto (-29), 3) := by decide +kernel
theorem dM_lay_35 : decode cM_lay 35 = .ok (.return_, 1) := by decide +kernel
theorem dM_dropPlan_0 : decode cM_dropPlan 0 = .ok (.aload_n 0, 1) := by decide +kernel
theorem dM_dropPlan_1 : decode cM_dropPlan 1 = .ok (.getfield 29, 3) := by decide +kernel
theorem dM_dropPlan_4 : decode cM_dropPlan 4 = .ok (.iload_n 1, 1) := by decide +kernel
theorem dM_dropPlan_5 : decode cM_dropPlan 5 = .ok (.dup2, 1) := by decide +kernel
theorem dM_dropPlan_6 : decode cM_dropPlan 6 = .ok (.iaload, 1) := by decide +kernel
theorem dM_dropPlan_7 : decode cM_dropPlan 7 = .ok (.iconst 1, 1) := by decide +kernel
theorem dM_dropPlan_8 : decode cM_dropPlan 8 = .ok (.isub, 1) := by decide +kernel
theorem dM_dropPlan_9 : decode cM_dropPlan 9 = .ok (.iastore, 1) := by decide +kernel
theorem dM_dropPlan_10 : decode cM_dropPlan 10 = .ok (.bipush 8, 2) := by decide +kernel
theorem dM_dropPlan_12 : decode cM_dropPlan 12 = .ok (.iload_n 1, 1) := by decide +kernel
theorem dM_dropPlan_13 : decode cM_dropPlan 13 = .ok (.imul, 1) := by decide +kernel
theorem dM_dropPlan_14 : decode cM_dropPlan 14 = .ok (.iload_n 2, 1) := by decide +kernel
theorem dM_dropPlan_15 : decode cM_dropPlan 15 = .ok (.iadd, 1) := by decide +kernel
theorem dM_dropPlan_16 : decode cM_dropPlan 16 = .ok (.istore_n 3, 1) := by decide +kernel
theorem dM_dropPlan_17 : decode cM_dropPlan 17 = .ok (.iload_n 3, 1) := by decide +kernel
theorem dM_dropPlan_18 : decode cM_dropPlan 18 = .ok (.bipush 8, 2) := by decide +kernel
theorem dM_dropPlan_20 : decode cM_dropPlan 20 = .ok (.iload_n 1, 1) := by decide +kernel
theorem dM_dropPlan_21 : decode cM_dropPlan 21 = .ok (.imul, 1) := by decide +kernel
theorem dM_dropPlan_22 : decode cM_dropPlan 22 = .ok (.aload_n 0, 1) := by decide +kernel
theorem dM_dropPlan_23 : decode cM_dropPlan 23 = .ok (.getfield 29, 3) := by decide +kernel
theorem dM_dropPlan_26 : decode cM_dropPlan 26 = .ok (.iload_n 1, 1) := by decide +kernel
theorem dM_dropPlan_27 : decode cM_dropPlan 27 = .ok (.iaload, 1) := by decide +kernel
theorem dM_dropPlan_28 : decode cM_dropPlan 28 = .ok (.iadd, 1) := by decide +kernel
theorem dM_dropPlan_29 : decode cM_dropPlan 29 = .ok (.if_icmp .ge 51, 3) := by decide +kernel
theorem dM_dropPlan_32 : decode cM_dropPlan 32 = .ok (.aload_n 0, 1) := by decide +kernel
theorem dM_dropPlan_33 : decode cM_dropPlan 33 = .ok (.getfield 32, 3) := by decide +kernel
theorem dM_dropPlan_36 : decode cM_dropPlan 36 = .ok (.iload_n 3, 1) := by decide +kernel
theorem dM_dropPlan_37 : decode cM_dropPlan 37 = .ok (.aload_n 0, 1) := by decide +kernel
theorem dM_dropPlan_38 : decode cM_dropPlan 38 = .ok (.getfield 32, 3) := by decide +kernel
theorem dM_dropPlan_41 : decode cM_dropPlan 41 = .ok (.iload_n 3, 1) := by decide +kernel
theorem dM_dropPlan_42 : decode cM_dropPlan 42 = .ok (.iconst 1, 1) := by decide +kernel
theorem dM_dropPlan_43 : decode cM_dropPlan 43 = .ok (.iadd, 1) := by decide +kernel
theorem dM_dropPlan_44 : decode cM_dropPlan 44 = .ok (.iaload, 1) := by decide +kernel
theorem dM_dropPlan_45 : decode cM_dropPlan 45 = .ok (.iastore, 1) := by decide +kernel
theorem dM_dropPlan_46 : decode cM_dropPlan 46 = .ok (.aload_n 0, 1) := by decide +kernel
theorem dM_dropPlan_47 : decode cM_dropPlan 47 = .ok (.getfield 35, 3) := by decide +kernel
theorem dM_dropPlan_50 : decode cM_dropPlan 50 = .ok (.iload_n 3, 1) := by decide +kernel
theorem dM_dropPlan_51 : decode cM_dropPlan 51 = .ok (.aload_n 0, 1) := by decide +kernel
theorem dM_dropPlan_52 : decode cM_dropPlan 52 = .ok (.getfield 35, 3) := by decide +kernel
theorem dM_dropPlan_55 : decode cM_dropPlan 55 = .ok (.iload_n 3, 1) := by decide +kernel
theorem dM_dropPlan_56 : decode cM_dropPlan 56 = .ok (.iconst 1, 1) := by decide +kernel
theorem dM_dropPlan_57 : decode cM_dropPlan 57 = .ok (.iadd, 1) := by decide +kernel
theorem dM_dropPlan_58 : decode cM_dropPlan 58 = .ok (.iaload, 1) := by decide +kernel
theorem dM_dropPlan_59 : decode cM_dropPlan 59 = .ok (.iastore, 1) := by decide +kernel
theorem dM_dropPlan_60 : decode cM_dropPlan 60 = .ok (.aload_n 0, 1) := by decide +kernel
theorem dM_dropPlan_61 : decode cM_dropPlan 61 = .ok (.getfield 38, 3) := by decide +kernel
theorem dM_dropPlan_64 : decode cM_dropPlan 64 = .ok (.iload_n 3, 1) := by decide +kernel
theorem dM_dropPlan_65 : decode cM_dropPlan 65 = .ok (.aload_n 0, 1) := by decide +kernel
theorem dM_dropPlan_66 : decode cM_dropPlan 66 = .ok (.getfield 38, 3) := by decide +kernel
theorem dM_dropPlan_69 : decode cM_dropPlan 69 = .ok (.iload_n 3, 1) := by decide +kernel
theorem dM_dropPlan_70 : decode cM_dropPlan 70 = .ok (.iconst 1, 1) := by decide +kernel
theorem dM_dropPlan_71 : decode cM_dropPlan 71 = .ok (.iadd, 1) := by decide +kernel
theorem dM_dropPlan_72 : decode cM_dropPlan 72 = .ok (.iaload, 1) := by decide +kernel
theorem dM_dropPlan_73 : decode cM_dropPlan 73 = .ok (.iastore, 1) := by decide +kernel
theorem dM_dropPlan_74 : decode cM_dropPlan 74 = .ok (.iinc 3 1, 3) := by decide +kernel
theorem dM_dropPlan_77 : decode cM_dropPlan 77 = .ok (.goto (-60), 3) := by decide +kernel
theorem dM_dropPlan_80 : decode cM_dropPlan 80 = .ok (.return_, 1) := by decide +kernel
end
section
/-! decode rows (written by names.py) -/
theorem dM_storeList_0 : decode cM_storeList 0 = .ok (.iload_n 2, 1) := by decide +kernel
theorem dM_storeList_1 : decode cM_storeList 1 = .ok (.bipush 8, 2) := by decide +kernel
theorem dM_storeList_3 : decode cM_storeList 3 = .ok (.idiv, 1) := by decide +kernel
theorem dM_storeList_4 : decode cM_storeList 4 = .ok (.istore 4, 2) := by decide +kernel
theorem dM_storeList_6 : decode cM_storeList 6 = .ok (.iconst 1, 1) := by decide +kernel
theorem dM_storeList_7 : decode cM_storeList 7 = .ok (.iload_n 1, 1) := by decide +kernel
theorem dM_storeList_8 : decode cM_storeList 8 = .ok (.isub, 1) := by decide +kernel
theorem dM_storeList_9 : decode cM_storeList 9 = .ok (.istore 5, 2) := by decide +kernel
theorem dM_storeList_11 : decode cM_storeList 11 = .ok (.aload_n 0, 1) := by decide +kernel
theorem dM_storeList_12 : decode cM_storeList 12 = .ok (.iload 5, 2) := by decide +kernel
theorem dM_storeList_14 : decode cM_storeList 14 = .ok (.iload 4, 2) := by decide +kernel
theorem dM_storeList_16 : decode cM_storeList 16 = .ok (.invokevirtual 68, 3) := by decide +kernel
theorem dM_storeList_19 : decode cM_storeList 19 = .ok (.istore 6, 2) := by decide +kernel
theorem dM_storeList_21 : decode cM_storeList 21 = .ok (.aload_n 0, 1) := by decide +kernel
theorem dM_storeList_22 : decode cM_storeList 22 = .ok (.iload_n 1, 1) := by decide +kernel
theorem dM_storeList_23 : decode cM_storeList 23 = .ok (.iload 4, 2) := by decide +kernel
theorem dM_storeList_25 : decode cM_storeList 25 = .ok (.invokevirtual 68, 3) := by decide +kernel
theorem dM_storeList_28 : decode cM_storeList 28 = .ok (.istore 7, 2) := by decide +kernel
theorem dM_storeList_30 : decode cM_storeList 30 = .ok (.iconst 0, 1) := by decide +kernel
theorem dM_storeList_31 : decode cM_storeList 31 = .ok (.istore 8, 2) := by decide +kernel
theorem dM_storeList_33 : decode cM_storeList 33 = .ok (.iload 8, 2) := by decide +kernel
theorem dM_storeList_35 : decode cM_storeList 35 = .ok (.bipush 8, 2) := by decide +kernel
theorem dM_storeList_37 : decode cM_storeList 37 = .ok (.if_icmp .ge 68, 3) := by decide +kernel
theorem dM_storeList_40 : decode cM_storeList 40 = .ok (.aload_n 0, 1) := by decide +kernel
theorem dM_storeList_41 : decode cM_storeList 41 = .ok (.getfield 44, 3) := by decide +kernel
theorem dM_storeList_44 : decode cM_storeList 44 = .ok (.iload 8, 2) := by decide +kernel
theorem dM_storeList_46 : decode cM_storeList 46 = .ok (.iload 6, 2) := by decide +kernel
theorem dM_storeList_48 : decode cM_storeList 48 = .ok (.ifCond .eq 24, 3) := by decide +kernel
theorem dM_storeList_51 : decode cM_storeList 51 = .ok (.aload_n 0, 1) := by decide +kernel
theorem dM_storeList_52 : decode cM_storeList 52 = .ok (.getfield 7, 3) := by decide +kernel
theorem dM_storeList_55 : decode cM_storeList 55 = .ok (.iload 5, 2) := by decide +kernel
theorem dM_storeList_57 : decode cM_storeList 57 = .ok (.bipush 64, 2) := by decide +kernel
theorem dM_storeList_59 : decode cM_storeList 59 = .ok (.iload 4, 2) := by decide +kernel
theorem dM_storeList_61 : decode cM_storeList 61 = .ok (.iadd, 1) := by decide +kernel
theorem dM_storeList_62 : decode cM_storeList 62 = .ok (.invokestatic 50, 3) := by decide +kernel
theorem dM_storeList_65 : decode cM_storeList 65 = .ok (.iload 8, 2) := by decide +kernel
theorem dM_storeList_67 : decode cM_storeList 67 = .ok (.iadd, 1) := by decide +kernel
theorem dM_storeList_68 : decode cM_storeList 68 = .ok (.iaload, 1) := by decide +kernel
theorem dM_storeList_69 : decode cM_storeList 69 = .ok (.goto 29, 3) := by decide +kernel
theorem dM_storeList_72 : decode cM_storeList 72 = .ok (.iload 7, 2) := by decide +kernel
theorem dM_storeList_74 : decode cM_storeList 74 = .ok (.ifCond .eq 23, 3) := by decide +kernel
theorem dM_storeList_77 : decode cM_storeList 77 = .ok (.aload_n 0, 1) := by decide +kernel
theorem dM_storeList_78 : decode cM_storeList 78 = .ok (.getfield 7, 3) := by decide +kernel
theorem dM_storeList_81 : decode cM_storeList 81 = .ok (.iload_n 1, 1) := by decide +kernel
theorem dM_storeList_82 : decode cM_storeList 82 = .ok (.bipush 64, 2) := by decide +kernel
theorem dM_storeList_84 : decode cM_storeList 84 = .ok (.iload 4, 2) := by decide +kernel
theorem dM_storeList_86 : decode cM_storeList 86 = .ok (.iadd, 1) := by decide +kernel
theorem dM_storeList_87 : decode cM_storeList 87 = .ok (.invokestatic 50, 3) := by decide +kernel
theorem dM_storeList_90 : decode cM_storeList 90 = .ok (.iload 8, 2) := by decide +kernel
theorem dM_storeList_92 : decode cM_storeList 92 = .ok (.iadd, 1) := by decide +kernel
theorem dM_storeList_93 : decode cM_storeList 93 = .ok (.iaload, 1) := by decide +kernel
theorem dM_storeList_94 : decode cM_storeList 94 = .ok (.goto 4, 3) := by decide +kernel
theorem dM_storeList_97 : decode cM_storeList 97 = .ok (.iconst 0, 1) := by decide +kernel
theorem dM_storeList_98 : decode cM_storeList 98 = .ok (.iastore, 1) := by decide +kernel
theorem dM_storeList_99 : decode cM_storeList 99 = .ok (.iinc 8 1, 3) := by decide +kernel
theorem dM_storeList_102 : decode cM_storeList 102 = .ok (.goto (-69), 3) := by decide +kernel
theorem dM_storeList_105 : decode cM_storeList 105 = .ok (.aload_n 0, 1) := by decide +kernel
theorem dM_storeList_106 : decode cM_storeList 106 = .ok (.getfield 44, 3) := by decide +kernel
theorem dM_storeList_109 : decode cM_storeList 109 = .ok (.iload_n 2, 1) := by decide +kernel
theorem dM_storeList_110 : decode cM_storeList 110 = .ok (.bipush 8, 2) := by decide +kernel
theorem dM_storeList_112 : decode cM_storeList 112 = .ok (.irem, 1) := by decide +kernel
theorem dM_storeList_113 : decode cM_storeList 113 = .ok (.iload_n 3, 1) := by decide +kernel
theorem dM_storeList_114 : decode cM_storeList 114 = .ok (.iastore, 1) := by decide +kernel
theorem dM_storeList_115 : decode cM_storeList 115 = .ok (.aload_n 0, 1) := by decide +kernel
theorem dM_storeList_116 : decode cM_storeList 116 = .ok (.getfield 13, 3) := by decide +kernel
theorem dM_storeList_119 : decode cM_storeList 119 = .ok (.bipush 8, 2) := by decide +kernel
theorem dM_storeList_121 : decode cM_storeList 121 = .ok (.iload 5, 2) := by decide +kernel
theorem dM_storeList_123 : decode cM_storeList 123 = .ok (.imul, 1) := by decide +kernel
theorem dM_storeList_124 : decode cM_storeList 124 = .ok (.iload 4, 2) := by decide +kernel
theorem dM_storeList_126 : decode cM_storeList 126 = .ok (.iadd, 1) := by decide +kernel
theorem dM_storeList_127 : decode cM_storeList 127 = .ok (.iaload, 1) := by decide +kernel
theorem dM_storeList_128 : decode cM_storeList 128 = .ok (.iconst 1, 1) := by decide +kernel
theorem dM_storeList_129 : decode cM_storeList 129 = .ok (.iadd, 1) := by decide +kernel
theorem dM_storeList_130 : decode cM_storeList 130 = .ok (.istore 8, 2) := by decide +kernel
theorem dM_storeList_132 : decode cM_storeList 132 = .ok (.aload_n 0, 1) := by decide +kernel
theorem dM_storeList_133 : decode cM_storeList 133 = .ok (.iload 5, 2) := by decide +kernel
theorem dM_storeList_135 : decode cM_storeList 135 = .ok (.bipush 64, 2) := by decide +kernel
theorem dM_storeList_137 : decode cM_storeList 137 = .ok (.iload 4, 2) := by decide +kernel
theorem dM_storeList_139 : decode cM_storeList 139 = .ok (.iadd, 1) := by decide +kernel
theorem dM_storeList_140 : decode cM_storeList 140 = .ok (.iload 8, 2) := by decide +kernel
theorem dM_storeList_142 : decode cM_storeList 142 = .ok (.invokevirtual 95, 3) := by decide +kernel
theorem dM_storeList_145 : decode cM_storeList 145 = .ok (.ifCond .ne 5, 3) := by decide +kernel
theorem dM_storeList_148 : decode cM_storeList 148 = .ok (.iconst 0, 1) := by decide +kernel
theorem dM_storeList_149 : decode cM_storeList 149 = .ok (.ireturn, 1) := by decide +kernel
theorem dM_storeList_150 : decode cM_storeList 150 = .ok (.aload_n 0, 1) := by decide +kernel
theorem dM_storeList_151 : decode cM_storeList 151 = .ok (.getfield 13, 3) := by decide +kernel
theorem dM_storeList_154 : decode cM_storeList 154 = .ok (.bipush 8, 2) := by decide +kernel
theorem dM_storeList_156 : decode cM_storeList 156 = .ok (.iload 5, 2) := by decide +kernel
theorem dM_storeList_158 : decode cM_storeList 158 = .ok (.imul, 1) := by decide +kernel
theorem dM_storeList_159 : decode cM_storeList 159 = .ok (.iload 4, 2) := by decide +kernel
theorem dM_storeList_161 : decode cM_storeList 161 = .ok (.iadd, 1) := by decide +kernel
theorem dM_storeList_162 : decode cM_storeList 162 = .ok (.iload 8, 2) := by decide +kernel
theorem dM_storeList_164 : decode cM_storeList 164 = .ok (.iastore, 1) := by decide +kernel
theorem dM_storeList_165 : decode cM_storeList 165 = .ok (.iconst 1, 1) := by decide +kernel
theorem dM_storeList_166 : decode cM_storeList 166 = .ok (.ireturn, 1) := by decide +kernel
theorem dM_read_0 : decode cM_read 0 = .ok (.aload_n 0, 1) := by decide +kernel
theorem dM_read_1 : decode cM_read 1 = .ok (.iload_n 1, 1) := by decide +kernel
theorem dM_read_2 : decode cM_read 2 = .ok (.bipush 64, 2) := by decide +kernel
theorem dM_read_4 : decode cM_read 4 = .ok (.invokestatic 114, 3) := by decide +kernel
theorem dM_read_7 : decode cM_read 7 = .ok (.ifCond .eq 12, 3) := by decide +kernel
theorem dM_read_10 : decode cM_read 10 = .ok (.iload_n 2, 1) := by decide +kernel
theorem dM_read_11 : decode cM_read 11 = .ok (.bipush 8, 2) := by decide +kernel
theorem dM_read_13 : decode cM_read 13 = .ok (.invokestatic 114, 3) := by decide +kernel
theorem dM_read_16 : decode cM_read 16 = .ok (.ifCond .ne 7, 3) := by decide +kernel
theorem dM_read_19 : decode cM_read 19 = .ok (.iconst 1, 1) := by decide +kernel
theorem dM_read_20 : decode cM_read 20 = .ok (.goto 15, 3) := by decide +kernel
theorem dM_read_23 : decode cM_read 23 = .ok (.aload_n 0, 1) := by decide +kernel
theorem dM_read_24 : decode cM_read 24 = .ok (.getfield 80, 3) := by decide +kernel
theorem dM_read_27 : decode cM_read 27 = .ok (.ifCond .eq 7, 3) := by decide +kernel
theorem dM_read_30 : decode cM_read 30 = .ok (.iconst 2, 1) := by decide +kernel
theorem dM_read_31 : decode cM_read 31 = .ok (.goto 4, 3) := by decide +kernel
theorem dM_read_34 : decode cM_read 34 = .ok (.iconst 0, 1) := by decide +kernel
theorem dM_read_35 : decode cM_read 35 = .ok (.putfield 58, 3) := by decide +kernel
theorem dM_read_38 : decode cM_read 38 = .ok (.aload_n 0, 1) := by decide +kernel
theorem dM_read_39 : decode cM_read 39 = .ok (.getfield 58, 3) := by decide +kernel
theorem dM_read_42 : decode cM_read 42 = .ok (.ifCond .le 5, 3) := by decide +kernel
theorem dM_read_45 : decode cM_read 45 = .ok (.iconst 0, 1) := by decide +kernel
theorem dM_read_46 : decode cM_read 46 = .ok (.ireturn, 1) := by decide +kernel
theorem dM_read_47 : decode cM_read 47 = .ok (.aload_n 0, 1) := by decide +kernel
theorem dM_read_48 : decode cM_read 48 = .ok (.aload_n 0, 1) := by decide +kernel
theorem dM_read_49 : decode cM_read 49 = .ok (.iload_n 1, 1) := by decide +kernel
theorem dM_read_50 : decode cM_read 50 = .ok (.invokevirtual 117, 3) := by decide +kernel
theorem dM_read_53 : decode cM_read 53 = .ok (.putfield 120, 3) := by decide +kernel
theorem dM_read_56 : decode cM_read 56 = .ok (.aload_n 0, 1) := by decide +kernel
theorem dM_read_57 : decode cM_read 57 = .ok (.getfield 120, 3) := by decide +kernel
theorem dM_read_60 : decode cM_read 60 = .ok (.iconst 2, 1) := by decide +kernel
theorem dM_read_61 : decode cM_read 61 = .ok (.if_icmp .ne 7, 3) := by decide +kernel
theorem dM_read_64 : decode cM_read 64 = .ok (.iconst 0, 1) := by decide +kernel
theorem dM_read_65 : decode cM_read 65 = .ok (.goto 18, 3) := by decide +kernel
theorem dM_read_68 : decode cM_read 68 = .ok (.aload_n 0, 1) := by decide +kernel
theorem dM_read_69 : decode cM_read 69 = .ok (.getfield 7, 3) := by decide +kernel
theorem dM_read_72 : decode cM_read 72 = .ok (.aload_n 0, 1) := by decide +kernel
theorem dM_read_73 : decode cM_read 73 = .ok (.getfield 120, 3) := by decide +kernel
theorem dM_read_76 : decode cM_read 76 = .ok (.iload_n 1, 1) := by decide +kernel
theorem dM_read_77 : decode cM_read 77 = .ok (.invokestatic 50, 3) := by decide +kernel
theorem dM_read_80 : decode cM_read 80 = .ok (.iload_n 2, 1) := by decide +kernel
theorem dM_read_81 : decode cM_read 81 = .ok (.iadd, 1) := by decide +kernel
theorem dM_read_82 : decode cM_read 82 = .ok (.iaload, 1) := by decide +kernel
theorem dM_read_83 : decode cM_read 83 = .ok (.ireturn, 1) := by decide +kernel
theorem dM_code_0 : decode cM_code 0 = .ok (.aload_n 0, 1) := by decide +kernel
theorem dM_code_1 : decode cM_code 1 = .ok (.iconst 0, 1) := by decide +kernel
theorem dM_code_2 : decode cM_code 2 = .ok (.putfield 58, 3) := by decide +kernel
theorem dM_code_5 : decode cM_code 5 = .ok (.aload_n 0, 1) := by decide +kernel
theorem dM_code_6 : decode cM_code 6 = .ok (.getfield 120, 3) := by decide +kernel
theorem dM_code_9 : decode cM_code 9 = .ok (.ireturn, 1) := by decide +kernel
theorem dM_plan_0 : decode cM_plan 0 = .ok (.iload_n 2, 1) := by decide +kernel
theorem dM_plan_1 : decode cM_plan 1 = .ok (.iconst 1, 1) := by decide +kernel
theorem dM_plan_2 : decode cM_plan 2 = .ok (.if_icmp .lt 54, 3) := by decide +kernel
theorem dM_plan_5 : decode cM_plan 5 = .ok (.iload_n 2, 1) := by decide +kernel
theorem dM_plan_6 : decode cM_plan 6 = .ok (.bipush 50, 2) := by decide +kernel
theorem dM_plan_8 : decode cM_plan 8 = .ok (.if_icmp .gt 48, 3) := by decide +kernel
theorem dM_plan_11 : decode cM_plan 11 = .ok (.iload_n 3, 1) := by decide +kernel
theorem dM_plan_12 : decode cM_plan 12 = .ok (.iconst 3, 1) := by decide +kernel
theorem dM_plan_13 : decode cM_plan 13 = .ok (.invokestatic 114, 3) := by decide +kernel
theorem dM_plan_16 : decode cM_plan 16 = .ok (.ifCond .eq 40, 3) := by decide +kernel
theorem dM_plan_19 : decode cM_plan 19 = .ok (.iload_n 3, 1) := by decide +kernel
theorem dM_plan_20 : decode cM_plan 20 = .ok (.iconst 1, 1) := by decide +kernel
theorem dM_plan_21 : decode cM_plan 21 = .ok (.if_icmp .ne 13, 3) := by decide +kernel
theorem dM_plan_24 : decode cM_plan 24 = .ok (.iload 4, 2) := by decide +kernel
theorem dM_plan_26 : decode cM_plan 26 = .ok (.bipush 72, 2) := by decide +kernel
theorem dM_plan_28 : decode cM_plan 28 = .ok (.invokestatic 114, 3) := by decide +kernel
theorem dM_plan_31 : decode cM_plan 31 = .ok (.ifCond .eq 25, 3) := by decide +kernel
theorem dM_plan_34 : decode cM_plan 34 = .ok (.iload_n 3, 1) := by decide +kernel
theorem dM_plan_35 : decode cM_plan 35 = .ok (.iconst 2, 1) := by decide +kernel
theorem dM_plan_36 : decode cM_plan 36 = .ok (.if_icmp .ne 16, 3) := by decide +kernel
theorem dM_plan_39 : decode cM_plan 39 = .ok (.iload 4, 2) := by decide +kernel
theorem dM_plan_41 : decode cM_plan 41 = .ok (.iconst 1, 1) := by decide +kernel
theorem dM_plan_42 : decode cM_plan 42 = .ok (.if_icmp .lt 14, 3) := by decide +kernel
theorem dM_plan_45 : decode cM_plan 45 = .ok (.iload 4, 2) := by decide +kernel
theorem dM_plan_47 : decode cM_plan 47 = .ok (.bipush 10, 2) := by decide +kernel
theorem dM_plan_49 : decode cM_plan 49 = .ok (.if_icmp .gt 7, 3) := by decide +kernel
theorem dM_plan_52 : decode cM_plan 52 = .ok (.iconst 1, 1) := by decide +kernel
theorem dM_plan_53 : decode cM_plan 53 = .ok (.goto 4, 3) := by decide +kernel
theorem dM_plan_56 : decode cM_plan 56 = .ok (.iconst 0, 1) := by decide +kernel
theorem dM_plan_57 : decode cM_plan 57 = .ok (.istore 5, 2) := by decide +kernel
theorem dM_plan_59 : decode cM_plan 59 = .ok (.iconst 0, 1) := by decide +kernel
theorem dM_plan_60 : decode cM_plan 60 = .ok (.istore 6, 2) := by decide +kernel
theorem dM_plan_62 : decode cM_plan 62 = .ok (.iload_n 1, 1) := by decide +kernel
theorem dM_plan_63 : decode cM_plan 63 = .ok (.iconst 2, 1) := by decide +kernel
theorem dM_plan_64 : decode cM_plan 64 = .ok (.invokestatic 114, 3) := by decide +kernel
theorem dM_plan_67 : decode cM_plan 67 = .ok (.ifCond .eq 55, 3) := by decide +kernel
theorem dM_plan_70 : decode cM_plan 70 = .ok (.iload 6, 2) := by decide +kernel
theorem dM_plan_72 : decode cM_plan 72 = .ok (.aload_n 0, 1) := by decide +kernel
theorem dM_plan_73 : decode cM_plan 73 = .ok (.getfield 29, 3) := by decide +kernel
theorem dM_plan_76 : decode cM_plan 76 = .ok (.iload_n 1, 1) := by decide +kernel
theorem dM_plan_77 : decode cM_plan 77 = .ok (.iaload, 1) := by decide +kernel
theorem dM_plan_78 : decode cM_plan 78 = .ok (.if_icmp .ge 44, 3) := by decide +kernel
theorem dM_plan_81 : decode cM_plan 81 = .ok (.iload 5, 2) := by decide +kernel
theorem dM_plan_83 : decode cM_plan 83 = .ok (.ifCond .eq 30, 3) := by decide +kernel
theorem dM_plan_86 : decode cM_plan 86 = .ok (.aload_n 0, 1) := by decide +kernel
theorem dM_plan_87 : decode cM_plan 87 = .ok (.getfield 32, 3) := by decide +kernel
theorem dM_plan_90 : decode cM_plan 90 = .ok (.bipush 8, 2) := by decide +kernel
theorem dM_plan_92 : decode cM_plan 92 = .ok (.iload_n 1, 1) := by decide +kernel
theorem dM_plan_93 : decode cM_plan 93 = .ok (.imul, 1) := by decide +kernel
theorem dM_plan_94 : decode cM_plan 94 = .ok (.iload 6, 2) := by decide +kernel
theorem dM_plan_96 : decode cM_plan 96 = .ok (.iadd, 1) := by decide +kernel
theorem dM_plan_97 : decode cM_plan 97 = .ok (.iaload, 1) := by decide +kernel
theorem dM_plan_98 : decode cM_plan 98 = .ok (.aload_n 0, 1) := by decide +kernel
theorem dM_plan_99 : decode cM_plan 99 = .ok (.getfield 26, 3) := by decide +kernel
theorem dM_plan_102 : decode cM_plan 102 = .ok (.iload_n 1, 1) := by decide +kernel
theorem dM_plan_103 : decode cM_plan 103 = .ok (.iaload, 1) := by decide +kernel
theorem dM_plan_104 : decode cM_plan 104 = .ok (.iload_n 2, 1) := by decide +kernel
theorem dM_plan_105 : decode cM_plan 105 = .ok (.iadd, 1) := by decide +kernel
theorem dM_plan_106 : decode cM_plan 106 = .ok (.if_icmp .eq 7, 3) := by decide +kernel
theorem dM_plan_109 : decode cM_plan 109 = .ok (.iconst 1, 1) := by decide +kernel
theorem dM_plan_110 : decode cM_plan 110 = .ok (.goto 4, 3) := by decide +kernel
theorem dM_plan_113 : decode cM_plan 113 = .ok (.iconst 0, 1) := by decide +kernel
theorem dM_plan_114 : decode cM_plan 114 = .ok (.istore 5, 2) := by decide +kernel
theorem dM_plan_116 : decode cM_plan 116 = .ok (.iinc 6 1, 3) := by decide +kernel
theorem dM_plan_119 : decode cM_plan 119 = .ok (.goto (-57), 3) := by decide +kernel
theorem dM_plan_122 : decode cM_plan 122 = .ok (.aload_n 0, 1) := by decide +kernel
theorem dM_plan_123 : decode cM_plan 123 = .ok (.iload_n 1, 1) := by decide +kernel
theorem dM_plan_124 : decode cM_plan 124 = .ok (.iconst 2, 1) := by decide +kernel
theorem dM_plan_125 : decode cM_plan 125 = .ok (.invokestatic 114, 3) := by decide +kernel
theorem dM_plan_128 : decode cM_plan 128 = .ok (.ifCond .ne 7, 3) := by decide +kernel
theorem dM_plan_131 : decode cM_plan 131 = .ok (.iconst 1, 1) := by decide +kernel
theorem dM_plan_132 : decode cM_plan 132 = .ok (.goto 28, 3) := by decide +kernel
theorem dM_plan_135 : decode cM_plan 135 = .ok (.iload 5, 2) := by decide +kernel
theorem dM_plan_137 : decode cM_plan 137 = .ok (.ifCond .ne 7, 3) := by decide +kernel
theorem dM_plan_140 : decode cM_plan 140 = .ok (.iconst 2, 1) := by decide +kernel
theorem dM_plan_141 : decode cM_plan 141 = .ok (.goto 19, 3) := by decide +kernel
theorem dM_plan_144 : decode cM_plan 144 = .ok (.aload_n 0, 1) := by decide +kernel
theorem dM_plan_145 : decode cM_plan 145 = .ok (.getfield 29, 3) := by decide +kernel
theorem dM_plan_148 : decode cM_plan 148 = .ok (.iload_n 1, 1) := by decide +kernel
theorem dM_plan_149 : decode cM_plan 149 = .ok (.iaload, 1) := by decide +kernel
theorem dM_plan_150 : decode cM_plan 150 = .ok (.bipush 8, 2) := by decide +kernel
theorem dM_plan_152 : decode cM_plan 152 = .ok (.if_icmp .ne 7, 3) := by decide +kernel
theorem dM_plan_155 : decode cM_plan 155 = .ok (.iconst 3, 1) := by decide +kernel
theorem dM_plan_156 : decode cM_plan 156 = .ok (.goto 4, 3) := by decide +kernel
theorem dM_plan_159 : decode cM_plan 159 = .ok (.iconst 0, 1) := by decide +kernel
theorem dM_plan_160 : decode cM_plan 160 = .ok (.putfield 58, 3) := by decide +kernel
theorem dM_plan_163 : decode cM_plan 163 = .ok (.aload_n 0, 1) := by decide +kernel
theorem dM_plan_164 : decode cM_plan 164 = .ok (.getfield 58, 3) := by decide +kernel
theorem dM_plan_167 : decode cM_plan 167 = .ok (.ifCond .le 4, 3) := by decide +kernel
theorem dM_plan_170 : decode cM_plan 170 = .ok (.return_, 1) := by decide +kernel
theorem dM_plan_171 : decode cM_plan 171 = .ok (.bipush 8, 2) := by decide +kernel
theorem dM_plan_173 : decode cM_plan 173 = .ok (.iload_n 1, 1) := by decide +kernel
theorem dM_plan_174 : decode cM_plan 174 = .ok (.imul, 1) := by decide +kernel
theorem dM_plan_175 : decode cM_plan 175 = .ok (.aload_n 0, 1) := by decide +kernel
theorem dM_plan_176 : decode cM_plan 176 = .ok (.getfield 29, 3) := by decide +kernel
theorem dM_plan_179 : decode cM_plan 179 = .ok (.iload_n 1, 1) := by decide +kernel
theorem dM_plan_180 : decode cM_plan 180 = .ok (.iaload, 1) := by decide +kernel
theorem dM_plan_181 : decode cM_plan 181 = .ok (.iadd, 1) := by decide +kernel
theorem dM_plan_182 : decode cM_plan 182 = .ok (.istore 6, 2) := by decide +kernel
theorem dM_plan_184 : decode cM_plan 184 = .ok (.aload_n 0, 1) := by decide +kernel
theorem dM_plan_185 : decode cM_plan 185 = .ok (.getfield 32, 3) := by decide +kernel
theorem dM_plan_188 : decode cM_plan 188 = .ok (.iload 6, 2) := by decide +kernel
theorem dM_plan_190 : decode cM_plan 190 = .ok (.aload_n 0, 1) := by decide +kernel
theorem dM_plan_191 : decode cM_plan 191 = .ok (.getfield 26, 3) := by decide +kernel
theorem dM_plan_194 : decode cM_plan 194 = .ok (.iload_n 1, 1) := by decide +kernel
theorem dM_plan_195 : decode cM_plan 195 = .ok (.iaload, 1) := by decide +kernel
theorem dM_plan_196 : decode cM_plan 196 = .ok (.iload_n 2, 1) := by decide +kernel
theorem dM_plan_197 : decode cM_plan 197 = .ok (.iadd, 1) := by decide +kernel
theorem dM_plan_198 : decode cM_plan 198 = .ok (.iastore, 1) := by decide +kernel
theorem dM_plan_199 : decode cM_plan 199 = .ok (.aload_n 0, 1) := by decide +kernel
theorem dM_plan_200 : decode cM_plan 200 = .ok (.getfield 35, 3) := by decide +kernel
theorem dM_plan_203 : decode cM_plan 203 = .ok (.iload 6, 2) := by decide +kernel
theorem dM_plan_205 : decode cM_plan 205 = .ok (.iload_n 3, 1) := by decide +kernel
theorem dM_plan_206 : decode cM_plan 206 = .ok (.iastore, 1) := by decide +kernel
theorem dM_plan_207 : decode cM_plan 207 = .ok (.aload_n 0, 1) := by decide +kernel
theorem dM_plan_208 : decode cM_plan 208 = .ok (.getfield 38, 3) := by decide +kernel
theorem dM_plan_211 : decode cM_plan 211 = .ok (.iload 6, 2) := by decide +kernel
theorem dM_plan_213 : decode cM_plan 213 = .ok (.iload 4, 2) := by decide +kernel
theorem dM_plan_215 : decode cM_plan 215 = .ok (.iastore, 1) := by decide +kernel
theorem dM_plan_216 : decode cM_plan 216 = .ok (.aload_n 0, 1) := by decide +kernel
theorem dM_plan_217 : decode cM_plan 217 = .ok (.getfield 29, 3) := by decide +kernel
theorem dM_plan_220 : decode cM_plan 220 = .ok (.iload_n 1, 1) := by decide +kernel
theorem dM_plan_221 : decode cM_plan 221 = .ok (.dup2, 1) := by decide +kernel
theorem dM_plan_222 : decode cM_plan 222 = .ok (.iaload, 1) := by decide +kernel
theorem dM_plan_223 : decode cM_plan 223 = .ok (.iconst 1, 1) := by decide +kernel
theorem dM_plan_224 : decode cM_plan 224 = .ok (.iadd, 1) := by decide +kernel
theorem dM_plan_225 : decode cM_plan 225 = .ok (.iastore, 1) := by decide +kernel
theorem dM_plan_226 : decode cM_plan 226 = .ok (.return_, 1) := by decide +kernel
theorem dM_cutAfter_0 : decode cM_cutAfter 0 = .ok (.aload_n 0, 1) := by decide +kernel
theorem dM_cutAfter_1 : decode cM_cutAfter 1 = .ok (.iload_n 1, 1) := by decide +kernel
theorem dM_cutAfter_2 : decode cM_cutAfter 2 = .ok (.iconst (-1), 1) := by decide +kernel
theorem dM_cutAfter_3 : decode cM_cutAfter 3 = .ok (.if_icmp .lt 9, 3) := by decide +kernel
theorem dM_cutAfter_6 : decode cM_cutAfter 6 = .ok (.iload_n 1, 1) := by decide +kernel
theorem dM_cutAfter_7 : decode cM_cutAfter 7 = .ok (.bipush 100, 2) := by decide +kernel
theorem dM_cutAfter_9 : decode cM_cutAfter 9 = .ok (.if_icmp .le 7, 3) := by decide +kernel
theorem dM_cutAfter_12 : decode cM_cutAfter 12 = .ok (.iconst 1, 1) := by decide +kernel
theorem dM_cutAfter_13 : decode cM_cutAfter 13 = .ok (.goto 15, 3) := by decide +kernel
theorem dM_cutAfter_16 : decode cM_cutAfter 16 = .ok (.aload_n 0, 1) := by decide +kernel
theorem dM_cutAfter_17 : decode cM_cutAfter 17 = .ok (.getfield 80, 3) := by decide +kernel
theorem dM_cutAfter_20 : decode cM_cutAfter 20 = .ok (.ifCond .eq 7, 3) := by decide +kernel
theorem dM_cutAfter_23 : decode cM_cutAfter 23 = .ok (.iconst 2, 1) := by decide +kernel
theorem dM_cutAfter_24 : decode cM_cutAfter 24 = .ok (.goto 4, 3) := by decide +kernel
theorem dM_cutAfter_27 : decode cM_cutAfter 27 = .ok (.iconst 0, 1) := by decide +kernel
theorem dM_cutAfter_28 : decode cM_cutAfter 28 = .ok (.putfield 58, 3) := by decide +kernel
theorem dM_cutAfter_31 : decode cM_cutAfter 31 = .ok (.aload_n 0, 1) := by decide +kernel
theorem dM_cutAfter_32 : decode cM_cutAfter 32 = .ok (.aload_n 0, 1) := by decide +kernel
theorem dM_cutAfter_33 : decode cM_cutAfter 33 = .ok (.getfield 58, 3) := by decide +kernel
theorem dM_cutAfter_36 : decode cM_cutAfter 36 = .ok (.ifCond .le 10, 3) := by decide +kernel
theorem dM_cutAfter_39 : decode cM_cutAfter 39 = .ok (.aload_n 0, 1) := by decide +kernel
theorem dM_cutAfter_40 : decode cM_cutAfter 40 = .ok (.getfield 23, 3) := by decide +kernel
theorem dM_cutAfter_43 : decode cM_cutAfter 43 = .ok (.goto 4, 3) := by decide +kernel
theorem dM_cutAfter_46 : decode cM_cutAfter 46 = .ok (.iload_n 1, 1) := by decide +kernel
theorem dM_cutAfter_47 : decode cM_cutAfter 47 = .ok (.putfield 23, 3) := by decide +kernel
theorem dM_cutAfter_50 : decode cM_cutAfter 50 = .ok (.return_, 1) := by decide +kernel
theorem dM_start_0 : decode cM_start 0 = .ok (.aload_n 0, 1) := by decide +kernel
theorem dM_start_1 : decode cM_start 1 = .ok (.aload_n 0, 1) := by decide +kernel
theorem dM_start_2 : decode cM_start 2 = .ok (.getfield 80, 3) := by decide +kernel
theorem dM_start_5 : decode cM_start 5 = .ok (.ifCond .eq 7, 3) := by decide +kernel
theorem dM_start_8 : decode cM_start 8 = .ok (.iconst 0, 1) := by decide +kernel
theorem dM_start_9 : decode cM_start 9 = .ok (.goto 4, 3) := by decide +kernel
theorem dM_start_12 : decode cM_start 12 = .ok (.iconst 1, 1) := by decide +kernel
theorem dM_start_13 : decode cM_start 13 = .ok (.putfield 58, 3) := by decide +kernel
theorem dM_start_16 : decode cM_start 16 = .ok (.aload_n 0, 1) := by decide +kernel
theorem dM_start_17 : decode cM_start 17 = .ok (.getfield 58, 3) := by decide +kernel
theorem dM_start_20 : decode cM_start 20 = .ok (.ifCond .le 5, 3) := by decide +kernel
theorem dM_start_23 : decode cM_start 23 = .ok (.iconst 0, 1) := by decide +kernel
theorem dM_start_24 : decode cM_start 24 = .ok (.ireturn, 1) := by decide +kernel
theorem dM_start_25 : decode cM_start 25 = .ok (.aload_n 0, 1) := by decide +kernel
theorem dM_start_26 : decode cM_start 26 = .ok (.iconst 0, 1) := by decide +kernel
theorem dM_start_27 : decode cM_start 27 = .ok (.putfield 80, 3) := by decide +kernel
theorem dM_start_30 : decode cM_start 30 = .ok (.aload_n 0, 1) := by decide +kernel
theorem dM_start_31 : decode cM_start 31 = .ok (.iconst (-1), 1) := by decide +kernel
theorem dM_start_32 : decode cM_start 32 = .ok (.putfield 23, 3) := by decide +kernel
theorem dM_start_35 : decode cM_start 35 = .ok (.aload_n 0, 1) := by decide +kernel
theorem dM_start_36 : decode cM_start 36 = .ok (.getfield 26, 3) := by decide +kernel
theorem dM_start_39 : decode cM_start 39 = .ok (.iconst 0, 1) := by decide +kernel
theorem dM_start_40 : decode cM_start 40 = .ok (.iaload, 1) := by decide +kernel
theorem dM_start_41 : decode cM_start 41 = .ok (.aload_n 0, 1) := by decide +kernel
theorem dM_start_42 : decode cM_start 42 = .ok (.getfield 26, 3) := by decide +kernel
theorem dM_start_45 : decode cM_start 45 = .ok (.iconst 1, 1) := by decide +kernel
theorem dM_start_46 : decode cM_start 46 = .ok (.iaload, 1) := by decide +kernel
theorem dM_start_47 : decode cM_start 47 = .ok (.iadd, 1) := by decide +kernel
theorem dM_start_48 : decode cM_start 48 = .ok (.istore_n 1, 1) := by decide +kernel
theorem dM_start_49 : decode cM_start 49 = .ok (.aload_n 0, 1) := by decide +kernel
theorem dM_start_50 : decode cM_start 50 = .ok (.getfield 16, 3) := by decide +kernel
theorem dM_start_53 : decode cM_start 53 = .ok (.iconst (-1), 1) := by decide +kernel
theorem dM_start_54 : decode cM_start 54 = .ok (.if_icmp .eq 42, 3) := by decide +kernel
theorem dM_start_57 : decode cM_start 57 = .ok (.iconst 0, 1) := by decide +kernel
theorem dM_start_58 : decode cM_start 58 = .ok (.istore_n 2, 1) := by decide +kernel
theorem dM_start_59 : decode cM_start 59 = .ok (.iload_n 2, 1) := by decide +kernel
theorem dM_start_60 : decode cM_start 60 = .ok (.bipush 8, 2) := by decide +kernel
theorem dM_start_62 : decode cM_start 62 = .ok (.if_icmp .ge 21, 3) := by decide +kernel
theorem dM_start_65 : decode cM_start 65 = .ok (.aload_n 0, 1) := by decide +kernel
theorem dM_start_66 : decode cM_start 66 = .ok (.getfield 47, 3) := by decide +kernel
theorem dM_start_69 : decode cM_start 69 = .ok (.iload_n 2, 1) := by decide +kernel
theorem dM_start_70 : decode cM_start 70 = .ok (.aload_n 0, 1) := by decide +kernel
theorem dM_start_71 : decode cM_start 71 = .ok (.getfield 20, 3) := by decide +kernel
theorem dM_start_74 : decode cM_start 74 = .ok (.iload_n 2, 1) := by decide +kernel
theorem dM_start_75 : decode cM_start 75 = .ok (.iaload, 1) := by decide +kernel
theorem dM_start_76 : decode cM_start 76 = .ok (.iastore, 1) := by decide +kernel
theorem dM_start_77 : decode cM_start 77 = .ok (.iinc 2 1, 3) := by decide +kernel
theorem dM_start_80 : decode cM_start 80 = .ok (.goto (-21), 3) := by decide +kernel
theorem dM_start_83 : decode cM_start 83 = .ok (.aload_n 0, 1) := by decide +kernel
theorem dM_start_84 : decode cM_start 84 = .ok (.aload_n 0, 1) := by decide +kernel
theorem dM_start_85 : decode cM_start 85 = .ok (.getfield 16, 3) := by decide +kernel
theorem dM_start_88 : decode cM_start 88 = .ok (.aload_n 0, 1) := by decide +kernel
theorem dM_start_89 : decode cM_start 89 = .ok (.getfield 105, 3) := by decide +kernel
theorem dM_start_92 : decode cM_start 92 = .ok (.invokevirtual 126, 3) := by decide +kernel
theorem dM_start_95 : decode cM_start 95 = .ok (.istore_n 2, 1) := by decide +kernel
theorem dM_start_96 : decode cM_start 96 = .ok (.aload_n 0, 1) := by decide +kernel
theorem dM_start_97 : decode cM_start 97 = .ok (.getfield 26, 3) := by decide +kernel
theorem dM_start_100 : decode cM_start 100 = .ok (.iconst 0, 1) := by decide +kernel
theorem dM_start_101 : decode cM_start 101 = .ok (.iaload, 1) := by decide +kernel
theorem dM_start_102 : decode cM_start 102 = .ok (.aload_n 0, 1) := by decide +kernel
theorem dM_start_103 : decode cM_start 103 = .ok (.getfield 26, 3) := by decide +kernel
theorem dM_start_106 : decode cM_start 106 = .ok (.iconst 1, 1) := by decide +kernel
theorem dM_start_107 : decode cM_start 107 = .ok (.iaload, 1) := by decide +kernel
theorem dM_start_108 : decode cM_start 108 = .ok (.iadd, 1) := by decide +kernel
theorem dM_start_109 : decode cM_start 109 = .ok (.iload_n 1, 1) := by decide +kernel
theorem dM_start_110 : decode cM_start 110 = .ok (.isub, 1) := by decide +kernel
theorem dM_start_111 : decode cM_start 111 = .ok (.ireturn, 1) := by decide +kernel
theorem dM_scrub_0 : decode cM_scrub 0 = .ok (.aload_n 0, 1) := by decide +kernel
theorem dM_scrub_1 : decode cM_scrub 1 = .ok (.aload_n 0, 1) := by decide +kernel
theorem dM_scrub_2 : decode cM_scrub 2 = .ok (.getfield 80, 3) := by decide +kernel
theorem dM_scrub_5 : decode cM_scrub 5 = .ok (.ifCond .eq 7, 3) := by decide +kernel
theorem dM_scrub_8 : decode cM_scrub 8 = .ok (.iconst 1, 1) := by decide +kernel
theorem dM_scrub_9 : decode cM_scrub 9 = .ok (.goto 18, 3) := by decide +kernel
theorem dM_scrub_12 : decode cM_scrub 12 = .ok (.iload_n 1, 1) := by decide +kernel
theorem dM_scrub_13 : decode cM_scrub 13 = .ok (.ifCond .lt 9, 3) := by decide +kernel
theorem dM_scrub_16 : decode cM_scrub 16 = .ok (.iload_n 1, 1) := by decide +kernel
theorem dM_scrub_17 : decode cM_scrub 17 = .ok (.bipush 64, 2) := by decide +kernel
theorem dM_scrub_19 : decode cM_scrub 19 = .ok (.if_icmp .le 7, 3) := by decide +kernel
theorem dM_scrub_22 : decode cM_scrub 22 = .ok (.iconst 2, 1) := by decide +kernel
theorem dM_scrub_23 : decode cM_scrub 23 = .ok (.goto 4, 3) := by decide +kernel
theorem dM_scrub_26 : decode cM_scrub 26 = .ok (.iconst 0, 1) := by decide +kernel
theorem dM_scrub_27 : decode cM_scrub 27 = .ok (.putfield 58, 3) := by decide +kernel
theorem dM_scrub_30 : decode cM_scrub 30 = .ok (.aload_n 0, 1) := by decide +kernel
theorem dM_scrub_31 : decode cM_scrub 31 = .ok (.iconst 0, 1) := by decide +kernel
theorem dM_scrub_32 : decode cM_scrub 32 = .ok (.putfield 129, 3) := by decide +kernel
theorem dM_scrub_35 : decode cM_scrub 35 = .ok (.iconst 0, 1) := by decide +kernel
theorem dM_scrub_36 : decode cM_scrub 36 = .ok (.istore_n 2, 1) := by decide +kernel
theorem dM_scrub_37 : decode cM_scrub 37 = .ok (.iload_n 2, 1) := by decide +kernel
theorem dM_scrub_38 : decode cM_scrub 38 = .ok (.iload_n 1, 1) := by decide +kernel
theorem dM_scrub_39 : decode cM_scrub 39 = .ok (.if_icmp .ge 47, 3) := by decide +kernel
theorem dM_scrub_42 : decode cM_scrub 42 = .ok (.aload_n 0, 1) := by decide +kernel
theorem dM_scrub_43 : decode cM_scrub 43 = .ok (.getfield 58, 3) := by decide +kernel
theorem dM_scrub_46 : decode cM_scrub 46 = .ok (.ifCond .ne 40, 3) := by decide +kernel
theorem dM_scrub_49 : decode cM_scrub 49 = .ok (.aload_n 0, 1) := by decide +kernel
theorem dM_scrub_50 : decode cM_scrub 50 = .ok (.getfield 80, 3) := by decide +kernel
theorem dM_scrub_53 : decode cM_scrub 53 = .ok (.ifCond .ne 33, 3) := by decide +kernel
theorem dM_scrub_56 : decode cM_scrub 56 = .ok (.aload_n 0, 1) := by decide +kernel
theorem dM_scrub_57 : decode cM_scrub 57 = .ok (.aload_n 0, 1) := by decide +kernel
theorem dM_scrub_58 : decode cM_scrub 58 = .ok (.getfield 139, 3) := by decide +kernel
theorem dM_scrub_61 : decode cM_scrub 61 = .ok (.invokevirtual 142, 3) := by decide +kernel
theorem dM_scrub_64 : decode cM_scrub 64 = .ok (.ifCond .eq 16, 3) := by decide +kernel
theorem dM_scrub_67 : decode cM_scrub 67 = .ok (.aload_n 0, 1) := by decide +kernel
theorem dM_scrub_68 : decode cM_scrub 68 = .ok (.aload_n 0, 1) := by decide +kernel
theorem dM_scrub_69 : decode cM_scrub 69 = .ok (.getfield 139, 3) := by decide +kernel
theorem dM_scrub_72 : decode cM_scrub 72 = .ok (.iconst 1, 1) := by decide +kernel
theorem dM_scrub_73 : decode cM_scrub 73 = .ok (.iadd, 1) := by decide +kernel
theorem dM_scrub_74 : decode cM_scrub 74 = .ok (.bipush 64, 2) := by decide +kernel
theorem dM_scrub_76 : decode cM_scrub 76 = .ok (.irem, 1) := by decide +kernel
theorem dM_scrub_77 : decode cM_scrub 77 = .ok (.putfield 139, 3) := by decide +kernel
theorem dM_scrub_80 : decode cM_scrub 80 = .ok (.iinc 2 1, 3) := by decide +kernel
theorem dM_scrub_83 : decode cM_scrub 83 = .ok (.goto (-46), 3) := by decide +kernel
theorem dM_scrub_86 : decode cM_scrub 86 = .ok (.aload_n 0, 1) := by decide +kernel
theorem dM_scrub_87 : decode cM_scrub 87 = .ok (.getfield 129, 3) := by decide +kernel
theorem dM_scrub_90 : decode cM_scrub 90 = .ok (.ireturn, 1) := by decide +kernel
theorem dM_scrubOf_0 : decode cM_scrubOf 0 = .ok (.iload_n 1, 1) := by decide +kernel
theorem dM_scrubOf_1 : decode cM_scrubOf 1 = .ok (.bipush 8, 2) := by decide +kernel
theorem dM_scrubOf_3 : decode cM_scrubOf 3 = .ok (.idiv, 1) := by decide +kernel
theorem dM_scrubOf_4 : decode cM_scrubOf 4 = .ok (.istore_n 2, 1) := by decide +kernel
theorem dM_scrubOf_5 : decode cM_scrubOf 5 = .ok (.iconst 0, 1) := by decide +kernel
theorem dM_scrubOf_6 : decode cM_scrubOf 6 = .ok (.istore_n 3, 1) := by decide +kernel
theorem dM_scrubOf_7 : decode cM_scrubOf 7 = .ok (.iload_n 3, 1) := by decide +kernel
theorem dM_scrubOf_8 : decode cM_scrubOf 8 = .ok (.iconst 2, 1) := by decide +kernel
theorem dM_scrubOf_9 : decode cM_scrubOf 9 = .ok (.if_icmp .ge 74, 3) := by decide +kernel
theorem dM_scrubOf_12 : decode cM_scrubOf 12 = .ok (.aload_n 0, 1) := by decide +kernel
theorem dM_scrubOf_13 : decode cM_scrubOf 13 = .ok (.iconst 1, 1) := by decide +kernel
theorem dM_scrubOf_14 : decode cM_scrubOf 14 = .ok (.iload_n 3, 1) := by decide +kernel
theorem dM_scrubOf_15 : decode cM_scrubOf 15 = .ok (.isub, 1) := by decide +kernel
theorem dM_scrubOf_16 : decode cM_scrubOf 16 = .ok (.iload_n 2, 1) := by decide +kernel
theorem dM_scrubOf_17 : decode cM_scrubOf 17 = .ok (.invokevirtual 68, 3) := by decide +kernel
theorem dM_scrubOf_20 : decode cM_scrubOf 20 = .ok (.ifCond .ne 57, 3) := by decide +kernel
theorem dM_scrubOf_23 : decode cM_scrubOf 23 = .ok (.aload_n 0, 1) := by decide +kernel
theorem dM_scrubOf_24 : decode cM_scrubOf 24 = .ok (.iload_n 3, 1) := by decide +kernel
theorem dM_scrubOf_25 : decode cM_scrubOf 25 = .ok (.iload_n 2, 1) := by decide +kernel
theorem dM_scrubOf_26 : decode cM_scrubOf 26 = .ok (.invokevirtual 68, 3) := by decide +kernel
theorem dM_scrubOf_29 : decode cM_scrubOf 29 = .ok (.ifCond .eq 48, 3) := by decide +kernel
theorem dM_scrubOf_32 : decode cM_scrubOf 32 = .ok (.aload_n 0, 1) := by decide +kernel
theorem dM_scrubOf_33 : decode cM_scrubOf 33 = .ok (.iload_n 1, 1) := by decide +kernel
theorem dM_scrubOf_34 : decode cM_scrubOf 34 = .ok (.iconst 1, 1) := by decide +kernel
theorem dM_scrubOf_35 : decode cM_scrubOf 35 = .ok (.iload_n 3, 1) := by decide +kernel
theorem dM_scrubOf_36 : decode cM_scrubOf 36 = .ok (.isub, 1) := by decide +kernel
theorem dM_scrubOf_37 : decode cM_scrubOf 37 = .ok (.bipush 6, 2) := by decide +kernel
theorem dM_scrubOf_39 : decode cM_scrubOf 39 = .ok (.aload_n 0, 1) := by decide +kernel
theorem dM_scrubOf_40 : decode cM_scrubOf 40 = .ok (.getfield 7, 3) := by decide +kernel
theorem dM_scrubOf_43 : decode cM_scrubOf 43 = .ok (.iconst 1, 1) := by decide +kernel
theorem dM_scrubOf_44 : decode cM_scrubOf 44 = .ok (.iload_n 3, 1) := by decide +kernel
theorem dM_scrubOf_45 : decode cM_scrubOf 45 = .ok (.isub, 1) := by decide +kernel
theorem dM_scrubOf_46 : decode cM_scrubOf 46 = .ok (.bipush 64, 2) := by decide +kernel
theorem dM_scrubOf_48 : decode cM_scrubOf 48 = .ok (.iload_n 2, 1) := by decide +kernel
theorem dM_scrubOf_49 : decode cM_scrubOf 49 = .ok (.iadd, 1) := by decide +kernel
theorem dM_scrubOf_50 : decode cM_scrubOf 50 = .ok (.invokestatic 50, 3) := by decide +kernel
theorem dM_scrubOf_53 : decode cM_scrubOf 53 = .ok (.bipush 9, 2) := by decide +kernel
theorem dM_scrubOf_55 : decode cM_scrubOf 55 = .ok (.iadd, 1) := by decide +kernel
theorem dM_scrubOf_56 : decode cM_scrubOf 56 = .ok (.iaload, 1) := by decide +kernel
theorem dM_scrubOf_57 : decode cM_scrubOf 57 = .ok (.invokevirtual 135, 3) := by decide +kernel
theorem dM_scrubOf_60 : decode cM_scrubOf 60 = .ok (.aload_n 0, 1) := by decide +kernel
theorem dM_scrubOf_61 : decode cM_scrubOf 61 = .ok (.iload_n 3, 1) := by decide +kernel
theorem dM_scrubOf_62 : decode cM_scrubOf 62 = .ok (.iload_n 1, 1) := by decide +kernel
theorem dM_scrubOf_63 : decode cM_scrubOf 63 = .ok (.aload_n 0, 1) := by decide +kernel
theorem dM_scrubOf_64 : decode cM_scrubOf 64 = .ok (.iload_n 3, 1) := by decide +kernel
theorem dM_scrubOf_65 : decode cM_scrubOf 65 = .ok (.iload_n 1, 1) := by decide +kernel
theorem dM_scrubOf_66 : decode cM_scrubOf 66 = .ok (.invokevirtual 71, 3) := by decide +kernel
theorem dM_scrubOf_69 : decode cM_scrubOf 69 = .ok (.invokevirtual 102, 3) := by decide +kernel
theorem dM_scrubOf_72 : decode cM_scrubOf 72 = .ok (.ifCond .ne 5, 3) := by decide +kernel
theorem dM_scrubOf_75 : decode cM_scrubOf 75 = .ok (.iconst 0, 1) := by decide +kernel
theorem dM_scrubOf_76 : decode cM_scrubOf 76 = .ok (.ireturn, 1) := by decide +kernel
theorem dM_scrubOf_77 : decode cM_scrubOf 77 = .ok (.iinc 3 1, 3) := by decide +kernel
theorem dM_scrubOf_80 : decode cM_scrubOf 80 = .ok (.goto (-73), 3) := by decide +kernel
theorem dM_scrubOf_83 : decode cM_scrubOf 83 = .ok (.aload_n 0, 1) := by decide +kernel
theorem dM_scrubOf_84 : decode cM_scrubOf 84 = .ok (.iconst 0, 1) := by decide +kernel
theorem dM_scrubOf_85 : decode cM_scrubOf 85 = .ok (.iload_n 1, 1) := by decide +kernel
theorem dM_scrubOf_86 : decode cM_scrubOf 86 = .ok (.invokevirtual 111, 3) := by decide +kernel
theorem dM_scrubOf_89 : decode cM_scrubOf 89 = .ok (.istore_n 3, 1) := by decide +kernel
theorem dM_scrubOf_90 : decode cM_scrubOf 90 = .ok (.aload_n 0, 1) := by decide +kernel
theorem dM_scrubOf_91 : decode cM_scrubOf 91 = .ok (.iconst 1, 1) := by decide +kernel
theorem dM_scrubOf_92 : decode cM_scrubOf 92 = .ok (.iload_n 1, 1) := by decide +kernel
theorem dM_scrubOf_93 : decode cM_scrubOf 93 = .ok (.invokevirtual 111, 3) := by decide +kernel
theorem dM_scrubOf_96 : decode cM_scrubOf 96 = .ok (.istore 4, 2) := by decide +kernel
theorem dM_scrubOf_98 : decode cM_scrubOf 98 = .ok (.iload_n 3, 1) := by decide +kernel
theorem dM_scrubOf_99 : decode cM_scrubOf 99 = .ok (.ifCond .eq 19, 3) := by decide +kernel
theorem dM_scrubOf_102 : decode cM_scrubOf 102 = .ok (.iload 4, 2) := by decide +kernel
theorem dM_scrubOf_104 : decode cM_scrubOf 104 = .ok (.ifCond .eq 14, 3) := by decide +kernel
theorem dM_scrubOf_107 : decode cM_scrubOf 107 = .ok (.aload_n 0, 1) := by decide +kernel
theorem dM_scrubOf_108 : decode cM_scrubOf 108 = .ok (.iload_n 1, 1) := by decide +kernel
theorem dM_scrubOf_109 : decode cM_scrubOf 109 = .ok (.iconst (-1), 1) := by decide +kernel
theorem dM_scrubOf_110 : decode cM_scrubOf 110 = .ok (.bipush 7, 2) := by decide +kernel
theorem dM_scrubOf_112 : decode cM_scrubOf 112 = .ok (.iconst (-1), 1) := by decide +kernel
theorem dM_scrubOf_113 : decode cM_scrubOf 113 = .ok (.invokevirtual 135, 3) := by decide +kernel
theorem dM_scrubOf_116 : decode cM_scrubOf 116 = .ok (.iconst 1, 1) := by decide +kernel
theorem dM_scrubOf_117 : decode cM_scrubOf 117 = .ok (.ireturn, 1) := by decide +kernel
theorem dM_scrubOf_118 : decode cM_scrubOf 118 = .ok (.iload_n 3, 1) := by decide +kernel
theorem dM_scrubOf_119 : decode cM_scrubOf 119 = .ok (.ifCond .ne 10, 3) := by decide +kernel
theorem dM_scrubOf_122 : decode cM_scrubOf 122 = .ok (.iload 4, 2) := by decide +kernel
theorem dM_scrubOf_124 : decode cM_scrubOf 124 = .ok (.ifCond .ne 5, 3) := by decide +kernel
theorem dM_scrubOf_127 : decode cM_scrubOf 127 = .ok (.iconst 1, 1) := by decide +kernel
theorem dM_scrubOf_128 : decode cM_scrubOf 128 = .ok (.ireturn, 1) := by decide +kernel
theorem dM_scrubOf_129 : decode cM_scrubOf 129 = .ok (.iload_n 3, 1) := by decide +kernel
theorem dM_scrubOf_130 : decode cM_scrubOf 130 = .ok (.ifCond .ne 7, 3) := by decide +kernel
theorem dM_scrubOf_133 : decode cM_scrubOf 133 = .ok (.iconst 1, 1) := by decide +kernel
theorem dM_scrubOf_134 : decode cM_scrubOf 134 = .ok (.goto 4, 3) := by decide +kernel
theorem dM_scrubOf_137 : decode cM_scrubOf 137 = .ok (.iconst 0, 1) := by decide +kernel
theorem dM_scrubOf_138 : decode cM_scrubOf 138 = .ok (.istore 5, 2) := by decide +kernel
theorem dM_scrubOf_140 : decode cM_scrubOf 140 = .ok (.aload_n 0, 1) := by decide +kernel
theorem dM_scrubOf_141 : decode cM_scrubOf 141 = .ok (.iload_n 1, 1) := by decide +kernel
theorem dM_scrubOf_142 : decode cM_scrubOf 142 = .ok (.iload 5, 2) := by decide +kernel
theorem dM_scrubOf_144 : decode cM_scrubOf 144 = .ok (.iload 5, 2) := by decide +kernel
theorem dM_scrubOf_146 : decode cM_scrubOf 146 = .ok (.ifCond .ne 7, 3) := by decide +kernel
theorem dM_scrubOf_149 : decode cM_scrubOf 149 = .ok (.iload_n 3, 1) := by decide +kernel
theorem dM_scrubOf_150 : decode cM_scrubOf 150 = .ok (.goto 5, 3) := by decide +kernel
theorem dM_scrubOf_153 : decode cM_scrubOf 153 = .ok (.iload 4, 2) := by decide +kernel
theorem dM_scrubOf_155 : decode cM_scrubOf 155 = .ok (.aload_n 0, 1) := by decide +kernel
theorem dM_scrubOf_156 : decode cM_scrubOf 156 = .ok (.getfield 7, 3) := by decide +kernel
theorem dM_scrubOf_159 : decode cM_scrubOf 159 = .ok (.iload 5, 2) := by decide +kernel
theorem dM_scrubOf_161 : decode cM_scrubOf 161 = .ok (.iload_n 1, 1) := by decide +kernel
theorem dM_scrubOf_162 : decode cM_scrubOf 162 = .ok (.invokestatic 50, 3) := by decide +kernel
theorem dM_scrubOf_165 : decode cM_scrubOf 165 = .ok (.bipush 9, 2) := by decide +kernel
theorem dM_scrubOf_167 : decode cM_scrubOf 167 = .ok (.iadd, 1) := by decide +kernel
theorem dM_scrubOf_168 : decode cM_scrubOf 168 = .ok (.iaload, 1) := by decide +kernel
theorem dM_scrubOf_169 : decode cM_scrubOf 169 = .ok (.invokevirtual 135, 3) := by decide +kernel
theorem dM_scrubOf_172 : decode cM_scrubOf 172 = .ok (.aload_n 0, 1) := by decide +kernel
theorem dM_scrubOf_173 : decode cM_scrubOf 173 = .ok (.iconst 1, 1) := by decide +kernel
theorem dM_scrubOf_174 : decode cM_scrubOf 174 = .ok (.iload 5, 2) := by decide +kernel
theorem dM_scrubOf_176 : decode cM_scrubOf 176 = .ok (.isub, 1) := by decide +kernel
theorem dM_scrubOf_177 : decode cM_scrubOf 177 = .ok (.iload_n 1, 1) := by decide +kernel
theorem dM_scrubOf_178 : decode cM_scrubOf 178 = .ok (.invokevirtual 123, 3) := by decide +kernel
theorem dM_scrubOf_181 : decode cM_scrubOf 181 = .ok (.aload_n 0, 1) := by decide +kernel
theorem dM_scrubOf_182 : decode cM_scrubOf 182 = .ok (.iload 5, 2) := by decide +kernel
theorem dM_scrubOf_184 : decode cM_scrubOf 184 = .ok (.iload_n 1, 1) := by decide +kernel
theorem dM_scrubOf_185 : decode cM_scrubOf 185 = .ok (.aload_n 0, 1) := by decide +kernel
theorem dM_scrubOf_186 : decode cM_scrubOf 186 = .ok (.getfield 7, 3) := by decide +kernel
theorem dM_scrubOf_189 : decode cM_scrubOf 189 = .ok (.iconst 1, 1) := by decide +kernel
theorem dM_scrubOf_190 : decode cM_scrubOf 190 = .ok (.iload 5, 2) := by decide +kernel
theorem dM_scrubOf_192 : decode cM_scrubOf 192 = .ok (.isub, 1) := by decide +kernel
theorem dM_scrubOf_193 : decode cM_scrubOf 193 = .ok (.iload_n 1, 1) := by decide +kernel
theorem dM_scrubOf_194 : decode cM_scrubOf 194 = .ok (.invokestatic 50, 3) := by decide +kernel
theorem dM_scrubOf_197 : decode cM_scrubOf 197 = .ok (.bipush 10, 2) := by decide +kernel
theorem dM_scrubOf_199 : decode cM_scrubOf 199 = .ok (.iadd, 1) := by decide +kernel
theorem dM_scrubOf_200 : decode cM_scrubOf 200 = .ok (.iaload, 1) := by decide +kernel
theorem dM_scrubOf_201 : decode cM_scrubOf 201 = .ok (.invokevirtual 99, 3) := by decide +kernel
theorem dM_scrubOf_204 : decode cM_scrubOf 204 = .ok (.ireturn, 1) := by decide +kernel
theorem dM_find_0 : decode cM_find 0 = .ok (.aload_n 0, 1) := by decide +kernel
theorem dM_find_1 : decode cM_find 1 = .ok (.dup, 1) := by decide +kernel
theorem dM_find_2 : decode cM_find 2 = .ok (.getfield 129, 3) := by decide +kernel
theorem dM_find_5 : decode cM_find 5 = .ok (.iconst 1, 1) := by decide +kernel
theorem dM_find_6 : decode cM_find 6 = .ok (.iadd, 1) := by decide +kernel
theorem dM_find_7 : decode cM_find 7 = .ok (.putfield 129, 3) := by decide +kernel
theorem dM_find_10 : decode cM_find 10 = .ok (.aload_n 0, 1) := by decide +kernel
theorem dM_find_11 : decode cM_find 11 = .ok (.getfield 132, 3) := by decide +kernel
theorem dM_find_14 : decode cM_find 14 = .ok (.bipush 100, 2) := by decide +kernel
theorem dM_find_16 : decode cM_find 16 = .ok (.if_icmp .ge 68, 3) := by decide +kernel
theorem dM_find_19 : decode cM_find 19 = .ok (.aload_n 0, 1) := by decide +kernel
theorem dM_find_20 : decode cM_find 20 = .ok (.getfield 41, 3) := by decide +kernel
theorem dM_find_23 : decode cM_find 23 = .ok (.iconst 4, 1) := by decide +kernel
theorem dM_find_24 : decode cM_find 24 = .ok (.aload_n 0, 1) := by decide +kernel
theorem dM_find_25 : decode cM_find 25 = .ok (.getfield 132, 3) := by decide +kernel
theorem dM_find_28 : decode cM_find 28 = .ok (.imul, 1) := by decide +kernel
theorem dM_find_29 : decode cM_find 29 = .ok (.iload_n 1, 1) := by decide +kernel
theorem dM_find_30 : decode cM_find 30 = .ok (.iastore, 1) := by decide +kernel
theorem dM_find_31 : decode cM_find 31 = .ok (.aload_n 0, 1) := by decide +kernel
theorem dM_find_32 : decode cM_find 32 = .ok (.getfield 41, 3) := by decide +kernel
theorem dM_find_35 : decode cM_find 35 = .ok (.iconst 4, 1) := by decide +kernel
theorem dM_find_36 : decode cM_find 36 = .ok (.aload_n 0, 1) := by decide +kernel
theorem dM_find_37 : decode cM_find 37 = .ok (.getfield 132, 3) := by decide +kernel
theorem dM_find_40 : decode cM_find 40 = .ok (.imul, 1) := by decide +kernel
theorem dM_find_41 : decode cM_find 41 = .ok (.iconst 1, 1) := by decide +kernel
theorem dM_find_42 : decode cM_find 42 = .ok (.iadd, 1) := by decide +kernel
theorem dM_find_43 : decode cM_find 43 = .ok (.iload_n 2, 1) := by decide +kernel
theorem dM_find_44 : decode cM_find 44 = .ok (.iastore, 1) := by decide +kernel
theorem dM_find_45 : decode cM_find 45 = .ok (.aload_n 0, 1) := by decide +kernel
theorem dM_find_46 : decode cM_find 46 = .ok (.getfield 41, 3) := by decide +kernel
theorem dM_find_49 : decode cM_find 49 = .ok (.iconst 4, 1) := by decide +kernel
theorem dM_find_50 : decode cM_find 50 = .ok (.aload_n 0, 1) := by decide +kernel
theorem dM_find_51 : decode cM_find 51 = .ok (.getfield 132, 3) := by decide +kernel
theorem dM_find_54 : decode cM_find 54 = .ok (.imul, 1) := by decide +kernel
theorem dM_find_55 : decode cM_find 55 = .ok (.iconst 2, 1) := by decide +kernel
theorem dM_find_56 : decode cM_find 56 = .ok (.iadd, 1) := by decide +kernel
theorem dM_find_57 : decode cM_find 57 = .ok (.iload_n 3, 1) := by decide +kernel
theorem dM_find_58 : decode cM_find 58 = .ok (.iastore, 1) := by decide +kernel
theorem dM_find_59 : decode cM_find 59 = .ok (.aload_n 0, 1) := by decide +kernel
theorem dM_find_60 : decode cM_find 60 = .ok (.getfield 41, 3) := by decide +kernel
theorem dM_find_63 : decode cM_find 63 = .ok (.iconst 4, 1) := by decide +kernel
theorem dM_find_64 : decode cM_find 64 = .ok (.aload_n 0, 1) := by decide +kernel
theorem dM_find_65 : decode cM_find 65 = .ok (.getfield 132, 3) := by decide +kernel
theorem dM_find_68 : decode cM_find 68 = .ok (.imul, 1) := by decide +kernel
theorem dM_find_69 : decode cM_find 69 = .ok (.iconst 3, 1) := by decide +kernel
theorem dM_find_70 : decode cM_find 70 = .ok (.iadd, 1) := by decide +kernel
theorem dM_find_71 : decode cM_find 71 = .ok (.iload 4, 2) := by decide +kernel
theorem dM_find_73 : decode cM_find 73 = .ok (.iastore, 1) := by decide +kernel
theorem dM_find_74 : decode cM_find 74 = .ok (.aload_n 0, 1) := by decide +kernel
theorem dM_find_75 : decode cM_find 75 = .ok (.dup, 1) := by decide +kernel
theorem dM_find_76 : decode cM_find 76 = .ok (.getfield 132, 3) := by decide +kernel
theorem dM_find_79 : decode cM_find 79 = .ok (.iconst 1, 1) := by decide +kernel
theorem dM_find_80 : decode cM_find 80 = .ok (.iadd, 1) := by decide +kernel
theorem dM_find_81 : decode cM_find 81 = .ok (.putfield 132, 3) := by decide +kernel
theorem dM_find_84 : decode cM_find 84 = .ok (.return_, 1) := by decide +kernel
theorem dM_findings_0 : decode cM_findings 0 = .ok (.aload_n 0, 1) := by decide +kernel
theorem dM_findings_1 : decode cM_findings 1 = .ok (.iconst 0, 1) := by decide +kernel
theorem dM_findings_2 : decode cM_findings 2 = .ok (.putfield 58, 3) := by decide +kernel
theorem dM_findings_5 : decode cM_findings 5 = .ok (.aload_n 0, 1) := by decide +kernel
theorem dM_findings_6 : decode cM_findings 6 = .ok (.getfield 132, 3) := by decide +kernel
theorem dM_findings_9 : decode cM_findings 9 = .ok (.istore_n 2, 1) := by decide +kernel
theorem dM_findings_10 : decode cM_findings 10 = .ok (.aload_n 0, 1) := by decide +kernel
theorem dM_findings_11 : decode cM_findings 11 = .ok (.iload_n 1, 1) := by decide +kernel
theorem dM_findings_12 : decode cM_findings 12 = .ok (.ifCond .eq 7, 3) := by decide +kernel
theorem dM_findings_15 : decode cM_findings 15 = .ok (.iconst 0, 1) := by decide +kernel
theorem dM_findings_16 : decode cM_findings 16 = .ok (.goto 7, 3) := by decide +kernel
theorem dM_findings_19 : decode cM_findings 19 = .ok (.aload_n 0, 1) := by decide +kernel
theorem dM_findings_20 : decode cM_findings 20 = .ok (.getfield 132, 3) := by decide +kernel
theorem dM_findings_23 : decode cM_findings 23 = .ok (.putfield 132, 3) := by decide +kernel
theorem dM_findings_26 : decode cM_findings 26 = .ok (.iload_n 2, 1) := by decide +kernel
theorem dM_findings_27 : decode cM_findings 27 = .ok (.ireturn, 1) := by decide +kernel
theorem dM_finding_0 : decode cM_finding 0 = .ok (.aload_n 0, 1) := by decide +kernel
theorem dM_finding_1 : decode cM_finding 1 = .ok (.iload_n 1, 1) := by decide +kernel
theorem dM_finding_2 : decode cM_finding 2 = .ok (.aload_n 0, 1) := by decide +kernel
theorem dM_finding_3 : decode cM_finding 3 = .ok (.getfield 132, 3) := by decide +kernel
theorem dM_finding_6 : decode cM_finding 6 = .ok (.invokestatic 114, 3) := by decide +kernel
theorem dM_finding_9 : decode cM_finding 9 = .ok (.ifCond .eq 11, 3) := by decide +kernel
theorem dM_finding_12 : decode cM_finding 12 = .ok (.iload_n 2, 1) := by decide +kernel
theorem dM_finding_13 : decode cM_finding 13 = .ok (.iconst 4, 1) := by decide +kernel
theorem dM_finding_14 : decode cM_finding 14 = .ok (.invokestatic 114, 3) := by decide +kernel
theorem dM_finding_17 : decode cM_finding 17 = .ok (.ifCond .ne 7, 3) := by decide +kernel
theorem dM_finding_20 : decode cM_finding 20 = .ok (.iconst 1, 1) := by decide +kernel
theorem dM_finding_21 : decode cM_finding 21 = .ok (.goto 4, 3) := by decide +kernel
theorem dM_finding_24 : decode cM_finding 24 = .ok (.iconst 0, 1) := by decide +kernel
theorem dM_finding_25 : decode cM_finding 25 = .ok (.putfield 58, 3) := by decide +kernel
theorem dM_finding_28 : decode cM_finding 28 = .ok (.aload_n 0, 1) := by decide +kernel
theorem dM_finding_29 : decode cM_finding 29 = .ok (.getfield 58, 3) := by decide +kernel
theorem dM_finding_32 : decode cM_finding 32 = .ok (.ifCond .le 7, 3) := by decide +kernel
theorem dM_finding_35 : decode cM_finding 35 = .ok (.iconst 0, 1) := by decide +kernel
theorem dM_finding_36 : decode cM_finding 36 = .ok (.goto 13, 3) := by decide +kernel
theorem dM_finding_39 : decode cM_finding 39 = .ok (.aload_n 0, 1) := by decide +kernel
theorem dM_finding_40 : decode cM_finding 40 = .ok (.getfield 41, 3) := by decide +kernel
theorem dM_finding_43 : decode cM_finding 43 = .ok (.iconst 4, 1) := by decide +kernel
theorem dM_finding_44 : decode cM_finding 44 = .ok (.iload_n 1, 1) := by decide +kernel
theorem dM_finding_45 : decode cM_finding 45 = .ok (.imul, 1) := by decide +kernel
theorem dM_finding_46 : decode cM_finding 46 = .ok (.iload_n 2, 1) := by decide +kernel
theorem dM_finding_47 : decode cM_finding 47 = .ok (.iadd, 1) := by decide +kernel
theorem dM_finding_48 : decode cM_finding 48 = .ok (.iaload, 1) := by decide +kernel
theorem dM_finding_49 : decode cM_finding 49 = .ok (.ireturn, 1) := by decide +kernel
theorem dM_expected_0 : decode cM_expected 0 = .ok (.aload_n 0, 1) := by decide +kernel
theorem dM_expected_1 : decode cM_expected 1 = .ok (.iload_n 1, 1) := by decide +kernel
theorem dM_expected_2 : decode cM_expected 2 = .ok (.iconst 2, 1) := by decide +kernel
theorem dM_expected_3 : decode cM_expected 3 = .ok (.invokestatic 114, 3) := by decide +kernel
theorem dM_expected_6 : decode cM_expected 6 = .ok (.ifCond .eq 12, 3) := by decide +kernel
theorem dM_expected_9 : decode cM_expected 9 = .ok (.iload_n 2, 1) := by decide +kernel
theorem dM_expected_10 : decode cM_expected 10 = .ok (.bipush 64, 2) := by decide +kernel
theorem dM_expected_12 : decode cM_expected 12 = .ok (.invokestatic 114, 3) := by decide +kernel
theorem dM_expected_15 : decode cM_expected 15 = .ok (.ifCond .ne 7, 3) := by decide +kernel
theorem dM_expected_18 : decode cM_expected 18 = .ok (.iconst 1, 1) := by decide +kernel
theorem dM_expected_19 : decode cM_expected 19 = .ok (.goto 4, 3) := by decide +kernel
theorem dM_expected_22 : decode cM_expected 22 = .ok (.iconst 0, 1) := by decide +kernel
theorem dM_expected_23 : decode cM_expected 23 = .ok (.putfield 58, 3) := by decide +kernel
theorem dM_expected_26 : decode cM_expected 26 = .ok (.aload_n 0, 1) := by decide +kernel
theorem dM_expected_27 : decode cM_expected 27 = .ok (.getfield 58, 3) := by decide +kernel
theorem dM_expected_30 : decode cM_expected 30 = .ok (.ifCond .le 7, 3) := by decide +kernel
theorem dM_expected_33 : decode cM_expected 33 = .ok (.iconst 0, 1) := by decide +kernel
theorem dM_expected_34 : decode cM_expected 34 = .ok (.goto 9, 3) := by decide +kernel
theorem dM_expected_37 : decode cM_expected 37 = .ok (.aload_n 0, 1) := by decide +kernel
theorem dM_expected_38 : decode cM_expected 38 = .ok (.iload_n 1, 1) := by decide +kernel
theorem dM_expected_39 : decode cM_expected 39 = .ok (.iload_n 2, 1) := by decide +kernel
theorem dM_expected_40 : decode cM_expected 40 = .ok (.invokevirtual 77, 3) := by decide +kernel
theorem dM_expected_43 : decode cM_expected 43 = .ok (.ireturn, 1) := by decide +kernel
theorem dM_verdict_0 : decode cM_verdict 0 = .ok (.aload_n 0, 1) := by decide +kernel
theorem dM_verdict_1 : decode cM_verdict 1 = .ok (.iload_n 1, 1) := by decide +kernel
theorem dM_verdict_2 : decode cM_verdict 2 = .ok (.iconst 2, 1) := by decide +kernel
theorem dM_verdict_3 : decode cM_verdict 3 = .ok (.invokestatic 114, 3) := by decide +kernel
theorem dM_verdict_6 : decode cM_verdict 6 = .ok (.ifCond .eq 12, 3) := by decide +kernel
theorem dM_verdict_9 : decode cM_verdict 9 = .ok (.iload_n 2, 1) := by decide +kernel
theorem dM_verdict_10 : decode cM_verdict 10 = .ok (.bipush 64, 2) := by decide +kernel
theorem dM_verdict_12 : decode cM_verdict 12 = .ok (.invokestatic 114, 3) := by decide +kernel
theorem dM_verdict_15 : decode cM_verdict 15 = .ok (.ifCond .ne 7, 3) := by decide +kernel
theorem dM_verdict_18 : decode cM_verdict 18 = .ok (.iconst 1, 1) := by decide +kernel
theorem dM_verdict_19 : decode cM_verdict 19 = .ok (.goto 4, 3) := by decide +kernel
theorem dM_verdict_22 : decode cM_verdict 22 = .ok (.iconst 0, 1) := by decide +kernel
theorem dM_verdict_23 : decode cM_verdict 23 = .ok (.putfield 58, 3) := by decide +kernel
theorem dM_verdict_26 : decode cM_verdict 26 = .ok (.aload_n 0, 1) := by decide +kernel
theorem dM_verdict_27 : decode cM_verdict 27 = .ok (.getfield 58, 3) := by decide +kernel
theorem dM_verdict_30 : decode cM_verdict 30 = .ok (.ifCond .le 7, 3) := by decide +kernel
theorem dM_verdict_33 : decode cM_verdict 33 = .ok (.iconst 0, 1) := by decide +kernel
theorem dM_verdict_34 : decode cM_verdict 34 = .ok (.goto 9, 3) := by decide +kernel
theorem dM_verdict_37 : decode cM_verdict 37 = .ok (.aload_n 0, 1) := by decide +kernel
theorem dM_verdict_38 : decode cM_verdict 38 = .ok (.iload_n 1, 1) := by decide +kernel
theorem dM_verdict_39 : decode cM_verdict 39 = .ok (.iload_n 2, 1) := by decide +kernel
theorem dM_verdict_40 : decode cM_verdict 40 = .ok (.invokevirtual 111, 3) := by decide +kernel
theorem dM_verdict_43 : decode cM_verdict 43 = .ok (.ireturn, 1) := by decide +kernel
theorem dM_isRight_0 : decode cM_isRight 0 = .ok (.aload_n 0, 1) := by decide +kernel
theorem dM_isRight_1 : decode cM_isRight 1 = .ok (.iload_n 1, 1) := by decide +kernel
theorem dM_isRight_2 : decode cM_isRight 2 = .ok (.iconst 2, 1) := by decide +kernel
theorem dM_isRight_3 : decode cM_isRight 3 = .ok (.invokestatic 114, 3) := by decide +kernel
theorem dM_isRight_6 : decode cM_isRight 6 = .ok (.ifCond .eq 12, 3) := by decide +kernel
theorem dM_isRight_9 : decode cM_isRight 9 = .ok (.iload_n 2, 1) := by decide +kernel
theorem dM_isRight_10 : decode cM_isRight 10 = .ok (.bipush 8, 2) := by decide +kernel
theorem dM_isRight_12 : decode cM_isRight 12 = .ok (.invokestatic 114, 3) := by decide +kernel
theorem dM_isRight_15 : decode cM_isRight 15 = .ok (.ifCond .ne 7, 3) := by decide +kernel
theorem dM_isRight_18 : decode cM_isRight 18 = .ok (.iconst 1, 1) := by decide +kernel
theorem dM_isRight_19 : decode cM_isRight 19 = .ok (.goto 4, 3) := by decide +kernel
theorem dM_isRight_22 : decode cM_isRight 22 = .ok (.iconst 0, 1) := by decide +kernel
theorem dM_isRight_23 : decode cM_isRight 23 = .ok (.putfield 58, 3) := by decide +kernel
theorem dM_isRight_26 : decode cM_isRight 26 = .ok (.aload_n 0, 1) := by decide +kernel
theorem dM_isRight_27 : decode cM_isRight 27 = .ok (.getfield 58, 3) := by decide +kernel
theorem dM_isRight_30 : decode cM_isRight 30 = .ok (.ifCond .ne 16, 3) := by decide +kernel
theorem dM_isRight_33 : decode cM_isRight 33 = .ok (.aload_n 0, 1) := by decide +kernel
theorem dM_isRight_34 : decode cM_isRight 34 = .ok (.iload_n 1, 1) := by decide +kernel
theorem dM_isRight_35 : decode cM_isRight 35 = .ok (.iload_n 2, 1) := by decide +kernel
theorem dM_isRight_36 : decode cM_isRight 36 = .ok (.invokevirtual 68, 3) := by decide +kernel
theorem dM_isRight_39 : decode cM_isRight 39 = .ok (.ifCond .eq 7, 3) := by decide +kernel
theorem dM_isRight_42 : decode cM_isRight 42 = .ok (.iconst 1, 1) := by decide +kernel
theorem dM_isRight_43 : decode cM_isRight 43 = .ok (.goto 4, 3) := by decide +kernel
theorem dM_isRight_46 : decode cM_isRight 46 = .ok (.iconst 0, 1) := by decide +kernel
theorem dM_isRight_47 : decode cM_isRight 47 = .ok (.ireturn, 1) := by decide +kernel
theorem dM_raw_0 : decode cM_raw 0 = .ok (.aload_n 0, 1) := by decide +kernel
theorem dM_raw_1 : decode cM_raw 1 = .ok (.iload_n 1, 1) := by decide +kernel
theorem dM_raw_2 : decode cM_raw 2 = .ok (.iconst 2, 1) := by decide +kernel
theorem dM_raw_3 : decode cM_raw 3 = .ok (.invokestatic 114, 3) := by decide +kernel
theorem dM_raw_6 : decode cM_raw 6 = .ok (.ifCond .eq 21, 3) := by decide +kernel
theorem dM_raw_9 : decode cM_raw 9 = .ok (.iload_n 2, 1) := by decide +kernel
theorem dM_raw_10 : decode cM_raw 10 = .ok (.bipush 72, 2) := by decide +kernel
theorem dM_raw_12 : decode cM_raw 12 = .ok (.invokestatic 114, 3) := by decide +kernel
theorem dM_raw_15 : decode cM_raw 15 = .ok (.ifCond .eq 12, 3) := by decide +kernel
theorem dM_raw_18 : decode cM_raw 18 = .ok (.iload_n 3, 1) := by decide +kernel
theorem dM_raw_19 : decode cM_raw 19 = .ok (.bipush 11, 2) := by decide +kernel
theorem dM_raw_21 : decode cM_raw 21 = .ok (.invokestatic 114, 3) := by decide +kernel
theorem dM_raw_24 : decode cM_raw 24 = .ok (.ifCond .ne 7, 3) := by decide +kernel
theorem dM_raw_27 : decode cM_raw 27 = .ok (.iconst 1, 1) := by decide +kernel
theorem dM_raw_28 : decode cM_raw 28 = .ok (.goto 4, 3) := by decide +kernel
theorem dM_raw_31 : decode cM_raw 31 = .ok (.iconst 0, 1) := by decide +kernel
theorem dM_raw_32 : decode cM_raw 32 = .ok (.putfield 58, 3) := by decide +kernel
theorem dM_raw_35 : decode cM_raw 35 = .ok (.aload_n 0, 1) := by decide +kernel
theorem dM_raw_36 : decode cM_raw 36 = .ok (.getfield 58, 3) := by decide +kernel
theorem dM_raw_39 : decode cM_raw 39 = .ok (.ifCond .le 7, 3) := by decide +kernel
theorem dM_raw_42 : decode cM_raw 42 = .ok (.iconst 0, 1) := by decide +kernel
theorem dM_raw_43 : decode cM_raw 43 = .ok (.goto 15, 3) := by decide +kernel
theorem dM_raw_46 : decode cM_raw 46 = .ok (.aload_n 0, 1) := by decide +kernel
theorem dM_raw_47 : decode cM_raw 47 = .ok (.getfield 7, 3) := by decide +kernel
theorem dM_raw_50 : decode cM_raw 50 = .ok (.iload_n 1, 1) := by decide +kernel
theorem dM_raw_51 : decode cM_raw 51 = .ok (.iload_n 2, 1) := by decide +kernel
theorem dM_raw_52 : decode cM_raw 52 = .ok (.invokestatic 50, 3) := by decide +kernel
theorem dM_raw_55 : decode cM_raw 55 = .ok (.iload_n 3, 1) := by decide +kernel
theorem dM_raw_56 : decode cM_raw 56 = .ok (.iadd, 1) := by decide +kernel
theorem dM_raw_57 : decode cM_raw 57 = .ok (.iaload, 1) := by decide +kernel
theorem dM_raw_58 : decode cM_raw 58 = .ok (.ireturn, 1) := by decide +kernel
theorem dM_replace_0 : decode cM_replace 0 = .ok (.aload_n 0, 1) := by decide +kernel
theorem dM_replace_1 : decode cM_replace 1 = .ok (.iload_n 1, 1) := by decide +kernel
theorem dM_replace_2 : decode cM_replace 2 = .ok (.iconst 2, 1) := by decide +kernel
theorem dM_replace_3 : decode cM_replace 3 = .ok (.invokestatic 114, 3) := by decide +kernel
theorem dM_replace_6 : decode cM_replace 6 = .ok (.ifCond .ne 7, 3) := by decide +kernel
theorem dM_replace_9 : decode cM_replace 9 = .ok (.iconst 1, 1) := by decide +kernel
theorem dM_replace_10 : decode cM_replace 10 = .ok (.goto 15, 3) := by decide +kernel
theorem dM_replace_13 : decode cM_replace 13 = .ok (.aload_n 0, 1) := by decide +kernel
theorem dM_replace_14 : decode cM_replace 14 = .ok (.getfield 80, 3) := by decide +kernel
theorem dM_replace_17 : decode cM_replace 17 = .ok (.ifCond .eq 7, 3) := by decide +kernel
theorem dM_replace_20 : decode cM_replace 20 = .ok (.iconst 2, 1) := by decide +kernel
theorem dM_replace_21 : decode cM_replace 21 = .ok (.goto 4, 3) := by decide +kernel
theorem dM_replace_24 : decode cM_replace 24 = .ok (.iconst 0, 1) := by decide +kernel
theorem dM_replace_25 : decode cM_replace 25 = .ok (.putfield 58, 3) := by decide +kernel
theorem dM_replace_28 : decode cM_replace 28 = .ok (.aload_n 0, 1) := by decide +kernel
theorem dM_replace_29 : decode cM_replace 29 = .ok (.getfield 58, 3) := by decide +kernel
theorem dM_replace_32 : decode cM_replace 32 = .ok (.ifCond .le 4, 3) := by decide +kernel
theorem dM_replace_35 : decode cM_replace 35 = .ok (.return_, 1) := by decide +kernel
theorem dM_replace_36 : decode cM_replace 36 = .ok (.iconst 0, 1) := by decide +kernel
theorem dM_replace_37 : decode cM_replace 37 = .ok (.istore_n 2, 1) := by decide +kernel
theorem dM_replace_38 : decode cM_replace 38 = .ok (.iload_n 2, 1) := by decide +kernel
theorem dM_replace_39 : decode cM_replace 39 = .ok (.sipush 792, 3) := by decide +kernel
theorem dM_replace_42 : decode cM_replace 42 = .ok (.if_icmp .ge 22, 3) := by decide +kernel
theorem dM_replace_45 : decode cM_replace 45 = .ok (.aload_n 0, 1) := by decide +kernel
theorem dM_replace_46 : decode cM_replace 46 = .ok (.getfield 7, 3) := by decide +kernel
theorem dM_replace_49 : decode cM_replace 49 = .ok (.sipush 792, 3) := by decide +kernel
theorem dM_replace_52 : decode cM_replace 52 = .ok (.iload_n 1, 1) := by decide +kernel
theorem dM_replace_53 : decode cM_replace 53 = .ok (.imul, 1) := by decide +kernel
theorem dM_replace_54 : decode cM_replace 54 = .ok (.iload_n 2, 1) := by decide +kernel
theorem dM_replace_55 : decode cM_replace 55 = .ok (.iadd, 1) := by decide +kernel
theorem dM_replace_56 : decode cM_replace 56 = .ok (.iconst 0, 1) := by decide +kernel
theorem dM_replace_57 : decode cM_replace 57 = .ok (.iastore, 1) := by decide +kernel
theorem dM_replace_58 : decode cM_replace 58 = .ok (.iinc 2 1, 3) := by decide +kernel
theorem dM_replace_61 : decode cM_replace 61 = .ok (.goto (-23), 3) := by decide +kernel
theorem dM_replace_64 : decode cM_replace 64 = .ok (.aload_n 0, 1) := by decide +kernel
theorem dM_replace_65 : decode cM_replace 65 = .ok (.getfield 29, 3) := by decide +kernel
theorem dM_replace_68 : decode cM_replace 68 = .ok (.iload_n 1, 1) := by decide +kernel
theorem dM_replace_69 : decode cM_replace 69 = .ok (.iconst 0, 1) := by decide +kernel
theorem dM_replace_70 : decode cM_replace 70 = .ok (.iastore, 1) := by decide +kernel
theorem dM_replace_71 : decode cM_replace 71 = .ok (.return_, 1) := by decide +kernel
theorem dM_rebuild_0 : decode cM_rebuild 0 = .ok (.aload_n 0, 1) := by decide +kernel
theorem dM_rebuild_1 : decode cM_rebuild 1 = .ok (.iload_n 1, 1) := by decide +kernel
theorem dM_rebuild_2 : decode cM_rebuild 2 = .ok (.iconst 2, 1) := by decide +kernel
theorem dM_rebuild_3 : decode cM_rebuild 3 = .ok (.invokestatic 114, 3) := by decide +kernel
theorem dM_rebuild_6 : decode cM_rebuild 6 = .ok (.ifCond .ne 7, 3) := by decide +kernel
theorem dM_rebuild_9 : decode cM_rebuild 9 = .ok (.iconst 1, 1) := by decide +kernel
theorem dM_rebuild_10 : decode cM_rebuild 10 = .ok (.goto 15, 3) := by decide +kernel
theorem dM_rebuild_13 : decode cM_rebuild 13 = .ok (.aload_n 0, 1) := by decide +kernel
theorem dM_rebuild_14 : decode cM_rebuild 14 = .ok (.getfield 80, 3) := by decide +kernel
theorem dM_rebuild_17 : decode cM_rebuild 17 = .ok (.ifCond .eq 7, 3) := by decide +kernel
theorem dM_rebuild_20 : decode cM_rebuild 20 = .ok (.iconst 2, 1) := by decide +kernel
theorem dM_rebuild_21 : decode cM_rebuild 21 = .ok (.goto 4, 3) := by decide +kernel
theorem dM_rebuild_24 : decode cM_rebuild 24 = .ok (.iconst 0, 1) := by decide +kernel
theorem dM_rebuild_25 : decode cM_rebuild 25 = .ok (.putfield 58, 3) := by decide +kernel
theorem dM_rebuild_28 : decode cM_rebuild 28 = .ok (.iconst 0, 1) := by decide +kernel
theorem dM_rebuild_29 : decode cM_rebuild 29 = .ok (.istore_n 2, 1) := by decide +kernel
theorem dM_rebuild_30 : decode cM_rebuild 30 = .ok (.iconst 0, 1) := by decide +kernel
theorem dM_rebuild_31 : decode cM_rebuild 31 = .ok (.istore_n 3, 1) := by decide +kernel
theorem dM_rebuild_32 : decode cM_rebuild 32 = .ok (.iload_n 3, 1) := by decide +kernel
theorem dM_rebuild_33 : decode cM_rebuild 33 = .ok (.bipush 64, 2) := by decide +kernel
theorem dM_rebuild_35 : decode cM_rebuild 35 = .ok (.if_icmp .ge 104, 3) := by decide +kernel
theorem dM_rebuild_38 : decode cM_rebuild 38 = .ok (.aload_n 0, 1) := by decide +kernel
theorem dM_rebuild_39 : decode cM_rebuild 39 = .ok (.getfield 58, 3) := by decide +kernel
theorem dM_rebuild_42 : decode cM_rebuild 42 = .ok (.ifCond .ne 97, 3) := by decide +kernel
theorem dM_rebuild_45 : decode cM_rebuild 45 = .ok (.aload_n 0, 1) := by decide +kernel
theorem dM_rebuild_46 : decode cM_rebuild 46 = .ok (.iload_n 3, 1) := by decide +kernel
theorem dM_rebuild_47 : decode cM_rebuild 47 = .ok (.invokevirtual 117, 3) := by decide +kernel
theorem dM_rebuild_50 : decode cM_rebuild 50 = .ok (.istore 4, 2) := by decide +kernel
theorem dM_rebuild_52 : decode cM_rebuild 52 = .ok (.iload 4, 2) := by decide +kernel
theorem dM_rebuild_54 : decode cM_rebuild 54 = .ok (.iconst 2, 1) := by decide +kernel
theorem dM_rebuild_55 : decode cM_rebuild 55 = .ok (.if_icmp .ne 9, 3) := by decide +kernel
theorem dM_rebuild_58 : decode cM_rebuild 58 = .ok (.iinc 2 1, 3) := by decide +kernel
theorem dM_rebuild_61 : decode cM_rebuild 61 = .ok (.goto 72, 3) := by decide +kernel
theorem dM_rebuild_64 : decode cM_rebuild 64 = .ok (.aload_n 0, 1) := by decide +kernel
theorem dM_rebuild_65 : decode cM_rebuild 65 = .ok (.iload 4, 2) := by decide +kernel
theorem dM_rebuild_67 : decode cM_rebuild 67 = .ok (.iload_n 3, 1) := by decide +kernel
theorem dM_rebuild_68 : decode cM_rebuild 68 = .ok (.invokevirtual 123, 3) := by decide +kernel
theorem dM_rebuild_71 : decode cM_rebuild 71 = .ok (.aload_n 0, 1) := by decide +kernel
theorem dM_rebuild_72 : decode cM_rebuild 72 = .ok (.getfield 7, 3) := by decide +kernel
theorem dM_rebuild_75 : decode cM_rebuild 75 = .ok (.iload 4, 2) := by decide +kernel
theorem dM_rebuild_77 : decode cM_rebuild 77 = .ok (.iload_n 3, 1) := by decide +kernel
theorem dM_rebuild_78 : decode cM_rebuild 78 = .ok (.invokestatic 50, 3) := by decide +kernel
theorem dM_rebuild_81 : decode cM_rebuild 81 = .ok (.bipush 10, 2) := by decide +kernel
theorem dM_rebuild_83 : decode cM_rebuild 83 = .ok (.iadd, 1) := by decide +kernel
theorem dM_rebuild_84 : decode cM_rebuild 84 = .ok (.iaload, 1) := by decide +kernel
theorem dM_rebuild_85 : decode cM_rebuild 85 = .ok (.istore 5, 2) := by decide +kernel
theorem dM_rebuild_87 : decode cM_rebuild 87 = .ok (.aload_n 0, 1) := by decide +kernel
theorem dM_rebuild_88 : decode cM_rebuild 88 = .ok (.iload_n 1, 1) := by decide +kernel
theorem dM_rebuild_89 : decode cM_rebuild 89 = .ok (.iload_n 3, 1) := by decide +kernel
theorem dM_rebuild_90 : decode cM_rebuild 90 = .ok (.iload 5, 2) := by decide +kernel
theorem dM_rebuild_92 : decode cM_rebuild 92 = .ok (.invokevirtual 108, 3) := by decide +kernel
theorem dM_rebuild_95 : decode cM_rebuild 95 = .ok (.istore 6, 2) := by decide +kernel
theorem dM_rebuild_97 : decode cM_rebuild 97 = .ok (.iload 6, 2) := by decide +kernel
theorem dM_rebuild_99 : decode cM_rebuild 99 = .ok (.ifCond .eq 27, 3) := by decide +kernel
theorem dM_rebuild_102 : decode cM_rebuild 102 = .ok (.aload_n 0, 1) := by decide +kernel
theorem dM_rebuild_103 : decode cM_rebuild 103 = .ok (.iload_n 1, 1) := by decide +kernel
theorem dM_rebuild_104 : decode cM_rebuild 104 = .ok (.iload_n 3, 1) := by decide +kernel
theorem dM_rebuild_105 : decode cM_rebuild 105 = .ok (.bipush 8, 2) := by decide +kernel
theorem dM_rebuild_107 : decode cM_rebuild 107 = .ok (.idiv, 1) := by decide +kernel
theorem dM_rebuild_108 : decode cM_rebuild 108 = .ok (.invokevirtual 68, 3) := by decide +kernel
theorem dM_rebuild_111 : decode cM_rebuild 111 = .ok (.ifCond .ne 15, 3) := by decide +kernel
theorem dM_rebuild_114 : decode cM_rebuild 114 = .ok (.aload_n 0, 1) := by decide +kernel
theorem dM_rebuild_115 : decode cM_rebuild 115 = .ok (.iconst 1, 1) := by decide +kernel
theorem dM_rebuild_116 : decode cM_rebuild 116 = .ok (.iload_n 1, 1) := by decide +kernel
theorem dM_rebuild_117 : decode cM_rebuild 117 = .ok (.isub, 1) := by decide +kernel
theorem dM_rebuild_118 : decode cM_rebuild 118 = .ok (.iload_n 3, 1) := by decide +kernel
theorem dM_rebuild_119 : decode cM_rebuild 119 = .ok (.iload 5, 2) := by decide +kernel
theorem dM_rebuild_121 : decode cM_rebuild 121 = .ok (.invokevirtual 102, 3) := by decide +kernel
theorem dM_rebuild_124 : decode cM_rebuild 124 = .ok (.istore 6, 2) := by decide +kernel
theorem dM_rebuild_126 : decode cM_rebuild 126 = .ok (.iload 6, 2) := by decide +kernel
theorem dM_rebuild_128 : decode cM_rebuild 128 = .ok (.ifCond .ne 5, 3) := by decide +kernel
theorem dM_rebuild_131 : decode cM_rebuild 131 = .ok (.iconst (-1), 1) := by decide +kernel
theorem dM_rebuild_132 : decode cM_rebuild 132 = .ok (.ireturn, 1) := by decide +kernel
theorem dM_rebuild_133 : decode cM_rebuild 133 = .ok (.iinc 3 1, 3) := by decide +kernel
theorem dM_rebuild_136 : decode cM_rebuild 136 = .ok (.goto (-104), 3) := by decide +kernel
theorem dM_rebuild_139 : decode cM_rebuild 139 = .ok (.iload_n 2, 1) := by decide +kernel
theorem dM_rebuild_140 : decode cM_rebuild 140 = .ok (.ireturn, 1) := by decide +kernel
theorem dM_count_0 : decode cM_count 0 = .ok (.aload_n 0, 1) := by decide +kernel
theorem dM_count_1 : decode cM_count 1 = .ok (.iload_n 1, 1) := by decide +kernel
theorem dM_count_2 : decode cM_count 2 = .ok (.bipush 8, 2) := by decide +kernel
theorem dM_count_4 : decode cM_count 4 = .ok (.invokestatic 114, 3) := by decide +kernel
theorem dM_count_7 : decode cM_count 7 = .ok (.ifCond .eq 7, 3) := by decide +kernel
theorem dM_count_10 : decode cM_count 10 = .ok (.iconst 0, 1) := by decide +kernel
theorem dM_count_11 : decode cM_count 11 = .ok (.goto 4, 3) := by decide +kernel
theorem dM_count_14 : decode cM_count 14 = .ok (.iconst 1, 1) := by decide +kernel
theorem dM_count_15 : decode cM_count 15 = .ok (.putfield 58, 3) := by decide +kernel
theorem dM_count_18 : decode cM_count 18 = .ok (.aload_n 0, 1) := by decide +kernel
theorem dM_count_19 : decode cM_count 19 = .ok (.getfield 58, 3) := by decide +kernel
theorem dM_count_22 : decode cM_count 22 = .ok (.ifCond .le 5, 3) := by decide +kernel
theorem dM_count_25 : decode cM_count 25 = .ok (.iconst 0, 1) := by decide +kernel
theorem dM_count_26 : decode cM_count 26 = .ok (.ireturn, 1) := by decide +kernel
theorem dM_count_27 : decode cM_count 27 = .ok (.iload_n 1, 1) := by decide +kernel
theorem dM_count_28 : decode cM_count 28 = .ok (.iconst 4, 1) := by decide +kernel
theorem dM_count_29 : decode cM_count 29 = .ok (.if_icmp .ge 26, 3) := by decide +kernel
theorem dM_count_32 : decode cM_count 32 = .ok (.iload_n 1, 1) := by decide +kernel
theorem dM_count_33 : decode cM_count 33 = .ok (.iconst 2, 1) := by decide +kernel
theorem dM_count_34 : decode cM_count 34 = .ok (.if_icmp .ge 12, 3) := by decide +kernel
theorem dM_count_37 : decode cM_count 37 = .ok (.aload_n 0, 1) := by decide +kernel
theorem dM_count_38 : decode cM_count 38 = .ok (.getfield 26, 3) := by decide +kernel
theorem dM_count_41 : decode cM_count 41 = .ok (.iload_n 1, 1) := by decide +kernel
theorem dM_count_42 : decode cM_count 42 = .ok (.iaload, 1) := by decide +kernel
theorem dM_count_43 : decode cM_count 43 = .ok (.goto 11, 3) := by decide +kernel
theorem dM_count_46 : decode cM_count 46 = .ok (.aload_n 0, 1) := by decide +kernel
theorem dM_count_47 : decode cM_count 47 = .ok (.getfield 29, 3) := by decide +kernel
theorem dM_count_50 : decode cM_count 50 = .ok (.iload_n 1, 1) := by decide +kernel
theorem dM_count_51 : decode cM_count 51 = .ok (.iconst 2, 1) := by decide +kernel
theorem dM_count_52 : decode cM_count 52 = .ok (.isub, 1) := by decide +kernel
theorem dM_count_53 : decode cM_count 53 = .ok (.iaload, 1) := by decide +kernel
theorem dM_count_54 : decode cM_count 54 = .ok (.ireturn, 1) := by decide +kernel
theorem dM_count_55 : decode cM_count 55 = .ok (.iconst 0, 1) := by decide +kernel
theorem dM_count_56 : decode cM_count 56 = .ok (.istore_n 2, 1) := by decide +kernel
theorem dM_count_57 : decode cM_count 57 = .ok (.iconst 0, 1) := by decide +kernel
theorem dM_count_58 : decode cM_count 58 = .ok (.istore_n 3, 1) := by decide +kernel
theorem dM_count_59 : decode cM_count 59 = .ok (.iload_n 3, 1) := by decide +kernel
theorem dM_count_60 : decode cM_count 60 = .ok (.bipush 16, 2) := by decide +kernel
theorem dM_count_62 : decode cM_count 62 = .ok (.if_icmp .ge 30, 3) := by decide +kernel
theorem dM_count_65 : decode cM_count 65 = .ok (.aload_n 0, 1) := by decide +kernel
theorem dM_count_66 : decode cM_count 66 = .ok (.getfield 13, 3) := by decide +kernel
theorem dM_count_69 : decode cM_count 69 = .ok (.iload_n 3, 1) := by decide +kernel
theorem dM_count_70 : decode cM_count 70 = .ok (.iaload, 1) := by decide +kernel
theorem dM_count_71 : decode cM_count 71 = .ok (.iload_n 2, 1) := by decide +kernel
theorem dM_count_72 : decode cM_count 72 = .ok (.if_icmp .le 12, 3) := by decide +kernel
theorem dM_count_75 : decode cM_count 75 = .ok (.aload_n 0, 1) := by decide +kernel
theorem dM_count_76 : decode cM_count 76 = .ok (.getfield 13, 3) := by decide +kernel
theorem dM_count_79 : decode cM_count 79 = .ok (.iload_n 3, 1) := by decide +kernel
theorem dM_count_80 : decode cM_count 80 = .ok (.iaload, 1) := by decide +kernel
theorem dM_count_81 : decode cM_count 81 = .ok (.goto 4, 3) := by decide +kernel
theorem dM_count_84 : decode cM_count 84 = .ok (.iload_n 2, 1) := by decide +kernel
theorem dM_count_85 : decode cM_count 85 = .ok (.istore_n 2, 1) := by decide +kernel
theorem dM_count_86 : decode cM_count 86 = .ok (.iinc 3 1, 3) := by decide +kernel
theorem dM_count_89 : decode cM_count 89 = .ok (.goto (-30), 3) := by decide +kernel
theorem dM_count_92 : decode cM_count 92 = .ok (.iload_n 1, 1) := by decide +kernel
theorem dM_count_93 : decode cM_count 93 = .ok (.iconst 4, 1) := by decide +kernel
theorem dM_count_94 : decode cM_count 94 = .ok (.if_icmp .ne 18, 3) := by decide +kernel
theorem dM_count_97 : decode cM_count 97 = .ok (.aload_n 0, 1) := by decide +kernel
theorem dM_count_98 : decode cM_count 98 = .ok (.getfield 80, 3) := by decide +kernel
theorem dM_count_101 : decode cM_count 101 = .ok (.ifCond .eq 7, 3) := by decide +kernel
theorem dM_count_104 : decode cM_count 104 = .ok (.iconst 0, 1) := by decide +kernel
theorem dM_count_105 : decode cM_count 105 = .ok (.goto 33, 3) := by decide +kernel
theorem dM_count_108 : decode cM_count 108 = .ok (.iconst 1, 1) := by decide +kernel
theorem dM_count_109 : decode cM_count 109 = .ok (.goto 29, 3) := by decide +kernel
theorem dM_count_112 : decode cM_count 112 = .ok (.iload_n 1, 1) := by decide +kernel
theorem dM_count_113 : decode cM_count 113 = .ok (.iconst 5, 1) := by decide +kernel
theorem dM_count_114 : decode cM_count 114 = .ok (.if_icmp .ne 10, 3) := by decide +kernel
theorem dM_count_117 : decode cM_count 117 = .ok (.aload_n 0, 1) := by decide +kernel
theorem dM_count_118 : decode cM_count 118 = .ok (.getfield 16, 3) := by decide +kernel
theorem dM_count_121 : decode cM_count 121 = .ok (.goto 17, 3) := by decide +kernel
theorem dM_count_124 : decode cM_count 124 = .ok (.iload_n 1, 1) := by decide +kernel
theorem dM_count_125 : decode cM_count 125 = .ok (.bipush 6, 2) := by decide +kernel
theorem dM_count_127 : decode cM_count 127 = .ok (.if_icmp .ne 10, 3) := by decide +kernel
theorem dM_count_130 : decode cM_count 130 = .ok (.aload_n 0, 1) := by decide +kernel
theorem dM_count_131 : decode cM_count 131 = .ok (.getfield 139, 3) := by decide +kernel
theorem dM_count_134 : decode cM_count 134 = .ok (.goto 4, 3) := by decide +kernel
theorem dM_count_137 : decode cM_count 137 = .ok (.iload_n 2, 1) := by decide +kernel
theorem dM_count_138 : decode cM_count 138 = .ok (.ireturn, 1) := by decide +kernel
theorem dL_law_0 : decode cL_law 0 = .ok (.new 8, 3) := by decide +kernel
theorem dL_law_3 : decode cL_law 3 = .ok (.dup, 1) := by decide +kernel
theorem dL_law_4 : decode cL_law 4 = .ok (.invokespecial 66, 3) := by decide +kernel
theorem dL_law_7 : decode cL_law 7 = .ok (.astore_n 1, 1) := by decide +kernel
theorem dL_law_8 : decode cL_law 8 = .ok (.new 67, 3) := by decide +kernel
theorem dL_law_11 : decode cL_law 11 = .ok (.dup, 1) := by decide +kernel
theorem dL_law_12 : decode cL_law 12 = .ok (.invokespecial 69, 3) := by decide +kernel
theorem dL_law_15 : decode cL_law 15 = .ok (.astore_n 2, 1) := by decide +kernel
theorem dL_law_16 : decode cL_law 16 = .ok (.iconst 1, 1) := by decide +kernel
theorem dL_law_17 : decode cL_law 17 = .ok (.newarray .long, 2) := by decide +kernel
theorem dL_law_19 : decode cL_law 19 = .ok (.astore_n 3, 1) := by decide +kernel
theorem dL_law_20 : decode cL_law 20 = .ok (.iconst 0, 1) := by decide +kernel
theorem dL_law_21 : decode cL_law 21 = .ok (.istore 4, 2) := by decide +kernel
theorem dL_law_23 : decode cL_law 23 = .ok (.iload 4, 2) := by decide +kernel
theorem dL_law_25 : decode cL_law 25 = .ok (.aload_n 0, 1) := by decide +kernel
theorem dL_law_26 : decode cL_law 26 = .ok (.arraylength, 1) := by decide +kernel
theorem dL_law_27 : decode cL_law 27 = .ok (.iconst 5, 1) := by decide +kernel
theorem dL_law_28 : decode cL_law 28 = .ok (.isub, 1) := by decide +kernel
theorem dL_law_29 : decode cL_law 29 = .ok (.if_icmp .gt 1010, 3) := by decide +kernel
theorem dL_law_32 : decode cL_law 32 = .ok (.aload_n 0, 1) := by decide +kernel
theorem dL_law_33 : decode cL_law 33 = .ok (.iload 4, 2) := by decide +kernel
theorem dL_law_35 : decode cL_law 35 = .ok (.iaload, 1) := by decide +kernel
theorem dL_law_36 : decode cL_law 36 = .ok (.bipush 15, 2) := by decide +kernel
theorem dL_law_38 : decode cL_law 38 = .ok (.iand, 1) := by decide +kernel
theorem dL_law_39 : decode cL_law 39 = .ok (.tableswitch 994 0 15 #[77, 157, 225, 238, 310, 346, 390, 446, 487, 555, 623, 691, 766, 846, 882, 938], 77) := by decide +kernel
theorem dL_law_116 : decode cL_law 116 = .ok (.aload_n 1, 1) := by decide +kernel
theorem dL_law_117 : decode cL_law 117 = .ok (.aload_n 0, 1) := by decide +kernel
theorem dL_law_118 : decode cL_law 118 = .ok (.iload 4, 2) := by decide +kernel
theorem dL_law_120 : decode cL_law 120 = .ok (.iconst 1, 1) := by decide +kernel
theorem dL_law_121 : decode cL_law 121 = .ok (.iadd, 1) := by decide +kernel
theorem dL_law_122 : decode cL_law 122 = .ok (.iaload, 1) := by decide +kernel
theorem dL_law_123 : decode cL_law 123 = .ok (.aload_n 0, 1) := by decide +kernel
theorem dL_law_124 : decode cL_law 124 = .ok (.iload 4, 2) := by decide +kernel
theorem dL_law_126 : decode cL_law 126 = .ok (.iconst 2, 1) := by decide +kernel
theorem dL_law_127 : decode cL_law 127 = .ok (.iadd, 1) := by decide +kernel
theorem dL_law_128 : decode cL_law 128 = .ok (.iaload, 1) := by decide +kernel
theorem dL_law_129 : decode cL_law 129 = .ok (.aload_n 0, 1) := by decide +kernel
theorem dL_law_130 : decode cL_law 130 = .ok (.iload 4, 2) := by decide +kernel
theorem dL_law_132 : decode cL_law 132 = .ok (.iconst 3, 1) := by decide +kernel
theorem dL_law_133 : decode cL_law 133 = .ok (.iadd, 1) := by decide +kernel
theorem dL_law_134 : decode cL_law 134 = .ok (.iaload, 1) := by decide +kernel
theorem dL_law_135 : decode cL_law 135 = .ok (.aload_n 3, 1) := by decide +kernel
theorem dL_law_136 : decode cL_law 136 = .ok (.invokestatic 70, 3) := by decide +kernel
theorem dL_law_139 : decode cL_law 139 = .ok (.istore 5, 2) := by decide +kernel
theorem dL_law_141 : decode cL_law 141 = .ok (.aload_n 2, 1) := by decide +kernel
theorem dL_law_142 : decode cL_law 142 = .ok (.aload_n 0, 1) := by decide +kernel
theorem dL_law_143 : decode cL_law 143 = .ok (.iload 4, 2) := by decide +kernel
theorem dL_law_145 : decode cL_law 145 = .ok (.iconst 1, 1) := by decide +kernel
theorem dL_law_146 : decode cL_law 146 = .ok (.iadd, 1) := by decide +kernel
theorem dL_law_147 : decode cL_law 147 = .ok (.iaload, 1) := by decide +kernel
theorem dL_law_148 : decode cL_law 148 = .ok (.aload_n 0, 1) := by decide +kernel
theorem dL_law_149 : decode cL_law 149 = .ok (.iload 4, 2) := by decide +kernel
theorem dL_law_151 : decode cL_law 151 = .ok (.iconst 2, 1) := by decide +kernel
theorem dL_law_152 : decode cL_law 152 = .ok (.iadd, 1) := by decide +kernel
theorem dL_law_153 : decode cL_law 153 = .ok (.iaload, 1) := by decide +kernel
theorem dL_law_154 : decode cL_law 154 = .ok (.aload_n 0, 1) := by decide +kernel
theorem dL_law_155 : decode cL_law 155 = .ok (.iload 4, 2) := by decide +kernel
theorem dL_law_157 : decode cL_law 157 = .ok (.iconst 3, 1) := by decide +kernel
theorem dL_law_158 : decode cL_law 158 = .ok (.iadd, 1) := by decide +kernel
theorem dL_law_159 : decode cL_law 159 = .ok (.iaload, 1) := by decide +kernel
theorem dL_law_160 : decode cL_law 160 = .ok (.invokevirtual 75, 3) := by decide +kernel
theorem dL_law_163 : decode cL_law 163 = .ok (.istore 6, 2) := by decide +kernel
theorem dL_law_165 : decode cL_law 165 = .ok (.aload_n 2, 1) := by decide +kernel
theorem dL_law_166 : decode cL_law 166 = .ok (.invokevirtual 76, 3) := by decide +kernel
theorem dL_law_169 : decode cL_law 169 = .ok (.iload 5, 2) := by decide +kernel
theorem dL_law_171 : decode cL_law 171 = .ok (.if_icmp .eq 5, 3) := by decide +kernel
theorem dL_law_174 : decode cL_law 174 = .ok (.iconst 0, 1) := by decide +kernel
theorem dL_law_175 : decode cL_law 175 = .ok (.ireturn, 1) := by decide +kernel
theorem dL_law_176 : decode cL_law 176 = .ok (.iload 5, 2) := by decide +kernel
theorem dL_law_178 : decode cL_law 178 = .ok (.ifCond .ne 15, 3) := by decide +kernel
theorem dL_law_181 : decode cL_law 181 = .ok (.aload_n 3, 1) := by decide +kernel
theorem dL_law_182 : decode cL_law 182 = .ok (.iconst 0, 1) := by decide +kernel
theorem dL_law_183 : decode cL_law 183 = .ok (.laload, 1) := by decide +kernel
theorem dL_law_184 : decode cL_law 184 = .ok (.iload 6, 2) := by decide +kernel
theorem dL_law_186 : decode cL_law 186 = .ok (.i2l, 1) := by decide +kernel
theorem dL_law_187 : decode cL_law 187 = .ok (.lcmp, 1) := by decide +kernel
theorem dL_law_188 : decode cL_law 188 = .ok (.ifCond .eq 5, 3) := by decide +kernel
theorem dL_law_191 : decode cL_law 191 = .ok (.iconst 0, 1) := by decide +kernel
theorem dL_law_192 : decode cL_law 192 = .ok (.ireturn, 1) := by decide +kernel
theorem dL_law_193 : decode cL_law 193 = .ok (.goto 840, 3) := by decide +kernel
theorem dL_law_196 : decode cL_law 196 = .ok (.aload_n 1, 1) := by decide +kernel
theorem dL_law_197 : decode cL_law 197 = .ok (.aload_n 0, 1) := by decide +kernel
theorem dL_law_198 : decode cL_law 198 = .ok (.iload 4, 2) := by decide +kernel
theorem dL_law_200 : decode cL_law 200 = .ok (.iconst 1, 1) := by decide +kernel
theorem dL_law_201 : decode cL_law 201 = .ok (.iadd, 1) := by decide +kernel
theorem dL_law_202 : decode cL_law 202 = .ok (.iaload, 1) := by decide +kernel
theorem dL_law_203 : decode cL_law 203 = .ok (.aload_n 0, 1) := by decide +kernel
theorem dL_law_204 : decode cL_law 204 = .ok (.iload 4, 2) := by decide +kernel
theorem dL_law_206 : decode cL_law 206 = .ok (.iconst 2, 1) := by decide +kernel
theorem dL_law_207 : decode cL_law 207 = .ok (.iadd, 1) := by decide +kernel
theorem dL_law_208 : decode cL_law 208 = .ok (.iaload, 1) := by decide +kernel
theorem dL_law_209 : decode cL_law 209 = .ok (.aload_n 3, 1) := by decide +kernel
theorem dL_law_210 : decode cL_law 210 = .ok (.invokestatic 79, 3) := by decide +kernel
theorem dL_law_213 : decode cL_law 213 = .ok (.istore 5, 2) := by decide +kernel
theorem dL_law_215 : decode cL_law 215 = .ok (.aload_n 2, 1) := by decide +kernel
theorem dL_law_216 : decode cL_law 216 = .ok (.aload_n 0, 1) := by decide +kernel
theorem dL_law_217 : decode cL_law 217 = .ok (.iload 4, 2) := by decide +kernel
theorem dL_law_219 : decode cL_law 219 = .ok (.iconst 1, 1) := by decide +kernel
theorem dL_law_220 : decode cL_law 220 = .ok (.iadd, 1) := by decide +kernel
theorem dL_law_221 : decode cL_law 221 = .ok (.iaload, 1) := by decide +kernel
theorem dL_law_222 : decode cL_law 222 = .ok (.aload_n 0, 1) := by decide +kernel
theorem dL_law_223 : decode cL_law 223 = .ok (.iload 4, 2) := by decide +kernel
theorem dL_law_225 : decode cL_law 225 = .ok (.iconst 2, 1) := by decide +kernel
theorem dL_law_226 : decode cL_law 226 = .ok (.iadd, 1) := by decide +kernel
theorem dL_law_227 : decode cL_law 227 = .ok (.iaload, 1) := by decide +kernel
theorem dL_law_228 : decode cL_law 228 = .ok (.invokevirtual 82, 3) := by decide +kernel
theorem dL_law_231 : decode cL_law 231 = .ok (.istore 6, 2) := by decide +kernel
theorem dL_law_233 : decode cL_law 233 = .ok (.aload_n 2, 1) := by decide +kernel
theorem dL_law_234 : decode cL_law 234 = .ok (.invokevirtual 76, 3) := by decide +kernel
theorem dL_law_237 : decode cL_law 237 = .ok (.iload 5, 2) := by decide +kernel
theorem dL_law_239 : decode cL_law 239 = .ok (.if_icmp .eq 5, 3) := by decide +kernel
theorem dL_law_242 : decode cL_law 242 = .ok (.iconst 0, 1) := by decide +kernel
theorem dL_law_243 : decode cL_law 243 = .ok (.ireturn, 1) := by decide +kernel
theorem dL_law_244 : decode cL_law 244 = .ok (.iload 5, 2) := by decide +kernel
theorem dL_law_246 : decode cL_law 246 = .ok (.ifCond .ne 15, 3) := by decide +kernel
theorem dL_law_249 : decode cL_law 249 = .ok (.aload_n 3, 1) := by decide +kernel
theorem dL_law_250 : decode cL_law 250 = .ok (.iconst 0, 1) := by decide +kernel
theorem dL_law_251 : decode cL_law 251 = .ok (.laload, 1) := by decide +kernel
theorem dL_law_252 : decode cL_law 252 = .ok (.iload 6, 2) := by decide +kernel
theorem dL_law_254 : decode cL_law 254 = .ok (.i2l, 1) := by decide +kernel
theorem dL_law_255 : decode cL_law 255 = .ok (.lcmp, 1) := by decide +kernel
theorem dL_law_256 : decode cL_law 256 = .ok (.ifCond .eq 5, 3) := by decide +kernel
theorem dL_law_259 : decode cL_law 259 = .ok (.iconst 0, 1) := by decide +kernel
theorem dL_law_260 : decode cL_law 260 = .ok (.ireturn, 1) := by decide +kernel
theorem dL_law_261 : decode cL_law 261 = .ok (.goto 772, 3) := by decide +kernel
theorem dL_law_264 : decode cL_law 264 = .ok (.aload_n 1, 1) := by decide +kernel
theorem dL_law_265 : decode cL_law 265 = .ok (.invokevirtual 83, 3) := by decide +kernel
theorem dL_law_268 : decode cL_law 268 = .ok (.aload_n 2, 1) := by decide +kernel
theorem dL_law_269 : decode cL_law 269 = .ok (.invokevirtual 86, 3) := by decide +kernel
theorem dL_law_272 : decode cL_law 272 = .ok (.if_icmp .eq 761, 3) := by decide +kernel
theorem dL_law_275 : decode cL_law 275 = .ok (.iconst 0, 1) := by decide +kernel
theorem dL_law_276 : decode cL_law 276 = .ok (.ireturn, 1) := by decide +kernel
theorem dL_law_277 : decode cL_law 277 = .ok (.aload_n 1, 1) := by decide +kernel
theorem dL_law_278 : decode cL_law 278 = .ok (.aload_n 0, 1) := by decide +kernel
theorem dL_law_279 : decode cL_law 279 = .ok (.iload 4, 2) := by decide +kernel
theorem dL_law_281 : decode cL_law 281 = .ok (.iconst 1, 1) := by decide +kernel
theorem dL_law_282 : decode cL_law 282 = .ok (.iadd, 1) := by decide +kernel
theorem dL_law_283 : decode cL_law 283 = .ok (.iaload, 1) := by decide +kernel
theorem dL_law_284 : decode cL_law 284 = .ok (.aload_n 0, 1) := by decide +kernel
theorem dL_law_285 : decode cL_law 285 = .ok (.iload 4, 2) := by decide +kernel
theorem dL_law_287 : decode cL_law 287 = .ok (.iconst 2, 1) := by decide +kernel
theorem dL_law_288 : decode cL_law 288 = .ok (.iadd, 1) := by decide +kernel
theorem dL_law_289 : decode cL_law 289 = .ok (.iaload, 1) := by decide +kernel
theorem dL_law_290 : decode cL_law 290 = .ok (.aload_n 0, 1) := by decide +kernel
theorem dL_law_291 : decode cL_law 291 = .ok (.iload 4, 2) := by decide +kernel
theorem dL_law_293 : decode cL_law 293 = .ok (.iconst 3, 1) := by decide +kernel
theorem dL_law_294 : decode cL_law 294 = .ok (.iadd, 1) := by decide +kernel
theorem dL_law_295 : decode cL_law 295 = .ok (.iaload, 1) := by decide +kernel
theorem dL_law_296 : decode cL_law 296 = .ok (.aload_n 0, 1) := by decide +kernel
theorem dL_law_297 : decode cL_law 297 = .ok (.iload 4, 2) := by decide +kernel
theorem dL_law_299 : decode cL_law 299 = .ok (.iconst 4, 1) := by decide +kernel
theorem dL_law_300 : decode cL_law 300 = .ok (.iadd, 1) := by decide +kernel
theorem dL_law_301 : decode cL_law 301 = .ok (.iaload, 1) := by decide +kernel
theorem dL_law_302 : decode cL_law 302 = .ok (.invokestatic 87, 3) := by decide +kernel
theorem dL_law_305 : decode cL_law 305 = .ok (.istore 5, 2) := by decide +kernel
theorem dL_law_307 : decode cL_law 307 = .ok (.aload_n 2, 1) := by decide +kernel
theorem dL_law_308 : decode cL_law 308 = .ok (.aload_n 0, 1) := by decide +kernel
theorem dL_law_309 : decode cL_law 309 = .ok (.iload 4, 2) := by decide +kernel
theorem dL_law_311 : decode cL_law 311 = .ok (.iconst 1, 1) := by decide +kernel
theorem dL_law_312 : decode cL_law 312 = .ok (.iadd, 1) := by decide +kernel
theorem dL_law_313 : decode cL_law 313 = .ok (.iaload, 1) := by decide +kernel
theorem dL_law_314 : decode cL_law 314 = .ok (.aload_n 0, 1) := by decide +kernel
theorem dL_law_315 : decode cL_law 315 = .ok (.iload 4, 2) := by decide +kernel
theorem dL_law_317 : decode cL_law 317 = .ok (.iconst 2, 1) := by decide +kernel
theorem dL_law_318 : decode cL_law 318 = .ok (.iadd, 1) := by decide +kernel
theorem dL_law_319 : decode cL_law 319 = .ok (.iaload, 1) := by decide +kernel
theorem dL_law_320 : decode cL_law 320 = .ok (.aload_n 0, 1) := by decide +kernel
theorem dL_law_321 : decode cL_law 321 = .ok (.iload 4, 2) := by decide +kernel
theorem dL_law_323 : decode cL_law 323 = .ok (.iconst 3, 1) := by decide +kernel
theorem dL_law_324 : decode cL_law 324 = .ok (.iadd, 1) := by decide +kernel
theorem dL_law_325 : decode cL_law 325 = .ok (.iaload, 1) := by decide +kernel
theorem dL_law_326 : decode cL_law 326 = .ok (.aload_n 0, 1) := by decide +kernel
theorem dL_law_327 : decode cL_law 327 = .ok (.iload 4, 2) := by decide +kernel
theorem dL_law_329 : decode cL_law 329 = .ok (.iconst 4, 1) := by decide +kernel
theorem dL_law_330 : decode cL_law 330 = .ok (.iadd, 1) := by decide +kernel
theorem dL_law_331 : decode cL_law 331 = .ok (.iaload, 1) := by decide +kernel
theorem dL_law_332 : decode cL_law 332 = .ok (.invokevirtual 90, 3) := by decide +kernel
theorem dL_law_335 : decode cL_law 335 = .ok (.aload_n 2, 1) := by decide +kernel
theorem dL_law_336 : decode cL_law 336 = .ok (.invokevirtual 76, 3) := by decide +kernel
theorem dL_law_339 : decode cL_law 339 = .ok (.iload 5, 2) := by decide +kernel
theorem dL_law_341 : decode cL_law 341 = .ok (.if_icmp .eq 5, 3) := by decide +kernel
theorem dL_law_344 : decode cL_law 344 = .ok (.iconst 0, 1) := by decide +kernel
theorem dL_law_345 : decode cL_law 345 = .ok (.ireturn, 1) := by decide +kernel
theorem dL_law_346 : decode cL_law 346 = .ok (.goto 687, 3) := by decide +kernel
theorem dL_law_349 : decode cL_law 349 = .ok (.aload_n 1, 1) := by decide +kernel
theorem dL_law_350 : decode cL_law 350 = .ok (.aload_n 0, 1) := by decide +kernel
theorem dL_law_351 : decode cL_law 351 = .ok (.iload 4, 2) := by decide +kernel
theorem dL_law_353 : decode cL_law 353 = .ok (.iconst 1, 1) := by decide +kernel
theorem dL_law_354 : decode cL_law 354 = .ok (.iadd, 1) := by decide +kernel
theorem dL_law_355 : decode cL_law 355 = .ok (.iaload, 1) := by decide +kernel
theorem dL_law_356 : decode cL_law 356 = .ok (.invokestatic 91, 3) := by decide +kernel
theorem dL_law_359 : decode cL_law 359 = .ok (.istore 5, 2) := by decide +kernel
theorem dL_law_361 : decode cL_law 361 = .ok (.aload_n 2, 1) := by decide +kernel
theorem dL_law_362 : decode cL_law 362 = .ok (.aload_n 0, 1) := by decide +kernel
theorem dL_law_363 : decode cL_law 363 = .ok (.iload 4, 2) := by decide +kernel
theorem dL_law_365 : decode cL_law 365 = .ok (.iconst 1, 1) := by decide +kernel
theorem dL_law_366 : decode cL_law 366 = .ok (.iadd, 1) := by decide +kernel
theorem dL_law_367 : decode cL_law 367 = .ok (.iaload, 1) := by decide +kernel
theorem dL_law_368 : decode cL_law 368 = .ok (.invokevirtual 94, 3) := by decide +kernel
theorem dL_law_371 : decode cL_law 371 = .ok (.aload_n 2, 1) := by decide +kernel
theorem dL_law_372 : decode cL_law 372 = .ok (.invokevirtual 76, 3) := by decide +kernel
theorem dL_law_375 : decode cL_law 375 = .ok (.iload 5, 2) := by decide +kernel
theorem dL_law_377 : decode cL_law 377 = .ok (.if_icmp .eq 5, 3) := by decide +kernel
theorem dL_law_380 : decode cL_law 380 = .ok (.iconst 0, 1) := by decide +kernel
theorem dL_law_381 : decode cL_law 381 = .ok (.ireturn, 1) := by decide +kernel
theorem dL_law_382 : decode cL_law 382 = .ok (.goto 651, 3) := by decide +kernel
theorem dL_law_385 : decode cL_law 385 = .ok (.aload_n 1, 1) := by decide +kernel
theorem dL_law_386 : decode cL_law 386 = .ok (.aload_n 3, 1) := by decide +kernel
theorem dL_law_387 : decode cL_law 387 = .ok (.invokestatic 95, 3) := by decide +kernel
theorem dL_law_390 : decode cL_law 390 = .ok (.istore 5, 2) := by decide +kernel
theorem dL_law_392 : decode cL_law 392 = .ok (.aload_n 2, 1) := by decide +kernel
theorem dL_law_393 : decode cL_law 393 = .ok (.invokevirtual 98, 3) := by decide +kernel
theorem dL_law_396 : decode cL_law 396 = .ok (.istore 6, 2) := by decide +kernel
theorem dL_law_398 : decode cL_law 398 = .ok (.aload_n 2, 1) := by decide +kernel
theorem dL_law_399 : decode cL_law 399 = .ok (.invokevirtual 76, 3) := by decide +kernel
theorem dL_law_402 : decode cL_law 402 = .ok (.iload 5, 2) := by decide +kernel
theorem dL_law_404 : decode cL_law 404 = .ok (.if_icmp .eq 5, 3) := by decide +kernel
theorem dL_law_407 : decode cL_law 407 = .ok (.iconst 0, 1) := by decide +kernel
theorem dL_law_408 : decode cL_law 408 = .ok (.ireturn, 1) := by decide +kernel
theorem dL_law_409 : decode cL_law 409 = .ok (.iload 5, 2) := by decide +kernel
theorem dL_law_411 : decode cL_law 411 = .ok (.ifCond .ne 15, 3) := by decide +kernel
theorem dL_law_414 : decode cL_law 414 = .ok (.aload_n 3, 1) := by decide +kernel
theorem dL_law_415 : decode cL_law 415 = .ok (.iconst 0, 1) := by decide +kernel
theorem dL_law_416 : decode cL_law 416 = .ok (.laload, 1) := by decide +kernel
theorem dL_law_417 : decode cL_law 417 = .ok (.iload 6, 2) := by decide +kernel
theorem dL_law_419 : decode cL_law 419 = .ok (.i2l, 1) := by decide +kernel
theorem dL_law_420 : decode cL_law 420 = .ok (.lcmp, 1) := by decide +kernel
theorem dL_law_421 : decode cL_law 421 = .ok (.ifCond .eq 5, 3) := by decide +kernel
theorem dL_law_424 : decode cL_law 424 = .ok (.iconst 0, 1) := by decide +kernel
theorem dL_law_425 : decode cL_law 425 = .ok (.ireturn, 1) := by decide +kernel
theorem dL_law_426 : decode cL_law 426 = .ok (.goto 607, 3) := by decide +kernel
theorem dL_law_429 : decode cL_law 429 = .ok (.aload_n 1, 1) := by decide +kernel
theorem dL_law_430 : decode cL_law 430 = .ok (.aload_n 0, 1) := by decide +kernel
theorem dL_law_431 : decode cL_law 431 = .ok (.iload 4, 2) := by decide +kernel
theorem dL_law_433 : decode cL_law 433 = .ok (.iconst 1, 1) := by decide +kernel
theorem dL_law_434 : decode cL_law 434 = .ok (.iadd, 1) := by decide +kernel
theorem dL_law_435 : decode cL_law 435 = .ok (.iaload, 1) := by decide +kernel
theorem dL_law_436 : decode cL_law 436 = .ok (.aload_n 3, 1) := by decide +kernel
theorem dL_law_437 : decode cL_law 437 = .ok (.invokestatic 99, 3) := by decide +kernel
theorem dL_law_440 : decode cL_law 440 = .ok (.istore 5, 2) := by decide +kernel
theorem dL_law_442 : decode cL_law 442 = .ok (.aload_n 2, 1) := by decide +kernel
theorem dL_law_443 : decode cL_law 443 = .ok (.aload_n 0, 1) := by decide +kernel
theorem dL_law_444 : decode cL_law 444 = .ok (.iload 4, 2) := by decide +kernel
theorem dL_law_446 : decode cL_law 446 = .ok (.iconst 1, 1) := by decide +kernel
theorem dL_law_447 : decode cL_law 447 = .ok (.iadd, 1) := by decide +kernel
theorem dL_law_448 : decode cL_law 448 = .ok (.iaload, 1) := by decide +kernel
theorem dL_law_449 : decode cL_law 449 = .ok (.invokevirtual 102, 3) := by decide +kernel
theorem dL_law_452 : decode cL_law 452 = .ok (.istore 6, 2) := by decide +kernel
theorem dL_law_454 : decode cL_law 454 = .ok (.aload_n 2, 1) := by decide +kernel
theorem dL_law_455 : decode cL_law 455 = .ok (.invokevirtual 76, 3) := by decide +kernel
theorem dL_law_458 : decode cL_law 458 = .ok (.iload 5, 2) := by decide +kernel
theorem dL_law_460 : decode cL_law 460 = .ok (.if_icmp .eq 5, 3) := by decide +kernel
theorem dL_law_463 : decode cL_law 463 = .ok (.iconst 0, 1) := by decide +kernel
theorem dL_law_464 : decode cL_law 464 = .ok (.ireturn, 1) := by decide +kernel
theorem dL_law_465 : decode cL_law 465 = .ok (.iload 5, 2) := by decide +kernel
theorem dL_law_467 : decode cL_law 467 = .ok (.ifCond .ne 15, 3) := by decide +kernel
theorem dL_law_470 : decode cL_law 470 = .ok (.aload_n 3, 1) := by decide +kernel
theorem dL_law_471 : decode cL_law 471 = .ok (.iconst 0, 1) := by decide +kernel
theorem dL_law_472 : decode cL_law 472 = .ok (.laload, 1) := by decide +kernel
theorem dL_law_473 : decode cL_law 473 = .ok (.iload 6, 2) := by decide +kernel
theorem dL_law_475 : decode cL_law 475 = .ok (.i2l, 1) := by decide +kernel
theorem dL_law_476 : decode cL_law 476 = .ok (.lcmp, 1) := by decide +kernel
theorem dL_law_477 : decode cL_law 477 = .ok (.ifCond .eq 5, 3) := by decide +kernel
theorem dL_law_480 : decode cL_law 480 = .ok (.iconst 0, 1) := by decide +kernel
theorem dL_law_481 : decode cL_law 481 = .ok (.ireturn, 1) := by decide +kernel
theorem dL_law_482 : decode cL_law 482 = .ok (.goto 551, 3) := by decide +kernel
theorem dL_law_485 : decode cL_law 485 = .ok (.aload_n 1, 1) := by decide +kernel
theorem dL_law_486 : decode cL_law 486 = .ok (.aload_n 0, 1) := by decide +kernel
theorem dL_law_487 : decode cL_law 487 = .ok (.iload 4, 2) := by decide +kernel
theorem dL_law_489 : decode cL_law 489 = .ok (.iconst 1, 1) := by decide +kernel
theorem dL_law_490 : decode cL_law 490 = .ok (.iadd, 1) := by decide +kernel
theorem dL_law_491 : decode cL_law 491 = .ok (.iaload, 1) := by decide +kernel
theorem dL_law_492 : decode cL_law 492 = .ok (.ifCond .eq 7, 3) := by decide +kernel
theorem dL_law_495 : decode cL_law 495 = .ok (.iconst 1, 1) := by decide +kernel
theorem dL_law_496 : decode cL_law 496 = .ok (.goto 4, 3) := by decide +kernel
theorem dL_law_499 : decode cL_law 499 = .ok (.iconst 0, 1) := by decide +kernel
theorem dL_law_500 : decode cL_law 500 = .ok (.invokevirtual 103, 3) := by decide +kernel
theorem dL_law_503 : decode cL_law 503 = .ok (.aload_n 2, 1) := by decide +kernel
theorem dL_law_504 : decode cL_law 504 = .ok (.aload_n 0, 1) := by decide +kernel
theorem dL_law_505 : decode cL_law 505 = .ok (.iload 4, 2) := by decide +kernel
theorem dL_law_507 : decode cL_law 507 = .ok (.iconst 1, 1) := by decide +kernel
theorem dL_law_508 : decode cL_law 508 = .ok (.iadd, 1) := by decide +kernel
theorem dL_law_509 : decode cL_law 509 = .ok (.iaload, 1) := by decide +kernel
theorem dL_law_510 : decode cL_law 510 = .ok (.ifCond .eq 7, 3) := by decide +kernel
theorem dL_law_513 : decode cL_law 513 = .ok (.iconst 1, 1) := by decide +kernel
theorem dL_law_514 : decode cL_law 514 = .ok (.goto 4, 3) := by decide +kernel
theorem dL_law_517 : decode cL_law 517 = .ok (.iconst 0, 1) := by decide +kernel
theorem dL_law_518 : decode cL_law 518 = .ok (.invokevirtual 107, 3) := by decide +kernel
theorem dL_law_521 : decode cL_law 521 = .ok (.if_icmp .eq 512, 3) := by decide +kernel
theorem dL_law_524 : decode cL_law 524 = .ok (.iconst 0, 1) := by decide +kernel
theorem dL_law_525 : decode cL_law 525 = .ok (.ireturn, 1) := by decide +kernel
theorem dL_law_526 : decode cL_law 526 = .ok (.aload_n 1, 1) := by decide +kernel
theorem dL_law_527 : decode cL_law 527 = .ok (.aload_n 0, 1) := by decide +kernel
theorem dL_law_528 : decode cL_law 528 = .ok (.iload 4, 2) := by decide +kernel
theorem dL_law_530 : decode cL_law 530 = .ok (.iconst 1, 1) := by decide +kernel
theorem dL_law_531 : decode cL_law 531 = .ok (.iadd, 1) := by decide +kernel
theorem dL_law_532 : decode cL_law 532 = .ok (.iaload, 1) := by decide +kernel
theorem dL_law_533 : decode cL_law 533 = .ok (.aload_n 0, 1) := by decide +kernel
theorem dL_law_534 : decode cL_law 534 = .ok (.iload 4, 2) := by decide +kernel
theorem dL_law_536 : decode cL_law 536 = .ok (.iconst 2, 1) := by decide +kernel
theorem dL_law_537 : decode cL_law 537 = .ok (.iadd, 1) := by decide +kernel
theorem dL_law_538 : decode cL_law 538 = .ok (.iaload, 1) := by decide +kernel
theorem dL_law_539 : decode cL_law 539 = .ok (.aload_n 3, 1) := by decide +kernel
theorem dL_law_540 : decode cL_law 540 = .ok (.invokestatic 108, 3) := by decide +kernel
theorem dL_law_543 : decode cL_law 543 = .ok (.istore 5, 2) := by decide +kernel
theorem dL_law_545 : decode cL_law 545 = .ok (.aload_n 2, 1) := by decide +kernel
theorem dL_law_546 : decode cL_law 546 = .ok (.aload_n 0, 1) := by decide +kernel
theorem dL_law_547 : decode cL_law 547 = .ok (.iload 4, 2) := by decide +kernel
theorem dL_law_549 : decode cL_law 549 = .ok (.iconst 1, 1) := by decide +kernel
theorem dL_law_550 : decode cL_law 550 = .ok (.iadd, 1) := by decide +kernel
theorem dL_law_551 : decode cL_law 551 = .ok (.iaload, 1) := by decide +kernel
theorem dL_law_552 : decode cL_law 552 = .ok (.aload_n 0, 1) := by decide +kernel
theorem dL_law_553 : decode cL_law 553 = .ok (.iload 4, 2) := by decide +kernel
theorem dL_law_555 : decode cL_law 555 = .ok (.iconst 2, 1) := by decide +kernel
theorem dL_law_556 : decode cL_law 556 = .ok (.iadd, 1) := by decide +kernel
theorem dL_law_557 : decode cL_law 557 = .ok (.iaload, 1) := by decide +kernel
theorem dL_law_558 : decode cL_law 558 = .ok (.invokevirtual 110, 3) := by decide +kernel
theorem dL_law_561 : decode cL_law 561 = .ok (.istore 6, 2) := by decide +kernel
theorem dL_law_563 : decode cL_law 563 = .ok (.aload_n 2, 1) := by decide +kernel
theorem dL_law_564 : decode cL_law 564 = .ok (.invokevirtual 76, 3) := by decide +kernel
theorem dL_law_567 : decode cL_law 567 = .ok (.iload 5, 2) := by decide +kernel
theorem dL_law_569 : decode cL_law 569 = .ok (.if_icmp .eq 5, 3) := by decide +kernel
theorem dL_law_572 : decode cL_law 572 = .ok (.iconst 0, 1) := by decide +kernel
theorem dL_law_573 : decode cL_law 573 = .ok (.ireturn, 1) := by decide +kernel
theorem dL_law_574 : decode cL_law 574 = .ok (.iload 5, 2) := by decide +kernel
theorem dL_law_576 : decode cL_law 576 = .ok (.ifCond .ne 15, 3) := by decide +kernel
theorem dL_law_579 : decode cL_law 579 = .ok (.aload_n 3, 1) := by decide +kernel
theorem dL_law_580 : decode cL_law 580 = .ok (.iconst 0, 1) := by decide +kernel
theorem dL_law_581 : decode cL_law 581 = .ok (.laload, 1) := by decide +kernel
theorem dL_law_582 : decode cL_law 582 = .ok (.iload 6, 2) := by decide +kernel
theorem dL_law_584 : decode cL_law 584 = .ok (.i2l, 1) := by decide +kernel
theorem dL_law_585 : decode cL_law 585 = .ok (.lcmp, 1) := by decide +kernel
theorem dL_law_586 : decode cL_law 586 = .ok (.ifCond .eq 5, 3) := by decide +kernel
theorem dL_law_589 : decode cL_law 589 = .ok (.iconst 0, 1) := by decide +kernel
theorem dL_law_590 : decode cL_law 590 = .ok (.ireturn, 1) := by decide +kernel
theorem dL_law_591 : decode cL_law 591 = .ok (.goto 442, 3) := by decide +kernel
theorem dL_law_594 : decode cL_law 594 = .ok (.aload_n 1, 1) := by decide +kernel
theorem dL_law_595 : decode cL_law 595 = .ok (.aload_n 0, 1) := by decide +kernel
theorem dL_law_596 : decode cL_law 596 = .ok (.iload 4, 2) := by decide +kernel
theorem dL_law_598 : decode cL_law 598 = .ok (.iconst 1, 1) := by decide +kernel
theorem dL_law_599 : decode cL_law 599 = .ok (.iadd, 1) := by decide +kernel
theorem dL_law_600 : decode cL_law 600 = .ok (.iaload, 1) := by decide +kernel
theorem dL_law_601 : decode cL_law 601 = .ok (.aload_n 0, 1) := by decide +kernel
theorem dL_law_602 : decode cL_law 602 = .ok (.iload 4, 2) := by decide +kernel
theorem dL_law_604 : decode cL_law 604 = .ok (.iconst 2, 1) := by decide +kernel
theorem dL_law_605 : decode cL_law 605 = .ok (.iadd, 1) := by decide +kernel
theorem dL_law_606 : decode cL_law 606 = .ok (.iaload, 1) := by decide +kernel
theorem dL_law_607 : decode cL_law 607 = .ok (.aload_n 3, 1) := by decide +kernel
theorem dL_law_608 : decode cL_law 608 = .ok (.invokestatic 111, 3) := by decide +kernel
theorem dL_law_611 : decode cL_law 611 = .ok (.istore 5, 2) := by decide +kernel
theorem dL_law_613 : decode cL_law 613 = .ok (.aload_n 2, 1) := by decide +kernel
theorem dL_law_614 : decode cL_law 614 = .ok (.aload_n 0, 1) := by decide +kernel
theorem dL_law_615 : decode cL_law 615 = .ok (.iload 4, 2) := by decide +kernel
theorem dL_law_617 : decode cL_law 617 = .ok (.iconst 1, 1) := by decide +kernel
theorem dL_law_618 : decode cL_law 618 = .ok (.iadd, 1) := by decide +kernel
theorem dL_law_619 : decode cL_law 619 = .ok (.iaload, 1) := by decide +kernel
theorem dL_law_620 : decode cL_law 620 = .ok (.aload_n 0, 1) := by decide +kernel
theorem dL_law_621 : decode cL_law 621 = .ok (.iload 4, 2) := by decide +kernel
theorem dL_law_623 : decode cL_law 623 = .ok (.iconst 2, 1) := by decide +kernel
theorem dL_law_624 : decode cL_law 624 = .ok (.iadd, 1) := by decide +kernel
theorem dL_law_625 : decode cL_law 625 = .ok (.iaload, 1) := by decide +kernel
theorem dL_law_626 : decode cL_law 626 = .ok (.invokevirtual 113, 3) := by decide +kernel
theorem dL_law_629 : decode cL_law 629 = .ok (.istore 6, 2) := by decide +kernel
theorem dL_law_631 : decode cL_law 631 = .ok (.aload_n 2, 1) := by decide +kernel
theorem dL_law_632 : decode cL_law 632 = .ok (.invokevirtual 76, 3) := by decide +kernel
theorem dL_law_635 : decode cL_law 635 = .ok (.iload 5, 2) := by decide +kernel
theorem dL_law_637 : decode cL_law 637 = .ok (.if_icmp .eq 5, 3) := by decide +kernel
theorem dL_law_640 : decode cL_law 640 = .ok (.iconst 0, 1) := by decide +kernel
theorem dL_law_641 : decode cL_law 641 = .ok (.ireturn, 1) := by decide +kernel
theorem dL_law_642 : decode cL_law 642 = .ok (.iload 5, 2) := by decide +kernel
theorem dL_law_644 : decode cL_law 644 = .ok (.ifCond .ne 15, 3) := by decide +kernel
theorem dL_law_647 : decode cL_law 647 = .ok (.aload_n 3, 1) := by decide +kernel
theorem dL_law_648 : decode cL_law 648 = .ok (.iconst 0, 1) := by decide +kernel
theorem dL_law_649 : decode cL_law 649 = .ok (.laload, 1) := by decide +kernel
theorem dL_law_650 : decode cL_law 650 = .ok (.iload 6, 2) := by decide +kernel
theorem dL_law_652 : decode cL_law 652 = .ok (.i2l, 1) := by decide +kernel
theorem dL_law_653 : decode cL_law 653 = .ok (.lcmp, 1) := by decide +kernel
theorem dL_law_654 : decode cL_law 654 = .ok (.ifCond .eq 5, 3) := by decide +kernel
theorem dL_law_657 : decode cL_law 657 = .ok (.iconst 0, 1) := by decide +kernel
theorem dL_law_658 : decode cL_law 658 = .ok (.ireturn, 1) := by decide +kernel
theorem dL_law_659 : decode cL_law 659 = .ok (.goto 374, 3) := by decide +kernel
theorem dL_law_662 : decode cL_law 662 = .ok (.aload_n 1, 1) := by decide +kernel
theorem dL_law_663 : decode cL_law 663 = .ok (.aload_n 0, 1) := by decide +kernel
theorem dL_law_664 : decode cL_law 664 = .ok (.iload 4, 2) := by decide +kernel
theorem dL_law_666 : decode cL_law 666 = .ok (.iconst 1, 1) := by decide +kernel
theorem dL_law_667 : decode cL_law 667 = .ok (.iadd, 1) := by decide +kernel
theorem dL_law_668 : decode cL_law 668 = .ok (.iaload, 1) := by decide +kernel
theorem dL_law_669 : decode cL_law 669 = .ok (.aload_n 0, 1) := by decide +kernel
theorem dL_law_670 : decode cL_law 670 = .ok (.iload 4, 2) := by decide +kernel
theorem dL_law_672 : decode cL_law 672 = .ok (.iconst 2, 1) := by decide +kernel
theorem dL_law_673 : decode cL_law 673 = .ok (.iadd, 1) := by decide +kernel
theorem dL_law_674 : decode cL_law 674 = .ok (.iaload, 1) := by decide +kernel
theorem dL_law_675 : decode cL_law 675 = .ok (.aload_n 3, 1) := by decide +kernel
theorem dL_law_676 : decode cL_law 676 = .ok (.invokestatic 114, 3) := by decide +kernel
theorem dL_law_679 : decode cL_law 679 = .ok (.istore 5, 2) := by decide +kernel
theorem dL_law_681 : decode cL_law 681 = .ok (.aload_n 2, 1) := by decide +kernel
theorem dL_law_682 : decode cL_law 682 = .ok (.aload_n 0, 1) := by decide +kernel
theorem dL_law_683 : decode cL_law 683 = .ok (.iload 4, 2) := by decide +kernel
theorem dL_law_685 : decode cL_law 685 = .ok (.iconst 1, 1) := by decide +kernel
theorem dL_law_686 : decode cL_law 686 = .ok (.iadd, 1) := by decide +kernel
theorem dL_law_687 : decode cL_law 687 = .ok (.iaload, 1) := by decide +kernel
theorem dL_law_688 : decode cL_law 688 = .ok (.aload_n 0, 1) := by decide +kernel
theorem dL_law_689 : decode cL_law 689 = .ok (.iload 4, 2) := by decide +kernel
theorem dL_law_691 : decode cL_law 691 = .ok (.iconst 2, 1) := by decide +kernel
theorem dL_law_692 : decode cL_law 692 = .ok (.iadd, 1) := by decide +kernel
theorem dL_law_693 : decode cL_law 693 = .ok (.iaload, 1) := by decide +kernel
theorem dL_law_694 : decode cL_law 694 = .ok (.invokevirtual 116, 3) := by decide +kernel
theorem dL_law_697 : decode cL_law 697 = .ok (.istore 6, 2) := by decide +kernel
theorem dL_law_699 : decode cL_law 699 = .ok (.aload_n 2, 1) := by decide +kernel
theorem dL_law_700 : decode cL_law 700 = .ok (.invokevirtual 76, 3) := by decide +kernel
theorem dL_law_703 : decode cL_law 703 = .ok (.iload 5, 2) := by decide +kernel
theorem dL_law_705 : decode cL_law 705 = .ok (.if_icmp .eq 5, 3) := by decide +kernel
theorem dL_law_708 : decode cL_law 708 = .ok (.iconst 0, 1) := by decide +kernel
theorem dL_law_709 : decode cL_law 709 = .ok (.ireturn, 1) := by decide +kernel
theorem dL_law_710 : decode cL_law 710 = .ok (.iload 5, 2) := by decide +kernel
theorem dL_law_712 : decode cL_law 712 = .ok (.ifCond .ne 15, 3) := by decide +kernel
theorem dL_law_715 : decode cL_law 715 = .ok (.aload_n 3, 1) := by decide +kernel
theorem dL_law_716 : decode cL_law 716 = .ok (.iconst 0, 1) := by decide +kernel
theorem dL_law_717 : decode cL_law 717 = .ok (.laload, 1) := by decide +kernel
theorem dL_law_718 : decode cL_law 718 = .ok (.iload 6, 2) := by decide +kernel
theorem dL_law_720 : decode cL_law 720 = .ok (.i2l, 1) := by decide +kernel
theorem dL_law_721 : decode cL_law 721 = .ok (.lcmp, 1) := by decide +kernel
theorem dL_law_722 : decode cL_law 722 = .ok (.ifCond .eq 5, 3) := by decide +kernel
theorem dL_law_725 : decode cL_law 725 = .ok (.iconst 0, 1) := by decide +kernel
theorem dL_law_726 : decode cL_law 726 = .ok (.ireturn, 1) := by decide +kernel
theorem dL_law_727 : decode cL_law 727 = .ok (.goto 306, 3) := by decide +kernel
theorem dL_law_730 : decode cL_law 730 = .ok (.aload_n 1, 1) := by decide +kernel
theorem dL_law_731 : decode cL_law 731 = .ok (.aload_n 0, 1) := by decide +kernel
theorem dL_law_732 : decode cL_law 732 = .ok (.iload 4, 2) := by decide +kernel
theorem dL_law_734 : decode cL_law 734 = .ok (.iconst 1, 1) := by decide +kernel
theorem dL_law_735 : decode cL_law 735 = .ok (.iadd, 1) := by decide +kernel
theorem dL_law_736 : decode cL_law 736 = .ok (.iaload, 1) := by decide +kernel
theorem dL_law_737 : decode cL_law 737 = .ok (.aload_n 0, 1) := by decide +kernel
theorem dL_law_738 : decode cL_law 738 = .ok (.iload 4, 2) := by decide +kernel
theorem dL_law_740 : decode cL_law 740 = .ok (.iconst 2, 1) := by decide +kernel
theorem dL_law_741 : decode cL_law 741 = .ok (.iadd, 1) := by decide +kernel
theorem dL_law_742 : decode cL_law 742 = .ok (.iaload, 1) := by decide +kernel
theorem dL_law_743 : decode cL_law 743 = .ok (.aload_n 3, 1) := by decide +kernel
theorem dL_law_744 : decode cL_law 744 = .ok (.invokestatic 117, 3) := by decide +kernel
theorem dL_law_747 : decode cL_law 747 = .ok (.istore 5, 2) := by decide +kernel
theorem dL_law_749 : decode cL_law 749 = .ok (.aload_n 2, 1) := by decide +kernel
theorem dL_law_750 : decode cL_law 750 = .ok (.aload_n 0, 1) := by decide +kernel
theorem dL_law_751 : decode cL_law 751 = .ok (.iload 4, 2) := by decide +kernel
theorem dL_law_753 : decode cL_law 753 = .ok (.iconst 1, 1) := by decide +kernel
theorem dL_law_754 : decode cL_law 754 = .ok (.iadd, 1) := by decide +kernel
theorem dL_law_755 : decode cL_law 755 = .ok (.iaload, 1) := by decide +kernel
theorem dL_law_756 : decode cL_law 756 = .ok (.aload_n 0, 1) := by decide +kernel
theorem dL_law_757 : decode cL_law 757 = .ok (.iload 4, 2) := by decide +kernel
theorem dL_law_759 : decode cL_law 759 = .ok (.iconst 2, 1) := by decide +kernel
theorem dL_law_760 : decode cL_law 760 = .ok (.iadd, 1) := by decide +kernel
theorem dL_law_761 : decode cL_law 761 = .ok (.iaload, 1) := by decide +kernel
theorem dL_law_762 : decode cL_law 762 = .ok (.invokevirtual 119, 3) := by decide +kernel
theorem dL_law_765 : decode cL_law 765 = .ok (.istore 6, 2) := by decide +kernel
theorem dL_law_767 : decode cL_law 767 = .ok (.aload_n 2, 1) := by decide +kernel
theorem dL_law_768 : decode cL_law 768 = .ok (.invokevirtual 76, 3) := by decide +kernel
theorem dL_law_771 : decode cL_law 771 = .ok (.iload 5, 2) := by decide +kernel
theorem dL_law_773 : decode cL_law 773 = .ok (.if_icmp .eq 5, 3) := by decide +kernel
theorem dL_law_776 : decode cL_law 776 = .ok (.iconst 0, 1) := by decide +kernel
theorem dL_law_777 : decode cL_law 777 = .ok (.ireturn, 1) := by decide +kernel
theorem dL_law_778 : decode cL_law 778 = .ok (.iload 5, 2) := by decide +kernel
theorem dL_law_780 : decode cL_law 780 = .ok (.ifCond .ne 22, 3) := by decide +kernel
theorem dL_law_783 : decode cL_law 783 = .ok (.aload_n 3, 1) := by decide +kernel
theorem dL_law_784 : decode cL_law 784 = .ok (.iconst 0, 1) := by decide +kernel
theorem dL_law_785 : decode cL_law 785 = .ok (.laload, 1) := by decide +kernel
theorem dL_law_786 : decode cL_law 786 = .ok (.iload 6, 2) := by decide +kernel
theorem dL_law_788 : decode cL_law 788 = .ok (.ifCond .eq 7, 3) := by decide +kernel
theorem dL_law_791 : decode cL_law 791 = .ok (.lconst 1, 1) := by decide +kernel
theorem dL_law_792 : decode cL_law 792 = .ok (.goto 4, 3) := by decide +kernel
theorem dL_law_795 : decode cL_law 795 = .ok (.lconst 0, 1) := by decide +kernel
theorem dL_law_796 : decode cL_law 796 = .ok (.lcmp, 1) := by decide +kernel
theorem dL_law_797 : decode cL_law 797 = .ok (.ifCond .eq 5, 3) := by decide +kernel
theorem dL_law_800 : decode cL_law 800 = .ok (.iconst 0, 1) := by decide +kernel
theorem dL_law_801 : decode cL_law 801 = .ok (.ireturn, 1) := by decide +kernel
theorem dL_law_802 : decode cL_law 802 = .ok (.goto 231, 3) := by decide +kernel
theorem dL_law_805 : decode cL_law 805 = .ok (.aload_n 1, 1) := by decide +kernel
theorem dL_law_806 : decode cL_law 806 = .ok (.aload_n 0, 1) := by decide +kernel
theorem dL_law_807 : decode cL_law 807 = .ok (.iload 4, 2) := by decide +kernel
theorem dL_law_809 : decode cL_law 809 = .ok (.iconst 1, 1) := by decide +kernel
theorem dL_law_810 : decode cL_law 810 = .ok (.iadd, 1) := by decide +kernel
theorem dL_law_811 : decode cL_law 811 = .ok (.iaload, 1) := by decide +kernel
theorem dL_law_812 : decode cL_law 812 = .ok (.aload_n 0, 1) := by decide +kernel
theorem dL_law_813 : decode cL_law 813 = .ok (.iload 4, 2) := by decide +kernel
theorem dL_law_815 : decode cL_law 815 = .ok (.iconst 2, 1) := by decide +kernel
theorem dL_law_816 : decode cL_law 816 = .ok (.iadd, 1) := by decide +kernel
theorem dL_law_817 : decode cL_law 817 = .ok (.iaload, 1) := by decide +kernel
theorem dL_law_818 : decode cL_law 818 = .ok (.aload_n 0, 1) := by decide +kernel
theorem dL_law_819 : decode cL_law 819 = .ok (.iload 4, 2) := by decide +kernel
theorem dL_law_821 : decode cL_law 821 = .ok (.iconst 3, 1) := by decide +kernel
theorem dL_law_822 : decode cL_law 822 = .ok (.iadd, 1) := by decide +kernel
theorem dL_law_823 : decode cL_law 823 = .ok (.iaload, 1) := by decide +kernel
theorem dL_law_824 : decode cL_law 824 = .ok (.aload_n 3, 1) := by decide +kernel
theorem dL_law_825 : decode cL_law 825 = .ok (.invokestatic 120, 3) := by decide +kernel
theorem dL_law_828 : decode cL_law 828 = .ok (.istore 5, 2) := by decide +kernel
theorem dL_law_830 : decode cL_law 830 = .ok (.aload_n 2, 1) := by decide +kernel
theorem dL_law_831 : decode cL_law 831 = .ok (.aload_n 0, 1) := by decide +kernel
theorem dL_law_832 : decode cL_law 832 = .ok (.iload 4, 2) := by decide +kernel
theorem dL_law_834 : decode cL_law 834 = .ok (.iconst 1, 1) := by decide +kernel
theorem dL_law_835 : decode cL_law 835 = .ok (.iadd, 1) := by decide +kernel
theorem dL_law_836 : decode cL_law 836 = .ok (.iaload, 1) := by decide +kernel
theorem dL_law_837 : decode cL_law 837 = .ok (.aload_n 0, 1) := by decide +kernel
theorem dL_law_838 : decode cL_law 838 = .ok (.iload 4, 2) := by decide +kernel
theorem dL_law_840 : decode cL_law 840 = .ok (.iconst 2, 1) := by decide +kernel
theorem dL_law_841 : decode cL_law 841 = .ok (.iadd, 1) := by decide +kernel
theorem dL_law_842 : decode cL_law 842 = .ok (.iaload, 1) := by decide +kernel
theorem dL_law_843 : decode cL_law 843 = .ok (.aload_n 0, 1) := by decide +kernel
theorem dL_law_844 : decode cL_law 844 = .ok (.iload 4, 2) := by decide +kernel
theorem dL_law_846 : decode cL_law 846 = .ok (.iconst 3, 1) := by decide +kernel
theorem dL_law_847 : decode cL_law 847 = .ok (.iadd, 1) := by decide +kernel
theorem dL_law_848 : decode cL_law 848 = .ok (.iaload, 1) := by decide +kernel
theorem dL_law_849 : decode cL_law 849 = .ok (.invokevirtual 122, 3) := by decide +kernel
theorem dL_law_852 : decode cL_law 852 = .ok (.istore 6, 2) := by decide +kernel
theorem dL_law_854 : decode cL_law 854 = .ok (.aload_n 2, 1) := by decide +kernel
theorem dL_law_855 : decode cL_law 855 = .ok (.invokevirtual 76, 3) := by decide +kernel
theorem dL_law_858 : decode cL_law 858 = .ok (.iload 5, 2) := by decide +kernel
theorem dL_law_860 : decode cL_law 860 = .ok (.if_icmp .eq 5, 3) := by decide +kernel
theorem dL_law_863 : decode cL_law 863 = .ok (.iconst 0, 1) := by decide +kernel
theorem dL_law_864 : decode cL_law 864 = .ok (.ireturn, 1) := by decide +kernel
theorem dL_law_865 : decode cL_law 865 = .ok (.iload 5, 2) := by decide +kernel
theorem dL_law_867 : decode cL_law 867 = .ok (.ifCond .ne 15, 3) := by decide +kernel
theorem dL_law_870 : decode cL_law 870 = .ok (.aload_n 3, 1) := by decide +kernel
theorem dL_law_871 : decode cL_law 871 = .ok (.iconst 0, 1) := by decide +kernel
theorem dL_law_872 : decode cL_law 872 = .ok (.laload, 1) := by decide +kernel
theorem dL_law_873 : decode cL_law 873 = .ok (.iload 6, 2) := by decide +kernel
theorem dL_law_875 : decode cL_law 875 = .ok (.i2l, 1) := by decide +kernel
theorem dL_law_876 : decode cL_law 876 = .ok (.lcmp, 1) := by decide +kernel
theorem dL_law_877 : decode cL_law 877 = .ok (.ifCond .eq 5, 3) := by decide +kernel
theorem dL_law_880 : decode cL_law 880 = .ok (.iconst 0, 1) := by decide +kernel
theorem dL_law_881 : decode cL_law 881 = .ok (.ireturn, 1) := by decide +kernel
theorem dL_law_882 : decode cL_law 882 = .ok (.goto 151, 3) := by decide +kernel
theorem dL_law_885 : decode cL_law 885 = .ok (.aload_n 1, 1) := by decide +kernel
theorem dL_law_886 : decode cL_law 886 = .ok (.aload_n 0, 1) := by decide +kernel
theorem dL_law_887 : decode cL_law 887 = .ok (.iload 4, 2) := by decide +kernel
theorem dL_law_889 : decode cL_law 889 = .ok (.iconst 1, 1) := by decide +kernel
theorem dL_law_890 : decode cL_law 890 = .ok (.iadd, 1) := by decide +kernel
theorem dL_law_891 : decode cL_law 891 = .ok (.iaload, 1) := by decide +kernel
theorem dL_law_892 : decode cL_law 892 = .ok (.invokestatic 123, 3) := by decide +kernel
theorem dL_law_895 : decode cL_law 895 = .ok (.istore 5, 2) := by decide +kernel
theorem dL_law_897 : decode cL_law 897 = .ok (.aload_n 2, 1) := by decide +kernel
theorem dL_law_898 : decode cL_law 898 = .ok (.aload_n 0, 1) := by decide +kernel
theorem dL_law_899 : decode cL_law 899 = .ok (.iload 4, 2) := by decide +kernel
theorem dL_law_901 : decode cL_law 901 = .ok (.iconst 1, 1) := by decide +kernel
theorem dL_law_902 : decode cL_law 902 = .ok (.iadd, 1) := by decide +kernel
theorem dL_law_903 : decode cL_law 903 = .ok (.iaload, 1) := by decide +kernel
theorem dL_law_904 : decode cL_law 904 = .ok (.invokevirtual 125, 3) := by decide +kernel
theorem dL_law_907 : decode cL_law 907 = .ok (.aload_n 2, 1) := by decide +kernel
theorem dL_law_908 : decode cL_law 908 = .ok (.invokevirtual 76, 3) := by decide +kernel
theorem dL_law_911 : decode cL_law 911 = .ok (.iload 5, 2) := by decide +kernel
theorem dL_law_913 : decode cL_law 913 = .ok (.if_icmp .eq 5, 3) := by decide +kernel
theorem dL_law_916 : decode cL_law 916 = .ok (.iconst 0, 1) := by decide +kernel
theorem dL_law_917 : decode cL_law 917 = .ok (.ireturn, 1) := by decide +kernel
theorem dL_law_918 : decode cL_law 918 = .ok (.goto 115, 3) := by decide +kernel
theorem dL_law_921 : decode cL_law 921 = .ok (.aload_n 1, 1) := by decide +kernel
theorem dL_law_922 : decode cL_law 922 = .ok (.aload_n 0, 1) := by decide +kernel
theorem dL_law_923 : decode cL_law 923 = .ok (.iload 4, 2) := by decide +kernel
theorem dL_law_925 : decode cL_law 925 = .ok (.iconst 1, 1) := by decide +kernel
theorem dL_law_926 : decode cL_law 926 = .ok (.iadd, 1) := by decide +kernel
theorem dL_law_927 : decode cL_law 927 = .ok (.iaload, 1) := by decide +kernel
theorem dL_law_928 : decode cL_law 928 = .ok (.aload_n 3, 1) := by decide +kernel
theorem dL_law_929 : decode cL_law 929 = .ok (.invokestatic 126, 3) := by decide +kernel
theorem dL_law_932 : decode cL_law 932 = .ok (.istore 5, 2) := by decide +kernel
theorem dL_law_934 : decode cL_law 934 = .ok (.aload_n 2, 1) := by decide +kernel
theorem dL_law_935 : decode cL_law 935 = .ok (.aload_n 0, 1) := by decide +kernel
theorem dL_law_936 : decode cL_law 936 = .ok (.iload 4, 2) := by decide +kernel
theorem dL_law_938 : decode cL_law 938 = .ok (.iconst 1, 1) := by decide +kernel
theorem dL_law_939 : decode cL_law 939 = .ok (.iadd, 1) := by decide +kernel
theorem dL_law_940 : decode cL_law 940 = .ok (.iaload, 1) := by decide +kernel
theorem dL_law_941 : decode cL_law 941 = .ok (.invokevirtual 128, 3) := by decide +kernel
theorem dL_law_944 : decode cL_law 944 = .ok (.istore 6, 2) := by decide +kernel
theorem dL_law_946 : decode cL_law 946 = .ok (.aload_n 2, 1) := by decide +kernel
theorem dL_law_947 : decode cL_law 947 = .ok (.invokevirtual 76, 3) := by decide +kernel
theorem dL_law_950 : decode cL_law 950 = .ok (.iload 5, 2) := by decide +kernel
theorem dL_law_952 : decode cL_law 952 = .ok (.if_icmp .eq 5, 3) := by decide +kernel
theorem dL_law_955 : decode cL_law 955 = .ok (.iconst 0, 1) := by decide +kernel
theorem dL_law_956 : decode cL_law 956 = .ok (.ireturn, 1) := by decide +kernel
theorem dL_law_957 : decode cL_law 957 = .ok (.iload 5, 2) := by decide +kernel
theorem dL_law_959 : decode cL_law 959 = .ok (.ifCond .ne 15, 3) := by decide +kernel
theorem dL_law_962 : decode cL_law 962 = .ok (.aload_n 3, 1) := by decide +kernel
theorem dL_law_963 : decode cL_law 963 = .ok (.iconst 0, 1) := by decide +kernel
theorem dL_law_964 : decode cL_law 964 = .ok (.laload, 1) := by decide +kernel
theorem dL_law_965 : decode cL_law 965 = .ok (.iload 6, 2) := by decide +kernel
theorem dL_law_967 : decode cL_law 967 = .ok (.i2l, 1) := by decide +kernel
theorem dL_law_968 : decode cL_law 968 = .ok (.lcmp, 1) := by decide +kernel
theorem dL_law_969 : decode cL_law 969 = .ok (.ifCond .eq 5, 3) := by decide +kernel
theorem dL_law_972 : decode cL_law 972 = .ok (.iconst 0, 1) := by decide +kernel
theorem dL_law_973 : decode cL_law 973 = .ok (.ireturn, 1) := by decide +kernel
theorem dL_law_974 : decode cL_law 974 = .ok (.goto 59, 3) := by decide +kernel
theorem dL_law_977 : decode cL_law 977 = .ok (.aload_n 1, 1) := by decide +kernel
theorem dL_law_978 : decode cL_law 978 = .ok (.aload_n 0, 1) := by decide +kernel
theorem dL_law_979 : decode cL_law 979 = .ok (.iload 4, 2) := by decide +kernel
theorem dL_law_981 : decode cL_law 981 = .ok (.iconst 1, 1) := by decide +kernel
theorem dL_law_982 : decode cL_law 982 = .ok (.iadd, 1) := by decide +kernel
theorem dL_law_983 : decode cL_law 983 = .ok (.iaload, 1) := by decide +kernel
theorem dL_law_984 : decode cL_law 984 = .ok (.aload_n 3, 1) := by decide +kernel
theorem dL_law_985 : decode cL_law 985 = .ok (.invokestatic 129, 3) := by decide +kernel
theorem dL_law_988 : decode cL_law 988 = .ok (.istore 5, 2) := by decide +kernel
theorem dL_law_990 : decode cL_law 990 = .ok (.aload_n 2, 1) := by decide +kernel
theorem dL_law_991 : decode cL_law 991 = .ok (.aload_n 0, 1) := by decide +kernel
theorem dL_law_992 : decode cL_law 992 = .ok (.iload 4, 2) := by decide +kernel
theorem dL_law_994 : decode cL_law 994 = .ok (.iconst 1, 1) := by decide +kernel
theorem dL_law_995 : decode cL_law 995 = .ok (.iadd, 1) := by decide +kernel
theorem dL_law_996 : decode cL_law 996 = .ok (.iaload, 1) := by decide +kernel
theorem dL_law_997 : decode cL_law 997 = .ok (.invokevirtual 131, 3) := by decide +kernel
theorem dL_law_1000 : decode cL_law 1000 = .ok (.istore 6, 2) := by decide +kernel
theorem dL_law_1002 : decode cL_law 1002 = .ok (.aload_n 2, 1) := by decide +kernel
theorem dL_law_1003 : decode cL_law 1003 = .ok (.invokevirtual 76, 3) := by decide +kernel
theorem dL_law_1006 : decode cL_law 1006 = .ok (.iload 5, 2) := by decide +kernel
theorem dL_law_1008 : decode cL_law 1008 = .ok (.if_icmp .eq 5, 3) := by decide +kernel
theorem dL_law_1011 : decode cL_law 1011 = .ok (.iconst 0, 1) := by decide +kernel
theorem dL_law_1012 : decode cL_law 1012 = .ok (.ireturn, 1) := by decide +kernel
theorem dL_law_1013 : decode cL_law 1013 = .ok (.iload 5, 2) := by decide +kernel
theorem dL_law_1015 : decode cL_law 1015 = .ok (.ifCond .ne 15, 3) := by decide +kernel
theorem dL_law_1018 : decode cL_law 1018 = .ok (.aload_n 3, 1) := by decide +kernel
theorem dL_law_1019 : decode cL_law 1019 = .ok (.iconst 0, 1) := by decide +kernel
theorem dL_law_1020 : decode cL_law 1020 = .ok (.laload, 1) := by decide +kernel
theorem dL_law_1021 : decode cL_law 1021 = .ok (.iload 6, 2) := by decide +kernel
theorem dL_law_1023 : decode cL_law 1023 = .ok (.i2l, 1) := by decide +kernel
theorem dL_law_1024 : decode cL_law 1024 = .ok (.lcmp, 1) := by decide +kernel
theorem dL_law_1025 : decode cL_law 1025 = .ok (.ifCond .eq 5, 3) := by decide +kernel
theorem dL_law_1028 : decode cL_law 1028 = .ok (.iconst 0, 1) := by decide +kernel
theorem dL_law_1029 : decode cL_law 1029 = .ok (.ireturn, 1) := by decide +kernel
theorem dL_law_1030 : decode cL_law 1030 = .ok (.goto 3, 3) := by decide +kernel
theorem dL_law_1033 : decode cL_law 1033 = .ok (.iinc 4 5, 3) := by decide +kernel
theorem dL_law_1036 : decode cL_law 1036 = .ok (.goto (-1013), 3) := by decide +kernel
theorem dL_law_1039 : decode cL_law 1039 = .ok (.iconst 1, 1) := by decide +kernel
theorem dL_law_1040 : decode cL_law 1040 = .ok (.ireturn, 1) := by decide +kernel
end
section
/-! the world: cells by number, in the order in which the law makes them; what a step reads and writes, as functions -/
abbrev Wo : Type := Nat → Nat → Int32
/-- how many cells there are, and which fields are still null -/
abbrev La : Type := Nat × (Nat → Nat → Bool)
def obL : List (Option (Nat × List (Option Nat))) :=
  [some (4, [some 1, some 7, some 13, some 14, some 16, some 18, none, none, some 19, some 20, some 21]),
   some (0, [some 2, some 3, some 4, some 5, none, none]), none, none, none, none, none,
   some (0, [some 8, some 9, some 10, some 11, none, none]), none, none, none, none, none,
   some (3, [none, none]),
   some (2, [some 15, none, none]), none,
   some (1, [some 17, none, none]), none, none, none, none, none,
   some (5, [none, some 23, some 24, none, some 25, none, none, none, some 26, some 27, some 28, some 29, some 30, none, none, none, none, some 31, some 32, some 33])]
def arL : List (Option Nat) :=
  [none, none, some 792, some 8, some 8, some 8, some 11, none, some 792, some 8, some 8, some 8, some 11, none, none, some 8, none, some 400, some 16, some 11, some 8, some 8,
   none, some 1584, some 16, some 8, some 2, some 2, some 16, some 16, some 16, some 400, some 11, some 8]
/-- an object: the number of its class, and of each field whether it is a number or which cell it names -/
def ob (c : Nat) : Option (Nat × List (Option Nat)) := (obL[c]?).join
/-- an array of ints: its length -/
def ar (c : Nat) : Option Nat := (arL[c]?).join
theorem ar_ob {c n : Nat} (h : ar c = some n) : ob c = none := by
  by_cases hc : c < 34
  · have key : ∀ c, c < 34 → ar c ≠ none → ob c = none := by decide +kernel
    exact key c hc (by rw [h]; exact fun q => by cases q)
  · have : arL[c]? = none := List.getElem?_eq_none (by show 34 ≤ c; omega)
    unfold ar at h
    rw [this] at h
    cases h
def fd (c k i : Nat) : Option (Option Nat) := (ob c).bind fun o => if o.1 = k then o.2[i]? else none
def up2 (w : Wo) (c i : Nat) (x : Int32) : Wo := fun d j => if d = c then (if j = i then x else w d j) else w d j
def cpw (w : Wo) (a i b j n : Nat) : Wo := fun d => if d = b then va_cpy (w a) (w b) i j n else w d
def isC (Λ : La) (c k : Nat) : Bool := decide (c < Λ.1) && ((ob c).map (·.1) == some k)
def gi (Λ : La) (w : Wo) (c k i : Nat) : Option Int32 := if c < Λ.1 ∧ fd c k i = some none then some (w c i) else none
def gr (Λ : La) (c k i : Nat) : Option Nat := if c < Λ.1 ∧ Λ.2 c i = false then (fd c k i).join else none
def pf (Λ : La) (w : Wo) (c k i : Nat) (x : Int32) : Option Wo := if c < Λ.1 ∧ fd c k i = some none then some (up2 w c i x) else none
def aok (Λ : La) (c : Nat) (i : Int32) : Bool := match ar c with
  | some n => decide (c < Λ.1) && !(decide (i < 0) || decide (n ≤ i.toNatClampNeg))
  | none => false
def ld (Λ : La) (w : Wo) (c : Nat) (i : Int32) : Option Int32 := if aok Λ c i = true then some (w c i.toNatClampNeg) else none
def st (Λ : La) (w : Wo) (c : Nat) (i x : Int32) : Option Wo := if aok Λ c i = true then some (up2 w c i.toNatClampNeg x) else none
def al (Λ : La) (c : Nat) : Option Int32 := if c < Λ.1 then (ar c).map Int32.ofNat else none
def cpk (Λ : La) (a : Nat) (i : Int32) (b : Nat) (j n : Int32) : Bool := match ar a, ar b with
  | some na, some nb => decide (a < Λ.1) && decide (b < Λ.1) && !decide (i < 0) && !decide (j < 0) && !decide (n < 0) && decide (i.toNatClampNeg + n.toNatClampNeg ≤ na) && decide (j.toNatClampNeg + n.toNatClampNeg ≤ nb)
  | _, _ => false
def cp (Λ : La) (w : Wo) (a : Nat) (i : Int32) (b : Nat) (j n : Int32) : Option Wo := if cpk Λ a i b j n = true then some (cpw w a i.toNatClampNeg b j.toNatClampNeg n.toNatClampNeg) else none
/-- only where it holds -/
def gd {α : Type} (b : Bool) (x : Option α) : Option α := if b = true then x else none
def zr (w : Wo) (x : Int32) : Option (Wo × Int32) := if x = 0 ∨ x = 1 then some (w, x) else none
def ush (x y : Int32) : Int32 := (x.toUInt32 >>> (y.toUInt32 &&& Int32.toUInt32 31)).toInt32
theorem ush_ok (x y : Int32) : (x.toUInt32 >>> (y.toUInt32 &&& Int32.toUInt32 31)).toInt32 = ush x y := rfl
theorem gd_some {α : Type} {b : Bool} {x : Option α} {q : α} (h : gd b x = some q) : b = true ∧ x = some q := by
  unfold gd at h
  by_cases hb : b = true
  · rw [if_pos hb] at h; exact ⟨hb, h⟩
  · rw [if_neg hb] at h; cases h
theorem ob_ {α β : Type} {x : Option α} {f : α → Option β} {q : β} (h : x.bind f = some q) : ∃ a, x = some a ∧ f a = some q := Option.bind_eq_some_iff.mp h
theorem ip_ {α : Type} {c : Prop} [Decidable c] {a b : Option α} {q : α} (h : (if c then a else b) = some q) (hc : c) : a = some q := by rw [if_pos hc] at h; exact h
theorem in_ {α : Type} {c : Prop} [Decidable c] {a b : Option α} {q : α} (h : (if c then a else b) = some q) (hc : ¬ c) : b = some q := by rw [if_neg hc] at h; exact h
theorem fd_some {c k i : Nat} {o : Option Nat} (h : fd c k i = some o) : ∃ fs, ob c = some (k, fs) ∧ fs[i]? = some o := by
  unfold fd at h
  obtain ⟨⟨k', fs⟩, h1, h2⟩ := ob_ h
  by_cases hk : k' = k
  · subst hk
    exact ⟨fs, h1, ip_ h2 rfl⟩
  · exact absurd (in_ h2 hk) (fun q => by cases q)
theorem isC_some {Λ : La} {c k : Nat} (h : isC Λ c k = true) : c < Λ.1 ∧ ∃ fs, ob c = some (k, fs) := by
  unfold isC at h
  rw [Bool.and_eq_true, decide_eq_true_eq, beq_iff_eq] at h
  refine ⟨h.1, ?_⟩
  cases ho : ob c with
  | none => rw [ho] at h; cases h.2
  | some o =>
    rw [ho] at h
    obtain ⟨k', fs⟩ := o
    have h2 : some k' = some k := h.2
    cases h2
    exact ⟨fs, rfl⟩
theorem gi_some {Λ : La} {w : Wo} {c k i : Nat} {x : Int32} (h : gi Λ w c k i = some x) : c < Λ.1 ∧ (∃ fs, ob c = some (k, fs) ∧ fs[i]? = some none) ∧ x = w c i := by
  unfold gi at h
  by_cases hc : c < Λ.1 ∧ fd c k i = some none
  · have h1 := ip_ h hc
    cases h1
    exact ⟨hc.1, fd_some hc.2, rfl⟩
  · exact absurd (in_ h hc) (fun q => by cases q)
theorem gr_some {Λ : La} {c k i r : Nat} (h : gr Λ c k i = some r) : c < Λ.1 ∧ Λ.2 c i = false ∧ ∃ fs, ob c = some (k, fs) ∧ fs[i]? = some (some r) := by
  unfold gr at h
  by_cases hc : c < Λ.1 ∧ Λ.2 c i = false
  · have h1 := ip_ h hc
    cases hf : fd c k i with
    | none => rw [hf] at h1; cases h1
    | some o =>
      rw [hf] at h1
      have h2 : o = some r := h1
      subst h2
      exact ⟨hc.1, hc.2, fd_some hf⟩
  · exact absurd (in_ h hc) (fun q => by cases q)
theorem pf_some {Λ : La} {w w1 : Wo} {c k i : Nat} {x : Int32} (h : pf Λ w c k i x = some w1) : c < Λ.1 ∧ (∃ fs, ob c = some (k, fs) ∧ fs[i]? = some none) ∧ w1 = up2 w c i x := by
  unfold pf at h
  by_cases hc : c < Λ.1 ∧ fd c k i = some none
  · have h1 := ip_ h hc
    cases h1
    exact ⟨hc.1, fd_some hc.2, rfl⟩
  · exact absurd (in_ h hc) (fun q => by cases q)
theorem aok_some {Λ : La} {c : Nat} {i : Int32} (h : aok Λ c i = true) : c < Λ.1 ∧ ∃ n, ar c = some n ∧ vp_in i n := by
  unfold aok at h
  cases ha : ar c with
  | none => rw [ha] at h; cases h
  | some n =>
    rw [ha] at h
    have h : (decide (c < Λ.1) && !(decide (i < 0) || decide (n ≤ i.toNatClampNeg))) = true := h
    rw [Bool.and_eq_true, decide_eq_true_eq, Bool.not_eq_true', Bool.or_eq_false_iff, decide_eq_false_iff_not, decide_eq_false_iff_not] at h
    exact ⟨h.1, n, rfl, fun q => q.elim h.2.1 h.2.2⟩
theorem ld_some {Λ : La} {w : Wo} {c : Nat} {i x : Int32} (h : ld Λ w c i = some x) : aok Λ c i = true ∧ x = w c i.toNatClampNeg := by
  unfold ld at h
  by_cases hc : aok Λ c i = true
  · have h1 := ip_ h hc
    cases h1
    exact ⟨hc, rfl⟩
  · exact absurd (in_ h hc) (fun q => by cases q)
theorem st_some {Λ : La} {w w1 : Wo} {c : Nat} {i x : Int32} (h : st Λ w c i x = some w1) : aok Λ c i = true ∧ w1 = up2 w c i.toNatClampNeg x := by
  unfold st at h
  by_cases hc : aok Λ c i = true
  · have h1 := ip_ h hc
    cases h1
    exact ⟨hc, rfl⟩
  · exact absurd (in_ h hc) (fun q => by cases q)
theorem al_some {Λ : La} {c : Nat} {x : Int32} (h : al Λ c = some x) : c < Λ.1 ∧ ∃ n, ar c = some n ∧ Int32.ofNat n = x := by
  unfold al at h
  by_cases hc : c < Λ.1
  · have h1 := ip_ h hc
    cases ha : ar c with
    | none => rw [ha] at h1; cases h1
    | some n => rw [ha] at h1; exact ⟨hc, n, rfl, Option.some.inj h1⟩
  · exact absurd (in_ h hc) (fun q => by cases q)
theorem cp_some {Λ : La} {w w1 : Wo} {a b : Nat} {i j n : Int32} (h : cp Λ w a i b j n = some w1) : w1 = cpw w a i.toNatClampNeg b j.toNatClampNeg n.toNatClampNeg ∧ a < Λ.1 ∧ b < Λ.1 ∧ ¬ i < 0 ∧ ¬ j < 0 ∧ ¬ n < 0 ∧ ∃ na nb, ar a = some na ∧ ar b = some nb ∧ i.toNatClampNeg + n.toNatClampNeg ≤ na ∧ j.toNatClampNeg + n.toNatClampNeg ≤ nb := by
  unfold cp at h
  by_cases hc : cpk Λ a i b j n = true
  · have h1 := ip_ h hc
    cases h1
    unfold cpk at hc
    cases ha : ar a with
    | none => rw [ha] at hc; cases hc
    | some na =>
      cases hb : ar b with
      | none => rw [ha, hb] at hc; cases hc
      | some nb =>
        rw [ha, hb] at hc
        have hc : (decide (a < Λ.1) && decide (b < Λ.1) && !decide (i < 0) && !decide (j < 0) && !decide (n < 0) && decide (i.toNatClampNeg + n.toNatClampNeg ≤ na) && decide (j.toNatClampNeg + n.toNatClampNeg ≤ nb)) = true := hc
        simp only [Bool.and_eq_true, decide_eq_true_eq, Bool.not_eq_true', decide_eq_false_iff_not] at hc
        obtain ⟨⟨⟨⟨⟨⟨h1, h2⟩, h3⟩, h4⟩, h5⟩, h6⟩, h7⟩ := hc
        exact ⟨rfl, h1, h2, h3, h4, h5, na, nb, rfl, rfl, h6, h7⟩
  · exact absurd (in_ h hc) (fun q => by cases q)
/-! the cells as the kit has them -/
def fval (Λ : La) (ad : Nat → Nat) (f : Nat → Int32) (c i : Nat) (o : Option Nat) : Value := match o with
  | none => .int (f i)
  | some r => if Λ.2 c i = true then .null else .ref (ad r)
def fv (Λ : La) (ad : Nat → Nat) (w : Wo) (c : Nat) (fs : List (Option Nat)) : List Value := fs.mapIdx (fval Λ ad (w c) c)
def ce (kA kL : ClassId) (Λ : La) (ad : Nat → Nat) (w : Wo) (c : Nat) : va_E := match ob c with
  | some o => .inr (o.1, fv Λ ad w c o.2)
  | none => match ar c with
    | some n => .inl (kA, n, .inl (w c))
    | none => .inl (kL, 1, .inr (.inl fun i => (w c i).toInt64))
def wl (kA kL : ClassId) (Λ : La) (ad : Nat → Nat) (w : Wo) : va_W := (List.range Λ.1).map fun c => (ad c, ce kA kL Λ ad w c)
theorem wl_at {kA kL : ClassId} {Λ : La} {ad : Nat → Nat} {w : Wo} {c : Nat} (hc : c < Λ.1) : (wl kA kL Λ ad w)[c]? = some (ad c, ce kA kL Λ ad w c) := by
  unfold wl
  rw [List.getElem?_map, List.getElem?_range hc]
  rfl
theorem wl_no {kA kL : ClassId} {Λ : La} {ad : Nat → Nat} {w : Wo} {c : Nat} (hc : ¬ c < Λ.1) : (wl kA kL Λ ad w)[c]? = none := by
  unfold wl
  apply List.getElem?_eq_none
  rw [List.length_map, List.length_range]
  omega
theorem wl_mem {kA kL : ClassId} {Λ : La} {ad : Nat → Nat} {w : Wo} {c : Nat} {q : Nat × va_E} (h : (wl kA kL Λ ad w)[c]? = some q) : c < Λ.1 ∧ q = (ad c, ce kA kL Λ ad w c) := by
  by_cases hc : c < Λ.1
  · rw [wl_at hc] at h
    exact ⟨hc, (Option.some.inj h).symm⟩
  · rw [wl_no hc] at h
    cases h
theorem fv_congr {Λ : La} {ad : Nat → Nat} {w w' : Wo} {c : Nat} (fs : List (Option Nat)) (h : w' c = w c) : fv Λ ad w' c fs = fv Λ ad w c fs := by
  unfold fv
  rw [h]
theorem ce_congr {kA kL : ClassId} {Λ : La} {ad : Nat → Nat} {w w' : Wo} {c : Nat} (h : w' c = w c) : ce kA kL Λ ad w' c = ce kA kL Λ ad w c := by
  unfold ce fv
  rw [h]
theorem wl_set {kA kL : ClassId} {Λ : La} {ad : Nat → Nat} {w w' : Wo} {c : Nat} {E : va_E} (hc : c < Λ.1) (hE : ce kA kL Λ ad w' c = E) (ho : ∀ d, d ≠ c → w' d = w d) : (wl kA kL Λ ad w).set c (ad c, E) = wl kA kL Λ ad w' := by
  apply List.ext_getElem?
  intro i
  by_cases h : c = i
  · subst h
    rw [wl_at hc, hE, List.getElem?_set_self (by unfold wl; rw [List.length_map, List.length_range]; exact hc)]
  · rw [List.getElem?_set_ne h]
    by_cases hi : i < Λ.1
    · rw [wl_at hi, wl_at hi, ce_congr (ho i (fun q => h q.symm))]
    · rw [wl_no hi, wl_no hi]
theorem fv_at {Λ : La} {ad : Nat → Nat} {w : Wo} {c i : Nat} {fs : List (Option Nat)} {o : Option Nat} (h : fs[i]? = some o) : (fv Λ ad w c fs)[i]? = some (fval Λ ad (w c) c i o) := by
  unfold fv
  rw [List.getElem?_mapIdx, h]
  rfl
theorem fv_set {Λ : La} {ad : Nat → Nat} {w : Wo} {c i : Nat} {fs : List (Option Nat)} {x : Int32} (h : fs[i]? = some none) : fv Λ ad (up2 w c i x) c fs = (fv Λ ad w c fs).set i (.int x) := by
  have hlen : ∀ w : Wo, (fv Λ ad w c fs).length = fs.length := fun w => by unfold fv; rw [List.length_mapIdx]
  have hi : i < fs.length := (List.getElem?_eq_some_iff.mp h).1
  apply List.ext_getElem?
  intro j
  by_cases hj : i = j
  · subst hj
    rw [List.getElem?_set_self (by rw [hlen]; exact hi), fv_at h]
    show some (Value.int (up2 w c i x c i)) = _
    unfold up2
    rw [if_pos rfl, if_pos rfl]
  · rw [List.getElem?_set_ne hj]
    cases hf : fs[j]? with
    | none =>
      have : fs.length ≤ j := List.getElem?_eq_none_iff.mp hf
      rw [List.getElem?_eq_none (by rw [hlen]; exact this), List.getElem?_eq_none (by rw [hlen]; exact this)]
    | some o =>
      rw [fv_at hf, fv_at hf]
      cases o with
      | none =>
        show some (Value.int (up2 w c i x c j)) = some (Value.int (w c j))
        unfold up2
        rw [if_pos rfl, if_neg (fun q => hj q.symm)]
      | some r => rfl
theorem up2_ne {w : Wo} {c i : Nat} {x : Int32} : ∀ d, d ≠ c → up2 w c i x d = w d := fun d h => by
  funext j
  unfold up2
  rw [if_neg h]
theorem up2_eq {w : Wo} {c i : Nat} {x : Int32} : up2 w c i x c = upd (w c) i x := by
  funext j
  unfold up2 upd
  rw [if_pos rfl]
theorem cpw_ne {w : Wo} {a i b j n : Nat} : ∀ d, d ≠ b → cpw w a i b j n d = w d := fun d h => by
  unfold cpw
  rw [if_neg h]
theorem cpw_eq {w : Wo} {a i b j n : Nat} : cpw w a i b j n b = va_cpy (w a) (w b) i j n := by
  unfold cpw
  rw [if_pos rfl]
theorem ce_ob {kA kL : ClassId} {Λ : La} {ad : Nat → Nat} {w : Wo} {c k : Nat} {fs : List (Option Nat)} (h : ob c = some (k, fs)) : ce kA kL Λ ad w c = .inr (k, fv Λ ad w c fs) := by
  unfold ce
  rw [h]
theorem ce_ar {kA kL : ClassId} {Λ : La} {ad : Nat → Nat} {w : Wo} {c n : Nat} (h : ar c = some n) : ce kA kL Λ ad w c = .inl (kA, n, .inl (w c)) := by
  unfold ce
  rw [ar_ob h, h]
/-! the addresses, the nest's links, the state, the invariant of a walk -/
def Aa (Λ : La) (ad : Nat → Nat) : Nat → Prop := fun q => ∃ c, c < Λ.1 ∧ q = ad c
def Inj (Λ : La) (ad : Nat → Nat) : Prop := ∀ i j, i < Λ.1 → j < Λ.1 → ad i = ad j → i = j
theorem wl_D {A : Nat → Prop} {kA kL : ClassId} {Λ : La} {ad : Nat → Nat} {w : Wo} (h : Inj Λ ad) (hA : ∀ c, c < Λ.1 → A (ad c)) : va_D A (wl kA kL Λ ad w) := by
  refine ⟨fun i j p q hp hq hpq => ?_, fun k q hq => ?_⟩
  · obtain ⟨h1, rfl⟩ := wl_mem hp
    obtain ⟨h2, rfl⟩ := wl_mem hq
    exact h i j h1 h2 hpq
  · obtain ⟨h1, rfl⟩ := wl_mem hq
    exact hA k h1
theorem isNe_warm {w : Cond} {s U : State} (h : isNe w = true) (hW : s.WarmedH U.vm) (h0 : va_Nw w s) : va_Nw w U := by
  cases w <;> first | exact va_Nw.warmF hW h0 | exact va_Nw.warmM hW h0 | exact Bool.noConfusion h
theorem isNe_tab {w : Cond} (h : isNe w = true) : w.onTables = true := by
  cases w <;> first | rfl | exact Bool.noConfusion h
def Nst (U : State) : Prop := ∀ w ∈ nW, va_Nw w U
theorem Nst.warm {s U : State} (hW : s.WarmedH U.vm) (h : Nst s) : Nst U := fun w hw => isNe_warm (List.mem_filter.mp hw).2 hW (h w hw)
theorem Nst.same {s U : State} (hv : s.vm = U.vm) (h : Nst s) : Nst U := fun w hw => va_Nw.same (isNe_tab (List.mem_filter.mp hw).2) hv (h w hw)
abbrev tyA (kA kL : ClassId) : List (ClassId × FieldType) := [(kA, .int), (kL, .long)]
def St (G : va_G) (kA kL : ClassId) (Λ : La) (ad : Nat → Nat) (w : Wo) (U : State) : Prop := va_P G vCl (wl kA kL Λ ad w) U.heap ∧ Inj Λ ad ∧ va_K G vCl (tyA kA kL) U ∧ Nst U
def Iv (A : Nat → Prop) (G : va_G) (kA kL : ClassId) (Λ : La) (ad : Nat → Nat) (w : Wo) (s : State) (H : Heap) (locs : List Loc) : Prop := va_P G vCl (wl kA kL Λ ad w) H ∧ Inj Λ ad ∧ va_K G vCl (tyA kA kL) s ∧ Nst s ∧ va_S A s.heap H locs ∧ ∀ c, c < Λ.1 → A (ad c)
theorem St.blind {G : va_G} {kA kL : ClassId} {Λ : La} {ad : Nat → Nat} {w : Wo} {av : List Value} : FrameBlind (va_Pc av (St G kA kL Λ ad w)) := fun a U g mk q => ⟨q.1, q.2.1, q.2.2.1, va_K.moved (u := U) (U := U.calling g mk a) (Vm.Alike.refl U.vm) q.2.2.2.1, Nst.same (s := U) (U := U.calling g mk a) rfl q.2.2.2.2⟩
theorem Iv.toSt {A : Nat → Prop} {G : va_G} {kA kL : ClassId} {Λ : La} {ad : Nat → Nat} {w : Wo} {s U : State} {H : Heap} {locs : List Loc} (h : Iv A G kA kL Λ ad w s H locs) (hU : U.heap = H) (hW : s.WarmedH U.vm) : St G kA kL Λ ad w U := ⟨by rw [hU]; exact h.1, h.2.1, va_K.moved hW.alike h.2.2.1, Nst.warm hW h.2.2.2.1⟩
/-- a class by its number: its row in the table, and what the tables say of its fields -/
def FC (k : Nat) (C : String) (T : u_T) (N : Nat) (ty0 : Nat → FieldType) : Prop := vCl[k]? = some (C, T, N) ∧ (∀ w ∈ u_ws C T N, w ∈ gW) ∧ (∀ k, k < N → parseFieldDescriptor (T k).2.2.1 = some (ty0 k)) ∧ (∀ a, a < N → ∀ b, b < N → a ≠ b → (T a).2.1 ≠ (T b).2.1)
end
section
/-! a class by its number; constants; switches (written by aux.py) -/
theorem uwD : ∀ w ∈ u_ws RD TD 6, w ∈ gW := by
  intro w h
  have h : w ∈ [u_lay RD TD 0, u_lay RD TD 1, u_lay RD TD 2, u_lay RD TD 3, u_lay RD TD 4, u_lay RD TD 5] := h
  rcases List.mem_cons.mp h with rfl | h
  · exact kw_46
  rcases List.mem_cons.mp h with rfl | h
  · exact kw_48
  rcases List.mem_cons.mp h with rfl | h
  · exact kw_50
  rcases List.mem_cons.mp h with rfl | h
  · exact kw_52
  rcases List.mem_cons.mp h with rfl | h
  · exact kw_54
  rcases List.mem_cons.mp h with rfl | h
  · exact kw_56
  cases h
theorem fcD : FC 0 RD TD 6 tD := ⟨rfl, uwD, tD_ok, nD⟩
theorem uwF : ∀ w ∈ u_ws RF TF 3, w ∈ gW := by
  intro w h
  have h : w ∈ [u_lay RF TF 0, u_lay RF TF 1, u_lay RF TF 2] := h
  rcases List.mem_cons.mp h with rfl | h
  · exact kw_106
  rcases List.mem_cons.mp h with rfl | h
  · exact kw_108
  rcases List.mem_cons.mp h with rfl | h
  · exact kw_110
  cases h
theorem fcF : FC 1 RF TF 3 tF := ⟨rfl, uwF, tF_ok, nF⟩
theorem uwJ : ∀ w ∈ u_ws RJ TJ 3, w ∈ gW := by
  intro w h
  have h : w ∈ [u_lay RJ TJ 0, u_lay RJ TJ 1, u_lay RJ TJ 2] := h
  rcases List.mem_cons.mp h with rfl | h
  · exact kw_87
  rcases List.mem_cons.mp h with rfl | h
  · exact kw_89
  rcases List.mem_cons.mp h with rfl | h
  · exact kw_91
  cases h
theorem fcJ : FC 2 RJ TJ 3 tJ := ⟨rfl, uwJ, tJ_ok, nJ⟩
theorem uwP : ∀ w ∈ u_ws RP TP 2, w ∈ gW := by
  intro w h
  have h : w ∈ [u_lay RP TP 0, u_lay RP TP 1] := h
  rcases List.mem_cons.mp h with rfl | h
  · exact kw_70
  rcases List.mem_cons.mp h with rfl | h
  · exact kw_72
  cases h
theorem fcP : FC 3 RP TP 2 tP := ⟨rfl, uwP, tP_ok, nP⟩
theorem uwG : ∀ w ∈ u_ws RG TG 11, w ∈ gW := by
  intro w h
  have h : w ∈ [u_lay RG TG 0, u_lay RG TG 1, u_lay RG TG 2, u_lay RG TG 3, u_lay RG TG 4, u_lay RG TG 5, u_lay RG TG 6, u_lay RG TG 7, u_lay RG TG 8, u_lay RG TG 9, u_lay RG TG 10] := h
  rcases List.mem_cons.mp h with rfl | h
  · exact kw_124
  rcases List.mem_cons.mp h with rfl | h
  · exact kw_126
  rcases List.mem_cons.mp h with rfl | h
  · exact kw_128
  rcases List.mem_cons.mp h with rfl | h
  · exact kw_130
  rcases List.mem_cons.mp h with rfl | h
  · exact kw_132
  rcases List.mem_cons.mp h with rfl | h
  · exact kw_134
  rcases List.mem_cons.mp h with rfl | h
  · exact kw_136
  rcases List.mem_cons.mp h with rfl | h
  · exact kw_138
  rcases List.mem_cons.mp h with rfl | h
  · exact kw_140
  rcases List.mem_cons.mp h with rfl | h
  · exact kw_142
  rcases List.mem_cons.mp h with rfl | h
  · exact kw_144
  cases h
theorem fcG : FC 4 RG TG 11 tG := ⟨rfl, uwG, tG_ok, nG⟩
theorem uwM : ∀ w ∈ u_ws RM TM 20, w ∈ gW := by
  intro w h
  have h : w ∈ [u_lay RM TM 0, u_lay RM TM 1, u_lay RM TM 2, u_lay RM TM 3, u_lay RM TM 4, u_lay RM TM 5, u_lay RM TM 6, u_lay RM TM 7, u_lay RM TM 8, u_lay RM TM 9, u_lay RM TM 10, u_lay RM TM 11, u_lay RM TM 12, u_lay RM TM 13, u_lay RM TM 14, u_lay RM TM 15, u_lay RM TM 16, u_lay RM TM 17, u_lay RM TM 18, u_lay RM TM 19] := h
  rcases List.mem_cons.mp h with rfl | h
  · exact kw_521
  rcases List.mem_cons.mp h with rfl | h
  · exact kw_523
  rcases List.mem_cons.mp h with rfl | h
  · exact kw_525
  rcases List.mem_cons.mp h with rfl | h
  · exact kw_527
  rcases List.mem_cons.mp h with rfl | h
  · exact kw_529
  rcases List.mem_cons.mp h with rfl | h
  · exact kw_531
  rcases List.mem_cons.mp h with rfl | h
  · exact kw_533
  rcases List.mem_cons.mp h with rfl | h
  · exact kw_535
  rcases List.mem_cons.mp h with rfl | h
  · exact kw_537
  rcases List.mem_cons.mp h with rfl | h
  · exact kw_539
  rcases List.mem_cons.mp h with rfl | h
  · exact kw_541
  rcases List.mem_cons.mp h with rfl | h
  · exact kw_543
  rcases List.mem_cons.mp h with rfl | h
  · exact kw_545
  rcases List.mem_cons.mp h with rfl | h
  · exact kw_547
  rcases List.mem_cons.mp h with rfl | h
  · exact kw_549
  rcases List.mem_cons.mp h with rfl | h
  · exact kw_551
  rcases List.mem_cons.mp h with rfl | h
  · exact kw_553
  rcases List.mem_cons.mp h with rfl | h
  · exact kw_555
  rcases List.mem_cons.mp h with rfl | h
  · exact kw_557
  rcases List.mem_cons.mp h with rfl | h
  · exact kw_559
  cases h
theorem fcM : FC 5 RM TM 20 tM := ⟨rfl, uwM, tM_ok, nM⟩
theorem kB_6 : (Int8.ofInt 6).toInt32 = 6 := by decide +kernel
theorem kB_7 : (Int8.ofInt 7).toInt32 = 7 := by decide +kernel
theorem kB_8 : (Int8.ofInt 8).toInt32 = 8 := by decide +kernel
theorem kB_9 : (Int8.ofInt 9).toInt32 = 9 := by decide +kernel
theorem kB_10 : (Int8.ofInt 10).toInt32 = 10 := by decide +kernel
theorem kB_11 : (Int8.ofInt 11).toInt32 = 11 := by decide +kernel
theorem kB_15 : (Int8.ofInt 15).toInt32 = 15 := by decide +kernel
theorem kB_16 : (Int8.ofInt 16).toInt32 = 16 := by decide +kernel
theorem kB_27 : (Int8.ofInt 27).toInt32 = 27 := by decide +kernel
theorem kB_50 : (Int8.ofInt 50).toInt32 = 50 := by decide +kernel
theorem kB_60 : (Int8.ofInt 60).toInt32 = 60 := by decide +kernel
theorem kB_64 : (Int8.ofInt 64).toInt32 = 64 := by decide +kernel
theorem kB_72 : (Int8.ofInt 72).toInt32 = 72 := by decide +kernel
theorem kB_100 : (Int8.ofInt 100).toInt32 = 100 := by decide +kernel
theorem kI_m1 : Int32.ofInt (-1) = (-1) := by decide +kernel
theorem kI_0 : Int32.ofInt 0 = 0 := by decide +kernel
theorem kI_1 : Int32.ofInt 1 = 1 := by decide +kernel
theorem kI_2 : Int32.ofInt 2 = 2 := by decide +kernel
theorem kI_3 : Int32.ofInt 3 = 3 := by decide +kernel
theorem kI_4 : Int32.ofInt 4 = 4 := by decide +kernel
theorem kI_5 : Int32.ofInt 5 = 5 := by decide +kernel
theorem kN_1 (x : Int32) : x + Int32.ofInt 1 = x + 1 := by rw [show Int32.ofInt 1 = 1 from by decide +kernel]
theorem kN_5 (x : Int32) : x + Int32.ofInt 5 = x + 5 := by rw [show Int32.ofInt 5 = 5 from by decide +kernel]
theorem kS_400 : (Int16.ofInt 400).toInt32 = 400 := by decide +kernel
theorem kS_792 : (Int16.ofInt 792).toInt32 = 792 := by decide +kernel
theorem kS_1584 : (Int16.ofInt 1584).toInt32 = 1584 := by decide +kernel
section TSW
variable {p : Program} {l : Launch} {e : Env} {R : Room} {s : State} {m : MethodId} {args : Array Value} {below : List Frame} {meth : Method} {c : Code} {H : Heap} {locs : List Loc} {cells slots : Nat} {Q : State → Prop}
variable {cc : ByteArray} {pc : Nat} {ls : Array Slot} {rest : List Value}
theorem tsw_c {k : Nat} (hexec : p.tables.exec = Jvm.exec) (hb : c.code = cc) {dflt hi : Int} {offs : Array Int} {len : Nat} {x : Int32} {off : Int} {tgt : Nat} (hdg : decode cc pc = .ok (.tableswitch dflt 0 hi offs, len)) (hk : k < 2 ^ 31) (hk2 : ¬ hi < (k : Int)) (ho : offs[k]? = some off) (ht : (pc : Int) + off = (tgt : Int))
    (kt : x = Int32.ofNat k → W p l e R s m args below meth c H locs cells slots Q (F0 m tgt ls rest)) (kf : ¬ x = Int32.ofNat k → W p l e R s m args below meth c H locs cells slots Q (F0 m pc ls (.int x :: rest))) : W p l e R s m args below meth c H locs cells slots Q (F0 m pc ls (.int x :: rest)) := by
  by_cases h : x = Int32.ofNat k
  · have ht2 : x.toInt = (k : Int) := by rw [h]; exact nI_toInt hk
    refine lv_tableIn hexec hb hdg (by omega) (by omega) (off := off) ?_ ht (kt h)
    rw [ht2]
    simpa using ho
  · exact kf h
theorem tsw_ne {x : Int32} (k : Nat) (hk : k < 2 ^ 31) (h : ¬ x = Int32.ofNat k) : x.toInt ≠ (k : Int) := fun q => h (Int32.toInt_inj.mp (q.trans (nI_toInt hk).symm))
theorem tsw_o3 {x : Int32} (h0 : ¬ x = Int32.ofNat 0) (h1 : ¬ x = Int32.ofNat 1) (h2 : ¬ x = Int32.ofNat 2) : x.toInt < 0 ∨ (2 : Int) < x.toInt := by
  have g0 := tsw_ne 0 (by decide) h0
  have g1 := tsw_ne 1 (by decide) h1
  have g2 := tsw_ne 2 (by decide) h2
  omega
theorem tsw_o8 {x : Int32} (h0 : ¬ x = Int32.ofNat 0) (h1 : ¬ x = Int32.ofNat 1) (h2 : ¬ x = Int32.ofNat 2) (h3 : ¬ x = Int32.ofNat 3) (h4 : ¬ x = Int32.ofNat 4) (h5 : ¬ x = Int32.ofNat 5) (h6 : ¬ x = Int32.ofNat 6) (h7 : ¬ x = Int32.ofNat 7) : x.toInt < 0 ∨ (7 : Int) < x.toInt := by
  have g0 := tsw_ne 0 (by decide) h0
  have g1 := tsw_ne 1 (by decide) h1
  have g2 := tsw_ne 2 (by decide) h2
  have g3 := tsw_ne 3 (by decide) h3
  have g4 := tsw_ne 4 (by decide) h4
  have g5 := tsw_ne 5 (by decide) h5
  have g6 := tsw_ne 6 (by decide) h6
  have g7 := tsw_ne 7 (by decide) h7
  omega
theorem tsw_o16 {x : Int32} (h0 : ¬ x = Int32.ofNat 0) (h1 : ¬ x = Int32.ofNat 1) (h2 : ¬ x = Int32.ofNat 2) (h3 : ¬ x = Int32.ofNat 3) (h4 : ¬ x = Int32.ofNat 4) (h5 : ¬ x = Int32.ofNat 5) (h6 : ¬ x = Int32.ofNat 6) (h7 : ¬ x = Int32.ofNat 7) (h8 : ¬ x = Int32.ofNat 8) (h9 : ¬ x = Int32.ofNat 9) (h10 : ¬ x = Int32.ofNat 10) (h11 : ¬ x = Int32.ofNat 11) (h12 : ¬ x = Int32.ofNat 12) (h13 : ¬ x = Int32.ofNat 13) (h14 : ¬ x = Int32.ofNat 14) (h15 : ¬ x = Int32.ofNat 15) : x.toInt < 0 ∨ (15 : Int) < x.toInt := by
  have g0 := tsw_ne 0 (by decide) h0
  have g1 := tsw_ne 1 (by decide) h1
  have g2 := tsw_ne 2 (by decide) h2
  have g3 := tsw_ne 3 (by decide) h3
  have g4 := tsw_ne 4 (by decide) h4
  have g5 := tsw_ne 5 (by decide) h5
  have g6 := tsw_ne 6 (by decide) h6
  have g7 := tsw_ne 7 (by decide) h7
  have g8 := tsw_ne 8 (by decide) h8
  have g9 := tsw_ne 9 (by decide) h9
  have g10 := tsw_ne 10 (by decide) h10
  have g11 := tsw_ne 11 (by decide) h11
  have g12 := tsw_ne 12 (by decide) h12
  have g13 := tsw_ne 13 (by decide) h13
  have g14 := tsw_ne 14 (by decide) h14
  have g15 := tsw_ne 15 (by decide) h15
  omega
end TSW
end
section
/-! rows of a walk over the world; contracts -/
section WR
variable {p : Program} {l : Launch} {e : Env} {R : Room} {s : State} {m : MethodId} {args : Array Value} {below : List Frame} {meth : Method} {c : Code} {H : Heap} {locs : List Loc} {cells slots : Nat} {Q : State → Prop}
variable {cc : ByteArray} {pc nL : Nat} {ls : Array Slot} {rest stk : List Value} {a0 : Cond} {own : String} {lv : List (Nat × Value)}
variable {G : va_G} {kA kL : ClassId} {Λ : La} {ad : Nat → Nat} {w w1 : Wo} {A : Nat → Prop}
theorem cfw {Ts : List Cond} (S : CallFix p m c cc nL s args (a0 :: gW) own) {x : Cond} (h : x ∈ gW) : x.before args s = true := S.2.2.2.2 x (List.mem_cons_of_mem _ h)
theorem r_geti (S : CallFix p m c cc nL s args (a0 :: gW) own) (hI : Iv A G kA kL Λ ad w s H locs) {k i : Nat} {C : String} {T : u_T} {N : Nat} {ty0 : Nat → FieldType} (F : FC k C T N ty0) (hiN : i < N) {b idx : Nat} {x : Int32} (hlink : Cond.fieldLink own idx (T i).1 (T i).2.1 (T i).2.2.1 ∈ gW) (hd : decode cc pc = .ok (.getfield idx, 3)) (hg : gi Λ w b k i = some x)
    (kk : W p l e R s m args below meth c H locs cells slots Q (F0 m (pc + 3) ls (.int x :: rest))) : W p l e R s m args below meth c H locs cells slots Q (F0 m pc ls (.ref (ad b) :: rest)) := by
  obtain ⟨h1, ⟨fs, h2, h3⟩, rfl⟩ := gi_some hg
  exact va_get S.1 S.2.1 S.2.2.2.2 (fun w h => List.mem_cons_of_mem _ (F.2.1 w h)) S.2.2.2.1 hI.2.2.1 hI.1 b (by rw [wl_at h1, ce_ob h2]) F.1 i hiN (S.2.2.2.2 _ (List.mem_cons_of_mem _ hlink)) (fun _ h => h) (fv_at h3) hd kk
theorem r_getr (S : CallFix p m c cc nL s args (a0 :: gW) own) (hI : Iv A G kA kL Λ ad w s H locs) {k i : Nat} {C : String} {T : u_T} {N : Nat} {ty0 : Nat → FieldType} (F : FC k C T N ty0) (hiN : i < N) {b idx r : Nat} (hlink : Cond.fieldLink own idx (T i).1 (T i).2.1 (T i).2.2.1 ∈ gW) (hd : decode cc pc = .ok (.getfield idx, 3)) (hg : gr Λ b k i = some r)
    (kk : W p l e R s m args below meth c H locs cells slots Q (F0 m (pc + 3) ls (.ref (ad r) :: rest))) : W p l e R s m args below meth c H locs cells slots Q (F0 m pc ls (.ref (ad b) :: rest)) := by
  obtain ⟨h1, hz, fs, h2, h3⟩ := gr_some hg
  refine va_get S.1 S.2.1 S.2.2.2.2 (fun w h => List.mem_cons_of_mem _ (F.2.1 w h)) S.2.2.2.1 hI.2.2.1 hI.1 b (by rw [wl_at h1, ce_ob h2]) F.1 i hiN (S.2.2.2.2 _ (List.mem_cons_of_mem _ hlink)) (fun _ h => h) (v := .ref (ad r)) ?_ hd kk
  rw [fv_at h3]
  show some (if Λ.2 b i = true then Value.null else Value.ref (ad r)) = _
  rw [if_neg (by rw [hz]; exact fun q => by cases q)]
theorem r_getiN (S : CallFix p m c cc nL s args (a0 :: gW) own) (hI : Iv A G kA kL Λ ad w s H locs) {k i : Nat} {C host : String} {T : u_T} {N : Nat} {ty0 : Nat → FieldType} (F : FC k C T N ty0) (hiN : i < N) {b idx : Nat} {x : Int32} (hlink : Cond.fieldLinkNest own idx (T i).1 (T i).2.1 (T i).2.2.1 host ∈ nW) (hd : decode cc pc = .ok (.getfield idx, 3)) (hg : gi Λ w b k i = some x)
    (kk : W p l e R s m args below meth c H locs cells slots Q (F0 m (pc + 3) ls (.int x :: rest))) : W p l e R s m args below meth c H locs cells slots Q (F0 m pc ls (.ref (ad b) :: rest)) := by
  obtain ⟨h1, ⟨fs, h2, h3⟩, rfl⟩ := gi_some hg
  exact va_getN S.1 S.2.1 S.2.2.2.2 (fun w h => List.mem_cons_of_mem _ (F.2.1 w h)) S.2.2.2.1 hI.2.2.1 hI.1 b (by rw [wl_at h1, ce_ob h2]) F.1 i hiN (va_Nw.use rfl (hI.2.2.2.1 _ hlink)) (fun _ h => h) (fv_at h3) hd kk
theorem r_getrN (S : CallFix p m c cc nL s args (a0 :: gW) own) (hI : Iv A G kA kL Λ ad w s H locs) {k i : Nat} {C host : String} {T : u_T} {N : Nat} {ty0 : Nat → FieldType} (F : FC k C T N ty0) (hiN : i < N) {b idx r : Nat} (hlink : Cond.fieldLinkNest own idx (T i).1 (T i).2.1 (T i).2.2.1 host ∈ nW) (hd : decode cc pc = .ok (.getfield idx, 3)) (hg : gr Λ b k i = some r)
    (kk : W p l e R s m args below meth c H locs cells slots Q (F0 m (pc + 3) ls (.ref (ad r) :: rest))) : W p l e R s m args below meth c H locs cells slots Q (F0 m pc ls (.ref (ad b) :: rest)) := by
  obtain ⟨h1, hz, fs, h2, h3⟩ := gr_some hg
  refine va_getN S.1 S.2.1 S.2.2.2.2 (fun w h => List.mem_cons_of_mem _ (F.2.1 w h)) S.2.2.2.1 hI.2.2.1 hI.1 b (by rw [wl_at h1, ce_ob h2]) F.1 i hiN (va_Nw.use rfl (hI.2.2.2.1 _ hlink)) (fun _ h => h) (v := .ref (ad r)) ?_ hd kk
  rw [fv_at h3]
  show some (if Λ.2 b i = true then Value.null else Value.ref (ad r)) = _
  rw [if_neg (by rw [hz]; exact fun q => by cases q)]
theorem Iv.put {E : va_E} {H1 : Heap} {locs1 : List Loc} {b : Nat} (hI : Iv A G kA kL Λ ad w s H locs) (hb : b < Λ.1) (hE : ce kA kL Λ ad w1 b = E) (ho : ∀ d, d ≠ b → w1 d = w d) (hP : va_P G vCl ((wl kA kL Λ ad w).set b (ad b, E)) H1) (hS : va_S A s.heap H1 locs1) : Iv A G kA kL Λ ad w1 s H1 locs1 :=
  ⟨by rw [← wl_set hb hE ho]; exact hP, hI.2.1, hI.2.2.1, hI.2.2.2.1, hS, hI.2.2.2.2.2⟩
theorem Iv.inA (hI : Iv A G kA kL Λ ad w s H locs) : ∀ q, Aa Λ ad q → A q := fun q h => by
  obtain ⟨c, h1, rfl⟩ := h
  exact hI.2.2.2.2.2 c h1
theorem r_put (S : CallFix p m c cc nL s args (a0 :: gW) own) (hI : Iv A G kA kL Λ ad w s H locs) {k i : Nat} {C : String} {T : u_T} {N : Nat} {ty0 : Nat → FieldType} (F : FC k C T N ty0) (hiN : i < N) {b idx : Nat} {x : Int32} (hlink : Cond.fieldLink own idx (T i).1 (T i).2.1 (T i).2.2.1 ∈ gW) (hfin : (T i).2.2.2 = false) (hn : narrow (ty0 i) (.int x) = .int x) (hfit : fits (ty0 i) (.int x) = true) (hd : decode cc pc = .ok (.putfield idx, 3)) (hg : pf Λ w b k i x = some w1)
    (kk : ∀ (H1 : Heap) (locs1 : List Loc), Iv A G kA kL Λ ad w1 s H1 locs1 → W p l e R s m args below meth c H1 locs1 cells slots Q (F0 m (pc + 3) ls rest)) : W p l e R s m args below meth c H locs cells slots Q (F0 m pc ls (.int x :: .ref (ad b) :: rest)) := by
  obtain ⟨h1, ⟨fs, h2, h3⟩, rfl⟩ := pf_some hg
  refine va_put S.1 S.2.1 S.2.2.2.2 (fun w h => List.mem_cons_of_mem _ (F.2.1 w h)) ty0 F.2.2.1 F.2.2.2 S.2.2.2.1 hI.2.2.1 hI.1 (wl_D hI.2.1 hI.2.2.2.2.2) hI.2.2.2.2.1 b (by rw [wl_at h1, ce_ob h2]) F.1 i hiN (S.2.2.2.2 _ (List.mem_cons_of_mem _ hlink)) (fun _ h => h) hfin (F.2.2.1 i hiN) hn hfit ?_ hd fun H1 locs1 hP _ hS => kk H1 locs1 (hI.put h1 (by rw [ce_ob h2, fv_set h3]) up2_ne hP hS)
  unfold fv
  rw [List.length_mapIdx]
  exact (List.getElem?_eq_some_iff.mp h3).1
theorem r_putN (S : CallFix p m c cc nL s args (a0 :: gW) own) (hI : Iv A G kA kL Λ ad w s H locs) {k i : Nat} {C host : String} {T : u_T} {N : Nat} {ty0 : Nat → FieldType} (F : FC k C T N ty0) (hiN : i < N) {b idx : Nat} {x : Int32} (hlink : Cond.fieldLinkNest own idx (T i).1 (T i).2.1 (T i).2.2.1 host ∈ nW) (hfin : (T i).2.2.2 = false) (hn : narrow (ty0 i) (.int x) = .int x) (hfit : fits (ty0 i) (.int x) = true) (hd : decode cc pc = .ok (.putfield idx, 3)) (hg : pf Λ w b k i x = some w1)
    (kk : ∀ (H1 : Heap) (locs1 : List Loc), Iv A G kA kL Λ ad w1 s H1 locs1 → W p l e R s m args below meth c H1 locs1 cells slots Q (F0 m (pc + 3) ls rest)) : W p l e R s m args below meth c H locs cells slots Q (F0 m pc ls (.int x :: .ref (ad b) :: rest)) := by
  obtain ⟨h1, ⟨fs, h2, h3⟩, rfl⟩ := pf_some hg
  refine va_putN S.1 S.2.1 S.2.2.2.2 (fun w h => List.mem_cons_of_mem _ (F.2.1 w h)) ty0 F.2.2.1 F.2.2.2 S.2.2.2.1 hI.2.2.1 hI.1 (wl_D hI.2.1 hI.2.2.2.2.2) hI.2.2.2.2.1 b (by rw [wl_at h1, ce_ob h2]) F.1 i hiN (va_Nw.use rfl (hI.2.2.2.1 _ hlink)) (fun _ h => h) hfin (F.2.2.1 i hiN) hn hfit ?_ hd fun H1 locs1 hP _ hS => kk H1 locs1 (hI.put h1 (by rw [ce_ob h2, fv_set h3]) up2_ne hP hS)
  unfold fv
  rw [List.length_mapIdx]
  exact (List.getElem?_eq_some_iff.mp h3).1
theorem r_ald (S : CallFix p m c cc nL s args (a0 :: gW) own) (hI : Iv A G kA kL Λ ad w s H locs) {b : Nat} {i x : Int32} (hd : decode cc pc = .ok (.iaload, 1)) (hg : ld Λ w b i = some x)
    (kk : W p l e R s m args below meth c H locs cells slots Q (F0 m (pc + 1) ls (.int x :: rest))) : W p l e R s m args below meth c H locs cells slots Q (F0 m pc ls (.int i :: .ref (ad b) :: rest)) := by
  obtain ⟨h, rfl⟩ := ld_some hg
  obtain ⟨h1, n, h2, h3⟩ := aok_some h
  exact va_iald S.1 S.2.1 hI.2.2.1 hI.1 b 0 (by rw [wl_at h1, ce_ar h2]) rfl h3 hd kk
theorem r_ast (S : CallFix p m c cc nL s args (a0 :: gW) own) (hI : Iv A G kA kL Λ ad w s H locs) {b : Nat} {i x : Int32} (hd : decode cc pc = .ok (.iastore, 1)) (hg : st Λ w b i x = some w1)
    (kk : ∀ (H1 : Heap) (locs1 : List Loc), Iv A G kA kL Λ ad w1 s H1 locs1 → W p l e R s m args below meth c H1 locs1 cells slots Q (F0 m (pc + 1) ls rest)) : W p l e R s m args below meth c H locs cells slots Q (F0 m pc ls (.int x :: .int i :: .ref (ad b) :: rest)) := by
  obtain ⟨h, rfl⟩ := st_some hg
  obtain ⟨h1, n, h2, h3⟩ := aok_some h
  exact va_iast S.1 S.2.1 hI.2.2.1 hI.1 (wl_D hI.2.1 hI.2.2.2.2.2) hI.2.2.2.2.1 b 0 (by rw [wl_at h1, ce_ar h2]) rfl h3 hd fun H1 locs1 hP _ hS => kk H1 locs1 (hI.put h1 (by rw [ce_ar h2, up2_eq]) up2_ne hP hS)
theorem r_alen (S : CallFix p m c cc nL s args (a0 :: gW) own) (hI : Iv A G kA kL Λ ad w s H locs) {b : Nat} {x : Int32} (hd : decode cc pc = .ok (.arraylength, 1)) (hg : al Λ b = some x)
    (kk : W p l e R s m args below meth c H locs cells slots Q (F0 m (pc + 1) ls (.int x :: rest))) : W p l e R s m args below meth c H locs cells slots Q (F0 m pc ls (.ref (ad b) :: rest)) := by
  obtain ⟨h1, n, h2, h3⟩ := al_some hg
  exact va_alen S.1 S.2.1 hI.2.2.1 hI.1 b 0 (by rw [wl_at h1, ce_ar h2]) (ty := .int) rfl h3 hd kk
theorem r_cpy (S : CallFix p m c cc nL s args (a0 :: gW) own) (hl : lv_has ls nL lv) (hI : Iv A G kA kL Λ ad w s H locs) {idx : Nat} (hlink : Cond.methodLink own idx arraycopyName ∈ gW) (hnat : Cond.native arraycopyName ∈ gW) (hstat : Cond.static arraycopyName ∈ gW) (hini : Cond.initialized "java/lang/System" ∈ gW) {a b : Nat} {i j n : Int32}
    (hframes : 1 ≤ R.frames) (hlocals : (rest.map fun v => v.category).sum + (nativeFrameWords "java/lang/System" "arraycopy" 5 + 11) ≤ R.locals) (hd : decode cc pc = .ok (.invokestatic idx, 3)) (hg : cp Λ w a i b j n = some w1)
    (kk : ∀ (H1 : Heap) (locs1 : List Loc), Iv A G kA kL Λ ad w1 s H1 locs1 → W p l e R s m args below meth c H1 locs1 cells slots Q (F0 m (pc + 3) ls rest)) : W p l e R s m args below meth c H locs cells slots Q (F0 m pc ls (.int n :: .int j :: .ref (ad b) :: .int i :: .ref (ad a) :: rest)) := by
  obtain ⟨rfl, h1, h2, h3, h4, h5, na, nb, h6, h7, h8, h9⟩ := cp_some hg
  exact va_copyi S.1 S.2.1 (by rw [S.2.2.1]; exact hl.1.symm) S.2.2.2.1 (cfw (Ts := []) S hlink) (cfw (Ts := []) S hnat) (cfw (Ts := []) S hstat) (cfw (Ts := []) S hini) hI.2.2.1 hI.1 (wl_D hI.2.1 hI.2.2.2.2.2) hI.2.2.2.2.1 a b 0 0 (by rw [wl_at h1, ce_ar h6]) (by rw [wl_at h2, ce_ar h7]) (ty := .int) rfl rfl rfl h3 h4 h5 h8 h9 (fun _ _ => rfl) hframes hlocals hd fun H1 locs1 hP _ hS => kk H1 locs1 (hI.put h2 (by rw [ce_ar h7, cpw_eq]) cpw_ne hP hS)
theorem r_max (S : CallFix p m c cc nL s args (a0 :: gW) own) (hl : lv_has ls nL lv) {idx : Nat} (hlink : Cond.methodLink own idx Lib.Math.max.name ∈ gW) (hstat : Cond.static Lib.Math.max.name ∈ gW) (hini : Cond.initialized "java/lang/Math" ∈ gW) (hcode : Cond.code Lib.Math.max.name Lib.Math.max.code 2 (some .int) ∈ gW) {x y : Int32} (hframes : 1 ≤ R.frames) (hlocals : (rest.map fun v => v.category).sum + 13 ≤ R.locals) (hcs : cells ≤ R.cells ∧ slots ≤ R.slots) (hd : decode cc pc = .ok (.invokestatic idx, 3))
    (kk : W p l e R s m args below meth c H locs cells slots Q (F0 m (pc + 3) ls (.int (if x < y then y else x) :: rest))) : W p l e R s m args below meth c H locs cells slots Q (F0 m pc ls (.int y :: .int x :: rest)) :=
  va_mmax S.1 S.2.1 (by rw [S.2.2.1]; exact hl.1.symm) S.2.2.2.1 (cfw (Ts := []) S hlink) (cfw (Ts := []) S hstat) (cfw (Ts := []) S hini) (cfw (Ts := []) S hcode) hframes hlocals hcs.1 hcs.2 hd kk
/-! contracts: the method answers r, and the world w becomes w1 -/
def Mi (l : Launch) (y : MethodName) (cc : ByteArray) (maxL : Nat) (ret : Option FieldType) (rm : Room) (G : va_G) (kA kL : ClassId) (Λ : La) (ad : Nat → Nat) (av : List Value) (w w1 : Wo) (r : Int32) : Prop :=
  Met l y (.code y cc maxL ret :: gW) rm (va_Pc av (St G kA kL Λ ad w)) (va_Qi (fun x (_ : Unit) => x = r) (fun _ => St G kA kL Λ ad w1) (Aa Λ ad)) 0 0 (Aa Λ ad)
def Mv (l : Launch) (y : MethodName) (cc : ByteArray) (maxL : Nat) (rm : Room) (G : va_G) (kA kL : ClassId) (Λ : La) (ad : Nat → Nat) (av : List Value) (w w1 : Wo) : Prop :=
  Met l y (.code y cc maxL none :: gW) rm (va_Pc av (St G kA kL Λ ad w)) (va_Qv (fun (_ : Unit) => True) (fun _ => St G kA kL Λ ad w1) (Aa Λ ad)) 0 0 (Aa Λ ad)
def Mr (l : Launch) (y : MethodName) (cc : ByteArray) (maxL : Nat) (ret : Option FieldType) (rm : Room) (G : va_G) (kA kL : ClassId) (Λ : La) (ad : Nat → Nat) (av : List Value) (w w1 : Wo) (r : Nat) : Prop :=
  Met l y (.code y cc maxL ret :: gW) rm (va_Pc av (St G kA kL Λ ad w)) (va_Qr (fun (_ : Unit) => True) (fun _ a t => a = ad r ∧ St G kA kL Λ ad w1 t) (Aa Λ ad)) 0 0 (Aa Λ ad)
/-- what a walk starts from -/
theorem Mi.of {y : MethodName} {maxL : Nat} {rm : Room} {av : List Value} {r : Int32} (hy : plainName y.cls = true) (hlen : (lg_sl av).length ≤ maxL)
    (body : ∀ (p : Program) (e : Env) (s : State) (m : MethodId) (args : Array Value) (below : List Frame) (meth : Method) (c : Code) (Q : State → Prop) (ls : Array Slot), CallFix p m c cc maxL s args (.code y cc maxL (some .int) :: gW) y.cls →
      (∀ (H : Heap) (locs : List Loc) (pc : Nat) (ls : Array Slot) (w' : Wo) (x : Int32), Iv (Aa Λ ad) G kA kL Λ ad w' s H locs → some (w', x) = some (w1, r) → decode cc pc = .ok (.ireturn, 1) → W p l e rm s m args below meth c H locs 0 0 Q (F0 m pc ls [.int x])) →
      lv_has ls maxL (lv_args 0 av) → Iv (Aa Λ ad) G kA kL Λ ad w s s.heap [] → W p l e rm s m args below meth c s.heap [] 0 0 Q (F0 m 0 ls [])) : Mi l y cc maxL (some .int) rm G kA kL Λ ad av w w1 r := by
  unfold Mi
  refine Met.ofW (cc := cc) (maxL := maxL) (ret := some .int) hy rfl ?_
  intro p e s m args below meth c s₁ B hml hv
  obtain ⟨rfl, hP, hJ, hK, hN⟩ := hv
  have hr := B.returns
  have hlocks := B.notSynchronized
  rw [lg_entry_eq]
  refine body p e s m _ below meth c _ _ ⟨B.exec, B.bytes, hml, findClass_of_methodNamed B.named, atoms_spec B.pre⟩ ?_ (lv_entry av hlen) ⟨hP, hJ, hK, hN, va_S.rf, fun c h => ⟨c, h, rfl⟩⟩
  intro H locs pc ls w' x hI hf hd
  cases hf
  exact W.iret B.exec B.bytes hr (fun t ht hW => ⟨⟨_, (), rfl, rfl, hI.toSt ht hW⟩, hI.2.2.2.2.1.F ht⟩) hI.2.2.2.2.1.2.2 hd
theorem narrow_z {x : Int32} (h : x = 0 ∨ x = 1) : narrow .boolean (.int x) = .int x := by
  rcases h with rfl | rfl <;> decide +kernel
theorem zr_some {w : Wo} {x : Int32} {q : Wo × Int32} (h : zr w x = some q) : (x = 0 ∨ x = 1) ∧ (w, x) = q := by
  unfold zr at h
  by_cases hx : x = 0 ∨ x = 1
  · exact ⟨hx, Option.some.inj (ip_ h hx)⟩
  · exact absurd (in_ h hx) (fun q => by cases q)
theorem Mz.of {y : MethodName} {maxL : Nat} {rm : Room} {av : List Value} {r : Int32} (hy : plainName y.cls = true) (hlen : (lg_sl av).length ≤ maxL)
    (body : ∀ (p : Program) (e : Env) (s : State) (m : MethodId) (args : Array Value) (below : List Frame) (meth : Method) (c : Code) (Q : State → Prop) (ls : Array Slot), CallFix p m c cc maxL s args (.code y cc maxL (some .boolean) :: gW) y.cls →
      (∀ (H : Heap) (locs : List Loc) (pc : Nat) (ls : Array Slot) (w' : Wo) (x : Int32), Iv (Aa Λ ad) G kA kL Λ ad w' s H locs → zr w' x = some (w1, r) → decode cc pc = .ok (.ireturn, 1) → W p l e rm s m args below meth c H locs 0 0 Q (F0 m pc ls [.int x])) →
      lv_has ls maxL (lv_args 0 av) → Iv (Aa Λ ad) G kA kL Λ ad w s s.heap [] → W p l e rm s m args below meth c s.heap [] 0 0 Q (F0 m 0 ls [])) : Mi l y cc maxL (some .boolean) rm G kA kL Λ ad av w w1 r := by
  unfold Mi
  refine Met.ofW (cc := cc) (maxL := maxL) (ret := some .boolean) hy rfl ?_
  intro p e s m args below meth c s₁ B hml hv
  obtain ⟨rfl, hP, hJ, hK, hN⟩ := hv
  have hr := B.returns
  have hlocks := B.notSynchronized
  rw [lg_entry_eq]
  refine body p e s m _ below meth c _ _ ⟨B.exec, B.bytes, hml, findClass_of_methodNamed B.named, atoms_spec B.pre⟩ ?_ (lv_entry av hlen) ⟨hP, hJ, hK, hN, va_S.rf, fun c h => ⟨c, h, rfl⟩⟩
  intro H locs pc ls w' x hI hf hd
  obtain ⟨hx, hq⟩ := zr_some hf
  cases hq
  exact W.zret B.exec B.bytes hr (narrow_z hx) (fun t ht hW => ⟨⟨_, (), rfl, rfl, hI.toSt ht hW⟩, hI.2.2.2.2.1.F ht⟩) hI.2.2.2.2.1.2.2 hd
theorem Mv.of {y : MethodName} {maxL : Nat} {rm : Room} {av : List Value} (hy : plainName y.cls = true) (hlen : (lg_sl av).length ≤ maxL)
    (body : ∀ (p : Program) (e : Env) (s : State) (m : MethodId) (args : Array Value) (below : List Frame) (meth : Method) (c : Code) (Q : State → Prop) (ls : Array Slot), CallFix p m c cc maxL s args (.code y cc maxL none :: gW) y.cls →
      (∀ (H : Heap) (locs : List Loc) (pc : Nat) (ls : Array Slot) (w' : Wo), Iv (Aa Λ ad) G kA kL Λ ad w' s H locs → some w' = some w1 → decode cc pc = .ok (.return_, 1) → W p l e rm s m args below meth c H locs 0 0 Q (F0 m pc ls [])) →
      lv_has ls maxL (lv_args 0 av) → Iv (Aa Λ ad) G kA kL Λ ad w s s.heap [] → W p l e rm s m args below meth c s.heap [] 0 0 Q (F0 m 0 ls [])) : Mv l y cc maxL rm G kA kL Λ ad av w w1 := by
  unfold Mv
  refine Met.ofW (cc := cc) (maxL := maxL) (ret := none) hy rfl ?_
  intro p e s m args below meth c s₁ B hml hv
  obtain ⟨rfl, hP, hJ, hK, hN⟩ := hv
  have hr := B.returns
  have hlocks := B.notSynchronized
  rw [lg_entry_eq]
  refine body p e s m _ below meth c _ _ ⟨B.exec, B.bytes, hml, findClass_of_methodNamed B.named, atoms_spec B.pre⟩ ?_ (lv_entry av hlen) ⟨hP, hJ, hK, hN, va_S.rf, fun c h => ⟨c, h, rfl⟩⟩
  intro H locs pc ls w' hI hf hd
  cases hf
  exact W.vret B.exec B.bytes hr (fun t ht hW => ⟨⟨(), rfl, trivial, hI.toSt ht hW⟩, hI.2.2.2.2.1.F ht⟩) hI.2.2.2.2.1.2.2 hd
theorem Mr.of {y : MethodName} {maxL : Nat} {rm : Room} {av : List Value} {r : Nat} {C : String} (hy : plainName y.cls = true) (hlen : (lg_sl av).length ≤ maxL)
    (body : ∀ (p : Program) (e : Env) (s : State) (m : MethodId) (args : Array Value) (below : List Frame) (meth : Method) (c : Code) (Q : State → Prop) (ls : Array Slot), CallFix p m c cc maxL s args (.code y cc maxL (some (.object C)) :: gW) y.cls →
      (∀ (H : Heap) (locs : List Loc) (pc : Nat) (ls : Array Slot) (w' : Wo) (x : Nat), Iv (Aa Λ ad) G kA kL Λ ad w' s H locs → some (w', x) = some (w1, r) → decode cc pc = .ok (.areturn, 1) → W p l e rm s m args below meth c H locs 0 0 Q (F0 m pc ls [.ref (ad x)])) →
      lv_has ls maxL (lv_args 0 av) → Iv (Aa Λ ad) G kA kL Λ ad w s s.heap [] → W p l e rm s m args below meth c s.heap [] 0 0 Q (F0 m 0 ls [])) : Mr l y cc maxL (some (.object C)) rm G kA kL Λ ad av w w1 r := by
  unfold Mr
  refine Met.ofW (cc := cc) (maxL := maxL) (ret := some (.object C)) hy rfl ?_
  intro p e s m args below meth c s₁ B hml hv
  obtain ⟨rfl, hP, hJ, hK, hN⟩ := hv
  have hr := B.returns
  have hlocks := B.notSynchronized
  rw [lg_entry_eq]
  refine body p e s m _ below meth c _ _ ⟨B.exec, B.bytes, hml, findClass_of_methodNamed B.named, atoms_spec B.pre⟩ ?_ (lv_entry av hlen) ⟨hP, hJ, hK, hN, va_S.rf, fun c h => ⟨c, h, rfl⟩⟩
  intro H locs pc ls w' x hI hf hd
  cases hf
  exact W.aret B.exec B.bytes hr (Or.inl ⟨C, rfl⟩) (Or.inr ⟨_, rfl⟩) (fun t ht hW => ⟨⟨(), _, rfl, trivial, rfl, hI.toSt ht hW⟩, hI.2.2.2.2.1.F ht⟩) hI.2.2.2.2.1.2.2 hd
/-! calls -/
def Pk (y : MethodName) (bytes : ByteArray) (maxL : Nat) (ret : Option FieldType) (n : Nat) : Prop := Cond.code y bytes maxL ret ∈ gW ∧ Cond.initialized y.cls ∈ gW ∧ y.cls ≠ "java/lang/invoke/MethodHandle" ∧ y.cls ≠ "java/lang/invoke/VarHandle" ∧ (parseMethodDescriptor y.desc).map (fun d => d.parameters.length) = some n
theorem gin {a b : Cond} (h : b ∈ gW) : GoodIn (a :: gW) (b :: gW) := fun w hw => by
  have h1 : w ∈ gW := by
    rcases List.mem_cons.mp hw with rfl | h2
    · exact h
    · exact h2
  exact ⟨List.mem_cons_of_mem _ h1, good_of_word (gW_good w h1)⟩
theorem Pk.B {y : MethodName} {bytes : ByteArray} {maxL n idx : Nat} {ret : Option FieldType} {rm : Room} (P : Pk y bytes maxL ret n) (S : CallFix p m c cc nL s args (a0 :: gW) own) (hl : Cond.methodLink own idx y ∈ gW) (hrm : rm.cells = 0 ∧ rm.slots = 0) (hR : rm.frames + 1 ≤ R.frames ∧ 8 + (maxL + 11) + rm.locals ≤ R.locals) : CallB R s args own idx y bytes maxL ret (.code y bytes maxL ret :: gW) rm 0 0 n :=
  callB_of n S.2.2.2.2 (gin P.1) rfl hrm.1 hrm.2 (cfw (Ts := []) S P.2.1) (cfw (Ts := []) S hl) P.2.2 hR
theorem Pk.N {y : MethodName} {bytes : ByteArray} {maxL n idx : Nat} {ret : Option FieldType} {rm : Room} {host : String} (P : Pk y bytes maxL ret n) (S : CallFix p m c cc nL s args (a0 :: gW) own) (hN : Nst s) (hl : Cond.methodLinkNest own idx y host ∈ nW) (hrm : rm.cells = 0 ∧ rm.slots = 0) (hR : rm.frames + 1 ≤ R.frames ∧ 8 + (maxL + 11) + rm.locals ≤ R.locals) : va_CN R s args own idx y host bytes maxL ret (.code y bytes maxL ret :: gW) rm 0 0 n :=
  va_cnB n S.2.2.2.2 (gin P.1) rfl hrm.1 hrm.2 (hN _ hl) (cfw (Ts := []) S P.2.1) P.2.2 hR
theorem Iv.recv {k b : Nat} {C : String} {T : u_T} {N : Nat} (hI : Iv A G kA kL Λ ad w s H locs) (hc : vCl[k]? = some (C, T, N)) (hC : isC Λ b k = true) : ∃ cell : Cell, H[ad b]? = some cell ∧ cell.vm.isStatics = false ∧ s.vm.findClass C = some cell.cls := by
  obtain ⟨h1, fs, h2⟩ := isC_some hC
  exact va_recv hI.2.2.1 hI.1 hc (q0 := b) (by rw [wl_at h1, ce_ob h2])
/-- how a call may be made: the four ways; what stands on the stack is the arguments, turned, and the rest -/
def RunI (p : Program) (l : Launch) (e : Env) (R : Room) (s : State) (m : MethodId) (args : Array Value) (below : List Frame) (meth : Method) (c : Code) (H : Heap) (locs : List Loc) (cells slots : Nat) (g : JFrame) (rest : List Value) (Qa : State → Outcome → State → Prop) (free : Addr → Prop) : Prop := va_Run p l e R s m args below meth c H locs cells slots 0 0 g rest Qa free
theorem r_V {y : MethodName} {bytes : ByteArray} {maxL n idx k b : Nat} {ret : Option FieldType} {rm : Room} {C : String} {T : u_T} {N : Nat} {As : List Value} {Qc : Array Value → State → Outcome → State → Prop} (S : CallFix p m c cc nL s args (a0 :: gW) own) (hl : lv_has ls nL lv) (hI : Iv A G kA kL Λ ad w s H locs) (hM : Met l y (.code y bytes maxL ret :: gW) rm (va_Pc (.ref (ad b) :: As) (St G kA kL Λ ad w)) Qc 0 0 (Aa Λ ad)) (P : Pk y bytes maxL ret n) (hin : Cond.instanceMethod y ∈ gW) (hse : Cond.selects C y y ∈ gW) (hc : vCl[k]? = some (C, T, N)) (hC : isC Λ b k = true) (hk : Cond.methodLink own idx y ∈ gW) (hrm : rm.cells = 0 ∧ rm.slots = 0) (hR : rm.frames + 1 ≤ R.frames ∧ 8 + (maxL + 11) + rm.locals ≤ R.locals) (hn : As.length = n) (hst : stk = As.reverse ++ .ref (ad b) :: rest) (hW : (rest.map fun v => v.category).sum ≤ 8) (hcs : cells ≤ R.cells ∧ slots ≤ R.slots) (hd : decode cc pc = .ok (.invokevirtual idx, 3)) :
    RunI p l e R s m args below meth c H locs cells slots (F0 m pc ls stk) rest (Qc (Value.ref (ad b) :: As).toArray) (Aa Λ ad) :=
  va_runV S hM ⟨P.B S hk hrm hR, cfw (Ts := []) S hin, cfw (Ts := []) S hse⟩ ⟨St.blind, hI.recv hc hC, fun U hU hW => ⟨rfl, hI.toSt hU hW⟩⟩ rfl hn hl.1 hst (lv_room hW) hd hcs
theorem r_VN {y : MethodName} {bytes : ByteArray} {maxL n idx k b : Nat} {ret : Option FieldType} {rm : Room} {C host : String} {T : u_T} {N : Nat} {As : List Value} {Qc : Array Value → State → Outcome → State → Prop} (S : CallFix p m c cc nL s args (a0 :: gW) own) (hl : lv_has ls nL lv) (hI : Iv A G kA kL Λ ad w s H locs) (hM : Met l y (.code y bytes maxL ret :: gW) rm (va_Pc (.ref (ad b) :: As) (St G kA kL Λ ad w)) Qc 0 0 (Aa Λ ad)) (P : Pk y bytes maxL ret n) (hin : Cond.instanceMethod y ∈ gW) (hse : Cond.selects C y y ∈ gW) (hc : vCl[k]? = some (C, T, N)) (hC : isC Λ b k = true) (hk : Cond.methodLinkNest own idx y host ∈ nW) (hrm : rm.cells = 0 ∧ rm.slots = 0) (hR : rm.frames + 1 ≤ R.frames ∧ 8 + (maxL + 11) + rm.locals ≤ R.locals) (hn : As.length = n) (hst : stk = As.reverse ++ .ref (ad b) :: rest) (hW : (rest.map fun v => v.category).sum ≤ 8) (hcs : cells ≤ R.cells ∧ slots ≤ R.slots) (hd : decode cc pc = .ok (.invokevirtual idx, 3)) :
    RunI p l e R s m args below meth c H locs cells slots (F0 m pc ls stk) rest (Qc (Value.ref (ad b) :: As).toArray) (Aa Λ ad) :=
  va_runVN S hM ⟨P.N S hI.2.2.2.1 hk hrm hR, cfw (Ts := []) S hin, cfw (Ts := []) S hse⟩ ⟨St.blind, hI.recv hc hC, fun U hU hW => ⟨rfl, hI.toSt hU hW⟩⟩ rfl hn hl.1 hst (lv_room hW) hd hcs
theorem r_S {y : MethodName} {bytes : ByteArray} {maxL n idx : Nat} {ret : Option FieldType} {rm : Room} {As : List Value} {Qc : Array Value → State → Outcome → State → Prop} (S : CallFix p m c cc nL s args (a0 :: gW) own) (hl : lv_has ls nL lv) (hI : Iv A G kA kL Λ ad w s H locs) (hM : Met l y (.code y bytes maxL ret :: gW) rm (va_Pc As (St G kA kL Λ ad w)) Qc 0 0 (Aa Λ ad)) (P : Pk y bytes maxL ret n) (hstt : Cond.static y ∈ gW) (hk : Cond.methodLink own idx y ∈ gW) (hrm : rm.cells = 0 ∧ rm.slots = 0) (hR : rm.frames + 1 ≤ R.frames ∧ 8 + (maxL + 11) + rm.locals ≤ R.locals) (hn : As.length = n) (hst : stk = As.reverse ++ rest) (hW : (rest.map fun v => v.category).sum ≤ 8) (hcs : cells ≤ R.cells ∧ slots ≤ R.slots) (hd : decode cc pc = .ok (.invokestatic idx, 3)) :
    RunI p l e R s m args below meth c H locs cells slots (F0 m pc ls stk) rest (Qc As.toArray) (Aa Λ ad) :=
  va_runS S hM ⟨P.B S hk hrm hR, cfw (Ts := []) S hstt⟩ ⟨St.blind, fun U hU hW => ⟨rfl, hI.toSt hU hW⟩⟩ rfl hn hl.1 hst (lv_room hW) hd hcs
theorem r_SN {y : MethodName} {bytes : ByteArray} {maxL n idx : Nat} {ret : Option FieldType} {rm : Room} {host : String} {As : List Value} {Qc : Array Value → State → Outcome → State → Prop} (S : CallFix p m c cc nL s args (a0 :: gW) own) (hl : lv_has ls nL lv) (hI : Iv A G kA kL Λ ad w s H locs) (hM : Met l y (.code y bytes maxL ret :: gW) rm (va_Pc As (St G kA kL Λ ad w)) Qc 0 0 (Aa Λ ad)) (P : Pk y bytes maxL ret n) (hstt : Cond.static y ∈ gW) (hk : Cond.methodLinkNest own idx y host ∈ nW) (hrm : rm.cells = 0 ∧ rm.slots = 0) (hR : rm.frames + 1 ≤ R.frames ∧ 8 + (maxL + 11) + rm.locals ≤ R.locals) (hn : As.length = n) (hst : stk = As.reverse ++ rest) (hW : (rest.map fun v => v.category).sum ≤ 8) (hcs : cells ≤ R.cells ∧ slots ≤ R.slots) (hd : decode cc pc = .ok (.invokestatic idx, 3)) :
    RunI p l e R s m args below meth c H locs cells slots (F0 m pc ls stk) rest (Qc As.toArray) (Aa Λ ad) :=
  va_runSN S hM ⟨P.N S hI.2.2.2.1 hk hrm hR, cfw (Ts := []) S hstt, trivial⟩ ⟨St.blind, fun U hU hW => ⟨rfl, hI.toSt hU hW⟩⟩ rfl hn hl.1 hst (lv_room hW) hd hcs
theorem r_ci {a : Array Value} {r : Int32} (hr : RunI p l e R s m args below meth c H locs cells slots (F0 m pc ls stk) rest (va_Qi (fun x (_ : Unit) => x = r) (fun _ => St G kA kL Λ ad w1) (Aa Λ ad) a) (Aa Λ ad)) (hI : Iv A G kA kL Λ ad w s H locs)
    (kk : ∀ (H1 : Heap) (locs1 : List Loc), Iv A G kA kL Λ ad w1 s H1 locs1 → W p l e R s m args below meth c H1 locs1 cells slots Q (F0 m (pc + 3) ls (.int r :: rest))) : W p l e R s m args below meth c H locs cells slots Q (F0 m pc ls stk) :=
  va_calli hr hI.2.2.2.2.1 (fun _ _ h => hI.inA _ h) (fun _ h => hI.inA _ h) fun r' u t H1 locs1 ht hvm hp hB hz hk hS => by
    subst hp
    exact kk H1 locs1 ⟨by rw [← ht]; exact hB.1, hI.2.1, hI.2.2.1, hI.2.2.2.1, hS, hI.2.2.2.2.2⟩
theorem r_cv {a : Array Value} (hr : RunI p l e R s m args below meth c H locs cells slots (F0 m pc ls stk) rest (va_Qv (fun (_ : Unit) => True) (fun _ => St G kA kL Λ ad w1) (Aa Λ ad) a) (Aa Λ ad)) (hI : Iv A G kA kL Λ ad w s H locs)
    (kk : ∀ (H1 : Heap) (locs1 : List Loc), Iv A G kA kL Λ ad w1 s H1 locs1 → W p l e R s m args below meth c H1 locs1 cells slots Q (F0 m (pc + 3) ls rest)) : W p l e R s m args below meth c H locs cells slots Q (F0 m pc ls stk) :=
  va_callv hr hI.2.2.2.2.1 (fun _ _ h => hI.inA _ h) (fun _ h => hI.inA _ h) fun u t H1 locs1 ht hvm hp hB hz hk hS =>
    kk H1 locs1 ⟨by rw [← ht]; exact hB.1, hI.2.1, hI.2.2.1, hI.2.2.2.1, hS, hI.2.2.2.2.2⟩
theorem r_cr {a : Array Value} {r : Nat} (hr : RunI p l e R s m args below meth c H locs cells slots (F0 m pc ls stk) rest (va_Qr (fun (_ : Unit) => True) (fun _ a t => a = ad r ∧ St G kA kL Λ ad w1 t) (Aa Λ ad) a) (Aa Λ ad)) (hI : Iv A G kA kL Λ ad w s H locs)
    (kk : ∀ (H1 : Heap) (locs1 : List Loc), Iv A G kA kL Λ ad w1 s H1 locs1 → W p l e R s m args below meth c H1 locs1 cells slots Q (F0 m (pc + 3) ls (.ref (ad r) :: rest))) : W p l e R s m args below meth c H locs cells slots Q (F0 m pc ls stk) :=
  va_callr hr hI.2.2.2.2.1 (fun _ _ h => hI.inA _ h) (fun _ h => hI.inA _ h) fun u ra t H1 locs1 ht hvm hp hB hz hk hS => by
    obtain ⟨rfl, hB⟩ := hB
    exact kk H1 locs1 ⟨by rw [← ht]; exact hB.1, hI.2.1, hI.2.2.1, hI.2.2.2.1, hS, hI.2.2.2.2.2⟩
end WR
end
section
/-! written by walk.py: the functions that the bytecode computes, and the walks -/
/-- java/util/Arrays.fill([II)V -/
abbrev rmAf_fill : Room := { frames := 0, cells := 0, slots := 0, locals := 0 }
theorem pkAf_fill : Pk yAf_fill cAf_fill 4 none 2 := ⟨kw_337, kw_14, by decide +kernel, by decide +kernel, by decide +kernel⟩
def bAf_fill_5s (Λ : La) (K5 : Wo → Nat → Int32 → Int32 → Int32 → Option Wo) (w : Wo) (c0 : Nat) (x1 : Int32) (x2 : Int32) (x3 : Int32) : Option Wo := if x3 ≤ x2 then (some w) else ((st Λ w c0 x2 x1).bind fun w2 => K5 w2 c0 x1 (x2 + 1) x3)
def bAf_fill_5 (Λ : La) : Nat → Wo → Nat → Int32 → Int32 → Int32 → Option Wo
  | 0 => fun _ _ _ _ _ => none
  | n + 1 => bAf_fill_5s Λ (bAf_fill_5 Λ n)
def fAf_fill (Λ : La) (w : Wo) (c0 : Nat) (x1 : Int32) : Option Wo := (al Λ c0).bind fun v3 => bAf_fill_5 Λ 1000 w c0 x1 0 v3
set_option maxHeartbeats 4000000 in
set_option maxRecDepth 100000 in
theorem kAf_fill (l : Launch) (G : va_G) (kA kL : ClassId) (Λ : La) (ad : Nat → Nat) (w : Wo) (c0 : Nat) (x1 : Int32) (w1 : Wo) (hf : fAf_fill Λ w c0 x1 = some w1) : Mv l yAf_fill cAf_fill 4 rmAf_fill G kA kL Λ ad [.ref (ad c0), .int x1] w w1 := by
  refine Mv.of (by decide +kernel) (Nat.le_of_ble_eq_true rfl) ?_
  intro p e s m args below meth c Q ls S hret hl hI
  have S : CallFix p m c cAf_fill 4 s args (.code yAf_fill cAf_fill 4 none :: gW) "java/util/Arrays" := S
  have hl : lv_has ls 4 [(0, .ref (ad c0)), (1, .int x1)] := hl
  have hx := S.1
  have hb := S.2.1
  have bk5 : ∀ (K5 : Wo → Nat → Int32 → Int32 → Int32 → Option Wo), (∀ (w : Wo) (c0 : Nat) (x1 : Int32) (x2 : Int32) (x3 : Int32) (H : Heap) (locs : List Loc) (ls : Array Slot), lv_has ls 4 [(0, .ref (ad c0)), (1, .int x1), (2, .int x2), (3, .int x3)] → Iv (Aa Λ ad) G kA kL Λ ad w s H locs → K5 w c0 x1 x2 x3 = some w1 → W p l e rmAf_fill s m args below meth c H locs 0 0 Q (F0 m 5 ls [])) → ∀ (w : Wo) (c0 : Nat) (x1 : Int32) (x2 : Int32) (x3 : Int32) (H : Heap) (locs : List Loc) (ls : Array Slot), lv_has ls 4 [(0, .ref (ad c0)), (1, .int x1), (2, .int x2), (3, .int x3)] → Iv (Aa Λ ad) G kA kL Λ ad w s H locs → bAf_fill_5s Λ K5 w c0 x1 x2 x3 = some w1 → W p l e rmAf_fill s m args below meth c H locs 0 0 Q (F0 m 5 ls []) := by
    intro K5 hK5 w c0 x1 x2 x3 H locs ls hl hI hf
    unfold bAf_fill_5s at hf
    refine lv_iload_n hx hb dAf_fill_5 rfl (lv_at hl 2 rfl) ?_
    refine lv_iload_n hx hb dAf_fill_6 rfl (lv_at hl 3 rfl) ?_
    refine lv_icmp_ge (tgt := 20) hx hb dAf_fill_7 rfl (fun h1 => ?_) (fun h1 => ?_)
    · have hf := ip_ hf h1
      exact hret _ _ _ _ _ hI hf dAf_fill_20
    · have hf := in_ hf h1
      refine lv_aload_n hx hb dAf_fill_10 rfl (lv_at hl 0 rfl) ?_
      refine lv_iload_n hx hb dAf_fill_11 rfl (lv_at hl 2 rfl) ?_
      refine lv_iload_n hx hb dAf_fill_12 rfl (lv_at hl 1 rfl) ?_
      obtain ⟨w2, hw2, hf⟩ := ob_ hf
      refine r_ast S hI dAf_fill_13 hw2 (fun H locs hI => ?_)
      refine lv_iinc hx hb (lv' := [(2, .int (x2 + 1)), (0, .ref (ad c0)), (1, .int x1), (3, .int x3)]) (k := 2) dAf_fill_14 hl rfl (kN_1 _) (Nat.le_of_ble_eq_true rfl) rfl (fun ls hl => ?_)
      refine lv_goto (tgt := 5) hx hb dAf_fill_17 rfl ?_
      exact hK5 w2 c0 x1 (x2 + 1) x3 _ _ _ (lv_sub hl [1, 2, 0, 3] rfl) hI hf
  have lp5 : ∀ (n : Nat), ∀ (w : Wo) (c0 : Nat) (x1 : Int32) (x2 : Int32) (x3 : Int32) (H : Heap) (locs : List Loc) (ls : Array Slot), lv_has ls 4 [(0, .ref (ad c0)), (1, .int x1), (2, .int x2), (3, .int x3)] → Iv (Aa Λ ad) G kA kL Λ ad w s H locs → bAf_fill_5 Λ n w c0 x1 x2 x3 = some w1 → W p l e rmAf_fill s m args below meth c H locs 0 0 Q (F0 m 5 ls []) := by
    intro n
    induction n with
    | zero =>
      intro w c0 x1 x2 x3 H locs ls hl hI hf
      have hf : (none : Option Wo) = some w1 := hf
      cases hf
    | succ n ih =>
      intro w c0 x1 x2 x3 H locs ls hl hI hf
      exact bk5 (bAf_fill_5 Λ n) ih w c0 x1 x2 x3 H locs ls hl hI hf
  unfold fAf_fill at hf
  refine lv_iconst hx hb dAf_fill_0 kI_0 ?_
  refine lv_istore_n hx hb (lv' := [(2, .int 0), (0, .ref (ad c0)), (1, .int x1)]) dAf_fill_1 rfl hl (Nat.le_of_ble_eq_true rfl) rfl (fun ls hl => ?_)
  refine lv_aload_n hx hb dAf_fill_2 rfl (lv_at hl 1 rfl) ?_
  obtain ⟨v3, hv3, hf⟩ := ob_ hf
  refine r_alen S hI dAf_fill_3 hv3 ?_
  refine lv_istore_n hx hb (lv' := [(3, .int v3), (2, .int 0), (0, .ref (ad c0)), (1, .int x1)]) dAf_fill_4 rfl hl (Nat.le_of_ble_eq_true rfl) rfl (fun ls hl => ?_)
  exact lp5 1000 w c0 x1 0 v3 _ _ _ (lv_sub hl [2, 3, 1, 0] rfl) hI hf
end
section
/-! written by walk.py: the functions that the bytecode computes, and the walks -/
/-- GuardVolumeModel.place(II)I -/
abbrev rmM_place : Room := { frames := 0, cells := 0, slots := 0, locals := 0 }
theorem pkM_place : Pk yM_place cM_place 2 (some .int) 2 := ⟨kw_493, kw_7, by decide +kernel, by decide +kernel, by decide +kernel⟩
def fM_place (Λ : La) (w : Wo) (x0 : Int32) (x1 : Int32) : Option (Wo × Int32) := some (w, (11 * ((72 * x0) + x1)))
set_option maxHeartbeats 4000000 in
set_option maxRecDepth 100000 in
theorem kM_place (l : Launch) (G : va_G) (kA kL : ClassId) (Λ : La) (ad : Nat → Nat) (w : Wo) (x0 : Int32) (x1 : Int32) (w1 : Wo) (r : Int32) (hf : fM_place Λ w x0 x1 = some (w1, r)) : Mi l yM_place cM_place 2 (some .int) rmM_place G kA kL Λ ad [.int x0, .int x1] w w1 r := by
  refine Mi.of (by decide +kernel) (Nat.le_of_ble_eq_true rfl) ?_
  intro p e s m args below meth c Q ls S hret hl hI
  have S : CallFix p m c cM_place 2 s args (.code yM_place cM_place 2 (some .int) :: gW) "GuardVolumeModel" := S
  have hl : lv_has ls 2 [(0, .int x0), (1, .int x1)] := hl
  have hx := S.1
  have hb := S.2.1
  unfold fM_place at hf
  refine lv_bipush hx hb dM_place_0 kB_11 ?_
  refine lv_bipush hx hb dM_place_2 kB_72 ?_
  refine lv_iload_n hx hb dM_place_4 rfl (lv_at hl 0 rfl) ?_
  refine lv_imul hx hb dM_place_5 ?_
  refine lv_iload_n hx hb dM_place_6 rfl (lv_at hl 1 rfl) ?_
  refine lv_iadd hx hb dM_place_7 ?_
  refine lv_imul hx hb dM_place_8 ?_
  exact hret _ _ _ _ _ _ hI hf dM_place_9
/-- GuardVolumeModel.mix(II)I -/
abbrev rmM_mix : Room := { frames := 0, cells := 0, slots := 0, locals := 0 }
theorem pkM_mix : Pk yM_mix cM_mix 2 (some .int) 2 := ⟨kw_500, kw_7, by decide +kernel, by decide +kernel, by decide +kernel⟩
def fM_mix (Λ : La) (w : Wo) (x0 : Int32) (x1 : Int32) : Option (Wo × Int32) := some (w, (((x0 <<< (5 &&& 31)) ||| (ush x0 27)) + x1))
set_option maxHeartbeats 4000000 in
set_option maxRecDepth 100000 in
theorem kM_mix (l : Launch) (G : va_G) (kA kL : ClassId) (Λ : La) (ad : Nat → Nat) (w : Wo) (x0 : Int32) (x1 : Int32) (w1 : Wo) (r : Int32) (hf : fM_mix Λ w x0 x1 = some (w1, r)) : Mi l yM_mix cM_mix 2 (some .int) rmM_mix G kA kL Λ ad [.int x0, .int x1] w w1 r := by
  refine Mi.of (by decide +kernel) (Nat.le_of_ble_eq_true rfl) ?_
  intro p e s m args below meth c Q ls S hret hl hI
  have S : CallFix p m c cM_mix 2 s args (.code yM_mix cM_mix 2 (some .int) :: gW) "GuardVolumeModel" := S
  have hl : lv_has ls 2 [(0, .int x0), (1, .int x1)] := hl
  have hx := S.1
  have hb := S.2.1
  unfold fM_mix at hf
  refine lv_iload_n hx hb dM_mix_0 rfl (lv_at hl 0 rfl) ?_
  refine lv_iconst hx hb dM_mix_1 kI_5 ?_
  refine lv_ishl hx hb dM_mix_2 ?_
  refine lv_iload_n hx hb dM_mix_3 rfl (lv_at hl 0 rfl) ?_
  refine lv_bipush hx hb dM_mix_4 kB_27 ?_
  refine lv_iushr hx hb dM_mix_6 (ush_ok _ _) ?_
  refine lv_ior hx hb dM_mix_7 ?_
  refine lv_iload_n hx hb dM_mix_8 rfl (lv_at hl 1 rfl) ?_
  refine W.eq (g2 := F0 m 9 ls _) rfl ?_
  refine lv_iadd hx hb dM_mix_9 ?_
  exact hret _ _ _ _ _ _ hI hf dM_mix_10
/-- GuardVolumeModel.sumAt(I)I -/
abbrev rmM_sumAt : Room := { frames := 1, cells := 0, slots := 0, locals := 21 }
theorem pkM_sumAt : Pk yM_sumAt cM_sumAt 4 (some .int) 1 := ⟨kw_497, kw_7, by decide +kernel, by decide +kernel, by decide +kernel⟩
def bM_sumAt_4s (Λ : La) (K4 : Wo → Nat → Int32 → Int32 → Int32 → Option (Wo × Int32)) (w : Wo) (c0 : Nat) (x1 : Int32) (x2 : Int32) (x3 : Int32) : Option (Wo × Int32) := if 8 ≤ x3 then ((gr Λ c0 5 1).bind fun r2 => (ld Λ w r2 (x1 + 9)).bind fun v3 => (fM_mix Λ w x2 v3).bind fun q4 => (gr Λ c0 5 1).bind fun r5 => (ld Λ q4.1 r5 (x1 + 10)).bind fun v6 => (fM_mix Λ q4.1 q4.2 v6).bind fun q7 => some (q7.1, q7.2)) else ((gr Λ c0 5 1).bind fun r8 => (ld Λ w r8 (x1 + x3)).bind fun v9 => (fM_mix Λ w x2 v9).bind fun q10 => K4 q10.1 c0 x1 q10.2 (x3 + 1))
def bM_sumAt_4 (Λ : La) : Nat → Wo → Nat → Int32 → Int32 → Int32 → Option (Wo × Int32)
  | 0 => fun _ _ _ _ _ => none
  | n + 1 => bM_sumAt_4s Λ (bM_sumAt_4 Λ n)
def fM_sumAt (Λ : La) (w : Wo) (c0 : Nat) (x1 : Int32) : Option (Wo × Int32) := gd (isC Λ c0 5) (bM_sumAt_4 Λ 1000 w c0 x1 0 0)
set_option maxHeartbeats 4000000 in
set_option maxRecDepth 100000 in
theorem kM_sumAt (l : Launch) (G : va_G) (kA kL : ClassId) (Λ : La) (ad : Nat → Nat) (w : Wo) (c0 : Nat) (x1 : Int32) (w1 : Wo) (r : Int32) (hf : fM_sumAt Λ w c0 x1 = some (w1, r)) : Mi l yM_sumAt cM_sumAt 4 (some .int) rmM_sumAt G kA kL Λ ad [.ref (ad c0), .int x1] w w1 r := by
  refine Mi.of (by decide +kernel) (Nat.le_of_ble_eq_true rfl) ?_
  intro p e s m args below meth c Q ls S hret hl hI
  have S : CallFix p m c cM_sumAt 4 s args (.code yM_sumAt cM_sumAt 4 (some .int) :: gW) "GuardVolumeModel" := S
  have hl : lv_has ls 4 [(0, .ref (ad c0)), (1, .int x1)] := hl
  have hx := S.1
  have hb := S.2.1
  have bk4 : ∀ (K4 : Wo → Nat → Int32 → Int32 → Int32 → Option (Wo × Int32)), (∀ (w : Wo) (c0 : Nat) (x1 : Int32) (x2 : Int32) (x3 : Int32) (H : Heap) (locs : List Loc) (ls : Array Slot), lv_has ls 4 [(0, .ref (ad c0)), (1, .int x1), (2, .int x2), (3, .int x3)] → Iv (Aa Λ ad) G kA kL Λ ad w s H locs → K4 w c0 x1 x2 x3 = some (w1, r) → W p l e rmM_sumAt s m args below meth c H locs 0 0 Q (F0 m 4 ls [])) → ∀ (w : Wo) (c0 : Nat) (x1 : Int32) (x2 : Int32) (x3 : Int32) (H : Heap) (locs : List Loc) (ls : Array Slot), lv_has ls 4 [(0, .ref (ad c0)), (1, .int x1), (2, .int x2), (3, .int x3)] → Iv (Aa Λ ad) G kA kL Λ ad w s H locs → bM_sumAt_4s Λ K4 w c0 x1 x2 x3 = some (w1, r) → W p l e rmM_sumAt s m args below meth c H locs 0 0 Q (F0 m 4 ls []) := by
    intro K4 hK4 w c0 x1 x2 x3 H locs ls hl hI hf
    unfold bM_sumAt_4s at hf
    refine lv_iload_n hx hb dM_sumAt_4 rfl (lv_at hl 3 rfl) ?_
    refine lv_bipush hx hb dM_sumAt_5 kB_8 ?_
    refine lv_icmp_ge (tgt := 29) hx hb dM_sumAt_7 rfl (fun h1 => ?_) (fun h1 => ?_)
    · have hf := ip_ hf h1
      refine lv_iload_n hx hb dM_sumAt_29 rfl (lv_at hl 2 rfl) ?_
      refine lv_aload_n hx hb dM_sumAt_30 rfl (lv_at hl 0 rfl) ?_
      obtain ⟨r2, hr2, hf⟩ := ob_ hf
      refine r_getr (i := 1) S hI fcM (Nat.le_of_ble_eq_true rfl) kw_502 dM_sumAt_31 hr2 ?_
      refine lv_iload_n hx hb dM_sumAt_34 rfl (lv_at hl 1 rfl) ?_
      refine lv_bipush hx hb dM_sumAt_35 kB_9 ?_
      refine lv_iadd hx hb dM_sumAt_37 ?_
      obtain ⟨v3, hv3, hf⟩ := ob_ hf
      refine r_ald S hI dM_sumAt_38 hv3 ?_
      obtain ⟨q4, hq4, hf⟩ := ob_ hf
      refine r_ci (r_S (rest := []) (As := [.int x2, .int v3]) S hl hI (kM_mix l G kA kL Λ ad w x2 v3 q4.1 q4.2 hq4) pkM_mix kw_499 kw_498 ⟨rfl, rfl⟩ ⟨Nat.le_of_ble_eq_true rfl, Nat.le_of_ble_eq_true rfl⟩ rfl rfl (Nat.le_of_ble_eq_true rfl) ⟨Nat.zero_le _, Nat.zero_le _⟩ dM_sumAt_39) hI (fun H locs hI => ?_)
      refine lv_aload_n hx hb dM_sumAt_42 rfl (lv_at hl 0 rfl) ?_
      obtain ⟨r5, hr5, hf⟩ := ob_ hf
      refine r_getr (i := 1) S hI fcM (Nat.le_of_ble_eq_true rfl) kw_502 dM_sumAt_43 hr5 ?_
      refine lv_iload_n hx hb dM_sumAt_46 rfl (lv_at hl 1 rfl) ?_
      refine lv_bipush hx hb dM_sumAt_47 kB_10 ?_
      refine lv_iadd hx hb dM_sumAt_49 ?_
      obtain ⟨v6, hv6, hf⟩ := ob_ hf
      refine r_ald S hI dM_sumAt_50 hv6 ?_
      obtain ⟨q7, hq7, hf⟩ := ob_ hf
      refine r_ci (r_S (rest := []) (As := [.int q4.2, .int v6]) S hl hI (kM_mix l G kA kL Λ ad q4.1 q4.2 v6 q7.1 q7.2 hq7) pkM_mix kw_499 kw_498 ⟨rfl, rfl⟩ ⟨Nat.le_of_ble_eq_true rfl, Nat.le_of_ble_eq_true rfl⟩ rfl rfl (Nat.le_of_ble_eq_true rfl) ⟨Nat.zero_le _, Nat.zero_le _⟩ dM_sumAt_51) hI (fun H locs hI => ?_)
      exact hret _ _ _ _ _ _ hI hf dM_sumAt_54
    · have hf := in_ hf h1
      refine lv_iload_n hx hb dM_sumAt_10 rfl (lv_at hl 2 rfl) ?_
      refine lv_aload_n hx hb dM_sumAt_11 rfl (lv_at hl 0 rfl) ?_
      obtain ⟨r8, hr8, hf⟩ := ob_ hf
      refine r_getr (i := 1) S hI fcM (Nat.le_of_ble_eq_true rfl) kw_502 dM_sumAt_12 hr8 ?_
      refine lv_iload_n hx hb dM_sumAt_15 rfl (lv_at hl 1 rfl) ?_
      refine lv_iload_n hx hb dM_sumAt_16 rfl (lv_at hl 3 rfl) ?_
      refine lv_iadd hx hb dM_sumAt_17 ?_
      obtain ⟨v9, hv9, hf⟩ := ob_ hf
      refine r_ald S hI dM_sumAt_18 hv9 ?_
      obtain ⟨q10, hq10, hf⟩ := ob_ hf
      refine r_ci (r_S (rest := []) (As := [.int x2, .int v9]) S hl hI (kM_mix l G kA kL Λ ad w x2 v9 q10.1 q10.2 hq10) pkM_mix kw_499 kw_498 ⟨rfl, rfl⟩ ⟨Nat.le_of_ble_eq_true rfl, Nat.le_of_ble_eq_true rfl⟩ rfl rfl (Nat.le_of_ble_eq_true rfl) ⟨Nat.zero_le _, Nat.zero_le _⟩ dM_sumAt_19) hI (fun H locs hI => ?_)
      refine lv_istore_n hx hb (lv' := [(2, .int q10.2), (0, .ref (ad c0)), (1, .int x1), (3, .int x3)]) dM_sumAt_22 rfl hl (Nat.le_of_ble_eq_true rfl) rfl (fun ls hl => ?_)
      refine lv_iinc hx hb (lv' := [(3, .int (x3 + 1)), (2, .int q10.2), (0, .ref (ad c0)), (1, .int x1)]) (k := 3) dM_sumAt_23 hl rfl (kN_1 _) (Nat.le_of_ble_eq_true rfl) rfl (fun ls hl => ?_)
      refine lv_goto (tgt := 4) hx hb dM_sumAt_26 rfl ?_
      exact hK4 q10.1 c0 x1 q10.2 (x3 + 1) _ _ _ (lv_sub hl [2, 3, 1, 0] rfl) hI hf
  have lp4 : ∀ (n : Nat), ∀ (w : Wo) (c0 : Nat) (x1 : Int32) (x2 : Int32) (x3 : Int32) (H : Heap) (locs : List Loc) (ls : Array Slot), lv_has ls 4 [(0, .ref (ad c0)), (1, .int x1), (2, .int x2), (3, .int x3)] → Iv (Aa Λ ad) G kA kL Λ ad w s H locs → bM_sumAt_4 Λ n w c0 x1 x2 x3 = some (w1, r) → W p l e rmM_sumAt s m args below meth c H locs 0 0 Q (F0 m 4 ls []) := by
    intro n
    induction n with
    | zero =>
      intro w c0 x1 x2 x3 H locs ls hl hI hf
      have hf : (none : Option (Wo × Int32)) = some (w1, r) := hf
      cases hf
    | succ n ih =>
      intro w c0 x1 x2 x3 H locs ls hl hI hf
      exact bk4 (bM_sumAt_4 Λ n) ih w c0 x1 x2 x3 H locs ls hl hI hf
  unfold fM_sumAt at hf
  have hf := (gd_some hf).2
  refine lv_iconst hx hb dM_sumAt_0 kI_0 ?_
  refine lv_istore_n hx hb (lv' := [(2, .int 0), (0, .ref (ad c0)), (1, .int x1)]) dM_sumAt_1 rfl hl (Nat.le_of_ble_eq_true rfl) rfl (fun ls hl => ?_)
  refine lv_iconst hx hb dM_sumAt_2 kI_0 ?_
  refine lv_istore_n hx hb (lv' := [(3, .int 0), (2, .int 0), (0, .ref (ad c0)), (1, .int x1)]) dM_sumAt_3 rfl hl (Nat.le_of_ble_eq_true rfl) rfl (fun ls hl => ?_)
  exact lp4 1000 w c0 x1 0 0 _ _ _ (lv_sub hl [2, 3, 1, 0] rfl) hI hf
/-- GuardVolumeModel.thrown()I -/
abbrev rmM_thrown : Room := { frames := 0, cells := 0, slots := 0, locals := 0 }
theorem pkM_thrown : Pk yM_thrown cM_thrown 1 (some .int) 0 := ⟨kw_565, kw_7, by decide +kernel, by decide +kernel, by decide +kernel⟩
def fM_thrown (Λ : La) (w : Wo) (c0 : Nat) : Option (Wo × Int32) := gd (isC Λ c0 5) ((gi Λ w c0 5 0).bind fun v1 => some (w, v1))
set_option maxHeartbeats 4000000 in
set_option maxRecDepth 100000 in
theorem kM_thrown (l : Launch) (G : va_G) (kA kL : ClassId) (Λ : La) (ad : Nat → Nat) (w : Wo) (c0 : Nat) (w1 : Wo) (r : Int32) (hf : fM_thrown Λ w c0 = some (w1, r)) : Mi l yM_thrown cM_thrown 1 (some .int) rmM_thrown G kA kL Λ ad [.ref (ad c0)] w w1 r := by
  refine Mi.of (by decide +kernel) (Nat.le_of_ble_eq_true rfl) ?_
  intro p e s m args below meth c Q ls S hret hl hI
  have S : CallFix p m c cM_thrown 1 s args (.code yM_thrown cM_thrown 1 (some .int) :: gW) "GuardVolumeModel" := S
  have hl : lv_has ls 1 [(0, .ref (ad c0))] := hl
  have hx := S.1
  have hb := S.2.1
  unfold fM_thrown at hf
  have hf := (gd_some hf).2
  refine lv_aload_n hx hb dM_thrown_0 rfl (lv_at hl 0 rfl) ?_
  obtain ⟨v1, hv1, hf⟩ := ob_ hf
  refine r_geti (i := 0) S hI fcM (Nat.le_of_ble_eq_true rfl) kw_501 dM_thrown_1 hv1 ?_
  exact hret _ _ _ _ _ _ hI hf dM_thrown_4
/-- GuardVolumeModel.in(II)Z -/
abbrev rmM_in : Room := { frames := 0, cells := 0, slots := 0, locals := 0 }
theorem pkM_in : Pk yM_in cM_in 2 (some .boolean) 2 := ⟨kw_572, kw_7, by decide +kernel, by decide +kernel, by decide +kernel⟩
def fM_in (Λ : La) (w : Wo) (x0 : Int32) (x1 : Int32) : Option (Wo × Int32) := if x0 < 0 then (zr w 0) else (if x1 ≤ x0 then (zr w 0) else (zr w 1))
set_option maxHeartbeats 4000000 in
set_option maxRecDepth 100000 in
theorem kM_in (l : Launch) (G : va_G) (kA kL : ClassId) (Λ : La) (ad : Nat → Nat) (w : Wo) (x0 : Int32) (x1 : Int32) (w1 : Wo) (r : Int32) (hf : fM_in Λ w x0 x1 = some (w1, r)) : Mi l yM_in cM_in 2 (some .boolean) rmM_in G kA kL Λ ad [.int x0, .int x1] w w1 r := by
  refine Mz.of (by decide +kernel) (Nat.le_of_ble_eq_true rfl) ?_
  intro p e s m args below meth c Q ls S hret hl hI
  have S : CallFix p m c cM_in 2 s args (.code yM_in cM_in 2 (some .boolean) :: gW) "GuardVolumeModel" := S
  have hl : lv_has ls 2 [(0, .int x0), (1, .int x1)] := hl
  have hx := S.1
  have hb := S.2.1
  unfold fM_in at hf
  refine lv_iload_n hx hb dM_in_0 rfl (lv_at hl 0 rfl) ?_
  refine lv_if_lt (tgt := 13) hx hb dM_in_1 rfl (fun h1 => ?_) (fun h1 => ?_)
  · have hf := ip_ hf h1
    refine lv_iconst hx hb dM_in_13 kI_0 ?_
    exact hret _ _ _ _ _ _ hI hf dM_in_14
  · have hf := in_ hf h1
    refine lv_iload_n hx hb dM_in_4 rfl (lv_at hl 0 rfl) ?_
    refine lv_iload_n hx hb dM_in_5 rfl (lv_at hl 1 rfl) ?_
    refine lv_icmp_ge (tgt := 13) hx hb dM_in_6 rfl (fun h2 => ?_) (fun h2 => ?_)
    · have hf := ip_ hf h2
      refine lv_iconst hx hb dM_in_13 kI_0 ?_
      exact hret _ _ _ _ _ _ hI hf dM_in_14
    · have hf := in_ hf h2
      refine lv_iconst hx hb dM_in_9 kI_1 ?_
      refine lv_goto (tgt := 14) hx hb dM_in_10 rfl ?_
      exact hret _ _ _ _ _ _ hI hf dM_in_14
/-- GuardVolumeModel.isWhole(II)Z -/
abbrev rmM_isWhole : Room := { frames := 2, cells := 0, slots := 0, locals := 44 }
theorem pkM_isWhole : Pk yM_isWhole cM_isWhole 4 (some .boolean) 2 := ⟨kw_584, kw_7, by decide +kernel, by decide +kernel, by decide +kernel⟩
def fM_isWhole (Λ : La) (w : Wo) (c0 : Nat) (x1 : Int32) (x2 : Int32) : Option (Wo × Int32) := gd (isC Λ c0 5) ((fM_place Λ w x1 x2).bind fun q1 => (gr Λ c0 5 1).bind fun r2 => (ld Λ q1.1 r2 (q1.2 + 8)).bind fun v3 => (fM_sumAt Λ q1.1 c0 q1.2).bind fun q4 => if v3 = q4.2 then (zr q4.1 1) else (zr q4.1 0))
set_option maxHeartbeats 4000000 in
set_option maxRecDepth 100000 in
theorem kM_isWhole (l : Launch) (G : va_G) (kA kL : ClassId) (Λ : La) (ad : Nat → Nat) (w : Wo) (c0 : Nat) (x1 : Int32) (x2 : Int32) (w1 : Wo) (r : Int32) (hf : fM_isWhole Λ w c0 x1 x2 = some (w1, r)) : Mi l yM_isWhole cM_isWhole 4 (some .boolean) rmM_isWhole G kA kL Λ ad [.ref (ad c0), .int x1, .int x2] w w1 r := by
  refine Mz.of (by decide +kernel) (Nat.le_of_ble_eq_true rfl) ?_
  intro p e s m args below meth c Q ls S hret hl hI
  have S : CallFix p m c cM_isWhole 4 s args (.code yM_isWhole cM_isWhole 4 (some .boolean) :: gW) "GuardVolumeModel" := S
  have hl : lv_has ls 4 [(0, .ref (ad c0)), (1, .int x1), (2, .int x2)] := hl
  have hx := S.1
  have hb := S.2.1
  unfold fM_isWhole at hf
  have hf := (gd_some hf).2
  refine lv_iload_n hx hb dM_isWhole_0 rfl (lv_at hl 1 rfl) ?_
  refine lv_iload_n hx hb dM_isWhole_1 rfl (lv_at hl 2 rfl) ?_
  obtain ⟨q1, hq1, hf⟩ := ob_ hf
  refine r_ci (r_S (rest := []) (As := [.int x1, .int x2]) S hl hI (kM_place l G kA kL Λ ad w x1 x2 q1.1 q1.2 hq1) pkM_place kw_492 kw_491 ⟨rfl, rfl⟩ ⟨Nat.le_of_ble_eq_true rfl, Nat.le_of_ble_eq_true rfl⟩ rfl rfl (Nat.le_of_ble_eq_true rfl) ⟨Nat.zero_le _, Nat.zero_le _⟩ dM_isWhole_2) hI (fun H locs hI => ?_)
  refine lv_istore_n hx hb (lv' := [(3, .int q1.2), (0, .ref (ad c0)), (1, .int x1), (2, .int x2)]) dM_isWhole_5 rfl hl (Nat.le_of_ble_eq_true rfl) rfl (fun ls hl => ?_)
  refine lv_aload_n hx hb dM_isWhole_6 rfl (lv_at hl 1 rfl) ?_
  obtain ⟨r2, hr2, hf⟩ := ob_ hf
  refine r_getr (i := 1) S hI fcM (Nat.le_of_ble_eq_true rfl) kw_502 dM_isWhole_7 hr2 ?_
  refine lv_iload_n hx hb dM_isWhole_10 rfl (lv_at hl 0 rfl) ?_
  refine lv_bipush hx hb dM_isWhole_11 kB_8 ?_
  refine lv_iadd hx hb dM_isWhole_13 ?_
  obtain ⟨v3, hv3, hf⟩ := ob_ hf
  refine r_ald S hI dM_isWhole_14 hv3 ?_
  refine lv_aload_n hx hb dM_isWhole_15 rfl (lv_at hl 1 rfl) ?_
  refine lv_iload_n hx hb dM_isWhole_16 rfl (lv_at hl 0 rfl) ?_
  obtain ⟨q4, hq4, hf⟩ := ob_ hf
  refine r_ci (r_V (rest := [.int v3]) (As := [.int q1.2]) S hl hI (kM_sumAt l G kA kL Λ ad q1.1 c0 q1.2 q4.1 q4.2 hq4) pkM_sumAt kw_496 ks_M_sumAt (fcM).1 (gd_some hq4).1 kw_494 ⟨rfl, rfl⟩ ⟨Nat.le_of_ble_eq_true rfl, Nat.le_of_ble_eq_true rfl⟩ rfl rfl (Nat.le_of_ble_eq_true rfl) ⟨Nat.zero_le _, Nat.zero_le _⟩ dM_isWhole_17) hI (fun H locs hI => ?_)
  refine lv_icmp_ne (tgt := 27) hx hb dM_isWhole_20 rfl (fun h5 => ?_) (fun h5 => ?_)
  · have hf := in_ hf h5
    refine lv_iconst hx hb dM_isWhole_27 kI_0 ?_
    exact hret _ _ _ _ _ _ hI hf dM_isWhole_28
  · have hf := ip_ hf h5
    refine lv_iconst hx hb dM_isWhole_23 kI_1 ?_
    refine lv_goto (tgt := 28) hx hb dM_isWhole_24 rfl ?_
    exact hret _ _ _ _ _ _ hI hf dM_isWhole_28
/-- GuardVolumeModel.isRightPage(II)Z -/
abbrev rmM_isRightPage : Room := { frames := 3, cells := 0, slots := 0, locals := 67 }
theorem pkM_isRightPage : Pk yM_isRightPage cM_isRightPage 4 (some .boolean) 2 := ⟨kw_592, kw_7, by decide +kernel, by decide +kernel, by decide +kernel⟩
def fM_isRightPage (Λ : La) (w : Wo) (c0 : Nat) (x1 : Int32) (x2 : Int32) : Option (Wo × Int32) := gd (isC Λ c0 5) ((fM_place Λ w x1 (64 + x2)).bind fun q1 => (fM_isWhole Λ q1.1 c0 x1 (64 + x2)).bind fun q2 => if q2.2 = 0 then (zr q2.1 0) else ((gr Λ c0 5 1).bind fun r4 => (ld Λ q2.1 r4 (q1.2 + 9)).bind fun v5 => if v5 = (64 + x2) then ((gr Λ c0 5 1).bind fun r7 => (ld Λ q2.1 r7 (q1.2 + 10)).bind fun v8 => (gr Λ c0 5 2).bind fun r9 => (ld Λ q2.1 r9 ((8 * x1) + x2)).bind fun v10 => if v8 = v10 then (zr q2.1 1) else (zr q2.1 0)) else (zr q2.1 0)))
set_option maxHeartbeats 4000000 in
set_option maxRecDepth 100000 in
theorem kM_isRightPage (l : Launch) (G : va_G) (kA kL : ClassId) (Λ : La) (ad : Nat → Nat) (w : Wo) (c0 : Nat) (x1 : Int32) (x2 : Int32) (w1 : Wo) (r : Int32) (hf : fM_isRightPage Λ w c0 x1 x2 = some (w1, r)) : Mi l yM_isRightPage cM_isRightPage 4 (some .boolean) rmM_isRightPage G kA kL Λ ad [.ref (ad c0), .int x1, .int x2] w w1 r := by
  refine Mz.of (by decide +kernel) (Nat.le_of_ble_eq_true rfl) ?_
  intro p e s m args below meth c Q ls S hret hl hI
  have S : CallFix p m c cM_isRightPage 4 s args (.code yM_isRightPage cM_isRightPage 4 (some .boolean) :: gW) "GuardVolumeModel" := S
  have hl : lv_has ls 4 [(0, .ref (ad c0)), (1, .int x1), (2, .int x2)] := hl
  have hx := S.1
  have hb := S.2.1
  unfold fM_isRightPage at hf
  have hf := (gd_some hf).2
  refine lv_iload_n hx hb dM_isRightPage_0 rfl (lv_at hl 1 rfl) ?_
  refine lv_bipush hx hb dM_isRightPage_1 kB_64 ?_
  refine lv_iload_n hx hb dM_isRightPage_3 rfl (lv_at hl 2 rfl) ?_
  refine lv_iadd hx hb dM_isRightPage_4 ?_
  obtain ⟨q1, hq1, hf⟩ := ob_ hf
  refine r_ci (r_S (rest := []) (As := [.int x1, .int (64 + x2)]) S hl hI (kM_place l G kA kL Λ ad w x1 (64 + x2) q1.1 q1.2 hq1) pkM_place kw_492 kw_491 ⟨rfl, rfl⟩ ⟨Nat.le_of_ble_eq_true rfl, Nat.le_of_ble_eq_true rfl⟩ rfl rfl (Nat.le_of_ble_eq_true rfl) ⟨Nat.zero_le _, Nat.zero_le _⟩ dM_isRightPage_5) hI (fun H locs hI => ?_)
  refine lv_istore_n hx hb (lv' := [(3, .int q1.2), (0, .ref (ad c0)), (1, .int x1), (2, .int x2)]) dM_isRightPage_8 rfl hl (Nat.le_of_ble_eq_true rfl) rfl (fun ls hl => ?_)
  refine lv_aload_n hx hb dM_isRightPage_9 rfl (lv_at hl 1 rfl) ?_
  refine lv_iload_n hx hb dM_isRightPage_10 rfl (lv_at hl 2 rfl) ?_
  refine lv_bipush hx hb dM_isRightPage_11 kB_64 ?_
  refine lv_iload_n hx hb dM_isRightPage_13 rfl (lv_at hl 3 rfl) ?_
  refine lv_iadd hx hb dM_isRightPage_14 ?_
  obtain ⟨q2, hq2, hf⟩ := ob_ hf
  refine r_ci (r_V (rest := []) (As := [.int x1, .int (64 + x2)]) S hl hI (kM_isWhole l G kA kL Λ ad q1.1 c0 x1 (64 + x2) q2.1 q2.2 hq2) pkM_isWhole kw_583 ks_M_isWhole (fcM).1 (gd_some hq2).1 kw_581 ⟨rfl, rfl⟩ ⟨Nat.le_of_ble_eq_true rfl, Nat.le_of_ble_eq_true rfl⟩ rfl rfl (Nat.le_of_ble_eq_true rfl) ⟨Nat.zero_le _, Nat.zero_le _⟩ dM_isRightPage_15) hI (fun H locs hI => ?_)
  refine lv_if_eq (tgt := 64) hx hb dM_isRightPage_18 rfl (fun h3 => ?_) (fun h3 => ?_)
  · have hf := ip_ hf h3
    refine lv_iconst hx hb dM_isRightPage_64 kI_0 ?_
    exact hret _ _ _ _ _ _ hI hf dM_isRightPage_65
  · have hf := in_ hf h3
    refine lv_aload_n hx hb dM_isRightPage_21 rfl (lv_at hl 1 rfl) ?_
    obtain ⟨r4, hr4, hf⟩ := ob_ hf
    refine r_getr (i := 1) S hI fcM (Nat.le_of_ble_eq_true rfl) kw_502 dM_isRightPage_22 hr4 ?_
    refine lv_iload_n hx hb dM_isRightPage_25 rfl (lv_at hl 0 rfl) ?_
    refine lv_bipush hx hb dM_isRightPage_26 kB_9 ?_
    refine lv_iadd hx hb dM_isRightPage_28 ?_
    obtain ⟨v5, hv5, hf⟩ := ob_ hf
    refine r_ald S hI dM_isRightPage_29 hv5 ?_
    refine lv_bipush hx hb dM_isRightPage_30 kB_64 ?_
    refine lv_iload_n hx hb dM_isRightPage_32 rfl (lv_at hl 3 rfl) ?_
    refine lv_iadd hx hb dM_isRightPage_33 ?_
    refine lv_icmp_ne (tgt := 64) hx hb dM_isRightPage_34 rfl (fun h6 => ?_) (fun h6 => ?_)
    · have hf := in_ hf h6
      refine lv_iconst hx hb dM_isRightPage_64 kI_0 ?_
      exact hret _ _ _ _ _ _ hI hf dM_isRightPage_65
    · have hf := ip_ hf h6
      refine lv_aload_n hx hb dM_isRightPage_37 rfl (lv_at hl 1 rfl) ?_
      obtain ⟨r7, hr7, hf⟩ := ob_ hf
      refine r_getr (i := 1) S hI fcM (Nat.le_of_ble_eq_true rfl) kw_502 dM_isRightPage_38 hr7 ?_
      refine lv_iload_n hx hb dM_isRightPage_41 rfl (lv_at hl 0 rfl) ?_
      refine lv_bipush hx hb dM_isRightPage_42 kB_10 ?_
      refine lv_iadd hx hb dM_isRightPage_44 ?_
      obtain ⟨v8, hv8, hf⟩ := ob_ hf
      refine r_ald S hI dM_isRightPage_45 hv8 ?_
      refine lv_aload_n hx hb dM_isRightPage_46 rfl (lv_at hl 1 rfl) ?_
      obtain ⟨r9, hr9, hf⟩ := ob_ hf
      refine r_getr (i := 2) S hI fcM (Nat.le_of_ble_eq_true rfl) kw_503 dM_isRightPage_47 hr9 ?_
      refine lv_bipush hx hb dM_isRightPage_50 kB_8 ?_
      refine lv_iload_n hx hb dM_isRightPage_52 rfl (lv_at hl 2 rfl) ?_
      refine lv_imul hx hb dM_isRightPage_53 ?_
      refine lv_iload_n hx hb dM_isRightPage_54 rfl (lv_at hl 3 rfl) ?_
      refine lv_iadd hx hb dM_isRightPage_55 ?_
      obtain ⟨v10, hv10, hf⟩ := ob_ hf
      refine r_ald S hI dM_isRightPage_56 hv10 ?_
      refine lv_icmp_ne (tgt := 64) hx hb dM_isRightPage_57 rfl (fun h11 => ?_) (fun h11 => ?_)
      · have hf := in_ hf h11
        refine lv_iconst hx hb dM_isRightPage_64 kI_0 ?_
        exact hret _ _ _ _ _ _ hI hf dM_isRightPage_65
      · have hf := ip_ hf h11
        refine lv_iconst hx hb dM_isRightPage_60 kI_1 ?_
        refine lv_goto (tgt := 65) hx hb dM_isRightPage_61 rfl ?_
        exact hret _ _ _ _ _ _ hI hf dM_isRightPage_65
/-- GuardVolumeModel.isUnknown(II)Z -/
abbrev rmM_isUnknown : Room := { frames := 4, cells := 0, slots := 0, locals := 90 }
theorem pkM_isUnknown : Pk yM_isUnknown cM_isUnknown 3 (some .boolean) 2 := ⟨kw_588, kw_7, by decide +kernel, by decide +kernel, by decide +kernel⟩
def fM_isUnknown (Λ : La) (w : Wo) (c0 : Nat) (x1 : Int32) (x2 : Int32) : Option (Wo × Int32) := gd (isC Λ c0 5) ((fM_isRightPage Λ w c0 (1 - x1) (x2 / 8)).bind fun q1 => if q1.2 = 0 then ((fM_isRightPage Λ q1.1 c0 x1 (x2 / 8)).bind fun q3 => if q3.2 = 0 then (zr q3.1 1) else (zr q3.1 0)) else (zr q1.1 0))
set_option maxHeartbeats 4000000 in
set_option maxRecDepth 100000 in
theorem kM_isUnknown (l : Launch) (G : va_G) (kA kL : ClassId) (Λ : La) (ad : Nat → Nat) (w : Wo) (c0 : Nat) (x1 : Int32) (x2 : Int32) (w1 : Wo) (r : Int32) (hf : fM_isUnknown Λ w c0 x1 x2 = some (w1, r)) : Mi l yM_isUnknown cM_isUnknown 3 (some .boolean) rmM_isUnknown G kA kL Λ ad [.ref (ad c0), .int x1, .int x2] w w1 r := by
  refine Mz.of (by decide +kernel) (Nat.le_of_ble_eq_true rfl) ?_
  intro p e s m args below meth c Q ls S hret hl hI
  have S : CallFix p m c cM_isUnknown 3 s args (.code yM_isUnknown cM_isUnknown 3 (some .boolean) :: gW) "GuardVolumeModel" := S
  have hl : lv_has ls 3 [(0, .ref (ad c0)), (1, .int x1), (2, .int x2)] := hl
  have hx := S.1
  have hb := S.2.1
  unfold fM_isUnknown at hf
  have hf := (gd_some hf).2
  refine lv_aload_n hx hb dM_isUnknown_0 rfl (lv_at hl 0 rfl) ?_
  refine lv_iconst hx hb dM_isUnknown_1 kI_1 ?_
  refine lv_iload_n hx hb dM_isUnknown_2 rfl (lv_at hl 1 rfl) ?_
  refine lv_isub hx hb dM_isUnknown_3 ?_
  refine lv_iload_n hx hb dM_isUnknown_4 rfl (lv_at hl 2 rfl) ?_
  refine lv_bipush hx hb dM_isUnknown_5 kB_8 ?_
  refine lv_idiv hx hb dM_isUnknown_7 (by decide +kernel) ?_
  obtain ⟨q1, hq1, hf⟩ := ob_ hf
  refine r_ci (r_V (rest := []) (As := [.int (1 - x1), .int (x2 / 8)]) S hl hI (kM_isRightPage l G kA kL Λ ad w c0 (1 - x1) (x2 / 8) q1.1 q1.2 hq1) pkM_isRightPage kw_591 ks_M_isRightPage (fcM).1 (gd_some hq1).1 kw_589 ⟨rfl, rfl⟩ ⟨Nat.le_of_ble_eq_true rfl, Nat.le_of_ble_eq_true rfl⟩ rfl rfl (Nat.le_of_ble_eq_true rfl) ⟨Nat.zero_le _, Nat.zero_le _⟩ dM_isUnknown_8) hI (fun H locs hI => ?_)
  refine lv_if_ne (tgt := 30) hx hb dM_isUnknown_11 rfl (fun h2 => ?_) (fun h2 => ?_)
  · have hf := in_ hf h2
    refine lv_iconst hx hb dM_isUnknown_30 kI_0 ?_
    exact hret _ _ _ _ _ _ hI hf dM_isUnknown_31
  · have hf := ip_ hf h2
    refine lv_aload_n hx hb dM_isUnknown_14 rfl (lv_at hl 0 rfl) ?_
    refine lv_iload_n hx hb dM_isUnknown_15 rfl (lv_at hl 1 rfl) ?_
    refine lv_iload_n hx hb dM_isUnknown_16 rfl (lv_at hl 2 rfl) ?_
    refine lv_bipush hx hb dM_isUnknown_17 kB_8 ?_
    refine lv_idiv hx hb dM_isUnknown_19 (by decide +kernel) ?_
    obtain ⟨q3, hq3, hf⟩ := ob_ hf
    refine r_ci (r_V (rest := []) (As := [.int x1, .int (x2 / 8)]) S hl hI (kM_isRightPage l G kA kL Λ ad q1.1 c0 x1 (x2 / 8) q3.1 q3.2 hq3) pkM_isRightPage kw_591 ks_M_isRightPage (fcM).1 (gd_some hq3).1 kw_589 ⟨rfl, rfl⟩ ⟨Nat.le_of_ble_eq_true rfl, Nat.le_of_ble_eq_true rfl⟩ rfl rfl (Nat.le_of_ble_eq_true rfl) ⟨Nat.zero_le _, Nat.zero_le _⟩ dM_isUnknown_20) hI (fun H locs hI => ?_)
    refine lv_if_ne (tgt := 30) hx hb dM_isUnknown_23 rfl (fun h4 => ?_) (fun h4 => ?_)
    · have hf := in_ hf h4
      refine lv_iconst hx hb dM_isUnknown_30 kI_0 ?_
      exact hret _ _ _ _ _ _ hI hf dM_isUnknown_31
    · have hf := ip_ hf h4
      refine lv_iconst hx hb dM_isUnknown_26 kI_1 ?_
      refine lv_goto (tgt := 31) hx hb dM_isUnknown_27 rfl ?_
      exact hret _ _ _ _ _ _ hI hf dM_isUnknown_31
/-- GuardVolumeModel.listed(II)I -/
abbrev rmM_listed : Room := { frames := 1, cells := 0, slots := 0, locals := 21 }
theorem pkM_listed : Pk yM_listed cM_listed 3 (some .int) 2 := ⟨kw_600, kw_7, by decide +kernel, by decide +kernel, by decide +kernel⟩
def fM_listed (Λ : La) (w : Wo) (c0 : Nat) (x1 : Int32) (x2 : Int32) : Option (Wo × Int32) := gd (isC Λ c0 5) ((gr Λ c0 5 1).bind fun r1 => (fM_place Λ w x1 (64 + (x2 / 8))).bind fun q2 => (ld Λ q2.1 r1 (q2.2 + (x2 - x2 / 8 * 8))).bind fun v3 => some (q2.1, v3))
set_option maxHeartbeats 4000000 in
set_option maxRecDepth 100000 in
theorem kM_listed (l : Launch) (G : va_G) (kA kL : ClassId) (Λ : La) (ad : Nat → Nat) (w : Wo) (c0 : Nat) (x1 : Int32) (x2 : Int32) (w1 : Wo) (r : Int32) (hf : fM_listed Λ w c0 x1 x2 = some (w1, r)) : Mi l yM_listed cM_listed 3 (some .int) rmM_listed G kA kL Λ ad [.ref (ad c0), .int x1, .int x2] w w1 r := by
  refine Mi.of (by decide +kernel) (Nat.le_of_ble_eq_true rfl) ?_
  intro p e s m args below meth c Q ls S hret hl hI
  have S : CallFix p m c cM_listed 3 s args (.code yM_listed cM_listed 3 (some .int) :: gW) "GuardVolumeModel" := S
  have hl : lv_has ls 3 [(0, .ref (ad c0)), (1, .int x1), (2, .int x2)] := hl
  have hx := S.1
  have hb := S.2.1
  unfold fM_listed at hf
  have hf := (gd_some hf).2
  refine lv_aload_n hx hb dM_listed_0 rfl (lv_at hl 0 rfl) ?_
  obtain ⟨r1, hr1, hf⟩ := ob_ hf
  refine r_getr (i := 1) S hI fcM (Nat.le_of_ble_eq_true rfl) kw_502 dM_listed_1 hr1 ?_
  refine lv_iload_n hx hb dM_listed_4 rfl (lv_at hl 1 rfl) ?_
  refine lv_bipush hx hb dM_listed_5 kB_64 ?_
  refine lv_iload_n hx hb dM_listed_7 rfl (lv_at hl 2 rfl) ?_
  refine lv_bipush hx hb dM_listed_8 kB_8 ?_
  refine lv_idiv hx hb dM_listed_10 (by decide +kernel) ?_
  refine lv_iadd hx hb dM_listed_11 ?_
  obtain ⟨q2, hq2, hf⟩ := ob_ hf
  refine r_ci (r_S (rest := [.ref (ad r1)]) (As := [.int x1, .int (64 + (x2 / 8))]) S hl hI (kM_place l G kA kL Λ ad w x1 (64 + (x2 / 8)) q2.1 q2.2 hq2) pkM_place kw_492 kw_491 ⟨rfl, rfl⟩ ⟨Nat.le_of_ble_eq_true rfl, Nat.le_of_ble_eq_true rfl⟩ rfl rfl (Nat.le_of_ble_eq_true rfl) ⟨Nat.zero_le _, Nat.zero_le _⟩ dM_listed_12) hI (fun H locs hI => ?_)
  refine lv_iload_n hx hb dM_listed_15 rfl (lv_at hl 2 rfl) ?_
  refine lv_bipush hx hb dM_listed_16 kB_8 ?_
  refine lv_irem hx hb dM_listed_18 (by decide +kernel) ?_
  refine lv_iadd hx hb dM_listed_19 ?_
  obtain ⟨v3, hv3, hf⟩ := ob_ hf
  refine r_ald S hI dM_listed_20 hv3 ?_
  exact hret _ _ _ _ _ _ hI hf dM_listed_21
/-- GuardVolumeModel.expectedOf(II)I -/
abbrev rmM_expectedOf : Room := { frames := 4, cells := 0, slots := 0, locals := 90 }
theorem pkM_expectedOf : Pk yM_expectedOf cM_expectedOf 4 (some .int) 2 := ⟨kw_596, kw_7, by decide +kernel, by decide +kernel, by decide +kernel⟩
def fM_expectedOf (Λ : La) (w : Wo) (c0 : Nat) (x1 : Int32) (x2 : Int32) : Option (Wo × Int32) := gd (isC Λ c0 5) ((fM_isRightPage Λ w c0 (1 - x1) (x2 / 8)).bind fun q1 => if q1.2 = 0 then ((fM_isRightPage Λ q1.1 c0 x1 (x2 / 8)).bind fun q3 => if q3.2 = 0 then (some (q3.1, (-1))) else ((fM_listed Λ q3.1 c0 x1 x2).bind fun q5 => some (q5.1, q5.2))) else ((fM_listed Λ q1.1 c0 (1 - x1) x2).bind fun q6 => some (q6.1, q6.2)))
set_option maxHeartbeats 4000000 in
set_option maxRecDepth 100000 in
theorem kM_expectedOf (l : Launch) (G : va_G) (kA kL : ClassId) (Λ : La) (ad : Nat → Nat) (w : Wo) (c0 : Nat) (x1 : Int32) (x2 : Int32) (w1 : Wo) (r : Int32) (hf : fM_expectedOf Λ w c0 x1 x2 = some (w1, r)) : Mi l yM_expectedOf cM_expectedOf 4 (some .int) rmM_expectedOf G kA kL Λ ad [.ref (ad c0), .int x1, .int x2] w w1 r := by
  refine Mi.of (by decide +kernel) (Nat.le_of_ble_eq_true rfl) ?_
  intro p e s m args below meth c Q ls S hret hl hI
  have S : CallFix p m c cM_expectedOf 4 s args (.code yM_expectedOf cM_expectedOf 4 (some .int) :: gW) "GuardVolumeModel" := S
  have hl : lv_has ls 4 [(0, .ref (ad c0)), (1, .int x1), (2, .int x2)] := hl
  have hx := S.1
  have hb := S.2.1
  unfold fM_expectedOf at hf
  have hf := (gd_some hf).2
  refine lv_iload_n hx hb dM_expectedOf_0 rfl (lv_at hl 2 rfl) ?_
  refine lv_bipush hx hb dM_expectedOf_1 kB_8 ?_
  refine lv_idiv hx hb dM_expectedOf_3 (by decide +kernel) ?_
  refine lv_istore_n hx hb (lv' := [(3, .int (x2 / 8)), (0, .ref (ad c0)), (1, .int x1), (2, .int x2)]) dM_expectedOf_4 rfl hl (Nat.le_of_ble_eq_true rfl) rfl (fun ls hl => ?_)
  refine lv_aload_n hx hb dM_expectedOf_5 rfl (lv_at hl 1 rfl) ?_
  refine lv_iconst hx hb dM_expectedOf_6 kI_1 ?_
  refine lv_iload_n hx hb dM_expectedOf_7 rfl (lv_at hl 2 rfl) ?_
  refine lv_isub hx hb dM_expectedOf_8 ?_
  refine W.eq (g2 := F0 m 9 ls _) rfl ?_
  refine lv_iload_n hx hb dM_expectedOf_9 rfl (lv_at hl 0 rfl) ?_
  obtain ⟨q1, hq1, hf⟩ := ob_ hf
  refine r_ci (r_V (rest := []) (As := [.int (1 - x1), .int (x2 / 8)]) S hl hI (kM_isRightPage l G kA kL Λ ad w c0 (1 - x1) (x2 / 8) q1.1 q1.2 hq1) pkM_isRightPage kw_591 ks_M_isRightPage (fcM).1 (gd_some hq1).1 kw_589 ⟨rfl, rfl⟩ ⟨Nat.le_of_ble_eq_true rfl, Nat.le_of_ble_eq_true rfl⟩ rfl rfl (Nat.le_of_ble_eq_true rfl) ⟨Nat.zero_le _, Nat.zero_le _⟩ dM_expectedOf_10) hI (fun H locs hI => ?_)
  refine lv_if_eq (tgt := 27) hx hb dM_expectedOf_13 rfl (fun h2 => ?_) (fun h2 => ?_)
  · have hf := ip_ hf h2
    refine lv_aload_n hx hb dM_expectedOf_27 rfl (lv_at hl 1 rfl) ?_
    refine lv_iload_n hx hb dM_expectedOf_28 rfl (lv_at hl 2 rfl) ?_
    refine lv_iload_n hx hb dM_expectedOf_29 rfl (lv_at hl 0 rfl) ?_
    obtain ⟨q3, hq3, hf⟩ := ob_ hf
    refine r_ci (r_V (rest := []) (As := [.int x1, .int (x2 / 8)]) S hl hI (kM_isRightPage l G kA kL Λ ad q1.1 c0 x1 (x2 / 8) q3.1 q3.2 hq3) pkM_isRightPage kw_591 ks_M_isRightPage (fcM).1 (gd_some hq3).1 kw_589 ⟨rfl, rfl⟩ ⟨Nat.le_of_ble_eq_true rfl, Nat.le_of_ble_eq_true rfl⟩ rfl rfl (Nat.le_of_ble_eq_true rfl) ⟨Nat.zero_le _, Nat.zero_le _⟩ dM_expectedOf_30) hI (fun H locs hI => ?_)
    refine lv_if_eq (tgt := 45) hx hb dM_expectedOf_33 rfl (fun h4 => ?_) (fun h4 => ?_)
    · have hf := ip_ hf h4
      refine lv_iconst hx hb dM_expectedOf_45 kI_m1 ?_
      exact hret _ _ _ _ _ _ hI hf dM_expectedOf_46
    · have hf := in_ hf h4
      refine lv_aload_n hx hb dM_expectedOf_36 rfl (lv_at hl 1 rfl) ?_
      refine lv_iload_n hx hb dM_expectedOf_37 rfl (lv_at hl 2 rfl) ?_
      refine lv_iload_n hx hb dM_expectedOf_38 rfl (lv_at hl 3 rfl) ?_
      obtain ⟨q5, hq5, hf⟩ := ob_ hf
      refine r_ci (r_V (rest := []) (As := [.int x1, .int x2]) S hl hI (kM_listed l G kA kL Λ ad q3.1 c0 x1 x2 q5.1 q5.2 hq5) pkM_listed kw_599 ks_M_listed (fcM).1 (gd_some hq5).1 kw_597 ⟨rfl, rfl⟩ ⟨Nat.le_of_ble_eq_true rfl, Nat.le_of_ble_eq_true rfl⟩ rfl rfl (Nat.le_of_ble_eq_true rfl) ⟨Nat.zero_le _, Nat.zero_le _⟩ dM_expectedOf_39) hI (fun H locs hI => ?_)
      refine lv_goto (tgt := 46) hx hb dM_expectedOf_42 rfl ?_
      exact hret _ _ _ _ _ _ hI hf dM_expectedOf_46
  · have hf := in_ hf h2
    refine lv_aload_n hx hb dM_expectedOf_16 rfl (lv_at hl 1 rfl) ?_
    refine lv_iconst hx hb dM_expectedOf_17 kI_1 ?_
    refine lv_iload_n hx hb dM_expectedOf_18 rfl (lv_at hl 2 rfl) ?_
    refine lv_isub hx hb dM_expectedOf_19 ?_
    refine lv_iload_n hx hb dM_expectedOf_20 rfl (lv_at hl 3 rfl) ?_
    obtain ⟨q6, hq6, hf⟩ := ob_ hf
    refine r_ci (r_V (rest := []) (As := [.int (1 - x1), .int x2]) S hl hI (kM_listed l G kA kL Λ ad q1.1 c0 (1 - x1) x2 q6.1 q6.2 hq6) pkM_listed kw_599 ks_M_listed (fcM).1 (gd_some hq6).1 kw_597 ⟨rfl, rfl⟩ ⟨Nat.le_of_ble_eq_true rfl, Nat.le_of_ble_eq_true rfl⟩ rfl rfl (Nat.le_of_ble_eq_true rfl) ⟨Nat.zero_le _, Nat.zero_le _⟩ dM_expectedOf_21) hI (fun H locs hI => ?_)
    refine lv_goto (tgt := 46) hx hb dM_expectedOf_24 rfl ?_
    exact hret _ _ _ _ _ _ hI hf dM_expectedOf_46
/-- GuardVolumeModel.verdictOf(II)I -/
abbrev rmM_verdictOf : Room := { frames := 5, cells := 0, slots := 0, locals := 113 }
theorem pkM_verdictOf : Pk yM_verdictOf cM_verdictOf 5 (some .int) 2 := ⟨kw_580, kw_7, by decide +kernel, by decide +kernel, by decide +kernel⟩
def fM_verdictOf (Λ : La) (w : Wo) (c0 : Nat) (x1 : Int32) (x2 : Int32) : Option (Wo × Int32) := gd (isC Λ c0 5) ((fM_place Λ w x1 x2).bind fun q1 => (fM_isWhole Λ q1.1 c0 x1 x2).bind fun q2 => if q2.2 = 0 then (some (q2.1, 1)) else ((gr Λ c0 5 1).bind fun r4 => (ld Λ q2.1 r4 (q1.2 + 9)).bind fun v5 => if v5 = x2 then ((fM_isUnknown Λ q2.1 c0 x1 x2).bind fun q7 => if q7.2 = 0 then ((fM_expectedOf Λ q7.1 c0 x1 x2).bind fun q9 => (gr Λ c0 5 1).bind fun r10 => (ld Λ q9.1 r10 (q1.2 + 10)).bind fun v11 => if q9.2 ≤ v11 then ((gr Λ c0 5 1).bind fun r13 => (ld Λ q9.1 r13 (q1.2 + 10)).bind fun v14 => if v14 ≤ q9.2 then (some (q9.1, 0)) else (some (q9.1, 5))) else (some (q9.1, 4))) else (some (q7.1, 3))) else (some (q2.1, 2))))
set_option maxHeartbeats 4000000 in
set_option maxRecDepth 100000 in
theorem kM_verdictOf (l : Launch) (G : va_G) (kA kL : ClassId) (Λ : La) (ad : Nat → Nat) (w : Wo) (c0 : Nat) (x1 : Int32) (x2 : Int32) (w1 : Wo) (r : Int32) (hf : fM_verdictOf Λ w c0 x1 x2 = some (w1, r)) : Mi l yM_verdictOf cM_verdictOf 5 (some .int) rmM_verdictOf G kA kL Λ ad [.ref (ad c0), .int x1, .int x2] w w1 r := by
  refine Mi.of (by decide +kernel) (Nat.le_of_ble_eq_true rfl) ?_
  intro p e s m args below meth c Q ls S hret hl hI
  have S : CallFix p m c cM_verdictOf 5 s args (.code yM_verdictOf cM_verdictOf 5 (some .int) :: gW) "GuardVolumeModel" := S
  have hl : lv_has ls 5 [(0, .ref (ad c0)), (1, .int x1), (2, .int x2)] := hl
  have hx := S.1
  have hb := S.2.1
  unfold fM_verdictOf at hf
  have hf := (gd_some hf).2
  refine lv_iload_n hx hb dM_verdictOf_0 rfl (lv_at hl 1 rfl) ?_
  refine lv_iload_n hx hb dM_verdictOf_1 rfl (lv_at hl 2 rfl) ?_
  obtain ⟨q1, hq1, hf⟩ := ob_ hf
  refine r_ci (r_S (rest := []) (As := [.int x1, .int x2]) S hl hI (kM_place l G kA kL Λ ad w x1 x2 q1.1 q1.2 hq1) pkM_place kw_492 kw_491 ⟨rfl, rfl⟩ ⟨Nat.le_of_ble_eq_true rfl, Nat.le_of_ble_eq_true rfl⟩ rfl rfl (Nat.le_of_ble_eq_true rfl) ⟨Nat.zero_le _, Nat.zero_le _⟩ dM_verdictOf_2) hI (fun H locs hI => ?_)
  refine lv_istore_n hx hb (lv' := [(3, .int q1.2), (0, .ref (ad c0)), (1, .int x1), (2, .int x2)]) dM_verdictOf_5 rfl hl (Nat.le_of_ble_eq_true rfl) rfl (fun ls hl => ?_)
  refine lv_aload_n hx hb dM_verdictOf_6 rfl (lv_at hl 1 rfl) ?_
  refine lv_iload_n hx hb dM_verdictOf_7 rfl (lv_at hl 2 rfl) ?_
  refine lv_iload_n hx hb dM_verdictOf_8 rfl (lv_at hl 3 rfl) ?_
  obtain ⟨q2, hq2, hf⟩ := ob_ hf
  refine r_ci (r_V (rest := []) (As := [.int x1, .int x2]) S hl hI (kM_isWhole l G kA kL Λ ad q1.1 c0 x1 x2 q2.1 q2.2 hq2) pkM_isWhole kw_583 ks_M_isWhole (fcM).1 (gd_some hq2).1 kw_581 ⟨rfl, rfl⟩ ⟨Nat.le_of_ble_eq_true rfl, Nat.le_of_ble_eq_true rfl⟩ rfl rfl (Nat.le_of_ble_eq_true rfl) ⟨Nat.zero_le _, Nat.zero_le _⟩ dM_verdictOf_9) hI (fun H locs hI => ?_)
  refine lv_if_ne (tgt := 17) hx hb dM_verdictOf_12 rfl (fun h3 => ?_) (fun h3 => ?_)
  · have hf := in_ hf h3
    refine lv_aload_n hx hb dM_verdictOf_17 rfl (lv_at hl 1 rfl) ?_
    obtain ⟨r4, hr4, hf⟩ := ob_ hf
    refine r_getr (i := 1) S hI fcM (Nat.le_of_ble_eq_true rfl) kw_502 dM_verdictOf_18 hr4 ?_
    refine lv_iload_n hx hb dM_verdictOf_21 rfl (lv_at hl 0 rfl) ?_
    refine lv_bipush hx hb dM_verdictOf_22 kB_9 ?_
    refine lv_iadd hx hb dM_verdictOf_24 ?_
    obtain ⟨v5, hv5, hf⟩ := ob_ hf
    refine r_ald S hI dM_verdictOf_25 hv5 ?_
    refine lv_iload_n hx hb dM_verdictOf_26 rfl (lv_at hl 3 rfl) ?_
    refine lv_icmp_eq (tgt := 32) hx hb dM_verdictOf_27 rfl (fun h6 => ?_) (fun h6 => ?_)
    · have hf := ip_ hf h6
      refine lv_aload_n hx hb dM_verdictOf_32 rfl (lv_at hl 1 rfl) ?_
      refine lv_iload_n hx hb dM_verdictOf_33 rfl (lv_at hl 2 rfl) ?_
      refine lv_iload_n hx hb dM_verdictOf_34 rfl (lv_at hl 3 rfl) ?_
      obtain ⟨q7, hq7, hf⟩ := ob_ hf
      refine r_ci (r_V (rest := []) (As := [.int x1, .int x2]) S hl hI (kM_isUnknown l G kA kL Λ ad q2.1 c0 x1 x2 q7.1 q7.2 hq7) pkM_isUnknown kw_587 ks_M_isUnknown (fcM).1 (gd_some hq7).1 kw_585 ⟨rfl, rfl⟩ ⟨Nat.le_of_ble_eq_true rfl, Nat.le_of_ble_eq_true rfl⟩ rfl rfl (Nat.le_of_ble_eq_true rfl) ⟨Nat.zero_le _, Nat.zero_le _⟩ dM_verdictOf_35) hI (fun H locs hI => ?_)
      refine lv_if_eq (tgt := 43) hx hb dM_verdictOf_38 rfl (fun h8 => ?_) (fun h8 => ?_)
      · have hf := ip_ hf h8
        refine lv_aload_n hx hb dM_verdictOf_43 rfl (lv_at hl 1 rfl) ?_
        refine lv_iload_n hx hb dM_verdictOf_44 rfl (lv_at hl 2 rfl) ?_
        refine lv_iload_n hx hb dM_verdictOf_45 rfl (lv_at hl 3 rfl) ?_
        obtain ⟨q9, hq9, hf⟩ := ob_ hf
        refine r_ci (r_V (rest := []) (As := [.int x1, .int x2]) S hl hI (kM_expectedOf l G kA kL Λ ad q7.1 c0 x1 x2 q9.1 q9.2 hq9) pkM_expectedOf kw_595 ks_M_expectedOf (fcM).1 (gd_some hq9).1 kw_593 ⟨rfl, rfl⟩ ⟨Nat.le_of_ble_eq_true rfl, Nat.le_of_ble_eq_true rfl⟩ rfl rfl (Nat.le_of_ble_eq_true rfl) ⟨Nat.zero_le _, Nat.zero_le _⟩ dM_verdictOf_46) hI (fun H locs hI => ?_)
        refine lv_istore hx hb (lv' := [(4, .int q9.2), (3, .int q1.2), (0, .ref (ad c0)), (1, .int x1), (2, .int x2)]) dM_verdictOf_49 hl (Nat.le_of_ble_eq_true rfl) rfl (fun ls hl => ?_)
        refine lv_aload_n hx hb dM_verdictOf_51 rfl (lv_at hl 2 rfl) ?_
        obtain ⟨r10, hr10, hf⟩ := ob_ hf
        refine r_getr (i := 1) S hI fcM (Nat.le_of_ble_eq_true rfl) kw_502 dM_verdictOf_52 hr10 ?_
        refine lv_iload_n hx hb dM_verdictOf_55 rfl (lv_at hl 1 rfl) ?_
        refine lv_bipush hx hb dM_verdictOf_56 kB_10 ?_
        refine lv_iadd hx hb dM_verdictOf_58 ?_
        obtain ⟨v11, hv11, hf⟩ := ob_ hf
        refine r_ald S hI dM_verdictOf_59 hv11 ?_
        refine lv_iload hx hb dM_verdictOf_60 (lv_at hl 0 rfl) ?_
        refine lv_icmp_ge (tgt := 69) hx hb dM_verdictOf_62 rfl (fun h12 => ?_) (fun h12 => ?_)
        · have hf := ip_ hf h12
          refine lv_aload_n hx hb dM_verdictOf_69 rfl (lv_at hl 2 rfl) ?_
          obtain ⟨r13, hr13, hf⟩ := ob_ hf
          refine r_getr (i := 1) S hI fcM (Nat.le_of_ble_eq_true rfl) kw_502 dM_verdictOf_70 hr13 ?_
          refine lv_iload_n hx hb dM_verdictOf_73 rfl (lv_at hl 1 rfl) ?_
          refine lv_bipush hx hb dM_verdictOf_74 kB_10 ?_
          refine lv_iadd hx hb dM_verdictOf_76 ?_
          obtain ⟨v14, hv14, hf⟩ := ob_ hf
          refine r_ald S hI dM_verdictOf_77 hv14 ?_
          refine lv_iload hx hb dM_verdictOf_78 (lv_at hl 0 rfl) ?_
          refine lv_icmp_le (tgt := 87) hx hb dM_verdictOf_80 rfl (fun h15 => ?_) (fun h15 => ?_)
          · have hf := ip_ hf h15
            refine lv_iconst hx hb dM_verdictOf_87 kI_0 ?_
            exact hret _ _ _ _ _ _ hI hf dM_verdictOf_88
          · have hf := in_ hf h15
            refine lv_iconst hx hb dM_verdictOf_83 kI_5 ?_
            refine lv_goto (tgt := 88) hx hb dM_verdictOf_84 rfl ?_
            exact hret _ _ _ _ _ _ hI hf dM_verdictOf_88
        · have hf := in_ hf h12
          refine lv_iconst hx hb dM_verdictOf_65 kI_4 ?_
          refine lv_goto (tgt := 88) hx hb dM_verdictOf_66 rfl ?_
          exact hret _ _ _ _ _ _ hI hf dM_verdictOf_88
      · have hf := in_ hf h8
        refine lv_iconst hx hb dM_verdictOf_41 kI_3 ?_
        exact hret _ _ _ _ _ _ hI hf dM_verdictOf_42
    · have hf := in_ hf h6
      refine lv_iconst hx hb dM_verdictOf_30 kI_2 ?_
      exact hret _ _ _ _ _ _ hI hf dM_verdictOf_31
  · have hf := ip_ hf h3
    refine lv_iconst hx hb dM_verdictOf_15 kI_1 ?_
    exact hret _ _ _ _ _ _ hI hf dM_verdictOf_16
/-- GuardVolumeModel.codeOf(I)I -/
abbrev rmM_codeOf : Room := { frames := 6, cells := 0, slots := 0, locals := 137 }
theorem pkM_codeOf : Pk yM_codeOf cM_codeOf 2 (some .int) 1 := ⟨kw_576, kw_7, by decide +kernel, by decide +kernel, by decide +kernel⟩
def fM_codeOf (Λ : La) (w : Wo) (c0 : Nat) (x1 : Int32) : Option (Wo × Int32) := gd (isC Λ c0 5) ((fM_verdictOf Λ w c0 0 x1).bind fun q1 => if q1.2 = 0 then (some (q1.1, 0)) else ((fM_verdictOf Λ q1.1 c0 1 x1).bind fun q3 => if q3.2 = 0 then (some (q3.1, 1)) else (some (q3.1, 2))))
set_option maxHeartbeats 4000000 in
set_option maxRecDepth 100000 in
theorem kM_codeOf (l : Launch) (G : va_G) (kA kL : ClassId) (Λ : La) (ad : Nat → Nat) (w : Wo) (c0 : Nat) (x1 : Int32) (w1 : Wo) (r : Int32) (hf : fM_codeOf Λ w c0 x1 = some (w1, r)) : Mi l yM_codeOf cM_codeOf 2 (some .int) rmM_codeOf G kA kL Λ ad [.ref (ad c0), .int x1] w w1 r := by
  refine Mi.of (by decide +kernel) (Nat.le_of_ble_eq_true rfl) ?_
  intro p e s m args below meth c Q ls S hret hl hI
  have S : CallFix p m c cM_codeOf 2 s args (.code yM_codeOf cM_codeOf 2 (some .int) :: gW) "GuardVolumeModel" := S
  have hl : lv_has ls 2 [(0, .ref (ad c0)), (1, .int x1)] := hl
  have hx := S.1
  have hb := S.2.1
  unfold fM_codeOf at hf
  have hf := (gd_some hf).2
  refine lv_aload_n hx hb dM_codeOf_0 rfl (lv_at hl 0 rfl) ?_
  refine lv_iconst hx hb dM_codeOf_1 kI_0 ?_
  refine lv_iload_n hx hb dM_codeOf_2 rfl (lv_at hl 1 rfl) ?_
  obtain ⟨q1, hq1, hf⟩ := ob_ hf
  refine r_ci (r_V (rest := []) (As := [.int 0, .int x1]) S hl hI (kM_verdictOf l G kA kL Λ ad w c0 0 x1 q1.1 q1.2 hq1) pkM_verdictOf kw_579 ks_M_verdictOf (fcM).1 (gd_some hq1).1 kw_577 ⟨rfl, rfl⟩ ⟨Nat.le_of_ble_eq_true rfl, Nat.le_of_ble_eq_true rfl⟩ rfl rfl (Nat.le_of_ble_eq_true rfl) ⟨Nat.zero_le _, Nat.zero_le _⟩ dM_codeOf_3) hI (fun H locs hI => ?_)
  refine lv_if_ne (tgt := 13) hx hb dM_codeOf_6 rfl (fun h2 => ?_) (fun h2 => ?_)
  · have hf := in_ hf h2
    refine lv_aload_n hx hb dM_codeOf_13 rfl (lv_at hl 0 rfl) ?_
    refine lv_iconst hx hb dM_codeOf_14 kI_1 ?_
    refine lv_iload_n hx hb dM_codeOf_15 rfl (lv_at hl 1 rfl) ?_
    obtain ⟨q3, hq3, hf⟩ := ob_ hf
    refine r_ci (r_V (rest := []) (As := [.int 1, .int x1]) S hl hI (kM_verdictOf l G kA kL Λ ad q1.1 c0 1 x1 q3.1 q3.2 hq3) pkM_verdictOf kw_579 ks_M_verdictOf (fcM).1 (gd_some hq3).1 kw_577 ⟨rfl, rfl⟩ ⟨Nat.le_of_ble_eq_true rfl, Nat.le_of_ble_eq_true rfl⟩ rfl rfl (Nat.le_of_ble_eq_true rfl) ⟨Nat.zero_le _, Nat.zero_le _⟩ dM_codeOf_16) hI (fun H locs hI => ?_)
    refine lv_if_ne (tgt := 26) hx hb dM_codeOf_19 rfl (fun h4 => ?_) (fun h4 => ?_)
    · have hf := in_ hf h4
      refine lv_iconst hx hb dM_codeOf_26 kI_2 ?_
      exact hret _ _ _ _ _ _ hI hf dM_codeOf_27
    · have hf := ip_ hf h4
      refine lv_iconst hx hb dM_codeOf_22 kI_1 ?_
      refine lv_goto (tgt := 27) hx hb dM_codeOf_23 rfl ?_
      exact hret _ _ _ _ _ _ hI hf dM_codeOf_27
  · have hf := ip_ hf h2
    refine lv_iconst hx hb dM_codeOf_9 kI_0 ?_
    refine lv_goto (tgt := 27) hx hb dM_codeOf_10 rfl ?_
    exact hret _ _ _ _ _ _ hI hf dM_codeOf_27
/-- GuardVolumeModel.takeWords(II)V -/
abbrev rmM_takeWords : Room := { frames := 1, cells := 0, slots := 0, locals := 21 }
theorem pkM_takeWords : Pk yM_takeWords cM_takeWords 4 none 2 := ⟨kw_604, kw_7, by decide +kernel, by decide +kernel, by decide +kernel⟩
def bM_takeWords_2s (Λ : La) (K2 : Wo → Nat → Int32 → Int32 → Int32 → Option Wo) (w : Wo) (c0 : Nat) (x1 : Int32) (x2 : Int32) (x3 : Int32) : Option Wo := if 8 ≤ x3 then (some w) else ((gr Λ c0 5 19).bind fun r2 => (gr Λ c0 5 1).bind fun r3 => (fM_place Λ w x1 x2).bind fun q4 => (ld Λ q4.1 r3 (q4.2 + x3)).bind fun v5 => (st Λ q4.1 r2 x3 v5).bind fun w6 => K2 w6 c0 x1 x2 (x3 + 1))
def bM_takeWords_2 (Λ : La) : Nat → Wo → Nat → Int32 → Int32 → Int32 → Option Wo
  | 0 => fun _ _ _ _ _ => none
  | n + 1 => bM_takeWords_2s Λ (bM_takeWords_2 Λ n)
def fM_takeWords (Λ : La) (w : Wo) (c0 : Nat) (x1 : Int32) (x2 : Int32) : Option Wo := gd (isC Λ c0 5) (bM_takeWords_2 Λ 1000 w c0 x1 x2 0)
set_option maxHeartbeats 4000000 in
set_option maxRecDepth 100000 in
theorem kM_takeWords (l : Launch) (G : va_G) (kA kL : ClassId) (Λ : La) (ad : Nat → Nat) (w : Wo) (c0 : Nat) (x1 : Int32) (x2 : Int32) (w1 : Wo) (hf : fM_takeWords Λ w c0 x1 x2 = some w1) : Mv l yM_takeWords cM_takeWords 4 rmM_takeWords G kA kL Λ ad [.ref (ad c0), .int x1, .int x2] w w1 := by
  refine Mv.of (by decide +kernel) (Nat.le_of_ble_eq_true rfl) ?_
  intro p e s m args below meth c Q ls S hret hl hI
  have S : CallFix p m c cM_takeWords 4 s args (.code yM_takeWords cM_takeWords 4 none :: gW) "GuardVolumeModel" := S
  have hl : lv_has ls 4 [(0, .ref (ad c0)), (1, .int x1), (2, .int x2)] := hl
  have hx := S.1
  have hb := S.2.1
  have bk2 : ∀ (K2 : Wo → Nat → Int32 → Int32 → Int32 → Option Wo), (∀ (w : Wo) (c0 : Nat) (x1 : Int32) (x2 : Int32) (x3 : Int32) (H : Heap) (locs : List Loc) (ls : Array Slot), lv_has ls 4 [(0, .ref (ad c0)), (1, .int x1), (2, .int x2), (3, .int x3)] → Iv (Aa Λ ad) G kA kL Λ ad w s H locs → K2 w c0 x1 x2 x3 = some w1 → W p l e rmM_takeWords s m args below meth c H locs 0 0 Q (F0 m 2 ls [])) → ∀ (w : Wo) (c0 : Nat) (x1 : Int32) (x2 : Int32) (x3 : Int32) (H : Heap) (locs : List Loc) (ls : Array Slot), lv_has ls 4 [(0, .ref (ad c0)), (1, .int x1), (2, .int x2), (3, .int x3)] → Iv (Aa Λ ad) G kA kL Λ ad w s H locs → bM_takeWords_2s Λ K2 w c0 x1 x2 x3 = some w1 → W p l e rmM_takeWords s m args below meth c H locs 0 0 Q (F0 m 2 ls []) := by
    intro K2 hK2 w c0 x1 x2 x3 H locs ls hl hI hf
    unfold bM_takeWords_2s at hf
    refine lv_iload_n hx hb dM_takeWords_2 rfl (lv_at hl 3 rfl) ?_
    refine lv_bipush hx hb dM_takeWords_3 kB_8 ?_
    refine lv_icmp_ge (tgt := 32) hx hb dM_takeWords_5 rfl (fun h1 => ?_) (fun h1 => ?_)
    · have hf := ip_ hf h1
      exact hret _ _ _ _ _ hI hf dM_takeWords_32
    · have hf := in_ hf h1
      refine lv_aload_n hx hb dM_takeWords_8 rfl (lv_at hl 0 rfl) ?_
      obtain ⟨r2, hr2, hf⟩ := ob_ hf
      refine r_getr (i := 19) S hI fcM (Nat.le_of_ble_eq_true rfl) kw_520 dM_takeWords_9 hr2 ?_
      refine lv_iload_n hx hb dM_takeWords_12 rfl (lv_at hl 3 rfl) ?_
      refine lv_aload_n hx hb dM_takeWords_13 rfl (lv_at hl 0 rfl) ?_
      obtain ⟨r3, hr3, hf⟩ := ob_ hf
      refine r_getr (i := 1) S hI fcM (Nat.le_of_ble_eq_true rfl) kw_502 dM_takeWords_14 hr3 ?_
      refine lv_iload_n hx hb dM_takeWords_17 rfl (lv_at hl 1 rfl) ?_
      refine lv_iload_n hx hb dM_takeWords_18 rfl (lv_at hl 2 rfl) ?_
      obtain ⟨q4, hq4, hf⟩ := ob_ hf
      refine r_ci (r_S (rest := [.ref (ad r3), .int x3, .ref (ad r2)]) (As := [.int x1, .int x2]) S hl hI (kM_place l G kA kL Λ ad w x1 x2 q4.1 q4.2 hq4) pkM_place kw_492 kw_491 ⟨rfl, rfl⟩ ⟨Nat.le_of_ble_eq_true rfl, Nat.le_of_ble_eq_true rfl⟩ rfl rfl (Nat.le_of_ble_eq_true rfl) ⟨Nat.zero_le _, Nat.zero_le _⟩ dM_takeWords_19) hI (fun H locs hI => ?_)
      refine lv_iload_n hx hb dM_takeWords_22 rfl (lv_at hl 3 rfl) ?_
      refine lv_iadd hx hb dM_takeWords_23 ?_
      obtain ⟨v5, hv5, hf⟩ := ob_ hf
      refine r_ald S hI dM_takeWords_24 hv5 ?_
      obtain ⟨w6, hw6, hf⟩ := ob_ hf
      refine r_ast S hI dM_takeWords_25 hw6 (fun H locs hI => ?_)
      refine lv_iinc hx hb (lv' := [(3, .int (x3 + 1)), (0, .ref (ad c0)), (1, .int x1), (2, .int x2)]) (k := 3) dM_takeWords_26 hl rfl (kN_1 _) (Nat.le_of_ble_eq_true rfl) rfl (fun ls hl => ?_)
      refine lv_goto (tgt := 2) hx hb dM_takeWords_29 rfl ?_
      exact hK2 w6 c0 x1 x2 (x3 + 1) _ _ _ (lv_sub hl [1, 2, 3, 0] rfl) hI hf
  have lp2 : ∀ (n : Nat), ∀ (w : Wo) (c0 : Nat) (x1 : Int32) (x2 : Int32) (x3 : Int32) (H : Heap) (locs : List Loc) (ls : Array Slot), lv_has ls 4 [(0, .ref (ad c0)), (1, .int x1), (2, .int x2), (3, .int x3)] → Iv (Aa Λ ad) G kA kL Λ ad w s H locs → bM_takeWords_2 Λ n w c0 x1 x2 x3 = some w1 → W p l e rmM_takeWords s m args below meth c H locs 0 0 Q (F0 m 2 ls []) := by
    intro n
    induction n with
    | zero =>
      intro w c0 x1 x2 x3 H locs ls hl hI hf
      have hf : (none : Option Wo) = some w1 := hf
      cases hf
    | succ n ih =>
      intro w c0 x1 x2 x3 H locs ls hl hI hf
      exact bk2 (bM_takeWords_2 Λ n) ih w c0 x1 x2 x3 H locs ls hl hI hf
  unfold fM_takeWords at hf
  have hf := (gd_some hf).2
  refine lv_iconst hx hb dM_takeWords_0 kI_0 ?_
  refine lv_istore_n hx hb (lv' := [(3, .int 0), (0, .ref (ad c0)), (1, .int x1), (2, .int x2)]) dM_takeWords_1 rfl hl (Nat.le_of_ble_eq_true rfl) rfl (fun ls hl => ?_)
  exact lp2 1000 w c0 x1 x2 0 _ _ _ (lv_sub hl [1, 2, 3, 0] rfl) hI hf
/-- GuardVolumeModel.planOf(I)I -/
abbrev rmM_planOf : Room := { frames := 0, cells := 0, slots := 0, locals := 0 }
theorem pkM_planOf : Pk yM_planOf cM_planOf 4 (some .int) 1 := ⟨kw_624, kw_7, by decide +kernel, by decide +kernel, by decide +kernel⟩
def bM_planOf_39 (Λ : La) (K4 : Wo → Nat → Int32 → Int32 → Int32 → Option (Wo × Int32)) (w : Wo) (c0 : Nat) (x1 : Int32) (x3 : Int32) (s0 : Int32) : Option (Wo × Int32) := K4 w c0 x1 s0 (x3 + 1)
def bM_planOf_4s (Λ : La) (K4 : Wo → Nat → Int32 → Int32 → Int32 → Option (Wo × Int32)) (w : Wo) (c0 : Nat) (x1 : Int32) (x2 : Int32) (x3 : Int32) : Option (Wo × Int32) := (gr Λ c0 5 9).bind fun r1 => (ld Λ w r1 x1).bind fun v2 => if v2 ≤ x3 then (some (w, x2)) else ((gr Λ c0 5 10).bind fun r4 => (ld Λ w r4 ((8 * x1) + x3)).bind fun v5 => (gr Λ c0 5 8).bind fun r6 => (ld Λ w r6 x1).bind fun v7 => if v5 = v7 then (bM_planOf_39 Λ K4 w c0 x1 x3 x3) else (bM_planOf_39 Λ K4 w c0 x1 x3 x2))
def bM_planOf_4 (Λ : La) : Nat → Wo → Nat → Int32 → Int32 → Int32 → Option (Wo × Int32)
  | 0 => fun _ _ _ _ _ => none
  | n + 1 => bM_planOf_4s Λ (bM_planOf_4 Λ n)
def fM_planOf (Λ : La) (w : Wo) (c0 : Nat) (x1 : Int32) : Option (Wo × Int32) := gd (isC Λ c0 5) (bM_planOf_4 Λ 1000 w c0 x1 (-1) 0)
set_option maxHeartbeats 4000000 in
set_option maxRecDepth 100000 in
theorem kM_planOf (l : Launch) (G : va_G) (kA kL : ClassId) (Λ : La) (ad : Nat → Nat) (w : Wo) (c0 : Nat) (x1 : Int32) (w1 : Wo) (r : Int32) (hf : fM_planOf Λ w c0 x1 = some (w1, r)) : Mi l yM_planOf cM_planOf 4 (some .int) rmM_planOf G kA kL Λ ad [.ref (ad c0), .int x1] w w1 r := by
  refine Mi.of (by decide +kernel) (Nat.le_of_ble_eq_true rfl) ?_
  intro p e s m args below meth c Q ls S hret hl hI
  have S : CallFix p m c cM_planOf 4 s args (.code yM_planOf cM_planOf 4 (some .int) :: gW) "GuardVolumeModel" := S
  have hl : lv_has ls 4 [(0, .ref (ad c0)), (1, .int x1)] := hl
  have hx := S.1
  have hb := S.2.1
  have bk39 : ∀ (K4 : Wo → Nat → Int32 → Int32 → Int32 → Option (Wo × Int32)), (∀ (w : Wo) (c0 : Nat) (x1 : Int32) (x2 : Int32) (x3 : Int32) (H : Heap) (locs : List Loc) (ls : Array Slot), lv_has ls 4 [(0, .ref (ad c0)), (1, .int x1), (2, .int x2), (3, .int x3)] → Iv (Aa Λ ad) G kA kL Λ ad w s H locs → K4 w c0 x1 x2 x3 = some (w1, r) → W p l e rmM_planOf s m args below meth c H locs 0 0 Q (F0 m 4 ls [])) → ∀ (w : Wo) (c0 : Nat) (x1 : Int32) (x3 : Int32) (s0 : Int32) (H : Heap) (locs : List Loc) (ls : Array Slot), lv_has ls 4 [(0, .ref (ad c0)), (1, .int x1), (3, .int x3)] → Iv (Aa Λ ad) G kA kL Λ ad w s H locs → bM_planOf_39 Λ K4 w c0 x1 x3 s0 = some (w1, r) → W p l e rmM_planOf s m args below meth c H locs 0 0 Q (F0 m 39 ls [.int s0]) := by
    intro K4 hK4 w c0 x1 x3 s0 H locs ls hl hI hf
    unfold bM_planOf_39 at hf
    refine lv_istore_n hx hb (lv' := [(2, .int s0), (0, .ref (ad c0)), (1, .int x1), (3, .int x3)]) dM_planOf_39 rfl hl (Nat.le_of_ble_eq_true rfl) rfl (fun ls hl => ?_)
    refine lv_iinc hx hb (lv' := [(3, .int (x3 + 1)), (2, .int s0), (0, .ref (ad c0)), (1, .int x1)]) (k := 3) dM_planOf_40 hl rfl (kN_1 _) (Nat.le_of_ble_eq_true rfl) rfl (fun ls hl => ?_)
    refine lv_goto (tgt := 4) hx hb dM_planOf_43 rfl ?_
    exact hK4 w c0 x1 s0 (x3 + 1) _ _ _ (lv_sub hl [2, 3, 1, 0] rfl) hI hf
  have bk4 : ∀ (K4 : Wo → Nat → Int32 → Int32 → Int32 → Option (Wo × Int32)), (∀ (w : Wo) (c0 : Nat) (x1 : Int32) (x2 : Int32) (x3 : Int32) (H : Heap) (locs : List Loc) (ls : Array Slot), lv_has ls 4 [(0, .ref (ad c0)), (1, .int x1), (2, .int x2), (3, .int x3)] → Iv (Aa Λ ad) G kA kL Λ ad w s H locs → K4 w c0 x1 x2 x3 = some (w1, r) → W p l e rmM_planOf s m args below meth c H locs 0 0 Q (F0 m 4 ls [])) → ∀ (w : Wo) (c0 : Nat) (x1 : Int32) (x2 : Int32) (x3 : Int32) (H : Heap) (locs : List Loc) (ls : Array Slot), lv_has ls 4 [(0, .ref (ad c0)), (1, .int x1), (2, .int x2), (3, .int x3)] → Iv (Aa Λ ad) G kA kL Λ ad w s H locs → bM_planOf_4s Λ K4 w c0 x1 x2 x3 = some (w1, r) → W p l e rmM_planOf s m args below meth c H locs 0 0 Q (F0 m 4 ls []) := by
    intro K4 hK4 w c0 x1 x2 x3 H locs ls hl hI hf
    unfold bM_planOf_4s at hf
    refine lv_iload_n hx hb dM_planOf_4 rfl (lv_at hl 3 rfl) ?_
    refine lv_aload_n hx hb dM_planOf_5 rfl (lv_at hl 0 rfl) ?_
    obtain ⟨r1, hr1, hf⟩ := ob_ hf
    refine r_getr (i := 9) S hI fcM (Nat.le_of_ble_eq_true rfl) kw_510 dM_planOf_6 hr1 ?_
    refine lv_iload_n hx hb dM_planOf_9 rfl (lv_at hl 1 rfl) ?_
    obtain ⟨v2, hv2, hf⟩ := ob_ hf
    refine r_ald S hI dM_planOf_10 hv2 ?_
    refine lv_icmp_ge (tgt := 46) hx hb dM_planOf_11 rfl (fun h3 => ?_) (fun h3 => ?_)
    · have hf := ip_ hf h3
      refine lv_iload_n hx hb dM_planOf_46 rfl (lv_at hl 2 rfl) ?_
      exact hret _ _ _ _ _ _ hI hf dM_planOf_47
    · have hf := in_ hf h3
      refine lv_aload_n hx hb dM_planOf_14 rfl (lv_at hl 0 rfl) ?_
      obtain ⟨r4, hr4, hf⟩ := ob_ hf
      refine r_getr (i := 10) S hI fcM (Nat.le_of_ble_eq_true rfl) kw_511 dM_planOf_15 hr4 ?_
      refine lv_bipush hx hb dM_planOf_18 kB_8 ?_
      refine lv_iload_n hx hb dM_planOf_20 rfl (lv_at hl 1 rfl) ?_
      refine lv_imul hx hb dM_planOf_21 ?_
      refine lv_iload_n hx hb dM_planOf_22 rfl (lv_at hl 3 rfl) ?_
      refine lv_iadd hx hb dM_planOf_23 ?_
      obtain ⟨v5, hv5, hf⟩ := ob_ hf
      refine r_ald S hI dM_planOf_24 hv5 ?_
      refine lv_aload_n hx hb dM_planOf_25 rfl (lv_at hl 0 rfl) ?_
      obtain ⟨r6, hr6, hf⟩ := ob_ hf
      refine r_getr (i := 8) S hI fcM (Nat.le_of_ble_eq_true rfl) kw_509 dM_planOf_26 hr6 ?_
      refine lv_iload_n hx hb dM_planOf_29 rfl (lv_at hl 1 rfl) ?_
      obtain ⟨v7, hv7, hf⟩ := ob_ hf
      refine r_ald S hI dM_planOf_30 hv7 ?_
      refine lv_icmp_ne (tgt := 38) hx hb dM_planOf_31 rfl (fun h8 => ?_) (fun h8 => ?_)
      · have hf := in_ hf h8
        refine lv_iload_n hx hb dM_planOf_38 rfl (lv_at hl 2 rfl) ?_
        exact bk39 K4 hK4 w c0 x1 x3 x2 _ _ _ (lv_sub hl [0, 1, 3] rfl) hI hf
      · have hf := ip_ hf h8
        refine lv_iload_n hx hb dM_planOf_34 rfl (lv_at hl 3 rfl) ?_
        refine lv_goto (tgt := 39) hx hb dM_planOf_35 rfl ?_
        exact bk39 K4 hK4 w c0 x1 x3 x3 _ _ _ (lv_sub hl [0, 1, 3] rfl) hI hf
  have lp4 : ∀ (n : Nat), ∀ (w : Wo) (c0 : Nat) (x1 : Int32) (x2 : Int32) (x3 : Int32) (H : Heap) (locs : List Loc) (ls : Array Slot), lv_has ls 4 [(0, .ref (ad c0)), (1, .int x1), (2, .int x2), (3, .int x3)] → Iv (Aa Λ ad) G kA kL Λ ad w s H locs → bM_planOf_4 Λ n w c0 x1 x2 x3 = some (w1, r) → W p l e rmM_planOf s m args below meth c H locs 0 0 Q (F0 m 4 ls []) := by
    intro n
    induction n with
    | zero =>
      intro w c0 x1 x2 x3 H locs ls hl hI hf
      have hf : (none : Option (Wo × Int32)) = some (w1, r) := hf
      cases hf
    | succ n ih =>
      intro w c0 x1 x2 x3 H locs ls hl hI hf
      exact bk4 (bM_planOf_4 Λ n) ih w c0 x1 x2 x3 H locs ls hl hI hf
  unfold fM_planOf at hf
  have hf := (gd_some hf).2
  refine lv_iconst hx hb dM_planOf_0 kI_m1 ?_
  refine lv_istore_n hx hb (lv' := [(2, .int (-1)), (0, .ref (ad c0)), (1, .int x1)]) dM_planOf_1 rfl hl (Nat.le_of_ble_eq_true rfl) rfl (fun ls hl => ?_)
  refine lv_iconst hx hb dM_planOf_2 kI_0 ?_
  refine lv_istore_n hx hb (lv' := [(3, .int 0), (2, .int (-1)), (0, .ref (ad c0)), (1, .int x1)]) dM_planOf_3 rfl hl (Nat.le_of_ble_eq_true rfl) rfl (fun ls hl => ?_)
  exact lp4 1000 w c0 x1 (-1) 0 _ _ _ (lv_sub hl [2, 3, 1, 0] rfl) hI hf
/-- GuardVolumeModel.lay(III)V -/
abbrev rmM_lay : Room := { frames := 1, cells := 0, slots := 0, locals := 21 }
theorem pkM_lay : Pk yM_lay cM_lay 5 none 3 := ⟨kw_628, kw_7, by decide +kernel, by decide +kernel, by decide +kernel⟩
def bM_lay_3s (Λ : La) (K3 : Wo → Nat → Int32 → Int32 → Int32 → Int32 → Option Wo) (w : Wo) (c0 : Nat) (x1 : Int32) (x2 : Int32) (x3 : Int32) (x4 : Int32) : Option Wo := if x3 ≤ x4 then (some w) else ((gr Λ c0 5 1).bind fun r2 => (fM_place Λ w x1 x2).bind fun q3 => (gr Λ c0 5 18).bind fun r4 => (ld Λ q3.1 r4 x4).bind fun v5 => (st Λ q3.1 r2 (q3.2 + x4) v5).bind fun w6 => K3 w6 c0 x1 x2 x3 (x4 + 1))
def bM_lay_3 (Λ : La) : Nat → Wo → Nat → Int32 → Int32 → Int32 → Int32 → Option Wo
  | 0 => fun _ _ _ _ _ _ => none
  | n + 1 => bM_lay_3s Λ (bM_lay_3 Λ n)
def fM_lay (Λ : La) (w : Wo) (c0 : Nat) (x1 : Int32) (x2 : Int32) (x3 : Int32) : Option Wo := gd (isC Λ c0 5) (bM_lay_3 Λ 1000 w c0 x1 x2 x3 0)
set_option maxHeartbeats 4000000 in
set_option maxRecDepth 100000 in
theorem kM_lay (l : Launch) (G : va_G) (kA kL : ClassId) (Λ : La) (ad : Nat → Nat) (w : Wo) (c0 : Nat) (x1 : Int32) (x2 : Int32) (x3 : Int32) (w1 : Wo) (hf : fM_lay Λ w c0 x1 x2 x3 = some w1) : Mv l yM_lay cM_lay 5 rmM_lay G kA kL Λ ad [.ref (ad c0), .int x1, .int x2, .int x3] w w1 := by
  refine Mv.of (by decide +kernel) (Nat.le_of_ble_eq_true rfl) ?_
  intro p e s m args below meth c Q ls S hret hl hI
  have S : CallFix p m c cM_lay 5 s args (.code yM_lay cM_lay 5 none :: gW) "GuardVolumeModel" := S
  have hl : lv_has ls 5 [(0, .ref (ad c0)), (1, .int x1), (2, .int x2), (3, .int x3)] := hl
  have hx := S.1
  have hb := S.2.1
  have bk3 : ∀ (K3 : Wo → Nat → Int32 → Int32 → Int32 → Int32 → Option Wo), (∀ (w : Wo) (c0 : Nat) (x1 : Int32) (x2 : Int32) (x3 : Int32) (x4 : Int32) (H : Heap) (locs : List Loc) (ls : Array Slot), lv_has ls 5 [(0, .ref (ad c0)), (1, .int x1), (2, .int x2), (3, .int x3), (4, .int x4)] → Iv (Aa Λ ad) G kA kL Λ ad w s H locs → K3 w c0 x1 x2 x3 x4 = some w1 → W p l e rmM_lay s m args below meth c H locs 0 0 Q (F0 m 3 ls [])) → ∀ (w : Wo) (c0 : Nat) (x1 : Int32) (x2 : Int32) (x3 : Int32) (x4 : Int32) (H : Heap) (locs : List Loc) (ls : Array Slot), lv_has ls 5 [(0, .ref (ad c0)), (1, .int x1), (2, .int x2), (3, .int x3), (4, .int x4)] → Iv (Aa Λ ad) G kA kL Λ ad w s H locs → bM_lay_3s Λ K3 w c0 x1 x2 x3 x4 = some w1 → W p l e rmM_lay s m args below meth c H locs 0 0 Q (F0 m 3 ls []) := by
    intro K3 hK3 w c0 x1 x2 x3 x4 H locs ls hl hI hf
    unfold bM_lay_3s at hf
    refine lv_iload hx hb dM_lay_3 (lv_at hl 4 rfl) ?_
    refine lv_iload_n hx hb dM_lay_5 rfl (lv_at hl 3 rfl) ?_
    refine lv_icmp_ge (tgt := 35) hx hb dM_lay_6 rfl (fun h1 => ?_) (fun h1 => ?_)
    · have hf := ip_ hf h1
      exact hret _ _ _ _ _ hI hf dM_lay_35
    · have hf := in_ hf h1
      refine lv_aload_n hx hb dM_lay_9 rfl (lv_at hl 0 rfl) ?_
      obtain ⟨r2, hr2, hf⟩ := ob_ hf
      refine r_getr (i := 1) S hI fcM (Nat.le_of_ble_eq_true rfl) kw_502 dM_lay_10 hr2 ?_
      refine lv_iload_n hx hb dM_lay_13 rfl (lv_at hl 1 rfl) ?_
      refine lv_iload_n hx hb dM_lay_14 rfl (lv_at hl 2 rfl) ?_
      obtain ⟨q3, hq3, hf⟩ := ob_ hf
      refine r_ci (r_S (rest := [.ref (ad r2)]) (As := [.int x1, .int x2]) S hl hI (kM_place l G kA kL Λ ad w x1 x2 q3.1 q3.2 hq3) pkM_place kw_492 kw_491 ⟨rfl, rfl⟩ ⟨Nat.le_of_ble_eq_true rfl, Nat.le_of_ble_eq_true rfl⟩ rfl rfl (Nat.le_of_ble_eq_true rfl) ⟨Nat.zero_le _, Nat.zero_le _⟩ dM_lay_15) hI (fun H locs hI => ?_)
      refine lv_iload hx hb dM_lay_18 (lv_at hl 4 rfl) ?_
      refine lv_iadd hx hb dM_lay_20 ?_
      refine lv_aload_n hx hb dM_lay_21 rfl (lv_at hl 0 rfl) ?_
      obtain ⟨r4, hr4, hf⟩ := ob_ hf
      refine r_getr (i := 18) S hI fcM (Nat.le_of_ble_eq_true rfl) kw_519 dM_lay_22 hr4 ?_
      refine lv_iload hx hb dM_lay_25 (lv_at hl 4 rfl) ?_
      obtain ⟨v5, hv5, hf⟩ := ob_ hf
      refine r_ald S hI dM_lay_27 hv5 ?_
      obtain ⟨w6, hw6, hf⟩ := ob_ hf
      refine r_ast S hI dM_lay_28 hw6 (fun H locs hI => ?_)
      refine lv_iinc hx hb (lv' := [(4, .int (x4 + 1)), (0, .ref (ad c0)), (1, .int x1), (2, .int x2), (3, .int x3)]) (k := 4) dM_lay_29 hl rfl (kN_1 _) (Nat.le_of_ble_eq_true rfl) rfl (fun ls hl => ?_)
      refine lv_goto (tgt := 3) hx hb dM_lay_32 rfl ?_
      exact hK3 w6 c0 x1 x2 x3 (x4 + 1) _ _ _ (lv_sub hl [1, 2, 3, 4, 0] rfl) hI hf
  have lp3 : ∀ (n : Nat), ∀ (w : Wo) (c0 : Nat) (x1 : Int32) (x2 : Int32) (x3 : Int32) (x4 : Int32) (H : Heap) (locs : List Loc) (ls : Array Slot), lv_has ls 5 [(0, .ref (ad c0)), (1, .int x1), (2, .int x2), (3, .int x3), (4, .int x4)] → Iv (Aa Λ ad) G kA kL Λ ad w s H locs → bM_lay_3 Λ n w c0 x1 x2 x3 x4 = some w1 → W p l e rmM_lay s m args below meth c H locs 0 0 Q (F0 m 3 ls []) := by
    intro n
    induction n with
    | zero =>
      intro w c0 x1 x2 x3 x4 H locs ls hl hI hf
      have hf : (none : Option Wo) = some w1 := hf
      cases hf
    | succ n ih =>
      intro w c0 x1 x2 x3 x4 H locs ls hl hI hf
      exact bk3 (bM_lay_3 Λ n) ih w c0 x1 x2 x3 x4 H locs ls hl hI hf
  unfold fM_lay at hf
  have hf := (gd_some hf).2
  refine lv_iconst hx hb dM_lay_0 kI_0 ?_
  refine lv_istore hx hb (lv' := [(4, .int 0), (0, .ref (ad c0)), (1, .int x1), (2, .int x2), (3, .int x3)]) dM_lay_1 hl (Nat.le_of_ble_eq_true rfl) rfl (fun ls hl => ?_)
  exact lp3 1000 w c0 x1 x2 x3 0 _ _ _ (lv_sub hl [1, 2, 3, 4, 0] rfl) hI hf
/-- GuardVolumeModel.dropPlan(II)V -/
abbrev rmM_dropPlan : Room := { frames := 0, cells := 0, slots := 0, locals := 0 }
theorem pkM_dropPlan : Pk yM_dropPlan cM_dropPlan 4 none 2 := ⟨kw_632, kw_7, by decide +kernel, by decide +kernel, by decide +kernel⟩
def bM_dropPlan_17s (Λ : La) (K17 : Wo → Nat → Int32 → Int32 → Option Wo) (w : Wo) (c0 : Nat) (x1 : Int32) (x3 : Int32) : Option Wo := (gr Λ c0 5 9).bind fun r1 => (ld Λ w r1 x1).bind fun v2 => if ((8 * x1) + v2) ≤ x3 then (some w) else ((gr Λ c0 5 10).bind fun r4 => (gr Λ c0 5 10).bind fun r5 => (ld Λ w r5 (x3 + 1)).bind fun v6 => (st Λ w r4 x3 v6).bind fun w7 => (gr Λ c0 5 11).bind fun r8 => (gr Λ c0 5 11).bind fun r9 => (ld Λ w7 r9 (x3 + 1)).bind fun v10 => (st Λ w7 r8 x3 v10).bind fun w11 => (gr Λ c0 5 12).bind fun r12 => (gr Λ c0 5 12).bind fun r13 => (ld Λ w11 r13 (x3 + 1)).bind fun v14 => (st Λ w11 r12 x3 v14).bind fun w15 => K17 w15 c0 x1 (x3 + 1))
def bM_dropPlan_17 (Λ : La) : Nat → Wo → Nat → Int32 → Int32 → Option Wo
  | 0 => fun _ _ _ _ => none
  | n + 1 => bM_dropPlan_17s Λ (bM_dropPlan_17 Λ n)
def fM_dropPlan (Λ : La) (w : Wo) (c0 : Nat) (x1 : Int32) (x2 : Int32) : Option Wo := gd (isC Λ c0 5) ((gr Λ c0 5 9).bind fun r16 => (ld Λ w r16 x1).bind fun v17 => (st Λ w r16 x1 (v17 - 1)).bind fun w18 => bM_dropPlan_17 Λ 1000 w18 c0 x1 ((8 * x1) + x2))
set_option maxHeartbeats 4000000 in
set_option maxRecDepth 100000 in
theorem kM_dropPlan (l : Launch) (G : va_G) (kA kL : ClassId) (Λ : La) (ad : Nat → Nat) (w : Wo) (c0 : Nat) (x1 : Int32) (x2 : Int32) (w1 : Wo) (hf : fM_dropPlan Λ w c0 x1 x2 = some w1) : Mv l yM_dropPlan cM_dropPlan 4 rmM_dropPlan G kA kL Λ ad [.ref (ad c0), .int x1, .int x2] w w1 := by
  refine Mv.of (by decide +kernel) (Nat.le_of_ble_eq_true rfl) ?_
  intro p e s m args below meth c Q ls S hret hl hI
  have S : CallFix p m c cM_dropPlan 4 s args (.code yM_dropPlan cM_dropPlan 4 none :: gW) "GuardVolumeModel" := S
  have hl : lv_has ls 4 [(0, .ref (ad c0)), (1, .int x1), (2, .int x2)] := hl
  have hx := S.1
  have hb := S.2.1
  have bk17 : ∀ (K17 : Wo → Nat → Int32 → Int32 → Option Wo), (∀ (w : Wo) (c0 : Nat) (x1 : Int32) (x3 : Int32) (H : Heap) (locs : List Loc) (ls : Array Slot), lv_has ls 4 [(0, .ref (ad c0)), (1, .int x1), (3, .int x3)] → Iv (Aa Λ ad) G kA kL Λ ad w s H locs → K17 w c0 x1 x3 = some w1 → W p l e rmM_dropPlan s m args below meth c H locs 0 0 Q (F0 m 17 ls [])) → ∀ (w : Wo) (c0 : Nat) (x1 : Int32) (x3 : Int32) (H : Heap) (locs : List Loc) (ls : Array Slot), lv_has ls 4 [(0, .ref (ad c0)), (1, .int x1), (3, .int x3)] → Iv (Aa Λ ad) G kA kL Λ ad w s H locs → bM_dropPlan_17s Λ K17 w c0 x1 x3 = some w1 → W p l e rmM_dropPlan s m args below meth c H locs 0 0 Q (F0 m 17 ls []) := by
    intro K17 hK17 w c0 x1 x3 H locs ls hl hI hf
    unfold bM_dropPlan_17s at hf
    refine lv_iload_n hx hb dM_dropPlan_17 rfl (lv_at hl 2 rfl) ?_
    refine lv_bipush hx hb dM_dropPlan_18 kB_8 ?_
    refine lv_iload_n hx hb dM_dropPlan_20 rfl (lv_at hl 1 rfl) ?_
    refine lv_imul hx hb dM_dropPlan_21 ?_
    refine lv_aload_n hx hb dM_dropPlan_22 rfl (lv_at hl 0 rfl) ?_
    obtain ⟨r1, hr1, hf⟩ := ob_ hf
    refine r_getr (i := 9) S hI fcM (Nat.le_of_ble_eq_true rfl) kw_510 dM_dropPlan_23 hr1 ?_
    refine lv_iload_n hx hb dM_dropPlan_26 rfl (lv_at hl 1 rfl) ?_
    obtain ⟨v2, hv2, hf⟩ := ob_ hf
    refine r_ald S hI dM_dropPlan_27 hv2 ?_
    refine lv_iadd hx hb dM_dropPlan_28 ?_
    refine lv_icmp_ge (tgt := 80) hx hb dM_dropPlan_29 rfl (fun h3 => ?_) (fun h3 => ?_)
    · have hf := ip_ hf h3
      exact hret _ _ _ _ _ hI hf dM_dropPlan_80
    · have hf := in_ hf h3
      refine lv_aload_n hx hb dM_dropPlan_32 rfl (lv_at hl 0 rfl) ?_
      obtain ⟨r4, hr4, hf⟩ := ob_ hf
      refine r_getr (i := 10) S hI fcM (Nat.le_of_ble_eq_true rfl) kw_511 dM_dropPlan_33 hr4 ?_
      refine lv_iload_n hx hb dM_dropPlan_36 rfl (lv_at hl 2 rfl) ?_
      refine lv_aload_n hx hb dM_dropPlan_37 rfl (lv_at hl 0 rfl) ?_
      obtain ⟨r5, hr5, hf⟩ := ob_ hf
      refine r_getr (i := 10) S hI fcM (Nat.le_of_ble_eq_true rfl) kw_511 dM_dropPlan_38 hr5 ?_
      refine lv_iload_n hx hb dM_dropPlan_41 rfl (lv_at hl 2 rfl) ?_
      refine lv_iconst hx hb dM_dropPlan_42 kI_1 ?_
      refine lv_iadd hx hb dM_dropPlan_43 ?_
      obtain ⟨v6, hv6, hf⟩ := ob_ hf
      refine r_ald S hI dM_dropPlan_44 hv6 ?_
      obtain ⟨w7, hw7, hf⟩ := ob_ hf
      refine r_ast S hI dM_dropPlan_45 hw7 (fun H locs hI => ?_)
      refine lv_aload_n hx hb dM_dropPlan_46 rfl (lv_at hl 0 rfl) ?_
      obtain ⟨r8, hr8, hf⟩ := ob_ hf
      refine r_getr (i := 11) S hI fcM (Nat.le_of_ble_eq_true rfl) kw_512 dM_dropPlan_47 hr8 ?_
      refine lv_iload_n hx hb dM_dropPlan_50 rfl (lv_at hl 2 rfl) ?_
      refine lv_aload_n hx hb dM_dropPlan_51 rfl (lv_at hl 0 rfl) ?_
      obtain ⟨r9, hr9, hf⟩ := ob_ hf
      refine r_getr (i := 11) S hI fcM (Nat.le_of_ble_eq_true rfl) kw_512 dM_dropPlan_52 hr9 ?_
      refine lv_iload_n hx hb dM_dropPlan_55 rfl (lv_at hl 2 rfl) ?_
      refine lv_iconst hx hb dM_dropPlan_56 kI_1 ?_
      refine lv_iadd hx hb dM_dropPlan_57 ?_
      obtain ⟨v10, hv10, hf⟩ := ob_ hf
      refine r_ald S hI dM_dropPlan_58 hv10 ?_
      obtain ⟨w11, hw11, hf⟩ := ob_ hf
      refine r_ast S hI dM_dropPlan_59 hw11 (fun H locs hI => ?_)
      refine lv_aload_n hx hb dM_dropPlan_60 rfl (lv_at hl 0 rfl) ?_
      obtain ⟨r12, hr12, hf⟩ := ob_ hf
      refine r_getr (i := 12) S hI fcM (Nat.le_of_ble_eq_true rfl) kw_513 dM_dropPlan_61 hr12 ?_
      refine lv_iload_n hx hb dM_dropPlan_64 rfl (lv_at hl 2 rfl) ?_
      refine lv_aload_n hx hb dM_dropPlan_65 rfl (lv_at hl 0 rfl) ?_
      obtain ⟨r13, hr13, hf⟩ := ob_ hf
      refine r_getr (i := 12) S hI fcM (Nat.le_of_ble_eq_true rfl) kw_513 dM_dropPlan_66 hr13 ?_
      refine lv_iload_n hx hb dM_dropPlan_69 rfl (lv_at hl 2 rfl) ?_
      refine lv_iconst hx hb dM_dropPlan_70 kI_1 ?_
      refine lv_iadd hx hb dM_dropPlan_71 ?_
      obtain ⟨v14, hv14, hf⟩ := ob_ hf
      refine r_ald S hI dM_dropPlan_72 hv14 ?_
      obtain ⟨w15, hw15, hf⟩ := ob_ hf
      refine r_ast S hI dM_dropPlan_73 hw15 (fun H locs hI => ?_)
      refine lv_iinc hx hb (lv' := [(3, .int (x3 + 1)), (0, .ref (ad c0)), (1, .int x1)]) (k := 2) dM_dropPlan_74 hl rfl (kN_1 _) (Nat.le_of_ble_eq_true rfl) rfl (fun ls hl => ?_)
      refine lv_goto (tgt := 17) hx hb dM_dropPlan_77 rfl ?_
      exact hK17 w15 c0 x1 (x3 + 1) _ _ _ (lv_sub hl [1, 2, 0] rfl) hI hf
  have lp17 : ∀ (n : Nat), ∀ (w : Wo) (c0 : Nat) (x1 : Int32) (x3 : Int32) (H : Heap) (locs : List Loc) (ls : Array Slot), lv_has ls 4 [(0, .ref (ad c0)), (1, .int x1), (3, .int x3)] → Iv (Aa Λ ad) G kA kL Λ ad w s H locs → bM_dropPlan_17 Λ n w c0 x1 x3 = some w1 → W p l e rmM_dropPlan s m args below meth c H locs 0 0 Q (F0 m 17 ls []) := by
    intro n
    induction n with
    | zero =>
      intro w c0 x1 x3 H locs ls hl hI hf
      have hf : (none : Option Wo) = some w1 := hf
      cases hf
    | succ n ih =>
      intro w c0 x1 x3 H locs ls hl hI hf
      exact bk17 (bM_dropPlan_17 Λ n) ih w c0 x1 x3 H locs ls hl hI hf
  unfold fM_dropPlan at hf
  have hf := (gd_some hf).2
  refine lv_aload_n hx hb dM_dropPlan_0 rfl (lv_at hl 0 rfl) ?_
  obtain ⟨r16, hr16, hf⟩ := ob_ hf
  refine r_getr (i := 9) S hI fcM (Nat.le_of_ble_eq_true rfl) kw_510 dM_dropPlan_1 hr16 ?_
  refine lv_iload_n hx hb dM_dropPlan_4 rfl (lv_at hl 1 rfl) ?_
  refine lv_dup2_11 hx hb dM_dropPlan_5 rfl rfl ?_
  obtain ⟨v17, hv17, hf⟩ := ob_ hf
  refine r_ald S hI dM_dropPlan_6 hv17 ?_
  refine lv_iconst hx hb dM_dropPlan_7 kI_1 ?_
  refine lv_isub hx hb dM_dropPlan_8 ?_
  obtain ⟨w18, hw18, hf⟩ := ob_ hf
  refine r_ast S hI dM_dropPlan_9 hw18 (fun H locs hI => ?_)
  refine lv_bipush hx hb dM_dropPlan_10 kB_8 ?_
  refine lv_iload_n hx hb dM_dropPlan_12 rfl (lv_at hl 1 rfl) ?_
  refine lv_imul hx hb dM_dropPlan_13 ?_
  refine lv_iload_n hx hb dM_dropPlan_14 rfl (lv_at hl 2 rfl) ?_
  refine lv_iadd hx hb dM_dropPlan_15 ?_
  refine lv_istore_n hx hb (lv' := [(3, .int ((8 * x1) + x2)), (0, .ref (ad c0)), (1, .int x1), (2, .int x2)]) dM_dropPlan_16 rfl hl (Nat.le_of_ble_eq_true rfl) rfl (fun ls hl => ?_)
  exact lp17 1000 w18 c0 x1 ((8 * x1) + x2) _ _ _ (lv_sub hl [1, 2, 0] rfl) hI hf
end
section
/-! written by walk.py: the functions that the bytecode computes, and the walks -/
/-- GuardVolumeModel.store(III)Z -/
abbrev rmM_store : Room := { frames := 2, cells := 0, slots := 0, locals := 45 }
theorem pkM_store : Pk yM_store cM_store 8 (some .boolean) 3 := ⟨kw_620, kw_7, by decide +kernel, by decide +kernel, by decide +kernel⟩
def bM_store_60s (Λ : La) (K60 : Wo → Nat → Int32 → Int32 → Int32 → Int32 → Int32 → Option (Wo × Int32)) (w : Wo) (c0 : Nat) (x1 : Int32) (x2 : Int32) (x3 : Int32) (x4 : Int32) (x5 : Int32) : Option (Wo × Int32) := if 8 ≤ x5 then ((gr Λ c0 5 18).bind fun r2 => (fM_mix Λ w x4 x2).bind fun q3 => (fM_mix Λ q3.1 q3.2 x3).bind fun q4 => (st Λ q4.1 r2 8 q4.2).bind fun w5 => (gr Λ c0 5 8).bind fun r6 => (ld Λ w5 r6 x1).bind fun v7 => (st Λ w5 r6 x1 (v7 + 1)).bind fun w8 => (fM_planOf Λ w8 c0 x1).bind fun q9 => if q9.2 = (-1) then ((fM_lay Λ q9.1 c0 x1 x2 11).bind fun w20 => zr w20 1) else ((gr Λ c0 5 11).bind fun r11 => (ld Λ q9.1 r11 ((8 * x1) + q9.2)).bind fun v12 => (gr Λ c0 5 12).bind fun r13 => (ld Λ q9.1 r13 ((8 * x1) + q9.2)).bind fun v14 => (fM_dropPlan Λ q9.1 c0 x1 q9.2).bind fun w15 => if v12 = 1 then ((fM_lay Λ w15 c0 x1 v14 11).bind fun w19 => zr w19 1) else (if v12 = 2 then ((fM_lay Λ w15 c0 x1 x2 v14).bind fun w18 => zr w18 1) else (zr w15 1)))) else ((gr Λ c0 5 18).bind fun r21 => (ld Λ w r21 x5).bind fun v22 => (fM_mix Λ w x4 v22).bind fun q23 => K60 q23.1 c0 x1 x2 x3 q23.2 (x5 + 1))
def bM_store_60 (Λ : La) : Nat → Wo → Nat → Int32 → Int32 → Int32 → Int32 → Int32 → Option (Wo × Int32)
  | 0 => fun _ _ _ _ _ _ _ => none
  | n + 1 => bM_store_60s Λ (bM_store_60 Λ n)
def bM_store_35 (Λ : La) (w : Wo) (c0 : Nat) (x1 : Int32) (x2 : Int32) (x3 : Int32) (t0 : Nat) (s1 : Int32) : Option (Wo × Int32) := (pf Λ w t0 5 7 s1).bind fun w24 => (gr Λ c0 5 18).bind fun r25 => (st Λ w24 r25 9 x2).bind fun w26 => (gr Λ c0 5 18).bind fun r27 => (st Λ w26 r27 10 x3).bind fun w28 => bM_store_60 Λ 1000 w28 c0 x1 x2 x3 0 0
def fM_store (Λ : La) (w : Wo) (c0 : Nat) (x1 : Int32) (x2 : Int32) (x3 : Int32) : Option (Wo × Int32) := gd (isC Λ c0 5) ((gi Λ w c0 5 7).bind fun v29 => if v29 = 0 then ((pf Λ w c0 5 6 1).bind fun w35 => zr w35 0) else ((gi Λ w c0 5 7).bind fun v31 => if v31 ≤ 0 then ((gi Λ w c0 5 7).bind fun v33 => bM_store_35 Λ w c0 x1 x2 x3 c0 v33) else ((gi Λ w c0 5 7).bind fun v34 => bM_store_35 Λ w c0 x1 x2 x3 c0 (v34 - 1))))
set_option maxHeartbeats 4000000 in
set_option maxRecDepth 100000 in
theorem kM_store (l : Launch) (G : va_G) (kA kL : ClassId) (Λ : La) (ad : Nat → Nat) (w : Wo) (c0 : Nat) (x1 : Int32) (x2 : Int32) (x3 : Int32) (w1 : Wo) (r : Int32) (hf : fM_store Λ w c0 x1 x2 x3 = some (w1, r)) : Mi l yM_store cM_store 8 (some .boolean) rmM_store G kA kL Λ ad [.ref (ad c0), .int x1, .int x2, .int x3] w w1 r := by
  refine Mz.of (by decide +kernel) (Nat.le_of_ble_eq_true rfl) ?_
  intro p e s m args below meth c Q ls S hret hl hI
  have S : CallFix p m c cM_store 8 s args (.code yM_store cM_store 8 (some .boolean) :: gW) "GuardVolumeModel" := S
  have hl : lv_has ls 8 [(0, .ref (ad c0)), (1, .int x1), (2, .int x2), (3, .int x3)] := hl
  have hx := S.1
  have hb := S.2.1
  have bk60 : ∀ (K60 : Wo → Nat → Int32 → Int32 → Int32 → Int32 → Int32 → Option (Wo × Int32)), (∀ (w : Wo) (c0 : Nat) (x1 : Int32) (x2 : Int32) (x3 : Int32) (x4 : Int32) (x5 : Int32) (H : Heap) (locs : List Loc) (ls : Array Slot), lv_has ls 8 [(0, .ref (ad c0)), (1, .int x1), (2, .int x2), (3, .int x3), (4, .int x4), (5, .int x5)] → Iv (Aa Λ ad) G kA kL Λ ad w s H locs → K60 w c0 x1 x2 x3 x4 x5 = some (w1, r) → W p l e rmM_store s m args below meth c H locs 0 0 Q (F0 m 60 ls [])) → ∀ (w : Wo) (c0 : Nat) (x1 : Int32) (x2 : Int32) (x3 : Int32) (x4 : Int32) (x5 : Int32) (H : Heap) (locs : List Loc) (ls : Array Slot), lv_has ls 8 [(0, .ref (ad c0)), (1, .int x1), (2, .int x2), (3, .int x3), (4, .int x4), (5, .int x5)] → Iv (Aa Λ ad) G kA kL Λ ad w s H locs → bM_store_60s Λ K60 w c0 x1 x2 x3 x4 x5 = some (w1, r) → W p l e rmM_store s m args below meth c H locs 0 0 Q (F0 m 60 ls []) := by
    intro K60 hK60 w c0 x1 x2 x3 x4 x5 H locs ls hl hI hf
    unfold bM_store_60s at hf
    refine lv_iload hx hb dM_store_60 (lv_at hl 5 rfl) ?_
    refine lv_bipush hx hb dM_store_62 kB_8 ?_
    refine lv_icmp_ge (tgt := 87) hx hb dM_store_64 rfl (fun h1 => ?_) (fun h1 => ?_)
    · have hf := ip_ hf h1
      refine lv_aload_n hx hb dM_store_87 rfl (lv_at hl 0 rfl) ?_
      obtain ⟨r2, hr2, hf⟩ := ob_ hf
      refine r_getr (i := 18) S hI fcM (Nat.le_of_ble_eq_true rfl) kw_519 dM_store_88 hr2 ?_
      refine lv_bipush hx hb dM_store_91 kB_8 ?_
      refine lv_iload hx hb dM_store_93 (lv_at hl 4 rfl) ?_
      refine lv_iload_n hx hb dM_store_95 rfl (lv_at hl 2 rfl) ?_
      obtain ⟨q3, hq3, hf⟩ := ob_ hf
      refine r_ci (r_S (rest := [.int 8, .ref (ad r2)]) (As := [.int x4, .int x2]) S hl hI (kM_mix l G kA kL Λ ad w x4 x2 q3.1 q3.2 hq3) pkM_mix kw_499 kw_498 ⟨rfl, rfl⟩ ⟨Nat.le_of_ble_eq_true rfl, Nat.le_of_ble_eq_true rfl⟩ rfl rfl (Nat.le_of_ble_eq_true rfl) ⟨Nat.zero_le _, Nat.zero_le _⟩ dM_store_96) hI (fun H locs hI => ?_)
      refine lv_iload_n hx hb dM_store_99 rfl (lv_at hl 3 rfl) ?_
      obtain ⟨q4, hq4, hf⟩ := ob_ hf
      refine r_ci (r_S (rest := [.int 8, .ref (ad r2)]) (As := [.int q3.2, .int x3]) S hl hI (kM_mix l G kA kL Λ ad q3.1 q3.2 x3 q4.1 q4.2 hq4) pkM_mix kw_499 kw_498 ⟨rfl, rfl⟩ ⟨Nat.le_of_ble_eq_true rfl, Nat.le_of_ble_eq_true rfl⟩ rfl rfl (Nat.le_of_ble_eq_true rfl) ⟨Nat.zero_le _, Nat.zero_le _⟩ dM_store_100) hI (fun H locs hI => ?_)
      obtain ⟨w5, hw5, hf⟩ := ob_ hf
      refine r_ast S hI dM_store_103 hw5 (fun H locs hI => ?_)
      refine lv_aload_n hx hb dM_store_104 rfl (lv_at hl 0 rfl) ?_
      obtain ⟨r6, hr6, hf⟩ := ob_ hf
      refine r_getr (i := 8) S hI fcM (Nat.le_of_ble_eq_true rfl) kw_509 dM_store_105 hr6 ?_
      refine lv_iload_n hx hb dM_store_108 rfl (lv_at hl 1 rfl) ?_
      refine lv_dup2_11 hx hb dM_store_109 rfl rfl ?_
      obtain ⟨v7, hv7, hf⟩ := ob_ hf
      refine r_ald S hI dM_store_110 hv7 ?_
      refine lv_iconst hx hb dM_store_111 kI_1 ?_
      refine lv_iadd hx hb dM_store_112 ?_
      obtain ⟨w8, hw8, hf⟩ := ob_ hf
      refine r_ast S hI dM_store_113 hw8 (fun H locs hI => ?_)
      refine lv_aload_n hx hb dM_store_114 rfl (lv_at hl 0 rfl) ?_
      refine lv_iload_n hx hb dM_store_115 rfl (lv_at hl 1 rfl) ?_
      obtain ⟨q9, hq9, hf⟩ := ob_ hf
      refine r_ci (r_V (rest := []) (As := [.int x1]) S hl hI (kM_planOf l G kA kL Λ ad w8 c0 x1 q9.1 q9.2 hq9) pkM_planOf kw_623 ks_M_planOf (fcM).1 (gd_some hq9).1 kw_621 ⟨rfl, rfl⟩ ⟨Nat.le_of_ble_eq_true rfl, Nat.le_of_ble_eq_true rfl⟩ rfl rfl (Nat.le_of_ble_eq_true rfl) ⟨Nat.zero_le _, Nat.zero_le _⟩ dM_store_116) hI (fun H locs hI => ?_)
      refine lv_istore hx hb (lv' := [(5, .int q9.2), (0, .ref (ad c0)), (1, .int x1), (2, .int x2), (3, .int x3), (4, .int x4)]) dM_store_119 hl (Nat.le_of_ble_eq_true rfl) rfl (fun ls hl => ?_)
      refine lv_iload hx hb dM_store_121 (lv_at hl 0 rfl) ?_
      refine lv_iconst hx hb dM_store_123 kI_m1 ?_
      refine lv_icmp_ne (tgt := 137) hx hb dM_store_124 rfl (fun h10 => ?_) (fun h10 => ?_)
      · have hf := in_ hf h10
        refine lv_aload_n hx hb dM_store_137 rfl (lv_at hl 1 rfl) ?_
        obtain ⟨r11, hr11, hf⟩ := ob_ hf
        refine r_getr (i := 11) S hI fcM (Nat.le_of_ble_eq_true rfl) kw_512 dM_store_138 hr11 ?_
        refine lv_bipush hx hb dM_store_141 kB_8 ?_
        refine lv_iload_n hx hb dM_store_143 rfl (lv_at hl 2 rfl) ?_
        refine lv_imul hx hb dM_store_144 ?_
        refine lv_iload hx hb dM_store_145 (lv_at hl 0 rfl) ?_
        refine lv_iadd hx hb dM_store_147 ?_
        obtain ⟨v12, hv12, hf⟩ := ob_ hf
        refine r_ald S hI dM_store_148 hv12 ?_
        refine lv_istore hx hb (lv' := [(6, .int v12), (5, .int q9.2), (0, .ref (ad c0)), (1, .int x1), (2, .int x2), (3, .int x3), (4, .int x4)]) dM_store_149 hl (Nat.le_of_ble_eq_true rfl) rfl (fun ls hl => ?_)
        refine lv_aload_n hx hb dM_store_151 rfl (lv_at hl 2 rfl) ?_
        obtain ⟨r13, hr13, hf⟩ := ob_ hf
        refine r_getr (i := 12) S hI fcM (Nat.le_of_ble_eq_true rfl) kw_513 dM_store_152 hr13 ?_
        refine lv_bipush hx hb dM_store_155 kB_8 ?_
        refine lv_iload_n hx hb dM_store_157 rfl (lv_at hl 3 rfl) ?_
        refine lv_imul hx hb dM_store_158 ?_
        refine lv_iload hx hb dM_store_159 (lv_at hl 1 rfl) ?_
        refine lv_iadd hx hb dM_store_161 ?_
        obtain ⟨v14, hv14, hf⟩ := ob_ hf
        refine r_ald S hI dM_store_162 hv14 ?_
        refine lv_istore hx hb (lv' := [(7, .int v14), (6, .int v12), (5, .int q9.2), (0, .ref (ad c0)), (1, .int x1), (2, .int x2), (3, .int x3), (4, .int x4)]) dM_store_163 hl (Nat.le_of_ble_eq_true rfl) rfl (fun ls hl => ?_)
        refine lv_aload_n hx hb dM_store_165 rfl (lv_at hl 3 rfl) ?_
        refine lv_iload_n hx hb dM_store_166 rfl (lv_at hl 4 rfl) ?_
        refine lv_iload hx hb dM_store_167 (lv_at hl 2 rfl) ?_
        obtain ⟨w15, hw15, hf⟩ := ob_ hf
        refine r_cv (r_V (rest := []) (As := [.int x1, .int q9.2]) S hl hI (kM_dropPlan l G kA kL Λ ad q9.1 c0 x1 q9.2 w15 hw15) pkM_dropPlan kw_631 ks_M_dropPlan (fcM).1 (gd_some hw15).1 kw_629 ⟨rfl, rfl⟩ ⟨Nat.le_of_ble_eq_true rfl, Nat.le_of_ble_eq_true rfl⟩ rfl rfl (Nat.le_of_ble_eq_true rfl) ⟨Nat.zero_le _, Nat.zero_le _⟩ dM_store_169) hI (fun H locs hI => ?_)
        refine lv_iload hx hb dM_store_172 (lv_at hl 1 rfl) ?_
        refine lv_iconst hx hb dM_store_174 kI_1 ?_
        refine lv_icmp_ne (tgt := 190) hx hb dM_store_175 rfl (fun h16 => ?_) (fun h16 => ?_)
        · have hf := in_ hf h16
          refine lv_iload hx hb dM_store_190 (lv_at hl 1 rfl) ?_
          refine lv_iconst hx hb dM_store_192 kI_2 ?_
          refine lv_icmp_ne (tgt := 204) hx hb dM_store_193 rfl (fun h17 => ?_) (fun h17 => ?_)
          · have hf := in_ hf h17
            refine lv_iconst hx hb dM_store_204 kI_1 ?_
            exact hret _ _ _ _ _ _ hI hf dM_store_205
          · have hf := ip_ hf h17
            refine lv_aload_n hx hb dM_store_196 rfl (lv_at hl 3 rfl) ?_
            refine lv_iload_n hx hb dM_store_197 rfl (lv_at hl 4 rfl) ?_
            refine lv_iload_n hx hb dM_store_198 rfl (lv_at hl 5 rfl) ?_
            refine lv_iload hx hb dM_store_199 (lv_at hl 0 rfl) ?_
            obtain ⟨w18, hw18, hf⟩ := ob_ hf
            refine r_cv (r_V (rest := []) (As := [.int x1, .int x2, .int v14]) S hl hI (kM_lay l G kA kL Λ ad w15 c0 x1 x2 v14 w18 hw18) pkM_lay kw_627 ks_M_lay (fcM).1 (gd_some hw18).1 kw_625 ⟨rfl, rfl⟩ ⟨Nat.le_of_ble_eq_true rfl, Nat.le_of_ble_eq_true rfl⟩ rfl rfl (Nat.le_of_ble_eq_true rfl) ⟨Nat.zero_le _, Nat.zero_le _⟩ dM_store_201) hI (fun H locs hI => ?_)
            refine lv_iconst hx hb dM_store_204 kI_1 ?_
            exact hret _ _ _ _ _ _ hI hf dM_store_205
        · have hf := ip_ hf h16
          refine lv_aload_n hx hb dM_store_178 rfl (lv_at hl 3 rfl) ?_
          refine lv_iload_n hx hb dM_store_179 rfl (lv_at hl 4 rfl) ?_
          refine lv_iload hx hb dM_store_180 (lv_at hl 0 rfl) ?_
          refine lv_bipush hx hb dM_store_182 kB_11 ?_
          obtain ⟨w19, hw19, hf⟩ := ob_ hf
          refine r_cv (r_V (rest := []) (As := [.int x1, .int v14, .int 11]) S hl hI (kM_lay l G kA kL Λ ad w15 c0 x1 v14 11 w19 hw19) pkM_lay kw_627 ks_M_lay (fcM).1 (gd_some hw19).1 kw_625 ⟨rfl, rfl⟩ ⟨Nat.le_of_ble_eq_true rfl, Nat.le_of_ble_eq_true rfl⟩ rfl rfl (Nat.le_of_ble_eq_true rfl) ⟨Nat.zero_le _, Nat.zero_le _⟩ dM_store_184) hI (fun H locs hI => ?_)
          refine lv_goto (tgt := 204) hx hb dM_store_187 rfl ?_
          refine lv_iconst hx hb dM_store_204 kI_1 ?_
          exact hret _ _ _ _ _ _ hI hf dM_store_205
      · have hf := ip_ hf h10
        refine lv_aload_n hx hb dM_store_127 rfl (lv_at hl 1 rfl) ?_
        refine lv_iload_n hx hb dM_store_128 rfl (lv_at hl 2 rfl) ?_
        refine lv_iload_n hx hb dM_store_129 rfl (lv_at hl 3 rfl) ?_
        refine lv_bipush hx hb dM_store_130 kB_11 ?_
        obtain ⟨w20, hw20, hf⟩ := ob_ hf
        refine r_cv (r_V (rest := []) (As := [.int x1, .int x2, .int 11]) S hl hI (kM_lay l G kA kL Λ ad q9.1 c0 x1 x2 11 w20 hw20) pkM_lay kw_627 ks_M_lay (fcM).1 (gd_some hw20).1 kw_625 ⟨rfl, rfl⟩ ⟨Nat.le_of_ble_eq_true rfl, Nat.le_of_ble_eq_true rfl⟩ rfl rfl (Nat.le_of_ble_eq_true rfl) ⟨Nat.zero_le _, Nat.zero_le _⟩ dM_store_132) hI (fun H locs hI => ?_)
        refine lv_iconst hx hb dM_store_135 kI_1 ?_
        exact hret _ _ _ _ _ _ hI hf dM_store_136
    · have hf := in_ hf h1
      refine lv_iload hx hb dM_store_67 (lv_at hl 4 rfl) ?_
      refine lv_aload_n hx hb dM_store_69 rfl (lv_at hl 0 rfl) ?_
      obtain ⟨r21, hr21, hf⟩ := ob_ hf
      refine r_getr (i := 18) S hI fcM (Nat.le_of_ble_eq_true rfl) kw_519 dM_store_70 hr21 ?_
      refine lv_iload hx hb dM_store_73 (lv_at hl 5 rfl) ?_
      obtain ⟨v22, hv22, hf⟩ := ob_ hf
      refine r_ald S hI dM_store_75 hv22 ?_
      obtain ⟨q23, hq23, hf⟩ := ob_ hf
      refine r_ci (r_S (rest := []) (As := [.int x4, .int v22]) S hl hI (kM_mix l G kA kL Λ ad w x4 v22 q23.1 q23.2 hq23) pkM_mix kw_499 kw_498 ⟨rfl, rfl⟩ ⟨Nat.le_of_ble_eq_true rfl, Nat.le_of_ble_eq_true rfl⟩ rfl rfl (Nat.le_of_ble_eq_true rfl) ⟨Nat.zero_le _, Nat.zero_le _⟩ dM_store_76) hI (fun H locs hI => ?_)
      refine lv_istore hx hb (lv' := [(4, .int q23.2), (0, .ref (ad c0)), (1, .int x1), (2, .int x2), (3, .int x3), (5, .int x5)]) dM_store_79 hl (Nat.le_of_ble_eq_true rfl) rfl (fun ls hl => ?_)
      refine lv_iinc hx hb (lv' := [(5, .int (x5 + 1)), (4, .int q23.2), (0, .ref (ad c0)), (1, .int x1), (2, .int x2), (3, .int x3)]) (k := 5) dM_store_81 hl rfl (kN_1 _) (Nat.le_of_ble_eq_true rfl) rfl (fun ls hl => ?_)
      refine lv_goto (tgt := 60) hx hb dM_store_84 rfl ?_
      exact hK60 q23.1 c0 x1 x2 x3 q23.2 (x5 + 1) _ _ _ (lv_sub hl [2, 3, 4, 5, 1, 0] rfl) hI hf
  have lp60 : ∀ (n : Nat), ∀ (w : Wo) (c0 : Nat) (x1 : Int32) (x2 : Int32) (x3 : Int32) (x4 : Int32) (x5 : Int32) (H : Heap) (locs : List Loc) (ls : Array Slot), lv_has ls 8 [(0, .ref (ad c0)), (1, .int x1), (2, .int x2), (3, .int x3), (4, .int x4), (5, .int x5)] → Iv (Aa Λ ad) G kA kL Λ ad w s H locs → bM_store_60 Λ n w c0 x1 x2 x3 x4 x5 = some (w1, r) → W p l e rmM_store s m args below meth c H locs 0 0 Q (F0 m 60 ls []) := by
    intro n
    induction n with
    | zero =>
      intro w c0 x1 x2 x3 x4 x5 H locs ls hl hI hf
      have hf : (none : Option (Wo × Int32)) = some (w1, r) := hf
      cases hf
    | succ n ih =>
      intro w c0 x1 x2 x3 x4 x5 H locs ls hl hI hf
      exact bk60 (bM_store_60 Λ n) ih w c0 x1 x2 x3 x4 x5 H locs ls hl hI hf
  have bk35 : ∀ (w : Wo) (c0 : Nat) (x1 : Int32) (x2 : Int32) (x3 : Int32) (t0 : Nat) (s1 : Int32) (H : Heap) (locs : List Loc) (ls : Array Slot), lv_has ls 8 [(0, .ref (ad c0)), (1, .int x1), (2, .int x2), (3, .int x3)] → Iv (Aa Λ ad) G kA kL Λ ad w s H locs → bM_store_35 Λ w c0 x1 x2 x3 t0 s1 = some (w1, r) → W p l e rmM_store s m args below meth c H locs 0 0 Q (F0 m 35 ls [.int s1, .ref (ad t0)]) := by
    intro w c0 x1 x2 x3 t0 s1 H locs ls hl hI hf
    unfold bM_store_35 at hf
    obtain ⟨w24, hw24, hf⟩ := ob_ hf
    refine r_put (i := 7) S hI fcM (Nat.le_of_ble_eq_true rfl) kw_508 rfl rfl rfl dM_store_35 hw24 (fun H locs hI => ?_)
    refine lv_aload_n hx hb dM_store_38 rfl (lv_at hl 0 rfl) ?_
    obtain ⟨r25, hr25, hf⟩ := ob_ hf
    refine r_getr (i := 18) S hI fcM (Nat.le_of_ble_eq_true rfl) kw_519 dM_store_39 hr25 ?_
    refine lv_bipush hx hb dM_store_42 kB_9 ?_
    refine lv_iload_n hx hb dM_store_44 rfl (lv_at hl 2 rfl) ?_
    obtain ⟨w26, hw26, hf⟩ := ob_ hf
    refine r_ast S hI dM_store_45 hw26 (fun H locs hI => ?_)
    refine lv_aload_n hx hb dM_store_46 rfl (lv_at hl 0 rfl) ?_
    obtain ⟨r27, hr27, hf⟩ := ob_ hf
    refine r_getr (i := 18) S hI fcM (Nat.le_of_ble_eq_true rfl) kw_519 dM_store_47 hr27 ?_
    refine lv_bipush hx hb dM_store_50 kB_10 ?_
    refine lv_iload_n hx hb dM_store_52 rfl (lv_at hl 3 rfl) ?_
    obtain ⟨w28, hw28, hf⟩ := ob_ hf
    refine r_ast S hI dM_store_53 hw28 (fun H locs hI => ?_)
    refine lv_iconst hx hb dM_store_54 kI_0 ?_
    refine lv_istore hx hb (lv' := [(4, .int 0), (0, .ref (ad c0)), (1, .int x1), (2, .int x2), (3, .int x3)]) dM_store_55 hl (Nat.le_of_ble_eq_true rfl) rfl (fun ls hl => ?_)
    refine lv_iconst hx hb dM_store_57 kI_0 ?_
    refine lv_istore hx hb (lv' := [(5, .int 0), (4, .int 0), (0, .ref (ad c0)), (1, .int x1), (2, .int x2), (3, .int x3)]) dM_store_58 hl (Nat.le_of_ble_eq_true rfl) rfl (fun ls hl => ?_)
    exact lp60 1000 w28 c0 x1 x2 x3 0 0 _ _ _ (lv_sub hl [2, 3, 4, 5, 1, 0] rfl) hI hf
  unfold fM_store at hf
  have hf := (gd_some hf).2
  refine lv_aload_n hx hb dM_store_0 rfl (lv_at hl 0 rfl) ?_
  obtain ⟨v29, hv29, hf⟩ := ob_ hf
  refine r_geti (i := 7) S hI fcM (Nat.le_of_ble_eq_true rfl) kw_508 dM_store_1 hv29 ?_
  refine lv_if_ne (tgt := 14) hx hb dM_store_4 rfl (fun h30 => ?_) (fun h30 => ?_)
  · have hf := in_ hf h30
    refine lv_aload_n hx hb dM_store_14 rfl (lv_at hl 0 rfl) ?_
    refine lv_aload_n hx hb dM_store_15 rfl (lv_at hl 0 rfl) ?_
    obtain ⟨v31, hv31, hf⟩ := ob_ hf
    refine r_geti (i := 7) S hI fcM (Nat.le_of_ble_eq_true rfl) kw_508 dM_store_16 hv31 ?_
    refine lv_if_le (tgt := 31) hx hb dM_store_19 rfl (fun h32 => ?_) (fun h32 => ?_)
    · have hf := ip_ hf h32
      refine lv_aload_n hx hb dM_store_31 rfl (lv_at hl 0 rfl) ?_
      obtain ⟨v33, hv33, hf⟩ := ob_ hf
      refine r_geti (i := 7) S hI fcM (Nat.le_of_ble_eq_true rfl) kw_508 dM_store_32 hv33 ?_
      exact bk35 w c0 x1 x2 x3 c0 v33 _ _ _ (lv_sub hl [0, 1, 2, 3] rfl) hI hf
    · have hf := in_ hf h32
      refine lv_aload_n hx hb dM_store_22 rfl (lv_at hl 0 rfl) ?_
      obtain ⟨v34, hv34, hf⟩ := ob_ hf
      refine r_geti (i := 7) S hI fcM (Nat.le_of_ble_eq_true rfl) kw_508 dM_store_23 hv34 ?_
      refine lv_iconst hx hb dM_store_26 kI_1 ?_
      refine lv_isub hx hb dM_store_27 ?_
      refine lv_goto (tgt := 35) hx hb dM_store_28 rfl ?_
      exact bk35 w c0 x1 x2 x3 c0 (v34 - 1) _ _ _ (lv_sub hl [0, 1, 2, 3] rfl) hI hf
  · have hf := ip_ hf h30
    refine lv_aload_n hx hb dM_store_7 rfl (lv_at hl 0 rfl) ?_
    refine lv_iconst hx hb dM_store_8 kI_1 ?_
    obtain ⟨w35, hw35, hf⟩ := ob_ hf
    refine r_put (i := 6) S hI fcM (Nat.le_of_ble_eq_true rfl) kw_507 rfl (narrow_z (Or.inr rfl)) rfl dM_store_9 hw35 (fun H locs hI => ?_)
    refine lv_iconst hx hb dM_store_12 kI_0 ?_
    exact hret _ _ _ _ _ _ hI hf dM_store_13
/-- GuardVolumeModel.storeRow(III)Z -/
abbrev rmM_storeRow : Room := { frames := 3, cells := 0, slots := 0, locals := 72 }
theorem pkM_storeRow : Pk yM_storeRow cM_storeRow 5 (some .boolean) 3 := ⟨kw_616, kw_7, by decide +kernel, by decide +kernel, by decide +kernel⟩
def bM_storeRow_3s (Λ : La) (K3 : Wo → Nat → Int32 → Int32 → Int32 → Int32 → Option (Wo × Int32)) (w : Wo) (c0 : Nat) (x1 : Int32) (x2 : Int32) (x3 : Int32) (x4 : Int32) : Option (Wo × Int32) := if 8 ≤ x4 then ((fM_store Λ w c0 x1 x2 x3).bind fun q2 => zr q2.1 q2.2) else ((gr Λ c0 5 18).bind fun r3 => (gr Λ c0 5 19).bind fun r4 => (ld Λ w r4 x4).bind fun v5 => (st Λ w r3 x4 v5).bind fun w6 => K3 w6 c0 x1 x2 x3 (x4 + 1))
def bM_storeRow_3 (Λ : La) : Nat → Wo → Nat → Int32 → Int32 → Int32 → Int32 → Option (Wo × Int32)
  | 0 => fun _ _ _ _ _ _ => none
  | n + 1 => bM_storeRow_3s Λ (bM_storeRow_3 Λ n)
def fM_storeRow (Λ : La) (w : Wo) (c0 : Nat) (x1 : Int32) (x2 : Int32) (x3 : Int32) : Option (Wo × Int32) := gd (isC Λ c0 5) (bM_storeRow_3 Λ 1000 w c0 x1 x2 x3 0)
set_option maxHeartbeats 4000000 in
set_option maxRecDepth 100000 in
theorem kM_storeRow (l : Launch) (G : va_G) (kA kL : ClassId) (Λ : La) (ad : Nat → Nat) (w : Wo) (c0 : Nat) (x1 : Int32) (x2 : Int32) (x3 : Int32) (w1 : Wo) (r : Int32) (hf : fM_storeRow Λ w c0 x1 x2 x3 = some (w1, r)) : Mi l yM_storeRow cM_storeRow 5 (some .boolean) rmM_storeRow G kA kL Λ ad [.ref (ad c0), .int x1, .int x2, .int x3] w w1 r := by
  refine Mz.of (by decide +kernel) (Nat.le_of_ble_eq_true rfl) ?_
  intro p e s m args below meth c Q ls S hret hl hI
  have S : CallFix p m c cM_storeRow 5 s args (.code yM_storeRow cM_storeRow 5 (some .boolean) :: gW) "GuardVolumeModel" := S
  have hl : lv_has ls 5 [(0, .ref (ad c0)), (1, .int x1), (2, .int x2), (3, .int x3)] := hl
  have hx := S.1
  have hb := S.2.1
  have bk3 : ∀ (K3 : Wo → Nat → Int32 → Int32 → Int32 → Int32 → Option (Wo × Int32)), (∀ (w : Wo) (c0 : Nat) (x1 : Int32) (x2 : Int32) (x3 : Int32) (x4 : Int32) (H : Heap) (locs : List Loc) (ls : Array Slot), lv_has ls 5 [(0, .ref (ad c0)), (1, .int x1), (2, .int x2), (3, .int x3), (4, .int x4)] → Iv (Aa Λ ad) G kA kL Λ ad w s H locs → K3 w c0 x1 x2 x3 x4 = some (w1, r) → W p l e rmM_storeRow s m args below meth c H locs 0 0 Q (F0 m 3 ls [])) → ∀ (w : Wo) (c0 : Nat) (x1 : Int32) (x2 : Int32) (x3 : Int32) (x4 : Int32) (H : Heap) (locs : List Loc) (ls : Array Slot), lv_has ls 5 [(0, .ref (ad c0)), (1, .int x1), (2, .int x2), (3, .int x3), (4, .int x4)] → Iv (Aa Λ ad) G kA kL Λ ad w s H locs → bM_storeRow_3s Λ K3 w c0 x1 x2 x3 x4 = some (w1, r) → W p l e rmM_storeRow s m args below meth c H locs 0 0 Q (F0 m 3 ls []) := by
    intro K3 hK3 w c0 x1 x2 x3 x4 H locs ls hl hI hf
    unfold bM_storeRow_3s at hf
    refine lv_iload hx hb dM_storeRow_3 (lv_at hl 4 rfl) ?_
    refine lv_bipush hx hb dM_storeRow_5 kB_8 ?_
    refine lv_icmp_ge (tgt := 30) hx hb dM_storeRow_7 rfl (fun h1 => ?_) (fun h1 => ?_)
    · have hf := ip_ hf h1
      refine lv_aload_n hx hb dM_storeRow_30 rfl (lv_at hl 0 rfl) ?_
      refine lv_iload_n hx hb dM_storeRow_31 rfl (lv_at hl 1 rfl) ?_
      refine lv_iload_n hx hb dM_storeRow_32 rfl (lv_at hl 2 rfl) ?_
      refine lv_iload_n hx hb dM_storeRow_33 rfl (lv_at hl 3 rfl) ?_
      obtain ⟨q2, hq2, hf⟩ := ob_ hf
      refine r_ci (r_V (rest := []) (As := [.int x1, .int x2, .int x3]) S hl hI (kM_store l G kA kL Λ ad w c0 x1 x2 x3 q2.1 q2.2 hq2) pkM_store kw_619 ks_M_store (fcM).1 (gd_some hq2).1 kw_617 ⟨rfl, rfl⟩ ⟨Nat.le_of_ble_eq_true rfl, Nat.le_of_ble_eq_true rfl⟩ rfl rfl (Nat.le_of_ble_eq_true rfl) ⟨Nat.zero_le _, Nat.zero_le _⟩ dM_storeRow_34) hI (fun H locs hI => ?_)
      exact hret _ _ _ _ _ _ hI hf dM_storeRow_37
    · have hf := in_ hf h1
      refine lv_aload_n hx hb dM_storeRow_10 rfl (lv_at hl 0 rfl) ?_
      obtain ⟨r3, hr3, hf⟩ := ob_ hf
      refine r_getr (i := 18) S hI fcM (Nat.le_of_ble_eq_true rfl) kw_519 dM_storeRow_11 hr3 ?_
      refine lv_iload hx hb dM_storeRow_14 (lv_at hl 4 rfl) ?_
      refine lv_aload_n hx hb dM_storeRow_16 rfl (lv_at hl 0 rfl) ?_
      obtain ⟨r4, hr4, hf⟩ := ob_ hf
      refine r_getr (i := 19) S hI fcM (Nat.le_of_ble_eq_true rfl) kw_520 dM_storeRow_17 hr4 ?_
      refine lv_iload hx hb dM_storeRow_20 (lv_at hl 4 rfl) ?_
      obtain ⟨v5, hv5, hf⟩ := ob_ hf
      refine r_ald S hI dM_storeRow_22 hv5 ?_
      obtain ⟨w6, hw6, hf⟩ := ob_ hf
      refine r_ast S hI dM_storeRow_23 hw6 (fun H locs hI => ?_)
      refine lv_iinc hx hb (lv' := [(4, .int (x4 + 1)), (0, .ref (ad c0)), (1, .int x1), (2, .int x2), (3, .int x3)]) (k := 4) dM_storeRow_24 hl rfl (kN_1 _) (Nat.le_of_ble_eq_true rfl) rfl (fun ls hl => ?_)
      refine lv_goto (tgt := 3) hx hb dM_storeRow_27 rfl ?_
      exact hK3 w6 c0 x1 x2 x3 (x4 + 1) _ _ _ (lv_sub hl [1, 2, 3, 4, 0] rfl) hI hf
  have lp3 : ∀ (n : Nat), ∀ (w : Wo) (c0 : Nat) (x1 : Int32) (x2 : Int32) (x3 : Int32) (x4 : Int32) (H : Heap) (locs : List Loc) (ls : Array Slot), lv_has ls 5 [(0, .ref (ad c0)), (1, .int x1), (2, .int x2), (3, .int x3), (4, .int x4)] → Iv (Aa Λ ad) G kA kL Λ ad w s H locs → bM_storeRow_3 Λ n w c0 x1 x2 x3 x4 = some (w1, r) → W p l e rmM_storeRow s m args below meth c H locs 0 0 Q (F0 m 3 ls []) := by
    intro n
    induction n with
    | zero =>
      intro w c0 x1 x2 x3 x4 H locs ls hl hI hf
      have hf : (none : Option (Wo × Int32)) = some (w1, r) := hf
      cases hf
    | succ n ih =>
      intro w c0 x1 x2 x3 x4 H locs ls hl hI hf
      exact bk3 (bM_storeRow_3 Λ n) ih w c0 x1 x2 x3 x4 H locs ls hl hI hf
  unfold fM_storeRow at hf
  have hf := (gd_some hf).2
  refine lv_iconst hx hb dM_storeRow_0 kI_0 ?_
  refine lv_istore hx hb (lv' := [(4, .int 0), (0, .ref (ad c0)), (1, .int x1), (2, .int x2), (3, .int x3)]) dM_storeRow_1 hl (Nat.le_of_ble_eq_true rfl) rfl (fun ls hl => ?_)
  exact lp3 1000 w c0 x1 x2 x3 0 _ _ _ (lv_sub hl [1, 2, 3, 4, 0] rfl) hI hf
/-- GuardVolumeModel.storeList(III)Z -/
abbrev rmM_storeList : Room := { frames := 4, cells := 0, slots := 0, locals := 90 }
theorem pkM_storeList : Pk yM_storeList cM_storeList 9 (some .boolean) 3 := ⟨kw_636, kw_7, by decide +kernel, by decide +kernel, by decide +kernel⟩
def bM_storeList_98 (Λ : La) (K33 : Wo → Nat → Int32 → Int32 → Int32 → Int32 → Int32 → Int32 → Int32 → Int32 → Option (Wo × Int32)) (w : Wo) (c0 : Nat) (x1 : Int32) (x2 : Int32) (x3 : Int32) (x4 : Int32) (x5 : Int32) (x6 : Int32) (x7 : Int32) (x8 : Int32) (t0 : Nat) (s1 : Int32) (s2 : Int32) : Option (Wo × Int32) := (st Λ w t0 s1 s2).bind fun w1 => K33 w1 c0 x1 x2 x3 x4 x5 x6 x7 (x8 + 1)
def bM_storeList_33s (Λ : La) (K33 : Wo → Nat → Int32 → Int32 → Int32 → Int32 → Int32 → Int32 → Int32 → Int32 → Option (Wo × Int32)) (w : Wo) (c0 : Nat) (x1 : Int32) (x2 : Int32) (x3 : Int32) (x4 : Int32) (x5 : Int32) (x6 : Int32) (x7 : Int32) (x8 : Int32) : Option (Wo × Int32) := if 8 ≤ x8 then ((gr Λ c0 5 18).bind fun r3 => (st Λ w r3 (x2 - x2 / 8 * 8) x3).bind fun w4 => (gr Λ c0 5 2).bind fun r5 => (ld Λ w4 r5 ((8 * x5) + x4)).bind fun v6 => (fM_store Λ w4 c0 x5 (64 + x4) (v6 + 1)).bind fun q7 => if q7.2 = 0 then (zr q7.1 0) else ((gr Λ c0 5 2).bind fun r9 => (st Λ q7.1 r9 ((8 * x5) + x4) (v6 + 1)).bind fun w10 => zr w10 1)) else ((gr Λ c0 5 18).bind fun r11 => if x6 = 0 then (if x7 = 0 then (bM_storeList_98 Λ K33 w c0 x1 x2 x3 x4 x5 x6 x7 x8 r11 x8 0) else ((gr Λ c0 5 1).bind fun r14 => (fM_place Λ w x1 (64 + x4)).bind fun q15 => (ld Λ q15.1 r14 (q15.2 + x8)).bind fun v16 => bM_storeList_98 Λ K33 q15.1 c0 x1 x2 x3 x4 x5 x6 x7 x8 r11 x8 v16)) else ((gr Λ c0 5 1).bind fun r17 => (fM_place Λ w x5 (64 + x4)).bind fun q18 => (ld Λ q18.1 r17 (q18.2 + x8)).bind fun v19 => bM_storeList_98 Λ K33 q18.1 c0 x1 x2 x3 x4 x5 x6 x7 x8 r11 x8 v19))
def bM_storeList_33 (Λ : La) : Nat → Wo → Nat → Int32 → Int32 → Int32 → Int32 → Int32 → Int32 → Int32 → Int32 → Option (Wo × Int32)
  | 0 => fun _ _ _ _ _ _ _ _ _ _ => none
  | n + 1 => bM_storeList_33s Λ (bM_storeList_33 Λ n)
def fM_storeList (Λ : La) (w : Wo) (c0 : Nat) (x1 : Int32) (x2 : Int32) (x3 : Int32) : Option (Wo × Int32) := gd (isC Λ c0 5) ((fM_isRightPage Λ w c0 (1 - x1) (x2 / 8)).bind fun q20 => (fM_isRightPage Λ q20.1 c0 x1 (x2 / 8)).bind fun q21 => bM_storeList_33 Λ 1000 q21.1 c0 x1 x2 x3 (x2 / 8) (1 - x1) q20.2 q21.2 0)
set_option maxHeartbeats 4000000 in
set_option maxRecDepth 100000 in
theorem kM_storeList (l : Launch) (G : va_G) (kA kL : ClassId) (Λ : La) (ad : Nat → Nat) (w : Wo) (c0 : Nat) (x1 : Int32) (x2 : Int32) (x3 : Int32) (w1 : Wo) (r : Int32) (hf : fM_storeList Λ w c0 x1 x2 x3 = some (w1, r)) : Mi l yM_storeList cM_storeList 9 (some .boolean) rmM_storeList G kA kL Λ ad [.ref (ad c0), .int x1, .int x2, .int x3] w w1 r := by
  refine Mz.of (by decide +kernel) (Nat.le_of_ble_eq_true rfl) ?_
  intro p e s m args below meth c Q ls S hret hl hI
  have S : CallFix p m c cM_storeList 9 s args (.code yM_storeList cM_storeList 9 (some .boolean) :: gW) "GuardVolumeModel" := S
  have hl : lv_has ls 9 [(0, .ref (ad c0)), (1, .int x1), (2, .int x2), (3, .int x3)] := hl
  have hx := S.1
  have hb := S.2.1
  have bk98 : ∀ (K33 : Wo → Nat → Int32 → Int32 → Int32 → Int32 → Int32 → Int32 → Int32 → Int32 → Option (Wo × Int32)), (∀ (w : Wo) (c0 : Nat) (x1 : Int32) (x2 : Int32) (x3 : Int32) (x4 : Int32) (x5 : Int32) (x6 : Int32) (x7 : Int32) (x8 : Int32) (H : Heap) (locs : List Loc) (ls : Array Slot), lv_has ls 9 [(0, .ref (ad c0)), (1, .int x1), (2, .int x2), (3, .int x3), (4, .int x4), (5, .int x5), (6, .int x6), (7, .int x7), (8, .int x8)] → Iv (Aa Λ ad) G kA kL Λ ad w s H locs → K33 w c0 x1 x2 x3 x4 x5 x6 x7 x8 = some (w1, r) → W p l e rmM_storeList s m args below meth c H locs 0 0 Q (F0 m 33 ls [])) → ∀ (w : Wo) (c0 : Nat) (x1 : Int32) (x2 : Int32) (x3 : Int32) (x4 : Int32) (x5 : Int32) (x6 : Int32) (x7 : Int32) (x8 : Int32) (t0 : Nat) (s1 : Int32) (s2 : Int32) (H : Heap) (locs : List Loc) (ls : Array Slot), lv_has ls 9 [(0, .ref (ad c0)), (1, .int x1), (2, .int x2), (3, .int x3), (4, .int x4), (5, .int x5), (6, .int x6), (7, .int x7), (8, .int x8)] → Iv (Aa Λ ad) G kA kL Λ ad w s H locs → bM_storeList_98 Λ K33 w c0 x1 x2 x3 x4 x5 x6 x7 x8 t0 s1 s2 = some (w1, r) → W p l e rmM_storeList s m args below meth c H locs 0 0 Q (F0 m 98 ls [.int s2, .int s1, .ref (ad t0)]) := by
    intro K33 hK33 w c0 x1 x2 x3 x4 x5 x6 x7 x8 t0 s1 s2 H locs ls hl hI hf
    unfold bM_storeList_98 at hf
    obtain ⟨w1, hw1, hf⟩ := ob_ hf
    refine r_ast S hI dM_storeList_98 hw1 (fun H locs hI => ?_)
    refine lv_iinc hx hb (lv' := [(8, .int (x8 + 1)), (0, .ref (ad c0)), (1, .int x1), (2, .int x2), (3, .int x3), (4, .int x4), (5, .int x5), (6, .int x6), (7, .int x7)]) (k := 8) dM_storeList_99 hl rfl (kN_1 _) (Nat.le_of_ble_eq_true rfl) rfl (fun ls hl => ?_)
    refine lv_goto (tgt := 33) hx hb dM_storeList_102 rfl ?_
    exact hK33 w1 c0 x1 x2 x3 x4 x5 x6 x7 (x8 + 1) _ _ _ (lv_sub hl [1, 2, 3, 4, 5, 6, 7, 8, 0] rfl) hI hf
  have bk33 : ∀ (K33 : Wo → Nat → Int32 → Int32 → Int32 → Int32 → Int32 → Int32 → Int32 → Int32 → Option (Wo × Int32)), (∀ (w : Wo) (c0 : Nat) (x1 : Int32) (x2 : Int32) (x3 : Int32) (x4 : Int32) (x5 : Int32) (x6 : Int32) (x7 : Int32) (x8 : Int32) (H : Heap) (locs : List Loc) (ls : Array Slot), lv_has ls 9 [(0, .ref (ad c0)), (1, .int x1), (2, .int x2), (3, .int x3), (4, .int x4), (5, .int x5), (6, .int x6), (7, .int x7), (8, .int x8)] → Iv (Aa Λ ad) G kA kL Λ ad w s H locs → K33 w c0 x1 x2 x3 x4 x5 x6 x7 x8 = some (w1, r) → W p l e rmM_storeList s m args below meth c H locs 0 0 Q (F0 m 33 ls [])) → ∀ (w : Wo) (c0 : Nat) (x1 : Int32) (x2 : Int32) (x3 : Int32) (x4 : Int32) (x5 : Int32) (x6 : Int32) (x7 : Int32) (x8 : Int32) (H : Heap) (locs : List Loc) (ls : Array Slot), lv_has ls 9 [(0, .ref (ad c0)), (1, .int x1), (2, .int x2), (3, .int x3), (4, .int x4), (5, .int x5), (6, .int x6), (7, .int x7), (8, .int x8)] → Iv (Aa Λ ad) G kA kL Λ ad w s H locs → bM_storeList_33s Λ K33 w c0 x1 x2 x3 x4 x5 x6 x7 x8 = some (w1, r) → W p l e rmM_storeList s m args below meth c H locs 0 0 Q (F0 m 33 ls []) := by
    intro K33 hK33 w c0 x1 x2 x3 x4 x5 x6 x7 x8 H locs ls hl hI hf
    unfold bM_storeList_33s at hf
    refine lv_iload hx hb dM_storeList_33 (lv_at hl 8 rfl) ?_
    refine lv_bipush hx hb dM_storeList_35 kB_8 ?_
    refine lv_icmp_ge (tgt := 105) hx hb dM_storeList_37 rfl (fun h2 => ?_) (fun h2 => ?_)
    · have hf := ip_ hf h2
      refine lv_aload_n hx hb dM_storeList_105 rfl (lv_at hl 0 rfl) ?_
      obtain ⟨r3, hr3, hf⟩ := ob_ hf
      refine r_getr (i := 18) S hI fcM (Nat.le_of_ble_eq_true rfl) kw_519 dM_storeList_106 hr3 ?_
      refine lv_iload_n hx hb dM_storeList_109 rfl (lv_at hl 2 rfl) ?_
      refine lv_bipush hx hb dM_storeList_110 kB_8 ?_
      refine lv_irem hx hb dM_storeList_112 (by decide +kernel) ?_
      refine lv_iload_n hx hb dM_storeList_113 rfl (lv_at hl 3 rfl) ?_
      obtain ⟨w4, hw4, hf⟩ := ob_ hf
      refine r_ast S hI dM_storeList_114 hw4 (fun H locs hI => ?_)
      refine lv_aload_n hx hb dM_storeList_115 rfl (lv_at hl 0 rfl) ?_
      obtain ⟨r5, hr5, hf⟩ := ob_ hf
      refine r_getr (i := 2) S hI fcM (Nat.le_of_ble_eq_true rfl) kw_503 dM_storeList_116 hr5 ?_
      refine lv_bipush hx hb dM_storeList_119 kB_8 ?_
      refine lv_iload hx hb dM_storeList_121 (lv_at hl 5 rfl) ?_
      refine lv_imul hx hb dM_storeList_123 ?_
      refine lv_iload hx hb dM_storeList_124 (lv_at hl 4 rfl) ?_
      refine lv_iadd hx hb dM_storeList_126 ?_
      obtain ⟨v6, hv6, hf⟩ := ob_ hf
      refine r_ald S hI dM_storeList_127 hv6 ?_
      refine lv_iconst hx hb dM_storeList_128 kI_1 ?_
      refine lv_iadd hx hb dM_storeList_129 ?_
      refine lv_istore hx hb (lv' := [(8, .int (v6 + 1)), (0, .ref (ad c0)), (1, .int x1), (2, .int x2), (3, .int x3), (4, .int x4), (5, .int x5), (6, .int x6), (7, .int x7)]) dM_storeList_130 hl (Nat.le_of_ble_eq_true rfl) rfl (fun ls hl => ?_)
      refine lv_aload_n hx hb dM_storeList_132 rfl (lv_at hl 1 rfl) ?_
      refine lv_iload hx hb dM_storeList_133 (lv_at hl 6 rfl) ?_
      refine lv_bipush hx hb dM_storeList_135 kB_64 ?_
      refine lv_iload hx hb dM_storeList_137 (lv_at hl 5 rfl) ?_
      refine lv_iadd hx hb dM_storeList_139 ?_
      refine W.eq (g2 := F0 m 140 ls _) rfl ?_
      refine lv_iload hx hb dM_storeList_140 (lv_at hl 0 rfl) ?_
      obtain ⟨q7, hq7, hf⟩ := ob_ hf
      refine r_ci (r_V (rest := []) (As := [.int x5, .int (64 + x4), .int (v6 + 1)]) S hl hI (kM_store l G kA kL Λ ad w4 c0 x5 (64 + x4) (v6 + 1) q7.1 q7.2 hq7) pkM_store kw_619 ks_M_store (fcM).1 (gd_some hq7).1 kw_617 ⟨rfl, rfl⟩ ⟨Nat.le_of_ble_eq_true rfl, Nat.le_of_ble_eq_true rfl⟩ rfl rfl (Nat.le_of_ble_eq_true rfl) ⟨Nat.zero_le _, Nat.zero_le _⟩ dM_storeList_142) hI (fun H locs hI => ?_)
      refine lv_if_ne (tgt := 150) hx hb dM_storeList_145 rfl (fun h8 => ?_) (fun h8 => ?_)
      · have hf := in_ hf h8
        refine lv_aload_n hx hb dM_storeList_150 rfl (lv_at hl 1 rfl) ?_
        obtain ⟨r9, hr9, hf⟩ := ob_ hf
        refine r_getr (i := 2) S hI fcM (Nat.le_of_ble_eq_true rfl) kw_503 dM_storeList_151 hr9 ?_
        refine lv_bipush hx hb dM_storeList_154 kB_8 ?_
        refine lv_iload hx hb dM_storeList_156 (lv_at hl 6 rfl) ?_
        refine lv_imul hx hb dM_storeList_158 ?_
        refine lv_iload hx hb dM_storeList_159 (lv_at hl 5 rfl) ?_
        refine lv_iadd hx hb dM_storeList_161 ?_
        refine lv_iload hx hb dM_storeList_162 (lv_at hl 0 rfl) ?_
        obtain ⟨w10, hw10, hf⟩ := ob_ hf
        refine r_ast S hI dM_storeList_164 hw10 (fun H locs hI => ?_)
        refine lv_iconst hx hb dM_storeList_165 kI_1 ?_
        exact hret _ _ _ _ _ _ hI hf dM_storeList_166
      · have hf := ip_ hf h8
        refine lv_iconst hx hb dM_storeList_148 kI_0 ?_
        exact hret _ _ _ _ _ _ hI hf dM_storeList_149
    · have hf := in_ hf h2
      refine lv_aload_n hx hb dM_storeList_40 rfl (lv_at hl 0 rfl) ?_
      obtain ⟨r11, hr11, hf⟩ := ob_ hf
      refine r_getr (i := 18) S hI fcM (Nat.le_of_ble_eq_true rfl) kw_519 dM_storeList_41 hr11 ?_
      refine lv_iload hx hb dM_storeList_44 (lv_at hl 8 rfl) ?_
      refine lv_iload hx hb dM_storeList_46 (lv_at hl 6 rfl) ?_
      refine lv_if_eq (tgt := 72) hx hb dM_storeList_48 rfl (fun h12 => ?_) (fun h12 => ?_)
      · have hf := ip_ hf h12
        refine lv_iload hx hb dM_storeList_72 (lv_at hl 7 rfl) ?_
        refine lv_if_eq (tgt := 97) hx hb dM_storeList_74 rfl (fun h13 => ?_) (fun h13 => ?_)
        · have hf := ip_ hf h13
          refine lv_iconst hx hb dM_storeList_97 kI_0 ?_
          exact bk98 K33 hK33 w c0 x1 x2 x3 x4 x5 x6 x7 x8 r11 x8 0 _ _ _ (lv_sub hl [0, 1, 2, 3, 4, 5, 6, 7, 8] rfl) hI hf
        · have hf := in_ hf h13
          refine lv_aload_n hx hb dM_storeList_77 rfl (lv_at hl 0 rfl) ?_
          obtain ⟨r14, hr14, hf⟩ := ob_ hf
          refine r_getr (i := 1) S hI fcM (Nat.le_of_ble_eq_true rfl) kw_502 dM_storeList_78 hr14 ?_
          refine lv_iload_n hx hb dM_storeList_81 rfl (lv_at hl 1 rfl) ?_
          refine lv_bipush hx hb dM_storeList_82 kB_64 ?_
          refine lv_iload hx hb dM_storeList_84 (lv_at hl 4 rfl) ?_
          refine lv_iadd hx hb dM_storeList_86 ?_
          obtain ⟨q15, hq15, hf⟩ := ob_ hf
          refine r_ci (r_S (rest := [.ref (ad r14), .int x8, .ref (ad r11)]) (As := [.int x1, .int (64 + x4)]) S hl hI (kM_place l G kA kL Λ ad w x1 (64 + x4) q15.1 q15.2 hq15) pkM_place kw_492 kw_491 ⟨rfl, rfl⟩ ⟨Nat.le_of_ble_eq_true rfl, Nat.le_of_ble_eq_true rfl⟩ rfl rfl (Nat.le_of_ble_eq_true rfl) ⟨Nat.zero_le _, Nat.zero_le _⟩ dM_storeList_87) hI (fun H locs hI => ?_)
          refine lv_iload hx hb dM_storeList_90 (lv_at hl 8 rfl) ?_
          refine lv_iadd hx hb dM_storeList_92 ?_
          obtain ⟨v16, hv16, hf⟩ := ob_ hf
          refine r_ald S hI dM_storeList_93 hv16 ?_
          refine lv_goto (tgt := 98) hx hb dM_storeList_94 rfl ?_
          exact bk98 K33 hK33 q15.1 c0 x1 x2 x3 x4 x5 x6 x7 x8 r11 x8 v16 _ _ _ (lv_sub hl [0, 1, 2, 3, 4, 5, 6, 7, 8] rfl) hI hf
      · have hf := in_ hf h12
        refine lv_aload_n hx hb dM_storeList_51 rfl (lv_at hl 0 rfl) ?_
        obtain ⟨r17, hr17, hf⟩ := ob_ hf
        refine r_getr (i := 1) S hI fcM (Nat.le_of_ble_eq_true rfl) kw_502 dM_storeList_52 hr17 ?_
        refine lv_iload hx hb dM_storeList_55 (lv_at hl 5 rfl) ?_
        refine lv_bipush hx hb dM_storeList_57 kB_64 ?_
        refine lv_iload hx hb dM_storeList_59 (lv_at hl 4 rfl) ?_
        refine lv_iadd hx hb dM_storeList_61 ?_
        obtain ⟨q18, hq18, hf⟩ := ob_ hf
        refine r_ci (r_S (rest := [.ref (ad r17), .int x8, .ref (ad r11)]) (As := [.int x5, .int (64 + x4)]) S hl hI (kM_place l G kA kL Λ ad w x5 (64 + x4) q18.1 q18.2 hq18) pkM_place kw_492 kw_491 ⟨rfl, rfl⟩ ⟨Nat.le_of_ble_eq_true rfl, Nat.le_of_ble_eq_true rfl⟩ rfl rfl (Nat.le_of_ble_eq_true rfl) ⟨Nat.zero_le _, Nat.zero_le _⟩ dM_storeList_62) hI (fun H locs hI => ?_)
        refine lv_iload hx hb dM_storeList_65 (lv_at hl 8 rfl) ?_
        refine lv_iadd hx hb dM_storeList_67 ?_
        obtain ⟨v19, hv19, hf⟩ := ob_ hf
        refine r_ald S hI dM_storeList_68 hv19 ?_
        refine lv_goto (tgt := 98) hx hb dM_storeList_69 rfl ?_
        exact bk98 K33 hK33 q18.1 c0 x1 x2 x3 x4 x5 x6 x7 x8 r11 x8 v19 _ _ _ (lv_sub hl [0, 1, 2, 3, 4, 5, 6, 7, 8] rfl) hI hf
  have lp33 : ∀ (n : Nat), ∀ (w : Wo) (c0 : Nat) (x1 : Int32) (x2 : Int32) (x3 : Int32) (x4 : Int32) (x5 : Int32) (x6 : Int32) (x7 : Int32) (x8 : Int32) (H : Heap) (locs : List Loc) (ls : Array Slot), lv_has ls 9 [(0, .ref (ad c0)), (1, .int x1), (2, .int x2), (3, .int x3), (4, .int x4), (5, .int x5), (6, .int x6), (7, .int x7), (8, .int x8)] → Iv (Aa Λ ad) G kA kL Λ ad w s H locs → bM_storeList_33 Λ n w c0 x1 x2 x3 x4 x5 x6 x7 x8 = some (w1, r) → W p l e rmM_storeList s m args below meth c H locs 0 0 Q (F0 m 33 ls []) := by
    intro n
    induction n with
    | zero =>
      intro w c0 x1 x2 x3 x4 x5 x6 x7 x8 H locs ls hl hI hf
      have hf : (none : Option (Wo × Int32)) = some (w1, r) := hf
      cases hf
    | succ n ih =>
      intro w c0 x1 x2 x3 x4 x5 x6 x7 x8 H locs ls hl hI hf
      exact bk33 (bM_storeList_33 Λ n) ih w c0 x1 x2 x3 x4 x5 x6 x7 x8 H locs ls hl hI hf
  unfold fM_storeList at hf
  have hf := (gd_some hf).2
  refine lv_iload_n hx hb dM_storeList_0 rfl (lv_at hl 2 rfl) ?_
  refine lv_bipush hx hb dM_storeList_1 kB_8 ?_
  refine lv_idiv hx hb dM_storeList_3 (by decide +kernel) ?_
  refine lv_istore hx hb (lv' := [(4, .int (x2 / 8)), (0, .ref (ad c0)), (1, .int x1), (2, .int x2), (3, .int x3)]) dM_storeList_4 hl (Nat.le_of_ble_eq_true rfl) rfl (fun ls hl => ?_)
  refine lv_iconst hx hb dM_storeList_6 kI_1 ?_
  refine lv_iload_n hx hb dM_storeList_7 rfl (lv_at hl 2 rfl) ?_
  refine lv_isub hx hb dM_storeList_8 ?_
  refine lv_istore hx hb (lv' := [(5, .int (1 - x1)), (4, .int (x2 / 8)), (0, .ref (ad c0)), (1, .int x1), (2, .int x2), (3, .int x3)]) dM_storeList_9 hl (Nat.le_of_ble_eq_true rfl) rfl (fun ls hl => ?_)
  refine W.eq (g2 := F0 m 11 ls _) rfl ?_
  refine lv_aload_n hx hb dM_storeList_11 rfl (lv_at hl 2 rfl) ?_
  refine lv_iload hx hb dM_storeList_12 (lv_at hl 0 rfl) ?_
  refine lv_iload hx hb dM_storeList_14 (lv_at hl 1 rfl) ?_
  obtain ⟨q20, hq20, hf⟩ := ob_ hf
  refine r_ci (r_V (rest := []) (As := [.int (1 - x1), .int (x2 / 8)]) S hl hI (kM_isRightPage l G kA kL Λ ad w c0 (1 - x1) (x2 / 8) q20.1 q20.2 hq20) pkM_isRightPage kw_591 ks_M_isRightPage (fcM).1 (gd_some hq20).1 kw_589 ⟨rfl, rfl⟩ ⟨Nat.le_of_ble_eq_true rfl, Nat.le_of_ble_eq_true rfl⟩ rfl rfl (Nat.le_of_ble_eq_true rfl) ⟨Nat.zero_le _, Nat.zero_le _⟩ dM_storeList_16) hI (fun H locs hI => ?_)
  refine lv_istore hx hb (lv' := [(6, .int q20.2), (5, .int (1 - x1)), (4, .int (x2 / 8)), (0, .ref (ad c0)), (1, .int x1), (2, .int x2), (3, .int x3)]) dM_storeList_19 hl (Nat.le_of_ble_eq_true rfl) rfl (fun ls hl => ?_)
  refine lv_aload_n hx hb dM_storeList_21 rfl (lv_at hl 3 rfl) ?_
  refine lv_iload_n hx hb dM_storeList_22 rfl (lv_at hl 4 rfl) ?_
  refine lv_iload hx hb dM_storeList_23 (lv_at hl 2 rfl) ?_
  obtain ⟨q21, hq21, hf⟩ := ob_ hf
  refine r_ci (r_V (rest := []) (As := [.int x1, .int (x2 / 8)]) S hl hI (kM_isRightPage l G kA kL Λ ad q20.1 c0 x1 (x2 / 8) q21.1 q21.2 hq21) pkM_isRightPage kw_591 ks_M_isRightPage (fcM).1 (gd_some hq21).1 kw_589 ⟨rfl, rfl⟩ ⟨Nat.le_of_ble_eq_true rfl, Nat.le_of_ble_eq_true rfl⟩ rfl rfl (Nat.le_of_ble_eq_true rfl) ⟨Nat.zero_le _, Nat.zero_le _⟩ dM_storeList_25) hI (fun H locs hI => ?_)
  refine lv_istore hx hb (lv' := [(7, .int q21.2), (6, .int q20.2), (5, .int (1 - x1)), (4, .int (x2 / 8)), (0, .ref (ad c0)), (1, .int x1), (2, .int x2), (3, .int x3)]) dM_storeList_28 hl (Nat.le_of_ble_eq_true rfl) rfl (fun ls hl => ?_)
  refine lv_iconst hx hb dM_storeList_30 kI_0 ?_
  refine lv_istore hx hb (lv' := [(8, .int 0), (7, .int q21.2), (6, .int q20.2), (5, .int (1 - x1)), (4, .int (x2 / 8)), (0, .ref (ad c0)), (1, .int x1), (2, .int x2), (3, .int x3)]) dM_storeList_31 hl (Nat.le_of_ble_eq_true rfl) rfl (fun ls hl => ?_)
  exact lp33 1000 q21.1 c0 x1 x2 x3 (x2 / 8) (1 - x1) q20.2 q21.2 0 _ _ _ (lv_sub hl [5, 6, 7, 8, 4, 3, 2, 1, 0] rfl) hI hf
/-- GuardVolumeModel.putCopy(III)Z -/
abbrev rmM_putCopy : Room := { frames := 5, cells := 0, slots := 0, locals := 118 }
theorem pkM_putCopy : Pk yM_putCopy cM_putCopy 4 (some .boolean) 3 := ⟨kw_612, kw_7, by decide +kernel, by decide +kernel, by decide +kernel⟩
def fM_putCopy (Λ : La) (w : Wo) (c0 : Nat) (x1 : Int32) (x2 : Int32) (x3 : Int32) : Option (Wo × Int32) := gd (isC Λ c0 5) ((fM_storeRow Λ w c0 x1 x2 x3).bind fun q1 => if q1.2 = 0 then (zr q1.1 0) else ((fM_storeList Λ q1.1 c0 x1 x2 x3).bind fun q3 => if q3.2 = 0 then (zr q3.1 0) else (zr q3.1 1)))
set_option maxHeartbeats 4000000 in
set_option maxRecDepth 100000 in
theorem kM_putCopy (l : Launch) (G : va_G) (kA kL : ClassId) (Λ : La) (ad : Nat → Nat) (w : Wo) (c0 : Nat) (x1 : Int32) (x2 : Int32) (x3 : Int32) (w1 : Wo) (r : Int32) (hf : fM_putCopy Λ w c0 x1 x2 x3 = some (w1, r)) : Mi l yM_putCopy cM_putCopy 4 (some .boolean) rmM_putCopy G kA kL Λ ad [.ref (ad c0), .int x1, .int x2, .int x3] w w1 r := by
  refine Mz.of (by decide +kernel) (Nat.le_of_ble_eq_true rfl) ?_
  intro p e s m args below meth c Q ls S hret hl hI
  have S : CallFix p m c cM_putCopy 4 s args (.code yM_putCopy cM_putCopy 4 (some .boolean) :: gW) "GuardVolumeModel" := S
  have hl : lv_has ls 4 [(0, .ref (ad c0)), (1, .int x1), (2, .int x2), (3, .int x3)] := hl
  have hx := S.1
  have hb := S.2.1
  unfold fM_putCopy at hf
  have hf := (gd_some hf).2
  refine lv_aload_n hx hb dM_putCopy_0 rfl (lv_at hl 0 rfl) ?_
  refine lv_iload_n hx hb dM_putCopy_1 rfl (lv_at hl 1 rfl) ?_
  refine lv_iload_n hx hb dM_putCopy_2 rfl (lv_at hl 2 rfl) ?_
  refine lv_iload_n hx hb dM_putCopy_3 rfl (lv_at hl 3 rfl) ?_
  obtain ⟨q1, hq1, hf⟩ := ob_ hf
  refine r_ci (r_V (rest := []) (As := [.int x1, .int x2, .int x3]) S hl hI (kM_storeRow l G kA kL Λ ad w c0 x1 x2 x3 q1.1 q1.2 hq1) pkM_storeRow kw_615 ks_M_storeRow (fcM).1 (gd_some hq1).1 kw_613 ⟨rfl, rfl⟩ ⟨Nat.le_of_ble_eq_true rfl, Nat.le_of_ble_eq_true rfl⟩ rfl rfl (Nat.le_of_ble_eq_true rfl) ⟨Nat.zero_le _, Nat.zero_le _⟩ dM_putCopy_4) hI (fun H locs hI => ?_)
  refine lv_if_eq (tgt := 24) hx hb dM_putCopy_7 rfl (fun h2 => ?_) (fun h2 => ?_)
  · have hf := ip_ hf h2
    refine lv_iconst hx hb dM_putCopy_24 kI_0 ?_
    exact hret _ _ _ _ _ _ hI hf dM_putCopy_25
  · have hf := in_ hf h2
    refine lv_aload_n hx hb dM_putCopy_10 rfl (lv_at hl 0 rfl) ?_
    refine lv_iload_n hx hb dM_putCopy_11 rfl (lv_at hl 1 rfl) ?_
    refine lv_iload_n hx hb dM_putCopy_12 rfl (lv_at hl 2 rfl) ?_
    refine lv_iload_n hx hb dM_putCopy_13 rfl (lv_at hl 3 rfl) ?_
    obtain ⟨q3, hq3, hf⟩ := ob_ hf
    refine r_ci (r_V (rest := []) (As := [.int x1, .int x2, .int x3]) S hl hI (kM_storeList l G kA kL Λ ad q1.1 c0 x1 x2 x3 q3.1 q3.2 hq3) pkM_storeList kw_635 ks_M_storeList (fcM).1 (gd_some hq3).1 kw_633 ⟨rfl, rfl⟩ ⟨Nat.le_of_ble_eq_true rfl, Nat.le_of_ble_eq_true rfl⟩ rfl rfl (Nat.le_of_ble_eq_true rfl) ⟨Nat.zero_le _, Nat.zero_le _⟩ dM_putCopy_14) hI (fun H locs hI => ?_)
    refine lv_if_eq (tgt := 24) hx hb dM_putCopy_17 rfl (fun h4 => ?_) (fun h4 => ?_)
    · have hf := ip_ hf h4
      refine lv_iconst hx hb dM_putCopy_24 kI_0 ?_
      exact hret _ _ _ _ _ _ hI hf dM_putCopy_25
    · have hf := in_ hf h4
      refine lv_iconst hx hb dM_putCopy_20 kI_1 ?_
      refine lv_goto (tgt := 25) hx hb dM_putCopy_21 rfl ?_
      exact hret _ _ _ _ _ _ hI hf dM_putCopy_25
/-- GuardVolumeModel.put(II)Z -/
abbrev rmM_put : Room := { frames := 6, cells := 0, slots := 0, locals := 141 }
theorem pkM_put : Pk yM_put cM_put 4 (some .boolean) 2 := ⟨kw_608, kw_7, by decide +kernel, by decide +kernel, by decide +kernel⟩
def bM_put_12s (Λ : La) (K12 : Wo → Nat → Int32 → Int32 → Int32 → Option (Wo × Int32)) (w : Wo) (c0 : Nat) (x1 : Int32) (x2 : Int32) (x3 : Int32) : Option (Wo × Int32) := if 8 ≤ x3 then ((fM_putCopy Λ w c0 0 x1 x2).bind fun q2 => if q2.2 = 0 then (zr q2.1 0) else ((fM_putCopy Λ q2.1 c0 1 x1 x2).bind fun q4 => if q4.2 = 0 then (zr q4.1 0) else ((pf Λ q4.1 c0 5 3 (-1)).bind fun w6 => zr w6 1))) else ((gr Λ c0 5 4).bind fun r7 => (gr Λ c0 5 19).bind fun r8 => (ld Λ w r8 x3).bind fun v9 => (st Λ w r7 x3 v9).bind fun w10 => K12 w10 c0 x1 x2 (x3 + 1))
def bM_put_12 (Λ : La) : Nat → Wo → Nat → Int32 → Int32 → Int32 → Option (Wo × Int32)
  | 0 => fun _ _ _ _ _ => none
  | n + 1 => bM_put_12s Λ (bM_put_12 Λ n)
def fM_put (Λ : La) (w : Wo) (c0 : Nat) (x1 : Int32) (x2 : Int32) : Option (Wo × Int32) := gd (isC Λ c0 5) ((pf Λ w c0 5 3 x1).bind fun w11 => (pf Λ w11 c0 5 5 x2).bind fun w12 => bM_put_12 Λ 1000 w12 c0 x1 x2 0)
set_option maxHeartbeats 4000000 in
set_option maxRecDepth 100000 in
theorem kM_put (l : Launch) (G : va_G) (kA kL : ClassId) (Λ : La) (ad : Nat → Nat) (w : Wo) (c0 : Nat) (x1 : Int32) (x2 : Int32) (w1 : Wo) (r : Int32) (hf : fM_put Λ w c0 x1 x2 = some (w1, r)) : Mi l yM_put cM_put 4 (some .boolean) rmM_put G kA kL Λ ad [.ref (ad c0), .int x1, .int x2] w w1 r := by
  refine Mz.of (by decide +kernel) (Nat.le_of_ble_eq_true rfl) ?_
  intro p e s m args below meth c Q ls S hret hl hI
  have S : CallFix p m c cM_put 4 s args (.code yM_put cM_put 4 (some .boolean) :: gW) "GuardVolumeModel" := S
  have hl : lv_has ls 4 [(0, .ref (ad c0)), (1, .int x1), (2, .int x2)] := hl
  have hx := S.1
  have hb := S.2.1
  have bk12 : ∀ (K12 : Wo → Nat → Int32 → Int32 → Int32 → Option (Wo × Int32)), (∀ (w : Wo) (c0 : Nat) (x1 : Int32) (x2 : Int32) (x3 : Int32) (H : Heap) (locs : List Loc) (ls : Array Slot), lv_has ls 4 [(0, .ref (ad c0)), (1, .int x1), (2, .int x2), (3, .int x3)] → Iv (Aa Λ ad) G kA kL Λ ad w s H locs → K12 w c0 x1 x2 x3 = some (w1, r) → W p l e rmM_put s m args below meth c H locs 0 0 Q (F0 m 12 ls [])) → ∀ (w : Wo) (c0 : Nat) (x1 : Int32) (x2 : Int32) (x3 : Int32) (H : Heap) (locs : List Loc) (ls : Array Slot), lv_has ls 4 [(0, .ref (ad c0)), (1, .int x1), (2, .int x2), (3, .int x3)] → Iv (Aa Λ ad) G kA kL Λ ad w s H locs → bM_put_12s Λ K12 w c0 x1 x2 x3 = some (w1, r) → W p l e rmM_put s m args below meth c H locs 0 0 Q (F0 m 12 ls []) := by
    intro K12 hK12 w c0 x1 x2 x3 H locs ls hl hI hf
    unfold bM_put_12s at hf
    refine lv_iload_n hx hb dM_put_12 rfl (lv_at hl 3 rfl) ?_
    refine lv_bipush hx hb dM_put_13 kB_8 ?_
    refine lv_icmp_ge (tgt := 36) hx hb dM_put_15 rfl (fun h1 => ?_) (fun h1 => ?_)
    · have hf := ip_ hf h1
      refine lv_aload_n hx hb dM_put_36 rfl (lv_at hl 0 rfl) ?_
      refine lv_iconst hx hb dM_put_37 kI_0 ?_
      refine lv_iload_n hx hb dM_put_38 rfl (lv_at hl 1 rfl) ?_
      refine lv_iload_n hx hb dM_put_39 rfl (lv_at hl 2 rfl) ?_
      obtain ⟨q2, hq2, hf⟩ := ob_ hf
      refine r_ci (r_V (rest := []) (As := [.int 0, .int x1, .int x2]) S hl hI (kM_putCopy l G kA kL Λ ad w c0 0 x1 x2 q2.1 q2.2 hq2) pkM_putCopy kw_611 ks_M_putCopy (fcM).1 (gd_some hq2).1 kw_609 ⟨rfl, rfl⟩ ⟨Nat.le_of_ble_eq_true rfl, Nat.le_of_ble_eq_true rfl⟩ rfl rfl (Nat.le_of_ble_eq_true rfl) ⟨Nat.zero_le _, Nat.zero_le _⟩ dM_put_40) hI (fun H locs hI => ?_)
      refine lv_if_eq (tgt := 56) hx hb dM_put_43 rfl (fun h3 => ?_) (fun h3 => ?_)
      · have hf := ip_ hf h3
        refine lv_iconst hx hb dM_put_56 kI_0 ?_
        exact hret _ _ _ _ _ _ hI hf dM_put_57
      · have hf := in_ hf h3
        refine lv_aload_n hx hb dM_put_46 rfl (lv_at hl 0 rfl) ?_
        refine lv_iconst hx hb dM_put_47 kI_1 ?_
        refine lv_iload_n hx hb dM_put_48 rfl (lv_at hl 1 rfl) ?_
        refine lv_iload_n hx hb dM_put_49 rfl (lv_at hl 2 rfl) ?_
        obtain ⟨q4, hq4, hf⟩ := ob_ hf
        refine r_ci (r_V (rest := []) (As := [.int 1, .int x1, .int x2]) S hl hI (kM_putCopy l G kA kL Λ ad q2.1 c0 1 x1 x2 q4.1 q4.2 hq4) pkM_putCopy kw_611 ks_M_putCopy (fcM).1 (gd_some hq4).1 kw_609 ⟨rfl, rfl⟩ ⟨Nat.le_of_ble_eq_true rfl, Nat.le_of_ble_eq_true rfl⟩ rfl rfl (Nat.le_of_ble_eq_true rfl) ⟨Nat.zero_le _, Nat.zero_le _⟩ dM_put_50) hI (fun H locs hI => ?_)
        refine lv_if_ne (tgt := 58) hx hb dM_put_53 rfl (fun h5 => ?_) (fun h5 => ?_)
        · have hf := in_ hf h5
          refine lv_aload_n hx hb dM_put_58 rfl (lv_at hl 0 rfl) ?_
          refine lv_iconst hx hb dM_put_59 kI_m1 ?_
          obtain ⟨w6, hw6, hf⟩ := ob_ hf
          refine r_put (i := 3) S hI fcM (Nat.le_of_ble_eq_true rfl) kw_504 rfl rfl rfl dM_put_60 hw6 (fun H locs hI => ?_)
          refine lv_iconst hx hb dM_put_63 kI_1 ?_
          exact hret _ _ _ _ _ _ hI hf dM_put_64
        · have hf := ip_ hf h5
          refine lv_iconst hx hb dM_put_56 kI_0 ?_
          exact hret _ _ _ _ _ _ hI hf dM_put_57
    · have hf := in_ hf h1
      refine lv_aload_n hx hb dM_put_18 rfl (lv_at hl 0 rfl) ?_
      obtain ⟨r7, hr7, hf⟩ := ob_ hf
      refine r_getr (i := 4) S hI fcM (Nat.le_of_ble_eq_true rfl) kw_505 dM_put_19 hr7 ?_
      refine lv_iload_n hx hb dM_put_22 rfl (lv_at hl 3 rfl) ?_
      refine lv_aload_n hx hb dM_put_23 rfl (lv_at hl 0 rfl) ?_
      obtain ⟨r8, hr8, hf⟩ := ob_ hf
      refine r_getr (i := 19) S hI fcM (Nat.le_of_ble_eq_true rfl) kw_520 dM_put_24 hr8 ?_
      refine lv_iload_n hx hb dM_put_27 rfl (lv_at hl 3 rfl) ?_
      obtain ⟨v9, hv9, hf⟩ := ob_ hf
      refine r_ald S hI dM_put_28 hv9 ?_
      obtain ⟨w10, hw10, hf⟩ := ob_ hf
      refine r_ast S hI dM_put_29 hw10 (fun H locs hI => ?_)
      refine lv_iinc hx hb (lv' := [(3, .int (x3 + 1)), (0, .ref (ad c0)), (1, .int x1), (2, .int x2)]) (k := 3) dM_put_30 hl rfl (kN_1 _) (Nat.le_of_ble_eq_true rfl) rfl (fun ls hl => ?_)
      refine lv_goto (tgt := 12) hx hb dM_put_33 rfl ?_
      exact hK12 w10 c0 x1 x2 (x3 + 1) _ _ _ (lv_sub hl [1, 2, 3, 0] rfl) hI hf
  have lp12 : ∀ (n : Nat), ∀ (w : Wo) (c0 : Nat) (x1 : Int32) (x2 : Int32) (x3 : Int32) (H : Heap) (locs : List Loc) (ls : Array Slot), lv_has ls 4 [(0, .ref (ad c0)), (1, .int x1), (2, .int x2), (3, .int x3)] → Iv (Aa Λ ad) G kA kL Λ ad w s H locs → bM_put_12 Λ n w c0 x1 x2 x3 = some (w1, r) → W p l e rmM_put s m args below meth c H locs 0 0 Q (F0 m 12 ls []) := by
    intro n
    induction n with
    | zero =>
      intro w c0 x1 x2 x3 H locs ls hl hI hf
      have hf : (none : Option (Wo × Int32)) = some (w1, r) := hf
      cases hf
    | succ n ih =>
      intro w c0 x1 x2 x3 H locs ls hl hI hf
      exact bk12 (bM_put_12 Λ n) ih w c0 x1 x2 x3 H locs ls hl hI hf
  unfold fM_put at hf
  have hf := (gd_some hf).2
  refine lv_aload_n hx hb dM_put_0 rfl (lv_at hl 0 rfl) ?_
  refine lv_iload_n hx hb dM_put_1 rfl (lv_at hl 1 rfl) ?_
  obtain ⟨w11, hw11, hf⟩ := ob_ hf
  refine r_put (i := 3) S hI fcM (Nat.le_of_ble_eq_true rfl) kw_504 rfl rfl rfl dM_put_2 hw11 (fun H locs hI => ?_)
  refine lv_aload_n hx hb dM_put_5 rfl (lv_at hl 0 rfl) ?_
  refine lv_iload_n hx hb dM_put_6 rfl (lv_at hl 2 rfl) ?_
  obtain ⟨w12, hw12, hf⟩ := ob_ hf
  refine r_put (i := 5) S hI fcM (Nat.le_of_ble_eq_true rfl) kw_506 rfl rfl rfl dM_put_7 hw12 (fun H locs hI => ?_)
  refine lv_iconst hx hb dM_put_10 kI_0 ?_
  refine lv_istore_n hx hb (lv' := [(3, .int 0), (0, .ref (ad c0)), (1, .int x1), (2, .int x2)]) dM_put_11 rfl hl (Nat.le_of_ble_eq_true rfl) rfl (fun ls hl => ?_)
  exact lp12 1000 w12 c0 x1 x2 0 _ _ _ (lv_sub hl [1, 2, 3, 0] rfl) hI hf
/-- GuardVolumeModel.write(III)I -/
abbrev rmM_write : Room := { frames := 7, cells := 0, slots := 0, locals := 164 }
theorem pkM_write : Pk yM_write cM_write 6 (some .int) 3 := ⟨kw_569, kw_7, by decide +kernel, by decide +kernel, by decide +kernel⟩
def bM_write_93 (Λ : La) (w : Wo) (c0 : Nat) (x1 : Int32) (x2 : Int32) (x3 : Int32) (x4 : Int32) (x5 : Int32) (t0 : Nat) (s1 : Int32) : Option (Wo × Int32) := (pf Λ w t0 5 0 s1).bind fun w1 => (gi Λ w1 c0 5 0).bind fun v2 => if v2 ≤ 0 then ((pf Λ w1 c0 5 13 x4).bind fun w4 => if x4 = 2 then (some (w4, 2)) else ((fM_takeWords Λ w4 c0 x4 x1).bind fun w6 => (gr Λ c0 5 19).bind fun r7 => (st Λ w6 r7 x2 x3).bind fun w8 => (fM_put Λ w8 c0 x1 (x5 + 1)).bind fun q9 => if q9.2 = 0 then (some (q9.1, 3)) else (some (q9.1, 0)))) else (some (w1, 0))
def bM_write_78 (Λ : La) (w : Wo) (c0 : Nat) (x1 : Int32) (x2 : Int32) (x3 : Int32) (x4 : Int32) (s0 : Int32) : Option (Wo × Int32) := if s0 = 60 then (bM_write_93 Λ w c0 x1 x2 x3 x4 s0 c0 3) else (bM_write_93 Λ w c0 x1 x2 x3 x4 s0 c0 0)
def bM_write_35 (Λ : La) (w : Wo) (c0 : Nat) (x1 : Int32) (x2 : Int32) (x3 : Int32) (t0 : Nat) (s1 : Int32) : Option (Wo × Int32) := (pf Λ w t0 5 0 s1).bind fun w12 => (gi Λ w12 c0 5 0).bind fun v13 => if v13 ≤ 0 then ((fM_codeOf Λ w12 c0 x1).bind fun q15 => if 2 ≤ q15.2 then (bM_write_78 Λ q15.1 c0 x1 x2 x3 q15.2 0) else ((gr Λ c0 5 1).bind fun r17 => (fM_place Λ q15.1 q15.2 x1).bind fun q18 => (ld Λ q18.1 r17 (q18.2 + 10)).bind fun v19 => bM_write_78 Λ q18.1 c0 x1 x2 x3 q15.2 v19)) else (some (w12, 0))
def bM_write_19 (Λ : La) (w : Wo) (c0 : Nat) (x1 : Int32) (x2 : Int32) (x3 : Int32) (t0 : Nat) : Option (Wo × Int32) := bM_write_35 Λ w c0 x1 x2 x3 t0 1
def fM_write (Λ : La) (w : Wo) (c0 : Nat) (x1 : Int32) (x2 : Int32) (x3 : Int32) : Option (Wo × Int32) := gd (isC Λ c0 5) ((fM_in Λ w x1 64).bind fun q20 => if q20.2 = 0 then (bM_write_19 Λ q20.1 c0 x1 x2 x3 c0) else ((fM_in Λ q20.1 x2 8).bind fun q22 => if q22.2 = 0 then (bM_write_19 Λ q22.1 c0 x1 x2 x3 c0) else ((gi Λ q22.1 c0 5 6).bind fun v24 => if v24 = 0 then (bM_write_35 Λ q22.1 c0 x1 x2 x3 c0 0) else (bM_write_35 Λ q22.1 c0 x1 x2 x3 c0 2))))
set_option maxHeartbeats 4000000 in
set_option maxRecDepth 100000 in
theorem kM_write (l : Launch) (G : va_G) (kA kL : ClassId) (Λ : La) (ad : Nat → Nat) (w : Wo) (c0 : Nat) (x1 : Int32) (x2 : Int32) (x3 : Int32) (w1 : Wo) (r : Int32) (hf : fM_write Λ w c0 x1 x2 x3 = some (w1, r)) : Mi l yM_write cM_write 6 (some .int) rmM_write G kA kL Λ ad [.ref (ad c0), .int x1, .int x2, .int x3] w w1 r := by
  refine Mi.of (by decide +kernel) (Nat.le_of_ble_eq_true rfl) ?_
  intro p e s m args below meth c Q ls S hret hl hI
  have S : CallFix p m c cM_write 6 s args (.code yM_write cM_write 6 (some .int) :: gW) "GuardVolumeModel" := S
  have hl : lv_has ls 6 [(0, .ref (ad c0)), (1, .int x1), (2, .int x2), (3, .int x3)] := hl
  have hx := S.1
  have hb := S.2.1
  have bk93 : ∀ (w : Wo) (c0 : Nat) (x1 : Int32) (x2 : Int32) (x3 : Int32) (x4 : Int32) (x5 : Int32) (t0 : Nat) (s1 : Int32) (H : Heap) (locs : List Loc) (ls : Array Slot), lv_has ls 6 [(0, .ref (ad c0)), (1, .int x1), (2, .int x2), (3, .int x3), (4, .int x4), (5, .int x5)] → Iv (Aa Λ ad) G kA kL Λ ad w s H locs → bM_write_93 Λ w c0 x1 x2 x3 x4 x5 t0 s1 = some (w1, r) → W p l e rmM_write s m args below meth c H locs 0 0 Q (F0 m 93 ls [.int s1, .ref (ad t0)]) := by
    intro w c0 x1 x2 x3 x4 x5 t0 s1 H locs ls hl hI hf
    unfold bM_write_93 at hf
    obtain ⟨w1, hw1, hf⟩ := ob_ hf
    refine r_put (i := 0) S hI fcM (Nat.le_of_ble_eq_true rfl) kw_501 rfl rfl rfl dM_write_93 hw1 (fun H locs hI => ?_)
    refine lv_aload_n hx hb dM_write_96 rfl (lv_at hl 0 rfl) ?_
    obtain ⟨v2, hv2, hf⟩ := ob_ hf
    refine r_geti (i := 0) S hI fcM (Nat.le_of_ble_eq_true rfl) kw_501 dM_write_97 hv2 ?_
    refine lv_if_le (tgt := 105) hx hb dM_write_100 rfl (fun h3 => ?_) (fun h3 => ?_)
    · have hf := ip_ hf h3
      refine lv_aload_n hx hb dM_write_105 rfl (lv_at hl 0 rfl) ?_
      refine lv_iload hx hb dM_write_106 (lv_at hl 4 rfl) ?_
      obtain ⟨w4, hw4, hf⟩ := ob_ hf
      refine r_put (i := 13) S hI fcM (Nat.le_of_ble_eq_true rfl) kw_514 rfl rfl rfl dM_write_108 hw4 (fun H locs hI => ?_)
      refine lv_iload hx hb dM_write_111 (lv_at hl 4 rfl) ?_
      refine lv_iconst hx hb dM_write_113 kI_2 ?_
      refine lv_icmp_ne (tgt := 119) hx hb dM_write_114 rfl (fun h5 => ?_) (fun h5 => ?_)
      · have hf := in_ hf h5
        refine lv_aload_n hx hb dM_write_119 rfl (lv_at hl 0 rfl) ?_
        refine lv_iload hx hb dM_write_120 (lv_at hl 4 rfl) ?_
        refine lv_iload_n hx hb dM_write_122 rfl (lv_at hl 1 rfl) ?_
        obtain ⟨w6, hw6, hf⟩ := ob_ hf
        refine r_cv (r_V (rest := []) (As := [.int x4, .int x1]) S hl hI (kM_takeWords l G kA kL Λ ad w4 c0 x4 x1 w6 hw6) pkM_takeWords kw_603 ks_M_takeWords (fcM).1 (gd_some hw6).1 kw_601 ⟨rfl, rfl⟩ ⟨Nat.le_of_ble_eq_true rfl, Nat.le_of_ble_eq_true rfl⟩ rfl rfl (Nat.le_of_ble_eq_true rfl) ⟨Nat.zero_le _, Nat.zero_le _⟩ dM_write_123) hI (fun H locs hI => ?_)
        refine lv_aload_n hx hb dM_write_126 rfl (lv_at hl 0 rfl) ?_
        obtain ⟨r7, hr7, hf⟩ := ob_ hf
        refine r_getr (i := 19) S hI fcM (Nat.le_of_ble_eq_true rfl) kw_520 dM_write_127 hr7 ?_
        refine lv_iload_n hx hb dM_write_130 rfl (lv_at hl 2 rfl) ?_
        refine lv_iload_n hx hb dM_write_131 rfl (lv_at hl 3 rfl) ?_
        obtain ⟨w8, hw8, hf⟩ := ob_ hf
        refine r_ast S hI dM_write_132 hw8 (fun H locs hI => ?_)
        refine lv_aload_n hx hb dM_write_133 rfl (lv_at hl 0 rfl) ?_
        refine lv_iload_n hx hb dM_write_134 rfl (lv_at hl 1 rfl) ?_
        refine lv_iload hx hb dM_write_135 (lv_at hl 5 rfl) ?_
        refine lv_iconst hx hb dM_write_137 kI_1 ?_
        refine lv_iadd hx hb dM_write_138 ?_
        obtain ⟨q9, hq9, hf⟩ := ob_ hf
        refine r_ci (r_V (rest := []) (As := [.int x1, .int (x5 + 1)]) S hl hI (kM_put l G kA kL Λ ad w8 c0 x1 (x5 + 1) q9.1 q9.2 hq9) pkM_put kw_607 ks_M_put (fcM).1 (gd_some hq9).1 kw_605 ⟨rfl, rfl⟩ ⟨Nat.le_of_ble_eq_true rfl, Nat.le_of_ble_eq_true rfl⟩ rfl rfl (Nat.le_of_ble_eq_true rfl) ⟨Nat.zero_le _, Nat.zero_le _⟩ dM_write_139) hI (fun H locs hI => ?_)
        refine lv_if_eq (tgt := 149) hx hb dM_write_142 rfl (fun h10 => ?_) (fun h10 => ?_)
        · have hf := ip_ hf h10
          refine lv_iconst hx hb dM_write_149 kI_3 ?_
          exact hret _ _ _ _ _ _ hI hf dM_write_150
        · have hf := in_ hf h10
          refine lv_iconst hx hb dM_write_145 kI_0 ?_
          refine lv_goto (tgt := 150) hx hb dM_write_146 rfl ?_
          exact hret _ _ _ _ _ _ hI hf dM_write_150
      · have hf := ip_ hf h5
        refine lv_iconst hx hb dM_write_117 kI_2 ?_
        exact hret _ _ _ _ _ _ hI hf dM_write_118
    · have hf := in_ hf h3
      refine lv_iconst hx hb dM_write_103 kI_0 ?_
      exact hret _ _ _ _ _ _ hI hf dM_write_104
  have bk78 : ∀ (w : Wo) (c0 : Nat) (x1 : Int32) (x2 : Int32) (x3 : Int32) (x4 : Int32) (s0 : Int32) (H : Heap) (locs : List Loc) (ls : Array Slot), lv_has ls 6 [(0, .ref (ad c0)), (1, .int x1), (2, .int x2), (3, .int x3), (4, .int x4)] → Iv (Aa Λ ad) G kA kL Λ ad w s H locs → bM_write_78 Λ w c0 x1 x2 x3 x4 s0 = some (w1, r) → W p l e rmM_write s m args below meth c H locs 0 0 Q (F0 m 78 ls [.int s0]) := by
    intro w c0 x1 x2 x3 x4 s0 H locs ls hl hI hf
    unfold bM_write_78 at hf
    refine lv_istore hx hb (lv' := [(5, .int s0), (0, .ref (ad c0)), (1, .int x1), (2, .int x2), (3, .int x3), (4, .int x4)]) dM_write_78 hl (Nat.le_of_ble_eq_true rfl) rfl (fun ls hl => ?_)
    refine lv_aload_n hx hb dM_write_80 rfl (lv_at hl 1 rfl) ?_
    refine lv_iload hx hb dM_write_81 (lv_at hl 0 rfl) ?_
    refine lv_bipush hx hb dM_write_83 kB_60 ?_
    refine lv_icmp_ne (tgt := 92) hx hb dM_write_85 rfl (fun h11 => ?_) (fun h11 => ?_)
    · have hf := in_ hf h11
      refine lv_iconst hx hb dM_write_92 kI_0 ?_
      exact bk93 w c0 x1 x2 x3 x4 s0 c0 0 _ _ _ (lv_sub hl [1, 2, 3, 4, 5, 0] rfl) hI hf
    · have hf := ip_ hf h11
      refine lv_iconst hx hb dM_write_88 kI_3 ?_
      refine lv_goto (tgt := 93) hx hb dM_write_89 rfl ?_
      exact bk93 w c0 x1 x2 x3 x4 s0 c0 3 _ _ _ (lv_sub hl [1, 2, 3, 4, 5, 0] rfl) hI hf
  have bk35 : ∀ (w : Wo) (c0 : Nat) (x1 : Int32) (x2 : Int32) (x3 : Int32) (t0 : Nat) (s1 : Int32) (H : Heap) (locs : List Loc) (ls : Array Slot), lv_has ls 6 [(0, .ref (ad c0)), (1, .int x1), (2, .int x2), (3, .int x3)] → Iv (Aa Λ ad) G kA kL Λ ad w s H locs → bM_write_35 Λ w c0 x1 x2 x3 t0 s1 = some (w1, r) → W p l e rmM_write s m args below meth c H locs 0 0 Q (F0 m 35 ls [.int s1, .ref (ad t0)]) := by
    intro w c0 x1 x2 x3 t0 s1 H locs ls hl hI hf
    unfold bM_write_35 at hf
    obtain ⟨w12, hw12, hf⟩ := ob_ hf
    refine r_put (i := 0) S hI fcM (Nat.le_of_ble_eq_true rfl) kw_501 rfl rfl rfl dM_write_35 hw12 (fun H locs hI => ?_)
    refine lv_aload_n hx hb dM_write_38 rfl (lv_at hl 0 rfl) ?_
    obtain ⟨v13, hv13, hf⟩ := ob_ hf
    refine r_geti (i := 0) S hI fcM (Nat.le_of_ble_eq_true rfl) kw_501 dM_write_39 hv13 ?_
    refine lv_if_le (tgt := 47) hx hb dM_write_42 rfl (fun h14 => ?_) (fun h14 => ?_)
    · have hf := ip_ hf h14
      refine lv_aload_n hx hb dM_write_47 rfl (lv_at hl 0 rfl) ?_
      refine lv_iload_n hx hb dM_write_48 rfl (lv_at hl 1 rfl) ?_
      obtain ⟨q15, hq15, hf⟩ := ob_ hf
      refine r_ci (r_V (rest := []) (As := [.int x1]) S hl hI (kM_codeOf l G kA kL Λ ad w12 c0 x1 q15.1 q15.2 hq15) pkM_codeOf kw_575 ks_M_codeOf (fcM).1 (gd_some hq15).1 kw_573 ⟨rfl, rfl⟩ ⟨Nat.le_of_ble_eq_true rfl, Nat.le_of_ble_eq_true rfl⟩ rfl rfl (Nat.le_of_ble_eq_true rfl) ⟨Nat.zero_le _, Nat.zero_le _⟩ dM_write_49) hI (fun H locs hI => ?_)
      refine lv_istore hx hb (lv' := [(4, .int q15.2), (0, .ref (ad c0)), (1, .int x1), (2, .int x2), (3, .int x3)]) dM_write_52 hl (Nat.le_of_ble_eq_true rfl) rfl (fun ls hl => ?_)
      refine lv_iload hx hb dM_write_54 (lv_at hl 0 rfl) ?_
      refine lv_iconst hx hb dM_write_56 kI_2 ?_
      refine lv_icmp_ge (tgt := 77) hx hb dM_write_57 rfl (fun h16 => ?_) (fun h16 => ?_)
      · have hf := ip_ hf h16
        refine lv_iconst hx hb dM_write_77 kI_0 ?_
        exact bk78 q15.1 c0 x1 x2 x3 q15.2 0 _ _ _ (lv_sub hl [1, 2, 3, 4, 0] rfl) hI hf
      · have hf := in_ hf h16
        refine lv_aload_n hx hb dM_write_60 rfl (lv_at hl 1 rfl) ?_
        obtain ⟨r17, hr17, hf⟩ := ob_ hf
        refine r_getr (i := 1) S hI fcM (Nat.le_of_ble_eq_true rfl) kw_502 dM_write_61 hr17 ?_
        refine lv_iload hx hb dM_write_64 (lv_at hl 0 rfl) ?_
        refine lv_iload_n hx hb dM_write_66 rfl (lv_at hl 2 rfl) ?_
        obtain ⟨q18, hq18, hf⟩ := ob_ hf
        refine r_ci (r_S (rest := [.ref (ad r17)]) (As := [.int q15.2, .int x1]) S hl hI (kM_place l G kA kL Λ ad q15.1 q15.2 x1 q18.1 q18.2 hq18) pkM_place kw_492 kw_491 ⟨rfl, rfl⟩ ⟨Nat.le_of_ble_eq_true rfl, Nat.le_of_ble_eq_true rfl⟩ rfl rfl (Nat.le_of_ble_eq_true rfl) ⟨Nat.zero_le _, Nat.zero_le _⟩ dM_write_67) hI (fun H locs hI => ?_)
        refine lv_bipush hx hb dM_write_70 kB_10 ?_
        refine lv_iadd hx hb dM_write_72 ?_
        obtain ⟨v19, hv19, hf⟩ := ob_ hf
        refine r_ald S hI dM_write_73 hv19 ?_
        refine lv_goto (tgt := 78) hx hb dM_write_74 rfl ?_
        exact bk78 q18.1 c0 x1 x2 x3 q15.2 v19 _ _ _ (lv_sub hl [1, 2, 3, 4, 0] rfl) hI hf
    · have hf := in_ hf h14
      refine lv_iconst hx hb dM_write_45 kI_0 ?_
      exact hret _ _ _ _ _ _ hI hf dM_write_46
  have bk19 : ∀ (w : Wo) (c0 : Nat) (x1 : Int32) (x2 : Int32) (x3 : Int32) (t0 : Nat) (H : Heap) (locs : List Loc) (ls : Array Slot), lv_has ls 6 [(0, .ref (ad c0)), (1, .int x1), (2, .int x2), (3, .int x3)] → Iv (Aa Λ ad) G kA kL Λ ad w s H locs → bM_write_19 Λ w c0 x1 x2 x3 t0 = some (w1, r) → W p l e rmM_write s m args below meth c H locs 0 0 Q (F0 m 19 ls [.ref (ad t0)]) := by
    intro w c0 x1 x2 x3 t0 H locs ls hl hI hf
    unfold bM_write_19 at hf
    refine lv_iconst hx hb dM_write_19 kI_1 ?_
    refine lv_goto (tgt := 35) hx hb dM_write_20 rfl ?_
    exact bk35 w c0 x1 x2 x3 t0 1 _ _ _ (lv_sub hl [0, 1, 2, 3] rfl) hI hf
  unfold fM_write at hf
  have hf := (gd_some hf).2
  refine lv_aload_n hx hb dM_write_0 rfl (lv_at hl 0 rfl) ?_
  refine lv_iload_n hx hb dM_write_1 rfl (lv_at hl 1 rfl) ?_
  refine lv_bipush hx hb dM_write_2 kB_64 ?_
  obtain ⟨q20, hq20, hf⟩ := ob_ hf
  refine r_ci (r_S (rest := [.ref (ad c0)]) (As := [.int x1, .int 64]) S hl hI (kM_in l G kA kL Λ ad w x1 64 q20.1 q20.2 hq20) pkM_in kw_571 kw_570 ⟨rfl, rfl⟩ ⟨Nat.le_of_ble_eq_true rfl, Nat.le_of_ble_eq_true rfl⟩ rfl rfl (Nat.le_of_ble_eq_true rfl) ⟨Nat.zero_le _, Nat.zero_le _⟩ dM_write_4) hI (fun H locs hI => ?_)
  refine lv_if_eq (tgt := 19) hx hb dM_write_7 rfl (fun h21 => ?_) (fun h21 => ?_)
  · have hf := ip_ hf h21
    exact bk19 q20.1 c0 x1 x2 x3 c0 _ _ _ (lv_sub hl [0, 1, 2, 3] rfl) hI hf
  · have hf := in_ hf h21
    refine lv_iload_n hx hb dM_write_10 rfl (lv_at hl 2 rfl) ?_
    refine lv_bipush hx hb dM_write_11 kB_8 ?_
    obtain ⟨q22, hq22, hf⟩ := ob_ hf
    refine r_ci (r_S (rest := [.ref (ad c0)]) (As := [.int x2, .int 8]) S hl hI (kM_in l G kA kL Λ ad q20.1 x2 8 q22.1 q22.2 hq22) pkM_in kw_571 kw_570 ⟨rfl, rfl⟩ ⟨Nat.le_of_ble_eq_true rfl, Nat.le_of_ble_eq_true rfl⟩ rfl rfl (Nat.le_of_ble_eq_true rfl) ⟨Nat.zero_le _, Nat.zero_le _⟩ dM_write_13) hI (fun H locs hI => ?_)
    refine lv_if_ne (tgt := 23) hx hb dM_write_16 rfl (fun h23 => ?_) (fun h23 => ?_)
    · have hf := in_ hf h23
      refine lv_aload_n hx hb dM_write_23 rfl (lv_at hl 0 rfl) ?_
      obtain ⟨v24, hv24, hf⟩ := ob_ hf
      refine r_geti (i := 6) S hI fcM (Nat.le_of_ble_eq_true rfl) kw_507 dM_write_24 hv24 ?_
      refine lv_if_eq (tgt := 34) hx hb dM_write_27 rfl (fun h25 => ?_) (fun h25 => ?_)
      · have hf := ip_ hf h25
        refine lv_iconst hx hb dM_write_34 kI_0 ?_
        exact bk35 q22.1 c0 x1 x2 x3 c0 0 _ _ _ (lv_sub hl [0, 1, 2, 3] rfl) hI hf
      · have hf := in_ hf h25
        refine lv_iconst hx hb dM_write_30 kI_2 ?_
        refine lv_goto (tgt := 35) hx hb dM_write_31 rfl ?_
        exact bk35 q22.1 c0 x1 x2 x3 c0 2 _ _ _ (lv_sub hl [0, 1, 2, 3] rfl) hI hf
    · have hf := ip_ hf h23
      exact bk19 q22.1 c0 x1 x2 x3 c0 _ _ _ (lv_sub hl [0, 1, 2, 3] rfl) hI hf
end
section
/-! written by walk.py: the functions that the bytecode computes, and the walks -/
/-- GuardVolumeModel.read(II)I -/
abbrev rmM_read : Room := { frames := 7, cells := 0, slots := 0, locals := 158 }
theorem pkM_read : Pk yM_read cM_read 3 (some .int) 2 := ⟨kw_640, kw_7, by decide +kernel, by decide +kernel, by decide +kernel⟩
def bM_read_35 (Λ : La) (w : Wo) (c0 : Nat) (x1 : Int32) (x2 : Int32) (t0 : Nat) (s1 : Int32) : Option (Wo × Int32) := (pf Λ w t0 5 0 s1).bind fun w1 => (gi Λ w1 c0 5 0).bind fun v2 => if v2 ≤ 0 then ((fM_codeOf Λ w1 c0 x1).bind fun q4 => (pf Λ q4.1 c0 5 13 q4.2).bind fun w5 => (gi Λ w5 c0 5 13).bind fun v6 => if v6 = 2 then (some (w5, 0)) else ((gr Λ c0 5 1).bind fun r8 => (gi Λ w5 c0 5 13).bind fun v9 => (fM_place Λ w5 v9 x1).bind fun q10 => (ld Λ q10.1 r8 (q10.2 + x2)).bind fun v11 => some (q10.1, v11))) else (some (w1, 0))
def bM_read_19 (Λ : La) (w : Wo) (c0 : Nat) (x1 : Int32) (x2 : Int32) (t0 : Nat) : Option (Wo × Int32) := bM_read_35 Λ w c0 x1 x2 t0 1
def fM_read (Λ : La) (w : Wo) (c0 : Nat) (x1 : Int32) (x2 : Int32) : Option (Wo × Int32) := gd (isC Λ c0 5) ((fM_in Λ w x1 64).bind fun q12 => if q12.2 = 0 then (bM_read_19 Λ q12.1 c0 x1 x2 c0) else ((fM_in Λ q12.1 x2 8).bind fun q14 => if q14.2 = 0 then (bM_read_19 Λ q14.1 c0 x1 x2 c0) else ((gi Λ q14.1 c0 5 6).bind fun v16 => if v16 = 0 then (bM_read_35 Λ q14.1 c0 x1 x2 c0 0) else (bM_read_35 Λ q14.1 c0 x1 x2 c0 2))))
set_option maxHeartbeats 4000000 in
set_option maxRecDepth 100000 in
theorem kM_read (l : Launch) (G : va_G) (kA kL : ClassId) (Λ : La) (ad : Nat → Nat) (w : Wo) (c0 : Nat) (x1 : Int32) (x2 : Int32) (w1 : Wo) (r : Int32) (hf : fM_read Λ w c0 x1 x2 = some (w1, r)) : Mi l yM_read cM_read 3 (some .int) rmM_read G kA kL Λ ad [.ref (ad c0), .int x1, .int x2] w w1 r := by
  refine Mi.of (by decide +kernel) (Nat.le_of_ble_eq_true rfl) ?_
  intro p e s m args below meth c Q ls S hret hl hI
  have S : CallFix p m c cM_read 3 s args (.code yM_read cM_read 3 (some .int) :: gW) "GuardVolumeModel" := S
  have hl : lv_has ls 3 [(0, .ref (ad c0)), (1, .int x1), (2, .int x2)] := hl
  have hx := S.1
  have hb := S.2.1
  have bk35 : ∀ (w : Wo) (c0 : Nat) (x1 : Int32) (x2 : Int32) (t0 : Nat) (s1 : Int32) (H : Heap) (locs : List Loc) (ls : Array Slot), lv_has ls 3 [(0, .ref (ad c0)), (1, .int x1), (2, .int x2)] → Iv (Aa Λ ad) G kA kL Λ ad w s H locs → bM_read_35 Λ w c0 x1 x2 t0 s1 = some (w1, r) → W p l e rmM_read s m args below meth c H locs 0 0 Q (F0 m 35 ls [.int s1, .ref (ad t0)]) := by
    intro w c0 x1 x2 t0 s1 H locs ls hl hI hf
    unfold bM_read_35 at hf
    obtain ⟨w1, hw1, hf⟩ := ob_ hf
    refine r_put (i := 0) S hI fcM (Nat.le_of_ble_eq_true rfl) kw_501 rfl rfl rfl dM_read_35 hw1 (fun H locs hI => ?_)
    refine lv_aload_n hx hb dM_read_38 rfl (lv_at hl 0 rfl) ?_
    obtain ⟨v2, hv2, hf⟩ := ob_ hf
    refine r_geti (i := 0) S hI fcM (Nat.le_of_ble_eq_true rfl) kw_501 dM_read_39 hv2 ?_
    refine lv_if_le (tgt := 47) hx hb dM_read_42 rfl (fun h3 => ?_) (fun h3 => ?_)
    · have hf := ip_ hf h3
      refine lv_aload_n hx hb dM_read_47 rfl (lv_at hl 0 rfl) ?_
      refine lv_aload_n hx hb dM_read_48 rfl (lv_at hl 0 rfl) ?_
      refine lv_iload_n hx hb dM_read_49 rfl (lv_at hl 1 rfl) ?_
      obtain ⟨q4, hq4, hf⟩ := ob_ hf
      refine r_ci (r_V (rest := [.ref (ad c0)]) (As := [.int x1]) S hl hI (kM_codeOf l G kA kL Λ ad w1 c0 x1 q4.1 q4.2 hq4) pkM_codeOf kw_575 ks_M_codeOf (fcM).1 (gd_some hq4).1 kw_573 ⟨rfl, rfl⟩ ⟨Nat.le_of_ble_eq_true rfl, Nat.le_of_ble_eq_true rfl⟩ rfl rfl (Nat.le_of_ble_eq_true rfl) ⟨Nat.zero_le _, Nat.zero_le _⟩ dM_read_50) hI (fun H locs hI => ?_)
      obtain ⟨w5, hw5, hf⟩ := ob_ hf
      refine r_put (i := 13) S hI fcM (Nat.le_of_ble_eq_true rfl) kw_514 rfl rfl rfl dM_read_53 hw5 (fun H locs hI => ?_)
      refine lv_aload_n hx hb dM_read_56 rfl (lv_at hl 0 rfl) ?_
      obtain ⟨v6, hv6, hf⟩ := ob_ hf
      refine r_geti (i := 13) S hI fcM (Nat.le_of_ble_eq_true rfl) kw_514 dM_read_57 hv6 ?_
      refine lv_iconst hx hb dM_read_60 kI_2 ?_
      refine lv_icmp_ne (tgt := 68) hx hb dM_read_61 rfl (fun h7 => ?_) (fun h7 => ?_)
      · have hf := in_ hf h7
        refine lv_aload_n hx hb dM_read_68 rfl (lv_at hl 0 rfl) ?_
        obtain ⟨r8, hr8, hf⟩ := ob_ hf
        refine r_getr (i := 1) S hI fcM (Nat.le_of_ble_eq_true rfl) kw_502 dM_read_69 hr8 ?_
        refine lv_aload_n hx hb dM_read_72 rfl (lv_at hl 0 rfl) ?_
        obtain ⟨v9, hv9, hf⟩ := ob_ hf
        refine r_geti (i := 13) S hI fcM (Nat.le_of_ble_eq_true rfl) kw_514 dM_read_73 hv9 ?_
        refine lv_iload_n hx hb dM_read_76 rfl (lv_at hl 1 rfl) ?_
        obtain ⟨q10, hq10, hf⟩ := ob_ hf
        refine r_ci (r_S (rest := [.ref (ad r8)]) (As := [.int v9, .int x1]) S hl hI (kM_place l G kA kL Λ ad w5 v9 x1 q10.1 q10.2 hq10) pkM_place kw_492 kw_491 ⟨rfl, rfl⟩ ⟨Nat.le_of_ble_eq_true rfl, Nat.le_of_ble_eq_true rfl⟩ rfl rfl (Nat.le_of_ble_eq_true rfl) ⟨Nat.zero_le _, Nat.zero_le _⟩ dM_read_77) hI (fun H locs hI => ?_)
        refine lv_iload_n hx hb dM_read_80 rfl (lv_at hl 2 rfl) ?_
        refine lv_iadd hx hb dM_read_81 ?_
        obtain ⟨v11, hv11, hf⟩ := ob_ hf
        refine r_ald S hI dM_read_82 hv11 ?_
        exact hret _ _ _ _ _ _ hI hf dM_read_83
      · have hf := ip_ hf h7
        refine lv_iconst hx hb dM_read_64 kI_0 ?_
        refine lv_goto (tgt := 83) hx hb dM_read_65 rfl ?_
        exact hret _ _ _ _ _ _ hI hf dM_read_83
    · have hf := in_ hf h3
      refine lv_iconst hx hb dM_read_45 kI_0 ?_
      exact hret _ _ _ _ _ _ hI hf dM_read_46
  have bk19 : ∀ (w : Wo) (c0 : Nat) (x1 : Int32) (x2 : Int32) (t0 : Nat) (H : Heap) (locs : List Loc) (ls : Array Slot), lv_has ls 3 [(0, .ref (ad c0)), (1, .int x1), (2, .int x2)] → Iv (Aa Λ ad) G kA kL Λ ad w s H locs → bM_read_19 Λ w c0 x1 x2 t0 = some (w1, r) → W p l e rmM_read s m args below meth c H locs 0 0 Q (F0 m 19 ls [.ref (ad t0)]) := by
    intro w c0 x1 x2 t0 H locs ls hl hI hf
    unfold bM_read_19 at hf
    refine lv_iconst hx hb dM_read_19 kI_1 ?_
    refine lv_goto (tgt := 35) hx hb dM_read_20 rfl ?_
    exact bk35 w c0 x1 x2 t0 1 _ _ _ (lv_sub hl [0, 1, 2] rfl) hI hf
  unfold fM_read at hf
  have hf := (gd_some hf).2
  refine lv_aload_n hx hb dM_read_0 rfl (lv_at hl 0 rfl) ?_
  refine lv_iload_n hx hb dM_read_1 rfl (lv_at hl 1 rfl) ?_
  refine lv_bipush hx hb dM_read_2 kB_64 ?_
  obtain ⟨q12, hq12, hf⟩ := ob_ hf
  refine r_ci (r_S (rest := [.ref (ad c0)]) (As := [.int x1, .int 64]) S hl hI (kM_in l G kA kL Λ ad w x1 64 q12.1 q12.2 hq12) pkM_in kw_571 kw_570 ⟨rfl, rfl⟩ ⟨Nat.le_of_ble_eq_true rfl, Nat.le_of_ble_eq_true rfl⟩ rfl rfl (Nat.le_of_ble_eq_true rfl) ⟨Nat.zero_le _, Nat.zero_le _⟩ dM_read_4) hI (fun H locs hI => ?_)
  refine lv_if_eq (tgt := 19) hx hb dM_read_7 rfl (fun h13 => ?_) (fun h13 => ?_)
  · have hf := ip_ hf h13
    exact bk19 q12.1 c0 x1 x2 c0 _ _ _ (lv_sub hl [0, 1, 2] rfl) hI hf
  · have hf := in_ hf h13
    refine lv_iload_n hx hb dM_read_10 rfl (lv_at hl 2 rfl) ?_
    refine lv_bipush hx hb dM_read_11 kB_8 ?_
    obtain ⟨q14, hq14, hf⟩ := ob_ hf
    refine r_ci (r_S (rest := [.ref (ad c0)]) (As := [.int x2, .int 8]) S hl hI (kM_in l G kA kL Λ ad q12.1 x2 8 q14.1 q14.2 hq14) pkM_in kw_571 kw_570 ⟨rfl, rfl⟩ ⟨Nat.le_of_ble_eq_true rfl, Nat.le_of_ble_eq_true rfl⟩ rfl rfl (Nat.le_of_ble_eq_true rfl) ⟨Nat.zero_le _, Nat.zero_le _⟩ dM_read_13) hI (fun H locs hI => ?_)
    refine lv_if_ne (tgt := 23) hx hb dM_read_16 rfl (fun h15 => ?_) (fun h15 => ?_)
    · have hf := in_ hf h15
      refine lv_aload_n hx hb dM_read_23 rfl (lv_at hl 0 rfl) ?_
      obtain ⟨v16, hv16, hf⟩ := ob_ hf
      refine r_geti (i := 6) S hI fcM (Nat.le_of_ble_eq_true rfl) kw_507 dM_read_24 hv16 ?_
      refine lv_if_eq (tgt := 34) hx hb dM_read_27 rfl (fun h17 => ?_) (fun h17 => ?_)
      · have hf := ip_ hf h17
        refine lv_iconst hx hb dM_read_34 kI_0 ?_
        exact bk35 q14.1 c0 x1 x2 c0 0 _ _ _ (lv_sub hl [0, 1, 2] rfl) hI hf
      · have hf := in_ hf h17
        refine lv_iconst hx hb dM_read_30 kI_2 ?_
        refine lv_goto (tgt := 35) hx hb dM_read_31 rfl ?_
        exact bk35 q14.1 c0 x1 x2 c0 2 _ _ _ (lv_sub hl [0, 1, 2] rfl) hI hf
    · have hf := ip_ hf h15
      exact bk19 q14.1 c0 x1 x2 c0 _ _ _ (lv_sub hl [0, 1, 2] rfl) hI hf
/-- GuardVolumeModel.code()I -/
abbrev rmM_code : Room := { frames := 0, cells := 0, slots := 0, locals := 0 }
theorem pkM_code : Pk yM_code cM_code 1 (some .int) 0 := ⟨kw_644, kw_7, by decide +kernel, by decide +kernel, by decide +kernel⟩
def fM_code (Λ : La) (w : Wo) (c0 : Nat) : Option (Wo × Int32) := gd (isC Λ c0 5) ((pf Λ w c0 5 0 0).bind fun w1 => (gi Λ w1 c0 5 13).bind fun v2 => some (w1, v2))
set_option maxHeartbeats 4000000 in
set_option maxRecDepth 100000 in
theorem kM_code (l : Launch) (G : va_G) (kA kL : ClassId) (Λ : La) (ad : Nat → Nat) (w : Wo) (c0 : Nat) (w1 : Wo) (r : Int32) (hf : fM_code Λ w c0 = some (w1, r)) : Mi l yM_code cM_code 1 (some .int) rmM_code G kA kL Λ ad [.ref (ad c0)] w w1 r := by
  refine Mi.of (by decide +kernel) (Nat.le_of_ble_eq_true rfl) ?_
  intro p e s m args below meth c Q ls S hret hl hI
  have S : CallFix p m c cM_code 1 s args (.code yM_code cM_code 1 (some .int) :: gW) "GuardVolumeModel" := S
  have hl : lv_has ls 1 [(0, .ref (ad c0))] := hl
  have hx := S.1
  have hb := S.2.1
  unfold fM_code at hf
  have hf := (gd_some hf).2
  refine lv_aload_n hx hb dM_code_0 rfl (lv_at hl 0 rfl) ?_
  refine lv_iconst hx hb dM_code_1 kI_0 ?_
  obtain ⟨w1, hw1, hf⟩ := ob_ hf
  refine r_put (i := 0) S hI fcM (Nat.le_of_ble_eq_true rfl) kw_501 rfl rfl rfl dM_code_2 hw1 (fun H locs hI => ?_)
  refine lv_aload_n hx hb dM_code_5 rfl (lv_at hl 0 rfl) ?_
  obtain ⟨v2, hv2, hf⟩ := ob_ hf
  refine r_geti (i := 13) S hI fcM (Nat.le_of_ble_eq_true rfl) kw_514 dM_code_6 hv2 ?_
  exact hret _ _ _ _ _ _ hI hf dM_code_9
/-- GuardVolumeModel.plan(IIII)V -/
abbrev rmM_plan : Room := { frames := 1, cells := 0, slots := 0, locals := 21 }
theorem pkM_plan : Pk yM_plan cM_plan 7 none 4 := ⟨kw_648, kw_7, by decide +kernel, by decide +kernel, by decide +kernel⟩
def bM_plan_160 (Λ : La) (w : Wo) (c0 : Nat) (x1 : Int32) (x2 : Int32) (x3 : Int32) (x4 : Int32) (t0 : Nat) (s1 : Int32) : Option Wo := (pf Λ w t0 5 0 s1).bind fun w1 => (gi Λ w1 c0 5 0).bind fun v2 => if v2 ≤ 0 then ((gr Λ c0 5 9).bind fun r4 => (ld Λ w1 r4 x1).bind fun v5 => (gr Λ c0 5 10).bind fun r6 => (gr Λ c0 5 8).bind fun r7 => (ld Λ w1 r7 x1).bind fun v8 => (st Λ w1 r6 ((8 * x1) + v5) (v8 + x2)).bind fun w9 => (gr Λ c0 5 11).bind fun r10 => (st Λ w9 r10 ((8 * x1) + v5) x3).bind fun w11 => (gr Λ c0 5 12).bind fun r12 => (st Λ w11 r12 ((8 * x1) + v5) x4).bind fun w13 => (gr Λ c0 5 9).bind fun r14 => (ld Λ w13 r14 x1).bind fun v15 => (st Λ w13 r14 x1 (v15 + 1)).bind fun w16 => some w16) else (some w1)
def bM_plan_122 (Λ : La) (w : Wo) (c0 : Nat) (x1 : Int32) (x2 : Int32) (x3 : Int32) (x4 : Int32) (x5 : Int32) : Option Wo := (fM_in Λ w x1 2).bind fun q17 => if q17.2 = 0 then (bM_plan_160 Λ q17.1 c0 x1 x2 x3 x4 c0 1) else (if x5 = 0 then (bM_plan_160 Λ q17.1 c0 x1 x2 x3 x4 c0 2) else ((gr Λ c0 5 9).bind fun r20 => (ld Λ q17.1 r20 x1).bind fun v21 => if v21 = 8 then (bM_plan_160 Λ q17.1 c0 x1 x2 x3 x4 c0 3) else (bM_plan_160 Λ q17.1 c0 x1 x2 x3 x4 c0 0)))
def bM_plan_114 (Λ : La) (K62 : Wo → Nat → Int32 → Int32 → Int32 → Int32 → Int32 → Int32 → Option Wo) (w : Wo) (c0 : Nat) (x1 : Int32) (x2 : Int32) (x3 : Int32) (x4 : Int32) (x6 : Int32) (s0 : Int32) : Option Wo := K62 w c0 x1 x2 x3 x4 s0 (x6 + 1)
def bM_plan_113 (Λ : La) (K62 : Wo → Nat → Int32 → Int32 → Int32 → Int32 → Int32 → Int32 → Option Wo) (w : Wo) (c0 : Nat) (x1 : Int32) (x2 : Int32) (x3 : Int32) (x4 : Int32) (x6 : Int32) : Option Wo := bM_plan_114 Λ K62 w c0 x1 x2 x3 x4 x6 0
def bM_plan_62s (Λ : La) (K62 : Wo → Nat → Int32 → Int32 → Int32 → Int32 → Int32 → Int32 → Option Wo) (w : Wo) (c0 : Nat) (x1 : Int32) (x2 : Int32) (x3 : Int32) (x4 : Int32) (x5 : Int32) (x6 : Int32) : Option Wo := (fM_in Λ w x1 2).bind fun q23 => if q23.2 = 0 then (bM_plan_122 Λ q23.1 c0 x1 x2 x3 x4 x5) else ((gr Λ c0 5 9).bind fun r25 => (ld Λ q23.1 r25 x1).bind fun v26 => if v26 ≤ x6 then (bM_plan_122 Λ q23.1 c0 x1 x2 x3 x4 x5) else (if x5 = 0 then (bM_plan_113 Λ K62 q23.1 c0 x1 x2 x3 x4 x6) else ((gr Λ c0 5 10).bind fun r29 => (ld Λ q23.1 r29 ((8 * x1) + x6)).bind fun v30 => (gr Λ c0 5 8).bind fun r31 => (ld Λ q23.1 r31 x1).bind fun v32 => if v30 = (v32 + x2) then (bM_plan_113 Λ K62 q23.1 c0 x1 x2 x3 x4 x6) else (bM_plan_114 Λ K62 q23.1 c0 x1 x2 x3 x4 x6 1))))
def bM_plan_62 (Λ : La) : Nat → Wo → Nat → Int32 → Int32 → Int32 → Int32 → Int32 → Int32 → Option Wo
  | 0 => fun _ _ _ _ _ _ _ _ => none
  | n + 1 => bM_plan_62s Λ (bM_plan_62 Λ n)
def bM_plan_57 (Λ : La) (w : Wo) (c0 : Nat) (x1 : Int32) (x2 : Int32) (x3 : Int32) (x4 : Int32) (s0 : Int32) : Option Wo := bM_plan_62 Λ 1000 w c0 x1 x2 x3 x4 s0 0
def bM_plan_56 (Λ : La) (w : Wo) (c0 : Nat) (x1 : Int32) (x2 : Int32) (x3 : Int32) (x4 : Int32) : Option Wo := bM_plan_57 Λ w c0 x1 x2 x3 x4 0
def bM_plan_52 (Λ : La) (w : Wo) (c0 : Nat) (x1 : Int32) (x2 : Int32) (x3 : Int32) (x4 : Int32) : Option Wo := bM_plan_57 Λ w c0 x1 x2 x3 x4 1
def bM_plan_34 (Λ : La) (w : Wo) (c0 : Nat) (x1 : Int32) (x2 : Int32) (x3 : Int32) (x4 : Int32) : Option Wo := if x3 = 2 then (if x4 < 1 then (bM_plan_56 Λ w c0 x1 x2 x3 x4) else (if 10 < x4 then (bM_plan_56 Λ w c0 x1 x2 x3 x4) else (bM_plan_52 Λ w c0 x1 x2 x3 x4))) else (bM_plan_52 Λ w c0 x1 x2 x3 x4)
def fM_plan (Λ : La) (w : Wo) (c0 : Nat) (x1 : Int32) (x2 : Int32) (x3 : Int32) (x4 : Int32) : Option Wo := gd (isC Λ c0 5) (if x2 < 1 then (bM_plan_56 Λ w c0 x1 x2 x3 x4) else (if 50 < x2 then (bM_plan_56 Λ w c0 x1 x2 x3 x4) else ((fM_in Λ w x3 3).bind fun q39 => if q39.2 = 0 then (bM_plan_56 Λ q39.1 c0 x1 x2 x3 x4) else (if x3 = 1 then ((fM_in Λ q39.1 x4 72).bind fun q42 => if q42.2 = 0 then (bM_plan_56 Λ q42.1 c0 x1 x2 x3 x4) else (bM_plan_34 Λ q42.1 c0 x1 x2 x3 x4)) else (bM_plan_34 Λ q39.1 c0 x1 x2 x3 x4)))))
set_option maxHeartbeats 4000000 in
set_option maxRecDepth 100000 in
theorem kM_plan (l : Launch) (G : va_G) (kA kL : ClassId) (Λ : La) (ad : Nat → Nat) (w : Wo) (c0 : Nat) (x1 : Int32) (x2 : Int32) (x3 : Int32) (x4 : Int32) (w1 : Wo) (hf : fM_plan Λ w c0 x1 x2 x3 x4 = some w1) : Mv l yM_plan cM_plan 7 rmM_plan G kA kL Λ ad [.ref (ad c0), .int x1, .int x2, .int x3, .int x4] w w1 := by
  refine Mv.of (by decide +kernel) (Nat.le_of_ble_eq_true rfl) ?_
  intro p e s m args below meth c Q ls S hret hl hI
  have S : CallFix p m c cM_plan 7 s args (.code yM_plan cM_plan 7 none :: gW) "GuardVolumeModel" := S
  have hl : lv_has ls 7 [(0, .ref (ad c0)), (1, .int x1), (2, .int x2), (3, .int x3), (4, .int x4)] := hl
  have hx := S.1
  have hb := S.2.1
  have bk160 : ∀ (w : Wo) (c0 : Nat) (x1 : Int32) (x2 : Int32) (x3 : Int32) (x4 : Int32) (t0 : Nat) (s1 : Int32) (H : Heap) (locs : List Loc) (ls : Array Slot), lv_has ls 7 [(0, .ref (ad c0)), (1, .int x1), (2, .int x2), (3, .int x3), (4, .int x4)] → Iv (Aa Λ ad) G kA kL Λ ad w s H locs → bM_plan_160 Λ w c0 x1 x2 x3 x4 t0 s1 = some w1 → W p l e rmM_plan s m args below meth c H locs 0 0 Q (F0 m 160 ls [.int s1, .ref (ad t0)]) := by
    intro w c0 x1 x2 x3 x4 t0 s1 H locs ls hl hI hf
    unfold bM_plan_160 at hf
    obtain ⟨w1, hw1, hf⟩ := ob_ hf
    refine r_put (i := 0) S hI fcM (Nat.le_of_ble_eq_true rfl) kw_501 rfl rfl rfl dM_plan_160 hw1 (fun H locs hI => ?_)
    refine lv_aload_n hx hb dM_plan_163 rfl (lv_at hl 0 rfl) ?_
    obtain ⟨v2, hv2, hf⟩ := ob_ hf
    refine r_geti (i := 0) S hI fcM (Nat.le_of_ble_eq_true rfl) kw_501 dM_plan_164 hv2 ?_
    refine lv_if_le (tgt := 171) hx hb dM_plan_167 rfl (fun h3 => ?_) (fun h3 => ?_)
    · have hf := ip_ hf h3
      refine lv_bipush hx hb dM_plan_171 kB_8 ?_
      refine lv_iload_n hx hb dM_plan_173 rfl (lv_at hl 1 rfl) ?_
      refine lv_imul hx hb dM_plan_174 ?_
      refine lv_aload_n hx hb dM_plan_175 rfl (lv_at hl 0 rfl) ?_
      obtain ⟨r4, hr4, hf⟩ := ob_ hf
      refine r_getr (i := 9) S hI fcM (Nat.le_of_ble_eq_true rfl) kw_510 dM_plan_176 hr4 ?_
      refine lv_iload_n hx hb dM_plan_179 rfl (lv_at hl 1 rfl) ?_
      obtain ⟨v5, hv5, hf⟩ := ob_ hf
      refine r_ald S hI dM_plan_180 hv5 ?_
      refine lv_iadd hx hb dM_plan_181 ?_
      refine lv_istore hx hb (lv' := [(6, .int ((8 * x1) + v5)), (0, .ref (ad c0)), (1, .int x1), (2, .int x2), (3, .int x3), (4, .int x4)]) dM_plan_182 hl (Nat.le_of_ble_eq_true rfl) rfl (fun ls hl => ?_)
      refine lv_aload_n hx hb dM_plan_184 rfl (lv_at hl 1 rfl) ?_
      obtain ⟨r6, hr6, hf⟩ := ob_ hf
      refine r_getr (i := 10) S hI fcM (Nat.le_of_ble_eq_true rfl) kw_511 dM_plan_185 hr6 ?_
      refine lv_iload hx hb dM_plan_188 (lv_at hl 0 rfl) ?_
      refine lv_aload_n hx hb dM_plan_190 rfl (lv_at hl 1 rfl) ?_
      obtain ⟨r7, hr7, hf⟩ := ob_ hf
      refine r_getr (i := 8) S hI fcM (Nat.le_of_ble_eq_true rfl) kw_509 dM_plan_191 hr7 ?_
      refine lv_iload_n hx hb dM_plan_194 rfl (lv_at hl 2 rfl) ?_
      obtain ⟨v8, hv8, hf⟩ := ob_ hf
      refine r_ald S hI dM_plan_195 hv8 ?_
      refine lv_iload_n hx hb dM_plan_196 rfl (lv_at hl 3 rfl) ?_
      refine lv_iadd hx hb dM_plan_197 ?_
      obtain ⟨w9, hw9, hf⟩ := ob_ hf
      refine r_ast S hI dM_plan_198 hw9 (fun H locs hI => ?_)
      refine lv_aload_n hx hb dM_plan_199 rfl (lv_at hl 1 rfl) ?_
      obtain ⟨r10, hr10, hf⟩ := ob_ hf
      refine r_getr (i := 11) S hI fcM (Nat.le_of_ble_eq_true rfl) kw_512 dM_plan_200 hr10 ?_
      refine lv_iload hx hb dM_plan_203 (lv_at hl 0 rfl) ?_
      refine lv_iload_n hx hb dM_plan_205 rfl (lv_at hl 4 rfl) ?_
      obtain ⟨w11, hw11, hf⟩ := ob_ hf
      refine r_ast S hI dM_plan_206 hw11 (fun H locs hI => ?_)
      refine lv_aload_n hx hb dM_plan_207 rfl (lv_at hl 1 rfl) ?_
      obtain ⟨r12, hr12, hf⟩ := ob_ hf
      refine r_getr (i := 12) S hI fcM (Nat.le_of_ble_eq_true rfl) kw_513 dM_plan_208 hr12 ?_
      refine lv_iload hx hb dM_plan_211 (lv_at hl 0 rfl) ?_
      refine lv_iload hx hb dM_plan_213 (lv_at hl 5 rfl) ?_
      obtain ⟨w13, hw13, hf⟩ := ob_ hf
      refine r_ast S hI dM_plan_215 hw13 (fun H locs hI => ?_)
      refine lv_aload_n hx hb dM_plan_216 rfl (lv_at hl 1 rfl) ?_
      obtain ⟨r14, hr14, hf⟩ := ob_ hf
      refine r_getr (i := 9) S hI fcM (Nat.le_of_ble_eq_true rfl) kw_510 dM_plan_217 hr14 ?_
      refine lv_iload_n hx hb dM_plan_220 rfl (lv_at hl 2 rfl) ?_
      refine lv_dup2_11 hx hb dM_plan_221 rfl rfl ?_
      obtain ⟨v15, hv15, hf⟩ := ob_ hf
      refine r_ald S hI dM_plan_222 hv15 ?_
      refine lv_iconst hx hb dM_plan_223 kI_1 ?_
      refine lv_iadd hx hb dM_plan_224 ?_
      obtain ⟨w16, hw16, hf⟩ := ob_ hf
      refine r_ast S hI dM_plan_225 hw16 (fun H locs hI => ?_)
      exact hret _ _ _ _ _ hI hf dM_plan_226
    · have hf := in_ hf h3
      exact hret _ _ _ _ _ hI hf dM_plan_170
  have bk122 : ∀ (w : Wo) (c0 : Nat) (x1 : Int32) (x2 : Int32) (x3 : Int32) (x4 : Int32) (x5 : Int32) (H : Heap) (locs : List Loc) (ls : Array Slot), lv_has ls 7 [(0, .ref (ad c0)), (1, .int x1), (2, .int x2), (3, .int x3), (4, .int x4), (5, .int x5)] → Iv (Aa Λ ad) G kA kL Λ ad w s H locs → bM_plan_122 Λ w c0 x1 x2 x3 x4 x5 = some w1 → W p l e rmM_plan s m args below meth c H locs 0 0 Q (F0 m 122 ls []) := by
    intro w c0 x1 x2 x3 x4 x5 H locs ls hl hI hf
    unfold bM_plan_122 at hf
    refine lv_aload_n hx hb dM_plan_122 rfl (lv_at hl 0 rfl) ?_
    refine lv_iload_n hx hb dM_plan_123 rfl (lv_at hl 1 rfl) ?_
    refine lv_iconst hx hb dM_plan_124 kI_2 ?_
    obtain ⟨q17, hq17, hf⟩ := ob_ hf
    refine r_ci (r_S (rest := [.ref (ad c0)]) (As := [.int x1, .int 2]) S hl hI (kM_in l G kA kL Λ ad w x1 2 q17.1 q17.2 hq17) pkM_in kw_571 kw_570 ⟨rfl, rfl⟩ ⟨Nat.le_of_ble_eq_true rfl, Nat.le_of_ble_eq_true rfl⟩ rfl rfl (Nat.le_of_ble_eq_true rfl) ⟨Nat.zero_le _, Nat.zero_le _⟩ dM_plan_125) hI (fun H locs hI => ?_)
    refine lv_if_ne (tgt := 135) hx hb dM_plan_128 rfl (fun h18 => ?_) (fun h18 => ?_)
    · have hf := in_ hf h18
      refine lv_iload hx hb dM_plan_135 (lv_at hl 5 rfl) ?_
      refine lv_if_ne (tgt := 144) hx hb dM_plan_137 rfl (fun h19 => ?_) (fun h19 => ?_)
      · have hf := in_ hf h19
        refine lv_aload_n hx hb dM_plan_144 rfl (lv_at hl 0 rfl) ?_
        obtain ⟨r20, hr20, hf⟩ := ob_ hf
        refine r_getr (i := 9) S hI fcM (Nat.le_of_ble_eq_true rfl) kw_510 dM_plan_145 hr20 ?_
        refine lv_iload_n hx hb dM_plan_148 rfl (lv_at hl 1 rfl) ?_
        obtain ⟨v21, hv21, hf⟩ := ob_ hf
        refine r_ald S hI dM_plan_149 hv21 ?_
        refine lv_bipush hx hb dM_plan_150 kB_8 ?_
        refine lv_icmp_ne (tgt := 159) hx hb dM_plan_152 rfl (fun h22 => ?_) (fun h22 => ?_)
        · have hf := in_ hf h22
          refine lv_iconst hx hb dM_plan_159 kI_0 ?_
          exact bk160 q17.1 c0 x1 x2 x3 x4 c0 0 _ _ _ (lv_sub hl [0, 1, 2, 3, 4] rfl) hI hf
        · have hf := ip_ hf h22
          refine lv_iconst hx hb dM_plan_155 kI_3 ?_
          refine lv_goto (tgt := 160) hx hb dM_plan_156 rfl ?_
          exact bk160 q17.1 c0 x1 x2 x3 x4 c0 3 _ _ _ (lv_sub hl [0, 1, 2, 3, 4] rfl) hI hf
      · have hf := ip_ hf h19
        refine lv_iconst hx hb dM_plan_140 kI_2 ?_
        refine lv_goto (tgt := 160) hx hb dM_plan_141 rfl ?_
        exact bk160 q17.1 c0 x1 x2 x3 x4 c0 2 _ _ _ (lv_sub hl [0, 1, 2, 3, 4] rfl) hI hf
    · have hf := ip_ hf h18
      refine lv_iconst hx hb dM_plan_131 kI_1 ?_
      refine lv_goto (tgt := 160) hx hb dM_plan_132 rfl ?_
      exact bk160 q17.1 c0 x1 x2 x3 x4 c0 1 _ _ _ (lv_sub hl [0, 1, 2, 3, 4] rfl) hI hf
  have bk114 : ∀ (K62 : Wo → Nat → Int32 → Int32 → Int32 → Int32 → Int32 → Int32 → Option Wo), (∀ (w : Wo) (c0 : Nat) (x1 : Int32) (x2 : Int32) (x3 : Int32) (x4 : Int32) (x5 : Int32) (x6 : Int32) (H : Heap) (locs : List Loc) (ls : Array Slot), lv_has ls 7 [(0, .ref (ad c0)), (1, .int x1), (2, .int x2), (3, .int x3), (4, .int x4), (5, .int x5), (6, .int x6)] → Iv (Aa Λ ad) G kA kL Λ ad w s H locs → K62 w c0 x1 x2 x3 x4 x5 x6 = some w1 → W p l e rmM_plan s m args below meth c H locs 0 0 Q (F0 m 62 ls [])) → ∀ (w : Wo) (c0 : Nat) (x1 : Int32) (x2 : Int32) (x3 : Int32) (x4 : Int32) (x6 : Int32) (s0 : Int32) (H : Heap) (locs : List Loc) (ls : Array Slot), lv_has ls 7 [(0, .ref (ad c0)), (1, .int x1), (2, .int x2), (3, .int x3), (4, .int x4), (6, .int x6)] → Iv (Aa Λ ad) G kA kL Λ ad w s H locs → bM_plan_114 Λ K62 w c0 x1 x2 x3 x4 x6 s0 = some w1 → W p l e rmM_plan s m args below meth c H locs 0 0 Q (F0 m 114 ls [.int s0]) := by
    intro K62 hK62 w c0 x1 x2 x3 x4 x6 s0 H locs ls hl hI hf
    unfold bM_plan_114 at hf
    refine lv_istore hx hb (lv' := [(5, .int s0), (0, .ref (ad c0)), (1, .int x1), (2, .int x2), (3, .int x3), (4, .int x4), (6, .int x6)]) dM_plan_114 hl (Nat.le_of_ble_eq_true rfl) rfl (fun ls hl => ?_)
    refine lv_iinc hx hb (lv' := [(6, .int (x6 + 1)), (5, .int s0), (0, .ref (ad c0)), (1, .int x1), (2, .int x2), (3, .int x3), (4, .int x4)]) (k := 6) dM_plan_116 hl rfl (kN_1 _) (Nat.le_of_ble_eq_true rfl) rfl (fun ls hl => ?_)
    refine lv_goto (tgt := 62) hx hb dM_plan_119 rfl ?_
    exact hK62 w c0 x1 x2 x3 x4 s0 (x6 + 1) _ _ _ (lv_sub hl [2, 3, 4, 5, 6, 1, 0] rfl) hI hf
  have bk113 : ∀ (K62 : Wo → Nat → Int32 → Int32 → Int32 → Int32 → Int32 → Int32 → Option Wo), (∀ (w : Wo) (c0 : Nat) (x1 : Int32) (x2 : Int32) (x3 : Int32) (x4 : Int32) (x5 : Int32) (x6 : Int32) (H : Heap) (locs : List Loc) (ls : Array Slot), lv_has ls 7 [(0, .ref (ad c0)), (1, .int x1), (2, .int x2), (3, .int x3), (4, .int x4), (5, .int x5), (6, .int x6)] → Iv (Aa Λ ad) G kA kL Λ ad w s H locs → K62 w c0 x1 x2 x3 x4 x5 x6 = some w1 → W p l e rmM_plan s m args below meth c H locs 0 0 Q (F0 m 62 ls [])) → ∀ (w : Wo) (c0 : Nat) (x1 : Int32) (x2 : Int32) (x3 : Int32) (x4 : Int32) (x6 : Int32) (H : Heap) (locs : List Loc) (ls : Array Slot), lv_has ls 7 [(0, .ref (ad c0)), (1, .int x1), (2, .int x2), (3, .int x3), (4, .int x4), (6, .int x6)] → Iv (Aa Λ ad) G kA kL Λ ad w s H locs → bM_plan_113 Λ K62 w c0 x1 x2 x3 x4 x6 = some w1 → W p l e rmM_plan s m args below meth c H locs 0 0 Q (F0 m 113 ls []) := by
    intro K62 hK62 w c0 x1 x2 x3 x4 x6 H locs ls hl hI hf
    unfold bM_plan_113 at hf
    refine lv_iconst hx hb dM_plan_113 kI_0 ?_
    exact bk114 K62 hK62 w c0 x1 x2 x3 x4 x6 0 _ _ _ (lv_sub hl [0, 1, 2, 3, 4, 5] rfl) hI hf
  have bk62 : ∀ (K62 : Wo → Nat → Int32 → Int32 → Int32 → Int32 → Int32 → Int32 → Option Wo), (∀ (w : Wo) (c0 : Nat) (x1 : Int32) (x2 : Int32) (x3 : Int32) (x4 : Int32) (x5 : Int32) (x6 : Int32) (H : Heap) (locs : List Loc) (ls : Array Slot), lv_has ls 7 [(0, .ref (ad c0)), (1, .int x1), (2, .int x2), (3, .int x3), (4, .int x4), (5, .int x5), (6, .int x6)] → Iv (Aa Λ ad) G kA kL Λ ad w s H locs → K62 w c0 x1 x2 x3 x4 x5 x6 = some w1 → W p l e rmM_plan s m args below meth c H locs 0 0 Q (F0 m 62 ls [])) → ∀ (w : Wo) (c0 : Nat) (x1 : Int32) (x2 : Int32) (x3 : Int32) (x4 : Int32) (x5 : Int32) (x6 : Int32) (H : Heap) (locs : List Loc) (ls : Array Slot), lv_has ls 7 [(0, .ref (ad c0)), (1, .int x1), (2, .int x2), (3, .int x3), (4, .int x4), (5, .int x5), (6, .int x6)] → Iv (Aa Λ ad) G kA kL Λ ad w s H locs → bM_plan_62s Λ K62 w c0 x1 x2 x3 x4 x5 x6 = some w1 → W p l e rmM_plan s m args below meth c H locs 0 0 Q (F0 m 62 ls []) := by
    intro K62 hK62 w c0 x1 x2 x3 x4 x5 x6 H locs ls hl hI hf
    unfold bM_plan_62s at hf
    refine lv_iload_n hx hb dM_plan_62 rfl (lv_at hl 1 rfl) ?_
    refine lv_iconst hx hb dM_plan_63 kI_2 ?_
    obtain ⟨q23, hq23, hf⟩ := ob_ hf
    refine r_ci (r_S (rest := []) (As := [.int x1, .int 2]) S hl hI (kM_in l G kA kL Λ ad w x1 2 q23.1 q23.2 hq23) pkM_in kw_571 kw_570 ⟨rfl, rfl⟩ ⟨Nat.le_of_ble_eq_true rfl, Nat.le_of_ble_eq_true rfl⟩ rfl rfl (Nat.le_of_ble_eq_true rfl) ⟨Nat.zero_le _, Nat.zero_le _⟩ dM_plan_64) hI (fun H locs hI => ?_)
    refine lv_if_eq (tgt := 122) hx hb dM_plan_67 rfl (fun h24 => ?_) (fun h24 => ?_)
    · have hf := ip_ hf h24
      exact bk122 q23.1 c0 x1 x2 x3 x4 x5 _ _ _ (lv_sub hl [0, 1, 2, 3, 4, 5] rfl) hI hf
    · have hf := in_ hf h24
      refine lv_iload hx hb dM_plan_70 (lv_at hl 6 rfl) ?_
      refine lv_aload_n hx hb dM_plan_72 rfl (lv_at hl 0 rfl) ?_
      obtain ⟨r25, hr25, hf⟩ := ob_ hf
      refine r_getr (i := 9) S hI fcM (Nat.le_of_ble_eq_true rfl) kw_510 dM_plan_73 hr25 ?_
      refine lv_iload_n hx hb dM_plan_76 rfl (lv_at hl 1 rfl) ?_
      obtain ⟨v26, hv26, hf⟩ := ob_ hf
      refine r_ald S hI dM_plan_77 hv26 ?_
      refine lv_icmp_ge (tgt := 122) hx hb dM_plan_78 rfl (fun h27 => ?_) (fun h27 => ?_)
      · have hf := ip_ hf h27
        exact bk122 q23.1 c0 x1 x2 x3 x4 x5 _ _ _ (lv_sub hl [0, 1, 2, 3, 4, 5] rfl) hI hf
      · have hf := in_ hf h27
        refine lv_iload hx hb dM_plan_81 (lv_at hl 5 rfl) ?_
        refine lv_if_eq (tgt := 113) hx hb dM_plan_83 rfl (fun h28 => ?_) (fun h28 => ?_)
        · have hf := ip_ hf h28
          exact bk113 K62 hK62 q23.1 c0 x1 x2 x3 x4 x6 _ _ _ (lv_sub hl [0, 1, 2, 3, 4, 6] rfl) hI hf
        · have hf := in_ hf h28
          refine lv_aload_n hx hb dM_plan_86 rfl (lv_at hl 0 rfl) ?_
          obtain ⟨r29, hr29, hf⟩ := ob_ hf
          refine r_getr (i := 10) S hI fcM (Nat.le_of_ble_eq_true rfl) kw_511 dM_plan_87 hr29 ?_
          refine lv_bipush hx hb dM_plan_90 kB_8 ?_
          refine lv_iload_n hx hb dM_plan_92 rfl (lv_at hl 1 rfl) ?_
          refine lv_imul hx hb dM_plan_93 ?_
          refine lv_iload hx hb dM_plan_94 (lv_at hl 6 rfl) ?_
          refine lv_iadd hx hb dM_plan_96 ?_
          obtain ⟨v30, hv30, hf⟩ := ob_ hf
          refine r_ald S hI dM_plan_97 hv30 ?_
          refine lv_aload_n hx hb dM_plan_98 rfl (lv_at hl 0 rfl) ?_
          obtain ⟨r31, hr31, hf⟩ := ob_ hf
          refine r_getr (i := 8) S hI fcM (Nat.le_of_ble_eq_true rfl) kw_509 dM_plan_99 hr31 ?_
          refine lv_iload_n hx hb dM_plan_102 rfl (lv_at hl 1 rfl) ?_
          obtain ⟨v32, hv32, hf⟩ := ob_ hf
          refine r_ald S hI dM_plan_103 hv32 ?_
          refine lv_iload_n hx hb dM_plan_104 rfl (lv_at hl 2 rfl) ?_
          refine lv_iadd hx hb dM_plan_105 ?_
          refine lv_icmp_eq (tgt := 113) hx hb dM_plan_106 rfl (fun h33 => ?_) (fun h33 => ?_)
          · have hf := ip_ hf h33
            exact bk113 K62 hK62 q23.1 c0 x1 x2 x3 x4 x6 _ _ _ (lv_sub hl [0, 1, 2, 3, 4, 6] rfl) hI hf
          · have hf := in_ hf h33
            refine lv_iconst hx hb dM_plan_109 kI_1 ?_
            refine lv_goto (tgt := 114) hx hb dM_plan_110 rfl ?_
            exact bk114 K62 hK62 q23.1 c0 x1 x2 x3 x4 x6 1 _ _ _ (lv_sub hl [0, 1, 2, 3, 4, 6] rfl) hI hf
  have lp62 : ∀ (n : Nat), ∀ (w : Wo) (c0 : Nat) (x1 : Int32) (x2 : Int32) (x3 : Int32) (x4 : Int32) (x5 : Int32) (x6 : Int32) (H : Heap) (locs : List Loc) (ls : Array Slot), lv_has ls 7 [(0, .ref (ad c0)), (1, .int x1), (2, .int x2), (3, .int x3), (4, .int x4), (5, .int x5), (6, .int x6)] → Iv (Aa Λ ad) G kA kL Λ ad w s H locs → bM_plan_62 Λ n w c0 x1 x2 x3 x4 x5 x6 = some w1 → W p l e rmM_plan s m args below meth c H locs 0 0 Q (F0 m 62 ls []) := by
    intro n
    induction n with
    | zero =>
      intro w c0 x1 x2 x3 x4 x5 x6 H locs ls hl hI hf
      have hf : (none : Option Wo) = some w1 := hf
      cases hf
    | succ n ih =>
      intro w c0 x1 x2 x3 x4 x5 x6 H locs ls hl hI hf
      exact bk62 (bM_plan_62 Λ n) ih w c0 x1 x2 x3 x4 x5 x6 H locs ls hl hI hf
  have bk57 : ∀ (w : Wo) (c0 : Nat) (x1 : Int32) (x2 : Int32) (x3 : Int32) (x4 : Int32) (s0 : Int32) (H : Heap) (locs : List Loc) (ls : Array Slot), lv_has ls 7 [(0, .ref (ad c0)), (1, .int x1), (2, .int x2), (3, .int x3), (4, .int x4)] → Iv (Aa Λ ad) G kA kL Λ ad w s H locs → bM_plan_57 Λ w c0 x1 x2 x3 x4 s0 = some w1 → W p l e rmM_plan s m args below meth c H locs 0 0 Q (F0 m 57 ls [.int s0]) := by
    intro w c0 x1 x2 x3 x4 s0 H locs ls hl hI hf
    unfold bM_plan_57 at hf
    refine lv_istore hx hb (lv' := [(5, .int s0), (0, .ref (ad c0)), (1, .int x1), (2, .int x2), (3, .int x3), (4, .int x4)]) dM_plan_57 hl (Nat.le_of_ble_eq_true rfl) rfl (fun ls hl => ?_)
    refine lv_iconst hx hb dM_plan_59 kI_0 ?_
    refine lv_istore hx hb (lv' := [(6, .int 0), (5, .int s0), (0, .ref (ad c0)), (1, .int x1), (2, .int x2), (3, .int x3), (4, .int x4)]) dM_plan_60 hl (Nat.le_of_ble_eq_true rfl) rfl (fun ls hl => ?_)
    exact lp62 1000 w c0 x1 x2 x3 x4 s0 0 _ _ _ (lv_sub hl [2, 3, 4, 5, 6, 1, 0] rfl) hI hf
  have bk56 : ∀ (w : Wo) (c0 : Nat) (x1 : Int32) (x2 : Int32) (x3 : Int32) (x4 : Int32) (H : Heap) (locs : List Loc) (ls : Array Slot), lv_has ls 7 [(0, .ref (ad c0)), (1, .int x1), (2, .int x2), (3, .int x3), (4, .int x4)] → Iv (Aa Λ ad) G kA kL Λ ad w s H locs → bM_plan_56 Λ w c0 x1 x2 x3 x4 = some w1 → W p l e rmM_plan s m args below meth c H locs 0 0 Q (F0 m 56 ls []) := by
    intro w c0 x1 x2 x3 x4 H locs ls hl hI hf
    unfold bM_plan_56 at hf
    refine lv_iconst hx hb dM_plan_56 kI_0 ?_
    exact bk57 w c0 x1 x2 x3 x4 0 _ _ _ (lv_sub hl [0, 1, 2, 3, 4] rfl) hI hf
  have bk52 : ∀ (w : Wo) (c0 : Nat) (x1 : Int32) (x2 : Int32) (x3 : Int32) (x4 : Int32) (H : Heap) (locs : List Loc) (ls : Array Slot), lv_has ls 7 [(0, .ref (ad c0)), (1, .int x1), (2, .int x2), (3, .int x3), (4, .int x4)] → Iv (Aa Λ ad) G kA kL Λ ad w s H locs → bM_plan_52 Λ w c0 x1 x2 x3 x4 = some w1 → W p l e rmM_plan s m args below meth c H locs 0 0 Q (F0 m 52 ls []) := by
    intro w c0 x1 x2 x3 x4 H locs ls hl hI hf
    unfold bM_plan_52 at hf
    refine lv_iconst hx hb dM_plan_52 kI_1 ?_
    refine lv_goto (tgt := 57) hx hb dM_plan_53 rfl ?_
    exact bk57 w c0 x1 x2 x3 x4 1 _ _ _ (lv_sub hl [0, 1, 2, 3, 4] rfl) hI hf
  have bk34 : ∀ (w : Wo) (c0 : Nat) (x1 : Int32) (x2 : Int32) (x3 : Int32) (x4 : Int32) (H : Heap) (locs : List Loc) (ls : Array Slot), lv_has ls 7 [(0, .ref (ad c0)), (1, .int x1), (2, .int x2), (3, .int x3), (4, .int x4)] → Iv (Aa Λ ad) G kA kL Λ ad w s H locs → bM_plan_34 Λ w c0 x1 x2 x3 x4 = some w1 → W p l e rmM_plan s m args below meth c H locs 0 0 Q (F0 m 34 ls []) := by
    intro w c0 x1 x2 x3 x4 H locs ls hl hI hf
    unfold bM_plan_34 at hf
    refine lv_iload_n hx hb dM_plan_34 rfl (lv_at hl 3 rfl) ?_
    refine lv_iconst hx hb dM_plan_35 kI_2 ?_
    refine lv_icmp_ne (tgt := 52) hx hb dM_plan_36 rfl (fun h34 => ?_) (fun h34 => ?_)
    · have hf := in_ hf h34
      exact bk52 w c0 x1 x2 x3 x4 _ _ _ (lv_sub hl [0, 1, 2, 3, 4] rfl) hI hf
    · have hf := ip_ hf h34
      refine lv_iload hx hb dM_plan_39 (lv_at hl 4 rfl) ?_
      refine lv_iconst hx hb dM_plan_41 kI_1 ?_
      refine lv_icmp_lt (tgt := 56) hx hb dM_plan_42 rfl (fun h35 => ?_) (fun h35 => ?_)
      · have hf := ip_ hf h35
        exact bk56 w c0 x1 x2 x3 x4 _ _ _ (lv_sub hl [0, 1, 2, 3, 4] rfl) hI hf
      · have hf := in_ hf h35
        refine lv_iload hx hb dM_plan_45 (lv_at hl 4 rfl) ?_
        refine lv_bipush hx hb dM_plan_47 kB_10 ?_
        refine lv_icmp_gt (tgt := 56) hx hb dM_plan_49 rfl (fun h36 => ?_) (fun h36 => ?_)
        · have hf := ip_ hf h36
          exact bk56 w c0 x1 x2 x3 x4 _ _ _ (lv_sub hl [0, 1, 2, 3, 4] rfl) hI hf
        · have hf := in_ hf h36
          exact bk52 w c0 x1 x2 x3 x4 _ _ _ (lv_sub hl [0, 1, 2, 3, 4] rfl) hI hf
  unfold fM_plan at hf
  have hf := (gd_some hf).2
  refine lv_iload_n hx hb dM_plan_0 rfl (lv_at hl 2 rfl) ?_
  refine lv_iconst hx hb dM_plan_1 kI_1 ?_
  refine lv_icmp_lt (tgt := 56) hx hb dM_plan_2 rfl (fun h37 => ?_) (fun h37 => ?_)
  · have hf := ip_ hf h37
    exact bk56 w c0 x1 x2 x3 x4 _ _ _ (lv_sub hl [0, 1, 2, 3, 4] rfl) hI hf
  · have hf := in_ hf h37
    refine lv_iload_n hx hb dM_plan_5 rfl (lv_at hl 2 rfl) ?_
    refine lv_bipush hx hb dM_plan_6 kB_50 ?_
    refine lv_icmp_gt (tgt := 56) hx hb dM_plan_8 rfl (fun h38 => ?_) (fun h38 => ?_)
    · have hf := ip_ hf h38
      exact bk56 w c0 x1 x2 x3 x4 _ _ _ (lv_sub hl [0, 1, 2, 3, 4] rfl) hI hf
    · have hf := in_ hf h38
      refine lv_iload_n hx hb dM_plan_11 rfl (lv_at hl 3 rfl) ?_
      refine lv_iconst hx hb dM_plan_12 kI_3 ?_
      obtain ⟨q39, hq39, hf⟩ := ob_ hf
      refine r_ci (r_S (rest := []) (As := [.int x3, .int 3]) S hl hI (kM_in l G kA kL Λ ad w x3 3 q39.1 q39.2 hq39) pkM_in kw_571 kw_570 ⟨rfl, rfl⟩ ⟨Nat.le_of_ble_eq_true rfl, Nat.le_of_ble_eq_true rfl⟩ rfl rfl (Nat.le_of_ble_eq_true rfl) ⟨Nat.zero_le _, Nat.zero_le _⟩ dM_plan_13) hI (fun H locs hI => ?_)
      refine lv_if_eq (tgt := 56) hx hb dM_plan_16 rfl (fun h40 => ?_) (fun h40 => ?_)
      · have hf := ip_ hf h40
        exact bk56 q39.1 c0 x1 x2 x3 x4 _ _ _ (lv_sub hl [0, 1, 2, 3, 4] rfl) hI hf
      · have hf := in_ hf h40
        refine lv_iload_n hx hb dM_plan_19 rfl (lv_at hl 3 rfl) ?_
        refine lv_iconst hx hb dM_plan_20 kI_1 ?_
        refine lv_icmp_ne (tgt := 34) hx hb dM_plan_21 rfl (fun h41 => ?_) (fun h41 => ?_)
        · have hf := in_ hf h41
          exact bk34 q39.1 c0 x1 x2 x3 x4 _ _ _ (lv_sub hl [0, 1, 2, 3, 4] rfl) hI hf
        · have hf := ip_ hf h41
          refine lv_iload hx hb dM_plan_24 (lv_at hl 4 rfl) ?_
          refine lv_bipush hx hb dM_plan_26 kB_72 ?_
          obtain ⟨q42, hq42, hf⟩ := ob_ hf
          refine r_ci (r_S (rest := []) (As := [.int x4, .int 72]) S hl hI (kM_in l G kA kL Λ ad q39.1 x4 72 q42.1 q42.2 hq42) pkM_in kw_571 kw_570 ⟨rfl, rfl⟩ ⟨Nat.le_of_ble_eq_true rfl, Nat.le_of_ble_eq_true rfl⟩ rfl rfl (Nat.le_of_ble_eq_true rfl) ⟨Nat.zero_le _, Nat.zero_le _⟩ dM_plan_28) hI (fun H locs hI => ?_)
          refine lv_if_eq (tgt := 56) hx hb dM_plan_31 rfl (fun h43 => ?_) (fun h43 => ?_)
          · have hf := ip_ hf h43
            exact bk56 q42.1 c0 x1 x2 x3 x4 _ _ _ (lv_sub hl [0, 1, 2, 3, 4] rfl) hI hf
          · have hf := in_ hf h43
            exact bk34 q42.1 c0 x1 x2 x3 x4 _ _ _ (lv_sub hl [0, 1, 2, 3, 4] rfl) hI hf
/-- GuardVolumeModel.cutAfter(I)V -/
abbrev rmM_cutAfter : Room := { frames := 0, cells := 0, slots := 0, locals := 0 }
theorem pkM_cutAfter : Pk yM_cutAfter cM_cutAfter 2 none 1 := ⟨kw_652, kw_7, by decide +kernel, by decide +kernel, by decide +kernel⟩
def bM_cutAfter_47 (Λ : La) (w : Wo) (t0 : Nat) (s1 : Int32) : Option Wo := (pf Λ w t0 5 7 s1).bind fun w1 => some w1
def bM_cutAfter_28 (Λ : La) (w : Wo) (c0 : Nat) (x1 : Int32) (t0 : Nat) (s1 : Int32) : Option Wo := (pf Λ w t0 5 0 s1).bind fun w2 => (gi Λ w2 c0 5 0).bind fun v3 => if v3 ≤ 0 then (bM_cutAfter_47 Λ w2 c0 x1) else ((gi Λ w2 c0 5 7).bind fun v5 => bM_cutAfter_47 Λ w2 c0 v5)
def bM_cutAfter_12 (Λ : La) (w : Wo) (c0 : Nat) (x1 : Int32) (t0 : Nat) : Option Wo := bM_cutAfter_28 Λ w c0 x1 t0 1
def fM_cutAfter (Λ : La) (w : Wo) (c0 : Nat) (x1 : Int32) : Option Wo := gd (isC Λ c0 5) (if x1 < (-1) then (bM_cutAfter_12 Λ w c0 x1 c0) else (if x1 ≤ 100 then ((gi Λ w c0 5 6).bind fun v8 => if v8 = 0 then (bM_cutAfter_28 Λ w c0 x1 c0 0) else (bM_cutAfter_28 Λ w c0 x1 c0 2)) else (bM_cutAfter_12 Λ w c0 x1 c0)))
set_option maxHeartbeats 4000000 in
set_option maxRecDepth 100000 in
theorem kM_cutAfter (l : Launch) (G : va_G) (kA kL : ClassId) (Λ : La) (ad : Nat → Nat) (w : Wo) (c0 : Nat) (x1 : Int32) (w1 : Wo) (hf : fM_cutAfter Λ w c0 x1 = some w1) : Mv l yM_cutAfter cM_cutAfter 2 rmM_cutAfter G kA kL Λ ad [.ref (ad c0), .int x1] w w1 := by
  refine Mv.of (by decide +kernel) (Nat.le_of_ble_eq_true rfl) ?_
  intro p e s m args below meth c Q ls S hret hl hI
  have S : CallFix p m c cM_cutAfter 2 s args (.code yM_cutAfter cM_cutAfter 2 none :: gW) "GuardVolumeModel" := S
  have hl : lv_has ls 2 [(0, .ref (ad c0)), (1, .int x1)] := hl
  have hx := S.1
  have hb := S.2.1
  have bk47 : ∀ (w : Wo) (t0 : Nat) (s1 : Int32) (H : Heap) (locs : List Loc) (ls : Array Slot), lv_has ls 2 [] → Iv (Aa Λ ad) G kA kL Λ ad w s H locs → bM_cutAfter_47 Λ w t0 s1 = some w1 → W p l e rmM_cutAfter s m args below meth c H locs 0 0 Q (F0 m 47 ls [.int s1, .ref (ad t0)]) := by
    intro w t0 s1 H locs ls hl hI hf
    unfold bM_cutAfter_47 at hf
    obtain ⟨w1, hw1, hf⟩ := ob_ hf
    refine r_put (i := 7) S hI fcM (Nat.le_of_ble_eq_true rfl) kw_508 rfl rfl rfl dM_cutAfter_47 hw1 (fun H locs hI => ?_)
    exact hret _ _ _ _ _ hI hf dM_cutAfter_50
  have bk28 : ∀ (w : Wo) (c0 : Nat) (x1 : Int32) (t0 : Nat) (s1 : Int32) (H : Heap) (locs : List Loc) (ls : Array Slot), lv_has ls 2 [(0, .ref (ad c0)), (1, .int x1)] → Iv (Aa Λ ad) G kA kL Λ ad w s H locs → bM_cutAfter_28 Λ w c0 x1 t0 s1 = some w1 → W p l e rmM_cutAfter s m args below meth c H locs 0 0 Q (F0 m 28 ls [.int s1, .ref (ad t0)]) := by
    intro w c0 x1 t0 s1 H locs ls hl hI hf
    unfold bM_cutAfter_28 at hf
    obtain ⟨w2, hw2, hf⟩ := ob_ hf
    refine r_put (i := 0) S hI fcM (Nat.le_of_ble_eq_true rfl) kw_501 rfl rfl rfl dM_cutAfter_28 hw2 (fun H locs hI => ?_)
    refine lv_aload_n hx hb dM_cutAfter_31 rfl (lv_at hl 0 rfl) ?_
    refine lv_aload_n hx hb dM_cutAfter_32 rfl (lv_at hl 0 rfl) ?_
    obtain ⟨v3, hv3, hf⟩ := ob_ hf
    refine r_geti (i := 0) S hI fcM (Nat.le_of_ble_eq_true rfl) kw_501 dM_cutAfter_33 hv3 ?_
    refine lv_if_le (tgt := 46) hx hb dM_cutAfter_36 rfl (fun h4 => ?_) (fun h4 => ?_)
    · have hf := ip_ hf h4
      refine lv_iload_n hx hb dM_cutAfter_46 rfl (lv_at hl 1 rfl) ?_
      exact bk47 w2 c0 x1 _ _ _ (lv_sub hl [] rfl) hI hf
    · have hf := in_ hf h4
      refine lv_aload_n hx hb dM_cutAfter_39 rfl (lv_at hl 0 rfl) ?_
      obtain ⟨v5, hv5, hf⟩ := ob_ hf
      refine r_geti (i := 7) S hI fcM (Nat.le_of_ble_eq_true rfl) kw_508 dM_cutAfter_40 hv5 ?_
      refine lv_goto (tgt := 47) hx hb dM_cutAfter_43 rfl ?_
      exact bk47 w2 c0 v5 _ _ _ (lv_sub hl [] rfl) hI hf
  have bk12 : ∀ (w : Wo) (c0 : Nat) (x1 : Int32) (t0 : Nat) (H : Heap) (locs : List Loc) (ls : Array Slot), lv_has ls 2 [(0, .ref (ad c0)), (1, .int x1)] → Iv (Aa Λ ad) G kA kL Λ ad w s H locs → bM_cutAfter_12 Λ w c0 x1 t0 = some w1 → W p l e rmM_cutAfter s m args below meth c H locs 0 0 Q (F0 m 12 ls [.ref (ad t0)]) := by
    intro w c0 x1 t0 H locs ls hl hI hf
    unfold bM_cutAfter_12 at hf
    refine lv_iconst hx hb dM_cutAfter_12 kI_1 ?_
    refine lv_goto (tgt := 28) hx hb dM_cutAfter_13 rfl ?_
    exact bk28 w c0 x1 t0 1 _ _ _ (lv_sub hl [0, 1] rfl) hI hf
  unfold fM_cutAfter at hf
  have hf := (gd_some hf).2
  refine lv_aload_n hx hb dM_cutAfter_0 rfl (lv_at hl 0 rfl) ?_
  refine lv_iload_n hx hb dM_cutAfter_1 rfl (lv_at hl 1 rfl) ?_
  refine lv_iconst hx hb dM_cutAfter_2 kI_m1 ?_
  refine lv_icmp_lt (tgt := 12) hx hb dM_cutAfter_3 rfl (fun h6 => ?_) (fun h6 => ?_)
  · have hf := ip_ hf h6
    exact bk12 w c0 x1 c0 _ _ _ (lv_sub hl [0, 1] rfl) hI hf
  · have hf := in_ hf h6
    refine lv_iload_n hx hb dM_cutAfter_6 rfl (lv_at hl 1 rfl) ?_
    refine lv_bipush hx hb dM_cutAfter_7 kB_100 ?_
    refine lv_icmp_le (tgt := 16) hx hb dM_cutAfter_9 rfl (fun h7 => ?_) (fun h7 => ?_)
    · have hf := ip_ hf h7
      refine lv_aload_n hx hb dM_cutAfter_16 rfl (lv_at hl 0 rfl) ?_
      obtain ⟨v8, hv8, hf⟩ := ob_ hf
      refine r_geti (i := 6) S hI fcM (Nat.le_of_ble_eq_true rfl) kw_507 dM_cutAfter_17 hv8 ?_
      refine lv_if_eq (tgt := 27) hx hb dM_cutAfter_20 rfl (fun h9 => ?_) (fun h9 => ?_)
      · have hf := ip_ hf h9
        refine lv_iconst hx hb dM_cutAfter_27 kI_0 ?_
        exact bk28 w c0 x1 c0 0 _ _ _ (lv_sub hl [0, 1] rfl) hI hf
      · have hf := in_ hf h9
        refine lv_iconst hx hb dM_cutAfter_23 kI_2 ?_
        refine lv_goto (tgt := 28) hx hb dM_cutAfter_24 rfl ?_
        exact bk28 w c0 x1 c0 2 _ _ _ (lv_sub hl [0, 1] rfl) hI hf
    · have hf := in_ hf h7
      exact bk12 w c0 x1 c0 _ _ _ (lv_sub hl [0, 1] rfl) hI hf
/-- GuardVolumeModel.start()I -/
abbrev rmM_start : Room := { frames := 7, cells := 0, slots := 0, locals := 164 }
theorem pkM_start : Pk yM_start cM_start 3 (some .int) 0 := ⟨kw_656, kw_7, by decide +kernel, by decide +kernel, by decide +kernel⟩
def bM_start_96 (Λ : La) (w : Wo) (c0 : Nat) (x1 : Int32) : Option (Wo × Int32) := (gr Λ c0 5 8).bind fun r1 => (ld Λ w r1 0).bind fun v2 => (gr Λ c0 5 8).bind fun r3 => (ld Λ w r3 1).bind fun v4 => some (w, ((v2 + v4) - x1))
def bM_start_59s (Λ : La) (K59 : Wo → Nat → Int32 → Int32 → Option (Wo × Int32)) (w : Wo) (c0 : Nat) (x1 : Int32) (x2 : Int32) : Option (Wo × Int32) := if 8 ≤ x2 then ((gi Λ w c0 5 3).bind fun v6 => (gi Λ w c0 5 5).bind fun v7 => (fM_put Λ w c0 v6 v7).bind fun q8 => bM_start_96 Λ q8.1 c0 x1) else ((gr Λ c0 5 19).bind fun r9 => (gr Λ c0 5 4).bind fun r10 => (ld Λ w r10 x2).bind fun v11 => (st Λ w r9 x2 v11).bind fun w12 => K59 w12 c0 x1 (x2 + 1))
def bM_start_59 (Λ : La) : Nat → Wo → Nat → Int32 → Int32 → Option (Wo × Int32)
  | 0 => fun _ _ _ _ => none
  | n + 1 => bM_start_59s Λ (bM_start_59 Λ n)
def bM_start_13 (Λ : La) (w : Wo) (c0 : Nat) (t0 : Nat) (s1 : Int32) : Option (Wo × Int32) := (pf Λ w t0 5 0 s1).bind fun w13 => (gi Λ w13 c0 5 0).bind fun v14 => if v14 ≤ 0 then ((pf Λ w13 c0 5 6 0).bind fun w16 => (pf Λ w16 c0 5 7 (-1)).bind fun w17 => (gr Λ c0 5 8).bind fun r18 => (ld Λ w17 r18 0).bind fun v19 => (gr Λ c0 5 8).bind fun r20 => (ld Λ w17 r20 1).bind fun v21 => (gi Λ w17 c0 5 3).bind fun v22 => if v22 = (-1) then (bM_start_96 Λ w17 c0 (v19 + v21)) else (bM_start_59 Λ 1000 w17 c0 (v19 + v21) 0)) else (some (w13, 0))
def fM_start (Λ : La) (w : Wo) (c0 : Nat) : Option (Wo × Int32) := gd (isC Λ c0 5) ((gi Λ w c0 5 6).bind fun v24 => if v24 = 0 then (bM_start_13 Λ w c0 c0 1) else (bM_start_13 Λ w c0 c0 0))
set_option maxHeartbeats 4000000 in
set_option maxRecDepth 100000 in
theorem kM_start (l : Launch) (G : va_G) (kA kL : ClassId) (Λ : La) (ad : Nat → Nat) (w : Wo) (c0 : Nat) (w1 : Wo) (r : Int32) (hf : fM_start Λ w c0 = some (w1, r)) : Mi l yM_start cM_start 3 (some .int) rmM_start G kA kL Λ ad [.ref (ad c0)] w w1 r := by
  refine Mi.of (by decide +kernel) (Nat.le_of_ble_eq_true rfl) ?_
  intro p e s m args below meth c Q ls S hret hl hI
  have S : CallFix p m c cM_start 3 s args (.code yM_start cM_start 3 (some .int) :: gW) "GuardVolumeModel" := S
  have hl : lv_has ls 3 [(0, .ref (ad c0))] := hl
  have hx := S.1
  have hb := S.2.1
  have bk96 : ∀ (w : Wo) (c0 : Nat) (x1 : Int32) (H : Heap) (locs : List Loc) (ls : Array Slot), lv_has ls 3 [(0, .ref (ad c0)), (1, .int x1)] → Iv (Aa Λ ad) G kA kL Λ ad w s H locs → bM_start_96 Λ w c0 x1 = some (w1, r) → W p l e rmM_start s m args below meth c H locs 0 0 Q (F0 m 96 ls []) := by
    intro w c0 x1 H locs ls hl hI hf
    unfold bM_start_96 at hf
    refine lv_aload_n hx hb dM_start_96 rfl (lv_at hl 0 rfl) ?_
    obtain ⟨r1, hr1, hf⟩ := ob_ hf
    refine r_getr (i := 8) S hI fcM (Nat.le_of_ble_eq_true rfl) kw_509 dM_start_97 hr1 ?_
    refine lv_iconst hx hb dM_start_100 kI_0 ?_
    obtain ⟨v2, hv2, hf⟩ := ob_ hf
    refine r_ald S hI dM_start_101 hv2 ?_
    refine lv_aload_n hx hb dM_start_102 rfl (lv_at hl 0 rfl) ?_
    obtain ⟨r3, hr3, hf⟩ := ob_ hf
    refine r_getr (i := 8) S hI fcM (Nat.le_of_ble_eq_true rfl) kw_509 dM_start_103 hr3 ?_
    refine lv_iconst hx hb dM_start_106 kI_1 ?_
    obtain ⟨v4, hv4, hf⟩ := ob_ hf
    refine r_ald S hI dM_start_107 hv4 ?_
    refine lv_iadd hx hb dM_start_108 ?_
    refine lv_iload_n hx hb dM_start_109 rfl (lv_at hl 1 rfl) ?_
    refine lv_isub hx hb dM_start_110 ?_
    exact hret _ _ _ _ _ _ hI hf dM_start_111
  have bk59 : ∀ (K59 : Wo → Nat → Int32 → Int32 → Option (Wo × Int32)), (∀ (w : Wo) (c0 : Nat) (x1 : Int32) (x2 : Int32) (H : Heap) (locs : List Loc) (ls : Array Slot), lv_has ls 3 [(0, .ref (ad c0)), (1, .int x1), (2, .int x2)] → Iv (Aa Λ ad) G kA kL Λ ad w s H locs → K59 w c0 x1 x2 = some (w1, r) → W p l e rmM_start s m args below meth c H locs 0 0 Q (F0 m 59 ls [])) → ∀ (w : Wo) (c0 : Nat) (x1 : Int32) (x2 : Int32) (H : Heap) (locs : List Loc) (ls : Array Slot), lv_has ls 3 [(0, .ref (ad c0)), (1, .int x1), (2, .int x2)] → Iv (Aa Λ ad) G kA kL Λ ad w s H locs → bM_start_59s Λ K59 w c0 x1 x2 = some (w1, r) → W p l e rmM_start s m args below meth c H locs 0 0 Q (F0 m 59 ls []) := by
    intro K59 hK59 w c0 x1 x2 H locs ls hl hI hf
    unfold bM_start_59s at hf
    refine lv_iload_n hx hb dM_start_59 rfl (lv_at hl 2 rfl) ?_
    refine lv_bipush hx hb dM_start_60 kB_8 ?_
    refine lv_icmp_ge (tgt := 83) hx hb dM_start_62 rfl (fun h5 => ?_) (fun h5 => ?_)
    · have hf := ip_ hf h5
      refine lv_aload_n hx hb dM_start_83 rfl (lv_at hl 0 rfl) ?_
      refine lv_aload_n hx hb dM_start_84 rfl (lv_at hl 0 rfl) ?_
      obtain ⟨v6, hv6, hf⟩ := ob_ hf
      refine r_geti (i := 3) S hI fcM (Nat.le_of_ble_eq_true rfl) kw_504 dM_start_85 hv6 ?_
      refine lv_aload_n hx hb dM_start_88 rfl (lv_at hl 0 rfl) ?_
      obtain ⟨v7, hv7, hf⟩ := ob_ hf
      refine r_geti (i := 5) S hI fcM (Nat.le_of_ble_eq_true rfl) kw_506 dM_start_89 hv7 ?_
      obtain ⟨q8, hq8, hf⟩ := ob_ hf
      refine r_ci (r_V (rest := []) (As := [.int v6, .int v7]) S hl hI (kM_put l G kA kL Λ ad w c0 v6 v7 q8.1 q8.2 hq8) pkM_put kw_607 ks_M_put (fcM).1 (gd_some hq8).1 kw_605 ⟨rfl, rfl⟩ ⟨Nat.le_of_ble_eq_true rfl, Nat.le_of_ble_eq_true rfl⟩ rfl rfl (Nat.le_of_ble_eq_true rfl) ⟨Nat.zero_le _, Nat.zero_le _⟩ dM_start_92) hI (fun H locs hI => ?_)
      refine lv_istore_n hx hb (lv' := [(2, .int q8.2), (0, .ref (ad c0)), (1, .int x1)]) dM_start_95 rfl hl (Nat.le_of_ble_eq_true rfl) rfl (fun ls hl => ?_)
      exact bk96 q8.1 c0 x1 _ _ _ (lv_sub hl [1, 2] rfl) hI hf
    · have hf := in_ hf h5
      refine lv_aload_n hx hb dM_start_65 rfl (lv_at hl 0 rfl) ?_
      obtain ⟨r9, hr9, hf⟩ := ob_ hf
      refine r_getr (i := 19) S hI fcM (Nat.le_of_ble_eq_true rfl) kw_520 dM_start_66 hr9 ?_
      refine lv_iload_n hx hb dM_start_69 rfl (lv_at hl 2 rfl) ?_
      refine lv_aload_n hx hb dM_start_70 rfl (lv_at hl 0 rfl) ?_
      obtain ⟨r10, hr10, hf⟩ := ob_ hf
      refine r_getr (i := 4) S hI fcM (Nat.le_of_ble_eq_true rfl) kw_505 dM_start_71 hr10 ?_
      refine lv_iload_n hx hb dM_start_74 rfl (lv_at hl 2 rfl) ?_
      obtain ⟨v11, hv11, hf⟩ := ob_ hf
      refine r_ald S hI dM_start_75 hv11 ?_
      obtain ⟨w12, hw12, hf⟩ := ob_ hf
      refine r_ast S hI dM_start_76 hw12 (fun H locs hI => ?_)
      refine lv_iinc hx hb (lv' := [(2, .int (x2 + 1)), (0, .ref (ad c0)), (1, .int x1)]) (k := 2) dM_start_77 hl rfl (kN_1 _) (Nat.le_of_ble_eq_true rfl) rfl (fun ls hl => ?_)
      refine lv_goto (tgt := 59) hx hb dM_start_80 rfl ?_
      exact hK59 w12 c0 x1 (x2 + 1) _ _ _ (lv_sub hl [1, 2, 0] rfl) hI hf
  have lp59 : ∀ (n : Nat), ∀ (w : Wo) (c0 : Nat) (x1 : Int32) (x2 : Int32) (H : Heap) (locs : List Loc) (ls : Array Slot), lv_has ls 3 [(0, .ref (ad c0)), (1, .int x1), (2, .int x2)] → Iv (Aa Λ ad) G kA kL Λ ad w s H locs → bM_start_59 Λ n w c0 x1 x2 = some (w1, r) → W p l e rmM_start s m args below meth c H locs 0 0 Q (F0 m 59 ls []) := by
    intro n
    induction n with
    | zero =>
      intro w c0 x1 x2 H locs ls hl hI hf
      have hf : (none : Option (Wo × Int32)) = some (w1, r) := hf
      cases hf
    | succ n ih =>
      intro w c0 x1 x2 H locs ls hl hI hf
      exact bk59 (bM_start_59 Λ n) ih w c0 x1 x2 H locs ls hl hI hf
  have bk13 : ∀ (w : Wo) (c0 : Nat) (t0 : Nat) (s1 : Int32) (H : Heap) (locs : List Loc) (ls : Array Slot), lv_has ls 3 [(0, .ref (ad c0))] → Iv (Aa Λ ad) G kA kL Λ ad w s H locs → bM_start_13 Λ w c0 t0 s1 = some (w1, r) → W p l e rmM_start s m args below meth c H locs 0 0 Q (F0 m 13 ls [.int s1, .ref (ad t0)]) := by
    intro w c0 t0 s1 H locs ls hl hI hf
    unfold bM_start_13 at hf
    obtain ⟨w13, hw13, hf⟩ := ob_ hf
    refine r_put (i := 0) S hI fcM (Nat.le_of_ble_eq_true rfl) kw_501 rfl rfl rfl dM_start_13 hw13 (fun H locs hI => ?_)
    refine lv_aload_n hx hb dM_start_16 rfl (lv_at hl 0 rfl) ?_
    obtain ⟨v14, hv14, hf⟩ := ob_ hf
    refine r_geti (i := 0) S hI fcM (Nat.le_of_ble_eq_true rfl) kw_501 dM_start_17 hv14 ?_
    refine lv_if_le (tgt := 25) hx hb dM_start_20 rfl (fun h15 => ?_) (fun h15 => ?_)
    · have hf := ip_ hf h15
      refine lv_aload_n hx hb dM_start_25 rfl (lv_at hl 0 rfl) ?_
      refine lv_iconst hx hb dM_start_26 kI_0 ?_
      obtain ⟨w16, hw16, hf⟩ := ob_ hf
      refine r_put (i := 6) S hI fcM (Nat.le_of_ble_eq_true rfl) kw_507 rfl (narrow_z (Or.inl rfl)) rfl dM_start_27 hw16 (fun H locs hI => ?_)
      refine lv_aload_n hx hb dM_start_30 rfl (lv_at hl 0 rfl) ?_
      refine lv_iconst hx hb dM_start_31 kI_m1 ?_
      obtain ⟨w17, hw17, hf⟩ := ob_ hf
      refine r_put (i := 7) S hI fcM (Nat.le_of_ble_eq_true rfl) kw_508 rfl rfl rfl dM_start_32 hw17 (fun H locs hI => ?_)
      refine lv_aload_n hx hb dM_start_35 rfl (lv_at hl 0 rfl) ?_
      obtain ⟨r18, hr18, hf⟩ := ob_ hf
      refine r_getr (i := 8) S hI fcM (Nat.le_of_ble_eq_true rfl) kw_509 dM_start_36 hr18 ?_
      refine lv_iconst hx hb dM_start_39 kI_0 ?_
      obtain ⟨v19, hv19, hf⟩ := ob_ hf
      refine r_ald S hI dM_start_40 hv19 ?_
      refine lv_aload_n hx hb dM_start_41 rfl (lv_at hl 0 rfl) ?_
      obtain ⟨r20, hr20, hf⟩ := ob_ hf
      refine r_getr (i := 8) S hI fcM (Nat.le_of_ble_eq_true rfl) kw_509 dM_start_42 hr20 ?_
      refine lv_iconst hx hb dM_start_45 kI_1 ?_
      obtain ⟨v21, hv21, hf⟩ := ob_ hf
      refine r_ald S hI dM_start_46 hv21 ?_
      refine lv_iadd hx hb dM_start_47 ?_
      refine lv_istore_n hx hb (lv' := [(1, .int (v19 + v21)), (0, .ref (ad c0))]) dM_start_48 rfl hl (Nat.le_of_ble_eq_true rfl) rfl (fun ls hl => ?_)
      refine lv_aload_n hx hb dM_start_49 rfl (lv_at hl 1 rfl) ?_
      obtain ⟨v22, hv22, hf⟩ := ob_ hf
      refine r_geti (i := 3) S hI fcM (Nat.le_of_ble_eq_true rfl) kw_504 dM_start_50 hv22 ?_
      refine lv_iconst hx hb dM_start_53 kI_m1 ?_
      refine lv_icmp_eq (tgt := 96) hx hb dM_start_54 rfl (fun h23 => ?_) (fun h23 => ?_)
      · have hf := ip_ hf h23
        exact bk96 w17 c0 (v19 + v21) _ _ _ (lv_sub hl [1, 0] rfl) hI hf
      · have hf := in_ hf h23
        refine lv_iconst hx hb dM_start_57 kI_0 ?_
        refine lv_istore_n hx hb (lv' := [(2, .int 0), (1, .int (v19 + v21)), (0, .ref (ad c0))]) dM_start_58 rfl hl (Nat.le_of_ble_eq_true rfl) rfl (fun ls hl => ?_)
        exact lp59 1000 w17 c0 (v19 + v21) 0 _ _ _ (lv_sub hl [2, 1, 0] rfl) hI hf
    · have hf := in_ hf h15
      refine lv_iconst hx hb dM_start_23 kI_0 ?_
      exact hret _ _ _ _ _ _ hI hf dM_start_24
  unfold fM_start at hf
  have hf := (gd_some hf).2
  refine lv_aload_n hx hb dM_start_0 rfl (lv_at hl 0 rfl) ?_
  refine lv_aload_n hx hb dM_start_1 rfl (lv_at hl 0 rfl) ?_
  obtain ⟨v24, hv24, hf⟩ := ob_ hf
  refine r_geti (i := 6) S hI fcM (Nat.le_of_ble_eq_true rfl) kw_507 dM_start_2 hv24 ?_
  refine lv_if_eq (tgt := 12) hx hb dM_start_5 rfl (fun h25 => ?_) (fun h25 => ?_)
  · have hf := ip_ hf h25
    refine lv_iconst hx hb dM_start_12 kI_1 ?_
    exact bk13 w c0 c0 1 _ _ _ (lv_sub hl [0] rfl) hI hf
  · have hf := in_ hf h25
    refine lv_iconst hx hb dM_start_8 kI_0 ?_
    refine lv_goto (tgt := 13) hx hb dM_start_9 rfl ?_
    exact bk13 w c0 c0 0 _ _ _ (lv_sub hl [0] rfl) hI hf
/-- GuardVolumeModel.find(IIII)V -/
abbrev rmM_find : Room := { frames := 0, cells := 0, slots := 0, locals := 0 }
theorem pkM_find : Pk yM_find cM_find 5 none 4 := ⟨kw_668, kw_7, by decide +kernel, by decide +kernel, by decide +kernel⟩
def fM_find (Λ : La) (w : Wo) (c0 : Nat) (x1 : Int32) (x2 : Int32) (x3 : Int32) (x4 : Int32) : Option Wo := gd (isC Λ c0 5) ((gi Λ w c0 5 16).bind fun v1 => (pf Λ w c0 5 16 (v1 + 1)).bind fun w2 => (gi Λ w2 c0 5 15).bind fun v3 => if 100 ≤ v3 then (some w2) else ((gr Λ c0 5 17).bind fun r5 => (gi Λ w2 c0 5 15).bind fun v6 => (st Λ w2 r5 (4 * v6) x1).bind fun w7 => (gr Λ c0 5 17).bind fun r8 => (gi Λ w7 c0 5 15).bind fun v9 => (st Λ w7 r8 ((4 * v9) + 1) x2).bind fun w10 => (gr Λ c0 5 17).bind fun r11 => (gi Λ w10 c0 5 15).bind fun v12 => (st Λ w10 r11 ((4 * v12) + 2) x3).bind fun w13 => (gr Λ c0 5 17).bind fun r14 => (gi Λ w13 c0 5 15).bind fun v15 => (st Λ w13 r14 ((4 * v15) + 3) x4).bind fun w16 => (gi Λ w16 c0 5 15).bind fun v17 => (pf Λ w16 c0 5 15 (v17 + 1)).bind fun w18 => some w18))
set_option maxHeartbeats 4000000 in
set_option maxRecDepth 100000 in
theorem kM_find (l : Launch) (G : va_G) (kA kL : ClassId) (Λ : La) (ad : Nat → Nat) (w : Wo) (c0 : Nat) (x1 : Int32) (x2 : Int32) (x3 : Int32) (x4 : Int32) (w1 : Wo) (hf : fM_find Λ w c0 x1 x2 x3 x4 = some w1) : Mv l yM_find cM_find 5 rmM_find G kA kL Λ ad [.ref (ad c0), .int x1, .int x2, .int x3, .int x4] w w1 := by
  refine Mv.of (by decide +kernel) (Nat.le_of_ble_eq_true rfl) ?_
  intro p e s m args below meth c Q ls S hret hl hI
  have S : CallFix p m c cM_find 5 s args (.code yM_find cM_find 5 none :: gW) "GuardVolumeModel" := S
  have hl : lv_has ls 5 [(0, .ref (ad c0)), (1, .int x1), (2, .int x2), (3, .int x3), (4, .int x4)] := hl
  have hx := S.1
  have hb := S.2.1
  unfold fM_find at hf
  have hf := (gd_some hf).2
  refine lv_aload_n hx hb dM_find_0 rfl (lv_at hl 0 rfl) ?_
  refine lv_dup hx hb dM_find_1 rfl ?_
  obtain ⟨v1, hv1, hf⟩ := ob_ hf
  refine r_geti (i := 16) S hI fcM (Nat.le_of_ble_eq_true rfl) kw_517 dM_find_2 hv1 ?_
  refine lv_iconst hx hb dM_find_5 kI_1 ?_
  refine lv_iadd hx hb dM_find_6 ?_
  obtain ⟨w2, hw2, hf⟩ := ob_ hf
  refine r_put (i := 16) S hI fcM (Nat.le_of_ble_eq_true rfl) kw_517 rfl rfl rfl dM_find_7 hw2 (fun H locs hI => ?_)
  refine lv_aload_n hx hb dM_find_10 rfl (lv_at hl 0 rfl) ?_
  obtain ⟨v3, hv3, hf⟩ := ob_ hf
  refine r_geti (i := 15) S hI fcM (Nat.le_of_ble_eq_true rfl) kw_516 dM_find_11 hv3 ?_
  refine lv_bipush hx hb dM_find_14 kB_100 ?_
  refine lv_icmp_ge (tgt := 84) hx hb dM_find_16 rfl (fun h4 => ?_) (fun h4 => ?_)
  · have hf := ip_ hf h4
    exact hret _ _ _ _ _ hI hf dM_find_84
  · have hf := in_ hf h4
    refine lv_aload_n hx hb dM_find_19 rfl (lv_at hl 0 rfl) ?_
    obtain ⟨r5, hr5, hf⟩ := ob_ hf
    refine r_getr (i := 17) S hI fcM (Nat.le_of_ble_eq_true rfl) kw_518 dM_find_20 hr5 ?_
    refine lv_iconst hx hb dM_find_23 kI_4 ?_
    refine lv_aload_n hx hb dM_find_24 rfl (lv_at hl 0 rfl) ?_
    obtain ⟨v6, hv6, hf⟩ := ob_ hf
    refine r_geti (i := 15) S hI fcM (Nat.le_of_ble_eq_true rfl) kw_516 dM_find_25 hv6 ?_
    refine lv_imul hx hb dM_find_28 ?_
    refine lv_iload_n hx hb dM_find_29 rfl (lv_at hl 1 rfl) ?_
    obtain ⟨w7, hw7, hf⟩ := ob_ hf
    refine r_ast S hI dM_find_30 hw7 (fun H locs hI => ?_)
    refine lv_aload_n hx hb dM_find_31 rfl (lv_at hl 0 rfl) ?_
    obtain ⟨r8, hr8, hf⟩ := ob_ hf
    refine r_getr (i := 17) S hI fcM (Nat.le_of_ble_eq_true rfl) kw_518 dM_find_32 hr8 ?_
    refine lv_iconst hx hb dM_find_35 kI_4 ?_
    refine lv_aload_n hx hb dM_find_36 rfl (lv_at hl 0 rfl) ?_
    obtain ⟨v9, hv9, hf⟩ := ob_ hf
    refine r_geti (i := 15) S hI fcM (Nat.le_of_ble_eq_true rfl) kw_516 dM_find_37 hv9 ?_
    refine lv_imul hx hb dM_find_40 ?_
    refine lv_iconst hx hb dM_find_41 kI_1 ?_
    refine lv_iadd hx hb dM_find_42 ?_
    refine lv_iload_n hx hb dM_find_43 rfl (lv_at hl 2 rfl) ?_
    obtain ⟨w10, hw10, hf⟩ := ob_ hf
    refine r_ast S hI dM_find_44 hw10 (fun H locs hI => ?_)
    refine lv_aload_n hx hb dM_find_45 rfl (lv_at hl 0 rfl) ?_
    obtain ⟨r11, hr11, hf⟩ := ob_ hf
    refine r_getr (i := 17) S hI fcM (Nat.le_of_ble_eq_true rfl) kw_518 dM_find_46 hr11 ?_
    refine lv_iconst hx hb dM_find_49 kI_4 ?_
    refine lv_aload_n hx hb dM_find_50 rfl (lv_at hl 0 rfl) ?_
    obtain ⟨v12, hv12, hf⟩ := ob_ hf
    refine r_geti (i := 15) S hI fcM (Nat.le_of_ble_eq_true rfl) kw_516 dM_find_51 hv12 ?_
    refine lv_imul hx hb dM_find_54 ?_
    refine lv_iconst hx hb dM_find_55 kI_2 ?_
    refine lv_iadd hx hb dM_find_56 ?_
    refine lv_iload_n hx hb dM_find_57 rfl (lv_at hl 3 rfl) ?_
    obtain ⟨w13, hw13, hf⟩ := ob_ hf
    refine r_ast S hI dM_find_58 hw13 (fun H locs hI => ?_)
    refine lv_aload_n hx hb dM_find_59 rfl (lv_at hl 0 rfl) ?_
    obtain ⟨r14, hr14, hf⟩ := ob_ hf
    refine r_getr (i := 17) S hI fcM (Nat.le_of_ble_eq_true rfl) kw_518 dM_find_60 hr14 ?_
    refine lv_iconst hx hb dM_find_63 kI_4 ?_
    refine lv_aload_n hx hb dM_find_64 rfl (lv_at hl 0 rfl) ?_
    obtain ⟨v15, hv15, hf⟩ := ob_ hf
    refine r_geti (i := 15) S hI fcM (Nat.le_of_ble_eq_true rfl) kw_516 dM_find_65 hv15 ?_
    refine lv_imul hx hb dM_find_68 ?_
    refine lv_iconst hx hb dM_find_69 kI_3 ?_
    refine lv_iadd hx hb dM_find_70 ?_
    refine lv_iload hx hb dM_find_71 (lv_at hl 4 rfl) ?_
    obtain ⟨w16, hw16, hf⟩ := ob_ hf
    refine r_ast S hI dM_find_73 hw16 (fun H locs hI => ?_)
    refine lv_aload_n hx hb dM_find_74 rfl (lv_at hl 0 rfl) ?_
    refine lv_dup hx hb dM_find_75 rfl ?_
    obtain ⟨v17, hv17, hf⟩ := ob_ hf
    refine r_geti (i := 15) S hI fcM (Nat.le_of_ble_eq_true rfl) kw_516 dM_find_76 hv17 ?_
    refine lv_iconst hx hb dM_find_79 kI_1 ?_
    refine lv_iadd hx hb dM_find_80 ?_
    obtain ⟨w18, hw18, hf⟩ := ob_ hf
    refine r_put (i := 15) S hI fcM (Nat.le_of_ble_eq_true rfl) kw_516 rfl rfl rfl dM_find_81 hw18 (fun H locs hI => ?_)
    exact hret _ _ _ _ _ hI hf dM_find_84
/-- GuardVolumeModel.scrubOf(I)Z -/
abbrev rmM_scrubOf : Room := { frames := 6, cells := 0, slots := 0, locals := 137 }
theorem pkM_scrubOf : Pk yM_scrubOf cM_scrubOf 6 (some .boolean) 1 := ⟨kw_664, kw_7, by decide +kernel, by decide +kernel, by decide +kernel⟩
def bM_scrubOf_77 (Λ : La) (K7 : Wo → Nat → Int32 → Int32 → Int32 → Option (Wo × Int32)) (w : Wo) (c0 : Nat) (x1 : Int32) (x2 : Int32) (x3 : Int32) : Option (Wo × Int32) := K7 w c0 x1 x2 (x3 + 1)
def bM_scrubOf_155 (Λ : La) (w : Wo) (c0 : Nat) (x1 : Int32) (x5 : Int32) (t0 : Nat) (s1 : Int32) (s2 : Int32) (s3 : Int32) : Option (Wo × Int32) := (gr Λ c0 5 1).bind fun r1 => (fM_place Λ w x5 x1).bind fun q2 => (ld Λ q2.1 r1 (q2.2 + 9)).bind fun v3 => (fM_find Λ q2.1 t0 s1 s2 s3 v3).bind fun w4 => (fM_takeWords Λ w4 c0 (1 - x5) x1).bind fun w5 => (gr Λ c0 5 1).bind fun r6 => (fM_place Λ w5 (1 - x5) x1).bind fun q7 => (ld Λ q7.1 r6 (q7.2 + 10)).bind fun v8 => (fM_storeRow Λ q7.1 c0 x5 x1 v8).bind fun q9 => zr q9.1 q9.2
def bM_scrubOf_138 (Λ : La) (w : Wo) (c0 : Nat) (x1 : Int32) (x3 : Int32) (x4 : Int32) (s0 : Int32) : Option (Wo × Int32) := if s0 = 0 then (bM_scrubOf_155 Λ w c0 x1 s0 c0 x1 s0 x3) else (bM_scrubOf_155 Λ w c0 x1 s0 c0 x1 s0 x4)
def bM_scrubOf_129 (Λ : La) (w : Wo) (c0 : Nat) (x1 : Int32) (x3 : Int32) (x4 : Int32) : Option (Wo × Int32) := if x3 = 0 then (bM_scrubOf_138 Λ w c0 x1 x3 x4 1) else (bM_scrubOf_138 Λ w c0 x1 x3 x4 0)
def bM_scrubOf_118 (Λ : La) (w : Wo) (c0 : Nat) (x1 : Int32) (x3 : Int32) (x4 : Int32) : Option (Wo × Int32) := if x3 = 0 then (if x4 = 0 then (zr w 1) else (bM_scrubOf_129 Λ w c0 x1 x3 x4)) else (bM_scrubOf_129 Λ w c0 x1 x3 x4)
def bM_scrubOf_7s (Λ : La) (K7 : Wo → Nat → Int32 → Int32 → Int32 → Option (Wo × Int32)) (w : Wo) (c0 : Nat) (x1 : Int32) (x2 : Int32) (x3 : Int32) : Option (Wo × Int32) := if 2 ≤ x3 then ((fM_verdictOf Λ w c0 0 x1).bind fun q15 => (fM_verdictOf Λ q15.1 c0 1 x1).bind fun q16 => if q15.2 = 0 then (bM_scrubOf_118 Λ q16.1 c0 x1 q15.2 q16.2) else (if q16.2 = 0 then (bM_scrubOf_118 Λ q16.1 c0 x1 q15.2 q16.2) else ((fM_find Λ q16.1 c0 x1 (-1) 7 (-1)).bind fun w19 => zr w19 1))) else ((fM_isRightPage Λ w c0 (1 - x3) x2).bind fun q20 => if q20.2 = 0 then ((fM_isRightPage Λ q20.1 c0 x3 x2).bind fun q22 => if q22.2 = 0 then (bM_scrubOf_77 Λ K7 q22.1 c0 x1 x2 x3) else ((gr Λ c0 5 1).bind fun r24 => (fM_place Λ q22.1 (1 - x3) (64 + x2)).bind fun q25 => (ld Λ q25.1 r24 (q25.2 + 9)).bind fun v26 => (fM_find Λ q25.1 c0 x1 (1 - x3) 6 v26).bind fun w27 => (fM_listed Λ w27 c0 x3 x1).bind fun q28 => (fM_storeList Λ q28.1 c0 x3 x1 q28.2).bind fun q29 => if q29.2 = 0 then (zr q29.1 0) else (bM_scrubOf_77 Λ K7 q29.1 c0 x1 x2 x3))) else (bM_scrubOf_77 Λ K7 q20.1 c0 x1 x2 x3))
def bM_scrubOf_7 (Λ : La) : Nat → Wo → Nat → Int32 → Int32 → Int32 → Option (Wo × Int32)
  | 0 => fun _ _ _ _ _ => none
  | n + 1 => bM_scrubOf_7s Λ (bM_scrubOf_7 Λ n)
def fM_scrubOf (Λ : La) (w : Wo) (c0 : Nat) (x1 : Int32) : Option (Wo × Int32) := gd (isC Λ c0 5) (bM_scrubOf_7 Λ 1000 w c0 x1 (x1 / 8) 0)
set_option maxHeartbeats 4000000 in
set_option maxRecDepth 100000 in
theorem kM_scrubOf (l : Launch) (G : va_G) (kA kL : ClassId) (Λ : La) (ad : Nat → Nat) (w : Wo) (c0 : Nat) (x1 : Int32) (w1 : Wo) (r : Int32) (hf : fM_scrubOf Λ w c0 x1 = some (w1, r)) : Mi l yM_scrubOf cM_scrubOf 6 (some .boolean) rmM_scrubOf G kA kL Λ ad [.ref (ad c0), .int x1] w w1 r := by
  refine Mz.of (by decide +kernel) (Nat.le_of_ble_eq_true rfl) ?_
  intro p e s m args below meth c Q ls S hret hl hI
  have S : CallFix p m c cM_scrubOf 6 s args (.code yM_scrubOf cM_scrubOf 6 (some .boolean) :: gW) "GuardVolumeModel" := S
  have hl : lv_has ls 6 [(0, .ref (ad c0)), (1, .int x1)] := hl
  have hx := S.1
  have hb := S.2.1
  have bk77 : ∀ (K7 : Wo → Nat → Int32 → Int32 → Int32 → Option (Wo × Int32)), (∀ (w : Wo) (c0 : Nat) (x1 : Int32) (x2 : Int32) (x3 : Int32) (H : Heap) (locs : List Loc) (ls : Array Slot), lv_has ls 6 [(0, .ref (ad c0)), (1, .int x1), (2, .int x2), (3, .int x3)] → Iv (Aa Λ ad) G kA kL Λ ad w s H locs → K7 w c0 x1 x2 x3 = some (w1, r) → W p l e rmM_scrubOf s m args below meth c H locs 0 0 Q (F0 m 7 ls [])) → ∀ (w : Wo) (c0 : Nat) (x1 : Int32) (x2 : Int32) (x3 : Int32) (H : Heap) (locs : List Loc) (ls : Array Slot), lv_has ls 6 [(0, .ref (ad c0)), (1, .int x1), (2, .int x2), (3, .int x3)] → Iv (Aa Λ ad) G kA kL Λ ad w s H locs → bM_scrubOf_77 Λ K7 w c0 x1 x2 x3 = some (w1, r) → W p l e rmM_scrubOf s m args below meth c H locs 0 0 Q (F0 m 77 ls []) := by
    intro K7 hK7 w c0 x1 x2 x3 H locs ls hl hI hf
    unfold bM_scrubOf_77 at hf
    refine lv_iinc hx hb (lv' := [(3, .int (x3 + 1)), (0, .ref (ad c0)), (1, .int x1), (2, .int x2)]) (k := 3) dM_scrubOf_77 hl rfl (kN_1 _) (Nat.le_of_ble_eq_true rfl) rfl (fun ls hl => ?_)
    refine lv_goto (tgt := 7) hx hb dM_scrubOf_80 rfl ?_
    exact hK7 w c0 x1 x2 (x3 + 1) _ _ _ (lv_sub hl [1, 2, 3, 0] rfl) hI hf
  have bk155 : ∀ (w : Wo) (c0 : Nat) (x1 : Int32) (x5 : Int32) (t0 : Nat) (s1 : Int32) (s2 : Int32) (s3 : Int32) (H : Heap) (locs : List Loc) (ls : Array Slot), lv_has ls 6 [(0, .ref (ad c0)), (1, .int x1), (5, .int x5)] → Iv (Aa Λ ad) G kA kL Λ ad w s H locs → bM_scrubOf_155 Λ w c0 x1 x5 t0 s1 s2 s3 = some (w1, r) → W p l e rmM_scrubOf s m args below meth c H locs 0 0 Q (F0 m 155 ls [.int s3, .int s2, .int s1, .ref (ad t0)]) := by
    intro w c0 x1 x5 t0 s1 s2 s3 H locs ls hl hI hf
    unfold bM_scrubOf_155 at hf
    refine lv_aload_n hx hb dM_scrubOf_155 rfl (lv_at hl 0 rfl) ?_
    obtain ⟨r1, hr1, hf⟩ := ob_ hf
    refine r_getr (i := 1) S hI fcM (Nat.le_of_ble_eq_true rfl) kw_502 dM_scrubOf_156 hr1 ?_
    refine lv_iload hx hb dM_scrubOf_159 (lv_at hl 2 rfl) ?_
    refine lv_iload_n hx hb dM_scrubOf_161 rfl (lv_at hl 1 rfl) ?_
    obtain ⟨q2, hq2, hf⟩ := ob_ hf
    refine r_ci (r_S (rest := [.ref (ad r1), .int s3, .int s2, .int s1, .ref (ad t0)]) (As := [.int x5, .int x1]) S hl hI (kM_place l G kA kL Λ ad w x5 x1 q2.1 q2.2 hq2) pkM_place kw_492 kw_491 ⟨rfl, rfl⟩ ⟨Nat.le_of_ble_eq_true rfl, Nat.le_of_ble_eq_true rfl⟩ rfl rfl (Nat.le_of_ble_eq_true rfl) ⟨Nat.zero_le _, Nat.zero_le _⟩ dM_scrubOf_162) hI (fun H locs hI => ?_)
    refine lv_bipush hx hb dM_scrubOf_165 kB_9 ?_
    refine lv_iadd hx hb dM_scrubOf_167 ?_
    obtain ⟨v3, hv3, hf⟩ := ob_ hf
    refine r_ald S hI dM_scrubOf_168 hv3 ?_
    obtain ⟨w4, hw4, hf⟩ := ob_ hf
    refine r_cv (r_V (rest := []) (As := [.int s1, .int s2, .int s3, .int v3]) S hl hI (kM_find l G kA kL Λ ad q2.1 t0 s1 s2 s3 v3 w4 hw4) pkM_find kw_667 ks_M_find (fcM).1 (gd_some hw4).1 kw_665 ⟨rfl, rfl⟩ ⟨Nat.le_of_ble_eq_true rfl, Nat.le_of_ble_eq_true rfl⟩ rfl rfl (Nat.le_of_ble_eq_true rfl) ⟨Nat.zero_le _, Nat.zero_le _⟩ dM_scrubOf_169) hI (fun H locs hI => ?_)
    refine lv_aload_n hx hb dM_scrubOf_172 rfl (lv_at hl 0 rfl) ?_
    refine lv_iconst hx hb dM_scrubOf_173 kI_1 ?_
    refine lv_iload hx hb dM_scrubOf_174 (lv_at hl 2 rfl) ?_
    refine lv_isub hx hb dM_scrubOf_176 ?_
    refine lv_iload_n hx hb dM_scrubOf_177 rfl (lv_at hl 1 rfl) ?_
    obtain ⟨w5, hw5, hf⟩ := ob_ hf
    refine r_cv (r_V (rest := []) (As := [.int (1 - x5), .int x1]) S hl hI (kM_takeWords l G kA kL Λ ad w4 c0 (1 - x5) x1 w5 hw5) pkM_takeWords kw_603 ks_M_takeWords (fcM).1 (gd_some hw5).1 kw_601 ⟨rfl, rfl⟩ ⟨Nat.le_of_ble_eq_true rfl, Nat.le_of_ble_eq_true rfl⟩ rfl rfl (Nat.le_of_ble_eq_true rfl) ⟨Nat.zero_le _, Nat.zero_le _⟩ dM_scrubOf_178) hI (fun H locs hI => ?_)
    refine lv_aload_n hx hb dM_scrubOf_181 rfl (lv_at hl 0 rfl) ?_
    refine lv_iload hx hb dM_scrubOf_182 (lv_at hl 2 rfl) ?_
    refine lv_iload_n hx hb dM_scrubOf_184 rfl (lv_at hl 1 rfl) ?_
    refine lv_aload_n hx hb dM_scrubOf_185 rfl (lv_at hl 0 rfl) ?_
    obtain ⟨r6, hr6, hf⟩ := ob_ hf
    refine r_getr (i := 1) S hI fcM (Nat.le_of_ble_eq_true rfl) kw_502 dM_scrubOf_186 hr6 ?_
    refine lv_iconst hx hb dM_scrubOf_189 kI_1 ?_
    refine lv_iload hx hb dM_scrubOf_190 (lv_at hl 2 rfl) ?_
    refine lv_isub hx hb dM_scrubOf_192 ?_
    refine lv_iload_n hx hb dM_scrubOf_193 rfl (lv_at hl 1 rfl) ?_
    obtain ⟨q7, hq7, hf⟩ := ob_ hf
    refine r_ci (r_S (rest := [.ref (ad r6), .int x1, .int x5, .ref (ad c0)]) (As := [.int (1 - x5), .int x1]) S hl hI (kM_place l G kA kL Λ ad w5 (1 - x5) x1 q7.1 q7.2 hq7) pkM_place kw_492 kw_491 ⟨rfl, rfl⟩ ⟨Nat.le_of_ble_eq_true rfl, Nat.le_of_ble_eq_true rfl⟩ rfl rfl (Nat.le_of_ble_eq_true rfl) ⟨Nat.zero_le _, Nat.zero_le _⟩ dM_scrubOf_194) hI (fun H locs hI => ?_)
    refine lv_bipush hx hb dM_scrubOf_197 kB_10 ?_
    refine lv_iadd hx hb dM_scrubOf_199 ?_
    obtain ⟨v8, hv8, hf⟩ := ob_ hf
    refine r_ald S hI dM_scrubOf_200 hv8 ?_
    obtain ⟨q9, hq9, hf⟩ := ob_ hf
    refine r_ci (r_V (rest := []) (As := [.int x5, .int x1, .int v8]) S hl hI (kM_storeRow l G kA kL Λ ad q7.1 c0 x5 x1 v8 q9.1 q9.2 hq9) pkM_storeRow kw_615 ks_M_storeRow (fcM).1 (gd_some hq9).1 kw_613 ⟨rfl, rfl⟩ ⟨Nat.le_of_ble_eq_true rfl, Nat.le_of_ble_eq_true rfl⟩ rfl rfl (Nat.le_of_ble_eq_true rfl) ⟨Nat.zero_le _, Nat.zero_le _⟩ dM_scrubOf_201) hI (fun H locs hI => ?_)
    exact hret _ _ _ _ _ _ hI hf dM_scrubOf_204
  have bk138 : ∀ (w : Wo) (c0 : Nat) (x1 : Int32) (x3 : Int32) (x4 : Int32) (s0 : Int32) (H : Heap) (locs : List Loc) (ls : Array Slot), lv_has ls 6 [(0, .ref (ad c0)), (1, .int x1), (3, .int x3), (4, .int x4)] → Iv (Aa Λ ad) G kA kL Λ ad w s H locs → bM_scrubOf_138 Λ w c0 x1 x3 x4 s0 = some (w1, r) → W p l e rmM_scrubOf s m args below meth c H locs 0 0 Q (F0 m 138 ls [.int s0]) := by
    intro w c0 x1 x3 x4 s0 H locs ls hl hI hf
    unfold bM_scrubOf_138 at hf
    refine lv_istore hx hb (lv' := [(5, .int s0), (0, .ref (ad c0)), (1, .int x1), (3, .int x3), (4, .int x4)]) dM_scrubOf_138 hl (Nat.le_of_ble_eq_true rfl) rfl (fun ls hl => ?_)
    refine lv_aload_n hx hb dM_scrubOf_140 rfl (lv_at hl 1 rfl) ?_
    refine lv_iload_n hx hb dM_scrubOf_141 rfl (lv_at hl 2 rfl) ?_
    refine lv_iload hx hb dM_scrubOf_142 (lv_at hl 0 rfl) ?_
    refine lv_iload hx hb dM_scrubOf_144 (lv_at hl 0 rfl) ?_
    refine lv_if_ne (tgt := 153) hx hb dM_scrubOf_146 rfl (fun h10 => ?_) (fun h10 => ?_)
    · have hf := in_ hf h10
      refine lv_iload hx hb dM_scrubOf_153 (lv_at hl 4 rfl) ?_
      exact bk155 w c0 x1 s0 c0 x1 s0 x4 _ _ _ (lv_sub hl [1, 2, 0] rfl) hI hf
    · have hf := ip_ hf h10
      refine lv_iload_n hx hb dM_scrubOf_149 rfl (lv_at hl 3 rfl) ?_
      refine lv_goto (tgt := 155) hx hb dM_scrubOf_150 rfl ?_
      exact bk155 w c0 x1 s0 c0 x1 s0 x3 _ _ _ (lv_sub hl [1, 2, 0] rfl) hI hf
  have bk129 : ∀ (w : Wo) (c0 : Nat) (x1 : Int32) (x3 : Int32) (x4 : Int32) (H : Heap) (locs : List Loc) (ls : Array Slot), lv_has ls 6 [(0, .ref (ad c0)), (1, .int x1), (3, .int x3), (4, .int x4)] → Iv (Aa Λ ad) G kA kL Λ ad w s H locs → bM_scrubOf_129 Λ w c0 x1 x3 x4 = some (w1, r) → W p l e rmM_scrubOf s m args below meth c H locs 0 0 Q (F0 m 129 ls []) := by
    intro w c0 x1 x3 x4 H locs ls hl hI hf
    unfold bM_scrubOf_129 at hf
    refine lv_iload_n hx hb dM_scrubOf_129 rfl (lv_at hl 2 rfl) ?_
    refine lv_if_ne (tgt := 137) hx hb dM_scrubOf_130 rfl (fun h11 => ?_) (fun h11 => ?_)
    · have hf := in_ hf h11
      refine lv_iconst hx hb dM_scrubOf_137 kI_0 ?_
      exact bk138 w c0 x1 x3 x4 0 _ _ _ (lv_sub hl [0, 1, 2, 3] rfl) hI hf
    · have hf := ip_ hf h11
      refine lv_iconst hx hb dM_scrubOf_133 kI_1 ?_
      refine lv_goto (tgt := 138) hx hb dM_scrubOf_134 rfl ?_
      exact bk138 w c0 x1 x3 x4 1 _ _ _ (lv_sub hl [0, 1, 2, 3] rfl) hI hf
  have bk118 : ∀ (w : Wo) (c0 : Nat) (x1 : Int32) (x3 : Int32) (x4 : Int32) (H : Heap) (locs : List Loc) (ls : Array Slot), lv_has ls 6 [(0, .ref (ad c0)), (1, .int x1), (3, .int x3), (4, .int x4)] → Iv (Aa Λ ad) G kA kL Λ ad w s H locs → bM_scrubOf_118 Λ w c0 x1 x3 x4 = some (w1, r) → W p l e rmM_scrubOf s m args below meth c H locs 0 0 Q (F0 m 118 ls []) := by
    intro w c0 x1 x3 x4 H locs ls hl hI hf
    unfold bM_scrubOf_118 at hf
    refine lv_iload_n hx hb dM_scrubOf_118 rfl (lv_at hl 2 rfl) ?_
    refine lv_if_ne (tgt := 129) hx hb dM_scrubOf_119 rfl (fun h12 => ?_) (fun h12 => ?_)
    · have hf := in_ hf h12
      exact bk129 w c0 x1 x3 x4 _ _ _ (lv_sub hl [0, 1, 2, 3] rfl) hI hf
    · have hf := ip_ hf h12
      refine lv_iload hx hb dM_scrubOf_122 (lv_at hl 3 rfl) ?_
      refine lv_if_ne (tgt := 129) hx hb dM_scrubOf_124 rfl (fun h13 => ?_) (fun h13 => ?_)
      · have hf := in_ hf h13
        exact bk129 w c0 x1 x3 x4 _ _ _ (lv_sub hl [0, 1, 2, 3] rfl) hI hf
      · have hf := ip_ hf h13
        refine lv_iconst hx hb dM_scrubOf_127 kI_1 ?_
        exact hret _ _ _ _ _ _ hI hf dM_scrubOf_128
  have bk7 : ∀ (K7 : Wo → Nat → Int32 → Int32 → Int32 → Option (Wo × Int32)), (∀ (w : Wo) (c0 : Nat) (x1 : Int32) (x2 : Int32) (x3 : Int32) (H : Heap) (locs : List Loc) (ls : Array Slot), lv_has ls 6 [(0, .ref (ad c0)), (1, .int x1), (2, .int x2), (3, .int x3)] → Iv (Aa Λ ad) G kA kL Λ ad w s H locs → K7 w c0 x1 x2 x3 = some (w1, r) → W p l e rmM_scrubOf s m args below meth c H locs 0 0 Q (F0 m 7 ls [])) → ∀ (w : Wo) (c0 : Nat) (x1 : Int32) (x2 : Int32) (x3 : Int32) (H : Heap) (locs : List Loc) (ls : Array Slot), lv_has ls 6 [(0, .ref (ad c0)), (1, .int x1), (2, .int x2), (3, .int x3)] → Iv (Aa Λ ad) G kA kL Λ ad w s H locs → bM_scrubOf_7s Λ K7 w c0 x1 x2 x3 = some (w1, r) → W p l e rmM_scrubOf s m args below meth c H locs 0 0 Q (F0 m 7 ls []) := by
    intro K7 hK7 w c0 x1 x2 x3 H locs ls hl hI hf
    unfold bM_scrubOf_7s at hf
    refine lv_iload_n hx hb dM_scrubOf_7 rfl (lv_at hl 3 rfl) ?_
    refine lv_iconst hx hb dM_scrubOf_8 kI_2 ?_
    refine lv_icmp_ge (tgt := 83) hx hb dM_scrubOf_9 rfl (fun h14 => ?_) (fun h14 => ?_)
    · have hf := ip_ hf h14
      refine lv_aload_n hx hb dM_scrubOf_83 rfl (lv_at hl 0 rfl) ?_
      refine lv_iconst hx hb dM_scrubOf_84 kI_0 ?_
      refine lv_iload_n hx hb dM_scrubOf_85 rfl (lv_at hl 1 rfl) ?_
      obtain ⟨q15, hq15, hf⟩ := ob_ hf
      refine r_ci (r_V (rest := []) (As := [.int 0, .int x1]) S hl hI (kM_verdictOf l G kA kL Λ ad w c0 0 x1 q15.1 q15.2 hq15) pkM_verdictOf kw_579 ks_M_verdictOf (fcM).1 (gd_some hq15).1 kw_577 ⟨rfl, rfl⟩ ⟨Nat.le_of_ble_eq_true rfl, Nat.le_of_ble_eq_true rfl⟩ rfl rfl (Nat.le_of_ble_eq_true rfl) ⟨Nat.zero_le _, Nat.zero_le _⟩ dM_scrubOf_86) hI (fun H locs hI => ?_)
      refine lv_istore_n hx hb (lv' := [(3, .int q15.2), (0, .ref (ad c0)), (1, .int x1), (2, .int x2)]) dM_scrubOf_89 rfl hl (Nat.le_of_ble_eq_true rfl) rfl (fun ls hl => ?_)
      refine lv_aload_n hx hb dM_scrubOf_90 rfl (lv_at hl 1 rfl) ?_
      refine lv_iconst hx hb dM_scrubOf_91 kI_1 ?_
      refine lv_iload_n hx hb dM_scrubOf_92 rfl (lv_at hl 2 rfl) ?_
      obtain ⟨q16, hq16, hf⟩ := ob_ hf
      refine r_ci (r_V (rest := []) (As := [.int 1, .int x1]) S hl hI (kM_verdictOf l G kA kL Λ ad q15.1 c0 1 x1 q16.1 q16.2 hq16) pkM_verdictOf kw_579 ks_M_verdictOf (fcM).1 (gd_some hq16).1 kw_577 ⟨rfl, rfl⟩ ⟨Nat.le_of_ble_eq_true rfl, Nat.le_of_ble_eq_true rfl⟩ rfl rfl (Nat.le_of_ble_eq_true rfl) ⟨Nat.zero_le _, Nat.zero_le _⟩ dM_scrubOf_93) hI (fun H locs hI => ?_)
      refine lv_istore hx hb (lv' := [(4, .int q16.2), (3, .int q15.2), (0, .ref (ad c0)), (1, .int x1), (2, .int x2)]) dM_scrubOf_96 hl (Nat.le_of_ble_eq_true rfl) rfl (fun ls hl => ?_)
      refine lv_iload_n hx hb dM_scrubOf_98 rfl (lv_at hl 1 rfl) ?_
      refine lv_if_eq (tgt := 118) hx hb dM_scrubOf_99 rfl (fun h17 => ?_) (fun h17 => ?_)
      · have hf := ip_ hf h17
        exact bk118 q16.1 c0 x1 q15.2 q16.2 _ _ _ (lv_sub hl [2, 3, 1, 0] rfl) hI hf
      · have hf := in_ hf h17
        refine lv_iload hx hb dM_scrubOf_102 (lv_at hl 0 rfl) ?_
        refine lv_if_eq (tgt := 118) hx hb dM_scrubOf_104 rfl (fun h18 => ?_) (fun h18 => ?_)
        · have hf := ip_ hf h18
          exact bk118 q16.1 c0 x1 q15.2 q16.2 _ _ _ (lv_sub hl [2, 3, 1, 0] rfl) hI hf
        · have hf := in_ hf h18
          refine lv_aload_n hx hb dM_scrubOf_107 rfl (lv_at hl 2 rfl) ?_
          refine lv_iload_n hx hb dM_scrubOf_108 rfl (lv_at hl 3 rfl) ?_
          refine lv_iconst hx hb dM_scrubOf_109 kI_m1 ?_
          refine lv_bipush hx hb dM_scrubOf_110 kB_7 ?_
          refine lv_iconst hx hb dM_scrubOf_112 kI_m1 ?_
          obtain ⟨w19, hw19, hf⟩ := ob_ hf
          refine r_cv (r_V (rest := []) (As := [.int x1, .int (-1), .int 7, .int (-1)]) S hl hI (kM_find l G kA kL Λ ad q16.1 c0 x1 (-1) 7 (-1) w19 hw19) pkM_find kw_667 ks_M_find (fcM).1 (gd_some hw19).1 kw_665 ⟨rfl, rfl⟩ ⟨Nat.le_of_ble_eq_true rfl, Nat.le_of_ble_eq_true rfl⟩ rfl rfl (Nat.le_of_ble_eq_true rfl) ⟨Nat.zero_le _, Nat.zero_le _⟩ dM_scrubOf_113) hI (fun H locs hI => ?_)
          refine lv_iconst hx hb dM_scrubOf_116 kI_1 ?_
          exact hret _ _ _ _ _ _ hI hf dM_scrubOf_117
    · have hf := in_ hf h14
      refine lv_aload_n hx hb dM_scrubOf_12 rfl (lv_at hl 0 rfl) ?_
      refine lv_iconst hx hb dM_scrubOf_13 kI_1 ?_
      refine lv_iload_n hx hb dM_scrubOf_14 rfl (lv_at hl 3 rfl) ?_
      refine lv_isub hx hb dM_scrubOf_15 ?_
      refine lv_iload_n hx hb dM_scrubOf_16 rfl (lv_at hl 2 rfl) ?_
      obtain ⟨q20, hq20, hf⟩ := ob_ hf
      refine r_ci (r_V (rest := []) (As := [.int (1 - x3), .int x2]) S hl hI (kM_isRightPage l G kA kL Λ ad w c0 (1 - x3) x2 q20.1 q20.2 hq20) pkM_isRightPage kw_591 ks_M_isRightPage (fcM).1 (gd_some hq20).1 kw_589 ⟨rfl, rfl⟩ ⟨Nat.le_of_ble_eq_true rfl, Nat.le_of_ble_eq_true rfl⟩ rfl rfl (Nat.le_of_ble_eq_true rfl) ⟨Nat.zero_le _, Nat.zero_le _⟩ dM_scrubOf_17) hI (fun H locs hI => ?_)
      refine lv_if_ne (tgt := 77) hx hb dM_scrubOf_20 rfl (fun h21 => ?_) (fun h21 => ?_)
      · have hf := in_ hf h21
        exact bk77 K7 hK7 q20.1 c0 x1 x2 x3 _ _ _ (lv_sub hl [0, 1, 2, 3] rfl) hI hf
      · have hf := ip_ hf h21
        refine lv_aload_n hx hb dM_scrubOf_23 rfl (lv_at hl 0 rfl) ?_
        refine lv_iload_n hx hb dM_scrubOf_24 rfl (lv_at hl 3 rfl) ?_
        refine lv_iload_n hx hb dM_scrubOf_25 rfl (lv_at hl 2 rfl) ?_
        obtain ⟨q22, hq22, hf⟩ := ob_ hf
        refine r_ci (r_V (rest := []) (As := [.int x3, .int x2]) S hl hI (kM_isRightPage l G kA kL Λ ad q20.1 c0 x3 x2 q22.1 q22.2 hq22) pkM_isRightPage kw_591 ks_M_isRightPage (fcM).1 (gd_some hq22).1 kw_589 ⟨rfl, rfl⟩ ⟨Nat.le_of_ble_eq_true rfl, Nat.le_of_ble_eq_true rfl⟩ rfl rfl (Nat.le_of_ble_eq_true rfl) ⟨Nat.zero_le _, Nat.zero_le _⟩ dM_scrubOf_26) hI (fun H locs hI => ?_)
        refine lv_if_eq (tgt := 77) hx hb dM_scrubOf_29 rfl (fun h23 => ?_) (fun h23 => ?_)
        · have hf := ip_ hf h23
          exact bk77 K7 hK7 q22.1 c0 x1 x2 x3 _ _ _ (lv_sub hl [0, 1, 2, 3] rfl) hI hf
        · have hf := in_ hf h23
          refine lv_aload_n hx hb dM_scrubOf_32 rfl (lv_at hl 0 rfl) ?_
          refine lv_iload_n hx hb dM_scrubOf_33 rfl (lv_at hl 1 rfl) ?_
          refine lv_iconst hx hb dM_scrubOf_34 kI_1 ?_
          refine lv_iload_n hx hb dM_scrubOf_35 rfl (lv_at hl 3 rfl) ?_
          refine lv_isub hx hb dM_scrubOf_36 ?_
          refine lv_bipush hx hb dM_scrubOf_37 kB_6 ?_
          refine lv_aload_n hx hb dM_scrubOf_39 rfl (lv_at hl 0 rfl) ?_
          obtain ⟨r24, hr24, hf⟩ := ob_ hf
          refine r_getr (i := 1) S hI fcM (Nat.le_of_ble_eq_true rfl) kw_502 dM_scrubOf_40 hr24 ?_
          refine lv_iconst hx hb dM_scrubOf_43 kI_1 ?_
          refine lv_iload_n hx hb dM_scrubOf_44 rfl (lv_at hl 3 rfl) ?_
          refine lv_isub hx hb dM_scrubOf_45 ?_
          refine lv_bipush hx hb dM_scrubOf_46 kB_64 ?_
          refine lv_iload_n hx hb dM_scrubOf_48 rfl (lv_at hl 2 rfl) ?_
          refine lv_iadd hx hb dM_scrubOf_49 ?_
          obtain ⟨q25, hq25, hf⟩ := ob_ hf
          refine r_ci (r_S (rest := [.ref (ad r24), .int 6, .int (1 - x3), .int x1, .ref (ad c0)]) (As := [.int (1 - x3), .int (64 + x2)]) S hl hI (kM_place l G kA kL Λ ad q22.1 (1 - x3) (64 + x2) q25.1 q25.2 hq25) pkM_place kw_492 kw_491 ⟨rfl, rfl⟩ ⟨Nat.le_of_ble_eq_true rfl, Nat.le_of_ble_eq_true rfl⟩ rfl rfl (Nat.le_of_ble_eq_true rfl) ⟨Nat.zero_le _, Nat.zero_le _⟩ dM_scrubOf_50) hI (fun H locs hI => ?_)
          refine lv_bipush hx hb dM_scrubOf_53 kB_9 ?_
          refine lv_iadd hx hb dM_scrubOf_55 ?_
          obtain ⟨v26, hv26, hf⟩ := ob_ hf
          refine r_ald S hI dM_scrubOf_56 hv26 ?_
          obtain ⟨w27, hw27, hf⟩ := ob_ hf
          refine r_cv (r_V (rest := []) (As := [.int x1, .int (1 - x3), .int 6, .int v26]) S hl hI (kM_find l G kA kL Λ ad q25.1 c0 x1 (1 - x3) 6 v26 w27 hw27) pkM_find kw_667 ks_M_find (fcM).1 (gd_some hw27).1 kw_665 ⟨rfl, rfl⟩ ⟨Nat.le_of_ble_eq_true rfl, Nat.le_of_ble_eq_true rfl⟩ rfl rfl (Nat.le_of_ble_eq_true rfl) ⟨Nat.zero_le _, Nat.zero_le _⟩ dM_scrubOf_57) hI (fun H locs hI => ?_)
          refine lv_aload_n hx hb dM_scrubOf_60 rfl (lv_at hl 0 rfl) ?_
          refine lv_iload_n hx hb dM_scrubOf_61 rfl (lv_at hl 3 rfl) ?_
          refine lv_iload_n hx hb dM_scrubOf_62 rfl (lv_at hl 1 rfl) ?_
          refine lv_aload_n hx hb dM_scrubOf_63 rfl (lv_at hl 0 rfl) ?_
          refine lv_iload_n hx hb dM_scrubOf_64 rfl (lv_at hl 3 rfl) ?_
          refine lv_iload_n hx hb dM_scrubOf_65 rfl (lv_at hl 1 rfl) ?_
          obtain ⟨q28, hq28, hf⟩ := ob_ hf
          refine r_ci (r_V (rest := [.int x1, .int x3, .ref (ad c0)]) (As := [.int x3, .int x1]) S hl hI (kM_listed l G kA kL Λ ad w27 c0 x3 x1 q28.1 q28.2 hq28) pkM_listed kw_599 ks_M_listed (fcM).1 (gd_some hq28).1 kw_597 ⟨rfl, rfl⟩ ⟨Nat.le_of_ble_eq_true rfl, Nat.le_of_ble_eq_true rfl⟩ rfl rfl (Nat.le_of_ble_eq_true rfl) ⟨Nat.zero_le _, Nat.zero_le _⟩ dM_scrubOf_66) hI (fun H locs hI => ?_)
          obtain ⟨q29, hq29, hf⟩ := ob_ hf
          refine r_ci (r_V (rest := []) (As := [.int x3, .int x1, .int q28.2]) S hl hI (kM_storeList l G kA kL Λ ad q28.1 c0 x3 x1 q28.2 q29.1 q29.2 hq29) pkM_storeList kw_635 ks_M_storeList (fcM).1 (gd_some hq29).1 kw_633 ⟨rfl, rfl⟩ ⟨Nat.le_of_ble_eq_true rfl, Nat.le_of_ble_eq_true rfl⟩ rfl rfl (Nat.le_of_ble_eq_true rfl) ⟨Nat.zero_le _, Nat.zero_le _⟩ dM_scrubOf_69) hI (fun H locs hI => ?_)
          refine lv_if_ne (tgt := 77) hx hb dM_scrubOf_72 rfl (fun h30 => ?_) (fun h30 => ?_)
          · have hf := in_ hf h30
            exact bk77 K7 hK7 q29.1 c0 x1 x2 x3 _ _ _ (lv_sub hl [0, 1, 2, 3] rfl) hI hf
          · have hf := ip_ hf h30
            refine lv_iconst hx hb dM_scrubOf_75 kI_0 ?_
            exact hret _ _ _ _ _ _ hI hf dM_scrubOf_76
  have lp7 : ∀ (n : Nat), ∀ (w : Wo) (c0 : Nat) (x1 : Int32) (x2 : Int32) (x3 : Int32) (H : Heap) (locs : List Loc) (ls : Array Slot), lv_has ls 6 [(0, .ref (ad c0)), (1, .int x1), (2, .int x2), (3, .int x3)] → Iv (Aa Λ ad) G kA kL Λ ad w s H locs → bM_scrubOf_7 Λ n w c0 x1 x2 x3 = some (w1, r) → W p l e rmM_scrubOf s m args below meth c H locs 0 0 Q (F0 m 7 ls []) := by
    intro n
    induction n with
    | zero =>
      intro w c0 x1 x2 x3 H locs ls hl hI hf
      have hf : (none : Option (Wo × Int32)) = some (w1, r) := hf
      cases hf
    | succ n ih =>
      intro w c0 x1 x2 x3 H locs ls hl hI hf
      exact bk7 (bM_scrubOf_7 Λ n) ih w c0 x1 x2 x3 H locs ls hl hI hf
  unfold fM_scrubOf at hf
  have hf := (gd_some hf).2
  refine lv_iload_n hx hb dM_scrubOf_0 rfl (lv_at hl 1 rfl) ?_
  refine lv_bipush hx hb dM_scrubOf_1 kB_8 ?_
  refine lv_idiv hx hb dM_scrubOf_3 (by decide +kernel) ?_
  refine lv_istore_n hx hb (lv' := [(2, .int (x1 / 8)), (0, .ref (ad c0)), (1, .int x1)]) dM_scrubOf_4 rfl hl (Nat.le_of_ble_eq_true rfl) rfl (fun ls hl => ?_)
  refine lv_iconst hx hb dM_scrubOf_5 kI_0 ?_
  refine lv_istore_n hx hb (lv' := [(3, .int 0), (2, .int (x1 / 8)), (0, .ref (ad c0)), (1, .int x1)]) dM_scrubOf_6 rfl hl (Nat.le_of_ble_eq_true rfl) rfl (fun ls hl => ?_)
  exact lp7 1000 w c0 x1 (x1 / 8) 0 _ _ _ (lv_sub hl [2, 3, 1, 0] rfl) hI hf
end
section
/-! written by walk.py: the functions that the bytecode computes, and the walks -/
/-- GuardVolumeModel.scrub(I)I -/
abbrev rmM_scrub : Room := { frames := 7, cells := 0, slots := 0, locals := 162 }
theorem pkM_scrub : Pk yM_scrub cM_scrub 3 (some .int) 1 := ⟨kw_660, kw_7, by decide +kernel, by decide +kernel, by decide +kernel⟩
def bM_scrub_86 (Λ : La) (w : Wo) (c0 : Nat) : Option (Wo × Int32) := (gi Λ w c0 5 16).bind fun v1 => some (w, v1)
def bM_scrub_80 (Λ : La) (K37 : Wo → Nat → Int32 → Int32 → Option (Wo × Int32)) (w : Wo) (c0 : Nat) (x1 : Int32) (x2 : Int32) : Option (Wo × Int32) := K37 w c0 x1 (x2 + 1)
def bM_scrub_37s (Λ : La) (K37 : Wo → Nat → Int32 → Int32 → Option (Wo × Int32)) (w : Wo) (c0 : Nat) (x1 : Int32) (x2 : Int32) : Option (Wo × Int32) := if x1 ≤ x2 then (bM_scrub_86 Λ w c0) else ((gi Λ w c0 5 0).bind fun v3 => if v3 = 0 then ((gi Λ w c0 5 6).bind fun v5 => if v5 = 0 then ((gi Λ w c0 5 14).bind fun v7 => (fM_scrubOf Λ w c0 v7).bind fun q8 => if q8.2 = 0 then (bM_scrub_80 Λ K37 q8.1 c0 x1 x2) else ((gi Λ q8.1 c0 5 14).bind fun v10 => (pf Λ q8.1 c0 5 14 ((v10 + 1) - (v10 + 1) / 64 * 64)).bind fun w11 => bM_scrub_80 Λ K37 w11 c0 x1 x2)) else (bM_scrub_86 Λ w c0)) else (bM_scrub_86 Λ w c0))
def bM_scrub_37 (Λ : La) : Nat → Wo → Nat → Int32 → Int32 → Option (Wo × Int32)
  | 0 => fun _ _ _ _ => none
  | n + 1 => bM_scrub_37s Λ (bM_scrub_37 Λ n)
def bM_scrub_27 (Λ : La) (w : Wo) (c0 : Nat) (x1 : Int32) (t0 : Nat) (s1 : Int32) : Option (Wo × Int32) := (pf Λ w t0 5 0 s1).bind fun w12 => (pf Λ w12 c0 5 16 0).bind fun w13 => bM_scrub_37 Λ 1000 w13 c0 x1 0
def bM_scrub_22 (Λ : La) (w : Wo) (c0 : Nat) (x1 : Int32) (t0 : Nat) : Option (Wo × Int32) := bM_scrub_27 Λ w c0 x1 t0 2
def fM_scrub (Λ : La) (w : Wo) (c0 : Nat) (x1 : Int32) : Option (Wo × Int32) := gd (isC Λ c0 5) ((gi Λ w c0 5 6).bind fun v14 => if v14 = 0 then (if x1 < 0 then (bM_scrub_22 Λ w c0 x1 c0) else (if x1 ≤ 64 then (bM_scrub_27 Λ w c0 x1 c0 0) else (bM_scrub_22 Λ w c0 x1 c0))) else (bM_scrub_27 Λ w c0 x1 c0 1))
set_option maxHeartbeats 4000000 in
set_option maxRecDepth 100000 in
theorem kM_scrub (l : Launch) (G : va_G) (kA kL : ClassId) (Λ : La) (ad : Nat → Nat) (w : Wo) (c0 : Nat) (x1 : Int32) (w1 : Wo) (r : Int32) (hf : fM_scrub Λ w c0 x1 = some (w1, r)) : Mi l yM_scrub cM_scrub 3 (some .int) rmM_scrub G kA kL Λ ad [.ref (ad c0), .int x1] w w1 r := by
  refine Mi.of (by decide +kernel) (Nat.le_of_ble_eq_true rfl) ?_
  intro p e s m args below meth c Q ls S hret hl hI
  have S : CallFix p m c cM_scrub 3 s args (.code yM_scrub cM_scrub 3 (some .int) :: gW) "GuardVolumeModel" := S
  have hl : lv_has ls 3 [(0, .ref (ad c0)), (1, .int x1)] := hl
  have hx := S.1
  have hb := S.2.1
  have bk86 : ∀ (w : Wo) (c0 : Nat) (H : Heap) (locs : List Loc) (ls : Array Slot), lv_has ls 3 [(0, .ref (ad c0))] → Iv (Aa Λ ad) G kA kL Λ ad w s H locs → bM_scrub_86 Λ w c0 = some (w1, r) → W p l e rmM_scrub s m args below meth c H locs 0 0 Q (F0 m 86 ls []) := by
    intro w c0 H locs ls hl hI hf
    unfold bM_scrub_86 at hf
    refine lv_aload_n hx hb dM_scrub_86 rfl (lv_at hl 0 rfl) ?_
    obtain ⟨v1, hv1, hf⟩ := ob_ hf
    refine r_geti (i := 16) S hI fcM (Nat.le_of_ble_eq_true rfl) kw_517 dM_scrub_87 hv1 ?_
    exact hret _ _ _ _ _ _ hI hf dM_scrub_90
  have bk80 : ∀ (K37 : Wo → Nat → Int32 → Int32 → Option (Wo × Int32)), (∀ (w : Wo) (c0 : Nat) (x1 : Int32) (x2 : Int32) (H : Heap) (locs : List Loc) (ls : Array Slot), lv_has ls 3 [(0, .ref (ad c0)), (1, .int x1), (2, .int x2)] → Iv (Aa Λ ad) G kA kL Λ ad w s H locs → K37 w c0 x1 x2 = some (w1, r) → W p l e rmM_scrub s m args below meth c H locs 0 0 Q (F0 m 37 ls [])) → ∀ (w : Wo) (c0 : Nat) (x1 : Int32) (x2 : Int32) (H : Heap) (locs : List Loc) (ls : Array Slot), lv_has ls 3 [(0, .ref (ad c0)), (1, .int x1), (2, .int x2)] → Iv (Aa Λ ad) G kA kL Λ ad w s H locs → bM_scrub_80 Λ K37 w c0 x1 x2 = some (w1, r) → W p l e rmM_scrub s m args below meth c H locs 0 0 Q (F0 m 80 ls []) := by
    intro K37 hK37 w c0 x1 x2 H locs ls hl hI hf
    unfold bM_scrub_80 at hf
    refine lv_iinc hx hb (lv' := [(2, .int (x2 + 1)), (0, .ref (ad c0)), (1, .int x1)]) (k := 2) dM_scrub_80 hl rfl (kN_1 _) (Nat.le_of_ble_eq_true rfl) rfl (fun ls hl => ?_)
    refine lv_goto (tgt := 37) hx hb dM_scrub_83 rfl ?_
    exact hK37 w c0 x1 (x2 + 1) _ _ _ (lv_sub hl [1, 2, 0] rfl) hI hf
  have bk37 : ∀ (K37 : Wo → Nat → Int32 → Int32 → Option (Wo × Int32)), (∀ (w : Wo) (c0 : Nat) (x1 : Int32) (x2 : Int32) (H : Heap) (locs : List Loc) (ls : Array Slot), lv_has ls 3 [(0, .ref (ad c0)), (1, .int x1), (2, .int x2)] → Iv (Aa Λ ad) G kA kL Λ ad w s H locs → K37 w c0 x1 x2 = some (w1, r) → W p l e rmM_scrub s m args below meth c H locs 0 0 Q (F0 m 37 ls [])) → ∀ (w : Wo) (c0 : Nat) (x1 : Int32) (x2 : Int32) (H : Heap) (locs : List Loc) (ls : Array Slot), lv_has ls 3 [(0, .ref (ad c0)), (1, .int x1), (2, .int x2)] → Iv (Aa Λ ad) G kA kL Λ ad w s H locs → bM_scrub_37s Λ K37 w c0 x1 x2 = some (w1, r) → W p l e rmM_scrub s m args below meth c H locs 0 0 Q (F0 m 37 ls []) := by
    intro K37 hK37 w c0 x1 x2 H locs ls hl hI hf
    unfold bM_scrub_37s at hf
    refine lv_iload_n hx hb dM_scrub_37 rfl (lv_at hl 2 rfl) ?_
    refine lv_iload_n hx hb dM_scrub_38 rfl (lv_at hl 1 rfl) ?_
    refine lv_icmp_ge (tgt := 86) hx hb dM_scrub_39 rfl (fun h2 => ?_) (fun h2 => ?_)
    · have hf := ip_ hf h2
      exact bk86 w c0 _ _ _ (lv_sub hl [0] rfl) hI hf
    · have hf := in_ hf h2
      refine lv_aload_n hx hb dM_scrub_42 rfl (lv_at hl 0 rfl) ?_
      obtain ⟨v3, hv3, hf⟩ := ob_ hf
      refine r_geti (i := 0) S hI fcM (Nat.le_of_ble_eq_true rfl) kw_501 dM_scrub_43 hv3 ?_
      refine lv_if_ne (tgt := 86) hx hb dM_scrub_46 rfl (fun h4 => ?_) (fun h4 => ?_)
      · have hf := in_ hf h4
        exact bk86 w c0 _ _ _ (lv_sub hl [0] rfl) hI hf
      · have hf := ip_ hf h4
        refine lv_aload_n hx hb dM_scrub_49 rfl (lv_at hl 0 rfl) ?_
        obtain ⟨v5, hv5, hf⟩ := ob_ hf
        refine r_geti (i := 6) S hI fcM (Nat.le_of_ble_eq_true rfl) kw_507 dM_scrub_50 hv5 ?_
        refine lv_if_ne (tgt := 86) hx hb dM_scrub_53 rfl (fun h6 => ?_) (fun h6 => ?_)
        · have hf := in_ hf h6
          exact bk86 w c0 _ _ _ (lv_sub hl [0] rfl) hI hf
        · have hf := ip_ hf h6
          refine lv_aload_n hx hb dM_scrub_56 rfl (lv_at hl 0 rfl) ?_
          refine lv_aload_n hx hb dM_scrub_57 rfl (lv_at hl 0 rfl) ?_
          obtain ⟨v7, hv7, hf⟩ := ob_ hf
          refine r_geti (i := 14) S hI fcM (Nat.le_of_ble_eq_true rfl) kw_515 dM_scrub_58 hv7 ?_
          obtain ⟨q8, hq8, hf⟩ := ob_ hf
          refine r_ci (r_V (rest := []) (As := [.int v7]) S hl hI (kM_scrubOf l G kA kL Λ ad w c0 v7 q8.1 q8.2 hq8) pkM_scrubOf kw_663 ks_M_scrubOf (fcM).1 (gd_some hq8).1 kw_661 ⟨rfl, rfl⟩ ⟨Nat.le_of_ble_eq_true rfl, Nat.le_of_ble_eq_true rfl⟩ rfl rfl (Nat.le_of_ble_eq_true rfl) ⟨Nat.zero_le _, Nat.zero_le _⟩ dM_scrub_61) hI (fun H locs hI => ?_)
          refine lv_if_eq (tgt := 80) hx hb dM_scrub_64 rfl (fun h9 => ?_) (fun h9 => ?_)
          · have hf := ip_ hf h9
            exact bk80 K37 hK37 q8.1 c0 x1 x2 _ _ _ (lv_sub hl [0, 1, 2] rfl) hI hf
          · have hf := in_ hf h9
            refine lv_aload_n hx hb dM_scrub_67 rfl (lv_at hl 0 rfl) ?_
            refine lv_aload_n hx hb dM_scrub_68 rfl (lv_at hl 0 rfl) ?_
            obtain ⟨v10, hv10, hf⟩ := ob_ hf
            refine r_geti (i := 14) S hI fcM (Nat.le_of_ble_eq_true rfl) kw_515 dM_scrub_69 hv10 ?_
            refine lv_iconst hx hb dM_scrub_72 kI_1 ?_
            refine lv_iadd hx hb dM_scrub_73 ?_
            refine lv_bipush hx hb dM_scrub_74 kB_64 ?_
            refine lv_irem hx hb dM_scrub_76 (by decide +kernel) ?_
            obtain ⟨w11, hw11, hf⟩ := ob_ hf
            refine r_put (i := 14) S hI fcM (Nat.le_of_ble_eq_true rfl) kw_515 rfl rfl rfl dM_scrub_77 hw11 (fun H locs hI => ?_)
            exact bk80 K37 hK37 w11 c0 x1 x2 _ _ _ (lv_sub hl [0, 1, 2] rfl) hI hf
  have lp37 : ∀ (n : Nat), ∀ (w : Wo) (c0 : Nat) (x1 : Int32) (x2 : Int32) (H : Heap) (locs : List Loc) (ls : Array Slot), lv_has ls 3 [(0, .ref (ad c0)), (1, .int x1), (2, .int x2)] → Iv (Aa Λ ad) G kA kL Λ ad w s H locs → bM_scrub_37 Λ n w c0 x1 x2 = some (w1, r) → W p l e rmM_scrub s m args below meth c H locs 0 0 Q (F0 m 37 ls []) := by
    intro n
    induction n with
    | zero =>
      intro w c0 x1 x2 H locs ls hl hI hf
      have hf : (none : Option (Wo × Int32)) = some (w1, r) := hf
      cases hf
    | succ n ih =>
      intro w c0 x1 x2 H locs ls hl hI hf
      exact bk37 (bM_scrub_37 Λ n) ih w c0 x1 x2 H locs ls hl hI hf
  have bk27 : ∀ (w : Wo) (c0 : Nat) (x1 : Int32) (t0 : Nat) (s1 : Int32) (H : Heap) (locs : List Loc) (ls : Array Slot), lv_has ls 3 [(0, .ref (ad c0)), (1, .int x1)] → Iv (Aa Λ ad) G kA kL Λ ad w s H locs → bM_scrub_27 Λ w c0 x1 t0 s1 = some (w1, r) → W p l e rmM_scrub s m args below meth c H locs 0 0 Q (F0 m 27 ls [.int s1, .ref (ad t0)]) := by
    intro w c0 x1 t0 s1 H locs ls hl hI hf
    unfold bM_scrub_27 at hf
    obtain ⟨w12, hw12, hf⟩ := ob_ hf
    refine r_put (i := 0) S hI fcM (Nat.le_of_ble_eq_true rfl) kw_501 rfl rfl rfl dM_scrub_27 hw12 (fun H locs hI => ?_)
    refine lv_aload_n hx hb dM_scrub_30 rfl (lv_at hl 0 rfl) ?_
    refine lv_iconst hx hb dM_scrub_31 kI_0 ?_
    obtain ⟨w13, hw13, hf⟩ := ob_ hf
    refine r_put (i := 16) S hI fcM (Nat.le_of_ble_eq_true rfl) kw_517 rfl rfl rfl dM_scrub_32 hw13 (fun H locs hI => ?_)
    refine lv_iconst hx hb dM_scrub_35 kI_0 ?_
    refine lv_istore_n hx hb (lv' := [(2, .int 0), (0, .ref (ad c0)), (1, .int x1)]) dM_scrub_36 rfl hl (Nat.le_of_ble_eq_true rfl) rfl (fun ls hl => ?_)
    exact lp37 1000 w13 c0 x1 0 _ _ _ (lv_sub hl [1, 2, 0] rfl) hI hf
  have bk22 : ∀ (w : Wo) (c0 : Nat) (x1 : Int32) (t0 : Nat) (H : Heap) (locs : List Loc) (ls : Array Slot), lv_has ls 3 [(0, .ref (ad c0)), (1, .int x1)] → Iv (Aa Λ ad) G kA kL Λ ad w s H locs → bM_scrub_22 Λ w c0 x1 t0 = some (w1, r) → W p l e rmM_scrub s m args below meth c H locs 0 0 Q (F0 m 22 ls [.ref (ad t0)]) := by
    intro w c0 x1 t0 H locs ls hl hI hf
    unfold bM_scrub_22 at hf
    refine lv_iconst hx hb dM_scrub_22 kI_2 ?_
    refine lv_goto (tgt := 27) hx hb dM_scrub_23 rfl ?_
    exact bk27 w c0 x1 t0 2 _ _ _ (lv_sub hl [0, 1] rfl) hI hf
  unfold fM_scrub at hf
  have hf := (gd_some hf).2
  refine lv_aload_n hx hb dM_scrub_0 rfl (lv_at hl 0 rfl) ?_
  refine lv_aload_n hx hb dM_scrub_1 rfl (lv_at hl 0 rfl) ?_
  obtain ⟨v14, hv14, hf⟩ := ob_ hf
  refine r_geti (i := 6) S hI fcM (Nat.le_of_ble_eq_true rfl) kw_507 dM_scrub_2 hv14 ?_
  refine lv_if_eq (tgt := 12) hx hb dM_scrub_5 rfl (fun h15 => ?_) (fun h15 => ?_)
  · have hf := ip_ hf h15
    refine lv_iload_n hx hb dM_scrub_12 rfl (lv_at hl 1 rfl) ?_
    refine lv_if_lt (tgt := 22) hx hb dM_scrub_13 rfl (fun h16 => ?_) (fun h16 => ?_)
    · have hf := ip_ hf h16
      exact bk22 w c0 x1 c0 _ _ _ (lv_sub hl [0, 1] rfl) hI hf
    · have hf := in_ hf h16
      refine lv_iload_n hx hb dM_scrub_16 rfl (lv_at hl 1 rfl) ?_
      refine lv_bipush hx hb dM_scrub_17 kB_64 ?_
      refine lv_icmp_le (tgt := 26) hx hb dM_scrub_19 rfl (fun h17 => ?_) (fun h17 => ?_)
      · have hf := ip_ hf h17
        refine lv_iconst hx hb dM_scrub_26 kI_0 ?_
        exact bk27 w c0 x1 c0 0 _ _ _ (lv_sub hl [0, 1] rfl) hI hf
      · have hf := in_ hf h17
        exact bk22 w c0 x1 c0 _ _ _ (lv_sub hl [0, 1] rfl) hI hf
  · have hf := in_ hf h15
    refine lv_iconst hx hb dM_scrub_8 kI_1 ?_
    refine lv_goto (tgt := 27) hx hb dM_scrub_9 rfl ?_
    exact bk27 w c0 x1 c0 1 _ _ _ (lv_sub hl [0, 1] rfl) hI hf
/-- GuardVolumeModel.findings(Z)I -/
abbrev rmM_findings : Room := { frames := 0, cells := 0, slots := 0, locals := 0 }
theorem pkM_findings : Pk yM_findings cM_findings 3 (some .int) 1 := ⟨kw_672, kw_7, by decide +kernel, by decide +kernel, by decide +kernel⟩
def bM_findings_23 (Λ : La) (w : Wo) (x2 : Int32) (t0 : Nat) (s1 : Int32) : Option (Wo × Int32) := (pf Λ w t0 5 15 s1).bind fun w1 => some (w1, x2)
def fM_findings (Λ : La) (w : Wo) (c0 : Nat) (x1 : Int32) : Option (Wo × Int32) := gd (isC Λ c0 5) ((pf Λ w c0 5 0 0).bind fun w2 => (gi Λ w2 c0 5 15).bind fun v3 => if x1 = 0 then ((gi Λ w2 c0 5 15).bind fun v5 => bM_findings_23 Λ w2 v3 c0 v5) else (bM_findings_23 Λ w2 v3 c0 0))
set_option maxHeartbeats 4000000 in
set_option maxRecDepth 100000 in
theorem kM_findings (l : Launch) (G : va_G) (kA kL : ClassId) (Λ : La) (ad : Nat → Nat) (w : Wo) (c0 : Nat) (x1 : Int32) (w1 : Wo) (r : Int32) (hf : fM_findings Λ w c0 x1 = some (w1, r)) : Mi l yM_findings cM_findings 3 (some .int) rmM_findings G kA kL Λ ad [.ref (ad c0), .int x1] w w1 r := by
  refine Mi.of (by decide +kernel) (Nat.le_of_ble_eq_true rfl) ?_
  intro p e s m args below meth c Q ls S hret hl hI
  have S : CallFix p m c cM_findings 3 s args (.code yM_findings cM_findings 3 (some .int) :: gW) "GuardVolumeModel" := S
  have hl : lv_has ls 3 [(0, .ref (ad c0)), (1, .int x1)] := hl
  have hx := S.1
  have hb := S.2.1
  have bk23 : ∀ (w : Wo) (x2 : Int32) (t0 : Nat) (s1 : Int32) (H : Heap) (locs : List Loc) (ls : Array Slot), lv_has ls 3 [(2, .int x2)] → Iv (Aa Λ ad) G kA kL Λ ad w s H locs → bM_findings_23 Λ w x2 t0 s1 = some (w1, r) → W p l e rmM_findings s m args below meth c H locs 0 0 Q (F0 m 23 ls [.int s1, .ref (ad t0)]) := by
    intro w x2 t0 s1 H locs ls hl hI hf
    unfold bM_findings_23 at hf
    obtain ⟨w1, hw1, hf⟩ := ob_ hf
    refine r_put (i := 15) S hI fcM (Nat.le_of_ble_eq_true rfl) kw_516 rfl rfl rfl dM_findings_23 hw1 (fun H locs hI => ?_)
    refine lv_iload_n hx hb dM_findings_26 rfl (lv_at hl 0 rfl) ?_
    exact hret _ _ _ _ _ _ hI hf dM_findings_27
  unfold fM_findings at hf
  have hf := (gd_some hf).2
  refine lv_aload_n hx hb dM_findings_0 rfl (lv_at hl 0 rfl) ?_
  refine lv_iconst hx hb dM_findings_1 kI_0 ?_
  obtain ⟨w2, hw2, hf⟩ := ob_ hf
  refine r_put (i := 0) S hI fcM (Nat.le_of_ble_eq_true rfl) kw_501 rfl rfl rfl dM_findings_2 hw2 (fun H locs hI => ?_)
  refine lv_aload_n hx hb dM_findings_5 rfl (lv_at hl 0 rfl) ?_
  obtain ⟨v3, hv3, hf⟩ := ob_ hf
  refine r_geti (i := 15) S hI fcM (Nat.le_of_ble_eq_true rfl) kw_516 dM_findings_6 hv3 ?_
  refine lv_istore_n hx hb (lv' := [(2, .int v3), (0, .ref (ad c0)), (1, .int x1)]) dM_findings_9 rfl hl (Nat.le_of_ble_eq_true rfl) rfl (fun ls hl => ?_)
  refine lv_aload_n hx hb dM_findings_10 rfl (lv_at hl 1 rfl) ?_
  refine lv_iload_n hx hb dM_findings_11 rfl (lv_at hl 2 rfl) ?_
  refine lv_if_eq (tgt := 19) hx hb dM_findings_12 rfl (fun h4 => ?_) (fun h4 => ?_)
  · have hf := ip_ hf h4
    refine lv_aload_n hx hb dM_findings_19 rfl (lv_at hl 1 rfl) ?_
    obtain ⟨v5, hv5, hf⟩ := ob_ hf
    refine r_geti (i := 15) S hI fcM (Nat.le_of_ble_eq_true rfl) kw_516 dM_findings_20 hv5 ?_
    exact bk23 w2 v3 c0 v5 _ _ _ (lv_sub hl [0] rfl) hI hf
  · have hf := in_ hf h4
    refine lv_iconst hx hb dM_findings_15 kI_0 ?_
    refine lv_goto (tgt := 23) hx hb dM_findings_16 rfl ?_
    exact bk23 w2 v3 c0 0 _ _ _ (lv_sub hl [0] rfl) hI hf
/-- GuardVolumeModel.finding(II)I -/
abbrev rmM_finding : Room := { frames := 1, cells := 0, slots := 0, locals := 21 }
theorem pkM_finding : Pk yM_finding cM_finding 3 (some .int) 2 := ⟨kw_676, kw_7, by decide +kernel, by decide +kernel, by decide +kernel⟩
def bM_finding_25 (Λ : La) (w : Wo) (c0 : Nat) (x1 : Int32) (x2 : Int32) (t0 : Nat) (s1 : Int32) : Option (Wo × Int32) := (pf Λ w t0 5 0 s1).bind fun w1 => (gi Λ w1 c0 5 0).bind fun v2 => if v2 ≤ 0 then ((gr Λ c0 5 17).bind fun r4 => (ld Λ w1 r4 ((4 * x1) + x2)).bind fun v5 => some (w1, v5)) else (some (w1, 0))
def bM_finding_20 (Λ : La) (w : Wo) (c0 : Nat) (x1 : Int32) (x2 : Int32) (t0 : Nat) : Option (Wo × Int32) := bM_finding_25 Λ w c0 x1 x2 t0 1
def fM_finding (Λ : La) (w : Wo) (c0 : Nat) (x1 : Int32) (x2 : Int32) : Option (Wo × Int32) := gd (isC Λ c0 5) ((gi Λ w c0 5 15).bind fun v6 => (fM_in Λ w x1 v6).bind fun q7 => if q7.2 = 0 then (bM_finding_20 Λ q7.1 c0 x1 x2 c0) else ((fM_in Λ q7.1 x2 4).bind fun q9 => if q9.2 = 0 then (bM_finding_20 Λ q9.1 c0 x1 x2 c0) else (bM_finding_25 Λ q9.1 c0 x1 x2 c0 0)))
set_option maxHeartbeats 4000000 in
set_option maxRecDepth 100000 in
theorem kM_finding (l : Launch) (G : va_G) (kA kL : ClassId) (Λ : La) (ad : Nat → Nat) (w : Wo) (c0 : Nat) (x1 : Int32) (x2 : Int32) (w1 : Wo) (r : Int32) (hf : fM_finding Λ w c0 x1 x2 = some (w1, r)) : Mi l yM_finding cM_finding 3 (some .int) rmM_finding G kA kL Λ ad [.ref (ad c0), .int x1, .int x2] w w1 r := by
  refine Mi.of (by decide +kernel) (Nat.le_of_ble_eq_true rfl) ?_
  intro p e s m args below meth c Q ls S hret hl hI
  have S : CallFix p m c cM_finding 3 s args (.code yM_finding cM_finding 3 (some .int) :: gW) "GuardVolumeModel" := S
  have hl : lv_has ls 3 [(0, .ref (ad c0)), (1, .int x1), (2, .int x2)] := hl
  have hx := S.1
  have hb := S.2.1
  have bk25 : ∀ (w : Wo) (c0 : Nat) (x1 : Int32) (x2 : Int32) (t0 : Nat) (s1 : Int32) (H : Heap) (locs : List Loc) (ls : Array Slot), lv_has ls 3 [(0, .ref (ad c0)), (1, .int x1), (2, .int x2)] → Iv (Aa Λ ad) G kA kL Λ ad w s H locs → bM_finding_25 Λ w c0 x1 x2 t0 s1 = some (w1, r) → W p l e rmM_finding s m args below meth c H locs 0 0 Q (F0 m 25 ls [.int s1, .ref (ad t0)]) := by
    intro w c0 x1 x2 t0 s1 H locs ls hl hI hf
    unfold bM_finding_25 at hf
    obtain ⟨w1, hw1, hf⟩ := ob_ hf
    refine r_put (i := 0) S hI fcM (Nat.le_of_ble_eq_true rfl) kw_501 rfl rfl rfl dM_finding_25 hw1 (fun H locs hI => ?_)
    refine lv_aload_n hx hb dM_finding_28 rfl (lv_at hl 0 rfl) ?_
    obtain ⟨v2, hv2, hf⟩ := ob_ hf
    refine r_geti (i := 0) S hI fcM (Nat.le_of_ble_eq_true rfl) kw_501 dM_finding_29 hv2 ?_
    refine lv_if_le (tgt := 39) hx hb dM_finding_32 rfl (fun h3 => ?_) (fun h3 => ?_)
    · have hf := ip_ hf h3
      refine lv_aload_n hx hb dM_finding_39 rfl (lv_at hl 0 rfl) ?_
      obtain ⟨r4, hr4, hf⟩ := ob_ hf
      refine r_getr (i := 17) S hI fcM (Nat.le_of_ble_eq_true rfl) kw_518 dM_finding_40 hr4 ?_
      refine lv_iconst hx hb dM_finding_43 kI_4 ?_
      refine lv_iload_n hx hb dM_finding_44 rfl (lv_at hl 1 rfl) ?_
      refine lv_imul hx hb dM_finding_45 ?_
      refine lv_iload_n hx hb dM_finding_46 rfl (lv_at hl 2 rfl) ?_
      refine lv_iadd hx hb dM_finding_47 ?_
      obtain ⟨v5, hv5, hf⟩ := ob_ hf
      refine r_ald S hI dM_finding_48 hv5 ?_
      exact hret _ _ _ _ _ _ hI hf dM_finding_49
    · have hf := in_ hf h3
      refine lv_iconst hx hb dM_finding_35 kI_0 ?_
      refine lv_goto (tgt := 49) hx hb dM_finding_36 rfl ?_
      exact hret _ _ _ _ _ _ hI hf dM_finding_49
  have bk20 : ∀ (w : Wo) (c0 : Nat) (x1 : Int32) (x2 : Int32) (t0 : Nat) (H : Heap) (locs : List Loc) (ls : Array Slot), lv_has ls 3 [(0, .ref (ad c0)), (1, .int x1), (2, .int x2)] → Iv (Aa Λ ad) G kA kL Λ ad w s H locs → bM_finding_20 Λ w c0 x1 x2 t0 = some (w1, r) → W p l e rmM_finding s m args below meth c H locs 0 0 Q (F0 m 20 ls [.ref (ad t0)]) := by
    intro w c0 x1 x2 t0 H locs ls hl hI hf
    unfold bM_finding_20 at hf
    refine lv_iconst hx hb dM_finding_20 kI_1 ?_
    refine lv_goto (tgt := 25) hx hb dM_finding_21 rfl ?_
    exact bk25 w c0 x1 x2 t0 1 _ _ _ (lv_sub hl [0, 1, 2] rfl) hI hf
  unfold fM_finding at hf
  have hf := (gd_some hf).2
  refine lv_aload_n hx hb dM_finding_0 rfl (lv_at hl 0 rfl) ?_
  refine lv_iload_n hx hb dM_finding_1 rfl (lv_at hl 1 rfl) ?_
  refine lv_aload_n hx hb dM_finding_2 rfl (lv_at hl 0 rfl) ?_
  obtain ⟨v6, hv6, hf⟩ := ob_ hf
  refine r_geti (i := 15) S hI fcM (Nat.le_of_ble_eq_true rfl) kw_516 dM_finding_3 hv6 ?_
  obtain ⟨q7, hq7, hf⟩ := ob_ hf
  refine r_ci (r_S (rest := [.ref (ad c0)]) (As := [.int x1, .int v6]) S hl hI (kM_in l G kA kL Λ ad w x1 v6 q7.1 q7.2 hq7) pkM_in kw_571 kw_570 ⟨rfl, rfl⟩ ⟨Nat.le_of_ble_eq_true rfl, Nat.le_of_ble_eq_true rfl⟩ rfl rfl (Nat.le_of_ble_eq_true rfl) ⟨Nat.zero_le _, Nat.zero_le _⟩ dM_finding_6) hI (fun H locs hI => ?_)
  refine lv_if_eq (tgt := 20) hx hb dM_finding_9 rfl (fun h8 => ?_) (fun h8 => ?_)
  · have hf := ip_ hf h8
    exact bk20 q7.1 c0 x1 x2 c0 _ _ _ (lv_sub hl [0, 1, 2] rfl) hI hf
  · have hf := in_ hf h8
    refine lv_iload_n hx hb dM_finding_12 rfl (lv_at hl 2 rfl) ?_
    refine lv_iconst hx hb dM_finding_13 kI_4 ?_
    obtain ⟨q9, hq9, hf⟩ := ob_ hf
    refine r_ci (r_S (rest := [.ref (ad c0)]) (As := [.int x2, .int 4]) S hl hI (kM_in l G kA kL Λ ad q7.1 x2 4 q9.1 q9.2 hq9) pkM_in kw_571 kw_570 ⟨rfl, rfl⟩ ⟨Nat.le_of_ble_eq_true rfl, Nat.le_of_ble_eq_true rfl⟩ rfl rfl (Nat.le_of_ble_eq_true rfl) ⟨Nat.zero_le _, Nat.zero_le _⟩ dM_finding_14) hI (fun H locs hI => ?_)
    refine lv_if_ne (tgt := 24) hx hb dM_finding_17 rfl (fun h10 => ?_) (fun h10 => ?_)
    · have hf := in_ hf h10
      refine lv_iconst hx hb dM_finding_24 kI_0 ?_
      exact bk25 q9.1 c0 x1 x2 c0 0 _ _ _ (lv_sub hl [0, 1, 2] rfl) hI hf
    · have hf := ip_ hf h10
      exact bk20 q9.1 c0 x1 x2 c0 _ _ _ (lv_sub hl [0, 1, 2] rfl) hI hf
/-- GuardVolumeModel.expected(II)I -/
abbrev rmM_expected : Room := { frames := 5, cells := 0, slots := 0, locals := 113 }
theorem pkM_expected : Pk yM_expected cM_expected 3 (some .int) 2 := ⟨kw_680, kw_7, by decide +kernel, by decide +kernel, by decide +kernel⟩
def bM_expected_23 (Λ : La) (w : Wo) (c0 : Nat) (x1 : Int32) (x2 : Int32) (t0 : Nat) (s1 : Int32) : Option (Wo × Int32) := (pf Λ w t0 5 0 s1).bind fun w1 => (gi Λ w1 c0 5 0).bind fun v2 => if v2 ≤ 0 then ((fM_expectedOf Λ w1 c0 x1 x2).bind fun q4 => some (q4.1, q4.2)) else (some (w1, 0))
def bM_expected_18 (Λ : La) (w : Wo) (c0 : Nat) (x1 : Int32) (x2 : Int32) (t0 : Nat) : Option (Wo × Int32) := bM_expected_23 Λ w c0 x1 x2 t0 1
def fM_expected (Λ : La) (w : Wo) (c0 : Nat) (x1 : Int32) (x2 : Int32) : Option (Wo × Int32) := gd (isC Λ c0 5) ((fM_in Λ w x1 2).bind fun q5 => if q5.2 = 0 then (bM_expected_18 Λ q5.1 c0 x1 x2 c0) else ((fM_in Λ q5.1 x2 64).bind fun q7 => if q7.2 = 0 then (bM_expected_18 Λ q7.1 c0 x1 x2 c0) else (bM_expected_23 Λ q7.1 c0 x1 x2 c0 0)))
set_option maxHeartbeats 4000000 in
set_option maxRecDepth 100000 in
theorem kM_expected (l : Launch) (G : va_G) (kA kL : ClassId) (Λ : La) (ad : Nat → Nat) (w : Wo) (c0 : Nat) (x1 : Int32) (x2 : Int32) (w1 : Wo) (r : Int32) (hf : fM_expected Λ w c0 x1 x2 = some (w1, r)) : Mi l yM_expected cM_expected 3 (some .int) rmM_expected G kA kL Λ ad [.ref (ad c0), .int x1, .int x2] w w1 r := by
  refine Mi.of (by decide +kernel) (Nat.le_of_ble_eq_true rfl) ?_
  intro p e s m args below meth c Q ls S hret hl hI
  have S : CallFix p m c cM_expected 3 s args (.code yM_expected cM_expected 3 (some .int) :: gW) "GuardVolumeModel" := S
  have hl : lv_has ls 3 [(0, .ref (ad c0)), (1, .int x1), (2, .int x2)] := hl
  have hx := S.1
  have hb := S.2.1
  have bk23 : ∀ (w : Wo) (c0 : Nat) (x1 : Int32) (x2 : Int32) (t0 : Nat) (s1 : Int32) (H : Heap) (locs : List Loc) (ls : Array Slot), lv_has ls 3 [(0, .ref (ad c0)), (1, .int x1), (2, .int x2)] → Iv (Aa Λ ad) G kA kL Λ ad w s H locs → bM_expected_23 Λ w c0 x1 x2 t0 s1 = some (w1, r) → W p l e rmM_expected s m args below meth c H locs 0 0 Q (F0 m 23 ls [.int s1, .ref (ad t0)]) := by
    intro w c0 x1 x2 t0 s1 H locs ls hl hI hf
    unfold bM_expected_23 at hf
    obtain ⟨w1, hw1, hf⟩ := ob_ hf
    refine r_put (i := 0) S hI fcM (Nat.le_of_ble_eq_true rfl) kw_501 rfl rfl rfl dM_expected_23 hw1 (fun H locs hI => ?_)
    refine lv_aload_n hx hb dM_expected_26 rfl (lv_at hl 0 rfl) ?_
    obtain ⟨v2, hv2, hf⟩ := ob_ hf
    refine r_geti (i := 0) S hI fcM (Nat.le_of_ble_eq_true rfl) kw_501 dM_expected_27 hv2 ?_
    refine lv_if_le (tgt := 37) hx hb dM_expected_30 rfl (fun h3 => ?_) (fun h3 => ?_)
    · have hf := ip_ hf h3
      refine lv_aload_n hx hb dM_expected_37 rfl (lv_at hl 0 rfl) ?_
      refine lv_iload_n hx hb dM_expected_38 rfl (lv_at hl 1 rfl) ?_
      refine lv_iload_n hx hb dM_expected_39 rfl (lv_at hl 2 rfl) ?_
      obtain ⟨q4, hq4, hf⟩ := ob_ hf
      refine r_ci (r_V (rest := []) (As := [.int x1, .int x2]) S hl hI (kM_expectedOf l G kA kL Λ ad w1 c0 x1 x2 q4.1 q4.2 hq4) pkM_expectedOf kw_595 ks_M_expectedOf (fcM).1 (gd_some hq4).1 kw_593 ⟨rfl, rfl⟩ ⟨Nat.le_of_ble_eq_true rfl, Nat.le_of_ble_eq_true rfl⟩ rfl rfl (Nat.le_of_ble_eq_true rfl) ⟨Nat.zero_le _, Nat.zero_le _⟩ dM_expected_40) hI (fun H locs hI => ?_)
      exact hret _ _ _ _ _ _ hI hf dM_expected_43
    · have hf := in_ hf h3
      refine lv_iconst hx hb dM_expected_33 kI_0 ?_
      refine lv_goto (tgt := 43) hx hb dM_expected_34 rfl ?_
      exact hret _ _ _ _ _ _ hI hf dM_expected_43
  have bk18 : ∀ (w : Wo) (c0 : Nat) (x1 : Int32) (x2 : Int32) (t0 : Nat) (H : Heap) (locs : List Loc) (ls : Array Slot), lv_has ls 3 [(0, .ref (ad c0)), (1, .int x1), (2, .int x2)] → Iv (Aa Λ ad) G kA kL Λ ad w s H locs → bM_expected_18 Λ w c0 x1 x2 t0 = some (w1, r) → W p l e rmM_expected s m args below meth c H locs 0 0 Q (F0 m 18 ls [.ref (ad t0)]) := by
    intro w c0 x1 x2 t0 H locs ls hl hI hf
    unfold bM_expected_18 at hf
    refine lv_iconst hx hb dM_expected_18 kI_1 ?_
    refine lv_goto (tgt := 23) hx hb dM_expected_19 rfl ?_
    exact bk23 w c0 x1 x2 t0 1 _ _ _ (lv_sub hl [0, 1, 2] rfl) hI hf
  unfold fM_expected at hf
  have hf := (gd_some hf).2
  refine lv_aload_n hx hb dM_expected_0 rfl (lv_at hl 0 rfl) ?_
  refine lv_iload_n hx hb dM_expected_1 rfl (lv_at hl 1 rfl) ?_
  refine lv_iconst hx hb dM_expected_2 kI_2 ?_
  obtain ⟨q5, hq5, hf⟩ := ob_ hf
  refine r_ci (r_S (rest := [.ref (ad c0)]) (As := [.int x1, .int 2]) S hl hI (kM_in l G kA kL Λ ad w x1 2 q5.1 q5.2 hq5) pkM_in kw_571 kw_570 ⟨rfl, rfl⟩ ⟨Nat.le_of_ble_eq_true rfl, Nat.le_of_ble_eq_true rfl⟩ rfl rfl (Nat.le_of_ble_eq_true rfl) ⟨Nat.zero_le _, Nat.zero_le _⟩ dM_expected_3) hI (fun H locs hI => ?_)
  refine lv_if_eq (tgt := 18) hx hb dM_expected_6 rfl (fun h6 => ?_) (fun h6 => ?_)
  · have hf := ip_ hf h6
    exact bk18 q5.1 c0 x1 x2 c0 _ _ _ (lv_sub hl [0, 1, 2] rfl) hI hf
  · have hf := in_ hf h6
    refine lv_iload_n hx hb dM_expected_9 rfl (lv_at hl 2 rfl) ?_
    refine lv_bipush hx hb dM_expected_10 kB_64 ?_
    obtain ⟨q7, hq7, hf⟩ := ob_ hf
    refine r_ci (r_S (rest := [.ref (ad c0)]) (As := [.int x2, .int 64]) S hl hI (kM_in l G kA kL Λ ad q5.1 x2 64 q7.1 q7.2 hq7) pkM_in kw_571 kw_570 ⟨rfl, rfl⟩ ⟨Nat.le_of_ble_eq_true rfl, Nat.le_of_ble_eq_true rfl⟩ rfl rfl (Nat.le_of_ble_eq_true rfl) ⟨Nat.zero_le _, Nat.zero_le _⟩ dM_expected_12) hI (fun H locs hI => ?_)
    refine lv_if_ne (tgt := 22) hx hb dM_expected_15 rfl (fun h8 => ?_) (fun h8 => ?_)
    · have hf := in_ hf h8
      refine lv_iconst hx hb dM_expected_22 kI_0 ?_
      exact bk23 q7.1 c0 x1 x2 c0 0 _ _ _ (lv_sub hl [0, 1, 2] rfl) hI hf
    · have hf := ip_ hf h8
      exact bk18 q7.1 c0 x1 x2 c0 _ _ _ (lv_sub hl [0, 1, 2] rfl) hI hf
/-- GuardVolumeModel.verdict(II)I -/
abbrev rmM_verdict : Room := { frames := 6, cells := 0, slots := 0, locals := 137 }
theorem pkM_verdict : Pk yM_verdict cM_verdict 3 (some .int) 2 := ⟨kw_684, kw_7, by decide +kernel, by decide +kernel, by decide +kernel⟩
def bM_verdict_23 (Λ : La) (w : Wo) (c0 : Nat) (x1 : Int32) (x2 : Int32) (t0 : Nat) (s1 : Int32) : Option (Wo × Int32) := (pf Λ w t0 5 0 s1).bind fun w1 => (gi Λ w1 c0 5 0).bind fun v2 => if v2 ≤ 0 then ((fM_verdictOf Λ w1 c0 x1 x2).bind fun q4 => some (q4.1, q4.2)) else (some (w1, 0))
def bM_verdict_18 (Λ : La) (w : Wo) (c0 : Nat) (x1 : Int32) (x2 : Int32) (t0 : Nat) : Option (Wo × Int32) := bM_verdict_23 Λ w c0 x1 x2 t0 1
def fM_verdict (Λ : La) (w : Wo) (c0 : Nat) (x1 : Int32) (x2 : Int32) : Option (Wo × Int32) := gd (isC Λ c0 5) ((fM_in Λ w x1 2).bind fun q5 => if q5.2 = 0 then (bM_verdict_18 Λ q5.1 c0 x1 x2 c0) else ((fM_in Λ q5.1 x2 64).bind fun q7 => if q7.2 = 0 then (bM_verdict_18 Λ q7.1 c0 x1 x2 c0) else (bM_verdict_23 Λ q7.1 c0 x1 x2 c0 0)))
set_option maxHeartbeats 4000000 in
set_option maxRecDepth 100000 in
theorem kM_verdict (l : Launch) (G : va_G) (kA kL : ClassId) (Λ : La) (ad : Nat → Nat) (w : Wo) (c0 : Nat) (x1 : Int32) (x2 : Int32) (w1 : Wo) (r : Int32) (hf : fM_verdict Λ w c0 x1 x2 = some (w1, r)) : Mi l yM_verdict cM_verdict 3 (some .int) rmM_verdict G kA kL Λ ad [.ref (ad c0), .int x1, .int x2] w w1 r := by
  refine Mi.of (by decide +kernel) (Nat.le_of_ble_eq_true rfl) ?_
  intro p e s m args below meth c Q ls S hret hl hI
  have S : CallFix p m c cM_verdict 3 s args (.code yM_verdict cM_verdict 3 (some .int) :: gW) "GuardVolumeModel" := S
  have hl : lv_has ls 3 [(0, .ref (ad c0)), (1, .int x1), (2, .int x2)] := hl
  have hx := S.1
  have hb := S.2.1
  have bk23 : ∀ (w : Wo) (c0 : Nat) (x1 : Int32) (x2 : Int32) (t0 : Nat) (s1 : Int32) (H : Heap) (locs : List Loc) (ls : Array Slot), lv_has ls 3 [(0, .ref (ad c0)), (1, .int x1), (2, .int x2)] → Iv (Aa Λ ad) G kA kL Λ ad w s H locs → bM_verdict_23 Λ w c0 x1 x2 t0 s1 = some (w1, r) → W p l e rmM_verdict s m args below meth c H locs 0 0 Q (F0 m 23 ls [.int s1, .ref (ad t0)]) := by
    intro w c0 x1 x2 t0 s1 H locs ls hl hI hf
    unfold bM_verdict_23 at hf
    obtain ⟨w1, hw1, hf⟩ := ob_ hf
    refine r_put (i := 0) S hI fcM (Nat.le_of_ble_eq_true rfl) kw_501 rfl rfl rfl dM_verdict_23 hw1 (fun H locs hI => ?_)
    refine lv_aload_n hx hb dM_verdict_26 rfl (lv_at hl 0 rfl) ?_
    obtain ⟨v2, hv2, hf⟩ := ob_ hf
    refine r_geti (i := 0) S hI fcM (Nat.le_of_ble_eq_true rfl) kw_501 dM_verdict_27 hv2 ?_
    refine lv_if_le (tgt := 37) hx hb dM_verdict_30 rfl (fun h3 => ?_) (fun h3 => ?_)
    · have hf := ip_ hf h3
      refine lv_aload_n hx hb dM_verdict_37 rfl (lv_at hl 0 rfl) ?_
      refine lv_iload_n hx hb dM_verdict_38 rfl (lv_at hl 1 rfl) ?_
      refine lv_iload_n hx hb dM_verdict_39 rfl (lv_at hl 2 rfl) ?_
      obtain ⟨q4, hq4, hf⟩ := ob_ hf
      refine r_ci (r_V (rest := []) (As := [.int x1, .int x2]) S hl hI (kM_verdictOf l G kA kL Λ ad w1 c0 x1 x2 q4.1 q4.2 hq4) pkM_verdictOf kw_579 ks_M_verdictOf (fcM).1 (gd_some hq4).1 kw_577 ⟨rfl, rfl⟩ ⟨Nat.le_of_ble_eq_true rfl, Nat.le_of_ble_eq_true rfl⟩ rfl rfl (Nat.le_of_ble_eq_true rfl) ⟨Nat.zero_le _, Nat.zero_le _⟩ dM_verdict_40) hI (fun H locs hI => ?_)
      exact hret _ _ _ _ _ _ hI hf dM_verdict_43
    · have hf := in_ hf h3
      refine lv_iconst hx hb dM_verdict_33 kI_0 ?_
      refine lv_goto (tgt := 43) hx hb dM_verdict_34 rfl ?_
      exact hret _ _ _ _ _ _ hI hf dM_verdict_43
  have bk18 : ∀ (w : Wo) (c0 : Nat) (x1 : Int32) (x2 : Int32) (t0 : Nat) (H : Heap) (locs : List Loc) (ls : Array Slot), lv_has ls 3 [(0, .ref (ad c0)), (1, .int x1), (2, .int x2)] → Iv (Aa Λ ad) G kA kL Λ ad w s H locs → bM_verdict_18 Λ w c0 x1 x2 t0 = some (w1, r) → W p l e rmM_verdict s m args below meth c H locs 0 0 Q (F0 m 18 ls [.ref (ad t0)]) := by
    intro w c0 x1 x2 t0 H locs ls hl hI hf
    unfold bM_verdict_18 at hf
    refine lv_iconst hx hb dM_verdict_18 kI_1 ?_
    refine lv_goto (tgt := 23) hx hb dM_verdict_19 rfl ?_
    exact bk23 w c0 x1 x2 t0 1 _ _ _ (lv_sub hl [0, 1, 2] rfl) hI hf
  unfold fM_verdict at hf
  have hf := (gd_some hf).2
  refine lv_aload_n hx hb dM_verdict_0 rfl (lv_at hl 0 rfl) ?_
  refine lv_iload_n hx hb dM_verdict_1 rfl (lv_at hl 1 rfl) ?_
  refine lv_iconst hx hb dM_verdict_2 kI_2 ?_
  obtain ⟨q5, hq5, hf⟩ := ob_ hf
  refine r_ci (r_S (rest := [.ref (ad c0)]) (As := [.int x1, .int 2]) S hl hI (kM_in l G kA kL Λ ad w x1 2 q5.1 q5.2 hq5) pkM_in kw_571 kw_570 ⟨rfl, rfl⟩ ⟨Nat.le_of_ble_eq_true rfl, Nat.le_of_ble_eq_true rfl⟩ rfl rfl (Nat.le_of_ble_eq_true rfl) ⟨Nat.zero_le _, Nat.zero_le _⟩ dM_verdict_3) hI (fun H locs hI => ?_)
  refine lv_if_eq (tgt := 18) hx hb dM_verdict_6 rfl (fun h6 => ?_) (fun h6 => ?_)
  · have hf := ip_ hf h6
    exact bk18 q5.1 c0 x1 x2 c0 _ _ _ (lv_sub hl [0, 1, 2] rfl) hI hf
  · have hf := in_ hf h6
    refine lv_iload_n hx hb dM_verdict_9 rfl (lv_at hl 2 rfl) ?_
    refine lv_bipush hx hb dM_verdict_10 kB_64 ?_
    obtain ⟨q7, hq7, hf⟩ := ob_ hf
    refine r_ci (r_S (rest := [.ref (ad c0)]) (As := [.int x2, .int 64]) S hl hI (kM_in l G kA kL Λ ad q5.1 x2 64 q7.1 q7.2 hq7) pkM_in kw_571 kw_570 ⟨rfl, rfl⟩ ⟨Nat.le_of_ble_eq_true rfl, Nat.le_of_ble_eq_true rfl⟩ rfl rfl (Nat.le_of_ble_eq_true rfl) ⟨Nat.zero_le _, Nat.zero_le _⟩ dM_verdict_12) hI (fun H locs hI => ?_)
    refine lv_if_ne (tgt := 22) hx hb dM_verdict_15 rfl (fun h8 => ?_) (fun h8 => ?_)
    · have hf := in_ hf h8
      refine lv_iconst hx hb dM_verdict_22 kI_0 ?_
      exact bk23 q7.1 c0 x1 x2 c0 0 _ _ _ (lv_sub hl [0, 1, 2] rfl) hI hf
    · have hf := ip_ hf h8
      exact bk18 q7.1 c0 x1 x2 c0 _ _ _ (lv_sub hl [0, 1, 2] rfl) hI hf
/-- GuardVolumeModel.isRight(II)Z -/
abbrev rmM_isRight : Room := { frames := 4, cells := 0, slots := 0, locals := 90 }
theorem pkM_isRight : Pk yM_isRight cM_isRight 3 (some .boolean) 2 := ⟨kw_688, kw_7, by decide +kernel, by decide +kernel, by decide +kernel⟩
def bM_isRight_23 (Λ : La) (w : Wo) (c0 : Nat) (x1 : Int32) (x2 : Int32) (t0 : Nat) (s1 : Int32) : Option (Wo × Int32) := (pf Λ w t0 5 0 s1).bind fun w1 => (gi Λ w1 c0 5 0).bind fun v2 => if v2 = 0 then ((fM_isRightPage Λ w1 c0 x1 x2).bind fun q4 => if q4.2 = 0 then (zr q4.1 0) else (zr q4.1 1)) else (zr w1 0)
def bM_isRight_18 (Λ : La) (w : Wo) (c0 : Nat) (x1 : Int32) (x2 : Int32) (t0 : Nat) : Option (Wo × Int32) := bM_isRight_23 Λ w c0 x1 x2 t0 1
def fM_isRight (Λ : La) (w : Wo) (c0 : Nat) (x1 : Int32) (x2 : Int32) : Option (Wo × Int32) := gd (isC Λ c0 5) ((fM_in Λ w x1 2).bind fun q6 => if q6.2 = 0 then (bM_isRight_18 Λ q6.1 c0 x1 x2 c0) else ((fM_in Λ q6.1 x2 8).bind fun q8 => if q8.2 = 0 then (bM_isRight_18 Λ q8.1 c0 x1 x2 c0) else (bM_isRight_23 Λ q8.1 c0 x1 x2 c0 0)))
set_option maxHeartbeats 4000000 in
set_option maxRecDepth 100000 in
theorem kM_isRight (l : Launch) (G : va_G) (kA kL : ClassId) (Λ : La) (ad : Nat → Nat) (w : Wo) (c0 : Nat) (x1 : Int32) (x2 : Int32) (w1 : Wo) (r : Int32) (hf : fM_isRight Λ w c0 x1 x2 = some (w1, r)) : Mi l yM_isRight cM_isRight 3 (some .boolean) rmM_isRight G kA kL Λ ad [.ref (ad c0), .int x1, .int x2] w w1 r := by
  refine Mz.of (by decide +kernel) (Nat.le_of_ble_eq_true rfl) ?_
  intro p e s m args below meth c Q ls S hret hl hI
  have S : CallFix p m c cM_isRight 3 s args (.code yM_isRight cM_isRight 3 (some .boolean) :: gW) "GuardVolumeModel" := S
  have hl : lv_has ls 3 [(0, .ref (ad c0)), (1, .int x1), (2, .int x2)] := hl
  have hx := S.1
  have hb := S.2.1
  have bk23 : ∀ (w : Wo) (c0 : Nat) (x1 : Int32) (x2 : Int32) (t0 : Nat) (s1 : Int32) (H : Heap) (locs : List Loc) (ls : Array Slot), lv_has ls 3 [(0, .ref (ad c0)), (1, .int x1), (2, .int x2)] → Iv (Aa Λ ad) G kA kL Λ ad w s H locs → bM_isRight_23 Λ w c0 x1 x2 t0 s1 = some (w1, r) → W p l e rmM_isRight s m args below meth c H locs 0 0 Q (F0 m 23 ls [.int s1, .ref (ad t0)]) := by
    intro w c0 x1 x2 t0 s1 H locs ls hl hI hf
    unfold bM_isRight_23 at hf
    obtain ⟨w1, hw1, hf⟩ := ob_ hf
    refine r_put (i := 0) S hI fcM (Nat.le_of_ble_eq_true rfl) kw_501 rfl rfl rfl dM_isRight_23 hw1 (fun H locs hI => ?_)
    refine lv_aload_n hx hb dM_isRight_26 rfl (lv_at hl 0 rfl) ?_
    obtain ⟨v2, hv2, hf⟩ := ob_ hf
    refine r_geti (i := 0) S hI fcM (Nat.le_of_ble_eq_true rfl) kw_501 dM_isRight_27 hv2 ?_
    refine lv_if_ne (tgt := 46) hx hb dM_isRight_30 rfl (fun h3 => ?_) (fun h3 => ?_)
    · have hf := in_ hf h3
      refine lv_iconst hx hb dM_isRight_46 kI_0 ?_
      exact hret _ _ _ _ _ _ hI hf dM_isRight_47
    · have hf := ip_ hf h3
      refine lv_aload_n hx hb dM_isRight_33 rfl (lv_at hl 0 rfl) ?_
      refine lv_iload_n hx hb dM_isRight_34 rfl (lv_at hl 1 rfl) ?_
      refine lv_iload_n hx hb dM_isRight_35 rfl (lv_at hl 2 rfl) ?_
      obtain ⟨q4, hq4, hf⟩ := ob_ hf
      refine r_ci (r_V (rest := []) (As := [.int x1, .int x2]) S hl hI (kM_isRightPage l G kA kL Λ ad w1 c0 x1 x2 q4.1 q4.2 hq4) pkM_isRightPage kw_591 ks_M_isRightPage (fcM).1 (gd_some hq4).1 kw_589 ⟨rfl, rfl⟩ ⟨Nat.le_of_ble_eq_true rfl, Nat.le_of_ble_eq_true rfl⟩ rfl rfl (Nat.le_of_ble_eq_true rfl) ⟨Nat.zero_le _, Nat.zero_le _⟩ dM_isRight_36) hI (fun H locs hI => ?_)
      refine lv_if_eq (tgt := 46) hx hb dM_isRight_39 rfl (fun h5 => ?_) (fun h5 => ?_)
      · have hf := ip_ hf h5
        refine lv_iconst hx hb dM_isRight_46 kI_0 ?_
        exact hret _ _ _ _ _ _ hI hf dM_isRight_47
      · have hf := in_ hf h5
        refine lv_iconst hx hb dM_isRight_42 kI_1 ?_
        refine lv_goto (tgt := 47) hx hb dM_isRight_43 rfl ?_
        exact hret _ _ _ _ _ _ hI hf dM_isRight_47
  have bk18 : ∀ (w : Wo) (c0 : Nat) (x1 : Int32) (x2 : Int32) (t0 : Nat) (H : Heap) (locs : List Loc) (ls : Array Slot), lv_has ls 3 [(0, .ref (ad c0)), (1, .int x1), (2, .int x2)] → Iv (Aa Λ ad) G kA kL Λ ad w s H locs → bM_isRight_18 Λ w c0 x1 x2 t0 = some (w1, r) → W p l e rmM_isRight s m args below meth c H locs 0 0 Q (F0 m 18 ls [.ref (ad t0)]) := by
    intro w c0 x1 x2 t0 H locs ls hl hI hf
    unfold bM_isRight_18 at hf
    refine lv_iconst hx hb dM_isRight_18 kI_1 ?_
    refine lv_goto (tgt := 23) hx hb dM_isRight_19 rfl ?_
    exact bk23 w c0 x1 x2 t0 1 _ _ _ (lv_sub hl [0, 1, 2] rfl) hI hf
  unfold fM_isRight at hf
  have hf := (gd_some hf).2
  refine lv_aload_n hx hb dM_isRight_0 rfl (lv_at hl 0 rfl) ?_
  refine lv_iload_n hx hb dM_isRight_1 rfl (lv_at hl 1 rfl) ?_
  refine lv_iconst hx hb dM_isRight_2 kI_2 ?_
  obtain ⟨q6, hq6, hf⟩ := ob_ hf
  refine r_ci (r_S (rest := [.ref (ad c0)]) (As := [.int x1, .int 2]) S hl hI (kM_in l G kA kL Λ ad w x1 2 q6.1 q6.2 hq6) pkM_in kw_571 kw_570 ⟨rfl, rfl⟩ ⟨Nat.le_of_ble_eq_true rfl, Nat.le_of_ble_eq_true rfl⟩ rfl rfl (Nat.le_of_ble_eq_true rfl) ⟨Nat.zero_le _, Nat.zero_le _⟩ dM_isRight_3) hI (fun H locs hI => ?_)
  refine lv_if_eq (tgt := 18) hx hb dM_isRight_6 rfl (fun h7 => ?_) (fun h7 => ?_)
  · have hf := ip_ hf h7
    exact bk18 q6.1 c0 x1 x2 c0 _ _ _ (lv_sub hl [0, 1, 2] rfl) hI hf
  · have hf := in_ hf h7
    refine lv_iload_n hx hb dM_isRight_9 rfl (lv_at hl 2 rfl) ?_
    refine lv_bipush hx hb dM_isRight_10 kB_8 ?_
    obtain ⟨q8, hq8, hf⟩ := ob_ hf
    refine r_ci (r_S (rest := [.ref (ad c0)]) (As := [.int x2, .int 8]) S hl hI (kM_in l G kA kL Λ ad q6.1 x2 8 q8.1 q8.2 hq8) pkM_in kw_571 kw_570 ⟨rfl, rfl⟩ ⟨Nat.le_of_ble_eq_true rfl, Nat.le_of_ble_eq_true rfl⟩ rfl rfl (Nat.le_of_ble_eq_true rfl) ⟨Nat.zero_le _, Nat.zero_le _⟩ dM_isRight_12) hI (fun H locs hI => ?_)
    refine lv_if_ne (tgt := 22) hx hb dM_isRight_15 rfl (fun h9 => ?_) (fun h9 => ?_)
    · have hf := in_ hf h9
      refine lv_iconst hx hb dM_isRight_22 kI_0 ?_
      exact bk23 q8.1 c0 x1 x2 c0 0 _ _ _ (lv_sub hl [0, 1, 2] rfl) hI hf
    · have hf := ip_ hf h9
      exact bk18 q8.1 c0 x1 x2 c0 _ _ _ (lv_sub hl [0, 1, 2] rfl) hI hf
/-- GuardVolumeModel.raw(III)I -/
abbrev rmM_raw : Room := { frames := 1, cells := 0, slots := 0, locals := 21 }
theorem pkM_raw : Pk yM_raw cM_raw 4 (some .int) 3 := ⟨kw_692, kw_7, by decide +kernel, by decide +kernel, by decide +kernel⟩
def bM_raw_32 (Λ : La) (w : Wo) (c0 : Nat) (x1 : Int32) (x2 : Int32) (x3 : Int32) (t0 : Nat) (s1 : Int32) : Option (Wo × Int32) := (pf Λ w t0 5 0 s1).bind fun w1 => (gi Λ w1 c0 5 0).bind fun v2 => if v2 ≤ 0 then ((gr Λ c0 5 1).bind fun r4 => (fM_place Λ w1 x1 x2).bind fun q5 => (ld Λ q5.1 r4 (q5.2 + x3)).bind fun v6 => some (q5.1, v6)) else (some (w1, 0))
def bM_raw_27 (Λ : La) (w : Wo) (c0 : Nat) (x1 : Int32) (x2 : Int32) (x3 : Int32) (t0 : Nat) : Option (Wo × Int32) := bM_raw_32 Λ w c0 x1 x2 x3 t0 1
def fM_raw (Λ : La) (w : Wo) (c0 : Nat) (x1 : Int32) (x2 : Int32) (x3 : Int32) : Option (Wo × Int32) := gd (isC Λ c0 5) ((fM_in Λ w x1 2).bind fun q7 => if q7.2 = 0 then (bM_raw_27 Λ q7.1 c0 x1 x2 x3 c0) else ((fM_in Λ q7.1 x2 72).bind fun q9 => if q9.2 = 0 then (bM_raw_27 Λ q9.1 c0 x1 x2 x3 c0) else ((fM_in Λ q9.1 x3 11).bind fun q11 => if q11.2 = 0 then (bM_raw_27 Λ q11.1 c0 x1 x2 x3 c0) else (bM_raw_32 Λ q11.1 c0 x1 x2 x3 c0 0))))
set_option maxHeartbeats 4000000 in
set_option maxRecDepth 100000 in
theorem kM_raw (l : Launch) (G : va_G) (kA kL : ClassId) (Λ : La) (ad : Nat → Nat) (w : Wo) (c0 : Nat) (x1 : Int32) (x2 : Int32) (x3 : Int32) (w1 : Wo) (r : Int32) (hf : fM_raw Λ w c0 x1 x2 x3 = some (w1, r)) : Mi l yM_raw cM_raw 4 (some .int) rmM_raw G kA kL Λ ad [.ref (ad c0), .int x1, .int x2, .int x3] w w1 r := by
  refine Mi.of (by decide +kernel) (Nat.le_of_ble_eq_true rfl) ?_
  intro p e s m args below meth c Q ls S hret hl hI
  have S : CallFix p m c cM_raw 4 s args (.code yM_raw cM_raw 4 (some .int) :: gW) "GuardVolumeModel" := S
  have hl : lv_has ls 4 [(0, .ref (ad c0)), (1, .int x1), (2, .int x2), (3, .int x3)] := hl
  have hx := S.1
  have hb := S.2.1
  have bk32 : ∀ (w : Wo) (c0 : Nat) (x1 : Int32) (x2 : Int32) (x3 : Int32) (t0 : Nat) (s1 : Int32) (H : Heap) (locs : List Loc) (ls : Array Slot), lv_has ls 4 [(0, .ref (ad c0)), (1, .int x1), (2, .int x2), (3, .int x3)] → Iv (Aa Λ ad) G kA kL Λ ad w s H locs → bM_raw_32 Λ w c0 x1 x2 x3 t0 s1 = some (w1, r) → W p l e rmM_raw s m args below meth c H locs 0 0 Q (F0 m 32 ls [.int s1, .ref (ad t0)]) := by
    intro w c0 x1 x2 x3 t0 s1 H locs ls hl hI hf
    unfold bM_raw_32 at hf
    obtain ⟨w1, hw1, hf⟩ := ob_ hf
    refine r_put (i := 0) S hI fcM (Nat.le_of_ble_eq_true rfl) kw_501 rfl rfl rfl dM_raw_32 hw1 (fun H locs hI => ?_)
    refine lv_aload_n hx hb dM_raw_35 rfl (lv_at hl 0 rfl) ?_
    obtain ⟨v2, hv2, hf⟩ := ob_ hf
    refine r_geti (i := 0) S hI fcM (Nat.le_of_ble_eq_true rfl) kw_501 dM_raw_36 hv2 ?_
    refine lv_if_le (tgt := 46) hx hb dM_raw_39 rfl (fun h3 => ?_) (fun h3 => ?_)
    · have hf := ip_ hf h3
      refine lv_aload_n hx hb dM_raw_46 rfl (lv_at hl 0 rfl) ?_
      obtain ⟨r4, hr4, hf⟩ := ob_ hf
      refine r_getr (i := 1) S hI fcM (Nat.le_of_ble_eq_true rfl) kw_502 dM_raw_47 hr4 ?_
      refine lv_iload_n hx hb dM_raw_50 rfl (lv_at hl 1 rfl) ?_
      refine lv_iload_n hx hb dM_raw_51 rfl (lv_at hl 2 rfl) ?_
      obtain ⟨q5, hq5, hf⟩ := ob_ hf
      refine r_ci (r_S (rest := [.ref (ad r4)]) (As := [.int x1, .int x2]) S hl hI (kM_place l G kA kL Λ ad w1 x1 x2 q5.1 q5.2 hq5) pkM_place kw_492 kw_491 ⟨rfl, rfl⟩ ⟨Nat.le_of_ble_eq_true rfl, Nat.le_of_ble_eq_true rfl⟩ rfl rfl (Nat.le_of_ble_eq_true rfl) ⟨Nat.zero_le _, Nat.zero_le _⟩ dM_raw_52) hI (fun H locs hI => ?_)
      refine lv_iload_n hx hb dM_raw_55 rfl (lv_at hl 3 rfl) ?_
      refine lv_iadd hx hb dM_raw_56 ?_
      obtain ⟨v6, hv6, hf⟩ := ob_ hf
      refine r_ald S hI dM_raw_57 hv6 ?_
      exact hret _ _ _ _ _ _ hI hf dM_raw_58
    · have hf := in_ hf h3
      refine lv_iconst hx hb dM_raw_42 kI_0 ?_
      refine lv_goto (tgt := 58) hx hb dM_raw_43 rfl ?_
      exact hret _ _ _ _ _ _ hI hf dM_raw_58
  have bk27 : ∀ (w : Wo) (c0 : Nat) (x1 : Int32) (x2 : Int32) (x3 : Int32) (t0 : Nat) (H : Heap) (locs : List Loc) (ls : Array Slot), lv_has ls 4 [(0, .ref (ad c0)), (1, .int x1), (2, .int x2), (3, .int x3)] → Iv (Aa Λ ad) G kA kL Λ ad w s H locs → bM_raw_27 Λ w c0 x1 x2 x3 t0 = some (w1, r) → W p l e rmM_raw s m args below meth c H locs 0 0 Q (F0 m 27 ls [.ref (ad t0)]) := by
    intro w c0 x1 x2 x3 t0 H locs ls hl hI hf
    unfold bM_raw_27 at hf
    refine lv_iconst hx hb dM_raw_27 kI_1 ?_
    refine lv_goto (tgt := 32) hx hb dM_raw_28 rfl ?_
    exact bk32 w c0 x1 x2 x3 t0 1 _ _ _ (lv_sub hl [0, 1, 2, 3] rfl) hI hf
  unfold fM_raw at hf
  have hf := (gd_some hf).2
  refine lv_aload_n hx hb dM_raw_0 rfl (lv_at hl 0 rfl) ?_
  refine lv_iload_n hx hb dM_raw_1 rfl (lv_at hl 1 rfl) ?_
  refine lv_iconst hx hb dM_raw_2 kI_2 ?_
  obtain ⟨q7, hq7, hf⟩ := ob_ hf
  refine r_ci (r_S (rest := [.ref (ad c0)]) (As := [.int x1, .int 2]) S hl hI (kM_in l G kA kL Λ ad w x1 2 q7.1 q7.2 hq7) pkM_in kw_571 kw_570 ⟨rfl, rfl⟩ ⟨Nat.le_of_ble_eq_true rfl, Nat.le_of_ble_eq_true rfl⟩ rfl rfl (Nat.le_of_ble_eq_true rfl) ⟨Nat.zero_le _, Nat.zero_le _⟩ dM_raw_3) hI (fun H locs hI => ?_)
  refine lv_if_eq (tgt := 27) hx hb dM_raw_6 rfl (fun h8 => ?_) (fun h8 => ?_)
  · have hf := ip_ hf h8
    exact bk27 q7.1 c0 x1 x2 x3 c0 _ _ _ (lv_sub hl [0, 1, 2, 3] rfl) hI hf
  · have hf := in_ hf h8
    refine lv_iload_n hx hb dM_raw_9 rfl (lv_at hl 2 rfl) ?_
    refine lv_bipush hx hb dM_raw_10 kB_72 ?_
    obtain ⟨q9, hq9, hf⟩ := ob_ hf
    refine r_ci (r_S (rest := [.ref (ad c0)]) (As := [.int x2, .int 72]) S hl hI (kM_in l G kA kL Λ ad q7.1 x2 72 q9.1 q9.2 hq9) pkM_in kw_571 kw_570 ⟨rfl, rfl⟩ ⟨Nat.le_of_ble_eq_true rfl, Nat.le_of_ble_eq_true rfl⟩ rfl rfl (Nat.le_of_ble_eq_true rfl) ⟨Nat.zero_le _, Nat.zero_le _⟩ dM_raw_12) hI (fun H locs hI => ?_)
    refine lv_if_eq (tgt := 27) hx hb dM_raw_15 rfl (fun h10 => ?_) (fun h10 => ?_)
    · have hf := ip_ hf h10
      exact bk27 q9.1 c0 x1 x2 x3 c0 _ _ _ (lv_sub hl [0, 1, 2, 3] rfl) hI hf
    · have hf := in_ hf h10
      refine lv_iload_n hx hb dM_raw_18 rfl (lv_at hl 3 rfl) ?_
      refine lv_bipush hx hb dM_raw_19 kB_11 ?_
      obtain ⟨q11, hq11, hf⟩ := ob_ hf
      refine r_ci (r_S (rest := [.ref (ad c0)]) (As := [.int x3, .int 11]) S hl hI (kM_in l G kA kL Λ ad q9.1 x3 11 q11.1 q11.2 hq11) pkM_in kw_571 kw_570 ⟨rfl, rfl⟩ ⟨Nat.le_of_ble_eq_true rfl, Nat.le_of_ble_eq_true rfl⟩ rfl rfl (Nat.le_of_ble_eq_true rfl) ⟨Nat.zero_le _, Nat.zero_le _⟩ dM_raw_21) hI (fun H locs hI => ?_)
      refine lv_if_ne (tgt := 31) hx hb dM_raw_24 rfl (fun h12 => ?_) (fun h12 => ?_)
      · have hf := in_ hf h12
        refine lv_iconst hx hb dM_raw_31 kI_0 ?_
        exact bk32 q11.1 c0 x1 x2 x3 c0 0 _ _ _ (lv_sub hl [0, 1, 2, 3] rfl) hI hf
      · have hf := ip_ hf h12
        exact bk27 q11.1 c0 x1 x2 x3 c0 _ _ _ (lv_sub hl [0, 1, 2, 3] rfl) hI hf
/-- GuardVolumeModel.replace(I)V -/
abbrev rmM_replace : Room := { frames := 1, cells := 0, slots := 0, locals := 21 }
theorem pkM_replace : Pk yM_replace cM_replace 3 none 1 := ⟨kw_696, kw_7, by decide +kernel, by decide +kernel, by decide +kernel⟩
def bM_replace_38s (Λ : La) (K38 : Wo → Nat → Int32 → Int32 → Option Wo) (w : Wo) (c0 : Nat) (x1 : Int32) (x2 : Int32) : Option Wo := if 792 ≤ x2 then ((gr Λ c0 5 9).bind fun r2 => (st Λ w r2 x1 0).bind fun w3 => some w3) else ((gr Λ c0 5 1).bind fun r4 => (st Λ w r4 ((792 * x1) + x2) 0).bind fun w5 => K38 w5 c0 x1 (x2 + 1))
def bM_replace_38 (Λ : La) : Nat → Wo → Nat → Int32 → Int32 → Option Wo
  | 0 => fun _ _ _ _ => none
  | n + 1 => bM_replace_38s Λ (bM_replace_38 Λ n)
def bM_replace_25 (Λ : La) (w : Wo) (c0 : Nat) (x1 : Int32) (t0 : Nat) (s1 : Int32) : Option Wo := (pf Λ w t0 5 0 s1).bind fun w6 => (gi Λ w6 c0 5 0).bind fun v7 => if v7 ≤ 0 then (bM_replace_38 Λ 1000 w6 c0 x1 0) else (some w6)
def fM_replace (Λ : La) (w : Wo) (c0 : Nat) (x1 : Int32) : Option Wo := gd (isC Λ c0 5) ((fM_in Λ w x1 2).bind fun q9 => if q9.2 = 0 then (bM_replace_25 Λ q9.1 c0 x1 c0 1) else ((gi Λ q9.1 c0 5 6).bind fun v11 => if v11 = 0 then (bM_replace_25 Λ q9.1 c0 x1 c0 0) else (bM_replace_25 Λ q9.1 c0 x1 c0 2)))
set_option maxHeartbeats 4000000 in
set_option maxRecDepth 100000 in
theorem kM_replace (l : Launch) (G : va_G) (kA kL : ClassId) (Λ : La) (ad : Nat → Nat) (w : Wo) (c0 : Nat) (x1 : Int32) (w1 : Wo) (hf : fM_replace Λ w c0 x1 = some w1) : Mv l yM_replace cM_replace 3 rmM_replace G kA kL Λ ad [.ref (ad c0), .int x1] w w1 := by
  refine Mv.of (by decide +kernel) (Nat.le_of_ble_eq_true rfl) ?_
  intro p e s m args below meth c Q ls S hret hl hI
  have S : CallFix p m c cM_replace 3 s args (.code yM_replace cM_replace 3 none :: gW) "GuardVolumeModel" := S
  have hl : lv_has ls 3 [(0, .ref (ad c0)), (1, .int x1)] := hl
  have hx := S.1
  have hb := S.2.1
  have bk38 : ∀ (K38 : Wo → Nat → Int32 → Int32 → Option Wo), (∀ (w : Wo) (c0 : Nat) (x1 : Int32) (x2 : Int32) (H : Heap) (locs : List Loc) (ls : Array Slot), lv_has ls 3 [(0, .ref (ad c0)), (1, .int x1), (2, .int x2)] → Iv (Aa Λ ad) G kA kL Λ ad w s H locs → K38 w c0 x1 x2 = some w1 → W p l e rmM_replace s m args below meth c H locs 0 0 Q (F0 m 38 ls [])) → ∀ (w : Wo) (c0 : Nat) (x1 : Int32) (x2 : Int32) (H : Heap) (locs : List Loc) (ls : Array Slot), lv_has ls 3 [(0, .ref (ad c0)), (1, .int x1), (2, .int x2)] → Iv (Aa Λ ad) G kA kL Λ ad w s H locs → bM_replace_38s Λ K38 w c0 x1 x2 = some w1 → W p l e rmM_replace s m args below meth c H locs 0 0 Q (F0 m 38 ls []) := by
    intro K38 hK38 w c0 x1 x2 H locs ls hl hI hf
    unfold bM_replace_38s at hf
    refine lv_iload_n hx hb dM_replace_38 rfl (lv_at hl 2 rfl) ?_
    refine lv_sipush hx hb dM_replace_39 kS_792 ?_
    refine lv_icmp_ge (tgt := 64) hx hb dM_replace_42 rfl (fun h1 => ?_) (fun h1 => ?_)
    · have hf := ip_ hf h1
      refine lv_aload_n hx hb dM_replace_64 rfl (lv_at hl 0 rfl) ?_
      obtain ⟨r2, hr2, hf⟩ := ob_ hf
      refine r_getr (i := 9) S hI fcM (Nat.le_of_ble_eq_true rfl) kw_510 dM_replace_65 hr2 ?_
      refine lv_iload_n hx hb dM_replace_68 rfl (lv_at hl 1 rfl) ?_
      refine lv_iconst hx hb dM_replace_69 kI_0 ?_
      obtain ⟨w3, hw3, hf⟩ := ob_ hf
      refine r_ast S hI dM_replace_70 hw3 (fun H locs hI => ?_)
      exact hret _ _ _ _ _ hI hf dM_replace_71
    · have hf := in_ hf h1
      refine lv_aload_n hx hb dM_replace_45 rfl (lv_at hl 0 rfl) ?_
      obtain ⟨r4, hr4, hf⟩ := ob_ hf
      refine r_getr (i := 1) S hI fcM (Nat.le_of_ble_eq_true rfl) kw_502 dM_replace_46 hr4 ?_
      refine lv_sipush hx hb dM_replace_49 kS_792 ?_
      refine lv_iload_n hx hb dM_replace_52 rfl (lv_at hl 1 rfl) ?_
      refine lv_imul hx hb dM_replace_53 ?_
      refine lv_iload_n hx hb dM_replace_54 rfl (lv_at hl 2 rfl) ?_
      refine lv_iadd hx hb dM_replace_55 ?_
      refine lv_iconst hx hb dM_replace_56 kI_0 ?_
      obtain ⟨w5, hw5, hf⟩ := ob_ hf
      refine r_ast S hI dM_replace_57 hw5 (fun H locs hI => ?_)
      refine lv_iinc hx hb (lv' := [(2, .int (x2 + 1)), (0, .ref (ad c0)), (1, .int x1)]) (k := 2) dM_replace_58 hl rfl (kN_1 _) (Nat.le_of_ble_eq_true rfl) rfl (fun ls hl => ?_)
      refine lv_goto (tgt := 38) hx hb dM_replace_61 rfl ?_
      exact hK38 w5 c0 x1 (x2 + 1) _ _ _ (lv_sub hl [1, 2, 0] rfl) hI hf
  have lp38 : ∀ (n : Nat), ∀ (w : Wo) (c0 : Nat) (x1 : Int32) (x2 : Int32) (H : Heap) (locs : List Loc) (ls : Array Slot), lv_has ls 3 [(0, .ref (ad c0)), (1, .int x1), (2, .int x2)] → Iv (Aa Λ ad) G kA kL Λ ad w s H locs → bM_replace_38 Λ n w c0 x1 x2 = some w1 → W p l e rmM_replace s m args below meth c H locs 0 0 Q (F0 m 38 ls []) := by
    intro n
    induction n with
    | zero =>
      intro w c0 x1 x2 H locs ls hl hI hf
      have hf : (none : Option Wo) = some w1 := hf
      cases hf
    | succ n ih =>
      intro w c0 x1 x2 H locs ls hl hI hf
      exact bk38 (bM_replace_38 Λ n) ih w c0 x1 x2 H locs ls hl hI hf
  have bk25 : ∀ (w : Wo) (c0 : Nat) (x1 : Int32) (t0 : Nat) (s1 : Int32) (H : Heap) (locs : List Loc) (ls : Array Slot), lv_has ls 3 [(0, .ref (ad c0)), (1, .int x1)] → Iv (Aa Λ ad) G kA kL Λ ad w s H locs → bM_replace_25 Λ w c0 x1 t0 s1 = some w1 → W p l e rmM_replace s m args below meth c H locs 0 0 Q (F0 m 25 ls [.int s1, .ref (ad t0)]) := by
    intro w c0 x1 t0 s1 H locs ls hl hI hf
    unfold bM_replace_25 at hf
    obtain ⟨w6, hw6, hf⟩ := ob_ hf
    refine r_put (i := 0) S hI fcM (Nat.le_of_ble_eq_true rfl) kw_501 rfl rfl rfl dM_replace_25 hw6 (fun H locs hI => ?_)
    refine lv_aload_n hx hb dM_replace_28 rfl (lv_at hl 0 rfl) ?_
    obtain ⟨v7, hv7, hf⟩ := ob_ hf
    refine r_geti (i := 0) S hI fcM (Nat.le_of_ble_eq_true rfl) kw_501 dM_replace_29 hv7 ?_
    refine lv_if_le (tgt := 36) hx hb dM_replace_32 rfl (fun h8 => ?_) (fun h8 => ?_)
    · have hf := ip_ hf h8
      refine lv_iconst hx hb dM_replace_36 kI_0 ?_
      refine lv_istore_n hx hb (lv' := [(2, .int 0), (0, .ref (ad c0)), (1, .int x1)]) dM_replace_37 rfl hl (Nat.le_of_ble_eq_true rfl) rfl (fun ls hl => ?_)
      exact lp38 1000 w6 c0 x1 0 _ _ _ (lv_sub hl [1, 2, 0] rfl) hI hf
    · have hf := in_ hf h8
      exact hret _ _ _ _ _ hI hf dM_replace_35
  unfold fM_replace at hf
  have hf := (gd_some hf).2
  refine lv_aload_n hx hb dM_replace_0 rfl (lv_at hl 0 rfl) ?_
  refine lv_iload_n hx hb dM_replace_1 rfl (lv_at hl 1 rfl) ?_
  refine lv_iconst hx hb dM_replace_2 kI_2 ?_
  obtain ⟨q9, hq9, hf⟩ := ob_ hf
  refine r_ci (r_S (rest := [.ref (ad c0)]) (As := [.int x1, .int 2]) S hl hI (kM_in l G kA kL Λ ad w x1 2 q9.1 q9.2 hq9) pkM_in kw_571 kw_570 ⟨rfl, rfl⟩ ⟨Nat.le_of_ble_eq_true rfl, Nat.le_of_ble_eq_true rfl⟩ rfl rfl (Nat.le_of_ble_eq_true rfl) ⟨Nat.zero_le _, Nat.zero_le _⟩ dM_replace_3) hI (fun H locs hI => ?_)
  refine lv_if_ne (tgt := 13) hx hb dM_replace_6 rfl (fun h10 => ?_) (fun h10 => ?_)
  · have hf := in_ hf h10
    refine lv_aload_n hx hb dM_replace_13 rfl (lv_at hl 0 rfl) ?_
    obtain ⟨v11, hv11, hf⟩ := ob_ hf
    refine r_geti (i := 6) S hI fcM (Nat.le_of_ble_eq_true rfl) kw_507 dM_replace_14 hv11 ?_
    refine lv_if_eq (tgt := 24) hx hb dM_replace_17 rfl (fun h12 => ?_) (fun h12 => ?_)
    · have hf := ip_ hf h12
      refine lv_iconst hx hb dM_replace_24 kI_0 ?_
      exact bk25 q9.1 c0 x1 c0 0 _ _ _ (lv_sub hl [0, 1] rfl) hI hf
    · have hf := in_ hf h12
      refine lv_iconst hx hb dM_replace_20 kI_2 ?_
      refine lv_goto (tgt := 25) hx hb dM_replace_21 rfl ?_
      exact bk25 q9.1 c0 x1 c0 2 _ _ _ (lv_sub hl [0, 1] rfl) hI hf
  · have hf := ip_ hf h10
    refine lv_iconst hx hb dM_replace_9 kI_1 ?_
    refine lv_goto (tgt := 25) hx hb dM_replace_10 rfl ?_
    exact bk25 q9.1 c0 x1 c0 1 _ _ _ (lv_sub hl [0, 1] rfl) hI hf
/-- GuardVolumeModel.rebuild(I)I -/
abbrev rmM_rebuild : Room := { frames := 7, cells := 0, slots := 0, locals := 158 }
theorem pkM_rebuild : Pk yM_rebuild cM_rebuild 7 (some .int) 1 := ⟨kw_700, kw_7, by decide +kernel, by decide +kernel, by decide +kernel⟩
def bM_rebuild_133 (Λ : La) (K32 : Wo → Nat → Int32 → Int32 → Int32 → Option (Wo × Int32)) (w : Wo) (c0 : Nat) (x1 : Int32) (x2 : Int32) (x3 : Int32) : Option (Wo × Int32) := K32 w c0 x1 x2 (x3 + 1)
def bM_rebuild_126 (Λ : La) (K32 : Wo → Nat → Int32 → Int32 → Int32 → Option (Wo × Int32)) (w : Wo) (c0 : Nat) (x1 : Int32) (x2 : Int32) (x3 : Int32) (x6 : Int32) : Option (Wo × Int32) := if x6 = 0 then (some (w, (-1))) else (bM_rebuild_133 Λ K32 w c0 x1 x2 x3)
def bM_rebuild_32s (Λ : La) (K32 : Wo → Nat → Int32 → Int32 → Int32 → Option (Wo × Int32)) (w : Wo) (c0 : Nat) (x1 : Int32) (x2 : Int32) (x3 : Int32) : Option (Wo × Int32) := if 64 ≤ x3 then (some (w, x2)) else ((gi Λ w c0 5 0).bind fun v3 => if v3 = 0 then ((fM_codeOf Λ w c0 x3).bind fun q5 => if q5.2 = 2 then (bM_rebuild_133 Λ K32 q5.1 c0 x1 (x2 + 1) x3) else ((fM_takeWords Λ q5.1 c0 q5.2 x3).bind fun w7 => (gr Λ c0 5 1).bind fun r8 => (fM_place Λ w7 q5.2 x3).bind fun q9 => (ld Λ q9.1 r8 (q9.2 + 10)).bind fun v10 => (fM_putCopy Λ q9.1 c0 x1 x3 v10).bind fun q11 => if q11.2 = 0 then (bM_rebuild_126 Λ K32 q11.1 c0 x1 x2 x3 q11.2) else ((fM_isRightPage Λ q11.1 c0 x1 (x3 / 8)).bind fun q13 => if q13.2 = 0 then ((fM_storeList Λ q13.1 c0 (1 - x1) x3 v10).bind fun q15 => bM_rebuild_126 Λ K32 q15.1 c0 x1 x2 x3 q15.2) else (bM_rebuild_126 Λ K32 q13.1 c0 x1 x2 x3 q11.2)))) else (some (w, x2)))
def bM_rebuild_32 (Λ : La) : Nat → Wo → Nat → Int32 → Int32 → Int32 → Option (Wo × Int32)
  | 0 => fun _ _ _ _ _ => none
  | n + 1 => bM_rebuild_32s Λ (bM_rebuild_32 Λ n)
def bM_rebuild_25 (Λ : La) (w : Wo) (c0 : Nat) (x1 : Int32) (t0 : Nat) (s1 : Int32) : Option (Wo × Int32) := (pf Λ w t0 5 0 s1).bind fun w16 => bM_rebuild_32 Λ 1000 w16 c0 x1 0 0
def fM_rebuild (Λ : La) (w : Wo) (c0 : Nat) (x1 : Int32) : Option (Wo × Int32) := gd (isC Λ c0 5) ((fM_in Λ w x1 2).bind fun q17 => if q17.2 = 0 then (bM_rebuild_25 Λ q17.1 c0 x1 c0 1) else ((gi Λ q17.1 c0 5 6).bind fun v19 => if v19 = 0 then (bM_rebuild_25 Λ q17.1 c0 x1 c0 0) else (bM_rebuild_25 Λ q17.1 c0 x1 c0 2)))
set_option maxHeartbeats 4000000 in
set_option maxRecDepth 100000 in
theorem kM_rebuild (l : Launch) (G : va_G) (kA kL : ClassId) (Λ : La) (ad : Nat → Nat) (w : Wo) (c0 : Nat) (x1 : Int32) (w1 : Wo) (r : Int32) (hf : fM_rebuild Λ w c0 x1 = some (w1, r)) : Mi l yM_rebuild cM_rebuild 7 (some .int) rmM_rebuild G kA kL Λ ad [.ref (ad c0), .int x1] w w1 r := by
  refine Mi.of (by decide +kernel) (Nat.le_of_ble_eq_true rfl) ?_
  intro p e s m args below meth c Q ls S hret hl hI
  have S : CallFix p m c cM_rebuild 7 s args (.code yM_rebuild cM_rebuild 7 (some .int) :: gW) "GuardVolumeModel" := S
  have hl : lv_has ls 7 [(0, .ref (ad c0)), (1, .int x1)] := hl
  have hx := S.1
  have hb := S.2.1
  have bk133 : ∀ (K32 : Wo → Nat → Int32 → Int32 → Int32 → Option (Wo × Int32)), (∀ (w : Wo) (c0 : Nat) (x1 : Int32) (x2 : Int32) (x3 : Int32) (H : Heap) (locs : List Loc) (ls : Array Slot), lv_has ls 7 [(0, .ref (ad c0)), (1, .int x1), (2, .int x2), (3, .int x3)] → Iv (Aa Λ ad) G kA kL Λ ad w s H locs → K32 w c0 x1 x2 x3 = some (w1, r) → W p l e rmM_rebuild s m args below meth c H locs 0 0 Q (F0 m 32 ls [])) → ∀ (w : Wo) (c0 : Nat) (x1 : Int32) (x2 : Int32) (x3 : Int32) (H : Heap) (locs : List Loc) (ls : Array Slot), lv_has ls 7 [(0, .ref (ad c0)), (1, .int x1), (2, .int x2), (3, .int x3)] → Iv (Aa Λ ad) G kA kL Λ ad w s H locs → bM_rebuild_133 Λ K32 w c0 x1 x2 x3 = some (w1, r) → W p l e rmM_rebuild s m args below meth c H locs 0 0 Q (F0 m 133 ls []) := by
    intro K32 hK32 w c0 x1 x2 x3 H locs ls hl hI hf
    unfold bM_rebuild_133 at hf
    refine lv_iinc hx hb (lv' := [(3, .int (x3 + 1)), (0, .ref (ad c0)), (1, .int x1), (2, .int x2)]) (k := 3) dM_rebuild_133 hl rfl (kN_1 _) (Nat.le_of_ble_eq_true rfl) rfl (fun ls hl => ?_)
    refine lv_goto (tgt := 32) hx hb dM_rebuild_136 rfl ?_
    exact hK32 w c0 x1 x2 (x3 + 1) _ _ _ (lv_sub hl [1, 2, 3, 0] rfl) hI hf
  have bk126 : ∀ (K32 : Wo → Nat → Int32 → Int32 → Int32 → Option (Wo × Int32)), (∀ (w : Wo) (c0 : Nat) (x1 : Int32) (x2 : Int32) (x3 : Int32) (H : Heap) (locs : List Loc) (ls : Array Slot), lv_has ls 7 [(0, .ref (ad c0)), (1, .int x1), (2, .int x2), (3, .int x3)] → Iv (Aa Λ ad) G kA kL Λ ad w s H locs → K32 w c0 x1 x2 x3 = some (w1, r) → W p l e rmM_rebuild s m args below meth c H locs 0 0 Q (F0 m 32 ls [])) → ∀ (w : Wo) (c0 : Nat) (x1 : Int32) (x2 : Int32) (x3 : Int32) (x6 : Int32) (H : Heap) (locs : List Loc) (ls : Array Slot), lv_has ls 7 [(0, .ref (ad c0)), (1, .int x1), (2, .int x2), (3, .int x3), (6, .int x6)] → Iv (Aa Λ ad) G kA kL Λ ad w s H locs → bM_rebuild_126 Λ K32 w c0 x1 x2 x3 x6 = some (w1, r) → W p l e rmM_rebuild s m args below meth c H locs 0 0 Q (F0 m 126 ls []) := by
    intro K32 hK32 w c0 x1 x2 x3 x6 H locs ls hl hI hf
    unfold bM_rebuild_126 at hf
    refine lv_iload hx hb dM_rebuild_126 (lv_at hl 4 rfl) ?_
    refine lv_if_ne (tgt := 133) hx hb dM_rebuild_128 rfl (fun h1 => ?_) (fun h1 => ?_)
    · have hf := in_ hf h1
      exact bk133 K32 hK32 w c0 x1 x2 x3 _ _ _ (lv_sub hl [0, 1, 2, 3] rfl) hI hf
    · have hf := ip_ hf h1
      refine lv_iconst hx hb dM_rebuild_131 kI_m1 ?_
      exact hret _ _ _ _ _ _ hI hf dM_rebuild_132
  have bk32 : ∀ (K32 : Wo → Nat → Int32 → Int32 → Int32 → Option (Wo × Int32)), (∀ (w : Wo) (c0 : Nat) (x1 : Int32) (x2 : Int32) (x3 : Int32) (H : Heap) (locs : List Loc) (ls : Array Slot), lv_has ls 7 [(0, .ref (ad c0)), (1, .int x1), (2, .int x2), (3, .int x3)] → Iv (Aa Λ ad) G kA kL Λ ad w s H locs → K32 w c0 x1 x2 x3 = some (w1, r) → W p l e rmM_rebuild s m args below meth c H locs 0 0 Q (F0 m 32 ls [])) → ∀ (w : Wo) (c0 : Nat) (x1 : Int32) (x2 : Int32) (x3 : Int32) (H : Heap) (locs : List Loc) (ls : Array Slot), lv_has ls 7 [(0, .ref (ad c0)), (1, .int x1), (2, .int x2), (3, .int x3)] → Iv (Aa Λ ad) G kA kL Λ ad w s H locs → bM_rebuild_32s Λ K32 w c0 x1 x2 x3 = some (w1, r) → W p l e rmM_rebuild s m args below meth c H locs 0 0 Q (F0 m 32 ls []) := by
    intro K32 hK32 w c0 x1 x2 x3 H locs ls hl hI hf
    unfold bM_rebuild_32s at hf
    refine lv_iload_n hx hb dM_rebuild_32 rfl (lv_at hl 3 rfl) ?_
    refine lv_bipush hx hb dM_rebuild_33 kB_64 ?_
    refine lv_icmp_ge (tgt := 139) hx hb dM_rebuild_35 rfl (fun h2 => ?_) (fun h2 => ?_)
    · have hf := ip_ hf h2
      refine lv_iload_n hx hb dM_rebuild_139 rfl (lv_at hl 2 rfl) ?_
      exact hret _ _ _ _ _ _ hI hf dM_rebuild_140
    · have hf := in_ hf h2
      refine lv_aload_n hx hb dM_rebuild_38 rfl (lv_at hl 0 rfl) ?_
      obtain ⟨v3, hv3, hf⟩ := ob_ hf
      refine r_geti (i := 0) S hI fcM (Nat.le_of_ble_eq_true rfl) kw_501 dM_rebuild_39 hv3 ?_
      refine lv_if_ne (tgt := 139) hx hb dM_rebuild_42 rfl (fun h4 => ?_) (fun h4 => ?_)
      · have hf := in_ hf h4
        refine lv_iload_n hx hb dM_rebuild_139 rfl (lv_at hl 2 rfl) ?_
        exact hret _ _ _ _ _ _ hI hf dM_rebuild_140
      · have hf := ip_ hf h4
        refine lv_aload_n hx hb dM_rebuild_45 rfl (lv_at hl 0 rfl) ?_
        refine lv_iload_n hx hb dM_rebuild_46 rfl (lv_at hl 3 rfl) ?_
        obtain ⟨q5, hq5, hf⟩ := ob_ hf
        refine r_ci (r_V (rest := []) (As := [.int x3]) S hl hI (kM_codeOf l G kA kL Λ ad w c0 x3 q5.1 q5.2 hq5) pkM_codeOf kw_575 ks_M_codeOf (fcM).1 (gd_some hq5).1 kw_573 ⟨rfl, rfl⟩ ⟨Nat.le_of_ble_eq_true rfl, Nat.le_of_ble_eq_true rfl⟩ rfl rfl (Nat.le_of_ble_eq_true rfl) ⟨Nat.zero_le _, Nat.zero_le _⟩ dM_rebuild_47) hI (fun H locs hI => ?_)
        refine lv_istore hx hb (lv' := [(4, .int q5.2), (0, .ref (ad c0)), (1, .int x1), (2, .int x2), (3, .int x3)]) dM_rebuild_50 hl (Nat.le_of_ble_eq_true rfl) rfl (fun ls hl => ?_)
        refine lv_iload hx hb dM_rebuild_52 (lv_at hl 0 rfl) ?_
        refine lv_iconst hx hb dM_rebuild_54 kI_2 ?_
        refine lv_icmp_ne (tgt := 64) hx hb dM_rebuild_55 rfl (fun h6 => ?_) (fun h6 => ?_)
        · have hf := in_ hf h6
          refine lv_aload_n hx hb dM_rebuild_64 rfl (lv_at hl 1 rfl) ?_
          refine lv_iload hx hb dM_rebuild_65 (lv_at hl 0 rfl) ?_
          refine lv_iload_n hx hb dM_rebuild_67 rfl (lv_at hl 4 rfl) ?_
          obtain ⟨w7, hw7, hf⟩ := ob_ hf
          refine r_cv (r_V (rest := []) (As := [.int q5.2, .int x3]) S hl hI (kM_takeWords l G kA kL Λ ad q5.1 c0 q5.2 x3 w7 hw7) pkM_takeWords kw_603 ks_M_takeWords (fcM).1 (gd_some hw7).1 kw_601 ⟨rfl, rfl⟩ ⟨Nat.le_of_ble_eq_true rfl, Nat.le_of_ble_eq_true rfl⟩ rfl rfl (Nat.le_of_ble_eq_true rfl) ⟨Nat.zero_le _, Nat.zero_le _⟩ dM_rebuild_68) hI (fun H locs hI => ?_)
          refine lv_aload_n hx hb dM_rebuild_71 rfl (lv_at hl 1 rfl) ?_
          obtain ⟨r8, hr8, hf⟩ := ob_ hf
          refine r_getr (i := 1) S hI fcM (Nat.le_of_ble_eq_true rfl) kw_502 dM_rebuild_72 hr8 ?_
          refine lv_iload hx hb dM_rebuild_75 (lv_at hl 0 rfl) ?_
          refine lv_iload_n hx hb dM_rebuild_77 rfl (lv_at hl 4 rfl) ?_
          obtain ⟨q9, hq9, hf⟩ := ob_ hf
          refine r_ci (r_S (rest := [.ref (ad r8)]) (As := [.int q5.2, .int x3]) S hl hI (kM_place l G kA kL Λ ad w7 q5.2 x3 q9.1 q9.2 hq9) pkM_place kw_492 kw_491 ⟨rfl, rfl⟩ ⟨Nat.le_of_ble_eq_true rfl, Nat.le_of_ble_eq_true rfl⟩ rfl rfl (Nat.le_of_ble_eq_true rfl) ⟨Nat.zero_le _, Nat.zero_le _⟩ dM_rebuild_78) hI (fun H locs hI => ?_)
          refine lv_bipush hx hb dM_rebuild_81 kB_10 ?_
          refine lv_iadd hx hb dM_rebuild_83 ?_
          obtain ⟨v10, hv10, hf⟩ := ob_ hf
          refine r_ald S hI dM_rebuild_84 hv10 ?_
          refine lv_istore hx hb (lv' := [(5, .int v10), (4, .int q5.2), (0, .ref (ad c0)), (1, .int x1), (2, .int x2), (3, .int x3)]) dM_rebuild_85 hl (Nat.le_of_ble_eq_true rfl) rfl (fun ls hl => ?_)
          refine lv_aload_n hx hb dM_rebuild_87 rfl (lv_at hl 2 rfl) ?_
          refine lv_iload_n hx hb dM_rebuild_88 rfl (lv_at hl 3 rfl) ?_
          refine lv_iload_n hx hb dM_rebuild_89 rfl (lv_at hl 5 rfl) ?_
          refine lv_iload hx hb dM_rebuild_90 (lv_at hl 0 rfl) ?_
          obtain ⟨q11, hq11, hf⟩ := ob_ hf
          refine r_ci (r_V (rest := []) (As := [.int x1, .int x3, .int v10]) S hl hI (kM_putCopy l G kA kL Λ ad q9.1 c0 x1 x3 v10 q11.1 q11.2 hq11) pkM_putCopy kw_611 ks_M_putCopy (fcM).1 (gd_some hq11).1 kw_609 ⟨rfl, rfl⟩ ⟨Nat.le_of_ble_eq_true rfl, Nat.le_of_ble_eq_true rfl⟩ rfl rfl (Nat.le_of_ble_eq_true rfl) ⟨Nat.zero_le _, Nat.zero_le _⟩ dM_rebuild_92) hI (fun H locs hI => ?_)
          refine lv_istore hx hb (lv' := [(6, .int q11.2), (5, .int v10), (4, .int q5.2), (0, .ref (ad c0)), (1, .int x1), (2, .int x2), (3, .int x3)]) dM_rebuild_95 hl (Nat.le_of_ble_eq_true rfl) rfl (fun ls hl => ?_)
          refine lv_iload hx hb dM_rebuild_97 (lv_at hl 0 rfl) ?_
          refine lv_if_eq (tgt := 126) hx hb dM_rebuild_99 rfl (fun h12 => ?_) (fun h12 => ?_)
          · have hf := ip_ hf h12
            exact bk126 K32 hK32 q11.1 c0 x1 x2 x3 q11.2 _ _ _ (lv_sub hl [3, 4, 5, 6, 0] rfl) hI hf
          · have hf := in_ hf h12
            refine lv_aload_n hx hb dM_rebuild_102 rfl (lv_at hl 3 rfl) ?_
            refine lv_iload_n hx hb dM_rebuild_103 rfl (lv_at hl 4 rfl) ?_
            refine lv_iload_n hx hb dM_rebuild_104 rfl (lv_at hl 6 rfl) ?_
            refine lv_bipush hx hb dM_rebuild_105 kB_8 ?_
            refine lv_idiv hx hb dM_rebuild_107 (by decide +kernel) ?_
            obtain ⟨q13, hq13, hf⟩ := ob_ hf
            refine r_ci (r_V (rest := []) (As := [.int x1, .int (x3 / 8)]) S hl hI (kM_isRightPage l G kA kL Λ ad q11.1 c0 x1 (x3 / 8) q13.1 q13.2 hq13) pkM_isRightPage kw_591 ks_M_isRightPage (fcM).1 (gd_some hq13).1 kw_589 ⟨rfl, rfl⟩ ⟨Nat.le_of_ble_eq_true rfl, Nat.le_of_ble_eq_true rfl⟩ rfl rfl (Nat.le_of_ble_eq_true rfl) ⟨Nat.zero_le _, Nat.zero_le _⟩ dM_rebuild_108) hI (fun H locs hI => ?_)
            refine lv_if_ne (tgt := 126) hx hb dM_rebuild_111 rfl (fun h14 => ?_) (fun h14 => ?_)
            · have hf := in_ hf h14
              exact bk126 K32 hK32 q13.1 c0 x1 x2 x3 q11.2 _ _ _ (lv_sub hl [3, 4, 5, 6, 0] rfl) hI hf
            · have hf := ip_ hf h14
              refine lv_aload_n hx hb dM_rebuild_114 rfl (lv_at hl 3 rfl) ?_
              refine lv_iconst hx hb dM_rebuild_115 kI_1 ?_
              refine lv_iload_n hx hb dM_rebuild_116 rfl (lv_at hl 4 rfl) ?_
              refine lv_isub hx hb dM_rebuild_117 ?_
              refine lv_iload_n hx hb dM_rebuild_118 rfl (lv_at hl 6 rfl) ?_
              refine lv_iload hx hb dM_rebuild_119 (lv_at hl 1 rfl) ?_
              obtain ⟨q15, hq15, hf⟩ := ob_ hf
              refine r_ci (r_V (rest := []) (As := [.int (1 - x1), .int x3, .int v10]) S hl hI (kM_storeList l G kA kL Λ ad q13.1 c0 (1 - x1) x3 v10 q15.1 q15.2 hq15) pkM_storeList kw_635 ks_M_storeList (fcM).1 (gd_some hq15).1 kw_633 ⟨rfl, rfl⟩ ⟨Nat.le_of_ble_eq_true rfl, Nat.le_of_ble_eq_true rfl⟩ rfl rfl (Nat.le_of_ble_eq_true rfl) ⟨Nat.zero_le _, Nat.zero_le _⟩ dM_rebuild_121) hI (fun H locs hI => ?_)
              refine lv_istore hx hb (lv' := [(6, .int q15.2), (5, .int v10), (4, .int q5.2), (0, .ref (ad c0)), (1, .int x1), (2, .int x2), (3, .int x3)]) dM_rebuild_124 hl (Nat.le_of_ble_eq_true rfl) rfl (fun ls hl => ?_)
              exact bk126 K32 hK32 q15.1 c0 x1 x2 x3 q15.2 _ _ _ (lv_sub hl [3, 4, 5, 6, 0] rfl) hI hf
        · have hf := ip_ hf h6
          refine lv_iinc hx hb (lv' := [(2, .int (x2 + 1)), (4, .int q5.2), (0, .ref (ad c0)), (1, .int x1), (3, .int x3)]) (k := 3) dM_rebuild_58 hl rfl (kN_1 _) (Nat.le_of_ble_eq_true rfl) rfl (fun ls hl => ?_)
          refine lv_goto (tgt := 133) hx hb dM_rebuild_61 rfl ?_
          exact bk133 K32 hK32 q5.1 c0 x1 (x2 + 1) x3 _ _ _ (lv_sub hl [2, 3, 0, 4] rfl) hI hf
  have lp32 : ∀ (n : Nat), ∀ (w : Wo) (c0 : Nat) (x1 : Int32) (x2 : Int32) (x3 : Int32) (H : Heap) (locs : List Loc) (ls : Array Slot), lv_has ls 7 [(0, .ref (ad c0)), (1, .int x1), (2, .int x2), (3, .int x3)] → Iv (Aa Λ ad) G kA kL Λ ad w s H locs → bM_rebuild_32 Λ n w c0 x1 x2 x3 = some (w1, r) → W p l e rmM_rebuild s m args below meth c H locs 0 0 Q (F0 m 32 ls []) := by
    intro n
    induction n with
    | zero =>
      intro w c0 x1 x2 x3 H locs ls hl hI hf
      have hf : (none : Option (Wo × Int32)) = some (w1, r) := hf
      cases hf
    | succ n ih =>
      intro w c0 x1 x2 x3 H locs ls hl hI hf
      exact bk32 (bM_rebuild_32 Λ n) ih w c0 x1 x2 x3 H locs ls hl hI hf
  have bk25 : ∀ (w : Wo) (c0 : Nat) (x1 : Int32) (t0 : Nat) (s1 : Int32) (H : Heap) (locs : List Loc) (ls : Array Slot), lv_has ls 7 [(0, .ref (ad c0)), (1, .int x1)] → Iv (Aa Λ ad) G kA kL Λ ad w s H locs → bM_rebuild_25 Λ w c0 x1 t0 s1 = some (w1, r) → W p l e rmM_rebuild s m args below meth c H locs 0 0 Q (F0 m 25 ls [.int s1, .ref (ad t0)]) := by
    intro w c0 x1 t0 s1 H locs ls hl hI hf
    unfold bM_rebuild_25 at hf
    obtain ⟨w16, hw16, hf⟩ := ob_ hf
    refine r_put (i := 0) S hI fcM (Nat.le_of_ble_eq_true rfl) kw_501 rfl rfl rfl dM_rebuild_25 hw16 (fun H locs hI => ?_)
    refine lv_iconst hx hb dM_rebuild_28 kI_0 ?_
    refine lv_istore_n hx hb (lv' := [(2, .int 0), (0, .ref (ad c0)), (1, .int x1)]) dM_rebuild_29 rfl hl (Nat.le_of_ble_eq_true rfl) rfl (fun ls hl => ?_)
    refine lv_iconst hx hb dM_rebuild_30 kI_0 ?_
    refine lv_istore_n hx hb (lv' := [(3, .int 0), (2, .int 0), (0, .ref (ad c0)), (1, .int x1)]) dM_rebuild_31 rfl hl (Nat.le_of_ble_eq_true rfl) rfl (fun ls hl => ?_)
    exact lp32 1000 w16 c0 x1 0 0 _ _ _ (lv_sub hl [2, 3, 1, 0] rfl) hI hf
  unfold fM_rebuild at hf
  have hf := (gd_some hf).2
  refine lv_aload_n hx hb dM_rebuild_0 rfl (lv_at hl 0 rfl) ?_
  refine lv_iload_n hx hb dM_rebuild_1 rfl (lv_at hl 1 rfl) ?_
  refine lv_iconst hx hb dM_rebuild_2 kI_2 ?_
  obtain ⟨q17, hq17, hf⟩ := ob_ hf
  refine r_ci (r_S (rest := [.ref (ad c0)]) (As := [.int x1, .int 2]) S hl hI (kM_in l G kA kL Λ ad w x1 2 q17.1 q17.2 hq17) pkM_in kw_571 kw_570 ⟨rfl, rfl⟩ ⟨Nat.le_of_ble_eq_true rfl, Nat.le_of_ble_eq_true rfl⟩ rfl rfl (Nat.le_of_ble_eq_true rfl) ⟨Nat.zero_le _, Nat.zero_le _⟩ dM_rebuild_3) hI (fun H locs hI => ?_)
  refine lv_if_ne (tgt := 13) hx hb dM_rebuild_6 rfl (fun h18 => ?_) (fun h18 => ?_)
  · have hf := in_ hf h18
    refine lv_aload_n hx hb dM_rebuild_13 rfl (lv_at hl 0 rfl) ?_
    obtain ⟨v19, hv19, hf⟩ := ob_ hf
    refine r_geti (i := 6) S hI fcM (Nat.le_of_ble_eq_true rfl) kw_507 dM_rebuild_14 hv19 ?_
    refine lv_if_eq (tgt := 24) hx hb dM_rebuild_17 rfl (fun h20 => ?_) (fun h20 => ?_)
    · have hf := ip_ hf h20
      refine lv_iconst hx hb dM_rebuild_24 kI_0 ?_
      exact bk25 q17.1 c0 x1 c0 0 _ _ _ (lv_sub hl [0, 1] rfl) hI hf
    · have hf := in_ hf h20
      refine lv_iconst hx hb dM_rebuild_20 kI_2 ?_
      refine lv_goto (tgt := 25) hx hb dM_rebuild_21 rfl ?_
      exact bk25 q17.1 c0 x1 c0 2 _ _ _ (lv_sub hl [0, 1] rfl) hI hf
  · have hf := ip_ hf h18
    refine lv_iconst hx hb dM_rebuild_9 kI_1 ?_
    refine lv_goto (tgt := 25) hx hb dM_rebuild_10 rfl ?_
    exact bk25 q17.1 c0 x1 c0 1 _ _ _ (lv_sub hl [0, 1] rfl) hI hf
/-- GuardVolumeModel.count(I)I -/
abbrev rmM_count : Room := { frames := 1, cells := 0, slots := 0, locals := 21 }
theorem pkM_count : Pk yM_count cM_count 4 (some .int) 1 := ⟨kw_704, kw_7, by decide +kernel, by decide +kernel, by decide +kernel⟩
def bM_count_85 (Λ : La) (K59 : Wo → Nat → Int32 → Int32 → Int32 → Option (Wo × Int32)) (w : Wo) (c0 : Nat) (x1 : Int32) (x3 : Int32) (s0 : Int32) : Option (Wo × Int32) := K59 w c0 x1 s0 (x3 + 1)
def bM_count_59s (Λ : La) (K59 : Wo → Nat → Int32 → Int32 → Int32 → Option (Wo × Int32)) (w : Wo) (c0 : Nat) (x1 : Int32) (x2 : Int32) (x3 : Int32) : Option (Wo × Int32) := if 16 ≤ x3 then (if x1 = 4 then ((gi Λ w c0 5 6).bind fun v7 => if v7 = 0 then (some (w, 1)) else (some (w, 0))) else (if x1 = 5 then ((gi Λ w c0 5 3).bind fun v6 => some (w, v6)) else (if x1 = 6 then ((gi Λ w c0 5 14).bind fun v5 => some (w, v5)) else (some (w, x2))))) else ((gr Λ c0 5 2).bind fun r9 => (ld Λ w r9 x3).bind fun v10 => if v10 ≤ x2 then (bM_count_85 Λ K59 w c0 x1 x3 x2) else ((gr Λ c0 5 2).bind fun r12 => (ld Λ w r12 x3).bind fun v13 => bM_count_85 Λ K59 w c0 x1 x3 v13))
def bM_count_59 (Λ : La) : Nat → Wo → Nat → Int32 → Int32 → Int32 → Option (Wo × Int32)
  | 0 => fun _ _ _ _ _ => none
  | n + 1 => bM_count_59s Λ (bM_count_59 Λ n)
def bM_count_15 (Λ : La) (w : Wo) (c0 : Nat) (x1 : Int32) (t0 : Nat) (s1 : Int32) : Option (Wo × Int32) := (pf Λ w t0 5 0 s1).bind fun w14 => (gi Λ w14 c0 5 0).bind fun v15 => if v15 ≤ 0 then (if 4 ≤ x1 then (bM_count_59 Λ 1000 w14 c0 x1 0 0) else (if 2 ≤ x1 then ((gr Λ c0 5 9).bind fun r19 => (ld Λ w14 r19 (x1 - 2)).bind fun v20 => some (w14, v20)) else ((gr Λ c0 5 8).bind fun r21 => (ld Λ w14 r21 x1).bind fun v22 => some (w14, v22)))) else (some (w14, 0))
def fM_count (Λ : La) (w : Wo) (c0 : Nat) (x1 : Int32) : Option (Wo × Int32) := gd (isC Λ c0 5) ((fM_in Λ w x1 8).bind fun q23 => if q23.2 = 0 then (bM_count_15 Λ q23.1 c0 x1 c0 1) else (bM_count_15 Λ q23.1 c0 x1 c0 0))
set_option maxHeartbeats 4000000 in
set_option maxRecDepth 100000 in
theorem kM_count (l : Launch) (G : va_G) (kA kL : ClassId) (Λ : La) (ad : Nat → Nat) (w : Wo) (c0 : Nat) (x1 : Int32) (w1 : Wo) (r : Int32) (hf : fM_count Λ w c0 x1 = some (w1, r)) : Mi l yM_count cM_count 4 (some .int) rmM_count G kA kL Λ ad [.ref (ad c0), .int x1] w w1 r := by
  refine Mi.of (by decide +kernel) (Nat.le_of_ble_eq_true rfl) ?_
  intro p e s m args below meth c Q ls S hret hl hI
  have S : CallFix p m c cM_count 4 s args (.code yM_count cM_count 4 (some .int) :: gW) "GuardVolumeModel" := S
  have hl : lv_has ls 4 [(0, .ref (ad c0)), (1, .int x1)] := hl
  have hx := S.1
  have hb := S.2.1
  have bk85 : ∀ (K59 : Wo → Nat → Int32 → Int32 → Int32 → Option (Wo × Int32)), (∀ (w : Wo) (c0 : Nat) (x1 : Int32) (x2 : Int32) (x3 : Int32) (H : Heap) (locs : List Loc) (ls : Array Slot), lv_has ls 4 [(0, .ref (ad c0)), (1, .int x1), (2, .int x2), (3, .int x3)] → Iv (Aa Λ ad) G kA kL Λ ad w s H locs → K59 w c0 x1 x2 x3 = some (w1, r) → W p l e rmM_count s m args below meth c H locs 0 0 Q (F0 m 59 ls [])) → ∀ (w : Wo) (c0 : Nat) (x1 : Int32) (x3 : Int32) (s0 : Int32) (H : Heap) (locs : List Loc) (ls : Array Slot), lv_has ls 4 [(0, .ref (ad c0)), (1, .int x1), (3, .int x3)] → Iv (Aa Λ ad) G kA kL Λ ad w s H locs → bM_count_85 Λ K59 w c0 x1 x3 s0 = some (w1, r) → W p l e rmM_count s m args below meth c H locs 0 0 Q (F0 m 85 ls [.int s0]) := by
    intro K59 hK59 w c0 x1 x3 s0 H locs ls hl hI hf
    unfold bM_count_85 at hf
    refine lv_istore_n hx hb (lv' := [(2, .int s0), (0, .ref (ad c0)), (1, .int x1), (3, .int x3)]) dM_count_85 rfl hl (Nat.le_of_ble_eq_true rfl) rfl (fun ls hl => ?_)
    refine lv_iinc hx hb (lv' := [(3, .int (x3 + 1)), (2, .int s0), (0, .ref (ad c0)), (1, .int x1)]) (k := 3) dM_count_86 hl rfl (kN_1 _) (Nat.le_of_ble_eq_true rfl) rfl (fun ls hl => ?_)
    refine lv_goto (tgt := 59) hx hb dM_count_89 rfl ?_
    exact hK59 w c0 x1 s0 (x3 + 1) _ _ _ (lv_sub hl [2, 3, 1, 0] rfl) hI hf
  have bk59 : ∀ (K59 : Wo → Nat → Int32 → Int32 → Int32 → Option (Wo × Int32)), (∀ (w : Wo) (c0 : Nat) (x1 : Int32) (x2 : Int32) (x3 : Int32) (H : Heap) (locs : List Loc) (ls : Array Slot), lv_has ls 4 [(0, .ref (ad c0)), (1, .int x1), (2, .int x2), (3, .int x3)] → Iv (Aa Λ ad) G kA kL Λ ad w s H locs → K59 w c0 x1 x2 x3 = some (w1, r) → W p l e rmM_count s m args below meth c H locs 0 0 Q (F0 m 59 ls [])) → ∀ (w : Wo) (c0 : Nat) (x1 : Int32) (x2 : Int32) (x3 : Int32) (H : Heap) (locs : List Loc) (ls : Array Slot), lv_has ls 4 [(0, .ref (ad c0)), (1, .int x1), (2, .int x2), (3, .int x3)] → Iv (Aa Λ ad) G kA kL Λ ad w s H locs → bM_count_59s Λ K59 w c0 x1 x2 x3 = some (w1, r) → W p l e rmM_count s m args below meth c H locs 0 0 Q (F0 m 59 ls []) := by
    intro K59 hK59 w c0 x1 x2 x3 H locs ls hl hI hf
    unfold bM_count_59s at hf
    refine lv_iload_n hx hb dM_count_59 rfl (lv_at hl 3 rfl) ?_
    refine lv_bipush hx hb dM_count_60 kB_16 ?_
    refine lv_icmp_ge (tgt := 92) hx hb dM_count_62 rfl (fun h1 => ?_) (fun h1 => ?_)
    · have hf := ip_ hf h1
      refine lv_iload_n hx hb dM_count_92 rfl (lv_at hl 1 rfl) ?_
      refine lv_iconst hx hb dM_count_93 kI_4 ?_
      refine lv_icmp_ne (tgt := 112) hx hb dM_count_94 rfl (fun h2 => ?_) (fun h2 => ?_)
      · have hf := in_ hf h2
        refine lv_iload_n hx hb dM_count_112 rfl (lv_at hl 1 rfl) ?_
        refine lv_iconst hx hb dM_count_113 kI_5 ?_
        refine lv_icmp_ne (tgt := 124) hx hb dM_count_114 rfl (fun h3 => ?_) (fun h3 => ?_)
        · have hf := in_ hf h3
          refine lv_iload_n hx hb dM_count_124 rfl (lv_at hl 1 rfl) ?_
          refine lv_bipush hx hb dM_count_125 kB_6 ?_
          refine lv_icmp_ne (tgt := 137) hx hb dM_count_127 rfl (fun h4 => ?_) (fun h4 => ?_)
          · have hf := in_ hf h4
            refine lv_iload_n hx hb dM_count_137 rfl (lv_at hl 2 rfl) ?_
            exact hret _ _ _ _ _ _ hI hf dM_count_138
          · have hf := ip_ hf h4
            refine lv_aload_n hx hb dM_count_130 rfl (lv_at hl 0 rfl) ?_
            obtain ⟨v5, hv5, hf⟩ := ob_ hf
            refine r_geti (i := 14) S hI fcM (Nat.le_of_ble_eq_true rfl) kw_515 dM_count_131 hv5 ?_
            refine lv_goto (tgt := 138) hx hb dM_count_134 rfl ?_
            exact hret _ _ _ _ _ _ hI hf dM_count_138
        · have hf := ip_ hf h3
          refine lv_aload_n hx hb dM_count_117 rfl (lv_at hl 0 rfl) ?_
          obtain ⟨v6, hv6, hf⟩ := ob_ hf
          refine r_geti (i := 3) S hI fcM (Nat.le_of_ble_eq_true rfl) kw_504 dM_count_118 hv6 ?_
          refine lv_goto (tgt := 138) hx hb dM_count_121 rfl ?_
          exact hret _ _ _ _ _ _ hI hf dM_count_138
      · have hf := ip_ hf h2
        refine lv_aload_n hx hb dM_count_97 rfl (lv_at hl 0 rfl) ?_
        obtain ⟨v7, hv7, hf⟩ := ob_ hf
        refine r_geti (i := 6) S hI fcM (Nat.le_of_ble_eq_true rfl) kw_507 dM_count_98 hv7 ?_
        refine lv_if_eq (tgt := 108) hx hb dM_count_101 rfl (fun h8 => ?_) (fun h8 => ?_)
        · have hf := ip_ hf h8
          refine lv_iconst hx hb dM_count_108 kI_1 ?_
          refine lv_goto (tgt := 138) hx hb dM_count_109 rfl ?_
          exact hret _ _ _ _ _ _ hI hf dM_count_138
        · have hf := in_ hf h8
          refine lv_iconst hx hb dM_count_104 kI_0 ?_
          refine lv_goto (tgt := 138) hx hb dM_count_105 rfl ?_
          exact hret _ _ _ _ _ _ hI hf dM_count_138
    · have hf := in_ hf h1
      refine lv_aload_n hx hb dM_count_65 rfl (lv_at hl 0 rfl) ?_
      obtain ⟨r9, hr9, hf⟩ := ob_ hf
      refine r_getr (i := 2) S hI fcM (Nat.le_of_ble_eq_true rfl) kw_503 dM_count_66 hr9 ?_
      refine lv_iload_n hx hb dM_count_69 rfl (lv_at hl 3 rfl) ?_
      obtain ⟨v10, hv10, hf⟩ := ob_ hf
      refine r_ald S hI dM_count_70 hv10 ?_
      refine lv_iload_n hx hb dM_count_71 rfl (lv_at hl 2 rfl) ?_
      refine lv_icmp_le (tgt := 84) hx hb dM_count_72 rfl (fun h11 => ?_) (fun h11 => ?_)
      · have hf := ip_ hf h11
        refine lv_iload_n hx hb dM_count_84 rfl (lv_at hl 2 rfl) ?_
        exact bk85 K59 hK59 w c0 x1 x3 x2 _ _ _ (lv_sub hl [0, 1, 3] rfl) hI hf
      · have hf := in_ hf h11
        refine lv_aload_n hx hb dM_count_75 rfl (lv_at hl 0 rfl) ?_
        obtain ⟨r12, hr12, hf⟩ := ob_ hf
        refine r_getr (i := 2) S hI fcM (Nat.le_of_ble_eq_true rfl) kw_503 dM_count_76 hr12 ?_
        refine lv_iload_n hx hb dM_count_79 rfl (lv_at hl 3 rfl) ?_
        obtain ⟨v13, hv13, hf⟩ := ob_ hf
        refine r_ald S hI dM_count_80 hv13 ?_
        refine lv_goto (tgt := 85) hx hb dM_count_81 rfl ?_
        exact bk85 K59 hK59 w c0 x1 x3 v13 _ _ _ (lv_sub hl [0, 1, 3] rfl) hI hf
  have lp59 : ∀ (n : Nat), ∀ (w : Wo) (c0 : Nat) (x1 : Int32) (x2 : Int32) (x3 : Int32) (H : Heap) (locs : List Loc) (ls : Array Slot), lv_has ls 4 [(0, .ref (ad c0)), (1, .int x1), (2, .int x2), (3, .int x3)] → Iv (Aa Λ ad) G kA kL Λ ad w s H locs → bM_count_59 Λ n w c0 x1 x2 x3 = some (w1, r) → W p l e rmM_count s m args below meth c H locs 0 0 Q (F0 m 59 ls []) := by
    intro n
    induction n with
    | zero =>
      intro w c0 x1 x2 x3 H locs ls hl hI hf
      have hf : (none : Option (Wo × Int32)) = some (w1, r) := hf
      cases hf
    | succ n ih =>
      intro w c0 x1 x2 x3 H locs ls hl hI hf
      exact bk59 (bM_count_59 Λ n) ih w c0 x1 x2 x3 H locs ls hl hI hf
  have bk15 : ∀ (w : Wo) (c0 : Nat) (x1 : Int32) (t0 : Nat) (s1 : Int32) (H : Heap) (locs : List Loc) (ls : Array Slot), lv_has ls 4 [(0, .ref (ad c0)), (1, .int x1)] → Iv (Aa Λ ad) G kA kL Λ ad w s H locs → bM_count_15 Λ w c0 x1 t0 s1 = some (w1, r) → W p l e rmM_count s m args below meth c H locs 0 0 Q (F0 m 15 ls [.int s1, .ref (ad t0)]) := by
    intro w c0 x1 t0 s1 H locs ls hl hI hf
    unfold bM_count_15 at hf
    obtain ⟨w14, hw14, hf⟩ := ob_ hf
    refine r_put (i := 0) S hI fcM (Nat.le_of_ble_eq_true rfl) kw_501 rfl rfl rfl dM_count_15 hw14 (fun H locs hI => ?_)
    refine lv_aload_n hx hb dM_count_18 rfl (lv_at hl 0 rfl) ?_
    obtain ⟨v15, hv15, hf⟩ := ob_ hf
    refine r_geti (i := 0) S hI fcM (Nat.le_of_ble_eq_true rfl) kw_501 dM_count_19 hv15 ?_
    refine lv_if_le (tgt := 27) hx hb dM_count_22 rfl (fun h16 => ?_) (fun h16 => ?_)
    · have hf := ip_ hf h16
      refine lv_iload_n hx hb dM_count_27 rfl (lv_at hl 1 rfl) ?_
      refine lv_iconst hx hb dM_count_28 kI_4 ?_
      refine lv_icmp_ge (tgt := 55) hx hb dM_count_29 rfl (fun h17 => ?_) (fun h17 => ?_)
      · have hf := ip_ hf h17
        refine lv_iconst hx hb dM_count_55 kI_0 ?_
        refine lv_istore_n hx hb (lv' := [(2, .int 0), (0, .ref (ad c0)), (1, .int x1)]) dM_count_56 rfl hl (Nat.le_of_ble_eq_true rfl) rfl (fun ls hl => ?_)
        refine lv_iconst hx hb dM_count_57 kI_0 ?_
        refine lv_istore_n hx hb (lv' := [(3, .int 0), (2, .int 0), (0, .ref (ad c0)), (1, .int x1)]) dM_count_58 rfl hl (Nat.le_of_ble_eq_true rfl) rfl (fun ls hl => ?_)
        exact lp59 1000 w14 c0 x1 0 0 _ _ _ (lv_sub hl [2, 3, 1, 0] rfl) hI hf
      · have hf := in_ hf h17
        refine lv_iload_n hx hb dM_count_32 rfl (lv_at hl 1 rfl) ?_
        refine lv_iconst hx hb dM_count_33 kI_2 ?_
        refine lv_icmp_ge (tgt := 46) hx hb dM_count_34 rfl (fun h18 => ?_) (fun h18 => ?_)
        · have hf := ip_ hf h18
          refine lv_aload_n hx hb dM_count_46 rfl (lv_at hl 0 rfl) ?_
          obtain ⟨r19, hr19, hf⟩ := ob_ hf
          refine r_getr (i := 9) S hI fcM (Nat.le_of_ble_eq_true rfl) kw_510 dM_count_47 hr19 ?_
          refine lv_iload_n hx hb dM_count_50 rfl (lv_at hl 1 rfl) ?_
          refine lv_iconst hx hb dM_count_51 kI_2 ?_
          refine lv_isub hx hb dM_count_52 ?_
          obtain ⟨v20, hv20, hf⟩ := ob_ hf
          refine r_ald S hI dM_count_53 hv20 ?_
          exact hret _ _ _ _ _ _ hI hf dM_count_54
        · have hf := in_ hf h18
          refine lv_aload_n hx hb dM_count_37 rfl (lv_at hl 0 rfl) ?_
          obtain ⟨r21, hr21, hf⟩ := ob_ hf
          refine r_getr (i := 8) S hI fcM (Nat.le_of_ble_eq_true rfl) kw_509 dM_count_38 hr21 ?_
          refine lv_iload_n hx hb dM_count_41 rfl (lv_at hl 1 rfl) ?_
          obtain ⟨v22, hv22, hf⟩ := ob_ hf
          refine r_ald S hI dM_count_42 hv22 ?_
          refine lv_goto (tgt := 54) hx hb dM_count_43 rfl ?_
          exact hret _ _ _ _ _ _ hI hf dM_count_54
    · have hf := in_ hf h16
      refine lv_iconst hx hb dM_count_25 kI_0 ?_
      exact hret _ _ _ _ _ _ hI hf dM_count_26
  unfold fM_count at hf
  have hf := (gd_some hf).2
  refine lv_aload_n hx hb dM_count_0 rfl (lv_at hl 0 rfl) ?_
  refine lv_iload_n hx hb dM_count_1 rfl (lv_at hl 1 rfl) ?_
  refine lv_bipush hx hb dM_count_2 kB_8 ?_
  obtain ⟨q23, hq23, hf⟩ := ob_ hf
  refine r_ci (r_S (rest := [.ref (ad c0)]) (As := [.int x1, .int 8]) S hl hI (kM_in l G kA kL Λ ad w x1 8 q23.1 q23.2 hq23) pkM_in kw_571 kw_570 ⟨rfl, rfl⟩ ⟨Nat.le_of_ble_eq_true rfl, Nat.le_of_ble_eq_true rfl⟩ rfl rfl (Nat.le_of_ble_eq_true rfl) ⟨Nat.zero_le _, Nat.zero_le _⟩ dM_count_4) hI (fun H locs hI => ?_)
  refine lv_if_eq (tgt := 14) hx hb dM_count_7 rfl (fun h24 => ?_) (fun h24 => ?_)
  · have hf := ip_ hf h24
    refine lv_iconst hx hb dM_count_14 kI_1 ?_
    exact bk15 q23.1 c0 x1 c0 1 _ _ _ (lv_sub hl [0, 1] rfl) hI hf
  · have hf := in_ hf h24
    refine lv_iconst hx hb dM_count_10 kI_0 ?_
    refine lv_goto (tgt := 15) hx hb dM_count_11 rfl ?_
    exact bk15 q23.1 c0 x1 c0 0 _ _ _ (lv_sub hl [0, 1] rfl) hI hf
end

section
-- ===== PART A: goes FIRST, ahead of the names: the tables' words, and 'selects' of the private methods out of them =====
/-- a private method of a class that the tables say can be made, by its rows of tables_1 -/
def lw_okq (q : MethodName × Nat) : Prop := (q.1.cls ≠ "java/lang/invoke/MethodHandle" ∧ q.1.cls ≠ "java/lang/invoke/VarHandle") ∧ Cond.instantiable q.1.cls q.2 ∈ tables_1 ∧ Cond.privateMethod q.1 ∈ tables_1 ∧ Cond.instanceMethod q.1 ∈ tables_1
theorem lw_p0 : lw_okq (⟨"LostBeforeSung", "refuse", "(I)I"⟩, 9) := ⟨⟨by decide +kernel, by decide +kernel⟩, List.mem_of_getElem? (i := 16) (by decide +kernel), List.mem_of_getElem? (i := 227) (by decide +kernel), List.mem_of_getElem? (i := 228) (by decide +kernel)⟩
theorem lw_p1 : lw_okq (⟨"LostBeforeSung$Shelf", "becomeRow", "(II)V"⟩, 3) := ⟨⟨by decide +kernel, by decide +kernel⟩, List.mem_of_getElem? (i := 170) (by decide +kernel), List.mem_of_getElem? (i := 231) (by decide +kernel), List.mem_of_getElem? (i := 232) (by decide +kernel)⟩
theorem lw_p2 : lw_okq (⟨"LostBeforeSung$Shelf", "refusalAsRow", "()I"⟩, 3) := ⟨⟨by decide +kernel, by decide +kernel⟩, List.mem_of_getElem? (i := 170) (by decide +kernel), List.mem_of_getElem? (i := 239) (by decide +kernel), List.mem_of_getElem? (i := 240) (by decide +kernel)⟩
theorem lw_p3 : lw_okq (⟨"LostBeforeSung$Shelf", "hasPerson", "()Z"⟩, 3) := ⟨⟨by decide +kernel, by decide +kernel⟩, List.mem_of_getElem? (i := 170) (by decide +kernel), List.mem_of_getElem? (i := 243) (by decide +kernel), List.mem_of_getElem? (i := 244) (by decide +kernel)⟩
theorem lw_p4 : lw_okq (⟨"LostBeforeSung$Shelf", "put", "(IJ)V"⟩, 3) := ⟨⟨by decide +kernel, by decide +kernel⟩, List.mem_of_getElem? (i := 170) (by decide +kernel), List.mem_of_getElem? (i := 247) (by decide +kernel), List.mem_of_getElem? (i := 248) (by decide +kernel)⟩
theorem lw_p5 : lw_okq (⟨"LostBeforeSung$Shelf", "lacks", "(II)Z"⟩, 3) := ⟨⟨by decide +kernel, by decide +kernel⟩, List.mem_of_getElem? (i := 170) (by decide +kernel), List.mem_of_getElem? (i := 256) (by decide +kernel), List.mem_of_getElem? (i := 257) (by decide +kernel)⟩
theorem lw_p6 : lw_okq (⟨"LostBeforeSung", "noPerson", "(I)Z"⟩, 9) := ⟨⟨by decide +kernel, by decide +kernel⟩, List.mem_of_getElem? (i := 16) (by decide +kernel), List.mem_of_getElem? (i := 275) (by decide +kernel), List.mem_of_getElem? (i := 276) (by decide +kernel)⟩
theorem lw_p7 : lw_okq (⟨"LostBeforeSung$Isle", "isOfKind", "(II)Z"⟩, 16) := ⟨⟨by decide +kernel, by decide +kernel⟩, List.mem_of_getElem? (i := 24) (by decide +kernel), List.mem_of_getElem? (i := 283) (by decide +kernel), List.mem_of_getElem? (i := 284) (by decide +kernel)⟩
theorem lw_p8 : lw_okq (⟨"LostBeforeSung$Isle", "holdOn", "(II)I"⟩, 16) := ⟨⟨by decide +kernel, by decide +kernel⟩, List.mem_of_getElem? (i := 24) (by decide +kernel), List.mem_of_getElem? (i := 287) (by decide +kernel), List.mem_of_getElem? (i := 288) (by decide +kernel)⟩
theorem lw_p9 : lw_okq (⟨"LostBeforeSung$Isle", "addPerson", "(IIII)I"⟩, 16) := ⟨⟨by decide +kernel, by decide +kernel⟩, List.mem_of_getElem? (i := 24) (by decide +kernel), List.mem_of_getElem? (i := 295) (by decide +kernel), List.mem_of_getElem? (i := 296) (by decide +kernel)⟩
theorem lw_p10 : lw_okq (⟨"LostBeforeSung$Isle", "setHums", "(IZ)V"⟩, 16) := ⟨⟨by decide +kernel, by decide +kernel⟩, List.mem_of_getElem? (i := 24) (by decide +kernel), List.mem_of_getElem? (i := 299) (by decide +kernel), List.mem_of_getElem? (i := 300) (by decide +kernel)⟩
theorem lw_p11 : lw_okq (⟨"LostBeforeSung$Isle", "setHeld", "(III)V"⟩, 16) := ⟨⟨by decide +kernel, by decide +kernel⟩, List.mem_of_getElem? (i := 24) (by decide +kernel), List.mem_of_getElem? (i := 306) (by decide +kernel), List.mem_of_getElem? (i := 307) (by decide +kernel)⟩
theorem lw_p12 : lw_okq (⟨"LostBeforeSung$Isle", "addSong", "(II)I"⟩, 16) := ⟨⟨by decide +kernel, by decide +kernel⟩, List.mem_of_getElem? (i := 24) (by decide +kernel), List.mem_of_getElem? (i := 314) (by decide +kernel), List.mem_of_getElem? (i := 315) (by decide +kernel)⟩
theorem lw_p13 : lw_okq (⟨"LostBeforeSung", "noSong", "(I)Z"⟩, 9) := ⟨⟨by decide +kernel, by decide +kernel⟩, List.mem_of_getElem? (i := 16) (by decide +kernel), List.mem_of_getElem? (i := 327) (by decide +kernel), List.mem_of_getElem? (i := 328) (by decide +kernel)⟩
theorem lw_p14 : lw_okq (⟨"LostBeforeSung$Isle", "heldFor", "(II)I"⟩, 16) := ⟨⟨by decide +kernel, by decide +kernel⟩, List.mem_of_getElem? (i := 24) (by decide +kernel), List.mem_of_getElem? (i := 342) (by decide +kernel), List.mem_of_getElem? (i := 343) (by decide +kernel)⟩
theorem lw_p15 : lw_okq (⟨"LostBeforeSung$Isle", "setBeside", "(IIZ)V"⟩, 16) := ⟨⟨by decide +kernel, by decide +kernel⟩, List.mem_of_getElem? (i := 24) (by decide +kernel), List.mem_of_getElem? (i := 351) (by decide +kernel), List.mem_of_getElem? (i := 352) (by decide +kernel)⟩
def lw_privs_1 : List (MethodName × Nat) := [(⟨"LostBeforeSung", "refuse", "(I)I"⟩, 9), (⟨"LostBeforeSung$Shelf", "becomeRow", "(II)V"⟩, 3), (⟨"LostBeforeSung$Shelf", "refusalAsRow", "()I"⟩, 3), (⟨"LostBeforeSung$Shelf", "hasPerson", "()Z"⟩, 3), (⟨"LostBeforeSung$Shelf", "put", "(IJ)V"⟩, 3), (⟨"LostBeforeSung$Shelf", "lacks", "(II)Z"⟩, 3), (⟨"LostBeforeSung", "noPerson", "(I)Z"⟩, 9), (⟨"LostBeforeSung$Isle", "isOfKind", "(II)Z"⟩, 16), (⟨"LostBeforeSung$Isle", "holdOn", "(II)I"⟩, 16), (⟨"LostBeforeSung$Isle", "addPerson", "(IIII)I"⟩, 16), (⟨"LostBeforeSung$Isle", "setHums", "(IZ)V"⟩, 16), (⟨"LostBeforeSung$Isle", "setHeld", "(III)V"⟩, 16), (⟨"LostBeforeSung$Isle", "addSong", "(II)I"⟩, 16), (⟨"LostBeforeSung", "noSong", "(I)Z"⟩, 9), (⟨"LostBeforeSung$Isle", "heldFor", "(II)I"⟩, 16), (⟨"LostBeforeSung$Isle", "setBeside", "(IIZ)V"⟩, 16)]
theorem lw_r1 : ∀ q ∈ lw_privs_1, lw_okq q := List.forall_mem_cons.mpr ⟨lw_p0, List.forall_mem_cons.mpr ⟨lw_p1, List.forall_mem_cons.mpr ⟨lw_p2, List.forall_mem_cons.mpr ⟨lw_p3, List.forall_mem_cons.mpr ⟨lw_p4, List.forall_mem_cons.mpr ⟨lw_p5, List.forall_mem_cons.mpr ⟨lw_p6, List.forall_mem_cons.mpr ⟨lw_p7, List.forall_mem_cons.mpr ⟨lw_p8, List.forall_mem_cons.mpr ⟨lw_p9, List.forall_mem_cons.mpr ⟨lw_p10, List.forall_mem_cons.mpr ⟨lw_p11, List.forall_mem_cons.mpr ⟨lw_p12, List.forall_mem_cons.mpr ⟨lw_p13, List.forall_mem_cons.mpr ⟨lw_p14, List.forall_mem_cons.mpr ⟨lw_p15, fun _ h => absurd h List.not_mem_nil⟩⟩⟩⟩⟩⟩⟩⟩⟩⟩⟩⟩⟩⟩⟩⟩
theorem lw_p16 : lw_okq (⟨"LostBeforeSung$Reader", "append", "(I)I"⟩, 7) := ⟨⟨by decide +kernel, by decide +kernel⟩, List.mem_of_getElem? (i := 139) (by decide +kernel), List.mem_of_getElem? (i := 363) (by decide +kernel), List.mem_of_getElem? (i := 364) (by decide +kernel)⟩
theorem lw_p17 : lw_okq (⟨"LostBeforeSung$Isle", "become", "(LLostBeforeSung$Isle;)V"⟩, 16) := ⟨⟨by decide +kernel, by decide +kernel⟩, List.mem_of_getElem? (i := 24) (by decide +kernel), List.mem_of_getElem? (i := 375) (by decide +kernel), List.mem_of_getElem? (i := 376) (by decide +kernel)⟩
theorem lw_p18 : lw_okq (⟨"LostBeforeSung$Reader", "read", "(LLostBeforeSung$Isle;)I"⟩, 7) := ⟨⟨by decide +kernel, by decide +kernel⟩, List.mem_of_getElem? (i := 139) (by decide +kernel), List.mem_of_getElem? (i := 380) (by decide +kernel), List.mem_of_getElem? (i := 381) (by decide +kernel)⟩
theorem lw_p19 : lw_okq (⟨"LostBeforeSung$Reader", "advance", "()V"⟩, 7) := ⟨⟨by decide +kernel, by decide +kernel⟩, List.mem_of_getElem? (i := 139) (by decide +kernel), List.mem_of_getElem? (i := 384) (by decide +kernel), List.mem_of_getElem? (i := 385) (by decide +kernel)⟩
theorem lw_p20 : lw_okq (⟨"LostBeforeSung$Reader", "readNumber", "()V"⟩, 7) := ⟨⟨by decide +kernel, by decide +kernel⟩, List.mem_of_getElem? (i := 139) (by decide +kernel), List.mem_of_getElem? (i := 394) (by decide +kernel), List.mem_of_getElem? (i := 395) (by decide +kernel)⟩
theorem lw_p21 : lw_okq (⟨"LostBeforeSung$Reader", "readStatement", "(LLostBeforeSung$Isle;)Z"⟩, 7) := ⟨⟨by decide +kernel, by decide +kernel⟩, List.mem_of_getElem? (i := 139) (by decide +kernel), List.mem_of_getElem? (i := 398) (by decide +kernel), List.mem_of_getElem? (i := 399) (by decide +kernel)⟩
theorem lw_p22 : lw_okq (⟨"LostBeforeSung$Reader", "formOfWord", "()I"⟩, 7) := ⟨⟨by decide +kernel, by decide +kernel⟩, List.mem_of_getElem? (i := 139) (by decide +kernel), List.mem_of_getElem? (i := 402) (by decide +kernel), List.mem_of_getElem? (i := 403) (by decide +kernel)⟩
theorem lw_p23 : lw_okq (⟨"LostBeforeSung$Reader", "spells", "(Ljava/lang/String;)Z"⟩, 7) := ⟨⟨by decide +kernel, by decide +kernel⟩, List.mem_of_getElem? (i := 139) (by decide +kernel), List.mem_of_getElem? (i := 419) (by decide +kernel), List.mem_of_getElem? (i := 420) (by decide +kernel)⟩
theorem lw_p24 : lw_okq (⟨"LostBeforeSung$Reader", "apply", "(LLostBeforeSung$Isle;I)V"⟩, 7) := ⟨⟨by decide +kernel, by decide +kernel⟩, List.mem_of_getElem? (i := 139) (by decide +kernel), List.mem_of_getElem? (i := 480) (by decide +kernel), List.mem_of_getElem? (i := 481) (by decide +kernel)⟩
theorem lw_p25 : lw_okq (⟨"LostBeforeSung$Isle", "repertoire", "(I)I"⟩, 16) := ⟨⟨by decide +kernel, by decide +kernel⟩, List.mem_of_getElem? (i := 24) (by decide +kernel), List.mem_of_getElem? (i := 494) (by decide +kernel), List.mem_of_getElem? (i := 495) (by decide +kernel)⟩
theorem lw_p26 : lw_okq (⟨"LostBeforeSung$Isle", "havers", "(I)I"⟩, 16) := ⟨⟨by decide +kernel, by decide +kernel⟩, List.mem_of_getElem? (i := 24) (by decide +kernel), List.mem_of_getElem? (i := 503) (by decide +kernel), List.mem_of_getElem? (i := 504) (by decide +kernel)⟩
theorem lw_p27 : lw_okq (⟨"LostBeforeSung$Tunes", "asDigits", "(LLostBeforeSung$Isle;I)I"⟩, 3) := ⟨⟨by decide +kernel, by decide +kernel⟩, List.mem_of_getElem? (i := 123) (by decide +kernel), List.mem_of_getElem? (i := 507) (by decide +kernel), List.mem_of_getElem? (i := 508) (by decide +kernel)⟩
theorem lw_p28 : lw_okq (⟨"LostBeforeSung$Isle", "bestMemory", "()I"⟩, 16) := ⟨⟨by decide +kernel, by decide +kernel⟩, List.mem_of_getElem? (i := 24) (by decide +kernel), List.mem_of_getElem? (i := 523) (by decide +kernel), List.mem_of_getElem? (i := 524) (by decide +kernel)⟩
theorem lw_p29 : lw_okq (⟨"LostBeforeSung$Isle", "knownSongs", "()I"⟩, 16) := ⟨⟨by decide +kernel, by decide +kernel⟩, List.mem_of_getElem? (i := 24) (by decide +kernel), List.mem_of_getElem? (i := 531) (by decide +kernel), List.mem_of_getElem? (i := 532) (by decide +kernel)⟩
theorem lw_p30 : lw_okq (⟨"LostBeforeSung$Isle", "songsOfState", "(I)I"⟩, 16) := ⟨⟨by decide +kernel, by decide +kernel⟩, List.mem_of_getElem? (i := 24) (by decide +kernel), List.mem_of_getElem? (i := 536) (by decide +kernel), List.mem_of_getElem? (i := 537) (by decide +kernel)⟩
theorem lw_p31 : lw_okq (⟨"LostBeforeSung$Isle", "peopleWithNone", "()I"⟩, 16) := ⟨⟨by decide +kernel, by decide +kernel⟩, List.mem_of_getElem? (i := 24) (by decide +kernel), List.mem_of_getElem? (i := 544) (by decide +kernel), List.mem_of_getElem? (i := 545) (by decide +kernel)⟩
def lw_privs_2 : List (MethodName × Nat) := [(⟨"LostBeforeSung$Reader", "append", "(I)I"⟩, 7), (⟨"LostBeforeSung$Isle", "become", "(LLostBeforeSung$Isle;)V"⟩, 16), (⟨"LostBeforeSung$Reader", "read", "(LLostBeforeSung$Isle;)I"⟩, 7), (⟨"LostBeforeSung$Reader", "advance", "()V"⟩, 7), (⟨"LostBeforeSung$Reader", "readNumber", "()V"⟩, 7), (⟨"LostBeforeSung$Reader", "readStatement", "(LLostBeforeSung$Isle;)Z"⟩, 7), (⟨"LostBeforeSung$Reader", "formOfWord", "()I"⟩, 7), (⟨"LostBeforeSung$Reader", "spells", "(Ljava/lang/String;)Z"⟩, 7), (⟨"LostBeforeSung$Reader", "apply", "(LLostBeforeSung$Isle;I)V"⟩, 7), (⟨"LostBeforeSung$Isle", "repertoire", "(I)I"⟩, 16), (⟨"LostBeforeSung$Isle", "havers", "(I)I"⟩, 16), (⟨"LostBeforeSung$Tunes", "asDigits", "(LLostBeforeSung$Isle;I)I"⟩, 3), (⟨"LostBeforeSung$Isle", "bestMemory", "()I"⟩, 16), (⟨"LostBeforeSung$Isle", "knownSongs", "()I"⟩, 16), (⟨"LostBeforeSung$Isle", "songsOfState", "(I)I"⟩, 16), (⟨"LostBeforeSung$Isle", "peopleWithNone", "()I"⟩, 16)]
theorem lw_r2 : ∀ q ∈ lw_privs_2, lw_okq q := List.forall_mem_cons.mpr ⟨lw_p16, List.forall_mem_cons.mpr ⟨lw_p17, List.forall_mem_cons.mpr ⟨lw_p18, List.forall_mem_cons.mpr ⟨lw_p19, List.forall_mem_cons.mpr ⟨lw_p20, List.forall_mem_cons.mpr ⟨lw_p21, List.forall_mem_cons.mpr ⟨lw_p22, List.forall_mem_cons.mpr ⟨lw_p23, List.forall_mem_cons.mpr ⟨lw_p24, List.forall_mem_cons.mpr ⟨lw_p25, List.forall_mem_cons.mpr ⟨lw_p26, List.forall_mem_cons.mpr ⟨lw_p27, List.forall_mem_cons.mpr ⟨lw_p28, List.forall_mem_cons.mpr ⟨lw_p29, List.forall_mem_cons.mpr ⟨lw_p30, List.forall_mem_cons.mpr ⟨lw_p31, fun _ h => absurd h List.not_mem_nil⟩⟩⟩⟩⟩⟩⟩⟩⟩⟩⟩⟩⟩⟩⟩⟩
theorem lw_p32 : lw_okq (⟨"LostBeforeSung$Isle", "peopleWithAll", "(I)I"⟩, 16) := ⟨⟨by decide +kernel, by decide +kernel⟩, List.mem_of_getElem? (i := 24) (by decide +kernel), List.mem_of_getElem? (i := 548) (by decide +kernel), List.mem_of_getElem? (i := 549) (by decide +kernel)⟩
theorem lw_p33 : lw_okq (⟨"LostBeforeSung$Isle", "mostHeld", "()I"⟩, 16) := ⟨⟨by decide +kernel, by decide +kernel⟩, List.mem_of_getElem? (i := 24) (by decide +kernel), List.mem_of_getElem? (i := 560) (by decide +kernel), List.mem_of_getElem? (i := 561) (by decide +kernel)⟩
theorem lw_p34 : lw_okq (⟨"LostBeforeSung$Isle", "leastHeld", "()I"⟩, 16) := ⟨⟨by decide +kernel, by decide +kernel⟩, List.mem_of_getElem? (i := 24) (by decide +kernel), List.mem_of_getElem? (i := 571) (by decide +kernel), List.mem_of_getElem? (i := 572) (by decide +kernel)⟩
theorem lw_p35 : lw_okq (⟨"LostBeforeSung$Isle", "tableOf", "(I)I"⟩, 16) := ⟨⟨by decide +kernel, by decide +kernel⟩, List.mem_of_getElem? (i := 24) (by decide +kernel), List.mem_of_getElem? (i := 579) (by decide +kernel), List.mem_of_getElem? (i := 580) (by decide +kernel)⟩
theorem lw_p36 : lw_okq (⟨"LostBeforeSung$Isle", "weakestOn", "(I)I"⟩, 16) := ⟨⟨by decide +kernel, by decide +kernel⟩, List.mem_of_getElem? (i := 24) (by decide +kernel), List.mem_of_getElem? (i := 587) (by decide +kernel), List.mem_of_getElem? (i := 588) (by decide +kernel)⟩
theorem lw_p37 : lw_okq (⟨"LostBeforeSung$Isle", "countKind", "(I)I"⟩, 16) := ⟨⟨by decide +kernel, by decide +kernel⟩, List.mem_of_getElem? (i := 24) (by decide +kernel), List.mem_of_getElem? (i := 596) (by decide +kernel), List.mem_of_getElem? (i := 597) (by decide +kernel)⟩
theorem lw_p38 : lw_okq (⟨"LostBeforeSung$Outlook", "after", "(LLostBeforeSung$Isle;I)LLostBeforeSung$Isle;"⟩, 2) := ⟨⟨by decide +kernel, by decide +kernel⟩, List.mem_of_getElem? (i := 108) (by decide +kernel), List.mem_of_getElem? (i := 604) (by decide +kernel), List.mem_of_getElem? (i := 605) (by decide +kernel)⟩
theorem lw_p39 : lw_okq (⟨"LostBeforeSung$Isle", "passYear", "()I"⟩, 16) := ⟨⟨by decide +kernel, by decide +kernel⟩, List.mem_of_getElem? (i := 24) (by decide +kernel), List.mem_of_getElem? (i := 609) (by decide +kernel), List.mem_of_getElem? (i := 610) (by decide +kernel)⟩
theorem lw_p40 : lw_okq (⟨"LostBeforeSung$Isle", "countYear", "()V"⟩, 16) := ⟨⟨by decide +kernel, by decide +kernel⟩, List.mem_of_getElem? (i := 24) (by decide +kernel), List.mem_of_getElem? (i := 613) (by decide +kernel), List.mem_of_getElem? (i := 614) (by decide +kernel)⟩
theorem lw_p41 : lw_okq (⟨"LostBeforeSung$Isle", "passSong", "(I)Z"⟩, 16) := ⟨⟨by decide +kernel, by decide +kernel⟩, List.mem_of_getElem? (i := 24) (by decide +kernel), List.mem_of_getElem? (i := 620) (by decide +kernel), List.mem_of_getElem? (i := 621) (by decide +kernel)⟩
theorem lw_p42 : lw_okq (⟨"LostBeforeSung$Isle", "forget", "(I)V"⟩, 16) := ⟨⟨by decide +kernel, by decide +kernel⟩, List.mem_of_getElem? (i := 24) (by decide +kernel), List.mem_of_getElem? (i := 624) (by decide +kernel), List.mem_of_getElem? (i := 625) (by decide +kernel)⟩
theorem lw_p43 : lw_okq (⟨"LostBeforeSung$Isle", "pickUp", "(I)V"⟩, 16) := ⟨⟨by decide +kernel, by decide +kernel⟩, List.mem_of_getElem? (i := 24) (by decide +kernel), List.mem_of_getElem? (i := 628) (by decide +kernel), List.mem_of_getElem? (i := 629) (by decide +kernel)⟩
theorem lw_p44 : lw_okq (⟨"LostBeforeSung$Isle", "callUp", "(I)Z"⟩, 16) := ⟨⟨by decide +kernel, by decide +kernel⟩, List.mem_of_getElem? (i := 24) (by decide +kernel), List.mem_of_getElem? (i := 632) (by decide +kernel), List.mem_of_getElem? (i := 633) (by decide +kernel)⟩
theorem lw_p45 : lw_okq (⟨"LostBeforeSung$Outlook", "lossIn", "(LLostBeforeSung$Isle;I)I"⟩, 2) := ⟨⟨by decide +kernel, by decide +kernel⟩, List.mem_of_getElem? (i := 108) (by decide +kernel), List.mem_of_getElem? (i := 641) (by decide +kernel), List.mem_of_getElem? (i := 642) (by decide +kernel)⟩
theorem lw_p46 : lw_okq (⟨"LostBeforeSung$Outlook", "lossFromThen", "(II)I"⟩, 2) := ⟨⟨by decide +kernel, by decide +kernel⟩, List.mem_of_getElem? (i := 108) (by decide +kernel), List.mem_of_getElem? (i := 645) (by decide +kernel), List.mem_of_getElem? (i := 646) (by decide +kernel)⟩
theorem lw_p47 : lw_okq (⟨"LostBeforeSung$Isle", "passYearOf", "(I)V"⟩, 16) := ⟨⟨by decide +kernel, by decide +kernel⟩, List.mem_of_getElem? (i := 24) (by decide +kernel), List.mem_of_getElem? (i := 649) (by decide +kernel), List.mem_of_getElem? (i := 650) (by decide +kernel)⟩
def lw_privs_3 : List (MethodName × Nat) := [(⟨"LostBeforeSung$Isle", "peopleWithAll", "(I)I"⟩, 16), (⟨"LostBeforeSung$Isle", "mostHeld", "()I"⟩, 16), (⟨"LostBeforeSung$Isle", "leastHeld", "()I"⟩, 16), (⟨"LostBeforeSung$Isle", "tableOf", "(I)I"⟩, 16), (⟨"LostBeforeSung$Isle", "weakestOn", "(I)I"⟩, 16), (⟨"LostBeforeSung$Isle", "countKind", "(I)I"⟩, 16), (⟨"LostBeforeSung$Outlook", "after", "(LLostBeforeSung$Isle;I)LLostBeforeSung$Isle;"⟩, 2), (⟨"LostBeforeSung$Isle", "passYear", "()I"⟩, 16), (⟨"LostBeforeSung$Isle", "countYear", "()V"⟩, 16), (⟨"LostBeforeSung$Isle", "passSong", "(I)Z"⟩, 16), (⟨"LostBeforeSung$Isle", "forget", "(I)V"⟩, 16), (⟨"LostBeforeSung$Isle", "pickUp", "(I)V"⟩, 16), (⟨"LostBeforeSung$Isle", "callUp", "(I)Z"⟩, 16), (⟨"LostBeforeSung$Outlook", "lossIn", "(LLostBeforeSung$Isle;I)I"⟩, 2), (⟨"LostBeforeSung$Outlook", "lossFromThen", "(II)I"⟩, 2), (⟨"LostBeforeSung$Isle", "passYearOf", "(I)V"⟩, 16)]
theorem lw_r3 : ∀ q ∈ lw_privs_3, lw_okq q := List.forall_mem_cons.mpr ⟨lw_p32, List.forall_mem_cons.mpr ⟨lw_p33, List.forall_mem_cons.mpr ⟨lw_p34, List.forall_mem_cons.mpr ⟨lw_p35, List.forall_mem_cons.mpr ⟨lw_p36, List.forall_mem_cons.mpr ⟨lw_p37, List.forall_mem_cons.mpr ⟨lw_p38, List.forall_mem_cons.mpr ⟨lw_p39, List.forall_mem_cons.mpr ⟨lw_p40, List.forall_mem_cons.mpr ⟨lw_p41, List.forall_mem_cons.mpr ⟨lw_p42, List.forall_mem_cons.mpr ⟨lw_p43, List.forall_mem_cons.mpr ⟨lw_p44, List.forall_mem_cons.mpr ⟨lw_p45, List.forall_mem_cons.mpr ⟨lw_p46, List.forall_mem_cons.mpr ⟨lw_p47, fun _ h => absurd h List.not_mem_nil⟩⟩⟩⟩⟩⟩⟩⟩⟩⟩⟩⟩⟩⟩⟩⟩
theorem lw_p48 : lw_okq (⟨"LostBeforeSung$Outlook", "findIn", "(LLostBeforeSung$Isle;I)I"⟩, 2) := ⟨⟨by decide +kernel, by decide +kernel⟩, List.mem_of_getElem? (i := 108) (by decide +kernel), List.mem_of_getElem? (i := 660) (by decide +kernel), List.mem_of_getElem? (i := 661) (by decide +kernel)⟩
theorem lw_p49 : lw_okq (⟨"LostBeforeSung$Outlook", "lastHavers", "(LLostBeforeSung$Isle;I)I"⟩, 2) := ⟨⟨by decide +kernel, by decide +kernel⟩, List.mem_of_getElem? (i := 108) (by decide +kernel), List.mem_of_getElem? (i := 668) (by decide +kernel), List.mem_of_getElem? (i := 669) (by decide +kernel)⟩
theorem lw_p50 : lw_okq (⟨"LostBeforeSung$Outlook", "neededAtTable", "(LLostBeforeSung$Isle;I)I"⟩, 2) := ⟨⟨by decide +kernel, by decide +kernel⟩, List.mem_of_getElem? (i := 108) (by decide +kernel), List.mem_of_getElem? (i := 677) (by decide +kernel), List.mem_of_getElem? (i := 678) (by decide +kernel)⟩
theorem lw_p51 : lw_okq (⟨"LostBeforeSung$Isle", "leaveTable", "(I)V"⟩, 16) := ⟨⟨by decide +kernel, by decide +kernel⟩, List.mem_of_getElem? (i := 24) (by decide +kernel), List.mem_of_getElem? (i := 681) (by decide +kernel), List.mem_of_getElem? (i := 682) (by decide +kernel)⟩
theorem lw_p52 : lw_okq (⟨"LostBeforeSung$Outlook", "leastWork", "(LLostBeforeSung$Isle;II)I"⟩, 2) := ⟨⟨by decide +kernel, by decide +kernel⟩, List.mem_of_getElem? (i := 108) (by decide +kernel), List.mem_of_getElem? (i := 690) (by decide +kernel), List.mem_of_getElem? (i := 691) (by decide +kernel)⟩
theorem lw_p53 : lw_okq (⟨"LostBeforeSung$Outlook", "worstPupils", "(LLostBeforeSung$Isle;II)I"⟩, 2) := ⟨⟨by decide +kernel, by decide +kernel⟩, List.mem_of_getElem? (i := 108) (by decide +kernel), List.mem_of_getElem? (i := 698) (by decide +kernel), List.mem_of_getElem? (i := 699) (by decide +kernel)⟩
theorem lw_p54 : lw_okq (⟨"LostBeforeSung$Outlook", "teachThen", "(II)V"⟩, 2) := ⟨⟨by decide +kernel, by decide +kernel⟩, List.mem_of_getElem? (i := 108) (by decide +kernel), List.mem_of_getElem? (i := 703) (by decide +kernel), List.mem_of_getElem? (i := 704) (by decide +kernel)⟩
theorem lw_p55 : lw_okq (⟨"LostBeforeSung$Outlook", "bestHummer", "(LLostBeforeSung$Isle;I)I"⟩, 2) := ⟨⟨by decide +kernel, by decide +kernel⟩, List.mem_of_getElem? (i := 108) (by decide +kernel), List.mem_of_getElem? (i := 712) (by decide +kernel), List.mem_of_getElem? (i := 713) (by decide +kernel)⟩
theorem lw_p56 : lw_okq (⟨"LostBeforeSung$Outlook", "nextLost", "(LLostBeforeSung$Isle;)I"⟩, 2) := ⟨⟨by decide +kernel, by decide +kernel⟩, List.mem_of_getElem? (i := 108) (by decide +kernel), List.mem_of_getElem? (i := 722) (by decide +kernel), List.mem_of_getElem? (i := 723) (by decide +kernel)⟩
theorem lw_p57 : lw_okq (⟨"LostBeforeSung$Outlook", "inOrder", "(LLostBeforeSung$Isle;I)I"⟩, 2) := ⟨⟨by decide +kernel, by decide +kernel⟩, List.mem_of_getElem? (i := 108) (by decide +kernel), List.mem_of_getElem? (i := 730) (by decide +kernel), List.mem_of_getElem? (i := 731) (by decide +kernel)⟩
theorem lw_p58 : lw_okq (⟨"LostBeforeSung$Outlook", "placeOf", "(LLostBeforeSung$Isle;I)I"⟩, 2) := ⟨⟨by decide +kernel, by decide +kernel⟩, List.mem_of_getElem? (i := 108) (by decide +kernel), List.mem_of_getElem? (i := 734) (by decide +kernel), List.mem_of_getElem? (i := 735) (by decide +kernel)⟩
theorem lw_p59 : lw_okq (⟨"LostBeforeSung$Shelf", "refusalAsTold", "(I)I"⟩, 3) := ⟨⟨by decide +kernel, by decide +kernel⟩, List.mem_of_getElem? (i := 170) (by decide +kernel), List.mem_of_getElem? (i := 742) (by decide +kernel), List.mem_of_getElem? (i := 743) (by decide +kernel)⟩
theorem lw_p60 : lw_okq (⟨"LostBeforeSung$Outlook", "memoriesBy", "(LLostBeforeSung$Isle;LLostBeforeSung$Shelf;II)I"⟩, 2) := ⟨⟨by decide +kernel, by decide +kernel⟩, List.mem_of_getElem? (i := 108) (by decide +kernel), List.mem_of_getElem? (i := 747) (by decide +kernel), List.mem_of_getElem? (i := 748) (by decide +kernel)⟩
theorem lw_p61 : lw_okq (⟨"LostBeforeSung$Outlook", "comesAsTold", "(LLostBeforeSung$Shelf;II)Z"⟩, 2) := ⟨⟨by decide +kernel, by decide +kernel⟩, List.mem_of_getElem? (i := 108) (by decide +kernel), List.mem_of_getElem? (i := 751) (by decide +kernel), List.mem_of_getElem? (i := 752) (by decide +kernel)⟩
theorem lw_p62 : lw_okq (⟨"LostBeforeSung$Outlook", "kindsBy", "(LLostBeforeSung$Isle;LLostBeforeSung$Shelf;II)I"⟩, 2) := ⟨⟨by decide +kernel, by decide +kernel⟩, List.mem_of_getElem? (i := 108) (by decide +kernel), List.mem_of_getElem? (i := 756) (by decide +kernel), List.mem_of_getElem? (i := 757) (by decide +kernel)⟩
theorem lw_p63 : lw_okq (⟨"LostBeforeSung$Outlook", "leastGrief", "(LLostBeforeSung$Isle;III)I"⟩, 2) := ⟨⟨by decide +kernel, by decide +kernel⟩, List.mem_of_getElem? (i := 108) (by decide +kernel), List.mem_of_getElem? (i := 764) (by decide +kernel), List.mem_of_getElem? (i := 765) (by decide +kernel)⟩
def lw_privs_4 : List (MethodName × Nat) := [(⟨"LostBeforeSung$Outlook", "findIn", "(LLostBeforeSung$Isle;I)I"⟩, 2), (⟨"LostBeforeSung$Outlook", "lastHavers", "(LLostBeforeSung$Isle;I)I"⟩, 2), (⟨"LostBeforeSung$Outlook", "neededAtTable", "(LLostBeforeSung$Isle;I)I"⟩, 2), (⟨"LostBeforeSung$Isle", "leaveTable", "(I)V"⟩, 16), (⟨"LostBeforeSung$Outlook", "leastWork", "(LLostBeforeSung$Isle;II)I"⟩, 2), (⟨"LostBeforeSung$Outlook", "worstPupils", "(LLostBeforeSung$Isle;II)I"⟩, 2), (⟨"LostBeforeSung$Outlook", "teachThen", "(II)V"⟩, 2), (⟨"LostBeforeSung$Outlook", "bestHummer", "(LLostBeforeSung$Isle;I)I"⟩, 2), (⟨"LostBeforeSung$Outlook", "nextLost", "(LLostBeforeSung$Isle;)I"⟩, 2), (⟨"LostBeforeSung$Outlook", "inOrder", "(LLostBeforeSung$Isle;I)I"⟩, 2), (⟨"LostBeforeSung$Outlook", "placeOf", "(LLostBeforeSung$Isle;I)I"⟩, 2), (⟨"LostBeforeSung$Shelf", "refusalAsTold", "(I)I"⟩, 3), (⟨"LostBeforeSung$Outlook", "memoriesBy", "(LLostBeforeSung$Isle;LLostBeforeSung$Shelf;II)I"⟩, 2), (⟨"LostBeforeSung$Outlook", "comesAsTold", "(LLostBeforeSung$Shelf;II)Z"⟩, 2), (⟨"LostBeforeSung$Outlook", "kindsBy", "(LLostBeforeSung$Isle;LLostBeforeSung$Shelf;II)I"⟩, 2), (⟨"LostBeforeSung$Outlook", "leastGrief", "(LLostBeforeSung$Isle;III)I"⟩, 2)]
theorem lw_r4 : ∀ q ∈ lw_privs_4, lw_okq q := List.forall_mem_cons.mpr ⟨lw_p48, List.forall_mem_cons.mpr ⟨lw_p49, List.forall_mem_cons.mpr ⟨lw_p50, List.forall_mem_cons.mpr ⟨lw_p51, List.forall_mem_cons.mpr ⟨lw_p52, List.forall_mem_cons.mpr ⟨lw_p53, List.forall_mem_cons.mpr ⟨lw_p54, List.forall_mem_cons.mpr ⟨lw_p55, List.forall_mem_cons.mpr ⟨lw_p56, List.forall_mem_cons.mpr ⟨lw_p57, List.forall_mem_cons.mpr ⟨lw_p58, List.forall_mem_cons.mpr ⟨lw_p59, List.forall_mem_cons.mpr ⟨lw_p60, List.forall_mem_cons.mpr ⟨lw_p61, List.forall_mem_cons.mpr ⟨lw_p62, List.forall_mem_cons.mpr ⟨lw_p63, fun _ h => absurd h List.not_mem_nil⟩⟩⟩⟩⟩⟩⟩⟩⟩⟩⟩⟩⟩⟩⟩⟩
theorem lw_p64 : lw_okq (⟨"LostBeforeSung$Outlook", "losesWithin", "(III)Z"⟩, 2) := ⟨⟨by decide +kernel, by decide +kernel⟩, List.mem_of_getElem? (i := 108) (by decide +kernel), List.mem_of_getElem? (i := 768) (by decide +kernel), List.mem_of_getElem? (i := 769) (by decide +kernel)⟩
theorem lw_p65 : lw_okq (⟨"LostBeforeSung$Outlook", "forgetIn", "(LLostBeforeSung$Isle;II)I"⟩, 2) := ⟨⟨by decide +kernel, by decide +kernel⟩, List.mem_of_getElem? (i := 108) (by decide +kernel), List.mem_of_getElem? (i := 776) (by decide +kernel), List.mem_of_getElem? (i := 777) (by decide +kernel)⟩
theorem lw_p66 : lw_okq (⟨"LostBeforeSung$Outlook", "firstWrong", "(LLostBeforeSung$Isle;LLostBeforeSung$Shelf;I)I"⟩, 2) := ⟨⟨by decide +kernel, by decide +kernel⟩, List.mem_of_getElem? (i := 108) (by decide +kernel), List.mem_of_getElem? (i := 784) (by decide +kernel), List.mem_of_getElem? (i := 785) (by decide +kernel)⟩
theorem lw_p67 : lw_okq (⟨"LostBeforeSung$Tunes", "listenToSong", "(LLostBeforeSung$Isle;I)V"⟩, 3) := ⟨⟨by decide +kernel, by decide +kernel⟩, List.mem_of_getElem? (i := 123) (by decide +kernel), List.mem_of_getElem? (i := 793) (by decide +kernel), List.mem_of_getElem? (i := 794) (by decide +kernel)⟩
theorem lw_p68 : lw_okq (⟨"LostBeforeSung$Tunes", "changesTo", "(LLostBeforeSung$Isle;I)I"⟩, 3) := ⟨⟨by decide +kernel, by decide +kernel⟩, List.mem_of_getElem? (i := 123) (by decide +kernel), List.mem_of_getElem? (i := 798) (by decide +kernel), List.mem_of_getElem? (i := 799) (by decide +kernel)⟩
theorem lw_p69 : lw_okq (⟨"LostBeforeSung$Tunes", "joined", "(LLostBeforeSung$Isle;II)I"⟩, 3) := ⟨⟨by decide +kernel, by decide +kernel⟩, List.mem_of_getElem? (i := 123) (by decide +kernel), List.mem_of_getElem? (i := 807) (by decide +kernel), List.mem_of_getElem? (i := 808) (by decide +kernel)⟩
theorem lw_p70 : lw_okq (⟨"LostBeforeSung$Tunes", "endBegins", "(LLostBeforeSung$Isle;III)Z"⟩, 3) := ⟨⟨by decide +kernel, by decide +kernel⟩, List.mem_of_getElem? (i := 123) (by decide +kernel), List.mem_of_getElem? (i := 811) (by decide +kernel), List.mem_of_getElem? (i := 812) (by decide +kernel)⟩
theorem lw_p71 : lw_okq (⟨"LostBeforeSung$Tunes", "alike", "(LLostBeforeSung$Isle;II)I"⟩, 3) := ⟨⟨by decide +kernel, by decide +kernel⟩, List.mem_of_getElem? (i := 123) (by decide +kernel), List.mem_of_getElem? (i := 819) (by decide +kernel), List.mem_of_getElem? (i := 820) (by decide +kernel)⟩
theorem lw_p72 : lw_okq (⟨"LostBeforeSung$Tunes", "listenToRow", "(LLostBeforeSung$Shelf;I)Z"⟩, 3) := ⟨⟨by decide +kernel, by decide +kernel⟩, List.mem_of_getElem? (i := 123) (by decide +kernel), List.mem_of_getElem? (i := 827) (by decide +kernel), List.mem_of_getElem? (i := 828) (by decide +kernel)⟩
theorem lw_p73 : lw_okq (⟨"LostBeforeSung$Tunes", "nearestSong", "(LLostBeforeSung$Isle;)I"⟩, 3) := ⟨⟨by decide +kernel, by decide +kernel⟩, List.mem_of_getElem? (i := 123) (by decide +kernel), List.mem_of_getElem? (i := 832) (by decide +kernel), List.mem_of_getElem? (i := 833) (by decide +kernel)⟩
theorem lw_p74 : lw_okq (⟨"LostBeforeSung$Isle", "passDrawnYear", "()I"⟩, 16) := ⟨⟨by decide +kernel, by decide +kernel⟩, List.mem_of_getElem? (i := 24) (by decide +kernel), List.mem_of_getElem? (i := 851) (by decide +kernel), List.mem_of_getElem? (i := 852) (by decide +kernel)⟩
theorem lw_p75 : lw_okq (⟨"LostBeforeSung$Isle", "draw", "(I)I"⟩, 16) := ⟨⟨by decide +kernel, by decide +kernel⟩, List.mem_of_getElem? (i := 24) (by decide +kernel), List.mem_of_getElem? (i := 855) (by decide +kernel), List.mem_of_getElem? (i := 856) (by decide +kernel)⟩
theorem lw_p76 : lw_okq (⟨"LostBeforeSung", "filledShelves", "()I"⟩, 9) := ⟨⟨by decide +kernel, by decide +kernel⟩, List.mem_of_getElem? (i := 16) (by decide +kernel), List.mem_of_getElem? (i := 877) (by decide +kernel), List.mem_of_getElem? (i := 878) (by decide +kernel)⟩
theorem lw_p77 : lw_okq (⟨"LostBeforeSungModel", "refuse", "(I)I"⟩, 41) := ⟨⟨by decide +kernel, by decide +kernel⟩, List.mem_of_getElem? (i := 881) (by decide +kernel), List.mem_of_getElem? (i := 1023) (by decide +kernel), List.mem_of_getElem? (i := 1024) (by decide +kernel)⟩
theorem lw_p78 : lw_okq (⟨"LostBeforeSungModel", "noRow", "(I)I"⟩, 41) := ⟨⟨by decide +kernel, by decide +kernel⟩, List.mem_of_getElem? (i := 881) (by decide +kernel), List.mem_of_getElem? (i := 1031) (by decide +kernel), List.mem_of_getElem? (i := 1032) (by decide +kernel)⟩
theorem lw_p79 : lw_okq (⟨"LostBeforeSungModel", "isPerson", "(I)Z"⟩, 41) := ⟨⟨by decide +kernel, by decide +kernel⟩, List.mem_of_getElem? (i := 881) (by decide +kernel), List.mem_of_getElem? (i := 1054) (by decide +kernel), List.mem_of_getElem? (i := 1055) (by decide +kernel)⟩
def lw_privs_5 : List (MethodName × Nat) := [(⟨"LostBeforeSung$Outlook", "losesWithin", "(III)Z"⟩, 2), (⟨"LostBeforeSung$Outlook", "forgetIn", "(LLostBeforeSung$Isle;II)I"⟩, 2), (⟨"LostBeforeSung$Outlook", "firstWrong", "(LLostBeforeSung$Isle;LLostBeforeSung$Shelf;I)I"⟩, 2), (⟨"LostBeforeSung$Tunes", "listenToSong", "(LLostBeforeSung$Isle;I)V"⟩, 3), (⟨"LostBeforeSung$Tunes", "changesTo", "(LLostBeforeSung$Isle;I)I"⟩, 3), (⟨"LostBeforeSung$Tunes", "joined", "(LLostBeforeSung$Isle;II)I"⟩, 3), (⟨"LostBeforeSung$Tunes", "endBegins", "(LLostBeforeSung$Isle;III)Z"⟩, 3), (⟨"LostBeforeSung$Tunes", "alike", "(LLostBeforeSung$Isle;II)I"⟩, 3), (⟨"LostBeforeSung$Tunes", "listenToRow", "(LLostBeforeSung$Shelf;I)Z"⟩, 3), (⟨"LostBeforeSung$Tunes", "nearestSong", "(LLostBeforeSung$Isle;)I"⟩, 3), (⟨"LostBeforeSung$Isle", "passDrawnYear", "()I"⟩, 16), (⟨"LostBeforeSung$Isle", "draw", "(I)I"⟩, 16), (⟨"LostBeforeSung", "filledShelves", "()I"⟩, 9), (⟨"LostBeforeSungModel", "refuse", "(I)I"⟩, 41), (⟨"LostBeforeSungModel", "noRow", "(I)I"⟩, 41), (⟨"LostBeforeSungModel", "isPerson", "(I)Z"⟩, 41)]
theorem lw_r5 : ∀ q ∈ lw_privs_5, lw_okq q := List.forall_mem_cons.mpr ⟨lw_p64, List.forall_mem_cons.mpr ⟨lw_p65, List.forall_mem_cons.mpr ⟨lw_p66, List.forall_mem_cons.mpr ⟨lw_p67, List.forall_mem_cons.mpr ⟨lw_p68, List.forall_mem_cons.mpr ⟨lw_p69, List.forall_mem_cons.mpr ⟨lw_p70, List.forall_mem_cons.mpr ⟨lw_p71, List.forall_mem_cons.mpr ⟨lw_p72, List.forall_mem_cons.mpr ⟨lw_p73, List.forall_mem_cons.mpr ⟨lw_p74, List.forall_mem_cons.mpr ⟨lw_p75, List.forall_mem_cons.mpr ⟨lw_p76, List.forall_mem_cons.mpr ⟨lw_p77, List.forall_mem_cons.mpr ⟨lw_p78, List.forall_mem_cons.mpr ⟨lw_p79, fun _ h => absurd h List.not_mem_nil⟩⟩⟩⟩⟩⟩⟩⟩⟩⟩⟩⟩⟩⟩⟩⟩
theorem lw_p80 : lw_okq (⟨"LostBeforeSungModel", "holdBy", "(II)I"⟩, 41) := ⟨⟨by decide +kernel, by decide +kernel⟩, List.mem_of_getElem? (i := 881) (by decide +kernel), List.mem_of_getElem? (i := 1066) (by decide +kernel), List.mem_of_getElem? (i := 1067) (by decide +kernel)⟩
theorem lw_p81 : lw_okq (⟨"LostBeforeSungModel", "addPerson", "(IIII)V"⟩, 41) := ⟨⟨by decide +kernel, by decide +kernel⟩, List.mem_of_getElem? (i := 881) (by decide +kernel), List.mem_of_getElem? (i := 1078) (by decide +kernel), List.mem_of_getElem? (i := 1079) (by decide +kernel)⟩
theorem lw_p82 : lw_okq (⟨"LostBeforeSungModel", "addSong", "(II)V"⟩, 41) := ⟨⟨by decide +kernel, by decide +kernel⟩, List.mem_of_getElem? (i := 881) (by decide +kernel), List.mem_of_getElem? (i := 1086) (by decide +kernel), List.mem_of_getElem? (i := 1087) (by decide +kernel)⟩
theorem lw_p83 : lw_okq (⟨"LostBeforeSungModel", "isSong", "(I)Z"⟩, 41) := ⟨⟨by decide +kernel, by decide +kernel⟩, List.mem_of_getElem? (i := 881) (by decide +kernel), List.mem_of_getElem? (i := 1099) (by decide +kernel), List.mem_of_getElem? (i := 1100) (by decide +kernel)⟩
theorem lw_p84 : lw_okq (⟨"LostBeforeSungModel", "seats", "(IIZ)V"⟩, 41) := ⟨⟨by decide +kernel, by decide +kernel⟩, List.mem_of_getElem? (i := 881) (by decide +kernel), List.mem_of_getElem? (i := 1117) (by decide +kernel), List.mem_of_getElem? (i := 1118) (by decide +kernel)⟩
theorem lw_p85 : lw_okq (⟨"LostBeforeSungModel", "takeFrom", "(LLostBeforeSungModel;)V"⟩, 41) := ⟨⟨by decide +kernel, by decide +kernel⟩, List.mem_of_getElem? (i := 881) (by decide +kernel), List.mem_of_getElem? (i := 1141) (by decide +kernel), List.mem_of_getElem? (i := 1142) (by decide +kernel)⟩
theorem lw_p86 : lw_okq (⟨"LostBeforeSungModel", "readAll", "()Z"⟩, 41) := ⟨⟨by decide +kernel, by decide +kernel⟩, List.mem_of_getElem? (i := 881) (by decide +kernel), List.mem_of_getElem? (i := 1148) (by decide +kernel), List.mem_of_getElem? (i := 1149) (by decide +kernel)⟩
theorem lw_p87 : lw_okq (⟨"LostBeforeSungModel", "look", "()V"⟩, 41) := ⟨⟨by decide +kernel, by decide +kernel⟩, List.mem_of_getElem? (i := 881) (by decide +kernel), List.mem_of_getElem? (i := 1152) (by decide +kernel), List.mem_of_getElem? (i := 1153) (by decide +kernel)⟩
theorem lw_p88 : lw_okq (⟨"LostBeforeSungModel", "statement", "()Z"⟩, 41) := ⟨⟨by decide +kernel, by decide +kernel⟩, List.mem_of_getElem? (i := 881) (by decide +kernel), List.mem_of_getElem? (i := 1162) (by decide +kernel), List.mem_of_getElem? (i := 1163) (by decide +kernel)⟩
theorem lw_p89 : lw_okq (⟨"LostBeforeSungModel", "isWord", "(Ljava/lang/String;)Z"⟩, 41) := ⟨⟨by decide +kernel, by decide +kernel⟩, List.mem_of_getElem? (i := 881) (by decide +kernel), List.mem_of_getElem? (i := 1167) (by decide +kernel), List.mem_of_getElem? (i := 1168) (by decide +kernel)⟩
theorem lw_p90 : lw_okq (⟨"LostBeforeSungModel", "tellsNew", "(Z)Z"⟩, 41) := ⟨⟨by decide +kernel, by decide +kernel⟩, List.mem_of_getElem? (i := 881) (by decide +kernel), List.mem_of_getElem? (i := 1173) (by decide +kernel), List.mem_of_getElem? (i := 1174) (by decide +kernel)⟩
theorem lw_p91 : lw_okq (⟨"LostBeforeSungModel", "tells", "(II)Z"⟩, 41) := ⟨⟨by decide +kernel, by decide +kernel⟩, List.mem_of_getElem? (i := 881) (by decide +kernel), List.mem_of_getElem? (i := 1177) (by decide +kernel), List.mem_of_getElem? (i := 1178) (by decide +kernel)⟩
theorem lw_p92 : lw_okq (⟨"LostBeforeSungModel", "number", "(III)Z"⟩, 41) := ⟨⟨by decide +kernel, by decide +kernel⟩, List.mem_of_getElem? (i := 881) (by decide +kernel), List.mem_of_getElem? (i := 1181) (by decide +kernel), List.mem_of_getElem? (i := 1182) (by decide +kernel)⟩
theorem lw_p93 : lw_okq (⟨"LostBeforeSungModel", "wrong", "()Z"⟩, 41) := ⟨⟨by decide +kernel, by decide +kernel⟩, List.mem_of_getElem? (i := 881) (by decide +kernel), List.mem_of_getElem? (i := 1185) (by decide +kernel), List.mem_of_getElem? (i := 1186) (by decide +kernel)⟩
theorem lw_p94 : lw_okq (⟨"LostBeforeSungModel", "tellsHas", "(I)Z"⟩, 41) := ⟨⟨by decide +kernel, by decide +kernel⟩, List.mem_of_getElem? (i := 881) (by decide +kernel), List.mem_of_getElem? (i := 1191) (by decide +kernel), List.mem_of_getElem? (i := 1192) (by decide +kernel)⟩
theorem lw_p95 : lw_okq (⟨"LostBeforeSungModel", "tellsSeat", "(Z)Z"⟩, 41) := ⟨⟨by decide +kernel, by decide +kernel⟩, List.mem_of_getElem? (i := 881) (by decide +kernel), List.mem_of_getElem? (i := 1197) (by decide +kernel), List.mem_of_getElem? (i := 1198) (by decide +kernel)⟩
def lw_privs_6 : List (MethodName × Nat) := [(⟨"LostBeforeSungModel", "holdBy", "(II)I"⟩, 41), (⟨"LostBeforeSungModel", "addPerson", "(IIII)V"⟩, 41), (⟨"LostBeforeSungModel", "addSong", "(II)V"⟩, 41), (⟨"LostBeforeSungModel", "isSong", "(I)Z"⟩, 41), (⟨"LostBeforeSungModel", "seats", "(IIZ)V"⟩, 41), (⟨"LostBeforeSungModel", "takeFrom", "(LLostBeforeSungModel;)V"⟩, 41), (⟨"LostBeforeSungModel", "readAll", "()Z"⟩, 41), (⟨"LostBeforeSungModel", "look", "()V"⟩, 41), (⟨"LostBeforeSungModel", "statement", "()Z"⟩, 41), (⟨"LostBeforeSungModel", "isWord", "(Ljava/lang/String;)Z"⟩, 41), (⟨"LostBeforeSungModel", "tellsNew", "(Z)Z"⟩, 41), (⟨"LostBeforeSungModel", "tells", "(II)Z"⟩, 41), (⟨"LostBeforeSungModel", "number", "(III)Z"⟩, 41), (⟨"LostBeforeSungModel", "wrong", "()Z"⟩, 41), (⟨"LostBeforeSungModel", "tellsHas", "(I)Z"⟩, 41), (⟨"LostBeforeSungModel", "tellsSeat", "(Z)Z"⟩, 41)]
theorem lw_r6 : ∀ q ∈ lw_privs_6, lw_okq q := List.forall_mem_cons.mpr ⟨lw_p80, List.forall_mem_cons.mpr ⟨lw_p81, List.forall_mem_cons.mpr ⟨lw_p82, List.forall_mem_cons.mpr ⟨lw_p83, List.forall_mem_cons.mpr ⟨lw_p84, List.forall_mem_cons.mpr ⟨lw_p85, List.forall_mem_cons.mpr ⟨lw_p86, List.forall_mem_cons.mpr ⟨lw_p87, List.forall_mem_cons.mpr ⟨lw_p88, List.forall_mem_cons.mpr ⟨lw_p89, List.forall_mem_cons.mpr ⟨lw_p90, List.forall_mem_cons.mpr ⟨lw_p91, List.forall_mem_cons.mpr ⟨lw_p92, List.forall_mem_cons.mpr ⟨lw_p93, List.forall_mem_cons.mpr ⟨lw_p94, List.forall_mem_cons.mpr ⟨lw_p95, fun _ h => absurd h List.not_mem_nil⟩⟩⟩⟩⟩⟩⟩⟩⟩⟩⟩⟩⟩⟩⟩⟩
theorem lw_p96 : lw_okq (⟨"LostBeforeSungModel", "tellsHum", "(I)Z"⟩, 41) := ⟨⟨by decide +kernel, by decide +kernel⟩, List.mem_of_getElem? (i := 881) (by decide +kernel), List.mem_of_getElem? (i := 1203) (by decide +kernel), List.mem_of_getElem? (i := 1204) (by decide +kernel)⟩
theorem lw_p97 : lw_okq (⟨"LostBeforeSungModel", "songsOf", "(I)I"⟩, 41) := ⟨⟨by decide +kernel, by decide +kernel⟩, List.mem_of_getElem? (i := 881) (by decide +kernel), List.mem_of_getElem? (i := 1215) (by decide +kernel), List.mem_of_getElem? (i := 1216) (by decide +kernel)⟩
theorem lw_p98 : lw_okq (⟨"LostBeforeSungModel", "knowsIt", "(II)Z"⟩, 41) := ⟨⟨by decide +kernel, by decide +kernel⟩, List.mem_of_getElem? (i := 881) (by decide +kernel), List.mem_of_getElem? (i := 1219) (by decide +kernel), List.mem_of_getElem? (i := 1220) (by decide +kernel)⟩
theorem lw_p99 : lw_okq (⟨"LostBeforeSungModel", "holdersOf", "(I)I"⟩, 41) := ⟨⟨by decide +kernel, by decide +kernel⟩, List.mem_of_getElem? (i := 881) (by decide +kernel), List.mem_of_getElem? (i := 1227) (by decide +kernel), List.mem_of_getElem? (i := 1228) (by decide +kernel)⟩
theorem lw_p100 : lw_okq (⟨"LostBeforeSungModel", "tuneOf", "(I)I"⟩, 41) := ⟨⟨by decide +kernel, by decide +kernel⟩, List.mem_of_getElem? (i := 881) (by decide +kernel), List.mem_of_getElem? (i := 1231) (by decide +kernel), List.mem_of_getElem? (i := 1232) (by decide +kernel)⟩
theorem lw_p101 : lw_okq (⟨"LostBeforeSungModel", "holdOf", "(II)I"⟩, 41) := ⟨⟨by decide +kernel, by decide +kernel⟩, List.mem_of_getElem? (i := 881) (by decide +kernel), List.mem_of_getElem? (i := 1243) (by decide +kernel), List.mem_of_getElem? (i := 1244) (by decide +kernel)⟩
theorem lw_p102 : lw_okq (⟨"LostBeforeSungModel", "findsAll", "()I"⟩, 41) := ⟨⟨by decide +kernel, by decide +kernel⟩, List.mem_of_getElem? (i := 881) (by decide +kernel), List.mem_of_getElem? (i := 1251) (by decide +kernel), List.mem_of_getElem? (i := 1252) (by decide +kernel)⟩
theorem lw_p103 : lw_okq (⟨"LostBeforeSungModel", "known", "()I"⟩, 41) := ⟨⟨by decide +kernel, by decide +kernel⟩, List.mem_of_getElem? (i := 881) (by decide +kernel), List.mem_of_getElem? (i := 1260) (by decide +kernel), List.mem_of_getElem? (i := 1261) (by decide +kernel)⟩
theorem lw_p104 : lw_okq (⟨"LostBeforeSungModel", "thought", "()LLostBeforeSungModel;"⟩, 41) := ⟨⟨by decide +kernel, by decide +kernel⟩, List.mem_of_getElem? (i := 881) (by decide +kernel), List.mem_of_getElem? (i := 1296) (by decide +kernel), List.mem_of_getElem? (i := 1297) (by decide +kernel)⟩
theorem lw_p105 : lw_okq (⟨"LostBeforeSungModel", "passes", "()I"⟩, 41) := ⟨⟨by decide +kernel, by decide +kernel⟩, List.mem_of_getElem? (i := 881) (by decide +kernel), List.mem_of_getElem? (i := 1300) (by decide +kernel), List.mem_of_getElem? (i := 1301) (by decide +kernel)⟩
theorem lw_p106 : lw_okq (⟨"LostBeforeSungModel", "forgetsAll", "()V"⟩, 41) := ⟨⟨by decide +kernel, by decide +kernel⟩, List.mem_of_getElem? (i := 881) (by decide +kernel), List.mem_of_getElem? (i := 1304) (by decide +kernel), List.mem_of_getElem? (i := 1305) (by decide +kernel)⟩
theorem lw_p107 : lw_okq (⟨"LostBeforeSungModel", "picksUp", "()V"⟩, 41) := ⟨⟨by decide +kernel, by decide +kernel⟩, List.mem_of_getElem? (i := 881) (by decide +kernel), List.mem_of_getElem? (i := 1308) (by decide +kernel), List.mem_of_getElem? (i := 1309) (by decide +kernel)⟩
theorem lw_p108 : lw_okq (⟨"LostBeforeSungModel", "lostNow", "(I)I"⟩, 41) := ⟨⟨by decide +kernel, by decide +kernel⟩, List.mem_of_getElem? (i := 881) (by decide +kernel), List.mem_of_getElem? (i := 1316) (by decide +kernel), List.mem_of_getElem? (i := 1317) (by decide +kernel)⟩
theorem lw_p109 : lw_okq (⟨"LostBeforeSungModel", "runsOut", "(I)I"⟩, 41) := ⟨⟨by decide +kernel, by decide +kernel⟩, List.mem_of_getElem? (i := 881) (by decide +kernel), List.mem_of_getElem? (i := 1320) (by decide +kernel), List.mem_of_getElem? (i := 1321) (by decide +kernel)⟩
theorem lw_p110 : lw_okq (⟨"LostBeforeSungModel", "placeOf", "(I)I"⟩, 41) := ⟨⟨by decide +kernel, by decide +kernel⟩, List.mem_of_getElem? (i := 881) (by decide +kernel), List.mem_of_getElem? (i := 1364) (by decide +kernel), List.mem_of_getElem? (i := 1365) (by decide +kernel)⟩
theorem lw_p111 : lw_okq (⟨"LostBeforeSungModel", "takeNotes", "(I)V"⟩, 41) := ⟨⟨by decide +kernel, by decide +kernel⟩, List.mem_of_getElem? (i := 881) (by decide +kernel), List.mem_of_getElem? (i := 1376) (by decide +kernel), List.mem_of_getElem? (i := 1377) (by decide +kernel)⟩
def lw_privs_7 : List (MethodName × Nat) := [(⟨"LostBeforeSungModel", "tellsHum", "(I)Z"⟩, 41), (⟨"LostBeforeSungModel", "songsOf", "(I)I"⟩, 41), (⟨"LostBeforeSungModel", "knowsIt", "(II)Z"⟩, 41), (⟨"LostBeforeSungModel", "holdersOf", "(I)I"⟩, 41), (⟨"LostBeforeSungModel", "tuneOf", "(I)I"⟩, 41), (⟨"LostBeforeSungModel", "holdOf", "(II)I"⟩, 41), (⟨"LostBeforeSungModel", "findsAll", "()I"⟩, 41), (⟨"LostBeforeSungModel", "known", "()I"⟩, 41), (⟨"LostBeforeSungModel", "thought", "()LLostBeforeSungModel;"⟩, 41), (⟨"LostBeforeSungModel", "passes", "()I"⟩, 41), (⟨"LostBeforeSungModel", "forgetsAll", "()V"⟩, 41), (⟨"LostBeforeSungModel", "picksUp", "()V"⟩, 41), (⟨"LostBeforeSungModel", "lostNow", "(I)I"⟩, 41), (⟨"LostBeforeSungModel", "runsOut", "(I)I"⟩, 41), (⟨"LostBeforeSungModel", "placeOf", "(I)I"⟩, 41), (⟨"LostBeforeSungModel", "takeNotes", "(I)V"⟩, 41)]
theorem lw_r7 : ∀ q ∈ lw_privs_7, lw_okq q := List.forall_mem_cons.mpr ⟨lw_p96, List.forall_mem_cons.mpr ⟨lw_p97, List.forall_mem_cons.mpr ⟨lw_p98, List.forall_mem_cons.mpr ⟨lw_p99, List.forall_mem_cons.mpr ⟨lw_p100, List.forall_mem_cons.mpr ⟨lw_p101, List.forall_mem_cons.mpr ⟨lw_p102, List.forall_mem_cons.mpr ⟨lw_p103, List.forall_mem_cons.mpr ⟨lw_p104, List.forall_mem_cons.mpr ⟨lw_p105, List.forall_mem_cons.mpr ⟨lw_p106, List.forall_mem_cons.mpr ⟨lw_p107, List.forall_mem_cons.mpr ⟨lw_p108, List.forall_mem_cons.mpr ⟨lw_p109, List.forall_mem_cons.mpr ⟨lw_p110, List.forall_mem_cons.mpr ⟨lw_p111, fun _ h => absurd h List.not_mem_nil⟩⟩⟩⟩⟩⟩⟩⟩⟩⟩⟩⟩⟩⟩⟩⟩
theorem lw_p112 : lw_okq (⟨"LostBeforeSungModel", "changesTo", "(II)I"⟩, 41) := ⟨⟨by decide +kernel, by decide +kernel⟩, List.mem_of_getElem? (i := 881) (by decide +kernel), List.mem_of_getElem? (i := 1380) (by decide +kernel), List.mem_of_getElem? (i := 1381) (by decide +kernel)⟩
theorem lw_p113 : lw_okq (⟨"LostBeforeSungModel", "isEnd", "(III)Z"⟩, 41) := ⟨⟨by decide +kernel, by decide +kernel⟩, List.mem_of_getElem? (i := 881) (by decide +kernel), List.mem_of_getElem? (i := 1391) (by decide +kernel), List.mem_of_getElem? (i := 1392) (by decide +kernel)⟩
theorem lw_p114 : lw_okq (⟨"LostBeforeSungModel", "noTold", "(IIIZ)I"⟩, 41) := ⟨⟨by decide +kernel, by decide +kernel⟩, List.mem_of_getElem? (i := 881) (by decide +kernel), List.mem_of_getElem? (i := 1403) (by decide +kernel), List.mem_of_getElem? (i := 1404) (by decide +kernel)⟩
theorem lw_p115 : lw_okq (⟨"LostBeforeSungModel", "below", "(I)I"⟩, 41) := ⟨⟨by decide +kernel, by decide +kernel⟩, List.mem_of_getElem? (i := 881) (by decide +kernel), List.mem_of_getElem? (i := 1430) (by decide +kernel), List.mem_of_getElem? (i := 1431) (by decide +kernel)⟩
def lw_privs_8 : List (MethodName × Nat) := [(⟨"LostBeforeSungModel", "changesTo", "(II)I"⟩, 41), (⟨"LostBeforeSungModel", "isEnd", "(III)Z"⟩, 41), (⟨"LostBeforeSungModel", "noTold", "(IIIZ)I"⟩, 41), (⟨"LostBeforeSungModel", "below", "(I)I"⟩, 41)]
theorem lw_r8 : ∀ q ∈ lw_privs_8, lw_okq q := List.forall_mem_cons.mpr ⟨lw_p112, List.forall_mem_cons.mpr ⟨lw_p113, List.forall_mem_cons.mpr ⟨lw_p114, List.forall_mem_cons.mpr ⟨lw_p115, fun _ h => absurd h List.not_mem_nil⟩⟩⟩⟩
def lw_privs : List (MethodName × Nat) := lw_privs_1 ++ (lw_privs_2 ++ (lw_privs_3 ++ (lw_privs_4 ++ (lw_privs_5 ++ (lw_privs_6 ++ (lw_privs_7 ++ (lw_privs_8)))))))
def lw_tbl : List Cond := k2_sels lw_privs ++ tables_1
theorem lw_privs_ok : ∀ q ∈ lw_privs, lw_okq q := by
  show ∀ q ∈ lw_privs_1 ++ (lw_privs_2 ++ (lw_privs_3 ++ (lw_privs_4 ++ (lw_privs_5 ++ (lw_privs_6 ++ (lw_privs_7 ++ (lw_privs_8))))))), lw_okq q
  exact List.forall_mem_append.mpr ⟨lw_r1, List.forall_mem_append.mpr ⟨lw_r2, List.forall_mem_append.mpr ⟨lw_r3, List.forall_mem_append.mpr ⟨lw_r4, List.forall_mem_append.mpr ⟨lw_r5, List.forall_mem_append.mpr ⟨lw_r6, List.forall_mem_append.mpr ⟨lw_r7, lw_r8⟩⟩⟩⟩⟩⟩⟩
-- ===== end of PART A; then your names; then what follows =====
end
section
/-! names: classes, fields, methods; the words of the tables by their places -/
def RX0 : String := "LostBeforeSung$Isle"
def TX0 : u_T := fun k => match k with
  | 0 => ("LostBeforeSung$Isle", "people", "I", false)
  | 1 => ("LostBeforeSung$Isle", "songs", "I", false)
  | 2 => ("LostBeforeSung$Isle", "work", "I", false)
  | 3 => ("LostBeforeSung$Isle", "year", "I", false)
  | 4 => ("LostBeforeSung$Isle", "seed", "I", false)
  | 5 => ("LostBeforeSung$Isle", "hums", "I", false)
  | 6 => ("LostBeforeSung$Isle", "kind", "[I", true)
  | 7 => ("LostBeforeSung$Isle", "a", "[I", true)
  | 8 => ("LostBeforeSung$Isle", "memory", "[I", true)
  | 9 => ("LostBeforeSung$Isle", "grief", "[I", true)
  | 10 => ("LostBeforeSung$Isle", "beside", "[I", true)
  | 11 => ("LostBeforeSung$Isle", "hard", "[I", true)
  | 12 => ("LostBeforeSung$Isle", "sound", "[I", true)
  | 13 => ("LostBeforeSung$Isle", "state", "[I", true)
  | 14 => ("LostBeforeSung$Isle", "tune", "[I", true)
  | _ => ("LostBeforeSung$Isle", "held", "[I", true)
def tyX0 : Nat → FieldType := fun k => match k with
  | 0 => .int
  | 1 => .int
  | 2 => .int
  | 3 => .int
  | 4 => .int
  | 5 => .int
  | 6 => .array .int
  | 7 => .array .int
  | 8 => .array .int
  | 9 => .array .int
  | 10 => .array .int
  | 11 => .array .int
  | 12 => .array .int
  | 13 => .array .int
  | 14 => .array .int
  | _ => .array .int
theorem nmX0 : ∀ a, a < 16 → ∀ b, b < 16 → a ≠ b → (TX0 a).2.1 ≠ (TX0 b).2.1 := by decide +kernel
theorem tyX0_ok : ∀ k, k < 16 → parseFieldDescriptor (TX0 k).2.2.1 = some (tyX0 k) := by decide +kernel
def RX1 : String := "LostBeforeSung$Outlook"
def TX1 : u_T := fun k => match k with
  | 0 => ("LostBeforeSung$Outlook", "then", "LLostBeforeSung$Isle;", true)
  | _ => ("LostBeforeSung$Outlook", "losses", "[I", true)
def tyX1 : Nat → FieldType := fun k => match k with
  | 0 => .object "LostBeforeSung$Isle"
  | _ => .array .int
theorem nmX1 : ∀ a, a < 2 → ∀ b, b < 2 → a ≠ b → (TX1 a).2.1 ≠ (TX1 b).2.1 := by decide +kernel
theorem tyX1_ok : ∀ k, k < 2 → parseFieldDescriptor (TX1 k).2.2.1 = some (tyX1 k) := by decide +kernel
def RX2 : String := "LostBeforeSung$Reader"
def TX2 : u_T := fun k => match k with
  | 0 => ("LostBeforeSung$Reader", "tape", "[I", true)
  | 1 => ("LostBeforeSung$Reader", "given", "[I", true)
  | 2 => ("LostBeforeSung$Reader", "size", "I", false)
  | 3 => ("LostBeforeSung$Reader", "token", "I", false)
  | 4 => ("LostBeforeSung$Reader", "number", "I", false)
  | 5 => ("LostBeforeSung$Reader", "start", "I", false)
  | _ => ("LostBeforeSung$Reader", "end", "I", false)
def tyX2 : Nat → FieldType := fun k => match k with
  | 0 => .array .int
  | 1 => .array .int
  | 2 => .int
  | 3 => .int
  | 4 => .int
  | 5 => .int
  | _ => .int
theorem nmX2 : ∀ a, a < 7 → ∀ b, b < 7 → a ≠ b → (TX2 a).2.1 ≠ (TX2 b).2.1 := by decide +kernel
theorem tyX2_ok : ∀ k, k < 7 → parseFieldDescriptor (TX2 k).2.2.1 = some (tyX2 k) := by decide +kernel
def RX3 : String := "LostBeforeSung$Shelf"
def TX3 : u_T := fun k => match k with
  | 0 => ("LostBeforeSung$Shelf", "content", "I", false)
  | 1 => ("LostBeforeSung$Shelf", "size", "I", false)
  | _ => ("LostBeforeSung$Shelf", "elements", "[J", true)
def tyX3 : Nat → FieldType := fun k => match k with
  | 0 => .int
  | 1 => .int
  | _ => .array .long
theorem nmX3 : ∀ a, a < 3 → ∀ b, b < 3 → a ≠ b → (TX3 a).2.1 ≠ (TX3 b).2.1 := by decide +kernel
theorem tyX3_ok : ∀ k, k < 3 → parseFieldDescriptor (TX3 k).2.2.1 = some (tyX3 k) := by decide +kernel
def RX4 : String := "LostBeforeSung$Tunes"
def TX4 : u_T := fun k => match k with
  | 0 => ("LostBeforeSung$Tunes", "heard", "[I", true)
  | 1 => ("LostBeforeSung$Tunes", "costs", "[I", true)
  | _ => ("LostBeforeSung$Tunes", "heardSize", "I", false)
def tyX4 : Nat → FieldType := fun k => match k with
  | 0 => .array .int
  | 1 => .array .int
  | _ => .int
theorem nmX4 : ∀ a, a < 3 → ∀ b, b < 3 → a ≠ b → (TX4 a).2.1 ≠ (TX4 b).2.1 := by decide +kernel
theorem tyX4_ok : ∀ k, k < 3 → parseFieldDescriptor (TX4 k).2.2.1 = some (tyX4 k) := by decide +kernel
def RX5 : String := "LostBeforeSung"
def TX5 : u_T := fun k => match k with
  | 0 => ("LostBeforeSung", "now", "LLostBeforeSung$Isle;", true)
  | 1 => ("LostBeforeSung", "kept", "LLostBeforeSung$Isle;", true)
  | 2 => ("LostBeforeSung", "draft", "LLostBeforeSung$Isle;", true)
  | 3 => ("LostBeforeSung", "outlook", "LLostBeforeSung$Outlook;", true)
  | 4 => ("LostBeforeSung", "tunes", "LLostBeforeSung$Tunes;", true)
  | 5 => ("LostBeforeSung", "reader", "LLostBeforeSung$Reader;", true)
  | 6 => ("LostBeforeSung", "shelves", "[LLostBeforeSung$Shelf;", true)
  | 7 => ("LostBeforeSung", "refusals", "[I", true)
  | _ => ("LostBeforeSung", "hasKept", "Z", false)
def tyX5 : Nat → FieldType := fun k => match k with
  | 0 => .object "LostBeforeSung$Isle"
  | 1 => .object "LostBeforeSung$Isle"
  | 2 => .object "LostBeforeSung$Isle"
  | 3 => .object "LostBeforeSung$Outlook"
  | 4 => .object "LostBeforeSung$Tunes"
  | 5 => .object "LostBeforeSung$Reader"
  | 6 => .array (.object "LostBeforeSung$Shelf")
  | 7 => .array .int
  | _ => .boolean
theorem nmX5 : ∀ a, a < 9 → ∀ b, b < 9 → a ≠ b → (TX5 a).2.1 ≠ (TX5 b).2.1 := by decide +kernel
theorem tyX5_ok : ∀ k, k < 9 → parseFieldDescriptor (TX5 k).2.2.1 = some (tyX5 k) := by decide +kernel
def RX6 : String := "LostBeforeSungModel"
def TX6 : u_T := fun k => match k with
  | 0 => ("LostBeforeSungModel", "shelf", "[I", true)
  | 1 => ("LostBeforeSungModel", "rowSort", "[I", true)
  | 2 => ("LostBeforeSungModel", "rowSize", "[I", true)
  | 3 => ("LostBeforeSungModel", "rows", "[[J", true)
  | 4 => ("LostBeforeSungModel", "moved", "[J", true)
  | 5 => ("LostBeforeSungModel", "shown", "[I", true)
  | 6 => ("LostBeforeSungModel", "tape", "[I", true)
  | 7 => ("LostBeforeSungModel", "tapeSize", "I", false)
  | 8 => ("LostBeforeSungModel", "refused", "[I", true)
  | 9 => ("LostBeforeSungModel", "work", "I", false)
  | 10 => ("LostBeforeSungModel", "year", "I", false)
  | 11 => ("LostBeforeSungModel", "people", "I", false)
  | 12 => ("LostBeforeSungModel", "songs", "I", false)
  | 13 => ("LostBeforeSungModel", "hums", "I", false)
  | 14 => ("LostBeforeSungModel", "kind", "[I", true)
  | 15 => ("LostBeforeSungModel", "by", "[I", true)
  | 16 => ("LostBeforeSungModel", "memory", "[I", true)
  | 17 => ("LostBeforeSungModel", "grief", "[I", true)
  | 18 => ("LostBeforeSungModel", "beside", "[I", true)
  | 19 => ("LostBeforeSungModel", "hard", "[I", true)
  | 20 => ("LostBeforeSungModel", "sound", "[I", true)
  | 21 => ("LostBeforeSungModel", "state", "[I", true)
  | 22 => ("LostBeforeSungModel", "tune", "[I", true)
  | 23 => ("LostBeforeSungModel", "has", "[I", true)
  | 24 => ("LostBeforeSungModel", "seed", "I", false)
  | 25 => ("LostBeforeSungModel", "kept", "LLostBeforeSungModel;", false)
  | 26 => ("LostBeforeSungModel", "tried", "LLostBeforeSungModel;", false)
  | 27 => ("LostBeforeSungModel", "then", "LLostBeforeSungModel;", false)
  | 28 => ("LostBeforeSungModel", "at", "I", false)
  | 29 => ("LostBeforeSungModel", "token", "I", false)
  | 30 => ("LostBeforeSungModel", "from", "I", false)
  | 31 => ("LostBeforeSungModel", "figures", "I", false)
  | 32 => ("LostBeforeSungModel", "fault", "I", false)
  | 33 => ("LostBeforeSungModel", "told", "[I", true)
  | 34 => ("LostBeforeSungModel", "statements", "I", false)
  | 35 => ("LostBeforeSungModel", "sets", "[I", true)
  | 36 => ("LostBeforeSungModel", "hadIt", "I", false)
  | 37 => ("LostBeforeSungModel", "losses", "[I", true)
  | 38 => ("LostBeforeSungModel", "notes", "[I", true)
  | 39 => ("LostBeforeSungModel", "ahead", "[I", true)
  | _ => ("LostBeforeSungModel", "here", "[I", true)
def tyX6 : Nat → FieldType := fun k => match k with
  | 0 => .array .int
  | 1 => .array .int
  | 2 => .array .int
  | 3 => .array (.array .long)
  | 4 => .array .long
  | 5 => .array .int
  | 6 => .array .int
  | 7 => .int
  | 8 => .array .int
  | 9 => .int
  | 10 => .int
  | 11 => .int
  | 12 => .int
  | 13 => .int
  | 14 => .array .int
  | 15 => .array .int
  | 16 => .array .int
  | 17 => .array .int
  | 18 => .array .int
  | 19 => .array .int
  | 20 => .array .int
  | 21 => .array .int
  | 22 => .array .int
  | 23 => .array .int
  | 24 => .int
  | 25 => .object "LostBeforeSungModel"
  | 26 => .object "LostBeforeSungModel"
  | 27 => .object "LostBeforeSungModel"
  | 28 => .int
  | 29 => .int
  | 30 => .int
  | 31 => .int
  | 32 => .int
  | 33 => .array .int
  | 34 => .int
  | 35 => .array .int
  | 36 => .int
  | 37 => .array .int
  | 38 => .array .int
  | 39 => .array .int
  | _ => .array .int
theorem nmX6 : ∀ a, a < 41 → ∀ b, b < 41 → a ≠ b → (TX6 a).2.1 ≠ (TX6 b).2.1 := by decide +kernel
theorem tyX6_ok : ∀ k, k < 41 → parseFieldDescriptor (TX6 k).2.2.1 = some (tyX6 k) := by decide +kernel
def RL : String := "LostBeforeSungLaw"
def RJ6 : String := "java/lang/Integer"
def RJ9 : String := "java/lang/Math"
def RJ0 : String := "java/lang/String"
def RJ1 : String := "java/lang/StringLatin1"
def RJ2 : String := "java/lang/StringUTF16"
def RJ10 : String := "java/lang/System"
def RJ3 : String := "jdk/internal/util/Preconditions"
abbrev vwCl : List vw_C := [(RX0, TX0, 16), (RX1, TX1, 2), (RX2, TX2, 7), (RX3, TX3, 3), (RX4, TX4, 3), (RX5, TX5, 9), (RX6, TX6, 41)]
abbrev cX0_init : ByteArray := prog_2_method_1_code
def yX0_init : MethodName := ⟨RX0, "<init>", "()V"⟩
abbrev cX0_become : ByteArray := prog_2_method_2_code
def yX0_become : MethodName := ⟨RX0, "become", "(LLostBeforeSung$Isle;)V"⟩
abbrev cX0_addPerson : ByteArray := prog_2_method_3_code
def yX0_addPerson : MethodName := ⟨RX0, "addPerson", "(IIII)I"⟩
abbrev cX0_addSong : ByteArray := prog_2_method_4_code
def yX0_addSong : MethodName := ⟨RX0, "addSong", "(II)I"⟩
abbrev cX0_heldFor : ByteArray := prog_2_method_5_code
def yX0_heldFor : MethodName := ⟨RX0, "heldFor", "(II)I"⟩
abbrev cX0_setHeld : ByteArray := prog_2_method_6_code
def yX0_setHeld : MethodName := ⟨RX0, "setHeld", "(III)V"⟩
abbrev cX0_setHums : ByteArray := prog_2_method_7_code
def yX0_setHums : MethodName := ⟨RX0, "setHums", "(IZ)V"⟩
abbrev cX0_setBeside : ByteArray := prog_2_method_8_code
def yX0_setBeside : MethodName := ⟨RX0, "setBeside", "(IIZ)V"⟩
abbrev cX0_leaveTable : ByteArray := prog_2_method_9_code
def yX0_leaveTable : MethodName := ⟨RX0, "leaveTable", "(I)V"⟩
abbrev cX0_withBit : ByteArray := prog_2_method_10_code
def yX0_withBit : MethodName := ⟨RX0, "withBit", "(IIZ)I"⟩
abbrev cX0_isOfKind : ByteArray := prog_2_method_11_code
def yX0_isOfKind : MethodName := ⟨RX0, "isOfKind", "(II)Z"⟩
abbrev cX0_holdOn : ByteArray := prog_2_method_12_code
def yX0_holdOn : MethodName := ⟨RX0, "holdOn", "(II)I"⟩
abbrev cX0_havers : ByteArray := prog_2_method_13_code
def yX0_havers : MethodName := ⟨RX0, "havers", "(I)I"⟩
abbrev cX0_repertoire : ByteArray := prog_2_method_14_code
def yX0_repertoire : MethodName := ⟨RX0, "repertoire", "(I)I"⟩
abbrev cX0_knownSongs : ByteArray := prog_2_method_15_code
def yX0_knownSongs : MethodName := ⟨RX0, "knownSongs", "()I"⟩
abbrev cX0_songsOfState : ByteArray := prog_2_method_16_code
def yX0_songsOfState : MethodName := ⟨RX0, "songsOfState", "(I)I"⟩
abbrev cX0_peopleWithNone : ByteArray := prog_2_method_17_code
def yX0_peopleWithNone : MethodName := ⟨RX0, "peopleWithNone", "()I"⟩
abbrev cX0_peopleWithAll : ByteArray := prog_2_method_18_code
def yX0_peopleWithAll : MethodName := ⟨RX0, "peopleWithAll", "(I)I"⟩
abbrev cX0_mostHeld : ByteArray := prog_2_method_19_code
def yX0_mostHeld : MethodName := ⟨RX0, "mostHeld", "()I"⟩
abbrev cX0_leastHeld : ByteArray := prog_2_method_20_code
def yX0_leastHeld : MethodName := ⟨RX0, "leastHeld", "()I"⟩
abbrev cX0_tableOf : ByteArray := prog_2_method_21_code
def yX0_tableOf : MethodName := ⟨RX0, "tableOf", "(I)I"⟩
abbrev cX0_weakestOn : ByteArray := prog_2_method_22_code
def yX0_weakestOn : MethodName := ⟨RX0, "weakestOn", "(I)I"⟩
abbrev cX0_countKind : ByteArray := prog_2_method_23_code
def yX0_countKind : MethodName := ⟨RX0, "countKind", "(I)I"⟩
abbrev cX0_bestMemory : ByteArray := prog_2_method_24_code
def yX0_bestMemory : MethodName := ⟨RX0, "bestMemory", "()I"⟩
abbrev cX0_passYear : ByteArray := prog_2_method_25_code
def yX0_passYear : MethodName := ⟨RX0, "passYear", "()I"⟩
abbrev cX0_passYearOf : ByteArray := prog_2_method_26_code
def yX0_passYearOf : MethodName := ⟨RX0, "passYearOf", "(I)V"⟩
abbrev cX0_countYear : ByteArray := prog_2_method_27_code
def yX0_countYear : MethodName := ⟨RX0, "countYear", "()V"⟩
abbrev cX0_passSong : ByteArray := prog_2_method_28_code
def yX0_passSong : MethodName := ⟨RX0, "passSong", "(I)Z"⟩
abbrev cX0_forget : ByteArray := prog_2_method_29_code
def yX0_forget : MethodName := ⟨RX0, "forget", "(I)V"⟩
abbrev cX0_pickUp : ByteArray := prog_2_method_30_code
def yX0_pickUp : MethodName := ⟨RX0, "pickUp", "(I)V"⟩
abbrev cX0_callUp : ByteArray := prog_2_method_31_code
def yX0_callUp : MethodName := ⟨RX0, "callUp", "(I)Z"⟩
abbrev cX0_passDrawnYear : ByteArray := prog_2_method_32_code
def yX0_passDrawnYear : MethodName := ⟨RX0, "passDrawnYear", "()I"⟩
abbrev cX0_draw : ByteArray := prog_2_method_33_code
def yX0_draw : MethodName := ⟨RX0, "draw", "(I)I"⟩
abbrev cX1_init : ByteArray := prog_3_method_1_code
def yX1_init : MethodName := ⟨RX1, "<init>", "()V"⟩
abbrev cX1_after : ByteArray := prog_3_method_2_code
def yX1_after : MethodName := ⟨RX1, "after", "(LLostBeforeSung$Isle;I)LLostBeforeSung$Isle;"⟩
abbrev cX1_lossIn : ByteArray := prog_3_method_3_code
def yX1_lossIn : MethodName := ⟨RX1, "lossIn", "(LLostBeforeSung$Isle;I)I"⟩
abbrev cX1_lossFromThen : ByteArray := prog_3_method_4_code
def yX1_lossFromThen : MethodName := ⟨RX1, "lossFromThen", "(II)I"⟩
abbrev cX1_findIn : ByteArray := prog_3_method_5_code
def yX1_findIn : MethodName := ⟨RX1, "findIn", "(LLostBeforeSung$Isle;I)I"⟩
abbrev cX1_forgetIn : ByteArray := prog_3_method_6_code
def yX1_forgetIn : MethodName := ⟨RX1, "forgetIn", "(LLostBeforeSung$Isle;II)I"⟩
abbrev cX1_lastHavers : ByteArray := prog_3_method_7_code
def yX1_lastHavers : MethodName := ⟨RX1, "lastHavers", "(LLostBeforeSung$Isle;I)I"⟩
abbrev cX1_neededAtTable : ByteArray := prog_3_method_8_code
def yX1_neededAtTable : MethodName := ⟨RX1, "neededAtTable", "(LLostBeforeSung$Isle;I)I"⟩
abbrev cX1_leastWork : ByteArray := prog_3_method_9_code
def yX1_leastWork : MethodName := ⟨RX1, "leastWork", "(LLostBeforeSung$Isle;II)I"⟩
abbrev cX1_worstPupils : ByteArray := prog_3_method_10_code
def yX1_worstPupils : MethodName := ⟨RX1, "worstPupils", "(LLostBeforeSung$Isle;II)I"⟩
abbrev cX1_teachThen : ByteArray := prog_3_method_11_code
def yX1_teachThen : MethodName := ⟨RX1, "teachThen", "(II)V"⟩
abbrev cX1_bestHummer : ByteArray := prog_3_method_12_code
def yX1_bestHummer : MethodName := ⟨RX1, "bestHummer", "(LLostBeforeSung$Isle;I)I"⟩
abbrev cX1_nextLost : ByteArray := prog_3_method_13_code
def yX1_nextLost : MethodName := ⟨RX1, "nextLost", "(LLostBeforeSung$Isle;)I"⟩
abbrev cX1_inOrder : ByteArray := prog_3_method_14_code
def yX1_inOrder : MethodName := ⟨RX1, "inOrder", "(LLostBeforeSung$Isle;I)I"⟩
abbrev cX1_placeOf : ByteArray := prog_3_method_15_code
def yX1_placeOf : MethodName := ⟨RX1, "placeOf", "(LLostBeforeSung$Isle;I)I"⟩
abbrev cX1_memoriesBy : ByteArray := prog_3_method_16_code
def yX1_memoriesBy : MethodName := ⟨RX1, "memoriesBy", "(LLostBeforeSung$Isle;LLostBeforeSung$Shelf;II)I"⟩
abbrev cX1_kindsBy : ByteArray := prog_3_method_17_code
def yX1_kindsBy : MethodName := ⟨RX1, "kindsBy", "(LLostBeforeSung$Isle;LLostBeforeSung$Shelf;II)I"⟩
abbrev cX1_comesAsTold : ByteArray := prog_3_method_18_code
def yX1_comesAsTold : MethodName := ⟨RX1, "comesAsTold", "(LLostBeforeSung$Shelf;II)Z"⟩
abbrev cX1_leastGrief : ByteArray := prog_3_method_19_code
def yX1_leastGrief : MethodName := ⟨RX1, "leastGrief", "(LLostBeforeSung$Isle;III)I"⟩
abbrev cX1_losesWithin : ByteArray := prog_3_method_20_code
def yX1_losesWithin : MethodName := ⟨RX1, "losesWithin", "(III)Z"⟩
abbrev cX1_firstWrong : ByteArray := prog_3_method_21_code
def yX1_firstWrong : MethodName := ⟨RX1, "firstWrong", "(LLostBeforeSung$Isle;LLostBeforeSung$Shelf;I)I"⟩
abbrev cX2_init : ByteArray := prog_4_method_1_code
def yX2_init : MethodName := ⟨RX2, "<init>", "()V"⟩
abbrev cX2_append : ByteArray := prog_4_method_2_code
def yX2_append : MethodName := ⟨RX2, "append", "(I)I"⟩
abbrev cX2_read : ByteArray := prog_4_method_3_code
def yX2_read : MethodName := ⟨RX2, "read", "(LLostBeforeSung$Isle;)I"⟩
abbrev cX2_readStatement : ByteArray := prog_4_method_4_code
def yX2_readStatement : MethodName := ⟨RX2, "readStatement", "(LLostBeforeSung$Isle;)Z"⟩
abbrev cX2_advance : ByteArray := prog_4_method_5_code
def yX2_advance : MethodName := ⟨RX2, "advance", "()V"⟩
abbrev cX2_readNumber : ByteArray := prog_4_method_6_code
def yX2_readNumber : MethodName := ⟨RX2, "readNumber", "()V"⟩
abbrev cX2_isLetter : ByteArray := prog_4_method_7_code
def yX2_isLetter : MethodName := ⟨RX2, "isLetter", "(I)Z"⟩
abbrev cX2_isDigit : ByteArray := prog_4_method_8_code
def yX2_isDigit : MethodName := ⟨RX2, "isDigit", "(I)Z"⟩
abbrev cX2_formOfWord : ByteArray := prog_4_method_9_code
def yX2_formOfWord : MethodName := ⟨RX2, "formOfWord", "()I"⟩
abbrev cX2_spells : ByteArray := prog_4_method_10_code
def yX2_spells : MethodName := ⟨RX2, "spells", "(Ljava/lang/String;)Z"⟩
abbrev cX2_wordOf : ByteArray := prog_4_method_11_code
def yX2_wordOf : MethodName := ⟨RX2, "wordOf", "(I)Ljava/lang/String;"⟩
abbrev cX2_hasRoom : ByteArray := prog_4_method_12_code
def yX2_hasRoom : MethodName := ⟨RX2, "hasRoom", "(LLostBeforeSung$Isle;I)Z"⟩
abbrev cX2_numbersOf : ByteArray := prog_4_method_13_code
def yX2_numbersOf : MethodName := ⟨RX2, "numbersOf", "(I)I"⟩
abbrev cX2_limitOf : ByteArray := prog_4_method_14_code
def yX2_limitOf : MethodName := ⟨RX2, "limitOf", "(LLostBeforeSung$Isle;II)I"⟩
abbrev cX2_apply : ByteArray := prog_4_method_15_code
def yX2_apply : MethodName := ⟨RX2, "apply", "(LLostBeforeSung$Isle;I)V"⟩
abbrev cX3_init : ByteArray := prog_5_method_1_code
def yX3_init : MethodName := ⟨RX3, "<init>", "()V"⟩
abbrev cX3_becomeRow : ByteArray := prog_5_method_2_code
def yX3_becomeRow : MethodName := ⟨RX3, "becomeRow", "(II)V"⟩
abbrev cX3_hasPerson : ByteArray := prog_5_method_3_code
def yX3_hasPerson : MethodName := ⟨RX3, "hasPerson", "()Z"⟩
abbrev cX3_refusalAsRow : ByteArray := prog_5_method_4_code
def yX3_refusalAsRow : MethodName := ⟨RX3, "refusalAsRow", "()I"⟩
abbrev cX3_refusalAsTold : ByteArray := prog_5_method_5_code
def yX3_refusalAsTold : MethodName := ⟨RX3, "refusalAsTold", "(I)I"⟩
abbrev cX3_lacks : ByteArray := prog_5_method_6_code
def yX3_lacks : MethodName := ⟨RX3, "lacks", "(II)Z"⟩
abbrev cX3_put : ByteArray := prog_5_method_7_code
def yX3_put : MethodName := ⟨RX3, "put", "(IJ)V"⟩
abbrev cX4_init : ByteArray := prog_6_method_1_code
def yX4_init : MethodName := ⟨RX4, "<init>", "()V"⟩
abbrev cX4_listenToSong : ByteArray := prog_6_method_2_code
def yX4_listenToSong : MethodName := ⟨RX4, "listenToSong", "(LLostBeforeSung$Isle;I)V"⟩
abbrev cX4_listenToRow : ByteArray := prog_6_method_3_code
def yX4_listenToRow : MethodName := ⟨RX4, "listenToRow", "(LLostBeforeSung$Shelf;I)Z"⟩
abbrev cX4_changesTo : ByteArray := prog_6_method_4_code
def yX4_changesTo : MethodName := ⟨RX4, "changesTo", "(LLostBeforeSung$Isle;I)I"⟩
abbrev cX4_nearestSong : ByteArray := prog_6_method_5_code
def yX4_nearestSong : MethodName := ⟨RX4, "nearestSong", "(LLostBeforeSung$Isle;)I"⟩
abbrev cX4_joined : ByteArray := prog_6_method_6_code
def yX4_joined : MethodName := ⟨RX4, "joined", "(LLostBeforeSung$Isle;II)I"⟩
abbrev cX4_endBegins : ByteArray := prog_6_method_7_code
def yX4_endBegins : MethodName := ⟨RX4, "endBegins", "(LLostBeforeSung$Isle;III)Z"⟩
abbrev cX4_alike : ByteArray := prog_6_method_8_code
def yX4_alike : MethodName := ⟨RX4, "alike", "(LLostBeforeSung$Isle;II)I"⟩
abbrev cX4_asDigits : ByteArray := prog_6_method_9_code
def yX4_asDigits : MethodName := ⟨RX4, "asDigits", "(LLostBeforeSung$Isle;I)I"⟩
abbrev cX5_init : ByteArray := prog_1_method_1_code
def yX5_init : MethodName := ⟨RX5, "<init>", "()V"⟩
abbrev cX5_row : ByteArray := prog_1_method_2_code
def yX5_row : MethodName := ⟨RX5, "row", "(III)I"⟩
abbrev cX5_set : ByteArray := prog_1_method_3_code
def yX5_set : MethodName := ⟨RX5, "set", "(IIJ)I"⟩
abbrev cX5_copy : ByteArray := prog_1_method_4_code
def yX5_copy : MethodName := ⟨RX5, "copy", "(IIIII)I"⟩
abbrev cX5_element : ByteArray := prog_1_method_5_code
def yX5_element : MethodName := ⟨RX5, "element", "(II)J"⟩
abbrev cX5_holds : ByteArray := prog_1_method_6_code
def yX5_holds : MethodName := ⟨RX5, "holds", "(I)I"⟩
abbrev cX5_show : ByteArray := prog_1_method_7_code
def yX5_show : MethodName := ⟨RX5, "show", "(II)I"⟩
abbrev cX5_says : ByteArray := prog_1_method_8_code
def yX5_says : MethodName := ⟨RX5, "says", "(II)I"⟩
abbrev cX5_person : ByteArray := prog_1_method_9_code
def yX5_person : MethodName := ⟨RX5, "person", "(IIII)I"⟩
abbrev cX5_song : ByteArray := prog_1_method_10_code
def yX5_song : MethodName := ⟨RX5, "song", "(II)I"⟩
abbrev cX5_give : ByteArray := prog_1_method_11_code
def yX5_give : MethodName := ⟨RX5, "give", "(III)I"⟩
abbrev cX5_mark : ByteArray := prog_1_method_12_code
def yX5_mark : MethodName := ⟨RX5, "mark", "(III)I"⟩
abbrev cX5_note : ByteArray := prog_1_method_13_code
def yX5_note : MethodName := ⟨RX5, "note", "(III)I"⟩
abbrev cX5_knows : ByteArray := prog_1_method_14_code
def yX5_knows : MethodName := ⟨RX5, "knows", "(III)I"⟩
abbrev cX5_seat : ByteArray := prog_1_method_15_code
def yX5_seat : MethodName := ⟨RX5, "seat", "(III)I"⟩
abbrev cX5_tell : ByteArray := prog_1_method_16_code
def yX5_tell : MethodName := ⟨RX5, "tell", "(II)I"⟩
abbrev cX5_feed : ByteArray := prog_1_method_17_code
def yX5_feed : MethodName := ⟨RX5, "feed", "(I)I"⟩
abbrev cX5_wipe : ByteArray := prog_1_method_18_code
def yX5_wipe : MethodName := ⟨RX5, "wipe", "()I"⟩
abbrev cX5_isle : ByteArray := prog_1_method_19_code
def yX5_isle : MethodName := ⟨RX5, "isle", "()I"⟩
abbrev cX5_personOf : ByteArray := prog_1_method_20_code
def yX5_personOf : MethodName := ⟨RX5, "personOf", "(II)I"⟩
abbrev cX5_songOf : ByteArray := prog_1_method_21_code
def yX5_songOf : MethodName := ⟨RX5, "songOf", "(II)I"⟩
abbrev cX5_years : ByteArray := prog_1_method_22_code
def yX5_years : MethodName := ⟨RX5, "years", "(II)I"⟩
abbrev cX5_hold : ByteArray := prog_1_method_23_code
def yX5_hold : MethodName := ⟨RX5, "hold", "(II)I"⟩
abbrev cX5_finder : ByteArray := prog_1_method_24_code
def yX5_finder : MethodName := ⟨RX5, "finder", "()I"⟩
abbrev cX5_songs : ByteArray := prog_1_method_25_code
def yX5_songs : MethodName := ⟨RX5, "songs", "(I)I"⟩
abbrev cX5_people : ByteArray := prog_1_method_26_code
def yX5_people : MethodName := ⟨RX5, "people", "(I)I"⟩
abbrev cX5_both : ByteArray := prog_1_method_27_code
def yX5_both : MethodName := ⟨RX5, "both", "(II)I"⟩
abbrev cX5_most : ByteArray := prog_1_method_28_code
def yX5_most : MethodName := ⟨RX5, "most", "(I)I"⟩
abbrev cX5_table : ByteArray := prog_1_method_29_code
def yX5_table : MethodName := ⟨RX5, "table", "(I)I"⟩
abbrev cX5_weakest : ByteArray := prog_1_method_30_code
def yX5_weakest : MethodName := ⟨RX5, "weakest", "(I)I"⟩
abbrev cX5_ofKind : ByteArray := prog_1_method_31_code
def yX5_ofKind : MethodName := ⟨RX5, "ofKind", "(I)I"⟩
abbrev cX5_behind : ByteArray := prog_1_method_32_code
def yX5_behind : MethodName := ⟨RX5, "behind", "(III)I"⟩
abbrev cX5_lostIn : ByteArray := prog_1_method_33_code
def yX5_lostIn : MethodName := ⟨RX5, "lostIn", "(I)I"⟩
abbrev cX5_sungIn : ByteArray := prog_1_method_34_code
def yX5_sungIn : MethodName := ⟨RX5, "sungIn", "(I)I"⟩
abbrev cX5_last : ByteArray := prog_1_method_35_code
def yX5_last : MethodName := ⟨RX5, "last", "(I)I"⟩
abbrev cX5_keep : ByteArray := prog_1_method_36_code
def yX5_keep : MethodName := ⟨RX5, "keep", "(I)I"⟩
abbrev cX5_workFor : ByteArray := prog_1_method_37_code
def yX5_workFor : MethodName := ⟨RX5, "workFor", "(II)I"⟩
abbrev cX5_teach : ByteArray := prog_1_method_38_code
def yX5_teach : MethodName := ⟨RX5, "teach", "(II)I"⟩
abbrev cX5_hummer : ByteArray := prog_1_method_39_code
def yX5_hummer : MethodName := ⟨RX5, "hummer", "(I)I"⟩
abbrev cX5_next : ByteArray := prog_1_method_40_code
def yX5_next : MethodName := ⟨RX5, "next", "()I"⟩
abbrev cX5_order : ByteArray := prog_1_method_41_code
def yX5_order : MethodName := ⟨RX5, "order", "(I)I"⟩
abbrev cX5_fits : ByteArray := prog_1_method_42_code
def yX5_fits : MethodName := ⟨RX5, "fits", "(IIII)I"⟩
abbrev cX5_griefs : ByteArray := prog_1_method_43_code
def yX5_griefs : MethodName := ⟨RX5, "griefs", "(III)I"⟩
abbrev cX5_forgets : ByteArray := prog_1_method_44_code
def yX5_forgets : MethodName := ⟨RX5, "forgets", "(II)I"⟩
abbrev cX5_judge : ByteArray := prog_1_method_45_code
def yX5_judge : MethodName := ⟨RX5, "judge", "(II)I"⟩
abbrev cX5_changes : ByteArray := prog_1_method_46_code
def yX5_changes : MethodName := ⟨RX5, "changes", "(II)I"⟩
abbrev cX5_join : ByteArray := prog_1_method_47_code
def yX5_join : MethodName := ⟨RX5, "join", "(II)I"⟩
abbrev cX5_like : ByteArray := prog_1_method_48_code
def yX5_like : MethodName := ⟨RX5, "like", "(II)I"⟩
abbrev cX5_nearest : ByteArray := prog_1_method_49_code
def yX5_nearest : MethodName := ⟨RX5, "nearest", "(III)I"⟩
abbrev cX5_pass : ByteArray := prog_1_method_50_code
def yX5_pass : MethodName := ⟨RX5, "pass", "()I"⟩
abbrev cX5_taught : ByteArray := prog_1_method_51_code
def yX5_taught : MethodName := ⟨RX5, "taught", "(II)I"⟩
abbrev cX5_drawn : ByteArray := prog_1_method_52_code
def yX5_drawn : MethodName := ⟨RX5, "drawn", "(I)I"⟩
abbrev cX5_seed : ByteArray := prog_1_method_53_code
def yX5_seed : MethodName := ⟨RX5, "seed", "(I)I"⟩
abbrev cX5_image : ByteArray := prog_1_method_54_code
def yX5_image : MethodName := ⟨RX5, "image", "()I"⟩
abbrev cX5_back : ByteArray := prog_1_method_55_code
def yX5_back : MethodName := ⟨RX5, "back", "()I"⟩
abbrev cX5_status : ByteArray := prog_1_method_56_code
def yX5_status : MethodName := ⟨RX5, "status", "(I)I"⟩
abbrev cX5_outside : ByteArray := prog_1_method_57_code
def yX5_outside : MethodName := ⟨RX5, "outside", "(II)Z"⟩
abbrev cX5_noPerson : ByteArray := prog_1_method_58_code
def yX5_noPerson : MethodName := ⟨RX5, "noPerson", "(I)Z"⟩
abbrev cX5_noSong : ByteArray := prog_1_method_59_code
def yX5_noSong : MethodName := ⟨RX5, "noSong", "(I)Z"⟩
abbrev cX5_markLimit : ByteArray := prog_1_method_60_code
def yX5_markLimit : MethodName := ⟨RX5, "markLimit", "(I)I"⟩
abbrev cX5_noneIfNever : ByteArray := prog_1_method_61_code
def yX5_noneIfNever : MethodName := ⟨RX5, "noneIfNever", "(I)I"⟩
abbrev cX5_refuse : ByteArray := prog_1_method_62_code
def yX5_refuse : MethodName := ⟨RX5, "refuse", "(I)I"⟩
abbrev cX5_filledShelves : ByteArray := prog_1_method_63_code
def yX5_filledShelves : MethodName := ⟨RX5, "filledShelves", "()I"⟩
abbrev cX6_init : ByteArray := prog_8_method_1_code
def yX6_init : MethodName := ⟨RX6, "<init>", "()V"⟩
abbrev cX6_refuse : ByteArray := prog_8_method_2_code
def yX6_refuse : MethodName := ⟨RX6, "refuse", "(I)I"⟩
abbrev cX6_in : ByteArray := prog_8_method_3_code
def yX6_in : MethodName := ⟨RX6, "in", "(JJJ)Z"⟩
abbrev cX6_isPerson : ByteArray := prog_8_method_4_code
def yX6_isPerson : MethodName := ⟨RX6, "isPerson", "(I)Z"⟩
abbrev cX6_isSong : ByteArray := prog_8_method_5_code
def yX6_isSong : MethodName := ⟨RX6, "isSong", "(I)Z"⟩
abbrev cX6_knowsIt : ByteArray := prog_8_method_6_code
def yX6_knowsIt : MethodName := ⟨RX6, "knowsIt", "(II)Z"⟩
abbrev cX6_bits : ByteArray := prog_8_method_7_code
def yX6_bits : MethodName := ⟨RX6, "bits", "(I)I"⟩
abbrev cX6_row : ByteArray := prog_8_method_8_code
def yX6_row : MethodName := ⟨RX6, "row", "(III)I"⟩
abbrev cX6_fit : ByteArray := prog_8_method_9_code
def yX6_fit : MethodName := ⟨RX6, "fit", "(IJ)J"⟩
abbrev cX6_noRow : ByteArray := prog_8_method_10_code
def yX6_noRow : MethodName := ⟨RX6, "noRow", "(I)I"⟩
abbrev cX6_set : ByteArray := prog_8_method_11_code
def yX6_set : MethodName := ⟨RX6, "set", "(IIJ)I"⟩
abbrev cX6_copy : ByteArray := prog_8_method_12_code
def yX6_copy : MethodName := ⟨RX6, "copy", "(IIIII)I"⟩
abbrev cX6_element : ByteArray := prog_8_method_13_code
def yX6_element : MethodName := ⟨RX6, "element", "(II)J"⟩
abbrev cX6_holds : ByteArray := prog_8_method_14_code
def yX6_holds : MethodName := ⟨RX6, "holds", "(I)I"⟩
abbrev cX6_show : ByteArray := prog_8_method_15_code
def yX6_show : MethodName := ⟨RX6, "show", "(II)I"⟩
abbrev cX6_isUnder : ByteArray := prog_8_method_16_code
def yX6_isUnder : MethodName := ⟨RX6, "isUnder", "(II)Z"⟩
abbrev cX6_says : ByteArray := prog_8_method_17_code
def yX6_says : MethodName := ⟨RX6, "says", "(II)I"⟩
abbrev cX6_addPerson : ByteArray := prog_8_method_18_code
def yX6_addPerson : MethodName := ⟨RX6, "addPerson", "(IIII)V"⟩
abbrev cX6_person : ByteArray := prog_8_method_19_code
def yX6_person : MethodName := ⟨RX6, "person", "(IIII)I"⟩
abbrev cX6_addSong : ByteArray := prog_8_method_20_code
def yX6_addSong : MethodName := ⟨RX6, "addSong", "(II)V"⟩
abbrev cX6_song : ByteArray := prog_8_method_21_code
def yX6_song : MethodName := ⟨RX6, "song", "(II)I"⟩
abbrev cX6_give : ByteArray := prog_8_method_22_code
def yX6_give : MethodName := ⟨RX6, "give", "(III)I"⟩
abbrev cX6_mark : ByteArray := prog_8_method_23_code
def yX6_mark : MethodName := ⟨RX6, "mark", "(III)I"⟩
abbrev cX6_note : ByteArray := prog_8_method_24_code
def yX6_note : MethodName := ⟨RX6, "note", "(III)I"⟩
abbrev cX6_knows : ByteArray := prog_8_method_25_code
def yX6_knows : MethodName := ⟨RX6, "knows", "(III)I"⟩
abbrev cX6_seats : ByteArray := prog_8_method_26_code
def yX6_seats : MethodName := ⟨RX6, "seats", "(IIZ)V"⟩
abbrev cX6_seat : ByteArray := prog_8_method_27_code
def yX6_seat : MethodName := ⟨RX6, "seat", "(III)I"⟩
abbrev cX6_tell : ByteArray := prog_8_method_28_code
def yX6_tell : MethodName := ⟨RX6, "tell", "(II)I"⟩
abbrev cX6_feed : ByteArray := prog_8_method_29_code
def yX6_feed : MethodName := ⟨RX6, "feed", "(I)I"⟩
abbrev cX6_wipe : ByteArray := prog_8_method_30_code
def yX6_wipe : MethodName := ⟨RX6, "wipe", "()I"⟩
abbrev cX6_isLetter : ByteArray := prog_8_method_31_code
def yX6_isLetter : MethodName := ⟨RX6, "isLetter", "(I)Z"⟩
abbrev cX6_isDigit : ByteArray := prog_8_method_32_code
def yX6_isDigit : MethodName := ⟨RX6, "isDigit", "(I)Z"⟩
abbrev cX6_look : ByteArray := prog_8_method_33_code
def yX6_look : MethodName := ⟨RX6, "look", "()V"⟩
abbrev cX6_wrong : ByteArray := prog_8_method_34_code
def yX6_wrong : MethodName := ⟨RX6, "wrong", "()Z"⟩
abbrev cX6_isWord : ByteArray := prog_8_method_35_code
def yX6_isWord : MethodName := ⟨RX6, "isWord", "(Ljava/lang/String;)Z"⟩
abbrev cX6_number : ByteArray := prog_8_method_36_code
def yX6_number : MethodName := ⟨RX6, "number", "(III)Z"⟩
abbrev cX6_tells : ByteArray := prog_8_method_37_code
def yX6_tells : MethodName := ⟨RX6, "tells", "(II)Z"⟩
abbrev cX6_tellsNew : ByteArray := prog_8_method_38_code
def yX6_tellsNew : MethodName := ⟨RX6, "tellsNew", "(Z)Z"⟩
abbrev cX6_tellsHas : ByteArray := prog_8_method_39_code
def yX6_tellsHas : MethodName := ⟨RX6, "tellsHas", "(I)Z"⟩
abbrev cX6_tellsSeat : ByteArray := prog_8_method_40_code
def yX6_tellsSeat : MethodName := ⟨RX6, "tellsSeat", "(Z)Z"⟩
abbrev cX6_tellsHum : ByteArray := prog_8_method_41_code
def yX6_tellsHum : MethodName := ⟨RX6, "tellsHum", "(I)Z"⟩
abbrev cX6_statement : ByteArray := prog_8_method_42_code
def yX6_statement : MethodName := ⟨RX6, "statement", "()Z"⟩
abbrev cX6_readAll : ByteArray := prog_8_method_43_code
def yX6_readAll : MethodName := ⟨RX6, "readAll", "()Z"⟩
abbrev cX6_isle : ByteArray := prog_8_method_44_code
def yX6_isle : MethodName := ⟨RX6, "isle", "()I"⟩
abbrev cX6_held : ByteArray := prog_8_method_45_code
def yX6_held : MethodName := ⟨RX6, "held", "(I)I"⟩
abbrev cX6_holdBy : ByteArray := prog_8_method_46_code
def yX6_holdBy : MethodName := ⟨RX6, "holdBy", "(II)I"⟩
abbrev cX6_holdOf : ByteArray := prog_8_method_47_code
def yX6_holdOf : MethodName := ⟨RX6, "holdOf", "(II)I"⟩
abbrev cX6_songsOf : ByteArray := prog_8_method_48_code
def yX6_songsOf : MethodName := ⟨RX6, "songsOf", "(I)I"⟩
abbrev cX6_holdersOf : ByteArray := prog_8_method_49_code
def yX6_holdersOf : MethodName := ⟨RX6, "holdersOf", "(I)I"⟩
abbrev cX6_known : ByteArray := prog_8_method_50_code
def yX6_known : MethodName := ⟨RX6, "known", "()I"⟩
abbrev cX6_findsAll : ByteArray := prog_8_method_51_code
def yX6_findsAll : MethodName := ⟨RX6, "findsAll", "()I"⟩
abbrev cX6_forgetsAll : ByteArray := prog_8_method_52_code
def yX6_forgetsAll : MethodName := ⟨RX6, "forgetsAll", "()V"⟩
abbrev cX6_picksUp : ByteArray := prog_8_method_53_code
def yX6_picksUp : MethodName := ⟨RX6, "picksUp", "()V"⟩
abbrev cX6_passes : ByteArray := prog_8_method_54_code
def yX6_passes : MethodName := ⟨RX6, "passes", "()I"⟩
abbrev cX6_thought : ByteArray := prog_8_method_55_code
def yX6_thought : MethodName := ⟨RX6, "thought", "()LLostBeforeSungModel;"⟩
abbrev cX6_tuneOf : ByteArray := prog_8_method_56_code
def yX6_tuneOf : MethodName := ⟨RX6, "tuneOf", "(I)I"⟩
abbrev cX6_personOf : ByteArray := prog_8_method_57_code
def yX6_personOf : MethodName := ⟨RX6, "personOf", "(II)I"⟩
abbrev cX6_songOf : ByteArray := prog_8_method_58_code
def yX6_songOf : MethodName := ⟨RX6, "songOf", "(II)I"⟩
abbrev cX6_years : ByteArray := prog_8_method_59_code
def yX6_years : MethodName := ⟨RX6, "years", "(II)I"⟩
abbrev cX6_hold : ByteArray := prog_8_method_60_code
def yX6_hold : MethodName := ⟨RX6, "hold", "(II)I"⟩
abbrev cX6_finder : ByteArray := prog_8_method_61_code
def yX6_finder : MethodName := ⟨RX6, "finder", "()I"⟩
abbrev cX6_songs : ByteArray := prog_8_method_62_code
def yX6_songs : MethodName := ⟨RX6, "songs", "(I)I"⟩
abbrev cX6_people : ByteArray := prog_8_method_63_code
def yX6_people : MethodName := ⟨RX6, "people", "(I)I"⟩
abbrev cX6_both : ByteArray := prog_8_method_64_code
def yX6_both : MethodName := ⟨RX6, "both", "(II)I"⟩
abbrev cX6_most : ByteArray := prog_8_method_65_code
def yX6_most : MethodName := ⟨RX6, "most", "(I)I"⟩
abbrev cX6_table : ByteArray := prog_8_method_66_code
def yX6_table : MethodName := ⟨RX6, "table", "(I)I"⟩
abbrev cX6_weakest : ByteArray := prog_8_method_67_code
def yX6_weakest : MethodName := ⟨RX6, "weakest", "(I)I"⟩
abbrev cX6_ofKind : ByteArray := prog_8_method_68_code
def yX6_ofKind : MethodName := ⟨RX6, "ofKind", "(I)I"⟩
abbrev cX6_behind : ByteArray := prog_8_method_69_code
def yX6_behind : MethodName := ⟨RX6, "behind", "(III)I"⟩
abbrev cX6_runsOut : ByteArray := prog_8_method_70_code
def yX6_runsOut : MethodName := ⟨RX6, "runsOut", "(I)I"⟩
abbrev cX6_lostNow : ByteArray := prog_8_method_71_code
def yX6_lostNow : MethodName := ⟨RX6, "lostNow", "(I)I"⟩
abbrev cX6_never : ByteArray := prog_8_method_72_code
def yX6_never : MethodName := ⟨RX6, "never", "(I)I"⟩
abbrev cX6_lostIn : ByteArray := prog_8_method_73_code
def yX6_lostIn : MethodName := ⟨RX6, "lostIn", "(I)I"⟩
abbrev cX6_last : ByteArray := prog_8_method_74_code
def yX6_last : MethodName := ⟨RX6, "last", "(I)I"⟩
abbrev cX6_sungIn : ByteArray := prog_8_method_75_code
def yX6_sungIn : MethodName := ⟨RX6, "sungIn", "(I)I"⟩
abbrev cX6_forgets : ByteArray := prog_8_method_76_code
def yX6_forgets : MethodName := ⟨RX6, "forgets", "(II)I"⟩
abbrev cX6_keep : ByteArray := prog_8_method_77_code
def yX6_keep : MethodName := ⟨RX6, "keep", "(I)I"⟩
abbrev cX6_workFor : ByteArray := prog_8_method_78_code
def yX6_workFor : MethodName := ⟨RX6, "workFor", "(II)I"⟩
abbrev cX6_teach : ByteArray := prog_8_method_79_code
def yX6_teach : MethodName := ⟨RX6, "teach", "(II)I"⟩
abbrev cX6_hummer : ByteArray := prog_8_method_80_code
def yX6_hummer : MethodName := ⟨RX6, "hummer", "(I)I"⟩
abbrev cX6_next : ByteArray := prog_8_method_81_code
def yX6_next : MethodName := ⟨RX6, "next", "()I"⟩
abbrev cX6_order : ByteArray := prog_8_method_82_code
def yX6_order : MethodName := ⟨RX6, "order", "(I)I"⟩
abbrev cX6_placeOf : ByteArray := prog_8_method_83_code
def yX6_placeOf : MethodName := ⟨RX6, "placeOf", "(I)I"⟩
abbrev cX6_griefs : ByteArray := prog_8_method_84_code
def yX6_griefs : MethodName := ⟨RX6, "griefs", "(III)I"⟩
abbrev cX6_least : ByteArray := prog_8_method_85_code
def yX6_least : MethodName := ⟨RX6, "least", "(III)I"⟩
abbrev cX6_changesTo : ByteArray := prog_8_method_86_code
def yX6_changesTo : MethodName := ⟨RX6, "changesTo", "(II)I"⟩
abbrev cX6_takeNotes : ByteArray := prog_8_method_87_code
def yX6_takeNotes : MethodName := ⟨RX6, "takeNotes", "(I)V"⟩
abbrev cX6_changes : ByteArray := prog_8_method_88_code
def yX6_changes : MethodName := ⟨RX6, "changes", "(II)I"⟩
abbrev cX6_isEnd : ByteArray := prog_8_method_89_code
def yX6_isEnd : MethodName := ⟨RX6, "isEnd", "(III)Z"⟩
abbrev cX6_join : ByteArray := prog_8_method_90_code
def yX6_join : MethodName := ⟨RX6, "join", "(II)I"⟩
abbrev cX6_like : ByteArray := prog_8_method_91_code
def yX6_like : MethodName := ⟨RX6, "like", "(II)I"⟩
abbrev cX6_noTold : ByteArray := prog_8_method_92_code
def yX6_noTold : MethodName := ⟨RX6, "noTold", "(IIIZ)I"⟩
abbrev cX6_nearest : ByteArray := prog_8_method_93_code
def yX6_nearest : MethodName := ⟨RX6, "nearest", "(III)I"⟩
abbrev cX6_isSo : ByteArray := prog_8_method_94_code
def yX6_isSo : MethodName := ⟨RX6, "isSo", "(LLostBeforeSungModel;[JII)Z"⟩
abbrev cX6_fits : ByteArray := prog_8_method_95_code
def yX6_fits : MethodName := ⟨RX6, "fits", "(IIII)I"⟩
abbrev cX6_judge : ByteArray := prog_8_method_96_code
def yX6_judge : MethodName := ⟨RX6, "judge", "(II)I"⟩
abbrev cX6_pass : ByteArray := prog_8_method_97_code
def yX6_pass : MethodName := ⟨RX6, "pass", "()I"⟩
abbrev cX6_taught : ByteArray := prog_8_method_98_code
def yX6_taught : MethodName := ⟨RX6, "taught", "(II)I"⟩
abbrev cX6_below : ByteArray := prog_8_method_99_code
def yX6_below : MethodName := ⟨RX6, "below", "(I)I"⟩
abbrev cX6_drawn : ByteArray := prog_8_method_100_code
def yX6_drawn : MethodName := ⟨RX6, "drawn", "(I)I"⟩
abbrev cX6_seed : ByteArray := prog_8_method_101_code
def yX6_seed : MethodName := ⟨RX6, "seed", "(I)I"⟩
abbrev cX6_copied : ByteArray := prog_8_method_102_code
def yX6_copied : MethodName := ⟨RX6, "copied", "([I[I)V"⟩
abbrev cX6_takeFrom : ByteArray := prog_8_method_103_code
def yX6_takeFrom : MethodName := ⟨RX6, "takeFrom", "(LLostBeforeSungModel;)V"⟩
abbrev cX6_image : ByteArray := prog_8_method_104_code
def yX6_image : MethodName := ⟨RX6, "image", "()I"⟩
abbrev cX6_back : ByteArray := prog_8_method_105_code
def yX6_back : MethodName := ⟨RX6, "back", "()I"⟩
abbrev cX6_status : ByteArray := prog_8_method_106_code
def yX6_status : MethodName := ⟨RX6, "status", "(I)I"⟩
abbrev cJ6_bitCount_0f7a4 : ByteArray := prog_9_method_49_code
def yJ6_bitCount_0f7a4 : MethodName := ⟨RJ6, "bitCount", "(I)I"⟩
abbrev cJ9_min_7cf53 : ByteArray := prog_10_method_69_code
def yJ9_min_7cf53 : MethodName := ⟨RJ9, "min", "(II)I"⟩
abbrev cJ0_length_8abf5 : ByteArray := prog_11_method_54_code
def yJ0_length_8abf5 : MethodName := ⟨RJ0, "length", "()I"⟩
abbrev cJ0_charAt_5068e : ByteArray := prog_11_method_56_code
def yJ0_charAt_5068e : MethodName := ⟨RJ0, "charAt", "(I)C"⟩
abbrev cJ0_coder_7d493 : ByteArray := prog_11_method_152_code
def yJ0_coder_7d493 : MethodName := ⟨RJ0, "coder", "()B"⟩
abbrev cJ0_isLatin1_aae02 : ByteArray := prog_11_method_154_code
def yJ0_isLatin1_aae02 : MethodName := ⟨RJ0, "isLatin1", "()Z"⟩
abbrev cJ0_checkIndex_df160 : ByteArray := prog_11_method_155_code
def yJ0_checkIndex_df160 : MethodName := ⟨RJ0, "checkIndex", "(II)V"⟩
abbrev cJ1_charAt_3b067 : ByteArray := prog_12_method_2_code
def yJ1_charAt_3b067 : MethodName := ⟨RJ1, "charAt", "([BI)C"⟩
abbrev cJ2_getChar_3b067 : ByteArray := prog_13_method_5_code
def yJ2_getChar_3b067 : MethodName := ⟨RJ2, "getChar", "([BI)C"⟩
abbrev cJ2_length_9d52b : ByteArray := prog_13_method_6_code
def yJ2_length_9d52b : MethodName := ⟨RJ2, "length", "([B)I"⟩
abbrev cJ2_charAt_3b067 : ByteArray := prog_13_method_83_code
def yJ2_charAt_3b067 : MethodName := ⟨RJ2, "charAt", "([BI)C"⟩
abbrev cJ2_checkIndex_2214a : ByteArray := prog_13_method_91_code
def yJ2_checkIndex_2214a : MethodName := ⟨RJ2, "checkIndex", "(I[B)V"⟩
abbrev cJ3_checkIndex_8e157 : ByteArray := prog_15_method_11_code
def yJ3_checkIndex_8e157 : MethodName := ⟨RJ3, "checkIndex", "(IILjava/util/function/BiFunction;)I"⟩
abbrev cL_law : ByteArray := code
def yL_law : MethodName := ⟨RL, "law", "([I)Z"⟩
theorem mem_r {big : List Cond} (ws : List Cond) (ps : List Nat) (hp : ws = ps.filterMap (fun i => big[i]?)) : ∀ w ∈ ws, w ∈ big := by
  intro w hw
  rw [hp] at hw
  obtain ⟨i, -, hi⟩ := List.mem_filterMap.mp hw
  exact List.mem_of_getElem? hi
theorem inX0 : ∀ w ∈ u_ws RX0 TX0 16, w ∈ lw_tbl := mem_r _ [189, 191, 193, 195, 197, 199, 201, 203, 205, 207, 209, 211, 213, 215, 217, 219] (by decide +kernel)
theorem inX1 : ∀ w ∈ u_ws RX1 TX1 2, w ∈ lw_tbl := mem_r _ [233, 235] (by decide +kernel)
theorem inX2 : ∀ w ∈ u_ws RX2 TX2 7, w ∈ lw_tbl := mem_r _ [269, 271, 273, 275, 277, 279, 281] (by decide +kernel)
theorem inX3 : ∀ w ∈ u_ws RX3 TX3 3, w ∈ lw_tbl := mem_r _ [299, 301, 303] (by decide +kernel)
theorem inX4 : ∀ w ∈ u_ws RX4 TX4 3, w ∈ lw_tbl := mem_r _ [247, 249, 251] (by decide +kernel)
theorem inX5 : ∀ w ∈ u_ws RX5 TX5 9, w ∈ lw_tbl := mem_r _ [316, 318, 320, 322, 324, 326, 328, 330, 332] (by decide +kernel)
theorem inX6 : ∀ w ∈ u_ws RX6 TX6 41, w ∈ lw_tbl := mem_r _ [1045, 1047, 1049, 1051, 1053, 1055, 1057, 1059, 1061, 1063, 1065, 1067, 1069, 1071, 1073, 1075, 1077, 1079, 1081, 1083, 1085, 1087, 1089, 1091, 1093, 1095, 1097, 1099, 1101, 1103, 1105, 1107, 1109, 1111, 1113, 1115, 1117, 1119, 1121, 1123, 1125] (by decide +kernel)
end
section
/-! THE HEAP IN THOUGHT: the cells from a base on, by their numbers; what is fixed for the whole run -/
/-- base; class ids; slots; the ids of int[], long[], Shelf[], long[][]; the script: address, length, ints; the literals' addresses, their bytes' addresses -/
abbrev ZZ : Type := Nat × ((Nat → ClassId) × (Nat → Nat → Nat)) × (ClassId × ClassId × ClassId × ClassId) × (Nat × Nat × (Nat → Int32)) × ((Nat → Nat) × (Nat → Nat))
def zb (Z : ZZ) : Nat := Z.1
def zD (Z : ZZ) : va_G := Z.2.1
def zcI (Z : ZZ) : ClassId := Z.2.2.1.1
def zcJ (Z : ZZ) : ClassId := Z.2.2.1.2.1
def zcS (Z : ZZ) : ClassId := Z.2.2.1.2.2.1
def zcQ (Z : ZZ) : ClassId := Z.2.2.1.2.2.2
def zsc (Z : ZZ) : Nat := Z.2.2.2.1.1
def zL (Z : ZZ) : Nat := Z.2.2.2.1.2.1
def zX (Z : ZZ) : Nat → Int32 := Z.2.2.2.1.2.2
def zK (Z : ZZ) : Nat → Nat := Z.2.2.2.2.1
def zV (Z : ZZ) : Nat → Nat := Z.2.2.2.2.2
def zA (Z : ZZ) : Nat → Prop := fun q => zb Z ≤ q
/-- how many cells, how many slots; the kind of each and its length; references, ints, longs -/
abbrev HP : Type := Nat × Nat × (Nat → Nat × Nat) × (Nat → Nat → Option Nat) × (Nat → Nat → Int32) × (Nat → Nat → Int64)
def hN (h : HP) : Nat := h.1
def hL (h : HP) : Nat := h.2.1
def hS (h : HP) : Nat → Nat × Nat := h.2.2.1
def hR (h : HP) : Nat → Nat → Option Nat := h.2.2.2.1
def hI (h : HP) : Nat → Nat → Int32 := h.2.2.2.2.1
def hJ (h : HP) : Nat → Nat → Int64 := h.2.2.2.2.2
def upA {α : Type} (f : Nat → α) (a : Nat) (g : α) : Nat → α := fun q => if q = a then g else f q
theorem upA_s {α : Type} (f : Nat → α) (a : Nat) (g : α) : upA f a g a = g := if_pos rfl
theorem upA_n {α : Type} (f : Nat → α) {a b : Nat} (g : α) (h : b ≠ a) : upA f a g b = f b := if_neg h
/-- the cell a's ints are g; its longs; its references; a new cell -/
def wI (h : HP) (a : Nat) (g : Nat → Int32) : HP := (h.1, h.2.1, h.2.2.1, h.2.2.2.1, upA h.2.2.2.2.1 a g, h.2.2.2.2.2)
def wJ (h : HP) (a : Nat) (g : Nat → Int64) : HP := (h.1, h.2.1, h.2.2.1, h.2.2.2.1, h.2.2.2.2.1, upA h.2.2.2.2.2 a g)
def wR (h : HP) (a : Nat) (g : Nat → Option Nat) : HP := (h.1, h.2.1, h.2.2.1, upA h.2.2.2.1 a g, h.2.2.2.2.1, h.2.2.2.2.2)
def nw (h : HP) (t n sl : Nat) : HP := (h.1 + 1, h.2.1 + sl, upA h.2.2.1 h.1 (t, n), upA h.2.2.2.1 h.1 (fun _ => none), upA h.2.2.2.2.1 h.1 (fun _ => 0), upA h.2.2.2.2.2 h.1 (fun _ => 0))
/-- which fields are references -/
def rfT : List (List Bool) := [[false, false, false, false, false, false, true, true, true, true, true, true, true, true, true, true], [true, true], [true, true, false, false, false, false, false], [false, false, true], [true, true, false], [true, true, true, true, true, true, true, true, false], [true, true, true, true, true, true, true, false, true, false, false, false, false, false, true, true, true, true, true, true, true, true, true, true, false, true, true, true, false, false, false, false, false, true, false, true, false, true, true, true, true]]
def isrf (c k : Nat) : Bool := (rfT.getD c []).getD k false
def nfl (c : Nat) : Nat := [16, 2, 7, 3, 3, 9, 41].getD c 0
def rfv (Z : ZZ) (o : Option Nat) : Value := va_rf (o.map (zb Z + ·))
def fvl (Z : ZZ) (h : HP) (a c k : Nat) : Value := if isrf c k = true then rfv Z (hR h a k) else .int (hI h a k)
def ent (Z : ZZ) (h : HP) (a : Nat) : va_E :=
  if (hS h a).1 < 7 then .inr ((hS h a).1, (List.range (nfl (hS h a).1)).map (fvl Z h a (hS h a).1))
  else if (hS h a).1 = 7 then .inl (zcI Z, (hS h a).2, .inl (hI h a))
  else if (hS h a).1 = 8 then .inl (zcJ Z, (hS h a).2, .inr (.inl (hJ h a)))
  else if (hS h a).1 = 9 then .inl (zcS Z, (hS h a).2, .inr (.inr (.inr (.inr (fun i => (hR h a i).map (zb Z + ·))))))
  else .inl (zcQ Z, (hS h a).2, .inr (.inr (.inr (.inr (fun i => (hR h a i).map (zb Z + ·))))))
def wsO (Z : ZZ) (h : HP) : va_W := (List.range (hN h)).map (fun k => (zb Z + k, ent Z h k))
theorem wsO_get (Z : ZZ) (h : HP) {a : Nat} (ha : a < hN h) : (wsO Z h)[a]? = some (zb Z + a, ent Z h a) := by
  simp [wsO, List.getElem?_range ha]
theorem wsO_len (Z : ZZ) (h : HP) : (wsO Z h).length = hN h := by simp [wsO]
theorem wsO_lt {Z : ZZ} {h : HP} {k : Nat} {q : Nat × va_E} (hk : (wsO Z h)[k]? = some q) : k < hN h ∧ q = (zb Z + k, ent Z h k) := by
  have hl : k < hN h := by rw [← wsO_len Z h]; exact (List.getElem?_eq_some_iff.mp hk).1
  exact ⟨hl, by rw [wsO_get Z h hl] at hk; exact (Option.some.inj hk).symm⟩
theorem wsO_D (Z : ZZ) (h : HP) : va_D (zA Z) (wsO Z h) := by
  refine ⟨fun i j p q hi hj e => ?_, fun k q hk => ?_⟩
  · obtain ⟨-, rfl⟩ := wsO_lt hi
    obtain ⟨-, rfl⟩ := wsO_lt hj
    simpa using e
  · obtain ⟨-, rfl⟩ := wsO_lt hk
    exact Nat.le_add_right _ _
/-- one cell is another: the others as they were -/
theorem wsO_set {Z : ZZ} {h h' : HP} {a : Nat} {e : va_E} (hn : hN h' = hN h) (he : ent Z h' a = e) (ho : ∀ k, k ≠ a → ent Z h' k = ent Z h k) : (wsO Z h).set a (zb Z + a, e) = wsO Z h' := by
  subst he
  refine List.ext_getElem? fun k => ?_
  by_cases hk : k < hN h
  · rw [wsO_get Z h' (by omega)]
    by_cases e : a = k
    · subst e
      rw [List.getElem?_set_self (by rw [wsO_len]; exact hk)]
    · rw [List.getElem?_set_ne e, wsO_get Z h hk, ho k (Ne.symm e)]
  · rw [List.getElem?_eq_none (by rw [List.length_set, wsO_len]; omega), List.getElem?_eq_none (by rw [wsO_len]; omega)]
/-- a cell more -/
theorem wsO_push {Z : ZZ} {h h' : HP} {e : va_E} (hn : hN h' = hN h + 1) (he : ent Z h' (hN h) = e) (ho : ∀ k, k < hN h → ent Z h' k = ent Z h k) : wsO Z h ++ [(zb Z + hN h, e)] = wsO Z h' := by
  subst he
  unfold wsO
  rw [hn, List.range_succ, List.map_append]
  congr 1
  refine List.map_congr_left fun k hk => ?_
  rw [ho k (List.mem_range.mp hk)]
theorem map_range_set {α : Type} (f : Nat → α) (n j : Nat) (v : α) : ((List.range n).map f).set j v = (List.range n).map (fun k => if k = j then v else f k) := by
  refine List.ext_getElem? fun k => ?_
  by_cases hk : k < n
  · by_cases e : j = k
    · subst e
      rw [List.getElem?_set_self (by simp; exact hk)]
      simp [hk]
    · rw [List.getElem?_set_ne e]
      simp [hk, Ne.symm e]
  · rw [List.getElem?_eq_none (by simp; omega), List.getElem?_eq_none (by simp; omega)]
theorem ent_wI_n {Z : ZZ} {h : HP} {a : Nat} {g : Nat → Int32} {k : Nat} (hk : k ≠ a) : ent Z (wI h a g) k = ent Z h k := by
  have e : hI (wI h a g) k = hI h k := upA_n _ _ hk
  unfold ent
  simp only [show hS (wI h a g) = hS h from rfl, e, show hR (wI h a g) = hR h from rfl, show hJ (wI h a g) = hJ h from rfl]
  have ef : ∀ c, fvl Z (wI h a g) k c = fvl Z h k c := fun c => funext fun j => by unfold fvl; rw [e]; rfl
  rw [ef]
theorem ent_wJ_n {Z : ZZ} {h : HP} {a : Nat} {g : Nat → Int64} {k : Nat} (hk : k ≠ a) : ent Z (wJ h a g) k = ent Z h k := by
  have e : hJ (wJ h a g) k = hJ h k := upA_n _ _ hk
  unfold ent
  simp only [show hS (wJ h a g) = hS h from rfl, e, show hR (wJ h a g) = hR h from rfl, show hI (wJ h a g) = hI h from rfl]
  rfl
theorem ent_wR_n {Z : ZZ} {h : HP} {a : Nat} {g : Nat → Option Nat} {k : Nat} (hk : k ≠ a) : ent Z (wR h a g) k = ent Z h k := by
  have e : hR (wR h a g) k = hR h k := upA_n _ _ hk
  unfold ent
  simp only [show hS (wR h a g) = hS h from rfl, e, show hI (wR h a g) = hI h from rfl, show hJ (wR h a g) = hJ h from rfl]
  have ef : ∀ c, fvl Z (wR h a g) k c = fvl Z h k c := fun c => funext fun j => by unfold fvl; rw [e]; rfl
  rw [ef]
theorem ent_nw_n {Z : ZZ} {h : HP} {t n sl : Nat} {k : Nat} (hk : k < hN h) : ent Z (nw h t n sl) k = ent Z h k := by
  have hne : k ≠ h.1 := Nat.ne_of_lt hk
  have e1 : hS (nw h t n sl) k = hS h k := upA_n _ _ hne
  have e2 : hR (nw h t n sl) k = hR h k := upA_n _ _ hne
  have e3 : hI (nw h t n sl) k = hI h k := upA_n _ _ hne
  have e4 : hJ (nw h t n sl) k = hJ h k := upA_n _ _ hne
  unfold ent
  have ef : ∀ c, fvl Z (nw h t n sl) k c = fvl Z h k c := fun c => funext fun j => by unfold fvl; rw [e2, e3]
  rw [e1, e2, e3, e4, ef]
theorem ent_obj {Z : ZZ} {h : HP} {a c : Nat} (hc : (hS h a).1 = c) (h7 : c < 7) : ent Z h a = .inr (c, (List.range (nfl c)).map (fvl Z h a c)) := by
  subst hc; unfold ent; rw [if_pos h7]
theorem ent_int {Z : ZZ} {h : HP} {a : Nat} (hc : (hS h a).1 = 7) : ent Z h a = .inl (zcI Z, (hS h a).2, .inl (hI h a)) := by
  unfold ent; rw [hc, if_neg (by decide), if_pos rfl]
theorem ent_long {Z : ZZ} {h : HP} {a : Nat} (hc : (hS h a).1 = 8) : ent Z h a = .inl (zcJ Z, (hS h a).2, .inr (.inl (hJ h a))) := by
  unfold ent; rw [hc, if_neg (by decide), if_neg (by decide), if_pos rfl]
theorem ent_shf {Z : ZZ} {h : HP} {a : Nat} (hc : (hS h a).1 = 9) : ent Z h a = .inl (zcS Z, (hS h a).2, .inr (.inr (.inr (.inr (fun i => (hR h a i).map (zb Z + ·)))))) := by
  unfold ent; rw [hc, if_neg (by decide), if_neg (by decide), if_neg (by decide), if_pos rfl]
theorem ent_rows {Z : ZZ} {h : HP} {a : Nat} (hc : (hS h a).1 = 10) : ent Z h a = .inl (zcQ Z, (hS h a).2, .inr (.inr (.inr (.inr (fun i => (hR h a i).map (zb Z + ·)))))) := by
  unfold ent; rw [hc, if_neg (by decide), if_neg (by decide), if_neg (by decide), if_neg (by decide)]
/-- the heap holds what is in thought -/
def Rl (Z : ZZ) (h : HP) (H : Heap) : Prop := va_P (zD Z) vwCl (wsO Z h) H ∧ H.size = zb Z + hN h
/-! what a run's state gives besides: the tables' words, the classes, the literals, the script -/
def nestW : Cond → Bool
  | .fieldLinkNest .. => true
  | .methodLinkNest .. => true
  | _ => false
def EW (U : State) : Prop := ∀ w ∈ lw_tbl, (goodWord w = true ∨ nestW w = true) → w.before #[] U = true
theorem EW.warm {s U : State} (hW : s.WarmedH U.vm) (h : EW s) : EW U := by
  intro w hw hg
  rcases hg with hg | hg
  · exact word_at hW (good_of_word hg) (h w hw (Or.inl hg))
  · cases w with
    | fieldLinkNest => exact va_Nw.warmF hW (h _ hw (Or.inr hg))
    | methodLinkNest => exact va_Nw.warmM hW (h _ hw (Or.inr hg))
    | _ => cases hg
theorem EW.use {s : State} {args : Array Value} {w : Cond} (h : EW s) (hw : w ∈ lw_tbl) (hg : goodWord w = true) : w.before args s = true :=
  word_at (State.WarmedH.refl s) (good_of_word hg) (h w hw (Or.inl hg))
theorem EW.nest {s : State} {args : Array Value} {w : Cond} (h : EW s) (hw : w ∈ lw_tbl) (hg : nestW w = true) : w.before args s = true := by
  cases w with
  | fieldLinkNest => exact va_Nw.use rfl (h _ hw (Or.inr hg))
  | methodLinkNest => exact va_Nw.use rfl (h _ hw (Or.inr hg))
  | _ => cases hg
def zT (Z : ZZ) : List (ClassId × FieldType) := [(zcI Z, .int), (zcJ Z, .long), (zcS Z, .object "LostBeforeSung$Shelf"), (zcQ Z, .array .long)]
/-- the literals: class, entry, text, by their places -/
def litT : List (String × Nat × String) := [("LostBeforeSung$Reader", 88, "person"), ("LostBeforeSung$Reader", 90, "song"), ("LostBeforeSung$Reader", 92, "has"), ("LostBeforeSung$Reader", 94, "not"), ("LostBeforeSung$Reader", 96, "beside"), ("LostBeforeSung$Reader", 98, "away"), ("LostBeforeSung$Reader", 100, "hums"), ("LostBeforeSung$Reader", 102, "still"), ("LostBeforeSung$Reader", 104, "work"), ("LostBeforeSung$Reader", 106, "year"), ("LostBeforeSungModel", 214, "person"), ("LostBeforeSungModel", 224, "song"), ("LostBeforeSungModel", 226, "has"), ("LostBeforeSungModel", 230, "not"), ("LostBeforeSungModel", 232, "beside"), ("LostBeforeSungModel", 236, "away"), ("LostBeforeSungModel", 238, "hums"), ("LostBeforeSungModel", 242, "still"), ("LostBeforeSungModel", 244, "work"), ("LostBeforeSungModel", 245, "year")]
def litB : List (List Int32) := [[112, 101, 114, 115, 111, 110], [115, 111, 110, 103], [104, 97, 115], [110, 111, 116], [98, 101, 115, 105, 100, 101], [97, 119, 97, 121], [104, 117, 109, 115], [115, 116, 105, 108, 108], [119, 111, 114, 107], [121, 101, 97, 114], [112, 101, 114, 115, 111, 110], [115, 111, 110, 103], [104, 97, 115], [110, 111, 116], [98, 101, 115, 105, 100, 101], [97, 119, 97, 121], [104, 117, 109, 115], [115, 116, 105, 108, 108], [119, 111, 114, 107], [121, 101, 97, 114]]
def AOQ (U : State) : Prop := (Cond.arrayOver (.array .long)).before #[] U = true
def EF (Z : ZZ) (U : State) : Prop := EW U ∧ va_K (zD Z) vwCl (zT Z) U ∧ va_AO "LostBeforeSung$Shelf" U ∧ AOQ U ∧
  (∀ (i : Nat) (q : String × Nat × String), litT[i]? = some q → vk_R q.1 q.2.1 q.2.2 (zK Z i) U) ∧
  vk_S 20 (litB.map List.length) litB (zK Z) (zV Z) (zA Z) U U.heap ∧ va_X (zsc Z) (zL Z) (zX Z) U U.heap ∧ ¬ zA Z (zsc Z) ∧ zsc Z < U.heap.size ∧ zL Z ≤ 3072
end
section
/-! FROM ONE STATE TO ANOTHER; a method's contract by what it answers in thought -/
theorem va_X_kept {b L : Nat} {xs : Nat → Int32} {U V : State} {H H1 : Heap} (hvm : U.vm.Alike V.vm) (h : va_X b L xs U H) (hq : H1[b]? = H[b]?) : va_X b L xs V H1 := by
  obtain ⟨scr, h1, h2, h3, h4, h5⟩ := h
  exact ⟨scr, hq.trans h1, State.isArrayOf_alike hvm h2, h3, h4, h5⟩
theorem EF.moved {Z : ZZ} {s U : State} (hW : s.WarmedH U.vm) (h : EF Z s) (hz : s.heap.size ≤ U.heap.size) (hk : ∀ q : Nat, q < s.heap.size → ¬ zA Z q → U.heap[q]? = s.heap[q]?) : EF Z U := by
  obtain ⟨h1, h2, h3, h4, h5, h6, h7, h8, h9, h10⟩ := h
  refine ⟨h1.warm hW, h2.moved hW.alike, h3.moved hW.alike, ?_, fun i q hq => (h5 i q hq).warm hW, (h6.moved hW.alike).kept hk, va_X_kept hW.alike h7 (hk _ h9 h8), h8, Nat.lt_of_lt_of_le h9 hz, h10⟩
  show (Cond.arrayOver (.array .long)).before #[] (s.setVm U.vm) = true
  rw [Cond.arrayOver_setVmC hW.alike]
  exact h4
/-- a contract's start: these arguments, the heap in thought h -/
def Pcg (Z : ZZ) (av : List Value) (h : HP) : Array Value → State → Prop := va_Pc av (fun U => EF Z U ∧ Rl Z h U.heap)
/-- its end: this answer, the heap in thought h1 -/
def Qg (Z : ZZ) (rv : Option Value) (h1 : HP) : Array Value → State → Outcome → State → Prop := fun _ st oc t => oc = .returned rv ∧ Rl Z h1 t.heap ∧ va_F (zA Z) st t
def Mono (h h1 : HP) : Prop := hN h ≤ hN h1 ∧ hL h ≤ hL h1
theorem Mono.rf (h : HP) : Mono h h := ⟨Nat.le_refl _, Nat.le_refl _⟩
theorem Mono.tr {a b c : HP} (h : Mono a b) (g : Mono b c) : Mono a c := ⟨Nat.le_trans h.1 g.1, Nat.le_trans h.2 g.2⟩
def MetP (Z : ZZ) (l : Launch) (y : MethodName) (cc : ByteArray) (nL : Nat) (rt : Option FieldType) (fr lc : Nat) (av : List Value) (h : HP) (rv : Option Value) (h1 : HP) : Prop :=
  Mono h h1 ∧ Met l y [Cond.code y cc nL rt] { frames := fr, cells := hN h1 - hN h, slots := hL h1 - hL h, locals := lc } (Pcg Z av h) (Qg Z rv h1) (hN h1 - hN h) (hL h1 - hL h) (zA Z)
/-- what a method's run stands on -/
def Cx (p : Program) (R : Room) (s : State) (m : MethodId) (meth : Method) (c : Code) (Z : ZZ) (cc : ByteArray) (own : String) (nL fr lc : Nat) (rt : Option FieldType) (nm : String) (h0 h1 : HP) : Prop :=
  p.tables.exec = Jvm.exec ∧ c.code = cc ∧ c.maxLocals = nL ∧ s.vm.findClass own = some m.cls ∧ EF Z s ∧ meth.locks = false ∧ (fr = R.frames ∧ lc = R.locals ∧ hN h1 - hN h0 ≤ R.cells ∧ hL h1 - hL h0 ≤ R.slots) ∧ s.heap.size = zb Z + hN h0 ∧ meth.sig.returnType = rt ∧ meth.name = nm
/-- from the pc on, with these locals and this stack, over the heap in thought h: if o is the answer and the heap that are due, the machine comes to Q -/
def Sim (Z : ZZ) (l : Launch) (cc : ByteArray) (own : String) (nL fr lc : Nat) (rt : Option FieldType) (nm : String) (args : Array Value) (QQ : State → List Frame → State → Prop) (h0 h1 : HP) {ρ : Type} (v0 : ρ) (pc : Nat) (lo : List (Nat × Value)) (st : List Value) (h : HP) (o : Option (ρ × HP)) : Prop :=
  o = some (v0, h1) → Mono h h1 ∧ ∀ {p : Program} {e : Env} {R : Room} {s : State} {m : MethodId} {below : List Frame} {meth : Method} {c : Code}, Cx p R s m meth c Z cc own nL fr lc rt nm h0 h1 → Mono h0 h → ∀ (H : Heap) (locs : List Loc) (ls : Array Slot), Rl Z h H → va_S (zA Z) s.heap H locs → lv_has ls nL lo →
    W p l e R s m args below meth c H locs (hN h - hN h0) (hL h - hL h0) (QQ s below) (F0 m pc ls st)
section SIM
variable {Z : ZZ} {l : Launch} {cc : ByteArray} {own : String} {nL fr lc : Nat} {rt : Option FieldType} {nm : String} {args : Array Value} {QQ : State → List Frame → State → Prop} {h0 h1 : HP} {ρ : Type} {v0 : ρ}
variable {pc pc' : Nat} {lo lo' : List (Nat × Value)} {st st' : List Value} {h : HP} {o : Option (ρ × HP)}
/-- one step that leaves the heap -/
theorem Sim.pure (hst : ∀ {p : Program} {e : Env} {R : Room} {s : State} {m : MethodId} {below : List Frame} {meth : Method} {c : Code}, Cx p R s m meth c Z cc own nL fr lc rt nm h0 h1 → ∀ (H : Heap) (locs : List Loc) (ls : Array Slot), Rl Z h H → va_S (zA Z) s.heap H locs → lv_has ls nL lo →
      (∀ ls', lv_has ls' nL lo' → W p l e R s m args below meth c H locs (hN h - hN h0) (hL h - hL h0) (QQ s below) (F0 m pc' ls' st')) → W p l e R s m args below meth c H locs (hN h - hN h0) (hL h - hL h0) (QQ s below) (F0 m pc ls st))
    (k : Sim Z l cc own nL fr lc rt nm args QQ h0 h1 v0 pc' lo' st' h o) : Sim Z l cc own nL fr lc rt nm args QQ h0 h1 v0 pc lo st h o := by
  intro ho
  obtain ⟨m1, w1⟩ := k ho
  exact ⟨m1, fun C a H locs ls hP hS hl => hst C H locs ls hP hS hl (fun ls' hl' => w1 C a H locs ls' hP hS hl')⟩
theorem Sim.none : Sim Z l cc own nL fr lc rt nm args QQ h0 h1 v0 pc lo st h (Option.none : Option (ρ × HP)) := fun ho => by cases ho
/-- fewer locals -/
theorem Sim.sub (ks : List Nat) (hl : lv_pick lo ks = lo') (k : Sim Z l cc own nL fr lc rt nm args QQ h0 h1 v0 pc lo' st h o) : Sim Z l cc own nL fr lc rt nm args QQ h0 h1 v0 pc lo st h o :=
  Sim.pure (fun _ _ _ _ _ _ hl0 kk => kk _ (lv_sub hl0 ks hl)) k
end SIM
end
section
/-! THE OPERATIONS in thought; for each instruction how it moves Sim -/
def oC (c : Nat) (h : HP) (a : Nat) : Bool := decide (a < hN h) && decide ((hS h a).1 = c)
theorem oC_spec {c : Nat} {h : HP} {a : Nat} (g : oC c h a = true) : a < hN h ∧ (hS h a).1 = c := by
  unfold oC at g
  rw [Bool.and_eq_true] at g
  exact ⟨of_decide_eq_true g.1, of_decide_eq_true g.2⟩
def vpi (i : Int32) (n : Nat) : Bool := decide (¬ (i < 0 ∨ n ≤ i.toNatClampNeg))
theorem vpi_spec {i : Int32} {n : Nat} (g : vpi i n = true) : vp_in i n := show ¬ (i < 0 ∨ n ≤ i.toNatClampNeg) from of_decide_eq_true g
/-- an answer and a heap, handed on -/
def ob {σ τ : Type} (o : Option (σ × HP)) (f : σ → HP → Option τ) : Option τ := match o with
  | none => none
  | some q => f q.1 q.2
theorem ob_some {σ τ : Type} {o : Option (σ × HP)} {f : σ → HP → Option τ} {r : τ} (h : ob o f = some r) : ∃ v h2, o = some (v, h2) ∧ f v h2 = some r := by
  cases o with
  | none => cases h
  | some q => exact ⟨q.1, q.2, rfl, h⟩
/-- a call's receiver is of the class -/
def inv {σ : Type} (c a : Nat) (h : HP) (o : Option (σ × HP)) : Option (σ × HP) := if oC c h a = true then o else none
def gI (c j a : Nat) (h : HP) : Option Int32 := if oC c h a = true then some (hI h a j) else none
def gR (c j a : Nat) (h : HP) : Option Nat := if oC c h a = true then hR h a j else none
def gN (c j a : Nat) (h : HP) : Option (Option Nat) := if oC c h a = true then some (hR h a j) else none
def pI (c j a : Nat) (x : Int32) (h : HP) : Option HP := if oC c h a = true then some (wI h a (upd (hI h a) j x)) else none
def pZ (c j a : Nat) (x : Int32) (h : HP) : Option HP := if oC c h a = true ∧ (x = 0 ∨ x = 1) then some (wI h a (upd (hI h a) j x)) else none
def pR (c j a v : Nat) (h : HP) : Option HP := if oC c h a = true then some (wR h a (upA (hR h a) j (some v))) else none
def lI (a : Nat) (i : Int32) (h : HP) : Option Int32 := if oC 7 h a = true ∧ vpi i (hS h a).2 = true then some (hI h a i.toNatClampNeg) else none
def lJ (a : Nat) (i : Int32) (h : HP) : Option Int64 := if oC 8 h a = true ∧ vpi i (hS h a).2 = true then some (hJ h a i.toNatClampNeg) else none
def lR (t a : Nat) (i : Int32) (h : HP) : Option Nat := if oC t h a = true ∧ vpi i (hS h a).2 = true then hR h a i.toNatClampNeg else none
def sI (a : Nat) (i x : Int32) (h : HP) : Option HP := if oC 7 h a = true ∧ vpi i (hS h a).2 = true then some (wI h a (upd (hI h a) i.toNatClampNeg x)) else none
def sJ (a : Nat) (i : Int32) (x : Int64) (h : HP) : Option HP := if oC 8 h a = true ∧ vpi i (hS h a).2 = true then some (wJ h a (vp_updL (hJ h a) i.toNatClampNeg x)) else none
def sR (a : Nat) (i : Int32) (v : Nat) (h : HP) : Option HP := if oC 9 h a = true ∧ vpi i (hS h a).2 = true ∧ oC 3 h v = true then some (wR h a (upA (hR h a) i.toNatClampNeg (some v))) else none
def aL (a : Nat) (h : HP) : Option Int32 := if oC 7 h a = true then some (Int32.ofNat (hS h a).2) else none
def cpOK (n0 n1 : Nat) (sp dp n : Int32) : Bool := decide (¬ sp < 0 ∧ ¬ dp < 0 ∧ ¬ n < 0 ∧ sp.toNatClampNeg + n.toNatClampNeg ≤ n0 ∧ dp.toNatClampNeg + n.toNatClampNeg ≤ n1)
def cpI (a0 : Nat) (sp : Int32) (a : Nat) (dp n : Int32) (h : HP) : Option HP := if oC 7 h a0 = true ∧ oC 7 h a = true ∧ cpOK (hS h a0).2 (hS h a).2 sp dp n = true then some (wI h a (va_cpy (hI h a0) (hI h a) sp.toNatClampNeg dp.toNatClampNeg n.toNatClampNeg)) else none
def cpJ (a0 : Nat) (sp : Int32) (a : Nat) (dp n : Int32) (h : HP) : Option HP := if oC 8 h a0 = true ∧ oC 8 h a = true ∧ cpOK (hS h a0).2 (hS h a).2 sp dp n = true then some (wJ h a (va_cpy (hJ h a0) (hJ h a) sp.toNatClampNeg dp.toNatClampNeg n.toNatClampNeg)) else none
def nO (c : Nat) (h : HP) : HP := nw h c 0 (nfl c)
def nA (t : Nat) (n : Int32) (h : HP) : Option HP := if ¬ n < 0 ∧ n.toNatClampNeg ≤ 4096 then some (nw h t n.toNatClampNeg n.toNatClampNeg) else none
/-- the answer 0 or 1 -/
def rZ (v : Int32) (h : HP) : Option (Int32 × HP) := if v = 0 ∨ v = 1 then some (v, h) else none
def dz (y : Int32) : Option Unit := if y = 0 then none else some ()
/-- the script -/
def lX (Z : ZZ) (i : Int32) : Option Int32 := if vpi i (zL Z) = true then some (zX Z i.toNatClampNeg) else none
/-- a field's entry -/
def FL (own : String) (idx ci k : Nat) (t : FieldType) (fin ne : Bool) : Prop := ∃ (C : String) (T : u_T) (ty : Nat → FieldType) (N : Nat), vwCl[ci]? = some (C, T, N) ∧ ci < 7 ∧ N = nfl ci ∧ k < N ∧ (∀ w ∈ u_ws C T N, w ∈ lw_tbl) ∧ (∀ j, j < N → parseFieldDescriptor (T j).2.2.1 = some (ty j)) ∧ (∀ a, a < N → ∀ b, b < N → a ≠ b → (T a).2.1 ≠ (T b).2.1) ∧ parseFieldDescriptor (T k).2.2.1 = some t ∧ (T k).2.2.2 = fin ∧ (T k).1 = C ∧
  ((ne = false ∧ Cond.fieldLink own idx (T k).1 (T k).2.1 (T k).2.2.1 ∈ lw_tbl) ∨ (ne = true ∧ ∃ host, Cond.fieldLinkNest own idx (T k).1 (T k).2.1 (T k).2.2.1 host ∈ lw_tbl))
theorem u_good {C : String} {T : u_T} {N : Nat} : ∀ w ∈ u_ws C T N, goodWord w = true := by
  intro w hw
  obtain ⟨k, -, rfl⟩ := List.mem_map.mp hw
  unfold u_lay
  split <;> rfl
/-- a method's entry: its code, its class, how many arguments, the link -/
def ML (own : String) (idx : Nat) (y : MethodName) (bytes : ByteArray) (maxL : Nat) (ret : Option FieldType) (n : Nat) : Prop := Cond.code y bytes maxL ret ∈ lw_tbl ∧ Cond.initialized y.cls ∈ lw_tbl ∧ (y.cls ≠ "java/lang/invoke/MethodHandle" ∧ y.cls ≠ "java/lang/invoke/VarHandle") ∧ (parseMethodDescriptor y.desc).map (fun d => d.parameters.length) = some n ∧ (Cond.methodLink own idx y ∈ lw_tbl ∨ ∃ host, Cond.methodLinkNest own idx y host ∈ lw_tbl)
def MI (C : String) (y : MethodName) : Prop := Cond.instanceMethod y ∈ lw_tbl ∧ Cond.selects C y y ∈ lw_tbl
theorem size_of {Z : ZZ} {h : HP} {H : Heap} (hP : va_P (zD Z) vwCl (wsO Z h) H) (hlo : zb Z ≤ H.size) (hup : H.size ≤ zb Z + hN h) : H.size = zb Z + hN h := by
  by_cases hn : hN h = 0
  · omega
  · have := (hP (hN h - 1) _ (wsO_get Z h (by omega))).lt
    simp only at this
    omega
theorem fs_get {Z : ZZ} {h : HP} {a c k : Nat} (hk : k < nfl c) : ((List.range (nfl c)).map (fvl Z h a c))[k]? = some (fvl Z h a c k) := by simp [hk]
theorem fs_set {Z : ZZ} {h h' : HP} {a c k : Nat} {v : Value} (h1 : fvl Z h' a c k = v) (h2 : ∀ j, j ≠ k → fvl Z h' a c j = fvl Z h a c j) : ((List.range (nfl c)).map (fvl Z h a c)).set k v = (List.range (nfl c)).map (fvl Z h' a c) := by
  rw [map_range_set]
  refine List.map_congr_left fun j _ => ?_
  by_cases e : j = k
  · rw [if_pos e, e, h1]
  · rw [if_neg e, h2 j e]
theorem fvl_int {Z : ZZ} {h : HP} {a c k : Nat} (hk : isrf c k = false) : fvl Z h a c k = .int (hI h a k) := by unfold fvl; rw [hk]; rfl
theorem fvl_ref {Z : ZZ} {h : HP} {a c k : Nat} (hk : isrf c k = true) : fvl Z h a c k = rfv Z (hR h a k) := by unfold fvl; rw [hk]; rfl
section OPS
variable {p : Program} {l : Launch} {e : Env} {R : Room} {s : State} {m : MethodId} {args : Array Value} {below : List Frame} {meth : Method} {c : Code} {Q : State → Prop}
variable {Z : ZZ} {cc : ByteArray} {own : String} {nL fr lc : Nat} {rt : Option FieldType} {nm : String} {QQ : State → List Frame → State → Prop} {h0 h1 : HP} {ρ : Type} {v0 : ρ}
variable {pc pc' tgt : Nat} {lo lo' : List (Nat × Value)} {st rest : List Value} {h : HP} {o o1 o2 : Option (ρ × HP)}
theorem W_sz {H : Heap} {locs : List Loc} {cells slots : Nat} {g : JFrame} (k : H.size ≤ s.heap.size + cells → W p l e R s m args below meth c H locs cells slots Q g) : W p l e R s m args below meth c H locs cells slots Q g :=
  fun T hT X => k (by rw [← hT]; exact X.heapSize) T hT X
theorem Cx.sz (C : Cx p R s m meth c Z cc own nL fr lc rt nm h0 h1) {H : Heap} {locs : List Loc} (hP : va_P (zD Z) vwCl (wsO Z h) H) (hS : va_S (zA Z) s.heap H locs) (hm : Mono h0 h) (hz : H.size ≤ s.heap.size + (hN h - hN h0)) : Rl Z h H := by
  have h8 := C.2.2.2.2.2.2.2.1
  have := hm.1
  have := hS.1
  exact ⟨hP, size_of hP (by omega) (by omega)⟩
/-- one step that changes cells, none is made -/
theorem Sim.wr {h2 : HP} {pc' : Nat} {lo' : List (Nat × Value)} {st' : List Value} (hm : hN h2 = hN h) (hm2 : hL h2 = hL h)
    (hst : ∀ {p : Program} {e : Env} {R : Room} {s : State} {m : MethodId} {below : List Frame} {meth : Method} {c : Code}, Cx p R s m meth c Z cc own nL fr lc rt nm h0 h1 → ∀ (H : Heap) (locs : List Loc) (ls : Array Slot), Rl Z h H → va_S (zA Z) s.heap H locs → lv_has ls nL lo →
      (∀ H1 locs1 ls', va_P (zD Z) vwCl (wsO Z h2) H1 → va_S (zA Z) s.heap H1 locs1 → lv_has ls' nL lo' → W p l e R s m args below meth c H1 locs1 (hN h - hN h0) (hL h - hL h0) (QQ s below) (F0 m pc' ls' st')) → W p l e R s m args below meth c H locs (hN h - hN h0) (hL h - hL h0) (QQ s below) (F0 m pc ls st))
    (k : Sim Z l cc own nL fr lc rt nm args QQ h0 h1 v0 pc' lo' st' h2 o) : Sim Z l cc own nL fr lc rt nm args QQ h0 h1 v0 pc lo st h o := by
  intro ho
  obtain ⟨m1, w1⟩ := k ho
  refine ⟨⟨hm ▸ m1.1, hm2 ▸ m1.2⟩, fun {p e R s m below meth c} C a H locs ls hP hS hl => hst C H locs ls hP hS hl fun H1 locs1 ls' hP1 hS1 hl1 => ?_⟩
  have a2 : Mono h0 h2 := ⟨hm ▸ a.1, hm2 ▸ a.2⟩
  refine W_sz fun hz => ?_
  have := w1 (e := e) (below := below) C a2 H1 locs1 ls' (C.sz hP1 hS1 a2 (by rw [hm]; exact hz)) hS1 hl1
  rwa [hm, hm2] at this
theorem S_iconst {n : Int} {v : Int32} (hd : decode cc pc = .ok (.iconst n, 1)) (hv : Int32.ofInt n = v) (hp : pc + 1 = pc')
    (k : Sim Z l cc own nL fr lc rt nm args QQ h0 h1 v0 pc' lo (.int v :: st) h o) : Sim Z l cc own nL fr lc rt nm args QQ h0 h1 v0 pc lo (st) h o := by
  subst hp
  exact Sim.pure (fun C H locs ls _ _ hl0 kk => lv_iconst C.1 C.2.1 hd hv (kk ls hl0)) k
theorem S_bipush {n : Int} {v : Int32} (hd : decode cc pc = .ok (.bipush n, 2)) (hv : (Int8.ofInt n).toInt32 = v) (hp : pc + 2 = pc')
    (k : Sim Z l cc own nL fr lc rt nm args QQ h0 h1 v0 pc' lo (.int v :: st) h o) : Sim Z l cc own nL fr lc rt nm args QQ h0 h1 v0 pc lo (st) h o := by
  subst hp
  exact Sim.pure (fun C H locs ls _ _ hl0 kk => lv_bipush C.1 C.2.1 hd hv (kk ls hl0)) k
theorem S_sipush {n : Int} {v : Int32} (hd : decode cc pc = .ok (.sipush n, 3)) (hv : (Int16.ofInt n).toInt32 = v) (hp : pc + 3 = pc')
    (k : Sim Z l cc own nL fr lc rt nm args QQ h0 h1 v0 pc' lo (.int v :: st) h o) : Sim Z l cc own nL fr lc rt nm args QQ h0 h1 v0 pc lo (st) h o := by
  subst hp
  exact Sim.pure (fun C H locs ls _ _ hl0 kk => lv_sipush C.1 C.2.1 hd hv (kk ls hl0)) k
theorem S_lconst {n : Fin 2} {v : Int64} (hd : decode cc pc = .ok (.lconst n, 1)) (hv : Int64.ofNat (n : Nat) = v) (hp : pc + 1 = pc')
    (k : Sim Z l cc own nL fr lc rt nm args QQ h0 h1 v0 pc' lo (.long v :: st) h o) : Sim Z l cc own nL fr lc rt nm args QQ h0 h1 v0 pc lo (st) h o := by
  subst hp
  exact Sim.pure (fun C H locs ls _ _ hl0 kk => lv_lconst C.1 C.2.1 hd hv (kk ls hl0)) k
theorem S_iload_n {q : Fin 4} {i : Nat} {x : Int32} (hd : decode cc pc = .ok (.iload_n q, 1)) (hi : (q : Nat) = i) (j : Nat) (hl : lo[j]? = some (i, .int x)) (hp : pc + 1 = pc')
    (k : Sim Z l cc own nL fr lc rt nm args QQ h0 h1 v0 pc' lo (.int x :: st) h o) : Sim Z l cc own nL fr lc rt nm args QQ h0 h1 v0 pc lo (st) h o := by
  subst hp
  exact Sim.pure (fun C H locs ls _ _ hl0 kk => lv_iload_n C.1 C.2.1 hd hi (lv_at hl0 j hl) (kk ls hl0)) k
theorem S_iload {i : Nat} {x : Int32} (hd : decode cc pc = .ok (.iload i, 2)) (j : Nat) (hl : lo[j]? = some (i, .int x)) (hp : pc + 2 = pc')
    (k : Sim Z l cc own nL fr lc rt nm args QQ h0 h1 v0 pc' lo (.int x :: st) h o) : Sim Z l cc own nL fr lc rt nm args QQ h0 h1 v0 pc lo (st) h o := by
  subst hp
  exact Sim.pure (fun C H locs ls _ _ hl0 kk => lv_iload C.1 C.2.1 hd (lv_at hl0 j hl) (kk ls hl0)) k
theorem S_istore_n  {q : Fin 4} {i : Nat} {x : Int32} (hd : decode cc pc = .ok (.istore_n q, 1)) (hi : (q : Nat) = i) (hn : i < nL) (hl : (i, Value.int x) :: lo.filter (fun q => !(q.1 == i) && !(q.1 + 1 == i && q.2.category == 2)) = lo') (hp : pc + 1 = pc')
    (k : Sim Z l cc own nL fr lc rt nm args QQ h0 h1 v0 pc' lo' st h o) : Sim Z l cc own nL fr lc rt nm args QQ h0 h1 v0 pc lo (.int x :: st) h o := by
  subst hp
  exact Sim.pure (fun C H locs ls _ _ hl0 kk => lv_istore_n C.1 C.2.1 hd hi hl0 hn hl (fun ls1 hl1 => kk ls1 hl1)) k
theorem S_istore  {i : Nat} {x : Int32} (hd : decode cc pc = .ok (.istore i, 2)) (hn : i < nL) (hl : (i, Value.int x) :: lo.filter (fun q => !(q.1 == i) && !(q.1 + 1 == i && q.2.category == 2)) = lo') (hp : pc + 2 = pc')
    (k : Sim Z l cc own nL fr lc rt nm args QQ h0 h1 v0 pc' lo' st h o) : Sim Z l cc own nL fr lc rt nm args QQ h0 h1 v0 pc lo (.int x :: st) h o := by
  subst hp
  exact Sim.pure (fun C H locs ls _ _ hl0 kk => lv_istore C.1 C.2.1 hd hl0 hn hl (fun ls1 hl1 => kk ls1 hl1)) k
theorem S_lload_n {q : Fin 4} {i : Nat} {x : Int64} (hd : decode cc pc = .ok (.lload_n q, 1)) (hi : (q : Nat) = i) (j : Nat) (hl : lo[j]? = some (i, .long x)) (hp : pc + 1 = pc')
    (k : Sim Z l cc own nL fr lc rt nm args QQ h0 h1 v0 pc' lo (.long x :: st) h o) : Sim Z l cc own nL fr lc rt nm args QQ h0 h1 v0 pc lo (st) h o := by
  subst hp
  exact Sim.pure (fun C H locs ls _ _ hl0 kk => lv_lload_n C.1 C.2.1 hd hi (lv_at hl0 j hl) (kk ls hl0)) k
theorem S_lload {i : Nat} {x : Int64} (hd : decode cc pc = .ok (.lload i, 2)) (j : Nat) (hl : lo[j]? = some (i, .long x)) (hp : pc + 2 = pc')
    (k : Sim Z l cc own nL fr lc rt nm args QQ h0 h1 v0 pc' lo (.long x :: st) h o) : Sim Z l cc own nL fr lc rt nm args QQ h0 h1 v0 pc lo (st) h o := by
  subst hp
  exact Sim.pure (fun C H locs ls _ _ hl0 kk => lv_lload C.1 C.2.1 hd (lv_at hl0 j hl) (kk ls hl0)) k
theorem S_lstore_n  {q : Fin 4} {i : Nat} {x : Int64} (hd : decode cc pc = .ok (.lstore_n q, 1)) (hi : (q : Nat) = i) (hn : i + 1 < nL) (hl : (i, Value.long x) :: lo.filter (fun q => !(q.1 == i) && (!(q.1 == i + 1) && !(q.1 + 1 == i && q.2.category == 2))) = lo') (hp : pc + 1 = pc')
    (k : Sim Z l cc own nL fr lc rt nm args QQ h0 h1 v0 pc' lo' st h o) : Sim Z l cc own nL fr lc rt nm args QQ h0 h1 v0 pc lo (.long x :: st) h o := by
  subst hp
  exact Sim.pure (fun C H locs ls _ _ hl0 kk => lv_lstore_n C.1 C.2.1 hd hi hl0 hn hl (fun ls1 hl1 => kk ls1 hl1)) k
theorem S_lstore  {i : Nat} {x : Int64} (hd : decode cc pc = .ok (.lstore i, 2)) (hn : i + 1 < nL) (hl : (i, Value.long x) :: lo.filter (fun q => !(q.1 == i) && (!(q.1 == i + 1) && !(q.1 + 1 == i && q.2.category == 2))) = lo') (hp : pc + 2 = pc')
    (k : Sim Z l cc own nL fr lc rt nm args QQ h0 h1 v0 pc' lo' st h o) : Sim Z l cc own nL fr lc rt nm args QQ h0 h1 v0 pc lo (.long x :: st) h o := by
  subst hp
  exact Sim.pure (fun C H locs ls _ _ hl0 kk => lv_lstore C.1 C.2.1 hd hl0 hn hl (fun ls1 hl1 => kk ls1 hl1)) k
theorem S_aload_n {q : Fin 4} {i : Nat} {x : Nat} (hd : decode cc pc = .ok (.aload_n q, 1)) (hi : (q : Nat) = i) (j : Nat) (hl : lo[j]? = some (i, .ref x)) (hp : pc + 1 = pc')
    (k : Sim Z l cc own nL fr lc rt nm args QQ h0 h1 v0 pc' lo (.ref x :: st) h o) : Sim Z l cc own nL fr lc rt nm args QQ h0 h1 v0 pc lo (st) h o := by
  subst hp
  exact Sim.pure (fun C H locs ls _ _ hl0 kk => lv_aload_n C.1 C.2.1 hd hi (lv_at hl0 j hl) (kk ls hl0)) k
theorem S_aload {i : Nat} {x : Nat} (hd : decode cc pc = .ok (.aload i, 2)) (j : Nat) (hl : lo[j]? = some (i, .ref x)) (hp : pc + 2 = pc')
    (k : Sim Z l cc own nL fr lc rt nm args QQ h0 h1 v0 pc' lo (.ref x :: st) h o) : Sim Z l cc own nL fr lc rt nm args QQ h0 h1 v0 pc lo (st) h o := by
  subst hp
  exact Sim.pure (fun C H locs ls _ _ hl0 kk => lv_aload C.1 C.2.1 hd (lv_at hl0 j hl) (kk ls hl0)) k
theorem S_astore_n  {q : Fin 4} {i : Nat} {x : Nat} (hd : decode cc pc = .ok (.astore_n q, 1)) (hi : (q : Nat) = i) (hn : i < nL) (hl : (i, Value.ref x) :: lo.filter (fun q => !(q.1 == i) && !(q.1 + 1 == i && q.2.category == 2)) = lo') (hp : pc + 1 = pc')
    (k : Sim Z l cc own nL fr lc rt nm args QQ h0 h1 v0 pc' lo' st h o) : Sim Z l cc own nL fr lc rt nm args QQ h0 h1 v0 pc lo (.ref x :: st) h o := by
  subst hp
  exact Sim.pure (fun C H locs ls _ _ hl0 kk => lv_astore_n C.1 C.2.1 hd hi hl0 hn hl (fun ls1 hl1 => kk ls1 hl1)) k
theorem S_astore  {i : Nat} {x : Nat} (hd : decode cc pc = .ok (.astore i, 2)) (hn : i < nL) (hl : (i, Value.ref x) :: lo.filter (fun q => !(q.1 == i) && !(q.1 + 1 == i && q.2.category == 2)) = lo') (hp : pc + 2 = pc')
    (k : Sim Z l cc own nL fr lc rt nm args QQ h0 h1 v0 pc' lo' st h o) : Sim Z l cc own nL fr lc rt nm args QQ h0 h1 v0 pc lo (.ref x :: st) h o := by
  subst hp
  exact Sim.pure (fun C H locs ls _ _ hl0 kk => lv_astore C.1 C.2.1 hd hl0 hn hl (fun ls1 hl1 => kk ls1 hl1)) k
theorem S_iinc  {i q : Nat} {n : Int} {x v : Int32} (hd : decode cc pc = .ok (.iinc i n, 3)) (hq : lo[q]? = some (i, .int x)) (hv : x + Int32.ofInt n = v) (hn : i < nL) (hl : (i, Value.int v) :: lo.filter (fun q => !(q.1 == i) && !(q.1 + 1 == i && q.2.category == 2)) = lo') (hp : pc + 3 = pc')
    (k : Sim Z l cc own nL fr lc rt nm args QQ h0 h1 v0 pc' lo' st h o) : Sim Z l cc own nL fr lc rt nm args QQ h0 h1 v0 pc lo st h o := by
  subst hp
  exact Sim.pure (fun C H locs ls _ _ hl0 kk => lv_iinc C.1 C.2.1 hd hl0 hq hv hn hl (fun ls1 hl1 => kk ls1 hl1)) k
theorem S_iadd {x y : Int32} (hd : decode cc pc = .ok (.iadd, 1)) (hp : pc + 1 = pc')
    (k : Sim Z l cc own nL fr lc rt nm args QQ h0 h1 v0 pc' lo (.int (x + y) :: st) h o) : Sim Z l cc own nL fr lc rt nm args QQ h0 h1 v0 pc lo (.int y :: .int x :: st) h o := by
  subst hp
  exact Sim.pure (fun C H locs ls _ _ hl0 kk => lv_iadd C.1 C.2.1 hd (kk ls hl0)) k
theorem S_isub {x y : Int32} (hd : decode cc pc = .ok (.isub, 1)) (hp : pc + 1 = pc')
    (k : Sim Z l cc own nL fr lc rt nm args QQ h0 h1 v0 pc' lo (.int (x - y) :: st) h o) : Sim Z l cc own nL fr lc rt nm args QQ h0 h1 v0 pc lo (.int y :: .int x :: st) h o := by
  subst hp
  exact Sim.pure (fun C H locs ls _ _ hl0 kk => lv_isub C.1 C.2.1 hd (kk ls hl0)) k
theorem S_imul {x y : Int32} (hd : decode cc pc = .ok (.imul, 1)) (hp : pc + 1 = pc')
    (k : Sim Z l cc own nL fr lc rt nm args QQ h0 h1 v0 pc' lo (.int (x * y) :: st) h o) : Sim Z l cc own nL fr lc rt nm args QQ h0 h1 v0 pc lo (.int y :: .int x :: st) h o := by
  subst hp
  exact Sim.pure (fun C H locs ls _ _ hl0 kk => lv_imul C.1 C.2.1 hd (kk ls hl0)) k
theorem S_iand {x y : Int32} (hd : decode cc pc = .ok (.iand, 1)) (hp : pc + 1 = pc')
    (k : Sim Z l cc own nL fr lc rt nm args QQ h0 h1 v0 pc' lo (.int (x &&& y) :: st) h o) : Sim Z l cc own nL fr lc rt nm args QQ h0 h1 v0 pc lo (.int y :: .int x :: st) h o := by
  subst hp
  exact Sim.pure (fun C H locs ls _ _ hl0 kk => lv_iand C.1 C.2.1 hd (kk ls hl0)) k
theorem S_ior {x y : Int32} (hd : decode cc pc = .ok (.ior, 1)) (hp : pc + 1 = pc')
    (k : Sim Z l cc own nL fr lc rt nm args QQ h0 h1 v0 pc' lo (.int (x ||| y) :: st) h o) : Sim Z l cc own nL fr lc rt nm args QQ h0 h1 v0 pc lo (.int y :: .int x :: st) h o := by
  subst hp
  exact Sim.pure (fun C H locs ls _ _ hl0 kk => lv_ior C.1 C.2.1 hd (kk ls hl0)) k
theorem S_ixor {x y : Int32} (hd : decode cc pc = .ok (.ixor, 1)) (hp : pc + 1 = pc')
    (k : Sim Z l cc own nL fr lc rt nm args QQ h0 h1 v0 pc' lo (.int (x ^^^ y) :: st) h o) : Sim Z l cc own nL fr lc rt nm args QQ h0 h1 v0 pc lo (.int y :: .int x :: st) h o := by
  subst hp
  exact Sim.pure (fun C H locs ls _ _ hl0 kk => lv_ixor C.1 C.2.1 hd (kk ls hl0)) k
theorem S_ishl {x y : Int32} (hd : decode cc pc = .ok (.ishl, 1)) (hp : pc + 1 = pc')
    (k : Sim Z l cc own nL fr lc rt nm args QQ h0 h1 v0 pc' lo (.int (x <<< (y &&& 31)) :: st) h o) : Sim Z l cc own nL fr lc rt nm args QQ h0 h1 v0 pc lo (.int y :: .int x :: st) h o := by
  subst hp
  exact Sim.pure (fun C H locs ls _ _ hl0 kk => lv_ishl C.1 C.2.1 hd (kk ls hl0)) k
theorem S_ishr {x y : Int32} (hd : decode cc pc = .ok (.ishr, 1)) (hp : pc + 1 = pc')
    (k : Sim Z l cc own nL fr lc rt nm args QQ h0 h1 v0 pc' lo (.int (x >>> (y &&& 31)) :: st) h o) : Sim Z l cc own nL fr lc rt nm args QQ h0 h1 v0 pc lo (.int y :: .int x :: st) h o := by
  subst hp
  exact Sim.pure (fun C H locs ls _ _ hl0 kk => lv_ishr C.1 C.2.1 hd (kk ls hl0)) k
theorem S_land {x y : Int64} (hd : decode cc pc = .ok (.land, 1)) (hp : pc + 1 = pc')
    (k : Sim Z l cc own nL fr lc rt nm args QQ h0 h1 v0 pc' lo (.long (x &&& y) :: st) h o) : Sim Z l cc own nL fr lc rt nm args QQ h0 h1 v0 pc lo (.long y :: .long x :: st) h o := by
  subst hp
  exact Sim.pure (fun C H locs ls _ _ hl0 kk => lv_land C.1 C.2.1 hd (kk ls hl0)) k
theorem S_lor {x y : Int64} (hd : decode cc pc = .ok (.lor, 1)) (hp : pc + 1 = pc')
    (k : Sim Z l cc own nL fr lc rt nm args QQ h0 h1 v0 pc' lo (.long (x ||| y) :: st) h o) : Sim Z l cc own nL fr lc rt nm args QQ h0 h1 v0 pc lo (.long y :: .long x :: st) h o := by
  subst hp
  exact Sim.pure (fun C H locs ls _ _ hl0 kk => lv_lor C.1 C.2.1 hd (kk ls hl0)) k
theorem S_lshl {x : Int64} {y : Int32} (hd : decode cc pc = .ok (.lshl, 1)) (hp : pc + 1 = pc')
    (k : Sim Z l cc own nL fr lc rt nm args QQ h0 h1 v0 pc' lo (.long (x <<< (y.toInt64 &&& 63)) :: st) h o) : Sim Z l cc own nL fr lc rt nm args QQ h0 h1 v0 pc lo (.int y :: .long x :: st) h o := by
  subst hp
  exact Sim.pure (fun C H locs ls _ _ hl0 kk => lv_lshl C.1 C.2.1 hd rfl (kk ls hl0)) k
theorem S_iushr {x y : Int32} (hd : decode cc pc = .ok (.iushr, 1)) (hp : pc + 1 = pc')
    (k : Sim Z l cc own nL fr lc rt nm args QQ h0 h1 v0 pc' lo (.int ((x.toUInt32 >>> (y.toUInt32 &&& Int32.toUInt32 31)).toInt32) :: st) h o) : Sim Z l cc own nL fr lc rt nm args QQ h0 h1 v0 pc lo (.int y :: .int x :: st) h o := by
  subst hp
  exact Sim.pure (fun C H locs ls _ _ hl0 kk => lv_iushr C.1 C.2.1 hd rfl (kk ls hl0)) k
theorem S_ineg {x : Int32} (hd : decode cc pc = .ok (.ineg, 1)) (hp : pc + 1 = pc')
    (k : Sim Z l cc own nL fr lc rt nm args QQ h0 h1 v0 pc' lo (.int (-x) :: st) h o) : Sim Z l cc own nL fr lc rt nm args QQ h0 h1 v0 pc lo (.int x :: st) h o := by
  subst hp
  exact Sim.pure (fun C H locs ls _ _ hl0 kk => lv_ineg C.1 C.2.1 hd (kk ls hl0)) k
theorem S_i2l {x : Int32} (hd : decode cc pc = .ok (.i2l, 1)) (hp : pc + 1 = pc')
    (k : Sim Z l cc own nL fr lc rt nm args QQ h0 h1 v0 pc' lo (.long (x.toInt64) :: st) h o) : Sim Z l cc own nL fr lc rt nm args QQ h0 h1 v0 pc lo (.int x :: st) h o := by
  subst hp
  exact Sim.pure (fun C H locs ls _ _ hl0 kk => lv_i2l C.1 C.2.1 hd rfl (kk ls hl0)) k
theorem S_l2i {x : Int64} (hd : decode cc pc = .ok (.l2i, 1)) (hp : pc + 1 = pc')
    (k : Sim Z l cc own nL fr lc rt nm args QQ h0 h1 v0 pc' lo (.int (x.toInt32) :: st) h o) : Sim Z l cc own nL fr lc rt nm args QQ h0 h1 v0 pc lo (.long x :: st) h o := by
  subst hp
  exact Sim.pure (fun C H locs ls _ _ hl0 kk => lv_l2i C.1 C.2.1 hd rfl (kk ls hl0)) k
theorem S_i2b {x : Int32} (hd : decode cc pc = .ok (.i2b, 1)) (hp : pc + 1 = pc')
    (k : Sim Z l cc own nL fr lc rt nm args QQ h0 h1 v0 pc' lo (.int (x.toInt8.toInt32) :: st) h o) : Sim Z l cc own nL fr lc rt nm args QQ h0 h1 v0 pc lo (.int x :: st) h o := by
  subst hp
  exact Sim.pure (fun C H locs ls _ _ hl0 kk => lv_i2b C.1 C.2.1 hd rfl (kk ls hl0)) k
theorem S_i2s {x : Int32} (hd : decode cc pc = .ok (.i2s, 1)) (hp : pc + 1 = pc')
    (k : Sim Z l cc own nL fr lc rt nm args QQ h0 h1 v0 pc' lo (.int (x.toInt16.toInt32) :: st) h o) : Sim Z l cc own nL fr lc rt nm args QQ h0 h1 v0 pc lo (.int x :: st) h o := by
  subst hp
  exact Sim.pure (fun C H locs ls _ _ hl0 kk => lv_i2s C.1 C.2.1 hd rfl (kk ls hl0)) k
theorem S_i2c {x : Int32} (hd : decode cc pc = .ok (.i2c, 1)) (hp : pc + 1 = pc')
    (k : Sim Z l cc own nL fr lc rt nm args QQ h0 h1 v0 pc' lo (.int ((x.toUInt32 % 65536).toInt32) :: st) h o) : Sim Z l cc own nL fr lc rt nm args QQ h0 h1 v0 pc lo (.int x :: st) h o := by
  subst hp
  exact Sim.pure (fun C H locs ls _ _ hl0 kk => lv_i2c C.1 C.2.1 hd rfl (kk ls hl0)) k
theorem S_lcmp {x y : Int64} (hd : decode cc pc = .ok (.lcmp, 1)) (hp : pc + 1 = pc')
    (k : Sim Z l cc own nL fr lc rt nm args QQ h0 h1 v0 pc' lo (.int (lg_cmp x y) :: st) h o) : Sim Z l cc own nL fr lc rt nm args QQ h0 h1 v0 pc lo (.long y :: .long x :: st) h o := by
  subst hp
  exact Sim.pure (fun C H locs ls _ _ hl0 kk => W.lcmp C.1 C.2.1 hd (kk ls hl0)) k
theorem S_dup {va : Value} (hd : decode cc pc = .ok (.dup, 1)) (hva : va.category = 1) (hp : pc + 1 = pc')
    (k : Sim Z l cc own nL fr lc rt nm args QQ h0 h1 v0 pc' lo (va :: va :: st) h o) : Sim Z l cc own nL fr lc rt nm args QQ h0 h1 v0 pc lo (va :: st) h o := by
  subst hp
  exact Sim.pure (fun C H locs ls _ _ hl0 kk => lv_dup C.1 C.2.1 hd hva (kk ls hl0)) k
theorem S_pop {va : Value} (hd : decode cc pc = .ok (.pop, 1)) (hva : va.category = 1) (hp : pc + 1 = pc')
    (k : Sim Z l cc own nL fr lc rt nm args QQ h0 h1 v0 pc' lo (st) h o) : Sim Z l cc own nL fr lc rt nm args QQ h0 h1 v0 pc lo (va :: st) h o := by
  subst hp
  exact Sim.pure (fun C H locs ls _ _ hl0 kk => lv_pop C.1 C.2.1 hd hva (kk ls hl0)) k
theorem S_dup_x1 {va vb : Value} (hd : decode cc pc = .ok (.dup_x1, 1)) (hva : va.category = 1) (hvb : vb.category = 1) (hp : pc + 1 = pc')
    (k : Sim Z l cc own nL fr lc rt nm args QQ h0 h1 v0 pc' lo (va :: vb :: va :: st) h o) : Sim Z l cc own nL fr lc rt nm args QQ h0 h1 v0 pc lo (va :: vb :: st) h o := by
  subst hp
  exact Sim.pure (fun C H locs ls _ _ hl0 kk => lv_dup_x1 C.1 C.2.1 hd hva hvb (kk ls hl0)) k
theorem S_dup2 {va vb : Value} (hd : decode cc pc = .ok (.dup2, 1)) (hva : va.category = 1) (hvb : vb.category = 1) (hp : pc + 1 = pc')
    (k : Sim Z l cc own nL fr lc rt nm args QQ h0 h1 v0 pc' lo (va :: vb :: va :: vb :: st) h o) : Sim Z l cc own nL fr lc rt nm args QQ h0 h1 v0 pc lo (va :: vb :: st) h o := by
  subst hp
  exact Sim.pure (fun C H locs ls _ _ hl0 kk => lv_dup2_11 C.1 C.2.1 hd hva hvb (kk ls hl0)) k
theorem S_ldc {index : Nat} {v : Int32} (hd : decode cc pc = .ok (.ldc index, 2)) (hc : Cond.constant own index v ∈ lw_tbl) (hp : pc + 2 = pc')
    (k : Sim Z l cc own nL fr lc rt nm args QQ h0 h1 v0 pc' lo (.int v :: st) h o) : Sim Z l cc own nL fr lc rt nm args QQ h0 h1 v0 pc lo (st) h o := by
  subst hp
  exact Sim.pure (fun C H locs ls _ _ hl0 kk => lv_ldc C.1 C.2.1 C.2.2.2.1 (C.2.2.2.2.1.1.use hc rfl) hd (kk ls hl0)) k
theorem S_ldcw {index : Nat} {v : Int32} (hd : decode cc pc = .ok (.ldc_w index, 3)) (hc : Cond.constant own index v ∈ lw_tbl) (hp : pc + 3 = pc')
    (k : Sim Z l cc own nL fr lc rt nm args QQ h0 h1 v0 pc' lo (.int v :: st) h o) : Sim Z l cc own nL fr lc rt nm args QQ h0 h1 v0 pc lo (st) h o := by
  subst hp
  exact Sim.pure (fun C H locs ls _ _ hl0 kk => lv_ldcw C.1 C.2.1 C.2.2.2.1 (C.2.2.2.2.1.1.use hc rfl) hd (kk ls hl0)) k
theorem S_ldc2 {index : Nat} {v : Int64} (hd : decode cc pc = .ok (.ldc2_w index, 3)) (hc : Cond.constantLong own index v ∈ lw_tbl) (hp : pc + 3 = pc')
    (k : Sim Z l cc own nL fr lc rt nm args QQ h0 h1 v0 pc' lo (.long v :: st) h o) : Sim Z l cc own nL fr lc rt nm args QQ h0 h1 v0 pc lo (st) h o := by
  subst hp
  exact Sim.pure (fun C H locs ls _ _ hl0 kk => lv_ldc2 C.1 C.2.1 C.2.2.2.1 (C.2.2.2.2.1.1.use hc rfl) hd (kk ls hl0)) k
theorem S_ldcS {index : Nat} {tx : String} (i : Nat) (hd : decode cc pc = .ok (.ldc index, 2)) (hc : litT[i]? = some (own, index, tx)) (hp : pc + 2 = pc')
    (k : Sim Z l cc own nL fr lc rt nm args QQ h0 h1 v0 pc' lo (.ref (zK Z i) :: st) h o) : Sim Z l cc own nL fr lc rt nm args QQ h0 h1 v0 pc lo (st) h o := by
  subst hp
  exact Sim.pure (fun C H locs ls _ _ hl0 kk => va_ldcS C.1 C.2.1 C.2.2.2.1 (C.2.2.2.2.1.2.2.2.2.1 i _ hc) hd (kk ls hl0)) k
theorem S_goto  {off : Int} (hd : decode cc pc = .ok (.goto off, 3)) (tgt : Nat) (ht : (pc : Int) + off = (tgt : Int))
    (k : Sim Z l cc own nL fr lc rt nm args QQ h0 h1 v0 tgt lo st h o) : Sim Z l cc own nL fr lc rt nm args QQ h0 h1 v0 pc lo st h o := by
  exact Sim.pure (fun C H locs ls _ _ hl0 kk => lv_goto C.1 C.2.1 hd ht (kk ls hl0)) k
theorem S_if_eq  {x : Int32} {off : Int} (hd : decode cc pc = .ok (.ifCond .eq off, 3)) (tgt : Nat) (ht : (pc : Int) + off = (tgt : Int)) (hp : pc + 3 = pc')
    (kt : Sim Z l cc own nL fr lc rt nm args QQ h0 h1 v0 tgt lo st h o1) (kf : Sim Z l cc own nL fr lc rt nm args QQ h0 h1 v0 pc' lo st h o2) : Sim Z l cc own nL fr lc rt nm args QQ h0 h1 v0 pc lo (.int x :: st) h (if x = 0 then o1 else o2) := by
  subst hp
  by_cases g : x = 0
  · rw [if_pos g]
    exact Sim.pure (fun C H locs ls _ _ hl0 kk => lv_if_eq C.1 C.2.1 hd ht (fun _ => kk ls hl0) (fun n => absurd g n)) kt
  · rw [if_neg g]
    exact Sim.pure (fun C H locs ls _ _ hl0 kk => lv_if_eq C.1 C.2.1 hd ht (fun n => absurd n g) (fun _ => kk ls hl0)) kf
theorem S_icmp_eq  {x y : Int32} {off : Int} (hd : decode cc pc = .ok (.if_icmp .eq off, 3)) (tgt : Nat) (ht : (pc : Int) + off = (tgt : Int)) (hp : pc + 3 = pc')
    (kt : Sim Z l cc own nL fr lc rt nm args QQ h0 h1 v0 tgt lo st h o1) (kf : Sim Z l cc own nL fr lc rt nm args QQ h0 h1 v0 pc' lo st h o2) : Sim Z l cc own nL fr lc rt nm args QQ h0 h1 v0 pc lo (.int y :: .int x :: st) h (if x = y then o1 else o2) := by
  subst hp
  by_cases g : x = y
  · rw [if_pos g]
    exact Sim.pure (fun C H locs ls _ _ hl0 kk => lv_icmp_eq C.1 C.2.1 hd ht (fun _ => kk ls hl0) (fun n => absurd g n)) kt
  · rw [if_neg g]
    exact Sim.pure (fun C H locs ls _ _ hl0 kk => lv_icmp_eq C.1 C.2.1 hd ht (fun n => absurd n g) (fun _ => kk ls hl0)) kf
theorem S_if_ne  {x : Int32} {off : Int} (hd : decode cc pc = .ok (.ifCond .ne off, 3)) (tgt : Nat) (ht : (pc : Int) + off = (tgt : Int)) (hp : pc + 3 = pc')
    (kt : Sim Z l cc own nL fr lc rt nm args QQ h0 h1 v0 tgt lo st h o1) (kf : Sim Z l cc own nL fr lc rt nm args QQ h0 h1 v0 pc' lo st h o2) : Sim Z l cc own nL fr lc rt nm args QQ h0 h1 v0 pc lo (.int x :: st) h (if x = 0 then o2 else o1) := by
  subst hp
  by_cases g : x = 0
  · rw [if_pos g]
    exact Sim.pure (fun C H locs ls _ _ hl0 kk => lv_if_ne C.1 C.2.1 hd ht (fun n => absurd g n) (fun _ => kk ls hl0)) kf
  · rw [if_neg g]
    exact Sim.pure (fun C H locs ls _ _ hl0 kk => lv_if_ne C.1 C.2.1 hd ht (fun _ => kk ls hl0) (fun n => absurd n g)) kt
theorem S_icmp_ne  {x y : Int32} {off : Int} (hd : decode cc pc = .ok (.if_icmp .ne off, 3)) (tgt : Nat) (ht : (pc : Int) + off = (tgt : Int)) (hp : pc + 3 = pc')
    (kt : Sim Z l cc own nL fr lc rt nm args QQ h0 h1 v0 tgt lo st h o1) (kf : Sim Z l cc own nL fr lc rt nm args QQ h0 h1 v0 pc' lo st h o2) : Sim Z l cc own nL fr lc rt nm args QQ h0 h1 v0 pc lo (.int y :: .int x :: st) h (if x = y then o2 else o1) := by
  subst hp
  by_cases g : x = y
  · rw [if_pos g]
    exact Sim.pure (fun C H locs ls _ _ hl0 kk => lv_icmp_ne C.1 C.2.1 hd ht (fun n => absurd g n) (fun _ => kk ls hl0)) kf
  · rw [if_neg g]
    exact Sim.pure (fun C H locs ls _ _ hl0 kk => lv_icmp_ne C.1 C.2.1 hd ht (fun _ => kk ls hl0) (fun n => absurd n g)) kt
theorem S_if_lt  {x : Int32} {off : Int} (hd : decode cc pc = .ok (.ifCond .lt off, 3)) (tgt : Nat) (ht : (pc : Int) + off = (tgt : Int)) (hp : pc + 3 = pc')
    (kt : Sim Z l cc own nL fr lc rt nm args QQ h0 h1 v0 tgt lo st h o1) (kf : Sim Z l cc own nL fr lc rt nm args QQ h0 h1 v0 pc' lo st h o2) : Sim Z l cc own nL fr lc rt nm args QQ h0 h1 v0 pc lo (.int x :: st) h (if x < 0 then o1 else o2) := by
  subst hp
  by_cases g : x < 0
  · rw [if_pos g]
    exact Sim.pure (fun C H locs ls _ _ hl0 kk => lv_if_lt C.1 C.2.1 hd ht (fun _ => kk ls hl0) (fun n => absurd g n)) kt
  · rw [if_neg g]
    exact Sim.pure (fun C H locs ls _ _ hl0 kk => lv_if_lt C.1 C.2.1 hd ht (fun n => absurd n g) (fun _ => kk ls hl0)) kf
theorem S_icmp_lt  {x y : Int32} {off : Int} (hd : decode cc pc = .ok (.if_icmp .lt off, 3)) (tgt : Nat) (ht : (pc : Int) + off = (tgt : Int)) (hp : pc + 3 = pc')
    (kt : Sim Z l cc own nL fr lc rt nm args QQ h0 h1 v0 tgt lo st h o1) (kf : Sim Z l cc own nL fr lc rt nm args QQ h0 h1 v0 pc' lo st h o2) : Sim Z l cc own nL fr lc rt nm args QQ h0 h1 v0 pc lo (.int y :: .int x :: st) h (if x < y then o1 else o2) := by
  subst hp
  by_cases g : x < y
  · rw [if_pos g]
    exact Sim.pure (fun C H locs ls _ _ hl0 kk => lv_icmp_lt C.1 C.2.1 hd ht (fun _ => kk ls hl0) (fun n => absurd g n)) kt
  · rw [if_neg g]
    exact Sim.pure (fun C H locs ls _ _ hl0 kk => lv_icmp_lt C.1 C.2.1 hd ht (fun n => absurd n g) (fun _ => kk ls hl0)) kf
theorem S_if_ge  {x : Int32} {off : Int} (hd : decode cc pc = .ok (.ifCond .ge off, 3)) (tgt : Nat) (ht : (pc : Int) + off = (tgt : Int)) (hp : pc + 3 = pc')
    (kt : Sim Z l cc own nL fr lc rt nm args QQ h0 h1 v0 tgt lo st h o1) (kf : Sim Z l cc own nL fr lc rt nm args QQ h0 h1 v0 pc' lo st h o2) : Sim Z l cc own nL fr lc rt nm args QQ h0 h1 v0 pc lo (.int x :: st) h (if 0 ≤ x then o1 else o2) := by
  subst hp
  by_cases g : 0 ≤ x
  · rw [if_pos g]
    exact Sim.pure (fun C H locs ls _ _ hl0 kk => lv_if_ge C.1 C.2.1 hd ht (fun _ => kk ls hl0) (fun n => absurd g n)) kt
  · rw [if_neg g]
    exact Sim.pure (fun C H locs ls _ _ hl0 kk => lv_if_ge C.1 C.2.1 hd ht (fun n => absurd n g) (fun _ => kk ls hl0)) kf
theorem S_icmp_ge  {x y : Int32} {off : Int} (hd : decode cc pc = .ok (.if_icmp .ge off, 3)) (tgt : Nat) (ht : (pc : Int) + off = (tgt : Int)) (hp : pc + 3 = pc')
    (kt : Sim Z l cc own nL fr lc rt nm args QQ h0 h1 v0 tgt lo st h o1) (kf : Sim Z l cc own nL fr lc rt nm args QQ h0 h1 v0 pc' lo st h o2) : Sim Z l cc own nL fr lc rt nm args QQ h0 h1 v0 pc lo (.int y :: .int x :: st) h (if y ≤ x then o1 else o2) := by
  subst hp
  by_cases g : y ≤ x
  · rw [if_pos g]
    exact Sim.pure (fun C H locs ls _ _ hl0 kk => lv_icmp_ge C.1 C.2.1 hd ht (fun _ => kk ls hl0) (fun n => absurd g n)) kt
  · rw [if_neg g]
    exact Sim.pure (fun C H locs ls _ _ hl0 kk => lv_icmp_ge C.1 C.2.1 hd ht (fun n => absurd n g) (fun _ => kk ls hl0)) kf
theorem S_if_gt  {x : Int32} {off : Int} (hd : decode cc pc = .ok (.ifCond .gt off, 3)) (tgt : Nat) (ht : (pc : Int) + off = (tgt : Int)) (hp : pc + 3 = pc')
    (kt : Sim Z l cc own nL fr lc rt nm args QQ h0 h1 v0 tgt lo st h o1) (kf : Sim Z l cc own nL fr lc rt nm args QQ h0 h1 v0 pc' lo st h o2) : Sim Z l cc own nL fr lc rt nm args QQ h0 h1 v0 pc lo (.int x :: st) h (if 0 < x then o1 else o2) := by
  subst hp
  by_cases g : 0 < x
  · rw [if_pos g]
    exact Sim.pure (fun C H locs ls _ _ hl0 kk => lv_if_gt C.1 C.2.1 hd ht (fun _ => kk ls hl0) (fun n => absurd g n)) kt
  · rw [if_neg g]
    exact Sim.pure (fun C H locs ls _ _ hl0 kk => lv_if_gt C.1 C.2.1 hd ht (fun n => absurd n g) (fun _ => kk ls hl0)) kf
theorem S_icmp_gt  {x y : Int32} {off : Int} (hd : decode cc pc = .ok (.if_icmp .gt off, 3)) (tgt : Nat) (ht : (pc : Int) + off = (tgt : Int)) (hp : pc + 3 = pc')
    (kt : Sim Z l cc own nL fr lc rt nm args QQ h0 h1 v0 tgt lo st h o1) (kf : Sim Z l cc own nL fr lc rt nm args QQ h0 h1 v0 pc' lo st h o2) : Sim Z l cc own nL fr lc rt nm args QQ h0 h1 v0 pc lo (.int y :: .int x :: st) h (if y < x then o1 else o2) := by
  subst hp
  by_cases g : y < x
  · rw [if_pos g]
    exact Sim.pure (fun C H locs ls _ _ hl0 kk => lv_icmp_gt C.1 C.2.1 hd ht (fun _ => kk ls hl0) (fun n => absurd g n)) kt
  · rw [if_neg g]
    exact Sim.pure (fun C H locs ls _ _ hl0 kk => lv_icmp_gt C.1 C.2.1 hd ht (fun n => absurd n g) (fun _ => kk ls hl0)) kf
theorem S_if_le  {x : Int32} {off : Int} (hd : decode cc pc = .ok (.ifCond .le off, 3)) (tgt : Nat) (ht : (pc : Int) + off = (tgt : Int)) (hp : pc + 3 = pc')
    (kt : Sim Z l cc own nL fr lc rt nm args QQ h0 h1 v0 tgt lo st h o1) (kf : Sim Z l cc own nL fr lc rt nm args QQ h0 h1 v0 pc' lo st h o2) : Sim Z l cc own nL fr lc rt nm args QQ h0 h1 v0 pc lo (.int x :: st) h (if x ≤ 0 then o1 else o2) := by
  subst hp
  by_cases g : x ≤ 0
  · rw [if_pos g]
    exact Sim.pure (fun C H locs ls _ _ hl0 kk => lv_if_le C.1 C.2.1 hd ht (fun _ => kk ls hl0) (fun n => absurd g n)) kt
  · rw [if_neg g]
    exact Sim.pure (fun C H locs ls _ _ hl0 kk => lv_if_le C.1 C.2.1 hd ht (fun n => absurd n g) (fun _ => kk ls hl0)) kf
theorem S_icmp_le  {x y : Int32} {off : Int} (hd : decode cc pc = .ok (.if_icmp .le off, 3)) (tgt : Nat) (ht : (pc : Int) + off = (tgt : Int)) (hp : pc + 3 = pc')
    (kt : Sim Z l cc own nL fr lc rt nm args QQ h0 h1 v0 tgt lo st h o1) (kf : Sim Z l cc own nL fr lc rt nm args QQ h0 h1 v0 pc' lo st h o2) : Sim Z l cc own nL fr lc rt nm args QQ h0 h1 v0 pc lo (.int y :: .int x :: st) h (if x ≤ y then o1 else o2) := by
  subst hp
  by_cases g : x ≤ y
  · rw [if_pos g]
    exact Sim.pure (fun C H locs ls _ _ hl0 kk => lv_icmp_le C.1 C.2.1 hd ht (fun _ => kk ls hl0) (fun n => absurd g n)) kt
  · rw [if_neg g]
    exact Sim.pure (fun C H locs ls _ _ hl0 kk => lv_icmp_le C.1 C.2.1 hd ht (fun n => absurd n g) (fun _ => kk ls hl0)) kf
theorem S_table  {dflt lo' hi : Int} {offs : Array Int} {len : Nat} {x : Int32} (hd : decode cc pc = .ok (.tableswitch dflt lo' hi offs, len)) (td : Nat) (htd : (pc : Int) + dflt = (td : Int)) (f : Nat → Option (ρ × HP)) (g : Nat → Nat) (n : Nat) (hn : hi - lo' + 1 = (n : Int))
    (hg : ∀ i, i < n → ∃ off, offs[i]? = some off ∧ (pc : Int) + off = ((g i : Nat) : Int)) (kt : ∀ i, i < n → Sim Z l cc own nL fr lc rt nm args QQ h0 h1 v0 (g i) lo st h (f i)) (kd : Sim Z l cc own nL fr lc rt nm args QQ h0 h1 v0 td lo st h o2) : Sim Z l cc own nL fr lc rt nm args QQ h0 h1 v0 pc lo (.int x :: st) h (if lo' ≤ x.toInt ∧ x.toInt ≤ hi then f (x.toInt - lo').toNat else o2) := by
  by_cases q : lo' ≤ x.toInt ∧ x.toInt ≤ hi
  · rw [if_pos q]
    have hi9 : (x.toInt - lo').toNat < n := by omega
    obtain ⟨off, ho, ht⟩ := hg _ hi9
    exact Sim.pure (fun C H locs ls _ _ hl0 kk => lv_tableIn C.1 C.2.1 hd (by omega) (by omega) ho ht (kk ls hl0)) (kt _ hi9)
  · rw [if_neg q]
    exact Sim.pure (fun C H locs ls _ _ hl0 kk => lv_tableOut C.1 C.2.1 hd (by omega) htd (kk ls hl0)) kd
theorem S_idiv  {x y : Int32} (hd : decode cc pc = .ok (.idiv, 1)) (hp : pc + 1 = pc')
    (k : Sim Z l cc own nL fr lc rt nm args QQ h0 h1 v0 pc' lo (.int (x / y) :: st) h o) : Sim Z l cc own nL fr lc rt nm args QQ h0 h1 v0 pc lo (.int y :: .int x :: st) h ((dz y).bind fun _ => o) := by
  subst hp
  intro ho
  unfold dz at ho
  by_cases g : y = 0
  · rw [if_pos g] at ho
    cases ho
  · rw [if_neg g] at ho
    exact Sim.pure (fun C H locs ls _ _ hl0 kk => lv_idiv C.1 C.2.1 hd g (kk ls hl0)) k ho
theorem S_irem  {x y : Int32} (hd : decode cc pc = .ok (.irem, 1)) (hp : pc + 1 = pc')
    (k : Sim Z l cc own nL fr lc rt nm args QQ h0 h1 v0 pc' lo (.int (x - x / y * y) :: st) h o) : Sim Z l cc own nL fr lc rt nm args QQ h0 h1 v0 pc lo (.int y :: .int x :: st) h ((dz y).bind fun _ => o) := by
  subst hp
  intro ho
  unfold dz at ho
  by_cases g : y = 0
  · rw [if_pos g] at ho
    cases ho
  · rw [if_neg g] at ho
    exact Sim.pure (fun C H locs ls _ _ hl0 kk => lv_irem C.1 C.2.1 hd g (kk ls hl0)) k ho
theorem fl_get (C : Cx p R s m meth c Z cc own nL fr lc rt nm h0 h1) {idx ci k : Nat} {t : FieldType} {fin ne : Bool} (fl : FL own idx ci k t fin ne) (hd : decode cc pc = .ok (.getfield idx, 3)) {a : Nat} (g : oC ci h a = true) {H : Heap} {locs : List Loc} {ls : Array Slot} {cells slots : Nat} (hP : Rl Z h H)
    (kk : W p l e R s m args below meth c H locs cells slots Q (F0 m (pc + 3) ls (fvl Z h a ci k :: st))) : W p l e R s m args below meth c H locs cells slots Q (F0 m pc ls (.ref (zb Z + a) :: st)) := by
  obtain ⟨ga, gt⟩ := oC_spec g
  obtain ⟨C', T, ty, N, f1, f2, rfl, f4, f5, f6, f7, f8, f9, f10, hlk⟩ := fl
  have he := wsO_get Z h ga
  rw [ent_obj gt f2] at he
  have EW := C.2.2.2.2.1.1
  have hv := fs_get (Z := Z) (h := h) (a := a) f4
  rcases hlk with ⟨hne, hlk⟩ | ⟨hne, host, hlk⟩
  · exact va_get (Ts := u_ws C' T (nfl ci)) C.1 C.2.1 (fun w hw => EW.use (f5 w hw) (u_good w hw)) (fun _ h => h) C.2.2.2.1 C.2.2.2.2.1.2.1 hP.1 a he f1 k f4 (EW.use hlk rfl) (fun _ h => h) hv hd kk
  · exact va_getN (Ts := u_ws C' T (nfl ci)) C.1 C.2.1 (fun w hw => EW.use (f5 w hw) (u_good w hw)) (fun _ h => h) C.2.2.2.1 C.2.2.2.2.1.2.1 hP.1 a he f1 k f4 (EW.nest hlk rfl) (fun _ h => h) hv hd kk
theorem S_getI  {idx ci k : Nat} {t : FieldType} {fin ne : Bool} (fl : FL own idx ci k t fin ne) (hk : isrf ci k = false) (hd : decode cc pc = .ok (.getfield idx, 3)) (hp : pc + 3 = pc') {a : Nat} {f : Int32 → Option (ρ × HP)}
    (kk : ∀ x, Sim Z l cc own nL fr lc rt nm args QQ h0 h1 v0 pc' lo (.int x :: st) h (f x)) : Sim Z l cc own nL fr lc rt nm args QQ h0 h1 v0 pc lo (.ref (zb Z + a) :: st) h ((gI ci k a h).bind f) := by
  subst hp
  intro ho
  unfold gI at ho
  by_cases g : oC ci h a = true
  · rw [if_pos g] at ho
    obtain ⟨m1, w1⟩ := kk _ ho
    refine ⟨m1, fun C a1 H locs ls hP hS hl => fl_get C fl hd g hP ?_⟩
    rw [fvl_int hk]
    exact w1 C a1 H locs ls hP hS hl
  · rw [if_neg g] at ho
    cases ho
theorem S_getR  {idx ci k : Nat} {t : FieldType} {fin ne : Bool} (fl : FL own idx ci k t fin ne) (hk : isrf ci k = true) (hd : decode cc pc = .ok (.getfield idx, 3)) (hp : pc + 3 = pc') {a : Nat} {f : Nat → Option (ρ × HP)}
    (kk : ∀ x, Sim Z l cc own nL fr lc rt nm args QQ h0 h1 v0 pc' lo (.ref (zb Z + x) :: st) h (f x)) : Sim Z l cc own nL fr lc rt nm args QQ h0 h1 v0 pc lo (.ref (zb Z + a) :: st) h ((gR ci k a h).bind f) := by
  subst hp
  intro ho
  unfold gR at ho
  by_cases g : oC ci h a = true
  · rw [if_pos g] at ho
    obtain ⟨x, hx, ho⟩ := Option.bind_eq_some_iff.mp ho
    obtain ⟨m1, w1⟩ := kk _ ho
    refine ⟨m1, fun C a1 H locs ls hP hS hl => fl_get C fl hd g hP ?_⟩
    rw [fvl_ref hk, hx]
    exact w1 C a1 H locs ls hP hS hl
  · rw [if_neg g] at ho
    cases ho
/-- a field that may be null, and the test of it behind -/
theorem S_getN  {idx ci k : Nat} {t : FieldType} {fin ne : Bool} (fl : FL own idx ci k t fin ne) (hk : isrf ci k = true) (hd : decode cc pc = .ok (.getfield idx, 3)) (hp : pc + 3 = pc') {off : Int} (hd2 : decode cc pc' = .ok (.ifnonnull off, 3)) (tgt : Nat) (ht : (pc' : Int) + off = (tgt : Int)) {pc2 : Nat} (hp2 : pc' + 3 = pc2) {a : Nat}
    (kn : Sim Z l cc own nL fr lc rt nm args QQ h0 h1 v0 pc2 lo st h o1) (kk : Sim Z l cc own nL fr lc rt nm args QQ h0 h1 v0 tgt lo st h o2) : Sim Z l cc own nL fr lc rt nm args QQ h0 h1 v0 pc lo (.ref (zb Z + a) :: st) h ((gN ci k a h).bind fun q => if q.isNone = true then o1 else o2) := by
  subst hp
  subst hp2
  intro ho
  unfold gN at ho
  by_cases g : oC ci h a = true
  · rw [if_pos g] at ho
    replace ho : (if (hR h a k).isNone = true then o1 else o2) = some (v0, h1) := ho
    cases hx : hR h a k with
    | none =>
      rw [hx] at ho
      obtain ⟨m1, w1⟩ := kn ho
      refine ⟨m1, fun C a1 H locs ls hP hS hl => fl_get C fl hd g hP ?_⟩
      rw [fvl_ref hk, hx]
      exact lv_ifnonnullN C.1 C.2.1 hd2 (w1 C a1 H locs ls hP hS hl)
    | some x =>
      rw [hx] at ho
      obtain ⟨m1, w1⟩ := kk ho
      refine ⟨m1, fun C a1 H locs ls hP hS hl => fl_get C fl hd g hP ?_⟩
      rw [fvl_ref hk, hx]
      exact lv_ifnonnull C.1 C.2.1 hd2 ht (w1 C a1 H locs ls hP hS hl)
  · rw [if_neg g] at ho
    cases ho
theorem fl_put (C : Cx p R s m meth c Z cc own nL fr lc rt nm h0 h1) {idx ci k : Nat} {t : FieldType} {fin ne : Bool} (fl : FL own idx ci k t fin ne) (hin : fin = true → meth.name = "<init>" ∧ ne = false ∧ ∃ T N, vwCl[ci]? = some (own, T, N)) (hd : decode cc pc = .ok (.putfield idx, 3)) {a : Nat} (g : oC ci h a = true) {v : Value} (hn : narrow t v = v) (hfit : fits t v = true) {H : Heap} {locs : List Loc} {ls : Array Slot} {cells slots : Nat} (hP : Rl Z h H) (hS : va_S (zA Z) s.heap H locs) {h2 : HP} (hN2 : hN h2 = hN h) (he1 : ent Z h2 a = .inr (ci, ((List.range (nfl ci)).map (fvl Z h a ci)).set k v)) (he2 : ∀ j, j ≠ a → ent Z h2 j = ent Z h j)
    (kk : ∀ (H1 : Heap) (locs1 : List Loc), va_P (zD Z) vwCl (wsO Z h2) H1 → va_S (zA Z) s.heap H1 locs1 → W p l e R s m args below meth c H1 locs1 cells slots Q (F0 m (pc + 3) ls st)) : W p l e R s m args below meth c H locs cells slots Q (F0 m pc ls (v :: .ref (zb Z + a) :: st)) := by
  obtain ⟨ga, gt⟩ := oC_spec g
  obtain ⟨C', T, ty, N, f1, f2, rfl, f4, f5, f6, f7, f8, f9, f10, hlk⟩ := fl
  have he := wsO_get Z h ga
  rw [ent_obj gt f2] at he
  have EW := C.2.2.2.2.1.1
  have hD := wsO_D Z h
  have hl9 : k < ((List.range (nfl ci)).map (fvl Z h a ci)).length := by simpa using f4
  have k2 : ∀ (H1 : Heap) (locs1 : List Loc), va_P (zD Z) vwCl ((wsO Z h).set a (zb Z + a, .inr (ci, ((List.range (nfl ci)).map (fvl Z h a ci)).set k v))) H1 → va_D (zA Z) ((wsO Z h).set a (zb Z + a, .inr (ci, ((List.range (nfl ci)).map (fvl Z h a ci)).set k v))) → va_S (zA Z) s.heap H1 locs1 → W p l e R s m args below meth c H1 locs1 cells slots Q (F0 m (pc + 3) ls st) := fun H1 locs1 q1 _ q3 => kk H1 locs1 (by rw [← wsO_set hN2 he1 he2]; exact q1) q3
  cases fin with
  | false =>
    rcases hlk with ⟨hne, hlk⟩ | ⟨hne, host, hlk⟩
    · exact va_put (Ts := u_ws C' T (nfl ci)) C.1 C.2.1 (fun w hw => EW.use (f5 w hw) (u_good w hw)) (fun _ h => h) ty f6 f7 C.2.2.2.1 C.2.2.2.2.1.2.1 hP.1 hD hS a he f1 k f4 (EW.use hlk rfl) (fun _ h => h) f9 f8 hn hfit hl9 hd k2
    · exact va_putN (Ts := u_ws C' T (nfl ci)) C.1 C.2.1 (fun w hw => EW.use (f5 w hw) (u_good w hw)) (fun _ h => h) ty f6 f7 C.2.2.2.1 C.2.2.2.2.1.2.1 hP.1 hD hS a he f1 k f4 (EW.nest hlk rfl) (fun _ h => h) f9 f8 hn hfit hl9 hd k2
  | true =>
    obtain ⟨i1, i3, T2, N2, i2⟩ := hin rfl
    have e2 : own = C' := by
      have := i2.symm.trans f1
      cases this
      rfl
    rcases hlk with ⟨hne, hlk⟩ | ⟨hne, host, hlk⟩
    · exact va_putF (Ts := u_ws C' T (nfl ci)) C.1 C.2.1 (fun w hw => EW.use (f5 w hw) (u_good w hw)) (fun _ h => h) ty f6 f7 C.2.2.2.1 C.2.2.2.2.1.2.1 hP.1 hD hS a he f1 k f4 (EW.use hlk rfl) (fun _ h => h) f9 i1 (f10.trans e2.symm) f8 hn hfit hl9 hd k2
    · rw [i3] at hne
      cases hne
theorem ent_upI {a ci k : Nat} {x : Int32} (g : oC ci h a = true) (h7 : ci < 7) (hk : isrf ci k = false) : ent Z (wI h a (upd (hI h a) k x)) a = .inr (ci, ((List.range (nfl ci)).map (fvl Z h a ci)).set k (.int x)) := by
  obtain ⟨ga, gt⟩ := oC_spec g
  rw [ent_obj (h := wI h a (upd (hI h a) k x)) gt h7]
  have e : hI (wI h a (upd (hI h a) k x)) a = upd (hI h a) k x := upA_s _ _ _
  rw [fs_set (h' := wI h a (upd (hI h a) k x))]
  · rw [fvl_int hk, e]
    exact congrArg Value.int (if_pos rfl)
  · intro j hj
    unfold fvl
    rw [e]
    have : upd (hI h a) k x j = hI h a j := if_neg hj
    rw [this]
    rfl
theorem ent_upR {a ci k v : Nat} (g : oC ci h a = true) (h7 : ci < 7) (hk : isrf ci k = true) : ent Z (wR h a (upA (hR h a) k (some v))) a = .inr (ci, ((List.range (nfl ci)).map (fvl Z h a ci)).set k (.ref (zb Z + v))) := by
  obtain ⟨ga, gt⟩ := oC_spec g
  rw [ent_obj (h := wR h a (upA (hR h a) k (some v))) gt h7]
  have e : hR (wR h a (upA (hR h a) k (some v))) a = upA (hR h a) k (some v) := upA_s _ _ _
  rw [fs_set (h' := wR h a (upA (hR h a) k (some v)))]
  · rw [fvl_ref hk, e, upA_s]
    rfl
  · intro j hj
    unfold fvl
    rw [e, upA_n _ _ hj]
    rfl
theorem S_putI {idx ci k : Nat} {ne : Bool} (fl : FL own idx ci k .int false ne) (h7 : ci < 7) (hk : isrf ci k = false) (hd : decode cc pc = .ok (.putfield idx, 3)) (hp : pc + 3 = pc') {a : Nat} {x : Int32} {f : HP → Option (ρ × HP)}
    (kk : ∀ h2, Sim Z l cc own nL fr lc rt nm args QQ h0 h1 v0 pc' lo st h2 (f h2)) : Sim Z l cc own nL fr lc rt nm args QQ h0 h1 v0 pc lo (.int x :: .ref (zb Z + a) :: st) h ((pI ci k a x h).bind f) := by
  subst hp
  intro ho
  unfold pI at ho
  by_cases g : oC ci h a = true
  · rw [if_pos g] at ho
    exact Sim.wr (h2 := wI h a (upd (hI h a) k x)) rfl rfl (fun C H locs ls hP hS hl kk2 => fl_put (h2 := wI h a (upd (hI h a) k x)) C fl (fun q => by cases q) hd g rfl rfl hP hS rfl (ent_upI g h7 hk) (fun j hj => ent_wI_n hj) (fun H1 locs1 q1 q2 => kk2 H1 locs1 ls q1 q2 hl)) (kk _) ho
  · rw [if_neg g] at ho
    cases ho
theorem S_putZ {idx ci k : Nat} {ne : Bool} (fl : FL own idx ci k .boolean false ne) (h7 : ci < 7) (hk : isrf ci k = false) (hd : decode cc pc = .ok (.putfield idx, 3)) (hp : pc + 3 = pc') {a : Nat} {x : Int32} {f : HP → Option (ρ × HP)}
    (kk : ∀ h2, Sim Z l cc own nL fr lc rt nm args QQ h0 h1 v0 pc' lo st h2 (f h2)) : Sim Z l cc own nL fr lc rt nm args QQ h0 h1 v0 pc lo (.int x :: .ref (zb Z + a) :: st) h ((pZ ci k a x h).bind f) := by
  subst hp
  intro ho
  unfold pZ at ho
  by_cases g : oC ci h a = true ∧ (x = 0 ∨ x = 1)
  · rw [if_pos g] at ho
    have hz : narrow .boolean (.int x) = .int x ∧ fits .boolean (.int x) = true := by
      rcases g.2 with rfl | rfl <;> exact ⟨by decide, by decide⟩
    exact Sim.wr (h2 := wI h a (upd (hI h a) k x)) rfl rfl (fun C H locs ls hP hS hl kk2 => fl_put (h2 := wI h a (upd (hI h a) k x)) C fl (fun q => by cases q) hd g.1 hz.1 hz.2 hP hS rfl (ent_upI g.1 h7 hk) (fun j hj => ent_wI_n hj) (fun H1 locs1 q1 q2 => kk2 H1 locs1 ls q1 q2 hl)) (kk _) ho
  · rw [if_neg g] at ho
    cases ho
theorem S_putR {idx ci k : Nat} {t : FieldType} {fin ne : Bool} (fl : FL own idx ci k t fin ne) (ht : (∃ n, t = .object n) ∨ ∃ n, t = .array n) (hin : fin = true → nm = "<init>" ∧ ne = false ∧ ∃ T N, vwCl[ci]? = some (own, T, N)) (h7 : ci < 7) (hk : isrf ci k = true) (hd : decode cc pc = .ok (.putfield idx, 3)) (hp : pc + 3 = pc') {a v : Nat} {f : HP → Option (ρ × HP)}
    (kk : ∀ h2, Sim Z l cc own nL fr lc rt nm args QQ h0 h1 v0 pc' lo st h2 (f h2)) : Sim Z l cc own nL fr lc rt nm args QQ h0 h1 v0 pc lo (.ref (zb Z + v) :: .ref (zb Z + a) :: st) h ((pR ci k a v h).bind f) := by
  subst hp
  intro ho
  unfold pR at ho
  by_cases g : oC ci h a = true
  · rw [if_pos g] at ho
    have hz : narrow t (.ref (zb Z + v)) = .ref (zb Z + v) ∧ fits t (.ref (zb Z + v)) = true := by
      rcases ht with ⟨n, rfl⟩ | ⟨n, rfl⟩ <;> exact ⟨rfl, rfl⟩
    exact Sim.wr (h2 := wR h a (upA (hR h a) k (some v))) rfl rfl (fun C H locs ls hP hS hl kk2 => fl_put (h2 := wR h a (upA (hR h a) k (some v))) C fl (fun q => ⟨C.2.2.2.2.2.2.2.2.2.trans (hin q).1, (hin q).2⟩) hd g hz.1 hz.2 hP hS rfl (ent_upR g h7 hk) (fun j hj => ent_wR_n hj) (fun H1 locs1 q1 q2 => kk2 H1 locs1 ls q1 q2 hl)) (kk _) ho
  · rw [if_neg g] at ho
    cases ho
theorem S_iaload (hd : decode cc pc = .ok (.iaload, 1)) (hp : pc + 1 = pc') {a : Nat} {i : Int32} {f : Int32 → Option (ρ × HP)}
    (kk : ∀ x, Sim Z l cc own nL fr lc rt nm args QQ h0 h1 v0 pc' lo (.int x :: st) h (f x)) : Sim Z l cc own nL fr lc rt nm args QQ h0 h1 v0 pc lo (.int i :: .ref (zb Z + a) :: st) h ((lI a i h).bind f) := by
  subst hp
  intro ho
  unfold lI at ho
  by_cases g : oC 7 h a = true ∧ vpi i (hS h a).2 = true
  · rw [if_pos g] at ho
    obtain ⟨m1, w1⟩ := kk _ ho
    obtain ⟨ga, gt⟩ := oC_spec g.1
    refine ⟨m1, fun C a1 H locs ls hP hS hl => ?_⟩
    have he := wsO_get Z h ga
    rw [ent_int gt] at he
    exact va_iald C.1 C.2.1 C.2.2.2.2.1.2.1 hP.1 a 0 he rfl (vpi_spec g.2) hd (w1 C a1 H locs ls hP hS hl)
  · rw [if_neg g] at ho
    cases ho
theorem S_laload (hd : decode cc pc = .ok (.laload, 1)) (hp : pc + 1 = pc') {a : Nat} {i : Int32} {f : Int64 → Option (ρ × HP)}
    (kk : ∀ x, Sim Z l cc own nL fr lc rt nm args QQ h0 h1 v0 pc' lo (.long x :: st) h (f x)) : Sim Z l cc own nL fr lc rt nm args QQ h0 h1 v0 pc lo (.int i :: .ref (zb Z + a) :: st) h ((lJ a i h).bind f) := by
  subst hp
  intro ho
  unfold lJ at ho
  by_cases g : oC 8 h a = true ∧ vpi i (hS h a).2 = true
  · rw [if_pos g] at ho
    obtain ⟨m1, w1⟩ := kk _ ho
    obtain ⟨ga, gt⟩ := oC_spec g.1
    refine ⟨m1, fun C a1 H locs ls hP hS hl => ?_⟩
    have he := wsO_get Z h ga
    rw [ent_long gt] at he
    exact va_lald C.1 C.2.1 C.2.2.2.2.1.2.1 hP.1 a 1 he rfl (vpi_spec g.2) hd (w1 C a1 H locs ls hP hS hl)
  · rw [if_neg g] at ho
    cases ho
theorem S_aaloadS (hd : decode cc pc = .ok (.aaload, 1)) (hp : pc + 1 = pc') {a : Nat} {i : Int32} {f : Nat → Option (ρ × HP)}
    (kk : ∀ x, Sim Z l cc own nL fr lc rt nm args QQ h0 h1 v0 pc' lo (.ref (zb Z + x) :: st) h (f x)) : Sim Z l cc own nL fr lc rt nm args QQ h0 h1 v0 pc lo (.int i :: .ref (zb Z + a) :: st) h ((lR 9 a i h).bind f) := by
  subst hp
  intro ho
  unfold lR at ho
  by_cases g : oC 9 h a = true ∧ vpi i (hS h a).2 = true
  · rw [if_pos g] at ho
    obtain ⟨x, hx, ho⟩ := Option.bind_eq_some_iff.mp ho
    obtain ⟨m1, w1⟩ := kk _ ho
    obtain ⟨ga, gt⟩ := oC_spec g.1
    refine ⟨m1, fun C a1 H locs ls hP hS hl => ?_⟩
    have he := wsO_get Z h ga
    rw [ent_shf gt] at he
    refine va_aldq C.1 C.2.1 C.2.2.2.2.1.2.1 hP.1 a 2 he rfl (vpi_spec g.2) hd ?_
    simp only [hx]
    exact w1 C a1 H locs ls hP hS hl
  · rw [if_neg g] at ho
    cases ho
theorem S_iastore (hd : decode cc pc = .ok (.iastore, 1)) (hp : pc + 1 = pc') {a : Nat} {i x : Int32} {f : HP → Option (ρ × HP)}
    (kk : ∀ h2, Sim Z l cc own nL fr lc rt nm args QQ h0 h1 v0 pc' lo st h2 (f h2)) : Sim Z l cc own nL fr lc rt nm args QQ h0 h1 v0 pc lo (.int x :: .int i :: .ref (zb Z + a) :: st) h ((sI a i x h).bind f) := by
  subst hp
  intro ho
  unfold sI at ho
  by_cases g : oC 7 h a = true ∧ vpi i (hS h a).2 = true
  · rw [if_pos g] at ho
    obtain ⟨ga, gt⟩ := oC_spec g.1
    have he := wsO_get Z h ga
    rw [ent_int gt] at he
    have e1 : ent Z (wI h a (upd (hI h a) i.toNatClampNeg x)) a = .inl (zcI Z, (hS h a).2, .inl (upd (hI h a) i.toNatClampNeg x)) := by
      rw [ent_int (h := wI h a (upd (hI h a) i.toNatClampNeg x)) gt]
      have e : hI (wI h a (upd (hI h a) i.toNatClampNeg x)) a = upd (hI h a) i.toNatClampNeg x := upA_s _ _ _
      rw [e]
      rfl
    exact Sim.wr (h2 := wI h a (upd (hI h a) i.toNatClampNeg x)) rfl rfl (fun C H locs ls hP hS hl kk2 => va_iast C.1 C.2.1 C.2.2.2.2.1.2.1 hP.1 (wsO_D Z h) hS a 0 he rfl (vpi_spec g.2) hd (fun H1 locs1 q1 _ q2 => kk2 H1 locs1 ls (by rw [← wsO_set (h := h) (h' := wI h a (upd (hI h a) i.toNatClampNeg x)) rfl e1 (fun j hj => ent_wI_n hj)]; exact q1) q2 hl)) (kk _) ho
  · rw [if_neg g] at ho
    cases ho
theorem S_lastore (hd : decode cc pc = .ok (.lastore, 1)) (hp : pc + 1 = pc') {a : Nat} {i : Int32} {x : Int64} {f : HP → Option (ρ × HP)}
    (kk : ∀ h2, Sim Z l cc own nL fr lc rt nm args QQ h0 h1 v0 pc' lo st h2 (f h2)) : Sim Z l cc own nL fr lc rt nm args QQ h0 h1 v0 pc lo (.long x :: .int i :: .ref (zb Z + a) :: st) h ((sJ a i x h).bind f) := by
  subst hp
  intro ho
  unfold sJ at ho
  by_cases g : oC 8 h a = true ∧ vpi i (hS h a).2 = true
  · rw [if_pos g] at ho
    obtain ⟨ga, gt⟩ := oC_spec g.1
    have he := wsO_get Z h ga
    rw [ent_long gt] at he
    have e1 : ent Z (wJ h a (vp_updL (hJ h a) i.toNatClampNeg x)) a = .inl (zcJ Z, (hS h a).2, .inr (.inl (vp_updL (hJ h a) i.toNatClampNeg x))) := by
      rw [ent_long (h := wJ h a (vp_updL (hJ h a) i.toNatClampNeg x)) gt]
      have e : hJ (wJ h a (vp_updL (hJ h a) i.toNatClampNeg x)) a = vp_updL (hJ h a) i.toNatClampNeg x := upA_s _ _ _
      rw [e]
      rfl
    exact Sim.wr (h2 := wJ h a (vp_updL (hJ h a) i.toNatClampNeg x)) rfl rfl (fun C H locs ls hP hS hl kk2 => va_last C.1 C.2.1 C.2.2.2.2.1.2.1 hP.1 (wsO_D Z h) hS a 1 he rfl (vpi_spec g.2) hd (fun H1 locs1 q1 _ q2 => kk2 H1 locs1 ls (by rw [← wsO_set (h := h) (h' := wJ h a (vp_updL (hJ h a) i.toNatClampNeg x)) rfl e1 (fun j hj => ent_wJ_n hj)]; exact q1) q2 hl)) (kk _) ho
  · rw [if_neg g] at ho
    cases ho
theorem up_map {f : Nat → Option Nat} {j v b : Nat} : (fun i => (upA f j (some v) i).map (b + ·)) = va_up (fun i => (f i).map (b + ·)) j (some (b + v)) := by
  funext i
  unfold va_up upA
  by_cases e : i = j <;> simp [e]
theorem S_aastore (hd : decode cc pc = .ok (.aastore, 1)) (hp : pc + 1 = pc') {a v : Nat} {i : Int32} {f : HP → Option (ρ × HP)}
    (kk : ∀ h2, Sim Z l cc own nL fr lc rt nm args QQ h0 h1 v0 pc' lo st h2 (f h2)) : Sim Z l cc own nL fr lc rt nm args QQ h0 h1 v0 pc lo (.ref (zb Z + v) :: .int i :: .ref (zb Z + a) :: st) h ((sR a i v h).bind f) := by
  subst hp
  intro ho
  unfold sR at ho
  by_cases g : oC 9 h a = true ∧ vpi i (hS h a).2 = true ∧ oC 3 h v = true
  · rw [if_pos g] at ho
    obtain ⟨ga, gt⟩ := oC_spec g.1
    obtain ⟨gb, gu⟩ := oC_spec g.2.2
    have he := wsO_get Z h ga
    rw [ent_shf gt] at he
    have hv := wsO_get Z h gb
    rw [ent_obj gu (by decide)] at hv
    have e1 : ent Z (wR h a (upA (hR h a) i.toNatClampNeg (some v))) a = .inl (zcS Z, (hS h a).2, .inr (.inr (.inr (.inr (va_up (fun i => (hR h a i).map (zb Z + ·)) i.toNatClampNeg (some (zb Z + v))))))) := by
      rw [ent_shf (h := wR h a (upA (hR h a) i.toNatClampNeg (some v))) gt]
      have e : hR (wR h a (upA (hR h a) i.toNatClampNeg (some v))) a = upA (hR h a) i.toNatClampNeg (some v) := upA_s _ _ _
      rw [e, up_map]
      rfl
    exact Sim.wr (h2 := wR h a (upA (hR h a) i.toNatClampNeg (some v))) rfl rfl (fun C H locs ls hP hS hl kk2 => va_astq (r := (RX3, TX3, 3)) C.1 C.2.1 C.2.2.2.2.1.2.1 hP.1 (wsO_D Z h) hS a 2 v 3 he rfl hv rfl (vpi_spec g.2.1) hd (fun H1 locs1 q1 _ q2 => kk2 H1 locs1 ls (by rw [← wsO_set (h := h) (h' := wR h a (upA (hR h a) i.toNatClampNeg (some v))) rfl e1 (fun j hj => ent_wR_n hj)]; exact q1) q2 hl)) (kk _) ho
  · rw [if_neg g] at ho
    cases ho
theorem S_alen (hd : decode cc pc = .ok (.arraylength, 1)) (hp : pc + 1 = pc') {a : Nat} {f : Int32 → Option (ρ × HP)}
    (kk : ∀ x, Sim Z l cc own nL fr lc rt nm args QQ h0 h1 v0 pc' lo (.int x :: st) h (f x)) : Sim Z l cc own nL fr lc rt nm args QQ h0 h1 v0 pc lo (.ref (zb Z + a) :: st) h ((aL a h).bind f) := by
  subst hp
  intro ho
  unfold aL at ho
  by_cases g : oC 7 h a = true
  · rw [if_pos g] at ho
    obtain ⟨m1, w1⟩ := kk _ ho
    obtain ⟨ga, gt⟩ := oC_spec g
    refine ⟨m1, fun C a1 H locs ls hP hS hl => ?_⟩
    have he := wsO_get Z h ga
    rw [ent_int gt] at he
    exact va_alen C.1 C.2.1 C.2.2.2.2.1.2.1 hP.1 a 0 he (ty := .int) rfl rfl hd (w1 C a1 H locs ls hP hS hl)
  · rw [if_neg g] at ho
    cases ho
/-- the script's length, an int of it -/
theorem S_slen (hd : decode cc pc = .ok (.arraylength, 1)) (hp : pc + 1 = pc')
    (kk : Sim Z l cc own nL fr lc rt nm args QQ h0 h1 v0 pc' lo (.int (Int32.ofNat (zL Z)) :: st) h o) : Sim Z l cc own nL fr lc rt nm args QQ h0 h1 v0 pc lo (.ref (zsc Z) :: st) h o := by
  subst hp
  exact Sim.pure (fun C H locs ls _ hS hl0 kk => by
    obtain ⟨x1, x2, x3, x4⟩ := C.2.2.2.2.1.2.2.2.2.2.2
    exact va_slen C.1 C.2.1 x1 x3 x2 hS hd (kk ls hl0)) kk
theorem S_sld (hd : decode cc pc = .ok (.iaload, 1)) (hp : pc + 1 = pc') {i : Int32} {f : Int32 → Option (ρ × HP)}
    (kk : ∀ x, Sim Z l cc own nL fr lc rt nm args QQ h0 h1 v0 pc' lo (.int x :: st) h (f x)) : Sim Z l cc own nL fr lc rt nm args QQ h0 h1 v0 pc lo (.int i :: .ref (zsc Z) :: st) h ((lX Z i).bind f) := by
  subst hp
  intro ho
  unfold lX at ho
  by_cases g : vpi i (zL Z) = true
  · rw [if_pos g] at ho
    exact Sim.pure (fun C H locs ls _ hS hl0 kk => by
      obtain ⟨x1, x2, x3, x4⟩ := C.2.2.2.2.1.2.2.2.2.2.2
      exact va_sld C.1 C.2.1 x1 x3 x2 hS (vpi_spec g) hd (kk ls hl0)) (kk _) ho
  · rw [if_neg g] at ho
    cases ho
/-- Object's own constructor -/
theorem S_obj {idx i a : Nat} (hl : Cond.methodLink own idx objectInit ∈ lw_tbl) (hi : Cond.instanceMethod objectInit ∈ lw_tbl) (hc : Cond.code objectInit ⟨#[0xb1]⟩ 1 none ∈ lw_tbl) (hd : decode cc pc = .ok (.invokespecial idx, 3)) (hR : 1 ≤ fr ∧ (st.map fun v => v.category).sum + 12 ≤ lc) (hp : pc + 3 = pc')
    (k : Sim Z l cc own nL fr lc rt nm args QQ h0 h1 v0 pc' lo st h o) : Sim Z l cc own nL fr lc rt nm args QQ h0 h1 v0 pc lo (.ref a :: st) h o := by
  subst hp
  exact Sim.pure (fun C H locs ls _ _ hl0 kk => by
    have EW := C.2.2.2.2.1.1
    have hR9 := C.2.2.2.2.2.2.1
    exact W.objInit C.1 C.2.1 C.2.2.2.1 (EW.use hl rfl) (EW.use hi rfl) (EW.use hc rfl) rfl (by rw [C.2.2.1]; exact hl0.1) rfl hd (by rw [← hR9.1]; exact hR.1) (by rw [← hR9.2.1]; show 2 * 0 + _ + 12 ≤ lc; omega) (kk ls hl0)) k

end OPS
end
section
/-! NEW CELLS, CALLS, RETURNS -/
def mkO (c : Nat) (h : HP) : Option (Nat × HP) := some (hN h, nO c h)
def mkA (t : Nat) (n : Int32) (h : HP) : Option (Nat × HP) := if ¬ n < 0 ∧ n.toNatClampNeg ≤ 4096 then some (hN h, nw h t n.toNatClampNeg n.toNatClampNeg) else none
/-- n rows of k longs, and the array of them ahead -/
def nwM (h : HP) (n k : Nat) : HP := (h.1 + 1 + n, h.2.1 + n + n * k,
  fun q => if q < h.1 then h.2.2.1 q else if q = h.1 then (10, n) else (8, k),
  fun q => if q < h.1 then h.2.2.2.1 q else if q = h.1 then (fun i => if i < n then some (h.1 + 1 + i) else none) else fun _ => none,
  fun q => if q < h.1 then h.2.2.2.2.1 q else fun _ => 0, fun q => if q < h.1 then h.2.2.2.2.2 q else fun _ => 0)
def mkM (n k : Int32) (h : HP) : Option (Nat × HP) := if (¬ n < 0 ∧ n.toNatClampNeg ≤ 4096) ∧ (¬ k < 0 ∧ k.toNatClampNeg ≤ 4096) then some (hN h, nwM h n.toNatClampNeg k.toNatClampNeg) else none
/-- a class that is made: the link, its fields' first values -/
def NCL (own : String) (idx ci : Nat) : Prop := ∃ (C : String) (T : u_T) (ty : Nat → FieldType) (N : Nat), vwCl[ci]? = some (C, T, N) ∧ ci < 7 ∧ N = nfl ci ∧ (∀ w ∈ u_ws C T N, w ∈ lw_tbl) ∧ (∀ j, j < N → parseFieldDescriptor (T j).2.2.1 = some (ty j)) ∧ (∀ j, j < N → defaultValue (ty j) = if isrf ci j = true then .null else .int 0) ∧
  Cond.classLink own idx C ∈ lw_tbl ∧ Cond.instantiable C N ∈ lw_tbl ∧ Cond.initialized C ∈ lw_tbl
section CALLS
variable {p : Program} {l : Launch} {e : Env} {R : Room} {s : State} {m : MethodId} {args : Array Value} {below : List Frame} {meth : Method} {c : Code} {Q : State → Prop}
variable {Z : ZZ} {cc : ByteArray} {own : String} {nL fr lc : Nat} {rt : Option FieldType} {nm : String} {QQ : State → List Frame → State → Prop} {h0 h1 : HP} {ρ : Type} {v0 : ρ}
variable {pc pc' tgt : Nat} {lo lo' : List (Nat × Value)} {st rest : List Value} {h : HP} {o o1 o2 : Option (ρ × HP)}
/-- one step that makes k cells of n slots -/
theorem Sim.mk {h2 : HP} {k n : Nat} {st' : List Value} (hm : hN h2 = hN h + k) (hm2 : hL h2 = hL h + n)
    (hst : ∀ {p : Program} {e : Env} {R : Room} {s : State} {m : MethodId} {below : List Frame} {meth : Method} {c : Code}, Cx p R s m meth c Z cc own nL fr lc rt nm h0 h1 →  hN h - hN h0 + k ≤ R.cells → hL h - hL h0 + n ≤ R.slots → ∀ (H : Heap) (locs : List Loc) (ls : Array Slot), Rl Z h H → va_S (zA Z) s.heap H locs → lv_has ls nL lo →
      (∀ H1, Rl Z h2 H1 → va_S (zA Z) s.heap H1 locs → W p l e R s m args below meth c H1 locs (hN h - hN h0 + k) (hL h - hL h0 + n) (QQ s below) (F0 m pc' ls st')) → W p l e R s m args below meth c H locs (hN h - hN h0) (hL h - hL h0) (QQ s below) (F0 m pc ls st))
    (kk : Sim Z l cc own nL fr lc rt nm args QQ h0 h1 v0 pc' lo st' h2 o) : Sim Z l cc own nL fr lc rt nm args QQ h0 h1 v0 pc lo st h o := by
  intro ho
  obtain ⟨m1, w1⟩ := kk ho
  have b1 := m1.1
  have b2 := m1.2
  rw [hm] at b1
  rw [hm2] at b2
  refine ⟨⟨by omega, by omega⟩, fun {p e R s m below meth c} C a H locs ls hP hS hl => ?_⟩
  have a1 := a.1
  have a2 := a.2
  have hR9 := C.2.2.2.2.2.2.1
  have q1 := hR9.2.2.1
  have q2 := hR9.2.2.2
  refine hst C (by omega) (by omega) H locs ls hP hS hl fun H1 hP1 hS1 => ?_
  have := w1 (e := e) (below := below) C ⟨by omega, by omega⟩ H1 locs ls hP1 hS1 hl
  rw [hm, hm2, show hN h + k - hN h0 = hN h - hN h0 + k by omega, show hL h + n - hL h0 = hL h - hL h0 + n by omega] at this
  exact this
theorem fvl_new {t n sl c k : Nat} : fvl Z (nw h t n sl) (hN h) c k = if isrf c k = true then .null else .int 0 := by
  have e2 : hR (nw h t n sl) (hN h) = fun _ => none := upA_s _ _ _
  have e3 : hI (nw h t n sl) (hN h) = fun _ => 0 := upA_s _ _ _
  unfold fvl
  rw [e2, e3]
  rfl
theorem Rl_push {t n sl : Nat} {x : va_E} {H H1 : Heap} (hP : Rl Z h H) (he : ent Z (nw h t n sl) (hN h) = x) (hx : va_at (zD Z) vwCl (zb Z + hN h, x) H1) (hz : H1.size = zb Z + hN h + 1) (ho : ∀ q, q < zb Z + hN h → H1[q]? = H[q]?) : Rl Z (nw h t n sl) H1 := by
  refine ⟨?_, by rw [hz]; rfl⟩
  rw [← wsO_push (h := h) (h' := nw h t n sl) rfl he (fun k hk => ent_nw_n hk)]
  refine (hP.1.kept (fun k x hx => ho x.1 ?_)).app (fun k x hx9 => ?_)
  · have := (hP.1 k x hx).lt
    rw [hP.2] at this
    exact this
  · have hz : k < 1 := (List.getElem?_eq_some_iff.mp hx9).1
    rw [show k = 0 by omega] at hx9
    cases hx9
    exact hx
theorem S_push {H H1 : Heap} {locs : List Loc} (hP : Rl Z h H) (hS : va_S (zA Z) s.heap H locs) (hz : H1.size = zb Z + hN h + 1) (ho : ∀ q, q < zb Z + hN h → H1[q]? = H[q]?) : va_S (zA Z) s.heap H1 locs :=
  ⟨Nat.le_trans hS.1 (by rw [hz, hP.2]; omega), fun x h1 h2 => (ho x (by have := hS.1; rw [hP.2] at this; omega)).trans (hS.2.1 x h1 h2), hS.2.2⟩
theorem S_new {idx ci : Nat} (nc : NCL own idx ci) (hd : decode cc pc = .ok (.new idx, 3)) (hp : pc + 3 = pc') {f : Nat → HP → Option (ρ × HP)}
    (kk : ∀ a h2, Sim Z l cc own nL fr lc rt nm args QQ h0 h1 v0 pc' lo (.ref (zb Z + a) :: st) h2 (f a h2)) : Sim Z l cc own nL fr lc rt nm args QQ h0 h1 v0 pc lo st h (ob (mkO ci h) f) := by
  subst hp
  intro ho
  replace ho : f (hN h) (nO ci h) = some (v0, h1) := ho
  obtain ⟨C', T, ty, N, f1, f2, rfl, f5, f6, f7, l1, l2, l3⟩ := nc
  refine Sim.mk (h2 := nO ci h) (k := 1) (n := nfl ci) rfl rfl (fun C r1 r2 H locs ls hP hSt hl kk2 => ?_) (kk _ _) ho
  have EW := C.2.2.2.2.1.1
  have hK := C.2.2.2.2.1.2.1
  have hKn := hK.1 ci _ f1
  refine W.newcK C.1 C.2.1 C.2.2.2.1 (EW.use l1 rfl) (EW.use l2 rfl) (EW.use l3 rfl) rfl hd r1 r2 hKn.2.1 hP.2 fun H1 kC hkC e1 z1 o1 => ?_
  refine kk2 H1 (Rl_push hP (x := .inr (ci, (List.range (nfl ci)).map (fvl Z (nO ci h) (hN h) ci))) (ent_obj (by show (upA h.2.2.1 h.1 (ci, 0) h.1).1 = ci; rw [upA_s]) f2) ⟨_, f1, ?_⟩ z1 o1) (S_push hP hSt z1 o1)
  refine (u_born ty (fun w hw => EW.use (args := #[]) (f5 w hw) (u_good w hw)) (fun _ h => h) hKn hkC e1 f6).to fun j hj => ?_
  rw [f7 j hj]
  unfold vp_V
  rw [List.getD_eq_getElem?_getD, fs_get hj]
  exact fvl_new.symm
theorem S_newarr {atype : ArrayType} (t t0 : Nat) (ty : FieldType) (hty : newarray.typeOf atype = ty) (htt : (t = 7 ∧ ty = .int) ∨ (t = 8 ∧ ty = .long)) (hw : Cond.arrayClass ty ∈ lw_tbl) (hd : decode cc pc = .ok (.newarray atype, 2)) (hp : pc + 2 = pc') {n : Int32} {f : Nat → HP → Option (ρ × HP)}
    (kk : ∀ a h2, Sim Z l cc own nL fr lc rt nm args QQ h0 h1 v0 pc' lo (.ref (zb Z + a) :: st) h2 (f a h2)) : Sim Z l cc own nL fr lc rt nm args QQ h0 h1 v0 pc lo (.int n :: st) h (ob (mkA t n h) f) := by
  subst hp
  subst hty
  intro ho
  unfold mkA at ho
  by_cases g : ¬ n < 0 ∧ n.toNatClampNeg ≤ 4096
  · rw [if_pos g] at ho
    replace ho : f (hN h) (nw h t n.toNatClampNeg n.toNatClampNeg) = some (v0, h1) := ho
    have hby : n.toNatClampNeg * componentBytes (newarray.typeOf atype) ≤ 536870912 := by
      rcases htt with ⟨-, q⟩ | ⟨-, q⟩ <;> rw [q] <;> simp only [componentBytes] <;> omega
    refine Sim.mk (h2 := nw h t n.toNatClampNeg n.toNatClampNeg) (k := 1) (n := n.toNatClampNeg) rfl rfl (fun C r1 r2 H locs ls hP hSt hl kk2 => ?_) (kk _ _) ho
    have EW := C.2.2.2.2.1.1
    have hK := C.2.2.2.2.1.2.1
    refine va_newaK C.1 C.2.1 (EW.use hw rfl) rfl hd rfl g.1 rfl hby r1 r2 hP.2 fun H1 cA e1 z1 o1 hAr hNm => ?_
    have eS : hS (nw h t n.toNatClampNeg n.toNatClampNeg) (hN h) = (t, n.toNatClampNeg) := upA_s _ _ _
    have eI : hI (nw h t n.toNatClampNeg n.toNatClampNeg) (hN h) = fun _ => 0 := upA_s _ _ _
    have eJ : hJ (nw h t n.toNatClampNeg n.toNatClampNeg) (hN h) = fun _ => 0 := upA_s _ _ _
    rcases htt with ⟨rfl, q⟩ | ⟨rfl, q⟩
    · have ec : cA = zcI Z := by
        have h9 := (hK.2 0 _ rfl).2
        rw [q] at hNm
        exact Option.some.inj (hNm.symm.trans h9)
      subst ec
      rw [q] at e1
      exact kk2 H1 (Rl_push hP (ent_int (by rw [eS])) (by rw [eS, eI]; exact e1) z1 o1) (S_push hP hSt z1 o1)
    · have ec : cA = zcJ Z := by
        have h9 := (hK.2 1 _ rfl).2
        rw [q] at hNm
        exact Option.some.inj (hNm.symm.trans h9)
      subst ec
      rw [q] at e1
      exact kk2 H1 (Rl_push hP (ent_long (by rw [eS])) (by rw [eS, eJ]; exact e1) z1 o1) (S_push hP hSt z1 o1)
  · rw [if_neg g] at ho
    cases ho
theorem S_anew {idx : Nat} (hw : Cond.classLink own idx "LostBeforeSung$Shelf" ∈ lw_tbl) (hd : decode cc pc = .ok (.anewarray idx, 3)) (hp : pc + 3 = pc') {n : Int32} {f : Nat → HP → Option (ρ × HP)}
    (kk : ∀ a h2, Sim Z l cc own nL fr lc rt nm args QQ h0 h1 v0 pc' lo (.ref (zb Z + a) :: st) h2 (f a h2)) : Sim Z l cc own nL fr lc rt nm args QQ h0 h1 v0 pc lo (.int n :: st) h (ob (mkA 9 n h) f) := by
  subst hp
  intro ho
  unfold mkA at ho
  by_cases g : ¬ n < 0 ∧ n.toNatClampNeg ≤ 4096
  · rw [if_pos g] at ho
    replace ho : f (hN h) (nw h 9 n.toNatClampNeg n.toNatClampNeg) = some (v0, h1) := ho
    refine Sim.mk (h2 := nw h 9 n.toNatClampNeg n.toNatClampNeg) (k := 1) (n := n.toNatClampNeg) rfl rfl (fun C r1 r2 H locs ls hP hSt hl kk2 => ?_) (kk _ _) ho
    have EW := C.2.2.2.2.1.1
    have hK := C.2.2.2.2.1.2.1
    refine W.anew C.1 C.2.1 C.2.2.2.1 (EW.use hw rfl) (va_AO.use C.2.2.2.2.1.2.2.1) rfl hd rfl g.1 (by omega) r1 r2 fun cA kA comp f1 f2 f3 f4 => ?_
    have eS : hS (nw h 9 n.toNatClampNeg n.toNatClampNeg) (hN h) = (9, n.toNatClampNeg) := upA_s _ _ _
    have eR : hR (nw h 9 n.toNatClampNeg n.toNatClampNeg) (hN h) = fun _ => none := upA_s _ _ _
    have ec : cA = zcS Z := by
      obtain ⟨k9, c9, -, -, -, h9⟩ := (hK.2 2 _ rfl).2
      exact Option.some.inj (f1.symm.trans h9)
    subst ec
    generalize hH1 : H.push ({ cls := zcS Z, slots := Array.replicate n.toNatClampNeg .null, vm := .none } : Cell) = H1
    have z1 : H1.size = zb Z + hN h + 1 := by rw [← hH1, Array.size_push, hP.2]
    have e1 : H1[zb Z + hN h]? = some (arrV (zcS Z) n.toNatClampNeg (fun _ => .null)) := by rw [← hH1, ← hP.2, Array.getElem?_push_size, ← arrV_new]
    have o1 : ∀ q : Nat, q < zb Z + hN h → H1[q]? = H[q]? := fun q hq => by rw [← hH1, Array.getElem?_push, if_neg (Nat.ne_of_lt (by rw [hP.2]; exact hq))]
    rw [hP.2]
    refine kk2 H1 (Rl_push hP (ent_shf (by rw [eS])) ?_ z1 o1) (S_push hP hSt z1 o1)
    rw [eS, eR]
    show H1[zb Z + hN h]? = some (vp_cell _ _)
    rw [vp_cell_q]
    exact e1
  · rw [if_neg g] at ho
    cases ho
/-- System.arraycopy of ints, of longs -/
def CPW (own : String) (idx : Nat) : Prop := Cond.methodLink own idx arraycopyName ∈ lw_tbl ∧ Cond.native arraycopyName ∈ lw_tbl ∧ Cond.static arraycopyName ∈ lw_tbl ∧ Cond.initialized "java/lang/System" ∈ lw_tbl
theorem S_copyI {idx : Nat} (cw : CPW own idx) (hd : decode cc pc = .ok (.invokestatic idx, 3)) (hR : 1 ≤ fr ∧ (st.map fun v => v.category).sum + (nativeFrameWords "java/lang/System" "arraycopy" 5 + 11) ≤ lc) (hp : pc + 3 = pc') {a0 a : Nat} {sp dp n : Int32} {f : HP → Option (ρ × HP)}
    (kk : ∀ h2, Sim Z l cc own nL fr lc rt nm args QQ h0 h1 v0 pc' lo st h2 (f h2)) : Sim Z l cc own nL fr lc rt nm args QQ h0 h1 v0 pc lo (.int n :: .int dp :: .ref (zb Z + a) :: .int sp :: .ref (zb Z + a0) :: st) h ((cpI a0 sp a dp n h).bind f) := by
  subst hp
  intro ho
  unfold cpI at ho
  by_cases g : oC 7 h a0 = true ∧ oC 7 h a = true ∧ cpOK (hS h a0).2 (hS h a).2 sp dp n = true
  · rw [if_pos g] at ho
    obtain ⟨ga, gt⟩ := oC_spec g.1
    obtain ⟨gb, gu⟩ := oC_spec g.2.1
    obtain ⟨g1, g2, g3, g4, g5⟩ := of_decide_eq_true g.2.2
    have he := wsO_get Z h ga
    rw [ent_int gt] at he
    have he2 := wsO_get Z h gb
    rw [ent_int gu] at he2
    have e1 : ent Z (wI h a (va_cpy (hI h a0) (hI h a) sp.toNatClampNeg dp.toNatClampNeg n.toNatClampNeg)) a = .inl (zcI Z, (hS h a).2, .inl (va_cpy (hI h a0) (hI h a) sp.toNatClampNeg dp.toNatClampNeg n.toNatClampNeg)) := by
      rw [ent_int (h := wI h a (va_cpy (hI h a0) (hI h a) sp.toNatClampNeg dp.toNatClampNeg n.toNatClampNeg)) gu]
      have e : hI (wI h a (va_cpy (hI h a0) (hI h a) sp.toNatClampNeg dp.toNatClampNeg n.toNatClampNeg)) a = va_cpy (hI h a0) (hI h a) sp.toNatClampNeg dp.toNatClampNeg n.toNatClampNeg := upA_s _ _ _
      rw [e]
      rfl
    exact Sim.wr (h2 := wI h a (va_cpy (hI h a0) (hI h a) sp.toNatClampNeg dp.toNatClampNeg n.toNatClampNeg)) rfl rfl (fun C H locs ls hP hS hl kk2 => by
      have EW := C.2.2.2.2.1.1
      have hR9 := C.2.2.2.2.2.2.1
      exact va_copyi C.1 C.2.1 (C.2.2.1.trans hl.1.symm) C.2.2.2.1 (EW.use cw.1 rfl) (EW.use cw.2.1 rfl) (EW.use cw.2.2.1 rfl) (EW.use cw.2.2.2 rfl) C.2.2.2.2.1.2.1 hP.1 (wsO_D Z h) hS a0 a 0 0 he he2 rfl rfl rfl g1 g2 g3 g4 g5 (fun _ _ => rfl) (by rw [← hR9.1]; exact hR.1) (by rw [← hR9.2.1]; exact hR.2) hd (fun H1 locs1 q1 _ q2 => kk2 H1 locs1 ls (by rw [← wsO_set (h := h) (h' := wI h a (va_cpy (hI h a0) (hI h a) sp.toNatClampNeg dp.toNatClampNeg n.toNatClampNeg)) rfl e1 (fun j hj => ent_wI_n hj)]; exact q1) q2 hl)) (kk _) ho
  · rw [if_neg g] at ho
    cases ho
theorem S_copyJ {idx : Nat} (cw : CPW own idx) (hd : decode cc pc = .ok (.invokestatic idx, 3)) (hR : 1 ≤ fr ∧ (st.map fun v => v.category).sum + (nativeFrameWords "java/lang/System" "arraycopy" 5 + 11) ≤ lc) (hp : pc + 3 = pc') {a0 a : Nat} {sp dp n : Int32} {f : HP → Option (ρ × HP)}
    (kk : ∀ h2, Sim Z l cc own nL fr lc rt nm args QQ h0 h1 v0 pc' lo st h2 (f h2)) : Sim Z l cc own nL fr lc rt nm args QQ h0 h1 v0 pc lo (.int n :: .int dp :: .ref (zb Z + a) :: .int sp :: .ref (zb Z + a0) :: st) h ((cpJ a0 sp a dp n h).bind f) := by
  subst hp
  intro ho
  unfold cpJ at ho
  by_cases g : oC 8 h a0 = true ∧ oC 8 h a = true ∧ cpOK (hS h a0).2 (hS h a).2 sp dp n = true
  · rw [if_pos g] at ho
    obtain ⟨ga, gt⟩ := oC_spec g.1
    obtain ⟨gb, gu⟩ := oC_spec g.2.1
    obtain ⟨g1, g2, g3, g4, g5⟩ := of_decide_eq_true g.2.2
    have he := wsO_get Z h ga
    rw [ent_long gt] at he
    have he2 := wsO_get Z h gb
    rw [ent_long gu] at he2
    have e1 : ent Z (wJ h a (va_cpy (hJ h a0) (hJ h a) sp.toNatClampNeg dp.toNatClampNeg n.toNatClampNeg)) a = .inl (zcJ Z, (hS h a).2, .inr (.inl (va_cpy (hJ h a0) (hJ h a) sp.toNatClampNeg dp.toNatClampNeg n.toNatClampNeg))) := by
      rw [ent_long (h := wJ h a (va_cpy (hJ h a0) (hJ h a) sp.toNatClampNeg dp.toNatClampNeg n.toNatClampNeg)) gu]
      have e : hJ (wJ h a (va_cpy (hJ h a0) (hJ h a) sp.toNatClampNeg dp.toNatClampNeg n.toNatClampNeg)) a = va_cpy (hJ h a0) (hJ h a) sp.toNatClampNeg dp.toNatClampNeg n.toNatClampNeg := upA_s _ _ _
      rw [e]
      rfl
    exact Sim.wr (h2 := wJ h a (va_cpy (hJ h a0) (hJ h a) sp.toNatClampNeg dp.toNatClampNeg n.toNatClampNeg)) rfl rfl (fun C H locs ls hP hS hl kk2 => by
      have EW := C.2.2.2.2.1.1
      have hR9 := C.2.2.2.2.2.2.1
      exact va_copyl C.1 C.2.1 (C.2.2.1.trans hl.1.symm) C.2.2.2.1 (EW.use cw.1 rfl) (EW.use cw.2.1 rfl) (EW.use cw.2.2.1 rfl) (EW.use cw.2.2.2 rfl) C.2.2.2.2.1.2.1 hP.1 (wsO_D Z h) hS a0 a 1 1 he he2 rfl rfl rfl g1 g2 g3 g4 g5 (fun _ _ => rfl) (by rw [← hR9.1]; exact hR.1) (by rw [← hR9.2.1]; exact hR.2) hd (fun H1 locs1 q1 _ q2 => kk2 H1 locs1 ls (by rw [← wsO_set (h := h) (h' := wJ h a (va_cpy (hJ h a0) (hJ h a) sp.toNatClampNeg dp.toNatClampNeg n.toNatClampNeg)) rfl e1 (fun j hj => ent_wJ_n hj)]; exact q1) q2 hl)) (kk _) ho
  · rw [if_neg g] at ho
    cases ho
/-! calls -/
theorem Pcg_blind {av : List Value} : FrameBlind (Pcg Z av h) := fun a U g mk q => ⟨q.1, EF.moved (s := U) (U := U.calling g mk a) (State.WarmedH.refl U) q.2.1 (Nat.le_refl _) (fun _ _ _ => rfl), q.2.2⟩
theorem Pcg_at (C : Cx p R s m meth c Z cc own nL fr lc rt nm h0 h1) {av : List Value} {H : Heap} {locs : List Loc} (hP : Rl Z h H) (hS : va_S (zA Z) s.heap H locs) : ∀ U : State, U.heap = H → s.WarmedH U.vm → Pcg Z av h av.toArray U := fun U hU hW =>
  ⟨rfl, EF.moved hW C.2.2.2.2.1 (by rw [hU]; exact hS.1) (fun q h1 h2 => by rw [hU]; exact hS.2.1 q h1 h2), by rw [hU]; exact hP⟩
theorem Sim.call {σ : Type} {oc : Option (σ × HP)} {rv : σ → Option Value} {a : Array Value} {f : σ → HP → Option (ρ × HP)}
    (hmo : ∀ v h2, oc = some (v, h2) → Mono h h2)
    (hrun : ∀ v h2, oc = some (v, h2) → ∀ {p : Program} {e : Env} {R : Room} {s : State} {m : MethodId} {below : List Frame} {meth : Method} {c : Code}, Cx p R s m meth c Z cc own nL fr lc rt nm h0 h1 →  hN h - hN h0 + (hN h2 - hN h) ≤ R.cells → hL h - hL h0 + (hL h2 - hL h) ≤ R.slots → ∀ (H : Heap) (locs : List Loc) (ls : Array Slot), Rl Z h H → va_S (zA Z) s.heap H locs → lv_has ls nL lo →
      va_Run p l e R s m args below meth c H locs (hN h - hN h0) (hL h - hL h0) (hN h2 - hN h) (hL h2 - hL h) (F0 m pc ls st) rest (Qg Z (rv v) h2 a) (zA Z))
    (kk : ∀ v h2, Sim Z l cc own nL fr lc rt nm args QQ h0 h1 v0 (pc + 3) lo ((rv v).toList ++ rest) h2 (f v h2)) : Sim Z l cc own nL fr lc rt nm args QQ h0 h1 v0 pc lo st h (ob oc f) := by
  intro ho
  obtain ⟨v, h2, e1, e2⟩ := ob_some ho
  have m0 := hmo v h2 e1
  obtain ⟨m1, w1⟩ := kk v h2 e2
  refine ⟨m0.tr m1, fun {p e R s m below meth c} C a1 H locs ls hP hS hl => ?_⟩
  have hR9 := C.2.2.2.2.2.2.1
  have q8 := hR9.2.2.1
  have q9 := hR9.2.2.2
  have b1 := m0.1
  have b2 := m0.2
  have b3 := m1.1
  have b4 := m1.2
  have b5 := a1.1
  have b6 := a1.2
  intro T hT X
  obtain ⟨v', st₀, t, T', L, q0, X', hL', q1, q2, ⟨q3, q4, q5⟩, stp⟩ := hrun v h2 e1 C (by omega) (by omega) H locs ls hP hS hl T hT X
  cases q3
  rw [show hN h - hN h0 + (hN h2 - hN h) = hN h2 - hN h0 by omega, show hL h - hL h0 + (hL h2 - hL h) = hL h2 - hL h0 by omega] at X'
  have hS' : va_S (zA Z) s.heap T'.heap (locs ++ L) := by
    have q5' : va_F (zA Z) st₀ t := q5
    obtain ⟨z1, z2⟩ := q5'
    rw [q0] at z1 z2
    refine ⟨Nat.le_trans hS.1 (by rw [q1]; exact z1), fun q h1 h2 => ?_, fun q hq => ?_⟩
    · rw [q1, z2 q (Nat.lt_of_lt_of_le h1 hS.1) h2]
      exact hS.2.1 q h1 h2
    · rcases List.mem_append.mp hq with h | h
      · exact hS.2.2 q h
      · exact hL' q h
  obtain ⟨t2, a2, b9⟩ := w1 C (a1.tr m0) T'.heap (locs ++ L) ls (by rw [q1]; exact q4) hS' hl T' rfl X'
  exact ⟨t2, stp t2 a2, b9⟩
theorem word1 {y : MethodName} {bytes : ByteArray} {maxL : Nat} {ret : Option FieldType} (h9 : (Cond.code y bytes maxL ret).before args s = true) : ∀ w ∈ [Cond.code y bytes maxL ret], ∀ (a' : Array Value) (U : State), s.WarmedH U.vm → w.before a' U = true := by
  intro w hw a' U hW
  rw [List.mem_singleton] at hw
  subst hw
  exact word_at hW (Or.inl rfl) h9
theorem ncount {y : MethodName} {n : Nat} (h9 : (parseMethodDescriptor y.desc).map (fun d => d.parameters.length) = some n) : ∀ sig, parseMethodDescriptor y.desc = some sig → n = sig.parameters.length := by
  intro sig hs
  rw [hs] at h9
  exact (Option.some.inj h9).symm
theorem S_invi {idx n ci fr' lc' : Nat} {y : MethodName} {bytes : ByteArray} {maxL : Nat} {ret : Option FieldType} (ml : ML own idx y bytes maxL ret n) {C' : String} (mi : MI C' y) (hci : ∃ q : vw_C, vwCl[ci]? = some q ∧ q.1 = C') (h7 : ci < 7) (hd : decode cc pc = .ok (.invokevirtual idx, 3)) {a : Nat} (As : List Value) (hn : As.length = n) {oc : Option (Int32 × HP)}
    (cM : ∀ v h2, oc = some (v, h2) → MetP Z l y bytes maxL ret fr' lc' (.ref (zb Z + a) :: As) h ((fun v => some (.int v) : Int32 → Option Value) v) h2) (hR : fr' + 1 ≤ fr ∧ 8 + (maxL + 11) + lc' ≤ lc) (hcat : (rest.map fun v => v.category).sum ≤ 8) (hst : st = As.reverse ++ .ref (zb Z + a) :: rest) (hp : pc + 3 = pc') {f : Int32 → HP → Option (ρ × HP)}
    (kk : ∀ v h2, Sim Z l cc own nL fr lc rt nm args QQ h0 h1 v0 pc' lo (.int v :: rest) h2 (f v h2)) : Sim Z l cc own nL fr lc rt nm args QQ h0 h1 v0 pc lo st h (ob (inv ci a h oc) f) := by
  subst hp
  subst hst
  refine Sim.call (rv := (fun v => some (.int v) : Int32 → Option Value)) (a := (Value.ref (zb Z + a) :: As).toArray) (rest := rest) (fun v h2 ho => ?_) (fun v h2 ho {p e R s m below meth c} C r1 r2 H locs ls hP hS hl => ?_) (fun v h2 => kk v h2)
  · unfold inv at ho
    by_cases g : oC ci h a = true
    · rw [if_pos g] at ho
      exact (cM v h2 ho).1
    · rw [if_neg g] at ho
      cases ho
  unfold inv at ho
  by_cases g : oC ci h a = true
  · rw [if_pos g] at ho
    obtain ⟨mo, hM⟩ := cM v h2 ho
    have EW := C.2.2.2.2.1.1
    have hR9 := C.2.2.2.2.2.2.1
    obtain ⟨m1, m2, m3, m4, m5⟩ := ml
    obtain ⟨ga, gt⟩ := oC_spec g
    have he := wsO_get Z h ga
    rw [ent_obj gt h7] at he
    obtain ⟨qc, hq1, rfl⟩ := hci
    have hrecv := va_recv C.2.2.2.2.1.2.1 hP.1 hq1 he
    have hcode := EW.use (args := args) m1 rfl
    have hpre : PreV s H qc.1 (zb Z + a) (Pcg Z (.ref (zb Z + a) :: As) h) As := ⟨Pcg_blind, hrecv, Pcg_at C hP hS⟩
    have hrm : fr' + 1 ≤ R.frames ∧ 8 + (maxL + 11) + lc' ≤ R.locals := by rw [← hR9.1, ← hR9.2.1]; exact hR
    rcases m5 with m5 | ⟨host, m5⟩
    · exact va_runV (Ts := []) ⟨C.1, C.2.1, C.2.2.1, C.2.2.2.1, fun w hw => by cases hw⟩ hM ⟨⟨rfl, rfl, hrm.1, hrm.2, word1 hcode, List.mem_singleton.mpr rfl, hcode, EW.use m2 rfl, m3, ncount m4, EW.use m5 rfl⟩, EW.use mi.1 rfl, EW.use mi.2 rfl⟩ hpre rfl hn hl.1 rfl (lv_room hcat) hd ⟨r1, r2⟩
    · exact va_runVN (Ts := []) ⟨C.1, C.2.1, C.2.2.1, C.2.2.2.1, fun w hw => by cases hw⟩ hM ⟨⟨⟨rfl, rfl, hrm.1, hrm.2, word1 hcode, List.mem_singleton.mpr rfl⟩, hcode, EW.use m2 rfl, m3, ncount m4, EW.nest m5 rfl⟩, EW.use mi.1 rfl, EW.use mi.2 rfl⟩ hpre rfl hn hl.1 rfl (lv_room hcat) hd ⟨r1, r2⟩
  · rw [if_neg g] at ho
    cases ho
theorem S_stai {idx n fr' lc' : Nat} {y : MethodName} {bytes : ByteArray} {maxL : Nat} {ret : Option FieldType} (ml : ML own idx y bytes maxL ret n) (mi : Cond.static y ∈ lw_tbl) (hd : decode cc pc = .ok (.invokestatic idx, 3)) (As : List Value) (hn : As.length = n) {oc : Option (Int32 × HP)}
    (cM : ∀ v h2, oc = some (v, h2) → MetP Z l y bytes maxL ret fr' lc' As h ((fun v => some (.int v) : Int32 → Option Value) v) h2) (hR : fr' + 1 ≤ fr ∧ 8 + (maxL + 11) + lc' ≤ lc) (hcat : (rest.map fun v => v.category).sum ≤ 8) (hst : st = As.reverse ++ rest) (hp : pc + 3 = pc') {f : Int32 → HP → Option (ρ × HP)}
    (kk : ∀ v h2, Sim Z l cc own nL fr lc rt nm args QQ h0 h1 v0 pc' lo (.int v :: rest) h2 (f v h2)) : Sim Z l cc own nL fr lc rt nm args QQ h0 h1 v0 pc lo st h (ob oc f) := by
  subst hp
  subst hst
  refine Sim.call (rv := (fun v => some (.int v) : Int32 → Option Value)) (a := As.toArray) (rest := rest) (fun v h2 ho => (cM v h2 ho).1) (fun v h2 ho {p e R s m below meth c} C r1 r2 H locs ls hP hS hl => ?_) (fun v h2 => kk v h2)
  obtain ⟨mo, hM⟩ := cM v h2 ho
  have EW := C.2.2.2.2.1.1
  have hR9 := C.2.2.2.2.2.2.1
  obtain ⟨m1, m2, m3, m4, m5⟩ := ml
  have hcode := EW.use (args := args) m1 rfl
  have hpre : PreS s H (Pcg Z As h) As := ⟨Pcg_blind, Pcg_at C hP hS⟩
  have hrm : fr' + 1 ≤ R.frames ∧ 8 + (maxL + 11) + lc' ≤ R.locals := by rw [← hR9.1, ← hR9.2.1]; exact hR
  rcases m5 with m5 | ⟨host, m5⟩
  · exact va_runS (Ts := []) ⟨C.1, C.2.1, C.2.2.1, C.2.2.2.1, fun w hw => by cases hw⟩ hM ⟨⟨rfl, rfl, hrm.1, hrm.2, word1 hcode, List.mem_singleton.mpr rfl, hcode, EW.use m2 rfl, m3, ncount m4, EW.use m5 rfl⟩, EW.use mi rfl⟩ hpre rfl hn hl.1 rfl (lv_room hcat) hd ⟨r1, r2⟩
  · exact va_runSN (Ts := []) ⟨C.1, C.2.1, C.2.2.1, C.2.2.2.1, fun w hw => by cases hw⟩ hM ⟨⟨⟨rfl, rfl, hrm.1, hrm.2, word1 hcode, List.mem_singleton.mpr rfl⟩, hcode, EW.use m2 rfl, m3, ncount m4, EW.nest m5 rfl⟩, EW.use mi rfl, trivial⟩ hpre rfl hn hl.1 rfl (lv_room hcat) hd ⟨r1, r2⟩
theorem S_invl {idx n ci fr' lc' : Nat} {y : MethodName} {bytes : ByteArray} {maxL : Nat} {ret : Option FieldType} (ml : ML own idx y bytes maxL ret n) {C' : String} (mi : MI C' y) (hci : ∃ q : vw_C, vwCl[ci]? = some q ∧ q.1 = C') (h7 : ci < 7) (hd : decode cc pc = .ok (.invokevirtual idx, 3)) {a : Nat} (As : List Value) (hn : As.length = n) {oc : Option (Int64 × HP)}
    (cM : ∀ v h2, oc = some (v, h2) → MetP Z l y bytes maxL ret fr' lc' (.ref (zb Z + a) :: As) h ((fun v => some (.long v) : Int64 → Option Value) v) h2) (hR : fr' + 1 ≤ fr ∧ 8 + (maxL + 11) + lc' ≤ lc) (hcat : (rest.map fun v => v.category).sum ≤ 8) (hst : st = As.reverse ++ .ref (zb Z + a) :: rest) (hp : pc + 3 = pc') {f : Int64 → HP → Option (ρ × HP)}
    (kk : ∀ v h2, Sim Z l cc own nL fr lc rt nm args QQ h0 h1 v0 pc' lo (.long v :: rest) h2 (f v h2)) : Sim Z l cc own nL fr lc rt nm args QQ h0 h1 v0 pc lo st h (ob (inv ci a h oc) f) := by
  subst hp
  subst hst
  refine Sim.call (rv := (fun v => some (.long v) : Int64 → Option Value)) (a := (Value.ref (zb Z + a) :: As).toArray) (rest := rest) (fun v h2 ho => ?_) (fun v h2 ho {p e R s m below meth c} C r1 r2 H locs ls hP hS hl => ?_) (fun v h2 => kk v h2)
  · unfold inv at ho
    by_cases g : oC ci h a = true
    · rw [if_pos g] at ho
      exact (cM v h2 ho).1
    · rw [if_neg g] at ho
      cases ho
  unfold inv at ho
  by_cases g : oC ci h a = true
  · rw [if_pos g] at ho
    obtain ⟨mo, hM⟩ := cM v h2 ho
    have EW := C.2.2.2.2.1.1
    have hR9 := C.2.2.2.2.2.2.1
    obtain ⟨m1, m2, m3, m4, m5⟩ := ml
    obtain ⟨ga, gt⟩ := oC_spec g
    have he := wsO_get Z h ga
    rw [ent_obj gt h7] at he
    obtain ⟨qc, hq1, rfl⟩ := hci
    have hrecv := va_recv C.2.2.2.2.1.2.1 hP.1 hq1 he
    have hcode := EW.use (args := args) m1 rfl
    have hpre : PreV s H qc.1 (zb Z + a) (Pcg Z (.ref (zb Z + a) :: As) h) As := ⟨Pcg_blind, hrecv, Pcg_at C hP hS⟩
    have hrm : fr' + 1 ≤ R.frames ∧ 8 + (maxL + 11) + lc' ≤ R.locals := by rw [← hR9.1, ← hR9.2.1]; exact hR
    rcases m5 with m5 | ⟨host, m5⟩
    · exact va_runV (Ts := []) ⟨C.1, C.2.1, C.2.2.1, C.2.2.2.1, fun w hw => by cases hw⟩ hM ⟨⟨rfl, rfl, hrm.1, hrm.2, word1 hcode, List.mem_singleton.mpr rfl, hcode, EW.use m2 rfl, m3, ncount m4, EW.use m5 rfl⟩, EW.use mi.1 rfl, EW.use mi.2 rfl⟩ hpre rfl hn hl.1 rfl (lv_room hcat) hd ⟨r1, r2⟩
    · exact va_runVN (Ts := []) ⟨C.1, C.2.1, C.2.2.1, C.2.2.2.1, fun w hw => by cases hw⟩ hM ⟨⟨⟨rfl, rfl, hrm.1, hrm.2, word1 hcode, List.mem_singleton.mpr rfl⟩, hcode, EW.use m2 rfl, m3, ncount m4, EW.nest m5 rfl⟩, EW.use mi.1 rfl, EW.use mi.2 rfl⟩ hpre rfl hn hl.1 rfl (lv_room hcat) hd ⟨r1, r2⟩
  · rw [if_neg g] at ho
    cases ho
theorem S_stal {idx n fr' lc' : Nat} {y : MethodName} {bytes : ByteArray} {maxL : Nat} {ret : Option FieldType} (ml : ML own idx y bytes maxL ret n) (mi : Cond.static y ∈ lw_tbl) (hd : decode cc pc = .ok (.invokestatic idx, 3)) (As : List Value) (hn : As.length = n) {oc : Option (Int64 × HP)}
    (cM : ∀ v h2, oc = some (v, h2) → MetP Z l y bytes maxL ret fr' lc' As h ((fun v => some (.long v) : Int64 → Option Value) v) h2) (hR : fr' + 1 ≤ fr ∧ 8 + (maxL + 11) + lc' ≤ lc) (hcat : (rest.map fun v => v.category).sum ≤ 8) (hst : st = As.reverse ++ rest) (hp : pc + 3 = pc') {f : Int64 → HP → Option (ρ × HP)}
    (kk : ∀ v h2, Sim Z l cc own nL fr lc rt nm args QQ h0 h1 v0 pc' lo (.long v :: rest) h2 (f v h2)) : Sim Z l cc own nL fr lc rt nm args QQ h0 h1 v0 pc lo st h (ob oc f) := by
  subst hp
  subst hst
  refine Sim.call (rv := (fun v => some (.long v) : Int64 → Option Value)) (a := As.toArray) (rest := rest) (fun v h2 ho => (cM v h2 ho).1) (fun v h2 ho {p e R s m below meth c} C r1 r2 H locs ls hP hS hl => ?_) (fun v h2 => kk v h2)
  obtain ⟨mo, hM⟩ := cM v h2 ho
  have EW := C.2.2.2.2.1.1
  have hR9 := C.2.2.2.2.2.2.1
  obtain ⟨m1, m2, m3, m4, m5⟩ := ml
  have hcode := EW.use (args := args) m1 rfl
  have hpre : PreS s H (Pcg Z As h) As := ⟨Pcg_blind, Pcg_at C hP hS⟩
  have hrm : fr' + 1 ≤ R.frames ∧ 8 + (maxL + 11) + lc' ≤ R.locals := by rw [← hR9.1, ← hR9.2.1]; exact hR
  rcases m5 with m5 | ⟨host, m5⟩
  · exact va_runS (Ts := []) ⟨C.1, C.2.1, C.2.2.1, C.2.2.2.1, fun w hw => by cases hw⟩ hM ⟨⟨rfl, rfl, hrm.1, hrm.2, word1 hcode, List.mem_singleton.mpr rfl, hcode, EW.use m2 rfl, m3, ncount m4, EW.use m5 rfl⟩, EW.use mi rfl⟩ hpre rfl hn hl.1 rfl (lv_room hcat) hd ⟨r1, r2⟩
  · exact va_runSN (Ts := []) ⟨C.1, C.2.1, C.2.2.1, C.2.2.2.1, fun w hw => by cases hw⟩ hM ⟨⟨⟨rfl, rfl, hrm.1, hrm.2, word1 hcode, List.mem_singleton.mpr rfl⟩, hcode, EW.use m2 rfl, m3, ncount m4, EW.nest m5 rfl⟩, EW.use mi rfl, trivial⟩ hpre rfl hn hl.1 rfl (lv_room hcat) hd ⟨r1, r2⟩
theorem S_invv {idx n ci fr' lc' : Nat} {y : MethodName} {bytes : ByteArray} {maxL : Nat} {ret : Option FieldType} (ml : ML own idx y bytes maxL ret n) {C' : String} (mi : MI C' y) (hci : ∃ q : vw_C, vwCl[ci]? = some q ∧ q.1 = C') (h7 : ci < 7) (hd : decode cc pc = .ok (.invokevirtual idx, 3)) {a : Nat} (As : List Value) (hn : As.length = n) {oc : Option (Unit × HP)}
    (cM : ∀ v h2, oc = some (v, h2) → MetP Z l y bytes maxL ret fr' lc' (.ref (zb Z + a) :: As) h ((fun _ => none : Unit → Option Value) v) h2) (hR : fr' + 1 ≤ fr ∧ 8 + (maxL + 11) + lc' ≤ lc) (hcat : (rest.map fun v => v.category).sum ≤ 8) (hst : st = As.reverse ++ .ref (zb Z + a) :: rest) (hp : pc + 3 = pc') {f : Unit → HP → Option (ρ × HP)}
    (kk : ∀ v h2, Sim Z l cc own nL fr lc rt nm args QQ h0 h1 v0 pc' lo (rest) h2 (f v h2)) : Sim Z l cc own nL fr lc rt nm args QQ h0 h1 v0 pc lo st h (ob (inv ci a h oc) f) := by
  subst hp
  subst hst
  refine Sim.call (rv := (fun _ => none : Unit → Option Value)) (a := (Value.ref (zb Z + a) :: As).toArray) (rest := rest) (fun v h2 ho => ?_) (fun v h2 ho {p e R s m below meth c} C r1 r2 H locs ls hP hS hl => ?_) (fun v h2 => kk v h2)
  · unfold inv at ho
    by_cases g : oC ci h a = true
    · rw [if_pos g] at ho
      exact (cM v h2 ho).1
    · rw [if_neg g] at ho
      cases ho
  unfold inv at ho
  by_cases g : oC ci h a = true
  · rw [if_pos g] at ho
    obtain ⟨mo, hM⟩ := cM v h2 ho
    have EW := C.2.2.2.2.1.1
    have hR9 := C.2.2.2.2.2.2.1
    obtain ⟨m1, m2, m3, m4, m5⟩ := ml
    obtain ⟨ga, gt⟩ := oC_spec g
    have he := wsO_get Z h ga
    rw [ent_obj gt h7] at he
    obtain ⟨qc, hq1, rfl⟩ := hci
    have hrecv := va_recv C.2.2.2.2.1.2.1 hP.1 hq1 he
    have hcode := EW.use (args := args) m1 rfl
    have hpre : PreV s H qc.1 (zb Z + a) (Pcg Z (.ref (zb Z + a) :: As) h) As := ⟨Pcg_blind, hrecv, Pcg_at C hP hS⟩
    have hrm : fr' + 1 ≤ R.frames ∧ 8 + (maxL + 11) + lc' ≤ R.locals := by rw [← hR9.1, ← hR9.2.1]; exact hR
    rcases m5 with m5 | ⟨host, m5⟩
    · exact va_runV (Ts := []) ⟨C.1, C.2.1, C.2.2.1, C.2.2.2.1, fun w hw => by cases hw⟩ hM ⟨⟨rfl, rfl, hrm.1, hrm.2, word1 hcode, List.mem_singleton.mpr rfl, hcode, EW.use m2 rfl, m3, ncount m4, EW.use m5 rfl⟩, EW.use mi.1 rfl, EW.use mi.2 rfl⟩ hpre rfl hn hl.1 rfl (lv_room hcat) hd ⟨r1, r2⟩
    · exact va_runVN (Ts := []) ⟨C.1, C.2.1, C.2.2.1, C.2.2.2.1, fun w hw => by cases hw⟩ hM ⟨⟨⟨rfl, rfl, hrm.1, hrm.2, word1 hcode, List.mem_singleton.mpr rfl⟩, hcode, EW.use m2 rfl, m3, ncount m4, EW.nest m5 rfl⟩, EW.use mi.1 rfl, EW.use mi.2 rfl⟩ hpre rfl hn hl.1 rfl (lv_room hcat) hd ⟨r1, r2⟩
  · rw [if_neg g] at ho
    cases ho
theorem S_stav {idx n fr' lc' : Nat} {y : MethodName} {bytes : ByteArray} {maxL : Nat} {ret : Option FieldType} (ml : ML own idx y bytes maxL ret n) (mi : Cond.static y ∈ lw_tbl) (hd : decode cc pc = .ok (.invokestatic idx, 3)) (As : List Value) (hn : As.length = n) {oc : Option (Unit × HP)}
    (cM : ∀ v h2, oc = some (v, h2) → MetP Z l y bytes maxL ret fr' lc' As h ((fun _ => none : Unit → Option Value) v) h2) (hR : fr' + 1 ≤ fr ∧ 8 + (maxL + 11) + lc' ≤ lc) (hcat : (rest.map fun v => v.category).sum ≤ 8) (hst : st = As.reverse ++ rest) (hp : pc + 3 = pc') {f : Unit → HP → Option (ρ × HP)}
    (kk : ∀ v h2, Sim Z l cc own nL fr lc rt nm args QQ h0 h1 v0 pc' lo (rest) h2 (f v h2)) : Sim Z l cc own nL fr lc rt nm args QQ h0 h1 v0 pc lo st h (ob oc f) := by
  subst hp
  subst hst
  refine Sim.call (rv := (fun _ => none : Unit → Option Value)) (a := As.toArray) (rest := rest) (fun v h2 ho => (cM v h2 ho).1) (fun v h2 ho {p e R s m below meth c} C r1 r2 H locs ls hP hS hl => ?_) (fun v h2 => kk v h2)
  obtain ⟨mo, hM⟩ := cM v h2 ho
  have EW := C.2.2.2.2.1.1
  have hR9 := C.2.2.2.2.2.2.1
  obtain ⟨m1, m2, m3, m4, m5⟩ := ml
  have hcode := EW.use (args := args) m1 rfl
  have hpre : PreS s H (Pcg Z As h) As := ⟨Pcg_blind, Pcg_at C hP hS⟩
  have hrm : fr' + 1 ≤ R.frames ∧ 8 + (maxL + 11) + lc' ≤ R.locals := by rw [← hR9.1, ← hR9.2.1]; exact hR
  rcases m5 with m5 | ⟨host, m5⟩
  · exact va_runS (Ts := []) ⟨C.1, C.2.1, C.2.2.1, C.2.2.2.1, fun w hw => by cases hw⟩ hM ⟨⟨rfl, rfl, hrm.1, hrm.2, word1 hcode, List.mem_singleton.mpr rfl, hcode, EW.use m2 rfl, m3, ncount m4, EW.use m5 rfl⟩, EW.use mi rfl⟩ hpre rfl hn hl.1 rfl (lv_room hcat) hd ⟨r1, r2⟩
  · exact va_runSN (Ts := []) ⟨C.1, C.2.1, C.2.2.1, C.2.2.2.1, fun w hw => by cases hw⟩ hM ⟨⟨⟨rfl, rfl, hrm.1, hrm.2, word1 hcode, List.mem_singleton.mpr rfl⟩, hcode, EW.use m2 rfl, m3, ncount m4, EW.nest m5 rfl⟩, EW.use mi rfl, trivial⟩ hpre rfl hn hl.1 rfl (lv_room hcat) hd ⟨r1, r2⟩
theorem S_invr {idx n ci fr' lc' : Nat} {y : MethodName} {bytes : ByteArray} {maxL : Nat} {ret : Option FieldType} (ml : ML own idx y bytes maxL ret n) {C' : String} (mi : MI C' y) (hci : ∃ q : vw_C, vwCl[ci]? = some q ∧ q.1 = C') (h7 : ci < 7) (hd : decode cc pc = .ok (.invokevirtual idx, 3)) {a : Nat} (As : List Value) (hn : As.length = n) {oc : Option (Nat × HP)}
    (cM : ∀ v h2, oc = some (v, h2) → MetP Z l y bytes maxL ret fr' lc' (.ref (zb Z + a) :: As) h ((fun v => some (.ref (zb Z + v)) : Nat → Option Value) v) h2) (hR : fr' + 1 ≤ fr ∧ 8 + (maxL + 11) + lc' ≤ lc) (hcat : (rest.map fun v => v.category).sum ≤ 8) (hst : st = As.reverse ++ .ref (zb Z + a) :: rest) (hp : pc + 3 = pc') {f : Nat → HP → Option (ρ × HP)}
    (kk : ∀ v h2, Sim Z l cc own nL fr lc rt nm args QQ h0 h1 v0 pc' lo (.ref (zb Z + v) :: rest) h2 (f v h2)) : Sim Z l cc own nL fr lc rt nm args QQ h0 h1 v0 pc lo st h (ob (inv ci a h oc) f) := by
  subst hp
  subst hst
  refine Sim.call (rv := (fun v => some (.ref (zb Z + v)) : Nat → Option Value)) (a := (Value.ref (zb Z + a) :: As).toArray) (rest := rest) (fun v h2 ho => ?_) (fun v h2 ho {p e R s m below meth c} C r1 r2 H locs ls hP hS hl => ?_) (fun v h2 => kk v h2)
  · unfold inv at ho
    by_cases g : oC ci h a = true
    · rw [if_pos g] at ho
      exact (cM v h2 ho).1
    · rw [if_neg g] at ho
      cases ho
  unfold inv at ho
  by_cases g : oC ci h a = true
  · rw [if_pos g] at ho
    obtain ⟨mo, hM⟩ := cM v h2 ho
    have EW := C.2.2.2.2.1.1
    have hR9 := C.2.2.2.2.2.2.1
    obtain ⟨m1, m2, m3, m4, m5⟩ := ml
    obtain ⟨ga, gt⟩ := oC_spec g
    have he := wsO_get Z h ga
    rw [ent_obj gt h7] at he
    obtain ⟨qc, hq1, rfl⟩ := hci
    have hrecv := va_recv C.2.2.2.2.1.2.1 hP.1 hq1 he
    have hcode := EW.use (args := args) m1 rfl
    have hpre : PreV s H qc.1 (zb Z + a) (Pcg Z (.ref (zb Z + a) :: As) h) As := ⟨Pcg_blind, hrecv, Pcg_at C hP hS⟩
    have hrm : fr' + 1 ≤ R.frames ∧ 8 + (maxL + 11) + lc' ≤ R.locals := by rw [← hR9.1, ← hR9.2.1]; exact hR
    rcases m5 with m5 | ⟨host, m5⟩
    · exact va_runV (Ts := []) ⟨C.1, C.2.1, C.2.2.1, C.2.2.2.1, fun w hw => by cases hw⟩ hM ⟨⟨rfl, rfl, hrm.1, hrm.2, word1 hcode, List.mem_singleton.mpr rfl, hcode, EW.use m2 rfl, m3, ncount m4, EW.use m5 rfl⟩, EW.use mi.1 rfl, EW.use mi.2 rfl⟩ hpre rfl hn hl.1 rfl (lv_room hcat) hd ⟨r1, r2⟩
    · exact va_runVN (Ts := []) ⟨C.1, C.2.1, C.2.2.1, C.2.2.2.1, fun w hw => by cases hw⟩ hM ⟨⟨⟨rfl, rfl, hrm.1, hrm.2, word1 hcode, List.mem_singleton.mpr rfl⟩, hcode, EW.use m2 rfl, m3, ncount m4, EW.nest m5 rfl⟩, EW.use mi.1 rfl, EW.use mi.2 rfl⟩ hpre rfl hn hl.1 rfl (lv_room hcat) hd ⟨r1, r2⟩
  · rw [if_neg g] at ho
    cases ho
theorem S_star {idx n fr' lc' : Nat} {y : MethodName} {bytes : ByteArray} {maxL : Nat} {ret : Option FieldType} (ml : ML own idx y bytes maxL ret n) (mi : Cond.static y ∈ lw_tbl) (hd : decode cc pc = .ok (.invokestatic idx, 3)) (As : List Value) (hn : As.length = n) {oc : Option (Nat × HP)}
    (cM : ∀ v h2, oc = some (v, h2) → MetP Z l y bytes maxL ret fr' lc' As h ((fun v => some (.ref (zb Z + v)) : Nat → Option Value) v) h2) (hR : fr' + 1 ≤ fr ∧ 8 + (maxL + 11) + lc' ≤ lc) (hcat : (rest.map fun v => v.category).sum ≤ 8) (hst : st = As.reverse ++ rest) (hp : pc + 3 = pc') {f : Nat → HP → Option (ρ × HP)}
    (kk : ∀ v h2, Sim Z l cc own nL fr lc rt nm args QQ h0 h1 v0 pc' lo (.ref (zb Z + v) :: rest) h2 (f v h2)) : Sim Z l cc own nL fr lc rt nm args QQ h0 h1 v0 pc lo st h (ob oc f) := by
  subst hp
  subst hst
  refine Sim.call (rv := (fun v => some (.ref (zb Z + v)) : Nat → Option Value)) (a := As.toArray) (rest := rest) (fun v h2 ho => (cM v h2 ho).1) (fun v h2 ho {p e R s m below meth c} C r1 r2 H locs ls hP hS hl => ?_) (fun v h2 => kk v h2)
  obtain ⟨mo, hM⟩ := cM v h2 ho
  have EW := C.2.2.2.2.1.1
  have hR9 := C.2.2.2.2.2.2.1
  obtain ⟨m1, m2, m3, m4, m5⟩ := ml
  have hcode := EW.use (args := args) m1 rfl
  have hpre : PreS s H (Pcg Z As h) As := ⟨Pcg_blind, Pcg_at C hP hS⟩
  have hrm : fr' + 1 ≤ R.frames ∧ 8 + (maxL + 11) + lc' ≤ R.locals := by rw [← hR9.1, ← hR9.2.1]; exact hR
  rcases m5 with m5 | ⟨host, m5⟩
  · exact va_runS (Ts := []) ⟨C.1, C.2.1, C.2.2.1, C.2.2.2.1, fun w hw => by cases hw⟩ hM ⟨⟨rfl, rfl, hrm.1, hrm.2, word1 hcode, List.mem_singleton.mpr rfl, hcode, EW.use m2 rfl, m3, ncount m4, EW.use m5 rfl⟩, EW.use mi rfl⟩ hpre rfl hn hl.1 rfl (lv_room hcat) hd ⟨r1, r2⟩
  · exact va_runSN (Ts := []) ⟨C.1, C.2.1, C.2.2.1, C.2.2.2.1, fun w hw => by cases hw⟩ hM ⟨⟨⟨rfl, rfl, hrm.1, hrm.2, word1 hcode, List.mem_singleton.mpr rfl⟩, hcode, EW.use m2 rfl, m3, ncount m4, EW.nest m5 rfl⟩, EW.use mi rfl, trivial⟩ hpre rfl hn hl.1 rfl (lv_room hcat) hd ⟨r1, r2⟩
theorem S_invs {idx n ci fr' lc' : Nat} {y : MethodName} {bytes : ByteArray} {maxL : Nat} {ret : Option FieldType} (ml : ML own idx y bytes maxL ret n) {C' : String} (mi : MI C' y) (hci : ∃ q : vw_C, vwCl[ci]? = some q ∧ q.1 = C') (h7 : ci < 7) (hd : decode cc pc = .ok (.invokevirtual idx, 3)) {a : Nat} (As : List Value) (hn : As.length = n) {oc : Option (Nat × HP)}
    (cM : ∀ v h2, oc = some (v, h2) → MetP Z l y bytes maxL ret fr' lc' (.ref (zb Z + a) :: As) h ((fun v => some (.ref (zK Z v)) : Nat → Option Value) v) h2) (hR : fr' + 1 ≤ fr ∧ 8 + (maxL + 11) + lc' ≤ lc) (hcat : (rest.map fun v => v.category).sum ≤ 8) (hst : st = As.reverse ++ .ref (zb Z + a) :: rest) (hp : pc + 3 = pc') {f : Nat → HP → Option (ρ × HP)}
    (kk : ∀ v h2, Sim Z l cc own nL fr lc rt nm args QQ h0 h1 v0 pc' lo (.ref (zK Z v) :: rest) h2 (f v h2)) : Sim Z l cc own nL fr lc rt nm args QQ h0 h1 v0 pc lo st h (ob (inv ci a h oc) f) := by
  subst hp
  subst hst
  refine Sim.call (rv := (fun v => some (.ref (zK Z v)) : Nat → Option Value)) (a := (Value.ref (zb Z + a) :: As).toArray) (rest := rest) (fun v h2 ho => ?_) (fun v h2 ho {p e R s m below meth c} C r1 r2 H locs ls hP hS hl => ?_) (fun v h2 => kk v h2)
  · unfold inv at ho
    by_cases g : oC ci h a = true
    · rw [if_pos g] at ho
      exact (cM v h2 ho).1
    · rw [if_neg g] at ho
      cases ho
  unfold inv at ho
  by_cases g : oC ci h a = true
  · rw [if_pos g] at ho
    obtain ⟨mo, hM⟩ := cM v h2 ho
    have EW := C.2.2.2.2.1.1
    have hR9 := C.2.2.2.2.2.2.1
    obtain ⟨m1, m2, m3, m4, m5⟩ := ml
    obtain ⟨ga, gt⟩ := oC_spec g
    have he := wsO_get Z h ga
    rw [ent_obj gt h7] at he
    obtain ⟨qc, hq1, rfl⟩ := hci
    have hrecv := va_recv C.2.2.2.2.1.2.1 hP.1 hq1 he
    have hcode := EW.use (args := args) m1 rfl
    have hpre : PreV s H qc.1 (zb Z + a) (Pcg Z (.ref (zb Z + a) :: As) h) As := ⟨Pcg_blind, hrecv, Pcg_at C hP hS⟩
    have hrm : fr' + 1 ≤ R.frames ∧ 8 + (maxL + 11) + lc' ≤ R.locals := by rw [← hR9.1, ← hR9.2.1]; exact hR
    rcases m5 with m5 | ⟨host, m5⟩
    · exact va_runV (Ts := []) ⟨C.1, C.2.1, C.2.2.1, C.2.2.2.1, fun w hw => by cases hw⟩ hM ⟨⟨rfl, rfl, hrm.1, hrm.2, word1 hcode, List.mem_singleton.mpr rfl, hcode, EW.use m2 rfl, m3, ncount m4, EW.use m5 rfl⟩, EW.use mi.1 rfl, EW.use mi.2 rfl⟩ hpre rfl hn hl.1 rfl (lv_room hcat) hd ⟨r1, r2⟩
    · exact va_runVN (Ts := []) ⟨C.1, C.2.1, C.2.2.1, C.2.2.2.1, fun w hw => by cases hw⟩ hM ⟨⟨⟨rfl, rfl, hrm.1, hrm.2, word1 hcode, List.mem_singleton.mpr rfl⟩, hcode, EW.use m2 rfl, m3, ncount m4, EW.nest m5 rfl⟩, EW.use mi.1 rfl, EW.use mi.2 rfl⟩ hpre rfl hn hl.1 rfl (lv_room hcat) hd ⟨r1, r2⟩
  · rw [if_neg g] at ho
    cases ho
theorem S_stas {idx n fr' lc' : Nat} {y : MethodName} {bytes : ByteArray} {maxL : Nat} {ret : Option FieldType} (ml : ML own idx y bytes maxL ret n) (mi : Cond.static y ∈ lw_tbl) (hd : decode cc pc = .ok (.invokestatic idx, 3)) (As : List Value) (hn : As.length = n) {oc : Option (Nat × HP)}
    (cM : ∀ v h2, oc = some (v, h2) → MetP Z l y bytes maxL ret fr' lc' As h ((fun v => some (.ref (zK Z v)) : Nat → Option Value) v) h2) (hR : fr' + 1 ≤ fr ∧ 8 + (maxL + 11) + lc' ≤ lc) (hcat : (rest.map fun v => v.category).sum ≤ 8) (hst : st = As.reverse ++ rest) (hp : pc + 3 = pc') {f : Nat → HP → Option (ρ × HP)}
    (kk : ∀ v h2, Sim Z l cc own nL fr lc rt nm args QQ h0 h1 v0 pc' lo (.ref (zK Z v) :: rest) h2 (f v h2)) : Sim Z l cc own nL fr lc rt nm args QQ h0 h1 v0 pc lo st h (ob oc f) := by
  subst hp
  subst hst
  refine Sim.call (rv := (fun v => some (.ref (zK Z v)) : Nat → Option Value)) (a := As.toArray) (rest := rest) (fun v h2 ho => (cM v h2 ho).1) (fun v h2 ho {p e R s m below meth c} C r1 r2 H locs ls hP hS hl => ?_) (fun v h2 => kk v h2)
  obtain ⟨mo, hM⟩ := cM v h2 ho
  have EW := C.2.2.2.2.1.1
  have hR9 := C.2.2.2.2.2.2.1
  obtain ⟨m1, m2, m3, m4, m5⟩ := ml
  have hcode := EW.use (args := args) m1 rfl
  have hpre : PreS s H (Pcg Z As h) As := ⟨Pcg_blind, Pcg_at C hP hS⟩
  have hrm : fr' + 1 ≤ R.frames ∧ 8 + (maxL + 11) + lc' ≤ R.locals := by rw [← hR9.1, ← hR9.2.1]; exact hR
  rcases m5 with m5 | ⟨host, m5⟩
  · exact va_runS (Ts := []) ⟨C.1, C.2.1, C.2.2.1, C.2.2.2.1, fun w hw => by cases hw⟩ hM ⟨⟨rfl, rfl, hrm.1, hrm.2, word1 hcode, List.mem_singleton.mpr rfl, hcode, EW.use m2 rfl, m3, ncount m4, EW.use m5 rfl⟩, EW.use mi rfl⟩ hpre rfl hn hl.1 rfl (lv_room hcat) hd ⟨r1, r2⟩
  · exact va_runSN (Ts := []) ⟨C.1, C.2.1, C.2.2.1, C.2.2.2.1, fun w hw => by cases hw⟩ hM ⟨⟨⟨rfl, rfl, hrm.1, hrm.2, word1 hcode, List.mem_singleton.mpr rfl⟩, hcode, EW.use m2 rfl, m3, ncount m4, EW.nest m5 rfl⟩, EW.use mi rfl, trivial⟩ hpre rfl hn hl.1 rfl (lv_room hcat) hd ⟨r1, r2⟩
theorem S_ctor {idx n fr' lc' : Nat} {y : MethodName} {bytes : ByteArray} {maxL : Nat} (ml : ML own idx y bytes maxL none n) (hy : y.name = "<init>") (mi : Cond.instanceMethod y ∈ lw_tbl) (hd : decode cc pc = .ok (.invokespecial idx, 3)) {a : Nat} (As : List Value) (hn : As.length = n) {oc : Option (Unit × HP)}
    (cM : ∀ v h2, oc = some (v, h2) → MetP Z l y bytes maxL none fr' lc' (.ref (zb Z + a) :: As) h none h2) (hR : fr' + 1 ≤ fr ∧ 8 + (maxL + 11) + lc' ≤ lc) (hcat : (rest.map fun v => v.category).sum ≤ 8) (hst : st = As.reverse ++ .ref (zb Z + a) :: rest) (hp : pc + 3 = pc') {f : Unit → HP → Option (ρ × HP)}
    (kk : ∀ v h2, Sim Z l cc own nL fr lc rt nm args QQ h0 h1 v0 pc' lo (rest) h2 (f v h2)) : Sim Z l cc own nL fr lc rt nm args QQ h0 h1 v0 pc lo st h (ob oc f) := by
  subst hp
  subst hst
  refine Sim.call (rv := (fun _ => none : Unit → Option Value)) (a := (Value.ref (zb Z + a) :: As).toArray) (rest := rest) (fun v h2 ho => (cM v h2 ho).1) (fun v h2 ho {p e R s m below meth c} C r1 r2 H locs ls hP hS hl => ?_) (fun v h2 => kk v h2)
  obtain ⟨mo, hM⟩ := cM v h2 ho
  have EW := C.2.2.2.2.1.1
  have hR9 := C.2.2.2.2.2.2.1
  obtain ⟨m1, m2, m3, m4, m5⟩ := ml
  have hcode := EW.use (args := args) m1 rfl
  have hpre : PreS s H (Pcg Z (.ref (zb Z + a) :: As) h) (.ref (zb Z + a) :: As) := ⟨Pcg_blind, Pcg_at C hP hS⟩
  have hrm : fr' + 1 ≤ R.frames ∧ 8 + (maxL + 11) + lc' ≤ R.locals := by rw [← hR9.1, ← hR9.2.1]; exact hR
  rcases m5 with m5 | ⟨host, m5⟩
  · exact va_runI (Ts := []) ⟨C.1, C.2.1, C.2.2.1, C.2.2.2.1, fun w hw => by cases hw⟩ hM ⟨⟨rfl, rfl, hrm.1, hrm.2, word1 hcode, List.mem_singleton.mpr rfl, hcode, EW.use m2 rfl, m3, ncount m4, EW.use m5 rfl⟩, hy, EW.use mi rfl⟩ hpre rfl hn hl.1 rfl (lv_room hcat) hd ⟨r1, r2⟩
  · exact va_runIN (Ts := []) ⟨C.1, C.2.1, C.2.2.1, C.2.2.2.1, fun w hw => by cases hw⟩ hM ⟨⟨⟨rfl, rfl, hrm.1, hrm.2, word1 hcode, List.mem_singleton.mpr rfl⟩, hcode, EW.use m2 rfl, m3, ncount m4, EW.nest m5 rfl⟩, hy, EW.use mi rfl⟩ hpre rfl hn hl.1 rfl (lv_room hcat) hd ⟨r1, r2⟩
/-! returns -/
theorem ret_post (C : Cx p R s m meth c Z cc own nL fr lc rt nm h0 h1) {rv : Option Value} {H : Heap} {locs : List Loc} (hP : Rl Z h1 H) (hS : va_S (zA Z) s.heap H locs) : ∀ t : State, t.heap = H → s.WarmedH t.vm → Qg Z rv h1 args s (.returned rv) t := fun t ht _ => ⟨rfl, by rw [ht]; exact hP, by rw [ht]; exact hS.1, fun q a b => by rw [ht]; exact hS.2.1 q a b⟩
theorem S_iret {v0 : Int32} (hr : rt = some .int) (hd : decode cc pc = .ok (.ireturn, 1)) {v : Int32} : Sim Z l cc own nL fr lc rt nm args (fun s below => MQ below (Qg Z (some (.int v0)) h1) args s (hN h1 - hN h0) (hL h1 - hL h0) (zA Z)) h0 h1 v0 pc lo ([.int v]) h (some (v, h)) := by
  intro ho
  cases ho
  refine ⟨Mono.rf _, fun C a1 H locs ls hP hS hl => ?_⟩
  have hlk := C.2.2.2.2.2.1
  exact W.iret C.1 C.2.1 (C.2.2.2.2.2.2.2.2.1.trans hr) (ret_post C hP hS) hS.2.2 hd hlk
theorem S_lret {v0 : Int64} (hr : rt = some .long) (hd : decode cc pc = .ok (.lreturn, 1)) {v : Int64} : Sim Z l cc own nL fr lc rt nm args (fun s below => MQ below (Qg Z (some (.long v0)) h1) args s (hN h1 - hN h0) (hL h1 - hL h0) (zA Z)) h0 h1 v0 pc lo ([.long v]) h (some (v, h)) := by
  intro ho
  cases ho
  refine ⟨Mono.rf _, fun C a1 H locs ls hP hS hl => ?_⟩
  have hlk := C.2.2.2.2.2.1
  exact W.lret C.1 C.2.1 (C.2.2.2.2.2.2.2.2.1.trans hr) (ret_post C hP hS) hS.2.2 hd hlk
theorem S_vret {v0 : Unit} (hr : rt = none) (hd : decode cc pc = .ok (.return_, 1)) {v : Unit} : Sim Z l cc own nL fr lc rt nm args (fun s below => MQ below (Qg Z (none) h1) args s (hN h1 - hN h0) (hL h1 - hL h0) (zA Z)) h0 h1 v0 pc lo ([]) h (some (v, h)) := by
  intro ho
  cases ho
  refine ⟨Mono.rf _, fun C a1 H locs ls hP hS hl => ?_⟩
  have hlk := C.2.2.2.2.2.1
  exact W.vret C.1 C.2.1 (C.2.2.2.2.2.2.2.2.1.trans hr) (ret_post C hP hS) hS.2.2 hd hlk
theorem S_aret {v0 : Nat} {rt9 : FieldType} (hr : rt = some rt9) (hrt : (∃ n, rt9 = .object n) ∨ ∃ t, rt9 = .array t) (hd : decode cc pc = .ok (.areturn, 1)) {v : Nat} : Sim Z l cc own nL fr lc rt nm args (fun s below => MQ below (Qg Z (some (.ref (zb Z + v0))) h1) args s (hN h1 - hN h0) (hL h1 - hL h0) (zA Z)) h0 h1 v0 pc lo ([.ref (zb Z + v)]) h (some (v, h)) := by
  intro ho
  cases ho
  refine ⟨Mono.rf _, fun C a1 H locs ls hP hS hl => ?_⟩
  have hlk := C.2.2.2.2.2.1
  exact W.aret C.1 C.2.1 (C.2.2.2.2.2.2.2.2.1.trans hr) hrt (Or.inr ⟨_, rfl⟩) (ret_post C hP hS) hS.2.2 hd hlk
theorem S_sret {v0 : Nat} {rt9 : FieldType} (hr : rt = some rt9) (hrt : (∃ n, rt9 = .object n) ∨ ∃ t, rt9 = .array t) (hd : decode cc pc = .ok (.areturn, 1)) {v : Nat} : Sim Z l cc own nL fr lc rt nm args (fun s below => MQ below (Qg Z (some (.ref (zK Z v0))) h1) args s (hN h1 - hN h0) (hL h1 - hL h0) (zA Z)) h0 h1 v0 pc lo ([.ref (zK Z v)]) h (some (v, h)) := by
  intro ho
  cases ho
  refine ⟨Mono.rf _, fun C a1 H locs ls hP hS hl => ?_⟩
  have hlk := C.2.2.2.2.2.1
  exact W.aret C.1 C.2.1 (C.2.2.2.2.2.2.2.2.1.trans hr) hrt (Or.inr ⟨_, rfl⟩) (ret_post C hP hS) hS.2.2 hd hlk
theorem S_zret {v0 : Int32} (hr : rt = some .boolean) (hd : decode cc pc = .ok (.ireturn, 1)) {v : Int32} : Sim Z l cc own nL fr lc rt nm args (fun s below => MQ below (Qg Z (some (.int v0)) h1) args s (hN h1 - hN h0) (hL h1 - hL h0) (zA Z)) h0 h1 v0 pc lo [.int v] h (rZ v h) := by
  intro ho
  unfold rZ at ho
  by_cases g : v = 0 ∨ v = 1
  · rw [if_pos g] at ho
    have hz : narrow .boolean (.int v) = .int v := by
      rcases g with rfl | rfl <;> decide
    cases ho
    refine ⟨Mono.rf _, fun C a1 H locs ls hP hS hl => ?_⟩
    have hlk := C.2.2.2.2.2.1
    exact W.zret C.1 C.2.1 (C.2.2.2.2.2.2.2.2.1.trans hr) hz (ret_post C hP hS) hS.2.2 hd hlk
  · rw [if_neg g] at ho
    cases ho
end CALLS
/-- a method's contract out of its Sim from its entry -/
theorem MetP_of {Z : ZZ} {l : Launch} {y : MethodName} {cc : ByteArray} {nL : Nat} {rt : Option FieldType} {fr lc : Nat} {av : List Value} {h h1 : HP} {ρ : Type} {rv : Option Value} {v0 : ρ} {o : Option (ρ × HP)} (ho : o = some (v0, h1)) (hy : plainFor y = true) (hlen : (lg_sl av).length ≤ nL) {lo : List (Nat × Value)} (hlo : lv_args 0 av = lo)
    (body : Sim Z l cc y.cls nL fr lc rt y.name av.toArray (fun s below => MQ below (Qg Z rv h1) av.toArray s (hN h1 - hN h) (hL h1 - hL h) (zA Z)) h h1 v0 0 lo [] h o) : MetP Z l y cc nL rt fr lc av h rv h1 := by
  obtain ⟨hmono, w1⟩ := body ho
  refine ⟨hmono, ?_⟩
  refine MetFree.of_bodySF (code := cc) (maxLocals := nL) (ret := rt) hy ?_ ?_
  · intro args s m h hn
    obtain ⟨meth, c, h1, h2, h3, h4, h5, h6, -, -⟩ := Cond.code_spec hn (atoms_spec (ws := [Cond.code y cc nL rt]) h _ List.mem_cons_self)
    exact ⟨meth, c, h1, h2, h3, h4, h5, h6⟩
  · intro p e s m args below meth c s₁ B hml hP _
    have hh0 : s₁.heap = s.heap := by rw [B.state]; rfl
    obtain ⟨rfl, hEF, hRl⟩ := hP
    have hown : s.vm.findClass y.cls = some m.cls := findClass_of_methodNamed B.named
    have C : Cx p { frames := fr, cells := hN h1 - hN h, slots := hL h1 - hL h, locals := lc } s m meth c Z cc y.cls nL fr lc rt y.name h h1 := ⟨B.exec, B.bytes, hml, hown, hEF, B.notSynchronized, ⟨rfl, rfl, Nat.le_refl _, Nat.le_refl _⟩, hRl.2, B.returns, (name_of_methodNamed B.named B.method).1⟩
    have hl := lv_entry av hlen
    rw [hlo] at hl
    have K := w1 (e := e) (below := below) C (Mono.rf h) s.heap [] _ hRl va_S.rf hl
    rw [Nat.sub_self, Nat.sub_self, ← lg_entry_eq m av nL] at K
    obtain ⟨t, a1, o, b1, b2, b3⟩ := K s₁ hh0 (Stand.of_body B)
    exact ⟨t, o, a1, b1, b2, ⟨b3.1, b3.2⟩⟩
end
section
theorem zz_end : True := trivial
end

section
-- ===== PART A: goes FIRST, ahead of the names: the tables' words, and 'selects' of the private methods out of them =====
/-- a private method of a class that the tables say can be made, by its rows of tables_1 -/
def lw_okq (q : MethodName × Nat) : Prop := (q.1.cls ≠ "java/lang/invoke/MethodHandle" ∧ q.1.cls ≠ "java/lang/invoke/VarHandle") ∧ Cond.instantiable q.1.cls q.2 ∈ tables_1 ∧ Cond.privateMethod q.1 ∈ tables_1 ∧ Cond.instanceMethod q.1 ∈ tables_1
theorem lw_p0 : lw_okq (⟨"QuakeLink$Station", "firstThatWaits", "()LQuakeLink$Channel;"⟩, 5) := ⟨⟨by decide +kernel, by decide +kernel⟩, List.mem_of_getElem? (i := 31) (by decide +kernel), List.mem_of_getElem? (i := 181) (by decide +kernel), List.mem_of_getElem? (i := 182) (by decide +kernel)⟩
theorem lw_p1 : lw_okq (⟨"QuakeLink$Channel", "firstThatWaits", "()I"⟩, 7) := ⟨⟨by decide +kernel, by decide +kernel⟩, List.mem_of_getElem? (i := 38) (by decide +kernel), List.mem_of_getElem? (i := 189) (by decide +kernel), List.mem_of_getElem? (i := 190) (by decide +kernel)⟩
theorem lw_p2 : lw_okq (⟨"QuakeLink$Channel", "firstOfRing", "()I"⟩, 7) := ⟨⟨by decide +kernel, by decide +kernel⟩, List.mem_of_getElem? (i := 38) (by decide +kernel), List.mem_of_getElem? (i := 193) (by decide +kernel), List.mem_of_getElem? (i := 194) (by decide +kernel)⟩
theorem lw_p3 : lw_okq (⟨"QuakeLink$Channel", "packet", "(I)LQuakeLink$Packet;"⟩, 7) := ⟨⟨by decide +kernel, by decide +kernel⟩, List.mem_of_getElem? (i := 38) (by decide +kernel), List.mem_of_getElem? (i := 211) (by decide +kernel), List.mem_of_getElem? (i := 212) (by decide +kernel)⟩
theorem lw_p4 : lw_okq (⟨"QuakeLink$Station", "leastAsked", "()LQuakeLink$Channel;"⟩, 5) := ⟨⟨by decide +kernel, by decide +kernel⟩, List.mem_of_getElem? (i := 31) (by decide +kernel), List.mem_of_getElem? (i := 283) (by decide +kernel), List.mem_of_getElem? (i := 284) (by decide +kernel)⟩
theorem lw_p5 : lw_okq (⟨"QuakeLink$Channel", "send", "(LQuakeLink$Packet;LQuakeLink$Air;)V"⟩, 7) := ⟨⟨by decide +kernel, by decide +kernel⟩, List.mem_of_getElem? (i := 38) (by decide +kernel), List.mem_of_getElem? (i := 304) (by decide +kernel), List.mem_of_getElem? (i := 305) (by decide +kernel)⟩
theorem lw_p6 : lw_okq (⟨"QuakeLink$Message", "check", "()I"⟩, 2) := ⟨⟨by decide +kernel, by decide +kernel⟩, List.mem_of_getElem? (i := 223) (by decide +kernel), List.mem_of_getElem? (i := 333) (by decide +kernel), List.mem_of_getElem? (i := 334) (by decide +kernel)⟩
theorem lw_p7 : lw_okq (⟨"QuakeLink$Channel", "sendEmpty", "(LQuakeLink$Air;)V"⟩, 7) := ⟨⟨by decide +kernel, by decide +kernel⟩, List.mem_of_getElem? (i := 38) (by decide +kernel), List.mem_of_getElem? (i := 345) (by decide +kernel), List.mem_of_getElem? (i := 346) (by decide +kernel)⟩
theorem lw_p8 : lw_okq (⟨"QuakeLink$Channel", "packetWith", "(I)LQuakeLink$Packet;"⟩, 7) := ⟨⟨by decide +kernel, by decide +kernel⟩, List.mem_of_getElem? (i := 38) (by decide +kernel), List.mem_of_getElem? (i := 357) (by decide +kernel), List.mem_of_getElem? (i := 358) (by decide +kernel)⟩
theorem lw_p9 : lw_okq (⟨"QuakeLink", "channelOf", "(I)LQuakeLink$Channel;"⟩, 3) := ⟨⟨by decide +kernel, by decide +kernel⟩, List.mem_of_getElem? (i := 23) (by decide +kernel), List.mem_of_getElem? (i := 397) (by decide +kernel), List.mem_of_getElem? (i := 398) (by decide +kernel)⟩
theorem lw_p10 : lw_okq (⟨"java/lang/Throwable", "fillInStackTrace", "(I)Ljava/lang/Throwable;"⟩, 6) := ⟨⟨by decide +kernel, by decide +kernel⟩, List.mem_of_getElem? (i := 443) (by decide +kernel), List.mem_of_getElem? (i := 441) (by decide +kernel), List.mem_of_getElem? (i := 442) (by decide +kernel)⟩
theorem lw_p11 : lw_okq (⟨"QuakeLink$Packet", "codeWith", "(I)I"⟩, 10) := ⟨⟨by decide +kernel, by decide +kernel⟩, List.mem_of_getElem? (i := 217) (by decide +kernel), List.mem_of_getElem? (i := 510) (by decide +kernel), List.mem_of_getElem? (i := 511) (by decide +kernel)⟩
theorem lw_p12 : lw_okq (⟨"QuakeLink$Packet", "writeBlock", "()V"⟩, 10) := ⟨⟨by decide +kernel, by decide +kernel⟩, List.mem_of_getElem? (i := 217) (by decide +kernel), List.mem_of_getElem? (i := 532) (by decide +kernel), List.mem_of_getElem? (i := 533) (by decide +kernel)⟩
theorem lw_p13 : lw_okq (⟨"QuakeLink$Packet", "write", "(II)V"⟩, 10) := ⟨⟨by decide +kernel, by decide +kernel⟩, List.mem_of_getElem? (i := 217) (by decide +kernel), List.mem_of_getElem? (i := 536) (by decide +kernel), List.mem_of_getElem? (i := 537) (by decide +kernel)⟩
theorem lw_p14 : lw_okq (⟨"QuakeLink", "messageOf", "(I)LQuakeLink$Message;"⟩, 3) := ⟨⟨by decide +kernel, by decide +kernel⟩, List.mem_of_getElem? (i := 23) (by decide +kernel), List.mem_of_getElem? (i := 602) (by decide +kernel), List.mem_of_getElem? (i := 603) (by decide +kernel)⟩
theorem lw_p15 : lw_okq (⟨"QuakeLink$Decoder", "readWidth", "()Z"⟩, 9) := ⟨⟨by decide +kernel, by decide +kernel⟩, List.mem_of_getElem? (i := 640) (by decide +kernel), List.mem_of_getElem? (i := 681) (by decide +kernel), List.mem_of_getElem? (i := 682) (by decide +kernel)⟩
def lw_privs_1 : List (MethodName × Nat) := [(⟨"QuakeLink$Station", "firstThatWaits", "()LQuakeLink$Channel;"⟩, 5), (⟨"QuakeLink$Channel", "firstThatWaits", "()I"⟩, 7), (⟨"QuakeLink$Channel", "firstOfRing", "()I"⟩, 7), (⟨"QuakeLink$Channel", "packet", "(I)LQuakeLink$Packet;"⟩, 7), (⟨"QuakeLink$Station", "leastAsked", "()LQuakeLink$Channel;"⟩, 5), (⟨"QuakeLink$Channel", "send", "(LQuakeLink$Packet;LQuakeLink$Air;)V"⟩, 7), (⟨"QuakeLink$Message", "check", "()I"⟩, 2), (⟨"QuakeLink$Channel", "sendEmpty", "(LQuakeLink$Air;)V"⟩, 7), (⟨"QuakeLink$Channel", "packetWith", "(I)LQuakeLink$Packet;"⟩, 7), (⟨"QuakeLink", "channelOf", "(I)LQuakeLink$Channel;"⟩, 3), (⟨"java/lang/Throwable", "fillInStackTrace", "(I)Ljava/lang/Throwable;"⟩, 6), (⟨"QuakeLink$Packet", "codeWith", "(I)I"⟩, 10), (⟨"QuakeLink$Packet", "writeBlock", "()V"⟩, 10), (⟨"QuakeLink$Packet", "write", "(II)V"⟩, 10), (⟨"QuakeLink", "messageOf", "(I)LQuakeLink$Message;"⟩, 3), (⟨"QuakeLink$Decoder", "readWidth", "()Z"⟩, 9)]
theorem lw_r1 : ∀ q ∈ lw_privs_1, lw_okq q := List.forall_mem_cons.mpr ⟨lw_p0, List.forall_mem_cons.mpr ⟨lw_p1, List.forall_mem_cons.mpr ⟨lw_p2, List.forall_mem_cons.mpr ⟨lw_p3, List.forall_mem_cons.mpr ⟨lw_p4, List.forall_mem_cons.mpr ⟨lw_p5, List.forall_mem_cons.mpr ⟨lw_p6, List.forall_mem_cons.mpr ⟨lw_p7, List.forall_mem_cons.mpr ⟨lw_p8, List.forall_mem_cons.mpr ⟨lw_p9, List.forall_mem_cons.mpr ⟨lw_p10, List.forall_mem_cons.mpr ⟨lw_p11, List.forall_mem_cons.mpr ⟨lw_p12, List.forall_mem_cons.mpr ⟨lw_p13, List.forall_mem_cons.mpr ⟨lw_p14, List.forall_mem_cons.mpr ⟨lw_p15, fun _ h => absurd h List.not_mem_nil⟩⟩⟩⟩⟩⟩⟩⟩⟩⟩⟩⟩⟩⟩⟩⟩
theorem lw_p16 : lw_okq (⟨"QuakeLink$Decoder", "isLeft", "(I)Z"⟩, 9) := ⟨⟨by decide +kernel, by decide +kernel⟩, List.mem_of_getElem? (i := 640) (by decide +kernel), List.mem_of_getElem? (i := 685) (by decide +kernel), List.mem_of_getElem? (i := 686) (by decide +kernel)⟩
theorem lw_p17 : lw_okq (⟨"QuakeLink$Decoder", "read", "(I)I"⟩, 9) := ⟨⟨by decide +kernel, by decide +kernel⟩, List.mem_of_getElem? (i := 640) (by decide +kernel), List.mem_of_getElem? (i := 689) (by decide +kernel), List.mem_of_getElem? (i := 690) (by decide +kernel)⟩
theorem lw_p18 : lw_okq (⟨"QuakeLink$Track", "page", "(I)LQuakeLink$Page;"⟩, 3) := ⟨⟨by decide +kernel, by decide +kernel⟩, List.mem_of_getElem? (i := 128) (by decide +kernel), List.mem_of_getElem? (i := 716) (by decide +kernel), List.mem_of_getElem? (i := 717) (by decide +kernel)⟩
theorem lw_p19 : lw_okq (⟨"QuakeLink", "messageWithByte", "(II)LQuakeLink$Message;"⟩, 3) := ⟨⟨by decide +kernel, by decide +kernel⟩, List.mem_of_getElem? (i := 23) (by decide +kernel), List.mem_of_getElem? (i := 790) (by decide +kernel), List.mem_of_getElem? (i := 791) (by decide +kernel)⟩
theorem lw_p20 : lw_okq (⟨"QuakeLink", "trackOf", "(I)LQuakeLink$Track;"⟩, 3) := ⟨⟨by decide +kernel, by decide +kernel⟩, List.mem_of_getElem? (i := 23) (by decide +kernel), List.mem_of_getElem? (i := 817) (by decide +kernel), List.mem_of_getElem? (i := 818) (by decide +kernel)⟩
theorem lw_p21 : lw_okq (⟨"QuakeLinkModel", "take", "(II)V"⟩, 34) := ⟨⟨by decide +kernel, by decide +kernel⟩, List.mem_of_getElem? (i := 889) (by decide +kernel), List.mem_of_getElem? (i := 1012) (by decide +kernel), List.mem_of_getElem? (i := 1013) (by decide +kernel)⟩
theorem lw_p22 : lw_okq (⟨"QuakeLinkModel", "least", "(IIII)I"⟩, 34) := ⟨⟨by decide +kernel, by decide +kernel⟩, List.mem_of_getElem? (i := 889) (by decide +kernel), List.mem_of_getElem? (i := 1016) (by decide +kernel), List.mem_of_getElem? (i := 1017) (by decide +kernel)⟩
theorem lw_p23 : lw_okq (⟨"QuakeLinkModel", "difference", "(III)I"⟩, 34) := ⟨⟨by decide +kernel, by decide +kernel⟩, List.mem_of_getElem? (i := 889) (by decide +kernel), List.mem_of_getElem? (i := 1020) (by decide +kernel), List.mem_of_getElem? (i := 1021) (by decide +kernel)⟩
theorem lw_p24 : lw_okq (⟨"QuakeLinkModel", "sizeOf", "(IIII)I"⟩, 34) := ⟨⟨by decide +kernel, by decide +kernel⟩, List.mem_of_getElem? (i := 889) (by decide +kernel), List.mem_of_getElem? (i := 1030) (by decide +kernel), List.mem_of_getElem? (i := 1031) (by decide +kernel)⟩
theorem lw_p25 : lw_okq (⟨"QuakeLinkModel", "close", "(I)V"⟩, 34) := ⟨⟨by decide +kernel, by decide +kernel⟩, List.mem_of_getElem? (i := 889) (by decide +kernel), List.mem_of_getElem? (i := 1034) (by decide +kernel), List.mem_of_getElem? (i := 1035) (by decide +kernel)⟩
theorem lw_p26 : lw_okq (⟨"QuakeLinkModel", "ringFirst", "(I)I"⟩, 34) := ⟨⟨by decide +kernel, by decide +kernel⟩, List.mem_of_getElem? (i := 889) (by decide +kernel), List.mem_of_getElem? (i := 1038) (by decide +kernel), List.mem_of_getElem? (i := 1039) (by decide +kernel)⟩
theorem lw_p27 : lw_okq (⟨"QuakeLinkModel", "leastAsked", "(I)I"⟩, 34) := ⟨⟨by decide +kernel, by decide +kernel⟩, List.mem_of_getElem? (i := 889) (by decide +kernel), List.mem_of_getElem? (i := 1058) (by decide +kernel), List.mem_of_getElem? (i := 1059) (by decide +kernel)⟩
theorem lw_p28 : lw_okq (⟨"QuakeLinkModel", "send", "(I)I"⟩, 34) := ⟨⟨by decide +kernel, by decide +kernel⟩, List.mem_of_getElem? (i := 889) (by decide +kernel), List.mem_of_getElem? (i := 1062) (by decide +kernel), List.mem_of_getElem? (i := 1063) (by decide +kernel)⟩
theorem lw_p29 : lw_okq (⟨"QuakeLinkModel", "begin", "()V"⟩, 34) := ⟨⟨by decide +kernel, by decide +kernel⟩, List.mem_of_getElem? (i := 889) (by decide +kernel), List.mem_of_getElem? (i := 1066) (by decide +kernel), List.mem_of_getElem? (i := 1067) (by decide +kernel)⟩
theorem lw_p30 : lw_okq (⟨"QuakeLinkModel", "put", "(II)V"⟩, 34) := ⟨⟨by decide +kernel, by decide +kernel⟩, List.mem_of_getElem? (i := 889) (by decide +kernel), List.mem_of_getElem? (i := 1070) (by decide +kernel), List.mem_of_getElem? (i := 1071) (by decide +kernel)⟩
theorem lw_p31 : lw_okq (⟨"QuakeLinkModel", "oldest", "(I)I"⟩, 34) := ⟨⟨by decide +kernel, by decide +kernel⟩, List.mem_of_getElem? (i := 889) (by decide +kernel), List.mem_of_getElem? (i := 1074) (by decide +kernel), List.mem_of_getElem? (i := 1075) (by decide +kernel)⟩
def lw_privs_2 : List (MethodName × Nat) := [(⟨"QuakeLink$Decoder", "isLeft", "(I)Z"⟩, 9), (⟨"QuakeLink$Decoder", "read", "(I)I"⟩, 9), (⟨"QuakeLink$Track", "page", "(I)LQuakeLink$Page;"⟩, 3), (⟨"QuakeLink", "messageWithByte", "(II)LQuakeLink$Message;"⟩, 3), (⟨"QuakeLink", "trackOf", "(I)LQuakeLink$Track;"⟩, 3), (⟨"QuakeLinkModel", "take", "(II)V"⟩, 34), (⟨"QuakeLinkModel", "least", "(IIII)I"⟩, 34), (⟨"QuakeLinkModel", "difference", "(III)I"⟩, 34), (⟨"QuakeLinkModel", "sizeOf", "(IIII)I"⟩, 34), (⟨"QuakeLinkModel", "close", "(I)V"⟩, 34), (⟨"QuakeLinkModel", "ringFirst", "(I)I"⟩, 34), (⟨"QuakeLinkModel", "leastAsked", "(I)I"⟩, 34), (⟨"QuakeLinkModel", "send", "(I)I"⟩, 34), (⟨"QuakeLinkModel", "begin", "()V"⟩, 34), (⟨"QuakeLinkModel", "put", "(II)V"⟩, 34), (⟨"QuakeLinkModel", "oldest", "(I)I"⟩, 34)]
theorem lw_r2 : ∀ q ∈ lw_privs_2, lw_okq q := List.forall_mem_cons.mpr ⟨lw_p16, List.forall_mem_cons.mpr ⟨lw_p17, List.forall_mem_cons.mpr ⟨lw_p18, List.forall_mem_cons.mpr ⟨lw_p19, List.forall_mem_cons.mpr ⟨lw_p20, List.forall_mem_cons.mpr ⟨lw_p21, List.forall_mem_cons.mpr ⟨lw_p22, List.forall_mem_cons.mpr ⟨lw_p23, List.forall_mem_cons.mpr ⟨lw_p24, List.forall_mem_cons.mpr ⟨lw_p25, List.forall_mem_cons.mpr ⟨lw_p26, List.forall_mem_cons.mpr ⟨lw_p27, List.forall_mem_cons.mpr ⟨lw_p28, List.forall_mem_cons.mpr ⟨lw_p29, List.forall_mem_cons.mpr ⟨lw_p30, List.forall_mem_cons.mpr ⟨lw_p31, fun _ h => absurd h List.not_mem_nil⟩⟩⟩⟩⟩⟩⟩⟩⟩⟩⟩⟩⟩⟩⟩⟩
theorem lw_p32 : lw_okq (⟨"QuakeLinkModel", "end", "()I"⟩, 34) := ⟨⟨by decide +kernel, by decide +kernel⟩, List.mem_of_getElem? (i := 889) (by decide +kernel), List.mem_of_getElem? (i := 1078) (by decide +kernel), List.mem_of_getElem? (i := 1079) (by decide +kernel)⟩
theorem lw_p33 : lw_okq (⟨"QuakeLinkModel", "check", "(II)I"⟩, 34) := ⟨⟨by decide +kernel, by decide +kernel⟩, List.mem_of_getElem? (i := 889) (by decide +kernel), List.mem_of_getElem? (i := 1082) (by decide +kernel), List.mem_of_getElem? (i := 1083) (by decide +kernel)⟩
theorem lw_p34 : lw_okq (⟨"QuakeLinkModel", "unask", "(III)V"⟩, 34) := ⟨⟨by decide +kernel, by decide +kernel⟩, List.mem_of_getElem? (i := 889) (by decide +kernel), List.mem_of_getElem? (i := 1087) (by decide +kernel), List.mem_of_getElem? (i := 1088) (by decide +kernel)⟩
theorem lw_p35 : lw_okq (⟨"QuakeLinkModel", "sendEmpty", "(I)I"⟩, 34) := ⟨⟨by decide +kernel, by decide +kernel⟩, List.mem_of_getElem? (i := 889) (by decide +kernel), List.mem_of_getElem? (i := 1091) (by decide +kernel), List.mem_of_getElem? (i := 1092) (by decide +kernel)⟩
theorem lw_p36 : lw_okq (⟨"QuakeLinkModel", "isSlot", "(I)Z"⟩, 34) := ⟨⟨by decide +kernel, by decide +kernel⟩, List.mem_of_getElem? (i := 889) (by decide +kernel), List.mem_of_getElem? (i := 1099) (by decide +kernel), List.mem_of_getElem? (i := 1100) (by decide +kernel)⟩
theorem lw_p37 : lw_okq (⟨"QuakeLinkModel", "isByte", "(II)Z"⟩, 34) := ⟨⟨by decide +kernel, by decide +kernel⟩, List.mem_of_getElem? (i := 889) (by decide +kernel), List.mem_of_getElem? (i := 1111) (by decide +kernel), List.mem_of_getElem? (i := 1112) (by decide +kernel)⟩
theorem lw_p38 : lw_okq (⟨"QuakeLinkModel", "isChecked", "(I)Z"⟩, 34) := ⟨⟨by decide +kernel, by decide +kernel⟩, List.mem_of_getElem? (i := 889) (by decide +kernel), List.mem_of_getElem? (i := 1127) (by decide +kernel), List.mem_of_getElem? (i := 1128) (by decide +kernel)⟩
theorem lw_p39 : lw_okq (⟨"QuakeLinkModel", "get", "(I)J"⟩, 34) := ⟨⟨by decide +kernel, by decide +kernel⟩, List.mem_of_getElem? (i := 889) (by decide +kernel), List.mem_of_getElem? (i := 1131) (by decide +kernel), List.mem_of_getElem? (i := 1132) (by decide +kernel)⟩
theorem lw_p40 : lw_okq (⟨"QuakeLinkModel", "isMessage", "()Z"⟩, 34) := ⟨⟨by decide +kernel, by decide +kernel⟩, List.mem_of_getElem? (i := 889) (by decide +kernel), List.mem_of_getElem? (i := 1140) (by decide +kernel), List.mem_of_getElem? (i := 1141) (by decide +kernel)⟩
theorem lw_p41 : lw_okq (⟨"QuakeLinkModel", "isRead", "(II)Z"⟩, 34) := ⟨⟨by decide +kernel, by decide +kernel⟩, List.mem_of_getElem? (i := 889) (by decide +kernel), List.mem_of_getElem? (i := 1145) (by decide +kernel), List.mem_of_getElem? (i := 1146) (by decide +kernel)⟩
theorem lw_p42 : lw_okq (⟨"QuakeLinkModel", "isHeard", "(II)Z"⟩, 34) := ⟨⟨by decide +kernel, by decide +kernel⟩, List.mem_of_getElem? (i := 889) (by decide +kernel), List.mem_of_getElem? (i := 1153) (by decide +kernel), List.mem_of_getElem? (i := 1154) (by decide +kernel)⟩
theorem lw_p43 : lw_okq (⟨"QuakeLinkModel", "isGap", "(II)Z"⟩, 34) := ⟨⟨by decide +kernel, by decide +kernel⟩, List.mem_of_getElem? (i := 889) (by decide +kernel), List.mem_of_getElem? (i := 1169) (by decide +kernel), List.mem_of_getElem? (i := 1170) (by decide +kernel)⟩
def lw_privs_3 : List (MethodName × Nat) := [(⟨"QuakeLinkModel", "end", "()I"⟩, 34), (⟨"QuakeLinkModel", "check", "(II)I"⟩, 34), (⟨"QuakeLinkModel", "unask", "(III)V"⟩, 34), (⟨"QuakeLinkModel", "sendEmpty", "(I)I"⟩, 34), (⟨"QuakeLinkModel", "isSlot", "(I)Z"⟩, 34), (⟨"QuakeLinkModel", "isByte", "(II)Z"⟩, 34), (⟨"QuakeLinkModel", "isChecked", "(I)Z"⟩, 34), (⟨"QuakeLinkModel", "get", "(I)J"⟩, 34), (⟨"QuakeLinkModel", "isMessage", "()Z"⟩, 34), (⟨"QuakeLinkModel", "isRead", "(II)Z"⟩, 34), (⟨"QuakeLinkModel", "isHeard", "(II)Z"⟩, 34), (⟨"QuakeLinkModel", "isGap", "(II)Z"⟩, 34)]
theorem lw_r3 : ∀ q ∈ lw_privs_3, lw_okq q := List.forall_mem_cons.mpr ⟨lw_p32, List.forall_mem_cons.mpr ⟨lw_p33, List.forall_mem_cons.mpr ⟨lw_p34, List.forall_mem_cons.mpr ⟨lw_p35, List.forall_mem_cons.mpr ⟨lw_p36, List.forall_mem_cons.mpr ⟨lw_p37, List.forall_mem_cons.mpr ⟨lw_p38, List.forall_mem_cons.mpr ⟨lw_p39, List.forall_mem_cons.mpr ⟨lw_p40, List.forall_mem_cons.mpr ⟨lw_p41, List.forall_mem_cons.mpr ⟨lw_p42, List.forall_mem_cons.mpr ⟨lw_p43, fun _ h => absurd h List.not_mem_nil⟩⟩⟩⟩⟩⟩⟩⟩⟩⟩⟩⟩
def lw_privs : List (MethodName × Nat) := lw_privs_1 ++ (lw_privs_2 ++ (lw_privs_3))
def lw_tbl : List Cond := k2_sels lw_privs ++ tables_1
theorem lw_privs_ok : ∀ q ∈ lw_privs, lw_okq q := by
  show ∀ q ∈ lw_privs_1 ++ (lw_privs_2 ++ (lw_privs_3)), lw_okq q
  exact List.forall_mem_append.mpr ⟨lw_r1, List.forall_mem_append.mpr ⟨lw_r2, lw_r3⟩⟩
end
section
/-! the classes of the system, their fields in order; by gen_names.py -/
def qT_Q : u_T := fun k => match k with
  | 0 => ("QuakeLink", "station", "LQuakeLink$Station;", true)
  | 1 => ("QuakeLink", "slots", "LQuakeLink$Air;", true)
  | _ => ("QuakeLink", "centre", "LQuakeLink$Centre;", true)
def qy_Q : Nat → FieldType := fun k => match k with
  | 0 => .object "QuakeLink$Station"
  | 1 => .object "QuakeLink$Air"
  | _ => .object "QuakeLink$Centre"
def qT_St : u_T := fun k => match k with
  | 0 => ("QuakeLink$Station", "channels", "[LQuakeLink$Channel;", true)
  | 1 => ("QuakeLink$Station", "percent", "I", false)
  | 2 => ("QuakeLink$Station", "bad", "I", false)
  | 3 => ("QuakeLink$Station", "closings", "I", false)
  | _ => ("QuakeLink$Station", "lastWaited", "Z", false)
def qy_St : Nat → FieldType := fun k => match k with
  | 0 => .array (.object "QuakeLink$Channel")
  | 1 => .int
  | 2 => .int
  | 3 => .int
  | _ => .boolean
def qT_Ch : u_T := fun k => match k with
  | 0 => ("QuakeLink$Channel", "asked", "LQuakeLink$NumberSet;", true)
  | 1 => ("QuakeLink$Channel", "taken", "I", false)
  | 2 => ("QuakeLink$Channel", "index", "I", true)
  | 3 => ("QuakeLink$Channel", "packets", "[LQuakeLink$Packet;", true)
  | 4 => ("QuakeLink$Channel", "closed", "I", false)
  | 5 => ("QuakeLink$Channel", "inClosed", "I", false)
  | _ => ("QuakeLink$Channel", "unsent", "I", false)
def qy_Ch : Nat → FieldType := fun k => match k with
  | 0 => .object "QuakeLink$NumberSet"
  | 1 => .int
  | 2 => .int
  | 3 => .array (.object "QuakeLink$Packet")
  | 4 => .int
  | 5 => .int
  | _ => .int
def qT_Ns : u_T := fun k => match k with
  | 0 => ("QuakeLink$NumberSet", "words", "[I", true)
  | _ => ("QuakeLink$NumberSet", "size", "I", false)
def qy_Ns : Nat → FieldType := fun k => match k with
  | 0 => .array .int
  | _ => .int
def qT_Ai : u_T := fun k => match k with
  | 0 => ("QuakeLink$Air", "places", "[LQuakeLink$Message;", true)
  | _ => ("QuakeLink$Air", "made", "I", false)
def qy_Ai : Nat → FieldType := fun k => match k with
  | 0 => .array (.object "QuakeLink$Message")
  | _ => .int
def qT_Ce : u_T := fun k => match k with
  | 0 => ("QuakeLink$Centre", "tracks", "[LQuakeLink$Track;", true)
  | 1 => ("QuakeLink$Centre", "rejected", "I", false)
  | _ => ("QuakeLink$Centre", "clashed", "I", false)
def qy_Ce : Nat → FieldType := fun k => match k with
  | 0 => .array (.object "QuakeLink$Track")
  | 1 => .int
  | _ => .int
def qT_Tr : u_T := fun k => match k with
  | 0 => ("QuakeLink$Track", "had", "LQuakeLink$NumberSet;", true)
  | 1 => ("QuakeLink$Track", "oldest", "I", false)
  | _ => ("QuakeLink$Track", "pages", "[LQuakeLink$Page;", true)
def qy_Tr : Nat → FieldType := fun k => match k with
  | 0 => .object "QuakeLink$NumberSet"
  | 1 => .int
  | _ => .array (.object "QuakeLink$Page")
def qT_Pa : u_T := fun k => match k with
  | 0 => ("QuakeLink$Packet", "message", "LQuakeLink$Message;", true)
  | 1 => ("QuakeLink$Packet", "first", "I", false)
  | 2 => ("QuakeLink$Packet", "held", "I", false)
  | 3 => ("QuakeLink$Packet", "order", "I", false)
  | 4 => ("QuakeLink$Packet", "block", "[I", true)
  | 5 => ("QuakeLink$Packet", "inBlock", "I", false)
  | 6 => ("QuakeLink$Packet", "code", "I", false)
  | 7 => ("QuakeLink$Packet", "bits", "I", false)
  | 8 => ("QuakeLink$Packet", "last", "I", false)
  | _ => ("QuakeLink$Packet", "step", "I", false)
def qy_Pa : Nat → FieldType := fun k => match k with
  | 0 => .object "QuakeLink$Message"
  | 1 => .int
  | 2 => .int
  | 3 => .int
  | 4 => .array .int
  | 5 => .int
  | 6 => .int
  | 7 => .int
  | 8 => .int
  | _ => .int
def qT_Me : u_T := fun k => match k with
  | 0 => ("QuakeLink$Message", "row", "[B", true)
  | _ => ("QuakeLink$Message", "size", "I", false)
def qy_Me : Nat → FieldType := fun k => match k with
  | 0 => .array .byte
  | _ => .int
def qT_De : u_T := fun k => match k with
  | 0 => ("QuakeLink$Decoder", "value", "I", false)
  | 1 => ("QuakeLink$Decoder", "message", "LQuakeLink$Message;", true)
  | 2 => ("QuakeLink$Decoder", "end", "I", true)
  | 3 => ("QuakeLink$Decoder", "place", "I", false)
  | 4 => ("QuakeLink$Decoder", "taken", "J", false)
  | 5 => ("QuakeLink$Decoder", "takenBits", "I", false)
  | 6 => ("QuakeLink$Decoder", "inBlock", "I", false)
  | 7 => ("QuakeLink$Decoder", "width", "I", false)
  | _ => ("QuakeLink$Decoder", "step", "I", false)
def qy_De : Nat → FieldType := fun k => match k with
  | 0 => .int
  | 1 => .object "QuakeLink$Message"
  | 2 => .int
  | 3 => .int
  | 4 => .long
  | 5 => .int
  | 6 => .int
  | 7 => .int
  | _ => .int
def qT_Pg : u_T := fun k => match k with
  | 0 => ("QuakeLink$Page", "values", "[I", true)
  | _ => ("QuakeLink$Page", "qualities", "[B", true)
def qy_Pg : Nat → FieldType := fun k => match k with
  | 0 => .array .int
  | _ => .array .byte
def qT_Mo : u_T := fun k => match k with
  | 0 => ("QuakeLinkModel", "code", "I", false)
  | 1 => ("QuakeLinkModel", "samples", "[I", true)
  | 2 => ("QuakeLinkModel", "taken", "[I", true)
  | 3 => ("QuakeLinkModel", "openFrom", "[I", true)
  | 4 => ("QuakeLinkModel", "openBits", "[I", true)
  | 5 => ("QuakeLinkModel", "quality", "I", false)
  | 6 => ("QuakeLinkModel", "channels", "[I", true)
  | 7 => ("QuakeLinkModel", "firsts", "[I", true)
  | 8 => ("QuakeLinkModel", "manys", "[I", true)
  | 9 => ("QuakeLinkModel", "qualities", "[I", true)
  | 10 => ("QuakeLinkModel", "waits", "[Z", true)
  | 11 => ("QuakeLinkModel", "packets", "I", false)
  | 12 => ("QuakeLinkModel", "asked", "[Z", true)
  | 13 => ("QuakeLinkModel", "sentForWaiting", "Z", false)
  | 14 => ("QuakeLinkModel", "air", "[B", true)
  | 15 => ("QuakeLinkModel", "lengths", "[I", true)
  | 16 => ("QuakeLinkModel", "thrown", "[Z", true)
  | 17 => ("QuakeLinkModel", "slots", "I", false)
  | 18 => ("QuakeLinkModel", "values", "[I", true)
  | 19 => ("QuakeLinkModel", "heard", "[B", true)
  | 20 => ("QuakeLinkModel", "oldestHeard", "[I", true)
  | 21 => ("QuakeLinkModel", "rejected", "I", false)
  | 22 => ("QuakeLinkModel", "clashed", "I", false)
  | 23 => ("QuakeLinkModel", "bad", "I", false)
  | 24 => ("QuakeLinkModel", "row", "I", false)
  | 25 => ("QuakeLinkModel", "bit", "I", false)
  | 26 => ("QuakeLinkModel", "channel", "I", false)
  | 27 => ("QuakeLinkModel", "many", "I", false)
  | 28 => ("QuakeLinkModel", "percent", "I", false)
  | 29 => ("QuakeLinkModel", "number", "J", false)
  | 30 => ("QuakeLinkModel", "old", "J", false)
  | 31 => ("QuakeLinkModel", "read", "[I", true)
  | 32 => ("QuakeLinkModel", "gapFrom", "I", false)
  | _ => ("QuakeLinkModel", "gapTo", "I", false)
def qy_Mo : Nat → FieldType := fun k => match k with
  | 0 => .int
  | 1 => .array .int
  | 2 => .array .int
  | 3 => .array .int
  | 4 => .array .int
  | 5 => .int
  | 6 => .array .int
  | 7 => .array .int
  | 8 => .array .int
  | 9 => .array .int
  | 10 => .array .boolean
  | 11 => .int
  | 12 => .array .boolean
  | 13 => .boolean
  | 14 => .array .byte
  | 15 => .array .int
  | 16 => .array .boolean
  | 17 => .int
  | 18 => .array .int
  | 19 => .array .byte
  | 20 => .array .int
  | 21 => .int
  | 22 => .int
  | 23 => .int
  | 24 => .int
  | 25 => .int
  | 26 => .int
  | 27 => .int
  | 28 => .int
  | 29 => .long
  | 30 => .long
  | 31 => .array .int
  | 32 => .int
  | _ => .int
def qT_E : u_T := fun _ => ("", "", "", false)
def qy_E : Nat → FieldType := fun _ => .int
/-- all classes: number, name, fields -/
def qcl : List vw_C := [("QuakeLink", qT_Q, 3), ("QuakeLink$Station", qT_St, 5), ("QuakeLink$Channel", qT_Ch, 7), ("QuakeLink$NumberSet", qT_Ns, 2), ("QuakeLink$Air", qT_Ai, 2), ("QuakeLink$Centre", qT_Ce, 3), ("QuakeLink$Track", qT_Tr, 3), ("QuakeLink$Packet", qT_Pa, 10), ("QuakeLink$Message", qT_Me, 2), ("QuakeLink$Decoder", qT_De, 9), ("QuakeLink$Page", qT_Pg, 2), ("QuakeLinkModel", qT_Mo, 34), ("java/lang/IndexOutOfBoundsException", qT_E, 0), ("java/lang/IllegalStateException", qT_E, 0), ("java/lang/IllegalArgumentException", qT_E, 0)]
def qcy : List (Nat → FieldType) := [qy_Q, qy_St, qy_Ch, qy_Ns, qy_Ai, qy_Ce, qy_Tr, qy_Pa, qy_Me, qy_De, qy_Pg, qy_Mo, qy_E, qy_E, qy_E]
/-- where a class's field words stand in lw_tbl -/
def qix : List (List Nat) := [[209, 211, 213], [137, 139, 141, 143, 145], [114, 116, 118, 120, 122, 124, 126], [96, 98], [159, 161], [199, 201, 203], [186, 188, 190], [305, 307, 309, 311, 313, 315, 317, 319, 321, 323], [285, 287], [701, 703, 705, 707, 709, 711, 713, 715, 717], [772, 774], [974, 976, 978, 980, 982, 984, 986, 988, 990, 992, 994, 996, 998, 1000, 1002, 1004, 1006, 1008, 1010, 1012, 1014, 1016, 1018, 1020, 1022, 1024, 1026, 1028, 1030, 1032, 1034, 1036, 1038, 1040], [], [], []]
theorem qcl_ix : (List.range 15).all (fun c => match qcl[c]?, qix[c]? with | some q, some l => (List.range q.2.2).all (fun k => decide (lw_tbl[l.getD k 0]? = some (u_lay q.1 q.2.1 k))) | _, _ => false) = true := by decide +kernel
theorem qcl_nm : (List.range 15).all (fun c => match qcl[c]? with | some q => (List.range q.2.2).all (fun a => (List.range q.2.2).all (fun b => decide (a = b ∨ (q.2.1 a).2.1 ≠ (q.2.1 b).2.1))) | _ => false) = true := by decide +kernel
theorem qcl_ty : (List.range 15).all (fun c => match qcl[c]?, qcy[c]? with | some q, some y => (List.range q.2.2).all (fun k => decide (parseFieldDescriptor (q.2.1 k).2.2.1 = some (y k))) | _, _ => false) = true := by decide +kernel
/-- where each class's instantiable and initialized words stand, and how many slots its object has -/
def qni : List (Nat × Nat × Nat) := [(3, 67, 45), (5, 75, 46), (7, 82, 47), (2, 88, 48), (2, 149, 49), (3, 165, 50), (3, 172, 51), (10, 261, 59), (2, 267, 60), (9, 684, 64), (2, 763, 65), (34, 933, 52), (6, 449, 56), (6, 520, 57), (6, 606, 61)]
theorem qcl_in : (List.range 15).all (fun c => match qcl[c]?, qni[c]? with | some q, some z => decide (lw_tbl[z.2.1]? = some (Cond.instantiable q.1 z.1)) && decide (lw_tbl[z.2.2]? = some (Cond.initialized q.1)) && (decide (z.1 = q.2.2) || decide (12 ≤ c)) | _, _ => false) = true := by decide +kernel
end
section
/-! ===== virtual worlds: cells by names of my own, references by those names; qk_rv turns a name into an address ===== -/
abbrev qk_C : Type := (FieldType × vp_A) ⊕ (Nat × List Value)
abbrev qk_W : Type := Nat → Option qk_C
abbrev qk_M : Type := MethodName × ByteArray × Nat × Option FieldType × List (Nat × Nat × Nat × Nat)
abbrev qk_G : Type := va_G × (FieldType → ClassId)
def qk_rv (ρ : Nat → Nat) : Value → Value
  | .ref a => .ref (ρ a)
  | v => v
def qk_ra (ρ : Nat → Nat) (a : vp_A) : vp_A := match a with
  | (n, .inr (.inr (.inr (.inr f)))) => (n, .inr (.inr (.inr (.inr (fun j => (f j).map ρ)))))
  | x => x
def qk_re (ρ : Nat → Nat) (E : FieldType → ClassId) : qk_C → va_E
  | .inl (ty, a) => .inl (E ty, qk_ra ρ a)
  | .inr (ci, fs) => .inr (ci, fs.map (qk_rv ρ))
def qk_ok (w : qk_W) : Value → Prop
  | .ref a => w a ≠ none
  | _ => True
def qk_okC (w : qk_W) : qk_C → Prop
  | .inl (_, _, .inr (.inr (.inr (.inr f)))) => ∀ j a, f j = some a → w a ≠ none
  | .inl _ => True
  | .inr (_, fs) => ∀ v ∈ fs, qk_ok w v
def qk_set (w : qk_W) (a : Nat) (e : qk_C) : qk_W := fun b => if b = a then some e else w b
theorem qk_set_eq (w : qk_W) (a : Nat) (e : qk_C) : qk_set w a e a = some e := by simp [qk_set]
theorem qk_set_ne {w : qk_W} {a b : Nat} {e : qk_C} (h : b ≠ a) : qk_set w a e b = w b := by simp [qk_set, h]
theorem qk_set_some {w : qk_W} {a b : Nat} {e : qk_C} (h : w b ≠ none) : qk_set w a e b ≠ none := by
  unfold qk_set
  split
  · exact fun h => by cases h
  · exact h
theorem qk_ok_mono {w w' : qk_W} (h : ∀ v, w v ≠ none → w' v ≠ none) {x : Value} (hx : qk_ok w x) : qk_ok w' x := by
  cases x <;> first | exact trivial | exact h _ hx
theorem qk_okC_mono {w w' : qk_W} (h : ∀ v, w v ≠ none → w' v ≠ none) {x : qk_C} (hx : qk_okC w x) : qk_okC w' x := by
  match x, hx with
  | .inl (_, _, .inl _), _ => exact trivial
  | .inl (_, _, .inr (.inl _)), _ => exact trivial
  | .inl (_, _, .inr (.inr (.inl _))), _ => exact trivial
  | .inl (_, _, .inr (.inr (.inr (.inl _)))), _ => exact trivial
  | .inl (_, _, .inr (.inr (.inr (.inr f)))), hx => exact fun j a hj => h _ (hx j a hj)
  | .inr (_, fs), hx => exact fun v hv => qk_ok_mono h (hx v hv)
theorem qk_rv_congr {ρ ρ' : Nat → Nat} {w : qk_W} (h : ∀ v, w v ≠ none → ρ' v = ρ v) {x : Value} (hx : qk_ok w x) : qk_rv ρ' x = qk_rv ρ x := by
  cases x <;> first | rfl | exact congrArg Value.ref (h _ hx)
theorem qk_re_congr {ρ ρ' : Nat → Nat} {w : qk_W} (E : FieldType → ClassId) (h : ∀ v, w v ≠ none → ρ' v = ρ v) {x : qk_C} (hx : qk_okC w x) : qk_re ρ' E x = qk_re ρ E x := by
  match x, hx with
  | .inl (_, _, .inl _), _ => rfl
  | .inl (_, _, .inr (.inl _)), _ => rfl
  | .inl (_, _, .inr (.inr (.inl _))), _ => rfl
  | .inl (_, _, .inr (.inr (.inr (.inl _)))), _ => rfl
  | .inl (ty, n, .inr (.inr (.inr (.inr f)))), hx =>
    show Sum.inl (E ty, n, Sum.inr (Sum.inr (Sum.inr (Sum.inr fun j => (f j).map ρ')))) = Sum.inl (E ty, n, Sum.inr (Sum.inr (Sum.inr (Sum.inr fun j => (f j).map ρ))))
    have : (fun j => (f j).map ρ') = fun j => (f j).map ρ := by
      funext j
      cases hj : f j with
      | none => rfl
      | some a => exact congrArg some (h a (hx j a hj))
    rw [this]
  | .inr (ci, fs), hx =>
    show Sum.inr (ci, fs.map (qk_rv ρ')) = Sum.inr (ci, fs.map (qk_rv ρ))
    rw [List.map_congr_left (fun v hv => qk_rv_congr h (hx v hv))]
theorem qk_rv_cat (ρ : Nat → Nat) (x : Value) : (qk_rv ρ x).category = x.category := by cases x <;> rfl
/-- the words of the tables hold at U, whatever the arguments -/
def qk_gw : Cond → Bool
  | .fieldLinkNest .. => true
  | .methodLinkNest .. => true
  | .castable .. => true
  | .declares .. => true
  | .stringRef .. => true
  | .arrayOver (.object _) => true
  | w => goodWord w
def qk_ws (U : State) : Prop := ∀ w ∈ lw_tbl, qk_gw w = true → ∀ a : Array Value, w.before a U = true
theorem qk_warm {s U : State} (hW : s.WarmedH U.vm) (h : qk_ws s) : qk_ws U := by
  intro w hw h1 a
  have h2 := h w hw h1 a
  cases w with
  | fieldLinkNest b i c n d h => exact va_tabs rfl (rfl : (s.setVm U.vm).vm = U.vm) (Cond.fieldLinkNest_warmed (args := a) hW h2)
  | methodLinkNest b i c n => exact va_tabs rfl (rfl : (s.setVm U.vm).vm = U.vm) (Cond.methodLinkNest_warmed (args := a) hW h2)
  | castable c t => exact va_tabs rfl (rfl : (s.setVm U.vm).vm = U.vm) (by rw [Cond.castable_setVm (args := a) hW.alike]; exact h2)
  | declares x => exact va_tabs rfl (rfl : (s.setVm U.vm).vm = U.vm) (by rw [Cond.declares_setVm (args := a) hW.alike]; exact h2)
  | stringRef c i t =>
    have h3 := Cond.stringRef_warmed (args := a) hW h2
    first
      | exact va_tabs rfl (rfl : (s.setVm U.vm).vm = U.vm) h3
      | (simp only [Cond.before, Cond.holds, Cond.value, State.names, State.poolOf?, State.resolvedAt?] at h3 ⊢; exact h3)
  | arrayOver t => cases t with
    | object C => exact va_AO.use (va_AO.moved hW.alike (va_AO.of h2))
    | _ => cases h1
  | _ => exact word_at hW (good_of_word h1) h2
/-- the array classes that are used -/
def qk_tyl : List FieldType := [.int, .byte, .boolean, .long, .object "QuakeLink$Channel", .object "QuakeLink$Packet", .object "QuakeLink$Message", .object "QuakeLink$Track", .object "QuakeLink$Page"]
def qk_tys (E : FieldType → ClassId) : List (ClassId × FieldType) := qk_tyl.map fun t => (E t, t)
abbrev qk_O : Type := Nat → Option (Nat × (Nat → Int32))
/-- what the tables (of U) and the cells that were there at the law's start say; ro: the read-only int arrays, by their names (0 the script, 1 WIDTHS, 2 CHECK_STEPS) -/
def qk_K (G : qk_G) (H0 : Heap) (ro : qk_O) (ρ : Nat → Nat) (U : State) : Prop :=
  va_K G.1 qcl (qk_tys G.2) U ∧ qk_ws U ∧
  va_Z "QuakeLink" "WIDTHS" "[I" (.ref (ρ 1)) (fun q => H0.size ≤ q) U H0 ∧ va_Z "QuakeLink" "CHECK_STEPS" "[I" (.ref (ρ 2)) (fun q => H0.size ≤ q) U H0 ∧
  (∀ v n f, ro v = some (n, f) → v < 16 ∧ ρ v < H0.size ∧ va_T .int (ρ v) n (fun j => .int (f j)) (fun q => H0.size ≤ q) U H0)
/-- the world w lies in the heap H, by the addresses ρ -/
def qk_R (G : qk_G) (H0 : Heap) (ro : qk_O) (ρ : Nat → Nat) (w : qk_W) (H : Heap) : Prop :=
  (H0.size ≤ H.size ∧ (∀ q, q < H0.size → H[q]? = H0[q]?) ∧ ∀ q cell, H0.size ≤ q → H[q]? = some cell → cell.vm.isStatics = false) ∧
  (∀ v, v < 16 → w v = (ro v).map fun q => .inl (.int, q.1, .inl q.2)) ∧
  (∀ v e, 16 ≤ v → w v = some e → H0.size ≤ ρ v ∧ va_at G.1 qcl (ρ v, qk_re ρ G.2 e) H ∧ qk_okC w e) ∧
  (∀ v v', 16 ≤ v → 16 ≤ v' → w v ≠ none → w v' ≠ none → ρ v = ρ v' → v = v')
/-- a static field of Throwable that holds a reference or null, and that nobody writes -/
def qk_sf (n d : String) (U : State) (H : Heap) : Prop := ∃ c k i fd a cell v, U.vm.findClass "java/lang/Throwable" = some c ∧ U.fieldFound? "java/lang/Throwable" n d = some (c, k, i, fd) ∧ fd.isStatic = true ∧ k.statics = some a ∧ H[a]? = some cell ∧ cell.vm.isStatics = true ∧ cell.cls = c ∧
  fd.slot < cell.slots.size ∧ k.staticTypes[fd.slot]? = some fd.type ∧ cell.slots[fd.slot]? = some v ∧ v.isRef = true
theorem qk_sf.moved {n d : String} {u U : State} {H : Heap} (hvm : u.vm.Alike U.vm) (h : qk_sf n d u H) : qk_sf n d U H := by
  obtain ⟨c, k, i, fd, a, cell, v, h1, h2, h3, h4, h5, h6, h7, h8, h9, h10⟩ := h
  obtain ⟨k', hi', he⟩ := State.fieldFound?_setVm hvm h2
  exact ⟨c, k', i, fd, a, cell, v, by rw [hvm.findClass]; exact h1, hi', h3, by rw [he]; exact h4, h5, h6, h7, h8, by rw [he]; exact h9, h10⟩
theorem qk_sf.lays {n d : String} {U : State} {args : Array Value} (h : qk_sf n d U U.heap) : (Cond.laysStatic "java/lang/Throwable" n d).before args U = true := by
  obtain ⟨c, k, i, fd, a, cell, v, h1, h2, h3, h4, h5, h6, h7, h8, h9, h10⟩ := h
  simp [Cond.before, Cond.holds, Cond.value, h1, h2, h3, h4, h5, h6, h7, h8, h9]
theorem qk_sf.isRef {n d : String} {U : State} {args : Array Value} (h : qk_sf n d U U.heap) : (Cond.isRef (.static "java/lang/Throwable" n d)).before args U = true := by
  obtain ⟨c, k, i, fd, a, cell, v, h1, h2, h3, h4, h5, h6, h7, h8, h9, h10, h11⟩ := h
  have he : (Term.static "java/lang/Throwable" n d).eval args U none [] U = some v := by
    simp [Term.eval, State.fieldNamed?, h2, h3, h4, h5, h6, h10]
  simp only [Cond.before, Cond.holds, Cond.value, he]
  cases v <;> first | rfl | cases h11
def qk_ncl : List (String × String) := [("java/lang/IllegalStateException", "java/lang/IndexOutOfBoundsException"), ("java/lang/IllegalArgumentException", "java/lang/IndexOutOfBoundsException"), ("java/lang/IllegalStateException", "java/lang/IllegalArgumentException")]
def qk_Z (l : Launch) (H0 : Heap) (U : State) : Prop := l.stackTraces = false ∧ qk_sf "UNASSIGNED_STACK" "[Ljava/lang/StackTraceElement;" U H0 ∧ qk_sf "SUPPRESSED_SENTINEL" "Ljava/util/List;" U H0 ∧ ∀ q ∈ qk_ncl, va_Nc q.1 q.2 U
/-- what holds of a method's invocation s -/
def qk_X (M : qk_M) (p : Program) (l : Launch) (s : State) (m : MethodId) (meth : Method) (c : Code) (G : qk_G) (H0 : Heap) (ro : qk_O) (ρ : Nat → Nat) : Prop :=
  (p.tables.exec = Jvm.exec ∧ c.code = M.2.1 ∧ meth.sig.returnType = M.2.2.2.1 ∧ c.maxLocals = M.2.2.1 ∧ s.vm.findClass M.1.cls = some m.cls ∧ meth.locks = false ∧ meth.name = M.1.name ∧
    c.exceptionTable.toList.map (fun h => (h.startPc, h.endPc, h.handlerPc, h.catchType)) = M.2.2.2.2) ∧
  qk_Z l H0 s ∧ qk_K G H0 ro ρ s ∧ ∀ q cell, H0.size ≤ q → s.heap[q]? = some cell → cell.vm.isStatics = false
/-- a method's end: it returned (inl) or threw (inr, the exception's name), the world is w' -/
def qk_E (G : qk_G) (H0 : Heap) (ro : qk_O) (ρ : Nat → Nat) (w : qk_W) (s : State) (below : List Frame) (r : Option Value ⊕ Nat) (w' : qk_W) (mc ms : Nat) : State → Prop := fun t =>
  ∃ (o : Outcome) (ρ' : Nat → Nat) (L : List Loc), t.status = .running ∧ Ended t below o ∧
    (match r with | .inl v => o = .returned (v.map (qk_rv ρ')) ∧ ∀ x, v = some x → qk_ok w' x | .inr x => o = .threw (ρ' x) ∧ 16 ≤ x ∧ w' x ≠ none) ∧
    (∀ v, w v ≠ none → ρ' v = ρ v ∧ w' v ≠ none) ∧ (∀ v, v < 16 → ρ' v = ρ v) ∧ qk_R G H0 ro ρ' w' t.heap ∧ s.WarmedH t.vm ∧ s.sameButNew ({ t with vm := s.vm } : State) L mc ms ∧ ∀ q ∈ L, H0.size ≤ q.base
/-- local variables, by their numbers; none: unset, or not to be spoken of -/
def qk_lp : Nat → List (Option Value) → List (Nat × Value)
  | _, [] => []
  | i, none :: t => qk_lp (i + 1) t
  | i, some v :: t => (i, v) :: qk_lp (i + 1) t
theorem qk_lp_mem {L : List (Option Value)} {i j : Nat} {v : Value} : (j, v) ∈ qk_lp i L ↔ ∃ k, j = i + k ∧ L[k]? = some (some v) := by
  induction L generalizing i with
  | nil => simp [qk_lp]
  | cons a t ih =>
    have hh : (j, v) ∈ qk_lp i (a :: t) ↔ (j = i ∧ a = some v) ∨ (j, v) ∈ qk_lp (i + 1) t := by
      cases a <;> simp [qk_lp, eq_comm]
    rw [hh, ih]
    constructor
    · rintro (⟨rfl, rfl⟩ | ⟨k, rfl, hk⟩)
      · exact ⟨0, rfl, rfl⟩
      · exact ⟨k + 1, by omega, hk⟩
    · rintro ⟨k, rfl, hk⟩
      cases k with
      | zero => exact Or.inl ⟨rfl, by simpa using hk⟩
      | succ k => exact Or.inr ⟨k, by omega, by simpa using hk⟩
theorem qk_lp0 {L : List (Option Value)} {j : Nat} {v : Value} : (j, v) ∈ qk_lp 0 L ↔ L[j]? = some (some v) := by
  rw [qk_lp_mem]
  constructor
  · rintro ⟨k, rfl, hk⟩
    simpa using hk
  · exact fun h => ⟨j, by omega, h⟩
/-- from this frame the method comes to that end, with kc cells of ks slots made, nesting at most d deep -/
def qk_S (d : Nat) (M : qk_M) (pc : Nat) (L : List (Option Value)) (st : List Value) (w : qk_W) (r : Option Value ⊕ Nat) (w' : qk_W) (kc ks : Nat) : Prop :=
  ∀ (p : Program) (l : Launch) (e : Env) (R : Room) (s : State) (m : MethodId) (args : Array Value) (below : List Frame) (meth : Method) (c : Code) (H : Heap) (locs : List Loc) (cells slots : Nat) (G : qk_G) (H0 : Heap) (ro : qk_O) (ρ : Nat → Nat) (ls : Array Slot),
    qk_X M p l s m meth c G H0 ro ρ → qk_R G H0 ro ρ w H → (∀ q ∈ qk_lp 0 L, qk_ok w q.2) → (∀ x ∈ st, qk_ok w x) → lv_has ls M.2.2.1 ((qk_lp 0 L).map fun q => (q.1, qk_rv ρ q.2)) → (∀ q ∈ locs, H0.size ≤ q.base) →
    d ≤ R.frames → 36 * d ≤ R.locals → cells + kc ≤ R.cells → slots + ks ≤ R.slots →
    W p l e R s m args below meth c H locs cells slots (qk_E G H0 ro ρ w s below r w' (cells + kc) (slots + ks)) (F0 m pc ls (st.map (qk_rv ρ)))
/-- THE JUDGEMENT: from here the method comes to an end (answer or throw, world, cells and slots made so far) that Q takes -/
def Ev (d : Nat) (M : qk_M) (pc : Nat) (L : List (Option Value)) (st : List Value) (w : qk_W) (nc ns : Nat) (Q : Option Value ⊕ Nat → qk_W → Nat → Nat → Prop) : Prop :=
  ∃ r w' kc ks, Q r w' (nc + kc) (ns + ks) ∧ qk_S d M pc L st w r w' kc ks
end
section
/-! ===== rules: plain instructions (by gen_rules.py) ===== -/
def qi_shl (x y : Int32) : Int32 := x <<< (y &&& 31)
def qi_shr (x y : Int32) : Int32 := x >>> (y &&& 31)
def qi_ushr (x y : Int32) : Int32 := (x.toUInt32 >>> (y.toUInt32 &&& Int32.toUInt32 31)).toInt32
def qi_rem (x y : Int32) : Int32 := x - x / y * y
def ql_shl (x : Int64) (y : Int32) : Int64 := x <<< (y.toInt64 &&& 63)
def ql_ushr (x : Int64) (y : Int32) : Int64 := (x.toUInt64 >>> (y.toInt64.toUInt64 &&& Int64.toUInt64 63)).toInt64
section Rules
variable {d : Nat} {M : qk_M} {pc : Nat} {L : List (Option Value)} {st : List Value} {w : qk_W} {nc ns : Nat} {Q : Option Value ⊕ Nat → qk_W → Nat → Nat → Prop}
theorem ev_of {pc' : Nat} {L' : List (Option Value)} {st' : List Value} (h : ∀ r w' kc ks, qk_S d M pc' L' st' w r w' kc ks → qk_S d M pc L st w r w' kc ks) (k : Ev d M pc' L' st' w nc ns Q) : Ev d M pc L st w nc ns Q := by
  obtain ⟨r, w', kc, ks, hq, hs⟩ := k
  exact ⟨r, w', kc, ks, hq, h r w' kc ks hs⟩
theorem qk_cons {v : Value} (h : qk_ok w v) (hs : ∀ x ∈ st, qk_ok w x) : ∀ x ∈ v :: st, qk_ok w x := List.forall_mem_cons.mpr ⟨h, hs⟩
theorem qk_tl {v : Value} (hs : ∀ x ∈ v :: st, qk_ok w x) : ∀ x ∈ st, qk_ok w x := (List.forall_mem_cons.mp hs).2
theorem qk_hd {v : Value} (hs : ∀ x ∈ v :: st, qk_ok w x) : qk_ok w v := (List.forall_mem_cons.mp hs).1
theorem qk_lg {ls : Array Slot} {ρ : Nat → Nat} {nL i : Nat} {v : Value} (h : lv_has ls nL ((qk_lp 0 L).map fun q => (q.1, qk_rv ρ q.2))) (hi : L[i]? = some (some v)) : ls[i]? = some (.val (qk_rv ρ v)) :=
  h.2.2 (i, qk_rv ρ v) (List.mem_map.mpr ⟨(i, v), qk_lp0.mpr hi, rfl⟩)
theorem qk_lo {i : Nat} {v : Value} (h : ∀ q ∈ qk_lp 0 L, qk_ok w q.2) (hi : L[i]? = some (some v)) : qk_ok w v := h (i, v) (qk_lp0.mpr hi)
def qk_c2 (L : List (Option Value)) (i : Nat) : Bool := match i with
  | 0 => true
  | j + 1 => match L[j]? with
    | some (some v) => v.category == 1
    | _ => true
theorem qk_sg {i j : Nat} {v u : Value} (h : (j, u) ∈ qk_lp 0 (L.set i (some v))) : (j = i ∧ u = v) ∨ (j ≠ i ∧ L[j]? = some (some u)) := by
  have h1 := qk_lp0.mp h
  rw [List.getElem?_set] at h1
  split at h1
  · split at h1
    · cases h1
      exact Or.inl ⟨by omega, rfl⟩
    · cases h1
  · exact Or.inr ⟨by omega, h1⟩
theorem qk_c2_ne {i j : Nat} {u : Value} (hc : qk_c2 L i = true) (hj : L[j]? = some (some u)) (h : j + 1 = i) : u.category = 1 := by
  subst h
  simp only [qk_c2, hj] at hc
  simpa using hc
theorem qk_sub {ls : Array Slot} {nL : Nat} {l l' : List (Nat × Value)} (h : lv_has ls nL l) (hs : ∀ q ∈ l', q ∈ l) : lv_has ls nL l' := ⟨h.1, h.2.1, fun q hq => h.2.2 q (hs q hq)⟩
theorem qk_so {i : Nat} {v : Value} (h : ∀ q ∈ qk_lp 0 L, qk_ok w q.2) (hv : qk_ok w v) : ∀ q ∈ qk_lp 0 (L.set i (some v)), qk_ok w q.2 := by
  rintro ⟨j, u⟩ hq
  rcases qk_sg hq with ⟨-, rfl⟩ | ⟨-, h2⟩
  · exact hv
  · exact h (j, u) (qk_lp0.mpr h2)
/-- what a store of one word leaves -/
theorem qk_s1 {ls : Array Slot} {ρ : Nat → Nat} {nL i : Nat} {v : Value} (hc : qk_c2 L i = true)
    (h : lv_has ls nL ((i, qk_rv ρ v) :: ((qk_lp 0 L).map fun q => (q.1, qk_rv ρ q.2)).filter (fun q => !(q.1 == i) && !(q.1 + 1 == i && q.2.category == 2)))) : lv_has ls nL ((qk_lp 0 (L.set i (some v))).map fun q => (q.1, qk_rv ρ q.2)) := by
  refine qk_sub h ?_
  intro q hq
  obtain ⟨⟨j, u⟩, hm, rfl⟩ := List.mem_map.mp hq
  rcases qk_sg hm with ⟨rfl, rfl⟩ | ⟨h1, h2⟩
  · exact List.mem_cons_self
  · refine List.mem_cons_of_mem _ (List.mem_filter.mpr ⟨List.mem_map.mpr ⟨(j, u), qk_lp0.mpr h2, rfl⟩, ?_⟩)
    by_cases h3 : j + 1 = i
    · simp [h1, qk_rv_cat, qk_c2_ne hc h2 h3]
    · simp [h1, h3]
/-- forget a local variable -/
theorem qk_dg {i j : Nat} {u : Value} (h : (j, u) ∈ qk_lp 0 (L.set i none)) : j ≠ i ∧ L[j]? = some (some u) := by
  have h1 := qk_lp0.mp h
  rw [List.getElem?_set] at h1
  split at h1
  · split at h1 <;> cases h1
  · exact ⟨by omega, h1⟩
theorem qk_s2 {ls : Array Slot} {ρ : Nat → Nat} {nL i : Nat} {v : Value} (hc : qk_c2 L i = true)
    (h : lv_has ls nL ((i, qk_rv ρ v) :: ((qk_lp 0 L).map fun q => (q.1, qk_rv ρ q.2)).filter (fun q => !(q.1 == i) && (!(q.1 == i + 1) && !(q.1 + 1 == i && q.2.category == 2))))) : lv_has ls nL ((qk_lp 0 ((L.set (i + 1) none).set i (some v))).map fun q => (q.1, qk_rv ρ q.2)) := by
  refine qk_sub h ?_
  intro q hq
  obtain ⟨⟨j, u⟩, hm, rfl⟩ := List.mem_map.mp hq
  rcases qk_sg hm with ⟨rfl, rfl⟩ | ⟨h1, h2⟩
  · exact List.mem_cons_self
  · obtain ⟨h4, h5⟩ := qk_dg (qk_lp0.mpr h2)
    refine List.mem_cons_of_mem _ (List.mem_filter.mpr ⟨List.mem_map.mpr ⟨(j, u), qk_lp0.mpr h5, rfl⟩, ?_⟩)
    by_cases h3 : j + 1 = i
    · simp [h1, h4, qk_rv_cat, qk_c2_ne hc h5 h3]
    · simp [h1, h3, h4]
theorem qk_so2 {i : Nat} {v : Value} (h : ∀ q ∈ qk_lp 0 L, qk_ok w q.2) (hv : qk_ok w v) : ∀ q ∈ qk_lp 0 ((L.set (i + 1) none).set i (some v)), qk_ok w q.2 := by
  rintro ⟨j, u⟩ hq
  rcases qk_sg hq with ⟨-, rfl⟩ | ⟨-, h2⟩
  · exact hv
  · exact h (j, u) (qk_lp0.mpr (qk_dg (qk_lp0.mpr h2)).2)

theorem ev_iadd {x y : Int32} (hd : decode M.2.1 pc = .ok (.iadd, 1))  (k : Ev d M (pc + 1) L (.int (x + y) :: st) w nc ns Q) : Ev d M pc L (.int y :: .int x :: st) w nc ns Q :=
  ev_of (fun r w' kc ks hs p l e R s m args below meth c H locs cells slots G H0 ro ρ ls X hR hL hst hl hlo h1 h2 h3 h4 => lv_iadd X.1.1 X.1.2.1  hd  (hs p l e R s m args below meth c H locs cells slots G H0 ro ρ ls X hR hL (qk_cons (v := .int (x + y)) trivial (qk_tl (qk_tl hst))) hl hlo h1 h2 h3 h4)) k
theorem ev_isub {x y : Int32} (hd : decode M.2.1 pc = .ok (.isub, 1))  (k : Ev d M (pc + 1) L (.int (x - y) :: st) w nc ns Q) : Ev d M pc L (.int y :: .int x :: st) w nc ns Q :=
  ev_of (fun r w' kc ks hs p l e R s m args below meth c H locs cells slots G H0 ro ρ ls X hR hL hst hl hlo h1 h2 h3 h4 => lv_isub X.1.1 X.1.2.1  hd  (hs p l e R s m args below meth c H locs cells slots G H0 ro ρ ls X hR hL (qk_cons (v := .int (x - y)) trivial (qk_tl (qk_tl hst))) hl hlo h1 h2 h3 h4)) k
theorem ev_imul {x y : Int32} (hd : decode M.2.1 pc = .ok (.imul, 1))  (k : Ev d M (pc + 1) L (.int (x * y) :: st) w nc ns Q) : Ev d M pc L (.int y :: .int x :: st) w nc ns Q :=
  ev_of (fun r w' kc ks hs p l e R s m args below meth c H locs cells slots G H0 ro ρ ls X hR hL hst hl hlo h1 h2 h3 h4 => lv_imul X.1.1 X.1.2.1  hd  (hs p l e R s m args below meth c H locs cells slots G H0 ro ρ ls X hR hL (qk_cons (v := .int (x * y)) trivial (qk_tl (qk_tl hst))) hl hlo h1 h2 h3 h4)) k
theorem ev_iand {x y : Int32} (hd : decode M.2.1 pc = .ok (.iand, 1))  (k : Ev d M (pc + 1) L (.int (x &&& y) :: st) w nc ns Q) : Ev d M pc L (.int y :: .int x :: st) w nc ns Q :=
  ev_of (fun r w' kc ks hs p l e R s m args below meth c H locs cells slots G H0 ro ρ ls X hR hL hst hl hlo h1 h2 h3 h4 => lv_iand X.1.1 X.1.2.1  hd  (hs p l e R s m args below meth c H locs cells slots G H0 ro ρ ls X hR hL (qk_cons (v := .int (x &&& y)) trivial (qk_tl (qk_tl hst))) hl hlo h1 h2 h3 h4)) k
theorem ev_ior {x y : Int32} (hd : decode M.2.1 pc = .ok (.ior, 1))  (k : Ev d M (pc + 1) L (.int (x ||| y) :: st) w nc ns Q) : Ev d M pc L (.int y :: .int x :: st) w nc ns Q :=
  ev_of (fun r w' kc ks hs p l e R s m args below meth c H locs cells slots G H0 ro ρ ls X hR hL hst hl hlo h1 h2 h3 h4 => lv_ior X.1.1 X.1.2.1  hd  (hs p l e R s m args below meth c H locs cells slots G H0 ro ρ ls X hR hL (qk_cons (v := .int (x ||| y)) trivial (qk_tl (qk_tl hst))) hl hlo h1 h2 h3 h4)) k
theorem ev_ixor {x y : Int32} (hd : decode M.2.1 pc = .ok (.ixor, 1))  (k : Ev d M (pc + 1) L (.int (x ^^^ y) :: st) w nc ns Q) : Ev d M pc L (.int y :: .int x :: st) w nc ns Q :=
  ev_of (fun r w' kc ks hs p l e R s m args below meth c H locs cells slots G H0 ro ρ ls X hR hL hst hl hlo h1 h2 h3 h4 => lv_ixor X.1.1 X.1.2.1  hd  (hs p l e R s m args below meth c H locs cells slots G H0 ro ρ ls X hR hL (qk_cons (v := .int (x ^^^ y)) trivial (qk_tl (qk_tl hst))) hl hlo h1 h2 h3 h4)) k
theorem ev_ishl {x y : Int32} (hd : decode M.2.1 pc = .ok (.ishl, 1))  (k : Ev d M (pc + 1) L (.int (qi_shl x y) :: st) w nc ns Q) : Ev d M pc L (.int y :: .int x :: st) w nc ns Q :=
  ev_of (fun r w' kc ks hs p l e R s m args below meth c H locs cells slots G H0 ro ρ ls X hR hL hst hl hlo h1 h2 h3 h4 => lv_ishl X.1.1 X.1.2.1  hd  (hs p l e R s m args below meth c H locs cells slots G H0 ro ρ ls X hR hL (qk_cons (v := .int (qi_shl x y)) trivial (qk_tl (qk_tl hst))) hl hlo h1 h2 h3 h4)) k
theorem ev_ishr {x y : Int32} (hd : decode M.2.1 pc = .ok (.ishr, 1))  (k : Ev d M (pc + 1) L (.int (qi_shr x y) :: st) w nc ns Q) : Ev d M pc L (.int y :: .int x :: st) w nc ns Q :=
  ev_of (fun r w' kc ks hs p l e R s m args below meth c H locs cells slots G H0 ro ρ ls X hR hL hst hl hlo h1 h2 h3 h4 => lv_ishr X.1.1 X.1.2.1  hd  (hs p l e R s m args below meth c H locs cells slots G H0 ro ρ ls X hR hL (qk_cons (v := .int (qi_shr x y)) trivial (qk_tl (qk_tl hst))) hl hlo h1 h2 h3 h4)) k
theorem ev_idiv {x y : Int32} (hd : decode M.2.1 pc = .ok (.idiv, 1)) (hne : ¬ y = 0) (k : Ev d M (pc + 1) L (.int (x / y) :: st) w nc ns Q) : Ev d M pc L (.int y :: .int x :: st) w nc ns Q :=
  ev_of (fun r w' kc ks hs p l e R s m args below meth c H locs cells slots G H0 ro ρ ls X hR hL hst hl hlo h1 h2 h3 h4 => lv_idiv X.1.1 X.1.2.1  hd hne (hs p l e R s m args below meth c H locs cells slots G H0 ro ρ ls X hR hL (qk_cons (v := .int (x / y)) trivial (qk_tl (qk_tl hst))) hl hlo h1 h2 h3 h4)) k
theorem ev_irem {x y : Int32} (hd : decode M.2.1 pc = .ok (.irem, 1)) (hne : ¬ y = 0) (k : Ev d M (pc + 1) L (.int (qi_rem x y) :: st) w nc ns Q) : Ev d M pc L (.int y :: .int x :: st) w nc ns Q :=
  ev_of (fun r w' kc ks hs p l e R s m args below meth c H locs cells slots G H0 ro ρ ls X hR hL hst hl hlo h1 h2 h3 h4 => lv_irem X.1.1 X.1.2.1  hd hne (hs p l e R s m args below meth c H locs cells slots G H0 ro ρ ls X hR hL (qk_cons (v := .int (qi_rem x y)) trivial (qk_tl (qk_tl hst))) hl hlo h1 h2 h3 h4)) k
theorem ev_iushr {x y : Int32} (hd : decode M.2.1 pc = .ok (.iushr, 1))  (k : Ev d M (pc + 1) L (.int (qi_ushr x y) :: st) w nc ns Q) : Ev d M pc L (.int y :: .int x :: st) w nc ns Q :=
  ev_of (fun r w' kc ks hs p l e R s m args below meth c H locs cells slots G H0 ro ρ ls X hR hL hst hl hlo h1 h2 h3 h4 => lv_iushr X.1.1 X.1.2.1  hd rfl (hs p l e R s m args below meth c H locs cells slots G H0 ro ρ ls X hR hL (qk_cons (v := .int (qi_ushr x y)) trivial (qk_tl (qk_tl hst))) hl hlo h1 h2 h3 h4)) k
theorem ev_ladd {x y : Int64} (hd : decode M.2.1 pc = .ok (.ladd, 1))  (k : Ev d M (pc + 1) L (.long (x + y) :: st) w nc ns Q) : Ev d M pc L (.long y :: .long x :: st) w nc ns Q :=
  ev_of (fun r w' kc ks hs p l e R s m args below meth c H locs cells slots G H0 ro ρ ls X hR hL hst hl hlo h1 h2 h3 h4 => lv_ladd X.1.1 X.1.2.1  hd  (hs p l e R s m args below meth c H locs cells slots G H0 ro ρ ls X hR hL (qk_cons (v := .long (x + y)) trivial (qk_tl (qk_tl hst))) hl hlo h1 h2 h3 h4)) k
theorem ev_lsub {x y : Int64} (hd : decode M.2.1 pc = .ok (.lsub, 1))  (k : Ev d M (pc + 1) L (.long (x - y) :: st) w nc ns Q) : Ev d M pc L (.long y :: .long x :: st) w nc ns Q :=
  ev_of (fun r w' kc ks hs p l e R s m args below meth c H locs cells slots G H0 ro ρ ls X hR hL hst hl hlo h1 h2 h3 h4 => lv_lsub X.1.1 X.1.2.1  hd  (hs p l e R s m args below meth c H locs cells slots G H0 ro ρ ls X hR hL (qk_cons (v := .long (x - y)) trivial (qk_tl (qk_tl hst))) hl hlo h1 h2 h3 h4)) k
theorem ev_lmul {x y : Int64} (hd : decode M.2.1 pc = .ok (.lmul, 1))  (k : Ev d M (pc + 1) L (.long (x * y) :: st) w nc ns Q) : Ev d M pc L (.long y :: .long x :: st) w nc ns Q :=
  ev_of (fun r w' kc ks hs p l e R s m args below meth c H locs cells slots G H0 ro ρ ls X hR hL hst hl hlo h1 h2 h3 h4 => lv_lmul X.1.1 X.1.2.1  hd  (hs p l e R s m args below meth c H locs cells slots G H0 ro ρ ls X hR hL (qk_cons (v := .long (x * y)) trivial (qk_tl (qk_tl hst))) hl hlo h1 h2 h3 h4)) k
theorem ev_land {x y : Int64} (hd : decode M.2.1 pc = .ok (.land, 1))  (k : Ev d M (pc + 1) L (.long (x &&& y) :: st) w nc ns Q) : Ev d M pc L (.long y :: .long x :: st) w nc ns Q :=
  ev_of (fun r w' kc ks hs p l e R s m args below meth c H locs cells slots G H0 ro ρ ls X hR hL hst hl hlo h1 h2 h3 h4 => lv_land X.1.1 X.1.2.1  hd  (hs p l e R s m args below meth c H locs cells slots G H0 ro ρ ls X hR hL (qk_cons (v := .long (x &&& y)) trivial (qk_tl (qk_tl hst))) hl hlo h1 h2 h3 h4)) k
theorem ev_lor {x y : Int64} (hd : decode M.2.1 pc = .ok (.lor, 1))  (k : Ev d M (pc + 1) L (.long (x ||| y) :: st) w nc ns Q) : Ev d M pc L (.long y :: .long x :: st) w nc ns Q :=
  ev_of (fun r w' kc ks hs p l e R s m args below meth c H locs cells slots G H0 ro ρ ls X hR hL hst hl hlo h1 h2 h3 h4 => lv_lor X.1.1 X.1.2.1  hd  (hs p l e R s m args below meth c H locs cells slots G H0 ro ρ ls X hR hL (qk_cons (v := .long (x ||| y)) trivial (qk_tl (qk_tl hst))) hl hlo h1 h2 h3 h4)) k
theorem ev_lcmp {x y : Int64} (hd : decode M.2.1 pc = .ok (.lcmp, 1))  (k : Ev d M (pc + 1) L (.int (lg_cmp x y) :: st) w nc ns Q) : Ev d M pc L (.long y :: .long x :: st) w nc ns Q :=
  ev_of (fun r w' kc ks hs p l e R s m args below meth c H locs cells slots G H0 ro ρ ls X hR hL hst hl hlo h1 h2 h3 h4 => W.lcmp X.1.1 X.1.2.1  hd  (hs p l e R s m args below meth c H locs cells slots G H0 ro ρ ls X hR hL (qk_cons (v := .int (lg_cmp x y)) trivial (qk_tl (qk_tl hst))) hl hlo h1 h2 h3 h4)) k
theorem ev_lshl {x : Int64} {y : Int32} (hd : decode M.2.1 pc = .ok (.lshl, 1))  (k : Ev d M (pc + 1) L (.long (ql_shl x y) :: st) w nc ns Q) : Ev d M pc L (.int y :: .long x :: st) w nc ns Q :=
  ev_of (fun r w' kc ks hs p l e R s m args below meth c H locs cells slots G H0 ro ρ ls X hR hL hst hl hlo h1 h2 h3 h4 => lv_lshl X.1.1 X.1.2.1  hd rfl (hs p l e R s m args below meth c H locs cells slots G H0 ro ρ ls X hR hL (qk_cons (v := .long (ql_shl x y)) trivial (qk_tl (qk_tl hst))) hl hlo h1 h2 h3 h4)) k
theorem ev_lushr {x : Int64} {y : Int32} (hd : decode M.2.1 pc = .ok (.lushr, 1))  (k : Ev d M (pc + 1) L (.long (ql_ushr x y) :: st) w nc ns Q) : Ev d M pc L (.int y :: .long x :: st) w nc ns Q :=
  ev_of (fun r w' kc ks hs p l e R s m args below meth c H locs cells slots G H0 ro ρ ls X hR hL hst hl hlo h1 h2 h3 h4 => lv_lushr X.1.1 X.1.2.1  hd rfl (hs p l e R s m args below meth c H locs cells slots G H0 ro ρ ls X hR hL (qk_cons (v := .long (ql_ushr x y)) trivial (qk_tl (qk_tl hst))) hl hlo h1 h2 h3 h4)) k
theorem ev_ineg {x : Int32} (hd : decode M.2.1 pc = .ok (.ineg, 1))  (k : Ev d M (pc + 1) L (.int (-x) :: st) w nc ns Q) : Ev d M pc L (.int x :: st) w nc ns Q :=
  ev_of (fun r w' kc ks hs p l e R s m args below meth c H locs cells slots G H0 ro ρ ls X hR hL hst hl hlo h1 h2 h3 h4 => lv_ineg X.1.1 X.1.2.1  hd  (hs p l e R s m args below meth c H locs cells slots G H0 ro ρ ls X hR hL (qk_cons (v := .int (-x)) trivial (qk_tl hst)) hl hlo h1 h2 h3 h4)) k
theorem ev_i2l {x : Int32} (hd : decode M.2.1 pc = .ok (.i2l, 1))  (k : Ev d M (pc + 1) L (.long x.toInt64 :: st) w nc ns Q) : Ev d M pc L (.int x :: st) w nc ns Q :=
  ev_of (fun r w' kc ks hs p l e R s m args below meth c H locs cells slots G H0 ro ρ ls X hR hL hst hl hlo h1 h2 h3 h4 => lv_i2l X.1.1 X.1.2.1  hd rfl (hs p l e R s m args below meth c H locs cells slots G H0 ro ρ ls X hR hL (qk_cons (v := .long x.toInt64) trivial (qk_tl hst)) hl hlo h1 h2 h3 h4)) k
theorem ev_l2i {x : Int64} (hd : decode M.2.1 pc = .ok (.l2i, 1))  (k : Ev d M (pc + 1) L (.int x.toInt32 :: st) w nc ns Q) : Ev d M pc L (.long x :: st) w nc ns Q :=
  ev_of (fun r w' kc ks hs p l e R s m args below meth c H locs cells slots G H0 ro ρ ls X hR hL hst hl hlo h1 h2 h3 h4 => lv_l2i X.1.1 X.1.2.1  hd rfl (hs p l e R s m args below meth c H locs cells slots G H0 ro ρ ls X hR hL (qk_cons (v := .int x.toInt32) trivial (qk_tl hst)) hl hlo h1 h2 h3 h4)) k
theorem ev_i2b {x : Int32} (hd : decode M.2.1 pc = .ok (.i2b, 1))  (k : Ev d M (pc + 1) L (.int x.toInt8.toInt32 :: st) w nc ns Q) : Ev d M pc L (.int x :: st) w nc ns Q :=
  ev_of (fun r w' kc ks hs p l e R s m args below meth c H locs cells slots G H0 ro ρ ls X hR hL hst hl hlo h1 h2 h3 h4 => lv_i2b X.1.1 X.1.2.1  hd rfl (hs p l e R s m args below meth c H locs cells slots G H0 ro ρ ls X hR hL (qk_cons (v := .int x.toInt8.toInt32) trivial (qk_tl hst)) hl hlo h1 h2 h3 h4)) k
theorem ev_iconst {n : Int} (v : Int32) (hd : decode M.2.1 pc = .ok (.iconst n, 1)) (hv : Int32.ofInt n = v) (k : Ev d M (pc + 1) L (.int v :: st) w nc ns Q) : Ev d M pc L (st) w nc ns Q :=
  ev_of (fun r w' kc ks hs p l e R s m args below meth c H locs cells slots G H0 ro ρ ls X hR hL hst hl hlo h1 h2 h3 h4 => lv_iconst X.1.1 X.1.2.1  hd hv (hs p l e R s m args below meth c H locs cells slots G H0 ro ρ ls X hR hL (qk_cons (v := .int v) trivial hst) hl hlo h1 h2 h3 h4)) k
theorem ev_bipush {n : Int} (v : Int32) (hd : decode M.2.1 pc = .ok (.bipush n, 2)) (hv : (Int8.ofInt n).toInt32 = v) (k : Ev d M (pc + 2) L (.int v :: st) w nc ns Q) : Ev d M pc L (st) w nc ns Q :=
  ev_of (fun r w' kc ks hs p l e R s m args below meth c H locs cells slots G H0 ro ρ ls X hR hL hst hl hlo h1 h2 h3 h4 => lv_bipush X.1.1 X.1.2.1  hd hv (hs p l e R s m args below meth c H locs cells slots G H0 ro ρ ls X hR hL (qk_cons (v := .int v) trivial hst) hl hlo h1 h2 h3 h4)) k
theorem ev_sipush {n : Int} (v : Int32) (hd : decode M.2.1 pc = .ok (.sipush n, 3)) (hv : (Int16.ofInt n).toInt32 = v) (k : Ev d M (pc + 3) L (.int v :: st) w nc ns Q) : Ev d M pc L (st) w nc ns Q :=
  ev_of (fun r w' kc ks hs p l e R s m args below meth c H locs cells slots G H0 ro ρ ls X hR hL hst hl hlo h1 h2 h3 h4 => lv_sipush X.1.1 X.1.2.1  hd hv (hs p l e R s m args below meth c H locs cells slots G H0 ro ρ ls X hR hL (qk_cons (v := .int v) trivial hst) hl hlo h1 h2 h3 h4)) k
theorem ev_lconst {n : Fin 2} (v : Int64) (hd : decode M.2.1 pc = .ok (.lconst n, 1)) (hv : Int64.ofNat (n : Nat) = v) (k : Ev d M (pc + 1) L (.long v :: st) w nc ns Q) : Ev d M pc L (st) w nc ns Q :=
  ev_of (fun r w' kc ks hs p l e R s m args below meth c H locs cells slots G H0 ro ρ ls X hR hL hst hl hlo h1 h2 h3 h4 => lv_lconst X.1.1 X.1.2.1  hd hv (hs p l e R s m args below meth c H locs cells slots G H0 ro ρ ls X hR hL (qk_cons (v := .long v) trivial hst) hl hlo h1 h2 h3 h4)) k
theorem ev_null  (hd : decode M.2.1 pc = .ok (.aconst_null, 1))  (k : Ev d M (pc + 1) L (.null :: st) w nc ns Q) : Ev d M pc L (st) w nc ns Q :=
  ev_of (fun r w' kc ks hs p l e R s m args below meth c H locs cells slots G H0 ro ρ ls X hR hL hst hl hlo h1 h2 h3 h4 => lv_null X.1.1 X.1.2.1  hd  (hs p l e R s m args below meth c H locs cells slots G H0 ro ρ ls X hR hL (qk_cons (v := .null) trivial hst) hl hlo h1 h2 h3 h4)) k
theorem ev_iload {i : Nat} {x : Int32} (hd : decode M.2.1 pc = .ok (.iload i, 2)) (hl0 : L[i]? = some (some (.int x))) (k : Ev d M (pc + 2) L (.int x :: st) w nc ns Q) : Ev d M pc L (st) w nc ns Q :=
  ev_of (fun r w' kc ks hs p l e R s m args below meth c H locs cells slots G H0 ro ρ ls X hR hL hst hl hlo h1 h2 h3 h4 => lv_iload X.1.1 X.1.2.1  hd (qk_lg hl hl0) (hs p l e R s m args below meth c H locs cells slots G H0 ro ρ ls X hR hL (qk_cons (v := .int x) trivial hst) hl hlo h1 h2 h3 h4)) k
theorem ev_iload_n {i : Fin 4} {x : Int32} (hd : decode M.2.1 pc = .ok (.iload_n i, 1)) (hl0 : L[(i : Nat)]? = some (some (.int x))) (k : Ev d M (pc + 1) L (.int x :: st) w nc ns Q) : Ev d M pc L (st) w nc ns Q :=
  ev_of (fun r w' kc ks hs p l e R s m args below meth c H locs cells slots G H0 ro ρ ls X hR hL hst hl hlo h1 h2 h3 h4 => lv_iload_n X.1.1 X.1.2.1  hd rfl (qk_lg hl hl0) (hs p l e R s m args below meth c H locs cells slots G H0 ro ρ ls X hR hL (qk_cons (v := .int x) trivial hst) hl hlo h1 h2 h3 h4)) k
theorem ev_lload {i : Nat} {x : Int64} (hd : decode M.2.1 pc = .ok (.lload i, 2)) (hl0 : L[i]? = some (some (.long x))) (k : Ev d M (pc + 2) L (.long x :: st) w nc ns Q) : Ev d M pc L (st) w nc ns Q :=
  ev_of (fun r w' kc ks hs p l e R s m args below meth c H locs cells slots G H0 ro ρ ls X hR hL hst hl hlo h1 h2 h3 h4 => lv_lload X.1.1 X.1.2.1  hd (qk_lg hl hl0) (hs p l e R s m args below meth c H locs cells slots G H0 ro ρ ls X hR hL (qk_cons (v := .long x) trivial hst) hl hlo h1 h2 h3 h4)) k
theorem ev_lload_n {i : Fin 4} {x : Int64} (hd : decode M.2.1 pc = .ok (.lload_n i, 1)) (hl0 : L[(i : Nat)]? = some (some (.long x))) (k : Ev d M (pc + 1) L (.long x :: st) w nc ns Q) : Ev d M pc L (st) w nc ns Q :=
  ev_of (fun r w' kc ks hs p l e R s m args below meth c H locs cells slots G H0 ro ρ ls X hR hL hst hl hlo h1 h2 h3 h4 => lv_lload_n X.1.1 X.1.2.1  hd rfl (qk_lg hl hl0) (hs p l e R s m args below meth c H locs cells slots G H0 ro ρ ls X hR hL (qk_cons (v := .long x) trivial hst) hl hlo h1 h2 h3 h4)) k
def qk_isr : Value → Bool
  | .ref _ => true
  | .null => true
  | _ => false
theorem ev_aload {i : Nat} {v : Value} (hd : decode M.2.1 pc = .ok (.aload i, 2)) (hl0 : L[i]? = some (some v)) (hr : qk_isr v = true) (k : Ev d M (pc + 2) L (v :: st) w nc ns Q) : Ev d M pc L st w nc ns Q := by
  cases v with
  | ref a => exact ev_of (fun r w' kc ks hs p l e R s m args below meth c H locs cells slots G H0 ro ρ ls X hR hL hst hl hlo h1 h2 h3 h4 => lv_aload X.1.1 X.1.2.1 hd (qk_lg hl hl0) (hs p l e R s m args below meth c H locs cells slots G H0 ro ρ ls X hR hL (qk_cons (qk_lo hL hl0) hst) hl hlo h1 h2 h3 h4)) k
  | null => exact ev_of (fun r w' kc ks hs p l e R s m args below meth c H locs cells slots G H0 ro ρ ls X hR hL hst hl hlo h1 h2 h3 h4 => lv_aloadN X.1.1 X.1.2.1 hd (qk_lg hl hl0) (hs p l e R s m args below meth c H locs cells slots G H0 ro ρ ls X hR hL (qk_cons (v := .null) trivial hst) hl hlo h1 h2 h3 h4)) k
  | _ => cases hr
theorem ev_aload_n {i : Fin 4} {v : Value} (hd : decode M.2.1 pc = .ok (.aload_n i, 1)) (hl0 : L[(i : Nat)]? = some (some v)) (hr : qk_isr v = true) (k : Ev d M (pc + 1) L (v :: st) w nc ns Q) : Ev d M pc L st w nc ns Q := by
  cases v with
  | ref a => exact ev_of (fun r w' kc ks hs p l e R s m args below meth c H locs cells slots G H0 ro ρ ls X hR hL hst hl hlo h1 h2 h3 h4 => lv_aload_n X.1.1 X.1.2.1 hd rfl (qk_lg hl hl0) (hs p l e R s m args below meth c H locs cells slots G H0 ro ρ ls X hR hL (qk_cons (qk_lo hL hl0) hst) hl hlo h1 h2 h3 h4)) k
  | null => exact ev_of (fun r w' kc ks hs p l e R s m args below meth c H locs cells slots G H0 ro ρ ls X hR hL hst hl hlo h1 h2 h3 h4 => lv_aload_nN X.1.1 X.1.2.1 hd rfl (qk_lg hl hl0) (hs p l e R s m args below meth c H locs cells slots G H0 ro ρ ls X hR hL (qk_cons (v := .null) trivial hst) hl hlo h1 h2 h3 h4)) k
  | _ => cases hr
theorem ev_istore {i : Nat} {x : Int32} (hd : decode M.2.1 pc = .ok (.istore i, 2)) (hn : i < M.2.2.1) (hc : qk_c2 L i = true) (k : Ev d M (pc + 2) (L.set i (some (.int x))) st w nc ns Q) : Ev d M pc L (.int x :: st) w nc ns Q :=
  ev_of (fun r w' kc ks hs p l e R s m args below meth c H locs cells slots G H0 ro ρ ls X hR hL hst hl hlo h1 h2 h3 h4 => lv_istore X.1.1 X.1.2.1 hd hl hn rfl (fun ls' hl' => (hs p l e R s m args below meth c H locs cells slots G H0 ro ρ ls' X hR (qk_so (v := .int x) hL trivial) (qk_tl hst) (qk_s1 (v := .int x) hc hl') hlo h1 h2 h3 h4))) k
theorem ev_istore_n {i : Fin 4} {x : Int32} (hd : decode M.2.1 pc = .ok (.istore_n i, 1)) (hn : (i : Nat) < M.2.2.1) (hc : qk_c2 L (i : Nat) = true) (k : Ev d M (pc + 1) (L.set (i : Nat) (some (.int x))) st w nc ns Q) : Ev d M pc L (.int x :: st) w nc ns Q :=
  ev_of (fun r w' kc ks hs p l e R s m args below meth c H locs cells slots G H0 ro ρ ls X hR hL hst hl hlo h1 h2 h3 h4 => lv_istore_n X.1.1 X.1.2.1 hd rfl hl hn rfl (fun ls' hl' => (hs p l e R s m args below meth c H locs cells slots G H0 ro ρ ls' X hR (qk_so (v := .int x) hL trivial) (qk_tl hst) (qk_s1 (v := .int x) hc hl') hlo h1 h2 h3 h4))) k
theorem ev_lstore {i : Nat} {x : Int64} (hd : decode M.2.1 pc = .ok (.lstore i, 2)) (hn : i + 1 < M.2.2.1) (hc : qk_c2 L i = true) (k : Ev d M (pc + 2) ((L.set (i + 1) none).set i (some (.long x))) st w nc ns Q) : Ev d M pc L (.long x :: st) w nc ns Q :=
  ev_of (fun r w' kc ks hs p l e R s m args below meth c H locs cells slots G H0 ro ρ ls X hR hL hst hl hlo h1 h2 h3 h4 => lv_lstore X.1.1 X.1.2.1 hd hl hn rfl (fun ls' hl' => (hs p l e R s m args below meth c H locs cells slots G H0 ro ρ ls' X hR (qk_so2 (v := .long x) hL trivial) (qk_tl hst) (qk_s2 (v := .long x) hc hl') hlo h1 h2 h3 h4))) k
theorem ev_lstore_n {i : Fin 4} {x : Int64} (hd : decode M.2.1 pc = .ok (.lstore_n i, 1)) (hn : (i : Nat) + 1 < M.2.2.1) (hc : qk_c2 L (i : Nat) = true) (k : Ev d M (pc + 1) ((L.set ((i : Nat) + 1) none).set (i : Nat) (some (.long x))) st w nc ns Q) : Ev d M pc L (.long x :: st) w nc ns Q :=
  ev_of (fun r w' kc ks hs p l e R s m args below meth c H locs cells slots G H0 ro ρ ls X hR hL hst hl hlo h1 h2 h3 h4 => lv_lstore_n X.1.1 X.1.2.1 hd rfl hl hn rfl (fun ls' hl' => (hs p l e R s m args below meth c H locs cells slots G H0 ro ρ ls' X hR (qk_so2 (v := .long x) hL trivial) (qk_tl hst) (qk_s2 (v := .long x) hc hl') hlo h1 h2 h3 h4))) k
theorem ev_astore {i : Nat} {v : Value} (hd : decode M.2.1 pc = .ok (.astore i, 2)) (hr : qk_isr v = true) (hn : i < M.2.2.1) (hc : qk_c2 L i = true) (k : Ev d M (pc + 2) (L.set i (some v)) st w nc ns Q) : Ev d M pc L (v :: st) w nc ns Q := by
  cases v with
  | ref a => exact ev_of (fun r w' kc ks hs p l e R s m args below meth c H locs cells slots G H0 ro ρ ls X hR hL hst hl hlo h1 h2 h3 h4 => lv_astore X.1.1 X.1.2.1 hd hl hn rfl (fun ls' hl' => (hs p l e R s m args below meth c H locs cells slots G H0 ro ρ ls' X hR (qk_so hL (qk_hd hst)) (qk_tl hst) (qk_s1 (v := .ref a) hc hl') hlo h1 h2 h3 h4))) k
  | null => exact ev_of (fun r w' kc ks hs p l e R s m args below meth c H locs cells slots G H0 ro ρ ls X hR hL hst hl hlo h1 h2 h3 h4 => lv_astoreN X.1.1 X.1.2.1 hd hl hn rfl (fun ls' hl' => (hs p l e R s m args below meth c H locs cells slots G H0 ro ρ ls' X hR (qk_so (v := .null) hL trivial) (qk_tl hst) (qk_s1 (v := .null) hc hl') hlo h1 h2 h3 h4))) k
  | _ => cases hr
theorem ev_astore_n {i : Fin 4} {v : Value} (hd : decode M.2.1 pc = .ok (.astore_n i, 1)) (hr : qk_isr v = true) (hn : (i : Nat) < M.2.2.1) (hc : qk_c2 L (i : Nat) = true) (k : Ev d M (pc + 1) (L.set (i : Nat) (some v)) st w nc ns Q) : Ev d M pc L (v :: st) w nc ns Q := by
  cases v with
  | ref a => exact ev_of (fun r w' kc ks hs p l e R s m args below meth c H locs cells slots G H0 ro ρ ls X hR hL hst hl hlo h1 h2 h3 h4 => lv_astore_n X.1.1 X.1.2.1 hd rfl hl hn rfl (fun ls' hl' => (hs p l e R s m args below meth c H locs cells slots G H0 ro ρ ls' X hR (qk_so hL (qk_hd hst)) (qk_tl hst) (qk_s1 (v := .ref a) hc hl') hlo h1 h2 h3 h4))) k
  | null => exact ev_of (fun r w' kc ks hs p l e R s m args below meth c H locs cells slots G H0 ro ρ ls X hR hL hst hl hlo h1 h2 h3 h4 => lv_astore_nN X.1.1 X.1.2.1 hd rfl hl hn rfl (fun ls' hl' => (hs p l e R s m args below meth c H locs cells slots G H0 ro ρ ls' X hR (qk_so (v := .null) hL trivial) (qk_tl hst) (qk_s1 (v := .null) hc hl') hlo h1 h2 h3 h4))) k
  | _ => cases hr
theorem ev_iinc {i : Nat} {n : Int} {x : Int32} (v : Int32) (hd : decode M.2.1 pc = .ok (.iinc i n, 3)) (hv : Int32.ofInt n = v) (hl0 : L[i]? = some (some (.int x))) (hn : i < M.2.2.1) (hc : qk_c2 L i = true) (k : Ev d M (pc + 3) (L.set i (some (.int (x + v)))) st w nc ns Q) : Ev d M pc L st w nc ns Q := by
  subst hv
  refine ev_of (fun r w' kc ks hs p l e R s m args below meth c H locs cells slots G H0 ro ρ ls X hR hL hst hl hlo h1 h2 h3 h4 => ?_) k
  obtain ⟨k0, hk0⟩ := List.getElem?_of_mem (List.mem_map.mpr ⟨(i, Value.int x), qk_lp0.mpr hl0, rfl⟩ : (i, Value.int x) ∈ (qk_lp 0 L).map fun q => (q.1, qk_rv ρ q.2))
  exact lv_iinc X.1.1 X.1.2.1 hd hl hk0 rfl hn rfl (fun ls' hl' => (hs p l e R s m args below meth c H locs cells slots G H0 ro ρ ls' X hR (qk_so (v := .int (x + Int32.ofInt n)) hL trivial) hst (qk_s1 (v := .int (x + Int32.ofInt n)) hc hl') hlo h1 h2 h3 h4))
theorem ev_dup {v : Value} (hd : decode M.2.1 pc = .ok (.dup, 1)) (hv : v.category = 1) (k : Ev d M (pc + 1) L (v :: v :: st) w nc ns Q) : Ev d M pc L (v :: st) w nc ns Q :=
  ev_of (fun r w' kc ks hs p l e R s m args below meth c H locs cells slots G H0 ro ρ ls X hR hL hst hl hlo h1 h2 h3 h4 => lv_dup X.1.1 X.1.2.1 hd (by rw [qk_rv_cat]; exact hv) (hs p l e R s m args below meth c H locs cells slots G H0 ro ρ ls X hR hL (qk_cons (qk_hd hst) hst) hl hlo h1 h2 h3 h4)) k
theorem ev_pop {v : Value} (hd : decode M.2.1 pc = .ok (.pop, 1)) (hv : v.category = 1) (k : Ev d M (pc + 1) L st w nc ns Q) : Ev d M pc L (v :: st) w nc ns Q :=
  ev_of (fun r w' kc ks hs p l e R s m args below meth c H locs cells slots G H0 ro ρ ls X hR hL hst hl hlo h1 h2 h3 h4 => lv_pop X.1.1 X.1.2.1 hd (by rw [qk_rv_cat]; exact hv) (hs p l e R s m args below meth c H locs cells slots G H0 ro ρ ls X hR hL (qk_tl hst) hl hlo h1 h2 h3 h4)) k
theorem ev_dup2 {va vb : Value} (hd : decode M.2.1 pc = .ok (.dup2, 1)) (hva : va.category = 1) (hvb : vb.category = 1) (k : Ev d M (pc + 1) L (va :: vb :: va :: vb :: st) w nc ns Q) : Ev d M pc L (va :: vb :: st) w nc ns Q :=
  ev_of (fun r w' kc ks hs p l e R s m args below meth c H locs cells slots G H0 ro ρ ls X hR hL hst hl hlo h1 h2 h3 h4 => lv_dup2_11 X.1.1 X.1.2.1 hd (by rw [qk_rv_cat]; exact hva) (by rw [qk_rv_cat]; exact hvb) (hs p l e R s m args below meth c H locs cells slots G H0 ro ρ ls X hR hL (qk_cons (qk_hd hst) (qk_cons (qk_hd (qk_tl hst)) hst)) hl hlo h1 h2 h3 h4)) k
theorem ev_goto {off : Int} (tgt : Nat) (hd : decode M.2.1 pc = .ok (.goto off, 3)) (ht : (pc : Int) + off = (tgt : Int)) (k : Ev d M tgt L st w nc ns Q) : Ev d M pc L st w nc ns Q :=
  ev_of (fun r w' kc ks hs p l e R s m args below meth c H locs cells slots G H0 ro ρ ls X hR hL hst hl hlo h1 h2 h3 h4 => lv_goto X.1.1 X.1.2.1 hd ht (hs p l e R s m args below meth c H locs cells slots G H0 ro ρ ls X hR hL hst hl hlo h1 h2 h3 h4)) k
theorem ev_if_eq {x : Int32} {off : Int} (tgt : Nat) (hd : decode M.2.1 pc = .ok (.ifCond .eq off, 3)) (ht : (pc : Int) + off = (tgt : Int)) (kt : x = 0 → Ev d M tgt L st w nc ns Q) (kf : ¬ (x = 0) → Ev d M (pc + 3) L st w nc ns Q) : Ev d M pc L (.int x :: st) w nc ns Q := by
  by_cases hc : x = 0
  · exact ev_of (fun r w' kc ks hs p l e R s m args below meth c H locs cells slots G H0 ro ρ ls X hR hL hst hl hlo h1 h2 h3 h4 => lv_if_eq X.1.1 X.1.2.1 hd ht (fun _ => (hs p l e R s m args below meth c H locs cells slots G H0 ro ρ ls X hR hL (qk_tl hst) hl hlo h1 h2 h3 h4)) (fun hn => absurd hc hn)) (kt hc)
  · exact ev_of (fun r w' kc ks hs p l e R s m args below meth c H locs cells slots G H0 ro ρ ls X hR hL hst hl hlo h1 h2 h3 h4 => lv_if_eq X.1.1 X.1.2.1 hd ht (fun hn => absurd hn hc) (fun _ => (hs p l e R s m args below meth c H locs cells slots G H0 ro ρ ls X hR hL (qk_tl hst) hl hlo h1 h2 h3 h4))) (kf hc)
theorem ev_icmp_eq {x y : Int32} {off : Int} (tgt : Nat) (hd : decode M.2.1 pc = .ok (.if_icmp .eq off, 3)) (ht : (pc : Int) + off = (tgt : Int)) (kt : x = y → Ev d M tgt L st w nc ns Q) (kf : ¬ (x = y) → Ev d M (pc + 3) L st w nc ns Q) : Ev d M pc L (.int y :: .int x :: st) w nc ns Q := by
  by_cases hc : x = y
  · exact ev_of (fun r w' kc ks hs p l e R s m args below meth c H locs cells slots G H0 ro ρ ls X hR hL hst hl hlo h1 h2 h3 h4 => lv_icmp_eq X.1.1 X.1.2.1 hd ht (fun _ => (hs p l e R s m args below meth c H locs cells slots G H0 ro ρ ls X hR hL (qk_tl (qk_tl hst)) hl hlo h1 h2 h3 h4)) (fun hn => absurd hc hn)) (kt hc)
  · exact ev_of (fun r w' kc ks hs p l e R s m args below meth c H locs cells slots G H0 ro ρ ls X hR hL hst hl hlo h1 h2 h3 h4 => lv_icmp_eq X.1.1 X.1.2.1 hd ht (fun hn => absurd hn hc) (fun _ => (hs p l e R s m args below meth c H locs cells slots G H0 ro ρ ls X hR hL (qk_tl (qk_tl hst)) hl hlo h1 h2 h3 h4))) (kf hc)
theorem ev_if_ne {x : Int32} {off : Int} (tgt : Nat) (hd : decode M.2.1 pc = .ok (.ifCond .ne off, 3)) (ht : (pc : Int) + off = (tgt : Int)) (kt : ¬ x = 0 → Ev d M tgt L st w nc ns Q) (kf : x = 0 → Ev d M (pc + 3) L st w nc ns Q) : Ev d M pc L (.int x :: st) w nc ns Q := by
  by_cases hc : ¬ x = 0
  · exact ev_of (fun r w' kc ks hs p l e R s m args below meth c H locs cells slots G H0 ro ρ ls X hR hL hst hl hlo h1 h2 h3 h4 => lv_if_ne X.1.1 X.1.2.1 hd ht (fun _ => (hs p l e R s m args below meth c H locs cells slots G H0 ro ρ ls X hR hL (qk_tl hst) hl hlo h1 h2 h3 h4)) (fun hn => absurd hn hc)) (kt hc)
  · exact ev_of (fun r w' kc ks hs p l e R s m args below meth c H locs cells slots G H0 ro ρ ls X hR hL hst hl hlo h1 h2 h3 h4 => lv_if_ne X.1.1 X.1.2.1 hd ht (fun hn => absurd (Decidable.not_not.mp hc) hn) (fun _ => (hs p l e R s m args below meth c H locs cells slots G H0 ro ρ ls X hR hL (qk_tl hst) hl hlo h1 h2 h3 h4))) (kf (Decidable.not_not.mp hc))
theorem ev_icmp_ne {x y : Int32} {off : Int} (tgt : Nat) (hd : decode M.2.1 pc = .ok (.if_icmp .ne off, 3)) (ht : (pc : Int) + off = (tgt : Int)) (kt : ¬ x = y → Ev d M tgt L st w nc ns Q) (kf : x = y → Ev d M (pc + 3) L st w nc ns Q) : Ev d M pc L (.int y :: .int x :: st) w nc ns Q := by
  by_cases hc : ¬ x = y
  · exact ev_of (fun r w' kc ks hs p l e R s m args below meth c H locs cells slots G H0 ro ρ ls X hR hL hst hl hlo h1 h2 h3 h4 => lv_icmp_ne X.1.1 X.1.2.1 hd ht (fun _ => (hs p l e R s m args below meth c H locs cells slots G H0 ro ρ ls X hR hL (qk_tl (qk_tl hst)) hl hlo h1 h2 h3 h4)) (fun hn => absurd hn hc)) (kt hc)
  · exact ev_of (fun r w' kc ks hs p l e R s m args below meth c H locs cells slots G H0 ro ρ ls X hR hL hst hl hlo h1 h2 h3 h4 => lv_icmp_ne X.1.1 X.1.2.1 hd ht (fun hn => absurd (Decidable.not_not.mp hc) hn) (fun _ => (hs p l e R s m args below meth c H locs cells slots G H0 ro ρ ls X hR hL (qk_tl (qk_tl hst)) hl hlo h1 h2 h3 h4))) (kf (Decidable.not_not.mp hc))
theorem ev_if_lt {x : Int32} {off : Int} (tgt : Nat) (hd : decode M.2.1 pc = .ok (.ifCond .lt off, 3)) (ht : (pc : Int) + off = (tgt : Int)) (kt : x < 0 → Ev d M tgt L st w nc ns Q) (kf : ¬ (x < 0) → Ev d M (pc + 3) L st w nc ns Q) : Ev d M pc L (.int x :: st) w nc ns Q := by
  by_cases hc : x < 0
  · exact ev_of (fun r w' kc ks hs p l e R s m args below meth c H locs cells slots G H0 ro ρ ls X hR hL hst hl hlo h1 h2 h3 h4 => lv_if_lt X.1.1 X.1.2.1 hd ht (fun _ => (hs p l e R s m args below meth c H locs cells slots G H0 ro ρ ls X hR hL (qk_tl hst) hl hlo h1 h2 h3 h4)) (fun hn => absurd hc hn)) (kt hc)
  · exact ev_of (fun r w' kc ks hs p l e R s m args below meth c H locs cells slots G H0 ro ρ ls X hR hL hst hl hlo h1 h2 h3 h4 => lv_if_lt X.1.1 X.1.2.1 hd ht (fun hn => absurd hn hc) (fun _ => (hs p l e R s m args below meth c H locs cells slots G H0 ro ρ ls X hR hL (qk_tl hst) hl hlo h1 h2 h3 h4))) (kf hc)
theorem ev_icmp_lt {x y : Int32} {off : Int} (tgt : Nat) (hd : decode M.2.1 pc = .ok (.if_icmp .lt off, 3)) (ht : (pc : Int) + off = (tgt : Int)) (kt : x < y → Ev d M tgt L st w nc ns Q) (kf : ¬ (x < y) → Ev d M (pc + 3) L st w nc ns Q) : Ev d M pc L (.int y :: .int x :: st) w nc ns Q := by
  by_cases hc : x < y
  · exact ev_of (fun r w' kc ks hs p l e R s m args below meth c H locs cells slots G H0 ro ρ ls X hR hL hst hl hlo h1 h2 h3 h4 => lv_icmp_lt X.1.1 X.1.2.1 hd ht (fun _ => (hs p l e R s m args below meth c H locs cells slots G H0 ro ρ ls X hR hL (qk_tl (qk_tl hst)) hl hlo h1 h2 h3 h4)) (fun hn => absurd hc hn)) (kt hc)
  · exact ev_of (fun r w' kc ks hs p l e R s m args below meth c H locs cells slots G H0 ro ρ ls X hR hL hst hl hlo h1 h2 h3 h4 => lv_icmp_lt X.1.1 X.1.2.1 hd ht (fun hn => absurd hn hc) (fun _ => (hs p l e R s m args below meth c H locs cells slots G H0 ro ρ ls X hR hL (qk_tl (qk_tl hst)) hl hlo h1 h2 h3 h4))) (kf hc)
theorem ev_if_ge {x : Int32} {off : Int} (tgt : Nat) (hd : decode M.2.1 pc = .ok (.ifCond .ge off, 3)) (ht : (pc : Int) + off = (tgt : Int)) (kt : 0 ≤ x → Ev d M tgt L st w nc ns Q) (kf : ¬ (0 ≤ x) → Ev d M (pc + 3) L st w nc ns Q) : Ev d M pc L (.int x :: st) w nc ns Q := by
  by_cases hc : 0 ≤ x
  · exact ev_of (fun r w' kc ks hs p l e R s m args below meth c H locs cells slots G H0 ro ρ ls X hR hL hst hl hlo h1 h2 h3 h4 => lv_if_ge X.1.1 X.1.2.1 hd ht (fun _ => (hs p l e R s m args below meth c H locs cells slots G H0 ro ρ ls X hR hL (qk_tl hst) hl hlo h1 h2 h3 h4)) (fun hn => absurd hc hn)) (kt hc)
  · exact ev_of (fun r w' kc ks hs p l e R s m args below meth c H locs cells slots G H0 ro ρ ls X hR hL hst hl hlo h1 h2 h3 h4 => lv_if_ge X.1.1 X.1.2.1 hd ht (fun hn => absurd hn hc) (fun _ => (hs p l e R s m args below meth c H locs cells slots G H0 ro ρ ls X hR hL (qk_tl hst) hl hlo h1 h2 h3 h4))) (kf hc)
theorem ev_icmp_ge {x y : Int32} {off : Int} (tgt : Nat) (hd : decode M.2.1 pc = .ok (.if_icmp .ge off, 3)) (ht : (pc : Int) + off = (tgt : Int)) (kt : y ≤ x → Ev d M tgt L st w nc ns Q) (kf : ¬ (y ≤ x) → Ev d M (pc + 3) L st w nc ns Q) : Ev d M pc L (.int y :: .int x :: st) w nc ns Q := by
  by_cases hc : y ≤ x
  · exact ev_of (fun r w' kc ks hs p l e R s m args below meth c H locs cells slots G H0 ro ρ ls X hR hL hst hl hlo h1 h2 h3 h4 => lv_icmp_ge X.1.1 X.1.2.1 hd ht (fun _ => (hs p l e R s m args below meth c H locs cells slots G H0 ro ρ ls X hR hL (qk_tl (qk_tl hst)) hl hlo h1 h2 h3 h4)) (fun hn => absurd hc hn)) (kt hc)
  · exact ev_of (fun r w' kc ks hs p l e R s m args below meth c H locs cells slots G H0 ro ρ ls X hR hL hst hl hlo h1 h2 h3 h4 => lv_icmp_ge X.1.1 X.1.2.1 hd ht (fun hn => absurd hn hc) (fun _ => (hs p l e R s m args below meth c H locs cells slots G H0 ro ρ ls X hR hL (qk_tl (qk_tl hst)) hl hlo h1 h2 h3 h4))) (kf hc)
theorem ev_if_gt {x : Int32} {off : Int} (tgt : Nat) (hd : decode M.2.1 pc = .ok (.ifCond .gt off, 3)) (ht : (pc : Int) + off = (tgt : Int)) (kt : 0 < x → Ev d M tgt L st w nc ns Q) (kf : ¬ (0 < x) → Ev d M (pc + 3) L st w nc ns Q) : Ev d M pc L (.int x :: st) w nc ns Q := by
  by_cases hc : 0 < x
  · exact ev_of (fun r w' kc ks hs p l e R s m args below meth c H locs cells slots G H0 ro ρ ls X hR hL hst hl hlo h1 h2 h3 h4 => lv_if_gt X.1.1 X.1.2.1 hd ht (fun _ => (hs p l e R s m args below meth c H locs cells slots G H0 ro ρ ls X hR hL (qk_tl hst) hl hlo h1 h2 h3 h4)) (fun hn => absurd hc hn)) (kt hc)
  · exact ev_of (fun r w' kc ks hs p l e R s m args below meth c H locs cells slots G H0 ro ρ ls X hR hL hst hl hlo h1 h2 h3 h4 => lv_if_gt X.1.1 X.1.2.1 hd ht (fun hn => absurd hn hc) (fun _ => (hs p l e R s m args below meth c H locs cells slots G H0 ro ρ ls X hR hL (qk_tl hst) hl hlo h1 h2 h3 h4))) (kf hc)
theorem ev_icmp_gt {x y : Int32} {off : Int} (tgt : Nat) (hd : decode M.2.1 pc = .ok (.if_icmp .gt off, 3)) (ht : (pc : Int) + off = (tgt : Int)) (kt : y < x → Ev d M tgt L st w nc ns Q) (kf : ¬ (y < x) → Ev d M (pc + 3) L st w nc ns Q) : Ev d M pc L (.int y :: .int x :: st) w nc ns Q := by
  by_cases hc : y < x
  · exact ev_of (fun r w' kc ks hs p l e R s m args below meth c H locs cells slots G H0 ro ρ ls X hR hL hst hl hlo h1 h2 h3 h4 => lv_icmp_gt X.1.1 X.1.2.1 hd ht (fun _ => (hs p l e R s m args below meth c H locs cells slots G H0 ro ρ ls X hR hL (qk_tl (qk_tl hst)) hl hlo h1 h2 h3 h4)) (fun hn => absurd hc hn)) (kt hc)
  · exact ev_of (fun r w' kc ks hs p l e R s m args below meth c H locs cells slots G H0 ro ρ ls X hR hL hst hl hlo h1 h2 h3 h4 => lv_icmp_gt X.1.1 X.1.2.1 hd ht (fun hn => absurd hn hc) (fun _ => (hs p l e R s m args below meth c H locs cells slots G H0 ro ρ ls X hR hL (qk_tl (qk_tl hst)) hl hlo h1 h2 h3 h4))) (kf hc)
theorem ev_if_le {x : Int32} {off : Int} (tgt : Nat) (hd : decode M.2.1 pc = .ok (.ifCond .le off, 3)) (ht : (pc : Int) + off = (tgt : Int)) (kt : x ≤ 0 → Ev d M tgt L st w nc ns Q) (kf : ¬ (x ≤ 0) → Ev d M (pc + 3) L st w nc ns Q) : Ev d M pc L (.int x :: st) w nc ns Q := by
  by_cases hc : x ≤ 0
  · exact ev_of (fun r w' kc ks hs p l e R s m args below meth c H locs cells slots G H0 ro ρ ls X hR hL hst hl hlo h1 h2 h3 h4 => lv_if_le X.1.1 X.1.2.1 hd ht (fun _ => (hs p l e R s m args below meth c H locs cells slots G H0 ro ρ ls X hR hL (qk_tl hst) hl hlo h1 h2 h3 h4)) (fun hn => absurd hc hn)) (kt hc)
  · exact ev_of (fun r w' kc ks hs p l e R s m args below meth c H locs cells slots G H0 ro ρ ls X hR hL hst hl hlo h1 h2 h3 h4 => lv_if_le X.1.1 X.1.2.1 hd ht (fun hn => absurd hn hc) (fun _ => (hs p l e R s m args below meth c H locs cells slots G H0 ro ρ ls X hR hL (qk_tl hst) hl hlo h1 h2 h3 h4))) (kf hc)
theorem ev_icmp_le {x y : Int32} {off : Int} (tgt : Nat) (hd : decode M.2.1 pc = .ok (.if_icmp .le off, 3)) (ht : (pc : Int) + off = (tgt : Int)) (kt : x ≤ y → Ev d M tgt L st w nc ns Q) (kf : ¬ (x ≤ y) → Ev d M (pc + 3) L st w nc ns Q) : Ev d M pc L (.int y :: .int x :: st) w nc ns Q := by
  by_cases hc : x ≤ y
  · exact ev_of (fun r w' kc ks hs p l e R s m args below meth c H locs cells slots G H0 ro ρ ls X hR hL hst hl hlo h1 h2 h3 h4 => lv_icmp_le X.1.1 X.1.2.1 hd ht (fun _ => (hs p l e R s m args below meth c H locs cells slots G H0 ro ρ ls X hR hL (qk_tl (qk_tl hst)) hl hlo h1 h2 h3 h4)) (fun hn => absurd hc hn)) (kt hc)
  · exact ev_of (fun r w' kc ks hs p l e R s m args below meth c H locs cells slots G H0 ro ρ ls X hR hL hst hl hlo h1 h2 h3 h4 => lv_icmp_le X.1.1 X.1.2.1 hd ht (fun hn => absurd hn hc) (fun _ => (hs p l e R s m args below meth c H locs cells slots G H0 ro ρ ls X hR hL (qk_tl (qk_tl hst)) hl hlo h1 h2 h3 h4))) (kf hc)
theorem ev_ifnull_r {a : Nat} {off : Int} (hd : decode M.2.1 pc = .ok (.ifnull off, 3)) (k : Ev d M (pc + 3) L st w nc ns Q) : Ev d M pc L (.ref a :: st) w nc ns Q :=
  ev_of (fun r w' kc ks hs p l e R s m args below meth c H locs cells slots G H0 ro ρ ls X hR hL hst hl hlo h1 h2 h3 h4 => lv_ifnull X.1.1 X.1.2.1 hd (hs p l e R s m args below meth c H locs cells slots G H0 ro ρ ls X hR hL (qk_tl hst) hl hlo h1 h2 h3 h4)) k
theorem ev_ifnull_n {off : Int} (tgt : Nat) (hd : decode M.2.1 pc = .ok (.ifnull off, 3)) (ht : (pc : Int) + off = (tgt : Int)) (k : Ev d M tgt L st w nc ns Q) : Ev d M pc L (.null :: st) w nc ns Q :=
  ev_of (fun r w' kc ks hs p l e R s m args below meth c H locs cells slots G H0 ro ρ ls X hR hL hst hl hlo h1 h2 h3 h4 => lv_ifnullN X.1.1 X.1.2.1 hd ht (hs p l e R s m args below meth c H locs cells slots G H0 ro ρ ls X hR hL (qk_tl hst) hl hlo h1 h2 h3 h4)) k
theorem ev_ifnonnull_r {a : Nat} {off : Int} (tgt : Nat) (hd : decode M.2.1 pc = .ok (.ifnonnull off, 3)) (ht : (pc : Int) + off = (tgt : Int)) (k : Ev d M tgt L st w nc ns Q) : Ev d M pc L (.ref a :: st) w nc ns Q :=
  ev_of (fun r w' kc ks hs p l e R s m args below meth c H locs cells slots G H0 ro ρ ls X hR hL hst hl hlo h1 h2 h3 h4 => lv_ifnonnull X.1.1 X.1.2.1 hd ht (hs p l e R s m args below meth c H locs cells slots G H0 ro ρ ls X hR hL (qk_tl hst) hl hlo h1 h2 h3 h4)) k
theorem ev_ifnonnull_n {off : Int} (hd : decode M.2.1 pc = .ok (.ifnonnull off, 3)) (k : Ev d M (pc + 3) L st w nc ns Q) : Ev d M pc L (.null :: st) w nc ns Q :=
  ev_of (fun r w' kc ks hs p l e R s m args below meth c H locs cells slots G H0 ro ρ ls X hR hL hst hl hlo h1 h2 h3 h4 => lv_ifnonnullN X.1.1 X.1.2.1 hd (hs p l e R s m args below meth c H locs cells slots G H0 ro ρ ls X hR hL (qk_tl hst) hl hlo h1 h2 h3 h4)) k
theorem ev_swOut {dflt lo hi : Int} {offs : Array Int} {len : Nat} {x : Int32} (tgt : Nat) (hd : decode M.2.1 pc = .ok (.tableswitch dflt lo hi offs, len)) (h : x.toInt < lo ∨ hi < x.toInt) (ht : (pc : Int) + dflt = (tgt : Int)) (k : Ev d M tgt L st w nc ns Q) : Ev d M pc L (.int x :: st) w nc ns Q :=
  ev_of (fun r w' kc ks hs p l e R s m args below meth c H locs cells slots G H0 ro ρ ls X hR hL hst hl hlo h1 h2 h3 h4 => lv_tableOut X.1.1 X.1.2.1 hd h ht (hs p l e R s m args below meth c H locs cells slots G H0 ro ρ ls X hR hL (qk_tl hst) hl hlo h1 h2 h3 h4)) k
theorem ev_swIn {dflt lo hi : Int} {offs : Array Int} {len : Nat} {x : Int32} {off : Int} (tgt : Nat) (hd : decode M.2.1 pc = .ok (.tableswitch dflt lo hi offs, len)) (h : ¬ x.toInt < lo) (hh : ¬ hi < x.toInt) (ho : offs[(x.toInt - lo).toNat]? = some off) (ht : (pc : Int) + off = (tgt : Int)) (k : Ev d M tgt L st w nc ns Q) : Ev d M pc L (.int x :: st) w nc ns Q :=
  ev_of (fun r w' kc ks hs p l e R s m args below meth c H locs cells slots G H0 ro ρ ls X hR hL hst hl hlo h1 h2 h3 h4 => lv_tableIn X.1.1 X.1.2.1 hd h hh ho ht (hs p l e R s m args below meth c H locs cells slots G H0 ro ρ ls X hR hL (qk_tl hst) hl hlo h1 h2 h3 h4)) k
theorem ev_ldc {i : Nat} (v : Int32) (hd : decode M.2.1 pc = .ok (.ldc i, 2)) (hw : Cond.constant M.1.cls i v ∈ lw_tbl) (k : Ev d M (pc + 2) L (.int v :: st) w nc ns Q) : Ev d M pc L st w nc ns Q :=
  ev_of (fun r w' kc ks hs p l e R s m args below meth c H locs cells slots G H0 ro ρ ls X hR hL hst hl hlo h1 h2 h3 h4 => lv_ldc X.1.1 X.1.2.1 X.1.2.2.2.2.1 (X.2.2.1.2.1 _ hw rfl args) hd (hs p l e R s m args below meth c H locs cells slots G H0 ro ρ ls X hR hL (qk_cons (v := .int v) trivial hst) hl hlo h1 h2 h3 h4)) k
theorem ev_ldc_w {i : Nat} (v : Int32) (hd : decode M.2.1 pc = .ok (.ldc_w i, 3)) (hw : Cond.constant M.1.cls i v ∈ lw_tbl) (k : Ev d M (pc + 3) L (.int v :: st) w nc ns Q) : Ev d M pc L st w nc ns Q :=
  ev_of (fun r w' kc ks hs p l e R s m args below meth c H locs cells slots G H0 ro ρ ls X hR hL hst hl hlo h1 h2 h3 h4 => lv_ldcw X.1.1 X.1.2.1 X.1.2.2.2.2.1 (X.2.2.1.2.1 _ hw rfl args) hd (hs p l e R s m args below meth c H locs cells slots G H0 ro ρ ls X hR hL (qk_cons (v := .int v) trivial hst) hl hlo h1 h2 h3 h4)) k
theorem ev_ldc2 {i : Nat} (v : Int64) (hd : decode M.2.1 pc = .ok (.ldc2_w i, 3)) (hw : Cond.constantLong M.1.cls i v ∈ lw_tbl) (k : Ev d M (pc + 3) L (.long v :: st) w nc ns Q) : Ev d M pc L st w nc ns Q :=
  ev_of (fun r w' kc ks hs p l e R s m args below meth c H locs cells slots G H0 ro ρ ls X hR hL hst hl hlo h1 h2 h3 h4 => lv_ldc2 X.1.1 X.1.2.1 X.1.2.2.2.2.1 (X.2.2.1.2.1 _ hw rfl args) hd (hs p l e R s m args below meth c H locs cells slots G H0 ro ρ ls X hR hL (qk_cons (v := .long v) trivial hst) hl hlo h1 h2 h3 h4)) k
theorem ev_drop {L' : List (Option Value)} (h : ∀ (j : Nat) (v : Value), L'[j]? = some (some v) → L[j]? = some (some v)) (k : Ev d M pc L' st w nc ns Q) : Ev d M pc L st w nc ns Q :=
  ev_of (fun r w' kc ks hs p l e R s m args below meth c H locs cells slots G H0 ro ρ ls X hR hL hst hl hlo h1 h2 h3 h4 => (hs p l e R s m args below meth c H locs cells slots G H0 ro ρ ls X hR (fun q hq => hL q (qk_lp0.mpr (h q.1 q.2 (qk_lp0.mp hq)))) hst (qk_sub hl (fun q hq => by obtain ⟨q0, hq0, rfl⟩ := List.mem_map.mp hq; exact List.mem_map.mpr ⟨q0, qk_lp0.mpr (h q0.1 q0.2 (qk_lp0.mp hq0)), rfl⟩)) hlo h1 h2 h3 h4)) k
theorem ev_top {x : Int32} (k : ∀ y : Int32, y = x → Ev d M pc L (.int y :: st) w nc ns Q) : Ev d M pc L (.int x :: st) w nc ns Q := k x rfl
theorem ev_as {x y : Int32} (h : x = y) (k : Ev d M pc L (.int y :: st) w nc ns Q) : Ev d M pc L (.int x :: st) w nc ns Q := h ▸ k
theorem ev_asl {x y : Int64} (h : x = y) (k : Ev d M pc L (.long y :: st) w nc ns Q) : Ev d M pc L (.long x :: st) w nc ns Q := h ▸ k
theorem ev_mono {Q' : Option Value ⊕ Nat → qk_W → Nat → Nat → Prop} (h : ∀ r w' a b, Q' r w' a b → Q r w' a b) (k : Ev d M pc L st w nc ns Q') : Ev d M pc L st w nc ns Q := by
  obtain ⟨r, w', kc, ks, hq, hs⟩ := k
  exact ⟨r, w', kc, ks, h _ _ _ _ hq, hs⟩
end Rules
end
section
/-! ===== rules: the heap ===== -/
theorem qk_Wm {p : Program} {l : Launch} {e : Env} {R : Room} {s : State} {m : MethodId} {args : Array Value} {below : List Frame} {meth : Method} {c : Code} {H : Heap} {locs : List Loc} {cells slots : Nat} {Q Q' : State → Prop} {g : JFrame} (h : ∀ t, Q t → Q' t) (k : W p l e R s m args below meth c H locs cells slots Q g) : W p l e R s m args below meth c H locs cells slots Q' g := by
  intro T hT X
  obtain ⟨t, a, b⟩ := k T hT X
  exact ⟨t, a, h t b⟩
theorem qk_Em {G : qk_G} {H0 : Heap} {ro : qk_O} {ρ ρ1 : Nat → Nat} {w w1 w' : qk_W} {s : State} {below : List Frame} {r : Option Value ⊕ Nat} {mc ms : Nat} (hd : ∀ v, w v ≠ none → ρ1 v = ρ v ∧ w1 v ≠ none) (h16 : ∀ v, v < 16 → ρ1 v = ρ v) {t : State} (h : qk_E G H0 ro ρ1 w1 s below r w' mc ms t) : qk_E G H0 ro ρ w s below r w' mc ms t := by
  obtain ⟨o, ρ', L, a1, a2, a3, a4, a5, a6⟩ := h
  refine ⟨o, ρ', L, a1, a2, a3, fun v hv => ?_, fun v hv => (a5 v hv).trans (h16 v hv), a6⟩
  obtain ⟨b1, b2⟩ := hd v hv
  obtain ⟨c1, c2⟩ := a4 v b2
  exact ⟨c1.trans b1, c2⟩
theorem qk_atns {D : va_G} {cl : List vw_C} {q : Nat × va_E} {H : Heap} (h : va_at D cl q H) : ∀ cell, H[q.1]? = some cell → cell.vm.isStatics = false := by
  intro cell hc
  obtain ⟨a, e⟩ := q
  cases e with
  | inl x =>
    have h1 : H[a]? = some (vp_cell x.1 x.2) := h
    rw [show H[a]? = some cell from hc] at h1
    cases h1
    obtain ⟨cA, n, z⟩ := x
    rcases z with f | f | f | f | f <;> rfl
  | inr o =>
    obtain ⟨r, h1, c2, g1, g2, g3, -⟩ := h
    rw [show H[a]? = some cell from hc] at g1
    cases g1
    rw [g3]; rfl
theorem qk_Rlt {G : qk_G} {H0 : Heap} {ro : qk_O} {ρ : Nat → Nat} {w : qk_W} {H : Heap} (hR : qk_R G H0 ro ρ w H) {v : Nat} (h16 : 16 ≤ v) (hv : w v ≠ none) : ρ v < H.size := by
  cases he : w v with
  | none => exact absurd he hv
  | some e => exact (hR.2.2.1 v e h16 he).2.1.lt
theorem qk_Rset {G : qk_G} {H0 : Heap} {ro : qk_O} {ρ : Nat → Nat} {w : qk_W} {H H' : Heap} {a : Nat} {e : qk_C} (hR : qk_R G H0 ro ρ w H) (ha : 16 ≤ a) (hw : w a ≠ none) (hz : H'.size = H.size) (oq : ∀ q, q ≠ ρ a → H'[q]? = H[q]?)
    (he : va_at G.1 qcl (ρ a, qk_re ρ G.2 e) H') (ho : qk_okC w e) : qk_R G H0 ro ρ (qk_set w a e) H' := by
  obtain ⟨⟨r1, r2, r3⟩, r4, r5, r6⟩ := hR
  have hlo : H0.size ≤ ρ a := by
    cases h0 : w a with
    | none => exact absurd h0 hw
    | some e0 => exact (r5 a e0 ha h0).1
  have hsm : ∀ v, w v ≠ none → qk_set w a e v ≠ none := fun v hv => qk_set_some hv
  have hsb : ∀ v, qk_set w a e v ≠ none → w v ≠ none := by
    intro v hv
    by_cases h : v = a
    · rw [h]; exact hw
    · rwa [qk_set_ne h] at hv
  refine ⟨⟨by rw [hz]; exact r1, fun q hq => ?_, fun q cell hq hc => ?_⟩, fun v hv => ?_, fun v e' hv h => ?_, fun v v' hv hv' h h' hvv => r6 v v' hv hv' (hsb v h) (hsb v' h') hvv⟩
  · rw [oq q (by omega)]; exact r2 q hq
  · by_cases h : q = ρ a
    · subst h
      exact qk_atns he cell hc
    · rw [oq q h] at hc
      exact r3 q cell hq hc
  · rw [qk_set_ne (by omega)]; exact r4 v hv
  · by_cases hva : v = a
    · subst hva
      rw [qk_set_eq] at h
      cases h
      exact ⟨hlo, he, qk_okC_mono hsm ho⟩
    · rw [qk_set_ne hva] at h
      obtain ⟨g1, g2, g3⟩ := r5 v e' hv h
      refine ⟨g1, g2.kept (oq _ (fun hh => hva (r6 v a hv ha (by rw [h]; exact fun h => by cases h) hw hh))), qk_okC_mono hsm g3⟩
theorem qk_up_dom {ρ : Nat → Nat} {w : qk_W} {v n : Nat} (hn : w v = none) : ∀ u, w u ≠ none → va_up ρ v n u = ρ u := by
  intro u hu
  have : u ≠ v := fun h => hu (by rw [h]; exact hn)
  simp [va_up, this]
theorem qk_Rnew {G : qk_G} {H0 : Heap} {ro : qk_O} {ρ : Nat → Nat} {w : qk_W} {H H' : Heap} {v : Nat} {e : qk_C} (hR : qk_R G H0 ro ρ w H) (hv : 16 ≤ v) (hn : w v = none) (hz : H'.size = H.size + 1) (oq : ∀ q, q < H.size → H'[q]? = H[q]?)
    (he : va_at G.1 qcl (H.size, qk_re (va_up ρ v H.size) G.2 e) H') (ho : qk_okC w e) : qk_R G H0 ro (va_up ρ v H.size) (qk_set w v e) H' := by
  have hlt : ∀ u, 16 ≤ u → w u ≠ none → ρ u < H.size := fun u h1 h2 => qk_Rlt hR h1 h2
  obtain ⟨⟨r1, r2, r3⟩, r4, r5, r6⟩ := hR
  have hsm : ∀ u, w u ≠ none → qk_set w v e u ≠ none := fun u hu => qk_set_some hu
  have hup := qk_up_dom (ρ := ρ) (n := H.size) hn
  have hvv : va_up ρ v H.size v = H.size := by simp [va_up]
  refine ⟨⟨by omega, fun q hq => by rw [oq q (by omega)]; exact r2 q hq, fun q cell hq hc => ?_⟩, fun u hu => by rw [qk_set_ne (by omega)]; exact r4 u hu, fun u e' hu h => ?_, fun u u' hu hu' h h' huu => ?_⟩
  · by_cases h : q < H.size
    · rw [oq q h] at hc; exact r3 q cell hq hc
    · have hl : q < H'.size := (Array.getElem?_eq_some_iff.mp hc).1
      have : q = H.size := by omega
      subst this
      exact qk_atns he cell hc
  · by_cases huv : u = v
    · subst huv
      rw [qk_set_eq] at h
      cases h
      rw [hvv]
      exact ⟨r1, he, qk_okC_mono hsm ho⟩
    · rw [qk_set_ne huv] at h
      obtain ⟨g1, g2, g3⟩ := r5 u e' hu h
      have hd : w u ≠ none := by rw [h]; exact fun h => by cases h
      rw [hup u hd, qk_re_congr G.2 hup g3]
      exact ⟨g1, g2.kept (oq _ g2.lt), qk_okC_mono hsm g3⟩
  · have key : ∀ u, 16 ≤ u → qk_set w v e u ≠ none → (u = v ∧ va_up ρ v H.size u = H.size) ∨ (w u ≠ none ∧ va_up ρ v H.size u = ρ u ∧ ρ u < H.size) := by
      intro u hu h
      by_cases huv : u = v
      · exact Or.inl ⟨huv, by rw [huv]; exact hvv⟩
      · rw [qk_set_ne huv] at h
        exact Or.inr ⟨h, hup u h, hlt u hu h⟩
    rcases key u hu h with ⟨a1, a2⟩ | ⟨a1, a2, a3⟩ <;> rcases key u' hu' h' with ⟨b1, b2⟩ | ⟨b1, b2, b3⟩
    · rw [a1, b1]
    · omega
    · omega
    · exact r6 u u' hu hu' a1 b1 (by omega)
theorem qk_Kup {G : qk_G} {H0 : Heap} {ro : qk_O} {ρ ρ' : Nat → Nat} {U : State} (h : qk_K G H0 ro ρ U) (h16 : ∀ v, v < 16 → ρ' v = ρ v) : qk_K G H0 ro ρ' U := by
  obtain ⟨k1, k2, k3, k4, k5⟩ := h
  refine ⟨k1, k2, by rw [h16 1 (by omega)]; exact k3, by rw [h16 2 (by omega)]; exact k4, fun v n f hv => ?_⟩
  obtain ⟨a1, a2, a3⟩ := k5 v n f hv
  rw [h16 v a1]
  exact ⟨a1, a2, a3⟩
theorem qk_map_congr {ρ ρ' : Nat → Nat} {w : qk_W} (h : ∀ v, w v ≠ none → ρ' v = ρ v) {st : List Value} (hs : ∀ x ∈ st, qk_ok w x) : st.map (qk_rv ρ') = st.map (qk_rv ρ) := List.map_congr_left fun x hx => qk_rv_congr h (hs x hx)
theorem qk_lmap_congr {ρ ρ' : Nat → Nat} {w : qk_W} (h : ∀ v, w v ≠ none → ρ' v = ρ v) {L : List (Option Value)} (hs : ∀ q ∈ qk_lp 0 L, qk_ok w q.2) : ((qk_lp 0 L).map fun q => (q.1, qk_rv ρ' q.2)) = ((qk_lp 0 L).map fun q => (q.1, qk_rv ρ q.2)) := List.map_congr_left fun q hq => by rw [qk_rv_congr h (hs q hq)]
/-- the field words of a class -/
theorem qk_lays {ci : Nat} {q : vw_C} (hc : qcl[ci]? = some q) : ∀ w ∈ u_ws q.1 q.2.1 q.2.2, w ∈ lw_tbl ∧ qk_gw w = true := by
  intro w hw
  have hci : ci < 15 := (List.getElem?_eq_some_iff.mp hc).1
  have h1 := List.all_eq_true.mp qcl_ix ci (List.mem_range.mpr hci)
  rw [hc] at h1
  obtain ⟨k, hk, rfl⟩ := List.mem_map.mp hw
  cases hx : qix[ci]? with
  | none => rw [hx] at h1; cases h1
  | some l =>
    rw [hx] at h1
    have h2 := List.all_eq_true.mp h1 k hk
    exact ⟨List.mem_of_getElem? (of_decide_eq_true h2), by unfold u_lay; split <;> rfl⟩
theorem qk_types {ci : Nat} {q : vw_C} (hc : qcl[ci]? = some q) : ∃ y, qcy[ci]? = some y ∧ ∀ k, k < q.2.2 → parseFieldDescriptor (q.2.1 k).2.2.1 = some (y k) := by
  have hci : ci < 15 := (List.getElem?_eq_some_iff.mp hc).1
  have h1 := List.all_eq_true.mp qcl_ty ci (List.mem_range.mpr hci)
  rw [hc] at h1
  cases hx : qcy[ci]? with
  | none => rw [hx] at h1; cases h1
  | some y =>
    rw [hx] at h1
    exact ⟨y, rfl, fun k hk => of_decide_eq_true (List.all_eq_true.mp h1 k (List.mem_range.mpr hk))⟩
theorem qk_names {ci : Nat} {q : vw_C} (hc : qcl[ci]? = some q) : ∀ a, a < q.2.2 → ∀ b, b < q.2.2 → a ≠ b → (q.2.1 a).2.1 ≠ (q.2.1 b).2.1 := by
  intro a ha b hb hab
  have hci : ci < 15 := (List.getElem?_eq_some_iff.mp hc).1
  have h1 := List.all_eq_true.mp qcl_nm ci (List.mem_range.mpr hci)
  rw [hc] at h1
  have h2 := of_decide_eq_true (List.all_eq_true.mp (List.all_eq_true.mp h1 a (List.mem_range.mpr ha)) b (List.mem_range.mpr hb))
  exact h2.resolve_left hab
theorem qk_inst {ci : Nat} {q : vw_C} (hc : qcl[ci]? = some q) (h12 : ci < 12) : Cond.instantiable q.1 q.2.2 ∈ lw_tbl ∧ Cond.initialized q.1 ∈ lw_tbl := by
  have hci : ci < 15 := by omega
  have h1 := List.all_eq_true.mp qcl_in ci (List.mem_range.mpr hci)
  rw [hc] at h1
  cases hx : qni[ci]? with
  | none => rw [hx] at h1; cases h1
  | some z =>
    rw [hx] at h1
    simp only [Bool.and_eq_true, Bool.or_eq_true, decide_eq_true_eq] at h1
    have h2 : z.1 = q.2.2 := h1.2.resolve_right (by omega)
    exact ⟨List.mem_of_getElem? (by rw [h1.1.1, h2]), List.mem_of_getElem? h1.1.2⟩
/-- field k of class ci, by entry idx of own's pool -/
def qk_fl (own : String) (idx ci k : Nat) : Prop := ∃ q : vw_C, qcl[ci]? = some q ∧ k < q.2.2 ∧ (q.2.1 k).1 = q.1 ∧ Cond.fieldLink own idx q.1 (q.2.1 k).2.1 (q.2.1 k).2.2.1 ∈ lw_tbl
def qk_ffin (ci k : Nat) : Bool := match qcl[ci]? with | some q => (q.2.1 k).2.2.2 | none => false
def qk_fty (ci k : Nat) : FieldType := match qcy[ci]? with | some y => y k | none => .int
def qk_fit (ty : FieldType) (v : Value) : Bool := decide (narrow ty v = v) && fits ty v
theorem qk_fit_rv {ty : FieldType} {v : Value} (ρ : Nat → Nat) (h : qk_fit ty v = true) : narrow ty (qk_rv ρ v) = qk_rv ρ v ∧ fits ty (qk_rv ρ v) = true := by
  simp only [qk_fit, Bool.and_eq_true, decide_eq_true_eq] at h
  cases v with
  | ref a =>
    have h2 := h.2
    cases ty <;> first | (cases h2; done) | exact ⟨rfl, rfl⟩
  | _ => exact h
section Heap
variable {d : Nat} {M : qk_M} {pc : Nat} {L : List (Option Value)} {st : List Value} {w : qk_W} {nc ns : Nat} {Q : Option Value ⊕ Nat → qk_W → Nat → Nat → Prop}
theorem ev_to {pc' : Nat} {L' : List (Option Value)} {st' : List Value} {w1 : qk_W} {dc ds : Nat} (h : ∀ r w' kc ks, qk_S d M pc' L' st' w1 r w' kc ks → qk_S d M pc L st w r w' (dc + kc) (ds + ks)) (k : Ev d M pc' L' st' w1 (nc + dc) (ns + ds) Q) : Ev d M pc L st w nc ns Q := by
  obtain ⟨r, w', kc, ks, hq, hs⟩ := k
  exact ⟨r, w', dc + kc, ds + ks, by rw [← Nat.add_assoc, ← Nat.add_assoc]; exact hq, h _ _ _ _ hs⟩
theorem ev_set {pc' : Nat} {L' : List (Option Value)} {st' : List Value} {w1 : qk_W} (h : ∀ r w' kc ks, qk_S d M pc' L' st' w1 r w' kc ks → qk_S d M pc L st w r w' kc ks) (k : Ev d M pc' L' st' w1 nc ns Q) : Ev d M pc L st w nc ns Q := by
  obtain ⟨r, w', kc, ks, hq, hs⟩ := k
  exact ⟨r, w', kc, ks, hq, h _ _ _ _ hs⟩
theorem ev_getf {idx ci k a : Nat} {fs : List Value} {v : Value} (hd : decode M.2.1 pc = .ok (.getfield idx, 3)) (hf : qk_fl M.1.cls idx ci k) (ha : 16 ≤ a) (hw : w a = some (.inr (ci, fs))) (hv : fs[k]? = some v) (kk : Ev d M (pc + 3) L (v :: st) w nc ns Q) : Ev d M pc L (.ref a :: st) w nc ns Q := by
  refine ev_of (fun r w' kc ks hs p l e R s m args below meth c H locs cells slots G H0 ro ρ ls X hR hL hst hl hlo h1 h2 h3 h4 => ?_) kk
  obtain ⟨q, hc, hk, ho, hw2⟩ := hf
  obtain ⟨g1, g2, g3⟩ := hR.2.2.1 a _ ha hw
  obtain ⟨C, T, N⟩ := q
  have hts : ∀ x ∈ u_ws C T N, x.before args s = true := fun x hx => X.2.2.1.2.1 x (qk_lays hc x hx).1 (qk_lays hc x hx).2 args
  refine va_get (ws := [(ρ a, qk_re ρ G.2 (.inr (ci, fs)))]) (v := qk_rv ρ v) X.1.1 X.1.2.1 hts (fun _ h => h) X.1.2.2.2.2.1 X.2.2.1.1 (fun k0 q0 h0 => ?_) 0 rfl hc k hk (X.2.2.1.2.1 _ hw2 rfl args) (fun x hx => by rw [ho] at hx; exact hx) (by rw [List.getElem?_map, hv]; rfl) hd (hs p l e R s m args below meth c H locs cells slots G H0 ro ρ ls X hR hL (qk_cons (g3 v (List.mem_of_getElem? hv)) (qk_tl hst)) hl hlo h1 h2 h3 h4)
  have : k0 = 0 := by
    have := (List.getElem?_eq_some_iff.mp h0).1
    simp at this; omega
  subst this
  cases h0
  exact g2
end Heap
end
section
/-! ===== rules: stores, arrays, new ===== -/
section Heap2
variable {d : Nat} {M : qk_M} {pc : Nat} {L : List (Option Value)} {st : List Value} {w : qk_W} {nc ns : Nat} {Q : Option Value ⊕ Nat → qk_W → Nat → Nat → Prop}
theorem qk_fs_set {ρ : Nat → Nat} {fs : List Value} {k : Nat} {v : Value} (hl : k < fs.length) (j : Nat) : updV (vp_V (fs.map (qk_rv ρ))) k (qk_rv ρ v) j = vp_V ((fs.set k v).map (qk_rv ρ)) j := by
  rw [vp_updV_set (by rw [List.length_map]; exact hl), List.map_set]
theorem qk_ok_set {fs : List Value} {k ci : Nat} {v : Value} (hf : qk_okC w (.inr (ci, fs))) (hv : qk_ok w v) : qk_okC w (.inr (ci, fs.set k v)) := by
  intro x hx
  rcases List.mem_or_eq_of_mem_set hx with h | h
  · exact hf x h
  · rw [h]; exact hv
theorem ev_putf {idx ci k a : Nat} {fs : List Value} {v : Value} (hd : decode M.2.1 pc = .ok (.putfield idx, 3)) (hf : qk_fl M.1.cls idx ci k) (hfin : qk_ffin ci k = false) (ha : 16 ≤ a) (hw : w a = some (.inr (ci, fs))) (hl0 : k < fs.length) (hv : qk_fit (qk_fty ci k) v = true)
    (kk : Ev d M (pc + 3) L st (qk_set w a (.inr (ci, fs.set k v))) nc ns Q) : Ev d M pc L (v :: .ref a :: st) w nc ns Q := by
  refine ev_set (fun r w' kc ks hs p l e R s m args below meth c H locs cells slots G H0 ro ρ ls X hR hL hst hl hlo h1 h2 h3 h4 => ?_) kk
  obtain ⟨q, hc, hk, ho, hw2⟩ := hf
  obtain ⟨g1, g2, g3⟩ := hR.2.2.1 a _ ha hw
  obtain ⟨C, T, N⟩ := q
  have hts : ∀ x ∈ u_ws C T N, x.before args s = true := fun x hx => X.2.2.1.2.1 x (qk_lays hc x hx).1 (qk_lays hc x hx).2 args
  obtain ⟨y, hy, hty⟩ := qk_types hc
  have hK := X.2.2.1.1
  have hap := va_apart (own := M.1.cls) hts (fun _ h => h) y hty (qk_names hc) hK hc
  obtain ⟨r0, hr0, cell, q1, q2, q3, q4⟩ := g2
  have hr : r0 = (C, T, N) := Option.some.inj (hr0.symm.trans hc)
  subst hr
  obtain ⟨hS, hfc, kC, hkC, hkind⟩ := hK.1 ci _ hc
  obtain ⟨cf, kf, fi, f, hi, hsl⟩ := hS k hk
  have hlay := hts _ (u_in_lay hk)
  unfold u_lay at hlay
  rw [if_neg (by simp only [qk_ffin, hc] at hfin; rw [hfin]; decide)] at hlay
  have hst0 := (u_facts hfc hkC (u_lays hts (fun _ h => h) hk) hi).1
  obtain ⟨n1, n2⟩ := qk_fit_rv ρ hv
  simp only [qk_fty, hy] at n1 n2
  have h6 := u_store hfc hkC hkind hlay hi (hty k hk) n1 n2
  refine W.putK X.1.1 X.1.2.1 (f := f) ⟨X.1.2.2.2.2.1, X.2.2.1.2.1 _ hw2 rfl args, ⟨_, _, _, (by rw [ho] at hi; exact hi)⟩, hst0⟩ (by rw [q2]; exact h6) q1 q3 (by rw [hsl]; exact k2_hasslot (q4 k hk)) rfl rfl hd fun H' e1 e2 e3 => ?_
  rw [hsl] at e1 ⊢
  refine qk_Wm (fun t ht => qk_Em (fun u hu => ⟨rfl, qk_set_some hu⟩) (fun _ _ => rfl) ht) (hs p l e R s m args below meth c H' _ cells slots G H0 ro ρ ls X ?_ (fun q hq => qk_ok_mono (fun u hu => qk_set_some hu) (hL q hq)) (fun x hx => qk_ok_mono (fun u hu => qk_set_some hu) (qk_tl (qk_tl hst) x hx)) hl ?_ h1 h2 h3 h4)
  · refine qk_Rset hR ha (by rw [hw]; exact fun h => by cases h) e2 e3 ?_ (qk_ok_set g3 (qk_hd hst))
    exact ⟨_, hc, t_OB.to (V := updV (vp_V (fs.map (qk_rv ρ))) k (qk_rv ρ v)) ⟨_, e1, q2, q3, t_set q4 hap hk (qk_rv ρ v)⟩ (fun j _ => qk_fs_set hl0 j)⟩
  · intro z hz
    rcases List.mem_append.mp hz with h | h
    · exact hlo z h
    · rw [List.mem_singleton.mp h]; exact g1
theorem ev_putF {idx ci k a : Nat} {fs : List Value} {v : Value} (hd : decode M.2.1 pc = .ok (.putfield idx, 3)) (hf : qk_fl M.1.cls idx ci k) (hfin : qk_ffin ci k = true) (hini : M.1.name = "<init>") (hown : (qcl[ci]?.map (·.1)) = some M.1.cls) (ha : 16 ≤ a) (hw : w a = some (.inr (ci, fs))) (hl0 : k < fs.length) (hv : qk_fit (qk_fty ci k) v = true)
    (kk : Ev d M (pc + 3) L st (qk_set w a (.inr (ci, fs.set k v))) nc ns Q) : Ev d M pc L (v :: .ref a :: st) w nc ns Q := by
  refine ev_set (fun r w' kc ks hs p l e R s m args below meth c H locs cells slots G H0 ro ρ ls X hR hL hst hl hlo h1 h2 h3 h4 => ?_) kk
  obtain ⟨q, hc, hk, ho, hw2⟩ := hf
  obtain ⟨g1, g2, g3⟩ := hR.2.2.1 a _ ha hw
  obtain ⟨C, T, N⟩ := q
  have hts : ∀ x ∈ u_ws C T N, x.before args s = true := fun x hx => X.2.2.1.2.1 x (qk_lays hc x hx).1 (qk_lays hc x hx).2 args
  obtain ⟨y, hy, hty⟩ := qk_types hc
  have hK := X.2.2.1.1
  have hap := va_apart (own := M.1.cls) hts (fun _ h => h) y hty (qk_names hc) hK hc
  obtain ⟨r0, hr0, cell, q1, q2, q3, q4⟩ := g2
  have hr : r0 = (C, T, N) := Option.some.inj (hr0.symm.trans hc)
  subst hr
  obtain ⟨hS, hfc, kC, hkC, hkind⟩ := hK.1 ci _ hc
  obtain ⟨cf, kf, fi, f, hi, hsl⟩ := hS k hk
  have hlay := hts _ (u_in_lay hk)
  unfold u_lay at hlay
  rw [if_pos (by simp only [qk_ffin, hc] at hfin; exact hfin)] at hlay
  have hst0 := (u_facts hfc hkC (u_lays hts (fun _ h => h) hk) hi).1
  have hC : C = M.1.cls := by rw [hc] at hown; exact Option.some.inj hown
  have hcf : m.cls = cf := by
    obtain ⟨_, _, c', _, _, _, -, -, hf', -, -, -, hown2, -⟩ := Cond.laysFinal_spec hlay
    have e1 : c' = cf := by have := hi.symm.trans hf'; simp at this; exact this.1.symm
    rw [show (T k).1 = M.1.cls from ho.trans hC] at hown2
    rw [← e1]; exact Option.some.inj (X.1.2.2.2.2.1.symm.trans hown2)
  obtain ⟨n1, n2⟩ := qk_fit_rv ρ hv
  simp only [qk_fty, hy] at n1 n2
  have h6 := u_fits hfc hkC hkind (Or.inr hlay) hi (hty k hk) n1 n2
  refine W.putFinK X.1.1 X.1.2.1 X.1.2.2.2.2.1 (X.2.2.1.2.1 _ hw2 rfl args) (f := f) (by rw [ho] at hi; exact hi) hst0 hcf (X.1.2.2.2.2.2.2.1.trans hini) (by rw [q2]; exact h6) q1 q3 (by rw [hsl]; exact k2_hasslot (q4 k hk)) rfl rfl hd fun H' e1 e2 e3 => ?_
  rw [hsl] at e1 ⊢
  refine qk_Wm (fun t ht => qk_Em (fun u hu => ⟨rfl, qk_set_some hu⟩) (fun _ _ => rfl) ht) (hs p l e R s m args below meth c H' _ cells slots G H0 ro ρ ls X ?_ (fun q hq => qk_ok_mono (fun u hu => qk_set_some hu) (hL q hq)) (fun x hx => qk_ok_mono (fun u hu => qk_set_some hu) (qk_tl (qk_tl hst) x hx)) hl ?_ h1 h2 h3 h4)
  · refine qk_Rset hR ha (by rw [hw]; exact fun h => by cases h) e2 e3 ?_ (qk_ok_set g3 (qk_hd hst))
    exact ⟨_, hc, t_OB.to (V := updV (vp_V (fs.map (qk_rv ρ))) k (qk_rv ρ v)) ⟨_, e1, q2, q3, t_set q4 hap hk (qk_rv ρ v)⟩ (fun j _ => qk_fs_set hl0 j)⟩
  · intro z hz
    rcases List.mem_append.mp hz with h | h
    · exact hlo z h
    · rw [List.mem_singleton.mp h]; exact g1
/-! arrays: reads -/
theorem qk_ty {E : FieldType → ClassId} {ty : FieldType} (h : ty ∈ qk_tyl) : ∃ t0 : Nat, (qk_tys E)[t0]? = some (E ty, ty) := List.getElem?_of_mem (List.mem_map.mpr ⟨ty, h, rfl⟩)
theorem qk_P1 {D : va_G} {q : Nat × va_E} {H : Heap} (h : va_at D qcl q H) : va_P D qcl [q] H := by
  intro k0 q0 h0
  have : k0 = 0 := by
    have := (List.getElem?_eq_some_iff.mp h0).1
    simp at this; omega
  subst this
  cases h0
  exact h
theorem ev_iald {a n : Nat} {f : Nat → Int32} {i : Int32} (hd : decode M.2.1 pc = .ok (.iaload, 1)) (hw : w a = some (.inl (.int, n, .inl f))) (hin : vp_in i n) (kk : Ev d M (pc + 1) L (.int (f i.toNatClampNeg) :: st) w nc ns Q) : Ev d M pc L (.int i :: .ref a :: st) w nc ns Q := by
  refine ev_of (fun r w' kc ks hs p l e R s m args below meth c H locs cells slots G H0 ro ρ ls X hR hL hst hl hlo h1 h2 h3 h4 => ?_) kk
  have k2 := hs p l e R s m args below meth c H locs cells slots G H0 ro ρ ls X hR hL (qk_cons (v := .int (f i.toNatClampNeg)) trivial (qk_tl (qk_tl hst))) hl hlo h1 h2 h3 h4
  by_cases ha : 16 ≤ a
  · obtain ⟨g1, g2, g3⟩ := hR.2.2.1 a _ ha hw
    obtain ⟨t0, ht0⟩ := qk_ty (E := G.2) (ty := .int) (by decide)
    exact va_iald X.1.1 X.1.2.1 X.2.2.1.1 (qk_P1 g2) 0 t0 rfl ht0 hin hd k2
  · have h5 := hR.2.1 a (by omega)
    rw [hw] at h5
    cases hro : ro a with
    | none => rw [hro] at h5; cases h5
    | some z =>
      rw [hro] at h5
      cases h5
      obtain ⟨b1, b2, b3⟩ := X.2.2.1.2.2.2.2 a z.1 z.2 hro
      obtain ⟨cell, c1, c2, c3, c4, c5, c6, c7⟩ := b3
      have hlt : i.toNatClampNeg < z.1 := Nat.not_le.mp fun q => hin (Or.inr q)
      exact W.iald (v := .int (z.2 i.toNatClampNeg)) X.1.1 X.1.2.1 (by rw [hR.1.2.1 _ b2]; exact c1) c2 c3 (fun h => h.elim (fun h => hin (Or.inl h)) (fun h => by omega)) (c6 _ hlt) rfl rfl hd k2
theorem ev_bald {a n : Nat} {f : Nat → Int32} {i : Int32} (hd : decode M.2.1 pc = .ok (.baload, 1)) (ha : 16 ≤ a) (hw : w a = some (.inl (.byte, n, .inl f))) (hin : vp_in i n) (kk : Ev d M (pc + 1) L (.int (f i.toNatClampNeg) :: st) w nc ns Q) : Ev d M pc L (.int i :: .ref a :: st) w nc ns Q := by
  refine ev_of (fun r w' kc ks hs p l e R s m args below meth c H locs cells slots G H0 ro ρ ls X hR hL hst hl hlo h1 h2 h3 h4 => ?_) kk
  have k2 := hs p l e R s m args below meth c H locs cells slots G H0 ro ρ ls X hR hL (qk_cons (v := .int (f i.toNatClampNeg)) trivial (qk_tl (qk_tl hst))) hl hlo h1 h2 h3 h4
  obtain ⟨g1, g2, g3⟩ := hR.2.2.1 a _ ha hw
  obtain ⟨t0, ht0⟩ := qk_ty (E := G.2) (ty := .byte) (by decide)
  exact va_bald X.1.1 X.1.2.1 X.2.2.1.1 (qk_P1 g2) 0 t0 rfl ht0 hin hd k2
theorem ev_zald {a n : Nat} {f : Nat → Int32} {i : Int32} (hd : decode M.2.1 pc = .ok (.baload, 1)) (ha : 16 ≤ a) (hw : w a = some (.inl (.boolean, n, .inl f))) (hin : vp_in i n) (kk : Ev d M (pc + 1) L (.int (f i.toNatClampNeg) :: st) w nc ns Q) : Ev d M pc L (.int i :: .ref a :: st) w nc ns Q := by
  refine ev_of (fun r w' kc ks hs p l e R s m args below meth c H locs cells slots G H0 ro ρ ls X hR hL hst hl hlo h1 h2 h3 h4 => ?_) kk
  have k2 := hs p l e R s m args below meth c H locs cells slots G H0 ro ρ ls X hR hL (qk_cons (v := .int (f i.toNatClampNeg)) trivial (qk_tl (qk_tl hst))) hl hlo h1 h2 h3 h4
  obtain ⟨g1, g2, g3⟩ := hR.2.2.1 a _ ha hw
  obtain ⟨t0, ht0⟩ := qk_ty (E := G.2) (ty := .boolean) (by decide)
  exact va_zald X.1.1 X.1.2.1 X.2.2.1.1 (qk_P1 g2) 0 t0 rfl ht0 hin hd k2
theorem ev_lald {a n : Nat} {f : Nat → Int64} {i : Int32} (hd : decode M.2.1 pc = .ok (.laload, 1)) (ha : 16 ≤ a) (hw : w a = some (.inl (.long, n, .inr (.inl f)))) (hin : vp_in i n) (kk : Ev d M (pc + 1) L (.long (f i.toNatClampNeg) :: st) w nc ns Q) : Ev d M pc L (.int i :: .ref a :: st) w nc ns Q := by
  refine ev_of (fun r w' kc ks hs p l e R s m args below meth c H locs cells slots G H0 ro ρ ls X hR hL hst hl hlo h1 h2 h3 h4 => ?_) kk
  have k2 := hs p l e R s m args below meth c H locs cells slots G H0 ro ρ ls X hR hL (qk_cons (v := .long (f i.toNatClampNeg)) trivial (qk_tl (qk_tl hst))) hl hlo h1 h2 h3 h4
  obtain ⟨g1, g2, g3⟩ := hR.2.2.1 a _ ha hw
  obtain ⟨t0, ht0⟩ := qk_ty (E := G.2) (ty := .long) (by decide)
  exact va_lald X.1.1 X.1.2.1 X.2.2.1.1 (qk_P1 g2) 0 t0 rfl ht0 hin hd k2
theorem ev_aald {a n : Nat} {C : String} {f : Nat → Option Nat} {i : Int32} (hd : decode M.2.1 pc = .ok (.aaload, 1)) (ha : 16 ≤ a) (hC : .object C ∈ qk_tyl) (hw : w a = some (.inl (.object C, n, .inr (.inr (.inr (.inr f)))))) (hin : vp_in i n) (kk : Ev d M (pc + 1) L (va_rf (f i.toNatClampNeg) :: st) w nc ns Q) : Ev d M pc L (.int i :: .ref a :: st) w nc ns Q := by
  refine ev_of (fun r w' kc ks hs p l e R s m args below meth c H locs cells slots G H0 ro ρ ls X hR hL hst hl hlo h1 h2 h3 h4 => ?_) kk
  obtain ⟨g1, g2, g3⟩ := hR.2.2.1 a _ ha hw
  have hok : qk_ok w (va_rf (f i.toNatClampNeg)) := by
    cases hf : f i.toNatClampNeg with
    | none => exact trivial
    | some b => exact g3 _ b hf
  have k2 := hs p l e R s m args below meth c H locs cells slots G H0 ro ρ ls X hR hL (qk_cons hok (qk_tl (qk_tl hst))) hl hlo h1 h2 h3 h4
  obtain ⟨t0, ht0⟩ := qk_ty (E := G.2) hC
  refine va_aldq X.1.1 X.1.2.1 X.2.2.1.1 (qk_P1 g2) 0 t0 rfl ht0 hin hd ?_
  have : va_rf ((f i.toNatClampNeg).map ρ) = qk_rv ρ (va_rf (f i.toNatClampNeg)) := by cases f i.toNatClampNeg <;> rfl
  rw [this]
  exact k2
theorem ev_alen {a : Nat} {ty : FieldType} {x : vp_A} {v : Int32} (hd : decode M.2.1 pc = .ok (.arraylength, 1)) (hT : ty ∈ qk_tyl) (hw : w a = some (.inl (ty, x))) (hv : Int32.ofNat x.1 = v) (kk : Ev d M (pc + 1) L (.int v :: st) w nc ns Q) : Ev d M pc L (.ref a :: st) w nc ns Q := by
  refine ev_of (fun r w' kc ks hs p l e R s m args below meth c H locs cells slots G H0 ro ρ ls X hR hL hst hl hlo h1 h2 h3 h4 => ?_) kk
  have k2 := hs p l e R s m args below meth c H locs cells slots G H0 ro ρ ls X hR hL (qk_cons (v := .int v) trivial (qk_tl hst)) hl hlo h1 h2 h3 h4
  by_cases ha : 16 ≤ a
  · obtain ⟨g1, g2, g3⟩ := hR.2.2.1 a _ ha hw
    obtain ⟨t0, ht0⟩ := qk_ty (E := G.2) hT
    have e1 : (qk_ra ρ x).1 = x.1 := by
      obtain ⟨n, z⟩ := x
      rcases z with f | f | f | f | f <;> rfl
    exact va_alen X.1.1 X.1.2.1 X.2.2.1.1 (qk_P1 g2) 0 t0 rfl ht0 (by rw [e1]; exact hv) hd k2
  · have h5 := hR.2.1 a (by omega)
    rw [hw] at h5
    cases hro : ro a with
    | none => rw [hro] at h5; cases h5
    | some z =>
      rw [hro] at h5
      cases h5
      subst hv
      obtain ⟨b1, b2, b3⟩ := X.2.2.1.2.2.2.2 a z.1 z.2 hro
      obtain ⟨cell, c1, c2, c3, c4, c5, c6, c7⟩ := b3
      exact W.alen X.1.1 X.1.2.1 (by rw [hR.1.2.1 _ b2]; exact c1) c2 c5 rfl rfl hd k2
end Heap2
end
section
/-! ===== rules: array stores, new, statics ===== -/
section Heap3
variable {d : Nat} {M : qk_M} {pc : Nat} {L : List (Option Value)} {st : List Value} {w : qk_W} {nc ns : Nat} {Q : Option Value ⊕ Nat → qk_W → Nat → Nat → Prop}
theorem qk_lo1 {H0 : Heap} {locs : List Loc} {z : Loc} (h : ∀ q ∈ locs, H0.size ≤ q.base) (hz : H0.size ≤ z.base) : ∀ q ∈ locs ++ [z], H0.size ≤ q.base := by
  intro q hq
  rcases List.mem_append.mp hq with h1 | h1
  · exact h q h1
  · rw [List.mem_singleton.mp h1]; exact hz
theorem ev_iast {a n : Nat} {f : Nat → Int32} {i x : Int32} (hd : decode M.2.1 pc = .ok (.iastore, 1)) (ha : 16 ≤ a) (hw : w a = some (.inl (.int, n, .inl f))) (hin : vp_in i n) (kk : Ev d M (pc + 1) L st (qk_set w a (.inl (.int, n, .inl (upd f i.toNatClampNeg x)))) nc ns Q) : Ev d M pc L (.int x :: .int i :: .ref a :: st) w nc ns Q := by
  refine ev_set (fun r w' kc ks hs p l e R s m args below meth c H locs cells slots G H0 ro ρ ls X hR hL hst hl hlo h1 h2 h3 h4 => ?_) kk
  obtain ⟨g1, g2, g3⟩ := hR.2.2.1 a _ ha hw
  obtain ⟨t0, ht0⟩ := qk_ty (E := G.2) (ty := .int) (by decide)
  refine W.iast X.1.1 X.1.2.1 g2 ((X.2.2.1.1.2 t0 _ ht0).1 n (fun j => .int (f j))) (fun q => by cases q) (by show ¬ (i < 0 ∨ (arrV _ _ _).slots.size ≤ _); rw [arrV_size]; exact hin) rfl rfl hd fun H1 e1 z oq => ?_
  refine qk_Wm (fun t ht => qk_Em (fun u hu => ⟨rfl, qk_set_some hu⟩) (fun _ _ => rfl) ht) (hs p l e R s m args below meth c H1 _ cells slots G H0 ro ρ ls X ?_ (fun q hq => qk_ok_mono (fun u hu => qk_set_some hu) (hL q hq)) (fun x hx => qk_ok_mono (fun u hu => qk_set_some hu) (qk_tl (qk_tl (qk_tl hst)) x hx)) hl (qk_lo1 hlo g1) h1 h2 h3 h4)
  refine qk_Rset hR ha (by rw [hw]; exact fun h => by cases h) z oq ?_ trivial
  show H1[ρ a]? = some (vp_cell _ _)
  rw [e1]
  show some ((vp_cell (G.2 .int) (n, Sum.inl f)).setSlot _ _) = some (vp_cell (G.2 .int) (n, Sum.inl _))
  rw [vp_cell_i, vp_cell_i, arrV_store]
  congr 2
  funext q
  by_cases hq : q = i.toNatClampNeg
  · subst hq
    simp [updV, upd]
  · simp [updV, upd, hq]
theorem ev_bast {a n : Nat} {f : Nat → Int32} {i x : Int32} (hd : decode M.2.1 pc = .ok (.bastore, 1)) (ha : 16 ≤ a) (hw : w a = some (.inl (.byte, n, .inl f))) (hin : vp_in i n) (kk : Ev d M (pc + 1) L st (qk_set w a (.inl (.byte, n, .inl (upd f i.toNatClampNeg x.toInt8.toInt32)))) nc ns Q) : Ev d M pc L (.int x :: .int i :: .ref a :: st) w nc ns Q := by
  refine ev_set (fun r w' kc ks hs p l e R s m args below meth c H locs cells slots G H0 ro ρ ls X hR hL hst hl hlo h1 h2 h3 h4 => ?_) kk
  obtain ⟨g1, g2, g3⟩ := hR.2.2.1 a _ ha hw
  obtain ⟨t0, ht0⟩ := qk_ty (E := G.2) (ty := .byte) (by decide)
  refine W.bast X.1.1 X.1.2.1 g2 ((X.2.2.1.1.2 t0 _ ht0).1 n (fun j => .int (f j))) (fun q => by cases q) (by show ¬ (i < 0 ∨ (arrV _ _ _).slots.size ≤ _); rw [arrV_size]; exact hin) rfl rfl hd fun H1 e1 z oq => ?_
  refine qk_Wm (fun t ht => qk_Em (fun u hu => ⟨rfl, qk_set_some hu⟩) (fun _ _ => rfl) ht) (hs p l e R s m args below meth c H1 _ cells slots G H0 ro ρ ls X ?_ (fun q hq => qk_ok_mono (fun u hu => qk_set_some hu) (hL q hq)) (fun x hx => qk_ok_mono (fun u hu => qk_set_some hu) (qk_tl (qk_tl (qk_tl hst)) x hx)) hl (qk_lo1 hlo g1) h1 h2 h3 h4)
  refine qk_Rset hR ha (by rw [hw]; exact fun h => by cases h) z oq ?_ trivial
  show H1[ρ a]? = some (vp_cell _ _)
  rw [e1]
  show some ((vp_cell (G.2 .byte) (n, Sum.inl f)).setSlot _ _) = some (vp_cell (G.2 .byte) (n, Sum.inl _))
  rw [vp_cell_i, vp_cell_i, arrV_store]
  congr 2
  funext q
  by_cases hq : q = i.toNatClampNeg
  · subst hq
    simp [updV, upd, narrow]
  · simp [updV, upd, hq]
theorem ev_zast {a n : Nat} {f : Nat → Int32} {i x : Int32} (hd : decode M.2.1 pc = .ok (.bastore, 1)) (ha : 16 ≤ a) (hw : w a = some (.inl (.boolean, n, .inl f))) (hin : vp_in i n) (hx : narrow .boolean (.int x) = .int x) (kk : Ev d M (pc + 1) L st (qk_set w a (.inl (.boolean, n, .inl (upd f i.toNatClampNeg x)))) nc ns Q) : Ev d M pc L (.int x :: .int i :: .ref a :: st) w nc ns Q := by
  refine ev_set (fun r w' kc ks hs p l e R s m args below meth c H locs cells slots G H0 ro ρ ls X hR hL hst hl hlo h1 h2 h3 h4 => ?_) kk
  obtain ⟨g1, g2, g3⟩ := hR.2.2.1 a _ ha hw
  obtain ⟨t0, ht0⟩ := qk_ty (E := G.2) (ty := .boolean) (by decide)
  refine W.zast X.1.1 X.1.2.1 g2 ((X.2.2.1.1.2 t0 _ ht0).1 n (fun j => .int (f j))) (fun q => by cases q) (by show ¬ (i < 0 ∨ (arrV _ _ _).slots.size ≤ _); rw [arrV_size]; exact hin) rfl rfl hd fun H1 e1 z oq => ?_
  refine qk_Wm (fun t ht => qk_Em (fun u hu => ⟨rfl, qk_set_some hu⟩) (fun _ _ => rfl) ht) (hs p l e R s m args below meth c H1 _ cells slots G H0 ro ρ ls X ?_ (fun q hq => qk_ok_mono (fun u hu => qk_set_some hu) (hL q hq)) (fun x hx => qk_ok_mono (fun u hu => qk_set_some hu) (qk_tl (qk_tl (qk_tl hst)) x hx)) hl (qk_lo1 hlo g1) h1 h2 h3 h4)
  refine qk_Rset hR ha (by rw [hw]; exact fun h => by cases h) z oq ?_ trivial
  show H1[ρ a]? = some (vp_cell _ _)
  rw [e1, hx]
  show some ((vp_cell (G.2 .boolean) (n, Sum.inl f)).setSlot _ _) = some (vp_cell (G.2 .boolean) (n, Sum.inl _))
  rw [vp_cell_i, vp_cell_i, arrV_store]
  congr 2
  funext q
  by_cases hq : q = i.toNatClampNeg
  · subst hq
    simp [updV, upd]
  · simp [updV, upd, hq]
theorem ev_last {a n : Nat} {f : Nat → Int64} {i : Int32} {x : Int64} (hd : decode M.2.1 pc = .ok (.lastore, 1)) (ha : 16 ≤ a) (hw : w a = some (.inl (.long, n, .inr (.inl f)))) (hin : vp_in i n) (kk : Ev d M (pc + 1) L st (qk_set w a (.inl (.long, n, .inr (.inl (vp_updL f i.toNatClampNeg x))))) nc ns Q) : Ev d M pc L (.long x :: .int i :: .ref a :: st) w nc ns Q := by
  refine ev_set (fun r w' kc ks hs p l e R s m args below meth c H locs cells slots G H0 ro ρ ls X hR hL hst hl hlo h1 h2 h3 h4 => ?_) kk
  obtain ⟨g1, g2, g3⟩ := hR.2.2.1 a _ ha hw
  obtain ⟨t0, ht0⟩ := qk_ty (E := G.2) (ty := .long) (by decide)
  refine W.last X.1.1 X.1.2.1 g2 ((X.2.2.1.1.2 t0 _ ht0).1 n (fun j => .long (f j))) (fun q => by cases q) (by show ¬ (i < 0 ∨ (arrV _ _ _).slots.size ≤ _); rw [arrV_size]; exact hin) rfl rfl hd fun H1 e1 z oq => ?_
  refine qk_Wm (fun t ht => qk_Em (fun u hu => ⟨rfl, qk_set_some hu⟩) (fun _ _ => rfl) ht) (hs p l e R s m args below meth c H1 _ cells slots G H0 ro ρ ls X ?_ (fun q hq => qk_ok_mono (fun u hu => qk_set_some hu) (hL q hq)) (fun x hx => qk_ok_mono (fun u hu => qk_set_some hu) (qk_tl (qk_tl (qk_tl hst)) x hx)) hl (qk_lo1 hlo g1) h1 h2 h3 h4)
  refine qk_Rset hR ha (by rw [hw]; exact fun h => by cases h) z oq ?_ trivial
  show H1[ρ a]? = some (vp_cell _ _)
  rw [e1]
  show some ((vp_cell (G.2 .long) (n, Sum.inr (Sum.inl f))).setSlot _ _) = some (vp_cell (G.2 .long) (n, Sum.inr (Sum.inl _)))
  rw [vp_cell_l, vp_cell_l, arrV_store]
  congr 2
  funext q
  by_cases hq : q = i.toNatClampNeg
  · subst hq
    simp [updV, vp_updL]
  · simp [updV, vp_updL, hq]
theorem ev_aast {a n v ci : Nat} {r0 : vw_C} {vs : List Value} {f : Nat → Option Nat} {i : Int32} (hd : decode M.2.1 pc = .ok (.aastore, 1)) (ha : 16 ≤ a) (hv16 : 16 ≤ v) (hc : qcl[ci]? = some r0) (hC : .object r0.1 ∈ qk_tyl) (hw : w a = some (.inl (.object r0.1, n, .inr (.inr (.inr (.inr f)))))) (hv : w v = some (.inr (ci, vs))) (hin : vp_in i n)
    (kk : Ev d M (pc + 1) L st (qk_set w a (.inl (.object r0.1, n, .inr (.inr (.inr (.inr (va_up f i.toNatClampNeg (some v)))))))) nc ns Q) : Ev d M pc L (.ref v :: .int i :: .ref a :: st) w nc ns Q := by
  refine ev_set (fun r w' kc ks hs p l e R s m args below meth c H locs cells slots G H0 ro ρ ls X hR hL hst hl hlo h1 h2 h3 h4 => ?_) kk
  obtain ⟨g1, g2, g3⟩ := hR.2.2.1 a _ ha hw
  obtain ⟨t0, ht0⟩ := qk_ty (E := G.2) hC
  have hlt : i.toNatClampNeg < n := Nat.not_le.mp fun q => hin (Or.inr q)
  have h0 : ¬ i < 0 := fun q => hin (Or.inl q)
  obtain ⟨v1, v2, v3⟩ := hR.2.2.1 v _ hv16 hv
  obtain ⟨r', hr', cellV, f1, f2, f3, -⟩ := v2
  have hcls := (X.2.2.1.1.1 ci r0 hc).2
  obtain ⟨kA, comp, k1, k2, k3, -⟩ := (X.2.2.1.1.2 t0 _ ht0).2
  have hcomp : comp = G.1.1 ci := Option.some.inj (k3.symm.trans hcls.1)
  subst hcomp
  obtain ⟨kC, hkC, -⟩ := hcls.2
  refine W.aast X.1.1 X.1.2.1 g2 (fun q h => by cases h) (fun h => by cases h) k1 k2 rfl hkC ⟨h0, by show _ < (arrV _ _ _).slots.size; rw [arrV_size]; exact hlt⟩ f1 (fun q h => by rw [f3] at h; cases h) (by rw [f2]; exact hkC) (by rw [f2]; exact va_assign hcls) rfl rfl hd fun H1 e1 z oq => ?_
  refine qk_Wm (fun t ht => qk_Em (fun u hu => ⟨rfl, qk_set_some hu⟩) (fun _ _ => rfl) ht) (hs p l e R s m args below meth c H1 _ cells slots G H0 ro ρ ls X ?_ (fun q hq => qk_ok_mono (fun u hu => qk_set_some hu) (hL q hq)) (fun x hx => qk_ok_mono (fun u hu => qk_set_some hu) (qk_tl (qk_tl (qk_tl hst)) x hx)) hl (qk_lo1 hlo g1) h1 h2 h3 h4)
  refine qk_Rset hR ha (by rw [hw]; exact fun h => by cases h) z oq ?_ ?_
  · show H1[ρ a]? = some (vp_cell _ _)
    rw [e1]
    show some ((vp_cell (G.2 (.object r0.1)) (n, Sum.inr (Sum.inr (Sum.inr (Sum.inr fun j => (f j).map ρ))))).setSlot _ _) = some (vp_cell (G.2 (.object r0.1)) (n, Sum.inr (Sum.inr (Sum.inr (Sum.inr _)))))
    rw [vp_cell_q, vp_cell_q, arrV_store]
    congr 2
    funext q
    by_cases hq : q = i.toNatClampNeg
    · subst hq
      simp [updV, va_up, va_rf]
    · simp [updV, va_up, hq]
  · intro j b hj
    by_cases hq : j = i.toNatClampNeg
    · rw [hq] at hj
      simp [va_up] at hj
      rw [← hj, hv]; exact fun h => by cases h
    · simp only [va_up, hq, if_false] at hj
      exact g3 j b hj
/-! new -/
def qk_nr : Value → Bool
  | .ref _ => false
  | _ => true
/-- class ci can be made by entry idx of own's pool; fs: a new object's fields -/
def qk_nl (own : String) (idx ci : Nat) (fs : List Value) : Prop := ∃ q : vw_C, qcl[ci]? = some q ∧ ci < 12 ∧ Cond.classLink own idx q.1 ∈ lw_tbl ∧ fs = (List.range q.2.2).map (fun k => defaultValue (qk_fty ci k)) ∧ fs.all qk_nr = true
theorem qk_nrok {v : Value} (h : qk_nr v = true) : qk_ok w v := by cases v <;> first | trivial | cases h
theorem qk_nrrv {ρ : Nat → Nat} {v : Value} (h : qk_nr v = true) : qk_rv ρ v = v := by cases v <;> first | rfl | cases h
theorem ev_new {idx ci : Nat} {fs : List Value} (v : Nat) (hd : decode M.2.1 pc = .ok (.new idx, 3)) (hf : qk_nl M.1.cls idx ci fs) (hv : 16 ≤ v) (hn : w v = none) (kk : Ev d M (pc + 3) L (.ref v :: st) (qk_set w v (.inr (ci, fs))) (nc + 1) (ns + fs.length) Q) : Ev d M pc L st w nc ns Q := by
  refine ev_to (dc := 1) (ds := fs.length) (fun r w' kc ks hs p l e R s m args below meth c H locs cells slots G H0 ro ρ ls X hR hL hst hl hlo h1 h2 h3 h4 => ?_) kk
  obtain ⟨q, hc, h12, hcl, hfs, hnr⟩ := hf
  obtain ⟨C, T, N⟩ := q
  have hlen : fs.length = N := by rw [hfs]; simp
  have hts : ∀ x ∈ u_ws C T N, x.before args s = true := fun x hx => X.2.2.1.2.1 x (qk_lays hc x hx).1 (qk_lays hc x hx).2 args
  obtain ⟨y, hy, hty⟩ := qk_types hc
  obtain ⟨i1, i2⟩ := qk_inst hc h12
  have hKn := X.2.2.1.1.1 ci _ hc
  refine W.newcK X.1.1 X.1.2.1 X.1.2.2.2.2.1 (X.2.2.1.2.1 _ hcl rfl args) (X.2.2.1.2.1 _ i1 rfl args) (X.2.2.1.2.1 _ i2 rfl args) rfl hd (by omega) (by simp only; omega) hKn.2.1 rfl fun H1 kC hkC e1 z1 o1 => ?_
  have hup := qk_up_dom (ρ := ρ) (n := H.size) hn
  have h16 : ∀ u, u < 16 → va_up ρ v H.size u = ρ u := fun u hu => by simp [va_up, show u ≠ v by omega]
  have hmap : fs.map (qk_rv (va_up ρ v H.size)) = fs := (List.map_congr_left (fun x hx => qk_nrrv (List.all_eq_true.mp hnr x hx))).trans (List.map_id _)
  have hR' : qk_R G H0 ro (va_up ρ v H.size) (qk_set w v (.inr (ci, fs))) H1 := by
    refine qk_Rnew hR hv hn z1 o1 ?_ (fun x hx => qk_nrok (List.all_eq_true.mp hnr x hx))
    refine ⟨_, hc, ?_⟩
    show t_OB H.size (G.1.1 ci) N (G.1.2 ci) H1 (vp_V (fs.map (qk_rv (va_up ρ v H.size))))
    rw [hmap]
    refine (u_born y hts (fun _ h => h) hKn hkC e1 hty).to (fun j hj => ?_)
    rw [hfs]
    simp [vp_V, qk_fty, hy, hj]
  have k2 := hs p l e R s m args below meth c H1 locs (cells + 1) (slots + N) G H0 ro (va_up ρ v H.size) ls ⟨X.1, X.2.1, qk_Kup X.2.2.1 h16, X.2.2.2⟩ hR' (fun q hq => qk_ok_mono (fun u hu => qk_set_some hu) (hL q hq)) (qk_cons (by show qk_set _ _ _ _ ≠ none; rw [qk_set_eq]; exact fun h => by cases h) (fun x hx => qk_ok_mono (fun u hu => qk_set_some hu) (hst x hx))) (by rw [qk_lmap_congr hup hL]; exact hl) hlo h1 h2 (by omega) (by omega)
  have e5 : (Value.ref v :: st).map (qk_rv (va_up ρ v H.size)) = .ref H.size :: st.map (qk_rv ρ) := by
    rw [List.map_cons, qk_map_congr hup hst]
    simp [qk_rv, va_up]
  rw [e5] at k2
  rw [hlen, ← Nat.add_assoc, ← Nat.add_assoc]
  exact qk_Wm (fun t ht => qk_Em (fun u hu => ⟨hup u hu, qk_set_some hu⟩) h16 ht) k2
end Heap3
end
section
/-! ===== rules: new arrays, statics, arraycopy, Object.<init>, returns ===== -/
section Heap4
variable {d : Nat} {M : qk_M} {pc : Nat} {L : List (Option Value)} {st : List Value} {w : qk_W} {nc ns : Nat} {Q : Option Value ⊕ Nat → qk_W → Nat → Nat → Prop}
/-- what comes behind a new cell -/
theorem qk_after {pc' : Nat} {r : Option Value ⊕ Nat} {w' : qk_W} {kc ks v N : Nat} {x : qk_C} (hs : qk_S d M pc' L (.ref v :: st) (qk_set w v x) r w' kc ks) {p : Program} {l : Launch} {e : Env} {R : Room} {s : State} {m : MethodId} {args : Array Value} {below : List Frame} {meth : Method} {c : Code} {H H1 : Heap} {locs : List Loc} {cells slots : Nat} {G : qk_G} {H0 : Heap} {ro : qk_O} {ρ : Nat → Nat} {ls : Array Slot}
    (X : qk_X M p l s m meth c G H0 ro ρ) (hv : 16 ≤ v) (hn : w v = none) (hR' : qk_R G H0 ro (va_up ρ v H.size) (qk_set w v x) H1) (hL : ∀ q ∈ qk_lp 0 L, qk_ok w q.2) (hst : ∀ x ∈ st, qk_ok w x) (hl : lv_has ls M.2.2.1 ((qk_lp 0 L).map fun q => (q.1, qk_rv ρ q.2))) (hlo : ∀ q ∈ locs, H0.size ≤ q.base)
    (h1 : d ≤ R.frames) (h2 : 36 * d ≤ R.locals) (h3 : cells + (1 + kc) ≤ R.cells) (h4 : slots + (N + ks) ≤ R.slots) :
    W p l e R s m args below meth c H1 locs (cells + 1) (slots + N) (qk_E G H0 ro ρ w s below r w' (cells + (1 + kc)) (slots + (N + ks))) (F0 m pc' ls (.ref H.size :: st.map (qk_rv ρ))) := by
  have hup := qk_up_dom (ρ := ρ) (n := H.size) hn
  have h16 : ∀ u, u < 16 → va_up ρ v H.size u = ρ u := fun u hu => by simp [va_up, show u ≠ v by omega]
  have k2 := hs p l e R s m args below meth c H1 locs (cells + 1) (slots + N) G H0 ro (va_up ρ v H.size) ls ⟨X.1, X.2.1, qk_Kup X.2.2.1 h16, X.2.2.2⟩ hR' (fun q hq => qk_ok_mono (fun u hu => qk_set_some hu) (hL q hq)) (qk_cons (by show qk_set _ _ _ _ ≠ none; rw [qk_set_eq]; exact fun h => by cases h) (fun x hx => qk_ok_mono (fun u hu => qk_set_some hu) (hst x hx))) (by rw [qk_lmap_congr hup hL]; exact hl) hlo h1 h2 (by omega) (by omega)
  have e5 : (Value.ref v :: st).map (qk_rv (va_up ρ v H.size)) = .ref H.size :: st.map (qk_rv ρ) := by
    rw [List.map_cons, qk_map_congr hup hst]
    simp [qk_rv, va_up]
  rw [e5] at k2
  rw [← Nat.add_assoc, ← Nat.add_assoc]
  exact qk_Wm (fun t ht => qk_Em (fun u hu => ⟨hup u hu, qk_set_some hu⟩) h16 ht) k2
theorem ev_newa {atype : ArrayType} {ty : FieldType} {n : Int32} {N : Nat} (v : Nat) (a0 : vp_A) (hd : decode M.2.1 pc = .ok (.newarray atype, 2)) (hty : newarray.typeOf atype = ty) (hT : ty ∈ qk_tyl) (hTw : Cond.arrayClass ty ∈ lw_tbl) (hp : ∀ C, ty ≠ .object C) (ha : ∀ cA : ClassId, vp_cell cA a0 = arrV cA N (fun _ => defaultValue ty)) (hra : ∀ ρ, qk_ra ρ a0 = a0) (hok : ∀ w, qk_okC w (.inl (ty, a0)))
    (hn : ¬ n < 0) (hN : n.toNatClampNeg = N) (hb : N * componentBytes ty ≤ 536870912) (hv : 16 ≤ v) (hw : w v = none) (kk : Ev d M (pc + 2) L (.ref v :: st) (qk_set w v (.inl (ty, a0))) (nc + 1) (ns + N) Q) : Ev d M pc L (.int n :: st) w nc ns Q := by
  subst hty
  refine ev_to (dc := 1) (ds := N) (fun r w' kc ks hs p l e R s m args below meth c H locs cells slots G H0 ro ρ ls X hR hL hst hl hlo h1 h2 h3 h4 => ?_) kk
  refine va_newaK X.1.1 X.1.2.1 (X.2.2.1.2.1 _ hTw rfl args) rfl hd rfl hn hN hb (by omega) (by omega) rfl fun H1 cA e1 z1 o1 hAr hNm => ?_
  obtain ⟨t0, ht0⟩ := qk_ty (E := G.2) hT
  have hcA : cA = G.2 (newarray.typeOf atype) := by
    have h5 := (X.2.2.1.1.2 t0 _ ht0).2
    have h6 : s.vm.findClass ("[" ++ (newarray.typeOf atype).toString) = some (G.2 (newarray.typeOf atype)) := by
      cases atype <;> exact h5
    exact Option.some.inj (hNm.symm.trans h6)
  refine qk_after hs X hv hw (qk_Rnew hR hv hw z1 o1 ?_ (hok w)) hL (qk_tl hst) hl hlo h1 h2 h3 h4
  show H1[H.size]? = some (vp_cell (G.2 _) (qk_ra _ a0))
  rw [hra, ha, ← hcA]
  exact e1
theorem ev_anew {idx n0 : Nat} {C : String} {n : Int32} {N : Nat} (v : Nat) (hd : decode M.2.1 pc = .ok (.anewarray idx, 3)) (hcl : Cond.classLink M.1.cls idx C ∈ lw_tbl) (hao : Cond.arrayOver (.object C) ∈ lw_tbl) (hT : .object C ∈ qk_tyl)
    (hn : ¬ n < 0) (hN : n.toNatClampNeg = N) (hb : N * 4 ≤ 536870912) (hv : 16 ≤ v) (hw : w v = none) (kk : Ev d M (pc + 3) L (.ref v :: st) (qk_set w v (.inl (.object C, N, .inr (.inr (.inr (.inr (fun _ => none))))))) (nc + 1) (ns + N) Q) : Ev d M pc L (.int n :: st) w nc ns Q := by
  subst hN
  refine ev_to (dc := 1) (ds := n.toNatClampNeg) (fun r w' kc ks hs p l e R s m args below meth c H locs cells slots G H0 ro ρ ls X hR hL hst hl hlo h1 h2 h3 h4 => ?_) kk
  refine W.anew X.1.1 X.1.2.1 X.1.2.2.2.2.1 (X.2.2.1.2.1 _ hcl rfl args) (X.2.2.1.2.1 _ hao rfl args) rfl hd rfl hn hb (by omega) (by omega) fun cA kA comp f1 f2 f3 f4 => ?_
  generalize hH1 : H.push ({ cls := cA, slots := Array.replicate n.toNatClampNeg .null, vm := .none } : Cell) = H1
  have z1 : H1.size = H.size + 1 := by rw [← hH1, Array.size_push]
  have e1 : H1[H.size]? = some (arrV cA n.toNatClampNeg (fun _ => .null)) := by rw [← hH1, Array.getElem?_push_size, ← arrV_new]
  have o1 : ∀ q : Nat, q < H.size → H1[q]? = H[q]? := fun q hq => by rw [← hH1, Array.getElem?_push, if_neg (Nat.ne_of_lt hq)]
  obtain ⟨t0, ht0⟩ := qk_ty (E := G.2) hT
  have hcA : cA = G.2 (.object C) := by
    obtain ⟨-, -, -, -, -, h6⟩ := (X.2.2.1.1.2 t0 _ ht0).2
    first
      | exact Option.some.inj (f1.symm.trans h6)
      | exact Option.some.inj (f4.symm.trans h6)
  refine qk_after hs X hv hw (qk_Rnew hR hv hw z1 o1 ?_ (fun j a h => by cases h)) hL (qk_tl hst) hl hlo h1 h2 h3 h4
  show H1[H.size]? = some (vp_cell (G.2 _) _)
  rw [← hcA]
  exact e1
/-- WIDTHS (1) and CHECK_STEPS (2) -/
theorem ev_gets {idx v : Nat} {f : String} (hd : decode M.2.1 pc = .ok (.getstatic idx, 3)) (hw : Cond.fieldLinkNest M.1.cls idx "QuakeLink" f "[I" "QuakeLink" ∈ lw_tbl) (hf : (f = "WIDTHS" ∧ v = 1) ∨ (f = "CHECK_STEPS" ∧ v = 2)) (hv : w v ≠ none) (kk : Ev d M (pc + 3) L (.ref v :: st) w nc ns Q) : Ev d M pc L st w nc ns Q := by
  refine ev_of (fun r w' kc ks hs p l e R s m args below meth c H locs cells slots G H0 ro ρ ls X hR hL hst hl hlo h1 h2 h3 h4 => ?_) kk
  have hZ : va_Z "QuakeLink" f "[I" (.ref (ρ v)) (fun q => H0.size ≤ q) s H0 := by
    rcases hf with ⟨rfl, rfl⟩ | ⟨rfl, rfl⟩
    · exact X.2.2.1.2.2.1
    · exact X.2.2.1.2.2.2.1
  obtain ⟨cf, kf, fi, f0, a, cell, g1, g2, g3, g4, g5, g6, g7, g8⟩ := hZ
  exact va_WgetsN X.1.1 X.1.2.1 X.1.2.2.2.2.1 (X.2.2.1.2.1 _ hw rfl args) g1 g2 g3 g4 (by rw [hR.1.2.1 a (Array.getElem?_eq_some_iff.mp g5).1]; exact g5) (fun e => by rw [e] at g6; cases g6) g7 rfl hd (hs p l e R s m args below meth c H locs cells slots G H0 ro ρ ls X hR hL (qk_cons (v := .ref v) hv hst) hl hlo h1 h2 h3 h4)
theorem ev_copy {idx a0 a n0 n1 : Nat} {f g : Nat → Int32} {sp dp n : Int32} (hd : decode M.2.1 pc = .ok (.invokestatic idx, 3)) (hw1 : Cond.methodLink M.1.cls idx arraycopyName ∈ lw_tbl) (hw2 : Cond.native arraycopyName ∈ lw_tbl) (hw3 : Cond.static arraycopyName ∈ lw_tbl) (hw4 : Cond.initialized "java/lang/System" ∈ lw_tbl)
    (ha0 : 16 ≤ a0) (ha : 16 ≤ a) (hw0 : w a0 = some (.inl (.byte, n0, .inl f))) (hw : w a = some (.inl (.byte, n1, .inl g))) (k1 : ¬ sp < 0) (k2 : ¬ dp < 0) (k3 : ¬ n < 0) (k4 : sp.toNatClampNeg + n.toNatClampNeg ≤ n0) (k5 : dp.toNatClampNeg + n.toNatClampNeg ≤ n1) (hfit : ∀ i, i < n.toNatClampNeg → fits .byte (.int (f (sp.toNatClampNeg + i))) = true)
    (hd1 : 1 ≤ d) (hr8 : (st.map fun v => v.category).sum ≤ 8) (hnw : nativeFrameWords "java/lang/System" "arraycopy" 5 ≤ 17) (kk : Ev d M (pc + 3) L st (qk_set w a (.inl (.byte, n1, .inl (va_cpy f g sp.toNatClampNeg dp.toNatClampNeg n.toNatClampNeg)))) nc ns Q) : Ev d M pc L (.int n :: .int dp :: .ref a :: .int sp :: .ref a0 :: st) w nc ns Q := by
  refine ev_set (fun r w' kc ks hs p l e R s m args below meth c H locs cells slots G H0 ro ρ ls X hR hL hst hl hlo h1 h2 h3 h4 => ?_) kk
  obtain ⟨g1, g2, g3⟩ := hR.2.2.1 a _ ha hw
  obtain ⟨j1, j2, j3⟩ := hR.2.2.1 a0 _ ha0 hw0
  obtain ⟨t0, ht0⟩ := qk_ty (E := G.2) (ty := .byte) (by decide)
  have nn : ∀ z : Int32, ¬ z < 0 → z.toInt = (z.toNatClampNeg : Int) := by
    intro z hz
    have hz0 : (0 : Int) ≤ z.toInt := by
      have := Int32.not_lt.mp hz
      simpa using Int32.le_iff_toInt_le.mp this
    show z.toInt = ((z.toInt.toNat : Nat) : Int)
    omega
  intro T hT Y
  have hc0 : H[ρ a0]? = some (vp_cell (G.2 .byte) (n0, .inl f)) := j2
  have hc1 : H[ρ a]? = some (vp_cell (G.2 .byte) (n1, .inl g)) := g2
  obtain ⟨-, k0, hk0, cm0, hkk0⟩ := (X.2.2.1.1.2 t0 _ ht0).1 n0 (fun j => .int (f j))
  obtain ⟨-, k1', hk1, cm1, hkk1⟩ := (X.2.2.1.1.2 t0 _ ht0).1 n1 (fun j => .int (g j))
  have hcat : ((st.map (qk_rv ρ)).map fun v => v.category).sum = (st.map fun v => v.category).sum := by
    rw [List.map_map]
    congr 1
    exact List.map_congr_left fun x _ => qk_rv_cat ρ x
  obtain ⟨vm', X', step⟩ := Y.arraycopy X.1.1 X.1.2.2.2.2.1 (X.2.2.1.2.1 _ hw1 rfl args) (X.2.2.1.2.1 _ hw2 rfl args) (X.2.2.1.2.1 _ hw3 rfl args) (X.2.2.1.2.1 _ hw4 rfl args) (src := ρ a0) (dst := ρ a) (cs := vp_cell (G.2 .byte) (n0, .inl f)) (cd := vp_cell (G.2 .byte) (n1, .inl g)) (srcPos := sp) (destPos := dp) (n := n) (by rw [hT]; exact hc0) (by rw [hT]; exact hc1)
    (fun _ h => by cases h) (fun _ h => by cases h) (fun h => by cases h) (fun h => by cases h) hk0 hk1 hkk0 hkk1 (by simp [refKind]) k1 k2 k3
    (by rw [nn sp k1, nn n k3]; show ¬ _ > ((arrV (G.2 .byte) n0 (fun j => .int (f j))).slots.size : Int); rw [arrV_size]; omega)
    (by rw [nn dp k2, nn n k3]; show ¬ _ > ((arrV (G.2 .byte) n1 (fun j => .int (g j))).slots.size : Int); rw [arrV_size]; omega)
    (fun vm₁ _ i hi => by
      have e : (vp_cell (G.2 .byte) (n0, .inl f)).slots.getD (sp.toNatClampNeg + i) .null = .int (f (sp.toNatClampNeg + i)) := by
        show (arrV (G.2 .byte) n0 (fun j => .int (f j))).slots.getD _ _ = _
        rw [Array.getD_eq_getD_getElem?, arrV_read _ _ (by omega)]
        rfl
      refine ⟨?_, ?_⟩
      · rw [e]
        exact hfit i hi
      · rw [e]
        exact trivial)
    (g := F0 m pc ls (.int n :: .int dp :: .ref (ρ a) :: .int sp :: .ref (ρ a0) :: st.map (qk_rv ρ))) rfl (by rw [X.1.2.2.2.1]; exact hl.1) (rest := st.map (qk_rv ρ)) rfl (by rw [X.1.2.1]; exact hd) (by omega) (by show 2 * 0 + _ + _ ≤ _; rw [hcat]; omega)
  have e1 : copied (vp_cell (G.2 .byte) (n0, .inl f)) (vp_cell (G.2 .byte) (n1, .inl g)) sp dp n = vp_cell (G.2 .byte) (n1, .inl (va_cpy f g sp.toNatClampNeg dp.toNatClampNeg n.toNatClampNeg)) := va_copied (fun z => .int z) (G.2 .byte) (G.2 .byte) f g k4
  rw [e1] at X' step
  have hlt : ρ a < H.size := (Array.getElem?_eq_some_iff.mp hc1).1
  have hheap : ((T.setVm vm').setCell (ρ a) (vp_cell (G.2 .byte) (n1, .inl (va_cpy f g sp.toNatClampNeg dp.toNatClampNeg n.toNatClampNeg)))).heap = H.setIfInBounds (ρ a) (vp_cell (G.2 .byte) (n1, .inl (va_cpy f g sp.toNatClampNeg dp.toNatClampNeg n.toNatClampNeg))) := by rw [← hT]; rfl
  have oq : ∀ q : Nat, q ≠ ρ a → (H.setIfInBounds (ρ a) (vp_cell (G.2 .byte) (n1, .inl (va_cpy f g sp.toNatClampNeg dp.toNatClampNeg n.toNatClampNeg))))[q]? = H[q]? := fun q hq => by simp [Array.getElem?_setIfInBounds, Ne.symm hq]
  have hR' : qk_R G H0 ro ρ (qk_set w a (.inl (.byte, n1, .inl (va_cpy f g sp.toNatClampNeg dp.toNatClampNeg n.toNatClampNeg)))) (H.setIfInBounds (ρ a) (vp_cell (G.2 .byte) (n1, .inl (va_cpy f g sp.toNatClampNeg dp.toNatClampNeg n.toNatClampNeg)))) :=
    qk_Rset hR ha (by rw [hw]; exact fun h => by cases h) (by simp) oq (show (H.setIfInBounds (ρ a) _)[ρ a]? = some _ by simp [Array.getElem?_setIfInBounds, hlt]; rfl) trivial
  obtain ⟨t, a1, b1⟩ := hs p l e R s m args below meth c _ _ cells slots G H0 ro ρ ls X hR' (fun q hq => qk_ok_mono (fun u hu => qk_set_some hu) (hL q hq)) (fun x hx => qk_ok_mono (fun u hu => qk_set_some hu) (qk_tl (qk_tl (qk_tl (qk_tl (qk_tl hst)))) x hx)) hl (fun q hq => by
      rcases List.mem_append.mp hq with h | h
      · exact hlo q h
      · obtain ⟨z, -, hz⟩ := List.mem_map.mp h
        rw [← hz]
        exact g1) h1 h2 h3 h4 _ hheap X'
  exact ⟨t, step t a1, qk_Em (fun u hu => ⟨rfl, qk_set_some hu⟩) (fun _ _ => rfl) b1⟩
theorem qk_cat8 {ρ : Nat → Nat} : ((st.map (qk_rv ρ)).map fun v => v.category).sum = (st.map fun v => v.category).sum := by
  rw [List.map_map]
  congr 1
  exact List.map_congr_left fun x _ => qk_rv_cat ρ x
theorem ev_obj {idx a : Nat} (hd : decode M.2.1 pc = .ok (.invokespecial idx, 3)) (hw1 : Cond.methodLink M.1.cls idx Lib.objectInit ∈ lw_tbl) (hw2 : Cond.instanceMethod Lib.objectInit ∈ lw_tbl) (hw3 : Cond.code Lib.objectInit ⟨#[0xb1]⟩ 1 none ∈ lw_tbl) (hd1 : 1 ≤ d) (hr8 : (st.map fun v => v.category).sum ≤ 8) (kk : Ev d M (pc + 3) L st w nc ns Q) : Ev d M pc L (.ref a :: st) w nc ns Q := by
  refine ev_of (fun r w' kc ks hs p l e R s m args below meth c H locs cells slots G H0 ro ρ ls X hR hL hst hl hlo h1 h2 h3 h4 => ?_) kk
  exact W.objInit X.1.1 X.1.2.1 X.1.2.2.2.2.1 (X.2.2.1.2.1 _ hw1 rfl args) (X.2.2.1.2.1 _ hw2 rfl args) (X.2.2.1.2.1 _ hw3 rfl args) rfl (by rw [X.1.2.2.2.1]; exact hl.1) rfl hd (by omega) (by show 2 * 0 + _ + 12 ≤ _; rw [qk_cat8]; omega) (hs p l e R s m args below meth c H locs cells slots G H0 ro ρ ls X hR hL (qk_tl hst) hl hlo h1 h2 h3 h4)
/-- an end by a return: what MQ says is what qk_E says -/
theorem qk_Ret {G : qk_G} {H0 : Heap} {ro : qk_O} {ρ : Nat → Nat} {s : State} {below : List Frame} {v : Option Value} {cells slots : Nat} {args : Array Value} {H : Heap} (hR : qk_R G H0 ro ρ w H) (hv : ∀ x, v = some x → qk_ok w x) {t : State}
    (h : MQ below (fun _ _ o t => o = .returned (v.map (qk_rv ρ)) ∧ t.heap = H) args s cells slots (fun q => H0.size ≤ q) t) : qk_E G H0 ro ρ w s below (.inl v) w (cells + 0) (slots + 0) t := by
  obtain ⟨o, a1, a2, ⟨a3, a4⟩, L0, ⟨-, a6, a7⟩, a8⟩ := h
  exact ⟨o, ρ, L0, a1, a2, ⟨a3, hv⟩, fun u hu => ⟨rfl, hu⟩, fun _ _ => rfl, by rw [a4]; exact hR, a6, a7, a8⟩
theorem ev_fin {v : Option Value} (hq : Q (.inl v) w nc ns) (hs : qk_S d M pc L st w (.inl v) w 0 0) : Ev d M pc L st w nc ns Q := ⟨.inl v, w, 0, 0, hq, hs⟩
theorem ev_iret {x : Int32} {ty : FieldType} (hd : decode M.2.1 pc = .ok (.ireturn, 1)) (hr : M.2.2.2.1 = some ty) (hn : narrow ty (.int x) = .int x) (hq : Q (.inl (some (.int x))) w nc ns) : Ev d M pc L [.int x] w nc ns Q := by
  refine ev_fin hq (fun p l e R s m args below meth c H locs cells slots G H0 ro ρ ls X hR hL hst hl hlo h1 h2 h3 h4 => ?_)
  exact qk_Wm (fun t ht => qk_Ret hR (fun y hy => by cases hy; trivial) ht) (W.zret (Qc := fun _ _ o t => o = .returned ((some (Value.int x)).map (qk_rv ρ)) ∧ t.heap = H) X.1.1 X.1.2.1 (X.1.2.2.1.trans hr) hn (fun t ht _ => ⟨rfl, ht⟩) hlo hd X.1.2.2.2.2.2.1)
theorem ev_lret {x : Int64} (hd : decode M.2.1 pc = .ok (.lreturn, 1)) (hr : M.2.2.2.1 = some .long) (hq : Q (.inl (some (.long x))) w nc ns) : Ev d M pc L [.long x] w nc ns Q := by
  refine ev_fin hq (fun p l e R s m args below meth c H locs cells slots G H0 ro ρ ls X hR hL hst hl hlo h1 h2 h3 h4 => ?_)
  exact qk_Wm (fun t ht => qk_Ret hR (fun y hy => by cases hy; trivial) ht) (W.lret (Qc := fun _ _ o t => o = .returned ((some (Value.long x)).map (qk_rv ρ)) ∧ t.heap = H) X.1.1 X.1.2.1 (X.1.2.2.1.trans hr) (fun t ht _ => ⟨rfl, ht⟩) hlo hd X.1.2.2.2.2.2.1)
theorem ev_vret (hd : decode M.2.1 pc = .ok (.return_, 1)) (hr : M.2.2.2.1 = none) (hq : Q (.inl none) w nc ns) : Ev d M pc L [] w nc ns Q := by
  refine ev_fin hq (fun p l e R s m args below meth c H locs cells slots G H0 ro ρ ls X hR hL hst hl hlo h1 h2 h3 h4 => ?_)
  exact qk_Wm (fun t ht => qk_Ret hR (fun y hy => by cases hy) ht) (W.vret (Qc := fun _ _ o t => o = .returned ((none : Option Value).map (qk_rv ρ)) ∧ t.heap = H) X.1.1 X.1.2.1 (X.1.2.2.1.trans hr) (fun t ht _ => ⟨rfl, ht⟩) hlo hd X.1.2.2.2.2.2.1)
theorem ev_aret {v : Value} {C : String} (hd : decode M.2.1 pc = .ok (.areturn, 1)) (hr : M.2.2.2.1 = some (.object C)) (hv : qk_isr v = true) (hq : Q (.inl (some v)) w nc ns) : Ev d M pc L [v] w nc ns Q := by
  refine ev_fin hq (fun p l e R s m args below meth c H locs cells slots G H0 ro ρ ls X hR hL hst hl hlo h1 h2 h3 h4 => ?_)
  exact qk_Wm (fun t ht => qk_Ret hR (fun y hy => by cases hy; exact qk_hd hst) ht) (W.aret (v := qk_rv ρ v) (Qc := fun _ _ o t => o = .returned ((some v).map (qk_rv ρ)) ∧ t.heap = H) X.1.1 X.1.2.1 (X.1.2.2.1.trans hr) (Or.inl ⟨C, rfl⟩) (by cases v <;> first | exact Or.inl rfl | exact Or.inr ⟨_, rfl⟩ | cases hv) (fun t ht _ => ⟨rfl, ht⟩) hlo hd X.1.2.2.2.2.2.1)
end Heap4
end
section
/-! ===== rules: calls ===== -/
def qk_en : List Value → List (Option Value)
  | [] => []
  | .long x :: t => some (.long x) :: none :: qk_en t
  | .double x :: t => some (.double x) :: none :: qk_en t
  | v :: t => some v :: qk_en t
def qk_ent (n : Nat) (As : List Value) : List (Option Value) := qk_en As ++ List.replicate (n - (qk_en As).length) none
theorem qk_en_cons (v : Value) (t : List Value) : qk_en (v :: t) = some v :: (if v.category = 2 then none :: qk_en t else qk_en t) := by
  cases v <;> rfl
theorem qk_en_len (As : List Value) : (qk_en As).length = (lg_sl As).length := by
  induction As with
  | nil => rfl
  | cons v t ih =>
    rw [qk_en_cons]
    unfold lg_sl at ih ⊢
    rw [List.flatMap_cons, List.length_append]
    by_cases h : v.category = 2 <;> simp [h, ih] <;> omega
theorem qk_en_map (ρ : Nat → Nat) (As : List Value) : (lg_sl (As.map (qk_rv ρ))).length = (qk_en As).length := by
  rw [← qk_en_len]
  induction As with
  | nil => rfl
  | cons v t ih =>
    rw [List.map_cons, qk_en_cons, qk_en_cons, qk_rv_cat]
    by_cases h : v.category = 2 <;> simp [h, ih]
theorem qk_en_mem {As : List Value} {ρ : Nat → Nat} : ∀ (i j : Nat) (u : Value) (pad : List (Option Value)), (∀ x ∈ pad, x = none) → (j, u) ∈ qk_lp i (qk_en As ++ pad) → (j, qk_rv ρ u) ∈ lv_args i (As.map (qk_rv ρ)) ∧ u ∈ As := by
  induction As with
  | nil =>
    intro i j u pad hp h
    obtain ⟨k, -, hk⟩ := qk_lp_mem.mp h
    have := hp _ (List.mem_of_getElem? hk)
    cases this
  | cons v t ih =>
    intro i j u pad hp h
    rw [qk_en_cons] at h
    by_cases hc : v.category = 2
    · rw [if_pos hc] at h
      simp only [List.cons_append, qk_lp] at h
      rcases List.mem_cons.mp h with h | h
      · cases h
        exact ⟨by simp [lv_args], List.mem_cons_self⟩
      · obtain ⟨a, b⟩ := ih (i + 1 + 1) j u pad hp h
        refine ⟨?_, List.mem_cons_of_mem _ b⟩
        simp only [List.map_cons, lv_args, qk_rv_cat, hc, if_true]
        exact List.mem_cons_of_mem _ a
    · rw [if_neg hc] at h
      simp only [List.cons_append, qk_lp] at h
      rcases List.mem_cons.mp h with h | h
      · cases h
        exact ⟨by simp [lv_args], List.mem_cons_self⟩
      · obtain ⟨a, b⟩ := ih (i + 1) j u pad hp h
        refine ⟨?_, List.mem_cons_of_mem _ b⟩
        simp only [List.map_cons, lv_args, qk_rv_cat, hc, if_false]
        exact List.mem_cons_of_mem _ a
theorem qk_weaken {tb : Tables} {e : Env} {f : Frame} {below : List Frame} {a b : State} (h : Steps tb e (f :: below) a b) : Steps tb e below a b := by
  obtain ⟨n, h1, h2⟩ := h
  exact ⟨n, h1, fun k hk => Within.weaken (mid := [f]) (h2 k hk)⟩
/-- M is a method of the tables -/
def qk_isM (M : qk_M) : Prop := ((M.2.2.2.2 = [] ∧ Cond.code M.1 M.2.1 M.2.2.1 M.2.2.2.1 ∈ lw_tbl) ∨ Cond.codeWith M.1 M.2.1 M.2.2.1 M.2.2.2.1 M.2.2.2.2 ∈ lw_tbl) ∧ plainFor M.1 = true ∧ (M.1.cls ≠ "java/lang/invoke/MethodHandle" ∧ M.1.cls ≠ "java/lang/invoke/VarHandle") ∧ Cond.initialized M.1.cls ∈ lw_tbl ∧ M.2.2.1 ≤ 17
theorem qk_code {M : qk_M} (hM : qk_isM M) {U : State} (hU : qk_ws U) {mk : MethodId} (hn : U.methodNamed? M.1 = some mk) :
    ∃ meth c, U.vm.method? mk = some meth ∧ meth.code = some c ∧ c.code = M.2.1 ∧ c.maxLocals = M.2.2.1 ∧ meth.sig.returnType = M.2.2.2.1 ∧ meth.locks = false ∧ c.exceptionTable.toList.map (fun h => (h.startPc, h.endPc, h.handlerPc, h.catchType)) = M.2.2.2.2 ∧ parseMethodDescriptor M.1.desc = some meth.sig := by
  rcases hM.1 with ⟨h0, h1⟩ | h1
  · obtain ⟨meth, c, a1, a2, a3, a4, a5, a6, a7, a8⟩ := Cond.code_spec hn (hU _ h1 rfl #[])
    refine ⟨meth, c, a1, a2, a3, a4, a5, a6, ?_, a8⟩
    rw [h0]
    have : c.exceptionTable = #[] := by simpa using a7
    rw [this]; rfl
  · obtain ⟨mk', meth, c, a0, a1, a2, a3, a4, a5, a6, a7, a8⟩ := Cond.codeWith_spec (hU _ h1 rfl #[])
    cases hn.symm.trans a0
    exact ⟨meth, c, a1, a2, a3, a4, a6, a7, a5, a8⟩
theorem qk_Kmv {G : qk_G} {H0 : Heap} {ro : qk_O} {ρ : Nat → Nat} {s U : State} (hW : s.WarmedH U.vm) (h : qk_K G H0 ro ρ s) : qk_K G H0 ro ρ U := by
  obtain ⟨k1, k2, k3, k4, k5⟩ := h
  exact ⟨k1.moved hW.alike, qk_warm hW k2, k3.moved hW.alike, k4.moved hW.alike, fun v n f hv => ⟨(k5 v n f hv).1, (k5 v n f hv).2.1, (k5 v n f hv).2.2.moved hW.alike⟩⟩
theorem qk_inner {d : Nat} {M M' : qk_M} {w w1 : qk_W} {r1 : Option Value ⊕ Nat} {kc1 ks1 : Nat} {As : List Value} {p : Program} {l : Launch} {e : Env} {R : Room} {s : State} {m : MethodId} {args : Array Value} {below : List Frame} {meth : Method} {c : Code} {T : State} {H : Heap} {locs : List Loc} {cells slots : Nat} {G : qk_G} {H0 : Heap} {ro : qk_O} {ρ : Nat → Nat}
    (X : qk_X M p l s m meth c G H0 ro ρ) (hM : qk_isM M') (Y : Stand p l e R s m args below meth c T locs cells slots) (hT : T.heap = H) (hR : qk_R G H0 ro ρ w H) (hs : qk_S d M' 0 (qk_ent M'.2.2.1 As) [] w r1 w1 kc1 ks1) (hAs : ∀ x ∈ As, qk_ok w x) (hln : (qk_en As).length ≤ M'.2.2.1)
    {g : JFrame} (hg : g.method = m) (hsize : g.locals.size = c.maxLocals) {ig : Instr} (hdg : decode c.code g.pc = .ok (ig, 3)) (hW : 2 * g.monitorRoom + (g.stack.map fun v => v.category).sum ≤ 8) {mk : MethodId} (hn : s.methodNamed? M'.1 = some mk)
    (h1 : d + 1 ≤ R.frames) (h2 : 36 * (d + 1) ≤ R.locals) (h3 : cells + kc1 ≤ R.cells) (h4 : slots + ks1 ≤ R.slots) :
    ∃ t, (∀ acts, Steps p.tables e below (doInvoke e (T.setTop g) acts mk (As.map (qk_rv ρ)).toArray).1 t) ∧ qk_E G H0 ro ρ w (T.calling g mk (As.map (qk_rv ρ)).toArray) (.java g :: below) r1 w1 (0 + kc1) (0 + ks1) t := by
  have hUw : qk_ws T := qk_warm Y.warmed X.2.2.1.2.1
  have hnT : T.methodNamed? M'.1 = some mk := Y.named hn
  obtain ⟨methk, ck, a1, a2, a3, a4, a5, a6, a7, a8⟩ := qk_code hM hUw hnT
  have hpk : T.plainMethod mk := State.plainMethod.of_named hM.2.1 hnT a1
  have h17 := hM.2.2.2.2
  obtain ⟨Y', hin⟩ := Y.into hg hsize hdg (As.map (qk_rv ρ)).toArray (R' := { frames := d, cells := kc1, slots := ks1, locals := 36 * d }) a1 a2 a6 hpk h1 (by rw [a4]; simp only; omega) h3 h4
  have hcv : (T.calling g mk (As.map (qk_rv ρ)).toArray).vm = T.vm := by rw [State.calling_eq Y.here.top]; rfl
  have hch : (T.calling g mk (As.map (qk_rv ρ)).toArray).heap = H := by rw [State.calling_eq Y.here.top]; exact hT
  have X' : qk_X M' p l (T.calling g mk (As.map (qk_rv ρ)).toArray) mk methk ck G H0 ro ρ := by
    refine ⟨⟨X.1.1, a3, a5, a4, ?_, a6, (name_of_methodNamed hnT a1).1, a7⟩, ⟨X.2.1.1, X.2.1.2.1.moved (by rw [hcv]; exact Y.warmed.alike), X.2.1.2.2.1.moved (by rw [hcv]; exact Y.warmed.alike), fun q hq => (X.2.1.2.2.2 q hq).moved (by rw [hcv]; exact Y.warmed.alike)⟩, qk_Kmv (by rw [hcv]; exact Y.warmed) X.2.2.1, fun q cell hq hc => hR.1.2.2 q cell hq (by rw [← hch]; exact hc)⟩
    rw [hcv]
    exact findClass_of_methodNamed hnT
  have hpad : ∀ x ∈ List.replicate (M'.2.2.1 - (qk_en As).length) (none : Option Value), x = none := fun x hx => (List.mem_replicate.mp hx).2
  have hlv : lv_has ((lg_sl (As.map (qk_rv ρ)) ++ List.replicate (M'.2.2.1 - (lg_sl (As.map (qk_rv ρ))).length) Slot.unset).toArray) M'.2.2.1 ((qk_lp 0 (qk_ent M'.2.2.1 As)).map fun q => (q.1, qk_rv ρ q.2)) := by
    refine qk_sub (lv_entry (As.map (qk_rv ρ)) (by rw [qk_en_map]; exact hln)) ?_
    intro q hq
    obtain ⟨⟨j, u⟩, hm, rfl⟩ := List.mem_map.mp hq
    exact (qk_en_mem 0 j u _ hpad hm).1
  have k2 := hs p l e { frames := d, cells := kc1, slots := ks1, locals := 36 * d } (T.calling g mk (As.map (qk_rv ρ)).toArray) mk (As.map (qk_rv ρ)).toArray (.java g :: below) methk ck H [] 0 0 G H0 ro ρ _ X' hR (fun q hq => hAs _ (qk_en_mem (ρ := ρ) 0 q.1 q.2 _ hpad hq).2) (fun x hx => by cases hx) hlv (fun q hq => by cases hq) (Nat.le_refl _) (Nat.le_refl _) (by simp) (by simp)
  obtain ⟨t, t1, t2⟩ := k2 ((T.setTop g).pushFrame (.java (entryFrame mk (As.map (qk_rv ρ)).toArray ck.maxLocals))) hT Y'
  refine ⟨t, fun acts => ?_, t2⟩
  rw [hin acts, a4, lg_entry_eq]
  have t3 := qk_weaken t1
  rw [a4, lg_entry_eq] at t3
  exact t3
/-- a call's own step: from the frame g with the arguments on the stack to the invocation of mk, the arguments taken off -/
def qk_stp (p : Program) (l : Launch) (e : Env) (R : Room) (s : State) (m : MethodId) (args : Array Value) (below : List Frame) (meth : Method) (c : Code) (T : State) (locs : List Loc) (cells slots : Nat) (y : MethodName) (g : JFrame) (rest : List Value) (a : Array Value) : Prop :=
  ∃ (mk : MethodId) (vm₁ : Vm), s.methodNamed? y = some mk ∧ Stand p l e R s m args below meth c (T.setVm vm₁) locs cells slots ∧ ∀ target, (∀ acts, Steps p.tables e below (doInvoke e ((T.setVm vm₁).setTop { g with stack := rest }) acts mk a).1 target) → Steps p.tables e below (T.setTop g) target
/-- the words of a call: y is called by the instruction ig, entry idx of own's pool -/
def qk_cw (own : String) (y : MethodName) : Instr → Prop
  | .invokevirtual idx => Cond.methodLink own idx y ∈ lw_tbl ∧ Cond.instanceMethod y ∈ lw_tbl ∧ Cond.selects y.cls y y ∈ lw_tbl
  | .invokestatic idx => (Cond.methodLink own idx y ∈ lw_tbl ∨ ∃ host, Cond.methodLinkNest own idx y host ∈ lw_tbl) ∧ Cond.static y ∈ lw_tbl
  | .invokespecial idx => y.name = "<init>" ∧ (Cond.methodLink own idx y ∈ lw_tbl ∨ ∃ host, Cond.methodLinkNest own idx y host ∈ lw_tbl) ∧ Cond.instanceMethod y ∈ lw_tbl
  | _ => False
/-- what the receiver must be -/
def qk_rc (w : qk_W) (y : MethodName) : Instr → List Value → Prop
  | .invokevirtual _, .ref b :: _ => 16 ≤ b ∧ ∃ ci q fs, w b = some (.inr (ci, fs)) ∧ qcl[ci]? = some q ∧ q.1 = y.cls
  | .invokestatic _, _ => True
  | .invokespecial _, .ref _ :: _ => True
  | _, _ => False
def qk_np (M : qk_M) (ig : Instr) (n : Nat) : Bool := match parseMethodDescriptor M.1.desc with
  | some sg => match ig with
    | .invokestatic _ => n == sg.parameters.length
    | _ => n == sg.parameters.length + 1
  | none => false
end
section
/-! ===== rules: calls, their own step ===== -/
theorem qk_stpV {M M' : qk_M} {w : qk_W} {As : List Value} {b idx : Nat} {p : Program} {l : Launch} {e : Env} {R : Room} {s : State} {m : MethodId} {args : Array Value} {below : List Frame} {meth : Method} {c : Code} {T : State} {H : Heap} {locs : List Loc} {cells slots : Nat} {G : qk_G} {H0 : Heap} {ro : qk_O} {ρ : Nat → Nat}
    (X : qk_X M p l s m meth c G H0 ro ρ) (hM : qk_isM M') (Y : Stand p l e R s m args below meth c T locs cells slots) (hT : T.heap = H) (hR : qk_R G H0 ro ρ w H) (hcw : qk_cw M.1.cls M'.1 (.invokevirtual idx)) (hrc : qk_rc w M'.1 (.invokevirtual idx) (.ref b :: As)) (hnp : qk_np M' (.invokevirtual idx) (As.length + 1) = true)
    {g : JFrame} (hg : g.method = m) {rest : List Value} (hstack : g.stack = (As.map (qk_rv ρ)).reverse ++ .ref (ρ b) :: rest) (hdg : decode c.code g.pc = .ok (.invokevirtual idx, 3)) :
    qk_stp p l e R s m args below meth c T locs cells slots M'.1 g rest (Value.ref (ρ b) :: As.map (qk_rv ρ)).toArray := by
  obtain ⟨w1, w2, w3⟩ := hcw
  have hws := X.2.2.1.2.1
  obtain ⟨mk, methM, hnamed, hmethM, hstM, habM⟩ := Cond.instanceMethod_spec (hws _ w2 rfl args)
  obtain ⟨methM', cM, a1, -, -, -, -, -, -, hsigM⟩ := qk_code hM hws hnamed
  cases hmethM.symm.trans a1
  obtain ⟨c2, r2, m2, q1, q2, q3, q4, kP, hkP, hkPi⟩ := Cond.selects_spec (hws _ w3 rfl args)
  obtain ⟨hb16, ci, q, fs, hb, hq, hqc⟩ := hrc
  obtain ⟨g1, g2, g3⟩ := hR.2.2.1 b _ hb16 hb
  obtain ⟨r0, hr0, cellB, f1, f2, f3, -⟩ := g2
  have hcls : s.vm.findClass M'.1.cls = some cellB.cls := by
    rw [← hqc, f2]
    exact (X.2.2.1.1.1 ci q hq).2.1
  cases hcls.symm.trans q1
  cases (State.methodFound?_of_named hnamed hM.2.2.1).symm.trans q2
  cases hnamed.symm.trans q3
  have hselP : selectMethod e.platform s.vm cellB.cls mk = .method mk := by rw [Launch.admits_selectMethod Y.admits]; exact q4
  have hlen : (As.map (qk_rv ρ)).length = methM.sig.parameters.length := by
    simp only [qk_np, hsigM, beq_iff_eq] at hnp
    rw [List.length_map]; omega
  obtain ⟨vm₁, X₁, hstep₁⟩ := Y.invokevirtual X.1.1 X.1.2.2.2.2.1 (hws _ w1 rfl args) hnamed hmethM hstM hkP hkPi hM.2.2.1 (a := ρ b) (cell := cellB) (by rw [hT]; exact f1)
    (fun z h => by rw [f3] at h; cases h) hselP hmethM habM hkP hkPi (g := g) hg (argsL := As.map (qk_rv ρ)) (rest := rest) hlen hstack hdg
  exact ⟨mk, vm₁, hnamed, X₁, hstep₁⟩
theorem qk_stpS {M M' : qk_M} {As : List Value} {idx : Nat} {p : Program} {l : Launch} {e : Env} {R : Room} {s : State} {m : MethodId} {args : Array Value} {below : List Frame} {meth : Method} {c : Code} {T : State} {locs : List Loc} {cells slots : Nat} {G : qk_G} {H0 : Heap} {ro : qk_O} {ρ : Nat → Nat}
    (X : qk_X M p l s m meth c G H0 ro ρ) (hM : qk_isM M') (Y : Stand p l e R s m args below meth c T locs cells slots) (hcw : qk_cw M.1.cls M'.1 (.invokestatic idx)) (hnp : qk_np M' (.invokestatic idx) As.length = true)
    {g : JFrame} (hg : g.method = m) {rest : List Value} (hstack : g.stack = (As.map (qk_rv ρ)).reverse ++ rest) (hdg : decode c.code g.pc = .ok (.invokestatic idx, 3)) :
    qk_stp p l e R s m args below meth c T locs cells slots M'.1 g rest (As.map (qk_rv ρ)).toArray := by
  obtain ⟨w1, w2⟩ := hcw
  have hws := X.2.2.1.2.1
  have hstt := hws _ w2 rfl args
  have hnm : ∃ mk, s.methodNamed? M'.1 = some mk := by
    rcases hM.1 with ⟨-, h1⟩ | h1
    · exact Cond.code_named (hws _ h1 rfl args)
    · obtain ⟨mk, _, _, h2, -⟩ := Cond.codeWith_spec (hws _ h1 rfl args)
      exact ⟨mk, h2⟩
  obtain ⟨mk, hnamed⟩ := hnm
  obtain ⟨methM, cM, hmethM, -, -, -, -, -, -, hsigM⟩ := qk_code hM hws hnamed
  have hstatic : methM.isStatic = true := Cond.static_spec hnamed hmethM hstt
  obtain ⟨kP, hkP, -⟩ := className_of_methodNamed hnamed
  have hinitP : kP.init = .initialized := Cond.initialized_spec (findClass_of_methodNamed hnamed) hkP (hws _ hM.2.2.2.1 rfl args)
  have hlen : (As.map (qk_rv ρ)).length = methM.sig.parameters.length := by
    simp only [qk_np, hsigM, beq_iff_eq] at hnp
    rw [List.length_map]; omega
  rcases w1 with w1 | ⟨host, w1⟩
  · obtain ⟨vm₁, X₁, hstep₁⟩ := Y.invokestatic X.1.1 X.1.2.2.2.2.1 (hws _ w1 rfl args) hnamed hmethM hstatic hkP hinitP hM.2.2.1 (g := g) hg (argsL := As.map (qk_rv ρ)) (rest := rest) hlen hstack hdg
    exact ⟨mk, vm₁, hnamed, X₁, hstep₁⟩
  · obtain ⟨vm₁, X₁, hstep₁⟩ := Y.invokestaticNest X.1.1 X.1.2.2.2.2.1 (hws _ w1 rfl args) hnamed hmethM hstatic hkP hinitP hM.2.2.1 (g := g) hg (argsL := As.map (qk_rv ρ)) (rest := rest) hlen hstack hdg
    exact ⟨mk, vm₁, hnamed, X₁, hstep₁⟩
theorem qk_stpI {M M' : qk_M} {As : List Value} {b idx : Nat} {p : Program} {l : Launch} {e : Env} {R : Room} {s : State} {m : MethodId} {args : Array Value} {below : List Frame} {meth : Method} {c : Code} {T : State} {locs : List Loc} {cells slots : Nat} {G : qk_G} {H0 : Heap} {ro : qk_O} {ρ : Nat → Nat}
    (X : qk_X M p l s m meth c G H0 ro ρ) (hM : qk_isM M') (hMn : M'.2.2.2.2 = [] ∧ Cond.code M'.1 M'.2.1 M'.2.2.1 none ∈ lw_tbl) (Y : Stand p l e R s m args below meth c T locs cells slots) (hcw : qk_cw M.1.cls M'.1 (.invokespecial idx)) (hnp : qk_np M' (.invokespecial idx) (As.length + 1) = true)
    {g : JFrame} (hg : g.method = m) {rest : List Value} (hstack : g.stack = (As.map (qk_rv ρ)).reverse ++ .ref (ρ b) :: rest) (hdg : decode c.code g.pc = .ok (.invokespecial idx, 3)) :
    qk_stp p l e R s m args below meth c T locs cells slots M'.1 g rest (Value.ref (ρ b) :: As.map (qk_rv ρ)).toArray := by
  obtain ⟨wi, w1, w2⟩ := hcw
  have hws := X.2.2.1.2.1
  subst hg
  have hpl : e.platform.magicAccessors = ({} : Platform).magicAccessors := by rw [Y.admits.platform]
  have hlen : ∀ sig, parseMethodDescriptor M'.1.desc = some sig → (As.map (qk_rv ρ)).length = sig.parameters.length := by
    intro sig h
    simp only [qk_np, h, beq_iff_eq] at hnp
    rw [List.length_map]; omega
  rcases w1 with w1 | ⟨host, w1⟩
  · obtain ⟨mk, methM, cM, kP, vm₁, hnamed, -, -, -, -, -, -, -, hW₁, hstep₁⟩ := Steps.initColdArgs (e := e) Y.here X.1.1 Y.warmed hpl X.1.2.2.2.2.1 wi hM.2.2.1 (hws _ w1 rfl args) (hws _ w2 rfl args) (hws _ hMn.2 rfl args) (f := g) rfl hlen hstack hdg
    exact ⟨mk, vm₁, hnamed, Y.noted hW₁, hstep₁⟩
  · obtain ⟨mk, methM, cM, kP, vm₁, hnamed, -, -, -, -, -, -, -, hW₁, hstep₁⟩ := Steps.initColdArgsNest (e := e) Y.here X.1.1 Y.warmed hpl X.1.2.2.2.2.1 wi hM.2.2.1 (hws _ w1 rfl args) (hws _ w2 rfl args) (hws _ hMn.2 rfl args) (f := g) rfl hlen hstack hdg
    exact ⟨mk, vm₁, hnamed, Y.noted hW₁, hstep₁⟩
/-- the three in one; As: all arguments, the receiver first -/
theorem qk_stpA {M M' : qk_M} {w : qk_W} {As : List Value} {ig : Instr} {p : Program} {l : Launch} {e : Env} {R : Room} {s : State} {m : MethodId} {args : Array Value} {below : List Frame} {meth : Method} {c : Code} {T : State} {H : Heap} {locs : List Loc} {cells slots : Nat} {G : qk_G} {H0 : Heap} {ro : qk_O} {ρ : Nat → Nat}
    (X : qk_X M p l s m meth c G H0 ro ρ) (hM : qk_isM M') (hMi : M'.1.name = "<init>" → M'.2.2.2.2 = [] ∧ Cond.code M'.1 M'.2.1 M'.2.2.1 none ∈ lw_tbl) (Y : Stand p l e R s m args below meth c T locs cells slots) (hT : T.heap = H) (hR : qk_R G H0 ro ρ w H) (hcw : qk_cw M.1.cls M'.1 ig) (hrc : qk_rc w M'.1 ig As) (hnp : qk_np M' ig As.length = true)
    {g : JFrame} (hg : g.method = m) {rest : List Value} (hstack : g.stack = (As.map (qk_rv ρ)).reverse ++ rest) (hdg : decode c.code g.pc = .ok (ig, 3)) :
    qk_stp p l e R s m args below meth c T locs cells slots M'.1 g rest (As.map (qk_rv ρ)).toArray := by
  cases ig with
  | invokevirtual idx =>
    match As, hrc with
    | .ref b :: As', hrc =>
      exact qk_stpV X hM Y hT hR hcw hrc hnp hg (by rw [hstack]; simp [qk_rv]) hdg
  | invokestatic idx => exact qk_stpS X hM Y hcw hnp hg hstack hdg
  | invokespecial idx =>
    match As, hrc with
    | .ref b :: As', hrc =>
      exact qk_stpI X hM (hMi hcw.1) Y hcw hnp hg (by rw [hstack]; simp [qk_rv]) hdg
  | _ => exact hcw.elim
section Call
variable {d : Nat} {M M' : qk_M} {pc : Nat} {L : List (Option Value)} {st : List Value} {w : qk_W} {nc ns : Nat} {Q : Option Value ⊕ Nat → qk_W → Nat → Nat → Prop}
theorem qk_rs {ρ ρ1 : Nat → Nat} {w : qk_W} (h : ∀ v, w v ≠ none → ρ1 v = ρ v) (v : Option Value) {st : List Value} (hst : ∀ x ∈ st, qk_ok w x) : (v.toList ++ st).map (qk_rv ρ1) = (v.map (qk_rv ρ1)).toList ++ st.map (qk_rv ρ) := by
  rw [List.map_append, qk_map_congr h hst]
  cases v <;> rfl
/-- a call from a place that no handler covers -/
theorem ev_call {ig : Instr} {As st0 : List Value} (hd : decode M.2.1 pc = .ok (ig, 3)) (hM : qk_isM M') (hMi : M'.1.name = "<init>" → M'.2.2.2.2 = [] ∧ Cond.code M'.1 M'.2.1 M'.2.2.1 none ∈ lw_tbl) (hcw : qk_cw M.1.cls M'.1 ig) (hh : M.2.2.2.2 = []) (hst0 : st0 = As.reverse ++ st) (hrc : qk_rc w M'.1 ig As) (hnp : qk_np M' ig As.length = true) (hln : (qk_en As).length ≤ M'.2.2.1) (hr8 : (st.map fun v => v.category).sum ≤ 8)
    (k : Ev d M' 0 (qk_ent M'.2.2.1 As) [] w nc ns (fun r w1 nc1 ns1 => match r with
      | .inl v => Ev (d + 1) M (pc + 3) L (v.toList ++ st) w1 nc1 ns1 Q
      | .inr x => Q (.inr x) w1 nc1 ns1)) : Ev (d + 1) M pc L st0 w nc ns Q := by
  subst hst0
  obtain ⟨r1, w1, kc1, ks1, hq1, hs1⟩ := k
  have hsplit : ∀ {ρ : Nat → Nat}, (As.reverse ++ st).map (qk_rv ρ) = (As.map (qk_rv ρ)).reverse ++ st.map (qk_rv ρ) := fun {ρ} => by rw [List.map_append, List.map_reverse]
  cases r1 with
  | inl v =>
    obtain ⟨r, w', kc, ks, hq, hs⟩ := hq1
    refine ⟨r, w', kc1 + kc, ks1 + ks, by rw [← Nat.add_assoc, ← Nat.add_assoc]; exact hq, ?_⟩
    intro p l e R s m args below meth c H locs cells slots G H0 ro ρ ls X hR hL hst hl hlo h1 h2 h3 h4 T hT Y
    have hA : ∀ x ∈ As, qk_ok w x := fun x hx => hst x (List.mem_append_left _ (List.mem_reverse.mpr hx))
    have hS : ∀ x ∈ st, qk_ok w x := fun x hx => hst x (List.mem_append_right _ hx)
    have hdc : decode c.code (F0 m pc ls ((As.reverse ++ st).map (qk_rv ρ))).pc = .ok (ig, 3) := by rw [X.1.2.1]; exact hd
    obtain ⟨mk, vm₁, hnamed, Y₁, hstep⟩ := qk_stpA X hM hMi Y hT hR hcw hrc hnp (g := F0 m pc ls ((As.reverse ++ st).map (qk_rv ρ))) rfl (rest := st.map (qk_rv ρ)) hsplit hdc
    obtain ⟨t, t1, o, ρ1, L1, b1, b2, ⟨b3, b3'⟩, b4, b5, b6, b7, b8, b9⟩ := qk_inner X hM Y₁ hT hR hs1 hA hln (g := F0 m pc ls (st.map (qk_rv ρ))) rfl (by rw [X.1.2.2.2.1]; exact hl.1) hdc (by show 2 * 0 + _ ≤ 8; rw [qk_cat8]; omega) hnamed (by omega) (by omega) (by omega) (by omega)
    subst b3
    obtain ⟨T', Y₂, c1, c2, c3⟩ := Y₁.outOf (g := F0 m pc ls (st.map (qk_rv ρ))) rfl hdc b2 b7 b8
    have hρ : ∀ v, w v ≠ none → ρ1 v = ρ v := fun v hv => (b4 v hv).1
    have hth : T'.heap = t.heap := by
      rw [c3]
      exact (State.heap_setTop _ _).symm
    obtain ⟨t2, d1, d2⟩ := hs p l e R s m args below meth c T'.heap _ _ _ G H0 ro ρ1 ls ⟨X.1, X.2.1, qk_Kup X.2.2.1 b5, X.2.2.2⟩ (by rw [hth]; exact b6) (fun q hq => qk_ok_mono (fun u hu => (b4 u hu).2) (hL q hq)) (fun x hx => by
      rcases List.mem_append.mp hx with h | h
      · cases v with
        | none => cases h
        | some y => rw [List.mem_singleton.mp h]; exact b3' y rfl
      · exact qk_ok_mono (fun u hu => (b4 u hu).2) (hS x h)) (by rw [qk_lmap_congr hρ hL]; exact hl) (fun q hq => by
      rcases List.mem_append.mp hq with h | h
      · exact hlo q h
      · exact b9 q h) h1 h2 (by omega) (by omega) T' rfl Y₂
    refine ⟨t2, hstep _ (fun acts => (t1 acts).trans ?_), ?_⟩
    · rw [c3]
      rw [qk_rs hρ v hS] at d1
      exact d1
    · have e1 : cells + (0 + kc1) + kc = cells + (kc1 + kc) := by omega
      have e2 : slots + (0 + ks1) + ks = slots + (ks1 + ks) := by omega
      rw [e1, e2] at d2
      exact qk_Em (fun u hu => b4 u hu) b5 d2
  | inr x =>
    refine ⟨.inr x, w1, kc1, ks1, hq1, ?_⟩
    intro p l e R s m args below meth c H locs cells slots G H0 ro ρ ls X hR hL hst hl hlo h1 h2 h3 h4 T hT Y
    have hA : ∀ x ∈ As, qk_ok w x := fun x hx => hst x (List.mem_append_left _ (List.mem_reverse.mpr hx))
    have hdc : decode c.code (F0 m pc ls ((As.reverse ++ st).map (qk_rv ρ))).pc = .ok (ig, 3) := by rw [X.1.2.1]; exact hd
    obtain ⟨mk, vm₁, hnamed, Y₁, hstep⟩ := qk_stpA X hM hMi Y hT hR hcw hrc hnp (g := F0 m pc ls ((As.reverse ++ st).map (qk_rv ρ))) rfl (rest := st.map (qk_rv ρ)) hsplit hdc
    obtain ⟨t, t1, o, ρ1, L1, b1, b2, ⟨b3, b3', b3''⟩, b4, b5, b6, b7, b8, b9⟩ := qk_inner X hM Y₁ hT hR hs1 hA hln (g := F0 m pc ls (st.map (qk_rv ρ))) rfl (by rw [X.1.2.2.2.1]; exact hl.1) hdc (by show 2 * 0 + _ ≤ 8; rw [qk_cat8]; omega) hnamed (by omega) (by omega) (by omega) (by omega)
    subst b3
    obtain ⟨T', Y₂, c1, c2, c3⟩ := Y₁.outOfThrown (g := F0 m pc ls (st.map (qk_rv ρ))) rfl b2 b7 b8
    have hth : T'.heap = t.heap := by
      rw [c3]
      exact (Stand.throwing_heap _ _ _).symm
    have hex : c.exceptionTable.toList = [] := by
      have h5 := X.1.2.2.2.2.2.2.2
      rw [hh] at h5
      exact List.map_eq_nil_iff.mp h5
    obtain ⟨l1, l2, l3, l4, l5⟩ := Y₂.leaveThrown (ρ1 x) (g := F0 m pc ls (st.map (qk_rv ρ))) rfl rfl rfl (fun y hy => by rw [hex] at hy; cases hy) X.1.2.2.2.2.2.1
    refine ⟨_, hstep _ (fun acts => (t1 acts).trans (by rw [c3]; exact l1)), .threw (ρ1 x), ρ1, locs ++ L1, l2, l3, ⟨rfl, b3', b3''⟩, b4, b5, ?_, l4, ?_, fun q hq => ?_⟩
    · show qk_R G H0 ro ρ1 w1 T'.heap
      rw [hth]; exact b6
    · have e1 : cells + (0 + kc1) = cells + kc1 := by omega
      have e2 : slots + (0 + ks1) = slots + ks1 := by omega
      rw [e1, e2] at l5
      exact l5
    · rcases List.mem_append.mp hq with h | h
      · exact hlo q h
      · exact b9 q h
end Call
end
section
/-! ===== rules: throw new E(text) ===== -/
theorem qk_rebase {p : Program} {l : Launch} {e : Env} {R : Room} {s : State} {m : MethodId} {args : Array Value} {below : List Frame} {meth : Method} {c : Code} {T : State} {locs : List Loc} {cells slots : Nat} (Y : Stand p l e R s m args below meth c T locs cells slots) (hc : cells ≤ R.cells) (hs : slots ≤ R.slots) :
    Stand p l e { frames := R.frames, cells := R.cells - cells, slots := R.slots - slots, locals := R.locals } (T.setFrames (.invoking m args :: below)) m args below meth c T [] 0 0 := by
  obtain ⟨g₀, hfr⟩ := Y.frames_eq
  have hcur : T.cur < T.threads.size := State.cur_lt_of_frames hfr
  obtain ⟨th, hth, -⟩ := State.frames_cons hfr
  have hf' : (T.setFrames (.invoking m args :: below)).frames = .invoking m args :: below := State.frames_setFrames _ hcur
  have hm' : T.vm.method? m = some meth := by rw [Y.warmed.alike.method?]; exact Y.method
  have hme : (T.setFrames (.invoking m args :: below)).me.stackBytes = T.me.stackBytes := State.stackBytes_setFrames T _
  have hli : e.platform.stackLimits (T.setFrames (.invoking m args :: below)).me = e.platform.stackLimits T.me := State.stackLimits_setFrames e.platform T _
  refine ⟨Y.admits, Y.cas, Y.clock, hf', ?_, ?_, hm', Y.code, Y.here, Y.tail, State.WarmedH.refl (T.setFrames (.invoking m args :: below)), hli.symm, hme.symm, ?_⟩
  · have h0 := Y.room
    have h1 := Y.heapSize
    have h2 := Y.used
    have h3 := Y.book
    have e1 := State.localsInUse_invoking Y.frames Y.method Y.code
    have e2 := State.localsInUse_invoking hf' (show (T.setFrames (.invoking m args :: below)).vm.method? m = some meth from hm') Y.code
    have e3 : (T.setFrames (.invoking m args :: below)).heap = T.heap := rfl
    have e4 : (T.setFrames (.invoking m args :: below)).slotsUsed = T.slotsUsed := rfl
    have e5 : (T.setFrames (.invoking m args :: below)).slotsTrue = T.slotsTrue := rfl
    have e6 := Y.frames
    simp only [State.hasRoom, Bool.and_eq_true, decide_eq_true_eq] at h0 ⊢
    rw [hf', hme, hli, e2, e3, e4, e5, Y.limits, Y.bytes]
    rw [e6, e1] at h0
    refine ⟨⟨⟨⟨?_, ?_, ?_, ?_, ?_, ?_⟩, ?_⟩, ?_⟩, h3⟩
    · exact h0.1.1.1.1
    · exact h0.1.1.1.2.1
    · exact h0.1.1.1.2.2.1
    · exact h0.1.1.1.2.2.2.1
    · exact h0.1.1.1.2.2.2.2.1
    · exact h0.1.1.1.2.2.2.2.2
    · have := h0.1.1.2; omega
    · have := h0.1.2; omega
  · have h0 := Y.hears
    cases below with
    | nil => simpa [State.hears, hm', Y.method, State.setFrames] using h0
    | cons f r =>
      cases f with
      | java g =>
        simp only [State.hears] at h0 ⊢
        have : (T.setFrames (.invoking m args :: .java g :: r)).code? g.method = s.code? g.method := by
          rw [State.code?_eq, State.code?_eq]
          show (T.vm.method? g.method).bind _ = _
          rw [Y.warmed.alike.method?]
        rw [this]; exact h0
      | native _ => rfl
      | proc _ => rfl
      | _ => simpa [State.hears, hm', Y.method, State.setFrames] using h0
  · obtain ⟨th', hth', -⟩ := State.frames_cons hf'
    have h := (State.sameButNew.refl (T.setFrames (.invoking m args :: below)) hth').setFrames T.frames (by simpa [State.setFrames] using hcur)
    rw [State.setFrames_setFrames, State.setFrames_self hth] at h
    exact h
def qk_xn : List String := ["java/lang/RuntimeException", "java/lang/Exception"]
def qk_xa (a : Cond) : Bool := (decide (a ∈ lw_tbl) && qk_gw a) || decide (a = .laysStatic "java/lang/Throwable" "UNASSIGNED_STACK" "[Ljava/lang/StackTraceElement;") || decide (a = .laysStatic "java/lang/Throwable" "SUPPRESSED_SENTINEL" "Ljava/util/List;") || decide (a = .isRef (.static "java/lang/Throwable" "UNASSIGNED_STACK" "[Ljava/lang/StackTraceElement;")) || decide (a = .isRef (.static "java/lang/Throwable" "SUPPRESSED_SENTINEL" "Ljava/util/List;"))
/-- the words of 'throw new E(text)' -/
def qk_xw (own : String) (ie is ic ciE : Nat) (E text : String) : Prop :=
  qcl[ciE]? = some (E, qT_E, 0) ∧ Cond.classLink own ie E ∈ lw_tbl ∧ Cond.instantiable E 6 ∈ lw_tbl ∧ Cond.initialized E ∈ lw_tbl ∧ Cond.stringRef own is text ∈ lw_tbl ∧ Bundle.fit E = true ∧ (Bundle.ownAtoms own ic E qk_xn).all qk_xa = true
theorem ev_throw {d : Nat} {M : qk_M} {pc : Nat} {L : List (Option Value)} {w : qk_W} {nc ns : Nat} {Q : Option Value ⊕ Nat → qk_W → Nat → Nat → Prop} {ie is ic ciE : Nat} {E text : String} (v : Nat)
    (hd0 : decode M.2.1 pc = .ok (.new ie, 3)) (hd3 : decode M.2.1 (pc + 3) = .ok (.dup, 1)) (hd4 : decode M.2.1 (pc + 3 + 1) = .ok (.ldc is, 2)) (hd6 : decode M.2.1 (pc + 3 + 1 + 2) = .ok (.invokespecial ic, 3)) (hd9 : decode M.2.1 (pc + 3 + 1 + 2 + 3) = .ok (.athrow, 1))
    (hx : qk_xw M.1.cls ie is ic ciE E text) (hh : M.2.2.2.2 = []) (h6 : 6 ≤ d) (hv : 16 ≤ v) (hn : w v = none) (hq : Q (.inr v) (qk_set w v (.inr (ciE, []))) (nc + 1) (ns + 6)) : Ev d M pc L [] w nc ns Q := by
  refine ⟨.inr v, qk_set w v (.inr (ciE, [])), 1, 6, hq, ?_⟩
  intro p l e R s m args below meth c H locs cells slots G H0 ro ρ ls X hR hL hst hl hlo h1 h2 h3 h4 T hT Y
  obtain ⟨hc, x1, x2, x3, x4, x5, x6⟩ := hx
  have Y0 := qk_rebase Y (by omega) (by omega)
  have hsv : (T.setFrames (.invoking m args :: below)).vm = T.vm := rfl
  have hsh : (T.setFrames (.invoking m args :: below)).heap = H := hT
  have hws : qk_ws (T.setFrames (.invoking m args :: below)) := qk_warm (by rw [hsv]; exact Y.warmed) X.2.2.1.2.1
  have hown : (T.setFrames (.invoking m args :: below)).vm.findClass M.1.cls = some m.cls := by rw [hsv, Y.warmed.alike.findClass]; exact X.1.2.2.2.2.1
  have hex : c.exceptionTable.toList = [] := by
    have h5 := X.1.2.2.2.2.2.2.2
    rw [hh] at h5
    exact List.map_eq_nil_iff.mp h5
  have htr : e.platform.stackTraces = false := by
    have h5 : e.platform.stackTraces = l.stackTraces := by rw [Y.admits.platform]
    rw [h5]; exact X.2.1.1
  have hkeep : ∀ q, q < H0.size → (T.setFrames (.invoking m args :: below)).heap[q]? = H0[q]? := fun q hq => by rw [hsh]; exact hR.1.2.1 q hq
  have hsf : ∀ n d, qk_sf n d s H0 → qk_sf n d (T.setFrames (.invoking m args :: below)) (T.setFrames (.invoking m args :: below)).heap := by
    intro n d h
    obtain ⟨c1, k1, i1, fd1, a1, cell1, v1, g1, g2, g3, g4, g5, g6⟩ := h.moved (U := T.setFrames (.invoking m args :: below)) (by rw [hsv]; exact Y.warmed.alike)
    exact ⟨c1, k1, i1, fd1, a1, cell1, v1, g1, g2, g3, g4, by rw [hkeep a1 (Array.getElem?_eq_some_iff.mp g5).1]; exact g5, g6⟩
  have hat : ∀ a ∈ Bundle.ownAtoms M.1.cls ic E qk_xn, a.before args (T.setFrames (.invoking m args :: below)) = true := by
    intro a ha
    have h5 := List.all_eq_true.mp x6 a ha
    simp only [qk_xa, Bool.or_eq_true, Bool.and_eq_true, decide_eq_true_eq] at h5
    rcases h5 with (((⟨h5, h5'⟩ | rfl) | rfl) | rfl) | rfl
    · exact hws a h5 h5' args
    · exact (hsf _ _ X.2.1.2.1).lays
    · exact (hsf _ _ X.2.1.2.2.1).lays
    · exact (hsf _ _ X.2.1.2.1).isRef
    · exact (hsf _ _ X.2.1.2.2.1).isRef
  obtain ⟨vm₁, cX, kX, hfX, hkX, -, -, Y1, st1⟩ := Y0.newCold X.1.1 (own := M.1.cls) (C := E) (index := ie) (n := 6) hown (hws _ x1 rfl args) (hws _ x2 rfl args) (hws _ x3 rfl args) (g := F0 m pc ls []) rfl (by rw [X.1.2.1]; exact hd0) (by show 0 + 1 ≤ R.cells - cells; omega) (by show 0 + 6 ≤ R.slots - slots; omega)
  have hA : T.heap.size = H.size := by rw [hT]
  generalize hT1 : (T.setVm vm₁).pushCell { cls := cX, slots := kX.instanceTypes.map defaultValue, vm := .none } = T1 at Y1 st1
  have hcellA : T1.heap[T.heap.size]? = some (freshCell cX kX) := by rw [← hT1]; exact State.heap_pushCell_size _ _
  have K : W p l e { frames := R.frames, cells := R.cells - cells, slots := R.slots - slots, locals := R.locals } (T.setFrames (.invoking m args :: below)) m args below meth c T1.heap [] (0 + 1) (0 + 6) (qk_E G H0 ro ρ w s below (.inr v) (qk_set w v (.inr (ciE, []))) (cells + 1) (slots + 6)) (F0 m (pc + 3) ls [.ref T.heap.size]) := by
    refine lv_dup X.1.1 X.1.2.1 hd3 rfl ?_
    intro T2 hT2 Y2
    have hconst := hws _ x4 rfl args
    obtain ⟨-, -, -, sa, -, -, -, -, -, hev⟩ := Cond.stringRef_spec hown hconst
    obtain ⟨U, hsteps, hrun, hend, hW, hsame, ce, hce, K⟩ := Y2.ctorThrowS X.1.1 htr (own := M.1.cls) (cls := E) (names := qk_xn) (ic := ic) hown x5 (by decide +kernel)
      hat (fun y hy => by cases hy) hfX hkX (by rw [hT2]; exact hcellA) (Nat.le_refl _) (msg := .ref sa) rfl
      (g := F0 m (pc + 3 + 1 + 2) ls [.ref sa, .ref T.heap.size, .ref T.heap.size]) rfl (by rw [X.1.2.2.2.1]; exact hl.1) rfl rfl (rest := []) rfl
      (by rw [X.1.2.1]; exact hd6) (by rw [X.1.2.1]; exact hd9) (fun y hy => by rw [hex] at hy; cases hy) (by show 2 + 3 < R.frames; omega) (by show 2 * 0 + (1 + 0) + (13 * (2 + 1) + 42) ≤ R.locals; omega) X.1.2.2.2.2.2.1
    obtain ⟨e2, q2, q3, q4, q5, q6⟩ := id hsame
    have hold : ∀ (q : Nat) (cell : Cell), H[q]? = some cell → U.heap[q]? = some cell := by
      intro q cell hq
      obtain ⟨c', g1, g2, g3, g4⟩ := q6 q cell (by rw [hsh]; exact hq)
      have : c' = cell := by
        rw [g2]
        have : c'.slots = cell.slots := Array.ext_getElem? (fun i => g4 i (fun h => by cases h))
        rw [this]
      rw [← this]; exact g1
    have hlt : T.heap.size < U.heap.size := (Array.getElem?_eq_some_iff.mp hce).1
    have hz : U.heap.size = H.size + 1 := by
      have h5 : U.heap.size ≤ (T.setFrames (.invoking m args :: below)).heap.size + (0 + 1) := q3
      rw [hsh] at h5
      omega
    have oq : ∀ q, q < H.size → U.heap[q]? = H[q]? := by
      intro q hq
      rw [Array.getElem?_eq_getElem hq]
      exact hold q _ (Array.getElem?_eq_getElem hq)
    have hup := qk_up_dom (ρ := ρ) (n := H.size) hn
    have h16 : ∀ u, u < 16 → va_up ρ v H.size u = ρ u := fun u hu => by simp [va_up, show u ≠ v by omega]
    refine ⟨U, ?_, .threw T.heap.size, va_up ρ v H.size, locs, hrun, hend, ⟨?_, hv, by rw [qk_set_eq]; exact fun h => by cases h⟩, fun u hu => ⟨hup u hu, qk_set_some hu⟩, h16, ?_, State.WarmedH.trans Y.warmed hW, ?_, hlo⟩
    · exact Y2.ldcString X.1.1 (own := M.1.cls) (text := text) (index := is) (a := sa) hown hconst hev (g := F0 m (pc + 3 + 1) ls [.ref T.heap.size, .ref T.heap.size]) rfl (by rw [X.1.2.1]; exact hd4) _ hsteps
    · rw [hA]; simp [va_up]
    · refine qk_Rnew hR hv hn hz oq ⟨_, hc, ce, by rw [← hA]; exact hce, ?_, K.vm, fun k hk => by cases hk⟩ (fun x hx => by cases hx)
      have h5 := (X.2.2.1.1.1 ciE _ hc).2.1
      have h7 := K.cls
      rw [hsv, Y.warmed.alike.findClass] at h7
      exact Option.some.inj (h7.symm.trans h5)
    · have eU : U = ({ T.setFrames U.frames with heap := U.heap, slotsUsed := U.slotsUsed } : State).setVm U.vm := by
        have h5 : U = ({ U with vm := (T.setFrames (.invoking m args :: below)).vm } : State).setVm U.vm := rfl
        rw [e2, State.setFrames_setFrames] at h5
        exact h5
      have hB : (T.setVm s.vm).sameButNew ({ U with vm := s.vm } : State) [] (0 + 1) (0 + 6) := ⟨congrArg (fun z : State => ({ z with vm := s.vm } : State)) eU, q2, q3, q4, q5, q6⟩
      have h5 := Y.same.trans hB
      rw [List.append_nil] at h5
      exact h5
  obtain ⟨t, t1, t2⟩ := K T1 rfl Y1
  exact ⟨t, st1 t t1, t2⟩
end
section
/-! ===== rules: catches ===== -/
theorem qk_go1 {E : CtlPost} {e : Env} {d : Bool} {acts : List Action} {s : State} {f : JFrame} {a : Addr} {Q : Handler → Pre} {x : ExceptionTableEntry} {t : List ExceptionTableEntry} {c : ClassId} {vm' : Vm} {cell : Cell} (hx : covers x f.pc = true) (h0 : x.catchType ≠ 0)
    (hg : (Jvm.resolveClass f.method.cls x.catchType).Gives e.toSetting s.vm (.ok c) vm') (hsz : vm'.classes.size ≤ s.vm.classes.size) (hcell : s.heap[a]? = some cell) (hobj : ∀ k, cell.vm ≠ .statics k) (hk : ∃ k, vm'.classes[cell.cls]? = some k) (hc : ∃ k, vm'.classes[c]? = some k) :
    wp (findHandler.go f a (x :: t)) Q E e d acts s ↔ if vm'.assignable cell.cls c = true then Q (.found x.handlerPc) d acts (s.setVm vm') else wp (findHandler.go f a t) Q E e d acts (s.setVm vm') := by
  simp only [covers] at hx
  obtain ⟨ha, ht⟩ := hg.op (op := VmOp.resolveClass f.method.cls x.catchType) rfl
  cases hfit : vm'.assignable cell.cls c <;>
    simp [findHandler.go, hx, h0, ha, ht, hsz, hcell, hobj, hk, hc, hfit, VmOp.dirties, VmOp.acts]
/-- the handler that takes an exception of class E thrown at pc -/
def qk_find (own E : String) (pc : Nat) : List (Nat × Nat × Nat × Nat) → Nat → Prop
  | [], _ => False
  | q :: t, hpc => (q.1 ≤ pc ∧ pc < q.2.1 ∧ q.2.2.2 ≠ 0 ∧ ∃ C, Cond.classLink own q.2.2.2 C ∈ lw_tbl ∧ ((C = E ∧ Cond.castable E E ∈ lw_tbl ∧ q.2.2.1 = hpc) ∨ ((E, C) ∈ qk_ncl ∧ qk_find own E pc t hpc)))
theorem qk_search {own E : String} {pc hpc : Nat} {e : Env} {s : State} {f : JFrame} {a : Addr} {cE : ClassId} (hpl : e.platform.magicAccessors = ({} : Platform).magicAccessors) (hws : qk_ws s) (hown : s.vm.findClass own = some f.method.cls) (hf : f.pc = pc) (hE : s.vm.findClass E = some cE) (hnc : ∀ q ∈ qk_ncl, va_Nc q.1 q.2 s) :
    ∀ (tab : List ExceptionTableEntry) (U : State), s.WarmedH U.vm → (∃ cell, U.heap[a]? = some cell ∧ (∀ k, cell.vm ≠ .statics k) ∧ cell.cls = cE) → qk_find own E pc (tab.map fun h => (h.startPc, h.endPc, h.handlerPc, h.catchType)) hpc →
      ∃ vm', s.WarmedH vm' ∧ ∀ (Q : Handler → Pre) (E' : CtlPost) (d : Bool) (acts : List Action), wp (findHandler.go f a tab) Q E' e d acts U ↔ Q (.found hpc) d acts (U.setVm vm') := by
  intro tab
  induction tab with
  | nil => intro U _ _ h; exact h.elim
  | cons x t ih =>
    intro U hW hcell h
    obtain ⟨h1, h2, h3, C, h4, h5⟩ := h
    obtain ⟨cell, hc1, hc2, hc3⟩ := hcell
    obtain ⟨cc, hfcc, hcl⟩ := Cond.classLink_spec hown (hws _ h4 rfl #[]) e.platform hpl
    obtain ⟨hg₁, hwarm₁, -⟩ := State.classEntry (e := e) hW hcl
    have hsz : (U.vm.noted f.method.cls x.catchType (.cls cc)).classes.size ≤ U.vm.classes.size := by rw [Vm.size_noted]; exact Nat.le_refl _
    generalize U.vm.noted f.method.cls x.catchType (.cls cc) = vm₁ at hg₁ hwarm₁ hsz
    have hk1 : ∃ k, vm₁.classes[cell.cls]? = some k := by
      rw [hc3]
      exact Vm.classAt_of_findClass (name := E) (by rw [hwarm₁.alike.findClass]; exact hE)
    have hk2 : ∃ k, vm₁.classes[cc]? = some k := Vm.classAt_of_findClass (name := C) (by rw [hwarm₁.alike.findClass]; exact hfcc)
    have hcov : covers x f.pc = true := by
      rw [hf]
      simp only [covers, Bool.and_eq_true, decide_eq_true_eq]
      exact ⟨h1, h2⟩
    rcases h5 with ⟨rfl, h6, h7⟩ | ⟨h6, h7⟩
    · refine ⟨vm₁, hwarm₁, fun Q E' d acts => ?_⟩
      obtain ⟨c3, c4, hc3', hc4, hasg⟩ := Cond.castable_spec (hws _ h6 rfl #[])
      have e1 : c3 = cE := Option.some.inj (hc3'.symm.trans hE)
      have e2 : c4 = cE := Option.some.inj (hc4.symm.trans hE)
      have e3 : cc = cE := Option.some.inj (hfcc.symm.trans hE)
      subst e1
      rw [e2] at hasg
      rw [qk_go1 hcov h3 hg₁ hsz hc1 hc2 hk1 hk2, if_pos (by rw [hwarm₁.alike.assignable, hc3, e3]; exact hasg)]
      rw [show x.handlerPc = hpc from h7]
    · obtain ⟨c5, t5, g1, g2, g3⟩ := hnc _ h6
      have e1 : c5 = cE := Option.some.inj (g1.symm.trans hE)
      have e2 : t5 = cc := Option.some.inj (g2.symm.trans hfcc)
      subst e1; subst e2
      obtain ⟨vm', hw', hh⟩ := ih (U.setVm vm₁) hwarm₁ ⟨cell, hc1, hc2, hc3⟩ h7
      refine ⟨vm', hw', fun Q E' d acts => ?_⟩
      rw [qk_go1 hcov h3 hg₁ hsz hc1 hc2 hk1 hk2, if_neg (by rw [hwarm₁.alike.assignable, hc3, g3]; decide)]
      exact hh Q E' d acts
theorem qk_caught {tb : Tables} {e : Env} {s target : State} {g : JFrame} {c : Code} {below : List Frame} {a : Addr} {pc : Nat} {vm' : Vm} (h : At s g.method c below)
    (hfind : ∀ (Q : Handler → Pre) (E : CtlPost) (d : Bool) (acts : List Action), wp (findHandler g a) Q E e d acts ((s.setTop g).pushFrame (.throwing a)) ↔ Q (.found pc) d acts (((s.setTop g).pushFrame (.throwing a)).setVm vm'))
    (hrest : Steps tb e below ((s.setVm vm').setTop { g with pc := pc, stack := [.ref a] }) target) : Steps tb e below ((s.setTop g).pushFrame (.throwing a)) target := by
  obtain ⟨hgo, hw⟩ := h.throwing a
  refine Steps.head hgo hw ?_
  have hstep : (stepThrowing e ((s.setTop g).pushFrame (.throwing a)) a (.java g :: s.frames.tail)).1 = (((s.setTop g).pushFrame (.throwing a)).setVm vm').setFrames (.java { g with pc := pc, stack := [.ref a] } :: s.frames.tail) := by
    simp only [stepThrowing, searchFrame, vmDo]
    generalize hr : Sem.go _ e false [] ((s.setTop g).pushFrame (.throwing a)) = res
    obtain ⟨as, rfl, ha⟩ := Sem.eq_ok_of hr (a := Handler.found pc) (s' := ((s.setTop g).pushFrame (.throwing a)).setVm vm') (acts' := []) (by simp [hfind _ _ _ _])
    rfl
  rw [stepThread_throwing (frames_entered h.top _), hstep]
  obtain ⟨g₀, hg⟩ := Option.isSome_iff_exists.mp h.top
  obtain ⟨r, hr⟩ := State.topJava?_eq_some.mp hg
  have hr' : (s.setVm vm').frames = .java g₀ :: r := hr
  rw [State.setTop_of_frames _ hr'] at hrest
  rw [hr]
  have e1 : (((s.setTop g).pushFrame (.throwing a)).setVm vm').setFrames (.java { g with pc := pc, stack := [.ref a] } :: (Frame.java g₀ :: r).tail) = (s.setVm vm').setFrames (.java { g with pc := pc, stack := [.ref a] } :: r) := by
    rw [State.pushFrame, State.setTop_of_frames _ hr, State.setFrames_setFrames]
    exact State.setFrames_setFrames (s.setVm vm') _ _
  rw [e1]
  exact hrest
section Catch
variable {d : Nat} {M M' : qk_M} {pc : Nat} {L : List (Option Value)} {st : List Value} {w : qk_W} {nc ns : Nat} {Q : Option Value ⊕ Nat → qk_W → Nat → Nat → Prop}
/-- a call from a place that handlers cover -/
theorem ev_callH {ig : Instr} {As st0 : List Value} (hd : decode M.2.1 pc = .ok (ig, 3)) (hM : qk_isM M') (hMi : M'.1.name = "<init>" → M'.2.2.2.2 = [] ∧ Cond.code M'.1 M'.2.1 M'.2.2.1 none ∈ lw_tbl) (hcw : qk_cw M.1.cls M'.1 ig) (hst0 : st0 = As.reverse ++ st) (hrc : qk_rc w M'.1 ig As) (hnp : qk_np M' ig As.length = true) (hln : (qk_en As).length ≤ M'.2.2.1) (hr8 : (st.map fun v => v.category).sum ≤ 8)
    (k : Ev d M' 0 (qk_ent M'.2.2.1 As) [] w nc ns (fun r w1 nc1 ns1 => match r with
      | .inl v => Ev (d + 1) M (pc + 3) L (v.toList ++ st) w1 nc1 ns1 Q
      | .inr x => ∃ ci q fs hpc, w1 x = some (.inr (ci, fs)) ∧ qcl[ci]? = some q ∧ qk_find M.1.cls q.1 pc M.2.2.2.2 hpc ∧ Ev (d + 1) M hpc L [.ref x] w1 nc1 ns1 Q)) : Ev (d + 1) M pc L st0 w nc ns Q := by
  subst hst0
  obtain ⟨r1, w1, kc1, ks1, hq1, hs1⟩ := k
  have hsplit : ∀ {ρ : Nat → Nat}, (As.reverse ++ st).map (qk_rv ρ) = (As.map (qk_rv ρ)).reverse ++ st.map (qk_rv ρ) := fun {ρ} => by rw [List.map_append, List.map_reverse]
  cases r1 with
  | inl v =>
    obtain ⟨r, w', kc, ks, hq, hs⟩ := hq1
    refine ⟨r, w', kc1 + kc, ks1 + ks, by rw [← Nat.add_assoc, ← Nat.add_assoc]; exact hq, ?_⟩
    intro p l e R s m args below meth c H locs cells slots G H0 ro ρ ls X hR hL hst hl hlo h1 h2 h3 h4 T hT Y
    have hA : ∀ x ∈ As, qk_ok w x := fun x hx => hst x (List.mem_append_left _ (List.mem_reverse.mpr hx))
    have hS : ∀ x ∈ st, qk_ok w x := fun x hx => hst x (List.mem_append_right _ hx)
    have hdc : decode c.code (F0 m pc ls ((As.reverse ++ st).map (qk_rv ρ))).pc = .ok (ig, 3) := by rw [X.1.2.1]; exact hd
    obtain ⟨mk, vm₁, hnamed, Y₁, hstep⟩ := qk_stpA X hM hMi Y hT hR hcw hrc hnp (g := F0 m pc ls ((As.reverse ++ st).map (qk_rv ρ))) rfl (rest := st.map (qk_rv ρ)) hsplit hdc
    obtain ⟨t, t1, o, ρ1, L1, b1, b2, ⟨b3, b3'⟩, b4, b5, b6, b7, b8, b9⟩ := qk_inner X hM Y₁ hT hR hs1 hA hln (g := F0 m pc ls (st.map (qk_rv ρ))) rfl (by rw [X.1.2.2.2.1]; exact hl.1) hdc (by show 2 * 0 + _ ≤ 8; rw [qk_cat8]; omega) hnamed (by omega) (by omega) (by omega) (by omega)
    subst b3
    obtain ⟨T', Y₂, c1, c2, c3⟩ := Y₁.outOf (g := F0 m pc ls (st.map (qk_rv ρ))) rfl hdc b2 b7 b8
    have hρ : ∀ v, w v ≠ none → ρ1 v = ρ v := fun v hv => (b4 v hv).1
    have hth : T'.heap = t.heap := by
      rw [c3]
      exact (State.heap_setTop _ _).symm
    obtain ⟨t2, d1, d2⟩ := hs p l e R s m args below meth c T'.heap _ _ _ G H0 ro ρ1 ls ⟨X.1, X.2.1, qk_Kup X.2.2.1 b5, X.2.2.2⟩ (by rw [hth]; exact b6) (fun q hq => qk_ok_mono (fun u hu => (b4 u hu).2) (hL q hq)) (fun x hx => by
      rcases List.mem_append.mp hx with h | h
      · cases v with
        | none => cases h
        | some y => rw [List.mem_singleton.mp h]; exact b3' y rfl
      · exact qk_ok_mono (fun u hu => (b4 u hu).2) (hS x h)) (by rw [qk_lmap_congr hρ hL]; exact hl) (fun q hq => by
      rcases List.mem_append.mp hq with h | h
      · exact hlo q h
      · exact b9 q h) h1 h2 (by omega) (by omega) T' rfl Y₂
    refine ⟨t2, hstep _ (fun acts => (t1 acts).trans ?_), ?_⟩
    · rw [c3]
      rw [qk_rs hρ v hS] at d1
      exact d1
    · have e1 : cells + (0 + kc1) + kc = cells + (kc1 + kc) := by omega
      have e2 : slots + (0 + ks1) + ks = slots + (ks1 + ks) := by omega
      rw [e1, e2] at d2
      exact qk_Em (fun u hu => b4 u hu) b5 d2
  | inr x =>
    obtain ⟨ci, qq, fs, hpc, hwx, hqc, hfd, r, w', kc, ks, hq, hs⟩ := hq1
    refine ⟨r, w', kc1 + kc, ks1 + ks, by rw [← Nat.add_assoc, ← Nat.add_assoc]; exact hq, ?_⟩
    intro p l e R s m args below meth c H locs cells slots G H0 ro ρ ls X hR hL hst hl hlo h1 h2 h3 h4 T hT Y
    have hA : ∀ x ∈ As, qk_ok w x := fun x hx => hst x (List.mem_append_left _ (List.mem_reverse.mpr hx))
    have hdc : decode c.code (F0 m pc ls ((As.reverse ++ st).map (qk_rv ρ))).pc = .ok (ig, 3) := by rw [X.1.2.1]; exact hd
    obtain ⟨mk, vm₁, hnamed, Y₁, hstep⟩ := qk_stpA X hM hMi Y hT hR hcw hrc hnp (g := F0 m pc ls ((As.reverse ++ st).map (qk_rv ρ))) rfl (rest := st.map (qk_rv ρ)) hsplit hdc
    obtain ⟨t, t1, o, ρ1, L1, b1, b2, ⟨b3, b3', b3''⟩, b4, b5, b6, b7, b8, b9⟩ := qk_inner X hM Y₁ hT hR hs1 hA hln (g := F0 m pc ls (st.map (qk_rv ρ))) rfl (by rw [X.1.2.2.2.1]; exact hl.1) hdc (by show 2 * 0 + _ ≤ 8; rw [qk_cat8]; omega) hnamed (by omega) (by omega) (by omega) (by omega)
    subst b3
    obtain ⟨T', Y₂, c1, c2, c3⟩ := Y₁.outOfThrown (g := F0 m pc ls (st.map (qk_rv ρ))) rfl b2 b7 b8
    have hth : T'.heap = t.heap := by
      rw [c3]
      exact (Stand.throwing_heap _ _ _).symm
    have hρ : ∀ v, w v ≠ none → ρ1 v = ρ v := fun v hv => (b4 v hv).1
    have hpl : e.platform.magicAccessors = ({} : Platform).magicAccessors := by rw [Y.admits.platform]
    have hat : va_at G.1 qcl (ρ1 x, qk_re ρ1 G.2 (.inr (ci, fs))) t.heap := (b6.2.2.1 x _ b3' hwx).2.1
    obtain ⟨r0, hr0, cellX, f1, f2, f3, -⟩ := hat
    have hm' : T'.vm.method? m = some meth := by rw [Y₂.warmed.alike.method?]; exact Y₂.method
    have hE : s.vm.findClass qq.1 = some (G.1.1 ci) := (X.2.2.1.1.1 ci qq hqc).2.1
    obtain ⟨vm', hw', hgo⟩ := qk_search (e := e) (f := F0 m pc ls (st.map (qk_rv ρ))) (a := ρ1 x) (pc := pc) (hpc := hpc) hpl X.2.2.1.2.1 X.1.2.2.2.2.1 rfl hE X.2.1.2.2.2 c.exceptionTable.toList ((T'.setTop (F0 m pc ls (st.map (qk_rv ρ)))).pushFrame (.throwing (ρ1 x))) (by rw [Stand.throwing_vm]; exact Y₂.warmed)
      ⟨cellX, by rw [Stand.throwing_heap, hth]; exact f1, (fun k h => by rw [f3] at h; cases h), f2⟩ (by rw [X.1.2.2.2.2.2.2.2]; exact hfd)
    have Y₃ := Y₂.noted hw'
    obtain ⟨t2, d1, d2⟩ := hs p l e R s m args below meth c T'.heap _ _ _ G H0 ro ρ1 ls ⟨X.1, X.2.1, qk_Kup X.2.2.1 b5, X.2.2.2⟩ (by rw [hth]; exact b6) (fun q hq => qk_ok_mono (fun u hu => (b4 u hu).2) (hL q hq)) (fun y hy => by rw [List.mem_singleton.mp hy]; exact b3'') (by rw [qk_lmap_congr hρ hL]; exact hl) (fun q hq => by
      rcases List.mem_append.mp hq with h | h
      · exact hlo q h
      · exact b9 q h) h1 h2 (by omega) (by omega) (T'.setVm vm') rfl Y₃
    refine ⟨t2, hstep _ (fun acts => (t1 acts).trans ?_), ?_⟩
    · rw [c3]
      refine qk_caught (g := F0 m pc ls (st.map (qk_rv ρ))) (c := c) Y₂.here (vm' := vm') (pc := hpc) (fun Q' E' d' acts' => ?_) d1
      rw [W.findHandler_eq (by rw [Stand.throwing_vm]; exact hm') Y₂.code]
      exact hgo Q' E' d' acts'
    · have e1 : cells + (0 + kc1) + kc = cells + (kc1 + kc) := by omega
      have e2 : slots + (0 + ks1) + ks = slots + (ks1 + ks) := by omega
      rw [e1, e2] at d2
      exact qk_Em (fun u hu => b4 u hu) b5 d2
end Catch
end
section
theorem qk_fitI (x : Int32) : qk_fit .int (.int x) = true := by simp [qk_fit, narrow, fits]
theorem qk_fitJ (x : Int64) : qk_fit .long (.long x) = true := by simp [qk_fit, narrow, fits]
theorem qk_fitL (C : String) (a : Nat) : qk_fit (.object C) (.ref a) = true := by simp [qk_fit, narrow, fits]
theorem qk_fitA (t : FieldType) (a : Nat) : qk_fit (.array t) (.ref a) = true := by simp [qk_fit, narrow, fits]
theorem lw_i0 : ∀ w, w ∈ k2_sels lw_privs → w ∈ lw_tbl := fun _ h => List.mem_append_left _ h
theorem lw_i1 : ∀ w, w ∈ tables_1_1 → w ∈ lw_tbl := fun _ h => List.mem_append_right _ (List.mem_append_left _ h)
theorem lw_i2 : ∀ w, w ∈ tables_1_2 → w ∈ lw_tbl := fun _ h => List.mem_append_right _ (List.mem_append_right _ (List.mem_append_left _ h))
theorem lw_i3 : ∀ w, w ∈ tables_1_3 → w ∈ lw_tbl := fun _ h => List.mem_append_right _ (List.mem_append_right _ (List.mem_append_right _ (List.mem_append_left _ h)))
theorem lw_i4 : ∀ w, w ∈ tables_1_4 → w ∈ lw_tbl := fun _ h => List.mem_append_right _ (List.mem_append_right _ (List.mem_append_right _ (List.mem_append_right _ (List.mem_append_left _ h))))
theorem lw_i5 : ∀ w, w ∈ tables_1_5 → w ∈ lw_tbl := fun _ h => List.mem_append_right _ (List.mem_append_right _ (List.mem_append_right _ (List.mem_append_right _ (List.mem_append_right _ h))))
/-- what the world holds: an object of class ci; arrays of int, byte, boolean, long, references -/
def wo (w : qk_W) (a ci : Nat) (fs : List Value) : Prop := 16 ≤ a ∧ w a = some (.inr (ci, fs))
def wi (w : qk_W) (a n : Nat) (f : Nat → Int32) : Prop := w a = some (.inl (.int, n, .inl f))
def wb (w : qk_W) (a n : Nat) (f : Nat → Int32) : Prop := 16 ≤ a ∧ w a = some (.inl (.byte, n, .inl f))
def wz (w : qk_W) (a n : Nat) (f : Nat → Int32) : Prop := 16 ≤ a ∧ w a = some (.inl (.boolean, n, .inl f))
def wl (w : qk_W) (a n : Nat) (f : Nat → Int64) : Prop := 16 ≤ a ∧ w a = some (.inl (.long, n, .inr (.inl f)))
def wr (C : String) (w : qk_W) (a n : Nat) (f : Nat → Option Nat) : Prop := 16 ≤ a ∧ w a = some (.inl (.object C, n, .inr (.inr (.inr (.inr f)))))
theorem ob_inst : Cond.instanceMethod Lib.objectInit ∈ lw_tbl := (lw_i1 _ (List.mem_of_getElem? (i := 28) rfl))
theorem ob_code : Cond.code Lib.objectInit ⟨#[0xb1]⟩ 1 none ∈ lw_tbl := (lw_i1 _ (List.mem_of_getElem? (i := 29) rfl))
theorem ob_nat : Cond.native arraycopyName ∈ lw_tbl := (lw_i2 _ (List.mem_of_getElem? (i := 79) rfl))
theorem ob_stat : Cond.static arraycopyName ∈ lw_tbl := (lw_i2 _ (List.mem_of_getElem? (i := 78) rfl))
theorem ob_sys : Cond.initialized "java/lang/System" ∈ lw_tbl := (lw_i1 _ (List.mem_of_getElem? (i := 19) rfl))
def m_Q_init : qk_M := (⟨"QuakeLink", "<init>", "()V"⟩, prog_1_method_1_code, 1, (Option.none : Option Jvm.ClassFile.FieldType), [])
theorem ic_Q : ("QuakeLink" ≠ "java/lang/invoke/MethodHandle" ∧ "QuakeLink" ≠ "java/lang/invoke/VarHandle") ∧ Cond.initialized "QuakeLink" ∈ lw_tbl := ⟨⟨by decide +kernel, by decide +kernel⟩, (lw_i1 _ (List.mem_of_getElem? (i := 1) rfl))⟩
theorem i_Q_init : qk_isM m_Q_init := ⟨Or.inl ⟨rfl, (lw_i1 _ (List.mem_of_getElem? (i := 26) rfl))⟩, rfl, ic_Q.1, ic_Q.2, Nat.le_of_ble_eq_true rfl⟩
theorem ii_Q_init : m_Q_init.1.name = "<init>" → m_Q_init.2.2.2.2 = [] ∧ Cond.code m_Q_init.1 m_Q_init.2.1 m_Q_init.2.2.1 none ∈ lw_tbl := fun _ => ⟨rfl, (lw_i1 _ (List.mem_of_getElem? (i := 26) rfl))⟩
def m_St_init : qk_M := (⟨"QuakeLink$Station", "<init>", "()V"⟩, prog_10_method_1_code, 2, (Option.none : Option Jvm.ClassFile.FieldType), [])
theorem ic_St : ("QuakeLink$Station" ≠ "java/lang/invoke/MethodHandle" ∧ "QuakeLink$Station" ≠ "java/lang/invoke/VarHandle") ∧ Cond.initialized "QuakeLink$Station" ∈ lw_tbl := ⟨⟨by decide +kernel, by decide +kernel⟩, (lw_i1 _ (List.mem_of_getElem? (i := 2) rfl))⟩
theorem i_St_init : qk_isM m_St_init := ⟨Or.inl ⟨rfl, (lw_i1 _ (List.mem_of_getElem? (i := 34) rfl))⟩, rfl, ic_St.1, ic_St.2, Nat.le_of_ble_eq_true rfl⟩
theorem ii_St_init : m_St_init.1.name = "<init>" → m_St_init.2.2.2.2 = [] ∧ Cond.code m_St_init.1 m_St_init.2.1 m_St_init.2.2.1 none ∈ lw_tbl := fun _ => ⟨rfl, (lw_i1 _ (List.mem_of_getElem? (i := 34) rfl))⟩
def m_Ch_init : qk_M := (⟨"QuakeLink$Channel", "<init>", "(I)V"⟩, prog_4_method_1_code, 2, (Option.none : Option Jvm.ClassFile.FieldType), [])
theorem ic_Ch : ("QuakeLink$Channel" ≠ "java/lang/invoke/MethodHandle" ∧ "QuakeLink$Channel" ≠ "java/lang/invoke/VarHandle") ∧ Cond.initialized "QuakeLink$Channel" ∈ lw_tbl := ⟨⟨by decide +kernel, by decide +kernel⟩, (lw_i1 _ (List.mem_of_getElem? (i := 3) rfl))⟩
theorem i_Ch_init : qk_isM m_Ch_init := ⟨Or.inl ⟨rfl, (lw_i1 _ (List.mem_of_getElem? (i := 41) rfl))⟩, rfl, ic_Ch.1, ic_Ch.2, Nat.le_of_ble_eq_true rfl⟩
theorem ii_Ch_init : m_Ch_init.1.name = "<init>" → m_Ch_init.2.2.2.2 = [] ∧ Cond.code m_Ch_init.1 m_Ch_init.2.1 m_Ch_init.2.2.1 none ∈ lw_tbl := fun _ => ⟨rfl, (lw_i1 _ (List.mem_of_getElem? (i := 41) rfl))⟩
def m_Ns_init : qk_M := (⟨"QuakeLink$NumberSet", "<init>", "()V"⟩, prog_7_method_1_code, 1, (Option.none : Option Jvm.ClassFile.FieldType), [])
theorem ic_Ns : ("QuakeLink$NumberSet" ≠ "java/lang/invoke/MethodHandle" ∧ "QuakeLink$NumberSet" ≠ "java/lang/invoke/VarHandle") ∧ Cond.initialized "QuakeLink$NumberSet" ∈ lw_tbl := ⟨⟨by decide +kernel, by decide +kernel⟩, (lw_i1 _ (List.mem_of_getElem? (i := 4) rfl))⟩
theorem i_Ns_init : qk_isM m_Ns_init := ⟨Or.inl ⟨rfl, (lw_i1 _ (List.mem_of_getElem? (i := 47) rfl))⟩, rfl, ic_Ns.1, ic_Ns.2, Nat.le_of_ble_eq_true rfl⟩
theorem ii_Ns_init : m_Ns_init.1.name = "<init>" → m_Ns_init.2.2.2.2 = [] ∧ Cond.code m_Ns_init.1 m_Ns_init.2.1 m_Ns_init.2.2.1 none ∈ lw_tbl := fun _ => ⟨rfl, (lw_i1 _ (List.mem_of_getElem? (i := 47) rfl))⟩
def m_Ai_init : qk_M := (⟨"QuakeLink$Air", "<init>", "()V"⟩, prog_2_method_1_code, 1, (Option.none : Option Jvm.ClassFile.FieldType), [])
theorem ic_Ai : ("QuakeLink$Air" ≠ "java/lang/invoke/MethodHandle" ∧ "QuakeLink$Air" ≠ "java/lang/invoke/VarHandle") ∧ Cond.initialized "QuakeLink$Air" ∈ lw_tbl := ⟨⟨by decide +kernel, by decide +kernel⟩, (lw_i1 _ (List.mem_of_getElem? (i := 5) rfl))⟩
theorem i_Ai_init : qk_isM m_Ai_init := ⟨Or.inl ⟨rfl, (lw_i1 _ (List.mem_of_getElem? (i := 108) rfl))⟩, rfl, ic_Ai.1, ic_Ai.2, Nat.le_of_ble_eq_true rfl⟩
theorem ii_Ai_init : m_Ai_init.1.name = "<init>" → m_Ai_init.2.2.2.2 = [] ∧ Cond.code m_Ai_init.1 m_Ai_init.2.1 m_Ai_init.2.2.1 none ∈ lw_tbl := fun _ => ⟨rfl, (lw_i1 _ (List.mem_of_getElem? (i := 108) rfl))⟩
def m_Ce_init : qk_M := (⟨"QuakeLink$Centre", "<init>", "()V"⟩, prog_3_method_1_code, 2, (Option.none : Option Jvm.ClassFile.FieldType), [])
theorem ic_Ce : ("QuakeLink$Centre" ≠ "java/lang/invoke/MethodHandle" ∧ "QuakeLink$Centre" ≠ "java/lang/invoke/VarHandle") ∧ Cond.initialized "QuakeLink$Centre" ∈ lw_tbl := ⟨⟨by decide +kernel, by decide +kernel⟩, (lw_i1 _ (List.mem_of_getElem? (i := 6) rfl))⟩
theorem i_Ce_init : qk_isM m_Ce_init := ⟨Or.inl ⟨rfl, (lw_i1 _ (List.mem_of_getElem? (i := 124) rfl))⟩, rfl, ic_Ce.1, ic_Ce.2, Nat.le_of_ble_eq_true rfl⟩
theorem ii_Ce_init : m_Ce_init.1.name = "<init>" → m_Ce_init.2.2.2.2 = [] ∧ Cond.code m_Ce_init.1 m_Ce_init.2.1 m_Ce_init.2.2.1 none ∈ lw_tbl := fun _ => ⟨rfl, (lw_i1 _ (List.mem_of_getElem? (i := 124) rfl))⟩
def m_Tr_init : qk_M := (⟨"QuakeLink$Track", "<init>", "()V"⟩, prog_11_method_1_code, 1, (Option.none : Option Jvm.ClassFile.FieldType), [])
theorem ic_Tr : ("QuakeLink$Track" ≠ "java/lang/invoke/MethodHandle" ∧ "QuakeLink$Track" ≠ "java/lang/invoke/VarHandle") ∧ Cond.initialized "QuakeLink$Track" ∈ lw_tbl := ⟨⟨by decide +kernel, by decide +kernel⟩, (lw_i1 _ (List.mem_of_getElem? (i := 7) rfl))⟩
theorem i_Tr_init : qk_isM m_Tr_init := ⟨Or.inl ⟨rfl, (lw_i1 _ (List.mem_of_getElem? (i := 131) rfl))⟩, rfl, ic_Tr.1, ic_Tr.2, Nat.le_of_ble_eq_true rfl⟩
theorem ii_Tr_init : m_Tr_init.1.name = "<init>" → m_Tr_init.2.2.2.2 = [] ∧ Cond.code m_Tr_init.1 m_Tr_init.2.1 m_Tr_init.2.2.1 none ∈ lw_tbl := fun _ => ⟨rfl, (lw_i1 _ (List.mem_of_getElem? (i := 131) rfl))⟩
def m_Q_turn : qk_M := (⟨"QuakeLink", "turn", "()I"⟩, prog_1_method_6_code, 1, (Option.some Jvm.ClassFile.FieldType.int), [])
theorem i_Q_turn : qk_isM m_Q_turn := ⟨Or.inl ⟨rfl, (lw_i1 _ (List.mem_of_getElem? (i := 175) rfl))⟩, rfl, ic_Q.1, ic_Q.2, Nat.le_of_ble_eq_true rfl⟩
def m_St_sendNext : qk_M := (⟨"QuakeLink$Station", "sendNext", "(LQuakeLink$Air;)Z"⟩, prog_10_method_5_code, 4, (Option.some Jvm.ClassFile.FieldType.boolean), [])
theorem i_St_sendNext : qk_isM m_St_sendNext := ⟨Or.inl ⟨rfl, (lw_i1 _ (List.mem_of_getElem? (i := 179) rfl))⟩, rfl, ic_St.1, ic_St.2, Nat.le_of_ble_eq_true rfl⟩
def m_St_firstThatWaits : qk_M := (⟨"QuakeLink$Station", "firstThatWaits", "()LQuakeLink$Channel;"⟩, prog_10_method_8_code, 5, (Option.some (Jvm.ClassFile.FieldType.object "QuakeLink$Channel")), [])
theorem i_St_firstThatWaits : qk_isM m_St_firstThatWaits := ⟨Or.inl ⟨rfl, (lw_i1 _ (List.mem_of_getElem? (i := 183) rfl))⟩, rfl, ic_St.1, ic_St.2, Nat.le_of_ble_eq_true rfl⟩
def m_Ch_howManyWait : qk_M := (⟨"QuakeLink$Channel", "howManyWait", "()I"⟩, prog_4_method_8_code, 1, (Option.some Jvm.ClassFile.FieldType.int), [])
theorem i_Ch_howManyWait : qk_isM m_Ch_howManyWait := ⟨Or.inl ⟨rfl, (lw_i1 _ (List.mem_of_getElem? (i := 187) rfl))⟩, rfl, ic_Ch.1, ic_Ch.2, Nat.le_of_ble_eq_true rfl⟩
def m_Ch_firstThatWaits : qk_M := (⟨"QuakeLink$Channel", "firstThatWaits", "()I"⟩, prog_4_method_14_code, 1, (Option.some Jvm.ClassFile.FieldType.int), [])
theorem i_Ch_firstThatWaits : qk_isM m_Ch_firstThatWaits := ⟨Or.inl ⟨rfl, (lw_i1 _ (List.mem_of_getElem? (i := 191) rfl))⟩, rfl, ic_Ch.1, ic_Ch.2, Nat.le_of_ble_eq_true rfl⟩
def m_Ch_firstOfRing : qk_M := (⟨"QuakeLink$Channel", "firstOfRing", "()I"⟩, prog_4_method_13_code, 1, (Option.some Jvm.ClassFile.FieldType.int), [])
theorem i_Ch_firstOfRing : qk_isM m_Ch_firstOfRing := ⟨Or.inl ⟨rfl, (lw_i1 _ (List.mem_of_getElem? (i := 195) rfl))⟩, rfl, ic_Ch.1, ic_Ch.2, Nat.le_of_ble_eq_true rfl⟩
def m_Ch_inRing : qk_M := (⟨"QuakeLink$Channel", "inRing", "()I"⟩, prog_4_method_3_code, 1, (Option.some Jvm.ClassFile.FieldType.int), [])
theorem i_Ch_inRing : qk_isM m_Ch_inRing := ⟨Or.inl ⟨rfl, (lw_i1 _ (List.mem_of_getElem? (i := 199) rfl))⟩, rfl, ic_Ch.1, ic_Ch.2, Nat.le_of_ble_eq_true rfl⟩
def m_Math_min_III : qk_M := (⟨"java/lang/Math", "min", "(II)I"⟩, prog_19_method_69_code, 2, (Option.some Jvm.ClassFile.FieldType.int), [])
theorem ic_Math : ("java/lang/Math" ≠ "java/lang/invoke/MethodHandle" ∧ "java/lang/Math" ≠ "java/lang/invoke/VarHandle") ∧ Cond.initialized "java/lang/Math" ∈ lw_tbl := ⟨⟨by decide +kernel, by decide +kernel⟩, (lw_i1 _ (List.mem_of_getElem? (i := 14) rfl))⟩
theorem i_Math_min_III : qk_isM m_Math_min_III := ⟨Or.inl ⟨rfl, (lw_i1 _ (List.mem_of_getElem? (i := 202) rfl))⟩, by decide +kernel, ic_Math.1, ic_Math.2, Nat.le_of_ble_eq_true rfl⟩
def m_Math_max : qk_M := (⟨"java/lang/Math", "max", "(II)I"⟩, prog_19_method_65_code, 2, (Option.some Jvm.ClassFile.FieldType.int), [])
theorem i_Math_max : qk_isM m_Math_max := ⟨Or.inl ⟨rfl, (lw_i1 _ (List.mem_of_getElem? (i := 205) rfl))⟩, by decide +kernel, ic_Math.1, ic_Math.2, Nat.le_of_ble_eq_true rfl⟩
def m_Ch_orderOfFirstThatWaits : qk_M := (⟨"QuakeLink$Channel", "orderOfFirstThatWaits", "()I"⟩, prog_4_method_9_code, 1, (Option.some Jvm.ClassFile.FieldType.int), [])
theorem i_Ch_orderOfFirstThatWaits : qk_isM m_Ch_orderOfFirstThatWaits := ⟨Or.inl ⟨rfl, (lw_i1 _ (List.mem_of_getElem? (i := 209) rfl))⟩, rfl, ic_Ch.1, ic_Ch.2, Nat.le_of_ble_eq_true rfl⟩
def m_Ch_packet : qk_M := (⟨"QuakeLink$Channel", "packet", "(I)LQuakeLink$Packet;"⟩, prog_4_method_15_code, 3, (Option.some (Jvm.ClassFile.FieldType.object "QuakeLink$Packet")), [])
theorem i_Ch_packet : qk_isM m_Ch_packet := ⟨Or.inl ⟨rfl, (lw_i1 _ (List.mem_of_getElem? (i := 213) rfl))⟩, rfl, ic_Ch.1, ic_Ch.2, Nat.le_of_ble_eq_true rfl⟩
def m_Math_floorMod : qk_M := (⟨"java/lang/Math", "floorMod", "(II)I"⟩, prog_19_method_50_code, 3, (Option.some Jvm.ClassFile.FieldType.int), [])
theorem i_Math_floorMod : qk_isM m_Math_floorMod := ⟨Or.inl ⟨rfl, (lw_i1 _ (List.mem_of_getElem? (i := 216) rfl))⟩, by decide +kernel, ic_Math.1, ic_Math.2, Nat.le_of_ble_eq_true rfl⟩
def m_Pa_init : qk_M := (⟨"QuakeLink$Packet", "<init>", "()V"⟩, prog_8_method_1_code, 1, (Option.none : Option Jvm.ClassFile.FieldType), [])
theorem ic_Pa : ("QuakeLink$Packet" ≠ "java/lang/invoke/MethodHandle" ∧ "QuakeLink$Packet" ≠ "java/lang/invoke/VarHandle") ∧ Cond.initialized "QuakeLink$Packet" ∈ lw_tbl := ⟨⟨by decide +kernel, by decide +kernel⟩, (lw_i1 _ (List.mem_of_getElem? (i := 15) rfl))⟩
theorem i_Pa_init : qk_isM m_Pa_init := ⟨Or.inl ⟨rfl, (lw_i1 _ (List.mem_of_getElem? (i := 220) rfl))⟩, rfl, ic_Pa.1, ic_Pa.2, Nat.le_of_ble_eq_true rfl⟩
theorem ii_Pa_init : m_Pa_init.1.name = "<init>" → m_Pa_init.2.2.2.2 = [] ∧ Cond.code m_Pa_init.1 m_Pa_init.2.1 m_Pa_init.2.2.1 none ∈ lw_tbl := fun _ => ⟨rfl, (lw_i1 _ (List.mem_of_getElem? (i := 220) rfl))⟩
def m_Me_init : qk_M := (⟨"QuakeLink$Message", "<init>", "()V"⟩, prog_6_method_1_code, 1, (Option.none : Option Jvm.ClassFile.FieldType), [])
theorem ic_Me : ("QuakeLink$Message" ≠ "java/lang/invoke/MethodHandle" ∧ "QuakeLink$Message" ≠ "java/lang/invoke/VarHandle") ∧ Cond.initialized "QuakeLink$Message" ∈ lw_tbl := ⟨⟨by decide +kernel, by decide +kernel⟩, (lw_i1 _ (List.mem_of_getElem? (i := 16) rfl))⟩
theorem i_Me_init : qk_isM m_Me_init := ⟨Or.inl ⟨rfl, (lw_i1 _ (List.mem_of_getElem? (i := 226) rfl))⟩, rfl, ic_Me.1, ic_Me.2, Nat.le_of_ble_eq_true rfl⟩
theorem ii_Me_init : m_Me_init.1.name = "<init>" → m_Me_init.2.2.2.2 = [] ∧ Cond.code m_Me_init.1 m_Me_init.2.1 m_Me_init.2.2.1 none ∈ lw_tbl := fun _ => ⟨rfl, (lw_i1 _ (List.mem_of_getElem? (i := 226) rfl))⟩
def m_St_leastAsked : qk_M := (⟨"QuakeLink$Station", "leastAsked", "()LQuakeLink$Channel;"⟩, prog_10_method_9_code, 5, (Option.some (Jvm.ClassFile.FieldType.object "QuakeLink$Channel")), [])
theorem i_St_leastAsked : qk_isM m_St_leastAsked := ⟨Or.inl ⟨rfl, (lw_i2 _ (List.mem_of_getElem? (i := 45) rfl))⟩, rfl, ic_St.1, ic_St.2, Nat.le_of_ble_eq_true rfl⟩
def m_Ns_next : qk_M := (⟨"QuakeLink$NumberSet", "next", "(IZ)I"⟩, prog_7_method_5_code, 7, (Option.some Jvm.ClassFile.FieldType.int), [])
theorem i_Ns_next : qk_isM m_Ns_next := ⟨Or.inl ⟨rfl, (lw_i2 _ (List.mem_of_getElem? (i := 50) rfl))⟩, rfl, ic_Ns.1, ic_Ns.2, Nat.le_of_ble_eq_true rfl⟩
def m_Int_bitCount : qk_M := (⟨"java/lang/Integer", "bitCount", "(I)I"⟩, prog_18_method_49_code, 1, (Option.some Jvm.ClassFile.FieldType.int), [])
theorem ic_Int : ("java/lang/Integer" ≠ "java/lang/invoke/MethodHandle" ∧ "java/lang/Integer" ≠ "java/lang/invoke/VarHandle") ∧ Cond.initialized "java/lang/Integer" ∈ lw_tbl := ⟨⟨by decide +kernel, by decide +kernel⟩, (lw_i1 _ (List.mem_of_getElem? (i := 18) rfl))⟩
theorem i_Int_bitCount : qk_isM m_Int_bitCount := ⟨Or.inl ⟨rfl, (lw_i2 _ (List.mem_of_getElem? (i := 54) rfl))⟩, by decide +kernel, ic_Int.1, ic_Int.2, Nat.le_of_ble_eq_true rfl⟩
def m_Ch_sendWaiting : qk_M := (⟨"QuakeLink$Channel", "sendWaiting", "(LQuakeLink$Air;)V"⟩, prog_4_method_10_code, 3, (Option.none : Option Jvm.ClassFile.FieldType), [])
theorem i_Ch_sendWaiting : qk_isM m_Ch_sendWaiting := ⟨Or.inl ⟨rfl, (lw_i2 _ (List.mem_of_getElem? (i := 62) rfl))⟩, rfl, ic_Ch.1, ic_Ch.2, Nat.le_of_ble_eq_true rfl⟩
def m_Ch_send : qk_M := (⟨"QuakeLink$Channel", "send", "(LQuakeLink$Packet;LQuakeLink$Air;)V"⟩, prog_4_method_17_code, 4, (Option.none : Option Jvm.ClassFile.FieldType), [])
theorem i_Ch_send : qk_isM m_Ch_send := ⟨Or.inl ⟨rfl, (lw_i2 _ (List.mem_of_getElem? (i := 66) rfl))⟩, rfl, ic_Ch.1, ic_Ch.2, Nat.le_of_ble_eq_true rfl⟩
def m_Ai_add : qk_M := (⟨"QuakeLink$Air", "add", "(I)LQuakeLink$Message;"⟩, prog_2_method_2_code, 3, (Option.some (Jvm.ClassFile.FieldType.object "QuakeLink$Message")), [])
theorem i_Ai_add : qk_isM m_Ai_add := ⟨Or.inl ⟨rfl, (lw_i2 _ (List.mem_of_getElem? (i := 70) rfl))⟩, rfl, ic_Ai.1, ic_Ai.2, Nat.le_of_ble_eq_true rfl⟩
def m_Me_copy : qk_M := (⟨"QuakeLink$Message", "copy", "(LQuakeLink$Message;)V"⟩, prog_6_method_5_code, 2, (Option.none : Option Jvm.ClassFile.FieldType), [])
theorem i_Me_copy : qk_isM m_Me_copy := ⟨Or.inl ⟨rfl, (lw_i2 _ (List.mem_of_getElem? (i := 76) rfl))⟩, rfl, ic_Me.1, ic_Me.2, Nat.le_of_ble_eq_true rfl⟩
def m_Ch_oldest : qk_M := (⟨"QuakeLink$Channel", "oldest", "()I"⟩, prog_4_method_4_code, 1, (Option.some Jvm.ClassFile.FieldType.int), [])
theorem i_Ch_oldest : qk_isM m_Ch_oldest := ⟨Or.inl ⟨rfl, (lw_i2 _ (List.mem_of_getElem? (i := 83) rfl))⟩, rfl, ic_Ch.1, ic_Ch.2, Nat.le_of_ble_eq_true rfl⟩
def m_Me_put : qk_M := (⟨"QuakeLink$Message", "put", "(III)V"⟩, prog_6_method_2_code, 5, (Option.none : Option Jvm.ClassFile.FieldType), [])
theorem i_Me_put : qk_isM m_Me_put := ⟨Or.inl ⟨rfl, (lw_i2 _ (List.mem_of_getElem? (i := 87) rfl))⟩, rfl, ic_Me.1, ic_Me.2, Nat.le_of_ble_eq_true rfl⟩
def m_Me_seal : qk_M := (⟨"QuakeLink$Message", "seal", "()V"⟩, prog_6_method_6_code, 1, (Option.none : Option Jvm.ClassFile.FieldType), [])
theorem i_Me_seal : qk_isM m_Me_seal := ⟨Or.inl ⟨rfl, (lw_i2 _ (List.mem_of_getElem? (i := 91) rfl))⟩, rfl, ic_Me.1, ic_Me.2, Nat.le_of_ble_eq_true rfl⟩
def m_Me_check : qk_M := (⟨"QuakeLink$Message", "check", "()I"⟩, prog_6_method_8_code, 3, (Option.some Jvm.ClassFile.FieldType.int), [])
theorem i_Me_check : qk_isM m_Me_check := ⟨Or.inl ⟨rfl, (lw_i2 _ (List.mem_of_getElem? (i := 95) rfl))⟩, rfl, ic_Me.1, ic_Me.2, Nat.le_of_ble_eq_true rfl⟩
def m_Ch_sendAsked : qk_M := (⟨"QuakeLink$Channel", "sendAsked", "(LQuakeLink$Air;)V"⟩, prog_4_method_11_code, 5, (Option.none : Option Jvm.ClassFile.FieldType), [])
theorem i_Ch_sendAsked : qk_isM m_Ch_sendAsked := ⟨Or.inl ⟨rfl, (lw_i2 _ (List.mem_of_getElem? (i := 102) rfl))⟩, rfl, ic_Ch.1, ic_Ch.2, Nat.le_of_ble_eq_true rfl⟩
def m_Ch_sendEmpty : qk_M := (⟨"QuakeLink$Channel", "sendEmpty", "(LQuakeLink$Air;)V"⟩, prog_4_method_18_code, 3, (Option.none : Option Jvm.ClassFile.FieldType), [])
theorem i_Ch_sendEmpty : qk_isM m_Ch_sendEmpty := ⟨Or.inl ⟨rfl, (lw_i2 _ (List.mem_of_getElem? (i := 107) rfl))⟩, rfl, ic_Ch.1, ic_Ch.2, Nat.le_of_ble_eq_true rfl⟩
def m_Ns_exclude : qk_M := (⟨"QuakeLink$NumberSet", "exclude", "(II)V"⟩, prog_7_method_4_code, 7, (Option.none : Option Jvm.ClassFile.FieldType), [])
theorem i_Ns_exclude : qk_isM m_Ns_exclude := ⟨Or.inl ⟨rfl, (lw_i2 _ (List.mem_of_getElem? (i := 111) rfl))⟩, rfl, ic_Ns.1, ic_Ns.2, Nat.le_of_ble_eq_true rfl⟩
def m_Ns_bitsOfWord : qk_M := (⟨"QuakeLink$NumberSet", "bitsOfWord", "(III)I"⟩, prog_7_method_6_code, 5, (Option.some Jvm.ClassFile.FieldType.int), [])
theorem i_Ns_bitsOfWord : qk_isM m_Ns_bitsOfWord := ⟨Or.inl ⟨rfl, (lw_i2 _ (List.mem_of_getElem? (i := 115) rfl))⟩, rfl, ic_Ns.1, ic_Ns.2, Nat.le_of_ble_eq_true rfl⟩
def m_Ch_packetWith : qk_M := (⟨"QuakeLink$Channel", "packetWith", "(I)LQuakeLink$Packet;"⟩, prog_4_method_16_code, 3, (Option.some (Jvm.ClassFile.FieldType.object "QuakeLink$Packet")), [])
theorem i_Ch_packetWith : qk_isM m_Ch_packetWith := ⟨Or.inl ⟨rfl, (lw_i2 _ (List.mem_of_getElem? (i := 119) rfl))⟩, rfl, ic_Ch.1, ic_Ch.2, Nat.le_of_ble_eq_true rfl⟩
def m_Ai_latest : qk_M := (⟨"QuakeLink$Air", "latest", "()I"⟩, prog_2_method_3_code, 1, (Option.some Jvm.ClassFile.FieldType.int), [])
theorem i_Ai_latest : qk_isM m_Ai_latest := ⟨Or.inl ⟨rfl, (lw_i2 _ (List.mem_of_getElem? (i := 123) rfl))⟩, rfl, ic_Ai.1, ic_Ai.2, Nat.le_of_ble_eq_true rfl⟩
def m_Q_ask : qk_M := (⟨"QuakeLink", "ask", "()I"⟩, prog_1_method_7_code, 1, (Option.some Jvm.ClassFile.FieldType.int), [])
theorem i_Q_ask : qk_isM m_Q_ask := ⟨Or.inl ⟨rfl, (lw_i2 _ (List.mem_of_getElem? (i := 127) rfl))⟩, rfl, ic_Q.1, ic_Q.2, Nat.le_of_ble_eq_true rfl⟩
def m_Ce_sendRequest : qk_M := (⟨"QuakeLink$Centre", "sendRequest", "(LQuakeLink$Air;)Z"⟩, prog_3_method_2_code, 6, (Option.some Jvm.ClassFile.FieldType.boolean), [])
theorem i_Ce_sendRequest : qk_isM m_Ce_sendRequest := ⟨Or.inl ⟨rfl, (lw_i2 _ (List.mem_of_getElem? (i := 131) rfl))⟩, rfl, ic_Ce.1, ic_Ce.2, Nat.le_of_ble_eq_true rfl⟩
def m_Tr_startOfGapFrom : qk_M := (⟨"QuakeLink$Track", "startOfGapFrom", "(I)I"⟩, prog_11_method_9_code, 3, (Option.some Jvm.ClassFile.FieldType.int), [])
theorem i_Tr_startOfGapFrom : qk_isM m_Tr_startOfGapFrom := ⟨Or.inl ⟨rfl, (lw_i2 _ (List.mem_of_getElem? (i := 136) rfl))⟩, rfl, ic_Tr.1, ic_Tr.2, Nat.le_of_ble_eq_true rfl⟩
def m_Tr_endOfGap : qk_M := (⟨"QuakeLink$Track", "endOfGap", "(I)I"⟩, prog_11_method_8_code, 2, (Option.some Jvm.ClassFile.FieldType.int), [])
theorem i_Tr_endOfGap : qk_isM m_Tr_endOfGap := ⟨Or.inl ⟨rfl, (lw_i2 _ (List.mem_of_getElem? (i := 145) rfl))⟩, rfl, ic_Tr.1, ic_Tr.2, Nat.le_of_ble_eq_true rfl⟩
def m_La_sample : qk_M := (⟨"QuakeLinkLaw", "sample", "(LQuakeLink;II[J)I"⟩, method_3_code, 5, (Option.some Jvm.ClassFile.FieldType.int), [(0, 10, 13, 13), (0, 10, 17, 15)])
theorem ic_La : ("QuakeLinkLaw" ≠ "java/lang/invoke/MethodHandle" ∧ "QuakeLinkLaw" ≠ "java/lang/invoke/VarHandle") ∧ Cond.initialized "QuakeLinkLaw" ∈ lw_tbl := ⟨⟨by decide +kernel, by decide +kernel⟩, (lw_i1 _ (List.mem_of_getElem? (i := 0) rfl))⟩
theorem i_La_sample : qk_isM m_La_sample := ⟨Or.inr (lw_i2 _ (List.mem_of_getElem? (i := 149) rfl)), rfl, ic_La.1, ic_La.2, Nat.le_of_ble_eq_true rfl⟩
def m_Q_sample : qk_M := (⟨"QuakeLink", "sample", "(II)I"⟩, prog_1_method_2_code, 5, (Option.some Jvm.ClassFile.FieldType.int), [])
theorem i_Q_sample : qk_isM m_Q_sample := ⟨Or.inl ⟨rfl, (lw_i2 _ (List.mem_of_getElem? (i := 155) rfl))⟩, rfl, ic_Q.1, ic_Q.2, Nat.le_of_ble_eq_true rfl⟩
def m_Q_channelOf : qk_M := (⟨"QuakeLink", "channelOf", "(I)LQuakeLink$Channel;"⟩, prog_1_method_24_code, 2, (Option.some (Jvm.ClassFile.FieldType.object "QuakeLink$Channel")), [])
theorem i_Q_channelOf : qk_isM m_Q_channelOf := ⟨Or.inl ⟨rfl, (lw_i2 _ (List.mem_of_getElem? (i := 159) rfl))⟩, rfl, ic_Q.1, ic_Q.2, Nat.le_of_ble_eq_true rfl⟩
def m_Q_isChannel : qk_M := (⟨"QuakeLink", "isChannel", "(J)Z"⟩, prog_1_method_23_code, 2, (Option.some Jvm.ClassFile.FieldType.boolean), [])
theorem i_Q_isChannel : qk_isM m_Q_isChannel := ⟨Or.inl ⟨rfl, (lw_i2 _ (List.mem_of_getElem? (i := 162) rfl))⟩, rfl, ic_Q.1, ic_Q.2, Nat.le_of_ble_eq_true rfl⟩
def m_Q_refuseBeyondLimit : qk_M := (⟨"QuakeLink", "refuseBeyondLimit", "(LQuakeLink$Channel;I)V"⟩, prog_1_method_22_code, 2, (Option.none : Option Jvm.ClassFile.FieldType), [])
theorem i_Q_refuseBeyondLimit : qk_isM m_Q_refuseBeyondLimit := ⟨Or.inl ⟨rfl, (lw_i2 _ (List.mem_of_getElem? (i := 233) rfl))⟩, rfl, ic_Q.1, ic_Q.2, Nat.le_of_ble_eq_true rfl⟩
def m_St_take : qk_M := (⟨"QuakeLink$Station", "take", "(LQuakeLink$Channel;I)V"⟩, prog_10_method_2_code, 3, (Option.none : Option Jvm.ClassFile.FieldType), [])
theorem i_St_take : qk_isM m_St_take := ⟨Or.inl ⟨rfl, (lw_i3 _ (List.mem_of_getElem? (i := 14) rfl))⟩, rfl, ic_St.1, ic_St.2, Nat.le_of_ble_eq_true rfl⟩
def m_Ch_mustCloseBefore : qk_M := (⟨"QuakeLink$Channel", "mustCloseBefore", "(I)Z"⟩, prog_4_method_5_code, 2, (Option.some Jvm.ClassFile.FieldType.boolean), [])
theorem i_Ch_mustCloseBefore : qk_isM m_Ch_mustCloseBefore := ⟨Or.inl ⟨rfl, (lw_i3 _ (List.mem_of_getElem? (i := 18) rfl))⟩, rfl, ic_Ch.1, ic_Ch.2, Nat.le_of_ble_eq_true rfl⟩
def m_Ch_inOpen : qk_M := (⟨"QuakeLink$Channel", "inOpen", "()I"⟩, prog_4_method_2_code, 1, (Option.some Jvm.ClassFile.FieldType.int), [])
theorem i_Ch_inOpen : qk_isM m_Ch_inOpen := ⟨Or.inl ⟨rfl, (lw_i3 _ (List.mem_of_getElem? (i := 22) rfl))⟩, rfl, ic_Ch.1, ic_Ch.2, Nat.le_of_ble_eq_true rfl⟩
def m_Pa_fits : qk_M := (⟨"QuakeLink$Packet", "fits", "(I)Z"⟩, prog_8_method_3_code, 3, (Option.some Jvm.ClassFile.FieldType.boolean), [])
theorem i_Pa_fits : qk_isM m_Pa_fits := ⟨Or.inl ⟨rfl, (lw_i3 _ (List.mem_of_getElem? (i := 26) rfl))⟩, rfl, ic_Pa.1, ic_Pa.2, Nat.le_of_ble_eq_true rfl⟩
def m_Pa_codeWith : qk_M := (⟨"QuakeLink$Packet", "codeWith", "(I)I"⟩, prog_8_method_7_code, 3, (Option.some Jvm.ClassFile.FieldType.int), [])
theorem i_Pa_codeWith : qk_isM m_Pa_codeWith := ⟨Or.inl ⟨rfl, (lw_i3 _ (List.mem_of_getElem? (i := 32) rfl))⟩, rfl, ic_Pa.1, ic_Pa.2, Nat.le_of_ble_eq_true rfl⟩
def m_Pa_fitsIn : qk_M := (⟨"QuakeLink$Packet", "fitsIn", "(II)Z"⟩, prog_8_method_8_code, 2, (Option.some Jvm.ClassFile.FieldType.boolean), [])
theorem i_Pa_fitsIn : qk_isM m_Pa_fitsIn := ⟨Or.inl ⟨rfl, (lw_i3 _ (List.mem_of_getElem? (i := 35) rfl))⟩, rfl, ic_Pa.1, ic_Pa.2, Nat.le_of_ble_eq_true rfl⟩
def m_Pa_sizeFor : qk_M := (⟨"QuakeLink$Packet", "sizeFor", "(I)I"⟩, prog_8_method_6_code, 1, (Option.some Jvm.ClassFile.FieldType.int), [])
theorem i_Pa_sizeFor : qk_isM m_Pa_sizeFor := ⟨Or.inl ⟨rfl, (lw_i3 _ (List.mem_of_getElem? (i := 38) rfl))⟩, rfl, ic_Pa.1, ic_Pa.2, Nat.le_of_ble_eq_true rfl⟩
def m_St_close : qk_M := (⟨"QuakeLink$Station", "close", "(LQuakeLink$Channel;)V"⟩, prog_10_method_3_code, 2, (Option.none : Option Jvm.ClassFile.FieldType), [])
theorem i_St_close : qk_isM m_St_close := ⟨Or.inl ⟨rfl, (lw_i3 _ (List.mem_of_getElem? (i := 42) rfl))⟩, rfl, ic_St.1, ic_St.2, Nat.le_of_ble_eq_true rfl⟩
def m_Ch_close : qk_M := (⟨"QuakeLink$Channel", "close", "(II)V"⟩, prog_4_method_7_code, 3, (Option.none : Option Jvm.ClassFile.FieldType), [])
theorem i_Ch_close : qk_isM m_Ch_close := ⟨Or.inl ⟨rfl, (lw_i3 _ (List.mem_of_getElem? (i := 46) rfl))⟩, rfl, ic_Ch.1, ic_Ch.2, Nat.le_of_ble_eq_true rfl⟩
def m_Pa_close : qk_M := (⟨"QuakeLink$Packet", "close", "(II)V"⟩, prog_8_method_5_code, 3, (Option.none : Option Jvm.ClassFile.FieldType), [])
theorem i_Pa_close : qk_isM m_Pa_close := ⟨Or.inl ⟨rfl, (lw_i3 _ (List.mem_of_getElem? (i := 50) rfl))⟩, rfl, ic_Pa.1, ic_Pa.2, Nat.le_of_ble_eq_true rfl⟩
def m_Pa_writeBlock : qk_M := (⟨"QuakeLink$Packet", "writeBlock", "()V"⟩, prog_8_method_9_code, 2, (Option.none : Option Jvm.ClassFile.FieldType), [])
theorem i_Pa_writeBlock : qk_isM m_Pa_writeBlock := ⟨Or.inl ⟨rfl, (lw_i3 _ (List.mem_of_getElem? (i := 54) rfl))⟩, rfl, ic_Pa.1, ic_Pa.2, Nat.le_of_ble_eq_true rfl⟩
def m_Pa_write : qk_M := (⟨"QuakeLink$Packet", "write", "(II)V"⟩, prog_8_method_10_code, 8, (Option.none : Option Jvm.ClassFile.FieldType), [])
theorem i_Pa_write : qk_isM m_Pa_write := ⟨Or.inl ⟨rfl, (lw_i3 _ (List.mem_of_getElem? (i := 58) rfl))⟩, rfl, ic_Pa.1, ic_Pa.2, Nat.le_of_ble_eq_true rfl⟩
def m_Ch_add : qk_M := (⟨"QuakeLink$Channel", "add", "(I)V"⟩, prog_4_method_6_code, 3, (Option.none : Option Jvm.ClassFile.FieldType), [])
theorem i_Ch_add : qk_isM m_Ch_add := ⟨Or.inl ⟨rfl, (lw_i3 _ (List.mem_of_getElem? (i := 63) rfl))⟩, rfl, ic_Ch.1, ic_Ch.2, Nat.le_of_ble_eq_true rfl⟩
def m_Pa_begin : qk_M := (⟨"QuakeLink$Packet", "begin", "(III)V"⟩, prog_8_method_2_code, 4, (Option.none : Option Jvm.ClassFile.FieldType), [])
theorem i_Pa_begin : qk_isM m_Pa_begin := ⟨Or.inl ⟨rfl, (lw_i3 _ (List.mem_of_getElem? (i := 67) rfl))⟩, rfl, ic_Pa.1, ic_Pa.2, Nat.le_of_ble_eq_true rfl⟩
def m_Pa_append : qk_M := (⟨"QuakeLink$Packet", "append", "(I)V"⟩, prog_8_method_4_code, 3, (Option.none : Option Jvm.ClassFile.FieldType), [])
theorem i_Pa_append : qk_isM m_Pa_append := ⟨Or.inl ⟨rfl, (lw_i3 _ (List.mem_of_getElem? (i := 71) rfl))⟩, rfl, ic_Pa.1, ic_Pa.2, Nat.le_of_ble_eq_true rfl⟩
def m_La_samples : qk_M := (⟨"QuakeLinkLaw", "samples", "(LQuakeLink;IIIII[J)I"⟩, method_4_code, 8, (Option.some Jvm.ClassFile.FieldType.int), [(0, 16, 19, 13), (0, 16, 23, 21), (0, 16, 27, 15)])
theorem i_La_samples : qk_isM m_La_samples := ⟨Or.inr (lw_i3 _ (List.mem_of_getElem? (i := 75) rfl)), rfl, ic_La.1, ic_La.2, Nat.le_of_ble_eq_true rfl⟩
def m_Q_samples : qk_M := (⟨"QuakeLink", "samples", "(IIIII)I"⟩, prog_1_method_3_code, 11, (Option.some Jvm.ClassFile.FieldType.int), [])
theorem i_Q_samples : qk_isM m_Q_samples := ⟨Or.inl ⟨rfl, (lw_i3 _ (List.mem_of_getElem? (i := 80) rfl))⟩, rfl, ic_Q.1, ic_Q.2, Nat.le_of_ble_eq_true rfl⟩
def m_La_quality : qk_M := (⟨"QuakeLinkLaw", "quality", "(LQuakeLink;I)I"⟩, method_5_code, 3, (Option.some Jvm.ClassFile.FieldType.int), [(0, 5, 8, 21)])
theorem i_La_quality : qk_isM m_La_quality := ⟨Or.inr (lw_i3 _ (List.mem_of_getElem? (i := 99) rfl)), rfl, ic_La.1, ic_La.2, Nat.le_of_ble_eq_true rfl⟩
def m_Q_quality : qk_M := (⟨"QuakeLink", "quality", "(I)V"⟩, prog_1_method_4_code, 2, (Option.none : Option Jvm.ClassFile.FieldType), [])
theorem i_Q_quality : qk_isM m_Q_quality := ⟨Or.inl ⟨rfl, (lw_i3 _ (List.mem_of_getElem? (i := 103) rfl))⟩, rfl, ic_Q.1, ic_Q.2, Nat.le_of_ble_eq_true rfl⟩
def m_La_flush : qk_M := (⟨"QuakeLinkLaw", "flush", "(LQuakeLink;I[J)I"⟩, method_6_code, 4, (Option.some Jvm.ClassFile.FieldType.int), [(0, 9, 12, 13)])
theorem i_La_flush : qk_isM m_La_flush := ⟨Or.inr (lw_i3 _ (List.mem_of_getElem? (i := 107) rfl)), rfl, ic_La.1, ic_La.2, Nat.le_of_ble_eq_true rfl⟩
def m_Q_flush : qk_M := (⟨"QuakeLink", "flush", "(I)I"⟩, prog_1_method_5_code, 4, (Option.some Jvm.ClassFile.FieldType.int), [])
theorem i_Q_flush : qk_isM m_Q_flush := ⟨Or.inl ⟨rfl, (lw_i3 _ (List.mem_of_getElem? (i := 111) rfl))⟩, rfl, ic_Q.1, ic_Q.2, Nat.le_of_ble_eq_true rfl⟩
def m_La_deliver : qk_M := (⟨"QuakeLinkLaw", "deliver", "(LQuakeLink;I[J)I"⟩, method_7_code, 4, (Option.some Jvm.ClassFile.FieldType.int), [(0, 9, 12, 13)])
theorem i_La_deliver : qk_isM m_La_deliver := ⟨Or.inr (lw_i3 _ (List.mem_of_getElem? (i := 116) rfl)), rfl, ic_La.1, ic_La.2, Nat.le_of_ble_eq_true rfl⟩
def m_Q_deliver : qk_M := (⟨"QuakeLink", "deliver", "(I)I"⟩, prog_1_method_8_code, 2, (Option.some Jvm.ClassFile.FieldType.int), [])
theorem i_Q_deliver : qk_isM m_Q_deliver := ⟨Or.inl ⟨rfl, (lw_i3 _ (List.mem_of_getElem? (i := 120) rfl))⟩, rfl, ic_Q.1, ic_Q.2, Nat.le_of_ble_eq_true rfl⟩
def m_Q_messageOf : qk_M := (⟨"QuakeLink", "messageOf", "(I)LQuakeLink$Message;"⟩, prog_1_method_26_code, 3, (Option.some (Jvm.ClassFile.FieldType.object "QuakeLink$Message")), [])
theorem i_Q_messageOf : qk_isM m_Q_messageOf := ⟨Or.inl ⟨rfl, (lw_i3 _ (List.mem_of_getElem? (i := 124) rfl))⟩, rfl, ic_Q.1, ic_Q.2, Nat.le_of_ble_eq_true rfl⟩
def m_Ai_find : qk_M := (⟨"QuakeLink$Air", "find", "(I)LQuakeLink$Message;"⟩, prog_2_method_4_code, 3, (Option.some (Jvm.ClassFile.FieldType.object "QuakeLink$Message")), [])
theorem i_Ai_find : qk_isM m_Ai_find := ⟨Or.inl ⟨rfl, (lw_i3 _ (List.mem_of_getElem? (i := 128) rfl))⟩, rfl, ic_Ai.1, ic_Ai.2, Nat.le_of_ble_eq_true rfl⟩
def m_Ce_receive : qk_M := (⟨"QuakeLink$Centre", "receive", "(LQuakeLink$Message;)I"⟩, prog_3_method_3_code, 3, (Option.some Jvm.ClassFile.FieldType.int), [])
theorem i_Ce_receive : qk_isM m_Ce_receive := ⟨Or.inl ⟨rfl, (lw_i3 _ (List.mem_of_getElem? (i := 133) rfl))⟩, rfl, ic_Ce.1, ic_Ce.2, Nat.le_of_ble_eq_true rfl⟩
def m_Ce_isSound : qk_M := (⟨"QuakeLink$Centre", "isSound", "(LQuakeLink$Message;)Z"⟩, prog_3_method_4_code, 1, (Option.some Jvm.ClassFile.FieldType.boolean), [])
theorem i_Ce_isSound : qk_isM m_Ce_isSound := ⟨Or.inl ⟨rfl, (lw_i3 _ (List.mem_of_getElem? (i := 136) rfl))⟩, rfl, ic_Ce.1, ic_Ce.2, Nat.le_of_ble_eq_true rfl⟩
def m_Me_isSealed : qk_M := (⟨"QuakeLink$Message", "isSealed", "()Z"⟩, prog_6_method_7_code, 1, (Option.some Jvm.ClassFile.FieldType.boolean), [])
theorem i_Me_isSealed : qk_isM m_Me_isSealed := ⟨Or.inl ⟨rfl, (lw_i3 _ (List.mem_of_getElem? (i := 140) rfl))⟩, rfl, ic_Me.1, ic_Me.2, Nat.le_of_ble_eq_true rfl⟩
def m_Me_value : qk_M := (⟨"QuakeLink$Message", "value", "(I)I"⟩, prog_6_method_4_code, 2, (Option.some Jvm.ClassFile.FieldType.int), [])
theorem i_Me_value : qk_isM m_Me_value := ⟨Or.inl ⟨rfl, (lw_i3 _ (List.mem_of_getElem? (i := 144) rfl))⟩, rfl, ic_Me.1, ic_Me.2, Nat.le_of_ble_eq_true rfl⟩
def m_Me_number : qk_M := (⟨"QuakeLink$Message", "number", "(II)J"⟩, prog_6_method_3_code, 6, (Option.some Jvm.ClassFile.FieldType.long), [])
theorem i_Me_number : qk_isM m_Me_number := ⟨Or.inl ⟨rfl, (lw_i3 _ (List.mem_of_getElem? (i := 148) rfl))⟩, rfl, ic_Me.1, ic_Me.2, Nat.le_of_ble_eq_true rfl⟩
def m_Ce_isEmpty : qk_M := (⟨"QuakeLink$Centre", "isEmpty", "(LQuakeLink$Message;)Z"⟩, prog_3_method_5_code, 1, (Option.some Jvm.ClassFile.FieldType.boolean), [])
theorem i_Ce_isEmpty : qk_isM m_Ce_isEmpty := ⟨Or.inl ⟨rfl, (lw_i3 _ (List.mem_of_getElem? (i := 155) rfl))⟩, rfl, ic_Ce.1, ic_Ce.2, Nat.le_of_ble_eq_true rfl⟩
def m_Ce_isFilled : qk_M := (⟨"QuakeLink$Centre", "isFilled", "(LQuakeLink$Message;)Z"⟩, prog_3_method_6_code, 7, (Option.some Jvm.ClassFile.FieldType.boolean), [])
theorem i_Ce_isFilled : qk_isM m_Ce_isFilled := ⟨Or.inl ⟨rfl, (lw_i3 _ (List.mem_of_getElem? (i := 158) rfl))⟩, rfl, ic_Ce.1, ic_Ce.2, Nat.le_of_ble_eq_true rfl⟩
def m_De_init : qk_M := (⟨"QuakeLink$Decoder", "<init>", "(LQuakeLink$Message;)V"⟩, prog_5_method_1_code, 2, (Option.none : Option Jvm.ClassFile.FieldType), [])
theorem ic_De : ("QuakeLink$Decoder" ≠ "java/lang/invoke/MethodHandle" ∧ "QuakeLink$Decoder" ≠ "java/lang/invoke/VarHandle") ∧ Cond.initialized "QuakeLink$Decoder" ∈ lw_tbl := ⟨⟨by decide +kernel, by decide +kernel⟩, (lw_i1 _ (List.mem_of_getElem? (i := 20) rfl))⟩
theorem i_De_init : qk_isM m_De_init := ⟨Or.inl ⟨rfl, (lw_i3 _ (List.mem_of_getElem? (i := 163) rfl))⟩, rfl, ic_De.1, ic_De.2, Nat.le_of_ble_eq_true rfl⟩
theorem ii_De_init : m_De_init.1.name = "<init>" → m_De_init.2.2.2.2 = [] ∧ Cond.code m_De_init.1 m_De_init.2.1 m_De_init.2.2.1 none ∈ lw_tbl := fun _ => ⟨rfl, (lw_i3 _ (List.mem_of_getElem? (i := 163) rfl))⟩
def m_De_advance : qk_M := (⟨"QuakeLink$Decoder", "advance", "()Z"⟩, prog_5_method_2_code, 2, (Option.some Jvm.ClassFile.FieldType.boolean), [])
theorem i_De_advance : qk_isM m_De_advance := ⟨Or.inl ⟨rfl, (lw_i3 _ (List.mem_of_getElem? (i := 199) rfl))⟩, rfl, ic_De.1, ic_De.2, Nat.le_of_ble_eq_true rfl⟩
def m_De_readWidth : qk_M := (⟨"QuakeLink$Decoder", "readWidth", "()Z"⟩, prog_5_method_4_code, 2, (Option.some Jvm.ClassFile.FieldType.boolean), [])
theorem i_De_readWidth : qk_isM m_De_readWidth := ⟨Or.inl ⟨rfl, (lw_i3 _ (List.mem_of_getElem? (i := 203) rfl))⟩, rfl, ic_De.1, ic_De.2, Nat.le_of_ble_eq_true rfl⟩
def m_De_isLeft : qk_M := (⟨"QuakeLink$Decoder", "isLeft", "(I)Z"⟩, prog_5_method_5_code, 2, (Option.some Jvm.ClassFile.FieldType.boolean), [])
theorem i_De_isLeft : qk_isM m_De_isLeft := ⟨Or.inl ⟨rfl, (lw_i3 _ (List.mem_of_getElem? (i := 207) rfl))⟩, rfl, ic_De.1, ic_De.2, Nat.le_of_ble_eq_true rfl⟩
def m_De_read : qk_M := (⟨"QuakeLink$Decoder", "read", "(I)I"⟩, prog_5_method_6_code, 2, (Option.some Jvm.ClassFile.FieldType.int), [])
theorem i_De_read : qk_isM m_De_read := ⟨Or.inl ⟨rfl, (lw_i3 _ (List.mem_of_getElem? (i := 211) rfl))⟩, rfl, ic_De.1, ic_De.2, Nat.le_of_ble_eq_true rfl⟩
def m_De_isAtEnd : qk_M := (⟨"QuakeLink$Decoder", "isAtEnd", "()Z"⟩, prog_5_method_3_code, 1, (Option.some Jvm.ClassFile.FieldType.boolean), [])
theorem i_De_isAtEnd : qk_isM m_De_isAtEnd := ⟨Or.inl ⟨rfl, (lw_i3 _ (List.mem_of_getElem? (i := 216) rfl))⟩, rfl, ic_De.1, ic_De.2, Nat.le_of_ble_eq_true rfl⟩
def m_Tr_clashes : qk_M := (⟨"QuakeLink$Track", "clashes", "(LQuakeLink$Message;)Z"⟩, prog_11_method_4_code, 6, (Option.some Jvm.ClassFile.FieldType.boolean), [])
theorem i_Tr_clashes : qk_isM m_Tr_clashes := ⟨Or.inl ⟨rfl, (lw_i3 _ (List.mem_of_getElem? (i := 222) rfl))⟩, rfl, ic_Tr.1, ic_Tr.2, Nat.le_of_ble_eq_true rfl⟩
def m_Ns_contains : qk_M := (⟨"QuakeLink$NumberSet", "contains", "(I)Z"⟩, prog_7_method_2_code, 2, (Option.some Jvm.ClassFile.FieldType.boolean), [])
theorem i_Ns_contains : qk_isM m_Ns_contains := ⟨Or.inl ⟨rfl, (lw_i3 _ (List.mem_of_getElem? (i := 230) rfl))⟩, rfl, ic_Ns.1, ic_Ns.2, Nat.le_of_ble_eq_true rfl⟩
def m_Tr_valueOf : qk_M := (⟨"QuakeLink$Track", "valueOf", "(I)I"⟩, prog_11_method_2_code, 2, (Option.some Jvm.ClassFile.FieldType.int), [])
theorem i_Tr_valueOf : qk_isM m_Tr_valueOf := ⟨Or.inl ⟨rfl, (lw_i3 _ (List.mem_of_getElem? (i := 234) rfl))⟩, rfl, ic_Tr.1, ic_Tr.2, Nat.le_of_ble_eq_true rfl⟩
def m_Tr_page : qk_M := (⟨"QuakeLink$Track", "page", "(I)LQuakeLink$Page;"⟩, prog_11_method_10_code, 3, (Option.some (Jvm.ClassFile.FieldType.object "QuakeLink$Page")), [])
theorem i_Tr_page : qk_isM m_Tr_page := ⟨Or.inl ⟨rfl, (lw_i3 _ (List.mem_of_getElem? (i := 238) rfl))⟩, rfl, ic_Tr.1, ic_Tr.2, Nat.le_of_ble_eq_true rfl⟩
def m_Pg_init : qk_M := (⟨"QuakeLink$Page", "<init>", "()V"⟩, prog_9_method_1_code, 1, (Option.none : Option Jvm.ClassFile.FieldType), [])
theorem ic_Pg : ("QuakeLink$Page" ≠ "java/lang/invoke/MethodHandle" ∧ "QuakeLink$Page" ≠ "java/lang/invoke/VarHandle") ∧ Cond.initialized "QuakeLink$Page" ∈ lw_tbl := ⟨⟨by decide +kernel, by decide +kernel⟩, (lw_i1 _ (List.mem_of_getElem? (i := 21) rfl))⟩
theorem i_Pg_init : qk_isM m_Pg_init := ⟨Or.inl ⟨rfl, (lw_i4 _ (List.mem_of_getElem? (i := 2) rfl))⟩, rfl, ic_Pg.1, ic_Pg.2, Nat.le_of_ble_eq_true rfl⟩
theorem ii_Pg_init : m_Pg_init.1.name = "<init>" → m_Pg_init.2.2.2.2 = [] ∧ Cond.code m_Pg_init.1 m_Pg_init.2.1 m_Pg_init.2.2.1 none ∈ lw_tbl := fun _ => ⟨rfl, (lw_i4 _ (List.mem_of_getElem? (i := 2) rfl))⟩
def m_Tr_keep : qk_M := (⟨"QuakeLink$Track", "keep", "(LQuakeLink$Message;)I"⟩, prog_11_method_5_code, 8, (Option.some Jvm.ClassFile.FieldType.int), [])
theorem i_Tr_keep : qk_isM m_Tr_keep := ⟨Or.inl ⟨rfl, (lw_i4 _ (List.mem_of_getElem? (i := 17) rfl))⟩, rfl, ic_Tr.1, ic_Tr.2, Nat.le_of_ble_eq_true rfl⟩
def m_Ns_include : qk_M := (⟨"QuakeLink$NumberSet", "include", "(II)I"⟩, prog_7_method_3_code, 8, (Option.some Jvm.ClassFile.FieldType.int), [])
theorem i_Ns_include : qk_isM m_Ns_include := ⟨Or.inl ⟨rfl, (lw_i4 _ (List.mem_of_getElem? (i := 21) rfl))⟩, rfl, ic_Ns.1, ic_Ns.2, Nat.le_of_ble_eq_true rfl⟩
def m_La_hear : qk_M := (⟨"QuakeLinkLaw", "hear", "(LQuakeLink;I[J)I"⟩, method_8_code, 4, (Option.some Jvm.ClassFile.FieldType.int), [(0, 9, 12, 13)])
theorem i_La_hear : qk_isM m_La_hear := ⟨Or.inr (lw_i4 _ (List.mem_of_getElem? (i := 24) rfl)), rfl, ic_La.1, ic_La.2, Nat.le_of_ble_eq_true rfl⟩
def m_Q_hear : qk_M := (⟨"QuakeLink", "hear", "(I)I"⟩, prog_1_method_9_code, 2, (Option.some Jvm.ClassFile.FieldType.int), [])
theorem i_Q_hear : qk_isM m_Q_hear := ⟨Or.inl ⟨rfl, (lw_i4 _ (List.mem_of_getElem? (i := 28) rfl))⟩, rfl, ic_Q.1, ic_Q.2, Nat.le_of_ble_eq_true rfl⟩
def m_St_receive : qk_M := (⟨"QuakeLink$Station", "receive", "(LQuakeLink$Message;)I"⟩, prog_10_method_6_code, 3, (Option.some Jvm.ClassFile.FieldType.int), [])
theorem i_St_receive : qk_isM m_St_receive := ⟨Or.inl ⟨rfl, (lw_i4 _ (List.mem_of_getElem? (i := 32) rfl))⟩, rfl, ic_St.1, ic_St.2, Nat.le_of_ble_eq_true rfl⟩
def m_St_isRequest : qk_M := (⟨"QuakeLink$Station", "isRequest", "(LQuakeLink$Message;)Z"⟩, prog_10_method_7_code, 1, (Option.some Jvm.ClassFile.FieldType.boolean), [])
theorem i_St_isRequest : qk_isM m_St_isRequest := ⟨Or.inl ⟨rfl, (lw_i4 _ (List.mem_of_getElem? (i := 35) rfl))⟩, rfl, ic_St.1, ic_St.2, Nat.le_of_ble_eq_true rfl⟩
def m_Ch_askFor : qk_M := (⟨"QuakeLink$Channel", "askFor", "(JJ)I"⟩, prog_4_method_12_code, 7, (Option.some Jvm.ClassFile.FieldType.int), [])
theorem i_Ch_askFor : qk_isM m_Ch_askFor := ⟨Or.inl ⟨rfl, (lw_i4 _ (List.mem_of_getElem? (i := 42) rfl))⟩, rfl, ic_Ch.1, ic_Ch.2, Nat.le_of_ble_eq_true rfl⟩
def m_Math_min_JJJ : qk_M := (⟨"java/lang/Math", "min", "(JJ)J"⟩, prog_19_method_70_code, 4, (Option.some Jvm.ClassFile.FieldType.long), [])
theorem i_Math_min_JJJ : qk_isM m_Math_min_JJJ := ⟨Or.inl ⟨rfl, (lw_i4 _ (List.mem_of_getElem? (i := 46) rfl))⟩, by decide +kernel, ic_Math.1, ic_Math.2, Nat.le_of_ble_eq_true rfl⟩
def m_La_lose : qk_M := (⟨"QuakeLinkLaw", "lose", "(LQuakeLink;I)I"⟩, method_9_code, 3, (Option.some Jvm.ClassFile.FieldType.int), [(0, 5, 8, 13)])
theorem i_La_lose : qk_isM m_La_lose := ⟨Or.inr (lw_i4 _ (List.mem_of_getElem? (i := 50) rfl)), rfl, ic_La.1, ic_La.2, Nat.le_of_ble_eq_true rfl⟩
def m_Q_lose : qk_M := (⟨"QuakeLink", "lose", "(I)V"⟩, prog_1_method_10_code, 2, (Option.none : Option Jvm.ClassFile.FieldType), [])
theorem i_Q_lose : qk_isM m_Q_lose := ⟨Or.inl ⟨rfl, (lw_i4 _ (List.mem_of_getElem? (i := 54) rfl))⟩, rfl, ic_Q.1, ic_Q.2, Nat.le_of_ble_eq_true rfl⟩
def m_La_length : qk_M := (⟨"QuakeLinkLaw", "length", "(LQuakeLink;I[J)I"⟩, method_10_code, 4, (Option.some Jvm.ClassFile.FieldType.int), [(0, 9, 12, 13)])
theorem i_La_length : qk_isM m_La_length := ⟨Or.inr (lw_i4 _ (List.mem_of_getElem? (i := 57) rfl)), rfl, ic_La.1, ic_La.2, Nat.le_of_ble_eq_true rfl⟩
def m_Q_length : qk_M := (⟨"QuakeLink", "length", "(I)I"⟩, prog_1_method_11_code, 2, (Option.some Jvm.ClassFile.FieldType.int), [])
theorem i_Q_length : qk_isM m_Q_length := ⟨Or.inl ⟨rfl, (lw_i4 _ (List.mem_of_getElem? (i := 61) rfl))⟩, rfl, ic_Q.1, ic_Q.2, Nat.le_of_ble_eq_true rfl⟩
def m_La_air : qk_M := (⟨"QuakeLinkLaw", "air", "(LQuakeLink;II[J)I"⟩, method_11_code, 5, (Option.some Jvm.ClassFile.FieldType.int), [(0, 10, 13, 13)])
theorem i_La_air : qk_isM m_La_air := ⟨Or.inr (lw_i4 _ (List.mem_of_getElem? (i := 64) rfl)), rfl, ic_La.1, ic_La.2, Nat.le_of_ble_eq_true rfl⟩
def m_Q_air : qk_M := (⟨"QuakeLink", "air", "(II)I"⟩, prog_1_method_12_code, 3, (Option.some Jvm.ClassFile.FieldType.int), [])
theorem i_Q_air : qk_isM m_Q_air := ⟨Or.inl ⟨rfl, (lw_i4 _ (List.mem_of_getElem? (i := 68) rfl))⟩, rfl, ic_Q.1, ic_Q.2, Nat.le_of_ble_eq_true rfl⟩
def m_Q_messageWithByte : qk_M := (⟨"QuakeLink", "messageWithByte", "(II)LQuakeLink$Message;"⟩, prog_1_method_27_code, 4, (Option.some (Jvm.ClassFile.FieldType.object "QuakeLink$Message")), [])
theorem i_Q_messageWithByte : qk_isM m_Q_messageWithByte := ⟨Or.inl ⟨rfl, (lw_i4 _ (List.mem_of_getElem? (i := 72) rfl))⟩, rfl, ic_Q.1, ic_Q.2, Nat.le_of_ble_eq_true rfl⟩
def m_La_spoil : qk_M := (⟨"QuakeLinkLaw", "spoil", "(LQuakeLink;III)I"⟩, method_12_code, 5, (Option.some Jvm.ClassFile.FieldType.int), [(0, 7, 10, 13)])
theorem i_La_spoil : qk_isM m_La_spoil := ⟨Or.inr (lw_i4 _ (List.mem_of_getElem? (i := 76) rfl)), rfl, ic_La.1, ic_La.2, Nat.le_of_ble_eq_true rfl⟩
def m_Q_spoil : qk_M := (⟨"QuakeLink", "spoil", "(III)V"⟩, prog_1_method_13_code, 5, (Option.none : Option Jvm.ClassFile.FieldType), [])
theorem i_Q_spoil : qk_isM m_Q_spoil := ⟨Or.inl ⟨rfl, (lw_i4 _ (List.mem_of_getElem? (i := 80) rfl))⟩, rfl, ic_Q.1, ic_Q.2, Nat.le_of_ble_eq_true rfl⟩
def m_La_mend : qk_M := (⟨"QuakeLinkLaw", "mend", "(LQuakeLink;I)I"⟩, method_13_code, 3, (Option.some Jvm.ClassFile.FieldType.int), [(0, 5, 8, 13)])
theorem i_La_mend : qk_isM m_La_mend := ⟨Or.inr (lw_i4 _ (List.mem_of_getElem? (i := 83) rfl)), rfl, ic_La.1, ic_La.2, Nat.le_of_ble_eq_true rfl⟩
def m_Q_mend : qk_M := (⟨"QuakeLink", "mend", "(I)V"⟩, prog_1_method_14_code, 2, (Option.none : Option Jvm.ClassFile.FieldType), [])
theorem i_Q_mend : qk_isM m_Q_mend := ⟨Or.inl ⟨rfl, (lw_i4 _ (List.mem_of_getElem? (i := 87) rfl))⟩, rfl, ic_Q.1, ic_Q.2, Nat.le_of_ble_eq_true rfl⟩
def m_La_has : qk_M := (⟨"QuakeLinkLaw", "has", "(LQuakeLink;II[J)I"⟩, method_14_code, 5, (Option.some Jvm.ClassFile.FieldType.int), [(0, 17, 20, 13)])
theorem i_La_has : qk_isM m_La_has := ⟨Or.inr (lw_i4 _ (List.mem_of_getElem? (i := 91) rfl)), rfl, ic_La.1, ic_La.2, Nat.le_of_ble_eq_true rfl⟩
def m_Q_has : qk_M := (⟨"QuakeLink", "has", "(II)Z"⟩, prog_1_method_15_code, 3, (Option.some Jvm.ClassFile.FieldType.boolean), [])
theorem i_Q_has : qk_isM m_Q_has := ⟨Or.inl ⟨rfl, (lw_i4 _ (List.mem_of_getElem? (i := 95) rfl))⟩, rfl, ic_Q.1, ic_Q.2, Nat.le_of_ble_eq_true rfl⟩
def m_Q_trackOf : qk_M := (⟨"QuakeLink", "trackOf", "(I)LQuakeLink$Track;"⟩, prog_1_method_25_code, 2, (Option.some (Jvm.ClassFile.FieldType.object "QuakeLink$Track")), [])
theorem i_Q_trackOf : qk_isM m_Q_trackOf := ⟨Or.inl ⟨rfl, (lw_i4 _ (List.mem_of_getElem? (i := 99) rfl))⟩, rfl, ic_Q.1, ic_Q.2, Nat.le_of_ble_eq_true rfl⟩
def m_La_at : qk_M := (⟨"QuakeLinkLaw", "at", "(LQuakeLink;II[J)I"⟩, method_15_code, 5, (Option.some Jvm.ClassFile.FieldType.int), [(0, 10, 13, 13)])
theorem i_La_at : qk_isM m_La_at := ⟨Or.inr (lw_i4 _ (List.mem_of_getElem? (i := 103) rfl)), rfl, ic_La.1, ic_La.2, Nat.le_of_ble_eq_true rfl⟩
def m_Q_at : qk_M := (⟨"QuakeLink", "at", "(II)I"⟩, prog_1_method_16_code, 3, (Option.some Jvm.ClassFile.FieldType.int), [])
theorem i_Q_at : qk_isM m_Q_at := ⟨Or.inl ⟨rfl, (lw_i4 _ (List.mem_of_getElem? (i := 107) rfl))⟩, rfl, ic_Q.1, ic_Q.2, Nat.le_of_ble_eq_true rfl⟩
def m_La_qualityAt : qk_M := (⟨"QuakeLinkLaw", "qualityAt", "(LQuakeLink;II[J)I"⟩, method_16_code, 5, (Option.some Jvm.ClassFile.FieldType.int), [(0, 10, 13, 13)])
theorem i_La_qualityAt : qk_isM m_La_qualityAt := ⟨Or.inr (lw_i4 _ (List.mem_of_getElem? (i := 111) rfl)), rfl, ic_La.1, ic_La.2, Nat.le_of_ble_eq_true rfl⟩
def m_Q_qualityAt : qk_M := (⟨"QuakeLink", "qualityAt", "(II)I"⟩, prog_1_method_17_code, 3, (Option.some Jvm.ClassFile.FieldType.int), [])
theorem i_Q_qualityAt : qk_isM m_Q_qualityAt := ⟨Or.inl ⟨rfl, (lw_i4 _ (List.mem_of_getElem? (i := 115) rfl))⟩, rfl, ic_Q.1, ic_Q.2, Nat.le_of_ble_eq_true rfl⟩
def m_Tr_qualityOf : qk_M := (⟨"QuakeLink$Track", "qualityOf", "(I)I"⟩, prog_11_method_3_code, 2, (Option.some Jvm.ClassFile.FieldType.int), [])
theorem i_Tr_qualityOf : qk_isM m_Tr_qualityOf := ⟨Or.inl ⟨rfl, (lw_i4 _ (List.mem_of_getElem? (i := 119) rfl))⟩, rfl, ic_Tr.1, ic_Tr.2, Nat.le_of_ble_eq_true rfl⟩
def m_La_gaps : qk_M := (⟨"QuakeLinkLaw", "gaps", "(LQuakeLink;I[J)I"⟩, method_17_code, 4, (Option.some Jvm.ClassFile.FieldType.int), [(0, 9, 12, 13)])
theorem i_La_gaps : qk_isM m_La_gaps := ⟨Or.inr (lw_i4 _ (List.mem_of_getElem? (i := 122) rfl)), rfl, ic_La.1, ic_La.2, Nat.le_of_ble_eq_true rfl⟩
def m_Q_gaps : qk_M := (⟨"QuakeLink", "gaps", "(I)I"⟩, prog_1_method_18_code, 2, (Option.some Jvm.ClassFile.FieldType.int), [])
theorem i_Q_gaps : qk_isM m_Q_gaps := ⟨Or.inl ⟨rfl, (lw_i4 _ (List.mem_of_getElem? (i := 126) rfl))⟩, rfl, ic_Q.1, ic_Q.2, Nat.le_of_ble_eq_true rfl⟩
def m_Tr_howManyGaps : qk_M := (⟨"QuakeLink$Track", "howManyGaps", "()I"⟩, prog_11_method_6_code, 3, (Option.some Jvm.ClassFile.FieldType.int), [])
theorem i_Tr_howManyGaps : qk_isM m_Tr_howManyGaps := ⟨Or.inl ⟨rfl, (lw_i4 _ (List.mem_of_getElem? (i := 130) rfl))⟩, rfl, ic_Tr.1, ic_Tr.2, Nat.le_of_ble_eq_true rfl⟩
def m_La_gap : qk_M := (⟨"QuakeLinkLaw", "gap", "(LQuakeLink;IIZ[J)I"⟩, method_18_code, 6, (Option.some Jvm.ClassFile.FieldType.int), [(0, 12, 15, 13)])
theorem i_La_gap : qk_isM m_La_gap := ⟨Or.inr (lw_i4 _ (List.mem_of_getElem? (i := 135) rfl)), rfl, ic_La.1, ic_La.2, Nat.le_of_ble_eq_true rfl⟩
def m_Q_gap : qk_M := (⟨"QuakeLink", "gap", "(IIZ)I"⟩, prog_1_method_19_code, 6, (Option.some Jvm.ClassFile.FieldType.int), [])
theorem i_Q_gap : qk_isM m_Q_gap := ⟨Or.inl ⟨rfl, (lw_i4 _ (List.mem_of_getElem? (i := 139) rfl))⟩, rfl, ic_Q.1, ic_Q.2, Nat.le_of_ble_eq_true rfl⟩
def m_Tr_startOfGap : qk_M := (⟨"QuakeLink$Track", "startOfGap", "(I)I"⟩, prog_11_method_7_code, 4, (Option.some Jvm.ClassFile.FieldType.int), [])
theorem i_Tr_startOfGap : qk_isM m_Tr_startOfGap := ⟨Or.inl ⟨rfl, (lw_i4 _ (List.mem_of_getElem? (i := 143) rfl))⟩, rfl, ic_Tr.1, ic_Tr.2, Nat.le_of_ble_eq_true rfl⟩
def m_La_count : qk_M := (⟨"QuakeLinkLaw", "count", "(LQuakeLink;II[J)I"⟩, method_19_code, 5, (Option.some Jvm.ClassFile.FieldType.int), [(0, 10, 13, 13), (0, 10, 17, 21)])
theorem i_La_count : qk_isM m_La_count := ⟨Or.inr (lw_i4 _ (List.mem_of_getElem? (i := 148) rfl)), rfl, ic_La.1, ic_La.2, Nat.le_of_ble_eq_true rfl⟩
def m_Q_count : qk_M := (⟨"QuakeLink", "count", "(II)I"⟩, prog_1_method_20_code, 5, (Option.some Jvm.ClassFile.FieldType.int), [])
theorem i_Q_count : qk_isM m_Q_count := ⟨Or.inl ⟨rfl, (lw_i4 _ (List.mem_of_getElem? (i := 152) rfl))⟩, rfl, ic_Q.1, ic_Q.2, Nat.le_of_ble_eq_true rfl⟩
def m_La_total : qk_M := (⟨"QuakeLinkLaw", "total", "(LQuakeLink;I[J)I"⟩, method_20_code, 4, (Option.some Jvm.ClassFile.FieldType.int), [(0, 9, 12, 21)])
theorem i_La_total : qk_isM m_La_total := ⟨Or.inr (lw_i4 _ (List.mem_of_getElem? (i := 158) rfl)), rfl, ic_La.1, ic_La.2, Nat.le_of_ble_eq_true rfl⟩
def m_Q_total : qk_M := (⟨"QuakeLink", "total", "(I)I"⟩, prog_1_method_21_code, 2, (Option.some Jvm.ClassFile.FieldType.int), [])
theorem i_Q_total : qk_isM m_Q_total := ⟨Or.inl ⟨rfl, (lw_i4 _ (List.mem_of_getElem? (i := 162) rfl))⟩, rfl, ic_Q.1, ic_Q.2, Nat.le_of_ble_eq_true rfl⟩
def m_St_howManyWait : qk_M := (⟨"QuakeLink$Station", "howManyWait", "()I"⟩, prog_10_method_4_code, 3, (Option.some Jvm.ClassFile.FieldType.int), [])
theorem i_St_howManyWait : qk_isM m_St_howManyWait := ⟨Or.inl ⟨rfl, (lw_i4 _ (List.mem_of_getElem? (i := 166) rfl))⟩, rfl, ic_St.1, ic_St.2, Nat.le_of_ble_eq_true rfl⟩
def m_Mo_init : qk_M := (⟨"QuakeLinkModel", "<init>", "()V"⟩, prog_13_method_1_code, 1, (Option.none : Option Jvm.ClassFile.FieldType), [])
theorem ic_Mo : ("QuakeLinkModel" ≠ "java/lang/invoke/MethodHandle" ∧ "QuakeLinkModel" ≠ "java/lang/invoke/VarHandle") ∧ Cond.initialized "QuakeLinkModel" ∈ lw_tbl := ⟨⟨by decide +kernel, by decide +kernel⟩, (lw_i1 _ (List.mem_of_getElem? (i := 8) rfl))⟩
theorem i_Mo_init : qk_isM m_Mo_init := ⟨Or.inl ⟨rfl, (lw_i4 _ (List.mem_of_getElem? (i := 172) rfl))⟩, rfl, ic_Mo.1, ic_Mo.2, Nat.le_of_ble_eq_true rfl⟩
theorem ii_Mo_init : m_Mo_init.1.name = "<init>" → m_Mo_init.2.2.2.2 = [] ∧ Cond.code m_Mo_init.1 m_Mo_init.2.1 m_Mo_init.2.2.1 none ∈ lw_tbl := fun _ => ⟨rfl, (lw_i4 _ (List.mem_of_getElem? (i := 172) rfl))⟩
def m_Mo_thrown : qk_M := (⟨"QuakeLinkModel", "thrown", "()I"⟩, prog_13_method_2_code, 1, (Option.some Jvm.ClassFile.FieldType.int), [])
theorem i_Mo_thrown : qk_isM m_Mo_thrown := ⟨Or.inl ⟨rfl, (lw_i5 _ (List.mem_of_getElem? (i := 43) rfl))⟩, rfl, ic_Mo.1, ic_Mo.2, Nat.le_of_ble_eq_true rfl⟩
def m_Mo_sample : qk_M := (⟨"QuakeLinkModel", "sample", "(II)I"⟩, prog_13_method_13_code, 3, (Option.some Jvm.ClassFile.FieldType.int), [])
theorem i_Mo_sample : qk_isM m_Mo_sample := ⟨Or.inl ⟨rfl, (lw_i5 _ (List.mem_of_getElem? (i := 47) rfl))⟩, rfl, ic_Mo.1, ic_Mo.2, Nat.le_of_ble_eq_true rfl⟩
def m_Mo_isChannel : qk_M := (⟨"QuakeLinkModel", "isChannel", "(I)Z"⟩, prog_13_method_3_code, 1, (Option.some Jvm.ClassFile.FieldType.boolean), [])
theorem i_Mo_isChannel : qk_isM m_Mo_isChannel := ⟨Or.inl ⟨rfl, (lw_i5 _ (List.mem_of_getElem? (i := 50) rfl))⟩, rfl, ic_Mo.1, ic_Mo.2, Nat.le_of_ble_eq_true rfl⟩
def m_Mo_take : qk_M := (⟨"QuakeLinkModel", "take", "(II)V"⟩, prog_13_method_12_code, 6, (Option.none : Option Jvm.ClassFile.FieldType), [])
theorem i_Mo_take : qk_isM m_Mo_take := ⟨Or.inl ⟨rfl, (lw_i5 _ (List.mem_of_getElem? (i := 54) rfl))⟩, rfl, ic_Mo.1, ic_Mo.2, Nat.le_of_ble_eq_true rfl⟩
def m_Mo_least : qk_M := (⟨"QuakeLinkModel", "least", "(IIII)I"⟩, prog_13_method_7_code, 8, (Option.some Jvm.ClassFile.FieldType.int), [])
theorem i_Mo_least : qk_isM m_Mo_least := ⟨Or.inl ⟨rfl, (lw_i5 _ (List.mem_of_getElem? (i := 58) rfl))⟩, rfl, ic_Mo.1, ic_Mo.2, Nat.le_of_ble_eq_true rfl⟩
def m_Mo_difference : qk_M := (⟨"QuakeLinkModel", "difference", "(III)I"⟩, prog_13_method_5_code, 6, (Option.some Jvm.ClassFile.FieldType.int), [])
theorem i_Mo_difference : qk_isM m_Mo_difference := ⟨Or.inl ⟨rfl, (lw_i5 _ (List.mem_of_getElem? (i := 62) rfl))⟩, rfl, ic_Mo.1, ic_Mo.2, Nat.le_of_ble_eq_true rfl⟩
def m_Mo_widthOf : qk_M := (⟨"QuakeLinkModel", "widthOf", "(I)I"⟩, prog_13_method_4_code, 1, (Option.some Jvm.ClassFile.FieldType.int), [])
theorem i_Mo_widthOf : qk_isM m_Mo_widthOf := ⟨Or.inl ⟨rfl, (lw_i5 _ (List.mem_of_getElem? (i := 65) rfl))⟩, rfl, ic_Mo.1, ic_Mo.2, Nat.le_of_ble_eq_true rfl⟩
def m_Mo_fits : qk_M := (⟨"QuakeLinkModel", "fits", "(II)Z"⟩, prog_13_method_6_code, 2, (Option.some Jvm.ClassFile.FieldType.boolean), [])
theorem i_Mo_fits : qk_isM m_Mo_fits := ⟨Or.inl ⟨rfl, (lw_i5 _ (List.mem_of_getElem? (i := 68) rfl))⟩, rfl, ic_Mo.1, ic_Mo.2, Nat.le_of_ble_eq_true rfl⟩
def m_Mo_sizeOf : qk_M := (⟨"QuakeLinkModel", "sizeOf", "(IIII)I"⟩, prog_13_method_8_code, 7, (Option.some Jvm.ClassFile.FieldType.int), [])
theorem i_Mo_sizeOf : qk_isM m_Mo_sizeOf := ⟨Or.inl ⟨rfl, (lw_i5 _ (List.mem_of_getElem? (i := 72) rfl))⟩, rfl, ic_Mo.1, ic_Mo.2, Nat.le_of_ble_eq_true rfl⟩
def m_Mo_close : qk_M := (⟨"QuakeLinkModel", "close", "(I)V"⟩, prog_13_method_9_code, 4, (Option.none : Option Jvm.ClassFile.FieldType), [])
theorem i_Mo_close : qk_isM m_Mo_close := ⟨Or.inl ⟨rfl, (lw_i5 _ (List.mem_of_getElem? (i := 76) rfl))⟩, rfl, ic_Mo.1, ic_Mo.2, Nat.le_of_ble_eq_true rfl⟩
def m_Mo_ringFirst : qk_M := (⟨"QuakeLinkModel", "ringFirst", "(I)I"⟩, prog_13_method_10_code, 5, (Option.some Jvm.ClassFile.FieldType.int), [])
theorem i_Mo_ringFirst : qk_isM m_Mo_ringFirst := ⟨Or.inl ⟨rfl, (lw_i5 _ (List.mem_of_getElem? (i := 80) rfl))⟩, rfl, ic_Mo.1, ic_Mo.2, Nat.le_of_ble_eq_true rfl⟩
def m_Mo_samples : qk_M := (⟨"QuakeLinkModel", "samples", "(IIIII)I"⟩, prog_13_method_14_code, 10, (Option.some Jvm.ClassFile.FieldType.int), [])
theorem i_Mo_samples : qk_isM m_Mo_samples := ⟨Or.inl ⟨rfl, (lw_i5 _ (List.mem_of_getElem? (i := 84) rfl))⟩, rfl, ic_Mo.1, ic_Mo.2, Nat.le_of_ble_eq_true rfl⟩
def m_Mo_quality : qk_M := (⟨"QuakeLinkModel", "quality", "(I)V"⟩, prog_13_method_15_code, 2, (Option.none : Option Jvm.ClassFile.FieldType), [])
theorem i_Mo_quality : qk_isM m_Mo_quality := ⟨Or.inl ⟨rfl, (lw_i5 _ (List.mem_of_getElem? (i := 88) rfl))⟩, rfl, ic_Mo.1, ic_Mo.2, Nat.le_of_ble_eq_true rfl⟩
def m_Mo_flush : qk_M := (⟨"QuakeLinkModel", "flush", "(I)I"⟩, prog_13_method_16_code, 3, (Option.some Jvm.ClassFile.FieldType.int), [])
theorem i_Mo_flush : qk_isM m_Mo_flush := ⟨Or.inl ⟨rfl, (lw_i5 _ (List.mem_of_getElem? (i := 92) rfl))⟩, rfl, ic_Mo.1, ic_Mo.2, Nat.le_of_ble_eq_true rfl⟩
def m_Mo_turn : qk_M := (⟨"QuakeLinkModel", "turn", "()I"⟩, prog_13_method_25_code, 6, (Option.some Jvm.ClassFile.FieldType.int), [])
theorem i_Mo_turn : qk_isM m_Mo_turn := ⟨Or.inl ⟨rfl, (lw_i5 _ (List.mem_of_getElem? (i := 96) rfl))⟩, rfl, ic_Mo.1, ic_Mo.2, Nat.le_of_ble_eq_true rfl⟩
def m_Mo_leastAsked : qk_M := (⟨"QuakeLinkModel", "leastAsked", "(I)I"⟩, prog_13_method_23_code, 3, (Option.some Jvm.ClassFile.FieldType.int), [])
theorem i_Mo_leastAsked : qk_isM m_Mo_leastAsked := ⟨Or.inl ⟨rfl, (lw_i5 _ (List.mem_of_getElem? (i := 100) rfl))⟩, rfl, ic_Mo.1, ic_Mo.2, Nat.le_of_ble_eq_true rfl⟩
def m_Mo_send : qk_M := (⟨"QuakeLinkModel", "send", "(I)I"⟩, prog_13_method_21_code, 9, (Option.some Jvm.ClassFile.FieldType.int), [])
theorem i_Mo_send : qk_isM m_Mo_send := ⟨Or.inl ⟨rfl, (lw_i5 _ (List.mem_of_getElem? (i := 104) rfl))⟩, rfl, ic_Mo.1, ic_Mo.2, Nat.le_of_ble_eq_true rfl⟩
def m_Mo_begin : qk_M := (⟨"QuakeLinkModel", "begin", "()V"⟩, prog_13_method_17_code, 2, (Option.none : Option Jvm.ClassFile.FieldType), [])
theorem i_Mo_begin : qk_isM m_Mo_begin := ⟨Or.inl ⟨rfl, (lw_i5 _ (List.mem_of_getElem? (i := 108) rfl))⟩, rfl, ic_Mo.1, ic_Mo.2, Nat.le_of_ble_eq_true rfl⟩
def m_Mo_put : qk_M := (⟨"QuakeLinkModel", "put", "(II)V"⟩, prog_13_method_18_code, 5, (Option.none : Option Jvm.ClassFile.FieldType), [])
theorem i_Mo_put : qk_isM m_Mo_put := ⟨Or.inl ⟨rfl, (lw_i5 _ (List.mem_of_getElem? (i := 112) rfl))⟩, rfl, ic_Mo.1, ic_Mo.2, Nat.le_of_ble_eq_true rfl⟩
def m_Mo_oldest : qk_M := (⟨"QuakeLinkModel", "oldest", "(I)I"⟩, prog_13_method_11_code, 3, (Option.some Jvm.ClassFile.FieldType.int), [])
theorem i_Mo_oldest : qk_isM m_Mo_oldest := ⟨Or.inl ⟨rfl, (lw_i5 _ (List.mem_of_getElem? (i := 116) rfl))⟩, rfl, ic_Mo.1, ic_Mo.2, Nat.le_of_ble_eq_true rfl⟩
def m_Mo_end : qk_M := (⟨"QuakeLinkModel", "end", "()I"⟩, prog_13_method_20_code, 1, (Option.some Jvm.ClassFile.FieldType.int), [])
theorem i_Mo_end : qk_isM m_Mo_end := ⟨Or.inl ⟨rfl, (lw_i5 _ (List.mem_of_getElem? (i := 120) rfl))⟩, rfl, ic_Mo.1, ic_Mo.2, Nat.le_of_ble_eq_true rfl⟩
def m_Mo_check : qk_M := (⟨"QuakeLinkModel", "check", "(II)I"⟩, prog_13_method_19_code, 7, (Option.some Jvm.ClassFile.FieldType.int), [])
theorem i_Mo_check : qk_isM m_Mo_check := ⟨Or.inl ⟨rfl, (lw_i5 _ (List.mem_of_getElem? (i := 124) rfl))⟩, rfl, ic_Mo.1, ic_Mo.2, Nat.le_of_ble_eq_true rfl⟩
def m_Mo_unask : qk_M := (⟨"QuakeLinkModel", "unask", "(III)V"⟩, prog_13_method_24_code, 5, (Option.none : Option Jvm.ClassFile.FieldType), [])
theorem i_Mo_unask : qk_isM m_Mo_unask := ⟨Or.inl ⟨rfl, (lw_i5 _ (List.mem_of_getElem? (i := 129) rfl))⟩, rfl, ic_Mo.1, ic_Mo.2, Nat.le_of_ble_eq_true rfl⟩
def m_Mo_sendEmpty : qk_M := (⟨"QuakeLinkModel", "sendEmpty", "(I)I"⟩, prog_13_method_22_code, 2, (Option.some Jvm.ClassFile.FieldType.int), [])
theorem i_Mo_sendEmpty : qk_isM m_Mo_sendEmpty := ⟨Or.inl ⟨rfl, (lw_i5 _ (List.mem_of_getElem? (i := 133) rfl))⟩, rfl, ic_Mo.1, ic_Mo.2, Nat.le_of_ble_eq_true rfl⟩
def m_Mo_lose : qk_M := (⟨"QuakeLinkModel", "lose", "(I)V"⟩, prog_13_method_27_code, 2, (Option.none : Option Jvm.ClassFile.FieldType), [])
theorem i_Mo_lose : qk_isM m_Mo_lose := ⟨Or.inl ⟨rfl, (lw_i5 _ (List.mem_of_getElem? (i := 137) rfl))⟩, rfl, ic_Mo.1, ic_Mo.2, Nat.le_of_ble_eq_true rfl⟩
def m_Mo_isSlot : qk_M := (⟨"QuakeLinkModel", "isSlot", "(I)Z"⟩, prog_13_method_26_code, 2, (Option.some Jvm.ClassFile.FieldType.boolean), [])
theorem i_Mo_isSlot : qk_isM m_Mo_isSlot := ⟨Or.inl ⟨rfl, (lw_i5 _ (List.mem_of_getElem? (i := 141) rfl))⟩, rfl, ic_Mo.1, ic_Mo.2, Nat.le_of_ble_eq_true rfl⟩
def m_Mo_length : qk_M := (⟨"QuakeLinkModel", "length", "(I)I"⟩, prog_13_method_28_code, 2, (Option.some Jvm.ClassFile.FieldType.int), [])
theorem i_Mo_length : qk_isM m_Mo_length := ⟨Or.inl ⟨rfl, (lw_i5 _ (List.mem_of_getElem? (i := 145) rfl))⟩, rfl, ic_Mo.1, ic_Mo.2, Nat.le_of_ble_eq_true rfl⟩
def m_Mo_air : qk_M := (⟨"QuakeLinkModel", "air", "(II)I"⟩, prog_13_method_30_code, 3, (Option.some Jvm.ClassFile.FieldType.int), [])
theorem i_Mo_air : qk_isM m_Mo_air := ⟨Or.inl ⟨rfl, (lw_i5 _ (List.mem_of_getElem? (i := 149) rfl))⟩, rfl, ic_Mo.1, ic_Mo.2, Nat.le_of_ble_eq_true rfl⟩
def m_Mo_isByte : qk_M := (⟨"QuakeLinkModel", "isByte", "(II)Z"⟩, prog_13_method_29_code, 3, (Option.some Jvm.ClassFile.FieldType.boolean), [])
theorem i_Mo_isByte : qk_isM m_Mo_isByte := ⟨Or.inl ⟨rfl, (lw_i5 _ (List.mem_of_getElem? (i := 153) rfl))⟩, rfl, ic_Mo.1, ic_Mo.2, Nat.le_of_ble_eq_true rfl⟩
def m_Mo_spoil : qk_M := (⟨"QuakeLinkModel", "spoil", "(III)V"⟩, prog_13_method_31_code, 4, (Option.none : Option Jvm.ClassFile.FieldType), [])
theorem i_Mo_spoil : qk_isM m_Mo_spoil := ⟨Or.inl ⟨rfl, (lw_i5 _ (List.mem_of_getElem? (i := 157) rfl))⟩, rfl, ic_Mo.1, ic_Mo.2, Nat.le_of_ble_eq_true rfl⟩
def m_Mo_mend : qk_M := (⟨"QuakeLinkModel", "mend", "(I)V"⟩, prog_13_method_32_code, 5, (Option.none : Option Jvm.ClassFile.FieldType), [])
theorem i_Mo_mend : qk_isM m_Mo_mend := ⟨Or.inl ⟨rfl, (lw_i5 _ (List.mem_of_getElem? (i := 161) rfl))⟩, rfl, ic_Mo.1, ic_Mo.2, Nat.le_of_ble_eq_true rfl⟩
def m_Mo_hear : qk_M := (⟨"QuakeLinkModel", "hear", "(I)I"⟩, prog_13_method_35_code, 10, (Option.some Jvm.ClassFile.FieldType.int), [])
theorem i_Mo_hear : qk_isM m_Mo_hear := ⟨Or.inl ⟨rfl, (lw_i5 _ (List.mem_of_getElem? (i := 165) rfl))⟩, rfl, ic_Mo.1, ic_Mo.2, Nat.le_of_ble_eq_true rfl⟩
def m_Mo_isChecked : qk_M := (⟨"QuakeLinkModel", "isChecked", "(I)Z"⟩, prog_13_method_34_code, 2, (Option.some Jvm.ClassFile.FieldType.boolean), [])
theorem i_Mo_isChecked : qk_isM m_Mo_isChecked := ⟨Or.inl ⟨rfl, (lw_i5 _ (List.mem_of_getElem? (i := 169) rfl))⟩, rfl, ic_Mo.1, ic_Mo.2, Nat.le_of_ble_eq_true rfl⟩
def m_Mo_get : qk_M := (⟨"QuakeLinkModel", "get", "(I)J"⟩, prog_13_method_33_code, 5, (Option.some Jvm.ClassFile.FieldType.long), [])
theorem i_Mo_get : qk_isM m_Mo_get := ⟨Or.inl ⟨rfl, (lw_i5 _ (List.mem_of_getElem? (i := 173) rfl))⟩, rfl, ic_Mo.1, ic_Mo.2, Nat.le_of_ble_eq_true rfl⟩
def m_Mo_deliver : qk_M := (⟨"QuakeLinkModel", "deliver", "(I)I"⟩, prog_13_method_38_code, 5, (Option.some Jvm.ClassFile.FieldType.int), [])
theorem i_Mo_deliver : qk_isM m_Mo_deliver := ⟨Or.inl ⟨rfl, (lw_i5 _ (List.mem_of_getElem? (i := 178) rfl))⟩, rfl, ic_Mo.1, ic_Mo.2, Nat.le_of_ble_eq_true rfl⟩
def m_Mo_isMessage : qk_M := (⟨"QuakeLinkModel", "isMessage", "()Z"⟩, prog_13_method_36_code, 4, (Option.some Jvm.ClassFile.FieldType.boolean), [])
theorem i_Mo_isMessage : qk_isM m_Mo_isMessage := ⟨Or.inl ⟨rfl, (lw_i5 _ (List.mem_of_getElem? (i := 182) rfl))⟩, rfl, ic_Mo.1, ic_Mo.2, Nat.le_of_ble_eq_true rfl⟩
def m_Mo_isRead : qk_M := (⟨"QuakeLinkModel", "isRead", "(II)Z"⟩, prog_13_method_37_code, 8, (Option.some Jvm.ClassFile.FieldType.boolean), [])
theorem i_Mo_isRead : qk_isM m_Mo_isRead := ⟨Or.inl ⟨rfl, (lw_i5 _ (List.mem_of_getElem? (i := 187) rfl))⟩, rfl, ic_Mo.1, ic_Mo.2, Nat.le_of_ble_eq_true rfl⟩
def m_Mo_has : qk_M := (⟨"QuakeLinkModel", "has", "(II)Z"⟩, prog_13_method_40_code, 3, (Option.some Jvm.ClassFile.FieldType.boolean), [])
theorem i_Mo_has : qk_isM m_Mo_has := ⟨Or.inl ⟨rfl, (lw_i5 _ (List.mem_of_getElem? (i := 191) rfl))⟩, rfl, ic_Mo.1, ic_Mo.2, Nat.le_of_ble_eq_true rfl⟩
def m_Mo_isHeard : qk_M := (⟨"QuakeLinkModel", "isHeard", "(II)Z"⟩, prog_13_method_39_code, 3, (Option.some Jvm.ClassFile.FieldType.boolean), [])
theorem i_Mo_isHeard : qk_isM m_Mo_isHeard := ⟨Or.inl ⟨rfl, (lw_i5 _ (List.mem_of_getElem? (i := 195) rfl))⟩, rfl, ic_Mo.1, ic_Mo.2, Nat.le_of_ble_eq_true rfl⟩
def m_Mo_at : qk_M := (⟨"QuakeLinkModel", "at", "(II)I"⟩, prog_13_method_41_code, 3, (Option.some Jvm.ClassFile.FieldType.int), [])
theorem i_Mo_at : qk_isM m_Mo_at := ⟨Or.inl ⟨rfl, (lw_i5 _ (List.mem_of_getElem? (i := 199) rfl))⟩, rfl, ic_Mo.1, ic_Mo.2, Nat.le_of_ble_eq_true rfl⟩
def m_Mo_qualityAt : qk_M := (⟨"QuakeLinkModel", "qualityAt", "(II)I"⟩, prog_13_method_42_code, 3, (Option.some Jvm.ClassFile.FieldType.int), [])
theorem i_Mo_qualityAt : qk_isM m_Mo_qualityAt := ⟨Or.inl ⟨rfl, (lw_i5 _ (List.mem_of_getElem? (i := 203) rfl))⟩, rfl, ic_Mo.1, ic_Mo.2, Nat.le_of_ble_eq_true rfl⟩
def m_Mo_gaps : qk_M := (⟨"QuakeLinkModel", "gaps", "(I)I"⟩, prog_13_method_44_code, 4, (Option.some Jvm.ClassFile.FieldType.int), [])
theorem i_Mo_gaps : qk_isM m_Mo_gaps := ⟨Or.inl ⟨rfl, (lw_i5 _ (List.mem_of_getElem? (i := 207) rfl))⟩, rfl, ic_Mo.1, ic_Mo.2, Nat.le_of_ble_eq_true rfl⟩
def m_Mo_isGap : qk_M := (⟨"QuakeLinkModel", "isGap", "(II)Z"⟩, prog_13_method_43_code, 5, (Option.some Jvm.ClassFile.FieldType.boolean), [])
theorem i_Mo_isGap : qk_isM m_Mo_isGap := ⟨Or.inl ⟨rfl, (lw_i5 _ (List.mem_of_getElem? (i := 211) rfl))⟩, rfl, ic_Mo.1, ic_Mo.2, Nat.le_of_ble_eq_true rfl⟩
def m_Mo_gap : qk_M := (⟨"QuakeLinkModel", "gap", "(IIZ)I"⟩, prog_13_method_45_code, 6, (Option.some Jvm.ClassFile.FieldType.int), [])
theorem i_Mo_gap : qk_isM m_Mo_gap := ⟨Or.inl ⟨rfl, (lw_i5 _ (List.mem_of_getElem? (i := 215) rfl))⟩, rfl, ic_Mo.1, ic_Mo.2, Nat.le_of_ble_eq_true rfl⟩
def m_Mo_ask : qk_M := (⟨"QuakeLinkModel", "ask", "()I"⟩, prog_13_method_46_code, 5, (Option.some Jvm.ClassFile.FieldType.int), [])
theorem i_Mo_ask : qk_isM m_Mo_ask := ⟨Or.inl ⟨rfl, (lw_i5 _ (List.mem_of_getElem? (i := 219) rfl))⟩, rfl, ic_Mo.1, ic_Mo.2, Nat.le_of_ble_eq_true rfl⟩
def m_Mo_count : qk_M := (⟨"QuakeLinkModel", "count", "(II)I"⟩, prog_13_method_47_code, 7, (Option.some Jvm.ClassFile.FieldType.int), [])
theorem i_Mo_count : qk_isM m_Mo_count := ⟨Or.inl ⟨rfl, (lw_i5 _ (List.mem_of_getElem? (i := 223) rfl))⟩, rfl, ic_Mo.1, ic_Mo.2, Nat.le_of_ble_eq_true rfl⟩
def m_Mo_total : qk_M := (⟨"QuakeLinkModel", "total", "(I)I"⟩, prog_13_method_48_code, 4, (Option.some Jvm.ClassFile.FieldType.int), [])
theorem i_Mo_total : qk_isM m_Mo_total := ⟨Or.inl ⟨rfl, (lw_i5 _ (List.mem_of_getElem? (i := 227) rfl))⟩, rfl, ic_Mo.1, ic_Mo.2, Nat.le_of_ble_eq_true rfl⟩
def m_La_law : qk_M := (⟨"QuakeLinkLaw", "law", "([I)Z"⟩, code, 7, (Option.some Jvm.ClassFile.FieldType.boolean), [])
end
section
/-! ===== the law's start: the claim out of one Ev of the law's body ===== -/
theorem qk_wm1 {s U : State} (hW : s.WarmedH U.vm) {w : Cond} (h1 : qk_gw w = true) {A a : Array Value} (h2 : w.before A s = true) : w.before a U = true := by
  cases w with
  | fieldLinkNest b i c n d h => exact va_tabs rfl (rfl : (s.setVm U.vm).vm = U.vm) (Cond.fieldLinkNest_warmed (args := A) hW h2)
  | methodLinkNest b i c n => exact va_tabs rfl (rfl : (s.setVm U.vm).vm = U.vm) (Cond.methodLinkNest_warmed (args := A) hW h2)
  | castable c t => exact va_tabs rfl (rfl : (s.setVm U.vm).vm = U.vm) (by rw [Cond.castable_setVm (args := A) hW.alike]; exact h2)
  | declares x => exact va_tabs rfl (rfl : (s.setVm U.vm).vm = U.vm) (by rw [Cond.declares_setVm (args := A) hW.alike]; exact h2)
  | stringRef c i t =>
    have h3 := Cond.stringRef_warmed (args := A) hW h2
    first
      | exact va_tabs rfl (rfl : (s.setVm U.vm).vm = U.vm) h3
      | (simp only [Cond.before, Cond.holds, Cond.value, State.names, State.poolOf?, State.resolvedAt?] at h3 ⊢; exact h3)
  | arrayOver t => cases t with
    | object C => exact va_AO.use (va_AO.moved hW.alike (va_AO.of h2))
    | _ => cases h1
  | _ => exact word_at hW (good_of_word h1) h2
theorem qk_ws0 {s : State} {A : Array Value} (h : ∀ w ∈ lw_tbl, w.before A s = true) : qk_ws s := fun w hw h1 _ => qk_wm1 (State.WarmedH.refl s) h1 (h w hw)
theorem qk_D {s : State} (hws : qk_ws s) : ∃ D : va_G, ∀ (c : Nat) (q : vw_C), qcl[c]? = some q → u_Kn s q.1 q.2.1 q.2.2 (D.1 c) (D.2 c) := by
  have key : ∀ c : Nat, ∃ (cC : ClassId) (iS : Nat → Nat), ∀ q : vw_C, qcl[c]? = some q → u_Kn s q.1 q.2.1 q.2.2 cC iS := by
    intro c
    cases hc : qcl[c]? with
    | none => exact ⟨0, fun _ => 0, fun q h => by cases h⟩
    | some q =>
      have hci : c < 15 := (List.getElem?_eq_some_iff.mp hc).1
      have h1 := List.all_eq_true.mp qcl_in c (List.mem_range.mpr hci)
      rw [hc] at h1
      cases hx : qni[c]? with
      | none => rw [hx] at h1; cases h1
      | some z =>
        rw [hx] at h1
        simp only [Bool.and_eq_true, decide_eq_true_eq] at h1
        obtain ⟨cC, iS, h⟩ := u_known (C := q.1) (T := q.2.1) (N := q.2.2) (n := z.1) (ws := u_ws q.1 q.2.1 q.2.2) (args := #[]) (fun w hw => hws w (qk_lays hc w hw).1 (qk_lays hc w hw).2 #[]) (fun _ h => h) (hws _ (List.mem_of_getElem? h1.1.1) rfl #[])
        exact ⟨cC, iS, fun q' hq' => by cases hq'; exact h⟩
  exact ⟨(fun c => Classical.choose (key c), fun c => Classical.choose (Classical.choose_spec (key c))), fun c q hq => Classical.choose_spec (Classical.choose_spec (key c)) q hq⟩
theorem qk_Ety {s : State} (hws : qk_ws s) : ∃ E : FieldType → ClassId, ∀ ty ∈ qk_tyl, ArrOfT s (E ty) ty ∧ va_RA s (E ty) ty := by
  have prim : ∀ ty, (∀ C, ty ≠ .object C) → Cond.arrayClass ty ∈ lw_tbl → ∃ c, ArrOfT s c ty ∧ va_RA s c ty := by
    intro ty hp hw
    obtain ⟨c, k, comp, h1, h2, h3⟩ := Cond.arrayClass_spec (hws _ hw rfl #[])
    refine ⟨c, fun n z => ⟨fun k h => (by cases h), k, h2, comp, h3⟩, ?_⟩
    cases ty <;> first | exact h1 | exact absurd rfl (hp _)
  have obj : ∀ C, Cond.arrayOver (.object C) ∈ lw_tbl → ∃ c, ArrOfT s c (.object C) ∧ va_RA s c (.object C) := by
    intro C hw
    obtain ⟨comp, c, k, h1, -, h2, h3, h4⟩ := Cond.arrayOver_spec (hws _ hw rfl #[])
    exact ⟨c, fun n z => ⟨fun k h => (by cases h), k, h2, comp, h3⟩, k, comp, h2, h3, h1, h4⟩
  have key : ∀ ty, ∃ c, ty ∈ qk_tyl → ArrOfT s c ty ∧ va_RA s c ty := by
    intro ty
    by_cases h : ty ∈ qk_tyl
    · simp only [qk_tyl, List.mem_cons, List.not_mem_nil, or_false] at h
      have h9 : ∃ c, ArrOfT s c ty ∧ va_RA s c ty := by
        rcases h with rfl | rfl | rfl | rfl | rfl | rfl | rfl | rfl | rfl
        · exact prim _ (fun C h => by cases h) (lw_i1 _ (List.mem_of_getElem? (i := 57) rfl))
        · exact prim _ (fun C h => by cases h) (lw_i2 _ (List.mem_of_getElem? (i := 6) rfl))
        · exact prim _ (fun C h => by cases h) (lw_i5 _ (List.mem_of_getElem? (i := 39) rfl))
        · exact prim _ (fun C h => by cases h) (lw_i5 _ (List.mem_of_getElem? (i := 228) rfl))
        · exact obj _ (lw_i1 _ (List.mem_of_getElem? (i := 37) rfl))
        · exact obj _ (lw_i1 _ (List.mem_of_getElem? (i := 59) rfl))
        · exact obj _ (lw_i1 _ (List.mem_of_getElem? (i := 111) rfl))
        · exact obj _ (lw_i1 _ (List.mem_of_getElem? (i := 127) rfl))
        · exact obj _ (lw_i1 _ (List.mem_of_getElem? (i := 136) rfl))
      obtain ⟨c, hc⟩ := h9
      exact ⟨c, fun _ => hc⟩
    · exact ⟨0, fun h' => absurd h' h⟩
  exact ⟨fun ty => Classical.choose (key ty), fun ty h => Classical.choose_spec (key ty) h⟩
def qk_wid : List Int32 := [0, 4, 6, 8, 10, 12, 16, 20, 24, 32]
def qk_chk : List Int32 := [0, 498536548, 997073096, 651767980, 1994146192, 1802195444, 1303535960, 1342533948, -306674912, -267414716, -690576408, -882789492, -1687895376, -2032938284, -1609899400, -1111625188]
/-- the law's world at its start -/
def qk_w0 (n : Nat) (xs : Nat → Int32) : qk_W := fun v => match v with
  | 0 => some (.inl (.int, n, .inl xs))
  | 1 => some (.inl (.int, 10, .inl (fun j => qk_wid.getD j 0)))
  | 2 => some (.inl (.int, 16, .inl (fun j => qk_chk.getD j 0)))
  | _ => none
def qk_ro (n : Nat) (xs : Nat → Int32) : qk_O := fun v => match v with
  | 0 => some (n, xs)
  | 1 => some (10, fun j => qk_wid.getD j 0)
  | 2 => some (16, fun j => qk_chk.getD j 0)
  | _ => none
theorem qk_stat {s : State} {A : Array Value} {f : String} {N : Nat} {tab : List Int32} (hN : N < 2 ^ 31) (hl : (Cond.laysStatic "QuakeLink" f "[I").before A s = true) (hini : (Cond.initialized "QuakeLink").before A s = true) (harr : (Cond.arrayOf (.static "QuakeLink" f "[I") .int).before A s = true) (hlen : (Cond.eq (.length (.static "QuakeLink" f "[I")) (.int (Int32.ofNat N))).before A s = true)
    (hel : ∀ j, j < N → (Cond.eq (.elem (.static "QuakeLink" f "[I") (.int (Int32.ofNat j))) (.int (tab.getD j 0))).before A s = true) :
    ∃ t, t < s.heap.size ∧ va_Z "QuakeLink" f "[I" (.ref t) (fun q => s.heap.size ≤ q) s s.heap ∧ va_T .int t N (fun j => .int (tab.getD j 0)) (fun q => s.heap.size ≤ q) s s.heap := by
  obtain ⟨t, h1, h2⟩ := va_Tof (A := fun q => s.heap.size ≤ q) hN harr (va_eqt hlen) (fun j hj => va_eqt (hel j hj)) (fun a ha h => by omega)
  refine ⟨t, ?_, va_Zof hl hini h1 (fun a ha h => by omega), h2⟩
  obtain ⟨cell, c1, -⟩ := h2
  exact (Array.getElem?_eq_some_iff.mp c1).1
theorem qk_sfof {s : State} {A : Array Value} {n d : String} {t : FieldType} (ht : parseFieldDescriptor d = some t) (hl : (Cond.laysStatic "java/lang/Throwable" n d).before A s = true) (hr : (Cond.isRef (.static "java/lang/Throwable" n d)).before A s = true) : qk_sf n d s s.heap := by
  obtain ⟨c, k, i, fd, a, cell, hc, hf, hst, hsta, hcell, hiss, hcls, hlt, hty⟩ := Cond.laysStatic_spec hl
  obtain ⟨v, hv, hvr⟩ := Cond.isRef_spec hr
  obtain ⟨hst', a', cell', ha', hcell', -, hslot⟩ := Term.static_spec hf hv
  cases hsta.symm.trans ha'
  cases hcell.symm.trans hcell'
  exact ⟨c, k, i, fd, a, cell, v, hc, hf, hst, hsta, hcell, hiss, hcls, hlt, hty, hslot, hvr⟩
end
section
/-! ===== the claim out of one Ev of the law's body (after the skeleton, with the launch's flag and the law's own table) ===== -/
def lw_P (b : Addr) (xs : List Int32) (args : Array Value) (s : State) : Prop := args = #[.ref b] ∧ s.IntsAt b xs ∧ xs.length ≤ 3072 ∧ (Jvm.Cond.and given_1 narrow_1).before args s = true
def lw_Q (_ : Array Value) (s : State) (o : Outcome) (t : State) : Prop := o = .returned (some (.int 1)) ∧ Framed s o t [] 601024 7293034
/-- what is wanted of the law's body -/
def qk_goal : Prop := ∀ (n : Nat) (xs : Nat → Int32), n ≤ 3072 → Ev 12 m_La_law 0 [some (.ref 0), none, none, none, none, none, none] [] (qk_w0 n xs) 0 0 (fun r _ nc ns => r = .inl (some (.int 1)) ∧ nc ≤ 601024 ∧ ns ≤ 7293034)
theorem qk_forget {s t : State} {L : List Loc} {k n K N : Nat} (h : s.sameButNew t L k n) (hL : ∀ q ∈ L, s.heap.size ≤ q.base) (hk : k ≤ K) (hn : n ≤ N) : s.sameButNew t [] K N := by
  obtain ⟨e1, q2, q3, q4, q5, q6⟩ := h
  refine ⟨e1, q2, by omega, q4, by omega, fun a c hc => ?_⟩
  obtain ⟨c', g1, g2, g3, g4⟩ := q6 a c hc
  refine ⟨c', g1, g2, g3, fun i _ => g4 i (fun hm => ?_)⟩
  have h1 := hL _ hm
  have h2 : a < s.heap.size := (Array.getElem?_eq_some_iff.mp hc).1
  exact absurd h2 (Nat.not_lt.mpr h1)
theorem qk_w0_none {n : Nat} {xs : Nat → Int32} {v : Nat} (h : 16 ≤ v) : qk_w0 n xs v = none := by
  obtain ⟨k, rfl⟩ : ∃ k, v = k + 3 := ⟨v - 3, by omega⟩
  rfl
theorem qk_flat_wid : ∀ j, j < 10 → Cond.eq (.elem (.static "QuakeLink" "WIDTHS" "[I") (.int (Int32.ofNat j))) (.int (qk_wid.getD j 0)) ∈ flatC (Jvm.Cond.and given_1 narrow_1) := by decide +kernel
theorem qk_flat_chk : ∀ j, j < 16 → Cond.eq (.elem (.static "QuakeLink" "CHECK_STEPS" "[I") (.int (Int32.ofNat j))) (.int (qk_chk.getD j 0)) ∈ flatC (Jvm.Cond.and given_1 narrow_1) := by decide +kernel
theorem qk_flat_nc : ∀ q ∈ qk_ncl, Cond.not (.castable q.1 q.2) ∈ flatC (Jvm.Cond.and given_1 narrow_1) := by decide +kernel
theorem qk_flat_o : Cond.arrayOf (.static "QuakeLink" "WIDTHS" "[I") .int ∈ flatC (Jvm.Cond.and given_1 narrow_1) ∧ Cond.arrayOf (.static "QuakeLink" "CHECK_STEPS" "[I") .int ∈ flatC (Jvm.Cond.and given_1 narrow_1) ∧ Cond.eq (.length (.static "QuakeLink" "WIDTHS" "[I")) (.int (Int32.ofNat 10)) ∈ flatC (Jvm.Cond.and given_1 narrow_1) ∧ Cond.eq (.length (.static "QuakeLink" "CHECK_STEPS" "[I")) (.int (Int32.ofNat 16)) ∈ flatC (Jvm.Cond.and given_1 narrow_1) ∧
  Cond.isRef (.static "java/lang/Throwable" "UNASSIGNED_STACK" "[Ljava/lang/StackTraceElement;") ∈ flatC (Jvm.Cond.and given_1 narrow_1) ∧ Cond.isRef (.static "java/lang/Throwable" "SUPPRESSED_SENTINEL" "Ljava/util/List;") ∈ flatC (Jvm.Cond.and given_1 narrow_1) := by decide +kernel
theorem qk_lsw : Cond.laysStatic "QuakeLink" "WIDTHS" "[I" ∈ lw_tbl ∧ Cond.laysStatic "QuakeLink" "CHECK_STEPS" "[I" ∈ lw_tbl ∧ Cond.laysStatic "java/lang/Throwable" "UNASSIGNED_STACK" "[Ljava/lang/StackTraceElement;" ∈ lw_tbl ∧ Cond.laysStatic "java/lang/Throwable" "SUPPRESSED_SENTINEL" "Ljava/util/List;" ∈ lw_tbl ∧ Cond.initialized "QuakeLink" ∈ lw_tbl := by decide +kernel
set_option maxHeartbeats 4000000 in
theorem lw_walk (HEv : qk_goal) (l : Launch) (hfl : l.stackTraces = false) (b : Addr) (xs : List Int32) : MetFree l x (headSpec (Jvm.Cond.code x code maxLocals ret :: tables_1) room_1) (lw_P b xs) (fun _ _ _ _ _ => True) lw_Q := by
  refine MetFree.of_bodyS (code := code) (maxLocals := maxLocals) (ret := ret) (by decide) ?_ ?_
  · intro args s m h hn
    obtain ⟨meth, c, h1, h2, h3, h4, h5, h6, -, -⟩ := Cond.code_spec hn (atoms_spec (ws := Jvm.Cond.code x code maxLocals ret :: tables_1) h _ List.mem_cons_self)
    exact ⟨meth, c, h1, h2, h3, h4, h5, h6⟩
  · intro p e s m args below meth c s₁ B hml0 hP _
    obtain ⟨rfl, hx, hbd, hgv⟩ := hP
    obtain ⟨scr, harrAt, hlist, hof, hsmall⟩ := hx
    obtain ⟨hcb, hkn, -, -⟩ := State.arrayAt?_spec harrAt
    have hts0 : ∀ c ∈ (Jvm.Cond.code x code maxLocals ret :: tables_1), c.before #[Value.ref b] s = true := atoms_spec (ws := Jvm.Cond.code x code maxLocals ret :: tables_1) B.pre
    have hts : ∀ w ∈ lw_tbl, w.before #[Value.ref b] s = true := k2_hts_sels lw_privs (fun w hw => hts0 w (List.mem_cons_of_mem _ hw)) lw_privs_ok
    have X₀ : Stand p l e room_1 s m #[Value.ref b] below meth c s₁ [] 0 0 := Stand.of_body B
    have hh0 : s₁.heap = s.heap := by rw [B.state]; rfl
    have hsz : scr.slots.size = xs.length := by rw [← Array.length_toList, hlist, List.length_map]
    have hval : ∀ j : Nat, j < xs.length → scr.slots[j]? = some (.int (xs.getD j 0)) := fun j hj => by
      rw [← Array.getElem?_toList, hlist]
      simp [hj]
    have hbl : b < s.heap.size := (Array.getElem?_eq_some_iff.mp hcb).1
    have hws := qk_ws0 hts
    have hfl2 := flat_of_before _ hgv
    obtain ⟨D, hD⟩ := qk_D hws
    obtain ⟨E, hE⟩ := qk_Ety hws
    obtain ⟨l1, l2, l3, l4, l5⟩ := qk_lsw
    obtain ⟨o1, o2, o3, o4, o5, o6⟩ := qk_flat_o
    obtain ⟨tW, w1, w2, w3⟩ := qk_stat (f := "WIDTHS") (N := 10) (tab := qk_wid) (by decide) (hts _ l1) (hts _ l5) (hfl2 _ o1) (hfl2 _ o3) (fun j hj => hfl2 _ (qk_flat_wid j hj))
    obtain ⟨tC, c1, c2, c3⟩ := qk_stat (f := "CHECK_STEPS") (N := 16) (tab := qk_chk) (by decide) (hts _ l2) (hts _ l5) (hfl2 _ o2) (hfl2 _ o4) (fun j hj => hfl2 _ (qk_flat_chk j hj))
    have s1 := qk_sfof (t := .array (.object "java/lang/StackTraceElement")) (by decide +kernel) (hts _ l3) (hfl2 _ o5)
    have s2 := qk_sfof (t := .object "java/util/List") (by decide +kernel) (hts _ l4) (hfl2 _ o6)
    have hXs : va_T .int b xs.length (fun j => .int (xs.getD j 0)) (fun q => s.heap.size ≤ q) s s.heap := ⟨scr, hcb, hof, hkn, Nat.le_of_eq hsz.symm, by rw [hsz], hval, Nat.not_le.mpr hbl⟩
    have hex : c.exceptionTable.toList = [] := by
      have h5 := B.noHandlers (hts0 _ List.mem_cons_self)
      have h6 : c.exceptionTable = #[] := by simpa using h5
      rw [h6]
    have X : qk_X m_La_law p l s m meth c (D, E) s.heap (qk_ro xs.length (fun j => xs.getD j 0)) (fun v => match v with | 0 => b | 1 => tW | 2 => tC | _ => 0) := by
      refine ⟨⟨B.exec, B.bytes, B.returns, hml0, findClass_of_methodNamed B.named, B.notSynchronized, (name_of_methodNamed B.named B.method).1, by rw [hex]; rfl⟩, ⟨hfl, s1, s2, fun q hq => va_Nc.of (hfl2 _ (qk_flat_nc q hq))⟩, ⟨⟨hD, fun k q hk => ?_⟩, hws, w2, c2, fun v n f hv => ?_⟩, fun q cell hq hc => absurd (Array.getElem?_eq_some_iff.mp hc).1 (by omega)⟩
      · obtain ⟨ty, hty, rfl⟩ := List.mem_map.mp (List.mem_of_getElem? hk)
        exact hE ty hty
      · match v, hv with
        | 0, hv => cases hv; exact ⟨by decide, hbl, hXs⟩
        | 1, hv => cases hv; exact ⟨by decide, w1, w3⟩
        | 2, hv => cases hv; exact ⟨by decide, c1, c3⟩
    have hR : qk_R (D, E) s.heap (qk_ro xs.length (fun j => xs.getD j 0)) (fun v => match v with | 0 => b | 1 => tW | 2 => tC | _ => 0) (qk_w0 xs.length (fun j => xs.getD j 0)) s.heap := by
      refine ⟨⟨Nat.le_refl _, fun _ _ => rfl, fun q cell hq hc => absurd (Array.getElem?_eq_some_iff.mp hc).1 (by omega)⟩, fun v _ => ?_, (fun v e hv h => by rw [qk_w0_none hv] at h; cases h), (fun v v' hv _ h => absurd (qk_w0_none hv) h)⟩
      match v with
      | 0 => rfl
      | 1 => rfl
      | 2 => rfl
      | k + 3 => rfl
    obtain ⟨r, w', kc, ks, ⟨hr, hkc, hks⟩, hS⟩ := HEv xs.length (fun j => xs.getD j 0) hbd
    subst hr
    have hlv := lv_entry [Value.ref b] (n := 7) (Nat.le_of_ble_eq_true rfl)
    have K := hS p l e room_1 s m #[Value.ref b] below meth c s.heap [] 0 0 (D, E) s.heap _ _ _ X hR (fun q hq => by
        rcases List.mem_cons.mp hq with h | h
        · rw [h]; exact fun h => by cases h
        · cases h) (fun x hx => by cases hx) hlv (fun q hq => by cases hq) (Nat.le_refl _) (by decide) (by simp only [room_1]; omega) (by simp only [room_1]; omega)
    obtain ⟨t, a1, o, ρ', L, b1, b2, ⟨b3, -⟩, -, -, -, b7, b8, b9⟩ := K s₁ hh0 X₀
    refine ⟨t, o, ?_, b1, b2, b3, ⟨⟨_, b3⟩, b7, qk_forget b8 b9 (by omega) (by omega)⟩⟩
    show Steps p.tables e below (s₁.setTop (entryFrame m ([Value.ref b] : List Value).toArray 7)) t
    rw [lg_entry_eq]
    exact a1
theorem lw_pre_spec {args : Array Value} {s : State} (h : (Jvm.Cond.and given_1 narrow_1).before args s = true) (hr : rest_1_c.before args s = true) : ∃ (b : Addr) (xs : List Int32), lw_P b xs args s := by
  have hs := flat_of_before _ h
  have hq := flat_of_before _ hr
  have hc : (Cond.count 1).before args s = true := hs _ (by decide +kernel)
  have harr : (Cond.arrayOf (.arg 0) .int).before args s = true := hs _ (by decide +kernel)
  have hle : (Cond.le (.length (.arg 0)) (.int 3072)).before args s = true := hs _ (by decide +kernel)
  have hlen : (Cond.isInt (.length (.arg 0))).before args s = true := hq _ (by decide +kernel)
  have hall : (Cond.all (.arg 0) (.isInt (.elem (.arg 0) (.index 0)))).before args s = true := hq _ (by decide +kernel)
  obtain ⟨b, xs, hb, hx⟩ := State.ints_of_pre rfl harr hlen hall
  have hsm : xs.length < 2 ^ 31 := hx.choose_spec.2.2.2
  have hev : (Term.length (.arg 0)).eval args s none [] s = some (.int xs.length.toInt32) := hx.length_eval hb
  have hv := Cond.le_ints hev (show (Term.int 3072).eval args s none [] s = some (.int 3072) from rfl)
  have hd : xs.length.toInt32 ≤ 3072 := by
    simpa [Cond.before, Cond.holds, hv] using hle
  have hN : xs.length ≤ 3072 := (Int32.ofNat_le_ofNat hsm (by decide)).mp (show Int32.ofNat xs.length ≤ Int32.ofNat 3072 from hd)
  exact ⟨b, xs, Cond.one_arg hc (show args[0]? = some (.ref b) from hb), hx, hN, h⟩
theorem lw_comes (HEv : qk_goal) (l : Launch) (hfl : l.stackTraces = false) : Comes l x (Jvm.Cond.code x code maxLocals ret :: tables_1) room_1 (fun tb e args s => Calls_1 tb e args s ∧ rest_1 tb e args s ∧ Pre_1 tb e args s)
    (fun _ _ args s o t => lw_Q args s o t) := by
  intro p e ha hc hk s m args below hf hfit hheap happ hpre
  obtain ⟨b, xs, hP⟩ := lw_pre_spec hpre.2.2 hpre.2.1
  obtain ⟨k, o, h1, h2, h3, hQ⟩ := lw_walk HEv l hfl b xs p e ha hc hk s m args below hf ((Spec.applies_iff_loose hf).mp happ).1 hP trivial
  exact ⟨k, o, h1, h2, h3, hQ⟩
theorem lw_frame {s t : State} {o : Outcome} {args : Array Value} (h : Framed s o t [] 601024 7293034) :
    Framed s o t (fieldLocs frame_1_writes args s ++ arrayLocs frame_1_arrays args s ++ staticLocs frame_1_statics s) 601024 7293034 := h
theorem lw_limb (HEv : qk_goal) (L : Cond) (hL : ∀ (args : Array Value) (s t : State), L.after args s (.returned (some (.int 1))) t = true) :
    ArmFor flags0 classFile x code maxLocals ret World_1 tables_1 room_1 Calls_1 rest_1 Pre_1
      (fun tb e a s o t => postC L tb e a s o t ∧ Framed s o t (fieldLocs frame_1_writes a s ++ arrayLocs frame_1_arrays a s ++ staticLocs frame_1_statics s) 601024 7293034) := by
  intro l z1 z2 z3 p e ha hc hk s m args below hf hfit hheap happ hpre
  have hfl : l.stackTraces = false := by
    first
      | (simp only [Launch.stackTraces, z1]; decide +kernel)
      | (simp only [Launch.stackTraces, z2]; decide +kernel)
      | (simp only [Launch.stackTraces, z3]; decide +kernel)
  obtain ⟨k, o, h1, h2, h3, rfl, hF⟩ := lw_comes HEv l hfl p e ha hc hk s m args below hf hfit hheap happ hpre
  exact ⟨k, _, h1, h2, h3, hL args s _, lw_frame hF⟩
theorem claim_of (HEv : qk_goal) : Claimed_1_1 ∧ Claimed_1_2 := ⟨lw_limb HEv limb_1_1 (fun args s t => by simp [limb_1_1, Cond.after, Cond.holds, Cond.value]), lw_limb HEv limb_1_2 (fun args s t => Cond.after_iff.mpr (by
  first | (rw [show limb_1_2 = Cond.eq .result (.int 1) from rfl, Cond.eq_ints (x := 1) (y := 1) rfl rfl]; simp; done) | (simp [limb_1_2, Cond.value, Term.eval]; done)))⟩
end

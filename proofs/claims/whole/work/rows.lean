section
-- ===== PART A: goes FIRST, ahead of the names: the tables' words, and 'selects' of the private methods out of them =====
/-- a private method of a class that the tables say can be made, by its rows of tables_1 -/
def lw_okq (q : MethodName × Nat) : Prop := (q.1.cls ≠ "java/lang/invoke/MethodHandle" ∧ q.1.cls ≠ "java/lang/invoke/VarHandle") ∧ Cond.instantiable q.1.cls q.2 ∈ tables_1 ∧ Cond.privateMethod q.1 ∈ tables_1 ∧ Cond.instanceMethod q.1 ∈ tables_1
theorem lw_p0 : lw_okq (⟨"QuakeLink$Station", "firstThatWaits", "()LQuakeLink$Channel;"⟩, 5) := ⟨⟨by decide +kernel, by decide +kernel⟩, List.mem_of_getElem? (i := 31) (by decide +kernel), List.mem_of_getElem? (i := 181) (by decide +kernel), List.mem_of_getElem? (i := 182) (by decide +kernel)⟩
theorem lw_p1 : lw_okq (⟨"QuakeLink$Channel", "firstThatWaits", "()I"⟩, 7) := ⟨⟨by decide +kernel, by decide +kernel⟩, List.mem_of_getElem? (i := 38) (by decide +kernel), List.mem_of_getElem? (i := 189) (by decide +kernel), List.mem_of_getElem? (i := 190) (by decide +kernel)⟩
theorem lw_p2 : lw_okq (⟨"QuakeLink$Channel", "firstOfRing", "()I"⟩, 7) := ⟨⟨by decide +kernel, by decide +kernel⟩, List.mem_of_getElem? (i := 38) (by decide +kernel), List.mem_of_getElem? (i := 193) (by decide +kernel), List.mem_of_getElem? (i := 194) (by decide +kernel)⟩
theorem lw_p3 : lw_okq (⟨"QuakeLink$Channel", "packet", "(I)LQuakeLink$Packet;"⟩, 7) := ⟨⟨by decide +kernel, by decide +kernel⟩, List.mem_of_getElem? (i := 38) (by decide +kernel), List.mem_of_getElem? (i := 211) (by decide +kernel), List.mem_of_getElem? (i := 212) (by decide +kernel)⟩
theorem lw_p4 : lw_okq (⟨"QuakeLink$Station", "leastAsked", "()LQuakeLink$Channel;"⟩, 5) := ⟨⟨by decide +kernel, by decide +kernel⟩, List.mem_of_getElem? (i := 31) (by decide +kernel), List.mem_of_getElem? (i := 283) (by decide +kernel), List.mem_of_getElem? (i := 284) (by decide +kernel)⟩
theorem lw_p5 : lw_okq (⟨"QuakeLink$Channel", "send", "(LQuakeLink$Packet;LQuakeLink$Air;)V"⟩, 7) := ⟨⟨by decide +kernel, by decide +kernel⟩, List.mem_of_getElem? (i := 38) (by decide +kernel), List.mem_of_getElem? (i := 304) (by decide +kernel), List.mem_of_getElem? (i := 305) (by decide +kernel)⟩
theorem lw_p6 : lw_okq (⟨"QuakeLink$Message", "check", "()I"⟩, 2) := ⟨⟨by decide +kernel, by decide +kernel⟩, List.mem_of_getElem? (i := 223) (by decide +kernel), List.mem_of_getElem? (i := 333) (by decide +kernel), List.mem_of_getElem? (i := 334) (by decide +kernel)⟩
theorem lw_p7 : lw_okq (⟨"QuakeLink$Channel", "sendEmpty", "(LQuakeLink$Air;)V"⟩, 7) := ⟨⟨by decide +kernel, by decide +kernel⟩, List.mem_of_getElem? (i := 38) (by decide +kernel), List.mem_of_getElem? (i := 345) (by decide +kernel), List.mem_of_getElem? (i := 346) (by decide +kernel)⟩
theorem lw_p8 : lw_okq (⟨"QuakeLink$Channel", "packetWith", "(I)LQuakeLink$Packet;"⟩, 7) := ⟨⟨by decide +kernel, by decide +kernel⟩, List.mem_of_getElem? (i := 38) (by decide +kernel), List.mem_of_getElem? (i := 357) (by decide +kernel), List.mem_of_getElem? (i := 358) (by decide +kernel)⟩
theorem lw_p9 : lw_okq (⟨"QuakeLink", "channelOf", "(I)LQuakeLink$Channel;"⟩, 3) := ⟨⟨by decide +kernel, by decide +kernel⟩, List.mem_of_getElem? (i := 23) (by decide +kernel), List.mem_of_getElem? (i := 397) (by decide +kernel), List.mem_of_getElem? (i := 398) (by decide +kernel)⟩
theorem lw_p10 : lw_okq (⟨"java/lang/Throwable", "fillInStackTrace", "(I)Ljava/lang/Throwable;"⟩, 6) := ⟨⟨by decide +kernel, by decide +kernel⟩, List.mem_of_getElem? (i := 443) (by decide +kernel), List.mem_of_getElem? (i := 441) (by decide +kernel), List.mem_of_getElem? (i := 442) (by decide +kernel)⟩
theorem lw_p11 : lw_okq (⟨"QuakeLink$Packet", "codeWith", "(I)I"⟩, 10) := ⟨⟨by decide +kernel, by decide +kernel⟩, List.mem_of_getElem? (i := 217) (by decide +kernel), List.mem_of_getElem? (i := 510) (by decide +kernel), List.mem_of_getElem? (i := 511) (by decide +kernel)⟩
theorem lw_p12 : lw_okq (⟨"QuakeLink$Packet", "writeBlock", "()V"⟩, 10) := ⟨⟨by decide +kernel, by decide +kernel⟩, List.mem_of_getElem? (i := 217) (by decide +kernel), List.mem_of_getElem? (i := 532) (by decide +kernel), List.mem_of_getElem? (i := 533) (by decide +kernel)⟩
theorem lw_p13 : lw_okq (⟨"QuakeLink$Packet", "write", "(II)V"⟩, 10) := ⟨⟨by decide +kernel, by decide +kernel⟩, List.mem_of_getElem? (i := 217) (by decide +kernel), List.mem_of_getElem? (i := 536) (by decide +kernel), List.mem_of_getElem? (i := 537) (by decide +kernel)⟩
theorem lw_p14 : lw_okq (⟨"QuakeLink", "messageOf", "(I)LQuakeLink$Message;"⟩, 3) := ⟨⟨by decide +kernel, by decide +kernel⟩, List.mem_of_getElem? (i := 23) (by decide +kernel), List.mem_of_getElem? (i := 602) (by decide +kernel), List.mem_of_getElem? (i := 603) (by decide +kernel)⟩
theorem lw_p15 : lw_okq (⟨"QuakeLink$Decoder", "readWidth", "()Z"⟩, 9) := ⟨⟨by decide +kernel, by decide +kernel⟩, List.mem_of_getElem? (i := 640) (by decide +kernel), List.mem_of_getElem? (i := 681) (by decide +kernel), List.mem_of_getElem? (i := 682) (by decide +kernel)⟩
def lw_privs_1 : List (MethodName × Nat) := [(⟨"QuakeLink$Station", "firstThatWaits", "()LQuakeLink$Channel;"⟩, 5), (⟨"QuakeLink$Channel", "firstThatWaits", "()I"⟩, 7), (⟨"QuakeLink$Channel", "firstOfRing", "()I"⟩, 7), (⟨"QuakeLink$Channel", "packet", "(I)LQuakeLink$Packet;"⟩, 7), (⟨"QuakeLink$Station", "leastAsked", "()LQuakeLink$Channel;"⟩, 5), (⟨"QuakeLink$Channel", "send", "(LQuakeLink$Packet;LQuakeLink$Air;)V"⟩, 7), (⟨"QuakeLink$Message", "check", "()I"⟩, 2), (⟨"QuakeLink$Channel", "sendEmpty", "(LQuakeLink$Air;)V"⟩, 7), (⟨"QuakeLink$Channel", "packetWith", "(I)LQuakeLink$Packet;"⟩, 7), (⟨"QuakeLink", "channelOf", "(I)LQuakeLink$Channel;"⟩, 3), (⟨"java/lang/Throwable", "fillInStackTrace", "(I)Ljava/lang/Throwable;"⟩, 6), (⟨"QuakeLink$Packet", "codeWith", "(I)I"⟩, 10), (⟨"QuakeLink$Packet", "writeBlock", "()V"⟩, 10), (⟨"QuakeLink$Packet", "write", "(II)V"⟩, 10), (⟨"QuakeLink", "messageOf", "(I)LQuakeLink$Message;"⟩, 3), (⟨"QuakeLink$Decoder", "readWidth", "()Z"⟩, 9)]
theorem lw_r1 : ∀ q ∈ lw_privs_1, lw_okq q := List.forall_mem_cons.mpr ⟨lw_p0, List.forall_mem_cons.mpr ⟨lw_p1, List.forall_mem_cons.mpr ⟨lw_p2, List.forall_mem_cons.mpr ⟨lw_p3, List.forall_mem_cons.mpr ⟨lw_p4, List.forall_mem_cons.mpr ⟨lw_p5, List.forall_mem_cons.mpr ⟨lw_p6, List.forall_mem_cons.mpr ⟨lw_p7, List.forall_mem_cons.mpr ⟨lw_p8, List.forall_mem_cons.mpr ⟨lw_p9, List.forall_mem_cons.mpr ⟨lw_p10, List.forall_mem_cons.mpr ⟨lw_p11, List.forall_mem_cons.mpr ⟨lw_p12, List.forall_mem_cons.mpr ⟨lw_p13, List.forall_mem_cons.mpr ⟨lw_p14, List.forall_mem_cons.mpr ⟨lw_p15, fun _ h => absurd h List.not_mem_nil⟩⟩⟩⟩⟩⟩⟩⟩⟩⟩⟩⟩⟩⟩⟩⟩
theorem lw_p16 : lw_okq (⟨"QuakeLink$Decoder", "isLeft", "(I)Z"⟩, 9) := ⟨⟨by decide +kernel, by decide +kernel⟩, List.mem_of_getElem? (i := 640) (by decide +kernel), List.mem_of_getElem? (i := 685) (by decide +kernel), List.mem_of_getElem? (i := 686) (by decide +kernel)⟩
theorem lw_p17 : lw_okq (⟨"QuakeLink$Decoder", "read", "(I)I"⟩, 9) := ⟨⟨by decide +kernel, by decide +kernel⟩, List.mem_of_getElem? (i := 640) (by decide +kernel), List.mem_of_getElem? (i := 689) (by decide +kernel), List.mem_of_getElem? (i := 690) (by decide +kernel)⟩
theorem lw_p18 : lw_okq (⟨"QuakeLink$Track", "page", "(I)LQuakeLink$Page;"⟩, 3) := ⟨⟨by decide +kernel, by decide +kernel⟩, List.mem_of_getElem? (i := 128) (by decide +kernel), List.mem_of_getElem? (i := 716) (by decide +kernel), List.mem_of_getElem? (i := 717) (by decide +kernel)⟩
theorem lw_p19 : lw_okq (⟨"QuakeLink", "messageWithByte", "(II)LQuakeLink$Message;"⟩, 3) := ⟨⟨by decide +kernel, by decide +kernel⟩, List.mem_of_getElem? (i := 23) (by decide +kernel), List.mem_of_getElem? (i := 790) (by decide +kernel), List.mem_of_getElem? (i := 791) (by decide +kernel)⟩
theorem lw_p20 : lw_okq (⟨"QuakeLink", "trackOf", "(I)LQuakeLink$Track;"⟩, 3) := ⟨⟨by decide +kernel, by decide +kernel⟩, List.mem_of_getElem? (i := 23) (by decide +kernel), List.mem_of_getElem? (i := 817) (by decide +kernel), List.mem_of_getElem? (i := 818) (by decide +kernel)⟩
theorem lw_p21 : lw_okq (⟨"QuakeLinkModel", "take", "(II)V"⟩, 34) := ⟨⟨by decide +kernel, by decide +kernel⟩, List.mem_of_getElem? (i := 889) (by decide +kernel), List.mem_of_getElem? (i := 1012) (by decide +kernel), List.mem_of_getElem? (i := 1013) (by decide +kernel)⟩
theorem lw_p22 : lw_okq (⟨"QuakeLinkModel", "least", "(IIII)I"⟩, 34) := ⟨⟨by decide +kernel, by decide +kernel⟩, List.mem_of_getElem? (i := 889) (by decide +kernel), List.mem_of_getElem? (i := 1016) (by decide +kernel), List.mem_of_getElem? (i := 1017) (by decide +kernel)⟩
theorem lw_p23 : lw_okq (⟨"QuakeLinkModel", "difference", "(III)I"⟩, 34) := ⟨⟨by decide +kernel, by decide +kernel⟩, List.mem_of_getElem? (i := 889) (by decide +kernel), List.mem_of_getElem? (i := 1020) (by decide +kernel), List.mem_of_getElem? (i := 1021) (by decide +kernel)⟩
theorem lw_p24 : lw_okq (⟨"QuakeLinkModel", "sizeOf", "(IIII)I"⟩, 34) := ⟨⟨by decide +kernel, by decide +kernel⟩, List.mem_of_getElem? (i := 889) (by decide +kernel), List.mem_of_getElem? (i := 1030) (by decide +kernel), List.mem_of_getElem? (i := 1031) (by decide +kernel)⟩
theorem lw_p25 : lw_okq (⟨"QuakeLinkModel", "close", "(I)V"⟩, 34) := ⟨⟨by decide +kernel, by decide +kernel⟩, List.mem_of_getElem? (i := 889) (by decide +kernel), List.mem_of_getElem? (i := 1034) (by decide +kernel), List.mem_of_getElem? (i := 1035) (by decide +kernel)⟩
theorem lw_p26 : lw_okq (⟨"QuakeLinkModel", "ringFirst", "(I)I"⟩, 34) := ⟨⟨by decide +kernel, by decide +kernel⟩, List.mem_of_getElem? (i := 889) (by decide +kernel), List.mem_of_getElem? (i := 1038) (by decide +kernel), List.mem_of_getElem? (i := 1039) (by decide +kernel)⟩
theorem lw_p27 : lw_okq (⟨"QuakeLinkModel", "leastAsked", "(I)I"⟩, 34) := ⟨⟨by decide +kernel, by decide +kernel⟩, List.mem_of_getElem? (i := 889) (by decide +kernel), List.mem_of_getElem? (i := 1058) (by decide +kernel), List.mem_of_getElem? (i := 1059) (by decide +kernel)⟩
theorem lw_p28 : lw_okq (⟨"QuakeLinkModel", "send", "(I)I"⟩, 34) := ⟨⟨by decide +kernel, by decide +kernel⟩, List.mem_of_getElem? (i := 889) (by decide +kernel), List.mem_of_getElem? (i := 1062) (by decide +kernel), List.mem_of_getElem? (i := 1063) (by decide +kernel)⟩
theorem lw_p29 : lw_okq (⟨"QuakeLinkModel", "begin", "()V"⟩, 34) := ⟨⟨by decide +kernel, by decide +kernel⟩, List.mem_of_getElem? (i := 889) (by decide +kernel), List.mem_of_getElem? (i := 1066) (by decide +kernel), List.mem_of_getElem? (i := 1067) (by decide +kernel)⟩
theorem lw_p30 : lw_okq (⟨"QuakeLinkModel", "put", "(II)V"⟩, 34) := ⟨⟨by decide +kernel, by decide +kernel⟩, List.mem_of_getElem? (i := 889) (by decide +kernel), List.mem_of_getElem? (i := 1070) (by decide +kernel), List.mem_of_getElem? (i := 1071) (by decide +kernel)⟩
theorem lw_p31 : lw_okq (⟨"QuakeLinkModel", "oldest", "(I)I"⟩, 34) := ⟨⟨by decide +kernel, by decide +kernel⟩, List.mem_of_getElem? (i := 889) (by decide +kernel), List.mem_of_getElem? (i := 1074) (by decide +kernel), List.mem_of_getElem? (i := 1075) (by decide +kernel)⟩
def lw_privs_2 : List (MethodName × Nat) := [(⟨"QuakeLink$Decoder", "isLeft", "(I)Z"⟩, 9), (⟨"QuakeLink$Decoder", "read", "(I)I"⟩, 9), (⟨"QuakeLink$Track", "page", "(I)LQuakeLink$Page;"⟩, 3), (⟨"QuakeLink", "messageWithByte", "(II)LQuakeLink$Message;"⟩, 3), (⟨"QuakeLink", "trackOf", "(I)LQuakeLink$Track;"⟩, 3), (⟨"QuakeLinkModel", "take", "(II)V"⟩, 34), (⟨"QuakeLinkModel", "least", "(IIII)I"⟩, 34), (⟨"QuakeLinkModel", "difference", "(III)I"⟩, 34), (⟨"QuakeLinkModel", "sizeOf", "(IIII)I"⟩, 34), (⟨"QuakeLinkModel", "close", "(I)V"⟩, 34), (⟨"QuakeLinkModel", "ringFirst", "(I)I"⟩, 34), (⟨"QuakeLinkModel", "leastAsked", "(I)I"⟩, 34), (⟨"QuakeLinkModel", "send", "(I)I"⟩, 34), (⟨"QuakeLinkModel", "begin", "()V"⟩, 34), (⟨"QuakeLinkModel", "put", "(II)V"⟩, 34), (⟨"QuakeLinkModel", "oldest", "(I)I"⟩, 34)]
theorem lw_r2 : ∀ q ∈ lw_privs_2, lw_okq q := List.forall_mem_cons.mpr ⟨lw_p16, List.forall_mem_cons.mpr ⟨lw_p17, List.forall_mem_cons.mpr ⟨lw_p18, List.forall_mem_cons.mpr ⟨lw_p19, List.forall_mem_cons.mpr ⟨lw_p20, List.forall_mem_cons.mpr ⟨lw_p21, List.forall_mem_cons.mpr ⟨lw_p22, List.forall_mem_cons.mpr ⟨lw_p23, List.forall_mem_cons.mpr ⟨lw_p24, List.forall_mem_cons.mpr ⟨lw_p25, List.forall_mem_cons.mpr ⟨lw_p26, List.forall_mem_cons.mpr ⟨lw_p27, List.forall_mem_cons.mpr ⟨lw_p28, List.forall_mem_cons.mpr ⟨lw_p29, List.forall_mem_cons.mpr ⟨lw_p30, List.forall_mem_cons.mpr ⟨lw_p31, fun _ h => absurd h List.not_mem_nil⟩⟩⟩⟩⟩⟩⟩⟩⟩⟩⟩⟩⟩⟩⟩⟩
theorem lw_p32 : lw_okq (⟨"QuakeLinkModel", "end", "()I"⟩, 34) := ⟨⟨by decide +kernel, by decide +kernel⟩, List.mem_of_getElem? (i := 889) (by decide +kernel), List.mem_of_getElem? (i := 1078) (by decide +kernel), List.mem_of_getElem? (i := 1079) (by decide +kernel)⟩
theorem lw_p33 : lw_okq (⟨"QuakeLinkModel", "check", "(II)I"⟩, 34) := ⟨⟨by decide +kernel, by decide +kernel⟩, List.mem_of_getElem? (i := 889) (by decide +kernel), List.mem_of_getElem? (i := 1082) (by decide +kernel), List.mem_of_getElem? (i := 1083) (by decide +kernel)⟩
theorem lw_p34 : lw_okq (⟨"QuakeLinkModel", "unask", "(III)V"⟩, 34) := ⟨⟨by decide +kernel, by decide +kernel⟩, List.mem_of_getElem? (i := 889) (by decide +kernel), List.mem_of_getElem? (i := 1087) (by decide +kernel), List.mem_of_getElem? (i := 1088) (by decide +kernel)⟩
theorem lw_p35 : lw_okq (⟨"QuakeLinkModel", "sendEmpty", "(I)I"⟩, 34) := ⟨⟨by decide +kernel, by decide +kernel⟩, List.mem_of_getElem? (i := 889) (by decide +kernel), List.mem_of_getElem? (i := 1091) (by decide +kernel), List.mem_of_getElem? (i := 1092) (by decide +kernel)⟩
theorem lw_p36 : lw_okq (⟨"QuakeLinkModel", "isSlot", "(I)Z"⟩, 34) := ⟨⟨by decide +kernel, by decide +kernel⟩, List.mem_of_getElem? (i := 889) (by decide +kernel), List.mem_of_getElem? (i := 1099) (by decide +kernel), List.mem_of_getElem? (i := 1100) (by decide +kernel)⟩
theorem lw_p37 : lw_okq (⟨"QuakeLinkModel", "isByte", "(II)Z"⟩, 34) := ⟨⟨by decide +kernel, by decide +kernel⟩, List.mem_of_getElem? (i := 889) (by decide +kernel), List.mem_of_getElem? (i := 1111) (by decide +kernel), List.mem_of_getElem? (i := 1112) (by decide +kernel)⟩
theorem lw_p38 : lw_okq (⟨"QuakeLinkModel", "isChecked", "(I)Z"⟩, 34) := ⟨⟨by decide +kernel, by decide +kernel⟩, List.mem_of_getElem? (i := 889) (by decide +kernel), List.mem_of_getElem? (i := 1127) (by decide +kernel), List.mem_of_getElem? (i := 1128) (by decide +kernel)⟩
theorem lw_p39 : lw_okq (⟨"QuakeLinkModel", "get", "(I)J"⟩, 34) := ⟨⟨by decide +kernel, by decide +kernel⟩, List.mem_of_getElem? (i := 889) (by decide +kernel), List.mem_of_getElem? (i := 1131) (by decide +kernel), List.mem_of_getElem? (i := 1132) (by decide +kernel)⟩
theorem lw_p40 : lw_okq (⟨"QuakeLinkModel", "isMessage", "()Z"⟩, 34) := ⟨⟨by decide +kernel, by decide +kernel⟩, List.mem_of_getElem? (i := 889) (by decide +kernel), List.mem_of_getElem? (i := 1140) (by decide +kernel), List.mem_of_getElem? (i := 1141) (by decide +kernel)⟩
theorem lw_p41 : lw_okq (⟨"QuakeLinkModel", "isRead", "(II)Z"⟩, 34) := ⟨⟨by decide +kernel, by decide +kernel⟩, List.mem_of_getElem? (i := 889) (by decide +kernel), List.mem_of_getElem? (i := 1145) (by decide +kernel), List.mem_of_getElem? (i := 1146) (by decide +kernel)⟩
theorem lw_p42 : lw_okq (⟨"QuakeLinkModel", "isHeard", "(II)Z"⟩, 34) := ⟨⟨by decide +kernel, by decide +kernel⟩, List.mem_of_getElem? (i := 889) (by decide +kernel), List.mem_of_getElem? (i := 1153) (by decide +kernel), List.mem_of_getElem? (i := 1154) (by decide +kernel)⟩
theorem lw_p43 : lw_okq (⟨"QuakeLinkModel", "isGap", "(II)Z"⟩, 34) := ⟨⟨by decide +kernel, by decide +kernel⟩, List.mem_of_getElem? (i := 889) (by decide +kernel), List.mem_of_getElem? (i := 1169) (by decide +kernel), List.mem_of_getElem? (i := 1170) (by decide +kernel)⟩
def lw_privs_3 : List (MethodName × Nat) := [(⟨"QuakeLinkModel", "end", "()I"⟩, 34), (⟨"QuakeLinkModel", "check", "(II)I"⟩, 34), (⟨"QuakeLinkModel", "unask", "(III)V"⟩, 34), (⟨"QuakeLinkModel", "sendEmpty", "(I)I"⟩, 34), (⟨"QuakeLinkModel", "isSlot", "(I)Z"⟩, 34), (⟨"QuakeLinkModel", "isByte", "(II)Z"⟩, 34), (⟨"QuakeLinkModel", "isChecked", "(I)Z"⟩, 34), (⟨"QuakeLinkModel", "get", "(I)J"⟩, 34), (⟨"QuakeLinkModel", "isMessage", "()Z"⟩, 34), (⟨"QuakeLinkModel", "isRead", "(II)Z"⟩, 34), (⟨"QuakeLinkModel", "isHeard", "(II)Z"⟩, 34), (⟨"QuakeLinkModel", "isGap", "(II)Z"⟩, 34)]
theorem lw_r3 : ∀ q ∈ lw_privs_3, lw_okq q := List.forall_mem_cons.mpr ⟨lw_p32, List.forall_mem_cons.mpr ⟨lw_p33, List.forall_mem_cons.mpr ⟨lw_p34, List.forall_mem_cons.mpr ⟨lw_p35, List.forall_mem_cons.mpr ⟨lw_p36, List.forall_mem_cons.mpr ⟨lw_p37, List.forall_mem_cons.mpr ⟨lw_p38, List.forall_mem_cons.mpr ⟨lw_p39, List.forall_mem_cons.mpr ⟨lw_p40, List.forall_mem_cons.mpr ⟨lw_p41, List.forall_mem_cons.mpr ⟨lw_p42, List.forall_mem_cons.mpr ⟨lw_p43, fun _ h => absurd h List.not_mem_nil⟩⟩⟩⟩⟩⟩⟩⟩⟩⟩⟩⟩
def lw_privs : List (MethodName × Nat) := lw_privs_1 ++ (lw_privs_2 ++ (lw_privs_3))
def lw_tbl : List Cond := k2_sels lw_privs ++ tables_1
theorem lw_privs_ok : ∀ q ∈ lw_privs, lw_okq q := by
  show ∀ q ∈ lw_privs_1 ++ (lw_privs_2 ++ (lw_privs_3)), lw_okq q
  exact List.forall_mem_append.mpr ⟨lw_r1, List.forall_mem_append.mpr ⟨lw_r2, lw_r3⟩⟩
end
section
/-! the classes of the system, their fields in order; by gen_names.py -/
def qT_Q : u_T := fun k => match k with
  | 0 => ("QuakeLink", "station", "LQuakeLink$Station;", true)
  | 1 => ("QuakeLink", "slots", "LQuakeLink$Air;", true)
  | _ => ("QuakeLink", "centre", "LQuakeLink$Centre;", true)
def qy_Q : Nat → FieldType := fun k => match k with
  | 0 => .object "QuakeLink$Station"
  | 1 => .object "QuakeLink$Air"
  | _ => .object "QuakeLink$Centre"
def qT_St : u_T := fun k => match k with
  | 0 => ("QuakeLink$Station", "channels", "[LQuakeLink$Channel;", true)
  | 1 => ("QuakeLink$Station", "percent", "I", false)
  | 2 => ("QuakeLink$Station", "bad", "I", false)
  | 3 => ("QuakeLink$Station", "closings", "I", false)
  | _ => ("QuakeLink$Station", "lastWaited", "Z", false)
def qy_St : Nat → FieldType := fun k => match k with
  | 0 => .array (.object "QuakeLink$Channel")
  | 1 => .int
  | 2 => .int
  | 3 => .int
  | _ => .boolean
def qT_Ch : u_T := fun k => match k with
  | 0 => ("QuakeLink$Channel", "asked", "LQuakeLink$NumberSet;", true)
  | 1 => ("QuakeLink$Channel", "taken", "I", false)
  | 2 => ("QuakeLink$Channel", "index", "I", true)
  | 3 => ("QuakeLink$Channel", "packets", "[LQuakeLink$Packet;", true)
  | 4 => ("QuakeLink$Channel", "closed", "I", false)
  | 5 => ("QuakeLink$Channel", "inClosed", "I", false)
  | _ => ("QuakeLink$Channel", "unsent", "I", false)
def qy_Ch : Nat → FieldType := fun k => match k with
  | 0 => .object "QuakeLink$NumberSet"
  | 1 => .int
  | 2 => .int
  | 3 => .array (.object "QuakeLink$Packet")
  | 4 => .int
  | 5 => .int
  | _ => .int
def qT_Ns : u_T := fun k => match k with
  | 0 => ("QuakeLink$NumberSet", "words", "[I", true)
  | _ => ("QuakeLink$NumberSet", "size", "I", false)
def qy_Ns : Nat → FieldType := fun k => match k with
  | 0 => .array .int
  | _ => .int
def qT_Ai : u_T := fun k => match k with
  | 0 => ("QuakeLink$Air", "places", "[LQuakeLink$Message;", true)
  | _ => ("QuakeLink$Air", "made", "I", false)
def qy_Ai : Nat → FieldType := fun k => match k with
  | 0 => .array (.object "QuakeLink$Message")
  | _ => .int
def qT_Ce : u_T := fun k => match k with
  | 0 => ("QuakeLink$Centre", "tracks", "[LQuakeLink$Track;", true)
  | 1 => ("QuakeLink$Centre", "rejected", "I", false)
  | _ => ("QuakeLink$Centre", "clashed", "I", false)
def qy_Ce : Nat → FieldType := fun k => match k with
  | 0 => .array (.object "QuakeLink$Track")
  | 1 => .int
  | _ => .int
def qT_Tr : u_T := fun k => match k with
  | 0 => ("QuakeLink$Track", "had", "LQuakeLink$NumberSet;", true)
  | 1 => ("QuakeLink$Track", "oldest", "I", false)
  | _ => ("QuakeLink$Track", "pages", "[LQuakeLink$Page;", true)
def qy_Tr : Nat → FieldType := fun k => match k with
  | 0 => .object "QuakeLink$NumberSet"
  | 1 => .int
  | _ => .array (.object "QuakeLink$Page")
def qT_Pa : u_T := fun k => match k with
  | 0 => ("QuakeLink$Packet", "message", "LQuakeLink$Message;", true)
  | 1 => ("QuakeLink$Packet", "first", "I", false)
  | 2 => ("QuakeLink$Packet", "held", "I", false)
  | 3 => ("QuakeLink$Packet", "order", "I", false)
  | 4 => ("QuakeLink$Packet", "block", "[I", true)
  | 5 => ("QuakeLink$Packet", "inBlock", "I", false)
  | 6 => ("QuakeLink$Packet", "code", "I", false)
  | 7 => ("QuakeLink$Packet", "bits", "I", false)
  | 8 => ("QuakeLink$Packet", "last", "I", false)
  | _ => ("QuakeLink$Packet", "step", "I", false)
def qy_Pa : Nat → FieldType := fun k => match k with
  | 0 => .object "QuakeLink$Message"
  | 1 => .int
  | 2 => .int
  | 3 => .int
  | 4 => .array .int
  | 5 => .int
  | 6 => .int
  | 7 => .int
  | 8 => .int
  | _ => .int
def qT_Me : u_T := fun k => match k with
  | 0 => ("QuakeLink$Message", "row", "[B", true)
  | _ => ("QuakeLink$Message", "size", "I", false)
def qy_Me : Nat → FieldType := fun k => match k with
  | 0 => .array .byte
  | _ => .int
def qT_De : u_T := fun k => match k with
  | 0 => ("QuakeLink$Decoder", "value", "I", false)
  | 1 => ("QuakeLink$Decoder", "message", "LQuakeLink$Message;", true)
  | 2 => ("QuakeLink$Decoder", "end", "I", true)
  | 3 => ("QuakeLink$Decoder", "place", "I", false)
  | 4 => ("QuakeLink$Decoder", "taken", "J", false)
  | 5 => ("QuakeLink$Decoder", "takenBits", "I", false)
  | 6 => ("QuakeLink$Decoder", "inBlock", "I", false)
  | 7 => ("QuakeLink$Decoder", "width", "I", false)
  | _ => ("QuakeLink$Decoder", "step", "I", false)
def qy_De : Nat → FieldType := fun k => match k with
  | 0 => .int
  | 1 => .object "QuakeLink$Message"
  | 2 => .int
  | 3 => .int
  | 4 => .long
  | 5 => .int
  | 6 => .int
  | 7 => .int
  | _ => .int
def qT_Pg : u_T := fun k => match k with
  | 0 => ("QuakeLink$Page", "values", "[I", true)
  | _ => ("QuakeLink$Page", "qualities", "[B", true)
def qy_Pg : Nat → FieldType := fun k => match k with
  | 0 => .array .int
  | _ => .array .byte
def qT_Mo : u_T := fun k => match k with
  | 0 => ("QuakeLinkModel", "code", "I", false)
  | 1 => ("QuakeLinkModel", "samples", "[I", true)
  | 2 => ("QuakeLinkModel", "taken", "[I", true)
  | 3 => ("QuakeLinkModel", "openFrom", "[I", true)
  | 4 => ("QuakeLinkModel", "openBits", "[I", true)
  | 5 => ("QuakeLinkModel", "quality", "I", false)
  | 6 => ("QuakeLinkModel", "channels", "[I", true)
  | 7 => ("QuakeLinkModel", "firsts", "[I", true)
  | 8 => ("QuakeLinkModel", "manys", "[I", true)
  | 9 => ("QuakeLinkModel", "qualities", "[I", true)
  | 10 => ("QuakeLinkModel", "waits", "[Z", true)
  | 11 => ("QuakeLinkModel", "packets", "I", false)
  | 12 => ("QuakeLinkModel", "asked", "[Z", true)
  | 13 => ("QuakeLinkModel", "sentForWaiting", "Z", false)
  | 14 => ("QuakeLinkModel", "air", "[B", true)
  | 15 => ("QuakeLinkModel", "lengths", "[I", true)
  | 16 => ("QuakeLinkModel", "thrown", "[Z", true)
  | 17 => ("QuakeLinkModel", "slots", "I", false)
  | 18 => ("QuakeLinkModel", "values", "[I", true)
  | 19 => ("QuakeLinkModel", "heard", "[B", true)
  | 20 => ("QuakeLinkModel", "oldestHeard", "[I", true)
  | 21 => ("QuakeLinkModel", "rejected", "I", false)
  | 22 => ("QuakeLinkModel", "clashed", "I", false)
  | 23 => ("QuakeLinkModel", "bad", "I", false)
  | 24 => ("QuakeLinkModel", "row", "I", false)
  | 25 => ("QuakeLinkModel", "bit", "I", false)
  | 26 => ("QuakeLinkModel", "channel", "I", false)
  | 27 => ("QuakeLinkModel", "many", "I", false)
  | 28 => ("QuakeLinkModel", "percent", "I", false)
  | 29 => ("QuakeLinkModel", "number", "J", false)
  | 30 => ("QuakeLinkModel", "old", "J", false)
  | 31 => ("QuakeLinkModel", "read", "[I", true)
  | 32 => ("QuakeLinkModel", "gapFrom", "I", false)
  | _ => ("QuakeLinkModel", "gapTo", "I", false)
def qy_Mo : Nat → FieldType := fun k => match k with
  | 0 => .int
  | 1 => .array .int
  | 2 => .array .int
  | 3 => .array .int
  | 4 => .array .int
  | 5 => .int
  | 6 => .array .int
  | 7 => .array .int
  | 8 => .array .int
  | 9 => .array .int
  | 10 => .array .boolean
  | 11 => .int
  | 12 => .array .boolean
  | 13 => .boolean
  | 14 => .array .byte
  | 15 => .array .int
  | 16 => .array .boolean
  | 17 => .int
  | 18 => .array .int
  | 19 => .array .byte
  | 20 => .array .int
  | 21 => .int
  | 22 => .int
  | 23 => .int
  | 24 => .int
  | 25 => .int
  | 26 => .int
  | 27 => .int
  | 28 => .int
  | 29 => .long
  | 30 => .long
  | 31 => .array .int
  | 32 => .int
  | _ => .int
def qT_E : u_T := fun _ => ("", "", "", false)
def qy_E : Nat → FieldType := fun _ => .int
/-- all classes: number, name, fields -/
def qcl : List vw_C := [("QuakeLink", qT_Q, 3), ("QuakeLink$Station", qT_St, 5), ("QuakeLink$Channel", qT_Ch, 7), ("QuakeLink$NumberSet", qT_Ns, 2), ("QuakeLink$Air", qT_Ai, 2), ("QuakeLink$Centre", qT_Ce, 3), ("QuakeLink$Track", qT_Tr, 3), ("QuakeLink$Packet", qT_Pa, 10), ("QuakeLink$Message", qT_Me, 2), ("QuakeLink$Decoder", qT_De, 9), ("QuakeLink$Page", qT_Pg, 2), ("QuakeLinkModel", qT_Mo, 34), ("java/lang/IndexOutOfBoundsException", qT_E, 0), ("java/lang/IllegalStateException", qT_E, 0), ("java/lang/IllegalArgumentException", qT_E, 0)]
def qcy : List (Nat → FieldType) := [qy_Q, qy_St, qy_Ch, qy_Ns, qy_Ai, qy_Ce, qy_Tr, qy_Pa, qy_Me, qy_De, qy_Pg, qy_Mo, qy_E, qy_E, qy_E]
/-- where a class's field words stand in lw_tbl -/
def qix : List (List Nat) := [[209, 211, 213], [137, 139, 141, 143, 145], [114, 116, 118, 120, 122, 124, 126], [96, 98], [159, 161], [199, 201, 203], [186, 188, 190], [305, 307, 309, 311, 313, 315, 317, 319, 321, 323], [285, 287], [701, 703, 705, 707, 709, 711, 713, 715, 717], [772, 774], [974, 976, 978, 980, 982, 984, 986, 988, 990, 992, 994, 996, 998, 1000, 1002, 1004, 1006, 1008, 1010, 1012, 1014, 1016, 1018, 1020, 1022, 1024, 1026, 1028, 1030, 1032, 1034, 1036, 1038, 1040], [], [], []]
theorem qcl_ix : (List.range 15).all (fun c => match qcl[c]?, qix[c]? with | some q, some l => (List.range q.2.2).all (fun k => decide (lw_tbl[l.getD k 0]? = some (u_lay q.1 q.2.1 k))) | _, _ => false) = true := by decide +kernel
theorem qcl_nm : (List.range 15).all (fun c => match qcl[c]? with | some q => (List.range q.2.2).all (fun a => (List.range q.2.2).all (fun b => decide (a = b ∨ (q.2.1 a).2.1 ≠ (q.2.1 b).2.1))) | _ => false) = true := by decide +kernel
theorem qcl_ty : (List.range 15).all (fun c => match qcl[c]?, qcy[c]? with | some q, some y => (List.range q.2.2).all (fun k => decide (parseFieldDescriptor (q.2.1 k).2.2.1 = some (y k))) | _, _ => false) = true := by decide +kernel
/-- where each class's instantiable and initialized words stand, and how many slots its object has -/
def qni : List (Nat × Nat × Nat) := [(3, 67, 45), (5, 75, 46), (7, 82, 47), (2, 88, 48), (2, 149, 49), (3, 165, 50), (3, 172, 51), (10, 261, 59), (2, 267, 60), (9, 684, 64), (2, 763, 65), (34, 933, 52), (6, 449, 56), (6, 520, 57), (6, 606, 61)]
theorem qcl_in : (List.range 15).all (fun c => match qcl[c]?, qni[c]? with | some q, some z => decide (lw_tbl[z.2.1]? = some (Cond.instantiable q.1 z.1)) && decide (lw_tbl[z.2.2]? = some (Cond.initialized q.1)) && (decide (z.1 = q.2.2) || decide (12 ≤ c)) | _, _ => false) = true := by decide +kernel
end
section
/-! ===== virtual worlds: cells by names of my own, references by those names; qk_rv turns a name into an address ===== -/
abbrev qk_C : Type := (FieldType × vp_A) ⊕ (Nat × List Value)
abbrev qk_W : Type := Nat → Option qk_C
abbrev qk_M : Type := MethodName × ByteArray × Nat × Option FieldType × List (Nat × Nat × Nat × Nat)
abbrev qk_G : Type := va_G × (FieldType → ClassId)
def qk_rv (ρ : Nat → Nat) : Value → Value
  | .ref a => .ref (ρ a)
  | v => v
def qk_ra (ρ : Nat → Nat) (a : vp_A) : vp_A := match a with
  | (n, .inr (.inr (.inr (.inr f)))) => (n, .inr (.inr (.inr (.inr (fun j => (f j).map ρ)))))
  | x => x
def qk_re (ρ : Nat → Nat) (E : FieldType → ClassId) : qk_C → va_E
  | .inl (ty, a) => .inl (E ty, qk_ra ρ a)
  | .inr (ci, fs) => .inr (ci, fs.map (qk_rv ρ))
def qk_ok (w : qk_W) : Value → Prop
  | .ref a => w a ≠ none
  | _ => True
def qk_okC (w : qk_W) : qk_C → Prop
  | .inl (_, _, .inr (.inr (.inr (.inr f)))) => ∀ j a, f j = some a → w a ≠ none
  | .inl _ => True
  | .inr (_, fs) => ∀ v ∈ fs, qk_ok w v
def qk_set (w : qk_W) (a : Nat) (e : qk_C) : qk_W := fun b => if b = a then some e else w b
theorem qk_set_eq (w : qk_W) (a : Nat) (e : qk_C) : qk_set w a e a = some e := by simp [qk_set]
theorem qk_set_ne {w : qk_W} {a b : Nat} {e : qk_C} (h : b ≠ a) : qk_set w a e b = w b := by simp [qk_set, h]
theorem qk_set_some {w : qk_W} {a b : Nat} {e : qk_C} (h : w b ≠ none) : qk_set w a e b ≠ none := by
  unfold qk_set
  split
  · exact fun h => by cases h
  · exact h
theorem qk_ok_mono {w w' : qk_W} (h : ∀ v, w v ≠ none → w' v ≠ none) {x : Value} (hx : qk_ok w x) : qk_ok w' x := by
  cases x <;> first | exact trivial | exact h _ hx
theorem qk_okC_mono {w w' : qk_W} (h : ∀ v, w v ≠ none → w' v ≠ none) {x : qk_C} (hx : qk_okC w x) : qk_okC w' x := by
  match x, hx with
  | .inl (_, _, .inl _), _ => exact trivial
  | .inl (_, _, .inr (.inl _)), _ => exact trivial
  | .inl (_, _, .inr (.inr (.inl _))), _ => exact trivial
  | .inl (_, _, .inr (.inr (.inr (.inl _)))), _ => exact trivial
  | .inl (_, _, .inr (.inr (.inr (.inr f)))), hx => exact fun j a hj => h _ (hx j a hj)
  | .inr (_, fs), hx => exact fun v hv => qk_ok_mono h (hx v hv)
theorem qk_rv_congr {ρ ρ' : Nat → Nat} {w : qk_W} (h : ∀ v, w v ≠ none → ρ' v = ρ v) {x : Value} (hx : qk_ok w x) : qk_rv ρ' x = qk_rv ρ x := by
  cases x <;> first | rfl | exact congrArg Value.ref (h _ hx)
theorem qk_re_congr {ρ ρ' : Nat → Nat} {w : qk_W} (E : FieldType → ClassId) (h : ∀ v, w v ≠ none → ρ' v = ρ v) {x : qk_C} (hx : qk_okC w x) : qk_re ρ' E x = qk_re ρ E x := by
  match x, hx with
  | .inl (_, _, .inl _), _ => rfl
  | .inl (_, _, .inr (.inl _)), _ => rfl
  | .inl (_, _, .inr (.inr (.inl _))), _ => rfl
  | .inl (_, _, .inr (.inr (.inr (.inl _)))), _ => rfl
  | .inl (ty, n, .inr (.inr (.inr (.inr f)))), hx =>
    show Sum.inl (E ty, n, Sum.inr (Sum.inr (Sum.inr (Sum.inr fun j => (f j).map ρ')))) = Sum.inl (E ty, n, Sum.inr (Sum.inr (Sum.inr (Sum.inr fun j => (f j).map ρ))))
    have : (fun j => (f j).map ρ') = fun j => (f j).map ρ := by
      funext j
      cases hj : f j with
      | none => rfl
      | some a => exact congrArg some (h a (hx j a hj))
    rw [this]
  | .inr (ci, fs), hx =>
    show Sum.inr (ci, fs.map (qk_rv ρ')) = Sum.inr (ci, fs.map (qk_rv ρ))
    rw [List.map_congr_left (fun v hv => qk_rv_congr h (hx v hv))]
theorem qk_rv_cat (ρ : Nat → Nat) (x : Value) : (qk_rv ρ x).category = x.category := by cases x <;> rfl
/-- the words of the tables hold at U, whatever the arguments -/
def qk_gw : Cond → Bool
  | .fieldLinkNest .. => true
  | .methodLinkNest .. => true
  | .castable .. => true
  | .declares .. => true
  | .stringRef .. => true
  | .arrayOver (.object _) => true
  | w => goodWord w
def qk_ws (U : State) : Prop := ∀ w ∈ lw_tbl, qk_gw w = true → ∀ a : Array Value, w.before a U = true
theorem qk_warm {s U : State} (hW : s.WarmedH U.vm) (h : qk_ws s) : qk_ws U := by
  intro w hw h1 a
  have h2 := h w hw h1 a
  cases w with
  | fieldLinkNest b i c n d h => exact va_tabs rfl (rfl : (s.setVm U.vm).vm = U.vm) (Cond.fieldLinkNest_warmed (args := a) hW h2)
  | methodLinkNest b i c n => exact va_tabs rfl (rfl : (s.setVm U.vm).vm = U.vm) (Cond.methodLinkNest_warmed (args := a) hW h2)
  | castable c t => exact va_tabs rfl (rfl : (s.setVm U.vm).vm = U.vm) (by rw [Cond.castable_setVm (args := a) hW.alike]; exact h2)
  | declares x => exact va_tabs rfl (rfl : (s.setVm U.vm).vm = U.vm) (by rw [Cond.declares_setVm (args := a) hW.alike]; exact h2)
  | stringRef c i t =>
    have h3 := Cond.stringRef_warmed (args := a) hW h2
    first
      | exact va_tabs rfl (rfl : (s.setVm U.vm).vm = U.vm) h3
      | (simp only [Cond.before, Cond.holds, Cond.value, State.names, State.poolOf?, State.resolvedAt?] at h3 ⊢; exact h3)
  | arrayOver t => cases t with
    | object C => exact va_AO.use (va_AO.moved hW.alike (va_AO.of h2))
    | _ => cases h1
  | _ => exact word_at hW (good_of_word h1) h2
/-- the array classes that are used -/
def qk_tyl : List FieldType := [.int, .byte, .boolean, .long, .object "QuakeLink$Channel", .object "QuakeLink$Packet", .object "QuakeLink$Message", .object "QuakeLink$Track", .object "QuakeLink$Page"]
def qk_tys (E : FieldType → ClassId) : List (ClassId × FieldType) := qk_tyl.map fun t => (E t, t)
abbrev qk_O : Type := Nat → Option (Nat × (Nat → Int32))
/-- what the tables (of U) and the cells that were there at the law's start say; ro: the read-only int arrays, by their names (0 the script, 1 WIDTHS, 2 CHECK_STEPS) -/
def qk_K (G : qk_G) (H0 : Heap) (ro : qk_O) (ρ : Nat → Nat) (U : State) : Prop :=
  va_K G.1 qcl (qk_tys G.2) U ∧ qk_ws U ∧
  va_Z "QuakeLink" "WIDTHS" "[I" (.ref (ρ 1)) (fun q => H0.size ≤ q) U H0 ∧ va_Z "QuakeLink" "CHECK_STEPS" "[I" (.ref (ρ 2)) (fun q => H0.size ≤ q) U H0 ∧
  (∀ v n f, ro v = some (n, f) → v < 16 ∧ ρ v < H0.size ∧ va_X (ρ v) n f U H0)
/-- the world w lies in the heap H, by the addresses ρ -/
def qk_R (G : qk_G) (H0 : Heap) (ro : qk_O) (ρ : Nat → Nat) (w : qk_W) (H : Heap) : Prop :=
  (H0.size ≤ H.size ∧ (∀ q, q < H0.size → H[q]? = H0[q]?) ∧ ∀ q cell, H0.size ≤ q → H[q]? = some cell → cell.vm.isStatics = false) ∧
  (∀ v, v < 16 → w v = (ro v).map fun q => .inl (.int, q.1, .inl q.2)) ∧
  (∀ v e, 16 ≤ v → w v = some e → H0.size ≤ ρ v ∧ va_at G.1 qcl (ρ v, qk_re ρ G.2 e) H ∧ qk_okC w e) ∧
  (∀ v v', 16 ≤ v → 16 ≤ v' → w v ≠ none → w v' ≠ none → ρ v = ρ v' → v = v')
/-- what holds of a method's invocation s -/
def qk_X (M : qk_M) (p : Program) (l : Launch) (s : State) (m : MethodId) (meth : Method) (c : Code) (G : qk_G) (H0 : Heap) (ro : qk_O) (ρ : Nat → Nat) : Prop :=
  (p.tables.exec = Jvm.exec ∧ c.code = M.2.1 ∧ meth.sig.returnType = M.2.2.2.1 ∧ c.maxLocals = M.2.2.1 ∧ s.vm.findClass M.1.cls = some m.cls ∧ meth.locks = false ∧ meth.name = M.1.name ∧
    c.exceptionTable.toList.map (fun h => (h.startPc, h.endPc, h.handlerPc, h.catchType)) = M.2.2.2.2) ∧
  l.stackTraces = false ∧ qk_K G H0 ro ρ s ∧ ∀ q cell, H0.size ≤ q → s.heap[q]? = some cell → cell.vm.isStatics = false
/-- a method's end: it returned (inl) or threw (inr, the exception's name), the world is w' -/
def qk_E (G : qk_G) (H0 : Heap) (ro : qk_O) (ρ : Nat → Nat) (w : qk_W) (s : State) (below : List Frame) (r : Option Value ⊕ Nat) (w' : qk_W) (mc ms : Nat) : State → Prop := fun t =>
  ∃ (o : Outcome) (ρ' : Nat → Nat) (L : List Loc), t.status = .running ∧ Ended t below o ∧
    (match r with | .inl v => o = .returned (v.map (qk_rv ρ')) ∧ ∀ x, v = some x → qk_ok w' x | .inr x => o = .threw (ρ' x) ∧ 16 ≤ x ∧ w' x ≠ none) ∧
    (∀ v, w v ≠ none → ρ' v = ρ v ∧ w' v ≠ none) ∧ (∀ v, v < 16 → ρ' v = ρ v) ∧ qk_R G H0 ro ρ' w' t.heap ∧ s.WarmedH t.vm ∧ s.sameButNew ({ t with vm := s.vm } : State) L mc ms ∧ ∀ q ∈ L, H0.size ≤ q.base
/-- from this frame the method comes to that end, with kc cells of ks slots made, nesting at most d deep -/
def qk_S (d : Nat) (M : qk_M) (pc : Nat) (L : List (Nat × Value)) (st : List Value) (w : qk_W) (r : Option Value ⊕ Nat) (w' : qk_W) (kc ks : Nat) : Prop :=
  ∀ (p : Program) (l : Launch) (e : Env) (R : Room) (s : State) (m : MethodId) (args : Array Value) (below : List Frame) (meth : Method) (c : Code) (H : Heap) (locs : List Loc) (cells slots : Nat) (G : qk_G) (H0 : Heap) (ro : qk_O) (ρ : Nat → Nat) (ls : Array Slot),
    qk_X M p l s m meth c G H0 ro ρ → qk_R G H0 ro ρ w H → (∀ q ∈ L, qk_ok w q.2) → (∀ x ∈ st, qk_ok w x) → lv_has ls M.2.2.1 (L.map fun q => (q.1, qk_rv ρ q.2)) → (∀ q ∈ locs, H0.size ≤ q.base) →
    d ≤ R.frames → 36 * d ≤ R.locals → cells + kc ≤ R.cells → slots + ks ≤ R.slots →
    W p l e R s m args below meth c H locs cells slots (qk_E G H0 ro ρ w s below r w' (cells + kc) (slots + ks)) (F0 m pc ls (st.map (qk_rv ρ)))
/-- THE JUDGEMENT: from here the method comes to an end (answer or throw, world, cells and slots made so far) that Q takes -/
def Ev (d : Nat) (M : qk_M) (pc : Nat) (L : List (Nat × Value)) (st : List Value) (w : qk_W) (nc ns : Nat) (Q : Option Value ⊕ Nat → qk_W → Nat → Nat → Prop) : Prop :=
  ∃ r w' kc ks, Q r w' (nc + kc) (ns + ks) ∧ qk_S d M pc L st w r w' kc ks
end

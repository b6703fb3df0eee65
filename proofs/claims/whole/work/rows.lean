section
-- ===== PART A: goes FIRST, ahead of the names: the tables' words, and 'selects' of the private methods out of them =====
/-- a private method of a class that the tables say can be made, by its rows of tables_1 -/
def lw_okq (q : MethodName × Nat) : Prop := (q.1.cls ≠ "java/lang/invoke/MethodHandle" ∧ q.1.cls ≠ "java/lang/invoke/VarHandle") ∧ Cond.instantiable q.1.cls q.2 ∈ tables_1 ∧ Cond.privateMethod q.1 ∈ tables_1 ∧ Cond.instanceMethod q.1 ∈ tables_1
theorem lw_p0 : lw_okq (⟨"ArchiveMirrors$TextReader", "startPack", "(I)V"⟩, 6) := ⟨⟨by decide +kernel, by decide +kernel⟩, List.mem_of_getElem? (i := 242) (by decide +kernel), List.mem_of_getElem? (i := 320) (by decide +kernel), List.mem_of_getElem? (i := 321) (by decide +kernel)⟩
theorem lw_p1 : lw_okq (⟨"ArchiveMirrors$TextReader", "readsSection", "(I)Z"⟩, 6) := ⟨⟨by decide +kernel, by decide +kernel⟩, List.mem_of_getElem? (i := 242) (by decide +kernel), List.mem_of_getElem? (i := 332) (by decide +kernel), List.mem_of_getElem? (i := 333) (by decide +kernel)⟩
theorem lw_p2 : lw_okq (⟨"ArchiveMirrors$TextReader", "readsSign", "(III)Z"⟩, 6) := ⟨⟨by decide +kernel, by decide +kernel⟩, List.mem_of_getElem? (i := 242) (by decide +kernel), List.mem_of_getElem? (i := 336) (by decide +kernel), List.mem_of_getElem? (i := 337) (by decide +kernel)⟩
theorem lw_p3 : lw_okq (⟨"ArchiveMirrors$TextReader", "readsDigit", "(II)Z"⟩, 6) := ⟨⟨by decide +kernel, by decide +kernel⟩, List.mem_of_getElem? (i := 242) (by decide +kernel), List.mem_of_getElem? (i := 340) (by decide +kernel), List.mem_of_getElem? (i := 341) (by decide +kernel)⟩
theorem lw_p4 : lw_okq (⟨"ArchiveMirrors$TextReader", "readsLetter", "(I)Z"⟩, 6) := ⟨⟨by decide +kernel, by decide +kernel⟩, List.mem_of_getElem? (i := 242) (by decide +kernel), List.mem_of_getElem? (i := 344) (by decide +kernel), List.mem_of_getElem? (i := 345) (by decide +kernel)⟩
theorem lw_p5 : lw_okq (⟨"ArchiveMirrors$Archive", "hasIndex", "(I)Z"⟩, 6) := ⟨⟨by decide +kernel, by decide +kernel⟩, List.mem_of_getElem? (i := 29) (by decide +kernel), List.mem_of_getElem? (i := 363) (by decide +kernel), List.mem_of_getElem? (i := 364) (by decide +kernel)⟩
theorem lw_p6 : lw_okq (⟨"ArchiveMirrors", "counted", "(I)I"⟩, 7) := ⟨⟨by decide +kernel, by decide +kernel⟩, List.mem_of_getElem? (i := 21) (by decide +kernel), List.mem_of_getElem? (i := 372) (by decide +kernel), List.mem_of_getElem? (i := 373) (by decide +kernel)⟩
theorem lw_p7 : lw_okq (⟨"ArchiveMirrors$Network", "isComplete", "(LArchiveMirrors$Mirror;)Z"⟩, 5) := ⟨⟨by decide +kernel, by decide +kernel⟩, List.mem_of_getElem? (i := 118) (by decide +kernel), List.mem_of_getElem? (i := 380) (by decide +kernel), List.mem_of_getElem? (i := 381) (by decide +kernel)⟩
theorem lw_p8 : lw_okq (⟨"ArchiveMirrors$Network", "missingOf", "(LArchiveMirrors$Mirror;I)I"⟩, 5) := ⟨⟨by decide +kernel, by decide +kernel⟩, List.mem_of_getElem? (i := 118) (by decide +kernel), List.mem_of_getElem? (i := 385) (by decide +kernel), List.mem_of_getElem? (i := 386) (by decide +kernel)⟩
theorem lw_p9 : lw_okq (⟨"ArchiveMirrors", "mixPackages", "(J)J"⟩, 7) := ⟨⟨by decide +kernel, by decide +kernel⟩, List.mem_of_getElem? (i := 21) (by decide +kernel), List.mem_of_getElem? (i := 415) (by decide +kernel), List.mem_of_getElem? (i := 416) (by decide +kernel)⟩
theorem lw_p10 : lw_okq (⟨"ArchiveMirrors", "packageProperty", "(II)I"⟩, 7) := ⟨⟨by decide +kernel, by decide +kernel⟩, List.mem_of_getElem? (i := 21) (by decide +kernel), List.mem_of_getElem? (i := 419) (by decide +kernel), List.mem_of_getElem? (i := 420) (by decide +kernel)⟩
theorem lw_p11 : lw_okq (⟨"ArchiveMirrors", "mixIndexes", "(J)J"⟩, 7) := ⟨⟨by decide +kernel, by decide +kernel⟩, List.mem_of_getElem? (i := 21) (by decide +kernel), List.mem_of_getElem? (i := 431) (by decide +kernel), List.mem_of_getElem? (i := 432) (by decide +kernel)⟩
theorem lw_p12 : lw_okq (⟨"ArchiveMirrors", "indexProperty", "(II)I"⟩, 7) := ⟨⟨by decide +kernel, by decide +kernel⟩, List.mem_of_getElem? (i := 21) (by decide +kernel), List.mem_of_getElem? (i := 439) (by decide +kernel), List.mem_of_getElem? (i := 440) (by decide +kernel)⟩
theorem lw_p13 : lw_okq (⟨"ArchiveMirrors", "mixMirrors", "(J)J"⟩, 7) := ⟨⟨by decide +kernel, by decide +kernel⟩, List.mem_of_getElem? (i := 21) (by decide +kernel), List.mem_of_getElem? (i := 452) (by decide +kernel), List.mem_of_getElem? (i := 453) (by decide +kernel)⟩
theorem lw_p14 : lw_okq (⟨"ArchiveMirrors", "mixClients", "(J)J"⟩, 7) := ⟨⟨by decide +kernel, by decide +kernel⟩, List.mem_of_getElem? (i := 21) (by decide +kernel), List.mem_of_getElem? (i := 467) (by decide +kernel), List.mem_of_getElem? (i := 468) (by decide +kernel)⟩
theorem lw_p15 : lw_okq (⟨"ArchiveMirrors$Client", "versionOf", "(I)I"⟩, 3) := ⟨⟨by decide +kernel, by decide +kernel⟩, List.mem_of_getElem? (i := 192) (by decide +kernel), List.mem_of_getElem? (i := 479) (by decide +kernel), List.mem_of_getElem? (i := 480) (by decide +kernel)⟩
def lw_privs_1 : List (MethodName × Nat) := [(⟨"ArchiveMirrors$TextReader", "startPack", "(I)V"⟩, 6), (⟨"ArchiveMirrors$TextReader", "readsSection", "(I)Z"⟩, 6), (⟨"ArchiveMirrors$TextReader", "readsSign", "(III)Z"⟩, 6), (⟨"ArchiveMirrors$TextReader", "readsDigit", "(II)Z"⟩, 6), (⟨"ArchiveMirrors$TextReader", "readsLetter", "(I)Z"⟩, 6), (⟨"ArchiveMirrors$Archive", "hasIndex", "(I)Z"⟩, 6), (⟨"ArchiveMirrors", "counted", "(I)I"⟩, 7), (⟨"ArchiveMirrors$Network", "isComplete", "(LArchiveMirrors$Mirror;)Z"⟩, 5), (⟨"ArchiveMirrors$Network", "missingOf", "(LArchiveMirrors$Mirror;I)I"⟩, 5), (⟨"ArchiveMirrors", "mixPackages", "(J)J"⟩, 7), (⟨"ArchiveMirrors", "packageProperty", "(II)I"⟩, 7), (⟨"ArchiveMirrors", "mixIndexes", "(J)J"⟩, 7), (⟨"ArchiveMirrors", "indexProperty", "(II)I"⟩, 7), (⟨"ArchiveMirrors", "mixMirrors", "(J)J"⟩, 7), (⟨"ArchiveMirrors", "mixClients", "(J)J"⟩, 7), (⟨"ArchiveMirrors$Client", "versionOf", "(I)I"⟩, 3)]
theorem lw_r1 : ∀ q ∈ lw_privs_1, lw_okq q := List.forall_mem_cons.mpr ⟨lw_p0, List.forall_mem_cons.mpr ⟨lw_p1, List.forall_mem_cons.mpr ⟨lw_p2, List.forall_mem_cons.mpr ⟨lw_p3, List.forall_mem_cons.mpr ⟨lw_p4, List.forall_mem_cons.mpr ⟨lw_p5, List.forall_mem_cons.mpr ⟨lw_p6, List.forall_mem_cons.mpr ⟨lw_p7, List.forall_mem_cons.mpr ⟨lw_p8, List.forall_mem_cons.mpr ⟨lw_p9, List.forall_mem_cons.mpr ⟨lw_p10, List.forall_mem_cons.mpr ⟨lw_p11, List.forall_mem_cons.mpr ⟨lw_p12, List.forall_mem_cons.mpr ⟨lw_p13, List.forall_mem_cons.mpr ⟨lw_p14, List.forall_mem_cons.mpr ⟨lw_p15, fun _ h => absurd h List.not_mem_nil⟩⟩⟩⟩⟩⟩⟩⟩⟩⟩⟩⟩⟩⟩⟩⟩
theorem lw_p16 : lw_okq (⟨"ArchiveMirrors$Plan", "reasonFor", "(LArchiveMirrors$Client;)I"⟩, 5) := ⟨⟨by decide +kernel, by decide +kernel⟩, List.mem_of_getElem? (i := 211) (by decide +kernel), List.mem_of_getElem? (i := 504) (by decide +kernel), List.mem_of_getElem? (i := 505) (by decide +kernel)⟩
theorem lw_p17 : lw_okq (⟨"ArchiveMirrors$Plan", "foundTogether", "(I)I"⟩, 5) := ⟨⟨by decide +kernel, by decide +kernel⟩, List.mem_of_getElem? (i := 211) (by decide +kernel), List.mem_of_getElem? (i := 510) (by decide +kernel), List.mem_of_getElem? (i := 511) (by decide +kernel)⟩
theorem lw_p18 : lw_okq (⟨"ArchiveMirrors", "planned", "(LArchiveMirrors$Client;I)I"⟩, 7) := ⟨⟨by decide +kernel, by decide +kernel⟩, List.mem_of_getElem? (i := 21) (by decide +kernel), List.mem_of_getElem? (i := 514) (by decide +kernel), List.mem_of_getElem? (i := 515) (by decide +kernel)⟩
theorem lw_p19 : lw_okq (⟨"ArchiveMirrors", "minutesToAcceptance", "(LArchiveMirrors$Client;I)I"⟩, 7) := ⟨⟨by decide +kernel, by decide +kernel⟩, List.mem_of_getElem? (i := 21) (by decide +kernel), List.mem_of_getElem? (i := 531) (by decide +kernel), List.mem_of_getElem? (i := 532) (by decide +kernel)⟩
theorem lw_p20 : lw_okq (⟨"ArchiveMirrors$Network", "pull", "(LArchiveMirrors$Mirror;)V"⟩, 5) := ⟨⟨by decide +kernel, by decide +kernel⟩, List.mem_of_getElem? (i := 118) (by decide +kernel), List.mem_of_getElem? (i := 551) (by decide +kernel), List.mem_of_getElem? (i := 552) (by decide +kernel)⟩
theorem lw_p21 : lw_okq (⟨"ArchiveMirrors$Network", "offeredTo", "(LArchiveMirrors$Mirror;)I"⟩, 5) := ⟨⟨by decide +kernel, by decide +kernel⟩, List.mem_of_getElem? (i := 118) (by decide +kernel), List.mem_of_getElem? (i := 555) (by decide +kernel), List.mem_of_getElem? (i := 556) (by decide +kernel)⟩
theorem lw_p22 : lw_okq (⟨"ArchiveMirrors$Network", "upstreamOf", "(LArchiveMirrors$Mirror;)LArchiveMirrors$Mirror;"⟩, 5) := ⟨⟨by decide +kernel, by decide +kernel⟩, List.mem_of_getElem? (i := 118) (by decide +kernel), List.mem_of_getElem? (i := 559) (by decide +kernel), List.mem_of_getElem? (i := 560) (by decide +kernel)⟩
theorem lw_p23 : lw_okq (⟨"ArchiveMirrors$Network", "copyMissing", "(LArchiveMirrors$Mirror;I)V"⟩, 5) := ⟨⟨by decide +kernel, by decide +kernel⟩, List.mem_of_getElem? (i := 118) (by decide +kernel), List.mem_of_getElem? (i := 567) (by decide +kernel), List.mem_of_getElem? (i := 568) (by decide +kernel)⟩
theorem lw_p24 : lw_okq (⟨"ArchiveMirrors$Network", "dropOldFiles", "(LArchiveMirrors$Mirror;)V"⟩, 5) := ⟨⟨by decide +kernel, by decide +kernel⟩, List.mem_of_getElem? (i := 118) (by decide +kernel), List.mem_of_getElem? (i := 575) (by decide +kernel), List.mem_of_getElem? (i := 576) (by decide +kernel)⟩
theorem lw_p25 : lw_okq (⟨"java/lang/Throwable", "fillInStackTrace", "(I)Ljava/lang/Throwable;"⟩, 6) := ⟨⟨by decide +kernel, by decide +kernel⟩, List.mem_of_getElem? (i := 629) (by decide +kernel), List.mem_of_getElem? (i := 627) (by decide +kernel), List.mem_of_getElem? (i := 628) (by decide +kernel)⟩
theorem lw_p26 : lw_okq (⟨"ArchiveMirrors", "requirePackages", "(I)V"⟩, 7) := ⟨⟨by decide +kernel, by decide +kernel⟩, List.mem_of_getElem? (i := 21) (by decide +kernel), List.mem_of_getElem? (i := 693) (by decide +kernel), List.mem_of_getElem? (i := 694) (by decide +kernel)⟩
theorem lw_p27 : lw_okq (⟨"ArchiveMirrors", "requirePackage", "(I)V"⟩, 7) := ⟨⟨by decide +kernel, by decide +kernel⟩, List.mem_of_getElem? (i := 21) (by decide +kernel), List.mem_of_getElem? (i := 727) (by decide +kernel), List.mem_of_getElem? (i := 728) (by decide +kernel)⟩
theorem lw_p28 : lw_okq (⟨"ArchiveMirrors", "requireMirror", "(I)V"⟩, 7) := ⟨⟨by decide +kernel, by decide +kernel⟩, List.mem_of_getElem? (i := 21) (by decide +kernel), List.mem_of_getElem? (i := 814) (by decide +kernel), List.mem_of_getElem? (i := 815) (by decide +kernel)⟩
theorem lw_p29 : lw_okq (⟨"ArchiveMirrors", "requireClient", "(I)V"⟩, 7) := ⟨⟨by decide +kernel, by decide +kernel⟩, List.mem_of_getElem? (i := 21) (by decide +kernel), List.mem_of_getElem? (i := 880) (by decide +kernel), List.mem_of_getElem? (i := 881) (by decide +kernel)⟩
theorem lw_p30 : lw_okq (⟨"ArchiveMirrorsModel", "isSetOf", "(II)Z"⟩, 41) := ⟨⟨by decide +kernel, by decide +kernel⟩, List.mem_of_getElem? (i := 932) (by decide +kernel), List.mem_of_getElem? (i := 1078) (by decide +kernel), List.mem_of_getElem? (i := 1079) (by decide +kernel)⟩
theorem lw_p31 : lw_okq (⟨"ArchiveMirrorsModel", "putPackage", "(III)V"⟩, 41) := ⟨⟨by decide +kernel, by decide +kernel⟩, List.mem_of_getElem? (i := 932) (by decide +kernel), List.mem_of_getElem? (i := 1082) (by decide +kernel), List.mem_of_getElem? (i := 1083) (by decide +kernel)⟩
def lw_privs_2 : List (MethodName × Nat) := [(⟨"ArchiveMirrors$Plan", "reasonFor", "(LArchiveMirrors$Client;)I"⟩, 5), (⟨"ArchiveMirrors$Plan", "foundTogether", "(I)I"⟩, 5), (⟨"ArchiveMirrors", "planned", "(LArchiveMirrors$Client;I)I"⟩, 7), (⟨"ArchiveMirrors", "minutesToAcceptance", "(LArchiveMirrors$Client;I)I"⟩, 7), (⟨"ArchiveMirrors$Network", "pull", "(LArchiveMirrors$Mirror;)V"⟩, 5), (⟨"ArchiveMirrors$Network", "offeredTo", "(LArchiveMirrors$Mirror;)I"⟩, 5), (⟨"ArchiveMirrors$Network", "upstreamOf", "(LArchiveMirrors$Mirror;)LArchiveMirrors$Mirror;"⟩, 5), (⟨"ArchiveMirrors$Network", "copyMissing", "(LArchiveMirrors$Mirror;I)V"⟩, 5), (⟨"ArchiveMirrors$Network", "dropOldFiles", "(LArchiveMirrors$Mirror;)V"⟩, 5), (⟨"java/lang/Throwable", "fillInStackTrace", "(I)Ljava/lang/Throwable;"⟩, 6), (⟨"ArchiveMirrors", "requirePackages", "(I)V"⟩, 7), (⟨"ArchiveMirrors", "requirePackage", "(I)V"⟩, 7), (⟨"ArchiveMirrors", "requireMirror", "(I)V"⟩, 7), (⟨"ArchiveMirrors", "requireClient", "(I)V"⟩, 7), (⟨"ArchiveMirrorsModel", "isSetOf", "(II)Z"⟩, 41), (⟨"ArchiveMirrorsModel", "putPackage", "(III)V"⟩, 41)]
theorem lw_r2 : ∀ q ∈ lw_privs_2, lw_okq q := List.forall_mem_cons.mpr ⟨lw_p16, List.forall_mem_cons.mpr ⟨lw_p17, List.forall_mem_cons.mpr ⟨lw_p18, List.forall_mem_cons.mpr ⟨lw_p19, List.forall_mem_cons.mpr ⟨lw_p20, List.forall_mem_cons.mpr ⟨lw_p21, List.forall_mem_cons.mpr ⟨lw_p22, List.forall_mem_cons.mpr ⟨lw_p23, List.forall_mem_cons.mpr ⟨lw_p24, List.forall_mem_cons.mpr ⟨lw_p25, List.forall_mem_cons.mpr ⟨lw_p26, List.forall_mem_cons.mpr ⟨lw_p27, List.forall_mem_cons.mpr ⟨lw_p28, List.forall_mem_cons.mpr ⟨lw_p29, List.forall_mem_cons.mpr ⟨lw_p30, List.forall_mem_cons.mpr ⟨lw_p31, fun _ h => absurd h List.not_mem_nil⟩⟩⟩⟩⟩⟩⟩⟩⟩⟩⟩⟩⟩⟩⟩⟩
theorem lw_p32 : lw_okq (⟨"ArchiveMirrorsModel", "isPackage", "(I)Z"⟩, 41) := ⟨⟨by decide +kernel, by decide +kernel⟩, List.mem_of_getElem? (i := 932) (by decide +kernel), List.mem_of_getElem? (i := 1090) (by decide +kernel), List.mem_of_getElem? (i := 1091) (by decide +kernel)⟩
theorem lw_p33 : lw_okq (⟨"ArchiveMirrorsModel", "rightLength", "()I"⟩, 41) := ⟨⟨by decide +kernel, by decide +kernel⟩, List.mem_of_getElem? (i := 932) (by decide +kernel), List.mem_of_getElem? (i := 1115) (by decide +kernel), List.mem_of_getElem? (i := 1116) (by decide +kernel)⟩
theorem lw_p34 : lw_okq (⟨"ArchiveMirrorsModel", "takes", "(I)Z"⟩, 41) := ⟨⟨by decide +kernel, by decide +kernel⟩, List.mem_of_getElem? (i := 932) (by decide +kernel), List.mem_of_getElem? (i := 1119) (by decide +kernel), List.mem_of_getElem? (i := 1120) (by decide +kernel)⟩
theorem lw_p35 : lw_okq (⟨"ArchiveMirrorsModel", "mayEnd", "()Z"⟩, 41) := ⟨⟨by decide +kernel, by decide +kernel⟩, List.mem_of_getElem? (i := 932) (by decide +kernel), List.mem_of_getElem? (i := 1123) (by decide +kernel), List.mem_of_getElem? (i := 1124) (by decide +kernel)⟩
theorem lw_p36 : lw_okq (⟨"ArchiveMirrorsModel", "endItem", "()V"⟩, 41) := ⟨⟨by decide +kernel, by decide +kernel⟩, List.mem_of_getElem? (i := 932) (by decide +kernel), List.mem_of_getElem? (i := 1127) (by decide +kernel), List.mem_of_getElem? (i := 1128) (by decide +kernel)⟩
theorem lw_p37 : lw_okq (⟨"ArchiveMirrorsModel", "takesSection", "(I)Z"⟩, 41) := ⟨⟨by decide +kernel, by decide +kernel⟩, List.mem_of_getElem? (i := 932) (by decide +kernel), List.mem_of_getElem? (i := 1131) (by decide +kernel), List.mem_of_getElem? (i := 1132) (by decide +kernel)⟩
theorem lw_p38 : lw_okq (⟨"ArchiveMirrorsModel", "takesSize", "(I)Z"⟩, 41) := ⟨⟨by decide +kernel, by decide +kernel⟩, List.mem_of_getElem? (i := 932) (by decide +kernel), List.mem_of_getElem? (i := 1135) (by decide +kernel), List.mem_of_getElem? (i := 1136) (by decide +kernel)⟩
theorem lw_p39 : lw_okq (⟨"ArchiveMirrorsModel", "takesLetter", "(I)Z"⟩, 41) := ⟨⟨by decide +kernel, by decide +kernel⟩, List.mem_of_getElem? (i := 932) (by decide +kernel), List.mem_of_getElem? (i := 1139) (by decide +kernel), List.mem_of_getElem? (i := 1140) (by decide +kernel)⟩
theorem lw_p40 : lw_okq (⟨"ArchiveMirrorsModel", "isMirror", "(I)Z"⟩, 41) := ⟨⟨by decide +kernel, by decide +kernel⟩, List.mem_of_getElem? (i := 932) (by decide +kernel), List.mem_of_getElem? (i := 1151) (by decide +kernel), List.mem_of_getElem? (i := 1152) (by decide +kernel)⟩
theorem lw_p41 : lw_okq (⟨"ArchiveMirrorsModel", "fileCount", "(I)I"⟩, 41) := ⟨⟨by decide +kernel, by decide +kernel⟩, List.mem_of_getElem? (i := 932) (by decide +kernel), List.mem_of_getElem? (i := 1166) (by decide +kernel), List.mem_of_getElem? (i := 1167) (by decide +kernel)⟩
theorem lw_p42 : lw_okq (⟨"ArchiveMirrorsModel", "minute", "()V"⟩, 41) := ⟨⟨by decide +kernel, by decide +kernel⟩, List.mem_of_getElem? (i := 932) (by decide +kernel), List.mem_of_getElem? (i := 1177) (by decide +kernel), List.mem_of_getElem? (i := 1178) (by decide +kernel)⟩
theorem lw_p43 : lw_okq (⟨"ArchiveMirrorsModel", "pull", "(I)I"⟩, 41) := ⟨⟨by decide +kernel, by decide +kernel⟩, List.mem_of_getElem? (i := 932) (by decide +kernel), List.mem_of_getElem? (i := 1181) (by decide +kernel), List.mem_of_getElem? (i := 1182) (by decide +kernel)⟩
theorem lw_p44 : lw_okq (⟨"ArchiveMirrorsModel", "copyFiles", "(II)I"⟩, 41) := ⟨⟨by decide +kernel, by decide +kernel⟩, List.mem_of_getElem? (i := 932) (by decide +kernel), List.mem_of_getElem? (i := 1185) (by decide +kernel), List.mem_of_getElem? (i := 1186) (by decide +kernel)⟩
theorem lw_p45 : lw_okq (⟨"ArchiveMirrorsModel", "toldBy", "(II)I"⟩, 41) := ⟨⟨by decide +kernel, by decide +kernel⟩, List.mem_of_getElem? (i := 932) (by decide +kernel), List.mem_of_getElem? (i := 1189) (by decide +kernel), List.mem_of_getElem? (i := 1190) (by decide +kernel)⟩
theorem lw_p46 : lw_okq (⟨"ArchiveMirrorsModel", "wants", "(III)Z"⟩, 41) := ⟨⟨by decide +kernel, by decide +kernel⟩, List.mem_of_getElem? (i := 932) (by decide +kernel), List.mem_of_getElem? (i := 1193) (by decide +kernel), List.mem_of_getElem? (i := 1194) (by decide +kernel)⟩
theorem lw_p47 : lw_okq (⟨"ArchiveMirrorsModel", "lacking", "(II)I"⟩, 41) := ⟨⟨by decide +kernel, by decide +kernel⟩, List.mem_of_getElem? (i := 932) (by decide +kernel), List.mem_of_getElem? (i := 1197) (by decide +kernel), List.mem_of_getElem? (i := 1198) (by decide +kernel)⟩
def lw_privs_3 : List (MethodName × Nat) := [(⟨"ArchiveMirrorsModel", "isPackage", "(I)Z"⟩, 41), (⟨"ArchiveMirrorsModel", "rightLength", "()I"⟩, 41), (⟨"ArchiveMirrorsModel", "takes", "(I)Z"⟩, 41), (⟨"ArchiveMirrorsModel", "mayEnd", "()Z"⟩, 41), (⟨"ArchiveMirrorsModel", "endItem", "()V"⟩, 41), (⟨"ArchiveMirrorsModel", "takesSection", "(I)Z"⟩, 41), (⟨"ArchiveMirrorsModel", "takesSize", "(I)Z"⟩, 41), (⟨"ArchiveMirrorsModel", "takesLetter", "(I)Z"⟩, 41), (⟨"ArchiveMirrorsModel", "isMirror", "(I)Z"⟩, 41), (⟨"ArchiveMirrorsModel", "fileCount", "(I)I"⟩, 41), (⟨"ArchiveMirrorsModel", "minute", "()V"⟩, 41), (⟨"ArchiveMirrorsModel", "pull", "(I)I"⟩, 41), (⟨"ArchiveMirrorsModel", "copyFiles", "(II)I"⟩, 41), (⟨"ArchiveMirrorsModel", "toldBy", "(II)I"⟩, 41), (⟨"ArchiveMirrorsModel", "wants", "(III)Z"⟩, 41), (⟨"ArchiveMirrorsModel", "lacking", "(II)I"⟩, 41)]
theorem lw_r3 : ∀ q ∈ lw_privs_3, lw_okq q := List.forall_mem_cons.mpr ⟨lw_p32, List.forall_mem_cons.mpr ⟨lw_p33, List.forall_mem_cons.mpr ⟨lw_p34, List.forall_mem_cons.mpr ⟨lw_p35, List.forall_mem_cons.mpr ⟨lw_p36, List.forall_mem_cons.mpr ⟨lw_p37, List.forall_mem_cons.mpr ⟨lw_p38, List.forall_mem_cons.mpr ⟨lw_p39, List.forall_mem_cons.mpr ⟨lw_p40, List.forall_mem_cons.mpr ⟨lw_p41, List.forall_mem_cons.mpr ⟨lw_p42, List.forall_mem_cons.mpr ⟨lw_p43, List.forall_mem_cons.mpr ⟨lw_p44, List.forall_mem_cons.mpr ⟨lw_p45, List.forall_mem_cons.mpr ⟨lw_p46, List.forall_mem_cons.mpr ⟨lw_p47, fun _ h => absurd h List.not_mem_nil⟩⟩⟩⟩⟩⟩⟩⟩⟩⟩⟩⟩⟩⟩⟩⟩
theorem lw_p48 : lw_okq (⟨"ArchiveMirrorsModel", "mirrorNow", "(II)I"⟩, 41) := ⟨⟨by decide +kernel, by decide +kernel⟩, List.mem_of_getElem? (i := 932) (by decide +kernel), List.mem_of_getElem? (i := 1205) (by decide +kernel), List.mem_of_getElem? (i := 1206) (by decide +kernel)⟩
theorem lw_p49 : lw_okq (⟨"ArchiveMirrorsModel", "nextPull", "(I)I"⟩, 41) := ⟨⟨by decide +kernel, by decide +kernel⟩, List.mem_of_getElem? (i := 932) (by decide +kernel), List.mem_of_getElem? (i := 1209) (by decide +kernel), List.mem_of_getElem? (i := 1210) (by decide +kernel)⟩
theorem lw_p50 : lw_okq (⟨"ArchiveMirrorsModel", "isComplete", "(I)Z"⟩, 41) := ⟨⟨by decide +kernel, by decide +kernel⟩, List.mem_of_getElem? (i := 932) (by decide +kernel), List.mem_of_getElem? (i := 1213) (by decide +kernel), List.mem_of_getElem? (i := 1214) (by decide +kernel)⟩
theorem lw_p51 : lw_okq (⟨"ArchiveMirrorsModel", "isClient", "(I)Z"⟩, 41) := ⟨⟨by decide +kernel, by decide +kernel⟩, List.mem_of_getElem? (i := 932) (by decide +kernel), List.mem_of_getElem? (i := 1229) (by decide +kernel), List.mem_of_getElem? (i := 1230) (by decide +kernel)⟩
theorem lw_p52 : lw_okq (⟨"ArchiveMirrorsModel", "reason", "(II)I"⟩, 41) := ⟨⟨by decide +kernel, by decide +kernel⟩, List.mem_of_getElem? (i := 932) (by decide +kernel), List.mem_of_getElem? (i := 1233) (by decide +kernel), List.mem_of_getElem? (i := 1234) (by decide +kernel)⟩
theorem lw_p53 : lw_okq (⟨"ArchiveMirrorsModel", "indexFor", "(I)I"⟩, 41) := ⟨⟨by decide +kernel, by decide +kernel⟩, List.mem_of_getElem? (i := 932) (by decide +kernel), List.mem_of_getElem? (i := 1237) (by decide +kernel), List.mem_of_getElem? (i := 1238) (by decide +kernel)⟩
theorem lw_p54 : lw_okq (⟨"ArchiveMirrorsModel", "isFresh", "(I)Z"⟩, 41) := ⟨⟨by decide +kernel, by decide +kernel⟩, List.mem_of_getElem? (i := 932) (by decide +kernel), List.mem_of_getElem? (i := 1241) (by decide +kernel), List.mem_of_getElem? (i := 1242) (by decide +kernel)⟩
theorem lw_p55 : lw_okq (⟨"ArchiveMirrorsModel", "wantedBy", "(II)I"⟩, 41) := ⟨⟨by decide +kernel, by decide +kernel⟩, List.mem_of_getElem? (i := 932) (by decide +kernel), List.mem_of_getElem? (i := 1245) (by decide +kernel), List.mem_of_getElem? (i := 1246) (by decide +kernel)⟩
theorem lw_p56 : lw_okq (⟨"ArchiveMirrorsModel", "installedSet", "(I)I"⟩, 41) := ⟨⟨by decide +kernel, by decide +kernel⟩, List.mem_of_getElem? (i := 932) (by decide +kernel), List.mem_of_getElem? (i := 1249) (by decide +kernel), List.mem_of_getElem? (i := 1250) (by decide +kernel)⟩
theorem lw_p57 : lw_okq (⟨"ArchiveMirrorsModel", "closure", "(I)I"⟩, 41) := ⟨⟨by decide +kernel, by decide +kernel⟩, List.mem_of_getElem? (i := 932) (by decide +kernel), List.mem_of_getElem? (i := 1253) (by decide +kernel), List.mem_of_getElem? (i := 1254) (by decide +kernel)⟩
theorem lw_p58 : lw_okq (⟨"ArchiveMirrorsModel", "have", "(III)Z"⟩, 41) := ⟨⟨by decide +kernel, by decide +kernel⟩, List.mem_of_getElem? (i := 932) (by decide +kernel), List.mem_of_getElem? (i := 1257) (by decide +kernel), List.mem_of_getElem? (i := 1258) (by decide +kernel)⟩
theorem lw_p59 : lw_okq (⟨"ArchiveMirrorsModel", "would", "(III)I"⟩, 41) := ⟨⟨by decide +kernel, by decide +kernel⟩, List.mem_of_getElem? (i := 932) (by decide +kernel), List.mem_of_getElem? (i := 1265) (by decide +kernel), List.mem_of_getElem? (i := 1266) (by decide +kernel)⟩
theorem lw_p60 : lw_okq (⟨"ArchiveMirrorsModel", "changing", "(III)I"⟩, 41) := ⟨⟨by decide +kernel, by decide +kernel⟩, List.mem_of_getElem? (i := 932) (by decide +kernel), List.mem_of_getElem? (i := 1269) (by decide +kernel), List.mem_of_getElem? (i := 1270) (by decide +kernel)⟩
theorem lw_p61 : lw_okq (⟨"ArchiveMirrorsModel", "fewest", "(III)I"⟩, 41) := ⟨⟨by decide +kernel, by decide +kernel⟩, List.mem_of_getElem? (i := 932) (by decide +kernel), List.mem_of_getElem? (i := 1273) (by decide +kernel), List.mem_of_getElem? (i := 1274) (by decide +kernel)⟩
theorem lw_p62 : lw_okq (⟨"ArchiveMirrorsModel", "waits", "(II)I"⟩, 41) := ⟨⟨by decide +kernel, by decide +kernel⟩, List.mem_of_getElem? (i := 932) (by decide +kernel), List.mem_of_getElem? (i := 1281) (by decide +kernel), List.mem_of_getElem? (i := 1282) (by decide +kernel)⟩
theorem lw_p63 : lw_okq (⟨"ArchiveMirrorsModel", "keep", "()V"⟩, 41) := ⟨⟨by decide +kernel, by decide +kernel⟩, List.mem_of_getElem? (i := 932) (by decide +kernel), List.mem_of_getElem? (i := 1285) (by decide +kernel), List.mem_of_getElem? (i := 1286) (by decide +kernel)⟩
def lw_privs_4 : List (MethodName × Nat) := [(⟨"ArchiveMirrorsModel", "mirrorNow", "(II)I"⟩, 41), (⟨"ArchiveMirrorsModel", "nextPull", "(I)I"⟩, 41), (⟨"ArchiveMirrorsModel", "isComplete", "(I)Z"⟩, 41), (⟨"ArchiveMirrorsModel", "isClient", "(I)Z"⟩, 41), (⟨"ArchiveMirrorsModel", "reason", "(II)I"⟩, 41), (⟨"ArchiveMirrorsModel", "indexFor", "(I)I"⟩, 41), (⟨"ArchiveMirrorsModel", "isFresh", "(I)Z"⟩, 41), (⟨"ArchiveMirrorsModel", "wantedBy", "(II)I"⟩, 41), (⟨"ArchiveMirrorsModel", "installedSet", "(I)I"⟩, 41), (⟨"ArchiveMirrorsModel", "closure", "(I)I"⟩, 41), (⟨"ArchiveMirrorsModel", "have", "(III)Z"⟩, 41), (⟨"ArchiveMirrorsModel", "would", "(III)I"⟩, 41), (⟨"ArchiveMirrorsModel", "changing", "(III)I"⟩, 41), (⟨"ArchiveMirrorsModel", "fewest", "(III)I"⟩, 41), (⟨"ArchiveMirrorsModel", "waits", "(II)I"⟩, 41), (⟨"ArchiveMirrorsModel", "keep", "()V"⟩, 41)]
theorem lw_r4 : ∀ q ∈ lw_privs_4, lw_okq q := List.forall_mem_cons.mpr ⟨lw_p48, List.forall_mem_cons.mpr ⟨lw_p49, List.forall_mem_cons.mpr ⟨lw_p50, List.forall_mem_cons.mpr ⟨lw_p51, List.forall_mem_cons.mpr ⟨lw_p52, List.forall_mem_cons.mpr ⟨lw_p53, List.forall_mem_cons.mpr ⟨lw_p54, List.forall_mem_cons.mpr ⟨lw_p55, List.forall_mem_cons.mpr ⟨lw_p56, List.forall_mem_cons.mpr ⟨lw_p57, List.forall_mem_cons.mpr ⟨lw_p58, List.forall_mem_cons.mpr ⟨lw_p59, List.forall_mem_cons.mpr ⟨lw_p60, List.forall_mem_cons.mpr ⟨lw_p61, List.forall_mem_cons.mpr ⟨lw_p62, List.forall_mem_cons.mpr ⟨lw_p63, fun _ h => absurd h List.not_mem_nil⟩⟩⟩⟩⟩⟩⟩⟩⟩⟩⟩⟩⟩⟩⟩⟩
theorem lw_p64 : lw_okq (⟨"ArchiveMirrorsModel", "takeBack", "()V"⟩, 41) := ⟨⟨by decide +kernel, by decide +kernel⟩, List.mem_of_getElem? (i := 932) (by decide +kernel), List.mem_of_getElem? (i := 1289) (by decide +kernel), List.mem_of_getElem? (i := 1290) (by decide +kernel)⟩
theorem lw_p65 : lw_okq (⟨"ArchiveMirrorsModel", "clientNow", "(II)I"⟩, 41) := ⟨⟨by decide +kernel, by decide +kernel⟩, List.mem_of_getElem? (i := 932) (by decide +kernel), List.mem_of_getElem? (i := 1297) (by decide +kernel), List.mem_of_getElem? (i := 1298) (by decide +kernel)⟩
theorem lw_p66 : lw_okq (⟨"ArchiveMirrorsModel", "counted", "(I)I"⟩, 41) := ⟨⟨by decide +kernel, by decide +kernel⟩, List.mem_of_getElem? (i := 932) (by decide +kernel), List.mem_of_getElem? (i := 1305) (by decide +kernel), List.mem_of_getElem? (i := 1306) (by decide +kernel)⟩
theorem lw_p67 : lw_okq (⟨"ArchiveMirrorsModel", "packageNow", "(II)I"⟩, 41) := ⟨⟨by decide +kernel, by decide +kernel⟩, List.mem_of_getElem? (i := 932) (by decide +kernel), List.mem_of_getElem? (i := 1313) (by decide +kernel), List.mem_of_getElem? (i := 1314) (by decide +kernel)⟩
theorem lw_p68 : lw_okq (⟨"ArchiveMirrorsModel", "mirrorsWith", "(I)I"⟩, 41) := ⟨⟨by decide +kernel, by decide +kernel⟩, List.mem_of_getElem? (i := 932) (by decide +kernel), List.mem_of_getElem? (i := 1317) (by decide +kernel), List.mem_of_getElem? (i := 1318) (by decide +kernel)⟩
theorem lw_p69 : lw_okq (⟨"ArchiveMirrorsModel", "indexNow", "(II)I"⟩, 41) := ⟨⟨by decide +kernel, by decide +kernel⟩, List.mem_of_getElem? (i := 932) (by decide +kernel), List.mem_of_getElem? (i := 1325) (by decide +kernel), List.mem_of_getElem? (i := 1326) (by decide +kernel)⟩
theorem lw_p70 : lw_okq (⟨"ArchiveMirrorsModel", "packagesOf", "(I)I"⟩, 41) := ⟨⟨by decide +kernel, by decide +kernel⟩, List.mem_of_getElem? (i := 932) (by decide +kernel), List.mem_of_getElem? (i := 1329) (by decide +kernel), List.mem_of_getElem? (i := 1330) (by decide +kernel)⟩
theorem lw_p71 : lw_okq (⟨"ArchiveMirrorsModel", "mix", "(J)V"⟩, 41) := ⟨⟨by decide +kernel, by decide +kernel⟩, List.mem_of_getElem? (i := 932) (by decide +kernel), List.mem_of_getElem? (i := 1342) (by decide +kernel), List.mem_of_getElem? (i := 1343) (by decide +kernel)⟩
theorem lw_p72 : lw_okq (⟨"ArchiveMirrorsModel", "mixIndexes", "()V"⟩, 41) := ⟨⟨by decide +kernel, by decide +kernel⟩, List.mem_of_getElem? (i := 932) (by decide +kernel), List.mem_of_getElem? (i := 1347) (by decide +kernel), List.mem_of_getElem? (i := 1348) (by decide +kernel)⟩
theorem lw_p73 : lw_okq (⟨"ArchiveMirrorsModel", "mixMirrors", "()V"⟩, 41) := ⟨⟨by decide +kernel, by decide +kernel⟩, List.mem_of_getElem? (i := 932) (by decide +kernel), List.mem_of_getElem? (i := 1351) (by decide +kernel), List.mem_of_getElem? (i := 1352) (by decide +kernel)⟩
theorem lw_p74 : lw_okq (⟨"ArchiveMirrorsModel", "mixClients", "()V"⟩, 41) := ⟨⟨by decide +kernel, by decide +kernel⟩, List.mem_of_getElem? (i := 932) (by decide +kernel), List.mem_of_getElem? (i := 1355) (by decide +kernel), List.mem_of_getElem? (i := 1356) (by decide +kernel)⟩
def lw_privs_5 : List (MethodName × Nat) := [(⟨"ArchiveMirrorsModel", "takeBack", "()V"⟩, 41), (⟨"ArchiveMirrorsModel", "clientNow", "(II)I"⟩, 41), (⟨"ArchiveMirrorsModel", "counted", "(I)I"⟩, 41), (⟨"ArchiveMirrorsModel", "packageNow", "(II)I"⟩, 41), (⟨"ArchiveMirrorsModel", "mirrorsWith", "(I)I"⟩, 41), (⟨"ArchiveMirrorsModel", "indexNow", "(II)I"⟩, 41), (⟨"ArchiveMirrorsModel", "packagesOf", "(I)I"⟩, 41), (⟨"ArchiveMirrorsModel", "mix", "(J)V"⟩, 41), (⟨"ArchiveMirrorsModel", "mixIndexes", "()V"⟩, 41), (⟨"ArchiveMirrorsModel", "mixMirrors", "()V"⟩, 41), (⟨"ArchiveMirrorsModel", "mixClients", "()V"⟩, 41)]
theorem lw_r5 : ∀ q ∈ lw_privs_5, lw_okq q := List.forall_mem_cons.mpr ⟨lw_p64, List.forall_mem_cons.mpr ⟨lw_p65, List.forall_mem_cons.mpr ⟨lw_p66, List.forall_mem_cons.mpr ⟨lw_p67, List.forall_mem_cons.mpr ⟨lw_p68, List.forall_mem_cons.mpr ⟨lw_p69, List.forall_mem_cons.mpr ⟨lw_p70, List.forall_mem_cons.mpr ⟨lw_p71, List.forall_mem_cons.mpr ⟨lw_p72, List.forall_mem_cons.mpr ⟨lw_p73, List.forall_mem_cons.mpr ⟨lw_p74, fun _ h => absurd h List.not_mem_nil⟩⟩⟩⟩⟩⟩⟩⟩⟩⟩⟩
def lw_privs : List (MethodName × Nat) := lw_privs_1 ++ (lw_privs_2 ++ (lw_privs_3 ++ (lw_privs_4 ++ (lw_privs_5))))
def lw_tbl : List Cond := k2_sels lw_privs ++ tables_1
theorem lw_privs_ok : ∀ q ∈ lw_privs, lw_okq q := by
  show ∀ q ∈ lw_privs_1 ++ (lw_privs_2 ++ (lw_privs_3 ++ (lw_privs_4 ++ (lw_privs_5)))), lw_okq q
  exact List.forall_mem_append.mpr ⟨lw_r1, List.forall_mem_append.mpr ⟨lw_r2, List.forall_mem_append.mpr ⟨lw_r3, List.forall_mem_append.mpr ⟨lw_r4, lw_r5⟩⟩⟩⟩
/-- the streams that the claim lets the run draw from -/
abbrev lw_cs : List Choice := [Jvm.Choice.named "NaN.bits"]
theorem lw_bits : nanBits ∈ lw_cs := by first | decide | exact List.mem_cons_self | simp [lw_cs, nanBits]
end
section
/-! ===== BEGIN words of one list among another's, by their places ===== -/
theorem goodIn_r {big : List Cond} (ws : List Cond) (ps : List Nat) (hp : ws = ps.filterMap (fun i => big[i]?)) (h : ws.all goodWord = true) : GoodIn big ws := by
  intro w hw
  have h1 := List.all_eq_true.mp h w hw
  rw [hp] at hw
  obtain ⟨i, -, hi⟩ := List.mem_filterMap.mp hw
  have hm : w ∈ big := by first | exact List.mem_of_getElem? hi | exact List.getElem?_mem hi
  exact ⟨hm, good_of_word h1⟩
theorem goodIn_app {big a b : List Cond} (ha : GoodIn big a) (hb : GoodIn big b) : GoodIn big (a ++ b) := fun w h => (List.mem_append.mp h).elim (ha w) (hb w)
theorem goodIn_ca {big a b : List Cond} {c : Cond} (ha : GoodIn big (c :: a)) (hb : GoodIn big b) : GoodIn big (c :: (a ++ b)) := fun w h => (List.mem_cons.mp h).elim (fun e => ha w (List.mem_cons.mpr (Or.inl e))) (fun h => (List.mem_append.mp h).elim (fun h => ha w (List.mem_cons.mpr (Or.inr h))) (hb w))
theorem goodIn_sub {big ws : List Cond} (hm : ∀ w ∈ ws, w ∈ big) (h : ws.all goodWord = true) : GoodIn big ws := fun w hw => ⟨hm w hw, good_of_word (List.all_eq_true.mp h w hw)⟩
/-! ===== END ===== -/
/-! ===== BEGIN exceptions that leave a method, and their catching by the caller (launches without stack traces) ===== -/
section VXA
/-! The laws vx_back, vx_callV, vx_callS, vx_callSW, vx_throw0, vx_throwS follow proofs of the library, with one case more: JvmDerived/Free/Laws.lean (Back.of_free), Shelf42/LK1.lean (callV, callS), Shelf/KitTraced.lean (throwNew0V, throwNewS). -/
/-- where a method has thrown q: the class by its name, the cell, what was written, the world -/
def vx_T (XC : String → State → State → Prop) (st : State) (q : Addr) (t : State) (mc ms : Nat) (free : Addr → Prop) : Prop :=
  ∃ (E : String) (ce : Cell) (L : List Loc), XC E st t ∧ t.heap[q]? = some ce ∧ ce.vm = .none ∧ st.vm.findClass E = some ce.cls ∧ st.WarmedH t.vm ∧ st.sameButNew ({ t with vm := st.vm } : State) L mc ms ∧ ∀ z ∈ L, free z.base
def vx_Q (Qc : Array Value → State → Outcome → State → Prop) (XC : String → State → State → Prop) (mc ms : Nat) (free : Addr → Prop) : Array Value → State → Outcome → State → Prop := fun a st o t =>
  (Qc a st o t ∧ ∃ L, FrameEnd st o t L mc ms ∧ ∀ q ∈ L, free q.base) ∨ ∃ q, o = .threw q ∧ vx_T XC st q t mc ms free
/-- a callee that returns or throws -/
def vx_Met (l : Launch) (y : MethodName) (ws : List Cond) (rm : Room) (Pc : Array Value → State → Prop) (Qc : Array Value → State → Outcome → State → Prop) (XC : String → State → State → Prop) (mc ms : Nat) (free : Addr → Prop) : Prop :=
  MetFree l y (headSpec ws rm) Pc (fun _ _ _ _ _ => True) (vx_Q Qc XC mc ms free)
def vx_Post (XC : String → State → State → Prop) (mc ms : Nat) (free : Addr → Prop) : Pt → Array Value → Addr → Pt → Prop := fun A a q B =>
  ∃ (g : JFrame) (mk : MethodId) (t : State) (L : List Loc) (E : String) (ce : Cell), B.U.heap = t.heap ∧ B.U.vm = t.vm ∧ XC E (A.U.calling g mk a) t ∧ t.heap[q]? = some ce ∧ ce.vm = .none ∧ A.U.vm.findClass E = some ce.cls ∧ B.locs = A.locs ++ L ∧ (∀ z ∈ L, free z.base) ∧ B.cells = A.cells + mc ∧ B.slots = A.slots + ms
def vx_Back (l : Launch) (R : Room) (p : Program) (e : Env) (below : List Frame) (s : State) (sargs : Array Value) (y : MethodName) (len W9 : Nat)
    (Pre : Pt → Array Value → Prop) (Post : Pt → Array Value → Option Value → Pt → Prop) (PostX : Pt → Array Value → Addr → Pt → Prop) : Prop :=
  ∀ (m : MethodId) (meth : Method) (c : Code) (A : Pt) (g : JFrame) (ig : Instr) (mk : MethodId) (a : Array Value),
    Stand p l e R s m sargs below meth c A.U A.locs A.cells A.slots → g.method = m → g.locals.size = c.maxLocals → decode c.code g.pc = .ok (ig, len) →
    2 * g.monitorRoom + (g.stack.map fun v => v.category).sum ≤ W9 → A.U.methodNamed? y = some mk → Pre A a →
    (∃ (v : Option Value) (B : Pt), Stand p l e R s m sargs below meth c B.U B.locs B.cells B.slots ∧ Post A a v B ∧
      Steps p.tables e below (doInvoke e (A.U.setTop g) [] mk a).1 (B.U.setTop { g with pc := g.pc + len, stack := v.toList ++ g.stack })) ∨
    (∃ (q : Addr) (B : Pt), Stand p l e R s m sargs below meth c B.U B.locs B.cells B.slots ∧ PostX A a q B ∧
      Steps p.tables e below (doInvoke e (A.U.setTop g) [] mk a).1 ((B.U.setTop g).pushFrame (.throwing q)))
section Payer
variable {l : Launch} {R : Room} {p : Program} {e : Env} {below : List Frame} {s : State} {sargs : Array Value} {y : MethodName} {len W9 : Nat}
theorem vx_back {ws : List Cond} {rm : Room} {Pc : Array Value → State → Prop} {Qc : Array Value → State → Outcome → State → Prop} {XC : String → State → State → Prop} {mc ms : Nat} {free : Addr → Prop} {bytes : ByteArray} {maxL : Nat} {ret : Option FieldType}
    (hM : vx_Met l y ws rm Pc Qc XC mc ms free) (hblind : FrameBlind Pc) (hrc : rm.cells = mc) (hrs : rm.slots = ms)
    (hframes : rm.frames + 1 ≤ R.frames) (hlocals : W9 + (maxL + 11) + rm.locals ≤ R.locals)
    (hws : ∀ w ∈ ws, ∀ a' U, s.WarmedH U.vm → w.before a' U = true) (hcode : Cond.code y bytes maxL ret ∈ ws) (hinit : ∀ a' U, s.WarmedH U.vm → (Cond.initialized y.cls).before a' U = true) :
    vx_Back l R p e below s sargs y len W9 (PreOf R mc ms Pc) (PostOf Qc mc ms free) (vx_Post XC mc ms free) := by
  intro m meth c A g ig mk a X hg hsize hdg hW hn hp
  have h1 : (headSpec ws rm).pre.before a A.U = true := atoms_intro fun w hw => hws w hw _ _ X.warmed
  have h2 : (Cond.code y bytes maxL ret).before a A.U = true := hws _ hcode _ _ X.warmed
  have h3 : (Cond.initialized y.cls).before a A.U = true := hinit _ _ X.warmed
  have h4 : A.cells + (headSpec ws rm).room.cells ≤ R.cells := by rw [show (headSpec ws rm).room.cells = mc from hrc]; exact hp.1
  have h5 : A.slots + (headSpec ws rm).room.slots ≤ R.slots := by rw [show (headSpec ws rm).room.slots = ms from hrs]; exact hp.2.1
  have hPc : Pc a (A.U.calling g mk a) := hblind _ _ _ _ hp.2.2
  obtain ⟨U, Ls, c0, s0⟩ := A
  dsimp only [Pt.U, Pt.locs, Pt.cells, Pt.slots] at h1 h2 h3 h4 h5 X hn hPc ⊢
  obtain ⟨methY, cY, hmY, hcY, -, hlY, -, -, -, -⟩ := Cond.code_spec hn h2
  obtain ⟨kY, hkY, -⟩ := className_of_methodNamed hn
  have hinitY : kY.init = .initialized := Cond.initialized_spec (findClass_of_methodNamed hn) hkY h3
  have h : At U g.method c below := by rw [hg]; exact X.here
  have hlocals9 : W9 + (maxL + 11) + (headSpec ws rm).room.locals ≤ R.locals := hlocals
  have happ : (headSpec ws rm).appliesLoose y e.platform (U.calling g mk a) = true :=
    Spec.appliesLoose_calling (g := g) h hdg hn hkY hinitY
      (X.room_calling (g := g) (R' := (headSpec ws rm).room) hsize hmY hcY hframes (by rw [hlY]; omega) h4 h5) h1
  obtain ⟨mid, hmid⟩ := h.above
  have hfr : (U.setTop g).frames = (.java g :: mid) ++ below := by rw [State.frames_setTop' g h.top, hmid]; rfl
  obtain ⟨o, s₂, hsteps, -, hend, hq⟩ := Steps.callFree hM p X.admits X.cas X.clock (acts := []) hfr happ hPc trivial
  have hq' : vx_Q Qc XC mc ms free a (U.calling g mk a) o s₂ := hq
  rw [State.frames_setTop' g h.top] at hend
  obtain ⟨g₀, hg0⟩ := Option.isSome_iff_exists.mp h.top
  obtain ⟨r, hr⟩ := State.topJava?_eq_some.mp hg0
  have hr' : (({ U with heap := s₂.heap, slotsUsed := s₂.slotsUsed } : State).setVm s₂.vm).frames = .java g₀ :: r := hr
  rcases hq' with ⟨hqc, L, hfe, hL⟩ | ⟨q, rfl, E, ce, L, hx, hce, hcv, hcl, hW₂, hsm, hL⟩
  · obtain ⟨⟨v, rfl⟩, hW₂, e2, q2, q3, q4, q5, q6⟩ := id hfe
    have e3 : s₂ = ({ (U.calling g mk a).setFrames s₂.frames with heap := s₂.heap, slotsUsed := s₂.slotsUsed } : State).setVm s₂.vm := by
      have : s₂ = ({ s₂ with vm := (U.calling g mk a).vm } : State).setVm s₂.vm := rfl
      rw [e2] at this
      exact this
    obtain ⟨c₂, i₂, len₂, hc₂, hd₂, hf₂⟩ := hend
    have hW' : U.WarmedH s₂.vm := hW₂
    have hcc : c₂ = c := by
      have h1 : s₂.code? g.method = U.code? g.method := by
        rw [State.code?_eq, State.code?_eq, hW'.alike.method?]
      exact Option.some.inj (hc₂.symm.trans (h1.trans h.code))
    subst hcc
    have hlen : len₂ = len := by rw [hdg] at hd₂; cases hd₂; rfl
    subst hlen
    have hs₂ : s₂ = (({ U with heap := s₂.heap, slotsUsed := s₂.slotsUsed } : State).setVm s₂.vm).setTop { g with pc := g.pc + len₂, stack := v.toList ++ g.stack } := by
      refine e3.trans ?_
      rw [hf₂, State.calling_eq h.top, State.setFrames_setFrames, State.setTop_of_frames _ hr', hr]
      rfl
    have hsame : U.sameButNew ({ U with heap := s₂.heap, slotsUsed := s₂.slotsUsed } : State) L mc ms := by
      refine ⟨?_, q2, q3, q4, q5, q6⟩
      obtain ⟨t, ht, -⟩ := State.frames_cons hr
      show ({ U with heap := s₂.heap, slotsUsed := s₂.slotsUsed } : State) = { U.setFrames U.frames with heap := s₂.heap, slotsUsed := s₂.slotsUsed }
      rw [State.setFrames_self ht]
    subst hg
    refine Or.inl ⟨v, ⟨(({ U with heap := s₂.heap, slotsUsed := s₂.slotsUsed } : State).setVm s₂.vm), Ls ++ L, c0 + mc, s0 + ms⟩,
      ⟨X.admits, X.cas, X.clock, X.frames, X.room, X.hears, X.method, X.code, (X.here.setHeapUsed s₂.heap s₂.slotsUsed).setVm hW'.alike, X.tail, State.WarmedH.trans X.warmed hW', X.limits, X.bytes, X.same.trans (hsame.setVm s.vm)⟩,
      ⟨g, mk, s₂, L, rfl, rfl, hqc, rfl, hL, rfl, rfl⟩, ?_⟩
    show Steps p.tables e below _ ((({ U with heap := s₂.heap, slotsUsed := s₂.slotsUsed } : State).setVm s₂.vm).setTop { g with pc := g.pc + len₂, stack := v.toList ++ g.stack })
    rw [← hs₂]
    exact hsteps
  · obtain ⟨e2, q2, q3, q4, q5, q6⟩ := id hsm
    have e3 : s₂ = ({ (U.calling g mk a).setFrames s₂.frames with heap := s₂.heap, slotsUsed := s₂.slotsUsed } : State).setVm s₂.vm := by
      have : s₂ = ({ s₂ with vm := (U.calling g mk a).vm } : State).setVm s₂.vm := rfl
      rw [e2] at this
      exact this
    have hf₂ : s₂.frames = .throwing q :: .java g :: U.frames.tail := hend
    have hW' : U.WarmedH s₂.vm := hW₂
    have hs₂ : s₂ = ((({ U with heap := s₂.heap, slotsUsed := s₂.slotsUsed } : State).setVm s₂.vm).setTop g).pushFrame (.throwing q) := by
      refine e3.trans ?_
      rw [hf₂, State.calling_eq h.top, State.setFrames_setFrames, State.pushFrame, State.frames_setTop _ hr', State.setTop_of_frames _ hr', State.setFrames_setFrames, hr]
      rfl
    have hsame : U.sameButNew ({ U with heap := s₂.heap, slotsUsed := s₂.slotsUsed } : State) L mc ms := by
      refine ⟨?_, q2, q3, q4, q5, q6⟩
      obtain ⟨t, ht, -⟩ := State.frames_cons hr
      show ({ U with heap := s₂.heap, slotsUsed := s₂.slotsUsed } : State) = { U.setFrames U.frames with heap := s₂.heap, slotsUsed := s₂.slotsUsed }
      rw [State.setFrames_self ht]
    subst hg
    refine Or.inr ⟨q, ⟨(({ U with heap := s₂.heap, slotsUsed := s₂.slotsUsed } : State).setVm s₂.vm), Ls ++ L, c0 + mc, s0 + ms⟩,
      ⟨X.admits, X.cas, X.clock, X.frames, X.room, X.hears, X.method, X.code, (X.here.setHeapUsed s₂.heap s₂.slotsUsed).setVm hW'.alike, X.tail, State.WarmedH.trans X.warmed hW', X.limits, X.bytes, X.same.trans (hsame.setVm s.vm)⟩,
      ⟨g, mk, s₂, L, E, ce, rfl, rfl, hx, hce, hcv, hcl, rfl, hL, rfl, rfl⟩, ?_⟩
    show Steps p.tables e below _ (((({ U with heap := s₂.heap, slotsUsed := s₂.slotsUsed } : State).setVm s₂.vm).setTop g).pushFrame (.throwing q))
    rw [← hs₂]
    exact hsteps
end Payer
section Calls
variable {p : Program} {l : Launch} {e : Env} {R : Room} {s : State} {m : MethodId} {args : Array Value} {below : List Frame} {meth : Method} {c : Code} {T : State} {locs : List Loc} {cells slots : Nat}
theorem vx_callV (X : Stand p l e R s m args below meth c T locs cells slots) (hexec : p.tables.exec = Jvm.exec) {own C : String} {index : Nat} {y : MethodName} {bytes : ByteArray} {maxL : Nat} {ret : Option FieldType}
    (hown : s.vm.findClass own = some m.cls) (hlink : (Cond.methodLink own index y).before args s = true) (hinst : (Cond.instanceMethod y).before args s = true) (hsel : (Cond.selects C y y).before args s = true)
    (hcode : (Cond.code y bytes maxL ret).before args s = true) (hy : y.cls ≠ "java/lang/invoke/MethodHandle" ∧ y.cls ≠ "java/lang/invoke/VarHandle")
    {W9 : Nat} {Pre : Pt → Array Value → Prop} {Post : Pt → Array Value → Option Value → Pt → Prop} {PostX : Pt → Array Value → Addr → Pt → Prop} (hK : vx_Back l R p e below s args y 3 W9 Pre Post PostX)
    {b : Addr} {cellB : Cell} (hcell : T.heap[b]? = some cellB) (hobj : cellB.vm.isStatics = false) (hcls : s.vm.findClass C = some cellB.cls)
    {g : JFrame} (hg : g.method = m) (hsize : g.locals.size = c.maxLocals) {argsL rest : List Value} (hlen : ∀ sig, parseMethodDescriptor y.desc = some sig → argsL.length = sig.parameters.length)
    (hstack : g.stack = argsL.reverse ++ .ref b :: rest) (hW : 2 * g.monitorRoom + (rest.map fun v => v.category).sum ≤ W9) (hdg : decode c.code g.pc = .ok (.invokevirtual index, 3))
    (hpre : ∀ vm₁, s.WarmedH vm₁ → Pre ⟨T.setVm vm₁, locs, cells, slots⟩ (Value.ref b :: argsL).toArray) :
    (∃ (v : Option Value) (vm₁ : Vm) (B : Pt), s.WarmedH vm₁ ∧ Stand p l e R s m args below meth c B.U B.locs B.cells B.slots ∧ Post ⟨T.setVm vm₁, locs, cells, slots⟩ (Value.ref b :: argsL).toArray v B ∧
      ∀ target, Steps p.tables e below (B.U.setTop { g with pc := g.pc + 3, stack := v.toList ++ rest }) target → Steps p.tables e below (T.setTop g) target) ∨
    (∃ (q : Addr) (vm₁ : Vm) (B : Pt), s.WarmedH vm₁ ∧ Stand p l e R s m args below meth c B.U B.locs B.cells B.slots ∧ PostX ⟨T.setVm vm₁, locs, cells, slots⟩ (Value.ref b :: argsL).toArray q B ∧
      Steps p.tables e below (T.setTop g) ((B.U.setTop { g with stack := rest }).pushFrame (.throwing q))) := by
  obtain ⟨mk, methM, hnamed, hmethM, hstM, habM⟩ := Cond.instanceMethod_spec hinst
  obtain ⟨methM', cM, hmethM', -, -, -, -, -, -, hsigM⟩ := Cond.code_spec hnamed hcode
  cases hmethM.symm.trans hmethM'
  obtain ⟨c2, r2, m2, q1, q2, q3, q4, kP, hkP, hkPi⟩ := Cond.selects_spec hsel
  cases hcls.symm.trans q1
  cases (State.methodFound?_of_named hnamed hy).symm.trans q2
  cases hnamed.symm.trans q3
  have hselP : selectMethod e.platform s.vm cellB.cls mk = .method mk := by rw [Launch.admits_selectMethod X.admits]; exact q4
  obtain ⟨vm₁, X₁, hstep₁⟩ := X.invokevirtual hexec hown hlink hnamed hmethM hstM hkP hkPi hy (a := b) (cell := cellB) hcell
    (fun z h => by rw [h] at hobj; cases hobj) hselP hmethM habM hkP hkPi (g := g) hg (argsL := argsL) (rest := rest) (hlen _ hsigM) hstack hdg
  rcases hK m meth c ⟨T.setVm vm₁, locs, cells, slots⟩ { g with stack := rest } (.invokevirtual index) mk (Value.ref b :: argsL).toArray X₁ hg hsize hdg hW (X₁.named hnamed) (hpre vm₁ X₁.warmed) with ⟨v, B, X', hpost, hsteps⟩ | ⟨q, B, X', hpost, hsteps⟩
  · exact Or.inl ⟨v, vm₁, B, X₁.warmed, X', hpost, fun target h => hstep₁ _ fun acts => by rw [doInvoke_state]; exact hsteps.trans h⟩
  · exact Or.inr ⟨q, vm₁, B, X₁.warmed, X', hpost, hstep₁ _ fun acts => by rw [doInvoke_state]; exact hsteps⟩
theorem vx_callS (X : Stand p l e R s m args below meth c T locs cells slots) (hexec : p.tables.exec = Jvm.exec) {own : String} {index : Nat} {y : MethodName} {bytes : ByteArray} {maxL : Nat} {ret : Option FieldType}
    (hown : s.vm.findClass own = some m.cls) (hlink : (Cond.methodLink own index y).before args s = true) (hstat : (Cond.static y).before args s = true) (hinit : (Cond.initialized y.cls).before args s = true)
    (hcode : (Cond.code y bytes maxL ret).before args s = true) (hy : y.cls ≠ "java/lang/invoke/MethodHandle" ∧ y.cls ≠ "java/lang/invoke/VarHandle")
    {W9 : Nat} {Pre : Pt → Array Value → Prop} {Post : Pt → Array Value → Option Value → Pt → Prop} {PostX : Pt → Array Value → Addr → Pt → Prop} (hK : vx_Back l R p e below s args y 3 W9 Pre Post PostX)
    {g : JFrame} (hg : g.method = m) (hsize : g.locals.size = c.maxLocals) {argsL rest : List Value} (hlen : ∀ sig, parseMethodDescriptor y.desc = some sig → argsL.length = sig.parameters.length)
    (hstack : g.stack = argsL.reverse ++ rest) (hW : 2 * g.monitorRoom + (rest.map fun v => v.category).sum ≤ W9) (hdg : decode c.code g.pc = .ok (.invokestatic index, 3))
    (hpre : ∀ vm₁, s.WarmedH vm₁ → Pre ⟨T.setVm vm₁, locs, cells, slots⟩ argsL.toArray) :
    (∃ (v : Option Value) (vm₁ : Vm) (B : Pt), s.WarmedH vm₁ ∧ Stand p l e R s m args below meth c B.U B.locs B.cells B.slots ∧ Post ⟨T.setVm vm₁, locs, cells, slots⟩ argsL.toArray v B ∧
      ∀ target, Steps p.tables e below (B.U.setTop { g with pc := g.pc + 3, stack := v.toList ++ rest }) target → Steps p.tables e below (T.setTop g) target) ∨
    (∃ (q : Addr) (vm₁ : Vm) (B : Pt), s.WarmedH vm₁ ∧ Stand p l e R s m args below meth c B.U B.locs B.cells B.slots ∧ PostX ⟨T.setVm vm₁, locs, cells, slots⟩ argsL.toArray q B ∧
      Steps p.tables e below (T.setTop g) ((B.U.setTop { g with stack := rest }).pushFrame (.throwing q))) := by
  obtain ⟨mk, hnamed⟩ := Cond.code_named hcode
  obtain ⟨methM, cM, hmethM, -, -, -, -, -, -, hsigM⟩ := Cond.code_spec hnamed hcode
  have hstatic : methM.isStatic = true := Cond.static_spec hnamed hmethM hstat
  obtain ⟨kP, hkP, -⟩ := className_of_methodNamed hnamed
  have hinitP : kP.init = .initialized := Cond.initialized_spec (findClass_of_methodNamed hnamed) hkP hinit
  obtain ⟨vm₁, X₁, hstep₁⟩ := X.invokestatic hexec hown hlink hnamed hmethM hstatic hkP hinitP hy (g := g) hg (argsL := argsL) (rest := rest) (hlen _ hsigM) hstack hdg
  rcases hK m meth c ⟨T.setVm vm₁, locs, cells, slots⟩ { g with stack := rest } (.invokestatic index) mk argsL.toArray X₁ hg hsize hdg hW (X₁.named hnamed) (hpre vm₁ X₁.warmed) with ⟨v, B, X', hpost, hsteps⟩ | ⟨q, B, X', hpost, hsteps⟩
  · exact Or.inl ⟨v, vm₁, B, X₁.warmed, X', hpost, fun target h => hstep₁ _ fun acts => by rw [doInvoke_state]; exact hsteps.trans h⟩
  · exact Or.inr ⟨q, vm₁, B, X₁.warmed, X', hpost, hstep₁ _ fun acts => by rw [doInvoke_state]; exact hsteps⟩
end Calls
theorem vx_cls {s : State} {T : State} {vm₁ : Vm} {E : String} {k : ClassId} (hW : s.WarmedH vm₁) (h : (T.setVm vm₁).vm.findClass E = some k) : s.vm.findClass E = some k := by
  have h1 : vm₁.findClass E = some k := h
  rw [hW.alike.findClass] at h1
  exact h1
/-- the method's frame g, with q thrown over it -/
def vx_W (p : Program) (l : Launch) (e : Env) (R : Room) (s : State) (m : MethodId) (args : Array Value) (below : List Frame) (meth : Method) (c : Code) (H : Heap) (locs : List Loc) (cells slots : Nat) (Q : State → Prop) (g : JFrame) (q : Addr) : Prop :=
  ∀ T : State, T.heap = H → Stand p l e R s m args below meth c T locs cells slots → ∃ t, Steps p.tables e below ((T.setTop g).pushFrame (.throwing q)) t ∧ Q t
def vx_Run (p : Program) (l : Launch) (e : Env) (R : Room) (s : State) (m : MethodId) (args : Array Value) (below : List Frame) (meth : Method) (c : Code) (H : Heap) (locs : List Loc) (cells slots mc ms : Nat) (g : JFrame) (rest : List Value) (Qa : State → Outcome → State → Prop) (XC : String → State → State → Prop) (free : Addr → Prop) : Prop :=
  ∀ T : State, T.heap = H → Stand p l e R s m args below meth c T locs cells slots →
    (∃ (v : Option Value) (st₀ t T' : State) (L : List Loc), st₀.heap = H ∧ Stand p l e R s m args below meth c T' (locs ++ L) (cells + mc) (slots + ms) ∧ (∀ q ∈ L, free q.base) ∧ T'.heap = t.heap ∧ T'.vm = t.vm ∧ Qa st₀ (.returned v) t ∧
      Goes p e below T g T' { g with pc := g.pc + 3, stack := v.toList ++ rest }) ∨
    (∃ (q : Addr) (st₀ t T' : State) (L : List Loc) (E : String) (ce : Cell), st₀.heap = H ∧ Stand p l e R s m args below meth c T' (locs ++ L) (cells + mc) (slots + ms) ∧ (∀ z ∈ L, free z.base) ∧ T'.heap = t.heap ∧ T'.vm = t.vm ∧ XC E st₀ t ∧ t.heap[q]? = some ce ∧ ce.vm = .none ∧ s.vm.findClass E = some ce.cls ∧
      Steps p.tables e below (T.setTop g) ((T'.setTop { g with stack := rest }).pushFrame (.throwing q)))
def vx_X {S : Type} (px : S → Prop) (B : String → S → State → Prop) (A : Nat → Prop) : String → State → State → Prop := fun E st t => ∃ u : S, px u ∧ B E u t ∧ va_F A st t
section Runs
variable {p : Program} {l : Launch} {e : Env} {R : Room} {s : State} {m : MethodId} {args : Array Value} {below : List Frame} {meth : Method} {c : Code} {H : Heap} {locs : List Loc} {cells slots : Nat}
variable {y : MethodName} {bytes cc : ByteArray} {maxL nL mc ms n index : Nat} {ret : Option FieldType} {ws : List Cond} {rm : Room} {Pc : Array Value → State → Prop} {Qc : Array Value → State → Outcome → State → Prop} {XC : String → State → State → Prop} {free : Addr → Prop} {Ts : List Cond} {own C : String} {b : Addr} {As rest : List Value} {g : JFrame}
theorem vx_callBack (cb : CallB R s args own index y bytes maxL ret ws rm mc ms n) (hM : vx_Met l y ws rm Pc Qc XC mc ms free) (hbl : FrameBlind Pc) : vx_Back l R p e below s args y 3 8 (PreOf R mc ms Pc) (PostOf Qc mc ms free) (vx_Post XC mc ms free) := by
  obtain ⟨hrc, hrs, hfr, hlo, hws, hcw, -, hini, -⟩ := cb
  exact vx_back (bytes := bytes) (maxL := maxL) (ret := ret) hM hbl hrc hrs hfr hlo hws hcw (fun a' U hW => word_at hW (Or.inl (by first | rfl | simp [Cond.onTables, Cond.keeps, Cond.steady])) hini)
theorem vx_runV (S : CallFix p m c cc nL s args Ts own) (hM : vx_Met l y ws rm Pc Qc XC mc ms free) (cw : CallW R s args own C index y bytes maxL ret ws rm mc ms n) (hp : PreV s H C b Pc As)
    (hg : g.method = m) (hn : As.length = n) (hsize : g.locals.size = nL) (hstack : g.stack = As.reverse ++ .ref b :: rest) (hW : 2 * g.monitorRoom + (rest.map fun v => v.category).sum ≤ 8) (hdg : decode cc g.pc = .ok (.invokevirtual index, 3)) (hf : cells + mc ≤ R.cells ∧ slots + ms ≤ R.slots) :
    vx_Run p l e R s m args below meth c H locs cells slots mc ms g rest (Qc (Value.ref b :: As).toArray) XC free := by
  have hK : vx_Back l R p e below s args y 3 8 (PreOf R mc ms Pc) (PostOf Qc mc ms free) (vx_Post XC mc ms free) := vx_callBack cw.1 hM hp.1
  obtain ⟨⟨-, -, -, -, -, -, hcode, -, hy, hlen, hl⟩, hin, hse⟩ := cw
  obtain ⟨hx, hb, hml, ho, -⟩ := S
  obtain ⟨-, ⟨cellB, hcB, hoB, hclB⟩, hPc⟩ := hp
  intro T hT X
  rcases vx_callV X hx (C := C) (bytes := bytes) (maxL := maxL) (ret := ret) ho hl hin hse hcode hy hK (by rw [hT]; exact hcB) hoB hclB hg (hsize.trans hml.symm) (argsL := As) (rest := rest) (fun sig h => hn.trans (hlen sig h)) hstack hW (by rw [hb]; exact hdg)
    (fun vm₁ hW₁ => ⟨hf.1, hf.2, hPc (T.setVm vm₁) hT hW₁⟩) with ⟨v, vm₁, ⟨U', l2, c2, s2⟩, hW₁, X', ⟨g', mk, t, L, e1, e2, hq, h1, hL, h2, h3⟩, st⟩ | ⟨q, vm₁, ⟨U', l2, c2, s2⟩, hW₁, X', ⟨g', mk, t, L, E, ce, e1, e2, hq, hce, hcv, hcl, h1, hL, h2, h3⟩, st⟩
  · dsimp only [Pt.U, Pt.locs, Pt.cells, Pt.slots] at X' e1 e2 h1 h2 h3 st
    subst h1; subst h2; subst h3
    exact Or.inl ⟨v, (T.setVm vm₁).calling g' mk (Value.ref b :: As).toArray, t, U', L, hT, X', hL, e1, e2, hq, st⟩
  · dsimp only [Pt.U, Pt.locs, Pt.cells, Pt.slots] at X' e1 e2 h1 h2 h3 st hcl
    subst h1; subst h2; subst h3
    exact Or.inr ⟨q, (T.setVm vm₁).calling g' mk (Value.ref b :: As).toArray, t, U', L, E, ce, hT, X', hL, e1, e2, hq, hce, hcv, vx_cls hW₁ hcl, st⟩
theorem vx_runS (S : CallFix p m c cc nL s args Ts own) (hM : vx_Met l y ws rm Pc Qc XC mc ms free) (cw : CallB R s args own index y bytes maxL ret ws rm mc ms n ∧ (Cond.static y).before args s = true) (hp : PreS s H Pc As)
    (hg : g.method = m) (hn : As.length = n) (hsize : g.locals.size = nL) (hstack : g.stack = As.reverse ++ rest) (hW : 2 * g.monitorRoom + (rest.map fun v => v.category).sum ≤ 8) (hdg : decode cc g.pc = .ok (.invokestatic index, 3)) (hf : cells + mc ≤ R.cells ∧ slots + ms ≤ R.slots) :
    vx_Run p l e R s m args below meth c H locs cells slots mc ms g rest (Qc As.toArray) XC free := by
  have hK : vx_Back l R p e below s args y 3 8 (PreOf R mc ms Pc) (PostOf Qc mc ms free) (vx_Post XC mc ms free) := vx_callBack cw.1 hM hp.1
  obtain ⟨⟨-, -, -, -, -, -, hcode, hini, hy, hlen, hl⟩, hstt⟩ := cw
  obtain ⟨hx, hb, hml, ho, -⟩ := S
  intro T hT X
  rcases vx_callS X hx (bytes := bytes) (maxL := maxL) (ret := ret) ho hl hstt hini hcode hy hK hg (hsize.trans hml.symm) (argsL := As) (rest := rest) (fun sig h => hn.trans (hlen sig h)) hstack hW (by rw [hb]; exact hdg)
    (fun vm₁ hW₁ => ⟨hf.1, hf.2, hp.2 (T.setVm vm₁) hT hW₁⟩) with ⟨v, vm₁, ⟨U', l2, c2, s2⟩, hW₁, X', ⟨g', mk, t, L, e1, e2, hq, h1, hL, h2, h3⟩, st⟩ | ⟨q, vm₁, ⟨U', l2, c2, s2⟩, hW₁, X', ⟨g', mk, t, L, E, ce, e1, e2, hq, hce, hcv, hcl, h1, hL, h2, h3⟩, st⟩
  · dsimp only [Pt.U, Pt.locs, Pt.cells, Pt.slots] at X' e1 e2 h1 h2 h3 st
    subst h1; subst h2; subst h3
    exact Or.inl ⟨v, (T.setVm vm₁).calling g' mk As.toArray, t, U', L, hT, X', hL, e1, e2, hq, st⟩
  · dsimp only [Pt.U, Pt.locs, Pt.cells, Pt.slots] at X' e1 e2 h1 h2 h3 st hcl
    subst h1; subst h2; subst h3
    exact Or.inr ⟨q, (T.setVm vm₁).calling g' mk As.toArray, t, U', L, E, ce, hT, X', hL, e1, e2, hq, hce, hcv, vx_cls hW₁ hcl, st⟩
end Runs
section Rows
variable {p : Program} {l : Launch} {e : Env} {R : Room} {s : State} {m : MethodId} {args : Array Value} {below : List Frame} {meth : Method} {c : Code} {H : Heap} {locs : List Loc} {cells slots : Nat} {Q : State → Prop}
variable {mc ms : Nat} {free : Addr → Prop} {A0 A1 : Nat → Prop} {H0 : Heap} {a : Array Value} {pc : Nat} {ls : Array Slot} {st0 rest : List Value}
theorem vx_keep {st₀ t T' : State} {L : List Loc} (h0 : st₀.heap = H) (e1 : T'.heap = t.heap) (hS : va_S A0 H0 H locs) (hA : ∀ q, q < H.size → A1 q → A0 q) (hf : ∀ q, free q → A0 q) (hL : ∀ q ∈ L, free q.base) (hF : va_F A1 st₀ t) :
    H.size ≤ T'.heap.size ∧ (∀ q : Nat, q < H.size → ¬ A1 q → T'.heap[q]? = H[q]?) ∧ va_S A0 H0 T'.heap (locs ++ L) := by
  obtain ⟨hz, hk⟩ := hF
  rw [h0] at hz hk
  exact ⟨by rw [e1]; exact hz, fun q h1 h2 => by rw [e1]; exact hk q h1 h2,
    ⟨Nat.le_trans hS.1 (by rw [e1]; exact hz), fun q h1 h2 => by rw [e1, hk q (Nat.lt_of_lt_of_le h1 hS.1) (fun z => h2 (hA q (Nat.lt_of_lt_of_le h1 hS.1) z))]; exact hS.2.1 q h1 h2, fun q hq => by
      rcases List.mem_append.mp hq with h | h
      · exact hS.2.2 q h
      · exact hf _ (hL q h)⟩⟩
theorem vx_calli {S SX : Type} {post : Int32 → S → Prop} {px : SX → Prop} {B : S → State → Prop} {BX : String → SX → State → Prop} {AX : Nat → Prop} (hr : vx_Run p l e R s m args below meth c H locs cells slots mc ms (F0 m pc ls st0) rest (va_Qi post B A1 a) (vx_X px BX AX) free) (hS : va_S A0 H0 H locs) (hA : ∀ q, q < H.size → A1 q → A0 q) (hf : ∀ q, free q → A0 q) (hAX : ∀ q, q < H.size → AX q → A0 q)
    (kx : ∀ (E : String) (ce : Cell) (q9 : Addr) (u : SX) (t : State) (H1 : Heap) (locs1 : List Loc), t.heap = H1 → s.vm.Alike t.vm → px u → BX E u t → H.size ≤ H1.size → (∀ q : Nat, q < H.size → ¬ AX q → H1[q]? = H[q]?) → va_S A0 H0 H1 locs1 → H1[q9]? = some ce → ce.vm = .none → s.vm.findClass E = some ce.cls → vx_W p l e R s m args below meth c H1 locs1 (cells + mc) (slots + ms) Q (F0 m pc ls rest) q9)
    (kk : ∀ (r : Int32) (u : S) (t : State) (H1 : Heap) (locs1 : List Loc), t.heap = H1 → s.vm.Alike t.vm → post r u → B u t → H.size ≤ H1.size → (∀ q : Nat, q < H.size → ¬ A1 q → H1[q]? = H[q]?) → va_S A0 H0 H1 locs1 → W p l e R s m args below meth c H1 locs1 (cells + mc) (slots + ms) Q (F0 m (pc + 3) ls (.int r :: rest))) : W p l e R s m args below meth c H locs cells slots Q (F0 m pc ls st0) := by
  intro T hT X
  rcases hr T hT X with ⟨v, st₀, t, T', L, h0, X', hL, e1, e2, ⟨⟨r, u, hv, hp, hb⟩, hF⟩, st⟩ | ⟨q, st₀, t, T', L, E, ce, h0, X', hL, e1, e2, ⟨u, hp, hb, hF⟩, hce, hcv, hcl, st⟩
  · cases hv
    obtain ⟨k1, k2, k3⟩ := vx_keep h0 e1 hS hA hf hL hF
    obtain ⟨t2, a1, b1⟩ := kk r u t T'.heap (locs ++ L) e1.symm (by rw [← e2]; exact X'.warmed.alike) hp hb k1 k2 k3 T' rfl X'
    exact ⟨t2, st t2 a1, b1⟩
  · obtain ⟨k1, k2, k3⟩ := vx_keep h0 e1 hS hAX hf hL hF
    obtain ⟨t2, a1, b1⟩ := kx E ce q u t T'.heap (locs ++ L) e1.symm (by rw [← e2]; exact X'.warmed.alike) hp hb k1 k2 k3 (by rw [e1]; exact hce) hcv hcl T' rfl X'
    exact ⟨t2, st.trans a1, b1⟩
theorem vx_calll {S SX : Type} {post : Int64 → S → Prop} {px : SX → Prop} {B : S → State → Prop} {BX : String → SX → State → Prop} {AX : Nat → Prop} (hr : vx_Run p l e R s m args below meth c H locs cells slots mc ms (F0 m pc ls st0) rest (va_Ql post B A1 a) (vx_X px BX AX) free) (hS : va_S A0 H0 H locs) (hA : ∀ q, q < H.size → A1 q → A0 q) (hf : ∀ q, free q → A0 q) (hAX : ∀ q, q < H.size → AX q → A0 q)
    (kx : ∀ (E : String) (ce : Cell) (q9 : Addr) (u : SX) (t : State) (H1 : Heap) (locs1 : List Loc), t.heap = H1 → s.vm.Alike t.vm → px u → BX E u t → H.size ≤ H1.size → (∀ q : Nat, q < H.size → ¬ AX q → H1[q]? = H[q]?) → va_S A0 H0 H1 locs1 → H1[q9]? = some ce → ce.vm = .none → s.vm.findClass E = some ce.cls → vx_W p l e R s m args below meth c H1 locs1 (cells + mc) (slots + ms) Q (F0 m pc ls rest) q9)
    (kk : ∀ (r : Int64) (u : S) (t : State) (H1 : Heap) (locs1 : List Loc), t.heap = H1 → s.vm.Alike t.vm → post r u → B u t → H.size ≤ H1.size → (∀ q : Nat, q < H.size → ¬ A1 q → H1[q]? = H[q]?) → va_S A0 H0 H1 locs1 → W p l e R s m args below meth c H1 locs1 (cells + mc) (slots + ms) Q (F0 m (pc + 3) ls (.long r :: rest))) : W p l e R s m args below meth c H locs cells slots Q (F0 m pc ls st0) := by
  intro T hT X
  rcases hr T hT X with ⟨v, st₀, t, T', L, h0, X', hL, e1, e2, ⟨⟨r, u, hv, hp, hb⟩, hF⟩, st⟩ | ⟨q, st₀, t, T', L, E, ce, h0, X', hL, e1, e2, ⟨u, hp, hb, hF⟩, hce, hcv, hcl, st⟩
  · cases hv
    obtain ⟨k1, k2, k3⟩ := vx_keep h0 e1 hS hA hf hL hF
    obtain ⟨t2, a1, b1⟩ := kk r u t T'.heap (locs ++ L) e1.symm (by rw [← e2]; exact X'.warmed.alike) hp hb k1 k2 k3 T' rfl X'
    exact ⟨t2, st t2 a1, b1⟩
  · obtain ⟨k1, k2, k3⟩ := vx_keep h0 e1 hS hAX hf hL hF
    obtain ⟨t2, a1, b1⟩ := kx E ce q u t T'.heap (locs ++ L) e1.symm (by rw [← e2]; exact X'.warmed.alike) hp hb k1 k2 k3 (by rw [e1]; exact hce) hcv hcl T' rfl X'
    exact ⟨t2, st.trans a1, b1⟩
theorem vx_callf {S SX : Type} {post : UInt32 → S → Prop} {px : SX → Prop} {B : S → State → Prop} {BX : String → SX → State → Prop} {AX : Nat → Prop} (hr : vx_Run p l e R s m args below meth c H locs cells slots mc ms (F0 m pc ls st0) rest (va_Qf post B A1 a) (vx_X px BX AX) free) (hS : va_S A0 H0 H locs) (hA : ∀ q, q < H.size → A1 q → A0 q) (hf : ∀ q, free q → A0 q) (hAX : ∀ q, q < H.size → AX q → A0 q)
    (kx : ∀ (E : String) (ce : Cell) (q9 : Addr) (u : SX) (t : State) (H1 : Heap) (locs1 : List Loc), t.heap = H1 → s.vm.Alike t.vm → px u → BX E u t → H.size ≤ H1.size → (∀ q : Nat, q < H.size → ¬ AX q → H1[q]? = H[q]?) → va_S A0 H0 H1 locs1 → H1[q9]? = some ce → ce.vm = .none → s.vm.findClass E = some ce.cls → vx_W p l e R s m args below meth c H1 locs1 (cells + mc) (slots + ms) Q (F0 m pc ls rest) q9)
    (kk : ∀ (r : UInt32) (u : S) (t : State) (H1 : Heap) (locs1 : List Loc), t.heap = H1 → s.vm.Alike t.vm → post r u → B u t → H.size ≤ H1.size → (∀ q : Nat, q < H.size → ¬ A1 q → H1[q]? = H[q]?) → va_S A0 H0 H1 locs1 → W p l e R s m args below meth c H1 locs1 (cells + mc) (slots + ms) Q (F0 m (pc + 3) ls (.float r :: rest))) : W p l e R s m args below meth c H locs cells slots Q (F0 m pc ls st0) := by
  intro T hT X
  rcases hr T hT X with ⟨v, st₀, t, T', L, h0, X', hL, e1, e2, ⟨⟨r, u, hv, hp, hb⟩, hF⟩, st⟩ | ⟨q, st₀, t, T', L, E, ce, h0, X', hL, e1, e2, ⟨u, hp, hb, hF⟩, hce, hcv, hcl, st⟩
  · cases hv
    obtain ⟨k1, k2, k3⟩ := vx_keep h0 e1 hS hA hf hL hF
    obtain ⟨t2, a1, b1⟩ := kk r u t T'.heap (locs ++ L) e1.symm (by rw [← e2]; exact X'.warmed.alike) hp hb k1 k2 k3 T' rfl X'
    exact ⟨t2, st t2 a1, b1⟩
  · obtain ⟨k1, k2, k3⟩ := vx_keep h0 e1 hS hAX hf hL hF
    obtain ⟨t2, a1, b1⟩ := kx E ce q u t T'.heap (locs ++ L) e1.symm (by rw [← e2]; exact X'.warmed.alike) hp hb k1 k2 k3 (by rw [e1]; exact hce) hcv hcl T' rfl X'
    exact ⟨t2, st.trans a1, b1⟩
theorem vx_calld {S SX : Type} {post : UInt64 → S → Prop} {px : SX → Prop} {B : S → State → Prop} {BX : String → SX → State → Prop} {AX : Nat → Prop} (hr : vx_Run p l e R s m args below meth c H locs cells slots mc ms (F0 m pc ls st0) rest (va_Qd post B A1 a) (vx_X px BX AX) free) (hS : va_S A0 H0 H locs) (hA : ∀ q, q < H.size → A1 q → A0 q) (hf : ∀ q, free q → A0 q) (hAX : ∀ q, q < H.size → AX q → A0 q)
    (kx : ∀ (E : String) (ce : Cell) (q9 : Addr) (u : SX) (t : State) (H1 : Heap) (locs1 : List Loc), t.heap = H1 → s.vm.Alike t.vm → px u → BX E u t → H.size ≤ H1.size → (∀ q : Nat, q < H.size → ¬ AX q → H1[q]? = H[q]?) → va_S A0 H0 H1 locs1 → H1[q9]? = some ce → ce.vm = .none → s.vm.findClass E = some ce.cls → vx_W p l e R s m args below meth c H1 locs1 (cells + mc) (slots + ms) Q (F0 m pc ls rest) q9)
    (kk : ∀ (r : UInt64) (u : S) (t : State) (H1 : Heap) (locs1 : List Loc), t.heap = H1 → s.vm.Alike t.vm → post r u → B u t → H.size ≤ H1.size → (∀ q : Nat, q < H.size → ¬ A1 q → H1[q]? = H[q]?) → va_S A0 H0 H1 locs1 → W p l e R s m args below meth c H1 locs1 (cells + mc) (slots + ms) Q (F0 m (pc + 3) ls (.double r :: rest))) : W p l e R s m args below meth c H locs cells slots Q (F0 m pc ls st0) := by
  intro T hT X
  rcases hr T hT X with ⟨v, st₀, t, T', L, h0, X', hL, e1, e2, ⟨⟨r, u, hv, hp, hb⟩, hF⟩, st⟩ | ⟨q, st₀, t, T', L, E, ce, h0, X', hL, e1, e2, ⟨u, hp, hb, hF⟩, hce, hcv, hcl, st⟩
  · cases hv
    obtain ⟨k1, k2, k3⟩ := vx_keep h0 e1 hS hA hf hL hF
    obtain ⟨t2, a1, b1⟩ := kk r u t T'.heap (locs ++ L) e1.symm (by rw [← e2]; exact X'.warmed.alike) hp hb k1 k2 k3 T' rfl X'
    exact ⟨t2, st t2 a1, b1⟩
  · obtain ⟨k1, k2, k3⟩ := vx_keep h0 e1 hS hAX hf hL hF
    obtain ⟨t2, a1, b1⟩ := kx E ce q u t T'.heap (locs ++ L) e1.symm (by rw [← e2]; exact X'.warmed.alike) hp hb k1 k2 k3 (by rw [e1]; exact hce) hcv hcl T' rfl X'
    exact ⟨t2, st.trans a1, b1⟩
theorem vx_callv {S SX : Type} {post : S → Prop} {px : SX → Prop} {B : S → State → Prop} {BX : String → SX → State → Prop} {AX : Nat → Prop} (hr : vx_Run p l e R s m args below meth c H locs cells slots mc ms (F0 m pc ls st0) rest (va_Qv post B A1 a) (vx_X px BX AX) free) (hS : va_S A0 H0 H locs) (hA : ∀ q, q < H.size → A1 q → A0 q) (hf : ∀ q, free q → A0 q) (hAX : ∀ q, q < H.size → AX q → A0 q)
    (kx : ∀ (E : String) (ce : Cell) (q9 : Addr) (u : SX) (t : State) (H1 : Heap) (locs1 : List Loc), t.heap = H1 → s.vm.Alike t.vm → px u → BX E u t → H.size ≤ H1.size → (∀ q : Nat, q < H.size → ¬ AX q → H1[q]? = H[q]?) → va_S A0 H0 H1 locs1 → H1[q9]? = some ce → ce.vm = .none → s.vm.findClass E = some ce.cls → vx_W p l e R s m args below meth c H1 locs1 (cells + mc) (slots + ms) Q (F0 m pc ls rest) q9)
    (kk : ∀ (u : S) (t : State) (H1 : Heap) (locs1 : List Loc), t.heap = H1 → s.vm.Alike t.vm → post u → B u t → H.size ≤ H1.size → (∀ q : Nat, q < H.size → ¬ A1 q → H1[q]? = H[q]?) → va_S A0 H0 H1 locs1 → W p l e R s m args below meth c H1 locs1 (cells + mc) (slots + ms) Q (F0 m (pc + 3) ls (rest))) : W p l e R s m args below meth c H locs cells slots Q (F0 m pc ls st0) := by
  intro T hT X
  rcases hr T hT X with ⟨v, st₀, t, T', L, h0, X', hL, e1, e2, ⟨⟨u, hv, hp, hb⟩, hF⟩, st⟩ | ⟨q, st₀, t, T', L, E, ce, h0, X', hL, e1, e2, ⟨u, hp, hb, hF⟩, hce, hcv, hcl, st⟩
  · cases hv
    obtain ⟨k1, k2, k3⟩ := vx_keep h0 e1 hS hA hf hL hF
    obtain ⟨t2, a1, b1⟩ := kk u t T'.heap (locs ++ L) e1.symm (by rw [← e2]; exact X'.warmed.alike) hp hb k1 k2 k3 T' rfl X'
    exact ⟨t2, st t2 a1, b1⟩
  · obtain ⟨k1, k2, k3⟩ := vx_keep h0 e1 hS hAX hf hL hF
    obtain ⟨t2, a1, b1⟩ := kx E ce q u t T'.heap (locs ++ L) e1.symm (by rw [← e2]; exact X'.warmed.alike) hp hb k1 k2 k3 (by rw [e1]; exact hce) hcv hcl T' rfl X'
    exact ⟨t2, st.trans a1, b1⟩
/-- caught by the row x of this method's table; the rows ahead don't take it -/
theorem vx_catch {own name : String} {E : String} {ce : Cell} {q : Addr} (hown : s.vm.findClass own = some m.cls) (pre : List ExceptionTableEntry) (x : ExceptionTableEntry) (suf : List ExceptionTableEntry) (hsplit : c.exceptionTable.toList = pre ++ x :: suf)
    (hpass : ∀ z ∈ pre, covers z pc = false ∨ (z.catchType ≠ 0 ∧ ∃ nm : String, (Cond.classLink own z.catchType nm).before args s = true ∧ va_Nc E nm s)) (hx : covers x pc = true) (h0 : x.catchType ≠ 0)
    (hlink : (Cond.classLink own x.catchType name).before args s = true) (hcast : (Cond.castable E name).before args s = true) (hcell : H[q]? = some ce) (hv : ce.vm = .none) (hcl : s.vm.findClass E = some ce.cls)
    (kk : W p l e R s m args below meth c H locs cells slots Q (F0 m x.handlerPc ls [.ref q])) : vx_W p l e R s m args below meth c H locs cells slots Q (F0 m pc ls rest) q := by
  intro T hT X
  have hpl : e.platform.magicAccessors = ({} : Platform).magicAccessors := by rw [X.admits.platform]
  obtain ⟨c3, c4, hc3, hc4, hasg⟩ := Cond.castable_spec hcast
  cases Option.some.inj (hc3.symm.trans hcl)
  obtain ⟨c5, hc5, hcl5⟩ := Cond.classLink_spec hown hlink e.platform hpl
  cases Option.some.inj (hc4.symm.trans hc5)
  obtain ⟨vm', X', st⟩ := X.thenCaughtThrough q (g := F0 m pc ls rest) rfl (Steps.refl _) (by rw [hT]; exact hcell) (by rw [hv]; rfl) (by obtain ⟨k9, h9, -⟩ := Vm.findClass_spec hcl; exact ⟨k9, h9⟩) pre x suf hsplit
    (fun z hz => by
      rcases hpass z hz with h | ⟨hz0, nm, hl1, hn1⟩
      · exact Or.inl h
      · obtain ⟨c6, hc6, hcl6⟩ := Cond.classLink_spec hown hl1 e.platform hpl
        obtain ⟨a8, b8, h1, h2, h3⟩ := hn1
        cases Option.some.inj (h1.symm.trans hcl)
        cases Option.some.inj (h2.symm.trans hc6)
        exact Or.inr ⟨hz0, _, hcl6, h3⟩) hx (Or.inr ⟨h0, c4, hcl5, hasg⟩)
  obtain ⟨t, a1, b1⟩ := kk (T.setVm vm') hT X'
  exact ⟨t, st.trans a1, b1⟩
end Rows
section Ends
variable {p : Program} {l : Launch} {e : Env} {R : Room} {s : State} {m : MethodId} {args : Array Value} {below : List Frame} {meth : Method} {c : Code} {H : Heap} {locs : List Loc} {cells slots : Nat} {Q : State → Prop}
variable {mc ms : Nat} {free : Addr → Prop} {A0 A1 : Nat → Prop} {H0 : Heap} {a : Array Value} {ls : Array Slot} {st0 rest : List Value}
variable {Qc : Array Value → State → Outcome → State → Prop} {XC : String → State → State → Prop}
/-- what a body that may throw owes at its end -/
def vx_MQ (below : List Frame) (Qc : Array Value → State → Outcome → State → Prop) (XC : String → State → State → Prop) (a : Array Value) (s : State) (mc ms : Nat) (free : Addr → Prop) : State → Prop := fun t =>
  ∃ o, t.status = .running ∧ Ended t below o ∧ vx_Q Qc XC mc ms free a s o t
theorem vx_ret {g : JFrame} {mc ms : Nat} (k : W p l e R s m args below meth c H locs cells slots (MQ below Qc args s mc ms free) g) : W p l e R s m args below meth c H locs cells slots (vx_MQ below Qc XC args s mc ms free) g := by
  intro T hT X
  obtain ⟨t, a1, o, b1, b2, b3, b4⟩ := k T hT X
  exact ⟨t, a1, o, b1, b2, Or.inl ⟨b3, b4⟩⟩
/-- not caught here: it goes on to the caller -/
theorem vx_widen {g : JFrame} {q : Addr} {k n : Nat} (h1 : cells ≤ k) (h2 : slots ≤ n) (kk : vx_W p l e R s m args below meth c H locs k n Q g q) : vx_W p l e R s m args below meth c H locs cells slots Q g q := fun T hT X => kk T hT (stand_widen X h1 h2)
theorem vx_out {pc : Nat} {E : String} {ce : Cell} {q : Addr} {mc ms : Nat} (hout : ∀ x ∈ c.exceptionTable.toList, covers x pc = false) (hlocks : meth.locks = false) (hcell : H[q]? = some ce) (hv : ce.vm = .none) (hcl : s.vm.findClass E = some ce.cls)
    (hx : ∀ t : State, t.heap = H → s.vm.Alike t.vm → XC E s t) (hf : ∀ z ∈ locs, free z.base) (hc : cells ≤ mc) (hs : slots ≤ ms) :
    vx_W p l e R s m args below meth c H locs cells slots (vx_MQ below Qc XC args s mc ms free) (F0 m pc ls rest) q := by
  intro T hT X
  obtain ⟨st1, hrun, hend, hW, hsm⟩ := X.leaveThrown q (g := F0 m pc ls rest) rfl rfl rfl hout hlocks
  have hcell9 : (T.setFrames (.throwing q :: below)).heap[q]? = some ce := by
    show T.heap[q]? = some ce
    rw [hT]; exact hcell
  exact ⟨_, st1, .threw q, hrun, hend, Or.inr ⟨q, rfl, E, ce, locs, hx _ hT hW.alike, hcell9, hv, hcl, hW, hsm.mono hc hs, hf⟩⟩
theorem vx_frame {U : State} {k n : Nat} (h : s.sameButNew ({ U with vm := s.vm } : State) locs k n) : s.heap.size ≤ U.heap.size ∧ ∀ q : Nat, q < s.heap.size → (∀ z ∈ locs, z.base ≠ q) → U.heap[q]? = s.heap[q]? := by
  obtain ⟨-, h2, -, -, -, h6⟩ := h
  refine ⟨h2, fun q hq hz => ?_⟩
  obtain ⟨c9, e1, e2, e3, e4⟩ := h6 q _ (Array.getElem?_eq_getElem hq)
  have hs : c9.slots = (s.heap[q]).slots := Array.ext_getElem? fun i => e4 i fun hm => hz _ hm rfl
  have h9 : c9 = s.heap[q] := by
    rw [hs] at e2
    exact e2
  have e5 : U.heap[q]? = some c9 := e1
  rw [e5, h9, Array.getElem?_eq_getElem hq]
/-- the words of a throw but the four that speak of the heap -/
def vx_no (w : Cond) : Bool := decide (w ≠ .isRef (.static Bundle.tN "UNASSIGNED_STACK" Bundle.steD)) && decide (w ≠ .isRef (.static Bundle.tN "SUPPRESSED_SENTINEL" Bundle.listD)) && decide (w ≠ .laysStatic Bundle.tN "UNASSIGNED_STACK" Bundle.steD) && decide (w ≠ .laysStatic Bundle.tN "SUPPRESSED_SENTINEL" Bundle.listD)
def vx_at0 (own : String) (ic : Nat) (X : String) (names : List String) : List Cond := (Bundle.ownAtoms0 own ic X names).filter vx_no
def vx_atS (own : String) (ic : Nat) (X : String) (names : List String) : List Cond := (Bundle.ownAtoms own ic X names).filter vx_no
/-- a word that the tables alone decide, or a good one -/
def vx_ot (w : Cond) : Bool := w.onTables || goodWord w
theorem vx_ot_at {args a' : Array Value} {s U : State} {w : Cond} (hW : s.WarmedH U.vm) (hvm : s.vm = U.vm) (hg : vx_ot w = true) (h : w.before args s = true) : w.before a' U = true := by
  simp only [vx_ot, Bool.or_eq_true] at hg
  rcases hg with hg | hg
  · exact va_tabs hg hvm h
  · exact word_at hW (good_of_word hg) h
/-- a list's words: the good ones out of the method's own list, the others by premises of their own -/
theorem vx_hat {args : Array Value} {s : State} {L B : List Cond} (h1 : ∀ w ∈ L.filter goodWord, w.before args s = true) (h2 : ∀ w ∈ L.filter (fun w => !goodWord w), w ∈ B) (h3 : ∀ w ∈ B, w.before args s = true) : ∀ w ∈ L, w.before args s = true := by
  intro w hw
  by_cases g : goodWord w = true
  · exact h1 w (List.mem_filter.mpr ⟨hw, g⟩)
  · refine h3 w (h2 w (List.mem_filter.mpr ⟨hw, ?_⟩))
    show (!goodWord w) = true
    cases hgw : goodWord w
    · rfl
    · exact absurd hgw g
theorem vx_c {args : Array Value} {s : State} {w : Cond} {B : List Cond} (h : w.before args s = true) (t : ∀ w ∈ B, w.before args s = true) : ∀ w' ∈ w :: B, w'.before args s = true := fun w' h' => (List.mem_cons.mp h').elim (fun e => by rw [e]; exact h) (t w')
theorem vx_n {args : Array Value} {s : State} : ∀ w ∈ ([] : List Cond), w.before args s = true := fun _ h => nomatch h
theorem vx_own {args : Array Value} {s : State} {L : List Cond} (h1 : ∀ w ∈ L.filter vx_no, w.before args s = true)
    (hU : (Cond.isRef (.static Bundle.tN "UNASSIGNED_STACK" Bundle.steD)).before args s = true) (hN : (Cond.isRef (.static Bundle.tN "SUPPRESSED_SENTINEL" Bundle.listD)).before args s = true)
    (lU : (Cond.laysStatic Bundle.tN "UNASSIGNED_STACK" Bundle.steD).before args s = true) (lN : (Cond.laysStatic Bundle.tN "SUPPRESSED_SENTINEL" Bundle.listD).before args s = true) : ∀ w ∈ L, w.before args s = true := by
  intro w hw
  by_cases e1 : w = .isRef (.static Bundle.tN "UNASSIGNED_STACK" Bundle.steD)
  · rw [e1]; exact hU
  · by_cases e2 : w = .isRef (.static Bundle.tN "SUPPRESSED_SENTINEL" Bundle.listD)
    · rw [e2]; exact hN
    · by_cases e3 : w = .laysStatic Bundle.tN "UNASSIGNED_STACK" Bundle.steD
      · rw [e3]; exact lU
      · by_cases e4 : w = .laysStatic Bundle.tN "SUPPRESSED_SENTINEL" Bundle.listD
        · rw [e4]; exact lN
        · exact h1 w (List.mem_filter.mpr ⟨hw, by unfold vx_no; rw [decide_eq_true e1, decide_eq_true e2, decide_eq_true e3, decide_eq_true e4]; rfl⟩)
/-- where a static field lies, its class's statics cell in H -/
def vx_L (C n d : String) (A : Nat → Prop) (U : State) (H : Heap) : Prop := ∃ (c : ClassId) (k : Class) (i : Nat) (f : Field) (a : Nat) (cell : Cell), U.vm.findClass C = some c ∧ U.fieldFound? C n d = some (c, k, i, f) ∧ f.isStatic = true ∧ k.statics = some a ∧ H[a]? = some cell ∧ cell.vm.isStatics = true ∧ cell.cls = c ∧ f.slot < cell.slots.size ∧ k.staticTypes[f.slot]? = some f.type ∧ ¬ A a
theorem vx_L.moved {C n d : String} {A : Nat → Prop} {u U : State} {H : Heap} (hvm : u.vm.Alike U.vm) (h : vx_L C n d A u H) : vx_L C n d A U H := by
  obtain ⟨c, k, i, f, a, cell, h1, h2, h3, h4, h5, h6, h7, h8, h9, h10⟩ := h
  obtain ⟨k', hi', he⟩ := State.fieldFound?_setVm hvm h2
  exact ⟨c, k', i, f, a, cell, by rw [hvm.findClass]; exact h1, hi', h3, by rw [he]; exact h4, h5, h6, h7, h8, by rw [he]; exact h9, h10⟩
theorem vx_L.kept {C n d : String} {A : Nat → Prop} {U : State} {H H1 : Heap} (h : vx_L C n d A U H) (hq : ∀ a : Nat, a < H.size → ¬ A a → H1[a]? = H[a]?) : vx_L C n d A U H1 := by
  obtain ⟨c, k, i, f, a, cell, h1, h2, h3, h4, h5, h6, h7, h8, h9, h10⟩ := h
  exact ⟨c, k, i, f, a, cell, h1, h2, h3, h4, by rw [hq a (Array.getElem?_eq_some_iff.mp h5).1 h10]; exact h5, h6, h7, h8, h9, h10⟩
theorem vx_L.narrow {C n d : String} {A B : Nat → Prop} {U : State} {H : Heap} (h : vx_L C n d A U H) (hAB : ∀ q, B q → A q) : vx_L C n d B U H := by
  obtain ⟨c, k, i, f, a, cell, h1, h2, h3, h4, h5, h6, h7, h8, h9, h10⟩ := h
  exact ⟨c, k, i, f, a, cell, h1, h2, h3, h4, h5, h6, h7, h8, h9, fun z => h10 (hAB _ z)⟩
theorem vx_L.word {C n d : String} {A : Nat → Prop} {s : State} {args : Array Value} (h : vx_L C n d A s s.heap) : (Cond.laysStatic C n d).before args s = true := by
  obtain ⟨c, k, i, f, a, cell, h1, h2, h3, h4, h5, h6, h7, h8, h9, -⟩ := h
  show (Cond.laysStatic C n d).holds args s none s [] = true
  exact Cond.laysStatic_of h1 h2 h3 h4 h5 h6 h7 h8 h9
/-- .. and what it holds: null or some reference -/
def vx_Zq (C n d : String) (A : Nat → Prop) (U : State) (H : Heap) : Prop := va_Zq C n d A U H ∧ vx_L C n d A U H
theorem vx_Zq.moved {C n d : String} {A : Nat → Prop} {u U : State} {H : Heap} (hvm : u.vm.Alike U.vm) (h : vx_Zq C n d A u H) : vx_Zq C n d A U H := ⟨va_Zq.moved hvm h.1, vx_L.moved hvm h.2⟩
theorem vx_Zq.kept {C n d : String} {A : Nat → Prop} {U : State} {H H1 : Heap} (h : vx_Zq C n d A U H) (hq : ∀ a : Nat, a < H.size → ¬ A a → H1[a]? = H[a]?) : vx_Zq C n d A U H1 := ⟨va_Zq.kept h.1 hq, vx_L.kept h.2 hq⟩
theorem vx_Zq.narrow {C n d : String} {A B : Nat → Prop} {U : State} {H : Heap} (h : vx_Zq C n d A U H) (hAB : ∀ q, B q → A q) : vx_Zq C n d B U H := ⟨va_Zq.narrow h.1 hAB, vx_L.narrow h.2 hAB⟩
theorem vx_Zqof {args : Array Value} {s : State} {C n d : String} {A : Nat → Prop} (hl : (Cond.laysStatic C n d).before args s = true) (hini : (Cond.initialized C).before args s = true) (h : (Cond.isRef (.static C n d)).before args s = true) (hA : ∀ a : Nat, a < s.heap.size → ¬ A a) : vx_Zq C n d A s s.heap := by
  refine ⟨va_Zqof hl hini h hA, ?_⟩
  obtain ⟨c, k, i, f, a, cell, h1, h2, h3, h4, h5, h6, h7, h8, h9⟩ := Cond.laysStatic_spec hl
  exact ⟨c, k, i, f, a, cell, h1, h2, h3, h4, h5, h6, h7, h8, h9, hA a (Array.getElem?_eq_some_iff.mp h5).1⟩
theorem vx_isRef {C n d : String} {v : Value} {A : Nat → Prop} {s : State} {args : Array Value} (h : va_Z C n d v A s s.heap) (hv : v.isRef = true) : (Cond.isRef (.static C n d)).before args s = true := by
  obtain ⟨cf, kf, fi, f, a, cell, h1, h2, h3, h4, h5, h6, h7, -⟩ := h
  have he : (Term.static C n d).eval args s none [] s = some v := by
    simp [Term.eval, State.fieldNamed?, h1, h2, h4, h5, h6, h7]
  simp only [Cond.before, Cond.holds, Cond.value, he]
  cases v <;> simp_all [Value.isRef]
theorem vx_isRefq {C n d : String} {A : Nat → Prop} {s : State} {args : Array Value} (h : va_Zq C n d A s s.heap) : (Cond.isRef (.static C n d)).before args s = true := by
  rcases h with h | ⟨t, h⟩
  · exact vx_isRef h rfl
  · exact vx_isRef h rfl
/-- the same frame, seen from here: as if the method were called anew in this heap -/
theorem vx_rebase {T : State} (X : Stand p l e R s m args below meth c T locs cells slots) {R' : Room} (hf : R'.frames ≤ R.frames) (hl : R'.locals ≤ R.locals) (hc : cells + R'.cells ≤ R.cells) (hs : slots + R'.slots ≤ R.slots) :
    Stand p l e R' ((T.setVm s.vm).setFrames (.invoking m args :: below)) m args below meth c T [] 0 0 := by
  have htop : (T.setVm s.vm).topJava?.isSome := X.here.top
  have hF : ((T.setVm s.vm).setFrames (.invoking m args :: below)).frames = .invoking m args :: below := State.frames_setFrames _ (State.cur_lt_of_top htop)
  obtain ⟨g₀, hg0⟩ := Option.isSome_iff_exists.mp htop
  obtain ⟨r, hr⟩ := State.topJava?_eq_some.mp hg0
  have hl9 : e.platform.stackLimits (T.setVm s.vm).me = e.platform.stackLimits s.me := X.limits
  have hb9 : (T.setVm s.vm).me.stackBytes = s.me.stackBytes := X.bytes
  refine ⟨X.admits, X.cas, X.clock, hF, ?_, X.hears, X.method, X.code, X.here, X.tail, X.warmed, ?_, ?_, ?_⟩
  · have h := X.room
    have hU : ((T.setVm s.vm).setFrames (.invoking m args :: below)).localsInUse = s.localsInUse := by
      rw [State.localsInUse_invoking hF (meth := meth) (c := c) X.method X.code, State.localsInUse_invoking X.frames X.method X.code]
    simp only [State.hasRoom, Bool.and_eq_true, decide_eq_true_eq] at h ⊢
    obtain ⟨⟨⟨⟨h1, h2, h3, h4, h5, h6⟩, h7⟩, h8⟩, h9⟩ := h
    rw [X.frames, List.length_cons] at h2 h3
    have q1 := X.heapSize
    have q2 := X.used
    simp only [hF, hU, List.length_cons, State.stackLimits_setFrames, State.stackBytes_setFrames, hl9, hb9]
    refine ⟨⟨⟨⟨by omega, by omega, by omega, by omega, by omega, h6⟩, ?_⟩, ?_⟩, X.book⟩
    · show T.heap.size + R'.cells ≤ e.platform.maxCells
      omega
    · show T.slotsUsed + R'.slots ≤ e.platform.maxSlots
      omega
  · rw [State.stackLimits_setFrames]; rfl
  · rw [State.stackBytes_setFrames]; rfl
  · refine ⟨?_, Nat.le_refl _, Nat.le_refl _, ?_, ?_, fun a c9 h9 => ⟨c9, h9, rfl, rfl, fun _ _ => rfl⟩⟩
    · obtain ⟨t, ht, -⟩ := State.frames_cons hr
      show T.setVm s.vm = { ((T.setVm s.vm).setFrames (.invoking m args :: below)).setFrames (T.setVm s.vm).frames with heap := T.heap, slotsUsed := T.slotsUsed }
      rw [State.setFrames_setFrames, State.setFrames_self ht]
      rfl
    · show T.slotsUsed = T.slotsUsed + ((T.heap.toList.drop T.heap.size).map (·.slots.size)).sum
      rw [List.drop_eq_nil_of_le (Nat.le_of_eq Array.length_toList)]
      rfl
    · show ((T.heap.toList.drop T.heap.size).map (·.slots.size)).sum ≤ 0
      rw [List.drop_eq_nil_of_le (Nat.le_of_eq Array.length_toList)]
      exact Nat.le_refl _
/-- 'throw new E()': new; dup; invokespecial; athrow -/
theorem vx_throw0 {cc : ByteArray} {pc : Nat} (hexec : p.tables.exec = Jvm.exec) (hb : c.code = cc) (hl : l.stackTraces = false) {own cls : String} {names : List String} {ik ic mc ms : Nat} {A : Nat → Prop}
    (hown : s.vm.findClass own = some m.cls) (hcls : Bundle.fit cls = true) (hnames : ∀ n ∈ names, Bundle.fit n = true)
    (hk : (Cond.classLink own ik cls).before args s = true) (hini : (Cond.initialized cls).before args s = true) (hat : ∀ w ∈ vx_at0 own ic cls names, w.before args s = true)
    (hgood : ∀ w ∈ Cond.classLink own ik cls :: Cond.initialized cls :: vx_at0 own ic cls names, vx_ot w = true)
    (hU : vx_Zq Bundle.tN "UNASSIGNED_STACK" Bundle.steD A s s.heap) (hN : vx_Zq Bundle.tN "SUPPRESSED_SENTINEL" Bundle.listD A s s.heap) (hS : va_S A s.heap H locs) (hsize : ls.size = c.maxLocals)
    (d0 : decode cc pc = .ok (.new ik, 3)) (d3 : decode cc (pc + 3) = .ok (.dup, 1)) (d4 : decode cc (pc + 4) = .ok (.invokespecial ic, 3)) (d7 : decode cc (pc + 7) = .ok (.athrow, 1))
    (hout : ∀ x ∈ c.exceptionTable.toList, covers x (pc + 7) = false)
    (hRframes : names.length + 3 < R.frames) (hRlocals : (rest.map fun v => v.category).sum + (13 * (names.length + 1) + 42) ≤ R.locals) (hRcells : cells + 1 ≤ R.cells) (hRslots : slots + 6 ≤ R.slots) (hlocks : meth.locks = false)
    (hx : ∀ t : State, s.vm.Alike t.vm → H.size ≤ t.heap.size → (∀ q : Nat, q < H.size → t.heap[q]? = H[q]?) → XC cls s t)
    (hf : ∀ z ∈ locs, free z.base) (hc : cells + 1 ≤ mc) (hs : slots + 6 ≤ ms) :
    W p l e R s m args below meth c H locs cells slots (vx_MQ below Qc XC args s mc ms free) (F0 m pc ls rest) := by
  intro T hT X
  have htr : e.platform.stackTraces = false := (show e.platform.stackTraces = l.stackTraces by rw [X.admits.platform]).trans hl
  have Y := vx_rebase X (R' := { frames := R.frames, locals := R.locals, cells := 1, slots := 6 }) (Nat.le_refl _) (Nat.le_refl _) hRcells hRslots
  obtain ⟨s', hA⟩ : ∃ z, z = (T.setVm s.vm).setFrames (.invoking m args :: below) := ⟨_, rfl⟩
  rw [← hA] at Y
  have hvm : s'.vm = s.vm := by rw [hA]; rfl
  have hhp : s'.heap = H := by rw [hA]; exact hT
  have hW0 : s.WarmedH s'.vm := by rw [hvm]; exact State.WarmedH.refl s
  have hat' : ∀ w ∈ vx_at0 own ic cls names, w.before args s' = true := fun w hw => vx_ot_at hW0 hvm.symm (hgood w (List.mem_cons_of_mem _ (List.mem_cons_of_mem _ hw))) (hat w hw)
  have hk' : (Cond.classLink own ik cls).before args s' = true := vx_ot_at hW0 hvm.symm (hgood _ List.mem_cons_self) hk
  have hini' : (Cond.initialized cls).before args s' = true := vx_ot_at hW0 hvm.symm (hgood _ (List.mem_cons_of_mem _ List.mem_cons_self)) hini
  have hU' : vx_Zq Bundle.tN "UNASSIGNED_STACK" Bundle.steD A s' s'.heap := by rw [hhp]; exact vx_Zq.moved hW0.alike (hU.kept hS.2.1)
  have hN' : vx_Zq Bundle.tN "SUPPRESSED_SENTINEL" Bundle.listD A s' s'.heap := by rw [hhp]; exact vx_Zq.moved hW0.alike (hN.kept hS.2.1)
  have h : ∀ w ∈ Bundle.ownAtoms0 own ic cls names, w.before args s' = true := vx_own hat' (vx_isRefq hU'.1) (vx_isRefq hN'.1) hU'.2.word hN'.2.word
  have hown' : s'.vm.findClass own = some m.cls := by rw [hvm]; exact hown
  have hins : (Cond.instantiable cls 6).before args s' = true := h _ (by simp [Bundle.ownAtoms0])
  obtain ⟨vm₁, cX, kX, hfX, hkX, -, -, X₁, st1⟩ := Y.newCold hexec (own := own) (C := cls) (index := ik) (n := 6) hown' hk' hins hini'
    (g := F0 m pc ls rest) rfl (by rw [hb]; exact d0) (Nat.le_refl _) (Nat.le_refl _)
  generalize hT1 : (T.setVm vm₁).pushCell { cls := cX, slots := kX.instanceTypes.map defaultValue, vm := .none } = T1 at X₁ st1
  have hcat : (Value.ref T.heap.size).category = 1 := rfl
  have hcellA : T1.heap[T.heap.size]? = some (freshCell cX kX) := by rw [← hT1]; exact State.heap_pushCell_size _ _
  have d3' : decode c.code (pc + 3) = .ok (.dup, 1) := by rw [hb]; exact d3
  obtain ⟨U, hsteps, hrun, hend, hW, hsame, ce, hce, hO⟩ := X₁.ctorThrow0 hexec htr (own := own) (cls := cls) (names := names) (ic := ic) hown' hcls hnames h (fun x hx => nomatch hx) hfX hkX hcellA (by rw [hhp, hT]; exact Nat.le_refl _)
    (g := { method := m, pc := pc + 4, locals := ls, stack := .ref T.heap.size :: .ref T.heap.size :: rest, locked := none }) rfl hsize rfl rfl (rest := rest) rfl
    (by rw [hb]; exact d4) (by rw [hb]; exact d7) hout hRframes (by simp only [List.map_cons, List.sum_cons, hcat]; omega) hlocks
  obtain ⟨f1, f2⟩ := vx_frame hsame
  rw [hhp] at f1 f2
  have hWs : s.WarmedH U.vm := State.WarmedH.trans hW0 hW
  have hcl : s.vm.findClass cls = some ce.cls := by
    have h9 := hO.cls
    rw [hvm] at h9
    exact h9
  have hall : s.sameButNew ({ U with vm := s.vm } : State) locs mc ms := by
    subst hA
    obtain ⟨e1, e2⟩ := hsame
    rw [State.setFrames_setFrames] at e1
    have h2 : (T.setVm s.vm).sameButNew ({ U with vm := s.vm } : State) [] (0 + 1) (0 + 6) := ⟨e1, e2⟩
    have h3 := X.same.trans h2
    rw [List.append_nil] at h3
    exact h3.mono hc hs
  refine ⟨U, ?_, .threw T.heap.size, hrun, hend, Or.inr ⟨T.heap.size, rfl, cls, ce, locs, hx U hWs.alike f1 (fun q hq => f2 q hq (fun z hz => nomatch hz)), hce, hO.vm, hcl, hWs, hall, hf⟩⟩
  refine st1 _ ?_
  show Steps p.tables e below (T1.setTop { method := m, pc := pc + 3, locals := ls, stack := .ref T.heap.size :: rest, locked := none }) _
  jvm_step X₁.here [X₁.here.top, hexec, d3', Value.category]
  exact hsteps
/-- 'throw new E("text")': new; dup; ldc; invokespecial; athrow -/
theorem vx_throwS {cc : ByteArray} {pc : Nat} (hexec : p.tables.exec = Jvm.exec) (hb : c.code = cc) (hl : l.stackTraces = false) {own cls text : String} {names : List String} {ik is ic mc ms sa : Nat} {A : Nat → Prop}
    (hown : s.vm.findClass own = some m.cls) (hcls : Bundle.fit cls = true) (hnames : ∀ n ∈ names, Bundle.fit n = true)
    (hk : (Cond.classLink own ik cls).before args s = true) (hini : (Cond.initialized cls).before args s = true) (hstr : vk_R own is text sa s) (hat : ∀ w ∈ vx_atS own ic cls names, w.before args s = true)
    (hgood : ∀ w ∈ Cond.classLink own ik cls :: Cond.initialized cls :: vx_atS own ic cls names, vx_ot w = true)
    (hU : vx_Zq Bundle.tN "UNASSIGNED_STACK" Bundle.steD A s s.heap) (hN : vx_Zq Bundle.tN "SUPPRESSED_SENTINEL" Bundle.listD A s s.heap) (hS : va_S A s.heap H locs) (hsize : ls.size = c.maxLocals)
    (d0 : decode cc pc = .ok (.new ik, 3)) (d3 : decode cc (pc + 3) = .ok (.dup, 1)) (d4 : decode cc (pc + 4) = .ok (.ldc is, 2)) (d6 : decode cc (pc + 6) = .ok (.invokespecial ic, 3)) (d9 : decode cc (pc + 9) = .ok (.athrow, 1))
    (hout : ∀ x ∈ c.exceptionTable.toList, covers x (pc + 9) = false)
    (hRframes : names.length + 3 < R.frames) (hRlocals : (rest.map fun v => v.category).sum + (13 * (names.length + 1) + 43) ≤ R.locals) (hRcells : cells + 1 ≤ R.cells) (hRslots : slots + 6 ≤ R.slots) (hlocks : meth.locks = false)
    (hx : ∀ t : State, s.vm.Alike t.vm → H.size ≤ t.heap.size → (∀ q : Nat, q < H.size → t.heap[q]? = H[q]?) → XC cls s t)
    (hf : ∀ z ∈ locs, free z.base) (hc : cells + 1 ≤ mc) (hs : slots + 6 ≤ ms) :
    W p l e R s m args below meth c H locs cells slots (vx_MQ below Qc XC args s mc ms free) (F0 m pc ls rest) := by
  intro T hT X
  have htr : e.platform.stackTraces = false := (show e.platform.stackTraces = l.stackTraces by rw [X.admits.platform]).trans hl
  have Y := vx_rebase X (R' := { frames := R.frames, locals := R.locals, cells := 1, slots := 6 }) (Nat.le_refl _) (Nat.le_refl _) hRcells hRslots
  obtain ⟨s', hA⟩ : ∃ z, z = (T.setVm s.vm).setFrames (.invoking m args :: below) := ⟨_, rfl⟩
  rw [← hA] at Y
  have hvm : s'.vm = s.vm := by rw [hA]; rfl
  have hhp : s'.heap = H := by rw [hA]; exact hT
  have hW0 : s.WarmedH s'.vm := by rw [hvm]; exact State.WarmedH.refl s
  have hat' : ∀ w ∈ vx_atS own ic cls names, w.before args s' = true := fun w hw => vx_ot_at hW0 hvm.symm (hgood w (List.mem_cons_of_mem _ (List.mem_cons_of_mem _ hw))) (hat w hw)
  have hk' : (Cond.classLink own ik cls).before args s' = true := vx_ot_at hW0 hvm.symm (hgood _ List.mem_cons_self) hk
  have hini' : (Cond.initialized cls).before args s' = true := vx_ot_at hW0 hvm.symm (hgood _ (List.mem_cons_of_mem _ List.mem_cons_self)) hini
  have hU' : vx_Zq Bundle.tN "UNASSIGNED_STACK" Bundle.steD A s' s'.heap := by rw [hhp]; exact vx_Zq.moved hW0.alike (hU.kept hS.2.1)
  have hN' : vx_Zq Bundle.tN "SUPPRESSED_SENTINEL" Bundle.listD A s' s'.heap := by rw [hhp]; exact vx_Zq.moved hW0.alike (hN.kept hS.2.1)
  have h : ∀ w ∈ Bundle.ownAtoms own ic cls names, w.before args s' = true := vx_own hat' (vx_isRefq hU'.1) (vx_isRefq hN'.1) hU'.2.word hN'.2.word
  have hown' : s'.vm.findClass own = some m.cls := by rw [hvm]; exact hown
  have hins : (Cond.instantiable cls 6).before args s' = true := h _ (by simp [Bundle.ownAtoms])
  obtain ⟨vm₁, cX, kX, hfX, hkX, -, -, X₁, st1⟩ := Y.newCold hexec (own := own) (C := cls) (index := ik) (n := 6) hown' hk' hins hini'
    (g := F0 m pc ls rest) rfl (by rw [hb]; exact d0) (Nat.le_refl _) (Nat.le_refl _)
  generalize hT1 : (T.setVm vm₁).pushCell { cls := cX, slots := kX.instanceTypes.map defaultValue, vm := .none } = T1 at X₁ st1
  have hcat : (Value.ref T.heap.size).category = 1 := rfl
  have hcellA : T1.heap[T.heap.size]? = some (freshCell cX kX) := by rw [← hT1]; exact State.heap_pushCell_size _ _
  have d3' : decode c.code (pc + 3) = .ok (.dup, 1) := by rw [hb]; exact d3
  have d4' : decode c.code (pc + 4) = .ok (.ldc is, 2) := by rw [hb]; exact d4
  have hstr' : vk_R own is text sa s' := vk_R.warm hW0 hstr
  obtain ⟨U, hsteps, hrun, hend, hW, hsame, ce, hce, hO⟩ := X₁.ctorThrowS hexec htr (own := own) (cls := cls) (names := names) (ic := ic) hown' hcls hnames h (fun x hx => nomatch hx) hfX hkX hcellA (by rw [hhp, hT]; exact Nat.le_refl _) (msg := .ref sa) rfl
    (g := { method := m, pc := pc + 6, locals := ls, stack := .ref sa :: .ref T.heap.size :: .ref T.heap.size :: rest, locked := none }) rfl hsize rfl rfl (rest := rest) rfl
    (by rw [hb]; exact d6) (by rw [hb]; exact d9) hout hRframes (by simp only [List.map_cons, List.sum_cons, hcat]; omega) hlocks
  obtain ⟨f1, f2⟩ := vx_frame hsame
  rw [hhp] at f1 f2
  have hWs : s.WarmedH U.vm := State.WarmedH.trans hW0 hW
  have hcl : s.vm.findClass cls = some ce.cls := by
    have h9 := hO.cls
    rw [hvm] at h9
    exact h9
  have hall : s.sameButNew ({ U with vm := s.vm } : State) locs mc ms := by
    subst hA
    obtain ⟨e1, e2⟩ := hsame
    rw [State.setFrames_setFrames] at e1
    have h2 : (T.setVm s.vm).sameButNew ({ U with vm := s.vm } : State) [] (0 + 1) (0 + 6) := ⟨e1, e2⟩
    have h3 := X.same.trans h2
    rw [List.append_nil] at h3
    exact h3.mono hc hs
  refine ⟨U, ?_, .threw T.heap.size, hrun, hend, Or.inr ⟨T.heap.size, rfl, cls, ce, locs, hx U hWs.alike f1 (fun q hq => f2 q hq (fun z hz => nomatch hz)), hce, hO.vm, hcl, hWs, hall, hf⟩⟩
  refine st1 _ ?_
  show Steps p.tables e below (T1.setTop { method := m, pc := pc + 3, locals := ls, stack := .ref T.heap.size :: rest, locked := none }) _
  jvm_step X₁.here [X₁.here.top, hexec, d3', Value.category]
  exact X₁.ldcString hexec (own := own) (text := text) (index := is) (a := sa) hown' hstr'.1 hstr'.2
    (g := { method := m, pc := pc + 4, locals := ls, stack := .ref T.heap.size :: .ref T.heap.size :: rest, locked := none }) rfl d4' _ hsteps
/-- 'throw new E("text")', the text by a wide index -/
theorem vx_throwSW {cc : ByteArray} {pc : Nat} (hexec : p.tables.exec = Jvm.exec) (hb : c.code = cc) (hl : l.stackTraces = false) {own cls text : String} {names : List String} {ik is ic mc ms sa : Nat} {A : Nat → Prop}
    (hown : s.vm.findClass own = some m.cls) (hcls : Bundle.fit cls = true) (hnames : ∀ n ∈ names, Bundle.fit n = true)
    (hk : (Cond.classLink own ik cls).before args s = true) (hini : (Cond.initialized cls).before args s = true) (hstr : vk_R own is text sa s) (hat : ∀ w ∈ vx_atS own ic cls names, w.before args s = true)
    (hgood : ∀ w ∈ Cond.classLink own ik cls :: Cond.initialized cls :: vx_atS own ic cls names, vx_ot w = true)
    (hU : vx_Zq Bundle.tN "UNASSIGNED_STACK" Bundle.steD A s s.heap) (hN : vx_Zq Bundle.tN "SUPPRESSED_SENTINEL" Bundle.listD A s s.heap) (hS : va_S A s.heap H locs) (hsize : ls.size = c.maxLocals)
    (d0 : decode cc pc = .ok (.new ik, 3)) (d3 : decode cc (pc + 3) = .ok (.dup, 1)) (d4 : decode cc (pc + 4) = .ok (.ldc_w is, 3)) (d7 : decode cc (pc + 7) = .ok (.invokespecial ic, 3)) (d10 : decode cc (pc + 10) = .ok (.athrow, 1))
    (hout : ∀ x ∈ c.exceptionTable.toList, covers x (pc + 10) = false)
    (hRframes : names.length + 3 < R.frames) (hRlocals : (rest.map fun v => v.category).sum + (13 * (names.length + 1) + 43) ≤ R.locals) (hRcells : cells + 1 ≤ R.cells) (hRslots : slots + 6 ≤ R.slots) (hlocks : meth.locks = false)
    (hx : ∀ t : State, s.vm.Alike t.vm → H.size ≤ t.heap.size → (∀ q : Nat, q < H.size → t.heap[q]? = H[q]?) → XC cls s t)
    (hf : ∀ z ∈ locs, free z.base) (hc : cells + 1 ≤ mc) (hs : slots + 6 ≤ ms) :
    W p l e R s m args below meth c H locs cells slots (vx_MQ below Qc XC args s mc ms free) (F0 m pc ls rest) := by
  intro T hT X
  have htr : e.platform.stackTraces = false := (show e.platform.stackTraces = l.stackTraces by rw [X.admits.platform]).trans hl
  have Y := vx_rebase X (R' := { frames := R.frames, locals := R.locals, cells := 1, slots := 6 }) (Nat.le_refl _) (Nat.le_refl _) hRcells hRslots
  obtain ⟨s', hA⟩ : ∃ z, z = (T.setVm s.vm).setFrames (.invoking m args :: below) := ⟨_, rfl⟩
  rw [← hA] at Y
  have hvm : s'.vm = s.vm := by rw [hA]; rfl
  have hhp : s'.heap = H := by rw [hA]; exact hT
  have hW0 : s.WarmedH s'.vm := by rw [hvm]; exact State.WarmedH.refl s
  have hat' : ∀ w ∈ vx_atS own ic cls names, w.before args s' = true := fun w hw => vx_ot_at hW0 hvm.symm (hgood w (List.mem_cons_of_mem _ (List.mem_cons_of_mem _ hw))) (hat w hw)
  have hk' : (Cond.classLink own ik cls).before args s' = true := vx_ot_at hW0 hvm.symm (hgood _ List.mem_cons_self) hk
  have hini' : (Cond.initialized cls).before args s' = true := vx_ot_at hW0 hvm.symm (hgood _ (List.mem_cons_of_mem _ List.mem_cons_self)) hini
  have hU' : vx_Zq Bundle.tN "UNASSIGNED_STACK" Bundle.steD A s' s'.heap := by rw [hhp]; exact vx_Zq.moved hW0.alike (hU.kept hS.2.1)
  have hN' : vx_Zq Bundle.tN "SUPPRESSED_SENTINEL" Bundle.listD A s' s'.heap := by rw [hhp]; exact vx_Zq.moved hW0.alike (hN.kept hS.2.1)
  have h : ∀ w ∈ Bundle.ownAtoms own ic cls names, w.before args s' = true := vx_own hat' (vx_isRefq hU'.1) (vx_isRefq hN'.1) hU'.2.word hN'.2.word
  have hown' : s'.vm.findClass own = some m.cls := by rw [hvm]; exact hown
  have hins : (Cond.instantiable cls 6).before args s' = true := h _ (by simp [Bundle.ownAtoms])
  obtain ⟨vm₁, cX, kX, hfX, hkX, -, -, X₁, st1⟩ := Y.newCold hexec (own := own) (C := cls) (index := ik) (n := 6) hown' hk' hins hini'
    (g := F0 m pc ls rest) rfl (by rw [hb]; exact d0) (Nat.le_refl _) (Nat.le_refl _)
  generalize hT1 : (T.setVm vm₁).pushCell { cls := cX, slots := kX.instanceTypes.map defaultValue, vm := .none } = T1 at X₁ st1
  have hcat : (Value.ref T.heap.size).category = 1 := rfl
  have hcellA : T1.heap[T.heap.size]? = some (freshCell cX kX) := by rw [← hT1]; exact State.heap_pushCell_size _ _
  have d3' : decode c.code (pc + 3) = .ok (.dup, 1) := by rw [hb]; exact d3
  have d4' : decode c.code (pc + 4) = .ok (.ldc_w is, 3) := by rw [hb]; exact d4
  have hstr' : vk_R own is text sa s' := vk_R.warm hW0 hstr
  obtain ⟨U, hsteps, hrun, hend, hW, hsame, ce, hce, hO⟩ := X₁.ctorThrowS hexec htr (own := own) (cls := cls) (names := names) (ic := ic) hown' hcls hnames h (fun x hx => nomatch hx) hfX hkX hcellA (by rw [hhp, hT]; exact Nat.le_refl _) (msg := .ref sa) rfl
    (g := { method := m, pc := pc + 7, locals := ls, stack := .ref sa :: .ref T.heap.size :: .ref T.heap.size :: rest, locked := none }) rfl hsize rfl rfl (rest := rest) rfl
    (by rw [hb]; exact d7) (by rw [hb]; exact d10) hout hRframes (by simp only [List.map_cons, List.sum_cons, hcat]; omega) hlocks
  obtain ⟨f1, f2⟩ := vx_frame hsame
  rw [hhp] at f1 f2
  have hWs : s.WarmedH U.vm := State.WarmedH.trans hW0 hW
  have hcl : s.vm.findClass cls = some ce.cls := by
    have h9 := hO.cls
    rw [hvm] at h9
    exact h9
  have hall : s.sameButNew ({ U with vm := s.vm } : State) locs mc ms := by
    subst hA
    obtain ⟨e1, e2⟩ := hsame
    rw [State.setFrames_setFrames] at e1
    have h2 : (T.setVm s.vm).sameButNew ({ U with vm := s.vm } : State) [] (0 + 1) (0 + 6) := ⟨e1, e2⟩
    have h3 := X.same.trans h2
    rw [List.append_nil] at h3
    exact h3.mono hc hs
  refine ⟨U, ?_, .threw T.heap.size, hrun, hend, Or.inr ⟨T.heap.size, rfl, cls, ce, locs, hx U hWs.alike f1 (fun q hq => f2 q hq (fun z hz => nomatch hz)), hce, hO.vm, hcl, hWs, hall, hf⟩⟩
  refine st1 _ ?_
  show Steps p.tables e below (T1.setTop { method := m, pc := pc + 3, locals := ls, stack := .ref T.heap.size :: rest, locked := none }) _
  jvm_step X₁.here [X₁.here.top, hexec, d3', Value.category]
  exact X₁.ldcStringW hexec (own := own) (text := text) (index := is) (a := sa) hown' hstr'.1 hstr'.2
    (g := { method := m, pc := pc + 4, locals := ls, stack := .ref T.heap.size :: .ref T.heap.size :: rest, locked := none }) rfl d4' _ hsteps
end Ends
section Bodies
variable {l : Launch}
theorem vx_ofW {y : MethodName} {ws ws' : List Cond} {rm : Room} {Pc : Array Value → State → Prop} {Qc : Array Value → State → Outcome → State → Prop} {XC : String → State → State → Prop} {mc ms : Nat} {free : Addr → Prop} {cc : ByteArray} {maxL : Nat} {ret : Option FieldType}
    (hy : plainName y.cls = true) (hw : ws = Cond.code y cc maxL ret :: ws')
    (body : ∀ p e s m args below meth c s₁, BodyLoose p l y (headSpec ws rm) cc maxL ret e s m args below meth c s₁ → c.maxLocals = maxL → (∀ x ∈ c.exceptionTable.toList, False) → Pc args s →
      W p l e (headSpec ws rm).room s m args below meth c s.heap [] 0 0 (vx_MQ below Qc XC args s mc ms free) (entryFrame m args maxL)) : vx_Met l y ws rm Pc Qc XC mc ms free := by
  refine MetFree.of_bodyS (code := cc) (maxLocals := maxL) (ret := ret) hy ?_ ?_
  · intro args s m h hn
    obtain ⟨meth, c, h1, h2, h3, h4, h5, h6, -, -⟩ := Cond.code_spec hn (atoms_spec (ws := ws) h _ (by rw [hw]; exact List.mem_cons_self))
    exact ⟨meth, c, h1, h2, h3, h4, h5, h6⟩
  · intro p e s m args below meth c s₁ B hml hP _
    have hh0 : s₁.heap = s.heap := by rw [B.state]; rfl
    have ht : ∀ x ∈ c.exceptionTable.toList, False := by
      obtain ⟨meth9, c9, h1, h2, -, -, -, -, h7, -⟩ := Cond.code_spec B.named (atoms_spec (ws := ws) B.pre _ (by rw [hw]; exact List.mem_cons_self))
      cases Option.some.inj (h1.symm.trans B.method)
      cases Option.some.inj (h2.symm.trans (Stand.of_body B).code)
      intro x hx
      rw [Array.isEmpty_iff.mp h7] at hx
      cases hx
    obtain ⟨t, a1, o, b1, b2, b3⟩ := body p e s m args below meth c s₁ B hml ht hP s₁ hh0 (Stand.of_body B)
    exact ⟨t, o, a1, b1, b2, b3⟩
/-- the table of a body with handlers -/
theorem vx_table {p : Program} {x y : MethodName} {S : Spec} {cc bytes : ByteArray} {maxL maxL' : Nat} {ret ret' : Option FieldType} {e : Env} {s s₁ : State} {m : MethodId} {args : Array Value} {below : List Frame} {meth : Method} {c : Code} {hh : List (Nat × Nat × Nat × Nat)}
    (B : BodyLoose p l y S cc maxL ret e s m args below meth c s₁) (h : (Cond.codeWith y bytes maxL' ret' hh).before args s = true) : c.exceptionTable.toList = tableOf hh := by
  obtain ⟨m9, meth9, c9, hn9, h1, h2, -, -, h6, -⟩ := Cond.codeWith_spec h
  cases Option.some.inj (hn9.symm.trans B.named)
  cases Option.some.inj (h1.symm.trans B.method)
  cases Option.some.inj (h2.symm.trans (Stand.of_body B).code)
  rw [← h6, table_eq]
end Bodies
end VXA
/-! ===== END ===== -/
/-! ===== BEGIN a static call of a method with an exception table ===== -/
section VXS
variable {p : Program} {l : Launch} {e : Env} {R : Room} {s : State} {m : MethodId} {args : Array Value} {below : List Frame} {meth : Method} {c : Code} {T : State} {H : Heap} {locs : List Loc} {cells slots : Nat}
abbrev vx_CSW (R : Room) (s : State) (args : Array Value) (own : String) (index : Nat) (y : MethodName) (bytes : ByteArray) (maxL : Nat) (ret : Option FieldType) (hh : List (Nat × Nat × Nat × Nat)) (ws : List Cond) (rm : Room) (mc ms n : Nat) : Prop :=
  (rm.cells = mc ∧ rm.slots = ms ∧ rm.frames + 1 ≤ R.frames ∧ 8 + (maxL + 11) + rm.locals ≤ R.locals ∧ (∀ w ∈ ws, ∀ (a' : Array Value) (U : State), s.WarmedH U.vm → w.before a' U = true) ∧ Cond.codeWith y bytes maxL ret hh ∈ ws) ∧
  (Cond.codeWith y bytes maxL ret hh).before args s = true ∧ (Cond.initialized y.cls).before args s = true ∧ (y.cls ≠ "java/lang/invoke/MethodHandle" ∧ y.cls ≠ "java/lang/invoke/VarHandle") ∧
  (∀ sig, parseMethodDescriptor y.desc = some sig → n = sig.parameters.length) ∧ (Cond.methodLink own index y).before args s = true ∧ (Cond.static y).before args s = true
theorem vx_cwSW {own : String} {index maxL mc ms : Nat} {y : MethodName} {bytes : ByteArray} {ret : Option FieldType} {hh : List (Nat × Nat × Nat × Nat)} {Ts ws ws' : List Cond} {rm : Room} (n : Nat) (ht : ∀ w ∈ Ts, w.before args s = true) (hT : GoodIn Ts (va_wsS own index y ws)) (hw : ws = Cond.codeWith y bytes maxL ret hh :: ws') (hrc : rm.cells = mc) (hrs : rm.slots = ms)
    (hd : y.cls ≠ "java/lang/invoke/MethodHandle" ∧ y.cls ≠ "java/lang/invoke/VarHandle" ∧ (parseMethodDescriptor y.desc).map (fun d => d.parameters.length) = some n) (hR : rm.frames + 1 ≤ R.frames ∧ 8 + (maxL + 11) + rm.locals ≤ R.locals) :
    vx_CSW R s args own index y bytes maxL ret hh ws rm mc ms n := by
  have ok : ∀ w ∈ va_wsS own index y ws, w.before args s = true := fun w h => ht w (hT w h).1
  have hG : GoodIn Ts ws := fun w h => hT w (by unfold va_wsS; exact List.mem_append_right _ h)
  have hc : Cond.codeWith y bytes maxL ret hh ∈ ws := by rw [hw]; exact List.mem_cons_self
  refine ⟨⟨hrc, hrs, hR.1, hR.2, pay_in ht hG, hc⟩, ht _ (hG _ hc).1, ok _ (by simp [va_wsS]), ⟨hd.1, hd.2.1⟩, fun sig h => ?_, ok _ (by simp [va_wsS]), ok _ (by simp [va_wsS])⟩
  have h2 := hd.2.2
  rw [h] at h2
  exact (Option.some.inj h2).symm
theorem vx_callSW (X : Stand p l e R s m args below meth c T locs cells slots) (hexec : p.tables.exec = Jvm.exec) {own : String} {index : Nat} {y : MethodName} {bytes : ByteArray} {maxL : Nat} {ret : Option FieldType} {hh : List (Nat × Nat × Nat × Nat)}
    (hown : s.vm.findClass own = some m.cls) (hlink : (Cond.methodLink own index y).before args s = true) (hstat : (Cond.static y).before args s = true) (hinit : (Cond.initialized y.cls).before args s = true)
    (hcode : (Cond.codeWith y bytes maxL ret hh).before args s = true) (hy : y.cls ≠ "java/lang/invoke/MethodHandle" ∧ y.cls ≠ "java/lang/invoke/VarHandle")
    {W9 : Nat} {Pre : Pt → Array Value → Prop} {Post : Pt → Array Value → Option Value → Pt → Prop} (hK : Back l R p e below s args y 3 W9 Pre Post)
    {g : JFrame} (hg : g.method = m) (hsize : g.locals.size = c.maxLocals) {argsL rest : List Value} (hlen : ∀ sig, parseMethodDescriptor y.desc = some sig → argsL.length = sig.parameters.length)
    (hstack : g.stack = argsL.reverse ++ rest) (hW : 2 * g.monitorRoom + (rest.map fun v => v.category).sum ≤ W9) (hdg : decode c.code g.pc = .ok (.invokestatic index, 3))
    (hpre : ∀ vm₁, s.WarmedH vm₁ → Pre ⟨T.setVm vm₁, locs, cells, slots⟩ argsL.toArray) :
    ∃ (v : Option Value) (vm₁ : Vm) (B : Pt), s.WarmedH vm₁ ∧ Stand p l e R s m args below meth c B.U B.locs B.cells B.slots ∧ Post ⟨T.setVm vm₁, locs, cells, slots⟩ argsL.toArray v B ∧
      ∀ target, Steps p.tables e below (B.U.setTop { g with pc := g.pc + 3, stack := v.toList ++ rest }) target → Steps p.tables e below (T.setTop g) target := by
  obtain ⟨mk, methM, cM, hnamed, hmethM, -, -, -, -, -, -, hsigM⟩ := Cond.codeWith_spec hcode
  have hstatic : methM.isStatic = true := Cond.static_spec hnamed hmethM hstat
  obtain ⟨kP, hkP, -⟩ := className_of_methodNamed hnamed
  have hinitP : kP.init = .initialized := Cond.initialized_spec (findClass_of_methodNamed hnamed) hkP hinit
  obtain ⟨vm₁, X₁, hstep₁⟩ := X.invokestatic hexec hown hlink hnamed hmethM hstatic hkP hinitP hy (g := g) hg (argsL := argsL) (rest := rest) (hlen _ hsigM) hstack hdg
  obtain ⟨v, B, X', hpost, hsteps⟩ := hK m meth c ⟨T.setVm vm₁, locs, cells, slots⟩ { g with stack := rest } (.invokestatic index) mk argsL.toArray X₁ hg hsize hdg hW (X₁.named hnamed) (hpre vm₁ X₁.warmed)
  exact ⟨v, vm₁, B, X₁.warmed, X', hpost, fun target h => hstep₁ _ fun acts => by rw [doInvoke_state]; exact hsteps.trans h⟩
theorem vx_runSW {y : MethodName} {bytes cc : ByteArray} {maxL nL mc ms n index : Nat} {ret : Option FieldType} {hh : List (Nat × Nat × Nat × Nat)} {ws : List Cond} {rm : Room} {Pc : Array Value → State → Prop} {Qc : Array Value → State → Outcome → State → Prop} {free : Addr → Prop} {Ts : List Cond} {own : String} {As rest : List Value} {g : JFrame}
    (S : CallFix p m c cc nL s args Ts own) (hM : Met l y ws rm Pc Qc mc ms free) (cw : vx_CSW R s args own index y bytes maxL ret hh ws rm mc ms n) (hp : PreS s H Pc As)
    (hg : g.method = m) (hn : As.length = n) (hsize : g.locals.size = nL) (hstack : g.stack = As.reverse ++ rest) (hW : 2 * g.monitorRoom + (rest.map fun v => v.category).sum ≤ 8) (hdg : decode cc g.pc = .ok (.invokestatic index, 3)) (hf : cells + mc ≤ R.cells ∧ slots + ms ≤ R.slots) :
    va_Run p l e R s m args below meth c H locs cells slots mc ms g rest (Qc As.toArray) (free) := by
  obtain ⟨⟨hrc, hrs, hfr, hlo, hws, hcw⟩, hcode, hini, hy, hlen, hl, hstt⟩ := cw
  have hK : Back l R p e below s args y 3 8 (PreOf R mc ms Pc) (PostOf Qc mc ms free) := va_backW (hh := hh) (bytes := bytes) (maxL := maxL) (ret := ret) hM hp.1 hrc hrs hfr hlo hws hcw (fun a' U hW => word_at hW (Or.inl (by first | rfl | simp [Cond.onTables, Cond.keeps, Cond.steady])) hini)
  obtain ⟨hx, hb, hml, ho, -⟩ := S
  intro T hT X
  obtain ⟨v, vm₁, ⟨U', l2, c2, s2⟩, hW₁, X', ⟨g', mk, t, L, e1, e2, hq, h1, hL, h2, h3⟩, st⟩ := vx_callSW X hx (hh := hh) (bytes := bytes) (maxL := maxL) (ret := ret) ho hl hstt hini hcode hy hK hg (hsize.trans hml.symm) (argsL := As) (rest := rest) (fun sig h => hn.trans (hlen sig h)) hstack hW (by rw [hb]; exact hdg)
    (fun vm₁ hW₁ => ⟨hf.1, hf.2, hp.2 (T.setVm vm₁) hT hW₁⟩)
  dsimp only [Pt.U, Pt.locs, Pt.cells, Pt.slots] at X' e1 e2 h1 h2 h3 st
  subst h1; subst h2; subst h3
  exact ⟨v, (T.setVm vm₁).calling g' mk As.toArray, t, U', L, hT, X', hL, e1, e2, hq, st⟩
/-- not caught here, past rows that name other classes: it goes on to the caller -/
theorem vx_outP {p : Program} {l : Launch} {e : Env} {R : Room} {s : State} {m : MethodId} {args : Array Value} {below : List Frame} {meth : Method} {c : Code} {H : Heap} {locs : List Loc} {cells slots : Nat} {free : Addr → Prop} {ls : Array Slot} {rest : List Value} {Qc : Array Value → State → Outcome → State → Prop} {XC : String → State → State → Prop}
    {pc : Nat} {own E : String} {ce : Cell} {q : Addr} {mc ms : Nat} (hown : s.vm.findClass own = some m.cls) (hlocks : meth.locks = false)
    (hpass : ∀ z ∈ c.exceptionTable.toList, covers z pc = false ∨ (z.catchType ≠ 0 ∧ ∃ nm : String, (Cond.classLink own z.catchType nm).before args s = true ∧ va_Nc E nm s)) (hcell : H[q]? = some ce) (hv : ce.vm = .none) (hcl : s.vm.findClass E = some ce.cls)
    (hx : ∀ t : State, t.heap = H → s.vm.Alike t.vm → XC E s t) (hf : ∀ z ∈ locs, free z.base) (hc : cells ≤ mc) (hs : slots ≤ ms) :
    vx_W p l e R s m args below meth c H locs cells slots (vx_MQ below Qc XC args s mc ms free) (F0 m pc ls rest) q := by
  intro T hT X
  have hpl : e.platform.magicAccessors = ({} : Platform).magicAccessors := by rw [X.admits.platform]
  obtain ⟨vm', hW', X', st⟩ := X.outThrough hlocks q (g := F0 m pc ls rest) rfl rfl rfl (cell := ce) (by rw [hT]; exact hcell) (by rw [hv]; rfl)
    (by obtain ⟨k9, h9, -⟩ := Vm.findClass_spec hcl; exact ⟨k9, h9⟩) (fun z hz => by
      rcases hpass z hz with h | ⟨hz0, nm, hl1, hn1⟩
      · exact Or.inl h
      · obtain ⟨c6, hc6, hcl6⟩ := Cond.classLink_spec hown hl1 e.platform hpl
        obtain ⟨a8, b8, h1, h2, h3⟩ := hn1
        cases Option.some.inj (h1.symm.trans hcl)
        cases Option.some.inj (h2.symm.trans hc6)
        exact Or.inr ⟨hz0, _, hcl6, h3⟩)
  obtain ⟨g₀, hfr⟩ := X'.frames_eq
  have hcell9 : ((T.setVm vm').setFrames (.throwing q :: below)).heap[q]? = some ce := by
    show T.heap[q]? = some ce
    rw [hT]; exact hcell
  have hend : Ended ((T.setVm vm').setFrames (.throwing q :: below)) below (.threw q) := State.frames_setFrames _ (State.cur_lt_of_frames hfr)
  refine ⟨(T.setVm vm').setFrames (.throwing q :: below), ?_, .threw q, X'.here.running, hend, Or.inr ⟨q, rfl, E, ce, locs, hx _ hT (X'.ends _).1.alike, hcell9, hv, hcl, (X'.ends _).1, (X'.ends _).2.mono hc hs, hf⟩⟩
  rw [X.pushThrowing_eq]
  exact st
/-- a thing of a world lies in the heap -/
theorem vx_lt {D : va_G} {cl : List vw_C} {ws : va_W} {H1 : Heap} (h : va_P D cl ws H1) {k : Nat} {q : Nat × va_E} (hk : ws[k]? = some q) : q.1 < H1.size := (h k q hk).lt
end VXS
/-! ===== END ===== -/
/-! ===== BEGIN methods with a table of their own: called by a name, returning or throwing ===== -/
section VXH
/-! vx_backW, vx_callVX, vx_callSX, vx_callVW, vx_runVW, vx_runVX, vx_runSX, vx_ofWH follow the same proofs as their sisters above (Free/Laws.lean, Shelf42/LK1.lean); vx_outP calls Shelf42/NT130.lean (outThrough). -/
section
variable {l : Launch} {R : Room} {p : Program} {e : Env} {below : List Frame} {s : State} {sargs : Array Value} {y : MethodName} {len W9 : Nat}
theorem vx_backW {ws : List Cond} {rm : Room} {Pc : Array Value → State → Prop} {Qc : Array Value → State → Outcome → State → Prop} {XC : String → State → State → Prop} {mc ms : Nat} {free : Addr → Prop} {bytes : ByteArray} {maxL : Nat} {ret : Option FieldType} {hh : List (Nat × Nat × Nat × Nat)}
    (hM : vx_Met l y ws rm Pc Qc XC mc ms free) (hblind : FrameBlind Pc) (hrc : rm.cells = mc) (hrs : rm.slots = ms)
    (hframes : rm.frames + 1 ≤ R.frames) (hlocals : W9 + (maxL + 11) + rm.locals ≤ R.locals)
    (hws : ∀ w ∈ ws, ∀ a' U, s.WarmedH U.vm → w.before a' U = true) (hcode : Cond.codeWith y bytes maxL ret hh ∈ ws) (hinit : ∀ a' U, s.WarmedH U.vm → (Cond.initialized y.cls).before a' U = true) :
    vx_Back l R p e below s sargs y len W9 (PreOf R mc ms Pc) (PostOf Qc mc ms free) (vx_Post XC mc ms free) := by
  intro m meth c A g ig mk a X hg hsize hdg hW hn hp
  have h1 : (headSpec ws rm).pre.before a A.U = true := atoms_intro fun w hw => hws w hw _ _ X.warmed
  have h2 : (Cond.codeWith y bytes maxL ret hh).before a A.U = true := hws _ hcode _ _ X.warmed
  have h3 : (Cond.initialized y.cls).before a A.U = true := hinit _ _ X.warmed
  have h4 : A.cells + (headSpec ws rm).room.cells ≤ R.cells := by rw [show (headSpec ws rm).room.cells = mc from hrc]; exact hp.1
  have h5 : A.slots + (headSpec ws rm).room.slots ≤ R.slots := by rw [show (headSpec ws rm).room.slots = ms from hrs]; exact hp.2.1
  have hPc : Pc a (A.U.calling g mk a) := hblind _ _ _ _ hp.2.2
  obtain ⟨U, Ls, c0, s0⟩ := A
  dsimp only [Pt.U, Pt.locs, Pt.cells, Pt.slots] at h1 h2 h3 h4 h5 X hn hPc ⊢
  obtain ⟨m9, methY, cY, hn9, hmY, hcY, -, hlY, -⟩ := Cond.codeWith_spec h2
  cases Option.some.inj (hn9.symm.trans hn)
  obtain ⟨kY, hkY, -⟩ := className_of_methodNamed hn
  have hinitY : kY.init = .initialized := Cond.initialized_spec (findClass_of_methodNamed hn) hkY h3
  have h : At U g.method c below := by rw [hg]; exact X.here
  have hlocals9 : W9 + (maxL + 11) + (headSpec ws rm).room.locals ≤ R.locals := hlocals
  have happ : (headSpec ws rm).appliesLoose y e.platform (U.calling g mk a) = true :=
    Spec.appliesLoose_calling (g := g) h hdg hn hkY hinitY
      (X.room_calling (g := g) (R' := (headSpec ws rm).room) hsize hmY hcY hframes (by rw [hlY]; omega) h4 h5) h1
  obtain ⟨mid, hmid⟩ := h.above
  have hfr : (U.setTop g).frames = (.java g :: mid) ++ below := by rw [State.frames_setTop' g h.top, hmid]; rfl
  obtain ⟨o, s₂, hsteps, -, hend, hq⟩ := Steps.callFree hM p X.admits X.cas X.clock (acts := []) hfr happ hPc trivial
  have hq' : vx_Q Qc XC mc ms free a (U.calling g mk a) o s₂ := hq
  rw [State.frames_setTop' g h.top] at hend
  obtain ⟨g₀, hg0⟩ := Option.isSome_iff_exists.mp h.top
  obtain ⟨r, hr⟩ := State.topJava?_eq_some.mp hg0
  have hr' : (({ U with heap := s₂.heap, slotsUsed := s₂.slotsUsed } : State).setVm s₂.vm).frames = .java g₀ :: r := hr
  rcases hq' with ⟨hqc, L, hfe, hL⟩ | ⟨q, rfl, E, ce, L, hx, hce, hcv, hcl, hW₂, hsm, hL⟩
  · obtain ⟨⟨v, rfl⟩, hW₂, e2, q2, q3, q4, q5, q6⟩ := id hfe
    have e3 : s₂ = ({ (U.calling g mk a).setFrames s₂.frames with heap := s₂.heap, slotsUsed := s₂.slotsUsed } : State).setVm s₂.vm := by
      have : s₂ = ({ s₂ with vm := (U.calling g mk a).vm } : State).setVm s₂.vm := rfl
      rw [e2] at this
      exact this
    obtain ⟨c₂, i₂, len₂, hc₂, hd₂, hf₂⟩ := hend
    have hW' : U.WarmedH s₂.vm := hW₂
    have hcc : c₂ = c := by
      have h1 : s₂.code? g.method = U.code? g.method := by
        rw [State.code?_eq, State.code?_eq, hW'.alike.method?]
      exact Option.some.inj (hc₂.symm.trans (h1.trans h.code))
    subst hcc
    have hlen : len₂ = len := by rw [hdg] at hd₂; cases hd₂; rfl
    subst hlen
    have hs₂ : s₂ = (({ U with heap := s₂.heap, slotsUsed := s₂.slotsUsed } : State).setVm s₂.vm).setTop { g with pc := g.pc + len₂, stack := v.toList ++ g.stack } := by
      refine e3.trans ?_
      rw [hf₂, State.calling_eq h.top, State.setFrames_setFrames, State.setTop_of_frames _ hr', hr]
      rfl
    have hsame : U.sameButNew ({ U with heap := s₂.heap, slotsUsed := s₂.slotsUsed } : State) L mc ms := by
      refine ⟨?_, q2, q3, q4, q5, q6⟩
      obtain ⟨t, ht, -⟩ := State.frames_cons hr
      show ({ U with heap := s₂.heap, slotsUsed := s₂.slotsUsed } : State) = { U.setFrames U.frames with heap := s₂.heap, slotsUsed := s₂.slotsUsed }
      rw [State.setFrames_self ht]
    subst hg
    refine Or.inl ⟨v, ⟨(({ U with heap := s₂.heap, slotsUsed := s₂.slotsUsed } : State).setVm s₂.vm), Ls ++ L, c0 + mc, s0 + ms⟩,
      ⟨X.admits, X.cas, X.clock, X.frames, X.room, X.hears, X.method, X.code, (X.here.setHeapUsed s₂.heap s₂.slotsUsed).setVm hW'.alike, X.tail, State.WarmedH.trans X.warmed hW', X.limits, X.bytes, X.same.trans (hsame.setVm s.vm)⟩,
      ⟨g, mk, s₂, L, rfl, rfl, hqc, rfl, hL, rfl, rfl⟩, ?_⟩
    show Steps p.tables e below _ ((({ U with heap := s₂.heap, slotsUsed := s₂.slotsUsed } : State).setVm s₂.vm).setTop { g with pc := g.pc + len₂, stack := v.toList ++ g.stack })
    rw [← hs₂]
    exact hsteps
  · obtain ⟨e2, q2, q3, q4, q5, q6⟩ := id hsm
    have e3 : s₂ = ({ (U.calling g mk a).setFrames s₂.frames with heap := s₂.heap, slotsUsed := s₂.slotsUsed } : State).setVm s₂.vm := by
      have : s₂ = ({ s₂ with vm := (U.calling g mk a).vm } : State).setVm s₂.vm := rfl
      rw [e2] at this
      exact this
    have hf₂ : s₂.frames = .throwing q :: .java g :: U.frames.tail := hend
    have hW' : U.WarmedH s₂.vm := hW₂
    have hs₂ : s₂ = ((({ U with heap := s₂.heap, slotsUsed := s₂.slotsUsed } : State).setVm s₂.vm).setTop g).pushFrame (.throwing q) := by
      refine e3.trans ?_
      rw [hf₂, State.calling_eq h.top, State.setFrames_setFrames, State.pushFrame, State.frames_setTop _ hr', State.setTop_of_frames _ hr', State.setFrames_setFrames, hr]
      rfl
    have hsame : U.sameButNew ({ U with heap := s₂.heap, slotsUsed := s₂.slotsUsed } : State) L mc ms := by
      refine ⟨?_, q2, q3, q4, q5, q6⟩
      obtain ⟨t, ht, -⟩ := State.frames_cons hr
      show ({ U with heap := s₂.heap, slotsUsed := s₂.slotsUsed } : State) = { U.setFrames U.frames with heap := s₂.heap, slotsUsed := s₂.slotsUsed }
      rw [State.setFrames_self ht]
    subst hg
    refine Or.inr ⟨q, ⟨(({ U with heap := s₂.heap, slotsUsed := s₂.slotsUsed } : State).setVm s₂.vm), Ls ++ L, c0 + mc, s0 + ms⟩,
      ⟨X.admits, X.cas, X.clock, X.frames, X.room, X.hears, X.method, X.code, (X.here.setHeapUsed s₂.heap s₂.slotsUsed).setVm hW'.alike, X.tail, State.WarmedH.trans X.warmed hW', X.limits, X.bytes, X.same.trans (hsame.setVm s.vm)⟩,
      ⟨g, mk, s₂, L, E, ce, rfl, rfl, hx, hce, hcv, hcl, rfl, hL, rfl, rfl⟩, ?_⟩
    show Steps p.tables e below _ (((({ U with heap := s₂.heap, slotsUsed := s₂.slotsUsed } : State).setVm s₂.vm).setTop g).pushFrame (.throwing q))
    rw [← hs₂]
    exact hsteps
end
variable {p : Program} {l : Launch} {e : Env} {R : Room} {s : State} {m : MethodId} {args : Array Value} {below : List Frame} {meth : Method} {c : Code} {T : State} {H : Heap} {locs : List Loc} {cells slots : Nat}
theorem vx_callVX (X : Stand p l e R s m args below meth c T locs cells slots) (hexec : p.tables.exec = Jvm.exec) {own C : String} {index : Nat} {y : MethodName} {bytes : ByteArray} {maxL : Nat} {ret : Option FieldType} {hh : List (Nat × Nat × Nat × Nat)}
    (hown : s.vm.findClass own = some m.cls) (hlink : (Cond.methodLink own index y).before args s = true) (hinst : (Cond.instanceMethod y).before args s = true) (hsel : (Cond.selects C y y).before args s = true)
    (hcode : (Cond.codeWith y bytes maxL ret hh).before args s = true) (hy : y.cls ≠ "java/lang/invoke/MethodHandle" ∧ y.cls ≠ "java/lang/invoke/VarHandle")
    {W9 : Nat} {Pre : Pt → Array Value → Prop} {Post : Pt → Array Value → Option Value → Pt → Prop} {PostX : Pt → Array Value → Addr → Pt → Prop} (hK : vx_Back l R p e below s args y 3 W9 Pre Post PostX)
    {b : Addr} {cellB : Cell} (hcell : T.heap[b]? = some cellB) (hobj : cellB.vm.isStatics = false) (hcls : s.vm.findClass C = some cellB.cls)
    {g : JFrame} (hg : g.method = m) (hsize : g.locals.size = c.maxLocals) {argsL rest : List Value} (hlen : ∀ sig, parseMethodDescriptor y.desc = some sig → argsL.length = sig.parameters.length)
    (hstack : g.stack = argsL.reverse ++ .ref b :: rest) (hW : 2 * g.monitorRoom + (rest.map fun v => v.category).sum ≤ W9) (hdg : decode c.code g.pc = .ok (.invokevirtual index, 3))
    (hpre : ∀ vm₁, s.WarmedH vm₁ → Pre ⟨T.setVm vm₁, locs, cells, slots⟩ (Value.ref b :: argsL).toArray) :
    (∃ (v : Option Value) (vm₁ : Vm) (B : Pt), s.WarmedH vm₁ ∧ Stand p l e R s m args below meth c B.U B.locs B.cells B.slots ∧ Post ⟨T.setVm vm₁, locs, cells, slots⟩ (Value.ref b :: argsL).toArray v B ∧
      ∀ target, Steps p.tables e below (B.U.setTop { g with pc := g.pc + 3, stack := v.toList ++ rest }) target → Steps p.tables e below (T.setTop g) target) ∨
    (∃ (q : Addr) (vm₁ : Vm) (B : Pt), s.WarmedH vm₁ ∧ Stand p l e R s m args below meth c B.U B.locs B.cells B.slots ∧ PostX ⟨T.setVm vm₁, locs, cells, slots⟩ (Value.ref b :: argsL).toArray q B ∧
      Steps p.tables e below (T.setTop g) ((B.U.setTop { g with stack := rest }).pushFrame (.throwing q))) := by
  obtain ⟨mk, methM, hnamed, hmethM, hstM, habM⟩ := Cond.instanceMethod_spec hinst
  obtain ⟨m8, methM', cM, hn8, hmethM', -, -, -, -, -, -, hsigM⟩ := Cond.codeWith_spec hcode
  cases Option.some.inj (hn8.symm.trans hnamed)
  cases hmethM.symm.trans hmethM'
  obtain ⟨c2, r2, m2, q1, q2, q3, q4, kP, hkP, hkPi⟩ := Cond.selects_spec hsel
  cases hcls.symm.trans q1
  cases (State.methodFound?_of_named hnamed hy).symm.trans q2
  cases hnamed.symm.trans q3
  have hselP : selectMethod e.platform s.vm cellB.cls mk = .method mk := by rw [Launch.admits_selectMethod X.admits]; exact q4
  obtain ⟨vm₁, X₁, hstep₁⟩ := X.invokevirtual hexec hown hlink hnamed hmethM hstM hkP hkPi hy (a := b) (cell := cellB) hcell
    (fun z h => by rw [h] at hobj; cases hobj) hselP hmethM habM hkP hkPi (g := g) hg (argsL := argsL) (rest := rest) (hlen _ hsigM) hstack hdg
  rcases hK m meth c ⟨T.setVm vm₁, locs, cells, slots⟩ { g with stack := rest } (.invokevirtual index) mk (Value.ref b :: argsL).toArray X₁ hg hsize hdg hW (X₁.named hnamed) (hpre vm₁ X₁.warmed) with ⟨v, B, X', hpost, hsteps⟩ | ⟨q, B, X', hpost, hsteps⟩
  · exact Or.inl ⟨v, vm₁, B, X₁.warmed, X', hpost, fun target h => hstep₁ _ fun acts => by rw [doInvoke_state]; exact hsteps.trans h⟩
  · exact Or.inr ⟨q, vm₁, B, X₁.warmed, X', hpost, hstep₁ _ fun acts => by rw [doInvoke_state]; exact hsteps⟩
theorem vx_callSX (X : Stand p l e R s m args below meth c T locs cells slots) (hexec : p.tables.exec = Jvm.exec) {own : String} {index : Nat} {y : MethodName} {bytes : ByteArray} {maxL : Nat} {ret : Option FieldType} {hh : List (Nat × Nat × Nat × Nat)}
    (hown : s.vm.findClass own = some m.cls) (hlink : (Cond.methodLink own index y).before args s = true) (hstat : (Cond.static y).before args s = true) (hinit : (Cond.initialized y.cls).before args s = true)
    (hcode : (Cond.codeWith y bytes maxL ret hh).before args s = true) (hy : y.cls ≠ "java/lang/invoke/MethodHandle" ∧ y.cls ≠ "java/lang/invoke/VarHandle")
    {W9 : Nat} {Pre : Pt → Array Value → Prop} {Post : Pt → Array Value → Option Value → Pt → Prop} {PostX : Pt → Array Value → Addr → Pt → Prop} (hK : vx_Back l R p e below s args y 3 W9 Pre Post PostX)
    {g : JFrame} (hg : g.method = m) (hsize : g.locals.size = c.maxLocals) {argsL rest : List Value} (hlen : ∀ sig, parseMethodDescriptor y.desc = some sig → argsL.length = sig.parameters.length)
    (hstack : g.stack = argsL.reverse ++ rest) (hW : 2 * g.monitorRoom + (rest.map fun v => v.category).sum ≤ W9) (hdg : decode c.code g.pc = .ok (.invokestatic index, 3))
    (hpre : ∀ vm₁, s.WarmedH vm₁ → Pre ⟨T.setVm vm₁, locs, cells, slots⟩ argsL.toArray) :
    (∃ (v : Option Value) (vm₁ : Vm) (B : Pt), s.WarmedH vm₁ ∧ Stand p l e R s m args below meth c B.U B.locs B.cells B.slots ∧ Post ⟨T.setVm vm₁, locs, cells, slots⟩ argsL.toArray v B ∧
      ∀ target, Steps p.tables e below (B.U.setTop { g with pc := g.pc + 3, stack := v.toList ++ rest }) target → Steps p.tables e below (T.setTop g) target) ∨
    (∃ (q : Addr) (vm₁ : Vm) (B : Pt), s.WarmedH vm₁ ∧ Stand p l e R s m args below meth c B.U B.locs B.cells B.slots ∧ PostX ⟨T.setVm vm₁, locs, cells, slots⟩ argsL.toArray q B ∧
      Steps p.tables e below (T.setTop g) ((B.U.setTop { g with stack := rest }).pushFrame (.throwing q))) := by
  obtain ⟨mk, methM, cM, hnamed, hmethM, -, -, -, -, -, -, hsigM⟩ := Cond.codeWith_spec hcode
  have hstatic : methM.isStatic = true := Cond.static_spec hnamed hmethM hstat
  obtain ⟨kP, hkP, -⟩ := className_of_methodNamed hnamed
  have hinitP : kP.init = .initialized := Cond.initialized_spec (findClass_of_methodNamed hnamed) hkP hinit
  obtain ⟨vm₁, X₁, hstep₁⟩ := X.invokestatic hexec hown hlink hnamed hmethM hstatic hkP hinitP hy (g := g) hg (argsL := argsL) (rest := rest) (hlen _ hsigM) hstack hdg
  rcases hK m meth c ⟨T.setVm vm₁, locs, cells, slots⟩ { g with stack := rest } (.invokestatic index) mk argsL.toArray X₁ hg hsize hdg hW (X₁.named hnamed) (hpre vm₁ X₁.warmed) with ⟨v, B, X', hpost, hsteps⟩ | ⟨q, B, X', hpost, hsteps⟩
  · exact Or.inl ⟨v, vm₁, B, X₁.warmed, X', hpost, fun target h => hstep₁ _ fun acts => by rw [doInvoke_state]; exact hsteps.trans h⟩
  · exact Or.inr ⟨q, vm₁, B, X₁.warmed, X', hpost, hstep₁ _ fun acts => by rw [doInvoke_state]; exact hsteps⟩
theorem vx_callVW (X : Stand p l e R s m args below meth c T locs cells slots) (hexec : p.tables.exec = Jvm.exec) {own C : String} {index : Nat} {y : MethodName} {bytes : ByteArray} {maxL : Nat} {ret : Option FieldType} {hh : List (Nat × Nat × Nat × Nat)}
    (hown : s.vm.findClass own = some m.cls) (hlink : (Cond.methodLink own index y).before args s = true) (hinst : (Cond.instanceMethod y).before args s = true) (hsel : (Cond.selects C y y).before args s = true)
    (hcode : (Cond.codeWith y bytes maxL ret hh).before args s = true) (hy : y.cls ≠ "java/lang/invoke/MethodHandle" ∧ y.cls ≠ "java/lang/invoke/VarHandle")
    {W9 : Nat} {Pre : Pt → Array Value → Prop} {Post : Pt → Array Value → Option Value → Pt → Prop} (hK : Back l R p e below s args y 3 W9 Pre Post)
    {b : Addr} {cellB : Cell} (hcell : T.heap[b]? = some cellB) (hobj : cellB.vm.isStatics = false) (hcls : s.vm.findClass C = some cellB.cls)
    {g : JFrame} (hg : g.method = m) (hsize : g.locals.size = c.maxLocals) {argsL rest : List Value} (hlen : ∀ sig, parseMethodDescriptor y.desc = some sig → argsL.length = sig.parameters.length)
    (hstack : g.stack = argsL.reverse ++ .ref b :: rest) (hW : 2 * g.monitorRoom + (rest.map fun v => v.category).sum ≤ W9) (hdg : decode c.code g.pc = .ok (.invokevirtual index, 3))
    (hpre : ∀ vm₁, s.WarmedH vm₁ → Pre ⟨T.setVm vm₁, locs, cells, slots⟩ (Value.ref b :: argsL).toArray) :
    ∃ (v : Option Value) (vm₁ : Vm) (B : Pt), s.WarmedH vm₁ ∧ Stand p l e R s m args below meth c B.U B.locs B.cells B.slots ∧ Post ⟨T.setVm vm₁, locs, cells, slots⟩ (Value.ref b :: argsL).toArray v B ∧
      ∀ target, Steps p.tables e below (B.U.setTop { g with pc := g.pc + 3, stack := v.toList ++ rest }) target → Steps p.tables e below (T.setTop g) target := by
  obtain ⟨mk, methM, hnamed, hmethM, hstM, habM⟩ := Cond.instanceMethod_spec hinst
  obtain ⟨m8, methM', cM, hn8, hmethM', -, -, -, -, -, -, hsigM⟩ := Cond.codeWith_spec hcode
  cases Option.some.inj (hn8.symm.trans hnamed)
  cases hmethM.symm.trans hmethM'
  obtain ⟨c2, r2, m2, q1, q2, q3, q4, kP, hkP, hkPi⟩ := Cond.selects_spec hsel
  cases hcls.symm.trans q1
  cases (State.methodFound?_of_named hnamed hy).symm.trans q2
  cases hnamed.symm.trans q3
  have hselP : selectMethod e.platform s.vm cellB.cls mk = .method mk := by rw [Launch.admits_selectMethod X.admits]; exact q4
  obtain ⟨vm₁, X₁, hstep₁⟩ := X.invokevirtual hexec hown hlink hnamed hmethM hstM hkP hkPi hy (a := b) (cell := cellB) hcell
    (fun z h => by rw [h] at hobj; cases hobj) hselP hmethM habM hkP hkPi (g := g) hg (argsL := argsL) (rest := rest) (hlen _ hsigM) hstack hdg
  obtain ⟨v, B, X', hpost, hsteps⟩ := hK m meth c ⟨T.setVm vm₁, locs, cells, slots⟩ { g with stack := rest } (.invokevirtual index) mk (Value.ref b :: argsL).toArray X₁ hg hsize hdg hW (X₁.named hnamed) (hpre vm₁ X₁.warmed)
  exact ⟨v, vm₁, B, X₁.warmed, X', hpost, fun target h => hstep₁ _ fun acts => by rw [doInvoke_state]; exact hsteps.trans h⟩
abbrev vx_CVW (R : Room) (s : State) (args : Array Value) (own C : String) (index : Nat) (y : MethodName) (bytes : ByteArray) (maxL : Nat) (ret : Option FieldType) (hh : List (Nat × Nat × Nat × Nat)) (ws : List Cond) (rm : Room) (mc ms n : Nat) : Prop :=
  (rm.cells = mc ∧ rm.slots = ms ∧ rm.frames + 1 ≤ R.frames ∧ 8 + (maxL + 11) + rm.locals ≤ R.locals ∧ (∀ w ∈ ws, ∀ (a' : Array Value) (U : State), s.WarmedH U.vm → w.before a' U = true) ∧ Cond.codeWith y bytes maxL ret hh ∈ ws) ∧
  (Cond.codeWith y bytes maxL ret hh).before args s = true ∧ (Cond.initialized y.cls).before args s = true ∧ (y.cls ≠ "java/lang/invoke/MethodHandle" ∧ y.cls ≠ "java/lang/invoke/VarHandle") ∧
  (∀ sig, parseMethodDescriptor y.desc = some sig → n = sig.parameters.length) ∧ (Cond.methodLink own index y).before args s = true ∧ (Cond.instanceMethod y).before args s = true ∧ (Cond.selects C y y).before args s = true
theorem vx_cwVW {own C : String} {index maxL mc ms : Nat} {y : MethodName} {bytes : ByteArray} {ret : Option FieldType} {hh : List (Nat × Nat × Nat × Nat)} {Ts ws ws' : List Cond} {rm : Room} (n : Nat) (ht : ∀ w ∈ Ts, w.before args s = true) (hT : GoodIn Ts (wsV own index C y ws)) (hw : ws = Cond.codeWith y bytes maxL ret hh :: ws') (hrc : rm.cells = mc) (hrs : rm.slots = ms)
    (hd : y.cls = C ∧ y.cls ≠ "java/lang/invoke/MethodHandle" ∧ y.cls ≠ "java/lang/invoke/VarHandle" ∧ (parseMethodDescriptor y.desc).map (fun d => d.parameters.length) = some n) (hR : rm.frames + 1 ≤ R.frames ∧ 8 + (maxL + 11) + rm.locals ≤ R.locals) :
    vx_CVW R s args own C index y bytes maxL ret hh ws rm mc ms n := by
  obtain ⟨hC, hd⟩ := hd
  subst hC
  have ok : ∀ w ∈ wsV own index y.cls y ws, w.before args s = true := fun w h => ht w (hT w h).1
  have hG : GoodIn Ts ws := fun w h => hT w (by unfold wsV; exact List.mem_append_right _ h)
  have hc : Cond.codeWith y bytes maxL ret hh ∈ ws := by rw [hw]; exact List.mem_cons_self
  refine ⟨⟨hrc, hrs, hR.1, hR.2, pay_in ht hG, hc⟩, ht _ (hG _ hc).1, ok _ (by simp [wsV]), ⟨hd.1, hd.2.1⟩, fun sig h => ?_, ok _ (by simp [wsV]), ok _ (by simp [wsV]), ok _ (by simp [wsV])⟩
  have h2 := hd.2.2
  rw [h] at h2
  exact (Option.some.inj h2).symm
theorem vx_runVW {y : MethodName} {bytes cc : ByteArray} {maxL nL mc ms n index : Nat} {ret : Option FieldType} {hh : List (Nat × Nat × Nat × Nat)} {ws : List Cond} {rm : Room} {Pc : Array Value → State → Prop} {Qc : Array Value → State → Outcome → State → Prop} {free : Addr → Prop} {Ts : List Cond} {own C : String} {b : Addr} {As rest : List Value} {g : JFrame}
    (S : CallFix p m c cc nL s args Ts own) (hM : Met l y ws rm Pc Qc mc ms free) (cw : vx_CVW R s args own C index y bytes maxL ret hh ws rm mc ms n) (hp : PreV s H C b Pc As)
    (hg : g.method = m) (hn : As.length = n) (hsize : g.locals.size = nL) (hstack : g.stack = As.reverse ++ .ref b :: rest) (hW : 2 * g.monitorRoom + (rest.map fun v => v.category).sum ≤ 8) (hdg : decode cc g.pc = .ok (.invokevirtual index, 3)) (hf : cells + mc ≤ R.cells ∧ slots + ms ≤ R.slots) :
    va_Run p l e R s m args below meth c H locs cells slots mc ms g rest (Qc (Value.ref b :: As).toArray) free := by
  obtain ⟨⟨hrc, hrs, hfr, hlo, hws, hcw⟩, hcode, hini, hy, hlen, hl, hin, hse⟩ := cw
  have hK : Back l R p e below s args y 3 8 (PreOf R mc ms Pc) (PostOf Qc mc ms free) := va_backW (hh := hh) (bytes := bytes) (maxL := maxL) (ret := ret) hM hp.1 hrc hrs hfr hlo hws hcw (fun a' U hW => word_at hW (Or.inl (by first | rfl | simp [Cond.onTables, Cond.keeps, Cond.steady])) hini)
  obtain ⟨hx, hb, hml, ho, -⟩ := S
  obtain ⟨-, ⟨cellB, hcB, hoB, hclB⟩, hPc⟩ := hp
  intro T hT X
  obtain ⟨v, vm₁, ⟨U', l2, c2, s2⟩, hW₁, X', ⟨g', mk, t, L, e1, e2, hq, h1, hL, h2, h3⟩, st⟩ := vx_callVW X hx (C := C) (hh := hh) (bytes := bytes) (maxL := maxL) (ret := ret) ho hl hin hse hcode hy hK (by rw [hT]; exact hcB) hoB hclB hg (hsize.trans hml.symm) (argsL := As) (rest := rest) (fun sig h => hn.trans (hlen sig h)) hstack hW (by rw [hb]; exact hdg)
    (fun vm₁ hW₁ => ⟨hf.1, hf.2, hPc (T.setVm vm₁) hT hW₁⟩)
  dsimp only [Pt.U, Pt.locs, Pt.cells, Pt.slots] at X' e1 e2 h1 h2 h3 st
  subst h1; subst h2; subst h3
  exact ⟨v, (T.setVm vm₁).calling g' mk (Value.ref b :: As).toArray, t, U', L, hT, X', hL, e1, e2, hq, st⟩
section
variable {y : MethodName} {bytes cc : ByteArray} {maxL nL mc ms n index : Nat} {ret : Option FieldType} {ws : List Cond} {rm : Room} {Pc : Array Value → State → Prop} {Qc : Array Value → State → Outcome → State → Prop} {XC : String → State → State → Prop} {free : Addr → Prop} {Ts : List Cond} {own C : String} {b : Addr} {As rest : List Value} {g : JFrame}
theorem vx_runVX {hh : List (Nat × Nat × Nat × Nat)} (S : CallFix p m c cc nL s args Ts own) (hM : vx_Met l y ws rm Pc Qc XC mc ms free) (cw : vx_CVW R s args own C index y bytes maxL ret hh ws rm mc ms n) (hp : PreV s H C b Pc As)
    (hg : g.method = m) (hn : As.length = n) (hsize : g.locals.size = nL) (hstack : g.stack = As.reverse ++ .ref b :: rest) (hW : 2 * g.monitorRoom + (rest.map fun v => v.category).sum ≤ 8) (hdg : decode cc g.pc = .ok (.invokevirtual index, 3)) (hf : cells + mc ≤ R.cells ∧ slots + ms ≤ R.slots) :
    vx_Run p l e R s m args below meth c H locs cells slots mc ms g rest (Qc (Value.ref b :: As).toArray) XC free := by
  obtain ⟨⟨hrc, hrs, hfr, hlo, hws, hcw⟩, hcode, hini, hy, hlen, hl, hin, hse⟩ := cw
  have hK : vx_Back l R p e below s args y 3 8 (PreOf R mc ms Pc) (PostOf Qc mc ms free) (vx_Post XC mc ms free) := vx_backW (hh := hh) (bytes := bytes) (maxL := maxL) (ret := ret) hM hp.1 hrc hrs hfr hlo hws hcw (fun a' U hW => word_at hW (Or.inl (by first | rfl | simp [Cond.onTables, Cond.keeps, Cond.steady])) hini)
  obtain ⟨hx, hb, hml, ho, -⟩ := S
  obtain ⟨-, ⟨cellB, hcB, hoB, hclB⟩, hPc⟩ := hp
  intro T hT X
  rcases vx_callVX X hx (C := C) (hh := hh) (bytes := bytes) (maxL := maxL) (ret := ret) ho hl hin hse hcode hy hK (by rw [hT]; exact hcB) hoB hclB hg (hsize.trans hml.symm) (argsL := As) (rest := rest) (fun sig h => hn.trans (hlen sig h)) hstack hW (by rw [hb]; exact hdg)
    (fun vm₁ hW₁ => ⟨hf.1, hf.2, hPc (T.setVm vm₁) hT hW₁⟩) with ⟨v, vm₁, ⟨U', l2, c2, s2⟩, hW₁, X', ⟨g', mk, t, L, e1, e2, hq, h1, hL, h2, h3⟩, st⟩ | ⟨q, vm₁, ⟨U', l2, c2, s2⟩, hW₁, X', ⟨g', mk, t, L, E, ce, e1, e2, hq, hce, hcv, hcl, h1, hL, h2, h3⟩, st⟩
  · dsimp only [Pt.U, Pt.locs, Pt.cells, Pt.slots] at X' e1 e2 h1 h2 h3 st
    subst h1; subst h2; subst h3
    exact Or.inl ⟨v, (T.setVm vm₁).calling g' mk (Value.ref b :: As).toArray, t, U', L, hT, X', hL, e1, e2, hq, st⟩
  · dsimp only [Pt.U, Pt.locs, Pt.cells, Pt.slots] at X' e1 e2 h1 h2 h3 st hcl
    subst h1; subst h2; subst h3
    exact Or.inr ⟨q, (T.setVm vm₁).calling g' mk (Value.ref b :: As).toArray, t, U', L, E, ce, hT, X', hL, e1, e2, hq, hce, hcv, vx_cls hW₁ hcl, st⟩
theorem vx_runSX {hh : List (Nat × Nat × Nat × Nat)} (S : CallFix p m c cc nL s args Ts own) (hM : vx_Met l y ws rm Pc Qc XC mc ms free) (cw : vx_CSW R s args own index y bytes maxL ret hh ws rm mc ms n) (hp : PreS s H Pc As)
    (hg : g.method = m) (hn : As.length = n) (hsize : g.locals.size = nL) (hstack : g.stack = As.reverse ++ rest) (hW : 2 * g.monitorRoom + (rest.map fun v => v.category).sum ≤ 8) (hdg : decode cc g.pc = .ok (.invokestatic index, 3)) (hf : cells + mc ≤ R.cells ∧ slots + ms ≤ R.slots) :
    vx_Run p l e R s m args below meth c H locs cells slots mc ms g rest (Qc As.toArray) XC free := by
  obtain ⟨⟨hrc, hrs, hfr, hlo, hws, hcw⟩, hcode, hini, hy, hlen, hl, hstt⟩ := cw
  have hK : vx_Back l R p e below s args y 3 8 (PreOf R mc ms Pc) (PostOf Qc mc ms free) (vx_Post XC mc ms free) := vx_backW (hh := hh) (bytes := bytes) (maxL := maxL) (ret := ret) hM hp.1 hrc hrs hfr hlo hws hcw (fun a' U hW => word_at hW (Or.inl (by first | rfl | simp [Cond.onTables, Cond.keeps, Cond.steady])) hini)
  obtain ⟨hx, hb, hml, ho, -⟩ := S
  intro T hT X
  rcases vx_callSX X hx (hh := hh) (bytes := bytes) (maxL := maxL) (ret := ret) ho hl hstt hini hcode hy hK hg (hsize.trans hml.symm) (argsL := As) (rest := rest) (fun sig h => hn.trans (hlen sig h)) hstack hW (by rw [hb]; exact hdg)
    (fun vm₁ hW₁ => ⟨hf.1, hf.2, hp.2 (T.setVm vm₁) hT hW₁⟩) with ⟨v, vm₁, ⟨U', l2, c2, s2⟩, hW₁, X', ⟨g', mk, t, L, e1, e2, hq, h1, hL, h2, h3⟩, st⟩ | ⟨q, vm₁, ⟨U', l2, c2, s2⟩, hW₁, X', ⟨g', mk, t, L, E, ce, e1, e2, hq, hce, hcv, hcl, h1, hL, h2, h3⟩, st⟩
  · dsimp only [Pt.U, Pt.locs, Pt.cells, Pt.slots] at X' e1 e2 h1 h2 h3 st
    subst h1; subst h2; subst h3
    exact Or.inl ⟨v, (T.setVm vm₁).calling g' mk As.toArray, t, U', L, hT, X', hL, e1, e2, hq, st⟩
  · dsimp only [Pt.U, Pt.locs, Pt.cells, Pt.slots] at X' e1 e2 h1 h2 h3 st hcl
    subst h1; subst h2; subst h3
    exact Or.inr ⟨q, (T.setVm vm₁).calling g' mk As.toArray, t, U', L, E, ce, hT, X', hL, e1, e2, hq, hce, hcv, vx_cls hW₁ hcl, st⟩
end
end VXH
theorem vx_ofWH {l : Launch} {y : MethodName} {ws ws' : List Cond} {rm : Room} {Pc : Array Value → State → Prop} {Qc : Array Value → State → Outcome → State → Prop} {XC : String → State → State → Prop} {mc ms : Nat} {free : Addr → Prop} {cc : ByteArray} {maxL : Nat} {ret : Option FieldType} {hh : List (Nat × Nat × Nat × Nat)}
    (hy : plainName y.cls = true) (hw : ws = Cond.codeWith y cc maxL ret hh :: ws')
    (body : ∀ p e s m args below meth c s₁, BodyLoose p l y (headSpec ws rm) cc maxL ret e s m args below meth c s₁ → c.maxLocals = maxL → Pc args s →
      W p l e (headSpec ws rm).room s m args below meth c s.heap [] 0 0 (vx_MQ below Qc XC args s mc ms free) (entryFrame m args maxL)) : vx_Met l y ws rm Pc Qc XC mc ms free := by
  refine MetFree.of_bodyS (code := cc) (maxLocals := maxL) (ret := ret) hy ?_ ?_
  · intro args s m h hn
    obtain ⟨m9, meth, c, hn9, h1, h2, h3, h4, -, h5, h6, -⟩ := Cond.codeWith_spec (atoms_spec (ws := ws) h _ (by rw [hw]; exact List.mem_cons_self))
    cases hn.symm.trans hn9
    exact ⟨meth, c, h1, h2, h3, h4, h5, h6⟩
  · intro p e s m args below meth c s₁ B hml hP _
    have hh0 : s₁.heap = s.heap := by rw [B.state]; rfl
    obtain ⟨t, a1, o, b1, b2, b3⟩ := body p e s m args below meth c s₁ B hml hP s₁ hh0 (Stand.of_body B)
    exact ⟨t, o, a1, b1, b2, b3⟩
/-! ===== END ===== -/
/-! ===== BEGIN what the machine throws by itself, no traces kept ===== -/
section VXM
set_option maxHeartbeats 1000000 in
/-- the machine throws cls with the message text, no traces kept: from its note over the frame g to 'throwing' over the same frame (follows the proofs of Stand.vmThrowsMessage, Shelf/KitTracedVmS.lean, and Stand.throwsMessageColdBareV, StandMessageColdV.lean, without the step out of the frame) -/
theorem vx_vmAt {p : Program} {l : Launch} {e : Env} {R : Room} {s : State} {m₀ : MethodId} {args : Array Value} {below : List Frame} {meth : Method} {c : Code} {W : State} {locs : List Loc} {cells slots : Nat}
    (X : Stand p l e R s m₀ args below meth c W locs cells slots) (hexec : p.tables.exec = Jvm.exec) (htr : e.platform.stackTraces = false) {cls : String} {names : List String} {text : String}
    (hcls : Bundle.fit cls = true) (hnames : ∀ n ∈ names, Bundle.fit n = true) (hsoe : (cls == "java/lang/StackOverflowError") = false) (hoom : (cls == "java/lang/OutOfMemoryError") = false)
    (h : ∀ a ∈ Bundle.messageArmAtoms cls names, a.before args s = true)
    (hlocs : ∀ x ∈ locs, ∀ cell, s.heap[x.base]? = some cell → cell.vm.isStatics = false)
    (htext : (text == notModelled) = false) (hlimit : ¬ (stringBytes (stringToUtf16 text)).size > e.platform.arrayLengthLimit) (hheap : ¬ (stringBytes (stringToUtf16 text)).size * componentBytes .byte > e.platform.maxHeapBytes)
    {g : JFrame} (hg : g.method = m₀) (hsize : g.locals.size = c.maxLocals)
    (hRframes : names.length + 4 < R.frames) (hRlocals : 2 * g.monitorRoom + (g.stack.map fun v => v.category).sum + 10240 ≤ R.locals) (hshort : 13 * names.length + 55 ≤ 10240)
    (hRcells : cells + 3 ≤ R.cells) (hRslots : slots + ((stringBytes (stringToUtf16 text)).size + 4 + 6) ≤ R.slots) (hlocks : meth.locks = false) :
    ∃ (S : State) (q : Addr) (ce : Cell), (∀ target, Steps p.tables e below ((S.setTop g).pushFrame (.throwing q)) target → Steps p.tables e below ((W.setTop g).pushFrame (.throwNew cls (some text) none)) target) ∧
      Stand p l e R s m₀ args below meth c S locs (cells + 3) (slots + ((stringBytes (stringToUtf16 text)).size + 4 + 6)) ∧ S.heap[q]? = some ce ∧ s.vm.findClass cls = some ce.cls ∧ ce.vm = .none := by
  have howns : e.platform.frameOwnsMonitors = true := by rw [X.admits.platform]
  have hfin : e.platform.finalization = false := by rw [X.admits.platform]
  have hpl : e.platform.magicAccessors = ({} : Platform).magicAccessors := by rw [X.admits.platform]
  have a : ∀ x, x ∈ Bundle.messageArmAtoms cls names → x.holds args s none s [] = true := fun x hx => h x hx
  obtain ⟨T, Z0, L, -, Y⟩ := ThrowableC.of_atoms (args := args) howns hfin hpl (fun x hx => h x (by simp [Bundle.messageArmAtoms, hx]))
  obtain ⟨Z, M, LZ, LM, hnZ⟩ := Init0T.ofS_atoms (args := args) hpl L Y (fun x hx => h x (by simp [Bundle.messageArmAtoms, hx]))
  obtain ⟨P1, Ps, hlen, L1, hL, hP1m, hlink1, hlink⟩ := Bundle.chainS (args := args) hpl hnZ names cls hcls hnames (fun x hx => h x (by simp [Bundle.messageArmAtoms, hx]))
  obtain ⟨Zs, LZs, hn4, hfitv, hfitc⟩ := StringT.of_atoms (args := args) (fun x hx => h x (by simp [Bundle.messageArmAtoms, hx]))
  have hfound : s.vm.findClass cls = some P1.m.cls := findClass_of_methodNamed hP1m
  obtain ⟨c1, kX, hc1, hk, hord, -, -, hn6⟩ := Cond.instantiable_spec (a (.instantiable cls 6) (by simp [Bundle.messageArmAtoms]))
  cases Option.some.inj (hc1.symm.trans hfound)
  have hinit := Cond.initialized_spec hfound hk (a (.initialized cls) (by simp [Bundle.messageArmAtoms]))
  have hctor : kX.findMethod "<init>" "(Ljava/lang/String;)V" = some P1.m.idx := findMethod_of_methodNamed hP1m hk
  have hsel0 : selectMethod e.platform s.vm P1.m.cls T.fill0 = .method T.fill0 := by
    obtain ⟨c2, r2, m2, q1, q2, q3, q4, -⟩ := Cond.selects_spec (a (.selects cls Bundle.tFill0 Bundle.tFill0) (by simp [Bundle.messageArmAtoms]))
    cases Option.some.inj (q1.symm.trans hfound)
    cases Option.some.inj (q2.symm.trans (State.methodFound?_of_named Y.fill0 (by decide)))
    cases Option.some.inj (q3.symm.trans Y.fill0)
    rw [Launch.admits_selectMethod X.admits]; exact q4
  have hselF : selectMethod e.platform s.vm P1.m.cls T.fill = .method T.fill := by
    obtain ⟨c2, r2, m2, q1, q2, q3, q4, -⟩ := Cond.selects_spec (a (.selects cls Bundle.tFill Bundle.tFill) (by simp [Bundle.messageArmAtoms]))
    cases Option.some.inj (q1.symm.trans hfound)
    cases Option.some.inj (q2.symm.trans (State.methodFound?_of_named Y.fill (by decide)))
    cases Option.some.inj (q3.symm.trans Y.fill)
    rw [Launch.admits_selectMethod X.admits]; exact q4
  obtain ⟨cellS0, hcS0, hiss⟩ := Y.statics
  obtain ⟨u0, hu0⟩ := Cond.staticRefV Y.unassigned L.unassignedStatic L.statics hcS0 hiss (a (.isRef (.static Bundle.tN "UNASSIGNED_STACK" Bundle.steD)) (by simp [Bundle.messageArmAtoms]))
  obtain ⟨sen, hsen⟩ := Cond.staticRefV Y.sentinel L.sentinelStatic L.statics hcS0 hiss (a (.isRef (.static Bundle.tN "SUPPRESSED_SENTINEL" Bundle.listD)) (by simp [Bundle.messageArmAtoms]))
  obtain ⟨ci198, i198, fB, hk198, hg198, ha198, hsB, -, hnB, htB, hffB⟩ := Cond.ownField (t := .object "java/lang/Object") Y.found L.cls (by decide +kernel) (a (.fieldLink Bundle.tN 198 Bundle.tN "backtrace" "Ljava/lang/Object;") (by simp [Bundle.messageArmAtoms])) (a (.lays Bundle.tN Bundle.tN "backtrace" "Ljava/lang/Object;") (by simp [Bundle.messageArmAtoms])) e.platform hpl
  obtain ⟨cellS, hcS', heS, -, hkeep⟩ := X.same.2.2.2.2.2 T.aS cellS0 hcS0
  have hcellS : W.heap[T.aS]? = some cellS := hcS'
  have hout' : ∀ i, (⟨T.aS, i⟩ : Loc) ∉ locs := fun i hmem => by
    have := hlocs _ hmem cellS0 hcS0
    rw [hiss] at this; cases this
  have hknownS : cellS.vm ≠ .unknown := by
    rw [heS]; intro hu
    rw [show cellS0.vm = .unknown from hu] at hiss
    cases hiss
  have hvU : cellS.slots[T.fUnassigned.slot]? = some u0.v := by rw [hkeep _ (hout' _)]; exact hu0
  have hvSen : cellS.slots[T.fSentinel.slot]? = some sen.v := by rw [hkeep _ (hout' _)]; exact hsen
  obtain ⟨iM, hffM⟩ := Y.msg
  obtain ⟨tyC, dC, hdC, hdnC⟩ := Cond.laysAt hfound hk Y.cause (a (.lays cls Bundle.tN "cause" "Ljava/lang/Throwable;") (by simp [Bundle.messageArmAtoms]))
  obtain ⟨tyS, dS, hdS, hdnS⟩ := Cond.laysAt hfound hk Y.stack (a (.lays cls Bundle.tN "stackTrace" Bundle.steD) (by simp [Bundle.messageArmAtoms]))
  obtain ⟨tyP, dP, hdP, hdnP⟩ := Cond.laysAt hfound hk Y.supp (a (.lays cls Bundle.tN "suppressedExceptions" Bundle.listD) (by simp [Bundle.messageArmAtoms]))
  obtain ⟨tyM, dM, hdM, hdnM⟩ := Cond.laysAt hfound hk hffM (a (.lays cls Bundle.tN "detailMessage" "Ljava/lang/String;") (by simp [Bundle.messageArmAtoms]))
  obtain ⟨tyB, dB, hdB, hdnB⟩ := Cond.laysAt hfound hk hffB (a (.lays cls Bundle.tN "backtrace" "Ljava/lang/Object;") (by simp [Bundle.messageArmAtoms]))
  have bC := Cond.laysApart hdB hdC hdnB hdnC (by rw [hnB, Y.causeName]; decide)
  have bS := Cond.laysApart hdB hdS hdnB hdnS (by rw [hnB, Y.stackName]; decide)
  have bP := Cond.laysApart hdB hdP hdnB hdnP (by rw [hnB, Y.suppName]; decide)
  have hbk : ((preparedCellV T.toThrowableT (freshCell P1.m.cls kX) (W.heap.size + 2) u0 sen).withEntry W.cur).slots[fB.slot]? = some .null := by
    have := fresh_default (c := P1.m.cls) tyB
    rw [htB] at this
    simpa [preparedCellV, Cell.setSlot, Cell.withEntry, Array.getElem?_setIfInBounds, bC, bS, bP, bC.symm, bS.symm, bP.symm, defaultValue] using this
  have tkC := Takes.of_laid (v := .ref (W.heap.size + 2)) hk hord tyC (by rw [Y.causeType]; rfl)
  have tkS := Takes.of_laid (v := u0.v) hk hord tyS (by rw [Y.stackType]; exact fits_refV_array _ u0)
  have tkP := Takes.of_laid (v := sen.v) hk hord tyP (by rw [Y.suppType]; exact fits_refV_object _ sen)
  have tkM := Takes.of_laid (v := .ref (W.heap.size + 1)) hk hord tyM (by rw [Y.msgType]; rfl)
  have hskip : SkipFacts T e.platform s (fun u => u) u0 ((preparedCellV T.toThrowableT (freshCell P1.m.cls kX) (W.heap.size + 2) u0 sen).withEntry W.cur) := ⟨{ ci198 := ci198, i198 := i198, fBack := fB }, ⟨hk198, hg198, ha198, hsB⟩, hbk, fun _ _ => rfl⟩
  have h0 : At W g.method c below := by rw [hg]; exact X.here
  obtain ⟨hbeyond, hfreeW⟩ := X.vmMayThrow hsize (.throwNew cls (some text) none) (fun f hf => by cases hf) rfl hRlocals
  have hfr' : W.frames.length + Ps.length + 4 < (e.platform.stackLimits W.me).1 := by have := X.framesAbove hRframes; omega
  have hwd' : (stackUse (.java g :: W.frames.tail)).2 + 13 * Ps.length + 55 ≤ (e.platform.stackLimits W.me).2 := by have := X.stackAbove hsize (K := 13 * Ps.length + 55) (by omega); omega
  have hslots : W.slotsUsed + (stringBytes (stringToUtf16 text)).size + Zs.kS.instanceTypes.size + kX.instanceTypes.size ≤ e.platform.maxSlots := by
    have := X.slotsAbove hRslots
    rw [hn4, hn6]
    omega
  obtain ⟨vm', hW', st⟩ := Steps.vmThrowsMessageColdByV p (s₀ := s) (S := W) (g := g) h0 hexec T L Z LZ M LM X.warmed (t := W.cur) rfl Zs LZs P1 L1 Ps hL hlink1 hlink hsoe hoom hfound hk hinit hord hctor
    (Launch.admits_hotImplicitExceptions X.admits) hbeyond hfreeW htext hlimit hheap (X.cellsAbove hRcells) hslots (hfitv _) (hfitc _)
    (Nn := fun u => u) heapOnly_id (fun _ _ => rfl) (fun _ => rfl) (fun u x y => setCell_twice _ _ _ _) (fun _ => Nat.le_refl _) (cN := ((preparedCellV T.toThrowableT (freshCell P1.m.cls kX) (W.heap.size + 2) u0 sen).withEntry W.cur))
    hsel0 hcellS hknownS hvU tkS (fun _ hu => hu) (fun _ hu => hu) rfl rfl rfl (by simp [preparedCellV, Cell.setSlot, Cell.withEntry]) hskip (fun _ _ hA hW _ hroom _ hrest => L.nativeOff p htr hA hW hroom hrest) hselF hvSen tkC tkP tkM Y.objLocals rfl hfr' hwd'
  rw [plainBareV_eq T.toThrowableT (W.heap.size + 2) u0 sen (.ref (W.heap.size + 1)) W.cur rfl rfl] at st
  obtain ⟨-, -, w3, w4, -, -, -⟩ := withThrown_facts e.platform W Zs text P1.m.cls kX
  have X3 := ((X.pushed (bytesOf Zs.cB (stringToUtf16 text))).pushed (stringAt Zs.cS Zs.kS Zs.fv Zs.fc (stringToUtf16 text) W.heap.size)).pushed (freshCell P1.m.cls kX)
  rw [← withString_eq] at X3
  have X4 := X3.noted hW'
  have ha : (W.heap.size + 2) < ((withThrown W Zs text P1.m.cls kX).setVm vm').heap.size := by show _ < (withThrown W Zs text P1.m.cls kX).heap.size; rw [w3]; omega
  have hcell : ((withThrown W Zs text P1.m.cls kX).setVm vm').heap[(W.heap.size + 2)]? = some (freshCell P1.m.cls kX) := w4
  have X5 := ((((X4.stored hcell T.fCause.slot (.ref (W.heap.size + 2))).storedAgain ha T.fStack.slot u0.v).storedAgain ha T.fSupp.slot sen.v).storedAgain ha T.fStack.slot u0.v).storedAgain ha T.fMsg.slot (.ref (W.heap.size + 1))
  obtain ⟨g₁, hfrM⟩ := X5.frames_eq
  have hU : ((((withThrown W Zs text P1.m.cls kX).setVm vm').setCell (W.heap.size + 2) (plainBareV T.toThrowableT (freshCell P1.m.cls kX) (W.heap.size + 2) u0 sen (.ref (W.heap.size + 1)))).setTop g).pushFrame (.throwing (W.heap.size + 2)) = (((withThrown W Zs text P1.m.cls kX).setVm vm').setCell (W.heap.size + 2) (plainBareV T.toThrowableT (freshCell P1.m.cls kX) (W.heap.size + 2) u0 sen (.ref (W.heap.size + 1)))).setFrames (.throwing (W.heap.size + 2) :: .java g :: below) := by
    rw [State.pushFrame, State.frames_setTop _ hfrM, State.setTop_of_frames _ hfrM, State.setFrames_setFrames]
  have b1 : (bytesOf Zs.cB (stringToUtf16 text)).slots.size = (stringBytes (stringToUtf16 text)).size := by
    rw [(Cell.writeAll_facts _ _).2.2]; simp [bytes0]
  have b2 : (stringAt Zs.cS Zs.kS Zs.fv Zs.fc (stringToUtf16 text) W.heap.size).slots.size = 4 := by simp [string0, Cell.setSlot, hn4]
  have b3 : (freshCell P1.m.cls kX).slots.size = 6 := by simp [hn6]
  rw [b1, b2, b3] at X5
  have e9 : slots + (stringBytes (stringToUtf16 text)).size + 4 + 6 = slots + ((stringBytes (stringToUtf16 text)).size + 4 + 6) := by omega
  rw [e9] at X5
  simp only [List.append_assoc, List.cons_append, List.nil_append] at X5
  refine ⟨((withThrown W Zs text P1.m.cls kX).setVm vm').setCell (W.heap.size + 2) (plainBareV T.toThrowableT (freshCell P1.m.cls kX) (W.heap.size + 2) u0 sen (.ref (W.heap.size + 1))), W.heap.size + 2, _, fun target ht => st _ (by rw [X.tail, ← hU]; exact ht),
    X5.forget (fun y hy => ?_), heapAt_setCell_self _ ha, hfound, rfl⟩
  simp only [List.mem_cons, List.not_mem_nil, or_false] at hy
  have hge : s.heap.size ≤ W.heap.size := X.same.2.1
  rcases hy with rfl | rfl | rfl | rfl | rfl <;> exact Nat.le_trans hge (Nat.le_add_right _ 2)
set_option maxHeartbeats 1000000 in
/-- the machine throws NullPointerException, no traces kept: from its note over the frame g to 'throwing' over the same frame (follows the proof of Stand.vmThrowsNpe, Shelf42/KT2.lean; throwsNpeColdBareVAt, Shelf42/NT91.lean, called) -/
theorem vx_npeAt {p : Program} {l : Launch} {e : Env} {R : Room} {s : State} {m₀ : MethodId} {args : Array Value} {below : List Frame} {meth : Method} {c : Code} {W : State} {locs : List Loc} {cells slots : Nat}
    (X : Stand p l e R s m₀ args below meth c W locs cells slots) (hexec : p.tables.exec = Jvm.exec) (htr : e.platform.stackTraces = false) {n : Nat}
    (h : ∀ a ∈ Bundle.npeArmAtoms n, a.before args s = true)
    (hlocs : ∀ x ∈ locs, ∀ cell, s.heap[x.base]? = some cell → cell.vm.isStatics = false)
    {g : JFrame} (hg : g.method = m₀) (hsize : g.locals.size = c.maxLocals)
    (hRframes : 7 < R.frames) (hRlocals : 2 * g.monitorRoom + (g.stack.map fun v => v.category).sum + 10240 ≤ R.locals)
    (hRcells : cells + 1 ≤ R.cells) (hRslots : slots + n ≤ R.slots) (hlocks : meth.locks = false) :
    ∃ (S : State) (q : Addr) (ce : Cell), (∀ target, Steps p.tables e below ((S.setTop g).pushFrame (.throwing q)) target → Steps p.tables e below ((W.setTop g).pushFrame (.throwNew "java/lang/NullPointerException" none none)) target) ∧
      Stand p l e R s m₀ args below meth c S locs (cells + 1) (slots + n) ∧ S.heap[q]? = some ce ∧ s.vm.findClass "java/lang/NullPointerException" = some ce.cls ∧ ce.vm = .none := by
  have howns : e.platform.frameOwnsMonitors = true := by rw [X.admits.platform]
  have hfin : e.platform.finalization = false := by rw [X.admits.platform]
  have hpl : e.platform.magicAccessors = ({} : Platform).magicAccessors := by rw [X.admits.platform]
  have hpl2 : e.platform.arrayCloneIsPublic = true := by rw [X.admits.platform]
  have a' : ∀ x, x ∈ Bundle.npeArmAtoms n → x.holds args s none s [] = true := fun x hx => h x hx
  obtain ⟨T, Z, L, LZ, Y⟩ := ThrowableC.of_atoms (args := args) howns hfin hpl (fun x hx => h x (by simp [Bundle.npeArmAtoms, hx]))
  obtain ⟨N, LN, hcN, hnNF, hordN, hffS⟩ := NpeC.of_atoms (args := args) hpl hpl2 L Y (fun x hx => h x (by simp [Bundle.npeArmAtoms, hx]))
  obtain ⟨P1, L1, hP1m, hP1s⟩ := PassC.of_atoms (args := args) (s := s) hpl (X := Bundle.nN) (Y := Bundle.rN) (by decide) (by decide) LibCode.NullPointerException.Init0.at_0 LibCode.NullPointerException.Init0.at_1 LibCode.NullPointerException.Init0.at_4 (fun x hx => h x (by simp [Bundle.npeArmAtoms, hx]))
  obtain ⟨PR, LR, hPRm, hPRs⟩ := PassC.of_atoms (args := args) (s := s) hpl (X := Bundle.rN) (Y := Bundle.eN) (by decide) (by decide) LibCode.RuntimeException.Init0.at_0 LibCode.RuntimeException.Init0.at_1 LibCode.RuntimeException.Init0.at_4 (fun x hx => h x (by simp [Bundle.npeArmAtoms, hx]))
  obtain ⟨PE, LEx, hPEm, hPEs⟩ := PassC.of_atoms (args := args) (s := s) hpl (X := Bundle.eN) (Y := Bundle.tN) (by decide) (by decide) LibCode.Exception.Init0.at_0 LibCode.Exception.Init0.at_1 LibCode.Exception.Init0.at_4 (fun x hx => h x (by simp [Bundle.npeArmAtoms, hx]))
  have hfound : s.vm.findClass Bundle.nN = some P1.m.cls := findClass_of_methodNamed hP1m
  have ecls : N.cN = P1.m.cls := Option.some.inj (hcN.symm.trans hfound)
  have hk : s.vm.classes[P1.m.cls]? = some N.kN := by rw [← ecls]; exact LN.cls
  have hinit := Cond.initialized_spec hfound hk (a' (.initialized Bundle.nN) (by simp [Bundle.npeArmAtoms]))
  have hctor : N.kN.findMethod "<init>" "()V" = some P1.m.idx := findMethod_of_methodNamed hP1m hk
  obtain ⟨c1, k1, hc1, hk1, -, -, -, hn⟩ := Cond.instantiable_spec (a' (.instantiable Bundle.nN n) (by simp [Bundle.npeArmAtoms]))
  cases Option.some.inj (hc1.symm.trans hfound)
  cases Option.some.inj (hk1.symm.trans hk)
  have hfsz : (freshCell P1.m.cls N.kN).slots.size = n := by simp [hn]
  have hlink1 : P1.sup = PR.m := Option.some.inj (hP1s.symm.trans hPRm)
  have hlinkR : PR.sup = PE.m := Option.some.inj (hPRs.symm.trans hPEm)
  have hlinkE : PE.sup = Z.m T.toThrowableT := Option.some.inj (hPEs.symm.trans Y.init0)
  have hLs : ∀ P, P ∈ [PR, PE] → P.Links0 e.platform s := fun P hP => by
    simp only [List.mem_cons, List.not_mem_nil, or_false] at hP
    rcases hP with rfl | rfl
    · exact LR
    · exact LEx
  have hsel0 : selectMethod e.platform s.vm P1.m.cls T.fill0 = .method T.fill0 := by
    obtain ⟨c2, r2, m2, q1, q2, q3, q4, -⟩ := Cond.selects_spec (a' (.selects Bundle.nN Bundle.tFill0 Bundle.tFill0) (by simp [Bundle.npeArmAtoms]))
    cases Option.some.inj (q1.symm.trans hfound)
    cases Option.some.inj (q2.symm.trans (State.methodFound?_of_named Y.fill0 (by decide)))
    cases Option.some.inj (q3.symm.trans Y.fill0)
    rw [Launch.admits_selectMethod X.admits]; exact q4
  have hselF : selectMethod e.platform s.vm P1.m.cls T.fill = .method N.fill := by
    obtain ⟨c2, r2, m2, q1, q2, q3, q4, -⟩ := Cond.selects_spec (a' (.selects Bundle.nN Bundle.tFill Bundle.nFill) (by simp [Bundle.npeArmAtoms]))
    cases Option.some.inj (q1.symm.trans hfound)
    cases Option.some.inj (q2.symm.trans (State.methodFound?_of_named Y.fill (by decide)))
    cases Option.some.inj (q3.symm.trans hnNF)
    rw [Launch.admits_selectMethod X.admits]; exact q4
  obtain ⟨cellS0, hcS0, hiss⟩ := Y.statics
  obtain ⟨u0, hu0⟩ := Cond.staticRefV Y.unassigned L.unassignedStatic L.statics hcS0 hiss (a' (.isRef (.static Bundle.tN "UNASSIGNED_STACK" Bundle.steD)) (by simp [Bundle.npeArmAtoms]))
  obtain ⟨sen, hsen⟩ := Cond.staticRefV Y.sentinel L.sentinelStatic L.statics hcS0 hiss (a' (.isRef (.static Bundle.tN "SUPPRESSED_SENTINEL" Bundle.listD)) (by simp [Bundle.npeArmAtoms]))
  obtain ⟨ci198, i198, fB, hk198, hg198, ha198, hsB, -, hnB, htB, hffB⟩ := Cond.ownField (t := .object "java/lang/Object") Y.found L.cls (by decide +kernel) (a' (.fieldLink Bundle.tN 198 Bundle.tN "backtrace" Bundle.objD) (by simp [Bundle.npeArmAtoms])) (a' (.lays Bundle.tN Bundle.tN "backtrace" Bundle.objD) (by simp [Bundle.npeArmAtoms])) e.platform hpl
  obtain ⟨cellS, hcS', heS, -, hkeep⟩ := X.same.2.2.2.2.2 T.aS cellS0 hcS0
  have hcellS : W.heap[T.aS]? = some cellS := hcS'
  have hout' : ∀ i, (⟨T.aS, i⟩ : Loc) ∉ locs := fun i hmem => by
    have := hlocs _ hmem cellS0 hcS0
    rw [hiss] at this; cases this
  have hknownS : cellS.vm ≠ .unknown := by
    rw [heS]; intro hu
    rw [show cellS0.vm = .unknown from hu] at hiss
    cases hiss
  have hvU : cellS.slots[T.fUnassigned.slot]? = some u0.v := by rw [hkeep _ (hout' _)]; exact hu0
  have hvSen : cellS.slots[T.fSentinel.slot]? = some sen.v := by rw [hkeep _ (hout' _)]; exact hsen
  obtain ⟨tyC, dC, hdC, hdnC⟩ := Cond.laysAt hfound hk Y.cause (a' (.lays Bundle.nN Bundle.tN "cause" "Ljava/lang/Throwable;") (by simp [Bundle.npeArmAtoms]))
  obtain ⟨tyS, dS, hdS, hdnS⟩ := Cond.laysAt hfound hk Y.stack (a' (.lays Bundle.nN Bundle.tN "stackTrace" Bundle.steD) (by simp [Bundle.npeArmAtoms]))
  obtain ⟨tyP, dP, hdP, hdnP⟩ := Cond.laysAt hfound hk Y.supp (a' (.lays Bundle.nN Bundle.tN "suppressedExceptions" Bundle.listD) (by simp [Bundle.npeArmAtoms]))
  obtain ⟨tyX, dX, hdX, hdnX⟩ := Cond.laysAt hfound hk hffS (a' (.lays Bundle.nN Bundle.nN "extendedMessageState" "I") (by simp [Bundle.npeArmAtoms, Bundle.npeAtoms]))
  obtain ⟨hnX, htX⟩ := State.fieldFound?_type hffS (t := .int) (by decide +kernel)
  have xC := Cond.laysApart hdC hdX hdnC hdnX (by rw [hnX, Y.causeName]; decide)
  have xS := Cond.laysApart hdS hdX hdnS hdnX (by rw [hnX, Y.stackName]; decide)
  have xP := Cond.laysApart hdP hdX hdnP hdnX (by rw [hnX, Y.suppName]; decide)
  have hv0 : (freshCell P1.m.cls N.kN).slots[N.fState.slot]? = some (.int 0) := by
    have := fresh_default (c := P1.m.cls) tyX
    rw [htX] at this; exact this
  obtain ⟨tyB, dB, hdB, hdnB⟩ := Cond.laysAt hfound hk hffB (a' (.lays Bundle.nN Bundle.tN "backtrace" Bundle.objD) (by simp [Bundle.npeArmAtoms]))
  have bC := Cond.laysApart hdB hdC hdnB hdnC (by rw [hnB, Y.causeName]; decide)
  have bS := Cond.laysApart hdB hdS hdnB hdnS (by rw [hnB, Y.stackName]; decide)
  have bP := Cond.laysApart hdB hdP hdnB hdnP (by rw [hnB, Y.suppName]; decide)
  have bX := Cond.laysApart hdB hdX hdnB hdnX (by rw [hnB, hnX]; decide)
  have hbk : ((npeCell N.toNpeT (preparedCellV T.toThrowableT (freshCell P1.m.cls N.kN) W.heap.size u0 sen) W.cur).withEntry W.cur).slots[fB.slot]? = some .null := by
    have := fresh_default (c := P1.m.cls) tyB
    rw [htB] at this
    simpa [npeCell, preparedCellV, Cell.setSlot, Cell.withEntry, Array.getElem?_setIfInBounds, bC, bS, bP, bX, bC.symm, bS.symm, bP.symm, bX.symm, defaultValue] using this
  have tkC := Takes.of_laid (v := .ref W.heap.size) hk hordN tyC (by rw [Y.causeType]; rfl)
  have tkS := Takes.of_laid (v := u0.v) hk hordN tyS (by rw [Y.stackType]; exact fits_refV_array _ u0)
  have tkP := Takes.of_laid (v := sen.v) hk hordN tyP (by rw [Y.suppType]; exact fits_refV_object _ sen)
  have tkX := Takes.of_laid (v := .int 1) hk hordN tyX (by rw [htX]; rfl)
  have hskip : SkipFacts T e.platform s (fun u => u) u0 ((npeCell N.toNpeT (preparedCellV T.toThrowableT (freshCell P1.m.cls N.kN) W.heap.size u0 sen) W.cur).withEntry W.cur) := ⟨{ ci198 := ci198, i198 := i198, fBack := fB }, ⟨hk198, hg198, ha198, hsB⟩, hbk, fun _ _ => rfl⟩
  obtain ⟨vm', X3, st, -⟩ := X.throwsNpeColdBareVAt hexec hg hsize T L Z LZ N LN P1 L1 [PR, PE] hLs hlink1 ⟨hlinkR, hlinkE, trivial⟩ hfound hk hinit hordN hctor hsel0 hselF hcellS hknownS hvU hvSen
    hv0 xC xS xP tkC tkS tkP tkX Y.objLocals hskip (fun _ _ hA hW _ hroom _ hrest => L.nativeOff p htr hA hW hroom hrest) (by simpa using hRframes) hRlocals (by simp) hRcells (by rw [hn]; exact hRslots)
  have hlt : W.heap.size < ((W.pushCell (freshCell P1.m.cls N.kN)).setVm vm').heap.size := by
    show W.heap.size < (W.pushCell (freshCell P1.m.cls N.kN)).heap.size
    rw [State.heap_size_pushCell]; omega
  rw [hfsz] at X3
  obtain ⟨g₁, hfrM⟩ := X3.frames_eq
  have hU : ((((W.pushCell (freshCell P1.m.cls N.kN)).setVm vm').setCell W.heap.size (npeBareV T.toThrowableT N.toNpeT (freshCell P1.m.cls N.kN) W.heap.size u0 sen)).setTop g).pushFrame (.throwing W.heap.size) = (((W.pushCell (freshCell P1.m.cls N.kN)).setVm vm').setCell W.heap.size (npeBareV T.toThrowableT N.toNpeT (freshCell P1.m.cls N.kN) W.heap.size u0 sen)).setFrames (.throwing W.heap.size :: .java g :: below) := by
    rw [State.pushFrame, State.frames_setTop _ hfrM, State.setTop_of_frames _ hfrM, State.setFrames_setFrames]
  refine ⟨_, W.heap.size, _, fun target ht => st.trans (by rw [← hU]; exact ht), X3.forget (fun y hy => ?_), heapAt_setCell_self _ hlt, hfound, rfl⟩
  simp only [List.mem_cons, List.not_mem_nil, or_false] at hy
  have hge : s.heap.size ≤ W.heap.size := X.same.2.1
  rcases hy with rfl | rfl | rfl | rfl | rfl <;> exact hge
/-- the words of a machine's NullPointerException, but the four that speak of the heap -/
def vx_atN (n : Nat) : List Cond := (Bundle.npeArmAtoms n).filter vx_no
/-- the words of a machine's throw with a message, but the four that speak of the heap -/
def vx_atM (X : String) (names : List String) : List Cond := (Bundle.messageArmAtoms X names).filter vx_no
section
variable {p : Program} {l : Launch} {e : Env} {R : Room} {s : State} {m : MethodId} {args : Array Value} {below : List Frame} {meth : Method} {c : Code} {H : Heap} {locs : List Loc} {cells slots : Nat}
/-- a frame seen from a rebased start, seen from the first start again -/
theorem vx_back9 {T S : State} {R' : Room} {k n : Nat} (X : Stand p l e R s m args below meth c T locs cells slots) (Y : Stand p l e R' ((T.setVm s.vm).setFrames (.invoking m args :: below)) m args below meth c T [] 0 0) (Z : Stand p l e R' ((T.setVm s.vm).setFrames (.invoking m args :: below)) m args below meth c S [] k n) :
    Stand p l e R s m args below meth c S locs (cells + k) (slots + n) := by
  have hW0 : s.WarmedH ((T.setVm s.vm).setFrames (.invoking m args :: below)).vm := State.WarmedH.refl s
  refine { admits := X.admits, cas := X.cas, clock := X.clock, frames := X.frames, room := X.room, hears := X.hears, method := X.method, code := X.code, here := Z.here, tail := Z.tail, warmed := State.WarmedH.trans hW0 Z.warmed, limits := Z.limits.trans (Y.limits.symm.trans X.limits), bytes := Z.bytes.trans (Y.bytes.symm.trans X.bytes), same := ?_ }
  obtain ⟨e1, e2⟩ := Z.same
  rw [State.setFrames_setFrames] at e1
  have h2 : (T.setVm s.vm).sameButNew (S.setVm s.vm) [] k n := ⟨e1, e2⟩
  have h3 := X.same.trans h2
  rw [List.append_nil] at h3
  exact h3
/-- from the machine's note that E is thrown here with this text -/
def vx_Note (p : Program) (l : Launch) (e : Env) (R : Room) (s : State) (m : MethodId) (args : Array Value) (below : List Frame) (meth : Method) (c : Code) (H : Heap) (locs : List Loc) (cells slots : Nat) (Q : State → Prop) (g : JFrame) (E text : String) : Prop :=
  ∀ T : State, T.heap = H → Stand p l e R s m args below meth c T locs cells slots → ∃ t, Steps p.tables e below ((T.setTop g).pushFrame (.throwNew E (some text) none)) t ∧ Q t
theorem vx_vm {pc : Nat} {ls : Array Slot} {rest : List Value} {Q : State → Prop} (hexec : p.tables.exec = Jvm.exec) (hl : l.stackTraces = false) {cls text : String} {names : List String} {nb : Nat} {A : Nat → Prop}
    (hcls : Bundle.fit cls = true) (hnames : ∀ n ∈ names, Bundle.fit n = true) (hsoe : (cls == "java/lang/StackOverflowError") = false) (hoom : (cls == "java/lang/OutOfMemoryError") = false)
    (hat : ∀ w ∈ vx_atM cls names, w.before args s = true) (hgood : ∀ w ∈ vx_atM cls names, vx_ot w = true)
    (hU : vx_Zq Bundle.tN "UNASSIGNED_STACK" Bundle.steD A s s.heap) (hN : vx_Zq Bundle.tN "SUPPRESSED_SENTINEL" Bundle.listD A s s.heap) (hS : va_S A s.heap H locs) (hsize : ls.size = c.maxLocals)
    (htext : (text == notModelled) = false) (hnb : (stringBytes (stringToUtf16 text)).size ≤ nb) (hnb1 : nb ≤ 1000)
    (hRframes : names.length + 4 < R.frames) (hRlocals : (rest.map fun v => v.category).sum + 10240 ≤ R.locals) (hshort : 13 * names.length + 55 ≤ 10240) (hRcells : cells + 3 ≤ R.cells) (hRslots : slots + (nb + 10) ≤ R.slots) (hlocks : meth.locks = false)
    (k : ∀ (H1 : Heap) (q9 : Addr) (ce : Cell), H.size ≤ H1.size → (∀ q : Nat, q < H.size → H1[q]? = H[q]?) → va_S A s.heap H1 locs → H1[q9]? = some ce → ce.vm = .none → s.vm.findClass cls = some ce.cls → vx_W p l e R s m args below meth c H1 locs (cells + 3) (slots + (nb + 10)) Q (F0 m pc ls rest) q9) :
    vx_Note p l e R s m args below meth c H locs cells slots Q (F0 m pc ls rest) cls text := by
  intro T hT X
  have htr : e.platform.stackTraces = false := (show e.platform.stackTraces = l.stackTraces by rw [X.admits.platform]).trans hl
  have Y := vx_rebase X (R' := { frames := R.frames, locals := R.locals, cells := 3, slots := nb + 10 }) (Nat.le_refl _) (Nat.le_refl _) hRcells hRslots
  have hhp : ((T.setVm s.vm).setFrames (.invoking m args :: below)).heap = H := hT
  have hW0 : s.WarmedH ((T.setVm s.vm).setFrames (.invoking m args :: below)).vm := State.WarmedH.refl s
  have hat' : ∀ w ∈ vx_atM cls names, w.before args ((T.setVm s.vm).setFrames (.invoking m args :: below)) = true := fun w hw => vx_ot_at hW0 rfl (hgood w hw) (hat w hw)
  have hU' : vx_Zq Bundle.tN "UNASSIGNED_STACK" Bundle.steD A ((T.setVm s.vm).setFrames (.invoking m args :: below)) ((T.setVm s.vm).setFrames (.invoking m args :: below)).heap := by rw [hhp]; exact vx_Zq.moved hW0.alike (hU.kept hS.2.1)
  have hN' : vx_Zq Bundle.tN "SUPPRESSED_SENTINEL" Bundle.listD A ((T.setVm s.vm).setFrames (.invoking m args :: below)) ((T.setVm s.vm).setFrames (.invoking m args :: below)).heap := by rw [hhp]; exact vx_Zq.moved hW0.alike (hN.kept hS.2.1)
  obtain ⟨S, q, ce, st, Z, hce, hcl', hv⟩ := vx_vmAt Y hexec htr (cls := cls) (names := names) (text := text) hcls hnames hsoe hoom (vx_own hat' (vx_isRefq hU'.1) (vx_isRefq hN'.1) hU'.2.word hN'.2.word) (fun x hx => nomatch hx) htext
    (by rw [Launch.admits_arrayLengthLimit X.admits]; omega) (by rw [Launch.admits_maxHeapBytes X.admits]; simp only [componentBytes]; omega)
    (g := F0 m pc ls rest) rfl hsize hRframes (by show 2 * 0 + (rest.map fun v => v.category).sum + 10240 ≤ R.locals; omega) hshort (by show 0 + 3 ≤ 3; omega) (by show 0 + (_ + 4 + 6) ≤ nb + 10; omega) hlocks
  obtain ⟨f1, f2⟩ := vx_frame Z.same
  have f1' : H.size ≤ S.heap.size := by rw [← hT]; exact f1
  have f2' : ∀ q : Nat, q < H.size → S.heap[q]? = H[q]? := fun q hq => by
    rw [← hT]
    exact f2 q (by rw [← hT] at hq; exact hq) (fun z hz => nomatch hz)
  have X5 := vx_back9 X Y Z
  have X6 : Stand p l e R s m args below meth c S locs (cells + 3) (slots + (nb + 10)) := { X5 with same := X5.same.mono (by omega) (by omega) }
  obtain ⟨t, a1, b1⟩ := k S.heap q ce f1' f2' ⟨Nat.le_trans hS.1 f1', fun q h1 h2 => (f2' q (Nat.lt_of_lt_of_le h1 hS.1)).trans (hS.2.1 q h1 h2), hS.2.2⟩ hce hv hcl' S rfl X6
  exact ⟨t, st t a1, b1⟩
/-- from the machine's note that NullPointerException is thrown here -/
def vx_NoteN (p : Program) (l : Launch) (e : Env) (R : Room) (s : State) (m : MethodId) (args : Array Value) (below : List Frame) (meth : Method) (c : Code) (H : Heap) (locs : List Loc) (cells slots : Nat) (Q : State → Prop) (g : JFrame) : Prop :=
  ∀ T : State, T.heap = H → Stand p l e R s m args below meth c T locs cells slots → ∃ t, Steps p.tables e below ((T.setTop g).pushFrame (.throwNew "java/lang/NullPointerException" none none)) t ∧ Q t
theorem vx_npe {pc : Nat} {ls : Array Slot} {rest : List Value} {Q : State → Prop} (hexec : p.tables.exec = Jvm.exec) (hl : l.stackTraces = false) {nb : Nat} {A : Nat → Prop}
    (hat : ∀ w ∈ vx_atN nb, w.before args s = true) (hgood : ∀ w ∈ vx_atN nb, vx_ot w = true)
    (hU : vx_Zq Bundle.tN "UNASSIGNED_STACK" Bundle.steD A s s.heap) (hN : vx_Zq Bundle.tN "SUPPRESSED_SENTINEL" Bundle.listD A s s.heap) (hS : va_S A s.heap H locs) (hsize : ls.size = c.maxLocals)
    (hRframes : 7 < R.frames) (hRlocals : (rest.map fun v => v.category).sum + 10240 ≤ R.locals) (hRcells : cells + 1 ≤ R.cells) (hRslots : slots + nb ≤ R.slots) (hlocks : meth.locks = false)
    (k : ∀ (H1 : Heap) (q9 : Addr) (ce : Cell), H.size ≤ H1.size → (∀ q : Nat, q < H.size → H1[q]? = H[q]?) → va_S A s.heap H1 locs → H1[q9]? = some ce → ce.vm = .none → s.vm.findClass "java/lang/NullPointerException" = some ce.cls → vx_W p l e R s m args below meth c H1 locs (cells + 1) (slots + nb) Q (F0 m pc ls rest) q9) :
    vx_NoteN p l e R s m args below meth c H locs cells slots Q (F0 m pc ls rest) := by
  intro T hT X
  have htr : e.platform.stackTraces = false := (show e.platform.stackTraces = l.stackTraces by rw [X.admits.platform]).trans hl
  have Y := vx_rebase X (R' := { frames := R.frames, locals := R.locals, cells := 1, slots := nb }) (Nat.le_refl _) (Nat.le_refl _) hRcells hRslots
  have hhp : ((T.setVm s.vm).setFrames (.invoking m args :: below)).heap = H := hT
  have hW0 : s.WarmedH ((T.setVm s.vm).setFrames (.invoking m args :: below)).vm := State.WarmedH.refl s
  have hat' : ∀ w ∈ vx_atN nb, w.before args ((T.setVm s.vm).setFrames (.invoking m args :: below)) = true := fun w hw => vx_ot_at hW0 rfl (hgood w hw) (hat w hw)
  have hU' : vx_Zq Bundle.tN "UNASSIGNED_STACK" Bundle.steD A ((T.setVm s.vm).setFrames (.invoking m args :: below)) ((T.setVm s.vm).setFrames (.invoking m args :: below)).heap := by rw [hhp]; exact vx_Zq.moved hW0.alike (hU.kept hS.2.1)
  have hN' : vx_Zq Bundle.tN "SUPPRESSED_SENTINEL" Bundle.listD A ((T.setVm s.vm).setFrames (.invoking m args :: below)) ((T.setVm s.vm).setFrames (.invoking m args :: below)).heap := by rw [hhp]; exact vx_Zq.moved hW0.alike (hN.kept hS.2.1)
  obtain ⟨S, q, ce, st, Z, hce, hcl', hv⟩ := vx_npeAt Y hexec htr (n := nb) (vx_own hat' (vx_isRefq hU'.1) (vx_isRefq hN'.1) hU'.2.word hN'.2.word) (fun x hx => nomatch hx)
    (g := F0 m pc ls rest) rfl hsize hRframes (by show 2 * 0 + (rest.map fun v => v.category).sum + 10240 ≤ R.locals; omega) (by show 0 + 1 ≤ 1; omega) (by show 0 + nb ≤ nb; omega) hlocks
  obtain ⟨f1, f2⟩ := vx_frame Z.same
  have f1' : H.size ≤ S.heap.size := by rw [← hT]; exact f1
  have f2' : ∀ q : Nat, q < H.size → S.heap[q]? = H[q]? := fun q hq => by
    rw [← hT]
    exact f2 q (by rw [← hT] at hq; exact hq) (fun z hz => nomatch hz)
  have X5 := vx_back9 X Y Z
  have X6 : Stand p l e R s m args below meth c S locs (cells + 1) (slots + nb) := { X5 with same := X5.same.mono (by omega) (by omega) }
  obtain ⟨t, a1, b1⟩ := k S.heap q ce f1' f2' ⟨Nat.le_trans hS.1 f1', fun q h1 h2 => (f2' q (Nat.lt_of_lt_of_le h1 hS.1)).trans (hS.2.1 q h1 h2), hS.2.2⟩ hce hv hcl' S rfl X6
  exact ⟨t, st t a1, b1⟩
variable {Q : State → Prop} {cc : ByteArray} {pc : Nat} {ls : Array Slot} {rest : List Value}
theorem vx_idivZ (hexec : p.tables.exec = Jvm.exec) (hb : c.code = cc) {a b : Int32} (h0 : b = 0) (d : decode cc pc = .ok (.idiv, 1)) (k : vx_Note p l e R s m args below meth c H locs cells slots Q (F0 m pc ls rest) "java/lang/ArithmeticException" "/ by zero") :
    W p l e R s m args below meth c H locs cells slots Q (F0 m pc ls (.int b :: .int a :: rest)) := by
  intro T hT X
  obtain ⟨t, st, q⟩ := k T hT X
  exact ⟨t, X.idivZero hexec (g := F0 m pc ls (.int b :: .int a :: rest)) rfl (a := a) (rest := rest) (by rw [h0]) (by rw [hb]; exact d) t st, q⟩
theorem vx_iremZ (hexec : p.tables.exec = Jvm.exec) (hb : c.code = cc) {a b : Int32} (h0 : b = 0) (d : decode cc pc = .ok (.irem, 1)) (k : vx_Note p l e R s m args below meth c H locs cells slots Q (F0 m pc ls rest) "java/lang/ArithmeticException" "/ by zero") :
    W p l e R s m args below meth c H locs cells slots Q (F0 m pc ls (.int b :: .int a :: rest)) := by
  intro T hT X
  obtain ⟨t, st, q⟩ := k T hT X
  exact ⟨t, X.iremZero hexec (g := F0 m pc ls (.int b :: .int a :: rest)) rfl (a := a) (rest := rest) (by rw [h0]) (by rw [hb]; exact d) t st, q⟩
theorem vx_ldivZ (hexec : p.tables.exec = Jvm.exec) (hb : c.code = cc) {a b : Int64} (h0 : b = 0) (d : decode cc pc = .ok (.ldiv, 1)) (k : vx_Note p l e R s m args below meth c H locs cells slots Q (F0 m pc ls rest) "java/lang/ArithmeticException" "/ by zero") :
    W p l e R s m args below meth c H locs cells slots Q (F0 m pc ls (.long b :: .long a :: rest)) := by
  intro T hT X
  obtain ⟨t, st, q⟩ := k T hT X
  exact ⟨t, X.ldivZero hexec (g := F0 m pc ls (.long b :: .long a :: rest)) rfl (a := a) (rest := rest) (by rw [h0]) (by rw [hb]; exact d) t st, q⟩
theorem vx_lremZ (hexec : p.tables.exec = Jvm.exec) (hb : c.code = cc) {a b : Int64} (h0 : b = 0) (d : decode cc pc = .ok (.lrem, 1)) (k : vx_Note p l e R s m args below meth c H locs cells slots Q (F0 m pc ls rest) "java/lang/ArithmeticException" "/ by zero") :
    W p l e R s m args below meth c H locs cells slots Q (F0 m pc ls (.long b :: .long a :: rest)) := by
  intro T hT X
  obtain ⟨t, st, q⟩ := k T hT X
  exact ⟨t, X.lremZero hexec (g := F0 m pc ls (.long b :: .long a :: rest)) rfl (a := a) (rest := rest) (by rw [h0]) (by rw [hb]; exact d) t st, q⟩
theorem vx_ialdZ {D : va_G} {cl : List vw_C} {ws : va_W} {tys : List (ClassId × FieldType)} {a : Nat} (hexec : p.tables.exec = Jvm.exec) (hb : c.code = cc) (hK : va_K D cl tys s) (hP : va_P D cl ws H) (q0 t0 : Nat) {cA : ClassId} {n : Nat} {f : Nat → Int32} (ha : ws[q0]? = some (a, .inl (cA, n, .inl f))) (ht : tys[t0]? = some (cA, .int)) {i : Int32} (hout : ¬ vp_in i n) (hdg : decode cc pc = .ok (.iaload, 1))
    (k : ∀ tx : String, tx = (toString "Index " ++ toString i ++ toString " out of bounds for length " ++ toString n : String) → vx_Note p l e R s m args below meth c H locs cells slots Q (F0 m pc ls rest) "java/lang/ArrayIndexOutOfBoundsException" tx) : W p l e R s m args below meth c H locs cells slots Q (F0 m pc ls (.int i :: .ref a :: rest)) := by
  intro T hT X
  obtain ⟨t, st, q⟩ := k _ rfl T hT X
  refine ⟨t, ?_, q⟩
  have h1 := X.ialoadOut hexec (by rw [hT]; exact hP q0 _ ha) ((hK.2 t0 _ ht).1 n (fun j => .int (f j))) (j := i) (by show (i < 0 ∨ (arrV _ _ _).slots.size ≤ _); rw [arrV_size]; exact Classical.byContradiction hout) (g := F0 m pc ls (.int i :: .ref a :: rest)) rfl (rest := rest) rfl (by rw [hb]; exact hdg) t
  simp only [arrV_size] at h1
  exact h1 st
theorem vx_iastZ {D : va_G} {cl : List vw_C} {ws : va_W} {tys : List (ClassId × FieldType)} {a : Nat} (hexec : p.tables.exec = Jvm.exec) (hb : c.code = cc) (hK : va_K D cl tys s) (hP : va_P D cl ws H) (q0 t0 : Nat) {cA : ClassId} {n : Nat} {f : Nat → Int32} (ha : ws[q0]? = some (a, .inl (cA, n, .inl f))) (ht : tys[t0]? = some (cA, .int)) {i : Int32} {x : Int32} (hout : ¬ vp_in i n) (hdg : decode cc pc = .ok (.iastore, 1))
    (k : ∀ tx : String, tx = (toString "Index " ++ toString i ++ toString " out of bounds for length " ++ toString n : String) → vx_Note p l e R s m args below meth c H locs cells slots Q (F0 m pc ls rest) "java/lang/ArrayIndexOutOfBoundsException" tx) : W p l e R s m args below meth c H locs cells slots Q (F0 m pc ls (.int x :: .int i :: .ref a :: rest)) := by
  intro T hT X
  obtain ⟨t, st, q⟩ := k _ rfl T hT X
  refine ⟨t, ?_, q⟩
  have h1 := X.iastoreOut hexec (by rw [hT]; exact hP q0 _ ha) ((hK.2 t0 _ ht).1 n (fun j => .int (f j))) (j := i) (by show (i < 0 ∨ (arrV _ _ _).slots.size ≤ _); rw [arrV_size]; exact Classical.byContradiction hout) (g := F0 m pc ls (.int x :: .int i :: .ref a :: rest)) rfl (rest := rest) rfl (by rw [hb]; exact hdg) t
  simp only [arrV_size] at h1
  exact h1 st
theorem vx_baldZ {D : va_G} {cl : List vw_C} {ws : va_W} {tys : List (ClassId × FieldType)} {a : Nat} (hexec : p.tables.exec = Jvm.exec) (hb : c.code = cc) (hK : va_K D cl tys s) (hP : va_P D cl ws H) (q0 t0 : Nat) {cA : ClassId} {n : Nat} {f : Nat → Int32} (ha : ws[q0]? = some (a, .inl (cA, n, .inl f))) (ht : tys[t0]? = some (cA, .byte)) {i : Int32} (hout : ¬ vp_in i n) (hdg : decode cc pc = .ok (.baload, 1))
    (k : ∀ tx : String, tx = (toString "Index " ++ toString i ++ toString " out of bounds for length " ++ toString n : String) → vx_Note p l e R s m args below meth c H locs cells slots Q (F0 m pc ls rest) "java/lang/ArrayIndexOutOfBoundsException" tx) : W p l e R s m args below meth c H locs cells slots Q (F0 m pc ls (.int i :: .ref a :: rest)) := by
  intro T hT X
  obtain ⟨t, st, q⟩ := k _ rfl T hT X
  refine ⟨t, ?_, q⟩
  have h1 := X.baloadOut hexec (by rw [hT]; exact hP q0 _ ha) ((hK.2 t0 _ ht).1 n (fun j => .int (f j))) (j := i) (by show (i < 0 ∨ (arrV _ _ _).slots.size ≤ _); rw [arrV_size]; exact Classical.byContradiction hout) (g := F0 m pc ls (.int i :: .ref a :: rest)) rfl (rest := rest) rfl (by rw [hb]; exact hdg) t
  simp only [arrV_size] at h1
  exact h1 st
theorem vx_bastZ {D : va_G} {cl : List vw_C} {ws : va_W} {tys : List (ClassId × FieldType)} {a : Nat} (hexec : p.tables.exec = Jvm.exec) (hb : c.code = cc) (hK : va_K D cl tys s) (hP : va_P D cl ws H) (q0 t0 : Nat) {cA : ClassId} {n : Nat} {f : Nat → Int32} (ha : ws[q0]? = some (a, .inl (cA, n, .inl f))) (ht : tys[t0]? = some (cA, .byte)) {i : Int32} {x : Int32} (hout : ¬ vp_in i n) (hdg : decode cc pc = .ok (.bastore, 1))
    (k : ∀ tx : String, tx = (toString "Index " ++ toString i ++ toString " out of bounds for length " ++ toString n : String) → vx_Note p l e R s m args below meth c H locs cells slots Q (F0 m pc ls rest) "java/lang/ArrayIndexOutOfBoundsException" tx) : W p l e R s m args below meth c H locs cells slots Q (F0 m pc ls (.int x :: .int i :: .ref a :: rest)) := by
  intro T hT X
  obtain ⟨t, st, q⟩ := k _ rfl T hT X
  refine ⟨t, ?_, q⟩
  have h1 := X.bastoreOut hexec (by rw [hT]; exact hP q0 _ ha) ((hK.2 t0 _ ht).1 n (fun j => .int (f j))) (j := i) (by show (i < 0 ∨ (arrV _ _ _).slots.size ≤ _); rw [arrV_size]; exact Classical.byContradiction hout) (g := F0 m pc ls (.int x :: .int i :: .ref a :: rest)) rfl (rest := rest) rfl (by rw [hb]; exact hdg) t
  simp only [arrV_size] at h1
  exact h1 st
theorem vx_zaldZ {D : va_G} {cl : List vw_C} {ws : va_W} {tys : List (ClassId × FieldType)} {a : Nat} (hexec : p.tables.exec = Jvm.exec) (hb : c.code = cc) (hK : va_K D cl tys s) (hP : va_P D cl ws H) (q0 t0 : Nat) {cA : ClassId} {n : Nat} {f : Nat → Int32} (ha : ws[q0]? = some (a, .inl (cA, n, .inl f))) (ht : tys[t0]? = some (cA, .boolean)) {i : Int32} (hout : ¬ vp_in i n) (hdg : decode cc pc = .ok (.baload, 1))
    (k : ∀ tx : String, tx = (toString "Index " ++ toString i ++ toString " out of bounds for length " ++ toString n : String) → vx_Note p l e R s m args below meth c H locs cells slots Q (F0 m pc ls rest) "java/lang/ArrayIndexOutOfBoundsException" tx) : W p l e R s m args below meth c H locs cells slots Q (F0 m pc ls (.int i :: .ref a :: rest)) := by
  intro T hT X
  obtain ⟨t, st, q⟩ := k _ rfl T hT X
  refine ⟨t, ?_, q⟩
  have h1 := X.baloadOut hexec (by rw [hT]; exact hP q0 _ ha) ((hK.2 t0 _ ht).1 n (fun j => .int (f j))) (j := i) (by show (i < 0 ∨ (arrV _ _ _).slots.size ≤ _); rw [arrV_size]; exact Classical.byContradiction hout) (g := F0 m pc ls (.int i :: .ref a :: rest)) rfl (rest := rest) rfl (by rw [hb]; exact hdg) t
  simp only [arrV_size] at h1
  exact h1 st
theorem vx_zastZ {D : va_G} {cl : List vw_C} {ws : va_W} {tys : List (ClassId × FieldType)} {a : Nat} (hexec : p.tables.exec = Jvm.exec) (hb : c.code = cc) (hK : va_K D cl tys s) (hP : va_P D cl ws H) (q0 t0 : Nat) {cA : ClassId} {n : Nat} {f : Nat → Int32} (ha : ws[q0]? = some (a, .inl (cA, n, .inl f))) (ht : tys[t0]? = some (cA, .boolean)) {i : Int32} {x : Int32} (hout : ¬ vp_in i n) (hdg : decode cc pc = .ok (.bastore, 1))
    (k : ∀ tx : String, tx = (toString "Index " ++ toString i ++ toString " out of bounds for length " ++ toString n : String) → vx_Note p l e R s m args below meth c H locs cells slots Q (F0 m pc ls rest) "java/lang/ArrayIndexOutOfBoundsException" tx) : W p l e R s m args below meth c H locs cells slots Q (F0 m pc ls (.int x :: .int i :: .ref a :: rest)) := by
  intro T hT X
  obtain ⟨t, st, q⟩ := k _ rfl T hT X
  refine ⟨t, ?_, q⟩
  have h1 := X.bastoreOut hexec (by rw [hT]; exact hP q0 _ ha) ((hK.2 t0 _ ht).1 n (fun j => .int (f j))) (j := i) (by show (i < 0 ∨ (arrV _ _ _).slots.size ≤ _); rw [arrV_size]; exact Classical.byContradiction hout) (g := F0 m pc ls (.int x :: .int i :: .ref a :: rest)) rfl (rest := rest) rfl (by rw [hb]; exact hdg) t
  simp only [arrV_size] at h1
  exact h1 st
theorem vx_caldZ {D : va_G} {cl : List vw_C} {ws : va_W} {tys : List (ClassId × FieldType)} {a : Nat} (hexec : p.tables.exec = Jvm.exec) (hb : c.code = cc) (hK : va_K D cl tys s) (hP : va_P D cl ws H) (q0 t0 : Nat) {cA : ClassId} {n : Nat} {f : Nat → Int32} (ha : ws[q0]? = some (a, .inl (cA, n, .inl f))) (ht : tys[t0]? = some (cA, .char)) {i : Int32} (hout : ¬ vp_in i n) (hdg : decode cc pc = .ok (.caload, 1))
    (k : ∀ tx : String, tx = (toString "Index " ++ toString i ++ toString " out of bounds for length " ++ toString n : String) → vx_Note p l e R s m args below meth c H locs cells slots Q (F0 m pc ls rest) "java/lang/ArrayIndexOutOfBoundsException" tx) : W p l e R s m args below meth c H locs cells slots Q (F0 m pc ls (.int i :: .ref a :: rest)) := by
  intro T hT X
  obtain ⟨t, st, q⟩ := k _ rfl T hT X
  refine ⟨t, ?_, q⟩
  have h1 := X.caloadOut hexec (by rw [hT]; exact hP q0 _ ha) ((hK.2 t0 _ ht).1 n (fun j => .int (f j))) (j := i) (by show (i < 0 ∨ (arrV _ _ _).slots.size ≤ _); rw [arrV_size]; exact Classical.byContradiction hout) (g := F0 m pc ls (.int i :: .ref a :: rest)) rfl (rest := rest) rfl (by rw [hb]; exact hdg) t
  simp only [arrV_size] at h1
  exact h1 st
theorem vx_castZ {D : va_G} {cl : List vw_C} {ws : va_W} {tys : List (ClassId × FieldType)} {a : Nat} (hexec : p.tables.exec = Jvm.exec) (hb : c.code = cc) (hK : va_K D cl tys s) (hP : va_P D cl ws H) (q0 t0 : Nat) {cA : ClassId} {n : Nat} {f : Nat → Int32} (ha : ws[q0]? = some (a, .inl (cA, n, .inl f))) (ht : tys[t0]? = some (cA, .char)) {i : Int32} {x : Int32} (hout : ¬ vp_in i n) (hdg : decode cc pc = .ok (.castore, 1))
    (k : ∀ tx : String, tx = (toString "Index " ++ toString i ++ toString " out of bounds for length " ++ toString n : String) → vx_Note p l e R s m args below meth c H locs cells slots Q (F0 m pc ls rest) "java/lang/ArrayIndexOutOfBoundsException" tx) : W p l e R s m args below meth c H locs cells slots Q (F0 m pc ls (.int x :: .int i :: .ref a :: rest)) := by
  intro T hT X
  obtain ⟨t, st, q⟩ := k _ rfl T hT X
  refine ⟨t, ?_, q⟩
  have h1 := X.castoreOut hexec (by rw [hT]; exact hP q0 _ ha) ((hK.2 t0 _ ht).1 n (fun j => .int (f j))) (j := i) (by show (i < 0 ∨ (arrV _ _ _).slots.size ≤ _); rw [arrV_size]; exact Classical.byContradiction hout) (g := F0 m pc ls (.int x :: .int i :: .ref a :: rest)) rfl (rest := rest) rfl (by rw [hb]; exact hdg) t
  simp only [arrV_size] at h1
  exact h1 st
theorem vx_saldZ {D : va_G} {cl : List vw_C} {ws : va_W} {tys : List (ClassId × FieldType)} {a : Nat} (hexec : p.tables.exec = Jvm.exec) (hb : c.code = cc) (hK : va_K D cl tys s) (hP : va_P D cl ws H) (q0 t0 : Nat) {cA : ClassId} {n : Nat} {f : Nat → Int32} (ha : ws[q0]? = some (a, .inl (cA, n, .inl f))) (ht : tys[t0]? = some (cA, .short)) {i : Int32} (hout : ¬ vp_in i n) (hdg : decode cc pc = .ok (.saload, 1))
    (k : ∀ tx : String, tx = (toString "Index " ++ toString i ++ toString " out of bounds for length " ++ toString n : String) → vx_Note p l e R s m args below meth c H locs cells slots Q (F0 m pc ls rest) "java/lang/ArrayIndexOutOfBoundsException" tx) : W p l e R s m args below meth c H locs cells slots Q (F0 m pc ls (.int i :: .ref a :: rest)) := by
  intro T hT X
  obtain ⟨t, st, q⟩ := k _ rfl T hT X
  refine ⟨t, ?_, q⟩
  have h1 := X.saloadOut hexec (by rw [hT]; exact hP q0 _ ha) ((hK.2 t0 _ ht).1 n (fun j => .int (f j))) (j := i) (by show (i < 0 ∨ (arrV _ _ _).slots.size ≤ _); rw [arrV_size]; exact Classical.byContradiction hout) (g := F0 m pc ls (.int i :: .ref a :: rest)) rfl (rest := rest) rfl (by rw [hb]; exact hdg) t
  simp only [arrV_size] at h1
  exact h1 st
theorem vx_sastZ {D : va_G} {cl : List vw_C} {ws : va_W} {tys : List (ClassId × FieldType)} {a : Nat} (hexec : p.tables.exec = Jvm.exec) (hb : c.code = cc) (hK : va_K D cl tys s) (hP : va_P D cl ws H) (q0 t0 : Nat) {cA : ClassId} {n : Nat} {f : Nat → Int32} (ha : ws[q0]? = some (a, .inl (cA, n, .inl f))) (ht : tys[t0]? = some (cA, .short)) {i : Int32} {x : Int32} (hout : ¬ vp_in i n) (hdg : decode cc pc = .ok (.sastore, 1))
    (k : ∀ tx : String, tx = (toString "Index " ++ toString i ++ toString " out of bounds for length " ++ toString n : String) → vx_Note p l e R s m args below meth c H locs cells slots Q (F0 m pc ls rest) "java/lang/ArrayIndexOutOfBoundsException" tx) : W p l e R s m args below meth c H locs cells slots Q (F0 m pc ls (.int x :: .int i :: .ref a :: rest)) := by
  intro T hT X
  obtain ⟨t, st, q⟩ := k _ rfl T hT X
  refine ⟨t, ?_, q⟩
  have h1 := X.sastoreOut hexec (by rw [hT]; exact hP q0 _ ha) ((hK.2 t0 _ ht).1 n (fun j => .int (f j))) (j := i) (by show (i < 0 ∨ (arrV _ _ _).slots.size ≤ _); rw [arrV_size]; exact Classical.byContradiction hout) (g := F0 m pc ls (.int x :: .int i :: .ref a :: rest)) rfl (rest := rest) rfl (by rw [hb]; exact hdg) t
  simp only [arrV_size] at h1
  exact h1 st
theorem vx_laldZ {D : va_G} {cl : List vw_C} {ws : va_W} {tys : List (ClassId × FieldType)} {a : Nat} (hexec : p.tables.exec = Jvm.exec) (hb : c.code = cc) (hK : va_K D cl tys s) (hP : va_P D cl ws H) (q0 t0 : Nat) {cA : ClassId} {n : Nat} {f : Nat → Int64} (ha : ws[q0]? = some (a, .inl (cA, n, .inr (.inl f)))) (ht : tys[t0]? = some (cA, .long)) {i : Int32} (hout : ¬ vp_in i n) (hdg : decode cc pc = .ok (.laload, 1))
    (k : ∀ tx : String, tx = (toString "Index " ++ toString i ++ toString " out of bounds for length " ++ toString n : String) → vx_Note p l e R s m args below meth c H locs cells slots Q (F0 m pc ls rest) "java/lang/ArrayIndexOutOfBoundsException" tx) : W p l e R s m args below meth c H locs cells slots Q (F0 m pc ls (.int i :: .ref a :: rest)) := by
  intro T hT X
  obtain ⟨t, st, q⟩ := k _ rfl T hT X
  refine ⟨t, ?_, q⟩
  have h1 := X.laloadOut hexec (by rw [hT]; exact hP q0 _ ha) ((hK.2 t0 _ ht).1 n (fun j => .long (f j))) (j := i) (by show (i < 0 ∨ (arrV _ _ _).slots.size ≤ _); rw [arrV_size]; exact Classical.byContradiction hout) (g := F0 m pc ls (.int i :: .ref a :: rest)) rfl (rest := rest) rfl (by rw [hb]; exact hdg) t
  simp only [arrV_size] at h1
  exact h1 st
theorem vx_lastZ {D : va_G} {cl : List vw_C} {ws : va_W} {tys : List (ClassId × FieldType)} {a : Nat} (hexec : p.tables.exec = Jvm.exec) (hb : c.code = cc) (hK : va_K D cl tys s) (hP : va_P D cl ws H) (q0 t0 : Nat) {cA : ClassId} {n : Nat} {f : Nat → Int64} (ha : ws[q0]? = some (a, .inl (cA, n, .inr (.inl f)))) (ht : tys[t0]? = some (cA, .long)) {i : Int32} {x : Int64} (hout : ¬ vp_in i n) (hdg : decode cc pc = .ok (.lastore, 1))
    (k : ∀ tx : String, tx = (toString "Index " ++ toString i ++ toString " out of bounds for length " ++ toString n : String) → vx_Note p l e R s m args below meth c H locs cells slots Q (F0 m pc ls rest) "java/lang/ArrayIndexOutOfBoundsException" tx) : W p l e R s m args below meth c H locs cells slots Q (F0 m pc ls (.long x :: .int i :: .ref a :: rest)) := by
  intro T hT X
  obtain ⟨t, st, q⟩ := k _ rfl T hT X
  refine ⟨t, ?_, q⟩
  have h1 := X.lastoreOut hexec (by rw [hT]; exact hP q0 _ ha) ((hK.2 t0 _ ht).1 n (fun j => .long (f j))) (j := i) (by show (i < 0 ∨ (arrV _ _ _).slots.size ≤ _); rw [arrV_size]; exact Classical.byContradiction hout) (g := F0 m pc ls (.long x :: .int i :: .ref a :: rest)) rfl (rest := rest) rfl (by rw [hb]; exact hdg) t
  simp only [arrV_size] at h1
  exact h1 st
theorem vx_faldZ {D : va_G} {cl : List vw_C} {ws : va_W} {tys : List (ClassId × FieldType)} {a : Nat} (hexec : p.tables.exec = Jvm.exec) (hb : c.code = cc) (hK : va_K D cl tys s) (hP : va_P D cl ws H) (q0 t0 : Nat) {cA : ClassId} {n : Nat} {f : Nat → UInt32} (ha : ws[q0]? = some (a, .inl (cA, n, .inr (.inr (.inl f))))) (ht : tys[t0]? = some (cA, .float)) {i : Int32} (hout : ¬ vp_in i n) (hdg : decode cc pc = .ok (.faload, 1))
    (k : ∀ tx : String, tx = (toString "Index " ++ toString i ++ toString " out of bounds for length " ++ toString n : String) → vx_Note p l e R s m args below meth c H locs cells slots Q (F0 m pc ls rest) "java/lang/ArrayIndexOutOfBoundsException" tx) : W p l e R s m args below meth c H locs cells slots Q (F0 m pc ls (.int i :: .ref a :: rest)) := by
  intro T hT X
  obtain ⟨t, st, q⟩ := k _ rfl T hT X
  refine ⟨t, ?_, q⟩
  have h1 := X.faloadOut hexec (by rw [hT]; exact hP q0 _ ha) ((hK.2 t0 _ ht).1 n (fun j => .float (f j))) (j := i) (by show (i < 0 ∨ (arrV _ _ _).slots.size ≤ _); rw [arrV_size]; exact Classical.byContradiction hout) (g := F0 m pc ls (.int i :: .ref a :: rest)) rfl (rest := rest) rfl (by rw [hb]; exact hdg) t
  simp only [arrV_size] at h1
  exact h1 st
theorem vx_fastZ {D : va_G} {cl : List vw_C} {ws : va_W} {tys : List (ClassId × FieldType)} {a : Nat} (hexec : p.tables.exec = Jvm.exec) (hb : c.code = cc) (hK : va_K D cl tys s) (hP : va_P D cl ws H) (q0 t0 : Nat) {cA : ClassId} {n : Nat} {f : Nat → UInt32} (ha : ws[q0]? = some (a, .inl (cA, n, .inr (.inr (.inl f))))) (ht : tys[t0]? = some (cA, .float)) {i : Int32} {x : UInt32} (hout : ¬ vp_in i n) (hdg : decode cc pc = .ok (.fastore, 1))
    (k : ∀ tx : String, tx = (toString "Index " ++ toString i ++ toString " out of bounds for length " ++ toString n : String) → vx_Note p l e R s m args below meth c H locs cells slots Q (F0 m pc ls rest) "java/lang/ArrayIndexOutOfBoundsException" tx) : W p l e R s m args below meth c H locs cells slots Q (F0 m pc ls (.float x :: .int i :: .ref a :: rest)) := by
  intro T hT X
  obtain ⟨t, st, q⟩ := k _ rfl T hT X
  refine ⟨t, ?_, q⟩
  have h1 := X.fastoreOut hexec (by rw [hT]; exact hP q0 _ ha) ((hK.2 t0 _ ht).1 n (fun j => .float (f j))) (j := i) (by show (i < 0 ∨ (arrV _ _ _).slots.size ≤ _); rw [arrV_size]; exact Classical.byContradiction hout) (g := F0 m pc ls (.float x :: .int i :: .ref a :: rest)) rfl (rest := rest) rfl (by rw [hb]; exact hdg) t
  simp only [arrV_size] at h1
  exact h1 st
theorem vx_daldZ {D : va_G} {cl : List vw_C} {ws : va_W} {tys : List (ClassId × FieldType)} {a : Nat} (hexec : p.tables.exec = Jvm.exec) (hb : c.code = cc) (hK : va_K D cl tys s) (hP : va_P D cl ws H) (q0 t0 : Nat) {cA : ClassId} {n : Nat} {f : Nat → UInt64} (ha : ws[q0]? = some (a, .inl (cA, n, .inr (.inr (.inr (.inl f)))))) (ht : tys[t0]? = some (cA, .double)) {i : Int32} (hout : ¬ vp_in i n) (hdg : decode cc pc = .ok (.daload, 1))
    (k : ∀ tx : String, tx = (toString "Index " ++ toString i ++ toString " out of bounds for length " ++ toString n : String) → vx_Note p l e R s m args below meth c H locs cells slots Q (F0 m pc ls rest) "java/lang/ArrayIndexOutOfBoundsException" tx) : W p l e R s m args below meth c H locs cells slots Q (F0 m pc ls (.int i :: .ref a :: rest)) := by
  intro T hT X
  obtain ⟨t, st, q⟩ := k _ rfl T hT X
  refine ⟨t, ?_, q⟩
  have h1 := X.daloadOut hexec (by rw [hT]; exact hP q0 _ ha) ((hK.2 t0 _ ht).1 n (fun j => .double (f j))) (j := i) (by show (i < 0 ∨ (arrV _ _ _).slots.size ≤ _); rw [arrV_size]; exact Classical.byContradiction hout) (g := F0 m pc ls (.int i :: .ref a :: rest)) rfl (rest := rest) rfl (by rw [hb]; exact hdg) t
  simp only [arrV_size] at h1
  exact h1 st
theorem vx_dastZ {D : va_G} {cl : List vw_C} {ws : va_W} {tys : List (ClassId × FieldType)} {a : Nat} (hexec : p.tables.exec = Jvm.exec) (hb : c.code = cc) (hK : va_K D cl tys s) (hP : va_P D cl ws H) (q0 t0 : Nat) {cA : ClassId} {n : Nat} {f : Nat → UInt64} (ha : ws[q0]? = some (a, .inl (cA, n, .inr (.inr (.inr (.inl f)))))) (ht : tys[t0]? = some (cA, .double)) {i : Int32} {x : UInt64} (hout : ¬ vp_in i n) (hdg : decode cc pc = .ok (.dastore, 1))
    (k : ∀ tx : String, tx = (toString "Index " ++ toString i ++ toString " out of bounds for length " ++ toString n : String) → vx_Note p l e R s m args below meth c H locs cells slots Q (F0 m pc ls rest) "java/lang/ArrayIndexOutOfBoundsException" tx) : W p l e R s m args below meth c H locs cells slots Q (F0 m pc ls (.double x :: .int i :: .ref a :: rest)) := by
  intro T hT X
  obtain ⟨t, st, q⟩ := k _ rfl T hT X
  refine ⟨t, ?_, q⟩
  have h1 := X.dastoreOut hexec (by rw [hT]; exact hP q0 _ ha) ((hK.2 t0 _ ht).1 n (fun j => .double (f j))) (j := i) (by show (i < 0 ∨ (arrV _ _ _).slots.size ≤ _); rw [arrV_size]; exact Classical.byContradiction hout) (g := F0 m pc ls (.double x :: .int i :: .ref a :: rest)) rfl (rest := rest) rfl (by rw [hb]; exact hdg) t
  simp only [arrV_size] at h1
  exact h1 st
theorem vx_arraylengthN (hexec : p.tables.exec = Jvm.exec) (hb : c.code = cc) (hdg : decode cc pc = .ok (.arraylength, 1)) (k : vx_NoteN p l e R s m args below meth c H locs cells slots Q (F0 m pc ls rest)) : W p l e R s m args below meth c H locs cells slots Q (F0 m pc ls (.null :: rest)) := by
  intro T hT X
  obtain ⟨t, st, q⟩ := k T hT X
  exact ⟨t, X.arraylengthNull hexec (g := F0 m pc ls (.null :: rest)) rfl (rest := rest) rfl (by rw [hb]; exact hdg) t st, q⟩
theorem vx_ialoadN (hexec : p.tables.exec = Jvm.exec) (hb : c.code = cc) {i : Int32} (hdg : decode cc pc = .ok (.iaload, 1)) (k : vx_NoteN p l e R s m args below meth c H locs cells slots Q (F0 m pc ls rest)) : W p l e R s m args below meth c H locs cells slots Q (F0 m pc ls (.int i :: .null :: rest)) := by
  intro T hT X
  obtain ⟨t, st, q⟩ := k T hT X
  exact ⟨t, X.ialoadNull hexec (g := F0 m pc ls (.int i :: .null :: rest)) rfl (rest := rest) rfl (by rw [hb]; exact hdg) t st, q⟩
theorem vx_laloadN (hexec : p.tables.exec = Jvm.exec) (hb : c.code = cc) {i : Int32} (hdg : decode cc pc = .ok (.laload, 1)) (k : vx_NoteN p l e R s m args below meth c H locs cells slots Q (F0 m pc ls rest)) : W p l e R s m args below meth c H locs cells slots Q (F0 m pc ls (.int i :: .null :: rest)) := by
  intro T hT X
  obtain ⟨t, st, q⟩ := k T hT X
  exact ⟨t, X.laloadNull hexec (g := F0 m pc ls (.int i :: .null :: rest)) rfl (rest := rest) rfl (by rw [hb]; exact hdg) t st, q⟩
theorem vx_faloadN (hexec : p.tables.exec = Jvm.exec) (hb : c.code = cc) {i : Int32} (hdg : decode cc pc = .ok (.faload, 1)) (k : vx_NoteN p l e R s m args below meth c H locs cells slots Q (F0 m pc ls rest)) : W p l e R s m args below meth c H locs cells slots Q (F0 m pc ls (.int i :: .null :: rest)) := by
  intro T hT X
  obtain ⟨t, st, q⟩ := k T hT X
  exact ⟨t, X.faloadNull hexec (g := F0 m pc ls (.int i :: .null :: rest)) rfl (rest := rest) rfl (by rw [hb]; exact hdg) t st, q⟩
theorem vx_daloadN (hexec : p.tables.exec = Jvm.exec) (hb : c.code = cc) {i : Int32} (hdg : decode cc pc = .ok (.daload, 1)) (k : vx_NoteN p l e R s m args below meth c H locs cells slots Q (F0 m pc ls rest)) : W p l e R s m args below meth c H locs cells slots Q (F0 m pc ls (.int i :: .null :: rest)) := by
  intro T hT X
  obtain ⟨t, st, q⟩ := k T hT X
  exact ⟨t, X.daloadNull hexec (g := F0 m pc ls (.int i :: .null :: rest)) rfl (rest := rest) rfl (by rw [hb]; exact hdg) t st, q⟩
theorem vx_aaloadN (hexec : p.tables.exec = Jvm.exec) (hb : c.code = cc) {i : Int32} (hdg : decode cc pc = .ok (.aaload, 1)) (k : vx_NoteN p l e R s m args below meth c H locs cells slots Q (F0 m pc ls rest)) : W p l e R s m args below meth c H locs cells slots Q (F0 m pc ls (.int i :: .null :: rest)) := by
  intro T hT X
  obtain ⟨t, st, q⟩ := k T hT X
  exact ⟨t, X.aaloadNull hexec (g := F0 m pc ls (.int i :: .null :: rest)) rfl (rest := rest) rfl (by rw [hb]; exact hdg) t st, q⟩
theorem vx_baloadN (hexec : p.tables.exec = Jvm.exec) (hb : c.code = cc) {i : Int32} (hdg : decode cc pc = .ok (.baload, 1)) (k : vx_NoteN p l e R s m args below meth c H locs cells slots Q (F0 m pc ls rest)) : W p l e R s m args below meth c H locs cells slots Q (F0 m pc ls (.int i :: .null :: rest)) := by
  intro T hT X
  obtain ⟨t, st, q⟩ := k T hT X
  exact ⟨t, X.baloadNull hexec (g := F0 m pc ls (.int i :: .null :: rest)) rfl (rest := rest) rfl (by rw [hb]; exact hdg) t st, q⟩
theorem vx_caloadN (hexec : p.tables.exec = Jvm.exec) (hb : c.code = cc) {i : Int32} (hdg : decode cc pc = .ok (.caload, 1)) (k : vx_NoteN p l e R s m args below meth c H locs cells slots Q (F0 m pc ls rest)) : W p l e R s m args below meth c H locs cells slots Q (F0 m pc ls (.int i :: .null :: rest)) := by
  intro T hT X
  obtain ⟨t, st, q⟩ := k T hT X
  exact ⟨t, X.caloadNull hexec (g := F0 m pc ls (.int i :: .null :: rest)) rfl (rest := rest) rfl (by rw [hb]; exact hdg) t st, q⟩
theorem vx_saloadN (hexec : p.tables.exec = Jvm.exec) (hb : c.code = cc) {i : Int32} (hdg : decode cc pc = .ok (.saload, 1)) (k : vx_NoteN p l e R s m args below meth c H locs cells slots Q (F0 m pc ls rest)) : W p l e R s m args below meth c H locs cells slots Q (F0 m pc ls (.int i :: .null :: rest)) := by
  intro T hT X
  obtain ⟨t, st, q⟩ := k T hT X
  exact ⟨t, X.saloadNull hexec (g := F0 m pc ls (.int i :: .null :: rest)) rfl (rest := rest) rfl (by rw [hb]; exact hdg) t st, q⟩
theorem vx_iastoreN (hexec : p.tables.exec = Jvm.exec) (hb : c.code = cc) {x : Int32} {i : Int32} (hdg : decode cc pc = .ok (.iastore, 1)) (k : vx_NoteN p l e R s m args below meth c H locs cells slots Q (F0 m pc ls rest)) : W p l e R s m args below meth c H locs cells slots Q (F0 m pc ls (.int x :: .int i :: .null :: rest)) := by
  intro T hT X
  obtain ⟨t, st, q⟩ := k T hT X
  exact ⟨t, X.iastoreNull hexec (g := F0 m pc ls (.int x :: .int i :: .null :: rest)) rfl (rest := rest) rfl (by rw [hb]; exact hdg) t st, q⟩
theorem vx_lastoreN (hexec : p.tables.exec = Jvm.exec) (hb : c.code = cc) {x : Int64} {i : Int32} (hdg : decode cc pc = .ok (.lastore, 1)) (k : vx_NoteN p l e R s m args below meth c H locs cells slots Q (F0 m pc ls rest)) : W p l e R s m args below meth c H locs cells slots Q (F0 m pc ls (.long x :: .int i :: .null :: rest)) := by
  intro T hT X
  obtain ⟨t, st, q⟩ := k T hT X
  exact ⟨t, X.lastoreNull hexec (g := F0 m pc ls (.long x :: .int i :: .null :: rest)) rfl (rest := rest) rfl (by rw [hb]; exact hdg) t st, q⟩
theorem vx_fastoreN (hexec : p.tables.exec = Jvm.exec) (hb : c.code = cc) {x : UInt32} {i : Int32} (hdg : decode cc pc = .ok (.fastore, 1)) (k : vx_NoteN p l e R s m args below meth c H locs cells slots Q (F0 m pc ls rest)) : W p l e R s m args below meth c H locs cells slots Q (F0 m pc ls (.float x :: .int i :: .null :: rest)) := by
  intro T hT X
  obtain ⟨t, st, q⟩ := k T hT X
  exact ⟨t, X.fastoreNull hexec (g := F0 m pc ls (.float x :: .int i :: .null :: rest)) rfl (rest := rest) rfl (by rw [hb]; exact hdg) t st, q⟩
theorem vx_dastoreN (hexec : p.tables.exec = Jvm.exec) (hb : c.code = cc) {x : UInt64} {i : Int32} (hdg : decode cc pc = .ok (.dastore, 1)) (k : vx_NoteN p l e R s m args below meth c H locs cells slots Q (F0 m pc ls rest)) : W p l e R s m args below meth c H locs cells slots Q (F0 m pc ls (.double x :: .int i :: .null :: rest)) := by
  intro T hT X
  obtain ⟨t, st, q⟩ := k T hT X
  exact ⟨t, X.dastoreNull hexec (g := F0 m pc ls (.double x :: .int i :: .null :: rest)) rfl (rest := rest) rfl (by rw [hb]; exact hdg) t st, q⟩
theorem vx_bastoreN (hexec : p.tables.exec = Jvm.exec) (hb : c.code = cc) {x : Int32} {i : Int32} (hdg : decode cc pc = .ok (.bastore, 1)) (k : vx_NoteN p l e R s m args below meth c H locs cells slots Q (F0 m pc ls rest)) : W p l e R s m args below meth c H locs cells slots Q (F0 m pc ls (.int x :: .int i :: .null :: rest)) := by
  intro T hT X
  obtain ⟨t, st, q⟩ := k T hT X
  exact ⟨t, X.bastoreNull hexec (g := F0 m pc ls (.int x :: .int i :: .null :: rest)) rfl (rest := rest) rfl (by rw [hb]; exact hdg) t st, q⟩
theorem vx_castoreN (hexec : p.tables.exec = Jvm.exec) (hb : c.code = cc) {x : Int32} {i : Int32} (hdg : decode cc pc = .ok (.castore, 1)) (k : vx_NoteN p l e R s m args below meth c H locs cells slots Q (F0 m pc ls rest)) : W p l e R s m args below meth c H locs cells slots Q (F0 m pc ls (.int x :: .int i :: .null :: rest)) := by
  intro T hT X
  obtain ⟨t, st, q⟩ := k T hT X
  exact ⟨t, X.castoreNull hexec (g := F0 m pc ls (.int x :: .int i :: .null :: rest)) rfl (rest := rest) rfl (by rw [hb]; exact hdg) t st, q⟩
theorem vx_sastoreN (hexec : p.tables.exec = Jvm.exec) (hb : c.code = cc) {x : Int32} {i : Int32} (hdg : decode cc pc = .ok (.sastore, 1)) (k : vx_NoteN p l e R s m args below meth c H locs cells slots Q (F0 m pc ls rest)) : W p l e R s m args below meth c H locs cells slots Q (F0 m pc ls (.int x :: .int i :: .null :: rest)) := by
  intro T hT X
  obtain ⟨t, st, q⟩ := k T hT X
  exact ⟨t, X.sastoreNull hexec (g := F0 m pc ls (.int x :: .int i :: .null :: rest)) rfl (rest := rest) rfl (by rw [hb]; exact hdg) t st, q⟩
theorem vx_invokeN {own C : String} {index maxL : Nat} {y : MethodName} {bytes : ByteArray} {ret : Option FieldType} (hexec : p.tables.exec = Jvm.exec) (hb : c.code = cc) (hown : s.vm.findClass own = some m.cls) (hlink : (Cond.methodLink own index y).before args s = true) (hinst : (Cond.instanceMethod y).before args s = true) (hcode : (Cond.code y bytes maxL ret).before args s = true) (hsel : (Cond.selects C y y).before args s = true)
    (hx : y.cls ≠ "java/lang/invoke/MethodHandle" ∧ y.cls ≠ "java/lang/invoke/VarHandle") {As : List Value} (hlen : (parseMethodDescriptor y.desc).map (fun d => d.parameters.length) = some As.length) (hdg : decode cc pc = .ok (.invokevirtual index, 3))
    (k : vx_NoteN p l e R s m args below meth c H locs cells slots Q (F0 m pc ls rest)) {st0 : List Value} (hst : st0 = As.reverse ++ .null :: rest) : W p l e R s m args below meth c H locs cells slots Q (F0 m pc ls st0) := by
  intro T hT X
  obtain ⟨r0, r, hn, hrm, hstR, hsigR⟩ := va_Decl.of hinst hcode
  obtain ⟨c2, r2, m2, q1, q2, q3, q4, kP, hkP, hkPi⟩ := Cond.selects_spec hsel
  cases hn.symm.trans q3
  have hl9 : As.length = r.sig.parameters.length := by
    rw [hsigR] at hlen
    exact (Option.some.inj hlen).symm
  obtain ⟨vm', X1, st1⟩ := X.invokevirtualNull hexec hown hlink hn hrm hstR hkP hkPi hx (g := F0 m pc ls st0) rfl (argsL := As) (rest := rest) hl9 hst (by rw [hb]; exact hdg)
  obtain ⟨t, st, q⟩ := k (T.setVm vm') hT X1
  exact ⟨t, st1 t st, q⟩
theorem vx_newarrayZ {atype : ArrayType} (hexec : p.tables.exec = Jvm.exec) (hb : c.code = cc) {n : Int32} (h0 : n < 0) (hdg : decode cc pc = .ok (.newarray atype, 2)) (k : ∀ tx : String, tx = toString n → vx_Note p l e R s m args below meth c H locs cells slots Q (F0 m pc ls rest) "java/lang/NegativeArraySizeException" tx) : W p l e R s m args below meth c H locs cells slots Q (F0 m pc ls (.int n :: rest)) := by
  intro T hT X
  obtain ⟨t, st, q⟩ := k _ rfl T hT X
  exact ⟨t, X.newarrayNegative hexec (g := F0 m pc ls (.int n :: rest)) rfl h0 (rest := rest) rfl (by rw [hb]; exact hdg) t st, q⟩
end
end VXM
/-! ===== END ===== -/
/-! ===== BEGIN an exception as an object: made, kept, thrown later (no traces kept) ===== -/
section VXK
variable {p : Program} {l : Launch} {e : Env} {R : Room} {s : State} {m₀ : MethodId} {args : Array Value} {below : List Frame} {meth : Method} {c : Code} {W : State} {locs : List Loc} {cells slots : Nat}
set_option maxHeartbeats 1000000 in
theorem vx_ctorMadeS (X : Stand p l e R s m₀ args below meth c W locs cells slots) (hexec : p.tables.exec = Jvm.exec) (htr : e.platform.stackTraces = false) {own cls : String} {names : List String} {ic : Nat}
    (hown : s.vm.findClass own = some m₀.cls) (hcls : Bundle.fit cls = true) (hnames : ∀ n ∈ names, Bundle.fit n = true)
    (h : ∀ a ∈ Bundle.ownAtoms own ic cls names, a.before args s = true)
    (hlocs : ∀ x ∈ locs, ∀ cell, s.heap[x.base]? = some cell → cell.vm.isStatics = false)
    {a : Addr} {cX : ClassId} {kX : Class} (hfoundX : s.vm.findClass cls = some cX) (hkX : s.vm.classes[cX]? = some kX) (hcell : W.heap[a]? = some (freshCell cX kX)) (hnew : s.heap.size ≤ a)
    {msg : Value} (hmsg : msg.isRef = true)
    {g : JFrame} (hg : g.method = m₀) (hsize : g.locals.size = c.maxLocals) {rest : List Value} (hstack : g.stack = msg :: .ref a :: .ref a :: rest)
    (hd6 : decode c.code g.pc = .ok (.invokespecial ic, 3))
    (hRframes : names.length + 3 < R.frames) (hRlocals : 2 * g.monitorRoom + ((Value.ref a :: rest).map fun v => v.category).sum + (13 * (names.length + 1) + 42) ≤ R.locals) :
    ∃ (V : State) (ce : Cell) (L : List Loc), Stand p l e R s m₀ args below meth c (V.setCell a ce) (locs ++ L) cells slots ∧ (∀ y ∈ L, y.base = a) ∧ a < V.heap.size ∧ ce.cls = cX ∧ ce.vm = .none ∧
      ∀ target, Steps p.tables e below ((V.setCell a ce).setTop { g with stack := .ref a :: rest, pc := g.pc + 3 }) target → Steps p.tables e below (W.setTop g) target := by
  have howns : e.platform.frameOwnsMonitors = true := by rw [X.admits.platform]
  have hfin : e.platform.finalization = false := by rw [X.admits.platform]
  have hpl : e.platform.magicAccessors = ({} : Platform).magicAccessors := by rw [X.admits.platform]
  have a' : ∀ x, x ∈ Bundle.ownAtoms own ic cls names → x.holds args s none s [] = true := fun x hx => h x hx
  obtain ⟨T, Z0, L, -, Y⟩ := ThrowableC.of_atoms (args := args) howns hfin hpl (fun x hx => h x (by simp [Bundle.ownAtoms, hx]))
  obtain ⟨Z, M, LZ, LM, hnZ⟩ := Init0T.ofS_atoms (args := args) hpl L Y (fun x hx => h x (by simp [Bundle.ownAtoms, hx]))
  obtain ⟨P1, Ps, hlen, L1, hL, hP1m, hlink1, hlink⟩ := Bundle.chainS (args := args) hpl hnZ names cls hcls hnames (fun x hx => h x (by simp [Bundle.ownAtoms, hx]))
  have hfound : s.vm.findClass cls = some P1.m.cls := findClass_of_methodNamed hP1m
  cases Option.some.inj (hfoundX.symm.trans hfound)
  obtain ⟨c1, kX', hc1, hk, hord, -, -, hn6⟩ := Cond.instantiable_spec (a' (.instantiable cls 6) (by simp [Bundle.ownAtoms]))
  cases Option.some.inj (hc1.symm.trans hfound)
  cases Option.some.inj (hkX.symm.trans hk)
  have hsel0 : selectMethod e.platform s.vm P1.m.cls T.fill0 = .method T.fill0 := by
    obtain ⟨c2, r2, m2, q1, q2, q3, q4, -⟩ := Cond.selects_spec (a' (.selects cls Bundle.tFill0 Bundle.tFill0) (by simp [Bundle.ownAtoms]))
    cases Option.some.inj (q1.symm.trans hfound)
    cases Option.some.inj (q2.symm.trans (State.methodFound?_of_named Y.fill0 (by decide)))
    cases Option.some.inj (q3.symm.trans Y.fill0)
    rw [Launch.admits_selectMethod X.admits]; exact q4
  have hselF : selectMethod e.platform s.vm P1.m.cls T.fill = .method T.fill := by
    obtain ⟨c2, r2, m2, q1, q2, q3, q4, -⟩ := Cond.selects_spec (a' (.selects cls Bundle.tFill Bundle.tFill) (by simp [Bundle.ownAtoms]))
    cases Option.some.inj (q1.symm.trans hfound)
    cases Option.some.inj (q2.symm.trans (State.methodFound?_of_named Y.fill (by decide)))
    cases Option.some.inj (q3.symm.trans Y.fill)
    rw [Launch.admits_selectMethod X.admits]; exact q4
  obtain ⟨cellS0, hcS0, hiss⟩ := Y.statics
  obtain ⟨u0, hu0⟩ := Cond.staticRefV Y.unassigned L.unassignedStatic L.statics hcS0 hiss (a' (.isRef (.static Bundle.tN "UNASSIGNED_STACK" Bundle.steD)) (by simp [Bundle.ownAtoms]))
  obtain ⟨sen, hsen⟩ := Cond.staticRefV Y.sentinel L.sentinelStatic L.statics hcS0 hiss (a' (.isRef (.static Bundle.tN "SUPPRESSED_SENTINEL" Bundle.listD)) (by simp [Bundle.ownAtoms]))
  obtain ⟨ci198, i198, fB, hk198, hg198, ha198, hsB, -, hnB, htB, hffB⟩ := Cond.ownField (t := .object "java/lang/Object") Y.found L.cls (by decide +kernel) (a' (.fieldLink Bundle.tN 198 Bundle.tN "backtrace" "Ljava/lang/Object;") (by simp [Bundle.ownAtoms])) (a' (.lays Bundle.tN Bundle.tN "backtrace" "Ljava/lang/Object;") (by simp [Bundle.ownAtoms])) e.platform hpl
  obtain ⟨cellS, hcS', heS, -, hkeep⟩ := X.same.2.2.2.2.2 T.aS cellS0 hcS0
  have hcellS : W.heap[T.aS]? = some cellS := hcS'
  have hout' : ∀ i, (⟨T.aS, i⟩ : Loc) ∉ locs := fun i hmem => by
    have := hlocs _ hmem cellS0 hcS0
    rw [hiss] at this; cases this
  have hknownS : cellS.vm ≠ .unknown := by
    rw [heS]; intro hu
    rw [show cellS0.vm = .unknown from hu] at hiss
    cases hiss
  have hneS : T.aS ≠ a := Nat.ne_of_lt (Nat.lt_of_lt_of_le (Array.getElem?_eq_some_iff.mp hcS0).1 hnew)
  obtain ⟨iM, hffM⟩ := Y.msg
  obtain ⟨tyC, dC, hdC, hdnC⟩ := Cond.laysAt hfound hk Y.cause (a' (.lays cls Bundle.tN "cause" "Ljava/lang/Throwable;") (by simp [Bundle.ownAtoms]))
  obtain ⟨tyS, dS, hdS, hdnS⟩ := Cond.laysAt hfound hk Y.stack (a' (.lays cls Bundle.tN "stackTrace" Bundle.steD) (by simp [Bundle.ownAtoms]))
  obtain ⟨tyP, dP, hdP, hdnP⟩ := Cond.laysAt hfound hk Y.supp (a' (.lays cls Bundle.tN "suppressedExceptions" Bundle.listD) (by simp [Bundle.ownAtoms]))
  obtain ⟨tyM, dM, hdM, hdnM⟩ := Cond.laysAt hfound hk hffM (a' (.lays cls Bundle.tN "detailMessage" "Ljava/lang/String;") (by simp [Bundle.ownAtoms]))
  obtain ⟨tyB, dB, hdB, hdnB⟩ := Cond.laysAt hfound hk hffB (a' (.lays cls Bundle.tN "backtrace" "Ljava/lang/Object;") (by simp [Bundle.ownAtoms]))
  have bC := Cond.laysApart hdB hdC hdnB hdnC (by rw [hnB, Y.causeName]; decide)
  have bS := Cond.laysApart hdB hdS hdnB hdnS (by rw [hnB, Y.stackName]; decide)
  have bP := Cond.laysApart hdB hdP hdnB hdnP (by rw [hnB, Y.suppName]; decide)
  have hskip : SkipFacts T e.platform s (fun u => u) u0 ((preparedCellV T.toThrowableT (freshCell P1.m.cls kX) a u0 sen).withEntry W.cur) :=
    ⟨{ ci198 := ci198, i198 := i198, fBack := fB }, ⟨hk198, hg198, ha198, hsB⟩, by
      have := fresh_default (c := P1.m.cls) tyB
      rw [htB] at this
      simpa [preparedCellV, Cell.setSlot, Cell.withEntry, Array.getElem?_setIfInBounds, bC, bS, bP, bC.symm, bS.symm, bP.symm, defaultValue] using this, fun _ _ => rfl⟩
  obtain ⟨tm, methC, cdC, kC, vm₁, hnC, -, -, -, -, -, -, -, hW₁, st1⟩ := Steps.initColdS (tb := p.tables) (e := e) (below := below) (s := s) (U := W) X.here hexec X.warmed hpl hown (t := Bundle.initS cls) rfl rfl (Bundle.fit_spec hcls).2
    (a' (.methodLink own ic (Bundle.initS cls)) (by simp [Bundle.ownAtoms])) (h (.instanceMethod (Bundle.initS cls)) (by cases names <;> simp [Bundle.ownAtoms, Bundle.chainSAtoms, Bundle.passSAtoms])) (bytes := Bundle.six) (maxL := 2) (h (.code (Bundle.initS cls) Bundle.six 2 none) (by cases names <;> simp [Bundle.ownAtoms, Bundle.chainSAtoms, Bundle.passSAtoms]))
    (f := g) hg (a := a) (msg := msg) (rest := .ref a :: rest) hstack hd6
  cases Option.some.inj (hnC.symm.trans hP1m)
  have X₁ := X.noted hW₁
  obtain ⟨vm₂, X₂, st2⟩ := X₁.ctorMessageOffV hexec (g := { g with stack := .ref a :: rest }) hg hsize T L Z LZ M LM (P1 :: Ps)
    (fun P hP => by rcases List.mem_cons.mp hP with rfl | hP; exact L1; exact hL P hP) ⟨hlink1, hlink⟩ (u0 := u0) (sen := sen) (self := a) hmsg (cell := freshCell P1.m.cls kX) (cellS := cellS)
    hcell (fun _ => by simp) (by simp) rfl rfl hsel0 hselF hcellS hneS hknownS (by rw [hkeep _ (hout' _)]; exact hu0) (by rw [hkeep _ (hout' _)]; exact hsen)
    (Takes.of_laid hk hord tyC (by rw [Y.causeType]; rfl)) (Takes.of_laid hk hord tyS (by rw [Y.stackType]; exact fits_refV_array _ u0)) (Takes.of_laid hk hord tyP (by rw [Y.suppType]; exact fits_refV_object _ sen))
    (Takes.of_laid hk hord tyM (by rw [Y.msgType]; exact fits_refV_object _ ⟨msg, hmsg⟩)) Y.objLocals hskip htr [] hd6
    (by simp only [List.length_cons, hlen]; omega) (by simp only [List.length_cons, hlen]; exact hRlocals)
  have hlt : a < ((W.setVm vm₁).setVm vm₂).heap.size := (Array.getElem?_eq_some_iff.mp hcell).1
  refine ⟨(W.setVm vm₁).setVm vm₂, _, _, X₂, fun y hy => ?_, hlt, rfl, rfl, fun target hwalk => st1 _ (fun acts => ?_)⟩
  · simp only [List.mem_cons, List.not_mem_nil, or_false] at hy
    rcases hy with rfl | rfl | rfl | rfl | rfl <;> rfl
  · rw [doInvoke_state]
    exact st2 _ hwalk
set_option maxHeartbeats 1000000 in
theorem vx_ctorMade0 (X : Stand p l e R s m₀ args below meth c W locs cells slots) (hexec : p.tables.exec = Jvm.exec) (htr : e.platform.stackTraces = false) {own cls : String} {names : List String} {ic : Nat}
    (hown : s.vm.findClass own = some m₀.cls) (hcls : Bundle.fit cls = true) (hnames : ∀ n ∈ names, Bundle.fit n = true)
    (h : ∀ a ∈ Bundle.ownAtoms0 own ic cls names, a.before args s = true)
    (hlocs : ∀ x ∈ locs, ∀ cell, s.heap[x.base]? = some cell → cell.vm.isStatics = false)
    {a : Addr} {cX : ClassId} {kX : Class} (hfoundX : s.vm.findClass cls = some cX) (hkX : s.vm.classes[cX]? = some kX) (hcell : W.heap[a]? = some (freshCell cX kX)) (hnew : s.heap.size ≤ a)
    {g : JFrame} (hg : g.method = m₀) (hsize : g.locals.size = c.maxLocals) {rest : List Value} (hstack : g.stack = .ref a :: .ref a :: rest)
    (hd6 : decode c.code g.pc = .ok (.invokespecial ic, 3))
    (hRframes : names.length + 3 < R.frames) (hRlocals : 2 * g.monitorRoom + ((Value.ref a :: rest).map fun v => v.category).sum + (13 * (names.length + 1) + 41) ≤ R.locals) :
    ∃ (V : State) (ce : Cell) (L : List Loc), Stand p l e R s m₀ args below meth c (V.setCell a ce) (locs ++ L) cells slots ∧ (∀ y ∈ L, y.base = a) ∧ a < V.heap.size ∧ ce.cls = cX ∧ ce.vm = .none ∧
      ∀ target, Steps p.tables e below ((V.setCell a ce).setTop { g with stack := .ref a :: rest, pc := g.pc + 3 }) target → Steps p.tables e below (W.setTop g) target := by
  have howns : e.platform.frameOwnsMonitors = true := by rw [X.admits.platform]
  have hfin : e.platform.finalization = false := by rw [X.admits.platform]
  have hpl : e.platform.magicAccessors = ({} : Platform).magicAccessors := by rw [X.admits.platform]
  have a' : ∀ x, x ∈ Bundle.ownAtoms0 own ic cls names → x.holds args s none s [] = true := fun x hx => h x hx
  obtain ⟨T, Z, L, LZ, Y⟩ := ThrowableC.of_atoms (args := args) howns hfin hpl (fun x hx => h x (by simp [Bundle.ownAtoms0, hx]))
  obtain ⟨P1, Ps, hlen, L1, hL, hP1m, hlink1, hlink⟩ := Bundle.chain0 (args := args) hpl Y.init0 names cls hcls hnames (fun x hx => h x (by simp [Bundle.ownAtoms0, hx]))
  have hfound : s.vm.findClass cls = some P1.m.cls := findClass_of_methodNamed hP1m
  cases Option.some.inj (hfoundX.symm.trans hfound)
  obtain ⟨c1, kX', hc1, hk, hord, -, -, hn6⟩ := Cond.instantiable_spec (a' (.instantiable cls 6) (by simp [Bundle.ownAtoms0]))
  cases Option.some.inj (hc1.symm.trans hfound)
  cases Option.some.inj (hkX.symm.trans hk)
  have hsel0 : selectMethod e.platform s.vm P1.m.cls T.fill0 = .method T.fill0 := by
    obtain ⟨c2, r2, m2, q1, q2, q3, q4, -⟩ := Cond.selects_spec (a' (.selects cls Bundle.tFill0 Bundle.tFill0) (by simp [Bundle.ownAtoms0]))
    cases Option.some.inj (q1.symm.trans hfound)
    cases Option.some.inj (q2.symm.trans (State.methodFound?_of_named Y.fill0 (by decide)))
    cases Option.some.inj (q3.symm.trans Y.fill0)
    rw [Launch.admits_selectMethod X.admits]; exact q4
  have hselF : selectMethod e.platform s.vm P1.m.cls T.fill = .method T.fill := by
    obtain ⟨c2, r2, m2, q1, q2, q3, q4, -⟩ := Cond.selects_spec (a' (.selects cls Bundle.tFill Bundle.tFill) (by simp [Bundle.ownAtoms0]))
    cases Option.some.inj (q1.symm.trans hfound)
    cases Option.some.inj (q2.symm.trans (State.methodFound?_of_named Y.fill (by decide)))
    cases Option.some.inj (q3.symm.trans Y.fill)
    rw [Launch.admits_selectMethod X.admits]; exact q4
  obtain ⟨cellS0, hcS0, hiss⟩ := Y.statics
  obtain ⟨u0, hu0⟩ := Cond.staticRefV Y.unassigned L.unassignedStatic L.statics hcS0 hiss (a' (.isRef (.static Bundle.tN "UNASSIGNED_STACK" Bundle.steD)) (by simp [Bundle.ownAtoms0]))
  obtain ⟨sen, hsen⟩ := Cond.staticRefV Y.sentinel L.sentinelStatic L.statics hcS0 hiss (a' (.isRef (.static Bundle.tN "SUPPRESSED_SENTINEL" Bundle.listD)) (by simp [Bundle.ownAtoms0]))
  obtain ⟨ci198, i198, fB, hk198, hg198, ha198, hsB, -, hnB, htB, hffB⟩ := Cond.ownField (t := .object "java/lang/Object") Y.found L.cls (by decide +kernel) (a' (.fieldLink Bundle.tN 198 Bundle.tN "backtrace" "Ljava/lang/Object;") (by simp [Bundle.ownAtoms0])) (a' (.lays Bundle.tN Bundle.tN "backtrace" "Ljava/lang/Object;") (by simp [Bundle.ownAtoms0])) e.platform hpl
  obtain ⟨cellS, hcS', heS, -, hkeep⟩ := X.same.2.2.2.2.2 T.aS cellS0 hcS0
  have hcellS : W.heap[T.aS]? = some cellS := hcS'
  have hout' : ∀ i, (⟨T.aS, i⟩ : Loc) ∉ locs := fun i hmem => by
    have := hlocs _ hmem cellS0 hcS0
    rw [hiss] at this; cases this
  have hknownS : cellS.vm ≠ .unknown := by
    rw [heS]; intro hu
    rw [show cellS0.vm = .unknown from hu] at hiss
    cases hiss
  have hneS : T.aS ≠ a := Nat.ne_of_lt (Nat.lt_of_lt_of_le (Array.getElem?_eq_some_iff.mp hcS0).1 hnew)
  obtain ⟨iM, hffM⟩ := Y.msg
  obtain ⟨tyC, dC, hdC, hdnC⟩ := Cond.laysAt hfound hk Y.cause (a' (.lays cls Bundle.tN "cause" "Ljava/lang/Throwable;") (by simp [Bundle.ownAtoms0]))
  obtain ⟨tyS, dS, hdS, hdnS⟩ := Cond.laysAt hfound hk Y.stack (a' (.lays cls Bundle.tN "stackTrace" Bundle.steD) (by simp [Bundle.ownAtoms0]))
  obtain ⟨tyP, dP, hdP, hdnP⟩ := Cond.laysAt hfound hk Y.supp (a' (.lays cls Bundle.tN "suppressedExceptions" Bundle.listD) (by simp [Bundle.ownAtoms0]))
  obtain ⟨tyM, dM, hdM, hdnM⟩ := Cond.laysAt hfound hk hffM (a' (.lays cls Bundle.tN "detailMessage" "Ljava/lang/String;") (by simp [Bundle.ownAtoms0]))
  obtain ⟨tyB, dB, hdB, hdnB⟩ := Cond.laysAt hfound hk hffB (a' (.lays cls Bundle.tN "backtrace" "Ljava/lang/Object;") (by simp [Bundle.ownAtoms0]))
  have bC := Cond.laysApart hdB hdC hdnB hdnC (by rw [hnB, Y.causeName]; decide)
  have bS := Cond.laysApart hdB hdS hdnB hdnS (by rw [hnB, Y.stackName]; decide)
  have bP := Cond.laysApart hdB hdP hdnB hdnP (by rw [hnB, Y.suppName]; decide)
  have hskip : SkipFacts T e.platform s (fun u => u) u0 ((preparedCellV T.toThrowableT (freshCell P1.m.cls kX) a u0 sen).withEntry W.cur) :=
    ⟨{ ci198 := ci198, i198 := i198, fBack := fB }, ⟨hk198, hg198, ha198, hsB⟩, by
      have := fresh_default (c := P1.m.cls) tyB
      rw [htB] at this
      simpa [preparedCellV, Cell.setSlot, Cell.withEntry, Array.getElem?_setIfInBounds, bC, bS, bP, bC.symm, bS.symm, bP.symm, defaultValue] using this, fun _ _ => rfl⟩
  obtain ⟨tm, methC, cdC, kC, vm₁, hnC, -, -, -, -, -, -, -, hW₁, st1⟩ := Steps.initCold (tb := p.tables) (e := e) (below := below) (s := s) (U := W) X.here hexec X.warmed hpl hown (t := Bundle.init0 cls) rfl rfl (Bundle.fit_spec hcls).2
    (a' (.methodLink own ic (Bundle.init0 cls)) (by simp [Bundle.ownAtoms0])) (h (.instanceMethod (Bundle.init0 cls)) (by cases names <;> simp [Bundle.ownAtoms0, Bundle.chain0Atoms, Bundle.passAtoms])) (bytes := Bundle.five) (maxL := 1) (h (.code (Bundle.init0 cls) Bundle.five 1 none) (by cases names <;> simp [Bundle.ownAtoms0, Bundle.chain0Atoms, Bundle.passAtoms]))
    (f := g) hg (a := a) (rest := .ref a :: rest) hstack hd6
  cases Option.some.inj (hnC.symm.trans hP1m)
  have X₁ := X.noted hW₁
  obtain ⟨vm₂, X₂, st2⟩ := X₁.ctorPlainOffV hexec (g := { g with stack := .ref a :: rest }) hg hsize T L Z LZ (P1 :: Ps)
    (fun P hP => by rcases List.mem_cons.mp hP with rfl | hP; exact L1; exact hL P hP) ⟨hlink1, hlink⟩ (u0 := u0) (sen := sen) (self := a) (cell := freshCell P1.m.cls kX) (cellS := cellS)
    hcell (fun _ => by simp) (by simp) rfl rfl hsel0 hselF hcellS hneS hknownS (by rw [hkeep _ (hout' _)]; exact hu0) (by rw [hkeep _ (hout' _)]; exact hsen)
    (Takes.of_laid hk hord tyC (by rw [Y.causeType]; rfl)) (Takes.of_laid hk hord tyS (by rw [Y.stackType]; exact fits_refV_array _ u0)) (Takes.of_laid hk hord tyP (by rw [Y.suppType]; exact fits_refV_object _ sen)) Y.objLocals hskip htr [] hd6
    (by simp only [List.length_cons, hlen]; omega) (by simp only [List.length_cons, hlen]; exact hRlocals)
  have hlt : a < ((W.setVm vm₁).setVm vm₂).heap.size := (Array.getElem?_eq_some_iff.mp hcell).1
  refine ⟨(W.setVm vm₁).setVm vm₂, _, _, X₂, fun y hy => ?_, hlt, rfl, rfl, fun target hwalk => st1 _ (fun acts => ?_)⟩
  · simp only [List.mem_cons, List.not_mem_nil, or_false] at hy
    rcases hy with rfl | rfl | rfl | rfl <;> rfl
  · rw [doInvoke_state]
    exact st2 _ hwalk
end VXK
section VXK2
variable {p : Program} {l : Launch} {e : Env} {R : Room} {s : State} {m : MethodId} {args : Array Value} {below : List Frame} {meth : Method} {c : Code} {H : Heap} {locs : List Loc} {cells slots : Nat} {Q : State → Prop}
variable {ls : Array Slot} {rest : List Value} {D : va_G} {cl : List vw_C} {tys : List (ClassId × FieldType)} {ws : va_W}
/-- 'new E("text")' that isn't thrown at once: the object goes on the stack -/
theorem vx_makeS {cc : ByteArray} {pc : Nat} (hexec : p.tables.exec = Jvm.exec) (hb : c.code = cc) (hl : l.stackTraces = false) {own cls text : String} {names : List String} {ik is ic sa ci : Nat} {A : Nat → Prop} {T0 : u_T}
    (hown : s.vm.findClass own = some m.cls) (hcls : Bundle.fit cls = true) (hnames : ∀ n ∈ names, Bundle.fit n = true)
    (hk : (Cond.classLink own ik cls).before args s = true) (hini : (Cond.initialized cls).before args s = true) (hstr : vk_R own is text sa s) (hat : ∀ w ∈ vx_atS own ic cls names, w.before args s = true)
    (hgood : ∀ w ∈ Cond.classLink own ik cls :: Cond.initialized cls :: vx_atS own ic cls names, vx_ot w = true)
    (hU : vx_Zq Bundle.tN "UNASSIGNED_STACK" Bundle.steD A s s.heap) (hN : vx_Zq Bundle.tN "SUPPRESSED_SENTINEL" Bundle.listD A s s.heap) (hS : va_S A s.heap H locs) (hsize : ls.size = c.maxLocals)
    (d0 : decode cc pc = .ok (.new ik, 3)) (d3 : decode cc (pc + 3) = .ok (.dup, 1)) (d4 : decode cc (pc + 4) = .ok (.ldc is, 2)) (d6 : decode cc (pc + 6) = .ok (.invokespecial ic, 3))
    (hK : va_K D cl tys s) (hP : va_P D cl ws H) (hD : va_D A ws) (hA : ∀ q, s.heap.size ≤ q → A q) (hc : cl[ci]? = some (cls, T0, 0))
    (hRframes : names.length + 3 < R.frames) (hRlocals : (rest.map fun v => v.category).sum + (13 * (names.length + 1) + 43) ≤ R.locals) (hRcells : cells + 1 ≤ R.cells) (hRslots : slots + 6 ≤ R.slots)
    (kk : ∀ (q : Nat) (H1 : Heap), va_P D cl (ws ++ [(q, .inr (ci, []))]) H1 → va_D A (ws ++ [(q, .inr (ci, []))]) → va_S A s.heap H1 locs → W p l e R s m args below meth c H1 locs (cells + 1) (slots + 6) Q (F0 m (pc + 9) ls (.ref q :: rest))) :
    W p l e R s m args below meth c H locs cells slots Q (F0 m pc ls rest) := by
  intro T hT X
  subst hT
  have htr : e.platform.stackTraces = false := (show e.platform.stackTraces = l.stackTraces by rw [X.admits.platform]).trans hl
  have Y := vx_rebase X (R' := { frames := R.frames, locals := R.locals, cells := 1, slots := 6 }) (Nat.le_refl _) (Nat.le_refl _) hRcells hRslots
  obtain ⟨s', hA'⟩ : ∃ z, z = (T.setVm s.vm).setFrames (.invoking m args :: below) := ⟨_, rfl⟩
  rw [← hA'] at Y
  have hvm : s'.vm = s.vm := by rw [hA']; rfl
  have hhp : s'.heap = T.heap := by rw [hA']; rfl
  have hW0 : s.WarmedH s'.vm := by rw [hvm]; exact State.WarmedH.refl s
  have hat' : ∀ w ∈ vx_atS own ic cls names, w.before args s' = true := fun w hw => vx_ot_at hW0 hvm.symm (hgood w (List.mem_cons_of_mem _ (List.mem_cons_of_mem _ hw))) (hat w hw)
  have hk' : (Cond.classLink own ik cls).before args s' = true := vx_ot_at hW0 hvm.symm (hgood _ List.mem_cons_self) hk
  have hini' : (Cond.initialized cls).before args s' = true := vx_ot_at hW0 hvm.symm (hgood _ (List.mem_cons_of_mem _ List.mem_cons_self)) hini
  have hU' : vx_Zq Bundle.tN "UNASSIGNED_STACK" Bundle.steD A s' s'.heap := by rw [hhp]; exact vx_Zq.moved hW0.alike (hU.kept hS.2.1)
  have hN' : vx_Zq Bundle.tN "SUPPRESSED_SENTINEL" Bundle.listD A s' s'.heap := by rw [hhp]; exact vx_Zq.moved hW0.alike (hN.kept hS.2.1)
  have h : ∀ w ∈ Bundle.ownAtoms own ic cls names, w.before args s' = true := vx_own hat' (vx_isRefq hU'.1) (vx_isRefq hN'.1) hU'.2.word hN'.2.word
  have hown' : s'.vm.findClass own = some m.cls := by rw [hvm]; exact hown
  have hins : (Cond.instantiable cls 6).before args s' = true := h _ (by simp [Bundle.ownAtoms])
  obtain ⟨vm₁, cX, kX, hfX, hkX, -, -, X₁, st1⟩ := Y.newCold hexec (own := own) (C := cls) (index := ik) (n := 6) hown' hk' hins hini'
    (g := F0 m pc ls rest) rfl (by rw [hb]; exact d0) (Nat.le_refl _) (Nat.le_refl _)
  generalize hT1 : (T.setVm vm₁).pushCell { cls := cX, slots := kX.instanceTypes.map defaultValue, vm := .none } = T1 at X₁ st1
  have hcat : (Value.ref T.heap.size).category = 1 := rfl
  have hcellA : T1.heap[T.heap.size]? = some (freshCell cX kX) := by rw [← hT1]; exact State.heap_pushCell_size _ _
  have d3' : decode c.code (pc + 3) = .ok (.dup, 1) := by rw [hb]; exact d3
  have d4' : decode c.code (pc + 4) = .ok (.ldc is, 2) := by rw [hb]; exact d4
  have hstr' : vk_R own is text sa s' := vk_R.warm hW0 hstr
  obtain ⟨V, ce, L, Z, hL, hlt, hcl9, hvm9, st⟩ := vx_ctorMadeS X₁ hexec htr (own := own) (cls := cls) (names := names) (ic := ic) hown' hcls hnames h (fun x hx => nomatch hx) hfX hkX hcellA (by rw [hhp]; exact Nat.le_refl _) (msg := .ref sa) rfl
    (g := { method := m, pc := pc + 6, locals := ls, stack := .ref sa :: .ref T.heap.size :: .ref T.heap.size :: rest, locked := none }) rfl hsize (rest := rest) rfl
    (by rw [hb]; exact d6) hRframes (by simp only [List.map_cons, List.sum_cons, hcat]; omega)
  have Z0 := Stand.forget (locs := []) Z (fun y hy => by rw [hL y hy, hhp]; exact Nat.le_refl _)
  obtain ⟨f1, f2⟩ := vx_frame Z0.same
  rw [hhp] at f1 f2
  have hcid : ce.cls = D.1 ci := by
    rw [hcl9]
    have h1 := (hK.1 ci _ hc).2.1
    rw [hvm] at hfX
    exact Option.some.inj (hfX.symm.trans h1)
  have hh : (V.setCell T.heap.size ce).heap[T.heap.size]? = some ce := heapAt_setCell_self (s := V) ce hlt
  subst hA'
  have X5 := vx_back9 X Y Z0
  have X6 : Stand p l e R s m args below meth c (V.setCell T.heap.size ce) locs (cells + 1) (slots + 6) := { X5 with same := X5.same.mono (by omega) (by omega) }
  have hk9 : ∀ (k : Nat) (x : Nat × va_E), ws[k]? = some x → (V.setCell T.heap.size ce).heap[x.1]? = T.heap[x.1]? := fun k x hx => f2 x.1 ((hP k x hx).lt) (fun z hz => nomatch hz)
  obtain ⟨t, a1, b1⟩ := kk T.heap.size (V.setCell T.heap.size ce).heap ((hP.kept hk9).app (fun k x hx => by
      have hz : k < 1 := (List.getElem?_eq_some_iff.mp hx).1
      rw [show k = 0 by omega] at hx
      cases hx
      exact ⟨_, hc, ce, hh, hcid, hvm9, fun k hk => absurd hk (Nat.not_lt_zero k)⟩)) (hD.push hP rfl (hA _ hS.1)) ⟨Nat.le_trans hS.1 f1, fun q h1 h2 => (f2 q (Nat.lt_of_lt_of_le h1 hS.1) (fun z hz => nomatch hz)).trans (hS.2.1 q h1 h2), hS.2.2⟩ _ rfl X6
  refine ⟨t, st1 _ ?_, b1⟩
  show Steps p.tables e below (T1.setTop { method := m, pc := pc + 3, locals := ls, stack := .ref T.heap.size :: rest, locked := none }) _
  jvm_step X₁.here [X₁.here.top, hexec, d3', Value.category]
  exact X₁.ldcString hexec (own := own) (text := text) (index := is) (a := sa) hown' hstr'.1 hstr'.2
    (g := { method := m, pc := pc + 4, locals := ls, stack := .ref T.heap.size :: .ref T.heap.size :: rest, locked := none }) rfl d4' _ (st _ a1)
/-- 'new E()' that isn't thrown at once: the object goes on the stack -/
theorem vx_make0 {cc : ByteArray} {pc : Nat} (hexec : p.tables.exec = Jvm.exec) (hb : c.code = cc) (hl : l.stackTraces = false) {own cls : String} {names : List String} {ik ic ci : Nat} {A : Nat → Prop} {T0 : u_T}
    (hown : s.vm.findClass own = some m.cls) (hcls : Bundle.fit cls = true) (hnames : ∀ n ∈ names, Bundle.fit n = true)
    (hk : (Cond.classLink own ik cls).before args s = true) (hini : (Cond.initialized cls).before args s = true) (hat : ∀ w ∈ vx_at0 own ic cls names, w.before args s = true)
    (hgood : ∀ w ∈ Cond.classLink own ik cls :: Cond.initialized cls :: vx_at0 own ic cls names, vx_ot w = true)
    (hU : vx_Zq Bundle.tN "UNASSIGNED_STACK" Bundle.steD A s s.heap) (hN : vx_Zq Bundle.tN "SUPPRESSED_SENTINEL" Bundle.listD A s s.heap) (hS : va_S A s.heap H locs) (hsize : ls.size = c.maxLocals)
    (d0 : decode cc pc = .ok (.new ik, 3)) (d3 : decode cc (pc + 3) = .ok (.dup, 1)) (d4 : decode cc (pc + 4) = .ok (.invokespecial ic, 3))
    (hK : va_K D cl tys s) (hP : va_P D cl ws H) (hD : va_D A ws) (hA : ∀ q, s.heap.size ≤ q → A q) (hc : cl[ci]? = some (cls, T0, 0))
    (hRframes : names.length + 3 < R.frames) (hRlocals : (rest.map fun v => v.category).sum + (13 * (names.length + 1) + 42) ≤ R.locals) (hRcells : cells + 1 ≤ R.cells) (hRslots : slots + 6 ≤ R.slots)
    (kk : ∀ (q : Nat) (H1 : Heap), va_P D cl (ws ++ [(q, .inr (ci, []))]) H1 → va_D A (ws ++ [(q, .inr (ci, []))]) → va_S A s.heap H1 locs → W p l e R s m args below meth c H1 locs (cells + 1) (slots + 6) Q (F0 m (pc + 7) ls (.ref q :: rest))) :
    W p l e R s m args below meth c H locs cells slots Q (F0 m pc ls rest) := by
  intro T hT X
  subst hT
  have htr : e.platform.stackTraces = false := (show e.platform.stackTraces = l.stackTraces by rw [X.admits.platform]).trans hl
  have Y := vx_rebase X (R' := { frames := R.frames, locals := R.locals, cells := 1, slots := 6 }) (Nat.le_refl _) (Nat.le_refl _) hRcells hRslots
  obtain ⟨s', hA'⟩ : ∃ z, z = (T.setVm s.vm).setFrames (.invoking m args :: below) := ⟨_, rfl⟩
  rw [← hA'] at Y
  have hvm : s'.vm = s.vm := by rw [hA']; rfl
  have hhp : s'.heap = T.heap := by rw [hA']; rfl
  have hW0 : s.WarmedH s'.vm := by rw [hvm]; exact State.WarmedH.refl s
  have hat' : ∀ w ∈ vx_at0 own ic cls names, w.before args s' = true := fun w hw => vx_ot_at hW0 hvm.symm (hgood w (List.mem_cons_of_mem _ (List.mem_cons_of_mem _ hw))) (hat w hw)
  have hk' : (Cond.classLink own ik cls).before args s' = true := vx_ot_at hW0 hvm.symm (hgood _ List.mem_cons_self) hk
  have hini' : (Cond.initialized cls).before args s' = true := vx_ot_at hW0 hvm.symm (hgood _ (List.mem_cons_of_mem _ List.mem_cons_self)) hini
  have hU' : vx_Zq Bundle.tN "UNASSIGNED_STACK" Bundle.steD A s' s'.heap := by rw [hhp]; exact vx_Zq.moved hW0.alike (hU.kept hS.2.1)
  have hN' : vx_Zq Bundle.tN "SUPPRESSED_SENTINEL" Bundle.listD A s' s'.heap := by rw [hhp]; exact vx_Zq.moved hW0.alike (hN.kept hS.2.1)
  have h : ∀ w ∈ Bundle.ownAtoms0 own ic cls names, w.before args s' = true := vx_own hat' (vx_isRefq hU'.1) (vx_isRefq hN'.1) hU'.2.word hN'.2.word
  have hown' : s'.vm.findClass own = some m.cls := by rw [hvm]; exact hown
  have hins : (Cond.instantiable cls 6).before args s' = true := h _ (by simp [Bundle.ownAtoms0])
  obtain ⟨vm₁, cX, kX, hfX, hkX, -, -, X₁, st1⟩ := Y.newCold hexec (own := own) (C := cls) (index := ik) (n := 6) hown' hk' hins hini'
    (g := F0 m pc ls rest) rfl (by rw [hb]; exact d0) (Nat.le_refl _) (Nat.le_refl _)
  generalize hT1 : (T.setVm vm₁).pushCell { cls := cX, slots := kX.instanceTypes.map defaultValue, vm := .none } = T1 at X₁ st1
  have hcat : (Value.ref T.heap.size).category = 1 := rfl
  have hcellA : T1.heap[T.heap.size]? = some (freshCell cX kX) := by rw [← hT1]; exact State.heap_pushCell_size _ _
  have d3' : decode c.code (pc + 3) = .ok (.dup, 1) := by rw [hb]; exact d3
  obtain ⟨V, ce, L, Z, hL, hlt, hcl9, hvm9, st⟩ := vx_ctorMade0 X₁ hexec htr (own := own) (cls := cls) (names := names) (ic := ic) hown' hcls hnames h (fun x hx => nomatch hx) hfX hkX hcellA (by rw [hhp]; exact Nat.le_refl _)
    (g := { method := m, pc := pc + 4, locals := ls, stack := .ref T.heap.size :: .ref T.heap.size :: rest, locked := none }) rfl hsize (rest := rest) rfl
    (by rw [hb]; exact d4) hRframes (by simp only [List.map_cons, List.sum_cons, hcat]; omega)
  have Z0 := Stand.forget (locs := []) Z (fun y hy => by rw [hL y hy, hhp]; exact Nat.le_refl _)
  obtain ⟨f1, f2⟩ := vx_frame Z0.same
  rw [hhp] at f1 f2
  have hcid : ce.cls = D.1 ci := by
    rw [hcl9]
    have h1 := (hK.1 ci _ hc).2.1
    rw [hvm] at hfX
    exact Option.some.inj (hfX.symm.trans h1)
  have hh : (V.setCell T.heap.size ce).heap[T.heap.size]? = some ce := heapAt_setCell_self (s := V) ce hlt
  subst hA'
  have X5 := vx_back9 X Y Z0
  have X6 : Stand p l e R s m args below meth c (V.setCell T.heap.size ce) locs (cells + 1) (slots + 6) := { X5 with same := X5.same.mono (by omega) (by omega) }
  have hk9 : ∀ (k : Nat) (x : Nat × va_E), ws[k]? = some x → (V.setCell T.heap.size ce).heap[x.1]? = T.heap[x.1]? := fun k x hx => f2 x.1 ((hP k x hx).lt) (fun z hz => nomatch hz)
  obtain ⟨t, a1, b1⟩ := kk T.heap.size (V.setCell T.heap.size ce).heap ((hP.kept hk9).app (fun k x hx => by
      have hz : k < 1 := (List.getElem?_eq_some_iff.mp hx).1
      rw [show k = 0 by omega] at hx
      cases hx
      exact ⟨_, hc, ce, hh, hcid, hvm9, fun k hk => absurd hk (Nat.not_lt_zero k)⟩)) (hD.push hP rfl (hA _ hS.1)) ⟨Nat.le_trans hS.1 f1, fun q h1 h2 => (f2 q (Nat.lt_of_lt_of_le h1 hS.1) (fun z hz => nomatch hz)).trans (hS.2.1 q h1 h2), hS.2.2⟩ _ rfl X6
  refine ⟨t, st1 _ ?_, b1⟩
  show Steps p.tables e below (T1.setTop { method := m, pc := pc + 3, locals := ls, stack := .ref T.heap.size :: rest, locked := none }) _
  jvm_step X₁.here [X₁.here.top, hexec, d3', Value.category]
  exact st _ a1
/-- 'throw x' of an object that was made before -/
theorem vx_athrow {cc : ByteArray} {pc : Nat} (hexec : p.tables.exec = Jvm.exec) (hb : c.code = cc) {q : Addr} (hdg : decode cc pc = .ok (.athrow, 1)) (k : vx_W p l e R s m args below meth c H locs cells slots Q (F0 m pc ls rest) q) : W p l e R s m args below meth c H locs cells slots Q (F0 m pc ls (.ref q :: rest)) := by
  intro T hT X
  obtain ⟨t, st, hq⟩ := k T hT X
  refine ⟨t, ?_, hq⟩
  have hdg' : decode c.code pc = .ok (.athrow, 1) := by rw [hb]; exact hdg
  jvm_step X.here [X.here.top, hexec, hdg', athrow.wp_sem]
  exact st
end VXK2
/-! ===== END ===== -/
/-! ===== BEGIN a constructor that throws (launches without stack traces) ===== -/
section VXIA
variable {p : Program} {l : Launch} {e : Env} {R : Room} {s : State} {m : MethodId} {args : Array Value} {below : List Frame} {meth : Method} {c : Code} {T : State} {locs : List Loc} {cells slots : Nat}
theorem vx_callI (X : Stand p l e R s m args below meth c T locs cells slots) (hexec : p.tables.exec = Jvm.exec) {own : String} {index : Nat} {y : MethodName} {bytes : ByteArray} {maxL : Nat}
    (hown : s.vm.findClass own = some m.cls) (hy1 : y.name = "<init>") (hlink : (Cond.methodLink own index y).before args s = true) (hinst : (Cond.instanceMethod y).before args s = true)
    (hcode : (Cond.code y bytes maxL none).before args s = true) (hy : y.cls ≠ "java/lang/invoke/MethodHandle" ∧ y.cls ≠ "java/lang/invoke/VarHandle")
    {W9 : Nat} {Pre : Pt → Array Value → Prop} {Post : Pt → Array Value → Option Value → Pt → Prop} {PostX : Pt → Array Value → Addr → Pt → Prop} (hK : vx_Back l R p e below s args y 3 W9 Pre Post PostX)
    {g : JFrame} (hg : g.method = m) (hsize : g.locals.size = c.maxLocals) {a : Addr} {argsL rest : List Value} (hlen : ∀ sig, parseMethodDescriptor y.desc = some sig → argsL.length = sig.parameters.length)
    (hstack : g.stack = argsL.reverse ++ .ref a :: rest) (hW : 2 * g.monitorRoom + (rest.map fun v => v.category).sum ≤ W9) (hdg : decode c.code g.pc = .ok (.invokespecial index, 3))
    (hpre : ∀ vm₁, s.WarmedH vm₁ → Pre ⟨T.setVm vm₁, locs, cells, slots⟩ (Value.ref a :: argsL).toArray) :
    (∃ (v : Option Value) (vm₁ : Vm) (B : Pt), s.WarmedH vm₁ ∧ Stand p l e R s m args below meth c B.U B.locs B.cells B.slots ∧ Post ⟨T.setVm vm₁, locs, cells, slots⟩ (Value.ref a :: argsL).toArray v B ∧
      ∀ target, Steps p.tables e below (B.U.setTop { g with pc := g.pc + 3, stack := v.toList ++ rest }) target → Steps p.tables e below (T.setTop g) target) ∨
    (∃ (q : Addr) (vm₁ : Vm) (B : Pt), s.WarmedH vm₁ ∧ Stand p l e R s m args below meth c B.U B.locs B.cells B.slots ∧ PostX ⟨T.setVm vm₁, locs, cells, slots⟩ (Value.ref a :: argsL).toArray q B ∧
      Steps p.tables e below (T.setTop g) ((B.U.setTop { g with stack := rest }).pushFrame (.throwing q))) := by
  subst hg
  have hpl : e.platform.magicAccessors = ({} : Platform).magicAccessors := by rw [X.admits.platform]
  obtain ⟨mk, methM, cM, kP, vm₁, hnamed, hmethM, hcodeM, -, hlocalsM, -, hkP, -, hW₁, hstep₁⟩ := Steps.initColdArgs (e := e) X.here hexec X.warmed hpl hown hy1 hy hlink hinst hcode (f := g) rfl hlen hstack hdg
  have X₁ := X.noted hW₁
  rcases hK g.method meth c ⟨T.setVm vm₁, locs, cells, slots⟩ { g with stack := rest } (.invokespecial index) mk (Value.ref a :: argsL).toArray X₁ rfl hsize hdg hW (X₁.named hnamed) (hpre vm₁ X₁.warmed) with ⟨v, B, X', hpost, hsteps⟩ | ⟨q, B, X', hpost, hsteps⟩
  · exact Or.inl ⟨v, vm₁, B, X₁.warmed, X', hpost, fun target h => hstep₁ _ fun acts => by rw [doInvoke_state]; exact hsteps.trans h⟩
  · exact Or.inr ⟨q, vm₁, B, X₁.warmed, X', hpost, hstep₁ _ fun acts => by rw [doInvoke_state]; exact hsteps⟩
end VXIA
section VXIB
variable {p : Program} {l : Launch} {e : Env} {R : Room} {s : State} {m : MethodId} {args : Array Value} {below : List Frame} {meth : Method} {c : Code} {H : Heap} {locs : List Loc} {cells slots : Nat}
variable {y : MethodName} {bytes cc : ByteArray} {maxL nL mc ms n index : Nat} {ret : Option FieldType} {ws : List Cond} {rm : Room} {Pc : Array Value → State → Prop} {Qc : Array Value → State → Outcome → State → Prop} {XC : String → State → State → Prop} {free : Addr → Prop} {Ts : List Cond} {own C : String} {b : Addr} {As rest : List Value} {g : JFrame}
theorem vx_runI (S : CallFix p m c cc nL s args Ts own) (hM : vx_Met l y ws rm Pc Qc XC mc ms free) (cw : CallB R s args own index y bytes maxL none ws rm mc ms n ∧ y.name = "<init>" ∧ (Cond.instanceMethod y).before args s = true) (hp : PreS s H Pc (.ref b :: As))
    (hg : g.method = m) (hn : As.length = n) (hsize : g.locals.size = nL) (hstack : g.stack = As.reverse ++ .ref b :: rest) (hW : 2 * g.monitorRoom + (rest.map fun v => v.category).sum ≤ 8) (hdg : decode cc g.pc = .ok (.invokespecial index, 3)) (hf : cells + mc ≤ R.cells ∧ slots + ms ≤ R.slots) :
    vx_Run p l e R s m args below meth c H locs cells slots mc ms g rest (Qc (Value.ref b :: As).toArray) XC free := by
  have hK : vx_Back l R p e below s args y 3 8 (PreOf R mc ms Pc) (PostOf Qc mc ms free) (vx_Post XC mc ms free) := vx_callBack cw.1 hM hp.1
  obtain ⟨⟨-, -, -, -, -, -, hcode, -, hy, hlen, hl⟩, hy1, hin⟩ := cw
  obtain ⟨hx, hb, hml, ho, -⟩ := S
  have hPc := hp.2
  intro T hT X
  rcases vx_callI X hx (bytes := bytes) (maxL := maxL) ho hy1 hl hin hcode hy hK hg (hsize.trans hml.symm) (a := b) (argsL := As) (rest := rest) (fun sig h => hn.trans (hlen sig h)) hstack hW (by rw [hb]; exact hdg)
    (fun vm₁ hW₁ => ⟨hf.1, hf.2, hPc (T.setVm vm₁) hT hW₁⟩) with ⟨v, vm₁, ⟨U', l2, c2, s2⟩, hW₁, X', ⟨g', mk, t, L, e1, e2, hq, h1, hL, h2, h3⟩, st⟩ | ⟨q, vm₁, ⟨U', l2, c2, s2⟩, hW₁, X', ⟨g', mk, t, L, E, ce, e1, e2, hq, hce, hcv, hcl, h1, hL, h2, h3⟩, st⟩
  · dsimp only [Pt.U, Pt.locs, Pt.cells, Pt.slots] at X' e1 e2 h1 h2 h3 st
    subst h1; subst h2; subst h3
    exact Or.inl ⟨v, (T.setVm vm₁).calling g' mk (Value.ref b :: As).toArray, t, U', L, hT, X', hL, e1, e2, hq, st⟩
  · dsimp only [Pt.U, Pt.locs, Pt.cells, Pt.slots] at X' e1 e2 h1 h2 h3 st hcl
    subst h1; subst h2; subst h3
    exact Or.inr ⟨q, (T.setVm vm₁).calling g' mk (Value.ref b :: As).toArray, t, U', L, E, ce, hT, X', hL, e1, e2, hq, hce, hcv, vx_cls hW₁ hcl, st⟩
end VXIB
/-! ===== END ===== -/
/-! ===== BEGIN a private constructor of a nest mate that throws ===== -/
section VXIC
variable {p : Program} {l : Launch} {e : Env} {R : Room} {s : State} {m : MethodId} {args : Array Value} {below : List Frame} {meth : Method} {c : Code} {T : State} {locs : List Loc} {cells slots : Nat}
theorem vx_callIN (X : Stand p l e R s m args below meth c T locs cells slots) (hexec : p.tables.exec = Jvm.exec) {own : String} {index : Nat} {host : String} {y : MethodName} {bytes : ByteArray} {maxL : Nat}
    (hown : s.vm.findClass own = some m.cls) (hy1 : y.name = "<init>") (hlink : (Cond.methodLinkNest own index y host).before args s = true) (hinst : (Cond.instanceMethod y).before args s = true)
    (hcode : (Cond.code y bytes maxL none).before args s = true) (hy : y.cls ≠ "java/lang/invoke/MethodHandle" ∧ y.cls ≠ "java/lang/invoke/VarHandle")
    {W9 : Nat} {Pre : Pt → Array Value → Prop} {Post : Pt → Array Value → Option Value → Pt → Prop} {PostX : Pt → Array Value → Addr → Pt → Prop} (hK : vx_Back l R p e below s args y 3 W9 Pre Post PostX)
    {g : JFrame} (hg : g.method = m) (hsize : g.locals.size = c.maxLocals) {a : Addr} {argsL rest : List Value} (hlen : ∀ sig, parseMethodDescriptor y.desc = some sig → argsL.length = sig.parameters.length)
    (hstack : g.stack = argsL.reverse ++ .ref a :: rest) (hW : 2 * g.monitorRoom + (rest.map fun v => v.category).sum ≤ W9) (hdg : decode c.code g.pc = .ok (.invokespecial index, 3))
    (hpre : ∀ vm₁, s.WarmedH vm₁ → Pre ⟨T.setVm vm₁, locs, cells, slots⟩ (Value.ref a :: argsL).toArray) :
    (∃ (v : Option Value) (vm₁ : Vm) (B : Pt), s.WarmedH vm₁ ∧ Stand p l e R s m args below meth c B.U B.locs B.cells B.slots ∧ Post ⟨T.setVm vm₁, locs, cells, slots⟩ (Value.ref a :: argsL).toArray v B ∧
      ∀ target, Steps p.tables e below (B.U.setTop { g with pc := g.pc + 3, stack := v.toList ++ rest }) target → Steps p.tables e below (T.setTop g) target) ∨
    (∃ (q : Addr) (vm₁ : Vm) (B : Pt), s.WarmedH vm₁ ∧ Stand p l e R s m args below meth c B.U B.locs B.cells B.slots ∧ PostX ⟨T.setVm vm₁, locs, cells, slots⟩ (Value.ref a :: argsL).toArray q B ∧
      Steps p.tables e below (T.setTop g) ((B.U.setTop { g with stack := rest }).pushFrame (.throwing q))) := by
  subst hg
  have hpl : e.platform.magicAccessors = ({} : Platform).magicAccessors := by rw [X.admits.platform]
  obtain ⟨mk, methM, cM, kP, vm₁, hnamed, hmethM, hcodeM, -, hlocalsM, -, hkP, -, hW₁, hstep₁⟩ := Steps.initColdArgsNest (e := e) X.here hexec X.warmed hpl hown hy1 hy hlink hinst hcode (f := g) rfl hlen hstack hdg
  have X₁ := X.noted hW₁
  rcases hK g.method meth c ⟨T.setVm vm₁, locs, cells, slots⟩ { g with stack := rest } (.invokespecial index) mk (Value.ref a :: argsL).toArray X₁ rfl hsize hdg hW (X₁.named hnamed) (hpre vm₁ X₁.warmed) with ⟨v, B, X', hpost, hsteps⟩ | ⟨q, B, X', hpost, hsteps⟩
  · exact Or.inl ⟨v, vm₁, B, X₁.warmed, X', hpost, fun target h => hstep₁ _ fun acts => by rw [doInvoke_state]; exact hsteps.trans h⟩
  · exact Or.inr ⟨q, vm₁, B, X₁.warmed, X', hpost, hstep₁ _ fun acts => by rw [doInvoke_state]; exact hsteps⟩
end VXIC
section VXID
variable {p : Program} {l : Launch} {e : Env} {R : Room} {s : State} {m : MethodId} {args : Array Value} {below : List Frame} {meth : Method} {c : Code} {H : Heap} {locs : List Loc} {cells slots : Nat}
theorem vx_runIN {y : MethodName} {bytes cc : ByteArray} {maxL nL mc ms n index : Nat} {ws : List Cond} {rm : Room} {Pc : Array Value → State → Prop} {Qc : Array Value → State → Outcome → State → Prop} {XC : String → State → State → Prop} {free : Addr → Prop} {Ts : List Cond} {own host : String} {b : Addr} {As rest : List Value} {g : JFrame}
    (S : CallFix p m c cc nL s args Ts own) (hM : vx_Met l y ws rm Pc Qc XC mc ms free) (cw : va_CN R s args own index y host bytes maxL none ws rm mc ms n ∧ y.name = "<init>" ∧ (Cond.instanceMethod y).before args s = true) (hp : PreS s H Pc (.ref b :: As))
    (hg : g.method = m) (hn : As.length = n) (hsize : g.locals.size = nL) (hstack : g.stack = As.reverse ++ .ref b :: rest) (hW : 2 * g.monitorRoom + (rest.map fun v => v.category).sum ≤ 8) (hdg : decode cc g.pc = .ok (.invokespecial index, 3)) (hf : cells + mc ≤ R.cells ∧ slots + ms ≤ R.slots) :
    vx_Run p l e R s m args below meth c H locs cells slots mc ms g rest (Qc (Value.ref b :: As).toArray) XC free := by
  obtain ⟨⟨⟨hrc, hrs, hfr, hlo, hws, hcw⟩, hcode, hini, hy, hlen, hl⟩, hx1, hx2⟩ := cw
  have hK : vx_Back l R p e below s args y 3 8 (PreOf R mc ms Pc) (PostOf Qc mc ms free) (vx_Post XC mc ms free) := vx_back (bytes := bytes) (maxL := maxL) (ret := none) hM hp.1 hrc hrs hfr hlo hws hcw (fun a' U hW => word_at hW (Or.inl (by first | rfl | simp [Cond.onTables, Cond.keeps, Cond.steady])) hini)
  obtain ⟨hx, hb, hml, ho, -⟩ := S
  have hPc := hp.2
  intro T hT X
  rcases vx_callIN X hx (bytes := bytes) (maxL := maxL) ho hx1 hl hx2 hcode hy hK hg (hsize.trans hml.symm) (a := b) (argsL := As) (rest := rest) (fun sig h => hn.trans (hlen sig h)) hstack hW (by rw [hb]; exact hdg)
    (fun vm₁ hW₁ => ⟨hf.1, hf.2, hPc (T.setVm vm₁) hT hW₁⟩) with ⟨v, vm₁, ⟨U', l2, c2, s2⟩, hW₁, X', ⟨g', mk, t, L, e1, e2, hq, h1, hL, h2, h3⟩, st⟩ | ⟨q, vm₁, ⟨U', l2, c2, s2⟩, hW₁, X', ⟨g', mk, t, L, E, ce, e1, e2, hq, hce, hcv, hcl, h1, hL, h2, h3⟩, st⟩
  · dsimp only [Pt.U, Pt.locs, Pt.cells, Pt.slots] at X' e1 e2 h1 h2 h3 st
    subst h1; subst h2; subst h3
    exact Or.inl ⟨v, (T.setVm vm₁).calling g' mk (Value.ref b :: As).toArray, t, U', L, hT, X', hL, e1, e2, hq, st⟩
  · dsimp only [Pt.U, Pt.locs, Pt.cells, Pt.slots] at X' e1 e2 h1 h2 h3 st hcl
    subst h1; subst h2; subst h3
    exact Or.inr ⟨q, (T.setVm vm₁).calling g' mk (Value.ref b :: As).toArray, t, U', L, E, ce, hT, X', hL, e1, e2, hq, hce, hcv, vx_cls hW₁ hcl, st⟩
end VXID
/-! ===== END ===== -/
/-! ===== BEGIN a method of a class above, found by the receiver, that may throw (follows va_callVU, va_runU of this kit) ===== -/
section
variable {p : Program} {l : Launch} {e : Env} {R : Room} {s : State} {m : MethodId} {args : Array Value} {below : List Frame} {meth : Method} {c : Code} {H : Heap} {locs : List Loc} {cells slots : Nat}
theorem vx_callVU {T : State} {locs : List Loc} {cells slots : Nat} (X : Stand p l e R s m args below meth c T locs cells slots) (hexec : p.tables.exec = Jvm.exec) {own C owner : String} {index : Nat} {x y : MethodName} {bytes : ByteArray} {maxL : Nat} {ret : Option FieldType}
    (hown : s.vm.findClass own = some m.cls) (hlink : (Cond.methodLink own index x).before args s = true) (hsame : (Cond.sameMethod x.cls owner x.name x.desc).before args s = true)
    (hd0 : va_Decl s ⟨owner, x.name, x.desc⟩) (howner : owner ≠ "java/lang/invoke/MethodHandle" ∧ owner ≠ "java/lang/invoke/VarHandle")
    (hsel : (Cond.selects C x y).before args s = true) (hinst : (Cond.instanceMethod y).before args s = true) (hcode : (Cond.code y bytes maxL ret).before args s = true)
    {W : Nat} {Pre : Pt → Array Value → Prop} {Post : Pt → Array Value → Option Value → Pt → Prop} {PostX : Pt → Array Value → Addr → Pt → Prop} (hK : vx_Back l R p e below s args y 3 W Pre Post PostX)
    {b : Addr} {cellB : Cell} (hcell : T.heap[b]? = some cellB) (hobj : cellB.vm.isStatics = false) (hcls : s.vm.findClass C = some cellB.cls)
    {g : JFrame} (hg : g.method = m) (hsize : g.locals.size = c.maxLocals) {argsL rest : List Value} (hlen : ∀ sig, parseMethodDescriptor x.desc = some sig → argsL.length = sig.parameters.length)
    (hstack : g.stack = argsL.reverse ++ .ref b :: rest) (hW : 2 * g.monitorRoom + (rest.map fun v => v.category).sum ≤ W) (hdg : decode c.code g.pc = .ok (.invokevirtual index, 3))
    (hpre : ∀ vm₁, s.WarmedH vm₁ → Pre ⟨T.setVm vm₁, locs, cells, slots⟩ (Value.ref b :: argsL).toArray) :
    (∃ (v : Option Value) (vm₁ : Vm) (B : Pt), s.WarmedH vm₁ ∧ Stand p l e R s m args below meth c B.U B.locs B.cells B.slots ∧ Post ⟨T.setVm vm₁, locs, cells, slots⟩ (Value.ref b :: argsL).toArray v B ∧
      ∀ target, Steps p.tables e below (B.U.setTop { g with pc := g.pc + 3, stack := v.toList ++ rest }) target → Steps p.tables e below (T.setTop g) target) ∨
    (∃ (q : Addr) (vm₁ : Vm) (B : Pt), s.WarmedH vm₁ ∧ Stand p l e R s m args below meth c B.U B.locs B.cells B.slots ∧ PostX ⟨T.setVm vm₁, locs, cells, slots⟩ (Value.ref b :: argsL).toArray q B ∧
      Steps p.tables e below (T.setTop g) ((B.U.setTop { g with stack := rest }).pushFrame (.throwing q))) := by
  obtain ⟨r0, r, hn, hrm, hstR, hsigR⟩ := hd0
  obtain ⟨cn, ck, r1, hcn, hck, hni, hf, hn1⟩ := Cond.sameMethod_found hsame
  cases hn.symm.trans hn1
  obtain ⟨mk, methM, hnamed, hmethM, -, habM⟩ := Cond.instanceMethod_spec hinst
  obtain ⟨c2, r2, m2, q1, q2, q3, q4, kP, hkP, hkPi⟩ := Cond.selects_spec hsel
  cases hcls.symm.trans q1
  cases hf.symm.trans q2
  cases hnamed.symm.trans q3
  have hselP : selectMethod e.platform s.vm cellB.cls r0 = .method mk := by rw [Launch.admits_selectMethod X.admits]; exact q4
  obtain ⟨vm₁, X₁, hstep₁⟩ := X.invokevirtualUp hexec hown hlink hsame howner hn hrm hstR (a := b) (cell := cellB) hcell
    (fun z h => by rw [h] at hobj; cases hobj) hselP hmethM habM hkP hkPi (g := g) hg (argsL := argsL) (rest := rest) (hlen _ hsigR) hstack hdg
  rcases hK m meth c ⟨T.setVm vm₁, locs, cells, slots⟩ { g with stack := rest } (.invokevirtual index) mk (Value.ref b :: argsL).toArray X₁ hg hsize hdg hW (X₁.named hnamed) (hpre vm₁ X₁.warmed) with ⟨v, B, X', hpost, hsteps⟩ | ⟨q, B, X', hpost, hsteps⟩
  · exact Or.inl ⟨v, vm₁, B, X₁.warmed, X', hpost, fun target h => hstep₁ _ fun acts => by rw [doInvoke_state]; exact hsteps.trans h⟩
  · exact Or.inr ⟨q, vm₁, B, X₁.warmed, X', hpost, hstep₁ _ fun acts => by rw [doInvoke_state]; exact hsteps⟩
theorem vx_runU {x y : MethodName} {bytes cc : ByteArray} {maxL nL mc ms n index : Nat} {ret : Option FieldType} {ws : List Cond} {rm : Room} {Pc : Array Value → State → Prop} {Qc : Array Value → State → Outcome → State → Prop} {XC : String → State → State → Prop} {free : Addr → Prop} {Ts : List Cond} {own C owner : String} {b : Addr} {As rest : List Value} {g : JFrame}
    (S : CallFix p m c cc nL s args Ts own) (hM : vx_Met l y ws rm Pc Qc XC mc ms free) (cw : va_CU R s args own C owner index x y bytes maxL ret ws rm mc ms n) (hp : PreV s H C b Pc As)
    (hg : g.method = m) (hn : As.length = n) (hsize : g.locals.size = nL) (hstack : g.stack = As.reverse ++ .ref b :: rest) (hW : 2 * g.monitorRoom + (rest.map fun v => v.category).sum ≤ 8) (hdg : decode cc g.pc = .ok (.invokevirtual index, 3)) (hf : cells + mc ≤ R.cells ∧ slots + ms ≤ R.slots) :
    vx_Run p l e R s m args below meth c H locs cells slots mc ms g rest (Qc (Value.ref b :: As).toArray) XC free := by
  obtain ⟨hrc, hrs, hfr, hlo, hws, hcw⟩ := cw.back
  have hini := cw.init
  have hK : vx_Back l R p e below s args y 3 8 (PreOf R mc ms Pc) (PostOf Qc mc ms free) (vx_Post XC mc ms free) := vx_back (bytes := bytes) (maxL := maxL) (ret := ret) hM hp.1 hrc hrs hfr hlo hws hcw (fun a' U hW => word_at hW (Or.inl (by first | rfl | simp [Cond.onTables, Cond.keeps, Cond.steady])) hini)
  obtain ⟨hx, hb, hml, ho, -⟩ := S
  obtain ⟨-, ⟨cellB, hcB, hoB, hclB⟩, hPc⟩ := hp
  intro T hT X
  rcases vx_callVU X hx (C := C) (owner := owner) (bytes := bytes) (maxL := maxL) (ret := ret) ho cw.link cw.same cw.decl cw.notMH cw.sel cw.inst cw.code hK (by rw [hT]; exact hcB) hoB hclB hg (hsize.trans hml.symm) (argsL := As) (rest := rest) (fun sig h => hn.trans (cw.len sig h)) hstack hW (by rw [hb]; exact hdg)
    (fun vm₁ hW₁ => ⟨hf.1, hf.2, hPc (T.setVm vm₁) hT hW₁⟩) with ⟨v, vm₁, ⟨U', l2, c2, s2⟩, hW₁, X', ⟨g', mk, t, L, e1, e2, hq, h1, hL, h2, h3⟩, st⟩ | ⟨q, vm₁, ⟨U', l2, c2, s2⟩, hW₁, X', ⟨g', mk, t, L, E, ce, e1, e2, hq, hce, hcv, hcl, h1, hL, h2, h3⟩, st⟩
  · dsimp only [Pt.U, Pt.locs, Pt.cells, Pt.slots] at X' e1 e2 h1 h2 h3 st
    subst h1; subst h2; subst h3
    exact Or.inl ⟨v, (T.setVm vm₁).calling g' mk (Value.ref b :: As).toArray, t, U', L, hT, X', hL, e1, e2, hq, st⟩
  · dsimp only [Pt.U, Pt.locs, Pt.cells, Pt.slots] at X' e1 e2 h1 h2 h3 st hcl
    subst h1; subst h2; subst h3
    exact Or.inr ⟨q, (T.setVm vm₁).calling g' mk (Value.ref b :: As).toArray, t, U', L, E, ce, hT, X', hL, e1, e2, hq, hce, hcv, vx_cls hW₁ hcl, st⟩
end
/-! ===== END ===== -/
/-! ===== BEGIN super.m(..) that may throw (follows va_callSU, va_runSU) ===== -/
section
variable {p : Program} {l : Launch} {e : Env} {R : Room} {s : State} {m : MethodId} {args : Array Value} {below : List Frame} {meth : Method} {c : Code} {H : Heap} {locs : List Loc} {cells slots : Nat}
theorem vx_callSU {T : State} {locs : List Loc} {cells slots : Nat} (X : Stand p l e R s m args below meth c T locs cells slots) (hexec : p.tables.exec = Jvm.exec) {own : String} {index : Nat} {y : MethodName} {bytes : ByteArray} {maxL : Nat} {ret : Option FieldType}
    (hown : s.vm.findClass own = some m.cls) (hlink : (Cond.methodLink own index y).before args s = true) (hsame : (Cond.sameMethod y.cls y.cls y.name y.desc).before args s = true) (hsup : (Cond.superclass own y.cls).before args s = true)
    (hinst : (Cond.instanceMethod y).before args s = true) (hcode : (Cond.code y bytes maxL ret).before args s = true) (hno : y.name ≠ "<init>")
    {W : Nat} {Pre : Pt → Array Value → Prop} {Post : Pt → Array Value → Option Value → Pt → Prop} {PostX : Pt → Array Value → Addr → Pt → Prop} (hK : vx_Back l R p e below s args y 3 W Pre Post PostX)
    {b : Addr} {cellB : Cell} {kB : Class} (hcell : T.heap[b]? = some cellB) (hobj : cellB.vm.isStatics = false) (hkB : s.vm.classes[cellB.cls]? = some kB)
    {g : JFrame} (hg : g.method = m) (hsize : g.locals.size = c.maxLocals) {argsL rest : List Value} (hlen : ∀ sig, parseMethodDescriptor y.desc = some sig → argsL.length = sig.parameters.length)
    (hstack : g.stack = argsL.reverse ++ .ref b :: rest) (hW : 2 * g.monitorRoom + (rest.map fun v => v.category).sum ≤ W) (hdg : decode c.code g.pc = .ok (.invokespecial index, 3))
    (hpre : ∀ vm₁, s.WarmedH vm₁ → Pre ⟨T.setVm vm₁, locs, cells, slots⟩ (Value.ref b :: argsL).toArray) :
    (∃ (v : Option Value) (vm₁ : Vm) (B : Pt), s.WarmedH vm₁ ∧ Stand p l e R s m args below meth c B.U B.locs B.cells B.slots ∧ Post ⟨T.setVm vm₁, locs, cells, slots⟩ (Value.ref b :: argsL).toArray v B ∧
      ∀ target, Steps p.tables e below (B.U.setTop { g with pc := g.pc + 3, stack := v.toList ++ rest }) target → Steps p.tables e below (T.setTop g) target) ∨
    (∃ (q : Addr) (vm₁ : Vm) (B : Pt), s.WarmedH vm₁ ∧ Stand p l e R s m args below meth c B.U B.locs B.cells B.slots ∧ PostX ⟨T.setVm vm₁, locs, cells, slots⟩ (Value.ref b :: argsL).toArray q B ∧
      Steps p.tables e below (T.setTop g) ((B.U.setTop { g with stack := rest }).pushFrame (.throwing q))) := by
  obtain ⟨mk, methM, hnamed, hmethM, hstM, habM⟩ := Cond.instanceMethod_spec hinst
  obtain ⟨methM', cM, hmethM', -, -, -, -, -, -, hsigM⟩ := Cond.code_spec hnamed hcode
  cases hmethM.symm.trans hmethM'
  obtain ⟨ps, dk, kp, hps, hdk, hkp, hsuper, -, -, hnid⟩ := Cond.superclass_spec hown hsup
  have hn : s.methodNamed? ⟨y.cls, y.name, y.desc⟩ = some mk := hnamed
  have hpm : ps = mk.cls := Option.some.inj (hps.symm.trans (findClass_of_methodNamed hnamed))
  have hsub : s.vm.isSubclass ps mk.cls = true := by rw [hpm]; simp [Vm.isSubclass, Vm.isSubclassAux]
  obtain ⟨vm₁, X₁, hstep₁⟩ := X.invokespecialUp hexec hown hlink hsame hn hmethM hstM habM hno hdk hnid hps hsuper hsub (a := b) (cell := cellB) hcell
    (fun z h => by rw [h] at hobj; cases hobj) hkB (g := g) hg (argsL := argsL) (rest := rest) (hlen _ hsigM) hstack hdg
  rcases hK m meth c ⟨T.setVm vm₁, locs, cells, slots⟩ { g with stack := rest } (.invokespecial index) mk (Value.ref b :: argsL).toArray X₁ hg hsize hdg hW (X₁.named hnamed) (hpre vm₁ X₁.warmed) with ⟨v, B, X', hpost, hsteps⟩ | ⟨q, B, X', hpost, hsteps⟩
  · exact Or.inl ⟨v, vm₁, B, X₁.warmed, X', hpost, fun target h => hstep₁ _ (by rw [doInvoke_state]; exact hsteps.trans h)⟩
  · exact Or.inr ⟨q, vm₁, B, X₁.warmed, X', hpost, hstep₁ _ (by rw [doInvoke_state]; exact hsteps)⟩
theorem vx_runSU {y : MethodName} {bytes cc : ByteArray} {maxL nL mc ms n index : Nat} {ret : Option FieldType} {ws : List Cond} {rm : Room} {Pc : Array Value → State → Prop} {Qc : Array Value → State → Outcome → State → Prop} {XC : String → State → State → Prop} {free : Addr → Prop} {Ts : List Cond} {own C : String} {cC : ClassId} {b : Addr} {As rest : List Value} {g : JFrame}
    (hat : ClassAt s C cC) (S : CallFix p m c cc nL s args Ts own) (hM : vx_Met l y ws rm Pc Qc XC mc ms free) (cw : va_CS R s args own index y bytes maxL ret ws rm mc ms n) (hp : PreV s H C b Pc As)
    (hg : g.method = m) (hn : As.length = n) (hsize : g.locals.size = nL) (hstack : g.stack = As.reverse ++ .ref b :: rest) (hW : 2 * g.monitorRoom + (rest.map fun v => v.category).sum ≤ 8) (hdg : decode cc g.pc = .ok (.invokespecial index, 3)) (hf : cells + mc ≤ R.cells ∧ slots + ms ≤ R.slots) :
    vx_Run p l e R s m args below meth c H locs cells slots mc ms g rest (Qc (Value.ref b :: As).toArray) XC free := by
  obtain ⟨⟨hrc, hrs, hfr, hlo, hws, hcw⟩, hl1, hl2, hl3, hl4, hini, hcode, hno, hlen⟩ := cw
  have hK : vx_Back l R p e below s args y 3 8 (PreOf R mc ms Pc) (PostOf Qc mc ms free) (vx_Post XC mc ms free) := vx_back (bytes := bytes) (maxL := maxL) (ret := ret) hM hp.1 hrc hrs hfr hlo hws hcw (fun a' U hW => word_at hW (Or.inl (by first | rfl | simp [Cond.onTables, Cond.keeps, Cond.steady])) hini)
  obtain ⟨hx, hb, hml, ho, -⟩ := S
  obtain ⟨-, ⟨cellB, hcB, hoB, hclB⟩, hPc⟩ := hp
  obtain ⟨hfc, kB, hkB, -⟩ := hat
  cases hfc.symm.trans hclB
  intro T hT X
  rcases vx_callSU X hx (bytes := bytes) (maxL := maxL) (ret := ret) ho hl1 hl2 hl3 hl4 hcode hno hK (by rw [hT]; exact hcB) hoB hkB hg (hsize.trans hml.symm) (argsL := As) (rest := rest) (fun sig h => hn.trans (hlen sig h)) hstack hW (by rw [hb]; exact hdg)
    (fun vm₁ hW₁ => ⟨hf.1, hf.2, hPc (T.setVm vm₁) hT hW₁⟩) with ⟨v, vm₁, ⟨U', l2, c2, s2⟩, hW₁, X', ⟨g', mk, t, L, e1, e2, hq, h1, hL, h2, h3⟩, st⟩ | ⟨q, vm₁, ⟨U', l2, c2, s2⟩, hW₁, X', ⟨g', mk, t, L, E, ce, e1, e2, hq, hce, hcv, hcl, h1, hL, h2, h3⟩, st⟩
  · dsimp only [Pt.U, Pt.locs, Pt.cells, Pt.slots] at X' e1 e2 h1 h2 h3 st
    subst h1; subst h2; subst h3
    exact Or.inl ⟨v, (T.setVm vm₁).calling g' mk (Value.ref b :: As).toArray, t, U', L, hT, X', hL, e1, e2, hq, st⟩
  · dsimp only [Pt.U, Pt.locs, Pt.cells, Pt.slots] at X' e1 e2 h1 h2 h3 st hcl
    subst h1; subst h2; subst h3
    exact Or.inr ⟨q, (T.setVm vm₁).calling g' mk (Value.ref b :: As).toArray, t, U', L, E, ce, hT, X', hL, e1, e2, hq, hce, hcv, vx_cls hW₁ hcl, st⟩
end
/-! ===== END ===== -/
/-! ===== BEGIN a private method of a nest mate that may throw (follows va_callVN, va_callSN, va_runVN, va_runSN) ===== -/
section
variable {p : Program} {l : Launch} {e : Env} {R : Room} {s : State} {m : MethodId} {args : Array Value} {below : List Frame} {meth : Method} {c : Code} {H : Heap} {locs : List Loc} {cells slots : Nat}
variable {T : State}
theorem vx_callVN (X : Stand p l e R s m args below meth c T locs cells slots) (hexec : p.tables.exec = Jvm.exec) {own C : String} {index : Nat} {host : String} {y : MethodName} {bytes : ByteArray} {maxL : Nat} {ret : Option FieldType}
    (hown : s.vm.findClass own = some m.cls) (hlink : (Cond.methodLinkNest own index y host).before args s = true) (hinst : (Cond.instanceMethod y).before args s = true) (hsel : (Cond.selects C y y).before args s = true)
    (hcode : (Cond.code y bytes maxL ret).before args s = true) (hy : y.cls ≠ "java/lang/invoke/MethodHandle" ∧ y.cls ≠ "java/lang/invoke/VarHandle")
    {W : Nat} {Pre : Pt → Array Value → Prop} {Post : Pt → Array Value → Option Value → Pt → Prop} {PostX : Pt → Array Value → Addr → Pt → Prop} (hK : vx_Back l R p e below s args y 3 W Pre Post PostX)
    {b : Addr} {cellB : Cell} (hcell : T.heap[b]? = some cellB) (hobj : cellB.vm.isStatics = false) (hcls : s.vm.findClass C = some cellB.cls)
    {g : JFrame} (hg : g.method = m) (hsize : g.locals.size = c.maxLocals) {argsL rest : List Value} (hlen : ∀ sig, parseMethodDescriptor y.desc = some sig → argsL.length = sig.parameters.length)
    (hstack : g.stack = argsL.reverse ++ .ref b :: rest) (hW : 2 * g.monitorRoom + (rest.map fun v => v.category).sum ≤ W) (hdg : decode c.code g.pc = .ok (.invokevirtual index, 3))
    (hpre : ∀ vm₁, s.WarmedH vm₁ → Pre ⟨T.setVm vm₁, locs, cells, slots⟩ (Value.ref b :: argsL).toArray) :
    (∃ (v : Option Value) (vm₁ : Vm) (B : Pt), s.WarmedH vm₁ ∧ Stand p l e R s m args below meth c B.U B.locs B.cells B.slots ∧ Post ⟨T.setVm vm₁, locs, cells, slots⟩ (Value.ref b :: argsL).toArray v B ∧
      ∀ target, Steps p.tables e below (B.U.setTop { g with pc := g.pc + 3, stack := v.toList ++ rest }) target → Steps p.tables e below (T.setTop g) target) ∨
    (∃ (q : Addr) (vm₁ : Vm) (B : Pt), s.WarmedH vm₁ ∧ Stand p l e R s m args below meth c B.U B.locs B.cells B.slots ∧ PostX ⟨T.setVm vm₁, locs, cells, slots⟩ (Value.ref b :: argsL).toArray q B ∧
      Steps p.tables e below (T.setTop g) ((B.U.setTop { g with stack := rest }).pushFrame (.throwing q))) := by
  obtain ⟨mk, methM, hnamed, hmethM, hstM, habM⟩ := Cond.instanceMethod_spec hinst
  obtain ⟨methM', cM, hmethM', -, -, -, -, -, -, hsigM⟩ := Cond.code_spec hnamed hcode
  cases hmethM.symm.trans hmethM'
  obtain ⟨c2, r2, m2, q1, q2, q3, q4, kP, hkP, hkPi⟩ := Cond.selects_spec hsel
  cases hcls.symm.trans q1
  cases (State.methodFound?_of_named hnamed hy).symm.trans q2
  cases hnamed.symm.trans q3
  have hselP : selectMethod e.platform s.vm cellB.cls mk = .method mk := by rw [Launch.admits_selectMethod X.admits]; exact q4
  obtain ⟨vm₁, X₁, hstep₁⟩ := X.invokevirtualNest hexec hown hlink hnamed hmethM hstM hkP hkPi hy (a := b) (cell := cellB) hcell
    (fun z h => by rw [h] at hobj; cases hobj) hselP hmethM habM hkP hkPi (g := g) hg (argsL := argsL) (rest := rest) (hlen _ hsigM) hstack hdg
  rcases hK m meth c ⟨T.setVm vm₁, locs, cells, slots⟩ { g with stack := rest } (.invokevirtual index) mk (Value.ref b :: argsL).toArray X₁ hg hsize hdg hW (X₁.named hnamed) (hpre vm₁ X₁.warmed) with ⟨v, B, X', hpost, hsteps⟩ | ⟨q, B, X', hpost, hsteps⟩
  · exact Or.inl ⟨v, vm₁, B, X₁.warmed, X', hpost, fun target h => hstep₁ _ fun acts => by rw [doInvoke_state]; exact hsteps.trans h⟩
  · exact Or.inr ⟨q, vm₁, B, X₁.warmed, X', hpost, hstep₁ _ fun acts => by rw [doInvoke_state]; exact hsteps⟩
theorem vx_callSN (X : Stand p l e R s m args below meth c T locs cells slots) (hexec : p.tables.exec = Jvm.exec) {own : String} {index : Nat} {host : String} {y : MethodName} {bytes : ByteArray} {maxL : Nat} {ret : Option FieldType}
    (hown : s.vm.findClass own = some m.cls) (hlink : (Cond.methodLinkNest own index y host).before args s = true) (hstat : (Cond.static y).before args s = true) (hinit : (Cond.initialized y.cls).before args s = true)
    (hcode : (Cond.code y bytes maxL ret).before args s = true) (hy : y.cls ≠ "java/lang/invoke/MethodHandle" ∧ y.cls ≠ "java/lang/invoke/VarHandle")
    {W : Nat} {Pre : Pt → Array Value → Prop} {Post : Pt → Array Value → Option Value → Pt → Prop} {PostX : Pt → Array Value → Addr → Pt → Prop} (hK : vx_Back l R p e below s args y 3 W Pre Post PostX)
    {g : JFrame} (hg : g.method = m) (hsize : g.locals.size = c.maxLocals) {argsL rest : List Value} (hlen : ∀ sig, parseMethodDescriptor y.desc = some sig → argsL.length = sig.parameters.length)
    (hstack : g.stack = argsL.reverse ++ rest) (hW : 2 * g.monitorRoom + (rest.map fun v => v.category).sum ≤ W) (hdg : decode c.code g.pc = .ok (.invokestatic index, 3))
    (hpre : ∀ vm₁, s.WarmedH vm₁ → Pre ⟨T.setVm vm₁, locs, cells, slots⟩ argsL.toArray) :
    (∃ (v : Option Value) (vm₁ : Vm) (B : Pt), s.WarmedH vm₁ ∧ Stand p l e R s m args below meth c B.U B.locs B.cells B.slots ∧ Post ⟨T.setVm vm₁, locs, cells, slots⟩ argsL.toArray v B ∧
      ∀ target, Steps p.tables e below (B.U.setTop { g with pc := g.pc + 3, stack := v.toList ++ rest }) target → Steps p.tables e below (T.setTop g) target) ∨
    (∃ (q : Addr) (vm₁ : Vm) (B : Pt), s.WarmedH vm₁ ∧ Stand p l e R s m args below meth c B.U B.locs B.cells B.slots ∧ PostX ⟨T.setVm vm₁, locs, cells, slots⟩ argsL.toArray q B ∧
      Steps p.tables e below (T.setTop g) ((B.U.setTop { g with stack := rest }).pushFrame (.throwing q))) := by
  obtain ⟨mk, hnamed⟩ := Cond.code_named hcode
  obtain ⟨methM, cM, hmethM, -, -, -, -, -, -, hsigM⟩ := Cond.code_spec hnamed hcode
  have hstatic : methM.isStatic = true := Cond.static_spec hnamed hmethM hstat
  obtain ⟨kP, hkP, -⟩ := className_of_methodNamed hnamed
  have hinitP : kP.init = .initialized := Cond.initialized_spec (findClass_of_methodNamed hnamed) hkP hinit
  obtain ⟨vm₁, X₁, hstep₁⟩ := X.invokestaticNest hexec hown hlink hnamed hmethM hstatic hkP hinitP hy (g := g) hg (argsL := argsL) (rest := rest) (hlen _ hsigM) hstack hdg
  rcases hK m meth c ⟨T.setVm vm₁, locs, cells, slots⟩ { g with stack := rest } (.invokestatic index) mk argsL.toArray X₁ hg hsize hdg hW (X₁.named hnamed) (hpre vm₁ X₁.warmed) with ⟨v, B, X', hpost, hsteps⟩ | ⟨q, B, X', hpost, hsteps⟩
  · exact Or.inl ⟨v, vm₁, B, X₁.warmed, X', hpost, fun target h => hstep₁ _ fun acts => by rw [doInvoke_state]; exact hsteps.trans h⟩
  · exact Or.inr ⟨q, vm₁, B, X₁.warmed, X', hpost, hstep₁ _ fun acts => by rw [doInvoke_state]; exact hsteps⟩
theorem vx_runVN {y : MethodName} {bytes cc : ByteArray} {maxL nL mc ms n index : Nat} {ret : Option FieldType} {ws : List Cond} {rm : Room} {Pc : Array Value → State → Prop} {Qc : Array Value → State → Outcome → State → Prop} {XC : String → State → State → Prop} {free : Addr → Prop} {Ts : List Cond} {own C host : String} {b : Addr} {As rest : List Value} {g : JFrame}
    (S : CallFix p m c cc nL s args Ts own) (hM : vx_Met l y ws rm Pc Qc XC mc ms free) (cw : va_CN R s args own index y host bytes maxL ret ws rm mc ms n ∧ (Cond.instanceMethod y).before args s = true ∧ (Cond.selects C y y).before args s = true) (hp : PreV s H C b Pc As)
    (hg : g.method = m) (hn : As.length = n) (hsize : g.locals.size = nL) (hstack : g.stack = As.reverse ++ .ref b :: rest) (hW : 2 * g.monitorRoom + (rest.map fun v => v.category).sum ≤ 8) (hdg : decode cc g.pc = .ok (.invokevirtual index, 3)) (hf : cells + mc ≤ R.cells ∧ slots + ms ≤ R.slots) :
    vx_Run p l e R s m args below meth c H locs cells slots mc ms g rest (Qc (Value.ref b :: As).toArray) XC free := by
  obtain ⟨⟨⟨hrc, hrs, hfr, hlo, hws, hcw⟩, hcode, hini, hy, hlen, hl⟩, hx1, hx2⟩ := cw
  have hK : vx_Back l R p e below s args y 3 8 (PreOf R mc ms Pc) (PostOf Qc mc ms free) (vx_Post XC mc ms free) := vx_back (bytes := bytes) (maxL := maxL) (ret := ret) hM hp.1 hrc hrs hfr hlo hws hcw (fun a' U hW => word_at hW (Or.inl (by first | rfl | simp [Cond.onTables, Cond.keeps, Cond.steady])) hini)
  obtain ⟨hx, hb, hml, ho, -⟩ := S
  obtain ⟨-, ⟨cellB, hcB, hoB, hclB⟩, hPc⟩ := hp
  intro T hT X
  rcases vx_callVN X hx (C := C) (bytes := bytes) (maxL := maxL) (ret := ret) ho hl hx1 hx2 hcode hy hK (by rw [hT]; exact hcB) hoB hclB hg (hsize.trans hml.symm) (argsL := As) (rest := rest) (fun sig h => hn.trans (hlen sig h)) hstack hW (by rw [hb]; exact hdg)
    (fun vm₁ hW₁ => ⟨hf.1, hf.2, hPc (T.setVm vm₁) hT hW₁⟩) with ⟨v, vm₁, ⟨U', l2, c2, s2⟩, hW₁, X', ⟨g', mk, t, L, e1, e2, hq, h1, hL, h2, h3⟩, st⟩ | ⟨q, vm₁, ⟨U', l2, c2, s2⟩, hW₁, X', ⟨g', mk, t, L, E, ce, e1, e2, hq, hce, hcv, hcl, h1, hL, h2, h3⟩, st⟩
  · dsimp only [Pt.U, Pt.locs, Pt.cells, Pt.slots] at X' e1 e2 h1 h2 h3 st
    subst h1; subst h2; subst h3
    exact Or.inl ⟨v, (T.setVm vm₁).calling g' mk (Value.ref b :: As).toArray, t, U', L, hT, X', hL, e1, e2, hq, st⟩
  · dsimp only [Pt.U, Pt.locs, Pt.cells, Pt.slots] at X' e1 e2 h1 h2 h3 st hcl
    subst h1; subst h2; subst h3
    exact Or.inr ⟨q, (T.setVm vm₁).calling g' mk (Value.ref b :: As).toArray, t, U', L, E, ce, hT, X', hL, e1, e2, hq, hce, hcv, vx_cls hW₁ hcl, st⟩
theorem vx_runSN {y : MethodName} {bytes cc : ByteArray} {maxL nL mc ms n index : Nat} {ret : Option FieldType} {ws : List Cond} {rm : Room} {Pc : Array Value → State → Prop} {Qc : Array Value → State → Outcome → State → Prop} {XC : String → State → State → Prop} {free : Addr → Prop} {Ts : List Cond} {own host : String} {As rest : List Value} {g : JFrame}
    (S : CallFix p m c cc nL s args Ts own) (hM : vx_Met l y ws rm Pc Qc XC mc ms free) (cw : va_CN R s args own index y host bytes maxL ret ws rm mc ms n ∧ (Cond.static y).before args s = true ∧ True) (hp : PreS s H Pc As)
    (hg : g.method = m) (hn : As.length = n) (hsize : g.locals.size = nL) (hstack : g.stack = As.reverse ++ rest) (hW : 2 * g.monitorRoom + (rest.map fun v => v.category).sum ≤ 8) (hdg : decode cc g.pc = .ok (.invokestatic index, 3)) (hf : cells + mc ≤ R.cells ∧ slots + ms ≤ R.slots) :
    vx_Run p l e R s m args below meth c H locs cells slots mc ms g rest (Qc As.toArray) XC free := by
  obtain ⟨⟨⟨hrc, hrs, hfr, hlo, hws, hcw⟩, hcode, hini, hy, hlen, hl⟩, hx1, hx2⟩ := cw
  have hK : vx_Back l R p e below s args y 3 8 (PreOf R mc ms Pc) (PostOf Qc mc ms free) (vx_Post XC mc ms free) := vx_back (bytes := bytes) (maxL := maxL) (ret := ret) hM hp.1 hrc hrs hfr hlo hws hcw (fun a' U hW => word_at hW (Or.inl (by first | rfl | simp [Cond.onTables, Cond.keeps, Cond.steady])) hini)
  obtain ⟨hx, hb, hml, ho, -⟩ := S
  have hPc := hp.2
  intro T hT X
  rcases vx_callSN X hx (bytes := bytes) (maxL := maxL) (ret := ret) ho hl hx1 hini hcode hy hK hg (hsize.trans hml.symm) (argsL := As) (rest := rest) (fun sig h => hn.trans (hlen sig h)) hstack hW (by rw [hb]; exact hdg)
    (fun vm₁ hW₁ => ⟨hf.1, hf.2, hPc (T.setVm vm₁) hT hW₁⟩) with ⟨v, vm₁, ⟨U', l2, c2, s2⟩, hW₁, X', ⟨g', mk, t, L, e1, e2, hq, h1, hL, h2, h3⟩, st⟩ | ⟨q, vm₁, ⟨U', l2, c2, s2⟩, hW₁, X', ⟨g', mk, t, L, E, ce, e1, e2, hq, hce, hcv, hcl, h1, hL, h2, h3⟩, st⟩
  · dsimp only [Pt.U, Pt.locs, Pt.cells, Pt.slots] at X' e1 e2 h1 h2 h3 st
    subst h1; subst h2; subst h3
    exact Or.inl ⟨v, (T.setVm vm₁).calling g' mk As.toArray, t, U', L, hT, X', hL, e1, e2, hq, st⟩
  · dsimp only [Pt.U, Pt.locs, Pt.cells, Pt.slots] at X' e1 e2 h1 h2 h3 st hcl
    subst h1; subst h2; subst h3
    exact Or.inr ⟨q, (T.setVm vm₁).calling g' mk As.toArray, t, U', L, E, ce, hT, X', hL, e1, e2, hq, hce, hcv, vx_cls hW₁ hcl, st⟩
end
/-! ===== END ===== -/
/-! ===== BEGIN calls by an interface of methods that may throw (vx_callIF, vx_runF follow va_callIF, va_runF of this kit) ===== -/
section
variable {p : Program} {l : Launch} {e : Env} {R : Room} {s : State} {m : MethodId} {args : Array Value} {below : List Frame} {meth : Method} {c : Code} {H : Heap} {locs : List Loc} {cells slots : Nat} {Q : State → Prop}
variable {mc ms : Nat} {free : Addr → Prop} {A0 A1 : Nat → Prop} {H0 : Heap} {a : Array Value} {pc : Nat} {ls : Array Slot} {st0 rest : List Value}
def vx_Run5 (p : Program) (l : Launch) (e : Env) (R : Room) (s : State) (m : MethodId) (args : Array Value) (below : List Frame) (meth : Method) (c : Code) (H : Heap) (locs : List Loc) (cells slots mc ms : Nat) (g : JFrame) (rest : List Value) (Qa : State → Outcome → State → Prop) (XC : String → State → State → Prop) (free : Addr → Prop) : Prop :=
  ∀ T : State, T.heap = H → Stand p l e R s m args below meth c T locs cells slots →
    (∃ (v : Option Value) (st₀ t T' : State) (L : List Loc), st₀.heap = H ∧ Stand p l e R s m args below meth c T' (locs ++ L) (cells + mc) (slots + ms) ∧ (∀ q ∈ L, free q.base) ∧ T'.heap = t.heap ∧ T'.vm = t.vm ∧ Qa st₀ (.returned v) t ∧
      Goes p e below T g T' { g with pc := g.pc + 5, stack := v.toList ++ rest }) ∨
    (∃ (q : Addr) (st₀ t T' : State) (L : List Loc) (E : String) (ce : Cell), st₀.heap = H ∧ Stand p l e R s m args below meth c T' (locs ++ L) (cells + mc) (slots + ms) ∧ (∀ z ∈ L, free z.base) ∧ T'.heap = t.heap ∧ T'.vm = t.vm ∧ XC E st₀ t ∧ t.heap[q]? = some ce ∧ ce.vm = .none ∧ s.vm.findClass E = some ce.cls ∧
      Steps p.tables e below (T.setTop g) ((T'.setTop { g with stack := rest }).pushFrame (.throwing q)))
theorem vx_callIF {T : State} (X : Stand p l e R s m args below meth c T locs cells slots) (hexec : p.tables.exec = Jvm.exec) {own C : String} {index count : Nat} {x y : MethodName} {bytes : ByteArray} {maxL : Nat} {ret : Option FieldType}
    (hown : s.vm.findClass own = some m.cls) (hlink : (Cond.methodLink own index x).before args s = true) (hdecl : (Cond.declares x).before args s = true) (hface : (Cond.interfaceMethod x.cls x.cls x.name x.desc).before args s = true)
    (hsel : (Cond.selects C x y).before args s = true) (hinst : (Cond.instanceMethod y).before args s = true) (hpub : (Cond.publicMethod y).before args s = true) (hunh : (Cond.unhidden C x.name x.desc).before args s = true)
    (hcast : (Cond.castable C x.cls).before args s = true) (hcode : (Cond.code y bytes maxL ret).before args s = true) (hx : x.cls ≠ "java/lang/invoke/MethodHandle" ∧ x.cls ≠ "java/lang/invoke/VarHandle")
    {W9 : Nat} {Pre : Pt → Array Value → Prop} {Post : Pt → Array Value → Option Value → Pt → Prop} {PostX : Pt → Array Value → Addr → Pt → Prop} (hK : vx_Back l R p e below s args y 5 W9 Pre Post PostX)
    {b : Addr} {cellB : Cell} {kB : Class} (hcell : T.heap[b]? = some cellB) (hobj : cellB.vm.isStatics = false) (hcls : s.vm.findClass C = some cellB.cls) (hkB : s.vm.classes[cellB.cls]? = some kB)
    {g : JFrame} (hg : g.method = m) (hsize : g.locals.size = c.maxLocals) {argsL rest : List Value} (hlen : ∀ sig, parseMethodDescriptor x.desc = some sig → argsL.length = sig.parameters.length)
    (hstack : g.stack = argsL.reverse ++ .ref b :: rest) (hW : 2 * g.monitorRoom + (rest.map fun v => v.category).sum ≤ W9) (hdg : decode c.code g.pc = .ok (.invokeinterface index count, 5))
    (hpre : ∀ vm₁, s.WarmedH vm₁ → Pre ⟨T.setVm vm₁, locs, cells, slots⟩ (Value.ref b :: argsL).toArray) :
    (∃ (v : Option Value) (vm₁ : Vm) (B : Pt), s.WarmedH vm₁ ∧ Stand p l e R s m args below meth c B.U B.locs B.cells B.slots ∧ Post ⟨T.setVm vm₁, locs, cells, slots⟩ (Value.ref b :: argsL).toArray v B ∧
      ∀ target, Steps p.tables e below (B.U.setTop { g with pc := g.pc + 5, stack := v.toList ++ rest }) target → Steps p.tables e below (T.setTop g) target) ∨
    (∃ (q : Addr) (vm₁ : Vm) (B : Pt), s.WarmedH vm₁ ∧ Stand p l e R s m args below meth c B.U B.locs B.cells B.slots ∧ PostX ⟨T.setVm vm₁, locs, cells, slots⟩ (Value.ref b :: argsL).toArray q B ∧
      Steps p.tables e below (T.setTop g) ((B.U.setTop { g with stack := rest }).pushFrame (.throwing q))) := by
  obtain ⟨r0, r, hn, hrm, hstR, hsigR⟩ := Cond.declares_spec hdecl
  obtain ⟨cL, kL, r1, hcL, hkL, hiL, hfoundL, hn1⟩ := Cond.interfaceMethod_spec hface
  cases hn.symm.trans hn1
  have hr0cls : r0.cls = cL := Option.some.inj ((findClass_of_methodNamed hn).symm.trans hcL)
  obtain ⟨hnameR, hdescR⟩ := name_of_methodNamed hn hrm
  obtain ⟨mk, methM, hnamed, hmethM, -, habM⟩ := Cond.instanceMethod_spec hinst
  obtain ⟨c2, r2, m2, q1, q2, q3, q4, -⟩ := Cond.selects_spec hsel
  cases hcls.symm.trans q1
  cases hfoundL.symm.trans q2
  cases hnamed.symm.trans q3
  have hselP : selectMethod e.platform s.vm cellB.cls r0 = .method mk := by rw [Launch.admits_selectMethod X.admits]; exact q4
  have hpubM : hasFlag methM.accessFlags Acc.public_ = true := Cond.publicMethod_spec hnamed hmethM hpub
  have hway : ((cellB.cls :: s.vm.superclasses cellB.cls).any fun k => (declaredIn s.vm r.name r.desc k).any fun (_, z) => z.isPrivate || z.isStatic) = false := by
    rw [hnameR, hdescR]; exact Cond.unhidden_spec hcls hunh
  obtain ⟨c3, t3, w1, w2, w3⟩ := Cond.castable_spec hcast
  cases hcls.symm.trans w1
  cases hcL.symm.trans w2
  obtain ⟨vm₁, X₁, hstep₁⟩ := X.invokeinterface hexec hown hlink hn hrm hstR (by rw [hr0cls]; exact hkL) hiL hx (a := b) (cell := cellB) (kcell := kB) hcell
    (fun z h => by rw [h] at hobj; cases hobj) hkB (by rw [hr0cls]; exact w3) hselP hmethM hway hpubM habM (g := g) hg (argsL := argsL) (rest := rest) (hlen _ hsigR) hstack hdg
  rcases hK m meth c ⟨T.setVm vm₁, locs, cells, slots⟩ { g with stack := rest } (.invokeinterface index count) mk (Value.ref b :: argsL).toArray X₁ hg hsize hdg hW (X₁.named hnamed) (hpre vm₁ X₁.warmed) with ⟨v, B, X', hpost, hsteps⟩ | ⟨q, B, X', hpost, hsteps⟩
  · exact Or.inl ⟨v, vm₁, B, X₁.warmed, X', hpost, fun target h => hstep₁ _ fun acts => by rw [doInvoke_state]; exact hsteps.trans h⟩
  · exact Or.inr ⟨q, vm₁, B, X₁.warmed, X', hpost, hstep₁ _ fun acts => by rw [doInvoke_state]; exact hsteps⟩
theorem vx_runF {x y : MethodName} {bytes cc : ByteArray} {maxL nL mc ms n index count : Nat} {ret : Option FieldType} {ws : List Cond} {rm : Room} {Pc : Array Value → State → Prop} {Qc : Array Value → State → Outcome → State → Prop} {XC : String → State → State → Prop} {free : Addr → Prop} {Ts : List Cond} {own C : String} {cC : ClassId} {b : Addr} {As rest : List Value} {g : JFrame}
    (hat : ClassAt s C cC) (S : CallFix p m c cc nL s args Ts own) (hM : vx_Met l y ws rm Pc Qc XC mc ms free) (cw : va_CI R s args own C index x y bytes maxL ret ws rm mc ms n) (hp : PreV s H C b Pc As)
    (hg : g.method = m) (hn : As.length = n) (hsize : g.locals.size = nL) (hstack : g.stack = As.reverse ++ .ref b :: rest) (hW : 2 * g.monitorRoom + (rest.map fun v => v.category).sum ≤ 8) (hdg : decode cc g.pc = .ok (.invokeinterface index count, 5)) (hf : cells + mc ≤ R.cells ∧ slots + ms ≤ R.slots) :
    vx_Run5 p l e R s m args below meth c H locs cells slots mc ms g rest (Qc (Value.ref b :: As).toArray) XC free := by
  obtain ⟨hrc, hrs, hfr, hlo, hws, hcw⟩ := cw.back
  have hini := cw.init
  have hK : vx_Back l R p e below s args y 5 8 (PreOf R mc ms Pc) (PostOf Qc mc ms free) (vx_Post XC mc ms free) := vx_back (bytes := bytes) (maxL := maxL) (ret := ret) hM hp.1 hrc hrs hfr hlo hws hcw (fun a' U hW => word_at hW (Or.inl (by first | rfl | simp [Cond.onTables, Cond.keeps, Cond.steady])) hini)
  obtain ⟨hx, hb, hml, ho, -⟩ := S
  obtain ⟨-, ⟨cellB, hcB, hoB, hclB⟩, hPc⟩ := hp
  obtain ⟨hfc, kB, hkB, -⟩ := hat
  cases hfc.symm.trans hclB
  intro T hT X
  rcases vx_callIF X hx (C := C) (bytes := bytes) (maxL := maxL) (ret := ret) ho cw.link cw.decl cw.face cw.sel cw.inst cw.pub cw.unh cw.cast cw.code cw.notMH hK (by rw [hT]; exact hcB) hoB hclB hkB hg (hsize.trans hml.symm) (argsL := As) (rest := rest) (fun sig h => hn.trans (cw.len sig h)) hstack hW (by rw [hb]; exact hdg)
    (fun vm₁ hW₁ => ⟨hf.1, hf.2, hPc (T.setVm vm₁) hT hW₁⟩) with ⟨v, vm₁, ⟨U', l2, c2, s2⟩, hW₁, X', ⟨g', mk, t, L, e1, e2, hq, h1, hL, h2, h3⟩, st⟩ | ⟨q, vm₁, ⟨U', l2, c2, s2⟩, hW₁, X', ⟨g', mk, t, L, E, ce, e1, e2, hq, hce, hcv, hcl, h1, hL, h2, h3⟩, st⟩
  · dsimp only [Pt.U, Pt.locs, Pt.cells, Pt.slots] at X' e1 e2 h1 h2 h3 st
    subst h1; subst h2; subst h3
    exact Or.inl ⟨v, (T.setVm vm₁).calling g' mk (Value.ref b :: As).toArray, t, U', L, hT, X', hL, e1, e2, hq, st⟩
  · dsimp only [Pt.U, Pt.locs, Pt.cells, Pt.slots] at X' e1 e2 h1 h2 h3 st hcl
    subst h1; subst h2; subst h3
    exact Or.inr ⟨q, (T.setVm vm₁).calling g' mk (Value.ref b :: As).toArray, t, U', L, E, ce, hT, X', hL, e1, e2, hq, hce, hcv, vx_cls hW₁ hcl, st⟩
theorem vx_callFv {S SX : Type} {post : S → Prop} {px : SX → Prop} {B : S → State → Prop} {BX : String → SX → State → Prop} {AX : Nat → Prop} (hr : vx_Run5 p l e R s m args below meth c H locs cells slots mc ms (F0 m pc ls st0) rest (va_Qv post B A1 a) (vx_X px BX AX) free) (hS : va_S A0 H0 H locs) (hA : ∀ q, q < H.size → A1 q → A0 q) (hf : ∀ q, free q → A0 q) (hAX : ∀ q, q < H.size → AX q → A0 q)
    (kx : ∀ (E : String) (ce : Cell) (q9 : Addr) (u : SX) (t : State) (H1 : Heap) (locs1 : List Loc), t.heap = H1 → s.vm.Alike t.vm → px u → BX E u t → H.size ≤ H1.size → (∀ q : Nat, q < H.size → ¬ AX q → H1[q]? = H[q]?) → va_S A0 H0 H1 locs1 → H1[q9]? = some ce → ce.vm = .none → s.vm.findClass E = some ce.cls → vx_W p l e R s m args below meth c H1 locs1 (cells + mc) (slots + ms) Q (F0 m pc ls rest) q9)
    (kk : ∀ (u : S) (t : State) (H1 : Heap) (locs1 : List Loc), t.heap = H1 → s.vm.Alike t.vm → post u → B u t → H.size ≤ H1.size → (∀ q : Nat, q < H.size → ¬ A1 q → H1[q]? = H[q]?) → va_S A0 H0 H1 locs1 → W p l e R s m args below meth c H1 locs1 (cells + mc) (slots + ms) Q (F0 m (pc + 5) ls (rest))) : W p l e R s m args below meth c H locs cells slots Q (F0 m pc ls st0) := by
  intro T hT X
  rcases hr T hT X with ⟨v, st₀, t, T', L, h0, X', hL, e1, e2, ⟨⟨u, hv, hp, hb⟩, hF⟩, st⟩ | ⟨q, st₀, t, T', L, E, ce, h0, X', hL, e1, e2, ⟨u, hp, hb, hF⟩, hce, hcv, hcl, st⟩
  · cases hv
    obtain ⟨k1, k2, k3⟩ := vx_keep h0 e1 hS hA hf hL hF
    obtain ⟨t2, a1, b1⟩ := kk u t T'.heap (locs ++ L) e1.symm (by rw [← e2]; exact X'.warmed.alike) hp hb k1 k2 k3 T' rfl X'
    exact ⟨t2, st t2 a1, b1⟩
  · obtain ⟨k1, k2, k3⟩ := vx_keep h0 e1 hS hAX hf hL hF
    obtain ⟨t2, a1, b1⟩ := kx E ce q u t T'.heap (locs ++ L) e1.symm (by rw [← e2]; exact X'.warmed.alike) hp hb k1 k2 k3 (by rw [e1]; exact hce) hcv hcl T' rfl X'
    exact ⟨t2, st.trans a1, b1⟩
theorem vx_callFi {S SX : Type} {post : Int32 → S → Prop} {px : SX → Prop} {B : S → State → Prop} {BX : String → SX → State → Prop} {AX : Nat → Prop} (hr : vx_Run5 p l e R s m args below meth c H locs cells slots mc ms (F0 m pc ls st0) rest (va_Qi post B A1 a) (vx_X px BX AX) free) (hS : va_S A0 H0 H locs) (hA : ∀ q, q < H.size → A1 q → A0 q) (hf : ∀ q, free q → A0 q) (hAX : ∀ q, q < H.size → AX q → A0 q)
    (kx : ∀ (E : String) (ce : Cell) (q9 : Addr) (u : SX) (t : State) (H1 : Heap) (locs1 : List Loc), t.heap = H1 → s.vm.Alike t.vm → px u → BX E u t → H.size ≤ H1.size → (∀ q : Nat, q < H.size → ¬ AX q → H1[q]? = H[q]?) → va_S A0 H0 H1 locs1 → H1[q9]? = some ce → ce.vm = .none → s.vm.findClass E = some ce.cls → vx_W p l e R s m args below meth c H1 locs1 (cells + mc) (slots + ms) Q (F0 m pc ls rest) q9)
    (kk : ∀ (r : Int32) (u : S) (t : State) (H1 : Heap) (locs1 : List Loc), t.heap = H1 → s.vm.Alike t.vm → post r u → B u t → H.size ≤ H1.size → (∀ q : Nat, q < H.size → ¬ A1 q → H1[q]? = H[q]?) → va_S A0 H0 H1 locs1 → W p l e R s m args below meth c H1 locs1 (cells + mc) (slots + ms) Q (F0 m (pc + 5) ls (.int r :: rest))) : W p l e R s m args below meth c H locs cells slots Q (F0 m pc ls st0) := by
  intro T hT X
  rcases hr T hT X with ⟨v, st₀, t, T', L, h0, X', hL, e1, e2, ⟨⟨r, u, hv, hp, hb⟩, hF⟩, st⟩ | ⟨q, st₀, t, T', L, E, ce, h0, X', hL, e1, e2, ⟨u, hp, hb, hF⟩, hce, hcv, hcl, st⟩
  · cases hv
    obtain ⟨k1, k2, k3⟩ := vx_keep h0 e1 hS hA hf hL hF
    obtain ⟨t2, a1, b1⟩ := kk r u t T'.heap (locs ++ L) e1.symm (by rw [← e2]; exact X'.warmed.alike) hp hb k1 k2 k3 T' rfl X'
    exact ⟨t2, st t2 a1, b1⟩
  · obtain ⟨k1, k2, k3⟩ := vx_keep h0 e1 hS hAX hf hL hF
    obtain ⟨t2, a1, b1⟩ := kx E ce q u t T'.heap (locs ++ L) e1.symm (by rw [← e2]; exact X'.warmed.alike) hp hb k1 k2 k3 (by rw [e1]; exact hce) hcv hcl T' rfl X'
    exact ⟨t2, st.trans a1, b1⟩
theorem vx_callFl {S SX : Type} {post : Int64 → S → Prop} {px : SX → Prop} {B : S → State → Prop} {BX : String → SX → State → Prop} {AX : Nat → Prop} (hr : vx_Run5 p l e R s m args below meth c H locs cells slots mc ms (F0 m pc ls st0) rest (va_Ql post B A1 a) (vx_X px BX AX) free) (hS : va_S A0 H0 H locs) (hA : ∀ q, q < H.size → A1 q → A0 q) (hf : ∀ q, free q → A0 q) (hAX : ∀ q, q < H.size → AX q → A0 q)
    (kx : ∀ (E : String) (ce : Cell) (q9 : Addr) (u : SX) (t : State) (H1 : Heap) (locs1 : List Loc), t.heap = H1 → s.vm.Alike t.vm → px u → BX E u t → H.size ≤ H1.size → (∀ q : Nat, q < H.size → ¬ AX q → H1[q]? = H[q]?) → va_S A0 H0 H1 locs1 → H1[q9]? = some ce → ce.vm = .none → s.vm.findClass E = some ce.cls → vx_W p l e R s m args below meth c H1 locs1 (cells + mc) (slots + ms) Q (F0 m pc ls rest) q9)
    (kk : ∀ (r : Int64) (u : S) (t : State) (H1 : Heap) (locs1 : List Loc), t.heap = H1 → s.vm.Alike t.vm → post r u → B u t → H.size ≤ H1.size → (∀ q : Nat, q < H.size → ¬ A1 q → H1[q]? = H[q]?) → va_S A0 H0 H1 locs1 → W p l e R s m args below meth c H1 locs1 (cells + mc) (slots + ms) Q (F0 m (pc + 5) ls (.long r :: rest))) : W p l e R s m args below meth c H locs cells slots Q (F0 m pc ls st0) := by
  intro T hT X
  rcases hr T hT X with ⟨v, st₀, t, T', L, h0, X', hL, e1, e2, ⟨⟨r, u, hv, hp, hb⟩, hF⟩, st⟩ | ⟨q, st₀, t, T', L, E, ce, h0, X', hL, e1, e2, ⟨u, hp, hb, hF⟩, hce, hcv, hcl, st⟩
  · cases hv
    obtain ⟨k1, k2, k3⟩ := vx_keep h0 e1 hS hA hf hL hF
    obtain ⟨t2, a1, b1⟩ := kk r u t T'.heap (locs ++ L) e1.symm (by rw [← e2]; exact X'.warmed.alike) hp hb k1 k2 k3 T' rfl X'
    exact ⟨t2, st t2 a1, b1⟩
  · obtain ⟨k1, k2, k3⟩ := vx_keep h0 e1 hS hAX hf hL hF
    obtain ⟨t2, a1, b1⟩ := kx E ce q u t T'.heap (locs ++ L) e1.symm (by rw [← e2]; exact X'.warmed.alike) hp hb k1 k2 k3 (by rw [e1]; exact hce) hcv hcl T' rfl X'
    exact ⟨t2, st.trans a1, b1⟩
theorem vx_callFf {S SX : Type} {post : UInt32 → S → Prop} {px : SX → Prop} {B : S → State → Prop} {BX : String → SX → State → Prop} {AX : Nat → Prop} (hr : vx_Run5 p l e R s m args below meth c H locs cells slots mc ms (F0 m pc ls st0) rest (va_Qf post B A1 a) (vx_X px BX AX) free) (hS : va_S A0 H0 H locs) (hA : ∀ q, q < H.size → A1 q → A0 q) (hf : ∀ q, free q → A0 q) (hAX : ∀ q, q < H.size → AX q → A0 q)
    (kx : ∀ (E : String) (ce : Cell) (q9 : Addr) (u : SX) (t : State) (H1 : Heap) (locs1 : List Loc), t.heap = H1 → s.vm.Alike t.vm → px u → BX E u t → H.size ≤ H1.size → (∀ q : Nat, q < H.size → ¬ AX q → H1[q]? = H[q]?) → va_S A0 H0 H1 locs1 → H1[q9]? = some ce → ce.vm = .none → s.vm.findClass E = some ce.cls → vx_W p l e R s m args below meth c H1 locs1 (cells + mc) (slots + ms) Q (F0 m pc ls rest) q9)
    (kk : ∀ (r : UInt32) (u : S) (t : State) (H1 : Heap) (locs1 : List Loc), t.heap = H1 → s.vm.Alike t.vm → post r u → B u t → H.size ≤ H1.size → (∀ q : Nat, q < H.size → ¬ A1 q → H1[q]? = H[q]?) → va_S A0 H0 H1 locs1 → W p l e R s m args below meth c H1 locs1 (cells + mc) (slots + ms) Q (F0 m (pc + 5) ls (.float r :: rest))) : W p l e R s m args below meth c H locs cells slots Q (F0 m pc ls st0) := by
  intro T hT X
  rcases hr T hT X with ⟨v, st₀, t, T', L, h0, X', hL, e1, e2, ⟨⟨r, u, hv, hp, hb⟩, hF⟩, st⟩ | ⟨q, st₀, t, T', L, E, ce, h0, X', hL, e1, e2, ⟨u, hp, hb, hF⟩, hce, hcv, hcl, st⟩
  · cases hv
    obtain ⟨k1, k2, k3⟩ := vx_keep h0 e1 hS hA hf hL hF
    obtain ⟨t2, a1, b1⟩ := kk r u t T'.heap (locs ++ L) e1.symm (by rw [← e2]; exact X'.warmed.alike) hp hb k1 k2 k3 T' rfl X'
    exact ⟨t2, st t2 a1, b1⟩
  · obtain ⟨k1, k2, k3⟩ := vx_keep h0 e1 hS hAX hf hL hF
    obtain ⟨t2, a1, b1⟩ := kx E ce q u t T'.heap (locs ++ L) e1.symm (by rw [← e2]; exact X'.warmed.alike) hp hb k1 k2 k3 (by rw [e1]; exact hce) hcv hcl T' rfl X'
    exact ⟨t2, st.trans a1, b1⟩
theorem vx_callFd {S SX : Type} {post : UInt64 → S → Prop} {px : SX → Prop} {B : S → State → Prop} {BX : String → SX → State → Prop} {AX : Nat → Prop} (hr : vx_Run5 p l e R s m args below meth c H locs cells slots mc ms (F0 m pc ls st0) rest (va_Qd post B A1 a) (vx_X px BX AX) free) (hS : va_S A0 H0 H locs) (hA : ∀ q, q < H.size → A1 q → A0 q) (hf : ∀ q, free q → A0 q) (hAX : ∀ q, q < H.size → AX q → A0 q)
    (kx : ∀ (E : String) (ce : Cell) (q9 : Addr) (u : SX) (t : State) (H1 : Heap) (locs1 : List Loc), t.heap = H1 → s.vm.Alike t.vm → px u → BX E u t → H.size ≤ H1.size → (∀ q : Nat, q < H.size → ¬ AX q → H1[q]? = H[q]?) → va_S A0 H0 H1 locs1 → H1[q9]? = some ce → ce.vm = .none → s.vm.findClass E = some ce.cls → vx_W p l e R s m args below meth c H1 locs1 (cells + mc) (slots + ms) Q (F0 m pc ls rest) q9)
    (kk : ∀ (r : UInt64) (u : S) (t : State) (H1 : Heap) (locs1 : List Loc), t.heap = H1 → s.vm.Alike t.vm → post r u → B u t → H.size ≤ H1.size → (∀ q : Nat, q < H.size → ¬ A1 q → H1[q]? = H[q]?) → va_S A0 H0 H1 locs1 → W p l e R s m args below meth c H1 locs1 (cells + mc) (slots + ms) Q (F0 m (pc + 5) ls (.double r :: rest))) : W p l e R s m args below meth c H locs cells slots Q (F0 m pc ls st0) := by
  intro T hT X
  rcases hr T hT X with ⟨v, st₀, t, T', L, h0, X', hL, e1, e2, ⟨⟨r, u, hv, hp, hb⟩, hF⟩, st⟩ | ⟨q, st₀, t, T', L, E, ce, h0, X', hL, e1, e2, ⟨u, hp, hb, hF⟩, hce, hcv, hcl, st⟩
  · cases hv
    obtain ⟨k1, k2, k3⟩ := vx_keep h0 e1 hS hA hf hL hF
    obtain ⟨t2, a1, b1⟩ := kk r u t T'.heap (locs ++ L) e1.symm (by rw [← e2]; exact X'.warmed.alike) hp hb k1 k2 k3 T' rfl X'
    exact ⟨t2, st t2 a1, b1⟩
  · obtain ⟨k1, k2, k3⟩ := vx_keep h0 e1 hS hAX hf hL hF
    obtain ⟨t2, a1, b1⟩ := kx E ce q u t T'.heap (locs ++ L) e1.symm (by rw [← e2]; exact X'.warmed.alike) hp hb k1 k2 k3 (by rw [e1]; exact hce) hcv hcl T' rfl X'
    exact ⟨t2, st.trans a1, b1⟩
end
/-! ===== END ===== -/
/-! ===== BEGIN by an interface, a method with a table of its own that may throw (follows va_callIFW, va_runFW) ===== -/
section
variable {p : Program} {l : Launch} {e : Env} {R : Room} {s : State} {m : MethodId} {args : Array Value} {below : List Frame} {meth : Method} {c : Code} {H : Heap} {locs : List Loc} {cells slots : Nat}
theorem vx_callIFW {T : State} (X : Stand p l e R s m args below meth c T locs cells slots) (hexec : p.tables.exec = Jvm.exec) {own C : String} {index count : Nat} {x y : MethodName} {bytes : ByteArray} {maxL : Nat} {ret : Option FieldType} {hh : List (Nat × Nat × Nat × Nat)}
    (hown : s.vm.findClass own = some m.cls) (hlink : (Cond.methodLink own index x).before args s = true) (hdecl : (Cond.declares x).before args s = true) (hface : (Cond.interfaceMethod x.cls x.cls x.name x.desc).before args s = true)
    (hsel : (Cond.selects C x y).before args s = true) (hinst : (Cond.instanceMethod y).before args s = true) (hpub : (Cond.publicMethod y).before args s = true) (hunh : (Cond.unhidden C x.name x.desc).before args s = true)
    (hcast : (Cond.castable C x.cls).before args s = true) (hcode : (Cond.codeWith y bytes maxL ret hh).before args s = true) (hx : x.cls ≠ "java/lang/invoke/MethodHandle" ∧ x.cls ≠ "java/lang/invoke/VarHandle")
    {W : Nat} {Pre : Pt → Array Value → Prop} {Post : Pt → Array Value → Option Value → Pt → Prop} {PostX : Pt → Array Value → Addr → Pt → Prop} (hK : vx_Back l R p e below s args y 5 W Pre Post PostX)
    {b : Addr} {cellB : Cell} {kB : Class} (hcell : T.heap[b]? = some cellB) (hobj : cellB.vm.isStatics = false) (hcls : s.vm.findClass C = some cellB.cls) (hkB : s.vm.classes[cellB.cls]? = some kB)
    {g : JFrame} (hg : g.method = m) (hsize : g.locals.size = c.maxLocals) {argsL rest : List Value} (hlen : ∀ sig, parseMethodDescriptor x.desc = some sig → argsL.length = sig.parameters.length)
    (hstack : g.stack = argsL.reverse ++ .ref b :: rest) (hW : 2 * g.monitorRoom + (rest.map fun v => v.category).sum ≤ W) (hdg : decode c.code g.pc = .ok (.invokeinterface index count, 5))
    (hpre : ∀ vm₁, s.WarmedH vm₁ → Pre ⟨T.setVm vm₁, locs, cells, slots⟩ (Value.ref b :: argsL).toArray) :
    (∃ (v : Option Value) (vm₁ : Vm) (B : Pt), s.WarmedH vm₁ ∧ Stand p l e R s m args below meth c B.U B.locs B.cells B.slots ∧ Post ⟨T.setVm vm₁, locs, cells, slots⟩ (Value.ref b :: argsL).toArray v B ∧
      ∀ target, Steps p.tables e below (B.U.setTop { g with pc := g.pc + 5, stack := v.toList ++ rest }) target → Steps p.tables e below (T.setTop g) target) ∨
    (∃ (q : Addr) (vm₁ : Vm) (B : Pt), s.WarmedH vm₁ ∧ Stand p l e R s m args below meth c B.U B.locs B.cells B.slots ∧ PostX ⟨T.setVm vm₁, locs, cells, slots⟩ (Value.ref b :: argsL).toArray q B ∧
      Steps p.tables e below (T.setTop g) ((B.U.setTop { g with stack := rest }).pushFrame (.throwing q))) := by
  obtain ⟨r0, r, hn, hrm, hstR, hsigR⟩ := Cond.declares_spec hdecl
  obtain ⟨cL, kL, r1, hcL, hkL, hiL, hfoundL, hn1⟩ := Cond.interfaceMethod_spec hface
  cases hn.symm.trans hn1
  have hr0cls : r0.cls = cL := Option.some.inj ((findClass_of_methodNamed hn).symm.trans hcL)
  obtain ⟨hnameR, hdescR⟩ := name_of_methodNamed hn hrm
  obtain ⟨mk, methM, hnamed, hmethM, -, habM⟩ := Cond.instanceMethod_spec hinst
  obtain ⟨c2, r2, m2, q1, q2, q3, q4, -⟩ := Cond.selects_spec hsel
  cases hcls.symm.trans q1
  cases hfoundL.symm.trans q2
  cases hnamed.symm.trans q3
  have hselP : selectMethod e.platform s.vm cellB.cls r0 = .method mk := by rw [Launch.admits_selectMethod X.admits]; exact q4
  have hpubM : hasFlag methM.accessFlags Acc.public_ = true := Cond.publicMethod_spec hnamed hmethM hpub
  have hway : ((cellB.cls :: s.vm.superclasses cellB.cls).any fun k => (declaredIn s.vm r.name r.desc k).any fun (_, z) => z.isPrivate || z.isStatic) = false := by
    rw [hnameR, hdescR]; exact Cond.unhidden_spec hcls hunh
  obtain ⟨c3, t3, w1, w2, w3⟩ := Cond.castable_spec hcast
  cases hcls.symm.trans w1
  cases hcL.symm.trans w2
  obtain ⟨vm₁, X₁, hstep₁⟩ := X.invokeinterface hexec hown hlink hn hrm hstR (by rw [hr0cls]; exact hkL) hiL hx (a := b) (cell := cellB) (kcell := kB) hcell
    (fun z h => by rw [h] at hobj; cases hobj) hkB (by rw [hr0cls]; exact w3) hselP hmethM hway hpubM habM (g := g) hg (argsL := argsL) (rest := rest) (hlen _ hsigR) hstack hdg
  rcases hK m meth c ⟨T.setVm vm₁, locs, cells, slots⟩ { g with stack := rest } (.invokeinterface index count) mk (Value.ref b :: argsL).toArray X₁ hg hsize hdg hW (X₁.named hnamed) (hpre vm₁ X₁.warmed) with ⟨v, B, X', hpost, hsteps⟩ | ⟨q, B, X', hpost, hsteps⟩
  · exact Or.inl ⟨v, vm₁, B, X₁.warmed, X', hpost, fun target h => hstep₁ _ fun acts => by rw [doInvoke_state]; exact hsteps.trans h⟩
  · exact Or.inr ⟨q, vm₁, B, X₁.warmed, X', hpost, hstep₁ _ fun acts => by rw [doInvoke_state]; exact hsteps⟩
theorem vx_runFW {x y : MethodName} {bytes cc : ByteArray} {maxL nL mc ms n index count : Nat} {ret : Option FieldType} {hh : List (Nat × Nat × Nat × Nat)} {ws : List Cond} {rm : Room} {Pc : Array Value → State → Prop} {Qc : Array Value → State → Outcome → State → Prop} {XC : String → State → State → Prop} {free : Addr → Prop} {Ts : List Cond} {own C : String} {cC : ClassId} {b : Addr} {As rest : List Value} {g : JFrame}
    (hat : ClassAt s C cC) (S : CallFix p m c cc nL s args Ts own) (hM : vx_Met l y ws rm Pc Qc XC mc ms free) (cw : va_CIW R s args own C index x y bytes maxL ret hh ws rm mc ms n) (hp : PreV s H C b Pc As)
    (hg : g.method = m) (hn : As.length = n) (hsize : g.locals.size = nL) (hstack : g.stack = As.reverse ++ .ref b :: rest) (hW : 2 * g.monitorRoom + (rest.map fun v => v.category).sum ≤ 8) (hdg : decode cc g.pc = .ok (.invokeinterface index count, 5)) (hf : cells + mc ≤ R.cells ∧ slots + ms ≤ R.slots) :
    vx_Run5 p l e R s m args below meth c H locs cells slots mc ms g rest (Qc (Value.ref b :: As).toArray) XC free := by
  obtain ⟨hrc, hrs, hfr, hlo, hws, hcw⟩ := cw.back
  have hini := cw.init
  have hK : vx_Back l R p e below s args y 5 8 (PreOf R mc ms Pc) (PostOf Qc mc ms free) (vx_Post XC mc ms free) := vx_backW (hh := hh) (bytes := bytes) (maxL := maxL) (ret := ret) hM hp.1 hrc hrs hfr hlo hws hcw (fun a' U hW => word_at hW (Or.inl (by first | rfl | simp [Cond.onTables, Cond.keeps, Cond.steady])) hini)
  obtain ⟨hx, hb, hml, ho, -⟩ := S
  obtain ⟨-, ⟨cellB, hcB, hoB, hclB⟩, hPc⟩ := hp
  obtain ⟨hfc, kB, hkB, -⟩ := hat
  cases hfc.symm.trans hclB
  intro T hT X
  rcases vx_callIFW X hx (C := C) (hh := hh) (bytes := bytes) (maxL := maxL) (ret := ret) ho cw.link cw.decl cw.face cw.sel cw.inst cw.pub cw.unh cw.cast cw.code cw.notMH hK (by rw [hT]; exact hcB) hoB hclB hkB hg (hsize.trans hml.symm) (argsL := As) (rest := rest) (fun sig h => hn.trans (cw.len sig h)) hstack hW (by rw [hb]; exact hdg)
    (fun vm₁ hW₁ => ⟨hf.1, hf.2, hPc (T.setVm vm₁) hT hW₁⟩) with ⟨v, vm₁, ⟨U', l2, c2, s2⟩, hW₁, X', ⟨g', mk, t, L, e1, e2, hq, h1, hL, h2, h3⟩, st⟩ | ⟨q, vm₁, ⟨U', l2, c2, s2⟩, hW₁, X', ⟨g', mk, t, L, E, ce, e1, e2, hq, hce, hcv, hcl, h1, hL, h2, h3⟩, st⟩
  · dsimp only [Pt.U, Pt.locs, Pt.cells, Pt.slots] at X' e1 e2 h1 h2 h3 st
    subst h1; subst h2; subst h3
    exact Or.inl ⟨v, (T.setVm vm₁).calling g' mk (Value.ref b :: As).toArray, t, U', L, hT, X', hL, e1, e2, hq, st⟩
  · dsimp only [Pt.U, Pt.locs, Pt.cells, Pt.slots] at X' e1 e2 h1 h2 h3 st hcl
    subst h1; subst h2; subst h3
    exact Or.inr ⟨q, (T.setVm vm₁).calling g' mk (Value.ref b :: As).toArray, t, U', L, E, ce, hT, X', hL, e1, e2, hq, hce, hcv, vx_cls hW₁ hcl, st⟩
end
/-! ===== END ===== -/
/-! ===== BEGIN .. of methods that hand back an object of the pool ===== -/
section
variable {p : Program} {l : Launch} {e : Env} {R : Room} {s : State} {m : MethodId} {args : Array Value} {below : List Frame} {meth : Method} {c : Code} {H : Heap} {locs : List Loc} {cells slots : Nat} {Q : State → Prop}
variable {mc ms : Nat} {free : Addr → Prop} {A0 A1 : Nat → Prop} {H0 : Heap} {a : Array Value} {pc : Nat} {ls : Array Slot} {st0 rest : List Value}
theorem vx_callq {S SX : Type} {post : Option Nat → S → Prop} {px : SX → Prop} {B : S → State → Prop} {BX : String → SX → State → Prop} {AX : Nat → Prop} (hr : vx_Run p l e R s m args below meth c H locs cells slots mc ms (F0 m pc ls st0) rest (va_Qq post B A1 a) (vx_X px BX AX) free) (hS : va_S A0 H0 H locs) (hA : ∀ q, q < H.size → A1 q → A0 q) (hf : ∀ q, free q → A0 q) (hAX : ∀ q, q < H.size → AX q → A0 q)
    (kx : ∀ (E : String) (ce : Cell) (q9 : Addr) (u : SX) (t : State) (H1 : Heap) (locs1 : List Loc), t.heap = H1 → s.vm.Alike t.vm → px u → BX E u t → H.size ≤ H1.size → (∀ q : Nat, q < H.size → ¬ AX q → H1[q]? = H[q]?) → va_S A0 H0 H1 locs1 → H1[q9]? = some ce → ce.vm = .none → s.vm.findClass E = some ce.cls → vx_W p l e R s m args below meth c H1 locs1 (cells + mc) (slots + ms) Q (F0 m pc ls rest) q9)
    (kk : ∀ (r : Option Nat) (u : S) (t : State) (H1 : Heap) (locs1 : List Loc), t.heap = H1 → s.vm.Alike t.vm → post r u → B u t → H.size ≤ H1.size → (∀ q : Nat, q < H.size → ¬ A1 q → H1[q]? = H[q]?) → va_S A0 H0 H1 locs1 → W p l e R s m args below meth c H1 locs1 (cells + mc) (slots + ms) Q (F0 m (pc + 3) ls (va_rf r :: rest))) : W p l e R s m args below meth c H locs cells slots Q (F0 m pc ls st0) := by
  intro T hT X
  rcases hr T hT X with ⟨v, st₀, t, T', L, h0, X', hL, e1, e2, ⟨⟨r, u, hv, hp, hb⟩, hF⟩, st⟩ | ⟨q, st₀, t, T', L, E, ce, h0, X', hL, e1, e2, ⟨u, hp, hb, hF⟩, hce, hcv, hcl, st⟩
  · cases hv
    obtain ⟨k1, k2, k3⟩ := vx_keep h0 e1 hS hA hf hL hF
    obtain ⟨t2, a1, b1⟩ := kk r u t T'.heap (locs ++ L) e1.symm (by rw [← e2]; exact X'.warmed.alike) hp hb k1 k2 k3 T' rfl X'
    exact ⟨t2, st t2 a1, b1⟩
  · obtain ⟨k1, k2, k3⟩ := vx_keep h0 e1 hS hAX hf hL hF
    obtain ⟨t2, a1, b1⟩ := kx E ce q u t T'.heap (locs ++ L) e1.symm (by rw [← e2]; exact X'.warmed.alike) hp hb k1 k2 k3 (by rw [e1]; exact hce) hcv hcl T' rfl X'
    exact ⟨t2, st.trans a1, b1⟩
end
/-! ===== END ===== -/
/-! ===== BEGIN .. a constant ===== -/
section
variable {p : Program} {l : Launch} {e : Env} {R : Room} {s : State} {m : MethodId} {args : Array Value} {below : List Frame} {meth : Method} {c : Code} {H : Heap} {locs : List Loc} {cells slots : Nat} {Q : State → Prop}
variable {mc ms : Nat} {free : Addr → Prop} {A0 A1 : Nat → Prop} {H0 : Heap} {a : Array Value} {pc : Nat} {ls : Array Slot} {st0 rest : List Value}
theorem vx_calle {ad : Nat → Nat} {S SX : Type} {post : Option Nat → S → Prop} {px : SX → Prop} {B : S → State → Prop} {BX : String → SX → State → Prop} {AX : Nat → Prop} (hr : vx_Run p l e R s m args below meth c H locs cells slots mc ms (F0 m pc ls st0) rest (va_Qe ad post B A1 a) (vx_X px BX AX) free) (hS : va_S A0 H0 H locs) (hA : ∀ q, q < H.size → A1 q → A0 q) (hf : ∀ q, free q → A0 q) (hAX : ∀ q, q < H.size → AX q → A0 q)
    (kx : ∀ (E : String) (ce : Cell) (q9 : Addr) (u : SX) (t : State) (H1 : Heap) (locs1 : List Loc), t.heap = H1 → s.vm.Alike t.vm → px u → BX E u t → H.size ≤ H1.size → (∀ q : Nat, q < H.size → ¬ AX q → H1[q]? = H[q]?) → va_S A0 H0 H1 locs1 → H1[q9]? = some ce → ce.vm = .none → s.vm.findClass E = some ce.cls → vx_W p l e R s m args below meth c H1 locs1 (cells + mc) (slots + ms) Q (F0 m pc ls rest) q9)
    (kk : ∀ (r : Option Nat) (u : S) (t : State) (H1 : Heap) (locs1 : List Loc), t.heap = H1 → s.vm.Alike t.vm → post r u → B u t → H.size ≤ H1.size → (∀ q : Nat, q < H.size → ¬ A1 q → H1[q]? = H[q]?) → va_S A0 H0 H1 locs1 → W p l e R s m args below meth c H1 locs1 (cells + mc) (slots + ms) Q (F0 m (pc + 3) ls (va_re ad r :: rest))) : W p l e R s m args below meth c H locs cells slots Q (F0 m pc ls st0) := by
  intro T hT X
  rcases hr T hT X with ⟨v, st₀, t, T', L, h0, X', hL, e1, e2, ⟨⟨r, u, hv, hp, hb⟩, hF⟩, st⟩ | ⟨q, st₀, t, T', L, E, ce, h0, X', hL, e1, e2, ⟨u, hp, hb, hF⟩, hce, hcv, hcl, st⟩
  · cases hv
    obtain ⟨k1, k2, k3⟩ := vx_keep h0 e1 hS hA hf hL hF
    obtain ⟨t2, a1, b1⟩ := kk r u t T'.heap (locs ++ L) e1.symm (by rw [← e2]; exact X'.warmed.alike) hp hb k1 k2 k3 T' rfl X'
    exact ⟨t2, st t2 a1, b1⟩
  · obtain ⟨k1, k2, k3⟩ := vx_keep h0 e1 hS hAX hf hL hF
    obtain ⟨t2, a1, b1⟩ := kx E ce q u t T'.heap (locs ++ L) e1.symm (by rw [← e2]; exact X'.warmed.alike) hp hb k1 k2 k3 (by rw [e1]; exact hce) hcv hcl T' rfl X'
    exact ⟨t2, st.trans a1, b1⟩
end
/-! ===== END ===== -/
/-! ===== BEGIN .. by an interface, an object ===== -/
section
variable {p : Program} {l : Launch} {e : Env} {R : Room} {s : State} {m : MethodId} {args : Array Value} {below : List Frame} {meth : Method} {c : Code} {H : Heap} {locs : List Loc} {cells slots : Nat} {Q : State → Prop}
variable {mc ms : Nat} {free : Addr → Prop} {A0 A1 : Nat → Prop} {H0 : Heap} {a : Array Value} {pc : Nat} {ls : Array Slot} {st0 rest : List Value}
theorem vx_callFq {S SX : Type} {post : Option Nat → S → Prop} {px : SX → Prop} {B : S → State → Prop} {BX : String → SX → State → Prop} {AX : Nat → Prop} (hr : vx_Run5 p l e R s m args below meth c H locs cells slots mc ms (F0 m pc ls st0) rest (va_Qq post B A1 a) (vx_X px BX AX) free) (hS : va_S A0 H0 H locs) (hA : ∀ q, q < H.size → A1 q → A0 q) (hf : ∀ q, free q → A0 q) (hAX : ∀ q, q < H.size → AX q → A0 q)
    (kx : ∀ (E : String) (ce : Cell) (q9 : Addr) (u : SX) (t : State) (H1 : Heap) (locs1 : List Loc), t.heap = H1 → s.vm.Alike t.vm → px u → BX E u t → H.size ≤ H1.size → (∀ q : Nat, q < H.size → ¬ AX q → H1[q]? = H[q]?) → va_S A0 H0 H1 locs1 → H1[q9]? = some ce → ce.vm = .none → s.vm.findClass E = some ce.cls → vx_W p l e R s m args below meth c H1 locs1 (cells + mc) (slots + ms) Q (F0 m pc ls rest) q9)
    (kk : ∀ (r : Option Nat) (u : S) (t : State) (H1 : Heap) (locs1 : List Loc), t.heap = H1 → s.vm.Alike t.vm → post r u → B u t → H.size ≤ H1.size → (∀ q : Nat, q < H.size → ¬ A1 q → H1[q]? = H[q]?) → va_S A0 H0 H1 locs1 → W p l e R s m args below meth c H1 locs1 (cells + mc) (slots + ms) Q (F0 m (pc + 5) ls (va_rf r :: rest))) : W p l e R s m args below meth c H locs cells slots Q (F0 m pc ls st0) := by
  intro T hT X
  rcases hr T hT X with ⟨v, st₀, t, T', L, h0, X', hL, e1, e2, ⟨⟨r, u, hv, hp, hb⟩, hF⟩, st⟩ | ⟨q, st₀, t, T', L, E, ce, h0, X', hL, e1, e2, ⟨u, hp, hb, hF⟩, hce, hcv, hcl, st⟩
  · cases hv
    obtain ⟨k1, k2, k3⟩ := vx_keep h0 e1 hS hA hf hL hF
    obtain ⟨t2, a1, b1⟩ := kk r u t T'.heap (locs ++ L) e1.symm (by rw [← e2]; exact X'.warmed.alike) hp hb k1 k2 k3 T' rfl X'
    exact ⟨t2, st t2 a1, b1⟩
  · obtain ⟨k1, k2, k3⟩ := vx_keep h0 e1 hS hAX hf hL hF
    obtain ⟨t2, a1, b1⟩ := kx E ce q u t T'.heap (locs ++ L) e1.symm (by rw [← e2]; exact X'.warmed.alike) hp hb k1 k2 k3 (by rw [e1]; exact hce) hcv hcl T' rfl X'
    exact ⟨t2, st.trans a1, b1⟩
end
/-! ===== END ===== -/
/-! ===== BEGIN .. by an interface, a constant ===== -/
section
variable {p : Program} {l : Launch} {e : Env} {R : Room} {s : State} {m : MethodId} {args : Array Value} {below : List Frame} {meth : Method} {c : Code} {H : Heap} {locs : List Loc} {cells slots : Nat} {Q : State → Prop}
variable {mc ms : Nat} {free : Addr → Prop} {A0 A1 : Nat → Prop} {H0 : Heap} {a : Array Value} {pc : Nat} {ls : Array Slot} {st0 rest : List Value}
theorem vx_callFe {ad : Nat → Nat} {S SX : Type} {post : Option Nat → S → Prop} {px : SX → Prop} {B : S → State → Prop} {BX : String → SX → State → Prop} {AX : Nat → Prop} (hr : vx_Run5 p l e R s m args below meth c H locs cells slots mc ms (F0 m pc ls st0) rest (va_Qe ad post B A1 a) (vx_X px BX AX) free) (hS : va_S A0 H0 H locs) (hA : ∀ q, q < H.size → A1 q → A0 q) (hf : ∀ q, free q → A0 q) (hAX : ∀ q, q < H.size → AX q → A0 q)
    (kx : ∀ (E : String) (ce : Cell) (q9 : Addr) (u : SX) (t : State) (H1 : Heap) (locs1 : List Loc), t.heap = H1 → s.vm.Alike t.vm → px u → BX E u t → H.size ≤ H1.size → (∀ q : Nat, q < H.size → ¬ AX q → H1[q]? = H[q]?) → va_S A0 H0 H1 locs1 → H1[q9]? = some ce → ce.vm = .none → s.vm.findClass E = some ce.cls → vx_W p l e R s m args below meth c H1 locs1 (cells + mc) (slots + ms) Q (F0 m pc ls rest) q9)
    (kk : ∀ (r : Option Nat) (u : S) (t : State) (H1 : Heap) (locs1 : List Loc), t.heap = H1 → s.vm.Alike t.vm → post r u → B u t → H.size ≤ H1.size → (∀ q : Nat, q < H.size → ¬ A1 q → H1[q]? = H[q]?) → va_S A0 H0 H1 locs1 → W p l e R s m args below meth c H1 locs1 (cells + mc) (slots + ms) Q (F0 m (pc + 5) ls (va_re ad r :: rest))) : W p l e R s m args below meth c H locs cells slots Q (F0 m pc ls st0) := by
  intro T hT X
  rcases hr T hT X with ⟨v, st₀, t, T', L, h0, X', hL, e1, e2, ⟨⟨r, u, hv, hp, hb⟩, hF⟩, st⟩ | ⟨q, st₀, t, T', L, E, ce, h0, X', hL, e1, e2, ⟨u, hp, hb, hF⟩, hce, hcv, hcl, st⟩
  · cases hv
    obtain ⟨k1, k2, k3⟩ := vx_keep h0 e1 hS hA hf hL hF
    obtain ⟨t2, a1, b1⟩ := kk r u t T'.heap (locs ++ L) e1.symm (by rw [← e2]; exact X'.warmed.alike) hp hb k1 k2 k3 T' rfl X'
    exact ⟨t2, st t2 a1, b1⟩
  · obtain ⟨k1, k2, k3⟩ := vx_keep h0 e1 hS hAX hf hL hF
    obtain ⟨t2, a1, b1⟩ := kx E ce q u t T'.heap (locs ++ L) e1.symm (by rw [← e2]; exact X'.warmed.alike) hp hb k1 k2 k3 (by rw [e1]; exact hce) hcv hcl T' rfl X'
    exact ⟨t2, st.trans a1, b1⟩
end
/-! ===== END ===== -/
/-! ===== BEGIN what the machine throws by itself: null at a field, at athrow ===== -/
section VXM2
variable {p : Program} {l : Launch} {e : Env} {R : Room} {s : State} {m : MethodId} {args : Array Value} {below : List Frame} {meth : Method} {c : Code} {H : Heap} {locs : List Loc} {cells slots : Nat}
variable {Q : State → Prop} {cc : ByteArray} {pc : Nat} {ls : Array Slot} {rest : List Value}
theorem vx_getfN {D cl tys} {own ref C : String} {T : u_T} {N ci index : Nat} {Ts : List Cond} (hexec : p.tables.exec = Jvm.exec) (hb : c.code = cc) (hts : ∀ w ∈ Ts, w.before args s = true) (hin : ∀ w ∈ u_ws C T N, w ∈ Ts) (hown : s.vm.findClass own = some m.cls) (hK : va_K D cl tys s) (hc : cl[ci]? = some (C, T, N)) (k : Nat) (hk : k < N) (hlink : (Cond.fieldLink own index ref (T k).2.1 (T k).2.2.1).before args s = true) (hsame : ∀ x, s.fieldFound? (T k).1 (T k).2.1 (T k).2.2.1 = some x → s.fieldFound? ref (T k).2.1 (T k).2.2.1 = some x) (hdg : decode cc pc = .ok (.getfield index, 3)) (kk : vx_NoteN p l e R s m args below meth c H locs cells slots Q (F0 m pc ls rest)) : W p l e R s m args below meth c H locs cells slots Q (F0 m pc ls (.null :: rest)) := by
  obtain ⟨hS, hfc, kC, hkC, -⟩ := hK.1 ci _ hc
  obtain ⟨cf, kf, fi, f, hi, -⟩ := hS k hk
  intro U hU X
  obtain ⟨vm', X1, st1⟩ := X.getfieldNull hexec hown hlink (hsame _ hi) (u_facts hfc hkC (u_lays hts hin hk) hi).1 (g := F0 m pc ls (.null :: rest)) rfl (rest := rest) rfl (by rw [hb]; exact hdg)
  obtain ⟨t, st, q⟩ := kk (U.setVm vm') hU X1
  exact ⟨t, st1 t st, q⟩
theorem vx_getfNN {D cl tys} {own ref C host : String} {T : u_T} {N ci index : Nat} {Ts : List Cond} (hexec : p.tables.exec = Jvm.exec) (hb : c.code = cc) (hts : ∀ w ∈ Ts, w.before args s = true) (hin : ∀ w ∈ u_ws C T N, w ∈ Ts) (hown : s.vm.findClass own = some m.cls) (hK : va_K D cl tys s) (hc : cl[ci]? = some (C, T, N)) (k : Nat) (hk : k < N) (hlink : (Cond.fieldLinkNest own index ref (T k).2.1 (T k).2.2.1 host).before args s = true) (hsame : ∀ x, s.fieldFound? (T k).1 (T k).2.1 (T k).2.2.1 = some x → s.fieldFound? ref (T k).2.1 (T k).2.2.1 = some x) (hdg : decode cc pc = .ok (.getfield index, 3)) (kk : vx_NoteN p l e R s m args below meth c H locs cells slots Q (F0 m pc ls rest)) : W p l e R s m args below meth c H locs cells slots Q (F0 m pc ls (.null :: rest)) := by
  obtain ⟨hS, hfc, kC, hkC, -⟩ := hK.1 ci _ hc
  obtain ⟨cf, kf, fi, f, hi, -⟩ := hS k hk
  intro U hU X
  obtain ⟨vm', X1, st1⟩ := X.getfieldNullNest hexec hown hlink (hsame _ hi) (u_facts hfc hkC (u_lays hts hin hk) hi).1 (g := F0 m pc ls (.null :: rest)) rfl (rest := rest) rfl (by rw [hb]; exact hdg)
  obtain ⟨t, st, q⟩ := kk (U.setVm vm') hU X1
  exact ⟨t, st1 t st, q⟩
theorem vx_putfN {D cl tys} {own ref C : String} {T : u_T} {N ci index : Nat} {Ts : List Cond} (hexec : p.tables.exec = Jvm.exec) (hb : c.code = cc) (hts : ∀ w ∈ Ts, w.before args s = true) (hin : ∀ w ∈ u_ws C T N, w ∈ Ts) (hown : s.vm.findClass own = some m.cls) (hK : va_K D cl tys s) (hc : cl[ci]? = some (C, T, N)) (k : Nat) (hk : k < N) (hlink : (Cond.fieldLink own index ref (T k).2.1 (T k).2.2.1).before args s = true) (hsame : ∀ x, s.fieldFound? (T k).1 (T k).2.1 (T k).2.2.1 = some x → s.fieldFound? ref (T k).2.1 (T k).2.2.1 = some x) (hfin : (T k).2.2.2 = false) {v : Value} (hdg : decode cc pc = .ok (.putfield index, 3)) (kk : vx_NoteN p l e R s m args below meth c H locs cells slots Q (F0 m pc ls rest)) : W p l e R s m args below meth c H locs cells slots Q (F0 m pc ls (v :: .null :: rest)) := by
  obtain ⟨hS, hfc, kC, hkC, -⟩ := hK.1 ci _ hc
  obtain ⟨cf, kf, fi, f, hi, -⟩ := hS k hk
  have hlay := hts _ (hin _ (u_in_lay hk))
  unfold u_lay at hlay
  rw [if_neg (by rw [hfin]; decide)] at hlay
  obtain ⟨c9, k9, cf9, kf9, fi9, f9, -, -, hi9, hst9, hnf9, -⟩ := Cond.lays_spec hlay
  cases hi.symm.trans hi9
  intro U hU X
  obtain ⟨vm', X1, st1⟩ := X.putfieldNull hexec hown hlink (hsame _ hi) hst9 hnf9 (g := F0 m pc ls (v :: .null :: rest)) rfl (v := v) (rest := rest) rfl (by rw [hb]; exact hdg)
  obtain ⟨t, st, q⟩ := kk (U.setVm vm') hU X1
  exact ⟨t, st1 t st, q⟩
theorem vx_putfNN {D cl tys} {own ref C host : String} {T : u_T} {N ci index : Nat} {Ts : List Cond} (hexec : p.tables.exec = Jvm.exec) (hb : c.code = cc) (hts : ∀ w ∈ Ts, w.before args s = true) (hin : ∀ w ∈ u_ws C T N, w ∈ Ts) (hown : s.vm.findClass own = some m.cls) (hK : va_K D cl tys s) (hc : cl[ci]? = some (C, T, N)) (k : Nat) (hk : k < N) (hlink : (Cond.fieldLinkNest own index ref (T k).2.1 (T k).2.2.1 host).before args s = true) (hsame : ∀ x, s.fieldFound? (T k).1 (T k).2.1 (T k).2.2.1 = some x → s.fieldFound? ref (T k).2.1 (T k).2.2.1 = some x) (hfin : (T k).2.2.2 = false) {v : Value} (hdg : decode cc pc = .ok (.putfield index, 3)) (kk : vx_NoteN p l e R s m args below meth c H locs cells slots Q (F0 m pc ls rest)) : W p l e R s m args below meth c H locs cells slots Q (F0 m pc ls (v :: .null :: rest)) := by
  obtain ⟨hS, hfc, kC, hkC, -⟩ := hK.1 ci _ hc
  obtain ⟨cf, kf, fi, f, hi, -⟩ := hS k hk
  have hlay := hts _ (hin _ (u_in_lay hk))
  unfold u_lay at hlay
  rw [if_neg (by rw [hfin]; decide)] at hlay
  obtain ⟨c9, k9, cf9, kf9, fi9, f9, -, -, hi9, hst9, hnf9, -⟩ := Cond.lays_spec hlay
  cases hi.symm.trans hi9
  intro U hU X
  obtain ⟨vm', X1, st1⟩ := X.putfieldNullNest hexec hown hlink (hsame _ hi) hst9 hnf9 (g := F0 m pc ls (v :: .null :: rest)) rfl (v := v) (rest := rest) rfl (by rw [hb]; exact hdg)
  obtain ⟨t, st, q⟩ := kk (U.setVm vm') hU X1
  exact ⟨t, st1 t st, q⟩
theorem vx_athrowN (hexec : p.tables.exec = Jvm.exec) (hb : c.code = cc) (hdg : decode cc pc = .ok (.athrow, 1)) (k : vx_NoteN p l e R s m args below meth c H locs cells slots Q (F0 m pc ls rest)) : W p l e R s m args below meth c H locs cells slots Q (F0 m pc ls (.null :: rest)) := by
  intro T hT X
  obtain ⟨t, st, q⟩ := k T hT X
  exact ⟨t, X.athrowNull hexec (g := F0 m pc ls (.null :: rest)) rfl (rest := rest) rfl (by rw [hb]; exact hdg) t st, q⟩
end VXM2
/-! ===== END ===== -/
end
section
def RX0 : String := "ArchiveMirrors$Archive"
def TX0 : u_T := fun k => match k with
  | 0 => ("ArchiveMirrors$Archive", "packs", "[LArchiveMirrors$Pack;", true)
  | 1 => ("ArchiveMirrors$Archive", "indexes", "[LArchiveMirrors$Index;", true)
  | 2 => ("ArchiveMirrors$Archive", "sections", "I", false)
  | 3 => ("ArchiveMirrors$Archive", "packCount", "I", false)
  | 4 => ("ArchiveMirrors$Archive", "indexCount", "I", false)
  | _ => ("ArchiveMirrors$Archive", "validity", "I", false)
def tyX0 : Nat → FieldType := fun k => match k with
  | 0 => .array (.object "ArchiveMirrors$Pack")
  | 1 => .array (.object "ArchiveMirrors$Index")
  | 2 => .int
  | 3 => .int
  | 4 => .int
  | _ => .int
theorem nmX0 : ∀ a, a < 6 → ∀ b, b < 6 → a ≠ b → (TX0 a).2.1 ≠ (TX0 b).2.1 := by decide +kernel
theorem tyX0_ok : ∀ k, k < 6 → parseFieldDescriptor (TX0 k).2.2.1 = some (tyX0 k) := by decide +kernel
abbrev cX0_init : ByteArray := prog_2_method_1_code
def yX0_init : MethodName := ⟨RX0, "<init>", "()V"⟩
abbrev cX0_restart : ByteArray := prog_2_method_2_code
def yX0_restart : MethodName := ⟨RX0, "restart", "(I)V"⟩
abbrev cX0_addPack : ByteArray := prog_2_method_3_code
def yX0_addPack : MethodName := ⟨RX0, "addPack", "(III)I"⟩
abbrev cX0_addIndex : ByteArray := prog_2_method_4_code
def yX0_addIndex : MethodName := ⟨RX0, "addIndex", "(I)I"⟩
abbrev cX0_sign : ByteArray := prog_2_method_5_code
def yX0_sign : MethodName := ⟨RX0, "sign", "(LArchiveMirrors$Index;I)I"⟩
abbrev cX0_closureOf : ByteArray := prog_2_method_6_code
def yX0_closureOf : MethodName := ⟨RX0, "closureOf", "(I)I"⟩
abbrev cX0_hasIndex : ByteArray := prog_2_method_7_code
def yX0_hasIndex : MethodName := ⟨RX0, "hasIndex", "(I)Z"⟩
abbrev cX0_releaseTime : ByteArray := prog_2_method_8_code
def yX0_releaseTime : MethodName := ⟨RX0, "releaseTime", "(I)I"⟩
abbrev cX0_packsIn : ByteArray := prog_2_method_9_code
def yX0_packsIn : MethodName := ⟨RX0, "packsIn", "(I)I"⟩
abbrev cX0_signatureOf : ByteArray := prog_2_method_10_code
def yX0_signatureOf : MethodName := ⟨RX0, "signatureOf", "(I)I"⟩
abbrev cX0_isFresh : ByteArray := prog_2_method_11_code
def yX0_isFresh : MethodName := ⟨RX0, "isFresh", "(II)Z"⟩
abbrev cX0_versionIn : ByteArray := prog_2_method_12_code
def yX0_versionIn : MethodName := ⟨RX0, "versionIn", "(II)I"⟩
def RX1 : String := "ArchiveMirrors$Client"
def TX1 : u_T := fun k => match k with
  | 0 => ("ArchiveMirrors$Client", "versions", "[I", true)
  | 1 => ("ArchiveMirrors$Client", "mirrors", "I", false)
  | _ => ("ArchiveMirrors$Client", "latestIndex", "I", false)
def tyX1 : Nat → FieldType := fun k => match k with
  | 0 => .array .int
  | 1 => .int
  | _ => .int
theorem nmX1 : ∀ a, a < 3 → ∀ b, b < 3 → a ≠ b → (TX1 a).2.1 ≠ (TX1 b).2.1 := by decide +kernel
theorem tyX1_ok : ∀ k, k < 3 → parseFieldDescriptor (TX1 k).2.2.1 = some (tyX1 k) := by decide +kernel
abbrev cX1_init : ByteArray := prog_3_method_1_code
def yX1_init : MethodName := ⟨RX1, "<init>", "()V"⟩
abbrev cX1_restart : ByteArray := prog_3_method_2_code
def yX1_restart : MethodName := ⟨RX1, "restart", "(I)V"⟩
abbrev cX1_installedSet : ByteArray := prog_3_method_3_code
def yX1_installedSet : MethodName := ⟨RX1, "installedSet", "()I"⟩
abbrev cX1_property : ByteArray := prog_3_method_4_code
def yX1_property : MethodName := ⟨RX1, "property", "(I)I"⟩
abbrev cX1_versionOf : ByteArray := prog_3_method_5_code
def yX1_versionOf : MethodName := ⟨RX1, "versionOf", "(I)I"⟩
def RX2 : String := "ArchiveMirrors$Index"
def TX2 : u_T := fun k => match k with
  | 0 => ("ArchiveMirrors$Index", "versions", "[I", true)
  | 1 => ("ArchiveMirrors$Index", "packCount", "I", false)
  | 2 => ("ArchiveMirrors$Index", "time", "I", false)
  | _ => ("ArchiveMirrors$Index", "signature", "I", false)
def tyX2 : Nat → FieldType := fun k => match k with
  | 0 => .array .int
  | 1 => .int
  | 2 => .int
  | _ => .int
theorem nmX2 : ∀ a, a < 4 → ∀ b, b < 4 → a ≠ b → (TX2 a).2.1 ≠ (TX2 b).2.1 := by decide +kernel
theorem tyX2_ok : ∀ k, k < 4 → parseFieldDescriptor (TX2 k).2.2.1 = some (tyX2 k) := by decide +kernel
abbrev cX2_init : ByteArray := prog_4_method_1_code
def yX2_init : MethodName := ⟨RX2, "<init>", "()V"⟩
def RX3 : String := "ArchiveMirrors$InputText"
def TX3 : u_T := fun k => match k with
  | 0 => ("ArchiveMirrors$InputText", "codes", "[I", true)
  | 1 => ("ArchiveMirrors$InputText", "reader", "LArchiveMirrors$TextReader;", true)
  | _ => ("ArchiveMirrors$InputText", "length", "I", false)
def tyX3 : Nat → FieldType := fun k => match k with
  | 0 => .array .int
  | 1 => .object "ArchiveMirrors$TextReader"
  | _ => .int
theorem nmX3 : ∀ a, a < 3 → ∀ b, b < 3 → a ≠ b → (TX3 a).2.1 ≠ (TX3 b).2.1 := by decide +kernel
theorem tyX3_ok : ∀ k, k < 3 → parseFieldDescriptor (TX3 k).2.2.1 = some (tyX3 k) := by decide +kernel
abbrev cX3_init : ByteArray := prog_5_method_1_code
def yX3_init : MethodName := ⟨RX3, "<init>", "()V"⟩
abbrev cX3_put : ByteArray := prog_5_method_2_code
def yX3_put : MethodName := ⟨RX3, "put", "(I)V"⟩
abbrev cX3_firstWrong : ByteArray := prog_5_method_3_code
def yX3_firstWrong : MethodName := ⟨RX3, "firstWrong", "(LArchiveMirrors$Archive;)I"⟩
abbrev cX3_isComplete : ByteArray := prog_5_method_4_code
def yX3_isComplete : MethodName := ⟨RX3, "isComplete", "(LArchiveMirrors$Archive;)Z"⟩
abbrev cX3_addPacksTo : ByteArray := prog_5_method_5_code
def yX3_addPacksTo : MethodName := ⟨RX3, "addPacksTo", "(LArchiveMirrors$Archive;)V"⟩
def RX4 : String := "ArchiveMirrors$Mirror"
def TX4 : u_T := fun k => match k with
  | 0 => ("ArchiveMirrors$Mirror", "versions", "[I", true)
  | 1 => ("ArchiveMirrors$Mirror", "sections", "I", false)
  | 2 => ("ArchiveMirrors$Mirror", "interval", "I", false)
  | 3 => ("ArchiveMirrors$Mirror", "offset", "I", false)
  | 4 => ("ArchiveMirrors$Mirror", "upstream", "I", false)
  | 5 => ("ArchiveMirrors$Mirror", "capacity", "I", false)
  | 6 => ("ArchiveMirrors$Mirror", "careful", "Z", false)
  | 7 => ("ArchiveMirrors$Mirror", "indexNumber", "I", false)
  | _ => ("ArchiveMirrors$Mirror", "tampered", "Z", false)
def tyX4 : Nat → FieldType := fun k => match k with
  | 0 => .array .int
  | 1 => .int
  | 2 => .int
  | 3 => .int
  | 4 => .int
  | 5 => .int
  | 6 => .boolean
  | 7 => .int
  | _ => .boolean
theorem nmX4 : ∀ a, a < 9 → ∀ b, b < 9 → a ≠ b → (TX4 a).2.1 ≠ (TX4 b).2.1 := by decide +kernel
theorem tyX4_ok : ∀ k, k < 9 → parseFieldDescriptor (TX4 k).2.2.1 = some (tyX4 k) := by decide +kernel
abbrev cX4_init : ByteArray := prog_6_method_1_code
def yX4_init : MethodName := ⟨RX4, "<init>", "()V"⟩
abbrev cX4_restart : ByteArray := prog_6_method_2_code
def yX4_restart : MethodName := ⟨RX4, "restart", "(IIIIIZ)V"⟩
abbrev cX4_copyFrom : ByteArray := prog_6_method_3_code
def yX4_copyFrom : MethodName := ⟨RX4, "copyFrom", "(LArchiveMirrors$Mirror;)V"⟩
abbrev cX4_hasGoodIndex : ByteArray := prog_6_method_4_code
def yX4_hasGoodIndex : MethodName := ⟨RX4, "hasGoodIndex", "()Z"⟩
abbrev cX4_takeIndex : ByteArray := prog_6_method_5_code
def yX4_takeIndex : MethodName := ⟨RX4, "takeIndex", "(I)V"⟩
abbrev cX4_pullsAt : ByteArray := prog_6_method_6_code
def yX4_pullsAt : MethodName := ⟨RX4, "pullsAt", "(I)Z"⟩
abbrev cX4_minutesToPull : ByteArray := prog_6_method_7_code
def yX4_minutesToPull : MethodName := ⟨RX4, "minutesToPull", "(I)I"⟩
abbrev cX4_hasFile : ByteArray := prog_6_method_8_code
def yX4_hasFile : MethodName := ⟨RX4, "hasFile", "(II)Z"⟩
abbrev cX4_lacks : ByteArray := prog_6_method_9_code
def yX4_lacks : MethodName := ⟨RX4, "lacks", "(III)Z"⟩
abbrev cX4_addFile : ByteArray := prog_6_method_10_code
def yX4_addFile : MethodName := ⟨RX4, "addFile", "(II)V"⟩
abbrev cX4_dropFile : ByteArray := prog_6_method_11_code
def yX4_dropFile : MethodName := ⟨RX4, "dropFile", "(II)V"⟩
abbrev cX4_dropOtherVersions : ByteArray := prog_6_method_12_code
def yX4_dropOtherVersions : MethodName := ⟨RX4, "dropOtherVersions", "(II)V"⟩
abbrev cX4_fileCount : ByteArray := prog_6_method_13_code
def yX4_fileCount : MethodName := ⟨RX4, "fileCount", "()I"⟩
def RX5 : String := "ArchiveMirrors$Network"
def TX5 : u_T := fun k => match k with
  | 0 => ("ArchiveMirrors$Network", "archive", "LArchiveMirrors$Archive;", true)
  | 1 => ("ArchiveMirrors$Network", "mirrors", "[LArchiveMirrors$Mirror;", true)
  | 2 => ("ArchiveMirrors$Network", "mirrorCount", "I", false)
  | 3 => ("ArchiveMirrors$Network", "time", "I", false)
  | _ => ("ArchiveMirrors$Network", "copied", "I", false)
def tyX5 : Nat → FieldType := fun k => match k with
  | 0 => .object "ArchiveMirrors$Archive"
  | 1 => .array (.object "ArchiveMirrors$Mirror")
  | 2 => .int
  | 3 => .int
  | _ => .int
theorem nmX5 : ∀ a, a < 5 → ∀ b, b < 5 → a ≠ b → (TX5 a).2.1 ≠ (TX5 b).2.1 := by decide +kernel
theorem tyX5_ok : ∀ k, k < 5 → parseFieldDescriptor (TX5 k).2.2.1 = some (tyX5 k) := by decide +kernel
abbrev cX5_init : ByteArray := prog_7_method_1_code
def yX5_init : MethodName := ⟨RX5, "<init>", "(LArchiveMirrors$Archive;)V"⟩
abbrev cX5_restart : ByteArray := prog_7_method_2_code
def yX5_restart : MethodName := ⟨RX5, "restart", "()V"⟩
abbrev cX5_copyFrom : ByteArray := prog_7_method_3_code
def yX5_copyFrom : MethodName := ⟨RX5, "copyFrom", "(LArchiveMirrors$Network;)V"⟩
abbrev cX5_passMinute : ByteArray := prog_7_method_4_code
def yX5_passMinute : MethodName := ⟨RX5, "passMinute", "()V"⟩
abbrev cX5_pull : ByteArray := prog_7_method_5_code
def yX5_pull : MethodName := ⟨RX5, "pull", "(LArchiveMirrors$Mirror;)V"⟩
abbrev cX5_upstreamOf : ByteArray := prog_7_method_6_code
def yX5_upstreamOf : MethodName := ⟨RX5, "upstreamOf", "(LArchiveMirrors$Mirror;)LArchiveMirrors$Mirror;"⟩
abbrev cX5_offeredTo : ByteArray := prog_7_method_7_code
def yX5_offeredTo : MethodName := ⟨RX5, "offeredTo", "(LArchiveMirrors$Mirror;)I"⟩
abbrev cX5_copyMissing : ByteArray := prog_7_method_8_code
def yX5_copyMissing : MethodName := ⟨RX5, "copyMissing", "(LArchiveMirrors$Mirror;I)V"⟩
abbrev cX5_missingOf : ByteArray := prog_7_method_9_code
def yX5_missingOf : MethodName := ⟨RX5, "missingOf", "(LArchiveMirrors$Mirror;I)I"⟩
abbrev cX5_dropOldFiles : ByteArray := prog_7_method_10_code
def yX5_dropOldFiles : MethodName := ⟨RX5, "dropOldFiles", "(LArchiveMirrors$Mirror;)V"⟩
abbrev cX5_isComplete : ByteArray := prog_7_method_11_code
def yX5_isComplete : MethodName := ⟨RX5, "isComplete", "(LArchiveMirrors$Mirror;)Z"⟩
abbrev cX5_completeMirrors : ByteArray := prog_7_method_12_code
def yX5_completeMirrors : MethodName := ⟨RX5, "completeMirrors", "()I"⟩
abbrev cX5_fileCount : ByteArray := prog_7_method_13_code
def yX5_fileCount : MethodName := ⟨RX5, "fileCount", "()I"⟩
abbrev cX5_mirrorsWith : ByteArray := prog_7_method_14_code
def yX5_mirrorsWith : MethodName := ⟨RX5, "mirrorsWith", "(II)I"⟩
abbrev cX5_propertyOf : ByteArray := prog_7_method_15_code
def yX5_propertyOf : MethodName := ⟨RX5, "propertyOf", "(II)I"⟩
abbrev cX5_latestFreshIndex : ByteArray := prog_7_method_16_code
def yX5_latestFreshIndex : MethodName := ⟨RX5, "latestFreshIndex", "(I)I"⟩
abbrev cX5_foundAt : ByteArray := prog_7_method_17_code
def yX5_foundAt : MethodName := ⟨RX5, "foundAt", "(III)I"⟩
def RX6 : String := "ArchiveMirrors$Pack"
def TX6 : u_T := fun k => match k with
  | 0 => ("ArchiveMirrors$Pack", "section", "I", false)
  | 1 => ("ArchiveMirrors$Pack", "size", "I", false)
  | 2 => ("ArchiveMirrors$Pack", "dependencies", "I", false)
  | 3 => ("ArchiveMirrors$Pack", "closure", "I", false)
  | _ => ("ArchiveMirrors$Pack", "version", "I", false)
def tyX6 : Nat → FieldType := fun k => match k with
  | 0 => .int
  | 1 => .int
  | 2 => .int
  | 3 => .int
  | _ => .int
theorem nmX6 : ∀ a, a < 5 → ∀ b, b < 5 → a ≠ b → (TX6 a).2.1 ≠ (TX6 b).2.1 := by decide +kernel
theorem tyX6_ok : ∀ k, k < 5 → parseFieldDescriptor (TX6 k).2.2.1 = some (tyX6 k) := by decide +kernel
abbrev cX6_init : ByteArray := prog_8_method_1_code
def yX6_init : MethodName := ⟨RX6, "<init>", "()V"⟩
def RX7 : String := "ArchiveMirrors$Plan"
def TX7 : u_T := fun k => match k with
  | 0 => ("ArchiveMirrors$Plan", "archive", "LArchiveMirrors$Archive;", true)
  | 1 => ("ArchiveMirrors$Plan", "found", "[I", true)
  | 2 => ("ArchiveMirrors$Plan", "reason", "I", false)
  | 3 => ("ArchiveMirrors$Plan", "indexNumber", "I", false)
  | _ => ("ArchiveMirrors$Plan", "wanted", "I", false)
def tyX7 : Nat → FieldType := fun k => match k with
  | 0 => .object "ArchiveMirrors$Archive"
  | 1 => .array .int
  | 2 => .int
  | 3 => .int
  | _ => .int
theorem nmX7 : ∀ a, a < 5 → ∀ b, b < 5 → a ≠ b → (TX7 a).2.1 ≠ (TX7 b).2.1 := by decide +kernel
theorem tyX7_ok : ∀ k, k < 5 → parseFieldDescriptor (TX7 k).2.2.1 = some (tyX7 k) := by decide +kernel
abbrev cX7_init : ByteArray := prog_9_method_1_code
def yX7_init : MethodName := ⟨RX7, "<init>", "(LArchiveMirrors$Archive;)V"⟩
abbrev cX7_draw : ByteArray := prog_9_method_2_code
def yX7_draw : MethodName := ⟨RX7, "draw", "(LArchiveMirrors$Client;ILArchiveMirrors$Network;)V"⟩
abbrev cX7_reasonFor : ByteArray := prog_9_method_3_code
def yX7_reasonFor : MethodName := ⟨RX7, "reasonFor", "(LArchiveMirrors$Client;)I"⟩
abbrev cX7_foundTogether : ByteArray := prog_9_method_4_code
def yX7_foundTogether : MethodName := ⟨RX7, "foundTogether", "(I)I"⟩
abbrev cX7_carryOut : ByteArray := prog_9_method_5_code
def yX7_carryOut : MethodName := ⟨RX7, "carryOut", "(LArchiveMirrors$Client;)V"⟩
abbrev cX7_changedSize : ByteArray := prog_9_method_6_code
def yX7_changedSize : MethodName := ⟨RX7, "changedSize", "(LArchiveMirrors$Client;)I"⟩
abbrev cX7_fewestMirrors : ByteArray := prog_9_method_7_code
def yX7_fewestMirrors : MethodName := ⟨RX7, "fewestMirrors", "(LArchiveMirrors$Client;)I"⟩
def RX8 : String := "ArchiveMirrors$TextReader"
def TX8 : u_T := fun k => match k with
  | 0 => ("ArchiveMirrors$TextReader", "section", "I", false)
  | 1 => ("ArchiveMirrors$TextReader", "size", "I", false)
  | 2 => ("ArchiveMirrors$TextReader", "dependencies", "I", false)
  | 3 => ("ArchiveMirrors$TextReader", "place", "I", false)
  | 4 => ("ArchiveMirrors$TextReader", "sections", "I", false)
  | _ => ("ArchiveMirrors$TextReader", "number", "I", false)
def tyX8 : Nat → FieldType := fun k => match k with
  | 0 => .int
  | 1 => .int
  | 2 => .int
  | 3 => .int
  | 4 => .int
  | _ => .int
theorem nmX8 : ∀ a, a < 6 → ∀ b, b < 6 → a ≠ b → (TX8 a).2.1 ≠ (TX8 b).2.1 := by decide +kernel
theorem tyX8_ok : ∀ k, k < 6 → parseFieldDescriptor (TX8 k).2.2.1 = some (tyX8 k) := by decide +kernel
abbrev cX8_init : ByteArray := prog_10_method_1_code
def yX8_init : MethodName := ⟨RX8, "<init>", "()V"⟩
abbrev cX8_restart : ByteArray := prog_10_method_2_code
def yX8_restart : MethodName := ⟨RX8, "restart", "(II)V"⟩
abbrev cX8_startPack : ByteArray := prog_10_method_3_code
def yX8_startPack : MethodName := ⟨RX8, "startPack", "(I)V"⟩
abbrev cX8_mayEnd : ByteArray := prog_10_method_4_code
def yX8_mayEnd : MethodName := ⟨RX8, "mayEnd", "()Z"⟩
abbrev cX8_reads : ByteArray := prog_10_method_5_code
def yX8_reads : MethodName := ⟨RX8, "reads", "(I)Z"⟩
abbrev cX8_readsSection : ByteArray := prog_10_method_6_code
def yX8_readsSection : MethodName := ⟨RX8, "readsSection", "(I)Z"⟩
abbrev cX8_readsSign : ByteArray := prog_10_method_7_code
def yX8_readsSign : MethodName := ⟨RX8, "readsSign", "(III)Z"⟩
abbrev cX8_readsDigit : ByteArray := prog_10_method_8_code
def yX8_readsDigit : MethodName := ⟨RX8, "readsDigit", "(II)Z"⟩
abbrev cX8_readsLetter : ByteArray := prog_10_method_9_code
def yX8_readsLetter : MethodName := ⟨RX8, "readsLetter", "(I)Z"⟩
def RX9 : String := "ArchiveMirrors"
def TX9 : u_T := fun k => match k with
  | 0 => ("ArchiveMirrors", "archive", "LArchiveMirrors$Archive;", true)
  | 1 => ("ArchiveMirrors", "network", "LArchiveMirrors$Network;", true)
  | 2 => ("ArchiveMirrors", "forecast", "LArchiveMirrors$Network;", true)
  | 3 => ("ArchiveMirrors", "clients", "[LArchiveMirrors$Client;", true)
  | 4 => ("ArchiveMirrors", "plan", "LArchiveMirrors$Plan;", true)
  | 5 => ("ArchiveMirrors", "input", "LArchiveMirrors$InputText;", true)
  | _ => ("ArchiveMirrors", "clientCount", "I", false)
def tyX9 : Nat → FieldType := fun k => match k with
  | 0 => .object "ArchiveMirrors$Archive"
  | 1 => .object "ArchiveMirrors$Network"
  | 2 => .object "ArchiveMirrors$Network"
  | 3 => .array (.object "ArchiveMirrors$Client")
  | 4 => .object "ArchiveMirrors$Plan"
  | 5 => .object "ArchiveMirrors$InputText"
  | _ => .int
theorem nmX9 : ∀ a, a < 7 → ∀ b, b < 7 → a ≠ b → (TX9 a).2.1 ≠ (TX9 b).2.1 := by decide +kernel
theorem tyX9_ok : ∀ k, k < 7 → parseFieldDescriptor (TX9 k).2.2.1 = some (tyX9 k) := by decide +kernel
abbrev cX9_init : ByteArray := prog_1_method_1_code
def yX9_init : MethodName := ⟨RX9, "<init>", "()V"⟩
abbrev cX9_begin : ByteArray := prog_1_method_2_code
def yX9_begin : MethodName := ⟨RX9, "begin", "(I)I"⟩
abbrev cX9_addPackage : ByteArray := prog_1_method_3_code
def yX9_addPackage : MethodName := ⟨RX9, "addPackage", "(III)I"⟩
abbrev cX9_publish : ByteArray := prog_1_method_4_code
def yX9_publish : MethodName := ⟨RX9, "publish", "(I)I"⟩
abbrev cX9_release : ByteArray := prog_1_method_5_code
def yX9_release : MethodName := ⟨RX9, "release", "()I"⟩
abbrev cX9_setValidity : ByteArray := prog_1_method_6_code
def yX9_setValidity : MethodName := ⟨RX9, "setValidity", "(I)I"⟩
abbrev cX9_append : ByteArray := prog_1_method_7_code
def yX9_append : MethodName := ⟨RX9, "append", "(I)I"⟩
abbrev cX9_clearInput : ByteArray := prog_1_method_8_code
def yX9_clearInput : MethodName := ⟨RX9, "clearInput", "()I"⟩
abbrev cX9_firstError : ByteArray := prog_1_method_9_code
def yX9_firstError : MethodName := ⟨RX9, "firstError", "()I"⟩
abbrev cX9_load : ByteArray := prog_1_method_10_code
def yX9_load : MethodName := ⟨RX9, "load", "()I"⟩
abbrev cX9_addMirror : ByteArray := prog_1_method_11_code
def yX9_addMirror : MethodName := ⟨RX9, "addMirror", "(IIIIIZ)I"⟩
abbrev cX9_tamper : ByteArray := prog_1_method_12_code
def yX9_tamper : MethodName := ⟨RX9, "tamper", "(I)I"⟩
abbrev cX9_removeFile : ByteArray := prog_1_method_13_code
def yX9_removeFile : MethodName := ⟨RX9, "removeFile", "(III)I"⟩
abbrev cX9_pass : ByteArray := prog_1_method_14_code
def yX9_pass : MethodName := ⟨RX9, "pass", "(I)I"⟩
abbrev cX9_mirror : ByteArray := prog_1_method_15_code
def yX9_mirror : MethodName := ⟨RX9, "mirror", "(II)I"⟩
abbrev cX9_files : ByteArray := prog_1_method_16_code
def yX9_files : MethodName := ⟨RX9, "files", "(II)I"⟩
abbrev cX9_addClient : ByteArray := prog_1_method_17_code
def yX9_addClient : MethodName := ⟨RX9, "addClient", "(I)I"⟩
abbrev cX9_install : ByteArray := prog_1_method_18_code
def yX9_install : MethodName := ⟨RX9, "install", "(II)I"⟩
abbrev cX9_ifInstalled : ByteArray := prog_1_method_19_code
def yX9_ifInstalled : MethodName := ⟨RX9, "ifInstalled", "(III)I"⟩
abbrev cX9_until : ByteArray := prog_1_method_20_code
def yX9_until : MethodName := ⟨RX9, "until", "(II)I"⟩
abbrev cX9_client : ByteArray := prog_1_method_21_code
def yX9_client : MethodName := ⟨RX9, "client", "(II)I"⟩
abbrev cX9_count : ByteArray := prog_1_method_22_code
def yX9_count : MethodName := ⟨RX9, "count", "(I)I"⟩
abbrev cX9_packageAt : ByteArray := prog_1_method_23_code
def yX9_packageAt : MethodName := ⟨RX9, "packageAt", "(II)I"⟩
abbrev cX9_index : ByteArray := prog_1_method_24_code
def yX9_index : MethodName := ⟨RX9, "index", "(II)I"⟩
abbrev cX9_meanAge : ByteArray := prog_1_method_25_code
def yX9_meanAge : MethodName := ⟨RX9, "meanAge", "()D"⟩
abbrev cX9_digest : ByteArray := prog_1_method_26_code
def yX9_digest : MethodName := ⟨RX9, "digest", "()J"⟩
abbrev cX9_hasBitFrom : ByteArray := prog_1_method_27_code
def yX9_hasBitFrom : MethodName := ⟨RX9, "hasBitFrom", "(II)Z"⟩
abbrev cX9_requireKind : ByteArray := prog_1_method_28_code
def yX9_requireKind : MethodName := ⟨RX9, "requireKind", "(II)V"⟩
abbrev cX9_requirePackage : ByteArray := prog_1_method_29_code
def yX9_requirePackage : MethodName := ⟨RX9, "requirePackage", "(I)V"⟩
abbrev cX9_requirePackages : ByteArray := prog_1_method_30_code
def yX9_requirePackages : MethodName := ⟨RX9, "requirePackages", "(I)V"⟩
abbrev cX9_requireMirror : ByteArray := prog_1_method_31_code
def yX9_requireMirror : MethodName := ⟨RX9, "requireMirror", "(I)V"⟩
abbrev cX9_requireClient : ByteArray := prog_1_method_32_code
def yX9_requireClient : MethodName := ⟨RX9, "requireClient", "(I)V"⟩
abbrev cX9_counted : ByteArray := prog_1_method_33_code
def yX9_counted : MethodName := ⟨RX9, "counted", "(I)I"⟩
abbrev cX9_packageProperty : ByteArray := prog_1_method_34_code
def yX9_packageProperty : MethodName := ⟨RX9, "packageProperty", "(II)I"⟩
abbrev cX9_indexProperty : ByteArray := prog_1_method_35_code
def yX9_indexProperty : MethodName := ⟨RX9, "indexProperty", "(II)I"⟩
abbrev cX9_planned : ByteArray := prog_1_method_36_code
def yX9_planned : MethodName := ⟨RX9, "planned", "(LArchiveMirrors$Client;I)I"⟩
abbrev cX9_minutesToAcceptance : ByteArray := prog_1_method_37_code
def yX9_minutesToAcceptance : MethodName := ⟨RX9, "minutesToAcceptance", "(LArchiveMirrors$Client;I)I"⟩
abbrev cX9_mix : ByteArray := prog_1_method_38_code
def yX9_mix : MethodName := ⟨RX9, "mix", "(JJ)J"⟩
abbrev cX9_mixPackages : ByteArray := prog_1_method_39_code
def yX9_mixPackages : MethodName := ⟨RX9, "mixPackages", "(J)J"⟩
abbrev cX9_mixIndexes : ByteArray := prog_1_method_40_code
def yX9_mixIndexes : MethodName := ⟨RX9, "mixIndexes", "(J)J"⟩
abbrev cX9_mixMirrors : ByteArray := prog_1_method_41_code
def yX9_mixMirrors : MethodName := ⟨RX9, "mixMirrors", "(J)J"⟩
abbrev cX9_mixClients : ByteArray := prog_1_method_42_code
def yX9_mixClients : MethodName := ⟨RX9, "mixClients", "(J)J"⟩
def RX10 : String := "ArchiveMirrorsModel"
def TX10 : u_T := fun k => match k with
  | 0 => ("ArchiveMirrorsModel", "thrown", "I", false)
  | 1 => ("ArchiveMirrorsModel", "sections", "I", false)
  | 2 => ("ArchiveMirrorsModel", "packages", "I", false)
  | 3 => ("ArchiveMirrorsModel", "indexes", "I", false)
  | 4 => ("ArchiveMirrorsModel", "mirrors", "I", false)
  | 5 => ("ArchiveMirrorsModel", "clients", "I", false)
  | 6 => ("ArchiveMirrorsModel", "time", "I", false)
  | 7 => ("ArchiveMirrorsModel", "validity", "I", false)
  | 8 => ("ArchiveMirrorsModel", "copied", "I", false)
  | 9 => ("ArchiveMirrorsModel", "section", "[I", true)
  | 10 => ("ArchiveMirrorsModel", "size", "[I", true)
  | 11 => ("ArchiveMirrorsModel", "needs", "[I", true)
  | 12 => ("ArchiveMirrorsModel", "version", "[I", true)
  | 13 => ("ArchiveMirrorsModel", "released", "[I", true)
  | 14 => ("ArchiveMirrorsModel", "signature", "[I", true)
  | 15 => ("ArchiveMirrorsModel", "told", "[I", true)
  | 16 => ("ArchiveMirrorsModel", "carries", "[I", true)
  | 17 => ("ArchiveMirrorsModel", "interval", "[I", true)
  | 18 => ("ArchiveMirrorsModel", "offset", "[I", true)
  | 19 => ("ArchiveMirrorsModel", "upstream", "[I", true)
  | 20 => ("ArchiveMirrorsModel", "capacity", "[I", true)
  | 21 => ("ArchiveMirrorsModel", "isCareful", "[Z", true)
  | 22 => ("ArchiveMirrorsModel", "own", "[I", true)
  | 23 => ("ArchiveMirrorsModel", "isWrong", "[Z", true)
  | 24 => ("ArchiveMirrorsModel", "files", "[I", true)
  | 25 => ("ArchiveMirrorsModel", "uses", "[I", true)
  | 26 => ("ArchiveMirrorsModel", "latest", "[I", true)
  | 27 => ("ArchiveMirrorsModel", "installed", "[I", true)
  | 28 => ("ArchiveMirrorsModel", "length", "I", false)
  | 29 => ("ArchiveMirrorsModel", "buffer", "[I", true)
  | 30 => ("ArchiveMirrorsModel", "place", "I", false)
  | 31 => ("ArchiveMirrorsModel", "number", "I", false)
  | 32 => ("ArchiveMirrorsModel", "highest", "I", false)
  | 33 => ("ArchiveMirrorsModel", "items", "I", false)
  | 34 => ("ArchiveMirrorsModel", "itSection", "[I", true)
  | 35 => ("ArchiveMirrorsModel", "itSize", "[I", true)
  | 36 => ("ArchiveMirrorsModel", "itNeeds", "[I", true)
  | 37 => ("ArchiveMirrorsModel", "keptOwn", "[I", true)
  | 38 => ("ArchiveMirrorsModel", "keptWrong", "[Z", true)
  | 39 => ("ArchiveMirrorsModel", "keptFiles", "[I", true)
  | _ => ("ArchiveMirrorsModel", "hash", "J", false)
def tyX10 : Nat → FieldType := fun k => match k with
  | 0 => .int
  | 1 => .int
  | 2 => .int
  | 3 => .int
  | 4 => .int
  | 5 => .int
  | 6 => .int
  | 7 => .int
  | 8 => .int
  | 9 => .array .int
  | 10 => .array .int
  | 11 => .array .int
  | 12 => .array .int
  | 13 => .array .int
  | 14 => .array .int
  | 15 => .array .int
  | 16 => .array .int
  | 17 => .array .int
  | 18 => .array .int
  | 19 => .array .int
  | 20 => .array .int
  | 21 => .array .boolean
  | 22 => .array .int
  | 23 => .array .boolean
  | 24 => .array .int
  | 25 => .array .int
  | 26 => .array .int
  | 27 => .array .int
  | 28 => .int
  | 29 => .array .int
  | 30 => .int
  | 31 => .int
  | 32 => .int
  | 33 => .int
  | 34 => .array .int
  | 35 => .array .int
  | 36 => .array .int
  | 37 => .array .int
  | 38 => .array .boolean
  | 39 => .array .int
  | _ => .long
theorem nmX10 : ∀ a, a < 41 → ∀ b, b < 41 → a ≠ b → (TX10 a).2.1 ≠ (TX10 b).2.1 := by decide +kernel
theorem tyX10_ok : ∀ k, k < 41 → parseFieldDescriptor (TX10 k).2.2.1 = some (tyX10 k) := by decide +kernel
abbrev cX10_init : ByteArray := prog_12_method_1_code
def yX10_init : MethodName := ⟨RX10, "<init>", "()V"⟩
abbrev cX10_thrown : ByteArray := prog_12_method_2_code
def yX10_thrown : MethodName := ⟨RX10, "thrown", "()I"⟩
abbrev cX10_within : ByteArray := prog_12_method_3_code
def yX10_within : MethodName := ⟨RX10, "within", "(III)Z"⟩
abbrev cX10_has : ByteArray := prog_12_method_4_code
def yX10_has : MethodName := ⟨RX10, "has", "(II)Z"⟩
abbrev cX10_bits : ByteArray := prog_12_method_5_code
def yX10_bits : MethodName := ⟨RX10, "bits", "(I)I"⟩
abbrev cX10_isPackage : ByteArray := prog_12_method_6_code
def yX10_isPackage : MethodName := ⟨RX10, "isPackage", "(I)Z"⟩
abbrev cX10_isMirror : ByteArray := prog_12_method_7_code
def yX10_isMirror : MethodName := ⟨RX10, "isMirror", "(I)Z"⟩
abbrev cX10_isClient : ByteArray := prog_12_method_8_code
def yX10_isClient : MethodName := ⟨RX10, "isClient", "(I)Z"⟩
abbrev cX10_isSetOf : ByteArray := prog_12_method_9_code
def yX10_isSetOf : MethodName := ⟨RX10, "isSetOf", "(II)Z"⟩
abbrev cX10_begin : ByteArray := prog_12_method_10_code
def yX10_begin : MethodName := ⟨RX10, "begin", "(I)I"⟩
abbrev cX10_putPackage : ByteArray := prog_12_method_11_code
def yX10_putPackage : MethodName := ⟨RX10, "putPackage", "(III)V"⟩
abbrev cX10_addPackage : ByteArray := prog_12_method_12_code
def yX10_addPackage : MethodName := ⟨RX10, "addPackage", "(III)I"⟩
abbrev cX10_publish : ByteArray := prog_12_method_13_code
def yX10_publish : MethodName := ⟨RX10, "publish", "(I)I"⟩
abbrev cX10_release : ByteArray := prog_12_method_14_code
def yX10_release : MethodName := ⟨RX10, "release", "()I"⟩
abbrev cX10_setValidity : ByteArray := prog_12_method_15_code
def yX10_setValidity : MethodName := ⟨RX10, "setValidity", "(I)I"⟩
abbrev cX10_append : ByteArray := prog_12_method_16_code
def yX10_append : MethodName := ⟨RX10, "append", "(I)I"⟩
abbrev cX10_clearInput : ByteArray := prog_12_method_17_code
def yX10_clearInput : MethodName := ⟨RX10, "clearInput", "()I"⟩
abbrev cX10_takesSection : ByteArray := prog_12_method_18_code
def yX10_takesSection : MethodName := ⟨RX10, "takesSection", "(I)Z"⟩
abbrev cX10_takesLetter : ByteArray := prog_12_method_19_code
def yX10_takesLetter : MethodName := ⟨RX10, "takesLetter", "(I)Z"⟩
abbrev cX10_takesSize : ByteArray := prog_12_method_20_code
def yX10_takesSize : MethodName := ⟨RX10, "takesSize", "(I)Z"⟩
abbrev cX10_mayEnd : ByteArray := prog_12_method_21_code
def yX10_mayEnd : MethodName := ⟨RX10, "mayEnd", "()Z"⟩
abbrev cX10_endItem : ByteArray := prog_12_method_22_code
def yX10_endItem : MethodName := ⟨RX10, "endItem", "()V"⟩
abbrev cX10_takes : ByteArray := prog_12_method_23_code
def yX10_takes : MethodName := ⟨RX10, "takes", "(I)Z"⟩
abbrev cX10_rightLength : ByteArray := prog_12_method_24_code
def yX10_rightLength : MethodName := ⟨RX10, "rightLength", "()I"⟩
abbrev cX10_firstError : ByteArray := prog_12_method_25_code
def yX10_firstError : MethodName := ⟨RX10, "firstError", "()I"⟩
abbrev cX10_load : ByteArray := prog_12_method_26_code
def yX10_load : MethodName := ⟨RX10, "load", "()I"⟩
abbrev cX10_addMirror : ByteArray := prog_12_method_27_code
def yX10_addMirror : MethodName := ⟨RX10, "addMirror", "(IIIIIZ)I"⟩
abbrev cX10_tamper : ByteArray := prog_12_method_28_code
def yX10_tamper : MethodName := ⟨RX10, "tamper", "(I)I"⟩
abbrev cX10_fileCount : ByteArray := prog_12_method_29_code
def yX10_fileCount : MethodName := ⟨RX10, "fileCount", "(I)I"⟩
abbrev cX10_removeFile : ByteArray := prog_12_method_30_code
def yX10_removeFile : MethodName := ⟨RX10, "removeFile", "(III)I"⟩
abbrev cX10_toldBy : ByteArray := prog_12_method_31_code
def yX10_toldBy : MethodName := ⟨RX10, "toldBy", "(II)I"⟩
abbrev cX10_wants : ByteArray := prog_12_method_32_code
def yX10_wants : MethodName := ⟨RX10, "wants", "(III)Z"⟩
abbrev cX10_lacking : ByteArray := prog_12_method_33_code
def yX10_lacking : MethodName := ⟨RX10, "lacking", "(II)I"⟩
abbrev cX10_copyFiles : ByteArray := prog_12_method_34_code
def yX10_copyFiles : MethodName := ⟨RX10, "copyFiles", "(II)I"⟩
abbrev cX10_pull : ByteArray := prog_12_method_35_code
def yX10_pull : MethodName := ⟨RX10, "pull", "(I)I"⟩
abbrev cX10_minute : ByteArray := prog_12_method_36_code
def yX10_minute : MethodName := ⟨RX10, "minute", "()V"⟩
abbrev cX10_pass : ByteArray := prog_12_method_37_code
def yX10_pass : MethodName := ⟨RX10, "pass", "(I)I"⟩
abbrev cX10_isComplete : ByteArray := prog_12_method_38_code
def yX10_isComplete : MethodName := ⟨RX10, "isComplete", "(I)Z"⟩
abbrev cX10_nextPull : ByteArray := prog_12_method_39_code
def yX10_nextPull : MethodName := ⟨RX10, "nextPull", "(I)I"⟩
abbrev cX10_mirrorNow : ByteArray := prog_12_method_40_code
def yX10_mirrorNow : MethodName := ⟨RX10, "mirrorNow", "(II)I"⟩
abbrev cX10_mirror : ByteArray := prog_12_method_41_code
def yX10_mirror : MethodName := ⟨RX10, "mirror", "(II)I"⟩
abbrev cX10_files : ByteArray := prog_12_method_42_code
def yX10_files : MethodName := ⟨RX10, "files", "(II)I"⟩
abbrev cX10_addClient : ByteArray := prog_12_method_43_code
def yX10_addClient : MethodName := ⟨RX10, "addClient", "(I)I"⟩
abbrev cX10_closure : ByteArray := prog_12_method_44_code
def yX10_closure : MethodName := ⟨RX10, "closure", "(I)I"⟩
abbrev cX10_installedSet : ByteArray := prog_12_method_45_code
def yX10_installedSet : MethodName := ⟨RX10, "installedSet", "(I)I"⟩
abbrev cX10_isFresh : ByteArray := prog_12_method_46_code
def yX10_isFresh : MethodName := ⟨RX10, "isFresh", "(I)Z"⟩
abbrev cX10_indexFor : ByteArray := prog_12_method_47_code
def yX10_indexFor : MethodName := ⟨RX10, "indexFor", "(I)I"⟩
abbrev cX10_have : ByteArray := prog_12_method_48_code
def yX10_have : MethodName := ⟨RX10, "have", "(III)Z"⟩
abbrev cX10_wantedBy : ByteArray := prog_12_method_49_code
def yX10_wantedBy : MethodName := ⟨RX10, "wantedBy", "(II)I"⟩
abbrev cX10_reason : ByteArray := prog_12_method_50_code
def yX10_reason : MethodName := ⟨RX10, "reason", "(II)I"⟩
abbrev cX10_install : ByteArray := prog_12_method_51_code
def yX10_install : MethodName := ⟨RX10, "install", "(II)I"⟩
abbrev cX10_changing : ByteArray := prog_12_method_52_code
def yX10_changing : MethodName := ⟨RX10, "changing", "(III)I"⟩
abbrev cX10_fewest : ByteArray := prog_12_method_53_code
def yX10_fewest : MethodName := ⟨RX10, "fewest", "(III)I"⟩
abbrev cX10_would : ByteArray := prog_12_method_54_code
def yX10_would : MethodName := ⟨RX10, "would", "(III)I"⟩
abbrev cX10_ifInstalled : ByteArray := prog_12_method_55_code
def yX10_ifInstalled : MethodName := ⟨RX10, "ifInstalled", "(III)I"⟩
abbrev cX10_keep : ByteArray := prog_12_method_56_code
def yX10_keep : MethodName := ⟨RX10, "keep", "()V"⟩
abbrev cX10_takeBack : ByteArray := prog_12_method_57_code
def yX10_takeBack : MethodName := ⟨RX10, "takeBack", "()V"⟩
abbrev cX10_waits : ByteArray := prog_12_method_58_code
def yX10_waits : MethodName := ⟨RX10, "waits", "(II)I"⟩
abbrev cX10_until : ByteArray := prog_12_method_59_code
def yX10_until : MethodName := ⟨RX10, "until", "(II)I"⟩
abbrev cX10_clientNow : ByteArray := prog_12_method_60_code
def yX10_clientNow : MethodName := ⟨RX10, "clientNow", "(II)I"⟩
abbrev cX10_client : ByteArray := prog_12_method_61_code
def yX10_client : MethodName := ⟨RX10, "client", "(II)I"⟩
abbrev cX10_counted : ByteArray := prog_12_method_62_code
def yX10_counted : MethodName := ⟨RX10, "counted", "(I)I"⟩
abbrev cX10_count : ByteArray := prog_12_method_63_code
def yX10_count : MethodName := ⟨RX10, "count", "(I)I"⟩
abbrev cX10_mirrorsWith : ByteArray := prog_12_method_64_code
def yX10_mirrorsWith : MethodName := ⟨RX10, "mirrorsWith", "(I)I"⟩
abbrev cX10_packageNow : ByteArray := prog_12_method_65_code
def yX10_packageNow : MethodName := ⟨RX10, "packageNow", "(II)I"⟩
abbrev cX10_packageAt : ByteArray := prog_12_method_66_code
def yX10_packageAt : MethodName := ⟨RX10, "packageAt", "(II)I"⟩
abbrev cX10_packagesOf : ByteArray := prog_12_method_67_code
def yX10_packagesOf : MethodName := ⟨RX10, "packagesOf", "(I)I"⟩
abbrev cX10_indexNow : ByteArray := prog_12_method_68_code
def yX10_indexNow : MethodName := ⟨RX10, "indexNow", "(II)I"⟩
abbrev cX10_index : ByteArray := prog_12_method_69_code
def yX10_index : MethodName := ⟨RX10, "index", "(II)I"⟩
abbrev cX10_meanAge : ByteArray := prog_12_method_70_code
def yX10_meanAge : MethodName := ⟨RX10, "meanAge", "()D"⟩
abbrev cX10_mix : ByteArray := prog_12_method_71_code
def yX10_mix : MethodName := ⟨RX10, "mix", "(J)V"⟩
abbrev cX10_mixIndexes : ByteArray := prog_12_method_72_code
def yX10_mixIndexes : MethodName := ⟨RX10, "mixIndexes", "()V"⟩
abbrev cX10_mixMirrors : ByteArray := prog_12_method_73_code
def yX10_mixMirrors : MethodName := ⟨RX10, "mixMirrors", "()V"⟩
abbrev cX10_mixClients : ByteArray := prog_12_method_74_code
def yX10_mixClients : MethodName := ⟨RX10, "mixClients", "()V"⟩
abbrev cX10_digest : ByteArray := prog_12_method_75_code
def yX10_digest : MethodName := ⟨RX10, "digest", "()J"⟩
def RJ6 : String := "java/lang/Integer"
abbrev cJ6_bitCount_0f7a4 : ByteArray := prog_17_method_49_code
def yJ6_bitCount_0f7a4 : MethodName := ⟨RJ6, "bitCount", "(I)I"⟩
def RJ9 : String := "java/lang/Math"
abbrev cJ9_floorMod_7cf53 : ByteArray := prog_18_method_50_code
def yJ9_floorMod_7cf53 : MethodName := ⟨RJ9, "floorMod", "(II)I"⟩
abbrev cJ9_max_7cf53 : ByteArray := prog_18_method_65_code
def yJ9_max_7cf53 : MethodName := ⟨RJ9, "max", "(II)I"⟩
abbrev cJ9_min_7cf53 : ByteArray := prog_18_method_69_code
def yJ9_min_7cf53 : MethodName := ⟨RJ9, "min", "(II)I"⟩
def RL : String := "ArchiveMirrorsLaw"
abbrev cL_begin : ByteArray := method_3_code
def yL_begin : MethodName := ⟨RL, "begin", "(LArchiveMirrors;I[J)I"⟩
abbrev cL_addPackage : ByteArray := method_4_code
def yL_addPackage : MethodName := ⟨RL, "addPackage", "(LArchiveMirrors;III[J)I"⟩
abbrev cL_publish : ByteArray := method_5_code
def yL_publish : MethodName := ⟨RL, "publish", "(LArchiveMirrors;I[J)I"⟩
abbrev cL_release : ByteArray := method_6_code
def yL_release : MethodName := ⟨RL, "release", "(LArchiveMirrors;[J)I"⟩
abbrev cL_setValidity : ByteArray := method_7_code
def yL_setValidity : MethodName := ⟨RL, "setValidity", "(LArchiveMirrors;I[J)I"⟩
abbrev cL_append : ByteArray := method_8_code
def yL_append : MethodName := ⟨RL, "append", "(LArchiveMirrors;I[J)I"⟩
abbrev cL_load : ByteArray := method_9_code
def yL_load : MethodName := ⟨RL, "load", "(LArchiveMirrors;[J)I"⟩
abbrev cL_addMirror : ByteArray := method_10_code
def yL_addMirror : MethodName := ⟨RL, "addMirror", "(LArchiveMirrors;IIIIIZ[J)I"⟩
abbrev cL_tamper : ByteArray := method_11_code
def yL_tamper : MethodName := ⟨RL, "tamper", "(LArchiveMirrors;I[J)I"⟩
abbrev cL_removeFile : ByteArray := method_12_code
def yL_removeFile : MethodName := ⟨RL, "removeFile", "(LArchiveMirrors;III[J)I"⟩
abbrev cL_pass : ByteArray := method_13_code
def yL_pass : MethodName := ⟨RL, "pass", "(LArchiveMirrors;I[J)I"⟩
abbrev cL_mirror : ByteArray := method_14_code
def yL_mirror : MethodName := ⟨RL, "mirror", "(LArchiveMirrors;II[J)I"⟩
abbrev cL_files : ByteArray := method_15_code
def yL_files : MethodName := ⟨RL, "files", "(LArchiveMirrors;II[J)I"⟩
abbrev cL_addClient : ByteArray := method_16_code
def yL_addClient : MethodName := ⟨RL, "addClient", "(LArchiveMirrors;I[J)I"⟩
abbrev cL_install : ByteArray := method_17_code
def yL_install : MethodName := ⟨RL, "install", "(LArchiveMirrors;II[J)I"⟩
abbrev cL_ifInstalled : ByteArray := method_18_code
def yL_ifInstalled : MethodName := ⟨RL, "ifInstalled", "(LArchiveMirrors;III[J)I"⟩
abbrev cL_until : ByteArray := method_19_code
def yL_until : MethodName := ⟨RL, "until", "(LArchiveMirrors;II[J)I"⟩
abbrev cL_client : ByteArray := method_20_code
def yL_client : MethodName := ⟨RL, "client", "(LArchiveMirrors;II[J)I"⟩
abbrev cL_count : ByteArray := method_21_code
def yL_count : MethodName := ⟨RL, "count", "(LArchiveMirrors;I[J)I"⟩
abbrev cL_packageAt : ByteArray := method_22_code
def yL_packageAt : MethodName := ⟨RL, "packageAt", "(LArchiveMirrors;II[J)I"⟩
abbrev cL_index : ByteArray := method_23_code
def yL_index : MethodName := ⟨RL, "index", "(LArchiveMirrors;II[J)I"⟩
abbrev cL_law : ByteArray := code
def yL_law : MethodName := ⟨RL, "law", "([I)Z"⟩
abbrev vwCl : List vw_C := [(RX0, TX0, 6), (RX1, TX1, 3), (RX2, TX2, 4), (RX3, TX3, 3), (RX4, TX4, 9), (RX5, TX5, 5), (RX6, TX6, 5), (RX7, TX7, 5), (RX8, TX8, 6), (RX9, TX9, 7), (RX10, TX10, 41)]
/-- the words of every contract: those of the tables that stay true as the machine warms -/
def ax_T : List Cond := lw_tbl.filter goodWord
end
section
/-! THE SMALL MACHINE: the state of class and reference as numbers (kind, which one, place), the references fixed; a step of it for each instruction, in the way of a continuation. -/
/-- a value: itself, or a reference by kind and number -/
abbrev ax_V : Type := Value ⊕ (Nat × Nat)
abbrev ax_F : Type := Nat → Nat → Nat → Int32
abbrev ax_G : Type := Nat → Nat → Nat → Int64
abbrev ax_L : Type := List (Option ax_V)
/-- how a method ends: its answer, or the number of the class that it throws; and the numbers behind it -/
abbrev ax_Fin : Type := (Option ax_V ⊕ Nat) × ax_F × ax_G
abbrev ax_S : Type := List ax_V → ax_F → ax_G → Option ax_Fin
abbrev ax_K : Type := Nat → ax_L → List ax_V → ax_F → ax_G → Nat → Nat → Option ax_Fin
/-- mode, class of the receiver, arguments, kind of answer, meaning, cells, slots -/
abbrev ax_Cl : Type := Nat × Nat × Nat × Nat × ax_S × Nat × Nat
/-- pc, instruction, length, target or local, number -/
abbrev ax_En : Type := Nat × Instr × Nat × Nat × Int32
abbrev ax_P : Type := List (Nat × List ax_En) × List (Nat × Nat) × List (Nat × Nat × Nat) × List (Nat × ax_Cl) × List (Nat × Int64) × List (Nat × Nat) × List (Nat × Nat × Nat × Nat × Nat) × List (Nat × List (Int32 × Nat) × Nat) × Nat × Nat × Nat × Option (Nat × Nat × (Nat → Int32))
def ax_code (P : ax_P) : List (Nat × List ax_En) := P.1
def ax_live (P : ax_P) : List (Nat × Nat) := P.2.1
def ax_flds (P : ax_P) : List (Nat × Nat × Nat) := P.2.2.1
def ax_calls (P : ax_P) : List (Nat × ax_Cl) := P.2.2.2.1
def ax_lcs (P : ax_P) : List (Nat × Int64) := P.2.2.2.2.1
def ax_excs (P : ax_P) : List (Nat × Nat) := P.2.2.2.2.2.1
def ax_hand (P : ax_P) : List (Nat × Nat × Nat × Nat × Nat) := P.2.2.2.2.2.2.1
def ax_sws (P : ax_P) : List (Nat × List (Int32 × Nat) × Nat) := P.2.2.2.2.2.2.2.1
def ax_ret (P : ax_P) : Nat := P.2.2.2.2.2.2.2.2.1
def ax_mc (P : ax_P) : Nat := P.2.2.2.2.2.2.2.2.2.1
def ax_ms (P : ax_P) : Nat := P.2.2.2.2.2.2.2.2.2.2.1
def ax_scr (P : ax_P) : Option (Nat × Nat × (Nat → Int32)) := P.2.2.2.2.2.2.2.2.2.2.2
/-- what stands at a key -/
def ax_lk {α : Type} : List (Nat × α) → Nat → Option α
  | [], _ => none
  | (n, a) :: l, k => bif Nat.beq n k then some a else ax_lk l k
/-- the instruction at a pc: the code lies in pieces, each with the pc that bounds it -/
def ax_at : List (Nat × List ax_En) → Nat → Option (Instr × Nat × Nat × Int32)
  | [], _ => none
  | (b, l) :: r, pc => bif Nat.blt pc b then ax_lk l pc else ax_at r pc
def ax_kill : Nat → ax_L → ax_L
  | _, [] => []
  | 0, _ :: l => none :: ax_kill 0 l
  | n + 1, a :: l => a :: ax_kill n l
def ax_norm (P : ax_P) (pc : Nat) (L : ax_L) : ax_L := match ax_lk (ax_live P) pc with
  | some n => ax_kill n L
  | none => L
def ax_nth : ax_L → Nat → Option ax_V
  | [], _ => none
  | a :: _, 0 => a
  | _ :: l, n + 1 => ax_nth l n
/-- a value of two words -/
def ax_two : ax_V → Bool
  | .inl (.long _) => true
  | .inl (.double _) => true
  | _ => false
def ax_nl (a : Option ax_V) : Option ax_V := match a with
  | some v => bif ax_two v then none else some v
  | none => none
def ax_s1 : ax_L → Nat → ax_V → ax_L
  | [], _, _ => []
  | _ :: l, 0, v => some v :: l
  | a :: l, n + 1, v => (bif Nat.beq n 0 then ax_nl a else a) :: ax_s1 l n v
def ax_n0 : ax_L → ax_L
  | [] => []
  | _ :: l => none :: l
def ax_s2 : ax_L → Nat → ax_V → ax_L
  | [], _, _ => []
  | _ :: l, 0, v => some v :: ax_n0 l
  | a :: l, n + 1, v => (bif Nat.beq n 0 then ax_nl a else a) :: ax_s2 l n v
def ax_kl (L : ax_L) (n : Nat) : ax_L := match L, n with
  | [], _ => []
  | _ :: l, 0 => none :: l
  | a :: l, n + 1 => (bif Nat.beq n 0 then ax_nl a else a) :: ax_kl l n
/-- class of a kind of objects -/
def ax_kc (k : Nat) : Option Nat := match k with
  | 0 => some 9 | 1 => some 0 | 3 => some 6 | 5 => some 2 | 7 => some 5 | 9 => some 4 | 12 => some 1 | 14 => some 7 | 16 => some 3 | 18 => some 8 | 19 => some 10
  | _ => none
/-- type (0 int, 1 boolean, 2 long, 3 Pack, 4 Index, 5 Mirror, 6 Client) and length of a kind of arrays -/
def ax_ka (k : Nat) : Option (Nat × Nat) := match k with
  | 2 => some (3, 12) | 4 => some (4, 20) | 6 => some (0, 12) | 8 => some (5, 6) | 10 => some (0, 12) | 11 => some (6, 4) | 13 => some (0, 12) | 15 => some (0, 6) | 17 => some (0, 60)
  | 29 => some (0, 13) | 30 => some (0, 13) | 31 => some (0, 13) | 32 => some (0, 13) | 33 => some (0, 21) | 34 => some (0, 21) | 35 => some (0, 252)
  | 36 => some (0, 6) | 37 => some (0, 6) | 38 => some (0, 6) | 39 => some (0, 6) | 40 => some (0, 6) | 41 => some (1, 6) | 42 => some (0, 6) | 43 => some (1, 6) | 44 => some (0, 72)
  | 45 => some (0, 4) | 46 => some (0, 4) | 47 => some (0, 48) | 49 => some (0, 60) | 54 => some (0, 13) | 55 => some (0, 13) | 56 => some (0, 13) | 57 => some (0, 6) | 58 => some (1, 6) | 59 => some (0, 72)
  | 60 => some (2, 1)
  | _ => none
/-- type of a field: 0 int, 1 boolean, 2 long, 3 a reference -/
def ax_ft (ci j : Nat) : Nat := match ci with
  | 0 => match j with | 0 => 3 | 1 => 3 | _ => 0
  | 1 => match j with | 0 => 3 | _ => 0
  | 2 => match j with | 0 => 3 | _ => 0
  | 3 => match j with | 0 => 3 | 1 => 3 | _ => 0
  | 4 => match j with | 0 => 3 | 6 => 1 | 8 => 1 | _ => 0
  | 5 => match j with | 0 => 3 | 1 => 3 | _ => 0
  | 7 => match j with | 0 => 3 | 1 => 3 | _ => 0
  | 9 => match j with | 6 => 0 | _ => 3
  | 10 => bif Nat.beq j 40 then 2 else bif Nat.blt j 9 then 0 else bif Nat.beq j 28 then 0 else bif Nat.blt j 30 then 3 else bif Nat.blt j 34 then 0 else 3
  | _ => 0
/-- the references, once all is made -/
def ax_r0 (k i j : Nat) : Option (Nat × Nat) := match k with
  | 0 => match j with | 0 => some (1, 0) | 1 => some (7, 0) | 2 => some (7, 1) | 3 => some (11, 0) | 4 => some (14, 0) | 5 => some (16, 0) | _ => none
  | 1 => match j with | 0 => some (2, 0) | 1 => some (4, 0) | _ => none
  | 2 => some (3, j)
  | 4 => some (5, j)
  | 5 => match j with | 0 => some (6, i) | _ => none
  | 7 => match j with | 0 => some (1, 0) | 1 => some (8, i) | _ => none
  | 8 => some (9, 6 * i + j)
  | 9 => match j with | 0 => some (10, i) | _ => none
  | 11 => some (12, j)
  | 12 => match j with | 0 => some (13, i) | _ => none
  | 14 => match j with | 0 => some (1, 0) | 1 => some (15, 0) | _ => none
  | 16 => match j with | 0 => some (17, 0) | 1 => some (18, 0) | _ => none
  | 19 => some (20 + j, 0)
  | _ => none
def ax_rv (q : Option (Nat × Nat)) : ax_V := match q with
  | some x => .inr x
  | none => .inl .null
def ax_up (f : ax_F) (k i j : Nat) (x : Int32) : ax_F := fun k' i' j' => if k' = k ∧ i' = i ∧ j' = j then x else f k' i' j'
def ax_ug (g : ax_G) (k i j : Nat) (x : Int64) : ax_G := fun k' i' j' => if k' = k ∧ i' = i ∧ j' = j then x else g k' i' j'
def ax_i1 (st : List ax_V) (kk : Int32 → List ax_V → Option ax_Fin) : Option ax_Fin := match st with
  | .inl (.int x) :: r => kk x r
  | _ => none
def ax_i2 (st : List ax_V) (kk : Int32 → Int32 → List ax_V → Option ax_Fin) : Option ax_Fin := match st with
  | .inl (.int y) :: .inl (.int x) :: r => kk x y r
  | _ => none
def ax_l1 (st : List ax_V) (kk : Int64 → List ax_V → Option ax_Fin) : Option ax_Fin := match st with
  | .inl (.long x) :: r => kk x r
  | _ => none
def ax_l2 (st : List ax_V) (kk : Int64 → Int64 → List ax_V → Option ax_Fin) : Option ax_Fin := match st with
  | .inl (.long y) :: .inl (.long x) :: r => kk x y r
  | _ => none
def ax_d1 (st : List ax_V) (kk : UInt64 → List ax_V → Option ax_Fin) : Option ax_Fin := match st with
  | .inl (.double x) :: r => kk x r
  | _ => none
def ax_d2 (st : List ax_V) (kk : UInt64 → UInt64 → List ax_V → Option ax_Fin) : Option ax_Fin := match st with
  | .inl (.double y) :: .inl (.double x) :: r => kk x y r
  | _ => none
/-- a reference, or null -/
def ax_isr : ax_V → Bool
  | .inr _ => true
  | .inl .null => true
  | .inl (.ref _) => true
  | _ => false
def ax_one (v : ax_V) : Bool := !ax_two v
def ax_wd : List ax_V → Nat
  | [] => 0
  | v :: l => (bif ax_two v then 2 else 1) + ax_wd l
def ax_sw (l : List (Int32 × Nat)) (d : Nat) (x : Int32) (kk : Nat → Option ax_Fin) : Option ax_Fin := match l with
  | [] => kk d
  | (c, t) :: r => if x = c then kk t else ax_sw r d x kk
/-- the answers of a call, by kind: 0 none, 1 int, 2 boolean, 3 long, 4 double, 5 a reference -/
def ax_calv (r : Option ax_Fin) (kx : Nat → ax_F → ax_G → Option ax_Fin) (kk : ax_F → ax_G → Option ax_Fin) : Option ax_Fin := match r with
  | some (.inl none, f, g) => kk f g
  | some (.inr e, f, g) => kx e f g
  | _ => none
def ax_cali (r : Option ax_Fin) (kx : Nat → ax_F → ax_G → Option ax_Fin) (kk : Int32 → ax_F → ax_G → Option ax_Fin) : Option ax_Fin := match r with
  | some (.inl (some (.inl (.int x))), f, g) => kk x f g
  | some (.inr e, f, g) => kx e f g
  | _ => none
def ax_call (r : Option ax_Fin) (kx : Nat → ax_F → ax_G → Option ax_Fin) (kk : Int64 → ax_F → ax_G → Option ax_Fin) : Option ax_Fin := match r with
  | some (.inl (some (.inl (.long x))), f, g) => kk x f g
  | some (.inr e, f, g) => kx e f g
  | _ => none
def ax_cald (r : Option ax_Fin) (kx : Nat → ax_F → ax_G → Option ax_Fin) (kk : UInt64 → ax_F → ax_G → Option ax_Fin) : Option ax_Fin := match r with
  | some (.inl (some (.inl (.double x))), f, g) => kk x f g
  | some (.inr e, f, g) => kx e f g
  | _ => none
def ax_calr (r : Option ax_Fin) (kx : Nat → ax_F → ax_G → Option ax_Fin) (kk : ax_V → ax_F → ax_G → Option ax_Fin) : Option ax_Fin := match r with
  | some (.inl (some v), f, g) => bif ax_isr v then kk v f g else none
  | some (.inr e, f, g) => kx e f g
  | _ => none
def ax_cal (rt : Nat) (r : Option ax_Fin) (kx : Nat → ax_F → ax_G → Option ax_Fin) (rest : List ax_V) (kk : List ax_V → ax_F → ax_G → Option ax_Fin) : Option ax_Fin := match rt with
  | 0 => ax_calv r kx (fun f g => kk rest f g)
  | 1 => ax_cali r kx (fun x f g => kk (.inl (.int x) :: rest) f g)
  | 3 => ax_call r kx (fun x f g => kk (.inl (.long x) :: rest) f g)
  | 4 => ax_cald r kx (fun x f g => kk (.inl (.double x) :: rest) f g)
  | _ => ax_calr r kx (fun x f g => kk (x :: rest) f g)
/-- two of the three classes, and not the same -/
def ax_xd (x e : Nat) : Bool := Nat.blt 0 x && Nat.blt x 4 && (Nat.blt 0 e && Nat.blt e 4) && !Nat.beq x e
/-- what is thrown at pc: the first handler that covers it and names it, else out -/
def ax_thr (h : List (Nat × Nat × Nat × Nat × Nat)) (pc e : Nat) (L : ax_L) (f : ax_F) (g : ax_G) (cs ss : Nat) (k : ax_K) : Option ax_Fin := match h with
  | [] => some (.inr e, f, g)
  | (a, b, x, n, t) :: r => bif Nat.ble a pc && Nat.blt pc b then (bif Nat.beq x e then k t (ax_kl L n) [] f g cs ss else bif ax_xd x e then ax_thr r pc e L f g cs ss k else none) else ax_thr r pc e L f g cs ss k
/-- the first n of a stack, as arguments in their order, and the rest -/
def ax_pop : Nat → List ax_V → List ax_V → (List ax_V → List ax_V → Option ax_Fin) → Option ax_Fin
  | 0, st, as, kk => kk as st
  | n + 1, v :: st, as, kk => ax_pop n st (v :: as) kk
  | _ + 1, [], _, _ => none
def ax_fv (f : ax_F) (g : ax_G) (ty k i j : Nat) : ax_V := match ty with
  | 0 => .inl (.int (f k i j))
  | 1 => .inl (.int (f k i j))
  | 2 => .inl (.long (g k i j))
  | _ => ax_rv (ax_r0 k i j)
def ax_ob {α : Type} (o : Option α) (kk : α → Option ax_Fin) : Option ax_Fin := match o with
  | some x => kk x
  | none => none
def ax_gd (b : Bool) (x : Option ax_Fin) : Option ax_Fin := match b with
  | true => x
  | false => none
/-- a place in a row: looked at -/
def ax_bd (j : Int32) (len : Nat) (kk : Nat → Option ax_Fin) : Option ax_Fin := if j < 0 ∨ nI len ≤ j then none else kk j.toNatClampNeg
def ax_bb (x : Int32) (y : Option ax_Fin) : Option ax_Fin := if x = 0 ∨ x = 1 then y else none
def ax_v1 (st : List ax_V) (kk : ax_V → List ax_V → Option ax_Fin) : Option ax_Fin := match st with
  | x :: r => kk x r
  | [] => none
def ax_r1 (st : List ax_V) (kk : Nat → Nat → List ax_V → Option ax_Fin) : Option ax_Fin := match st with
  | .inr (a, i) :: r => kk a i r
  | _ => none
/-- a row, or the script -/
def ax_rs (v : ax_V) (kk : Nat → Nat → Option ax_Fin) (ks : Nat → Option ax_Fin) : Option ax_Fin := match v with
  | .inr (a, i) => kk a i
  | .inl (.ref b) => ks b
  | _ => none
def ax_oi (o : Option ax_V) (kk : Int32 → Option ax_Fin) : Option ax_Fin := match o with
  | some (.inl (.int x)) => kk x
  | _ => none
def ax_ol (o : Option ax_V) (kk : Int64 → Option ax_Fin) : Option ax_Fin := match o with
  | some (.inl (.long x)) => kk x
  | _ => none
def ax_od (o : Option ax_V) (kk : UInt64 → Option ax_Fin) : Option ax_Fin := match o with
  | some (.inl (.double x)) => kk x
  | _ => none
/-- null, or a thing of the world -/
def ax_nu (v : ax_V) (k0 k1 : Option ax_Fin) : Option ax_Fin := match v with
  | .inl .null => k0
  | .inr _ => k1
  | _ => none
def ax_0 (n : Nat) (a : Option ax_Fin) : Option ax_Fin := match n with
  | 0 => a
  | _ + 1 => none
def ax_1 (n : Nat) (a : Option ax_Fin) : Option ax_Fin := match n with
  | 1 => a
  | _ => none
def ax_2 (n : Nat) (a : Option ax_Fin) : Option ax_Fin := match n with
  | 2 => a
  | _ => none
def ax_3 (n : Nat) (a : Option ax_Fin) : Option ax_Fin := match n with
  | _ + 3 => a
  | _ => none
def ax_nil {α : Type} (l : List α) (a : Option ax_Fin) : Option ax_Fin := match l with
  | [] => a
  | _ :: _ => none
def ax_ir (t : Nat) (x : Int32) (a : Option ax_Fin) : Option ax_Fin := match t with
  | 1 => a
  | 2 => ax_bb x a
  | _ => none
/-- a number into a field -/
def ax_pf (f : ax_F) (g : ax_G) (ty k i j : Nat) (v : ax_V) (kk : ax_F → ax_G → Option ax_Fin) : Option ax_Fin := match ty, v with
  | 0, .inl (.int y) => kk (ax_up f k i j y) g
  | 1, .inl (.int y) => ax_bb y (kk (ax_up f k i j y) g)
  | 2, .inl (.long y) => kk f (ax_ug g k i j y)
  | _, _ => none
def ax_ins (P : ax_P) (pc n t : Nat) (v : Int32) (i : Instr) (L : ax_L) (st : List ax_V) (f : ax_F) (g : ax_G) (cs ss : Nat) (k : ax_K) : Option ax_Fin := match i with
  | .iconst _ => k (pc + n) L (.inl (.int v) :: st) f g cs ss
  | .bipush _ => k (pc + n) L (.inl (.int v) :: st) f g cs ss
  | .sipush _ => k (pc + n) L (.inl (.int v) :: st) f g cs ss
  | .ldc _ => k (pc + n) L (.inl (.int v) :: st) f g cs ss
  | .ldc_w _ => k (pc + n) L (.inl (.int v) :: st) f g cs ss
  | .ldc2_w x => ax_ob (ax_lk (ax_lcs P) x) fun y => k (pc + n) L (.inl (.long y) :: st) f g cs ss
  | .aconst_null => k (pc + n) L (.inl .null :: st) f g cs ss
  | .dconst _ => ax_gd (Nat.beq t 0) (k (pc + n) L (.inl (.double FP.dconst0) :: st) f g cs ss)
  | .iload _ => ax_oi (ax_nth L t) fun x => k (pc + n) L (.inl (.int x) :: st) f g cs ss
  | .iload_n _ => ax_oi (ax_nth L t) fun x => k (pc + n) L (.inl (.int x) :: st) f g cs ss
  | .lload_n _ => ax_ol (ax_nth L t) fun x => k (pc + n) L (.inl (.long x) :: st) f g cs ss
  | .dload _ => ax_od (ax_nth L t) fun x => k (pc + n) L (.inl (.double x) :: st) f g cs ss
  | .dload_n _ => ax_od (ax_nth L t) fun x => k (pc + n) L (.inl (.double x) :: st) f g cs ss
  | .aload _ => ax_ob (ax_nth L t) fun x => ax_gd (ax_isr x) (k (pc + n) L (x :: st) f g cs ss)
  | .aload_n _ => ax_ob (ax_nth L t) fun x => ax_gd (ax_isr x) (k (pc + n) L (x :: st) f g cs ss)
  | .istore _ => ax_i1 st fun x r => ax_gd (Nat.blt t L.length) (k (pc + n) (ax_s1 L t (.inl (.int x))) r f g cs ss)
  | .istore_n _ => ax_i1 st fun x r => ax_gd (Nat.blt t L.length) (k (pc + n) (ax_s1 L t (.inl (.int x))) r f g cs ss)
  | .lstore_n _ => ax_l1 st fun x r => ax_gd (Nat.blt (t + 1) L.length) (k (pc + n) (ax_s2 L t (.inl (.long x))) r f g cs ss)
  | .dstore _ => ax_d1 st fun x r => ax_gd (Nat.blt (t + 1) L.length) (k (pc + n) (ax_s2 L t (.inl (.double x))) r f g cs ss)
  | .dstore_n _ => ax_d1 st fun x r => ax_gd (Nat.blt (t + 1) L.length) (k (pc + n) (ax_s2 L t (.inl (.double x))) r f g cs ss)
  | .astore _ => ax_v1 st fun x r => ax_gd (ax_isr x) (ax_gd (Nat.blt t L.length) (k (pc + n) (ax_s1 L t x) r f g cs ss))
  | .astore_n _ => ax_v1 st fun x r => ax_gd (ax_isr x) (ax_gd (Nat.blt t L.length) (k (pc + n) (ax_s1 L t x) r f g cs ss))
  | .iinc _ _ => ax_oi (ax_nth L t) fun x => ax_gd (Nat.blt t L.length) (k (pc + n) (ax_s1 L t (.inl (.int (x + v)))) st f g cs ss)
  | .pop => ax_v1 st fun x r => ax_gd (ax_one x) (k (pc + n) L r f g cs ss)
  | .dup => ax_v1 st fun x r => ax_gd (ax_one x) (k (pc + n) L (x :: x :: r) f g cs ss)
  | .dup2 => ax_v1 st fun x r => ax_v1 r fun y r => ax_gd (ax_one x) (ax_gd (ax_one y) (k (pc + n) L (x :: y :: x :: y :: r) f g cs ss))
  | .iadd => ax_i2 st fun x y r => k (pc + n) L (.inl (.int (x + y)) :: r) f g cs ss
  | .isub => ax_i2 st fun x y r => k (pc + n) L (.inl (.int (x - y)) :: r) f g cs ss
  | .imul => ax_i2 st fun x y r => k (pc + n) L (.inl (.int (x * y)) :: r) f g cs ss
  | .iand => ax_i2 st fun x y r => k (pc + n) L (.inl (.int (x &&& y)) :: r) f g cs ss
  | .ior => ax_i2 st fun x y r => k (pc + n) L (.inl (.int (x ||| y)) :: r) f g cs ss
  | .ixor => ax_i2 st fun x y r => k (pc + n) L (.inl (.int (x ^^^ y)) :: r) f g cs ss
  | .ishl => ax_i2 st fun x y r => k (pc + n) L (.inl (.int (x <<< (y &&& 31))) :: r) f g cs ss
  | .ishr => ax_i2 st fun x y r => k (pc + n) L (.inl (.int (x >>> (y &&& 31))) :: r) f g cs ss
  | .iushr => ax_i2 st fun x y r => k (pc + n) L (.inl (.int (x.toUInt32 >>> (y.toUInt32 &&& Int32.toUInt32 31)).toInt32) :: r) f g cs ss
  | .idiv => ax_i2 st fun x y r => if y = 0 then none else k (pc + n) L (.inl (.int (x / y)) :: r) f g cs ss
  | .irem => ax_i2 st fun x y r => if y = 0 then none else k (pc + n) L (.inl (.int (x - x / y * y)) :: r) f g cs ss
  | .ladd => ax_l2 st fun x y r => k (pc + n) L (.inl (.long (x + y)) :: r) f g cs ss
  | .lmul => ax_l2 st fun x y r => k (pc + n) L (.inl (.long (x * y)) :: r) f g cs ss
  | .lcmp => ax_l2 st fun x y r => k (pc + n) L (.inl (.int (lg_cmp x y)) :: r) f g cs ss
  | .i2l => ax_i1 st fun x r => k (pc + n) L (.inl (.long x.toInt64) :: r) f g cs ss
  | .i2d => ax_i1 st fun x r => k (pc + n) L (.inl (.double (FP.i2d x)) :: r) f g cs ss
  | .dadd => ax_d2 st fun x y r => if FP.dadd x y &&& 0x7fffffffffffffff ≤ 0x7ff0000000000000 then k (pc + n) L (.inl (.double (FP.dadd x y)) :: r) f g cs ss else none
  | .ddiv => ax_d2 st fun x y r => if FP.ddiv x y &&& 0x7fffffffffffffff ≤ 0x7ff0000000000000 then k (pc + n) L (.inl (.double (FP.ddiv x y)) :: r) f g cs ss else none
  | .dcmp o => ax_d2 st fun x y r => k (pc + n) L (.inl (.int (Op.cmpValue (FP.dcmp x y) o)) :: r) f g cs ss
  | .goto _ => k t L st f g cs ss
  | .ifCond .eq _ => ax_i1 st fun x r => if x = 0 then k t L r f g cs ss else k (pc + n) L r f g cs ss
  | .ifCond .ne _ => ax_i1 st fun x r => if x = 0 then k (pc + n) L r f g cs ss else k t L r f g cs ss
  | .ifCond .lt _ => ax_i1 st fun x r => if x < 0 then k t L r f g cs ss else k (pc + n) L r f g cs ss
  | .ifCond .ge _ => ax_i1 st fun x r => if 0 ≤ x then k t L r f g cs ss else k (pc + n) L r f g cs ss
  | .ifCond .gt _ => ax_i1 st fun x r => if 0 < x then k t L r f g cs ss else k (pc + n) L r f g cs ss
  | .ifCond .le _ => ax_i1 st fun x r => if x ≤ 0 then k t L r f g cs ss else k (pc + n) L r f g cs ss
  | .if_icmp .eq _ => ax_i2 st fun x y r => if x = y then k t L r f g cs ss else k (pc + n) L r f g cs ss
  | .if_icmp .ne _ => ax_i2 st fun x y r => if x = y then k (pc + n) L r f g cs ss else k t L r f g cs ss
  | .if_icmp .lt _ => ax_i2 st fun x y r => if x < y then k t L r f g cs ss else k (pc + n) L r f g cs ss
  | .if_icmp .ge _ => ax_i2 st fun x y r => if y ≤ x then k t L r f g cs ss else k (pc + n) L r f g cs ss
  | .if_icmp .gt _ => ax_i2 st fun x y r => if y < x then k t L r f g cs ss else k (pc + n) L r f g cs ss
  | .if_icmp .le _ => ax_i2 st fun x y r => if x ≤ y then k t L r f g cs ss else k (pc + n) L r f g cs ss
  | .ifnull _ => ax_v1 st fun x r => ax_nu x (k t L r f g cs ss) (k (pc + n) L r f g cs ss)
  | .ifnonnull _ => ax_v1 st fun x r => ax_nu x (k (pc + n) L r f g cs ss) (k t L r f g cs ss)
  | .tableswitch _ _ _ _ => ax_ob (ax_lk (ax_sws P) pc) fun q => ax_i1 st fun x r => ax_sw q.1 q.2 x fun tt => k tt L r f g cs ss
  | .arraylength => ax_v1 st fun x r => ax_rs x (fun a _ => ax_ob (ax_ka a) fun q => k (pc + n) L (.inl (.int (nI q.2)) :: r) f g cs ss) (fun b => ax_ob (ax_scr P) fun q => ax_gd (Nat.beq b q.1) (k (pc + n) L (.inl (.int (nI q.2.1)) :: r) f g cs ss))
  | .iaload => ax_i1 st fun j r => ax_v1 r fun x r => ax_rs x (fun a i => ax_ob (ax_ka a) fun q => ax_0 q.1 (ax_bd j q.2 fun j => k (pc + n) L (.inl (.int (f a i j)) :: r) f g cs ss)) (fun b => ax_ob (ax_scr P) fun q => ax_gd (Nat.beq b q.1) (ax_bd j q.2.1 fun j => k (pc + n) L (.inl (.int (q.2.2 j)) :: r) f g cs ss))
  | .baload => ax_i1 st fun j r => ax_r1 r fun a i r => ax_ob (ax_ka a) fun q => ax_1 q.1 (ax_bd j q.2 fun j => k (pc + n) L (.inl (.int (f a i j)) :: r) f g cs ss)
  | .laload => ax_i1 st fun j r => ax_r1 r fun a i r => ax_ob (ax_ka a) fun q => ax_2 q.1 (ax_bd j q.2 fun j => k (pc + n) L (.inl (.long (g a i j)) :: r) f g cs ss)
  | .aaload => ax_i1 st fun j r => ax_r1 r fun a i r => ax_ob (ax_ka a) fun q => ax_3 q.1 (ax_bd j q.2 fun j => k (pc + n) L (ax_rv (ax_r0 a i j) :: r) f g cs ss)
  | .iastore => ax_i2 st fun j x r => ax_r1 r fun a i r => ax_ob (ax_ka a) fun q => ax_0 q.1 (ax_bd j q.2 fun j => k (pc + n) L r (ax_up f a i j x) g cs ss)
  | .bastore => ax_i2 st fun j x r => ax_r1 r fun a i r => ax_ob (ax_ka a) fun q => ax_1 q.1 (ax_bd j q.2 fun j => ax_bb x (k (pc + n) L r (ax_up f a i j x) g cs ss))
  | .lastore => ax_l1 st fun x r => ax_i1 r fun j r => ax_r1 r fun a i r => ax_ob (ax_ka a) fun q => ax_2 q.1 (ax_bd j q.2 fun j => k (pc + n) L r f (ax_ug g a i j x) cs ss)
  | .getfield x => ax_r1 st fun a i r => ax_ob (ax_lk (ax_flds P) x) fun q => ax_ob (ax_kc a) fun ca => ax_gd (Nat.beq ca q.1) (k (pc + n) L (ax_fv f g (ax_ft q.1 q.2) a i q.2 :: r) f g cs ss)
  | .putfield x => ax_v1 st fun y r => ax_r1 r fun a i r => ax_ob (ax_lk (ax_flds P) x) fun q => ax_ob (ax_kc a) fun ca => ax_gd (Nat.beq ca q.1) (ax_pf f g (ax_ft q.1 q.2) a i q.2 y fun f g => k (pc + n) L r f g cs ss)
  | .invokevirtual x => ax_ob (ax_lk (ax_calls P) x) fun q => ax_0 q.1 (ax_pop q.2.2.1 st [] fun as r => ax_r1 r fun a i rest => ax_ob (ax_kc a) fun ca => ax_gd (Nat.beq ca q.2.1) (ax_gd (Nat.ble (ax_wd rest) 8) (ax_gd (Nat.ble (cs + q.2.2.2.2.2.1) (ax_mc P)) (ax_gd (Nat.ble (ss + q.2.2.2.2.2.2) (ax_ms P)) (ax_cal q.2.2.2.1 (q.2.2.2.2.1 (.inr (a, i) :: as) f g) (fun e f g => ax_thr (ax_hand P) pc e L f g (cs + q.2.2.2.2.2.1) (ss + q.2.2.2.2.2.2) k) rest (fun s1 f g => k (pc + n) L s1 f g (cs + q.2.2.2.2.2.1) (ss + q.2.2.2.2.2.2)))))))
  | .invokestatic x => ax_ob (ax_lk (ax_calls P) x) fun q => ax_gd (Nat.blt 0 q.1) (ax_pop q.2.2.1 st [] fun as rest => ax_gd (Nat.ble (ax_wd rest) 8) (ax_gd (Nat.ble (cs + q.2.2.2.2.2.1) (ax_mc P)) (ax_gd (Nat.ble (ss + q.2.2.2.2.2.2) (ax_ms P)) (ax_cal q.2.2.2.1 (q.2.2.2.2.1 as f g) (fun e f g => ax_thr (ax_hand P) pc e L f g (cs + q.2.2.2.2.2.1) (ss + q.2.2.2.2.2.2) k) rest (fun s1 f g => k (pc + n) L s1 f g (cs + q.2.2.2.2.2.1) (ss + q.2.2.2.2.2.2))))))
  | .new _ => ax_ob (ax_lk (ax_excs P) pc) fun e => ax_nil (ax_hand P) (ax_gd (Nat.ble (ax_wd st) 8) (ax_gd (Nat.ble (cs + 1) (ax_mc P)) (ax_gd (Nat.ble (ss + 6) (ax_ms P)) (some (.inr e, f, g)))))
  | .return_ => ax_0 (ax_ret P) (ax_nil st (some (.inl none, f, g)))
  | .ireturn => ax_i1 st fun x r => ax_nil r (ax_ir (ax_ret P) x (some (.inl (some (.inl (.int x))), f, g)))
  | .lreturn => ax_l1 st fun x r => ax_nil r (ax_gd (Nat.beq (ax_ret P) 3) (some (.inl (some (.inl (.long x))), f, g)))
  | .dreturn => ax_d1 st fun x r => ax_nil r (ax_gd (Nat.beq (ax_ret P) 4) (some (.inl (some (.inl (.double x))), f, g)))
  | .areturn => ax_v1 st fun x r => ax_nil r (ax_gd (Nat.beq (ax_ret P) 5) (ax_gd (ax_isr x) (some (.inl (some x), f, g))))
  | _ => none
def ax_step (P : ax_P) (pc : Nat) (L : ax_L) (st : List ax_V) (f : ax_F) (g : ax_G) (cs ss : Nat) (k : ax_K) : Option ax_Fin := ax_ob (ax_at (ax_code P) pc) fun q => ax_ins P pc q.2.1 q.2.2.1 q.2.2.2 q.1 L st f g cs ss k
def ax_exec (P : ax_P) : Nat → ax_K
  | 0 => fun _ _ _ _ _ _ _ => none
  | n + 1 => fun pc L st f g cs ss => ax_step P pc (ax_norm P pc L) st f g cs ss (ax_exec P n)
end
section
/-! the small machine's run, free of a counter: it unrolls -/
section AXR
/-- a step asks its continuation at most at one place, and that place doesn't depend on it -/
def ax_fm (F : ax_K → Option ax_Fin) : Prop := (∃ x, ∀ k, F k = x) ∨ ∃ pc L st f g cs ss, ∀ k : ax_K, F k = k pc L st f g cs ss
theorem ax_fm_c (x : Option ax_Fin) : ax_fm (fun _ => x) := Or.inl ⟨x, fun _ => rfl⟩
theorem ax_fm_k (pc L st f g cs ss) : ax_fm (fun k => k pc L st f g cs ss) := Or.inr ⟨pc, L, st, f, g, cs, ss, fun _ => rfl⟩
theorem ax_fm_ite {c : Prop} [Decidable c] {A B : ax_K → Option ax_Fin} (a : ax_fm A) (b : ax_fm B) : ax_fm (fun k => if c then A k else B k) := by
  by_cases h : c
  · simp only [h, if_true]; exact a
  · simp only [h, if_false]; exact b
theorem ax_fm_ob {α : Type} (o : Option α) {A : α → ax_K → Option ax_Fin} (a : ∀ x, ax_fm (A x)) : ax_fm (fun k => ax_ob o fun x => A x k) := by
  cases o with
  | none => exact ax_fm_c none
  | some x => exact a x
theorem ax_fm_gd (b : Bool) {A : ax_K → Option ax_Fin} (a : ax_fm A) : ax_fm (fun k => ax_gd b (A k)) := by
  cases b with
  | false => exact ax_fm_c none
  | true => exact a
theorem ax_fm_bd (j len) {A : Nat → ax_K → Option ax_Fin} (a : ∀ x, ax_fm (A x)) : ax_fm (fun k => ax_bd j len fun x => A x k) := ax_fm_ite (ax_fm_c none) (a _)
theorem ax_fm_bb (x) {A : ax_K → Option ax_Fin} (a : ax_fm A) : ax_fm (fun k => ax_bb x (A k)) := ax_fm_ite a (ax_fm_c none)
theorem ax_fm_v1 (st) {A : ax_V → List ax_V → ax_K → Option ax_Fin} (a : ∀ x r, ax_fm (A x r)) : ax_fm (fun k => ax_v1 st fun x r => A x r k) := by
  cases st with
  | nil => exact ax_fm_c none
  | cons x r => exact a x r
theorem ax_fm_r1 (st) {A : Nat → Nat → List ax_V → ax_K → Option ax_Fin} (a : ∀ x y r, ax_fm (A x y r)) : ax_fm (fun k => ax_r1 st fun x y r => A x y r k) := by
  rcases st with _ | ⟨v | ⟨x, y⟩, r⟩
  · exact ax_fm_c none
  · exact ax_fm_c none
  · exact a x y r
theorem ax_fm_i1 (st) {A : Int32 → List ax_V → ax_K → Option ax_Fin} (a : ∀ x r, ax_fm (A x r)) : ax_fm (fun k => ax_i1 st fun x r => A x r k) := by
  rcases st with _ | ⟨v | q, r⟩
  · exact ax_fm_c none
  · cases v <;> first | exact a _ r | exact ax_fm_c none
  · exact ax_fm_c none
theorem ax_fm_l1 (st) {A : Int64 → List ax_V → ax_K → Option ax_Fin} (a : ∀ x r, ax_fm (A x r)) : ax_fm (fun k => ax_l1 st fun x r => A x r k) := by
  rcases st with _ | ⟨v | q, r⟩
  · exact ax_fm_c none
  · cases v <;> first | exact a _ r | exact ax_fm_c none
  · exact ax_fm_c none
theorem ax_fm_d1 (st) {A : UInt64 → List ax_V → ax_K → Option ax_Fin} (a : ∀ x r, ax_fm (A x r)) : ax_fm (fun k => ax_d1 st fun x r => A x r k) := by
  rcases st with _ | ⟨v | q, r⟩
  · exact ax_fm_c none
  · cases v <;> first | exact a _ r | exact ax_fm_c none
  · exact ax_fm_c none
theorem ax_fm_i2 (st) {A : Int32 → Int32 → List ax_V → ax_K → Option ax_Fin} (a : ∀ x y r, ax_fm (A x y r)) : ax_fm (fun k => ax_i2 st fun x y r => A x y r k) := by
  rcases st with _ | ⟨v | q, _ | ⟨w | q2, r⟩⟩
  · exact ax_fm_c none
  · cases v <;> exact ax_fm_c none
  · cases v <;> cases w <;> first | exact a _ _ r | exact ax_fm_c none
  · cases v <;> exact ax_fm_c none
  · exact ax_fm_c none
  · exact ax_fm_c none
  · exact ax_fm_c none
theorem ax_fm_l2 (st) {A : Int64 → Int64 → List ax_V → ax_K → Option ax_Fin} (a : ∀ x y r, ax_fm (A x y r)) : ax_fm (fun k => ax_l2 st fun x y r => A x y r k) := by
  rcases st with _ | ⟨v | q, _ | ⟨w | q2, r⟩⟩
  · exact ax_fm_c none
  · cases v <;> exact ax_fm_c none
  · cases v <;> cases w <;> first | exact a _ _ r | exact ax_fm_c none
  · cases v <;> exact ax_fm_c none
  · exact ax_fm_c none
  · exact ax_fm_c none
  · exact ax_fm_c none
theorem ax_fm_d2 (st) {A : UInt64 → UInt64 → List ax_V → ax_K → Option ax_Fin} (a : ∀ x y r, ax_fm (A x y r)) : ax_fm (fun k => ax_d2 st fun x y r => A x y r k) := by
  rcases st with _ | ⟨v | q, _ | ⟨w | q2, r⟩⟩
  · exact ax_fm_c none
  · cases v <;> exact ax_fm_c none
  · cases v <;> cases w <;> first | exact a _ _ r | exact ax_fm_c none
  · cases v <;> exact ax_fm_c none
  · exact ax_fm_c none
  · exact ax_fm_c none
  · exact ax_fm_c none
theorem ax_fm_oi (o) {A : Int32 → ax_K → Option ax_Fin} (a : ∀ x, ax_fm (A x)) : ax_fm (fun k => ax_oi o fun x => A x k) := by
  rcases o with _ | v | q
  · exact ax_fm_c none
  · cases v <;> first | exact a _ | exact ax_fm_c none
  · exact ax_fm_c none
theorem ax_fm_ol (o) {A : Int64 → ax_K → Option ax_Fin} (a : ∀ x, ax_fm (A x)) : ax_fm (fun k => ax_ol o fun x => A x k) := by
  rcases o with _ | v | q
  · exact ax_fm_c none
  · cases v <;> first | exact a _ | exact ax_fm_c none
  · exact ax_fm_c none
theorem ax_fm_od (o) {A : UInt64 → ax_K → Option ax_Fin} (a : ∀ x, ax_fm (A x)) : ax_fm (fun k => ax_od o fun x => A x k) := by
  rcases o with _ | v | q
  · exact ax_fm_c none
  · cases v <;> first | exact a _ | exact ax_fm_c none
  · exact ax_fm_c none
theorem ax_fm_nu (v) {A B : ax_K → Option ax_Fin} (a : ax_fm A) (b : ax_fm B) : ax_fm (fun k => ax_nu v (A k) (B k)) := by
  rcases v with v | q
  · cases v <;> first | exact a | exact ax_fm_c none
  · exact b
theorem ax_fm_rs (v) {A : Nat → Nat → ax_K → Option ax_Fin} {B : Nat → ax_K → Option ax_Fin} (a : ∀ x y, ax_fm (A x y)) (b : ∀ x, ax_fm (B x)) : ax_fm (fun k => ax_rs v (fun x y => A x y k) (fun x => B x k)) := by
  rcases v with v | ⟨x, y⟩
  · cases v <;> first | exact b _ | exact ax_fm_c none
  · exact a x y
theorem ax_fm_0 (n) {A : ax_K → Option ax_Fin} (a : ax_fm A) : ax_fm (fun k => ax_0 n (A k)) := by
  rcases n with _ | n
  · exact a
  · exact ax_fm_c none
theorem ax_fm_1 (n) {A : ax_K → Option ax_Fin} (a : ax_fm A) : ax_fm (fun k => ax_1 n (A k)) := by
  rcases n with _ | _ | n
  · exact ax_fm_c none
  · exact a
  · exact ax_fm_c none
theorem ax_fm_2 (n) {A : ax_K → Option ax_Fin} (a : ax_fm A) : ax_fm (fun k => ax_2 n (A k)) := by
  rcases n with _ | _ | _ | n
  · exact ax_fm_c none
  · exact ax_fm_c none
  · exact a
  · exact ax_fm_c none
theorem ax_fm_3 (n) {A : ax_K → Option ax_Fin} (a : ax_fm A) : ax_fm (fun k => ax_3 n (A k)) := by
  rcases n with _ | _ | _ | n
  · exact ax_fm_c none
  · exact ax_fm_c none
  · exact ax_fm_c none
  · exact a
theorem ax_fm_nil {α : Type} (l : List α) {A : ax_K → Option ax_Fin} (a : ax_fm A) : ax_fm (fun k => ax_nil l (A k)) := by
  cases l with
  | nil => exact a
  | cons x r => exact ax_fm_c none
theorem ax_fm_sw (l d x) {A : Nat → ax_K → Option ax_Fin} (a : ∀ t, ax_fm (A t)) : ax_fm (fun k => ax_sw l d x fun t => A t k) := by
  induction l with
  | nil => exact a d
  | cons q r ih => exact ax_fm_ite (a _) ih
theorem ax_fm_pop (n) : ∀ (st as : List ax_V) {A : List ax_V → List ax_V → ax_K → Option ax_Fin}, (∀ x y, ax_fm (A x y)) → ax_fm (fun k => ax_pop n st as fun x y => A x y k) := by
  induction n with
  | zero => intro st as A a; cases st <;> exact a _ _
  | succ n ih =>
    intro st as A a
    cases st with
    | nil => exact ax_fm_c none
    | cons v st => exact ih st (v :: as) a
theorem ax_fm_thr (h pc e L f g cs ss) : ax_fm (fun k => ax_thr h pc e L f g cs ss k) := by
  induction h with
  | nil => exact ax_fm_c _
  | cons q r ih =>
    obtain ⟨a, b, x, n, t⟩ := q
    show ax_fm (fun k => bif Nat.ble a pc && Nat.blt pc b then (bif Nat.beq x e then k t (ax_kl L n) [] f g cs ss else bif ax_xd x e then ax_thr r pc e L f g cs ss k else none) else ax_thr r pc e L f g cs ss k)
    cases (Nat.ble a pc && Nat.blt pc b) with
    | false => exact ih
    | true =>
      cases Nat.beq x e with
      | true => exact ax_fm_k _ _ _ _ _ _ _
      | false =>
        cases ax_xd x e with
        | true => exact ih
        | false => exact ax_fm_c none
theorem ax_fm_pf (f g ty k0 i j v) {A : ax_F → ax_G → ax_K → Option ax_Fin} (a : ∀ x y, ax_fm (A x y)) : ax_fm (fun k => ax_pf f g ty k0 i j v fun x y => A x y k) := by
  rcases v with v | q
  · rcases ty with _ | _ | _ | ty
    · cases v <;> first | exact a _ _ | exact ax_fm_c none
    · cases v <;> first | exact ax_fm_bb _ (a _ _) | exact ax_fm_c none
    · cases v <;> first | exact a _ _ | exact ax_fm_c none
    · cases v <;> exact ax_fm_c none
  · rcases ty with _ | _ | _ | ty <;> exact ax_fm_c none
theorem ax_fm_cal (rt r rest) {X : Nat → ax_F → ax_G → ax_K → Option ax_Fin} {A : List ax_V → ax_F → ax_G → ax_K → Option ax_Fin} (x : ∀ e f g, ax_fm (X e f g)) (a : ∀ s f g, ax_fm (A s f g)) : ax_fm (fun k => ax_cal rt r (fun e f g => X e f g k) rest (fun s f g => A s f g k)) := by
  rcases r with _ | ⟨(_ | v) | e, f, g⟩
  · rcases rt with _ | _ | _ | _ | _ | rt <;> exact ax_fm_c none
  · rcases rt with _ | _ | _ | _ | _ | rt <;> first | exact a _ _ _ | exact ax_fm_c none
  · rcases v with v | q
    · rcases rt with _ | _ | _ | _ | _ | rt
      · exact ax_fm_c none
      · cases v <;> first | exact a _ _ _ | exact ax_fm_c none
      · cases v <;> first | exact a _ _ _ | exact ax_fm_c none
      · cases v <;> first | exact a _ _ _ | exact ax_fm_c none
      · cases v <;> first | exact a _ _ _ | exact ax_fm_c none
      · cases v <;> first | exact a _ _ _ | exact ax_fm_c none
    · rcases rt with _ | _ | _ | _ | _ | rt <;> first | exact a _ _ _ | exact ax_fm_c none
  · rcases rt with _ | _ | _ | _ | _ | rt <;> exact x e f g
set_option maxHeartbeats 4000000 in
theorem ax_fm_ins (P pc n t v i L st f g cs ss) : ax_fm (fun k => ax_ins P pc n t v i L st f g cs ss k) := by
  cases i
  case ifCond c o => cases c <;> exact ax_fm_i1 _ fun _ _ => ax_fm_ite (ax_fm_k _ _ _ _ _ _ _) (ax_fm_k _ _ _ _ _ _ _)
  case if_icmp c o => cases c <;> exact ax_fm_i2 _ fun _ _ _ => ax_fm_ite (ax_fm_k _ _ _ _ _ _ _) (ax_fm_k _ _ _ _ _ _ _)
  case invokevirtual x => exact ax_fm_ob _ fun _ => ax_fm_0 _ (ax_fm_pop _ _ _ fun _ _ => ax_fm_r1 _ fun _ _ _ => ax_fm_ob _ fun _ => ax_fm_gd _ (ax_fm_gd _ (ax_fm_gd _ (ax_fm_gd _ (ax_fm_cal _ _ _ (fun _ _ _ => ax_fm_thr _ _ _ _ _ _ _ _) (fun _ _ _ => ax_fm_k _ _ _ _ _ _ _))))))
  case invokestatic x => exact ax_fm_ob _ fun _ => ax_fm_gd _ (ax_fm_pop _ _ _ fun _ _ => ax_fm_gd _ (ax_fm_gd _ (ax_fm_gd _ (ax_fm_cal _ _ _ (fun _ _ _ => ax_fm_thr _ _ _ _ _ _ _ _) (fun _ _ _ => ax_fm_k _ _ _ _ _ _ _)))))
  case putfield x => exact ax_fm_v1 _ fun _ _ => ax_fm_r1 _ fun _ _ _ => ax_fm_ob _ fun _ => ax_fm_ob _ fun _ => ax_fm_gd _ (ax_fm_pf _ _ _ _ _ _ _ fun _ _ => ax_fm_k _ _ _ _ _ _ _)
  case getfield x => exact ax_fm_r1 _ fun _ _ _ => ax_fm_ob _ fun _ => ax_fm_ob _ fun _ => ax_fm_gd _ (ax_fm_k _ _ _ _ _ _ _)
  case tableswitch => exact ax_fm_ob _ fun _ => ax_fm_i1 _ fun _ _ => ax_fm_sw _ _ _ fun _ => ax_fm_k _ _ _ _ _ _ _
  case arraylength => exact ax_fm_v1 _ fun _ _ => ax_fm_rs _ (fun _ _ => ax_fm_ob _ fun _ => ax_fm_k _ _ _ _ _ _ _) (fun _ => ax_fm_ob _ fun _ => ax_fm_gd _ (ax_fm_k _ _ _ _ _ _ _))
  case iaload => exact ax_fm_i1 _ fun _ _ => ax_fm_v1 _ fun _ _ => ax_fm_rs _ (fun _ _ => ax_fm_ob _ fun _ => ax_fm_0 _ (ax_fm_bd _ _ fun _ => ax_fm_k _ _ _ _ _ _ _)) (fun _ => ax_fm_ob _ fun _ => ax_fm_gd _ (ax_fm_bd _ _ fun _ => ax_fm_k _ _ _ _ _ _ _))
  case baload => exact ax_fm_i1 _ fun _ _ => ax_fm_r1 _ fun _ _ _ => ax_fm_ob _ fun _ => ax_fm_1 _ (ax_fm_bd _ _ fun _ => ax_fm_k _ _ _ _ _ _ _)
  case laload => exact ax_fm_i1 _ fun _ _ => ax_fm_r1 _ fun _ _ _ => ax_fm_ob _ fun _ => ax_fm_2 _ (ax_fm_bd _ _ fun _ => ax_fm_k _ _ _ _ _ _ _)
  case aaload => exact ax_fm_i1 _ fun _ _ => ax_fm_r1 _ fun _ _ _ => ax_fm_ob _ fun _ => ax_fm_3 _ (ax_fm_bd _ _ fun _ => ax_fm_k _ _ _ _ _ _ _)
  case iastore => exact ax_fm_i2 _ fun _ _ _ => ax_fm_r1 _ fun _ _ _ => ax_fm_ob _ fun _ => ax_fm_0 _ (ax_fm_bd _ _ fun _ => ax_fm_k _ _ _ _ _ _ _)
  case bastore => exact ax_fm_i2 _ fun _ _ _ => ax_fm_r1 _ fun _ _ _ => ax_fm_ob _ fun _ => ax_fm_1 _ (ax_fm_bd _ _ fun _ => ax_fm_bb _ (ax_fm_k _ _ _ _ _ _ _))
  case lastore => exact ax_fm_l1 _ fun _ _ => ax_fm_i1 _ fun _ _ => ax_fm_r1 _ fun _ _ _ => ax_fm_ob _ fun _ => ax_fm_2 _ (ax_fm_bd _ _ fun _ => ax_fm_k _ _ _ _ _ _ _)
  case ifnull => exact ax_fm_v1 _ fun _ _ => ax_fm_nu _ (ax_fm_k _ _ _ _ _ _ _) (ax_fm_k _ _ _ _ _ _ _)
  case ifnonnull => exact ax_fm_v1 _ fun _ _ => ax_fm_nu _ (ax_fm_k _ _ _ _ _ _ _) (ax_fm_k _ _ _ _ _ _ _)
  case dup2 => exact ax_fm_v1 _ fun _ _ => ax_fm_v1 _ fun _ _ => ax_fm_gd _ (ax_fm_gd _ (ax_fm_k _ _ _ _ _ _ _))
  case astore => exact ax_fm_v1 _ fun _ _ => ax_fm_gd _ (ax_fm_gd _ (ax_fm_k _ _ _ _ _ _ _))
  case astore_n => exact ax_fm_v1 _ fun _ _ => ax_fm_gd _ (ax_fm_gd _ (ax_fm_k _ _ _ _ _ _ _))
  case aload => exact ax_fm_ob _ fun _ => ax_fm_gd _ (ax_fm_k _ _ _ _ _ _ _)
  case aload_n => exact ax_fm_ob _ fun _ => ax_fm_gd _ (ax_fm_k _ _ _ _ _ _ _)
  all_goals first
    | exact ax_fm_c _
    | exact ax_fm_k _ _ _ _ _ _ _
    | exact ax_fm_i2 _ fun _ _ _ => ax_fm_k _ _ _ _ _ _ _
    | exact ax_fm_i2 _ fun _ _ _ => ax_fm_ite (ax_fm_c _) (ax_fm_k _ _ _ _ _ _ _)
    | exact ax_fm_i1 _ fun _ _ => ax_fm_k _ _ _ _ _ _ _
    | exact ax_fm_l2 _ fun _ _ _ => ax_fm_k _ _ _ _ _ _ _
    | exact ax_fm_d2 _ fun _ _ _ => ax_fm_k _ _ _ _ _ _ _
    | exact ax_fm_d2 _ fun _ _ _ => ax_fm_ite (ax_fm_k _ _ _ _ _ _ _) (ax_fm_c _)
    | exact ax_fm_oi _ fun _ => ax_fm_k _ _ _ _ _ _ _
    | exact ax_fm_ol _ fun _ => ax_fm_k _ _ _ _ _ _ _
    | exact ax_fm_od _ fun _ => ax_fm_k _ _ _ _ _ _ _
    | exact ax_fm_oi _ fun _ => ax_fm_gd _ (ax_fm_k _ _ _ _ _ _ _)
    | exact ax_fm_ob _ fun _ => ax_fm_k _ _ _ _ _ _ _
    | exact ax_fm_gd _ (ax_fm_k _ _ _ _ _ _ _)
    | exact ax_fm_i1 _ fun _ _ => ax_fm_gd _ (ax_fm_k _ _ _ _ _ _ _)
    | exact ax_fm_l1 _ fun _ _ => ax_fm_gd _ (ax_fm_k _ _ _ _ _ _ _)
    | exact ax_fm_d1 _ fun _ _ => ax_fm_gd _ (ax_fm_k _ _ _ _ _ _ _)
    | exact ax_fm_v1 _ fun _ _ => ax_fm_gd _ (ax_fm_k _ _ _ _ _ _ _)
theorem ax_fm_step (P pc L st f g cs ss) : ax_fm (fun k => ax_step P pc L st f g cs ss k) := ax_fm_ob _ fun _ => ax_fm_ins _ _ _ _ _ _ _ _ _ _ _ _
theorem ax_stp (P pc L st f g cs ss) : (∃ x, ∀ k, ax_step P pc L st f g cs ss k = x) ∨ ∃ pc' L' st' f' g' cs' ss', ∀ k : ax_K, ax_step P pc L st f g cs ss k = k pc' L' st' f' g' cs' ss' := ax_fm_step P pc L st f g cs ss
theorem ax_kill_kill (n : Nat) (L : ax_L) : ax_kill n (ax_kill n L) = ax_kill n L := by
  induction L generalizing n with
  | nil => cases n <;> rfl
  | cons a l ih =>
    cases n with
    | zero => show none :: ax_kill 0 (ax_kill 0 l) = none :: ax_kill 0 l; rw [ih]
    | succ n => show a :: ax_kill n (ax_kill n l) = a :: ax_kill n l; rw [ih]
theorem ax_norm_norm (P : ax_P) (pc : Nat) (L : ax_L) : ax_norm P pc (ax_norm P pc L) = ax_norm P pc L := by
  unfold ax_norm
  cases ax_lk (ax_live P) pc with
  | none => rfl
  | some n => exact ax_kill_kill n L
theorem ax_exec_succ (P : ax_P) (n pc L st f g cs ss) : ax_exec P (n + 1) pc L st f g cs ss = ax_step P pc (ax_norm P pc L) st f g cs ss (ax_exec P n) := rfl
theorem ax_exec_up (P : ax_P) : ∀ (n pc L st f g cs ss r), ax_exec P n pc L st f g cs ss = some r → ax_exec P (n + 1) pc L st f g cs ss = some r := by
  intro n
  induction n with
  | zero => intro pc L st f g cs ss r h; cases h
  | succ n ih =>
    intro pc L st f g cs ss r h
    rw [ax_exec_succ] at h ⊢
    rcases ax_stp P pc (ax_norm P pc L) st f g cs ss with ⟨x, hx⟩ | ⟨a, b, c, d, e, i, j, hx⟩
    · rw [hx] at h ⊢; exact h
    · rw [hx] at h ⊢; exact ih _ _ _ _ _ _ _ _ h
theorem ax_exec_le (P : ax_P) {n m : Nat} (hm : n ≤ m) {pc L st f g cs ss r} (h : ax_exec P n pc L st f g cs ss = some r) : ax_exec P m pc L st f g cs ss = some r := by
  induction hm with
  | refl => exact h
  | step _ ih => exact ax_exec_up P _ _ _ _ _ _ _ _ _ ih
/-- the run: what it comes to, if it ends -/
noncomputable def ax_run (P : ax_P) : ax_K := fun pc L st f g cs ss => (Classical.epsilon (fun o : Option ax_Fin => (∃ n r, ax_exec P n pc L st f g cs ss = some r ∧ o = some r) ∨ ((∀ n, ax_exec P n pc L st f g cs ss = none) ∧ o = none)))
theorem ax_run_spec (P : ax_P) (pc L st f g cs ss) : (∃ n r, ax_exec P n pc L st f g cs ss = some r ∧ ax_run P pc L st f g cs ss = some r) ∨ ((∀ n, ax_exec P n pc L st f g cs ss = none) ∧ ax_run P pc L st f g cs ss = none) := by
  have h : ∃ o : Option ax_Fin, (∃ n r, ax_exec P n pc L st f g cs ss = some r ∧ o = some r) ∨ ((∀ n, ax_exec P n pc L st f g cs ss = none) ∧ o = none) := by
    by_cases h : ∃ n r, ax_exec P n pc L st f g cs ss = some r
    · obtain ⟨n, r, h⟩ := h
      exact ⟨some r, Or.inl ⟨n, r, h, rfl⟩⟩
    · refine ⟨none, Or.inr ⟨fun n => ?_, rfl⟩⟩
      cases e : ax_exec P n pc L st f g cs ss with
      | none => rfl
      | some r => exact absurd ⟨n, r, e⟩ h
  exact Classical.epsilon_spec h
theorem ax_run_of (P : ax_P) {n pc L st f g cs ss r} (h : ax_exec P n pc L st f g cs ss = some r) : ax_run P pc L st f g cs ss = some r := by
  rcases ax_run_spec P pc L st f g cs ss with ⟨m, r', h1, h2⟩ | ⟨h1, -⟩
  · rw [h2]
    have a := ax_exec_le P (Nat.le_max_left n m) h
    have b := ax_exec_le P (Nat.le_max_right n m) h1
    exact b.symm.trans a
  · rw [h1 n] at h; cases h
theorem ax_of_run (P : ax_P) {pc L st f g cs ss r} (h : ax_run P pc L st f g cs ss = some r) : ∃ n, ax_exec P n pc L st f g cs ss = some r := by
  rcases ax_run_spec P pc L st f g cs ss with ⟨m, r', h1, h2⟩ | ⟨-, h2⟩
  · rw [h2] at h; cases h; exact ⟨m, h1⟩
  · rw [h2] at h; cases h
/-- it unrolls -/
theorem ax_run_step (P : ax_P) (pc L st f g cs ss) : ax_run P pc L st f g cs ss = ax_step P pc (ax_norm P pc L) st f g cs ss (ax_run P) := by
  rcases ax_stp P pc (ax_norm P pc L) st f g cs ss with ⟨x, hx⟩ | ⟨a, b, c, d, e, i, j, hx⟩
  · rw [hx]
    cases x with
    | some r => exact ax_run_of P (n := 1) (by rw [ax_exec_succ, hx])
    | none =>
      rcases ax_run_spec P pc L st f g cs ss with ⟨m, r', h1, -⟩ | ⟨-, h2⟩
      · cases m with
        | zero => cases h1
        | succ m => rw [ax_exec_succ, hx] at h1; cases h1
      · exact h2
  · rw [hx]
    rcases ax_run_spec P a b c d e i j with ⟨m, r, h1, h2⟩ | ⟨h1, h2⟩
    · rw [h2]
      exact ax_run_of P (n := m + 1) (by rw [ax_exec_succ, hx]; exact h1)
    · rw [h2]
      rcases ax_run_spec P pc L st f g cs ss with ⟨m, r', h3, -⟩ | ⟨-, h4⟩
      · cases m with
        | zero => cases h3
        | succ m => rw [ax_exec_succ, hx, h1] at h3; cases h3
      · exact h4
theorem ax_run_norm (P : ax_P) (pc L st f g cs ss) : ax_run P pc L st f g cs ss = ax_run P pc (ax_norm P pc L) st f g cs ss := by
  rw [ax_run_step P pc L, ax_run_step P pc (ax_norm P pc L), ax_norm_norm]
/-- on to the next heads of loops, at most n steps -/
def ax_segc (P : ax_P) (run : ax_K) : Nat → ax_K
  | 0 => fun pc L st f g cs ss => run pc (ax_norm P pc L) st f g cs ss
  | n + 1 => fun pc L st f g cs ss => match ax_lk (ax_live P) pc with
    | some m => run pc (ax_kill m L) st f g cs ss
    | none => ax_step P pc L st f g cs ss (ax_segc P run n)
def ax_seg (P : ax_P) (run : ax_K) (n : Nat) : ax_K := fun pc L st f g cs ss => ax_step P pc (ax_norm P pc L) st f g cs ss (ax_segc P run n)
theorem ax_run_segc (P : ax_P) : ∀ (n pc L st f g cs ss), ax_run P pc L st f g cs ss = ax_segc P (ax_run P) n pc L st f g cs ss := by
  intro n
  induction n with
  | zero => intro pc L st f g cs ss; exact ax_run_norm P pc L st f g cs ss
  | succ n ih =>
    intro pc L st f g cs ss
    have hn : ax_norm P pc L = match ax_lk (ax_live P) pc with | some n => ax_kill n L | none => L := rfl
    unfold ax_segc
    cases e : ax_lk (ax_live P) pc with
    | some m =>
      rw [ax_run_norm, hn, e]
    | none =>
      rw [ax_run_step, hn, e]
      show ax_step P pc L st f g cs ss (ax_run P) = ax_step P pc L st f g cs ss (ax_segc P (ax_run P) n)
      have : ax_run P = ax_segc P (ax_run P) n := by
        funext a b c d e i j
        exact ih a b c d e i j
      exact congrArg _ this
theorem ax_run_seg (P : ax_P) (n pc L st f g cs ss) : ax_run P pc L st f g cs ss = ax_seg P (ax_run P) n pc L st f g cs ss := by
  rw [ax_run_step]
  have : ax_run P = ax_segc P (ax_run P) n := by
    funext a b c d e i j
    exact ax_run_segc P n a b c d e i j
  exact congrArg _ this
/-- arguments as locals -/
def ax_loc : Nat → List ax_V → ax_L
  | n, [] => List.replicate n none
  | n, v :: l => bif ax_two v then some v :: none :: ax_loc (n - 2) l else some v :: ax_loc (n - 1) l
/-- what a method means -/
noncomputable def ax_sem (P : ax_P) (nL : Nat) : ax_S := fun as f g => ax_gd (Nat.ble (ax_wd as) nL) (ax_run P 0 (ax_loc nL as) [] f g 0 0)
end AXR
end
section
/-! the world: where each thing lies, what the heap holds of the numbers -/
section AXW
/-- all things, in the order in which they are made -/
def ax_all : List (Nat × Nat) := [(0, 0), (1, 0), (2, 0), (4, 0)] ++ (List.range 12).map (fun i => (3, i)) ++ (List.range 20).flatMap (fun i => [(5, i), (6, i)]) ++ [(7, 0), (8, 0)] ++ (List.range 6).flatMap (fun i => [(9, i), (10, i)]) ++ [(7, 1), (8, 1)] ++ (List.range 6).flatMap (fun i => [(9, 6 + i), (10, 6 + i)]) ++ [(11, 0)] ++ (List.range 4).flatMap (fun i => [(12, i), (13, i)]) ++ [(14, 0), (15, 0), (16, 0), (17, 0), (18, 0), (19, 0)] ++ (List.range 19).map (fun i => (29 + i, 0)) ++ [(49, 0)] ++ (List.range 6).map (fun i => (54 + i, 0)) ++ [(60, 0)]
theorem ax_all_len : ax_all.length = 126 := by decide +kernel
theorem ax_all_idx : ∀ i, i < 126 → ∀ q, ax_all[i]? = some q → ax_all.idxOf q = i := by decide +kernel
def ax_ad (base : Nat) (q : Nat × Nat) : Nat := base + ax_all.idxOf q
def ax_c (base : Nat) (v : ax_V) : Value := match v with
  | .inl x => x
  | .inr q => .ref (ax_ad base q)
def ax_ok (v : ax_V) : Prop := match v with
  | .inl _ => True
  | .inr q => q ∈ ax_all
def ax_A (base : Nat) : Nat → Prop := fun q => base ≤ q
def ax_nf (ci : Nat) : Nat := match ci with
  | 0 => 6 | 1 => 3 | 2 => 4 | 3 => 3 | 4 => 9 | 5 => 5 | 6 => 5 | 7 => 5 | 8 => 6 | 9 => 7 | 10 => 41
  | _ => 0
def ax_row (base : Nat) (f : ax_F) (g : ax_G) (t : Nat) (q : Nat × Nat) : (Nat → Int32) ⊕ (Nat → Int64) ⊕ (Nat → UInt32) ⊕ (Nat → UInt64) ⊕ (Nat → Option Nat) := match t with
  | 0 => .inl (f q.1 q.2)
  | 1 => .inl (f q.1 q.2)
  | 2 => .inr (.inl (g q.1 q.2))
  | _ => .inr (.inr (.inr (.inr (fun j => (ax_r0 q.1 q.2 j).map (ax_ad base)))))
def ax_obj (base : Nat) (f : ax_F) (g : ax_G) (ci : Nat) (q : Nat × Nat) : List Value := (List.range (ax_nf ci)).map (fun j => ax_c base (ax_fv f g (ax_ft ci j) q.1 q.2 j))
def ax_cell (base : Nat) (cA : Nat → ClassId) (f : ax_F) (g : ax_G) (q : Nat × Nat) : va_E := match ax_ka q.1 with
  | some (t, n) => .inl (cA t, n, ax_row base f g t q)
  | none => .inr ((ax_kc q.1).getD 0, ax_obj base f g ((ax_kc q.1).getD 0) q)
def ax_ws (base : Nat) (cA : Nat → ClassId) (f : ax_F) (g : ax_G) : va_W := ax_all.map (fun q => (ax_ad base q, ax_cell base cA f g q))
theorem ax_mem_idx : ∀ (l : List (Nat × Nat)) (q : Nat × Nat), q ∈ l → l[l.idxOf q]? = some q := by
  intro l
  induction l with
  | nil => intro q h; cases h
  | cons a l ih =>
    intro q h
    rw [List.idxOf_cons]
    by_cases e : a == q
    · rw [e]
      have : a = q := by simpa using e
      subst this
      rfl
    · have hne : ¬ a = q := by simpa using e
      have e' : (a == q) = false := by simpa using e
      rw [e']
      rcases List.mem_cons.mp h with h | h
      · exact absurd h.symm hne
      · exact ih q h
theorem ax_ws_get (base cA f g) {q : Nat × Nat} (h : q ∈ ax_all) : (ax_ws base cA f g)[ax_all.idxOf q]? = some (ax_ad base q, ax_cell base cA f g q) := by
  unfold ax_ws
  rw [List.getElem?_map, ax_mem_idx _ _ h]
  rfl
theorem ax_ws_inv (base cA f g) {i : Nat} {p : Nat × va_E} (h : (ax_ws base cA f g)[i]? = some p) : ∃ q, q ∈ ax_all ∧ ax_all[i]? = some q ∧ p = (base + i, ax_cell base cA f g q) := by
  unfold ax_ws at h
  rw [List.getElem?_map] at h
  cases e : ax_all[i]? with
  | none => rw [e] at h; cases h
  | some q =>
    rw [e] at h
    have hi : i < 126 := by
      have := (List.getElem?_eq_some_iff.mp e).1
      rw [ax_all_len] at this
      exact this
    refine ⟨q, List.mem_of_getElem? e, rfl, ?_⟩
    have h2 : (ax_ad base q, ax_cell base cA f g q) = p := Option.some.inj h
    rw [← h2]
    unfold ax_ad
    rw [ax_all_idx i hi q e]
theorem ax_ws_D (base cA f g) : va_D (ax_A base) (ax_ws base cA f g) := by
  refine ⟨fun i j p q hp hq e => ?_, fun k q h => ?_⟩
  · obtain ⟨a, -, -, rfl⟩ := ax_ws_inv base cA f g hp
    obtain ⟨b, -, -, rfl⟩ := ax_ws_inv base cA f g hq
    have : base + i = base + j := e
    omega
  · obtain ⟨a, -, -, rfl⟩ := ax_ws_inv base cA f g h
    exact Nat.le_add_right _ _
/-- one thing has changed -/
theorem ax_ws_set (base cA f g f' g') {q : Nat × Nat} (hq : q ∈ ax_all) (ho : ∀ q', q' ≠ q → ax_cell base cA f' g' q' = ax_cell base cA f g q') : (ax_ws base cA f g).set (ax_all.idxOf q) (ax_ad base q, ax_cell base cA f' g' q) = ax_ws base cA f' g' := by
  apply List.ext_getElem?
  intro i
  rw [List.getElem?_set]
  have hl : ax_all.idxOf q < (ax_ws base cA f g).length := by
    unfold ax_ws
    rw [List.length_map]
    exact List.idxOf_lt_length_iff.mpr hq
  by_cases e : ax_all.idxOf q = i
  · rw [if_pos e, if_pos (e ▸ hl), ← e, ax_ws_get base cA f' g' hq]
  · rw [if_neg e]
    unfold ax_ws
    rw [List.getElem?_map, List.getElem?_map]
    cases h : ax_all[i]? with
    | none => rfl
    | some q' =>
      have hi : i < 126 := by
        have := (List.getElem?_eq_some_iff.mp h).1
        rw [ax_all_len] at this
        exact this
      have hne : q' ≠ q := fun c => e (by rw [← c]; exact ax_all_idx i hi q' h)
      show some (ax_ad base q', ax_cell base cA f g q') = some (ax_ad base q', ax_cell base cA f' g' q')
      rw [ho q' hne]
theorem ax_up_o (f : ax_F) {k i j : Nat} {x : Int32} {k' i' : Nat} (h : (k', i') ≠ (k, i)) : (ax_up f k i j x) k' i' = f k' i' := by
  funext j'
  unfold ax_up
  rw [if_neg]
  rintro ⟨rfl, rfl, -⟩
  exact h rfl
theorem ax_ug_o (g : ax_G) {k i j : Nat} {x : Int64} {k' i' : Nat} (h : (k', i') ≠ (k, i)) : (ax_ug g k i j x) k' i' = g k' i' := by
  funext j'
  unfold ax_ug
  rw [if_neg]
  rintro ⟨rfl, rfl, -⟩
  exact h rfl
theorem ax_cell_c (base cA f g f' g') {q : Nat × Nat} (hf : f' q.1 q.2 = f q.1 q.2) (hg : g' q.1 q.2 = g q.1 q.2) : ax_cell base cA f' g' q = ax_cell base cA f g q := by
  unfold ax_cell ax_row ax_obj ax_fv
  rw [hf, hg]
theorem ax_cell_f (base cA f g) {k i j : Nat} {x : Int32} : ∀ q', q' ≠ (k, i) → ax_cell base cA (ax_up f k i j x) g q' = ax_cell base cA f g q' := fun q' h => ax_cell_c base cA f g _ _ (ax_up_o f h) rfl
theorem ax_cell_g (base cA f g) {k i j : Nat} {x : Int64} : ∀ q', q' ≠ (k, i) → ax_cell base cA f (ax_ug g k i j x) q' = ax_cell base cA f g q' := fun q' h => ax_cell_c base cA f g _ _ rfl (ax_ug_o g h)
/-- array classes -/
def ax_tys (cA : Nat → ClassId) : List (ClassId × FieldType) := [(cA 0, .int), (cA 1, .boolean), (cA 2, .long), (cA 3, .object RX6), (cA 4, .object RX2), (cA 5, .object RX4), (cA 6, .object RX1)]
def ax_Z (base : Nat) (U : State) (H : Heap) : Prop := vx_Zq Bundle.tN "UNASSIGNED_STACK" Bundle.steD (ax_A base) U H ∧ vx_Zq Bundle.tN "SUPPRESSED_SENTINEL" Bundle.listD (ax_A base) U H
/-- exceptions, by number -/
def ax_en (e : Nat) : String := match e with
  | 1 => "java/lang/IllegalArgumentException"
  | 2 => "java/lang/IllegalStateException"
  | _ => "java/lang/IndexOutOfBoundsException"
def ax_Y (sts : List (String × Nat × String)) (nes : List (String × Nat × MethodName × String)) (U : State) : Prop :=
  (∀ q ∈ sts, ∃ sa, vk_R q.1 q.2.1 q.2.2 sa U) ∧ (∀ q ∈ nes, va_Nw (.methodLinkNest q.1 q.2.1 q.2.2.1 q.2.2.2) U) ∧ (∀ a b, Cond.castable a b ∈ lw_tbl → va_Nw (.castable a b) U) ∧ (∀ a b, ax_en a ≠ ax_en b → va_Nc (ax_en a) (ax_en b) U) ∧ ∀ x, Cond.declares x ∈ lw_tbl → va_Nw (.declares x) U
theorem ax_Y.warm {sts nes} {s U : State} (hW : s.WarmedH U.vm) (h : ax_Y sts nes s) : ax_Y sts nes U := by
  obtain ⟨h1, h2, h3, h4, h5⟩ := h
  refine ⟨fun q hq => ?_, fun q hq => (h2 q hq).warmM hW, fun a b hab => (h3 a b hab).warmC hW, fun a b hab => (h4 a b hab).moved hW.alike, fun x hx => (h5 x hx).warmD hW⟩
  obtain ⟨sa, h⟩ := h1 q hq
  exact ⟨sa, h.warm hW⟩
theorem ax_Y.same {sts nes} {s U : State} (hv : U.vm = s.vm) (h : ax_Y sts nes s) : ax_Y sts nes U := by
  obtain ⟨h1, h2, h3, h4, h5⟩ := h
  refine ⟨fun q hq => ?_, fun q hq => (h2 q hq).same rfl hv.symm, fun a b hab => (h3 a b hab).same rfl hv.symm, fun a b hab => (h4 a b hab).moved (by rw [hv]; exact Vm.Alike.refl _), fun x hx => (h5 x hx).same rfl hv.symm⟩
  obtain ⟨sa, h⟩ := h1 q hq
  exact ⟨sa, h.same hv⟩
theorem ax_cast1 : Cond.castable (ax_en 1) (ax_en 1) ∈ lw_tbl := by decide +kernel
theorem ax_cast2 : Cond.castable (ax_en 2) (ax_en 2) ∈ lw_tbl := by decide +kernel
theorem ax_cast3 : Cond.castable (ax_en 3) (ax_en 3) ∈ lw_tbl := by decide +kernel
theorem ax_cast (a : Nat) : Cond.castable (ax_en a) (ax_en a) ∈ lw_tbl := by
  match a with
  | 0 => exact ax_cast3
  | 1 => exact ax_cast1
  | 2 => exact ax_cast2
  | n + 3 => exact ax_cast3
end AXW
end
section
/-! contracts out of the small machine: definitions, inversions, locals -/
section AXS
def ax_sts : List (String × Nat × String) := [(RX9, 51, "sections is not 1 to 5"), (RX9, 71, "no such section"), (RX9, 74, "size is not 1 to 99"), (RX9, 292, "the set has a package that does not exist"), (RX9, 84, "there are 12 packages"), (RX9, 290, "no such package"), (RX9, 103, "the version is 30"), (RX9, 105, "there are no packages"), (RX9, 110, "there are 20 indexes"), (RX9, 119, "minutes is not 1 to 999"), (RX9, 124, "code is not 32 to 126"), (RX9, 129, "the buffer has 60 characters"), (RX9, 142, "the buffer is not a complete text"), (RX9, 150, "no such upstream"), (RX9, 156, "sections is empty or has one that does not exist"), (RX9, 158, "interval is not 1 to 60"), (RX9, 160, "offset is not 0 to interval minus 1"), (RX9, 162, "capacity is not 1 to 200"), (RX9, 164, "there are 6 mirrors"), (RX9, 294, "no such mirror"), (RX9, 181, "the mirror has no index"), (RX9, 190, "the mirror does not have this file"), (RX9, 200, "minutes is not 1 to 200"), (RX9, 288, "what is out of range"), (RX9, 219, "mirrors is empty or has one that does not exist"), (RX9, 221, "there are 4 clients"), (RX9, 296, "no such client"), (RX9, 254, "no such index")]
def ax_nes : List (String × Nat × MethodName × String) := [(RX7, 66, yX9_hasBitFrom, RX9), (RX8, 53, yX9_hasBitFrom, RX9)]
def ax_Wd (base : Nat) (D : va_G) (cA : Nat → ClassId) (f : ax_F) (g : ax_G) (U : State) : Prop := va_P D vwCl (ax_ws base cA f g) U.heap ∧ va_K D vwCl (ax_tys cA) U ∧ ax_Z base U U.heap ∧ ax_Y ax_sts ax_nes U
theorem ax_blind (vs : List Value) (base D cA f g) : FrameBlind (va_Pc vs (ax_Wd base D cA f g)) := by
  intro a U g mk h
  obtain ⟨h0, h1, h2, h3, h4⟩ := h
  exact ⟨h0, h1, va_K.moved (u := U) (U := U.calling g mk a) (Vm.Alike.refl U.vm) h2, ⟨vx_Zq.moved (u := U) (U := U.calling g mk a) (Vm.Alike.refl U.vm) h3.1, vx_Zq.moved (u := U) (U := U.calling g mk a) (Vm.Alike.refl U.vm) h3.2⟩, h4.same rfl⟩
def ax_Qr (base : Nat) (D : va_G) (cA : Nat → ClassId) (r : ax_Fin) : Array Value → State → Outcome → State → Prop := fun _ st o t => (∃ v f g, r = (.inl v, f, g) ∧ o = .returned (v.map (ax_c base)) ∧ (∀ x, v = some x → ax_ok x) ∧ va_P D vwCl (ax_ws base cA f g) t.heap) ∧ va_F (ax_A base) st t
def ax_Xr (base : Nat) (D : va_G) (cA : Nat → ClassId) (r : ax_Fin) : String → State → State → Prop := fun E st t => (∃ e f g, r = (.inr e, f, g) ∧ E = ax_en e ∧ va_P D vwCl (ax_ws base cA f g) t.heap) ∧ va_F (ax_A base) st t
/-- a method does what its meaning says -/
def ax_Impl (l : Launch) (y : MethodName) (cw : Cond) (fr lo : Nat) (sem : ax_S) (mc ms : Nat) : Prop :=
  ∀ (base : Nat) (D : va_G) (cA : Nat → ClassId) (as : List ax_V) (f : ax_F) (g : ax_G) (r : ax_Fin), (∀ v ∈ as, ax_ok v) → sem as f g = some r →
    vx_Met l y (cw :: ax_T) { frames := fr, cells := mc, slots := ms, locals := lo } (va_Pc (as.map (ax_c base)) (ax_Wd base D cA f g)) (ax_Qr base D cA r) (ax_Xr base D cA r) mc ms (ax_A base)
theorem ax_lk_mem {α : Type} : ∀ (l : List (Nat × α)) {k : Nat} {a : α}, ax_lk l k = some a → (k, a) ∈ l := by
  intro l
  induction l with
  | nil => intro k a h; cases h
  | cons q r ih =>
    obtain ⟨n, b⟩ := q
    intro k a h
    have h' : (bif Nat.beq n k then some b else ax_lk r k) = some a := h
    cases e : Nat.beq n k with
    | true =>
      rw [e] at h'
      have h2 : some b = some a := h'
      cases h2
      rw [Nat.eq_of_beq_eq_true e]
      exact List.mem_cons_self
    | false =>
      rw [e] at h'
      exact List.mem_cons_of_mem _ (ih h')
theorem ax_at_mem : ∀ (c : List (Nat × List ax_En)) {pc : Nat} {x}, ax_at c pc = some x → ∃ e ∈ c, (pc, x) ∈ e.2 := by
  intro c
  induction c with
  | nil => intro pc x h; cases h
  | cons q r ih =>
    obtain ⟨b, l⟩ := q
    intro pc x h
    have h' : (bif Nat.blt pc b then ax_lk l pc else ax_at r pc) = some x := h
    cases e : Nat.blt pc b with
    | true =>
      rw [e] at h'
      exact ⟨(b, l), List.mem_cons_self, ax_lk_mem l h'⟩
    | false =>
      rw [e] at h'
      obtain ⟨e1, h1, h2⟩ := ih h'
      exact ⟨e1, List.mem_cons_of_mem _ h1, h2⟩
theorem ax_ob_i {α : Type} {o : Option α} {kk : α → Option ax_Fin} {r} (h : ax_ob o kk = some r) : ∃ x, o = some x ∧ kk x = some r := by
  cases o with
  | none => cases h
  | some x => exact ⟨x, rfl, h⟩
theorem ax_gd_i {b : Bool} {x : Option ax_Fin} {r} (h : ax_gd b x = some r) : b = true ∧ x = some r := by
  cases b with
  | false => cases h
  | true => exact ⟨rfl, h⟩
theorem ax_v1_i {st : List ax_V} {kk} {r : ax_Fin} (h : ax_v1 st kk = some r) : ∃ x t, st = x :: t ∧ kk x t = some r := by
  cases st with
  | nil => cases h
  | cons x t => exact ⟨x, t, rfl, h⟩
theorem ax_r1_i {st : List ax_V} {kk} {r : ax_Fin} (h : ax_r1 st kk = some r) : ∃ a i t, st = .inr (a, i) :: t ∧ kk a i t = some r := by
  rcases st with _ | ⟨v | ⟨a, i⟩, t⟩
  · cases h
  · cases h
  · exact ⟨a, i, t, rfl, h⟩
theorem ax_i1_i {st : List ax_V} {kk} {r : ax_Fin} (h : ax_i1 st kk = some r) : ∃ x t, st = .inl (.int x) :: t ∧ kk x t = some r := by
  rcases st with _ | ⟨v | q, t⟩
  · cases h
  · cases v <;> first | exact ⟨_, t, rfl, h⟩ | cases h
  · cases h
theorem ax_l1_i {st : List ax_V} {kk} {r : ax_Fin} (h : ax_l1 st kk = some r) : ∃ x t, st = .inl (.long x) :: t ∧ kk x t = some r := by
  rcases st with _ | ⟨v | q, t⟩
  · cases h
  · cases v <;> first | exact ⟨_, t, rfl, h⟩ | cases h
  · cases h
theorem ax_d1_i {st : List ax_V} {kk} {r : ax_Fin} (h : ax_d1 st kk = some r) : ∃ x t, st = .inl (.double x) :: t ∧ kk x t = some r := by
  rcases st with _ | ⟨v | q, t⟩
  · cases h
  · cases v <;> first | exact ⟨_, t, rfl, h⟩ | cases h
  · cases h
theorem ax_i2_i {st : List ax_V} {kk} {r : ax_Fin} (h : ax_i2 st kk = some r) : ∃ x y t, st = .inl (.int y) :: .inl (.int x) :: t ∧ kk x y t = some r := by
  rcases st with _ | ⟨v | q, _ | ⟨w | q2, t⟩⟩
  · cases h
  · cases v <;> cases h
  · cases v <;> cases w <;> first | exact ⟨_, _, t, rfl, h⟩ | cases h
  · cases v <;> cases h
  · cases h
  · cases h
  · cases h
theorem ax_l2_i {st : List ax_V} {kk} {r : ax_Fin} (h : ax_l2 st kk = some r) : ∃ x y t, st = .inl (.long y) :: .inl (.long x) :: t ∧ kk x y t = some r := by
  rcases st with _ | ⟨v | q, _ | ⟨w | q2, t⟩⟩
  · cases h
  · cases v <;> cases h
  · cases v <;> cases w <;> first | exact ⟨_, _, t, rfl, h⟩ | cases h
  · cases v <;> cases h
  · cases h
  · cases h
  · cases h
theorem ax_d2_i {st : List ax_V} {kk} {r : ax_Fin} (h : ax_d2 st kk = some r) : ∃ x y t, st = .inl (.double y) :: .inl (.double x) :: t ∧ kk x y t = some r := by
  rcases st with _ | ⟨v | q, _ | ⟨w | q2, t⟩⟩
  · cases h
  · cases v <;> cases h
  · cases v <;> cases w <;> first | exact ⟨_, _, t, rfl, h⟩ | cases h
  · cases v <;> cases h
  · cases h
  · cases h
  · cases h
theorem ax_oi_i {o : Option ax_V} {kk} {r : ax_Fin} (h : ax_oi o kk = some r) : ∃ x, o = some (.inl (.int x)) ∧ kk x = some r := by
  rcases o with _ | v | q
  · cases h
  · cases v <;> first | exact ⟨_, rfl, h⟩ | cases h
  · cases h
theorem ax_ol_i {o : Option ax_V} {kk} {r : ax_Fin} (h : ax_ol o kk = some r) : ∃ x, o = some (.inl (.long x)) ∧ kk x = some r := by
  rcases o with _ | v | q
  · cases h
  · cases v <;> first | exact ⟨_, rfl, h⟩ | cases h
  · cases h
theorem ax_od_i {o : Option ax_V} {kk} {r : ax_Fin} (h : ax_od o kk = some r) : ∃ x, o = some (.inl (.double x)) ∧ kk x = some r := by
  rcases o with _ | v | q
  · cases h
  · cases v <;> first | exact ⟨_, rfl, h⟩ | cases h
  · cases h
theorem ax_nu_i {v : ax_V} {a b} {r : ax_Fin} (h : ax_nu v a b = some r) : (v = .inl .null ∧ a = some r) ∨ (∃ q, v = .inr q ∧ b = some r) := by
  rcases v with v | q
  · cases v <;> first | exact Or.inl ⟨rfl, h⟩ | cases h
  · exact Or.inr ⟨q, rfl, h⟩
theorem ax_rs_i {v : ax_V} {kk ks} {r : ax_Fin} (h : ax_rs v kk ks = some r) : (∃ a i, v = .inr (a, i) ∧ kk a i = some r) ∨ (∃ b, v = .inl (.ref b) ∧ ks b = some r) := by
  rcases v with v | ⟨a, i⟩
  · cases v <;> first | exact Or.inr ⟨_, rfl, h⟩ | cases h
  · exact Or.inl ⟨a, i, rfl, h⟩
theorem ax_isr_i {v : ax_V} (h : ax_isr v = true) : v = .inl .null ∨ (∃ b, v = .inl (.ref b)) ∨ ∃ q, v = .inr q := by
  rcases v with v | q
  · cases v <;> first | exact Or.inl rfl | exact Or.inr (Or.inl ⟨_, rfl⟩) | cases h
  · exact Or.inr (Or.inr ⟨q, rfl⟩)
theorem ax_0_i {n : Nat} {a} {r : ax_Fin} (h : ax_0 n a = some r) : n = 0 ∧ a = some r := by
  rcases n with _ | n
  · exact ⟨rfl, h⟩
  · cases h
theorem ax_1_i {n : Nat} {a} {r : ax_Fin} (h : ax_1 n a = some r) : n = 1 ∧ a = some r := by
  rcases n with _ | _ | n
  · cases h
  · exact ⟨rfl, h⟩
  · cases h
theorem ax_2_i {n : Nat} {a} {r : ax_Fin} (h : ax_2 n a = some r) : n = 2 ∧ a = some r := by
  rcases n with _ | _ | _ | n
  · cases h
  · cases h
  · exact ⟨rfl, h⟩
  · cases h
theorem ax_3_i {n : Nat} {a} {r : ax_Fin} (h : ax_3 n a = some r) : 3 ≤ n ∧ a = some r := by
  rcases n with _ | _ | _ | n
  · cases h
  · cases h
  · cases h
  · exact ⟨Nat.le_add_left 3 n, h⟩
theorem ax_nil_i {α : Type} {l : List α} {a} {r : ax_Fin} (h : ax_nil l a = some r) : l = [] ∧ a = some r := by
  cases l with
  | nil => exact ⟨rfl, h⟩
  | cons x t => cases h
theorem ax_bb_i {x : Int32} {a} {r : ax_Fin} (h : ax_bb x a = some r) : (x = 0 ∨ x = 1) ∧ a = some r := by
  unfold ax_bb at h
  by_cases c : x = 0 ∨ x = 1
  · rw [if_pos c] at h; exact ⟨c, h⟩
  · rw [if_neg c] at h; cases h
theorem ax_bd_i {j : Int32} {len : Nat} (hl : len < 2 ^ 31) {kk} {r : ax_Fin} (h : ax_bd j len kk = some r) : vp_in j len ∧ kk j.toNatClampNeg = some r := by
  unfold ax_bd at h
  by_cases c : j < 0 ∨ nI len ≤ j
  · rw [if_pos c] at h; cases h
  · rw [if_neg c] at h
    refine ⟨?_, h⟩
    rcases pk_ix j hl with h1 | h1 | ⟨n, hn, rfl⟩
    · exact absurd (Or.inl h1) c
    · exact absurd (Or.inr h1) c
    · exact vp_in_nI hn hl
theorem ax_ir_i {t : Nat} {x : Int32} {a} {r : ax_Fin} (h : ax_ir t x a = some r) : ((t = 1) ∨ (t = 2 ∧ (x = 0 ∨ x = 1))) ∧ a = some r := by
  rcases t with _ | _ | _ | t
  · cases h
  · exact ⟨Or.inl rfl, h⟩
  · obtain ⟨h1, h2⟩ := ax_bb_i h
    exact ⟨Or.inr ⟨rfl, h1⟩, h2⟩
  · cases h
theorem ax_pf_i {f g ty k i j v kk} {r : ax_Fin} (h : ax_pf f g ty k i j v kk = some r) : (ty = 0 ∧ ∃ y, v = .inl (.int y) ∧ kk (ax_up f k i j y) g = some r) ∨ (ty = 1 ∧ ∃ y, v = .inl (.int y) ∧ (y = 0 ∨ y = 1) ∧ kk (ax_up f k i j y) g = some r) ∨ (ty = 2 ∧ ∃ y, v = .inl (.long y) ∧ kk f (ax_ug g k i j y) = some r) := by
  rcases v with v | q
  · rcases ty with _ | _ | _ | ty
    · cases v <;> first | exact Or.inl ⟨rfl, _, rfl, h⟩ | cases h
    · cases v <;> first | exact Or.inr (Or.inl ⟨rfl, _, rfl, ax_bb_i h⟩) | cases h
    · cases v <;> first | exact Or.inr (Or.inr ⟨rfl, _, rfl, h⟩) | cases h
    · cases v <;> cases h
  · rcases ty with _ | _ | _ | ty <;> cases h
theorem ax_sw_i {l d x kk} {r : ax_Fin} (h : ax_sw l d x kk = some r) : ((∀ q ∈ l, x ≠ q.1) ∧ kk d = some r) ∨ ∃ q ∈ l, x = q.1 ∧ kk q.2 = some r := by
  induction l with
  | nil => exact Or.inl ⟨fun q hq => (by cases hq), h⟩
  | cons q t ih =>
    obtain ⟨c, u⟩ := q
    have h' : (if x = c then kk u else ax_sw t d x kk) = some r := h
    by_cases e : x = c
    · rw [if_pos e] at h'
      exact Or.inr ⟨(c, u), List.mem_cons_self, e, h'⟩
    · rw [if_neg e] at h'
      rcases ih h' with ⟨h1, h2⟩ | ⟨q, hq, h1, h2⟩
      · refine Or.inl ⟨fun q hq => ?_, h2⟩
        rcases List.mem_cons.mp hq with rfl | hq
        · exact e
        · exact h1 q hq
      · exact Or.inr ⟨q, List.mem_cons_of_mem _ hq, h1, h2⟩
theorem ax_pop_i : ∀ (n : Nat) {st as : List ax_V} {kk} {r : ax_Fin}, ax_pop n st as kk = some r → ∃ xs t, st = xs.reverse ++ t ∧ xs.length = n ∧ kk (xs ++ as) t = some r := by
  intro n
  induction n with
  | zero =>
    intro st as kk r h
    refine ⟨[], st, rfl, rfl, ?_⟩
    cases st <;> exact h
  | succ n ih =>
    intro st as kk r h
    cases st with
    | nil => cases h
    | cons v st =>
      obtain ⟨xs, t, rfl, h2, h3⟩ := ih (as := v :: as) h
      refine ⟨xs ++ [v], t, ?_, ?_, ?_⟩
      · rw [List.reverse_append]; rfl
      · rw [List.length_append, h2]; rfl
      · rw [List.append_assoc]; exact h3
theorem ax_cal_i {rt : Nat} {q : Option ax_Fin} {kx rest kk} {r : ax_Fin} (h : ax_cal rt q kx rest kk = some r) : (∃ v f g, q = some (.inl v, f, g) ∧ kk (v.toList ++ rest) f g = some r) ∨ (∃ e f g, q = some (.inr e, f, g) ∧ kx e f g = some r) := by
  rcases q with _ | ⟨(_ | v) | e, f, g⟩
  · rcases rt with _ | _ | _ | _ | _ | rt <;> cases h
  · rcases rt with _ | _ | _ | _ | _ | rt <;> first | exact Or.inl ⟨_, _, _, rfl, h⟩ | cases h
  · rcases v with v | q
    · rcases rt with _ | _ | _ | _ | _ | rt <;> cases v <;> first | exact Or.inl ⟨_, _, _, rfl, h⟩ | cases h
    · rcases rt with _ | _ | _ | _ | _ | rt <;> first | exact Or.inl ⟨_, _, _, rfl, h⟩ | cases h
  · refine Or.inr ⟨e, f, g, rfl, ?_⟩
    rcases rt with _ | _ | _ | _ | _ | rt <;> exact h
/-- locals -/
theorem ax_nth_lt : ∀ (L : ax_L) {i : Nat} {v : ax_V}, ax_nth L i = some v → i < L.length := by
  intro L
  induction L with
  | nil => intro i v h; cases h
  | cons a l ih =>
    intro i v h
    cases i with
    | zero => exact Nat.succ_pos _
    | succ i => exact Nat.succ_lt_succ (ih h)
theorem ax_nth_s1 : ∀ (L : ax_L) (t j : Nat) (v : ax_V), ax_nth (ax_s1 L t v) j = if j = t then (if t < L.length then some v else none) else if j + 1 = t then ax_nl (ax_nth L j) else ax_nth L j := by
  intro L
  induction L with
  | nil =>
    intro t j v
    show none = _
    have e : ax_nl none = none := rfl
    simp [ax_nth, e]
  | cons a l ih =>
    intro t j v
    cases t with
    | zero =>
      cases j with
      | zero => simp [ax_s1, ax_nth]
      | succ j => simp [ax_s1, ax_nth]
    | succ t =>
      cases j with
      | zero =>
        cases t with
        | zero => simp [ax_s1, ax_nth]
        | succ t => simp [ax_s1, ax_nth]; rfl
      | succ j =>
        have := ih t j v
        simp only [ax_s1, ax_nth, this]
        simp
theorem ax_nth_n0 (L : ax_L) (j : Nat) : ax_nth (ax_n0 L) j = if j = 0 then none else ax_nth L j := by
  cases L with
  | nil => simp [ax_n0, ax_nth]
  | cons a l => cases j <;> simp [ax_n0, ax_nth]
theorem ax_nth_s2 : ∀ (L : ax_L) (t j : Nat) (v : ax_V), ax_nth (ax_s2 L t v) j = if j = t then (if t < L.length then some v else none) else if j = t + 1 then none else if j + 1 = t then ax_nl (ax_nth L j) else ax_nth L j := by
  intro L
  induction L with
  | nil =>
    intro t j v
    show none = _
    have e : ax_nl none = none := rfl
    simp [ax_nth, e]
  | cons a l ih =>
    intro t j v
    cases t with
    | zero =>
      cases j with
      | zero => simp [ax_s2, ax_nth]
      | succ j => simp [ax_s2, ax_nth, ax_nth_n0]
    | succ t =>
      cases j with
      | zero =>
        cases t with
        | zero => simp [ax_s2, ax_nth]
        | succ t => simp [ax_s2, ax_nth]; rfl
      | succ j =>
        have := ih t j v
        simp only [ax_s2, ax_nth, this]
        simp
theorem ax_nth_kl : ∀ (L : ax_L) (t j : Nat), ax_nth (ax_kl L t) j = if j = t then none else if j + 1 = t then ax_nl (ax_nth L j) else ax_nth L j := by
  intro L
  induction L with
  | nil =>
    intro t j
    show none = _
    have e : ax_nl none = none := rfl
    simp [ax_nth, e]
  | cons a l ih =>
    intro t j
    cases t with
    | zero => cases j <;> simp [ax_kl, ax_nth]
    | succ t =>
      cases j with
      | zero =>
        cases t with
        | zero => simp [ax_kl, ax_nth]
        | succ t => simp [ax_kl, ax_nth]; rfl
      | succ j =>
        have := ih t j
        simp only [ax_kl, ax_nth, this]
        simp
theorem ax_nth_kill : ∀ (L : ax_L) (n j : Nat) {v : ax_V}, ax_nth (ax_kill n L) j = some v → ax_nth L j = some v := by
  intro L
  induction L with
  | nil => intro n j v h; cases n <;> exact h
  | cons a l ih =>
    intro n j v h
    cases n with
    | zero =>
      cases j with
      | zero => cases h
      | succ j => exact ih 0 j h
    | succ n =>
      cases j with
      | zero => exact h
      | succ j => exact ih n j h
theorem ax_len_kill : ∀ (L : ax_L) (n : Nat), (ax_kill n L).length = L.length := by
  intro L
  induction L with
  | nil => intro n; cases n <;> rfl
  | cons a l ih => intro n; cases n <;> simp [ax_kill, ih]
theorem ax_len_s1 : ∀ (L : ax_L) (t : Nat) (v : ax_V), (ax_s1 L t v).length = L.length := by
  intro L
  induction L with
  | nil => intro t v; rfl
  | cons a l ih => intro t v; cases t <;> simp [ax_s1, ih]
theorem ax_len_s2 : ∀ (L : ax_L) (t : Nat) (v : ax_V), (ax_s2 L t v).length = L.length := by
  intro L
  induction L with
  | nil => intro t v; rfl
  | cons a l ih =>
    intro t v
    cases t with
    | zero => cases l <;> rfl
    | succ t => simp [ax_s2, ih]
theorem ax_len_kl : ∀ (L : ax_L) (t : Nat), (ax_kl L t).length = L.length := by
  intro L
  induction L with
  | nil => intro t; rfl
  | cons a l ih => intro t; cases t <;> simp [ax_kl, ih]
def ax_Ls (base nL : Nat) (L : ax_L) (ls : Array Slot) : Prop := L.length = nL ∧ ls.size = nL ∧ lv_wf ls ∧ ∀ i v, ax_nth L i = some v → ls[i]? = some (.val (ax_c base v))
def ax_lv (base : Nat) (L : ax_L) : List (Nat × Value) := (List.range L.length).filterMap (fun i => (ax_nth L i).map (fun v => (i, ax_c base v)))
theorem ax_lv_in {base : Nat} {L : ax_L} {i : Nat} {v : ax_V} (h : ax_nth L i = some v) : (i, ax_c base v) ∈ ax_lv base L := by
  unfold ax_lv
  rw [List.mem_filterMap]
  exact ⟨i, List.mem_range.mpr (ax_nth_lt L h), by rw [h]; rfl⟩
theorem ax_lv_of {base : Nat} {L : ax_L} {q : Nat × Value} (h : q ∈ ax_lv base L) : ∃ v, ax_nth L q.1 = some v ∧ q.2 = ax_c base v := by
  unfold ax_lv at h
  rw [List.mem_filterMap] at h
  obtain ⟨i, -, h⟩ := h
  cases e : ax_nth L i with
  | none => rw [e] at h; cases h
  | some v =>
    rw [e] at h
    have h2 : (i, ax_c base v) = q := Option.some.inj h
    subst h2
    exact ⟨v, e, rfl⟩
theorem ax_Ls.has {base nL L ls} (h : ax_Ls base nL L ls) : lv_has ls nL (ax_lv base L) := by
  refine ⟨h.2.1, h.2.2.1, fun q hq => ?_⟩
  obtain ⟨v, h1, h2⟩ := ax_lv_of hq
  rw [h2]
  exact h.2.2.2 _ _ h1
theorem ax_two_c (base : Nat) (v : ax_V) : ((ax_c base v).category == 2) = ax_two v := by
  rcases v with v | q
  · cases v <;> rfl
  · rfl
theorem ax_nl_i {a : Option ax_V} {v : ax_V} (h : ax_nl a = some v) : a = some v ∧ ax_two v = false := by
  cases a with
  | none => cases h
  | some w =>
    have h' : (bif ax_two w then none else some w) = some v := h
    cases e : ax_two w with
    | true => rw [e] at h'; cases h'
    | false => rw [e] at h'; cases h'; exact ⟨rfl, e⟩
theorem ax_Ls_s1 {base nL L ls' t} {v : ax_V} (hlen : L.length = nL) (h : lv_has ls' nL ((t, ax_c base v) :: (ax_lv base L).filter (fun q => !(q.1 == t) && !(q.1 + 1 == t && q.2.category == 2)))) : ax_Ls base nL (ax_s1 L t v) ls' := by
  refine ⟨by rw [ax_len_s1]; exact hlen, h.1, h.2.1, fun i w hw => ?_⟩
  rw [ax_nth_s1] at hw
  by_cases e : i = t
  · rw [if_pos e] at hw
    by_cases e2 : t < L.length
    · rw [if_pos e2] at hw
      cases hw
      subst e
      exact h.2.2 (i, ax_c base v) List.mem_cons_self
    · rw [if_neg e2] at hw; cases hw
  · rw [if_neg e] at hw
    refine h.2.2 (i, ax_c base w) (List.mem_cons_of_mem _ (List.mem_filter.mpr ?_))
    by_cases e2 : i + 1 = t
    · rw [if_pos e2] at hw
      obtain ⟨h1, h2⟩ := ax_nl_i hw
      refine ⟨ax_lv_in h1, ?_⟩
      simp [e, ax_two_c, h2]
    · rw [if_neg e2] at hw
      refine ⟨ax_lv_in hw, ?_⟩
      simp [e, e2]
theorem ax_Ls_s2 {base nL L ls' t} {v : ax_V} (hlen : L.length = nL) (h : lv_has ls' nL ((t, ax_c base v) :: (ax_lv base L).filter (fun q => !(q.1 == t) && (!(q.1 == t + 1) && !(q.1 + 1 == t && q.2.category == 2))))) : ax_Ls base nL (ax_s2 L t v) ls' := by
  refine ⟨by rw [ax_len_s2]; exact hlen, h.1, h.2.1, fun i w hw => ?_⟩
  rw [ax_nth_s2] at hw
  by_cases e : i = t
  · rw [if_pos e] at hw
    by_cases e2 : t < L.length
    · rw [if_pos e2] at hw
      cases hw
      subst e
      exact h.2.2 (i, ax_c base v) List.mem_cons_self
    · rw [if_neg e2] at hw; cases hw
  · rw [if_neg e] at hw
    by_cases e3 : i = t + 1
    · rw [if_pos e3] at hw; cases hw
    rw [if_neg e3] at hw
    refine h.2.2 (i, ax_c base w) (List.mem_cons_of_mem _ (List.mem_filter.mpr ?_))
    by_cases e2 : i + 1 = t
    · rw [if_pos e2] at hw
      obtain ⟨h1, h2⟩ := ax_nl_i hw
      refine ⟨ax_lv_in h1, ?_⟩
      simp [e, e3, ax_two_c, h2]
    · rw [if_neg e2] at hw
      refine ⟨ax_lv_in hw, ?_⟩
      simp [e, e2, e3]
theorem ax_Ls_kl {base nL L ls' t} {w : Value} (hlen : L.length = nL) (h : lv_has ls' nL ((t, w) :: (ax_lv base L).filter (fun q => !(q.1 == t) && !(q.1 + 1 == t && q.2.category == 2)))) : ax_Ls base nL (ax_kl L t) ls' := by
  refine ⟨by rw [ax_len_kl]; exact hlen, h.1, h.2.1, fun i v hv => ?_⟩
  rw [ax_nth_kl] at hv
  by_cases e : i = t
  · rw [if_pos e] at hv; cases hv
  · rw [if_neg e] at hv
    refine h.2.2 (i, ax_c base v) (List.mem_cons_of_mem _ (List.mem_filter.mpr ?_))
    by_cases e2 : i + 1 = t
    · rw [if_pos e2] at hv
      obtain ⟨h1, h2⟩ := ax_nl_i hv
      refine ⟨ax_lv_in h1, ?_⟩
      simp [e, ax_two_c, h2]
    · rw [if_neg e2] at hv
      refine ⟨ax_lv_in hv, ?_⟩
      simp [e, e2]
theorem ax_Ls_kill {base nL L ls n} (h : ax_Ls base nL L ls) : ax_Ls base nL (ax_kill n L) ls := ⟨by rw [ax_len_kill]; exact h.1, h.2.1, h.2.2.1, fun i v hv => h.2.2.2 i v (ax_nth_kill L n i hv)⟩
theorem ax_Ls_norm {base nL P pc L ls} (h : ax_Ls base nL L ls) : ax_Ls base nL (ax_norm P pc L) ls := by
  unfold ax_norm
  cases ax_lk (ax_live P) pc with
  | none => exact h
  | some n => exact ax_Ls_kill h
end AXS
end
section
/-! soundness: a step of the small machine is a step of the machine -/
section AXT
theorem ax_inT {w : Cond} (h : w ∈ lw_tbl ∧ goodWord w = true) : w ∈ ax_T := List.mem_filter.mpr h
theorem ax_T_good {w : Cond} (h : w ∈ ax_T) : goodWord w = true := (List.mem_filter.mp h).2
theorem ax_goodIn {cw : Cond} (h : cw ∈ ax_T) : GoodIn ax_T (cw :: ax_T) := by
  intro w hw
  have hm : w ∈ ax_T := by
    rcases List.mem_cons.mp hw with rfl | hw
    · exact h
    · exact hw
  exact ⟨hm, good_of_word (ax_T_good hm)⟩
theorem ax_in0 : ∀ w ∈ u_ws RX0 TX0 6, w ∈ lw_tbl ∧ goodWord w = true := by decide +kernel
theorem ax_in1 : ∀ w ∈ u_ws RX1 TX1 3, w ∈ lw_tbl ∧ goodWord w = true := by decide +kernel
theorem ax_in2 : ∀ w ∈ u_ws RX2 TX2 4, w ∈ lw_tbl ∧ goodWord w = true := by decide +kernel
theorem ax_in3 : ∀ w ∈ u_ws RX3 TX3 3, w ∈ lw_tbl ∧ goodWord w = true := by decide +kernel
theorem ax_in4 : ∀ w ∈ u_ws RX4 TX4 9, w ∈ lw_tbl ∧ goodWord w = true := by decide +kernel
theorem ax_in5 : ∀ w ∈ u_ws RX5 TX5 5, w ∈ lw_tbl ∧ goodWord w = true := by decide +kernel
theorem ax_in6 : ∀ w ∈ u_ws RX6 TX6 5, w ∈ lw_tbl ∧ goodWord w = true := by decide +kernel
theorem ax_in7 : ∀ w ∈ u_ws RX7 TX7 5, w ∈ lw_tbl ∧ goodWord w = true := by decide +kernel
theorem ax_in8 : ∀ w ∈ u_ws RX8 TX8 6, w ∈ lw_tbl ∧ goodWord w = true := by decide +kernel
theorem ax_in9 : ∀ w ∈ u_ws RX9 TX9 7, w ∈ lw_tbl ∧ goodWord w = true := by decide +kernel
theorem ax_in10 : ∀ w ∈ u_ws RX10 TX10 41, w ∈ lw_tbl ∧ goodWord w = true := by decide +kernel
/-- what the tables say of a class -/
def ax_Cf (ci : Nat) (C : String) (T : u_T) (N : Nat) : Prop := N = ax_nf ci ∧ (∀ w ∈ u_ws C T N, w ∈ ax_T) ∧ ∃ ty : Nat → FieldType, (∀ k, k < N → parseFieldDescriptor (T k).2.2.1 = some (ty k)) ∧ (∀ a, a < N → ∀ b, b < N → a ≠ b → (T a).2.1 ≠ (T b).2.1) ∧
  (∀ k, k < N → ax_ft ci k = 0 → ty k = .int ∧ (T k).2.2.2 = false) ∧ (∀ k, k < N → ax_ft ci k = 1 → ty k = .boolean ∧ (T k).2.2.2 = false) ∧ (∀ k, k < N → ax_ft ci k = 2 → ty k = .long ∧ (T k).2.2.2 = false)
theorem ax_cf {ci : Nat} {C : String} {T : u_T} {N : Nat} (h : vwCl[ci]? = some (C, T, N)) : ax_Cf ci C T N := by
  match ci, h with
  | 0, h => cases h; exact ⟨rfl, fun w h => ax_inT (ax_in0 w h), tyX0, tyX0_ok, nmX0, by decide +kernel, by decide +kernel, by decide +kernel⟩
  | 1, h => cases h; exact ⟨rfl, fun w h => ax_inT (ax_in1 w h), tyX1, tyX1_ok, nmX1, by decide +kernel, by decide +kernel, by decide +kernel⟩
  | 2, h => cases h; exact ⟨rfl, fun w h => ax_inT (ax_in2 w h), tyX2, tyX2_ok, nmX2, by decide +kernel, by decide +kernel, by decide +kernel⟩
  | 3, h => cases h; exact ⟨rfl, fun w h => ax_inT (ax_in3 w h), tyX3, tyX3_ok, nmX3, by decide +kernel, by decide +kernel, by decide +kernel⟩
  | 4, h => cases h; exact ⟨rfl, fun w h => ax_inT (ax_in4 w h), tyX4, tyX4_ok, nmX4, by decide +kernel, by decide +kernel, by decide +kernel⟩
  | 5, h => cases h; exact ⟨rfl, fun w h => ax_inT (ax_in5 w h), tyX5, tyX5_ok, nmX5, by decide +kernel, by decide +kernel, by decide +kernel⟩
  | 6, h => cases h; exact ⟨rfl, fun w h => ax_inT (ax_in6 w h), tyX6, tyX6_ok, nmX6, by decide +kernel, by decide +kernel, by decide +kernel⟩
  | 7, h => cases h; exact ⟨rfl, fun w h => ax_inT (ax_in7 w h), tyX7, tyX7_ok, nmX7, by decide +kernel, by decide +kernel, by decide +kernel⟩
  | 8, h => cases h; exact ⟨rfl, fun w h => ax_inT (ax_in8 w h), tyX8, tyX8_ok, nmX8, by decide +kernel, by decide +kernel, by decide +kernel⟩
  | 9, h => cases h; exact ⟨rfl, fun w h => ax_inT (ax_in9 w h), tyX9, tyX9_ok, nmX9, by decide +kernel, by decide +kernel, by decide +kernel⟩
  | 10, h => cases h; exact ⟨rfl, fun w h => ax_inT (ax_in10 w h), tyX10, tyX10_ok, nmX10, by decide +kernel, by decide +kernel, by decide +kernel⟩
  | n + 11, h => cases h
theorem ax_kc_ka {a ci : Nat} (h : ax_kc a = some ci) : ax_ka a = none := by
  unfold ax_kc at h
  split at h <;> first | rfl | cases h
theorem ax_ka_t {a t n : Nat} (h : ax_ka a = some (t, n)) : t ≤ 6 ∧ n ≤ 252 := by
  unfold ax_ka at h
  split at h <;> first | (cases h; exact ⟨by decide, by decide⟩) | cases h
def ax_ckr (q : Nat × Nat) : Bool := match ax_kc q.1 with
  | some ci => (List.range (ax_nf ci)).all fun j => !(Nat.beq (ax_ft ci j) 3) || (match ax_r0 q.1 q.2 j with | some w => decide (w ∈ ax_all) | none => true)
  | none => match ax_ka q.1 with
    | some (t, n) => !(Nat.ble 3 t) || (List.range n).all fun j => (match ax_r0 q.1 q.2 j with | some w => decide (w ∈ ax_all) | none => true)
    | none => true
theorem ax_ckr_all : ax_all.all ax_ckr = true := by decide +kernel
theorem ax_r0_obj {a i ci j : Nat} (h : (a, i) ∈ ax_all) (hc : ax_kc a = some ci) (hj : j < ax_nf ci) (ht : ax_ft ci j = 3) : ∀ w, ax_r0 a i j = some w → w ∈ ax_all := by
  intro w hw
  have h1 := List.all_eq_true.mp ax_ckr_all (a, i) h
  unfold ax_ckr at h1
  simp only [hc] at h1
  have h2 := List.all_eq_true.mp h1 j (List.mem_range.mpr hj)
  simp only [ht, hw] at h2
  simpa using h2
theorem ax_r0_arr {a i t n j : Nat} (h : (a, i) ∈ ax_all) (hk : ax_ka a = some (t, n)) (h3 : 3 ≤ t) (hj : j < n) : ∀ w, ax_r0 a i j = some w → w ∈ ax_all := by
  intro w hw
  have hc : ax_kc a = none := by
    cases e : ax_kc a with
    | none => rfl
    | some ci => rw [ax_kc_ka e] at hk; cases hk
  have h1 := List.all_eq_true.mp ax_ckr_all (a, i) h
  unfold ax_ckr at h1
  simp only [hc, hk] at h1
  have h3' : Nat.ble 3 t = true := Nat.ble_eq_true_of_le h3
  rw [h3'] at h1
  have h2 := List.all_eq_true.mp (by simpa using h1) j (List.mem_range.mpr hj)
  simp only [hw] at h2
  simpa using h2
theorem ax_obj_get (base f g) {ci j : Nat} (q : Nat × Nat) (hj : j < ax_nf ci) : (ax_obj base f g ci q)[j]? = some (ax_c base (ax_fv f g (ax_ft ci j) q.1 q.2 j)) := by
  unfold ax_obj
  rw [List.getElem?_map, List.getElem?_range hj]
  rfl
theorem ax_obj_len (base f g ci q) : (ax_obj base f g ci q).length = ax_nf ci := by
  unfold ax_obj
  rw [List.length_map, List.length_range]
theorem ax_up_s (f : ax_F) (k i j : Nat) (x : Int32) : ax_up f k i j x k i j = x := if_pos ⟨rfl, rfl, rfl⟩
theorem ax_up_n (f : ax_F) (k i : Nat) {j j' : Nat} (x : Int32) (h : j' ≠ j) : ax_up f k i j x k i j' = f k i j' := if_neg (fun c => h c.2.2)
theorem ax_ug_s (g : ax_G) (k i j : Nat) (x : Int64) : ax_ug g k i j x k i j = x := if_pos ⟨rfl, rfl, rfl⟩
theorem ax_ug_n (g : ax_G) (k i : Nat) {j j' : Nat} (x : Int64) (h : j' ≠ j) : ax_ug g k i j x k i j' = g k i j' := if_neg (fun c => h c.2.2)
theorem ax_obj_f (base f g) {ci k i j : Nat} (hj : j < ax_nf ci) (ht : ax_ft ci j = 0 ∨ ax_ft ci j = 1) (x : Int32) : (ax_obj base f g ci (k, i)).set j (.int x) = ax_obj base (ax_up f k i j x) g ci (k, i) := by
  apply List.ext_getElem?
  intro n
  rw [List.getElem?_set, ax_obj_len]
  by_cases e : j = n
  · subst e
    rw [if_pos rfl, if_pos hj, ax_obj_get _ _ _ _ hj]
    rcases ht with ht | ht
    · rw [ht]; show some (Value.int x) = some (Value.int _); rw [ax_up_s]
    · rw [ht]; show some (Value.int x) = some (Value.int _); rw [ax_up_s]
  · rw [if_neg e]
    by_cases hn : n < ax_nf ci
    · rw [ax_obj_get _ _ _ _ hn, ax_obj_get _ _ _ _ hn]
      unfold ax_fv
      rw [ax_up_n f k i x (fun c => e c.symm)]
    · rw [List.getElem?_eq_none (by rw [ax_obj_len]; omega), List.getElem?_eq_none (by rw [ax_obj_len]; omega)]
theorem ax_obj_g (base f g) {ci k i j : Nat} (hj : j < ax_nf ci) (ht : ax_ft ci j = 2) (x : Int64) : (ax_obj base f g ci (k, i)).set j (.long x) = ax_obj base f (ax_ug g k i j x) ci (k, i) := by
  apply List.ext_getElem?
  intro n
  rw [List.getElem?_set, ax_obj_len]
  by_cases e : j = n
  · subst e
    rw [if_pos rfl, if_pos hj, ax_obj_get _ _ _ _ hj, ht]
    show some (Value.long x) = some (Value.long _); rw [ax_ug_s]
  · rw [if_neg e]
    by_cases hn : n < ax_nf ci
    · rw [ax_obj_get _ _ _ _ hn, ax_obj_get _ _ _ _ hn]
      unfold ax_fv
      rw [ax_ug_n g k i x (fun c => e c.symm)]
    · rw [List.getElem?_eq_none (by rw [ax_obj_len]; omega), List.getElem?_eq_none (by rw [ax_obj_len]; omega)]
theorem ax_row_f (f : ax_F) (k i j : Nat) (x : Int32) : upd (f k i) j x = (ax_up f k i j x) k i := by
  funext n
  unfold upd ax_up
  by_cases e : n = j
  · simp [e]
  · simp [e]
theorem ax_row_g (g : ax_G) (k i j : Nat) (x : Int64) : vp_updL (g k i) j x = (ax_ug g k i j x) k i := by
  funext n
  unfold vp_updL ax_ug
  by_cases e : n = j
  · simp [e]
  · simp [e]
theorem ax_cell_o (base cA f g) {a ci : Nat} (i : Nat) (h : ax_kc a = some ci) : ax_cell base cA f g (a, i) = .inr (ci, ax_obj base f g ci (a, i)) := by
  unfold ax_cell
  rw [ax_kc_ka h]
  simp only [h, Option.getD_some]
theorem ax_cell_a (base cA f g) {a t n : Nat} (i : Nat) (h : ax_ka a = some (t, n)) : ax_cell base cA f g (a, i) = .inl (cA t, n, ax_row base f g t (a, i)) := by
  unfold ax_cell
  rw [h]
theorem ax_tys_at (cA : Nat → ClassId) {t : Nat} (h : t ≤ 6) : ∃ ty, (ax_tys cA)[t]? = some (cA t, ty) := by
  match t, h with
  | 0, _ => exact ⟨_, rfl⟩
  | 1, _ => exact ⟨_, rfl⟩
  | 2, _ => exact ⟨_, rfl⟩
  | 3, _ => exact ⟨_, rfl⟩
  | 4, _ => exact ⟨_, rfl⟩
  | 5, _ => exact ⟨_, rfl⟩
  | 6, _ => exact ⟨_, rfl⟩
theorem ax_tys_r (cA : Nat → ClassId) {t : Nat} (h : t ≤ 6) (h3 : 3 ≤ t) : ∃ C, (ax_tys cA)[t]? = some (cA t, .object C) := by
  match t, h, h3 with
  | 3, _, _ => exact ⟨_, rfl⟩
  | 4, _, _ => exact ⟨_, rfl⟩
  | 5, _, _ => exact ⟨_, rfl⟩
  | 6, _, _ => exact ⟨_, rfl⟩
theorem ax_rv_c (base : Nat) (o : Option (Nat × Nat)) : va_rf (o.map (ax_ad base)) = ax_c base (ax_rv o) := by
  cases o <;> rfl
theorem ax_okt {v : ax_V} {r : List ax_V} (h : ∀ w ∈ v :: r, ax_ok w) : ∀ w ∈ r, ax_ok w := fun w hw => h w (List.mem_cons_of_mem _ hw)
theorem ax_okc {v : ax_V} {r : List ax_V} (hv : ax_ok v) (h : ∀ w ∈ r, ax_ok w) : ∀ w ∈ v :: r, ax_ok w := by
  intro w hw
  rcases List.mem_cons.mp hw with rfl | hw
  · exact hv
  · exact h w hw
theorem ax_ok_rv {o : Option (Nat × Nat)} (h : ∀ w, o = some w → w ∈ ax_all) : ax_ok (ax_rv o) := by
  cases o with
  | none => exact trivial
  | some w => exact h w rfl
theorem ax_wd_c (base : Nat) : ∀ (st : List ax_V), ((st.map (ax_c base)).map fun v => v.category).sum = ax_wd st := by
  intro st
  induction st with
  | nil => rfl
  | cons v r ih =>
    simp only [List.map_cons, List.sum_cons, ih, ax_wd]
    congr 1
    rcases v with v | q
    · cases v <;> rfl
    · rfl
theorem ax_ZW {base : Nat} {s U : State} {H : Heap} {locs : List Loc} (hS : va_S (ax_A base) s.heap H locs) (hU : U.heap = H) (hW : s.WarmedH U.vm) (hZ : ax_Z base s s.heap) : ax_Z base U U.heap := by
  have hk : ∀ a : Nat, a < s.heap.size → ¬ ax_A base a → U.heap[a]? = s.heap[a]? := fun a h1 h2 => by rw [hU]; exact hS.2.1 a h1 h2
  exact ⟨(hZ.1.moved hW.alike).kept hk, (hZ.2.moved hW.alike).kept hk⟩
end AXT
end
section
/-! soundness of a step -/
section AXU
def ax_At (l : Launch) (p : Program) (e : Env) (R : Room) (s : State) (m : MethodId) (args : Array Value) (below : List Frame) (meth : Method) (c : Code) (base : Nat) (D : va_G) (cA : Nat → ClassId) (nL mP sP : Nat) (Q : State → Prop) (pc : Nat) (L : ax_L) (st : List ax_V) (f : ax_F) (g : ax_G) (cs ss : Nat) : Prop :=
  ∀ (H : Heap) (locs : List Loc) (ls : Array Slot), va_P D vwCl (ax_ws base cA f g) H → va_S (ax_A base) s.heap H locs → ax_Ls base nL L ls → (∀ v ∈ st, ax_ok v) → (∀ i v, ax_nth L i = some v → ax_ok v) → cs ≤ mP → ss ≤ sP →
    W p l e R s m args below meth c H locs cs ss Q (F0 m pc ls (st.map (ax_c base)))
/-- what an instruction's own numbers say -/
def ax_par (own : String) (pc : Nat) (i : Instr) (n t : Nat) (v : Int32) : Bool := match i with
  | .iconst c => decide (n = 1) && decide (Int32.ofInt c = v)
  | .bipush c => decide (n = 2) && decide ((Int8.ofInt c).toInt32 = v)
  | .sipush c => decide (n = 3) && decide ((Int16.ofInt c).toInt32 = v)
  | .ldc x => decide (n = 2) && (decide (Cond.constant own x v ∈ lw_tbl) && goodWord (Cond.constant own x v))
  | .ldc_w x => decide (n = 3) && (decide (Cond.constant own x v ∈ lw_tbl) && goodWord (Cond.constant own x v))
  | .ldc2_w _ => decide (n = 3)
  | .iload x => decide (n = 2) && decide (x = t)
  | .dload x => decide (n = 2) && decide (x = t)
  | .aload x => decide (n = 2) && decide (x = t)
  | .istore x => decide (n = 2) && decide (x = t)
  | .dstore x => decide (n = 2) && decide (x = t)
  | .astore x => decide (n = 2) && decide (x = t)
  | .iload_n x => decide (n = 1) && decide (x.val = t)
  | .lload_n x => decide (n = 1) && decide (x.val = t)
  | .dload_n x => decide (n = 1) && decide (x.val = t)
  | .aload_n x => decide (n = 1) && decide (x.val = t)
  | .istore_n x => decide (n = 1) && decide (x.val = t)
  | .lstore_n x => decide (n = 1) && decide (x.val = t)
  | .dstore_n x => decide (n = 1) && decide (x.val = t)
  | .astore_n x => decide (n = 1) && decide (x.val = t)
  | .iinc x c => decide (n = 3) && (decide (x = t) && decide (Int32.ofInt c = v))
  | .goto o => decide (n = 3) && decide ((pc : Int) + o = (t : Int))
  | .ifCond _ o => decide (n = 3) && decide ((pc : Int) + o = (t : Int))
  | .if_icmp _ o => decide (n = 3) && decide ((pc : Int) + o = (t : Int))
  | .ifnull o => decide (n = 3) && decide ((pc : Int) + o = (t : Int))
  | .ifnonnull o => decide (n = 3) && decide ((pc : Int) + o = (t : Int))
  | .dconst d => decide (n = 1) && (decide (t = 0) && decide (d = 0))
  | .getfield _ => decide (n = 3)
  | .putfield _ => decide (n = 3)
  | .invokevirtual _ => decide (n = 3)
  | .invokestatic _ => decide (n = 3)
  | .new _ => decide (n = 3)
  | .tableswitch _ _ _ _ => true
  | _ => decide (n = 1)
/-- what a place of a switch says -/
def ax_Sw (cc : ByteArray) (q : Nat × List (Int32 × Nat) × Nat) : Prop := ∀ dflt lo hi offs len, decode cc q.1 = .ok (.tableswitch dflt lo hi offs, len) →
  (q.1 : Int) + dflt = (q.2.2 : Int) ∧ (∀ x : Int32, (∀ c ∈ q.2.1, x ≠ c.1) → x.toInt < lo ∨ hi < x.toInt) ∧ ∀ c ∈ q.2.1, ¬ c.1.toInt < lo ∧ ¬ hi < c.1.toInt ∧ ∃ off, offs[(c.1.toInt - lo).toNat]? = some off ∧ (q.1 : Int) + off = (c.2 : Int)
/-- the method's table of handlers -/
def ax_Hd (own : String) (cc : ByteArray) (nL : Nat) : List (Nat × Nat × Nat × Nat × Nat) → List ExceptionTableEntry → Prop
  | [], [] => True
  | (a, b, x, n, t) :: r, z :: zs => z.startPc = a ∧ z.endPc = b ∧ z.catchType ≠ 0 ∧ Cond.classLink own z.catchType (ax_en x) ∈ ax_T ∧ n < nL ∧ ((decode cc z.handlerPc = .ok (.astore n, 2) ∧ t = z.handlerPc + 2) ∨ (∃ k : Fin 4, decode cc z.handlerPc = .ok (.astore_n k, 1) ∧ k.val = n ∧ t = z.handlerPc + 1)) ∧ ax_Hd own cc nL r zs
  | _, _ => False
def ax_FldOk (own : String) (q : Nat × Nat × Nat) : Prop := ∃ C T N, vwCl[q.2.1]? = some (C, T, N) ∧ q.2.2 < N ∧ Cond.fieldLink own q.1 (T q.2.2).1 (T q.2.2).2.1 (T q.2.2).2.2.1 ∈ ax_T
/-- a call: mode 0 of an object's method, 1 static, 2 static of a nest mate, 3 static with a table -/
def ax_CallOk (l : Launch) (own : String) (fr lo : Nat) (q : Nat × ax_Cl) : Prop := ∃ (y : MethodName) (bytes : ByteArray) (maxL : Nat) (ret : Option FieldType) (hh : List (Nat × Nat × Nat × Nat)) (fr' lo' : Nat),
  fr' + 1 ≤ fr ∧ 8 + (maxL + 11) + lo' ≤ lo ∧ (parseMethodDescriptor y.desc).map (fun d => d.parameters.length) = some q.2.2.2.1 ∧ (y.cls ≠ "java/lang/invoke/MethodHandle" ∧ y.cls ≠ "java/lang/invoke/VarHandle") ∧ Cond.initialized y.cls ∈ ax_T ∧
  ((q.2.1 = 0 ∧ ax_Impl l y (.code y bytes maxL ret) fr' lo' q.2.2.2.2.2.1 q.2.2.2.2.2.2.1 q.2.2.2.2.2.2.2 ∧ Cond.code y bytes maxL ret ∈ ax_T ∧ Cond.methodLink own q.1 y ∈ ax_T ∧ Cond.instanceMethod y ∈ ax_T ∧ Cond.selects y.cls y y ∈ ax_T ∧ ∃ T N, vwCl[q.2.2.1]? = some (y.cls, T, N)) ∨
   (q.2.1 = 1 ∧ ax_Impl l y (.code y bytes maxL ret) fr' lo' q.2.2.2.2.2.1 q.2.2.2.2.2.2.1 q.2.2.2.2.2.2.2 ∧ Cond.code y bytes maxL ret ∈ ax_T ∧ Cond.methodLink own q.1 y ∈ ax_T ∧ Cond.static y ∈ ax_T) ∨
   (q.2.1 = 2 ∧ ax_Impl l y (.code y bytes maxL ret) fr' lo' q.2.2.2.2.2.1 q.2.2.2.2.2.2.1 q.2.2.2.2.2.2.2 ∧ Cond.code y bytes maxL ret ∈ ax_T ∧ (∃ host, (own, q.1, y, host) ∈ ax_nes) ∧ Cond.static y ∈ ax_T) ∨
   (q.2.1 = 3 ∧ ax_Impl l y (.codeWith y bytes maxL ret hh) fr' lo' q.2.2.2.2.2.1 q.2.2.2.2.2.2.1 q.2.2.2.2.2.2.2 ∧ Cond.codeWith y bytes maxL ret hh ∈ ax_T ∧ Cond.methodLink own q.1 y ∈ ax_T ∧ Cond.static y ∈ ax_T))
def ax_Ok (l : Launch) (own : String) (cc : ByteArray) (nL fr lo : Nat) (P : ax_P) (tbl : List ExceptionTableEntry) : Prop :=
  (∀ e ∈ ax_code P, ∀ q ∈ e.2, decode cc q.1 = .ok (q.2.1, q.2.2.1) ∧ ax_par own q.1 q.2.1 q.2.2.1 q.2.2.2.1 q.2.2.2.2 = true) ∧ (∀ q ∈ ax_flds P, ax_FldOk own q) ∧ (∀ q ∈ ax_calls P, ax_CallOk l own fr lo q) ∧ (∀ q ∈ ax_lcs P, Cond.constantLong own q.1 q.2 ∈ ax_T) ∧ (∀ q ∈ ax_sws P, ax_Sw cc q) ∧ ax_Hd own cc nL (ax_hand P) tbl
def ax_Rt (t : Nat) (i : Instr) (v : Option ax_V) : Prop := (t = 0 ∧ i = .return_ ∧ v = none) ∨ (i = .ireturn ∧ ∃ x, v = some (.inl (.int x)) ∧ (t = 1 ∨ (t = 2 ∧ (x = 0 ∨ x = 1)))) ∨ (t = 3 ∧ i = .lreturn ∧ ∃ x, v = some (.inl (.long x))) ∨ (t = 4 ∧ i = .dreturn ∧ ∃ x, v = some (.inl (.double x))) ∨ (t = 5 ∧ i = .areturn ∧ ∃ x, v = some x ∧ ax_isr x = true)
def ax_Pass (own : String) (args : Array Value) (s : State) (tbl : List ExceptionTableEntry) (pc e : Nat) : Prop := ∀ z ∈ tbl, covers z pc = false ∨ (z.catchType ≠ 0 ∧ ∃ nm : String, (Cond.classLink own z.catchType nm).before args s = true ∧ va_Nc (ax_en e) nm s)
variable {l : Launch} {p : Program} {e : Env} {R : Room} {s : State} {m : MethodId} {args : Array Value} {below : List Frame} {meth : Method} {c : Code} {base : Nat} {D : va_G} {cA : Nat → ClassId} {nL : Nat} {Q : State → Prop} {own : String} {cc : ByteArray} {P : ax_P}
def ax_Cx (p : Program) (R : Room) (s : State) (m : MethodId) (args : Array Value) (c : Code) (base : Nat) (D : va_G) (cA : Nat → ClassId) (nL fr lo : Nat) (own : String) (cc : ByteArray) (P : ax_P) : Prop :=
  p.tables.exec = Jvm.exec ∧ c.code = cc ∧ c.maxLocals = nL ∧ s.vm.findClass own = some m.cls ∧ (∀ w ∈ ax_T, w.before args s = true) ∧ va_K D vwCl (ax_tys cA) s ∧ ax_Z base s s.heap ∧ ax_Y ax_sts ax_nes s ∧ (∀ q, ax_scr P = some q → va_X q.1 q.2.1 q.2.2 s s.heap ∧ q.1 < s.heap.size ∧ q.1 < base ∧ q.2.1 < 2 ^ 31) ∧ ax_mc P ≤ R.cells ∧ ax_ms P ≤ R.slots ∧ fr ≤ R.frames ∧ lo ≤ R.locals
/-- a call, whatever it answers -/
theorem ax_callW {H : Heap} {locs : List Loc} {cells slots mc ms pc : Nat} {ls : Array Slot} {st0 rest : List Value} {a : Array Value} {rr : ax_Fin}
    (hr : vx_Run p l e R s m args below meth c H locs cells slots mc ms (F0 m pc ls st0) rest (ax_Qr base D cA rr a) (ax_Xr base D cA rr) (ax_A base)) (hS : va_S (ax_A base) s.heap H locs)
    (kx : ∀ (x : Nat) (f : ax_F) (g : ax_G) (H1 : Heap) (locs1 : List Loc) (q9 : Addr) (ce : Cell), rr = (.inr x, f, g) → va_P D vwCl (ax_ws base cA f g) H1 → va_S (ax_A base) s.heap H1 locs1 → H1[q9]? = some ce → ce.vm = .none → s.vm.findClass (ax_en x) = some ce.cls → vx_W p l e R s m args below meth c H1 locs1 (cells + mc) (slots + ms) Q (F0 m pc ls rest) q9)
    (kk : ∀ (v : Option ax_V) (f : ax_F) (g : ax_G) (H1 : Heap) (locs1 : List Loc), rr = (.inl v, f, g) → (∀ x, v = some x → ax_ok x) → va_P D vwCl (ax_ws base cA f g) H1 → va_S (ax_A base) s.heap H1 locs1 → W p l e R s m args below meth c H1 locs1 (cells + mc) (slots + ms) Q (F0 m (pc + 3) ls ((v.map (ax_c base)).toList ++ rest))) :
    W p l e R s m args below meth c H locs cells slots Q (F0 m pc ls st0) := by
  intro T hT X
  rcases hr T hT X with ⟨v, st₀, t, T', L, h0, X', hL, e1, e2, ⟨⟨v', f, g, hrr, hv, hok, hP⟩, hF⟩, st⟩ | ⟨q, st₀, t, T', L, E, ce, h0, X', hL, e1, e2, ⟨⟨x, f, g, hrr, hE, hP⟩, hF⟩, hce, hcv, hcl, st⟩
  · cases hv
    obtain ⟨k1, k2, k3⟩ := vx_keep h0 e1 hS (fun _ _ h => h) (fun _ h => h) hL hF
    obtain ⟨t2, a1, b1⟩ := kk v' f g T'.heap (locs ++ L) hrr hok (by rw [e1]; exact hP) k3 T' rfl X'
    exact ⟨t2, st t2 a1, b1⟩
  · subst hE
    obtain ⟨k1, k2, k3⟩ := vx_keep h0 e1 hS (fun _ _ h => h) (fun _ h => h) hL hF
    obtain ⟨t2, a1, b1⟩ := kx x f g T'.heap (locs ++ L) q ce hrr (by rw [e1]; exact hP) k3 (by rw [e1]; exact hce) hcv hcl T' rfl X'
    exact ⟨t2, st.trans a1, b1⟩
theorem ax_en_ne {x y : Nat} (h : ax_xd x y = true) : ax_en y ≠ ax_en x := by
  unfold ax_xd at h
  simp only [Bool.and_eq_true, Bool.not_eq_true'] at h
  obtain ⟨⟨⟨h1, h2⟩, h3, h4⟩, h5⟩ := h
  have a1 := Nat.le_of_ble_eq_true h1
  have a2 := Nat.le_of_ble_eq_true h2
  have a3 := Nat.le_of_ble_eq_true h3
  have a4 := Nat.le_of_ble_eq_true h4
  have hx : x = 1 ∨ x = 2 ∨ x = 3 := by omega
  have hy : y = 1 ∨ y = 2 ∨ y = 3 := by omega
  rcases hx with rfl | rfl | rfl <;> rcases hy with rfl | rfl | rfl <;> first | (cases h5; done) | decide
/-- what is thrown is caught here, or goes out -/
theorem ax_thrW {k : ax_K} {r : ax_Fin} {fr lo : Nat} (C : ax_Cx p R s m args c base D cA nL fr lo own cc P)
    (hk : ∀ pc L st f g cs ss, k pc L st f g cs ss = some r → ax_At l p e R s m args below meth c base D cA nL (ax_mc P) (ax_ms P) Q pc L st f g cs ss)
    {x : Nat} {f : ax_F} {g : ax_G} {H : Heap} {locs : List Loc} {q9 : Addr} {ce : Cell} {pc : Nat} {L : ax_L} {ls : Array Slot} {rest : List Value} {cs ss : Nat}
    (hP : va_P D vwCl (ax_ws base cA f g) H) (hS : va_S (ax_A base) s.heap H locs) (hq : H[q9]? = some ce) (hv : ce.vm = .none) (hcl : s.vm.findClass (ax_en x) = some ce.cls) (hL : ax_Ls base nL L ls) (hoL : ∀ i v, ax_nth L i = some v → ax_ok v) (hc : cs ≤ ax_mc P) (hs : ss ≤ ax_ms P)
    (hout : r = (.inr x, f, g) → ax_Pass own args s c.exceptionTable.toList pc x → vx_W p l e R s m args below meth c H locs cs ss Q (F0 m pc ls rest) q9) :
    ∀ (hh : List (Nat × Nat × Nat × Nat × Nat)) (pre tbl : List ExceptionTableEntry), c.exceptionTable.toList = pre ++ tbl → ax_Pass own args s pre pc x → ax_Hd own cc nL hh tbl → ax_thr hh pc x L f g cs ss k = some r → vx_W p l e R s m args below meth c H locs cs ss Q (F0 m pc ls rest) q9 := by
  obtain ⟨hx, hb, hml, hown, hts, hK, hZ, hY, hscr, hmc, hms, hfr, hlo⟩ := C
  intro hh
  induction hh with
  | nil =>
    intro pre tbl hsp hpass hd h
    cases tbl with
    | cons z zs => exact absurd hd (fun h => h)
    | nil =>
      rw [List.append_nil] at hsp
      have h' : some (.inr x, f, g) = some r := h
      cases h'
      exact hout rfl (by rw [hsp]; exact hpass)
  | cons q hh ih =>
    obtain ⟨a, b, x', n, t⟩ := q
    intro pre tbl hsp hpass hd h
    cases tbl with
    | nil => exact absurd hd (fun h => h)
    | cons z zs =>
      obtain ⟨h1, h2, h3, h4, h5, h6, h7⟩ := hd
      have h' : (bif Nat.ble a pc && Nat.blt pc b then (bif Nat.beq x' x then k t (ax_kl L n) [] f g cs ss else bif ax_xd x' x then ax_thr hh pc x L f g cs ss k else none) else ax_thr hh pc x L f g cs ss k) = some r := h
      have hcov : covers z pc = (Nat.ble a pc && Nat.blt pc b) := by
        show (decide (z.startPc ≤ pc) && decide (pc < z.endPc)) = _
        rw [h1, h2]
        congr 1
        · by_cases q : a ≤ pc
          · rw [decide_eq_true q]; exact (Nat.ble_eq_true_of_le q).symm
          · rw [decide_eq_false q]
            cases w : Nat.ble a pc with
            | true => exact absurd (Nat.le_of_ble_eq_true w) q
            | false => rfl
        · by_cases q : pc < b
          · rw [decide_eq_true q]; exact (Nat.ble_eq_true_of_le q).symm
          · rw [decide_eq_false q]
            cases w : Nat.blt pc b with
            | true => exact absurd (Nat.le_of_ble_eq_true w) q
            | false => rfl
      cases hw : (Nat.ble a pc && Nat.blt pc b) with
      | false =>
        rw [hw] at h' hcov
        refine ih (pre ++ [z]) zs (by rw [hsp, List.append_assoc]; rfl) (fun w hw2 => ?_) h7 h'
        rcases List.mem_append.mp hw2 with hw2 | hw2
        · exact hpass w hw2
        · rw [List.mem_singleton] at hw2
          subst hw2
          exact Or.inl hcov
      | true =>
        rw [hw] at h' hcov
        have h' : (bif Nat.beq x' x then k t (ax_kl L n) [] f g cs ss else bif ax_xd x' x then ax_thr hh pc x L f g cs ss k else none) = some r := h'
        cases hx2 : Nat.beq x' x with
        | true =>
          rw [hx2] at h'
          have e1 := Nat.eq_of_beq_eq_true hx2
          subst e1
          refine vx_catch (E := ax_en x') (name := ax_en x') hown pre z zs hsp hpass hcov h3 (hts _ h4) ((hY.2.2.1 _ _ (ax_cast x')).use rfl) hq hv hcl ?_
          have h8 : ∀ ls', lv_has ls' nL ((n, Value.ref q9) :: (ax_lv base L).filter (fun q => !(q.1 == n) && !(q.1 + 1 == n && q.2.category == 2))) → W p l e R s m args below meth c H locs cs ss Q (F0 m t ls' []) := fun ls' hls' =>
            hk _ _ _ _ _ _ _ h' H locs ls' hP hS (ax_Ls_kl hL.1 hls') (fun v hv => by cases hv) (fun i v hv => by
              rw [ax_nth_kl] at hv
              by_cases q1 : i = n
              · rw [if_pos q1] at hv; cases hv
              · rw [if_neg q1] at hv
                by_cases q2 : i + 1 = n
                · rw [if_pos q2] at hv
                  exact hoL i v (ax_nl_i hv).1
                · rw [if_neg q2] at hv
                  exact hoL i v hv) hc hs
          rcases h6 with ⟨h6, rfl⟩ | ⟨k4, h6, hk4, rfl⟩
          · exact lv_astore hx hb h6 hL.has h5 rfl h8
          · exact lv_astore_n hx hb h6 hk4 hL.has h5 rfl h8
        | false =>
          rw [hx2] at h'
          have h' : (bif ax_xd x' x then ax_thr hh pc x L f g cs ss k else none) = some r := h'
          cases hx3 : ax_xd x' x with
          | false => rw [hx3] at h'; cases h'
          | true =>
            rw [hx3] at h'
            refine ih (pre ++ [z]) zs (by rw [hsp, List.append_assoc]; rfl) (fun w hw2 => ?_) h7 h'
            rcases List.mem_append.mp hw2 with hw2 | hw2
            · exact hpass w hw2
            · rw [List.mem_singleton] at hw2
              subst hw2
              exact Or.inr ⟨h3, ax_en x', hts _ h4, hY.2.2.2.1 x x' (ax_en_ne hx3)⟩
end AXU
end
section
/-! soundness, instruction by instruction -/
section AXI
variable {l : Launch} {p : Program} {e : Env} {R : Room} {s : State} {m : MethodId} {args : Array Value} {below : List Frame} {meth : Method} {c : Code} {base : Nat} {D : va_G} {cA : Nat → ClassId} {nL : Nat} {Q : State → Prop} {own : String} {cc : ByteArray} {P : ax_P}
theorem ax_ok_s1 {L : ax_L} {t : Nat} {w : ax_V} (hw : ax_ok w) (h : ∀ i v, ax_nth L i = some v → ax_ok v) : ∀ i v, ax_nth (ax_s1 L t w) i = some v → ax_ok v := by
  intro i v hv
  rw [ax_nth_s1] at hv
  by_cases e : i = t
  · rw [if_pos e] at hv
    by_cases e2 : t < L.length
    · rw [if_pos e2] at hv; cases hv; exact hw
    · rw [if_neg e2] at hv; cases hv
  · rw [if_neg e] at hv
    by_cases e2 : i + 1 = t
    · rw [if_pos e2] at hv; exact h i v (ax_nl_i hv).1
    · rw [if_neg e2] at hv; exact h i v hv
theorem ax_ok_s2 {L : ax_L} {t : Nat} {w : ax_V} (hw : ax_ok w) (h : ∀ i v, ax_nth L i = some v → ax_ok v) : ∀ i v, ax_nth (ax_s2 L t w) i = some v → ax_ok v := by
  intro i v hv
  rw [ax_nth_s2] at hv
  by_cases e : i = t
  · rw [if_pos e] at hv
    by_cases e2 : t < L.length
    · rw [if_pos e2] at hv; cases hv; exact hw
    · rw [if_neg e2] at hv; cases hv
  · rw [if_neg e] at hv
    by_cases e3 : i = t + 1
    · rw [if_pos e3] at hv; cases hv
    rw [if_neg e3] at hv
    by_cases e2 : i + 1 = t
    · rw [if_pos e2] at hv; exact h i v (ax_nl_i hv).1
    · rw [if_neg e2] at hv; exact h i v hv
theorem ax_ft3 (ci j : Nat) (h : ax_ft ci j ≠ 3) : ax_ft ci j = 0 ∨ ax_ft ci j = 1 ∨ ax_ft ci j = 2 := by
  unfold ax_ft at h ⊢
  split
  all_goals first
    | (split <;> first | exact Or.inl rfl | exact Or.inr (Or.inl rfl) | exact Or.inr (Or.inr rfl) | (exfalso; simp at h; done))
    | (revert h; cases Nat.beq j 40 <;> cases Nat.blt j 9 <;> cases Nat.beq j 28 <;> cases Nat.blt j 30 <;> cases Nat.blt j 34 <;> simp)
    | exact Or.inl rfl
theorem ax_len252 {a t n : Nat} (h : ax_ka a = some (t, n)) : n < 2 ^ 31 := Nat.lt_of_le_of_lt (ax_ka_t h).2 (by decide)
set_option maxHeartbeats 8000000 in
theorem ax_sound_ins {k : ax_K} {r : ax_Fin} {fr lo : Nat} (C : ax_Cx p R s m args c base D cA nL fr lo own cc P) (O : ax_Ok l own cc nL fr lo P c.exceptionTable.toList)
    (hk : ∀ pc L st f g cs ss, k pc L st f g cs ss = some r → ax_At l p e R s m args below meth c base D cA nL (ax_mc P) (ax_ms P) Q pc L st f g cs ss)
    (hret : ∀ (v : Option ax_V) (f : ax_F) (g : ax_G) (pc : Nat) (i : Instr) (H : Heap) (locs : List Loc) (ls : Array Slot) (cs ss : Nat), r = (.inl v, f, g) → decode cc pc = .ok (i, 1) → ax_Rt (ax_ret P) i v → va_P D vwCl (ax_ws base cA f g) H → va_S (ax_A base) s.heap H locs → (∀ x, v = some x → ax_ok x) → cs ≤ ax_mc P → ss ≤ ax_ms P → W p l e R s m args below meth c H locs cs ss Q (F0 m pc ls ((v.map (ax_c base)).toList)))
    (hout : ∀ (x : Nat) (f : ax_F) (g : ax_G) (pc : Nat) (H : Heap) (locs : List Loc) (ls : Array Slot) (rest : List Value) (cs ss : Nat) (q9 : Addr) (ce : Cell), r = (.inr x, f, g) → ax_Pass own args s c.exceptionTable.toList pc x → va_P D vwCl (ax_ws base cA f g) H → va_S (ax_A base) s.heap H locs → H[q9]? = some ce → ce.vm = .none → s.vm.findClass (ax_en x) = some ce.cls → cs ≤ ax_mc P → ss ≤ ax_ms P → vx_W p l e R s m args below meth c H locs cs ss Q (F0 m pc ls rest) q9)
    (hnew : ∀ (x : Nat) (f : ax_F) (g : ax_G) (pc : Nat) (H : Heap) (locs : List Loc) (ls : Array Slot) (st : List ax_V) (cs ss : Nat), r = (.inr x, f, g) → (pc, x) ∈ ax_excs P → c.exceptionTable.toList = [] → va_P D vwCl (ax_ws base cA f g) H → va_S (ax_A base) s.heap H locs → ls.size = nL → ax_wd st ≤ 8 → cs + 1 ≤ ax_mc P → ss + 6 ≤ ax_ms P → W p l e R s m args below meth c H locs cs ss Q (F0 m pc ls (st.map (ax_c base))))
    {pc n t : Nat} {v : Int32} {i : Instr} {L : ax_L} {st : List ax_V} {f : ax_F} {g : ax_G} {cs ss : Nat} (hdec : decode cc pc = .ok (i, n)) (hpar : ax_par own pc i n t v = true) (h : ax_ins P pc n t v i L st f g cs ss k = some r) : ax_At l p e R s m args below meth c base D cA nL (ax_mc P) (ax_ms P) Q pc L st f g cs ss := by
  have C0 := C
  obtain ⟨hx, hb, hml, hown, hts, hK, hZ, hY, hscr, hmc, hms, hfr, hlo⟩ := C
  obtain ⟨Oc, Of, Ol, Ox, Os, Oh⟩ := O
  cases i
  case iconst x =>
    simp only [ax_par, Bool.and_eq_true, decide_eq_true_eq] at hpar
    obtain ⟨rfl, hv⟩ := hpar
    intro H locs ls hP hS hL ho hoL hc hs
    exact lv_iconst hx hb hdec hv (hk _ _ _ _ _ _ _ h H locs ls hP hS hL (ax_okc trivial ho) hoL hc hs)
  case bipush x =>
    simp only [ax_par, Bool.and_eq_true, decide_eq_true_eq] at hpar
    obtain ⟨rfl, hv⟩ := hpar
    intro H locs ls hP hS hL ho hoL hc hs
    exact lv_bipush hx hb hdec hv (hk _ _ _ _ _ _ _ h H locs ls hP hS hL (ax_okc trivial ho) hoL hc hs)
  case sipush x =>
    simp only [ax_par, Bool.and_eq_true, decide_eq_true_eq] at hpar
    obtain ⟨rfl, hv⟩ := hpar
    intro H locs ls hP hS hL ho hoL hc hs
    exact lv_sipush hx hb hdec hv (hk _ _ _ _ _ _ _ h H locs ls hP hS hL (ax_okc trivial ho) hoL hc hs)
  case ldc x =>
    simp only [ax_par, Bool.and_eq_true, decide_eq_true_eq] at hpar
    obtain ⟨rfl, hv⟩ := hpar
    intro H locs ls hP hS hL ho hoL hc hs
    exact W.ldc hx hb hown (hts _ (ax_inT hv)) rfl hdec (hk _ _ _ _ _ _ _ h H locs ls hP hS hL (ax_okc trivial ho) hoL hc hs)
  case ldc_w x =>
    simp only [ax_par, Bool.and_eq_true, decide_eq_true_eq] at hpar
    obtain ⟨rfl, hv⟩ := hpar
    intro H locs ls hP hS hL ho hoL hc hs
    exact lv_ldcw hx hb hown (hts _ (ax_inT hv)) hdec (hk _ _ _ _ _ _ _ h H locs ls hP hS hL (ax_okc trivial ho) hoL hc hs)
  case ldc2_w x =>
    simp only [ax_par, decide_eq_true_eq] at hpar
    subst hpar
    obtain ⟨y, hy, h_1⟩ := ax_ob_i h
    intro H locs ls hP hS hL ho hoL hc hs
    exact W.ldc2 hx hb hown (hts _ (Ox _ (ax_lk_mem _ hy))) rfl hdec (hk _ _ _ _ _ _ _ h_1 H locs ls hP hS hL (ax_okc trivial ho) hoL hc hs)
  case aconst_null =>
    have hn : n = 1 := of_decide_eq_true hpar
    subst hn
    intro H locs ls hP hS hL ho hoL hc hs
    exact lv_null hx hb hdec (hk _ _ _ _ _ _ _ h H locs ls hP hS hL (ax_okc trivial ho) hoL hc hs)
  case dconst d =>
    simp only [ax_par, Bool.and_eq_true, decide_eq_true_eq] at hpar
    obtain ⟨rfl, rfl, rfl⟩ := hpar
    intro H locs ls hP hS hL ho hoL hc hs
    exact lv_dconst0 hx hb hdec (hk _ _ _ _ _ _ _ h H locs ls hP hS hL (ax_okc trivial ho) hoL hc hs)
  case iload x =>
    simp only [ax_par, Bool.and_eq_true, decide_eq_true_eq] at hpar
    obtain ⟨rfl, rfl⟩ := hpar
    obtain ⟨y, hx1, h_1⟩ := ax_oi_i h
    intro H locs ls hP hS hL ho hoL hc hs
    exact lv_iload hx hb hdec (hL.2.2.2 _ _ hx1) (hk _ _ _ _ _ _ _ h_1 H locs ls hP hS hL (ax_okc trivial ho) hoL hc hs)
  case iload_n x =>
    simp only [ax_par, Bool.and_eq_true, decide_eq_true_eq] at hpar
    obtain ⟨rfl, ht⟩ := hpar
    obtain ⟨y, hx1, h_1⟩ := ax_oi_i h
    intro H locs ls hP hS hL ho hoL hc hs
    exact lv_iload_n hx hb hdec ht (hL.2.2.2 _ _ hx1) (hk _ _ _ _ _ _ _ h_1 H locs ls hP hS hL (ax_okc trivial ho) hoL hc hs)
  case lload_n x =>
    simp only [ax_par, Bool.and_eq_true, decide_eq_true_eq] at hpar
    obtain ⟨rfl, ht⟩ := hpar
    obtain ⟨y, hx1, h_1⟩ := ax_ol_i h
    intro H locs ls hP hS hL ho hoL hc hs
    exact lv_lload_n hx hb hdec ht (hL.2.2.2 _ _ hx1) (hk _ _ _ _ _ _ _ h_1 H locs ls hP hS hL (ax_okc trivial ho) hoL hc hs)
  case dload x =>
    simp only [ax_par, Bool.and_eq_true, decide_eq_true_eq] at hpar
    obtain ⟨rfl, rfl⟩ := hpar
    obtain ⟨y, hx1, h_1⟩ := ax_od_i h
    intro H locs ls hP hS hL ho hoL hc hs
    exact lv_dload hx hb hdec (hL.2.2.2 _ _ hx1) (hk _ _ _ _ _ _ _ h_1 H locs ls hP hS hL (ax_okc trivial ho) hoL hc hs)
  case dload_n x =>
    simp only [ax_par, Bool.and_eq_true, decide_eq_true_eq] at hpar
    obtain ⟨rfl, ht⟩ := hpar
    obtain ⟨y, hx1, h_1⟩ := ax_od_i h
    intro H locs ls hP hS hL ho hoL hc hs
    exact lv_dload_n hx hb hdec ht (hL.2.2.2 _ _ hx1) (hk _ _ _ _ _ _ _ h_1 H locs ls hP hS hL (ax_okc trivial ho) hoL hc hs)
  case aload x =>
    simp only [ax_par, Bool.and_eq_true, decide_eq_true_eq] at hpar
    obtain ⟨rfl, rfl⟩ := hpar
    obtain ⟨y, hx1, h_1⟩ := ax_ob_i h
    obtain ⟨hy, h_2⟩ := ax_gd_i h_1
    intro H locs ls hP hS hL ho hoL hc hs
    have hkk := hk _ _ _ _ _ _ _ h_2 H locs ls hP hS hL (ax_okc (hoL _ _ hx1) ho) hoL hc hs
    have hl1 := hL.2.2.2 _ _ hx1
    rcases ax_isr_i hy with rfl | ⟨b, rfl⟩ | ⟨q, rfl⟩
    · exact lv_aloadN hx hb hdec hl1 hkk
    · exact lv_aload hx hb hdec hl1 hkk
    · exact lv_aload hx hb hdec hl1 hkk
  case aload_n x =>
    simp only [ax_par, Bool.and_eq_true, decide_eq_true_eq] at hpar
    obtain ⟨rfl, ht⟩ := hpar
    obtain ⟨y, hx1, h_1⟩ := ax_ob_i h
    obtain ⟨hy, h_2⟩ := ax_gd_i h_1
    intro H locs ls hP hS hL ho hoL hc hs
    have hkk := hk _ _ _ _ _ _ _ h_2 H locs ls hP hS hL (ax_okc (hoL _ _ hx1) ho) hoL hc hs
    have hl1 := hL.2.2.2 _ _ hx1
    rcases ax_isr_i hy with rfl | ⟨b, rfl⟩ | ⟨q, rfl⟩
    · exact lv_aload_nN hx hb hdec ht hl1 hkk
    · exact lv_aload_n hx hb hdec ht hl1 hkk
    · exact lv_aload_n hx hb hdec ht hl1 hkk
  case istore x =>
    simp only [ax_par, Bool.and_eq_true, decide_eq_true_eq] at hpar
    obtain ⟨rfl, rfl⟩ := hpar
    obtain ⟨y, rt, rfl, h_1⟩ := ax_i1_i h
    obtain ⟨hlt, h_2⟩ := ax_gd_i h_1
    intro H locs ls hP hS hL ho hoL hc hs
    exact lv_istore hx hb hdec hL.has (by rw [← hL.1]; exact Nat.le_of_ble_eq_true hlt) rfl (fun ls' hls' => hk _ _ _ _ _ _ _ h_2 H locs ls' hP hS (ax_Ls_s1 hL.1 hls') (ax_okt ho) (ax_ok_s1 trivial hoL) hc hs)
  case istore_n x =>
    simp only [ax_par, Bool.and_eq_true, decide_eq_true_eq] at hpar
    obtain ⟨rfl, ht⟩ := hpar
    obtain ⟨y, rt, rfl, h_1⟩ := ax_i1_i h
    obtain ⟨hlt, h_2⟩ := ax_gd_i h_1
    intro H locs ls hP hS hL ho hoL hc hs
    exact lv_istore_n hx hb hdec ht hL.has (by rw [← hL.1]; exact Nat.le_of_ble_eq_true hlt) rfl (fun ls' hls' => hk _ _ _ _ _ _ _ h_2 H locs ls' hP hS (ax_Ls_s1 hL.1 hls') (ax_okt ho) (ax_ok_s1 trivial hoL) hc hs)
  case lstore_n x =>
    simp only [ax_par, Bool.and_eq_true, decide_eq_true_eq] at hpar
    obtain ⟨rfl, ht⟩ := hpar
    obtain ⟨y, rt, rfl, h_1⟩ := ax_l1_i h
    obtain ⟨hlt, h_2⟩ := ax_gd_i h_1
    intro H locs ls hP hS hL ho hoL hc hs
    exact lv_lstore_n hx hb hdec ht hL.has (by rw [← hL.1]; exact Nat.le_of_ble_eq_true hlt) rfl (fun ls' hls' => hk _ _ _ _ _ _ _ h_2 H locs ls' hP hS (ax_Ls_s2 hL.1 hls') (ax_okt ho) (ax_ok_s2 trivial hoL) hc hs)
  case dstore x =>
    simp only [ax_par, Bool.and_eq_true, decide_eq_true_eq] at hpar
    obtain ⟨rfl, rfl⟩ := hpar
    obtain ⟨y, rt, rfl, h_1⟩ := ax_d1_i h
    obtain ⟨hlt, h_2⟩ := ax_gd_i h_1
    intro H locs ls hP hS hL ho hoL hc hs
    exact lv_dstore hx hb hdec hL.has (by rw [← hL.1]; exact Nat.le_of_ble_eq_true hlt) rfl (fun ls' hls' => hk _ _ _ _ _ _ _ h_2 H locs ls' hP hS (ax_Ls_s2 hL.1 hls') (ax_okt ho) (ax_ok_s2 trivial hoL) hc hs)
  case dstore_n x =>
    simp only [ax_par, Bool.and_eq_true, decide_eq_true_eq] at hpar
    obtain ⟨rfl, ht⟩ := hpar
    obtain ⟨y, rt, rfl, h_1⟩ := ax_d1_i h
    obtain ⟨hlt, h_2⟩ := ax_gd_i h_1
    intro H locs ls hP hS hL ho hoL hc hs
    exact lv_dstore_n hx hb hdec ht hL.has (by rw [← hL.1]; exact Nat.le_of_ble_eq_true hlt) rfl (fun ls' hls' => hk _ _ _ _ _ _ _ h_2 H locs ls' hP hS (ax_Ls_s2 hL.1 hls') (ax_okt ho) (ax_ok_s2 trivial hoL) hc hs)
  case astore x =>
    simp only [ax_par, Bool.and_eq_true, decide_eq_true_eq] at hpar
    obtain ⟨rfl, rfl⟩ := hpar
    obtain ⟨y, rt, rfl, h_1⟩ := ax_v1_i h
    obtain ⟨hy, h_2⟩ := ax_gd_i h_1
    obtain ⟨hlt, h_3⟩ := ax_gd_i h_2
    intro H locs ls hP hS hL ho hoL hc hs
    have hlt' : x < nL := by rw [← hL.1]; exact Nat.le_of_ble_eq_true hlt
    have hoy := ho _ List.mem_cons_self
    have hkk := fun ls' hls' => hk _ _ _ _ _ _ _ h_3 H locs ls' hP hS hls' (ax_okt ho) (ax_ok_s1 hoy hoL) hc hs
    rcases ax_isr_i hy with rfl | ⟨b, rfl⟩ | ⟨q, rfl⟩
    · exact lv_astoreN hx hb hdec hL.has hlt' rfl (fun ls' hls' => hkk ls' (ax_Ls_s1 (v := .inl .null) hL.1 hls'))
    · exact lv_astore hx hb hdec hL.has hlt' rfl (fun ls' hls' => hkk ls' (ax_Ls_s1 (v := .inl (.ref b)) hL.1 hls'))
    · exact lv_astore hx hb hdec hL.has hlt' rfl (fun ls' hls' => hkk ls' (ax_Ls_s1 (v := .inr q) hL.1 hls'))
  case astore_n x =>
    simp only [ax_par, Bool.and_eq_true, decide_eq_true_eq] at hpar
    obtain ⟨rfl, ht⟩ := hpar
    obtain ⟨y, rt, rfl, h_1⟩ := ax_v1_i h
    obtain ⟨hy, h_2⟩ := ax_gd_i h_1
    obtain ⟨hlt, h_3⟩ := ax_gd_i h_2
    intro H locs ls hP hS hL ho hoL hc hs
    have hlt' : t < nL := by rw [← hL.1]; exact Nat.le_of_ble_eq_true hlt
    have hoy := ho _ List.mem_cons_self
    have hkk := fun ls' hls' => hk _ _ _ _ _ _ _ h_3 H locs ls' hP hS hls' (ax_okt ho) (ax_ok_s1 hoy hoL) hc hs
    rcases ax_isr_i hy with rfl | ⟨b, rfl⟩ | ⟨q, rfl⟩
    · exact lv_astore_nN hx hb hdec ht hL.has hlt' rfl (fun ls' hls' => hkk ls' (ax_Ls_s1 (v := .inl .null) hL.1 hls'))
    · exact lv_astore_n hx hb hdec ht hL.has hlt' rfl (fun ls' hls' => hkk ls' (ax_Ls_s1 (v := .inl (.ref b)) hL.1 hls'))
    · exact lv_astore_n hx hb hdec ht hL.has hlt' rfl (fun ls' hls' => hkk ls' (ax_Ls_s1 (v := .inr q) hL.1 hls'))
  case iinc x y =>
    simp only [ax_par, Bool.and_eq_true, decide_eq_true_eq] at hpar
    obtain ⟨rfl, rfl, hv⟩ := hpar
    obtain ⟨z, hx1, h_1⟩ := ax_oi_i h
    obtain ⟨hlt, h_2⟩ := ax_gd_i h_1
    intro H locs ls hP hS hL ho hoL hc hs
    obtain ⟨q, hq⟩ := List.getElem?_of_mem (ax_lv_in (base := base) hx1)
    exact lv_iinc (x := z) hx hb hdec hL.has hq (by rw [hv]) (by rw [← hL.1]; exact Nat.le_of_ble_eq_true hlt) rfl (fun ls' hls' => hk _ _ _ _ _ _ _ h_2 H locs ls' hP hS (ax_Ls_s1 (v := .inl (.int (z + v))) hL.1 hls') ho (ax_ok_s1 trivial hoL) hc hs)
  case pop =>
    have hn : n = 1 := of_decide_eq_true hpar
    subst hn
    obtain ⟨y, rt, rfl, h_1⟩ := ax_v1_i h
    obtain ⟨hy, h_2⟩ := ax_gd_i h_1
    have hcat : ∀ v : ax_V, ax_one v = true → (ax_c base v).category = 1 := fun v hv => by
      rcases v with v | q
      · cases v <;> first | rfl | cases hv
      · rfl
    intro H locs ls hP hS hL ho hoL hc hs
    exact lv_pop hx hb hdec (hcat y hy) (hk _ _ _ _ _ _ _ h_2 H locs ls hP hS hL (ax_okt ho) hoL hc hs)
  case dup =>
    have hn : n = 1 := of_decide_eq_true hpar
    subst hn
    obtain ⟨y, rt, rfl, h_1⟩ := ax_v1_i h
    obtain ⟨hy, h_2⟩ := ax_gd_i h_1
    have hcat : ∀ v : ax_V, ax_one v = true → (ax_c base v).category = 1 := fun v hv => by
      rcases v with v | q
      · cases v <;> first | rfl | cases hv
      · rfl
    intro H locs ls hP hS hL ho hoL hc hs
    exact lv_dup hx hb hdec (hcat y hy) (hk _ _ _ _ _ _ _ h_2 H locs ls hP hS hL (ax_okc (ho _ List.mem_cons_self) ho) hoL hc hs)
  case dup2 =>
    have hn : n = 1 := of_decide_eq_true hpar
    subst hn
    obtain ⟨y, rt, rfl, h_1⟩ := ax_v1_i h
    obtain ⟨z, rt, rfl, h_2⟩ := ax_v1_i h_1
    obtain ⟨hy, h_3⟩ := ax_gd_i h_2
    obtain ⟨hz, h_4⟩ := ax_gd_i h_3
    have hcat : ∀ v : ax_V, ax_one v = true → (ax_c base v).category = 1 := fun v hv => by
      rcases v with v | q
      · cases v <;> first | rfl | cases hv
      · rfl
    intro H locs ls hP hS hL ho hoL hc hs
    exact lv_dup2_11 hx hb hdec (hcat y hy) (hcat z hz) (hk _ _ _ _ _ _ _ h_4 H locs ls hP hS hL (ax_okc (ho _ List.mem_cons_self) (ax_okc (ho _ (List.mem_cons_of_mem _ List.mem_cons_self)) ho)) hoL hc hs)
  case iadd =>
    have hn : n = 1 := of_decide_eq_true hpar
    subst hn
    obtain ⟨x, y, rt, rfl, h_1⟩ := ax_i2_i h
    intro H locs ls hP hS hL ho hoL hc hs
    exact lv_iadd hx hb hdec (hk _ _ _ _ _ _ _ h_1 H locs ls hP hS hL (ax_okc trivial (ax_okt (ax_okt ho))) hoL hc hs)
  case isub =>
    have hn : n = 1 := of_decide_eq_true hpar
    subst hn
    obtain ⟨x, y, rt, rfl, h_1⟩ := ax_i2_i h
    intro H locs ls hP hS hL ho hoL hc hs
    exact lv_isub hx hb hdec (hk _ _ _ _ _ _ _ h_1 H locs ls hP hS hL (ax_okc trivial (ax_okt (ax_okt ho))) hoL hc hs)
  case imul =>
    have hn : n = 1 := of_decide_eq_true hpar
    subst hn
    obtain ⟨x, y, rt, rfl, h_1⟩ := ax_i2_i h
    intro H locs ls hP hS hL ho hoL hc hs
    exact lv_imul hx hb hdec (hk _ _ _ _ _ _ _ h_1 H locs ls hP hS hL (ax_okc trivial (ax_okt (ax_okt ho))) hoL hc hs)
  case iand =>
    have hn : n = 1 := of_decide_eq_true hpar
    subst hn
    obtain ⟨x, y, rt, rfl, h_1⟩ := ax_i2_i h
    intro H locs ls hP hS hL ho hoL hc hs
    exact lv_iand hx hb hdec (hk _ _ _ _ _ _ _ h_1 H locs ls hP hS hL (ax_okc trivial (ax_okt (ax_okt ho))) hoL hc hs)
  case ior =>
    have hn : n = 1 := of_decide_eq_true hpar
    subst hn
    obtain ⟨x, y, rt, rfl, h_1⟩ := ax_i2_i h
    intro H locs ls hP hS hL ho hoL hc hs
    exact lv_ior hx hb hdec (hk _ _ _ _ _ _ _ h_1 H locs ls hP hS hL (ax_okc trivial (ax_okt (ax_okt ho))) hoL hc hs)
  case ixor =>
    have hn : n = 1 := of_decide_eq_true hpar
    subst hn
    obtain ⟨x, y, rt, rfl, h_1⟩ := ax_i2_i h
    intro H locs ls hP hS hL ho hoL hc hs
    exact lv_ixor hx hb hdec (hk _ _ _ _ _ _ _ h_1 H locs ls hP hS hL (ax_okc trivial (ax_okt (ax_okt ho))) hoL hc hs)
  case ishl =>
    have hn : n = 1 := of_decide_eq_true hpar
    subst hn
    obtain ⟨x, y, rt, rfl, h_1⟩ := ax_i2_i h
    intro H locs ls hP hS hL ho hoL hc hs
    exact lv_ishl hx hb hdec (hk _ _ _ _ _ _ _ h_1 H locs ls hP hS hL (ax_okc trivial (ax_okt (ax_okt ho))) hoL hc hs)
  case ishr =>
    have hn : n = 1 := of_decide_eq_true hpar
    subst hn
    obtain ⟨x, y, rt, rfl, h_1⟩ := ax_i2_i h
    intro H locs ls hP hS hL ho hoL hc hs
    exact lv_ishr hx hb hdec (hk _ _ _ _ _ _ _ h_1 H locs ls hP hS hL (ax_okc trivial (ax_okt (ax_okt ho))) hoL hc hs)
  case iushr =>
    have hn : n = 1 := of_decide_eq_true hpar
    subst hn
    obtain ⟨x, y, rt, rfl, h_1⟩ := ax_i2_i h
    intro H locs ls hP hS hL ho hoL hc hs
    exact lv_iushr hx hb hdec rfl (hk _ _ _ _ _ _ _ h_1 H locs ls hP hS hL (ax_okc trivial (ax_okt (ax_okt ho))) hoL hc hs)
  case idiv =>
    have hn : n = 1 := of_decide_eq_true hpar
    subst hn
    obtain ⟨x, y, rt, rfl, h_1⟩ := ax_i2_i h
    by_cases hy : y = 0
    · rw [if_pos hy] at h_1; cases h_1
    rw [if_neg hy] at h_1
    intro H locs ls hP hS hL ho hoL hc hs
    exact lv_idiv hx hb hdec hy (hk _ _ _ _ _ _ _ h_1 H locs ls hP hS hL (ax_okc trivial (ax_okt (ax_okt ho))) hoL hc hs)
  case irem =>
    have hn : n = 1 := of_decide_eq_true hpar
    subst hn
    obtain ⟨x, y, rt, rfl, h_1⟩ := ax_i2_i h
    by_cases hy : y = 0
    · rw [if_pos hy] at h_1; cases h_1
    rw [if_neg hy] at h_1
    intro H locs ls hP hS hL ho hoL hc hs
    exact lv_irem hx hb hdec hy (hk _ _ _ _ _ _ _ h_1 H locs ls hP hS hL (ax_okc trivial (ax_okt (ax_okt ho))) hoL hc hs)
  case ladd =>
    have hn : n = 1 := of_decide_eq_true hpar
    subst hn
    obtain ⟨x, y, rt, rfl, h_1⟩ := ax_l2_i h
    intro H locs ls hP hS hL ho hoL hc hs
    exact lv_ladd hx hb hdec (hk _ _ _ _ _ _ _ h_1 H locs ls hP hS hL (ax_okc trivial (ax_okt (ax_okt ho))) hoL hc hs)
  case lmul =>
    have hn : n = 1 := of_decide_eq_true hpar
    subst hn
    obtain ⟨x, y, rt, rfl, h_1⟩ := ax_l2_i h
    intro H locs ls hP hS hL ho hoL hc hs
    exact lv_lmul hx hb hdec (hk _ _ _ _ _ _ _ h_1 H locs ls hP hS hL (ax_okc trivial (ax_okt (ax_okt ho))) hoL hc hs)
  case lcmp =>
    have hn : n = 1 := of_decide_eq_true hpar
    subst hn
    obtain ⟨x, y, rt, rfl, h_1⟩ := ax_l2_i h
    intro H locs ls hP hS hL ho hoL hc hs
    exact W.lcmp hx hb hdec (hk _ _ _ _ _ _ _ h_1 H locs ls hP hS hL (ax_okc trivial (ax_okt (ax_okt ho))) hoL hc hs)
  case i2l =>
    have hn : n = 1 := of_decide_eq_true hpar
    subst hn
    obtain ⟨x, rt, rfl, h_1⟩ := ax_i1_i h
    intro H locs ls hP hS hL ho hoL hc hs
    exact lv_i2l hx hb hdec rfl (hk _ _ _ _ _ _ _ h_1 H locs ls hP hS hL (ax_okc trivial (ax_okt ho)) hoL hc hs)
  case i2d =>
    have hn : n = 1 := of_decide_eq_true hpar
    subst hn
    obtain ⟨x, rt, rfl, h_1⟩ := ax_i1_i h
    intro H locs ls hP hS hL ho hoL hc hs
    exact lv_i2d hx hb hdec (hk _ _ _ _ _ _ _ h_1 H locs ls hP hS hL (ax_okc trivial (ax_okt ho)) hoL hc hs)
  case dadd =>
    have hn : n = 1 := of_decide_eq_true hpar
    subst hn
    obtain ⟨x, y, rt, rfl, h_1⟩ := ax_d2_i h
    by_cases hy : FP.dadd x y &&& 0x7fffffffffffffff ≤ 0x7ff0000000000000
    · rw [if_pos hy] at h_1
      intro H locs ls hP hS hL ho hoL hc hs
      exact lv_dadd hx hb hdec hy (hk _ _ _ _ _ _ _ h_1 H locs ls hP hS hL (ax_okc trivial (ax_okt (ax_okt ho))) hoL hc hs)
    · rw [if_neg hy] at h_1; cases h_1
  case ddiv =>
    have hn : n = 1 := of_decide_eq_true hpar
    subst hn
    obtain ⟨x, y, rt, rfl, h_1⟩ := ax_d2_i h
    by_cases hy : FP.ddiv x y &&& 0x7fffffffffffffff ≤ 0x7ff0000000000000
    · rw [if_pos hy] at h_1
      intro H locs ls hP hS hL ho hoL hc hs
      exact lv_ddiv hx hb hdec hy (hk _ _ _ _ _ _ _ h_1 H locs ls hP hS hL (ax_okc trivial (ax_okt (ax_okt ho))) hoL hc hs)
    · rw [if_neg hy] at h_1; cases h_1
  case dcmp o =>
    have hn : n = 1 := of_decide_eq_true hpar
    subst hn
    obtain ⟨x, y, rt, rfl, h_1⟩ := ax_d2_i h
    intro H locs ls hP hS hL ho hoL hc hs
    exact lv_dcmp hx hb hdec (hk _ _ _ _ _ _ _ h_1 H locs ls hP hS hL (ax_okc trivial (ax_okt (ax_okt ho))) hoL hc hs)
  case goto o =>
    simp only [ax_par, Bool.and_eq_true, decide_eq_true_eq] at hpar
    obtain ⟨rfl, ht⟩ := hpar
    intro H locs ls hP hS hL ho hoL hc hs
    exact lv_goto hx hb hdec ht (hk _ _ _ _ _ _ _ h H locs ls hP hS hL ho hoL hc hs)
  case ifCond o1 o =>
    simp only [ax_par, Bool.and_eq_true, decide_eq_true_eq] at hpar
    obtain ⟨rfl, ht⟩ := hpar
    cases o1
    case eq =>
      obtain ⟨x, rt, rfl, h_1⟩ := ax_i1_i h
      intro H locs ls hP hS hL ho hoL hc hs
      exact lv_if_eq hx hb hdec ht (fun q => by have h_1 := (if_pos q).symm.trans h_1; exact (hk _ _ _ _ _ _ _ h_1 H locs ls hP hS hL  (ax_okt ho) hoL hc hs)) (fun q => by have h_1 := (if_neg q).symm.trans h_1; exact (hk _ _ _ _ _ _ _ h_1 H locs ls hP hS hL  (ax_okt ho) hoL hc hs))
    case ne =>
      obtain ⟨x, rt, rfl, h_2⟩ := ax_i1_i h
      intro H locs ls hP hS hL ho hoL hc hs
      exact lv_if_ne hx hb hdec ht (fun q => by have h_2 := (if_neg q).symm.trans h_2; exact (hk _ _ _ _ _ _ _ h_2 H locs ls hP hS hL  (ax_okt ho) hoL hc hs)) (fun q => by have h_2 := (if_pos q).symm.trans h_2; exact (hk _ _ _ _ _ _ _ h_2 H locs ls hP hS hL  (ax_okt ho) hoL hc hs))
    case lt =>
      obtain ⟨x, rt, rfl, h_3⟩ := ax_i1_i h
      intro H locs ls hP hS hL ho hoL hc hs
      exact lv_if_lt hx hb hdec ht (fun q => by have h_3 := (if_pos q).symm.trans h_3; exact (hk _ _ _ _ _ _ _ h_3 H locs ls hP hS hL  (ax_okt ho) hoL hc hs)) (fun q => by have h_3 := (if_neg q).symm.trans h_3; exact (hk _ _ _ _ _ _ _ h_3 H locs ls hP hS hL  (ax_okt ho) hoL hc hs))
    case ge =>
      obtain ⟨x, rt, rfl, h_4⟩ := ax_i1_i h
      intro H locs ls hP hS hL ho hoL hc hs
      exact lv_if_ge hx hb hdec ht (fun q => by have h_4 := (if_pos q).symm.trans h_4; exact (hk _ _ _ _ _ _ _ h_4 H locs ls hP hS hL  (ax_okt ho) hoL hc hs)) (fun q => by have h_4 := (if_neg q).symm.trans h_4; exact (hk _ _ _ _ _ _ _ h_4 H locs ls hP hS hL  (ax_okt ho) hoL hc hs))
    case gt =>
      obtain ⟨x, rt, rfl, h_5⟩ := ax_i1_i h
      intro H locs ls hP hS hL ho hoL hc hs
      exact lv_if_gt hx hb hdec ht (fun q => by have h_5 := (if_pos q).symm.trans h_5; exact (hk _ _ _ _ _ _ _ h_5 H locs ls hP hS hL  (ax_okt ho) hoL hc hs)) (fun q => by have h_5 := (if_neg q).symm.trans h_5; exact (hk _ _ _ _ _ _ _ h_5 H locs ls hP hS hL  (ax_okt ho) hoL hc hs))
    case le =>
      obtain ⟨x, rt, rfl, h_6⟩ := ax_i1_i h
      intro H locs ls hP hS hL ho hoL hc hs
      exact lv_if_le hx hb hdec ht (fun q => by have h_6 := (if_pos q).symm.trans h_6; exact (hk _ _ _ _ _ _ _ h_6 H locs ls hP hS hL  (ax_okt ho) hoL hc hs)) (fun q => by have h_6 := (if_neg q).symm.trans h_6; exact (hk _ _ _ _ _ _ _ h_6 H locs ls hP hS hL  (ax_okt ho) hoL hc hs))
  case if_icmp o1 o =>
    simp only [ax_par, Bool.and_eq_true, decide_eq_true_eq] at hpar
    obtain ⟨rfl, ht⟩ := hpar
    cases o1
    case eq =>
      obtain ⟨x, y, rt, rfl, h_1⟩ := ax_i2_i h
      intro H locs ls hP hS hL ho hoL hc hs
      exact lv_icmp_eq hx hb hdec ht (fun q => by have h_1 := (if_pos q).symm.trans h_1; exact (hk _ _ _ _ _ _ _ h_1 H locs ls hP hS hL  (ax_okt (ax_okt ho)) hoL hc hs)) (fun q => by have h_1 := (if_neg q).symm.trans h_1; exact (hk _ _ _ _ _ _ _ h_1 H locs ls hP hS hL  (ax_okt (ax_okt ho)) hoL hc hs))
    case ne =>
      obtain ⟨x, y, rt, rfl, h_2⟩ := ax_i2_i h
      intro H locs ls hP hS hL ho hoL hc hs
      exact lv_icmp_ne hx hb hdec ht (fun q => by have h_2 := (if_neg q).symm.trans h_2; exact (hk _ _ _ _ _ _ _ h_2 H locs ls hP hS hL  (ax_okt (ax_okt ho)) hoL hc hs)) (fun q => by have h_2 := (if_pos q).symm.trans h_2; exact (hk _ _ _ _ _ _ _ h_2 H locs ls hP hS hL  (ax_okt (ax_okt ho)) hoL hc hs))
    case lt =>
      obtain ⟨x, y, rt, rfl, h_3⟩ := ax_i2_i h
      intro H locs ls hP hS hL ho hoL hc hs
      exact lv_icmp_lt hx hb hdec ht (fun q => by have h_3 := (if_pos q).symm.trans h_3; exact (hk _ _ _ _ _ _ _ h_3 H locs ls hP hS hL  (ax_okt (ax_okt ho)) hoL hc hs)) (fun q => by have h_3 := (if_neg q).symm.trans h_3; exact (hk _ _ _ _ _ _ _ h_3 H locs ls hP hS hL  (ax_okt (ax_okt ho)) hoL hc hs))
    case ge =>
      obtain ⟨x, y, rt, rfl, h_4⟩ := ax_i2_i h
      intro H locs ls hP hS hL ho hoL hc hs
      exact lv_icmp_ge hx hb hdec ht (fun q => by have h_4 := (if_pos q).symm.trans h_4; exact (hk _ _ _ _ _ _ _ h_4 H locs ls hP hS hL  (ax_okt (ax_okt ho)) hoL hc hs)) (fun q => by have h_4 := (if_neg q).symm.trans h_4; exact (hk _ _ _ _ _ _ _ h_4 H locs ls hP hS hL  (ax_okt (ax_okt ho)) hoL hc hs))
    case gt =>
      obtain ⟨x, y, rt, rfl, h_5⟩ := ax_i2_i h
      intro H locs ls hP hS hL ho hoL hc hs
      exact lv_icmp_gt hx hb hdec ht (fun q => by have h_5 := (if_pos q).symm.trans h_5; exact (hk _ _ _ _ _ _ _ h_5 H locs ls hP hS hL  (ax_okt (ax_okt ho)) hoL hc hs)) (fun q => by have h_5 := (if_neg q).symm.trans h_5; exact (hk _ _ _ _ _ _ _ h_5 H locs ls hP hS hL  (ax_okt (ax_okt ho)) hoL hc hs))
    case le =>
      obtain ⟨x, y, rt, rfl, h_6⟩ := ax_i2_i h
      intro H locs ls hP hS hL ho hoL hc hs
      exact lv_icmp_le hx hb hdec ht (fun q => by have h_6 := (if_pos q).symm.trans h_6; exact (hk _ _ _ _ _ _ _ h_6 H locs ls hP hS hL  (ax_okt (ax_okt ho)) hoL hc hs)) (fun q => by have h_6 := (if_neg q).symm.trans h_6; exact (hk _ _ _ _ _ _ _ h_6 H locs ls hP hS hL  (ax_okt (ax_okt ho)) hoL hc hs))
  case ifnull o =>
    simp only [ax_par, Bool.and_eq_true, decide_eq_true_eq] at hpar
    obtain ⟨rfl, ht⟩ := hpar
    obtain ⟨y, rt, rfl, h_1⟩ := ax_v1_i h
    intro H locs ls hP hS hL ho hoL hc hs
    rcases ax_nu_i h_1 with ⟨rfl, h_2⟩ | ⟨q, rfl, h_2⟩
    · exact lv_ifnullN hx hb hdec ht (hk _ _ _ _ _ _ _ h_2 H locs ls hP hS hL (ax_okt ho) hoL hc hs)
    · exact lv_ifnull hx hb hdec (hk _ _ _ _ _ _ _ h_2 H locs ls hP hS hL (ax_okt ho) hoL hc hs)
  case ifnonnull o =>
    simp only [ax_par, Bool.and_eq_true, decide_eq_true_eq] at hpar
    obtain ⟨rfl, ht⟩ := hpar
    obtain ⟨y, rt, rfl, h_1⟩ := ax_v1_i h
    intro H locs ls hP hS hL ho hoL hc hs
    rcases ax_nu_i h_1 with ⟨rfl, h_2⟩ | ⟨q, rfl, h_2⟩
    · exact lv_ifnonnullN hx hb hdec (hk _ _ _ _ _ _ _ h_2 H locs ls hP hS hL (ax_okt ho) hoL hc hs)
    · exact lv_ifnonnull hx hb hdec ht (hk _ _ _ _ _ _ _ h_2 H locs ls hP hS hL (ax_okt ho) hoL hc hs)
  case tableswitch dflt lo1 hi offs =>
    obtain ⟨q, hq, h_1⟩ := ax_ob_i h
    obtain ⟨x, rt, rfl, h_2⟩ := ax_i1_i h_1
    obtain ⟨s1, s2, s3⟩ := Os _ (ax_lk_mem _ hq) _ _ _ _ _ hdec
    intro H locs ls hP hS hL ho hoL hc hs
    rcases ax_sw_i h_2 with ⟨h1, h_3⟩ | ⟨q1, hq1, rfl, h_3⟩
    · exact lv_tableOut hx hb hdec (s2 x h1) s1 (hk _ _ _ _ _ _ _ h_3 H locs ls hP hS hL (ax_okt ho) hoL hc hs)
    · obtain ⟨a1, a2, off, a3, a4⟩ := s3 q1 hq1
      exact lv_tableIn hx hb hdec a1 a2 a3 a4 (hk _ _ _ _ _ _ _ h_3 H locs ls hP hS hL (ax_okt ho) hoL hc hs)
  case arraylength =>
    have hn : n = 1 := of_decide_eq_true hpar
    subst hn
    obtain ⟨y, rt, rfl, h_1⟩ := ax_v1_i h
    intro H locs ls hP hS hL ho hoL hc hs
    rcases ax_rs_i h_1 with ⟨a, i, rfl, h_2⟩ | ⟨b, rfl, h_2⟩
    · obtain ⟨⟨t1, n1⟩, hq, h_3⟩ := ax_ob_i h_2
      have hin : (a, i) ∈ ax_all := ho _ List.mem_cons_self
      obtain ⟨ty, hty⟩ := ax_tys_at cA (ax_ka_t hq).1
      exact va_alen (x := (n1, ax_row base f g t1 (a, i))) hx hb hK hP (ax_all.idxOf (a, i)) t1 (by rw [ax_ws_get base cA f g hin, ax_cell_a base cA f g i hq]) hty rfl hdec (hk _ _ _ _ _ _ _ h_3 H locs ls hP hS hL (ax_okc trivial (ax_okt ho)) hoL hc hs)
    · obtain ⟨q, hq, h_4⟩ := ax_ob_i h_2
      obtain ⟨hbq, h_5⟩ := ax_gd_i h_4
      obtain ⟨z1, z2, z3, z4⟩ := hscr q hq
      have e1 : b = q.1 := Nat.eq_of_beq_eq_true hbq
      subst e1
      exact va_slen hx hb z1 z2 (Nat.not_le.mpr z3) hS hdec (hk _ _ _ _ _ _ _ h_5 H locs ls hP hS hL (ax_okc trivial (ax_okt ho)) hoL hc hs)
  case iaload =>
    have hn : n = 1 := of_decide_eq_true hpar
    subst hn
    obtain ⟨j, rt, rfl, h_1⟩ := ax_i1_i h
    obtain ⟨y, rt, rfl, h_2⟩ := ax_v1_i h_1
    intro H locs ls hP hS hL ho hoL hc hs
    rcases ax_rs_i h_2 with ⟨a, i, rfl, h_3⟩ | ⟨b, rfl, h_3⟩
    · obtain ⟨⟨t1, n1⟩, hq, h_4⟩ := ax_ob_i h_3
      obtain ⟨h0, h_5⟩ := ax_0_i h_4
      have h0 : t1 = 0 := h0
      subst h0
      obtain ⟨hj, h_6⟩ := ax_bd_i (ax_len252 hq) h_5
      have hin : (a, i) ∈ ax_all := ho _ (List.mem_cons_of_mem _ List.mem_cons_self)
      exact va_iald hx hb hK hP (ax_all.idxOf (a, i)) 0 (by rw [ax_ws_get base cA f g hin, ax_cell_a base cA f g i hq]; rfl) rfl hj hdec (hk _ _ _ _ _ _ _ h_6 H locs ls hP hS hL (ax_okc trivial (ax_okt (ax_okt ho))) hoL hc hs)
    · obtain ⟨q, hq, h_7⟩ := ax_ob_i h_3
      obtain ⟨hbq, h_8⟩ := ax_gd_i h_7
      obtain ⟨z1, z2, z3, z4⟩ := hscr q hq
      obtain ⟨hj, h_8⟩ := ax_bd_i z4 h_8
      have e1 : b = q.1 := Nat.eq_of_beq_eq_true hbq
      subst e1
      exact va_sld hx hb z1 z2 (Nat.not_le.mpr z3) hS hj hdec (hk _ _ _ _ _ _ _ h_8 H locs ls hP hS hL (ax_okc trivial (ax_okt (ax_okt ho))) hoL hc hs)
  case baload =>
    have hn : n = 1 := of_decide_eq_true hpar
    subst hn
    obtain ⟨j, rt, rfl, h_1⟩ := ax_i1_i h
    obtain ⟨a, i, rt, rfl, h_2⟩ := ax_r1_i h_1
    obtain ⟨⟨t1, n1⟩, hq, h_3⟩ := ax_ob_i h_2
    obtain ⟨h0, h_4⟩ := ax_1_i h_3
    have h0 : t1 = 1 := h0
    subst h0
    obtain ⟨hj, h_5⟩ := ax_bd_i (ax_len252 hq) h_4
    intro H locs ls hP hS hL ho hoL hc hs
    have hin : (a, i) ∈ ax_all := ho _ (List.mem_cons_of_mem _ List.mem_cons_self)
    exact va_zald hx hb hK hP (ax_all.idxOf (a, i)) 1 (by rw [ax_ws_get base cA f g hin, ax_cell_a base cA f g i hq]; rfl) rfl hj hdec (hk _ _ _ _ _ _ _ h_5 H locs ls hP hS hL (ax_okc trivial (ax_okt (ax_okt ho))) hoL hc hs)
  case laload =>
    have hn : n = 1 := of_decide_eq_true hpar
    subst hn
    obtain ⟨j, rt, rfl, h_1⟩ := ax_i1_i h
    obtain ⟨a, i, rt, rfl, h_2⟩ := ax_r1_i h_1
    obtain ⟨⟨t1, n1⟩, hq, h_3⟩ := ax_ob_i h_2
    obtain ⟨h0, h_4⟩ := ax_2_i h_3
    have h0 : t1 = 2 := h0
    subst h0
    obtain ⟨hj, h_5⟩ := ax_bd_i (ax_len252 hq) h_4
    intro H locs ls hP hS hL ho hoL hc hs
    have hin : (a, i) ∈ ax_all := ho _ (List.mem_cons_of_mem _ List.mem_cons_self)
    exact va_lald hx hb hK hP (ax_all.idxOf (a, i)) 2 (by rw [ax_ws_get base cA f g hin, ax_cell_a base cA f g i hq]; rfl) rfl hj hdec (hk _ _ _ _ _ _ _ h_5 H locs ls hP hS hL (ax_okc trivial (ax_okt (ax_okt ho))) hoL hc hs)
  case aaload =>
    have hn : n = 1 := of_decide_eq_true hpar
    subst hn
    obtain ⟨j, rt, rfl, h_1⟩ := ax_i1_i h
    obtain ⟨a, i, rt, rfl, h_2⟩ := ax_r1_i h_1
    obtain ⟨⟨t1, n1⟩, hq, h_3⟩ := ax_ob_i h_2
    obtain ⟨h0, h_4⟩ := ax_3_i h_3
    obtain ⟨hj, h_5⟩ := ax_bd_i (ax_len252 hq) h_4
    intro H locs ls hP hS hL ho hoL hc hs
    have hin : (a, i) ∈ ax_all := ho _ (List.mem_cons_of_mem _ List.mem_cons_self)
    obtain ⟨C1, hC1⟩ := ax_tys_r cA (ax_ka_t hq).1 h0
    have hrow : ax_row base f g t1 (a, i) = .inr (.inr (.inr (.inr (fun j => (ax_r0 a i j).map (ax_ad base))))) := by
      match t1, h0 with
      | n + 3, _ => rfl
    obtain ⟨nj, hnj, rfl⟩ := vp_in_of hj (ax_len252 hq)
    have hok : ax_ok (ax_rv (ax_r0 a i (nI nj).toNatClampNeg)) := ax_ok_rv (ax_r0_arr hin hq h0 (by rw [nI_clamp (Nat.lt_trans hnj (ax_len252 hq))]; exact hnj))
    refine va_aldq hx hb hK hP (ax_all.idxOf (a, i)) t1 (by rw [ax_ws_get base cA f g hin, ax_cell_a base cA f g i hq, hrow]) hC1 hj hdec ?_
    rw [ax_rv_c]
    exact hk _ _ _ _ _ _ _ h_5 H locs ls hP hS hL (ax_okc hok (ax_okt (ax_okt ho))) hoL hc hs
  case iastore =>
    have hn : n = 1 := of_decide_eq_true hpar
    subst hn
    obtain ⟨j, x, rt, rfl, h_1⟩ := ax_i2_i h
    obtain ⟨a, i, rt, rfl, h_2⟩ := ax_r1_i h_1
    obtain ⟨⟨t1, n1⟩, hq, h_3⟩ := ax_ob_i h_2
    obtain ⟨h0, h_4⟩ := ax_0_i h_3
    have h0 : t1 = 0 := h0
    subst h0
    obtain ⟨hj, h_5⟩ := ax_bd_i (ax_len252 hq) h_4
    intro H locs ls hP hS hL ho hoL hc hs
    have hin : (a, i) ∈ ax_all := ho _ (List.mem_cons_of_mem _ (List.mem_cons_of_mem _ List.mem_cons_self))
    refine va_iast hx hb hK hP (ax_ws_D base cA f g) hS (ax_all.idxOf (a, i)) 0 (by rw [ax_ws_get base cA f g hin, ax_cell_a base cA f g i hq]; rfl) rfl hj hdec (fun H1 locs1 hP1 _ hS1 => ?_)
    have e1 := ax_ws_set base cA f g (ax_up f a i j.toNatClampNeg x) g hin (ax_cell_f base cA f g)
    rw [ax_cell_a base cA _ g i hq, show ax_row base (ax_up f a i j.toNatClampNeg x) g 0 (a, i) = .inl (upd (f a i) j.toNatClampNeg x) from congrArg Sum.inl (ax_row_f f a i _ x).symm] at e1
    rw [e1] at hP1
    exact hk _ _ _ _ _ _ _ h_5 H1 locs1 ls hP1 hS1 hL (ax_okt (ax_okt (ax_okt ho))) hoL hc hs
  case bastore =>
    have hn : n = 1 := of_decide_eq_true hpar
    subst hn
    obtain ⟨j, x, rt, rfl, h_1⟩ := ax_i2_i h
    obtain ⟨a, i, rt, rfl, h_2⟩ := ax_r1_i h_1
    obtain ⟨⟨t1, n1⟩, hq, h_3⟩ := ax_ob_i h_2
    obtain ⟨h0, h_4⟩ := ax_1_i h_3
    have h0 : t1 = 1 := h0
    subst h0
    obtain ⟨hj, h_5⟩ := ax_bd_i (ax_len252 hq) h_4
    obtain ⟨hxb, h_6⟩ := ax_bb_i h_5
    intro H locs ls hP hS hL ho hoL hc hs
    have hin : (a, i) ∈ ax_all := ho _ (List.mem_cons_of_mem _ (List.mem_cons_of_mem _ List.mem_cons_self))
    have hnx : vp_nar .boolean x = x := by rcases hxb with rfl | rfl <;> decide +kernel
    refine va_zast hx hb hK hP (ax_ws_D base cA f g) hS (ax_all.idxOf (a, i)) 1 (by rw [ax_ws_get base cA f g hin, ax_cell_a base cA f g i hq]; rfl) rfl hj hdec (fun H1 locs1 hP1 _ hS1 => ?_)
    rw [hnx] at hP1
    have e1 := ax_ws_set base cA f g (ax_up f a i j.toNatClampNeg x) g hin (ax_cell_f base cA f g)
    rw [ax_cell_a base cA _ g i hq, show ax_row base (ax_up f a i j.toNatClampNeg x) g 1 (a, i) = .inl (upd (f a i) j.toNatClampNeg x) from congrArg Sum.inl (ax_row_f f a i _ x).symm] at e1
    rw [e1] at hP1
    exact hk _ _ _ _ _ _ _ h_6 H1 locs1 ls hP1 hS1 hL (ax_okt (ax_okt (ax_okt ho))) hoL hc hs
  case lastore =>
    have hn : n = 1 := of_decide_eq_true hpar
    subst hn
    obtain ⟨x, rt, rfl, h_1⟩ := ax_l1_i h
    obtain ⟨j, rt, rfl, h_2⟩ := ax_i1_i h_1
    obtain ⟨a, i, rt, rfl, h_3⟩ := ax_r1_i h_2
    obtain ⟨⟨t1, n1⟩, hq, h_4⟩ := ax_ob_i h_3
    obtain ⟨h0, h_5⟩ := ax_2_i h_4
    have h0 : t1 = 2 := h0
    subst h0
    obtain ⟨hj, h_6⟩ := ax_bd_i (ax_len252 hq) h_5
    intro H locs ls hP hS hL ho hoL hc hs
    have hin : (a, i) ∈ ax_all := ho _ (List.mem_cons_of_mem _ (List.mem_cons_of_mem _ List.mem_cons_self))
    refine va_last hx hb hK hP (ax_ws_D base cA f g) hS (ax_all.idxOf (a, i)) 2 (by rw [ax_ws_get base cA f g hin, ax_cell_a base cA f g i hq]; rfl) rfl hj hdec (fun H1 locs1 hP1 _ hS1 => ?_)
    have e1 := ax_ws_set base cA f g f (ax_ug g a i j.toNatClampNeg x) hin (ax_cell_g base cA f g)
    rw [ax_cell_a base cA f _ i hq, show ax_row base f (ax_ug g a i j.toNatClampNeg x) 2 (a, i) = .inr (.inl (vp_updL (g a i) j.toNatClampNeg x)) from congrArg (fun z => Sum.inr (Sum.inl z)) (ax_row_g g a i _ x).symm] at e1
    rw [e1] at hP1
    exact hk _ _ _ _ _ _ _ h_6 H1 locs1 ls hP1 hS1 hL (ax_okt (ax_okt (ax_okt ho))) hoL hc hs
  case getfield x =>
    simp only [ax_par, decide_eq_true_eq] at hpar
    subst hpar
    obtain ⟨a, i, rt, rfl, h_1⟩ := ax_r1_i h
    obtain ⟨⟨ci, j⟩, hq, h_2⟩ := ax_ob_i h_1
    obtain ⟨ca, hca, h_3⟩ := ax_ob_i h_2
    obtain ⟨hcc, h_4⟩ := ax_gd_i h_3
    have e1 : ca = ci := Nat.eq_of_beq_eq_true hcc
    subst e1
    obtain ⟨C1, T1, N1, hv1, hj1, hl1⟩ := Of _ (ax_lk_mem _ hq)
    obtain ⟨hN, hin1, -⟩ := ax_cf hv1
    intro H locs ls hP hS hL ho hoL hc hs
    have hin : (a, i) ∈ ax_all := ho _ List.mem_cons_self
    have hjn : j < ax_nf ca := by rw [← hN]; exact hj1
    have hok : ax_ok (ax_fv f g (ax_ft ca j) a i j) := by
      by_cases h3 : ax_ft ca j = 3
      · rw [h3]; exact ax_ok_rv (ax_r0_obj hin hca hjn h3)
      · have h4 : ax_ft ca j = 0 ∨ ax_ft ca j = 1 ∨ ax_ft ca j = 2 := ax_ft3 ca j h3
        rcases h4 with h4 | h4 | h4 <;> rw [h4] <;> exact trivial
    exact va_get (D := D) (C := C1) (T := T1) (N := N1) hx hb hts hin1 hown hK hP (ax_all.idxOf (a, i)) (by rw [ax_ws_get base cA f g hin, ax_cell_o base cA f g i hca]) hv1 j hj1 (hts _ hl1) (fun _ h9 => h9) (ax_obj_get base f g (a, i) hjn) hdec (hk _ _ _ _ _ _ _ h_4 H locs ls hP hS hL (ax_okc hok (ax_okt ho)) hoL hc hs)
  case putfield x =>
    simp only [ax_par, decide_eq_true_eq] at hpar
    subst hpar
    obtain ⟨y, rt, rfl, h_1⟩ := ax_v1_i h
    obtain ⟨a, i, rt, rfl, h_2⟩ := ax_r1_i h_1
    obtain ⟨⟨ci, j⟩, hq, h_3⟩ := ax_ob_i h_2
    obtain ⟨ca, hca, h_4⟩ := ax_ob_i h_3
    obtain ⟨hcc, h_5⟩ := ax_gd_i h_4
    have e1 : ca = ci := Nat.eq_of_beq_eq_true hcc
    subst e1
    obtain ⟨C1, T1, N1, hv1, hj1, hl1⟩ := Of _ (ax_lk_mem _ hq)
    obtain ⟨hN, hin1, ty, t1, t2, t3, t4, t5⟩ := ax_cf hv1
    intro H locs ls hP hS hL ho hoL hc hs
    have hin : (a, i) ∈ ax_all := ho _ (List.mem_cons_of_mem _ List.mem_cons_self)
    have hjn : j < ax_nf ca := by rw [← hN]; exact hj1
    have hcell : (ax_ws base cA f g)[ax_all.idxOf (a, i)]? = some (ax_ad base (a, i), .inr (ca, ax_obj base f g ca (a, i))) := by rw [ax_ws_get base cA f g hin, ax_cell_o base cA f g i hca]
    have hlen : j < (ax_obj base f g ca (a, i)).length := by rw [ax_obj_len]; exact hjn
    rcases ax_pf_i h_5 with ⟨h0, z, rfl, h_6⟩ | ⟨h0, z, rfl, hz, h_6⟩ | ⟨h0, z, rfl, h_6⟩
    · obtain ⟨u1, u2⟩ := t3 j hj1 h0
      refine va_put (D := D) (C := C1) (T := T1) (N := N1) (ty := .int) hx hb hts hin1 ty t1 t2 hown hK hP (ax_ws_D base cA f g) hS (ax_all.idxOf (a, i)) hcell hv1 j hj1 (hts _ hl1) (fun _ h9 => h9) u2 (by rw [t1 j hj1, u1]) rfl rfl hlen hdec (fun H1 locs1 hP1 _ hS1 => ?_)
      have e1 := ax_ws_set base cA f g (ax_up f a i j z) g hin (ax_cell_f base cA f g)
      rw [ax_cell_o base cA _ g i hca, ← ax_obj_f base f g hjn (Or.inl h0) z] at e1
      rw [show ax_c base (.inl (.int z)) = .int z from rfl, e1] at hP1
      exact hk _ _ _ _ _ _ _ h_6 H1 locs1 ls hP1 hS1 hL (ax_okt (ax_okt ho)) hoL hc hs
    · obtain ⟨u1, u2⟩ := t4 j hj1 h0
      refine va_put (D := D) (C := C1) (T := T1) (N := N1) (ty := .boolean) hx hb hts hin1 ty t1 t2 hown hK hP (ax_ws_D base cA f g) hS (ax_all.idxOf (a, i)) hcell hv1 j hj1 (hts _ hl1) (fun _ h9 => h9) u2 (by rw [t1 j hj1, u1]) (by show narrow .boolean (.int z) = .int z; rcases hz with rfl | rfl <;> decide +kernel) (by show fits .boolean (.int z) = true; rcases hz with rfl | rfl <;> decide +kernel) hlen hdec (fun H1 locs1 hP1 _ hS1 => ?_)
      have e1 := ax_ws_set base cA f g (ax_up f a i j z) g hin (ax_cell_f base cA f g)
      rw [ax_cell_o base cA _ g i hca, ← ax_obj_f base f g hjn (Or.inr h0) z] at e1
      rw [show ax_c base (.inl (.int z)) = .int z from rfl, e1] at hP1
      exact hk _ _ _ _ _ _ _ h_6 H1 locs1 ls hP1 hS1 hL (ax_okt (ax_okt ho)) hoL hc hs
    · obtain ⟨u1, u2⟩ := t5 j hj1 h0
      refine va_put (D := D) (C := C1) (T := T1) (N := N1) (ty := .long) hx hb hts hin1 ty t1 t2 hown hK hP (ax_ws_D base cA f g) hS (ax_all.idxOf (a, i)) hcell hv1 j hj1 (hts _ hl1) (fun _ h9 => h9) u2 (by rw [t1 j hj1, u1]) rfl rfl hlen hdec (fun H1 locs1 hP1 _ hS1 => ?_)
      have e1 := ax_ws_set base cA f g f (ax_ug g a i j z) hin (ax_cell_g base cA f g)
      rw [ax_cell_o base cA f _ i hca, ← ax_obj_g base f g hjn h0 z] at e1
      rw [show ax_c base (.inl (.long z)) = .long z from rfl, e1] at hP1
      exact hk _ _ _ _ _ _ _ h_6 H1 locs1 ls hP1 hS1 hL (ax_okt (ax_okt ho)) hoL hc hs
  case invokevirtual x =>
    simp only [ax_par, decide_eq_true_eq] at hpar
    subst hpar
    obtain ⟨q, hq, h_1⟩ := ax_ob_i h
    obtain ⟨hm0, h_2⟩ := ax_0_i h_1
    obtain ⟨as, rt, rfl, hlen, h_3⟩ := ax_pop_i _ h_2
    obtain ⟨a, i, rest, rfl, h_4⟩ := ax_r1_i h_3
    obtain ⟨ca, hca, h_5⟩ := ax_ob_i h_4
    obtain ⟨hcc, h_6⟩ := ax_gd_i h_5
    obtain ⟨hb1, h_7⟩ := ax_gd_i h_6
    obtain ⟨hb2, h_8⟩ := ax_gd_i h_7
    obtain ⟨hb3, h_9⟩ := ax_gd_i h_8
    rw [List.append_nil] at h_9
    have e1 : ca = q.2.1 := Nat.eq_of_beq_eq_true hcc
    intro H locs ls hP hS hL ho hoL hc hs
    have hwd : ∀ U : State, U.heap = H → s.WarmedH U.vm → ax_Wd base D cA f g U := fun U hU hW => ⟨by rw [hU]; exact hP, va_K.moved hW.alike hK, ax_ZW hS hU hW hZ, hY.warm hW⟩
    have hroom : cs + q.2.2.2.2.2.1 ≤ ax_mc P ∧ ss + q.2.2.2.2.2.2 ≤ ax_ms P := ⟨Nat.le_of_ble_eq_true hb2, Nat.le_of_ble_eq_true hb3⟩
    have hw8 : ((rest.map (ax_c base)).map fun v => v.category).sum ≤ 8 := by rw [ax_wd_c]; exact Nat.le_of_ble_eq_true hb1
    have hrR : cs + q.2.2.2.2.2.1 ≤ R.cells ∧ ss + q.2.2.2.2.2.2 ≤ R.slots := ⟨Nat.le_trans hroom.1 hmc, Nat.le_trans hroom.2 hms⟩
    have hin : (a, i) ∈ ax_all := ho _ (List.mem_append_right _ List.mem_cons_self)
    have hor : ∀ w ∈ rest, ax_ok w := fun w hw => ho w (List.mem_append_right _ (List.mem_cons_of_mem _ hw))
    have hoa : ∀ w ∈ (Sum.inr (a, i) :: as : List ax_V), ax_ok w := by
      intro w hw
      rcases List.mem_cons.mp hw with rfl | hw
      · exact hin
      · exact ho w (List.mem_append_left _ (List.mem_reverse.mpr hw))
    obtain ⟨y, bytes, maxL, ret, hh, fr', lo', c1, c2, c3, c4, c5, c6⟩ := Ol _ (ax_lk_mem _ hq)
    rcases c6 with ⟨-, i1, i2, i3, i4, i5, T1, N1, i6⟩ | ⟨z, -⟩ | ⟨z, -⟩ | ⟨z, -⟩
    · cases hsem : q.2.2.2.2.1 (Sum.inr (a, i) :: as) f g with
      | none =>
        rw [hsem] at h_9
        have hC := h_9
        rcases ax_cal_i hC with ⟨v2, f2, g2, e2, -⟩ | ⟨x2, f2, g2, e2, -⟩ <;> cases e2
      | some rr =>
        rw [hsem] at h_9
        have hM := i1 base D cA (Sum.inr (a, i) :: as) f g rr hoa hsem
        have hsem : (some rr : Option ax_Fin) = some rr := rfl
        have hcell : (ax_ws base cA f g)[ax_all.idxOf (a, i)]? = some (ax_ad base (a, i), .inr (ca, ax_obj base f g ca (a, i))) := by rw [ax_ws_get base cA f g hin, ax_cell_o base cA f g i hca]
        have hrun := vx_runV (p := p) (l := l) (e := e) (below := below) (meth := meth) (locs := locs) (cells := cs) (slots := ss) (rest := rest.map (ax_c base)) (C := y.cls) (b := ax_ad base (a, i)) (As := as.map (ax_c base)) (g := F0 m pc ls ((as.reverse ++ .inr (a, i) :: rest).map (ax_c base))) (n := as.length) (Ts := ax_T) (own := own) (nL := nL) (index := x) ⟨hx, hb, hml, hown, hts⟩ hM
          ⟨⟨rfl, rfl, Nat.le_trans c1 hfr, Nat.le_trans c2 hlo, pay_in hts (ax_goodIn i2), List.mem_cons_self, hts _ i2, hts _ c5, c4, fun sig hsig => by rw [hsig] at c3; rw [hlen]; exact (Option.some.inj c3).symm, hts _ i3⟩, hts _ i4, hts _ i5⟩
          ⟨ax_blind _ base D cA f g, va_recv hK hP i6 (by rw [e1] at hcell; exact hcell), fun U hU hW => ⟨rfl, hwd U hU hW⟩⟩ rfl (by rw [List.length_map]) (by exact hL.2.1) (by rw [List.map_append, List.map_reverse, List.map_cons]; rfl) (lv_room hw8) hdec hrR
        have hC := h_9
        refine ax_callW hrun hS (fun x1 f1 g1 H1 locs1 q9 ce hrr hP1 hS1 hq9 hv9 hc9 => ?_) (fun v1 f1 g1 H1 locs1 hrr hok1 hP1 hS1 => ?_)
        · rcases ax_cal_i hC with ⟨v2, f2, g2, e2, -⟩ | ⟨x2, f2, g2, e2, hD⟩
          · rw [hrr] at e2; cases e2
          · rw [hrr] at e2
            cases e2
            exact ax_thrW C0 hk hP1 hS1 hq9 hv9 hc9 hL hoL hroom.1 hroom.2 (fun e3 hpass => hout _ _ _ _ _ _ _ _ _ _ _ _ e3 hpass hP1 hS1 hq9 hv9 hc9 hroom.1 hroom.2) _ [] _ rfl (fun z hz => by cases hz) Oh hD
        · rcases ax_cal_i hC with ⟨v2, f2, g2, e2, hD⟩ | ⟨x2, f2, g2, e2, -⟩
          · rw [hrr] at e2
            cases e2
            have hst : ((v1.toList ++ rest).map (ax_c base)) = (v1.map (ax_c base)).toList ++ rest.map (ax_c base) := by cases v1 <;> rfl
            rw [← hst]
            exact hk _ _ _ _ _ _ _ hD H1 locs1 ls hP1 hS1 hL (fun w hw => by
              rcases List.mem_append.mp hw with hw | hw
              · cases v1 with
                | none => cases hw
                | some z => rw [show (some z).toList = [z] from rfl, List.mem_singleton] at hw; subst hw; exact hok1 _ rfl
              · exact hor w hw) hoL hroom.1 hroom.2
          · rw [hrr] at e2; cases e2
    · rw [hm0] at z; cases z
    · rw [hm0] at z; cases z
    · rw [hm0] at z; cases z
  case invokestatic x =>
    simp only [ax_par, decide_eq_true_eq] at hpar
    subst hpar
    obtain ⟨q, hq, h_1⟩ := ax_ob_i h
    obtain ⟨hm0, h_2⟩ := ax_gd_i h_1
    obtain ⟨as, rest, rfl, hlen, h_3⟩ := ax_pop_i _ h_2
    obtain ⟨hb1, h_4⟩ := ax_gd_i h_3
    obtain ⟨hb2, h_5⟩ := ax_gd_i h_4
    obtain ⟨hb3, h_6⟩ := ax_gd_i h_5
    rw [List.append_nil] at h_6
    intro H locs ls hP hS hL ho hoL hc hs
    have hwd : ∀ U : State, U.heap = H → s.WarmedH U.vm → ax_Wd base D cA f g U := fun U hU hW => ⟨by rw [hU]; exact hP, va_K.moved hW.alike hK, ax_ZW hS hU hW hZ, hY.warm hW⟩
    have hroom : cs + q.2.2.2.2.2.1 ≤ ax_mc P ∧ ss + q.2.2.2.2.2.2 ≤ ax_ms P := ⟨Nat.le_of_ble_eq_true hb2, Nat.le_of_ble_eq_true hb3⟩
    have hw8 : ((rest.map (ax_c base)).map fun v => v.category).sum ≤ 8 := by rw [ax_wd_c]; exact Nat.le_of_ble_eq_true hb1
    have hrR : cs + q.2.2.2.2.2.1 ≤ R.cells ∧ ss + q.2.2.2.2.2.2 ≤ R.slots := ⟨Nat.le_trans hroom.1 hmc, Nat.le_trans hroom.2 hms⟩
    have hor : ∀ w ∈ rest, ax_ok w := fun w hw => ho w (List.mem_append_right _ hw)
    have hoa : ∀ w ∈ as, ax_ok w := fun w hw => ho w (List.mem_append_left _ (List.mem_reverse.mpr hw))
    obtain ⟨y, bytes, maxL, ret, hh, fr', lo', c1, c2, c3, c4, c5, c6⟩ := Ol _ (ax_lk_mem _ hq)
    rcases c6 with ⟨z, -⟩ | ⟨-, i1, i2, i3, i4⟩ | ⟨-, i1, i2, ⟨host, i3⟩, i4⟩ | ⟨-, i1, i2, i3, i4⟩
    · rw [show q.1 = 0 from z] at hm0; cases hm0
    · cases hsem : q.2.2.2.2.1 as f g with
      | none =>
        rw [hsem] at h_6
        have hC := h_6
        rcases ax_cal_i hC with ⟨v2, f2, g2, e2, -⟩ | ⟨x2, f2, g2, e2, -⟩ <;> cases e2
      | some rr =>
        rw [hsem] at h_6
        have hM := i1 base D cA as f g rr hoa hsem
        have hrun := vx_runS (p := p) (l := l) (e := e) (below := below) (meth := meth) (locs := locs) (cells := cs) (slots := ss) (rest := rest.map (ax_c base)) (As := as.map (ax_c base)) (g := F0 m pc ls ((as.reverse ++ rest).map (ax_c base))) (n := as.length) (Ts := ax_T) (own := own) (nL := nL) (index := x) ⟨hx, hb, hml, hown, hts⟩ hM
          ⟨⟨rfl, rfl, Nat.le_trans c1 hfr, Nat.le_trans c2 hlo, pay_in hts (ax_goodIn i2), List.mem_cons_self, hts _ i2, hts _ c5, c4, fun sig hsig => by rw [hsig] at c3; rw [hlen]; exact (Option.some.inj c3).symm, hts _ i3⟩, hts _ i4⟩
          ⟨ax_blind _ base D cA f g, fun U hU hW => ⟨rfl, hwd U hU hW⟩⟩ rfl (by rw [List.length_map]) (by exact hL.2.1) (by rw [List.map_append, List.map_reverse]) (lv_room hw8) hdec hrR
        have hC := h_6
        refine ax_callW hrun hS (fun x1 f1 g1 H1 locs1 q9 ce hrr hP1 hS1 hq9 hv9 hc9 => ?_) (fun v1 f1 g1 H1 locs1 hrr hok1 hP1 hS1 => ?_)
        · rcases ax_cal_i hC with ⟨v2, f2, g2, e2, -⟩ | ⟨x2, f2, g2, e2, hD⟩
          · rw [hrr] at e2; cases e2
          · rw [hrr] at e2
            cases e2
            exact ax_thrW C0 hk hP1 hS1 hq9 hv9 hc9 hL hoL hroom.1 hroom.2 (fun e3 hpass => hout _ _ _ _ _ _ _ _ _ _ _ _ e3 hpass hP1 hS1 hq9 hv9 hc9 hroom.1 hroom.2) _ [] _ rfl (fun z hz => by cases hz) Oh hD
        · rcases ax_cal_i hC with ⟨v2, f2, g2, e2, hD⟩ | ⟨x2, f2, g2, e2, -⟩
          · rw [hrr] at e2
            cases e2
            have hst : ((v1.toList ++ rest).map (ax_c base)) = (v1.map (ax_c base)).toList ++ rest.map (ax_c base) := by cases v1 <;> rfl
            rw [← hst]
            exact hk _ _ _ _ _ _ _ hD H1 locs1 ls hP1 hS1 hL (fun w hw => by
              rcases List.mem_append.mp hw with hw | hw
              · cases v1 with
                | none => cases hw
                | some z => rw [show (some z).toList = [z] from rfl, List.mem_singleton] at hw; subst hw; exact hok1 _ rfl
              · exact hor w hw) hoL hroom.1 hroom.2
          · rw [hrr] at e2; cases e2
    · cases hsem : q.2.2.2.2.1 as f g with
      | none =>
        rw [hsem] at h_6
        have hC := h_6
        rcases ax_cal_i hC with ⟨v2, f2, g2, e2, -⟩ | ⟨x2, f2, g2, e2, -⟩ <;> cases e2
      | some rr =>
        rw [hsem] at h_6
        have hM := i1 base D cA as f g rr hoa hsem
        have hrun := vx_runSN (p := p) (l := l) (e := e) (below := below) (meth := meth) (locs := locs) (cells := cs) (slots := ss) (rest := rest.map (ax_c base)) (As := as.map (ax_c base)) (g := F0 m pc ls ((as.reverse ++ rest).map (ax_c base))) (n := as.length) (Ts := ax_T) (own := own) (nL := nL) (index := x) ⟨hx, hb, hml, hown, hts⟩ hM
          ⟨⟨⟨rfl, rfl, Nat.le_trans c1 hfr, Nat.le_trans c2 hlo, pay_in hts (ax_goodIn i2), List.mem_cons_self⟩, hts _ i2, hts _ c5, c4, fun sig hsig => by rw [hsig] at c3; rw [hlen]; exact (Option.some.inj c3).symm, (hY.2.1 _ i3).use rfl⟩, hts _ i4, trivial⟩
          ⟨ax_blind _ base D cA f g, fun U hU hW => ⟨rfl, hwd U hU hW⟩⟩ rfl (by rw [List.length_map]) (by exact hL.2.1) (by rw [List.map_append, List.map_reverse]) (lv_room hw8) hdec hrR
        have hC := h_6
        refine ax_callW hrun hS (fun x1 f1 g1 H1 locs1 q9 ce hrr hP1 hS1 hq9 hv9 hc9 => ?_) (fun v1 f1 g1 H1 locs1 hrr hok1 hP1 hS1 => ?_)
        · rcases ax_cal_i hC with ⟨v2, f2, g2, e2, -⟩ | ⟨x2, f2, g2, e2, hD⟩
          · rw [hrr] at e2; cases e2
          · rw [hrr] at e2
            cases e2
            exact ax_thrW C0 hk hP1 hS1 hq9 hv9 hc9 hL hoL hroom.1 hroom.2 (fun e3 hpass => hout _ _ _ _ _ _ _ _ _ _ _ _ e3 hpass hP1 hS1 hq9 hv9 hc9 hroom.1 hroom.2) _ [] _ rfl (fun z hz => by cases hz) Oh hD
        · rcases ax_cal_i hC with ⟨v2, f2, g2, e2, hD⟩ | ⟨x2, f2, g2, e2, -⟩
          · rw [hrr] at e2
            cases e2
            have hst : ((v1.toList ++ rest).map (ax_c base)) = (v1.map (ax_c base)).toList ++ rest.map (ax_c base) := by cases v1 <;> rfl
            rw [← hst]
            exact hk _ _ _ _ _ _ _ hD H1 locs1 ls hP1 hS1 hL (fun w hw => by
              rcases List.mem_append.mp hw with hw | hw
              · cases v1 with
                | none => cases hw
                | some z => rw [show (some z).toList = [z] from rfl, List.mem_singleton] at hw; subst hw; exact hok1 _ rfl
              · exact hor w hw) hoL hroom.1 hroom.2
          · rw [hrr] at e2; cases e2
    · cases hsem : q.2.2.2.2.1 as f g with
      | none =>
        rw [hsem] at h_6
        have hC := h_6
        rcases ax_cal_i hC with ⟨v2, f2, g2, e2, -⟩ | ⟨x2, f2, g2, e2, -⟩ <;> cases e2
      | some rr =>
        rw [hsem] at h_6
        have hM := i1 base D cA as f g rr hoa hsem
        have hrun := vx_runSX (p := p) (l := l) (e := e) (below := below) (meth := meth) (locs := locs) (cells := cs) (slots := ss) (rest := rest.map (ax_c base)) (As := as.map (ax_c base)) (g := F0 m pc ls ((as.reverse ++ rest).map (ax_c base))) (n := as.length) (Ts := ax_T) (own := own) (nL := nL) (index := x) ⟨hx, hb, hml, hown, hts⟩ hM
          ⟨⟨rfl, rfl, Nat.le_trans c1 hfr, Nat.le_trans c2 hlo, pay_in hts (ax_goodIn i2), List.mem_cons_self⟩, hts _ i2, hts _ c5, c4, fun sig hsig => by rw [hsig] at c3; rw [hlen]; exact (Option.some.inj c3).symm, hts _ i3, hts _ i4⟩
          ⟨ax_blind _ base D cA f g, fun U hU hW => ⟨rfl, hwd U hU hW⟩⟩ rfl (by rw [List.length_map]) (by exact hL.2.1) (by rw [List.map_append, List.map_reverse]) (lv_room hw8) hdec hrR
        have hC := h_6
        refine ax_callW hrun hS (fun x1 f1 g1 H1 locs1 q9 ce hrr hP1 hS1 hq9 hv9 hc9 => ?_) (fun v1 f1 g1 H1 locs1 hrr hok1 hP1 hS1 => ?_)
        · rcases ax_cal_i hC with ⟨v2, f2, g2, e2, -⟩ | ⟨x2, f2, g2, e2, hD⟩
          · rw [hrr] at e2; cases e2
          · rw [hrr] at e2
            cases e2
            exact ax_thrW C0 hk hP1 hS1 hq9 hv9 hc9 hL hoL hroom.1 hroom.2 (fun e3 hpass => hout _ _ _ _ _ _ _ _ _ _ _ _ e3 hpass hP1 hS1 hq9 hv9 hc9 hroom.1 hroom.2) _ [] _ rfl (fun z hz => by cases hz) Oh hD
        · rcases ax_cal_i hC with ⟨v2, f2, g2, e2, hD⟩ | ⟨x2, f2, g2, e2, -⟩
          · rw [hrr] at e2
            cases e2
            have hst : ((v1.toList ++ rest).map (ax_c base)) = (v1.map (ax_c base)).toList ++ rest.map (ax_c base) := by cases v1 <;> rfl
            rw [← hst]
            exact hk _ _ _ _ _ _ _ hD H1 locs1 ls hP1 hS1 hL (fun w hw => by
              rcases List.mem_append.mp hw with hw | hw
              · cases v1 with
                | none => cases hw
                | some z => rw [show (some z).toList = [z] from rfl, List.mem_singleton] at hw; subst hw; exact hok1 _ rfl
              · exact hor w hw) hoL hroom.1 hroom.2
          · rw [hrr] at e2; cases e2
  case new x =>
    obtain ⟨x1, hq, h_1⟩ := ax_ob_i h
    obtain ⟨h0, h_2⟩ := ax_nil_i h_1
    obtain ⟨hb1, h_3⟩ := ax_gd_i h_2
    obtain ⟨hb2, h_4⟩ := ax_gd_i h_3
    obtain ⟨hb3, h_5⟩ := ax_gd_i h_4
    intro H locs ls hP hS hL ho hoL hc hs
    have htb : c.exceptionTable.toList = [] := by
      rw [h0] at Oh
      cases e9 : c.exceptionTable.toList with
      | nil => rfl
      | cons z zs => rw [e9] at Oh; exact absurd Oh (fun h_5 => h_5)
    cases h_5
    exact hnew _ _ _ _ _ _ _ _ _ _ rfl (ax_lk_mem _ hq) htb hP hS hL.2.1 (Nat.le_of_ble_eq_true hb1) (Nat.le_of_ble_eq_true hb2) (Nat.le_of_ble_eq_true hb3)
  case return_ =>
    have hn : n = 1 := of_decide_eq_true hpar
    subst hn
    obtain ⟨h0, h_1⟩ := ax_0_i h
    obtain ⟨rfl, h_2⟩ := ax_nil_i h_1
    cases h_2
    intro H locs ls hP hS hL ho hoL hc hs
    exact hret none f g pc _ H locs ls cs ss rfl hdec (Or.inl ⟨h0, rfl, rfl⟩) hP hS (fun x hx => by cases hx) hc hs
  case ireturn =>
    have hn : n = 1 := of_decide_eq_true hpar
    subst hn
    obtain ⟨x, rt, rfl, h_1⟩ := ax_i1_i h
    obtain ⟨rfl, h_2⟩ := ax_nil_i h_1
    obtain ⟨h0, h_3⟩ := ax_ir_i h_2
    cases h_3
    intro H locs ls hP hS hL ho hoL hc hs
    exact hret _ f g pc _ H locs ls cs ss rfl hdec (Or.inr (Or.inl ⟨rfl, x, rfl, h0⟩)) hP hS (fun x hx => by cases hx; exact trivial) hc hs
  case lreturn =>
    have hn : n = 1 := of_decide_eq_true hpar
    subst hn
    obtain ⟨x, rt, rfl, h_1⟩ := ax_l1_i h
    obtain ⟨rfl, h_2⟩ := ax_nil_i h_1
    obtain ⟨h0, h_3⟩ := ax_gd_i h_2
    cases h_3
    intro H locs ls hP hS hL ho hoL hc hs
    exact hret _ f g pc _ H locs ls cs ss rfl hdec (Or.inr (Or.inr (Or.inl ⟨Nat.eq_of_beq_eq_true h0, rfl, x, rfl⟩))) hP hS (fun x hx => by cases hx; exact trivial) hc hs
  case dreturn =>
    have hn : n = 1 := of_decide_eq_true hpar
    subst hn
    obtain ⟨x, rt, rfl, h_1⟩ := ax_d1_i h
    obtain ⟨rfl, h_2⟩ := ax_nil_i h_1
    obtain ⟨h0, h_3⟩ := ax_gd_i h_2
    cases h_3
    intro H locs ls hP hS hL ho hoL hc hs
    exact hret _ f g pc _ H locs ls cs ss rfl hdec (Or.inr (Or.inr (Or.inr (Or.inl ⟨Nat.eq_of_beq_eq_true h0, rfl, x, rfl⟩)))) hP hS (fun x hx => by cases hx; exact trivial) hc hs
  case areturn =>
    have hn : n = 1 := of_decide_eq_true hpar
    subst hn
    obtain ⟨x, rt, rfl, h_1⟩ := ax_v1_i h
    obtain ⟨rfl, h_2⟩ := ax_nil_i h_1
    obtain ⟨h0, h_3⟩ := ax_gd_i h_2
    obtain ⟨h1, h_4⟩ := ax_gd_i h_3
    cases h_4
    intro H locs ls hP hS hL ho hoL hc hs
    exact hret _ f g pc _ H locs ls cs ss rfl hdec (Or.inr (Or.inr (Or.inr (Or.inr ⟨Nat.eq_of_beq_eq_true h0, rfl, x, rfl, h1⟩)))) hP hS (fun z hz => by cases hz; exact ho _ List.mem_cons_self) hc hs
  all_goals (cases h; done)
end AXI
end
section
/-! from runs to contracts -/
section AXM
def ax_sup : List String := ["java/lang/RuntimeException", "java/lang/Exception"]
def ax_wb (w : Cond) : Bool := decide (w ∈ lw_tbl) && (goodWord w || (match w with | .declares _ => true | .castable _ _ => true | _ => false))
theorem ax_wb_use {s : State} {args : Array Value} (hts : ∀ w ∈ ax_T, w.before args s = true) (hY : ax_Y ax_sts ax_nes s) {w : Cond} (h : ax_wb w = true) : w.before args s = true := by
  unfold ax_wb at h
  rw [Bool.and_eq_true, decide_eq_true_eq, Bool.or_eq_true] at h
  obtain ⟨h1, h2⟩ := h
  rcases h2 with h2 | h2
  · exact hts w (ax_inT ⟨h1, h2⟩)
  · cases w <;> first | (cases h2; done) | skip
    · exact (hY.2.2.2.2 _ h1).use rfl
    · exact (hY.2.2.1 _ _ h1).use rfl
/-- the constructor's entry, by the exception -/
def ax_ec (e : Nat) : Nat := match e with
  | 1 => 53
  | 2 => 86
  | _ => 73
def ax_ek (e : Nat) : Nat := match e with
  | 1 => 49
  | 2 => 82
  | _ => 69
def ax_exw (e : Nat) : List Cond := Cond.classLink RX9 (ax_ek e) (ax_en e) :: Cond.initialized (ax_en e) :: vx_atS RX9 (ax_ec e) (ax_en e) ax_sup
theorem ax_exw1 : ∀ w ∈ ax_exw 1, ax_wb w = true := by decide +kernel
theorem ax_exw2 : ∀ w ∈ ax_exw 2, ax_wb w = true := by decide +kernel
theorem ax_exw3 : ∀ w ∈ ax_exw 3, ax_wb w = true := by decide +kernel
theorem ax_exo1 : ∀ w ∈ ax_exw 1, vx_ot w = true := by decide +kernel
theorem ax_exo2 : ∀ w ∈ ax_exw 2, vx_ot w = true := by decide +kernel
theorem ax_exo3 : ∀ w ∈ ax_exw 3, vx_ot w = true := by decide +kernel
theorem ax_exw_ok (e : Nat) : (∀ w ∈ ax_exw e, ax_wb w = true) ∧ ∀ w ∈ ax_exw e, vx_ot w = true := by
  match e with
  | 0 => exact ⟨ax_exw3, ax_exo3⟩
  | 1 => exact ⟨ax_exw1, ax_exo1⟩
  | 2 => exact ⟨ax_exw2, ax_exo2⟩
  | n + 3 => exact ⟨ax_exw3, ax_exo3⟩
theorem ax_fit (e : Nat) : Bundle.fit (ax_en e) = true := by
  match e with
  | 0 => decide +kernel
  | 1 => decide +kernel
  | 2 => decide +kernel
  | n + 3 => show Bundle.fit (ax_en 3) = true; decide +kernel
/-- the five instructions of a throw -/
def ax_ExcOk (cc : ByteArray) (q : Nat × Nat) : Prop := ∃ is text, (RX9, is, text) ∈ ax_sts ∧ decode cc q.1 = .ok (.new (ax_ek q.2), 3) ∧ decode cc (q.1 + 3) = .ok (.dup, 1) ∧ decode cc (q.1 + 4) = .ok (.ldc is, 2) ∧ decode cc (q.1 + 6) = .ok (.invokespecial (ax_ec q.2), 3) ∧ decode cc (q.1 + 9) = .ok (.athrow, 1)
def ax_Rty (t : Nat) (ret : Option FieldType) : Prop := match t with
  | 0 => ret = none
  | 1 => ret = some .int
  | 2 => ret = some .boolean
  | 3 => ret = some .long
  | 4 => ret = some .double
  | _ => ∃ n, ret = some (.object n)
variable {l : Launch} {p : Program} {e : Env} {R : Room} {s : State} {m : MethodId} {args : Array Value} {below : List Frame} {meth : Method} {c : Code} {base : Nat} {D : va_G} {cA : Nat → ClassId} {nL : Nat} {Q : State → Prop} {own : String} {cc : ByteArray} {P : ax_P}
theorem ax_ok_norm {pc : Nat} {L : ax_L} (h : ∀ i v, ax_nth L i = some v → ax_ok v) : ∀ i v, ax_nth (ax_norm P pc L) i = some v → ax_ok v := by
  unfold ax_norm
  cases ax_lk (ax_live P) pc with
  | none => exact h
  | some n => exact fun i v hv => h i v (ax_nth_kill L n i hv)
theorem ax_sound {r : ax_Fin} {fr lo : Nat} (C : ax_Cx p R s m args c base D cA nL fr lo own cc P) (O : ax_Ok l own cc nL fr lo P c.exceptionTable.toList)
    (hret : ∀ (v : Option ax_V) (f : ax_F) (g : ax_G) (pc : Nat) (i : Instr) (H : Heap) (locs : List Loc) (ls : Array Slot) (cs ss : Nat), r = (.inl v, f, g) → decode cc pc = .ok (i, 1) → ax_Rt (ax_ret P) i v → va_P D vwCl (ax_ws base cA f g) H → va_S (ax_A base) s.heap H locs → (∀ x, v = some x → ax_ok x) → cs ≤ ax_mc P → ss ≤ ax_ms P → W p l e R s m args below meth c H locs cs ss Q (F0 m pc ls ((v.map (ax_c base)).toList)))
    (hout : ∀ (x : Nat) (f : ax_F) (g : ax_G) (pc : Nat) (H : Heap) (locs : List Loc) (ls : Array Slot) (rest : List Value) (cs ss : Nat) (q9 : Addr) (ce : Cell), r = (.inr x, f, g) → ax_Pass own args s c.exceptionTable.toList pc x → va_P D vwCl (ax_ws base cA f g) H → va_S (ax_A base) s.heap H locs → H[q9]? = some ce → ce.vm = .none → s.vm.findClass (ax_en x) = some ce.cls → cs ≤ ax_mc P → ss ≤ ax_ms P → vx_W p l e R s m args below meth c H locs cs ss Q (F0 m pc ls rest) q9)
    (hnew : ∀ (x : Nat) (f : ax_F) (g : ax_G) (pc : Nat) (H : Heap) (locs : List Loc) (ls : Array Slot) (st : List ax_V) (cs ss : Nat), r = (.inr x, f, g) → (pc, x) ∈ ax_excs P → c.exceptionTable.toList = [] → va_P D vwCl (ax_ws base cA f g) H → va_S (ax_A base) s.heap H locs → ls.size = nL → ax_wd st ≤ 8 → cs + 1 ≤ ax_mc P → ss + 6 ≤ ax_ms P → W p l e R s m args below meth c H locs cs ss Q (F0 m pc ls (st.map (ax_c base)))) :
    ∀ n pc L st f g cs ss, ax_exec P n pc L st f g cs ss = some r → ax_At l p e R s m args below meth c base D cA nL (ax_mc P) (ax_ms P) Q pc L st f g cs ss := by
  intro n
  induction n with
  | zero => intro pc L st f g cs ss h; cases h
  | succ n ih =>
    intro pc L st f g cs ss h
    rw [ax_exec_succ] at h
    obtain ⟨q, hq, h⟩ := ax_ob_i h
    obtain ⟨e1, he1, hq1⟩ := ax_at_mem _ hq
    obtain ⟨d1, d2⟩ := O.1 e1 he1 _ hq1
    have hA := ax_sound_ins (e := e) (below := below) (meth := meth) (Q := Q) C O ih hret hout hnew d1 d2 h
    intro H locs ls hP hS hL ho hoL hc hs
    exact hA H locs ls hP hS (ax_Ls_norm hL) ho (ax_ok_norm hoL) hc hs
theorem ax_loc_len : ∀ (as : List ax_V) (n : Nat), ax_wd as ≤ n → (ax_loc n as).length = n := by
  intro as
  induction as with
  | nil => intro n _; exact List.length_replicate
  | cons v as ih =>
    intro n h
    unfold ax_wd at h
    unfold ax_loc
    cases e : ax_two v with
    | true =>
      rw [e] at h
      have h' : 2 + ax_wd as ≤ n := h
      show ((ax_loc (n - 2) as).length + 1) + 1 = n
      rw [ih (n - 2) (by omega)]
      omega
    | false =>
      rw [e] at h
      have h' : 1 + ax_wd as ≤ n := h
      show (ax_loc (n - 1) as).length + 1 = n
      rw [ih (n - 1) (by omega)]
      omega
theorem ax_nth_rep (n i : Nat) : ax_nth (List.replicate n none) i = none := by
  induction n generalizing i with
  | zero => rfl
  | succ n ih => cases i with
    | zero => rfl
    | succ i => exact ih i
theorem ax_loc_nth (base : Nat) : ∀ (as : List ax_V) (n k i : Nat) (v : ax_V), ax_nth (ax_loc n as) i = some v → (k + i, ax_c base v) ∈ lv_args k (as.map (ax_c base)) ∧ v ∈ as := by
  intro as
  induction as with
  | nil => intro n k i v h; rw [show ax_loc n [] = List.replicate n none from by cases n <;> rfl, ax_nth_rep] at h; cases h
  | cons w as ih =>
    intro n k i v h
    unfold ax_loc at h
    have hcat : ((ax_c base w).category = 2) ↔ ax_two w = true := by rw [← ax_two_c base w]; simp
    show (k + i, ax_c base v) ∈ (k, ax_c base w) :: lv_args (if (ax_c base w).category = 2 then k + 2 else k + 1) (as.map (ax_c base)) ∧ _
    cases e : ax_two w with
    | true =>
      rw [e] at h
      rw [if_pos (hcat.mpr e)]
      match i, h with
      | 0, h => cases h; exact ⟨List.mem_cons_self, List.mem_cons_self⟩
      | 1, h => cases h
      | i + 2, h =>
        obtain ⟨h1, h2⟩ := ih (n - 2) (k + 2) i v h
        refine ⟨List.mem_cons_of_mem _ ?_, List.mem_cons_of_mem _ h2⟩
        rw [show k + (i + 2) = k + 2 + i by omega]
        exact h1
    | false =>
      rw [e] at h
      rw [if_neg (fun q => by rw [hcat.mp q] at e; cases e)]
      match i, h with
      | 0, h => cases h; exact ⟨List.mem_cons_self, List.mem_cons_self⟩
      | i + 1, h =>
        obtain ⟨h1, h2⟩ := ih (n - 1) (k + 1) i v h
        refine ⟨List.mem_cons_of_mem _ ?_, List.mem_cons_of_mem _ h2⟩
        rw [show k + (i + 1) = k + 1 + i by omega]
        exact h1
theorem ax_sl_len (base : Nat) : ∀ (as : List ax_V), (lg_sl (as.map (ax_c base))).length = ax_wd as := by
  intro as
  induction as with
  | nil => rfl
  | cons w as ih =>
    have hcat : ((ax_c base w).category = 2) ↔ ax_two w = true := by rw [← ax_two_c base w]; simp
    show (lg_sl (ax_c base w :: as.map (ax_c base))).length = _
    unfold lg_sl at ih ⊢
    rw [List.flatMap_cons, List.length_append, ih]
    show _ = (bif ax_two w then 2 else 1) + ax_wd as
    cases e : ax_two w with
    | true => rw [if_pos (hcat.mpr e)]; rfl
    | false => rw [if_neg (fun q => by rw [hcat.mp q] at e; cases e)]; rfl
/-- a body: its run gives the walk from its entry -/
theorem ax_body {r : ax_Fin} {fr lo mc ms : Nat} {ret : Option FieldType} {as : List ax_V} {f : ax_F} {g : ax_G} (hl : l.stackTraces = false) (hown9 : (ax_excs P ≠ [] → own = RX9) ∧ (ax_excs P ≠ [] → 6 ≤ fr ∧ 90 ≤ lo)) (hscr0 : ax_scr P = none)
    (hmcP : ax_mc P = mc) (hmsP : ax_ms P = ms) (hE : ∀ q ∈ ax_excs P, ax_ExcOk cc q) (hRt : ax_Rty (ax_ret P) ret) (O : ax_Ok l own cc nL fr lo P c.exceptionTable.toList)
    (hx : p.tables.exec = Jvm.exec) (hb : c.code = cc) (hml : c.maxLocals = nL) (hown : s.vm.findClass own = some m.cls) (hts : ∀ w ∈ ax_T, w.before args s = true) (hlocks : meth.locks = false) (hr : meth.sig.returnType = ret)
    (hW : ax_Wd base D cA f g s) (hok : ∀ v ∈ as, ax_ok v) (hsem : ax_sem P nL as f g = some r) (hargs : args = (as.map (ax_c base)).toArray) :
    W p l e { frames := fr, cells := mc, slots := ms, locals := lo } s m args below meth c s.heap [] 0 0 (vx_MQ below (ax_Qr base D cA r) (ax_Xr base D cA r) args s mc ms (ax_A base)) (entryFrame m args nL) := by
  subst hmcP; subst hmsP
  obtain ⟨hP, hK, hZ, hY⟩ := hW
  obtain ⟨hwd, hsem⟩ := ax_gd_i hsem
  have hwd := Nat.le_of_ble_eq_true hwd
  obtain ⟨n, hn⟩ := ax_of_run P hsem
  have C : ax_Cx p { frames := fr, cells := ax_mc P, slots := ax_ms P, locals := lo } s m args c base D cA nL fr lo own cc P := ⟨hx, hb, hml, hown, hts, hK, hZ, hY, fun q hq => (by rw [hscr0] at hq; cases hq), Nat.le_refl _, Nat.le_refl _, Nat.le_refl _, Nat.le_refl _⟩
  have key := ax_sound (l := l) (e := e) (below := below) (meth := meth) (r := r) (Q := vx_MQ below (ax_Qr base D cA r) (ax_Xr base D cA r) args s (ax_mc P) (ax_ms P) (ax_A base)) C O ?_ ?_ ?_ n _ _ _ _ _ _ _ hn
  · rw [hargs, lg_entry_eq]
    have hent := lv_entry (as.map (ax_c base)) (n := nL) (by rw [ax_sl_len]; exact hwd)
    rw [← hargs]
    refine key s.heap [] _ hP va_S.rf ⟨ax_loc_len as nL hwd, hent.1, hent.2.1, fun i v hv => ?_⟩ (fun v hv => by cases hv) (fun i v hv => hok v (ax_loc_nth base as nL 0 i v hv).2) (Nat.zero_le _) (Nat.zero_le _)
    have h1 := (ax_loc_nth base as nL 0 i v hv).1
    rw [Nat.zero_add] at h1
    exact hent.2.2 _ h1
  · intro v f g pc i H locs ls cs ss hrr hdec hrt hP hS hok hc hs
    have hq : ∀ t : State, t.heap = H → s.WarmedH t.vm → ax_Qr base D cA r args s (.returned (v.map (ax_c base))) t := fun t ht _ => ⟨⟨v, f, g, hrr, rfl, hok, by rw [ht]; exact hP⟩, hS.F ht⟩
    refine vx_ret (W.widen hc hs ?_)
    unfold ax_Rty at hRt
    rcases hrt with ⟨h0, rfl, rfl⟩ | ⟨rfl, x, rfl, h0⟩ | ⟨h0, rfl, x, rfl⟩ | ⟨h0, rfl, x, rfl⟩ | ⟨h0, rfl, x, rfl, hxr⟩
    · rw [h0] at hRt
      exact W.vret hx hb (hr.trans hRt) hq hS.2.2 hdec hlocks
    · rcases h0 with h0 | ⟨h0, h1⟩
      · rw [h0] at hRt
        exact W.iret hx hb (hr.trans hRt) hq hS.2.2 hdec hlocks
      · rw [h0] at hRt
        exact W.zret hx hb (hr.trans hRt) (by rcases h1 with rfl | rfl <;> decide +kernel) hq hS.2.2 hdec hlocks
    · rw [h0] at hRt
      exact W.lret hx hb (hr.trans hRt) hq hS.2.2 hdec hlocks
    · rw [h0] at hRt
      exact W.dret hx hb (hr.trans hRt) hq hS.2.2 hdec hlocks
    · rw [h0] at hRt
      obtain ⟨n9, hRt⟩ := hRt
      refine W.aret hx hb (hr.trans hRt) (Or.inl ⟨n9, rfl⟩) ?_ hq hS.2.2 hdec hlocks
      rcases ax_isr_i hxr with rfl | ⟨b, rfl⟩ | ⟨q, rfl⟩
      · exact Or.inl rfl
      · exact Or.inr ⟨b, rfl⟩
      · exact Or.inr ⟨_, rfl⟩
  · intro x f g pc H locs ls rest cs ss q9 ce hrr hpass hP hS hq9 hv9 hc9 hc hs
    exact vx_outP hown hlocks hpass hq9 hv9 hc9 (fun t ht _ => ⟨⟨x, f, g, hrr, rfl, by rw [ht]; exact hP⟩, hS.F ht⟩) hS.2.2 hc hs
  · intro x f g pc H locs ls st cs ss hrr hin htb hP hS hsize hwd hc hs
    obtain ⟨is, text, hst, d0, d3, d4, d6, d9⟩ := hE _ hin
    have hne : ax_excs P ≠ [] := fun q => by rw [q] at hin; cases hin
    have ho9 := hown9.1 hne
    obtain ⟨f6, l90⟩ := hown9.2 hne
    obtain ⟨sa, hstr⟩ := hY.1 _ hst
    have hw := (ax_exw_ok x).1
    have hwo := (ax_exw_ok x).2
    rw [ho9] at hown
    refine vx_throwS (own := RX9) (cls := ax_en x) (names := ax_sup) (sa := sa) hx hb hl hown (ax_fit x) (by decide +kernel) (ax_wb_use hts hY (hw _ List.mem_cons_self)) (ax_wb_use hts hY (hw _ (List.mem_cons_of_mem _ List.mem_cons_self))) hstr (fun w h => ax_wb_use hts hY (hw w (List.mem_cons_of_mem _ (List.mem_cons_of_mem _ h)))) hwo hZ.1 hZ.2 hS (hsize.trans hml.symm) d0 d3 d4 d6 d9 (fun z hz => by rw [htb] at hz; cases hz) ?_ ?_ hc hs hlocks ?_ hS.2.2 hc hs
    · show 5 < fr
      omega
    · rw [ax_wd_c]
      show ax_wd st + 82 ≤ lo
      omega
    · intro t hal hz hk
      refine ⟨⟨x, f, g, hrr, rfl, hP.kept (fun k q hq => hk _ (hP k q hq).lt)⟩, Nat.le_trans hS.1 hz, fun q h1 h2 => ?_⟩
      rw [hk q (Nat.lt_of_lt_of_le h1 hS.1)]
      exact hS.2.1 q h1 h2
theorem ax_impl {y : MethodName} {ret : Option FieldType} {fr lo mc ms : Nat} (hl : l.stackTraces = false) (hy : plainName y.cls = true) (hexc : ax_excs P = [] ∨ (y.cls = RX9 ∧ 6 ≤ fr ∧ 90 ≤ lo)) (hscr0 : ax_scr P = none) (hmcP : ax_mc P = mc) (hmsP : ax_ms P = ms) (hE : ∀ q ∈ ax_excs P, ax_ExcOk cc q) (hRt : ax_Rty (ax_ret P) ret) (O : ax_Ok l y.cls cc nL fr lo P []) :
    ax_Impl l y (.code y cc nL ret) fr lo (ax_sem P nL) mc ms := by
  intro base D cA as f g r hok hsem
  refine vx_ofW (cc := cc) (maxL := nL) (ret := ret) hy rfl ?_
  intro p e s m args below meth c s₁ B hml htab hv
  obtain ⟨hargs, hW⟩ := hv
  have ht0 : c.exceptionTable.toList = [] := by
    cases h : c.exceptionTable.toList with
    | nil => rfl
    | cons z zs => exact absurd (htab z (by rw [h]; exact List.mem_cons_self)) (fun h => h)
  have hts := atoms_spec (ws := Cond.code y cc nL ret :: ax_T) B.pre
  have hown : s.vm.findClass y.cls = some m.cls := findClass_of_methodNamed B.named
  refine ax_body (own := y.cls) (cc := cc) (P := P) (fr := fr) (lo := lo) (as := as) (f := f) (g := g) hl ⟨fun h => ?_, fun h => ?_⟩ hscr0 hmcP hmsP hE hRt (by rw [ht0]; exact O) B.exec B.bytes hml hown (fun w hw => hts w (List.mem_cons_of_mem _ hw)) B.notSynchronized B.returns hW hok hsem hargs
  · rcases hexc with h1 | h1
    · exact absurd h1 h
    · exact h1.1
  · rcases hexc with h1 | h1
    · exact absurd h1 h
    · exact h1.2
theorem ax_implW {y : MethodName} {ret : Option FieldType} {fr lo mc ms : Nat} {hh : List (Nat × Nat × Nat × Nat)} (hl : l.stackTraces = false) (hy : plainName y.cls = true) (hexc : ax_excs P = []) (hscr0 : ax_scr P = none) (hmcP : ax_mc P = mc) (hmsP : ax_ms P = ms) (hRt : ax_Rty (ax_ret P) ret) (O : ax_Ok l y.cls cc nL fr lo P (tableOf hh)) :
    ax_Impl l y (.codeWith y cc nL ret hh) fr lo (ax_sem P nL) mc ms := by
  intro base D cA as f g r hok hsem
  refine vx_ofWH (cc := cc) (maxL := nL) (ret := ret) (hh := hh) hy rfl ?_
  intro p e s m args below meth c s₁ B hml hv
  obtain ⟨hargs, hW⟩ := hv
  have hts := atoms_spec (ws := Cond.codeWith y cc nL ret hh :: ax_T) B.pre
  have ht0 : c.exceptionTable.toList = tableOf hh := vx_table (x := y) B (hts _ List.mem_cons_self)
  have hown : s.vm.findClass y.cls = some m.cls := findClass_of_methodNamed B.named
  exact ax_body (own := y.cls) (cc := cc) (P := P) (fr := fr) (lo := lo) (as := as) (f := f) (g := g) hl ⟨fun h => absurd hexc h, fun h => absurd hexc h⟩ hscr0 hmcP hmsP (fun q hq => by rw [hexc] at hq; cases hq) hRt (by rw [ht0]; exact O) B.exec B.bytes hml hown (fun w hw => hts w (List.mem_cons_of_mem _ hw)) B.notSynchronized B.returns hW hok hsem hargs
end AXM
end

section
-- ===== PART A: goes FIRST, ahead of the names: the tables' words, and 'selects' of the private methods out of them =====
/-- a private method of a class that the tables say can be made, by its rows of tables_1 -/
def lw_okq (q : MethodName × Nat) : Prop := (q.1.cls ≠ "java/lang/invoke/MethodHandle" ∧ q.1.cls ≠ "java/lang/invoke/VarHandle") ∧ Cond.instantiable q.1.cls q.2 ∈ tables_1 ∧ Cond.privateMethod q.1 ∈ tables_1 ∧ Cond.instanceMethod q.1 ∈ tables_1
theorem lw_p0 : lw_okq (⟨"ReplayLink$Link", "receive", "(LReplayLink$Wire;LReplayLink$End;)I"⟩, 8) := ⟨⟨by decide +kernel, by decide +kernel⟩, List.mem_of_getElem? (i := 19) (by decide +kernel), List.mem_of_getElem? (i := 252) (by decide +kernel), List.mem_of_getElem? (i := 253) (by decide +kernel)⟩
theorem lw_p1 : lw_okq (⟨"ReplayLink$Link", "takeIn", "(LReplayLink$Frame;LReplayLink$End;)V"⟩, 8) := ⟨⟨by decide +kernel, by decide +kernel⟩, List.mem_of_getElem? (i := 19) (by decide +kernel), List.mem_of_getElem? (i := 264) (by decide +kernel), List.mem_of_getElem? (i := 265) (by decide +kernel)⟩
theorem lw_p2 : lw_okq (⟨"ReplayLink$Frame", "readAsWord", "()I"⟩, 3) := ⟨⟨by decide +kernel, by decide +kernel⟩, List.mem_of_getElem? (i := 119) (by decide +kernel), List.mem_of_getElem? (i := 272) (by decide +kernel), List.mem_of_getElem? (i := 273) (by decide +kernel)⟩
theorem lw_p3 : lw_okq (⟨"ReplayLink$Frame", "readLowestFirst", "(II)J"⟩, 3) := ⟨⟨by decide +kernel, by decide +kernel⟩, List.mem_of_getElem? (i := 119) (by decide +kernel), List.mem_of_getElem? (i := 280) (by decide +kernel), List.mem_of_getElem? (i := 281) (by decide +kernel)⟩
theorem lw_p4 : lw_okq (⟨"ReplayLink$Frame", "readAsPacket", "()I"⟩, 3) := ⟨⟨by decide +kernel, by decide +kernel⟩, List.mem_of_getElem? (i := 119) (by decide +kernel), List.mem_of_getElem? (i := 285) (by decide +kernel), List.mem_of_getElem? (i := 286) (by decide +kernel)⟩
theorem lw_p5 : lw_okq (⟨"ReplayLink$Link", "takeInData", "(LReplayLink$Frame;LReplayLink$End;)V"⟩, 8) := ⟨⟨by decide +kernel, by decide +kernel⟩, List.mem_of_getElem? (i := 19) (by decide +kernel), List.mem_of_getElem? (i := 297) (by decide +kernel), List.mem_of_getElem? (i := 298) (by decide +kernel)⟩
theorem lw_p6 : lw_okq (⟨"ReplayLink$Link", "takeInWord", "(IILReplayLink$End;)V"⟩, 8) := ⟨⟨by decide +kernel, by decide +kernel⟩, List.mem_of_getElem? (i := 19) (by decide +kernel), List.mem_of_getElem? (i := 319) (by decide +kernel), List.mem_of_getElem? (i := 320) (by decide +kernel)⟩
theorem lw_p7 : lw_okq (⟨"ReplayLink$Link", "sendAgain", "(LReplayLink$End;)V"⟩, 8) := ⟨⟨by decide +kernel, by decide +kernel⟩, List.mem_of_getElem? (i := 19) (by decide +kernel), List.mem_of_getElem? (i := 343) (by decide +kernel), List.mem_of_getElem? (i := 344) (by decide +kernel)⟩
theorem lw_p8 : lw_okq (⟨"ReplayLink$Link", "train", "()V"⟩, 8) := ⟨⟨by decide +kernel, by decide +kernel⟩, List.mem_of_getElem? (i := 19) (by decide +kernel), List.mem_of_getElem? (i := 347) (by decide +kernel), List.mem_of_getElem? (i := 348) (by decide +kernel)⟩
theorem lw_p9 : lw_okq (⟨"ReplayLink$Link", "runTimers", "(LReplayLink$End;)V"⟩, 8) := ⟨⟨by decide +kernel, by decide +kernel⟩, List.mem_of_getElem? (i := 19) (by decide +kernel), List.mem_of_getElem? (i := 351) (by decide +kernel), List.mem_of_getElem? (i := 352) (by decide +kernel)⟩
theorem lw_p10 : lw_okq (⟨"ReplayLink$Link", "layOneFrame", "(LReplayLink$End;LReplayLink$Wire;)V"⟩, 8) := ⟨⟨by decide +kernel, by decide +kernel⟩, List.mem_of_getElem? (i := 19) (by decide +kernel), List.mem_of_getElem? (i := 355) (by decide +kernel), List.mem_of_getElem? (i := 356) (by decide +kernel)⟩
theorem lw_p11 : lw_okq (⟨"ReplayLink$Frame", "writeLowestFirst", "(IIJ)V"⟩, 3) := ⟨⟨by decide +kernel, by decide +kernel⟩, List.mem_of_getElem? (i := 119) (by decide +kernel), List.mem_of_getElem? (i := 372) (by decide +kernel), List.mem_of_getElem? (i := 373) (by decide +kernel)⟩
theorem lw_p12 : lw_okq (⟨"ReplayLink$Link", "layNewPacket", "(LReplayLink$End;LReplayLink$Frame;)V"⟩, 8) := ⟨⟨by decide +kernel, by decide +kernel⟩, List.mem_of_getElem? (i := 19) (by decide +kernel), List.mem_of_getElem? (i := 386) (by decide +kernel), List.mem_of_getElem? (i := 387) (by decide +kernel)⟩
theorem lw_p13 : lw_okq (⟨"ReplayLink", "isNoFrame", "(II)Z"⟩, 2) := ⟨⟨by decide +kernel, by decide +kernel⟩, List.mem_of_getElem? (i := 11) (by decide +kernel), List.mem_of_getElem? (i := 414) (by decide +kernel), List.mem_of_getElem? (i := 415) (by decide +kernel)⟩
theorem lw_p14 : lw_okq (⟨"ReplayLink", "isNoPlaceToKeep", "(I)Z"⟩, 2) := ⟨⟨by decide +kernel, by decide +kernel⟩, List.mem_of_getElem? (i := 11) (by decide +kernel), List.mem_of_getElem? (i := 474) (by decide +kernel), List.mem_of_getElem? (i := 475) (by decide +kernel)⟩
theorem lw_p15 : lw_okq (⟨"ReplayLinkModel", "waiting", "(I)I"⟩, 7) := ⟨⟨by decide +kernel, by decide +kernel⟩, List.mem_of_getElem? (i := 500) (by decide +kernel), List.mem_of_getElem? (i := 548) (by decide +kernel), List.mem_of_getElem? (i := 549) (by decide +kernel)⟩
def lw_privs_1 : List (MethodName × Nat) := [(⟨"ReplayLink$Link", "receive", "(LReplayLink$Wire;LReplayLink$End;)I"⟩, 8), (⟨"ReplayLink$Link", "takeIn", "(LReplayLink$Frame;LReplayLink$End;)V"⟩, 8), (⟨"ReplayLink$Frame", "readAsWord", "()I"⟩, 3), (⟨"ReplayLink$Frame", "readLowestFirst", "(II)J"⟩, 3), (⟨"ReplayLink$Frame", "readAsPacket", "()I"⟩, 3), (⟨"ReplayLink$Link", "takeInData", "(LReplayLink$Frame;LReplayLink$End;)V"⟩, 8), (⟨"ReplayLink$Link", "takeInWord", "(IILReplayLink$End;)V"⟩, 8), (⟨"ReplayLink$Link", "sendAgain", "(LReplayLink$End;)V"⟩, 8), (⟨"ReplayLink$Link", "train", "()V"⟩, 8), (⟨"ReplayLink$Link", "runTimers", "(LReplayLink$End;)V"⟩, 8), (⟨"ReplayLink$Link", "layOneFrame", "(LReplayLink$End;LReplayLink$Wire;)V"⟩, 8), (⟨"ReplayLink$Frame", "writeLowestFirst", "(IIJ)V"⟩, 3), (⟨"ReplayLink$Link", "layNewPacket", "(LReplayLink$End;LReplayLink$Frame;)V"⟩, 8), (⟨"ReplayLink", "isNoFrame", "(II)Z"⟩, 2), (⟨"ReplayLink", "isNoPlaceToKeep", "(I)Z"⟩, 2), (⟨"ReplayLinkModel", "waiting", "(I)I"⟩, 7)]
theorem lw_r1 : ∀ q ∈ lw_privs_1, lw_okq q := List.forall_mem_cons.mpr ⟨lw_p0, List.forall_mem_cons.mpr ⟨lw_p1, List.forall_mem_cons.mpr ⟨lw_p2, List.forall_mem_cons.mpr ⟨lw_p3, List.forall_mem_cons.mpr ⟨lw_p4, List.forall_mem_cons.mpr ⟨lw_p5, List.forall_mem_cons.mpr ⟨lw_p6, List.forall_mem_cons.mpr ⟨lw_p7, List.forall_mem_cons.mpr ⟨lw_p8, List.forall_mem_cons.mpr ⟨lw_p9, List.forall_mem_cons.mpr ⟨lw_p10, List.forall_mem_cons.mpr ⟨lw_p11, List.forall_mem_cons.mpr ⟨lw_p12, List.forall_mem_cons.mpr ⟨lw_p13, List.forall_mem_cons.mpr ⟨lw_p14, List.forall_mem_cons.mpr ⟨lw_p15, fun _ h => absurd h List.not_mem_nil⟩⟩⟩⟩⟩⟩⟩⟩⟩⟩⟩⟩⟩⟩⟩⟩
theorem lw_p16 : lw_okq (⟨"ReplayLinkModel", "begins", "(Z)V"⟩, 7) := ⟨⟨by decide +kernel, by decide +kernel⟩, List.mem_of_getElem? (i := 500) (by decide +kernel), List.mem_of_getElem? (i := 560) (by decide +kernel), List.mem_of_getElem? (i := 561) (by decide +kernel)⟩
theorem lw_p17 : lw_okq (⟨"ReplayLinkModel", "adds", "(IZ)V"⟩, 7) := ⟨⟨by decide +kernel, by decide +kernel⟩, List.mem_of_getElem? (i := 500) (by decide +kernel), List.mem_of_getElem? (i := 566) (by decide +kernel), List.mem_of_getElem? (i := 567) (by decide +kernel)⟩
theorem lw_p18 : lw_okq (⟨"ReplayLinkModel", "sumOf", "(Z)J"⟩, 7) := ⟨⟨by decide +kernel, by decide +kernel⟩, List.mem_of_getElem? (i := 500) (by decide +kernel), List.mem_of_getElem? (i := 572) (by decide +kernel), List.mem_of_getElem? (i := 573) (by decide +kernel)⟩
theorem lw_p19 : lw_okq (⟨"ReplayLinkModel", "ticks", "()I"⟩, 7) := ⟨⟨by decide +kernel, by decide +kernel⟩, List.mem_of_getElem? (i := 500) (by decide +kernel), List.mem_of_getElem? (i := 588) (by decide +kernel), List.mem_of_getElem? (i := 589) (by decide +kernel)⟩
theorem lw_p20 : lw_okq (⟨"ReplayLinkModel", "coming", "()I"⟩, 7) := ⟨⟨by decide +kernel, by decide +kernel⟩, List.mem_of_getElem? (i := 500) (by decide +kernel), List.mem_of_getElem? (i := 592) (by decide +kernel), List.mem_of_getElem? (i := 593) (by decide +kernel)⟩
theorem lw_p21 : lw_okq (⟨"ReplayLinkModel", "many", "(I)I"⟩, 7) := ⟨⟨by decide +kernel, by decide +kernel⟩, List.mem_of_getElem? (i := 500) (by decide +kernel), List.mem_of_getElem? (i := 596) (by decide +kernel), List.mem_of_getElem? (i := 597) (by decide +kernel)⟩
theorem lw_p22 : lw_okq (⟨"ReplayLinkModel", "comes", "(II)V"⟩, 7) := ⟨⟨by decide +kernel, by decide +kernel⟩, List.mem_of_getElem? (i := 500) (by decide +kernel), List.mem_of_getElem? (i := 606) (by decide +kernel), List.mem_of_getElem? (i := 607) (by decide +kernel)⟩
theorem lw_p23 : lw_okq (⟨"ReplayLinkModel", "remove", "(II)V"⟩, 7) := ⟨⟨by decide +kernel, by decide +kernel⟩, List.mem_of_getElem? (i := 500) (by decide +kernel), List.mem_of_getElem? (i := 610) (by decide +kernel), List.mem_of_getElem? (i := 611) (by decide +kernel)⟩
theorem lw_p24 : lw_okq (⟨"ReplayLinkModel", "read", "(I)I"⟩, 7) := ⟨⟨by decide +kernel, by decide +kernel⟩, List.mem_of_getElem? (i := 500) (by decide +kernel), List.mem_of_getElem? (i := 614) (by decide +kernel), List.mem_of_getElem? (i := 615) (by decide +kernel)⟩
theorem lw_p25 : lw_okq (⟨"ReplayLinkModel", "comesData", "(II)V"⟩, 7) := ⟨⟨by decide +kernel, by decide +kernel⟩, List.mem_of_getElem? (i := 500) (by decide +kernel), List.mem_of_getElem? (i := 619) (by decide +kernel), List.mem_of_getElem? (i := 620) (by decide +kernel)⟩
theorem lw_p26 : lw_okq (⟨"ReplayLinkModel", "dropped", "(I)V"⟩, 7) := ⟨⟨by decide +kernel, by decide +kernel⟩, List.mem_of_getElem? (i := 500) (by decide +kernel), List.mem_of_getElem? (i := 626) (by decide +kernel), List.mem_of_getElem? (i := 627) (by decide +kernel)⟩
theorem lw_p27 : lw_okq (⟨"ReplayLinkModel", "handsUp", "(II)V"⟩, 7) := ⟨⟨by decide +kernel, by decide +kernel⟩, List.mem_of_getElem? (i := 500) (by decide +kernel), List.mem_of_getElem? (i := 630) (by decide +kernel), List.mem_of_getElem? (i := 631) (by decide +kernel)⟩
theorem lw_p28 : lw_okq (⟨"ReplayLinkModel", "comesWord", "(III)V"⟩, 7) := ⟨⟨by decide +kernel, by decide +kernel⟩, List.mem_of_getElem? (i := 500) (by decide +kernel), List.mem_of_getElem? (i := 637) (by decide +kernel), List.mem_of_getElem? (i := 638) (by decide +kernel)⟩
theorem lw_p29 : lw_okq (⟨"ReplayLinkModel", "sendsAgain", "(I)V"⟩, 7) := ⟨⟨by decide +kernel, by decide +kernel⟩, List.mem_of_getElem? (i := 500) (by decide +kernel), List.mem_of_getElem? (i := 641) (by decide +kernel), List.mem_of_getElem? (i := 642) (by decide +kernel)⟩
theorem lw_p30 : lw_okq (⟨"ReplayLinkModel", "timers", "(I)V"⟩, 7) := ⟨⟨by decide +kernel, by decide +kernel⟩, List.mem_of_getElem? (i := 500) (by decide +kernel), List.mem_of_getElem? (i := 645) (by decide +kernel), List.mem_of_getElem? (i := 646) (by decide +kernel)⟩
theorem lw_p31 : lw_okq (⟨"ReplayLinkModel", "laying", "(I)V"⟩, 7) := ⟨⟨by decide +kernel, by decide +kernel⟩, List.mem_of_getElem? (i := 500) (by decide +kernel), List.mem_of_getElem? (i := 649) (by decide +kernel), List.mem_of_getElem? (i := 650) (by decide +kernel)⟩
def lw_privs_2 : List (MethodName × Nat) := [(⟨"ReplayLinkModel", "begins", "(Z)V"⟩, 7), (⟨"ReplayLinkModel", "adds", "(IZ)V"⟩, 7), (⟨"ReplayLinkModel", "sumOf", "(Z)J"⟩, 7), (⟨"ReplayLinkModel", "ticks", "()I"⟩, 7), (⟨"ReplayLinkModel", "coming", "()I"⟩, 7), (⟨"ReplayLinkModel", "many", "(I)I"⟩, 7), (⟨"ReplayLinkModel", "comes", "(II)V"⟩, 7), (⟨"ReplayLinkModel", "remove", "(II)V"⟩, 7), (⟨"ReplayLinkModel", "read", "(I)I"⟩, 7), (⟨"ReplayLinkModel", "comesData", "(II)V"⟩, 7), (⟨"ReplayLinkModel", "dropped", "(I)V"⟩, 7), (⟨"ReplayLinkModel", "handsUp", "(II)V"⟩, 7), (⟨"ReplayLinkModel", "comesWord", "(III)V"⟩, 7), (⟨"ReplayLinkModel", "sendsAgain", "(I)V"⟩, 7), (⟨"ReplayLinkModel", "timers", "(I)V"⟩, 7), (⟨"ReplayLinkModel", "laying", "(I)V"⟩, 7)]
theorem lw_r2 : ∀ q ∈ lw_privs_2, lw_okq q := List.forall_mem_cons.mpr ⟨lw_p16, List.forall_mem_cons.mpr ⟨lw_p17, List.forall_mem_cons.mpr ⟨lw_p18, List.forall_mem_cons.mpr ⟨lw_p19, List.forall_mem_cons.mpr ⟨lw_p20, List.forall_mem_cons.mpr ⟨lw_p21, List.forall_mem_cons.mpr ⟨lw_p22, List.forall_mem_cons.mpr ⟨lw_p23, List.forall_mem_cons.mpr ⟨lw_p24, List.forall_mem_cons.mpr ⟨lw_p25, List.forall_mem_cons.mpr ⟨lw_p26, List.forall_mem_cons.mpr ⟨lw_p27, List.forall_mem_cons.mpr ⟨lw_p28, List.forall_mem_cons.mpr ⟨lw_p29, List.forall_mem_cons.mpr ⟨lw_p30, List.forall_mem_cons.mpr ⟨lw_p31, fun _ h => absurd h List.not_mem_nil⟩⟩⟩⟩⟩⟩⟩⟩⟩⟩⟩⟩⟩⟩⟩⟩
theorem lw_p32 : lw_okq (⟨"ReplayLinkModel", "laysWord", "(II)V"⟩, 7) := ⟨⟨by decide +kernel, by decide +kernel⟩, List.mem_of_getElem? (i := 500) (by decide +kernel), List.mem_of_getElem? (i := 653) (by decide +kernel), List.mem_of_getElem? (i := 654) (by decide +kernel)⟩
theorem lw_p33 : lw_okq (⟨"ReplayLinkModel", "beginsFrame", "(I)V"⟩, 7) := ⟨⟨by decide +kernel, by decide +kernel⟩, List.mem_of_getElem? (i := 500) (by decide +kernel), List.mem_of_getElem? (i := 657) (by decide +kernel), List.mem_of_getElem? (i := 658) (by decide +kernel)⟩
theorem lw_p34 : lw_okq (⟨"ReplayLinkModel", "lays", "(I)V"⟩, 7) := ⟨⟨by decide +kernel, by decide +kernel⟩, List.mem_of_getElem? (i := 500) (by decide +kernel), List.mem_of_getElem? (i := 661) (by decide +kernel), List.mem_of_getElem? (i := 662) (by decide +kernel)⟩
theorem lw_p35 : lw_okq (⟨"ReplayLinkModel", "laysData", "(IIZ)V"⟩, 7) := ⟨⟨by decide +kernel, by decide +kernel⟩, List.mem_of_getElem? (i := 500) (by decide +kernel), List.mem_of_getElem? (i := 665) (by decide +kernel), List.mem_of_getElem? (i := 666) (by decide +kernel)⟩
theorem lw_p36 : lw_okq (⟨"ReplayLinkModel", "isQuiet", "()Z"⟩, 7) := ⟨⟨by decide +kernel, by decide +kernel⟩, List.mem_of_getElem? (i := 500) (by decide +kernel), List.mem_of_getElem? (i := 674) (by decide +kernel), List.mem_of_getElem? (i := 675) (by decide +kernel)⟩
theorem lw_p37 : lw_okq (⟨"ReplayLinkModel", "isFrame", "(II)Z"⟩, 7) := ⟨⟨by decide +kernel, by decide +kernel⟩, List.mem_of_getElem? (i := 500) (by decide +kernel), List.mem_of_getElem? (i := 686) (by decide +kernel), List.mem_of_getElem? (i := 687) (by decide +kernel)⟩
theorem lw_p38 : lw_okq (⟨"ReplayLinkModel", "upMany", "(I)I"⟩, 7) := ⟨⟨by decide +kernel, by decide +kernel⟩, List.mem_of_getElem? (i := 500) (by decide +kernel), List.mem_of_getElem? (i := 711) (by decide +kernel), List.mem_of_getElem? (i := 712) (by decide +kernel)⟩
def lw_privs_3 : List (MethodName × Nat) := [(⟨"ReplayLinkModel", "laysWord", "(II)V"⟩, 7), (⟨"ReplayLinkModel", "beginsFrame", "(I)V"⟩, 7), (⟨"ReplayLinkModel", "lays", "(I)V"⟩, 7), (⟨"ReplayLinkModel", "laysData", "(IIZ)V"⟩, 7), (⟨"ReplayLinkModel", "isQuiet", "()Z"⟩, 7), (⟨"ReplayLinkModel", "isFrame", "(II)Z"⟩, 7), (⟨"ReplayLinkModel", "upMany", "(I)I"⟩, 7)]
theorem lw_r3 : ∀ q ∈ lw_privs_3, lw_okq q := List.forall_mem_cons.mpr ⟨lw_p32, List.forall_mem_cons.mpr ⟨lw_p33, List.forall_mem_cons.mpr ⟨lw_p34, List.forall_mem_cons.mpr ⟨lw_p35, List.forall_mem_cons.mpr ⟨lw_p36, List.forall_mem_cons.mpr ⟨lw_p37, List.forall_mem_cons.mpr ⟨lw_p38, fun _ h => absurd h List.not_mem_nil⟩⟩⟩⟩⟩⟩⟩
def lw_privs : List (MethodName × Nat) := lw_privs_1 ++ (lw_privs_2 ++ (lw_privs_3))
def lw_tbl : List Cond := k2_sels lw_privs ++ tables_1
theorem lw_privs_ok : ∀ q ∈ lw_privs, lw_okq q := by
  show ∀ q ∈ lw_privs_1 ++ (lw_privs_2 ++ (lw_privs_3)), lw_okq q
  exact List.forall_mem_append.mpr ⟨lw_r1, List.forall_mem_append.mpr ⟨lw_r2, lw_r3⟩⟩
end
section
def RX0 : String := "ReplayLink$End"
def TX0 : u_T := fun k => match k with
  | 0 => ("ReplayLink$End", "draft", "[I", true)
  | 1 => ("ReplayLink$End", "draftLength", "I", false)
  | 2 => ("ReplayLink$End", "packets", "LReplayLink$Packets;", true)
  | 3 => ("ReplayLink$End", "offered", "I", false)
  | 4 => ("ReplayLink$End", "sent", "I", false)
  | 5 => ("ReplayLink$End", "acknowledged", "I", false)
  | 6 => ("ReplayLink$End", "voidTold", "Z", false)
  | 7 => ("ReplayLink$End", "timer", "I", false)
  | 8 => ("ReplayLink$End", "tries", "I", false)
  | 9 => ("ReplayLink$End", "toSendAgain", "I", false)
  | 10 => ("ReplayLink$End", "wanted", "I", false)
  | 11 => ("ReplayLink$End", "nakked", "Z", false)
  | 12 => ("ReplayLink$End", "nakDue", "Z", false)
  | 13 => ("ReplayLink$End", "ackDueIn", "I", false)
  | 14 => ("ReplayLink$End", "upPackets", "LReplayLink$Packets;", true)
  | _ => ("ReplayLink$End", "handedUp", "I", false)
def tyX0 : Nat → FieldType := fun k => match k with
  | 0 => .array .int
  | 1 => .int
  | 2 => .object "ReplayLink$Packets"
  | 3 => .int
  | 4 => .int
  | 5 => .int
  | 6 => .boolean
  | 7 => .int
  | 8 => .int
  | 9 => .int
  | 10 => .int
  | 11 => .boolean
  | 12 => .boolean
  | 13 => .int
  | 14 => .object "ReplayLink$Packets"
  | _ => .int
theorem nmX0 : ∀ a, a < 16 → ∀ b, b < 16 → a ≠ b → (TX0 a).2.1 ≠ (TX0 b).2.1 := by decide +kernel
theorem tyX0_ok : ∀ k, k < 16 → parseFieldDescriptor (TX0 k).2.2.1 = some (tyX0 k) := by decide +kernel
abbrev cX0_init : ByteArray := prog_2_method_1_code
def yX0_init : MethodName := ⟨RX0, "<init>", "()V"⟩
abbrev cX0_waiting : ByteArray := prog_2_method_2_code
def yX0_waiting : MethodName := ⟨RX0, "waiting", "()I"⟩
abbrev cX0_unacked : ByteArray := prog_2_method_3_code
def yX0_unacked : MethodName := ⟨RX0, "unacked", "()I"⟩
abbrev cX0_nextNumber : ByteArray := prog_2_method_4_code
def yX0_nextNumber : MethodName := ⟨RX0, "nextNumber", "()I"⟩
abbrev cX0_ackedNumber : ByteArray := prog_2_method_5_code
def yX0_ackedNumber : MethodName := ⟨RX0, "ackedNumber", "()I"⟩
abbrev cX0_keptUp : ByteArray := prog_2_method_6_code
def yX0_keptUp : MethodName := ⟨RX0, "keptUp", "()I"⟩
abbrev cX0_addToDraft : ByteArray := prog_2_method_7_code
def yX0_addToDraft : MethodName := ⟨RX0, "addToDraft", "(IJ)V"⟩
abbrev cX0_turnDraftIntoPacket : ByteArray := prog_2_method_8_code
def yX0_turnDraftIntoPacket : MethodName := ⟨RX0, "turnDraftIntoPacket", "()V"⟩
abbrev cX0_writePacket : ByteArray := prog_2_method_9_code
def yX0_writePacket : MethodName := ⟨RX0, "writePacket", "(LReplayLink$Frame;II)V"⟩
abbrev cX0_writeWord : ByteArray := prog_2_method_10_code
def yX0_writeWord : MethodName := ⟨RX0, "writeWord", "(LReplayLink$Frame;I)V"⟩
abbrev cX0_takeAcknowledgement : ByteArray := prog_2_method_11_code
def yX0_takeAcknowledgement : MethodName := ⟨RX0, "takeAcknowledgement", "(I)V"⟩
abbrev cX0_handUp : ByteArray := prog_2_method_12_code
def yX0_handUp : MethodName := ⟨RX0, "handUp", "(LReplayLink$Frame;)V"⟩
abbrev cX0_oweAck : ByteArray := prog_2_method_13_code
def yX0_oweAck : MethodName := ⟨RX0, "oweAck", "(I)V"⟩
abbrev cX0_oweNak : ByteArray := prog_2_method_14_code
def yX0_oweNak : MethodName := ⟨RX0, "oweNak", "()V"⟩
abbrev cX0_isQuiet : ByteArray := prog_2_method_15_code
def yX0_isQuiet : MethodName := ⟨RX0, "isQuiet", "()Z"⟩
abbrev cX0_tell : ByteArray := prog_2_method_16_code
def yX0_tell : MethodName := ⟨RX0, "tell", "(I)I"⟩
abbrev cX0_copyFrom : ByteArray := prog_2_method_17_code
def yX0_copyFrom : MethodName := ⟨RX0, "copyFrom", "(LReplayLink$End;)V"⟩
def RX1 : String := "ReplayLink$Frame"
def TX1 : u_T := fun k => match k with
  | 0 => ("ReplayLink$Frame", "bytes", "[I", true)
  | 1 => ("ReplayLink$Frame", "length", "I", false)
  | _ => ("ReplayLink$Frame", "comesAt", "I", false)
def tyX1 : Nat → FieldType := fun k => match k with
  | 0 => .array .int
  | 1 => .int
  | _ => .int
theorem nmX1 : ∀ a, a < 3 → ∀ b, b < 3 → a ≠ b → (TX1 a).2.1 ≠ (TX1 b).2.1 := by decide +kernel
theorem tyX1_ok : ∀ k, k < 3 → parseFieldDescriptor (TX1 k).2.2.1 = some (tyX1 k) := by decide +kernel
abbrev cX1_init : ByteArray := prog_3_method_1_code
def yX1_init : MethodName := ⟨RX1, "<init>", "()V"⟩
abbrev cX1_writeWord : ByteArray := prog_3_method_2_code
def yX1_writeWord : MethodName := ⟨RX1, "writeWord", "(II)V"⟩
abbrev cX1_writePacket : ByteArray := prog_3_method_3_code
def yX1_writePacket : MethodName := ⟨RX1, "writePacket", "(IILReplayLink$Packets;I)V"⟩
abbrev cX1_readAs : ByteArray := prog_3_method_4_code
def yX1_readAs : MethodName := ⟨RX1, "readAs", "()I"⟩
abbrev cX1_number : ByteArray := prog_3_method_5_code
def yX1_number : MethodName := ⟨RX1, "number", "()I"⟩
abbrev cX1_packetLength : ByteArray := prog_3_method_6_code
def yX1_packetLength : MethodName := ⟨RX1, "packetLength", "()I"⟩
abbrev cX1_copyFrom : ByteArray := prog_3_method_7_code
def yX1_copyFrom : MethodName := ⟨RX1, "copyFrom", "(LReplayLink$Frame;)V"⟩
abbrev cX1_readAsWord : ByteArray := prog_3_method_8_code
def yX1_readAsWord : MethodName := ⟨RX1, "readAsWord", "()I"⟩
abbrev cX1_readAsPacket : ByteArray := prog_3_method_9_code
def yX1_readAsPacket : MethodName := ⟨RX1, "readAsPacket", "()I"⟩
abbrev cX1_writeLowestFirst : ByteArray := prog_3_method_10_code
def yX1_writeLowestFirst : MethodName := ⟨RX1, "writeLowestFirst", "(IIJ)V"⟩
abbrev cX1_readLowestFirst : ByteArray := prog_3_method_11_code
def yX1_readLowestFirst : MethodName := ⟨RX1, "readLowestFirst", "(II)J"⟩
def RX2 : String := "ReplayLink$Link"
def TX2 : u_T := fun k => match k with
  | 0 => ("ReplayLink$Link", "ends", "[LReplayLink$End;", true)
  | 1 => ("ReplayLink$Link", "wires", "[LReplayLink$Wire;", true)
  | 2 => ("ReplayLink$Link", "tallies", "[I", true)
  | 3 => ("ReplayLink$Link", "ticks", "I", false)
  | 4 => ("ReplayLink$Link", "trainingLeft", "I", false)
  | 5 => ("ReplayLink$Link", "delay", "I", false)
  | 6 => ("ReplayLink$Link", "patience", "I", false)
  | _ => ("ReplayLink$Link", "ackDelay", "I", false)
def tyX2 : Nat → FieldType := fun k => match k with
  | 0 => .array (.object "ReplayLink$End")
  | 1 => .array (.object "ReplayLink$Wire")
  | 2 => .array .int
  | 3 => .int
  | 4 => .int
  | 5 => .int
  | 6 => .int
  | _ => .int
theorem nmX2 : ∀ a, a < 8 → ∀ b, b < 8 → a ≠ b → (TX2 a).2.1 ≠ (TX2 b).2.1 := by decide +kernel
theorem tyX2_ok : ∀ k, k < 8 → parseFieldDescriptor (TX2 k).2.2.1 = some (tyX2 k) := by decide +kernel
abbrev cX2_init : ByteArray := prog_4_method_1_code
def yX2_init : MethodName := ⟨RX2, "<init>", "()V"⟩
abbrev cX2_changeDelay : ByteArray := prog_4_method_2_code
def yX2_changeDelay : MethodName := ⟨RX2, "changeDelay", "(I)I"⟩
abbrev cX2_changePatience : ByteArray := prog_4_method_3_code
def yX2_changePatience : MethodName := ⟨RX2, "changePatience", "(I)I"⟩
abbrev cX2_changeAckDelay : ByteArray := prog_4_method_4_code
def yX2_changeAckDelay : MethodName := ⟨RX2, "changeAckDelay", "(I)I"⟩
abbrev cX2_passTick : ByteArray := prog_4_method_5_code
def yX2_passTick : MethodName := ⟨RX2, "passTick", "()I"⟩
abbrev cX2_isQuiet : ByteArray := prog_4_method_6_code
def yX2_isQuiet : MethodName := ⟨RX2, "isQuiet", "()Z"⟩
abbrev cX2_copyFrom : ByteArray := prog_4_method_7_code
def yX2_copyFrom : MethodName := ⟨RX2, "copyFrom", "(LReplayLink$Link;)V"⟩
abbrev cX2_receive : ByteArray := prog_4_method_8_code
def yX2_receive : MethodName := ⟨RX2, "receive", "(LReplayLink$Wire;LReplayLink$End;)I"⟩
abbrev cX2_takeIn : ByteArray := prog_4_method_9_code
def yX2_takeIn : MethodName := ⟨RX2, "takeIn", "(LReplayLink$Frame;LReplayLink$End;)V"⟩
abbrev cX2_takeInData : ByteArray := prog_4_method_10_code
def yX2_takeInData : MethodName := ⟨RX2, "takeInData", "(LReplayLink$Frame;LReplayLink$End;)V"⟩
abbrev cX2_takeInWord : ByteArray := prog_4_method_11_code
def yX2_takeInWord : MethodName := ⟨RX2, "takeInWord", "(IILReplayLink$End;)V"⟩
abbrev cX2_runTimers : ByteArray := prog_4_method_12_code
def yX2_runTimers : MethodName := ⟨RX2, "runTimers", "(LReplayLink$End;)V"⟩
abbrev cX2_sendAgain : ByteArray := prog_4_method_13_code
def yX2_sendAgain : MethodName := ⟨RX2, "sendAgain", "(LReplayLink$End;)V"⟩
abbrev cX2_train : ByteArray := prog_4_method_14_code
def yX2_train : MethodName := ⟨RX2, "train", "()V"⟩
abbrev cX2_layOneFrame : ByteArray := prog_4_method_15_code
def yX2_layOneFrame : MethodName := ⟨RX2, "layOneFrame", "(LReplayLink$End;LReplayLink$Wire;)V"⟩
abbrev cX2_layNewPacket : ByteArray := prog_4_method_16_code
def yX2_layNewPacket : MethodName := ⟨RX2, "layNewPacket", "(LReplayLink$End;LReplayLink$Frame;)V"⟩
def RX3 : String := "ReplayLink$Packets"
def TX3 : u_T := fun k => match k with
  | 0 => ("ReplayLink$Packets", "lengths", "[I", true)
  | _ => ("ReplayLink$Packets", "bytes", "[I", true)
def tyX3 : Nat → FieldType := fun k => match k with
  | 0 => .array .int
  | _ => .array .int
theorem nmX3 : ∀ a, a < 2 → ∀ b, b < 2 → a ≠ b → (TX3 a).2.1 ≠ (TX3 b).2.1 := by decide +kernel
theorem tyX3_ok : ∀ k, k < 2 → parseFieldDescriptor (TX3 k).2.2.1 = some (tyX3 k) := by decide +kernel
abbrev cX3_init : ByteArray := prog_5_method_1_code
def yX3_init : MethodName := ⟨RX3, "<init>", "(I)V"⟩
abbrev cX3_put : ByteArray := prog_5_method_2_code
def yX3_put : MethodName := ⟨RX3, "put", "(I[III)V"⟩
abbrev cX3_byteOf : ByteArray := prog_5_method_3_code
def yX3_byteOf : MethodName := ⟨RX3, "byteOf", "(II)I"⟩
abbrev cX3_copyFrom : ByteArray := prog_5_method_4_code
def yX3_copyFrom : MethodName := ⟨RX3, "copyFrom", "(LReplayLink$Packets;)V"⟩
def RX4 : String := "ReplayLink$Wire"
def TX4 : u_T := fun k => match k with
  | 0 => ("ReplayLink$Wire", "frames", "[LReplayLink$Frame;", true)
  | _ => ("ReplayLink$Wire", "load", "I", false)
def tyX4 : Nat → FieldType := fun k => match k with
  | 0 => .array (.object "ReplayLink$Frame")
  | _ => .int
theorem nmX4 : ∀ a, a < 2 → ∀ b, b < 2 → a ≠ b → (TX4 a).2.1 ≠ (TX4 b).2.1 := by decide +kernel
theorem tyX4_ok : ∀ k, k < 2 → parseFieldDescriptor (TX4 k).2.2.1 = some (tyX4 k) := by decide +kernel
abbrev cX4_init : ByteArray := prog_6_method_1_code
def yX4_init : MethodName := ⟨RX4, "<init>", "()V"⟩
abbrev cX4_layOneMore : ByteArray := prog_6_method_2_code
def yX4_layOneMore : MethodName := ⟨RX4, "layOneMore", "(I)LReplayLink$Frame;"⟩
abbrev cX4_takeOff : ByteArray := prog_6_method_3_code
def yX4_takeOff : MethodName := ⟨RX4, "takeOff", "(I)LReplayLink$Frame;"⟩
abbrev cX4_repeat : ByteArray := prog_6_method_4_code
def yX4_repeat : MethodName := ⟨RX4, "repeat", "(I)V"⟩
abbrev cX4_eldestOver : ByteArray := prog_6_method_5_code
def yX4_eldestOver : MethodName := ⟨RX4, "eldestOver", "(I)I"⟩
abbrev cX4_copyFrom : ByteArray := prog_6_method_6_code
def yX4_copyFrom : MethodName := ⟨RX4, "copyFrom", "(LReplayLink$Wire;)V"⟩
def RX5 : String := "ReplayLink"
def TX5 : u_T := fun k => match k with
  | 0 => ("ReplayLink", "link", "LReplayLink$Link;", true)
  | _ => ("ReplayLink", "kept", "[LReplayLink$Link;", true)
def tyX5 : Nat → FieldType := fun k => match k with
  | 0 => .object "ReplayLink$Link"
  | _ => .array (.object "ReplayLink$Link")
theorem nmX5 : ∀ a, a < 2 → ∀ b, b < 2 → a ≠ b → (TX5 a).2.1 ≠ (TX5 b).2.1 := by decide +kernel
theorem tyX5_ok : ∀ k, k < 2 → parseFieldDescriptor (TX5 k).2.2.1 = some (tyX5 k) := by decide +kernel
abbrev cX5_init : ByteArray := prog_1_method_1_code
def yX5_init : MethodName := ⟨RX5, "<init>", "()V"⟩
abbrev cX5_draft : ByteArray := prog_1_method_2_code
def yX5_draft : MethodName := ⟨RX5, "draft", "(IIJ)I"⟩
abbrev cX5_offer : ByteArray := prog_1_method_3_code
def yX5_offer : MethodName := ⟨RX5, "offer", "(I)I"⟩
abbrev cX5_check : ByteArray := prog_1_method_4_code
def yX5_check : MethodName := ⟨RX5, "check", "(II)J"⟩
abbrev cX5_set : ByteArray := prog_1_method_5_code
def yX5_set : MethodName := ⟨RX5, "set", "(II)I"⟩
abbrev cX5_tick : ByteArray := prog_1_method_6_code
def yX5_tick : MethodName := ⟨RX5, "tick", "(I)I"⟩
abbrev cX5_settle : ByteArray := prog_1_method_7_code
def yX5_settle : MethodName := ⟨RX5, "settle", "(I)I"⟩
abbrev cX5_voids : ByteArray := prog_1_method_8_code
def yX5_voids : MethodName := ⟨RX5, "voids", "(I)I"⟩
abbrev cX5_bend : ByteArray := prog_1_method_9_code
def yX5_bend : MethodName := ⟨RX5, "bend", "(IIII)I"⟩
abbrev cX5_lose : ByteArray := prog_1_method_10_code
def yX5_lose : MethodName := ⟨RX5, "lose", "(II)I"⟩
abbrev cX5_twice : ByteArray := prog_1_method_11_code
def yX5_twice : MethodName := ⟨RX5, "twice", "(II)I"⟩
abbrev cX5_wire : ByteArray := prog_1_method_12_code
def yX5_wire : MethodName := ⟨RX5, "wire", "(III)I"⟩
abbrev cX5_end : ByteArray := prog_1_method_13_code
def yX5_end : MethodName := ⟨RX5, "end", "(II)I"⟩
abbrev cX5_up : ByteArray := prog_1_method_14_code
def yX5_up : MethodName := ⟨RX5, "up", "(II)I"⟩
abbrev cX5_upByte : ByteArray := prog_1_method_15_code
def yX5_upByte : MethodName := ⟨RX5, "upByte", "(III)I"⟩
abbrev cX5_count : ByteArray := prog_1_method_16_code
def yX5_count : MethodName := ⟨RX5, "count", "(I)I"⟩
abbrev cX5_keep : ByteArray := prog_1_method_17_code
def yX5_keep : MethodName := ⟨RX5, "keep", "(I)I"⟩
abbrev cX5_again : ByteArray := prog_1_method_18_code
def yX5_again : MethodName := ⟨RX5, "again", "(I)I"⟩
abbrev cX5_isNoFrame : ByteArray := prog_1_method_19_code
def yX5_isNoFrame : MethodName := ⟨RX5, "isNoFrame", "(II)Z"⟩
abbrev cX5_isNoPlaceToKeep : ByteArray := prog_1_method_20_code
def yX5_isNoPlaceToKeep : MethodName := ⟨RX5, "isNoPlaceToKeep", "(I)Z"⟩
abbrev cX5_isNoSide : ByteArray := prog_1_method_21_code
def yX5_isNoSide : MethodName := ⟨RX5, "isNoSide", "(I)Z"⟩
abbrev cX5_asNumber : ByteArray := prog_1_method_22_code
def yX5_asNumber : MethodName := ⟨RX5, "asNumber", "(Z)I"⟩
abbrev cX5_by64 : ByteArray := prog_1_method_23_code
def yX5_by64 : MethodName := ⟨RX5, "by64", "(I)I"⟩
abbrev cX5_checkOf : ByteArray := prog_1_method_24_code
def yX5_checkOf : MethodName := ⟨RX5, "checkOf", "(I[III)J"⟩
abbrev cX5_turned : ByteArray := prog_1_method_25_code
def yX5_turned : MethodName := ⟨RX5, "turned", "(J)J"⟩
def RX6 : String := "ReplayLinkModel"
def TX6 : u_T := fun k => match k with
  | 0 => ("ReplayLinkModel", "st", "[I", true)
  | 1 => ("ReplayLinkModel", "kept", "[I", true)
  | 2 => ("ReplayLinkModel", "isKept", "[Z", true)
  | 3 => ("ReplayLinkModel", "wasTraining", "Z", false)
  | 4 => ("ReplayLinkModel", "sum", "J", false)
  | 5 => ("ReplayLinkModel", "laid", "I", false)
  | _ => ("ReplayLinkModel", "length", "I", false)
def tyX6 : Nat → FieldType := fun k => match k with
  | 0 => .array .int
  | 1 => .array .int
  | 2 => .array .boolean
  | 3 => .boolean
  | 4 => .long
  | 5 => .int
  | _ => .int
theorem nmX6 : ∀ a, a < 7 → ∀ b, b < 7 → a ≠ b → (TX6 a).2.1 ≠ (TX6 b).2.1 := by decide +kernel
theorem tyX6_ok : ∀ k, k < 7 → parseFieldDescriptor (TX6 k).2.2.1 = some (tyX6 k) := by decide +kernel
abbrev cX6_init : ByteArray := prog_8_method_1_code
def yX6_init : MethodName := ⟨RX6, "<init>", "()V"⟩
abbrev cX6_in : ByteArray := prog_8_method_2_code
def yX6_in : MethodName := ⟨RX6, "in", "(JJJ)Z"⟩
abbrev cX6_endAt : ByteArray := prog_8_method_3_code
def yX6_endAt : MethodName := ⟨RX6, "endAt", "(I)I"⟩
abbrev cX6_wireAt : ByteArray := prog_8_method_4_code
def yX6_wireAt : MethodName := ⟨RX6, "wireAt", "(I)I"⟩
abbrev cX6_frameAt : ByteArray := prog_8_method_5_code
def yX6_frameAt : MethodName := ⟨RX6, "frameAt", "(II)I"⟩
abbrev cX6_packetAt : ByteArray := prog_8_method_6_code
def yX6_packetAt : MethodName := ⟨RX6, "packetAt", "(II)I"⟩
abbrev cX6_upAt : ByteArray := prog_8_method_7_code
def yX6_upAt : MethodName := ⟨RX6, "upAt", "(II)I"⟩
abbrev cX6_by64 : ByteArray := prog_8_method_8_code
def yX6_by64 : MethodName := ⟨RX6, "by64", "(I)I"⟩
abbrev cX6_isEnd : ByteArray := prog_8_method_9_code
def yX6_isEnd : MethodName := ⟨RX6, "isEnd", "(I)Z"⟩
abbrev cX6_begins : ByteArray := prog_8_method_10_code
def yX6_begins : MethodName := ⟨RX6, "begins", "(Z)V"⟩
abbrev cX6_adds : ByteArray := prog_8_method_11_code
def yX6_adds : MethodName := ⟨RX6, "adds", "(IZ)V"⟩
abbrev cX6_sumOf : ByteArray := prog_8_method_12_code
def yX6_sumOf : MethodName := ⟨RX6, "sumOf", "(Z)J"⟩
abbrev cX6_draft : ByteArray := prog_8_method_13_code
def yX6_draft : MethodName := ⟨RX6, "draft", "(IIJ)I"⟩
abbrev cX6_waiting : ByteArray := prog_8_method_14_code
def yX6_waiting : MethodName := ⟨RX6, "waiting", "(I)I"⟩
abbrev cX6_offer : ByteArray := prog_8_method_15_code
def yX6_offer : MethodName := ⟨RX6, "offer", "(I)I"⟩
abbrev cX6_check : ByteArray := prog_8_method_16_code
def yX6_check : MethodName := ⟨RX6, "check", "(II)J"⟩
abbrev cX6_set : ByteArray := prog_8_method_17_code
def yX6_set : MethodName := ⟨RX6, "set", "(II)I"⟩
abbrev cX6_many : ByteArray := prog_8_method_18_code
def yX6_many : MethodName := ⟨RX6, "many", "(I)I"⟩
abbrev cX6_remove : ByteArray := prog_8_method_19_code
def yX6_remove : MethodName := ⟨RX6, "remove", "(II)V"⟩
abbrev cX6_beginsFrame : ByteArray := prog_8_method_20_code
def yX6_beginsFrame : MethodName := ⟨RX6, "beginsFrame", "(I)V"⟩
abbrev cX6_lays : ByteArray := prog_8_method_21_code
def yX6_lays : MethodName := ⟨RX6, "lays", "(I)V"⟩
abbrev cX6_laysWord : ByteArray := prog_8_method_22_code
def yX6_laysWord : MethodName := ⟨RX6, "laysWord", "(II)V"⟩
abbrev cX6_laysData : ByteArray := prog_8_method_23_code
def yX6_laysData : MethodName := ⟨RX6, "laysData", "(IIZ)V"⟩
abbrev cX6_read : ByteArray := prog_8_method_24_code
def yX6_read : MethodName := ⟨RX6, "read", "(I)I"⟩
abbrev cX6_sendsAgain : ByteArray := prog_8_method_25_code
def yX6_sendsAgain : MethodName := ⟨RX6, "sendsAgain", "(I)V"⟩
abbrev cX6_comesWord : ByteArray := prog_8_method_26_code
def yX6_comesWord : MethodName := ⟨RX6, "comesWord", "(III)V"⟩
abbrev cX6_dropped : ByteArray := prog_8_method_27_code
def yX6_dropped : MethodName := ⟨RX6, "dropped", "(I)V"⟩
abbrev cX6_comesData : ByteArray := prog_8_method_28_code
def yX6_comesData : MethodName := ⟨RX6, "comesData", "(II)V"⟩
abbrev cX6_handsUp : ByteArray := prog_8_method_29_code
def yX6_handsUp : MethodName := ⟨RX6, "handsUp", "(II)V"⟩
abbrev cX6_comes : ByteArray := prog_8_method_30_code
def yX6_comes : MethodName := ⟨RX6, "comes", "(II)V"⟩
abbrev cX6_coming : ByteArray := prog_8_method_31_code
def yX6_coming : MethodName := ⟨RX6, "coming", "()I"⟩
abbrev cX6_timers : ByteArray := prog_8_method_32_code
def yX6_timers : MethodName := ⟨RX6, "timers", "(I)V"⟩
abbrev cX6_laying : ByteArray := prog_8_method_33_code
def yX6_laying : MethodName := ⟨RX6, "laying", "(I)V"⟩
abbrev cX6_ticks : ByteArray := prog_8_method_34_code
def yX6_ticks : MethodName := ⟨RX6, "ticks", "()I"⟩
abbrev cX6_tick : ByteArray := prog_8_method_35_code
def yX6_tick : MethodName := ⟨RX6, "tick", "(I)I"⟩
abbrev cX6_isQuiet : ByteArray := prog_8_method_36_code
def yX6_isQuiet : MethodName := ⟨RX6, "isQuiet", "()Z"⟩
abbrev cX6_settle : ByteArray := prog_8_method_37_code
def yX6_settle : MethodName := ⟨RX6, "settle", "(I)I"⟩
abbrev cX6_voids : ByteArray := prog_8_method_38_code
def yX6_voids : MethodName := ⟨RX6, "voids", "(I)I"⟩
abbrev cX6_isFrame : ByteArray := prog_8_method_39_code
def yX6_isFrame : MethodName := ⟨RX6, "isFrame", "(II)Z"⟩
abbrev cX6_bend : ByteArray := prog_8_method_40_code
def yX6_bend : MethodName := ⟨RX6, "bend", "(IIII)I"⟩
abbrev cX6_lose : ByteArray := prog_8_method_41_code
def yX6_lose : MethodName := ⟨RX6, "lose", "(II)I"⟩
abbrev cX6_twice : ByteArray := prog_8_method_42_code
def yX6_twice : MethodName := ⟨RX6, "twice", "(II)I"⟩
abbrev cX6_wire : ByteArray := prog_8_method_43_code
def yX6_wire : MethodName := ⟨RX6, "wire", "(III)I"⟩
abbrev cX6_end : ByteArray := prog_8_method_44_code
def yX6_end : MethodName := ⟨RX6, "end", "(II)I"⟩
abbrev cX6_upMany : ByteArray := prog_8_method_45_code
def yX6_upMany : MethodName := ⟨RX6, "upMany", "(I)I"⟩
abbrev cX6_up : ByteArray := prog_8_method_46_code
def yX6_up : MethodName := ⟨RX6, "up", "(II)I"⟩
abbrev cX6_upByte : ByteArray := prog_8_method_47_code
def yX6_upByte : MethodName := ⟨RX6, "upByte", "(III)I"⟩
abbrev cX6_count : ByteArray := prog_8_method_48_code
def yX6_count : MethodName := ⟨RX6, "count", "(I)I"⟩
abbrev cX6_keep : ByteArray := prog_8_method_49_code
def yX6_keep : MethodName := ⟨RX6, "keep", "(I)I"⟩
abbrev cX6_again : ByteArray := prog_8_method_50_code
def yX6_again : MethodName := ⟨RX6, "again", "(I)I"⟩
def RJ9 : String := "java/lang/Math"
def TJ9 : u_T := fun k => match k with
  | _ => ("", "", "", false)
def tyJ9 : Nat → FieldType := fun k => match k with
  | _ => .int
theorem nmJ9 : ∀ a, a < 0 → ∀ b, b < 0 → a ≠ b → (TJ9 a).2.1 ≠ (TJ9 b).2.1 := by decide +kernel
theorem tyJ9_ok : ∀ k, k < 0 → parseFieldDescriptor (TJ9 k).2.2.1 = some (tyJ9 k) := by decide +kernel
abbrev cJ9_min_7cf53 : ByteArray := prog_9_method_69_code
def yJ9_min_7cf53 : MethodName := ⟨RJ9, "min", "(II)I"⟩
def RJ10 : String := "java/lang/System"
def TJ10 : u_T := fun k => match k with
  | _ => ("", "", "", false)
def tyJ10 : Nat → FieldType := fun k => match k with
  | _ => .int
theorem nmJ10 : ∀ a, a < 0 → ∀ b, b < 0 → a ≠ b → (TJ10 a).2.1 ≠ (TJ10 b).2.1 := by decide +kernel
theorem tyJ10_ok : ∀ k, k < 0 → parseFieldDescriptor (TJ10 k).2.2.1 = some (tyJ10 k) := by decide +kernel
def RL : String := "ReplayLinkLaw"
abbrev cL_law : ByteArray := code
def yL_law : MethodName := ⟨RL, "law", "([I)Z"⟩
abbrev vwCl : List vw_C := [(RX0, TX0, 16), (RX1, TX1, 3), (RX2, TX2, 8), (RX3, TX3, 2), (RX4, TX4, 2), (RX5, TX5, 2), (RX6, TX6, 7)]
end
section
theorem dX0_init_0 : decode cX0_init 0 = .ok (.aload_n 0, 1) := by decide +kernel
theorem dX0_init_1 : decode cX0_init 1 = .ok (.invokespecial 3, 3) := by decide +kernel
theorem dX0_init_4 : decode cX0_init 4 = .ok (.aload_n 0, 1) := by decide +kernel
theorem dX0_init_5 : decode cX0_init 5 = .ok (.bipush 24, 2) := by decide +kernel
theorem dX0_init_7 : decode cX0_init 7 = .ok (.newarray .int, 2) := by decide +kernel
theorem dX0_init_9 : decode cX0_init 9 = .ok (.putfield 9, 3) := by decide +kernel
theorem dX0_init_12 : decode cX0_init 12 = .ok (.aload_n 0, 1) := by decide +kernel
theorem dX0_init_13 : decode cX0_init 13 = .ok (.new 15, 3) := by decide +kernel
theorem dX0_init_16 : decode cX0_init 16 = .ok (.dup, 1) := by decide +kernel
theorem dX0_init_17 : decode cX0_init 17 = .ok (.bipush 24, 2) := by decide +kernel
theorem dX0_init_19 : decode cX0_init 19 = .ok (.invokespecial 17, 3) := by decide +kernel
theorem dX0_init_22 : decode cX0_init 22 = .ok (.putfield 20, 3) := by decide +kernel
theorem dX0_init_25 : decode cX0_init 25 = .ok (.aload_n 0, 1) := by decide +kernel
theorem dX0_init_26 : decode cX0_init 26 = .ok (.bipush (-4), 2) := by decide +kernel
theorem dX0_init_28 : decode cX0_init 28 = .ok (.putfield 24, 3) := by decide +kernel
theorem dX0_init_31 : decode cX0_init 31 = .ok (.aload_n 0, 1) := by decide +kernel
theorem dX0_init_32 : decode cX0_init 32 = .ok (.new 15, 3) := by decide +kernel
theorem dX0_init_35 : decode cX0_init 35 = .ok (.dup, 1) := by decide +kernel
theorem dX0_init_36 : decode cX0_init 36 = .ok (.bipush 60, 2) := by decide +kernel
theorem dX0_init_38 : decode cX0_init 38 = .ok (.invokespecial 17, 3) := by decide +kernel
theorem dX0_init_41 : decode cX0_init 41 = .ok (.putfield 28, 3) := by decide +kernel
theorem dX0_init_44 : decode cX0_init 44 = .ok (.return_, 1) := by decide +kernel
theorem dX0_waiting_0 : decode cX0_waiting 0 = .ok (.aload_n 0, 1) := by decide +kernel
theorem dX0_waiting_1 : decode cX0_waiting 1 = .ok (.getfield 31, 3) := by decide +kernel
theorem dX0_waiting_4 : decode cX0_waiting 4 = .ok (.aload_n 0, 1) := by decide +kernel
theorem dX0_waiting_5 : decode cX0_waiting 5 = .ok (.getfield 34, 3) := by decide +kernel
theorem dX0_waiting_8 : decode cX0_waiting 8 = .ok (.isub, 1) := by decide +kernel
theorem dX0_waiting_9 : decode cX0_waiting 9 = .ok (.ireturn, 1) := by decide +kernel
theorem dX0_unacked_0 : decode cX0_unacked 0 = .ok (.aload_n 0, 1) := by decide +kernel
theorem dX0_unacked_1 : decode cX0_unacked 1 = .ok (.getfield 34, 3) := by decide +kernel
theorem dX0_unacked_4 : decode cX0_unacked 4 = .ok (.aload_n 0, 1) := by decide +kernel
theorem dX0_unacked_5 : decode cX0_unacked 5 = .ok (.getfield 37, 3) := by decide +kernel
theorem dX0_unacked_8 : decode cX0_unacked 8 = .ok (.isub, 1) := by decide +kernel
theorem dX0_unacked_9 : decode cX0_unacked 9 = .ok (.ireturn, 1) := by decide +kernel
theorem dX0_nextNumber_0 : decode cX0_nextNumber 0 = .ok (.aload_n 0, 1) := by decide +kernel
theorem dX0_nextNumber_1 : decode cX0_nextNumber 1 = .ok (.getfield 34, 3) := by decide +kernel
theorem dX0_nextNumber_4 : decode cX0_nextNumber 4 = .ok (.invokestatic 40, 3) := by decide +kernel
theorem dX0_nextNumber_7 : decode cX0_nextNumber 7 = .ok (.ireturn, 1) := by decide +kernel
theorem dX0_ackedNumber_0 : decode cX0_ackedNumber 0 = .ok (.aload_n 0, 1) := by decide +kernel
theorem dX0_ackedNumber_1 : decode cX0_ackedNumber 1 = .ok (.getfield 37, 3) := by decide +kernel
theorem dX0_ackedNumber_4 : decode cX0_ackedNumber 4 = .ok (.iconst 1, 1) := by decide +kernel
theorem dX0_ackedNumber_5 : decode cX0_ackedNumber 5 = .ok (.isub, 1) := by decide +kernel
theorem dX0_ackedNumber_6 : decode cX0_ackedNumber 6 = .ok (.invokestatic 40, 3) := by decide +kernel
theorem dX0_ackedNumber_9 : decode cX0_ackedNumber 9 = .ok (.ireturn, 1) := by decide +kernel
theorem dX0_keptUp_0 : decode cX0_keptUp 0 = .ok (.aload_n 0, 1) := by decide +kernel
theorem dX0_keptUp_1 : decode cX0_keptUp 1 = .ok (.getfield 44, 3) := by decide +kernel
theorem dX0_keptUp_4 : decode cX0_keptUp 4 = .ok (.bipush 60, 2) := by decide +kernel
theorem dX0_keptUp_6 : decode cX0_keptUp 6 = .ok (.invokestatic 47, 3) := by decide +kernel
theorem dX0_keptUp_9 : decode cX0_keptUp 9 = .ok (.ireturn, 1) := by decide +kernel
theorem dX0_addToDraft_0 : decode cX0_addToDraft 0 = .ok (.iconst 0, 1) := by decide +kernel
theorem dX0_addToDraft_1 : decode cX0_addToDraft 1 = .ok (.istore 4, 2) := by decide +kernel
theorem dX0_addToDraft_3 : decode cX0_addToDraft 3 = .ok (.iload 4, 2) := by decide +kernel
theorem dX0_addToDraft_5 : decode cX0_addToDraft 5 = .ok (.iload_n 1, 1) := by decide +kernel
theorem dX0_addToDraft_6 : decode cX0_addToDraft 6 = .ok (.if_icmp .ge 33, 3) := by decide +kernel
theorem dX0_addToDraft_9 : decode cX0_addToDraft 9 = .ok (.aload_n 0, 1) := by decide +kernel
theorem dX0_addToDraft_10 : decode cX0_addToDraft 10 = .ok (.getfield 9, 3) := by decide +kernel
theorem dX0_addToDraft_13 : decode cX0_addToDraft 13 = .ok (.aload_n 0, 1) := by decide +kernel
theorem dX0_addToDraft_14 : decode cX0_addToDraft 14 = .ok (.getfield 53, 3) := by decide +kernel
theorem dX0_addToDraft_17 : decode cX0_addToDraft 17 = .ok (.iload 4, 2) := by decide +kernel
theorem dX0_addToDraft_19 : decode cX0_addToDraft 19 = .ok (.iadd, 1) := by decide +kernel
theorem dX0_addToDraft_20 : decode cX0_addToDraft 20 = .ok (.lload_n 2, 1) := by decide +kernel
theorem dX0_addToDraft_21 : decode cX0_addToDraft 21 = .ok (.bipush 8, 2) := by decide +kernel
theorem dX0_addToDraft_23 : decode cX0_addToDraft 23 = .ok (.iload 4, 2) := by decide +kernel
theorem dX0_addToDraft_25 : decode cX0_addToDraft 25 = .ok (.imul, 1) := by decide +kernel
theorem dX0_addToDraft_26 : decode cX0_addToDraft 26 = .ok (.lushr, 1) := by decide +kernel
theorem dX0_addToDraft_27 : decode cX0_addToDraft 27 = .ok (.l2i, 1) := by decide +kernel
theorem dX0_addToDraft_28 : decode cX0_addToDraft 28 = .ok (.sipush 255, 3) := by decide +kernel
theorem dX0_addToDraft_31 : decode cX0_addToDraft 31 = .ok (.iand, 1) := by decide +kernel
theorem dX0_addToDraft_32 : decode cX0_addToDraft 32 = .ok (.iastore, 1) := by decide +kernel
theorem dX0_addToDraft_33 : decode cX0_addToDraft 33 = .ok (.iinc 4 1, 3) := by decide +kernel
theorem dX0_addToDraft_36 : decode cX0_addToDraft 36 = .ok (.goto (-33), 3) := by decide +kernel
theorem dX0_addToDraft_39 : decode cX0_addToDraft 39 = .ok (.aload_n 0, 1) := by decide +kernel
theorem dX0_addToDraft_40 : decode cX0_addToDraft 40 = .ok (.dup, 1) := by decide +kernel
theorem dX0_addToDraft_41 : decode cX0_addToDraft 41 = .ok (.getfield 53, 3) := by decide +kernel
theorem dX0_addToDraft_44 : decode cX0_addToDraft 44 = .ok (.iload_n 1, 1) := by decide +kernel
theorem dX0_addToDraft_45 : decode cX0_addToDraft 45 = .ok (.iadd, 1) := by decide +kernel
theorem dX0_addToDraft_46 : decode cX0_addToDraft 46 = .ok (.putfield 53, 3) := by decide +kernel
theorem dX0_addToDraft_49 : decode cX0_addToDraft 49 = .ok (.return_, 1) := by decide +kernel
theorem dX0_turnDraftIntoPacket_0 : decode cX0_turnDraftIntoPacket 0 = .ok (.aload_n 0, 1) := by decide +kernel
theorem dX0_turnDraftIntoPacket_1 : decode cX0_turnDraftIntoPacket 1 = .ok (.getfield 20, 3) := by decide +kernel
theorem dX0_turnDraftIntoPacket_4 : decode cX0_turnDraftIntoPacket 4 = .ok (.aload_n 0, 1) := by decide +kernel
theorem dX0_turnDraftIntoPacket_5 : decode cX0_turnDraftIntoPacket 5 = .ok (.getfield 31, 3) := by decide +kernel
theorem dX0_turnDraftIntoPacket_8 : decode cX0_turnDraftIntoPacket 8 = .ok (.bipush 24, 2) := by decide +kernel
theorem dX0_turnDraftIntoPacket_10 : decode cX0_turnDraftIntoPacket 10 = .ok (.irem, 1) := by decide +kernel
theorem dX0_turnDraftIntoPacket_11 : decode cX0_turnDraftIntoPacket 11 = .ok (.aload_n 0, 1) := by decide +kernel
theorem dX0_turnDraftIntoPacket_12 : decode cX0_turnDraftIntoPacket 12 = .ok (.getfield 9, 3) := by decide +kernel
theorem dX0_turnDraftIntoPacket_15 : decode cX0_turnDraftIntoPacket 15 = .ok (.iconst 0, 1) := by decide +kernel
theorem dX0_turnDraftIntoPacket_16 : decode cX0_turnDraftIntoPacket 16 = .ok (.aload_n 0, 1) := by decide +kernel
theorem dX0_turnDraftIntoPacket_17 : decode cX0_turnDraftIntoPacket 17 = .ok (.getfield 53, 3) := by decide +kernel
theorem dX0_turnDraftIntoPacket_20 : decode cX0_turnDraftIntoPacket 20 = .ok (.invokevirtual 56, 3) := by decide +kernel
theorem dX0_turnDraftIntoPacket_23 : decode cX0_turnDraftIntoPacket 23 = .ok (.aload_n 0, 1) := by decide +kernel
theorem dX0_turnDraftIntoPacket_24 : decode cX0_turnDraftIntoPacket 24 = .ok (.dup, 1) := by decide +kernel
theorem dX0_turnDraftIntoPacket_25 : decode cX0_turnDraftIntoPacket 25 = .ok (.getfield 31, 3) := by decide +kernel
theorem dX0_turnDraftIntoPacket_28 : decode cX0_turnDraftIntoPacket 28 = .ok (.iconst 1, 1) := by decide +kernel
theorem dX0_turnDraftIntoPacket_29 : decode cX0_turnDraftIntoPacket 29 = .ok (.iadd, 1) := by decide +kernel
theorem dX0_turnDraftIntoPacket_30 : decode cX0_turnDraftIntoPacket 30 = .ok (.putfield 31, 3) := by decide +kernel
theorem dX0_turnDraftIntoPacket_33 : decode cX0_turnDraftIntoPacket 33 = .ok (.aload_n 0, 1) := by decide +kernel
theorem dX0_turnDraftIntoPacket_34 : decode cX0_turnDraftIntoPacket 34 = .ok (.iconst 0, 1) := by decide +kernel
theorem dX0_turnDraftIntoPacket_35 : decode cX0_turnDraftIntoPacket 35 = .ok (.putfield 53, 3) := by decide +kernel
theorem dX0_turnDraftIntoPacket_38 : decode cX0_turnDraftIntoPacket 38 = .ok (.return_, 1) := by decide +kernel
theorem dX0_writePacket_0 : decode cX0_writePacket 0 = .ok (.aload_n 1, 1) := by decide +kernel
theorem dX0_writePacket_1 : decode cX0_writePacket 1 = .ok (.iload_n 2, 1) := by decide +kernel
theorem dX0_writePacket_2 : decode cX0_writePacket 2 = .ok (.iload_n 3, 1) := by decide +kernel
theorem dX0_writePacket_3 : decode cX0_writePacket 3 = .ok (.invokestatic 40, 3) := by decide +kernel
theorem dX0_writePacket_6 : decode cX0_writePacket 6 = .ok (.aload_n 0, 1) := by decide +kernel
theorem dX0_writePacket_7 : decode cX0_writePacket 7 = .ok (.getfield 20, 3) := by decide +kernel
theorem dX0_writePacket_10 : decode cX0_writePacket 10 = .ok (.iload_n 3, 1) := by decide +kernel
theorem dX0_writePacket_11 : decode cX0_writePacket 11 = .ok (.bipush 24, 2) := by decide +kernel
theorem dX0_writePacket_13 : decode cX0_writePacket 13 = .ok (.irem, 1) := by decide +kernel
theorem dX0_writePacket_14 : decode cX0_writePacket 14 = .ok (.invokevirtual 60, 3) := by decide +kernel
theorem dX0_writePacket_17 : decode cX0_writePacket 17 = .ok (.return_, 1) := by decide +kernel
theorem dX0_writeWord_0 : decode cX0_writeWord 0 = .ok (.aload_n 1, 1) := by decide +kernel
theorem dX0_writeWord_1 : decode cX0_writeWord 1 = .ok (.iload_n 2, 1) := by decide +kernel
theorem dX0_writeWord_2 : decode cX0_writeWord 2 = .ok (.aload_n 0, 1) := by decide +kernel
theorem dX0_writeWord_3 : decode cX0_writeWord 3 = .ok (.getfield 66, 3) := by decide +kernel
theorem dX0_writeWord_6 : decode cX0_writeWord 6 = .ok (.iconst 1, 1) := by decide +kernel
theorem dX0_writeWord_7 : decode cX0_writeWord 7 = .ok (.isub, 1) := by decide +kernel
theorem dX0_writeWord_8 : decode cX0_writeWord 8 = .ok (.invokestatic 40, 3) := by decide +kernel
theorem dX0_writeWord_11 : decode cX0_writeWord 11 = .ok (.invokevirtual 69, 3) := by decide +kernel
theorem dX0_writeWord_14 : decode cX0_writeWord 14 = .ok (.aload_n 0, 1) := by decide +kernel
theorem dX0_writeWord_15 : decode cX0_writeWord 15 = .ok (.bipush (-4), 2) := by decide +kernel
theorem dX0_writeWord_17 : decode cX0_writeWord 17 = .ok (.putfield 24, 3) := by decide +kernel
theorem dX0_writeWord_20 : decode cX0_writeWord 20 = .ok (.iload_n 2, 1) := by decide +kernel
theorem dX0_writeWord_21 : decode cX0_writeWord 21 = .ok (.iconst 3, 1) := by decide +kernel
theorem dX0_writeWord_22 : decode cX0_writeWord 22 = .ok (.if_icmp .ne 8, 3) := by decide +kernel
theorem dX0_writeWord_25 : decode cX0_writeWord 25 = .ok (.aload_n 0, 1) := by decide +kernel
theorem dX0_writeWord_26 : decode cX0_writeWord 26 = .ok (.iconst 0, 1) := by decide +kernel
theorem dX0_writeWord_27 : decode cX0_writeWord 27 = .ok (.putfield 73, 3) := by decide +kernel
theorem dX0_writeWord_30 : decode cX0_writeWord 30 = .ok (.return_, 1) := by decide +kernel
theorem dX0_takeAcknowledgement_0 : decode cX0_takeAcknowledgement 0 = .ok (.iload_n 1, 1) := by decide +kernel
theorem dX0_takeAcknowledgement_1 : decode cX0_takeAcknowledgement 1 = .ok (.aload_n 0, 1) := by decide +kernel
theorem dX0_takeAcknowledgement_2 : decode cX0_takeAcknowledgement 2 = .ok (.invokevirtual 77, 3) := by decide +kernel
theorem dX0_takeAcknowledgement_5 : decode cX0_takeAcknowledgement 5 = .ok (.isub, 1) := by decide +kernel
theorem dX0_takeAcknowledgement_6 : decode cX0_takeAcknowledgement 6 = .ok (.invokestatic 40, 3) := by decide +kernel
theorem dX0_takeAcknowledgement_9 : decode cX0_takeAcknowledgement 9 = .ok (.istore_n 2, 1) := by decide +kernel
theorem dX0_takeAcknowledgement_10 : decode cX0_takeAcknowledgement 10 = .ok (.iload_n 2, 1) := by decide +kernel
theorem dX0_takeAcknowledgement_11 : decode cX0_takeAcknowledgement 11 = .ok (.iconst 1, 1) := by decide +kernel
theorem dX0_takeAcknowledgement_12 : decode cX0_takeAcknowledgement 12 = .ok (.if_icmp .lt 11, 3) := by decide +kernel
theorem dX0_takeAcknowledgement_15 : decode cX0_takeAcknowledgement 15 = .ok (.iload_n 2, 1) := by decide +kernel
theorem dX0_takeAcknowledgement_16 : decode cX0_takeAcknowledgement 16 = .ok (.aload_n 0, 1) := by decide +kernel
theorem dX0_takeAcknowledgement_17 : decode cX0_takeAcknowledgement 17 = .ok (.invokevirtual 81, 3) := by decide +kernel
theorem dX0_takeAcknowledgement_20 : decode cX0_takeAcknowledgement 20 = .ok (.if_icmp .le 4, 3) := by decide +kernel
theorem dX0_takeAcknowledgement_23 : decode cX0_takeAcknowledgement 23 = .ok (.return_, 1) := by decide +kernel
theorem dX0_takeAcknowledgement_24 : decode cX0_takeAcknowledgement 24 = .ok (.aload_n 0, 1) := by decide +kernel
theorem dX0_takeAcknowledgement_25 : decode cX0_takeAcknowledgement 25 = .ok (.dup, 1) := by decide +kernel
theorem dX0_takeAcknowledgement_26 : decode cX0_takeAcknowledgement 26 = .ok (.getfield 37, 3) := by decide +kernel
theorem dX0_takeAcknowledgement_29 : decode cX0_takeAcknowledgement 29 = .ok (.iload_n 2, 1) := by decide +kernel
theorem dX0_takeAcknowledgement_30 : decode cX0_takeAcknowledgement 30 = .ok (.iadd, 1) := by decide +kernel
theorem dX0_takeAcknowledgement_31 : decode cX0_takeAcknowledgement 31 = .ok (.putfield 37, 3) := by decide +kernel
theorem dX0_takeAcknowledgement_34 : decode cX0_takeAcknowledgement 34 = .ok (.aload_n 0, 1) := by decide +kernel
theorem dX0_takeAcknowledgement_35 : decode cX0_takeAcknowledgement 35 = .ok (.aload_n 0, 1) := by decide +kernel
theorem dX0_takeAcknowledgement_36 : decode cX0_takeAcknowledgement 36 = .ok (.getfield 84, 3) := by decide +kernel
theorem dX0_takeAcknowledgement_39 : decode cX0_takeAcknowledgement 39 = .ok (.aload_n 0, 1) := by decide +kernel
theorem dX0_takeAcknowledgement_40 : decode cX0_takeAcknowledgement 40 = .ok (.invokevirtual 81, 3) := by decide +kernel
theorem dX0_takeAcknowledgement_43 : decode cX0_takeAcknowledgement 43 = .ok (.invokestatic 47, 3) := by decide +kernel
theorem dX0_takeAcknowledgement_46 : decode cX0_takeAcknowledgement 46 = .ok (.putfield 84, 3) := by decide +kernel
theorem dX0_takeAcknowledgement_49 : decode cX0_takeAcknowledgement 49 = .ok (.aload_n 0, 1) := by decide +kernel
theorem dX0_takeAcknowledgement_50 : decode cX0_takeAcknowledgement 50 = .ok (.iconst 0, 1) := by decide +kernel
theorem dX0_takeAcknowledgement_51 : decode cX0_takeAcknowledgement 51 = .ok (.putfield 87, 3) := by decide +kernel
theorem dX0_takeAcknowledgement_54 : decode cX0_takeAcknowledgement 54 = .ok (.aload_n 0, 1) := by decide +kernel
theorem dX0_takeAcknowledgement_55 : decode cX0_takeAcknowledgement 55 = .ok (.iconst 0, 1) := by decide +kernel
theorem dX0_takeAcknowledgement_56 : decode cX0_takeAcknowledgement 56 = .ok (.putfield 90, 3) := by decide +kernel
theorem dX0_takeAcknowledgement_59 : decode cX0_takeAcknowledgement 59 = .ok (.return_, 1) := by decide +kernel
theorem dX0_handUp_0 : decode cX0_handUp 0 = .ok (.aload_n 0, 1) := by decide +kernel
theorem dX0_handUp_1 : decode cX0_handUp 1 = .ok (.getfield 44, 3) := by decide +kernel
theorem dX0_handUp_4 : decode cX0_handUp 4 = .ok (.bipush 60, 2) := by decide +kernel
theorem dX0_handUp_6 : decode cX0_handUp 6 = .ok (.if_icmp .ge 23, 3) := by decide +kernel
theorem dX0_handUp_9 : decode cX0_handUp 9 = .ok (.aload_n 0, 1) := by decide +kernel
theorem dX0_handUp_10 : decode cX0_handUp 10 = .ok (.getfield 28, 3) := by decide +kernel
theorem dX0_handUp_13 : decode cX0_handUp 13 = .ok (.aload_n 0, 1) := by decide +kernel
theorem dX0_handUp_14 : decode cX0_handUp 14 = .ok (.getfield 44, 3) := by decide +kernel
theorem dX0_handUp_17 : decode cX0_handUp 17 = .ok (.aload_n 1, 1) := by decide +kernel
theorem dX0_handUp_18 : decode cX0_handUp 18 = .ok (.getfield 93, 3) := by decide +kernel
theorem dX0_handUp_21 : decode cX0_handUp 21 = .ok (.iconst 3, 1) := by decide +kernel
theorem dX0_handUp_22 : decode cX0_handUp 22 = .ok (.aload_n 1, 1) := by decide +kernel
theorem dX0_handUp_23 : decode cX0_handUp 23 = .ok (.invokevirtual 96, 3) := by decide +kernel
theorem dX0_handUp_26 : decode cX0_handUp 26 = .ok (.invokevirtual 56, 3) := by decide +kernel
theorem dX0_handUp_29 : decode cX0_handUp 29 = .ok (.aload_n 0, 1) := by decide +kernel
theorem dX0_handUp_30 : decode cX0_handUp 30 = .ok (.dup, 1) := by decide +kernel
theorem dX0_handUp_31 : decode cX0_handUp 31 = .ok (.getfield 44, 3) := by decide +kernel
theorem dX0_handUp_34 : decode cX0_handUp 34 = .ok (.iconst 1, 1) := by decide +kernel
theorem dX0_handUp_35 : decode cX0_handUp 35 = .ok (.iadd, 1) := by decide +kernel
theorem dX0_handUp_36 : decode cX0_handUp 36 = .ok (.putfield 44, 3) := by decide +kernel
theorem dX0_handUp_39 : decode cX0_handUp 39 = .ok (.aload_n 0, 1) := by decide +kernel
theorem dX0_handUp_40 : decode cX0_handUp 40 = .ok (.aload_n 0, 1) := by decide +kernel
theorem dX0_handUp_41 : decode cX0_handUp 41 = .ok (.getfield 66, 3) := by decide +kernel
theorem dX0_handUp_44 : decode cX0_handUp 44 = .ok (.iconst 1, 1) := by decide +kernel
theorem dX0_handUp_45 : decode cX0_handUp 45 = .ok (.iadd, 1) := by decide +kernel
theorem dX0_handUp_46 : decode cX0_handUp 46 = .ok (.invokestatic 40, 3) := by decide +kernel
theorem dX0_handUp_49 : decode cX0_handUp 49 = .ok (.putfield 66, 3) := by decide +kernel
theorem dX0_handUp_52 : decode cX0_handUp 52 = .ok (.aload_n 0, 1) := by decide +kernel
theorem dX0_handUp_53 : decode cX0_handUp 53 = .ok (.iconst 0, 1) := by decide +kernel
theorem dX0_handUp_54 : decode cX0_handUp 54 = .ok (.putfield 99, 3) := by decide +kernel
theorem dX0_handUp_57 : decode cX0_handUp 57 = .ok (.return_, 1) := by decide +kernel
theorem dX0_oweAck_0 : decode cX0_oweAck 0 = .ok (.aload_n 0, 1) := by decide +kernel
theorem dX0_oweAck_1 : decode cX0_oweAck 1 = .ok (.getfield 24, 3) := by decide +kernel
theorem dX0_oweAck_4 : decode cX0_oweAck 4 = .ok (.bipush (-4), 2) := by decide +kernel
theorem dX0_oweAck_6 : decode cX0_oweAck 6 = .ok (.if_icmp .ne 8, 3) := by decide +kernel
theorem dX0_oweAck_9 : decode cX0_oweAck 9 = .ok (.aload_n 0, 1) := by decide +kernel
theorem dX0_oweAck_10 : decode cX0_oweAck 10 = .ok (.iload_n 1, 1) := by decide +kernel
theorem dX0_oweAck_11 : decode cX0_oweAck 11 = .ok (.putfield 24, 3) := by decide +kernel
theorem dX0_oweAck_14 : decode cX0_oweAck 14 = .ok (.return_, 1) := by decide +kernel
theorem dX0_oweNak_0 : decode cX0_oweNak 0 = .ok (.aload_n 0, 1) := by decide +kernel
theorem dX0_oweNak_1 : decode cX0_oweNak 1 = .ok (.getfield 99, 3) := by decide +kernel
theorem dX0_oweNak_4 : decode cX0_oweNak 4 = .ok (.ifCond .ne 13, 3) := by decide +kernel
theorem dX0_oweNak_7 : decode cX0_oweNak 7 = .ok (.aload_n 0, 1) := by decide +kernel
theorem dX0_oweNak_8 : decode cX0_oweNak 8 = .ok (.iconst 1, 1) := by decide +kernel
theorem dX0_oweNak_9 : decode cX0_oweNak 9 = .ok (.putfield 99, 3) := by decide +kernel
theorem dX0_oweNak_12 : decode cX0_oweNak 12 = .ok (.aload_n 0, 1) := by decide +kernel
theorem dX0_oweNak_13 : decode cX0_oweNak 13 = .ok (.iconst 1, 1) := by decide +kernel
theorem dX0_oweNak_14 : decode cX0_oweNak 14 = .ok (.putfield 73, 3) := by decide +kernel
theorem dX0_oweNak_17 : decode cX0_oweNak 17 = .ok (.return_, 1) := by decide +kernel
theorem dX0_isQuiet_0 : decode cX0_isQuiet 0 = .ok (.aload_n 0, 1) := by decide +kernel
theorem dX0_isQuiet_1 : decode cX0_isQuiet 1 = .ok (.invokevirtual 102, 3) := by decide +kernel
theorem dX0_isQuiet_4 : decode cX0_isQuiet 4 = .ok (.ifCond .ne 30, 3) := by decide +kernel
theorem dX0_isQuiet_7 : decode cX0_isQuiet 7 = .ok (.aload_n 0, 1) := by decide +kernel
theorem dX0_isQuiet_8 : decode cX0_isQuiet 8 = .ok (.invokevirtual 81, 3) := by decide +kernel
theorem dX0_isQuiet_11 : decode cX0_isQuiet 11 = .ok (.ifCond .ne 23, 3) := by decide +kernel
theorem dX0_isQuiet_14 : decode cX0_isQuiet 14 = .ok (.aload_n 0, 1) := by decide +kernel
theorem dX0_isQuiet_15 : decode cX0_isQuiet 15 = .ok (.getfield 24, 3) := by decide +kernel
theorem dX0_isQuiet_18 : decode cX0_isQuiet 18 = .ok (.bipush (-4), 2) := by decide +kernel
theorem dX0_isQuiet_20 : decode cX0_isQuiet 20 = .ok (.if_icmp .ne 14, 3) := by decide +kernel
theorem dX0_isQuiet_23 : decode cX0_isQuiet 23 = .ok (.aload_n 0, 1) := by decide +kernel
theorem dX0_isQuiet_24 : decode cX0_isQuiet 24 = .ok (.getfield 73, 3) := by decide +kernel
theorem dX0_isQuiet_27 : decode cX0_isQuiet 27 = .ok (.ifCond .ne 7, 3) := by decide +kernel
theorem dX0_isQuiet_30 : decode cX0_isQuiet 30 = .ok (.iconst 1, 1) := by decide +kernel
theorem dX0_isQuiet_31 : decode cX0_isQuiet 31 = .ok (.goto 4, 3) := by decide +kernel
theorem dX0_isQuiet_34 : decode cX0_isQuiet 34 = .ok (.iconst 0, 1) := by decide +kernel
theorem dX0_isQuiet_35 : decode cX0_isQuiet 35 = .ok (.ireturn, 1) := by decide +kernel
theorem dX0_tell_0 : decode cX0_tell 0 = .ok (.iload_n 1, 1) := by decide +kernel
theorem dX0_tell_1 : decode cX0_tell 1 = .ok (.tableswitch 147 0 13 #[71, 76, 81, 86, 91, 96, 101, 106, 111, 119, 124, 132, 137, 142], 71) := by decide +kernel
theorem dX0_tell_72 : decode cX0_tell 72 = .ok (.aload_n 0, 1) := by decide +kernel
theorem dX0_tell_73 : decode cX0_tell 73 = .ok (.invokevirtual 102, 3) := by decide +kernel
theorem dX0_tell_76 : decode cX0_tell 76 = .ok (.ireturn, 1) := by decide +kernel
theorem dX0_tell_77 : decode cX0_tell 77 = .ok (.aload_n 0, 1) := by decide +kernel
theorem dX0_tell_78 : decode cX0_tell 78 = .ok (.invokevirtual 81, 3) := by decide +kernel
theorem dX0_tell_81 : decode cX0_tell 81 = .ok (.ireturn, 1) := by decide +kernel
theorem dX0_tell_82 : decode cX0_tell 82 = .ok (.aload_n 0, 1) := by decide +kernel
theorem dX0_tell_83 : decode cX0_tell 83 = .ok (.invokevirtual 105, 3) := by decide +kernel
theorem dX0_tell_86 : decode cX0_tell 86 = .ok (.ireturn, 1) := by decide +kernel
theorem dX0_tell_87 : decode cX0_tell 87 = .ok (.aload_n 0, 1) := by decide +kernel
theorem dX0_tell_88 : decode cX0_tell 88 = .ok (.invokevirtual 77, 3) := by decide +kernel
theorem dX0_tell_91 : decode cX0_tell 91 = .ok (.ireturn, 1) := by decide +kernel
theorem dX0_tell_92 : decode cX0_tell 92 = .ok (.aload_n 0, 1) := by decide +kernel
theorem dX0_tell_93 : decode cX0_tell 93 = .ok (.getfield 87, 3) := by decide +kernel
theorem dX0_tell_96 : decode cX0_tell 96 = .ok (.ireturn, 1) := by decide +kernel
theorem dX0_tell_97 : decode cX0_tell 97 = .ok (.aload_n 0, 1) := by decide +kernel
theorem dX0_tell_98 : decode cX0_tell 98 = .ok (.getfield 90, 3) := by decide +kernel
theorem dX0_tell_101 : decode cX0_tell 101 = .ok (.ireturn, 1) := by decide +kernel
theorem dX0_tell_102 : decode cX0_tell 102 = .ok (.aload_n 0, 1) := by decide +kernel
theorem dX0_tell_103 : decode cX0_tell 103 = .ok (.getfield 84, 3) := by decide +kernel
theorem dX0_tell_106 : decode cX0_tell 106 = .ok (.ireturn, 1) := by decide +kernel
theorem dX0_tell_107 : decode cX0_tell 107 = .ok (.aload_n 0, 1) := by decide +kernel
theorem dX0_tell_108 : decode cX0_tell 108 = .ok (.getfield 66, 3) := by decide +kernel
theorem dX0_tell_111 : decode cX0_tell 111 = .ok (.ireturn, 1) := by decide +kernel
theorem dX0_tell_112 : decode cX0_tell 112 = .ok (.aload_n 0, 1) := by decide +kernel
theorem dX0_tell_113 : decode cX0_tell 113 = .ok (.getfield 99, 3) := by decide +kernel
theorem dX0_tell_116 : decode cX0_tell 116 = .ok (.invokestatic 108, 3) := by decide +kernel
theorem dX0_tell_119 : decode cX0_tell 119 = .ok (.ireturn, 1) := by decide +kernel
theorem dX0_tell_120 : decode cX0_tell 120 = .ok (.aload_n 0, 1) := by decide +kernel
theorem dX0_tell_121 : decode cX0_tell 121 = .ok (.getfield 24, 3) := by decide +kernel
theorem dX0_tell_124 : decode cX0_tell 124 = .ok (.ireturn, 1) := by decide +kernel
theorem dX0_tell_125 : decode cX0_tell 125 = .ok (.aload_n 0, 1) := by decide +kernel
theorem dX0_tell_126 : decode cX0_tell 126 = .ok (.getfield 73, 3) := by decide +kernel
theorem dX0_tell_129 : decode cX0_tell 129 = .ok (.invokestatic 108, 3) := by decide +kernel
theorem dX0_tell_132 : decode cX0_tell 132 = .ok (.ireturn, 1) := by decide +kernel
theorem dX0_tell_133 : decode cX0_tell 133 = .ok (.aload_n 0, 1) := by decide +kernel
theorem dX0_tell_134 : decode cX0_tell 134 = .ok (.getfield 31, 3) := by decide +kernel
theorem dX0_tell_137 : decode cX0_tell 137 = .ok (.ireturn, 1) := by decide +kernel
theorem dX0_tell_138 : decode cX0_tell 138 = .ok (.aload_n 0, 1) := by decide +kernel
theorem dX0_tell_139 : decode cX0_tell 139 = .ok (.getfield 44, 3) := by decide +kernel
theorem dX0_tell_142 : decode cX0_tell 142 = .ok (.ireturn, 1) := by decide +kernel
theorem dX0_tell_143 : decode cX0_tell 143 = .ok (.aload_n 0, 1) := by decide +kernel
theorem dX0_tell_144 : decode cX0_tell 144 = .ok (.getfield 53, 3) := by decide +kernel
theorem dX0_tell_147 : decode cX0_tell 147 = .ok (.ireturn, 1) := by decide +kernel
theorem dX0_tell_148 : decode cX0_tell 148 = .ok (.iconst (-1), 1) := by decide +kernel
theorem dX0_tell_149 : decode cX0_tell 149 = .ok (.ireturn, 1) := by decide +kernel
theorem dX0_copyFrom_0 : decode cX0_copyFrom 0 = .ok (.aload_n 1, 1) := by decide +kernel
theorem dX0_copyFrom_1 : decode cX0_copyFrom 1 = .ok (.getfield 9, 3) := by decide +kernel
theorem dX0_copyFrom_4 : decode cX0_copyFrom 4 = .ok (.iconst 0, 1) := by decide +kernel
theorem dX0_copyFrom_5 : decode cX0_copyFrom 5 = .ok (.aload_n 0, 1) := by decide +kernel
theorem dX0_copyFrom_6 : decode cX0_copyFrom 6 = .ok (.getfield 9, 3) := by decide +kernel
theorem dX0_copyFrom_9 : decode cX0_copyFrom 9 = .ok (.iconst 0, 1) := by decide +kernel
theorem dX0_copyFrom_10 : decode cX0_copyFrom 10 = .ok (.aload_n 0, 1) := by decide +kernel
theorem dX0_copyFrom_11 : decode cX0_copyFrom 11 = .ok (.getfield 9, 3) := by decide +kernel
theorem dX0_copyFrom_14 : decode cX0_copyFrom 14 = .ok (.arraylength, 1) := by decide +kernel
theorem dX0_copyFrom_15 : decode cX0_copyFrom 15 = .ok (.invokestatic 112, 3) := by decide +kernel
theorem dX0_copyFrom_18 : decode cX0_copyFrom 18 = .ok (.aload_n 0, 1) := by decide +kernel
theorem dX0_copyFrom_19 : decode cX0_copyFrom 19 = .ok (.aload_n 1, 1) := by decide +kernel
theorem dX0_copyFrom_20 : decode cX0_copyFrom 20 = .ok (.getfield 53, 3) := by decide +kernel
theorem dX0_copyFrom_23 : decode cX0_copyFrom 23 = .ok (.putfield 53, 3) := by decide +kernel
theorem dX0_copyFrom_26 : decode cX0_copyFrom 26 = .ok (.aload_n 0, 1) := by decide +kernel
theorem dX0_copyFrom_27 : decode cX0_copyFrom 27 = .ok (.getfield 20, 3) := by decide +kernel
theorem dX0_copyFrom_30 : decode cX0_copyFrom 30 = .ok (.aload_n 1, 1) := by decide +kernel
theorem dX0_copyFrom_31 : decode cX0_copyFrom 31 = .ok (.getfield 20, 3) := by decide +kernel
theorem dX0_copyFrom_34 : decode cX0_copyFrom 34 = .ok (.invokevirtual 118, 3) := by decide +kernel
theorem dX0_copyFrom_37 : decode cX0_copyFrom 37 = .ok (.aload_n 0, 1) := by decide +kernel
theorem dX0_copyFrom_38 : decode cX0_copyFrom 38 = .ok (.aload_n 1, 1) := by decide +kernel
theorem dX0_copyFrom_39 : decode cX0_copyFrom 39 = .ok (.getfield 31, 3) := by decide +kernel
theorem dX0_copyFrom_42 : decode cX0_copyFrom 42 = .ok (.putfield 31, 3) := by decide +kernel
theorem dX0_copyFrom_45 : decode cX0_copyFrom 45 = .ok (.aload_n 0, 1) := by decide +kernel
theorem dX0_copyFrom_46 : decode cX0_copyFrom 46 = .ok (.aload_n 1, 1) := by decide +kernel
theorem dX0_copyFrom_47 : decode cX0_copyFrom 47 = .ok (.getfield 34, 3) := by decide +kernel
theorem dX0_copyFrom_50 : decode cX0_copyFrom 50 = .ok (.putfield 34, 3) := by decide +kernel
theorem dX0_copyFrom_53 : decode cX0_copyFrom 53 = .ok (.aload_n 0, 1) := by decide +kernel
theorem dX0_copyFrom_54 : decode cX0_copyFrom 54 = .ok (.aload_n 1, 1) := by decide +kernel
theorem dX0_copyFrom_55 : decode cX0_copyFrom 55 = .ok (.getfield 37, 3) := by decide +kernel
theorem dX0_copyFrom_58 : decode cX0_copyFrom 58 = .ok (.putfield 37, 3) := by decide +kernel
theorem dX0_copyFrom_61 : decode cX0_copyFrom 61 = .ok (.aload_n 0, 1) := by decide +kernel
theorem dX0_copyFrom_62 : decode cX0_copyFrom 62 = .ok (.aload_n 1, 1) := by decide +kernel
theorem dX0_copyFrom_63 : decode cX0_copyFrom 63 = .ok (.getfield 122, 3) := by decide +kernel
theorem dX0_copyFrom_66 : decode cX0_copyFrom 66 = .ok (.putfield 122, 3) := by decide +kernel
theorem dX0_copyFrom_69 : decode cX0_copyFrom 69 = .ok (.aload_n 0, 1) := by decide +kernel
theorem dX0_copyFrom_70 : decode cX0_copyFrom 70 = .ok (.aload_n 1, 1) := by decide +kernel
theorem dX0_copyFrom_71 : decode cX0_copyFrom 71 = .ok (.getfield 87, 3) := by decide +kernel
theorem dX0_copyFrom_74 : decode cX0_copyFrom 74 = .ok (.putfield 87, 3) := by decide +kernel
theorem dX0_copyFrom_77 : decode cX0_copyFrom 77 = .ok (.aload_n 0, 1) := by decide +kernel
theorem dX0_copyFrom_78 : decode cX0_copyFrom 78 = .ok (.aload_n 1, 1) := by decide +kernel
theorem dX0_copyFrom_79 : decode cX0_copyFrom 79 = .ok (.getfield 90, 3) := by decide +kernel
theorem dX0_copyFrom_82 : decode cX0_copyFrom 82 = .ok (.putfield 90, 3) := by decide +kernel
theorem dX0_copyFrom_85 : decode cX0_copyFrom 85 = .ok (.aload_n 0, 1) := by decide +kernel
theorem dX0_copyFrom_86 : decode cX0_copyFrom 86 = .ok (.aload_n 1, 1) := by decide +kernel
theorem dX0_copyFrom_87 : decode cX0_copyFrom 87 = .ok (.getfield 84, 3) := by decide +kernel
theorem dX0_copyFrom_90 : decode cX0_copyFrom 90 = .ok (.putfield 84, 3) := by decide +kernel
theorem dX0_copyFrom_93 : decode cX0_copyFrom 93 = .ok (.aload_n 0, 1) := by decide +kernel
theorem dX0_copyFrom_94 : decode cX0_copyFrom 94 = .ok (.aload_n 1, 1) := by decide +kernel
theorem dX0_copyFrom_95 : decode cX0_copyFrom 95 = .ok (.getfield 66, 3) := by decide +kernel
theorem dX0_copyFrom_98 : decode cX0_copyFrom 98 = .ok (.putfield 66, 3) := by decide +kernel
theorem dX0_copyFrom_101 : decode cX0_copyFrom 101 = .ok (.aload_n 0, 1) := by decide +kernel
theorem dX0_copyFrom_102 : decode cX0_copyFrom 102 = .ok (.aload_n 1, 1) := by decide +kernel
theorem dX0_copyFrom_103 : decode cX0_copyFrom 103 = .ok (.getfield 99, 3) := by decide +kernel
theorem dX0_copyFrom_106 : decode cX0_copyFrom 106 = .ok (.putfield 99, 3) := by decide +kernel
theorem dX0_copyFrom_109 : decode cX0_copyFrom 109 = .ok (.aload_n 0, 1) := by decide +kernel
theorem dX0_copyFrom_110 : decode cX0_copyFrom 110 = .ok (.aload_n 1, 1) := by decide +kernel
theorem dX0_copyFrom_111 : decode cX0_copyFrom 111 = .ok (.getfield 73, 3) := by decide +kernel
theorem dX0_copyFrom_114 : decode cX0_copyFrom 114 = .ok (.putfield 73, 3) := by decide +kernel
theorem dX0_copyFrom_117 : decode cX0_copyFrom 117 = .ok (.aload_n 0, 1) := by decide +kernel
theorem dX0_copyFrom_118 : decode cX0_copyFrom 118 = .ok (.aload_n 1, 1) := by decide +kernel
theorem dX0_copyFrom_119 : decode cX0_copyFrom 119 = .ok (.getfield 24, 3) := by decide +kernel
theorem dX0_copyFrom_122 : decode cX0_copyFrom 122 = .ok (.putfield 24, 3) := by decide +kernel
theorem dX0_copyFrom_125 : decode cX0_copyFrom 125 = .ok (.aload_n 0, 1) := by decide +kernel
theorem dX0_copyFrom_126 : decode cX0_copyFrom 126 = .ok (.getfield 28, 3) := by decide +kernel
theorem dX0_copyFrom_129 : decode cX0_copyFrom 129 = .ok (.aload_n 1, 1) := by decide +kernel
theorem dX0_copyFrom_130 : decode cX0_copyFrom 130 = .ok (.getfield 28, 3) := by decide +kernel
theorem dX0_copyFrom_133 : decode cX0_copyFrom 133 = .ok (.invokevirtual 118, 3) := by decide +kernel
theorem dX0_copyFrom_136 : decode cX0_copyFrom 136 = .ok (.aload_n 0, 1) := by decide +kernel
theorem dX0_copyFrom_137 : decode cX0_copyFrom 137 = .ok (.aload_n 1, 1) := by decide +kernel
theorem dX0_copyFrom_138 : decode cX0_copyFrom 138 = .ok (.getfield 44, 3) := by decide +kernel
theorem dX0_copyFrom_141 : decode cX0_copyFrom 141 = .ok (.putfield 44, 3) := by decide +kernel
theorem dX0_copyFrom_144 : decode cX0_copyFrom 144 = .ok (.return_, 1) := by decide +kernel
theorem dX1_init_0 : decode cX1_init 0 = .ok (.aload_n 0, 1) := by decide +kernel
theorem dX1_init_1 : decode cX1_init 1 = .ok (.invokespecial 3, 3) := by decide +kernel
theorem dX1_init_4 : decode cX1_init 4 = .ok (.aload_n 0, 1) := by decide +kernel
theorem dX1_init_5 : decode cX1_init 5 = .ok (.bipush 32, 2) := by decide +kernel
theorem dX1_init_7 : decode cX1_init 7 = .ok (.newarray .int, 2) := by decide +kernel
theorem dX1_init_9 : decode cX1_init 9 = .ok (.putfield 9, 3) := by decide +kernel
theorem dX1_init_12 : decode cX1_init 12 = .ok (.return_, 1) := by decide +kernel
theorem dX1_writeWord_0 : decode cX1_writeWord 0 = .ok (.aload_n 0, 1) := by decide +kernel
theorem dX1_writeWord_1 : decode cX1_writeWord 1 = .ok (.getfield 9, 3) := by decide +kernel
theorem dX1_writeWord_4 : decode cX1_writeWord 4 = .ok (.iconst 0, 1) := by decide +kernel
theorem dX1_writeWord_5 : decode cX1_writeWord 5 = .ok (.bipush 92, 2) := by decide +kernel
theorem dX1_writeWord_7 : decode cX1_writeWord 7 = .ok (.iastore, 1) := by decide +kernel
theorem dX1_writeWord_8 : decode cX1_writeWord 8 = .ok (.aload_n 0, 1) := by decide +kernel
theorem dX1_writeWord_9 : decode cX1_writeWord 9 = .ok (.getfield 9, 3) := by decide +kernel
theorem dX1_writeWord_12 : decode cX1_writeWord 12 = .ok (.iconst 1, 1) := by decide +kernel
theorem dX1_writeWord_13 : decode cX1_writeWord 13 = .ok (.iload_n 1, 1) := by decide +kernel
theorem dX1_writeWord_14 : decode cX1_writeWord 14 = .ok (.iconst 3, 1) := by decide +kernel
theorem dX1_writeWord_15 : decode cX1_writeWord 15 = .ok (.if_icmp .ne 8, 3) := by decide +kernel
theorem dX1_writeWord_18 : decode cX1_writeWord 18 = .ok (.bipush 16, 2) := by decide +kernel
theorem dX1_writeWord_20 : decode cX1_writeWord 20 = .ok (.goto 4, 3) := by decide +kernel
theorem dX1_writeWord_23 : decode cX1_writeWord 23 = .ok (.iconst 0, 1) := by decide +kernel
theorem dX1_writeWord_24 : decode cX1_writeWord 24 = .ok (.iastore, 1) := by decide +kernel
theorem dX1_writeWord_25 : decode cX1_writeWord 25 = .ok (.aload_n 0, 1) := by decide +kernel
theorem dX1_writeWord_26 : decode cX1_writeWord 26 = .ok (.getfield 9, 3) := by decide +kernel
theorem dX1_writeWord_29 : decode cX1_writeWord 29 = .ok (.iconst 2, 1) := by decide +kernel
theorem dX1_writeWord_30 : decode cX1_writeWord 30 = .ok (.iload_n 2, 1) := by decide +kernel
theorem dX1_writeWord_31 : decode cX1_writeWord 31 = .ok (.iastore, 1) := by decide +kernel
theorem dX1_writeWord_32 : decode cX1_writeWord 32 = .ok (.aload_n 0, 1) := by decide +kernel
theorem dX1_writeWord_33 : decode cX1_writeWord 33 = .ok (.iconst 3, 1) := by decide +kernel
theorem dX1_writeWord_34 : decode cX1_writeWord 34 = .ok (.iconst 2, 1) := by decide +kernel
theorem dX1_writeWord_35 : decode cX1_writeWord 35 = .ok (.bipush 16, 2) := by decide +kernel
theorem dX1_writeWord_37 : decode cX1_writeWord 37 = .ok (.aload_n 0, 1) := by decide +kernel
theorem dX1_writeWord_38 : decode cX1_writeWord 38 = .ok (.getfield 9, 3) := by decide +kernel
theorem dX1_writeWord_41 : decode cX1_writeWord 41 = .ok (.iconst 1, 1) := by decide +kernel
theorem dX1_writeWord_42 : decode cX1_writeWord 42 = .ok (.iconst 3, 1) := by decide +kernel
theorem dX1_writeWord_43 : decode cX1_writeWord 43 = .ok (.invokestatic 15, 3) := by decide +kernel
theorem dX1_writeWord_46 : decode cX1_writeWord 46 = .ok (.invokevirtual 19, 3) := by decide +kernel
theorem dX1_writeWord_49 : decode cX1_writeWord 49 = .ok (.aload_n 0, 1) := by decide +kernel
theorem dX1_writeWord_50 : decode cX1_writeWord 50 = .ok (.getfield 9, 3) := by decide +kernel
theorem dX1_writeWord_53 : decode cX1_writeWord 53 = .ok (.iconst 5, 1) := by decide +kernel
theorem dX1_writeWord_54 : decode cX1_writeWord 54 = .ok (.sipush 253, 3) := by decide +kernel
theorem dX1_writeWord_57 : decode cX1_writeWord 57 = .ok (.iastore, 1) := by decide +kernel
theorem dX1_writeWord_58 : decode cX1_writeWord 58 = .ok (.aload_n 0, 1) := by decide +kernel
theorem dX1_writeWord_59 : decode cX1_writeWord 59 = .ok (.bipush 6, 2) := by decide +kernel
theorem dX1_writeWord_61 : decode cX1_writeWord 61 = .ok (.putfield 23, 3) := by decide +kernel
theorem dX1_writeWord_64 : decode cX1_writeWord 64 = .ok (.return_, 1) := by decide +kernel
theorem dX1_writePacket_0 : decode cX1_writePacket 0 = .ok (.aload_n 3, 1) := by decide +kernel
theorem dX1_writePacket_1 : decode cX1_writePacket 1 = .ok (.getfield 27, 3) := by decide +kernel
theorem dX1_writePacket_4 : decode cX1_writePacket 4 = .ok (.iload 4, 2) := by decide +kernel
theorem dX1_writePacket_6 : decode cX1_writePacket 6 = .ok (.iaload, 1) := by decide +kernel
theorem dX1_writePacket_7 : decode cX1_writePacket 7 = .ok (.istore 5, 2) := by decide +kernel
theorem dX1_writePacket_9 : decode cX1_writePacket 9 = .ok (.iconst 3, 1) := by decide +kernel
theorem dX1_writePacket_10 : decode cX1_writePacket 10 = .ok (.iload 5, 2) := by decide +kernel
theorem dX1_writePacket_12 : decode cX1_writePacket 12 = .ok (.iadd, 1) := by decide +kernel
theorem dX1_writePacket_13 : decode cX1_writePacket 13 = .ok (.istore 6, 2) := by decide +kernel
theorem dX1_writePacket_15 : decode cX1_writePacket 15 = .ok (.aload_n 0, 1) := by decide +kernel
theorem dX1_writePacket_16 : decode cX1_writePacket 16 = .ok (.getfield 9, 3) := by decide +kernel
theorem dX1_writePacket_19 : decode cX1_writePacket 19 = .ok (.iconst 0, 1) := by decide +kernel
theorem dX1_writePacket_20 : decode cX1_writePacket 20 = .ok (.sipush 251, 3) := by decide +kernel
theorem dX1_writePacket_23 : decode cX1_writePacket 23 = .ok (.iastore, 1) := by decide +kernel
theorem dX1_writePacket_24 : decode cX1_writePacket 24 = .ok (.aload_n 0, 1) := by decide +kernel
theorem dX1_writePacket_25 : decode cX1_writePacket 25 = .ok (.getfield 9, 3) := by decide +kernel
theorem dX1_writePacket_28 : decode cX1_writePacket 28 = .ok (.iconst 1, 1) := by decide +kernel
theorem dX1_writePacket_29 : decode cX1_writePacket 29 = .ok (.iconst 0, 1) := by decide +kernel
theorem dX1_writePacket_30 : decode cX1_writePacket 30 = .ok (.iastore, 1) := by decide +kernel
theorem dX1_writePacket_31 : decode cX1_writePacket 31 = .ok (.aload_n 0, 1) := by decide +kernel
theorem dX1_writePacket_32 : decode cX1_writePacket 32 = .ok (.getfield 9, 3) := by decide +kernel
theorem dX1_writePacket_35 : decode cX1_writePacket 35 = .ok (.iconst 2, 1) := by decide +kernel
theorem dX1_writePacket_36 : decode cX1_writePacket 36 = .ok (.iload_n 2, 1) := by decide +kernel
theorem dX1_writePacket_37 : decode cX1_writePacket 37 = .ok (.iastore, 1) := by decide +kernel
theorem dX1_writePacket_38 : decode cX1_writePacket 38 = .ok (.aload_n 3, 1) := by decide +kernel
theorem dX1_writePacket_39 : decode cX1_writePacket 39 = .ok (.getfield 32, 3) := by decide +kernel
theorem dX1_writePacket_42 : decode cX1_writePacket 42 = .ok (.iload 4, 2) := by decide +kernel
theorem dX1_writePacket_44 : decode cX1_writePacket 44 = .ok (.bipush 24, 2) := by decide +kernel
theorem dX1_writePacket_46 : decode cX1_writePacket 46 = .ok (.imul, 1) := by decide +kernel
theorem dX1_writePacket_47 : decode cX1_writePacket 47 = .ok (.aload_n 0, 1) := by decide +kernel
theorem dX1_writePacket_48 : decode cX1_writePacket 48 = .ok (.getfield 9, 3) := by decide +kernel
theorem dX1_writePacket_51 : decode cX1_writePacket 51 = .ok (.iconst 3, 1) := by decide +kernel
theorem dX1_writePacket_52 : decode cX1_writePacket 52 = .ok (.iload 5, 2) := by decide +kernel
theorem dX1_writePacket_54 : decode cX1_writePacket 54 = .ok (.invokestatic 33, 3) := by decide +kernel
theorem dX1_writePacket_57 : decode cX1_writePacket 57 = .ok (.bipush 32, 2) := by decide +kernel
theorem dX1_writePacket_59 : decode cX1_writePacket 59 = .ok (.aload_n 0, 1) := by decide +kernel
theorem dX1_writePacket_60 : decode cX1_writePacket 60 = .ok (.getfield 9, 3) := by decide +kernel
theorem dX1_writePacket_63 : decode cX1_writePacket 63 = .ok (.iconst 1, 1) := by decide +kernel
theorem dX1_writePacket_64 : decode cX1_writePacket 64 = .ok (.iload 6, 2) := by decide +kernel
theorem dX1_writePacket_66 : decode cX1_writePacket 66 = .ok (.invokestatic 15, 3) := by decide +kernel
theorem dX1_writePacket_69 : decode cX1_writePacket 69 = .ok (.lstore 7, 2) := by decide +kernel
theorem dX1_writePacket_71 : decode cX1_writePacket 71 = .ok (.aload_n 0, 1) := by decide +kernel
theorem dX1_writePacket_72 : decode cX1_writePacket 72 = .ok (.iload 6, 2) := by decide +kernel
theorem dX1_writePacket_74 : decode cX1_writePacket 74 = .ok (.iconst 4, 1) := by decide +kernel
theorem dX1_writePacket_75 : decode cX1_writePacket 75 = .ok (.iload_n 1, 1) := by decide +kernel
theorem dX1_writePacket_76 : decode cX1_writePacket 76 = .ok (.iconst 1, 1) := by decide +kernel
theorem dX1_writePacket_77 : decode cX1_writePacket 77 = .ok (.if_icmp .ne 11, 3) := by decide +kernel
theorem dX1_writePacket_80 : decode cX1_writePacket 80 = .ok (.lload 7, 2) := by decide +kernel
theorem dX1_writePacket_82 : decode cX1_writePacket 82 = .ok (.invokestatic 39, 3) := by decide +kernel
theorem dX1_writePacket_85 : decode cX1_writePacket 85 = .ok (.goto 5, 3) := by decide +kernel
theorem dX1_writePacket_88 : decode cX1_writePacket 88 = .ok (.lload 7, 2) := by decide +kernel
theorem dX1_writePacket_90 : decode cX1_writePacket 90 = .ok (.invokevirtual 19, 3) := by decide +kernel
theorem dX1_writePacket_93 : decode cX1_writePacket 93 = .ok (.aload_n 0, 1) := by decide +kernel
theorem dX1_writePacket_94 : decode cX1_writePacket 94 = .ok (.getfield 9, 3) := by decide +kernel
theorem dX1_writePacket_97 : decode cX1_writePacket 97 = .ok (.iload 6, 2) := by decide +kernel
theorem dX1_writePacket_99 : decode cX1_writePacket 99 = .ok (.iconst 4, 1) := by decide +kernel
theorem dX1_writePacket_100 : decode cX1_writePacket 100 = .ok (.iadd, 1) := by decide +kernel
theorem dX1_writePacket_101 : decode cX1_writePacket 101 = .ok (.iload_n 1, 1) := by decide +kernel
theorem dX1_writePacket_102 : decode cX1_writePacket 102 = .ok (.iconst 1, 1) := by decide +kernel
theorem dX1_writePacket_103 : decode cX1_writePacket 103 = .ok (.if_icmp .ne 9, 3) := by decide +kernel
theorem dX1_writePacket_106 : decode cX1_writePacket 106 = .ok (.sipush 254, 3) := by decide +kernel
theorem dX1_writePacket_109 : decode cX1_writePacket 109 = .ok (.goto 6, 3) := by decide +kernel
theorem dX1_writePacket_112 : decode cX1_writePacket 112 = .ok (.sipush 253, 3) := by decide +kernel
theorem dX1_writePacket_115 : decode cX1_writePacket 115 = .ok (.iastore, 1) := by decide +kernel
theorem dX1_writePacket_116 : decode cX1_writePacket 116 = .ok (.aload_n 0, 1) := by decide +kernel
theorem dX1_writePacket_117 : decode cX1_writePacket 117 = .ok (.iload 6, 2) := by decide +kernel
theorem dX1_writePacket_119 : decode cX1_writePacket 119 = .ok (.iconst 5, 1) := by decide +kernel
theorem dX1_writePacket_120 : decode cX1_writePacket 120 = .ok (.iadd, 1) := by decide +kernel
theorem dX1_writePacket_121 : decode cX1_writePacket 121 = .ok (.putfield 23, 3) := by decide +kernel
theorem dX1_writePacket_124 : decode cX1_writePacket 124 = .ok (.return_, 1) := by decide +kernel
theorem dX1_readAs_0 : decode cX1_readAs 0 = .ok (.aload_n 0, 1) := by decide +kernel
theorem dX1_readAs_1 : decode cX1_readAs 1 = .ok (.getfield 9, 3) := by decide +kernel
theorem dX1_readAs_4 : decode cX1_readAs 4 = .ok (.iconst 0, 1) := by decide +kernel
theorem dX1_readAs_5 : decode cX1_readAs 5 = .ok (.iaload, 1) := by decide +kernel
theorem dX1_readAs_6 : decode cX1_readAs 6 = .ok (.bipush 92, 2) := by decide +kernel
theorem dX1_readAs_8 : decode cX1_readAs 8 = .ok (.if_icmp .ne 10, 3) := by decide +kernel
theorem dX1_readAs_11 : decode cX1_readAs 11 = .ok (.aload_n 0, 1) := by decide +kernel
theorem dX1_readAs_12 : decode cX1_readAs 12 = .ok (.invokevirtual 43, 3) := by decide +kernel
theorem dX1_readAs_15 : decode cX1_readAs 15 = .ok (.goto 7, 3) := by decide +kernel
theorem dX1_readAs_18 : decode cX1_readAs 18 = .ok (.aload_n 0, 1) := by decide +kernel
theorem dX1_readAs_19 : decode cX1_readAs 19 = .ok (.invokevirtual 47, 3) := by decide +kernel
theorem dX1_readAs_22 : decode cX1_readAs 22 = .ok (.ireturn, 1) := by decide +kernel
theorem dX1_number_0 : decode cX1_number 0 = .ok (.aload_n 0, 1) := by decide +kernel
theorem dX1_number_1 : decode cX1_number 1 = .ok (.getfield 9, 3) := by decide +kernel
theorem dX1_number_4 : decode cX1_number 4 = .ok (.iconst 2, 1) := by decide +kernel
theorem dX1_number_5 : decode cX1_number 5 = .ok (.iaload, 1) := by decide +kernel
theorem dX1_number_6 : decode cX1_number 6 = .ok (.ireturn, 1) := by decide +kernel
theorem dX1_packetLength_0 : decode cX1_packetLength 0 = .ok (.aload_n 0, 1) := by decide +kernel
theorem dX1_packetLength_1 : decode cX1_packetLength 1 = .ok (.getfield 23, 3) := by decide +kernel
theorem dX1_packetLength_4 : decode cX1_packetLength 4 = .ok (.iconst 3, 1) := by decide +kernel
theorem dX1_packetLength_5 : decode cX1_packetLength 5 = .ok (.isub, 1) := by decide +kernel
theorem dX1_packetLength_6 : decode cX1_packetLength 6 = .ok (.iconst 5, 1) := by decide +kernel
theorem dX1_packetLength_7 : decode cX1_packetLength 7 = .ok (.isub, 1) := by decide +kernel
theorem dX1_packetLength_8 : decode cX1_packetLength 8 = .ok (.ireturn, 1) := by decide +kernel
theorem dX1_copyFrom_0 : decode cX1_copyFrom 0 = .ok (.aload_n 1, 1) := by decide +kernel
theorem dX1_copyFrom_1 : decode cX1_copyFrom 1 = .ok (.getfield 9, 3) := by decide +kernel
theorem dX1_copyFrom_4 : decode cX1_copyFrom 4 = .ok (.iconst 0, 1) := by decide +kernel
theorem dX1_copyFrom_5 : decode cX1_copyFrom 5 = .ok (.aload_n 0, 1) := by decide +kernel
theorem dX1_copyFrom_6 : decode cX1_copyFrom 6 = .ok (.getfield 9, 3) := by decide +kernel
theorem dX1_copyFrom_9 : decode cX1_copyFrom 9 = .ok (.iconst 0, 1) := by decide +kernel
theorem dX1_copyFrom_10 : decode cX1_copyFrom 10 = .ok (.aload_n 0, 1) := by decide +kernel
theorem dX1_copyFrom_11 : decode cX1_copyFrom 11 = .ok (.getfield 9, 3) := by decide +kernel
theorem dX1_copyFrom_14 : decode cX1_copyFrom 14 = .ok (.arraylength, 1) := by decide +kernel
theorem dX1_copyFrom_15 : decode cX1_copyFrom 15 = .ok (.invokestatic 33, 3) := by decide +kernel
theorem dX1_copyFrom_18 : decode cX1_copyFrom 18 = .ok (.aload_n 0, 1) := by decide +kernel
theorem dX1_copyFrom_19 : decode cX1_copyFrom 19 = .ok (.aload_n 1, 1) := by decide +kernel
theorem dX1_copyFrom_20 : decode cX1_copyFrom 20 = .ok (.getfield 23, 3) := by decide +kernel
theorem dX1_copyFrom_23 : decode cX1_copyFrom 23 = .ok (.putfield 23, 3) := by decide +kernel
theorem dX1_copyFrom_26 : decode cX1_copyFrom 26 = .ok (.aload_n 0, 1) := by decide +kernel
theorem dX1_copyFrom_27 : decode cX1_copyFrom 27 = .ok (.aload_n 1, 1) := by decide +kernel
theorem dX1_copyFrom_28 : decode cX1_copyFrom 28 = .ok (.getfield 50, 3) := by decide +kernel
theorem dX1_copyFrom_31 : decode cX1_copyFrom 31 = .ok (.putfield 50, 3) := by decide +kernel
theorem dX1_copyFrom_34 : decode cX1_copyFrom 34 = .ok (.return_, 1) := by decide +kernel
theorem dX1_readAsWord_0 : decode cX1_readAsWord 0 = .ok (.aload_n 0, 1) := by decide +kernel
theorem dX1_readAsWord_1 : decode cX1_readAsWord 1 = .ok (.getfield 23, 3) := by decide +kernel
theorem dX1_readAsWord_4 : decode cX1_readAsWord 4 = .ok (.bipush 6, 2) := by decide +kernel
theorem dX1_readAsWord_6 : decode cX1_readAsWord 6 = .ok (.if_icmp .ne 45, 3) := by decide +kernel
theorem dX1_readAsWord_9 : decode cX1_readAsWord 9 = .ok (.aload_n 0, 1) := by decide +kernel
theorem dX1_readAsWord_10 : decode cX1_readAsWord 10 = .ok (.getfield 9, 3) := by decide +kernel
theorem dX1_readAsWord_13 : decode cX1_readAsWord 13 = .ok (.iconst 5, 1) := by decide +kernel
theorem dX1_readAsWord_14 : decode cX1_readAsWord 14 = .ok (.iaload, 1) := by decide +kernel
theorem dX1_readAsWord_15 : decode cX1_readAsWord 15 = .ok (.sipush 253, 3) := by decide +kernel
theorem dX1_readAsWord_18 : decode cX1_readAsWord 18 = .ok (.if_icmp .ne 33, 3) := by decide +kernel
theorem dX1_readAsWord_21 : decode cX1_readAsWord 21 = .ok (.aload_n 0, 1) := by decide +kernel
theorem dX1_readAsWord_22 : decode cX1_readAsWord 22 = .ok (.invokevirtual 53, 3) := by decide +kernel
theorem dX1_readAsWord_25 : decode cX1_readAsWord 25 = .ok (.bipush 63, 2) := by decide +kernel
theorem dX1_readAsWord_27 : decode cX1_readAsWord 27 = .ok (.if_icmp .gt 24, 3) := by decide +kernel
theorem dX1_readAsWord_30 : decode cX1_readAsWord 30 = .ok (.aload_n 0, 1) := by decide +kernel
theorem dX1_readAsWord_31 : decode cX1_readAsWord 31 = .ok (.iconst 3, 1) := by decide +kernel
theorem dX1_readAsWord_32 : decode cX1_readAsWord 32 = .ok (.iconst 2, 1) := by decide +kernel
theorem dX1_readAsWord_33 : decode cX1_readAsWord 33 = .ok (.invokevirtual 56, 3) := by decide +kernel
theorem dX1_readAsWord_36 : decode cX1_readAsWord 36 = .ok (.bipush 16, 2) := by decide +kernel
theorem dX1_readAsWord_38 : decode cX1_readAsWord 38 = .ok (.aload_n 0, 1) := by decide +kernel
theorem dX1_readAsWord_39 : decode cX1_readAsWord 39 = .ok (.getfield 9, 3) := by decide +kernel
theorem dX1_readAsWord_42 : decode cX1_readAsWord 42 = .ok (.iconst 1, 1) := by decide +kernel
theorem dX1_readAsWord_43 : decode cX1_readAsWord 43 = .ok (.iconst 3, 1) := by decide +kernel
theorem dX1_readAsWord_44 : decode cX1_readAsWord 44 = .ok (.invokestatic 15, 3) := by decide +kernel
theorem dX1_readAsWord_47 : decode cX1_readAsWord 47 = .ok (.lcmp, 1) := by decide +kernel
theorem dX1_readAsWord_48 : decode cX1_readAsWord 48 = .ok (.ifCond .eq 5, 3) := by decide +kernel
theorem dX1_readAsWord_51 : decode cX1_readAsWord 51 = .ok (.iconst 5, 1) := by decide +kernel
theorem dX1_readAsWord_52 : decode cX1_readAsWord 52 = .ok (.ireturn, 1) := by decide +kernel
theorem dX1_readAsWord_53 : decode cX1_readAsWord 53 = .ok (.aload_n 0, 1) := by decide +kernel
theorem dX1_readAsWord_54 : decode cX1_readAsWord 54 = .ok (.getfield 9, 3) := by decide +kernel
theorem dX1_readAsWord_57 : decode cX1_readAsWord 57 = .ok (.iconst 1, 1) := by decide +kernel
theorem dX1_readAsWord_58 : decode cX1_readAsWord 58 = .ok (.iaload, 1) := by decide +kernel
theorem dX1_readAsWord_59 : decode cX1_readAsWord 59 = .ok (.lookupswitch 29 #[(0, 25), (16, 27)], 25) := by decide +kernel
theorem dX1_readAsWord_84 : decode cX1_readAsWord 84 = .ok (.iconst 2, 1) := by decide +kernel
theorem dX1_readAsWord_85 : decode cX1_readAsWord 85 = .ok (.ireturn, 1) := by decide +kernel
theorem dX1_readAsWord_86 : decode cX1_readAsWord 86 = .ok (.iconst 3, 1) := by decide +kernel
theorem dX1_readAsWord_87 : decode cX1_readAsWord 87 = .ok (.ireturn, 1) := by decide +kernel
theorem dX1_readAsWord_88 : decode cX1_readAsWord 88 = .ok (.iconst 5, 1) := by decide +kernel
theorem dX1_readAsWord_89 : decode cX1_readAsWord 89 = .ok (.ireturn, 1) := by decide +kernel
theorem dX1_readAsPacket_0 : decode cX1_readAsPacket 0 = .ok (.aload_n 0, 1) := by decide +kernel
theorem dX1_readAsPacket_1 : decode cX1_readAsPacket 1 = .ok (.invokevirtual 60, 3) := by decide +kernel
theorem dX1_readAsPacket_4 : decode cX1_readAsPacket 4 = .ok (.iconst 1, 1) := by decide +kernel
theorem dX1_readAsPacket_5 : decode cX1_readAsPacket 5 = .ok (.if_icmp .lt 33, 3) := by decide +kernel
theorem dX1_readAsPacket_8 : decode cX1_readAsPacket 8 = .ok (.aload_n 0, 1) := by decide +kernel
theorem dX1_readAsPacket_9 : decode cX1_readAsPacket 9 = .ok (.getfield 9, 3) := by decide +kernel
theorem dX1_readAsPacket_12 : decode cX1_readAsPacket 12 = .ok (.iconst 0, 1) := by decide +kernel
theorem dX1_readAsPacket_13 : decode cX1_readAsPacket 13 = .ok (.iaload, 1) := by decide +kernel
theorem dX1_readAsPacket_14 : decode cX1_readAsPacket 14 = .ok (.sipush 251, 3) := by decide +kernel
theorem dX1_readAsPacket_17 : decode cX1_readAsPacket 17 = .ok (.if_icmp .ne 21, 3) := by decide +kernel
theorem dX1_readAsPacket_20 : decode cX1_readAsPacket 20 = .ok (.aload_n 0, 1) := by decide +kernel
theorem dX1_readAsPacket_21 : decode cX1_readAsPacket 21 = .ok (.getfield 9, 3) := by decide +kernel
theorem dX1_readAsPacket_24 : decode cX1_readAsPacket 24 = .ok (.iconst 1, 1) := by decide +kernel
theorem dX1_readAsPacket_25 : decode cX1_readAsPacket 25 = .ok (.iaload, 1) := by decide +kernel
theorem dX1_readAsPacket_26 : decode cX1_readAsPacket 26 = .ok (.ifCond .ne 12, 3) := by decide +kernel
theorem dX1_readAsPacket_29 : decode cX1_readAsPacket 29 = .ok (.aload_n 0, 1) := by decide +kernel
theorem dX1_readAsPacket_30 : decode cX1_readAsPacket 30 = .ok (.invokevirtual 53, 3) := by decide +kernel
theorem dX1_readAsPacket_33 : decode cX1_readAsPacket 33 = .ok (.bipush 63, 2) := by decide +kernel
theorem dX1_readAsPacket_35 : decode cX1_readAsPacket 35 = .ok (.if_icmp .le 5, 3) := by decide +kernel
theorem dX1_readAsPacket_38 : decode cX1_readAsPacket 38 = .ok (.iconst 4, 1) := by decide +kernel
theorem dX1_readAsPacket_39 : decode cX1_readAsPacket 39 = .ok (.ireturn, 1) := by decide +kernel
theorem dX1_readAsPacket_40 : decode cX1_readAsPacket 40 = .ok (.aload_n 0, 1) := by decide +kernel
theorem dX1_readAsPacket_41 : decode cX1_readAsPacket 41 = .ok (.getfield 23, 3) := by decide +kernel
theorem dX1_readAsPacket_44 : decode cX1_readAsPacket 44 = .ok (.iconst 5, 1) := by decide +kernel
theorem dX1_readAsPacket_45 : decode cX1_readAsPacket 45 = .ok (.isub, 1) := by decide +kernel
theorem dX1_readAsPacket_46 : decode cX1_readAsPacket 46 = .ok (.istore_n 1, 1) := by decide +kernel
theorem dX1_readAsPacket_47 : decode cX1_readAsPacket 47 = .ok (.aload_n 0, 1) := by decide +kernel
theorem dX1_readAsPacket_48 : decode cX1_readAsPacket 48 = .ok (.iload_n 1, 1) := by decide +kernel
theorem dX1_readAsPacket_49 : decode cX1_readAsPacket 49 = .ok (.iconst 4, 1) := by decide +kernel
theorem dX1_readAsPacket_50 : decode cX1_readAsPacket 50 = .ok (.invokevirtual 56, 3) := by decide +kernel
theorem dX1_readAsPacket_53 : decode cX1_readAsPacket 53 = .ok (.lstore_n 2, 1) := by decide +kernel
theorem dX1_readAsPacket_54 : decode cX1_readAsPacket 54 = .ok (.bipush 32, 2) := by decide +kernel
theorem dX1_readAsPacket_56 : decode cX1_readAsPacket 56 = .ok (.aload_n 0, 1) := by decide +kernel
theorem dX1_readAsPacket_57 : decode cX1_readAsPacket 57 = .ok (.getfield 9, 3) := by decide +kernel
theorem dX1_readAsPacket_60 : decode cX1_readAsPacket 60 = .ok (.iconst 1, 1) := by decide +kernel
theorem dX1_readAsPacket_61 : decode cX1_readAsPacket 61 = .ok (.iload_n 1, 1) := by decide +kernel
theorem dX1_readAsPacket_62 : decode cX1_readAsPacket 62 = .ok (.invokestatic 15, 3) := by decide +kernel
theorem dX1_readAsPacket_65 : decode cX1_readAsPacket 65 = .ok (.lstore 4, 2) := by decide +kernel
theorem dX1_readAsPacket_67 : decode cX1_readAsPacket 67 = .ok (.aload_n 0, 1) := by decide +kernel
theorem dX1_readAsPacket_68 : decode cX1_readAsPacket 68 = .ok (.getfield 9, 3) := by decide +kernel
theorem dX1_readAsPacket_71 : decode cX1_readAsPacket 71 = .ok (.aload_n 0, 1) := by decide +kernel
theorem dX1_readAsPacket_72 : decode cX1_readAsPacket 72 = .ok (.getfield 23, 3) := by decide +kernel
theorem dX1_readAsPacket_75 : decode cX1_readAsPacket 75 = .ok (.iconst 1, 1) := by decide +kernel
theorem dX1_readAsPacket_76 : decode cX1_readAsPacket 76 = .ok (.isub, 1) := by decide +kernel
theorem dX1_readAsPacket_77 : decode cX1_readAsPacket 77 = .ok (.iaload, 1) := by decide +kernel
theorem dX1_readAsPacket_78 : decode cX1_readAsPacket 78 = .ok (.lookupswitch 55 #[(253, 26), (254, 39)], 26) := by decide +kernel
theorem dX1_readAsPacket_104 : decode cX1_readAsPacket 104 = .ok (.lload_n 2, 1) := by decide +kernel
theorem dX1_readAsPacket_105 : decode cX1_readAsPacket 105 = .ok (.lload 4, 2) := by decide +kernel
theorem dX1_readAsPacket_107 : decode cX1_readAsPacket 107 = .ok (.lcmp, 1) := by decide +kernel
theorem dX1_readAsPacket_108 : decode cX1_readAsPacket 108 = .ok (.ifCond .ne 7, 3) := by decide +kernel
theorem dX1_readAsPacket_111 : decode cX1_readAsPacket 111 = .ok (.iconst 0, 1) := by decide +kernel
theorem dX1_readAsPacket_112 : decode cX1_readAsPacket 112 = .ok (.goto 4, 3) := by decide +kernel
theorem dX1_readAsPacket_115 : decode cX1_readAsPacket 115 = .ok (.iconst 4, 1) := by decide +kernel
theorem dX1_readAsPacket_116 : decode cX1_readAsPacket 116 = .ok (.ireturn, 1) := by decide +kernel
theorem dX1_readAsPacket_117 : decode cX1_readAsPacket 117 = .ok (.lload_n 2, 1) := by decide +kernel
theorem dX1_readAsPacket_118 : decode cX1_readAsPacket 118 = .ok (.lload 4, 2) := by decide +kernel
theorem dX1_readAsPacket_120 : decode cX1_readAsPacket 120 = .ok (.invokestatic 39, 3) := by decide +kernel
theorem dX1_readAsPacket_123 : decode cX1_readAsPacket 123 = .ok (.lcmp, 1) := by decide +kernel
theorem dX1_readAsPacket_124 : decode cX1_readAsPacket 124 = .ok (.ifCond .ne 7, 3) := by decide +kernel
theorem dX1_readAsPacket_127 : decode cX1_readAsPacket 127 = .ok (.iconst 1, 1) := by decide +kernel
theorem dX1_readAsPacket_128 : decode cX1_readAsPacket 128 = .ok (.goto 4, 3) := by decide +kernel
theorem dX1_readAsPacket_131 : decode cX1_readAsPacket 131 = .ok (.iconst 4, 1) := by decide +kernel
theorem dX1_readAsPacket_132 : decode cX1_readAsPacket 132 = .ok (.ireturn, 1) := by decide +kernel
theorem dX1_readAsPacket_133 : decode cX1_readAsPacket 133 = .ok (.iconst 4, 1) := by decide +kernel
theorem dX1_readAsPacket_134 : decode cX1_readAsPacket 134 = .ok (.ireturn, 1) := by decide +kernel
theorem dX1_writeLowestFirst_0 : decode cX1_writeLowestFirst 0 = .ok (.iconst 0, 1) := by decide +kernel
theorem dX1_writeLowestFirst_1 : decode cX1_writeLowestFirst 1 = .ok (.istore 5, 2) := by decide +kernel
theorem dX1_writeLowestFirst_3 : decode cX1_writeLowestFirst 3 = .ok (.iload 5, 2) := by decide +kernel
theorem dX1_writeLowestFirst_5 : decode cX1_writeLowestFirst 5 = .ok (.iload_n 2, 1) := by decide +kernel
theorem dX1_writeLowestFirst_6 : decode cX1_writeLowestFirst 6 = .ok (.if_icmp .ge 30, 3) := by decide +kernel
theorem dX1_writeLowestFirst_9 : decode cX1_writeLowestFirst 9 = .ok (.aload_n 0, 1) := by decide +kernel
theorem dX1_writeLowestFirst_10 : decode cX1_writeLowestFirst 10 = .ok (.getfield 9, 3) := by decide +kernel
theorem dX1_writeLowestFirst_13 : decode cX1_writeLowestFirst 13 = .ok (.iload_n 1, 1) := by decide +kernel
theorem dX1_writeLowestFirst_14 : decode cX1_writeLowestFirst 14 = .ok (.iload 5, 2) := by decide +kernel
theorem dX1_writeLowestFirst_16 : decode cX1_writeLowestFirst 16 = .ok (.iadd, 1) := by decide +kernel
theorem dX1_writeLowestFirst_17 : decode cX1_writeLowestFirst 17 = .ok (.lload_n 3, 1) := by decide +kernel
theorem dX1_writeLowestFirst_18 : decode cX1_writeLowestFirst 18 = .ok (.bipush 8, 2) := by decide +kernel
theorem dX1_writeLowestFirst_20 : decode cX1_writeLowestFirst 20 = .ok (.iload 5, 2) := by decide +kernel
theorem dX1_writeLowestFirst_22 : decode cX1_writeLowestFirst 22 = .ok (.imul, 1) := by decide +kernel
theorem dX1_writeLowestFirst_23 : decode cX1_writeLowestFirst 23 = .ok (.lushr, 1) := by decide +kernel
theorem dX1_writeLowestFirst_24 : decode cX1_writeLowestFirst 24 = .ok (.l2i, 1) := by decide +kernel
theorem dX1_writeLowestFirst_25 : decode cX1_writeLowestFirst 25 = .ok (.sipush 255, 3) := by decide +kernel
theorem dX1_writeLowestFirst_28 : decode cX1_writeLowestFirst 28 = .ok (.iand, 1) := by decide +kernel
theorem dX1_writeLowestFirst_29 : decode cX1_writeLowestFirst 29 = .ok (.iastore, 1) := by decide +kernel
theorem dX1_writeLowestFirst_30 : decode cX1_writeLowestFirst 30 = .ok (.iinc 5 1, 3) := by decide +kernel
theorem dX1_writeLowestFirst_33 : decode cX1_writeLowestFirst 33 = .ok (.goto (-30), 3) := by decide +kernel
theorem dX1_writeLowestFirst_36 : decode cX1_writeLowestFirst 36 = .ok (.return_, 1) := by decide +kernel
theorem dX1_readLowestFirst_0 : decode cX1_readLowestFirst 0 = .ok (.lconst 0, 1) := by decide +kernel
theorem dX1_readLowestFirst_1 : decode cX1_readLowestFirst 1 = .ok (.lstore_n 3, 1) := by decide +kernel
theorem dX1_readLowestFirst_2 : decode cX1_readLowestFirst 2 = .ok (.iconst 0, 1) := by decide +kernel
theorem dX1_readLowestFirst_3 : decode cX1_readLowestFirst 3 = .ok (.istore 5, 2) := by decide +kernel
theorem dX1_readLowestFirst_5 : decode cX1_readLowestFirst 5 = .ok (.iload 5, 2) := by decide +kernel
theorem dX1_readLowestFirst_7 : decode cX1_readLowestFirst 7 = .ok (.iload_n 2, 1) := by decide +kernel
theorem dX1_readLowestFirst_8 : decode cX1_readLowestFirst 8 = .ok (.if_icmp .ge 28, 3) := by decide +kernel
theorem dX1_readLowestFirst_11 : decode cX1_readLowestFirst 11 = .ok (.lload_n 3, 1) := by decide +kernel
theorem dX1_readLowestFirst_12 : decode cX1_readLowestFirst 12 = .ok (.aload_n 0, 1) := by decide +kernel
theorem dX1_readLowestFirst_13 : decode cX1_readLowestFirst 13 = .ok (.getfield 9, 3) := by decide +kernel
theorem dX1_readLowestFirst_16 : decode cX1_readLowestFirst 16 = .ok (.iload_n 1, 1) := by decide +kernel
theorem dX1_readLowestFirst_17 : decode cX1_readLowestFirst 17 = .ok (.iload 5, 2) := by decide +kernel
theorem dX1_readLowestFirst_19 : decode cX1_readLowestFirst 19 = .ok (.iadd, 1) := by decide +kernel
theorem dX1_readLowestFirst_20 : decode cX1_readLowestFirst 20 = .ok (.iaload, 1) := by decide +kernel
theorem dX1_readLowestFirst_21 : decode cX1_readLowestFirst 21 = .ok (.i2l, 1) := by decide +kernel
theorem dX1_readLowestFirst_22 : decode cX1_readLowestFirst 22 = .ok (.bipush 8, 2) := by decide +kernel
theorem dX1_readLowestFirst_24 : decode cX1_readLowestFirst 24 = .ok (.iload 5, 2) := by decide +kernel
theorem dX1_readLowestFirst_26 : decode cX1_readLowestFirst 26 = .ok (.imul, 1) := by decide +kernel
theorem dX1_readLowestFirst_27 : decode cX1_readLowestFirst 27 = .ok (.lshl, 1) := by decide +kernel
theorem dX1_readLowestFirst_28 : decode cX1_readLowestFirst 28 = .ok (.lor, 1) := by decide +kernel
theorem dX1_readLowestFirst_29 : decode cX1_readLowestFirst 29 = .ok (.lstore_n 3, 1) := by decide +kernel
theorem dX1_readLowestFirst_30 : decode cX1_readLowestFirst 30 = .ok (.iinc 5 1, 3) := by decide +kernel
theorem dX1_readLowestFirst_33 : decode cX1_readLowestFirst 33 = .ok (.goto (-28), 3) := by decide +kernel
theorem dX1_readLowestFirst_36 : decode cX1_readLowestFirst 36 = .ok (.lload_n 3, 1) := by decide +kernel
theorem dX1_readLowestFirst_37 : decode cX1_readLowestFirst 37 = .ok (.lreturn, 1) := by decide +kernel
theorem dX2_init_0 : decode cX2_init 0 = .ok (.aload_n 0, 1) := by decide +kernel
theorem dX2_init_1 : decode cX2_init 1 = .ok (.invokespecial 3, 3) := by decide +kernel
theorem dX2_init_4 : decode cX2_init 4 = .ok (.aload_n 0, 1) := by decide +kernel
theorem dX2_init_5 : decode cX2_init 5 = .ok (.iconst 2, 1) := by decide +kernel
theorem dX2_init_6 : decode cX2_init 6 = .ok (.anewarray 9, 3) := by decide +kernel
theorem dX2_init_9 : decode cX2_init 9 = .ok (.dup, 1) := by decide +kernel
theorem dX2_init_10 : decode cX2_init 10 = .ok (.iconst 0, 1) := by decide +kernel
theorem dX2_init_11 : decode cX2_init 11 = .ok (.new 9, 3) := by decide +kernel
theorem dX2_init_14 : decode cX2_init 14 = .ok (.dup, 1) := by decide +kernel
theorem dX2_init_15 : decode cX2_init 15 = .ok (.invokespecial 11, 3) := by decide +kernel
theorem dX2_init_18 : decode cX2_init 18 = .ok (.aastore, 1) := by decide +kernel
theorem dX2_init_19 : decode cX2_init 19 = .ok (.dup, 1) := by decide +kernel
theorem dX2_init_20 : decode cX2_init 20 = .ok (.iconst 1, 1) := by decide +kernel
theorem dX2_init_21 : decode cX2_init 21 = .ok (.new 9, 3) := by decide +kernel
theorem dX2_init_24 : decode cX2_init 24 = .ok (.dup, 1) := by decide +kernel
theorem dX2_init_25 : decode cX2_init 25 = .ok (.invokespecial 11, 3) := by decide +kernel
theorem dX2_init_28 : decode cX2_init 28 = .ok (.aastore, 1) := by decide +kernel
theorem dX2_init_29 : decode cX2_init 29 = .ok (.putfield 12, 3) := by decide +kernel
theorem dX2_init_32 : decode cX2_init 32 = .ok (.aload_n 0, 1) := by decide +kernel
theorem dX2_init_33 : decode cX2_init 33 = .ok (.iconst 2, 1) := by decide +kernel
theorem dX2_init_34 : decode cX2_init 34 = .ok (.anewarray 18, 3) := by decide +kernel
theorem dX2_init_37 : decode cX2_init 37 = .ok (.dup, 1) := by decide +kernel
theorem dX2_init_38 : decode cX2_init 38 = .ok (.iconst 0, 1) := by decide +kernel
theorem dX2_init_39 : decode cX2_init 39 = .ok (.new 18, 3) := by decide +kernel
theorem dX2_init_42 : decode cX2_init 42 = .ok (.dup, 1) := by decide +kernel
theorem dX2_init_43 : decode cX2_init 43 = .ok (.invokespecial 20, 3) := by decide +kernel
theorem dX2_init_46 : decode cX2_init 46 = .ok (.aastore, 1) := by decide +kernel
theorem dX2_init_47 : decode cX2_init 47 = .ok (.dup, 1) := by decide +kernel
theorem dX2_init_48 : decode cX2_init 48 = .ok (.iconst 1, 1) := by decide +kernel
theorem dX2_init_49 : decode cX2_init 49 = .ok (.new 18, 3) := by decide +kernel
theorem dX2_init_52 : decode cX2_init 52 = .ok (.dup, 1) := by decide +kernel
theorem dX2_init_53 : decode cX2_init 53 = .ok (.invokespecial 20, 3) := by decide +kernel
theorem dX2_init_56 : decode cX2_init 56 = .ok (.aastore, 1) := by decide +kernel
theorem dX2_init_57 : decode cX2_init 57 = .ok (.putfield 21, 3) := by decide +kernel
theorem dX2_init_60 : decode cX2_init 60 = .ok (.aload_n 0, 1) := by decide +kernel
theorem dX2_init_61 : decode cX2_init 61 = .ok (.bipush 17, 2) := by decide +kernel
theorem dX2_init_63 : decode cX2_init 63 = .ok (.newarray .int, 2) := by decide +kernel
theorem dX2_init_65 : decode cX2_init 65 = .ok (.putfield 25, 3) := by decide +kernel
theorem dX2_init_68 : decode cX2_init 68 = .ok (.aload_n 0, 1) := by decide +kernel
theorem dX2_init_69 : decode cX2_init 69 = .ok (.iconst 1, 1) := by decide +kernel
theorem dX2_init_70 : decode cX2_init 70 = .ok (.putfield 29, 3) := by decide +kernel
theorem dX2_init_73 : decode cX2_init 73 = .ok (.aload_n 0, 1) := by decide +kernel
theorem dX2_init_74 : decode cX2_init 74 = .ok (.bipush 12, 2) := by decide +kernel
theorem dX2_init_76 : decode cX2_init 76 = .ok (.putfield 33, 3) := by decide +kernel
theorem dX2_init_79 : decode cX2_init 79 = .ok (.aload_n 0, 1) := by decide +kernel
theorem dX2_init_80 : decode cX2_init 80 = .ok (.iconst 2, 1) := by decide +kernel
theorem dX2_init_81 : decode cX2_init 81 = .ok (.putfield 36, 3) := by decide +kernel
theorem dX2_init_84 : decode cX2_init 84 = .ok (.return_, 1) := by decide +kernel
theorem dX2_changeDelay_0 : decode cX2_changeDelay 0 = .ok (.aload_n 0, 1) := by decide +kernel
theorem dX2_changeDelay_1 : decode cX2_changeDelay 1 = .ok (.getfield 29, 3) := by decide +kernel
theorem dX2_changeDelay_4 : decode cX2_changeDelay 4 = .ok (.istore_n 2, 1) := by decide +kernel
theorem dX2_changeDelay_5 : decode cX2_changeDelay 5 = .ok (.aload_n 0, 1) := by decide +kernel
theorem dX2_changeDelay_6 : decode cX2_changeDelay 6 = .ok (.iload_n 1, 1) := by decide +kernel
theorem dX2_changeDelay_7 : decode cX2_changeDelay 7 = .ok (.putfield 29, 3) := by decide +kernel
theorem dX2_changeDelay_10 : decode cX2_changeDelay 10 = .ok (.iload_n 2, 1) := by decide +kernel
theorem dX2_changeDelay_11 : decode cX2_changeDelay 11 = .ok (.ireturn, 1) := by decide +kernel
theorem dX2_changePatience_0 : decode cX2_changePatience 0 = .ok (.aload_n 0, 1) := by decide +kernel
theorem dX2_changePatience_1 : decode cX2_changePatience 1 = .ok (.getfield 33, 3) := by decide +kernel
theorem dX2_changePatience_4 : decode cX2_changePatience 4 = .ok (.istore_n 2, 1) := by decide +kernel
theorem dX2_changePatience_5 : decode cX2_changePatience 5 = .ok (.aload_n 0, 1) := by decide +kernel
theorem dX2_changePatience_6 : decode cX2_changePatience 6 = .ok (.iload_n 1, 1) := by decide +kernel
theorem dX2_changePatience_7 : decode cX2_changePatience 7 = .ok (.putfield 33, 3) := by decide +kernel
theorem dX2_changePatience_10 : decode cX2_changePatience 10 = .ok (.iload_n 2, 1) := by decide +kernel
theorem dX2_changePatience_11 : decode cX2_changePatience 11 = .ok (.ireturn, 1) := by decide +kernel
theorem dX2_changeAckDelay_0 : decode cX2_changeAckDelay 0 = .ok (.aload_n 0, 1) := by decide +kernel
theorem dX2_changeAckDelay_1 : decode cX2_changeAckDelay 1 = .ok (.getfield 36, 3) := by decide +kernel
theorem dX2_changeAckDelay_4 : decode cX2_changeAckDelay 4 = .ok (.istore_n 2, 1) := by decide +kernel
theorem dX2_changeAckDelay_5 : decode cX2_changeAckDelay 5 = .ok (.aload_n 0, 1) := by decide +kernel
theorem dX2_changeAckDelay_6 : decode cX2_changeAckDelay 6 = .ok (.iload_n 1, 1) := by decide +kernel
theorem dX2_changeAckDelay_7 : decode cX2_changeAckDelay 7 = .ok (.putfield 36, 3) := by decide +kernel
theorem dX2_changeAckDelay_10 : decode cX2_changeAckDelay 10 = .ok (.iload_n 2, 1) := by decide +kernel
theorem dX2_changeAckDelay_11 : decode cX2_changeAckDelay 11 = .ok (.ireturn, 1) := by decide +kernel
theorem dX2_passTick_0 : decode cX2_passTick 0 = .ok (.aload_n 0, 1) := by decide +kernel
theorem dX2_passTick_1 : decode cX2_passTick 1 = .ok (.dup, 1) := by decide +kernel
theorem dX2_passTick_2 : decode cX2_passTick 2 = .ok (.getfield 39, 3) := by decide +kernel
theorem dX2_passTick_5 : decode cX2_passTick 5 = .ok (.iconst 1, 1) := by decide +kernel
theorem dX2_passTick_6 : decode cX2_passTick 6 = .ok (.iadd, 1) := by decide +kernel
theorem dX2_passTick_7 : decode cX2_passTick 7 = .ok (.putfield 39, 3) := by decide +kernel
theorem dX2_passTick_10 : decode cX2_passTick 10 = .ok (.aload_n 0, 1) := by decide +kernel
theorem dX2_passTick_11 : decode cX2_passTick 11 = .ok (.getfield 42, 3) := by decide +kernel
theorem dX2_passTick_14 : decode cX2_passTick 14 = .ok (.ifCond .le 7, 3) := by decide +kernel
theorem dX2_passTick_17 : decode cX2_passTick 17 = .ok (.iconst 1, 1) := by decide +kernel
theorem dX2_passTick_18 : decode cX2_passTick 18 = .ok (.goto 4, 3) := by decide +kernel
theorem dX2_passTick_21 : decode cX2_passTick 21 = .ok (.iconst 0, 1) := by decide +kernel
theorem dX2_passTick_22 : decode cX2_passTick 22 = .ok (.istore_n 1, 1) := by decide +kernel
theorem dX2_passTick_23 : decode cX2_passTick 23 = .ok (.iload_n 1, 1) := by decide +kernel
theorem dX2_passTick_24 : decode cX2_passTick 24 = .ok (.ifCond .eq 13, 3) := by decide +kernel
theorem dX2_passTick_27 : decode cX2_passTick 27 = .ok (.aload_n 0, 1) := by decide +kernel
theorem dX2_passTick_28 : decode cX2_passTick 28 = .ok (.dup, 1) := by decide +kernel
theorem dX2_passTick_29 : decode cX2_passTick 29 = .ok (.getfield 42, 3) := by decide +kernel
theorem dX2_passTick_32 : decode cX2_passTick 32 = .ok (.iconst 1, 1) := by decide +kernel
theorem dX2_passTick_33 : decode cX2_passTick 33 = .ok (.isub, 1) := by decide +kernel
theorem dX2_passTick_34 : decode cX2_passTick 34 = .ok (.putfield 42, 3) := by decide +kernel
theorem dX2_passTick_37 : decode cX2_passTick 37 = .ok (.iconst 0, 1) := by decide +kernel
theorem dX2_passTick_38 : decode cX2_passTick 38 = .ok (.istore_n 2, 1) := by decide +kernel
theorem dX2_passTick_39 : decode cX2_passTick 39 = .ok (.iconst 0, 1) := by decide +kernel
theorem dX2_passTick_40 : decode cX2_passTick 40 = .ok (.istore_n 3, 1) := by decide +kernel
theorem dX2_passTick_41 : decode cX2_passTick 41 = .ok (.iload_n 3, 1) := by decide +kernel
theorem dX2_passTick_42 : decode cX2_passTick 42 = .ok (.iconst 2, 1) := by decide +kernel
theorem dX2_passTick_43 : decode cX2_passTick 43 = .ok (.if_icmp .ge 30, 3) := by decide +kernel
theorem dX2_passTick_46 : decode cX2_passTick 46 = .ok (.iload_n 2, 1) := by decide +kernel
theorem dX2_passTick_47 : decode cX2_passTick 47 = .ok (.aload_n 0, 1) := by decide +kernel
theorem dX2_passTick_48 : decode cX2_passTick 48 = .ok (.aload_n 0, 1) := by decide +kernel
theorem dX2_passTick_49 : decode cX2_passTick 49 = .ok (.getfield 21, 3) := by decide +kernel
theorem dX2_passTick_52 : decode cX2_passTick 52 = .ok (.iload_n 3, 1) := by decide +kernel
theorem dX2_passTick_53 : decode cX2_passTick 53 = .ok (.aaload, 1) := by decide +kernel
theorem dX2_passTick_54 : decode cX2_passTick 54 = .ok (.aload_n 0, 1) := by decide +kernel
theorem dX2_passTick_55 : decode cX2_passTick 55 = .ok (.getfield 12, 3) := by decide +kernel
theorem dX2_passTick_58 : decode cX2_passTick 58 = .ok (.iconst 1, 1) := by decide +kernel
theorem dX2_passTick_59 : decode cX2_passTick 59 = .ok (.iload_n 3, 1) := by decide +kernel
theorem dX2_passTick_60 : decode cX2_passTick 60 = .ok (.isub, 1) := by decide +kernel
theorem dX2_passTick_61 : decode cX2_passTick 61 = .ok (.aaload, 1) := by decide +kernel
theorem dX2_passTick_62 : decode cX2_passTick 62 = .ok (.invokevirtual 45, 3) := by decide +kernel
theorem dX2_passTick_65 : decode cX2_passTick 65 = .ok (.iadd, 1) := by decide +kernel
theorem dX2_passTick_66 : decode cX2_passTick 66 = .ok (.istore_n 2, 1) := by decide +kernel
theorem dX2_passTick_67 : decode cX2_passTick 67 = .ok (.iinc 3 1, 3) := by decide +kernel
theorem dX2_passTick_70 : decode cX2_passTick 70 = .ok (.goto (-29), 3) := by decide +kernel
theorem dX2_passTick_73 : decode cX2_passTick 73 = .ok (.iload_n 1, 1) := by decide +kernel
theorem dX2_passTick_74 : decode cX2_passTick 74 = .ok (.ifCond .eq 5, 3) := by decide +kernel
theorem dX2_passTick_77 : decode cX2_passTick 77 = .ok (.iload_n 2, 1) := by decide +kernel
theorem dX2_passTick_78 : decode cX2_passTick 78 = .ok (.ireturn, 1) := by decide +kernel
theorem dX2_passTick_79 : decode cX2_passTick 79 = .ok (.iconst 0, 1) := by decide +kernel
theorem dX2_passTick_80 : decode cX2_passTick 80 = .ok (.istore_n 3, 1) := by decide +kernel
theorem dX2_passTick_81 : decode cX2_passTick 81 = .ok (.iload_n 3, 1) := by decide +kernel
theorem dX2_passTick_82 : decode cX2_passTick 82 = .ok (.iconst 2, 1) := by decide +kernel
theorem dX2_passTick_83 : decode cX2_passTick 83 = .ok (.if_icmp .ge 19, 3) := by decide +kernel
theorem dX2_passTick_86 : decode cX2_passTick 86 = .ok (.aload_n 0, 1) := by decide +kernel
theorem dX2_passTick_87 : decode cX2_passTick 87 = .ok (.aload_n 0, 1) := by decide +kernel
theorem dX2_passTick_88 : decode cX2_passTick 88 = .ok (.getfield 12, 3) := by decide +kernel
theorem dX2_passTick_91 : decode cX2_passTick 91 = .ok (.iload_n 3, 1) := by decide +kernel
theorem dX2_passTick_92 : decode cX2_passTick 92 = .ok (.aaload, 1) := by decide +kernel
theorem dX2_passTick_93 : decode cX2_passTick 93 = .ok (.invokevirtual 49, 3) := by decide +kernel
theorem dX2_passTick_96 : decode cX2_passTick 96 = .ok (.iinc 3 1, 3) := by decide +kernel
theorem dX2_passTick_99 : decode cX2_passTick 99 = .ok (.goto (-18), 3) := by decide +kernel
theorem dX2_passTick_102 : decode cX2_passTick 102 = .ok (.iconst 0, 1) := by decide +kernel
theorem dX2_passTick_103 : decode cX2_passTick 103 = .ok (.istore_n 3, 1) := by decide +kernel
theorem dX2_passTick_104 : decode cX2_passTick 104 = .ok (.iload_n 3, 1) := by decide +kernel
theorem dX2_passTick_105 : decode cX2_passTick 105 = .ok (.iconst 2, 1) := by decide +kernel
theorem dX2_passTick_106 : decode cX2_passTick 106 = .ok (.if_icmp .ge 32, 3) := by decide +kernel
theorem dX2_passTick_109 : decode cX2_passTick 109 = .ok (.aload_n 0, 1) := by decide +kernel
theorem dX2_passTick_110 : decode cX2_passTick 110 = .ok (.getfield 42, 3) := by decide +kernel
theorem dX2_passTick_113 : decode cX2_passTick 113 = .ok (.ifCond .ne 25, 3) := by decide +kernel
theorem dX2_passTick_116 : decode cX2_passTick 116 = .ok (.aload_n 0, 1) := by decide +kernel
theorem dX2_passTick_117 : decode cX2_passTick 117 = .ok (.aload_n 0, 1) := by decide +kernel
theorem dX2_passTick_118 : decode cX2_passTick 118 = .ok (.getfield 12, 3) := by decide +kernel
theorem dX2_passTick_121 : decode cX2_passTick 121 = .ok (.iload_n 3, 1) := by decide +kernel
theorem dX2_passTick_122 : decode cX2_passTick 122 = .ok (.aaload, 1) := by decide +kernel
theorem dX2_passTick_123 : decode cX2_passTick 123 = .ok (.aload_n 0, 1) := by decide +kernel
theorem dX2_passTick_124 : decode cX2_passTick 124 = .ok (.getfield 21, 3) := by decide +kernel
theorem dX2_passTick_127 : decode cX2_passTick 127 = .ok (.iload_n 3, 1) := by decide +kernel
theorem dX2_passTick_128 : decode cX2_passTick 128 = .ok (.aaload, 1) := by decide +kernel
theorem dX2_passTick_129 : decode cX2_passTick 129 = .ok (.invokevirtual 53, 3) := by decide +kernel
theorem dX2_passTick_132 : decode cX2_passTick 132 = .ok (.iinc 3 1, 3) := by decide +kernel
theorem dX2_passTick_135 : decode cX2_passTick 135 = .ok (.goto (-31), 3) := by decide +kernel
theorem dX2_passTick_138 : decode cX2_passTick 138 = .ok (.iload_n 2, 1) := by decide +kernel
theorem dX2_passTick_139 : decode cX2_passTick 139 = .ok (.ireturn, 1) := by decide +kernel
theorem dX2_isQuiet_0 : decode cX2_isQuiet 0 = .ok (.aload_n 0, 1) := by decide +kernel
theorem dX2_isQuiet_1 : decode cX2_isQuiet 1 = .ok (.getfield 42, 3) := by decide +kernel
theorem dX2_isQuiet_4 : decode cX2_isQuiet 4 = .ok (.ifCond .ne 55, 3) := by decide +kernel
theorem dX2_isQuiet_7 : decode cX2_isQuiet 7 = .ok (.aload_n 0, 1) := by decide +kernel
theorem dX2_isQuiet_8 : decode cX2_isQuiet 8 = .ok (.getfield 21, 3) := by decide +kernel
theorem dX2_isQuiet_11 : decode cX2_isQuiet 11 = .ok (.iconst 0, 1) := by decide +kernel
theorem dX2_isQuiet_12 : decode cX2_isQuiet 12 = .ok (.aaload, 1) := by decide +kernel
theorem dX2_isQuiet_13 : decode cX2_isQuiet 13 = .ok (.getfield 57, 3) := by decide +kernel
theorem dX2_isQuiet_16 : decode cX2_isQuiet 16 = .ok (.ifCond .ne 43, 3) := by decide +kernel
theorem dX2_isQuiet_19 : decode cX2_isQuiet 19 = .ok (.aload_n 0, 1) := by decide +kernel
theorem dX2_isQuiet_20 : decode cX2_isQuiet 20 = .ok (.getfield 21, 3) := by decide +kernel
theorem dX2_isQuiet_23 : decode cX2_isQuiet 23 = .ok (.iconst 1, 1) := by decide +kernel
theorem dX2_isQuiet_24 : decode cX2_isQuiet 24 = .ok (.aaload, 1) := by decide +kernel
theorem dX2_isQuiet_25 : decode cX2_isQuiet 25 = .ok (.getfield 57, 3) := by decide +kernel
theorem dX2_isQuiet_28 : decode cX2_isQuiet 28 = .ok (.ifCond .ne 31, 3) := by decide +kernel
theorem dX2_isQuiet_31 : decode cX2_isQuiet 31 = .ok (.aload_n 0, 1) := by decide +kernel
theorem dX2_isQuiet_32 : decode cX2_isQuiet 32 = .ok (.getfield 12, 3) := by decide +kernel
theorem dX2_isQuiet_35 : decode cX2_isQuiet 35 = .ok (.iconst 0, 1) := by decide +kernel
theorem dX2_isQuiet_36 : decode cX2_isQuiet 36 = .ok (.aaload, 1) := by decide +kernel
theorem dX2_isQuiet_37 : decode cX2_isQuiet 37 = .ok (.invokevirtual 60, 3) := by decide +kernel
theorem dX2_isQuiet_40 : decode cX2_isQuiet 40 = .ok (.ifCond .eq 19, 3) := by decide +kernel
theorem dX2_isQuiet_43 : decode cX2_isQuiet 43 = .ok (.aload_n 0, 1) := by decide +kernel
theorem dX2_isQuiet_44 : decode cX2_isQuiet 44 = .ok (.getfield 12, 3) := by decide +kernel
theorem dX2_isQuiet_47 : decode cX2_isQuiet 47 = .ok (.iconst 1, 1) := by decide +kernel
theorem dX2_isQuiet_48 : decode cX2_isQuiet 48 = .ok (.aaload, 1) := by decide +kernel
theorem dX2_isQuiet_49 : decode cX2_isQuiet 49 = .ok (.invokevirtual 60, 3) := by decide +kernel
theorem dX2_isQuiet_52 : decode cX2_isQuiet 52 = .ok (.ifCond .eq 7, 3) := by decide +kernel
theorem dX2_isQuiet_55 : decode cX2_isQuiet 55 = .ok (.iconst 1, 1) := by decide +kernel
theorem dX2_isQuiet_56 : decode cX2_isQuiet 56 = .ok (.goto 4, 3) := by decide +kernel
theorem dX2_isQuiet_59 : decode cX2_isQuiet 59 = .ok (.iconst 0, 1) := by decide +kernel
theorem dX2_isQuiet_60 : decode cX2_isQuiet 60 = .ok (.ireturn, 1) := by decide +kernel
theorem dX2_copyFrom_0 : decode cX2_copyFrom 0 = .ok (.iconst 0, 1) := by decide +kernel
theorem dX2_copyFrom_1 : decode cX2_copyFrom 1 = .ok (.istore_n 2, 1) := by decide +kernel
theorem dX2_copyFrom_2 : decode cX2_copyFrom 2 = .ok (.iload_n 2, 1) := by decide +kernel
theorem dX2_copyFrom_3 : decode cX2_copyFrom 3 = .ok (.iconst 2, 1) := by decide +kernel
theorem dX2_copyFrom_4 : decode cX2_copyFrom 4 = .ok (.if_icmp .ge 39, 3) := by decide +kernel
theorem dX2_copyFrom_7 : decode cX2_copyFrom 7 = .ok (.aload_n 0, 1) := by decide +kernel
theorem dX2_copyFrom_8 : decode cX2_copyFrom 8 = .ok (.getfield 12, 3) := by decide +kernel
theorem dX2_copyFrom_11 : decode cX2_copyFrom 11 = .ok (.iload_n 2, 1) := by decide +kernel
theorem dX2_copyFrom_12 : decode cX2_copyFrom 12 = .ok (.aaload, 1) := by decide +kernel
theorem dX2_copyFrom_13 : decode cX2_copyFrom 13 = .ok (.aload_n 1, 1) := by decide +kernel
theorem dX2_copyFrom_14 : decode cX2_copyFrom 14 = .ok (.getfield 12, 3) := by decide +kernel
theorem dX2_copyFrom_17 : decode cX2_copyFrom 17 = .ok (.iload_n 2, 1) := by decide +kernel
theorem dX2_copyFrom_18 : decode cX2_copyFrom 18 = .ok (.aaload, 1) := by decide +kernel
theorem dX2_copyFrom_19 : decode cX2_copyFrom 19 = .ok (.invokevirtual 64, 3) := by decide +kernel
theorem dX2_copyFrom_22 : decode cX2_copyFrom 22 = .ok (.aload_n 0, 1) := by decide +kernel
theorem dX2_copyFrom_23 : decode cX2_copyFrom 23 = .ok (.getfield 21, 3) := by decide +kernel
theorem dX2_copyFrom_26 : decode cX2_copyFrom 26 = .ok (.iload_n 2, 1) := by decide +kernel
theorem dX2_copyFrom_27 : decode cX2_copyFrom 27 = .ok (.aaload, 1) := by decide +kernel
theorem dX2_copyFrom_28 : decode cX2_copyFrom 28 = .ok (.aload_n 1, 1) := by decide +kernel
theorem dX2_copyFrom_29 : decode cX2_copyFrom 29 = .ok (.getfield 21, 3) := by decide +kernel
theorem dX2_copyFrom_32 : decode cX2_copyFrom 32 = .ok (.iload_n 2, 1) := by decide +kernel
theorem dX2_copyFrom_33 : decode cX2_copyFrom 33 = .ok (.aaload, 1) := by decide +kernel
theorem dX2_copyFrom_34 : decode cX2_copyFrom 34 = .ok (.invokevirtual 67, 3) := by decide +kernel
theorem dX2_copyFrom_37 : decode cX2_copyFrom 37 = .ok (.iinc 2 1, 3) := by decide +kernel
theorem dX2_copyFrom_40 : decode cX2_copyFrom 40 = .ok (.goto (-38), 3) := by decide +kernel
theorem dX2_copyFrom_43 : decode cX2_copyFrom 43 = .ok (.aload_n 1, 1) := by decide +kernel
theorem dX2_copyFrom_44 : decode cX2_copyFrom 44 = .ok (.getfield 25, 3) := by decide +kernel
theorem dX2_copyFrom_47 : decode cX2_copyFrom 47 = .ok (.iconst 0, 1) := by decide +kernel
theorem dX2_copyFrom_48 : decode cX2_copyFrom 48 = .ok (.aload_n 0, 1) := by decide +kernel
theorem dX2_copyFrom_49 : decode cX2_copyFrom 49 = .ok (.getfield 25, 3) := by decide +kernel
theorem dX2_copyFrom_52 : decode cX2_copyFrom 52 = .ok (.iconst 0, 1) := by decide +kernel
theorem dX2_copyFrom_53 : decode cX2_copyFrom 53 = .ok (.aload_n 0, 1) := by decide +kernel
theorem dX2_copyFrom_54 : decode cX2_copyFrom 54 = .ok (.getfield 25, 3) := by decide +kernel
theorem dX2_copyFrom_57 : decode cX2_copyFrom 57 = .ok (.arraylength, 1) := by decide +kernel
theorem dX2_copyFrom_58 : decode cX2_copyFrom 58 = .ok (.invokestatic 70, 3) := by decide +kernel
theorem dX2_copyFrom_61 : decode cX2_copyFrom 61 = .ok (.aload_n 0, 1) := by decide +kernel
theorem dX2_copyFrom_62 : decode cX2_copyFrom 62 = .ok (.aload_n 1, 1) := by decide +kernel
theorem dX2_copyFrom_63 : decode cX2_copyFrom 63 = .ok (.getfield 39, 3) := by decide +kernel
theorem dX2_copyFrom_66 : decode cX2_copyFrom 66 = .ok (.putfield 39, 3) := by decide +kernel
theorem dX2_copyFrom_69 : decode cX2_copyFrom 69 = .ok (.aload_n 0, 1) := by decide +kernel
theorem dX2_copyFrom_70 : decode cX2_copyFrom 70 = .ok (.aload_n 1, 1) := by decide +kernel
theorem dX2_copyFrom_71 : decode cX2_copyFrom 71 = .ok (.getfield 42, 3) := by decide +kernel
theorem dX2_copyFrom_74 : decode cX2_copyFrom 74 = .ok (.putfield 42, 3) := by decide +kernel
theorem dX2_copyFrom_77 : decode cX2_copyFrom 77 = .ok (.aload_n 0, 1) := by decide +kernel
theorem dX2_copyFrom_78 : decode cX2_copyFrom 78 = .ok (.aload_n 1, 1) := by decide +kernel
theorem dX2_copyFrom_79 : decode cX2_copyFrom 79 = .ok (.getfield 29, 3) := by decide +kernel
theorem dX2_copyFrom_82 : decode cX2_copyFrom 82 = .ok (.putfield 29, 3) := by decide +kernel
theorem dX2_copyFrom_85 : decode cX2_copyFrom 85 = .ok (.aload_n 0, 1) := by decide +kernel
theorem dX2_copyFrom_86 : decode cX2_copyFrom 86 = .ok (.aload_n 1, 1) := by decide +kernel
theorem dX2_copyFrom_87 : decode cX2_copyFrom 87 = .ok (.getfield 33, 3) := by decide +kernel
theorem dX2_copyFrom_90 : decode cX2_copyFrom 90 = .ok (.putfield 33, 3) := by decide +kernel
theorem dX2_copyFrom_93 : decode cX2_copyFrom 93 = .ok (.aload_n 0, 1) := by decide +kernel
theorem dX2_copyFrom_94 : decode cX2_copyFrom 94 = .ok (.aload_n 1, 1) := by decide +kernel
theorem dX2_copyFrom_95 : decode cX2_copyFrom 95 = .ok (.getfield 36, 3) := by decide +kernel
theorem dX2_copyFrom_98 : decode cX2_copyFrom 98 = .ok (.putfield 36, 3) := by decide +kernel
theorem dX2_copyFrom_101 : decode cX2_copyFrom 101 = .ok (.return_, 1) := by decide +kernel
theorem dX2_receive_0 : decode cX2_receive 0 = .ok (.iconst 0, 1) := by decide +kernel
theorem dX2_receive_1 : decode cX2_receive 1 = .ok (.istore_n 3, 1) := by decide +kernel
theorem dX2_receive_2 : decode cX2_receive 2 = .ok (.iload_n 3, 1) := by decide +kernel
theorem dX2_receive_3 : decode cX2_receive 3 = .ok (.bipush 12, 2) := by decide +kernel
theorem dX2_receive_5 : decode cX2_receive 5 = .ok (.if_icmp .ge 37, 3) := by decide +kernel
theorem dX2_receive_8 : decode cX2_receive 8 = .ok (.aload_n 1, 1) := by decide +kernel
theorem dX2_receive_9 : decode cX2_receive 9 = .ok (.aload_n 0, 1) := by decide +kernel
theorem dX2_receive_10 : decode cX2_receive 10 = .ok (.getfield 39, 3) := by decide +kernel
theorem dX2_receive_13 : decode cX2_receive 13 = .ok (.invokevirtual 76, 3) := by decide +kernel
theorem dX2_receive_16 : decode cX2_receive 16 = .ok (.istore 4, 2) := by decide +kernel
theorem dX2_receive_18 : decode cX2_receive 18 = .ok (.iload 4, 2) := by decide +kernel
theorem dX2_receive_20 : decode cX2_receive 20 = .ok (.ifCond .ge 5, 3) := by decide +kernel
theorem dX2_receive_23 : decode cX2_receive 23 = .ok (.iload_n 3, 1) := by decide +kernel
theorem dX2_receive_24 : decode cX2_receive 24 = .ok (.ireturn, 1) := by decide +kernel
theorem dX2_receive_25 : decode cX2_receive 25 = .ok (.aload_n 0, 1) := by decide +kernel
theorem dX2_receive_26 : decode cX2_receive 26 = .ok (.aload_n 1, 1) := by decide +kernel
theorem dX2_receive_27 : decode cX2_receive 27 = .ok (.iload 4, 2) := by decide +kernel
theorem dX2_receive_29 : decode cX2_receive 29 = .ok (.invokevirtual 80, 3) := by decide +kernel
theorem dX2_receive_32 : decode cX2_receive 32 = .ok (.aload_n 2, 1) := by decide +kernel
theorem dX2_receive_33 : decode cX2_receive 33 = .ok (.invokevirtual 84, 3) := by decide +kernel
theorem dX2_receive_36 : decode cX2_receive 36 = .ok (.iinc 3 1, 3) := by decide +kernel
theorem dX2_receive_39 : decode cX2_receive 39 = .ok (.goto (-37), 3) := by decide +kernel
theorem dX2_receive_42 : decode cX2_receive 42 = .ok (.bipush 12, 2) := by decide +kernel
theorem dX2_receive_44 : decode cX2_receive 44 = .ok (.ireturn, 1) := by decide +kernel
theorem dX2_takeIn_0 : decode cX2_takeIn 0 = .ok (.aload_n 1, 1) := by decide +kernel
theorem dX2_takeIn_1 : decode cX2_takeIn 1 = .ok (.invokevirtual 88, 3) := by decide +kernel
theorem dX2_takeIn_4 : decode cX2_takeIn 4 = .ok (.istore_n 3, 1) := by decide +kernel
theorem dX2_takeIn_5 : decode cX2_takeIn 5 = .ok (.iload_n 3, 1) := by decide +kernel
theorem dX2_takeIn_6 : decode cX2_takeIn 6 = .ok (.tableswitch 88 0 4 #[34, 43, 57, 57, 70], 34) := by decide +kernel
theorem dX2_takeIn_40 : decode cX2_takeIn 40 = .ok (.aload_n 0, 1) := by decide +kernel
theorem dX2_takeIn_41 : decode cX2_takeIn 41 = .ok (.aload_n 1, 1) := by decide +kernel
theorem dX2_takeIn_42 : decode cX2_takeIn 42 = .ok (.aload_n 2, 1) := by decide +kernel
theorem dX2_takeIn_43 : decode cX2_takeIn 43 = .ok (.invokevirtual 94, 3) := by decide +kernel
theorem dX2_takeIn_46 : decode cX2_takeIn 46 = .ok (.goto 59, 3) := by decide +kernel
theorem dX2_takeIn_49 : decode cX2_takeIn 49 = .ok (.aload_n 0, 1) := by decide +kernel
theorem dX2_takeIn_50 : decode cX2_takeIn 50 = .ok (.getfield 25, 3) := by decide +kernel
theorem dX2_takeIn_53 : decode cX2_takeIn 53 = .ok (.bipush 12, 2) := by decide +kernel
theorem dX2_takeIn_55 : decode cX2_takeIn 55 = .ok (.dup2, 1) := by decide +kernel
theorem dX2_takeIn_56 : decode cX2_takeIn 56 = .ok (.iaload, 1) := by decide +kernel
theorem dX2_takeIn_57 : decode cX2_takeIn 57 = .ok (.iconst 1, 1) := by decide +kernel
theorem dX2_takeIn_58 : decode cX2_takeIn 58 = .ok (.iadd, 1) := by decide +kernel
theorem dX2_takeIn_59 : decode cX2_takeIn 59 = .ok (.iastore, 1) := by decide +kernel
theorem dX2_takeIn_60 : decode cX2_takeIn 60 = .ok (.goto 45, 3) := by decide +kernel
theorem dX2_takeIn_63 : decode cX2_takeIn 63 = .ok (.aload_n 0, 1) := by decide +kernel
theorem dX2_takeIn_64 : decode cX2_takeIn 64 = .ok (.iload_n 3, 1) := by decide +kernel
theorem dX2_takeIn_65 : decode cX2_takeIn 65 = .ok (.aload_n 1, 1) := by decide +kernel
theorem dX2_takeIn_66 : decode cX2_takeIn 66 = .ok (.invokevirtual 97, 3) := by decide +kernel
theorem dX2_takeIn_69 : decode cX2_takeIn 69 = .ok (.aload_n 2, 1) := by decide +kernel
theorem dX2_takeIn_70 : decode cX2_takeIn 70 = .ok (.invokevirtual 100, 3) := by decide +kernel
theorem dX2_takeIn_73 : decode cX2_takeIn 73 = .ok (.goto 32, 3) := by decide +kernel
theorem dX2_takeIn_76 : decode cX2_takeIn 76 = .ok (.aload_n 0, 1) := by decide +kernel
theorem dX2_takeIn_77 : decode cX2_takeIn 77 = .ok (.getfield 25, 3) := by decide +kernel
theorem dX2_takeIn_80 : decode cX2_takeIn 80 = .ok (.bipush 15, 2) := by decide +kernel
theorem dX2_takeIn_82 : decode cX2_takeIn 82 = .ok (.dup2, 1) := by decide +kernel
theorem dX2_takeIn_83 : decode cX2_takeIn 83 = .ok (.iaload, 1) := by decide +kernel
theorem dX2_takeIn_84 : decode cX2_takeIn 84 = .ok (.iconst 1, 1) := by decide +kernel
theorem dX2_takeIn_85 : decode cX2_takeIn 85 = .ok (.iadd, 1) := by decide +kernel
theorem dX2_takeIn_86 : decode cX2_takeIn 86 = .ok (.iastore, 1) := by decide +kernel
theorem dX2_takeIn_87 : decode cX2_takeIn 87 = .ok (.aload_n 2, 1) := by decide +kernel
theorem dX2_takeIn_88 : decode cX2_takeIn 88 = .ok (.invokevirtual 104, 3) := by decide +kernel
theorem dX2_takeIn_91 : decode cX2_takeIn 91 = .ok (.goto 14, 3) := by decide +kernel
theorem dX2_takeIn_94 : decode cX2_takeIn 94 = .ok (.aload_n 0, 1) := by decide +kernel
theorem dX2_takeIn_95 : decode cX2_takeIn 95 = .ok (.getfield 25, 3) := by decide +kernel
theorem dX2_takeIn_98 : decode cX2_takeIn 98 = .ok (.bipush 16, 2) := by decide +kernel
theorem dX2_takeIn_100 : decode cX2_takeIn 100 = .ok (.dup2, 1) := by decide +kernel
theorem dX2_takeIn_101 : decode cX2_takeIn 101 = .ok (.iaload, 1) := by decide +kernel
theorem dX2_takeIn_102 : decode cX2_takeIn 102 = .ok (.iconst 1, 1) := by decide +kernel
theorem dX2_takeIn_103 : decode cX2_takeIn 103 = .ok (.iadd, 1) := by decide +kernel
theorem dX2_takeIn_104 : decode cX2_takeIn 104 = .ok (.iastore, 1) := by decide +kernel
theorem dX2_takeIn_105 : decode cX2_takeIn 105 = .ok (.return_, 1) := by decide +kernel
theorem dX2_takeInData_0 : decode cX2_takeInData 0 = .ok (.aload_n 1, 1) := by decide +kernel
theorem dX2_takeInData_1 : decode cX2_takeInData 1 = .ok (.invokevirtual 97, 3) := by decide +kernel
theorem dX2_takeInData_4 : decode cX2_takeInData 4 = .ok (.aload_n 2, 1) := by decide +kernel
theorem dX2_takeInData_5 : decode cX2_takeInData 5 = .ok (.getfield 107, 3) := by decide +kernel
theorem dX2_takeInData_8 : decode cX2_takeInData 8 = .ok (.isub, 1) := by decide +kernel
theorem dX2_takeInData_9 : decode cX2_takeInData 9 = .ok (.invokestatic 110, 3) := by decide +kernel
theorem dX2_takeInData_12 : decode cX2_takeInData 12 = .ok (.istore_n 3, 1) := by decide +kernel
theorem dX2_takeInData_13 : decode cX2_takeInData 13 = .ok (.iload_n 3, 1) := by decide +kernel
theorem dX2_takeInData_14 : decode cX2_takeInData 14 = .ok (.ifCond .ne 30, 3) := by decide +kernel
theorem dX2_takeInData_17 : decode cX2_takeInData 17 = .ok (.aload_n 0, 1) := by decide +kernel
theorem dX2_takeInData_18 : decode cX2_takeInData 18 = .ok (.getfield 25, 3) := by decide +kernel
theorem dX2_takeInData_21 : decode cX2_takeInData 21 = .ok (.bipush 9, 2) := by decide +kernel
theorem dX2_takeInData_23 : decode cX2_takeInData 23 = .ok (.dup2, 1) := by decide +kernel
theorem dX2_takeInData_24 : decode cX2_takeInData 24 = .ok (.iaload, 1) := by decide +kernel
theorem dX2_takeInData_25 : decode cX2_takeInData 25 = .ok (.iconst 1, 1) := by decide +kernel
theorem dX2_takeInData_26 : decode cX2_takeInData 26 = .ok (.iadd, 1) := by decide +kernel
theorem dX2_takeInData_27 : decode cX2_takeInData 27 = .ok (.iastore, 1) := by decide +kernel
theorem dX2_takeInData_28 : decode cX2_takeInData 28 = .ok (.aload_n 2, 1) := by decide +kernel
theorem dX2_takeInData_29 : decode cX2_takeInData 29 = .ok (.aload_n 1, 1) := by decide +kernel
theorem dX2_takeInData_30 : decode cX2_takeInData 30 = .ok (.invokevirtual 113, 3) := by decide +kernel
theorem dX2_takeInData_33 : decode cX2_takeInData 33 = .ok (.aload_n 2, 1) := by decide +kernel
theorem dX2_takeInData_34 : decode cX2_takeInData 34 = .ok (.aload_n 0, 1) := by decide +kernel
theorem dX2_takeInData_35 : decode cX2_takeInData 35 = .ok (.getfield 36, 3) := by decide +kernel
theorem dX2_takeInData_38 : decode cX2_takeInData 38 = .ok (.invokevirtual 117, 3) := by decide +kernel
theorem dX2_takeInData_41 : decode cX2_takeInData 41 = .ok (.goto 46, 3) := by decide +kernel
theorem dX2_takeInData_44 : decode cX2_takeInData 44 = .ok (.iload_n 3, 1) := by decide +kernel
theorem dX2_takeInData_45 : decode cX2_takeInData 45 = .ok (.bipush 32, 2) := by decide +kernel
theorem dX2_takeInData_47 : decode cX2_takeInData 47 = .ok (.if_icmp .lt 25, 3) := by decide +kernel
theorem dX2_takeInData_50 : decode cX2_takeInData 50 = .ok (.aload_n 0, 1) := by decide +kernel
theorem dX2_takeInData_51 : decode cX2_takeInData 51 = .ok (.getfield 25, 3) := by decide +kernel
theorem dX2_takeInData_54 : decode cX2_takeInData 54 = .ok (.bipush 10, 2) := by decide +kernel
theorem dX2_takeInData_56 : decode cX2_takeInData 56 = .ok (.dup2, 1) := by decide +kernel
theorem dX2_takeInData_57 : decode cX2_takeInData 57 = .ok (.iaload, 1) := by decide +kernel
theorem dX2_takeInData_58 : decode cX2_takeInData 58 = .ok (.iconst 1, 1) := by decide +kernel
theorem dX2_takeInData_59 : decode cX2_takeInData 59 = .ok (.iadd, 1) := by decide +kernel
theorem dX2_takeInData_60 : decode cX2_takeInData 60 = .ok (.iastore, 1) := by decide +kernel
theorem dX2_takeInData_61 : decode cX2_takeInData 61 = .ok (.aload_n 2, 1) := by decide +kernel
theorem dX2_takeInData_62 : decode cX2_takeInData 62 = .ok (.aload_n 0, 1) := by decide +kernel
theorem dX2_takeInData_63 : decode cX2_takeInData 63 = .ok (.getfield 36, 3) := by decide +kernel
theorem dX2_takeInData_66 : decode cX2_takeInData 66 = .ok (.invokevirtual 117, 3) := by decide +kernel
theorem dX2_takeInData_69 : decode cX2_takeInData 69 = .ok (.goto 18, 3) := by decide +kernel
theorem dX2_takeInData_72 : decode cX2_takeInData 72 = .ok (.aload_n 0, 1) := by decide +kernel
theorem dX2_takeInData_73 : decode cX2_takeInData 73 = .ok (.getfield 25, 3) := by decide +kernel
theorem dX2_takeInData_76 : decode cX2_takeInData 76 = .ok (.bipush 11, 2) := by decide +kernel
theorem dX2_takeInData_78 : decode cX2_takeInData 78 = .ok (.dup2, 1) := by decide +kernel
theorem dX2_takeInData_79 : decode cX2_takeInData 79 = .ok (.iaload, 1) := by decide +kernel
theorem dX2_takeInData_80 : decode cX2_takeInData 80 = .ok (.iconst 1, 1) := by decide +kernel
theorem dX2_takeInData_81 : decode cX2_takeInData 81 = .ok (.iadd, 1) := by decide +kernel
theorem dX2_takeInData_82 : decode cX2_takeInData 82 = .ok (.iastore, 1) := by decide +kernel
theorem dX2_takeInData_83 : decode cX2_takeInData 83 = .ok (.aload_n 2, 1) := by decide +kernel
theorem dX2_takeInData_84 : decode cX2_takeInData 84 = .ok (.invokevirtual 104, 3) := by decide +kernel
theorem dX2_takeInData_87 : decode cX2_takeInData 87 = .ok (.return_, 1) := by decide +kernel
theorem dX2_takeInWord_0 : decode cX2_takeInWord 0 = .ok (.aload_n 0, 1) := by decide +kernel
theorem dX2_takeInWord_1 : decode cX2_takeInWord 1 = .ok (.getfield 25, 3) := by decide +kernel
theorem dX2_takeInWord_4 : decode cX2_takeInWord 4 = .ok (.bipush 13, 2) := by decide +kernel
theorem dX2_takeInWord_6 : decode cX2_takeInWord 6 = .ok (.dup2, 1) := by decide +kernel
theorem dX2_takeInWord_7 : decode cX2_takeInWord 7 = .ok (.iaload, 1) := by decide +kernel
theorem dX2_takeInWord_8 : decode cX2_takeInWord 8 = .ok (.iconst 1, 1) := by decide +kernel
theorem dX2_takeInWord_9 : decode cX2_takeInWord 9 = .ok (.iadd, 1) := by decide +kernel
theorem dX2_takeInWord_10 : decode cX2_takeInWord 10 = .ok (.iastore, 1) := by decide +kernel
theorem dX2_takeInWord_11 : decode cX2_takeInWord 11 = .ok (.aload_n 3, 1) := by decide +kernel
theorem dX2_takeInWord_12 : decode cX2_takeInWord 12 = .ok (.invokevirtual 121, 3) := by decide +kernel
theorem dX2_takeInWord_15 : decode cX2_takeInWord 15 = .ok (.iconst 1, 1) := by decide +kernel
theorem dX2_takeInWord_16 : decode cX2_takeInWord 16 = .ok (.isub, 1) := by decide +kernel
theorem dX2_takeInWord_17 : decode cX2_takeInWord 17 = .ok (.iload_n 2, 1) := by decide +kernel
theorem dX2_takeInWord_18 : decode cX2_takeInWord 18 = .ok (.isub, 1) := by decide +kernel
theorem dX2_takeInWord_19 : decode cX2_takeInWord 19 = .ok (.invokestatic 110, 3) := by decide +kernel
theorem dX2_takeInWord_22 : decode cX2_takeInWord 22 = .ok (.bipush 32, 2) := by decide +kernel
theorem dX2_takeInWord_24 : decode cX2_takeInWord 24 = .ok (.if_icmp .lt 15, 3) := by decide +kernel
theorem dX2_takeInWord_27 : decode cX2_takeInWord 27 = .ok (.aload_n 0, 1) := by decide +kernel
theorem dX2_takeInWord_28 : decode cX2_takeInWord 28 = .ok (.getfield 25, 3) := by decide +kernel
theorem dX2_takeInWord_31 : decode cX2_takeInWord 31 = .ok (.bipush 14, 2) := by decide +kernel
theorem dX2_takeInWord_33 : decode cX2_takeInWord 33 = .ok (.dup2, 1) := by decide +kernel
theorem dX2_takeInWord_34 : decode cX2_takeInWord 34 = .ok (.iaload, 1) := by decide +kernel
theorem dX2_takeInWord_35 : decode cX2_takeInWord 35 = .ok (.iconst 1, 1) := by decide +kernel
theorem dX2_takeInWord_36 : decode cX2_takeInWord 36 = .ok (.iadd, 1) := by decide +kernel
theorem dX2_takeInWord_37 : decode cX2_takeInWord 37 = .ok (.iastore, 1) := by decide +kernel
theorem dX2_takeInWord_38 : decode cX2_takeInWord 38 = .ok (.return_, 1) := by decide +kernel
theorem dX2_takeInWord_39 : decode cX2_takeInWord 39 = .ok (.aload_n 3, 1) := by decide +kernel
theorem dX2_takeInWord_40 : decode cX2_takeInWord 40 = .ok (.iload_n 2, 1) := by decide +kernel
theorem dX2_takeInWord_41 : decode cX2_takeInWord 41 = .ok (.invokevirtual 124, 3) := by decide +kernel
theorem dX2_takeInWord_44 : decode cX2_takeInWord 44 = .ok (.iload_n 1, 1) := by decide +kernel
theorem dX2_takeInWord_45 : decode cX2_takeInWord 45 = .ok (.iconst 3, 1) := by decide +kernel
theorem dX2_takeInWord_46 : decode cX2_takeInWord 46 = .ok (.if_icmp .ne 15, 3) := by decide +kernel
theorem dX2_takeInWord_49 : decode cX2_takeInWord 49 = .ok (.aload_n 3, 1) := by decide +kernel
theorem dX2_takeInWord_50 : decode cX2_takeInWord 50 = .ok (.invokevirtual 127, 3) := by decide +kernel
theorem dX2_takeInWord_53 : decode cX2_takeInWord 53 = .ok (.ifCond .le 8, 3) := by decide +kernel
theorem dX2_takeInWord_56 : decode cX2_takeInWord 56 = .ok (.aload_n 0, 1) := by decide +kernel
theorem dX2_takeInWord_57 : decode cX2_takeInWord 57 = .ok (.aload_n 3, 1) := by decide +kernel
theorem dX2_takeInWord_58 : decode cX2_takeInWord 58 = .ok (.invokevirtual 130, 3) := by decide +kernel
theorem dX2_takeInWord_61 : decode cX2_takeInWord 61 = .ok (.return_, 1) := by decide +kernel
theorem dX2_runTimers_0 : decode cX2_runTimers 0 = .ok (.aload_n 1, 1) := by decide +kernel
theorem dX2_runTimers_1 : decode cX2_runTimers 1 = .ok (.getfield 133, 3) := by decide +kernel
theorem dX2_runTimers_4 : decode cX2_runTimers 4 = .ok (.ifCond .le 13, 3) := by decide +kernel
theorem dX2_runTimers_7 : decode cX2_runTimers 7 = .ok (.aload_n 1, 1) := by decide +kernel
theorem dX2_runTimers_8 : decode cX2_runTimers 8 = .ok (.dup, 1) := by decide +kernel
theorem dX2_runTimers_9 : decode cX2_runTimers 9 = .ok (.getfield 133, 3) := by decide +kernel
theorem dX2_runTimers_12 : decode cX2_runTimers 12 = .ok (.iconst 1, 1) := by decide +kernel
theorem dX2_runTimers_13 : decode cX2_runTimers 13 = .ok (.isub, 1) := by decide +kernel
theorem dX2_runTimers_14 : decode cX2_runTimers 14 = .ok (.putfield 133, 3) := by decide +kernel
theorem dX2_runTimers_17 : decode cX2_runTimers 17 = .ok (.aload_n 1, 1) := by decide +kernel
theorem dX2_runTimers_18 : decode cX2_runTimers 18 = .ok (.invokevirtual 127, 3) := by decide +kernel
theorem dX2_runTimers_21 : decode cX2_runTimers 21 = .ok (.ifCond .eq 10, 3) := by decide +kernel
theorem dX2_runTimers_24 : decode cX2_runTimers 24 = .ok (.aload_n 1, 1) := by decide +kernel
theorem dX2_runTimers_25 : decode cX2_runTimers 25 = .ok (.getfield 136, 3) := by decide +kernel
theorem dX2_runTimers_28 : decode cX2_runTimers 28 = .ok (.ifCond .le 4, 3) := by decide +kernel
theorem dX2_runTimers_31 : decode cX2_runTimers 31 = .ok (.return_, 1) := by decide +kernel
theorem dX2_runTimers_32 : decode cX2_runTimers 32 = .ok (.aload_n 1, 1) := by decide +kernel
theorem dX2_runTimers_33 : decode cX2_runTimers 33 = .ok (.dup, 1) := by decide +kernel
theorem dX2_runTimers_34 : decode cX2_runTimers 34 = .ok (.getfield 139, 3) := by decide +kernel
theorem dX2_runTimers_37 : decode cX2_runTimers 37 = .ok (.iconst 1, 1) := by decide +kernel
theorem dX2_runTimers_38 : decode cX2_runTimers 38 = .ok (.iadd, 1) := by decide +kernel
theorem dX2_runTimers_39 : decode cX2_runTimers 39 = .ok (.putfield 139, 3) := by decide +kernel
theorem dX2_runTimers_42 : decode cX2_runTimers 42 = .ok (.aload_n 1, 1) := by decide +kernel
theorem dX2_runTimers_43 : decode cX2_runTimers 43 = .ok (.getfield 139, 3) := by decide +kernel
theorem dX2_runTimers_46 : decode cX2_runTimers 46 = .ok (.aload_n 0, 1) := by decide +kernel
theorem dX2_runTimers_47 : decode cX2_runTimers 47 = .ok (.getfield 33, 3) := by decide +kernel
theorem dX2_runTimers_50 : decode cX2_runTimers 50 = .ok (.if_icmp .lt 8, 3) := by decide +kernel
theorem dX2_runTimers_53 : decode cX2_runTimers 53 = .ok (.aload_n 0, 1) := by decide +kernel
theorem dX2_runTimers_54 : decode cX2_runTimers 54 = .ok (.aload_n 1, 1) := by decide +kernel
theorem dX2_runTimers_55 : decode cX2_runTimers 55 = .ok (.invokevirtual 130, 3) := by decide +kernel
theorem dX2_runTimers_58 : decode cX2_runTimers 58 = .ok (.return_, 1) := by decide +kernel
theorem dX2_sendAgain_0 : decode cX2_sendAgain 0 = .ok (.aload_n 0, 1) := by decide +kernel
theorem dX2_sendAgain_1 : decode cX2_sendAgain 1 = .ok (.getfield 25, 3) := by decide +kernel
theorem dX2_sendAgain_4 : decode cX2_sendAgain 4 = .ok (.iconst 3, 1) := by decide +kernel
theorem dX2_sendAgain_5 : decode cX2_sendAgain 5 = .ok (.dup2, 1) := by decide +kernel
theorem dX2_sendAgain_6 : decode cX2_sendAgain 6 = .ok (.iaload, 1) := by decide +kernel
theorem dX2_sendAgain_7 : decode cX2_sendAgain 7 = .ok (.iconst 1, 1) := by decide +kernel
theorem dX2_sendAgain_8 : decode cX2_sendAgain 8 = .ok (.iadd, 1) := by decide +kernel
theorem dX2_sendAgain_9 : decode cX2_sendAgain 9 = .ok (.iastore, 1) := by decide +kernel
theorem dX2_sendAgain_10 : decode cX2_sendAgain 10 = .ok (.aload_n 1, 1) := by decide +kernel
theorem dX2_sendAgain_11 : decode cX2_sendAgain 11 = .ok (.dup, 1) := by decide +kernel
theorem dX2_sendAgain_12 : decode cX2_sendAgain 12 = .ok (.getfield 142, 3) := by decide +kernel
theorem dX2_sendAgain_15 : decode cX2_sendAgain 15 = .ok (.iconst 1, 1) := by decide +kernel
theorem dX2_sendAgain_16 : decode cX2_sendAgain 16 = .ok (.iadd, 1) := by decide +kernel
theorem dX2_sendAgain_17 : decode cX2_sendAgain 17 = .ok (.putfield 142, 3) := by decide +kernel
theorem dX2_sendAgain_20 : decode cX2_sendAgain 20 = .ok (.aload_n 1, 1) := by decide +kernel
theorem dX2_sendAgain_21 : decode cX2_sendAgain 21 = .ok (.iconst 0, 1) := by decide +kernel
theorem dX2_sendAgain_22 : decode cX2_sendAgain 22 = .ok (.putfield 139, 3) := by decide +kernel
theorem dX2_sendAgain_25 : decode cX2_sendAgain 25 = .ok (.aload_n 1, 1) := by decide +kernel
theorem dX2_sendAgain_26 : decode cX2_sendAgain 26 = .ok (.aload_n 1, 1) := by decide +kernel
theorem dX2_sendAgain_27 : decode cX2_sendAgain 27 = .ok (.invokevirtual 127, 3) := by decide +kernel
theorem dX2_sendAgain_30 : decode cX2_sendAgain 30 = .ok (.putfield 136, 3) := by decide +kernel
theorem dX2_sendAgain_33 : decode cX2_sendAgain 33 = .ok (.aload_n 1, 1) := by decide +kernel
theorem dX2_sendAgain_34 : decode cX2_sendAgain 34 = .ok (.getfield 142, 3) := by decide +kernel
theorem dX2_sendAgain_37 : decode cX2_sendAgain 37 = .ok (.iconst 4, 1) := by decide +kernel
theorem dX2_sendAgain_38 : decode cX2_sendAgain 38 = .ok (.if_icmp .lt 12, 3) := by decide +kernel
theorem dX2_sendAgain_41 : decode cX2_sendAgain 41 = .ok (.aload_n 1, 1) := by decide +kernel
theorem dX2_sendAgain_42 : decode cX2_sendAgain 42 = .ok (.iconst 0, 1) := by decide +kernel
theorem dX2_sendAgain_43 : decode cX2_sendAgain 43 = .ok (.putfield 142, 3) := by decide +kernel
theorem dX2_sendAgain_46 : decode cX2_sendAgain 46 = .ok (.aload_n 0, 1) := by decide +kernel
theorem dX2_sendAgain_47 : decode cX2_sendAgain 47 = .ok (.invokevirtual 145, 3) := by decide +kernel
theorem dX2_sendAgain_50 : decode cX2_sendAgain 50 = .ok (.return_, 1) := by decide +kernel
theorem dX2_train_0 : decode cX2_train 0 = .ok (.aload_n 0, 1) := by decide +kernel
theorem dX2_train_1 : decode cX2_train 1 = .ok (.getfield 25, 3) := by decide +kernel
theorem dX2_train_4 : decode cX2_train 4 = .ok (.iconst 2, 1) := by decide +kernel
theorem dX2_train_5 : decode cX2_train 5 = .ok (.dup2, 1) := by decide +kernel
theorem dX2_train_6 : decode cX2_train 6 = .ok (.iaload, 1) := by decide +kernel
theorem dX2_train_7 : decode cX2_train 7 = .ok (.iconst 1, 1) := by decide +kernel
theorem dX2_train_8 : decode cX2_train 8 = .ok (.iadd, 1) := by decide +kernel
theorem dX2_train_9 : decode cX2_train 9 = .ok (.iastore, 1) := by decide +kernel
theorem dX2_train_10 : decode cX2_train 10 = .ok (.aload_n 0, 1) := by decide +kernel
theorem dX2_train_11 : decode cX2_train 11 = .ok (.iconst 5, 1) := by decide +kernel
theorem dX2_train_12 : decode cX2_train 12 = .ok (.putfield 42, 3) := by decide +kernel
theorem dX2_train_15 : decode cX2_train 15 = .ok (.aload_n 0, 1) := by decide +kernel
theorem dX2_train_16 : decode cX2_train 16 = .ok (.getfield 21, 3) := by decide +kernel
theorem dX2_train_19 : decode cX2_train 19 = .ok (.iconst 0, 1) := by decide +kernel
theorem dX2_train_20 : decode cX2_train 20 = .ok (.aaload, 1) := by decide +kernel
theorem dX2_train_21 : decode cX2_train 21 = .ok (.iconst 0, 1) := by decide +kernel
theorem dX2_train_22 : decode cX2_train 22 = .ok (.putfield 57, 3) := by decide +kernel
theorem dX2_train_25 : decode cX2_train 25 = .ok (.aload_n 0, 1) := by decide +kernel
theorem dX2_train_26 : decode cX2_train 26 = .ok (.getfield 21, 3) := by decide +kernel
theorem dX2_train_29 : decode cX2_train 29 = .ok (.iconst 1, 1) := by decide +kernel
theorem dX2_train_30 : decode cX2_train 30 = .ok (.aaload, 1) := by decide +kernel
theorem dX2_train_31 : decode cX2_train 31 = .ok (.iconst 0, 1) := by decide +kernel
theorem dX2_train_32 : decode cX2_train 32 = .ok (.putfield 57, 3) := by decide +kernel
theorem dX2_train_35 : decode cX2_train 35 = .ok (.return_, 1) := by decide +kernel
theorem dX2_layOneFrame_0 : decode cX2_layOneFrame 0 = .ok (.aload_n 1, 1) := by decide +kernel
theorem dX2_layOneFrame_1 : decode cX2_layOneFrame 1 = .ok (.getfield 148, 3) := by decide +kernel
theorem dX2_layOneFrame_4 : decode cX2_layOneFrame 4 = .ok (.ifCond .eq 35, 3) := by decide +kernel
theorem dX2_layOneFrame_7 : decode cX2_layOneFrame 7 = .ok (.aload_n 0, 1) := by decide +kernel
theorem dX2_layOneFrame_8 : decode cX2_layOneFrame 8 = .ok (.getfield 25, 3) := by decide +kernel
theorem dX2_layOneFrame_11 : decode cX2_layOneFrame 11 = .ok (.bipush 8, 2) := by decide +kernel
theorem dX2_layOneFrame_13 : decode cX2_layOneFrame 13 = .ok (.dup2, 1) := by decide +kernel
theorem dX2_layOneFrame_14 : decode cX2_layOneFrame 14 = .ok (.iaload, 1) := by decide +kernel
theorem dX2_layOneFrame_15 : decode cX2_layOneFrame 15 = .ok (.iconst 1, 1) := by decide +kernel
theorem dX2_layOneFrame_16 : decode cX2_layOneFrame 16 = .ok (.iadd, 1) := by decide +kernel
theorem dX2_layOneFrame_17 : decode cX2_layOneFrame 17 = .ok (.iastore, 1) := by decide +kernel
theorem dX2_layOneFrame_18 : decode cX2_layOneFrame 18 = .ok (.aload_n 1, 1) := by decide +kernel
theorem dX2_layOneFrame_19 : decode cX2_layOneFrame 19 = .ok (.aload_n 2, 1) := by decide +kernel
theorem dX2_layOneFrame_20 : decode cX2_layOneFrame 20 = .ok (.aload_n 0, 1) := by decide +kernel
theorem dX2_layOneFrame_21 : decode cX2_layOneFrame 21 = .ok (.getfield 39, 3) := by decide +kernel
theorem dX2_layOneFrame_24 : decode cX2_layOneFrame 24 = .ok (.aload_n 0, 1) := by decide +kernel
theorem dX2_layOneFrame_25 : decode cX2_layOneFrame 25 = .ok (.getfield 29, 3) := by decide +kernel
theorem dX2_layOneFrame_28 : decode cX2_layOneFrame 28 = .ok (.iadd, 1) := by decide +kernel
theorem dX2_layOneFrame_29 : decode cX2_layOneFrame 29 = .ok (.invokevirtual 152, 3) := by decide +kernel
theorem dX2_layOneFrame_32 : decode cX2_layOneFrame 32 = .ok (.iconst 3, 1) := by decide +kernel
theorem dX2_layOneFrame_33 : decode cX2_layOneFrame 33 = .ok (.invokevirtual 155, 3) := by decide +kernel
theorem dX2_layOneFrame_36 : decode cX2_layOneFrame 36 = .ok (.goto 133, 3) := by decide +kernel
theorem dX2_layOneFrame_39 : decode cX2_layOneFrame 39 = .ok (.aload_n 1, 1) := by decide +kernel
theorem dX2_layOneFrame_40 : decode cX2_layOneFrame 40 = .ok (.getfield 133, 3) := by decide +kernel
theorem dX2_layOneFrame_43 : decode cX2_layOneFrame 43 = .ok (.ifCond .ne 35, 3) := by decide +kernel
theorem dX2_layOneFrame_46 : decode cX2_layOneFrame 46 = .ok (.aload_n 0, 1) := by decide +kernel
theorem dX2_layOneFrame_47 : decode cX2_layOneFrame 47 = .ok (.getfield 25, 3) := by decide +kernel
theorem dX2_layOneFrame_50 : decode cX2_layOneFrame 50 = .ok (.bipush 7, 2) := by decide +kernel
theorem dX2_layOneFrame_52 : decode cX2_layOneFrame 52 = .ok (.dup2, 1) := by decide +kernel
theorem dX2_layOneFrame_53 : decode cX2_layOneFrame 53 = .ok (.iaload, 1) := by decide +kernel
theorem dX2_layOneFrame_54 : decode cX2_layOneFrame 54 = .ok (.iconst 1, 1) := by decide +kernel
theorem dX2_layOneFrame_55 : decode cX2_layOneFrame 55 = .ok (.iadd, 1) := by decide +kernel
theorem dX2_layOneFrame_56 : decode cX2_layOneFrame 56 = .ok (.iastore, 1) := by decide +kernel
theorem dX2_layOneFrame_57 : decode cX2_layOneFrame 57 = .ok (.aload_n 1, 1) := by decide +kernel
theorem dX2_layOneFrame_58 : decode cX2_layOneFrame 58 = .ok (.aload_n 2, 1) := by decide +kernel
theorem dX2_layOneFrame_59 : decode cX2_layOneFrame 59 = .ok (.aload_n 0, 1) := by decide +kernel
theorem dX2_layOneFrame_60 : decode cX2_layOneFrame 60 = .ok (.getfield 39, 3) := by decide +kernel
theorem dX2_layOneFrame_63 : decode cX2_layOneFrame 63 = .ok (.aload_n 0, 1) := by decide +kernel
theorem dX2_layOneFrame_64 : decode cX2_layOneFrame 64 = .ok (.getfield 29, 3) := by decide +kernel
theorem dX2_layOneFrame_67 : decode cX2_layOneFrame 67 = .ok (.iadd, 1) := by decide +kernel
theorem dX2_layOneFrame_68 : decode cX2_layOneFrame 68 = .ok (.invokevirtual 152, 3) := by decide +kernel
theorem dX2_layOneFrame_71 : decode cX2_layOneFrame 71 = .ok (.iconst 2, 1) := by decide +kernel
theorem dX2_layOneFrame_72 : decode cX2_layOneFrame 72 = .ok (.invokevirtual 155, 3) := by decide +kernel
theorem dX2_layOneFrame_75 : decode cX2_layOneFrame 75 = .ok (.goto 94, 3) := by decide +kernel
theorem dX2_layOneFrame_78 : decode cX2_layOneFrame 78 = .ok (.aload_n 1, 1) := by decide +kernel
theorem dX2_layOneFrame_79 : decode cX2_layOneFrame 79 = .ok (.getfield 136, 3) := by decide +kernel
theorem dX2_layOneFrame_82 : decode cX2_layOneFrame 82 = .ok (.ifCond .le 53, 3) := by decide +kernel
theorem dX2_layOneFrame_85 : decode cX2_layOneFrame 85 = .ok (.aload_n 0, 1) := by decide +kernel
theorem dX2_layOneFrame_86 : decode cX2_layOneFrame 86 = .ok (.getfield 25, 3) := by decide +kernel
theorem dX2_layOneFrame_89 : decode cX2_layOneFrame 89 = .ok (.iconst 5, 1) := by decide +kernel
theorem dX2_layOneFrame_90 : decode cX2_layOneFrame 90 = .ok (.dup2, 1) := by decide +kernel
theorem dX2_layOneFrame_91 : decode cX2_layOneFrame 91 = .ok (.iaload, 1) := by decide +kernel
theorem dX2_layOneFrame_92 : decode cX2_layOneFrame 92 = .ok (.iconst 1, 1) := by decide +kernel
theorem dX2_layOneFrame_93 : decode cX2_layOneFrame 93 = .ok (.iadd, 1) := by decide +kernel
theorem dX2_layOneFrame_94 : decode cX2_layOneFrame 94 = .ok (.iastore, 1) := by decide +kernel
theorem dX2_layOneFrame_95 : decode cX2_layOneFrame 95 = .ok (.aload_n 1, 1) := by decide +kernel
theorem dX2_layOneFrame_96 : decode cX2_layOneFrame 96 = .ok (.aload_n 2, 1) := by decide +kernel
theorem dX2_layOneFrame_97 : decode cX2_layOneFrame 97 = .ok (.aload_n 0, 1) := by decide +kernel
theorem dX2_layOneFrame_98 : decode cX2_layOneFrame 98 = .ok (.getfield 39, 3) := by decide +kernel
theorem dX2_layOneFrame_101 : decode cX2_layOneFrame 101 = .ok (.aload_n 0, 1) := by decide +kernel
theorem dX2_layOneFrame_102 : decode cX2_layOneFrame 102 = .ok (.getfield 29, 3) := by decide +kernel
theorem dX2_layOneFrame_105 : decode cX2_layOneFrame 105 = .ok (.iadd, 1) := by decide +kernel
theorem dX2_layOneFrame_106 : decode cX2_layOneFrame 106 = .ok (.invokevirtual 152, 3) := by decide +kernel
theorem dX2_layOneFrame_109 : decode cX2_layOneFrame 109 = .ok (.iconst 0, 1) := by decide +kernel
theorem dX2_layOneFrame_110 : decode cX2_layOneFrame 110 = .ok (.aload_n 1, 1) := by decide +kernel
theorem dX2_layOneFrame_111 : decode cX2_layOneFrame 111 = .ok (.getfield 159, 3) := by decide +kernel
theorem dX2_layOneFrame_114 : decode cX2_layOneFrame 114 = .ok (.aload_n 1, 1) := by decide +kernel
theorem dX2_layOneFrame_115 : decode cX2_layOneFrame 115 = .ok (.getfield 136, 3) := by decide +kernel
theorem dX2_layOneFrame_118 : decode cX2_layOneFrame 118 = .ok (.isub, 1) := by decide +kernel
theorem dX2_layOneFrame_119 : decode cX2_layOneFrame 119 = .ok (.invokevirtual 162, 3) := by decide +kernel
theorem dX2_layOneFrame_122 : decode cX2_layOneFrame 122 = .ok (.aload_n 1, 1) := by decide +kernel
theorem dX2_layOneFrame_123 : decode cX2_layOneFrame 123 = .ok (.dup, 1) := by decide +kernel
theorem dX2_layOneFrame_124 : decode cX2_layOneFrame 124 = .ok (.getfield 136, 3) := by decide +kernel
theorem dX2_layOneFrame_127 : decode cX2_layOneFrame 127 = .ok (.iconst 1, 1) := by decide +kernel
theorem dX2_layOneFrame_128 : decode cX2_layOneFrame 128 = .ok (.isub, 1) := by decide +kernel
theorem dX2_layOneFrame_129 : decode cX2_layOneFrame 129 = .ok (.putfield 136, 3) := by decide +kernel
theorem dX2_layOneFrame_132 : decode cX2_layOneFrame 132 = .ok (.goto 37, 3) := by decide +kernel
theorem dX2_layOneFrame_135 : decode cX2_layOneFrame 135 = .ok (.aload_n 1, 1) := by decide +kernel
theorem dX2_layOneFrame_136 : decode cX2_layOneFrame 136 = .ok (.invokevirtual 127, 3) := by decide +kernel
theorem dX2_layOneFrame_139 : decode cX2_layOneFrame 139 = .ok (.bipush 8, 2) := by decide +kernel
theorem dX2_layOneFrame_141 : decode cX2_layOneFrame 141 = .ok (.if_icmp .ge 28, 3) := by decide +kernel
theorem dX2_layOneFrame_144 : decode cX2_layOneFrame 144 = .ok (.aload_n 1, 1) := by decide +kernel
theorem dX2_layOneFrame_145 : decode cX2_layOneFrame 145 = .ok (.invokevirtual 166, 3) := by decide +kernel
theorem dX2_layOneFrame_148 : decode cX2_layOneFrame 148 = .ok (.ifCond .le 21, 3) := by decide +kernel
theorem dX2_layOneFrame_151 : decode cX2_layOneFrame 151 = .ok (.aload_n 0, 1) := by decide +kernel
theorem dX2_layOneFrame_152 : decode cX2_layOneFrame 152 = .ok (.aload_n 1, 1) := by decide +kernel
theorem dX2_layOneFrame_153 : decode cX2_layOneFrame 153 = .ok (.aload_n 2, 1) := by decide +kernel
theorem dX2_layOneFrame_154 : decode cX2_layOneFrame 154 = .ok (.aload_n 0, 1) := by decide +kernel
theorem dX2_layOneFrame_155 : decode cX2_layOneFrame 155 = .ok (.getfield 39, 3) := by decide +kernel
theorem dX2_layOneFrame_158 : decode cX2_layOneFrame 158 = .ok (.aload_n 0, 1) := by decide +kernel
theorem dX2_layOneFrame_159 : decode cX2_layOneFrame 159 = .ok (.getfield 29, 3) := by decide +kernel
theorem dX2_layOneFrame_162 : decode cX2_layOneFrame 162 = .ok (.iadd, 1) := by decide +kernel
theorem dX2_layOneFrame_163 : decode cX2_layOneFrame 163 = .ok (.invokevirtual 152, 3) := by decide +kernel
theorem dX2_layOneFrame_166 : decode cX2_layOneFrame 166 = .ok (.invokevirtual 169, 3) := by decide +kernel
theorem dX2_layOneFrame_169 : decode cX2_layOneFrame 169 = .ok (.return_, 1) := by decide +kernel
theorem dX2_layNewPacket_0 : decode cX2_layNewPacket 0 = .ok (.aload_n 1, 1) := by decide +kernel
theorem dX2_layNewPacket_1 : decode cX2_layNewPacket 1 = .ok (.getfield 173, 3) := by decide +kernel
theorem dX2_layNewPacket_4 : decode cX2_layNewPacket 4 = .ok (.ifCond .eq 30, 3) := by decide +kernel
theorem dX2_layNewPacket_7 : decode cX2_layNewPacket 7 = .ok (.aload_n 0, 1) := by decide +kernel
theorem dX2_layNewPacket_8 : decode cX2_layNewPacket 8 = .ok (.getfield 25, 3) := by decide +kernel
theorem dX2_layNewPacket_11 : decode cX2_layNewPacket 11 = .ok (.bipush 6, 2) := by decide +kernel
theorem dX2_layNewPacket_13 : decode cX2_layNewPacket 13 = .ok (.dup2, 1) := by decide +kernel
theorem dX2_layNewPacket_14 : decode cX2_layNewPacket 14 = .ok (.iaload, 1) := by decide +kernel
theorem dX2_layNewPacket_15 : decode cX2_layNewPacket 15 = .ok (.iconst 1, 1) := by decide +kernel
theorem dX2_layNewPacket_16 : decode cX2_layNewPacket 16 = .ok (.iadd, 1) := by decide +kernel
theorem dX2_layNewPacket_17 : decode cX2_layNewPacket 17 = .ok (.iastore, 1) := by decide +kernel
theorem dX2_layNewPacket_18 : decode cX2_layNewPacket 18 = .ok (.aload_n 1, 1) := by decide +kernel
theorem dX2_layNewPacket_19 : decode cX2_layNewPacket 19 = .ok (.aload_n 2, 1) := by decide +kernel
theorem dX2_layNewPacket_20 : decode cX2_layNewPacket 20 = .ok (.iconst 1, 1) := by decide +kernel
theorem dX2_layNewPacket_21 : decode cX2_layNewPacket 21 = .ok (.aload_n 1, 1) := by decide +kernel
theorem dX2_layNewPacket_22 : decode cX2_layNewPacket 22 = .ok (.getfield 159, 3) := by decide +kernel
theorem dX2_layNewPacket_25 : decode cX2_layNewPacket 25 = .ok (.invokevirtual 162, 3) := by decide +kernel
theorem dX2_layNewPacket_28 : decode cX2_layNewPacket 28 = .ok (.aload_n 1, 1) := by decide +kernel
theorem dX2_layNewPacket_29 : decode cX2_layNewPacket 29 = .ok (.iconst 0, 1) := by decide +kernel
theorem dX2_layNewPacket_30 : decode cX2_layNewPacket 30 = .ok (.putfield 173, 3) := by decide +kernel
theorem dX2_layNewPacket_33 : decode cX2_layNewPacket 33 = .ok (.return_, 1) := by decide +kernel
theorem dX2_layNewPacket_34 : decode cX2_layNewPacket 34 = .ok (.aload_n 0, 1) := by decide +kernel
theorem dX2_layNewPacket_35 : decode cX2_layNewPacket 35 = .ok (.getfield 25, 3) := by decide +kernel
theorem dX2_layNewPacket_38 : decode cX2_layNewPacket 38 = .ok (.iconst 4, 1) := by decide +kernel
theorem dX2_layNewPacket_39 : decode cX2_layNewPacket 39 = .ok (.dup2, 1) := by decide +kernel
theorem dX2_layNewPacket_40 : decode cX2_layNewPacket 40 = .ok (.iaload, 1) := by decide +kernel
theorem dX2_layNewPacket_41 : decode cX2_layNewPacket 41 = .ok (.iconst 1, 1) := by decide +kernel
theorem dX2_layNewPacket_42 : decode cX2_layNewPacket 42 = .ok (.iadd, 1) := by decide +kernel
theorem dX2_layNewPacket_43 : decode cX2_layNewPacket 43 = .ok (.iastore, 1) := by decide +kernel
theorem dX2_layNewPacket_44 : decode cX2_layNewPacket 44 = .ok (.aload_n 1, 1) := by decide +kernel
theorem dX2_layNewPacket_45 : decode cX2_layNewPacket 45 = .ok (.aload_n 2, 1) := by decide +kernel
theorem dX2_layNewPacket_46 : decode cX2_layNewPacket 46 = .ok (.iconst 0, 1) := by decide +kernel
theorem dX2_layNewPacket_47 : decode cX2_layNewPacket 47 = .ok (.aload_n 1, 1) := by decide +kernel
theorem dX2_layNewPacket_48 : decode cX2_layNewPacket 48 = .ok (.getfield 159, 3) := by decide +kernel
theorem dX2_layNewPacket_51 : decode cX2_layNewPacket 51 = .ok (.invokevirtual 162, 3) := by decide +kernel
theorem dX2_layNewPacket_54 : decode cX2_layNewPacket 54 = .ok (.aload_n 1, 1) := by decide +kernel
theorem dX2_layNewPacket_55 : decode cX2_layNewPacket 55 = .ok (.dup, 1) := by decide +kernel
theorem dX2_layNewPacket_56 : decode cX2_layNewPacket 56 = .ok (.getfield 159, 3) := by decide +kernel
theorem dX2_layNewPacket_59 : decode cX2_layNewPacket 59 = .ok (.iconst 1, 1) := by decide +kernel
theorem dX2_layNewPacket_60 : decode cX2_layNewPacket 60 = .ok (.iadd, 1) := by decide +kernel
theorem dX2_layNewPacket_61 : decode cX2_layNewPacket 61 = .ok (.putfield 159, 3) := by decide +kernel
theorem dX2_layNewPacket_64 : decode cX2_layNewPacket 64 = .ok (.return_, 1) := by decide +kernel
theorem dX3_init_0 : decode cX3_init 0 = .ok (.aload_n 0, 1) := by decide +kernel
theorem dX3_init_1 : decode cX3_init 1 = .ok (.invokespecial 3, 3) := by decide +kernel
theorem dX3_init_4 : decode cX3_init 4 = .ok (.aload_n 0, 1) := by decide +kernel
theorem dX3_init_5 : decode cX3_init 5 = .ok (.iload_n 1, 1) := by decide +kernel
theorem dX3_init_6 : decode cX3_init 6 = .ok (.newarray .int, 2) := by decide +kernel
theorem dX3_init_8 : decode cX3_init 8 = .ok (.putfield 9, 3) := by decide +kernel
theorem dX3_init_11 : decode cX3_init 11 = .ok (.aload_n 0, 1) := by decide +kernel
theorem dX3_init_12 : decode cX3_init 12 = .ok (.iload_n 1, 1) := by decide +kernel
theorem dX3_init_13 : decode cX3_init 13 = .ok (.bipush 24, 2) := by decide +kernel
theorem dX3_init_15 : decode cX3_init 15 = .ok (.imul, 1) := by decide +kernel
theorem dX3_init_16 : decode cX3_init 16 = .ok (.newarray .int, 2) := by decide +kernel
theorem dX3_init_18 : decode cX3_init 18 = .ok (.putfield 15, 3) := by decide +kernel
theorem dX3_init_21 : decode cX3_init 21 = .ok (.return_, 1) := by decide +kernel
end
section
theorem dX3_put_0 : decode cX3_put 0 = .ok (.aload_n 2, 1) := by decide +kernel
theorem dX3_put_1 : decode cX3_put 1 = .ok (.iload_n 3, 1) := by decide +kernel
theorem dX3_put_2 : decode cX3_put 2 = .ok (.aload_n 0, 1) := by decide +kernel
theorem dX3_put_3 : decode cX3_put 3 = .ok (.getfield 15, 3) := by decide +kernel
theorem dX3_put_6 : decode cX3_put 6 = .ok (.iload_n 1, 1) := by decide +kernel
theorem dX3_put_7 : decode cX3_put 7 = .ok (.bipush 24, 2) := by decide +kernel
theorem dX3_put_9 : decode cX3_put 9 = .ok (.imul, 1) := by decide +kernel
theorem dX3_put_10 : decode cX3_put 10 = .ok (.iload 4, 2) := by decide +kernel
theorem dX3_put_12 : decode cX3_put 12 = .ok (.invokestatic 18, 3) := by decide +kernel
theorem dX3_put_15 : decode cX3_put 15 = .ok (.aload_n 0, 1) := by decide +kernel
theorem dX3_put_16 : decode cX3_put 16 = .ok (.getfield 9, 3) := by decide +kernel
theorem dX3_put_19 : decode cX3_put 19 = .ok (.iload_n 1, 1) := by decide +kernel
theorem dX3_put_20 : decode cX3_put 20 = .ok (.iload 4, 2) := by decide +kernel
theorem dX3_put_22 : decode cX3_put 22 = .ok (.iastore, 1) := by decide +kernel
theorem dX3_put_23 : decode cX3_put 23 = .ok (.return_, 1) := by decide +kernel
theorem dX3_byteOf_0 : decode cX3_byteOf 0 = .ok (.aload_n 0, 1) := by decide +kernel
theorem dX3_byteOf_1 : decode cX3_byteOf 1 = .ok (.getfield 15, 3) := by decide +kernel
theorem dX3_byteOf_4 : decode cX3_byteOf 4 = .ok (.iload_n 1, 1) := by decide +kernel
theorem dX3_byteOf_5 : decode cX3_byteOf 5 = .ok (.bipush 24, 2) := by decide +kernel
theorem dX3_byteOf_7 : decode cX3_byteOf 7 = .ok (.imul, 1) := by decide +kernel
theorem dX3_byteOf_8 : decode cX3_byteOf 8 = .ok (.iload_n 2, 1) := by decide +kernel
theorem dX3_byteOf_9 : decode cX3_byteOf 9 = .ok (.iadd, 1) := by decide +kernel
theorem dX3_byteOf_10 : decode cX3_byteOf 10 = .ok (.iaload, 1) := by decide +kernel
theorem dX3_byteOf_11 : decode cX3_byteOf 11 = .ok (.ireturn, 1) := by decide +kernel
theorem dX3_copyFrom_0 : decode cX3_copyFrom 0 = .ok (.aload_n 1, 1) := by decide +kernel
theorem dX3_copyFrom_1 : decode cX3_copyFrom 1 = .ok (.getfield 9, 3) := by decide +kernel
theorem dX3_copyFrom_4 : decode cX3_copyFrom 4 = .ok (.iconst 0, 1) := by decide +kernel
theorem dX3_copyFrom_5 : decode cX3_copyFrom 5 = .ok (.aload_n 0, 1) := by decide +kernel
theorem dX3_copyFrom_6 : decode cX3_copyFrom 6 = .ok (.getfield 9, 3) := by decide +kernel
theorem dX3_copyFrom_9 : decode cX3_copyFrom 9 = .ok (.iconst 0, 1) := by decide +kernel
theorem dX3_copyFrom_10 : decode cX3_copyFrom 10 = .ok (.aload_n 0, 1) := by decide +kernel
theorem dX3_copyFrom_11 : decode cX3_copyFrom 11 = .ok (.getfield 9, 3) := by decide +kernel
theorem dX3_copyFrom_14 : decode cX3_copyFrom 14 = .ok (.arraylength, 1) := by decide +kernel
theorem dX3_copyFrom_15 : decode cX3_copyFrom 15 = .ok (.invokestatic 18, 3) := by decide +kernel
theorem dX3_copyFrom_18 : decode cX3_copyFrom 18 = .ok (.aload_n 1, 1) := by decide +kernel
theorem dX3_copyFrom_19 : decode cX3_copyFrom 19 = .ok (.getfield 15, 3) := by decide +kernel
theorem dX3_copyFrom_22 : decode cX3_copyFrom 22 = .ok (.iconst 0, 1) := by decide +kernel
theorem dX3_copyFrom_23 : decode cX3_copyFrom 23 = .ok (.aload_n 0, 1) := by decide +kernel
theorem dX3_copyFrom_24 : decode cX3_copyFrom 24 = .ok (.getfield 15, 3) := by decide +kernel
theorem dX3_copyFrom_27 : decode cX3_copyFrom 27 = .ok (.iconst 0, 1) := by decide +kernel
theorem dX3_copyFrom_28 : decode cX3_copyFrom 28 = .ok (.aload_n 0, 1) := by decide +kernel
theorem dX3_copyFrom_29 : decode cX3_copyFrom 29 = .ok (.getfield 15, 3) := by decide +kernel
theorem dX3_copyFrom_32 : decode cX3_copyFrom 32 = .ok (.arraylength, 1) := by decide +kernel
theorem dX3_copyFrom_33 : decode cX3_copyFrom 33 = .ok (.invokestatic 18, 3) := by decide +kernel
theorem dX3_copyFrom_36 : decode cX3_copyFrom 36 = .ok (.return_, 1) := by decide +kernel
theorem dX4_init_0 : decode cX4_init 0 = .ok (.aload_n 0, 1) := by decide +kernel
theorem dX4_init_1 : decode cX4_init 1 = .ok (.invokespecial 3, 3) := by decide +kernel
theorem dX4_init_4 : decode cX4_init 4 = .ok (.aload_n 0, 1) := by decide +kernel
theorem dX4_init_5 : decode cX4_init 5 = .ok (.bipush 12, 2) := by decide +kernel
theorem dX4_init_7 : decode cX4_init 7 = .ok (.anewarray 9, 3) := by decide +kernel
theorem dX4_init_10 : decode cX4_init 10 = .ok (.putfield 11, 3) := by decide +kernel
theorem dX4_init_13 : decode cX4_init 13 = .ok (.iconst 0, 1) := by decide +kernel
theorem dX4_init_14 : decode cX4_init 14 = .ok (.istore_n 1, 1) := by decide +kernel
theorem dX4_init_15 : decode cX4_init 15 = .ok (.iload_n 1, 1) := by decide +kernel
theorem dX4_init_16 : decode cX4_init 16 = .ok (.aload_n 0, 1) := by decide +kernel
theorem dX4_init_17 : decode cX4_init 17 = .ok (.getfield 11, 3) := by decide +kernel
theorem dX4_init_20 : decode cX4_init 20 = .ok (.arraylength, 1) := by decide +kernel
theorem dX4_init_21 : decode cX4_init 21 = .ok (.if_icmp .ge 22, 3) := by decide +kernel
theorem dX4_init_24 : decode cX4_init 24 = .ok (.aload_n 0, 1) := by decide +kernel
theorem dX4_init_25 : decode cX4_init 25 = .ok (.getfield 11, 3) := by decide +kernel
theorem dX4_init_28 : decode cX4_init 28 = .ok (.iload_n 1, 1) := by decide +kernel
theorem dX4_init_29 : decode cX4_init 29 = .ok (.new 9, 3) := by decide +kernel
theorem dX4_init_32 : decode cX4_init 32 = .ok (.dup, 1) := by decide +kernel
theorem dX4_init_33 : decode cX4_init 33 = .ok (.invokespecial 17, 3) := by decide +kernel
theorem dX4_init_36 : decode cX4_init 36 = .ok (.aastore, 1) := by decide +kernel
theorem dX4_init_37 : decode cX4_init 37 = .ok (.iinc 1 1, 3) := by decide +kernel
theorem dX4_init_40 : decode cX4_init 40 = .ok (.goto (-25), 3) := by decide +kernel
theorem dX4_init_43 : decode cX4_init 43 = .ok (.return_, 1) := by decide +kernel
theorem dX4_layOneMore_0 : decode cX4_layOneMore 0 = .ok (.aload_n 0, 1) := by decide +kernel
theorem dX4_layOneMore_1 : decode cX4_layOneMore 1 = .ok (.getfield 18, 3) := by decide +kernel
theorem dX4_layOneMore_4 : decode cX4_layOneMore 4 = .ok (.bipush 12, 2) := by decide +kernel
theorem dX4_layOneMore_6 : decode cX4_layOneMore 6 = .ok (.if_icmp .lt 9, 3) := by decide +kernel
theorem dX4_layOneMore_9 : decode cX4_layOneMore 9 = .ok (.aload_n 0, 1) := by decide +kernel
theorem dX4_layOneMore_10 : decode cX4_layOneMore 10 = .ok (.iconst 0, 1) := by decide +kernel
theorem dX4_layOneMore_11 : decode cX4_layOneMore 11 = .ok (.invokevirtual 22, 3) := by decide +kernel
theorem dX4_layOneMore_14 : decode cX4_layOneMore 14 = .ok (.pop, 1) := by decide +kernel
theorem dX4_layOneMore_15 : decode cX4_layOneMore 15 = .ok (.aload_n 0, 1) := by decide +kernel
theorem dX4_layOneMore_16 : decode cX4_layOneMore 16 = .ok (.getfield 11, 3) := by decide +kernel
theorem dX4_layOneMore_19 : decode cX4_layOneMore 19 = .ok (.aload_n 0, 1) := by decide +kernel
theorem dX4_layOneMore_20 : decode cX4_layOneMore 20 = .ok (.getfield 18, 3) := by decide +kernel
theorem dX4_layOneMore_23 : decode cX4_layOneMore 23 = .ok (.aaload, 1) := by decide +kernel
theorem dX4_layOneMore_24 : decode cX4_layOneMore 24 = .ok (.astore_n 2, 1) := by decide +kernel
theorem dX4_layOneMore_25 : decode cX4_layOneMore 25 = .ok (.aload_n 2, 1) := by decide +kernel
theorem dX4_layOneMore_26 : decode cX4_layOneMore 26 = .ok (.iload_n 1, 1) := by decide +kernel
theorem dX4_layOneMore_27 : decode cX4_layOneMore 27 = .ok (.putfield 26, 3) := by decide +kernel
theorem dX4_layOneMore_30 : decode cX4_layOneMore 30 = .ok (.aload_n 0, 1) := by decide +kernel
theorem dX4_layOneMore_31 : decode cX4_layOneMore 31 = .ok (.dup, 1) := by decide +kernel
theorem dX4_layOneMore_32 : decode cX4_layOneMore 32 = .ok (.getfield 18, 3) := by decide +kernel
theorem dX4_layOneMore_35 : decode cX4_layOneMore 35 = .ok (.iconst 1, 1) := by decide +kernel
theorem dX4_layOneMore_36 : decode cX4_layOneMore 36 = .ok (.iadd, 1) := by decide +kernel
theorem dX4_layOneMore_37 : decode cX4_layOneMore 37 = .ok (.putfield 18, 3) := by decide +kernel
theorem dX4_layOneMore_40 : decode cX4_layOneMore 40 = .ok (.aload_n 2, 1) := by decide +kernel
theorem dX4_layOneMore_41 : decode cX4_layOneMore 41 = .ok (.areturn, 1) := by decide +kernel
theorem dX4_takeOff_0 : decode cX4_takeOff 0 = .ok (.aload_n 0, 1) := by decide +kernel
theorem dX4_takeOff_1 : decode cX4_takeOff 1 = .ok (.getfield 11, 3) := by decide +kernel
theorem dX4_takeOff_4 : decode cX4_takeOff 4 = .ok (.iload_n 1, 1) := by decide +kernel
theorem dX4_takeOff_5 : decode cX4_takeOff 5 = .ok (.aaload, 1) := by decide +kernel
theorem dX4_takeOff_6 : decode cX4_takeOff 6 = .ok (.astore_n 2, 1) := by decide +kernel
theorem dX4_takeOff_7 : decode cX4_takeOff 7 = .ok (.aload_n 0, 1) := by decide +kernel
theorem dX4_takeOff_8 : decode cX4_takeOff 8 = .ok (.dup, 1) := by decide +kernel
theorem dX4_takeOff_9 : decode cX4_takeOff 9 = .ok (.getfield 18, 3) := by decide +kernel
theorem dX4_takeOff_12 : decode cX4_takeOff 12 = .ok (.iconst 1, 1) := by decide +kernel
theorem dX4_takeOff_13 : decode cX4_takeOff 13 = .ok (.isub, 1) := by decide +kernel
theorem dX4_takeOff_14 : decode cX4_takeOff 14 = .ok (.putfield 18, 3) := by decide +kernel
theorem dX4_takeOff_17 : decode cX4_takeOff 17 = .ok (.iload_n 1, 1) := by decide +kernel
theorem dX4_takeOff_18 : decode cX4_takeOff 18 = .ok (.istore_n 3, 1) := by decide +kernel
theorem dX4_takeOff_19 : decode cX4_takeOff 19 = .ok (.iload_n 3, 1) := by decide +kernel
theorem dX4_takeOff_20 : decode cX4_takeOff 20 = .ok (.aload_n 0, 1) := by decide +kernel
theorem dX4_takeOff_21 : decode cX4_takeOff 21 = .ok (.getfield 18, 3) := by decide +kernel
theorem dX4_takeOff_24 : decode cX4_takeOff 24 = .ok (.if_icmp .ge 23, 3) := by decide +kernel
theorem dX4_takeOff_27 : decode cX4_takeOff 27 = .ok (.aload_n 0, 1) := by decide +kernel
theorem dX4_takeOff_28 : decode cX4_takeOff 28 = .ok (.getfield 11, 3) := by decide +kernel
theorem dX4_takeOff_31 : decode cX4_takeOff 31 = .ok (.iload_n 3, 1) := by decide +kernel
theorem dX4_takeOff_32 : decode cX4_takeOff 32 = .ok (.aload_n 0, 1) := by decide +kernel
theorem dX4_takeOff_33 : decode cX4_takeOff 33 = .ok (.getfield 11, 3) := by decide +kernel
theorem dX4_takeOff_36 : decode cX4_takeOff 36 = .ok (.iload_n 3, 1) := by decide +kernel
theorem dX4_takeOff_37 : decode cX4_takeOff 37 = .ok (.iconst 1, 1) := by decide +kernel
theorem dX4_takeOff_38 : decode cX4_takeOff 38 = .ok (.iadd, 1) := by decide +kernel
theorem dX4_takeOff_39 : decode cX4_takeOff 39 = .ok (.aaload, 1) := by decide +kernel
theorem dX4_takeOff_40 : decode cX4_takeOff 40 = .ok (.aastore, 1) := by decide +kernel
theorem dX4_takeOff_41 : decode cX4_takeOff 41 = .ok (.iinc 3 1, 3) := by decide +kernel
theorem dX4_takeOff_44 : decode cX4_takeOff 44 = .ok (.goto (-25), 3) := by decide +kernel
theorem dX4_takeOff_47 : decode cX4_takeOff 47 = .ok (.aload_n 0, 1) := by decide +kernel
theorem dX4_takeOff_48 : decode cX4_takeOff 48 = .ok (.getfield 11, 3) := by decide +kernel
theorem dX4_takeOff_51 : decode cX4_takeOff 51 = .ok (.aload_n 0, 1) := by decide +kernel
theorem dX4_takeOff_52 : decode cX4_takeOff 52 = .ok (.getfield 18, 3) := by decide +kernel
theorem dX4_takeOff_55 : decode cX4_takeOff 55 = .ok (.aload_n 2, 1) := by decide +kernel
theorem dX4_takeOff_56 : decode cX4_takeOff 56 = .ok (.aastore, 1) := by decide +kernel
theorem dX4_takeOff_57 : decode cX4_takeOff 57 = .ok (.aload_n 2, 1) := by decide +kernel
theorem dX4_takeOff_58 : decode cX4_takeOff 58 = .ok (.areturn, 1) := by decide +kernel
theorem dX4_repeat_0 : decode cX4_repeat 0 = .ok (.aload_n 0, 1) := by decide +kernel
theorem dX4_repeat_1 : decode cX4_repeat 1 = .ok (.getfield 11, 3) := by decide +kernel
theorem dX4_repeat_4 : decode cX4_repeat 4 = .ok (.aload_n 0, 1) := by decide +kernel
theorem dX4_repeat_5 : decode cX4_repeat 5 = .ok (.getfield 18, 3) := by decide +kernel
theorem dX4_repeat_8 : decode cX4_repeat 8 = .ok (.aaload, 1) := by decide +kernel
theorem dX4_repeat_9 : decode cX4_repeat 9 = .ok (.astore_n 2, 1) := by decide +kernel
theorem dX4_repeat_10 : decode cX4_repeat 10 = .ok (.aload_n 2, 1) := by decide +kernel
theorem dX4_repeat_11 : decode cX4_repeat 11 = .ok (.aload_n 0, 1) := by decide +kernel
theorem dX4_repeat_12 : decode cX4_repeat 12 = .ok (.getfield 11, 3) := by decide +kernel
theorem dX4_repeat_15 : decode cX4_repeat 15 = .ok (.iload_n 1, 1) := by decide +kernel
theorem dX4_repeat_16 : decode cX4_repeat 16 = .ok (.aaload, 1) := by decide +kernel
theorem dX4_repeat_17 : decode cX4_repeat 17 = .ok (.invokevirtual 29, 3) := by decide +kernel
theorem dX4_repeat_20 : decode cX4_repeat 20 = .ok (.aload_n 0, 1) := by decide +kernel
theorem dX4_repeat_21 : decode cX4_repeat 21 = .ok (.getfield 18, 3) := by decide +kernel
theorem dX4_repeat_24 : decode cX4_repeat 24 = .ok (.istore_n 3, 1) := by decide +kernel
theorem dX4_repeat_25 : decode cX4_repeat 25 = .ok (.iload_n 3, 1) := by decide +kernel
theorem dX4_repeat_26 : decode cX4_repeat 26 = .ok (.iload_n 1, 1) := by decide +kernel
theorem dX4_repeat_27 : decode cX4_repeat 27 = .ok (.iconst 1, 1) := by decide +kernel
theorem dX4_repeat_28 : decode cX4_repeat 28 = .ok (.iadd, 1) := by decide +kernel
theorem dX4_repeat_29 : decode cX4_repeat 29 = .ok (.if_icmp .le 23, 3) := by decide +kernel
theorem dX4_repeat_32 : decode cX4_repeat 32 = .ok (.aload_n 0, 1) := by decide +kernel
theorem dX4_repeat_33 : decode cX4_repeat 33 = .ok (.getfield 11, 3) := by decide +kernel
theorem dX4_repeat_36 : decode cX4_repeat 36 = .ok (.iload_n 3, 1) := by decide +kernel
theorem dX4_repeat_37 : decode cX4_repeat 37 = .ok (.aload_n 0, 1) := by decide +kernel
theorem dX4_repeat_38 : decode cX4_repeat 38 = .ok (.getfield 11, 3) := by decide +kernel
theorem dX4_repeat_41 : decode cX4_repeat 41 = .ok (.iload_n 3, 1) := by decide +kernel
theorem dX4_repeat_42 : decode cX4_repeat 42 = .ok (.iconst 1, 1) := by decide +kernel
theorem dX4_repeat_43 : decode cX4_repeat 43 = .ok (.isub, 1) := by decide +kernel
theorem dX4_repeat_44 : decode cX4_repeat 44 = .ok (.aaload, 1) := by decide +kernel
theorem dX4_repeat_45 : decode cX4_repeat 45 = .ok (.aastore, 1) := by decide +kernel
theorem dX4_repeat_46 : decode cX4_repeat 46 = .ok (.iinc 3 (-1), 3) := by decide +kernel
theorem dX4_repeat_49 : decode cX4_repeat 49 = .ok (.goto (-24), 3) := by decide +kernel
theorem dX4_repeat_52 : decode cX4_repeat 52 = .ok (.aload_n 0, 1) := by decide +kernel
theorem dX4_repeat_53 : decode cX4_repeat 53 = .ok (.getfield 11, 3) := by decide +kernel
theorem dX4_repeat_56 : decode cX4_repeat 56 = .ok (.iload_n 1, 1) := by decide +kernel
theorem dX4_repeat_57 : decode cX4_repeat 57 = .ok (.iconst 1, 1) := by decide +kernel
theorem dX4_repeat_58 : decode cX4_repeat 58 = .ok (.iadd, 1) := by decide +kernel
theorem dX4_repeat_59 : decode cX4_repeat 59 = .ok (.aload_n 2, 1) := by decide +kernel
theorem dX4_repeat_60 : decode cX4_repeat 60 = .ok (.aastore, 1) := by decide +kernel
theorem dX4_repeat_61 : decode cX4_repeat 61 = .ok (.aload_n 0, 1) := by decide +kernel
theorem dX4_repeat_62 : decode cX4_repeat 62 = .ok (.dup, 1) := by decide +kernel
theorem dX4_repeat_63 : decode cX4_repeat 63 = .ok (.getfield 18, 3) := by decide +kernel
theorem dX4_repeat_66 : decode cX4_repeat 66 = .ok (.iconst 1, 1) := by decide +kernel
theorem dX4_repeat_67 : decode cX4_repeat 67 = .ok (.iadd, 1) := by decide +kernel
theorem dX4_repeat_68 : decode cX4_repeat 68 = .ok (.putfield 18, 3) := by decide +kernel
theorem dX4_repeat_71 : decode cX4_repeat 71 = .ok (.return_, 1) := by decide +kernel
theorem dX4_eldestOver_0 : decode cX4_eldestOver 0 = .ok (.iconst 0, 1) := by decide +kernel
theorem dX4_eldestOver_1 : decode cX4_eldestOver 1 = .ok (.istore_n 2, 1) := by decide +kernel
theorem dX4_eldestOver_2 : decode cX4_eldestOver 2 = .ok (.iload_n 2, 1) := by decide +kernel
theorem dX4_eldestOver_3 : decode cX4_eldestOver 3 = .ok (.aload_n 0, 1) := by decide +kernel
theorem dX4_eldestOver_4 : decode cX4_eldestOver 4 = .ok (.getfield 18, 3) := by decide +kernel
theorem dX4_eldestOver_7 : decode cX4_eldestOver 7 = .ok (.if_icmp .ge 24, 3) := by decide +kernel
theorem dX4_eldestOver_10 : decode cX4_eldestOver 10 = .ok (.aload_n 0, 1) := by decide +kernel
theorem dX4_eldestOver_11 : decode cX4_eldestOver 11 = .ok (.getfield 11, 3) := by decide +kernel
theorem dX4_eldestOver_14 : decode cX4_eldestOver 14 = .ok (.iload_n 2, 1) := by decide +kernel
theorem dX4_eldestOver_15 : decode cX4_eldestOver 15 = .ok (.aaload, 1) := by decide +kernel
theorem dX4_eldestOver_16 : decode cX4_eldestOver 16 = .ok (.getfield 26, 3) := by decide +kernel
theorem dX4_eldestOver_19 : decode cX4_eldestOver 19 = .ok (.iload_n 1, 1) := by decide +kernel
theorem dX4_eldestOver_20 : decode cX4_eldestOver 20 = .ok (.if_icmp .gt 5, 3) := by decide +kernel
theorem dX4_eldestOver_23 : decode cX4_eldestOver 23 = .ok (.iload_n 2, 1) := by decide +kernel
theorem dX4_eldestOver_24 : decode cX4_eldestOver 24 = .ok (.ireturn, 1) := by decide +kernel
theorem dX4_eldestOver_25 : decode cX4_eldestOver 25 = .ok (.iinc 2 1, 3) := by decide +kernel
theorem dX4_eldestOver_28 : decode cX4_eldestOver 28 = .ok (.goto (-26), 3) := by decide +kernel
theorem dX4_eldestOver_31 : decode cX4_eldestOver 31 = .ok (.iconst (-1), 1) := by decide +kernel
theorem dX4_eldestOver_32 : decode cX4_eldestOver 32 = .ok (.ireturn, 1) := by decide +kernel
theorem dX4_copyFrom_0 : decode cX4_copyFrom 0 = .ok (.aload_n 0, 1) := by decide +kernel
theorem dX4_copyFrom_1 : decode cX4_copyFrom 1 = .ok (.aload_n 1, 1) := by decide +kernel
theorem dX4_copyFrom_2 : decode cX4_copyFrom 2 = .ok (.getfield 18, 3) := by decide +kernel
theorem dX4_copyFrom_5 : decode cX4_copyFrom 5 = .ok (.putfield 18, 3) := by decide +kernel
theorem dX4_copyFrom_8 : decode cX4_copyFrom 8 = .ok (.iconst 0, 1) := by decide +kernel
theorem dX4_copyFrom_9 : decode cX4_copyFrom 9 = .ok (.istore_n 2, 1) := by decide +kernel
theorem dX4_copyFrom_10 : decode cX4_copyFrom 10 = .ok (.iload_n 2, 1) := by decide +kernel
theorem dX4_copyFrom_11 : decode cX4_copyFrom 11 = .ok (.aload_n 0, 1) := by decide +kernel
theorem dX4_copyFrom_12 : decode cX4_copyFrom 12 = .ok (.getfield 18, 3) := by decide +kernel
theorem dX4_copyFrom_15 : decode cX4_copyFrom 15 = .ok (.if_icmp .ge 24, 3) := by decide +kernel
theorem dX4_copyFrom_18 : decode cX4_copyFrom 18 = .ok (.aload_n 0, 1) := by decide +kernel
theorem dX4_copyFrom_19 : decode cX4_copyFrom 19 = .ok (.getfield 11, 3) := by decide +kernel
theorem dX4_copyFrom_22 : decode cX4_copyFrom 22 = .ok (.iload_n 2, 1) := by decide +kernel
theorem dX4_copyFrom_23 : decode cX4_copyFrom 23 = .ok (.aaload, 1) := by decide +kernel
theorem dX4_copyFrom_24 : decode cX4_copyFrom 24 = .ok (.aload_n 1, 1) := by decide +kernel
theorem dX4_copyFrom_25 : decode cX4_copyFrom 25 = .ok (.getfield 11, 3) := by decide +kernel
theorem dX4_copyFrom_28 : decode cX4_copyFrom 28 = .ok (.iload_n 2, 1) := by decide +kernel
theorem dX4_copyFrom_29 : decode cX4_copyFrom 29 = .ok (.aaload, 1) := by decide +kernel
theorem dX4_copyFrom_30 : decode cX4_copyFrom 30 = .ok (.invokevirtual 29, 3) := by decide +kernel
theorem dX4_copyFrom_33 : decode cX4_copyFrom 33 = .ok (.iinc 2 1, 3) := by decide +kernel
theorem dX4_copyFrom_36 : decode cX4_copyFrom 36 = .ok (.goto (-26), 3) := by decide +kernel
theorem dX4_copyFrom_39 : decode cX4_copyFrom 39 = .ok (.return_, 1) := by decide +kernel
theorem dX5_init_0 : decode cX5_init 0 = .ok (.aload_n 0, 1) := by decide +kernel
theorem dX5_init_1 : decode cX5_init 1 = .ok (.invokespecial 1, 3) := by decide +kernel
theorem dX5_init_4 : decode cX5_init 4 = .ok (.aload_n 0, 1) := by decide +kernel
theorem dX5_init_5 : decode cX5_init 5 = .ok (.new 7, 3) := by decide +kernel
theorem dX5_init_8 : decode cX5_init 8 = .ok (.dup, 1) := by decide +kernel
theorem dX5_init_9 : decode cX5_init 9 = .ok (.invokespecial 9, 3) := by decide +kernel
theorem dX5_init_12 : decode cX5_init 12 = .ok (.putfield 10, 3) := by decide +kernel
theorem dX5_init_15 : decode cX5_init 15 = .ok (.aload_n 0, 1) := by decide +kernel
theorem dX5_init_16 : decode cX5_init 16 = .ok (.iconst 2, 1) := by decide +kernel
theorem dX5_init_17 : decode cX5_init 17 = .ok (.anewarray 7, 3) := by decide +kernel
theorem dX5_init_20 : decode cX5_init 20 = .ok (.putfield 16, 3) := by decide +kernel
theorem dX5_init_23 : decode cX5_init 23 = .ok (.return_, 1) := by decide +kernel
theorem dX5_draft_0 : decode cX5_draft 0 = .ok (.iload_n 1, 1) := by decide +kernel
theorem dX5_draft_1 : decode cX5_draft 1 = .ok (.invokestatic 20, 3) := by decide +kernel
theorem dX5_draft_4 : decode cX5_draft 4 = .ok (.ifCond .ne 14, 3) := by decide +kernel
theorem dX5_draft_7 : decode cX5_draft 7 = .ok (.iload_n 2, 1) := by decide +kernel
theorem dX5_draft_8 : decode cX5_draft 8 = .ok (.iconst 1, 1) := by decide +kernel
theorem dX5_draft_9 : decode cX5_draft 9 = .ok (.if_icmp .lt 9, 3) := by decide +kernel
theorem dX5_draft_12 : decode cX5_draft 12 = .ok (.iload_n 2, 1) := by decide +kernel
theorem dX5_draft_13 : decode cX5_draft 13 = .ok (.bipush 8, 2) := by decide +kernel
theorem dX5_draft_15 : decode cX5_draft 15 = .ok (.if_icmp .le 5, 3) := by decide +kernel
theorem dX5_draft_18 : decode cX5_draft 18 = .ok (.iconst (-1), 1) := by decide +kernel
theorem dX5_draft_19 : decode cX5_draft 19 = .ok (.ireturn, 1) := by decide +kernel
theorem dX5_draft_20 : decode cX5_draft 20 = .ok (.aload_n 0, 1) := by decide +kernel
theorem dX5_draft_21 : decode cX5_draft 21 = .ok (.getfield 10, 3) := by decide +kernel
theorem dX5_draft_24 : decode cX5_draft 24 = .ok (.getfield 24, 3) := by decide +kernel
theorem dX5_draft_27 : decode cX5_draft 27 = .ok (.iload_n 1, 1) := by decide +kernel
theorem dX5_draft_28 : decode cX5_draft 28 = .ok (.aaload, 1) := by decide +kernel
theorem dX5_draft_29 : decode cX5_draft 29 = .ok (.astore 5, 2) := by decide +kernel
theorem dX5_draft_31 : decode cX5_draft 31 = .ok (.aload 5, 2) := by decide +kernel
theorem dX5_draft_33 : decode cX5_draft 33 = .ok (.getfield 28, 3) := by decide +kernel
theorem dX5_draft_36 : decode cX5_draft 36 = .ok (.iload_n 2, 1) := by decide +kernel
theorem dX5_draft_37 : decode cX5_draft 37 = .ok (.iadd, 1) := by decide +kernel
theorem dX5_draft_38 : decode cX5_draft 38 = .ok (.bipush 24, 2) := by decide +kernel
theorem dX5_draft_40 : decode cX5_draft 40 = .ok (.if_icmp .le 6, 3) := by decide +kernel
theorem dX5_draft_43 : decode cX5_draft 43 = .ok (.bipush (-3), 2) := by decide +kernel
theorem dX5_draft_45 : decode cX5_draft 45 = .ok (.ireturn, 1) := by decide +kernel
theorem dX5_draft_46 : decode cX5_draft 46 = .ok (.aload 5, 2) := by decide +kernel
theorem dX5_draft_48 : decode cX5_draft 48 = .ok (.iload_n 2, 1) := by decide +kernel
theorem dX5_draft_49 : decode cX5_draft 49 = .ok (.lload_n 3, 1) := by decide +kernel
theorem dX5_draft_50 : decode cX5_draft 50 = .ok (.invokevirtual 34, 3) := by decide +kernel
theorem dX5_draft_53 : decode cX5_draft 53 = .ok (.aload 5, 2) := by decide +kernel
theorem dX5_draft_55 : decode cX5_draft 55 = .ok (.getfield 28, 3) := by decide +kernel
theorem dX5_draft_58 : decode cX5_draft 58 = .ok (.ireturn, 1) := by decide +kernel
theorem dX5_offer_0 : decode cX5_offer 0 = .ok (.iload_n 1, 1) := by decide +kernel
theorem dX5_offer_1 : decode cX5_offer 1 = .ok (.invokestatic 20, 3) := by decide +kernel
theorem dX5_offer_4 : decode cX5_offer 4 = .ok (.ifCond .eq 5, 3) := by decide +kernel
theorem dX5_offer_7 : decode cX5_offer 7 = .ok (.iconst (-1), 1) := by decide +kernel
theorem dX5_offer_8 : decode cX5_offer 8 = .ok (.ireturn, 1) := by decide +kernel
theorem dX5_offer_9 : decode cX5_offer 9 = .ok (.aload_n 0, 1) := by decide +kernel
theorem dX5_offer_10 : decode cX5_offer 10 = .ok (.getfield 10, 3) := by decide +kernel
theorem dX5_offer_13 : decode cX5_offer 13 = .ok (.getfield 24, 3) := by decide +kernel
theorem dX5_offer_16 : decode cX5_offer 16 = .ok (.iload_n 1, 1) := by decide +kernel
theorem dX5_offer_17 : decode cX5_offer 17 = .ok (.aaload, 1) := by decide +kernel
theorem dX5_offer_18 : decode cX5_offer 18 = .ok (.astore_n 2, 1) := by decide +kernel
theorem dX5_offer_19 : decode cX5_offer 19 = .ok (.aload_n 2, 1) := by decide +kernel
theorem dX5_offer_20 : decode cX5_offer 20 = .ok (.getfield 28, 3) := by decide +kernel
theorem dX5_offer_23 : decode cX5_offer 23 = .ok (.ifCond .ne 6, 3) := by decide +kernel
theorem dX5_offer_26 : decode cX5_offer 26 = .ok (.bipush (-2), 2) := by decide +kernel
theorem dX5_offer_28 : decode cX5_offer 28 = .ok (.ireturn, 1) := by decide +kernel
theorem dX5_offer_29 : decode cX5_offer 29 = .ok (.aload_n 2, 1) := by decide +kernel
theorem dX5_offer_30 : decode cX5_offer 30 = .ok (.invokevirtual 38, 3) := by decide +kernel
theorem dX5_offer_33 : decode cX5_offer 33 = .ok (.bipush 16, 2) := by decide +kernel
theorem dX5_offer_35 : decode cX5_offer 35 = .ok (.if_icmp .ge 12, 3) := by decide +kernel
theorem dX5_offer_38 : decode cX5_offer 38 = .ok (.aload_n 2, 1) := by decide +kernel
theorem dX5_offer_39 : decode cX5_offer 39 = .ok (.getfield 42, 3) := by decide +kernel
theorem dX5_offer_42 : decode cX5_offer 42 = .ok (.bipush 60, 2) := by decide +kernel
theorem dX5_offer_44 : decode cX5_offer 44 = .ok (.if_icmp .lt 6, 3) := by decide +kernel
theorem dX5_offer_47 : decode cX5_offer 47 = .ok (.bipush (-3), 2) := by decide +kernel
theorem dX5_offer_49 : decode cX5_offer 49 = .ok (.ireturn, 1) := by decide +kernel
theorem dX5_offer_50 : decode cX5_offer 50 = .ok (.aload_n 2, 1) := by decide +kernel
theorem dX5_offer_51 : decode cX5_offer 51 = .ok (.invokevirtual 45, 3) := by decide +kernel
theorem dX5_offer_54 : decode cX5_offer 54 = .ok (.aload_n 2, 1) := by decide +kernel
theorem dX5_offer_55 : decode cX5_offer 55 = .ok (.invokevirtual 38, 3) := by decide +kernel
theorem dX5_offer_58 : decode cX5_offer 58 = .ok (.ireturn, 1) := by decide +kernel
theorem dX5_check_0 : decode cX5_check 0 = .ok (.iload_n 1, 1) := by decide +kernel
theorem dX5_check_1 : decode cX5_check 1 = .ok (.invokestatic 20, 3) := by decide +kernel
theorem dX5_check_4 : decode cX5_check 4 = .ok (.ifCond .ne 12, 3) := by decide +kernel
theorem dX5_check_7 : decode cX5_check 7 = .ok (.iload_n 2, 1) := by decide +kernel
theorem dX5_check_8 : decode cX5_check 8 = .ok (.ifCond .lt 8, 3) := by decide +kernel
theorem dX5_check_11 : decode cX5_check 11 = .ok (.iload_n 2, 1) := by decide +kernel
theorem dX5_check_12 : decode cX5_check 12 = .ok (.iconst 1, 1) := by decide +kernel
theorem dX5_check_13 : decode cX5_check 13 = .ok (.if_icmp .le 7, 3) := by decide +kernel
theorem dX5_check_16 : decode cX5_check 16 = .ok (.ldc2_w 48, 3) := by decide +kernel
theorem dX5_check_19 : decode cX5_check 19 = .ok (.lreturn, 1) := by decide +kernel
theorem dX5_check_20 : decode cX5_check 20 = .ok (.aload_n 0, 1) := by decide +kernel
theorem dX5_check_21 : decode cX5_check 21 = .ok (.getfield 10, 3) := by decide +kernel
theorem dX5_check_24 : decode cX5_check 24 = .ok (.getfield 24, 3) := by decide +kernel
theorem dX5_check_27 : decode cX5_check 27 = .ok (.iload_n 1, 1) := by decide +kernel
theorem dX5_check_28 : decode cX5_check 28 = .ok (.aaload, 1) := by decide +kernel
theorem dX5_check_29 : decode cX5_check 29 = .ok (.astore_n 3, 1) := by decide +kernel
theorem dX5_check_30 : decode cX5_check 30 = .ok (.iload_n 2, 1) := by decide +kernel
theorem dX5_check_31 : decode cX5_check 31 = .ok (.ifCond .ne 8, 3) := by decide +kernel
theorem dX5_check_34 : decode cX5_check 34 = .ok (.bipush 32, 2) := by decide +kernel
theorem dX5_check_36 : decode cX5_check 36 = .ok (.goto 5, 3) := by decide +kernel
theorem dX5_check_39 : decode cX5_check 39 = .ok (.bipush 16, 2) := by decide +kernel
theorem dX5_check_41 : decode cX5_check 41 = .ok (.aload_n 3, 1) := by decide +kernel
theorem dX5_check_42 : decode cX5_check 42 = .ok (.getfield 50, 3) := by decide +kernel
theorem dX5_check_45 : decode cX5_check 45 = .ok (.iconst 0, 1) := by decide +kernel
theorem dX5_check_46 : decode cX5_check 46 = .ok (.aload_n 3, 1) := by decide +kernel
theorem dX5_check_47 : decode cX5_check 47 = .ok (.getfield 28, 3) := by decide +kernel
theorem dX5_check_50 : decode cX5_check 50 = .ok (.invokestatic 54, 3) := by decide +kernel
theorem dX5_check_53 : decode cX5_check 53 = .ok (.lreturn, 1) := by decide +kernel
theorem dX5_set_0 : decode cX5_set 0 = .ok (.iload_n 1, 1) := by decide +kernel
theorem dX5_set_1 : decode cX5_set 1 = .ok (.tableswitch 98 0 2 #[27, 51, 75], 27) := by decide +kernel
theorem dX5_set_28 : decode cX5_set 28 = .ok (.iload_n 2, 1) := by decide +kernel
theorem dX5_set_29 : decode cX5_set 29 = .ok (.iconst 1, 1) := by decide +kernel
theorem dX5_set_30 : decode cX5_set 30 = .ok (.if_icmp .lt 9, 3) := by decide +kernel
theorem dX5_set_33 : decode cX5_set 33 = .ok (.iload_n 2, 1) := by decide +kernel
theorem dX5_set_34 : decode cX5_set 34 = .ok (.bipush 6, 2) := by decide +kernel
theorem dX5_set_36 : decode cX5_set 36 = .ok (.if_icmp .le 7, 3) := by decide +kernel
theorem dX5_set_39 : decode cX5_set 39 = .ok (.iconst (-1), 1) := by decide +kernel
theorem dX5_set_40 : decode cX5_set 40 = .ok (.goto 11, 3) := by decide +kernel
theorem dX5_set_43 : decode cX5_set 43 = .ok (.aload_n 0, 1) := by decide +kernel
theorem dX5_set_44 : decode cX5_set 44 = .ok (.getfield 10, 3) := by decide +kernel
theorem dX5_set_47 : decode cX5_set 47 = .ok (.iload_n 2, 1) := by decide +kernel
theorem dX5_set_48 : decode cX5_set 48 = .ok (.invokevirtual 58, 3) := by decide +kernel
theorem dX5_set_51 : decode cX5_set 51 = .ok (.ireturn, 1) := by decide +kernel
theorem dX5_set_52 : decode cX5_set 52 = .ok (.iload_n 2, 1) := by decide +kernel
theorem dX5_set_53 : decode cX5_set 53 = .ok (.iconst 1, 1) := by decide +kernel
theorem dX5_set_54 : decode cX5_set 54 = .ok (.if_icmp .lt 9, 3) := by decide +kernel
theorem dX5_set_57 : decode cX5_set 57 = .ok (.iload_n 2, 1) := by decide +kernel
theorem dX5_set_58 : decode cX5_set 58 = .ok (.bipush 60, 2) := by decide +kernel
theorem dX5_set_60 : decode cX5_set 60 = .ok (.if_icmp .le 7, 3) := by decide +kernel
theorem dX5_set_63 : decode cX5_set 63 = .ok (.iconst (-1), 1) := by decide +kernel
theorem dX5_set_64 : decode cX5_set 64 = .ok (.goto 11, 3) := by decide +kernel
theorem dX5_set_67 : decode cX5_set 67 = .ok (.aload_n 0, 1) := by decide +kernel
theorem dX5_set_68 : decode cX5_set 68 = .ok (.getfield 10, 3) := by decide +kernel
theorem dX5_set_71 : decode cX5_set 71 = .ok (.iload_n 2, 1) := by decide +kernel
theorem dX5_set_72 : decode cX5_set 72 = .ok (.invokevirtual 62, 3) := by decide +kernel
theorem dX5_set_75 : decode cX5_set 75 = .ok (.ireturn, 1) := by decide +kernel
theorem dX5_set_76 : decode cX5_set 76 = .ok (.iload_n 2, 1) := by decide +kernel
theorem dX5_set_77 : decode cX5_set 77 = .ok (.ifCond .lt 9, 3) := by decide +kernel
theorem dX5_set_80 : decode cX5_set 80 = .ok (.iload_n 2, 1) := by decide +kernel
theorem dX5_set_81 : decode cX5_set 81 = .ok (.bipush 9, 2) := by decide +kernel
theorem dX5_set_83 : decode cX5_set 83 = .ok (.if_icmp .le 7, 3) := by decide +kernel
theorem dX5_set_86 : decode cX5_set 86 = .ok (.iconst (-1), 1) := by decide +kernel
theorem dX5_set_87 : decode cX5_set 87 = .ok (.goto 11, 3) := by decide +kernel
theorem dX5_set_90 : decode cX5_set 90 = .ok (.aload_n 0, 1) := by decide +kernel
theorem dX5_set_91 : decode cX5_set 91 = .ok (.getfield 10, 3) := by decide +kernel
theorem dX5_set_94 : decode cX5_set 94 = .ok (.iload_n 2, 1) := by decide +kernel
theorem dX5_set_95 : decode cX5_set 95 = .ok (.invokevirtual 65, 3) := by decide +kernel
theorem dX5_set_98 : decode cX5_set 98 = .ok (.ireturn, 1) := by decide +kernel
theorem dX5_set_99 : decode cX5_set 99 = .ok (.iconst (-1), 1) := by decide +kernel
theorem dX5_set_100 : decode cX5_set 100 = .ok (.ireturn, 1) := by decide +kernel
theorem dX5_tick_0 : decode cX5_tick 0 = .ok (.iload_n 1, 1) := by decide +kernel
theorem dX5_tick_1 : decode cX5_tick 1 = .ok (.iconst 1, 1) := by decide +kernel
theorem dX5_tick_2 : decode cX5_tick 2 = .ok (.if_icmp .lt 10, 3) := by decide +kernel
theorem dX5_tick_5 : decode cX5_tick 5 = .ok (.iload_n 1, 1) := by decide +kernel
theorem dX5_tick_6 : decode cX5_tick 6 = .ok (.sipush 200, 3) := by decide +kernel
theorem dX5_tick_9 : decode cX5_tick 9 = .ok (.if_icmp .le 5, 3) := by decide +kernel
theorem dX5_tick_12 : decode cX5_tick 12 = .ok (.iconst (-1), 1) := by decide +kernel
theorem dX5_tick_13 : decode cX5_tick 13 = .ok (.ireturn, 1) := by decide +kernel
theorem dX5_tick_14 : decode cX5_tick 14 = .ok (.aload_n 0, 1) := by decide +kernel
theorem dX5_tick_15 : decode cX5_tick 15 = .ok (.getfield 10, 3) := by decide +kernel
theorem dX5_tick_18 : decode cX5_tick 18 = .ok (.getfield 68, 3) := by decide +kernel
theorem dX5_tick_21 : decode cX5_tick 21 = .ok (.iload_n 1, 1) := by decide +kernel
theorem dX5_tick_22 : decode cX5_tick 22 = .ok (.iadd, 1) := by decide +kernel
theorem dX5_tick_23 : decode cX5_tick 23 = .ok (.sipush 20000, 3) := by decide +kernel
theorem dX5_tick_26 : decode cX5_tick 26 = .ok (.if_icmp .le 6, 3) := by decide +kernel
theorem dX5_tick_29 : decode cX5_tick 29 = .ok (.bipush (-3), 2) := by decide +kernel
theorem dX5_tick_31 : decode cX5_tick 31 = .ok (.ireturn, 1) := by decide +kernel
theorem dX5_tick_32 : decode cX5_tick 32 = .ok (.iconst 0, 1) := by decide +kernel
theorem dX5_tick_33 : decode cX5_tick 33 = .ok (.istore_n 2, 1) := by decide +kernel
theorem dX5_tick_34 : decode cX5_tick 34 = .ok (.iconst 0, 1) := by decide +kernel
theorem dX5_tick_35 : decode cX5_tick 35 = .ok (.istore_n 3, 1) := by decide +kernel
theorem dX5_tick_36 : decode cX5_tick 36 = .ok (.iload_n 3, 1) := by decide +kernel
theorem dX5_tick_37 : decode cX5_tick 37 = .ok (.iload_n 1, 1) := by decide +kernel
theorem dX5_tick_38 : decode cX5_tick 38 = .ok (.if_icmp .ge 19, 3) := by decide +kernel
theorem dX5_tick_41 : decode cX5_tick 41 = .ok (.iload_n 2, 1) := by decide +kernel
theorem dX5_tick_42 : decode cX5_tick 42 = .ok (.aload_n 0, 1) := by decide +kernel
theorem dX5_tick_43 : decode cX5_tick 43 = .ok (.getfield 10, 3) := by decide +kernel
theorem dX5_tick_46 : decode cX5_tick 46 = .ok (.invokevirtual 71, 3) := by decide +kernel
theorem dX5_tick_49 : decode cX5_tick 49 = .ok (.iadd, 1) := by decide +kernel
theorem dX5_tick_50 : decode cX5_tick 50 = .ok (.istore_n 2, 1) := by decide +kernel
theorem dX5_tick_51 : decode cX5_tick 51 = .ok (.iinc 3 1, 3) := by decide +kernel
theorem dX5_tick_54 : decode cX5_tick 54 = .ok (.goto (-18), 3) := by decide +kernel
theorem dX5_tick_57 : decode cX5_tick 57 = .ok (.iload_n 2, 1) := by decide +kernel
theorem dX5_tick_58 : decode cX5_tick 58 = .ok (.ireturn, 1) := by decide +kernel
theorem dX5_settle_0 : decode cX5_settle 0 = .ok (.iload_n 1, 1) := by decide +kernel
theorem dX5_settle_1 : decode cX5_settle 1 = .ok (.iconst 1, 1) := by decide +kernel
theorem dX5_settle_2 : decode cX5_settle 2 = .ok (.if_icmp .lt 10, 3) := by decide +kernel
theorem dX5_settle_5 : decode cX5_settle 5 = .ok (.iload_n 1, 1) := by decide +kernel
theorem dX5_settle_6 : decode cX5_settle 6 = .ok (.sipush 400, 3) := by decide +kernel
theorem dX5_settle_9 : decode cX5_settle 9 = .ok (.if_icmp .le 5, 3) := by decide +kernel
theorem dX5_settle_12 : decode cX5_settle 12 = .ok (.iconst (-1), 1) := by decide +kernel
theorem dX5_settle_13 : decode cX5_settle 13 = .ok (.ireturn, 1) := by decide +kernel
theorem dX5_settle_14 : decode cX5_settle 14 = .ok (.aload_n 0, 1) := by decide +kernel
theorem dX5_settle_15 : decode cX5_settle 15 = .ok (.getfield 10, 3) := by decide +kernel
theorem dX5_settle_18 : decode cX5_settle 18 = .ok (.getfield 68, 3) := by decide +kernel
theorem dX5_settle_21 : decode cX5_settle 21 = .ok (.iload_n 1, 1) := by decide +kernel
theorem dX5_settle_22 : decode cX5_settle 22 = .ok (.iadd, 1) := by decide +kernel
theorem dX5_settle_23 : decode cX5_settle 23 = .ok (.sipush 20000, 3) := by decide +kernel
theorem dX5_settle_26 : decode cX5_settle 26 = .ok (.if_icmp .le 6, 3) := by decide +kernel
theorem dX5_settle_29 : decode cX5_settle 29 = .ok (.bipush (-3), 2) := by decide +kernel
theorem dX5_settle_31 : decode cX5_settle 31 = .ok (.ireturn, 1) := by decide +kernel
theorem dX5_settle_32 : decode cX5_settle 32 = .ok (.iconst 0, 1) := by decide +kernel
theorem dX5_settle_33 : decode cX5_settle 33 = .ok (.istore_n 2, 1) := by decide +kernel
theorem dX5_settle_34 : decode cX5_settle 34 = .ok (.iload_n 2, 1) := by decide +kernel
theorem dX5_settle_35 : decode cX5_settle 35 = .ok (.iload_n 1, 1) := by decide +kernel
theorem dX5_settle_36 : decode cX5_settle 36 = .ok (.if_icmp .ge 29, 3) := by decide +kernel
theorem dX5_settle_39 : decode cX5_settle 39 = .ok (.aload_n 0, 1) := by decide +kernel
theorem dX5_settle_40 : decode cX5_settle 40 = .ok (.getfield 10, 3) := by decide +kernel
theorem dX5_settle_43 : decode cX5_settle 43 = .ok (.invokevirtual 74, 3) := by decide +kernel
theorem dX5_settle_46 : decode cX5_settle 46 = .ok (.ifCond .eq 5, 3) := by decide +kernel
theorem dX5_settle_49 : decode cX5_settle 49 = .ok (.iload_n 2, 1) := by decide +kernel
theorem dX5_settle_50 : decode cX5_settle 50 = .ok (.ireturn, 1) := by decide +kernel
theorem dX5_settle_51 : decode cX5_settle 51 = .ok (.aload_n 0, 1) := by decide +kernel
theorem dX5_settle_52 : decode cX5_settle 52 = .ok (.getfield 10, 3) := by decide +kernel
theorem dX5_settle_55 : decode cX5_settle 55 = .ok (.invokevirtual 71, 3) := by decide +kernel
theorem dX5_settle_58 : decode cX5_settle 58 = .ok (.pop, 1) := by decide +kernel
theorem dX5_settle_59 : decode cX5_settle 59 = .ok (.iinc 2 1, 3) := by decide +kernel
theorem dX5_settle_62 : decode cX5_settle 62 = .ok (.goto (-28), 3) := by decide +kernel
theorem dX5_settle_65 : decode cX5_settle 65 = .ok (.iload_n 1, 1) := by decide +kernel
theorem dX5_settle_66 : decode cX5_settle 66 = .ok (.ireturn, 1) := by decide +kernel
theorem dX5_voids_0 : decode cX5_voids 0 = .ok (.iload_n 1, 1) := by decide +kernel
theorem dX5_voids_1 : decode cX5_voids 1 = .ok (.invokestatic 20, 3) := by decide +kernel
theorem dX5_voids_4 : decode cX5_voids 4 = .ok (.ifCond .eq 5, 3) := by decide +kernel
theorem dX5_voids_7 : decode cX5_voids 7 = .ok (.iconst (-1), 1) := by decide +kernel
theorem dX5_voids_8 : decode cX5_voids 8 = .ok (.ireturn, 1) := by decide +kernel
theorem dX5_voids_9 : decode cX5_voids 9 = .ok (.aload_n 0, 1) := by decide +kernel
theorem dX5_voids_10 : decode cX5_voids 10 = .ok (.getfield 10, 3) := by decide +kernel
theorem dX5_voids_13 : decode cX5_voids 13 = .ok (.getfield 24, 3) := by decide +kernel
theorem dX5_voids_16 : decode cX5_voids 16 = .ok (.iload_n 1, 1) := by decide +kernel
theorem dX5_voids_17 : decode cX5_voids 17 = .ok (.aaload, 1) := by decide +kernel
theorem dX5_voids_18 : decode cX5_voids 18 = .ok (.astore_n 2, 1) := by decide +kernel
theorem dX5_voids_19 : decode cX5_voids 19 = .ok (.aload_n 2, 1) := by decide +kernel
theorem dX5_voids_20 : decode cX5_voids 20 = .ok (.getfield 78, 3) := by decide +kernel
theorem dX5_voids_23 : decode cX5_voids 23 = .ok (.invokestatic 82, 3) := by decide +kernel
theorem dX5_voids_26 : decode cX5_voids 26 = .ok (.istore_n 3, 1) := by decide +kernel
theorem dX5_voids_27 : decode cX5_voids 27 = .ok (.aload_n 2, 1) := by decide +kernel
theorem dX5_voids_28 : decode cX5_voids 28 = .ok (.iconst 1, 1) := by decide +kernel
theorem dX5_voids_29 : decode cX5_voids 29 = .ok (.putfield 78, 3) := by decide +kernel
theorem dX5_voids_32 : decode cX5_voids 32 = .ok (.iload_n 3, 1) := by decide +kernel
theorem dX5_voids_33 : decode cX5_voids 33 = .ok (.ireturn, 1) := by decide +kernel
theorem dX5_bend_0 : decode cX5_bend 0 = .ok (.aload_n 0, 1) := by decide +kernel
theorem dX5_bend_1 : decode cX5_bend 1 = .ok (.iload_n 1, 1) := by decide +kernel
theorem dX5_bend_2 : decode cX5_bend 2 = .ok (.iload_n 2, 1) := by decide +kernel
theorem dX5_bend_3 : decode cX5_bend 3 = .ok (.invokevirtual 86, 3) := by decide +kernel
theorem dX5_bend_6 : decode cX5_bend 6 = .ok (.ifCond .ne 17, 3) := by decide +kernel
theorem dX5_bend_9 : decode cX5_bend 9 = .ok (.iload 4, 2) := by decide +kernel
theorem dX5_bend_11 : decode cX5_bend 11 = .ok (.iconst 1, 1) := by decide +kernel
theorem dX5_bend_12 : decode cX5_bend 12 = .ok (.if_icmp .lt 11, 3) := by decide +kernel
theorem dX5_bend_15 : decode cX5_bend 15 = .ok (.iload 4, 2) := by decide +kernel
theorem dX5_bend_17 : decode cX5_bend 17 = .ok (.sipush 255, 3) := by decide +kernel
theorem dX5_bend_20 : decode cX5_bend 20 = .ok (.if_icmp .le 5, 3) := by decide +kernel
theorem dX5_bend_23 : decode cX5_bend 23 = .ok (.iconst (-1), 1) := by decide +kernel
theorem dX5_bend_24 : decode cX5_bend 24 = .ok (.ireturn, 1) := by decide +kernel
theorem dX5_bend_25 : decode cX5_bend 25 = .ok (.aload_n 0, 1) := by decide +kernel
theorem dX5_bend_26 : decode cX5_bend 26 = .ok (.getfield 10, 3) := by decide +kernel
theorem dX5_bend_29 : decode cX5_bend 29 = .ok (.getfield 90, 3) := by decide +kernel
theorem dX5_bend_32 : decode cX5_bend 32 = .ok (.iload_n 1, 1) := by decide +kernel
theorem dX5_bend_33 : decode cX5_bend 33 = .ok (.aaload, 1) := by decide +kernel
theorem dX5_bend_34 : decode cX5_bend 34 = .ok (.getfield 94, 3) := by decide +kernel
theorem dX5_bend_37 : decode cX5_bend 37 = .ok (.iload_n 2, 1) := by decide +kernel
theorem dX5_bend_38 : decode cX5_bend 38 = .ok (.aaload, 1) := by decide +kernel
theorem dX5_bend_39 : decode cX5_bend 39 = .ok (.astore 5, 2) := by decide +kernel
theorem dX5_bend_41 : decode cX5_bend 41 = .ok (.iload_n 3, 1) := by decide +kernel
theorem dX5_bend_42 : decode cX5_bend 42 = .ok (.ifCond .lt 12, 3) := by decide +kernel
theorem dX5_bend_45 : decode cX5_bend 45 = .ok (.iload_n 3, 1) := by decide +kernel
theorem dX5_bend_46 : decode cX5_bend 46 = .ok (.aload 5, 2) := by decide +kernel
theorem dX5_bend_48 : decode cX5_bend 48 = .ok (.getfield 100, 3) := by decide +kernel
theorem dX5_bend_51 : decode cX5_bend 51 = .ok (.if_icmp .lt 5, 3) := by decide +kernel
theorem dX5_bend_54 : decode cX5_bend 54 = .ok (.iconst (-1), 1) := by decide +kernel
theorem dX5_bend_55 : decode cX5_bend 55 = .ok (.ireturn, 1) := by decide +kernel
theorem dX5_bend_56 : decode cX5_bend 56 = .ok (.aload 5, 2) := by decide +kernel
theorem dX5_bend_58 : decode cX5_bend 58 = .ok (.getfield 105, 3) := by decide +kernel
theorem dX5_bend_61 : decode cX5_bend 61 = .ok (.iload_n 3, 1) := by decide +kernel
theorem dX5_bend_62 : decode cX5_bend 62 = .ok (.dup2, 1) := by decide +kernel
theorem dX5_bend_63 : decode cX5_bend 63 = .ok (.iaload, 1) := by decide +kernel
theorem dX5_bend_64 : decode cX5_bend 64 = .ok (.iload 4, 2) := by decide +kernel
theorem dX5_bend_66 : decode cX5_bend 66 = .ok (.ixor, 1) := by decide +kernel
theorem dX5_bend_67 : decode cX5_bend 67 = .ok (.iastore, 1) := by decide +kernel
theorem dX5_bend_68 : decode cX5_bend 68 = .ok (.aload 5, 2) := by decide +kernel
theorem dX5_bend_70 : decode cX5_bend 70 = .ok (.getfield 105, 3) := by decide +kernel
theorem dX5_bend_73 : decode cX5_bend 73 = .ok (.iload_n 3, 1) := by decide +kernel
theorem dX5_bend_74 : decode cX5_bend 74 = .ok (.iaload, 1) := by decide +kernel
theorem dX5_bend_75 : decode cX5_bend 75 = .ok (.ireturn, 1) := by decide +kernel
theorem dX5_lose_0 : decode cX5_lose 0 = .ok (.aload_n 0, 1) := by decide +kernel
theorem dX5_lose_1 : decode cX5_lose 1 = .ok (.iload_n 1, 1) := by decide +kernel
theorem dX5_lose_2 : decode cX5_lose 2 = .ok (.iload_n 2, 1) := by decide +kernel
theorem dX5_lose_3 : decode cX5_lose 3 = .ok (.invokevirtual 86, 3) := by decide +kernel
theorem dX5_lose_6 : decode cX5_lose 6 = .ok (.ifCond .eq 5, 3) := by decide +kernel
theorem dX5_lose_9 : decode cX5_lose 9 = .ok (.iconst (-1), 1) := by decide +kernel
theorem dX5_lose_10 : decode cX5_lose 10 = .ok (.ireturn, 1) := by decide +kernel
theorem dX5_lose_11 : decode cX5_lose 11 = .ok (.aload_n 0, 1) := by decide +kernel
theorem dX5_lose_12 : decode cX5_lose 12 = .ok (.getfield 10, 3) := by decide +kernel
theorem dX5_lose_15 : decode cX5_lose 15 = .ok (.getfield 90, 3) := by decide +kernel
theorem dX5_lose_18 : decode cX5_lose 18 = .ok (.iload_n 1, 1) := by decide +kernel
theorem dX5_lose_19 : decode cX5_lose 19 = .ok (.aaload, 1) := by decide +kernel
theorem dX5_lose_20 : decode cX5_lose 20 = .ok (.astore_n 3, 1) := by decide +kernel
theorem dX5_lose_21 : decode cX5_lose 21 = .ok (.aload_n 3, 1) := by decide +kernel
theorem dX5_lose_22 : decode cX5_lose 22 = .ok (.iload_n 2, 1) := by decide +kernel
theorem dX5_lose_23 : decode cX5_lose 23 = .ok (.invokevirtual 108, 3) := by decide +kernel
theorem dX5_lose_26 : decode cX5_lose 26 = .ok (.pop, 1) := by decide +kernel
theorem dX5_lose_27 : decode cX5_lose 27 = .ok (.aload_n 3, 1) := by decide +kernel
theorem dX5_lose_28 : decode cX5_lose 28 = .ok (.getfield 112, 3) := by decide +kernel
theorem dX5_lose_31 : decode cX5_lose 31 = .ok (.ireturn, 1) := by decide +kernel
theorem dX5_twice_0 : decode cX5_twice 0 = .ok (.aload_n 0, 1) := by decide +kernel
theorem dX5_twice_1 : decode cX5_twice 1 = .ok (.iload_n 1, 1) := by decide +kernel
theorem dX5_twice_2 : decode cX5_twice 2 = .ok (.iload_n 2, 1) := by decide +kernel
theorem dX5_twice_3 : decode cX5_twice 3 = .ok (.invokevirtual 86, 3) := by decide +kernel
theorem dX5_twice_6 : decode cX5_twice 6 = .ok (.ifCond .eq 5, 3) := by decide +kernel
theorem dX5_twice_9 : decode cX5_twice 9 = .ok (.iconst (-1), 1) := by decide +kernel
theorem dX5_twice_10 : decode cX5_twice 10 = .ok (.ireturn, 1) := by decide +kernel
theorem dX5_twice_11 : decode cX5_twice 11 = .ok (.aload_n 0, 1) := by decide +kernel
theorem dX5_twice_12 : decode cX5_twice 12 = .ok (.getfield 10, 3) := by decide +kernel
theorem dX5_twice_15 : decode cX5_twice 15 = .ok (.getfield 90, 3) := by decide +kernel
theorem dX5_twice_18 : decode cX5_twice 18 = .ok (.iload_n 1, 1) := by decide +kernel
theorem dX5_twice_19 : decode cX5_twice 19 = .ok (.aaload, 1) := by decide +kernel
theorem dX5_twice_20 : decode cX5_twice 20 = .ok (.astore_n 3, 1) := by decide +kernel
theorem dX5_twice_21 : decode cX5_twice 21 = .ok (.aload_n 3, 1) := by decide +kernel
theorem dX5_twice_22 : decode cX5_twice 22 = .ok (.getfield 112, 3) := by decide +kernel
theorem dX5_twice_25 : decode cX5_twice 25 = .ok (.bipush 12, 2) := by decide +kernel
theorem dX5_twice_27 : decode cX5_twice 27 = .ok (.if_icmp .lt 6, 3) := by decide +kernel
theorem dX5_twice_30 : decode cX5_twice 30 = .ok (.bipush (-3), 2) := by decide +kernel
theorem dX5_twice_32 : decode cX5_twice 32 = .ok (.ireturn, 1) := by decide +kernel
theorem dX5_twice_33 : decode cX5_twice 33 = .ok (.aload_n 3, 1) := by decide +kernel
theorem dX5_twice_34 : decode cX5_twice 34 = .ok (.iload_n 2, 1) := by decide +kernel
theorem dX5_twice_35 : decode cX5_twice 35 = .ok (.invokevirtual 115, 3) := by decide +kernel
theorem dX5_twice_38 : decode cX5_twice 38 = .ok (.aload_n 3, 1) := by decide +kernel
theorem dX5_twice_39 : decode cX5_twice 39 = .ok (.getfield 112, 3) := by decide +kernel
theorem dX5_twice_42 : decode cX5_twice 42 = .ok (.ireturn, 1) := by decide +kernel
theorem dX5_wire_0 : decode cX5_wire 0 = .ok (.iload_n 1, 1) := by decide +kernel
theorem dX5_wire_1 : decode cX5_wire 1 = .ok (.invokestatic 20, 3) := by decide +kernel
theorem dX5_wire_4 : decode cX5_wire 4 = .ok (.ifCond .eq 5, 3) := by decide +kernel
theorem dX5_wire_7 : decode cX5_wire 7 = .ok (.iconst (-1), 1) := by decide +kernel
theorem dX5_wire_8 : decode cX5_wire 8 = .ok (.ireturn, 1) := by decide +kernel
theorem dX5_wire_9 : decode cX5_wire 9 = .ok (.iload_n 2, 1) := by decide +kernel
theorem dX5_wire_10 : decode cX5_wire 10 = .ok (.iconst (-1), 1) := by decide +kernel
theorem dX5_wire_11 : decode cX5_wire 11 = .ok (.if_icmp .ne 16, 3) := by decide +kernel
theorem dX5_wire_14 : decode cX5_wire 14 = .ok (.aload_n 0, 1) := by decide +kernel
theorem dX5_wire_15 : decode cX5_wire 15 = .ok (.getfield 10, 3) := by decide +kernel
theorem dX5_wire_18 : decode cX5_wire 18 = .ok (.getfield 90, 3) := by decide +kernel
theorem dX5_wire_21 : decode cX5_wire 21 = .ok (.iload_n 1, 1) := by decide +kernel
theorem dX5_wire_22 : decode cX5_wire 22 = .ok (.aaload, 1) := by decide +kernel
theorem dX5_wire_23 : decode cX5_wire 23 = .ok (.getfield 112, 3) := by decide +kernel
theorem dX5_wire_26 : decode cX5_wire 26 = .ok (.ireturn, 1) := by decide +kernel
theorem dX5_wire_27 : decode cX5_wire 27 = .ok (.aload_n 0, 1) := by decide +kernel
theorem dX5_wire_28 : decode cX5_wire 28 = .ok (.iload_n 1, 1) := by decide +kernel
theorem dX5_wire_29 : decode cX5_wire 29 = .ok (.iload_n 2, 1) := by decide +kernel
theorem dX5_wire_30 : decode cX5_wire 30 = .ok (.invokevirtual 86, 3) := by decide +kernel
theorem dX5_wire_33 : decode cX5_wire 33 = .ok (.ifCond .ne 13, 3) := by decide +kernel
theorem dX5_wire_36 : decode cX5_wire 36 = .ok (.iload_n 3, 1) := by decide +kernel
theorem dX5_wire_37 : decode cX5_wire 37 = .ok (.ifCond .lt 9, 3) := by decide +kernel
theorem dX5_wire_40 : decode cX5_wire 40 = .ok (.iload_n 3, 1) := by decide +kernel
theorem dX5_wire_41 : decode cX5_wire 41 = .ok (.bipush 35, 2) := by decide +kernel
theorem dX5_wire_43 : decode cX5_wire 43 = .ok (.if_icmp .le 5, 3) := by decide +kernel
theorem dX5_wire_46 : decode cX5_wire 46 = .ok (.iconst (-1), 1) := by decide +kernel
theorem dX5_wire_47 : decode cX5_wire 47 = .ok (.ireturn, 1) := by decide +kernel
theorem dX5_wire_48 : decode cX5_wire 48 = .ok (.aload_n 0, 1) := by decide +kernel
theorem dX5_wire_49 : decode cX5_wire 49 = .ok (.getfield 10, 3) := by decide +kernel
theorem dX5_wire_52 : decode cX5_wire 52 = .ok (.getfield 90, 3) := by decide +kernel
theorem dX5_wire_55 : decode cX5_wire 55 = .ok (.iload_n 1, 1) := by decide +kernel
theorem dX5_wire_56 : decode cX5_wire 56 = .ok (.aaload, 1) := by decide +kernel
theorem dX5_wire_57 : decode cX5_wire 57 = .ok (.getfield 94, 3) := by decide +kernel
theorem dX5_wire_60 : decode cX5_wire 60 = .ok (.iload_n 2, 1) := by decide +kernel
theorem dX5_wire_61 : decode cX5_wire 61 = .ok (.aaload, 1) := by decide +kernel
theorem dX5_wire_62 : decode cX5_wire 62 = .ok (.astore 4, 2) := by decide +kernel
theorem dX5_wire_64 : decode cX5_wire 64 = .ok (.iload_n 3, 1) := by decide +kernel
theorem dX5_wire_65 : decode cX5_wire 65 = .ok (.tableswitch 53 0 2 #[27, 33, 47], 27) := by decide +kernel
theorem dX5_wire_92 : decode cX5_wire 92 = .ok (.aload 4, 2) := by decide +kernel
theorem dX5_wire_94 : decode cX5_wire 94 = .ok (.getfield 100, 3) := by decide +kernel
theorem dX5_wire_97 : decode cX5_wire 97 = .ok (.ireturn, 1) := by decide +kernel
theorem dX5_wire_98 : decode cX5_wire 98 = .ok (.aload 4, 2) := by decide +kernel
theorem dX5_wire_100 : decode cX5_wire 100 = .ok (.getfield 119, 3) := by decide +kernel
theorem dX5_wire_103 : decode cX5_wire 103 = .ok (.aload_n 0, 1) := by decide +kernel
theorem dX5_wire_104 : decode cX5_wire 104 = .ok (.getfield 10, 3) := by decide +kernel
theorem dX5_wire_107 : decode cX5_wire 107 = .ok (.getfield 68, 3) := by decide +kernel
theorem dX5_wire_110 : decode cX5_wire 110 = .ok (.isub, 1) := by decide +kernel
theorem dX5_wire_111 : decode cX5_wire 111 = .ok (.ireturn, 1) := by decide +kernel
theorem dX5_wire_112 : decode cX5_wire 112 = .ok (.aload 4, 2) := by decide +kernel
theorem dX5_wire_114 : decode cX5_wire 114 = .ok (.invokevirtual 122, 3) := by decide +kernel
theorem dX5_wire_117 : decode cX5_wire 117 = .ok (.ireturn, 1) := by decide +kernel
theorem dX5_wire_118 : decode cX5_wire 118 = .ok (.iload_n 3, 1) := by decide +kernel
theorem dX5_wire_119 : decode cX5_wire 119 = .ok (.iconst 3, 1) := by decide +kernel
theorem dX5_wire_120 : decode cX5_wire 120 = .ok (.isub, 1) := by decide +kernel
theorem dX5_wire_121 : decode cX5_wire 121 = .ok (.aload 4, 2) := by decide +kernel
theorem dX5_wire_123 : decode cX5_wire 123 = .ok (.getfield 100, 3) := by decide +kernel
theorem dX5_wire_126 : decode cX5_wire 126 = .ok (.if_icmp .ge 15, 3) := by decide +kernel
theorem dX5_wire_129 : decode cX5_wire 129 = .ok (.aload 4, 2) := by decide +kernel
theorem dX5_wire_131 : decode cX5_wire 131 = .ok (.getfield 105, 3) := by decide +kernel
theorem dX5_wire_134 : decode cX5_wire 134 = .ok (.iload_n 3, 1) := by decide +kernel
theorem dX5_wire_135 : decode cX5_wire 135 = .ok (.iconst 3, 1) := by decide +kernel
theorem dX5_wire_136 : decode cX5_wire 136 = .ok (.isub, 1) := by decide +kernel
theorem dX5_wire_137 : decode cX5_wire 137 = .ok (.iaload, 1) := by decide +kernel
theorem dX5_wire_138 : decode cX5_wire 138 = .ok (.goto 5, 3) := by decide +kernel
theorem dX5_wire_141 : decode cX5_wire 141 = .ok (.bipush (-4), 2) := by decide +kernel
theorem dX5_wire_143 : decode cX5_wire 143 = .ok (.ireturn, 1) := by decide +kernel
theorem dX5_end_0 : decode cX5_end 0 = .ok (.iload_n 1, 1) := by decide +kernel
theorem dX5_end_1 : decode cX5_end 1 = .ok (.invokestatic 20, 3) := by decide +kernel
theorem dX5_end_4 : decode cX5_end 4 = .ok (.ifCond .eq 5, 3) := by decide +kernel
theorem dX5_end_7 : decode cX5_end 7 = .ok (.iconst (-1), 1) := by decide +kernel
theorem dX5_end_8 : decode cX5_end 8 = .ok (.ireturn, 1) := by decide +kernel
theorem dX5_end_9 : decode cX5_end 9 = .ok (.aload_n 0, 1) := by decide +kernel
theorem dX5_end_10 : decode cX5_end 10 = .ok (.getfield 10, 3) := by decide +kernel
theorem dX5_end_13 : decode cX5_end 13 = .ok (.getfield 24, 3) := by decide +kernel
theorem dX5_end_16 : decode cX5_end 16 = .ok (.iload_n 1, 1) := by decide +kernel
theorem dX5_end_17 : decode cX5_end 17 = .ok (.aaload, 1) := by decide +kernel
theorem dX5_end_18 : decode cX5_end 18 = .ok (.iload_n 2, 1) := by decide +kernel
theorem dX5_end_19 : decode cX5_end 19 = .ok (.invokevirtual 125, 3) := by decide +kernel
theorem dX5_end_22 : decode cX5_end 22 = .ok (.ireturn, 1) := by decide +kernel
theorem dX5_up_0 : decode cX5_up 0 = .ok (.iload_n 1, 1) := by decide +kernel
theorem dX5_up_1 : decode cX5_up 1 = .ok (.invokestatic 20, 3) := by decide +kernel
theorem dX5_up_4 : decode cX5_up 4 = .ok (.ifCond .ne 7, 3) := by decide +kernel
theorem dX5_up_7 : decode cX5_up 7 = .ok (.iload_n 2, 1) := by decide +kernel
theorem dX5_up_8 : decode cX5_up 8 = .ok (.ifCond .ge 5, 3) := by decide +kernel
theorem dX5_up_11 : decode cX5_up 11 = .ok (.iconst (-1), 1) := by decide +kernel
theorem dX5_up_12 : decode cX5_up 12 = .ok (.ireturn, 1) := by decide +kernel
theorem dX5_up_13 : decode cX5_up 13 = .ok (.aload_n 0, 1) := by decide +kernel
theorem dX5_up_14 : decode cX5_up 14 = .ok (.getfield 10, 3) := by decide +kernel
theorem dX5_up_17 : decode cX5_up 17 = .ok (.getfield 24, 3) := by decide +kernel
theorem dX5_up_20 : decode cX5_up 20 = .ok (.iload_n 1, 1) := by decide +kernel
theorem dX5_up_21 : decode cX5_up 21 = .ok (.aaload, 1) := by decide +kernel
theorem dX5_up_22 : decode cX5_up 22 = .ok (.astore_n 3, 1) := by decide +kernel
theorem dX5_up_23 : decode cX5_up 23 = .ok (.iload_n 2, 1) := by decide +kernel
theorem dX5_up_24 : decode cX5_up 24 = .ok (.aload_n 3, 1) := by decide +kernel
theorem dX5_up_25 : decode cX5_up 25 = .ok (.invokevirtual 128, 3) := by decide +kernel
theorem dX5_up_28 : decode cX5_up 28 = .ok (.if_icmp .ge 15, 3) := by decide +kernel
theorem dX5_up_31 : decode cX5_up 31 = .ok (.aload_n 3, 1) := by decide +kernel
theorem dX5_up_32 : decode cX5_up 32 = .ok (.getfield 131, 3) := by decide +kernel
theorem dX5_up_35 : decode cX5_up 35 = .ok (.getfield 135, 3) := by decide +kernel
theorem dX5_up_38 : decode cX5_up 38 = .ok (.iload_n 2, 1) := by decide +kernel
theorem dX5_up_39 : decode cX5_up 39 = .ok (.iaload, 1) := by decide +kernel
theorem dX5_up_40 : decode cX5_up 40 = .ok (.goto 5, 3) := by decide +kernel
theorem dX5_up_43 : decode cX5_up 43 = .ok (.bipush (-4), 2) := by decide +kernel
theorem dX5_up_45 : decode cX5_up 45 = .ok (.ireturn, 1) := by decide +kernel
theorem dX5_upByte_0 : decode cX5_upByte 0 = .ok (.iload_n 1, 1) := by decide +kernel
theorem dX5_upByte_1 : decode cX5_upByte 1 = .ok (.invokestatic 20, 3) := by decide +kernel
theorem dX5_upByte_4 : decode cX5_upByte 4 = .ok (.ifCond .ne 11, 3) := by decide +kernel
theorem dX5_upByte_7 : decode cX5_upByte 7 = .ok (.iload_n 2, 1) := by decide +kernel
theorem dX5_upByte_8 : decode cX5_upByte 8 = .ok (.ifCond .lt 7, 3) := by decide +kernel
theorem dX5_upByte_11 : decode cX5_upByte 11 = .ok (.iload_n 3, 1) := by decide +kernel
theorem dX5_upByte_12 : decode cX5_upByte 12 = .ok (.ifCond .ge 5, 3) := by decide +kernel
theorem dX5_upByte_15 : decode cX5_upByte 15 = .ok (.iconst (-1), 1) := by decide +kernel
theorem dX5_upByte_16 : decode cX5_upByte 16 = .ok (.ireturn, 1) := by decide +kernel
theorem dX5_upByte_17 : decode cX5_upByte 17 = .ok (.aload_n 0, 1) := by decide +kernel
theorem dX5_upByte_18 : decode cX5_upByte 18 = .ok (.getfield 10, 3) := by decide +kernel
theorem dX5_upByte_21 : decode cX5_upByte 21 = .ok (.getfield 24, 3) := by decide +kernel
theorem dX5_upByte_24 : decode cX5_upByte 24 = .ok (.iload_n 1, 1) := by decide +kernel
theorem dX5_upByte_25 : decode cX5_upByte 25 = .ok (.aaload, 1) := by decide +kernel
theorem dX5_upByte_26 : decode cX5_upByte 26 = .ok (.astore 4, 2) := by decide +kernel
theorem dX5_upByte_28 : decode cX5_upByte 28 = .ok (.iload_n 2, 1) := by decide +kernel
theorem dX5_upByte_29 : decode cX5_upByte 29 = .ok (.aload 4, 2) := by decide +kernel
theorem dX5_upByte_31 : decode cX5_upByte 31 = .ok (.invokevirtual 128, 3) := by decide +kernel
theorem dX5_upByte_34 : decode cX5_upByte 34 = .ok (.if_icmp .ge 17, 3) := by decide +kernel
theorem dX5_upByte_37 : decode cX5_upByte 37 = .ok (.iload_n 3, 1) := by decide +kernel
theorem dX5_upByte_38 : decode cX5_upByte 38 = .ok (.aload 4, 2) := by decide +kernel
theorem dX5_upByte_40 : decode cX5_upByte 40 = .ok (.getfield 131, 3) := by decide +kernel
theorem dX5_upByte_43 : decode cX5_upByte 43 = .ok (.getfield 135, 3) := by decide +kernel
theorem dX5_upByte_46 : decode cX5_upByte 46 = .ok (.iload_n 2, 1) := by decide +kernel
theorem dX5_upByte_47 : decode cX5_upByte 47 = .ok (.iaload, 1) := by decide +kernel
theorem dX5_upByte_48 : decode cX5_upByte 48 = .ok (.if_icmp .lt 6, 3) := by decide +kernel
theorem dX5_upByte_51 : decode cX5_upByte 51 = .ok (.bipush (-4), 2) := by decide +kernel
theorem dX5_upByte_53 : decode cX5_upByte 53 = .ok (.ireturn, 1) := by decide +kernel
theorem dX5_upByte_54 : decode cX5_upByte 54 = .ok (.aload 4, 2) := by decide +kernel
theorem dX5_upByte_56 : decode cX5_upByte 56 = .ok (.getfield 131, 3) := by decide +kernel
theorem dX5_upByte_59 : decode cX5_upByte 59 = .ok (.iload_n 2, 1) := by decide +kernel
theorem dX5_upByte_60 : decode cX5_upByte 60 = .ok (.iload_n 3, 1) := by decide +kernel
theorem dX5_upByte_61 : decode cX5_upByte 61 = .ok (.invokevirtual 140, 3) := by decide +kernel
theorem dX5_upByte_64 : decode cX5_upByte 64 = .ok (.ireturn, 1) := by decide +kernel
theorem dX5_count_0 : decode cX5_count 0 = .ok (.iload_n 1, 1) := by decide +kernel
theorem dX5_count_1 : decode cX5_count 1 = .ok (.ifCond .lt 9, 3) := by decide +kernel
theorem dX5_count_4 : decode cX5_count 4 = .ok (.iload_n 1, 1) := by decide +kernel
theorem dX5_count_5 : decode cX5_count 5 = .ok (.bipush 17, 2) := by decide +kernel
theorem dX5_count_7 : decode cX5_count 7 = .ok (.if_icmp .le 5, 3) := by decide +kernel
theorem dX5_count_10 : decode cX5_count 10 = .ok (.iconst (-1), 1) := by decide +kernel
theorem dX5_count_11 : decode cX5_count 11 = .ok (.ireturn, 1) := by decide +kernel
theorem dX5_count_12 : decode cX5_count 12 = .ok (.iload_n 1, 1) := by decide +kernel
theorem dX5_count_13 : decode cX5_count 13 = .ok (.lookupswitch 62 #[(0, 35), (1, 43), (17, 51)], 35) := by decide +kernel
theorem dX5_count_48 : decode cX5_count 48 = .ok (.aload_n 0, 1) := by decide +kernel
theorem dX5_count_49 : decode cX5_count 49 = .ok (.getfield 10, 3) := by decide +kernel
theorem dX5_count_52 : decode cX5_count 52 = .ok (.getfield 68, 3) := by decide +kernel
theorem dX5_count_55 : decode cX5_count 55 = .ok (.ireturn, 1) := by decide +kernel
theorem dX5_count_56 : decode cX5_count 56 = .ok (.aload_n 0, 1) := by decide +kernel
theorem dX5_count_57 : decode cX5_count 57 = .ok (.getfield 10, 3) := by decide +kernel
theorem dX5_count_60 : decode cX5_count 60 = .ok (.getfield 144, 3) := by decide +kernel
theorem dX5_count_63 : decode cX5_count 63 = .ok (.ireturn, 1) := by decide +kernel
theorem dX5_count_64 : decode cX5_count 64 = .ok (.aload_n 0, 1) := by decide +kernel
theorem dX5_count_65 : decode cX5_count 65 = .ok (.getfield 10, 3) := by decide +kernel
theorem dX5_count_68 : decode cX5_count 68 = .ok (.invokevirtual 74, 3) := by decide +kernel
theorem dX5_count_71 : decode cX5_count 71 = .ok (.invokestatic 82, 3) := by decide +kernel
theorem dX5_count_74 : decode cX5_count 74 = .ok (.ireturn, 1) := by decide +kernel
theorem dX5_count_75 : decode cX5_count 75 = .ok (.aload_n 0, 1) := by decide +kernel
theorem dX5_count_76 : decode cX5_count 76 = .ok (.getfield 10, 3) := by decide +kernel
theorem dX5_count_79 : decode cX5_count 79 = .ok (.getfield 147, 3) := by decide +kernel
theorem dX5_count_82 : decode cX5_count 82 = .ok (.iload_n 1, 1) := by decide +kernel
theorem dX5_count_83 : decode cX5_count 83 = .ok (.iaload, 1) := by decide +kernel
theorem dX5_count_84 : decode cX5_count 84 = .ok (.ireturn, 1) := by decide +kernel
theorem dX5_keep_0 : decode cX5_keep 0 = .ok (.aload_n 0, 1) := by decide +kernel
theorem dX5_keep_1 : decode cX5_keep 1 = .ok (.iload_n 1, 1) := by decide +kernel
theorem dX5_keep_2 : decode cX5_keep 2 = .ok (.invokevirtual 150, 3) := by decide +kernel
theorem dX5_keep_5 : decode cX5_keep 5 = .ok (.ifCond .eq 5, 3) := by decide +kernel
theorem dX5_keep_8 : decode cX5_keep 8 = .ok (.iconst (-1), 1) := by decide +kernel
theorem dX5_keep_9 : decode cX5_keep 9 = .ok (.ireturn, 1) := by decide +kernel
theorem dX5_keep_10 : decode cX5_keep 10 = .ok (.aload_n 0, 1) := by decide +kernel
theorem dX5_keep_11 : decode cX5_keep 11 = .ok (.getfield 16, 3) := by decide +kernel
theorem dX5_keep_14 : decode cX5_keep 14 = .ok (.iload_n 1, 1) := by decide +kernel
theorem dX5_keep_15 : decode cX5_keep 15 = .ok (.aaload, 1) := by decide +kernel
theorem dX5_keep_16 : decode cX5_keep 16 = .ok (.ifnull 7, 3) := by decide +kernel
theorem dX5_keep_19 : decode cX5_keep 19 = .ok (.iconst 1, 1) := by decide +kernel
theorem dX5_keep_20 : decode cX5_keep 20 = .ok (.goto 4, 3) := by decide +kernel
theorem dX5_keep_23 : decode cX5_keep 23 = .ok (.iconst 0, 1) := by decide +kernel
theorem dX5_keep_24 : decode cX5_keep 24 = .ok (.istore_n 2, 1) := by decide +kernel
theorem dX5_keep_25 : decode cX5_keep 25 = .ok (.iload_n 2, 1) := by decide +kernel
theorem dX5_keep_26 : decode cX5_keep 26 = .ok (.ifCond .ne 16, 3) := by decide +kernel
theorem dX5_keep_29 : decode cX5_keep 29 = .ok (.aload_n 0, 1) := by decide +kernel
theorem dX5_keep_30 : decode cX5_keep 30 = .ok (.getfield 16, 3) := by decide +kernel
theorem dX5_keep_33 : decode cX5_keep 33 = .ok (.iload_n 1, 1) := by decide +kernel
theorem dX5_keep_34 : decode cX5_keep 34 = .ok (.new 7, 3) := by decide +kernel
theorem dX5_keep_37 : decode cX5_keep 37 = .ok (.dup, 1) := by decide +kernel
theorem dX5_keep_38 : decode cX5_keep 38 = .ok (.invokespecial 9, 3) := by decide +kernel
theorem dX5_keep_41 : decode cX5_keep 41 = .ok (.aastore, 1) := by decide +kernel
theorem dX5_keep_42 : decode cX5_keep 42 = .ok (.aload_n 0, 1) := by decide +kernel
theorem dX5_keep_43 : decode cX5_keep 43 = .ok (.getfield 16, 3) := by decide +kernel
theorem dX5_keep_46 : decode cX5_keep 46 = .ok (.iload_n 1, 1) := by decide +kernel
theorem dX5_keep_47 : decode cX5_keep 47 = .ok (.aaload, 1) := by decide +kernel
theorem dX5_keep_48 : decode cX5_keep 48 = .ok (.aload_n 0, 1) := by decide +kernel
theorem dX5_keep_49 : decode cX5_keep 49 = .ok (.getfield 10, 3) := by decide +kernel
theorem dX5_keep_52 : decode cX5_keep 52 = .ok (.invokevirtual 153, 3) := by decide +kernel
theorem dX5_keep_55 : decode cX5_keep 55 = .ok (.iload_n 2, 1) := by decide +kernel
theorem dX5_keep_56 : decode cX5_keep 56 = .ok (.invokestatic 82, 3) := by decide +kernel
theorem dX5_keep_59 : decode cX5_keep 59 = .ok (.ireturn, 1) := by decide +kernel
theorem dX5_again_0 : decode cX5_again 0 = .ok (.aload_n 0, 1) := by decide +kernel
theorem dX5_again_1 : decode cX5_again 1 = .ok (.iload_n 1, 1) := by decide +kernel
theorem dX5_again_2 : decode cX5_again 2 = .ok (.invokevirtual 150, 3) := by decide +kernel
theorem dX5_again_5 : decode cX5_again 5 = .ok (.ifCond .eq 5, 3) := by decide +kernel
theorem dX5_again_8 : decode cX5_again 8 = .ok (.iconst (-1), 1) := by decide +kernel
theorem dX5_again_9 : decode cX5_again 9 = .ok (.ireturn, 1) := by decide +kernel
theorem dX5_again_10 : decode cX5_again 10 = .ok (.aload_n 0, 1) := by decide +kernel
theorem dX5_again_11 : decode cX5_again 11 = .ok (.getfield 16, 3) := by decide +kernel
theorem dX5_again_14 : decode cX5_again 14 = .ok (.iload_n 1, 1) := by decide +kernel
theorem dX5_again_15 : decode cX5_again 15 = .ok (.aaload, 1) := by decide +kernel
theorem dX5_again_16 : decode cX5_again 16 = .ok (.astore_n 2, 1) := by decide +kernel
theorem dX5_again_17 : decode cX5_again 17 = .ok (.aload_n 2, 1) := by decide +kernel
theorem dX5_again_18 : decode cX5_again 18 = .ok (.ifnonnull 6, 3) := by decide +kernel
theorem dX5_again_21 : decode cX5_again 21 = .ok (.bipush (-2), 2) := by decide +kernel
theorem dX5_again_23 : decode cX5_again 23 = .ok (.ireturn, 1) := by decide +kernel
theorem dX5_again_24 : decode cX5_again 24 = .ok (.aload_n 0, 1) := by decide +kernel
theorem dX5_again_25 : decode cX5_again 25 = .ok (.getfield 10, 3) := by decide +kernel
theorem dX5_again_28 : decode cX5_again 28 = .ok (.aload_n 2, 1) := by decide +kernel
theorem dX5_again_29 : decode cX5_again 29 = .ok (.invokevirtual 153, 3) := by decide +kernel
theorem dX5_again_32 : decode cX5_again 32 = .ok (.aload_n 0, 1) := by decide +kernel
theorem dX5_again_33 : decode cX5_again 33 = .ok (.getfield 10, 3) := by decide +kernel
theorem dX5_again_36 : decode cX5_again 36 = .ok (.getfield 68, 3) := by decide +kernel
theorem dX5_again_39 : decode cX5_again 39 = .ok (.ireturn, 1) := by decide +kernel
theorem dX5_isNoFrame_0 : decode cX5_isNoFrame 0 = .ok (.iload_n 1, 1) := by decide +kernel
theorem dX5_isNoFrame_1 : decode cX5_isNoFrame 1 = .ok (.invokestatic 20, 3) := by decide +kernel
theorem dX5_isNoFrame_4 : decode cX5_isNoFrame 4 = .ok (.ifCond .ne 23, 3) := by decide +kernel
theorem dX5_isNoFrame_7 : decode cX5_isNoFrame 7 = .ok (.iload_n 2, 1) := by decide +kernel
theorem dX5_isNoFrame_8 : decode cX5_isNoFrame 8 = .ok (.ifCond .lt 19, 3) := by decide +kernel
theorem dX5_isNoFrame_11 : decode cX5_isNoFrame 11 = .ok (.iload_n 2, 1) := by decide +kernel
theorem dX5_isNoFrame_12 : decode cX5_isNoFrame 12 = .ok (.aload_n 0, 1) := by decide +kernel
theorem dX5_isNoFrame_13 : decode cX5_isNoFrame 13 = .ok (.getfield 10, 3) := by decide +kernel
theorem dX5_isNoFrame_16 : decode cX5_isNoFrame 16 = .ok (.getfield 90, 3) := by decide +kernel
theorem dX5_isNoFrame_19 : decode cX5_isNoFrame 19 = .ok (.iload_n 1, 1) := by decide +kernel
theorem dX5_isNoFrame_20 : decode cX5_isNoFrame 20 = .ok (.aaload, 1) := by decide +kernel
theorem dX5_isNoFrame_21 : decode cX5_isNoFrame 21 = .ok (.getfield 112, 3) := by decide +kernel
theorem dX5_isNoFrame_24 : decode cX5_isNoFrame 24 = .ok (.if_icmp .lt 7, 3) := by decide +kernel
theorem dX5_isNoFrame_27 : decode cX5_isNoFrame 27 = .ok (.iconst 1, 1) := by decide +kernel
theorem dX5_isNoFrame_28 : decode cX5_isNoFrame 28 = .ok (.goto 4, 3) := by decide +kernel
theorem dX5_isNoFrame_31 : decode cX5_isNoFrame 31 = .ok (.iconst 0, 1) := by decide +kernel
theorem dX5_isNoFrame_32 : decode cX5_isNoFrame 32 = .ok (.ireturn, 1) := by decide +kernel
theorem dX5_isNoPlaceToKeep_0 : decode cX5_isNoPlaceToKeep 0 = .ok (.iload_n 1, 1) := by decide +kernel
theorem dX5_isNoPlaceToKeep_1 : decode cX5_isNoPlaceToKeep 1 = .ok (.ifCond .lt 12, 3) := by decide +kernel
theorem dX5_isNoPlaceToKeep_4 : decode cX5_isNoPlaceToKeep 4 = .ok (.iload_n 1, 1) := by decide +kernel
theorem dX5_isNoPlaceToKeep_5 : decode cX5_isNoPlaceToKeep 5 = .ok (.aload_n 0, 1) := by decide +kernel
theorem dX5_isNoPlaceToKeep_6 : decode cX5_isNoPlaceToKeep 6 = .ok (.getfield 16, 3) := by decide +kernel
theorem dX5_isNoPlaceToKeep_9 : decode cX5_isNoPlaceToKeep 9 = .ok (.arraylength, 1) := by decide +kernel
theorem dX5_isNoPlaceToKeep_10 : decode cX5_isNoPlaceToKeep 10 = .ok (.if_icmp .lt 7, 3) := by decide +kernel
theorem dX5_isNoPlaceToKeep_13 : decode cX5_isNoPlaceToKeep 13 = .ok (.iconst 1, 1) := by decide +kernel
theorem dX5_isNoPlaceToKeep_14 : decode cX5_isNoPlaceToKeep 14 = .ok (.goto 4, 3) := by decide +kernel
theorem dX5_isNoPlaceToKeep_17 : decode cX5_isNoPlaceToKeep 17 = .ok (.iconst 0, 1) := by decide +kernel
theorem dX5_isNoPlaceToKeep_18 : decode cX5_isNoPlaceToKeep 18 = .ok (.ireturn, 1) := by decide +kernel
theorem dX5_isNoSide_0 : decode cX5_isNoSide 0 = .ok (.iload_n 0, 1) := by decide +kernel
theorem dX5_isNoSide_1 : decode cX5_isNoSide 1 = .ok (.ifCond .lt 8, 3) := by decide +kernel
theorem dX5_isNoSide_4 : decode cX5_isNoSide 4 = .ok (.iload_n 0, 1) := by decide +kernel
theorem dX5_isNoSide_5 : decode cX5_isNoSide 5 = .ok (.iconst 2, 1) := by decide +kernel
theorem dX5_isNoSide_6 : decode cX5_isNoSide 6 = .ok (.if_icmp .lt 7, 3) := by decide +kernel
theorem dX5_isNoSide_9 : decode cX5_isNoSide 9 = .ok (.iconst 1, 1) := by decide +kernel
theorem dX5_isNoSide_10 : decode cX5_isNoSide 10 = .ok (.goto 4, 3) := by decide +kernel
theorem dX5_isNoSide_13 : decode cX5_isNoSide 13 = .ok (.iconst 0, 1) := by decide +kernel
theorem dX5_isNoSide_14 : decode cX5_isNoSide 14 = .ok (.ireturn, 1) := by decide +kernel
theorem dX5_asNumber_0 : decode cX5_asNumber 0 = .ok (.iload_n 0, 1) := by decide +kernel
theorem dX5_asNumber_1 : decode cX5_asNumber 1 = .ok (.ifCond .eq 7, 3) := by decide +kernel
theorem dX5_asNumber_4 : decode cX5_asNumber 4 = .ok (.iconst 1, 1) := by decide +kernel
theorem dX5_asNumber_5 : decode cX5_asNumber 5 = .ok (.goto 4, 3) := by decide +kernel
theorem dX5_asNumber_8 : decode cX5_asNumber 8 = .ok (.iconst 0, 1) := by decide +kernel
theorem dX5_asNumber_9 : decode cX5_asNumber 9 = .ok (.ireturn, 1) := by decide +kernel
theorem dX5_by64_0 : decode cX5_by64 0 = .ok (.iload_n 0, 1) := by decide +kernel
theorem dX5_by64_1 : decode cX5_by64 1 = .ok (.bipush 63, 2) := by decide +kernel
theorem dX5_by64_3 : decode cX5_by64 3 = .ok (.iand, 1) := by decide +kernel
theorem dX5_by64_4 : decode cX5_by64 4 = .ok (.ireturn, 1) := by decide +kernel
theorem dX5_checkOf_0 : decode cX5_checkOf 0 = .ok (.iload_n 0, 1) := by decide +kernel
theorem dX5_checkOf_1 : decode cX5_checkOf 1 = .ok (.bipush 32, 2) := by decide +kernel
theorem dX5_checkOf_3 : decode cX5_checkOf 3 = .ok (.if_icmp .ne 9, 3) := by decide +kernel
theorem dX5_checkOf_6 : decode cX5_checkOf 6 = .ok (.ldc2_w 157, 3) := by decide +kernel
theorem dX5_checkOf_9 : decode cX5_checkOf 9 = .ok (.goto 6, 3) := by decide +kernel
theorem dX5_checkOf_12 : decode cX5_checkOf 12 = .ok (.ldc2_w 159, 3) := by decide +kernel
theorem dX5_checkOf_15 : decode cX5_checkOf 15 = .ok (.lstore 4, 2) := by decide +kernel
theorem dX5_checkOf_17 : decode cX5_checkOf 17 = .ok (.lconst 1, 1) := by decide +kernel
theorem dX5_checkOf_18 : decode cX5_checkOf 18 = .ok (.iload_n 0, 1) := by decide +kernel
theorem dX5_checkOf_19 : decode cX5_checkOf 19 = .ok (.lshl, 1) := by decide +kernel
theorem dX5_checkOf_20 : decode cX5_checkOf 20 = .ok (.lconst 1, 1) := by decide +kernel
theorem dX5_checkOf_21 : decode cX5_checkOf 21 = .ok (.lsub, 1) := by decide +kernel
theorem dX5_checkOf_22 : decode cX5_checkOf 22 = .ok (.lstore 6, 2) := by decide +kernel
theorem dX5_checkOf_24 : decode cX5_checkOf 24 = .ok (.lload 6, 2) := by decide +kernel
theorem dX5_checkOf_26 : decode cX5_checkOf 26 = .ok (.lstore 8, 2) := by decide +kernel
theorem dX5_checkOf_28 : decode cX5_checkOf 28 = .ok (.iload_n 2, 1) := by decide +kernel
theorem dX5_checkOf_29 : decode cX5_checkOf 29 = .ok (.istore 10, 2) := by decide +kernel
theorem dX5_checkOf_31 : decode cX5_checkOf 31 = .ok (.iload 10, 2) := by decide +kernel
theorem dX5_checkOf_33 : decode cX5_checkOf 33 = .ok (.iload_n 3, 1) := by decide +kernel
theorem dX5_checkOf_34 : decode cX5_checkOf 34 = .ok (.if_icmp .ge 60, 3) := by decide +kernel
theorem dX5_checkOf_37 : decode cX5_checkOf 37 = .ok (.lload 8, 2) := by decide +kernel
theorem dX5_checkOf_39 : decode cX5_checkOf 39 = .ok (.aload_n 1, 1) := by decide +kernel
theorem dX5_checkOf_40 : decode cX5_checkOf 40 = .ok (.iload 10, 2) := by decide +kernel
theorem dX5_checkOf_42 : decode cX5_checkOf 42 = .ok (.iaload, 1) := by decide +kernel
theorem dX5_checkOf_43 : decode cX5_checkOf 43 = .ok (.i2l, 1) := by decide +kernel
theorem dX5_checkOf_44 : decode cX5_checkOf 44 = .ok (.lxor, 1) := by decide +kernel
theorem dX5_checkOf_45 : decode cX5_checkOf 45 = .ok (.lstore 8, 2) := by decide +kernel
theorem dX5_checkOf_47 : decode cX5_checkOf 47 = .ok (.iconst 0, 1) := by decide +kernel
theorem dX5_checkOf_48 : decode cX5_checkOf 48 = .ok (.istore 11, 2) := by decide +kernel
theorem dX5_checkOf_50 : decode cX5_checkOf 50 = .ok (.iload 11, 2) := by decide +kernel
theorem dX5_checkOf_52 : decode cX5_checkOf 52 = .ok (.bipush 8, 2) := by decide +kernel
theorem dX5_checkOf_54 : decode cX5_checkOf 54 = .ok (.if_icmp .ge 34, 3) := by decide +kernel
theorem dX5_checkOf_57 : decode cX5_checkOf 57 = .ok (.lload 8, 2) := by decide +kernel
theorem dX5_checkOf_59 : decode cX5_checkOf 59 = .ok (.lconst 1, 1) := by decide +kernel
theorem dX5_checkOf_60 : decode cX5_checkOf 60 = .ok (.land, 1) := by decide +kernel
theorem dX5_checkOf_61 : decode cX5_checkOf 61 = .ok (.lconst 0, 1) := by decide +kernel
theorem dX5_checkOf_62 : decode cX5_checkOf 62 = .ok (.lcmp, 1) := by decide +kernel
theorem dX5_checkOf_63 : decode cX5_checkOf 63 = .ok (.ifCond .ne 10, 3) := by decide +kernel
theorem dX5_checkOf_66 : decode cX5_checkOf 66 = .ok (.lload 8, 2) := by decide +kernel
theorem dX5_checkOf_68 : decode cX5_checkOf 68 = .ok (.iconst 1, 1) := by decide +kernel
theorem dX5_checkOf_69 : decode cX5_checkOf 69 = .ok (.lushr, 1) := by decide +kernel
theorem dX5_checkOf_70 : decode cX5_checkOf 70 = .ok (.goto 10, 3) := by decide +kernel
theorem dX5_checkOf_73 : decode cX5_checkOf 73 = .ok (.lload 8, 2) := by decide +kernel
theorem dX5_checkOf_75 : decode cX5_checkOf 75 = .ok (.iconst 1, 1) := by decide +kernel
theorem dX5_checkOf_76 : decode cX5_checkOf 76 = .ok (.lushr, 1) := by decide +kernel
theorem dX5_checkOf_77 : decode cX5_checkOf 77 = .ok (.lload 4, 2) := by decide +kernel
theorem dX5_checkOf_79 : decode cX5_checkOf 79 = .ok (.lxor, 1) := by decide +kernel
theorem dX5_checkOf_80 : decode cX5_checkOf 80 = .ok (.lstore 8, 2) := by decide +kernel
theorem dX5_checkOf_82 : decode cX5_checkOf 82 = .ok (.iinc 11 1, 3) := by decide +kernel
theorem dX5_checkOf_85 : decode cX5_checkOf 85 = .ok (.goto (-35), 3) := by decide +kernel
theorem dX5_checkOf_88 : decode cX5_checkOf 88 = .ok (.iinc 10 1, 3) := by decide +kernel
theorem dX5_checkOf_91 : decode cX5_checkOf 91 = .ok (.goto (-60), 3) := by decide +kernel
theorem dX5_checkOf_94 : decode cX5_checkOf 94 = .ok (.lload 8, 2) := by decide +kernel
theorem dX5_checkOf_96 : decode cX5_checkOf 96 = .ok (.lload 6, 2) := by decide +kernel
theorem dX5_checkOf_98 : decode cX5_checkOf 98 = .ok (.lxor, 1) := by decide +kernel
theorem dX5_checkOf_99 : decode cX5_checkOf 99 = .ok (.lreturn, 1) := by decide +kernel
theorem dX5_turned_0 : decode cX5_turned 0 = .ok (.lload_n 0, 1) := by decide +kernel
theorem dX5_turned_1 : decode cX5_turned 1 = .ok (.ldc2_w 161, 3) := by decide +kernel
theorem dX5_turned_4 : decode cX5_turned 4 = .ok (.lxor, 1) := by decide +kernel
theorem dX5_turned_5 : decode cX5_turned 5 = .ok (.lreturn, 1) := by decide +kernel
theorem dX6_init_0 : decode cX6_init 0 = .ok (.aload_n 0, 1) := by decide +kernel
theorem dX6_init_1 : decode cX6_init 1 = .ok (.invokespecial 1, 3) := by decide +kernel
theorem dX6_init_4 : decode cX6_init 4 = .ok (.aload_n 0, 1) := by decide +kernel
theorem dX6_init_5 : decode cX6_init 5 = .ok (.sipush 8000, 3) := by decide +kernel
theorem dX6_init_8 : decode cX6_init 8 = .ok (.newarray .int, 2) := by decide +kernel
theorem dX6_init_10 : decode cX6_init 10 = .ok (.putfield 7, 3) := by decide +kernel
theorem dX6_init_13 : decode cX6_init 13 = .ok (.aload_n 0, 1) := by decide +kernel
theorem dX6_init_14 : decode cX6_init 14 = .ok (.sipush 16000, 3) := by decide +kernel
theorem dX6_init_17 : decode cX6_init 17 = .ok (.newarray .int, 2) := by decide +kernel
theorem dX6_init_19 : decode cX6_init 19 = .ok (.putfield 13, 3) := by decide +kernel
theorem dX6_init_22 : decode cX6_init 22 = .ok (.aload_n 0, 1) := by decide +kernel
theorem dX6_init_23 : decode cX6_init 23 = .ok (.iconst 2, 1) := by decide +kernel
theorem dX6_init_24 : decode cX6_init 24 = .ok (.newarray .boolean, 2) := by decide +kernel
theorem dX6_init_26 : decode cX6_init 26 = .ok (.putfield 16, 3) := by decide +kernel
theorem dX6_init_29 : decode cX6_init 29 = .ok (.aload_n 0, 1) := by decide +kernel
theorem dX6_init_30 : decode cX6_init 30 = .ok (.getfield 7, 3) := by decide +kernel
theorem dX6_init_33 : decode cX6_init 33 = .ok (.iconst 0, 1) := by decide +kernel
theorem dX6_init_34 : decode cX6_init 34 = .ok (.iconst 1, 1) := by decide +kernel
theorem dX6_init_35 : decode cX6_init 35 = .ok (.iastore, 1) := by decide +kernel
theorem dX6_init_36 : decode cX6_init 36 = .ok (.aload_n 0, 1) := by decide +kernel
theorem dX6_init_37 : decode cX6_init 37 = .ok (.getfield 7, 3) := by decide +kernel
theorem dX6_init_40 : decode cX6_init 40 = .ok (.iconst 1, 1) := by decide +kernel
theorem dX6_init_41 : decode cX6_init 41 = .ok (.bipush 12, 2) := by decide +kernel
theorem dX6_init_43 : decode cX6_init 43 = .ok (.iastore, 1) := by decide +kernel
theorem dX6_init_44 : decode cX6_init 44 = .ok (.aload_n 0, 1) := by decide +kernel
theorem dX6_init_45 : decode cX6_init 45 = .ok (.getfield 7, 3) := by decide +kernel
theorem dX6_init_48 : decode cX6_init 48 = .ok (.iconst 2, 1) := by decide +kernel
theorem dX6_init_49 : decode cX6_init 49 = .ok (.iconst 2, 1) := by decide +kernel
theorem dX6_init_50 : decode cX6_init 50 = .ok (.iastore, 1) := by decide +kernel
theorem dX6_init_51 : decode cX6_init 51 = .ok (.iconst 0, 1) := by decide +kernel
theorem dX6_init_52 : decode cX6_init 52 = .ok (.istore_n 1, 1) := by decide +kernel
theorem dX6_init_53 : decode cX6_init 53 = .ok (.iload_n 1, 1) := by decide +kernel
theorem dX6_init_54 : decode cX6_init 54 = .ok (.iconst 2, 1) := by decide +kernel
theorem dX6_init_55 : decode cX6_init 55 = .ok (.if_icmp .ge 36, 3) := by decide +kernel
theorem dX6_init_58 : decode cX6_init 58 = .ok (.aload_n 0, 1) := by decide +kernel
theorem dX6_init_59 : decode cX6_init 59 = .ok (.getfield 7, 3) := by decide +kernel
theorem dX6_init_62 : decode cX6_init 62 = .ok (.iload_n 1, 1) := by decide +kernel
theorem dX6_init_63 : decode cX6_init 63 = .ok (.invokestatic 20, 3) := by decide +kernel
theorem dX6_init_66 : decode cX6_init 66 = .ok (.iconst 3, 1) := by decide +kernel
theorem dX6_init_67 : decode cX6_init 67 = .ok (.iadd, 1) := by decide +kernel
theorem dX6_init_68 : decode cX6_init 68 = .ok (.bipush 63, 2) := by decide +kernel
theorem dX6_init_70 : decode cX6_init 70 = .ok (.iastore, 1) := by decide +kernel
theorem dX6_init_71 : decode cX6_init 71 = .ok (.aload_n 0, 1) := by decide +kernel
theorem dX6_init_72 : decode cX6_init 72 = .ok (.getfield 7, 3) := by decide +kernel
theorem dX6_init_75 : decode cX6_init 75 = .ok (.iload_n 1, 1) := by decide +kernel
theorem dX6_init_76 : decode cX6_init 76 = .ok (.invokestatic 20, 3) := by decide +kernel
theorem dX6_init_79 : decode cX6_init 79 = .ok (.bipush 9, 2) := by decide +kernel
theorem dX6_init_81 : decode cX6_init 81 = .ok (.iadd, 1) := by decide +kernel
theorem dX6_init_82 : decode cX6_init 82 = .ok (.bipush (-4), 2) := by decide +kernel
theorem dX6_init_84 : decode cX6_init 84 = .ok (.iastore, 1) := by decide +kernel
theorem dX6_init_85 : decode cX6_init 85 = .ok (.iinc 1 1, 3) := by decide +kernel
theorem dX6_init_88 : decode cX6_init 88 = .ok (.goto (-35), 3) := by decide +kernel
theorem dX6_init_91 : decode cX6_init 91 = .ok (.return_, 1) := by decide +kernel
theorem dX6_in_0 : decode cX6_in 0 = .ok (.lload_n 0, 1) := by decide +kernel
theorem dX6_in_1 : decode cX6_in 1 = .ok (.lload_n 2, 1) := by decide +kernel
theorem dX6_in_2 : decode cX6_in 2 = .ok (.lcmp, 1) := by decide +kernel
theorem dX6_in_3 : decode cX6_in 3 = .ok (.ifCond .lt 14, 3) := by decide +kernel
theorem dX6_in_6 : decode cX6_in 6 = .ok (.lload_n 0, 1) := by decide +kernel
theorem dX6_in_7 : decode cX6_in 7 = .ok (.lload 4, 2) := by decide +kernel
theorem dX6_in_9 : decode cX6_in 9 = .ok (.lcmp, 1) := by decide +kernel
theorem dX6_in_10 : decode cX6_in 10 = .ok (.ifCond .gt 7, 3) := by decide +kernel
theorem dX6_in_13 : decode cX6_in 13 = .ok (.iconst 1, 1) := by decide +kernel
theorem dX6_in_14 : decode cX6_in 14 = .ok (.goto 4, 3) := by decide +kernel
theorem dX6_in_17 : decode cX6_in 17 = .ok (.iconst 0, 1) := by decide +kernel
theorem dX6_in_18 : decode cX6_in 18 = .ok (.ireturn, 1) := by decide +kernel
theorem dX6_endAt_0 : decode cX6_endAt 0 = .ok (.bipush 100, 2) := by decide +kernel
theorem dX6_endAt_2 : decode cX6_endAt 2 = .ok (.bipush 100, 2) := by decide +kernel
theorem dX6_endAt_4 : decode cX6_endAt 4 = .ok (.iload_n 0, 1) := by decide +kernel
theorem dX6_endAt_5 : decode cX6_endAt 5 = .ok (.imul, 1) := by decide +kernel
theorem dX6_endAt_6 : decode cX6_endAt 6 = .ok (.iadd, 1) := by decide +kernel
theorem dX6_endAt_7 : decode cX6_endAt 7 = .ok (.ireturn, 1) := by decide +kernel
theorem dX6_wireAt_0 : decode cX6_wireAt 0 = .ok (.sipush 300, 3) := by decide +kernel
theorem dX6_wireAt_3 : decode cX6_wireAt 3 = .ok (.sipush 500, 3) := by decide +kernel
theorem dX6_wireAt_6 : decode cX6_wireAt 6 = .ok (.iload_n 0, 1) := by decide +kernel
theorem dX6_wireAt_7 : decode cX6_wireAt 7 = .ok (.imul, 1) := by decide +kernel
theorem dX6_wireAt_8 : decode cX6_wireAt 8 = .ok (.iadd, 1) := by decide +kernel
theorem dX6_wireAt_9 : decode cX6_wireAt 9 = .ok (.ireturn, 1) := by decide +kernel
theorem dX6_frameAt_0 : decode cX6_frameAt 0 = .ok (.iload_n 0, 1) := by decide +kernel
theorem dX6_frameAt_1 : decode cX6_frameAt 1 = .ok (.invokestatic 24, 3) := by decide +kernel
theorem dX6_frameAt_4 : decode cX6_frameAt 4 = .ok (.iconst 1, 1) := by decide +kernel
theorem dX6_frameAt_5 : decode cX6_frameAt 5 = .ok (.iadd, 1) := by decide +kernel
theorem dX6_frameAt_6 : decode cX6_frameAt 6 = .ok (.bipush 36, 2) := by decide +kernel
theorem dX6_frameAt_8 : decode cX6_frameAt 8 = .ok (.iload_n 1, 1) := by decide +kernel
theorem dX6_frameAt_9 : decode cX6_frameAt 9 = .ok (.imul, 1) := by decide +kernel
theorem dX6_frameAt_10 : decode cX6_frameAt 10 = .ok (.iadd, 1) := by decide +kernel
theorem dX6_frameAt_11 : decode cX6_frameAt 11 = .ok (.ireturn, 1) := by decide +kernel
theorem dX6_packetAt_0 : decode cX6_packetAt 0 = .ok (.sipush 1400, 3) := by decide +kernel
theorem dX6_packetAt_3 : decode cX6_packetAt 3 = .ok (.sipush 1600, 3) := by decide +kernel
theorem dX6_packetAt_6 : decode cX6_packetAt 6 = .ok (.iload_n 0, 1) := by decide +kernel
theorem dX6_packetAt_7 : decode cX6_packetAt 7 = .ok (.imul, 1) := by decide +kernel
theorem dX6_packetAt_8 : decode cX6_packetAt 8 = .ok (.iadd, 1) := by decide +kernel
theorem dX6_packetAt_9 : decode cX6_packetAt 9 = .ok (.bipush 25, 2) := by decide +kernel
theorem dX6_packetAt_11 : decode cX6_packetAt 11 = .ok (.iload_n 1, 1) := by decide +kernel
theorem dX6_packetAt_12 : decode cX6_packetAt 12 = .ok (.imul, 1) := by decide +kernel
theorem dX6_packetAt_13 : decode cX6_packetAt 13 = .ok (.iadd, 1) := by decide +kernel
theorem dX6_packetAt_14 : decode cX6_packetAt 14 = .ok (.ireturn, 1) := by decide +kernel
theorem dX6_upAt_0 : decode cX6_upAt 0 = .ok (.sipush 4600, 3) := by decide +kernel
theorem dX6_upAt_3 : decode cX6_upAt 3 = .ok (.sipush 1600, 3) := by decide +kernel
theorem dX6_upAt_6 : decode cX6_upAt 6 = .ok (.iload_n 0, 1) := by decide +kernel
theorem dX6_upAt_7 : decode cX6_upAt 7 = .ok (.imul, 1) := by decide +kernel
theorem dX6_upAt_8 : decode cX6_upAt 8 = .ok (.iadd, 1) := by decide +kernel
theorem dX6_upAt_9 : decode cX6_upAt 9 = .ok (.bipush 25, 2) := by decide +kernel
theorem dX6_upAt_11 : decode cX6_upAt 11 = .ok (.iload_n 1, 1) := by decide +kernel
theorem dX6_upAt_12 : decode cX6_upAt 12 = .ok (.imul, 1) := by decide +kernel
theorem dX6_upAt_13 : decode cX6_upAt 13 = .ok (.iadd, 1) := by decide +kernel
theorem dX6_upAt_14 : decode cX6_upAt 14 = .ok (.ireturn, 1) := by decide +kernel
theorem dX6_by64_0 : decode cX6_by64 0 = .ok (.iload_n 0, 1) := by decide +kernel
theorem dX6_by64_1 : decode cX6_by64 1 = .ok (.bipush 64, 2) := by decide +kernel
theorem dX6_by64_3 : decode cX6_by64 3 = .ok (.irem, 1) := by decide +kernel
theorem dX6_by64_4 : decode cX6_by64 4 = .ok (.ifCond .ge 13, 3) := by decide +kernel
theorem dX6_by64_7 : decode cX6_by64 7 = .ok (.iload_n 0, 1) := by decide +kernel
theorem dX6_by64_8 : decode cX6_by64 8 = .ok (.bipush 64, 2) := by decide +kernel
theorem dX6_by64_10 : decode cX6_by64 10 = .ok (.irem, 1) := by decide +kernel
theorem dX6_by64_11 : decode cX6_by64 11 = .ok (.bipush 64, 2) := by decide +kernel
theorem dX6_by64_13 : decode cX6_by64 13 = .ok (.iadd, 1) := by decide +kernel
theorem dX6_by64_14 : decode cX6_by64 14 = .ok (.goto 7, 3) := by decide +kernel
theorem dX6_by64_17 : decode cX6_by64 17 = .ok (.iload_n 0, 1) := by decide +kernel
theorem dX6_by64_18 : decode cX6_by64 18 = .ok (.bipush 64, 2) := by decide +kernel
theorem dX6_by64_20 : decode cX6_by64 20 = .ok (.irem, 1) := by decide +kernel
theorem dX6_by64_21 : decode cX6_by64 21 = .ok (.ireturn, 1) := by decide +kernel
theorem dX6_isEnd_0 : decode cX6_isEnd 0 = .ok (.iload_n 0, 1) := by decide +kernel
theorem dX6_isEnd_1 : decode cX6_isEnd 1 = .ok (.ifCond .eq 8, 3) := by decide +kernel
theorem dX6_isEnd_4 : decode cX6_isEnd 4 = .ok (.iload_n 0, 1) := by decide +kernel
theorem dX6_isEnd_5 : decode cX6_isEnd 5 = .ok (.iconst 1, 1) := by decide +kernel
theorem dX6_isEnd_6 : decode cX6_isEnd 6 = .ok (.if_icmp .ne 7, 3) := by decide +kernel
theorem dX6_isEnd_9 : decode cX6_isEnd 9 = .ok (.iconst 1, 1) := by decide +kernel
theorem dX6_isEnd_10 : decode cX6_isEnd 10 = .ok (.goto 4, 3) := by decide +kernel
theorem dX6_isEnd_13 : decode cX6_isEnd 13 = .ok (.iconst 0, 1) := by decide +kernel
theorem dX6_isEnd_14 : decode cX6_isEnd 14 = .ok (.ireturn, 1) := by decide +kernel
theorem dX6_begins_0 : decode cX6_begins 0 = .ok (.aload_n 0, 1) := by decide +kernel
theorem dX6_begins_1 : decode cX6_begins 1 = .ok (.iload_n 1, 1) := by decide +kernel
theorem dX6_begins_2 : decode cX6_begins 2 = .ok (.ifCond .eq 9, 3) := by decide +kernel
theorem dX6_begins_5 : decode cX6_begins 5 = .ok (.ldc2_w 27, 3) := by decide +kernel
theorem dX6_begins_8 : decode cX6_begins 8 = .ok (.goto 6, 3) := by decide +kernel
theorem dX6_begins_11 : decode cX6_begins 11 = .ok (.ldc2_w 29, 3) := by decide +kernel
theorem dX6_begins_14 : decode cX6_begins 14 = .ok (.putfield 31, 3) := by decide +kernel
theorem dX6_begins_17 : decode cX6_begins 17 = .ok (.return_, 1) := by decide +kernel
theorem dX6_adds_0 : decode cX6_adds 0 = .ok (.aload_n 0, 1) := by decide +kernel
theorem dX6_adds_1 : decode cX6_adds 1 = .ok (.aload_n 0, 1) := by decide +kernel
theorem dX6_adds_2 : decode cX6_adds 2 = .ok (.getfield 31, 3) := by decide +kernel
theorem dX6_adds_5 : decode cX6_adds 5 = .ok (.iload_n 1, 1) := by decide +kernel
theorem dX6_adds_6 : decode cX6_adds 6 = .ok (.sipush 255, 3) := by decide +kernel
theorem dX6_adds_9 : decode cX6_adds 9 = .ok (.iand, 1) := by decide +kernel
theorem dX6_adds_10 : decode cX6_adds 10 = .ok (.i2l, 1) := by decide +kernel
theorem dX6_adds_11 : decode cX6_adds 11 = .ok (.lxor, 1) := by decide +kernel
theorem dX6_adds_12 : decode cX6_adds 12 = .ok (.putfield 31, 3) := by decide +kernel
theorem dX6_adds_15 : decode cX6_adds 15 = .ok (.iconst 0, 1) := by decide +kernel
theorem dX6_adds_16 : decode cX6_adds 16 = .ok (.istore_n 3, 1) := by decide +kernel
theorem dX6_adds_17 : decode cX6_adds 17 = .ok (.iload_n 3, 1) := by decide +kernel
theorem dX6_adds_18 : decode cX6_adds 18 = .ok (.bipush 8, 2) := by decide +kernel
theorem dX6_adds_20 : decode cX6_adds 20 = .ok (.if_icmp .ge 53, 3) := by decide +kernel
theorem dX6_adds_23 : decode cX6_adds 23 = .ok (.aload_n 0, 1) := by decide +kernel
theorem dX6_adds_24 : decode cX6_adds 24 = .ok (.aload_n 0, 1) := by decide +kernel
theorem dX6_adds_25 : decode cX6_adds 25 = .ok (.getfield 31, 3) := by decide +kernel
theorem dX6_adds_28 : decode cX6_adds 28 = .ok (.lconst 1, 1) := by decide +kernel
theorem dX6_adds_29 : decode cX6_adds 29 = .ok (.land, 1) := by decide +kernel
theorem dX6_adds_30 : decode cX6_adds 30 = .ok (.lconst 0, 1) := by decide +kernel
theorem dX6_adds_31 : decode cX6_adds 31 = .ok (.lcmp, 1) := by decide +kernel
theorem dX6_adds_32 : decode cX6_adds 32 = .ok (.ifCond .ne 12, 3) := by decide +kernel
theorem dX6_adds_35 : decode cX6_adds 35 = .ok (.aload_n 0, 1) := by decide +kernel
theorem dX6_adds_36 : decode cX6_adds 36 = .ok (.getfield 31, 3) := by decide +kernel
theorem dX6_adds_39 : decode cX6_adds 39 = .ok (.iconst 1, 1) := by decide +kernel
theorem dX6_adds_40 : decode cX6_adds 40 = .ok (.lshr, 1) := by decide +kernel
theorem dX6_adds_41 : decode cX6_adds 41 = .ok (.goto 23, 3) := by decide +kernel
theorem dX6_adds_44 : decode cX6_adds 44 = .ok (.aload_n 0, 1) := by decide +kernel
theorem dX6_adds_45 : decode cX6_adds 45 = .ok (.getfield 31, 3) := by decide +kernel
theorem dX6_adds_48 : decode cX6_adds 48 = .ok (.iconst 1, 1) := by decide +kernel
theorem dX6_adds_49 : decode cX6_adds 49 = .ok (.lshr, 1) := by decide +kernel
theorem dX6_adds_50 : decode cX6_adds 50 = .ok (.iload_n 2, 1) := by decide +kernel
theorem dX6_adds_51 : decode cX6_adds 51 = .ok (.ifCond .eq 9, 3) := by decide +kernel
theorem dX6_adds_54 : decode cX6_adds 54 = .ok (.ldc2_w 35, 3) := by decide +kernel
theorem dX6_adds_57 : decode cX6_adds 57 = .ok (.goto 6, 3) := by decide +kernel
theorem dX6_adds_60 : decode cX6_adds 60 = .ok (.ldc2_w 37, 3) := by decide +kernel
theorem dX6_adds_63 : decode cX6_adds 63 = .ok (.lxor, 1) := by decide +kernel
theorem dX6_adds_64 : decode cX6_adds 64 = .ok (.putfield 31, 3) := by decide +kernel
theorem dX6_adds_67 : decode cX6_adds 67 = .ok (.iinc 3 1, 3) := by decide +kernel
theorem dX6_adds_70 : decode cX6_adds 70 = .ok (.goto (-53), 3) := by decide +kernel
theorem dX6_adds_73 : decode cX6_adds 73 = .ok (.return_, 1) := by decide +kernel
theorem dX6_sumOf_0 : decode cX6_sumOf 0 = .ok (.aload_n 0, 1) := by decide +kernel
theorem dX6_sumOf_1 : decode cX6_sumOf 1 = .ok (.getfield 31, 3) := by decide +kernel
theorem dX6_sumOf_4 : decode cX6_sumOf 4 = .ok (.iload_n 1, 1) := by decide +kernel
theorem dX6_sumOf_5 : decode cX6_sumOf 5 = .ok (.ifCond .eq 9, 3) := by decide +kernel
theorem dX6_sumOf_8 : decode cX6_sumOf 8 = .ok (.ldc2_w 27, 3) := by decide +kernel
theorem dX6_sumOf_11 : decode cX6_sumOf 11 = .ok (.goto 6, 3) := by decide +kernel
theorem dX6_sumOf_14 : decode cX6_sumOf 14 = .ok (.ldc2_w 29, 3) := by decide +kernel
theorem dX6_sumOf_17 : decode cX6_sumOf 17 = .ok (.lxor, 1) := by decide +kernel
theorem dX6_sumOf_18 : decode cX6_sumOf 18 = .ok (.lreturn, 1) := by decide +kernel
theorem dX6_draft_0 : decode cX6_draft 0 = .ok (.iload_n 1, 1) := by decide +kernel
theorem dX6_draft_1 : decode cX6_draft 1 = .ok (.invokestatic 39, 3) := by decide +kernel
theorem dX6_draft_4 : decode cX6_draft 4 = .ok (.ifCond .eq 15, 3) := by decide +kernel
theorem dX6_draft_7 : decode cX6_draft 7 = .ok (.iload_n 2, 1) := by decide +kernel
theorem dX6_draft_8 : decode cX6_draft 8 = .ok (.i2l, 1) := by decide +kernel
theorem dX6_draft_9 : decode cX6_draft 9 = .ok (.lconst 1, 1) := by decide +kernel
theorem dX6_draft_10 : decode cX6_draft 10 = .ok (.ldc2_w 43, 3) := by decide +kernel
theorem dX6_draft_13 : decode cX6_draft 13 = .ok (.invokestatic 45, 3) := by decide +kernel
theorem dX6_draft_16 : decode cX6_draft 16 = .ok (.ifCond .ne 5, 3) := by decide +kernel
theorem dX6_draft_19 : decode cX6_draft 19 = .ok (.iconst (-1), 1) := by decide +kernel
theorem dX6_draft_20 : decode cX6_draft 20 = .ok (.ireturn, 1) := by decide +kernel
theorem dX6_draft_21 : decode cX6_draft 21 = .ok (.iload_n 1, 1) := by decide +kernel
theorem dX6_draft_22 : decode cX6_draft 22 = .ok (.invokestatic 20, 3) := by decide +kernel
theorem dX6_draft_25 : decode cX6_draft 25 = .ok (.istore 5, 2) := by decide +kernel
theorem dX6_draft_27 : decode cX6_draft 27 = .ok (.aload_n 0, 1) := by decide +kernel
theorem dX6_draft_28 : decode cX6_draft 28 = .ok (.getfield 7, 3) := by decide +kernel
theorem dX6_draft_31 : decode cX6_draft 31 = .ok (.iload 5, 2) := by decide +kernel
theorem dX6_draft_33 : decode cX6_draft 33 = .ok (.bipush 13, 2) := by decide +kernel
theorem dX6_draft_35 : decode cX6_draft 35 = .ok (.iadd, 1) := by decide +kernel
theorem dX6_draft_36 : decode cX6_draft 36 = .ok (.iaload, 1) := by decide +kernel
theorem dX6_draft_37 : decode cX6_draft 37 = .ok (.iload_n 2, 1) := by decide +kernel
theorem dX6_draft_38 : decode cX6_draft 38 = .ok (.iadd, 1) := by decide +kernel
theorem dX6_draft_39 : decode cX6_draft 39 = .ok (.bipush 24, 2) := by decide +kernel
theorem dX6_draft_41 : decode cX6_draft 41 = .ok (.if_icmp .le 6, 3) := by decide +kernel
theorem dX6_draft_44 : decode cX6_draft 44 = .ok (.bipush (-3), 2) := by decide +kernel
theorem dX6_draft_46 : decode cX6_draft 46 = .ok (.ireturn, 1) := by decide +kernel
theorem dX6_draft_47 : decode cX6_draft 47 = .ok (.iconst 0, 1) := by decide +kernel
theorem dX6_draft_48 : decode cX6_draft 48 = .ok (.istore 6, 2) := by decide +kernel
theorem dX6_draft_50 : decode cX6_draft 50 = .ok (.iload 6, 2) := by decide +kernel
theorem dX6_draft_52 : decode cX6_draft 52 = .ok (.iload_n 2, 1) := by decide +kernel
theorem dX6_draft_53 : decode cX6_draft 53 = .ok (.if_icmp .ge 56, 3) := by decide +kernel
theorem dX6_draft_56 : decode cX6_draft 56 = .ok (.aload_n 0, 1) := by decide +kernel
theorem dX6_draft_57 : decode cX6_draft 57 = .ok (.getfield 7, 3) := by decide +kernel
theorem dX6_draft_60 : decode cX6_draft 60 = .ok (.iload 5, 2) := by decide +kernel
theorem dX6_draft_62 : decode cX6_draft 62 = .ok (.bipush 20, 2) := by decide +kernel
theorem dX6_draft_64 : decode cX6_draft 64 = .ok (.iadd, 1) := by decide +kernel
theorem dX6_draft_65 : decode cX6_draft 65 = .ok (.aload_n 0, 1) := by decide +kernel
theorem dX6_draft_66 : decode cX6_draft 66 = .ok (.getfield 7, 3) := by decide +kernel
theorem dX6_draft_69 : decode cX6_draft 69 = .ok (.iload 5, 2) := by decide +kernel
theorem dX6_draft_71 : decode cX6_draft 71 = .ok (.bipush 13, 2) := by decide +kernel
theorem dX6_draft_73 : decode cX6_draft 73 = .ok (.iadd, 1) := by decide +kernel
theorem dX6_draft_74 : decode cX6_draft 74 = .ok (.iaload, 1) := by decide +kernel
theorem dX6_draft_75 : decode cX6_draft 75 = .ok (.iadd, 1) := by decide +kernel
theorem dX6_draft_76 : decode cX6_draft 76 = .ok (.lload_n 3, 1) := by decide +kernel
theorem dX6_draft_77 : decode cX6_draft 77 = .ok (.bipush 8, 2) := by decide +kernel
theorem dX6_draft_79 : decode cX6_draft 79 = .ok (.iload 6, 2) := by decide +kernel
theorem dX6_draft_81 : decode cX6_draft 81 = .ok (.imul, 1) := by decide +kernel
theorem dX6_draft_82 : decode cX6_draft 82 = .ok (.lshr, 1) := by decide +kernel
theorem dX6_draft_83 : decode cX6_draft 83 = .ok (.ldc2_w 49, 3) := by decide +kernel
theorem dX6_draft_86 : decode cX6_draft 86 = .ok (.land, 1) := by decide +kernel
theorem dX6_draft_87 : decode cX6_draft 87 = .ok (.l2i, 1) := by decide +kernel
theorem dX6_draft_88 : decode cX6_draft 88 = .ok (.iastore, 1) := by decide +kernel
theorem dX6_draft_89 : decode cX6_draft 89 = .ok (.aload_n 0, 1) := by decide +kernel
theorem dX6_draft_90 : decode cX6_draft 90 = .ok (.getfield 7, 3) := by decide +kernel
theorem dX6_draft_93 : decode cX6_draft 93 = .ok (.iload 5, 2) := by decide +kernel
theorem dX6_draft_95 : decode cX6_draft 95 = .ok (.bipush 13, 2) := by decide +kernel
theorem dX6_draft_97 : decode cX6_draft 97 = .ok (.iadd, 1) := by decide +kernel
theorem dX6_draft_98 : decode cX6_draft 98 = .ok (.dup2, 1) := by decide +kernel
theorem dX6_draft_99 : decode cX6_draft 99 = .ok (.iaload, 1) := by decide +kernel
theorem dX6_draft_100 : decode cX6_draft 100 = .ok (.iconst 1, 1) := by decide +kernel
theorem dX6_draft_101 : decode cX6_draft 101 = .ok (.iadd, 1) := by decide +kernel
theorem dX6_draft_102 : decode cX6_draft 102 = .ok (.iastore, 1) := by decide +kernel
theorem dX6_draft_103 : decode cX6_draft 103 = .ok (.iinc 6 1, 3) := by decide +kernel
theorem dX6_draft_106 : decode cX6_draft 106 = .ok (.goto (-56), 3) := by decide +kernel
theorem dX6_draft_109 : decode cX6_draft 109 = .ok (.aload_n 0, 1) := by decide +kernel
theorem dX6_draft_110 : decode cX6_draft 110 = .ok (.getfield 7, 3) := by decide +kernel
theorem dX6_draft_113 : decode cX6_draft 113 = .ok (.iload 5, 2) := by decide +kernel
theorem dX6_draft_115 : decode cX6_draft 115 = .ok (.bipush 13, 2) := by decide +kernel
theorem dX6_draft_117 : decode cX6_draft 117 = .ok (.iadd, 1) := by decide +kernel
theorem dX6_draft_118 : decode cX6_draft 118 = .ok (.iaload, 1) := by decide +kernel
theorem dX6_draft_119 : decode cX6_draft 119 = .ok (.ireturn, 1) := by decide +kernel
theorem dX6_waiting_0 : decode cX6_waiting 0 = .ok (.aload_n 0, 1) := by decide +kernel
theorem dX6_waiting_1 : decode cX6_waiting 1 = .ok (.getfield 7, 3) := by decide +kernel
theorem dX6_waiting_4 : decode cX6_waiting 4 = .ok (.iload_n 1, 1) := by decide +kernel
theorem dX6_waiting_5 : decode cX6_waiting 5 = .ok (.invokestatic 20, 3) := by decide +kernel
theorem dX6_waiting_8 : decode cX6_waiting 8 = .ok (.iconst 0, 1) := by decide +kernel
theorem dX6_waiting_9 : decode cX6_waiting 9 = .ok (.iadd, 1) := by decide +kernel
theorem dX6_waiting_10 : decode cX6_waiting 10 = .ok (.iaload, 1) := by decide +kernel
theorem dX6_waiting_11 : decode cX6_waiting 11 = .ok (.aload_n 0, 1) := by decide +kernel
theorem dX6_waiting_12 : decode cX6_waiting 12 = .ok (.getfield 7, 3) := by decide +kernel
theorem dX6_waiting_15 : decode cX6_waiting 15 = .ok (.iload_n 1, 1) := by decide +kernel
theorem dX6_waiting_16 : decode cX6_waiting 16 = .ok (.invokestatic 20, 3) := by decide +kernel
theorem dX6_waiting_19 : decode cX6_waiting 19 = .ok (.iconst 1, 1) := by decide +kernel
theorem dX6_waiting_20 : decode cX6_waiting 20 = .ok (.iadd, 1) := by decide +kernel
theorem dX6_waiting_21 : decode cX6_waiting 21 = .ok (.iaload, 1) := by decide +kernel
theorem dX6_waiting_22 : decode cX6_waiting 22 = .ok (.isub, 1) := by decide +kernel
theorem dX6_waiting_23 : decode cX6_waiting 23 = .ok (.ireturn, 1) := by decide +kernel
theorem dX6_offer_0 : decode cX6_offer 0 = .ok (.iload_n 1, 1) := by decide +kernel
theorem dX6_offer_1 : decode cX6_offer 1 = .ok (.invokestatic 39, 3) := by decide +kernel
theorem dX6_offer_4 : decode cX6_offer 4 = .ok (.ifCond .ne 5, 3) := by decide +kernel
theorem dX6_offer_7 : decode cX6_offer 7 = .ok (.iconst (-1), 1) := by decide +kernel
theorem dX6_offer_8 : decode cX6_offer 8 = .ok (.ireturn, 1) := by decide +kernel
theorem dX6_offer_9 : decode cX6_offer 9 = .ok (.iload_n 1, 1) := by decide +kernel
theorem dX6_offer_10 : decode cX6_offer 10 = .ok (.invokestatic 20, 3) := by decide +kernel
theorem dX6_offer_13 : decode cX6_offer 13 = .ok (.istore_n 2, 1) := by decide +kernel
theorem dX6_offer_14 : decode cX6_offer 14 = .ok (.aload_n 0, 1) := by decide +kernel
theorem dX6_offer_15 : decode cX6_offer 15 = .ok (.getfield 7, 3) := by decide +kernel
theorem dX6_offer_18 : decode cX6_offer 18 = .ok (.iload_n 2, 1) := by decide +kernel
theorem dX6_offer_19 : decode cX6_offer 19 = .ok (.bipush 13, 2) := by decide +kernel
theorem dX6_offer_21 : decode cX6_offer 21 = .ok (.iadd, 1) := by decide +kernel
theorem dX6_offer_22 : decode cX6_offer 22 = .ok (.iaload, 1) := by decide +kernel
theorem dX6_offer_23 : decode cX6_offer 23 = .ok (.ifCond .ne 6, 3) := by decide +kernel
theorem dX6_offer_26 : decode cX6_offer 26 = .ok (.bipush (-2), 2) := by decide +kernel
theorem dX6_offer_28 : decode cX6_offer 28 = .ok (.ireturn, 1) := by decide +kernel
theorem dX6_offer_29 : decode cX6_offer 29 = .ok (.aload_n 0, 1) := by decide +kernel
theorem dX6_offer_30 : decode cX6_offer 30 = .ok (.iload_n 1, 1) := by decide +kernel
theorem dX6_offer_31 : decode cX6_offer 31 = .ok (.invokevirtual 51, 3) := by decide +kernel
theorem dX6_offer_34 : decode cX6_offer 34 = .ok (.bipush 16, 2) := by decide +kernel
theorem dX6_offer_36 : decode cX6_offer 36 = .ok (.if_icmp .eq 16, 3) := by decide +kernel
theorem dX6_offer_39 : decode cX6_offer 39 = .ok (.aload_n 0, 1) := by decide +kernel
theorem dX6_offer_40 : decode cX6_offer 40 = .ok (.getfield 7, 3) := by decide +kernel
theorem dX6_offer_43 : decode cX6_offer 43 = .ok (.iload_n 2, 1) := by decide +kernel
theorem dX6_offer_44 : decode cX6_offer 44 = .ok (.iconst 0, 1) := by decide +kernel
theorem dX6_offer_45 : decode cX6_offer 45 = .ok (.iadd, 1) := by decide +kernel
theorem dX6_offer_46 : decode cX6_offer 46 = .ok (.iaload, 1) := by decide +kernel
theorem dX6_offer_47 : decode cX6_offer 47 = .ok (.bipush 60, 2) := by decide +kernel
theorem dX6_offer_49 : decode cX6_offer 49 = .ok (.if_icmp .ne 6, 3) := by decide +kernel
theorem dX6_offer_52 : decode cX6_offer 52 = .ok (.bipush (-3), 2) := by decide +kernel
theorem dX6_offer_54 : decode cX6_offer 54 = .ok (.ireturn, 1) := by decide +kernel
theorem dX6_offer_55 : decode cX6_offer 55 = .ok (.iload_n 1, 1) := by decide +kernel
theorem dX6_offer_56 : decode cX6_offer 56 = .ok (.aload_n 0, 1) := by decide +kernel
theorem dX6_offer_57 : decode cX6_offer 57 = .ok (.getfield 7, 3) := by decide +kernel
theorem dX6_offer_60 : decode cX6_offer 60 = .ok (.iload_n 2, 1) := by decide +kernel
theorem dX6_offer_61 : decode cX6_offer 61 = .ok (.iconst 0, 1) := by decide +kernel
theorem dX6_offer_62 : decode cX6_offer 62 = .ok (.iadd, 1) := by decide +kernel
theorem dX6_offer_63 : decode cX6_offer 63 = .ok (.iaload, 1) := by decide +kernel
theorem dX6_offer_64 : decode cX6_offer 64 = .ok (.invokestatic 54, 3) := by decide +kernel
theorem dX6_offer_67 : decode cX6_offer 67 = .ok (.istore_n 3, 1) := by decide +kernel
theorem dX6_offer_68 : decode cX6_offer 68 = .ok (.aload_n 0, 1) := by decide +kernel
theorem dX6_offer_69 : decode cX6_offer 69 = .ok (.getfield 7, 3) := by decide +kernel
theorem dX6_offer_72 : decode cX6_offer 72 = .ok (.iload_n 3, 1) := by decide +kernel
theorem dX6_offer_73 : decode cX6_offer 73 = .ok (.aload_n 0, 1) := by decide +kernel
theorem dX6_offer_74 : decode cX6_offer 74 = .ok (.getfield 7, 3) := by decide +kernel
theorem dX6_offer_77 : decode cX6_offer 77 = .ok (.iload_n 2, 1) := by decide +kernel
theorem dX6_offer_78 : decode cX6_offer 78 = .ok (.bipush 13, 2) := by decide +kernel
theorem dX6_offer_80 : decode cX6_offer 80 = .ok (.iadd, 1) := by decide +kernel
theorem dX6_offer_81 : decode cX6_offer 81 = .ok (.iaload, 1) := by decide +kernel
theorem dX6_offer_82 : decode cX6_offer 82 = .ok (.iastore, 1) := by decide +kernel
theorem dX6_offer_83 : decode cX6_offer 83 = .ok (.iconst 0, 1) := by decide +kernel
theorem dX6_offer_84 : decode cX6_offer 84 = .ok (.istore 4, 2) := by decide +kernel
theorem dX6_offer_86 : decode cX6_offer 86 = .ok (.iload 4, 2) := by decide +kernel
theorem dX6_offer_88 : decode cX6_offer 88 = .ok (.aload_n 0, 1) := by decide +kernel
theorem dX6_offer_89 : decode cX6_offer 89 = .ok (.getfield 7, 3) := by decide +kernel
theorem dX6_offer_92 : decode cX6_offer 92 = .ok (.iload_n 3, 1) := by decide +kernel
theorem dX6_offer_93 : decode cX6_offer 93 = .ok (.iaload, 1) := by decide +kernel
theorem dX6_offer_94 : decode cX6_offer 94 = .ok (.if_icmp .ge 32, 3) := by decide +kernel
theorem dX6_offer_97 : decode cX6_offer 97 = .ok (.aload_n 0, 1) := by decide +kernel
theorem dX6_offer_98 : decode cX6_offer 98 = .ok (.getfield 7, 3) := by decide +kernel
theorem dX6_offer_101 : decode cX6_offer 101 = .ok (.iload_n 3, 1) := by decide +kernel
theorem dX6_offer_102 : decode cX6_offer 102 = .ok (.iconst 1, 1) := by decide +kernel
theorem dX6_offer_103 : decode cX6_offer 103 = .ok (.iadd, 1) := by decide +kernel
theorem dX6_offer_104 : decode cX6_offer 104 = .ok (.iload 4, 2) := by decide +kernel
theorem dX6_offer_106 : decode cX6_offer 106 = .ok (.iadd, 1) := by decide +kernel
theorem dX6_offer_107 : decode cX6_offer 107 = .ok (.aload_n 0, 1) := by decide +kernel
theorem dX6_offer_108 : decode cX6_offer 108 = .ok (.getfield 7, 3) := by decide +kernel
theorem dX6_offer_111 : decode cX6_offer 111 = .ok (.iload_n 2, 1) := by decide +kernel
theorem dX6_offer_112 : decode cX6_offer 112 = .ok (.bipush 20, 2) := by decide +kernel
theorem dX6_offer_114 : decode cX6_offer 114 = .ok (.iadd, 1) := by decide +kernel
theorem dX6_offer_115 : decode cX6_offer 115 = .ok (.iload 4, 2) := by decide +kernel
theorem dX6_offer_117 : decode cX6_offer 117 = .ok (.iadd, 1) := by decide +kernel
theorem dX6_offer_118 : decode cX6_offer 118 = .ok (.iaload, 1) := by decide +kernel
theorem dX6_offer_119 : decode cX6_offer 119 = .ok (.iastore, 1) := by decide +kernel
theorem dX6_offer_120 : decode cX6_offer 120 = .ok (.iinc 4 1, 3) := by decide +kernel
theorem dX6_offer_123 : decode cX6_offer 123 = .ok (.goto (-37), 3) := by decide +kernel
theorem dX6_offer_126 : decode cX6_offer 126 = .ok (.aload_n 0, 1) := by decide +kernel
theorem dX6_offer_127 : decode cX6_offer 127 = .ok (.getfield 7, 3) := by decide +kernel
theorem dX6_offer_130 : decode cX6_offer 130 = .ok (.iload_n 2, 1) := by decide +kernel
theorem dX6_offer_131 : decode cX6_offer 131 = .ok (.iconst 0, 1) := by decide +kernel
theorem dX6_offer_132 : decode cX6_offer 132 = .ok (.iadd, 1) := by decide +kernel
theorem dX6_offer_133 : decode cX6_offer 133 = .ok (.dup2, 1) := by decide +kernel
theorem dX6_offer_134 : decode cX6_offer 134 = .ok (.iaload, 1) := by decide +kernel
theorem dX6_offer_135 : decode cX6_offer 135 = .ok (.iconst 1, 1) := by decide +kernel
theorem dX6_offer_136 : decode cX6_offer 136 = .ok (.iadd, 1) := by decide +kernel
theorem dX6_offer_137 : decode cX6_offer 137 = .ok (.iastore, 1) := by decide +kernel
theorem dX6_offer_138 : decode cX6_offer 138 = .ok (.aload_n 0, 1) := by decide +kernel
theorem dX6_offer_139 : decode cX6_offer 139 = .ok (.getfield 7, 3) := by decide +kernel
theorem dX6_offer_142 : decode cX6_offer 142 = .ok (.iload_n 2, 1) := by decide +kernel
theorem dX6_offer_143 : decode cX6_offer 143 = .ok (.bipush 13, 2) := by decide +kernel
theorem dX6_offer_145 : decode cX6_offer 145 = .ok (.iadd, 1) := by decide +kernel
theorem dX6_offer_146 : decode cX6_offer 146 = .ok (.iconst 0, 1) := by decide +kernel
theorem dX6_offer_147 : decode cX6_offer 147 = .ok (.iastore, 1) := by decide +kernel
theorem dX6_offer_148 : decode cX6_offer 148 = .ok (.aload_n 0, 1) := by decide +kernel
theorem dX6_offer_149 : decode cX6_offer 149 = .ok (.iload_n 1, 1) := by decide +kernel
theorem dX6_offer_150 : decode cX6_offer 150 = .ok (.invokevirtual 51, 3) := by decide +kernel
theorem dX6_offer_153 : decode cX6_offer 153 = .ok (.ireturn, 1) := by decide +kernel
theorem dX6_check_0 : decode cX6_check 0 = .ok (.iload_n 1, 1) := by decide +kernel
theorem dX6_check_1 : decode cX6_check 1 = .ok (.invokestatic 39, 3) := by decide +kernel
theorem dX6_check_4 : decode cX6_check 4 = .ok (.ifCond .eq 13, 3) := by decide +kernel
theorem dX6_check_7 : decode cX6_check 7 = .ok (.iload_n 2, 1) := by decide +kernel
theorem dX6_check_8 : decode cX6_check 8 = .ok (.i2l, 1) := by decide +kernel
theorem dX6_check_9 : decode cX6_check 9 = .ok (.lconst 0, 1) := by decide +kernel
theorem dX6_check_10 : decode cX6_check 10 = .ok (.lconst 1, 1) := by decide +kernel
theorem dX6_check_11 : decode cX6_check 11 = .ok (.invokestatic 45, 3) := by decide +kernel
theorem dX6_check_14 : decode cX6_check 14 = .ok (.ifCond .ne 7, 3) := by decide +kernel
theorem dX6_check_17 : decode cX6_check 17 = .ok (.ldc2_w 58, 3) := by decide +kernel
theorem dX6_check_20 : decode cX6_check 20 = .ok (.lreturn, 1) := by decide +kernel
theorem dX6_check_21 : decode cX6_check 21 = .ok (.iload_n 1, 1) := by decide +kernel
theorem dX6_check_22 : decode cX6_check 22 = .ok (.invokestatic 20, 3) := by decide +kernel
theorem dX6_check_25 : decode cX6_check 25 = .ok (.istore_n 3, 1) := by decide +kernel
theorem dX6_check_26 : decode cX6_check 26 = .ok (.aload_n 0, 1) := by decide +kernel
theorem dX6_check_27 : decode cX6_check 27 = .ok (.iload_n 2, 1) := by decide +kernel
theorem dX6_check_28 : decode cX6_check 28 = .ok (.ifCond .ne 7, 3) := by decide +kernel
theorem dX6_check_31 : decode cX6_check 31 = .ok (.iconst 1, 1) := by decide +kernel
theorem dX6_check_32 : decode cX6_check 32 = .ok (.goto 4, 3) := by decide +kernel
theorem dX6_check_35 : decode cX6_check 35 = .ok (.iconst 0, 1) := by decide +kernel
theorem dX6_check_36 : decode cX6_check 36 = .ok (.invokevirtual 60, 3) := by decide +kernel
theorem dX6_check_39 : decode cX6_check 39 = .ok (.iconst 0, 1) := by decide +kernel
theorem dX6_check_40 : decode cX6_check 40 = .ok (.istore 4, 2) := by decide +kernel
theorem dX6_check_42 : decode cX6_check 42 = .ok (.iload 4, 2) := by decide +kernel
theorem dX6_check_44 : decode cX6_check 44 = .ok (.aload_n 0, 1) := by decide +kernel
theorem dX6_check_45 : decode cX6_check 45 = .ok (.getfield 7, 3) := by decide +kernel
theorem dX6_check_48 : decode cX6_check 48 = .ok (.iload_n 3, 1) := by decide +kernel
theorem dX6_check_49 : decode cX6_check 49 = .ok (.bipush 13, 2) := by decide +kernel
theorem dX6_check_51 : decode cX6_check 51 = .ok (.iadd, 1) := by decide +kernel
theorem dX6_check_52 : decode cX6_check 52 = .ok (.iaload, 1) := by decide +kernel
theorem dX6_check_53 : decode cX6_check 53 = .ok (.if_icmp .ge 34, 3) := by decide +kernel
theorem dX6_check_56 : decode cX6_check 56 = .ok (.aload_n 0, 1) := by decide +kernel
theorem dX6_check_57 : decode cX6_check 57 = .ok (.aload_n 0, 1) := by decide +kernel
theorem dX6_check_58 : decode cX6_check 58 = .ok (.getfield 7, 3) := by decide +kernel
theorem dX6_check_61 : decode cX6_check 61 = .ok (.iload_n 3, 1) := by decide +kernel
theorem dX6_check_62 : decode cX6_check 62 = .ok (.bipush 20, 2) := by decide +kernel
theorem dX6_check_64 : decode cX6_check 64 = .ok (.iadd, 1) := by decide +kernel
theorem dX6_check_65 : decode cX6_check 65 = .ok (.iload 4, 2) := by decide +kernel
theorem dX6_check_67 : decode cX6_check 67 = .ok (.iadd, 1) := by decide +kernel
theorem dX6_check_68 : decode cX6_check 68 = .ok (.iaload, 1) := by decide +kernel
theorem dX6_check_69 : decode cX6_check 69 = .ok (.iload_n 2, 1) := by decide +kernel
theorem dX6_check_70 : decode cX6_check 70 = .ok (.ifCond .ne 7, 3) := by decide +kernel
theorem dX6_check_73 : decode cX6_check 73 = .ok (.iconst 1, 1) := by decide +kernel
theorem dX6_check_74 : decode cX6_check 74 = .ok (.goto 4, 3) := by decide +kernel
theorem dX6_check_77 : decode cX6_check 77 = .ok (.iconst 0, 1) := by decide +kernel
theorem dX6_check_78 : decode cX6_check 78 = .ok (.invokevirtual 64, 3) := by decide +kernel
theorem dX6_check_81 : decode cX6_check 81 = .ok (.iinc 4 1, 3) := by decide +kernel
theorem dX6_check_84 : decode cX6_check 84 = .ok (.goto (-42), 3) := by decide +kernel
theorem dX6_check_87 : decode cX6_check 87 = .ok (.aload_n 0, 1) := by decide +kernel
theorem dX6_check_88 : decode cX6_check 88 = .ok (.iload_n 2, 1) := by decide +kernel
theorem dX6_check_89 : decode cX6_check 89 = .ok (.ifCond .ne 7, 3) := by decide +kernel
theorem dX6_check_92 : decode cX6_check 92 = .ok (.iconst 1, 1) := by decide +kernel
theorem dX6_check_93 : decode cX6_check 93 = .ok (.goto 4, 3) := by decide +kernel
theorem dX6_check_96 : decode cX6_check 96 = .ok (.iconst 0, 1) := by decide +kernel
theorem dX6_check_97 : decode cX6_check 97 = .ok (.invokevirtual 68, 3) := by decide +kernel
theorem dX6_check_100 : decode cX6_check 100 = .ok (.lreturn, 1) := by decide +kernel
theorem dX6_set_0 : decode cX6_set 0 = .ok (.iload_n 1, 1) := by decide +kernel
theorem dX6_set_1 : decode cX6_set 1 = .ok (.ifCond .ne 15, 3) := by decide +kernel
end
section
theorem dX6_set_4 : decode cX6_set 4 = .ok (.iload_n 2, 1) := by decide +kernel
theorem dX6_set_5 : decode cX6_set 5 = .ok (.i2l, 1) := by decide +kernel
theorem dX6_set_6 : decode cX6_set 6 = .ok (.lconst 1, 1) := by decide +kernel
theorem dX6_set_7 : decode cX6_set 7 = .ok (.ldc2_w 72, 3) := by decide +kernel
theorem dX6_set_10 : decode cX6_set 10 = .ok (.invokestatic 45, 3) := by decide +kernel
theorem dX6_set_13 : decode cX6_set 13 = .ok (.ifCond .ne 37, 3) := by decide +kernel
theorem dX6_set_16 : decode cX6_set 16 = .ok (.iload_n 1, 1) := by decide +kernel
theorem dX6_set_17 : decode cX6_set 17 = .ok (.iconst 1, 1) := by decide +kernel
theorem dX6_set_18 : decode cX6_set 18 = .ok (.if_icmp .ne 15, 3) := by decide +kernel
theorem dX6_set_21 : decode cX6_set 21 = .ok (.iload_n 2, 1) := by decide +kernel
theorem dX6_set_22 : decode cX6_set 22 = .ok (.i2l, 1) := by decide +kernel
theorem dX6_set_23 : decode cX6_set 23 = .ok (.lconst 1, 1) := by decide +kernel
theorem dX6_set_24 : decode cX6_set 24 = .ok (.ldc2_w 74, 3) := by decide +kernel
theorem dX6_set_27 : decode cX6_set 27 = .ok (.invokestatic 45, 3) := by decide +kernel
theorem dX6_set_30 : decode cX6_set 30 = .ok (.ifCond .ne 20, 3) := by decide +kernel
theorem dX6_set_33 : decode cX6_set 33 = .ok (.iload_n 1, 1) := by decide +kernel
theorem dX6_set_34 : decode cX6_set 34 = .ok (.iconst 2, 1) := by decide +kernel
theorem dX6_set_35 : decode cX6_set 35 = .ok (.if_icmp .ne 19, 3) := by decide +kernel
theorem dX6_set_38 : decode cX6_set 38 = .ok (.iload_n 2, 1) := by decide +kernel
theorem dX6_set_39 : decode cX6_set 39 = .ok (.i2l, 1) := by decide +kernel
theorem dX6_set_40 : decode cX6_set 40 = .ok (.lconst 0, 1) := by decide +kernel
theorem dX6_set_41 : decode cX6_set 41 = .ok (.ldc2_w 76, 3) := by decide +kernel
theorem dX6_set_44 : decode cX6_set 44 = .ok (.invokestatic 45, 3) := by decide +kernel
theorem dX6_set_47 : decode cX6_set 47 = .ok (.ifCond .eq 7, 3) := by decide +kernel
theorem dX6_set_50 : decode cX6_set 50 = .ok (.iconst 1, 1) := by decide +kernel
theorem dX6_set_51 : decode cX6_set 51 = .ok (.goto 4, 3) := by decide +kernel
theorem dX6_set_54 : decode cX6_set 54 = .ok (.iconst 0, 1) := by decide +kernel
theorem dX6_set_55 : decode cX6_set 55 = .ok (.istore_n 3, 1) := by decide +kernel
theorem dX6_set_56 : decode cX6_set 56 = .ok (.iload_n 3, 1) := by decide +kernel
theorem dX6_set_57 : decode cX6_set 57 = .ok (.ifCond .ne 5, 3) := by decide +kernel
theorem dX6_set_60 : decode cX6_set 60 = .ok (.iconst (-1), 1) := by decide +kernel
theorem dX6_set_61 : decode cX6_set 61 = .ok (.ireturn, 1) := by decide +kernel
theorem dX6_set_62 : decode cX6_set 62 = .ok (.aload_n 0, 1) := by decide +kernel
theorem dX6_set_63 : decode cX6_set 63 = .ok (.getfield 7, 3) := by decide +kernel
theorem dX6_set_66 : decode cX6_set 66 = .ok (.iload_n 1, 1) := by decide +kernel
theorem dX6_set_67 : decode cX6_set 67 = .ok (.iaload, 1) := by decide +kernel
theorem dX6_set_68 : decode cX6_set 68 = .ok (.istore 4, 2) := by decide +kernel
theorem dX6_set_70 : decode cX6_set 70 = .ok (.aload_n 0, 1) := by decide +kernel
theorem dX6_set_71 : decode cX6_set 71 = .ok (.getfield 7, 3) := by decide +kernel
theorem dX6_set_74 : decode cX6_set 74 = .ok (.iload_n 1, 1) := by decide +kernel
theorem dX6_set_75 : decode cX6_set 75 = .ok (.iload_n 2, 1) := by decide +kernel
theorem dX6_set_76 : decode cX6_set 76 = .ok (.iastore, 1) := by decide +kernel
theorem dX6_set_77 : decode cX6_set 77 = .ok (.iload 4, 2) := by decide +kernel
theorem dX6_set_79 : decode cX6_set 79 = .ok (.ireturn, 1) := by decide +kernel
theorem dX6_many_0 : decode cX6_many 0 = .ok (.aload_n 0, 1) := by decide +kernel
theorem dX6_many_1 : decode cX6_many 1 = .ok (.getfield 7, 3) := by decide +kernel
theorem dX6_many_4 : decode cX6_many 4 = .ok (.iload_n 1, 1) := by decide +kernel
theorem dX6_many_5 : decode cX6_many 5 = .ok (.invokestatic 24, 3) := by decide +kernel
theorem dX6_many_8 : decode cX6_many 8 = .ok (.iaload, 1) := by decide +kernel
theorem dX6_many_9 : decode cX6_many 9 = .ok (.ireturn, 1) := by decide +kernel
theorem dX6_remove_0 : decode cX6_remove 0 = .ok (.aload_n 0, 1) := by decide +kernel
theorem dX6_remove_1 : decode cX6_remove 1 = .ok (.iload_n 1, 1) := by decide +kernel
theorem dX6_remove_2 : decode cX6_remove 2 = .ok (.invokevirtual 78, 3) := by decide +kernel
theorem dX6_remove_5 : decode cX6_remove 5 = .ok (.istore_n 3, 1) := by decide +kernel
theorem dX6_remove_6 : decode cX6_remove 6 = .ok (.iload_n 1, 1) := by decide +kernel
theorem dX6_remove_7 : decode cX6_remove 7 = .ok (.iload_n 2, 1) := by decide +kernel
theorem dX6_remove_8 : decode cX6_remove 8 = .ok (.invokestatic 81, 3) := by decide +kernel
theorem dX6_remove_11 : decode cX6_remove 11 = .ok (.istore 4, 2) := by decide +kernel
theorem dX6_remove_13 : decode cX6_remove 13 = .ok (.iload 4, 2) := by decide +kernel
theorem dX6_remove_15 : decode cX6_remove 15 = .ok (.iload_n 1, 1) := by decide +kernel
theorem dX6_remove_16 : decode cX6_remove 16 = .ok (.iload_n 3, 1) := by decide +kernel
theorem dX6_remove_17 : decode cX6_remove 17 = .ok (.iconst 1, 1) := by decide +kernel
theorem dX6_remove_18 : decode cX6_remove 18 = .ok (.isub, 1) := by decide +kernel
theorem dX6_remove_19 : decode cX6_remove 19 = .ok (.invokestatic 81, 3) := by decide +kernel
theorem dX6_remove_22 : decode cX6_remove 22 = .ok (.if_icmp .ge 26, 3) := by decide +kernel
theorem dX6_remove_25 : decode cX6_remove 25 = .ok (.aload_n 0, 1) := by decide +kernel
theorem dX6_remove_26 : decode cX6_remove 26 = .ok (.getfield 7, 3) := by decide +kernel
theorem dX6_remove_29 : decode cX6_remove 29 = .ok (.iload 4, 2) := by decide +kernel
theorem dX6_remove_31 : decode cX6_remove 31 = .ok (.aload_n 0, 1) := by decide +kernel
theorem dX6_remove_32 : decode cX6_remove 32 = .ok (.getfield 7, 3) := by decide +kernel
theorem dX6_remove_35 : decode cX6_remove 35 = .ok (.iload 4, 2) := by decide +kernel
theorem dX6_remove_37 : decode cX6_remove 37 = .ok (.bipush 36, 2) := by decide +kernel
theorem dX6_remove_39 : decode cX6_remove 39 = .ok (.iadd, 1) := by decide +kernel
theorem dX6_remove_40 : decode cX6_remove 40 = .ok (.iaload, 1) := by decide +kernel
theorem dX6_remove_41 : decode cX6_remove 41 = .ok (.iastore, 1) := by decide +kernel
theorem dX6_remove_42 : decode cX6_remove 42 = .ok (.iinc 4 1, 3) := by decide +kernel
theorem dX6_remove_45 : decode cX6_remove 45 = .ok (.goto (-32), 3) := by decide +kernel
theorem dX6_remove_48 : decode cX6_remove 48 = .ok (.iload_n 1, 1) := by decide +kernel
theorem dX6_remove_49 : decode cX6_remove 49 = .ok (.iload_n 3, 1) := by decide +kernel
theorem dX6_remove_50 : decode cX6_remove 50 = .ok (.iconst 1, 1) := by decide +kernel
theorem dX6_remove_51 : decode cX6_remove 51 = .ok (.isub, 1) := by decide +kernel
theorem dX6_remove_52 : decode cX6_remove 52 = .ok (.invokestatic 81, 3) := by decide +kernel
theorem dX6_remove_55 : decode cX6_remove 55 = .ok (.istore 4, 2) := by decide +kernel
theorem dX6_remove_57 : decode cX6_remove 57 = .ok (.iload 4, 2) := by decide +kernel
theorem dX6_remove_59 : decode cX6_remove 59 = .ok (.iload_n 1, 1) := by decide +kernel
theorem dX6_remove_60 : decode cX6_remove 60 = .ok (.iload_n 3, 1) := by decide +kernel
theorem dX6_remove_61 : decode cX6_remove 61 = .ok (.invokestatic 81, 3) := by decide +kernel
theorem dX6_remove_64 : decode cX6_remove 64 = .ok (.if_icmp .ge 17, 3) := by decide +kernel
theorem dX6_remove_67 : decode cX6_remove 67 = .ok (.aload_n 0, 1) := by decide +kernel
theorem dX6_remove_68 : decode cX6_remove 68 = .ok (.getfield 7, 3) := by decide +kernel
theorem dX6_remove_71 : decode cX6_remove 71 = .ok (.iload 4, 2) := by decide +kernel
theorem dX6_remove_73 : decode cX6_remove 73 = .ok (.iconst 0, 1) := by decide +kernel
theorem dX6_remove_74 : decode cX6_remove 74 = .ok (.iastore, 1) := by decide +kernel
theorem dX6_remove_75 : decode cX6_remove 75 = .ok (.iinc 4 1, 3) := by decide +kernel
theorem dX6_remove_78 : decode cX6_remove 78 = .ok (.goto (-21), 3) := by decide +kernel
theorem dX6_remove_81 : decode cX6_remove 81 = .ok (.aload_n 0, 1) := by decide +kernel
theorem dX6_remove_82 : decode cX6_remove 82 = .ok (.getfield 7, 3) := by decide +kernel
theorem dX6_remove_85 : decode cX6_remove 85 = .ok (.iload_n 1, 1) := by decide +kernel
theorem dX6_remove_86 : decode cX6_remove 86 = .ok (.invokestatic 24, 3) := by decide +kernel
theorem dX6_remove_89 : decode cX6_remove 89 = .ok (.dup2, 1) := by decide +kernel
theorem dX6_remove_90 : decode cX6_remove 90 = .ok (.iaload, 1) := by decide +kernel
theorem dX6_remove_91 : decode cX6_remove 91 = .ok (.iconst 1, 1) := by decide +kernel
theorem dX6_remove_92 : decode cX6_remove 92 = .ok (.isub, 1) := by decide +kernel
theorem dX6_remove_93 : decode cX6_remove 93 = .ok (.iastore, 1) := by decide +kernel
theorem dX6_remove_94 : decode cX6_remove 94 = .ok (.return_, 1) := by decide +kernel
theorem dX6_beginsFrame_0 : decode cX6_beginsFrame 0 = .ok (.aload_n 0, 1) := by decide +kernel
theorem dX6_beginsFrame_1 : decode cX6_beginsFrame 1 = .ok (.iload_n 1, 1) := by decide +kernel
theorem dX6_beginsFrame_2 : decode cX6_beginsFrame 2 = .ok (.invokevirtual 78, 3) := by decide +kernel
theorem dX6_beginsFrame_5 : decode cX6_beginsFrame 5 = .ok (.bipush 12, 2) := by decide +kernel
theorem dX6_beginsFrame_7 : decode cX6_beginsFrame 7 = .ok (.if_icmp .ne 9, 3) := by decide +kernel
theorem dX6_beginsFrame_10 : decode cX6_beginsFrame 10 = .ok (.aload_n 0, 1) := by decide +kernel
theorem dX6_beginsFrame_11 : decode cX6_beginsFrame 11 = .ok (.iload_n 1, 1) := by decide +kernel
theorem dX6_beginsFrame_12 : decode cX6_beginsFrame 12 = .ok (.iconst 0, 1) := by decide +kernel
theorem dX6_beginsFrame_13 : decode cX6_beginsFrame 13 = .ok (.invokevirtual 84, 3) := by decide +kernel
theorem dX6_beginsFrame_16 : decode cX6_beginsFrame 16 = .ok (.aload_n 0, 1) := by decide +kernel
theorem dX6_beginsFrame_17 : decode cX6_beginsFrame 17 = .ok (.iload_n 1, 1) := by decide +kernel
theorem dX6_beginsFrame_18 : decode cX6_beginsFrame 18 = .ok (.aload_n 0, 1) := by decide +kernel
theorem dX6_beginsFrame_19 : decode cX6_beginsFrame 19 = .ok (.iload_n 1, 1) := by decide +kernel
theorem dX6_beginsFrame_20 : decode cX6_beginsFrame 20 = .ok (.invokevirtual 78, 3) := by decide +kernel
theorem dX6_beginsFrame_23 : decode cX6_beginsFrame 23 = .ok (.invokestatic 81, 3) := by decide +kernel
theorem dX6_beginsFrame_26 : decode cX6_beginsFrame 26 = .ok (.putfield 88, 3) := by decide +kernel
theorem dX6_beginsFrame_29 : decode cX6_beginsFrame 29 = .ok (.aload_n 0, 1) := by decide +kernel
theorem dX6_beginsFrame_30 : decode cX6_beginsFrame 30 = .ok (.iconst 0, 1) := by decide +kernel
theorem dX6_beginsFrame_31 : decode cX6_beginsFrame 31 = .ok (.putfield 92, 3) := by decide +kernel
theorem dX6_beginsFrame_34 : decode cX6_beginsFrame 34 = .ok (.aload_n 0, 1) := by decide +kernel
theorem dX6_beginsFrame_35 : decode cX6_beginsFrame 35 = .ok (.getfield 7, 3) := by decide +kernel
theorem dX6_beginsFrame_38 : decode cX6_beginsFrame 38 = .ok (.iload_n 1, 1) := by decide +kernel
theorem dX6_beginsFrame_39 : decode cX6_beginsFrame 39 = .ok (.invokestatic 24, 3) := by decide +kernel
theorem dX6_beginsFrame_42 : decode cX6_beginsFrame 42 = .ok (.dup2, 1) := by decide +kernel
theorem dX6_beginsFrame_43 : decode cX6_beginsFrame 43 = .ok (.iaload, 1) := by decide +kernel
theorem dX6_beginsFrame_44 : decode cX6_beginsFrame 44 = .ok (.iconst 1, 1) := by decide +kernel
theorem dX6_beginsFrame_45 : decode cX6_beginsFrame 45 = .ok (.iadd, 1) := by decide +kernel
theorem dX6_beginsFrame_46 : decode cX6_beginsFrame 46 = .ok (.iastore, 1) := by decide +kernel
theorem dX6_beginsFrame_47 : decode cX6_beginsFrame 47 = .ok (.aload_n 0, 1) := by decide +kernel
theorem dX6_beginsFrame_48 : decode cX6_beginsFrame 48 = .ok (.getfield 7, 3) := by decide +kernel
theorem dX6_beginsFrame_51 : decode cX6_beginsFrame 51 = .ok (.aload_n 0, 1) := by decide +kernel
theorem dX6_beginsFrame_52 : decode cX6_beginsFrame 52 = .ok (.getfield 88, 3) := by decide +kernel
theorem dX6_beginsFrame_55 : decode cX6_beginsFrame 55 = .ok (.iconst 1, 1) := by decide +kernel
theorem dX6_beginsFrame_56 : decode cX6_beginsFrame 56 = .ok (.iadd, 1) := by decide +kernel
theorem dX6_beginsFrame_57 : decode cX6_beginsFrame 57 = .ok (.aload_n 0, 1) := by decide +kernel
theorem dX6_beginsFrame_58 : decode cX6_beginsFrame 58 = .ok (.getfield 7, 3) := by decide +kernel
theorem dX6_beginsFrame_61 : decode cX6_beginsFrame 61 = .ok (.iconst 3, 1) := by decide +kernel
theorem dX6_beginsFrame_62 : decode cX6_beginsFrame 62 = .ok (.iaload, 1) := by decide +kernel
theorem dX6_beginsFrame_63 : decode cX6_beginsFrame 63 = .ok (.aload_n 0, 1) := by decide +kernel
theorem dX6_beginsFrame_64 : decode cX6_beginsFrame 64 = .ok (.getfield 7, 3) := by decide +kernel
theorem dX6_beginsFrame_67 : decode cX6_beginsFrame 67 = .ok (.iconst 0, 1) := by decide +kernel
theorem dX6_beginsFrame_68 : decode cX6_beginsFrame 68 = .ok (.iaload, 1) := by decide +kernel
theorem dX6_beginsFrame_69 : decode cX6_beginsFrame 69 = .ok (.iadd, 1) := by decide +kernel
theorem dX6_beginsFrame_70 : decode cX6_beginsFrame 70 = .ok (.iastore, 1) := by decide +kernel
theorem dX6_beginsFrame_71 : decode cX6_beginsFrame 71 = .ok (.return_, 1) := by decide +kernel
theorem dX6_lays_0 : decode cX6_lays 0 = .ok (.aload_n 0, 1) := by decide +kernel
theorem dX6_lays_1 : decode cX6_lays 1 = .ok (.getfield 7, 3) := by decide +kernel
theorem dX6_lays_4 : decode cX6_lays 4 = .ok (.aload_n 0, 1) := by decide +kernel
theorem dX6_lays_5 : decode cX6_lays 5 = .ok (.getfield 88, 3) := by decide +kernel
theorem dX6_lays_8 : decode cX6_lays 8 = .ok (.iconst 2, 1) := by decide +kernel
theorem dX6_lays_9 : decode cX6_lays 9 = .ok (.iadd, 1) := by decide +kernel
theorem dX6_lays_10 : decode cX6_lays 10 = .ok (.aload_n 0, 1) := by decide +kernel
theorem dX6_lays_11 : decode cX6_lays 11 = .ok (.getfield 92, 3) := by decide +kernel
theorem dX6_lays_14 : decode cX6_lays 14 = .ok (.iadd, 1) := by decide +kernel
theorem dX6_lays_15 : decode cX6_lays 15 = .ok (.iload_n 1, 1) := by decide +kernel
theorem dX6_lays_16 : decode cX6_lays 16 = .ok (.sipush 255, 3) := by decide +kernel
theorem dX6_lays_19 : decode cX6_lays 19 = .ok (.iand, 1) := by decide +kernel
theorem dX6_lays_20 : decode cX6_lays 20 = .ok (.iastore, 1) := by decide +kernel
theorem dX6_lays_21 : decode cX6_lays 21 = .ok (.aload_n 0, 1) := by decide +kernel
theorem dX6_lays_22 : decode cX6_lays 22 = .ok (.dup, 1) := by decide +kernel
theorem dX6_lays_23 : decode cX6_lays 23 = .ok (.getfield 92, 3) := by decide +kernel
theorem dX6_lays_26 : decode cX6_lays 26 = .ok (.iconst 1, 1) := by decide +kernel
theorem dX6_lays_27 : decode cX6_lays 27 = .ok (.iadd, 1) := by decide +kernel
theorem dX6_lays_28 : decode cX6_lays 28 = .ok (.putfield 92, 3) := by decide +kernel
theorem dX6_lays_31 : decode cX6_lays 31 = .ok (.aload_n 0, 1) := by decide +kernel
theorem dX6_lays_32 : decode cX6_lays 32 = .ok (.getfield 7, 3) := by decide +kernel
theorem dX6_lays_35 : decode cX6_lays 35 = .ok (.aload_n 0, 1) := by decide +kernel
theorem dX6_lays_36 : decode cX6_lays 36 = .ok (.getfield 88, 3) := by decide +kernel
theorem dX6_lays_39 : decode cX6_lays 39 = .ok (.aload_n 0, 1) := by decide +kernel
theorem dX6_lays_40 : decode cX6_lays 40 = .ok (.getfield 92, 3) := by decide +kernel
theorem dX6_lays_43 : decode cX6_lays 43 = .ok (.iastore, 1) := by decide +kernel
theorem dX6_lays_44 : decode cX6_lays 44 = .ok (.return_, 1) := by decide +kernel
theorem dX6_laysWord_0 : decode cX6_laysWord 0 = .ok (.aload_n 0, 1) := by decide +kernel
theorem dX6_laysWord_1 : decode cX6_laysWord 1 = .ok (.getfield 7, 3) := by decide +kernel
theorem dX6_laysWord_4 : decode cX6_laysWord 4 = .ok (.iload_n 1, 1) := by decide +kernel
theorem dX6_laysWord_5 : decode cX6_laysWord 5 = .ok (.invokestatic 20, 3) := by decide +kernel
theorem dX6_laysWord_8 : decode cX6_laysWord 8 = .ok (.bipush 7, 2) := by decide +kernel
theorem dX6_laysWord_10 : decode cX6_laysWord 10 = .ok (.iadd, 1) := by decide +kernel
theorem dX6_laysWord_11 : decode cX6_laysWord 11 = .ok (.iaload, 1) := by decide +kernel
theorem dX6_laysWord_12 : decode cX6_laysWord 12 = .ok (.iconst 1, 1) := by decide +kernel
theorem dX6_laysWord_13 : decode cX6_laysWord 13 = .ok (.isub, 1) := by decide +kernel
theorem dX6_laysWord_14 : decode cX6_laysWord 14 = .ok (.invokestatic 95, 3) := by decide +kernel
theorem dX6_laysWord_17 : decode cX6_laysWord 17 = .ok (.istore_n 3, 1) := by decide +kernel
theorem dX6_laysWord_18 : decode cX6_laysWord 18 = .ok (.aload_n 0, 1) := by decide +kernel
theorem dX6_laysWord_19 : decode cX6_laysWord 19 = .ok (.iload_n 1, 1) := by decide +kernel
theorem dX6_laysWord_20 : decode cX6_laysWord 20 = .ok (.invokevirtual 98, 3) := by decide +kernel
theorem dX6_laysWord_23 : decode cX6_laysWord 23 = .ok (.aload_n 0, 1) := by decide +kernel
theorem dX6_laysWord_24 : decode cX6_laysWord 24 = .ok (.iconst 0, 1) := by decide +kernel
theorem dX6_laysWord_25 : decode cX6_laysWord 25 = .ok (.invokevirtual 60, 3) := by decide +kernel
theorem dX6_laysWord_28 : decode cX6_laysWord 28 = .ok (.aload_n 0, 1) := by decide +kernel
theorem dX6_laysWord_29 : decode cX6_laysWord 29 = .ok (.iload_n 2, 1) := by decide +kernel
theorem dX6_laysWord_30 : decode cX6_laysWord 30 = .ok (.iconst 0, 1) := by decide +kernel
theorem dX6_laysWord_31 : decode cX6_laysWord 31 = .ok (.invokevirtual 64, 3) := by decide +kernel
theorem dX6_laysWord_34 : decode cX6_laysWord 34 = .ok (.aload_n 0, 1) := by decide +kernel
theorem dX6_laysWord_35 : decode cX6_laysWord 35 = .ok (.iload_n 3, 1) := by decide +kernel
theorem dX6_laysWord_36 : decode cX6_laysWord 36 = .ok (.iconst 0, 1) := by decide +kernel
theorem dX6_laysWord_37 : decode cX6_laysWord 37 = .ok (.invokevirtual 64, 3) := by decide +kernel
theorem dX6_laysWord_40 : decode cX6_laysWord 40 = .ok (.aload_n 0, 1) := by decide +kernel
theorem dX6_laysWord_41 : decode cX6_laysWord 41 = .ok (.iconst 0, 1) := by decide +kernel
theorem dX6_laysWord_42 : decode cX6_laysWord 42 = .ok (.invokevirtual 68, 3) := by decide +kernel
theorem dX6_laysWord_45 : decode cX6_laysWord 45 = .ok (.l2i, 1) := by decide +kernel
theorem dX6_laysWord_46 : decode cX6_laysWord 46 = .ok (.istore 4, 2) := by decide +kernel
theorem dX6_laysWord_48 : decode cX6_laysWord 48 = .ok (.aload_n 0, 1) := by decide +kernel
theorem dX6_laysWord_49 : decode cX6_laysWord 49 = .ok (.bipush 92, 2) := by decide +kernel
theorem dX6_laysWord_51 : decode cX6_laysWord 51 = .ok (.invokevirtual 102, 3) := by decide +kernel
theorem dX6_laysWord_54 : decode cX6_laysWord 54 = .ok (.aload_n 0, 1) := by decide +kernel
theorem dX6_laysWord_55 : decode cX6_laysWord 55 = .ok (.iload_n 2, 1) := by decide +kernel
theorem dX6_laysWord_56 : decode cX6_laysWord 56 = .ok (.invokevirtual 102, 3) := by decide +kernel
theorem dX6_laysWord_59 : decode cX6_laysWord 59 = .ok (.aload_n 0, 1) := by decide +kernel
theorem dX6_laysWord_60 : decode cX6_laysWord 60 = .ok (.iload_n 3, 1) := by decide +kernel
theorem dX6_laysWord_61 : decode cX6_laysWord 61 = .ok (.invokevirtual 102, 3) := by decide +kernel
theorem dX6_laysWord_64 : decode cX6_laysWord 64 = .ok (.aload_n 0, 1) := by decide +kernel
theorem dX6_laysWord_65 : decode cX6_laysWord 65 = .ok (.iload 4, 2) := by decide +kernel
theorem dX6_laysWord_67 : decode cX6_laysWord 67 = .ok (.invokevirtual 102, 3) := by decide +kernel
theorem dX6_laysWord_70 : decode cX6_laysWord 70 = .ok (.aload_n 0, 1) := by decide +kernel
theorem dX6_laysWord_71 : decode cX6_laysWord 71 = .ok (.iload 4, 2) := by decide +kernel
theorem dX6_laysWord_73 : decode cX6_laysWord 73 = .ok (.bipush 8, 2) := by decide +kernel
theorem dX6_laysWord_75 : decode cX6_laysWord 75 = .ok (.ishr, 1) := by decide +kernel
theorem dX6_laysWord_76 : decode cX6_laysWord 76 = .ok (.invokevirtual 102, 3) := by decide +kernel
theorem dX6_laysWord_79 : decode cX6_laysWord 79 = .ok (.aload_n 0, 1) := by decide +kernel
theorem dX6_laysWord_80 : decode cX6_laysWord 80 = .ok (.sipush 253, 3) := by decide +kernel
theorem dX6_laysWord_83 : decode cX6_laysWord 83 = .ok (.invokevirtual 102, 3) := by decide +kernel
theorem dX6_laysWord_86 : decode cX6_laysWord 86 = .ok (.return_, 1) := by decide +kernel
theorem dX6_laysData_0 : decode cX6_laysData 0 = .ok (.iload_n 2, 1) := by decide +kernel
theorem dX6_laysData_1 : decode cX6_laysData 1 = .ok (.bipush 64, 2) := by decide +kernel
theorem dX6_laysData_3 : decode cX6_laysData 3 = .ok (.irem, 1) := by decide +kernel
theorem dX6_laysData_4 : decode cX6_laysData 4 = .ok (.istore 4, 2) := by decide +kernel
theorem dX6_laysData_6 : decode cX6_laysData 6 = .ok (.iload_n 1, 1) := by decide +kernel
theorem dX6_laysData_7 : decode cX6_laysData 7 = .ok (.iload_n 2, 1) := by decide +kernel
theorem dX6_laysData_8 : decode cX6_laysData 8 = .ok (.invokestatic 54, 3) := by decide +kernel
theorem dX6_laysData_11 : decode cX6_laysData 11 = .ok (.istore 5, 2) := by decide +kernel
theorem dX6_laysData_13 : decode cX6_laysData 13 = .ok (.aload_n 0, 1) := by decide +kernel
theorem dX6_laysData_14 : decode cX6_laysData 14 = .ok (.iload_n 1, 1) := by decide +kernel
theorem dX6_laysData_15 : decode cX6_laysData 15 = .ok (.invokevirtual 98, 3) := by decide +kernel
theorem dX6_laysData_18 : decode cX6_laysData 18 = .ok (.aload_n 0, 1) := by decide +kernel
theorem dX6_laysData_19 : decode cX6_laysData 19 = .ok (.iconst 1, 1) := by decide +kernel
theorem dX6_laysData_20 : decode cX6_laysData 20 = .ok (.invokevirtual 60, 3) := by decide +kernel
theorem dX6_laysData_23 : decode cX6_laysData 23 = .ok (.aload_n 0, 1) := by decide +kernel
theorem dX6_laysData_24 : decode cX6_laysData 24 = .ok (.iconst 0, 1) := by decide +kernel
theorem dX6_laysData_25 : decode cX6_laysData 25 = .ok (.iconst 1, 1) := by decide +kernel
theorem dX6_laysData_26 : decode cX6_laysData 26 = .ok (.invokevirtual 64, 3) := by decide +kernel
theorem dX6_laysData_29 : decode cX6_laysData 29 = .ok (.aload_n 0, 1) := by decide +kernel
theorem dX6_laysData_30 : decode cX6_laysData 30 = .ok (.iload 4, 2) := by decide +kernel
theorem dX6_laysData_32 : decode cX6_laysData 32 = .ok (.iconst 1, 1) := by decide +kernel
theorem dX6_laysData_33 : decode cX6_laysData 33 = .ok (.invokevirtual 64, 3) := by decide +kernel
theorem dX6_laysData_36 : decode cX6_laysData 36 = .ok (.aload_n 0, 1) := by decide +kernel
theorem dX6_laysData_37 : decode cX6_laysData 37 = .ok (.sipush 251, 3) := by decide +kernel
theorem dX6_laysData_40 : decode cX6_laysData 40 = .ok (.invokevirtual 102, 3) := by decide +kernel
theorem dX6_laysData_43 : decode cX6_laysData 43 = .ok (.aload_n 0, 1) := by decide +kernel
theorem dX6_laysData_44 : decode cX6_laysData 44 = .ok (.iconst 0, 1) := by decide +kernel
theorem dX6_laysData_45 : decode cX6_laysData 45 = .ok (.invokevirtual 102, 3) := by decide +kernel
theorem dX6_laysData_48 : decode cX6_laysData 48 = .ok (.aload_n 0, 1) := by decide +kernel
theorem dX6_laysData_49 : decode cX6_laysData 49 = .ok (.iload 4, 2) := by decide +kernel
theorem dX6_laysData_51 : decode cX6_laysData 51 = .ok (.invokevirtual 102, 3) := by decide +kernel
theorem dX6_laysData_54 : decode cX6_laysData 54 = .ok (.iconst 0, 1) := by decide +kernel
theorem dX6_laysData_55 : decode cX6_laysData 55 = .ok (.istore 6, 2) := by decide +kernel
theorem dX6_laysData_57 : decode cX6_laysData 57 = .ok (.iload 6, 2) := by decide +kernel
theorem dX6_laysData_59 : decode cX6_laysData 59 = .ok (.aload_n 0, 1) := by decide +kernel
theorem dX6_laysData_60 : decode cX6_laysData 60 = .ok (.getfield 7, 3) := by decide +kernel
theorem dX6_laysData_63 : decode cX6_laysData 63 = .ok (.iload 5, 2) := by decide +kernel
theorem dX6_laysData_65 : decode cX6_laysData 65 = .ok (.iaload, 1) := by decide +kernel
theorem dX6_laysData_66 : decode cX6_laysData 66 = .ok (.if_icmp .ge 42, 3) := by decide +kernel
theorem dX6_laysData_69 : decode cX6_laysData 69 = .ok (.aload_n 0, 1) := by decide +kernel
theorem dX6_laysData_70 : decode cX6_laysData 70 = .ok (.aload_n 0, 1) := by decide +kernel
theorem dX6_laysData_71 : decode cX6_laysData 71 = .ok (.getfield 7, 3) := by decide +kernel
theorem dX6_laysData_74 : decode cX6_laysData 74 = .ok (.iload 5, 2) := by decide +kernel
theorem dX6_laysData_76 : decode cX6_laysData 76 = .ok (.iconst 1, 1) := by decide +kernel
theorem dX6_laysData_77 : decode cX6_laysData 77 = .ok (.iadd, 1) := by decide +kernel
theorem dX6_laysData_78 : decode cX6_laysData 78 = .ok (.iload 6, 2) := by decide +kernel
theorem dX6_laysData_80 : decode cX6_laysData 80 = .ok (.iadd, 1) := by decide +kernel
theorem dX6_laysData_81 : decode cX6_laysData 81 = .ok (.iaload, 1) := by decide +kernel
theorem dX6_laysData_82 : decode cX6_laysData 82 = .ok (.invokevirtual 102, 3) := by decide +kernel
theorem dX6_laysData_85 : decode cX6_laysData 85 = .ok (.aload_n 0, 1) := by decide +kernel
theorem dX6_laysData_86 : decode cX6_laysData 86 = .ok (.aload_n 0, 1) := by decide +kernel
theorem dX6_laysData_87 : decode cX6_laysData 87 = .ok (.getfield 7, 3) := by decide +kernel
theorem dX6_laysData_90 : decode cX6_laysData 90 = .ok (.iload 5, 2) := by decide +kernel
theorem dX6_laysData_92 : decode cX6_laysData 92 = .ok (.iconst 1, 1) := by decide +kernel
theorem dX6_laysData_93 : decode cX6_laysData 93 = .ok (.iadd, 1) := by decide +kernel
theorem dX6_laysData_94 : decode cX6_laysData 94 = .ok (.iload 6, 2) := by decide +kernel
theorem dX6_laysData_96 : decode cX6_laysData 96 = .ok (.iadd, 1) := by decide +kernel
theorem dX6_laysData_97 : decode cX6_laysData 97 = .ok (.iaload, 1) := by decide +kernel
theorem dX6_laysData_98 : decode cX6_laysData 98 = .ok (.iconst 1, 1) := by decide +kernel
theorem dX6_laysData_99 : decode cX6_laysData 99 = .ok (.invokevirtual 64, 3) := by decide +kernel
theorem dX6_laysData_102 : decode cX6_laysData 102 = .ok (.iinc 6 1, 3) := by decide +kernel
theorem dX6_laysData_105 : decode cX6_laysData 105 = .ok (.goto (-48), 3) := by decide +kernel
theorem dX6_laysData_108 : decode cX6_laysData 108 = .ok (.iload_n 3, 1) := by decide +kernel
theorem dX6_laysData_109 : decode cX6_laysData 109 = .ok (.ifCond .eq 15, 3) := by decide +kernel
theorem dX6_laysData_112 : decode cX6_laysData 112 = .ok (.aload_n 0, 1) := by decide +kernel
theorem dX6_laysData_113 : decode cX6_laysData 113 = .ok (.iconst 1, 1) := by decide +kernel
theorem dX6_laysData_114 : decode cX6_laysData 114 = .ok (.invokevirtual 68, 3) := by decide +kernel
theorem dX6_laysData_117 : decode cX6_laysData 117 = .ok (.ldc2_w 27, 3) := by decide +kernel
theorem dX6_laysData_120 : decode cX6_laysData 120 = .ok (.lxor, 1) := by decide +kernel
theorem dX6_laysData_121 : decode cX6_laysData 121 = .ok (.goto 8, 3) := by decide +kernel
theorem dX6_laysData_124 : decode cX6_laysData 124 = .ok (.aload_n 0, 1) := by decide +kernel
theorem dX6_laysData_125 : decode cX6_laysData 125 = .ok (.iconst 1, 1) := by decide +kernel
theorem dX6_laysData_126 : decode cX6_laysData 126 = .ok (.invokevirtual 68, 3) := by decide +kernel
theorem dX6_laysData_129 : decode cX6_laysData 129 = .ok (.lstore 6, 2) := by decide +kernel
theorem dX6_laysData_131 : decode cX6_laysData 131 = .ok (.iconst 0, 1) := by decide +kernel
theorem dX6_laysData_132 : decode cX6_laysData 132 = .ok (.istore 8, 2) := by decide +kernel
theorem dX6_laysData_134 : decode cX6_laysData 134 = .ok (.iload 8, 2) := by decide +kernel
theorem dX6_laysData_136 : decode cX6_laysData 136 = .ok (.iconst 4, 1) := by decide +kernel
theorem dX6_laysData_137 : decode cX6_laysData 137 = .ok (.if_icmp .ge 26, 3) := by decide +kernel
theorem dX6_laysData_140 : decode cX6_laysData 140 = .ok (.aload_n 0, 1) := by decide +kernel
theorem dX6_laysData_141 : decode cX6_laysData 141 = .ok (.lload 6, 2) := by decide +kernel
theorem dX6_laysData_143 : decode cX6_laysData 143 = .ok (.bipush 8, 2) := by decide +kernel
theorem dX6_laysData_145 : decode cX6_laysData 145 = .ok (.iload 8, 2) := by decide +kernel
theorem dX6_laysData_147 : decode cX6_laysData 147 = .ok (.imul, 1) := by decide +kernel
theorem dX6_laysData_148 : decode cX6_laysData 148 = .ok (.lshr, 1) := by decide +kernel
theorem dX6_laysData_149 : decode cX6_laysData 149 = .ok (.ldc2_w 49, 3) := by decide +kernel
theorem dX6_laysData_152 : decode cX6_laysData 152 = .ok (.land, 1) := by decide +kernel
theorem dX6_laysData_153 : decode cX6_laysData 153 = .ok (.l2i, 1) := by decide +kernel
theorem dX6_laysData_154 : decode cX6_laysData 154 = .ok (.invokevirtual 102, 3) := by decide +kernel
theorem dX6_laysData_157 : decode cX6_laysData 157 = .ok (.iinc 8 1, 3) := by decide +kernel
theorem dX6_laysData_160 : decode cX6_laysData 160 = .ok (.goto (-26), 3) := by decide +kernel
theorem dX6_laysData_163 : decode cX6_laysData 163 = .ok (.aload_n 0, 1) := by decide +kernel
theorem dX6_laysData_164 : decode cX6_laysData 164 = .ok (.iload_n 3, 1) := by decide +kernel
theorem dX6_laysData_165 : decode cX6_laysData 165 = .ok (.ifCond .eq 9, 3) := by decide +kernel
theorem dX6_laysData_168 : decode cX6_laysData 168 = .ok (.sipush 254, 3) := by decide +kernel
theorem dX6_laysData_171 : decode cX6_laysData 171 = .ok (.goto 6, 3) := by decide +kernel
theorem dX6_laysData_174 : decode cX6_laysData 174 = .ok (.sipush 253, 3) := by decide +kernel
theorem dX6_laysData_177 : decode cX6_laysData 177 = .ok (.invokevirtual 102, 3) := by decide +kernel
theorem dX6_laysData_180 : decode cX6_laysData 180 = .ok (.return_, 1) := by decide +kernel
theorem dX6_read_0 : decode cX6_read 0 = .ok (.aload_n 0, 1) := by decide +kernel
theorem dX6_read_1 : decode cX6_read 1 = .ok (.getfield 7, 3) := by decide +kernel
theorem dX6_read_4 : decode cX6_read 4 = .ok (.iload_n 1, 1) := by decide +kernel
theorem dX6_read_5 : decode cX6_read 5 = .ok (.iaload, 1) := by decide +kernel
theorem dX6_read_6 : decode cX6_read 6 = .ok (.istore_n 2, 1) := by decide +kernel
theorem dX6_read_7 : decode cX6_read 7 = .ok (.iload_n 1, 1) := by decide +kernel
theorem dX6_read_8 : decode cX6_read 8 = .ok (.iconst 2, 1) := by decide +kernel
theorem dX6_read_9 : decode cX6_read 9 = .ok (.iadd, 1) := by decide +kernel
theorem dX6_read_10 : decode cX6_read 10 = .ok (.istore_n 3, 1) := by decide +kernel
theorem dX6_read_11 : decode cX6_read 11 = .ok (.aload_n 0, 1) := by decide +kernel
theorem dX6_read_12 : decode cX6_read 12 = .ok (.getfield 7, 3) := by decide +kernel
theorem dX6_read_15 : decode cX6_read 15 = .ok (.iload_n 3, 1) := by decide +kernel
theorem dX6_read_16 : decode cX6_read 16 = .ok (.iaload, 1) := by decide +kernel
theorem dX6_read_17 : decode cX6_read 17 = .ok (.bipush 92, 2) := by decide +kernel
theorem dX6_read_19 : decode cX6_read 19 = .ok (.if_icmp .ne 165, 3) := by decide +kernel
theorem dX6_read_22 : decode cX6_read 22 = .ok (.aload_n 0, 1) := by decide +kernel
theorem dX6_read_23 : decode cX6_read 23 = .ok (.iconst 0, 1) := by decide +kernel
theorem dX6_read_24 : decode cX6_read 24 = .ok (.invokevirtual 60, 3) := by decide +kernel
theorem dX6_read_27 : decode cX6_read 27 = .ok (.aload_n 0, 1) := by decide +kernel
theorem dX6_read_28 : decode cX6_read 28 = .ok (.aload_n 0, 1) := by decide +kernel
theorem dX6_read_29 : decode cX6_read 29 = .ok (.getfield 7, 3) := by decide +kernel
theorem dX6_read_32 : decode cX6_read 32 = .ok (.iload_n 3, 1) := by decide +kernel
theorem dX6_read_33 : decode cX6_read 33 = .ok (.iconst 1, 1) := by decide +kernel
theorem dX6_read_34 : decode cX6_read 34 = .ok (.iadd, 1) := by decide +kernel
theorem dX6_read_35 : decode cX6_read 35 = .ok (.iaload, 1) := by decide +kernel
theorem dX6_read_36 : decode cX6_read 36 = .ok (.iconst 0, 1) := by decide +kernel
theorem dX6_read_37 : decode cX6_read 37 = .ok (.invokevirtual 64, 3) := by decide +kernel
theorem dX6_read_40 : decode cX6_read 40 = .ok (.aload_n 0, 1) := by decide +kernel
theorem dX6_read_41 : decode cX6_read 41 = .ok (.aload_n 0, 1) := by decide +kernel
theorem dX6_read_42 : decode cX6_read 42 = .ok (.getfield 7, 3) := by decide +kernel
theorem dX6_read_45 : decode cX6_read 45 = .ok (.iload_n 3, 1) := by decide +kernel
theorem dX6_read_46 : decode cX6_read 46 = .ok (.iconst 2, 1) := by decide +kernel
theorem dX6_read_47 : decode cX6_read 47 = .ok (.iadd, 1) := by decide +kernel
theorem dX6_read_48 : decode cX6_read 48 = .ok (.iaload, 1) := by decide +kernel
theorem dX6_read_49 : decode cX6_read 49 = .ok (.iconst 0, 1) := by decide +kernel
theorem dX6_read_50 : decode cX6_read 50 = .ok (.invokevirtual 64, 3) := by decide +kernel
theorem dX6_read_53 : decode cX6_read 53 = .ok (.aload_n 0, 1) := by decide +kernel
theorem dX6_read_54 : decode cX6_read 54 = .ok (.iconst 0, 1) := by decide +kernel
theorem dX6_read_55 : decode cX6_read 55 = .ok (.invokevirtual 68, 3) := by decide +kernel
theorem dX6_read_58 : decode cX6_read 58 = .ok (.l2i, 1) := by decide +kernel
theorem dX6_read_59 : decode cX6_read 59 = .ok (.istore 4, 2) := by decide +kernel
theorem dX6_read_61 : decode cX6_read 61 = .ok (.iload_n 2, 1) := by decide +kernel
theorem dX6_read_62 : decode cX6_read 62 = .ok (.bipush 6, 2) := by decide +kernel
theorem dX6_read_64 : decode cX6_read 64 = .ok (.if_icmp .ne 91, 3) := by decide +kernel
theorem dX6_read_67 : decode cX6_read 67 = .ok (.aload_n 0, 1) := by decide +kernel
theorem dX6_read_68 : decode cX6_read 68 = .ok (.getfield 7, 3) := by decide +kernel
theorem dX6_read_71 : decode cX6_read 71 = .ok (.iload_n 3, 1) := by decide +kernel
theorem dX6_read_72 : decode cX6_read 72 = .ok (.iconst 1, 1) := by decide +kernel
theorem dX6_read_73 : decode cX6_read 73 = .ok (.iadd, 1) := by decide +kernel
theorem dX6_read_74 : decode cX6_read 74 = .ok (.iaload, 1) := by decide +kernel
theorem dX6_read_75 : decode cX6_read 75 = .ok (.ifCond .eq 16, 3) := by decide +kernel
theorem dX6_read_78 : decode cX6_read 78 = .ok (.aload_n 0, 1) := by decide +kernel
theorem dX6_read_79 : decode cX6_read 79 = .ok (.getfield 7, 3) := by decide +kernel
theorem dX6_read_82 : decode cX6_read 82 = .ok (.iload_n 3, 1) := by decide +kernel
theorem dX6_read_83 : decode cX6_read 83 = .ok (.iconst 1, 1) := by decide +kernel
theorem dX6_read_84 : decode cX6_read 84 = .ok (.iadd, 1) := by decide +kernel
theorem dX6_read_85 : decode cX6_read 85 = .ok (.iaload, 1) := by decide +kernel
theorem dX6_read_86 : decode cX6_read 86 = .ok (.bipush 16, 2) := by decide +kernel
theorem dX6_read_88 : decode cX6_read 88 = .ok (.if_icmp .ne 67, 3) := by decide +kernel
theorem dX6_read_91 : decode cX6_read 91 = .ok (.aload_n 0, 1) := by decide +kernel
theorem dX6_read_92 : decode cX6_read 92 = .ok (.getfield 7, 3) := by decide +kernel
theorem dX6_read_95 : decode cX6_read 95 = .ok (.iload_n 3, 1) := by decide +kernel
theorem dX6_read_96 : decode cX6_read 96 = .ok (.iconst 2, 1) := by decide +kernel
theorem dX6_read_97 : decode cX6_read 97 = .ok (.iadd, 1) := by decide +kernel
theorem dX6_read_98 : decode cX6_read 98 = .ok (.iaload, 1) := by decide +kernel
theorem dX6_read_99 : decode cX6_read 99 = .ok (.bipush 64, 2) := by decide +kernel
theorem dX6_read_101 : decode cX6_read 101 = .ok (.if_icmp .ge 54, 3) := by decide +kernel
theorem dX6_read_104 : decode cX6_read 104 = .ok (.aload_n 0, 1) := by decide +kernel
theorem dX6_read_105 : decode cX6_read 105 = .ok (.getfield 7, 3) := by decide +kernel
theorem dX6_read_108 : decode cX6_read 108 = .ok (.iload_n 3, 1) := by decide +kernel
theorem dX6_read_109 : decode cX6_read 109 = .ok (.iconst 3, 1) := by decide +kernel
theorem dX6_read_110 : decode cX6_read 110 = .ok (.iadd, 1) := by decide +kernel
theorem dX6_read_111 : decode cX6_read 111 = .ok (.iaload, 1) := by decide +kernel
theorem dX6_read_112 : decode cX6_read 112 = .ok (.iload 4, 2) := by decide +kernel
theorem dX6_read_114 : decode cX6_read 114 = .ok (.sipush 255, 3) := by decide +kernel
theorem dX6_read_117 : decode cX6_read 117 = .ok (.iand, 1) := by decide +kernel
theorem dX6_read_118 : decode cX6_read 118 = .ok (.if_icmp .ne 37, 3) := by decide +kernel
theorem dX6_read_121 : decode cX6_read 121 = .ok (.aload_n 0, 1) := by decide +kernel
theorem dX6_read_122 : decode cX6_read 122 = .ok (.getfield 7, 3) := by decide +kernel
theorem dX6_read_125 : decode cX6_read 125 = .ok (.iload_n 3, 1) := by decide +kernel
theorem dX6_read_126 : decode cX6_read 126 = .ok (.iconst 4, 1) := by decide +kernel
theorem dX6_read_127 : decode cX6_read 127 = .ok (.iadd, 1) := by decide +kernel
theorem dX6_read_128 : decode cX6_read 128 = .ok (.iaload, 1) := by decide +kernel
theorem dX6_read_129 : decode cX6_read 129 = .ok (.iload 4, 2) := by decide +kernel
theorem dX6_read_131 : decode cX6_read 131 = .ok (.bipush 8, 2) := by decide +kernel
theorem dX6_read_133 : decode cX6_read 133 = .ok (.ishr, 1) := by decide +kernel
theorem dX6_read_134 : decode cX6_read 134 = .ok (.if_icmp .ne 21, 3) := by decide +kernel
theorem dX6_read_137 : decode cX6_read 137 = .ok (.aload_n 0, 1) := by decide +kernel
theorem dX6_read_138 : decode cX6_read 138 = .ok (.getfield 7, 3) := by decide +kernel
theorem dX6_read_141 : decode cX6_read 141 = .ok (.iload_n 3, 1) := by decide +kernel
theorem dX6_read_142 : decode cX6_read 142 = .ok (.iconst 5, 1) := by decide +kernel
theorem dX6_read_143 : decode cX6_read 143 = .ok (.iadd, 1) := by decide +kernel
theorem dX6_read_144 : decode cX6_read 144 = .ok (.iaload, 1) := by decide +kernel
theorem dX6_read_145 : decode cX6_read 145 = .ok (.sipush 253, 3) := by decide +kernel
theorem dX6_read_148 : decode cX6_read 148 = .ok (.if_icmp .ne 7, 3) := by decide +kernel
theorem dX6_read_151 : decode cX6_read 151 = .ok (.iconst 1, 1) := by decide +kernel
theorem dX6_read_152 : decode cX6_read 152 = .ok (.goto 4, 3) := by decide +kernel
theorem dX6_read_155 : decode cX6_read 155 = .ok (.iconst 0, 1) := by decide +kernel
theorem dX6_read_156 : decode cX6_read 156 = .ok (.istore 5, 2) := by decide +kernel
theorem dX6_read_158 : decode cX6_read 158 = .ok (.iload 5, 2) := by decide +kernel
theorem dX6_read_160 : decode cX6_read 160 = .ok (.ifCond .ne 7, 3) := by decide +kernel
theorem dX6_read_163 : decode cX6_read 163 = .ok (.iconst 5, 1) := by decide +kernel
theorem dX6_read_164 : decode cX6_read 164 = .ok (.goto 19, 3) := by decide +kernel
theorem dX6_read_167 : decode cX6_read 167 = .ok (.aload_n 0, 1) := by decide +kernel
theorem dX6_read_168 : decode cX6_read 168 = .ok (.getfield 7, 3) := by decide +kernel
theorem dX6_read_171 : decode cX6_read 171 = .ok (.iload_n 3, 1) := by decide +kernel
theorem dX6_read_172 : decode cX6_read 172 = .ok (.iconst 1, 1) := by decide +kernel
theorem dX6_read_173 : decode cX6_read 173 = .ok (.iadd, 1) := by decide +kernel
theorem dX6_read_174 : decode cX6_read 174 = .ok (.iaload, 1) := by decide +kernel
theorem dX6_read_175 : decode cX6_read 175 = .ok (.ifCond .ne 7, 3) := by decide +kernel
theorem dX6_read_178 : decode cX6_read 178 = .ok (.iconst 2, 1) := by decide +kernel
theorem dX6_read_179 : decode cX6_read 179 = .ok (.goto 4, 3) := by decide +kernel
theorem dX6_read_182 : decode cX6_read 182 = .ok (.iconst 3, 1) := by decide +kernel
theorem dX6_read_183 : decode cX6_read 183 = .ok (.ireturn, 1) := by decide +kernel
theorem dX6_read_184 : decode cX6_read 184 = .ok (.iload_n 2, 1) := by decide +kernel
theorem dX6_read_185 : decode cX6_read 185 = .ok (.bipush 8, 2) := by decide +kernel
theorem dX6_read_187 : decode cX6_read 187 = .ok (.isub, 1) := by decide +kernel
theorem dX6_read_188 : decode cX6_read 188 = .ok (.istore 4, 2) := by decide +kernel
theorem dX6_read_190 : decode cX6_read 190 = .ok (.iload 4, 2) := by decide +kernel
theorem dX6_read_192 : decode cX6_read 192 = .ok (.i2l, 1) := by decide +kernel
theorem dX6_read_193 : decode cX6_read 193 = .ok (.lconst 1, 1) := by decide +kernel
theorem dX6_read_194 : decode cX6_read 194 = .ok (.ldc2_w 105, 3) := by decide +kernel
theorem dX6_read_197 : decode cX6_read 197 = .ok (.invokestatic 45, 3) := by decide +kernel
theorem dX6_read_200 : decode cX6_read 200 = .ok (.ifCond .eq 39, 3) := by decide +kernel
theorem dX6_read_203 : decode cX6_read 203 = .ok (.aload_n 0, 1) := by decide +kernel
theorem dX6_read_204 : decode cX6_read 204 = .ok (.getfield 7, 3) := by decide +kernel
theorem dX6_read_207 : decode cX6_read 207 = .ok (.iload_n 3, 1) := by decide +kernel
theorem dX6_read_208 : decode cX6_read 208 = .ok (.iaload, 1) := by decide +kernel
theorem dX6_read_209 : decode cX6_read 209 = .ok (.sipush 251, 3) := by decide +kernel
theorem dX6_read_212 : decode cX6_read 212 = .ok (.if_icmp .ne 27, 3) := by decide +kernel
theorem dX6_read_215 : decode cX6_read 215 = .ok (.aload_n 0, 1) := by decide +kernel
theorem dX6_read_216 : decode cX6_read 216 = .ok (.getfield 7, 3) := by decide +kernel
theorem dX6_read_219 : decode cX6_read 219 = .ok (.iload_n 3, 1) := by decide +kernel
theorem dX6_read_220 : decode cX6_read 220 = .ok (.iconst 1, 1) := by decide +kernel
theorem dX6_read_221 : decode cX6_read 221 = .ok (.iadd, 1) := by decide +kernel
theorem dX6_read_222 : decode cX6_read 222 = .ok (.iaload, 1) := by decide +kernel
theorem dX6_read_223 : decode cX6_read 223 = .ok (.ifCond .ne 16, 3) := by decide +kernel
theorem dX6_read_226 : decode cX6_read 226 = .ok (.aload_n 0, 1) := by decide +kernel
theorem dX6_read_227 : decode cX6_read 227 = .ok (.getfield 7, 3) := by decide +kernel
theorem dX6_read_230 : decode cX6_read 230 = .ok (.iload_n 3, 1) := by decide +kernel
theorem dX6_read_231 : decode cX6_read 231 = .ok (.iconst 2, 1) := by decide +kernel
theorem dX6_read_232 : decode cX6_read 232 = .ok (.iadd, 1) := by decide +kernel
theorem dX6_read_233 : decode cX6_read 233 = .ok (.iaload, 1) := by decide +kernel
theorem dX6_read_234 : decode cX6_read 234 = .ok (.bipush 63, 2) := by decide +kernel
theorem dX6_read_236 : decode cX6_read 236 = .ok (.if_icmp .le 5, 3) := by decide +kernel
theorem dX6_read_239 : decode cX6_read 239 = .ok (.iconst 4, 1) := by decide +kernel
theorem dX6_read_240 : decode cX6_read 240 = .ok (.ireturn, 1) := by decide +kernel
theorem dX6_read_241 : decode cX6_read 241 = .ok (.aload_n 0, 1) := by decide +kernel
theorem dX6_read_242 : decode cX6_read 242 = .ok (.iconst 1, 1) := by decide +kernel
theorem dX6_read_243 : decode cX6_read 243 = .ok (.invokevirtual 60, 3) := by decide +kernel
theorem dX6_read_246 : decode cX6_read 246 = .ok (.aload_n 0, 1) := by decide +kernel
theorem dX6_read_247 : decode cX6_read 247 = .ok (.iconst 0, 1) := by decide +kernel
theorem dX6_read_248 : decode cX6_read 248 = .ok (.iconst 1, 1) := by decide +kernel
theorem dX6_read_249 : decode cX6_read 249 = .ok (.invokevirtual 64, 3) := by decide +kernel
theorem dX6_read_252 : decode cX6_read 252 = .ok (.aload_n 0, 1) := by decide +kernel
theorem dX6_read_253 : decode cX6_read 253 = .ok (.aload_n 0, 1) := by decide +kernel
theorem dX6_read_254 : decode cX6_read 254 = .ok (.getfield 7, 3) := by decide +kernel
theorem dX6_read_257 : decode cX6_read 257 = .ok (.iload_n 3, 1) := by decide +kernel
theorem dX6_read_258 : decode cX6_read 258 = .ok (.iconst 2, 1) := by decide +kernel
theorem dX6_read_259 : decode cX6_read 259 = .ok (.iadd, 1) := by decide +kernel
theorem dX6_read_260 : decode cX6_read 260 = .ok (.iaload, 1) := by decide +kernel
theorem dX6_read_261 : decode cX6_read 261 = .ok (.iconst 1, 1) := by decide +kernel
theorem dX6_read_262 : decode cX6_read 262 = .ok (.invokevirtual 64, 3) := by decide +kernel
theorem dX6_read_265 : decode cX6_read 265 = .ok (.iconst 0, 1) := by decide +kernel
theorem dX6_read_266 : decode cX6_read 266 = .ok (.istore 5, 2) := by decide +kernel
theorem dX6_read_268 : decode cX6_read 268 = .ok (.iload 5, 2) := by decide +kernel
theorem dX6_read_270 : decode cX6_read 270 = .ok (.iload 4, 2) := by decide +kernel
theorem dX6_read_272 : decode cX6_read 272 = .ok (.if_icmp .ge 25, 3) := by decide +kernel
theorem dX6_read_275 : decode cX6_read 275 = .ok (.aload_n 0, 1) := by decide +kernel
theorem dX6_read_276 : decode cX6_read 276 = .ok (.aload_n 0, 1) := by decide +kernel
theorem dX6_read_277 : decode cX6_read 277 = .ok (.getfield 7, 3) := by decide +kernel
theorem dX6_read_280 : decode cX6_read 280 = .ok (.iload_n 3, 1) := by decide +kernel
theorem dX6_read_281 : decode cX6_read 281 = .ok (.iconst 3, 1) := by decide +kernel
theorem dX6_read_282 : decode cX6_read 282 = .ok (.iadd, 1) := by decide +kernel
theorem dX6_read_283 : decode cX6_read 283 = .ok (.iload 5, 2) := by decide +kernel
theorem dX6_read_285 : decode cX6_read 285 = .ok (.iadd, 1) := by decide +kernel
theorem dX6_read_286 : decode cX6_read 286 = .ok (.iaload, 1) := by decide +kernel
theorem dX6_read_287 : decode cX6_read 287 = .ok (.iconst 1, 1) := by decide +kernel
theorem dX6_read_288 : decode cX6_read 288 = .ok (.invokevirtual 64, 3) := by decide +kernel
theorem dX6_read_291 : decode cX6_read 291 = .ok (.iinc 5 1, 3) := by decide +kernel
theorem dX6_read_294 : decode cX6_read 294 = .ok (.goto (-26), 3) := by decide +kernel
theorem dX6_read_297 : decode cX6_read 297 = .ok (.lconst 0, 1) := by decide +kernel
theorem dX6_read_298 : decode cX6_read 298 = .ok (.lstore 5, 2) := by decide +kernel
theorem dX6_read_300 : decode cX6_read 300 = .ok (.iconst 3, 1) := by decide +kernel
theorem dX6_read_301 : decode cX6_read 301 = .ok (.istore 7, 2) := by decide +kernel
theorem dX6_read_303 : decode cX6_read 303 = .ok (.iload 7, 2) := by decide +kernel
theorem dX6_read_305 : decode cX6_read 305 = .ok (.ifCond .lt 32, 3) := by decide +kernel
theorem dX6_read_308 : decode cX6_read 308 = .ok (.lload 5, 2) := by decide +kernel
theorem dX6_read_310 : decode cX6_read 310 = .ok (.bipush 8, 2) := by decide +kernel
theorem dX6_read_312 : decode cX6_read 312 = .ok (.lshl, 1) := by decide +kernel
theorem dX6_read_313 : decode cX6_read 313 = .ok (.aload_n 0, 1) := by decide +kernel
theorem dX6_read_314 : decode cX6_read 314 = .ok (.getfield 7, 3) := by decide +kernel
theorem dX6_read_317 : decode cX6_read 317 = .ok (.iload_n 3, 1) := by decide +kernel
theorem dX6_read_318 : decode cX6_read 318 = .ok (.iconst 3, 1) := by decide +kernel
theorem dX6_read_319 : decode cX6_read 319 = .ok (.iadd, 1) := by decide +kernel
theorem dX6_read_320 : decode cX6_read 320 = .ok (.iload 4, 2) := by decide +kernel
theorem dX6_read_322 : decode cX6_read 322 = .ok (.iadd, 1) := by decide +kernel
theorem dX6_read_323 : decode cX6_read 323 = .ok (.iload 7, 2) := by decide +kernel
theorem dX6_read_325 : decode cX6_read 325 = .ok (.iadd, 1) := by decide +kernel
theorem dX6_read_326 : decode cX6_read 326 = .ok (.iaload, 1) := by decide +kernel
theorem dX6_read_327 : decode cX6_read 327 = .ok (.i2l, 1) := by decide +kernel
theorem dX6_read_328 : decode cX6_read 328 = .ok (.lor, 1) := by decide +kernel
theorem dX6_read_329 : decode cX6_read 329 = .ok (.lstore 5, 2) := by decide +kernel
theorem dX6_read_331 : decode cX6_read 331 = .ok (.iinc 7 (-1), 3) := by decide +kernel
theorem dX6_read_334 : decode cX6_read 334 = .ok (.goto (-31), 3) := by decide +kernel
theorem dX6_read_337 : decode cX6_read 337 = .ok (.aload_n 0, 1) := by decide +kernel
theorem dX6_read_338 : decode cX6_read 338 = .ok (.getfield 7, 3) := by decide +kernel
theorem dX6_read_341 : decode cX6_read 341 = .ok (.iload_n 3, 1) := by decide +kernel
theorem dX6_read_342 : decode cX6_read 342 = .ok (.iload_n 2, 1) := by decide +kernel
theorem dX6_read_343 : decode cX6_read 343 = .ok (.iadd, 1) := by decide +kernel
theorem dX6_read_344 : decode cX6_read 344 = .ok (.iconst 1, 1) := by decide +kernel
theorem dX6_read_345 : decode cX6_read 345 = .ok (.isub, 1) := by decide +kernel
theorem dX6_read_346 : decode cX6_read 346 = .ok (.iaload, 1) := by decide +kernel
theorem dX6_read_347 : decode cX6_read 347 = .ok (.istore 7, 2) := by decide +kernel
theorem dX6_read_349 : decode cX6_read 349 = .ok (.iload 7, 2) := by decide +kernel
theorem dX6_read_351 : decode cX6_read 351 = .ok (.sipush 253, 3) := by decide +kernel
theorem dX6_read_354 : decode cX6_read 354 = .ok (.if_icmp .ne 16, 3) := by decide +kernel
theorem dX6_read_357 : decode cX6_read 357 = .ok (.lload 5, 2) := by decide +kernel
theorem dX6_read_359 : decode cX6_read 359 = .ok (.aload_n 0, 1) := by decide +kernel
theorem dX6_read_360 : decode cX6_read 360 = .ok (.iconst 1, 1) := by decide +kernel
theorem dX6_read_361 : decode cX6_read 361 = .ok (.invokevirtual 68, 3) := by decide +kernel
theorem dX6_read_364 : decode cX6_read 364 = .ok (.lcmp, 1) := by decide +kernel
theorem dX6_read_365 : decode cX6_read 365 = .ok (.ifCond .ne 5, 3) := by decide +kernel
theorem dX6_read_368 : decode cX6_read 368 = .ok (.iconst 0, 1) := by decide +kernel
theorem dX6_read_369 : decode cX6_read 369 = .ok (.ireturn, 1) := by decide +kernel
theorem dX6_read_370 : decode cX6_read 370 = .ok (.iload 7, 2) := by decide +kernel
theorem dX6_read_372 : decode cX6_read 372 = .ok (.sipush 254, 3) := by decide +kernel
theorem dX6_read_375 : decode cX6_read 375 = .ok (.if_icmp .ne 22, 3) := by decide +kernel
theorem dX6_read_378 : decode cX6_read 378 = .ok (.lload 5, 2) := by decide +kernel
theorem dX6_read_380 : decode cX6_read 380 = .ok (.aload_n 0, 1) := by decide +kernel
theorem dX6_read_381 : decode cX6_read 381 = .ok (.iconst 1, 1) := by decide +kernel
theorem dX6_read_382 : decode cX6_read 382 = .ok (.invokevirtual 68, 3) := by decide +kernel
theorem dX6_read_385 : decode cX6_read 385 = .ok (.ldc2_w 27, 3) := by decide +kernel
theorem dX6_read_388 : decode cX6_read 388 = .ok (.lxor, 1) := by decide +kernel
theorem dX6_read_389 : decode cX6_read 389 = .ok (.lcmp, 1) := by decide +kernel
theorem dX6_read_390 : decode cX6_read 390 = .ok (.ifCond .ne 7, 3) := by decide +kernel
theorem dX6_read_393 : decode cX6_read 393 = .ok (.iconst 1, 1) := by decide +kernel
theorem dX6_read_394 : decode cX6_read 394 = .ok (.goto 4, 3) := by decide +kernel
theorem dX6_read_397 : decode cX6_read 397 = .ok (.iconst 4, 1) := by decide +kernel
theorem dX6_read_398 : decode cX6_read 398 = .ok (.ireturn, 1) := by decide +kernel
theorem dX6_sendsAgain_0 : decode cX6_sendsAgain 0 = .ok (.iload_n 1, 1) := by decide +kernel
theorem dX6_sendsAgain_1 : decode cX6_sendsAgain 1 = .ok (.invokestatic 20, 3) := by decide +kernel
theorem dX6_sendsAgain_4 : decode cX6_sendsAgain 4 = .ok (.istore_n 2, 1) := by decide +kernel
theorem dX6_sendsAgain_5 : decode cX6_sendsAgain 5 = .ok (.aload_n 0, 1) := by decide +kernel
theorem dX6_sendsAgain_6 : decode cX6_sendsAgain 6 = .ok (.getfield 7, 3) := by decide +kernel
theorem dX6_sendsAgain_9 : decode cX6_sendsAgain 9 = .ok (.bipush 6, 2) := by decide +kernel
theorem dX6_sendsAgain_11 : decode cX6_sendsAgain 11 = .ok (.dup2, 1) := by decide +kernel
theorem dX6_sendsAgain_12 : decode cX6_sendsAgain 12 = .ok (.iaload, 1) := by decide +kernel
theorem dX6_sendsAgain_13 : decode cX6_sendsAgain 13 = .ok (.iconst 1, 1) := by decide +kernel
theorem dX6_sendsAgain_14 : decode cX6_sendsAgain 14 = .ok (.iadd, 1) := by decide +kernel
theorem dX6_sendsAgain_15 : decode cX6_sendsAgain 15 = .ok (.iastore, 1) := by decide +kernel
theorem dX6_sendsAgain_16 : decode cX6_sendsAgain 16 = .ok (.aload_n 0, 1) := by decide +kernel
theorem dX6_sendsAgain_17 : decode cX6_sendsAgain 17 = .ok (.getfield 7, 3) := by decide +kernel
theorem dX6_sendsAgain_20 : decode cX6_sendsAgain 20 = .ok (.iload_n 2, 1) := by decide +kernel
theorem dX6_sendsAgain_21 : decode cX6_sendsAgain 21 = .ok (.iconst 5, 1) := by decide +kernel
theorem dX6_sendsAgain_22 : decode cX6_sendsAgain 22 = .ok (.iadd, 1) := by decide +kernel
theorem dX6_sendsAgain_23 : decode cX6_sendsAgain 23 = .ok (.dup2, 1) := by decide +kernel
theorem dX6_sendsAgain_24 : decode cX6_sendsAgain 24 = .ok (.iaload, 1) := by decide +kernel
theorem dX6_sendsAgain_25 : decode cX6_sendsAgain 25 = .ok (.iconst 1, 1) := by decide +kernel
theorem dX6_sendsAgain_26 : decode cX6_sendsAgain 26 = .ok (.iadd, 1) := by decide +kernel
theorem dX6_sendsAgain_27 : decode cX6_sendsAgain 27 = .ok (.iastore, 1) := by decide +kernel
theorem dX6_sendsAgain_28 : decode cX6_sendsAgain 28 = .ok (.aload_n 0, 1) := by decide +kernel
theorem dX6_sendsAgain_29 : decode cX6_sendsAgain 29 = .ok (.getfield 7, 3) := by decide +kernel
theorem dX6_sendsAgain_32 : decode cX6_sendsAgain 32 = .ok (.iload_n 2, 1) := by decide +kernel
theorem dX6_sendsAgain_33 : decode cX6_sendsAgain 33 = .ok (.iconst 4, 1) := by decide +kernel
theorem dX6_sendsAgain_34 : decode cX6_sendsAgain 34 = .ok (.iadd, 1) := by decide +kernel
theorem dX6_sendsAgain_35 : decode cX6_sendsAgain 35 = .ok (.iconst 0, 1) := by decide +kernel
theorem dX6_sendsAgain_36 : decode cX6_sendsAgain 36 = .ok (.iastore, 1) := by decide +kernel
theorem dX6_sendsAgain_37 : decode cX6_sendsAgain 37 = .ok (.aload_n 0, 1) := by decide +kernel
theorem dX6_sendsAgain_38 : decode cX6_sendsAgain 38 = .ok (.getfield 7, 3) := by decide +kernel
theorem dX6_sendsAgain_41 : decode cX6_sendsAgain 41 = .ok (.iload_n 2, 1) := by decide +kernel
theorem dX6_sendsAgain_42 : decode cX6_sendsAgain 42 = .ok (.bipush 6, 2) := by decide +kernel
theorem dX6_sendsAgain_44 : decode cX6_sendsAgain 44 = .ok (.iadd, 1) := by decide +kernel
theorem dX6_sendsAgain_45 : decode cX6_sendsAgain 45 = .ok (.aload_n 0, 1) := by decide +kernel
theorem dX6_sendsAgain_46 : decode cX6_sendsAgain 46 = .ok (.getfield 7, 3) := by decide +kernel
theorem dX6_sendsAgain_49 : decode cX6_sendsAgain 49 = .ok (.iload_n 2, 1) := by decide +kernel
theorem dX6_sendsAgain_50 : decode cX6_sendsAgain 50 = .ok (.iconst 2, 1) := by decide +kernel
theorem dX6_sendsAgain_51 : decode cX6_sendsAgain 51 = .ok (.iadd, 1) := by decide +kernel
theorem dX6_sendsAgain_52 : decode cX6_sendsAgain 52 = .ok (.iaload, 1) := by decide +kernel
theorem dX6_sendsAgain_53 : decode cX6_sendsAgain 53 = .ok (.iastore, 1) := by decide +kernel
theorem dX6_sendsAgain_54 : decode cX6_sendsAgain 54 = .ok (.aload_n 0, 1) := by decide +kernel
theorem dX6_sendsAgain_55 : decode cX6_sendsAgain 55 = .ok (.getfield 7, 3) := by decide +kernel
theorem dX6_sendsAgain_58 : decode cX6_sendsAgain 58 = .ok (.iload_n 2, 1) := by decide +kernel
theorem dX6_sendsAgain_59 : decode cX6_sendsAgain 59 = .ok (.iconst 5, 1) := by decide +kernel
theorem dX6_sendsAgain_60 : decode cX6_sendsAgain 60 = .ok (.iadd, 1) := by decide +kernel
theorem dX6_sendsAgain_61 : decode cX6_sendsAgain 61 = .ok (.iaload, 1) := by decide +kernel
theorem dX6_sendsAgain_62 : decode cX6_sendsAgain 62 = .ok (.iconst 4, 1) := by decide +kernel
theorem dX6_sendsAgain_63 : decode cX6_sendsAgain 63 = .ok (.if_icmp .ne 63, 3) := by decide +kernel
theorem dX6_sendsAgain_66 : decode cX6_sendsAgain 66 = .ok (.aload_n 0, 1) := by decide +kernel
theorem dX6_sendsAgain_67 : decode cX6_sendsAgain 67 = .ok (.getfield 7, 3) := by decide +kernel
theorem dX6_sendsAgain_70 : decode cX6_sendsAgain 70 = .ok (.iload_n 2, 1) := by decide +kernel
theorem dX6_sendsAgain_71 : decode cX6_sendsAgain 71 = .ok (.iconst 5, 1) := by decide +kernel
theorem dX6_sendsAgain_72 : decode cX6_sendsAgain 72 = .ok (.iadd, 1) := by decide +kernel
theorem dX6_sendsAgain_73 : decode cX6_sendsAgain 73 = .ok (.iconst 0, 1) := by decide +kernel
theorem dX6_sendsAgain_74 : decode cX6_sendsAgain 74 = .ok (.iastore, 1) := by decide +kernel
theorem dX6_sendsAgain_75 : decode cX6_sendsAgain 75 = .ok (.aload_n 0, 1) := by decide +kernel
theorem dX6_sendsAgain_76 : decode cX6_sendsAgain 76 = .ok (.getfield 7, 3) := by decide +kernel
theorem dX6_sendsAgain_79 : decode cX6_sendsAgain 79 = .ok (.iconst 4, 1) := by decide +kernel
theorem dX6_sendsAgain_80 : decode cX6_sendsAgain 80 = .ok (.iconst 5, 1) := by decide +kernel
theorem dX6_sendsAgain_81 : decode cX6_sendsAgain 81 = .ok (.iastore, 1) := by decide +kernel
theorem dX6_sendsAgain_82 : decode cX6_sendsAgain 82 = .ok (.aload_n 0, 1) := by decide +kernel
theorem dX6_sendsAgain_83 : decode cX6_sendsAgain 83 = .ok (.getfield 7, 3) := by decide +kernel
theorem dX6_sendsAgain_86 : decode cX6_sendsAgain 86 = .ok (.iconst 5, 1) := by decide +kernel
theorem dX6_sendsAgain_87 : decode cX6_sendsAgain 87 = .ok (.dup2, 1) := by decide +kernel
theorem dX6_sendsAgain_88 : decode cX6_sendsAgain 88 = .ok (.iaload, 1) := by decide +kernel
theorem dX6_sendsAgain_89 : decode cX6_sendsAgain 89 = .ok (.iconst 1, 1) := by decide +kernel
theorem dX6_sendsAgain_90 : decode cX6_sendsAgain 90 = .ok (.iadd, 1) := by decide +kernel
theorem dX6_sendsAgain_91 : decode cX6_sendsAgain 91 = .ok (.iastore, 1) := by decide +kernel
theorem dX6_sendsAgain_92 : decode cX6_sendsAgain 92 = .ok (.aload_n 0, 1) := by decide +kernel
theorem dX6_sendsAgain_93 : decode cX6_sendsAgain 93 = .ok (.iconst 0, 1) := by decide +kernel
theorem dX6_sendsAgain_94 : decode cX6_sendsAgain 94 = .ok (.invokevirtual 78, 3) := by decide +kernel
theorem dX6_sendsAgain_97 : decode cX6_sendsAgain 97 = .ok (.ifCond .le 12, 3) := by decide +kernel
theorem dX6_sendsAgain_100 : decode cX6_sendsAgain 100 = .ok (.aload_n 0, 1) := by decide +kernel
theorem dX6_sendsAgain_101 : decode cX6_sendsAgain 101 = .ok (.iconst 0, 1) := by decide +kernel
theorem dX6_sendsAgain_102 : decode cX6_sendsAgain 102 = .ok (.iconst 0, 1) := by decide +kernel
theorem dX6_sendsAgain_103 : decode cX6_sendsAgain 103 = .ok (.invokevirtual 84, 3) := by decide +kernel
theorem dX6_sendsAgain_106 : decode cX6_sendsAgain 106 = .ok (.goto (-14), 3) := by decide +kernel
theorem dX6_sendsAgain_109 : decode cX6_sendsAgain 109 = .ok (.aload_n 0, 1) := by decide +kernel
theorem dX6_sendsAgain_110 : decode cX6_sendsAgain 110 = .ok (.iconst 1, 1) := by decide +kernel
theorem dX6_sendsAgain_111 : decode cX6_sendsAgain 111 = .ok (.invokevirtual 78, 3) := by decide +kernel
theorem dX6_sendsAgain_114 : decode cX6_sendsAgain 114 = .ok (.ifCond .le 12, 3) := by decide +kernel
theorem dX6_sendsAgain_117 : decode cX6_sendsAgain 117 = .ok (.aload_n 0, 1) := by decide +kernel
theorem dX6_sendsAgain_118 : decode cX6_sendsAgain 118 = .ok (.iconst 1, 1) := by decide +kernel
theorem dX6_sendsAgain_119 : decode cX6_sendsAgain 119 = .ok (.iconst 0, 1) := by decide +kernel
theorem dX6_sendsAgain_120 : decode cX6_sendsAgain 120 = .ok (.invokevirtual 84, 3) := by decide +kernel
theorem dX6_sendsAgain_123 : decode cX6_sendsAgain 123 = .ok (.goto (-14), 3) := by decide +kernel
theorem dX6_sendsAgain_126 : decode cX6_sendsAgain 126 = .ok (.return_, 1) := by decide +kernel
theorem dX6_comesWord_0 : decode cX6_comesWord 0 = .ok (.iload_n 1, 1) := by decide +kernel
theorem dX6_comesWord_1 : decode cX6_comesWord 1 = .ok (.invokestatic 20, 3) := by decide +kernel
theorem dX6_comesWord_4 : decode cX6_comesWord 4 = .ok (.istore 4, 2) := by decide +kernel
theorem dX6_comesWord_6 : decode cX6_comesWord 6 = .ok (.aload_n 0, 1) := by decide +kernel
theorem dX6_comesWord_7 : decode cX6_comesWord 7 = .ok (.getfield 7, 3) := by decide +kernel
theorem dX6_comesWord_10 : decode cX6_comesWord 10 = .ok (.bipush 28, 2) := by decide +kernel
theorem dX6_comesWord_12 : decode cX6_comesWord 12 = .ok (.dup2, 1) := by decide +kernel
theorem dX6_comesWord_13 : decode cX6_comesWord 13 = .ok (.iaload, 1) := by decide +kernel
theorem dX6_comesWord_14 : decode cX6_comesWord 14 = .ok (.iconst 1, 1) := by decide +kernel
theorem dX6_comesWord_15 : decode cX6_comesWord 15 = .ok (.iadd, 1) := by decide +kernel
theorem dX6_comesWord_16 : decode cX6_comesWord 16 = .ok (.iastore, 1) := by decide +kernel
theorem dX6_comesWord_17 : decode cX6_comesWord 17 = .ok (.aload_n 0, 1) := by decide +kernel
theorem dX6_comesWord_18 : decode cX6_comesWord 18 = .ok (.getfield 7, 3) := by decide +kernel
theorem dX6_comesWord_21 : decode cX6_comesWord 21 = .ok (.iload 4, 2) := by decide +kernel
theorem dX6_comesWord_23 : decode cX6_comesWord 23 = .ok (.iconst 1, 1) := by decide +kernel
theorem dX6_comesWord_24 : decode cX6_comesWord 24 = .ok (.iadd, 1) := by decide +kernel
theorem dX6_comesWord_25 : decode cX6_comesWord 25 = .ok (.iaload, 1) := by decide +kernel
theorem dX6_comesWord_26 : decode cX6_comesWord 26 = .ok (.iconst 1, 1) := by decide +kernel
theorem dX6_comesWord_27 : decode cX6_comesWord 27 = .ok (.isub, 1) := by decide +kernel
theorem dX6_comesWord_28 : decode cX6_comesWord 28 = .ok (.iload_n 3, 1) := by decide +kernel
theorem dX6_comesWord_29 : decode cX6_comesWord 29 = .ok (.isub, 1) := by decide +kernel
theorem dX6_comesWord_30 : decode cX6_comesWord 30 = .ok (.invokestatic 95, 3) := by decide +kernel
theorem dX6_comesWord_33 : decode cX6_comesWord 33 = .ok (.bipush 32, 2) := by decide +kernel
theorem dX6_comesWord_35 : decode cX6_comesWord 35 = .ok (.if_icmp .lt 15, 3) := by decide +kernel
theorem dX6_comesWord_38 : decode cX6_comesWord 38 = .ok (.aload_n 0, 1) := by decide +kernel
theorem dX6_comesWord_39 : decode cX6_comesWord 39 = .ok (.getfield 7, 3) := by decide +kernel
theorem dX6_comesWord_42 : decode cX6_comesWord 42 = .ok (.bipush 29, 2) := by decide +kernel
theorem dX6_comesWord_44 : decode cX6_comesWord 44 = .ok (.dup2, 1) := by decide +kernel
theorem dX6_comesWord_45 : decode cX6_comesWord 45 = .ok (.iaload, 1) := by decide +kernel
theorem dX6_comesWord_46 : decode cX6_comesWord 46 = .ok (.iconst 1, 1) := by decide +kernel
theorem dX6_comesWord_47 : decode cX6_comesWord 47 = .ok (.iadd, 1) := by decide +kernel
theorem dX6_comesWord_48 : decode cX6_comesWord 48 = .ok (.iastore, 1) := by decide +kernel
theorem dX6_comesWord_49 : decode cX6_comesWord 49 = .ok (.return_, 1) := by decide +kernel
theorem dX6_comesWord_50 : decode cX6_comesWord 50 = .ok (.iload_n 3, 1) := by decide +kernel
theorem dX6_comesWord_51 : decode cX6_comesWord 51 = .ok (.aload_n 0, 1) := by decide +kernel
theorem dX6_comesWord_52 : decode cX6_comesWord 52 = .ok (.getfield 7, 3) := by decide +kernel
theorem dX6_comesWord_55 : decode cX6_comesWord 55 = .ok (.iload 4, 2) := by decide +kernel
theorem dX6_comesWord_57 : decode cX6_comesWord 57 = .ok (.iconst 3, 1) := by decide +kernel
theorem dX6_comesWord_58 : decode cX6_comesWord 58 = .ok (.iadd, 1) := by decide +kernel
theorem dX6_comesWord_59 : decode cX6_comesWord 59 = .ok (.iaload, 1) := by decide +kernel
theorem dX6_comesWord_60 : decode cX6_comesWord 60 = .ok (.isub, 1) := by decide +kernel
theorem dX6_comesWord_61 : decode cX6_comesWord 61 = .ok (.invokestatic 95, 3) := by decide +kernel
theorem dX6_comesWord_64 : decode cX6_comesWord 64 = .ok (.istore 5, 2) := by decide +kernel
theorem dX6_comesWord_66 : decode cX6_comesWord 66 = .ok (.iload 5, 2) := by decide +kernel
theorem dX6_comesWord_68 : decode cX6_comesWord 68 = .ok (.iconst 1, 1) := by decide +kernel
theorem dX6_comesWord_69 : decode cX6_comesWord 69 = .ok (.if_icmp .lt 115, 3) := by decide +kernel
theorem dX6_comesWord_72 : decode cX6_comesWord 72 = .ok (.iload 5, 2) := by decide +kernel
theorem dX6_comesWord_74 : decode cX6_comesWord 74 = .ok (.aload_n 0, 1) := by decide +kernel
theorem dX6_comesWord_75 : decode cX6_comesWord 75 = .ok (.getfield 7, 3) := by decide +kernel
theorem dX6_comesWord_78 : decode cX6_comesWord 78 = .ok (.iload 4, 2) := by decide +kernel
theorem dX6_comesWord_80 : decode cX6_comesWord 80 = .ok (.iconst 2, 1) := by decide +kernel
theorem dX6_comesWord_81 : decode cX6_comesWord 81 = .ok (.iadd, 1) := by decide +kernel
theorem dX6_comesWord_82 : decode cX6_comesWord 82 = .ok (.iaload, 1) := by decide +kernel
theorem dX6_comesWord_83 : decode cX6_comesWord 83 = .ok (.if_icmp .gt 101, 3) := by decide +kernel
theorem dX6_comesWord_86 : decode cX6_comesWord 86 = .ok (.aload_n 0, 1) := by decide +kernel
theorem dX6_comesWord_87 : decode cX6_comesWord 87 = .ok (.getfield 7, 3) := by decide +kernel
theorem dX6_comesWord_90 : decode cX6_comesWord 90 = .ok (.iload 4, 2) := by decide +kernel
theorem dX6_comesWord_92 : decode cX6_comesWord 92 = .ok (.iconst 2, 1) := by decide +kernel
theorem dX6_comesWord_93 : decode cX6_comesWord 93 = .ok (.iadd, 1) := by decide +kernel
theorem dX6_comesWord_94 : decode cX6_comesWord 94 = .ok (.dup2, 1) := by decide +kernel
theorem dX6_comesWord_95 : decode cX6_comesWord 95 = .ok (.iaload, 1) := by decide +kernel
theorem dX6_comesWord_96 : decode cX6_comesWord 96 = .ok (.iload 5, 2) := by decide +kernel
theorem dX6_comesWord_98 : decode cX6_comesWord 98 = .ok (.isub, 1) := by decide +kernel
theorem dX6_comesWord_99 : decode cX6_comesWord 99 = .ok (.iastore, 1) := by decide +kernel
theorem dX6_comesWord_100 : decode cX6_comesWord 100 = .ok (.aload_n 0, 1) := by decide +kernel
theorem dX6_comesWord_101 : decode cX6_comesWord 101 = .ok (.getfield 7, 3) := by decide +kernel
theorem dX6_comesWord_104 : decode cX6_comesWord 104 = .ok (.iload 4, 2) := by decide +kernel
theorem dX6_comesWord_106 : decode cX6_comesWord 106 = .ok (.iconst 3, 1) := by decide +kernel
theorem dX6_comesWord_107 : decode cX6_comesWord 107 = .ok (.iadd, 1) := by decide +kernel
theorem dX6_comesWord_108 : decode cX6_comesWord 108 = .ok (.iload_n 3, 1) := by decide +kernel
theorem dX6_comesWord_109 : decode cX6_comesWord 109 = .ok (.iastore, 1) := by decide +kernel
theorem dX6_comesWord_110 : decode cX6_comesWord 110 = .ok (.aload_n 0, 1) := by decide +kernel
theorem dX6_comesWord_111 : decode cX6_comesWord 111 = .ok (.getfield 7, 3) := by decide +kernel
theorem dX6_comesWord_114 : decode cX6_comesWord 114 = .ok (.iload 4, 2) := by decide +kernel
theorem dX6_comesWord_116 : decode cX6_comesWord 116 = .ok (.iconst 4, 1) := by decide +kernel
theorem dX6_comesWord_117 : decode cX6_comesWord 117 = .ok (.iadd, 1) := by decide +kernel
theorem dX6_comesWord_118 : decode cX6_comesWord 118 = .ok (.iconst 0, 1) := by decide +kernel
theorem dX6_comesWord_119 : decode cX6_comesWord 119 = .ok (.iastore, 1) := by decide +kernel
theorem dX6_comesWord_120 : decode cX6_comesWord 120 = .ok (.aload_n 0, 1) := by decide +kernel
theorem dX6_comesWord_121 : decode cX6_comesWord 121 = .ok (.getfield 7, 3) := by decide +kernel
theorem dX6_comesWord_124 : decode cX6_comesWord 124 = .ok (.iload 4, 2) := by decide +kernel
theorem dX6_comesWord_126 : decode cX6_comesWord 126 = .ok (.iconst 5, 1) := by decide +kernel
theorem dX6_comesWord_127 : decode cX6_comesWord 127 = .ok (.iadd, 1) := by decide +kernel
theorem dX6_comesWord_128 : decode cX6_comesWord 128 = .ok (.iconst 0, 1) := by decide +kernel
theorem dX6_comesWord_129 : decode cX6_comesWord 129 = .ok (.iastore, 1) := by decide +kernel
theorem dX6_comesWord_130 : decode cX6_comesWord 130 = .ok (.aload_n 0, 1) := by decide +kernel
theorem dX6_comesWord_131 : decode cX6_comesWord 131 = .ok (.getfield 7, 3) := by decide +kernel
theorem dX6_comesWord_134 : decode cX6_comesWord 134 = .ok (.iload 4, 2) := by decide +kernel
theorem dX6_comesWord_136 : decode cX6_comesWord 136 = .ok (.bipush 6, 2) := by decide +kernel
theorem dX6_comesWord_138 : decode cX6_comesWord 138 = .ok (.iadd, 1) := by decide +kernel
theorem dX6_comesWord_139 : decode cX6_comesWord 139 = .ok (.aload_n 0, 1) := by decide +kernel
theorem dX6_comesWord_140 : decode cX6_comesWord 140 = .ok (.getfield 7, 3) := by decide +kernel
theorem dX6_comesWord_143 : decode cX6_comesWord 143 = .ok (.iload 4, 2) := by decide +kernel
theorem dX6_comesWord_145 : decode cX6_comesWord 145 = .ok (.bipush 6, 2) := by decide +kernel
theorem dX6_comesWord_147 : decode cX6_comesWord 147 = .ok (.iadd, 1) := by decide +kernel
theorem dX6_comesWord_148 : decode cX6_comesWord 148 = .ok (.iaload, 1) := by decide +kernel
theorem dX6_comesWord_149 : decode cX6_comesWord 149 = .ok (.aload_n 0, 1) := by decide +kernel
theorem dX6_comesWord_150 : decode cX6_comesWord 150 = .ok (.getfield 7, 3) := by decide +kernel
theorem dX6_comesWord_153 : decode cX6_comesWord 153 = .ok (.iload 4, 2) := by decide +kernel
theorem dX6_comesWord_155 : decode cX6_comesWord 155 = .ok (.iconst 2, 1) := by decide +kernel
theorem dX6_comesWord_156 : decode cX6_comesWord 156 = .ok (.iadd, 1) := by decide +kernel
theorem dX6_comesWord_157 : decode cX6_comesWord 157 = .ok (.iaload, 1) := by decide +kernel
theorem dX6_comesWord_158 : decode cX6_comesWord 158 = .ok (.if_icmp .ge 16, 3) := by decide +kernel
theorem dX6_comesWord_161 : decode cX6_comesWord 161 = .ok (.aload_n 0, 1) := by decide +kernel
theorem dX6_comesWord_162 : decode cX6_comesWord 162 = .ok (.getfield 7, 3) := by decide +kernel
theorem dX6_comesWord_165 : decode cX6_comesWord 165 = .ok (.iload 4, 2) := by decide +kernel
theorem dX6_comesWord_167 : decode cX6_comesWord 167 = .ok (.bipush 6, 2) := by decide +kernel
theorem dX6_comesWord_169 : decode cX6_comesWord 169 = .ok (.iadd, 1) := by decide +kernel
theorem dX6_comesWord_170 : decode cX6_comesWord 170 = .ok (.iaload, 1) := by decide +kernel
theorem dX6_comesWord_171 : decode cX6_comesWord 171 = .ok (.goto 12, 3) := by decide +kernel
theorem dX6_comesWord_174 : decode cX6_comesWord 174 = .ok (.aload_n 0, 1) := by decide +kernel
theorem dX6_comesWord_175 : decode cX6_comesWord 175 = .ok (.getfield 7, 3) := by decide +kernel
theorem dX6_comesWord_178 : decode cX6_comesWord 178 = .ok (.iload 4, 2) := by decide +kernel
theorem dX6_comesWord_180 : decode cX6_comesWord 180 = .ok (.iconst 2, 1) := by decide +kernel
theorem dX6_comesWord_181 : decode cX6_comesWord 181 = .ok (.iadd, 1) := by decide +kernel
theorem dX6_comesWord_182 : decode cX6_comesWord 182 = .ok (.iaload, 1) := by decide +kernel
theorem dX6_comesWord_183 : decode cX6_comesWord 183 = .ok (.iastore, 1) := by decide +kernel
theorem dX6_comesWord_184 : decode cX6_comesWord 184 = .ok (.iload_n 2, 1) := by decide +kernel
theorem dX6_comesWord_185 : decode cX6_comesWord 185 = .ok (.iconst 3, 1) := by decide +kernel
theorem dX6_comesWord_186 : decode cX6_comesWord 186 = .ok (.if_icmp .ne 20, 3) := by decide +kernel
theorem dX6_comesWord_189 : decode cX6_comesWord 189 = .ok (.aload_n 0, 1) := by decide +kernel
theorem dX6_comesWord_190 : decode cX6_comesWord 190 = .ok (.getfield 7, 3) := by decide +kernel
theorem dX6_comesWord_193 : decode cX6_comesWord 193 = .ok (.iload 4, 2) := by decide +kernel
theorem dX6_comesWord_195 : decode cX6_comesWord 195 = .ok (.iconst 2, 1) := by decide +kernel
theorem dX6_comesWord_196 : decode cX6_comesWord 196 = .ok (.iadd, 1) := by decide +kernel
theorem dX6_comesWord_197 : decode cX6_comesWord 197 = .ok (.iaload, 1) := by decide +kernel
theorem dX6_comesWord_198 : decode cX6_comesWord 198 = .ok (.ifCond .le 8, 3) := by decide +kernel
theorem dX6_comesWord_201 : decode cX6_comesWord 201 = .ok (.aload_n 0, 1) := by decide +kernel
theorem dX6_comesWord_202 : decode cX6_comesWord 202 = .ok (.iload_n 1, 1) := by decide +kernel
theorem dX6_comesWord_203 : decode cX6_comesWord 203 = .ok (.invokevirtual 107, 3) := by decide +kernel
theorem dX6_comesWord_206 : decode cX6_comesWord 206 = .ok (.return_, 1) := by decide +kernel
theorem dX6_dropped_0 : decode cX6_dropped 0 = .ok (.iload_n 1, 1) := by decide +kernel
theorem dX6_dropped_1 : decode cX6_dropped 1 = .ok (.invokestatic 20, 3) := by decide +kernel
theorem dX6_dropped_4 : decode cX6_dropped 4 = .ok (.istore_n 2, 1) := by decide +kernel
theorem dX6_dropped_5 : decode cX6_dropped 5 = .ok (.aload_n 0, 1) := by decide +kernel
theorem dX6_dropped_6 : decode cX6_dropped 6 = .ok (.getfield 7, 3) := by decide +kernel
theorem dX6_dropped_9 : decode cX6_dropped 9 = .ok (.iload_n 2, 1) := by decide +kernel
theorem dX6_dropped_10 : decode cX6_dropped 10 = .ok (.bipush 8, 2) := by decide +kernel
theorem dX6_dropped_12 : decode cX6_dropped 12 = .ok (.iadd, 1) := by decide +kernel
theorem dX6_dropped_13 : decode cX6_dropped 13 = .ok (.iaload, 1) := by decide +kernel
theorem dX6_dropped_14 : decode cX6_dropped 14 = .ok (.ifCond .ne 23, 3) := by decide +kernel
theorem dX6_dropped_17 : decode cX6_dropped 17 = .ok (.aload_n 0, 1) := by decide +kernel
theorem dX6_dropped_18 : decode cX6_dropped 18 = .ok (.getfield 7, 3) := by decide +kernel
theorem dX6_dropped_21 : decode cX6_dropped 21 = .ok (.iload_n 2, 1) := by decide +kernel
theorem dX6_dropped_22 : decode cX6_dropped 22 = .ok (.bipush 8, 2) := by decide +kernel
theorem dX6_dropped_24 : decode cX6_dropped 24 = .ok (.iadd, 1) := by decide +kernel
theorem dX6_dropped_25 : decode cX6_dropped 25 = .ok (.iconst 1, 1) := by decide +kernel
theorem dX6_dropped_26 : decode cX6_dropped 26 = .ok (.iastore, 1) := by decide +kernel
theorem dX6_dropped_27 : decode cX6_dropped 27 = .ok (.aload_n 0, 1) := by decide +kernel
theorem dX6_dropped_28 : decode cX6_dropped 28 = .ok (.getfield 7, 3) := by decide +kernel
theorem dX6_dropped_31 : decode cX6_dropped 31 = .ok (.iload_n 2, 1) := by decide +kernel
theorem dX6_dropped_32 : decode cX6_dropped 32 = .ok (.bipush 10, 2) := by decide +kernel
theorem dX6_dropped_34 : decode cX6_dropped 34 = .ok (.iadd, 1) := by decide +kernel
theorem dX6_dropped_35 : decode cX6_dropped 35 = .ok (.iconst 1, 1) := by decide +kernel
theorem dX6_dropped_36 : decode cX6_dropped 36 = .ok (.iastore, 1) := by decide +kernel
theorem dX6_dropped_37 : decode cX6_dropped 37 = .ok (.return_, 1) := by decide +kernel
theorem dX6_comesData_0 : decode cX6_comesData 0 = .ok (.iload_n 1, 1) := by decide +kernel
theorem dX6_comesData_1 : decode cX6_comesData 1 = .ok (.invokestatic 20, 3) := by decide +kernel
theorem dX6_comesData_4 : decode cX6_comesData 4 = .ok (.istore_n 3, 1) := by decide +kernel
theorem dX6_comesData_5 : decode cX6_comesData 5 = .ok (.aload_n 0, 1) := by decide +kernel
theorem dX6_comesData_6 : decode cX6_comesData 6 = .ok (.getfield 7, 3) := by decide +kernel
theorem dX6_comesData_9 : decode cX6_comesData 9 = .ok (.iload_n 2, 1) := by decide +kernel
theorem dX6_comesData_10 : decode cX6_comesData 10 = .ok (.iconst 2, 1) := by decide +kernel
theorem dX6_comesData_11 : decode cX6_comesData 11 = .ok (.iadd, 1) := by decide +kernel
theorem dX6_comesData_12 : decode cX6_comesData 12 = .ok (.iconst 2, 1) := by decide +kernel
theorem dX6_comesData_13 : decode cX6_comesData 13 = .ok (.iadd, 1) := by decide +kernel
theorem dX6_comesData_14 : decode cX6_comesData 14 = .ok (.iaload, 1) := by decide +kernel
theorem dX6_comesData_15 : decode cX6_comesData 15 = .ok (.aload_n 0, 1) := by decide +kernel
theorem dX6_comesData_16 : decode cX6_comesData 16 = .ok (.getfield 7, 3) := by decide +kernel
theorem dX6_comesData_19 : decode cX6_comesData 19 = .ok (.iload_n 3, 1) := by decide +kernel
theorem dX6_comesData_20 : decode cX6_comesData 20 = .ok (.bipush 7, 2) := by decide +kernel
theorem dX6_comesData_22 : decode cX6_comesData 22 = .ok (.iadd, 1) := by decide +kernel
theorem dX6_comesData_23 : decode cX6_comesData 23 = .ok (.iaload, 1) := by decide +kernel
theorem dX6_comesData_24 : decode cX6_comesData 24 = .ok (.isub, 1) := by decide +kernel
theorem dX6_comesData_25 : decode cX6_comesData 25 = .ok (.invokestatic 95, 3) := by decide +kernel
theorem dX6_comesData_28 : decode cX6_comesData 28 = .ok (.istore 4, 2) := by decide +kernel
theorem dX6_comesData_30 : decode cX6_comesData 30 = .ok (.iload 4, 2) := by decide +kernel
theorem dX6_comesData_32 : decode cX6_comesData 32 = .ok (.iconst 1, 1) := by decide +kernel
theorem dX6_comesData_33 : decode cX6_comesData 33 = .ok (.if_icmp .lt 27, 3) := by decide +kernel
theorem dX6_comesData_36 : decode cX6_comesData 36 = .ok (.iload 4, 2) := by decide +kernel
theorem dX6_comesData_38 : decode cX6_comesData 38 = .ok (.bipush 32, 2) := by decide +kernel
theorem dX6_comesData_40 : decode cX6_comesData 40 = .ok (.if_icmp .ge 20, 3) := by decide +kernel
theorem dX6_comesData_43 : decode cX6_comesData 43 = .ok (.aload_n 0, 1) := by decide +kernel
theorem dX6_comesData_44 : decode cX6_comesData 44 = .ok (.getfield 7, 3) := by decide +kernel
theorem dX6_comesData_47 : decode cX6_comesData 47 = .ok (.bipush 26, 2) := by decide +kernel
theorem dX6_comesData_49 : decode cX6_comesData 49 = .ok (.dup2, 1) := by decide +kernel
theorem dX6_comesData_50 : decode cX6_comesData 50 = .ok (.iaload, 1) := by decide +kernel
theorem dX6_comesData_51 : decode cX6_comesData 51 = .ok (.iconst 1, 1) := by decide +kernel
theorem dX6_comesData_52 : decode cX6_comesData 52 = .ok (.iadd, 1) := by decide +kernel
theorem dX6_comesData_53 : decode cX6_comesData 53 = .ok (.iastore, 1) := by decide +kernel
theorem dX6_comesData_54 : decode cX6_comesData 54 = .ok (.aload_n 0, 1) := by decide +kernel
theorem dX6_comesData_55 : decode cX6_comesData 55 = .ok (.iload_n 1, 1) := by decide +kernel
theorem dX6_comesData_56 : decode cX6_comesData 56 = .ok (.invokevirtual 110, 3) := by decide +kernel
theorem dX6_comesData_59 : decode cX6_comesData 59 = .ok (.return_, 1) := by decide +kernel
theorem dX6_comesData_60 : decode cX6_comesData 60 = .ok (.iload 4, 2) := by decide +kernel
theorem dX6_comesData_62 : decode cX6_comesData 62 = .ok (.ifCond .ne 56, 3) := by decide +kernel
theorem dX6_comesData_65 : decode cX6_comesData 65 = .ok (.aload_n 0, 1) := by decide +kernel
theorem dX6_comesData_66 : decode cX6_comesData 66 = .ok (.getfield 7, 3) := by decide +kernel
theorem dX6_comesData_69 : decode cX6_comesData 69 = .ok (.bipush 24, 2) := by decide +kernel
theorem dX6_comesData_71 : decode cX6_comesData 71 = .ok (.dup2, 1) := by decide +kernel
theorem dX6_comesData_72 : decode cX6_comesData 72 = .ok (.iaload, 1) := by decide +kernel
theorem dX6_comesData_73 : decode cX6_comesData 73 = .ok (.iconst 1, 1) := by decide +kernel
theorem dX6_comesData_74 : decode cX6_comesData 74 = .ok (.iadd, 1) := by decide +kernel
theorem dX6_comesData_75 : decode cX6_comesData 75 = .ok (.iastore, 1) := by decide +kernel
theorem dX6_comesData_76 : decode cX6_comesData 76 = .ok (.aload_n 0, 1) := by decide +kernel
theorem dX6_comesData_77 : decode cX6_comesData 77 = .ok (.iload_n 1, 1) := by decide +kernel
theorem dX6_comesData_78 : decode cX6_comesData 78 = .ok (.iload_n 2, 1) := by decide +kernel
theorem dX6_comesData_79 : decode cX6_comesData 79 = .ok (.invokevirtual 113, 3) := by decide +kernel
theorem dX6_comesData_82 : decode cX6_comesData 82 = .ok (.aload_n 0, 1) := by decide +kernel
theorem dX6_comesData_83 : decode cX6_comesData 83 = .ok (.getfield 7, 3) := by decide +kernel
theorem dX6_comesData_86 : decode cX6_comesData 86 = .ok (.iload_n 3, 1) := by decide +kernel
theorem dX6_comesData_87 : decode cX6_comesData 87 = .ok (.bipush 7, 2) := by decide +kernel
theorem dX6_comesData_89 : decode cX6_comesData 89 = .ok (.iadd, 1) := by decide +kernel
theorem dX6_comesData_90 : decode cX6_comesData 90 = .ok (.aload_n 0, 1) := by decide +kernel
theorem dX6_comesData_91 : decode cX6_comesData 91 = .ok (.getfield 7, 3) := by decide +kernel
theorem dX6_comesData_94 : decode cX6_comesData 94 = .ok (.iload_n 3, 1) := by decide +kernel
theorem dX6_comesData_95 : decode cX6_comesData 95 = .ok (.bipush 7, 2) := by decide +kernel
theorem dX6_comesData_97 : decode cX6_comesData 97 = .ok (.iadd, 1) := by decide +kernel
theorem dX6_comesData_98 : decode cX6_comesData 98 = .ok (.iaload, 1) := by decide +kernel
theorem dX6_comesData_99 : decode cX6_comesData 99 = .ok (.iconst 1, 1) := by decide +kernel
theorem dX6_comesData_100 : decode cX6_comesData 100 = .ok (.iadd, 1) := by decide +kernel
theorem dX6_comesData_101 : decode cX6_comesData 101 = .ok (.invokestatic 95, 3) := by decide +kernel
theorem dX6_comesData_104 : decode cX6_comesData 104 = .ok (.iastore, 1) := by decide +kernel
theorem dX6_comesData_105 : decode cX6_comesData 105 = .ok (.aload_n 0, 1) := by decide +kernel
theorem dX6_comesData_106 : decode cX6_comesData 106 = .ok (.getfield 7, 3) := by decide +kernel
theorem dX6_comesData_109 : decode cX6_comesData 109 = .ok (.iload_n 3, 1) := by decide +kernel
theorem dX6_comesData_110 : decode cX6_comesData 110 = .ok (.bipush 8, 2) := by decide +kernel
theorem dX6_comesData_112 : decode cX6_comesData 112 = .ok (.iadd, 1) := by decide +kernel
theorem dX6_comesData_113 : decode cX6_comesData 113 = .ok (.iconst 0, 1) := by decide +kernel
theorem dX6_comesData_114 : decode cX6_comesData 114 = .ok (.iastore, 1) := by decide +kernel
theorem dX6_comesData_115 : decode cX6_comesData 115 = .ok (.goto 14, 3) := by decide +kernel
theorem dX6_comesData_118 : decode cX6_comesData 118 = .ok (.aload_n 0, 1) := by decide +kernel
theorem dX6_comesData_119 : decode cX6_comesData 119 = .ok (.getfield 7, 3) := by decide +kernel
theorem dX6_comesData_122 : decode cX6_comesData 122 = .ok (.bipush 25, 2) := by decide +kernel
theorem dX6_comesData_124 : decode cX6_comesData 124 = .ok (.dup2, 1) := by decide +kernel
theorem dX6_comesData_125 : decode cX6_comesData 125 = .ok (.iaload, 1) := by decide +kernel
theorem dX6_comesData_126 : decode cX6_comesData 126 = .ok (.iconst 1, 1) := by decide +kernel
theorem dX6_comesData_127 : decode cX6_comesData 127 = .ok (.iadd, 1) := by decide +kernel
theorem dX6_comesData_128 : decode cX6_comesData 128 = .ok (.iastore, 1) := by decide +kernel
theorem dX6_comesData_129 : decode cX6_comesData 129 = .ok (.aload_n 0, 1) := by decide +kernel
theorem dX6_comesData_130 : decode cX6_comesData 130 = .ok (.getfield 7, 3) := by decide +kernel
theorem dX6_comesData_133 : decode cX6_comesData 133 = .ok (.iload_n 3, 1) := by decide +kernel
theorem dX6_comesData_134 : decode cX6_comesData 134 = .ok (.bipush 9, 2) := by decide +kernel
theorem dX6_comesData_136 : decode cX6_comesData 136 = .ok (.iadd, 1) := by decide +kernel
theorem dX6_comesData_137 : decode cX6_comesData 137 = .ok (.aload_n 0, 1) := by decide +kernel
theorem dX6_comesData_138 : decode cX6_comesData 138 = .ok (.getfield 7, 3) := by decide +kernel
theorem dX6_comesData_141 : decode cX6_comesData 141 = .ok (.iload_n 3, 1) := by decide +kernel
theorem dX6_comesData_142 : decode cX6_comesData 142 = .ok (.bipush 9, 2) := by decide +kernel
theorem dX6_comesData_144 : decode cX6_comesData 144 = .ok (.iadd, 1) := by decide +kernel
theorem dX6_comesData_145 : decode cX6_comesData 145 = .ok (.iaload, 1) := by decide +kernel
theorem dX6_comesData_146 : decode cX6_comesData 146 = .ok (.bipush (-4), 2) := by decide +kernel
theorem dX6_comesData_148 : decode cX6_comesData 148 = .ok (.if_icmp .ne 12, 3) := by decide +kernel
theorem dX6_comesData_151 : decode cX6_comesData 151 = .ok (.aload_n 0, 1) := by decide +kernel
theorem dX6_comesData_152 : decode cX6_comesData 152 = .ok (.getfield 7, 3) := by decide +kernel
theorem dX6_comesData_155 : decode cX6_comesData 155 = .ok (.iconst 2, 1) := by decide +kernel
theorem dX6_comesData_156 : decode cX6_comesData 156 = .ok (.iaload, 1) := by decide +kernel
theorem dX6_comesData_157 : decode cX6_comesData 157 = .ok (.goto 12, 3) := by decide +kernel
theorem dX6_comesData_160 : decode cX6_comesData 160 = .ok (.aload_n 0, 1) := by decide +kernel
theorem dX6_comesData_161 : decode cX6_comesData 161 = .ok (.getfield 7, 3) := by decide +kernel
theorem dX6_comesData_164 : decode cX6_comesData 164 = .ok (.iload_n 3, 1) := by decide +kernel
theorem dX6_comesData_165 : decode cX6_comesData 165 = .ok (.bipush 9, 2) := by decide +kernel
theorem dX6_comesData_167 : decode cX6_comesData 167 = .ok (.iadd, 1) := by decide +kernel
theorem dX6_comesData_168 : decode cX6_comesData 168 = .ok (.iaload, 1) := by decide +kernel
theorem dX6_comesData_169 : decode cX6_comesData 169 = .ok (.iastore, 1) := by decide +kernel
theorem dX6_comesData_170 : decode cX6_comesData 170 = .ok (.return_, 1) := by decide +kernel
theorem dX6_handsUp_0 : decode cX6_handsUp 0 = .ok (.iload_n 1, 1) := by decide +kernel
theorem dX6_handsUp_1 : decode cX6_handsUp 1 = .ok (.invokestatic 20, 3) := by decide +kernel
theorem dX6_handsUp_4 : decode cX6_handsUp 4 = .ok (.istore_n 3, 1) := by decide +kernel
theorem dX6_handsUp_5 : decode cX6_handsUp 5 = .ok (.aload_n 0, 1) := by decide +kernel
theorem dX6_handsUp_6 : decode cX6_handsUp 6 = .ok (.getfield 7, 3) := by decide +kernel
theorem dX6_handsUp_9 : decode cX6_handsUp 9 = .ok (.iload_n 3, 1) := by decide +kernel
theorem dX6_handsUp_10 : decode cX6_handsUp 10 = .ok (.bipush 11, 2) := by decide +kernel
theorem dX6_handsUp_12 : decode cX6_handsUp 12 = .ok (.iadd, 1) := by decide +kernel
theorem dX6_handsUp_13 : decode cX6_handsUp 13 = .ok (.iaload, 1) := by decide +kernel
theorem dX6_handsUp_14 : decode cX6_handsUp 14 = .ok (.bipush 60, 2) := by decide +kernel
theorem dX6_handsUp_16 : decode cX6_handsUp 16 = .ok (.if_icmp .ge 80, 3) := by decide +kernel
theorem dX6_handsUp_19 : decode cX6_handsUp 19 = .ok (.iload_n 1, 1) := by decide +kernel
theorem dX6_handsUp_20 : decode cX6_handsUp 20 = .ok (.aload_n 0, 1) := by decide +kernel
theorem dX6_handsUp_21 : decode cX6_handsUp 21 = .ok (.getfield 7, 3) := by decide +kernel
theorem dX6_handsUp_24 : decode cX6_handsUp 24 = .ok (.iload_n 3, 1) := by decide +kernel
theorem dX6_handsUp_25 : decode cX6_handsUp 25 = .ok (.bipush 11, 2) := by decide +kernel
theorem dX6_handsUp_27 : decode cX6_handsUp 27 = .ok (.iadd, 1) := by decide +kernel
theorem dX6_handsUp_28 : decode cX6_handsUp 28 = .ok (.iaload, 1) := by decide +kernel
theorem dX6_handsUp_29 : decode cX6_handsUp 29 = .ok (.invokestatic 116, 3) := by decide +kernel
theorem dX6_handsUp_32 : decode cX6_handsUp 32 = .ok (.istore 4, 2) := by decide +kernel
theorem dX6_handsUp_34 : decode cX6_handsUp 34 = .ok (.aload_n 0, 1) := by decide +kernel
theorem dX6_handsUp_35 : decode cX6_handsUp 35 = .ok (.getfield 7, 3) := by decide +kernel
theorem dX6_handsUp_38 : decode cX6_handsUp 38 = .ok (.iload 4, 2) := by decide +kernel
theorem dX6_handsUp_40 : decode cX6_handsUp 40 = .ok (.aload_n 0, 1) := by decide +kernel
theorem dX6_handsUp_41 : decode cX6_handsUp 41 = .ok (.getfield 7, 3) := by decide +kernel
theorem dX6_handsUp_44 : decode cX6_handsUp 44 = .ok (.iload_n 2, 1) := by decide +kernel
theorem dX6_handsUp_45 : decode cX6_handsUp 45 = .ok (.iaload, 1) := by decide +kernel
theorem dX6_handsUp_46 : decode cX6_handsUp 46 = .ok (.bipush 8, 2) := by decide +kernel
theorem dX6_handsUp_48 : decode cX6_handsUp 48 = .ok (.isub, 1) := by decide +kernel
theorem dX6_handsUp_49 : decode cX6_handsUp 49 = .ok (.iastore, 1) := by decide +kernel
theorem dX6_handsUp_50 : decode cX6_handsUp 50 = .ok (.iconst 0, 1) := by decide +kernel
theorem dX6_handsUp_51 : decode cX6_handsUp 51 = .ok (.istore 5, 2) := by decide +kernel
theorem dX6_handsUp_53 : decode cX6_handsUp 53 = .ok (.iload 5, 2) := by decide +kernel
theorem dX6_handsUp_55 : decode cX6_handsUp 55 = .ok (.aload_n 0, 1) := by decide +kernel
theorem dX6_handsUp_56 : decode cX6_handsUp 56 = .ok (.getfield 7, 3) := by decide +kernel
theorem dX6_handsUp_59 : decode cX6_handsUp 59 = .ok (.iload 4, 2) := by decide +kernel
theorem dX6_handsUp_61 : decode cX6_handsUp 61 = .ok (.iaload, 1) := by decide +kernel
theorem dX6_handsUp_62 : decode cX6_handsUp 62 = .ok (.if_icmp .ge 34, 3) := by decide +kernel
theorem dX6_handsUp_65 : decode cX6_handsUp 65 = .ok (.aload_n 0, 1) := by decide +kernel
theorem dX6_handsUp_66 : decode cX6_handsUp 66 = .ok (.getfield 7, 3) := by decide +kernel
theorem dX6_handsUp_69 : decode cX6_handsUp 69 = .ok (.iload 4, 2) := by decide +kernel
theorem dX6_handsUp_71 : decode cX6_handsUp 71 = .ok (.iconst 1, 1) := by decide +kernel
theorem dX6_handsUp_72 : decode cX6_handsUp 72 = .ok (.iadd, 1) := by decide +kernel
theorem dX6_handsUp_73 : decode cX6_handsUp 73 = .ok (.iload 5, 2) := by decide +kernel
theorem dX6_handsUp_75 : decode cX6_handsUp 75 = .ok (.iadd, 1) := by decide +kernel
theorem dX6_handsUp_76 : decode cX6_handsUp 76 = .ok (.aload_n 0, 1) := by decide +kernel
theorem dX6_handsUp_77 : decode cX6_handsUp 77 = .ok (.getfield 7, 3) := by decide +kernel
theorem dX6_handsUp_80 : decode cX6_handsUp 80 = .ok (.iload_n 2, 1) := by decide +kernel
theorem dX6_handsUp_81 : decode cX6_handsUp 81 = .ok (.iconst 2, 1) := by decide +kernel
theorem dX6_handsUp_82 : decode cX6_handsUp 82 = .ok (.iadd, 1) := by decide +kernel
theorem dX6_handsUp_83 : decode cX6_handsUp 83 = .ok (.iconst 3, 1) := by decide +kernel
theorem dX6_handsUp_84 : decode cX6_handsUp 84 = .ok (.iadd, 1) := by decide +kernel
theorem dX6_handsUp_85 : decode cX6_handsUp 85 = .ok (.iload 5, 2) := by decide +kernel
theorem dX6_handsUp_87 : decode cX6_handsUp 87 = .ok (.iadd, 1) := by decide +kernel
theorem dX6_handsUp_88 : decode cX6_handsUp 88 = .ok (.iaload, 1) := by decide +kernel
theorem dX6_handsUp_89 : decode cX6_handsUp 89 = .ok (.iastore, 1) := by decide +kernel
theorem dX6_handsUp_90 : decode cX6_handsUp 90 = .ok (.iinc 5 1, 3) := by decide +kernel
theorem dX6_handsUp_93 : decode cX6_handsUp 93 = .ok (.goto (-40), 3) := by decide +kernel
theorem dX6_handsUp_96 : decode cX6_handsUp 96 = .ok (.aload_n 0, 1) := by decide +kernel
theorem dX6_handsUp_97 : decode cX6_handsUp 97 = .ok (.getfield 7, 3) := by decide +kernel
theorem dX6_handsUp_100 : decode cX6_handsUp 100 = .ok (.iload_n 3, 1) := by decide +kernel
theorem dX6_handsUp_101 : decode cX6_handsUp 101 = .ok (.bipush 11, 2) := by decide +kernel
theorem dX6_handsUp_103 : decode cX6_handsUp 103 = .ok (.iadd, 1) := by decide +kernel
theorem dX6_handsUp_104 : decode cX6_handsUp 104 = .ok (.dup2, 1) := by decide +kernel
theorem dX6_handsUp_105 : decode cX6_handsUp 105 = .ok (.iaload, 1) := by decide +kernel
theorem dX6_handsUp_106 : decode cX6_handsUp 106 = .ok (.iconst 1, 1) := by decide +kernel
theorem dX6_handsUp_107 : decode cX6_handsUp 107 = .ok (.iadd, 1) := by decide +kernel
theorem dX6_handsUp_108 : decode cX6_handsUp 108 = .ok (.iastore, 1) := by decide +kernel
theorem dX6_handsUp_109 : decode cX6_handsUp 109 = .ok (.return_, 1) := by decide +kernel
theorem dX6_comes_0 : decode cX6_comes 0 = .ok (.iload_n 1, 1) := by decide +kernel
theorem dX6_comes_1 : decode cX6_comes 1 = .ok (.iload_n 2, 1) := by decide +kernel
theorem dX6_comes_2 : decode cX6_comes 2 = .ok (.invokestatic 81, 3) := by decide +kernel
theorem dX6_comes_5 : decode cX6_comes 5 = .ok (.istore_n 3, 1) := by decide +kernel
theorem dX6_comes_6 : decode cX6_comes 6 = .ok (.iconst 0, 1) := by decide +kernel
theorem dX6_comes_7 : decode cX6_comes 7 = .ok (.istore 4, 2) := by decide +kernel
theorem dX6_comes_9 : decode cX6_comes 9 = .ok (.iload 4, 2) := by decide +kernel
theorem dX6_comes_11 : decode cX6_comes 11 = .ok (.bipush 36, 2) := by decide +kernel
theorem dX6_comes_13 : decode cX6_comes 13 = .ok (.if_icmp .ge 29, 3) := by decide +kernel
theorem dX6_comes_16 : decode cX6_comes 16 = .ok (.aload_n 0, 1) := by decide +kernel
theorem dX6_comes_17 : decode cX6_comes 17 = .ok (.getfield 7, 3) := by decide +kernel
theorem dX6_comes_20 : decode cX6_comes 20 = .ok (.sipush 7900, 3) := by decide +kernel
theorem dX6_comes_23 : decode cX6_comes 23 = .ok (.iload 4, 2) := by decide +kernel
theorem dX6_comes_25 : decode cX6_comes 25 = .ok (.iadd, 1) := by decide +kernel
theorem dX6_comes_26 : decode cX6_comes 26 = .ok (.aload_n 0, 1) := by decide +kernel
theorem dX6_comes_27 : decode cX6_comes 27 = .ok (.getfield 7, 3) := by decide +kernel
theorem dX6_comes_30 : decode cX6_comes 30 = .ok (.iload_n 3, 1) := by decide +kernel
theorem dX6_comes_31 : decode cX6_comes 31 = .ok (.iload 4, 2) := by decide +kernel
theorem dX6_comes_33 : decode cX6_comes 33 = .ok (.iadd, 1) := by decide +kernel
theorem dX6_comes_34 : decode cX6_comes 34 = .ok (.iaload, 1) := by decide +kernel
theorem dX6_comes_35 : decode cX6_comes 35 = .ok (.iastore, 1) := by decide +kernel
theorem dX6_comes_36 : decode cX6_comes 36 = .ok (.iinc 4 1, 3) := by decide +kernel
theorem dX6_comes_39 : decode cX6_comes 39 = .ok (.goto (-30), 3) := by decide +kernel
theorem dX6_comes_42 : decode cX6_comes 42 = .ok (.aload_n 0, 1) := by decide +kernel
theorem dX6_comes_43 : decode cX6_comes 43 = .ok (.iload_n 1, 1) := by decide +kernel
theorem dX6_comes_44 : decode cX6_comes 44 = .ok (.iload_n 2, 1) := by decide +kernel
theorem dX6_comes_45 : decode cX6_comes 45 = .ok (.invokevirtual 84, 3) := by decide +kernel
theorem dX6_comes_48 : decode cX6_comes 48 = .ok (.iconst 1, 1) := by decide +kernel
theorem dX6_comes_49 : decode cX6_comes 49 = .ok (.iload_n 1, 1) := by decide +kernel
theorem dX6_comes_50 : decode cX6_comes 50 = .ok (.isub, 1) := by decide +kernel
theorem dX6_comes_51 : decode cX6_comes 51 = .ok (.istore 4, 2) := by decide +kernel
theorem dX6_comes_53 : decode cX6_comes 53 = .ok (.aload_n 0, 1) := by decide +kernel
theorem dX6_comes_54 : decode cX6_comes 54 = .ok (.sipush 7900, 3) := by decide +kernel
theorem dX6_comes_57 : decode cX6_comes 57 = .ok (.invokevirtual 119, 3) := by decide +kernel
theorem dX6_comes_60 : decode cX6_comes 60 = .ok (.istore 5, 2) := by decide +kernel
theorem dX6_comes_62 : decode cX6_comes 62 = .ok (.iload 5, 2) := by decide +kernel
theorem dX6_comes_64 : decode cX6_comes 64 = .ok (.ifCond .ne 15, 3) := by decide +kernel
theorem dX6_comes_67 : decode cX6_comes 67 = .ok (.aload_n 0, 1) := by decide +kernel
theorem dX6_comes_68 : decode cX6_comes 68 = .ok (.iload 4, 2) := by decide +kernel
theorem dX6_comes_70 : decode cX6_comes 70 = .ok (.sipush 7900, 3) := by decide +kernel
theorem dX6_comes_73 : decode cX6_comes 73 = .ok (.invokevirtual 122, 3) := by decide +kernel
theorem dX6_comes_76 : decode cX6_comes 76 = .ok (.goto 85, 3) := by decide +kernel
theorem dX6_comes_79 : decode cX6_comes 79 = .ok (.iload 5, 2) := by decide +kernel
theorem dX6_comes_81 : decode cX6_comes 81 = .ok (.iconst 1, 1) := by decide +kernel
theorem dX6_comes_82 : decode cX6_comes 82 = .ok (.if_icmp .ne 17, 3) := by decide +kernel
theorem dX6_comes_85 : decode cX6_comes 85 = .ok (.aload_n 0, 1) := by decide +kernel
theorem dX6_comes_86 : decode cX6_comes 86 = .ok (.getfield 7, 3) := by decide +kernel
theorem dX6_comes_89 : decode cX6_comes 89 = .ok (.bipush 27, 2) := by decide +kernel
theorem dX6_comes_91 : decode cX6_comes 91 = .ok (.dup2, 1) := by decide +kernel
theorem dX6_comes_92 : decode cX6_comes 92 = .ok (.iaload, 1) := by decide +kernel
theorem dX6_comes_93 : decode cX6_comes 93 = .ok (.iconst 1, 1) := by decide +kernel
theorem dX6_comes_94 : decode cX6_comes 94 = .ok (.iadd, 1) := by decide +kernel
theorem dX6_comes_95 : decode cX6_comes 95 = .ok (.iastore, 1) := by decide +kernel
theorem dX6_comes_96 : decode cX6_comes 96 = .ok (.goto 65, 3) := by decide +kernel
theorem dX6_comes_99 : decode cX6_comes 99 = .ok (.iload 5, 2) := by decide +kernel
theorem dX6_comes_101 : decode cX6_comes 101 = .ok (.iconst 4, 1) := by decide +kernel
theorem dX6_comes_102 : decode cX6_comes 102 = .ok (.if_icmp .ge 22, 3) := by decide +kernel
theorem dX6_comes_105 : decode cX6_comes 105 = .ok (.aload_n 0, 1) := by decide +kernel
theorem dX6_comes_106 : decode cX6_comes 106 = .ok (.iload 4, 2) := by decide +kernel
theorem dX6_comes_108 : decode cX6_comes 108 = .ok (.iload 5, 2) := by decide +kernel
theorem dX6_comes_110 : decode cX6_comes 110 = .ok (.aload_n 0, 1) := by decide +kernel
theorem dX6_comes_111 : decode cX6_comes 111 = .ok (.getfield 7, 3) := by decide +kernel
theorem dX6_comes_114 : decode cX6_comes 114 = .ok (.sipush 7904, 3) := by decide +kernel
theorem dX6_comes_117 : decode cX6_comes 117 = .ok (.iaload, 1) := by decide +kernel
theorem dX6_comes_118 : decode cX6_comes 118 = .ok (.invokevirtual 125, 3) := by decide +kernel
theorem dX6_comes_121 : decode cX6_comes 121 = .ok (.goto 40, 3) := by decide +kernel
theorem dX6_comes_124 : decode cX6_comes 124 = .ok (.iload 5, 2) := by decide +kernel
theorem dX6_comes_126 : decode cX6_comes 126 = .ok (.iconst 4, 1) := by decide +kernel
theorem dX6_comes_127 : decode cX6_comes 127 = .ok (.if_icmp .ne 23, 3) := by decide +kernel
theorem dX6_comes_130 : decode cX6_comes 130 = .ok (.aload_n 0, 1) := by decide +kernel
theorem dX6_comes_131 : decode cX6_comes 131 = .ok (.getfield 7, 3) := by decide +kernel
theorem dX6_comes_134 : decode cX6_comes 134 = .ok (.bipush 30, 2) := by decide +kernel
theorem dX6_comes_136 : decode cX6_comes 136 = .ok (.dup2, 1) := by decide +kernel
theorem dX6_comes_137 : decode cX6_comes 137 = .ok (.iaload, 1) := by decide +kernel
theorem dX6_comes_138 : decode cX6_comes 138 = .ok (.iconst 1, 1) := by decide +kernel
theorem dX6_comes_139 : decode cX6_comes 139 = .ok (.iadd, 1) := by decide +kernel
theorem dX6_comes_140 : decode cX6_comes 140 = .ok (.iastore, 1) := by decide +kernel
theorem dX6_comes_141 : decode cX6_comes 141 = .ok (.aload_n 0, 1) := by decide +kernel
theorem dX6_comes_142 : decode cX6_comes 142 = .ok (.iload 4, 2) := by decide +kernel
theorem dX6_comes_144 : decode cX6_comes 144 = .ok (.invokevirtual 110, 3) := by decide +kernel
theorem dX6_comes_147 : decode cX6_comes 147 = .ok (.goto 14, 3) := by decide +kernel
theorem dX6_comes_150 : decode cX6_comes 150 = .ok (.aload_n 0, 1) := by decide +kernel
theorem dX6_comes_151 : decode cX6_comes 151 = .ok (.getfield 7, 3) := by decide +kernel
theorem dX6_comes_154 : decode cX6_comes 154 = .ok (.bipush 31, 2) := by decide +kernel
theorem dX6_comes_156 : decode cX6_comes 156 = .ok (.dup2, 1) := by decide +kernel
theorem dX6_comes_157 : decode cX6_comes 157 = .ok (.iaload, 1) := by decide +kernel
theorem dX6_comes_158 : decode cX6_comes 158 = .ok (.iconst 1, 1) := by decide +kernel
theorem dX6_comes_159 : decode cX6_comes 159 = .ok (.iadd, 1) := by decide +kernel
theorem dX6_comes_160 : decode cX6_comes 160 = .ok (.iastore, 1) := by decide +kernel
theorem dX6_comes_161 : decode cX6_comes 161 = .ok (.return_, 1) := by decide +kernel
theorem dX6_coming_0 : decode cX6_coming 0 = .ok (.iconst 0, 1) := by decide +kernel
theorem dX6_coming_1 : decode cX6_coming 1 = .ok (.istore_n 1, 1) := by decide +kernel
theorem dX6_coming_2 : decode cX6_coming 2 = .ok (.iconst 0, 1) := by decide +kernel
theorem dX6_coming_3 : decode cX6_coming 3 = .ok (.istore_n 2, 1) := by decide +kernel
theorem dX6_coming_4 : decode cX6_coming 4 = .ok (.iload_n 2, 1) := by decide +kernel
theorem dX6_coming_5 : decode cX6_coming 5 = .ok (.iconst 2, 1) := by decide +kernel
theorem dX6_coming_6 : decode cX6_coming 6 = .ok (.if_icmp .ge 59, 3) := by decide +kernel
theorem dX6_coming_9 : decode cX6_coming 9 = .ok (.iconst 0, 1) := by decide +kernel
theorem dX6_coming_10 : decode cX6_coming 10 = .ok (.istore_n 3, 1) := by decide +kernel
theorem dX6_coming_11 : decode cX6_coming 11 = .ok (.iload_n 3, 1) := by decide +kernel
theorem dX6_coming_12 : decode cX6_coming 12 = .ok (.aload_n 0, 1) := by decide +kernel
theorem dX6_coming_13 : decode cX6_coming 13 = .ok (.iload_n 2, 1) := by decide +kernel
theorem dX6_coming_14 : decode cX6_coming 14 = .ok (.invokevirtual 78, 3) := by decide +kernel
theorem dX6_coming_17 : decode cX6_coming 17 = .ok (.if_icmp .ge 42, 3) := by decide +kernel
theorem dX6_coming_20 : decode cX6_coming 20 = .ok (.aload_n 0, 1) := by decide +kernel
theorem dX6_coming_21 : decode cX6_coming 21 = .ok (.getfield 7, 3) := by decide +kernel
theorem dX6_coming_24 : decode cX6_coming 24 = .ok (.iload_n 2, 1) := by decide +kernel
theorem dX6_coming_25 : decode cX6_coming 25 = .ok (.iload_n 3, 1) := by decide +kernel
theorem dX6_coming_26 : decode cX6_coming 26 = .ok (.invokestatic 81, 3) := by decide +kernel
theorem dX6_coming_29 : decode cX6_coming 29 = .ok (.iconst 1, 1) := by decide +kernel
theorem dX6_coming_30 : decode cX6_coming 30 = .ok (.iadd, 1) := by decide +kernel
theorem dX6_coming_31 : decode cX6_coming 31 = .ok (.iaload, 1) := by decide +kernel
theorem dX6_coming_32 : decode cX6_coming 32 = .ok (.aload_n 0, 1) := by decide +kernel
theorem dX6_coming_33 : decode cX6_coming 33 = .ok (.getfield 7, 3) := by decide +kernel
theorem dX6_coming_36 : decode cX6_coming 36 = .ok (.iconst 3, 1) := by decide +kernel
theorem dX6_coming_37 : decode cX6_coming 37 = .ok (.iaload, 1) := by decide +kernel
theorem dX6_coming_38 : decode cX6_coming 38 = .ok (.if_icmp .gt 15, 3) := by decide +kernel
theorem dX6_coming_41 : decode cX6_coming 41 = .ok (.aload_n 0, 1) := by decide +kernel
theorem dX6_coming_42 : decode cX6_coming 42 = .ok (.iload_n 2, 1) := by decide +kernel
theorem dX6_coming_43 : decode cX6_coming 43 = .ok (.iload_n 3, 1) := by decide +kernel
theorem dX6_coming_44 : decode cX6_coming 44 = .ok (.invokevirtual 129, 3) := by decide +kernel
theorem dX6_coming_47 : decode cX6_coming 47 = .ok (.iinc 1 1, 3) := by decide +kernel
theorem dX6_coming_50 : decode cX6_coming 50 = .ok (.goto (-39), 3) := by decide +kernel
theorem dX6_coming_53 : decode cX6_coming 53 = .ok (.iinc 3 1, 3) := by decide +kernel
theorem dX6_coming_56 : decode cX6_coming 56 = .ok (.goto (-45), 3) := by decide +kernel
theorem dX6_coming_59 : decode cX6_coming 59 = .ok (.iinc 2 1, 3) := by decide +kernel
theorem dX6_coming_62 : decode cX6_coming 62 = .ok (.goto (-58), 3) := by decide +kernel
theorem dX6_coming_65 : decode cX6_coming 65 = .ok (.iload_n 1, 1) := by decide +kernel
theorem dX6_coming_66 : decode cX6_coming 66 = .ok (.ireturn, 1) := by decide +kernel
theorem dX6_timers_0 : decode cX6_timers 0 = .ok (.iload_n 1, 1) := by decide +kernel
theorem dX6_timers_1 : decode cX6_timers 1 = .ok (.invokestatic 20, 3) := by decide +kernel
theorem dX6_timers_4 : decode cX6_timers 4 = .ok (.istore_n 2, 1) := by decide +kernel
theorem dX6_timers_5 : decode cX6_timers 5 = .ok (.aload_n 0, 1) := by decide +kernel
theorem dX6_timers_6 : decode cX6_timers 6 = .ok (.getfield 7, 3) := by decide +kernel
theorem dX6_timers_9 : decode cX6_timers 9 = .ok (.iload_n 2, 1) := by decide +kernel
theorem dX6_timers_10 : decode cX6_timers 10 = .ok (.bipush 9, 2) := by decide +kernel
theorem dX6_timers_12 : decode cX6_timers 12 = .ok (.iadd, 1) := by decide +kernel
theorem dX6_timers_13 : decode cX6_timers 13 = .ok (.aload_n 0, 1) := by decide +kernel
theorem dX6_timers_14 : decode cX6_timers 14 = .ok (.getfield 7, 3) := by decide +kernel
theorem dX6_timers_17 : decode cX6_timers 17 = .ok (.iload_n 2, 1) := by decide +kernel
theorem dX6_timers_18 : decode cX6_timers 18 = .ok (.bipush 9, 2) := by decide +kernel
theorem dX6_timers_20 : decode cX6_timers 20 = .ok (.iadd, 1) := by decide +kernel
theorem dX6_timers_21 : decode cX6_timers 21 = .ok (.iaload, 1) := by decide +kernel
theorem dX6_timers_22 : decode cX6_timers 22 = .ok (.ifCond .le 17, 3) := by decide +kernel
theorem dX6_timers_25 : decode cX6_timers 25 = .ok (.aload_n 0, 1) := by decide +kernel
theorem dX6_timers_26 : decode cX6_timers 26 = .ok (.getfield 7, 3) := by decide +kernel
theorem dX6_timers_29 : decode cX6_timers 29 = .ok (.iload_n 2, 1) := by decide +kernel
theorem dX6_timers_30 : decode cX6_timers 30 = .ok (.bipush 9, 2) := by decide +kernel
theorem dX6_timers_32 : decode cX6_timers 32 = .ok (.iadd, 1) := by decide +kernel
theorem dX6_timers_33 : decode cX6_timers 33 = .ok (.iaload, 1) := by decide +kernel
theorem dX6_timers_34 : decode cX6_timers 34 = .ok (.iconst 1, 1) := by decide +kernel
theorem dX6_timers_35 : decode cX6_timers 35 = .ok (.isub, 1) := by decide +kernel
theorem dX6_timers_36 : decode cX6_timers 36 = .ok (.goto 12, 3) := by decide +kernel
theorem dX6_timers_39 : decode cX6_timers 39 = .ok (.aload_n 0, 1) := by decide +kernel
theorem dX6_timers_40 : decode cX6_timers 40 = .ok (.getfield 7, 3) := by decide +kernel
theorem dX6_timers_43 : decode cX6_timers 43 = .ok (.iload_n 2, 1) := by decide +kernel
theorem dX6_timers_44 : decode cX6_timers 44 = .ok (.bipush 9, 2) := by decide +kernel
theorem dX6_timers_46 : decode cX6_timers 46 = .ok (.iadd, 1) := by decide +kernel
theorem dX6_timers_47 : decode cX6_timers 47 = .ok (.iaload, 1) := by decide +kernel
theorem dX6_timers_48 : decode cX6_timers 48 = .ok (.iastore, 1) := by decide +kernel
theorem dX6_timers_49 : decode cX6_timers 49 = .ok (.aload_n 0, 1) := by decide +kernel
theorem dX6_timers_50 : decode cX6_timers 50 = .ok (.getfield 7, 3) := by decide +kernel
theorem dX6_timers_53 : decode cX6_timers 53 = .ok (.iload_n 2, 1) := by decide +kernel
theorem dX6_timers_54 : decode cX6_timers 54 = .ok (.iconst 2, 1) := by decide +kernel
theorem dX6_timers_55 : decode cX6_timers 55 = .ok (.iadd, 1) := by decide +kernel
theorem dX6_timers_56 : decode cX6_timers 56 = .ok (.iaload, 1) := by decide +kernel
theorem dX6_timers_57 : decode cX6_timers 57 = .ok (.ifCond .le 49, 3) := by decide +kernel
theorem dX6_timers_60 : decode cX6_timers 60 = .ok (.aload_n 0, 1) := by decide +kernel
theorem dX6_timers_61 : decode cX6_timers 61 = .ok (.getfield 7, 3) := by decide +kernel
theorem dX6_timers_64 : decode cX6_timers 64 = .ok (.iload_n 2, 1) := by decide +kernel
theorem dX6_timers_65 : decode cX6_timers 65 = .ok (.bipush 6, 2) := by decide +kernel
theorem dX6_timers_67 : decode cX6_timers 67 = .ok (.iadd, 1) := by decide +kernel
theorem dX6_timers_68 : decode cX6_timers 68 = .ok (.iaload, 1) := by decide +kernel
theorem dX6_timers_69 : decode cX6_timers 69 = .ok (.ifCond .ne 37, 3) := by decide +kernel
theorem dX6_timers_72 : decode cX6_timers 72 = .ok (.aload_n 0, 1) := by decide +kernel
theorem dX6_timers_73 : decode cX6_timers 73 = .ok (.getfield 7, 3) := by decide +kernel
theorem dX6_timers_76 : decode cX6_timers 76 = .ok (.iload_n 2, 1) := by decide +kernel
theorem dX6_timers_77 : decode cX6_timers 77 = .ok (.iconst 4, 1) := by decide +kernel
theorem dX6_timers_78 : decode cX6_timers 78 = .ok (.iadd, 1) := by decide +kernel
theorem dX6_timers_79 : decode cX6_timers 79 = .ok (.dup2, 1) := by decide +kernel
theorem dX6_timers_80 : decode cX6_timers 80 = .ok (.iaload, 1) := by decide +kernel
theorem dX6_timers_81 : decode cX6_timers 81 = .ok (.iconst 1, 1) := by decide +kernel
theorem dX6_timers_82 : decode cX6_timers 82 = .ok (.iadd, 1) := by decide +kernel
theorem dX6_timers_83 : decode cX6_timers 83 = .ok (.iastore, 1) := by decide +kernel
theorem dX6_timers_84 : decode cX6_timers 84 = .ok (.aload_n 0, 1) := by decide +kernel
theorem dX6_timers_85 : decode cX6_timers 85 = .ok (.getfield 7, 3) := by decide +kernel
theorem dX6_timers_88 : decode cX6_timers 88 = .ok (.iload_n 2, 1) := by decide +kernel
theorem dX6_timers_89 : decode cX6_timers 89 = .ok (.iconst 4, 1) := by decide +kernel
theorem dX6_timers_90 : decode cX6_timers 90 = .ok (.iadd, 1) := by decide +kernel
theorem dX6_timers_91 : decode cX6_timers 91 = .ok (.iaload, 1) := by decide +kernel
theorem dX6_timers_92 : decode cX6_timers 92 = .ok (.aload_n 0, 1) := by decide +kernel
theorem dX6_timers_93 : decode cX6_timers 93 = .ok (.getfield 7, 3) := by decide +kernel
theorem dX6_timers_96 : decode cX6_timers 96 = .ok (.iconst 1, 1) := by decide +kernel
theorem dX6_timers_97 : decode cX6_timers 97 = .ok (.iaload, 1) := by decide +kernel
theorem dX6_timers_98 : decode cX6_timers 98 = .ok (.if_icmp .lt 8, 3) := by decide +kernel
theorem dX6_timers_101 : decode cX6_timers 101 = .ok (.aload_n 0, 1) := by decide +kernel
theorem dX6_timers_102 : decode cX6_timers 102 = .ok (.iload_n 1, 1) := by decide +kernel
theorem dX6_timers_103 : decode cX6_timers 103 = .ok (.invokevirtual 107, 3) := by decide +kernel
theorem dX6_timers_106 : decode cX6_timers 106 = .ok (.return_, 1) := by decide +kernel
theorem dX6_laying_0 : decode cX6_laying 0 = .ok (.iload_n 1, 1) := by decide +kernel
theorem dX6_laying_1 : decode cX6_laying 1 = .ok (.invokestatic 20, 3) := by decide +kernel
theorem dX6_laying_4 : decode cX6_laying 4 = .ok (.istore_n 2, 1) := by decide +kernel
theorem dX6_laying_5 : decode cX6_laying 5 = .ok (.aload_n 0, 1) := by decide +kernel
theorem dX6_laying_6 : decode cX6_laying 6 = .ok (.getfield 7, 3) := by decide +kernel
theorem dX6_laying_9 : decode cX6_laying 9 = .ok (.iload_n 2, 1) := by decide +kernel
theorem dX6_laying_10 : decode cX6_laying 10 = .ok (.bipush 10, 2) := by decide +kernel
theorem dX6_laying_12 : decode cX6_laying 12 = .ok (.iadd, 1) := by decide +kernel
theorem dX6_laying_13 : decode cX6_laying 13 = .ok (.iaload, 1) := by decide +kernel
theorem dX6_laying_14 : decode cX6_laying 14 = .ok (.iconst 1, 1) := by decide +kernel
theorem dX6_laying_15 : decode cX6_laying 15 = .ok (.if_icmp .ne 45, 3) := by decide +kernel
theorem dX6_laying_18 : decode cX6_laying 18 = .ok (.aload_n 0, 1) := by decide +kernel
theorem dX6_laying_19 : decode cX6_laying 19 = .ok (.getfield 7, 3) := by decide +kernel
theorem dX6_laying_22 : decode cX6_laying 22 = .ok (.iload_n 2, 1) := by decide +kernel
theorem dX6_laying_23 : decode cX6_laying 23 = .ok (.bipush 10, 2) := by decide +kernel
theorem dX6_laying_25 : decode cX6_laying 25 = .ok (.iadd, 1) := by decide +kernel
theorem dX6_laying_26 : decode cX6_laying 26 = .ok (.iconst 0, 1) := by decide +kernel
theorem dX6_laying_27 : decode cX6_laying 27 = .ok (.iastore, 1) := by decide +kernel
theorem dX6_laying_28 : decode cX6_laying 28 = .ok (.aload_n 0, 1) := by decide +kernel
theorem dX6_laying_29 : decode cX6_laying 29 = .ok (.getfield 7, 3) := by decide +kernel
theorem dX6_laying_32 : decode cX6_laying 32 = .ok (.iload_n 2, 1) := by decide +kernel
theorem dX6_laying_33 : decode cX6_laying 33 = .ok (.bipush 9, 2) := by decide +kernel
theorem dX6_laying_35 : decode cX6_laying 35 = .ok (.iadd, 1) := by decide +kernel
theorem dX6_laying_36 : decode cX6_laying 36 = .ok (.bipush (-4), 2) := by decide +kernel
theorem dX6_laying_38 : decode cX6_laying 38 = .ok (.iastore, 1) := by decide +kernel
theorem dX6_laying_39 : decode cX6_laying 39 = .ok (.aload_n 0, 1) := by decide +kernel
theorem dX6_laying_40 : decode cX6_laying 40 = .ok (.iload_n 1, 1) := by decide +kernel
theorem dX6_laying_41 : decode cX6_laying 41 = .ok (.bipush 16, 2) := by decide +kernel
theorem dX6_laying_43 : decode cX6_laying 43 = .ok (.invokevirtual 132, 3) := by decide +kernel
theorem dX6_laying_46 : decode cX6_laying 46 = .ok (.aload_n 0, 1) := by decide +kernel
theorem dX6_laying_47 : decode cX6_laying 47 = .ok (.getfield 7, 3) := by decide +kernel
theorem dX6_laying_50 : decode cX6_laying 50 = .ok (.bipush 11, 2) := by decide +kernel
theorem dX6_laying_52 : decode cX6_laying 52 = .ok (.dup2, 1) := by decide +kernel
theorem dX6_laying_53 : decode cX6_laying 53 = .ok (.iaload, 1) := by decide +kernel
theorem dX6_laying_54 : decode cX6_laying 54 = .ok (.iconst 1, 1) := by decide +kernel
theorem dX6_laying_55 : decode cX6_laying 55 = .ok (.iadd, 1) := by decide +kernel
theorem dX6_laying_56 : decode cX6_laying 56 = .ok (.iastore, 1) := by decide +kernel
theorem dX6_laying_57 : decode cX6_laying 57 = .ok (.goto 222, 3) := by decide +kernel
theorem dX6_laying_60 : decode cX6_laying 60 = .ok (.aload_n 0, 1) := by decide +kernel
theorem dX6_laying_61 : decode cX6_laying 61 = .ok (.getfield 7, 3) := by decide +kernel
theorem dX6_laying_64 : decode cX6_laying 64 = .ok (.iload_n 2, 1) := by decide +kernel
theorem dX6_laying_65 : decode cX6_laying 65 = .ok (.bipush 9, 2) := by decide +kernel
theorem dX6_laying_67 : decode cX6_laying 67 = .ok (.iadd, 1) := by decide +kernel
theorem dX6_laying_68 : decode cX6_laying 68 = .ok (.iaload, 1) := by decide +kernel
theorem dX6_laying_69 : decode cX6_laying 69 = .ok (.ifCond .ne 34, 3) := by decide +kernel
theorem dX6_laying_72 : decode cX6_laying 72 = .ok (.aload_n 0, 1) := by decide +kernel
theorem dX6_laying_73 : decode cX6_laying 73 = .ok (.getfield 7, 3) := by decide +kernel
theorem dX6_laying_76 : decode cX6_laying 76 = .ok (.iload_n 2, 1) := by decide +kernel
theorem dX6_laying_77 : decode cX6_laying 77 = .ok (.bipush 9, 2) := by decide +kernel
theorem dX6_laying_79 : decode cX6_laying 79 = .ok (.iadd, 1) := by decide +kernel
theorem dX6_laying_80 : decode cX6_laying 80 = .ok (.bipush (-4), 2) := by decide +kernel
theorem dX6_laying_82 : decode cX6_laying 82 = .ok (.iastore, 1) := by decide +kernel
theorem dX6_laying_83 : decode cX6_laying 83 = .ok (.aload_n 0, 1) := by decide +kernel
theorem dX6_laying_84 : decode cX6_laying 84 = .ok (.iload_n 1, 1) := by decide +kernel
theorem dX6_laying_85 : decode cX6_laying 85 = .ok (.iconst 0, 1) := by decide +kernel
theorem dX6_laying_86 : decode cX6_laying 86 = .ok (.invokevirtual 132, 3) := by decide +kernel
theorem dX6_laying_89 : decode cX6_laying 89 = .ok (.aload_n 0, 1) := by decide +kernel
theorem dX6_laying_90 : decode cX6_laying 90 = .ok (.getfield 7, 3) := by decide +kernel
theorem dX6_laying_93 : decode cX6_laying 93 = .ok (.bipush 10, 2) := by decide +kernel
theorem dX6_laying_95 : decode cX6_laying 95 = .ok (.dup2, 1) := by decide +kernel
theorem dX6_laying_96 : decode cX6_laying 96 = .ok (.iaload, 1) := by decide +kernel
theorem dX6_laying_97 : decode cX6_laying 97 = .ok (.iconst 1, 1) := by decide +kernel
theorem dX6_laying_98 : decode cX6_laying 98 = .ok (.iadd, 1) := by decide +kernel
theorem dX6_laying_99 : decode cX6_laying 99 = .ok (.iastore, 1) := by decide +kernel
theorem dX6_laying_100 : decode cX6_laying 100 = .ok (.goto 179, 3) := by decide +kernel
theorem dX6_laying_103 : decode cX6_laying 103 = .ok (.aload_n 0, 1) := by decide +kernel
theorem dX6_laying_104 : decode cX6_laying 104 = .ok (.getfield 7, 3) := by decide +kernel
theorem dX6_laying_107 : decode cX6_laying 107 = .ok (.iload_n 2, 1) := by decide +kernel
theorem dX6_laying_108 : decode cX6_laying 108 = .ok (.bipush 6, 2) := by decide +kernel
theorem dX6_laying_110 : decode cX6_laying 110 = .ok (.iadd, 1) := by decide +kernel
theorem dX6_laying_111 : decode cX6_laying 111 = .ok (.iaload, 1) := by decide +kernel
theorem dX6_laying_112 : decode cX6_laying 112 = .ok (.ifCond .le 54, 3) := by decide +kernel
theorem dX6_laying_115 : decode cX6_laying 115 = .ok (.aload_n 0, 1) := by decide +kernel
theorem dX6_laying_116 : decode cX6_laying 116 = .ok (.iload_n 1, 1) := by decide +kernel
theorem dX6_laying_117 : decode cX6_laying 117 = .ok (.aload_n 0, 1) := by decide +kernel
theorem dX6_laying_118 : decode cX6_laying 118 = .ok (.getfield 7, 3) := by decide +kernel
theorem dX6_laying_121 : decode cX6_laying 121 = .ok (.iload_n 2, 1) := by decide +kernel
theorem dX6_laying_122 : decode cX6_laying 122 = .ok (.iconst 1, 1) := by decide +kernel
theorem dX6_laying_123 : decode cX6_laying 123 = .ok (.iadd, 1) := by decide +kernel
theorem dX6_laying_124 : decode cX6_laying 124 = .ok (.iaload, 1) := by decide +kernel
theorem dX6_laying_125 : decode cX6_laying 125 = .ok (.aload_n 0, 1) := by decide +kernel
theorem dX6_laying_126 : decode cX6_laying 126 = .ok (.getfield 7, 3) := by decide +kernel
theorem dX6_laying_129 : decode cX6_laying 129 = .ok (.iload_n 2, 1) := by decide +kernel
theorem dX6_laying_130 : decode cX6_laying 130 = .ok (.bipush 6, 2) := by decide +kernel
theorem dX6_laying_132 : decode cX6_laying 132 = .ok (.iadd, 1) := by decide +kernel
theorem dX6_laying_133 : decode cX6_laying 133 = .ok (.iaload, 1) := by decide +kernel
theorem dX6_laying_134 : decode cX6_laying 134 = .ok (.isub, 1) := by decide +kernel
theorem dX6_laying_135 : decode cX6_laying 135 = .ok (.iconst 0, 1) := by decide +kernel
theorem dX6_laying_136 : decode cX6_laying 136 = .ok (.invokevirtual 135, 3) := by decide +kernel
theorem dX6_laying_139 : decode cX6_laying 139 = .ok (.aload_n 0, 1) := by decide +kernel
theorem dX6_laying_140 : decode cX6_laying 140 = .ok (.getfield 7, 3) := by decide +kernel
theorem dX6_laying_143 : decode cX6_laying 143 = .ok (.iload_n 2, 1) := by decide +kernel
theorem dX6_laying_144 : decode cX6_laying 144 = .ok (.bipush 6, 2) := by decide +kernel
theorem dX6_laying_146 : decode cX6_laying 146 = .ok (.iadd, 1) := by decide +kernel
theorem dX6_laying_147 : decode cX6_laying 147 = .ok (.dup2, 1) := by decide +kernel
theorem dX6_laying_148 : decode cX6_laying 148 = .ok (.iaload, 1) := by decide +kernel
theorem dX6_laying_149 : decode cX6_laying 149 = .ok (.iconst 1, 1) := by decide +kernel
theorem dX6_laying_150 : decode cX6_laying 150 = .ok (.isub, 1) := by decide +kernel
theorem dX6_laying_151 : decode cX6_laying 151 = .ok (.iastore, 1) := by decide +kernel
theorem dX6_laying_152 : decode cX6_laying 152 = .ok (.aload_n 0, 1) := by decide +kernel
theorem dX6_laying_153 : decode cX6_laying 153 = .ok (.getfield 7, 3) := by decide +kernel
theorem dX6_laying_156 : decode cX6_laying 156 = .ok (.bipush 8, 2) := by decide +kernel
theorem dX6_laying_158 : decode cX6_laying 158 = .ok (.dup2, 1) := by decide +kernel
theorem dX6_laying_159 : decode cX6_laying 159 = .ok (.iaload, 1) := by decide +kernel
theorem dX6_laying_160 : decode cX6_laying 160 = .ok (.iconst 1, 1) := by decide +kernel
theorem dX6_laying_161 : decode cX6_laying 161 = .ok (.iadd, 1) := by decide +kernel
theorem dX6_laying_162 : decode cX6_laying 162 = .ok (.iastore, 1) := by decide +kernel
theorem dX6_laying_163 : decode cX6_laying 163 = .ok (.goto 116, 3) := by decide +kernel
theorem dX6_laying_166 : decode cX6_laying 166 = .ok (.aload_n 0, 1) := by decide +kernel
theorem dX6_laying_167 : decode cX6_laying 167 = .ok (.getfield 7, 3) := by decide +kernel
theorem dX6_laying_170 : decode cX6_laying 170 = .ok (.iload_n 2, 1) := by decide +kernel
theorem dX6_laying_171 : decode cX6_laying 171 = .ok (.iconst 2, 1) := by decide +kernel
theorem dX6_laying_172 : decode cX6_laying 172 = .ok (.iadd, 1) := by decide +kernel
end
section
theorem dX6_laying_173 : decode cX6_laying 173 = .ok (.iaload, 1) := by decide +kernel
theorem dX6_laying_174 : decode cX6_laying 174 = .ok (.bipush 8, 2) := by decide +kernel
theorem dX6_laying_176 : decode cX6_laying 176 = .ok (.if_icmp .ge 103, 3) := by decide +kernel
theorem dX6_laying_179 : decode cX6_laying 179 = .ok (.aload_n 0, 1) := by decide +kernel
theorem dX6_laying_180 : decode cX6_laying 180 = .ok (.iload_n 1, 1) := by decide +kernel
theorem dX6_laying_181 : decode cX6_laying 181 = .ok (.invokevirtual 51, 3) := by decide +kernel
theorem dX6_laying_184 : decode cX6_laying 184 = .ok (.ifCond .le 95, 3) := by decide +kernel
theorem dX6_laying_187 : decode cX6_laying 187 = .ok (.aload_n 0, 1) := by decide +kernel
theorem dX6_laying_188 : decode cX6_laying 188 = .ok (.getfield 7, 3) := by decide +kernel
theorem dX6_laying_191 : decode cX6_laying 191 = .ok (.iload_n 2, 1) := by decide +kernel
theorem dX6_laying_192 : decode cX6_laying 192 = .ok (.bipush 12, 2) := by decide +kernel
theorem dX6_laying_194 : decode cX6_laying 194 = .ok (.iadd, 1) := by decide +kernel
theorem dX6_laying_195 : decode cX6_laying 195 = .ok (.iaload, 1) := by decide +kernel
theorem dX6_laying_196 : decode cX6_laying 196 = .ok (.iconst 1, 1) := by decide +kernel
theorem dX6_laying_197 : decode cX6_laying 197 = .ok (.if_icmp .ne 7, 3) := by decide +kernel
theorem dX6_laying_200 : decode cX6_laying 200 = .ok (.iconst 1, 1) := by decide +kernel
theorem dX6_laying_201 : decode cX6_laying 201 = .ok (.goto 4, 3) := by decide +kernel
theorem dX6_laying_204 : decode cX6_laying 204 = .ok (.iconst 0, 1) := by decide +kernel
theorem dX6_laying_205 : decode cX6_laying 205 = .ok (.istore_n 3, 1) := by decide +kernel
theorem dX6_laying_206 : decode cX6_laying 206 = .ok (.aload_n 0, 1) := by decide +kernel
theorem dX6_laying_207 : decode cX6_laying 207 = .ok (.iload_n 1, 1) := by decide +kernel
theorem dX6_laying_208 : decode cX6_laying 208 = .ok (.aload_n 0, 1) := by decide +kernel
theorem dX6_laying_209 : decode cX6_laying 209 = .ok (.getfield 7, 3) := by decide +kernel
theorem dX6_laying_212 : decode cX6_laying 212 = .ok (.iload_n 2, 1) := by decide +kernel
theorem dX6_laying_213 : decode cX6_laying 213 = .ok (.iconst 1, 1) := by decide +kernel
theorem dX6_laying_214 : decode cX6_laying 214 = .ok (.iadd, 1) := by decide +kernel
theorem dX6_laying_215 : decode cX6_laying 215 = .ok (.iaload, 1) := by decide +kernel
theorem dX6_laying_216 : decode cX6_laying 216 = .ok (.iload_n 3, 1) := by decide +kernel
theorem dX6_laying_217 : decode cX6_laying 217 = .ok (.invokevirtual 135, 3) := by decide +kernel
theorem dX6_laying_220 : decode cX6_laying 220 = .ok (.aload_n 0, 1) := by decide +kernel
theorem dX6_laying_221 : decode cX6_laying 221 = .ok (.getfield 7, 3) := by decide +kernel
theorem dX6_laying_224 : decode cX6_laying 224 = .ok (.iload_n 2, 1) := by decide +kernel
theorem dX6_laying_225 : decode cX6_laying 225 = .ok (.bipush 12, 2) := by decide +kernel
theorem dX6_laying_227 : decode cX6_laying 227 = .ok (.iadd, 1) := by decide +kernel
theorem dX6_laying_228 : decode cX6_laying 228 = .ok (.iconst 0, 1) := by decide +kernel
theorem dX6_laying_229 : decode cX6_laying 229 = .ok (.iastore, 1) := by decide +kernel
theorem dX6_laying_230 : decode cX6_laying 230 = .ok (.aload_n 0, 1) := by decide +kernel
theorem dX6_laying_231 : decode cX6_laying 231 = .ok (.getfield 7, 3) := by decide +kernel
theorem dX6_laying_234 : decode cX6_laying 234 = .ok (.bipush 7, 2) := by decide +kernel
theorem dX6_laying_236 : decode cX6_laying 236 = .ok (.iload_n 3, 1) := by decide +kernel
theorem dX6_laying_237 : decode cX6_laying 237 = .ok (.ifCond .eq 7, 3) := by decide +kernel
theorem dX6_laying_240 : decode cX6_laying 240 = .ok (.iconst 2, 1) := by decide +kernel
theorem dX6_laying_241 : decode cX6_laying 241 = .ok (.goto 4, 3) := by decide +kernel
theorem dX6_laying_244 : decode cX6_laying 244 = .ok (.iconst 0, 1) := by decide +kernel
theorem dX6_laying_245 : decode cX6_laying 245 = .ok (.iadd, 1) := by decide +kernel
theorem dX6_laying_246 : decode cX6_laying 246 = .ok (.dup2, 1) := by decide +kernel
theorem dX6_laying_247 : decode cX6_laying 247 = .ok (.iaload, 1) := by decide +kernel
theorem dX6_laying_248 : decode cX6_laying 248 = .ok (.iconst 1, 1) := by decide +kernel
theorem dX6_laying_249 : decode cX6_laying 249 = .ok (.iadd, 1) := by decide +kernel
theorem dX6_laying_250 : decode cX6_laying 250 = .ok (.iastore, 1) := by decide +kernel
theorem dX6_laying_251 : decode cX6_laying 251 = .ok (.iload_n 3, 1) := by decide +kernel
theorem dX6_laying_252 : decode cX6_laying 252 = .ok (.ifCond .ne 27, 3) := by decide +kernel
theorem dX6_laying_255 : decode cX6_laying 255 = .ok (.aload_n 0, 1) := by decide +kernel
theorem dX6_laying_256 : decode cX6_laying 256 = .ok (.getfield 7, 3) := by decide +kernel
theorem dX6_laying_259 : decode cX6_laying 259 = .ok (.iload_n 2, 1) := by decide +kernel
theorem dX6_laying_260 : decode cX6_laying 260 = .ok (.iconst 1, 1) := by decide +kernel
theorem dX6_laying_261 : decode cX6_laying 261 = .ok (.iadd, 1) := by decide +kernel
theorem dX6_laying_262 : decode cX6_laying 262 = .ok (.dup2, 1) := by decide +kernel
theorem dX6_laying_263 : decode cX6_laying 263 = .ok (.iaload, 1) := by decide +kernel
theorem dX6_laying_264 : decode cX6_laying 264 = .ok (.iconst 1, 1) := by decide +kernel
theorem dX6_laying_265 : decode cX6_laying 265 = .ok (.iadd, 1) := by decide +kernel
theorem dX6_laying_266 : decode cX6_laying 266 = .ok (.iastore, 1) := by decide +kernel
theorem dX6_laying_267 : decode cX6_laying 267 = .ok (.aload_n 0, 1) := by decide +kernel
theorem dX6_laying_268 : decode cX6_laying 268 = .ok (.getfield 7, 3) := by decide +kernel
theorem dX6_laying_271 : decode cX6_laying 271 = .ok (.iload_n 2, 1) := by decide +kernel
theorem dX6_laying_272 : decode cX6_laying 272 = .ok (.iconst 2, 1) := by decide +kernel
theorem dX6_laying_273 : decode cX6_laying 273 = .ok (.iadd, 1) := by decide +kernel
theorem dX6_laying_274 : decode cX6_laying 274 = .ok (.dup2, 1) := by decide +kernel
theorem dX6_laying_275 : decode cX6_laying 275 = .ok (.iaload, 1) := by decide +kernel
theorem dX6_laying_276 : decode cX6_laying 276 = .ok (.iconst 1, 1) := by decide +kernel
theorem dX6_laying_277 : decode cX6_laying 277 = .ok (.iadd, 1) := by decide +kernel
theorem dX6_laying_278 : decode cX6_laying 278 = .ok (.iastore, 1) := by decide +kernel
theorem dX6_laying_279 : decode cX6_laying 279 = .ok (.return_, 1) := by decide +kernel
theorem dX6_ticks_0 : decode cX6_ticks 0 = .ok (.aload_n 0, 1) := by decide +kernel
theorem dX6_ticks_1 : decode cX6_ticks 1 = .ok (.getfield 7, 3) := by decide +kernel
theorem dX6_ticks_4 : decode cX6_ticks 4 = .ok (.iconst 3, 1) := by decide +kernel
theorem dX6_ticks_5 : decode cX6_ticks 5 = .ok (.dup2, 1) := by decide +kernel
theorem dX6_ticks_6 : decode cX6_ticks 6 = .ok (.iaload, 1) := by decide +kernel
theorem dX6_ticks_7 : decode cX6_ticks 7 = .ok (.iconst 1, 1) := by decide +kernel
theorem dX6_ticks_8 : decode cX6_ticks 8 = .ok (.iadd, 1) := by decide +kernel
theorem dX6_ticks_9 : decode cX6_ticks 9 = .ok (.iastore, 1) := by decide +kernel
theorem dX6_ticks_10 : decode cX6_ticks 10 = .ok (.aload_n 0, 1) := by decide +kernel
theorem dX6_ticks_11 : decode cX6_ticks 11 = .ok (.aload_n 0, 1) := by decide +kernel
theorem dX6_ticks_12 : decode cX6_ticks 12 = .ok (.getfield 7, 3) := by decide +kernel
theorem dX6_ticks_15 : decode cX6_ticks 15 = .ok (.iconst 4, 1) := by decide +kernel
theorem dX6_ticks_16 : decode cX6_ticks 16 = .ok (.iaload, 1) := by decide +kernel
theorem dX6_ticks_17 : decode cX6_ticks 17 = .ok (.ifCond .le 7, 3) := by decide +kernel
theorem dX6_ticks_20 : decode cX6_ticks 20 = .ok (.iconst 1, 1) := by decide +kernel
theorem dX6_ticks_21 : decode cX6_ticks 21 = .ok (.goto 4, 3) := by decide +kernel
theorem dX6_ticks_24 : decode cX6_ticks 24 = .ok (.iconst 0, 1) := by decide +kernel
theorem dX6_ticks_25 : decode cX6_ticks 25 = .ok (.putfield 139, 3) := by decide +kernel
theorem dX6_ticks_28 : decode cX6_ticks 28 = .ok (.aload_n 0, 1) := by decide +kernel
theorem dX6_ticks_29 : decode cX6_ticks 29 = .ok (.getfield 7, 3) := by decide +kernel
theorem dX6_ticks_32 : decode cX6_ticks 32 = .ok (.iconst 4, 1) := by decide +kernel
theorem dX6_ticks_33 : decode cX6_ticks 33 = .ok (.dup2, 1) := by decide +kernel
theorem dX6_ticks_34 : decode cX6_ticks 34 = .ok (.iaload, 1) := by decide +kernel
theorem dX6_ticks_35 : decode cX6_ticks 35 = .ok (.aload_n 0, 1) := by decide +kernel
theorem dX6_ticks_36 : decode cX6_ticks 36 = .ok (.getfield 139, 3) := by decide +kernel
theorem dX6_ticks_39 : decode cX6_ticks 39 = .ok (.ifCond .eq 7, 3) := by decide +kernel
theorem dX6_ticks_42 : decode cX6_ticks 42 = .ok (.iconst 1, 1) := by decide +kernel
theorem dX6_ticks_43 : decode cX6_ticks 43 = .ok (.goto 4, 3) := by decide +kernel
theorem dX6_ticks_46 : decode cX6_ticks 46 = .ok (.iconst 0, 1) := by decide +kernel
theorem dX6_ticks_47 : decode cX6_ticks 47 = .ok (.isub, 1) := by decide +kernel
theorem dX6_ticks_48 : decode cX6_ticks 48 = .ok (.iastore, 1) := by decide +kernel
theorem dX6_ticks_49 : decode cX6_ticks 49 = .ok (.aload_n 0, 1) := by decide +kernel
theorem dX6_ticks_50 : decode cX6_ticks 50 = .ok (.invokevirtual 143, 3) := by decide +kernel
theorem dX6_ticks_53 : decode cX6_ticks 53 = .ok (.istore_n 1, 1) := by decide +kernel
theorem dX6_ticks_54 : decode cX6_ticks 54 = .ok (.aload_n 0, 1) := by decide +kernel
theorem dX6_ticks_55 : decode cX6_ticks 55 = .ok (.getfield 139, 3) := by decide +kernel
theorem dX6_ticks_58 : decode cX6_ticks 58 = .ok (.ifCond .ne 13, 3) := by decide +kernel
theorem dX6_ticks_61 : decode cX6_ticks 61 = .ok (.aload_n 0, 1) := by decide +kernel
theorem dX6_ticks_62 : decode cX6_ticks 62 = .ok (.iconst 0, 1) := by decide +kernel
theorem dX6_ticks_63 : decode cX6_ticks 63 = .ok (.invokevirtual 147, 3) := by decide +kernel
theorem dX6_ticks_66 : decode cX6_ticks 66 = .ok (.aload_n 0, 1) := by decide +kernel
theorem dX6_ticks_67 : decode cX6_ticks 67 = .ok (.iconst 1, 1) := by decide +kernel
theorem dX6_ticks_68 : decode cX6_ticks 68 = .ok (.invokevirtual 147, 3) := by decide +kernel
theorem dX6_ticks_71 : decode cX6_ticks 71 = .ok (.iconst 0, 1) := by decide +kernel
theorem dX6_ticks_72 : decode cX6_ticks 72 = .ok (.istore_n 2, 1) := by decide +kernel
theorem dX6_ticks_73 : decode cX6_ticks 73 = .ok (.iload_n 2, 1) := by decide +kernel
theorem dX6_ticks_74 : decode cX6_ticks 74 = .ok (.iconst 2, 1) := by decide +kernel
theorem dX6_ticks_75 : decode cX6_ticks 75 = .ok (.if_icmp .ge 30, 3) := by decide +kernel
theorem dX6_ticks_78 : decode cX6_ticks 78 = .ok (.aload_n 0, 1) := by decide +kernel
theorem dX6_ticks_79 : decode cX6_ticks 79 = .ok (.getfield 139, 3) := by decide +kernel
theorem dX6_ticks_82 : decode cX6_ticks 82 = .ok (.ifCond .ne 17, 3) := by decide +kernel
theorem dX6_ticks_85 : decode cX6_ticks 85 = .ok (.aload_n 0, 1) := by decide +kernel
theorem dX6_ticks_86 : decode cX6_ticks 86 = .ok (.getfield 7, 3) := by decide +kernel
theorem dX6_ticks_89 : decode cX6_ticks 89 = .ok (.iconst 4, 1) := by decide +kernel
theorem dX6_ticks_90 : decode cX6_ticks 90 = .ok (.iaload, 1) := by decide +kernel
theorem dX6_ticks_91 : decode cX6_ticks 91 = .ok (.ifCond .ne 8, 3) := by decide +kernel
theorem dX6_ticks_94 : decode cX6_ticks 94 = .ok (.aload_n 0, 1) := by decide +kernel
theorem dX6_ticks_95 : decode cX6_ticks 95 = .ok (.iload_n 2, 1) := by decide +kernel
theorem dX6_ticks_96 : decode cX6_ticks 96 = .ok (.invokevirtual 150, 3) := by decide +kernel
theorem dX6_ticks_99 : decode cX6_ticks 99 = .ok (.iinc 2 1, 3) := by decide +kernel
theorem dX6_ticks_102 : decode cX6_ticks 102 = .ok (.goto (-29), 3) := by decide +kernel
theorem dX6_ticks_105 : decode cX6_ticks 105 = .ok (.iload_n 1, 1) := by decide +kernel
theorem dX6_ticks_106 : decode cX6_ticks 106 = .ok (.ireturn, 1) := by decide +kernel
theorem dX6_tick_0 : decode cX6_tick 0 = .ok (.iload_n 1, 1) := by decide +kernel
theorem dX6_tick_1 : decode cX6_tick 1 = .ok (.i2l, 1) := by decide +kernel
theorem dX6_tick_2 : decode cX6_tick 2 = .ok (.lconst 1, 1) := by decide +kernel
theorem dX6_tick_3 : decode cX6_tick 3 = .ok (.ldc2_w 153, 3) := by decide +kernel
theorem dX6_tick_6 : decode cX6_tick 6 = .ok (.invokestatic 45, 3) := by decide +kernel
theorem dX6_tick_9 : decode cX6_tick 9 = .ok (.ifCond .ne 5, 3) := by decide +kernel
theorem dX6_tick_12 : decode cX6_tick 12 = .ok (.iconst (-1), 1) := by decide +kernel
theorem dX6_tick_13 : decode cX6_tick 13 = .ok (.ireturn, 1) := by decide +kernel
theorem dX6_tick_14 : decode cX6_tick 14 = .ok (.aload_n 0, 1) := by decide +kernel
theorem dX6_tick_15 : decode cX6_tick 15 = .ok (.getfield 7, 3) := by decide +kernel
theorem dX6_tick_18 : decode cX6_tick 18 = .ok (.iconst 3, 1) := by decide +kernel
theorem dX6_tick_19 : decode cX6_tick 19 = .ok (.iaload, 1) := by decide +kernel
theorem dX6_tick_20 : decode cX6_tick 20 = .ok (.iload_n 1, 1) := by decide +kernel
theorem dX6_tick_21 : decode cX6_tick 21 = .ok (.iadd, 1) := by decide +kernel
theorem dX6_tick_22 : decode cX6_tick 22 = .ok (.sipush 20000, 3) := by decide +kernel
theorem dX6_tick_25 : decode cX6_tick 25 = .ok (.if_icmp .le 6, 3) := by decide +kernel
theorem dX6_tick_28 : decode cX6_tick 28 = .ok (.bipush (-3), 2) := by decide +kernel
theorem dX6_tick_30 : decode cX6_tick 30 = .ok (.ireturn, 1) := by decide +kernel
theorem dX6_tick_31 : decode cX6_tick 31 = .ok (.iconst 0, 1) := by decide +kernel
theorem dX6_tick_32 : decode cX6_tick 32 = .ok (.istore_n 2, 1) := by decide +kernel
theorem dX6_tick_33 : decode cX6_tick 33 = .ok (.iconst 0, 1) := by decide +kernel
theorem dX6_tick_34 : decode cX6_tick 34 = .ok (.istore_n 3, 1) := by decide +kernel
theorem dX6_tick_35 : decode cX6_tick 35 = .ok (.iload_n 3, 1) := by decide +kernel
theorem dX6_tick_36 : decode cX6_tick 36 = .ok (.iload_n 1, 1) := by decide +kernel
theorem dX6_tick_37 : decode cX6_tick 37 = .ok (.if_icmp .ge 16, 3) := by decide +kernel
theorem dX6_tick_40 : decode cX6_tick 40 = .ok (.iload_n 2, 1) := by decide +kernel
theorem dX6_tick_41 : decode cX6_tick 41 = .ok (.aload_n 0, 1) := by decide +kernel
theorem dX6_tick_42 : decode cX6_tick 42 = .ok (.invokevirtual 155, 3) := by decide +kernel
theorem dX6_tick_45 : decode cX6_tick 45 = .ok (.iadd, 1) := by decide +kernel
theorem dX6_tick_46 : decode cX6_tick 46 = .ok (.istore_n 2, 1) := by decide +kernel
theorem dX6_tick_47 : decode cX6_tick 47 = .ok (.iinc 3 1, 3) := by decide +kernel
theorem dX6_tick_50 : decode cX6_tick 50 = .ok (.goto (-15), 3) := by decide +kernel
theorem dX6_tick_53 : decode cX6_tick 53 = .ok (.iload_n 2, 1) := by decide +kernel
theorem dX6_tick_54 : decode cX6_tick 54 = .ok (.ireturn, 1) := by decide +kernel
theorem dX6_isQuiet_0 : decode cX6_isQuiet 0 = .ok (.aload_n 0, 1) := by decide +kernel
theorem dX6_isQuiet_1 : decode cX6_isQuiet 1 = .ok (.iconst 0, 1) := by decide +kernel
theorem dX6_isQuiet_2 : decode cX6_isQuiet 2 = .ok (.invokevirtual 78, 3) := by decide +kernel
theorem dX6_isQuiet_5 : decode cX6_isQuiet 5 = .ok (.ifCond .ne 24, 3) := by decide +kernel
theorem dX6_isQuiet_8 : decode cX6_isQuiet 8 = .ok (.aload_n 0, 1) := by decide +kernel
theorem dX6_isQuiet_9 : decode cX6_isQuiet 9 = .ok (.iconst 1, 1) := by decide +kernel
theorem dX6_isQuiet_10 : decode cX6_isQuiet 10 = .ok (.invokevirtual 78, 3) := by decide +kernel
theorem dX6_isQuiet_13 : decode cX6_isQuiet 13 = .ok (.ifCond .ne 16, 3) := by decide +kernel
theorem dX6_isQuiet_16 : decode cX6_isQuiet 16 = .ok (.aload_n 0, 1) := by decide +kernel
theorem dX6_isQuiet_17 : decode cX6_isQuiet 17 = .ok (.getfield 7, 3) := by decide +kernel
theorem dX6_isQuiet_20 : decode cX6_isQuiet 20 = .ok (.iconst 4, 1) := by decide +kernel
theorem dX6_isQuiet_21 : decode cX6_isQuiet 21 = .ok (.iaload, 1) := by decide +kernel
theorem dX6_isQuiet_22 : decode cX6_isQuiet 22 = .ok (.ifCond .ne 7, 3) := by decide +kernel
theorem dX6_isQuiet_25 : decode cX6_isQuiet 25 = .ok (.iconst 1, 1) := by decide +kernel
theorem dX6_isQuiet_26 : decode cX6_isQuiet 26 = .ok (.goto 4, 3) := by decide +kernel
theorem dX6_isQuiet_29 : decode cX6_isQuiet 29 = .ok (.iconst 0, 1) := by decide +kernel
theorem dX6_isQuiet_30 : decode cX6_isQuiet 30 = .ok (.istore_n 1, 1) := by decide +kernel
theorem dX6_isQuiet_31 : decode cX6_isQuiet 31 = .ok (.iconst 0, 1) := by decide +kernel
theorem dX6_isQuiet_32 : decode cX6_isQuiet 32 = .ok (.istore_n 2, 1) := by decide +kernel
theorem dX6_isQuiet_33 : decode cX6_isQuiet 33 = .ok (.iload_n 2, 1) := by decide +kernel
theorem dX6_isQuiet_34 : decode cX6_isQuiet 34 = .ok (.iconst 2, 1) := by decide +kernel
theorem dX6_isQuiet_35 : decode cX6_isQuiet 35 = .ok (.if_icmp .ge 73, 3) := by decide +kernel
theorem dX6_isQuiet_38 : decode cX6_isQuiet 38 = .ok (.iload_n 1, 1) := by decide +kernel
theorem dX6_isQuiet_39 : decode cX6_isQuiet 39 = .ok (.ifCond .eq 61, 3) := by decide +kernel
theorem dX6_isQuiet_42 : decode cX6_isQuiet 42 = .ok (.aload_n 0, 1) := by decide +kernel
theorem dX6_isQuiet_43 : decode cX6_isQuiet 43 = .ok (.iload_n 2, 1) := by decide +kernel
theorem dX6_isQuiet_44 : decode cX6_isQuiet 44 = .ok (.invokevirtual 51, 3) := by decide +kernel
theorem dX6_isQuiet_47 : decode cX6_isQuiet 47 = .ok (.ifCond .ne 53, 3) := by decide +kernel
theorem dX6_isQuiet_50 : decode cX6_isQuiet 50 = .ok (.aload_n 0, 1) := by decide +kernel
theorem dX6_isQuiet_51 : decode cX6_isQuiet 51 = .ok (.getfield 7, 3) := by decide +kernel
theorem dX6_isQuiet_54 : decode cX6_isQuiet 54 = .ok (.iload_n 2, 1) := by decide +kernel
theorem dX6_isQuiet_55 : decode cX6_isQuiet 55 = .ok (.invokestatic 20, 3) := by decide +kernel
theorem dX6_isQuiet_58 : decode cX6_isQuiet 58 = .ok (.iconst 2, 1) := by decide +kernel
theorem dX6_isQuiet_59 : decode cX6_isQuiet 59 = .ok (.iadd, 1) := by decide +kernel
theorem dX6_isQuiet_60 : decode cX6_isQuiet 60 = .ok (.iaload, 1) := by decide +kernel
theorem dX6_isQuiet_61 : decode cX6_isQuiet 61 = .ok (.ifCond .ne 39, 3) := by decide +kernel
theorem dX6_isQuiet_64 : decode cX6_isQuiet 64 = .ok (.aload_n 0, 1) := by decide +kernel
theorem dX6_isQuiet_65 : decode cX6_isQuiet 65 = .ok (.getfield 7, 3) := by decide +kernel
theorem dX6_isQuiet_68 : decode cX6_isQuiet 68 = .ok (.iload_n 2, 1) := by decide +kernel
theorem dX6_isQuiet_69 : decode cX6_isQuiet 69 = .ok (.invokestatic 20, 3) := by decide +kernel
theorem dX6_isQuiet_72 : decode cX6_isQuiet 72 = .ok (.bipush 9, 2) := by decide +kernel
theorem dX6_isQuiet_74 : decode cX6_isQuiet 74 = .ok (.iadd, 1) := by decide +kernel
theorem dX6_isQuiet_75 : decode cX6_isQuiet 75 = .ok (.iaload, 1) := by decide +kernel
theorem dX6_isQuiet_76 : decode cX6_isQuiet 76 = .ok (.bipush (-4), 2) := by decide +kernel
theorem dX6_isQuiet_78 : decode cX6_isQuiet 78 = .ok (.if_icmp .ne 22, 3) := by decide +kernel
theorem dX6_isQuiet_81 : decode cX6_isQuiet 81 = .ok (.aload_n 0, 1) := by decide +kernel
theorem dX6_isQuiet_82 : decode cX6_isQuiet 82 = .ok (.getfield 7, 3) := by decide +kernel
theorem dX6_isQuiet_85 : decode cX6_isQuiet 85 = .ok (.iload_n 2, 1) := by decide +kernel
theorem dX6_isQuiet_86 : decode cX6_isQuiet 86 = .ok (.invokestatic 20, 3) := by decide +kernel
theorem dX6_isQuiet_89 : decode cX6_isQuiet 89 = .ok (.bipush 10, 2) := by decide +kernel
theorem dX6_isQuiet_91 : decode cX6_isQuiet 91 = .ok (.iadd, 1) := by decide +kernel
theorem dX6_isQuiet_92 : decode cX6_isQuiet 92 = .ok (.iaload, 1) := by decide +kernel
theorem dX6_isQuiet_93 : decode cX6_isQuiet 93 = .ok (.ifCond .ne 7, 3) := by decide +kernel
theorem dX6_isQuiet_96 : decode cX6_isQuiet 96 = .ok (.iconst 1, 1) := by decide +kernel
theorem dX6_isQuiet_97 : decode cX6_isQuiet 97 = .ok (.goto 4, 3) := by decide +kernel
theorem dX6_isQuiet_100 : decode cX6_isQuiet 100 = .ok (.iconst 0, 1) := by decide +kernel
theorem dX6_isQuiet_101 : decode cX6_isQuiet 101 = .ok (.istore_n 1, 1) := by decide +kernel
theorem dX6_isQuiet_102 : decode cX6_isQuiet 102 = .ok (.iinc 2 1, 3) := by decide +kernel
theorem dX6_isQuiet_105 : decode cX6_isQuiet 105 = .ok (.goto (-72), 3) := by decide +kernel
theorem dX6_isQuiet_108 : decode cX6_isQuiet 108 = .ok (.iload_n 1, 1) := by decide +kernel
theorem dX6_isQuiet_109 : decode cX6_isQuiet 109 = .ok (.ireturn, 1) := by decide +kernel
theorem dX6_settle_0 : decode cX6_settle 0 = .ok (.iload_n 1, 1) := by decide +kernel
theorem dX6_settle_1 : decode cX6_settle 1 = .ok (.i2l, 1) := by decide +kernel
theorem dX6_settle_2 : decode cX6_settle 2 = .ok (.lconst 1, 1) := by decide +kernel
theorem dX6_settle_3 : decode cX6_settle 3 = .ok (.ldc2_w 158, 3) := by decide +kernel
theorem dX6_settle_6 : decode cX6_settle 6 = .ok (.invokestatic 45, 3) := by decide +kernel
theorem dX6_settle_9 : decode cX6_settle 9 = .ok (.ifCond .ne 5, 3) := by decide +kernel
theorem dX6_settle_12 : decode cX6_settle 12 = .ok (.iconst (-1), 1) := by decide +kernel
theorem dX6_settle_13 : decode cX6_settle 13 = .ok (.ireturn, 1) := by decide +kernel
theorem dX6_settle_14 : decode cX6_settle 14 = .ok (.aload_n 0, 1) := by decide +kernel
theorem dX6_settle_15 : decode cX6_settle 15 = .ok (.getfield 7, 3) := by decide +kernel
theorem dX6_settle_18 : decode cX6_settle 18 = .ok (.iconst 3, 1) := by decide +kernel
theorem dX6_settle_19 : decode cX6_settle 19 = .ok (.iaload, 1) := by decide +kernel
theorem dX6_settle_20 : decode cX6_settle 20 = .ok (.iload_n 1, 1) := by decide +kernel
theorem dX6_settle_21 : decode cX6_settle 21 = .ok (.iadd, 1) := by decide +kernel
theorem dX6_settle_22 : decode cX6_settle 22 = .ok (.sipush 20000, 3) := by decide +kernel
theorem dX6_settle_25 : decode cX6_settle 25 = .ok (.if_icmp .le 6, 3) := by decide +kernel
theorem dX6_settle_28 : decode cX6_settle 28 = .ok (.bipush (-3), 2) := by decide +kernel
theorem dX6_settle_30 : decode cX6_settle 30 = .ok (.ireturn, 1) := by decide +kernel
theorem dX6_settle_31 : decode cX6_settle 31 = .ok (.iconst 0, 1) := by decide +kernel
theorem dX6_settle_32 : decode cX6_settle 32 = .ok (.istore_n 2, 1) := by decide +kernel
theorem dX6_settle_33 : decode cX6_settle 33 = .ok (.iload_n 2, 1) := by decide +kernel
theorem dX6_settle_34 : decode cX6_settle 34 = .ok (.iload_n 1, 1) := by decide +kernel
theorem dX6_settle_35 : decode cX6_settle 35 = .ok (.if_icmp .ge 21, 3) := by decide +kernel
theorem dX6_settle_38 : decode cX6_settle 38 = .ok (.aload_n 0, 1) := by decide +kernel
theorem dX6_settle_39 : decode cX6_settle 39 = .ok (.invokevirtual 160, 3) := by decide +kernel
theorem dX6_settle_42 : decode cX6_settle 42 = .ok (.ifCond .ne 14, 3) := by decide +kernel
theorem dX6_settle_45 : decode cX6_settle 45 = .ok (.aload_n 0, 1) := by decide +kernel
theorem dX6_settle_46 : decode cX6_settle 46 = .ok (.invokevirtual 155, 3) := by decide +kernel
theorem dX6_settle_49 : decode cX6_settle 49 = .ok (.istore_n 3, 1) := by decide +kernel
theorem dX6_settle_50 : decode cX6_settle 50 = .ok (.iinc 2 1, 3) := by decide +kernel
theorem dX6_settle_53 : decode cX6_settle 53 = .ok (.goto (-20), 3) := by decide +kernel
theorem dX6_settle_56 : decode cX6_settle 56 = .ok (.iload_n 2, 1) := by decide +kernel
theorem dX6_settle_57 : decode cX6_settle 57 = .ok (.ireturn, 1) := by decide +kernel
theorem dX6_voids_0 : decode cX6_voids 0 = .ok (.iload_n 1, 1) := by decide +kernel
theorem dX6_voids_1 : decode cX6_voids 1 = .ok (.invokestatic 39, 3) := by decide +kernel
theorem dX6_voids_4 : decode cX6_voids 4 = .ok (.ifCond .ne 5, 3) := by decide +kernel
theorem dX6_voids_7 : decode cX6_voids 7 = .ok (.iconst (-1), 1) := by decide +kernel
theorem dX6_voids_8 : decode cX6_voids 8 = .ok (.ireturn, 1) := by decide +kernel
theorem dX6_voids_9 : decode cX6_voids 9 = .ok (.aload_n 0, 1) := by decide +kernel
theorem dX6_voids_10 : decode cX6_voids 10 = .ok (.getfield 7, 3) := by decide +kernel
theorem dX6_voids_13 : decode cX6_voids 13 = .ok (.iload_n 1, 1) := by decide +kernel
theorem dX6_voids_14 : decode cX6_voids 14 = .ok (.invokestatic 20, 3) := by decide +kernel
theorem dX6_voids_17 : decode cX6_voids 17 = .ok (.bipush 12, 2) := by decide +kernel
theorem dX6_voids_19 : decode cX6_voids 19 = .ok (.iadd, 1) := by decide +kernel
theorem dX6_voids_20 : decode cX6_voids 20 = .ok (.iaload, 1) := by decide +kernel
theorem dX6_voids_21 : decode cX6_voids 21 = .ok (.istore_n 2, 1) := by decide +kernel
theorem dX6_voids_22 : decode cX6_voids 22 = .ok (.aload_n 0, 1) := by decide +kernel
theorem dX6_voids_23 : decode cX6_voids 23 = .ok (.getfield 7, 3) := by decide +kernel
theorem dX6_voids_26 : decode cX6_voids 26 = .ok (.iload_n 1, 1) := by decide +kernel
theorem dX6_voids_27 : decode cX6_voids 27 = .ok (.invokestatic 20, 3) := by decide +kernel
theorem dX6_voids_30 : decode cX6_voids 30 = .ok (.bipush 12, 2) := by decide +kernel
theorem dX6_voids_32 : decode cX6_voids 32 = .ok (.iadd, 1) := by decide +kernel
theorem dX6_voids_33 : decode cX6_voids 33 = .ok (.iconst 1, 1) := by decide +kernel
theorem dX6_voids_34 : decode cX6_voids 34 = .ok (.iastore, 1) := by decide +kernel
theorem dX6_voids_35 : decode cX6_voids 35 = .ok (.iload_n 2, 1) := by decide +kernel
theorem dX6_voids_36 : decode cX6_voids 36 = .ok (.ireturn, 1) := by decide +kernel
theorem dX6_isFrame_0 : decode cX6_isFrame 0 = .ok (.iload_n 1, 1) := by decide +kernel
theorem dX6_isFrame_1 : decode cX6_isFrame 1 = .ok (.invokestatic 39, 3) := by decide +kernel
theorem dX6_isFrame_4 : decode cX6_isFrame 4 = .ok (.ifCond .eq 24, 3) := by decide +kernel
theorem dX6_isFrame_7 : decode cX6_isFrame 7 = .ok (.iload_n 2, 1) := by decide +kernel
theorem dX6_isFrame_8 : decode cX6_isFrame 8 = .ok (.i2l, 1) := by decide +kernel
theorem dX6_isFrame_9 : decode cX6_isFrame 9 = .ok (.lconst 0, 1) := by decide +kernel
theorem dX6_isFrame_10 : decode cX6_isFrame 10 = .ok (.aload_n 0, 1) := by decide +kernel
theorem dX6_isFrame_11 : decode cX6_isFrame 11 = .ok (.iload_n 1, 1) := by decide +kernel
theorem dX6_isFrame_12 : decode cX6_isFrame 12 = .ok (.invokevirtual 78, 3) := by decide +kernel
theorem dX6_isFrame_15 : decode cX6_isFrame 15 = .ok (.iconst 1, 1) := by decide +kernel
theorem dX6_isFrame_16 : decode cX6_isFrame 16 = .ok (.isub, 1) := by decide +kernel
theorem dX6_isFrame_17 : decode cX6_isFrame 17 = .ok (.i2l, 1) := by decide +kernel
theorem dX6_isFrame_18 : decode cX6_isFrame 18 = .ok (.invokestatic 45, 3) := by decide +kernel
theorem dX6_isFrame_21 : decode cX6_isFrame 21 = .ok (.ifCond .eq 7, 3) := by decide +kernel
theorem dX6_isFrame_24 : decode cX6_isFrame 24 = .ok (.iconst 1, 1) := by decide +kernel
theorem dX6_isFrame_25 : decode cX6_isFrame 25 = .ok (.goto 4, 3) := by decide +kernel
theorem dX6_isFrame_28 : decode cX6_isFrame 28 = .ok (.iconst 0, 1) := by decide +kernel
theorem dX6_isFrame_29 : decode cX6_isFrame 29 = .ok (.ireturn, 1) := by decide +kernel
theorem dX6_bend_0 : decode cX6_bend 0 = .ok (.aload_n 0, 1) := by decide +kernel
theorem dX6_bend_1 : decode cX6_bend 1 = .ok (.iload_n 1, 1) := by decide +kernel
theorem dX6_bend_2 : decode cX6_bend 2 = .ok (.iload_n 2, 1) := by decide +kernel
theorem dX6_bend_3 : decode cX6_bend 3 = .ok (.invokevirtual 164, 3) := by decide +kernel
theorem dX6_bend_6 : decode cX6_bend 6 = .ok (.ifCond .eq 38, 3) := by decide +kernel
theorem dX6_bend_9 : decode cX6_bend 9 = .ok (.iload_n 3, 1) := by decide +kernel
theorem dX6_bend_10 : decode cX6_bend 10 = .ok (.i2l, 1) := by decide +kernel
theorem dX6_bend_11 : decode cX6_bend 11 = .ok (.lconst 0, 1) := by decide +kernel
theorem dX6_bend_12 : decode cX6_bend 12 = .ok (.aload_n 0, 1) := by decide +kernel
theorem dX6_bend_13 : decode cX6_bend 13 = .ok (.getfield 7, 3) := by decide +kernel
theorem dX6_bend_16 : decode cX6_bend 16 = .ok (.iload_n 1, 1) := by decide +kernel
theorem dX6_bend_17 : decode cX6_bend 17 = .ok (.iload_n 2, 1) := by decide +kernel
theorem dX6_bend_18 : decode cX6_bend 18 = .ok (.invokestatic 81, 3) := by decide +kernel
theorem dX6_bend_21 : decode cX6_bend 21 = .ok (.iaload, 1) := by decide +kernel
theorem dX6_bend_22 : decode cX6_bend 22 = .ok (.iconst 1, 1) := by decide +kernel
theorem dX6_bend_23 : decode cX6_bend 23 = .ok (.isub, 1) := by decide +kernel
theorem dX6_bend_24 : decode cX6_bend 24 = .ok (.i2l, 1) := by decide +kernel
theorem dX6_bend_25 : decode cX6_bend 25 = .ok (.invokestatic 45, 3) := by decide +kernel
theorem dX6_bend_28 : decode cX6_bend 28 = .ok (.ifCond .eq 16, 3) := by decide +kernel
theorem dX6_bend_31 : decode cX6_bend 31 = .ok (.iload 4, 2) := by decide +kernel
theorem dX6_bend_33 : decode cX6_bend 33 = .ok (.i2l, 1) := by decide +kernel
theorem dX6_bend_34 : decode cX6_bend 34 = .ok (.lconst 1, 1) := by decide +kernel
theorem dX6_bend_35 : decode cX6_bend 35 = .ok (.ldc2_w 49, 3) := by decide +kernel
theorem dX6_bend_38 : decode cX6_bend 38 = .ok (.invokestatic 45, 3) := by decide +kernel
theorem dX6_bend_41 : decode cX6_bend 41 = .ok (.ifCond .ne 5, 3) := by decide +kernel
theorem dX6_bend_44 : decode cX6_bend 44 = .ok (.iconst (-1), 1) := by decide +kernel
theorem dX6_bend_45 : decode cX6_bend 45 = .ok (.ireturn, 1) := by decide +kernel
theorem dX6_bend_46 : decode cX6_bend 46 = .ok (.iload_n 1, 1) := by decide +kernel
theorem dX6_bend_47 : decode cX6_bend 47 = .ok (.iload_n 2, 1) := by decide +kernel
theorem dX6_bend_48 : decode cX6_bend 48 = .ok (.invokestatic 81, 3) := by decide +kernel
theorem dX6_bend_51 : decode cX6_bend 51 = .ok (.iconst 2, 1) := by decide +kernel
theorem dX6_bend_52 : decode cX6_bend 52 = .ok (.iadd, 1) := by decide +kernel
theorem dX6_bend_53 : decode cX6_bend 53 = .ok (.iload_n 3, 1) := by decide +kernel
theorem dX6_bend_54 : decode cX6_bend 54 = .ok (.iadd, 1) := by decide +kernel
theorem dX6_bend_55 : decode cX6_bend 55 = .ok (.istore 5, 2) := by decide +kernel
theorem dX6_bend_57 : decode cX6_bend 57 = .ok (.aload_n 0, 1) := by decide +kernel
theorem dX6_bend_58 : decode cX6_bend 58 = .ok (.getfield 7, 3) := by decide +kernel
theorem dX6_bend_61 : decode cX6_bend 61 = .ok (.iload 5, 2) := by decide +kernel
theorem dX6_bend_63 : decode cX6_bend 63 = .ok (.aload_n 0, 1) := by decide +kernel
theorem dX6_bend_64 : decode cX6_bend 64 = .ok (.getfield 7, 3) := by decide +kernel
theorem dX6_bend_67 : decode cX6_bend 67 = .ok (.iload 5, 2) := by decide +kernel
theorem dX6_bend_69 : decode cX6_bend 69 = .ok (.iaload, 1) := by decide +kernel
theorem dX6_bend_70 : decode cX6_bend 70 = .ok (.iload 4, 2) := by decide +kernel
theorem dX6_bend_72 : decode cX6_bend 72 = .ok (.ixor, 1) := by decide +kernel
theorem dX6_bend_73 : decode cX6_bend 73 = .ok (.iastore, 1) := by decide +kernel
theorem dX6_bend_74 : decode cX6_bend 74 = .ok (.aload_n 0, 1) := by decide +kernel
theorem dX6_bend_75 : decode cX6_bend 75 = .ok (.getfield 7, 3) := by decide +kernel
theorem dX6_bend_78 : decode cX6_bend 78 = .ok (.iload 5, 2) := by decide +kernel
theorem dX6_bend_80 : decode cX6_bend 80 = .ok (.iaload, 1) := by decide +kernel
theorem dX6_bend_81 : decode cX6_bend 81 = .ok (.ireturn, 1) := by decide +kernel
theorem dX6_lose_0 : decode cX6_lose 0 = .ok (.aload_n 0, 1) := by decide +kernel
theorem dX6_lose_1 : decode cX6_lose 1 = .ok (.iload_n 1, 1) := by decide +kernel
theorem dX6_lose_2 : decode cX6_lose 2 = .ok (.iload_n 2, 1) := by decide +kernel
theorem dX6_lose_3 : decode cX6_lose 3 = .ok (.invokevirtual 164, 3) := by decide +kernel
theorem dX6_lose_6 : decode cX6_lose 6 = .ok (.ifCond .ne 5, 3) := by decide +kernel
theorem dX6_lose_9 : decode cX6_lose 9 = .ok (.iconst (-1), 1) := by decide +kernel
theorem dX6_lose_10 : decode cX6_lose 10 = .ok (.ireturn, 1) := by decide +kernel
theorem dX6_lose_11 : decode cX6_lose 11 = .ok (.aload_n 0, 1) := by decide +kernel
theorem dX6_lose_12 : decode cX6_lose 12 = .ok (.iload_n 1, 1) := by decide +kernel
theorem dX6_lose_13 : decode cX6_lose 13 = .ok (.iload_n 2, 1) := by decide +kernel
theorem dX6_lose_14 : decode cX6_lose 14 = .ok (.invokevirtual 84, 3) := by decide +kernel
theorem dX6_lose_17 : decode cX6_lose 17 = .ok (.aload_n 0, 1) := by decide +kernel
theorem dX6_lose_18 : decode cX6_lose 18 = .ok (.iload_n 1, 1) := by decide +kernel
theorem dX6_lose_19 : decode cX6_lose 19 = .ok (.invokevirtual 78, 3) := by decide +kernel
theorem dX6_lose_22 : decode cX6_lose 22 = .ok (.ireturn, 1) := by decide +kernel
theorem dX6_twice_0 : decode cX6_twice 0 = .ok (.aload_n 0, 1) := by decide +kernel
theorem dX6_twice_1 : decode cX6_twice 1 = .ok (.iload_n 1, 1) := by decide +kernel
theorem dX6_twice_2 : decode cX6_twice 2 = .ok (.iload_n 2, 1) := by decide +kernel
theorem dX6_twice_3 : decode cX6_twice 3 = .ok (.invokevirtual 164, 3) := by decide +kernel
theorem dX6_twice_6 : decode cX6_twice 6 = .ok (.ifCond .ne 5, 3) := by decide +kernel
theorem dX6_twice_9 : decode cX6_twice 9 = .ok (.iconst (-1), 1) := by decide +kernel
theorem dX6_twice_10 : decode cX6_twice 10 = .ok (.ireturn, 1) := by decide +kernel
theorem dX6_twice_11 : decode cX6_twice 11 = .ok (.aload_n 0, 1) := by decide +kernel
theorem dX6_twice_12 : decode cX6_twice 12 = .ok (.iload_n 1, 1) := by decide +kernel
theorem dX6_twice_13 : decode cX6_twice 13 = .ok (.invokevirtual 78, 3) := by decide +kernel
theorem dX6_twice_16 : decode cX6_twice 16 = .ok (.bipush 12, 2) := by decide +kernel
theorem dX6_twice_18 : decode cX6_twice 18 = .ok (.if_icmp .ne 6, 3) := by decide +kernel
theorem dX6_twice_21 : decode cX6_twice 21 = .ok (.bipush (-3), 2) := by decide +kernel
theorem dX6_twice_23 : decode cX6_twice 23 = .ok (.ireturn, 1) := by decide +kernel
theorem dX6_twice_24 : decode cX6_twice 24 = .ok (.iload_n 1, 1) := by decide +kernel
theorem dX6_twice_25 : decode cX6_twice 25 = .ok (.aload_n 0, 1) := by decide +kernel
theorem dX6_twice_26 : decode cX6_twice 26 = .ok (.iload_n 1, 1) := by decide +kernel
theorem dX6_twice_27 : decode cX6_twice 27 = .ok (.invokevirtual 78, 3) := by decide +kernel
theorem dX6_twice_30 : decode cX6_twice 30 = .ok (.invokestatic 81, 3) := by decide +kernel
theorem dX6_twice_33 : decode cX6_twice 33 = .ok (.iconst 1, 1) := by decide +kernel
theorem dX6_twice_34 : decode cX6_twice 34 = .ok (.isub, 1) := by decide +kernel
theorem dX6_twice_35 : decode cX6_twice 35 = .ok (.istore_n 3, 1) := by decide +kernel
theorem dX6_twice_36 : decode cX6_twice 36 = .ok (.iload_n 3, 1) := by decide +kernel
theorem dX6_twice_37 : decode cX6_twice 37 = .ok (.iload_n 1, 1) := by decide +kernel
theorem dX6_twice_38 : decode cX6_twice 38 = .ok (.iload_n 2, 1) := by decide +kernel
theorem dX6_twice_39 : decode cX6_twice 39 = .ok (.invokestatic 81, 3) := by decide +kernel
theorem dX6_twice_42 : decode cX6_twice 42 = .ok (.if_icmp .lt 24, 3) := by decide +kernel
theorem dX6_twice_45 : decode cX6_twice 45 = .ok (.aload_n 0, 1) := by decide +kernel
theorem dX6_twice_46 : decode cX6_twice 46 = .ok (.getfield 7, 3) := by decide +kernel
theorem dX6_twice_49 : decode cX6_twice 49 = .ok (.iload_n 3, 1) := by decide +kernel
theorem dX6_twice_50 : decode cX6_twice 50 = .ok (.bipush 36, 2) := by decide +kernel
theorem dX6_twice_52 : decode cX6_twice 52 = .ok (.iadd, 1) := by decide +kernel
theorem dX6_twice_53 : decode cX6_twice 53 = .ok (.aload_n 0, 1) := by decide +kernel
theorem dX6_twice_54 : decode cX6_twice 54 = .ok (.getfield 7, 3) := by decide +kernel
theorem dX6_twice_57 : decode cX6_twice 57 = .ok (.iload_n 3, 1) := by decide +kernel
theorem dX6_twice_58 : decode cX6_twice 58 = .ok (.iaload, 1) := by decide +kernel
theorem dX6_twice_59 : decode cX6_twice 59 = .ok (.iastore, 1) := by decide +kernel
theorem dX6_twice_60 : decode cX6_twice 60 = .ok (.iinc 3 (-1), 3) := by decide +kernel
theorem dX6_twice_63 : decode cX6_twice 63 = .ok (.goto (-27), 3) := by decide +kernel
theorem dX6_twice_66 : decode cX6_twice 66 = .ok (.aload_n 0, 1) := by decide +kernel
theorem dX6_twice_67 : decode cX6_twice 67 = .ok (.getfield 7, 3) := by decide +kernel
theorem dX6_twice_70 : decode cX6_twice 70 = .ok (.iload_n 1, 1) := by decide +kernel
theorem dX6_twice_71 : decode cX6_twice 71 = .ok (.invokestatic 24, 3) := by decide +kernel
theorem dX6_twice_74 : decode cX6_twice 74 = .ok (.dup2, 1) := by decide +kernel
theorem dX6_twice_75 : decode cX6_twice 75 = .ok (.iaload, 1) := by decide +kernel
theorem dX6_twice_76 : decode cX6_twice 76 = .ok (.iconst 1, 1) := by decide +kernel
theorem dX6_twice_77 : decode cX6_twice 77 = .ok (.iadd, 1) := by decide +kernel
theorem dX6_twice_78 : decode cX6_twice 78 = .ok (.iastore, 1) := by decide +kernel
theorem dX6_twice_79 : decode cX6_twice 79 = .ok (.aload_n 0, 1) := by decide +kernel
theorem dX6_twice_80 : decode cX6_twice 80 = .ok (.iload_n 1, 1) := by decide +kernel
theorem dX6_twice_81 : decode cX6_twice 81 = .ok (.invokevirtual 78, 3) := by decide +kernel
theorem dX6_twice_84 : decode cX6_twice 84 = .ok (.ireturn, 1) := by decide +kernel
theorem dX6_wire_0 : decode cX6_wire 0 = .ok (.iload_n 1, 1) := by decide +kernel
theorem dX6_wire_1 : decode cX6_wire 1 = .ok (.invokestatic 39, 3) := by decide +kernel
theorem dX6_wire_4 : decode cX6_wire 4 = .ok (.ifCond .ne 5, 3) := by decide +kernel
theorem dX6_wire_7 : decode cX6_wire 7 = .ok (.iconst (-1), 1) := by decide +kernel
theorem dX6_wire_8 : decode cX6_wire 8 = .ok (.ireturn, 1) := by decide +kernel
theorem dX6_wire_9 : decode cX6_wire 9 = .ok (.iload_n 2, 1) := by decide +kernel
theorem dX6_wire_10 : decode cX6_wire 10 = .ok (.iconst (-1), 1) := by decide +kernel
theorem dX6_wire_11 : decode cX6_wire 11 = .ok (.if_icmp .ne 9, 3) := by decide +kernel
theorem dX6_wire_14 : decode cX6_wire 14 = .ok (.aload_n 0, 1) := by decide +kernel
theorem dX6_wire_15 : decode cX6_wire 15 = .ok (.iload_n 1, 1) := by decide +kernel
theorem dX6_wire_16 : decode cX6_wire 16 = .ok (.invokevirtual 78, 3) := by decide +kernel
theorem dX6_wire_19 : decode cX6_wire 19 = .ok (.ireturn, 1) := by decide +kernel
theorem dX6_wire_20 : decode cX6_wire 20 = .ok (.aload_n 0, 1) := by decide +kernel
theorem dX6_wire_21 : decode cX6_wire 21 = .ok (.iload_n 1, 1) := by decide +kernel
theorem dX6_wire_22 : decode cX6_wire 22 = .ok (.iload_n 2, 1) := by decide +kernel
theorem dX6_wire_23 : decode cX6_wire 23 = .ok (.invokevirtual 164, 3) := by decide +kernel
theorem dX6_wire_26 : decode cX6_wire 26 = .ok (.ifCond .eq 15, 3) := by decide +kernel
theorem dX6_wire_29 : decode cX6_wire 29 = .ok (.iload_n 3, 1) := by decide +kernel
theorem dX6_wire_30 : decode cX6_wire 30 = .ok (.i2l, 1) := by decide +kernel
theorem dX6_wire_31 : decode cX6_wire 31 = .ok (.lconst 0, 1) := by decide +kernel
theorem dX6_wire_32 : decode cX6_wire 32 = .ok (.ldc2_w 168, 3) := by decide +kernel
theorem dX6_wire_35 : decode cX6_wire 35 = .ok (.invokestatic 45, 3) := by decide +kernel
theorem dX6_wire_38 : decode cX6_wire 38 = .ok (.ifCond .ne 5, 3) := by decide +kernel
theorem dX6_wire_41 : decode cX6_wire 41 = .ok (.iconst (-1), 1) := by decide +kernel
theorem dX6_wire_42 : decode cX6_wire 42 = .ok (.ireturn, 1) := by decide +kernel
theorem dX6_wire_43 : decode cX6_wire 43 = .ok (.iload_n 1, 1) := by decide +kernel
theorem dX6_wire_44 : decode cX6_wire 44 = .ok (.iload_n 2, 1) := by decide +kernel
theorem dX6_wire_45 : decode cX6_wire 45 = .ok (.invokestatic 81, 3) := by decide +kernel
theorem dX6_wire_48 : decode cX6_wire 48 = .ok (.istore 4, 2) := by decide +kernel
theorem dX6_wire_50 : decode cX6_wire 50 = .ok (.iload_n 3, 1) := by decide +kernel
theorem dX6_wire_51 : decode cX6_wire 51 = .ok (.tableswitch 57 0 2 #[25, 33, 50], 25) := by decide +kernel
theorem dX6_wire_76 : decode cX6_wire 76 = .ok (.aload_n 0, 1) := by decide +kernel
theorem dX6_wire_77 : decode cX6_wire 77 = .ok (.getfield 7, 3) := by decide +kernel
theorem dX6_wire_80 : decode cX6_wire 80 = .ok (.iload 4, 2) := by decide +kernel
theorem dX6_wire_82 : decode cX6_wire 82 = .ok (.iaload, 1) := by decide +kernel
theorem dX6_wire_83 : decode cX6_wire 83 = .ok (.ireturn, 1) := by decide +kernel
theorem dX6_wire_84 : decode cX6_wire 84 = .ok (.aload_n 0, 1) := by decide +kernel
theorem dX6_wire_85 : decode cX6_wire 85 = .ok (.getfield 7, 3) := by decide +kernel
theorem dX6_wire_88 : decode cX6_wire 88 = .ok (.iload 4, 2) := by decide +kernel
theorem dX6_wire_90 : decode cX6_wire 90 = .ok (.iconst 1, 1) := by decide +kernel
theorem dX6_wire_91 : decode cX6_wire 91 = .ok (.iadd, 1) := by decide +kernel
theorem dX6_wire_92 : decode cX6_wire 92 = .ok (.iaload, 1) := by decide +kernel
theorem dX6_wire_93 : decode cX6_wire 93 = .ok (.aload_n 0, 1) := by decide +kernel
theorem dX6_wire_94 : decode cX6_wire 94 = .ok (.getfield 7, 3) := by decide +kernel
theorem dX6_wire_97 : decode cX6_wire 97 = .ok (.iconst 3, 1) := by decide +kernel
theorem dX6_wire_98 : decode cX6_wire 98 = .ok (.iaload, 1) := by decide +kernel
theorem dX6_wire_99 : decode cX6_wire 99 = .ok (.isub, 1) := by decide +kernel
theorem dX6_wire_100 : decode cX6_wire 100 = .ok (.ireturn, 1) := by decide +kernel
theorem dX6_wire_101 : decode cX6_wire 101 = .ok (.aload_n 0, 1) := by decide +kernel
theorem dX6_wire_102 : decode cX6_wire 102 = .ok (.iload 4, 2) := by decide +kernel
theorem dX6_wire_104 : decode cX6_wire 104 = .ok (.invokevirtual 119, 3) := by decide +kernel
theorem dX6_wire_107 : decode cX6_wire 107 = .ok (.ireturn, 1) := by decide +kernel
theorem dX6_wire_108 : decode cX6_wire 108 = .ok (.iload_n 3, 1) := by decide +kernel
theorem dX6_wire_109 : decode cX6_wire 109 = .ok (.iconst 3, 1) := by decide +kernel
theorem dX6_wire_110 : decode cX6_wire 110 = .ok (.isub, 1) := by decide +kernel
theorem dX6_wire_111 : decode cX6_wire 111 = .ok (.aload_n 0, 1) := by decide +kernel
theorem dX6_wire_112 : decode cX6_wire 112 = .ok (.getfield 7, 3) := by decide +kernel
theorem dX6_wire_115 : decode cX6_wire 115 = .ok (.iload 4, 2) := by decide +kernel
theorem dX6_wire_117 : decode cX6_wire 117 = .ok (.iaload, 1) := by decide +kernel
theorem dX6_wire_118 : decode cX6_wire 118 = .ok (.if_icmp .ge 19, 3) := by decide +kernel
theorem dX6_wire_121 : decode cX6_wire 121 = .ok (.aload_n 0, 1) := by decide +kernel
theorem dX6_wire_122 : decode cX6_wire 122 = .ok (.getfield 7, 3) := by decide +kernel
theorem dX6_wire_125 : decode cX6_wire 125 = .ok (.iload 4, 2) := by decide +kernel
theorem dX6_wire_127 : decode cX6_wire 127 = .ok (.iconst 2, 1) := by decide +kernel
theorem dX6_wire_128 : decode cX6_wire 128 = .ok (.iadd, 1) := by decide +kernel
theorem dX6_wire_129 : decode cX6_wire 129 = .ok (.iload_n 3, 1) := by decide +kernel
theorem dX6_wire_130 : decode cX6_wire 130 = .ok (.iadd, 1) := by decide +kernel
theorem dX6_wire_131 : decode cX6_wire 131 = .ok (.iconst 3, 1) := by decide +kernel
theorem dX6_wire_132 : decode cX6_wire 132 = .ok (.isub, 1) := by decide +kernel
theorem dX6_wire_133 : decode cX6_wire 133 = .ok (.iaload, 1) := by decide +kernel
theorem dX6_wire_134 : decode cX6_wire 134 = .ok (.goto 5, 3) := by decide +kernel
theorem dX6_wire_137 : decode cX6_wire 137 = .ok (.bipush (-4), 2) := by decide +kernel
theorem dX6_wire_139 : decode cX6_wire 139 = .ok (.ireturn, 1) := by decide +kernel
theorem dX6_end_0 : decode cX6_end 0 = .ok (.iload_n 1, 1) := by decide +kernel
theorem dX6_end_1 : decode cX6_end 1 = .ok (.invokestatic 39, 3) := by decide +kernel
theorem dX6_end_4 : decode cX6_end 4 = .ok (.ifCond .ne 5, 3) := by decide +kernel
theorem dX6_end_7 : decode cX6_end 7 = .ok (.iconst (-1), 1) := by decide +kernel
theorem dX6_end_8 : decode cX6_end 8 = .ok (.ireturn, 1) := by decide +kernel
theorem dX6_end_9 : decode cX6_end 9 = .ok (.iload_n 1, 1) := by decide +kernel
theorem dX6_end_10 : decode cX6_end 10 = .ok (.invokestatic 20, 3) := by decide +kernel
theorem dX6_end_13 : decode cX6_end 13 = .ok (.istore_n 3, 1) := by decide +kernel
theorem dX6_end_14 : decode cX6_end 14 = .ok (.iload_n 2, 1) := by decide +kernel
theorem dX6_end_15 : decode cX6_end 15 = .ok (.tableswitch 202 0 13 #[69, 75, 84, 96, 105, 114, 123, 133, 143, 153, 163, 173, 182, 192], 69) := by decide +kernel
theorem dX6_end_84 : decode cX6_end 84 = .ok (.aload_n 0, 1) := by decide +kernel
theorem dX6_end_85 : decode cX6_end 85 = .ok (.iload_n 1, 1) := by decide +kernel
theorem dX6_end_86 : decode cX6_end 86 = .ok (.invokevirtual 51, 3) := by decide +kernel
theorem dX6_end_89 : decode cX6_end 89 = .ok (.ireturn, 1) := by decide +kernel
theorem dX6_end_90 : decode cX6_end 90 = .ok (.aload_n 0, 1) := by decide +kernel
theorem dX6_end_91 : decode cX6_end 91 = .ok (.getfield 7, 3) := by decide +kernel
theorem dX6_end_94 : decode cX6_end 94 = .ok (.iload_n 3, 1) := by decide +kernel
theorem dX6_end_95 : decode cX6_end 95 = .ok (.iconst 2, 1) := by decide +kernel
theorem dX6_end_96 : decode cX6_end 96 = .ok (.iadd, 1) := by decide +kernel
theorem dX6_end_97 : decode cX6_end 97 = .ok (.iaload, 1) := by decide +kernel
theorem dX6_end_98 : decode cX6_end 98 = .ok (.ireturn, 1) := by decide +kernel
theorem dX6_end_99 : decode cX6_end 99 = .ok (.aload_n 0, 1) := by decide +kernel
theorem dX6_end_100 : decode cX6_end 100 = .ok (.getfield 7, 3) := by decide +kernel
theorem dX6_end_103 : decode cX6_end 103 = .ok (.iload_n 3, 1) := by decide +kernel
theorem dX6_end_104 : decode cX6_end 104 = .ok (.iconst 1, 1) := by decide +kernel
theorem dX6_end_105 : decode cX6_end 105 = .ok (.iadd, 1) := by decide +kernel
theorem dX6_end_106 : decode cX6_end 106 = .ok (.iaload, 1) := by decide +kernel
theorem dX6_end_107 : decode cX6_end 107 = .ok (.invokestatic 95, 3) := by decide +kernel
theorem dX6_end_110 : decode cX6_end 110 = .ok (.ireturn, 1) := by decide +kernel
theorem dX6_end_111 : decode cX6_end 111 = .ok (.aload_n 0, 1) := by decide +kernel
theorem dX6_end_112 : decode cX6_end 112 = .ok (.getfield 7, 3) := by decide +kernel
theorem dX6_end_115 : decode cX6_end 115 = .ok (.iload_n 3, 1) := by decide +kernel
theorem dX6_end_116 : decode cX6_end 116 = .ok (.iconst 3, 1) := by decide +kernel
theorem dX6_end_117 : decode cX6_end 117 = .ok (.iadd, 1) := by decide +kernel
theorem dX6_end_118 : decode cX6_end 118 = .ok (.iaload, 1) := by decide +kernel
theorem dX6_end_119 : decode cX6_end 119 = .ok (.ireturn, 1) := by decide +kernel
theorem dX6_end_120 : decode cX6_end 120 = .ok (.aload_n 0, 1) := by decide +kernel
theorem dX6_end_121 : decode cX6_end 121 = .ok (.getfield 7, 3) := by decide +kernel
theorem dX6_end_124 : decode cX6_end 124 = .ok (.iload_n 3, 1) := by decide +kernel
theorem dX6_end_125 : decode cX6_end 125 = .ok (.iconst 4, 1) := by decide +kernel
theorem dX6_end_126 : decode cX6_end 126 = .ok (.iadd, 1) := by decide +kernel
theorem dX6_end_127 : decode cX6_end 127 = .ok (.iaload, 1) := by decide +kernel
theorem dX6_end_128 : decode cX6_end 128 = .ok (.ireturn, 1) := by decide +kernel
theorem dX6_end_129 : decode cX6_end 129 = .ok (.aload_n 0, 1) := by decide +kernel
theorem dX6_end_130 : decode cX6_end 130 = .ok (.getfield 7, 3) := by decide +kernel
theorem dX6_end_133 : decode cX6_end 133 = .ok (.iload_n 3, 1) := by decide +kernel
theorem dX6_end_134 : decode cX6_end 134 = .ok (.iconst 5, 1) := by decide +kernel
theorem dX6_end_135 : decode cX6_end 135 = .ok (.iadd, 1) := by decide +kernel
theorem dX6_end_136 : decode cX6_end 136 = .ok (.iaload, 1) := by decide +kernel
theorem dX6_end_137 : decode cX6_end 137 = .ok (.ireturn, 1) := by decide +kernel
theorem dX6_end_138 : decode cX6_end 138 = .ok (.aload_n 0, 1) := by decide +kernel
theorem dX6_end_139 : decode cX6_end 139 = .ok (.getfield 7, 3) := by decide +kernel
theorem dX6_end_142 : decode cX6_end 142 = .ok (.iload_n 3, 1) := by decide +kernel
theorem dX6_end_143 : decode cX6_end 143 = .ok (.bipush 6, 2) := by decide +kernel
theorem dX6_end_145 : decode cX6_end 145 = .ok (.iadd, 1) := by decide +kernel
theorem dX6_end_146 : decode cX6_end 146 = .ok (.iaload, 1) := by decide +kernel
theorem dX6_end_147 : decode cX6_end 147 = .ok (.ireturn, 1) := by decide +kernel
theorem dX6_end_148 : decode cX6_end 148 = .ok (.aload_n 0, 1) := by decide +kernel
theorem dX6_end_149 : decode cX6_end 149 = .ok (.getfield 7, 3) := by decide +kernel
theorem dX6_end_152 : decode cX6_end 152 = .ok (.iload_n 3, 1) := by decide +kernel
theorem dX6_end_153 : decode cX6_end 153 = .ok (.bipush 7, 2) := by decide +kernel
theorem dX6_end_155 : decode cX6_end 155 = .ok (.iadd, 1) := by decide +kernel
theorem dX6_end_156 : decode cX6_end 156 = .ok (.iaload, 1) := by decide +kernel
theorem dX6_end_157 : decode cX6_end 157 = .ok (.ireturn, 1) := by decide +kernel
theorem dX6_end_158 : decode cX6_end 158 = .ok (.aload_n 0, 1) := by decide +kernel
theorem dX6_end_159 : decode cX6_end 159 = .ok (.getfield 7, 3) := by decide +kernel
theorem dX6_end_162 : decode cX6_end 162 = .ok (.iload_n 3, 1) := by decide +kernel
theorem dX6_end_163 : decode cX6_end 163 = .ok (.bipush 8, 2) := by decide +kernel
theorem dX6_end_165 : decode cX6_end 165 = .ok (.iadd, 1) := by decide +kernel
theorem dX6_end_166 : decode cX6_end 166 = .ok (.iaload, 1) := by decide +kernel
theorem dX6_end_167 : decode cX6_end 167 = .ok (.ireturn, 1) := by decide +kernel
theorem dX6_end_168 : decode cX6_end 168 = .ok (.aload_n 0, 1) := by decide +kernel
theorem dX6_end_169 : decode cX6_end 169 = .ok (.getfield 7, 3) := by decide +kernel
theorem dX6_end_172 : decode cX6_end 172 = .ok (.iload_n 3, 1) := by decide +kernel
theorem dX6_end_173 : decode cX6_end 173 = .ok (.bipush 9, 2) := by decide +kernel
theorem dX6_end_175 : decode cX6_end 175 = .ok (.iadd, 1) := by decide +kernel
theorem dX6_end_176 : decode cX6_end 176 = .ok (.iaload, 1) := by decide +kernel
theorem dX6_end_177 : decode cX6_end 177 = .ok (.ireturn, 1) := by decide +kernel
theorem dX6_end_178 : decode cX6_end 178 = .ok (.aload_n 0, 1) := by decide +kernel
theorem dX6_end_179 : decode cX6_end 179 = .ok (.getfield 7, 3) := by decide +kernel
theorem dX6_end_182 : decode cX6_end 182 = .ok (.iload_n 3, 1) := by decide +kernel
theorem dX6_end_183 : decode cX6_end 183 = .ok (.bipush 10, 2) := by decide +kernel
theorem dX6_end_185 : decode cX6_end 185 = .ok (.iadd, 1) := by decide +kernel
theorem dX6_end_186 : decode cX6_end 186 = .ok (.iaload, 1) := by decide +kernel
theorem dX6_end_187 : decode cX6_end 187 = .ok (.ireturn, 1) := by decide +kernel
theorem dX6_end_188 : decode cX6_end 188 = .ok (.aload_n 0, 1) := by decide +kernel
theorem dX6_end_189 : decode cX6_end 189 = .ok (.getfield 7, 3) := by decide +kernel
theorem dX6_end_192 : decode cX6_end 192 = .ok (.iload_n 3, 1) := by decide +kernel
theorem dX6_end_193 : decode cX6_end 193 = .ok (.iconst 0, 1) := by decide +kernel
theorem dX6_end_194 : decode cX6_end 194 = .ok (.iadd, 1) := by decide +kernel
theorem dX6_end_195 : decode cX6_end 195 = .ok (.iaload, 1) := by decide +kernel
theorem dX6_end_196 : decode cX6_end 196 = .ok (.ireturn, 1) := by decide +kernel
theorem dX6_end_197 : decode cX6_end 197 = .ok (.aload_n 0, 1) := by decide +kernel
theorem dX6_end_198 : decode cX6_end 198 = .ok (.getfield 7, 3) := by decide +kernel
theorem dX6_end_201 : decode cX6_end 201 = .ok (.iload_n 3, 1) := by decide +kernel
theorem dX6_end_202 : decode cX6_end 202 = .ok (.bipush 11, 2) := by decide +kernel
theorem dX6_end_204 : decode cX6_end 204 = .ok (.iadd, 1) := by decide +kernel
theorem dX6_end_205 : decode cX6_end 205 = .ok (.iaload, 1) := by decide +kernel
theorem dX6_end_206 : decode cX6_end 206 = .ok (.ireturn, 1) := by decide +kernel
theorem dX6_end_207 : decode cX6_end 207 = .ok (.aload_n 0, 1) := by decide +kernel
theorem dX6_end_208 : decode cX6_end 208 = .ok (.getfield 7, 3) := by decide +kernel
theorem dX6_end_211 : decode cX6_end 211 = .ok (.iload_n 3, 1) := by decide +kernel
theorem dX6_end_212 : decode cX6_end 212 = .ok (.bipush 13, 2) := by decide +kernel
theorem dX6_end_214 : decode cX6_end 214 = .ok (.iadd, 1) := by decide +kernel
theorem dX6_end_215 : decode cX6_end 215 = .ok (.iaload, 1) := by decide +kernel
theorem dX6_end_216 : decode cX6_end 216 = .ok (.ireturn, 1) := by decide +kernel
theorem dX6_end_217 : decode cX6_end 217 = .ok (.iconst (-1), 1) := by decide +kernel
theorem dX6_end_218 : decode cX6_end 218 = .ok (.ireturn, 1) := by decide +kernel
theorem dX6_upMany_0 : decode cX6_upMany 0 = .ok (.aload_n 0, 1) := by decide +kernel
theorem dX6_upMany_1 : decode cX6_upMany 1 = .ok (.getfield 7, 3) := by decide +kernel
theorem dX6_upMany_4 : decode cX6_upMany 4 = .ok (.iload_n 1, 1) := by decide +kernel
theorem dX6_upMany_5 : decode cX6_upMany 5 = .ok (.invokestatic 20, 3) := by decide +kernel
theorem dX6_upMany_8 : decode cX6_upMany 8 = .ok (.bipush 11, 2) := by decide +kernel
theorem dX6_upMany_10 : decode cX6_upMany 10 = .ok (.iadd, 1) := by decide +kernel
theorem dX6_upMany_11 : decode cX6_upMany 11 = .ok (.iaload, 1) := by decide +kernel
theorem dX6_upMany_12 : decode cX6_upMany 12 = .ok (.bipush 60, 2) := by decide +kernel
theorem dX6_upMany_14 : decode cX6_upMany 14 = .ok (.if_icmp .ge 18, 3) := by decide +kernel
theorem dX6_upMany_17 : decode cX6_upMany 17 = .ok (.aload_n 0, 1) := by decide +kernel
theorem dX6_upMany_18 : decode cX6_upMany 18 = .ok (.getfield 7, 3) := by decide +kernel
theorem dX6_upMany_21 : decode cX6_upMany 21 = .ok (.iload_n 1, 1) := by decide +kernel
theorem dX6_upMany_22 : decode cX6_upMany 22 = .ok (.invokestatic 20, 3) := by decide +kernel
theorem dX6_upMany_25 : decode cX6_upMany 25 = .ok (.bipush 11, 2) := by decide +kernel
theorem dX6_upMany_27 : decode cX6_upMany 27 = .ok (.iadd, 1) := by decide +kernel
theorem dX6_upMany_28 : decode cX6_upMany 28 = .ok (.iaload, 1) := by decide +kernel
theorem dX6_upMany_29 : decode cX6_upMany 29 = .ok (.goto 5, 3) := by decide +kernel
theorem dX6_upMany_32 : decode cX6_upMany 32 = .ok (.bipush 60, 2) := by decide +kernel
theorem dX6_upMany_34 : decode cX6_upMany 34 = .ok (.ireturn, 1) := by decide +kernel
theorem dX6_up_0 : decode cX6_up 0 = .ok (.iload_n 1, 1) := by decide +kernel
theorem dX6_up_1 : decode cX6_up 1 = .ok (.invokestatic 39, 3) := by decide +kernel
theorem dX6_up_4 : decode cX6_up 4 = .ok (.ifCond .eq 7, 3) := by decide +kernel
theorem dX6_up_7 : decode cX6_up 7 = .ok (.iload_n 2, 1) := by decide +kernel
theorem dX6_up_8 : decode cX6_up 8 = .ok (.ifCond .ge 5, 3) := by decide +kernel
theorem dX6_up_11 : decode cX6_up 11 = .ok (.iconst (-1), 1) := by decide +kernel
theorem dX6_up_12 : decode cX6_up 12 = .ok (.ireturn, 1) := by decide +kernel
theorem dX6_up_13 : decode cX6_up 13 = .ok (.iload_n 2, 1) := by decide +kernel
theorem dX6_up_14 : decode cX6_up 14 = .ok (.aload_n 0, 1) := by decide +kernel
theorem dX6_up_15 : decode cX6_up 15 = .ok (.iload_n 1, 1) := by decide +kernel
theorem dX6_up_16 : decode cX6_up 16 = .ok (.invokevirtual 170, 3) := by decide +kernel
theorem dX6_up_19 : decode cX6_up 19 = .ok (.if_icmp .ge 16, 3) := by decide +kernel
theorem dX6_up_22 : decode cX6_up 22 = .ok (.aload_n 0, 1) := by decide +kernel
theorem dX6_up_23 : decode cX6_up 23 = .ok (.getfield 7, 3) := by decide +kernel
theorem dX6_up_26 : decode cX6_up 26 = .ok (.iload_n 1, 1) := by decide +kernel
theorem dX6_up_27 : decode cX6_up 27 = .ok (.iload_n 2, 1) := by decide +kernel
theorem dX6_up_28 : decode cX6_up 28 = .ok (.invokestatic 116, 3) := by decide +kernel
theorem dX6_up_31 : decode cX6_up 31 = .ok (.iaload, 1) := by decide +kernel
theorem dX6_up_32 : decode cX6_up 32 = .ok (.goto 5, 3) := by decide +kernel
theorem dX6_up_35 : decode cX6_up 35 = .ok (.bipush (-4), 2) := by decide +kernel
theorem dX6_up_37 : decode cX6_up 37 = .ok (.ireturn, 1) := by decide +kernel
theorem dX6_upByte_0 : decode cX6_upByte 0 = .ok (.iload_n 1, 1) := by decide +kernel
theorem dX6_upByte_1 : decode cX6_upByte 1 = .ok (.invokestatic 39, 3) := by decide +kernel
theorem dX6_upByte_4 : decode cX6_upByte 4 = .ok (.ifCond .eq 11, 3) := by decide +kernel
theorem dX6_upByte_7 : decode cX6_upByte 7 = .ok (.iload_n 2, 1) := by decide +kernel
theorem dX6_upByte_8 : decode cX6_upByte 8 = .ok (.ifCond .lt 7, 3) := by decide +kernel
theorem dX6_upByte_11 : decode cX6_upByte 11 = .ok (.iload_n 3, 1) := by decide +kernel
theorem dX6_upByte_12 : decode cX6_upByte 12 = .ok (.ifCond .ge 5, 3) := by decide +kernel
theorem dX6_upByte_15 : decode cX6_upByte 15 = .ok (.iconst (-1), 1) := by decide +kernel
theorem dX6_upByte_16 : decode cX6_upByte 16 = .ok (.ireturn, 1) := by decide +kernel
theorem dX6_upByte_17 : decode cX6_upByte 17 = .ok (.iload_n 2, 1) := by decide +kernel
theorem dX6_upByte_18 : decode cX6_upByte 18 = .ok (.aload_n 0, 1) := by decide +kernel
theorem dX6_upByte_19 : decode cX6_upByte 19 = .ok (.iload_n 1, 1) := by decide +kernel
theorem dX6_upByte_20 : decode cX6_upByte 20 = .ok (.invokevirtual 170, 3) := by decide +kernel
theorem dX6_upByte_23 : decode cX6_upByte 23 = .ok (.if_icmp .ge 34, 3) := by decide +kernel
theorem dX6_upByte_26 : decode cX6_upByte 26 = .ok (.iload_n 3, 1) := by decide +kernel
theorem dX6_upByte_27 : decode cX6_upByte 27 = .ok (.aload_n 0, 1) := by decide +kernel
theorem dX6_upByte_28 : decode cX6_upByte 28 = .ok (.getfield 7, 3) := by decide +kernel
theorem dX6_upByte_31 : decode cX6_upByte 31 = .ok (.iload_n 1, 1) := by decide +kernel
theorem dX6_upByte_32 : decode cX6_upByte 32 = .ok (.iload_n 2, 1) := by decide +kernel
theorem dX6_upByte_33 : decode cX6_upByte 33 = .ok (.invokestatic 116, 3) := by decide +kernel
theorem dX6_upByte_36 : decode cX6_upByte 36 = .ok (.iaload, 1) := by decide +kernel
theorem dX6_upByte_37 : decode cX6_upByte 37 = .ok (.if_icmp .ge 20, 3) := by decide +kernel
theorem dX6_upByte_40 : decode cX6_upByte 40 = .ok (.aload_n 0, 1) := by decide +kernel
theorem dX6_upByte_41 : decode cX6_upByte 41 = .ok (.getfield 7, 3) := by decide +kernel
theorem dX6_upByte_44 : decode cX6_upByte 44 = .ok (.iload_n 1, 1) := by decide +kernel
theorem dX6_upByte_45 : decode cX6_upByte 45 = .ok (.iload_n 2, 1) := by decide +kernel
theorem dX6_upByte_46 : decode cX6_upByte 46 = .ok (.invokestatic 116, 3) := by decide +kernel
theorem dX6_upByte_49 : decode cX6_upByte 49 = .ok (.iconst 1, 1) := by decide +kernel
theorem dX6_upByte_50 : decode cX6_upByte 50 = .ok (.iadd, 1) := by decide +kernel
theorem dX6_upByte_51 : decode cX6_upByte 51 = .ok (.iload_n 3, 1) := by decide +kernel
theorem dX6_upByte_52 : decode cX6_upByte 52 = .ok (.iadd, 1) := by decide +kernel
theorem dX6_upByte_53 : decode cX6_upByte 53 = .ok (.iaload, 1) := by decide +kernel
theorem dX6_upByte_54 : decode cX6_upByte 54 = .ok (.goto 5, 3) := by decide +kernel
theorem dX6_upByte_57 : decode cX6_upByte 57 = .ok (.bipush (-4), 2) := by decide +kernel
theorem dX6_upByte_59 : decode cX6_upByte 59 = .ok (.ireturn, 1) := by decide +kernel
theorem dX6_count_0 : decode cX6_count 0 = .ok (.iload_n 1, 1) := by decide +kernel
theorem dX6_count_1 : decode cX6_count 1 = .ok (.i2l, 1) := by decide +kernel
theorem dX6_count_2 : decode cX6_count 2 = .ok (.lconst 0, 1) := by decide +kernel
theorem dX6_count_3 : decode cX6_count 3 = .ok (.ldc2_w 173, 3) := by decide +kernel
theorem dX6_count_6 : decode cX6_count 6 = .ok (.invokestatic 45, 3) := by decide +kernel
theorem dX6_count_9 : decode cX6_count 9 = .ok (.ifCond .ne 5, 3) := by decide +kernel
theorem dX6_count_12 : decode cX6_count 12 = .ok (.iconst (-1), 1) := by decide +kernel
theorem dX6_count_13 : decode cX6_count 13 = .ok (.ireturn, 1) := by decide +kernel
theorem dX6_count_14 : decode cX6_count 14 = .ok (.iload_n 1, 1) := by decide +kernel
theorem dX6_count_15 : decode cX6_count 15 = .ok (.iconst 4, 1) := by decide +kernel
theorem dX6_count_16 : decode cX6_count 16 = .ok (.if_icmp .ge 12, 3) := by decide +kernel
theorem dX6_count_19 : decode cX6_count 19 = .ok (.aload_n 0, 1) := by decide +kernel
theorem dX6_count_20 : decode cX6_count 20 = .ok (.getfield 7, 3) := by decide +kernel
theorem dX6_count_23 : decode cX6_count 23 = .ok (.iconst 3, 1) := by decide +kernel
theorem dX6_count_24 : decode cX6_count 24 = .ok (.iload_n 1, 1) := by decide +kernel
theorem dX6_count_25 : decode cX6_count 25 = .ok (.iadd, 1) := by decide +kernel
theorem dX6_count_26 : decode cX6_count 26 = .ok (.iaload, 1) := by decide +kernel
theorem dX6_count_27 : decode cX6_count 27 = .ok (.ireturn, 1) := by decide +kernel
theorem dX6_count_28 : decode cX6_count 28 = .ok (.iload_n 1, 1) := by decide +kernel
theorem dX6_count_29 : decode cX6_count 29 = .ok (.bipush 9, 2) := by decide +kernel
theorem dX6_count_31 : decode cX6_count 31 = .ok (.if_icmp .ge 15, 3) := by decide +kernel
theorem dX6_count_34 : decode cX6_count 34 = .ok (.aload_n 0, 1) := by decide +kernel
theorem dX6_count_35 : decode cX6_count 35 = .ok (.getfield 7, 3) := by decide +kernel
theorem dX6_count_38 : decode cX6_count 38 = .ok (.bipush 7, 2) := by decide +kernel
theorem dX6_count_40 : decode cX6_count 40 = .ok (.iload_n 1, 1) := by decide +kernel
theorem dX6_count_41 : decode cX6_count 41 = .ok (.iadd, 1) := by decide +kernel
theorem dX6_count_42 : decode cX6_count 42 = .ok (.iconst 4, 1) := by decide +kernel
theorem dX6_count_43 : decode cX6_count 43 = .ok (.isub, 1) := by decide +kernel
theorem dX6_count_44 : decode cX6_count 44 = .ok (.iaload, 1) := by decide +kernel
theorem dX6_count_45 : decode cX6_count 45 = .ok (.ireturn, 1) := by decide +kernel
theorem dX6_count_46 : decode cX6_count 46 = .ok (.iload_n 1, 1) := by decide +kernel
theorem dX6_count_47 : decode cX6_count 47 = .ok (.bipush 17, 2) := by decide +kernel
theorem dX6_count_49 : decode cX6_count 49 = .ok (.if_icmp .ge 18, 3) := by decide +kernel
theorem dX6_count_52 : decode cX6_count 52 = .ok (.aload_n 0, 1) := by decide +kernel
theorem dX6_count_53 : decode cX6_count 53 = .ok (.getfield 7, 3) := by decide +kernel
theorem dX6_count_56 : decode cX6_count 56 = .ok (.bipush 24, 2) := by decide +kernel
theorem dX6_count_58 : decode cX6_count 58 = .ok (.iload_n 1, 1) := by decide +kernel
theorem dX6_count_59 : decode cX6_count 59 = .ok (.iadd, 1) := by decide +kernel
theorem dX6_count_60 : decode cX6_count 60 = .ok (.bipush 9, 2) := by decide +kernel
theorem dX6_count_62 : decode cX6_count 62 = .ok (.isub, 1) := by decide +kernel
theorem dX6_count_63 : decode cX6_count 63 = .ok (.iaload, 1) := by decide +kernel
theorem dX6_count_64 : decode cX6_count 64 = .ok (.goto 15, 3) := by decide +kernel
theorem dX6_count_67 : decode cX6_count 67 = .ok (.aload_n 0, 1) := by decide +kernel
theorem dX6_count_68 : decode cX6_count 68 = .ok (.invokevirtual 160, 3) := by decide +kernel
theorem dX6_count_71 : decode cX6_count 71 = .ok (.ifCond .eq 7, 3) := by decide +kernel
theorem dX6_count_74 : decode cX6_count 74 = .ok (.iconst 1, 1) := by decide +kernel
theorem dX6_count_75 : decode cX6_count 75 = .ok (.goto 4, 3) := by decide +kernel
theorem dX6_count_78 : decode cX6_count 78 = .ok (.iconst 0, 1) := by decide +kernel
theorem dX6_count_79 : decode cX6_count 79 = .ok (.ireturn, 1) := by decide +kernel
theorem dX6_keep_0 : decode cX6_keep 0 = .ok (.iload_n 1, 1) := by decide +kernel
theorem dX6_keep_1 : decode cX6_keep 1 = .ok (.invokestatic 39, 3) := by decide +kernel
theorem dX6_keep_4 : decode cX6_keep 4 = .ok (.ifCond .ne 5, 3) := by decide +kernel
theorem dX6_keep_7 : decode cX6_keep 7 = .ok (.iconst (-1), 1) := by decide +kernel
theorem dX6_keep_8 : decode cX6_keep 8 = .ok (.ireturn, 1) := by decide +kernel
theorem dX6_keep_9 : decode cX6_keep 9 = .ok (.aload_n 0, 1) := by decide +kernel
theorem dX6_keep_10 : decode cX6_keep 10 = .ok (.getfield 16, 3) := by decide +kernel
theorem dX6_keep_13 : decode cX6_keep 13 = .ok (.iload_n 1, 1) := by decide +kernel
theorem dX6_keep_14 : decode cX6_keep 14 = .ok (.baload, 1) := by decide +kernel
theorem dX6_keep_15 : decode cX6_keep 15 = .ok (.ifCond .eq 7, 3) := by decide +kernel
theorem dX6_keep_18 : decode cX6_keep 18 = .ok (.iconst 1, 1) := by decide +kernel
theorem dX6_keep_19 : decode cX6_keep 19 = .ok (.goto 4, 3) := by decide +kernel
theorem dX6_keep_22 : decode cX6_keep 22 = .ok (.iconst 0, 1) := by decide +kernel
theorem dX6_keep_23 : decode cX6_keep 23 = .ok (.istore_n 2, 1) := by decide +kernel
theorem dX6_keep_24 : decode cX6_keep 24 = .ok (.iconst 0, 1) := by decide +kernel
theorem dX6_keep_25 : decode cX6_keep 25 = .ok (.istore_n 3, 1) := by decide +kernel
theorem dX6_keep_26 : decode cX6_keep 26 = .ok (.iload_n 3, 1) := by decide +kernel
theorem dX6_keep_27 : decode cX6_keep 27 = .ok (.sipush 8000, 3) := by decide +kernel
theorem dX6_keep_30 : decode cX6_keep 30 = .ok (.if_icmp .ge 27, 3) := by decide +kernel
theorem dX6_keep_33 : decode cX6_keep 33 = .ok (.aload_n 0, 1) := by decide +kernel
theorem dX6_keep_34 : decode cX6_keep 34 = .ok (.getfield 13, 3) := by decide +kernel
theorem dX6_keep_37 : decode cX6_keep 37 = .ok (.sipush 8000, 3) := by decide +kernel
theorem dX6_keep_40 : decode cX6_keep 40 = .ok (.iload_n 1, 1) := by decide +kernel
theorem dX6_keep_41 : decode cX6_keep 41 = .ok (.imul, 1) := by decide +kernel
theorem dX6_keep_42 : decode cX6_keep 42 = .ok (.iload_n 3, 1) := by decide +kernel
theorem dX6_keep_43 : decode cX6_keep 43 = .ok (.iadd, 1) := by decide +kernel
theorem dX6_keep_44 : decode cX6_keep 44 = .ok (.aload_n 0, 1) := by decide +kernel
theorem dX6_keep_45 : decode cX6_keep 45 = .ok (.getfield 7, 3) := by decide +kernel
theorem dX6_keep_48 : decode cX6_keep 48 = .ok (.iload_n 3, 1) := by decide +kernel
theorem dX6_keep_49 : decode cX6_keep 49 = .ok (.iaload, 1) := by decide +kernel
theorem dX6_keep_50 : decode cX6_keep 50 = .ok (.iastore, 1) := by decide +kernel
theorem dX6_keep_51 : decode cX6_keep 51 = .ok (.iinc 3 1, 3) := by decide +kernel
theorem dX6_keep_54 : decode cX6_keep 54 = .ok (.goto (-28), 3) := by decide +kernel
theorem dX6_keep_57 : decode cX6_keep 57 = .ok (.aload_n 0, 1) := by decide +kernel
theorem dX6_keep_58 : decode cX6_keep 58 = .ok (.getfield 16, 3) := by decide +kernel
theorem dX6_keep_61 : decode cX6_keep 61 = .ok (.iload_n 1, 1) := by decide +kernel
theorem dX6_keep_62 : decode cX6_keep 62 = .ok (.iconst 1, 1) := by decide +kernel
theorem dX6_keep_63 : decode cX6_keep 63 = .ok (.bastore, 1) := by decide +kernel
theorem dX6_keep_64 : decode cX6_keep 64 = .ok (.iload_n 2, 1) := by decide +kernel
theorem dX6_keep_65 : decode cX6_keep 65 = .ok (.ireturn, 1) := by decide +kernel
theorem dX6_again_0 : decode cX6_again 0 = .ok (.iload_n 1, 1) := by decide +kernel
theorem dX6_again_1 : decode cX6_again 1 = .ok (.invokestatic 39, 3) := by decide +kernel
theorem dX6_again_4 : decode cX6_again 4 = .ok (.ifCond .ne 5, 3) := by decide +kernel
theorem dX6_again_7 : decode cX6_again 7 = .ok (.iconst (-1), 1) := by decide +kernel
theorem dX6_again_8 : decode cX6_again 8 = .ok (.ireturn, 1) := by decide +kernel
theorem dX6_again_9 : decode cX6_again 9 = .ok (.aload_n 0, 1) := by decide +kernel
theorem dX6_again_10 : decode cX6_again 10 = .ok (.getfield 16, 3) := by decide +kernel
theorem dX6_again_13 : decode cX6_again 13 = .ok (.iload_n 1, 1) := by decide +kernel
theorem dX6_again_14 : decode cX6_again 14 = .ok (.baload, 1) := by decide +kernel
theorem dX6_again_15 : decode cX6_again 15 = .ok (.ifCond .ne 6, 3) := by decide +kernel
theorem dX6_again_18 : decode cX6_again 18 = .ok (.bipush (-2), 2) := by decide +kernel
theorem dX6_again_20 : decode cX6_again 20 = .ok (.ireturn, 1) := by decide +kernel
theorem dX6_again_21 : decode cX6_again 21 = .ok (.iconst 0, 1) := by decide +kernel
theorem dX6_again_22 : decode cX6_again 22 = .ok (.istore_n 2, 1) := by decide +kernel
theorem dX6_again_23 : decode cX6_again 23 = .ok (.iload_n 2, 1) := by decide +kernel
theorem dX6_again_24 : decode cX6_again 24 = .ok (.sipush 8000, 3) := by decide +kernel
theorem dX6_again_27 : decode cX6_again 27 = .ok (.if_icmp .ge 27, 3) := by decide +kernel
theorem dX6_again_30 : decode cX6_again 30 = .ok (.aload_n 0, 1) := by decide +kernel
theorem dX6_again_31 : decode cX6_again 31 = .ok (.getfield 7, 3) := by decide +kernel
theorem dX6_again_34 : decode cX6_again 34 = .ok (.iload_n 2, 1) := by decide +kernel
theorem dX6_again_35 : decode cX6_again 35 = .ok (.aload_n 0, 1) := by decide +kernel
theorem dX6_again_36 : decode cX6_again 36 = .ok (.getfield 13, 3) := by decide +kernel
theorem dX6_again_39 : decode cX6_again 39 = .ok (.sipush 8000, 3) := by decide +kernel
theorem dX6_again_42 : decode cX6_again 42 = .ok (.iload_n 1, 1) := by decide +kernel
theorem dX6_again_43 : decode cX6_again 43 = .ok (.imul, 1) := by decide +kernel
theorem dX6_again_44 : decode cX6_again 44 = .ok (.iload_n 2, 1) := by decide +kernel
theorem dX6_again_45 : decode cX6_again 45 = .ok (.iadd, 1) := by decide +kernel
theorem dX6_again_46 : decode cX6_again 46 = .ok (.iaload, 1) := by decide +kernel
theorem dX6_again_47 : decode cX6_again 47 = .ok (.iastore, 1) := by decide +kernel
theorem dX6_again_48 : decode cX6_again 48 = .ok (.iinc 2 1, 3) := by decide +kernel
theorem dX6_again_51 : decode cX6_again 51 = .ok (.goto (-28), 3) := by decide +kernel
theorem dX6_again_54 : decode cX6_again 54 = .ok (.aload_n 0, 1) := by decide +kernel
theorem dX6_again_55 : decode cX6_again 55 = .ok (.getfield 7, 3) := by decide +kernel
theorem dX6_again_58 : decode cX6_again 58 = .ok (.iconst 3, 1) := by decide +kernel
theorem dX6_again_59 : decode cX6_again 59 = .ok (.iaload, 1) := by decide +kernel
theorem dX6_again_60 : decode cX6_again 60 = .ok (.ireturn, 1) := by decide +kernel
theorem dJ9_min_7cf53_0 : decode cJ9_min_7cf53 0 = .ok (.iload_n 0, 1) := by decide +kernel
theorem dJ9_min_7cf53_1 : decode cJ9_min_7cf53 1 = .ok (.iload_n 1, 1) := by decide +kernel
theorem dJ9_min_7cf53_2 : decode cJ9_min_7cf53 2 = .ok (.if_icmp .gt 7, 3) := by decide +kernel
theorem dJ9_min_7cf53_5 : decode cJ9_min_7cf53 5 = .ok (.iload_n 0, 1) := by decide +kernel
theorem dJ9_min_7cf53_6 : decode cJ9_min_7cf53 6 = .ok (.goto 4, 3) := by decide +kernel
theorem dJ9_min_7cf53_9 : decode cJ9_min_7cf53 9 = .ok (.iload_n 1, 1) := by decide +kernel
theorem dJ9_min_7cf53_10 : decode cJ9_min_7cf53 10 = .ok (.ireturn, 1) := by decide +kernel
theorem dL_law_0 : decode cL_law 0 = .ok (.new 7, 3) := by decide +kernel
theorem dL_law_3 : decode cL_law 3 = .ok (.dup, 1) := by decide +kernel
theorem dL_law_4 : decode cL_law 4 = .ok (.invokespecial 9, 3) := by decide +kernel
theorem dL_law_7 : decode cL_law 7 = .ok (.astore_n 1, 1) := by decide +kernel
theorem dL_law_8 : decode cL_law 8 = .ok (.new 10, 3) := by decide +kernel
theorem dL_law_11 : decode cL_law 11 = .ok (.dup, 1) := by decide +kernel
theorem dL_law_12 : decode cL_law 12 = .ok (.invokespecial 12, 3) := by decide +kernel
theorem dL_law_15 : decode cL_law 15 = .ok (.astore_n 2, 1) := by decide +kernel
theorem dL_law_16 : decode cL_law 16 = .ok (.iconst 0, 1) := by decide +kernel
theorem dL_law_17 : decode cL_law 17 = .ok (.istore_n 3, 1) := by decide +kernel
theorem dL_law_18 : decode cL_law 18 = .ok (.iload_n 3, 1) := by decide +kernel
theorem dL_law_19 : decode cL_law 19 = .ok (.aload_n 0, 1) := by decide +kernel
theorem dL_law_20 : decode cL_law 20 = .ok (.arraylength, 1) := by decide +kernel
theorem dL_law_21 : decode cL_law 21 = .ok (.iconst 5, 1) := by decide +kernel
theorem dL_law_22 : decode cL_law 22 = .ok (.isub, 1) := by decide +kernel
theorem dL_law_23 : decode cL_law 23 = .ok (.if_icmp .gt 671, 3) := by decide +kernel
theorem dL_law_26 : decode cL_law 26 = .ok (.aload_n 0, 1) := by decide +kernel
theorem dL_law_27 : decode cL_law 27 = .ok (.iload_n 3, 1) := by decide +kernel
theorem dL_law_28 : decode cL_law 28 = .ok (.iaload, 1) := by decide +kernel
theorem dL_law_29 : decode cL_law 29 = .ok (.bipush 31, 2) := by decide +kernel
theorem dL_law_31 : decode cL_law 31 = .ok (.iand, 1) := by decide +kernel
theorem dL_law_32 : decode cL_law 32 = .ok (.tableswitch 656 0 16 #[84, 157, 180, 214, 247, 270, 293, 316, 369, 402, 435, 478, 511, 544, 587, 610, 633], 84) := by decide +kernel
theorem dL_law_116 : decode cL_law 116 = .ok (.aload_n 1, 1) := by decide +kernel
theorem dL_law_117 : decode cL_law 117 = .ok (.aload_n 0, 1) := by decide +kernel
theorem dL_law_118 : decode cL_law 118 = .ok (.iload_n 3, 1) := by decide +kernel
theorem dL_law_119 : decode cL_law 119 = .ok (.iconst 1, 1) := by decide +kernel
theorem dL_law_120 : decode cL_law 120 = .ok (.iadd, 1) := by decide +kernel
theorem dL_law_121 : decode cL_law 121 = .ok (.iaload, 1) := by decide +kernel
theorem dL_law_122 : decode cL_law 122 = .ok (.aload_n 0, 1) := by decide +kernel
theorem dL_law_123 : decode cL_law 123 = .ok (.iload_n 3, 1) := by decide +kernel
theorem dL_law_124 : decode cL_law 124 = .ok (.iconst 2, 1) := by decide +kernel
theorem dL_law_125 : decode cL_law 125 = .ok (.iadd, 1) := by decide +kernel
theorem dL_law_126 : decode cL_law 126 = .ok (.iaload, 1) := by decide +kernel
theorem dL_law_127 : decode cL_law 127 = .ok (.aload_n 0, 1) := by decide +kernel
theorem dL_law_128 : decode cL_law 128 = .ok (.iload_n 3, 1) := by decide +kernel
theorem dL_law_129 : decode cL_law 129 = .ok (.iconst 3, 1) := by decide +kernel
theorem dL_law_130 : decode cL_law 130 = .ok (.iadd, 1) := by decide +kernel
theorem dL_law_131 : decode cL_law 131 = .ok (.iaload, 1) := by decide +kernel
theorem dL_law_132 : decode cL_law 132 = .ok (.i2l, 1) := by decide +kernel
theorem dL_law_133 : decode cL_law 133 = .ok (.bipush 32, 2) := by decide +kernel
theorem dL_law_135 : decode cL_law 135 = .ok (.lshl, 1) := by decide +kernel
theorem dL_law_136 : decode cL_law 136 = .ok (.aload_n 0, 1) := by decide +kernel
theorem dL_law_137 : decode cL_law 137 = .ok (.iload_n 3, 1) := by decide +kernel
theorem dL_law_138 : decode cL_law 138 = .ok (.iconst 4, 1) := by decide +kernel
theorem dL_law_139 : decode cL_law 139 = .ok (.iadd, 1) := by decide +kernel
theorem dL_law_140 : decode cL_law 140 = .ok (.iaload, 1) := by decide +kernel
theorem dL_law_141 : decode cL_law 141 = .ok (.i2l, 1) := by decide +kernel
theorem dL_law_142 : decode cL_law 142 = .ok (.ldc2_w 13, 3) := by decide +kernel
theorem dL_law_145 : decode cL_law 145 = .ok (.land, 1) := by decide +kernel
theorem dL_law_146 : decode cL_law 146 = .ok (.lor, 1) := by decide +kernel
theorem dL_law_147 : decode cL_law 147 = .ok (.invokevirtual 15, 3) := by decide +kernel
theorem dL_law_150 : decode cL_law 150 = .ok (.aload_n 2, 1) := by decide +kernel
theorem dL_law_151 : decode cL_law 151 = .ok (.aload_n 0, 1) := by decide +kernel
theorem dL_law_152 : decode cL_law 152 = .ok (.iload_n 3, 1) := by decide +kernel
theorem dL_law_153 : decode cL_law 153 = .ok (.iconst 1, 1) := by decide +kernel
theorem dL_law_154 : decode cL_law 154 = .ok (.iadd, 1) := by decide +kernel
theorem dL_law_155 : decode cL_law 155 = .ok (.iaload, 1) := by decide +kernel
theorem dL_law_156 : decode cL_law 156 = .ok (.aload_n 0, 1) := by decide +kernel
theorem dL_law_157 : decode cL_law 157 = .ok (.iload_n 3, 1) := by decide +kernel
theorem dL_law_158 : decode cL_law 158 = .ok (.iconst 2, 1) := by decide +kernel
theorem dL_law_159 : decode cL_law 159 = .ok (.iadd, 1) := by decide +kernel
theorem dL_law_160 : decode cL_law 160 = .ok (.iaload, 1) := by decide +kernel
theorem dL_law_161 : decode cL_law 161 = .ok (.aload_n 0, 1) := by decide +kernel
theorem dL_law_162 : decode cL_law 162 = .ok (.iload_n 3, 1) := by decide +kernel
theorem dL_law_163 : decode cL_law 163 = .ok (.iconst 3, 1) := by decide +kernel
theorem dL_law_164 : decode cL_law 164 = .ok (.iadd, 1) := by decide +kernel
theorem dL_law_165 : decode cL_law 165 = .ok (.iaload, 1) := by decide +kernel
theorem dL_law_166 : decode cL_law 166 = .ok (.i2l, 1) := by decide +kernel
theorem dL_law_167 : decode cL_law 167 = .ok (.bipush 32, 2) := by decide +kernel
theorem dL_law_169 : decode cL_law 169 = .ok (.lshl, 1) := by decide +kernel
theorem dL_law_170 : decode cL_law 170 = .ok (.aload_n 0, 1) := by decide +kernel
theorem dL_law_171 : decode cL_law 171 = .ok (.iload_n 3, 1) := by decide +kernel
theorem dL_law_172 : decode cL_law 172 = .ok (.iconst 4, 1) := by decide +kernel
theorem dL_law_173 : decode cL_law 173 = .ok (.iadd, 1) := by decide +kernel
theorem dL_law_174 : decode cL_law 174 = .ok (.iaload, 1) := by decide +kernel
theorem dL_law_175 : decode cL_law 175 = .ok (.i2l, 1) := by decide +kernel
theorem dL_law_176 : decode cL_law 176 = .ok (.ldc2_w 13, 3) := by decide +kernel
theorem dL_law_179 : decode cL_law 179 = .ok (.land, 1) := by decide +kernel
theorem dL_law_180 : decode cL_law 180 = .ok (.lor, 1) := by decide +kernel
theorem dL_law_181 : decode cL_law 181 = .ok (.invokevirtual 19, 3) := by decide +kernel
theorem dL_law_184 : decode cL_law 184 = .ok (.if_icmp .eq 504, 3) := by decide +kernel
theorem dL_law_187 : decode cL_law 187 = .ok (.iconst 0, 1) := by decide +kernel
theorem dL_law_188 : decode cL_law 188 = .ok (.ireturn, 1) := by decide +kernel
theorem dL_law_189 : decode cL_law 189 = .ok (.aload_n 1, 1) := by decide +kernel
theorem dL_law_190 : decode cL_law 190 = .ok (.aload_n 0, 1) := by decide +kernel
theorem dL_law_191 : decode cL_law 191 = .ok (.iload_n 3, 1) := by decide +kernel
theorem dL_law_192 : decode cL_law 192 = .ok (.iconst 1, 1) := by decide +kernel
theorem dL_law_193 : decode cL_law 193 = .ok (.iadd, 1) := by decide +kernel
theorem dL_law_194 : decode cL_law 194 = .ok (.iaload, 1) := by decide +kernel
theorem dL_law_195 : decode cL_law 195 = .ok (.invokevirtual 20, 3) := by decide +kernel
theorem dL_law_198 : decode cL_law 198 = .ok (.aload_n 2, 1) := by decide +kernel
theorem dL_law_199 : decode cL_law 199 = .ok (.aload_n 0, 1) := by decide +kernel
theorem dL_law_200 : decode cL_law 200 = .ok (.iload_n 3, 1) := by decide +kernel
theorem dL_law_201 : decode cL_law 201 = .ok (.iconst 1, 1) := by decide +kernel
theorem dL_law_202 : decode cL_law 202 = .ok (.iadd, 1) := by decide +kernel
theorem dL_law_203 : decode cL_law 203 = .ok (.iaload, 1) := by decide +kernel
theorem dL_law_204 : decode cL_law 204 = .ok (.invokevirtual 24, 3) := by decide +kernel
theorem dL_law_207 : decode cL_law 207 = .ok (.if_icmp .eq 481, 3) := by decide +kernel
theorem dL_law_210 : decode cL_law 210 = .ok (.iconst 0, 1) := by decide +kernel
theorem dL_law_211 : decode cL_law 211 = .ok (.ireturn, 1) := by decide +kernel
theorem dL_law_212 : decode cL_law 212 = .ok (.aload_n 1, 1) := by decide +kernel
theorem dL_law_213 : decode cL_law 213 = .ok (.aload_n 0, 1) := by decide +kernel
theorem dL_law_214 : decode cL_law 214 = .ok (.iload_n 3, 1) := by decide +kernel
theorem dL_law_215 : decode cL_law 215 = .ok (.iconst 1, 1) := by decide +kernel
theorem dL_law_216 : decode cL_law 216 = .ok (.iadd, 1) := by decide +kernel
theorem dL_law_217 : decode cL_law 217 = .ok (.iaload, 1) := by decide +kernel
theorem dL_law_218 : decode cL_law 218 = .ok (.aload_n 0, 1) := by decide +kernel
theorem dL_law_219 : decode cL_law 219 = .ok (.iload_n 3, 1) := by decide +kernel
theorem dL_law_220 : decode cL_law 220 = .ok (.iconst 2, 1) := by decide +kernel
theorem dL_law_221 : decode cL_law 221 = .ok (.iadd, 1) := by decide +kernel
theorem dL_law_222 : decode cL_law 222 = .ok (.iaload, 1) := by decide +kernel
theorem dL_law_223 : decode cL_law 223 = .ok (.invokevirtual 25, 3) := by decide +kernel
theorem dL_law_226 : decode cL_law 226 = .ok (.aload_n 2, 1) := by decide +kernel
theorem dL_law_227 : decode cL_law 227 = .ok (.aload_n 0, 1) := by decide +kernel
theorem dL_law_228 : decode cL_law 228 = .ok (.iload_n 3, 1) := by decide +kernel
theorem dL_law_229 : decode cL_law 229 = .ok (.iconst 1, 1) := by decide +kernel
theorem dL_law_230 : decode cL_law 230 = .ok (.iadd, 1) := by decide +kernel
theorem dL_law_231 : decode cL_law 231 = .ok (.iaload, 1) := by decide +kernel
theorem dL_law_232 : decode cL_law 232 = .ok (.aload_n 0, 1) := by decide +kernel
theorem dL_law_233 : decode cL_law 233 = .ok (.iload_n 3, 1) := by decide +kernel
theorem dL_law_234 : decode cL_law 234 = .ok (.iconst 2, 1) := by decide +kernel
theorem dL_law_235 : decode cL_law 235 = .ok (.iadd, 1) := by decide +kernel
theorem dL_law_236 : decode cL_law 236 = .ok (.iaload, 1) := by decide +kernel
theorem dL_law_237 : decode cL_law 237 = .ok (.invokevirtual 29, 3) := by decide +kernel
theorem dL_law_240 : decode cL_law 240 = .ok (.lcmp, 1) := by decide +kernel
theorem dL_law_241 : decode cL_law 241 = .ok (.ifCond .eq 447, 3) := by decide +kernel
theorem dL_law_244 : decode cL_law 244 = .ok (.iconst 0, 1) := by decide +kernel
theorem dL_law_245 : decode cL_law 245 = .ok (.ireturn, 1) := by decide +kernel
theorem dL_law_246 : decode cL_law 246 = .ok (.aload_n 1, 1) := by decide +kernel
theorem dL_law_247 : decode cL_law 247 = .ok (.aload_n 0, 1) := by decide +kernel
theorem dL_law_248 : decode cL_law 248 = .ok (.iload_n 3, 1) := by decide +kernel
theorem dL_law_249 : decode cL_law 249 = .ok (.iconst 1, 1) := by decide +kernel
theorem dL_law_250 : decode cL_law 250 = .ok (.iadd, 1) := by decide +kernel
theorem dL_law_251 : decode cL_law 251 = .ok (.iaload, 1) := by decide +kernel
theorem dL_law_252 : decode cL_law 252 = .ok (.aload_n 0, 1) := by decide +kernel
theorem dL_law_253 : decode cL_law 253 = .ok (.iload_n 3, 1) := by decide +kernel
theorem dL_law_254 : decode cL_law 254 = .ok (.iconst 2, 1) := by decide +kernel
theorem dL_law_255 : decode cL_law 255 = .ok (.iadd, 1) := by decide +kernel
theorem dL_law_256 : decode cL_law 256 = .ok (.iaload, 1) := by decide +kernel
theorem dL_law_257 : decode cL_law 257 = .ok (.invokevirtual 30, 3) := by decide +kernel
theorem dL_law_260 : decode cL_law 260 = .ok (.aload_n 2, 1) := by decide +kernel
theorem dL_law_261 : decode cL_law 261 = .ok (.aload_n 0, 1) := by decide +kernel
theorem dL_law_262 : decode cL_law 262 = .ok (.iload_n 3, 1) := by decide +kernel
theorem dL_law_263 : decode cL_law 263 = .ok (.iconst 1, 1) := by decide +kernel
theorem dL_law_264 : decode cL_law 264 = .ok (.iadd, 1) := by decide +kernel
theorem dL_law_265 : decode cL_law 265 = .ok (.iaload, 1) := by decide +kernel
theorem dL_law_266 : decode cL_law 266 = .ok (.aload_n 0, 1) := by decide +kernel
theorem dL_law_267 : decode cL_law 267 = .ok (.iload_n 3, 1) := by decide +kernel
theorem dL_law_268 : decode cL_law 268 = .ok (.iconst 2, 1) := by decide +kernel
theorem dL_law_269 : decode cL_law 269 = .ok (.iadd, 1) := by decide +kernel
theorem dL_law_270 : decode cL_law 270 = .ok (.iaload, 1) := by decide +kernel
theorem dL_law_271 : decode cL_law 271 = .ok (.invokevirtual 34, 3) := by decide +kernel
theorem dL_law_274 : decode cL_law 274 = .ok (.if_icmp .eq 414, 3) := by decide +kernel
theorem dL_law_277 : decode cL_law 277 = .ok (.iconst 0, 1) := by decide +kernel
theorem dL_law_278 : decode cL_law 278 = .ok (.ireturn, 1) := by decide +kernel
theorem dL_law_279 : decode cL_law 279 = .ok (.aload_n 1, 1) := by decide +kernel
theorem dL_law_280 : decode cL_law 280 = .ok (.aload_n 0, 1) := by decide +kernel
theorem dL_law_281 : decode cL_law 281 = .ok (.iload_n 3, 1) := by decide +kernel
theorem dL_law_282 : decode cL_law 282 = .ok (.iconst 1, 1) := by decide +kernel
theorem dL_law_283 : decode cL_law 283 = .ok (.iadd, 1) := by decide +kernel
theorem dL_law_284 : decode cL_law 284 = .ok (.iaload, 1) := by decide +kernel
theorem dL_law_285 : decode cL_law 285 = .ok (.invokevirtual 35, 3) := by decide +kernel
theorem dL_law_288 : decode cL_law 288 = .ok (.aload_n 2, 1) := by decide +kernel
theorem dL_law_289 : decode cL_law 289 = .ok (.aload_n 0, 1) := by decide +kernel
theorem dL_law_290 : decode cL_law 290 = .ok (.iload_n 3, 1) := by decide +kernel
theorem dL_law_291 : decode cL_law 291 = .ok (.iconst 1, 1) := by decide +kernel
theorem dL_law_292 : decode cL_law 292 = .ok (.iadd, 1) := by decide +kernel
theorem dL_law_293 : decode cL_law 293 = .ok (.iaload, 1) := by decide +kernel
theorem dL_law_294 : decode cL_law 294 = .ok (.invokevirtual 38, 3) := by decide +kernel
theorem dL_law_297 : decode cL_law 297 = .ok (.if_icmp .eq 391, 3) := by decide +kernel
theorem dL_law_300 : decode cL_law 300 = .ok (.iconst 0, 1) := by decide +kernel
theorem dL_law_301 : decode cL_law 301 = .ok (.ireturn, 1) := by decide +kernel
theorem dL_law_302 : decode cL_law 302 = .ok (.aload_n 1, 1) := by decide +kernel
theorem dL_law_303 : decode cL_law 303 = .ok (.aload_n 0, 1) := by decide +kernel
theorem dL_law_304 : decode cL_law 304 = .ok (.iload_n 3, 1) := by decide +kernel
theorem dL_law_305 : decode cL_law 305 = .ok (.iconst 1, 1) := by decide +kernel
theorem dL_law_306 : decode cL_law 306 = .ok (.iadd, 1) := by decide +kernel
theorem dL_law_307 : decode cL_law 307 = .ok (.iaload, 1) := by decide +kernel
theorem dL_law_308 : decode cL_law 308 = .ok (.invokevirtual 39, 3) := by decide +kernel
theorem dL_law_311 : decode cL_law 311 = .ok (.aload_n 2, 1) := by decide +kernel
theorem dL_law_312 : decode cL_law 312 = .ok (.aload_n 0, 1) := by decide +kernel
theorem dL_law_313 : decode cL_law 313 = .ok (.iload_n 3, 1) := by decide +kernel
theorem dL_law_314 : decode cL_law 314 = .ok (.iconst 1, 1) := by decide +kernel
theorem dL_law_315 : decode cL_law 315 = .ok (.iadd, 1) := by decide +kernel
theorem dL_law_316 : decode cL_law 316 = .ok (.iaload, 1) := by decide +kernel
theorem dL_law_317 : decode cL_law 317 = .ok (.invokevirtual 42, 3) := by decide +kernel
theorem dL_law_320 : decode cL_law 320 = .ok (.if_icmp .eq 368, 3) := by decide +kernel
theorem dL_law_323 : decode cL_law 323 = .ok (.iconst 0, 1) := by decide +kernel
theorem dL_law_324 : decode cL_law 324 = .ok (.ireturn, 1) := by decide +kernel
theorem dL_law_325 : decode cL_law 325 = .ok (.aload_n 1, 1) := by decide +kernel
theorem dL_law_326 : decode cL_law 326 = .ok (.aload_n 0, 1) := by decide +kernel
theorem dL_law_327 : decode cL_law 327 = .ok (.iload_n 3, 1) := by decide +kernel
theorem dL_law_328 : decode cL_law 328 = .ok (.iconst 1, 1) := by decide +kernel
theorem dL_law_329 : decode cL_law 329 = .ok (.iadd, 1) := by decide +kernel
theorem dL_law_330 : decode cL_law 330 = .ok (.iaload, 1) := by decide +kernel
theorem dL_law_331 : decode cL_law 331 = .ok (.invokevirtual 43, 3) := by decide +kernel
theorem dL_law_334 : decode cL_law 334 = .ok (.aload_n 2, 1) := by decide +kernel
theorem dL_law_335 : decode cL_law 335 = .ok (.aload_n 0, 1) := by decide +kernel
theorem dL_law_336 : decode cL_law 336 = .ok (.iload_n 3, 1) := by decide +kernel
theorem dL_law_337 : decode cL_law 337 = .ok (.iconst 1, 1) := by decide +kernel
theorem dL_law_338 : decode cL_law 338 = .ok (.iadd, 1) := by decide +kernel
theorem dL_law_339 : decode cL_law 339 = .ok (.iaload, 1) := by decide +kernel
theorem dL_law_340 : decode cL_law 340 = .ok (.invokevirtual 46, 3) := by decide +kernel
theorem dL_law_343 : decode cL_law 343 = .ok (.if_icmp .eq 345, 3) := by decide +kernel
theorem dL_law_346 : decode cL_law 346 = .ok (.iconst 0, 1) := by decide +kernel
theorem dL_law_347 : decode cL_law 347 = .ok (.ireturn, 1) := by decide +kernel
theorem dL_law_348 : decode cL_law 348 = .ok (.aload_n 1, 1) := by decide +kernel
theorem dL_law_349 : decode cL_law 349 = .ok (.aload_n 0, 1) := by decide +kernel
theorem dL_law_350 : decode cL_law 350 = .ok (.iload_n 3, 1) := by decide +kernel
theorem dL_law_351 : decode cL_law 351 = .ok (.iconst 1, 1) := by decide +kernel
theorem dL_law_352 : decode cL_law 352 = .ok (.iadd, 1) := by decide +kernel
theorem dL_law_353 : decode cL_law 353 = .ok (.iaload, 1) := by decide +kernel
theorem dL_law_354 : decode cL_law 354 = .ok (.aload_n 0, 1) := by decide +kernel
theorem dL_law_355 : decode cL_law 355 = .ok (.iload_n 3, 1) := by decide +kernel
theorem dL_law_356 : decode cL_law 356 = .ok (.iconst 2, 1) := by decide +kernel
theorem dL_law_357 : decode cL_law 357 = .ok (.iadd, 1) := by decide +kernel
theorem dL_law_358 : decode cL_law 358 = .ok (.iaload, 1) := by decide +kernel
theorem dL_law_359 : decode cL_law 359 = .ok (.aload_n 0, 1) := by decide +kernel
theorem dL_law_360 : decode cL_law 360 = .ok (.iload_n 3, 1) := by decide +kernel
theorem dL_law_361 : decode cL_law 361 = .ok (.iconst 3, 1) := by decide +kernel
theorem dL_law_362 : decode cL_law 362 = .ok (.iadd, 1) := by decide +kernel
theorem dL_law_363 : decode cL_law 363 = .ok (.iaload, 1) := by decide +kernel
theorem dL_law_364 : decode cL_law 364 = .ok (.aload_n 0, 1) := by decide +kernel
theorem dL_law_365 : decode cL_law 365 = .ok (.iload_n 3, 1) := by decide +kernel
theorem dL_law_366 : decode cL_law 366 = .ok (.iconst 4, 1) := by decide +kernel
theorem dL_law_367 : decode cL_law 367 = .ok (.iadd, 1) := by decide +kernel
theorem dL_law_368 : decode cL_law 368 = .ok (.iaload, 1) := by decide +kernel
theorem dL_law_369 : decode cL_law 369 = .ok (.invokevirtual 47, 3) := by decide +kernel
theorem dL_law_372 : decode cL_law 372 = .ok (.aload_n 2, 1) := by decide +kernel
theorem dL_law_373 : decode cL_law 373 = .ok (.aload_n 0, 1) := by decide +kernel
theorem dL_law_374 : decode cL_law 374 = .ok (.iload_n 3, 1) := by decide +kernel
theorem dL_law_375 : decode cL_law 375 = .ok (.iconst 1, 1) := by decide +kernel
theorem dL_law_376 : decode cL_law 376 = .ok (.iadd, 1) := by decide +kernel
theorem dL_law_377 : decode cL_law 377 = .ok (.iaload, 1) := by decide +kernel
theorem dL_law_378 : decode cL_law 378 = .ok (.aload_n 0, 1) := by decide +kernel
theorem dL_law_379 : decode cL_law 379 = .ok (.iload_n 3, 1) := by decide +kernel
theorem dL_law_380 : decode cL_law 380 = .ok (.iconst 2, 1) := by decide +kernel
theorem dL_law_381 : decode cL_law 381 = .ok (.iadd, 1) := by decide +kernel
theorem dL_law_382 : decode cL_law 382 = .ok (.iaload, 1) := by decide +kernel
theorem dL_law_383 : decode cL_law 383 = .ok (.aload_n 0, 1) := by decide +kernel
theorem dL_law_384 : decode cL_law 384 = .ok (.iload_n 3, 1) := by decide +kernel
theorem dL_law_385 : decode cL_law 385 = .ok (.iconst 3, 1) := by decide +kernel
theorem dL_law_386 : decode cL_law 386 = .ok (.iadd, 1) := by decide +kernel
theorem dL_law_387 : decode cL_law 387 = .ok (.iaload, 1) := by decide +kernel
theorem dL_law_388 : decode cL_law 388 = .ok (.aload_n 0, 1) := by decide +kernel
theorem dL_law_389 : decode cL_law 389 = .ok (.iload_n 3, 1) := by decide +kernel
theorem dL_law_390 : decode cL_law 390 = .ok (.iconst 4, 1) := by decide +kernel
theorem dL_law_391 : decode cL_law 391 = .ok (.iadd, 1) := by decide +kernel
theorem dL_law_392 : decode cL_law 392 = .ok (.iaload, 1) := by decide +kernel
theorem dL_law_393 : decode cL_law 393 = .ok (.invokevirtual 51, 3) := by decide +kernel
theorem dL_law_396 : decode cL_law 396 = .ok (.if_icmp .eq 292, 3) := by decide +kernel
theorem dL_law_399 : decode cL_law 399 = .ok (.iconst 0, 1) := by decide +kernel
theorem dL_law_400 : decode cL_law 400 = .ok (.ireturn, 1) := by decide +kernel
theorem dL_law_401 : decode cL_law 401 = .ok (.aload_n 1, 1) := by decide +kernel
theorem dL_law_402 : decode cL_law 402 = .ok (.aload_n 0, 1) := by decide +kernel
theorem dL_law_403 : decode cL_law 403 = .ok (.iload_n 3, 1) := by decide +kernel
theorem dL_law_404 : decode cL_law 404 = .ok (.iconst 1, 1) := by decide +kernel
theorem dL_law_405 : decode cL_law 405 = .ok (.iadd, 1) := by decide +kernel
theorem dL_law_406 : decode cL_law 406 = .ok (.iaload, 1) := by decide +kernel
theorem dL_law_407 : decode cL_law 407 = .ok (.aload_n 0, 1) := by decide +kernel
theorem dL_law_408 : decode cL_law 408 = .ok (.iload_n 3, 1) := by decide +kernel
theorem dL_law_409 : decode cL_law 409 = .ok (.iconst 2, 1) := by decide +kernel
theorem dL_law_410 : decode cL_law 410 = .ok (.iadd, 1) := by decide +kernel
theorem dL_law_411 : decode cL_law 411 = .ok (.iaload, 1) := by decide +kernel
theorem dL_law_412 : decode cL_law 412 = .ok (.invokevirtual 52, 3) := by decide +kernel
theorem dL_law_415 : decode cL_law 415 = .ok (.aload_n 2, 1) := by decide +kernel
theorem dL_law_416 : decode cL_law 416 = .ok (.aload_n 0, 1) := by decide +kernel
theorem dL_law_417 : decode cL_law 417 = .ok (.iload_n 3, 1) := by decide +kernel
theorem dL_law_418 : decode cL_law 418 = .ok (.iconst 1, 1) := by decide +kernel
theorem dL_law_419 : decode cL_law 419 = .ok (.iadd, 1) := by decide +kernel
theorem dL_law_420 : decode cL_law 420 = .ok (.iaload, 1) := by decide +kernel
theorem dL_law_421 : decode cL_law 421 = .ok (.aload_n 0, 1) := by decide +kernel
theorem dL_law_422 : decode cL_law 422 = .ok (.iload_n 3, 1) := by decide +kernel
theorem dL_law_423 : decode cL_law 423 = .ok (.iconst 2, 1) := by decide +kernel
theorem dL_law_424 : decode cL_law 424 = .ok (.iadd, 1) := by decide +kernel
theorem dL_law_425 : decode cL_law 425 = .ok (.iaload, 1) := by decide +kernel
theorem dL_law_426 : decode cL_law 426 = .ok (.invokevirtual 55, 3) := by decide +kernel
theorem dL_law_429 : decode cL_law 429 = .ok (.if_icmp .eq 259, 3) := by decide +kernel
theorem dL_law_432 : decode cL_law 432 = .ok (.iconst 0, 1) := by decide +kernel
theorem dL_law_433 : decode cL_law 433 = .ok (.ireturn, 1) := by decide +kernel
theorem dL_law_434 : decode cL_law 434 = .ok (.aload_n 1, 1) := by decide +kernel
theorem dL_law_435 : decode cL_law 435 = .ok (.aload_n 0, 1) := by decide +kernel
theorem dL_law_436 : decode cL_law 436 = .ok (.iload_n 3, 1) := by decide +kernel
theorem dL_law_437 : decode cL_law 437 = .ok (.iconst 1, 1) := by decide +kernel
theorem dL_law_438 : decode cL_law 438 = .ok (.iadd, 1) := by decide +kernel
theorem dL_law_439 : decode cL_law 439 = .ok (.iaload, 1) := by decide +kernel
theorem dL_law_440 : decode cL_law 440 = .ok (.aload_n 0, 1) := by decide +kernel
theorem dL_law_441 : decode cL_law 441 = .ok (.iload_n 3, 1) := by decide +kernel
theorem dL_law_442 : decode cL_law 442 = .ok (.iconst 2, 1) := by decide +kernel
theorem dL_law_443 : decode cL_law 443 = .ok (.iadd, 1) := by decide +kernel
theorem dL_law_444 : decode cL_law 444 = .ok (.iaload, 1) := by decide +kernel
theorem dL_law_445 : decode cL_law 445 = .ok (.invokevirtual 56, 3) := by decide +kernel
theorem dL_law_448 : decode cL_law 448 = .ok (.aload_n 2, 1) := by decide +kernel
theorem dL_law_449 : decode cL_law 449 = .ok (.aload_n 0, 1) := by decide +kernel
theorem dL_law_450 : decode cL_law 450 = .ok (.iload_n 3, 1) := by decide +kernel
theorem dL_law_451 : decode cL_law 451 = .ok (.iconst 1, 1) := by decide +kernel
theorem dL_law_452 : decode cL_law 452 = .ok (.iadd, 1) := by decide +kernel
theorem dL_law_453 : decode cL_law 453 = .ok (.iaload, 1) := by decide +kernel
theorem dL_law_454 : decode cL_law 454 = .ok (.aload_n 0, 1) := by decide +kernel
theorem dL_law_455 : decode cL_law 455 = .ok (.iload_n 3, 1) := by decide +kernel
theorem dL_law_456 : decode cL_law 456 = .ok (.iconst 2, 1) := by decide +kernel
theorem dL_law_457 : decode cL_law 457 = .ok (.iadd, 1) := by decide +kernel
theorem dL_law_458 : decode cL_law 458 = .ok (.iaload, 1) := by decide +kernel
theorem dL_law_459 : decode cL_law 459 = .ok (.invokevirtual 59, 3) := by decide +kernel
theorem dL_law_462 : decode cL_law 462 = .ok (.if_icmp .eq 226, 3) := by decide +kernel
theorem dL_law_465 : decode cL_law 465 = .ok (.iconst 0, 1) := by decide +kernel
theorem dL_law_466 : decode cL_law 466 = .ok (.ireturn, 1) := by decide +kernel
theorem dL_law_467 : decode cL_law 467 = .ok (.aload_n 1, 1) := by decide +kernel
theorem dL_law_468 : decode cL_law 468 = .ok (.aload_n 0, 1) := by decide +kernel
theorem dL_law_469 : decode cL_law 469 = .ok (.iload_n 3, 1) := by decide +kernel
theorem dL_law_470 : decode cL_law 470 = .ok (.iconst 1, 1) := by decide +kernel
theorem dL_law_471 : decode cL_law 471 = .ok (.iadd, 1) := by decide +kernel
theorem dL_law_472 : decode cL_law 472 = .ok (.iaload, 1) := by decide +kernel
theorem dL_law_473 : decode cL_law 473 = .ok (.aload_n 0, 1) := by decide +kernel
theorem dL_law_474 : decode cL_law 474 = .ok (.iload_n 3, 1) := by decide +kernel
theorem dL_law_475 : decode cL_law 475 = .ok (.iconst 2, 1) := by decide +kernel
theorem dL_law_476 : decode cL_law 476 = .ok (.iadd, 1) := by decide +kernel
theorem dL_law_477 : decode cL_law 477 = .ok (.iaload, 1) := by decide +kernel
theorem dL_law_478 : decode cL_law 478 = .ok (.aload_n 0, 1) := by decide +kernel
theorem dL_law_479 : decode cL_law 479 = .ok (.iload_n 3, 1) := by decide +kernel
theorem dL_law_480 : decode cL_law 480 = .ok (.iconst 3, 1) := by decide +kernel
theorem dL_law_481 : decode cL_law 481 = .ok (.iadd, 1) := by decide +kernel
theorem dL_law_482 : decode cL_law 482 = .ok (.iaload, 1) := by decide +kernel
theorem dL_law_483 : decode cL_law 483 = .ok (.invokevirtual 60, 3) := by decide +kernel
theorem dL_law_486 : decode cL_law 486 = .ok (.aload_n 2, 1) := by decide +kernel
theorem dL_law_487 : decode cL_law 487 = .ok (.aload_n 0, 1) := by decide +kernel
theorem dL_law_488 : decode cL_law 488 = .ok (.iload_n 3, 1) := by decide +kernel
theorem dL_law_489 : decode cL_law 489 = .ok (.iconst 1, 1) := by decide +kernel
theorem dL_law_490 : decode cL_law 490 = .ok (.iadd, 1) := by decide +kernel
theorem dL_law_491 : decode cL_law 491 = .ok (.iaload, 1) := by decide +kernel
theorem dL_law_492 : decode cL_law 492 = .ok (.aload_n 0, 1) := by decide +kernel
theorem dL_law_493 : decode cL_law 493 = .ok (.iload_n 3, 1) := by decide +kernel
theorem dL_law_494 : decode cL_law 494 = .ok (.iconst 2, 1) := by decide +kernel
theorem dL_law_495 : decode cL_law 495 = .ok (.iadd, 1) := by decide +kernel
theorem dL_law_496 : decode cL_law 496 = .ok (.iaload, 1) := by decide +kernel
theorem dL_law_497 : decode cL_law 497 = .ok (.aload_n 0, 1) := by decide +kernel
theorem dL_law_498 : decode cL_law 498 = .ok (.iload_n 3, 1) := by decide +kernel
theorem dL_law_499 : decode cL_law 499 = .ok (.iconst 3, 1) := by decide +kernel
theorem dL_law_500 : decode cL_law 500 = .ok (.iadd, 1) := by decide +kernel
theorem dL_law_501 : decode cL_law 501 = .ok (.iaload, 1) := by decide +kernel
theorem dL_law_502 : decode cL_law 502 = .ok (.invokevirtual 64, 3) := by decide +kernel
theorem dL_law_505 : decode cL_law 505 = .ok (.if_icmp .eq 183, 3) := by decide +kernel
theorem dL_law_508 : decode cL_law 508 = .ok (.iconst 0, 1) := by decide +kernel
theorem dL_law_509 : decode cL_law 509 = .ok (.ireturn, 1) := by decide +kernel
theorem dL_law_510 : decode cL_law 510 = .ok (.aload_n 1, 1) := by decide +kernel
theorem dL_law_511 : decode cL_law 511 = .ok (.aload_n 0, 1) := by decide +kernel
theorem dL_law_512 : decode cL_law 512 = .ok (.iload_n 3, 1) := by decide +kernel
theorem dL_law_513 : decode cL_law 513 = .ok (.iconst 1, 1) := by decide +kernel
theorem dL_law_514 : decode cL_law 514 = .ok (.iadd, 1) := by decide +kernel
theorem dL_law_515 : decode cL_law 515 = .ok (.iaload, 1) := by decide +kernel
theorem dL_law_516 : decode cL_law 516 = .ok (.aload_n 0, 1) := by decide +kernel
theorem dL_law_517 : decode cL_law 517 = .ok (.iload_n 3, 1) := by decide +kernel
theorem dL_law_518 : decode cL_law 518 = .ok (.iconst 2, 1) := by decide +kernel
theorem dL_law_519 : decode cL_law 519 = .ok (.iadd, 1) := by decide +kernel
theorem dL_law_520 : decode cL_law 520 = .ok (.iaload, 1) := by decide +kernel
theorem dL_law_521 : decode cL_law 521 = .ok (.invokevirtual 65, 3) := by decide +kernel
theorem dL_law_524 : decode cL_law 524 = .ok (.aload_n 2, 1) := by decide +kernel
theorem dL_law_525 : decode cL_law 525 = .ok (.aload_n 0, 1) := by decide +kernel
theorem dL_law_526 : decode cL_law 526 = .ok (.iload_n 3, 1) := by decide +kernel
theorem dL_law_527 : decode cL_law 527 = .ok (.iconst 1, 1) := by decide +kernel
theorem dL_law_528 : decode cL_law 528 = .ok (.iadd, 1) := by decide +kernel
theorem dL_law_529 : decode cL_law 529 = .ok (.iaload, 1) := by decide +kernel
theorem dL_law_530 : decode cL_law 530 = .ok (.aload_n 0, 1) := by decide +kernel
theorem dL_law_531 : decode cL_law 531 = .ok (.iload_n 3, 1) := by decide +kernel
theorem dL_law_532 : decode cL_law 532 = .ok (.iconst 2, 1) := by decide +kernel
theorem dL_law_533 : decode cL_law 533 = .ok (.iadd, 1) := by decide +kernel
theorem dL_law_534 : decode cL_law 534 = .ok (.iaload, 1) := by decide +kernel
theorem dL_law_535 : decode cL_law 535 = .ok (.invokevirtual 68, 3) := by decide +kernel
theorem dL_law_538 : decode cL_law 538 = .ok (.if_icmp .eq 150, 3) := by decide +kernel
theorem dL_law_541 : decode cL_law 541 = .ok (.iconst 0, 1) := by decide +kernel
theorem dL_law_542 : decode cL_law 542 = .ok (.ireturn, 1) := by decide +kernel
theorem dL_law_543 : decode cL_law 543 = .ok (.aload_n 1, 1) := by decide +kernel
theorem dL_law_544 : decode cL_law 544 = .ok (.aload_n 0, 1) := by decide +kernel
theorem dL_law_545 : decode cL_law 545 = .ok (.iload_n 3, 1) := by decide +kernel
theorem dL_law_546 : decode cL_law 546 = .ok (.iconst 1, 1) := by decide +kernel
theorem dL_law_547 : decode cL_law 547 = .ok (.iadd, 1) := by decide +kernel
theorem dL_law_548 : decode cL_law 548 = .ok (.iaload, 1) := by decide +kernel
theorem dL_law_549 : decode cL_law 549 = .ok (.aload_n 0, 1) := by decide +kernel
theorem dL_law_550 : decode cL_law 550 = .ok (.iload_n 3, 1) := by decide +kernel
theorem dL_law_551 : decode cL_law 551 = .ok (.iconst 2, 1) := by decide +kernel
theorem dL_law_552 : decode cL_law 552 = .ok (.iadd, 1) := by decide +kernel
theorem dL_law_553 : decode cL_law 553 = .ok (.iaload, 1) := by decide +kernel
theorem dL_law_554 : decode cL_law 554 = .ok (.invokevirtual 69, 3) := by decide +kernel
theorem dL_law_557 : decode cL_law 557 = .ok (.aload_n 2, 1) := by decide +kernel
theorem dL_law_558 : decode cL_law 558 = .ok (.aload_n 0, 1) := by decide +kernel
theorem dL_law_559 : decode cL_law 559 = .ok (.iload_n 3, 1) := by decide +kernel
theorem dL_law_560 : decode cL_law 560 = .ok (.iconst 1, 1) := by decide +kernel
theorem dL_law_561 : decode cL_law 561 = .ok (.iadd, 1) := by decide +kernel
theorem dL_law_562 : decode cL_law 562 = .ok (.iaload, 1) := by decide +kernel
theorem dL_law_563 : decode cL_law 563 = .ok (.aload_n 0, 1) := by decide +kernel
theorem dL_law_564 : decode cL_law 564 = .ok (.iload_n 3, 1) := by decide +kernel
theorem dL_law_565 : decode cL_law 565 = .ok (.iconst 2, 1) := by decide +kernel
theorem dL_law_566 : decode cL_law 566 = .ok (.iadd, 1) := by decide +kernel
theorem dL_law_567 : decode cL_law 567 = .ok (.iaload, 1) := by decide +kernel
theorem dL_law_568 : decode cL_law 568 = .ok (.invokevirtual 72, 3) := by decide +kernel
theorem dL_law_571 : decode cL_law 571 = .ok (.if_icmp .eq 117, 3) := by decide +kernel
theorem dL_law_574 : decode cL_law 574 = .ok (.iconst 0, 1) := by decide +kernel
theorem dL_law_575 : decode cL_law 575 = .ok (.ireturn, 1) := by decide +kernel
theorem dL_law_576 : decode cL_law 576 = .ok (.aload_n 1, 1) := by decide +kernel
theorem dL_law_577 : decode cL_law 577 = .ok (.aload_n 0, 1) := by decide +kernel
theorem dL_law_578 : decode cL_law 578 = .ok (.iload_n 3, 1) := by decide +kernel
theorem dL_law_579 : decode cL_law 579 = .ok (.iconst 1, 1) := by decide +kernel
theorem dL_law_580 : decode cL_law 580 = .ok (.iadd, 1) := by decide +kernel
theorem dL_law_581 : decode cL_law 581 = .ok (.iaload, 1) := by decide +kernel
theorem dL_law_582 : decode cL_law 582 = .ok (.aload_n 0, 1) := by decide +kernel
theorem dL_law_583 : decode cL_law 583 = .ok (.iload_n 3, 1) := by decide +kernel
theorem dL_law_584 : decode cL_law 584 = .ok (.iconst 2, 1) := by decide +kernel
theorem dL_law_585 : decode cL_law 585 = .ok (.iadd, 1) := by decide +kernel
theorem dL_law_586 : decode cL_law 586 = .ok (.iaload, 1) := by decide +kernel
theorem dL_law_587 : decode cL_law 587 = .ok (.aload_n 0, 1) := by decide +kernel
theorem dL_law_588 : decode cL_law 588 = .ok (.iload_n 3, 1) := by decide +kernel
theorem dL_law_589 : decode cL_law 589 = .ok (.iconst 3, 1) := by decide +kernel
theorem dL_law_590 : decode cL_law 590 = .ok (.iadd, 1) := by decide +kernel
theorem dL_law_591 : decode cL_law 591 = .ok (.iaload, 1) := by decide +kernel
theorem dL_law_592 : decode cL_law 592 = .ok (.invokevirtual 73, 3) := by decide +kernel
theorem dL_law_595 : decode cL_law 595 = .ok (.aload_n 2, 1) := by decide +kernel
theorem dL_law_596 : decode cL_law 596 = .ok (.aload_n 0, 1) := by decide +kernel
theorem dL_law_597 : decode cL_law 597 = .ok (.iload_n 3, 1) := by decide +kernel
theorem dL_law_598 : decode cL_law 598 = .ok (.iconst 1, 1) := by decide +kernel
theorem dL_law_599 : decode cL_law 599 = .ok (.iadd, 1) := by decide +kernel
theorem dL_law_600 : decode cL_law 600 = .ok (.iaload, 1) := by decide +kernel
theorem dL_law_601 : decode cL_law 601 = .ok (.aload_n 0, 1) := by decide +kernel
theorem dL_law_602 : decode cL_law 602 = .ok (.iload_n 3, 1) := by decide +kernel
theorem dL_law_603 : decode cL_law 603 = .ok (.iconst 2, 1) := by decide +kernel
theorem dL_law_604 : decode cL_law 604 = .ok (.iadd, 1) := by decide +kernel
theorem dL_law_605 : decode cL_law 605 = .ok (.iaload, 1) := by decide +kernel
theorem dL_law_606 : decode cL_law 606 = .ok (.aload_n 0, 1) := by decide +kernel
theorem dL_law_607 : decode cL_law 607 = .ok (.iload_n 3, 1) := by decide +kernel
theorem dL_law_608 : decode cL_law 608 = .ok (.iconst 3, 1) := by decide +kernel
theorem dL_law_609 : decode cL_law 609 = .ok (.iadd, 1) := by decide +kernel
theorem dL_law_610 : decode cL_law 610 = .ok (.iaload, 1) := by decide +kernel
theorem dL_law_611 : decode cL_law 611 = .ok (.invokevirtual 76, 3) := by decide +kernel
theorem dL_law_614 : decode cL_law 614 = .ok (.if_icmp .eq 74, 3) := by decide +kernel
theorem dL_law_617 : decode cL_law 617 = .ok (.iconst 0, 1) := by decide +kernel
theorem dL_law_618 : decode cL_law 618 = .ok (.ireturn, 1) := by decide +kernel
theorem dL_law_619 : decode cL_law 619 = .ok (.aload_n 1, 1) := by decide +kernel
theorem dL_law_620 : decode cL_law 620 = .ok (.aload_n 0, 1) := by decide +kernel
theorem dL_law_621 : decode cL_law 621 = .ok (.iload_n 3, 1) := by decide +kernel
theorem dL_law_622 : decode cL_law 622 = .ok (.iconst 1, 1) := by decide +kernel
theorem dL_law_623 : decode cL_law 623 = .ok (.iadd, 1) := by decide +kernel
theorem dL_law_624 : decode cL_law 624 = .ok (.iaload, 1) := by decide +kernel
theorem dL_law_625 : decode cL_law 625 = .ok (.invokevirtual 77, 3) := by decide +kernel
theorem dL_law_628 : decode cL_law 628 = .ok (.aload_n 2, 1) := by decide +kernel
theorem dL_law_629 : decode cL_law 629 = .ok (.aload_n 0, 1) := by decide +kernel
theorem dL_law_630 : decode cL_law 630 = .ok (.iload_n 3, 1) := by decide +kernel
theorem dL_law_631 : decode cL_law 631 = .ok (.iconst 1, 1) := by decide +kernel
theorem dL_law_632 : decode cL_law 632 = .ok (.iadd, 1) := by decide +kernel
theorem dL_law_633 : decode cL_law 633 = .ok (.iaload, 1) := by decide +kernel
theorem dL_law_634 : decode cL_law 634 = .ok (.invokevirtual 80, 3) := by decide +kernel
theorem dL_law_637 : decode cL_law 637 = .ok (.if_icmp .eq 51, 3) := by decide +kernel
theorem dL_law_640 : decode cL_law 640 = .ok (.iconst 0, 1) := by decide +kernel
theorem dL_law_641 : decode cL_law 641 = .ok (.ireturn, 1) := by decide +kernel
theorem dL_law_642 : decode cL_law 642 = .ok (.aload_n 1, 1) := by decide +kernel
theorem dL_law_643 : decode cL_law 643 = .ok (.aload_n 0, 1) := by decide +kernel
theorem dL_law_644 : decode cL_law 644 = .ok (.iload_n 3, 1) := by decide +kernel
theorem dL_law_645 : decode cL_law 645 = .ok (.iconst 1, 1) := by decide +kernel
theorem dL_law_646 : decode cL_law 646 = .ok (.iadd, 1) := by decide +kernel
theorem dL_law_647 : decode cL_law 647 = .ok (.iaload, 1) := by decide +kernel
theorem dL_law_648 : decode cL_law 648 = .ok (.invokevirtual 81, 3) := by decide +kernel
theorem dL_law_651 : decode cL_law 651 = .ok (.aload_n 2, 1) := by decide +kernel
theorem dL_law_652 : decode cL_law 652 = .ok (.aload_n 0, 1) := by decide +kernel
theorem dL_law_653 : decode cL_law 653 = .ok (.iload_n 3, 1) := by decide +kernel
theorem dL_law_654 : decode cL_law 654 = .ok (.iconst 1, 1) := by decide +kernel
theorem dL_law_655 : decode cL_law 655 = .ok (.iadd, 1) := by decide +kernel
theorem dL_law_656 : decode cL_law 656 = .ok (.iaload, 1) := by decide +kernel
theorem dL_law_657 : decode cL_law 657 = .ok (.invokevirtual 84, 3) := by decide +kernel
theorem dL_law_660 : decode cL_law 660 = .ok (.if_icmp .eq 28, 3) := by decide +kernel
theorem dL_law_663 : decode cL_law 663 = .ok (.iconst 0, 1) := by decide +kernel
theorem dL_law_664 : decode cL_law 664 = .ok (.ireturn, 1) := by decide +kernel
theorem dL_law_665 : decode cL_law 665 = .ok (.aload_n 1, 1) := by decide +kernel
theorem dL_law_666 : decode cL_law 666 = .ok (.aload_n 0, 1) := by decide +kernel
theorem dL_law_667 : decode cL_law 667 = .ok (.iload_n 3, 1) := by decide +kernel
theorem dL_law_668 : decode cL_law 668 = .ok (.iconst 1, 1) := by decide +kernel
theorem dL_law_669 : decode cL_law 669 = .ok (.iadd, 1) := by decide +kernel
theorem dL_law_670 : decode cL_law 670 = .ok (.iaload, 1) := by decide +kernel
theorem dL_law_671 : decode cL_law 671 = .ok (.invokevirtual 85, 3) := by decide +kernel
theorem dL_law_674 : decode cL_law 674 = .ok (.aload_n 2, 1) := by decide +kernel
theorem dL_law_675 : decode cL_law 675 = .ok (.aload_n 0, 1) := by decide +kernel
theorem dL_law_676 : decode cL_law 676 = .ok (.iload_n 3, 1) := by decide +kernel
theorem dL_law_677 : decode cL_law 677 = .ok (.iconst 1, 1) := by decide +kernel
theorem dL_law_678 : decode cL_law 678 = .ok (.iadd, 1) := by decide +kernel
theorem dL_law_679 : decode cL_law 679 = .ok (.iaload, 1) := by decide +kernel
theorem dL_law_680 : decode cL_law 680 = .ok (.invokevirtual 88, 3) := by decide +kernel
theorem dL_law_683 : decode cL_law 683 = .ok (.if_icmp .eq 5, 3) := by decide +kernel
theorem dL_law_686 : decode cL_law 686 = .ok (.iconst 0, 1) := by decide +kernel
theorem dL_law_687 : decode cL_law 687 = .ok (.ireturn, 1) := by decide +kernel
theorem dL_law_688 : decode cL_law 688 = .ok (.iinc 3 5, 3) := by decide +kernel
theorem dL_law_691 : decode cL_law 691 = .ok (.goto (-673), 3) := by decide +kernel
theorem dL_law_694 : decode cL_law 694 = .ok (.iconst 1, 1) := by decide +kernel
theorem dL_law_695 : decode cL_law 695 = .ok (.ireturn, 1) := by decide +kernel
end
section
def lw_g : List Cond := lw_tbl.filter goodWord
theorem tg_of {w : Cond} (h : w ∈ lw_tbl) (hg : goodWord w = true) : w ∈ lw_g := List.mem_filter.mpr ⟨h, hg⟩
theorem tw_good : ∀ w ∈ lw_g, goodWord w = true := fun w h => (List.mem_filter.mp h).2
theorem tw_sub : ∀ w ∈ lw_g, w ∈ lw_tbl := fun w h => (List.mem_filter.mp h).1
theorem tw_0 : (Jvm.Cond.initialized "ReplayLinkLaw") ∈ lw_g := tg_of (List.mem_append_right _ (List.mem_of_getElem? (i := 0) (by decide +kernel))) rfl
theorem tw_1 : (Jvm.Cond.initialized "ReplayLink") ∈ lw_g := tg_of (List.mem_append_right _ (List.mem_of_getElem? (i := 1) (by decide +kernel))) rfl
theorem tw_2 : (Jvm.Cond.initialized "ReplayLink$Link") ∈ lw_g := tg_of (List.mem_append_right _ (List.mem_of_getElem? (i := 2) (by decide +kernel))) rfl
theorem tw_3 : (Jvm.Cond.initialized "ReplayLink$End") ∈ lw_g := tg_of (List.mem_append_right _ (List.mem_of_getElem? (i := 3) (by decide +kernel))) rfl
theorem tw_4 : (Jvm.Cond.initialized "ReplayLink$Packets") ∈ lw_g := tg_of (List.mem_append_right _ (List.mem_of_getElem? (i := 4) (by decide +kernel))) rfl
theorem tw_5 : (Jvm.Cond.initialized "ReplayLink$Wire") ∈ lw_g := tg_of (List.mem_append_right _ (List.mem_of_getElem? (i := 5) (by decide +kernel))) rfl
theorem tw_6 : (Jvm.Cond.initialized "ReplayLink$Frame") ∈ lw_g := tg_of (List.mem_append_right _ (List.mem_of_getElem? (i := 6) (by decide +kernel))) rfl
theorem tw_7 : (Jvm.Cond.initialized "ReplayLinkModel") ∈ lw_g := tg_of (List.mem_append_right _ (List.mem_of_getElem? (i := 7) (by decide +kernel))) rfl
theorem tw_8 : (Jvm.Cond.initialized "java/lang/System") ∈ lw_g := tg_of (List.mem_append_right _ (List.mem_of_getElem? (i := 8) (by decide +kernel))) rfl
theorem tw_9 : (Jvm.Cond.initialized "java/lang/Math") ∈ lw_g := tg_of (List.mem_append_right _ (List.mem_of_getElem? (i := 9) (by decide +kernel))) rfl
theorem tw_10 : (Jvm.Cond.classLink "ReplayLinkLaw" (7 : Nat) "ReplayLink") ∈ lw_g := tg_of (List.mem_append_right _ (List.mem_of_getElem? (i := 10) (by decide +kernel))) rfl
theorem tw_11 : (Jvm.Cond.instantiable "ReplayLink" (2 : Nat)) ∈ lw_g := tg_of (List.mem_append_right _ (List.mem_of_getElem? (i := 11) (by decide +kernel))) rfl
theorem tw_12 : (Jvm.Cond.methodLink "ReplayLinkLaw" (9 : Nat) ({ cls := "ReplayLink", name := "<init>", desc := "()V" } : Jvm.MethodName)) ∈ lw_g := tg_of (List.mem_append_right _ (List.mem_of_getElem? (i := 12) (by decide +kernel))) rfl
theorem tw_13 : (Jvm.Cond.instanceMethod ({ cls := "ReplayLink", name := "<init>", desc := "()V" } : Jvm.MethodName)) ∈ lw_g := tg_of (List.mem_append_right _ (List.mem_of_getElem? (i := 13) (by decide +kernel))) rfl
theorem tw_14 : (Jvm.Cond.code ({ cls := "ReplayLink", name := "<init>", desc := "()V" } : Jvm.MethodName) prog_1_method_1_code (1 : Nat) (Option.none : Option Jvm.ClassFile.FieldType)) ∈ lw_g := tg_of (List.mem_append_right _ (List.mem_of_getElem? (i := 14) (by decide +kernel))) rfl
theorem tw_15 : (Jvm.Cond.methodLink "ReplayLink" (1 : Nat) ({ cls := "java/lang/Object", name := "<init>", desc := "()V" } : Jvm.MethodName)) ∈ lw_g := tg_of (List.mem_append_right _ (List.mem_of_getElem? (i := 15) (by decide +kernel))) rfl
theorem tw_16 : (Jvm.Cond.instanceMethod ({ cls := "java/lang/Object", name := "<init>", desc := "()V" } : Jvm.MethodName)) ∈ lw_g := tg_of (List.mem_append_right _ (List.mem_of_getElem? (i := 16) (by decide +kernel))) rfl
theorem tw_17 : (Jvm.Cond.code ({ cls := "java/lang/Object", name := "<init>", desc := "()V" } : Jvm.MethodName) object_method_1_code (1 : Nat) (Option.none : Option Jvm.ClassFile.FieldType)) ∈ lw_g := tg_of (List.mem_append_right _ (List.mem_of_getElem? (i := 17) (by decide +kernel))) rfl
theorem tw_18 : (Jvm.Cond.classLink "ReplayLink" (7 : Nat) "ReplayLink$Link") ∈ lw_g := tg_of (List.mem_append_right _ (List.mem_of_getElem? (i := 18) (by decide +kernel))) rfl
theorem tw_19 : (Jvm.Cond.instantiable "ReplayLink$Link" (8 : Nat)) ∈ lw_g := tg_of (List.mem_append_right _ (List.mem_of_getElem? (i := 19) (by decide +kernel))) rfl
theorem tw_21 : (Jvm.Cond.instanceMethod ({ cls := "ReplayLink$Link", name := "<init>", desc := "()V" } : Jvm.MethodName)) ∈ lw_g := tg_of (List.mem_append_right _ (List.mem_of_getElem? (i := 21) (by decide +kernel))) rfl
theorem tw_22 : (Jvm.Cond.code ({ cls := "ReplayLink$Link", name := "<init>", desc := "()V" } : Jvm.MethodName) prog_4_method_1_code (1 : Nat) (Option.none : Option Jvm.ClassFile.FieldType)) ∈ lw_g := tg_of (List.mem_append_right _ (List.mem_of_getElem? (i := 22) (by decide +kernel))) rfl
theorem tw_23 : (Jvm.Cond.methodLink "ReplayLink$Link" (3 : Nat) ({ cls := "java/lang/Object", name := "<init>", desc := "()V" } : Jvm.MethodName)) ∈ lw_g := tg_of (List.mem_append_right _ (List.mem_of_getElem? (i := 23) (by decide +kernel))) rfl
theorem tw_24 : (Jvm.Cond.classLink "ReplayLink$Link" (9 : Nat) "ReplayLink$End") ∈ lw_g := tg_of (List.mem_append_right _ (List.mem_of_getElem? (i := 24) (by decide +kernel))) rfl
theorem tw_26 : (Jvm.Cond.instantiable "ReplayLink$End" (16 : Nat)) ∈ lw_g := tg_of (List.mem_append_right _ (List.mem_of_getElem? (i := 26) (by decide +kernel))) rfl
theorem tw_28 : (Jvm.Cond.instanceMethod ({ cls := "ReplayLink$End", name := "<init>", desc := "()V" } : Jvm.MethodName)) ∈ lw_g := tg_of (List.mem_append_right _ (List.mem_of_getElem? (i := 28) (by decide +kernel))) rfl
theorem tw_29 : (Jvm.Cond.code ({ cls := "ReplayLink$End", name := "<init>", desc := "()V" } : Jvm.MethodName) prog_2_method_1_code (1 : Nat) (Option.none : Option Jvm.ClassFile.FieldType)) ∈ lw_g := tg_of (List.mem_append_right _ (List.mem_of_getElem? (i := 29) (by decide +kernel))) rfl
theorem tw_30 : (Jvm.Cond.methodLink "ReplayLink$End" (3 : Nat) ({ cls := "java/lang/Object", name := "<init>", desc := "()V" } : Jvm.MethodName)) ∈ lw_g := tg_of (List.mem_append_right _ (List.mem_of_getElem? (i := 30) (by decide +kernel))) rfl
theorem tw_31 : (Jvm.Cond.classLink "ReplayLink$End" (15 : Nat) "ReplayLink$Packets") ∈ lw_g := tg_of (List.mem_append_right _ (List.mem_of_getElem? (i := 31) (by decide +kernel))) rfl
theorem tw_32 : (Jvm.Cond.instantiable "ReplayLink$Packets" (2 : Nat)) ∈ lw_g := tg_of (List.mem_append_right _ (List.mem_of_getElem? (i := 32) (by decide +kernel))) rfl
theorem tw_33 : (Jvm.Cond.methodLink "ReplayLink$End" (17 : Nat) ({ cls := "ReplayLink$Packets", name := "<init>", desc := "(I)V" } : Jvm.MethodName)) ∈ lw_g := tg_of (List.mem_append_right _ (List.mem_of_getElem? (i := 33) (by decide +kernel))) rfl
theorem tw_34 : (Jvm.Cond.instanceMethod ({ cls := "ReplayLink$Packets", name := "<init>", desc := "(I)V" } : Jvm.MethodName)) ∈ lw_g := tg_of (List.mem_append_right _ (List.mem_of_getElem? (i := 34) (by decide +kernel))) rfl
theorem tw_35 : (Jvm.Cond.code ({ cls := "ReplayLink$Packets", name := "<init>", desc := "(I)V" } : Jvm.MethodName) prog_5_method_1_code (2 : Nat) (Option.none : Option Jvm.ClassFile.FieldType)) ∈ lw_g := tg_of (List.mem_append_right _ (List.mem_of_getElem? (i := 35) (by decide +kernel))) rfl
theorem tw_36 : (Jvm.Cond.methodLink "ReplayLink$Packets" (3 : Nat) ({ cls := "java/lang/Object", name := "<init>", desc := "()V" } : Jvm.MethodName)) ∈ lw_g := tg_of (List.mem_append_right _ (List.mem_of_getElem? (i := 36) (by decide +kernel))) rfl
theorem tw_37 : (Jvm.Cond.fieldLink "ReplayLink$Packets" (9 : Nat) "ReplayLink$Packets" "lengths" "[I") ∈ lw_g := tg_of (List.mem_append_right _ (List.mem_of_getElem? (i := 37) (by decide +kernel))) rfl
theorem tw_38 : (Jvm.Cond.fieldLink "ReplayLink$Frame" (27 : Nat) "ReplayLink$Packets" "lengths" "[I") ∈ lw_g := tg_of (List.mem_append_right _ (List.mem_of_getElem? (i := 38) (by decide +kernel))) rfl
theorem tw_39 : (Jvm.Cond.fieldLink "ReplayLink" (135 : Nat) "ReplayLink$Packets" "lengths" "[I") ∈ lw_g := tg_of (List.mem_append_right _ (List.mem_of_getElem? (i := 39) (by decide +kernel))) rfl
theorem tw_40 : (Jvm.Cond.fieldLink "ReplayLink$Packets" (15 : Nat) "ReplayLink$Packets" "bytes" "[I") ∈ lw_g := tg_of (List.mem_append_right _ (List.mem_of_getElem? (i := 40) (by decide +kernel))) rfl
theorem tw_41 : (Jvm.Cond.fieldLink "ReplayLink$Frame" (32 : Nat) "ReplayLink$Packets" "bytes" "[I") ∈ lw_g := tg_of (List.mem_append_right _ (List.mem_of_getElem? (i := 41) (by decide +kernel))) rfl
theorem tw_42 : (Jvm.Cond.laysFinal "ReplayLink$Packets" "ReplayLink$Packets" "lengths" "[I") ∈ lw_g := tg_of (List.mem_append_right _ (List.mem_of_getElem? (i := 42) (by decide +kernel))) rfl
theorem tw_44 : (Jvm.Cond.laysFinal "ReplayLink$Packets" "ReplayLink$Packets" "bytes" "[I") ∈ lw_g := tg_of (List.mem_append_right _ (List.mem_of_getElem? (i := 44) (by decide +kernel))) rfl
theorem tw_47 : (Jvm.Cond.arrayClass Jvm.ClassFile.FieldType.int) ∈ lw_g := tg_of (List.mem_append_right _ (List.mem_of_getElem? (i := 47) (by decide +kernel))) rfl
theorem tw_48 : (Jvm.Cond.fieldLink "ReplayLink$End" (9 : Nat) "ReplayLink$End" "draft" "[I") ∈ lw_g := tg_of (List.mem_append_right _ (List.mem_of_getElem? (i := 48) (by decide +kernel))) rfl
theorem tw_49 : (Jvm.Cond.fieldLink "ReplayLink" (50 : Nat) "ReplayLink$End" "draft" "[I") ∈ lw_g := tg_of (List.mem_append_right _ (List.mem_of_getElem? (i := 49) (by decide +kernel))) rfl
theorem tw_50 : (Jvm.Cond.fieldLink "ReplayLink" (28 : Nat) "ReplayLink$End" "draftLength" "I") ∈ lw_g := tg_of (List.mem_append_right _ (List.mem_of_getElem? (i := 50) (by decide +kernel))) rfl
theorem tw_51 : (Jvm.Cond.fieldLink "ReplayLink$End" (53 : Nat) "ReplayLink$End" "draftLength" "I") ∈ lw_g := tg_of (List.mem_append_right _ (List.mem_of_getElem? (i := 51) (by decide +kernel))) rfl
theorem tw_52 : (Jvm.Cond.fieldLink "ReplayLink$End" (20 : Nat) "ReplayLink$End" "packets" "LReplayLink$Packets;") ∈ lw_g := tg_of (List.mem_append_right _ (List.mem_of_getElem? (i := 52) (by decide +kernel))) rfl
theorem tw_53 : (Jvm.Cond.fieldLink "ReplayLink$End" (31 : Nat) "ReplayLink$End" "offered" "I") ∈ lw_g := tg_of (List.mem_append_right _ (List.mem_of_getElem? (i := 53) (by decide +kernel))) rfl
theorem tw_54 : (Jvm.Cond.fieldLink "ReplayLink" (42 : Nat) "ReplayLink$End" "offered" "I") ∈ lw_g := tg_of (List.mem_append_right _ (List.mem_of_getElem? (i := 54) (by decide +kernel))) rfl
theorem tw_55 : (Jvm.Cond.fieldLink "ReplayLink$End" (34 : Nat) "ReplayLink$End" "sent" "I") ∈ lw_g := tg_of (List.mem_append_right _ (List.mem_of_getElem? (i := 55) (by decide +kernel))) rfl
theorem tw_56 : (Jvm.Cond.fieldLink "ReplayLink$Link" (159 : Nat) "ReplayLink$End" "sent" "I") ∈ lw_g := tg_of (List.mem_append_right _ (List.mem_of_getElem? (i := 56) (by decide +kernel))) rfl
theorem tw_57 : (Jvm.Cond.fieldLink "ReplayLink$End" (37 : Nat) "ReplayLink$End" "acknowledged" "I") ∈ lw_g := tg_of (List.mem_append_right _ (List.mem_of_getElem? (i := 57) (by decide +kernel))) rfl
theorem tw_58 : (Jvm.Cond.fieldLink "ReplayLink" (78 : Nat) "ReplayLink$End" "voidTold" "Z") ∈ lw_g := tg_of (List.mem_append_right _ (List.mem_of_getElem? (i := 58) (by decide +kernel))) rfl
theorem tw_59 : (Jvm.Cond.fieldLink "ReplayLink$Link" (173 : Nat) "ReplayLink$End" "voidTold" "Z") ∈ lw_g := tg_of (List.mem_append_right _ (List.mem_of_getElem? (i := 59) (by decide +kernel))) rfl
theorem tw_60 : (Jvm.Cond.fieldLink "ReplayLink$End" (122 : Nat) "ReplayLink$End" "voidTold" "Z") ∈ lw_g := tg_of (List.mem_append_right _ (List.mem_of_getElem? (i := 60) (by decide +kernel))) rfl
theorem tw_61 : (Jvm.Cond.fieldLink "ReplayLink$End" (87 : Nat) "ReplayLink$End" "timer" "I") ∈ lw_g := tg_of (List.mem_append_right _ (List.mem_of_getElem? (i := 61) (by decide +kernel))) rfl
theorem tw_62 : (Jvm.Cond.fieldLink "ReplayLink$Link" (139 : Nat) "ReplayLink$End" "timer" "I") ∈ lw_g := tg_of (List.mem_append_right _ (List.mem_of_getElem? (i := 62) (by decide +kernel))) rfl
theorem tw_63 : (Jvm.Cond.fieldLink "ReplayLink$End" (90 : Nat) "ReplayLink$End" "tries" "I") ∈ lw_g := tg_of (List.mem_append_right _ (List.mem_of_getElem? (i := 63) (by decide +kernel))) rfl
theorem tw_64 : (Jvm.Cond.fieldLink "ReplayLink$Link" (142 : Nat) "ReplayLink$End" "tries" "I") ∈ lw_g := tg_of (List.mem_append_right _ (List.mem_of_getElem? (i := 64) (by decide +kernel))) rfl
theorem tw_65 : (Jvm.Cond.fieldLink "ReplayLink$End" (84 : Nat) "ReplayLink$End" "toSendAgain" "I") ∈ lw_g := tg_of (List.mem_append_right _ (List.mem_of_getElem? (i := 65) (by decide +kernel))) rfl
theorem tw_66 : (Jvm.Cond.fieldLink "ReplayLink$Link" (136 : Nat) "ReplayLink$End" "toSendAgain" "I") ∈ lw_g := tg_of (List.mem_append_right _ (List.mem_of_getElem? (i := 66) (by decide +kernel))) rfl
theorem tw_67 : (Jvm.Cond.fieldLink "ReplayLink$End" (66 : Nat) "ReplayLink$End" "wanted" "I") ∈ lw_g := tg_of (List.mem_append_right _ (List.mem_of_getElem? (i := 67) (by decide +kernel))) rfl
theorem tw_68 : (Jvm.Cond.fieldLink "ReplayLink$Link" (107 : Nat) "ReplayLink$End" "wanted" "I") ∈ lw_g := tg_of (List.mem_append_right _ (List.mem_of_getElem? (i := 68) (by decide +kernel))) rfl
theorem tw_69 : (Jvm.Cond.fieldLink "ReplayLink$End" (99 : Nat) "ReplayLink$End" "nakked" "Z") ∈ lw_g := tg_of (List.mem_append_right _ (List.mem_of_getElem? (i := 69) (by decide +kernel))) rfl
theorem tw_70 : (Jvm.Cond.fieldLink "ReplayLink$End" (73 : Nat) "ReplayLink$End" "nakDue" "Z") ∈ lw_g := tg_of (List.mem_append_right _ (List.mem_of_getElem? (i := 70) (by decide +kernel))) rfl
theorem tw_71 : (Jvm.Cond.fieldLink "ReplayLink$Link" (148 : Nat) "ReplayLink$End" "nakDue" "Z") ∈ lw_g := tg_of (List.mem_append_right _ (List.mem_of_getElem? (i := 71) (by decide +kernel))) rfl
theorem tw_72 : (Jvm.Cond.fieldLink "ReplayLink$End" (24 : Nat) "ReplayLink$End" "ackDueIn" "I") ∈ lw_g := tg_of (List.mem_append_right _ (List.mem_of_getElem? (i := 72) (by decide +kernel))) rfl
theorem tw_73 : (Jvm.Cond.fieldLink "ReplayLink$Link" (133 : Nat) "ReplayLink$End" "ackDueIn" "I") ∈ lw_g := tg_of (List.mem_append_right _ (List.mem_of_getElem? (i := 73) (by decide +kernel))) rfl
theorem tw_74 : (Jvm.Cond.fieldLink "ReplayLink$End" (28 : Nat) "ReplayLink$End" "upPackets" "LReplayLink$Packets;") ∈ lw_g := tg_of (List.mem_append_right _ (List.mem_of_getElem? (i := 74) (by decide +kernel))) rfl
theorem tw_75 : (Jvm.Cond.fieldLink "ReplayLink" (131 : Nat) "ReplayLink$End" "upPackets" "LReplayLink$Packets;") ∈ lw_g := tg_of (List.mem_append_right _ (List.mem_of_getElem? (i := 75) (by decide +kernel))) rfl
theorem tw_76 : (Jvm.Cond.fieldLink "ReplayLink$End" (44 : Nat) "ReplayLink$End" "handedUp" "I") ∈ lw_g := tg_of (List.mem_append_right _ (List.mem_of_getElem? (i := 76) (by decide +kernel))) rfl
theorem tw_77 : (Jvm.Cond.laysFinal "ReplayLink$End" "ReplayLink$End" "draft" "[I") ∈ lw_g := tg_of (List.mem_append_right _ (List.mem_of_getElem? (i := 77) (by decide +kernel))) rfl
theorem tw_79 : (Jvm.Cond.lays "ReplayLink$End" "ReplayLink$End" "draftLength" "I") ∈ lw_g := tg_of (List.mem_append_right _ (List.mem_of_getElem? (i := 79) (by decide +kernel))) rfl
theorem tw_81 : (Jvm.Cond.laysFinal "ReplayLink$End" "ReplayLink$End" "packets" "LReplayLink$Packets;") ∈ lw_g := tg_of (List.mem_append_right _ (List.mem_of_getElem? (i := 81) (by decide +kernel))) rfl
theorem tw_83 : (Jvm.Cond.lays "ReplayLink$End" "ReplayLink$End" "offered" "I") ∈ lw_g := tg_of (List.mem_append_right _ (List.mem_of_getElem? (i := 83) (by decide +kernel))) rfl
theorem tw_85 : (Jvm.Cond.lays "ReplayLink$End" "ReplayLink$End" "sent" "I") ∈ lw_g := tg_of (List.mem_append_right _ (List.mem_of_getElem? (i := 85) (by decide +kernel))) rfl
theorem tw_87 : (Jvm.Cond.lays "ReplayLink$End" "ReplayLink$End" "acknowledged" "I") ∈ lw_g := tg_of (List.mem_append_right _ (List.mem_of_getElem? (i := 87) (by decide +kernel))) rfl
theorem tw_89 : (Jvm.Cond.lays "ReplayLink$End" "ReplayLink$End" "voidTold" "Z") ∈ lw_g := tg_of (List.mem_append_right _ (List.mem_of_getElem? (i := 89) (by decide +kernel))) rfl
theorem tw_91 : (Jvm.Cond.lays "ReplayLink$End" "ReplayLink$End" "timer" "I") ∈ lw_g := tg_of (List.mem_append_right _ (List.mem_of_getElem? (i := 91) (by decide +kernel))) rfl
theorem tw_93 : (Jvm.Cond.lays "ReplayLink$End" "ReplayLink$End" "tries" "I") ∈ lw_g := tg_of (List.mem_append_right _ (List.mem_of_getElem? (i := 93) (by decide +kernel))) rfl
theorem tw_95 : (Jvm.Cond.lays "ReplayLink$End" "ReplayLink$End" "toSendAgain" "I") ∈ lw_g := tg_of (List.mem_append_right _ (List.mem_of_getElem? (i := 95) (by decide +kernel))) rfl
theorem tw_97 : (Jvm.Cond.lays "ReplayLink$End" "ReplayLink$End" "wanted" "I") ∈ lw_g := tg_of (List.mem_append_right _ (List.mem_of_getElem? (i := 97) (by decide +kernel))) rfl
theorem tw_99 : (Jvm.Cond.lays "ReplayLink$End" "ReplayLink$End" "nakked" "Z") ∈ lw_g := tg_of (List.mem_append_right _ (List.mem_of_getElem? (i := 99) (by decide +kernel))) rfl
theorem tw_101 : (Jvm.Cond.lays "ReplayLink$End" "ReplayLink$End" "nakDue" "Z") ∈ lw_g := tg_of (List.mem_append_right _ (List.mem_of_getElem? (i := 101) (by decide +kernel))) rfl
theorem tw_103 : (Jvm.Cond.lays "ReplayLink$End" "ReplayLink$End" "ackDueIn" "I") ∈ lw_g := tg_of (List.mem_append_right _ (List.mem_of_getElem? (i := 103) (by decide +kernel))) rfl
theorem tw_105 : (Jvm.Cond.laysFinal "ReplayLink$End" "ReplayLink$End" "upPackets" "LReplayLink$Packets;") ∈ lw_g := tg_of (List.mem_append_right _ (List.mem_of_getElem? (i := 105) (by decide +kernel))) rfl
theorem tw_107 : (Jvm.Cond.lays "ReplayLink$End" "ReplayLink$End" "handedUp" "I") ∈ lw_g := tg_of (List.mem_append_right _ (List.mem_of_getElem? (i := 107) (by decide +kernel))) rfl
theorem tw_110 : (Jvm.Cond.classLink "ReplayLink$Link" (18 : Nat) "ReplayLink$Wire") ∈ lw_g := tg_of (List.mem_append_right _ (List.mem_of_getElem? (i := 110) (by decide +kernel))) rfl
theorem tw_112 : (Jvm.Cond.instantiable "ReplayLink$Wire" (2 : Nat)) ∈ lw_g := tg_of (List.mem_append_right _ (List.mem_of_getElem? (i := 112) (by decide +kernel))) rfl
theorem tw_113 : (Jvm.Cond.methodLink "ReplayLink$Link" (20 : Nat) ({ cls := "ReplayLink$Wire", name := "<init>", desc := "()V" } : Jvm.MethodName)) ∈ lw_g := tg_of (List.mem_append_right _ (List.mem_of_getElem? (i := 113) (by decide +kernel))) rfl
theorem tw_114 : (Jvm.Cond.instanceMethod ({ cls := "ReplayLink$Wire", name := "<init>", desc := "()V" } : Jvm.MethodName)) ∈ lw_g := tg_of (List.mem_append_right _ (List.mem_of_getElem? (i := 114) (by decide +kernel))) rfl
theorem tw_115 : (Jvm.Cond.code ({ cls := "ReplayLink$Wire", name := "<init>", desc := "()V" } : Jvm.MethodName) prog_6_method_1_code (2 : Nat) (Option.none : Option Jvm.ClassFile.FieldType)) ∈ lw_g := tg_of (List.mem_append_right _ (List.mem_of_getElem? (i := 115) (by decide +kernel))) rfl
theorem tw_116 : (Jvm.Cond.methodLink "ReplayLink$Wire" (3 : Nat) ({ cls := "java/lang/Object", name := "<init>", desc := "()V" } : Jvm.MethodName)) ∈ lw_g := tg_of (List.mem_append_right _ (List.mem_of_getElem? (i := 116) (by decide +kernel))) rfl
theorem tw_117 : (Jvm.Cond.classLink "ReplayLink$Wire" (9 : Nat) "ReplayLink$Frame") ∈ lw_g := tg_of (List.mem_append_right _ (List.mem_of_getElem? (i := 117) (by decide +kernel))) rfl
theorem tw_119 : (Jvm.Cond.instantiable "ReplayLink$Frame" (3 : Nat)) ∈ lw_g := tg_of (List.mem_append_right _ (List.mem_of_getElem? (i := 119) (by decide +kernel))) rfl
theorem tw_121 : (Jvm.Cond.instanceMethod ({ cls := "ReplayLink$Frame", name := "<init>", desc := "()V" } : Jvm.MethodName)) ∈ lw_g := tg_of (List.mem_append_right _ (List.mem_of_getElem? (i := 121) (by decide +kernel))) rfl
theorem tw_122 : (Jvm.Cond.code ({ cls := "ReplayLink$Frame", name := "<init>", desc := "()V" } : Jvm.MethodName) prog_3_method_1_code (1 : Nat) (Option.none : Option Jvm.ClassFile.FieldType)) ∈ lw_g := tg_of (List.mem_append_right _ (List.mem_of_getElem? (i := 122) (by decide +kernel))) rfl
theorem tw_123 : (Jvm.Cond.methodLink "ReplayLink$Frame" (3 : Nat) ({ cls := "java/lang/Object", name := "<init>", desc := "()V" } : Jvm.MethodName)) ∈ lw_g := tg_of (List.mem_append_right _ (List.mem_of_getElem? (i := 123) (by decide +kernel))) rfl
theorem tw_124 : (Jvm.Cond.fieldLink "ReplayLink$Frame" (9 : Nat) "ReplayLink$Frame" "bytes" "[I") ∈ lw_g := tg_of (List.mem_append_right _ (List.mem_of_getElem? (i := 124) (by decide +kernel))) rfl
theorem tw_125 : (Jvm.Cond.fieldLink "ReplayLink" (105 : Nat) "ReplayLink$Frame" "bytes" "[I") ∈ lw_g := tg_of (List.mem_append_right _ (List.mem_of_getElem? (i := 125) (by decide +kernel))) rfl
theorem tw_126 : (Jvm.Cond.fieldLink "ReplayLink$End" (93 : Nat) "ReplayLink$Frame" "bytes" "[I") ∈ lw_g := tg_of (List.mem_append_right _ (List.mem_of_getElem? (i := 126) (by decide +kernel))) rfl
theorem tw_127 : (Jvm.Cond.fieldLink "ReplayLink$Frame" (23 : Nat) "ReplayLink$Frame" "length" "I") ∈ lw_g := tg_of (List.mem_append_right _ (List.mem_of_getElem? (i := 127) (by decide +kernel))) rfl
theorem tw_128 : (Jvm.Cond.fieldLink "ReplayLink" (100 : Nat) "ReplayLink$Frame" "length" "I") ∈ lw_g := tg_of (List.mem_append_right _ (List.mem_of_getElem? (i := 128) (by decide +kernel))) rfl
theorem tw_129 : (Jvm.Cond.fieldLink "ReplayLink$Wire" (26 : Nat) "ReplayLink$Frame" "comesAt" "I") ∈ lw_g := tg_of (List.mem_append_right _ (List.mem_of_getElem? (i := 129) (by decide +kernel))) rfl
theorem tw_130 : (Jvm.Cond.fieldLink "ReplayLink$Frame" (50 : Nat) "ReplayLink$Frame" "comesAt" "I") ∈ lw_g := tg_of (List.mem_append_right _ (List.mem_of_getElem? (i := 130) (by decide +kernel))) rfl
theorem tw_131 : (Jvm.Cond.fieldLink "ReplayLink" (119 : Nat) "ReplayLink$Frame" "comesAt" "I") ∈ lw_g := tg_of (List.mem_append_right _ (List.mem_of_getElem? (i := 131) (by decide +kernel))) rfl
theorem tw_132 : (Jvm.Cond.laysFinal "ReplayLink$Frame" "ReplayLink$Frame" "bytes" "[I") ∈ lw_g := tg_of (List.mem_append_right _ (List.mem_of_getElem? (i := 132) (by decide +kernel))) rfl
theorem tw_134 : (Jvm.Cond.lays "ReplayLink$Frame" "ReplayLink$Frame" "length" "I") ∈ lw_g := tg_of (List.mem_append_right _ (List.mem_of_getElem? (i := 134) (by decide +kernel))) rfl
theorem tw_136 : (Jvm.Cond.lays "ReplayLink$Frame" "ReplayLink$Frame" "comesAt" "I") ∈ lw_g := tg_of (List.mem_append_right _ (List.mem_of_getElem? (i := 136) (by decide +kernel))) rfl
theorem tw_139 : (Jvm.Cond.fieldLink "ReplayLink$Wire" (11 : Nat) "ReplayLink$Wire" "frames" "[LReplayLink$Frame;") ∈ lw_g := tg_of (List.mem_append_right _ (List.mem_of_getElem? (i := 139) (by decide +kernel))) rfl
theorem tw_140 : (Jvm.Cond.fieldLink "ReplayLink" (94 : Nat) "ReplayLink$Wire" "frames" "[LReplayLink$Frame;") ∈ lw_g := tg_of (List.mem_append_right _ (List.mem_of_getElem? (i := 140) (by decide +kernel))) rfl
theorem tw_141 : (Jvm.Cond.fieldLink "ReplayLink$Wire" (18 : Nat) "ReplayLink$Wire" "load" "I") ∈ lw_g := tg_of (List.mem_append_right _ (List.mem_of_getElem? (i := 141) (by decide +kernel))) rfl
theorem tw_142 : (Jvm.Cond.fieldLink "ReplayLink$Link" (57 : Nat) "ReplayLink$Wire" "load" "I") ∈ lw_g := tg_of (List.mem_append_right _ (List.mem_of_getElem? (i := 142) (by decide +kernel))) rfl
theorem tw_143 : (Jvm.Cond.fieldLink "ReplayLink" (112 : Nat) "ReplayLink$Wire" "load" "I") ∈ lw_g := tg_of (List.mem_append_right _ (List.mem_of_getElem? (i := 143) (by decide +kernel))) rfl
theorem tw_144 : (Jvm.Cond.laysFinal "ReplayLink$Wire" "ReplayLink$Wire" "frames" "[LReplayLink$Frame;") ∈ lw_g := tg_of (List.mem_append_right _ (List.mem_of_getElem? (i := 144) (by decide +kernel))) rfl
theorem tw_146 : (Jvm.Cond.lays "ReplayLink$Wire" "ReplayLink$Wire" "load" "I") ∈ lw_g := tg_of (List.mem_append_right _ (List.mem_of_getElem? (i := 146) (by decide +kernel))) rfl
theorem tw_149 : (Jvm.Cond.fieldLink "ReplayLink$Link" (12 : Nat) "ReplayLink$Link" "ends" "[LReplayLink$End;") ∈ lw_g := tg_of (List.mem_append_right _ (List.mem_of_getElem? (i := 149) (by decide +kernel))) rfl
theorem tw_150 : (Jvm.Cond.fieldLink "ReplayLink" (24 : Nat) "ReplayLink$Link" "ends" "[LReplayLink$End;") ∈ lw_g := tg_of (List.mem_append_right _ (List.mem_of_getElem? (i := 150) (by decide +kernel))) rfl
theorem tw_151 : (Jvm.Cond.fieldLink "ReplayLink$Link" (21 : Nat) "ReplayLink$Link" "wires" "[LReplayLink$Wire;") ∈ lw_g := tg_of (List.mem_append_right _ (List.mem_of_getElem? (i := 151) (by decide +kernel))) rfl
theorem tw_152 : (Jvm.Cond.fieldLink "ReplayLink" (90 : Nat) "ReplayLink$Link" "wires" "[LReplayLink$Wire;") ∈ lw_g := tg_of (List.mem_append_right _ (List.mem_of_getElem? (i := 152) (by decide +kernel))) rfl
theorem tw_153 : (Jvm.Cond.fieldLink "ReplayLink$Link" (25 : Nat) "ReplayLink$Link" "tallies" "[I") ∈ lw_g := tg_of (List.mem_append_right _ (List.mem_of_getElem? (i := 153) (by decide +kernel))) rfl
theorem tw_154 : (Jvm.Cond.fieldLink "ReplayLink" (147 : Nat) "ReplayLink$Link" "tallies" "[I") ∈ lw_g := tg_of (List.mem_append_right _ (List.mem_of_getElem? (i := 154) (by decide +kernel))) rfl
theorem tw_155 : (Jvm.Cond.fieldLink "ReplayLink$Link" (39 : Nat) "ReplayLink$Link" "ticks" "I") ∈ lw_g := tg_of (List.mem_append_right _ (List.mem_of_getElem? (i := 155) (by decide +kernel))) rfl
theorem tw_156 : (Jvm.Cond.fieldLink "ReplayLink" (68 : Nat) "ReplayLink$Link" "ticks" "I") ∈ lw_g := tg_of (List.mem_append_right _ (List.mem_of_getElem? (i := 156) (by decide +kernel))) rfl
theorem tw_157 : (Jvm.Cond.fieldLink "ReplayLink$Link" (42 : Nat) "ReplayLink$Link" "trainingLeft" "I") ∈ lw_g := tg_of (List.mem_append_right _ (List.mem_of_getElem? (i := 157) (by decide +kernel))) rfl
theorem tw_158 : (Jvm.Cond.fieldLink "ReplayLink" (144 : Nat) "ReplayLink$Link" "trainingLeft" "I") ∈ lw_g := tg_of (List.mem_append_right _ (List.mem_of_getElem? (i := 158) (by decide +kernel))) rfl
theorem tw_159 : (Jvm.Cond.fieldLink "ReplayLink$Link" (29 : Nat) "ReplayLink$Link" "delay" "I") ∈ lw_g := tg_of (List.mem_append_right _ (List.mem_of_getElem? (i := 159) (by decide +kernel))) rfl
theorem tw_160 : (Jvm.Cond.fieldLink "ReplayLink$Link" (33 : Nat) "ReplayLink$Link" "patience" "I") ∈ lw_g := tg_of (List.mem_append_right _ (List.mem_of_getElem? (i := 160) (by decide +kernel))) rfl
theorem tw_161 : (Jvm.Cond.fieldLink "ReplayLink$Link" (36 : Nat) "ReplayLink$Link" "ackDelay" "I") ∈ lw_g := tg_of (List.mem_append_right _ (List.mem_of_getElem? (i := 161) (by decide +kernel))) rfl
theorem tw_162 : (Jvm.Cond.laysFinal "ReplayLink$Link" "ReplayLink$Link" "ends" "[LReplayLink$End;") ∈ lw_g := tg_of (List.mem_append_right _ (List.mem_of_getElem? (i := 162) (by decide +kernel))) rfl
theorem tw_164 : (Jvm.Cond.laysFinal "ReplayLink$Link" "ReplayLink$Link" "wires" "[LReplayLink$Wire;") ∈ lw_g := tg_of (List.mem_append_right _ (List.mem_of_getElem? (i := 164) (by decide +kernel))) rfl
theorem tw_166 : (Jvm.Cond.laysFinal "ReplayLink$Link" "ReplayLink$Link" "tallies" "[I") ∈ lw_g := tg_of (List.mem_append_right _ (List.mem_of_getElem? (i := 166) (by decide +kernel))) rfl
theorem tw_168 : (Jvm.Cond.lays "ReplayLink$Link" "ReplayLink$Link" "ticks" "I") ∈ lw_g := tg_of (List.mem_append_right _ (List.mem_of_getElem? (i := 168) (by decide +kernel))) rfl
theorem tw_170 : (Jvm.Cond.lays "ReplayLink$Link" "ReplayLink$Link" "trainingLeft" "I") ∈ lw_g := tg_of (List.mem_append_right _ (List.mem_of_getElem? (i := 170) (by decide +kernel))) rfl
theorem tw_172 : (Jvm.Cond.lays "ReplayLink$Link" "ReplayLink$Link" "delay" "I") ∈ lw_g := tg_of (List.mem_append_right _ (List.mem_of_getElem? (i := 172) (by decide +kernel))) rfl
theorem tw_174 : (Jvm.Cond.lays "ReplayLink$Link" "ReplayLink$Link" "patience" "I") ∈ lw_g := tg_of (List.mem_append_right _ (List.mem_of_getElem? (i := 174) (by decide +kernel))) rfl
theorem tw_176 : (Jvm.Cond.lays "ReplayLink$Link" "ReplayLink$Link" "ackDelay" "I") ∈ lw_g := tg_of (List.mem_append_right _ (List.mem_of_getElem? (i := 176) (by decide +kernel))) rfl
theorem tw_180 : (Jvm.Cond.fieldLink "ReplayLink" (10 : Nat) "ReplayLink" "link" "LReplayLink$Link;") ∈ lw_g := tg_of (List.mem_append_right _ (List.mem_of_getElem? (i := 180) (by decide +kernel))) rfl
theorem tw_181 : (Jvm.Cond.fieldLink "ReplayLink" (16 : Nat) "ReplayLink" "kept" "[LReplayLink$Link;") ∈ lw_g := tg_of (List.mem_append_right _ (List.mem_of_getElem? (i := 181) (by decide +kernel))) rfl
theorem tw_182 : (Jvm.Cond.laysFinal "ReplayLink" "ReplayLink" "link" "LReplayLink$Link;") ∈ lw_g := tg_of (List.mem_append_right _ (List.mem_of_getElem? (i := 182) (by decide +kernel))) rfl
theorem tw_184 : (Jvm.Cond.laysFinal "ReplayLink" "ReplayLink" "kept" "[LReplayLink$Link;") ∈ lw_g := tg_of (List.mem_append_right _ (List.mem_of_getElem? (i := 184) (by decide +kernel))) rfl
theorem tw_187 : (Jvm.Cond.methodLink "ReplayLinkLaw" (15 : Nat) ({ cls := "ReplayLink", name := "draft", desc := "(IIJ)I" } : Jvm.MethodName)) ∈ lw_g := tg_of (List.mem_append_right _ (List.mem_of_getElem? (i := 187) (by decide +kernel))) rfl
theorem tw_188 : (Jvm.Cond.instanceMethod ({ cls := "ReplayLink", name := "draft", desc := "(IIJ)I" } : Jvm.MethodName)) ∈ lw_g := tg_of (List.mem_append_right _ (List.mem_of_getElem? (i := 188) (by decide +kernel))) rfl
theorem tw_189 : (Jvm.Cond.selects "ReplayLink" ({ cls := "ReplayLink", name := "draft", desc := "(IIJ)I" } : Jvm.MethodName) ({ cls := "ReplayLink", name := "draft", desc := "(IIJ)I" } : Jvm.MethodName)) ∈ lw_g := tg_of (List.mem_append_right _ (List.mem_of_getElem? (i := 189) (by decide +kernel))) rfl
theorem tw_190 : (Jvm.Cond.code ({ cls := "ReplayLink", name := "draft", desc := "(IIJ)I" } : Jvm.MethodName) prog_1_method_2_code (6 : Nat) (Option.some Jvm.ClassFile.FieldType.int)) ∈ lw_g := tg_of (List.mem_append_right _ (List.mem_of_getElem? (i := 190) (by decide +kernel))) rfl
theorem tw_191 : (Jvm.Cond.methodLink "ReplayLink" (20 : Nat) ({ cls := "ReplayLink", name := "isNoSide", desc := "(I)Z" } : Jvm.MethodName)) ∈ lw_g := tg_of (List.mem_append_right _ (List.mem_of_getElem? (i := 191) (by decide +kernel))) rfl
theorem tw_192 : (Jvm.Cond.static ({ cls := "ReplayLink", name := "isNoSide", desc := "(I)Z" } : Jvm.MethodName)) ∈ lw_g := tg_of (List.mem_append_right _ (List.mem_of_getElem? (i := 192) (by decide +kernel))) rfl
theorem tw_193 : (Jvm.Cond.code ({ cls := "ReplayLink", name := "isNoSide", desc := "(I)Z" } : Jvm.MethodName) prog_1_method_21_code (1 : Nat) (Option.some Jvm.ClassFile.FieldType.boolean)) ∈ lw_g := tg_of (List.mem_append_right _ (List.mem_of_getElem? (i := 193) (by decide +kernel))) rfl
theorem tw_194 : (Jvm.Cond.methodLink "ReplayLink" (34 : Nat) ({ cls := "ReplayLink$End", name := "addToDraft", desc := "(IJ)V" } : Jvm.MethodName)) ∈ lw_g := tg_of (List.mem_append_right _ (List.mem_of_getElem? (i := 194) (by decide +kernel))) rfl
theorem tw_195 : (Jvm.Cond.instanceMethod ({ cls := "ReplayLink$End", name := "addToDraft", desc := "(IJ)V" } : Jvm.MethodName)) ∈ lw_g := tg_of (List.mem_append_right _ (List.mem_of_getElem? (i := 195) (by decide +kernel))) rfl
theorem tw_196 : (Jvm.Cond.selects "ReplayLink$End" ({ cls := "ReplayLink$End", name := "addToDraft", desc := "(IJ)V" } : Jvm.MethodName) ({ cls := "ReplayLink$End", name := "addToDraft", desc := "(IJ)V" } : Jvm.MethodName)) ∈ lw_g := tg_of (List.mem_append_right _ (List.mem_of_getElem? (i := 196) (by decide +kernel))) rfl
theorem tw_197 : (Jvm.Cond.code ({ cls := "ReplayLink$End", name := "addToDraft", desc := "(IJ)V" } : Jvm.MethodName) prog_2_method_7_code (5 : Nat) (Option.none : Option Jvm.ClassFile.FieldType)) ∈ lw_g := tg_of (List.mem_append_right _ (List.mem_of_getElem? (i := 197) (by decide +kernel))) rfl
theorem tw_198 : (Jvm.Cond.methodLink "ReplayLinkLaw" (20 : Nat) ({ cls := "ReplayLink", name := "offer", desc := "(I)I" } : Jvm.MethodName)) ∈ lw_g := tg_of (List.mem_append_right _ (List.mem_of_getElem? (i := 198) (by decide +kernel))) rfl
theorem tw_199 : (Jvm.Cond.instanceMethod ({ cls := "ReplayLink", name := "offer", desc := "(I)I" } : Jvm.MethodName)) ∈ lw_g := tg_of (List.mem_append_right _ (List.mem_of_getElem? (i := 199) (by decide +kernel))) rfl
theorem tw_200 : (Jvm.Cond.selects "ReplayLink" ({ cls := "ReplayLink", name := "offer", desc := "(I)I" } : Jvm.MethodName) ({ cls := "ReplayLink", name := "offer", desc := "(I)I" } : Jvm.MethodName)) ∈ lw_g := tg_of (List.mem_append_right _ (List.mem_of_getElem? (i := 200) (by decide +kernel))) rfl
theorem tw_201 : (Jvm.Cond.code ({ cls := "ReplayLink", name := "offer", desc := "(I)I" } : Jvm.MethodName) prog_1_method_3_code (3 : Nat) (Option.some Jvm.ClassFile.FieldType.int)) ∈ lw_g := tg_of (List.mem_append_right _ (List.mem_of_getElem? (i := 201) (by decide +kernel))) rfl
theorem tw_202 : (Jvm.Cond.methodLink "ReplayLink" (38 : Nat) ({ cls := "ReplayLink$End", name := "waiting", desc := "()I" } : Jvm.MethodName)) ∈ lw_g := tg_of (List.mem_append_right _ (List.mem_of_getElem? (i := 202) (by decide +kernel))) rfl
theorem tw_203 : (Jvm.Cond.instanceMethod ({ cls := "ReplayLink$End", name := "waiting", desc := "()I" } : Jvm.MethodName)) ∈ lw_g := tg_of (List.mem_append_right _ (List.mem_of_getElem? (i := 203) (by decide +kernel))) rfl
theorem tw_204 : (Jvm.Cond.selects "ReplayLink$End" ({ cls := "ReplayLink$End", name := "waiting", desc := "()I" } : Jvm.MethodName) ({ cls := "ReplayLink$End", name := "waiting", desc := "()I" } : Jvm.MethodName)) ∈ lw_g := tg_of (List.mem_append_right _ (List.mem_of_getElem? (i := 204) (by decide +kernel))) rfl
theorem tw_205 : (Jvm.Cond.code ({ cls := "ReplayLink$End", name := "waiting", desc := "()I" } : Jvm.MethodName) prog_2_method_2_code (1 : Nat) (Option.some Jvm.ClassFile.FieldType.int)) ∈ lw_g := tg_of (List.mem_append_right _ (List.mem_of_getElem? (i := 205) (by decide +kernel))) rfl
theorem tw_206 : (Jvm.Cond.methodLink "ReplayLink" (45 : Nat) ({ cls := "ReplayLink$End", name := "turnDraftIntoPacket", desc := "()V" } : Jvm.MethodName)) ∈ lw_g := tg_of (List.mem_append_right _ (List.mem_of_getElem? (i := 206) (by decide +kernel))) rfl
theorem tw_207 : (Jvm.Cond.instanceMethod ({ cls := "ReplayLink$End", name := "turnDraftIntoPacket", desc := "()V" } : Jvm.MethodName)) ∈ lw_g := tg_of (List.mem_append_right _ (List.mem_of_getElem? (i := 207) (by decide +kernel))) rfl
theorem tw_208 : (Jvm.Cond.selects "ReplayLink$End" ({ cls := "ReplayLink$End", name := "turnDraftIntoPacket", desc := "()V" } : Jvm.MethodName) ({ cls := "ReplayLink$End", name := "turnDraftIntoPacket", desc := "()V" } : Jvm.MethodName)) ∈ lw_g := tg_of (List.mem_append_right _ (List.mem_of_getElem? (i := 208) (by decide +kernel))) rfl
theorem tw_209 : (Jvm.Cond.code ({ cls := "ReplayLink$End", name := "turnDraftIntoPacket", desc := "()V" } : Jvm.MethodName) prog_2_method_8_code (1 : Nat) (Option.none : Option Jvm.ClassFile.FieldType)) ∈ lw_g := tg_of (List.mem_append_right _ (List.mem_of_getElem? (i := 209) (by decide +kernel))) rfl
theorem tw_210 : (Jvm.Cond.methodLink "ReplayLink$End" (56 : Nat) ({ cls := "ReplayLink$Packets", name := "put", desc := "(I[III)V" } : Jvm.MethodName)) ∈ lw_g := tg_of (List.mem_append_right _ (List.mem_of_getElem? (i := 210) (by decide +kernel))) rfl
theorem tw_211 : (Jvm.Cond.instanceMethod ({ cls := "ReplayLink$Packets", name := "put", desc := "(I[III)V" } : Jvm.MethodName)) ∈ lw_g := tg_of (List.mem_append_right _ (List.mem_of_getElem? (i := 211) (by decide +kernel))) rfl
theorem tw_212 : (Jvm.Cond.selects "ReplayLink$Packets" ({ cls := "ReplayLink$Packets", name := "put", desc := "(I[III)V" } : Jvm.MethodName) ({ cls := "ReplayLink$Packets", name := "put", desc := "(I[III)V" } : Jvm.MethodName)) ∈ lw_g := tg_of (List.mem_append_right _ (List.mem_of_getElem? (i := 212) (by decide +kernel))) rfl
theorem tw_213 : (Jvm.Cond.code ({ cls := "ReplayLink$Packets", name := "put", desc := "(I[III)V" } : Jvm.MethodName) prog_5_method_2_code (5 : Nat) (Option.none : Option Jvm.ClassFile.FieldType)) ∈ lw_g := tg_of (List.mem_append_right _ (List.mem_of_getElem? (i := 213) (by decide +kernel))) rfl
theorem tw_214 : (Jvm.Cond.methodLink "ReplayLink$Packets" (18 : Nat) ({ cls := "java/lang/System", name := "arraycopy", desc := "(Ljava/lang/Object;ILjava/lang/Object;II)V" } : Jvm.MethodName)) ∈ lw_g := tg_of (List.mem_append_right _ (List.mem_of_getElem? (i := 214) (by decide +kernel))) rfl
theorem tw_215 : (Jvm.Cond.static ({ cls := "java/lang/System", name := "arraycopy", desc := "(Ljava/lang/Object;ILjava/lang/Object;II)V" } : Jvm.MethodName)) ∈ lw_g := tg_of (List.mem_append_right _ (List.mem_of_getElem? (i := 215) (by decide +kernel))) rfl
theorem tw_216 : (Jvm.Cond.native ({ cls := "java/lang/System", name := "arraycopy", desc := "(Ljava/lang/Object;ILjava/lang/Object;II)V" } : Jvm.MethodName)) ∈ lw_g := tg_of (List.mem_append_right _ (List.mem_of_getElem? (i := 216) (by decide +kernel))) rfl
theorem tw_217 : (Jvm.Cond.methodLink "ReplayLinkLaw" (25 : Nat) ({ cls := "ReplayLink", name := "check", desc := "(II)J" } : Jvm.MethodName)) ∈ lw_g := tg_of (List.mem_append_right _ (List.mem_of_getElem? (i := 217) (by decide +kernel))) rfl
theorem tw_218 : (Jvm.Cond.instanceMethod ({ cls := "ReplayLink", name := "check", desc := "(II)J" } : Jvm.MethodName)) ∈ lw_g := tg_of (List.mem_append_right _ (List.mem_of_getElem? (i := 218) (by decide +kernel))) rfl
theorem tw_219 : (Jvm.Cond.selects "ReplayLink" ({ cls := "ReplayLink", name := "check", desc := "(II)J" } : Jvm.MethodName) ({ cls := "ReplayLink", name := "check", desc := "(II)J" } : Jvm.MethodName)) ∈ lw_g := tg_of (List.mem_append_right _ (List.mem_of_getElem? (i := 219) (by decide +kernel))) rfl
theorem tw_220 : (Jvm.Cond.code ({ cls := "ReplayLink", name := "check", desc := "(II)J" } : Jvm.MethodName) prog_1_method_4_code (4 : Nat) (Option.some Jvm.ClassFile.FieldType.long)) ∈ lw_g := tg_of (List.mem_append_right _ (List.mem_of_getElem? (i := 220) (by decide +kernel))) rfl
theorem tw_221 : (Jvm.Cond.constantLong "ReplayLink" (48 : Nat) (-1 : Int64)) ∈ lw_g := tg_of (List.mem_append_right _ (List.mem_of_getElem? (i := 221) (by decide +kernel))) rfl
theorem tw_222 : (Jvm.Cond.methodLink "ReplayLink" (54 : Nat) ({ cls := "ReplayLink", name := "checkOf", desc := "(I[III)J" } : Jvm.MethodName)) ∈ lw_g := tg_of (List.mem_append_right _ (List.mem_of_getElem? (i := 222) (by decide +kernel))) rfl
theorem tw_223 : (Jvm.Cond.static ({ cls := "ReplayLink", name := "checkOf", desc := "(I[III)J" } : Jvm.MethodName)) ∈ lw_g := tg_of (List.mem_append_right _ (List.mem_of_getElem? (i := 223) (by decide +kernel))) rfl
theorem tw_224 : (Jvm.Cond.code ({ cls := "ReplayLink", name := "checkOf", desc := "(I[III)J" } : Jvm.MethodName) prog_1_method_24_code (12 : Nat) (Option.some Jvm.ClassFile.FieldType.long)) ∈ lw_g := tg_of (List.mem_append_right _ (List.mem_of_getElem? (i := 224) (by decide +kernel))) rfl
theorem tw_225 : (Jvm.Cond.constantLong "ReplayLink" (157 : Nat) (3988292384 : Int64)) ∈ lw_g := tg_of (List.mem_append_right _ (List.mem_of_getElem? (i := 225) (by decide +kernel))) rfl
theorem tw_226 : (Jvm.Cond.constantLong "ReplayLink" (159 : Nat) (53256 : Int64)) ∈ lw_g := tg_of (List.mem_append_right _ (List.mem_of_getElem? (i := 226) (by decide +kernel))) rfl
theorem tw_227 : (Jvm.Cond.methodLink "ReplayLinkLaw" (30 : Nat) ({ cls := "ReplayLink", name := "set", desc := "(II)I" } : Jvm.MethodName)) ∈ lw_g := tg_of (List.mem_append_right _ (List.mem_of_getElem? (i := 227) (by decide +kernel))) rfl
theorem tw_228 : (Jvm.Cond.instanceMethod ({ cls := "ReplayLink", name := "set", desc := "(II)I" } : Jvm.MethodName)) ∈ lw_g := tg_of (List.mem_append_right _ (List.mem_of_getElem? (i := 228) (by decide +kernel))) rfl
theorem tw_229 : (Jvm.Cond.selects "ReplayLink" ({ cls := "ReplayLink", name := "set", desc := "(II)I" } : Jvm.MethodName) ({ cls := "ReplayLink", name := "set", desc := "(II)I" } : Jvm.MethodName)) ∈ lw_g := tg_of (List.mem_append_right _ (List.mem_of_getElem? (i := 229) (by decide +kernel))) rfl
theorem tw_230 : (Jvm.Cond.code ({ cls := "ReplayLink", name := "set", desc := "(II)I" } : Jvm.MethodName) prog_1_method_5_code (3 : Nat) (Option.some Jvm.ClassFile.FieldType.int)) ∈ lw_g := tg_of (List.mem_append_right _ (List.mem_of_getElem? (i := 230) (by decide +kernel))) rfl
theorem tw_231 : (Jvm.Cond.methodLink "ReplayLink" (58 : Nat) ({ cls := "ReplayLink$Link", name := "changeDelay", desc := "(I)I" } : Jvm.MethodName)) ∈ lw_g := tg_of (List.mem_append_right _ (List.mem_of_getElem? (i := 231) (by decide +kernel))) rfl
theorem tw_232 : (Jvm.Cond.instanceMethod ({ cls := "ReplayLink$Link", name := "changeDelay", desc := "(I)I" } : Jvm.MethodName)) ∈ lw_g := tg_of (List.mem_append_right _ (List.mem_of_getElem? (i := 232) (by decide +kernel))) rfl
theorem tw_233 : (Jvm.Cond.selects "ReplayLink$Link" ({ cls := "ReplayLink$Link", name := "changeDelay", desc := "(I)I" } : Jvm.MethodName) ({ cls := "ReplayLink$Link", name := "changeDelay", desc := "(I)I" } : Jvm.MethodName)) ∈ lw_g := tg_of (List.mem_append_right _ (List.mem_of_getElem? (i := 233) (by decide +kernel))) rfl
theorem tw_234 : (Jvm.Cond.code ({ cls := "ReplayLink$Link", name := "changeDelay", desc := "(I)I" } : Jvm.MethodName) prog_4_method_2_code (3 : Nat) (Option.some Jvm.ClassFile.FieldType.int)) ∈ lw_g := tg_of (List.mem_append_right _ (List.mem_of_getElem? (i := 234) (by decide +kernel))) rfl
theorem tw_235 : (Jvm.Cond.methodLink "ReplayLink" (62 : Nat) ({ cls := "ReplayLink$Link", name := "changePatience", desc := "(I)I" } : Jvm.MethodName)) ∈ lw_g := tg_of (List.mem_append_right _ (List.mem_of_getElem? (i := 235) (by decide +kernel))) rfl
theorem tw_236 : (Jvm.Cond.instanceMethod ({ cls := "ReplayLink$Link", name := "changePatience", desc := "(I)I" } : Jvm.MethodName)) ∈ lw_g := tg_of (List.mem_append_right _ (List.mem_of_getElem? (i := 236) (by decide +kernel))) rfl
theorem tw_237 : (Jvm.Cond.selects "ReplayLink$Link" ({ cls := "ReplayLink$Link", name := "changePatience", desc := "(I)I" } : Jvm.MethodName) ({ cls := "ReplayLink$Link", name := "changePatience", desc := "(I)I" } : Jvm.MethodName)) ∈ lw_g := tg_of (List.mem_append_right _ (List.mem_of_getElem? (i := 237) (by decide +kernel))) rfl
theorem tw_238 : (Jvm.Cond.code ({ cls := "ReplayLink$Link", name := "changePatience", desc := "(I)I" } : Jvm.MethodName) prog_4_method_3_code (3 : Nat) (Option.some Jvm.ClassFile.FieldType.int)) ∈ lw_g := tg_of (List.mem_append_right _ (List.mem_of_getElem? (i := 238) (by decide +kernel))) rfl
theorem tw_239 : (Jvm.Cond.methodLink "ReplayLink" (65 : Nat) ({ cls := "ReplayLink$Link", name := "changeAckDelay", desc := "(I)I" } : Jvm.MethodName)) ∈ lw_g := tg_of (List.mem_append_right _ (List.mem_of_getElem? (i := 239) (by decide +kernel))) rfl
theorem tw_240 : (Jvm.Cond.instanceMethod ({ cls := "ReplayLink$Link", name := "changeAckDelay", desc := "(I)I" } : Jvm.MethodName)) ∈ lw_g := tg_of (List.mem_append_right _ (List.mem_of_getElem? (i := 240) (by decide +kernel))) rfl
theorem tw_241 : (Jvm.Cond.selects "ReplayLink$Link" ({ cls := "ReplayLink$Link", name := "changeAckDelay", desc := "(I)I" } : Jvm.MethodName) ({ cls := "ReplayLink$Link", name := "changeAckDelay", desc := "(I)I" } : Jvm.MethodName)) ∈ lw_g := tg_of (List.mem_append_right _ (List.mem_of_getElem? (i := 241) (by decide +kernel))) rfl
theorem tw_242 : (Jvm.Cond.code ({ cls := "ReplayLink$Link", name := "changeAckDelay", desc := "(I)I" } : Jvm.MethodName) prog_4_method_4_code (3 : Nat) (Option.some Jvm.ClassFile.FieldType.int)) ∈ lw_g := tg_of (List.mem_append_right _ (List.mem_of_getElem? (i := 242) (by decide +kernel))) rfl
theorem tw_243 : (Jvm.Cond.methodLink "ReplayLinkLaw" (35 : Nat) ({ cls := "ReplayLink", name := "tick", desc := "(I)I" } : Jvm.MethodName)) ∈ lw_g := tg_of (List.mem_append_right _ (List.mem_of_getElem? (i := 243) (by decide +kernel))) rfl
theorem tw_244 : (Jvm.Cond.instanceMethod ({ cls := "ReplayLink", name := "tick", desc := "(I)I" } : Jvm.MethodName)) ∈ lw_g := tg_of (List.mem_append_right _ (List.mem_of_getElem? (i := 244) (by decide +kernel))) rfl
theorem tw_245 : (Jvm.Cond.selects "ReplayLink" ({ cls := "ReplayLink", name := "tick", desc := "(I)I" } : Jvm.MethodName) ({ cls := "ReplayLink", name := "tick", desc := "(I)I" } : Jvm.MethodName)) ∈ lw_g := tg_of (List.mem_append_right _ (List.mem_of_getElem? (i := 245) (by decide +kernel))) rfl
theorem tw_246 : (Jvm.Cond.code ({ cls := "ReplayLink", name := "tick", desc := "(I)I" } : Jvm.MethodName) prog_1_method_6_code (4 : Nat) (Option.some Jvm.ClassFile.FieldType.int)) ∈ lw_g := tg_of (List.mem_append_right _ (List.mem_of_getElem? (i := 246) (by decide +kernel))) rfl
theorem tw_247 : (Jvm.Cond.methodLink "ReplayLink" (71 : Nat) ({ cls := "ReplayLink$Link", name := "passTick", desc := "()I" } : Jvm.MethodName)) ∈ lw_g := tg_of (List.mem_append_right _ (List.mem_of_getElem? (i := 247) (by decide +kernel))) rfl
theorem tw_248 : (Jvm.Cond.instanceMethod ({ cls := "ReplayLink$Link", name := "passTick", desc := "()I" } : Jvm.MethodName)) ∈ lw_g := tg_of (List.mem_append_right _ (List.mem_of_getElem? (i := 248) (by decide +kernel))) rfl
theorem tw_249 : (Jvm.Cond.selects "ReplayLink$Link" ({ cls := "ReplayLink$Link", name := "passTick", desc := "()I" } : Jvm.MethodName) ({ cls := "ReplayLink$Link", name := "passTick", desc := "()I" } : Jvm.MethodName)) ∈ lw_g := tg_of (List.mem_append_right _ (List.mem_of_getElem? (i := 249) (by decide +kernel))) rfl
theorem tw_250 : (Jvm.Cond.code ({ cls := "ReplayLink$Link", name := "passTick", desc := "()I" } : Jvm.MethodName) prog_4_method_5_code (4 : Nat) (Option.some Jvm.ClassFile.FieldType.int)) ∈ lw_g := tg_of (List.mem_append_right _ (List.mem_of_getElem? (i := 250) (by decide +kernel))) rfl
theorem tw_251 : (Jvm.Cond.methodLink "ReplayLink$Link" (45 : Nat) ({ cls := "ReplayLink$Link", name := "receive", desc := "(LReplayLink$Wire;LReplayLink$End;)I" } : Jvm.MethodName)) ∈ lw_g := tg_of (List.mem_append_right _ (List.mem_of_getElem? (i := 251) (by decide +kernel))) rfl
theorem tw_253 : (Jvm.Cond.instanceMethod ({ cls := "ReplayLink$Link", name := "receive", desc := "(LReplayLink$Wire;LReplayLink$End;)I" } : Jvm.MethodName)) ∈ lw_g := tg_of (List.mem_append_right _ (List.mem_of_getElem? (i := 253) (by decide +kernel))) rfl
theorem tw_254 : (Jvm.Cond.code ({ cls := "ReplayLink$Link", name := "receive", desc := "(LReplayLink$Wire;LReplayLink$End;)I" } : Jvm.MethodName) prog_4_method_8_code (5 : Nat) (Option.some Jvm.ClassFile.FieldType.int)) ∈ lw_g := tg_of (List.mem_append_right _ (List.mem_of_getElem? (i := 254) (by decide +kernel))) rfl
theorem tw_255 : (Jvm.Cond.methodLink "ReplayLink$Link" (76 : Nat) ({ cls := "ReplayLink$Wire", name := "eldestOver", desc := "(I)I" } : Jvm.MethodName)) ∈ lw_g := tg_of (List.mem_append_right _ (List.mem_of_getElem? (i := 255) (by decide +kernel))) rfl
theorem tw_256 : (Jvm.Cond.instanceMethod ({ cls := "ReplayLink$Wire", name := "eldestOver", desc := "(I)I" } : Jvm.MethodName)) ∈ lw_g := tg_of (List.mem_append_right _ (List.mem_of_getElem? (i := 256) (by decide +kernel))) rfl
theorem tw_257 : (Jvm.Cond.selects "ReplayLink$Wire" ({ cls := "ReplayLink$Wire", name := "eldestOver", desc := "(I)I" } : Jvm.MethodName) ({ cls := "ReplayLink$Wire", name := "eldestOver", desc := "(I)I" } : Jvm.MethodName)) ∈ lw_g := tg_of (List.mem_append_right _ (List.mem_of_getElem? (i := 257) (by decide +kernel))) rfl
theorem tw_258 : (Jvm.Cond.code ({ cls := "ReplayLink$Wire", name := "eldestOver", desc := "(I)I" } : Jvm.MethodName) prog_6_method_5_code (3 : Nat) (Option.some Jvm.ClassFile.FieldType.int)) ∈ lw_g := tg_of (List.mem_append_right _ (List.mem_of_getElem? (i := 258) (by decide +kernel))) rfl
theorem tw_259 : (Jvm.Cond.methodLink "ReplayLink$Link" (80 : Nat) ({ cls := "ReplayLink$Wire", name := "takeOff", desc := "(I)LReplayLink$Frame;" } : Jvm.MethodName)) ∈ lw_g := tg_of (List.mem_append_right _ (List.mem_of_getElem? (i := 259) (by decide +kernel))) rfl
theorem tw_260 : (Jvm.Cond.instanceMethod ({ cls := "ReplayLink$Wire", name := "takeOff", desc := "(I)LReplayLink$Frame;" } : Jvm.MethodName)) ∈ lw_g := tg_of (List.mem_append_right _ (List.mem_of_getElem? (i := 260) (by decide +kernel))) rfl
theorem tw_261 : (Jvm.Cond.selects "ReplayLink$Wire" ({ cls := "ReplayLink$Wire", name := "takeOff", desc := "(I)LReplayLink$Frame;" } : Jvm.MethodName) ({ cls := "ReplayLink$Wire", name := "takeOff", desc := "(I)LReplayLink$Frame;" } : Jvm.MethodName)) ∈ lw_g := tg_of (List.mem_append_right _ (List.mem_of_getElem? (i := 261) (by decide +kernel))) rfl
theorem tw_262 : (Jvm.Cond.code ({ cls := "ReplayLink$Wire", name := "takeOff", desc := "(I)LReplayLink$Frame;" } : Jvm.MethodName) prog_6_method_3_code (4 : Nat) (Option.some (Jvm.ClassFile.FieldType.object "ReplayLink$Frame"))) ∈ lw_g := tg_of (List.mem_append_right _ (List.mem_of_getElem? (i := 262) (by decide +kernel))) rfl
theorem tw_263 : (Jvm.Cond.methodLink "ReplayLink$Link" (84 : Nat) ({ cls := "ReplayLink$Link", name := "takeIn", desc := "(LReplayLink$Frame;LReplayLink$End;)V" } : Jvm.MethodName)) ∈ lw_g := tg_of (List.mem_append_right _ (List.mem_of_getElem? (i := 263) (by decide +kernel))) rfl
theorem tw_265 : (Jvm.Cond.instanceMethod ({ cls := "ReplayLink$Link", name := "takeIn", desc := "(LReplayLink$Frame;LReplayLink$End;)V" } : Jvm.MethodName)) ∈ lw_g := tg_of (List.mem_append_right _ (List.mem_of_getElem? (i := 265) (by decide +kernel))) rfl
theorem tw_266 : (Jvm.Cond.code ({ cls := "ReplayLink$Link", name := "takeIn", desc := "(LReplayLink$Frame;LReplayLink$End;)V" } : Jvm.MethodName) prog_4_method_9_code (4 : Nat) (Option.none : Option Jvm.ClassFile.FieldType)) ∈ lw_g := tg_of (List.mem_append_right _ (List.mem_of_getElem? (i := 266) (by decide +kernel))) rfl
theorem tw_267 : (Jvm.Cond.methodLink "ReplayLink$Link" (88 : Nat) ({ cls := "ReplayLink$Frame", name := "readAs", desc := "()I" } : Jvm.MethodName)) ∈ lw_g := tg_of (List.mem_append_right _ (List.mem_of_getElem? (i := 267) (by decide +kernel))) rfl
theorem tw_268 : (Jvm.Cond.instanceMethod ({ cls := "ReplayLink$Frame", name := "readAs", desc := "()I" } : Jvm.MethodName)) ∈ lw_g := tg_of (List.mem_append_right _ (List.mem_of_getElem? (i := 268) (by decide +kernel))) rfl
theorem tw_269 : (Jvm.Cond.selects "ReplayLink$Frame" ({ cls := "ReplayLink$Frame", name := "readAs", desc := "()I" } : Jvm.MethodName) ({ cls := "ReplayLink$Frame", name := "readAs", desc := "()I" } : Jvm.MethodName)) ∈ lw_g := tg_of (List.mem_append_right _ (List.mem_of_getElem? (i := 269) (by decide +kernel))) rfl
theorem tw_270 : (Jvm.Cond.code ({ cls := "ReplayLink$Frame", name := "readAs", desc := "()I" } : Jvm.MethodName) prog_3_method_4_code (1 : Nat) (Option.some Jvm.ClassFile.FieldType.int)) ∈ lw_g := tg_of (List.mem_append_right _ (List.mem_of_getElem? (i := 270) (by decide +kernel))) rfl
theorem tw_271 : (Jvm.Cond.methodLink "ReplayLink$Frame" (43 : Nat) ({ cls := "ReplayLink$Frame", name := "readAsWord", desc := "()I" } : Jvm.MethodName)) ∈ lw_g := tg_of (List.mem_append_right _ (List.mem_of_getElem? (i := 271) (by decide +kernel))) rfl
theorem tw_273 : (Jvm.Cond.instanceMethod ({ cls := "ReplayLink$Frame", name := "readAsWord", desc := "()I" } : Jvm.MethodName)) ∈ lw_g := tg_of (List.mem_append_right _ (List.mem_of_getElem? (i := 273) (by decide +kernel))) rfl
theorem tw_274 : (Jvm.Cond.code ({ cls := "ReplayLink$Frame", name := "readAsWord", desc := "()I" } : Jvm.MethodName) prog_3_method_8_code (1 : Nat) (Option.some Jvm.ClassFile.FieldType.int)) ∈ lw_g := tg_of (List.mem_append_right _ (List.mem_of_getElem? (i := 274) (by decide +kernel))) rfl
theorem tw_275 : (Jvm.Cond.methodLink "ReplayLink$Frame" (53 : Nat) ({ cls := "ReplayLink$Frame", name := "number", desc := "()I" } : Jvm.MethodName)) ∈ lw_g := tg_of (List.mem_append_right _ (List.mem_of_getElem? (i := 275) (by decide +kernel))) rfl
theorem tw_276 : (Jvm.Cond.instanceMethod ({ cls := "ReplayLink$Frame", name := "number", desc := "()I" } : Jvm.MethodName)) ∈ lw_g := tg_of (List.mem_append_right _ (List.mem_of_getElem? (i := 276) (by decide +kernel))) rfl
theorem tw_277 : (Jvm.Cond.selects "ReplayLink$Frame" ({ cls := "ReplayLink$Frame", name := "number", desc := "()I" } : Jvm.MethodName) ({ cls := "ReplayLink$Frame", name := "number", desc := "()I" } : Jvm.MethodName)) ∈ lw_g := tg_of (List.mem_append_right _ (List.mem_of_getElem? (i := 277) (by decide +kernel))) rfl
theorem tw_278 : (Jvm.Cond.code ({ cls := "ReplayLink$Frame", name := "number", desc := "()I" } : Jvm.MethodName) prog_3_method_5_code (1 : Nat) (Option.some Jvm.ClassFile.FieldType.int)) ∈ lw_g := tg_of (List.mem_append_right _ (List.mem_of_getElem? (i := 278) (by decide +kernel))) rfl
theorem tw_279 : (Jvm.Cond.methodLink "ReplayLink$Frame" (56 : Nat) ({ cls := "ReplayLink$Frame", name := "readLowestFirst", desc := "(II)J" } : Jvm.MethodName)) ∈ lw_g := tg_of (List.mem_append_right _ (List.mem_of_getElem? (i := 279) (by decide +kernel))) rfl
theorem tw_281 : (Jvm.Cond.instanceMethod ({ cls := "ReplayLink$Frame", name := "readLowestFirst", desc := "(II)J" } : Jvm.MethodName)) ∈ lw_g := tg_of (List.mem_append_right _ (List.mem_of_getElem? (i := 281) (by decide +kernel))) rfl
theorem tw_282 : (Jvm.Cond.code ({ cls := "ReplayLink$Frame", name := "readLowestFirst", desc := "(II)J" } : Jvm.MethodName) prog_3_method_11_code (6 : Nat) (Option.some Jvm.ClassFile.FieldType.long)) ∈ lw_g := tg_of (List.mem_append_right _ (List.mem_of_getElem? (i := 282) (by decide +kernel))) rfl
theorem tw_284 : (Jvm.Cond.methodLink "ReplayLink$Frame" (47 : Nat) ({ cls := "ReplayLink$Frame", name := "readAsPacket", desc := "()I" } : Jvm.MethodName)) ∈ lw_g := tg_of (List.mem_append_right _ (List.mem_of_getElem? (i := 284) (by decide +kernel))) rfl
theorem tw_286 : (Jvm.Cond.instanceMethod ({ cls := "ReplayLink$Frame", name := "readAsPacket", desc := "()I" } : Jvm.MethodName)) ∈ lw_g := tg_of (List.mem_append_right _ (List.mem_of_getElem? (i := 286) (by decide +kernel))) rfl
theorem tw_287 : (Jvm.Cond.code ({ cls := "ReplayLink$Frame", name := "readAsPacket", desc := "()I" } : Jvm.MethodName) prog_3_method_9_code (6 : Nat) (Option.some Jvm.ClassFile.FieldType.int)) ∈ lw_g := tg_of (List.mem_append_right _ (List.mem_of_getElem? (i := 287) (by decide +kernel))) rfl
theorem tw_288 : (Jvm.Cond.methodLink "ReplayLink$Frame" (60 : Nat) ({ cls := "ReplayLink$Frame", name := "packetLength", desc := "()I" } : Jvm.MethodName)) ∈ lw_g := tg_of (List.mem_append_right _ (List.mem_of_getElem? (i := 288) (by decide +kernel))) rfl
theorem tw_289 : (Jvm.Cond.instanceMethod ({ cls := "ReplayLink$Frame", name := "packetLength", desc := "()I" } : Jvm.MethodName)) ∈ lw_g := tg_of (List.mem_append_right _ (List.mem_of_getElem? (i := 289) (by decide +kernel))) rfl
theorem tw_290 : (Jvm.Cond.selects "ReplayLink$Frame" ({ cls := "ReplayLink$Frame", name := "packetLength", desc := "()I" } : Jvm.MethodName) ({ cls := "ReplayLink$Frame", name := "packetLength", desc := "()I" } : Jvm.MethodName)) ∈ lw_g := tg_of (List.mem_append_right _ (List.mem_of_getElem? (i := 290) (by decide +kernel))) rfl
theorem tw_291 : (Jvm.Cond.code ({ cls := "ReplayLink$Frame", name := "packetLength", desc := "()I" } : Jvm.MethodName) prog_3_method_6_code (1 : Nat) (Option.some Jvm.ClassFile.FieldType.int)) ∈ lw_g := tg_of (List.mem_append_right _ (List.mem_of_getElem? (i := 291) (by decide +kernel))) rfl
theorem tw_293 : (Jvm.Cond.static ({ cls := "ReplayLink", name := "turned", desc := "(J)J" } : Jvm.MethodName)) ∈ lw_g := tg_of (List.mem_append_right _ (List.mem_of_getElem? (i := 293) (by decide +kernel))) rfl
theorem tw_294 : (Jvm.Cond.code ({ cls := "ReplayLink", name := "turned", desc := "(J)J" } : Jvm.MethodName) prog_1_method_25_code (2 : Nat) (Option.some Jvm.ClassFile.FieldType.long)) ∈ lw_g := tg_of (List.mem_append_right _ (List.mem_of_getElem? (i := 294) (by decide +kernel))) rfl
theorem tw_295 : (Jvm.Cond.constantLong "ReplayLink" (161 : Nat) (4294967295 : Int64)) ∈ lw_g := tg_of (List.mem_append_right _ (List.mem_of_getElem? (i := 295) (by decide +kernel))) rfl
theorem tw_296 : (Jvm.Cond.methodLink "ReplayLink$Link" (94 : Nat) ({ cls := "ReplayLink$Link", name := "takeInData", desc := "(LReplayLink$Frame;LReplayLink$End;)V" } : Jvm.MethodName)) ∈ lw_g := tg_of (List.mem_append_right _ (List.mem_of_getElem? (i := 296) (by decide +kernel))) rfl
theorem tw_298 : (Jvm.Cond.instanceMethod ({ cls := "ReplayLink$Link", name := "takeInData", desc := "(LReplayLink$Frame;LReplayLink$End;)V" } : Jvm.MethodName)) ∈ lw_g := tg_of (List.mem_append_right _ (List.mem_of_getElem? (i := 298) (by decide +kernel))) rfl
theorem tw_299 : (Jvm.Cond.code ({ cls := "ReplayLink$Link", name := "takeInData", desc := "(LReplayLink$Frame;LReplayLink$End;)V" } : Jvm.MethodName) prog_4_method_10_code (4 : Nat) (Option.none : Option Jvm.ClassFile.FieldType)) ∈ lw_g := tg_of (List.mem_append_right _ (List.mem_of_getElem? (i := 299) (by decide +kernel))) rfl
theorem tw_300 : (Jvm.Cond.methodLink "ReplayLink$Link" (97 : Nat) ({ cls := "ReplayLink$Frame", name := "number", desc := "()I" } : Jvm.MethodName)) ∈ lw_g := tg_of (List.mem_append_right _ (List.mem_of_getElem? (i := 300) (by decide +kernel))) rfl
theorem tw_302 : (Jvm.Cond.static ({ cls := "ReplayLink", name := "by64", desc := "(I)I" } : Jvm.MethodName)) ∈ lw_g := tg_of (List.mem_append_right _ (List.mem_of_getElem? (i := 302) (by decide +kernel))) rfl
theorem tw_303 : (Jvm.Cond.code ({ cls := "ReplayLink", name := "by64", desc := "(I)I" } : Jvm.MethodName) prog_1_method_23_code (1 : Nat) (Option.some Jvm.ClassFile.FieldType.int)) ∈ lw_g := tg_of (List.mem_append_right _ (List.mem_of_getElem? (i := 303) (by decide +kernel))) rfl
theorem tw_304 : (Jvm.Cond.methodLink "ReplayLink$Link" (113 : Nat) ({ cls := "ReplayLink$End", name := "handUp", desc := "(LReplayLink$Frame;)V" } : Jvm.MethodName)) ∈ lw_g := tg_of (List.mem_append_right _ (List.mem_of_getElem? (i := 304) (by decide +kernel))) rfl
theorem tw_305 : (Jvm.Cond.instanceMethod ({ cls := "ReplayLink$End", name := "handUp", desc := "(LReplayLink$Frame;)V" } : Jvm.MethodName)) ∈ lw_g := tg_of (List.mem_append_right _ (List.mem_of_getElem? (i := 305) (by decide +kernel))) rfl
theorem tw_306 : (Jvm.Cond.selects "ReplayLink$End" ({ cls := "ReplayLink$End", name := "handUp", desc := "(LReplayLink$Frame;)V" } : Jvm.MethodName) ({ cls := "ReplayLink$End", name := "handUp", desc := "(LReplayLink$Frame;)V" } : Jvm.MethodName)) ∈ lw_g := tg_of (List.mem_append_right _ (List.mem_of_getElem? (i := 306) (by decide +kernel))) rfl
theorem tw_307 : (Jvm.Cond.code ({ cls := "ReplayLink$End", name := "handUp", desc := "(LReplayLink$Frame;)V" } : Jvm.MethodName) prog_2_method_12_code (2 : Nat) (Option.none : Option Jvm.ClassFile.FieldType)) ∈ lw_g := tg_of (List.mem_append_right _ (List.mem_of_getElem? (i := 307) (by decide +kernel))) rfl
theorem tw_308 : (Jvm.Cond.methodLink "ReplayLink$End" (96 : Nat) ({ cls := "ReplayLink$Frame", name := "packetLength", desc := "()I" } : Jvm.MethodName)) ∈ lw_g := tg_of (List.mem_append_right _ (List.mem_of_getElem? (i := 308) (by decide +kernel))) rfl
theorem tw_310 : (Jvm.Cond.methodLink "ReplayLink$Link" (117 : Nat) ({ cls := "ReplayLink$End", name := "oweAck", desc := "(I)V" } : Jvm.MethodName)) ∈ lw_g := tg_of (List.mem_append_right _ (List.mem_of_getElem? (i := 310) (by decide +kernel))) rfl
theorem tw_311 : (Jvm.Cond.instanceMethod ({ cls := "ReplayLink$End", name := "oweAck", desc := "(I)V" } : Jvm.MethodName)) ∈ lw_g := tg_of (List.mem_append_right _ (List.mem_of_getElem? (i := 311) (by decide +kernel))) rfl
theorem tw_312 : (Jvm.Cond.selects "ReplayLink$End" ({ cls := "ReplayLink$End", name := "oweAck", desc := "(I)V" } : Jvm.MethodName) ({ cls := "ReplayLink$End", name := "oweAck", desc := "(I)V" } : Jvm.MethodName)) ∈ lw_g := tg_of (List.mem_append_right _ (List.mem_of_getElem? (i := 312) (by decide +kernel))) rfl
theorem tw_313 : (Jvm.Cond.code ({ cls := "ReplayLink$End", name := "oweAck", desc := "(I)V" } : Jvm.MethodName) prog_2_method_13_code (2 : Nat) (Option.none : Option Jvm.ClassFile.FieldType)) ∈ lw_g := tg_of (List.mem_append_right _ (List.mem_of_getElem? (i := 313) (by decide +kernel))) rfl
theorem tw_314 : (Jvm.Cond.methodLink "ReplayLink$Link" (104 : Nat) ({ cls := "ReplayLink$End", name := "oweNak", desc := "()V" } : Jvm.MethodName)) ∈ lw_g := tg_of (List.mem_append_right _ (List.mem_of_getElem? (i := 314) (by decide +kernel))) rfl
theorem tw_315 : (Jvm.Cond.instanceMethod ({ cls := "ReplayLink$End", name := "oweNak", desc := "()V" } : Jvm.MethodName)) ∈ lw_g := tg_of (List.mem_append_right _ (List.mem_of_getElem? (i := 315) (by decide +kernel))) rfl
theorem tw_316 : (Jvm.Cond.selects "ReplayLink$End" ({ cls := "ReplayLink$End", name := "oweNak", desc := "()V" } : Jvm.MethodName) ({ cls := "ReplayLink$End", name := "oweNak", desc := "()V" } : Jvm.MethodName)) ∈ lw_g := tg_of (List.mem_append_right _ (List.mem_of_getElem? (i := 316) (by decide +kernel))) rfl
theorem tw_317 : (Jvm.Cond.code ({ cls := "ReplayLink$End", name := "oweNak", desc := "()V" } : Jvm.MethodName) prog_2_method_14_code (1 : Nat) (Option.none : Option Jvm.ClassFile.FieldType)) ∈ lw_g := tg_of (List.mem_append_right _ (List.mem_of_getElem? (i := 317) (by decide +kernel))) rfl
theorem tw_318 : (Jvm.Cond.methodLink "ReplayLink$Link" (100 : Nat) ({ cls := "ReplayLink$Link", name := "takeInWord", desc := "(IILReplayLink$End;)V" } : Jvm.MethodName)) ∈ lw_g := tg_of (List.mem_append_right _ (List.mem_of_getElem? (i := 318) (by decide +kernel))) rfl
theorem tw_320 : (Jvm.Cond.instanceMethod ({ cls := "ReplayLink$Link", name := "takeInWord", desc := "(IILReplayLink$End;)V" } : Jvm.MethodName)) ∈ lw_g := tg_of (List.mem_append_right _ (List.mem_of_getElem? (i := 320) (by decide +kernel))) rfl
theorem tw_321 : (Jvm.Cond.code ({ cls := "ReplayLink$Link", name := "takeInWord", desc := "(IILReplayLink$End;)V" } : Jvm.MethodName) prog_4_method_11_code (4 : Nat) (Option.none : Option Jvm.ClassFile.FieldType)) ∈ lw_g := tg_of (List.mem_append_right _ (List.mem_of_getElem? (i := 321) (by decide +kernel))) rfl
theorem tw_322 : (Jvm.Cond.methodLink "ReplayLink$Link" (121 : Nat) ({ cls := "ReplayLink$End", name := "nextNumber", desc := "()I" } : Jvm.MethodName)) ∈ lw_g := tg_of (List.mem_append_right _ (List.mem_of_getElem? (i := 322) (by decide +kernel))) rfl
theorem tw_323 : (Jvm.Cond.instanceMethod ({ cls := "ReplayLink$End", name := "nextNumber", desc := "()I" } : Jvm.MethodName)) ∈ lw_g := tg_of (List.mem_append_right _ (List.mem_of_getElem? (i := 323) (by decide +kernel))) rfl
theorem tw_324 : (Jvm.Cond.selects "ReplayLink$End" ({ cls := "ReplayLink$End", name := "nextNumber", desc := "()I" } : Jvm.MethodName) ({ cls := "ReplayLink$End", name := "nextNumber", desc := "()I" } : Jvm.MethodName)) ∈ lw_g := tg_of (List.mem_append_right _ (List.mem_of_getElem? (i := 324) (by decide +kernel))) rfl
theorem tw_325 : (Jvm.Cond.code ({ cls := "ReplayLink$End", name := "nextNumber", desc := "()I" } : Jvm.MethodName) prog_2_method_4_code (1 : Nat) (Option.some Jvm.ClassFile.FieldType.int)) ∈ lw_g := tg_of (List.mem_append_right _ (List.mem_of_getElem? (i := 325) (by decide +kernel))) rfl
theorem tw_326 : (Jvm.Cond.methodLink "ReplayLink$Link" (124 : Nat) ({ cls := "ReplayLink$End", name := "takeAcknowledgement", desc := "(I)V" } : Jvm.MethodName)) ∈ lw_g := tg_of (List.mem_append_right _ (List.mem_of_getElem? (i := 326) (by decide +kernel))) rfl
theorem tw_327 : (Jvm.Cond.instanceMethod ({ cls := "ReplayLink$End", name := "takeAcknowledgement", desc := "(I)V" } : Jvm.MethodName)) ∈ lw_g := tg_of (List.mem_append_right _ (List.mem_of_getElem? (i := 327) (by decide +kernel))) rfl
theorem tw_328 : (Jvm.Cond.selects "ReplayLink$End" ({ cls := "ReplayLink$End", name := "takeAcknowledgement", desc := "(I)V" } : Jvm.MethodName) ({ cls := "ReplayLink$End", name := "takeAcknowledgement", desc := "(I)V" } : Jvm.MethodName)) ∈ lw_g := tg_of (List.mem_append_right _ (List.mem_of_getElem? (i := 328) (by decide +kernel))) rfl
theorem tw_329 : (Jvm.Cond.code ({ cls := "ReplayLink$End", name := "takeAcknowledgement", desc := "(I)V" } : Jvm.MethodName) prog_2_method_11_code (3 : Nat) (Option.none : Option Jvm.ClassFile.FieldType)) ∈ lw_g := tg_of (List.mem_append_right _ (List.mem_of_getElem? (i := 329) (by decide +kernel))) rfl
theorem tw_330 : (Jvm.Cond.methodLink "ReplayLink$End" (77 : Nat) ({ cls := "ReplayLink$End", name := "ackedNumber", desc := "()I" } : Jvm.MethodName)) ∈ lw_g := tg_of (List.mem_append_right _ (List.mem_of_getElem? (i := 330) (by decide +kernel))) rfl
theorem tw_331 : (Jvm.Cond.instanceMethod ({ cls := "ReplayLink$End", name := "ackedNumber", desc := "()I" } : Jvm.MethodName)) ∈ lw_g := tg_of (List.mem_append_right _ (List.mem_of_getElem? (i := 331) (by decide +kernel))) rfl
theorem tw_332 : (Jvm.Cond.selects "ReplayLink$End" ({ cls := "ReplayLink$End", name := "ackedNumber", desc := "()I" } : Jvm.MethodName) ({ cls := "ReplayLink$End", name := "ackedNumber", desc := "()I" } : Jvm.MethodName)) ∈ lw_g := tg_of (List.mem_append_right _ (List.mem_of_getElem? (i := 332) (by decide +kernel))) rfl
theorem tw_333 : (Jvm.Cond.code ({ cls := "ReplayLink$End", name := "ackedNumber", desc := "()I" } : Jvm.MethodName) prog_2_method_5_code (1 : Nat) (Option.some Jvm.ClassFile.FieldType.int)) ∈ lw_g := tg_of (List.mem_append_right _ (List.mem_of_getElem? (i := 333) (by decide +kernel))) rfl
theorem tw_334 : (Jvm.Cond.methodLink "ReplayLink$End" (81 : Nat) ({ cls := "ReplayLink$End", name := "unacked", desc := "()I" } : Jvm.MethodName)) ∈ lw_g := tg_of (List.mem_append_right _ (List.mem_of_getElem? (i := 334) (by decide +kernel))) rfl
theorem tw_335 : (Jvm.Cond.instanceMethod ({ cls := "ReplayLink$End", name := "unacked", desc := "()I" } : Jvm.MethodName)) ∈ lw_g := tg_of (List.mem_append_right _ (List.mem_of_getElem? (i := 335) (by decide +kernel))) rfl
theorem tw_336 : (Jvm.Cond.selects "ReplayLink$End" ({ cls := "ReplayLink$End", name := "unacked", desc := "()I" } : Jvm.MethodName) ({ cls := "ReplayLink$End", name := "unacked", desc := "()I" } : Jvm.MethodName)) ∈ lw_g := tg_of (List.mem_append_right _ (List.mem_of_getElem? (i := 336) (by decide +kernel))) rfl
theorem tw_337 : (Jvm.Cond.code ({ cls := "ReplayLink$End", name := "unacked", desc := "()I" } : Jvm.MethodName) prog_2_method_3_code (1 : Nat) (Option.some Jvm.ClassFile.FieldType.int)) ∈ lw_g := tg_of (List.mem_append_right _ (List.mem_of_getElem? (i := 337) (by decide +kernel))) rfl
theorem tw_338 : (Jvm.Cond.methodLink "ReplayLink$End" (47 : Nat) ({ cls := "java/lang/Math", name := "min", desc := "(II)I" } : Jvm.MethodName)) ∈ lw_g := tg_of (List.mem_append_right _ (List.mem_of_getElem? (i := 338) (by decide +kernel))) rfl
theorem tw_339 : (Jvm.Cond.static ({ cls := "java/lang/Math", name := "min", desc := "(II)I" } : Jvm.MethodName)) ∈ lw_g := tg_of (List.mem_append_right _ (List.mem_of_getElem? (i := 339) (by decide +kernel))) rfl
theorem tw_340 : (Jvm.Cond.code ({ cls := "java/lang/Math", name := "min", desc := "(II)I" } : Jvm.MethodName) prog_9_method_69_code (2 : Nat) (Option.some Jvm.ClassFile.FieldType.int)) ∈ lw_g := tg_of (List.mem_append_right _ (List.mem_of_getElem? (i := 340) (by decide +kernel))) rfl
theorem tw_341 : (Jvm.Cond.methodLink "ReplayLink$Link" (127 : Nat) ({ cls := "ReplayLink$End", name := "unacked", desc := "()I" } : Jvm.MethodName)) ∈ lw_g := tg_of (List.mem_append_right _ (List.mem_of_getElem? (i := 341) (by decide +kernel))) rfl
theorem tw_342 : (Jvm.Cond.methodLink "ReplayLink$Link" (130 : Nat) ({ cls := "ReplayLink$Link", name := "sendAgain", desc := "(LReplayLink$End;)V" } : Jvm.MethodName)) ∈ lw_g := tg_of (List.mem_append_right _ (List.mem_of_getElem? (i := 342) (by decide +kernel))) rfl
theorem tw_344 : (Jvm.Cond.instanceMethod ({ cls := "ReplayLink$Link", name := "sendAgain", desc := "(LReplayLink$End;)V" } : Jvm.MethodName)) ∈ lw_g := tg_of (List.mem_append_right _ (List.mem_of_getElem? (i := 344) (by decide +kernel))) rfl
theorem tw_345 : (Jvm.Cond.code ({ cls := "ReplayLink$Link", name := "sendAgain", desc := "(LReplayLink$End;)V" } : Jvm.MethodName) prog_4_method_13_code (2 : Nat) (Option.none : Option Jvm.ClassFile.FieldType)) ∈ lw_g := tg_of (List.mem_append_right _ (List.mem_of_getElem? (i := 345) (by decide +kernel))) rfl
theorem tw_346 : (Jvm.Cond.methodLink "ReplayLink$Link" (145 : Nat) ({ cls := "ReplayLink$Link", name := "train", desc := "()V" } : Jvm.MethodName)) ∈ lw_g := tg_of (List.mem_append_right _ (List.mem_of_getElem? (i := 346) (by decide +kernel))) rfl
theorem tw_348 : (Jvm.Cond.instanceMethod ({ cls := "ReplayLink$Link", name := "train", desc := "()V" } : Jvm.MethodName)) ∈ lw_g := tg_of (List.mem_append_right _ (List.mem_of_getElem? (i := 348) (by decide +kernel))) rfl
theorem tw_349 : (Jvm.Cond.code ({ cls := "ReplayLink$Link", name := "train", desc := "()V" } : Jvm.MethodName) prog_4_method_14_code (1 : Nat) (Option.none : Option Jvm.ClassFile.FieldType)) ∈ lw_g := tg_of (List.mem_append_right _ (List.mem_of_getElem? (i := 349) (by decide +kernel))) rfl
theorem tw_350 : (Jvm.Cond.methodLink "ReplayLink$Link" (49 : Nat) ({ cls := "ReplayLink$Link", name := "runTimers", desc := "(LReplayLink$End;)V" } : Jvm.MethodName)) ∈ lw_g := tg_of (List.mem_append_right _ (List.mem_of_getElem? (i := 350) (by decide +kernel))) rfl
theorem tw_352 : (Jvm.Cond.instanceMethod ({ cls := "ReplayLink$Link", name := "runTimers", desc := "(LReplayLink$End;)V" } : Jvm.MethodName)) ∈ lw_g := tg_of (List.mem_append_right _ (List.mem_of_getElem? (i := 352) (by decide +kernel))) rfl
theorem tw_353 : (Jvm.Cond.code ({ cls := "ReplayLink$Link", name := "runTimers", desc := "(LReplayLink$End;)V" } : Jvm.MethodName) prog_4_method_12_code (2 : Nat) (Option.none : Option Jvm.ClassFile.FieldType)) ∈ lw_g := tg_of (List.mem_append_right _ (List.mem_of_getElem? (i := 353) (by decide +kernel))) rfl
theorem tw_354 : (Jvm.Cond.methodLink "ReplayLink$Link" (53 : Nat) ({ cls := "ReplayLink$Link", name := "layOneFrame", desc := "(LReplayLink$End;LReplayLink$Wire;)V" } : Jvm.MethodName)) ∈ lw_g := tg_of (List.mem_append_right _ (List.mem_of_getElem? (i := 354) (by decide +kernel))) rfl
theorem tw_356 : (Jvm.Cond.instanceMethod ({ cls := "ReplayLink$Link", name := "layOneFrame", desc := "(LReplayLink$End;LReplayLink$Wire;)V" } : Jvm.MethodName)) ∈ lw_g := tg_of (List.mem_append_right _ (List.mem_of_getElem? (i := 356) (by decide +kernel))) rfl
theorem tw_357 : (Jvm.Cond.code ({ cls := "ReplayLink$Link", name := "layOneFrame", desc := "(LReplayLink$End;LReplayLink$Wire;)V" } : Jvm.MethodName) prog_4_method_15_code (3 : Nat) (Option.none : Option Jvm.ClassFile.FieldType)) ∈ lw_g := tg_of (List.mem_append_right _ (List.mem_of_getElem? (i := 357) (by decide +kernel))) rfl
theorem tw_358 : (Jvm.Cond.methodLink "ReplayLink$Link" (152 : Nat) ({ cls := "ReplayLink$Wire", name := "layOneMore", desc := "(I)LReplayLink$Frame;" } : Jvm.MethodName)) ∈ lw_g := tg_of (List.mem_append_right _ (List.mem_of_getElem? (i := 358) (by decide +kernel))) rfl
theorem tw_359 : (Jvm.Cond.instanceMethod ({ cls := "ReplayLink$Wire", name := "layOneMore", desc := "(I)LReplayLink$Frame;" } : Jvm.MethodName)) ∈ lw_g := tg_of (List.mem_append_right _ (List.mem_of_getElem? (i := 359) (by decide +kernel))) rfl
theorem tw_360 : (Jvm.Cond.selects "ReplayLink$Wire" ({ cls := "ReplayLink$Wire", name := "layOneMore", desc := "(I)LReplayLink$Frame;" } : Jvm.MethodName) ({ cls := "ReplayLink$Wire", name := "layOneMore", desc := "(I)LReplayLink$Frame;" } : Jvm.MethodName)) ∈ lw_g := tg_of (List.mem_append_right _ (List.mem_of_getElem? (i := 360) (by decide +kernel))) rfl
theorem tw_361 : (Jvm.Cond.code ({ cls := "ReplayLink$Wire", name := "layOneMore", desc := "(I)LReplayLink$Frame;" } : Jvm.MethodName) prog_6_method_2_code (3 : Nat) (Option.some (Jvm.ClassFile.FieldType.object "ReplayLink$Frame"))) ∈ lw_g := tg_of (List.mem_append_right _ (List.mem_of_getElem? (i := 361) (by decide +kernel))) rfl
theorem tw_362 : (Jvm.Cond.methodLink "ReplayLink$Wire" (22 : Nat) ({ cls := "ReplayLink$Wire", name := "takeOff", desc := "(I)LReplayLink$Frame;" } : Jvm.MethodName)) ∈ lw_g := tg_of (List.mem_append_right _ (List.mem_of_getElem? (i := 362) (by decide +kernel))) rfl
theorem tw_363 : (Jvm.Cond.methodLink "ReplayLink$Link" (155 : Nat) ({ cls := "ReplayLink$End", name := "writeWord", desc := "(LReplayLink$Frame;I)V" } : Jvm.MethodName)) ∈ lw_g := tg_of (List.mem_append_right _ (List.mem_of_getElem? (i := 363) (by decide +kernel))) rfl
theorem tw_364 : (Jvm.Cond.instanceMethod ({ cls := "ReplayLink$End", name := "writeWord", desc := "(LReplayLink$Frame;I)V" } : Jvm.MethodName)) ∈ lw_g := tg_of (List.mem_append_right _ (List.mem_of_getElem? (i := 364) (by decide +kernel))) rfl
theorem tw_365 : (Jvm.Cond.selects "ReplayLink$End" ({ cls := "ReplayLink$End", name := "writeWord", desc := "(LReplayLink$Frame;I)V" } : Jvm.MethodName) ({ cls := "ReplayLink$End", name := "writeWord", desc := "(LReplayLink$Frame;I)V" } : Jvm.MethodName)) ∈ lw_g := tg_of (List.mem_append_right _ (List.mem_of_getElem? (i := 365) (by decide +kernel))) rfl
theorem tw_366 : (Jvm.Cond.code ({ cls := "ReplayLink$End", name := "writeWord", desc := "(LReplayLink$Frame;I)V" } : Jvm.MethodName) prog_2_method_10_code (3 : Nat) (Option.none : Option Jvm.ClassFile.FieldType)) ∈ lw_g := tg_of (List.mem_append_right _ (List.mem_of_getElem? (i := 366) (by decide +kernel))) rfl
theorem tw_367 : (Jvm.Cond.methodLink "ReplayLink$End" (69 : Nat) ({ cls := "ReplayLink$Frame", name := "writeWord", desc := "(II)V" } : Jvm.MethodName)) ∈ lw_g := tg_of (List.mem_append_right _ (List.mem_of_getElem? (i := 367) (by decide +kernel))) rfl
theorem tw_368 : (Jvm.Cond.instanceMethod ({ cls := "ReplayLink$Frame", name := "writeWord", desc := "(II)V" } : Jvm.MethodName)) ∈ lw_g := tg_of (List.mem_append_right _ (List.mem_of_getElem? (i := 368) (by decide +kernel))) rfl
theorem tw_369 : (Jvm.Cond.selects "ReplayLink$Frame" ({ cls := "ReplayLink$Frame", name := "writeWord", desc := "(II)V" } : Jvm.MethodName) ({ cls := "ReplayLink$Frame", name := "writeWord", desc := "(II)V" } : Jvm.MethodName)) ∈ lw_g := tg_of (List.mem_append_right _ (List.mem_of_getElem? (i := 369) (by decide +kernel))) rfl
theorem tw_370 : (Jvm.Cond.code ({ cls := "ReplayLink$Frame", name := "writeWord", desc := "(II)V" } : Jvm.MethodName) prog_3_method_2_code (3 : Nat) (Option.none : Option Jvm.ClassFile.FieldType)) ∈ lw_g := tg_of (List.mem_append_right _ (List.mem_of_getElem? (i := 370) (by decide +kernel))) rfl
theorem tw_371 : (Jvm.Cond.methodLink "ReplayLink$Frame" (19 : Nat) ({ cls := "ReplayLink$Frame", name := "writeLowestFirst", desc := "(IIJ)V" } : Jvm.MethodName)) ∈ lw_g := tg_of (List.mem_append_right _ (List.mem_of_getElem? (i := 371) (by decide +kernel))) rfl
theorem tw_373 : (Jvm.Cond.instanceMethod ({ cls := "ReplayLink$Frame", name := "writeLowestFirst", desc := "(IIJ)V" } : Jvm.MethodName)) ∈ lw_g := tg_of (List.mem_append_right _ (List.mem_of_getElem? (i := 373) (by decide +kernel))) rfl
theorem tw_374 : (Jvm.Cond.code ({ cls := "ReplayLink$Frame", name := "writeLowestFirst", desc := "(IIJ)V" } : Jvm.MethodName) prog_3_method_10_code (6 : Nat) (Option.none : Option Jvm.ClassFile.FieldType)) ∈ lw_g := tg_of (List.mem_append_right _ (List.mem_of_getElem? (i := 374) (by decide +kernel))) rfl
theorem tw_375 : (Jvm.Cond.methodLink "ReplayLink$Link" (162 : Nat) ({ cls := "ReplayLink$End", name := "writePacket", desc := "(LReplayLink$Frame;II)V" } : Jvm.MethodName)) ∈ lw_g := tg_of (List.mem_append_right _ (List.mem_of_getElem? (i := 375) (by decide +kernel))) rfl
theorem tw_376 : (Jvm.Cond.instanceMethod ({ cls := "ReplayLink$End", name := "writePacket", desc := "(LReplayLink$Frame;II)V" } : Jvm.MethodName)) ∈ lw_g := tg_of (List.mem_append_right _ (List.mem_of_getElem? (i := 376) (by decide +kernel))) rfl
theorem tw_377 : (Jvm.Cond.selects "ReplayLink$End" ({ cls := "ReplayLink$End", name := "writePacket", desc := "(LReplayLink$Frame;II)V" } : Jvm.MethodName) ({ cls := "ReplayLink$End", name := "writePacket", desc := "(LReplayLink$Frame;II)V" } : Jvm.MethodName)) ∈ lw_g := tg_of (List.mem_append_right _ (List.mem_of_getElem? (i := 377) (by decide +kernel))) rfl
theorem tw_378 : (Jvm.Cond.code ({ cls := "ReplayLink$End", name := "writePacket", desc := "(LReplayLink$Frame;II)V" } : Jvm.MethodName) prog_2_method_9_code (4 : Nat) (Option.none : Option Jvm.ClassFile.FieldType)) ∈ lw_g := tg_of (List.mem_append_right _ (List.mem_of_getElem? (i := 378) (by decide +kernel))) rfl
theorem tw_379 : (Jvm.Cond.methodLink "ReplayLink$End" (60 : Nat) ({ cls := "ReplayLink$Frame", name := "writePacket", desc := "(IILReplayLink$Packets;I)V" } : Jvm.MethodName)) ∈ lw_g := tg_of (List.mem_append_right _ (List.mem_of_getElem? (i := 379) (by decide +kernel))) rfl
theorem tw_380 : (Jvm.Cond.instanceMethod ({ cls := "ReplayLink$Frame", name := "writePacket", desc := "(IILReplayLink$Packets;I)V" } : Jvm.MethodName)) ∈ lw_g := tg_of (List.mem_append_right _ (List.mem_of_getElem? (i := 380) (by decide +kernel))) rfl
theorem tw_381 : (Jvm.Cond.selects "ReplayLink$Frame" ({ cls := "ReplayLink$Frame", name := "writePacket", desc := "(IILReplayLink$Packets;I)V" } : Jvm.MethodName) ({ cls := "ReplayLink$Frame", name := "writePacket", desc := "(IILReplayLink$Packets;I)V" } : Jvm.MethodName)) ∈ lw_g := tg_of (List.mem_append_right _ (List.mem_of_getElem? (i := 381) (by decide +kernel))) rfl
theorem tw_382 : (Jvm.Cond.code ({ cls := "ReplayLink$Frame", name := "writePacket", desc := "(IILReplayLink$Packets;I)V" } : Jvm.MethodName) prog_3_method_3_code (9 : Nat) (Option.none : Option Jvm.ClassFile.FieldType)) ∈ lw_g := tg_of (List.mem_append_right _ (List.mem_of_getElem? (i := 382) (by decide +kernel))) rfl
theorem tw_383 : (Jvm.Cond.methodLink "ReplayLink$Frame" (33 : Nat) ({ cls := "java/lang/System", name := "arraycopy", desc := "(Ljava/lang/Object;ILjava/lang/Object;II)V" } : Jvm.MethodName)) ∈ lw_g := tg_of (List.mem_append_right _ (List.mem_of_getElem? (i := 383) (by decide +kernel))) rfl
theorem tw_384 : (Jvm.Cond.methodLink "ReplayLink$Link" (166 : Nat) ({ cls := "ReplayLink$End", name := "waiting", desc := "()I" } : Jvm.MethodName)) ∈ lw_g := tg_of (List.mem_append_right _ (List.mem_of_getElem? (i := 384) (by decide +kernel))) rfl
theorem tw_385 : (Jvm.Cond.methodLink "ReplayLink$Link" (169 : Nat) ({ cls := "ReplayLink$Link", name := "layNewPacket", desc := "(LReplayLink$End;LReplayLink$Frame;)V" } : Jvm.MethodName)) ∈ lw_g := tg_of (List.mem_append_right _ (List.mem_of_getElem? (i := 385) (by decide +kernel))) rfl
theorem tw_387 : (Jvm.Cond.instanceMethod ({ cls := "ReplayLink$Link", name := "layNewPacket", desc := "(LReplayLink$End;LReplayLink$Frame;)V" } : Jvm.MethodName)) ∈ lw_g := tg_of (List.mem_append_right _ (List.mem_of_getElem? (i := 387) (by decide +kernel))) rfl
theorem tw_388 : (Jvm.Cond.code ({ cls := "ReplayLink$Link", name := "layNewPacket", desc := "(LReplayLink$End;LReplayLink$Frame;)V" } : Jvm.MethodName) prog_4_method_16_code (3 : Nat) (Option.none : Option Jvm.ClassFile.FieldType)) ∈ lw_g := tg_of (List.mem_append_right _ (List.mem_of_getElem? (i := 388) (by decide +kernel))) rfl
theorem tw_389 : (Jvm.Cond.methodLink "ReplayLinkLaw" (39 : Nat) ({ cls := "ReplayLink", name := "settle", desc := "(I)I" } : Jvm.MethodName)) ∈ lw_g := tg_of (List.mem_append_right _ (List.mem_of_getElem? (i := 389) (by decide +kernel))) rfl
theorem tw_390 : (Jvm.Cond.instanceMethod ({ cls := "ReplayLink", name := "settle", desc := "(I)I" } : Jvm.MethodName)) ∈ lw_g := tg_of (List.mem_append_right _ (List.mem_of_getElem? (i := 390) (by decide +kernel))) rfl
theorem tw_391 : (Jvm.Cond.selects "ReplayLink" ({ cls := "ReplayLink", name := "settle", desc := "(I)I" } : Jvm.MethodName) ({ cls := "ReplayLink", name := "settle", desc := "(I)I" } : Jvm.MethodName)) ∈ lw_g := tg_of (List.mem_append_right _ (List.mem_of_getElem? (i := 391) (by decide +kernel))) rfl
theorem tw_392 : (Jvm.Cond.code ({ cls := "ReplayLink", name := "settle", desc := "(I)I" } : Jvm.MethodName) prog_1_method_7_code (3 : Nat) (Option.some Jvm.ClassFile.FieldType.int)) ∈ lw_g := tg_of (List.mem_append_right _ (List.mem_of_getElem? (i := 392) (by decide +kernel))) rfl
theorem tw_393 : (Jvm.Cond.methodLink "ReplayLink" (74 : Nat) ({ cls := "ReplayLink$Link", name := "isQuiet", desc := "()Z" } : Jvm.MethodName)) ∈ lw_g := tg_of (List.mem_append_right _ (List.mem_of_getElem? (i := 393) (by decide +kernel))) rfl
theorem tw_394 : (Jvm.Cond.instanceMethod ({ cls := "ReplayLink$Link", name := "isQuiet", desc := "()Z" } : Jvm.MethodName)) ∈ lw_g := tg_of (List.mem_append_right _ (List.mem_of_getElem? (i := 394) (by decide +kernel))) rfl
theorem tw_395 : (Jvm.Cond.selects "ReplayLink$Link" ({ cls := "ReplayLink$Link", name := "isQuiet", desc := "()Z" } : Jvm.MethodName) ({ cls := "ReplayLink$Link", name := "isQuiet", desc := "()Z" } : Jvm.MethodName)) ∈ lw_g := tg_of (List.mem_append_right _ (List.mem_of_getElem? (i := 395) (by decide +kernel))) rfl
theorem tw_396 : (Jvm.Cond.code ({ cls := "ReplayLink$Link", name := "isQuiet", desc := "()Z" } : Jvm.MethodName) prog_4_method_6_code (1 : Nat) (Option.some Jvm.ClassFile.FieldType.boolean)) ∈ lw_g := tg_of (List.mem_append_right _ (List.mem_of_getElem? (i := 396) (by decide +kernel))) rfl
theorem tw_397 : (Jvm.Cond.methodLink "ReplayLink$Link" (60 : Nat) ({ cls := "ReplayLink$End", name := "isQuiet", desc := "()Z" } : Jvm.MethodName)) ∈ lw_g := tg_of (List.mem_append_right _ (List.mem_of_getElem? (i := 397) (by decide +kernel))) rfl
theorem tw_398 : (Jvm.Cond.instanceMethod ({ cls := "ReplayLink$End", name := "isQuiet", desc := "()Z" } : Jvm.MethodName)) ∈ lw_g := tg_of (List.mem_append_right _ (List.mem_of_getElem? (i := 398) (by decide +kernel))) rfl
theorem tw_399 : (Jvm.Cond.selects "ReplayLink$End" ({ cls := "ReplayLink$End", name := "isQuiet", desc := "()Z" } : Jvm.MethodName) ({ cls := "ReplayLink$End", name := "isQuiet", desc := "()Z" } : Jvm.MethodName)) ∈ lw_g := tg_of (List.mem_append_right _ (List.mem_of_getElem? (i := 399) (by decide +kernel))) rfl
theorem tw_400 : (Jvm.Cond.code ({ cls := "ReplayLink$End", name := "isQuiet", desc := "()Z" } : Jvm.MethodName) prog_2_method_15_code (1 : Nat) (Option.some Jvm.ClassFile.FieldType.boolean)) ∈ lw_g := tg_of (List.mem_append_right _ (List.mem_of_getElem? (i := 400) (by decide +kernel))) rfl
theorem tw_401 : (Jvm.Cond.methodLink "ReplayLink$End" (102 : Nat) ({ cls := "ReplayLink$End", name := "waiting", desc := "()I" } : Jvm.MethodName)) ∈ lw_g := tg_of (List.mem_append_right _ (List.mem_of_getElem? (i := 401) (by decide +kernel))) rfl
theorem tw_402 : (Jvm.Cond.methodLink "ReplayLinkLaw" (43 : Nat) ({ cls := "ReplayLink", name := "voids", desc := "(I)I" } : Jvm.MethodName)) ∈ lw_g := tg_of (List.mem_append_right _ (List.mem_of_getElem? (i := 402) (by decide +kernel))) rfl
theorem tw_403 : (Jvm.Cond.instanceMethod ({ cls := "ReplayLink", name := "voids", desc := "(I)I" } : Jvm.MethodName)) ∈ lw_g := tg_of (List.mem_append_right _ (List.mem_of_getElem? (i := 403) (by decide +kernel))) rfl
theorem tw_404 : (Jvm.Cond.selects "ReplayLink" ({ cls := "ReplayLink", name := "voids", desc := "(I)I" } : Jvm.MethodName) ({ cls := "ReplayLink", name := "voids", desc := "(I)I" } : Jvm.MethodName)) ∈ lw_g := tg_of (List.mem_append_right _ (List.mem_of_getElem? (i := 404) (by decide +kernel))) rfl
theorem tw_405 : (Jvm.Cond.code ({ cls := "ReplayLink", name := "voids", desc := "(I)I" } : Jvm.MethodName) prog_1_method_8_code (4 : Nat) (Option.some Jvm.ClassFile.FieldType.int)) ∈ lw_g := tg_of (List.mem_append_right _ (List.mem_of_getElem? (i := 405) (by decide +kernel))) rfl
theorem tw_406 : (Jvm.Cond.methodLink "ReplayLink" (82 : Nat) ({ cls := "ReplayLink", name := "asNumber", desc := "(Z)I" } : Jvm.MethodName)) ∈ lw_g := tg_of (List.mem_append_right _ (List.mem_of_getElem? (i := 406) (by decide +kernel))) rfl
theorem tw_407 : (Jvm.Cond.static ({ cls := "ReplayLink", name := "asNumber", desc := "(Z)I" } : Jvm.MethodName)) ∈ lw_g := tg_of (List.mem_append_right _ (List.mem_of_getElem? (i := 407) (by decide +kernel))) rfl
theorem tw_408 : (Jvm.Cond.code ({ cls := "ReplayLink", name := "asNumber", desc := "(Z)I" } : Jvm.MethodName) prog_1_method_22_code (1 : Nat) (Option.some Jvm.ClassFile.FieldType.int)) ∈ lw_g := tg_of (List.mem_append_right _ (List.mem_of_getElem? (i := 408) (by decide +kernel))) rfl
theorem tw_409 : (Jvm.Cond.methodLink "ReplayLinkLaw" (47 : Nat) ({ cls := "ReplayLink", name := "bend", desc := "(IIII)I" } : Jvm.MethodName)) ∈ lw_g := tg_of (List.mem_append_right _ (List.mem_of_getElem? (i := 409) (by decide +kernel))) rfl
theorem tw_410 : (Jvm.Cond.instanceMethod ({ cls := "ReplayLink", name := "bend", desc := "(IIII)I" } : Jvm.MethodName)) ∈ lw_g := tg_of (List.mem_append_right _ (List.mem_of_getElem? (i := 410) (by decide +kernel))) rfl
theorem tw_411 : (Jvm.Cond.selects "ReplayLink" ({ cls := "ReplayLink", name := "bend", desc := "(IIII)I" } : Jvm.MethodName) ({ cls := "ReplayLink", name := "bend", desc := "(IIII)I" } : Jvm.MethodName)) ∈ lw_g := tg_of (List.mem_append_right _ (List.mem_of_getElem? (i := 411) (by decide +kernel))) rfl
theorem tw_412 : (Jvm.Cond.code ({ cls := "ReplayLink", name := "bend", desc := "(IIII)I" } : Jvm.MethodName) prog_1_method_9_code (6 : Nat) (Option.some Jvm.ClassFile.FieldType.int)) ∈ lw_g := tg_of (List.mem_append_right _ (List.mem_of_getElem? (i := 412) (by decide +kernel))) rfl
theorem tw_413 : (Jvm.Cond.methodLink "ReplayLink" (86 : Nat) ({ cls := "ReplayLink", name := "isNoFrame", desc := "(II)Z" } : Jvm.MethodName)) ∈ lw_g := tg_of (List.mem_append_right _ (List.mem_of_getElem? (i := 413) (by decide +kernel))) rfl
theorem tw_415 : (Jvm.Cond.instanceMethod ({ cls := "ReplayLink", name := "isNoFrame", desc := "(II)Z" } : Jvm.MethodName)) ∈ lw_g := tg_of (List.mem_append_right _ (List.mem_of_getElem? (i := 415) (by decide +kernel))) rfl
theorem tw_416 : (Jvm.Cond.code ({ cls := "ReplayLink", name := "isNoFrame", desc := "(II)Z" } : Jvm.MethodName) prog_1_method_19_code (3 : Nat) (Option.some Jvm.ClassFile.FieldType.boolean)) ∈ lw_g := tg_of (List.mem_append_right _ (List.mem_of_getElem? (i := 416) (by decide +kernel))) rfl
theorem tw_417 : (Jvm.Cond.methodLink "ReplayLinkLaw" (52 : Nat) ({ cls := "ReplayLink", name := "lose", desc := "(II)I" } : Jvm.MethodName)) ∈ lw_g := tg_of (List.mem_append_right _ (List.mem_of_getElem? (i := 417) (by decide +kernel))) rfl
theorem tw_418 : (Jvm.Cond.instanceMethod ({ cls := "ReplayLink", name := "lose", desc := "(II)I" } : Jvm.MethodName)) ∈ lw_g := tg_of (List.mem_append_right _ (List.mem_of_getElem? (i := 418) (by decide +kernel))) rfl
theorem tw_419 : (Jvm.Cond.selects "ReplayLink" ({ cls := "ReplayLink", name := "lose", desc := "(II)I" } : Jvm.MethodName) ({ cls := "ReplayLink", name := "lose", desc := "(II)I" } : Jvm.MethodName)) ∈ lw_g := tg_of (List.mem_append_right _ (List.mem_of_getElem? (i := 419) (by decide +kernel))) rfl
theorem tw_420 : (Jvm.Cond.code ({ cls := "ReplayLink", name := "lose", desc := "(II)I" } : Jvm.MethodName) prog_1_method_10_code (4 : Nat) (Option.some Jvm.ClassFile.FieldType.int)) ∈ lw_g := tg_of (List.mem_append_right _ (List.mem_of_getElem? (i := 420) (by decide +kernel))) rfl
theorem tw_421 : (Jvm.Cond.methodLink "ReplayLink" (108 : Nat) ({ cls := "ReplayLink$Wire", name := "takeOff", desc := "(I)LReplayLink$Frame;" } : Jvm.MethodName)) ∈ lw_g := tg_of (List.mem_append_right _ (List.mem_of_getElem? (i := 421) (by decide +kernel))) rfl
theorem tw_422 : (Jvm.Cond.methodLink "ReplayLinkLaw" (56 : Nat) ({ cls := "ReplayLink", name := "twice", desc := "(II)I" } : Jvm.MethodName)) ∈ lw_g := tg_of (List.mem_append_right _ (List.mem_of_getElem? (i := 422) (by decide +kernel))) rfl
theorem tw_423 : (Jvm.Cond.instanceMethod ({ cls := "ReplayLink", name := "twice", desc := "(II)I" } : Jvm.MethodName)) ∈ lw_g := tg_of (List.mem_append_right _ (List.mem_of_getElem? (i := 423) (by decide +kernel))) rfl
theorem tw_424 : (Jvm.Cond.selects "ReplayLink" ({ cls := "ReplayLink", name := "twice", desc := "(II)I" } : Jvm.MethodName) ({ cls := "ReplayLink", name := "twice", desc := "(II)I" } : Jvm.MethodName)) ∈ lw_g := tg_of (List.mem_append_right _ (List.mem_of_getElem? (i := 424) (by decide +kernel))) rfl
theorem tw_425 : (Jvm.Cond.code ({ cls := "ReplayLink", name := "twice", desc := "(II)I" } : Jvm.MethodName) prog_1_method_11_code (4 : Nat) (Option.some Jvm.ClassFile.FieldType.int)) ∈ lw_g := tg_of (List.mem_append_right _ (List.mem_of_getElem? (i := 425) (by decide +kernel))) rfl
theorem tw_426 : (Jvm.Cond.methodLink "ReplayLink" (115 : Nat) ({ cls := "ReplayLink$Wire", name := "repeat", desc := "(I)V" } : Jvm.MethodName)) ∈ lw_g := tg_of (List.mem_append_right _ (List.mem_of_getElem? (i := 426) (by decide +kernel))) rfl
theorem tw_427 : (Jvm.Cond.instanceMethod ({ cls := "ReplayLink$Wire", name := "repeat", desc := "(I)V" } : Jvm.MethodName)) ∈ lw_g := tg_of (List.mem_append_right _ (List.mem_of_getElem? (i := 427) (by decide +kernel))) rfl
theorem tw_428 : (Jvm.Cond.selects "ReplayLink$Wire" ({ cls := "ReplayLink$Wire", name := "repeat", desc := "(I)V" } : Jvm.MethodName) ({ cls := "ReplayLink$Wire", name := "repeat", desc := "(I)V" } : Jvm.MethodName)) ∈ lw_g := tg_of (List.mem_append_right _ (List.mem_of_getElem? (i := 428) (by decide +kernel))) rfl
theorem tw_429 : (Jvm.Cond.code ({ cls := "ReplayLink$Wire", name := "repeat", desc := "(I)V" } : Jvm.MethodName) prog_6_method_4_code (4 : Nat) (Option.none : Option Jvm.ClassFile.FieldType)) ∈ lw_g := tg_of (List.mem_append_right _ (List.mem_of_getElem? (i := 429) (by decide +kernel))) rfl
theorem tw_430 : (Jvm.Cond.methodLink "ReplayLink$Wire" (29 : Nat) ({ cls := "ReplayLink$Frame", name := "copyFrom", desc := "(LReplayLink$Frame;)V" } : Jvm.MethodName)) ∈ lw_g := tg_of (List.mem_append_right _ (List.mem_of_getElem? (i := 430) (by decide +kernel))) rfl
theorem tw_431 : (Jvm.Cond.instanceMethod ({ cls := "ReplayLink$Frame", name := "copyFrom", desc := "(LReplayLink$Frame;)V" } : Jvm.MethodName)) ∈ lw_g := tg_of (List.mem_append_right _ (List.mem_of_getElem? (i := 431) (by decide +kernel))) rfl
theorem tw_432 : (Jvm.Cond.selects "ReplayLink$Frame" ({ cls := "ReplayLink$Frame", name := "copyFrom", desc := "(LReplayLink$Frame;)V" } : Jvm.MethodName) ({ cls := "ReplayLink$Frame", name := "copyFrom", desc := "(LReplayLink$Frame;)V" } : Jvm.MethodName)) ∈ lw_g := tg_of (List.mem_append_right _ (List.mem_of_getElem? (i := 432) (by decide +kernel))) rfl
theorem tw_433 : (Jvm.Cond.code ({ cls := "ReplayLink$Frame", name := "copyFrom", desc := "(LReplayLink$Frame;)V" } : Jvm.MethodName) prog_3_method_7_code (2 : Nat) (Option.none : Option Jvm.ClassFile.FieldType)) ∈ lw_g := tg_of (List.mem_append_right _ (List.mem_of_getElem? (i := 433) (by decide +kernel))) rfl
theorem tw_434 : (Jvm.Cond.methodLink "ReplayLinkLaw" (60 : Nat) ({ cls := "ReplayLink", name := "wire", desc := "(III)I" } : Jvm.MethodName)) ∈ lw_g := tg_of (List.mem_append_right _ (List.mem_of_getElem? (i := 434) (by decide +kernel))) rfl
theorem tw_435 : (Jvm.Cond.instanceMethod ({ cls := "ReplayLink", name := "wire", desc := "(III)I" } : Jvm.MethodName)) ∈ lw_g := tg_of (List.mem_append_right _ (List.mem_of_getElem? (i := 435) (by decide +kernel))) rfl
theorem tw_436 : (Jvm.Cond.selects "ReplayLink" ({ cls := "ReplayLink", name := "wire", desc := "(III)I" } : Jvm.MethodName) ({ cls := "ReplayLink", name := "wire", desc := "(III)I" } : Jvm.MethodName)) ∈ lw_g := tg_of (List.mem_append_right _ (List.mem_of_getElem? (i := 436) (by decide +kernel))) rfl
theorem tw_437 : (Jvm.Cond.code ({ cls := "ReplayLink", name := "wire", desc := "(III)I" } : Jvm.MethodName) prog_1_method_12_code (5 : Nat) (Option.some Jvm.ClassFile.FieldType.int)) ∈ lw_g := tg_of (List.mem_append_right _ (List.mem_of_getElem? (i := 437) (by decide +kernel))) rfl
theorem tw_438 : (Jvm.Cond.methodLink "ReplayLink" (122 : Nat) ({ cls := "ReplayLink$Frame", name := "readAs", desc := "()I" } : Jvm.MethodName)) ∈ lw_g := tg_of (List.mem_append_right _ (List.mem_of_getElem? (i := 438) (by decide +kernel))) rfl
theorem tw_439 : (Jvm.Cond.methodLink "ReplayLinkLaw" (65 : Nat) ({ cls := "ReplayLink", name := "end", desc := "(II)I" } : Jvm.MethodName)) ∈ lw_g := tg_of (List.mem_append_right _ (List.mem_of_getElem? (i := 439) (by decide +kernel))) rfl
theorem tw_440 : (Jvm.Cond.instanceMethod ({ cls := "ReplayLink", name := "end", desc := "(II)I" } : Jvm.MethodName)) ∈ lw_g := tg_of (List.mem_append_right _ (List.mem_of_getElem? (i := 440) (by decide +kernel))) rfl
theorem tw_441 : (Jvm.Cond.selects "ReplayLink" ({ cls := "ReplayLink", name := "end", desc := "(II)I" } : Jvm.MethodName) ({ cls := "ReplayLink", name := "end", desc := "(II)I" } : Jvm.MethodName)) ∈ lw_g := tg_of (List.mem_append_right _ (List.mem_of_getElem? (i := 441) (by decide +kernel))) rfl
theorem tw_442 : (Jvm.Cond.code ({ cls := "ReplayLink", name := "end", desc := "(II)I" } : Jvm.MethodName) prog_1_method_13_code (3 : Nat) (Option.some Jvm.ClassFile.FieldType.int)) ∈ lw_g := tg_of (List.mem_append_right _ (List.mem_of_getElem? (i := 442) (by decide +kernel))) rfl
theorem tw_443 : (Jvm.Cond.methodLink "ReplayLink" (125 : Nat) ({ cls := "ReplayLink$End", name := "tell", desc := "(I)I" } : Jvm.MethodName)) ∈ lw_g := tg_of (List.mem_append_right _ (List.mem_of_getElem? (i := 443) (by decide +kernel))) rfl
theorem tw_444 : (Jvm.Cond.instanceMethod ({ cls := "ReplayLink$End", name := "tell", desc := "(I)I" } : Jvm.MethodName)) ∈ lw_g := tg_of (List.mem_append_right _ (List.mem_of_getElem? (i := 444) (by decide +kernel))) rfl
theorem tw_445 : (Jvm.Cond.selects "ReplayLink$End" ({ cls := "ReplayLink$End", name := "tell", desc := "(I)I" } : Jvm.MethodName) ({ cls := "ReplayLink$End", name := "tell", desc := "(I)I" } : Jvm.MethodName)) ∈ lw_g := tg_of (List.mem_append_right _ (List.mem_of_getElem? (i := 445) (by decide +kernel))) rfl
theorem tw_446 : (Jvm.Cond.code ({ cls := "ReplayLink$End", name := "tell", desc := "(I)I" } : Jvm.MethodName) prog_2_method_16_code (2 : Nat) (Option.some Jvm.ClassFile.FieldType.int)) ∈ lw_g := tg_of (List.mem_append_right _ (List.mem_of_getElem? (i := 446) (by decide +kernel))) rfl
theorem tw_447 : (Jvm.Cond.methodLink "ReplayLink$End" (105 : Nat) ({ cls := "ReplayLink$End", name := "nextNumber", desc := "()I" } : Jvm.MethodName)) ∈ lw_g := tg_of (List.mem_append_right _ (List.mem_of_getElem? (i := 447) (by decide +kernel))) rfl
theorem tw_449 : (Jvm.Cond.methodLink "ReplayLinkLaw" (69 : Nat) ({ cls := "ReplayLink", name := "up", desc := "(II)I" } : Jvm.MethodName)) ∈ lw_g := tg_of (List.mem_append_right _ (List.mem_of_getElem? (i := 449) (by decide +kernel))) rfl
theorem tw_450 : (Jvm.Cond.instanceMethod ({ cls := "ReplayLink", name := "up", desc := "(II)I" } : Jvm.MethodName)) ∈ lw_g := tg_of (List.mem_append_right _ (List.mem_of_getElem? (i := 450) (by decide +kernel))) rfl
theorem tw_451 : (Jvm.Cond.selects "ReplayLink" ({ cls := "ReplayLink", name := "up", desc := "(II)I" } : Jvm.MethodName) ({ cls := "ReplayLink", name := "up", desc := "(II)I" } : Jvm.MethodName)) ∈ lw_g := tg_of (List.mem_append_right _ (List.mem_of_getElem? (i := 451) (by decide +kernel))) rfl
theorem tw_452 : (Jvm.Cond.code ({ cls := "ReplayLink", name := "up", desc := "(II)I" } : Jvm.MethodName) prog_1_method_14_code (4 : Nat) (Option.some Jvm.ClassFile.FieldType.int)) ∈ lw_g := tg_of (List.mem_append_right _ (List.mem_of_getElem? (i := 452) (by decide +kernel))) rfl
theorem tw_453 : (Jvm.Cond.methodLink "ReplayLink" (128 : Nat) ({ cls := "ReplayLink$End", name := "keptUp", desc := "()I" } : Jvm.MethodName)) ∈ lw_g := tg_of (List.mem_append_right _ (List.mem_of_getElem? (i := 453) (by decide +kernel))) rfl
theorem tw_454 : (Jvm.Cond.instanceMethod ({ cls := "ReplayLink$End", name := "keptUp", desc := "()I" } : Jvm.MethodName)) ∈ lw_g := tg_of (List.mem_append_right _ (List.mem_of_getElem? (i := 454) (by decide +kernel))) rfl
theorem tw_455 : (Jvm.Cond.selects "ReplayLink$End" ({ cls := "ReplayLink$End", name := "keptUp", desc := "()I" } : Jvm.MethodName) ({ cls := "ReplayLink$End", name := "keptUp", desc := "()I" } : Jvm.MethodName)) ∈ lw_g := tg_of (List.mem_append_right _ (List.mem_of_getElem? (i := 455) (by decide +kernel))) rfl
theorem tw_456 : (Jvm.Cond.code ({ cls := "ReplayLink$End", name := "keptUp", desc := "()I" } : Jvm.MethodName) prog_2_method_6_code (1 : Nat) (Option.some Jvm.ClassFile.FieldType.int)) ∈ lw_g := tg_of (List.mem_append_right _ (List.mem_of_getElem? (i := 456) (by decide +kernel))) rfl
theorem tw_457 : (Jvm.Cond.methodLink "ReplayLinkLaw" (73 : Nat) ({ cls := "ReplayLink", name := "upByte", desc := "(III)I" } : Jvm.MethodName)) ∈ lw_g := tg_of (List.mem_append_right _ (List.mem_of_getElem? (i := 457) (by decide +kernel))) rfl
theorem tw_458 : (Jvm.Cond.instanceMethod ({ cls := "ReplayLink", name := "upByte", desc := "(III)I" } : Jvm.MethodName)) ∈ lw_g := tg_of (List.mem_append_right _ (List.mem_of_getElem? (i := 458) (by decide +kernel))) rfl
theorem tw_459 : (Jvm.Cond.selects "ReplayLink" ({ cls := "ReplayLink", name := "upByte", desc := "(III)I" } : Jvm.MethodName) ({ cls := "ReplayLink", name := "upByte", desc := "(III)I" } : Jvm.MethodName)) ∈ lw_g := tg_of (List.mem_append_right _ (List.mem_of_getElem? (i := 459) (by decide +kernel))) rfl
theorem tw_460 : (Jvm.Cond.code ({ cls := "ReplayLink", name := "upByte", desc := "(III)I" } : Jvm.MethodName) prog_1_method_15_code (5 : Nat) (Option.some Jvm.ClassFile.FieldType.int)) ∈ lw_g := tg_of (List.mem_append_right _ (List.mem_of_getElem? (i := 460) (by decide +kernel))) rfl
theorem tw_461 : (Jvm.Cond.methodLink "ReplayLink" (140 : Nat) ({ cls := "ReplayLink$Packets", name := "byteOf", desc := "(II)I" } : Jvm.MethodName)) ∈ lw_g := tg_of (List.mem_append_right _ (List.mem_of_getElem? (i := 461) (by decide +kernel))) rfl
theorem tw_462 : (Jvm.Cond.instanceMethod ({ cls := "ReplayLink$Packets", name := "byteOf", desc := "(II)I" } : Jvm.MethodName)) ∈ lw_g := tg_of (List.mem_append_right _ (List.mem_of_getElem? (i := 462) (by decide +kernel))) rfl
theorem tw_463 : (Jvm.Cond.selects "ReplayLink$Packets" ({ cls := "ReplayLink$Packets", name := "byteOf", desc := "(II)I" } : Jvm.MethodName) ({ cls := "ReplayLink$Packets", name := "byteOf", desc := "(II)I" } : Jvm.MethodName)) ∈ lw_g := tg_of (List.mem_append_right _ (List.mem_of_getElem? (i := 463) (by decide +kernel))) rfl
theorem tw_464 : (Jvm.Cond.code ({ cls := "ReplayLink$Packets", name := "byteOf", desc := "(II)I" } : Jvm.MethodName) prog_5_method_3_code (3 : Nat) (Option.some Jvm.ClassFile.FieldType.int)) ∈ lw_g := tg_of (List.mem_append_right _ (List.mem_of_getElem? (i := 464) (by decide +kernel))) rfl
theorem tw_465 : (Jvm.Cond.methodLink "ReplayLinkLaw" (77 : Nat) ({ cls := "ReplayLink", name := "count", desc := "(I)I" } : Jvm.MethodName)) ∈ lw_g := tg_of (List.mem_append_right _ (List.mem_of_getElem? (i := 465) (by decide +kernel))) rfl
theorem tw_466 : (Jvm.Cond.instanceMethod ({ cls := "ReplayLink", name := "count", desc := "(I)I" } : Jvm.MethodName)) ∈ lw_g := tg_of (List.mem_append_right _ (List.mem_of_getElem? (i := 466) (by decide +kernel))) rfl
theorem tw_467 : (Jvm.Cond.selects "ReplayLink" ({ cls := "ReplayLink", name := "count", desc := "(I)I" } : Jvm.MethodName) ({ cls := "ReplayLink", name := "count", desc := "(I)I" } : Jvm.MethodName)) ∈ lw_g := tg_of (List.mem_append_right _ (List.mem_of_getElem? (i := 467) (by decide +kernel))) rfl
theorem tw_468 : (Jvm.Cond.code ({ cls := "ReplayLink", name := "count", desc := "(I)I" } : Jvm.MethodName) prog_1_method_16_code (2 : Nat) (Option.some Jvm.ClassFile.FieldType.int)) ∈ lw_g := tg_of (List.mem_append_right _ (List.mem_of_getElem? (i := 468) (by decide +kernel))) rfl
theorem tw_469 : (Jvm.Cond.methodLink "ReplayLinkLaw" (81 : Nat) ({ cls := "ReplayLink", name := "keep", desc := "(I)I" } : Jvm.MethodName)) ∈ lw_g := tg_of (List.mem_append_right _ (List.mem_of_getElem? (i := 469) (by decide +kernel))) rfl
theorem tw_470 : (Jvm.Cond.instanceMethod ({ cls := "ReplayLink", name := "keep", desc := "(I)I" } : Jvm.MethodName)) ∈ lw_g := tg_of (List.mem_append_right _ (List.mem_of_getElem? (i := 470) (by decide +kernel))) rfl
theorem tw_471 : (Jvm.Cond.selects "ReplayLink" ({ cls := "ReplayLink", name := "keep", desc := "(I)I" } : Jvm.MethodName) ({ cls := "ReplayLink", name := "keep", desc := "(I)I" } : Jvm.MethodName)) ∈ lw_g := tg_of (List.mem_append_right _ (List.mem_of_getElem? (i := 471) (by decide +kernel))) rfl
theorem tw_472 : (Jvm.Cond.code ({ cls := "ReplayLink", name := "keep", desc := "(I)I" } : Jvm.MethodName) prog_1_method_17_code (3 : Nat) (Option.some Jvm.ClassFile.FieldType.int)) ∈ lw_g := tg_of (List.mem_append_right _ (List.mem_of_getElem? (i := 472) (by decide +kernel))) rfl
theorem tw_473 : (Jvm.Cond.methodLink "ReplayLink" (150 : Nat) ({ cls := "ReplayLink", name := "isNoPlaceToKeep", desc := "(I)Z" } : Jvm.MethodName)) ∈ lw_g := tg_of (List.mem_append_right _ (List.mem_of_getElem? (i := 473) (by decide +kernel))) rfl
theorem tw_475 : (Jvm.Cond.instanceMethod ({ cls := "ReplayLink", name := "isNoPlaceToKeep", desc := "(I)Z" } : Jvm.MethodName)) ∈ lw_g := tg_of (List.mem_append_right _ (List.mem_of_getElem? (i := 475) (by decide +kernel))) rfl
theorem tw_476 : (Jvm.Cond.code ({ cls := "ReplayLink", name := "isNoPlaceToKeep", desc := "(I)Z" } : Jvm.MethodName) prog_1_method_20_code (2 : Nat) (Option.some Jvm.ClassFile.FieldType.boolean)) ∈ lw_g := tg_of (List.mem_append_right _ (List.mem_of_getElem? (i := 476) (by decide +kernel))) rfl
theorem tw_477 : (Jvm.Cond.methodLink "ReplayLink" (153 : Nat) ({ cls := "ReplayLink$Link", name := "copyFrom", desc := "(LReplayLink$Link;)V" } : Jvm.MethodName)) ∈ lw_g := tg_of (List.mem_append_right _ (List.mem_of_getElem? (i := 477) (by decide +kernel))) rfl
theorem tw_478 : (Jvm.Cond.instanceMethod ({ cls := "ReplayLink$Link", name := "copyFrom", desc := "(LReplayLink$Link;)V" } : Jvm.MethodName)) ∈ lw_g := tg_of (List.mem_append_right _ (List.mem_of_getElem? (i := 478) (by decide +kernel))) rfl
theorem tw_479 : (Jvm.Cond.selects "ReplayLink$Link" ({ cls := "ReplayLink$Link", name := "copyFrom", desc := "(LReplayLink$Link;)V" } : Jvm.MethodName) ({ cls := "ReplayLink$Link", name := "copyFrom", desc := "(LReplayLink$Link;)V" } : Jvm.MethodName)) ∈ lw_g := tg_of (List.mem_append_right _ (List.mem_of_getElem? (i := 479) (by decide +kernel))) rfl
theorem tw_480 : (Jvm.Cond.code ({ cls := "ReplayLink$Link", name := "copyFrom", desc := "(LReplayLink$Link;)V" } : Jvm.MethodName) prog_4_method_7_code (3 : Nat) (Option.none : Option Jvm.ClassFile.FieldType)) ∈ lw_g := tg_of (List.mem_append_right _ (List.mem_of_getElem? (i := 480) (by decide +kernel))) rfl
theorem tw_481 : (Jvm.Cond.methodLink "ReplayLink$Link" (64 : Nat) ({ cls := "ReplayLink$End", name := "copyFrom", desc := "(LReplayLink$End;)V" } : Jvm.MethodName)) ∈ lw_g := tg_of (List.mem_append_right _ (List.mem_of_getElem? (i := 481) (by decide +kernel))) rfl
theorem tw_482 : (Jvm.Cond.instanceMethod ({ cls := "ReplayLink$End", name := "copyFrom", desc := "(LReplayLink$End;)V" } : Jvm.MethodName)) ∈ lw_g := tg_of (List.mem_append_right _ (List.mem_of_getElem? (i := 482) (by decide +kernel))) rfl
theorem tw_483 : (Jvm.Cond.selects "ReplayLink$End" ({ cls := "ReplayLink$End", name := "copyFrom", desc := "(LReplayLink$End;)V" } : Jvm.MethodName) ({ cls := "ReplayLink$End", name := "copyFrom", desc := "(LReplayLink$End;)V" } : Jvm.MethodName)) ∈ lw_g := tg_of (List.mem_append_right _ (List.mem_of_getElem? (i := 483) (by decide +kernel))) rfl
theorem tw_484 : (Jvm.Cond.code ({ cls := "ReplayLink$End", name := "copyFrom", desc := "(LReplayLink$End;)V" } : Jvm.MethodName) prog_2_method_17_code (2 : Nat) (Option.none : Option Jvm.ClassFile.FieldType)) ∈ lw_g := tg_of (List.mem_append_right _ (List.mem_of_getElem? (i := 484) (by decide +kernel))) rfl
theorem tw_485 : (Jvm.Cond.methodLink "ReplayLink$End" (112 : Nat) ({ cls := "java/lang/System", name := "arraycopy", desc := "(Ljava/lang/Object;ILjava/lang/Object;II)V" } : Jvm.MethodName)) ∈ lw_g := tg_of (List.mem_append_right _ (List.mem_of_getElem? (i := 485) (by decide +kernel))) rfl
theorem tw_486 : (Jvm.Cond.methodLink "ReplayLink$End" (118 : Nat) ({ cls := "ReplayLink$Packets", name := "copyFrom", desc := "(LReplayLink$Packets;)V" } : Jvm.MethodName)) ∈ lw_g := tg_of (List.mem_append_right _ (List.mem_of_getElem? (i := 486) (by decide +kernel))) rfl
theorem tw_487 : (Jvm.Cond.instanceMethod ({ cls := "ReplayLink$Packets", name := "copyFrom", desc := "(LReplayLink$Packets;)V" } : Jvm.MethodName)) ∈ lw_g := tg_of (List.mem_append_right _ (List.mem_of_getElem? (i := 487) (by decide +kernel))) rfl
theorem tw_488 : (Jvm.Cond.selects "ReplayLink$Packets" ({ cls := "ReplayLink$Packets", name := "copyFrom", desc := "(LReplayLink$Packets;)V" } : Jvm.MethodName) ({ cls := "ReplayLink$Packets", name := "copyFrom", desc := "(LReplayLink$Packets;)V" } : Jvm.MethodName)) ∈ lw_g := tg_of (List.mem_append_right _ (List.mem_of_getElem? (i := 488) (by decide +kernel))) rfl
theorem tw_489 : (Jvm.Cond.code ({ cls := "ReplayLink$Packets", name := "copyFrom", desc := "(LReplayLink$Packets;)V" } : Jvm.MethodName) prog_5_method_4_code (2 : Nat) (Option.none : Option Jvm.ClassFile.FieldType)) ∈ lw_g := tg_of (List.mem_append_right _ (List.mem_of_getElem? (i := 489) (by decide +kernel))) rfl
theorem tw_490 : (Jvm.Cond.methodLink "ReplayLink$Link" (67 : Nat) ({ cls := "ReplayLink$Wire", name := "copyFrom", desc := "(LReplayLink$Wire;)V" } : Jvm.MethodName)) ∈ lw_g := tg_of (List.mem_append_right _ (List.mem_of_getElem? (i := 490) (by decide +kernel))) rfl
theorem tw_491 : (Jvm.Cond.instanceMethod ({ cls := "ReplayLink$Wire", name := "copyFrom", desc := "(LReplayLink$Wire;)V" } : Jvm.MethodName)) ∈ lw_g := tg_of (List.mem_append_right _ (List.mem_of_getElem? (i := 491) (by decide +kernel))) rfl
theorem tw_492 : (Jvm.Cond.selects "ReplayLink$Wire" ({ cls := "ReplayLink$Wire", name := "copyFrom", desc := "(LReplayLink$Wire;)V" } : Jvm.MethodName) ({ cls := "ReplayLink$Wire", name := "copyFrom", desc := "(LReplayLink$Wire;)V" } : Jvm.MethodName)) ∈ lw_g := tg_of (List.mem_append_right _ (List.mem_of_getElem? (i := 492) (by decide +kernel))) rfl
theorem tw_493 : (Jvm.Cond.code ({ cls := "ReplayLink$Wire", name := "copyFrom", desc := "(LReplayLink$Wire;)V" } : Jvm.MethodName) prog_6_method_6_code (3 : Nat) (Option.none : Option Jvm.ClassFile.FieldType)) ∈ lw_g := tg_of (List.mem_append_right _ (List.mem_of_getElem? (i := 493) (by decide +kernel))) rfl
theorem tw_494 : (Jvm.Cond.methodLink "ReplayLink$Link" (70 : Nat) ({ cls := "java/lang/System", name := "arraycopy", desc := "(Ljava/lang/Object;ILjava/lang/Object;II)V" } : Jvm.MethodName)) ∈ lw_g := tg_of (List.mem_append_right _ (List.mem_of_getElem? (i := 494) (by decide +kernel))) rfl
theorem tw_495 : (Jvm.Cond.methodLink "ReplayLinkLaw" (85 : Nat) ({ cls := "ReplayLink", name := "again", desc := "(I)I" } : Jvm.MethodName)) ∈ lw_g := tg_of (List.mem_append_right _ (List.mem_of_getElem? (i := 495) (by decide +kernel))) rfl
theorem tw_496 : (Jvm.Cond.instanceMethod ({ cls := "ReplayLink", name := "again", desc := "(I)I" } : Jvm.MethodName)) ∈ lw_g := tg_of (List.mem_append_right _ (List.mem_of_getElem? (i := 496) (by decide +kernel))) rfl
theorem tw_497 : (Jvm.Cond.selects "ReplayLink" ({ cls := "ReplayLink", name := "again", desc := "(I)I" } : Jvm.MethodName) ({ cls := "ReplayLink", name := "again", desc := "(I)I" } : Jvm.MethodName)) ∈ lw_g := tg_of (List.mem_append_right _ (List.mem_of_getElem? (i := 497) (by decide +kernel))) rfl
theorem tw_498 : (Jvm.Cond.code ({ cls := "ReplayLink", name := "again", desc := "(I)I" } : Jvm.MethodName) prog_1_method_18_code (3 : Nat) (Option.some Jvm.ClassFile.FieldType.int)) ∈ lw_g := tg_of (List.mem_append_right _ (List.mem_of_getElem? (i := 498) (by decide +kernel))) rfl
theorem tw_499 : (Jvm.Cond.classLink "ReplayLinkLaw" (10 : Nat) "ReplayLinkModel") ∈ lw_g := tg_of (List.mem_append_right _ (List.mem_of_getElem? (i := 499) (by decide +kernel))) rfl
theorem tw_500 : (Jvm.Cond.instantiable "ReplayLinkModel" (7 : Nat)) ∈ lw_g := tg_of (List.mem_append_right _ (List.mem_of_getElem? (i := 500) (by decide +kernel))) rfl
theorem tw_501 : (Jvm.Cond.methodLink "ReplayLinkLaw" (12 : Nat) ({ cls := "ReplayLinkModel", name := "<init>", desc := "()V" } : Jvm.MethodName)) ∈ lw_g := tg_of (List.mem_append_right _ (List.mem_of_getElem? (i := 501) (by decide +kernel))) rfl
theorem tw_502 : (Jvm.Cond.instanceMethod ({ cls := "ReplayLinkModel", name := "<init>", desc := "()V" } : Jvm.MethodName)) ∈ lw_g := tg_of (List.mem_append_right _ (List.mem_of_getElem? (i := 502) (by decide +kernel))) rfl
theorem tw_503 : (Jvm.Cond.code ({ cls := "ReplayLinkModel", name := "<init>", desc := "()V" } : Jvm.MethodName) prog_8_method_1_code (2 : Nat) (Option.none : Option Jvm.ClassFile.FieldType)) ∈ lw_g := tg_of (List.mem_append_right _ (List.mem_of_getElem? (i := 503) (by decide +kernel))) rfl
theorem tw_504 : (Jvm.Cond.methodLink "ReplayLinkModel" (1 : Nat) ({ cls := "java/lang/Object", name := "<init>", desc := "()V" } : Jvm.MethodName)) ∈ lw_g := tg_of (List.mem_append_right _ (List.mem_of_getElem? (i := 504) (by decide +kernel))) rfl
theorem tw_505 : (Jvm.Cond.methodLink "ReplayLinkModel" (20 : Nat) ({ cls := "ReplayLinkModel", name := "endAt", desc := "(I)I" } : Jvm.MethodName)) ∈ lw_g := tg_of (List.mem_append_right _ (List.mem_of_getElem? (i := 505) (by decide +kernel))) rfl
theorem tw_506 : (Jvm.Cond.static ({ cls := "ReplayLinkModel", name := "endAt", desc := "(I)I" } : Jvm.MethodName)) ∈ lw_g := tg_of (List.mem_append_right _ (List.mem_of_getElem? (i := 506) (by decide +kernel))) rfl
theorem tw_507 : (Jvm.Cond.code ({ cls := "ReplayLinkModel", name := "endAt", desc := "(I)I" } : Jvm.MethodName) prog_8_method_3_code (1 : Nat) (Option.some Jvm.ClassFile.FieldType.int)) ∈ lw_g := tg_of (List.mem_append_right _ (List.mem_of_getElem? (i := 507) (by decide +kernel))) rfl
theorem tw_508 : (Jvm.Cond.fieldLink "ReplayLinkModel" (7 : Nat) "ReplayLinkModel" "st" "[I") ∈ lw_g := tg_of (List.mem_append_right _ (List.mem_of_getElem? (i := 508) (by decide +kernel))) rfl
theorem tw_509 : (Jvm.Cond.fieldLink "ReplayLinkModel" (13 : Nat) "ReplayLinkModel" "kept" "[I") ∈ lw_g := tg_of (List.mem_append_right _ (List.mem_of_getElem? (i := 509) (by decide +kernel))) rfl
theorem tw_510 : (Jvm.Cond.fieldLink "ReplayLinkModel" (16 : Nat) "ReplayLinkModel" "isKept" "[Z") ∈ lw_g := tg_of (List.mem_append_right _ (List.mem_of_getElem? (i := 510) (by decide +kernel))) rfl
theorem tw_511 : (Jvm.Cond.fieldLink "ReplayLinkModel" (139 : Nat) "ReplayLinkModel" "wasTraining" "Z") ∈ lw_g := tg_of (List.mem_append_right _ (List.mem_of_getElem? (i := 511) (by decide +kernel))) rfl
theorem tw_512 : (Jvm.Cond.fieldLink "ReplayLinkModel" (31 : Nat) "ReplayLinkModel" "sum" "J") ∈ lw_g := tg_of (List.mem_append_right _ (List.mem_of_getElem? (i := 512) (by decide +kernel))) rfl
theorem tw_513 : (Jvm.Cond.fieldLink "ReplayLinkModel" (88 : Nat) "ReplayLinkModel" "laid" "I") ∈ lw_g := tg_of (List.mem_append_right _ (List.mem_of_getElem? (i := 513) (by decide +kernel))) rfl
theorem tw_514 : (Jvm.Cond.fieldLink "ReplayLinkModel" (92 : Nat) "ReplayLinkModel" "length" "I") ∈ lw_g := tg_of (List.mem_append_right _ (List.mem_of_getElem? (i := 514) (by decide +kernel))) rfl
theorem tw_515 : (Jvm.Cond.laysFinal "ReplayLinkModel" "ReplayLinkModel" "st" "[I") ∈ lw_g := tg_of (List.mem_append_right _ (List.mem_of_getElem? (i := 515) (by decide +kernel))) rfl
theorem tw_517 : (Jvm.Cond.laysFinal "ReplayLinkModel" "ReplayLinkModel" "kept" "[I") ∈ lw_g := tg_of (List.mem_append_right _ (List.mem_of_getElem? (i := 517) (by decide +kernel))) rfl
theorem tw_519 : (Jvm.Cond.laysFinal "ReplayLinkModel" "ReplayLinkModel" "isKept" "[Z") ∈ lw_g := tg_of (List.mem_append_right _ (List.mem_of_getElem? (i := 519) (by decide +kernel))) rfl
theorem tw_521 : (Jvm.Cond.lays "ReplayLinkModel" "ReplayLinkModel" "wasTraining" "Z") ∈ lw_g := tg_of (List.mem_append_right _ (List.mem_of_getElem? (i := 521) (by decide +kernel))) rfl
theorem tw_523 : (Jvm.Cond.lays "ReplayLinkModel" "ReplayLinkModel" "sum" "J") ∈ lw_g := tg_of (List.mem_append_right _ (List.mem_of_getElem? (i := 523) (by decide +kernel))) rfl
theorem tw_525 : (Jvm.Cond.lays "ReplayLinkModel" "ReplayLinkModel" "laid" "I") ∈ lw_g := tg_of (List.mem_append_right _ (List.mem_of_getElem? (i := 525) (by decide +kernel))) rfl
theorem tw_527 : (Jvm.Cond.lays "ReplayLinkModel" "ReplayLinkModel" "length" "I") ∈ lw_g := tg_of (List.mem_append_right _ (List.mem_of_getElem? (i := 527) (by decide +kernel))) rfl
theorem tw_530 : (Jvm.Cond.arrayClass Jvm.ClassFile.FieldType.boolean) ∈ lw_g := tg_of (List.mem_append_right _ (List.mem_of_getElem? (i := 530) (by decide +kernel))) rfl
theorem tw_531 : (Jvm.Cond.methodLink "ReplayLinkLaw" (19 : Nat) ({ cls := "ReplayLinkModel", name := "draft", desc := "(IIJ)I" } : Jvm.MethodName)) ∈ lw_g := tg_of (List.mem_append_right _ (List.mem_of_getElem? (i := 531) (by decide +kernel))) rfl
theorem tw_532 : (Jvm.Cond.instanceMethod ({ cls := "ReplayLinkModel", name := "draft", desc := "(IIJ)I" } : Jvm.MethodName)) ∈ lw_g := tg_of (List.mem_append_right _ (List.mem_of_getElem? (i := 532) (by decide +kernel))) rfl
theorem tw_533 : (Jvm.Cond.selects "ReplayLinkModel" ({ cls := "ReplayLinkModel", name := "draft", desc := "(IIJ)I" } : Jvm.MethodName) ({ cls := "ReplayLinkModel", name := "draft", desc := "(IIJ)I" } : Jvm.MethodName)) ∈ lw_g := tg_of (List.mem_append_right _ (List.mem_of_getElem? (i := 533) (by decide +kernel))) rfl
theorem tw_534 : (Jvm.Cond.code ({ cls := "ReplayLinkModel", name := "draft", desc := "(IIJ)I" } : Jvm.MethodName) prog_8_method_13_code (7 : Nat) (Option.some Jvm.ClassFile.FieldType.int)) ∈ lw_g := tg_of (List.mem_append_right _ (List.mem_of_getElem? (i := 534) (by decide +kernel))) rfl
theorem tw_535 : (Jvm.Cond.methodLink "ReplayLinkModel" (39 : Nat) ({ cls := "ReplayLinkModel", name := "isEnd", desc := "(I)Z" } : Jvm.MethodName)) ∈ lw_g := tg_of (List.mem_append_right _ (List.mem_of_getElem? (i := 535) (by decide +kernel))) rfl
theorem tw_536 : (Jvm.Cond.static ({ cls := "ReplayLinkModel", name := "isEnd", desc := "(I)Z" } : Jvm.MethodName)) ∈ lw_g := tg_of (List.mem_append_right _ (List.mem_of_getElem? (i := 536) (by decide +kernel))) rfl
theorem tw_537 : (Jvm.Cond.code ({ cls := "ReplayLinkModel", name := "isEnd", desc := "(I)Z" } : Jvm.MethodName) prog_8_method_9_code (1 : Nat) (Option.some Jvm.ClassFile.FieldType.boolean)) ∈ lw_g := tg_of (List.mem_append_right _ (List.mem_of_getElem? (i := 537) (by decide +kernel))) rfl
theorem tw_538 : (Jvm.Cond.constantLong "ReplayLinkModel" (43 : Nat) (8 : Int64)) ∈ lw_g := tg_of (List.mem_append_right _ (List.mem_of_getElem? (i := 538) (by decide +kernel))) rfl
theorem tw_539 : (Jvm.Cond.methodLink "ReplayLinkModel" (45 : Nat) ({ cls := "ReplayLinkModel", name := "in", desc := "(JJJ)Z" } : Jvm.MethodName)) ∈ lw_g := tg_of (List.mem_append_right _ (List.mem_of_getElem? (i := 539) (by decide +kernel))) rfl
theorem tw_540 : (Jvm.Cond.static ({ cls := "ReplayLinkModel", name := "in", desc := "(JJJ)Z" } : Jvm.MethodName)) ∈ lw_g := tg_of (List.mem_append_right _ (List.mem_of_getElem? (i := 540) (by decide +kernel))) rfl
theorem tw_541 : (Jvm.Cond.code ({ cls := "ReplayLinkModel", name := "in", desc := "(JJJ)Z" } : Jvm.MethodName) prog_8_method_2_code (6 : Nat) (Option.some Jvm.ClassFile.FieldType.boolean)) ∈ lw_g := tg_of (List.mem_append_right _ (List.mem_of_getElem? (i := 541) (by decide +kernel))) rfl
theorem tw_542 : (Jvm.Cond.constantLong "ReplayLinkModel" (49 : Nat) (255 : Int64)) ∈ lw_g := tg_of (List.mem_append_right _ (List.mem_of_getElem? (i := 542) (by decide +kernel))) rfl
theorem tw_543 : (Jvm.Cond.methodLink "ReplayLinkLaw" (24 : Nat) ({ cls := "ReplayLinkModel", name := "offer", desc := "(I)I" } : Jvm.MethodName)) ∈ lw_g := tg_of (List.mem_append_right _ (List.mem_of_getElem? (i := 543) (by decide +kernel))) rfl
theorem tw_544 : (Jvm.Cond.instanceMethod ({ cls := "ReplayLinkModel", name := "offer", desc := "(I)I" } : Jvm.MethodName)) ∈ lw_g := tg_of (List.mem_append_right _ (List.mem_of_getElem? (i := 544) (by decide +kernel))) rfl
theorem tw_545 : (Jvm.Cond.selects "ReplayLinkModel" ({ cls := "ReplayLinkModel", name := "offer", desc := "(I)I" } : Jvm.MethodName) ({ cls := "ReplayLinkModel", name := "offer", desc := "(I)I" } : Jvm.MethodName)) ∈ lw_g := tg_of (List.mem_append_right _ (List.mem_of_getElem? (i := 545) (by decide +kernel))) rfl
theorem tw_546 : (Jvm.Cond.code ({ cls := "ReplayLinkModel", name := "offer", desc := "(I)I" } : Jvm.MethodName) prog_8_method_15_code (5 : Nat) (Option.some Jvm.ClassFile.FieldType.int)) ∈ lw_g := tg_of (List.mem_append_right _ (List.mem_of_getElem? (i := 546) (by decide +kernel))) rfl
theorem tw_547 : (Jvm.Cond.methodLink "ReplayLinkModel" (51 : Nat) ({ cls := "ReplayLinkModel", name := "waiting", desc := "(I)I" } : Jvm.MethodName)) ∈ lw_g := tg_of (List.mem_append_right _ (List.mem_of_getElem? (i := 547) (by decide +kernel))) rfl
theorem tw_549 : (Jvm.Cond.instanceMethod ({ cls := "ReplayLinkModel", name := "waiting", desc := "(I)I" } : Jvm.MethodName)) ∈ lw_g := tg_of (List.mem_append_right _ (List.mem_of_getElem? (i := 549) (by decide +kernel))) rfl
theorem tw_550 : (Jvm.Cond.code ({ cls := "ReplayLinkModel", name := "waiting", desc := "(I)I" } : Jvm.MethodName) prog_8_method_14_code (2 : Nat) (Option.some Jvm.ClassFile.FieldType.int)) ∈ lw_g := tg_of (List.mem_append_right _ (List.mem_of_getElem? (i := 550) (by decide +kernel))) rfl
theorem tw_551 : (Jvm.Cond.methodLink "ReplayLinkModel" (54 : Nat) ({ cls := "ReplayLinkModel", name := "packetAt", desc := "(II)I" } : Jvm.MethodName)) ∈ lw_g := tg_of (List.mem_append_right _ (List.mem_of_getElem? (i := 551) (by decide +kernel))) rfl
theorem tw_552 : (Jvm.Cond.static ({ cls := "ReplayLinkModel", name := "packetAt", desc := "(II)I" } : Jvm.MethodName)) ∈ lw_g := tg_of (List.mem_append_right _ (List.mem_of_getElem? (i := 552) (by decide +kernel))) rfl
theorem tw_553 : (Jvm.Cond.code ({ cls := "ReplayLinkModel", name := "packetAt", desc := "(II)I" } : Jvm.MethodName) prog_8_method_6_code (2 : Nat) (Option.some Jvm.ClassFile.FieldType.int)) ∈ lw_g := tg_of (List.mem_append_right _ (List.mem_of_getElem? (i := 553) (by decide +kernel))) rfl
theorem tw_554 : (Jvm.Cond.methodLink "ReplayLinkLaw" (29 : Nat) ({ cls := "ReplayLinkModel", name := "check", desc := "(II)J" } : Jvm.MethodName)) ∈ lw_g := tg_of (List.mem_append_right _ (List.mem_of_getElem? (i := 554) (by decide +kernel))) rfl
theorem tw_555 : (Jvm.Cond.instanceMethod ({ cls := "ReplayLinkModel", name := "check", desc := "(II)J" } : Jvm.MethodName)) ∈ lw_g := tg_of (List.mem_append_right _ (List.mem_of_getElem? (i := 555) (by decide +kernel))) rfl
theorem tw_556 : (Jvm.Cond.selects "ReplayLinkModel" ({ cls := "ReplayLinkModel", name := "check", desc := "(II)J" } : Jvm.MethodName) ({ cls := "ReplayLinkModel", name := "check", desc := "(II)J" } : Jvm.MethodName)) ∈ lw_g := tg_of (List.mem_append_right _ (List.mem_of_getElem? (i := 556) (by decide +kernel))) rfl
theorem tw_557 : (Jvm.Cond.code ({ cls := "ReplayLinkModel", name := "check", desc := "(II)J" } : Jvm.MethodName) prog_8_method_16_code (5 : Nat) (Option.some Jvm.ClassFile.FieldType.long)) ∈ lw_g := tg_of (List.mem_append_right _ (List.mem_of_getElem? (i := 557) (by decide +kernel))) rfl
theorem tw_558 : (Jvm.Cond.constantLong "ReplayLinkModel" (58 : Nat) (-1 : Int64)) ∈ lw_g := tg_of (List.mem_append_right _ (List.mem_of_getElem? (i := 558) (by decide +kernel))) rfl
theorem tw_559 : (Jvm.Cond.methodLink "ReplayLinkModel" (60 : Nat) ({ cls := "ReplayLinkModel", name := "begins", desc := "(Z)V" } : Jvm.MethodName)) ∈ lw_g := tg_of (List.mem_append_right _ (List.mem_of_getElem? (i := 559) (by decide +kernel))) rfl
theorem tw_561 : (Jvm.Cond.instanceMethod ({ cls := "ReplayLinkModel", name := "begins", desc := "(Z)V" } : Jvm.MethodName)) ∈ lw_g := tg_of (List.mem_append_right _ (List.mem_of_getElem? (i := 561) (by decide +kernel))) rfl
theorem tw_562 : (Jvm.Cond.code ({ cls := "ReplayLinkModel", name := "begins", desc := "(Z)V" } : Jvm.MethodName) prog_8_method_10_code (2 : Nat) (Option.none : Option Jvm.ClassFile.FieldType)) ∈ lw_g := tg_of (List.mem_append_right _ (List.mem_of_getElem? (i := 562) (by decide +kernel))) rfl
theorem tw_563 : (Jvm.Cond.constantLong "ReplayLinkModel" (27 : Nat) (4294967295 : Int64)) ∈ lw_g := tg_of (List.mem_append_right _ (List.mem_of_getElem? (i := 563) (by decide +kernel))) rfl
theorem tw_564 : (Jvm.Cond.constantLong "ReplayLinkModel" (29 : Nat) (65535 : Int64)) ∈ lw_g := tg_of (List.mem_append_right _ (List.mem_of_getElem? (i := 564) (by decide +kernel))) rfl
theorem tw_565 : (Jvm.Cond.methodLink "ReplayLinkModel" (64 : Nat) ({ cls := "ReplayLinkModel", name := "adds", desc := "(IZ)V" } : Jvm.MethodName)) ∈ lw_g := tg_of (List.mem_append_right _ (List.mem_of_getElem? (i := 565) (by decide +kernel))) rfl
theorem tw_567 : (Jvm.Cond.instanceMethod ({ cls := "ReplayLinkModel", name := "adds", desc := "(IZ)V" } : Jvm.MethodName)) ∈ lw_g := tg_of (List.mem_append_right _ (List.mem_of_getElem? (i := 567) (by decide +kernel))) rfl
theorem tw_568 : (Jvm.Cond.code ({ cls := "ReplayLinkModel", name := "adds", desc := "(IZ)V" } : Jvm.MethodName) prog_8_method_11_code (4 : Nat) (Option.none : Option Jvm.ClassFile.FieldType)) ∈ lw_g := tg_of (List.mem_append_right _ (List.mem_of_getElem? (i := 568) (by decide +kernel))) rfl
theorem tw_569 : (Jvm.Cond.constantLong "ReplayLinkModel" (35 : Nat) (3988292384 : Int64)) ∈ lw_g := tg_of (List.mem_append_right _ (List.mem_of_getElem? (i := 569) (by decide +kernel))) rfl
theorem tw_570 : (Jvm.Cond.constantLong "ReplayLinkModel" (37 : Nat) (53256 : Int64)) ∈ lw_g := tg_of (List.mem_append_right _ (List.mem_of_getElem? (i := 570) (by decide +kernel))) rfl
theorem tw_571 : (Jvm.Cond.methodLink "ReplayLinkModel" (68 : Nat) ({ cls := "ReplayLinkModel", name := "sumOf", desc := "(Z)J" } : Jvm.MethodName)) ∈ lw_g := tg_of (List.mem_append_right _ (List.mem_of_getElem? (i := 571) (by decide +kernel))) rfl
theorem tw_573 : (Jvm.Cond.instanceMethod ({ cls := "ReplayLinkModel", name := "sumOf", desc := "(Z)J" } : Jvm.MethodName)) ∈ lw_g := tg_of (List.mem_append_right _ (List.mem_of_getElem? (i := 573) (by decide +kernel))) rfl
theorem tw_574 : (Jvm.Cond.code ({ cls := "ReplayLinkModel", name := "sumOf", desc := "(Z)J" } : Jvm.MethodName) prog_8_method_12_code (2 : Nat) (Option.some Jvm.ClassFile.FieldType.long)) ∈ lw_g := tg_of (List.mem_append_right _ (List.mem_of_getElem? (i := 574) (by decide +kernel))) rfl
theorem tw_575 : (Jvm.Cond.methodLink "ReplayLinkLaw" (34 : Nat) ({ cls := "ReplayLinkModel", name := "set", desc := "(II)I" } : Jvm.MethodName)) ∈ lw_g := tg_of (List.mem_append_right _ (List.mem_of_getElem? (i := 575) (by decide +kernel))) rfl
theorem tw_576 : (Jvm.Cond.instanceMethod ({ cls := "ReplayLinkModel", name := "set", desc := "(II)I" } : Jvm.MethodName)) ∈ lw_g := tg_of (List.mem_append_right _ (List.mem_of_getElem? (i := 576) (by decide +kernel))) rfl
theorem tw_577 : (Jvm.Cond.selects "ReplayLinkModel" ({ cls := "ReplayLinkModel", name := "set", desc := "(II)I" } : Jvm.MethodName) ({ cls := "ReplayLinkModel", name := "set", desc := "(II)I" } : Jvm.MethodName)) ∈ lw_g := tg_of (List.mem_append_right _ (List.mem_of_getElem? (i := 577) (by decide +kernel))) rfl
theorem tw_578 : (Jvm.Cond.code ({ cls := "ReplayLinkModel", name := "set", desc := "(II)I" } : Jvm.MethodName) prog_8_method_17_code (5 : Nat) (Option.some Jvm.ClassFile.FieldType.int)) ∈ lw_g := tg_of (List.mem_append_right _ (List.mem_of_getElem? (i := 578) (by decide +kernel))) rfl
theorem tw_579 : (Jvm.Cond.constantLong "ReplayLinkModel" (72 : Nat) (6 : Int64)) ∈ lw_g := tg_of (List.mem_append_right _ (List.mem_of_getElem? (i := 579) (by decide +kernel))) rfl
theorem tw_580 : (Jvm.Cond.constantLong "ReplayLinkModel" (74 : Nat) (60 : Int64)) ∈ lw_g := tg_of (List.mem_append_right _ (List.mem_of_getElem? (i := 580) (by decide +kernel))) rfl
theorem tw_581 : (Jvm.Cond.constantLong "ReplayLinkModel" (76 : Nat) (9 : Int64)) ∈ lw_g := tg_of (List.mem_append_right _ (List.mem_of_getElem? (i := 581) (by decide +kernel))) rfl
theorem tw_582 : (Jvm.Cond.methodLink "ReplayLinkLaw" (38 : Nat) ({ cls := "ReplayLinkModel", name := "tick", desc := "(I)I" } : Jvm.MethodName)) ∈ lw_g := tg_of (List.mem_append_right _ (List.mem_of_getElem? (i := 582) (by decide +kernel))) rfl
theorem tw_583 : (Jvm.Cond.instanceMethod ({ cls := "ReplayLinkModel", name := "tick", desc := "(I)I" } : Jvm.MethodName)) ∈ lw_g := tg_of (List.mem_append_right _ (List.mem_of_getElem? (i := 583) (by decide +kernel))) rfl
theorem tw_584 : (Jvm.Cond.selects "ReplayLinkModel" ({ cls := "ReplayLinkModel", name := "tick", desc := "(I)I" } : Jvm.MethodName) ({ cls := "ReplayLinkModel", name := "tick", desc := "(I)I" } : Jvm.MethodName)) ∈ lw_g := tg_of (List.mem_append_right _ (List.mem_of_getElem? (i := 584) (by decide +kernel))) rfl
theorem tw_585 : (Jvm.Cond.code ({ cls := "ReplayLinkModel", name := "tick", desc := "(I)I" } : Jvm.MethodName) prog_8_method_35_code (4 : Nat) (Option.some Jvm.ClassFile.FieldType.int)) ∈ lw_g := tg_of (List.mem_append_right _ (List.mem_of_getElem? (i := 585) (by decide +kernel))) rfl
theorem tw_586 : (Jvm.Cond.constantLong "ReplayLinkModel" (153 : Nat) (200 : Int64)) ∈ lw_g := tg_of (List.mem_append_right _ (List.mem_of_getElem? (i := 586) (by decide +kernel))) rfl
theorem tw_587 : (Jvm.Cond.methodLink "ReplayLinkModel" (155 : Nat) ({ cls := "ReplayLinkModel", name := "ticks", desc := "()I" } : Jvm.MethodName)) ∈ lw_g := tg_of (List.mem_append_right _ (List.mem_of_getElem? (i := 587) (by decide +kernel))) rfl
theorem tw_589 : (Jvm.Cond.instanceMethod ({ cls := "ReplayLinkModel", name := "ticks", desc := "()I" } : Jvm.MethodName)) ∈ lw_g := tg_of (List.mem_append_right _ (List.mem_of_getElem? (i := 589) (by decide +kernel))) rfl
theorem tw_590 : (Jvm.Cond.code ({ cls := "ReplayLinkModel", name := "ticks", desc := "()I" } : Jvm.MethodName) prog_8_method_34_code (3 : Nat) (Option.some Jvm.ClassFile.FieldType.int)) ∈ lw_g := tg_of (List.mem_append_right _ (List.mem_of_getElem? (i := 590) (by decide +kernel))) rfl
theorem tw_591 : (Jvm.Cond.methodLink "ReplayLinkModel" (143 : Nat) ({ cls := "ReplayLinkModel", name := "coming", desc := "()I" } : Jvm.MethodName)) ∈ lw_g := tg_of (List.mem_append_right _ (List.mem_of_getElem? (i := 591) (by decide +kernel))) rfl
theorem tw_593 : (Jvm.Cond.instanceMethod ({ cls := "ReplayLinkModel", name := "coming", desc := "()I" } : Jvm.MethodName)) ∈ lw_g := tg_of (List.mem_append_right _ (List.mem_of_getElem? (i := 593) (by decide +kernel))) rfl
theorem tw_594 : (Jvm.Cond.code ({ cls := "ReplayLinkModel", name := "coming", desc := "()I" } : Jvm.MethodName) prog_8_method_31_code (4 : Nat) (Option.some Jvm.ClassFile.FieldType.int)) ∈ lw_g := tg_of (List.mem_append_right _ (List.mem_of_getElem? (i := 594) (by decide +kernel))) rfl
theorem tw_595 : (Jvm.Cond.methodLink "ReplayLinkModel" (78 : Nat) ({ cls := "ReplayLinkModel", name := "many", desc := "(I)I" } : Jvm.MethodName)) ∈ lw_g := tg_of (List.mem_append_right _ (List.mem_of_getElem? (i := 595) (by decide +kernel))) rfl
theorem tw_597 : (Jvm.Cond.instanceMethod ({ cls := "ReplayLinkModel", name := "many", desc := "(I)I" } : Jvm.MethodName)) ∈ lw_g := tg_of (List.mem_append_right _ (List.mem_of_getElem? (i := 597) (by decide +kernel))) rfl
theorem tw_598 : (Jvm.Cond.code ({ cls := "ReplayLinkModel", name := "many", desc := "(I)I" } : Jvm.MethodName) prog_8_method_18_code (2 : Nat) (Option.some Jvm.ClassFile.FieldType.int)) ∈ lw_g := tg_of (List.mem_append_right _ (List.mem_of_getElem? (i := 598) (by decide +kernel))) rfl
theorem tw_599 : (Jvm.Cond.methodLink "ReplayLinkModel" (24 : Nat) ({ cls := "ReplayLinkModel", name := "wireAt", desc := "(I)I" } : Jvm.MethodName)) ∈ lw_g := tg_of (List.mem_append_right _ (List.mem_of_getElem? (i := 599) (by decide +kernel))) rfl
theorem tw_600 : (Jvm.Cond.static ({ cls := "ReplayLinkModel", name := "wireAt", desc := "(I)I" } : Jvm.MethodName)) ∈ lw_g := tg_of (List.mem_append_right _ (List.mem_of_getElem? (i := 600) (by decide +kernel))) rfl
theorem tw_601 : (Jvm.Cond.code ({ cls := "ReplayLinkModel", name := "wireAt", desc := "(I)I" } : Jvm.MethodName) prog_8_method_4_code (1 : Nat) (Option.some Jvm.ClassFile.FieldType.int)) ∈ lw_g := tg_of (List.mem_append_right _ (List.mem_of_getElem? (i := 601) (by decide +kernel))) rfl
theorem tw_602 : (Jvm.Cond.methodLink "ReplayLinkModel" (81 : Nat) ({ cls := "ReplayLinkModel", name := "frameAt", desc := "(II)I" } : Jvm.MethodName)) ∈ lw_g := tg_of (List.mem_append_right _ (List.mem_of_getElem? (i := 602) (by decide +kernel))) rfl
theorem tw_603 : (Jvm.Cond.static ({ cls := "ReplayLinkModel", name := "frameAt", desc := "(II)I" } : Jvm.MethodName)) ∈ lw_g := tg_of (List.mem_append_right _ (List.mem_of_getElem? (i := 603) (by decide +kernel))) rfl
theorem tw_604 : (Jvm.Cond.code ({ cls := "ReplayLinkModel", name := "frameAt", desc := "(II)I" } : Jvm.MethodName) prog_8_method_5_code (2 : Nat) (Option.some Jvm.ClassFile.FieldType.int)) ∈ lw_g := tg_of (List.mem_append_right _ (List.mem_of_getElem? (i := 604) (by decide +kernel))) rfl
theorem tw_605 : (Jvm.Cond.methodLink "ReplayLinkModel" (129 : Nat) ({ cls := "ReplayLinkModel", name := "comes", desc := "(II)V" } : Jvm.MethodName)) ∈ lw_g := tg_of (List.mem_append_right _ (List.mem_of_getElem? (i := 605) (by decide +kernel))) rfl
theorem tw_607 : (Jvm.Cond.instanceMethod ({ cls := "ReplayLinkModel", name := "comes", desc := "(II)V" } : Jvm.MethodName)) ∈ lw_g := tg_of (List.mem_append_right _ (List.mem_of_getElem? (i := 607) (by decide +kernel))) rfl
theorem tw_608 : (Jvm.Cond.code ({ cls := "ReplayLinkModel", name := "comes", desc := "(II)V" } : Jvm.MethodName) prog_8_method_30_code (6 : Nat) (Option.none : Option Jvm.ClassFile.FieldType)) ∈ lw_g := tg_of (List.mem_append_right _ (List.mem_of_getElem? (i := 608) (by decide +kernel))) rfl
theorem tw_609 : (Jvm.Cond.methodLink "ReplayLinkModel" (84 : Nat) ({ cls := "ReplayLinkModel", name := "remove", desc := "(II)V" } : Jvm.MethodName)) ∈ lw_g := tg_of (List.mem_append_right _ (List.mem_of_getElem? (i := 609) (by decide +kernel))) rfl
theorem tw_611 : (Jvm.Cond.instanceMethod ({ cls := "ReplayLinkModel", name := "remove", desc := "(II)V" } : Jvm.MethodName)) ∈ lw_g := tg_of (List.mem_append_right _ (List.mem_of_getElem? (i := 611) (by decide +kernel))) rfl
theorem tw_612 : (Jvm.Cond.code ({ cls := "ReplayLinkModel", name := "remove", desc := "(II)V" } : Jvm.MethodName) prog_8_method_19_code (5 : Nat) (Option.none : Option Jvm.ClassFile.FieldType)) ∈ lw_g := tg_of (List.mem_append_right _ (List.mem_of_getElem? (i := 612) (by decide +kernel))) rfl
theorem tw_613 : (Jvm.Cond.methodLink "ReplayLinkModel" (119 : Nat) ({ cls := "ReplayLinkModel", name := "read", desc := "(I)I" } : Jvm.MethodName)) ∈ lw_g := tg_of (List.mem_append_right _ (List.mem_of_getElem? (i := 613) (by decide +kernel))) rfl
theorem tw_615 : (Jvm.Cond.instanceMethod ({ cls := "ReplayLinkModel", name := "read", desc := "(I)I" } : Jvm.MethodName)) ∈ lw_g := tg_of (List.mem_append_right _ (List.mem_of_getElem? (i := 615) (by decide +kernel))) rfl
theorem tw_616 : (Jvm.Cond.code ({ cls := "ReplayLinkModel", name := "read", desc := "(I)I" } : Jvm.MethodName) prog_8_method_24_code (8 : Nat) (Option.some Jvm.ClassFile.FieldType.int)) ∈ lw_g := tg_of (List.mem_append_right _ (List.mem_of_getElem? (i := 616) (by decide +kernel))) rfl
theorem tw_617 : (Jvm.Cond.constantLong "ReplayLinkModel" (105 : Nat) (24 : Int64)) ∈ lw_g := tg_of (List.mem_append_right _ (List.mem_of_getElem? (i := 617) (by decide +kernel))) rfl
theorem tw_618 : (Jvm.Cond.methodLink "ReplayLinkModel" (122 : Nat) ({ cls := "ReplayLinkModel", name := "comesData", desc := "(II)V" } : Jvm.MethodName)) ∈ lw_g := tg_of (List.mem_append_right _ (List.mem_of_getElem? (i := 618) (by decide +kernel))) rfl
theorem tw_620 : (Jvm.Cond.instanceMethod ({ cls := "ReplayLinkModel", name := "comesData", desc := "(II)V" } : Jvm.MethodName)) ∈ lw_g := tg_of (List.mem_append_right _ (List.mem_of_getElem? (i := 620) (by decide +kernel))) rfl
theorem tw_621 : (Jvm.Cond.code ({ cls := "ReplayLinkModel", name := "comesData", desc := "(II)V" } : Jvm.MethodName) prog_8_method_28_code (5 : Nat) (Option.none : Option Jvm.ClassFile.FieldType)) ∈ lw_g := tg_of (List.mem_append_right _ (List.mem_of_getElem? (i := 621) (by decide +kernel))) rfl
theorem tw_622 : (Jvm.Cond.methodLink "ReplayLinkModel" (95 : Nat) ({ cls := "ReplayLinkModel", name := "by64", desc := "(I)I" } : Jvm.MethodName)) ∈ lw_g := tg_of (List.mem_append_right _ (List.mem_of_getElem? (i := 622) (by decide +kernel))) rfl
theorem tw_623 : (Jvm.Cond.static ({ cls := "ReplayLinkModel", name := "by64", desc := "(I)I" } : Jvm.MethodName)) ∈ lw_g := tg_of (List.mem_append_right _ (List.mem_of_getElem? (i := 623) (by decide +kernel))) rfl
theorem tw_624 : (Jvm.Cond.code ({ cls := "ReplayLinkModel", name := "by64", desc := "(I)I" } : Jvm.MethodName) prog_8_method_8_code (1 : Nat) (Option.some Jvm.ClassFile.FieldType.int)) ∈ lw_g := tg_of (List.mem_append_right _ (List.mem_of_getElem? (i := 624) (by decide +kernel))) rfl
theorem tw_625 : (Jvm.Cond.methodLink "ReplayLinkModel" (110 : Nat) ({ cls := "ReplayLinkModel", name := "dropped", desc := "(I)V" } : Jvm.MethodName)) ∈ lw_g := tg_of (List.mem_append_right _ (List.mem_of_getElem? (i := 625) (by decide +kernel))) rfl
theorem tw_627 : (Jvm.Cond.instanceMethod ({ cls := "ReplayLinkModel", name := "dropped", desc := "(I)V" } : Jvm.MethodName)) ∈ lw_g := tg_of (List.mem_append_right _ (List.mem_of_getElem? (i := 627) (by decide +kernel))) rfl
theorem tw_628 : (Jvm.Cond.code ({ cls := "ReplayLinkModel", name := "dropped", desc := "(I)V" } : Jvm.MethodName) prog_8_method_27_code (3 : Nat) (Option.none : Option Jvm.ClassFile.FieldType)) ∈ lw_g := tg_of (List.mem_append_right _ (List.mem_of_getElem? (i := 628) (by decide +kernel))) rfl
theorem tw_629 : (Jvm.Cond.methodLink "ReplayLinkModel" (113 : Nat) ({ cls := "ReplayLinkModel", name := "handsUp", desc := "(II)V" } : Jvm.MethodName)) ∈ lw_g := tg_of (List.mem_append_right _ (List.mem_of_getElem? (i := 629) (by decide +kernel))) rfl
theorem tw_631 : (Jvm.Cond.instanceMethod ({ cls := "ReplayLinkModel", name := "handsUp", desc := "(II)V" } : Jvm.MethodName)) ∈ lw_g := tg_of (List.mem_append_right _ (List.mem_of_getElem? (i := 631) (by decide +kernel))) rfl
theorem tw_632 : (Jvm.Cond.code ({ cls := "ReplayLinkModel", name := "handsUp", desc := "(II)V" } : Jvm.MethodName) prog_8_method_29_code (6 : Nat) (Option.none : Option Jvm.ClassFile.FieldType)) ∈ lw_g := tg_of (List.mem_append_right _ (List.mem_of_getElem? (i := 632) (by decide +kernel))) rfl
theorem tw_633 : (Jvm.Cond.methodLink "ReplayLinkModel" (116 : Nat) ({ cls := "ReplayLinkModel", name := "upAt", desc := "(II)I" } : Jvm.MethodName)) ∈ lw_g := tg_of (List.mem_append_right _ (List.mem_of_getElem? (i := 633) (by decide +kernel))) rfl
theorem tw_634 : (Jvm.Cond.static ({ cls := "ReplayLinkModel", name := "upAt", desc := "(II)I" } : Jvm.MethodName)) ∈ lw_g := tg_of (List.mem_append_right _ (List.mem_of_getElem? (i := 634) (by decide +kernel))) rfl
theorem tw_635 : (Jvm.Cond.code ({ cls := "ReplayLinkModel", name := "upAt", desc := "(II)I" } : Jvm.MethodName) prog_8_method_7_code (2 : Nat) (Option.some Jvm.ClassFile.FieldType.int)) ∈ lw_g := tg_of (List.mem_append_right _ (List.mem_of_getElem? (i := 635) (by decide +kernel))) rfl
theorem tw_636 : (Jvm.Cond.methodLink "ReplayLinkModel" (125 : Nat) ({ cls := "ReplayLinkModel", name := "comesWord", desc := "(III)V" } : Jvm.MethodName)) ∈ lw_g := tg_of (List.mem_append_right _ (List.mem_of_getElem? (i := 636) (by decide +kernel))) rfl
theorem tw_638 : (Jvm.Cond.instanceMethod ({ cls := "ReplayLinkModel", name := "comesWord", desc := "(III)V" } : Jvm.MethodName)) ∈ lw_g := tg_of (List.mem_append_right _ (List.mem_of_getElem? (i := 638) (by decide +kernel))) rfl
theorem tw_639 : (Jvm.Cond.code ({ cls := "ReplayLinkModel", name := "comesWord", desc := "(III)V" } : Jvm.MethodName) prog_8_method_26_code (6 : Nat) (Option.none : Option Jvm.ClassFile.FieldType)) ∈ lw_g := tg_of (List.mem_append_right _ (List.mem_of_getElem? (i := 639) (by decide +kernel))) rfl
theorem tw_640 : (Jvm.Cond.methodLink "ReplayLinkModel" (107 : Nat) ({ cls := "ReplayLinkModel", name := "sendsAgain", desc := "(I)V" } : Jvm.MethodName)) ∈ lw_g := tg_of (List.mem_append_right _ (List.mem_of_getElem? (i := 640) (by decide +kernel))) rfl
theorem tw_642 : (Jvm.Cond.instanceMethod ({ cls := "ReplayLinkModel", name := "sendsAgain", desc := "(I)V" } : Jvm.MethodName)) ∈ lw_g := tg_of (List.mem_append_right _ (List.mem_of_getElem? (i := 642) (by decide +kernel))) rfl
theorem tw_643 : (Jvm.Cond.code ({ cls := "ReplayLinkModel", name := "sendsAgain", desc := "(I)V" } : Jvm.MethodName) prog_8_method_25_code (3 : Nat) (Option.none : Option Jvm.ClassFile.FieldType)) ∈ lw_g := tg_of (List.mem_append_right _ (List.mem_of_getElem? (i := 643) (by decide +kernel))) rfl
theorem tw_644 : (Jvm.Cond.methodLink "ReplayLinkModel" (147 : Nat) ({ cls := "ReplayLinkModel", name := "timers", desc := "(I)V" } : Jvm.MethodName)) ∈ lw_g := tg_of (List.mem_append_right _ (List.mem_of_getElem? (i := 644) (by decide +kernel))) rfl
theorem tw_646 : (Jvm.Cond.instanceMethod ({ cls := "ReplayLinkModel", name := "timers", desc := "(I)V" } : Jvm.MethodName)) ∈ lw_g := tg_of (List.mem_append_right _ (List.mem_of_getElem? (i := 646) (by decide +kernel))) rfl
theorem tw_647 : (Jvm.Cond.code ({ cls := "ReplayLinkModel", name := "timers", desc := "(I)V" } : Jvm.MethodName) prog_8_method_32_code (3 : Nat) (Option.none : Option Jvm.ClassFile.FieldType)) ∈ lw_g := tg_of (List.mem_append_right _ (List.mem_of_getElem? (i := 647) (by decide +kernel))) rfl
theorem tw_648 : (Jvm.Cond.methodLink "ReplayLinkModel" (150 : Nat) ({ cls := "ReplayLinkModel", name := "laying", desc := "(I)V" } : Jvm.MethodName)) ∈ lw_g := tg_of (List.mem_append_right _ (List.mem_of_getElem? (i := 648) (by decide +kernel))) rfl
theorem tw_650 : (Jvm.Cond.instanceMethod ({ cls := "ReplayLinkModel", name := "laying", desc := "(I)V" } : Jvm.MethodName)) ∈ lw_g := tg_of (List.mem_append_right _ (List.mem_of_getElem? (i := 650) (by decide +kernel))) rfl
theorem tw_651 : (Jvm.Cond.code ({ cls := "ReplayLinkModel", name := "laying", desc := "(I)V" } : Jvm.MethodName) prog_8_method_33_code (4 : Nat) (Option.none : Option Jvm.ClassFile.FieldType)) ∈ lw_g := tg_of (List.mem_append_right _ (List.mem_of_getElem? (i := 651) (by decide +kernel))) rfl
theorem tw_652 : (Jvm.Cond.methodLink "ReplayLinkModel" (132 : Nat) ({ cls := "ReplayLinkModel", name := "laysWord", desc := "(II)V" } : Jvm.MethodName)) ∈ lw_g := tg_of (List.mem_append_right _ (List.mem_of_getElem? (i := 652) (by decide +kernel))) rfl
theorem tw_654 : (Jvm.Cond.instanceMethod ({ cls := "ReplayLinkModel", name := "laysWord", desc := "(II)V" } : Jvm.MethodName)) ∈ lw_g := tg_of (List.mem_append_right _ (List.mem_of_getElem? (i := 654) (by decide +kernel))) rfl
theorem tw_655 : (Jvm.Cond.code ({ cls := "ReplayLinkModel", name := "laysWord", desc := "(II)V" } : Jvm.MethodName) prog_8_method_22_code (5 : Nat) (Option.none : Option Jvm.ClassFile.FieldType)) ∈ lw_g := tg_of (List.mem_append_right _ (List.mem_of_getElem? (i := 655) (by decide +kernel))) rfl
theorem tw_656 : (Jvm.Cond.methodLink "ReplayLinkModel" (98 : Nat) ({ cls := "ReplayLinkModel", name := "beginsFrame", desc := "(I)V" } : Jvm.MethodName)) ∈ lw_g := tg_of (List.mem_append_right _ (List.mem_of_getElem? (i := 656) (by decide +kernel))) rfl
theorem tw_658 : (Jvm.Cond.instanceMethod ({ cls := "ReplayLinkModel", name := "beginsFrame", desc := "(I)V" } : Jvm.MethodName)) ∈ lw_g := tg_of (List.mem_append_right _ (List.mem_of_getElem? (i := 658) (by decide +kernel))) rfl
theorem tw_659 : (Jvm.Cond.code ({ cls := "ReplayLinkModel", name := "beginsFrame", desc := "(I)V" } : Jvm.MethodName) prog_8_method_20_code (2 : Nat) (Option.none : Option Jvm.ClassFile.FieldType)) ∈ lw_g := tg_of (List.mem_append_right _ (List.mem_of_getElem? (i := 659) (by decide +kernel))) rfl
theorem tw_660 : (Jvm.Cond.methodLink "ReplayLinkModel" (102 : Nat) ({ cls := "ReplayLinkModel", name := "lays", desc := "(I)V" } : Jvm.MethodName)) ∈ lw_g := tg_of (List.mem_append_right _ (List.mem_of_getElem? (i := 660) (by decide +kernel))) rfl
theorem tw_662 : (Jvm.Cond.instanceMethod ({ cls := "ReplayLinkModel", name := "lays", desc := "(I)V" } : Jvm.MethodName)) ∈ lw_g := tg_of (List.mem_append_right _ (List.mem_of_getElem? (i := 662) (by decide +kernel))) rfl
theorem tw_663 : (Jvm.Cond.code ({ cls := "ReplayLinkModel", name := "lays", desc := "(I)V" } : Jvm.MethodName) prog_8_method_21_code (2 : Nat) (Option.none : Option Jvm.ClassFile.FieldType)) ∈ lw_g := tg_of (List.mem_append_right _ (List.mem_of_getElem? (i := 663) (by decide +kernel))) rfl
theorem tw_664 : (Jvm.Cond.methodLink "ReplayLinkModel" (135 : Nat) ({ cls := "ReplayLinkModel", name := "laysData", desc := "(IIZ)V" } : Jvm.MethodName)) ∈ lw_g := tg_of (List.mem_append_right _ (List.mem_of_getElem? (i := 664) (by decide +kernel))) rfl
theorem tw_666 : (Jvm.Cond.instanceMethod ({ cls := "ReplayLinkModel", name := "laysData", desc := "(IIZ)V" } : Jvm.MethodName)) ∈ lw_g := tg_of (List.mem_append_right _ (List.mem_of_getElem? (i := 666) (by decide +kernel))) rfl
theorem tw_667 : (Jvm.Cond.code ({ cls := "ReplayLinkModel", name := "laysData", desc := "(IIZ)V" } : Jvm.MethodName) prog_8_method_23_code (9 : Nat) (Option.none : Option Jvm.ClassFile.FieldType)) ∈ lw_g := tg_of (List.mem_append_right _ (List.mem_of_getElem? (i := 667) (by decide +kernel))) rfl
theorem tw_668 : (Jvm.Cond.methodLink "ReplayLinkLaw" (42 : Nat) ({ cls := "ReplayLinkModel", name := "settle", desc := "(I)I" } : Jvm.MethodName)) ∈ lw_g := tg_of (List.mem_append_right _ (List.mem_of_getElem? (i := 668) (by decide +kernel))) rfl
theorem tw_669 : (Jvm.Cond.instanceMethod ({ cls := "ReplayLinkModel", name := "settle", desc := "(I)I" } : Jvm.MethodName)) ∈ lw_g := tg_of (List.mem_append_right _ (List.mem_of_getElem? (i := 669) (by decide +kernel))) rfl
theorem tw_670 : (Jvm.Cond.selects "ReplayLinkModel" ({ cls := "ReplayLinkModel", name := "settle", desc := "(I)I" } : Jvm.MethodName) ({ cls := "ReplayLinkModel", name := "settle", desc := "(I)I" } : Jvm.MethodName)) ∈ lw_g := tg_of (List.mem_append_right _ (List.mem_of_getElem? (i := 670) (by decide +kernel))) rfl
theorem tw_671 : (Jvm.Cond.code ({ cls := "ReplayLinkModel", name := "settle", desc := "(I)I" } : Jvm.MethodName) prog_8_method_37_code (4 : Nat) (Option.some Jvm.ClassFile.FieldType.int)) ∈ lw_g := tg_of (List.mem_append_right _ (List.mem_of_getElem? (i := 671) (by decide +kernel))) rfl
theorem tw_672 : (Jvm.Cond.constantLong "ReplayLinkModel" (158 : Nat) (400 : Int64)) ∈ lw_g := tg_of (List.mem_append_right _ (List.mem_of_getElem? (i := 672) (by decide +kernel))) rfl
theorem tw_673 : (Jvm.Cond.methodLink "ReplayLinkModel" (160 : Nat) ({ cls := "ReplayLinkModel", name := "isQuiet", desc := "()Z" } : Jvm.MethodName)) ∈ lw_g := tg_of (List.mem_append_right _ (List.mem_of_getElem? (i := 673) (by decide +kernel))) rfl
theorem tw_675 : (Jvm.Cond.instanceMethod ({ cls := "ReplayLinkModel", name := "isQuiet", desc := "()Z" } : Jvm.MethodName)) ∈ lw_g := tg_of (List.mem_append_right _ (List.mem_of_getElem? (i := 675) (by decide +kernel))) rfl
theorem tw_676 : (Jvm.Cond.code ({ cls := "ReplayLinkModel", name := "isQuiet", desc := "()Z" } : Jvm.MethodName) prog_8_method_36_code (3 : Nat) (Option.some Jvm.ClassFile.FieldType.boolean)) ∈ lw_g := tg_of (List.mem_append_right _ (List.mem_of_getElem? (i := 676) (by decide +kernel))) rfl
theorem tw_677 : (Jvm.Cond.methodLink "ReplayLinkLaw" (46 : Nat) ({ cls := "ReplayLinkModel", name := "voids", desc := "(I)I" } : Jvm.MethodName)) ∈ lw_g := tg_of (List.mem_append_right _ (List.mem_of_getElem? (i := 677) (by decide +kernel))) rfl
theorem tw_678 : (Jvm.Cond.instanceMethod ({ cls := "ReplayLinkModel", name := "voids", desc := "(I)I" } : Jvm.MethodName)) ∈ lw_g := tg_of (List.mem_append_right _ (List.mem_of_getElem? (i := 678) (by decide +kernel))) rfl
theorem tw_679 : (Jvm.Cond.selects "ReplayLinkModel" ({ cls := "ReplayLinkModel", name := "voids", desc := "(I)I" } : Jvm.MethodName) ({ cls := "ReplayLinkModel", name := "voids", desc := "(I)I" } : Jvm.MethodName)) ∈ lw_g := tg_of (List.mem_append_right _ (List.mem_of_getElem? (i := 679) (by decide +kernel))) rfl
theorem tw_680 : (Jvm.Cond.code ({ cls := "ReplayLinkModel", name := "voids", desc := "(I)I" } : Jvm.MethodName) prog_8_method_38_code (3 : Nat) (Option.some Jvm.ClassFile.FieldType.int)) ∈ lw_g := tg_of (List.mem_append_right _ (List.mem_of_getElem? (i := 680) (by decide +kernel))) rfl
theorem tw_681 : (Jvm.Cond.methodLink "ReplayLinkLaw" (51 : Nat) ({ cls := "ReplayLinkModel", name := "bend", desc := "(IIII)I" } : Jvm.MethodName)) ∈ lw_g := tg_of (List.mem_append_right _ (List.mem_of_getElem? (i := 681) (by decide +kernel))) rfl
theorem tw_682 : (Jvm.Cond.instanceMethod ({ cls := "ReplayLinkModel", name := "bend", desc := "(IIII)I" } : Jvm.MethodName)) ∈ lw_g := tg_of (List.mem_append_right _ (List.mem_of_getElem? (i := 682) (by decide +kernel))) rfl
theorem tw_683 : (Jvm.Cond.selects "ReplayLinkModel" ({ cls := "ReplayLinkModel", name := "bend", desc := "(IIII)I" } : Jvm.MethodName) ({ cls := "ReplayLinkModel", name := "bend", desc := "(IIII)I" } : Jvm.MethodName)) ∈ lw_g := tg_of (List.mem_append_right _ (List.mem_of_getElem? (i := 683) (by decide +kernel))) rfl
theorem tw_684 : (Jvm.Cond.code ({ cls := "ReplayLinkModel", name := "bend", desc := "(IIII)I" } : Jvm.MethodName) prog_8_method_40_code (6 : Nat) (Option.some Jvm.ClassFile.FieldType.int)) ∈ lw_g := tg_of (List.mem_append_right _ (List.mem_of_getElem? (i := 684) (by decide +kernel))) rfl
theorem tw_685 : (Jvm.Cond.methodLink "ReplayLinkModel" (164 : Nat) ({ cls := "ReplayLinkModel", name := "isFrame", desc := "(II)Z" } : Jvm.MethodName)) ∈ lw_g := tg_of (List.mem_append_right _ (List.mem_of_getElem? (i := 685) (by decide +kernel))) rfl
theorem tw_687 : (Jvm.Cond.instanceMethod ({ cls := "ReplayLinkModel", name := "isFrame", desc := "(II)Z" } : Jvm.MethodName)) ∈ lw_g := tg_of (List.mem_append_right _ (List.mem_of_getElem? (i := 687) (by decide +kernel))) rfl
theorem tw_688 : (Jvm.Cond.code ({ cls := "ReplayLinkModel", name := "isFrame", desc := "(II)Z" } : Jvm.MethodName) prog_8_method_39_code (3 : Nat) (Option.some Jvm.ClassFile.FieldType.boolean)) ∈ lw_g := tg_of (List.mem_append_right _ (List.mem_of_getElem? (i := 688) (by decide +kernel))) rfl
theorem tw_689 : (Jvm.Cond.methodLink "ReplayLinkLaw" (55 : Nat) ({ cls := "ReplayLinkModel", name := "lose", desc := "(II)I" } : Jvm.MethodName)) ∈ lw_g := tg_of (List.mem_append_right _ (List.mem_of_getElem? (i := 689) (by decide +kernel))) rfl
theorem tw_690 : (Jvm.Cond.instanceMethod ({ cls := "ReplayLinkModel", name := "lose", desc := "(II)I" } : Jvm.MethodName)) ∈ lw_g := tg_of (List.mem_append_right _ (List.mem_of_getElem? (i := 690) (by decide +kernel))) rfl
theorem tw_691 : (Jvm.Cond.selects "ReplayLinkModel" ({ cls := "ReplayLinkModel", name := "lose", desc := "(II)I" } : Jvm.MethodName) ({ cls := "ReplayLinkModel", name := "lose", desc := "(II)I" } : Jvm.MethodName)) ∈ lw_g := tg_of (List.mem_append_right _ (List.mem_of_getElem? (i := 691) (by decide +kernel))) rfl
theorem tw_692 : (Jvm.Cond.code ({ cls := "ReplayLinkModel", name := "lose", desc := "(II)I" } : Jvm.MethodName) prog_8_method_41_code (3 : Nat) (Option.some Jvm.ClassFile.FieldType.int)) ∈ lw_g := tg_of (List.mem_append_right _ (List.mem_of_getElem? (i := 692) (by decide +kernel))) rfl
theorem tw_693 : (Jvm.Cond.methodLink "ReplayLinkLaw" (59 : Nat) ({ cls := "ReplayLinkModel", name := "twice", desc := "(II)I" } : Jvm.MethodName)) ∈ lw_g := tg_of (List.mem_append_right _ (List.mem_of_getElem? (i := 693) (by decide +kernel))) rfl
theorem tw_694 : (Jvm.Cond.instanceMethod ({ cls := "ReplayLinkModel", name := "twice", desc := "(II)I" } : Jvm.MethodName)) ∈ lw_g := tg_of (List.mem_append_right _ (List.mem_of_getElem? (i := 694) (by decide +kernel))) rfl
theorem tw_695 : (Jvm.Cond.selects "ReplayLinkModel" ({ cls := "ReplayLinkModel", name := "twice", desc := "(II)I" } : Jvm.MethodName) ({ cls := "ReplayLinkModel", name := "twice", desc := "(II)I" } : Jvm.MethodName)) ∈ lw_g := tg_of (List.mem_append_right _ (List.mem_of_getElem? (i := 695) (by decide +kernel))) rfl
theorem tw_696 : (Jvm.Cond.code ({ cls := "ReplayLinkModel", name := "twice", desc := "(II)I" } : Jvm.MethodName) prog_8_method_42_code (4 : Nat) (Option.some Jvm.ClassFile.FieldType.int)) ∈ lw_g := tg_of (List.mem_append_right _ (List.mem_of_getElem? (i := 696) (by decide +kernel))) rfl
theorem tw_697 : (Jvm.Cond.methodLink "ReplayLinkLaw" (64 : Nat) ({ cls := "ReplayLinkModel", name := "wire", desc := "(III)I" } : Jvm.MethodName)) ∈ lw_g := tg_of (List.mem_append_right _ (List.mem_of_getElem? (i := 697) (by decide +kernel))) rfl
theorem tw_698 : (Jvm.Cond.instanceMethod ({ cls := "ReplayLinkModel", name := "wire", desc := "(III)I" } : Jvm.MethodName)) ∈ lw_g := tg_of (List.mem_append_right _ (List.mem_of_getElem? (i := 698) (by decide +kernel))) rfl
theorem tw_699 : (Jvm.Cond.selects "ReplayLinkModel" ({ cls := "ReplayLinkModel", name := "wire", desc := "(III)I" } : Jvm.MethodName) ({ cls := "ReplayLinkModel", name := "wire", desc := "(III)I" } : Jvm.MethodName)) ∈ lw_g := tg_of (List.mem_append_right _ (List.mem_of_getElem? (i := 699) (by decide +kernel))) rfl
theorem tw_700 : (Jvm.Cond.code ({ cls := "ReplayLinkModel", name := "wire", desc := "(III)I" } : Jvm.MethodName) prog_8_method_43_code (5 : Nat) (Option.some Jvm.ClassFile.FieldType.int)) ∈ lw_g := tg_of (List.mem_append_right _ (List.mem_of_getElem? (i := 700) (by decide +kernel))) rfl
theorem tw_701 : (Jvm.Cond.constantLong "ReplayLinkModel" (168 : Nat) (35 : Int64)) ∈ lw_g := tg_of (List.mem_append_right _ (List.mem_of_getElem? (i := 701) (by decide +kernel))) rfl
theorem tw_702 : (Jvm.Cond.methodLink "ReplayLinkLaw" (68 : Nat) ({ cls := "ReplayLinkModel", name := "end", desc := "(II)I" } : Jvm.MethodName)) ∈ lw_g := tg_of (List.mem_append_right _ (List.mem_of_getElem? (i := 702) (by decide +kernel))) rfl
theorem tw_703 : (Jvm.Cond.instanceMethod ({ cls := "ReplayLinkModel", name := "end", desc := "(II)I" } : Jvm.MethodName)) ∈ lw_g := tg_of (List.mem_append_right _ (List.mem_of_getElem? (i := 703) (by decide +kernel))) rfl
theorem tw_704 : (Jvm.Cond.selects "ReplayLinkModel" ({ cls := "ReplayLinkModel", name := "end", desc := "(II)I" } : Jvm.MethodName) ({ cls := "ReplayLinkModel", name := "end", desc := "(II)I" } : Jvm.MethodName)) ∈ lw_g := tg_of (List.mem_append_right _ (List.mem_of_getElem? (i := 704) (by decide +kernel))) rfl
theorem tw_705 : (Jvm.Cond.code ({ cls := "ReplayLinkModel", name := "end", desc := "(II)I" } : Jvm.MethodName) prog_8_method_44_code (4 : Nat) (Option.some Jvm.ClassFile.FieldType.int)) ∈ lw_g := tg_of (List.mem_append_right _ (List.mem_of_getElem? (i := 705) (by decide +kernel))) rfl
theorem tw_706 : (Jvm.Cond.methodLink "ReplayLinkLaw" (72 : Nat) ({ cls := "ReplayLinkModel", name := "up", desc := "(II)I" } : Jvm.MethodName)) ∈ lw_g := tg_of (List.mem_append_right _ (List.mem_of_getElem? (i := 706) (by decide +kernel))) rfl
theorem tw_707 : (Jvm.Cond.instanceMethod ({ cls := "ReplayLinkModel", name := "up", desc := "(II)I" } : Jvm.MethodName)) ∈ lw_g := tg_of (List.mem_append_right _ (List.mem_of_getElem? (i := 707) (by decide +kernel))) rfl
theorem tw_708 : (Jvm.Cond.selects "ReplayLinkModel" ({ cls := "ReplayLinkModel", name := "up", desc := "(II)I" } : Jvm.MethodName) ({ cls := "ReplayLinkModel", name := "up", desc := "(II)I" } : Jvm.MethodName)) ∈ lw_g := tg_of (List.mem_append_right _ (List.mem_of_getElem? (i := 708) (by decide +kernel))) rfl
theorem tw_709 : (Jvm.Cond.code ({ cls := "ReplayLinkModel", name := "up", desc := "(II)I" } : Jvm.MethodName) prog_8_method_46_code (3 : Nat) (Option.some Jvm.ClassFile.FieldType.int)) ∈ lw_g := tg_of (List.mem_append_right _ (List.mem_of_getElem? (i := 709) (by decide +kernel))) rfl
theorem tw_710 : (Jvm.Cond.methodLink "ReplayLinkModel" (170 : Nat) ({ cls := "ReplayLinkModel", name := "upMany", desc := "(I)I" } : Jvm.MethodName)) ∈ lw_g := tg_of (List.mem_append_right _ (List.mem_of_getElem? (i := 710) (by decide +kernel))) rfl
theorem tw_712 : (Jvm.Cond.instanceMethod ({ cls := "ReplayLinkModel", name := "upMany", desc := "(I)I" } : Jvm.MethodName)) ∈ lw_g := tg_of (List.mem_append_right _ (List.mem_of_getElem? (i := 712) (by decide +kernel))) rfl
theorem tw_713 : (Jvm.Cond.code ({ cls := "ReplayLinkModel", name := "upMany", desc := "(I)I" } : Jvm.MethodName) prog_8_method_45_code (2 : Nat) (Option.some Jvm.ClassFile.FieldType.int)) ∈ lw_g := tg_of (List.mem_append_right _ (List.mem_of_getElem? (i := 713) (by decide +kernel))) rfl
theorem tw_714 : (Jvm.Cond.methodLink "ReplayLinkLaw" (76 : Nat) ({ cls := "ReplayLinkModel", name := "upByte", desc := "(III)I" } : Jvm.MethodName)) ∈ lw_g := tg_of (List.mem_append_right _ (List.mem_of_getElem? (i := 714) (by decide +kernel))) rfl
theorem tw_715 : (Jvm.Cond.instanceMethod ({ cls := "ReplayLinkModel", name := "upByte", desc := "(III)I" } : Jvm.MethodName)) ∈ lw_g := tg_of (List.mem_append_right _ (List.mem_of_getElem? (i := 715) (by decide +kernel))) rfl
theorem tw_716 : (Jvm.Cond.selects "ReplayLinkModel" ({ cls := "ReplayLinkModel", name := "upByte", desc := "(III)I" } : Jvm.MethodName) ({ cls := "ReplayLinkModel", name := "upByte", desc := "(III)I" } : Jvm.MethodName)) ∈ lw_g := tg_of (List.mem_append_right _ (List.mem_of_getElem? (i := 716) (by decide +kernel))) rfl
theorem tw_717 : (Jvm.Cond.code ({ cls := "ReplayLinkModel", name := "upByte", desc := "(III)I" } : Jvm.MethodName) prog_8_method_47_code (4 : Nat) (Option.some Jvm.ClassFile.FieldType.int)) ∈ lw_g := tg_of (List.mem_append_right _ (List.mem_of_getElem? (i := 717) (by decide +kernel))) rfl
theorem tw_718 : (Jvm.Cond.methodLink "ReplayLinkLaw" (80 : Nat) ({ cls := "ReplayLinkModel", name := "count", desc := "(I)I" } : Jvm.MethodName)) ∈ lw_g := tg_of (List.mem_append_right _ (List.mem_of_getElem? (i := 718) (by decide +kernel))) rfl
theorem tw_719 : (Jvm.Cond.instanceMethod ({ cls := "ReplayLinkModel", name := "count", desc := "(I)I" } : Jvm.MethodName)) ∈ lw_g := tg_of (List.mem_append_right _ (List.mem_of_getElem? (i := 719) (by decide +kernel))) rfl
theorem tw_720 : (Jvm.Cond.selects "ReplayLinkModel" ({ cls := "ReplayLinkModel", name := "count", desc := "(I)I" } : Jvm.MethodName) ({ cls := "ReplayLinkModel", name := "count", desc := "(I)I" } : Jvm.MethodName)) ∈ lw_g := tg_of (List.mem_append_right _ (List.mem_of_getElem? (i := 720) (by decide +kernel))) rfl
theorem tw_721 : (Jvm.Cond.code ({ cls := "ReplayLinkModel", name := "count", desc := "(I)I" } : Jvm.MethodName) prog_8_method_48_code (2 : Nat) (Option.some Jvm.ClassFile.FieldType.int)) ∈ lw_g := tg_of (List.mem_append_right _ (List.mem_of_getElem? (i := 721) (by decide +kernel))) rfl
theorem tw_722 : (Jvm.Cond.constantLong "ReplayLinkModel" (173 : Nat) (17 : Int64)) ∈ lw_g := tg_of (List.mem_append_right _ (List.mem_of_getElem? (i := 722) (by decide +kernel))) rfl
theorem tw_723 : (Jvm.Cond.methodLink "ReplayLinkLaw" (84 : Nat) ({ cls := "ReplayLinkModel", name := "keep", desc := "(I)I" } : Jvm.MethodName)) ∈ lw_g := tg_of (List.mem_append_right _ (List.mem_of_getElem? (i := 723) (by decide +kernel))) rfl
theorem tw_724 : (Jvm.Cond.instanceMethod ({ cls := "ReplayLinkModel", name := "keep", desc := "(I)I" } : Jvm.MethodName)) ∈ lw_g := tg_of (List.mem_append_right _ (List.mem_of_getElem? (i := 724) (by decide +kernel))) rfl
theorem tw_725 : (Jvm.Cond.selects "ReplayLinkModel" ({ cls := "ReplayLinkModel", name := "keep", desc := "(I)I" } : Jvm.MethodName) ({ cls := "ReplayLinkModel", name := "keep", desc := "(I)I" } : Jvm.MethodName)) ∈ lw_g := tg_of (List.mem_append_right _ (List.mem_of_getElem? (i := 725) (by decide +kernel))) rfl
theorem tw_726 : (Jvm.Cond.code ({ cls := "ReplayLinkModel", name := "keep", desc := "(I)I" } : Jvm.MethodName) prog_8_method_49_code (4 : Nat) (Option.some Jvm.ClassFile.FieldType.int)) ∈ lw_g := tg_of (List.mem_append_right _ (List.mem_of_getElem? (i := 726) (by decide +kernel))) rfl
theorem tw_727 : (Jvm.Cond.methodLink "ReplayLinkLaw" (88 : Nat) ({ cls := "ReplayLinkModel", name := "again", desc := "(I)I" } : Jvm.MethodName)) ∈ lw_g := tg_of (List.mem_append_right _ (List.mem_of_getElem? (i := 727) (by decide +kernel))) rfl
theorem tw_728 : (Jvm.Cond.instanceMethod ({ cls := "ReplayLinkModel", name := "again", desc := "(I)I" } : Jvm.MethodName)) ∈ lw_g := tg_of (List.mem_append_right _ (List.mem_of_getElem? (i := 728) (by decide +kernel))) rfl
theorem tw_729 : (Jvm.Cond.selects "ReplayLinkModel" ({ cls := "ReplayLinkModel", name := "again", desc := "(I)I" } : Jvm.MethodName) ({ cls := "ReplayLinkModel", name := "again", desc := "(I)I" } : Jvm.MethodName)) ∈ lw_g := tg_of (List.mem_append_right _ (List.mem_of_getElem? (i := 729) (by decide +kernel))) rfl
theorem tw_730 : (Jvm.Cond.code ({ cls := "ReplayLinkModel", name := "again", desc := "(I)I" } : Jvm.MethodName) prog_8_method_50_code (3 : Nat) (Option.some Jvm.ClassFile.FieldType.int)) ∈ lw_g := tg_of (List.mem_append_right _ (List.mem_of_getElem? (i := 730) (by decide +kernel))) rfl
theorem tw_731 : (Jvm.Cond.constantLong "ReplayLinkLaw" (13 : Nat) (4294967295 : Int64)) ∈ lw_g := tg_of (List.mem_append_right _ (List.mem_of_getElem? (i := 731) (by decide +kernel))) rfl
def nestW : List Cond := [(Jvm.Cond.methodLinkNest "ReplayLink" (9 : Nat) ({ cls := "ReplayLink$Link", name := "<init>", desc := "()V" } : Jvm.MethodName) "ReplayLink"), (Jvm.Cond.methodLinkNest "ReplayLink$Link" (11 : Nat) ({ cls := "ReplayLink$End", name := "<init>", desc := "()V" } : Jvm.MethodName) "ReplayLink"), (Jvm.Cond.methodLinkNest "ReplayLink$Wire" (17 : Nat) ({ cls := "ReplayLink$Frame", name := "<init>", desc := "()V" } : Jvm.MethodName) "ReplayLink"), (Jvm.Cond.methodLinkNest "ReplayLink$Frame" (15 : Nat) ({ cls := "ReplayLink", name := "checkOf", desc := "(I[III)J" } : Jvm.MethodName) "ReplayLink"), (Jvm.Cond.methodLinkNest "ReplayLink$Frame" (39 : Nat) ({ cls := "ReplayLink", name := "turned", desc := "(J)J" } : Jvm.MethodName) "ReplayLink"), (Jvm.Cond.methodLinkNest "ReplayLink$Link" (110 : Nat) ({ cls := "ReplayLink", name := "by64", desc := "(I)I" } : Jvm.MethodName) "ReplayLink"), (Jvm.Cond.methodLinkNest "ReplayLink$End" (40 : Nat) ({ cls := "ReplayLink", name := "by64", desc := "(I)I" } : Jvm.MethodName) "ReplayLink"), (Jvm.Cond.methodLinkNest "ReplayLink$End" (108 : Nat) ({ cls := "ReplayLink", name := "asNumber", desc := "(Z)I" } : Jvm.MethodName) "ReplayLink")]
theorem tn_20 : (Jvm.Cond.methodLinkNest "ReplayLink" (9 : Nat) ({ cls := "ReplayLink$Link", name := "<init>", desc := "()V" } : Jvm.MethodName) "ReplayLink") ∈ nestW := List.mem_of_getElem? (i := 0) rfl
theorem tn_27 : (Jvm.Cond.methodLinkNest "ReplayLink$Link" (11 : Nat) ({ cls := "ReplayLink$End", name := "<init>", desc := "()V" } : Jvm.MethodName) "ReplayLink") ∈ nestW := List.mem_of_getElem? (i := 1) rfl
theorem tn_120 : (Jvm.Cond.methodLinkNest "ReplayLink$Wire" (17 : Nat) ({ cls := "ReplayLink$Frame", name := "<init>", desc := "()V" } : Jvm.MethodName) "ReplayLink") ∈ nestW := List.mem_of_getElem? (i := 2) rfl
theorem tn_283 : (Jvm.Cond.methodLinkNest "ReplayLink$Frame" (15 : Nat) ({ cls := "ReplayLink", name := "checkOf", desc := "(I[III)J" } : Jvm.MethodName) "ReplayLink") ∈ nestW := List.mem_of_getElem? (i := 3) rfl
theorem tn_292 : (Jvm.Cond.methodLinkNest "ReplayLink$Frame" (39 : Nat) ({ cls := "ReplayLink", name := "turned", desc := "(J)J" } : Jvm.MethodName) "ReplayLink") ∈ nestW := List.mem_of_getElem? (i := 4) rfl
theorem tn_301 : (Jvm.Cond.methodLinkNest "ReplayLink$Link" (110 : Nat) ({ cls := "ReplayLink", name := "by64", desc := "(I)I" } : Jvm.MethodName) "ReplayLink") ∈ nestW := List.mem_of_getElem? (i := 5) rfl
theorem tn_309 : (Jvm.Cond.methodLinkNest "ReplayLink$End" (40 : Nat) ({ cls := "ReplayLink", name := "by64", desc := "(I)I" } : Jvm.MethodName) "ReplayLink") ∈ nestW := List.mem_of_getElem? (i := 6) rfl
theorem tn_448 : (Jvm.Cond.methodLinkNest "ReplayLink$End" (108 : Nat) ({ cls := "ReplayLink", name := "asNumber", desc := "(Z)I" } : Jvm.MethodName) "ReplayLink") ∈ nestW := List.mem_of_getElem? (i := 7) rfl
def NW (U : State) : Prop := (∀ w ∈ nestW, va_Nw w U) ∧ va_AO "ReplayLink$End" U ∧ va_AO "ReplayLink$Wire" U ∧ va_AO "ReplayLink$Frame" U ∧ va_AO "ReplayLink$Link" U
theorem NW.warm {s U : State} (hW : s.WarmedH U.vm) (h : NW s) : NW U := by
  obtain ⟨h0, h1, h2, h3, h4⟩ := h
  refine ⟨fun w hw => ?_, va_AO.moved hW.alike h1, va_AO.moved hW.alike h2, va_AO.moved hW.alike h3, va_AO.moved hW.alike h4⟩
  have h9 := h0 w hw
  simp only [nestW, List.mem_cons, List.not_mem_nil, or_false] at hw
  rcases hw with rfl | rfl | rfl | rfl | rfl | rfl | rfl | rfl <;> exact va_Nw.warmM hW h9
theorem NW.same {s U : State} (hv : s.vm = U.vm) (h : NW s) : NW U := by
  obtain ⟨h0, h1, h2, h3, h4⟩ := h
  refine ⟨fun w hw => ?_, va_AO.moved (hv ▸ Vm.Alike.refl _) h1, va_AO.moved (hv ▸ Vm.Alike.refl _) h2, va_AO.moved (hv ▸ Vm.Alike.refl _) h3, va_AO.moved (hv ▸ Vm.Alike.refl _) h4⟩
  have h9 := h0 w hw
  simp only [nestW, List.mem_cons, List.not_mem_nil, or_false] at hw
  rcases hw with rfl | rfl | rfl | rfl | rfl | rfl | rfl | rfl <;> exact va_Nw.same rfl hv h9
theorem NW.of {s : State} {a : Array Value} (h : ∀ w ∈ lw_tbl, w.before a s = true) : NW s := by
  refine ⟨fun w hw => ?_, va_AO.of (h _ (List.mem_append_right _ (List.mem_of_getElem? (i := 25) (by decide +kernel)))), va_AO.of (h _ (List.mem_append_right _ (List.mem_of_getElem? (i := 111) (by decide +kernel)))), va_AO.of (h _ (List.mem_append_right _ (List.mem_of_getElem? (i := 118) (by decide +kernel)))), va_AO.of (h _ (List.mem_append_right _ (List.mem_of_getElem? (i := 179) (by decide +kernel))))⟩
  have h9 : w ∈ lw_tbl := by
    simp only [nestW, List.mem_cons, List.not_mem_nil, or_false] at hw
    rcases hw with rfl | rfl | rfl | rfl | rfl | rfl | rfl | rfl
    · exact List.mem_append_right _ (List.mem_of_getElem? (i := 20) (by decide +kernel))
    · exact List.mem_append_right _ (List.mem_of_getElem? (i := 27) (by decide +kernel))
    · exact List.mem_append_right _ (List.mem_of_getElem? (i := 120) (by decide +kernel))
    · exact List.mem_append_right _ (List.mem_of_getElem? (i := 283) (by decide +kernel))
    · exact List.mem_append_right _ (List.mem_of_getElem? (i := 292) (by decide +kernel))
    · exact List.mem_append_right _ (List.mem_of_getElem? (i := 301) (by decide +kernel))
    · exact List.mem_append_right _ (List.mem_of_getElem? (i := 309) (by decide +kernel))
    · exact List.mem_append_right _ (List.mem_of_getElem? (i := 448) (by decide +kernel))
  have h8 := h w h9
  simp only [nestW, List.mem_cons, List.not_mem_nil, or_false] at hw
  rcases hw with rfl | rfl | rfl | rfl | rfl | rfl | rfl | rfl <;> exact va_Nw.of rfl h8
theorem tp_0 : Cond.selects "ReplayLink$Link" (⟨"ReplayLink$Link", "receive", "(LReplayLink$Wire;LReplayLink$End;)I"⟩ : MethodName) (⟨"ReplayLink$Link", "receive", "(LReplayLink$Wire;LReplayLink$End;)I"⟩ : MethodName) ∈ lw_g := tg_of (List.mem_append_left _ (List.mem_of_getElem? (i := 0) (by decide +kernel))) rfl
theorem tp_1 : Cond.selects "ReplayLink$Link" (⟨"ReplayLink$Link", "takeIn", "(LReplayLink$Frame;LReplayLink$End;)V"⟩ : MethodName) (⟨"ReplayLink$Link", "takeIn", "(LReplayLink$Frame;LReplayLink$End;)V"⟩ : MethodName) ∈ lw_g := tg_of (List.mem_append_left _ (List.mem_of_getElem? (i := 1) (by decide +kernel))) rfl
theorem tp_2 : Cond.selects "ReplayLink$Frame" (⟨"ReplayLink$Frame", "readAsWord", "()I"⟩ : MethodName) (⟨"ReplayLink$Frame", "readAsWord", "()I"⟩ : MethodName) ∈ lw_g := tg_of (List.mem_append_left _ (List.mem_of_getElem? (i := 2) (by decide +kernel))) rfl
theorem tp_3 : Cond.selects "ReplayLink$Frame" (⟨"ReplayLink$Frame", "readLowestFirst", "(II)J"⟩ : MethodName) (⟨"ReplayLink$Frame", "readLowestFirst", "(II)J"⟩ : MethodName) ∈ lw_g := tg_of (List.mem_append_left _ (List.mem_of_getElem? (i := 3) (by decide +kernel))) rfl
theorem tp_4 : Cond.selects "ReplayLink$Frame" (⟨"ReplayLink$Frame", "readAsPacket", "()I"⟩ : MethodName) (⟨"ReplayLink$Frame", "readAsPacket", "()I"⟩ : MethodName) ∈ lw_g := tg_of (List.mem_append_left _ (List.mem_of_getElem? (i := 4) (by decide +kernel))) rfl
theorem tp_5 : Cond.selects "ReplayLink$Link" (⟨"ReplayLink$Link", "takeInData", "(LReplayLink$Frame;LReplayLink$End;)V"⟩ : MethodName) (⟨"ReplayLink$Link", "takeInData", "(LReplayLink$Frame;LReplayLink$End;)V"⟩ : MethodName) ∈ lw_g := tg_of (List.mem_append_left _ (List.mem_of_getElem? (i := 5) (by decide +kernel))) rfl
theorem tp_6 : Cond.selects "ReplayLink$Link" (⟨"ReplayLink$Link", "takeInWord", "(IILReplayLink$End;)V"⟩ : MethodName) (⟨"ReplayLink$Link", "takeInWord", "(IILReplayLink$End;)V"⟩ : MethodName) ∈ lw_g := tg_of (List.mem_append_left _ (List.mem_of_getElem? (i := 6) (by decide +kernel))) rfl
theorem tp_7 : Cond.selects "ReplayLink$Link" (⟨"ReplayLink$Link", "sendAgain", "(LReplayLink$End;)V"⟩ : MethodName) (⟨"ReplayLink$Link", "sendAgain", "(LReplayLink$End;)V"⟩ : MethodName) ∈ lw_g := tg_of (List.mem_append_left _ (List.mem_of_getElem? (i := 7) (by decide +kernel))) rfl
theorem tp_8 : Cond.selects "ReplayLink$Link" (⟨"ReplayLink$Link", "train", "()V"⟩ : MethodName) (⟨"ReplayLink$Link", "train", "()V"⟩ : MethodName) ∈ lw_g := tg_of (List.mem_append_left _ (List.mem_of_getElem? (i := 8) (by decide +kernel))) rfl
theorem tp_9 : Cond.selects "ReplayLink$Link" (⟨"ReplayLink$Link", "runTimers", "(LReplayLink$End;)V"⟩ : MethodName) (⟨"ReplayLink$Link", "runTimers", "(LReplayLink$End;)V"⟩ : MethodName) ∈ lw_g := tg_of (List.mem_append_left _ (List.mem_of_getElem? (i := 9) (by decide +kernel))) rfl
theorem tp_10 : Cond.selects "ReplayLink$Link" (⟨"ReplayLink$Link", "layOneFrame", "(LReplayLink$End;LReplayLink$Wire;)V"⟩ : MethodName) (⟨"ReplayLink$Link", "layOneFrame", "(LReplayLink$End;LReplayLink$Wire;)V"⟩ : MethodName) ∈ lw_g := tg_of (List.mem_append_left _ (List.mem_of_getElem? (i := 10) (by decide +kernel))) rfl
theorem tp_11 : Cond.selects "ReplayLink$Frame" (⟨"ReplayLink$Frame", "writeLowestFirst", "(IIJ)V"⟩ : MethodName) (⟨"ReplayLink$Frame", "writeLowestFirst", "(IIJ)V"⟩ : MethodName) ∈ lw_g := tg_of (List.mem_append_left _ (List.mem_of_getElem? (i := 11) (by decide +kernel))) rfl
theorem tp_12 : Cond.selects "ReplayLink$Link" (⟨"ReplayLink$Link", "layNewPacket", "(LReplayLink$End;LReplayLink$Frame;)V"⟩ : MethodName) (⟨"ReplayLink$Link", "layNewPacket", "(LReplayLink$End;LReplayLink$Frame;)V"⟩ : MethodName) ∈ lw_g := tg_of (List.mem_append_left _ (List.mem_of_getElem? (i := 12) (by decide +kernel))) rfl
theorem tp_13 : Cond.selects "ReplayLink" (⟨"ReplayLink", "isNoFrame", "(II)Z"⟩ : MethodName) (⟨"ReplayLink", "isNoFrame", "(II)Z"⟩ : MethodName) ∈ lw_g := tg_of (List.mem_append_left _ (List.mem_of_getElem? (i := 13) (by decide +kernel))) rfl
theorem tp_14 : Cond.selects "ReplayLink" (⟨"ReplayLink", "isNoPlaceToKeep", "(I)Z"⟩ : MethodName) (⟨"ReplayLink", "isNoPlaceToKeep", "(I)Z"⟩ : MethodName) ∈ lw_g := tg_of (List.mem_append_left _ (List.mem_of_getElem? (i := 14) (by decide +kernel))) rfl
theorem tp_15 : Cond.selects "ReplayLinkModel" (⟨"ReplayLinkModel", "waiting", "(I)I"⟩ : MethodName) (⟨"ReplayLinkModel", "waiting", "(I)I"⟩ : MethodName) ∈ lw_g := tg_of (List.mem_append_left _ (List.mem_of_getElem? (i := 15) (by decide +kernel))) rfl
theorem tp_16 : Cond.selects "ReplayLinkModel" (⟨"ReplayLinkModel", "begins", "(Z)V"⟩ : MethodName) (⟨"ReplayLinkModel", "begins", "(Z)V"⟩ : MethodName) ∈ lw_g := tg_of (List.mem_append_left _ (List.mem_of_getElem? (i := 16) (by decide +kernel))) rfl
theorem tp_17 : Cond.selects "ReplayLinkModel" (⟨"ReplayLinkModel", "adds", "(IZ)V"⟩ : MethodName) (⟨"ReplayLinkModel", "adds", "(IZ)V"⟩ : MethodName) ∈ lw_g := tg_of (List.mem_append_left _ (List.mem_of_getElem? (i := 17) (by decide +kernel))) rfl
theorem tp_18 : Cond.selects "ReplayLinkModel" (⟨"ReplayLinkModel", "sumOf", "(Z)J"⟩ : MethodName) (⟨"ReplayLinkModel", "sumOf", "(Z)J"⟩ : MethodName) ∈ lw_g := tg_of (List.mem_append_left _ (List.mem_of_getElem? (i := 18) (by decide +kernel))) rfl
theorem tp_19 : Cond.selects "ReplayLinkModel" (⟨"ReplayLinkModel", "ticks", "()I"⟩ : MethodName) (⟨"ReplayLinkModel", "ticks", "()I"⟩ : MethodName) ∈ lw_g := tg_of (List.mem_append_left _ (List.mem_of_getElem? (i := 19) (by decide +kernel))) rfl
theorem tp_20 : Cond.selects "ReplayLinkModel" (⟨"ReplayLinkModel", "coming", "()I"⟩ : MethodName) (⟨"ReplayLinkModel", "coming", "()I"⟩ : MethodName) ∈ lw_g := tg_of (List.mem_append_left _ (List.mem_of_getElem? (i := 20) (by decide +kernel))) rfl
theorem tp_21 : Cond.selects "ReplayLinkModel" (⟨"ReplayLinkModel", "many", "(I)I"⟩ : MethodName) (⟨"ReplayLinkModel", "many", "(I)I"⟩ : MethodName) ∈ lw_g := tg_of (List.mem_append_left _ (List.mem_of_getElem? (i := 21) (by decide +kernel))) rfl
theorem tp_22 : Cond.selects "ReplayLinkModel" (⟨"ReplayLinkModel", "comes", "(II)V"⟩ : MethodName) (⟨"ReplayLinkModel", "comes", "(II)V"⟩ : MethodName) ∈ lw_g := tg_of (List.mem_append_left _ (List.mem_of_getElem? (i := 22) (by decide +kernel))) rfl
theorem tp_23 : Cond.selects "ReplayLinkModel" (⟨"ReplayLinkModel", "remove", "(II)V"⟩ : MethodName) (⟨"ReplayLinkModel", "remove", "(II)V"⟩ : MethodName) ∈ lw_g := tg_of (List.mem_append_left _ (List.mem_of_getElem? (i := 23) (by decide +kernel))) rfl
theorem tp_24 : Cond.selects "ReplayLinkModel" (⟨"ReplayLinkModel", "read", "(I)I"⟩ : MethodName) (⟨"ReplayLinkModel", "read", "(I)I"⟩ : MethodName) ∈ lw_g := tg_of (List.mem_append_left _ (List.mem_of_getElem? (i := 24) (by decide +kernel))) rfl
theorem tp_25 : Cond.selects "ReplayLinkModel" (⟨"ReplayLinkModel", "comesData", "(II)V"⟩ : MethodName) (⟨"ReplayLinkModel", "comesData", "(II)V"⟩ : MethodName) ∈ lw_g := tg_of (List.mem_append_left _ (List.mem_of_getElem? (i := 25) (by decide +kernel))) rfl
theorem tp_26 : Cond.selects "ReplayLinkModel" (⟨"ReplayLinkModel", "dropped", "(I)V"⟩ : MethodName) (⟨"ReplayLinkModel", "dropped", "(I)V"⟩ : MethodName) ∈ lw_g := tg_of (List.mem_append_left _ (List.mem_of_getElem? (i := 26) (by decide +kernel))) rfl
theorem tp_27 : Cond.selects "ReplayLinkModel" (⟨"ReplayLinkModel", "handsUp", "(II)V"⟩ : MethodName) (⟨"ReplayLinkModel", "handsUp", "(II)V"⟩ : MethodName) ∈ lw_g := tg_of (List.mem_append_left _ (List.mem_of_getElem? (i := 27) (by decide +kernel))) rfl
theorem tp_28 : Cond.selects "ReplayLinkModel" (⟨"ReplayLinkModel", "comesWord", "(III)V"⟩ : MethodName) (⟨"ReplayLinkModel", "comesWord", "(III)V"⟩ : MethodName) ∈ lw_g := tg_of (List.mem_append_left _ (List.mem_of_getElem? (i := 28) (by decide +kernel))) rfl
theorem tp_29 : Cond.selects "ReplayLinkModel" (⟨"ReplayLinkModel", "sendsAgain", "(I)V"⟩ : MethodName) (⟨"ReplayLinkModel", "sendsAgain", "(I)V"⟩ : MethodName) ∈ lw_g := tg_of (List.mem_append_left _ (List.mem_of_getElem? (i := 29) (by decide +kernel))) rfl
theorem tp_30 : Cond.selects "ReplayLinkModel" (⟨"ReplayLinkModel", "timers", "(I)V"⟩ : MethodName) (⟨"ReplayLinkModel", "timers", "(I)V"⟩ : MethodName) ∈ lw_g := tg_of (List.mem_append_left _ (List.mem_of_getElem? (i := 30) (by decide +kernel))) rfl
theorem tp_31 : Cond.selects "ReplayLinkModel" (⟨"ReplayLinkModel", "laying", "(I)V"⟩ : MethodName) (⟨"ReplayLinkModel", "laying", "(I)V"⟩ : MethodName) ∈ lw_g := tg_of (List.mem_append_left _ (List.mem_of_getElem? (i := 31) (by decide +kernel))) rfl
theorem tp_32 : Cond.selects "ReplayLinkModel" (⟨"ReplayLinkModel", "laysWord", "(II)V"⟩ : MethodName) (⟨"ReplayLinkModel", "laysWord", "(II)V"⟩ : MethodName) ∈ lw_g := tg_of (List.mem_append_left _ (List.mem_of_getElem? (i := 32) (by decide +kernel))) rfl
theorem tp_33 : Cond.selects "ReplayLinkModel" (⟨"ReplayLinkModel", "beginsFrame", "(I)V"⟩ : MethodName) (⟨"ReplayLinkModel", "beginsFrame", "(I)V"⟩ : MethodName) ∈ lw_g := tg_of (List.mem_append_left _ (List.mem_of_getElem? (i := 33) (by decide +kernel))) rfl
theorem tp_34 : Cond.selects "ReplayLinkModel" (⟨"ReplayLinkModel", "lays", "(I)V"⟩ : MethodName) (⟨"ReplayLinkModel", "lays", "(I)V"⟩ : MethodName) ∈ lw_g := tg_of (List.mem_append_left _ (List.mem_of_getElem? (i := 34) (by decide +kernel))) rfl
theorem tp_35 : Cond.selects "ReplayLinkModel" (⟨"ReplayLinkModel", "laysData", "(IIZ)V"⟩ : MethodName) (⟨"ReplayLinkModel", "laysData", "(IIZ)V"⟩ : MethodName) ∈ lw_g := tg_of (List.mem_append_left _ (List.mem_of_getElem? (i := 35) (by decide +kernel))) rfl
theorem tp_36 : Cond.selects "ReplayLinkModel" (⟨"ReplayLinkModel", "isQuiet", "()Z"⟩ : MethodName) (⟨"ReplayLinkModel", "isQuiet", "()Z"⟩ : MethodName) ∈ lw_g := tg_of (List.mem_append_left _ (List.mem_of_getElem? (i := 36) (by decide +kernel))) rfl
theorem tp_37 : Cond.selects "ReplayLinkModel" (⟨"ReplayLinkModel", "isFrame", "(II)Z"⟩ : MethodName) (⟨"ReplayLinkModel", "isFrame", "(II)Z"⟩ : MethodName) ∈ lw_g := tg_of (List.mem_append_left _ (List.mem_of_getElem? (i := 37) (by decide +kernel))) rfl
theorem tp_38 : Cond.selects "ReplayLinkModel" (⟨"ReplayLinkModel", "upMany", "(I)I"⟩ : MethodName) (⟨"ReplayLinkModel", "upMany", "(I)I"⟩ : MethodName) ∈ lw_g := tg_of (List.mem_append_left _ (List.mem_of_getElem? (i := 38) (by decide +kernel))) rfl
end
section
/-! the judgement St: the machine at a pc, with the world ws, the locals lv, the stack stk, comes to its goal -/
abbrev GG : Type := va_G × (Nat → ClassId)
def tyG (G : GG) : List (ClassId × FieldType) := [(G.2 0, .int), (G.2 1, .boolean), (G.2 2, .object "ReplayLink$End"), (G.2 3, .object "ReplayLink$Frame"), (G.2 4, .object "ReplayLink$Link"), (G.2 5, .object "ReplayLink$Wire")]
abbrev Cx : Type := Program × Env × Room × State × MethodId × Array Value × List Frame × Method × Code × Nat × (State → Prop)
def St (l : Launch) (G : GG) (A : Nat → Prop) (Γ : Cx) (k n : Nat) (ws : va_W) (pc : Nat) (lv : List (Nat × Value)) (stk : List Value) : Prop :=
  match Γ with
  | (p, e, R, s, m, args, below, meth, c, nL, Q) => ∀ (H : Heap) (locs : List Loc) (ls : Array Slot), va_P G.1 vwCl ws H → va_D A ws → va_S A s.heap H locs → lv_has ls nL lv → W p l e R s m args below meth c H locs k n Q (F0 m pc ls stk)
def CX (G : GG) (A : Nat → Prop) (Γ : Cx) (cc : ByteArray) (own : String) (rm : Room) (nL' : Nat) : Prop :=
  match Γ with
  | (p, _, R, s, m, args, _, _, c, nL, _) => p.tables.exec = Jvm.exec ∧ c.code = cc ∧ c.maxLocals = nL ∧ s.vm.findClass own = some m.cls ∧ (∀ w ∈ lw_g, w.before args s = true) ∧ va_K G.1 vwCl (tyG G) s ∧ (∀ q, s.heap.size ≤ q → A q) ∧ NW s ∧ R = rm ∧ nL = nL'
/-- what a method needs of the world ahead of it -/
def gB (G : GG) (A : Nat → Prop) (ws : va_W) (U : State) : Prop := va_P G.1 vwCl ws U.heap ∧ va_K G.1 vwCl (tyG G) U ∧ va_D A ws
abbrev gPc (G : GG) (A : Nat → Prop) (ws : va_W) (av : List Value) : Array Value → State → Prop := va_Pc av (fun U => (∀ q, U.heap.size ≤ q → A q) ∧ NW U ∧ gB G A ws U)
abbrev gQi (G : GG) (A : Nat → Prop) (ws : va_W) (r : Int32) : Array Value → State → Outcome → State → Prop := va_Qi (fun z (_ : Unit) => z = r) (fun _ t => gB G A ws t) A
abbrev gQl (G : GG) (A : Nat → Prop) (ws : va_W) (r : Int64) : Array Value → State → Outcome → State → Prop := va_Ql (fun z (_ : Unit) => z = r) (fun _ t => gB G A ws t) A
abbrev gQv (G : GG) (A : Nat → Prop) (ws : va_W) : Array Value → State → Outcome → State → Prop := va_Qv (fun (_ : Unit) => True) (fun _ t => gB G A ws t) A
abbrev gQr (G : GG) (A : Nat → Prop) (ws : va_W) (a : Nat) : Array Value → State → Outcome → State → Prop := va_Qr (fun (_ : Unit) => True) (fun _ b t => b = a ∧ gB G A ws t) A
/-- the contracts -/
abbrev MI (l : Launch) (y : MethodName) (cc : ByteArray) (mL : Nat) (rt : FieldType) (rm : Room) (G : GG) (A : Nat → Prop) (ws : va_W) (av : List Value) (r : Int32) (ws' : va_W) : Prop := Met l y (Cond.code y cc mL (some rt) :: lw_g) rm (gPc G A ws av) (gQi G A ws' r) rm.cells rm.slots A
abbrev ML (l : Launch) (y : MethodName) (cc : ByteArray) (mL : Nat) (rm : Room) (G : GG) (A : Nat → Prop) (ws : va_W) (av : List Value) (r : Int64) (ws' : va_W) : Prop := Met l y (Cond.code y cc mL (some .long) :: lw_g) rm (gPc G A ws av) (gQl G A ws' r) rm.cells rm.slots A
abbrev MV (l : Launch) (y : MethodName) (cc : ByteArray) (mL : Nat) (rm : Room) (G : GG) (A : Nat → Prop) (ws : va_W) (av : List Value) (ws' : va_W) : Prop := Met l y (Cond.code y cc mL none :: lw_g) rm (gPc G A ws av) (gQv G A ws') rm.cells rm.slots A
abbrev MR (l : Launch) (y : MethodName) (cc : ByteArray) (mL : Nat) (rt : FieldType) (rm : Room) (G : GG) (A : Nat → Prop) (ws : va_W) (av : List Value) (a : Nat) (ws' : va_W) : Prop := Met l y (Cond.code y cc mL (some rt) :: lw_g) rm (gPc G A ws av) (gQr G A ws' a) rm.cells rm.slots A
section STEPS
variable {l : Launch} {G : GG} {A : Nat → Prop} {Γ : Cx} {cc : ByteArray} {own : String} {rm : Room} {nL k n pc : Nat} {ws : va_W} {lv : List (Nat × Value)} {rest : List Value}
theorem s_iconst (C : CX G A Γ cc own rm nL) {z : Int} {v : Int32} (d : decode cc pc = .ok (.iconst z, 1)) (hv : Int32.ofInt z = v) (K : St l G A Γ k n ws (pc + 1) lv (.int v :: rest)) : St l G A Γ k n ws pc lv rest := by
  obtain ⟨p, e, R, s, m, args, below, meth, c, nL, Q⟩ := Γ
  obtain ⟨hx, hb, hml, hown, hts, hK, hA, hN, rfl, rfl⟩ := C
  intro H locs ls hP hD hS hl
  exact lv_iconst hx hb d hv (K H locs ls hP hD hS hl)
theorem s_bipush (C : CX G A Γ cc own rm nL) {z : Int} {v : Int32} (d : decode cc pc = .ok (.bipush z, 2)) (hv : (Int8.ofInt z).toInt32 = v) (K : St l G A Γ k n ws (pc + 2) lv (.int v :: rest)) : St l G A Γ k n ws pc lv rest := by
  obtain ⟨p, e, R, s, m, args, below, meth, c, nL, Q⟩ := Γ
  obtain ⟨hx, hb, hml, hown, hts, hK, hA, hN, rfl, rfl⟩ := C
  intro H locs ls hP hD hS hl
  exact lv_bipush hx hb d hv (K H locs ls hP hD hS hl)
theorem s_sipush (C : CX G A Γ cc own rm nL) {z : Int} {v : Int32} (d : decode cc pc = .ok (.sipush z, 3)) (hv : (Int16.ofInt z).toInt32 = v) (K : St l G A Γ k n ws (pc + 3) lv (.int v :: rest)) : St l G A Γ k n ws pc lv rest := by
  obtain ⟨p, e, R, s, m, args, below, meth, c, nL, Q⟩ := Γ
  obtain ⟨hx, hb, hml, hown, hts, hK, hA, hN, rfl, rfl⟩ := C
  intro H locs ls hP hD hS hl
  exact lv_sipush hx hb d hv (K H locs ls hP hD hS hl)
theorem s_lconst (C : CX G A Γ cc own rm nL) {z : Fin 2} {v : Int64} (d : decode cc pc = .ok (.lconst z, 1)) (hv : Int64.ofNat (z : Nat) = v) (K : St l G A Γ k n ws (pc + 1) lv (.long v :: rest)) : St l G A Γ k n ws pc lv rest := by
  obtain ⟨p, e, R, s, m, args, below, meth, c, nL, Q⟩ := Γ
  obtain ⟨hx, hb, hml, hown, hts, hK, hA, hN, rfl, rfl⟩ := C
  intro H locs ls hP hD hS hl
  exact lv_lconst hx hb d hv (K H locs ls hP hD hS hl)
theorem s_ldc2 (C : CX G A Γ cc own rm nL) {ix : Nat} {v : Int64} (hc : Cond.constantLong own ix v ∈ lw_g) (d : decode cc pc = .ok (.ldc2_w ix, 3)) (K : St l G A Γ k n ws (pc + 3) lv (.long v :: rest)) : St l G A Γ k n ws pc lv rest := by
  obtain ⟨p, e, R, s, m, args, below, meth, c, nL, Q⟩ := Γ
  obtain ⟨hx, hb, hml, hown, hts, hK, hA, hN, rfl, rfl⟩ := C
  intro H locs ls hP hD hS hl
  exact lv_ldc2 hx hb hown (hts _ hc) d (K H locs ls hP hD hS hl)
theorem s_iload_n (C : CX G A Γ cc own rm nL) {z : Fin 4} {x : Int32} (q : Nat) (d : decode cc pc = .ok (.iload_n z, 1)) (hq : lv[q]? = some ((z : Nat), .int x)) (K : St l G A Γ k n ws (pc + 1) lv (.int x :: rest)) : St l G A Γ k n ws pc lv rest := by
  obtain ⟨p, e, R, s, m, args, below, meth, c, nL, Q⟩ := Γ
  obtain ⟨hx, hb, hml, hown, hts, hK, hA, hN, rfl, rfl⟩ := C
  intro H locs ls hP hD hS hl
  exact lv_iload_n hx hb d rfl (lv_at hl q hq) (K H locs ls hP hD hS hl)
theorem s_iload (C : CX G A Γ cc own rm nL) {i : Nat} {x : Int32} (q : Nat) (d : decode cc pc = .ok (.iload i, 2)) (hq : lv[q]? = some (i, .int x)) (K : St l G A Γ k n ws (pc + 2) lv (.int x :: rest)) : St l G A Γ k n ws pc lv rest := by
  obtain ⟨p, e, R, s, m, args, below, meth, c, nL, Q⟩ := Γ
  obtain ⟨hx, hb, hml, hown, hts, hK, hA, hN, rfl, rfl⟩ := C
  intro H locs ls hP hD hS hl
  exact lv_iload hx hb d (lv_at hl q hq) (K H locs ls hP hD hS hl)
theorem s_lload_n (C : CX G A Γ cc own rm nL) {z : Fin 4} {x : Int64} (q : Nat) (d : decode cc pc = .ok (.lload_n z, 1)) (hq : lv[q]? = some ((z : Nat), .long x)) (K : St l G A Γ k n ws (pc + 1) lv (.long x :: rest)) : St l G A Γ k n ws pc lv rest := by
  obtain ⟨p, e, R, s, m, args, below, meth, c, nL, Q⟩ := Γ
  obtain ⟨hx, hb, hml, hown, hts, hK, hA, hN, rfl, rfl⟩ := C
  intro H locs ls hP hD hS hl
  exact lv_lload_n hx hb d rfl (lv_at hl q hq) (K H locs ls hP hD hS hl)
theorem s_lload (C : CX G A Γ cc own rm nL) {i : Nat} {x : Int64} (q : Nat) (d : decode cc pc = .ok (.lload i, 2)) (hq : lv[q]? = some (i, .long x)) (K : St l G A Γ k n ws (pc + 2) lv (.long x :: rest)) : St l G A Γ k n ws pc lv rest := by
  obtain ⟨p, e, R, s, m, args, below, meth, c, nL, Q⟩ := Γ
  obtain ⟨hx, hb, hml, hown, hts, hK, hA, hN, rfl, rfl⟩ := C
  intro H locs ls hP hD hS hl
  exact lv_lload hx hb d (lv_at hl q hq) (K H locs ls hP hD hS hl)
theorem s_aload_n (C : CX G A Γ cc own rm nL) {z : Fin 4} {x : Nat} (q : Nat) (d : decode cc pc = .ok (.aload_n z, 1)) (hq : lv[q]? = some ((z : Nat), .ref x)) (K : St l G A Γ k n ws (pc + 1) lv (.ref x :: rest)) : St l G A Γ k n ws pc lv rest := by
  obtain ⟨p, e, R, s, m, args, below, meth, c, nL, Q⟩ := Γ
  obtain ⟨hx, hb, hml, hown, hts, hK, hA, hN, rfl, rfl⟩ := C
  intro H locs ls hP hD hS hl
  exact lv_aload_n hx hb d rfl (lv_at hl q hq) (K H locs ls hP hD hS hl)
theorem s_aload (C : CX G A Γ cc own rm nL) {i x : Nat} (q : Nat) (d : decode cc pc = .ok (.aload i, 2)) (hq : lv[q]? = some (i, .ref x)) (K : St l G A Γ k n ws (pc + 2) lv (.ref x :: rest)) : St l G A Γ k n ws pc lv rest := by
  obtain ⟨p, e, R, s, m, args, below, meth, c, nL, Q⟩ := Γ
  obtain ⟨hx, hb, hml, hown, hts, hK, hA, hN, rfl, rfl⟩ := C
  intro H locs ls hP hD hS hl
  exact lv_aload hx hb d (lv_at hl q hq) (K H locs ls hP hD hS hl)
theorem s_istore_n (C : CX G A Γ cc own rm nL) {z : Fin 4} {x : Int32} (lv' : List (Nat × Value)) (d : decode cc pc = .ok (.istore_n z, 1)) (hn : (z : Nat) < nL) (hl' : ((z : Nat), Value.int x) :: lv.filter (fun q => !(q.1 == (z : Nat)) && !(q.1 + 1 == (z : Nat) && q.2.category == 2)) = lv') (K : St l G A Γ k n ws (pc + 1) lv' rest) : St l G A Γ k n ws pc lv (.int x :: rest) := by
  obtain ⟨p, e, R, s, m, args, below, meth, c, nL, Q⟩ := Γ
  obtain ⟨hx, hb, hml, hown, hts, hK, hA, hN, rfl, rfl⟩ := C
  intro H locs ls hP hD hS hl
  exact lv_istore_n hx hb d rfl hl hn hl' (fun ls' h => K H locs ls' hP hD hS h)
theorem s_istore (C : CX G A Γ cc own rm nL) {i : Nat} {x : Int32} (lv' : List (Nat × Value)) (d : decode cc pc = .ok (.istore i, 2)) (hn : i < nL) (hl' : (i, Value.int x) :: lv.filter (fun q => !(q.1 == i) && !(q.1 + 1 == i && q.2.category == 2)) = lv') (K : St l G A Γ k n ws (pc + 2) lv' rest) : St l G A Γ k n ws pc lv (.int x :: rest) := by
  obtain ⟨p, e, R, s, m, args, below, meth, c, nL, Q⟩ := Γ
  obtain ⟨hx, hb, hml, hown, hts, hK, hA, hN, rfl, rfl⟩ := C
  intro H locs ls hP hD hS hl
  exact lv_istore hx hb d hl hn hl' (fun ls' h => K H locs ls' hP hD hS h)
theorem s_astore_n (C : CX G A Γ cc own rm nL) {z : Fin 4} {x : Nat} (lv' : List (Nat × Value)) (d : decode cc pc = .ok (.astore_n z, 1)) (hn : (z : Nat) < nL) (hl' : ((z : Nat), Value.ref x) :: lv.filter (fun q => !(q.1 == (z : Nat)) && !(q.1 + 1 == (z : Nat) && q.2.category == 2)) = lv') (K : St l G A Γ k n ws (pc + 1) lv' rest) : St l G A Γ k n ws pc lv (.ref x :: rest) := by
  obtain ⟨p, e, R, s, m, args, below, meth, c, nL, Q⟩ := Γ
  obtain ⟨hx, hb, hml, hown, hts, hK, hA, hN, rfl, rfl⟩ := C
  intro H locs ls hP hD hS hl
  exact lv_astore_n hx hb d rfl hl hn hl' (fun ls' h => K H locs ls' hP hD hS h)
theorem s_astore (C : CX G A Γ cc own rm nL) {i : Nat} {x : Nat} (lv' : List (Nat × Value)) (d : decode cc pc = .ok (.astore i, 2)) (hn : i < nL) (hl' : (i, Value.ref x) :: lv.filter (fun q => !(q.1 == i) && !(q.1 + 1 == i && q.2.category == 2)) = lv') (K : St l G A Γ k n ws (pc + 2) lv' rest) : St l G A Γ k n ws pc lv (.ref x :: rest) := by
  obtain ⟨p, e, R, s, m, args, below, meth, c, nL, Q⟩ := Γ
  obtain ⟨hx, hb, hml, hown, hts, hK, hA, hN, rfl, rfl⟩ := C
  intro H locs ls hP hD hS hl
  exact lv_astore hx hb d hl hn hl' (fun ls' h => K H locs ls' hP hD hS h)
theorem s_lstore (C : CX G A Γ cc own rm nL) {i : Nat} {x : Int64} (lv' : List (Nat × Value)) (d : decode cc pc = .ok (.lstore i, 2)) (hn : i + 1 < nL) (hl' : (i, Value.long x) :: lv.filter (fun q => !(q.1 == i) && (!(q.1 == i + 1) && !(q.1 + 1 == i && q.2.category == 2))) = lv') (K : St l G A Γ k n ws (pc + 2) lv' rest) : St l G A Γ k n ws pc lv (.long x :: rest) := by
  obtain ⟨p, e, R, s, m, args, below, meth, c, nL, Q⟩ := Γ
  obtain ⟨hx, hb, hml, hown, hts, hK, hA, hN, rfl, rfl⟩ := C
  intro H locs ls hP hD hS hl
  exact lv_lstore hx hb d hl hn hl' (fun ls' h => K H locs ls' hP hD hS h)
theorem s_lstore_n (C : CX G A Γ cc own rm nL) {z : Fin 4} {x : Int64} (lv' : List (Nat × Value)) (d : decode cc pc = .ok (.lstore_n z, 1)) (hn : (z : Nat) + 1 < nL) (hl' : ((z : Nat), Value.long x) :: lv.filter (fun q => !(q.1 == (z : Nat)) && (!(q.1 == (z : Nat) + 1) && !(q.1 + 1 == (z : Nat) && q.2.category == 2))) = lv') (K : St l G A Γ k n ws (pc + 1) lv' rest) : St l G A Γ k n ws pc lv (.long x :: rest) := by
  obtain ⟨p, e, R, s, m, args, below, meth, c, nL, Q⟩ := Γ
  obtain ⟨hx, hb, hml, hown, hts, hK, hA, hN, rfl, rfl⟩ := C
  intro H locs ls hP hD hS hl
  exact lv_lstore_n hx hb d rfl hl hn hl' (fun ls' h => K H locs ls' hP hD hS h)
theorem s_iinc (C : CX G A Γ cc own rm nL) {i : Nat} {z : Int} {x v : Int32} (q : Nat) (lv' : List (Nat × Value)) (d : decode cc pc = .ok (.iinc i z, 3)) (hq : lv[q]? = some (i, .int x)) (hv : x + Int32.ofInt z = v) (hn : i < nL) (hl' : (i, Value.int v) :: lv.filter (fun q => !(q.1 == i) && !(q.1 + 1 == i && q.2.category == 2)) = lv') (K : St l G A Γ k n ws (pc + 3) lv' rest) : St l G A Γ k n ws pc lv rest := by
  obtain ⟨p, e, R, s, m, args, below, meth, c, nL, Q⟩ := Γ
  obtain ⟨hx, hb, hml, hown, hts, hK, hA, hN, rfl, rfl⟩ := C
  intro H locs ls hP hD hS hl
  exact lv_iinc hx hb d hl hq hv hn hl' (fun ls' h => K H locs ls' hP hD hS h)
theorem s_goto (C : CX G A Γ cc own rm nL) {off : Int} (tgt : Nat) (d : decode cc pc = .ok (.goto off, 3)) (ht : (pc : Int) + off = (tgt : Int)) (K : St l G A Γ k n ws tgt lv rest) : St l G A Γ k n ws pc lv rest := by
  obtain ⟨p, e, R, s, m, args, below, meth, c, nL, Q⟩ := Γ
  obtain ⟨hx, hb, hml, hown, hts, hK, hA, hN, rfl, rfl⟩ := C
  intro H locs ls hP hD hS hl
  exact lv_goto hx hb d ht (K H locs ls hP hD hS hl)
theorem s_lv {lv' : List (Nat × Value)} (ks : List Nat) (h : lv_pick lv ks = lv') (K : St l G A Γ k n ws pc lv' rest) : St l G A Γ k n ws pc lv rest := by
  obtain ⟨p, e, R, s, m, args, below, meth, c, nL, Q⟩ := Γ
  intro H locs ls hP hD hS hl
  exact K H locs ls hP hD hS (lv_sub hl ks h)
theorem s_nmi {v x : Int32} (h : v = x) (K : St l G A Γ k n ws pc lv (.int v :: rest)) : St l G A Γ k n ws pc lv (.int x :: rest) := h ▸ K
theorem s_nml {v x : Int64} (h : v = x) (K : St l G A Γ k n ws pc lv (.long v :: rest)) : St l G A Γ k n ws pc lv (.long x :: rest) := h ▸ K
theorem s_stk {stk stk' : List Value} (h : stk = stk') (K : St l G A Γ k n ws pc lv stk') : St l G A Γ k n ws pc lv stk := h ▸ K
theorem s_ws {ws' : va_W} (h : ws = ws') (K : St l G A Γ k n ws' pc lv rest) : St l G A Γ k n ws pc lv rest := h ▸ K
end STEPS
end
section
section STEPS2
variable {l : Launch} {G : GG} {A : Nat → Prop} {Γ : Cx} {cc : ByteArray} {own : String} {rm : Room} {nL k n pc : Nat} {ws : va_W} {lv : List (Nat × Value)} {rest : List Value}
theorem s_iadd (C : CX G A Γ cc own rm nL) {x y : Int32} (d : decode cc pc = .ok (.iadd, 1)) (K : St l G A Γ k n ws (pc + 1) lv (.int (x + y) :: rest)) : St l G A Γ k n ws pc lv (.int y :: .int x :: rest) := by
  obtain ⟨p, e, R, s, m, args, below, meth, c, nL, Q⟩ := Γ
  obtain ⟨hx, hb, hml, hown, hts, hK, hA, hN, rfl, rfl⟩ := C
  intro H locs ls hP hD hS hl
  exact lv_iadd hx hb d (K H locs ls hP hD hS hl)
theorem s_isub (C : CX G A Γ cc own rm nL) {x y : Int32} (d : decode cc pc = .ok (.isub, 1)) (K : St l G A Γ k n ws (pc + 1) lv (.int (x - y) :: rest)) : St l G A Γ k n ws pc lv (.int y :: .int x :: rest) := by
  obtain ⟨p, e, R, s, m, args, below, meth, c, nL, Q⟩ := Γ
  obtain ⟨hx, hb, hml, hown, hts, hK, hA, hN, rfl, rfl⟩ := C
  intro H locs ls hP hD hS hl
  exact lv_isub hx hb d (K H locs ls hP hD hS hl)
theorem s_imul (C : CX G A Γ cc own rm nL) {x y : Int32} (d : decode cc pc = .ok (.imul, 1)) (K : St l G A Γ k n ws (pc + 1) lv (.int (x * y) :: rest)) : St l G A Γ k n ws pc lv (.int y :: .int x :: rest) := by
  obtain ⟨p, e, R, s, m, args, below, meth, c, nL, Q⟩ := Γ
  obtain ⟨hx, hb, hml, hown, hts, hK, hA, hN, rfl, rfl⟩ := C
  intro H locs ls hP hD hS hl
  exact lv_imul hx hb d (K H locs ls hP hD hS hl)
theorem s_iand (C : CX G A Γ cc own rm nL) {x y : Int32} (d : decode cc pc = .ok (.iand, 1)) (K : St l G A Γ k n ws (pc + 1) lv (.int (x &&& y) :: rest)) : St l G A Γ k n ws pc lv (.int y :: .int x :: rest) := by
  obtain ⟨p, e, R, s, m, args, below, meth, c, nL, Q⟩ := Γ
  obtain ⟨hx, hb, hml, hown, hts, hK, hA, hN, rfl, rfl⟩ := C
  intro H locs ls hP hD hS hl
  exact lv_iand hx hb d (K H locs ls hP hD hS hl)
theorem s_ior (C : CX G A Γ cc own rm nL) {x y : Int32} (d : decode cc pc = .ok (.ior, 1)) (K : St l G A Γ k n ws (pc + 1) lv (.int (x ||| y) :: rest)) : St l G A Γ k n ws pc lv (.int y :: .int x :: rest) := by
  obtain ⟨p, e, R, s, m, args, below, meth, c, nL, Q⟩ := Γ
  obtain ⟨hx, hb, hml, hown, hts, hK, hA, hN, rfl, rfl⟩ := C
  intro H locs ls hP hD hS hl
  exact lv_ior hx hb d (K H locs ls hP hD hS hl)
theorem s_ixor (C : CX G A Γ cc own rm nL) {x y : Int32} (d : decode cc pc = .ok (.ixor, 1)) (K : St l G A Γ k n ws (pc + 1) lv (.int (x ^^^ y) :: rest)) : St l G A Γ k n ws pc lv (.int y :: .int x :: rest) := by
  obtain ⟨p, e, R, s, m, args, below, meth, c, nL, Q⟩ := Γ
  obtain ⟨hx, hb, hml, hown, hts, hK, hA, hN, rfl, rfl⟩ := C
  intro H locs ls hP hD hS hl
  exact lv_ixor hx hb d (K H locs ls hP hD hS hl)
theorem s_ishl (C : CX G A Γ cc own rm nL) {x y : Int32} (d : decode cc pc = .ok (.ishl, 1)) (K : St l G A Γ k n ws (pc + 1) lv (.int (x <<< (y &&& 31)) :: rest)) : St l G A Γ k n ws pc lv (.int y :: .int x :: rest) := by
  obtain ⟨p, e, R, s, m, args, below, meth, c, nL, Q⟩ := Γ
  obtain ⟨hx, hb, hml, hown, hts, hK, hA, hN, rfl, rfl⟩ := C
  intro H locs ls hP hD hS hl
  exact lv_ishl hx hb d (K H locs ls hP hD hS hl)
theorem s_ishr (C : CX G A Γ cc own rm nL) {x y : Int32} (d : decode cc pc = .ok (.ishr, 1)) (K : St l G A Γ k n ws (pc + 1) lv (.int (x >>> (y &&& 31)) :: rest)) : St l G A Γ k n ws pc lv (.int y :: .int x :: rest) := by
  obtain ⟨p, e, R, s, m, args, below, meth, c, nL, Q⟩ := Γ
  obtain ⟨hx, hb, hml, hown, hts, hK, hA, hN, rfl, rfl⟩ := C
  intro H locs ls hP hD hS hl
  exact lv_ishr hx hb d (K H locs ls hP hD hS hl)
theorem s_irem (C : CX G A Γ cc own rm nL) {x y : Int32} (d : decode cc pc = .ok (.irem, 1)) (hne : ¬ y = 0) (K : St l G A Γ k n ws (pc + 1) lv (.int (x - x / y * y) :: rest)) : St l G A Γ k n ws pc lv (.int y :: .int x :: rest) := by
  obtain ⟨p, e, R, s, m, args, below, meth, c, nL, Q⟩ := Γ
  obtain ⟨hx, hb, hml, hown, hts, hK, hA, hN, rfl, rfl⟩ := C
  intro H locs ls hP hD hS hl
  exact lv_irem hx hb d hne (K H locs ls hP hD hS hl)
theorem s_idiv (C : CX G A Γ cc own rm nL) {x y : Int32} (d : decode cc pc = .ok (.idiv, 1)) (hne : ¬ y = 0) (K : St l G A Γ k n ws (pc + 1) lv (.int (x / y) :: rest)) : St l G A Γ k n ws pc lv (.int y :: .int x :: rest) := by
  obtain ⟨p, e, R, s, m, args, below, meth, c, nL, Q⟩ := Γ
  obtain ⟨hx, hb, hml, hown, hts, hK, hA, hN, rfl, rfl⟩ := C
  intro H locs ls hP hD hS hl
  exact lv_idiv hx hb d hne (K H locs ls hP hD hS hl)
theorem s_ladd (C : CX G A Γ cc own rm nL) {x y : Int64} (d : decode cc pc = .ok (.ladd, 1)) (K : St l G A Γ k n ws (pc + 1) lv (.long (x + y) :: rest)) : St l G A Γ k n ws pc lv (.long y :: .long x :: rest) := by
  obtain ⟨p, e, R, s, m, args, below, meth, c, nL, Q⟩ := Γ
  obtain ⟨hx, hb, hml, hown, hts, hK, hA, hN, rfl, rfl⟩ := C
  intro H locs ls hP hD hS hl
  exact lv_ladd hx hb d (K H locs ls hP hD hS hl)
theorem s_lsub (C : CX G A Γ cc own rm nL) {x y : Int64} (d : decode cc pc = .ok (.lsub, 1)) (K : St l G A Γ k n ws (pc + 1) lv (.long (x - y) :: rest)) : St l G A Γ k n ws pc lv (.long y :: .long x :: rest) := by
  obtain ⟨p, e, R, s, m, args, below, meth, c, nL, Q⟩ := Γ
  obtain ⟨hx, hb, hml, hown, hts, hK, hA, hN, rfl, rfl⟩ := C
  intro H locs ls hP hD hS hl
  exact lv_lsub hx hb d (K H locs ls hP hD hS hl)
theorem s_land (C : CX G A Γ cc own rm nL) {x y : Int64} (d : decode cc pc = .ok (.land, 1)) (K : St l G A Γ k n ws (pc + 1) lv (.long (x &&& y) :: rest)) : St l G A Γ k n ws pc lv (.long y :: .long x :: rest) := by
  obtain ⟨p, e, R, s, m, args, below, meth, c, nL, Q⟩ := Γ
  obtain ⟨hx, hb, hml, hown, hts, hK, hA, hN, rfl, rfl⟩ := C
  intro H locs ls hP hD hS hl
  exact lv_land hx hb d (K H locs ls hP hD hS hl)
theorem s_lor (C : CX G A Γ cc own rm nL) {x y : Int64} (d : decode cc pc = .ok (.lor, 1)) (K : St l G A Γ k n ws (pc + 1) lv (.long (x ||| y) :: rest)) : St l G A Γ k n ws pc lv (.long y :: .long x :: rest) := by
  obtain ⟨p, e, R, s, m, args, below, meth, c, nL, Q⟩ := Γ
  obtain ⟨hx, hb, hml, hown, hts, hK, hA, hN, rfl, rfl⟩ := C
  intro H locs ls hP hD hS hl
  exact lv_lor hx hb d (K H locs ls hP hD hS hl)
theorem s_lxor (C : CX G A Γ cc own rm nL) {x y : Int64} (d : decode cc pc = .ok (.lxor, 1)) (K : St l G A Γ k n ws (pc + 1) lv (.long (x ^^^ y) :: rest)) : St l G A Γ k n ws pc lv (.long y :: .long x :: rest) := by
  obtain ⟨p, e, R, s, m, args, below, meth, c, nL, Q⟩ := Γ
  obtain ⟨hx, hb, hml, hown, hts, hK, hA, hN, rfl, rfl⟩ := C
  intro H locs ls hP hD hS hl
  exact lv_lxor hx hb d (K H locs ls hP hD hS hl)
theorem s_lcmp (C : CX G A Γ cc own rm nL) {x y : Int64} (d : decode cc pc = .ok (.lcmp, 1)) (K : St l G A Γ k n ws (pc + 1) lv (.int (lg_cmp x y) :: rest)) : St l G A Γ k n ws pc lv (.long y :: .long x :: rest) := by
  obtain ⟨p, e, R, s, m, args, below, meth, c, nL, Q⟩ := Γ
  obtain ⟨hx, hb, hml, hown, hts, hK, hA, hN, rfl, rfl⟩ := C
  intro H locs ls hP hD hS hl
  exact W.lcmp hx hb d (K H locs ls hP hD hS hl)
theorem s_lshl (C : CX G A Γ cc own rm nL) {x : Int64} {y : Int32} (d : decode cc pc = .ok (.lshl, 1)) (K : St l G A Γ k n ws (pc + 1) lv (.long (x <<< (y.toInt64 &&& 63)) :: rest)) : St l G A Γ k n ws pc lv (.int y :: .long x :: rest) := by
  obtain ⟨p, e, R, s, m, args, below, meth, c, nL, Q⟩ := Γ
  obtain ⟨hx, hb, hml, hown, hts, hK, hA, hN, rfl, rfl⟩ := C
  intro H locs ls hP hD hS hl
  exact lv_lshl hx hb d rfl (K H locs ls hP hD hS hl)
theorem s_lshr (C : CX G A Γ cc own rm nL) {x : Int64} {y : Int32} (d : decode cc pc = .ok (.lshr, 1)) (K : St l G A Γ k n ws (pc + 1) lv (.long (x >>> (y.toInt64 &&& 63)) :: rest)) : St l G A Γ k n ws pc lv (.int y :: .long x :: rest) := by
  obtain ⟨p, e, R, s, m, args, below, meth, c, nL, Q⟩ := Γ
  obtain ⟨hx, hb, hml, hown, hts, hK, hA, hN, rfl, rfl⟩ := C
  intro H locs ls hP hD hS hl
  exact lv_lshr hx hb d rfl (K H locs ls hP hD hS hl)
theorem s_lushr (C : CX G A Γ cc own rm nL) {x : Int64} {y : Int32} (d : decode cc pc = .ok (.lushr, 1)) (K : St l G A Γ k n ws (pc + 1) lv (.long ((x.toUInt64 >>> (y.toInt64.toUInt64 &&& Int64.toUInt64 63)).toInt64) :: rest)) : St l G A Γ k n ws pc lv (.int y :: .long x :: rest) := by
  obtain ⟨p, e, R, s, m, args, below, meth, c, nL, Q⟩ := Γ
  obtain ⟨hx, hb, hml, hown, hts, hK, hA, hN, rfl, rfl⟩ := C
  intro H locs ls hP hD hS hl
  exact lv_lushr hx hb d rfl (K H locs ls hP hD hS hl)
theorem s_i2l (C : CX G A Γ cc own rm nL) {x : Int32} (d : decode cc pc = .ok (.i2l, 1)) (K : St l G A Γ k n ws (pc + 1) lv (.long x.toInt64 :: rest)) : St l G A Γ k n ws pc lv (.int x :: rest) := by
  obtain ⟨p, e, R, s, m, args, below, meth, c, nL, Q⟩ := Γ
  obtain ⟨hx, hb, hml, hown, hts, hK, hA, hN, rfl, rfl⟩ := C
  intro H locs ls hP hD hS hl
  exact lv_i2l hx hb d rfl (K H locs ls hP hD hS hl)
theorem s_l2i (C : CX G A Γ cc own rm nL) {x : Int64} (d : decode cc pc = .ok (.l2i, 1)) (K : St l G A Γ k n ws (pc + 1) lv (.int x.toInt32 :: rest)) : St l G A Γ k n ws pc lv (.long x :: rest) := by
  obtain ⟨p, e, R, s, m, args, below, meth, c, nL, Q⟩ := Γ
  obtain ⟨hx, hb, hml, hown, hts, hK, hA, hN, rfl, rfl⟩ := C
  intro H locs ls hP hD hS hl
  exact lv_l2i hx hb d rfl (K H locs ls hP hD hS hl)
theorem s_dup (C : CX G A Γ cc own rm nL) {va : Value} (d : decode cc pc = .ok (.dup, 1)) (hva : va.category = 1) (K : St l G A Γ k n ws (pc + 1) lv (va :: va :: rest)) : St l G A Γ k n ws pc lv (va :: rest) := by
  obtain ⟨p, e, R, s, m, args, below, meth, c, nL, Q⟩ := Γ
  obtain ⟨hx, hb, hml, hown, hts, hK, hA, hN, rfl, rfl⟩ := C
  intro H locs ls hP hD hS hl
  exact lv_dup hx hb d hva (K H locs ls hP hD hS hl)
theorem s_pop (C : CX G A Γ cc own rm nL) {va : Value} (d : decode cc pc = .ok (.pop, 1)) (hva : va.category = 1) (K : St l G A Γ k n ws (pc + 1) lv (rest)) : St l G A Γ k n ws pc lv (va :: rest) := by
  obtain ⟨p, e, R, s, m, args, below, meth, c, nL, Q⟩ := Γ
  obtain ⟨hx, hb, hml, hown, hts, hK, hA, hN, rfl, rfl⟩ := C
  intro H locs ls hP hD hS hl
  exact lv_pop hx hb d hva (K H locs ls hP hD hS hl)
theorem s_dup2 (C : CX G A Γ cc own rm nL) {va vb : Value} (d : decode cc pc = .ok (.dup2, 1)) (hva : va.category = 1) (hvb : vb.category = 1) (K : St l G A Γ k n ws (pc + 1) lv (va :: vb :: va :: vb :: rest)) : St l G A Γ k n ws pc lv (va :: vb :: rest) := by
  obtain ⟨p, e, R, s, m, args, below, meth, c, nL, Q⟩ := Γ
  obtain ⟨hx, hb, hml, hown, hts, hK, hA, hN, rfl, rfl⟩ := C
  intro H locs ls hP hD hS hl
  exact lv_dup2_11 hx hb d hva hvb (K H locs ls hP hD hS hl)
theorem s_dup2l (C : CX G A Γ cc own rm nL) {va : Value} (d : decode cc pc = .ok (.dup2, 1)) (hva : va.category = 2) (K : St l G A Γ k n ws (pc + 1) lv (va :: va :: rest)) : St l G A Γ k n ws pc lv (va :: rest) := by
  obtain ⟨p, e, R, s, m, args, below, meth, c, nL, Q⟩ := Γ
  obtain ⟨hx, hb, hml, hown, hts, hK, hA, hN, rfl, rfl⟩ := C
  intro H locs ls hP hD hS hl
  exact lv_dup2_2 hx hb d hva (K H locs ls hP hD hS hl)
theorem s_dup_x1 (C : CX G A Γ cc own rm nL) {va vb : Value} (d : decode cc pc = .ok (.dup_x1, 1)) (hva : va.category = 1) (hvb : vb.category = 1) (K : St l G A Γ k n ws (pc + 1) lv (va :: vb :: va :: rest)) : St l G A Γ k n ws pc lv (va :: vb :: rest) := by
  obtain ⟨p, e, R, s, m, args, below, meth, c, nL, Q⟩ := Γ
  obtain ⟨hx, hb, hml, hown, hts, hK, hA, hN, rfl, rfl⟩ := C
  intro H locs ls hP hD hS hl
  exact lv_dup_x1 hx hb d hva hvb (K H locs ls hP hD hS hl)
theorem s_icmp_eq (C : CX G A Γ cc own rm nL) {x y : Int32} {off : Int} (tgt : Nat) (d : decode cc pc = .ok (.if_icmp .eq off, 3)) (ht : (pc : Int) + off = (tgt : Int)) (KT : x = y → St l G A Γ k n ws tgt lv rest) (KF : ¬ (x = y) → St l G A Γ k n ws (pc + 3) lv rest) : St l G A Γ k n ws pc lv (.int y :: .int x :: rest) := by
  obtain ⟨p, e, R, s, m, args, below, meth, c, nL, Q⟩ := Γ
  obtain ⟨hx, hb, hml, hown, hts, hK, hA, hN, rfl, rfl⟩ := C
  intro H locs ls hP hD hS hl
  exact lv_icmp_eq hx hb d ht (fun h => KT h H locs ls hP hD hS hl) (fun h => KF h H locs ls hP hD hS hl)
theorem s_if_eq (C : CX G A Γ cc own rm nL) {x : Int32} {off : Int} (tgt : Nat) (d : decode cc pc = .ok (.ifCond .eq off, 3)) (ht : (pc : Int) + off = (tgt : Int)) (KT : x = 0 → St l G A Γ k n ws tgt lv rest) (KF : ¬ (x = 0) → St l G A Γ k n ws (pc + 3) lv rest) : St l G A Γ k n ws pc lv (.int x :: rest) := by
  obtain ⟨p, e, R, s, m, args, below, meth, c, nL, Q⟩ := Γ
  obtain ⟨hx, hb, hml, hown, hts, hK, hA, hN, rfl, rfl⟩ := C
  intro H locs ls hP hD hS hl
  exact lv_if_eq hx hb d ht (fun h => KT h H locs ls hP hD hS hl) (fun h => KF h H locs ls hP hD hS hl)
theorem s_icmp_ne (C : CX G A Γ cc own rm nL) {x y : Int32} {off : Int} (tgt : Nat) (d : decode cc pc = .ok (.if_icmp .ne off, 3)) (ht : (pc : Int) + off = (tgt : Int)) (KT : ¬ x = y → St l G A Γ k n ws tgt lv rest) (KF : x = y → St l G A Γ k n ws (pc + 3) lv rest) : St l G A Γ k n ws pc lv (.int y :: .int x :: rest) := by
  obtain ⟨p, e, R, s, m, args, below, meth, c, nL, Q⟩ := Γ
  obtain ⟨hx, hb, hml, hown, hts, hK, hA, hN, rfl, rfl⟩ := C
  intro H locs ls hP hD hS hl
  exact lv_icmp_ne hx hb d ht (fun h => KT h H locs ls hP hD hS hl) (fun h => KF h H locs ls hP hD hS hl)
theorem s_if_ne (C : CX G A Γ cc own rm nL) {x : Int32} {off : Int} (tgt : Nat) (d : decode cc pc = .ok (.ifCond .ne off, 3)) (ht : (pc : Int) + off = (tgt : Int)) (KT : ¬ x = 0 → St l G A Γ k n ws tgt lv rest) (KF : x = 0 → St l G A Γ k n ws (pc + 3) lv rest) : St l G A Γ k n ws pc lv (.int x :: rest) := by
  obtain ⟨p, e, R, s, m, args, below, meth, c, nL, Q⟩ := Γ
  obtain ⟨hx, hb, hml, hown, hts, hK, hA, hN, rfl, rfl⟩ := C
  intro H locs ls hP hD hS hl
  exact lv_if_ne hx hb d ht (fun h => KT h H locs ls hP hD hS hl) (fun h => KF h H locs ls hP hD hS hl)
theorem s_icmp_lt (C : CX G A Γ cc own rm nL) {x y : Int32} {off : Int} (tgt : Nat) (d : decode cc pc = .ok (.if_icmp .lt off, 3)) (ht : (pc : Int) + off = (tgt : Int)) (KT : x < y → St l G A Γ k n ws tgt lv rest) (KF : ¬ (x < y) → St l G A Γ k n ws (pc + 3) lv rest) : St l G A Γ k n ws pc lv (.int y :: .int x :: rest) := by
  obtain ⟨p, e, R, s, m, args, below, meth, c, nL, Q⟩ := Γ
  obtain ⟨hx, hb, hml, hown, hts, hK, hA, hN, rfl, rfl⟩ := C
  intro H locs ls hP hD hS hl
  exact lv_icmp_lt hx hb d ht (fun h => KT h H locs ls hP hD hS hl) (fun h => KF h H locs ls hP hD hS hl)
theorem s_if_lt (C : CX G A Γ cc own rm nL) {x : Int32} {off : Int} (tgt : Nat) (d : decode cc pc = .ok (.ifCond .lt off, 3)) (ht : (pc : Int) + off = (tgt : Int)) (KT : x < 0 → St l G A Γ k n ws tgt lv rest) (KF : ¬ (x < 0) → St l G A Γ k n ws (pc + 3) lv rest) : St l G A Γ k n ws pc lv (.int x :: rest) := by
  obtain ⟨p, e, R, s, m, args, below, meth, c, nL, Q⟩ := Γ
  obtain ⟨hx, hb, hml, hown, hts, hK, hA, hN, rfl, rfl⟩ := C
  intro H locs ls hP hD hS hl
  exact lv_if_lt hx hb d ht (fun h => KT h H locs ls hP hD hS hl) (fun h => KF h H locs ls hP hD hS hl)
theorem s_icmp_ge (C : CX G A Γ cc own rm nL) {x y : Int32} {off : Int} (tgt : Nat) (d : decode cc pc = .ok (.if_icmp .ge off, 3)) (ht : (pc : Int) + off = (tgt : Int)) (KT : y ≤ x → St l G A Γ k n ws tgt lv rest) (KF : ¬ (y ≤ x) → St l G A Γ k n ws (pc + 3) lv rest) : St l G A Γ k n ws pc lv (.int y :: .int x :: rest) := by
  obtain ⟨p, e, R, s, m, args, below, meth, c, nL, Q⟩ := Γ
  obtain ⟨hx, hb, hml, hown, hts, hK, hA, hN, rfl, rfl⟩ := C
  intro H locs ls hP hD hS hl
  exact lv_icmp_ge hx hb d ht (fun h => KT h H locs ls hP hD hS hl) (fun h => KF h H locs ls hP hD hS hl)
theorem s_if_ge (C : CX G A Γ cc own rm nL) {x : Int32} {off : Int} (tgt : Nat) (d : decode cc pc = .ok (.ifCond .ge off, 3)) (ht : (pc : Int) + off = (tgt : Int)) (KT : 0 ≤ x → St l G A Γ k n ws tgt lv rest) (KF : ¬ (0 ≤ x) → St l G A Γ k n ws (pc + 3) lv rest) : St l G A Γ k n ws pc lv (.int x :: rest) := by
  obtain ⟨p, e, R, s, m, args, below, meth, c, nL, Q⟩ := Γ
  obtain ⟨hx, hb, hml, hown, hts, hK, hA, hN, rfl, rfl⟩ := C
  intro H locs ls hP hD hS hl
  exact lv_if_ge hx hb d ht (fun h => KT h H locs ls hP hD hS hl) (fun h => KF h H locs ls hP hD hS hl)
theorem s_icmp_gt (C : CX G A Γ cc own rm nL) {x y : Int32} {off : Int} (tgt : Nat) (d : decode cc pc = .ok (.if_icmp .gt off, 3)) (ht : (pc : Int) + off = (tgt : Int)) (KT : y < x → St l G A Γ k n ws tgt lv rest) (KF : ¬ (y < x) → St l G A Γ k n ws (pc + 3) lv rest) : St l G A Γ k n ws pc lv (.int y :: .int x :: rest) := by
  obtain ⟨p, e, R, s, m, args, below, meth, c, nL, Q⟩ := Γ
  obtain ⟨hx, hb, hml, hown, hts, hK, hA, hN, rfl, rfl⟩ := C
  intro H locs ls hP hD hS hl
  exact lv_icmp_gt hx hb d ht (fun h => KT h H locs ls hP hD hS hl) (fun h => KF h H locs ls hP hD hS hl)
theorem s_if_gt (C : CX G A Γ cc own rm nL) {x : Int32} {off : Int} (tgt : Nat) (d : decode cc pc = .ok (.ifCond .gt off, 3)) (ht : (pc : Int) + off = (tgt : Int)) (KT : 0 < x → St l G A Γ k n ws tgt lv rest) (KF : ¬ (0 < x) → St l G A Γ k n ws (pc + 3) lv rest) : St l G A Γ k n ws pc lv (.int x :: rest) := by
  obtain ⟨p, e, R, s, m, args, below, meth, c, nL, Q⟩ := Γ
  obtain ⟨hx, hb, hml, hown, hts, hK, hA, hN, rfl, rfl⟩ := C
  intro H locs ls hP hD hS hl
  exact lv_if_gt hx hb d ht (fun h => KT h H locs ls hP hD hS hl) (fun h => KF h H locs ls hP hD hS hl)
theorem s_icmp_le (C : CX G A Γ cc own rm nL) {x y : Int32} {off : Int} (tgt : Nat) (d : decode cc pc = .ok (.if_icmp .le off, 3)) (ht : (pc : Int) + off = (tgt : Int)) (KT : x ≤ y → St l G A Γ k n ws tgt lv rest) (KF : ¬ (x ≤ y) → St l G A Γ k n ws (pc + 3) lv rest) : St l G A Γ k n ws pc lv (.int y :: .int x :: rest) := by
  obtain ⟨p, e, R, s, m, args, below, meth, c, nL, Q⟩ := Γ
  obtain ⟨hx, hb, hml, hown, hts, hK, hA, hN, rfl, rfl⟩ := C
  intro H locs ls hP hD hS hl
  exact lv_icmp_le hx hb d ht (fun h => KT h H locs ls hP hD hS hl) (fun h => KF h H locs ls hP hD hS hl)
theorem s_if_le (C : CX G A Γ cc own rm nL) {x : Int32} {off : Int} (tgt : Nat) (d : decode cc pc = .ok (.ifCond .le off, 3)) (ht : (pc : Int) + off = (tgt : Int)) (KT : x ≤ 0 → St l G A Γ k n ws tgt lv rest) (KF : ¬ (x ≤ 0) → St l G A Γ k n ws (pc + 3) lv rest) : St l G A Γ k n ws pc lv (.int x :: rest) := by
  obtain ⟨p, e, R, s, m, args, below, meth, c, nL, Q⟩ := Γ
  obtain ⟨hx, hb, hml, hown, hts, hK, hA, hN, rfl, rfl⟩ := C
  intro H locs ls hP hD hS hl
  exact lv_if_le hx hb d ht (fun h => KT h H locs ls hP hD hS hl) (fun h => KF h H locs ls hP hD hS hl)
end STEPS2
end
section
/-- an index within a row, as a test -/
def inb (i : Int32) (n : Nat) : Bool := decide (¬ i < 0) && decide (i.toNatClampNeg < n)
theorem inb_in {i : Int32} {n : Nat} (h : inb i n = true) : vp_in i n := by
  simp only [inb, Bool.and_eq_true, decide_eq_true_eq] at h
  intro q
  rcases q with q | q
  · exact h.1 q
  · omega
/-- a truth value -/
def bln (x : Int32) : Bool := decide (x = 0) || decide (x = 1)
theorem bln_n {x : Int32} (h : bln x = true) : narrow .boolean (.int x) = .int x ∧ fits .boolean (.int x) = true := by
  simp only [bln, Bool.or_eq_true, decide_eq_true_eq] at h
  rcases h with rfl | rfl <;> exact ⟨rfl, rfl⟩
section HEAP
variable {l : Launch} {G : GG} {A : Nat → Prop} {Γ : Cx} {cc : ByteArray} {own : String} {rm : Room} {nL k n pc : Nat} {ws : va_W} {lv : List (Nat × Value)} {rest : List Value}
theorem s_get (C : CX G A Γ cc own rm nL) {Cn : String} {T : u_T} {N ci index j : Nat} (hc : vwCl[ci]? = some (Cn, T, N)) (hin : ∀ w ∈ u_ws Cn T N, w ∈ lw_g) (hj : j < N) (hcn : (T j).1 = Cn) (hlink : Cond.fieldLink own index Cn (T j).2.1 (T j).2.2.1 ∈ lw_g) (q : Nat) {a : Nat} {fs : List Value} {v : Value} (he : ws[q]? = some (a, .inr (ci, fs))) (hv : fs[j]? = some v) (d : decode cc pc = .ok (.getfield index, 3)) (K : St l G A Γ k n ws (pc + 3) lv (v :: rest)) : St l G A Γ k n ws pc lv (.ref a :: rest) := by
  obtain ⟨p, e, R, s, m, args, below, meth, c, nL, Q⟩ := Γ
  obtain ⟨hx, hb, hml, hown, hts, hK, hA, hN, rfl, rfl⟩ := C
  intro H locs ls hP hD hS hl
  exact va_get (C := Cn) (T := T) (N := N) hx hb hts hin hown hK hP q he hc j hj (hts _ hlink) (fun x h => by rw [hcn] at h; exact h) hv d (K H locs ls hP hD hS hl)
theorem s_put (C : CX G A Γ cc own rm nL) {Cn : String} {T : u_T} {N ci index j : Nat} (hc : vwCl[ci]? = some (Cn, T, N)) (hin : ∀ w ∈ u_ws Cn T N, w ∈ lw_g) (ty0 : Nat → FieldType) (hty : ∀ k, k < N → parseFieldDescriptor (T k).2.2.1 = some (ty0 k)) (hnm : ∀ a, a < N → ∀ b, b < N → a ≠ b → (T a).2.1 ≠ (T b).2.1) (hj : j < N) (hcn : (T j).1 = Cn) (hlink : Cond.fieldLink own index Cn (T j).2.1 (T j).2.2.1 ∈ lw_g) (hfin : (T j).2.2.2 = false) (q : Nat) {a : Nat} {fs : List Value} {v : Value} (he : ws[q]? = some (a, .inr (ci, fs))) (hn : narrow (ty0 j) v = v) (hfit : fits (ty0 j) v = true) (hl' : j < fs.length) (ws' : va_W) (hws : ws.set q (a, .inr (ci, fs.set j v)) = ws') (d : decode cc pc = .ok (.putfield index, 3)) (K : St l G A Γ k n ws' (pc + 3) lv rest) : St l G A Γ k n ws pc lv (v :: .ref a :: rest) := by
  obtain ⟨p, e, R, s, m, args, below, meth, c, nL, Q⟩ := Γ
  obtain ⟨hx, hb, hml, hown, hts, hK, hA, hN, rfl, rfl⟩ := C
  intro H locs ls hP hD hS hl
  subst hws
  exact va_put (C := Cn) (T := T) (N := N) hx hb hts hin ty0 hty hnm hown hK hP hD hS q he hc j hj (hts _ hlink) (fun x h => by rw [hcn] at h; exact h) hfin (hty j hj) hn hfit hl' d (fun H1 locs1 hP hD hS => K H1 locs1 ls hP hD hS hl)
theorem s_iald (C : CX G A Γ cc own rm nL) (q : Nat) {a N : Nat} {f : Nat → Int32} {i : Int32} (he : ws[q]? = some (a, .inl (G.2 0, N, .inl f))) (hi : inb i N = true) (d : decode cc pc = .ok (.iaload, 1)) (K : St l G A Γ k n ws (pc + 1) lv (.int (f i.toNatClampNeg) :: rest)) : St l G A Γ k n ws pc lv (.int i :: .ref a :: rest) := by
  obtain ⟨p, e, R, s, m, args, below, meth, c, nL, Q⟩ := Γ
  obtain ⟨hx, hb, hml, hown, hts, hK, hA, hN, rfl, rfl⟩ := C
  intro H locs ls hP hD hS hl
  exact va_iald hx hb hK hP q 0 he rfl (inb_in hi) d (K H locs ls hP hD hS hl)
theorem s_zald (C : CX G A Γ cc own rm nL) (q : Nat) {a N : Nat} {f : Nat → Int32} {i : Int32} (he : ws[q]? = some (a, .inl (G.2 1, N, .inl f))) (hi : inb i N = true) (d : decode cc pc = .ok (.baload, 1)) (K : St l G A Γ k n ws (pc + 1) lv (.int (f i.toNatClampNeg) :: rest)) : St l G A Γ k n ws pc lv (.int i :: .ref a :: rest) := by
  obtain ⟨p, e, R, s, m, args, below, meth, c, nL, Q⟩ := Γ
  obtain ⟨hx, hb, hml, hown, hts, hK, hA, hN, rfl, rfl⟩ := C
  intro H locs ls hP hD hS hl
  exact va_zald hx hb hK hP q 1 he rfl (inb_in hi) d (K H locs ls hP hD hS hl)
theorem s_iast (C : CX G A Γ cc own rm nL) (q : Nat) {a N : Nat} {f : Nat → Int32} {i x : Int32} (he : ws[q]? = some (a, .inl (G.2 0, N, .inl f))) (hi : inb i N = true) (ws' : va_W) (hws : ws.set q (a, .inl (G.2 0, N, .inl (upd f i.toNatClampNeg x))) = ws') (d : decode cc pc = .ok (.iastore, 1)) (K : St l G A Γ k n ws' (pc + 1) lv rest) : St l G A Γ k n ws pc lv (.int x :: .int i :: .ref a :: rest) := by
  obtain ⟨p, e, R, s, m, args, below, meth, c, nL, Q⟩ := Γ
  obtain ⟨hx, hb, hml, hown, hts, hK, hA, hN, rfl, rfl⟩ := C
  intro H locs ls hP hD hS hl
  subst hws
  exact va_iast hx hb hK hP hD hS q 0 he rfl (inb_in hi) d (fun H1 locs1 hP hD hS => K H1 locs1 ls hP hD hS hl)
theorem s_zast (C : CX G A Γ cc own rm nL) (q : Nat) {a N : Nat} {f : Nat → Int32} {i x : Int32} (he : ws[q]? = some (a, .inl (G.2 1, N, .inl f))) (hi : inb i N = true) (ws' : va_W) (hws : ws.set q (a, .inl (G.2 1, N, .inl (upd f i.toNatClampNeg (vp_nar .boolean x)))) = ws') (d : decode cc pc = .ok (.bastore, 1)) (K : St l G A Γ k n ws' (pc + 1) lv rest) : St l G A Γ k n ws pc lv (.int x :: .int i :: .ref a :: rest) := by
  obtain ⟨p, e, R, s, m, args, below, meth, c, nL, Q⟩ := Γ
  obtain ⟨hx, hb, hml, hown, hts, hK, hA, hN, rfl, rfl⟩ := C
  intro H locs ls hP hD hS hl
  subst hws
  exact va_zast hx hb hK hP hD hS q 1 he rfl (inb_in hi) d (fun H1 locs1 hP hD hS => K H1 locs1 ls hP hD hS hl)
theorem s_alen (C : CX G A Γ cc own rm nL) (q : Nat) {a N : Nat} {f : Nat → Int32} (he : ws[q]? = some (a, .inl (G.2 0, N, .inl f))) {v : Int32} (hv : nI N = v) (d : decode cc pc = .ok (.arraylength, 1)) (K : St l G A Γ k n ws (pc + 1) lv (.int v :: rest)) : St l G A Γ k n ws pc lv (.ref a :: rest) := by
  obtain ⟨p, e, R, s, m, args, below, meth, c, nL, Q⟩ := Γ
  obtain ⟨hx, hb, hml, hown, hts, hK, hA, hN, rfl, rfl⟩ := C
  intro H locs ls hP hD hS hl
  subst hv
  exact va_alen hx hb hK hP q 0 he rfl rfl d (K H locs ls hP hD hS hl)
end HEAP
/-- the words that a call needs are among the tables' -/
theorem gd_all {ws : List Cond} (h : ∀ w ∈ ws, w ∈ lw_g) : GoodIn lw_g ws := fun w hw => ⟨h w hw, good_of_word (tw_good w (h w hw))⟩
theorem gd_V {own C : String} {ix mL : Nat} {y : MethodName} {cc : ByteArray} {rt : Option FieldType} (h1 : Cond.methodLink own ix y ∈ lw_g) (h2 : Cond.instanceMethod y ∈ lw_g) (h3 : Cond.selects C y y ∈ lw_g) (h4 : Cond.initialized C ∈ lw_g) (h5 : Cond.code y cc mL rt ∈ lw_g) : GoodIn lw_g (wsV own ix C y (Cond.code y cc mL rt :: lw_g)) := by
  refine gd_all (fun w hw => ?_)
  simp only [wsV, List.cons_append, List.nil_append, List.mem_cons] at hw
  rcases hw with rfl | rfl | rfl | rfl | rfl | hw <;> assumption
theorem gd_S {own : String} {ix mL : Nat} {y : MethodName} {cc : ByteArray} {rt : Option FieldType} (h1 : Cond.methodLink own ix y ∈ lw_g) (h2 : Cond.static y ∈ lw_g) (h4 : Cond.initialized own ∈ lw_g) (h5 : Cond.code y cc mL rt ∈ lw_g) : GoodIn lw_g (wsS own ix y (Cond.code y cc mL rt :: lw_g)) := by
  refine gd_all (fun w hw => ?_)
  simp only [wsS, List.cons_append, List.nil_append, List.mem_cons] at hw
  rcases hw with rfl | rfl | rfl | rfl | hw <;> assumption
theorem gd_C {y : MethodName} {mL : Nat} {cc : ByteArray} {rt : Option FieldType} (h5 : Cond.code y cc mL rt ∈ lw_g) : GoodIn lw_g (Cond.code y cc mL rt :: lw_g) := by
  refine gd_all (fun w hw => ?_)
  rcases List.mem_cons.mp hw with rfl | hw <;> assumption
theorem g_blind {G : GG} {A : Nat → Prop} {ws : va_W} {av : List Value} : FrameBlind (gPc G A ws av) := by
  intro a U g mk q
  obtain ⟨q0, q4, q5, qP, qK, qD⟩ := q
  exact ⟨q0, q4, NW.same (s := U) (U := U.calling g mk a) (show U.vm = (U.calling g mk a).vm from rfl) q5, qP, va_K.moved (u := U) (U := U.calling g mk a) (Vm.Alike.refl U.vm) qK, qD⟩
end
section
section CALLS
variable {l : Launch} {G : GG} {A : Nat → Prop} {Γ : Cx} {cc : ByteArray} {own : String} {rm : Room} {nL k n pc : Nat} {ws : va_W} {lv : List (Nat × Value)} {rest stk : List Value}
variable {y : MethodName} {cb : ByteArray} {mL ix nA ci q b : Nat} {rt : FieldType} {rb : Room} {As : List Value} {ws' : va_W} {Cn host : String} {T : u_T} {N : Nat} {fs : List Value}
theorem s_cV_I (C : CX G A Γ cc own rm nL) {r : Int32} (hM : MI l y cb mL rt rb G A ws (.ref b :: As) r ws') (gd : GoodIn lw_g (wsV own ix Cn y (Cond.code y cb mL (some rt) :: lw_g))) (hd : y.cls = Cn ∧ y.cls ≠ "java/lang/invoke/MethodHandle" ∧ y.cls ≠ "java/lang/invoke/VarHandle" ∧ ((parseMethodDescriptor y.desc).map (fun d => d.parameters.length) = some nA)) (hn : As.length = nA) (hR : rb.frames + 1 ≤ rm.frames ∧ 8 + (mL + 11) + rb.locals ≤ rm.locals) (hc : vwCl[ci]? = some (Cn, T, N)) (he : ws[q]? = some (b, .inr (ci, fs))) (hst : stk = As.reverse ++ .ref b :: rest) (hrm : (rest.map fun v => v.category).sum ≤ 8) (hroom : k + rb.cells ≤ rm.cells ∧ n + rb.slots ≤ rm.slots) (d : decode cc pc = .ok (.invokevirtual ix, 3)) (K : St l G A Γ (k + rb.cells) (n + rb.slots) ws' (pc + 3) lv (.int r :: rest)) : St l G A Γ k n ws pc lv stk := by
  obtain ⟨p, e, R, s, m, args, below, meth, c, nL, Q⟩ := Γ
  obtain ⟨hx, hb, hml, hown, hts, hK, hA, hN, rfl, rfl⟩ := C
  intro H locs ls hP hD hS hl
  refine va_calli (va_runV (As := As) (rest := rest) ⟨hx, hb, hml, hown, hts⟩ hM (cwV nA hts gd rfl rfl rfl hd hR) ⟨g_blind, va_recv hK hP hc he, fun U hU hW => ⟨rfl, fun q h => hA q (Nat.le_trans hS.1 (hU ▸ h)), hN.warm hW, by rw [hU]; exact hP, va_K.moved hW.alike hK, hD⟩⟩ rfl hn hl.1 hst (lv_room hrm) d hroom) hS (fun q _ h => h) (fun q h => h) (fun r' u t H1 locs1 ht hvm hw hB hz hk hS1 => ?_)
  obtain ⟨hP1, hK1, hD1⟩ := hB
  subst hw
  exact K H1 locs1 ls (ht ▸ hP1) hD1 hS1 hl
theorem s_cV_L (C : CX G A Γ cc own rm nL) {r : Int64} (hM : ML l y cb mL rb G A ws (.ref b :: As) r ws') (gd : GoodIn lw_g (wsV own ix Cn y (Cond.code y cb mL (some .long) :: lw_g))) (hd : y.cls = Cn ∧ y.cls ≠ "java/lang/invoke/MethodHandle" ∧ y.cls ≠ "java/lang/invoke/VarHandle" ∧ ((parseMethodDescriptor y.desc).map (fun d => d.parameters.length) = some nA)) (hn : As.length = nA) (hR : rb.frames + 1 ≤ rm.frames ∧ 8 + (mL + 11) + rb.locals ≤ rm.locals) (hc : vwCl[ci]? = some (Cn, T, N)) (he : ws[q]? = some (b, .inr (ci, fs))) (hst : stk = As.reverse ++ .ref b :: rest) (hrm : (rest.map fun v => v.category).sum ≤ 8) (hroom : k + rb.cells ≤ rm.cells ∧ n + rb.slots ≤ rm.slots) (d : decode cc pc = .ok (.invokevirtual ix, 3)) (K : St l G A Γ (k + rb.cells) (n + rb.slots) ws' (pc + 3) lv (.long r :: rest)) : St l G A Γ k n ws pc lv stk := by
  obtain ⟨p, e, R, s, m, args, below, meth, c, nL, Q⟩ := Γ
  obtain ⟨hx, hb, hml, hown, hts, hK, hA, hN, rfl, rfl⟩ := C
  intro H locs ls hP hD hS hl
  refine va_calll (va_runV (As := As) (rest := rest) ⟨hx, hb, hml, hown, hts⟩ hM (cwV nA hts gd rfl rfl rfl hd hR) ⟨g_blind, va_recv hK hP hc he, fun U hU hW => ⟨rfl, fun q h => hA q (Nat.le_trans hS.1 (hU ▸ h)), hN.warm hW, by rw [hU]; exact hP, va_K.moved hW.alike hK, hD⟩⟩ rfl hn hl.1 hst (lv_room hrm) d hroom) hS (fun q _ h => h) (fun q h => h) (fun r' u t H1 locs1 ht hvm hw hB hz hk hS1 => ?_)
  obtain ⟨hP1, hK1, hD1⟩ := hB
  subst hw
  exact K H1 locs1 ls (ht ▸ hP1) hD1 hS1 hl
theorem s_cV_V (C : CX G A Γ cc own rm nL)  (hM : MV l y cb mL rb G A ws (.ref b :: As) ws') (gd : GoodIn lw_g (wsV own ix Cn y (Cond.code y cb mL none :: lw_g))) (hd : y.cls = Cn ∧ y.cls ≠ "java/lang/invoke/MethodHandle" ∧ y.cls ≠ "java/lang/invoke/VarHandle" ∧ ((parseMethodDescriptor y.desc).map (fun d => d.parameters.length) = some nA)) (hn : As.length = nA) (hR : rb.frames + 1 ≤ rm.frames ∧ 8 + (mL + 11) + rb.locals ≤ rm.locals) (hc : vwCl[ci]? = some (Cn, T, N)) (he : ws[q]? = some (b, .inr (ci, fs))) (hst : stk = As.reverse ++ .ref b :: rest) (hrm : (rest.map fun v => v.category).sum ≤ 8) (hroom : k + rb.cells ≤ rm.cells ∧ n + rb.slots ≤ rm.slots) (d : decode cc pc = .ok (.invokevirtual ix, 3)) (K : St l G A Γ (k + rb.cells) (n + rb.slots) ws' (pc + 3) lv (rest)) : St l G A Γ k n ws pc lv stk := by
  obtain ⟨p, e, R, s, m, args, below, meth, c, nL, Q⟩ := Γ
  obtain ⟨hx, hb, hml, hown, hts, hK, hA, hN, rfl, rfl⟩ := C
  intro H locs ls hP hD hS hl
  refine va_callv (va_runV (As := As) (rest := rest) ⟨hx, hb, hml, hown, hts⟩ hM (cwV nA hts gd rfl rfl rfl hd hR) ⟨g_blind, va_recv hK hP hc he, fun U hU hW => ⟨rfl, fun q h => hA q (Nat.le_trans hS.1 (hU ▸ h)), hN.warm hW, by rw [hU]; exact hP, va_K.moved hW.alike hK, hD⟩⟩ rfl hn hl.1 hst (lv_room hrm) d hroom) hS (fun q _ h => h) (fun q h => h) (fun u t H1 locs1 ht hvm hw hB hz hk hS1 => ?_)
  obtain ⟨hP1, hK1, hD1⟩ := hB
  exact K H1 locs1 ls (ht ▸ hP1) hD1 hS1 hl
theorem s_cV_R (C : CX G A Γ cc own rm nL) {r : Nat} (hM : MR l y cb mL rt rb G A ws (.ref b :: As) r ws') (gd : GoodIn lw_g (wsV own ix Cn y (Cond.code y cb mL (some rt) :: lw_g))) (hd : y.cls = Cn ∧ y.cls ≠ "java/lang/invoke/MethodHandle" ∧ y.cls ≠ "java/lang/invoke/VarHandle" ∧ ((parseMethodDescriptor y.desc).map (fun d => d.parameters.length) = some nA)) (hn : As.length = nA) (hR : rb.frames + 1 ≤ rm.frames ∧ 8 + (mL + 11) + rb.locals ≤ rm.locals) (hc : vwCl[ci]? = some (Cn, T, N)) (he : ws[q]? = some (b, .inr (ci, fs))) (hst : stk = As.reverse ++ .ref b :: rest) (hrm : (rest.map fun v => v.category).sum ≤ 8) (hroom : k + rb.cells ≤ rm.cells ∧ n + rb.slots ≤ rm.slots) (d : decode cc pc = .ok (.invokevirtual ix, 3)) (K : St l G A Γ (k + rb.cells) (n + rb.slots) ws' (pc + 3) lv (.ref r :: rest)) : St l G A Γ k n ws pc lv stk := by
  obtain ⟨p, e, R, s, m, args, below, meth, c, nL, Q⟩ := Γ
  obtain ⟨hx, hb, hml, hown, hts, hK, hA, hN, rfl, rfl⟩ := C
  intro H locs ls hP hD hS hl
  refine va_callr (va_runV (As := As) (rest := rest) ⟨hx, hb, hml, hown, hts⟩ hM (cwV nA hts gd rfl rfl rfl hd hR) ⟨g_blind, va_recv hK hP hc he, fun U hU hW => ⟨rfl, fun q h => hA q (Nat.le_trans hS.1 (hU ▸ h)), hN.warm hW, by rw [hU]; exact hP, va_K.moved hW.alike hK, hD⟩⟩ rfl hn hl.1 hst (lv_room hrm) d hroom) hS (fun q _ h => h) (fun q h => h) (fun u r' t H1 locs1 ht hvm hw hB hz hk hS1 => ?_)
  obtain ⟨hra, hP1, hK1, hD1⟩ := hB
  subst hra
  exact K H1 locs1 ls (ht ▸ hP1) hD1 hS1 hl
theorem s_cS_I (C : CX G A Γ cc own rm nL) {r : Int32} (hM : MI l y cb mL rt rb G A ws As r ws') (gd : GoodIn lw_g (wsS own ix y (Cond.code y cb mL (some rt) :: lw_g))) (hd : y.cls = own ∧ y.cls ≠ "java/lang/invoke/MethodHandle" ∧ y.cls ≠ "java/lang/invoke/VarHandle" ∧ ((parseMethodDescriptor y.desc).map (fun d => d.parameters.length) = some nA)) (hn : As.length = nA) (hR : rb.frames + 1 ≤ rm.frames ∧ 8 + (mL + 11) + rb.locals ≤ rm.locals) (hst : stk = As.reverse ++ rest) (hrm : (rest.map fun v => v.category).sum ≤ 8) (hroom : k + rb.cells ≤ rm.cells ∧ n + rb.slots ≤ rm.slots) (d : decode cc pc = .ok (.invokestatic ix, 3)) (K : St l G A Γ (k + rb.cells) (n + rb.slots) ws' (pc + 3) lv (.int r :: rest)) : St l G A Γ k n ws pc lv stk := by
  obtain ⟨p, e, R, s, m, args, below, meth, c, nL, Q⟩ := Γ
  obtain ⟨hx, hb, hml, hown, hts, hK, hA, hN, rfl, rfl⟩ := C
  intro H locs ls hP hD hS hl
  refine va_calli (va_runS (As := As) (rest := rest) ⟨hx, hb, hml, hown, hts⟩ hM (cwS nA hts gd rfl rfl rfl hd hR) ⟨g_blind, fun U hU hW => ⟨rfl, fun q h => hA q (Nat.le_trans hS.1 (hU ▸ h)), hN.warm hW, by rw [hU]; exact hP, va_K.moved hW.alike hK, hD⟩⟩ rfl hn hl.1 hst (lv_room hrm) d hroom) hS (fun q _ h => h) (fun q h => h) (fun r' u t H1 locs1 ht hvm hw hB hz hk hS1 => ?_)
  obtain ⟨hP1, hK1, hD1⟩ := hB
  subst hw
  exact K H1 locs1 ls (ht ▸ hP1) hD1 hS1 hl
theorem s_cS_L (C : CX G A Γ cc own rm nL) {r : Int64} (hM : ML l y cb mL rb G A ws As r ws') (gd : GoodIn lw_g (wsS own ix y (Cond.code y cb mL (some .long) :: lw_g))) (hd : y.cls = own ∧ y.cls ≠ "java/lang/invoke/MethodHandle" ∧ y.cls ≠ "java/lang/invoke/VarHandle" ∧ ((parseMethodDescriptor y.desc).map (fun d => d.parameters.length) = some nA)) (hn : As.length = nA) (hR : rb.frames + 1 ≤ rm.frames ∧ 8 + (mL + 11) + rb.locals ≤ rm.locals) (hst : stk = As.reverse ++ rest) (hrm : (rest.map fun v => v.category).sum ≤ 8) (hroom : k + rb.cells ≤ rm.cells ∧ n + rb.slots ≤ rm.slots) (d : decode cc pc = .ok (.invokestatic ix, 3)) (K : St l G A Γ (k + rb.cells) (n + rb.slots) ws' (pc + 3) lv (.long r :: rest)) : St l G A Γ k n ws pc lv stk := by
  obtain ⟨p, e, R, s, m, args, below, meth, c, nL, Q⟩ := Γ
  obtain ⟨hx, hb, hml, hown, hts, hK, hA, hN, rfl, rfl⟩ := C
  intro H locs ls hP hD hS hl
  refine va_calll (va_runS (As := As) (rest := rest) ⟨hx, hb, hml, hown, hts⟩ hM (cwS nA hts gd rfl rfl rfl hd hR) ⟨g_blind, fun U hU hW => ⟨rfl, fun q h => hA q (Nat.le_trans hS.1 (hU ▸ h)), hN.warm hW, by rw [hU]; exact hP, va_K.moved hW.alike hK, hD⟩⟩ rfl hn hl.1 hst (lv_room hrm) d hroom) hS (fun q _ h => h) (fun q h => h) (fun r' u t H1 locs1 ht hvm hw hB hz hk hS1 => ?_)
  obtain ⟨hP1, hK1, hD1⟩ := hB
  subst hw
  exact K H1 locs1 ls (ht ▸ hP1) hD1 hS1 hl
theorem s_cS_V (C : CX G A Γ cc own rm nL)  (hM : MV l y cb mL rb G A ws As ws') (gd : GoodIn lw_g (wsS own ix y (Cond.code y cb mL none :: lw_g))) (hd : y.cls = own ∧ y.cls ≠ "java/lang/invoke/MethodHandle" ∧ y.cls ≠ "java/lang/invoke/VarHandle" ∧ ((parseMethodDescriptor y.desc).map (fun d => d.parameters.length) = some nA)) (hn : As.length = nA) (hR : rb.frames + 1 ≤ rm.frames ∧ 8 + (mL + 11) + rb.locals ≤ rm.locals) (hst : stk = As.reverse ++ rest) (hrm : (rest.map fun v => v.category).sum ≤ 8) (hroom : k + rb.cells ≤ rm.cells ∧ n + rb.slots ≤ rm.slots) (d : decode cc pc = .ok (.invokestatic ix, 3)) (K : St l G A Γ (k + rb.cells) (n + rb.slots) ws' (pc + 3) lv (rest)) : St l G A Γ k n ws pc lv stk := by
  obtain ⟨p, e, R, s, m, args, below, meth, c, nL, Q⟩ := Γ
  obtain ⟨hx, hb, hml, hown, hts, hK, hA, hN, rfl, rfl⟩ := C
  intro H locs ls hP hD hS hl
  refine va_callv (va_runS (As := As) (rest := rest) ⟨hx, hb, hml, hown, hts⟩ hM (cwS nA hts gd rfl rfl rfl hd hR) ⟨g_blind, fun U hU hW => ⟨rfl, fun q h => hA q (Nat.le_trans hS.1 (hU ▸ h)), hN.warm hW, by rw [hU]; exact hP, va_K.moved hW.alike hK, hD⟩⟩ rfl hn hl.1 hst (lv_room hrm) d hroom) hS (fun q _ h => h) (fun q h => h) (fun u t H1 locs1 ht hvm hw hB hz hk hS1 => ?_)
  obtain ⟨hP1, hK1, hD1⟩ := hB
  exact K H1 locs1 ls (ht ▸ hP1) hD1 hS1 hl
theorem s_cS_R (C : CX G A Γ cc own rm nL) {r : Nat} (hM : MR l y cb mL rt rb G A ws As r ws') (gd : GoodIn lw_g (wsS own ix y (Cond.code y cb mL (some rt) :: lw_g))) (hd : y.cls = own ∧ y.cls ≠ "java/lang/invoke/MethodHandle" ∧ y.cls ≠ "java/lang/invoke/VarHandle" ∧ ((parseMethodDescriptor y.desc).map (fun d => d.parameters.length) = some nA)) (hn : As.length = nA) (hR : rb.frames + 1 ≤ rm.frames ∧ 8 + (mL + 11) + rb.locals ≤ rm.locals) (hst : stk = As.reverse ++ rest) (hrm : (rest.map fun v => v.category).sum ≤ 8) (hroom : k + rb.cells ≤ rm.cells ∧ n + rb.slots ≤ rm.slots) (d : decode cc pc = .ok (.invokestatic ix, 3)) (K : St l G A Γ (k + rb.cells) (n + rb.slots) ws' (pc + 3) lv (.ref r :: rest)) : St l G A Γ k n ws pc lv stk := by
  obtain ⟨p, e, R, s, m, args, below, meth, c, nL, Q⟩ := Γ
  obtain ⟨hx, hb, hml, hown, hts, hK, hA, hN, rfl, rfl⟩ := C
  intro H locs ls hP hD hS hl
  refine va_callr (va_runS (As := As) (rest := rest) ⟨hx, hb, hml, hown, hts⟩ hM (cwS nA hts gd rfl rfl rfl hd hR) ⟨g_blind, fun U hU hW => ⟨rfl, fun q h => hA q (Nat.le_trans hS.1 (hU ▸ h)), hN.warm hW, by rw [hU]; exact hP, va_K.moved hW.alike hK, hD⟩⟩ rfl hn hl.1 hst (lv_room hrm) d hroom) hS (fun q _ h => h) (fun q h => h) (fun u r' t H1 locs1 ht hvm hw hB hz hk hS1 => ?_)
  obtain ⟨hra, hP1, hK1, hD1⟩ := hB
  subst hra
  exact K H1 locs1 ls (ht ▸ hP1) hD1 hS1 hl
theorem s_cI_V (C : CX G A Γ cc own rm nL)  (hM : MV l y cb mL rb G A ws (.ref b :: As) ws') (gd : GoodIn lw_g (Cond.code y cb mL none :: lw_g)) (hl1 : Cond.initialized y.cls ∈ lw_g) (hl2 : Cond.methodLink own ix y ∈ lw_g) (hl3 : Cond.instanceMethod y ∈ lw_g) (hy1 : y.name = "<init>") (hd : y.cls ≠ "java/lang/invoke/MethodHandle" ∧ y.cls ≠ "java/lang/invoke/VarHandle" ∧ ((parseMethodDescriptor y.desc).map (fun d => d.parameters.length) = some nA)) (hn : As.length = nA) (hR : rb.frames + 1 ≤ rm.frames ∧ 8 + (mL + 11) + rb.locals ≤ rm.locals) (hst : stk = As.reverse ++ .ref b :: rest) (hrm : (rest.map fun v => v.category).sum ≤ 8) (hroom : k + rb.cells ≤ rm.cells ∧ n + rb.slots ≤ rm.slots) (d : decode cc pc = .ok (.invokespecial ix, 3)) (K : St l G A Γ (k + rb.cells) (n + rb.slots) ws' (pc + 3) lv (rest)) : St l G A Γ k n ws pc lv stk := by
  obtain ⟨p, e, R, s, m, args, below, meth, c, nL, Q⟩ := Γ
  obtain ⟨hx, hb, hml, hown, hts, hK, hA, hN, rfl, rfl⟩ := C
  intro H locs ls hP hD hS hl
  refine va_callv (va_runI (As := As) (rest := rest) ⟨hx, hb, hml, hown, hts⟩ hM (cwI nA hts gd rfl rfl rfl (hts _ hl1) (hts _ hl2) (hts _ hl3) hy1 hd hR) ⟨g_blind, fun U hU hW => ⟨rfl, fun q h => hA q (Nat.le_trans hS.1 (hU ▸ h)), hN.warm hW, by rw [hU]; exact hP, va_K.moved hW.alike hK, hD⟩⟩ rfl hn hl.1 hst (lv_room hrm) d hroom) hS (fun q _ h => h) (fun q h => h) (fun u t H1 locs1 ht hvm hw hB hz hk hS1 => ?_)
  obtain ⟨hP1, hK1, hD1⟩ := hB
  exact K H1 locs1 ls (ht ▸ hP1) hD1 hS1 hl
theorem s_cVN_I (C : CX G A Γ cc own rm nL) {r : Int32} (hM : MI l y cb mL rt rb G A ws (.ref b :: As) r ws') (gd : GoodIn lw_g (Cond.code y cb mL (some rt) :: lw_g)) (hl1 : Cond.initialized y.cls ∈ lw_g) (hl2 : Cond.methodLinkNest own ix y host ∈ nestW) (hl3 : Cond.instanceMethod y ∈ lw_g) (hl4 : Cond.selects Cn y y ∈ lw_g) (hd : y.cls ≠ "java/lang/invoke/MethodHandle" ∧ y.cls ≠ "java/lang/invoke/VarHandle" ∧ ((parseMethodDescriptor y.desc).map (fun d => d.parameters.length) = some nA)) (hn : As.length = nA) (hR : rb.frames + 1 ≤ rm.frames ∧ 8 + (mL + 11) + rb.locals ≤ rm.locals) (hc : vwCl[ci]? = some (Cn, T, N)) (he : ws[q]? = some (b, .inr (ci, fs))) (hst : stk = As.reverse ++ .ref b :: rest) (hrm : (rest.map fun v => v.category).sum ≤ 8) (hroom : k + rb.cells ≤ rm.cells ∧ n + rb.slots ≤ rm.slots) (d : decode cc pc = .ok (.invokevirtual ix, 3)) (K : St l G A Γ (k + rb.cells) (n + rb.slots) ws' (pc + 3) lv (.int r :: rest)) : St l G A Γ k n ws pc lv stk := by
  obtain ⟨p, e, R, s, m, args, below, meth, c, nL, Q⟩ := Γ
  obtain ⟨hx, hb, hml, hown, hts, hK, hA, hN, rfl, rfl⟩ := C
  intro H locs ls hP hD hS hl
  refine va_calli (va_runVN (As := As) (rest := rest) ⟨hx, hb, hml, hown, hts⟩ hM (⟨va_cnB nA hts gd rfl rfl rfl (hN.1 _ hl2) (hts _ hl1) hd hR, hts _ hl3, hts _ hl4⟩) ⟨g_blind, va_recv hK hP hc he, fun U hU hW => ⟨rfl, fun q h => hA q (Nat.le_trans hS.1 (hU ▸ h)), hN.warm hW, by rw [hU]; exact hP, va_K.moved hW.alike hK, hD⟩⟩ rfl hn hl.1 hst (lv_room hrm) d hroom) hS (fun q _ h => h) (fun q h => h) (fun r' u t H1 locs1 ht hvm hw hB hz hk hS1 => ?_)
  obtain ⟨hP1, hK1, hD1⟩ := hB
  subst hw
  exact K H1 locs1 ls (ht ▸ hP1) hD1 hS1 hl
theorem s_cVN_L (C : CX G A Γ cc own rm nL) {r : Int64} (hM : ML l y cb mL rb G A ws (.ref b :: As) r ws') (gd : GoodIn lw_g (Cond.code y cb mL (some .long) :: lw_g)) (hl1 : Cond.initialized y.cls ∈ lw_g) (hl2 : Cond.methodLinkNest own ix y host ∈ nestW) (hl3 : Cond.instanceMethod y ∈ lw_g) (hl4 : Cond.selects Cn y y ∈ lw_g) (hd : y.cls ≠ "java/lang/invoke/MethodHandle" ∧ y.cls ≠ "java/lang/invoke/VarHandle" ∧ ((parseMethodDescriptor y.desc).map (fun d => d.parameters.length) = some nA)) (hn : As.length = nA) (hR : rb.frames + 1 ≤ rm.frames ∧ 8 + (mL + 11) + rb.locals ≤ rm.locals) (hc : vwCl[ci]? = some (Cn, T, N)) (he : ws[q]? = some (b, .inr (ci, fs))) (hst : stk = As.reverse ++ .ref b :: rest) (hrm : (rest.map fun v => v.category).sum ≤ 8) (hroom : k + rb.cells ≤ rm.cells ∧ n + rb.slots ≤ rm.slots) (d : decode cc pc = .ok (.invokevirtual ix, 3)) (K : St l G A Γ (k + rb.cells) (n + rb.slots) ws' (pc + 3) lv (.long r :: rest)) : St l G A Γ k n ws pc lv stk := by
  obtain ⟨p, e, R, s, m, args, below, meth, c, nL, Q⟩ := Γ
  obtain ⟨hx, hb, hml, hown, hts, hK, hA, hN, rfl, rfl⟩ := C
  intro H locs ls hP hD hS hl
  refine va_calll (va_runVN (As := As) (rest := rest) ⟨hx, hb, hml, hown, hts⟩ hM (⟨va_cnB nA hts gd rfl rfl rfl (hN.1 _ hl2) (hts _ hl1) hd hR, hts _ hl3, hts _ hl4⟩) ⟨g_blind, va_recv hK hP hc he, fun U hU hW => ⟨rfl, fun q h => hA q (Nat.le_trans hS.1 (hU ▸ h)), hN.warm hW, by rw [hU]; exact hP, va_K.moved hW.alike hK, hD⟩⟩ rfl hn hl.1 hst (lv_room hrm) d hroom) hS (fun q _ h => h) (fun q h => h) (fun r' u t H1 locs1 ht hvm hw hB hz hk hS1 => ?_)
  obtain ⟨hP1, hK1, hD1⟩ := hB
  subst hw
  exact K H1 locs1 ls (ht ▸ hP1) hD1 hS1 hl
theorem s_cVN_V (C : CX G A Γ cc own rm nL)  (hM : MV l y cb mL rb G A ws (.ref b :: As) ws') (gd : GoodIn lw_g (Cond.code y cb mL none :: lw_g)) (hl1 : Cond.initialized y.cls ∈ lw_g) (hl2 : Cond.methodLinkNest own ix y host ∈ nestW) (hl3 : Cond.instanceMethod y ∈ lw_g) (hl4 : Cond.selects Cn y y ∈ lw_g) (hd : y.cls ≠ "java/lang/invoke/MethodHandle" ∧ y.cls ≠ "java/lang/invoke/VarHandle" ∧ ((parseMethodDescriptor y.desc).map (fun d => d.parameters.length) = some nA)) (hn : As.length = nA) (hR : rb.frames + 1 ≤ rm.frames ∧ 8 + (mL + 11) + rb.locals ≤ rm.locals) (hc : vwCl[ci]? = some (Cn, T, N)) (he : ws[q]? = some (b, .inr (ci, fs))) (hst : stk = As.reverse ++ .ref b :: rest) (hrm : (rest.map fun v => v.category).sum ≤ 8) (hroom : k + rb.cells ≤ rm.cells ∧ n + rb.slots ≤ rm.slots) (d : decode cc pc = .ok (.invokevirtual ix, 3)) (K : St l G A Γ (k + rb.cells) (n + rb.slots) ws' (pc + 3) lv (rest)) : St l G A Γ k n ws pc lv stk := by
  obtain ⟨p, e, R, s, m, args, below, meth, c, nL, Q⟩ := Γ
  obtain ⟨hx, hb, hml, hown, hts, hK, hA, hN, rfl, rfl⟩ := C
  intro H locs ls hP hD hS hl
  refine va_callv (va_runVN (As := As) (rest := rest) ⟨hx, hb, hml, hown, hts⟩ hM (⟨va_cnB nA hts gd rfl rfl rfl (hN.1 _ hl2) (hts _ hl1) hd hR, hts _ hl3, hts _ hl4⟩) ⟨g_blind, va_recv hK hP hc he, fun U hU hW => ⟨rfl, fun q h => hA q (Nat.le_trans hS.1 (hU ▸ h)), hN.warm hW, by rw [hU]; exact hP, va_K.moved hW.alike hK, hD⟩⟩ rfl hn hl.1 hst (lv_room hrm) d hroom) hS (fun q _ h => h) (fun q h => h) (fun u t H1 locs1 ht hvm hw hB hz hk hS1 => ?_)
  obtain ⟨hP1, hK1, hD1⟩ := hB
  exact K H1 locs1 ls (ht ▸ hP1) hD1 hS1 hl
theorem s_cVN_R (C : CX G A Γ cc own rm nL) {r : Nat} (hM : MR l y cb mL rt rb G A ws (.ref b :: As) r ws') (gd : GoodIn lw_g (Cond.code y cb mL (some rt) :: lw_g)) (hl1 : Cond.initialized y.cls ∈ lw_g) (hl2 : Cond.methodLinkNest own ix y host ∈ nestW) (hl3 : Cond.instanceMethod y ∈ lw_g) (hl4 : Cond.selects Cn y y ∈ lw_g) (hd : y.cls ≠ "java/lang/invoke/MethodHandle" ∧ y.cls ≠ "java/lang/invoke/VarHandle" ∧ ((parseMethodDescriptor y.desc).map (fun d => d.parameters.length) = some nA)) (hn : As.length = nA) (hR : rb.frames + 1 ≤ rm.frames ∧ 8 + (mL + 11) + rb.locals ≤ rm.locals) (hc : vwCl[ci]? = some (Cn, T, N)) (he : ws[q]? = some (b, .inr (ci, fs))) (hst : stk = As.reverse ++ .ref b :: rest) (hrm : (rest.map fun v => v.category).sum ≤ 8) (hroom : k + rb.cells ≤ rm.cells ∧ n + rb.slots ≤ rm.slots) (d : decode cc pc = .ok (.invokevirtual ix, 3)) (K : St l G A Γ (k + rb.cells) (n + rb.slots) ws' (pc + 3) lv (.ref r :: rest)) : St l G A Γ k n ws pc lv stk := by
  obtain ⟨p, e, R, s, m, args, below, meth, c, nL, Q⟩ := Γ
  obtain ⟨hx, hb, hml, hown, hts, hK, hA, hN, rfl, rfl⟩ := C
  intro H locs ls hP hD hS hl
  refine va_callr (va_runVN (As := As) (rest := rest) ⟨hx, hb, hml, hown, hts⟩ hM (⟨va_cnB nA hts gd rfl rfl rfl (hN.1 _ hl2) (hts _ hl1) hd hR, hts _ hl3, hts _ hl4⟩) ⟨g_blind, va_recv hK hP hc he, fun U hU hW => ⟨rfl, fun q h => hA q (Nat.le_trans hS.1 (hU ▸ h)), hN.warm hW, by rw [hU]; exact hP, va_K.moved hW.alike hK, hD⟩⟩ rfl hn hl.1 hst (lv_room hrm) d hroom) hS (fun q _ h => h) (fun q h => h) (fun u r' t H1 locs1 ht hvm hw hB hz hk hS1 => ?_)
  obtain ⟨hra, hP1, hK1, hD1⟩ := hB
  subst hra
  exact K H1 locs1 ls (ht ▸ hP1) hD1 hS1 hl
theorem s_cSN_I (C : CX G A Γ cc own rm nL) {r : Int32} (hM : MI l y cb mL rt rb G A ws As r ws') (gd : GoodIn lw_g (Cond.code y cb mL (some rt) :: lw_g)) (hl1 : Cond.initialized y.cls ∈ lw_g) (hl2 : Cond.methodLinkNest own ix y host ∈ nestW) (hl3 : Cond.static y ∈ lw_g) (hd : y.cls ≠ "java/lang/invoke/MethodHandle" ∧ y.cls ≠ "java/lang/invoke/VarHandle" ∧ ((parseMethodDescriptor y.desc).map (fun d => d.parameters.length) = some nA)) (hn : As.length = nA) (hR : rb.frames + 1 ≤ rm.frames ∧ 8 + (mL + 11) + rb.locals ≤ rm.locals) (hst : stk = As.reverse ++ rest) (hrm : (rest.map fun v => v.category).sum ≤ 8) (hroom : k + rb.cells ≤ rm.cells ∧ n + rb.slots ≤ rm.slots) (d : decode cc pc = .ok (.invokestatic ix, 3)) (K : St l G A Γ (k + rb.cells) (n + rb.slots) ws' (pc + 3) lv (.int r :: rest)) : St l G A Γ k n ws pc lv stk := by
  obtain ⟨p, e, R, s, m, args, below, meth, c, nL, Q⟩ := Γ
  obtain ⟨hx, hb, hml, hown, hts, hK, hA, hN, rfl, rfl⟩ := C
  intro H locs ls hP hD hS hl
  refine va_calli (va_runSN (As := As) (rest := rest) ⟨hx, hb, hml, hown, hts⟩ hM (⟨va_cnB nA hts gd rfl rfl rfl (hN.1 _ hl2) (hts _ hl1) hd hR, hts _ hl3, trivial⟩) ⟨g_blind, fun U hU hW => ⟨rfl, fun q h => hA q (Nat.le_trans hS.1 (hU ▸ h)), hN.warm hW, by rw [hU]; exact hP, va_K.moved hW.alike hK, hD⟩⟩ rfl hn hl.1 hst (lv_room hrm) d hroom) hS (fun q _ h => h) (fun q h => h) (fun r' u t H1 locs1 ht hvm hw hB hz hk hS1 => ?_)
  obtain ⟨hP1, hK1, hD1⟩ := hB
  subst hw
  exact K H1 locs1 ls (ht ▸ hP1) hD1 hS1 hl
theorem s_cSN_L (C : CX G A Γ cc own rm nL) {r : Int64} (hM : ML l y cb mL rb G A ws As r ws') (gd : GoodIn lw_g (Cond.code y cb mL (some .long) :: lw_g)) (hl1 : Cond.initialized y.cls ∈ lw_g) (hl2 : Cond.methodLinkNest own ix y host ∈ nestW) (hl3 : Cond.static y ∈ lw_g) (hd : y.cls ≠ "java/lang/invoke/MethodHandle" ∧ y.cls ≠ "java/lang/invoke/VarHandle" ∧ ((parseMethodDescriptor y.desc).map (fun d => d.parameters.length) = some nA)) (hn : As.length = nA) (hR : rb.frames + 1 ≤ rm.frames ∧ 8 + (mL + 11) + rb.locals ≤ rm.locals) (hst : stk = As.reverse ++ rest) (hrm : (rest.map fun v => v.category).sum ≤ 8) (hroom : k + rb.cells ≤ rm.cells ∧ n + rb.slots ≤ rm.slots) (d : decode cc pc = .ok (.invokestatic ix, 3)) (K : St l G A Γ (k + rb.cells) (n + rb.slots) ws' (pc + 3) lv (.long r :: rest)) : St l G A Γ k n ws pc lv stk := by
  obtain ⟨p, e, R, s, m, args, below, meth, c, nL, Q⟩ := Γ
  obtain ⟨hx, hb, hml, hown, hts, hK, hA, hN, rfl, rfl⟩ := C
  intro H locs ls hP hD hS hl
  refine va_calll (va_runSN (As := As) (rest := rest) ⟨hx, hb, hml, hown, hts⟩ hM (⟨va_cnB nA hts gd rfl rfl rfl (hN.1 _ hl2) (hts _ hl1) hd hR, hts _ hl3, trivial⟩) ⟨g_blind, fun U hU hW => ⟨rfl, fun q h => hA q (Nat.le_trans hS.1 (hU ▸ h)), hN.warm hW, by rw [hU]; exact hP, va_K.moved hW.alike hK, hD⟩⟩ rfl hn hl.1 hst (lv_room hrm) d hroom) hS (fun q _ h => h) (fun q h => h) (fun r' u t H1 locs1 ht hvm hw hB hz hk hS1 => ?_)
  obtain ⟨hP1, hK1, hD1⟩ := hB
  subst hw
  exact K H1 locs1 ls (ht ▸ hP1) hD1 hS1 hl
theorem s_cSN_V (C : CX G A Γ cc own rm nL)  (hM : MV l y cb mL rb G A ws As ws') (gd : GoodIn lw_g (Cond.code y cb mL none :: lw_g)) (hl1 : Cond.initialized y.cls ∈ lw_g) (hl2 : Cond.methodLinkNest own ix y host ∈ nestW) (hl3 : Cond.static y ∈ lw_g) (hd : y.cls ≠ "java/lang/invoke/MethodHandle" ∧ y.cls ≠ "java/lang/invoke/VarHandle" ∧ ((parseMethodDescriptor y.desc).map (fun d => d.parameters.length) = some nA)) (hn : As.length = nA) (hR : rb.frames + 1 ≤ rm.frames ∧ 8 + (mL + 11) + rb.locals ≤ rm.locals) (hst : stk = As.reverse ++ rest) (hrm : (rest.map fun v => v.category).sum ≤ 8) (hroom : k + rb.cells ≤ rm.cells ∧ n + rb.slots ≤ rm.slots) (d : decode cc pc = .ok (.invokestatic ix, 3)) (K : St l G A Γ (k + rb.cells) (n + rb.slots) ws' (pc + 3) lv (rest)) : St l G A Γ k n ws pc lv stk := by
  obtain ⟨p, e, R, s, m, args, below, meth, c, nL, Q⟩ := Γ
  obtain ⟨hx, hb, hml, hown, hts, hK, hA, hN, rfl, rfl⟩ := C
  intro H locs ls hP hD hS hl
  refine va_callv (va_runSN (As := As) (rest := rest) ⟨hx, hb, hml, hown, hts⟩ hM (⟨va_cnB nA hts gd rfl rfl rfl (hN.1 _ hl2) (hts _ hl1) hd hR, hts _ hl3, trivial⟩) ⟨g_blind, fun U hU hW => ⟨rfl, fun q h => hA q (Nat.le_trans hS.1 (hU ▸ h)), hN.warm hW, by rw [hU]; exact hP, va_K.moved hW.alike hK, hD⟩⟩ rfl hn hl.1 hst (lv_room hrm) d hroom) hS (fun q _ h => h) (fun q h => h) (fun u t H1 locs1 ht hvm hw hB hz hk hS1 => ?_)
  obtain ⟨hP1, hK1, hD1⟩ := hB
  exact K H1 locs1 ls (ht ▸ hP1) hD1 hS1 hl
theorem s_cSN_R (C : CX G A Γ cc own rm nL) {r : Nat} (hM : MR l y cb mL rt rb G A ws As r ws') (gd : GoodIn lw_g (Cond.code y cb mL (some rt) :: lw_g)) (hl1 : Cond.initialized y.cls ∈ lw_g) (hl2 : Cond.methodLinkNest own ix y host ∈ nestW) (hl3 : Cond.static y ∈ lw_g) (hd : y.cls ≠ "java/lang/invoke/MethodHandle" ∧ y.cls ≠ "java/lang/invoke/VarHandle" ∧ ((parseMethodDescriptor y.desc).map (fun d => d.parameters.length) = some nA)) (hn : As.length = nA) (hR : rb.frames + 1 ≤ rm.frames ∧ 8 + (mL + 11) + rb.locals ≤ rm.locals) (hst : stk = As.reverse ++ rest) (hrm : (rest.map fun v => v.category).sum ≤ 8) (hroom : k + rb.cells ≤ rm.cells ∧ n + rb.slots ≤ rm.slots) (d : decode cc pc = .ok (.invokestatic ix, 3)) (K : St l G A Γ (k + rb.cells) (n + rb.slots) ws' (pc + 3) lv (.ref r :: rest)) : St l G A Γ k n ws pc lv stk := by
  obtain ⟨p, e, R, s, m, args, below, meth, c, nL, Q⟩ := Γ
  obtain ⟨hx, hb, hml, hown, hts, hK, hA, hN, rfl, rfl⟩ := C
  intro H locs ls hP hD hS hl
  refine va_callr (va_runSN (As := As) (rest := rest) ⟨hx, hb, hml, hown, hts⟩ hM (⟨va_cnB nA hts gd rfl rfl rfl (hN.1 _ hl2) (hts _ hl1) hd hR, hts _ hl3, trivial⟩) ⟨g_blind, fun U hU hW => ⟨rfl, fun q h => hA q (Nat.le_trans hS.1 (hU ▸ h)), hN.warm hW, by rw [hU]; exact hP, va_K.moved hW.alike hK, hD⟩⟩ rfl hn hl.1 hst (lv_room hrm) d hroom) hS (fun q _ h => h) (fun q h => h) (fun u r' t H1 locs1 ht hvm hw hB hz hk hS1 => ?_)
  obtain ⟨hra, hP1, hK1, hD1⟩ := hB
  subst hra
  exact K H1 locs1 ls (ht ▸ hP1) hD1 hS1 hl
theorem s_cIN_V (C : CX G A Γ cc own rm nL)  (hM : MV l y cb mL rb G A ws (.ref b :: As) ws') (gd : GoodIn lw_g (Cond.code y cb mL none :: lw_g)) (hl1 : Cond.initialized y.cls ∈ lw_g) (hl2 : Cond.methodLinkNest own ix y host ∈ nestW) (hl3 : Cond.instanceMethod y ∈ lw_g) (hy1 : y.name = "<init>") (hd : y.cls ≠ "java/lang/invoke/MethodHandle" ∧ y.cls ≠ "java/lang/invoke/VarHandle" ∧ ((parseMethodDescriptor y.desc).map (fun d => d.parameters.length) = some nA)) (hn : As.length = nA) (hR : rb.frames + 1 ≤ rm.frames ∧ 8 + (mL + 11) + rb.locals ≤ rm.locals) (hst : stk = As.reverse ++ .ref b :: rest) (hrm : (rest.map fun v => v.category).sum ≤ 8) (hroom : k + rb.cells ≤ rm.cells ∧ n + rb.slots ≤ rm.slots) (d : decode cc pc = .ok (.invokespecial ix, 3)) (K : St l G A Γ (k + rb.cells) (n + rb.slots) ws' (pc + 3) lv (rest)) : St l G A Γ k n ws pc lv stk := by
  obtain ⟨p, e, R, s, m, args, below, meth, c, nL, Q⟩ := Γ
  obtain ⟨hx, hb, hml, hown, hts, hK, hA, hN, rfl, rfl⟩ := C
  intro H locs ls hP hD hS hl
  refine va_callv (va_runIN (As := As) (rest := rest) ⟨hx, hb, hml, hown, hts⟩ hM (⟨va_cnB nA hts gd rfl rfl rfl (hN.1 _ hl2) (hts _ hl1) hd hR, hy1, hts _ hl3⟩) ⟨g_blind, fun U hU hW => ⟨rfl, fun q h => hA q (Nat.le_trans hS.1 (hU ▸ h)), hN.warm hW, by rw [hU]; exact hP, va_K.moved hW.alike hK, hD⟩⟩ rfl hn hl.1 hst (lv_room hrm) d hroom) hS (fun q _ h => h) (fun q h => h) (fun u t H1 locs1 ht hvm hw hB hz hk hS1 => ?_)
  obtain ⟨hP1, hK1, hD1⟩ := hB
  exact K H1 locs1 ls (ht ▸ hP1) hD1 hS1 hl
end CALLS
theorem e_I {l : Launch} {y : MethodName} {cc : ByteArray} {mL : Nat} {rm : Room} {G : GG} {A : Nat → Prop} {ws : va_W} {av : List Value} {ws' : va_W} {rt : FieldType} {r : Int32} (hrt : narrow rt (.int r) = .int r) (hy : plainName y.cls = true) (hlen : (lg_sl av).length ≤ mL) (body : ∀ Γ : Cx, CX G A Γ cc y.cls rm mL → (∀ (pc : Nat) (lv : List (Nat × Value)), decode cc pc = .ok (.ireturn, 1) → St l G A Γ rm.cells rm.slots ws' pc lv [.int r]) → St l G A Γ 0 0 ws 0 (lv_args 0 av) []) : MI l y cc mL rt rm G A ws av r ws' := by
  refine Met.ofW (cc := cc) (maxL := mL) (ret := (some rt)) hy rfl ?_
  intro p e s m args below meth c s₁ B hml hv
  obtain ⟨rfl, hA, hN, hP, hK, hD⟩ := hv
  have hx := B.exec
  have hb := B.bytes
  have hr := B.returns
  have hts := atoms_spec (ws := Cond.code y cc mL (some rt) :: lw_g) B.pre
  have hown : s.vm.findClass y.cls = some m.cls := findClass_of_methodNamed B.named
  have hlocks := B.notSynchronized
  have hl := lv_entry av (n := mL) hlen
  rw [lg_entry_eq]
  exact body (p, e, rm, s, m, av.toArray, below, meth, c, mL, MQ below (gQi G A ws' r) av.toArray s rm.cells rm.slots A) ⟨hx, hb, hml, hown, fun w h => hts w (List.mem_cons_of_mem _ h), hK, hA, hN, rfl, rfl⟩ (fun pc lv d H locs ls hP hD hS hl => W.zret hx hb hr hrt (fun t ht hW => ⟨⟨r, (), rfl, rfl, by rw [ht]; exact hP, va_K.moved hW.alike hK, hD⟩, hS.F ht⟩) hS.2.2 d) s.heap [] _ hP hD va_S.rf hl
theorem e_L {l : Launch} {y : MethodName} {cc : ByteArray} {mL : Nat} {rm : Room} {G : GG} {A : Nat → Prop} {ws : va_W} {av : List Value} {ws' : va_W} {r : Int64} (hy : plainName y.cls = true) (hlen : (lg_sl av).length ≤ mL) (body : ∀ Γ : Cx, CX G A Γ cc y.cls rm mL → (∀ (pc : Nat) (lv : List (Nat × Value)), decode cc pc = .ok (.lreturn, 1) → St l G A Γ rm.cells rm.slots ws' pc lv [.long r]) → St l G A Γ 0 0 ws 0 (lv_args 0 av) []) : ML l y cc mL rm G A ws av r ws' := by
  refine Met.ofW (cc := cc) (maxL := mL) (ret := (some .long)) hy rfl ?_
  intro p e s m args below meth c s₁ B hml hv
  obtain ⟨rfl, hA, hN, hP, hK, hD⟩ := hv
  have hx := B.exec
  have hb := B.bytes
  have hr := B.returns
  have hts := atoms_spec (ws := Cond.code y cc mL (some .long) :: lw_g) B.pre
  have hown : s.vm.findClass y.cls = some m.cls := findClass_of_methodNamed B.named
  have hlocks := B.notSynchronized
  have hl := lv_entry av (n := mL) hlen
  rw [lg_entry_eq]
  exact body (p, e, rm, s, m, av.toArray, below, meth, c, mL, MQ below (gQl G A ws' r) av.toArray s rm.cells rm.slots A) ⟨hx, hb, hml, hown, fun w h => hts w (List.mem_cons_of_mem _ h), hK, hA, hN, rfl, rfl⟩ (fun pc lv d H locs ls hP hD hS hl => W.lret hx hb hr (fun t ht hW => ⟨⟨r, (), rfl, rfl, by rw [ht]; exact hP, va_K.moved hW.alike hK, hD⟩, hS.F ht⟩) hS.2.2 d) s.heap [] _ hP hD va_S.rf hl
theorem e_V {l : Launch} {y : MethodName} {cc : ByteArray} {mL : Nat} {rm : Room} {G : GG} {A : Nat → Prop} {ws : va_W} {av : List Value} {ws' : va_W}  (hy : plainName y.cls = true) (hlen : (lg_sl av).length ≤ mL) (body : ∀ Γ : Cx, CX G A Γ cc y.cls rm mL → (∀ (pc : Nat) (lv : List (Nat × Value)), decode cc pc = .ok (.return_, 1) → St l G A Γ rm.cells rm.slots ws' pc lv []) → St l G A Γ 0 0 ws 0 (lv_args 0 av) []) : MV l y cc mL rm G A ws av ws' := by
  refine Met.ofW (cc := cc) (maxL := mL) (ret := none) hy rfl ?_
  intro p e s m args below meth c s₁ B hml hv
  obtain ⟨rfl, hA, hN, hP, hK, hD⟩ := hv
  have hx := B.exec
  have hb := B.bytes
  have hr := B.returns
  have hts := atoms_spec (ws := Cond.code y cc mL none :: lw_g) B.pre
  have hown : s.vm.findClass y.cls = some m.cls := findClass_of_methodNamed B.named
  have hlocks := B.notSynchronized
  have hl := lv_entry av (n := mL) hlen
  rw [lg_entry_eq]
  exact body (p, e, rm, s, m, av.toArray, below, meth, c, mL, MQ below (gQv G A ws') av.toArray s rm.cells rm.slots A) ⟨hx, hb, hml, hown, fun w h => hts w (List.mem_cons_of_mem _ h), hK, hA, hN, rfl, rfl⟩ (fun pc lv d H locs ls hP hD hS hl => W.vret hx hb hr (fun t ht hW => ⟨⟨(), rfl, trivial, by rw [ht]; exact hP, va_K.moved hW.alike hK, hD⟩, hS.F ht⟩) hS.2.2 d) s.heap [] _ hP hD va_S.rf hl
theorem e_R {l : Launch} {y : MethodName} {cc : ByteArray} {mL : Nat} {rm : Room} {G : GG} {A : Nat → Prop} {ws : va_W} {av : List Value} {ws' : va_W} {rt : FieldType} {r : Nat} (hrt : (∃ n, rt = .object n) ∨ ∃ t, rt = .array t) (hy : plainName y.cls = true) (hlen : (lg_sl av).length ≤ mL) (body : ∀ Γ : Cx, CX G A Γ cc y.cls rm mL → (∀ (pc : Nat) (lv : List (Nat × Value)), decode cc pc = .ok (.areturn, 1) → St l G A Γ rm.cells rm.slots ws' pc lv [.ref r]) → St l G A Γ 0 0 ws 0 (lv_args 0 av) []) : MR l y cc mL rt rm G A ws av r ws' := by
  refine Met.ofW (cc := cc) (maxL := mL) (ret := (some rt)) hy rfl ?_
  intro p e s m args below meth c s₁ B hml hv
  obtain ⟨rfl, hA, hN, hP, hK, hD⟩ := hv
  have hx := B.exec
  have hb := B.bytes
  have hr := B.returns
  have hts := atoms_spec (ws := Cond.code y cc mL (some rt) :: lw_g) B.pre
  have hown : s.vm.findClass y.cls = some m.cls := findClass_of_methodNamed B.named
  have hlocks := B.notSynchronized
  have hl := lv_entry av (n := mL) hlen
  rw [lg_entry_eq]
  exact body (p, e, rm, s, m, av.toArray, below, meth, c, mL, MQ below (gQr G A ws' r) av.toArray s rm.cells rm.slots A) ⟨hx, hb, hml, hown, fun w h => hts w (List.mem_cons_of_mem _ h), hK, hA, hN, rfl, rfl⟩ (fun pc lv d H locs ls hP hD hS hl => W.aret hx hb hr hrt (Or.inr ⟨r, rfl⟩) (fun t ht hW => ⟨⟨(), r, rfl, trivial, rfl, by rw [ht]; exact hP, va_K.moved hW.alike hK, hD⟩, hS.F ht⟩) hS.2.2 d) s.heap [] _ hP hD va_S.rf hl
end
section
theorem zz_last : True := trivial
end

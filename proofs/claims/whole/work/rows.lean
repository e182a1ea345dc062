section
-- ===== PART A: goes FIRST, ahead of the names: the tables' words, and 'selects' of the private methods out of them =====
/-- a private method of a class that the tables say can be made, by its rows of tables_1 -/
def lw_okq (q : MethodName × Nat) : Prop := (q.1.cls ≠ "java/lang/invoke/MethodHandle" ∧ q.1.cls ≠ "java/lang/invoke/VarHandle") ∧ Cond.instantiable q.1.cls q.2 ∈ tables_1 ∧ Cond.privateMethod q.1 ∈ tables_1 ∧ Cond.instanceMethod q.1 ∈ tables_1
theorem lw_p0 : lw_okq (⟨"HeapFile$Bytes", "empty", "()V"⟩, 2) := ⟨⟨by decide +kernel, by decide +kernel⟩, List.mem_of_getElem? (i := 59) (by decide +kernel), List.mem_of_getElem? (i := 138) (by decide +kernel), List.mem_of_getElem? (i := 139) (by decide +kernel)⟩
theorem lw_p1 : lw_okq (⟨"HeapFile", "saveState", "()V"⟩, 8) := ⟨⟨by decide +kernel, by decide +kernel⟩, List.mem_of_getElem? (i := 16) (by decide +kernel), List.mem_of_getElem? (i := 146) (by decide +kernel), List.mem_of_getElem? (i := 147) (by decide +kernel)⟩
theorem lw_p2 : lw_okq (⟨"HeapFile", "discardOldest", "()V"⟩, 8) := ⟨⟨by decide +kernel, by decide +kernel⟩, List.mem_of_getElem? (i := 16) (by decide +kernel), List.mem_of_getElem? (i := 150) (by decide +kernel), List.mem_of_getElem? (i := 151) (by decide +kernel)⟩
theorem lw_p3 : lw_okq (⟨"HeapFile$State", "copyFrom", "(LHeapFile$State;)V"⟩, 5) := ⟨⟨by decide +kernel, by decide +kernel⟩, List.mem_of_getElem? (i := 30) (by decide +kernel), List.mem_of_getElem? (i := 154) (by decide +kernel), List.mem_of_getElem? (i := 155) (by decide +kernel)⟩
theorem lw_p4 : lw_okq (⟨"HeapFile", "bringAllHome", "()I"⟩, 8) := ⟨⟨by decide +kernel, by decide +kernel⟩, List.mem_of_getElem? (i := 16) (by decide +kernel), List.mem_of_getElem? (i := 164) (by decide +kernel), List.mem_of_getElem? (i := 165) (by decide +kernel)⟩
theorem lw_p5 : lw_okq (⟨"HeapFile$State", "slotCount", "(I)I"⟩, 5) := ⟨⟨by decide +kernel, by decide +kernel⟩, List.mem_of_getElem? (i := 30) (by decide +kernel), List.mem_of_getElem? (i := 168) (by decide +kernel), List.mem_of_getElem? (i := 169) (by decide +kernel)⟩
theorem lw_p6 : lw_okq (⟨"HeapFile", "mayReturn", "(I)Z"⟩, 8) := ⟨⟨by decide +kernel, by decide +kernel⟩, List.mem_of_getElem? (i := 16) (by decide +kernel), List.mem_of_getElem? (i := 175) (by decide +kernel), List.mem_of_getElem? (i := 176) (by decide +kernel)⟩
theorem lw_p7 : lw_okq (⟨"HeapFile$State", "sizeOf", "(II)I"⟩, 5) := ⟨⟨by decide +kernel, by decide +kernel⟩, List.mem_of_getElem? (i := 30) (by decide +kernel), List.mem_of_getElem? (i := 189) (by decide +kernel), List.mem_of_getElem? (i := 190) (by decide +kernel)⟩
theorem lw_p8 : lw_okq (⟨"HeapFile$State", "recordByte", "(III)I"⟩, 5) := ⟨⟨by decide +kernel, by decide +kernel⟩, List.mem_of_getElem? (i := 30) (by decide +kernel), List.mem_of_getElem? (i := 193) (by decide +kernel), List.mem_of_getElem? (i := 194) (by decide +kernel)⟩
theorem lw_p9 : lw_okq (⟨"HeapFile$State", "offsetOf", "(II)I"⟩, 5) := ⟨⟨by decide +kernel, by decide +kernel⟩, List.mem_of_getElem? (i := 30) (by decide +kernel), List.mem_of_getElem? (i := 197) (by decide +kernel), List.mem_of_getElem? (i := 198) (by decide +kernel)⟩
theorem lw_p10 : lw_okq (⟨"HeapFile$State", "byteAt", "(II)I"⟩, 5) := ⟨⟨by decide +kernel, by decide +kernel⟩, List.mem_of_getElem? (i := 30) (by decide +kernel), List.mem_of_getElem? (i := 201) (by decide +kernel), List.mem_of_getElem? (i := 202) (by decide +kernel)⟩
theorem lw_p11 : lw_okq (⟨"HeapFile", "targetAt", "(I)I"⟩, 8) := ⟨⟨by decide +kernel, by decide +kernel⟩, List.mem_of_getElem? (i := 16) (by decide +kernel), List.mem_of_getElem? (i := 205) (by decide +kernel), List.mem_of_getElem? (i := 206) (by decide +kernel)⟩
theorem lw_p12 : lw_okq (⟨"HeapFile", "lengthAt", "(I)I"⟩, 8) := ⟨⟨by decide +kernel, by decide +kernel⟩, List.mem_of_getElem? (i := 16) (by decide +kernel), List.mem_of_getElem? (i := 209) (by decide +kernel), List.mem_of_getElem? (i := 210) (by decide +kernel)⟩
theorem lw_p13 : lw_okq (⟨"HeapFile", "sizeAt", "(I)I"⟩, 8) := ⟨⟨by decide +kernel, by decide +kernel⟩, List.mem_of_getElem? (i := 16) (by decide +kernel), List.mem_of_getElem? (i := 213) (by decide +kernel), List.mem_of_getElem? (i := 214) (by decide +kernel)⟩
theorem lw_p14 : lw_okq (⟨"HeapFile", "roomToReplace", "(I)I"⟩, 8) := ⟨⟨by decide +kernel, by decide +kernel⟩, List.mem_of_getElem? (i := 16) (by decide +kernel), List.mem_of_getElem? (i := 221) (by decide +kernel), List.mem_of_getElem? (i := 222) (by decide +kernel)⟩
theorem lw_p15 : lw_okq (⟨"HeapFile$Pages", "freeBytes", "(I)I"⟩, 2) := ⟨⟨by decide +kernel, by decide +kernel⟩, List.mem_of_getElem? (i := 24) (by decide +kernel), List.mem_of_getElem? (i := 225) (by decide +kernel), List.mem_of_getElem? (i := 226) (by decide +kernel)⟩
def lw_privs_1 : List (MethodName × Nat) := [(⟨"HeapFile$Bytes", "empty", "()V"⟩, 2), (⟨"HeapFile", "saveState", "()V"⟩, 8), (⟨"HeapFile", "discardOldest", "()V"⟩, 8), (⟨"HeapFile$State", "copyFrom", "(LHeapFile$State;)V"⟩, 5), (⟨"HeapFile", "bringAllHome", "()I"⟩, 8), (⟨"HeapFile$State", "slotCount", "(I)I"⟩, 5), (⟨"HeapFile", "mayReturn", "(I)Z"⟩, 8), (⟨"HeapFile$State", "sizeOf", "(II)I"⟩, 5), (⟨"HeapFile$State", "recordByte", "(III)I"⟩, 5), (⟨"HeapFile$State", "offsetOf", "(II)I"⟩, 5), (⟨"HeapFile$State", "byteAt", "(II)I"⟩, 5), (⟨"HeapFile", "targetAt", "(I)I"⟩, 8), (⟨"HeapFile", "lengthAt", "(I)I"⟩, 8), (⟨"HeapFile", "sizeAt", "(I)I"⟩, 8), (⟨"HeapFile", "roomToReplace", "(I)I"⟩, 8), (⟨"HeapFile$Pages", "freeBytes", "(I)I"⟩, 2)]
theorem lw_r1 : ∀ q ∈ lw_privs_1, lw_okq q := List.forall_mem_cons.mpr ⟨lw_p0, List.forall_mem_cons.mpr ⟨lw_p1, List.forall_mem_cons.mpr ⟨lw_p2, List.forall_mem_cons.mpr ⟨lw_p3, List.forall_mem_cons.mpr ⟨lw_p4, List.forall_mem_cons.mpr ⟨lw_p5, List.forall_mem_cons.mpr ⟨lw_p6, List.forall_mem_cons.mpr ⟨lw_p7, List.forall_mem_cons.mpr ⟨lw_p8, List.forall_mem_cons.mpr ⟨lw_p9, List.forall_mem_cons.mpr ⟨lw_p10, List.forall_mem_cons.mpr ⟨lw_p11, List.forall_mem_cons.mpr ⟨lw_p12, List.forall_mem_cons.mpr ⟨lw_p13, List.forall_mem_cons.mpr ⟨lw_p14, List.forall_mem_cons.mpr ⟨lw_p15, fun _ h => absurd h List.not_mem_nil⟩⟩⟩⟩⟩⟩⟩⟩⟩⟩⟩⟩⟩⟩⟩⟩
theorem lw_p16 : lw_okq (⟨"HeapFile", "takeContentOf", "(I)V"⟩, 8) := ⟨⟨by decide +kernel, by decide +kernel⟩, List.mem_of_getElem? (i := 16) (by decide +kernel), List.mem_of_getElem? (i := 234) (by decide +kernel), List.mem_of_getElem? (i := 235) (by decide +kernel)⟩
theorem lw_p17 : lw_okq (⟨"HeapFile", "rowByteAt", "(II)I"⟩, 8) := ⟨⟨by decide +kernel, by decide +kernel⟩, List.mem_of_getElem? (i := 16) (by decide +kernel), List.mem_of_getElem? (i := 238) (by decide +kernel), List.mem_of_getElem? (i := 239) (by decide +kernel)⟩
theorem lw_p18 : lw_okq (⟨"HeapFile$Bytes", "add", "(I)V"⟩, 2) := ⟨⟨by decide +kernel, by decide +kernel⟩, List.mem_of_getElem? (i := 59) (by decide +kernel), List.mem_of_getElem? (i := 242) (by decide +kernel), List.mem_of_getElem? (i := 243) (by decide +kernel)⟩
theorem lw_p19 : lw_okq (⟨"HeapFile", "storeAtHome", "(II)V"⟩, 8) := ⟨⟨by decide +kernel, by decide +kernel⟩, List.mem_of_getElem? (i := 16) (by decide +kernel), List.mem_of_getElem? (i := 246) (by decide +kernel), List.mem_of_getElem? (i := 247) (by decide +kernel)⟩
theorem lw_p20 : lw_okq (⟨"HeapFile$Pages", "removeRecord", "(I)V"⟩, 2) := ⟨⟨by decide +kernel, by decide +kernel⟩, List.mem_of_getElem? (i := 24) (by decide +kernel), List.mem_of_getElem? (i := 250) (by decide +kernel), List.mem_of_getElem? (i := 251) (by decide +kernel)⟩
theorem lw_p21 : lw_okq (⟨"HeapFile$Pages", "eraseRecord", "(II)V"⟩, 2) := ⟨⟨by decide +kernel, by decide +kernel⟩, List.mem_of_getElem? (i := 24) (by decide +kernel), List.mem_of_getElem? (i := 256) (by decide +kernel), List.mem_of_getElem? (i := 257) (by decide +kernel)⟩
theorem lw_p22 : lw_okq (⟨"HeapFile$State", "setByte", "(III)V"⟩, 5) := ⟨⟨by decide +kernel, by decide +kernel⟩, List.mem_of_getElem? (i := 30) (by decide +kernel), List.mem_of_getElem? (i := 261) (by decide +kernel), List.mem_of_getElem? (i := 262) (by decide +kernel)⟩
theorem lw_p23 : lw_okq (⟨"HeapFile", "writeHomeRecord", "()V"⟩, 8) := ⟨⟨by decide +kernel, by decide +kernel⟩, List.mem_of_getElem? (i := 16) (by decide +kernel), List.mem_of_getElem? (i := 266) (by decide +kernel), List.mem_of_getElem? (i := 267) (by decide +kernel)⟩
theorem lw_p24 : lw_okq (⟨"HeapFile$Bytes", "addAll", "(LHeapFile$Bytes;)V"⟩, 2) := ⟨⟨by decide +kernel, by decide +kernel⟩, List.mem_of_getElem? (i := 59) (by decide +kernel), List.mem_of_getElem? (i := 270) (by decide +kernel), List.mem_of_getElem? (i := 271) (by decide +kernel)⟩
theorem lw_p25 : lw_okq (⟨"HeapFile$Bytes", "at", "(I)I"⟩, 2) := ⟨⟨by decide +kernel, by decide +kernel⟩, List.mem_of_getElem? (i := 59) (by decide +kernel), List.mem_of_getElem? (i := 274) (by decide +kernel), List.mem_of_getElem? (i := 275) (by decide +kernel)⟩
theorem lw_p26 : lw_okq (⟨"HeapFile$Pages", "putRecord", "(ILHeapFile$Bytes;)V"⟩, 2) := ⟨⟨by decide +kernel, by decide +kernel⟩, List.mem_of_getElem? (i := 24) (by decide +kernel), List.mem_of_getElem? (i := 279) (by decide +kernel), List.mem_of_getElem? (i := 280) (by decide +kernel)⟩
theorem lw_p27 : lw_okq (⟨"HeapFile$Pages", "gapWith", "(II)I"⟩, 2) := ⟨⟨by decide +kernel, by decide +kernel⟩, List.mem_of_getElem? (i := 24) (by decide +kernel), List.mem_of_getElem? (i := 284) (by decide +kernel), List.mem_of_getElem? (i := 285) (by decide +kernel)⟩
theorem lw_p28 : lw_okq (⟨"HeapFile$Pages", "compactPage", "(I)I"⟩, 2) := ⟨⟨by decide +kernel, by decide +kernel⟩, List.mem_of_getElem? (i := 24) (by decide +kernel), List.mem_of_getElem? (i := 289) (by decide +kernel), List.mem_of_getElem? (i := 290) (by decide +kernel)⟩
theorem lw_p29 : lw_okq (⟨"HeapFile", "countKind", "(I)I"⟩, 8) := ⟨⟨by decide +kernel, by decide +kernel⟩, List.mem_of_getElem? (i := 16) (by decide +kernel), List.mem_of_getElem? (i := 300) (by decide +kernel), List.mem_of_getElem? (i := 301) (by decide +kernel)⟩
theorem lw_p30 : lw_okq (⟨"HeapFile$Pages", "sizeOfRecords", "(I)I"⟩, 2) := ⟨⟨by decide +kernel, by decide +kernel⟩, List.mem_of_getElem? (i := 24) (by decide +kernel), List.mem_of_getElem? (i := 342) (by decide +kernel), List.mem_of_getElem? (i := 343) (by decide +kernel)⟩
theorem lw_p31 : lw_okq (⟨"HeapFile$OrderReader", "restart", "()V"⟩, 4) := ⟨⟨by decide +kernel, by decide +kernel⟩, List.mem_of_getElem? (i := 87) (by decide +kernel), List.mem_of_getElem? (i := 351) (by decide +kernel), List.mem_of_getElem? (i := 352) (by decide +kernel)⟩
def lw_privs_2 : List (MethodName × Nat) := [(⟨"HeapFile", "takeContentOf", "(I)V"⟩, 8), (⟨"HeapFile", "rowByteAt", "(II)I"⟩, 8), (⟨"HeapFile$Bytes", "add", "(I)V"⟩, 2), (⟨"HeapFile", "storeAtHome", "(II)V"⟩, 8), (⟨"HeapFile$Pages", "removeRecord", "(I)V"⟩, 2), (⟨"HeapFile$Pages", "eraseRecord", "(II)V"⟩, 2), (⟨"HeapFile$State", "setByte", "(III)V"⟩, 5), (⟨"HeapFile", "writeHomeRecord", "()V"⟩, 8), (⟨"HeapFile$Bytes", "addAll", "(LHeapFile$Bytes;)V"⟩, 2), (⟨"HeapFile$Bytes", "at", "(I)I"⟩, 2), (⟨"HeapFile$Pages", "putRecord", "(ILHeapFile$Bytes;)V"⟩, 2), (⟨"HeapFile$Pages", "gapWith", "(II)I"⟩, 2), (⟨"HeapFile$Pages", "compactPage", "(I)I"⟩, 2), (⟨"HeapFile", "countKind", "(I)I"⟩, 8), (⟨"HeapFile$Pages", "sizeOfRecords", "(I)I"⟩, 2), (⟨"HeapFile$OrderReader", "restart", "()V"⟩, 4)]
theorem lw_r2 : ∀ q ∈ lw_privs_2, lw_okq q := List.forall_mem_cons.mpr ⟨lw_p16, List.forall_mem_cons.mpr ⟨lw_p17, List.forall_mem_cons.mpr ⟨lw_p18, List.forall_mem_cons.mpr ⟨lw_p19, List.forall_mem_cons.mpr ⟨lw_p20, List.forall_mem_cons.mpr ⟨lw_p21, List.forall_mem_cons.mpr ⟨lw_p22, List.forall_mem_cons.mpr ⟨lw_p23, List.forall_mem_cons.mpr ⟨lw_p24, List.forall_mem_cons.mpr ⟨lw_p25, List.forall_mem_cons.mpr ⟨lw_p26, List.forall_mem_cons.mpr ⟨lw_p27, List.forall_mem_cons.mpr ⟨lw_p28, List.forall_mem_cons.mpr ⟨lw_p29, List.forall_mem_cons.mpr ⟨lw_p30, List.forall_mem_cons.mpr ⟨lw_p31, fun _ h => absurd h List.not_mem_nil⟩⟩⟩⟩⟩⟩⟩⟩⟩⟩⟩⟩⟩⟩⟩⟩
theorem lw_p32 : lw_okq (⟨"HeapFile$OrderReader", "enter", "(I)Z"⟩, 4) := ⟨⟨by decide +kernel, by decide +kernel⟩, List.mem_of_getElem? (i := 87) (by decide +kernel), List.mem_of_getElem? (i := 355) (by decide +kernel), List.mem_of_getElem? (i := 356) (by decide +kernel)⟩
theorem lw_p33 : lw_okq (⟨"HeapFile$OrderReader", "accepts", "(I)Z"⟩, 4) := ⟨⟨by decide +kernel, by decide +kernel⟩, List.mem_of_getElem? (i := 87) (by decide +kernel), List.mem_of_getElem? (i := 360) (by decide +kernel), List.mem_of_getElem? (i := 361) (by decide +kernel)⟩
theorem lw_p34 : lw_okq (⟨"HeapFile$OrderReader", "mayEnd", "()Z"⟩, 4) := ⟨⟨by decide +kernel, by decide +kernel⟩, List.mem_of_getElem? (i := 87) (by decide +kernel), List.mem_of_getElem? (i := 364) (by decide +kernel), List.mem_of_getElem? (i := 365) (by decide +kernel)⟩
theorem lw_p35 : lw_okq (⟨"HeapFile$OrderReader", "acceptsFirst", "(I)Z"⟩, 4) := ⟨⟨by decide +kernel, by decide +kernel⟩, List.mem_of_getElem? (i := 87) (by decide +kernel), List.mem_of_getElem? (i := 368) (by decide +kernel), List.mem_of_getElem? (i := 369) (by decide +kernel)⟩
theorem lw_p36 : lw_okq (⟨"HeapFile$OrderReader", "acceptsLetter", "(I)Z"⟩, 4) := ⟨⟨by decide +kernel, by decide +kernel⟩, List.mem_of_getElem? (i := 87) (by decide +kernel), List.mem_of_getElem? (i := 372) (by decide +kernel), List.mem_of_getElem? (i := 373) (by decide +kernel)⟩
theorem lw_p37 : lw_okq (⟨"HeapFile$OrderReader", "acceptsDigit", "(I)Z"⟩, 4) := ⟨⟨by decide +kernel, by decide +kernel⟩, List.mem_of_getElem? (i := 87) (by decide +kernel), List.mem_of_getElem? (i := 376) (by decide +kernel), List.mem_of_getElem? (i := 377) (by decide +kernel)⟩
theorem lw_p38 : lw_okq (⟨"HeapFile", "appendSeveral", "(II)I"⟩, 8) := ⟨⟨by decide +kernel, by decide +kernel⟩, List.mem_of_getElem? (i := 16) (by decide +kernel), List.mem_of_getElem? (i := 408) (by decide +kernel), List.mem_of_getElem? (i := 409) (by decide +kernel)⟩
theorem lw_p39 : lw_okq (⟨"java/lang/Throwable", "fillInStackTrace", "(I)Ljava/lang/Throwable;"⟩, 6) := ⟨⟨by decide +kernel, by decide +kernel⟩, List.mem_of_getElem? (i := 450) (by decide +kernel), List.mem_of_getElem? (i := 448) (by decide +kernel), List.mem_of_getElem? (i := 449) (by decide +kernel)⟩
theorem lw_p40 : lw_okq (⟨"HeapFile$Pages", "findPage", "(III)I"⟩, 2) := ⟨⟨by decide +kernel, by decide +kernel⟩, List.mem_of_getElem? (i := 24) (by decide +kernel), List.mem_of_getElem? (i := 511) (by decide +kernel), List.mem_of_getElem? (i := 512) (by decide +kernel)⟩
theorem lw_p41 : lw_okq (⟨"HeapFile$Pages", "hasRoom", "(II)Z"⟩, 2) := ⟨⟨by decide +kernel, by decide +kernel⟩, List.mem_of_getElem? (i := 24) (by decide +kernel), List.mem_of_getElem? (i := 515) (by decide +kernel), List.mem_of_getElem? (i := 516) (by decide +kernel)⟩
theorem lw_p42 : lw_okq (⟨"HeapFile$Pages", "slotToUse", "(I)I"⟩, 2) := ⟨⟨by decide +kernel, by decide +kernel⟩, List.mem_of_getElem? (i := 24) (by decide +kernel), List.mem_of_getElem? (i := 519) (by decide +kernel), List.mem_of_getElem? (i := 520) (by decide +kernel)⟩
theorem lw_p43 : lw_okq (⟨"HeapFile$Bytes", "takePart", "(LHeapFile$Bytes;II)V"⟩, 2) := ⟨⟨by decide +kernel, by decide +kernel⟩, List.mem_of_getElem? (i := 59) (by decide +kernel), List.mem_of_getElem? (i := 524) (by decide +kernel), List.mem_of_getElem? (i := 525) (by decide +kernel)⟩
theorem lw_p44 : lw_okq (⟨"HeapFile", "insertContent", "(I)I"⟩, 8) := ⟨⟨by decide +kernel, by decide +kernel⟩, List.mem_of_getElem? (i := 16) (by decide +kernel), List.mem_of_getElem? (i := 529) (by decide +kernel), List.mem_of_getElem? (i := 530) (by decide +kernel)⟩
theorem lw_p45 : lw_okq (⟨"HeapFile$Pages", "openIfNew", "(I)V"⟩, 2) := ⟨⟨by decide +kernel, by decide +kernel⟩, List.mem_of_getElem? (i := 24) (by decide +kernel), List.mem_of_getElem? (i := 533) (by decide +kernel), List.mem_of_getElem? (i := 534) (by decide +kernel)⟩
theorem lw_p46 : lw_okq (⟨"HeapFile", "requireRow", "(I)V"⟩, 8) := ⟨⟨by decide +kernel, by decide +kernel⟩, List.mem_of_getElem? (i := 16) (by decide +kernel), List.mem_of_getElem? (i := 546) (by decide +kernel), List.mem_of_getElem? (i := 547) (by decide +kernel)⟩
theorem lw_p47 : lw_okq (⟨"HeapFile", "wayToChange", "(II)I"⟩, 8) := ⟨⟨by decide +kernel, by decide +kernel⟩, List.mem_of_getElem? (i := 16) (by decide +kernel), List.mem_of_getElem? (i := 567) (by decide +kernel), List.mem_of_getElem? (i := 568) (by decide +kernel)⟩
def lw_privs_3 : List (MethodName × Nat) := [(⟨"HeapFile$OrderReader", "enter", "(I)Z"⟩, 4), (⟨"HeapFile$OrderReader", "accepts", "(I)Z"⟩, 4), (⟨"HeapFile$OrderReader", "mayEnd", "()Z"⟩, 4), (⟨"HeapFile$OrderReader", "acceptsFirst", "(I)Z"⟩, 4), (⟨"HeapFile$OrderReader", "acceptsLetter", "(I)Z"⟩, 4), (⟨"HeapFile$OrderReader", "acceptsDigit", "(I)Z"⟩, 4), (⟨"HeapFile", "appendSeveral", "(II)I"⟩, 8), (⟨"java/lang/Throwable", "fillInStackTrace", "(I)Ljava/lang/Throwable;"⟩, 6), (⟨"HeapFile$Pages", "findPage", "(III)I"⟩, 2), (⟨"HeapFile$Pages", "hasRoom", "(II)Z"⟩, 2), (⟨"HeapFile$Pages", "slotToUse", "(I)I"⟩, 2), (⟨"HeapFile$Bytes", "takePart", "(LHeapFile$Bytes;II)V"⟩, 2), (⟨"HeapFile", "insertContent", "(I)I"⟩, 8), (⟨"HeapFile$Pages", "openIfNew", "(I)V"⟩, 2), (⟨"HeapFile", "requireRow", "(I)V"⟩, 8), (⟨"HeapFile", "wayToChange", "(II)I"⟩, 8)]
theorem lw_r3 : ∀ q ∈ lw_privs_3, lw_okq q := List.forall_mem_cons.mpr ⟨lw_p32, List.forall_mem_cons.mpr ⟨lw_p33, List.forall_mem_cons.mpr ⟨lw_p34, List.forall_mem_cons.mpr ⟨lw_p35, List.forall_mem_cons.mpr ⟨lw_p36, List.forall_mem_cons.mpr ⟨lw_p37, List.forall_mem_cons.mpr ⟨lw_p38, List.forall_mem_cons.mpr ⟨lw_p39, List.forall_mem_cons.mpr ⟨lw_p40, List.forall_mem_cons.mpr ⟨lw_p41, List.forall_mem_cons.mpr ⟨lw_p42, List.forall_mem_cons.mpr ⟨lw_p43, List.forall_mem_cons.mpr ⟨lw_p44, List.forall_mem_cons.mpr ⟨lw_p45, List.forall_mem_cons.mpr ⟨lw_p46, List.forall_mem_cons.mpr ⟨lw_p47, fun _ h => absurd h List.not_mem_nil⟩⟩⟩⟩⟩⟩⟩⟩⟩⟩⟩⟩⟩⟩⟩⟩
theorem lw_p48 : lw_okq (⟨"HeapFile", "presentPlace", "(I)I"⟩, 8) := ⟨⟨by decide +kernel, by decide +kernel⟩, List.mem_of_getElem? (i := 16) (by decide +kernel), List.mem_of_getElem? (i := 571) (by decide +kernel), List.mem_of_getElem? (i := 572) (by decide +kernel)⟩
theorem lw_p49 : lw_okq (⟨"HeapFile", "changeRow", "(II)V"⟩, 8) := ⟨⟨by decide +kernel, by decide +kernel⟩, List.mem_of_getElem? (i := 16) (by decide +kernel), List.mem_of_getElem? (i := 579) (by decide +kernel), List.mem_of_getElem? (i := 580) (by decide +kernel)⟩
theorem lw_p50 : lw_okq (⟨"HeapFile", "writeMovedRecord", "(I)V"⟩, 8) := ⟨⟨by decide +kernel, by decide +kernel⟩, List.mem_of_getElem? (i := 16) (by decide +kernel), List.mem_of_getElem? (i := 583) (by decide +kernel), List.mem_of_getElem? (i := 584) (by decide +kernel)⟩
theorem lw_p51 : lw_okq (⟨"HeapFile", "writeHead", "(II)V"⟩, 8) := ⟨⟨by decide +kernel, by decide +kernel⟩, List.mem_of_getElem? (i := 16) (by decide +kernel), List.mem_of_getElem? (i := 587) (by decide +kernel), List.mem_of_getElem? (i := 588) (by decide +kernel)⟩
theorem lw_p52 : lw_okq (⟨"HeapFile", "leaveNote", "(III)V"⟩, 8) := ⟨⟨by decide +kernel, by decide +kernel⟩, List.mem_of_getElem? (i := 16) (by decide +kernel), List.mem_of_getElem? (i := 591) (by decide +kernel), List.mem_of_getElem? (i := 592) (by decide +kernel)⟩
theorem lw_p53 : lw_okq (⟨"HeapFile$State", "setRecordByte", "(IIII)V"⟩, 5) := ⟨⟨by decide +kernel, by decide +kernel⟩, List.mem_of_getElem? (i := 30) (by decide +kernel), List.mem_of_getElem? (i := 595) (by decide +kernel), List.mem_of_getElem? (i := 596) (by decide +kernel)⟩
theorem lw_p54 : lw_okq (⟨"HeapFile", "deleteRow", "(I)V"⟩, 8) := ⟨⟨by decide +kernel, by decide +kernel⟩, List.mem_of_getElem? (i := 16) (by decide +kernel), List.mem_of_getElem? (i := 607) (by decide +kernel), List.mem_of_getElem? (i := 608) (by decide +kernel)⟩
theorem lw_p55 : lw_okq (⟨"HeapFile", "requirePage", "(I)V"⟩, 8) := ⟨⟨by decide +kernel, by decide +kernel⟩, List.mem_of_getElem? (i := 16) (by decide +kernel), List.mem_of_getElem? (i := 618) (by decide +kernel), List.mem_of_getElem? (i := 619) (by decide +kernel)⟩
theorem lw_p56 : lw_okq (⟨"HeapFile$Pages", "recordsThatFit", "(II)I"⟩, 2) := ⟨⟨by decide +kernel, by decide +kernel⟩, List.mem_of_getElem? (i := 24) (by decide +kernel), List.mem_of_getElem? (i := 700) (by decide +kernel), List.mem_of_getElem? (i := 701) (by decide +kernel)⟩
theorem lw_p57 : lw_okq (⟨"HeapFile", "executeOrder", "(II)Z"⟩, 8) := ⟨⟨by decide +kernel, by decide +kernel⟩, List.mem_of_getElem? (i := 16) (by decide +kernel), List.mem_of_getElem? (i := 714) (by decide +kernel), List.mem_of_getElem? (i := 715) (by decide +kernel)⟩
theorem lw_p58 : lw_okq (⟨"HeapFile", "endOfNumber", "(II)I"⟩, 8) := ⟨⟨by decide +kernel, by decide +kernel⟩, List.mem_of_getElem? (i := 16) (by decide +kernel), List.mem_of_getElem? (i := 718) (by decide +kernel), List.mem_of_getElem? (i := 719) (by decide +kernel)⟩
theorem lw_p59 : lw_okq (⟨"HeapFile", "numberIn", "(II)I"⟩, 8) := ⟨⟨by decide +kernel, by decide +kernel⟩, List.mem_of_getElem? (i := 16) (by decide +kernel), List.mem_of_getElem? (i := 722) (by decide +kernel), List.mem_of_getElem? (i := 723) (by decide +kernel)⟩
theorem lw_p60 : lw_okq (⟨"HeapFileModel", "holds", "(I)Z"⟩, 12) := ⟨⟨by decide +kernel, by decide +kernel⟩, List.mem_of_getElem? (i := 734) (by decide +kernel), List.mem_of_getElem? (i := 788) (by decide +kernel), List.mem_of_getElem? (i := 789) (by decide +kernel)⟩
theorem lw_p61 : lw_okq (⟨"HeapFileModel", "pageFor", "(III)I"⟩, 12) := ⟨⟨by decide +kernel, by decide +kernel⟩, List.mem_of_getElem? (i := 734) (by decide +kernel), List.mem_of_getElem? (i := 807) (by decide +kernel), List.mem_of_getElem? (i := 808) (by decide +kernel)⟩
theorem lw_p62 : lw_okq (⟨"HeapFileModel", "hasRoom", "(II)Z"⟩, 12) := ⟨⟨by decide +kernel, by decide +kernel⟩, List.mem_of_getElem? (i := 734) (by decide +kernel), List.mem_of_getElem? (i := 811) (by decide +kernel), List.mem_of_getElem? (i := 812) (by decide +kernel)⟩
theorem lw_p63 : lw_okq (⟨"HeapFileModel", "emptySlot", "(I)I"⟩, 12) := ⟨⟨by decide +kernel, by decide +kernel⟩, List.mem_of_getElem? (i := 734) (by decide +kernel), List.mem_of_getElem? (i := 815) (by decide +kernel), List.mem_of_getElem? (i := 816) (by decide +kernel)⟩
def lw_privs_4 : List (MethodName × Nat) := [(⟨"HeapFile", "presentPlace", "(I)I"⟩, 8), (⟨"HeapFile", "changeRow", "(II)V"⟩, 8), (⟨"HeapFile", "writeMovedRecord", "(I)V"⟩, 8), (⟨"HeapFile", "writeHead", "(II)V"⟩, 8), (⟨"HeapFile", "leaveNote", "(III)V"⟩, 8), (⟨"HeapFile$State", "setRecordByte", "(IIII)V"⟩, 5), (⟨"HeapFile", "deleteRow", "(I)V"⟩, 8), (⟨"HeapFile", "requirePage", "(I)V"⟩, 8), (⟨"HeapFile$Pages", "recordsThatFit", "(II)I"⟩, 2), (⟨"HeapFile", "executeOrder", "(II)Z"⟩, 8), (⟨"HeapFile", "endOfNumber", "(II)I"⟩, 8), (⟨"HeapFile", "numberIn", "(II)I"⟩, 8), (⟨"HeapFileModel", "holds", "(I)Z"⟩, 12), (⟨"HeapFileModel", "pageFor", "(III)I"⟩, 12), (⟨"HeapFileModel", "hasRoom", "(II)Z"⟩, 12), (⟨"HeapFileModel", "emptySlot", "(I)I"⟩, 12)]
theorem lw_r4 : ∀ q ∈ lw_privs_4, lw_okq q := List.forall_mem_cons.mpr ⟨lw_p48, List.forall_mem_cons.mpr ⟨lw_p49, List.forall_mem_cons.mpr ⟨lw_p50, List.forall_mem_cons.mpr ⟨lw_p51, List.forall_mem_cons.mpr ⟨lw_p52, List.forall_mem_cons.mpr ⟨lw_p53, List.forall_mem_cons.mpr ⟨lw_p54, List.forall_mem_cons.mpr ⟨lw_p55, List.forall_mem_cons.mpr ⟨lw_p56, List.forall_mem_cons.mpr ⟨lw_p57, List.forall_mem_cons.mpr ⟨lw_p58, List.forall_mem_cons.mpr ⟨lw_p59, List.forall_mem_cons.mpr ⟨lw_p60, List.forall_mem_cons.mpr ⟨lw_p61, List.forall_mem_cons.mpr ⟨lw_p62, List.forall_mem_cons.mpr ⟨lw_p63, fun _ h => absurd h List.not_mem_nil⟩⟩⟩⟩⟩⟩⟩⟩⟩⟩⟩⟩⟩⟩⟩⟩
theorem lw_p64 : lw_okq (⟨"HeapFileModel", "of", "(II)I"⟩, 12) := ⟨⟨by decide +kernel, by decide +kernel⟩, List.mem_of_getElem? (i := 734) (by decide +kernel), List.mem_of_getElem? (i := 819) (by decide +kernel), List.mem_of_getElem? (i := 820) (by decide +kernel)⟩
theorem lw_p65 : lw_okq (⟨"HeapFileModel", "sizeOf", "(II)I"⟩, 12) := ⟨⟨by decide +kernel, by decide +kernel⟩, List.mem_of_getElem? (i := 734) (by decide +kernel), List.mem_of_getElem? (i := 823) (by decide +kernel), List.mem_of_getElem? (i := 824) (by decide +kernel)⟩
theorem lw_p66 : lw_okq (⟨"HeapFileModel", "freeOf", "(I)I"⟩, 12) := ⟨⟨by decide +kernel, by decide +kernel⟩, List.mem_of_getElem? (i := 734) (by decide +kernel), List.mem_of_getElem? (i := 827) (by decide +kernel), List.mem_of_getElem? (i := 828) (by decide +kernel)⟩
theorem lw_p67 : lw_okq (⟨"HeapFileModel", "sizes", "(I)I"⟩, 12) := ⟨⟨by decide +kernel, by decide +kernel⟩, List.mem_of_getElem? (i := 734) (by decide +kernel), List.mem_of_getElem? (i := 831) (by decide +kernel), List.mem_of_getElem? (i := 832) (by decide +kernel)⟩
theorem lw_p68 : lw_okq (⟨"HeapFileModel", "save", "()V"⟩, 12) := ⟨⟨by decide +kernel, by decide +kernel⟩, List.mem_of_getElem? (i := 734) (by decide +kernel), List.mem_of_getElem? (i := 835) (by decide +kernel), List.mem_of_getElem? (i := 836) (by decide +kernel)⟩
theorem lw_p69 : lw_okq (⟨"HeapFileModel", "copies", "(II)V"⟩, 12) := ⟨⟨by decide +kernel, by decide +kernel⟩, List.mem_of_getElem? (i := 734) (by decide +kernel), List.mem_of_getElem? (i := 839) (by decide +kernel), List.mem_of_getElem? (i := 840) (by decide +kernel)⟩
theorem lw_p70 : lw_okq (⟨"HeapFileModel", "takesBuffer", "(II)V"⟩, 12) := ⟨⟨by decide +kernel, by decide +kernel⟩, List.mem_of_getElem? (i := 734) (by decide +kernel), List.mem_of_getElem? (i := 843) (by decide +kernel), List.mem_of_getElem? (i := 844) (by decide +kernel)⟩
theorem lw_p71 : lw_okq (⟨"HeapFileModel", "inserts", "()I"⟩, 12) := ⟨⟨by decide +kernel, by decide +kernel⟩, List.mem_of_getElem? (i := 734) (by decide +kernel), List.mem_of_getElem? (i := 847) (by decide +kernel), List.mem_of_getElem? (i := 848) (by decide +kernel)⟩
theorem lw_p72 : lw_okq (⟨"HeapFileModel", "opens", "(I)V"⟩, 12) := ⟨⟨by decide +kernel, by decide +kernel⟩, List.mem_of_getElem? (i := 734) (by decide +kernel), List.mem_of_getElem? (i := 851) (by decide +kernel), List.mem_of_getElem? (i := 852) (by decide +kernel)⟩
theorem lw_p73 : lw_okq (⟨"HeapFileModel", "stores", "(II)I"⟩, 12) := ⟨⟨by decide +kernel, by decide +kernel⟩, List.mem_of_getElem? (i := 734) (by decide +kernel), List.mem_of_getElem? (i := 855) (by decide +kernel), List.mem_of_getElem? (i := 856) (by decide +kernel)⟩
theorem lw_p74 : lw_okq (⟨"HeapFileModel", "lay", "(III)V"⟩, 12) := ⟨⟨by decide +kernel, by decide +kernel⟩, List.mem_of_getElem? (i := 734) (by decide +kernel), List.mem_of_getElem? (i := 859) (by decide +kernel), List.mem_of_getElem? (i := 860) (by decide +kernel)⟩
theorem lw_p75 : lw_okq (⟨"HeapFileModel", "puts", "(III)V"⟩, 12) := ⟨⟨by decide +kernel, by decide +kernel⟩, List.mem_of_getElem? (i := 734) (by decide +kernel), List.mem_of_getElem? (i := 863) (by decide +kernel), List.mem_of_getElem? (i := 864) (by decide +kernel)⟩
theorem lw_p76 : lw_okq (⟨"HeapFileModel", "gapOf", "(I)I"⟩, 12) := ⟨⟨by decide +kernel, by decide +kernel⟩, List.mem_of_getElem? (i := 734) (by decide +kernel), List.mem_of_getElem? (i := 867) (by decide +kernel), List.mem_of_getElem? (i := 868) (by decide +kernel)⟩
theorem lw_p77 : lw_okq (⟨"HeapFileModel", "lowest", "(I)I"⟩, 12) := ⟨⟨by decide +kernel, by decide +kernel⟩, List.mem_of_getElem? (i := 734) (by decide +kernel), List.mem_of_getElem? (i := 871) (by decide +kernel), List.mem_of_getElem? (i := 872) (by decide +kernel)⟩
theorem lw_p78 : lw_okq (⟨"HeapFileModel", "compacts", "(I)I"⟩, 12) := ⟨⟨by decide +kernel, by decide +kernel⟩, List.mem_of_getElem? (i := 734) (by decide +kernel), List.mem_of_getElem? (i := 875) (by decide +kernel), List.mem_of_getElem? (i := 876) (by decide +kernel)⟩
theorem lw_p79 : lw_okq (⟨"HeapFileModel", "byteAt", "(III)I"⟩, 12) := ⟨⟨by decide +kernel, by decide +kernel⟩, List.mem_of_getElem? (i := 734) (by decide +kernel), List.mem_of_getElem? (i := 879) (by decide +kernel), List.mem_of_getElem? (i := 880) (by decide +kernel)⟩
def lw_privs_5 : List (MethodName × Nat) := [(⟨"HeapFileModel", "of", "(II)I"⟩, 12), (⟨"HeapFileModel", "sizeOf", "(II)I"⟩, 12), (⟨"HeapFileModel", "freeOf", "(I)I"⟩, 12), (⟨"HeapFileModel", "sizes", "(I)I"⟩, 12), (⟨"HeapFileModel", "save", "()V"⟩, 12), (⟨"HeapFileModel", "copies", "(II)V"⟩, 12), (⟨"HeapFileModel", "takesBuffer", "(II)V"⟩, 12), (⟨"HeapFileModel", "inserts", "()I"⟩, 12), (⟨"HeapFileModel", "opens", "(I)V"⟩, 12), (⟨"HeapFileModel", "stores", "(II)I"⟩, 12), (⟨"HeapFileModel", "lay", "(III)V"⟩, 12), (⟨"HeapFileModel", "puts", "(III)V"⟩, 12), (⟨"HeapFileModel", "gapOf", "(I)I"⟩, 12), (⟨"HeapFileModel", "lowest", "(I)I"⟩, 12), (⟨"HeapFileModel", "compacts", "(I)I"⟩, 12), (⟨"HeapFileModel", "byteAt", "(III)I"⟩, 12)]
theorem lw_r5 : ∀ q ∈ lw_privs_5, lw_okq q := List.forall_mem_cons.mpr ⟨lw_p64, List.forall_mem_cons.mpr ⟨lw_p65, List.forall_mem_cons.mpr ⟨lw_p66, List.forall_mem_cons.mpr ⟨lw_p67, List.forall_mem_cons.mpr ⟨lw_p68, List.forall_mem_cons.mpr ⟨lw_p69, List.forall_mem_cons.mpr ⟨lw_p70, List.forall_mem_cons.mpr ⟨lw_p71, List.forall_mem_cons.mpr ⟨lw_p72, List.forall_mem_cons.mpr ⟨lw_p73, List.forall_mem_cons.mpr ⟨lw_p74, List.forall_mem_cons.mpr ⟨lw_p75, List.forall_mem_cons.mpr ⟨lw_p76, List.forall_mem_cons.mpr ⟨lw_p77, List.forall_mem_cons.mpr ⟨lw_p78, List.forall_mem_cons.mpr ⟨lw_p79, fun _ h => absurd h List.not_mem_nil⟩⟩⟩⟩⟩⟩⟩⟩⟩⟩⟩⟩⟩⟩⟩⟩
theorem lw_p80 : lw_okq (⟨"HeapFileModel", "writesHome", "(II)V"⟩, 12) := ⟨⟨by decide +kernel, by decide +kernel⟩, List.mem_of_getElem? (i := 734) (by decide +kernel), List.mem_of_getElem? (i := 883) (by decide +kernel), List.mem_of_getElem? (i := 884) (by decide +kernel)⟩
theorem lw_p81 : lw_okq (⟨"HeapFileModel", "layByte", "(IIII)V"⟩, 12) := ⟨⟨by decide +kernel, by decide +kernel⟩, List.mem_of_getElem? (i := 734) (by decide +kernel), List.mem_of_getElem? (i := 887) (by decide +kernel), List.mem_of_getElem? (i := 888) (by decide +kernel)⟩
theorem lw_p82 : lw_okq (⟨"HeapFileModel", "isIdentifier", "(I)Z"⟩, 12) := ⟨⟨by decide +kernel, by decide +kernel⟩, List.mem_of_getElem? (i := 734) (by decide +kernel), List.mem_of_getElem? (i := 895) (by decide +kernel), List.mem_of_getElem? (i := 896) (by decide +kernel)⟩
theorem lw_p83 : lw_okq (⟨"HeapFileModel", "kindAt", "(I)I"⟩, 12) := ⟨⟨by decide +kernel, by decide +kernel⟩, List.mem_of_getElem? (i := 734) (by decide +kernel), List.mem_of_getElem? (i := 899) (by decide +kernel), List.mem_of_getElem? (i := 900) (by decide +kernel)⟩
theorem lw_p84 : lw_okq (⟨"HeapFileModel", "way", "(II)I"⟩, 12) := ⟨⟨by decide +kernel, by decide +kernel⟩, List.mem_of_getElem? (i := 734) (by decide +kernel), List.mem_of_getElem? (i := 903) (by decide +kernel), List.mem_of_getElem? (i := 904) (by decide +kernel)⟩
theorem lw_p85 : lw_okq (⟨"HeapFileModel", "placed", "(I)I"⟩, 12) := ⟨⟨by decide +kernel, by decide +kernel⟩, List.mem_of_getElem? (i := 734) (by decide +kernel), List.mem_of_getElem? (i := 907) (by decide +kernel), List.mem_of_getElem? (i := 908) (by decide +kernel)⟩
theorem lw_p86 : lw_okq (⟨"HeapFileModel", "canReplace", "(III)Z"⟩, 12) := ⟨⟨by decide +kernel, by decide +kernel⟩, List.mem_of_getElem? (i := 734) (by decide +kernel), List.mem_of_getElem? (i := 911) (by decide +kernel), List.mem_of_getElem? (i := 912) (by decide +kernel)⟩
theorem lw_p87 : lw_okq (⟨"HeapFileModel", "updates", "(I)I"⟩, 12) := ⟨⟨by decide +kernel, by decide +kernel⟩, List.mem_of_getElem? (i := 734) (by decide +kernel), List.mem_of_getElem? (i := 915) (by decide +kernel), List.mem_of_getElem? (i := 916) (by decide +kernel)⟩
theorem lw_p88 : lw_okq (⟨"HeapFileModel", "comesHome", "(I)V"⟩, 12) := ⟨⟨by decide +kernel, by decide +kernel⟩, List.mem_of_getElem? (i := 734) (by decide +kernel), List.mem_of_getElem? (i := 919) (by decide +kernel), List.mem_of_getElem? (i := 920) (by decide +kernel)⟩
theorem lw_p89 : lw_okq (⟨"HeapFileModel", "removes", "(II)V"⟩, 12) := ⟨⟨by decide +kernel, by decide +kernel⟩, List.mem_of_getElem? (i := 734) (by decide +kernel), List.mem_of_getElem? (i := 923) (by decide +kernel), List.mem_of_getElem? (i := 924) (by decide +kernel)⟩
theorem lw_p90 : lw_okq (⟨"HeapFileModel", "wipes", "(II)V"⟩, 12) := ⟨⟨by decide +kernel, by decide +kernel⟩, List.mem_of_getElem? (i := 734) (by decide +kernel), List.mem_of_getElem? (i := 927) (by decide +kernel), List.mem_of_getElem? (i := 928) (by decide +kernel)⟩
theorem lw_p91 : lw_okq (⟨"HeapFileModel", "replaces", "(III)V"⟩, 12) := ⟨⟨by decide +kernel, by decide +kernel⟩, List.mem_of_getElem? (i := 734) (by decide +kernel), List.mem_of_getElem? (i := 931) (by decide +kernel), List.mem_of_getElem? (i := 932) (by decide +kernel)⟩
theorem lw_p92 : lw_okq (⟨"HeapFileModel", "writesMoved", "(II)V"⟩, 12) := ⟨⟨by decide +kernel, by decide +kernel⟩, List.mem_of_getElem? (i := 734) (by decide +kernel), List.mem_of_getElem? (i := 935) (by decide +kernel), List.mem_of_getElem? (i := 936) (by decide +kernel)⟩
theorem lw_p93 : lw_okq (⟨"HeapFileModel", "writesNote", "(III)V"⟩, 12) := ⟨⟨by decide +kernel, by decide +kernel⟩, List.mem_of_getElem? (i := 734) (by decide +kernel), List.mem_of_getElem? (i := 939) (by decide +kernel), List.mem_of_getElem? (i := 940) (by decide +kernel)⟩
theorem lw_p94 : lw_okq (⟨"HeapFileModel", "goesOut", "(I)V"⟩, 12) := ⟨⟨by decide +kernel, by decide +kernel⟩, List.mem_of_getElem? (i := 734) (by decide +kernel), List.mem_of_getElem? (i := 943) (by decide +kernel), List.mem_of_getElem? (i := 944) (by decide +kernel)⟩
theorem lw_p95 : lw_okq (⟨"HeapFileModel", "deletes", "(I)I"⟩, 12) := ⟨⟨by decide +kernel, by decide +kernel⟩, List.mem_of_getElem? (i := 734) (by decide +kernel), List.mem_of_getElem? (i := 951) (by decide +kernel), List.mem_of_getElem? (i := 952) (by decide +kernel)⟩
def lw_privs_6 : List (MethodName × Nat) := [(⟨"HeapFileModel", "writesHome", "(II)V"⟩, 12), (⟨"HeapFileModel", "layByte", "(IIII)V"⟩, 12), (⟨"HeapFileModel", "isIdentifier", "(I)Z"⟩, 12), (⟨"HeapFileModel", "kindAt", "(I)I"⟩, 12), (⟨"HeapFileModel", "way", "(II)I"⟩, 12), (⟨"HeapFileModel", "placed", "(I)I"⟩, 12), (⟨"HeapFileModel", "canReplace", "(III)Z"⟩, 12), (⟨"HeapFileModel", "updates", "(I)I"⟩, 12), (⟨"HeapFileModel", "comesHome", "(I)V"⟩, 12), (⟨"HeapFileModel", "removes", "(II)V"⟩, 12), (⟨"HeapFileModel", "wipes", "(II)V"⟩, 12), (⟨"HeapFileModel", "replaces", "(III)V"⟩, 12), (⟨"HeapFileModel", "writesMoved", "(II)V"⟩, 12), (⟨"HeapFileModel", "writesNote", "(III)V"⟩, 12), (⟨"HeapFileModel", "goesOut", "(I)V"⟩, 12), (⟨"HeapFileModel", "deletes", "(I)I"⟩, 12)]
theorem lw_r6 : ∀ q ∈ lw_privs_6, lw_okq q := List.forall_mem_cons.mpr ⟨lw_p80, List.forall_mem_cons.mpr ⟨lw_p81, List.forall_mem_cons.mpr ⟨lw_p82, List.forall_mem_cons.mpr ⟨lw_p83, List.forall_mem_cons.mpr ⟨lw_p84, List.forall_mem_cons.mpr ⟨lw_p85, List.forall_mem_cons.mpr ⟨lw_p86, List.forall_mem_cons.mpr ⟨lw_p87, List.forall_mem_cons.mpr ⟨lw_p88, List.forall_mem_cons.mpr ⟨lw_p89, List.forall_mem_cons.mpr ⟨lw_p90, List.forall_mem_cons.mpr ⟨lw_p91, List.forall_mem_cons.mpr ⟨lw_p92, List.forall_mem_cons.mpr ⟨lw_p93, List.forall_mem_cons.mpr ⟨lw_p94, List.forall_mem_cons.mpr ⟨lw_p95, fun _ h => absurd h List.not_mem_nil⟩⟩⟩⟩⟩⟩⟩⟩⟩⟩⟩⟩⟩⟩⟩⟩
theorem lw_p96 : lw_okq (⟨"HeapFileModel", "lengthOf", "(I)I"⟩, 12) := ⟨⟨by decide +kernel, by decide +kernel⟩, List.mem_of_getElem? (i := 734) (by decide +kernel), List.mem_of_getElem? (i := 955) (by decide +kernel), List.mem_of_getElem? (i := 956) (by decide +kernel)⟩
theorem lw_p97 : lw_okq (⟨"HeapFileModel", "returnsAll", "()I"⟩, 12) := ⟨⟨by decide +kernel, by decide +kernel⟩, List.mem_of_getElem? (i := 734) (by decide +kernel), List.mem_of_getElem? (i := 963) (by decide +kernel), List.mem_of_getElem? (i := 964) (by decide +kernel)⟩
theorem lw_p98 : lw_okq (⟨"HeapFileModel", "takesRow", "(I)V"⟩, 12) := ⟨⟨by decide +kernel, by decide +kernel⟩, List.mem_of_getElem? (i := 734) (by decide +kernel), List.mem_of_getElem? (i := 967) (by decide +kernel), List.mem_of_getElem? (i := 968) (by decide +kernel)⟩
theorem lw_p99 : lw_okq (⟨"HeapFileModel", "byteOfRow", "(II)I"⟩, 12) := ⟨⟨by decide +kernel, by decide +kernel⟩, List.mem_of_getElem? (i := 734) (by decide +kernel), List.mem_of_getElem? (i := 971) (by decide +kernel), List.mem_of_getElem? (i := 972) (by decide +kernel)⟩
theorem lw_p100 : lw_okq (⟨"HeapFileModel", "isPage", "(I)Z"⟩, 12) := ⟨⟨by decide +kernel, by decide +kernel⟩, List.mem_of_getElem? (i := 734) (by decide +kernel), List.mem_of_getElem? (i := 979) (by decide +kernel), List.mem_of_getElem? (i := 980) (by decide +kernel)⟩
theorem lw_p101 : lw_okq (⟨"HeapFileModel", "counted", "(II)I"⟩, 12) := ⟨⟨by decide +kernel, by decide +kernel⟩, List.mem_of_getElem? (i := 734) (by decide +kernel), List.mem_of_getElem? (i := 987) (by decide +kernel), List.mem_of_getElem? (i := 988) (by decide +kernel)⟩
theorem lw_p102 : lw_okq (⟨"HeapFileModel", "byteOfPage", "(II)I"⟩, 12) := ⟨⟨by decide +kernel, by decide +kernel⟩, List.mem_of_getElem? (i := 734) (by decide +kernel), List.mem_of_getElem? (i := 1023) (by decide +kernel), List.mem_of_getElem? (i := 1024) (by decide +kernel)⟩
theorem lw_p103 : lw_okq (⟨"HeapFileModel", "factor", "()D"⟩, 12) := ⟨⟨by decide +kernel, by decide +kernel⟩, List.mem_of_getElem? (i := 734) (by decide +kernel), List.mem_of_getElem? (i := 1059) (by decide +kernel), List.mem_of_getElem? (i := 1060) (by decide +kernel)⟩
theorem lw_p104 : lw_okq (⟨"HeapFileModel", "isComplete", "()Z"⟩, 12) := ⟨⟨by decide +kernel, by decide +kernel⟩, List.mem_of_getElem? (i := 734) (by decide +kernel), List.mem_of_getElem? (i := 1086) (by decide +kernel), List.mem_of_getElem? (i := 1087) (by decide +kernel)⟩
theorem lw_p105 : lw_okq (⟨"HeapFileModel", "readsOrder", "()Z"⟩, 12) := ⟨⟨by decide +kernel, by decide +kernel⟩, List.mem_of_getElem? (i := 734) (by decide +kernel), List.mem_of_getElem? (i := 1090) (by decide +kernel), List.mem_of_getElem? (i := 1091) (by decide +kernel)⟩
theorem lw_p106 : lw_okq (⟨"HeapFileModel", "sign", "()I"⟩, 12) := ⟨⟨by decide +kernel, by decide +kernel⟩, List.mem_of_getElem? (i := 734) (by decide +kernel), List.mem_of_getElem? (i := 1094) (by decide +kernel), List.mem_of_getElem? (i := 1095) (by decide +kernel)⟩
theorem lw_p107 : lw_okq (⟨"HeapFileModel", "takes", "(I)Z"⟩, 12) := ⟨⟨by decide +kernel, by decide +kernel⟩, List.mem_of_getElem? (i := 734) (by decide +kernel), List.mem_of_getElem? (i := 1098) (by decide +kernel), List.mem_of_getElem? (i := 1099) (by decide +kernel)⟩
theorem lw_p108 : lw_okq (⟨"HeapFileModel", "readsData", "()Z"⟩, 12) := ⟨⟨by decide +kernel, by decide +kernel⟩, List.mem_of_getElem? (i := 734) (by decide +kernel), List.mem_of_getElem? (i := 1102) (by decide +kernel), List.mem_of_getElem? (i := 1103) (by decide +kernel)⟩
theorem lw_p109 : lw_okq (⟨"HeapFileModel", "readsIdentifier", "()Z"⟩, 12) := ⟨⟨by decide +kernel, by decide +kernel⟩, List.mem_of_getElem? (i := 734) (by decide +kernel), List.mem_of_getElem? (i := 1106) (by decide +kernel), List.mem_of_getElem? (i := 1107) (by decide +kernel)⟩
theorem lw_p110 : lw_okq (⟨"HeapFileModel", "can", "()Z"⟩, 12) := ⟨⟨by decide +kernel, by decide +kernel⟩, List.mem_of_getElem? (i := 734) (by decide +kernel), List.mem_of_getElem? (i := 1114) (by decide +kernel), List.mem_of_getElem? (i := 1115) (by decide +kernel)⟩
theorem lw_p111 : lw_okq (⟨"HeapFileModel", "does", "()I"⟩, 12) := ⟨⟨by decide +kernel, by decide +kernel⟩, List.mem_of_getElem? (i := 734) (by decide +kernel), List.mem_of_getElem? (i := 1118) (by decide +kernel), List.mem_of_getElem? (i := 1119) (by decide +kernel)⟩
def lw_privs_7 : List (MethodName × Nat) := [(⟨"HeapFileModel", "lengthOf", "(I)I"⟩, 12), (⟨"HeapFileModel", "returnsAll", "()I"⟩, 12), (⟨"HeapFileModel", "takesRow", "(I)V"⟩, 12), (⟨"HeapFileModel", "byteOfRow", "(II)I"⟩, 12), (⟨"HeapFileModel", "isPage", "(I)Z"⟩, 12), (⟨"HeapFileModel", "counted", "(II)I"⟩, 12), (⟨"HeapFileModel", "byteOfPage", "(II)I"⟩, 12), (⟨"HeapFileModel", "factor", "()D"⟩, 12), (⟨"HeapFileModel", "isComplete", "()Z"⟩, 12), (⟨"HeapFileModel", "readsOrder", "()Z"⟩, 12), (⟨"HeapFileModel", "sign", "()I"⟩, 12), (⟨"HeapFileModel", "takes", "(I)Z"⟩, 12), (⟨"HeapFileModel", "readsData", "()Z"⟩, 12), (⟨"HeapFileModel", "readsIdentifier", "()Z"⟩, 12), (⟨"HeapFileModel", "can", "()Z"⟩, 12), (⟨"HeapFileModel", "does", "()I"⟩, 12)]
theorem lw_r7 : ∀ q ∈ lw_privs_7, lw_okq q := List.forall_mem_cons.mpr ⟨lw_p96, List.forall_mem_cons.mpr ⟨lw_p97, List.forall_mem_cons.mpr ⟨lw_p98, List.forall_mem_cons.mpr ⟨lw_p99, List.forall_mem_cons.mpr ⟨lw_p100, List.forall_mem_cons.mpr ⟨lw_p101, List.forall_mem_cons.mpr ⟨lw_p102, List.forall_mem_cons.mpr ⟨lw_p103, List.forall_mem_cons.mpr ⟨lw_p104, List.forall_mem_cons.mpr ⟨lw_p105, List.forall_mem_cons.mpr ⟨lw_p106, List.forall_mem_cons.mpr ⟨lw_p107, List.forall_mem_cons.mpr ⟨lw_p108, List.forall_mem_cons.mpr ⟨lw_p109, List.forall_mem_cons.mpr ⟨lw_p110, List.forall_mem_cons.mpr ⟨lw_p111, fun _ h => absurd h List.not_mem_nil⟩⟩⟩⟩⟩⟩⟩⟩⟩⟩⟩⟩⟩⟩⟩⟩
theorem lw_p112 : lw_okq (⟨"HeapFileModel", "mix", "(J)V"⟩, 12) := ⟨⟨by decide +kernel, by decide +kernel⟩, List.mem_of_getElem? (i := 734) (by decide +kernel), List.mem_of_getElem? (i := 1135) (by decide +kernel), List.mem_of_getElem? (i := 1136) (by decide +kernel)⟩
def lw_privs_8 : List (MethodName × Nat) := [(⟨"HeapFileModel", "mix", "(J)V"⟩, 12)]
theorem lw_r8 : ∀ q ∈ lw_privs_8, lw_okq q := List.forall_mem_cons.mpr ⟨lw_p112, fun _ h => absurd h List.not_mem_nil⟩
def lw_privs : List (MethodName × Nat) := lw_privs_1 ++ (lw_privs_2 ++ (lw_privs_3 ++ (lw_privs_4 ++ (lw_privs_5 ++ (lw_privs_6 ++ (lw_privs_7 ++ (lw_privs_8)))))))
def lw_tbl : List Cond := k2_sels lw_privs ++ tables_1
theorem lw_privs_ok : ∀ q ∈ lw_privs, lw_okq q := by
  show ∀ q ∈ lw_privs_1 ++ (lw_privs_2 ++ (lw_privs_3 ++ (lw_privs_4 ++ (lw_privs_5 ++ (lw_privs_6 ++ (lw_privs_7 ++ (lw_privs_8))))))), lw_okq q
  exact List.forall_mem_append.mpr ⟨lw_r1, List.forall_mem_append.mpr ⟨lw_r2, List.forall_mem_append.mpr ⟨lw_r3, List.forall_mem_append.mpr ⟨lw_r4, List.forall_mem_append.mpr ⟨lw_r5, List.forall_mem_append.mpr ⟨lw_r6, List.forall_mem_append.mpr ⟨lw_r7, lw_r8⟩⟩⟩⟩⟩⟩⟩
/-- the streams that the claim lets the run draw from -/
abbrev lw_cs : List Choice := [Jvm.Choice.named "NaN.bits"]
theorem lw_bits : nanBits ∈ lw_cs := by first | decide | exact List.mem_cons_self | simp [lw_cs, nanBits]
-- ===== end of PART A; then your names; then what follows =====
end
section
def RX0 : String := "HeapFile$Bytes"
def TX0 : u_T := fun k => match k with
  | 0 => ("HeapFile$Bytes", "values", "[I", true)
  | _ => ("HeapFile$Bytes", "count", "I", false)
def tyX0 : Nat → FieldType := fun k => match k with
  | 0 => .array .int
  | _ => .int
abbrev wsX00 : List Cond := u_ws RX0 TX0 2
theorem nmX0 : ∀ a, a < 2 → ∀ b, b < 2 → a ≠ b → (TX0 a).2.1 ≠ (TX0 b).2.1 := by decide +kernel
theorem tyX0_ok : ∀ k, k < 2 → parseFieldDescriptor (TX0 k).2.2.1 = some (tyX0 k) := by decide +kernel
abbrev cX0_init : ByteArray := prog_2_method_1_code
def yX0_init : MethodName := ⟨RX0, "<init>", "(I)V"⟩
abbrev cX0_at : ByteArray := prog_2_method_2_code
def yX0_at : MethodName := ⟨RX0, "at", "(I)I"⟩
abbrev cX0_add : ByteArray := prog_2_method_3_code
def yX0_add : MethodName := ⟨RX0, "add", "(I)V"⟩
abbrev cX0_addAll : ByteArray := prog_2_method_4_code
def yX0_addAll : MethodName := ⟨RX0, "addAll", "(LHeapFile$Bytes;)V"⟩
abbrev cX0_empty : ByteArray := prog_2_method_5_code
def yX0_empty : MethodName := ⟨RX0, "empty", "()V"⟩
abbrev cX0_takePart : ByteArray := prog_2_method_6_code
def yX0_takePart : MethodName := ⟨RX0, "takePart", "(LHeapFile$Bytes;II)V"⟩
def RX1 : String := "HeapFile$OrderReader"
def TX1 : u_T := fun k => match k with
  | 0 => ("HeapFile$OrderReader", "stage", "I", false)
  | 1 => ("HeapFile$OrderReader", "letters", "I", false)
  | 2 => ("HeapFile$OrderReader", "digits", "I", false)
  | _ => ("HeapFile$OrderReader", "number", "I", false)
def tyX1 : Nat → FieldType := fun k => match k with
  | 0 => .int
  | 1 => .int
  | 2 => .int
  | _ => .int
abbrev wsX10 : List Cond := u_ws RX1 TX1 4
theorem nmX1 : ∀ a, a < 4 → ∀ b, b < 4 → a ≠ b → (TX1 a).2.1 ≠ (TX1 b).2.1 := by decide +kernel
theorem tyX1_ok : ∀ k, k < 4 → parseFieldDescriptor (TX1 k).2.2.1 = some (tyX1 k) := by decide +kernel
abbrev cX1_init : ByteArray := prog_3_method_1_code
def yX1_init : MethodName := ⟨RX1, "<init>", "()V"⟩
abbrev cX1_restart : ByteArray := prog_3_method_2_code
def yX1_restart : MethodName := ⟨RX1, "restart", "()V"⟩
abbrev cX1_mayEnd : ByteArray := prog_3_method_3_code
def yX1_mayEnd : MethodName := ⟨RX1, "mayEnd", "()Z"⟩
abbrev cX1_accepts : ByteArray := prog_3_method_4_code
def yX1_accepts : MethodName := ⟨RX1, "accepts", "(I)Z"⟩
abbrev cX1_acceptsFirst : ByteArray := prog_3_method_5_code
def yX1_acceptsFirst : MethodName := ⟨RX1, "acceptsFirst", "(I)Z"⟩
abbrev cX1_acceptsLetter : ByteArray := prog_3_method_6_code
def yX1_acceptsLetter : MethodName := ⟨RX1, "acceptsLetter", "(I)Z"⟩
abbrev cX1_acceptsDigit : ByteArray := prog_3_method_7_code
def yX1_acceptsDigit : MethodName := ⟨RX1, "acceptsDigit", "(I)Z"⟩
abbrev cX1_enter : ByteArray := prog_3_method_8_code
def yX1_enter : MethodName := ⟨RX1, "enter", "(I)Z"⟩
def RX2 : String := "HeapFile$Pages"
def TX2 : u_T := fun k => match k with
  | 0 => ("HeapFile$Pages", "state", "LHeapFile$State;", true)
  | _ => ("HeapFile$Pages", "before", "LHeapFile$Bytes;", true)
def tyX2 : Nat → FieldType := fun k => match k with
  | 0 => .object "HeapFile$State"
  | _ => .object "HeapFile$Bytes"
abbrev wsX20 : List Cond := u_ws RX2 TX2 2
theorem nmX2 : ∀ a, a < 2 → ∀ b, b < 2 → a ≠ b → (TX2 a).2.1 ≠ (TX2 b).2.1 := by decide +kernel
theorem tyX2_ok : ∀ k, k < 2 → parseFieldDescriptor (TX2 k).2.2.1 = some (tyX2 k) := by decide +kernel
abbrev cX2_init : ByteArray := prog_4_method_1_code
def yX2_init : MethodName := ⟨RX2, "<init>", "()V"⟩
abbrev cX2_freeBytes : ByteArray := prog_4_method_2_code
def yX2_freeBytes : MethodName := ⟨RX2, "freeBytes", "(I)I"⟩
abbrev cX2_sizeOfRecords : ByteArray := prog_4_method_3_code
def yX2_sizeOfRecords : MethodName := ⟨RX2, "sizeOfRecords", "(I)I"⟩
abbrev cX2_gapWith : ByteArray := prog_4_method_4_code
def yX2_gapWith : MethodName := ⟨RX2, "gapWith", "(II)I"⟩
abbrev cX2_slotToUse : ByteArray := prog_4_method_5_code
def yX2_slotToUse : MethodName := ⟨RX2, "slotToUse", "(I)I"⟩
abbrev cX2_hasRoom : ByteArray := prog_4_method_6_code
def yX2_hasRoom : MethodName := ⟨RX2, "hasRoom", "(II)Z"⟩
abbrev cX2_findPage : ByteArray := prog_4_method_7_code
def yX2_findPage : MethodName := ⟨RX2, "findPage", "(III)I"⟩
abbrev cX2_openIfNew : ByteArray := prog_4_method_8_code
def yX2_openIfNew : MethodName := ⟨RX2, "openIfNew", "(I)V"⟩
abbrev cX2_recordsThatFit : ByteArray := prog_4_method_9_code
def yX2_recordsThatFit : MethodName := ⟨RX2, "recordsThatFit", "(II)I"⟩
abbrev cX2_eraseRecord : ByteArray := prog_4_method_10_code
def yX2_eraseRecord : MethodName := ⟨RX2, "eraseRecord", "(II)V"⟩
abbrev cX2_removeRecord : ByteArray := prog_4_method_11_code
def yX2_removeRecord : MethodName := ⟨RX2, "removeRecord", "(I)V"⟩
abbrev cX2_putRecord : ByteArray := prog_4_method_12_code
def yX2_putRecord : MethodName := ⟨RX2, "putRecord", "(ILHeapFile$Bytes;)V"⟩
abbrev cX2_compactPage : ByteArray := prog_4_method_13_code
def yX2_compactPage : MethodName := ⟨RX2, "compactPage", "(I)I"⟩
def RX3 : String := "HeapFile$State"
def TX3 : u_T := fun k => match k with
  | 0 => ("HeapFile$State", "bytes", "[I", true)
  | 1 => ("HeapFile$State", "pageCount", "I", false)
  | 2 => ("HeapFile$State", "moveCount", "I", false)
  | 3 => ("HeapFile$State", "returnCount", "I", false)
  | _ => ("HeapFile$State", "compactionCount", "I", false)
def tyX3 : Nat → FieldType := fun k => match k with
  | 0 => .array .int
  | 1 => .int
  | 2 => .int
  | 3 => .int
  | _ => .int
abbrev wsX30 : List Cond := u_ws RX3 TX3 5
theorem nmX3 : ∀ a, a < 5 → ∀ b, b < 5 → a ≠ b → (TX3 a).2.1 ≠ (TX3 b).2.1 := by decide +kernel
theorem tyX3_ok : ∀ k, k < 5 → parseFieldDescriptor (TX3 k).2.2.1 = some (tyX3 k) := by decide +kernel
abbrev cX3_init : ByteArray := prog_5_method_1_code
def yX3_init : MethodName := ⟨RX3, "<init>", "()V"⟩
abbrev cX3_byteAt : ByteArray := prog_5_method_2_code
def yX3_byteAt : MethodName := ⟨RX3, "byteAt", "(II)I"⟩
abbrev cX3_slotCount : ByteArray := prog_5_method_3_code
def yX3_slotCount : MethodName := ⟨RX3, "slotCount", "(I)I"⟩
abbrev cX3_offsetOf : ByteArray := prog_5_method_4_code
def yX3_offsetOf : MethodName := ⟨RX3, "offsetOf", "(II)I"⟩
abbrev cX3_sizeOf : ByteArray := prog_5_method_5_code
def yX3_sizeOf : MethodName := ⟨RX3, "sizeOf", "(II)I"⟩
abbrev cX3_recordByte : ByteArray := prog_5_method_6_code
def yX3_recordByte : MethodName := ⟨RX3, "recordByte", "(III)I"⟩
abbrev cX3_setByte : ByteArray := prog_5_method_7_code
def yX3_setByte : MethodName := ⟨RX3, "setByte", "(III)V"⟩
abbrev cX3_setRecordByte : ByteArray := prog_5_method_8_code
def yX3_setRecordByte : MethodName := ⟨RX3, "setRecordByte", "(IIII)V"⟩
abbrev cX3_copyFrom : ByteArray := prog_5_method_9_code
def yX3_copyFrom : MethodName := ⟨RX3, "copyFrom", "(LHeapFile$State;)V"⟩
def RX4 : String := "HeapFile"
def TX4 : u_T := fun k => match k with
  | 0 => ("HeapFile", "space", "LHeapFile$Pages;", true)
  | 1 => ("HeapFile", "state", "LHeapFile$State;", true)
  | 2 => ("HeapFile", "buffer", "LHeapFile$Bytes;", true)
  | 3 => ("HeapFile", "content", "LHeapFile$Bytes;", true)
  | 4 => ("HeapFile", "record", "LHeapFile$Bytes;", true)
  | 5 => ("HeapFile", "reader", "LHeapFile$OrderReader;", true)
  | 6 => ("HeapFile", "saved", "[LHeapFile$State;", true)
  | _ => ("HeapFile", "savedCount", "I", false)
def tyX4 : Nat → FieldType := fun k => match k with
  | 0 => .object "HeapFile$Pages"
  | 1 => .object "HeapFile$State"
  | 2 => .object "HeapFile$Bytes"
  | 3 => .object "HeapFile$Bytes"
  | 4 => .object "HeapFile$Bytes"
  | 5 => .object "HeapFile$OrderReader"
  | 6 => .array (.object "HeapFile$State")
  | _ => .int
abbrev wsX40 : List Cond := u_ws RX4 TX4 8
theorem nmX4 : ∀ a, a < 8 → ∀ b, b < 8 → a ≠ b → (TX4 a).2.1 ≠ (TX4 b).2.1 := by decide +kernel
theorem tyX4_ok : ∀ k, k < 8 → parseFieldDescriptor (TX4 k).2.2.1 = some (tyX4 k) := by decide +kernel
abbrev cX4_init : ByteArray := prog_1_method_1_code
def yX4_init : MethodName := ⟨RX4, "<init>", "()V"⟩
abbrev cX4_append : ByteArray := prog_1_method_2_code
def yX4_append : MethodName := ⟨RX4, "append", "(I)I"⟩
abbrev cX4_fill : ByteArray := prog_1_method_3_code
def yX4_fill : MethodName := ⟨RX4, "fill", "(II)I"⟩
abbrev cX4_clearBuffer : ByteArray := prog_1_method_4_code
def yX4_clearBuffer : MethodName := ⟨RX4, "clearBuffer", "()I"⟩
abbrev cX4_appendSeveral : ByteArray := prog_1_method_5_code
def yX4_appendSeveral : MethodName := ⟨RX4, "appendSeveral", "(II)I"⟩
abbrev cX4_insert : ByteArray := prog_1_method_6_code
def yX4_insert : MethodName := ⟨RX4, "insert", "()I"⟩
abbrev cX4_update : ByteArray := prog_1_method_7_code
def yX4_update : MethodName := ⟨RX4, "update", "(I)I"⟩
abbrev cX4_delete : ByteArray := prog_1_method_8_code
def yX4_delete : MethodName := ⟨RX4, "delete", "(I)I"⟩
abbrev cX4_bringHome : ByteArray := prog_1_method_9_code
def yX4_bringHome : MethodName := ⟨RX4, "bringHome", "()I"⟩
abbrev cX4_compact : ByteArray := prog_1_method_10_code
def yX4_compact : MethodName := ⟨RX4, "compact", "(I)I"⟩
abbrev cX4_rows : ByteArray := prog_1_method_11_code
def yX4_rows : MethodName := ⟨RX4, "rows", "()I"⟩
abbrev cX4_isRow : ByteArray := prog_1_method_12_code
def yX4_isRow : MethodName := ⟨RX4, "isRow", "(I)Z"⟩
abbrev cX4_length : ByteArray := prog_1_method_13_code
def yX4_length : MethodName := ⟨RX4, "length", "(I)I"⟩
abbrev cX4_byteOf : ByteArray := prog_1_method_14_code
def yX4_byteOf : MethodName := ⟨RX4, "byteOf", "(II)I"⟩
abbrev cX4_placeOf : ByteArray := prog_1_method_15_code
def yX4_placeOf : MethodName := ⟨RX4, "placeOf", "(I)I"⟩
abbrev cX4_next : ByteArray := prog_1_method_16_code
def yX4_next : MethodName := ⟨RX4, "next", "(I)I"⟩
abbrev cX4_rowAt : ByteArray := prog_1_method_17_code
def yX4_rowAt : MethodName := ⟨RX4, "rowAt", "(I)I"⟩
abbrev cX4_pages : ByteArray := prog_1_method_18_code
def yX4_pages : MethodName := ⟨RX4, "pages", "()I"⟩
abbrev cX4_pageByte : ByteArray := prog_1_method_19_code
def yX4_pageByte : MethodName := ⟨RX4, "pageByte", "(II)I"⟩
abbrev cX4_free : ByteArray := prog_1_method_20_code
def yX4_free : MethodName := ⟨RX4, "free", "(I)I"⟩
abbrev cX4_gap : ByteArray := prog_1_method_21_code
def yX4_gap : MethodName := ⟨RX4, "gap", "(I)I"⟩
abbrev cX4_kind : ByteArray := prog_1_method_22_code
def yX4_kind : MethodName := ⟨RX4, "kind", "(I)I"⟩
abbrev cX4_notes : ByteArray := prog_1_method_23_code
def yX4_notes : MethodName := ⟨RX4, "notes", "()I"⟩
abbrev cX4_moves : ByteArray := prog_1_method_24_code
def yX4_moves : MethodName := ⟨RX4, "moves", "()I"⟩
abbrev cX4_returns : ByteArray := prog_1_method_25_code
def yX4_returns : MethodName := ⟨RX4, "returns", "()I"⟩
abbrev cX4_compactions : ByteArray := prog_1_method_26_code
def yX4_compactions : MethodName := ⟨RX4, "compactions", "()I"⟩
abbrev cX4_fillFactor : ByteArray := prog_1_method_27_code
def yX4_fillFactor : MethodName := ⟨RX4, "fillFactor", "()D"⟩
abbrev cX4_ifInserted : ByteArray := prog_1_method_28_code
def yX4_ifInserted : MethodName := ⟨RX4, "ifInserted", "(I)I"⟩
abbrev cX4_ifUpdated : ByteArray := prog_1_method_29_code
def yX4_ifUpdated : MethodName := ⟨RX4, "ifUpdated", "(II)I"⟩
abbrev cX4_greatestAtHome : ByteArray := prog_1_method_30_code
def yX4_greatestAtHome : MethodName := ⟨RX4, "greatestAtHome", "(I)I"⟩
abbrev cX4_capacity : ByteArray := prog_1_method_31_code
def yX4_capacity : MethodName := ⟨RX4, "capacity", "(I)I"⟩
abbrev cX4_firstError : ByteArray := prog_1_method_32_code
def yX4_firstError : MethodName := ⟨RX4, "firstError", "()I"⟩
abbrev cX4_run : ByteArray := prog_1_method_33_code
def yX4_run : MethodName := ⟨RX4, "run", "()I"⟩
abbrev cX4_undo : ByteArray := prog_1_method_34_code
def yX4_undo : MethodName := ⟨RX4, "undo", "()I"⟩
abbrev cX4_savedStates : ByteArray := prog_1_method_35_code
def yX4_savedStates : MethodName := ⟨RX4, "savedStates", "()I"⟩
abbrev cX4_digest : ByteArray := prog_1_method_36_code
def yX4_digest : MethodName := ⟨RX4, "digest", "()J"⟩
abbrev cX4_bitsOfFraction : ByteArray := prog_1_method_37_code
def yX4_bitsOfFraction : MethodName := ⟨RX4, "bitsOfFraction", "(F)I"⟩
abbrev cX4_requireRow : ByteArray := prog_1_method_38_code
def yX4_requireRow : MethodName := ⟨RX4, "requireRow", "(I)V"⟩
abbrev cX4_requirePage : ByteArray := prog_1_method_39_code
def yX4_requirePage : MethodName := ⟨RX4, "requirePage", "(I)V"⟩
abbrev cX4_requireLength : ByteArray := prog_1_method_40_code
def yX4_requireLength : MethodName := ⟨RX4, "requireLength", "(I)V"⟩
abbrev cX4_placeAt : ByteArray := prog_1_method_41_code
def yX4_placeAt : MethodName := ⟨RX4, "placeAt", "(II)I"⟩
abbrev cX4_pageIn : ByteArray := prog_1_method_42_code
def yX4_pageIn : MethodName := ⟨RX4, "pageIn", "(I)I"⟩
abbrev cX4_slotIn : ByteArray := prog_1_method_43_code
def yX4_slotIn : MethodName := ⟨RX4, "slotIn", "(I)I"⟩
abbrev cX4_targetAt : ByteArray := prog_1_method_44_code
def yX4_targetAt : MethodName := ⟨RX4, "targetAt", "(I)I"⟩
abbrev cX4_presentPlace : ByteArray := prog_1_method_45_code
def yX4_presentPlace : MethodName := ⟨RX4, "presentPlace", "(I)I"⟩
abbrev cX4_sizeAt : ByteArray := prog_1_method_46_code
def yX4_sizeAt : MethodName := ⟨RX4, "sizeAt", "(I)I"⟩
abbrev cX4_homeSize : ByteArray := prog_1_method_47_code
def yX4_homeSize : MethodName := ⟨RX4, "homeSize", "(I)I"⟩
abbrev cX4_movedSize : ByteArray := prog_1_method_48_code
def yX4_movedSize : MethodName := ⟨RX4, "movedSize", "(I)I"⟩
abbrev cX4_lengthAt : ByteArray := prog_1_method_49_code
def yX4_lengthAt : MethodName := ⟨RX4, "lengthAt", "(I)I"⟩
abbrev cX4_rowByteAt : ByteArray := prog_1_method_50_code
def yX4_rowByteAt : MethodName := ⟨RX4, "rowByteAt", "(II)I"⟩
abbrev cX4_countKind : ByteArray := prog_1_method_51_code
def yX4_countKind : MethodName := ⟨RX4, "countKind", "(I)I"⟩
abbrev cX4_writeHomeRecord : ByteArray := prog_1_method_52_code
def yX4_writeHomeRecord : MethodName := ⟨RX4, "writeHomeRecord", "()V"⟩
abbrev cX4_writeHead : ByteArray := prog_1_method_53_code
def yX4_writeHead : MethodName := ⟨RX4, "writeHead", "(II)V"⟩
abbrev cX4_writeMovedRecord : ByteArray := prog_1_method_54_code
def yX4_writeMovedRecord : MethodName := ⟨RX4, "writeMovedRecord", "(I)V"⟩
abbrev cX4_insertContent : ByteArray := prog_1_method_55_code
def yX4_insertContent : MethodName := ⟨RX4, "insertContent", "(I)I"⟩
abbrev cX4_roomToReplace : ByteArray := prog_1_method_56_code
def yX4_roomToReplace : MethodName := ⟨RX4, "roomToReplace", "(I)I"⟩
abbrev cX4_wayToChange : ByteArray := prog_1_method_57_code
def yX4_wayToChange : MethodName := ⟨RX4, "wayToChange", "(II)I"⟩
abbrev cX4_changeRow : ByteArray := prog_1_method_58_code
def yX4_changeRow : MethodName := ⟨RX4, "changeRow", "(II)V"⟩
abbrev cX4_storeAtHome : ByteArray := prog_1_method_59_code
def yX4_storeAtHome : MethodName := ⟨RX4, "storeAtHome", "(II)V"⟩
abbrev cX4_leaveNote : ByteArray := prog_1_method_60_code
def yX4_leaveNote : MethodName := ⟨RX4, "leaveNote", "(III)V"⟩
abbrev cX4_deleteRow : ByteArray := prog_1_method_61_code
def yX4_deleteRow : MethodName := ⟨RX4, "deleteRow", "(I)V"⟩
abbrev cX4_bringAllHome : ByteArray := prog_1_method_62_code
def yX4_bringAllHome : MethodName := ⟨RX4, "bringAllHome", "()I"⟩
abbrev cX4_mayReturn : ByteArray := prog_1_method_63_code
def yX4_mayReturn : MethodName := ⟨RX4, "mayReturn", "(I)Z"⟩
abbrev cX4_takeContentOf : ByteArray := prog_1_method_64_code
def yX4_takeContentOf : MethodName := ⟨RX4, "takeContentOf", "(I)V"⟩
abbrev cX4_executeOrder : ByteArray := prog_1_method_65_code
def yX4_executeOrder : MethodName := ⟨RX4, "executeOrder", "(II)Z"⟩
abbrev cX4_endOfNumber : ByteArray := prog_1_method_66_code
def yX4_endOfNumber : MethodName := ⟨RX4, "endOfNumber", "(II)I"⟩
abbrev cX4_numberIn : ByteArray := prog_1_method_67_code
def yX4_numberIn : MethodName := ⟨RX4, "numberIn", "(II)I"⟩
abbrev cX4_saveState : ByteArray := prog_1_method_68_code
def yX4_saveState : MethodName := ⟨RX4, "saveState", "()V"⟩
abbrev cX4_discardOldest : ByteArray := prog_1_method_69_code
def yX4_discardOldest : MethodName := ⟨RX4, "discardOldest", "()V"⟩
abbrev cX4_slotOffset : ByteArray := prog_1_method_70_code
def yX4_slotOffset : MethodName := ⟨RX4, "slotOffset", "(I)I"⟩
def RX5 : String := "HeapFileModel"
def TX5 : u_T := fun k => match k with
  | 0 => ("HeapFileModel", "thrown", "I", false)
  | 1 => ("HeapFileModel", "s", "[I", true)
  | 2 => ("HeapFileModel", "saved", "I", false)
  | 3 => ("HeapFileModel", "buffer", "[I", true)
  | 4 => ("HeapFileModel", "length", "I", false)
  | 5 => ("HeapFileModel", "bytes", "[I", true)
  | 6 => ("HeapFileModel", "many", "I", false)
  | 7 => ("HeapFileModel", "moved", "[I", true)
  | 8 => ("HeapFileModel", "at", "I", false)
  | 9 => ("HeapFileModel", "order", "I", false)
  | 10 => ("HeapFileModel", "identifier", "I", false)
  | _ => ("HeapFileModel", "hash", "J", false)
def tyX5 : Nat → FieldType := fun k => match k with
  | 0 => .int
  | 1 => .array .int
  | 2 => .int
  | 3 => .array .int
  | 4 => .int
  | 5 => .array .int
  | 6 => .int
  | 7 => .array .int
  | 8 => .int
  | 9 => .int
  | 10 => .int
  | _ => .long
abbrev wsX50 : List Cond := u_ws RX5 TX5 12
theorem nmX5 : ∀ a, a < 12 → ∀ b, b < 12 → a ≠ b → (TX5 a).2.1 ≠ (TX5 b).2.1 := by decide +kernel
theorem tyX5_ok : ∀ k, k < 12 → parseFieldDescriptor (TX5 k).2.2.1 = some (tyX5 k) := by decide +kernel
abbrev cX5_init : ByteArray := prog_7_method_1_code
def yX5_init : MethodName := ⟨RX5, "<init>", "()V"⟩
abbrev cX5_thrown : ByteArray := prog_7_method_2_code
def yX5_thrown : MethodName := ⟨RX5, "thrown", "()I"⟩
abbrev cX5_in : ByteArray := prog_7_method_3_code
def yX5_in : MethodName := ⟨RX5, "in", "(III)Z"⟩
abbrev cX5_holds : ByteArray := prog_7_method_4_code
def yX5_holds : MethodName := ⟨RX5, "holds", "(I)Z"⟩
abbrev cX5_of : ByteArray := prog_7_method_5_code
def yX5_of : MethodName := ⟨RX5, "of", "(II)I"⟩
abbrev cX5_lay : ByteArray := prog_7_method_6_code
def yX5_lay : MethodName := ⟨RX5, "lay", "(III)V"⟩
abbrev cX5_sizeOf : ByteArray := prog_7_method_7_code
def yX5_sizeOf : MethodName := ⟨RX5, "sizeOf", "(II)I"⟩
abbrev cX5_byteAt : ByteArray := prog_7_method_8_code
def yX5_byteAt : MethodName := ⟨RX5, "byteAt", "(III)I"⟩
abbrev cX5_layByte : ByteArray := prog_7_method_9_code
def yX5_layByte : MethodName := ⟨RX5, "layByte", "(IIII)V"⟩
abbrev cX5_lowest : ByteArray := prog_7_method_10_code
def yX5_lowest : MethodName := ⟨RX5, "lowest", "(I)I"⟩
abbrev cX5_gapOf : ByteArray := prog_7_method_11_code
def yX5_gapOf : MethodName := ⟨RX5, "gapOf", "(I)I"⟩
abbrev cX5_sizes : ByteArray := prog_7_method_12_code
def yX5_sizes : MethodName := ⟨RX5, "sizes", "(I)I"⟩
abbrev cX5_freeOf : ByteArray := prog_7_method_13_code
def yX5_freeOf : MethodName := ⟨RX5, "freeOf", "(I)I"⟩
abbrev cX5_byteOfPage : ByteArray := prog_7_method_14_code
def yX5_byteOfPage : MethodName := ⟨RX5, "byteOfPage", "(II)I"⟩
abbrev cX5_emptySlot : ByteArray := prog_7_method_15_code
def yX5_emptySlot : MethodName := ⟨RX5, "emptySlot", "(I)I"⟩
abbrev cX5_hasRoom : ByteArray := prog_7_method_16_code
def yX5_hasRoom : MethodName := ⟨RX5, "hasRoom", "(II)Z"⟩
abbrev cX5_wipes : ByteArray := prog_7_method_17_code
def yX5_wipes : MethodName := ⟨RX5, "wipes", "(II)V"⟩
abbrev cX5_removes : ByteArray := prog_7_method_18_code
def yX5_removes : MethodName := ⟨RX5, "removes", "(II)V"⟩
abbrev cX5_compacts : ByteArray := prog_7_method_19_code
def yX5_compacts : MethodName := ⟨RX5, "compacts", "(I)I"⟩
abbrev cX5_puts : ByteArray := prog_7_method_20_code
def yX5_puts : MethodName := ⟨RX5, "puts", "(III)V"⟩
abbrev cX5_stores : ByteArray := prog_7_method_21_code
def yX5_stores : MethodName := ⟨RX5, "stores", "(II)I"⟩
abbrev cX5_replaces : ByteArray := prog_7_method_22_code
def yX5_replaces : MethodName := ⟨RX5, "replaces", "(III)V"⟩
abbrev cX5_canReplace : ByteArray := prog_7_method_23_code
def yX5_canReplace : MethodName := ⟨RX5, "canReplace", "(III)Z"⟩
abbrev cX5_pageFor : ByteArray := prog_7_method_24_code
def yX5_pageFor : MethodName := ⟨RX5, "pageFor", "(III)I"⟩
abbrev cX5_opens : ByteArray := prog_7_method_25_code
def yX5_opens : MethodName := ⟨RX5, "opens", "(I)V"⟩
abbrev cX5_kindAt : ByteArray := prog_7_method_26_code
def yX5_kindAt : MethodName := ⟨RX5, "kindAt", "(I)I"⟩
abbrev cX5_isIdentifier : ByteArray := prog_7_method_27_code
def yX5_isIdentifier : MethodName := ⟨RX5, "isIdentifier", "(I)Z"⟩
abbrev cX5_placed : ByteArray := prog_7_method_28_code
def yX5_placed : MethodName := ⟨RX5, "placed", "(I)I"⟩
abbrev cX5_homeSize : ByteArray := prog_7_method_29_code
def yX5_homeSize : MethodName := ⟨RX5, "homeSize", "(I)I"⟩
abbrev cX5_lengthOf : ByteArray := prog_7_method_30_code
def yX5_lengthOf : MethodName := ⟨RX5, "lengthOf", "(I)I"⟩
abbrev cX5_byteOfRow : ByteArray := prog_7_method_31_code
def yX5_byteOfRow : MethodName := ⟨RX5, "byteOfRow", "(II)I"⟩
abbrev cX5_writesHome : ByteArray := prog_7_method_32_code
def yX5_writesHome : MethodName := ⟨RX5, "writesHome", "(II)V"⟩
abbrev cX5_writesNote : ByteArray := prog_7_method_33_code
def yX5_writesNote : MethodName := ⟨RX5, "writesNote", "(III)V"⟩
abbrev cX5_writesMoved : ByteArray := prog_7_method_34_code
def yX5_writesMoved : MethodName := ⟨RX5, "writesMoved", "(II)V"⟩
abbrev cX5_inserts : ByteArray := prog_7_method_35_code
def yX5_inserts : MethodName := ⟨RX5, "inserts", "()I"⟩
abbrev cX5_way : ByteArray := prog_7_method_36_code
def yX5_way : MethodName := ⟨RX5, "way", "(II)I"⟩
abbrev cX5_comesHome : ByteArray := prog_7_method_37_code
def yX5_comesHome : MethodName := ⟨RX5, "comesHome", "(I)V"⟩
abbrev cX5_goesOut : ByteArray := prog_7_method_38_code
def yX5_goesOut : MethodName := ⟨RX5, "goesOut", "(I)V"⟩
abbrev cX5_updates : ByteArray := prog_7_method_39_code
def yX5_updates : MethodName := ⟨RX5, "updates", "(I)I"⟩
abbrev cX5_deletes : ByteArray := prog_7_method_40_code
def yX5_deletes : MethodName := ⟨RX5, "deletes", "(I)I"⟩
abbrev cX5_returnsAll : ByteArray := prog_7_method_41_code
def yX5_returnsAll : MethodName := ⟨RX5, "returnsAll", "()I"⟩
abbrev cX5_takesRow : ByteArray := prog_7_method_42_code
def yX5_takesRow : MethodName := ⟨RX5, "takesRow", "(I)V"⟩
abbrev cX5_takesBuffer : ByteArray := prog_7_method_43_code
def yX5_takesBuffer : MethodName := ⟨RX5, "takesBuffer", "(II)V"⟩
abbrev cX5_copies : ByteArray := prog_7_method_44_code
def yX5_copies : MethodName := ⟨RX5, "copies", "(II)V"⟩
abbrev cX5_save : ByteArray := prog_7_method_45_code
def yX5_save : MethodName := ⟨RX5, "save", "()V"⟩
abbrev cX5_append : ByteArray := prog_7_method_46_code
def yX5_append : MethodName := ⟨RX5, "append", "(I)I"⟩
abbrev cX5_fill : ByteArray := prog_7_method_47_code
def yX5_fill : MethodName := ⟨RX5, "fill", "(II)I"⟩
abbrev cX5_clearBuffer : ByteArray := prog_7_method_48_code
def yX5_clearBuffer : MethodName := ⟨RX5, "clearBuffer", "()I"⟩
abbrev cX5_insert : ByteArray := prog_7_method_49_code
def yX5_insert : MethodName := ⟨RX5, "insert", "()I"⟩
abbrev cX5_update : ByteArray := prog_7_method_50_code
def yX5_update : MethodName := ⟨RX5, "update", "(I)I"⟩
abbrev cX5_delete : ByteArray := prog_7_method_51_code
def yX5_delete : MethodName := ⟨RX5, "delete", "(I)I"⟩
abbrev cX5_bringHome : ByteArray := prog_7_method_52_code
def yX5_bringHome : MethodName := ⟨RX5, "bringHome", "()I"⟩
abbrev cX5_isPage : ByteArray := prog_7_method_53_code
def yX5_isPage : MethodName := ⟨RX5, "isPage", "(I)Z"⟩
abbrev cX5_compact : ByteArray := prog_7_method_54_code
def yX5_compact : MethodName := ⟨RX5, "compact", "(I)I"⟩
abbrev cX5_counted : ByteArray := prog_7_method_55_code
def yX5_counted : MethodName := ⟨RX5, "counted", "(II)I"⟩
abbrev cX5_rows : ByteArray := prog_7_method_56_code
def yX5_rows : MethodName := ⟨RX5, "rows", "()I"⟩
abbrev cX5_isRow : ByteArray := prog_7_method_57_code
def yX5_isRow : MethodName := ⟨RX5, "isRow", "(I)Z"⟩
abbrev cX5_length : ByteArray := prog_7_method_58_code
def yX5_length : MethodName := ⟨RX5, "length", "(I)I"⟩
abbrev cX5_byteOf : ByteArray := prog_7_method_59_code
def yX5_byteOf : MethodName := ⟨RX5, "byteOf", "(II)I"⟩
abbrev cX5_placeOf : ByteArray := prog_7_method_60_code
def yX5_placeOf : MethodName := ⟨RX5, "placeOf", "(I)I"⟩
abbrev cX5_next : ByteArray := prog_7_method_61_code
def yX5_next : MethodName := ⟨RX5, "next", "(I)I"⟩
abbrev cX5_rowAt : ByteArray := prog_7_method_62_code
def yX5_rowAt : MethodName := ⟨RX5, "rowAt", "(I)I"⟩
abbrev cX5_pages : ByteArray := prog_7_method_63_code
def yX5_pages : MethodName := ⟨RX5, "pages", "()I"⟩
abbrev cX5_pageByte : ByteArray := prog_7_method_64_code
def yX5_pageByte : MethodName := ⟨RX5, "pageByte", "(II)I"⟩
abbrev cX5_free : ByteArray := prog_7_method_65_code
def yX5_free : MethodName := ⟨RX5, "free", "(I)I"⟩
abbrev cX5_gap : ByteArray := prog_7_method_66_code
def yX5_gap : MethodName := ⟨RX5, "gap", "(I)I"⟩
abbrev cX5_kind : ByteArray := prog_7_method_67_code
def yX5_kind : MethodName := ⟨RX5, "kind", "(I)I"⟩
abbrev cX5_notes : ByteArray := prog_7_method_68_code
def yX5_notes : MethodName := ⟨RX5, "notes", "()I"⟩
abbrev cX5_moves : ByteArray := prog_7_method_69_code
def yX5_moves : MethodName := ⟨RX5, "moves", "()I"⟩
abbrev cX5_returns : ByteArray := prog_7_method_70_code
def yX5_returns : MethodName := ⟨RX5, "returns", "()I"⟩
abbrev cX5_compactions : ByteArray := prog_7_method_71_code
def yX5_compactions : MethodName := ⟨RX5, "compactions", "()I"⟩
abbrev cX5_factor : ByteArray := prog_7_method_72_code
def yX5_factor : MethodName := ⟨RX5, "factor", "()D"⟩
abbrev cX5_fillFactor : ByteArray := prog_7_method_73_code
def yX5_fillFactor : MethodName := ⟨RX5, "fillFactor", "()D"⟩
abbrev cX5_ifInserted : ByteArray := prog_7_method_74_code
def yX5_ifInserted : MethodName := ⟨RX5, "ifInserted", "(I)I"⟩
abbrev cX5_ifUpdated : ByteArray := prog_7_method_75_code
def yX5_ifUpdated : MethodName := ⟨RX5, "ifUpdated", "(II)I"⟩
abbrev cX5_greatestAtHome : ByteArray := prog_7_method_76_code
def yX5_greatestAtHome : MethodName := ⟨RX5, "greatestAtHome", "(I)I"⟩
abbrev cX5_taken : ByteArray := prog_7_method_77_code
def yX5_taken : MethodName := ⟨RX5, "taken", "(IIII)I"⟩
abbrev cX5_capacity : ByteArray := prog_7_method_78_code
def yX5_capacity : MethodName := ⟨RX5, "capacity", "(I)I"⟩
abbrev cX5_sign : ByteArray := prog_7_method_79_code
def yX5_sign : MethodName := ⟨RX5, "sign", "()I"⟩
abbrev cX5_takes : ByteArray := prog_7_method_80_code
def yX5_takes : MethodName := ⟨RX5, "takes", "(I)Z"⟩
abbrev cX5_readsIdentifier : ByteArray := prog_7_method_81_code
def yX5_readsIdentifier : MethodName := ⟨RX5, "readsIdentifier", "()Z"⟩
abbrev cX5_readsData : ByteArray := prog_7_method_82_code
def yX5_readsData : MethodName := ⟨RX5, "readsData", "()Z"⟩
abbrev cX5_readsOrder : ByteArray := prog_7_method_83_code
def yX5_readsOrder : MethodName := ⟨RX5, "readsOrder", "()Z"⟩
abbrev cX5_isComplete : ByteArray := prog_7_method_84_code
def yX5_isComplete : MethodName := ⟨RX5, "isComplete", "()Z"⟩
abbrev cX5_firstError : ByteArray := prog_7_method_85_code
def yX5_firstError : MethodName := ⟨RX5, "firstError", "()I"⟩
abbrev cX5_can : ByteArray := prog_7_method_86_code
def yX5_can : MethodName := ⟨RX5, "can", "()Z"⟩
abbrev cX5_does : ByteArray := prog_7_method_87_code
def yX5_does : MethodName := ⟨RX5, "does", "()I"⟩
abbrev cX5_run : ByteArray := prog_7_method_88_code
def yX5_run : MethodName := ⟨RX5, "run", "()I"⟩
abbrev cX5_undo : ByteArray := prog_7_method_89_code
def yX5_undo : MethodName := ⟨RX5, "undo", "()I"⟩
abbrev cX5_savedStates : ByteArray := prog_7_method_90_code
def yX5_savedStates : MethodName := ⟨RX5, "savedStates", "()I"⟩
abbrev cX5_mix : ByteArray := prog_7_method_91_code
def yX5_mix : MethodName := ⟨RX5, "mix", "(J)V"⟩
abbrev cX5_bits : ByteArray := prog_7_method_92_code
def yX5_bits : MethodName := ⟨RX5, "bits", "(F)I"⟩
abbrev cX5_digest : ByteArray := prog_7_method_93_code
def yX5_digest : MethodName := ⟨RX5, "digest", "()J"⟩
def RJ9 : String := "java/lang/Math"
def TJ9 : u_T := fun k => match k with
  | _ => ("", "", "", false)
def tyJ9 : Nat → FieldType := fun k => match k with
  | _ => .int
abbrev wsJ90 : List Cond := u_ws RJ9 TJ9 0
theorem nmJ9 : ∀ a, a < 0 → ∀ b, b < 0 → a ≠ b → (TJ9 a).2.1 ≠ (TJ9 b).2.1 := by decide +kernel
theorem tyJ9_ok : ∀ k, k < 0 → parseFieldDescriptor (TJ9 k).2.2.1 = some (tyJ9 k) := by decide +kernel
abbrev cJ9_max_7cf53 : ByteArray := prog_12_method_65_code
def yJ9_max_7cf53 : MethodName := ⟨RJ9, "max", "(II)I"⟩
abbrev cJ9_min_7cf53 : ByteArray := prog_12_method_69_code
def yJ9_min_7cf53 : MethodName := ⟨RJ9, "min", "(II)I"⟩
def RJ0 : String := "java/lang/String"
def TJ0 : u_T := fun k => match k with
  | _ => ("", "", "", false)
def tyJ0 : Nat → FieldType := fun k => match k with
  | _ => .int
abbrev wsJ00 : List Cond := u_ws RJ0 TJ0 0
theorem nmJ0 : ∀ a, a < 0 → ∀ b, b < 0 → a ≠ b → (TJ0 a).2.1 ≠ (TJ0 b).2.1 := by decide +kernel
theorem tyJ0_ok : ∀ k, k < 0 → parseFieldDescriptor (TJ0 k).2.2.1 = some (tyJ0 k) := by decide +kernel
def RJ10 : String := "java/lang/System"
def TJ10 : u_T := fun k => match k with
  | _ => ("", "", "", false)
def tyJ10 : Nat → FieldType := fun k => match k with
  | _ => .int
abbrev wsJ100 : List Cond := u_ws RJ10 TJ10 0
theorem nmJ10 : ∀ a, a < 0 → ∀ b, b < 0 → a ≠ b → (TJ10 a).2.1 ≠ (TJ10 b).2.1 := by decide +kernel
theorem tyJ10_ok : ∀ k, k < 0 → parseFieldDescriptor (TJ10 k).2.2.1 = some (tyJ10 k) := by decide +kernel
def RL : String := "HeapFileLaw"
abbrev cL_append : ByteArray := method_3_code
def yL_append : MethodName := ⟨RL, "append", "(LHeapFile;I[J)I"⟩
abbrev cL_fill : ByteArray := method_4_code
def yL_fill : MethodName := ⟨RL, "fill", "(LHeapFile;II[J)I"⟩
abbrev cL_insert : ByteArray := method_5_code
def yL_insert : MethodName := ⟨RL, "insert", "(LHeapFile;[J)I"⟩
abbrev cL_update : ByteArray := method_6_code
def yL_update : MethodName := ⟨RL, "update", "(LHeapFile;I[J)I"⟩
abbrev cL_delete : ByteArray := method_7_code
def yL_delete : MethodName := ⟨RL, "delete", "(LHeapFile;I[J)I"⟩
abbrev cL_compact : ByteArray := method_8_code
def yL_compact : MethodName := ⟨RL, "compact", "(LHeapFile;I[J)I"⟩
abbrev cL_length : ByteArray := method_9_code
def yL_length : MethodName := ⟨RL, "length", "(LHeapFile;I[J)I"⟩
abbrev cL_byteOf : ByteArray := method_10_code
def yL_byteOf : MethodName := ⟨RL, "byteOf", "(LHeapFile;II[J)I"⟩
abbrev cL_placeOf : ByteArray := method_11_code
def yL_placeOf : MethodName := ⟨RL, "placeOf", "(LHeapFile;I[J)I"⟩
abbrev cL_pageByte : ByteArray := method_12_code
def yL_pageByte : MethodName := ⟨RL, "pageByte", "(LHeapFile;II[J)I"⟩
abbrev cL_free : ByteArray := method_13_code
def yL_free : MethodName := ⟨RL, "free", "(LHeapFile;I[J)I"⟩
abbrev cL_gap : ByteArray := method_14_code
def yL_gap : MethodName := ⟨RL, "gap", "(LHeapFile;I[J)I"⟩
abbrev cL_ifInserted : ByteArray := method_15_code
def yL_ifInserted : MethodName := ⟨RL, "ifInserted", "(LHeapFile;I[J)I"⟩
abbrev cL_ifUpdated : ByteArray := method_16_code
def yL_ifUpdated : MethodName := ⟨RL, "ifUpdated", "(LHeapFile;II[J)I"⟩
abbrev cL_greatestAtHome : ByteArray := method_17_code
def yL_greatestAtHome : MethodName := ⟨RL, "greatestAtHome", "(LHeapFile;I[J)I"⟩
abbrev cL_capacity : ByteArray := method_18_code
def yL_capacity : MethodName := ⟨RL, "capacity", "(LHeapFile;I[J)I"⟩
abbrev cL_run : ByteArray := method_19_code
def yL_run : MethodName := ⟨RL, "run", "(LHeapFile;[J)I"⟩
abbrev cL_undo : ByteArray := method_20_code
def yL_undo : MethodName := ⟨RL, "undo", "(LHeapFile;[J)I"⟩
abbrev cL_law : ByteArray := code
def yL_law : MethodName := ⟨RL, "law", "([I)Z"⟩
abbrev vwCl : List vw_C := [(RX0, TX0, 2), (RX1, TX1, 4), (RX2, TX2, 2), (RX3, TX3, 5), (RX4, TX4, 8), (RX5, TX5, 12)]
end
section
/-! ===== BEGIN words of one list among another's, by their places ===== -/
theorem goodIn_r {big : List Cond} (ws : List Cond) (ps : List Nat) (hp : ws = ps.filterMap (fun i => big[i]?)) (h : ws.all goodWord = true) : GoodIn big ws := by
  intro w hw
  have h1 := List.all_eq_true.mp h w hw
  rw [hp] at hw
  obtain ⟨i, -, hi⟩ := List.mem_filterMap.mp hw
  have hm : w ∈ big := by first | exact List.mem_of_getElem? hi | exact List.getElem?_mem hi
  exact ⟨hm, good_of_word h1⟩
theorem goodIn_app {big a b : List Cond} (ha : GoodIn big a) (hb : GoodIn big b) : GoodIn big (a ++ b) := fun w h => (List.mem_append.mp h).elim (ha w) (hb w)
theorem goodIn_ca {big a b : List Cond} {c : Cond} (ha : GoodIn big (c :: a)) (hb : GoodIn big b) : GoodIn big (c :: (a ++ b)) := fun w h => (List.mem_cons.mp h).elim (fun e => ha w (List.mem_cons.mpr (Or.inl e))) (fun h => (List.mem_append.mp h).elim (fun h => ha w (List.mem_cons.mpr (Or.inr h))) (hb w))
theorem goodIn_sub {big ws : List Cond} (hm : ∀ w ∈ ws, w ∈ big) (h : ws.all goodWord = true) : GoodIn big ws := fun w hw => ⟨hm w hw, good_of_word (List.all_eq_true.mp h w hw)⟩
/-! ===== END ===== -/

/-! ===== BEGIN exceptions that leave a method, and their catching by the caller (launches without stack traces) ===== -/
section VXA
/-! The laws vx_back, vx_callV, vx_callS, vx_callSW, vx_throw0, vx_throwS follow proofs of the library, with one case more: JvmDerived/Free/Laws.lean (Back.of_free), Shelf42/LK1.lean (callV, callS), Shelf/KitTraced.lean (throwNew0V, throwNewS). -/
/-- where a method has thrown q: the class by its name, the cell, what was written, the world -/
def vx_T (XC : String → State → State → Prop) (st : State) (q : Addr) (t : State) (mc ms : Nat) (free : Addr → Prop) : Prop :=
  ∃ (E : String) (ce : Cell) (L : List Loc), XC E st t ∧ t.heap[q]? = some ce ∧ ce.vm = .none ∧ st.vm.findClass E = some ce.cls ∧ st.WarmedH t.vm ∧ st.sameButNew ({ t with vm := st.vm } : State) L mc ms ∧ ∀ z ∈ L, free z.base
def vx_Q (Qc : Array Value → State → Outcome → State → Prop) (XC : String → State → State → Prop) (mc ms : Nat) (free : Addr → Prop) : Array Value → State → Outcome → State → Prop := fun a st o t =>
  (Qc a st o t ∧ ∃ L, FrameEnd st o t L mc ms ∧ ∀ q ∈ L, free q.base) ∨ ∃ q, o = .threw q ∧ vx_T XC st q t mc ms free
/-- a callee that returns or throws -/
def vx_Met (l : Launch) (y : MethodName) (ws : List Cond) (rm : Room) (Pc : Array Value → State → Prop) (Qc : Array Value → State → Outcome → State → Prop) (XC : String → State → State → Prop) (mc ms : Nat) (free : Addr → Prop) : Prop :=
  MetFree l y (headSpec ws rm) Pc (fun _ _ _ _ _ => True) (vx_Q Qc XC mc ms free)
def vx_Post (XC : String → State → State → Prop) (mc ms : Nat) (free : Addr → Prop) : Pt → Array Value → Addr → Pt → Prop := fun A a q B =>
  ∃ (g : JFrame) (mk : MethodId) (t : State) (L : List Loc) (E : String) (ce : Cell), B.U.heap = t.heap ∧ B.U.vm = t.vm ∧ XC E (A.U.calling g mk a) t ∧ t.heap[q]? = some ce ∧ ce.vm = .none ∧ A.U.vm.findClass E = some ce.cls ∧ B.locs = A.locs ++ L ∧ (∀ z ∈ L, free z.base) ∧ B.cells = A.cells + mc ∧ B.slots = A.slots + ms
def vx_Back (l : Launch) (R : Room) (p : Program) (e : Env) (below : List Frame) (s : State) (sargs : Array Value) (y : MethodName) (len W9 : Nat)
    (Pre : Pt → Array Value → Prop) (Post : Pt → Array Value → Option Value → Pt → Prop) (PostX : Pt → Array Value → Addr → Pt → Prop) : Prop :=
  ∀ (m : MethodId) (meth : Method) (c : Code) (A : Pt) (g : JFrame) (ig : Instr) (mk : MethodId) (a : Array Value),
    Stand p l e R s m sargs below meth c A.U A.locs A.cells A.slots → g.method = m → g.locals.size = c.maxLocals → decode c.code g.pc = .ok (ig, len) →
    2 * g.monitorRoom + (g.stack.map fun v => v.category).sum ≤ W9 → A.U.methodNamed? y = some mk → Pre A a →
    (∃ (v : Option Value) (B : Pt), Stand p l e R s m sargs below meth c B.U B.locs B.cells B.slots ∧ Post A a v B ∧
      Steps p.tables e below (doInvoke e (A.U.setTop g) [] mk a).1 (B.U.setTop { g with pc := g.pc + len, stack := v.toList ++ g.stack })) ∨
    (∃ (q : Addr) (B : Pt), Stand p l e R s m sargs below meth c B.U B.locs B.cells B.slots ∧ PostX A a q B ∧
      Steps p.tables e below (doInvoke e (A.U.setTop g) [] mk a).1 ((B.U.setTop g).pushFrame (.throwing q)))
section Payer
variable {l : Launch} {R : Room} {p : Program} {e : Env} {below : List Frame} {s : State} {sargs : Array Value} {y : MethodName} {len W9 : Nat}
theorem vx_back {ws : List Cond} {rm : Room} {Pc : Array Value → State → Prop} {Qc : Array Value → State → Outcome → State → Prop} {XC : String → State → State → Prop} {mc ms : Nat} {free : Addr → Prop} {bytes : ByteArray} {maxL : Nat} {ret : Option FieldType}
    (hM : vx_Met l y ws rm Pc Qc XC mc ms free) (hblind : FrameBlind Pc) (hrc : rm.cells = mc) (hrs : rm.slots = ms)
    (hframes : rm.frames + 1 ≤ R.frames) (hlocals : W9 + (maxL + 11) + rm.locals ≤ R.locals)
    (hws : ∀ w ∈ ws, ∀ a' U, s.WarmedH U.vm → w.before a' U = true) (hcode : Cond.code y bytes maxL ret ∈ ws) (hinit : ∀ a' U, s.WarmedH U.vm → (Cond.initialized y.cls).before a' U = true) :
    vx_Back l R p e below s sargs y len W9 (PreOf R mc ms Pc) (PostOf Qc mc ms free) (vx_Post XC mc ms free) := by
  intro m meth c A g ig mk a X hg hsize hdg hW hn hp
  have h1 : (headSpec ws rm).pre.before a A.U = true := atoms_intro fun w hw => hws w hw _ _ X.warmed
  have h2 : (Cond.code y bytes maxL ret).before a A.U = true := hws _ hcode _ _ X.warmed
  have h3 : (Cond.initialized y.cls).before a A.U = true := hinit _ _ X.warmed
  have h4 : A.cells + (headSpec ws rm).room.cells ≤ R.cells := by rw [show (headSpec ws rm).room.cells = mc from hrc]; exact hp.1
  have h5 : A.slots + (headSpec ws rm).room.slots ≤ R.slots := by rw [show (headSpec ws rm).room.slots = ms from hrs]; exact hp.2.1
  have hPc : Pc a (A.U.calling g mk a) := hblind _ _ _ _ hp.2.2
  obtain ⟨U, Ls, c0, s0⟩ := A
  dsimp only [Pt.U, Pt.locs, Pt.cells, Pt.slots] at h1 h2 h3 h4 h5 X hn hPc ⊢
  obtain ⟨methY, cY, hmY, hcY, -, hlY, -, -, -, -⟩ := Cond.code_spec hn h2
  obtain ⟨kY, hkY, -⟩ := className_of_methodNamed hn
  have hinitY : kY.init = .initialized := Cond.initialized_spec (findClass_of_methodNamed hn) hkY h3
  have h : At U g.method c below := by rw [hg]; exact X.here
  have hlocals9 : W9 + (maxL + 11) + (headSpec ws rm).room.locals ≤ R.locals := hlocals
  have happ : (headSpec ws rm).appliesLoose y e.platform (U.calling g mk a) = true :=
    Spec.appliesLoose_calling (g := g) h hdg hn hkY hinitY
      (X.room_calling (g := g) (R' := (headSpec ws rm).room) hsize hmY hcY hframes (by rw [hlY]; omega) h4 h5) h1
  obtain ⟨mid, hmid⟩ := h.above
  have hfr : (U.setTop g).frames = (.java g :: mid) ++ below := by rw [State.frames_setTop' g h.top, hmid]; rfl
  obtain ⟨o, s₂, hsteps, -, hend, hq⟩ := Steps.callFree hM p X.admits X.cas X.clock (acts := []) hfr happ hPc trivial
  have hq' : vx_Q Qc XC mc ms free a (U.calling g mk a) o s₂ := hq
  rw [State.frames_setTop' g h.top] at hend
  obtain ⟨g₀, hg0⟩ := Option.isSome_iff_exists.mp h.top
  obtain ⟨r, hr⟩ := State.topJava?_eq_some.mp hg0
  have hr' : (({ U with heap := s₂.heap, slotsUsed := s₂.slotsUsed } : State).setVm s₂.vm).frames = .java g₀ :: r := hr
  rcases hq' with ⟨hqc, L, hfe, hL⟩ | ⟨q, rfl, E, ce, L, hx, hce, hcv, hcl, hW₂, hsm, hL⟩
  · obtain ⟨⟨v, rfl⟩, hW₂, e2, q2, q3, q4, q5, q6⟩ := id hfe
    have e3 : s₂ = ({ (U.calling g mk a).setFrames s₂.frames with heap := s₂.heap, slotsUsed := s₂.slotsUsed } : State).setVm s₂.vm := by
      have : s₂ = ({ s₂ with vm := (U.calling g mk a).vm } : State).setVm s₂.vm := rfl
      rw [e2] at this
      exact this
    obtain ⟨c₂, i₂, len₂, hc₂, hd₂, hf₂⟩ := hend
    have hW' : U.WarmedH s₂.vm := hW₂
    have hcc : c₂ = c := by
      have h1 : s₂.code? g.method = U.code? g.method := by
        rw [State.code?_eq, State.code?_eq, hW'.alike.method?]
      exact Option.some.inj (hc₂.symm.trans (h1.trans h.code))
    subst hcc
    have hlen : len₂ = len := by rw [hdg] at hd₂; cases hd₂; rfl
    subst hlen
    have hs₂ : s₂ = (({ U with heap := s₂.heap, slotsUsed := s₂.slotsUsed } : State).setVm s₂.vm).setTop { g with pc := g.pc + len₂, stack := v.toList ++ g.stack } := by
      refine e3.trans ?_
      rw [hf₂, State.calling_eq h.top, State.setFrames_setFrames, State.setTop_of_frames _ hr', hr]
      rfl
    have hsame : U.sameButNew ({ U with heap := s₂.heap, slotsUsed := s₂.slotsUsed } : State) L mc ms := by
      refine ⟨?_, q2, q3, q4, q5, q6⟩
      obtain ⟨t, ht, -⟩ := State.frames_cons hr
      show ({ U with heap := s₂.heap, slotsUsed := s₂.slotsUsed } : State) = { U.setFrames U.frames with heap := s₂.heap, slotsUsed := s₂.slotsUsed }
      rw [State.setFrames_self ht]
    subst hg
    refine Or.inl ⟨v, ⟨(({ U with heap := s₂.heap, slotsUsed := s₂.slotsUsed } : State).setVm s₂.vm), Ls ++ L, c0 + mc, s0 + ms⟩,
      ⟨X.admits, X.cas, X.clock, X.frames, X.room, X.hears, X.method, X.code, (X.here.setHeapUsed s₂.heap s₂.slotsUsed).setVm hW'.alike, X.tail, State.WarmedH.trans X.warmed hW', X.limits, X.bytes, X.same.trans (hsame.setVm s.vm)⟩,
      ⟨g, mk, s₂, L, rfl, rfl, hqc, rfl, hL, rfl, rfl⟩, ?_⟩
    show Steps p.tables e below _ ((({ U with heap := s₂.heap, slotsUsed := s₂.slotsUsed } : State).setVm s₂.vm).setTop { g with pc := g.pc + len₂, stack := v.toList ++ g.stack })
    rw [← hs₂]
    exact hsteps
  · obtain ⟨e2, q2, q3, q4, q5, q6⟩ := id hsm
    have e3 : s₂ = ({ (U.calling g mk a).setFrames s₂.frames with heap := s₂.heap, slotsUsed := s₂.slotsUsed } : State).setVm s₂.vm := by
      have : s₂ = ({ s₂ with vm := (U.calling g mk a).vm } : State).setVm s₂.vm := rfl
      rw [e2] at this
      exact this
    have hf₂ : s₂.frames = .throwing q :: .java g :: U.frames.tail := hend
    have hW' : U.WarmedH s₂.vm := hW₂
    have hs₂ : s₂ = ((({ U with heap := s₂.heap, slotsUsed := s₂.slotsUsed } : State).setVm s₂.vm).setTop g).pushFrame (.throwing q) := by
      refine e3.trans ?_
      rw [hf₂, State.calling_eq h.top, State.setFrames_setFrames, State.pushFrame, State.frames_setTop _ hr', State.setTop_of_frames _ hr', State.setFrames_setFrames, hr]
      rfl
    have hsame : U.sameButNew ({ U with heap := s₂.heap, slotsUsed := s₂.slotsUsed } : State) L mc ms := by
      refine ⟨?_, q2, q3, q4, q5, q6⟩
      obtain ⟨t, ht, -⟩ := State.frames_cons hr
      show ({ U with heap := s₂.heap, slotsUsed := s₂.slotsUsed } : State) = { U.setFrames U.frames with heap := s₂.heap, slotsUsed := s₂.slotsUsed }
      rw [State.setFrames_self ht]
    subst hg
    refine Or.inr ⟨q, ⟨(({ U with heap := s₂.heap, slotsUsed := s₂.slotsUsed } : State).setVm s₂.vm), Ls ++ L, c0 + mc, s0 + ms⟩,
      ⟨X.admits, X.cas, X.clock, X.frames, X.room, X.hears, X.method, X.code, (X.here.setHeapUsed s₂.heap s₂.slotsUsed).setVm hW'.alike, X.tail, State.WarmedH.trans X.warmed hW', X.limits, X.bytes, X.same.trans (hsame.setVm s.vm)⟩,
      ⟨g, mk, s₂, L, E, ce, rfl, rfl, hx, hce, hcv, hcl, rfl, hL, rfl, rfl⟩, ?_⟩
    show Steps p.tables e below _ (((({ U with heap := s₂.heap, slotsUsed := s₂.slotsUsed } : State).setVm s₂.vm).setTop g).pushFrame (.throwing q))
    rw [← hs₂]
    exact hsteps
end Payer
section Calls
variable {p : Program} {l : Launch} {e : Env} {R : Room} {s : State} {m : MethodId} {args : Array Value} {below : List Frame} {meth : Method} {c : Code} {T : State} {locs : List Loc} {cells slots : Nat}
theorem vx_callV (X : Stand p l e R s m args below meth c T locs cells slots) (hexec : p.tables.exec = Jvm.exec) {own C : String} {index : Nat} {y : MethodName} {bytes : ByteArray} {maxL : Nat} {ret : Option FieldType}
    (hown : s.vm.findClass own = some m.cls) (hlink : (Cond.methodLink own index y).before args s = true) (hinst : (Cond.instanceMethod y).before args s = true) (hsel : (Cond.selects C y y).before args s = true)
    (hcode : (Cond.code y bytes maxL ret).before args s = true) (hy : y.cls ≠ "java/lang/invoke/MethodHandle" ∧ y.cls ≠ "java/lang/invoke/VarHandle")
    {W9 : Nat} {Pre : Pt → Array Value → Prop} {Post : Pt → Array Value → Option Value → Pt → Prop} {PostX : Pt → Array Value → Addr → Pt → Prop} (hK : vx_Back l R p e below s args y 3 W9 Pre Post PostX)
    {b : Addr} {cellB : Cell} (hcell : T.heap[b]? = some cellB) (hobj : cellB.vm.isStatics = false) (hcls : s.vm.findClass C = some cellB.cls)
    {g : JFrame} (hg : g.method = m) (hsize : g.locals.size = c.maxLocals) {argsL rest : List Value} (hlen : ∀ sig, parseMethodDescriptor y.desc = some sig → argsL.length = sig.parameters.length)
    (hstack : g.stack = argsL.reverse ++ .ref b :: rest) (hW : 2 * g.monitorRoom + (rest.map fun v => v.category).sum ≤ W9) (hdg : decode c.code g.pc = .ok (.invokevirtual index, 3))
    (hpre : ∀ vm₁, s.WarmedH vm₁ → Pre ⟨T.setVm vm₁, locs, cells, slots⟩ (Value.ref b :: argsL).toArray) :
    (∃ (v : Option Value) (vm₁ : Vm) (B : Pt), s.WarmedH vm₁ ∧ Stand p l e R s m args below meth c B.U B.locs B.cells B.slots ∧ Post ⟨T.setVm vm₁, locs, cells, slots⟩ (Value.ref b :: argsL).toArray v B ∧
      ∀ target, Steps p.tables e below (B.U.setTop { g with pc := g.pc + 3, stack := v.toList ++ rest }) target → Steps p.tables e below (T.setTop g) target) ∨
    (∃ (q : Addr) (vm₁ : Vm) (B : Pt), s.WarmedH vm₁ ∧ Stand p l e R s m args below meth c B.U B.locs B.cells B.slots ∧ PostX ⟨T.setVm vm₁, locs, cells, slots⟩ (Value.ref b :: argsL).toArray q B ∧
      Steps p.tables e below (T.setTop g) ((B.U.setTop { g with stack := rest }).pushFrame (.throwing q))) := by
  obtain ⟨mk, methM, hnamed, hmethM, hstM, habM⟩ := Cond.instanceMethod_spec hinst
  obtain ⟨methM', cM, hmethM', -, -, -, -, -, -, hsigM⟩ := Cond.code_spec hnamed hcode
  cases hmethM.symm.trans hmethM'
  obtain ⟨c2, r2, m2, q1, q2, q3, q4, kP, hkP, hkPi⟩ := Cond.selects_spec hsel
  cases hcls.symm.trans q1
  cases (State.methodFound?_of_named hnamed hy).symm.trans q2
  cases hnamed.symm.trans q3
  have hselP : selectMethod e.platform s.vm cellB.cls mk = .method mk := by rw [Launch.admits_selectMethod X.admits]; exact q4
  obtain ⟨vm₁, X₁, hstep₁⟩ := X.invokevirtual hexec hown hlink hnamed hmethM hstM hkP hkPi hy (a := b) (cell := cellB) hcell
    (fun z h => by rw [h] at hobj; cases hobj) hselP hmethM habM hkP hkPi (g := g) hg (argsL := argsL) (rest := rest) (hlen _ hsigM) hstack hdg
  rcases hK m meth c ⟨T.setVm vm₁, locs, cells, slots⟩ { g with stack := rest } (.invokevirtual index) mk (Value.ref b :: argsL).toArray X₁ hg hsize hdg hW (X₁.named hnamed) (hpre vm₁ X₁.warmed) with ⟨v, B, X', hpost, hsteps⟩ | ⟨q, B, X', hpost, hsteps⟩
  · exact Or.inl ⟨v, vm₁, B, X₁.warmed, X', hpost, fun target h => hstep₁ _ fun acts => by rw [doInvoke_state]; exact hsteps.trans h⟩
  · exact Or.inr ⟨q, vm₁, B, X₁.warmed, X', hpost, hstep₁ _ fun acts => by rw [doInvoke_state]; exact hsteps⟩
theorem vx_callS (X : Stand p l e R s m args below meth c T locs cells slots) (hexec : p.tables.exec = Jvm.exec) {own : String} {index : Nat} {y : MethodName} {bytes : ByteArray} {maxL : Nat} {ret : Option FieldType}
    (hown : s.vm.findClass own = some m.cls) (hlink : (Cond.methodLink own index y).before args s = true) (hstat : (Cond.static y).before args s = true) (hinit : (Cond.initialized y.cls).before args s = true)
    (hcode : (Cond.code y bytes maxL ret).before args s = true) (hy : y.cls ≠ "java/lang/invoke/MethodHandle" ∧ y.cls ≠ "java/lang/invoke/VarHandle")
    {W9 : Nat} {Pre : Pt → Array Value → Prop} {Post : Pt → Array Value → Option Value → Pt → Prop} {PostX : Pt → Array Value → Addr → Pt → Prop} (hK : vx_Back l R p e below s args y 3 W9 Pre Post PostX)
    {g : JFrame} (hg : g.method = m) (hsize : g.locals.size = c.maxLocals) {argsL rest : List Value} (hlen : ∀ sig, parseMethodDescriptor y.desc = some sig → argsL.length = sig.parameters.length)
    (hstack : g.stack = argsL.reverse ++ rest) (hW : 2 * g.monitorRoom + (rest.map fun v => v.category).sum ≤ W9) (hdg : decode c.code g.pc = .ok (.invokestatic index, 3))
    (hpre : ∀ vm₁, s.WarmedH vm₁ → Pre ⟨T.setVm vm₁, locs, cells, slots⟩ argsL.toArray) :
    (∃ (v : Option Value) (vm₁ : Vm) (B : Pt), s.WarmedH vm₁ ∧ Stand p l e R s m args below meth c B.U B.locs B.cells B.slots ∧ Post ⟨T.setVm vm₁, locs, cells, slots⟩ argsL.toArray v B ∧
      ∀ target, Steps p.tables e below (B.U.setTop { g with pc := g.pc + 3, stack := v.toList ++ rest }) target → Steps p.tables e below (T.setTop g) target) ∨
    (∃ (q : Addr) (vm₁ : Vm) (B : Pt), s.WarmedH vm₁ ∧ Stand p l e R s m args below meth c B.U B.locs B.cells B.slots ∧ PostX ⟨T.setVm vm₁, locs, cells, slots⟩ argsL.toArray q B ∧
      Steps p.tables e below (T.setTop g) ((B.U.setTop { g with stack := rest }).pushFrame (.throwing q))) := by
  obtain ⟨mk, hnamed⟩ := Cond.code_named hcode
  obtain ⟨methM, cM, hmethM, -, -, -, -, -, -, hsigM⟩ := Cond.code_spec hnamed hcode
  have hstatic : methM.isStatic = true := Cond.static_spec hnamed hmethM hstat
  obtain ⟨kP, hkP, -⟩ := className_of_methodNamed hnamed
  have hinitP : kP.init = .initialized := Cond.initialized_spec (findClass_of_methodNamed hnamed) hkP hinit
  obtain ⟨vm₁, X₁, hstep₁⟩ := X.invokestatic hexec hown hlink hnamed hmethM hstatic hkP hinitP hy (g := g) hg (argsL := argsL) (rest := rest) (hlen _ hsigM) hstack hdg
  rcases hK m meth c ⟨T.setVm vm₁, locs, cells, slots⟩ { g with stack := rest } (.invokestatic index) mk argsL.toArray X₁ hg hsize hdg hW (X₁.named hnamed) (hpre vm₁ X₁.warmed) with ⟨v, B, X', hpost, hsteps⟩ | ⟨q, B, X', hpost, hsteps⟩
  · exact Or.inl ⟨v, vm₁, B, X₁.warmed, X', hpost, fun target h => hstep₁ _ fun acts => by rw [doInvoke_state]; exact hsteps.trans h⟩
  · exact Or.inr ⟨q, vm₁, B, X₁.warmed, X', hpost, hstep₁ _ fun acts => by rw [doInvoke_state]; exact hsteps⟩
end Calls
theorem vx_cls {s : State} {T : State} {vm₁ : Vm} {E : String} {k : ClassId} (hW : s.WarmedH vm₁) (h : (T.setVm vm₁).vm.findClass E = some k) : s.vm.findClass E = some k := by
  have h1 : vm₁.findClass E = some k := h
  rw [hW.alike.findClass] at h1
  exact h1
/-- the method's frame g, with q thrown over it -/
def vx_W (p : Program) (l : Launch) (e : Env) (R : Room) (s : State) (m : MethodId) (args : Array Value) (below : List Frame) (meth : Method) (c : Code) (H : Heap) (locs : List Loc) (cells slots : Nat) (Q : State → Prop) (g : JFrame) (q : Addr) : Prop :=
  ∀ T : State, T.heap = H → Stand p l e R s m args below meth c T locs cells slots → ∃ t, Steps p.tables e below ((T.setTop g).pushFrame (.throwing q)) t ∧ Q t
def vx_Run (p : Program) (l : Launch) (e : Env) (R : Room) (s : State) (m : MethodId) (args : Array Value) (below : List Frame) (meth : Method) (c : Code) (H : Heap) (locs : List Loc) (cells slots mc ms : Nat) (g : JFrame) (rest : List Value) (Qa : State → Outcome → State → Prop) (XC : String → State → State → Prop) (free : Addr → Prop) : Prop :=
  ∀ T : State, T.heap = H → Stand p l e R s m args below meth c T locs cells slots →
    (∃ (v : Option Value) (st₀ t T' : State) (L : List Loc), st₀.heap = H ∧ Stand p l e R s m args below meth c T' (locs ++ L) (cells + mc) (slots + ms) ∧ (∀ q ∈ L, free q.base) ∧ T'.heap = t.heap ∧ T'.vm = t.vm ∧ Qa st₀ (.returned v) t ∧
      Goes p e below T g T' { g with pc := g.pc + 3, stack := v.toList ++ rest }) ∨
    (∃ (q : Addr) (st₀ t T' : State) (L : List Loc) (E : String) (ce : Cell), st₀.heap = H ∧ Stand p l e R s m args below meth c T' (locs ++ L) (cells + mc) (slots + ms) ∧ (∀ z ∈ L, free z.base) ∧ T'.heap = t.heap ∧ T'.vm = t.vm ∧ XC E st₀ t ∧ t.heap[q]? = some ce ∧ ce.vm = .none ∧ s.vm.findClass E = some ce.cls ∧
      Steps p.tables e below (T.setTop g) ((T'.setTop { g with stack := rest }).pushFrame (.throwing q)))
def vx_X {S : Type} (px : S → Prop) (B : String → S → State → Prop) (A : Nat → Prop) : String → State → State → Prop := fun E st t => ∃ u : S, px u ∧ B E u t ∧ va_F A st t
section Runs
variable {p : Program} {l : Launch} {e : Env} {R : Room} {s : State} {m : MethodId} {args : Array Value} {below : List Frame} {meth : Method} {c : Code} {H : Heap} {locs : List Loc} {cells slots : Nat}
variable {y : MethodName} {bytes cc : ByteArray} {maxL nL mc ms n index : Nat} {ret : Option FieldType} {ws : List Cond} {rm : Room} {Pc : Array Value → State → Prop} {Qc : Array Value → State → Outcome → State → Prop} {XC : String → State → State → Prop} {free : Addr → Prop} {Ts : List Cond} {own C : String} {b : Addr} {As rest : List Value} {g : JFrame}
theorem vx_callBack (cb : CallB R s args own index y bytes maxL ret ws rm mc ms n) (hM : vx_Met l y ws rm Pc Qc XC mc ms free) (hbl : FrameBlind Pc) : vx_Back l R p e below s args y 3 8 (PreOf R mc ms Pc) (PostOf Qc mc ms free) (vx_Post XC mc ms free) := by
  obtain ⟨hrc, hrs, hfr, hlo, hws, hcw, -, hini, -⟩ := cb
  exact vx_back (bytes := bytes) (maxL := maxL) (ret := ret) hM hbl hrc hrs hfr hlo hws hcw (fun a' U hW => word_at hW (Or.inl (by first | rfl | simp [Cond.onTables, Cond.keeps, Cond.steady])) hini)
theorem vx_runV (S : CallFix p m c cc nL s args Ts own) (hM : vx_Met l y ws rm Pc Qc XC mc ms free) (cw : CallW R s args own C index y bytes maxL ret ws rm mc ms n) (hp : PreV s H C b Pc As)
    (hg : g.method = m) (hn : As.length = n) (hsize : g.locals.size = nL) (hstack : g.stack = As.reverse ++ .ref b :: rest) (hW : 2 * g.monitorRoom + (rest.map fun v => v.category).sum ≤ 8) (hdg : decode cc g.pc = .ok (.invokevirtual index, 3)) (hf : cells + mc ≤ R.cells ∧ slots + ms ≤ R.slots) :
    vx_Run p l e R s m args below meth c H locs cells slots mc ms g rest (Qc (Value.ref b :: As).toArray) XC free := by
  have hK : vx_Back l R p e below s args y 3 8 (PreOf R mc ms Pc) (PostOf Qc mc ms free) (vx_Post XC mc ms free) := vx_callBack cw.1 hM hp.1
  obtain ⟨⟨-, -, -, -, -, -, hcode, -, hy, hlen, hl⟩, hin, hse⟩ := cw
  obtain ⟨hx, hb, hml, ho, -⟩ := S
  obtain ⟨-, ⟨cellB, hcB, hoB, hclB⟩, hPc⟩ := hp
  intro T hT X
  rcases vx_callV X hx (C := C) (bytes := bytes) (maxL := maxL) (ret := ret) ho hl hin hse hcode hy hK (by rw [hT]; exact hcB) hoB hclB hg (hsize.trans hml.symm) (argsL := As) (rest := rest) (fun sig h => hn.trans (hlen sig h)) hstack hW (by rw [hb]; exact hdg)
    (fun vm₁ hW₁ => ⟨hf.1, hf.2, hPc (T.setVm vm₁) hT hW₁⟩) with ⟨v, vm₁, ⟨U', l2, c2, s2⟩, hW₁, X', ⟨g', mk, t, L, e1, e2, hq, h1, hL, h2, h3⟩, st⟩ | ⟨q, vm₁, ⟨U', l2, c2, s2⟩, hW₁, X', ⟨g', mk, t, L, E, ce, e1, e2, hq, hce, hcv, hcl, h1, hL, h2, h3⟩, st⟩
  · dsimp only [Pt.U, Pt.locs, Pt.cells, Pt.slots] at X' e1 e2 h1 h2 h3 st
    subst h1; subst h2; subst h3
    exact Or.inl ⟨v, (T.setVm vm₁).calling g' mk (Value.ref b :: As).toArray, t, U', L, hT, X', hL, e1, e2, hq, st⟩
  · dsimp only [Pt.U, Pt.locs, Pt.cells, Pt.slots] at X' e1 e2 h1 h2 h3 st hcl
    subst h1; subst h2; subst h3
    exact Or.inr ⟨q, (T.setVm vm₁).calling g' mk (Value.ref b :: As).toArray, t, U', L, E, ce, hT, X', hL, e1, e2, hq, hce, hcv, vx_cls hW₁ hcl, st⟩
theorem vx_runS (S : CallFix p m c cc nL s args Ts own) (hM : vx_Met l y ws rm Pc Qc XC mc ms free) (cw : CallB R s args own index y bytes maxL ret ws rm mc ms n ∧ (Cond.static y).before args s = true) (hp : PreS s H Pc As)
    (hg : g.method = m) (hn : As.length = n) (hsize : g.locals.size = nL) (hstack : g.stack = As.reverse ++ rest) (hW : 2 * g.monitorRoom + (rest.map fun v => v.category).sum ≤ 8) (hdg : decode cc g.pc = .ok (.invokestatic index, 3)) (hf : cells + mc ≤ R.cells ∧ slots + ms ≤ R.slots) :
    vx_Run p l e R s m args below meth c H locs cells slots mc ms g rest (Qc As.toArray) XC free := by
  have hK : vx_Back l R p e below s args y 3 8 (PreOf R mc ms Pc) (PostOf Qc mc ms free) (vx_Post XC mc ms free) := vx_callBack cw.1 hM hp.1
  obtain ⟨⟨-, -, -, -, -, -, hcode, hini, hy, hlen, hl⟩, hstt⟩ := cw
  obtain ⟨hx, hb, hml, ho, -⟩ := S
  intro T hT X
  rcases vx_callS X hx (bytes := bytes) (maxL := maxL) (ret := ret) ho hl hstt hini hcode hy hK hg (hsize.trans hml.symm) (argsL := As) (rest := rest) (fun sig h => hn.trans (hlen sig h)) hstack hW (by rw [hb]; exact hdg)
    (fun vm₁ hW₁ => ⟨hf.1, hf.2, hp.2 (T.setVm vm₁) hT hW₁⟩) with ⟨v, vm₁, ⟨U', l2, c2, s2⟩, hW₁, X', ⟨g', mk, t, L, e1, e2, hq, h1, hL, h2, h3⟩, st⟩ | ⟨q, vm₁, ⟨U', l2, c2, s2⟩, hW₁, X', ⟨g', mk, t, L, E, ce, e1, e2, hq, hce, hcv, hcl, h1, hL, h2, h3⟩, st⟩
  · dsimp only [Pt.U, Pt.locs, Pt.cells, Pt.slots] at X' e1 e2 h1 h2 h3 st
    subst h1; subst h2; subst h3
    exact Or.inl ⟨v, (T.setVm vm₁).calling g' mk As.toArray, t, U', L, hT, X', hL, e1, e2, hq, st⟩
  · dsimp only [Pt.U, Pt.locs, Pt.cells, Pt.slots] at X' e1 e2 h1 h2 h3 st hcl
    subst h1; subst h2; subst h3
    exact Or.inr ⟨q, (T.setVm vm₁).calling g' mk As.toArray, t, U', L, E, ce, hT, X', hL, e1, e2, hq, hce, hcv, vx_cls hW₁ hcl, st⟩
end Runs
section Rows
variable {p : Program} {l : Launch} {e : Env} {R : Room} {s : State} {m : MethodId} {args : Array Value} {below : List Frame} {meth : Method} {c : Code} {H : Heap} {locs : List Loc} {cells slots : Nat} {Q : State → Prop}
variable {mc ms : Nat} {free : Addr → Prop} {A0 A1 : Nat → Prop} {H0 : Heap} {a : Array Value} {pc : Nat} {ls : Array Slot} {st0 rest : List Value}
theorem vx_keep {st₀ t T' : State} {L : List Loc} (h0 : st₀.heap = H) (e1 : T'.heap = t.heap) (hS : va_S A0 H0 H locs) (hA : ∀ q, q < H.size → A1 q → A0 q) (hf : ∀ q, free q → A0 q) (hL : ∀ q ∈ L, free q.base) (hF : va_F A1 st₀ t) :
    H.size ≤ T'.heap.size ∧ (∀ q : Nat, q < H.size → ¬ A1 q → T'.heap[q]? = H[q]?) ∧ va_S A0 H0 T'.heap (locs ++ L) := by
  obtain ⟨hz, hk⟩ := hF
  rw [h0] at hz hk
  exact ⟨by rw [e1]; exact hz, fun q h1 h2 => by rw [e1]; exact hk q h1 h2,
    ⟨Nat.le_trans hS.1 (by rw [e1]; exact hz), fun q h1 h2 => by rw [e1, hk q (Nat.lt_of_lt_of_le h1 hS.1) (fun z => h2 (hA q (Nat.lt_of_lt_of_le h1 hS.1) z))]; exact hS.2.1 q h1 h2, fun q hq => by
      rcases List.mem_append.mp hq with h | h
      · exact hS.2.2 q h
      · exact hf _ (hL q h)⟩⟩
theorem vx_calli {S SX : Type} {post : Int32 → S → Prop} {px : SX → Prop} {B : S → State → Prop} {BX : String → SX → State → Prop} {AX : Nat → Prop} (hr : vx_Run p l e R s m args below meth c H locs cells slots mc ms (F0 m pc ls st0) rest (va_Qi post B A1 a) (vx_X px BX AX) free) (hS : va_S A0 H0 H locs) (hA : ∀ q, q < H.size → A1 q → A0 q) (hf : ∀ q, free q → A0 q) (hAX : ∀ q, q < H.size → AX q → A0 q)
    (kx : ∀ (E : String) (ce : Cell) (q9 : Addr) (u : SX) (t : State) (H1 : Heap) (locs1 : List Loc), t.heap = H1 → s.vm.Alike t.vm → px u → BX E u t → H.size ≤ H1.size → (∀ q : Nat, q < H.size → ¬ AX q → H1[q]? = H[q]?) → va_S A0 H0 H1 locs1 → H1[q9]? = some ce → ce.vm = .none → s.vm.findClass E = some ce.cls → vx_W p l e R s m args below meth c H1 locs1 (cells + mc) (slots + ms) Q (F0 m pc ls rest) q9)
    (kk : ∀ (r : Int32) (u : S) (t : State) (H1 : Heap) (locs1 : List Loc), t.heap = H1 → s.vm.Alike t.vm → post r u → B u t → H.size ≤ H1.size → (∀ q : Nat, q < H.size → ¬ A1 q → H1[q]? = H[q]?) → va_S A0 H0 H1 locs1 → W p l e R s m args below meth c H1 locs1 (cells + mc) (slots + ms) Q (F0 m (pc + 3) ls (.int r :: rest))) : W p l e R s m args below meth c H locs cells slots Q (F0 m pc ls st0) := by
  intro T hT X
  rcases hr T hT X with ⟨v, st₀, t, T', L, h0, X', hL, e1, e2, ⟨⟨r, u, hv, hp, hb⟩, hF⟩, st⟩ | ⟨q, st₀, t, T', L, E, ce, h0, X', hL, e1, e2, ⟨u, hp, hb, hF⟩, hce, hcv, hcl, st⟩
  · cases hv
    obtain ⟨k1, k2, k3⟩ := vx_keep h0 e1 hS hA hf hL hF
    obtain ⟨t2, a1, b1⟩ := kk r u t T'.heap (locs ++ L) e1.symm (by rw [← e2]; exact X'.warmed.alike) hp hb k1 k2 k3 T' rfl X'
    exact ⟨t2, st t2 a1, b1⟩
  · obtain ⟨k1, k2, k3⟩ := vx_keep h0 e1 hS hAX hf hL hF
    obtain ⟨t2, a1, b1⟩ := kx E ce q u t T'.heap (locs ++ L) e1.symm (by rw [← e2]; exact X'.warmed.alike) hp hb k1 k2 k3 (by rw [e1]; exact hce) hcv hcl T' rfl X'
    exact ⟨t2, st.trans a1, b1⟩
theorem vx_calll {S SX : Type} {post : Int64 → S → Prop} {px : SX → Prop} {B : S → State → Prop} {BX : String → SX → State → Prop} {AX : Nat → Prop} (hr : vx_Run p l e R s m args below meth c H locs cells slots mc ms (F0 m pc ls st0) rest (va_Ql post B A1 a) (vx_X px BX AX) free) (hS : va_S A0 H0 H locs) (hA : ∀ q, q < H.size → A1 q → A0 q) (hf : ∀ q, free q → A0 q) (hAX : ∀ q, q < H.size → AX q → A0 q)
    (kx : ∀ (E : String) (ce : Cell) (q9 : Addr) (u : SX) (t : State) (H1 : Heap) (locs1 : List Loc), t.heap = H1 → s.vm.Alike t.vm → px u → BX E u t → H.size ≤ H1.size → (∀ q : Nat, q < H.size → ¬ AX q → H1[q]? = H[q]?) → va_S A0 H0 H1 locs1 → H1[q9]? = some ce → ce.vm = .none → s.vm.findClass E = some ce.cls → vx_W p l e R s m args below meth c H1 locs1 (cells + mc) (slots + ms) Q (F0 m pc ls rest) q9)
    (kk : ∀ (r : Int64) (u : S) (t : State) (H1 : Heap) (locs1 : List Loc), t.heap = H1 → s.vm.Alike t.vm → post r u → B u t → H.size ≤ H1.size → (∀ q : Nat, q < H.size → ¬ A1 q → H1[q]? = H[q]?) → va_S A0 H0 H1 locs1 → W p l e R s m args below meth c H1 locs1 (cells + mc) (slots + ms) Q (F0 m (pc + 3) ls (.long r :: rest))) : W p l e R s m args below meth c H locs cells slots Q (F0 m pc ls st0) := by
  intro T hT X
  rcases hr T hT X with ⟨v, st₀, t, T', L, h0, X', hL, e1, e2, ⟨⟨r, u, hv, hp, hb⟩, hF⟩, st⟩ | ⟨q, st₀, t, T', L, E, ce, h0, X', hL, e1, e2, ⟨u, hp, hb, hF⟩, hce, hcv, hcl, st⟩
  · cases hv
    obtain ⟨k1, k2, k3⟩ := vx_keep h0 e1 hS hA hf hL hF
    obtain ⟨t2, a1, b1⟩ := kk r u t T'.heap (locs ++ L) e1.symm (by rw [← e2]; exact X'.warmed.alike) hp hb k1 k2 k3 T' rfl X'
    exact ⟨t2, st t2 a1, b1⟩
  · obtain ⟨k1, k2, k3⟩ := vx_keep h0 e1 hS hAX hf hL hF
    obtain ⟨t2, a1, b1⟩ := kx E ce q u t T'.heap (locs ++ L) e1.symm (by rw [← e2]; exact X'.warmed.alike) hp hb k1 k2 k3 (by rw [e1]; exact hce) hcv hcl T' rfl X'
    exact ⟨t2, st.trans a1, b1⟩
theorem vx_callf {S SX : Type} {post : UInt32 → S → Prop} {px : SX → Prop} {B : S → State → Prop} {BX : String → SX → State → Prop} {AX : Nat → Prop} (hr : vx_Run p l e R s m args below meth c H locs cells slots mc ms (F0 m pc ls st0) rest (va_Qf post B A1 a) (vx_X px BX AX) free) (hS : va_S A0 H0 H locs) (hA : ∀ q, q < H.size → A1 q → A0 q) (hf : ∀ q, free q → A0 q) (hAX : ∀ q, q < H.size → AX q → A0 q)
    (kx : ∀ (E : String) (ce : Cell) (q9 : Addr) (u : SX) (t : State) (H1 : Heap) (locs1 : List Loc), t.heap = H1 → s.vm.Alike t.vm → px u → BX E u t → H.size ≤ H1.size → (∀ q : Nat, q < H.size → ¬ AX q → H1[q]? = H[q]?) → va_S A0 H0 H1 locs1 → H1[q9]? = some ce → ce.vm = .none → s.vm.findClass E = some ce.cls → vx_W p l e R s m args below meth c H1 locs1 (cells + mc) (slots + ms) Q (F0 m pc ls rest) q9)
    (kk : ∀ (r : UInt32) (u : S) (t : State) (H1 : Heap) (locs1 : List Loc), t.heap = H1 → s.vm.Alike t.vm → post r u → B u t → H.size ≤ H1.size → (∀ q : Nat, q < H.size → ¬ A1 q → H1[q]? = H[q]?) → va_S A0 H0 H1 locs1 → W p l e R s m args below meth c H1 locs1 (cells + mc) (slots + ms) Q (F0 m (pc + 3) ls (.float r :: rest))) : W p l e R s m args below meth c H locs cells slots Q (F0 m pc ls st0) := by
  intro T hT X
  rcases hr T hT X with ⟨v, st₀, t, T', L, h0, X', hL, e1, e2, ⟨⟨r, u, hv, hp, hb⟩, hF⟩, st⟩ | ⟨q, st₀, t, T', L, E, ce, h0, X', hL, e1, e2, ⟨u, hp, hb, hF⟩, hce, hcv, hcl, st⟩
  · cases hv
    obtain ⟨k1, k2, k3⟩ := vx_keep h0 e1 hS hA hf hL hF
    obtain ⟨t2, a1, b1⟩ := kk r u t T'.heap (locs ++ L) e1.symm (by rw [← e2]; exact X'.warmed.alike) hp hb k1 k2 k3 T' rfl X'
    exact ⟨t2, st t2 a1, b1⟩
  · obtain ⟨k1, k2, k3⟩ := vx_keep h0 e1 hS hAX hf hL hF
    obtain ⟨t2, a1, b1⟩ := kx E ce q u t T'.heap (locs ++ L) e1.symm (by rw [← e2]; exact X'.warmed.alike) hp hb k1 k2 k3 (by rw [e1]; exact hce) hcv hcl T' rfl X'
    exact ⟨t2, st.trans a1, b1⟩
theorem vx_calld {S SX : Type} {post : UInt64 → S → Prop} {px : SX → Prop} {B : S → State → Prop} {BX : String → SX → State → Prop} {AX : Nat → Prop} (hr : vx_Run p l e R s m args below meth c H locs cells slots mc ms (F0 m pc ls st0) rest (va_Qd post B A1 a) (vx_X px BX AX) free) (hS : va_S A0 H0 H locs) (hA : ∀ q, q < H.size → A1 q → A0 q) (hf : ∀ q, free q → A0 q) (hAX : ∀ q, q < H.size → AX q → A0 q)
    (kx : ∀ (E : String) (ce : Cell) (q9 : Addr) (u : SX) (t : State) (H1 : Heap) (locs1 : List Loc), t.heap = H1 → s.vm.Alike t.vm → px u → BX E u t → H.size ≤ H1.size → (∀ q : Nat, q < H.size → ¬ AX q → H1[q]? = H[q]?) → va_S A0 H0 H1 locs1 → H1[q9]? = some ce → ce.vm = .none → s.vm.findClass E = some ce.cls → vx_W p l e R s m args below meth c H1 locs1 (cells + mc) (slots + ms) Q (F0 m pc ls rest) q9)
    (kk : ∀ (r : UInt64) (u : S) (t : State) (H1 : Heap) (locs1 : List Loc), t.heap = H1 → s.vm.Alike t.vm → post r u → B u t → H.size ≤ H1.size → (∀ q : Nat, q < H.size → ¬ A1 q → H1[q]? = H[q]?) → va_S A0 H0 H1 locs1 → W p l e R s m args below meth c H1 locs1 (cells + mc) (slots + ms) Q (F0 m (pc + 3) ls (.double r :: rest))) : W p l e R s m args below meth c H locs cells slots Q (F0 m pc ls st0) := by
  intro T hT X
  rcases hr T hT X with ⟨v, st₀, t, T', L, h0, X', hL, e1, e2, ⟨⟨r, u, hv, hp, hb⟩, hF⟩, st⟩ | ⟨q, st₀, t, T', L, E, ce, h0, X', hL, e1, e2, ⟨u, hp, hb, hF⟩, hce, hcv, hcl, st⟩
  · cases hv
    obtain ⟨k1, k2, k3⟩ := vx_keep h0 e1 hS hA hf hL hF
    obtain ⟨t2, a1, b1⟩ := kk r u t T'.heap (locs ++ L) e1.symm (by rw [← e2]; exact X'.warmed.alike) hp hb k1 k2 k3 T' rfl X'
    exact ⟨t2, st t2 a1, b1⟩
  · obtain ⟨k1, k2, k3⟩ := vx_keep h0 e1 hS hAX hf hL hF
    obtain ⟨t2, a1, b1⟩ := kx E ce q u t T'.heap (locs ++ L) e1.symm (by rw [← e2]; exact X'.warmed.alike) hp hb k1 k2 k3 (by rw [e1]; exact hce) hcv hcl T' rfl X'
    exact ⟨t2, st.trans a1, b1⟩
theorem vx_callv {S SX : Type} {post : S → Prop} {px : SX → Prop} {B : S → State → Prop} {BX : String → SX → State → Prop} {AX : Nat → Prop} (hr : vx_Run p l e R s m args below meth c H locs cells slots mc ms (F0 m pc ls st0) rest (va_Qv post B A1 a) (vx_X px BX AX) free) (hS : va_S A0 H0 H locs) (hA : ∀ q, q < H.size → A1 q → A0 q) (hf : ∀ q, free q → A0 q) (hAX : ∀ q, q < H.size → AX q → A0 q)
    (kx : ∀ (E : String) (ce : Cell) (q9 : Addr) (u : SX) (t : State) (H1 : Heap) (locs1 : List Loc), t.heap = H1 → s.vm.Alike t.vm → px u → BX E u t → H.size ≤ H1.size → (∀ q : Nat, q < H.size → ¬ AX q → H1[q]? = H[q]?) → va_S A0 H0 H1 locs1 → H1[q9]? = some ce → ce.vm = .none → s.vm.findClass E = some ce.cls → vx_W p l e R s m args below meth c H1 locs1 (cells + mc) (slots + ms) Q (F0 m pc ls rest) q9)
    (kk : ∀ (u : S) (t : State) (H1 : Heap) (locs1 : List Loc), t.heap = H1 → s.vm.Alike t.vm → post u → B u t → H.size ≤ H1.size → (∀ q : Nat, q < H.size → ¬ A1 q → H1[q]? = H[q]?) → va_S A0 H0 H1 locs1 → W p l e R s m args below meth c H1 locs1 (cells + mc) (slots + ms) Q (F0 m (pc + 3) ls (rest))) : W p l e R s m args below meth c H locs cells slots Q (F0 m pc ls st0) := by
  intro T hT X
  rcases hr T hT X with ⟨v, st₀, t, T', L, h0, X', hL, e1, e2, ⟨⟨u, hv, hp, hb⟩, hF⟩, st⟩ | ⟨q, st₀, t, T', L, E, ce, h0, X', hL, e1, e2, ⟨u, hp, hb, hF⟩, hce, hcv, hcl, st⟩
  · cases hv
    obtain ⟨k1, k2, k3⟩ := vx_keep h0 e1 hS hA hf hL hF
    obtain ⟨t2, a1, b1⟩ := kk u t T'.heap (locs ++ L) e1.symm (by rw [← e2]; exact X'.warmed.alike) hp hb k1 k2 k3 T' rfl X'
    exact ⟨t2, st t2 a1, b1⟩
  · obtain ⟨k1, k2, k3⟩ := vx_keep h0 e1 hS hAX hf hL hF
    obtain ⟨t2, a1, b1⟩ := kx E ce q u t T'.heap (locs ++ L) e1.symm (by rw [← e2]; exact X'.warmed.alike) hp hb k1 k2 k3 (by rw [e1]; exact hce) hcv hcl T' rfl X'
    exact ⟨t2, st.trans a1, b1⟩
/-- caught by the row x of this method's table; the rows ahead don't take it -/
theorem vx_catch {own name : String} {E : String} {ce : Cell} {q : Addr} (hown : s.vm.findClass own = some m.cls) (pre : List ExceptionTableEntry) (x : ExceptionTableEntry) (suf : List ExceptionTableEntry) (hsplit : c.exceptionTable.toList = pre ++ x :: suf)
    (hpass : ∀ z ∈ pre, covers z pc = false ∨ (z.catchType ≠ 0 ∧ ∃ nm : String, (Cond.classLink own z.catchType nm).before args s = true ∧ va_Nc E nm s)) (hx : covers x pc = true) (h0 : x.catchType ≠ 0)
    (hlink : (Cond.classLink own x.catchType name).before args s = true) (hcast : (Cond.castable E name).before args s = true) (hcell : H[q]? = some ce) (hv : ce.vm = .none) (hcl : s.vm.findClass E = some ce.cls)
    (kk : W p l e R s m args below meth c H locs cells slots Q (F0 m x.handlerPc ls [.ref q])) : vx_W p l e R s m args below meth c H locs cells slots Q (F0 m pc ls rest) q := by
  intro T hT X
  have hpl : e.platform.magicAccessors = ({} : Platform).magicAccessors := by rw [X.admits.platform]
  obtain ⟨c3, c4, hc3, hc4, hasg⟩ := Cond.castable_spec hcast
  cases Option.some.inj (hc3.symm.trans hcl)
  obtain ⟨c5, hc5, hcl5⟩ := Cond.classLink_spec hown hlink e.platform hpl
  cases Option.some.inj (hc4.symm.trans hc5)
  obtain ⟨vm', X', st⟩ := X.thenCaughtThrough q (g := F0 m pc ls rest) rfl (Steps.refl _) (by rw [hT]; exact hcell) (by rw [hv]; rfl) (by obtain ⟨k9, h9, -⟩ := Vm.findClass_spec hcl; exact ⟨k9, h9⟩) pre x suf hsplit
    (fun z hz => by
      rcases hpass z hz with h | ⟨hz0, nm, hl1, hn1⟩
      · exact Or.inl h
      · obtain ⟨c6, hc6, hcl6⟩ := Cond.classLink_spec hown hl1 e.platform hpl
        obtain ⟨a8, b8, h1, h2, h3⟩ := hn1
        cases Option.some.inj (h1.symm.trans hcl)
        cases Option.some.inj (h2.symm.trans hc6)
        exact Or.inr ⟨hz0, _, hcl6, h3⟩) hx (Or.inr ⟨h0, c4, hcl5, hasg⟩)
  obtain ⟨t, a1, b1⟩ := kk (T.setVm vm') hT X'
  exact ⟨t, st.trans a1, b1⟩
end Rows
section Ends
variable {p : Program} {l : Launch} {e : Env} {R : Room} {s : State} {m : MethodId} {args : Array Value} {below : List Frame} {meth : Method} {c : Code} {H : Heap} {locs : List Loc} {cells slots : Nat} {Q : State → Prop}
variable {mc ms : Nat} {free : Addr → Prop} {A0 A1 : Nat → Prop} {H0 : Heap} {a : Array Value} {ls : Array Slot} {st0 rest : List Value}
variable {Qc : Array Value → State → Outcome → State → Prop} {XC : String → State → State → Prop}
/-- what a body that may throw owes at its end -/
def vx_MQ (below : List Frame) (Qc : Array Value → State → Outcome → State → Prop) (XC : String → State → State → Prop) (a : Array Value) (s : State) (mc ms : Nat) (free : Addr → Prop) : State → Prop := fun t =>
  ∃ o, t.status = .running ∧ Ended t below o ∧ vx_Q Qc XC mc ms free a s o t
theorem vx_ret {g : JFrame} {mc ms : Nat} (k : W p l e R s m args below meth c H locs cells slots (MQ below Qc args s mc ms free) g) : W p l e R s m args below meth c H locs cells slots (vx_MQ below Qc XC args s mc ms free) g := by
  intro T hT X
  obtain ⟨t, a1, o, b1, b2, b3, b4⟩ := k T hT X
  exact ⟨t, a1, o, b1, b2, Or.inl ⟨b3, b4⟩⟩
/-- not caught here: it goes on to the caller -/
theorem vx_widen {g : JFrame} {q : Addr} {k n : Nat} (h1 : cells ≤ k) (h2 : slots ≤ n) (kk : vx_W p l e R s m args below meth c H locs k n Q g q) : vx_W p l e R s m args below meth c H locs cells slots Q g q := fun T hT X => kk T hT (stand_widen X h1 h2)
theorem vx_out {pc : Nat} {E : String} {ce : Cell} {q : Addr} {mc ms : Nat} (hout : ∀ x ∈ c.exceptionTable.toList, covers x pc = false) (hlocks : meth.locks = false) (hcell : H[q]? = some ce) (hv : ce.vm = .none) (hcl : s.vm.findClass E = some ce.cls)
    (hx : ∀ t : State, t.heap = H → s.vm.Alike t.vm → XC E s t) (hf : ∀ z ∈ locs, free z.base) (hc : cells ≤ mc) (hs : slots ≤ ms) :
    vx_W p l e R s m args below meth c H locs cells slots (vx_MQ below Qc XC args s mc ms free) (F0 m pc ls rest) q := by
  intro T hT X
  obtain ⟨st1, hrun, hend, hW, hsm⟩ := X.leaveThrown q (g := F0 m pc ls rest) rfl rfl rfl hout hlocks
  have hcell9 : (T.setFrames (.throwing q :: below)).heap[q]? = some ce := by
    show T.heap[q]? = some ce
    rw [hT]; exact hcell
  exact ⟨_, st1, .threw q, hrun, hend, Or.inr ⟨q, rfl, E, ce, locs, hx _ hT hW.alike, hcell9, hv, hcl, hW, hsm.mono hc hs, hf⟩⟩
theorem vx_frame {U : State} {k n : Nat} (h : s.sameButNew ({ U with vm := s.vm } : State) locs k n) : s.heap.size ≤ U.heap.size ∧ ∀ q : Nat, q < s.heap.size → (∀ z ∈ locs, z.base ≠ q) → U.heap[q]? = s.heap[q]? := by
  obtain ⟨-, h2, -, -, -, h6⟩ := h
  refine ⟨h2, fun q hq hz => ?_⟩
  obtain ⟨c9, e1, e2, e3, e4⟩ := h6 q _ (Array.getElem?_eq_getElem hq)
  have hs : c9.slots = (s.heap[q]).slots := Array.ext_getElem? fun i => e4 i fun hm => hz _ hm rfl
  have h9 : c9 = s.heap[q] := by
    rw [hs] at e2
    exact e2
  have e5 : U.heap[q]? = some c9 := e1
  rw [e5, h9, Array.getElem?_eq_getElem hq]
/-- the words of a throw but the four that speak of the heap -/
def vx_no (w : Cond) : Bool := decide (w ≠ .isRef (.static Bundle.tN "UNASSIGNED_STACK" Bundle.steD)) && decide (w ≠ .isRef (.static Bundle.tN "SUPPRESSED_SENTINEL" Bundle.listD)) && decide (w ≠ .laysStatic Bundle.tN "UNASSIGNED_STACK" Bundle.steD) && decide (w ≠ .laysStatic Bundle.tN "SUPPRESSED_SENTINEL" Bundle.listD)
def vx_at0 (own : String) (ic : Nat) (X : String) (names : List String) : List Cond := (Bundle.ownAtoms0 own ic X names).filter vx_no
def vx_atS (own : String) (ic : Nat) (X : String) (names : List String) : List Cond := (Bundle.ownAtoms own ic X names).filter vx_no
/-- a word that the tables alone decide, or a good one -/
def vx_ot (w : Cond) : Bool := w.onTables || goodWord w
theorem vx_ot_at {args a' : Array Value} {s U : State} {w : Cond} (hW : s.WarmedH U.vm) (hvm : s.vm = U.vm) (hg : vx_ot w = true) (h : w.before args s = true) : w.before a' U = true := by
  simp only [vx_ot, Bool.or_eq_true] at hg
  rcases hg with hg | hg
  · exact va_tabs hg hvm h
  · exact word_at hW (good_of_word hg) h
/-- a list's words: the good ones out of the method's own list, the others by premises of their own -/
theorem vx_hat {args : Array Value} {s : State} {L B : List Cond} (h1 : ∀ w ∈ L.filter goodWord, w.before args s = true) (h2 : ∀ w ∈ L.filter (fun w => !goodWord w), w ∈ B) (h3 : ∀ w ∈ B, w.before args s = true) : ∀ w ∈ L, w.before args s = true := by
  intro w hw
  by_cases g : goodWord w = true
  · exact h1 w (List.mem_filter.mpr ⟨hw, g⟩)
  · refine h3 w (h2 w (List.mem_filter.mpr ⟨hw, ?_⟩))
    show (!goodWord w) = true
    cases hgw : goodWord w
    · rfl
    · exact absurd hgw g
theorem vx_c {args : Array Value} {s : State} {w : Cond} {B : List Cond} (h : w.before args s = true) (t : ∀ w ∈ B, w.before args s = true) : ∀ w' ∈ w :: B, w'.before args s = true := fun w' h' => (List.mem_cons.mp h').elim (fun e => by rw [e]; exact h) (t w')
theorem vx_n {args : Array Value} {s : State} : ∀ w ∈ ([] : List Cond), w.before args s = true := fun _ h => nomatch h
theorem vx_own {args : Array Value} {s : State} {L : List Cond} (h1 : ∀ w ∈ L.filter vx_no, w.before args s = true)
    (hU : (Cond.isRef (.static Bundle.tN "UNASSIGNED_STACK" Bundle.steD)).before args s = true) (hN : (Cond.isRef (.static Bundle.tN "SUPPRESSED_SENTINEL" Bundle.listD)).before args s = true)
    (lU : (Cond.laysStatic Bundle.tN "UNASSIGNED_STACK" Bundle.steD).before args s = true) (lN : (Cond.laysStatic Bundle.tN "SUPPRESSED_SENTINEL" Bundle.listD).before args s = true) : ∀ w ∈ L, w.before args s = true := by
  intro w hw
  by_cases e1 : w = .isRef (.static Bundle.tN "UNASSIGNED_STACK" Bundle.steD)
  · rw [e1]; exact hU
  · by_cases e2 : w = .isRef (.static Bundle.tN "SUPPRESSED_SENTINEL" Bundle.listD)
    · rw [e2]; exact hN
    · by_cases e3 : w = .laysStatic Bundle.tN "UNASSIGNED_STACK" Bundle.steD
      · rw [e3]; exact lU
      · by_cases e4 : w = .laysStatic Bundle.tN "SUPPRESSED_SENTINEL" Bundle.listD
        · rw [e4]; exact lN
        · exact h1 w (List.mem_filter.mpr ⟨hw, by unfold vx_no; rw [decide_eq_true e1, decide_eq_true e2, decide_eq_true e3, decide_eq_true e4]; rfl⟩)
/-- where a static field lies, its class's statics cell in H -/
def vx_L (C n d : String) (A : Nat → Prop) (U : State) (H : Heap) : Prop := ∃ (c : ClassId) (k : Class) (i : Nat) (f : Field) (a : Nat) (cell : Cell), U.vm.findClass C = some c ∧ U.fieldFound? C n d = some (c, k, i, f) ∧ f.isStatic = true ∧ k.statics = some a ∧ H[a]? = some cell ∧ cell.vm.isStatics = true ∧ cell.cls = c ∧ f.slot < cell.slots.size ∧ k.staticTypes[f.slot]? = some f.type ∧ ¬ A a
theorem vx_L.moved {C n d : String} {A : Nat → Prop} {u U : State} {H : Heap} (hvm : u.vm.Alike U.vm) (h : vx_L C n d A u H) : vx_L C n d A U H := by
  obtain ⟨c, k, i, f, a, cell, h1, h2, h3, h4, h5, h6, h7, h8, h9, h10⟩ := h
  obtain ⟨k', hi', he⟩ := State.fieldFound?_setVm hvm h2
  exact ⟨c, k', i, f, a, cell, by rw [hvm.findClass]; exact h1, hi', h3, by rw [he]; exact h4, h5, h6, h7, h8, by rw [he]; exact h9, h10⟩
theorem vx_L.kept {C n d : String} {A : Nat → Prop} {U : State} {H H1 : Heap} (h : vx_L C n d A U H) (hq : ∀ a : Nat, a < H.size → ¬ A a → H1[a]? = H[a]?) : vx_L C n d A U H1 := by
  obtain ⟨c, k, i, f, a, cell, h1, h2, h3, h4, h5, h6, h7, h8, h9, h10⟩ := h
  exact ⟨c, k, i, f, a, cell, h1, h2, h3, h4, by rw [hq a (Array.getElem?_eq_some_iff.mp h5).1 h10]; exact h5, h6, h7, h8, h9, h10⟩
theorem vx_L.narrow {C n d : String} {A B : Nat → Prop} {U : State} {H : Heap} (h : vx_L C n d A U H) (hAB : ∀ q, B q → A q) : vx_L C n d B U H := by
  obtain ⟨c, k, i, f, a, cell, h1, h2, h3, h4, h5, h6, h7, h8, h9, h10⟩ := h
  exact ⟨c, k, i, f, a, cell, h1, h2, h3, h4, h5, h6, h7, h8, h9, fun z => h10 (hAB _ z)⟩
theorem vx_L.word {C n d : String} {A : Nat → Prop} {s : State} {args : Array Value} (h : vx_L C n d A s s.heap) : (Cond.laysStatic C n d).before args s = true := by
  obtain ⟨c, k, i, f, a, cell, h1, h2, h3, h4, h5, h6, h7, h8, h9, -⟩ := h
  show (Cond.laysStatic C n d).holds args s none s [] = true
  exact Cond.laysStatic_of h1 h2 h3 h4 h5 h6 h7 h8 h9
/-- .. and what it holds: null or some reference -/
def vx_Zq (C n d : String) (A : Nat → Prop) (U : State) (H : Heap) : Prop := va_Zq C n d A U H ∧ vx_L C n d A U H
theorem vx_Zq.moved {C n d : String} {A : Nat → Prop} {u U : State} {H : Heap} (hvm : u.vm.Alike U.vm) (h : vx_Zq C n d A u H) : vx_Zq C n d A U H := ⟨va_Zq.moved hvm h.1, vx_L.moved hvm h.2⟩
theorem vx_Zq.kept {C n d : String} {A : Nat → Prop} {U : State} {H H1 : Heap} (h : vx_Zq C n d A U H) (hq : ∀ a : Nat, a < H.size → ¬ A a → H1[a]? = H[a]?) : vx_Zq C n d A U H1 := ⟨va_Zq.kept h.1 hq, vx_L.kept h.2 hq⟩
theorem vx_Zq.narrow {C n d : String} {A B : Nat → Prop} {U : State} {H : Heap} (h : vx_Zq C n d A U H) (hAB : ∀ q, B q → A q) : vx_Zq C n d B U H := ⟨va_Zq.narrow h.1 hAB, vx_L.narrow h.2 hAB⟩
theorem vx_Zqof {args : Array Value} {s : State} {C n d : String} {A : Nat → Prop} (hl : (Cond.laysStatic C n d).before args s = true) (hini : (Cond.initialized C).before args s = true) (h : (Cond.isRef (.static C n d)).before args s = true) (hA : ∀ a : Nat, a < s.heap.size → ¬ A a) : vx_Zq C n d A s s.heap := by
  refine ⟨va_Zqof hl hini h hA, ?_⟩
  obtain ⟨c, k, i, f, a, cell, h1, h2, h3, h4, h5, h6, h7, h8, h9⟩ := Cond.laysStatic_spec hl
  exact ⟨c, k, i, f, a, cell, h1, h2, h3, h4, h5, h6, h7, h8, h9, hA a (Array.getElem?_eq_some_iff.mp h5).1⟩
theorem vx_isRef {C n d : String} {v : Value} {A : Nat → Prop} {s : State} {args : Array Value} (h : va_Z C n d v A s s.heap) (hv : v.isRef = true) : (Cond.isRef (.static C n d)).before args s = true := by
  obtain ⟨cf, kf, fi, f, a, cell, h1, h2, h3, h4, h5, h6, h7, -⟩ := h
  have he : (Term.static C n d).eval args s none [] s = some v := by
    simp [Term.eval, State.fieldNamed?, h1, h2, h4, h5, h6, h7]
  simp only [Cond.before, Cond.holds, Cond.value, he]
  cases v <;> simp_all [Value.isRef]
theorem vx_isRefq {C n d : String} {A : Nat → Prop} {s : State} {args : Array Value} (h : va_Zq C n d A s s.heap) : (Cond.isRef (.static C n d)).before args s = true := by
  rcases h with h | ⟨t, h⟩
  · exact vx_isRef h rfl
  · exact vx_isRef h rfl
/-- the same frame, seen from here: as if the method were called anew in this heap -/
theorem vx_rebase {T : State} (X : Stand p l e R s m args below meth c T locs cells slots) {R' : Room} (hf : R'.frames ≤ R.frames) (hl : R'.locals ≤ R.locals) (hc : cells + R'.cells ≤ R.cells) (hs : slots + R'.slots ≤ R.slots) :
    Stand p l e R' ((T.setVm s.vm).setFrames (.invoking m args :: below)) m args below meth c T [] 0 0 := by
  have htop : (T.setVm s.vm).topJava?.isSome := X.here.top
  have hF : ((T.setVm s.vm).setFrames (.invoking m args :: below)).frames = .invoking m args :: below := State.frames_setFrames _ (State.cur_lt_of_top htop)
  obtain ⟨g₀, hg0⟩ := Option.isSome_iff_exists.mp htop
  obtain ⟨r, hr⟩ := State.topJava?_eq_some.mp hg0
  have hl9 : e.platform.stackLimits (T.setVm s.vm).me = e.platform.stackLimits s.me := X.limits
  have hb9 : (T.setVm s.vm).me.stackBytes = s.me.stackBytes := X.bytes
  refine ⟨X.admits, X.cas, X.clock, hF, ?_, X.hears, X.method, X.code, X.here, X.tail, X.warmed, ?_, ?_, ?_⟩
  · have h := X.room
    have hU : ((T.setVm s.vm).setFrames (.invoking m args :: below)).localsInUse = s.localsInUse := by
      rw [State.localsInUse_invoking hF (meth := meth) (c := c) X.method X.code, State.localsInUse_invoking X.frames X.method X.code]
    simp only [State.hasRoom, Bool.and_eq_true, decide_eq_true_eq] at h ⊢
    obtain ⟨⟨⟨⟨h1, h2, h3, h4, h5, h6⟩, h7⟩, h8⟩, h9⟩ := h
    rw [X.frames, List.length_cons] at h2 h3
    have q1 := X.heapSize
    have q2 := X.used
    simp only [hF, hU, List.length_cons, State.stackLimits_setFrames, State.stackBytes_setFrames, hl9, hb9]
    refine ⟨⟨⟨⟨by omega, by omega, by omega, by omega, by omega, h6⟩, ?_⟩, ?_⟩, X.book⟩
    · show T.heap.size + R'.cells ≤ e.platform.maxCells
      omega
    · show T.slotsUsed + R'.slots ≤ e.platform.maxSlots
      omega
  · rw [State.stackLimits_setFrames]; rfl
  · rw [State.stackBytes_setFrames]; rfl
  · refine ⟨?_, Nat.le_refl _, Nat.le_refl _, ?_, ?_, fun a c9 h9 => ⟨c9, h9, rfl, rfl, fun _ _ => rfl⟩⟩
    · obtain ⟨t, ht, -⟩ := State.frames_cons hr
      show T.setVm s.vm = { ((T.setVm s.vm).setFrames (.invoking m args :: below)).setFrames (T.setVm s.vm).frames with heap := T.heap, slotsUsed := T.slotsUsed }
      rw [State.setFrames_setFrames, State.setFrames_self ht]
      rfl
    · show T.slotsUsed = T.slotsUsed + ((T.heap.toList.drop T.heap.size).map (·.slots.size)).sum
      rw [List.drop_eq_nil_of_le (Nat.le_of_eq Array.length_toList)]
      rfl
    · show ((T.heap.toList.drop T.heap.size).map (·.slots.size)).sum ≤ 0
      rw [List.drop_eq_nil_of_le (Nat.le_of_eq Array.length_toList)]
      exact Nat.le_refl _
/-- 'throw new E()': new; dup; invokespecial; athrow -/
theorem vx_throw0 {cc : ByteArray} {pc : Nat} (hexec : p.tables.exec = Jvm.exec) (hb : c.code = cc) (hl : l.stackTraces = false) {own cls : String} {names : List String} {ik ic mc ms : Nat} {A : Nat → Prop}
    (hown : s.vm.findClass own = some m.cls) (hcls : Bundle.fit cls = true) (hnames : ∀ n ∈ names, Bundle.fit n = true)
    (hk : (Cond.classLink own ik cls).before args s = true) (hini : (Cond.initialized cls).before args s = true) (hat : ∀ w ∈ vx_at0 own ic cls names, w.before args s = true)
    (hgood : ∀ w ∈ Cond.classLink own ik cls :: Cond.initialized cls :: vx_at0 own ic cls names, vx_ot w = true)
    (hU : vx_Zq Bundle.tN "UNASSIGNED_STACK" Bundle.steD A s s.heap) (hN : vx_Zq Bundle.tN "SUPPRESSED_SENTINEL" Bundle.listD A s s.heap) (hS : va_S A s.heap H locs) (hsize : ls.size = c.maxLocals)
    (d0 : decode cc pc = .ok (.new ik, 3)) (d3 : decode cc (pc + 3) = .ok (.dup, 1)) (d4 : decode cc (pc + 4) = .ok (.invokespecial ic, 3)) (d7 : decode cc (pc + 7) = .ok (.athrow, 1))
    (hout : ∀ x ∈ c.exceptionTable.toList, covers x (pc + 7) = false)
    (hRframes : names.length + 3 < R.frames) (hRlocals : (rest.map fun v => v.category).sum + (13 * (names.length + 1) + 42) ≤ R.locals) (hRcells : cells + 1 ≤ R.cells) (hRslots : slots + 6 ≤ R.slots) (hlocks : meth.locks = false)
    (hx : ∀ t : State, s.vm.Alike t.vm → H.size ≤ t.heap.size → (∀ q : Nat, q < H.size → t.heap[q]? = H[q]?) → XC cls s t)
    (hf : ∀ z ∈ locs, free z.base) (hc : cells + 1 ≤ mc) (hs : slots + 6 ≤ ms) :
    W p l e R s m args below meth c H locs cells slots (vx_MQ below Qc XC args s mc ms free) (F0 m pc ls rest) := by
  intro T hT X
  have htr : e.platform.stackTraces = false := (show e.platform.stackTraces = l.stackTraces by rw [X.admits.platform]).trans hl
  have Y := vx_rebase X (R' := { frames := R.frames, locals := R.locals, cells := 1, slots := 6 }) (Nat.le_refl _) (Nat.le_refl _) hRcells hRslots
  obtain ⟨s', hA⟩ : ∃ z, z = (T.setVm s.vm).setFrames (.invoking m args :: below) := ⟨_, rfl⟩
  rw [← hA] at Y
  have hvm : s'.vm = s.vm := by rw [hA]; rfl
  have hhp : s'.heap = H := by rw [hA]; exact hT
  have hW0 : s.WarmedH s'.vm := by rw [hvm]; exact State.WarmedH.refl s
  have hat' : ∀ w ∈ vx_at0 own ic cls names, w.before args s' = true := fun w hw => vx_ot_at hW0 hvm.symm (hgood w (List.mem_cons_of_mem _ (List.mem_cons_of_mem _ hw))) (hat w hw)
  have hk' : (Cond.classLink own ik cls).before args s' = true := vx_ot_at hW0 hvm.symm (hgood _ List.mem_cons_self) hk
  have hini' : (Cond.initialized cls).before args s' = true := vx_ot_at hW0 hvm.symm (hgood _ (List.mem_cons_of_mem _ List.mem_cons_self)) hini
  have hU' : vx_Zq Bundle.tN "UNASSIGNED_STACK" Bundle.steD A s' s'.heap := by rw [hhp]; exact vx_Zq.moved hW0.alike (hU.kept hS.2.1)
  have hN' : vx_Zq Bundle.tN "SUPPRESSED_SENTINEL" Bundle.listD A s' s'.heap := by rw [hhp]; exact vx_Zq.moved hW0.alike (hN.kept hS.2.1)
  have h : ∀ w ∈ Bundle.ownAtoms0 own ic cls names, w.before args s' = true := vx_own hat' (vx_isRefq hU'.1) (vx_isRefq hN'.1) hU'.2.word hN'.2.word
  have hown' : s'.vm.findClass own = some m.cls := by rw [hvm]; exact hown
  have hins : (Cond.instantiable cls 6).before args s' = true := h _ (by simp [Bundle.ownAtoms0])
  obtain ⟨vm₁, cX, kX, hfX, hkX, -, -, X₁, st1⟩ := Y.newCold hexec (own := own) (C := cls) (index := ik) (n := 6) hown' hk' hins hini'
    (g := F0 m pc ls rest) rfl (by rw [hb]; exact d0) (Nat.le_refl _) (Nat.le_refl _)
  generalize hT1 : (T.setVm vm₁).pushCell { cls := cX, slots := kX.instanceTypes.map defaultValue, vm := .none } = T1 at X₁ st1
  have hcat : (Value.ref T.heap.size).category = 1 := rfl
  have hcellA : T1.heap[T.heap.size]? = some (freshCell cX kX) := by rw [← hT1]; exact State.heap_pushCell_size _ _
  have d3' : decode c.code (pc + 3) = .ok (.dup, 1) := by rw [hb]; exact d3
  obtain ⟨U, hsteps, hrun, hend, hW, hsame, ce, hce, hO⟩ := X₁.ctorThrow0 hexec htr (own := own) (cls := cls) (names := names) (ic := ic) hown' hcls hnames h (fun x hx => nomatch hx) hfX hkX hcellA (by rw [hhp, hT]; exact Nat.le_refl _)
    (g := { method := m, pc := pc + 4, locals := ls, stack := .ref T.heap.size :: .ref T.heap.size :: rest, locked := none }) rfl hsize rfl rfl (rest := rest) rfl
    (by rw [hb]; exact d4) (by rw [hb]; exact d7) hout hRframes (by simp only [List.map_cons, List.sum_cons, hcat]; omega) hlocks
  obtain ⟨f1, f2⟩ := vx_frame hsame
  rw [hhp] at f1 f2
  have hWs : s.WarmedH U.vm := State.WarmedH.trans hW0 hW
  have hcl : s.vm.findClass cls = some ce.cls := by
    have h9 := hO.cls
    rw [hvm] at h9
    exact h9
  have hall : s.sameButNew ({ U with vm := s.vm } : State) locs mc ms := by
    subst hA
    obtain ⟨e1, e2⟩ := hsame
    rw [State.setFrames_setFrames] at e1
    have h2 : (T.setVm s.vm).sameButNew ({ U with vm := s.vm } : State) [] (0 + 1) (0 + 6) := ⟨e1, e2⟩
    have h3 := X.same.trans h2
    rw [List.append_nil] at h3
    exact h3.mono hc hs
  refine ⟨U, ?_, .threw T.heap.size, hrun, hend, Or.inr ⟨T.heap.size, rfl, cls, ce, locs, hx U hWs.alike f1 (fun q hq => f2 q hq (fun z hz => nomatch hz)), hce, hO.vm, hcl, hWs, hall, hf⟩⟩
  refine st1 _ ?_
  show Steps p.tables e below (T1.setTop { method := m, pc := pc + 3, locals := ls, stack := .ref T.heap.size :: rest, locked := none }) _
  jvm_step X₁.here [X₁.here.top, hexec, d3', Value.category]
  exact hsteps
/-- 'throw new E("text")': new; dup; ldc; invokespecial; athrow -/
theorem vx_throwS {cc : ByteArray} {pc : Nat} (hexec : p.tables.exec = Jvm.exec) (hb : c.code = cc) (hl : l.stackTraces = false) {own cls text : String} {names : List String} {ik is ic mc ms sa : Nat} {A : Nat → Prop}
    (hown : s.vm.findClass own = some m.cls) (hcls : Bundle.fit cls = true) (hnames : ∀ n ∈ names, Bundle.fit n = true)
    (hk : (Cond.classLink own ik cls).before args s = true) (hini : (Cond.initialized cls).before args s = true) (hstr : vk_R own is text sa s) (hat : ∀ w ∈ vx_atS own ic cls names, w.before args s = true)
    (hgood : ∀ w ∈ Cond.classLink own ik cls :: Cond.initialized cls :: vx_atS own ic cls names, vx_ot w = true)
    (hU : vx_Zq Bundle.tN "UNASSIGNED_STACK" Bundle.steD A s s.heap) (hN : vx_Zq Bundle.tN "SUPPRESSED_SENTINEL" Bundle.listD A s s.heap) (hS : va_S A s.heap H locs) (hsize : ls.size = c.maxLocals)
    (d0 : decode cc pc = .ok (.new ik, 3)) (d3 : decode cc (pc + 3) = .ok (.dup, 1)) (d4 : decode cc (pc + 4) = .ok (.ldc is, 2)) (d6 : decode cc (pc + 6) = .ok (.invokespecial ic, 3)) (d9 : decode cc (pc + 9) = .ok (.athrow, 1))
    (hout : ∀ x ∈ c.exceptionTable.toList, covers x (pc + 9) = false)
    (hRframes : names.length + 3 < R.frames) (hRlocals : (rest.map fun v => v.category).sum + (13 * (names.length + 1) + 43) ≤ R.locals) (hRcells : cells + 1 ≤ R.cells) (hRslots : slots + 6 ≤ R.slots) (hlocks : meth.locks = false)
    (hx : ∀ t : State, s.vm.Alike t.vm → H.size ≤ t.heap.size → (∀ q : Nat, q < H.size → t.heap[q]? = H[q]?) → XC cls s t)
    (hf : ∀ z ∈ locs, free z.base) (hc : cells + 1 ≤ mc) (hs : slots + 6 ≤ ms) :
    W p l e R s m args below meth c H locs cells slots (vx_MQ below Qc XC args s mc ms free) (F0 m pc ls rest) := by
  intro T hT X
  have htr : e.platform.stackTraces = false := (show e.platform.stackTraces = l.stackTraces by rw [X.admits.platform]).trans hl
  have Y := vx_rebase X (R' := { frames := R.frames, locals := R.locals, cells := 1, slots := 6 }) (Nat.le_refl _) (Nat.le_refl _) hRcells hRslots
  obtain ⟨s', hA⟩ : ∃ z, z = (T.setVm s.vm).setFrames (.invoking m args :: below) := ⟨_, rfl⟩
  rw [← hA] at Y
  have hvm : s'.vm = s.vm := by rw [hA]; rfl
  have hhp : s'.heap = H := by rw [hA]; exact hT
  have hW0 : s.WarmedH s'.vm := by rw [hvm]; exact State.WarmedH.refl s
  have hat' : ∀ w ∈ vx_atS own ic cls names, w.before args s' = true := fun w hw => vx_ot_at hW0 hvm.symm (hgood w (List.mem_cons_of_mem _ (List.mem_cons_of_mem _ hw))) (hat w hw)
  have hk' : (Cond.classLink own ik cls).before args s' = true := vx_ot_at hW0 hvm.symm (hgood _ List.mem_cons_self) hk
  have hini' : (Cond.initialized cls).before args s' = true := vx_ot_at hW0 hvm.symm (hgood _ (List.mem_cons_of_mem _ List.mem_cons_self)) hini
  have hU' : vx_Zq Bundle.tN "UNASSIGNED_STACK" Bundle.steD A s' s'.heap := by rw [hhp]; exact vx_Zq.moved hW0.alike (hU.kept hS.2.1)
  have hN' : vx_Zq Bundle.tN "SUPPRESSED_SENTINEL" Bundle.listD A s' s'.heap := by rw [hhp]; exact vx_Zq.moved hW0.alike (hN.kept hS.2.1)
  have h : ∀ w ∈ Bundle.ownAtoms own ic cls names, w.before args s' = true := vx_own hat' (vx_isRefq hU'.1) (vx_isRefq hN'.1) hU'.2.word hN'.2.word
  have hown' : s'.vm.findClass own = some m.cls := by rw [hvm]; exact hown
  have hins : (Cond.instantiable cls 6).before args s' = true := h _ (by simp [Bundle.ownAtoms])
  obtain ⟨vm₁, cX, kX, hfX, hkX, -, -, X₁, st1⟩ := Y.newCold hexec (own := own) (C := cls) (index := ik) (n := 6) hown' hk' hins hini'
    (g := F0 m pc ls rest) rfl (by rw [hb]; exact d0) (Nat.le_refl _) (Nat.le_refl _)
  generalize hT1 : (T.setVm vm₁).pushCell { cls := cX, slots := kX.instanceTypes.map defaultValue, vm := .none } = T1 at X₁ st1
  have hcat : (Value.ref T.heap.size).category = 1 := rfl
  have hcellA : T1.heap[T.heap.size]? = some (freshCell cX kX) := by rw [← hT1]; exact State.heap_pushCell_size _ _
  have d3' : decode c.code (pc + 3) = .ok (.dup, 1) := by rw [hb]; exact d3
  have d4' : decode c.code (pc + 4) = .ok (.ldc is, 2) := by rw [hb]; exact d4
  have hstr' : vk_R own is text sa s' := vk_R.warm hW0 hstr
  obtain ⟨U, hsteps, hrun, hend, hW, hsame, ce, hce, hO⟩ := X₁.ctorThrowS hexec htr (own := own) (cls := cls) (names := names) (ic := ic) hown' hcls hnames h (fun x hx => nomatch hx) hfX hkX hcellA (by rw [hhp, hT]; exact Nat.le_refl _) (msg := .ref sa) rfl
    (g := { method := m, pc := pc + 6, locals := ls, stack := .ref sa :: .ref T.heap.size :: .ref T.heap.size :: rest, locked := none }) rfl hsize rfl rfl (rest := rest) rfl
    (by rw [hb]; exact d6) (by rw [hb]; exact d9) hout hRframes (by simp only [List.map_cons, List.sum_cons, hcat]; omega) hlocks
  obtain ⟨f1, f2⟩ := vx_frame hsame
  rw [hhp] at f1 f2
  have hWs : s.WarmedH U.vm := State.WarmedH.trans hW0 hW
  have hcl : s.vm.findClass cls = some ce.cls := by
    have h9 := hO.cls
    rw [hvm] at h9
    exact h9
  have hall : s.sameButNew ({ U with vm := s.vm } : State) locs mc ms := by
    subst hA
    obtain ⟨e1, e2⟩ := hsame
    rw [State.setFrames_setFrames] at e1
    have h2 : (T.setVm s.vm).sameButNew ({ U with vm := s.vm } : State) [] (0 + 1) (0 + 6) := ⟨e1, e2⟩
    have h3 := X.same.trans h2
    rw [List.append_nil] at h3
    exact h3.mono hc hs
  refine ⟨U, ?_, .threw T.heap.size, hrun, hend, Or.inr ⟨T.heap.size, rfl, cls, ce, locs, hx U hWs.alike f1 (fun q hq => f2 q hq (fun z hz => nomatch hz)), hce, hO.vm, hcl, hWs, hall, hf⟩⟩
  refine st1 _ ?_
  show Steps p.tables e below (T1.setTop { method := m, pc := pc + 3, locals := ls, stack := .ref T.heap.size :: rest, locked := none }) _
  jvm_step X₁.here [X₁.here.top, hexec, d3', Value.category]
  exact X₁.ldcString hexec (own := own) (text := text) (index := is) (a := sa) hown' hstr'.1 hstr'.2
    (g := { method := m, pc := pc + 4, locals := ls, stack := .ref T.heap.size :: .ref T.heap.size :: rest, locked := none }) rfl d4' _ hsteps
/-- 'throw new E("text")', the text by a wide index -/
theorem vx_throwSW {cc : ByteArray} {pc : Nat} (hexec : p.tables.exec = Jvm.exec) (hb : c.code = cc) (hl : l.stackTraces = false) {own cls text : String} {names : List String} {ik is ic mc ms sa : Nat} {A : Nat → Prop}
    (hown : s.vm.findClass own = some m.cls) (hcls : Bundle.fit cls = true) (hnames : ∀ n ∈ names, Bundle.fit n = true)
    (hk : (Cond.classLink own ik cls).before args s = true) (hini : (Cond.initialized cls).before args s = true) (hstr : vk_R own is text sa s) (hat : ∀ w ∈ vx_atS own ic cls names, w.before args s = true)
    (hgood : ∀ w ∈ Cond.classLink own ik cls :: Cond.initialized cls :: vx_atS own ic cls names, vx_ot w = true)
    (hU : vx_Zq Bundle.tN "UNASSIGNED_STACK" Bundle.steD A s s.heap) (hN : vx_Zq Bundle.tN "SUPPRESSED_SENTINEL" Bundle.listD A s s.heap) (hS : va_S A s.heap H locs) (hsize : ls.size = c.maxLocals)
    (d0 : decode cc pc = .ok (.new ik, 3)) (d3 : decode cc (pc + 3) = .ok (.dup, 1)) (d4 : decode cc (pc + 4) = .ok (.ldc_w is, 3)) (d7 : decode cc (pc + 7) = .ok (.invokespecial ic, 3)) (d10 : decode cc (pc + 10) = .ok (.athrow, 1))
    (hout : ∀ x ∈ c.exceptionTable.toList, covers x (pc + 10) = false)
    (hRframes : names.length + 3 < R.frames) (hRlocals : (rest.map fun v => v.category).sum + (13 * (names.length + 1) + 43) ≤ R.locals) (hRcells : cells + 1 ≤ R.cells) (hRslots : slots + 6 ≤ R.slots) (hlocks : meth.locks = false)
    (hx : ∀ t : State, s.vm.Alike t.vm → H.size ≤ t.heap.size → (∀ q : Nat, q < H.size → t.heap[q]? = H[q]?) → XC cls s t)
    (hf : ∀ z ∈ locs, free z.base) (hc : cells + 1 ≤ mc) (hs : slots + 6 ≤ ms) :
    W p l e R s m args below meth c H locs cells slots (vx_MQ below Qc XC args s mc ms free) (F0 m pc ls rest) := by
  intro T hT X
  have htr : e.platform.stackTraces = false := (show e.platform.stackTraces = l.stackTraces by rw [X.admits.platform]).trans hl
  have Y := vx_rebase X (R' := { frames := R.frames, locals := R.locals, cells := 1, slots := 6 }) (Nat.le_refl _) (Nat.le_refl _) hRcells hRslots
  obtain ⟨s', hA⟩ : ∃ z, z = (T.setVm s.vm).setFrames (.invoking m args :: below) := ⟨_, rfl⟩
  rw [← hA] at Y
  have hvm : s'.vm = s.vm := by rw [hA]; rfl
  have hhp : s'.heap = H := by rw [hA]; exact hT
  have hW0 : s.WarmedH s'.vm := by rw [hvm]; exact State.WarmedH.refl s
  have hat' : ∀ w ∈ vx_atS own ic cls names, w.before args s' = true := fun w hw => vx_ot_at hW0 hvm.symm (hgood w (List.mem_cons_of_mem _ (List.mem_cons_of_mem _ hw))) (hat w hw)
  have hk' : (Cond.classLink own ik cls).before args s' = true := vx_ot_at hW0 hvm.symm (hgood _ List.mem_cons_self) hk
  have hini' : (Cond.initialized cls).before args s' = true := vx_ot_at hW0 hvm.symm (hgood _ (List.mem_cons_of_mem _ List.mem_cons_self)) hini
  have hU' : vx_Zq Bundle.tN "UNASSIGNED_STACK" Bundle.steD A s' s'.heap := by rw [hhp]; exact vx_Zq.moved hW0.alike (hU.kept hS.2.1)
  have hN' : vx_Zq Bundle.tN "SUPPRESSED_SENTINEL" Bundle.listD A s' s'.heap := by rw [hhp]; exact vx_Zq.moved hW0.alike (hN.kept hS.2.1)
  have h : ∀ w ∈ Bundle.ownAtoms own ic cls names, w.before args s' = true := vx_own hat' (vx_isRefq hU'.1) (vx_isRefq hN'.1) hU'.2.word hN'.2.word
  have hown' : s'.vm.findClass own = some m.cls := by rw [hvm]; exact hown
  have hins : (Cond.instantiable cls 6).before args s' = true := h _ (by simp [Bundle.ownAtoms])
  obtain ⟨vm₁, cX, kX, hfX, hkX, -, -, X₁, st1⟩ := Y.newCold hexec (own := own) (C := cls) (index := ik) (n := 6) hown' hk' hins hini'
    (g := F0 m pc ls rest) rfl (by rw [hb]; exact d0) (Nat.le_refl _) (Nat.le_refl _)
  generalize hT1 : (T.setVm vm₁).pushCell { cls := cX, slots := kX.instanceTypes.map defaultValue, vm := .none } = T1 at X₁ st1
  have hcat : (Value.ref T.heap.size).category = 1 := rfl
  have hcellA : T1.heap[T.heap.size]? = some (freshCell cX kX) := by rw [← hT1]; exact State.heap_pushCell_size _ _
  have d3' : decode c.code (pc + 3) = .ok (.dup, 1) := by rw [hb]; exact d3
  have d4' : decode c.code (pc + 4) = .ok (.ldc_w is, 3) := by rw [hb]; exact d4
  have hstr' : vk_R own is text sa s' := vk_R.warm hW0 hstr
  obtain ⟨U, hsteps, hrun, hend, hW, hsame, ce, hce, hO⟩ := X₁.ctorThrowS hexec htr (own := own) (cls := cls) (names := names) (ic := ic) hown' hcls hnames h (fun x hx => nomatch hx) hfX hkX hcellA (by rw [hhp, hT]; exact Nat.le_refl _) (msg := .ref sa) rfl
    (g := { method := m, pc := pc + 7, locals := ls, stack := .ref sa :: .ref T.heap.size :: .ref T.heap.size :: rest, locked := none }) rfl hsize rfl rfl (rest := rest) rfl
    (by rw [hb]; exact d7) (by rw [hb]; exact d10) hout hRframes (by simp only [List.map_cons, List.sum_cons, hcat]; omega) hlocks
  obtain ⟨f1, f2⟩ := vx_frame hsame
  rw [hhp] at f1 f2
  have hWs : s.WarmedH U.vm := State.WarmedH.trans hW0 hW
  have hcl : s.vm.findClass cls = some ce.cls := by
    have h9 := hO.cls
    rw [hvm] at h9
    exact h9
  have hall : s.sameButNew ({ U with vm := s.vm } : State) locs mc ms := by
    subst hA
    obtain ⟨e1, e2⟩ := hsame
    rw [State.setFrames_setFrames] at e1
    have h2 : (T.setVm s.vm).sameButNew ({ U with vm := s.vm } : State) [] (0 + 1) (0 + 6) := ⟨e1, e2⟩
    have h3 := X.same.trans h2
    rw [List.append_nil] at h3
    exact h3.mono hc hs
  refine ⟨U, ?_, .threw T.heap.size, hrun, hend, Or.inr ⟨T.heap.size, rfl, cls, ce, locs, hx U hWs.alike f1 (fun q hq => f2 q hq (fun z hz => nomatch hz)), hce, hO.vm, hcl, hWs, hall, hf⟩⟩
  refine st1 _ ?_
  show Steps p.tables e below (T1.setTop { method := m, pc := pc + 3, locals := ls, stack := .ref T.heap.size :: rest, locked := none }) _
  jvm_step X₁.here [X₁.here.top, hexec, d3', Value.category]
  exact X₁.ldcStringW hexec (own := own) (text := text) (index := is) (a := sa) hown' hstr'.1 hstr'.2
    (g := { method := m, pc := pc + 4, locals := ls, stack := .ref T.heap.size :: .ref T.heap.size :: rest, locked := none }) rfl d4' _ hsteps
end Ends
section Bodies
variable {l : Launch}
theorem vx_ofW {y : MethodName} {ws ws' : List Cond} {rm : Room} {Pc : Array Value → State → Prop} {Qc : Array Value → State → Outcome → State → Prop} {XC : String → State → State → Prop} {mc ms : Nat} {free : Addr → Prop} {cc : ByteArray} {maxL : Nat} {ret : Option FieldType}
    (hy : plainName y.cls = true) (hw : ws = Cond.code y cc maxL ret :: ws')
    (body : ∀ p e s m args below meth c s₁, BodyLoose p l y (headSpec ws rm) cc maxL ret e s m args below meth c s₁ → c.maxLocals = maxL → (∀ x ∈ c.exceptionTable.toList, False) → Pc args s →
      W p l e (headSpec ws rm).room s m args below meth c s.heap [] 0 0 (vx_MQ below Qc XC args s mc ms free) (entryFrame m args maxL)) : vx_Met l y ws rm Pc Qc XC mc ms free := by
  refine MetFree.of_bodyS (code := cc) (maxLocals := maxL) (ret := ret) hy ?_ ?_
  · intro args s m h hn
    obtain ⟨meth, c, h1, h2, h3, h4, h5, h6, -, -⟩ := Cond.code_spec hn (atoms_spec (ws := ws) h _ (by rw [hw]; exact List.mem_cons_self))
    exact ⟨meth, c, h1, h2, h3, h4, h5, h6⟩
  · intro p e s m args below meth c s₁ B hml hP _
    have hh0 : s₁.heap = s.heap := by rw [B.state]; rfl
    have ht : ∀ x ∈ c.exceptionTable.toList, False := by
      obtain ⟨meth9, c9, h1, h2, -, -, -, -, h7, -⟩ := Cond.code_spec B.named (atoms_spec (ws := ws) B.pre _ (by rw [hw]; exact List.mem_cons_self))
      cases Option.some.inj (h1.symm.trans B.method)
      cases Option.some.inj (h2.symm.trans (Stand.of_body B).code)
      intro x hx
      rw [Array.isEmpty_iff.mp h7] at hx
      cases hx
    obtain ⟨t, a1, o, b1, b2, b3⟩ := body p e s m args below meth c s₁ B hml ht hP s₁ hh0 (Stand.of_body B)
    exact ⟨t, o, a1, b1, b2, b3⟩
/-- the table of a body with handlers -/
theorem vx_table {p : Program} {x y : MethodName} {S : Spec} {cc bytes : ByteArray} {maxL maxL' : Nat} {ret ret' : Option FieldType} {e : Env} {s s₁ : State} {m : MethodId} {args : Array Value} {below : List Frame} {meth : Method} {c : Code} {hh : List (Nat × Nat × Nat × Nat)}
    (B : BodyLoose p l y S cc maxL ret e s m args below meth c s₁) (h : (Cond.codeWith y bytes maxL' ret' hh).before args s = true) : c.exceptionTable.toList = tableOf hh := by
  obtain ⟨m9, meth9, c9, hn9, h1, h2, -, -, h6, -⟩ := Cond.codeWith_spec h
  cases Option.some.inj (hn9.symm.trans B.named)
  cases Option.some.inj (h1.symm.trans B.method)
  cases Option.some.inj (h2.symm.trans (Stand.of_body B).code)
  rw [← h6, table_eq]
end Bodies
end VXA
/-! ===== END ===== -/
/-! ===== BEGIN a static call of a method with an exception table ===== -/
section VXS
variable {p : Program} {l : Launch} {e : Env} {R : Room} {s : State} {m : MethodId} {args : Array Value} {below : List Frame} {meth : Method} {c : Code} {T : State} {H : Heap} {locs : List Loc} {cells slots : Nat}
abbrev vx_CSW (R : Room) (s : State) (args : Array Value) (own : String) (index : Nat) (y : MethodName) (bytes : ByteArray) (maxL : Nat) (ret : Option FieldType) (hh : List (Nat × Nat × Nat × Nat)) (ws : List Cond) (rm : Room) (mc ms n : Nat) : Prop :=
  (rm.cells = mc ∧ rm.slots = ms ∧ rm.frames + 1 ≤ R.frames ∧ 8 + (maxL + 11) + rm.locals ≤ R.locals ∧ (∀ w ∈ ws, ∀ (a' : Array Value) (U : State), s.WarmedH U.vm → w.before a' U = true) ∧ Cond.codeWith y bytes maxL ret hh ∈ ws) ∧
  (Cond.codeWith y bytes maxL ret hh).before args s = true ∧ (Cond.initialized y.cls).before args s = true ∧ (y.cls ≠ "java/lang/invoke/MethodHandle" ∧ y.cls ≠ "java/lang/invoke/VarHandle") ∧
  (∀ sig, parseMethodDescriptor y.desc = some sig → n = sig.parameters.length) ∧ (Cond.methodLink own index y).before args s = true ∧ (Cond.static y).before args s = true
theorem vx_cwSW {own : String} {index maxL mc ms : Nat} {y : MethodName} {bytes : ByteArray} {ret : Option FieldType} {hh : List (Nat × Nat × Nat × Nat)} {Ts ws ws' : List Cond} {rm : Room} (n : Nat) (ht : ∀ w ∈ Ts, w.before args s = true) (hT : GoodIn Ts (va_wsS own index y ws)) (hw : ws = Cond.codeWith y bytes maxL ret hh :: ws') (hrc : rm.cells = mc) (hrs : rm.slots = ms)
    (hd : y.cls ≠ "java/lang/invoke/MethodHandle" ∧ y.cls ≠ "java/lang/invoke/VarHandle" ∧ (parseMethodDescriptor y.desc).map (fun d => d.parameters.length) = some n) (hR : rm.frames + 1 ≤ R.frames ∧ 8 + (maxL + 11) + rm.locals ≤ R.locals) :
    vx_CSW R s args own index y bytes maxL ret hh ws rm mc ms n := by
  have ok : ∀ w ∈ va_wsS own index y ws, w.before args s = true := fun w h => ht w (hT w h).1
  have hG : GoodIn Ts ws := fun w h => hT w (by unfold va_wsS; exact List.mem_append_right _ h)
  have hc : Cond.codeWith y bytes maxL ret hh ∈ ws := by rw [hw]; exact List.mem_cons_self
  refine ⟨⟨hrc, hrs, hR.1, hR.2, pay_in ht hG, hc⟩, ht _ (hG _ hc).1, ok _ (by simp [va_wsS]), ⟨hd.1, hd.2.1⟩, fun sig h => ?_, ok _ (by simp [va_wsS]), ok _ (by simp [va_wsS])⟩
  have h2 := hd.2.2
  rw [h] at h2
  exact (Option.some.inj h2).symm
theorem vx_callSW (X : Stand p l e R s m args below meth c T locs cells slots) (hexec : p.tables.exec = Jvm.exec) {own : String} {index : Nat} {y : MethodName} {bytes : ByteArray} {maxL : Nat} {ret : Option FieldType} {hh : List (Nat × Nat × Nat × Nat)}
    (hown : s.vm.findClass own = some m.cls) (hlink : (Cond.methodLink own index y).before args s = true) (hstat : (Cond.static y).before args s = true) (hinit : (Cond.initialized y.cls).before args s = true)
    (hcode : (Cond.codeWith y bytes maxL ret hh).before args s = true) (hy : y.cls ≠ "java/lang/invoke/MethodHandle" ∧ y.cls ≠ "java/lang/invoke/VarHandle")
    {W9 : Nat} {Pre : Pt → Array Value → Prop} {Post : Pt → Array Value → Option Value → Pt → Prop} (hK : Back l R p e below s args y 3 W9 Pre Post)
    {g : JFrame} (hg : g.method = m) (hsize : g.locals.size = c.maxLocals) {argsL rest : List Value} (hlen : ∀ sig, parseMethodDescriptor y.desc = some sig → argsL.length = sig.parameters.length)
    (hstack : g.stack = argsL.reverse ++ rest) (hW : 2 * g.monitorRoom + (rest.map fun v => v.category).sum ≤ W9) (hdg : decode c.code g.pc = .ok (.invokestatic index, 3))
    (hpre : ∀ vm₁, s.WarmedH vm₁ → Pre ⟨T.setVm vm₁, locs, cells, slots⟩ argsL.toArray) :
    ∃ (v : Option Value) (vm₁ : Vm) (B : Pt), s.WarmedH vm₁ ∧ Stand p l e R s m args below meth c B.U B.locs B.cells B.slots ∧ Post ⟨T.setVm vm₁, locs, cells, slots⟩ argsL.toArray v B ∧
      ∀ target, Steps p.tables e below (B.U.setTop { g with pc := g.pc + 3, stack := v.toList ++ rest }) target → Steps p.tables e below (T.setTop g) target := by
  obtain ⟨mk, methM, cM, hnamed, hmethM, -, -, -, -, -, -, hsigM⟩ := Cond.codeWith_spec hcode
  have hstatic : methM.isStatic = true := Cond.static_spec hnamed hmethM hstat
  obtain ⟨kP, hkP, -⟩ := className_of_methodNamed hnamed
  have hinitP : kP.init = .initialized := Cond.initialized_spec (findClass_of_methodNamed hnamed) hkP hinit
  obtain ⟨vm₁, X₁, hstep₁⟩ := X.invokestatic hexec hown hlink hnamed hmethM hstatic hkP hinitP hy (g := g) hg (argsL := argsL) (rest := rest) (hlen _ hsigM) hstack hdg
  obtain ⟨v, B, X', hpost, hsteps⟩ := hK m meth c ⟨T.setVm vm₁, locs, cells, slots⟩ { g with stack := rest } (.invokestatic index) mk argsL.toArray X₁ hg hsize hdg hW (X₁.named hnamed) (hpre vm₁ X₁.warmed)
  exact ⟨v, vm₁, B, X₁.warmed, X', hpost, fun target h => hstep₁ _ fun acts => by rw [doInvoke_state]; exact hsteps.trans h⟩
theorem vx_runSW {y : MethodName} {bytes cc : ByteArray} {maxL nL mc ms n index : Nat} {ret : Option FieldType} {hh : List (Nat × Nat × Nat × Nat)} {ws : List Cond} {rm : Room} {Pc : Array Value → State → Prop} {Qc : Array Value → State → Outcome → State → Prop} {free : Addr → Prop} {Ts : List Cond} {own : String} {As rest : List Value} {g : JFrame}
    (S : CallFix p m c cc nL s args Ts own) (hM : Met l y ws rm Pc Qc mc ms free) (cw : vx_CSW R s args own index y bytes maxL ret hh ws rm mc ms n) (hp : PreS s H Pc As)
    (hg : g.method = m) (hn : As.length = n) (hsize : g.locals.size = nL) (hstack : g.stack = As.reverse ++ rest) (hW : 2 * g.monitorRoom + (rest.map fun v => v.category).sum ≤ 8) (hdg : decode cc g.pc = .ok (.invokestatic index, 3)) (hf : cells + mc ≤ R.cells ∧ slots + ms ≤ R.slots) :
    va_Run p l e R s m args below meth c H locs cells slots mc ms g rest (Qc As.toArray) (free) := by
  obtain ⟨⟨hrc, hrs, hfr, hlo, hws, hcw⟩, hcode, hini, hy, hlen, hl, hstt⟩ := cw
  have hK : Back l R p e below s args y 3 8 (PreOf R mc ms Pc) (PostOf Qc mc ms free) := va_backW (hh := hh) (bytes := bytes) (maxL := maxL) (ret := ret) hM hp.1 hrc hrs hfr hlo hws hcw (fun a' U hW => word_at hW (Or.inl (by first | rfl | simp [Cond.onTables, Cond.keeps, Cond.steady])) hini)
  obtain ⟨hx, hb, hml, ho, -⟩ := S
  intro T hT X
  obtain ⟨v, vm₁, ⟨U', l2, c2, s2⟩, hW₁, X', ⟨g', mk, t, L, e1, e2, hq, h1, hL, h2, h3⟩, st⟩ := vx_callSW X hx (hh := hh) (bytes := bytes) (maxL := maxL) (ret := ret) ho hl hstt hini hcode hy hK hg (hsize.trans hml.symm) (argsL := As) (rest := rest) (fun sig h => hn.trans (hlen sig h)) hstack hW (by rw [hb]; exact hdg)
    (fun vm₁ hW₁ => ⟨hf.1, hf.2, hp.2 (T.setVm vm₁) hT hW₁⟩)
  dsimp only [Pt.U, Pt.locs, Pt.cells, Pt.slots] at X' e1 e2 h1 h2 h3 st
  subst h1; subst h2; subst h3
  exact ⟨v, (T.setVm vm₁).calling g' mk As.toArray, t, U', L, hT, X', hL, e1, e2, hq, st⟩
/-- not caught here, past rows that name other classes: it goes on to the caller -/
theorem vx_outP {p : Program} {l : Launch} {e : Env} {R : Room} {s : State} {m : MethodId} {args : Array Value} {below : List Frame} {meth : Method} {c : Code} {H : Heap} {locs : List Loc} {cells slots : Nat} {free : Addr → Prop} {ls : Array Slot} {rest : List Value} {Qc : Array Value → State → Outcome → State → Prop} {XC : String → State → State → Prop}
    {pc : Nat} {own E : String} {ce : Cell} {q : Addr} {mc ms : Nat} (hown : s.vm.findClass own = some m.cls) (hlocks : meth.locks = false)
    (hpass : ∀ z ∈ c.exceptionTable.toList, covers z pc = false ∨ (z.catchType ≠ 0 ∧ ∃ nm : String, (Cond.classLink own z.catchType nm).before args s = true ∧ va_Nc E nm s)) (hcell : H[q]? = some ce) (hv : ce.vm = .none) (hcl : s.vm.findClass E = some ce.cls)
    (hx : ∀ t : State, t.heap = H → s.vm.Alike t.vm → XC E s t) (hf : ∀ z ∈ locs, free z.base) (hc : cells ≤ mc) (hs : slots ≤ ms) :
    vx_W p l e R s m args below meth c H locs cells slots (vx_MQ below Qc XC args s mc ms free) (F0 m pc ls rest) q := by
  intro T hT X
  have hpl : e.platform.magicAccessors = ({} : Platform).magicAccessors := by rw [X.admits.platform]
  obtain ⟨vm', hW', X', st⟩ := X.outThrough hlocks q (g := F0 m pc ls rest) rfl rfl rfl (cell := ce) (by rw [hT]; exact hcell) (by rw [hv]; rfl)
    (by obtain ⟨k9, h9, -⟩ := Vm.findClass_spec hcl; exact ⟨k9, h9⟩) (fun z hz => by
      rcases hpass z hz with h | ⟨hz0, nm, hl1, hn1⟩
      · exact Or.inl h
      · obtain ⟨c6, hc6, hcl6⟩ := Cond.classLink_spec hown hl1 e.platform hpl
        obtain ⟨a8, b8, h1, h2, h3⟩ := hn1
        cases Option.some.inj (h1.symm.trans hcl)
        cases Option.some.inj (h2.symm.trans hc6)
        exact Or.inr ⟨hz0, _, hcl6, h3⟩)
  obtain ⟨g₀, hfr⟩ := X'.frames_eq
  have hcell9 : ((T.setVm vm').setFrames (.throwing q :: below)).heap[q]? = some ce := by
    show T.heap[q]? = some ce
    rw [hT]; exact hcell
  have hend : Ended ((T.setVm vm').setFrames (.throwing q :: below)) below (.threw q) := State.frames_setFrames _ (State.cur_lt_of_frames hfr)
  refine ⟨(T.setVm vm').setFrames (.throwing q :: below), ?_, .threw q, X'.here.running, hend, Or.inr ⟨q, rfl, E, ce, locs, hx _ hT (X'.ends _).1.alike, hcell9, hv, hcl, (X'.ends _).1, (X'.ends _).2.mono hc hs, hf⟩⟩
  rw [X.pushThrowing_eq]
  exact st
/-- a thing of a world lies in the heap -/
theorem vx_lt {D : va_G} {cl : List vw_C} {ws : va_W} {H1 : Heap} (h : va_P D cl ws H1) {k : Nat} {q : Nat × va_E} (hk : ws[k]? = some q) : q.1 < H1.size := (h k q hk).lt
end VXS
/-! ===== END ===== -/
/-! ===== BEGIN methods with a table of their own: called by a name, returning or throwing ===== -/
section VXH
/-! vx_backW, vx_callVX, vx_callSX, vx_callVW, vx_runVW, vx_runVX, vx_runSX, vx_ofWH follow the same proofs as their sisters above (Free/Laws.lean, Shelf42/LK1.lean); vx_outP calls Shelf42/NT130.lean (outThrough). -/
section
variable {l : Launch} {R : Room} {p : Program} {e : Env} {below : List Frame} {s : State} {sargs : Array Value} {y : MethodName} {len W9 : Nat}
theorem vx_backW {ws : List Cond} {rm : Room} {Pc : Array Value → State → Prop} {Qc : Array Value → State → Outcome → State → Prop} {XC : String → State → State → Prop} {mc ms : Nat} {free : Addr → Prop} {bytes : ByteArray} {maxL : Nat} {ret : Option FieldType} {hh : List (Nat × Nat × Nat × Nat)}
    (hM : vx_Met l y ws rm Pc Qc XC mc ms free) (hblind : FrameBlind Pc) (hrc : rm.cells = mc) (hrs : rm.slots = ms)
    (hframes : rm.frames + 1 ≤ R.frames) (hlocals : W9 + (maxL + 11) + rm.locals ≤ R.locals)
    (hws : ∀ w ∈ ws, ∀ a' U, s.WarmedH U.vm → w.before a' U = true) (hcode : Cond.codeWith y bytes maxL ret hh ∈ ws) (hinit : ∀ a' U, s.WarmedH U.vm → (Cond.initialized y.cls).before a' U = true) :
    vx_Back l R p e below s sargs y len W9 (PreOf R mc ms Pc) (PostOf Qc mc ms free) (vx_Post XC mc ms free) := by
  intro m meth c A g ig mk a X hg hsize hdg hW hn hp
  have h1 : (headSpec ws rm).pre.before a A.U = true := atoms_intro fun w hw => hws w hw _ _ X.warmed
  have h2 : (Cond.codeWith y bytes maxL ret hh).before a A.U = true := hws _ hcode _ _ X.warmed
  have h3 : (Cond.initialized y.cls).before a A.U = true := hinit _ _ X.warmed
  have h4 : A.cells + (headSpec ws rm).room.cells ≤ R.cells := by rw [show (headSpec ws rm).room.cells = mc from hrc]; exact hp.1
  have h5 : A.slots + (headSpec ws rm).room.slots ≤ R.slots := by rw [show (headSpec ws rm).room.slots = ms from hrs]; exact hp.2.1
  have hPc : Pc a (A.U.calling g mk a) := hblind _ _ _ _ hp.2.2
  obtain ⟨U, Ls, c0, s0⟩ := A
  dsimp only [Pt.U, Pt.locs, Pt.cells, Pt.slots] at h1 h2 h3 h4 h5 X hn hPc ⊢
  obtain ⟨m9, methY, cY, hn9, hmY, hcY, -, hlY, -⟩ := Cond.codeWith_spec h2
  cases Option.some.inj (hn9.symm.trans hn)
  obtain ⟨kY, hkY, -⟩ := className_of_methodNamed hn
  have hinitY : kY.init = .initialized := Cond.initialized_spec (findClass_of_methodNamed hn) hkY h3
  have h : At U g.method c below := by rw [hg]; exact X.here
  have hlocals9 : W9 + (maxL + 11) + (headSpec ws rm).room.locals ≤ R.locals := hlocals
  have happ : (headSpec ws rm).appliesLoose y e.platform (U.calling g mk a) = true :=
    Spec.appliesLoose_calling (g := g) h hdg hn hkY hinitY
      (X.room_calling (g := g) (R' := (headSpec ws rm).room) hsize hmY hcY hframes (by rw [hlY]; omega) h4 h5) h1
  obtain ⟨mid, hmid⟩ := h.above
  have hfr : (U.setTop g).frames = (.java g :: mid) ++ below := by rw [State.frames_setTop' g h.top, hmid]; rfl
  obtain ⟨o, s₂, hsteps, -, hend, hq⟩ := Steps.callFree hM p X.admits X.cas X.clock (acts := []) hfr happ hPc trivial
  have hq' : vx_Q Qc XC mc ms free a (U.calling g mk a) o s₂ := hq
  rw [State.frames_setTop' g h.top] at hend
  obtain ⟨g₀, hg0⟩ := Option.isSome_iff_exists.mp h.top
  obtain ⟨r, hr⟩ := State.topJava?_eq_some.mp hg0
  have hr' : (({ U with heap := s₂.heap, slotsUsed := s₂.slotsUsed } : State).setVm s₂.vm).frames = .java g₀ :: r := hr
  rcases hq' with ⟨hqc, L, hfe, hL⟩ | ⟨q, rfl, E, ce, L, hx, hce, hcv, hcl, hW₂, hsm, hL⟩
  · obtain ⟨⟨v, rfl⟩, hW₂, e2, q2, q3, q4, q5, q6⟩ := id hfe
    have e3 : s₂ = ({ (U.calling g mk a).setFrames s₂.frames with heap := s₂.heap, slotsUsed := s₂.slotsUsed } : State).setVm s₂.vm := by
      have : s₂ = ({ s₂ with vm := (U.calling g mk a).vm } : State).setVm s₂.vm := rfl
      rw [e2] at this
      exact this
    obtain ⟨c₂, i₂, len₂, hc₂, hd₂, hf₂⟩ := hend
    have hW' : U.WarmedH s₂.vm := hW₂
    have hcc : c₂ = c := by
      have h1 : s₂.code? g.method = U.code? g.method := by
        rw [State.code?_eq, State.code?_eq, hW'.alike.method?]
      exact Option.some.inj (hc₂.symm.trans (h1.trans h.code))
    subst hcc
    have hlen : len₂ = len := by rw [hdg] at hd₂; cases hd₂; rfl
    subst hlen
    have hs₂ : s₂ = (({ U with heap := s₂.heap, slotsUsed := s₂.slotsUsed } : State).setVm s₂.vm).setTop { g with pc := g.pc + len₂, stack := v.toList ++ g.stack } := by
      refine e3.trans ?_
      rw [hf₂, State.calling_eq h.top, State.setFrames_setFrames, State.setTop_of_frames _ hr', hr]
      rfl
    have hsame : U.sameButNew ({ U with heap := s₂.heap, slotsUsed := s₂.slotsUsed } : State) L mc ms := by
      refine ⟨?_, q2, q3, q4, q5, q6⟩
      obtain ⟨t, ht, -⟩ := State.frames_cons hr
      show ({ U with heap := s₂.heap, slotsUsed := s₂.slotsUsed } : State) = { U.setFrames U.frames with heap := s₂.heap, slotsUsed := s₂.slotsUsed }
      rw [State.setFrames_self ht]
    subst hg
    refine Or.inl ⟨v, ⟨(({ U with heap := s₂.heap, slotsUsed := s₂.slotsUsed } : State).setVm s₂.vm), Ls ++ L, c0 + mc, s0 + ms⟩,
      ⟨X.admits, X.cas, X.clock, X.frames, X.room, X.hears, X.method, X.code, (X.here.setHeapUsed s₂.heap s₂.slotsUsed).setVm hW'.alike, X.tail, State.WarmedH.trans X.warmed hW', X.limits, X.bytes, X.same.trans (hsame.setVm s.vm)⟩,
      ⟨g, mk, s₂, L, rfl, rfl, hqc, rfl, hL, rfl, rfl⟩, ?_⟩
    show Steps p.tables e below _ ((({ U with heap := s₂.heap, slotsUsed := s₂.slotsUsed } : State).setVm s₂.vm).setTop { g with pc := g.pc + len₂, stack := v.toList ++ g.stack })
    rw [← hs₂]
    exact hsteps
  · obtain ⟨e2, q2, q3, q4, q5, q6⟩ := id hsm
    have e3 : s₂ = ({ (U.calling g mk a).setFrames s₂.frames with heap := s₂.heap, slotsUsed := s₂.slotsUsed } : State).setVm s₂.vm := by
      have : s₂ = ({ s₂ with vm := (U.calling g mk a).vm } : State).setVm s₂.vm := rfl
      rw [e2] at this
      exact this
    have hf₂ : s₂.frames = .throwing q :: .java g :: U.frames.tail := hend
    have hW' : U.WarmedH s₂.vm := hW₂
    have hs₂ : s₂ = ((({ U with heap := s₂.heap, slotsUsed := s₂.slotsUsed } : State).setVm s₂.vm).setTop g).pushFrame (.throwing q) := by
      refine e3.trans ?_
      rw [hf₂, State.calling_eq h.top, State.setFrames_setFrames, State.pushFrame, State.frames_setTop _ hr', State.setTop_of_frames _ hr', State.setFrames_setFrames, hr]
      rfl
    have hsame : U.sameButNew ({ U with heap := s₂.heap, slotsUsed := s₂.slotsUsed } : State) L mc ms := by
      refine ⟨?_, q2, q3, q4, q5, q6⟩
      obtain ⟨t, ht, -⟩ := State.frames_cons hr
      show ({ U with heap := s₂.heap, slotsUsed := s₂.slotsUsed } : State) = { U.setFrames U.frames with heap := s₂.heap, slotsUsed := s₂.slotsUsed }
      rw [State.setFrames_self ht]
    subst hg
    refine Or.inr ⟨q, ⟨(({ U with heap := s₂.heap, slotsUsed := s₂.slotsUsed } : State).setVm s₂.vm), Ls ++ L, c0 + mc, s0 + ms⟩,
      ⟨X.admits, X.cas, X.clock, X.frames, X.room, X.hears, X.method, X.code, (X.here.setHeapUsed s₂.heap s₂.slotsUsed).setVm hW'.alike, X.tail, State.WarmedH.trans X.warmed hW', X.limits, X.bytes, X.same.trans (hsame.setVm s.vm)⟩,
      ⟨g, mk, s₂, L, E, ce, rfl, rfl, hx, hce, hcv, hcl, rfl, hL, rfl, rfl⟩, ?_⟩
    show Steps p.tables e below _ (((({ U with heap := s₂.heap, slotsUsed := s₂.slotsUsed } : State).setVm s₂.vm).setTop g).pushFrame (.throwing q))
    rw [← hs₂]
    exact hsteps
end
variable {p : Program} {l : Launch} {e : Env} {R : Room} {s : State} {m : MethodId} {args : Array Value} {below : List Frame} {meth : Method} {c : Code} {T : State} {H : Heap} {locs : List Loc} {cells slots : Nat}
theorem vx_callVX (X : Stand p l e R s m args below meth c T locs cells slots) (hexec : p.tables.exec = Jvm.exec) {own C : String} {index : Nat} {y : MethodName} {bytes : ByteArray} {maxL : Nat} {ret : Option FieldType} {hh : List (Nat × Nat × Nat × Nat)}
    (hown : s.vm.findClass own = some m.cls) (hlink : (Cond.methodLink own index y).before args s = true) (hinst : (Cond.instanceMethod y).before args s = true) (hsel : (Cond.selects C y y).before args s = true)
    (hcode : (Cond.codeWith y bytes maxL ret hh).before args s = true) (hy : y.cls ≠ "java/lang/invoke/MethodHandle" ∧ y.cls ≠ "java/lang/invoke/VarHandle")
    {W9 : Nat} {Pre : Pt → Array Value → Prop} {Post : Pt → Array Value → Option Value → Pt → Prop} {PostX : Pt → Array Value → Addr → Pt → Prop} (hK : vx_Back l R p e below s args y 3 W9 Pre Post PostX)
    {b : Addr} {cellB : Cell} (hcell : T.heap[b]? = some cellB) (hobj : cellB.vm.isStatics = false) (hcls : s.vm.findClass C = some cellB.cls)
    {g : JFrame} (hg : g.method = m) (hsize : g.locals.size = c.maxLocals) {argsL rest : List Value} (hlen : ∀ sig, parseMethodDescriptor y.desc = some sig → argsL.length = sig.parameters.length)
    (hstack : g.stack = argsL.reverse ++ .ref b :: rest) (hW : 2 * g.monitorRoom + (rest.map fun v => v.category).sum ≤ W9) (hdg : decode c.code g.pc = .ok (.invokevirtual index, 3))
    (hpre : ∀ vm₁, s.WarmedH vm₁ → Pre ⟨T.setVm vm₁, locs, cells, slots⟩ (Value.ref b :: argsL).toArray) :
    (∃ (v : Option Value) (vm₁ : Vm) (B : Pt), s.WarmedH vm₁ ∧ Stand p l e R s m args below meth c B.U B.locs B.cells B.slots ∧ Post ⟨T.setVm vm₁, locs, cells, slots⟩ (Value.ref b :: argsL).toArray v B ∧
      ∀ target, Steps p.tables e below (B.U.setTop { g with pc := g.pc + 3, stack := v.toList ++ rest }) target → Steps p.tables e below (T.setTop g) target) ∨
    (∃ (q : Addr) (vm₁ : Vm) (B : Pt), s.WarmedH vm₁ ∧ Stand p l e R s m args below meth c B.U B.locs B.cells B.slots ∧ PostX ⟨T.setVm vm₁, locs, cells, slots⟩ (Value.ref b :: argsL).toArray q B ∧
      Steps p.tables e below (T.setTop g) ((B.U.setTop { g with stack := rest }).pushFrame (.throwing q))) := by
  obtain ⟨mk, methM, hnamed, hmethM, hstM, habM⟩ := Cond.instanceMethod_spec hinst
  obtain ⟨m8, methM', cM, hn8, hmethM', -, -, -, -, -, -, hsigM⟩ := Cond.codeWith_spec hcode
  cases Option.some.inj (hn8.symm.trans hnamed)
  cases hmethM.symm.trans hmethM'
  obtain ⟨c2, r2, m2, q1, q2, q3, q4, kP, hkP, hkPi⟩ := Cond.selects_spec hsel
  cases hcls.symm.trans q1
  cases (State.methodFound?_of_named hnamed hy).symm.trans q2
  cases hnamed.symm.trans q3
  have hselP : selectMethod e.platform s.vm cellB.cls mk = .method mk := by rw [Launch.admits_selectMethod X.admits]; exact q4
  obtain ⟨vm₁, X₁, hstep₁⟩ := X.invokevirtual hexec hown hlink hnamed hmethM hstM hkP hkPi hy (a := b) (cell := cellB) hcell
    (fun z h => by rw [h] at hobj; cases hobj) hselP hmethM habM hkP hkPi (g := g) hg (argsL := argsL) (rest := rest) (hlen _ hsigM) hstack hdg
  rcases hK m meth c ⟨T.setVm vm₁, locs, cells, slots⟩ { g with stack := rest } (.invokevirtual index) mk (Value.ref b :: argsL).toArray X₁ hg hsize hdg hW (X₁.named hnamed) (hpre vm₁ X₁.warmed) with ⟨v, B, X', hpost, hsteps⟩ | ⟨q, B, X', hpost, hsteps⟩
  · exact Or.inl ⟨v, vm₁, B, X₁.warmed, X', hpost, fun target h => hstep₁ _ fun acts => by rw [doInvoke_state]; exact hsteps.trans h⟩
  · exact Or.inr ⟨q, vm₁, B, X₁.warmed, X', hpost, hstep₁ _ fun acts => by rw [doInvoke_state]; exact hsteps⟩
theorem vx_callSX (X : Stand p l e R s m args below meth c T locs cells slots) (hexec : p.tables.exec = Jvm.exec) {own : String} {index : Nat} {y : MethodName} {bytes : ByteArray} {maxL : Nat} {ret : Option FieldType} {hh : List (Nat × Nat × Nat × Nat)}
    (hown : s.vm.findClass own = some m.cls) (hlink : (Cond.methodLink own index y).before args s = true) (hstat : (Cond.static y).before args s = true) (hinit : (Cond.initialized y.cls).before args s = true)
    (hcode : (Cond.codeWith y bytes maxL ret hh).before args s = true) (hy : y.cls ≠ "java/lang/invoke/MethodHandle" ∧ y.cls ≠ "java/lang/invoke/VarHandle")
    {W9 : Nat} {Pre : Pt → Array Value → Prop} {Post : Pt → Array Value → Option Value → Pt → Prop} {PostX : Pt → Array Value → Addr → Pt → Prop} (hK : vx_Back l R p e below s args y 3 W9 Pre Post PostX)
    {g : JFrame} (hg : g.method = m) (hsize : g.locals.size = c.maxLocals) {argsL rest : List Value} (hlen : ∀ sig, parseMethodDescriptor y.desc = some sig → argsL.length = sig.parameters.length)
    (hstack : g.stack = argsL.reverse ++ rest) (hW : 2 * g.monitorRoom + (rest.map fun v => v.category).sum ≤ W9) (hdg : decode c.code g.pc = .ok (.invokestatic index, 3))
    (hpre : ∀ vm₁, s.WarmedH vm₁ → Pre ⟨T.setVm vm₁, locs, cells, slots⟩ argsL.toArray) :
    (∃ (v : Option Value) (vm₁ : Vm) (B : Pt), s.WarmedH vm₁ ∧ Stand p l e R s m args below meth c B.U B.locs B.cells B.slots ∧ Post ⟨T.setVm vm₁, locs, cells, slots⟩ argsL.toArray v B ∧
      ∀ target, Steps p.tables e below (B.U.setTop { g with pc := g.pc + 3, stack := v.toList ++ rest }) target → Steps p.tables e below (T.setTop g) target) ∨
    (∃ (q : Addr) (vm₁ : Vm) (B : Pt), s.WarmedH vm₁ ∧ Stand p l e R s m args below meth c B.U B.locs B.cells B.slots ∧ PostX ⟨T.setVm vm₁, locs, cells, slots⟩ argsL.toArray q B ∧
      Steps p.tables e below (T.setTop g) ((B.U.setTop { g with stack := rest }).pushFrame (.throwing q))) := by
  obtain ⟨mk, methM, cM, hnamed, hmethM, -, -, -, -, -, -, hsigM⟩ := Cond.codeWith_spec hcode
  have hstatic : methM.isStatic = true := Cond.static_spec hnamed hmethM hstat
  obtain ⟨kP, hkP, -⟩ := className_of_methodNamed hnamed
  have hinitP : kP.init = .initialized := Cond.initialized_spec (findClass_of_methodNamed hnamed) hkP hinit
  obtain ⟨vm₁, X₁, hstep₁⟩ := X.invokestatic hexec hown hlink hnamed hmethM hstatic hkP hinitP hy (g := g) hg (argsL := argsL) (rest := rest) (hlen _ hsigM) hstack hdg
  rcases hK m meth c ⟨T.setVm vm₁, locs, cells, slots⟩ { g with stack := rest } (.invokestatic index) mk argsL.toArray X₁ hg hsize hdg hW (X₁.named hnamed) (hpre vm₁ X₁.warmed) with ⟨v, B, X', hpost, hsteps⟩ | ⟨q, B, X', hpost, hsteps⟩
  · exact Or.inl ⟨v, vm₁, B, X₁.warmed, X', hpost, fun target h => hstep₁ _ fun acts => by rw [doInvoke_state]; exact hsteps.trans h⟩
  · exact Or.inr ⟨q, vm₁, B, X₁.warmed, X', hpost, hstep₁ _ fun acts => by rw [doInvoke_state]; exact hsteps⟩
theorem vx_callVW (X : Stand p l e R s m args below meth c T locs cells slots) (hexec : p.tables.exec = Jvm.exec) {own C : String} {index : Nat} {y : MethodName} {bytes : ByteArray} {maxL : Nat} {ret : Option FieldType} {hh : List (Nat × Nat × Nat × Nat)}
    (hown : s.vm.findClass own = some m.cls) (hlink : (Cond.methodLink own index y).before args s = true) (hinst : (Cond.instanceMethod y).before args s = true) (hsel : (Cond.selects C y y).before args s = true)
    (hcode : (Cond.codeWith y bytes maxL ret hh).before args s = true) (hy : y.cls ≠ "java/lang/invoke/MethodHandle" ∧ y.cls ≠ "java/lang/invoke/VarHandle")
    {W9 : Nat} {Pre : Pt → Array Value → Prop} {Post : Pt → Array Value → Option Value → Pt → Prop} (hK : Back l R p e below s args y 3 W9 Pre Post)
    {b : Addr} {cellB : Cell} (hcell : T.heap[b]? = some cellB) (hobj : cellB.vm.isStatics = false) (hcls : s.vm.findClass C = some cellB.cls)
    {g : JFrame} (hg : g.method = m) (hsize : g.locals.size = c.maxLocals) {argsL rest : List Value} (hlen : ∀ sig, parseMethodDescriptor y.desc = some sig → argsL.length = sig.parameters.length)
    (hstack : g.stack = argsL.reverse ++ .ref b :: rest) (hW : 2 * g.monitorRoom + (rest.map fun v => v.category).sum ≤ W9) (hdg : decode c.code g.pc = .ok (.invokevirtual index, 3))
    (hpre : ∀ vm₁, s.WarmedH vm₁ → Pre ⟨T.setVm vm₁, locs, cells, slots⟩ (Value.ref b :: argsL).toArray) :
    ∃ (v : Option Value) (vm₁ : Vm) (B : Pt), s.WarmedH vm₁ ∧ Stand p l e R s m args below meth c B.U B.locs B.cells B.slots ∧ Post ⟨T.setVm vm₁, locs, cells, slots⟩ (Value.ref b :: argsL).toArray v B ∧
      ∀ target, Steps p.tables e below (B.U.setTop { g with pc := g.pc + 3, stack := v.toList ++ rest }) target → Steps p.tables e below (T.setTop g) target := by
  obtain ⟨mk, methM, hnamed, hmethM, hstM, habM⟩ := Cond.instanceMethod_spec hinst
  obtain ⟨m8, methM', cM, hn8, hmethM', -, -, -, -, -, -, hsigM⟩ := Cond.codeWith_spec hcode
  cases Option.some.inj (hn8.symm.trans hnamed)
  cases hmethM.symm.trans hmethM'
  obtain ⟨c2, r2, m2, q1, q2, q3, q4, kP, hkP, hkPi⟩ := Cond.selects_spec hsel
  cases hcls.symm.trans q1
  cases (State.methodFound?_of_named hnamed hy).symm.trans q2
  cases hnamed.symm.trans q3
  have hselP : selectMethod e.platform s.vm cellB.cls mk = .method mk := by rw [Launch.admits_selectMethod X.admits]; exact q4
  obtain ⟨vm₁, X₁, hstep₁⟩ := X.invokevirtual hexec hown hlink hnamed hmethM hstM hkP hkPi hy (a := b) (cell := cellB) hcell
    (fun z h => by rw [h] at hobj; cases hobj) hselP hmethM habM hkP hkPi (g := g) hg (argsL := argsL) (rest := rest) (hlen _ hsigM) hstack hdg
  obtain ⟨v, B, X', hpost, hsteps⟩ := hK m meth c ⟨T.setVm vm₁, locs, cells, slots⟩ { g with stack := rest } (.invokevirtual index) mk (Value.ref b :: argsL).toArray X₁ hg hsize hdg hW (X₁.named hnamed) (hpre vm₁ X₁.warmed)
  exact ⟨v, vm₁, B, X₁.warmed, X', hpost, fun target h => hstep₁ _ fun acts => by rw [doInvoke_state]; exact hsteps.trans h⟩
abbrev vx_CVW (R : Room) (s : State) (args : Array Value) (own C : String) (index : Nat) (y : MethodName) (bytes : ByteArray) (maxL : Nat) (ret : Option FieldType) (hh : List (Nat × Nat × Nat × Nat)) (ws : List Cond) (rm : Room) (mc ms n : Nat) : Prop :=
  (rm.cells = mc ∧ rm.slots = ms ∧ rm.frames + 1 ≤ R.frames ∧ 8 + (maxL + 11) + rm.locals ≤ R.locals ∧ (∀ w ∈ ws, ∀ (a' : Array Value) (U : State), s.WarmedH U.vm → w.before a' U = true) ∧ Cond.codeWith y bytes maxL ret hh ∈ ws) ∧
  (Cond.codeWith y bytes maxL ret hh).before args s = true ∧ (Cond.initialized y.cls).before args s = true ∧ (y.cls ≠ "java/lang/invoke/MethodHandle" ∧ y.cls ≠ "java/lang/invoke/VarHandle") ∧
  (∀ sig, parseMethodDescriptor y.desc = some sig → n = sig.parameters.length) ∧ (Cond.methodLink own index y).before args s = true ∧ (Cond.instanceMethod y).before args s = true ∧ (Cond.selects C y y).before args s = true
theorem vx_cwVW {own C : String} {index maxL mc ms : Nat} {y : MethodName} {bytes : ByteArray} {ret : Option FieldType} {hh : List (Nat × Nat × Nat × Nat)} {Ts ws ws' : List Cond} {rm : Room} (n : Nat) (ht : ∀ w ∈ Ts, w.before args s = true) (hT : GoodIn Ts (wsV own index C y ws)) (hw : ws = Cond.codeWith y bytes maxL ret hh :: ws') (hrc : rm.cells = mc) (hrs : rm.slots = ms)
    (hd : y.cls = C ∧ y.cls ≠ "java/lang/invoke/MethodHandle" ∧ y.cls ≠ "java/lang/invoke/VarHandle" ∧ (parseMethodDescriptor y.desc).map (fun d => d.parameters.length) = some n) (hR : rm.frames + 1 ≤ R.frames ∧ 8 + (maxL + 11) + rm.locals ≤ R.locals) :
    vx_CVW R s args own C index y bytes maxL ret hh ws rm mc ms n := by
  obtain ⟨hC, hd⟩ := hd
  subst hC
  have ok : ∀ w ∈ wsV own index y.cls y ws, w.before args s = true := fun w h => ht w (hT w h).1
  have hG : GoodIn Ts ws := fun w h => hT w (by unfold wsV; exact List.mem_append_right _ h)
  have hc : Cond.codeWith y bytes maxL ret hh ∈ ws := by rw [hw]; exact List.mem_cons_self
  refine ⟨⟨hrc, hrs, hR.1, hR.2, pay_in ht hG, hc⟩, ht _ (hG _ hc).1, ok _ (by simp [wsV]), ⟨hd.1, hd.2.1⟩, fun sig h => ?_, ok _ (by simp [wsV]), ok _ (by simp [wsV]), ok _ (by simp [wsV])⟩
  have h2 := hd.2.2
  rw [h] at h2
  exact (Option.some.inj h2).symm
theorem vx_runVW {y : MethodName} {bytes cc : ByteArray} {maxL nL mc ms n index : Nat} {ret : Option FieldType} {hh : List (Nat × Nat × Nat × Nat)} {ws : List Cond} {rm : Room} {Pc : Array Value → State → Prop} {Qc : Array Value → State → Outcome → State → Prop} {free : Addr → Prop} {Ts : List Cond} {own C : String} {b : Addr} {As rest : List Value} {g : JFrame}
    (S : CallFix p m c cc nL s args Ts own) (hM : Met l y ws rm Pc Qc mc ms free) (cw : vx_CVW R s args own C index y bytes maxL ret hh ws rm mc ms n) (hp : PreV s H C b Pc As)
    (hg : g.method = m) (hn : As.length = n) (hsize : g.locals.size = nL) (hstack : g.stack = As.reverse ++ .ref b :: rest) (hW : 2 * g.monitorRoom + (rest.map fun v => v.category).sum ≤ 8) (hdg : decode cc g.pc = .ok (.invokevirtual index, 3)) (hf : cells + mc ≤ R.cells ∧ slots + ms ≤ R.slots) :
    va_Run p l e R s m args below meth c H locs cells slots mc ms g rest (Qc (Value.ref b :: As).toArray) free := by
  obtain ⟨⟨hrc, hrs, hfr, hlo, hws, hcw⟩, hcode, hini, hy, hlen, hl, hin, hse⟩ := cw
  have hK : Back l R p e below s args y 3 8 (PreOf R mc ms Pc) (PostOf Qc mc ms free) := va_backW (hh := hh) (bytes := bytes) (maxL := maxL) (ret := ret) hM hp.1 hrc hrs hfr hlo hws hcw (fun a' U hW => word_at hW (Or.inl (by first | rfl | simp [Cond.onTables, Cond.keeps, Cond.steady])) hini)
  obtain ⟨hx, hb, hml, ho, -⟩ := S
  obtain ⟨-, ⟨cellB, hcB, hoB, hclB⟩, hPc⟩ := hp
  intro T hT X
  obtain ⟨v, vm₁, ⟨U', l2, c2, s2⟩, hW₁, X', ⟨g', mk, t, L, e1, e2, hq, h1, hL, h2, h3⟩, st⟩ := vx_callVW X hx (C := C) (hh := hh) (bytes := bytes) (maxL := maxL) (ret := ret) ho hl hin hse hcode hy hK (by rw [hT]; exact hcB) hoB hclB hg (hsize.trans hml.symm) (argsL := As) (rest := rest) (fun sig h => hn.trans (hlen sig h)) hstack hW (by rw [hb]; exact hdg)
    (fun vm₁ hW₁ => ⟨hf.1, hf.2, hPc (T.setVm vm₁) hT hW₁⟩)
  dsimp only [Pt.U, Pt.locs, Pt.cells, Pt.slots] at X' e1 e2 h1 h2 h3 st
  subst h1; subst h2; subst h3
  exact ⟨v, (T.setVm vm₁).calling g' mk (Value.ref b :: As).toArray, t, U', L, hT, X', hL, e1, e2, hq, st⟩
section
variable {y : MethodName} {bytes cc : ByteArray} {maxL nL mc ms n index : Nat} {ret : Option FieldType} {ws : List Cond} {rm : Room} {Pc : Array Value → State → Prop} {Qc : Array Value → State → Outcome → State → Prop} {XC : String → State → State → Prop} {free : Addr → Prop} {Ts : List Cond} {own C : String} {b : Addr} {As rest : List Value} {g : JFrame}
theorem vx_runVX {hh : List (Nat × Nat × Nat × Nat)} (S : CallFix p m c cc nL s args Ts own) (hM : vx_Met l y ws rm Pc Qc XC mc ms free) (cw : vx_CVW R s args own C index y bytes maxL ret hh ws rm mc ms n) (hp : PreV s H C b Pc As)
    (hg : g.method = m) (hn : As.length = n) (hsize : g.locals.size = nL) (hstack : g.stack = As.reverse ++ .ref b :: rest) (hW : 2 * g.monitorRoom + (rest.map fun v => v.category).sum ≤ 8) (hdg : decode cc g.pc = .ok (.invokevirtual index, 3)) (hf : cells + mc ≤ R.cells ∧ slots + ms ≤ R.slots) :
    vx_Run p l e R s m args below meth c H locs cells slots mc ms g rest (Qc (Value.ref b :: As).toArray) XC free := by
  obtain ⟨⟨hrc, hrs, hfr, hlo, hws, hcw⟩, hcode, hini, hy, hlen, hl, hin, hse⟩ := cw
  have hK : vx_Back l R p e below s args y 3 8 (PreOf R mc ms Pc) (PostOf Qc mc ms free) (vx_Post XC mc ms free) := vx_backW (hh := hh) (bytes := bytes) (maxL := maxL) (ret := ret) hM hp.1 hrc hrs hfr hlo hws hcw (fun a' U hW => word_at hW (Or.inl (by first | rfl | simp [Cond.onTables, Cond.keeps, Cond.steady])) hini)
  obtain ⟨hx, hb, hml, ho, -⟩ := S
  obtain ⟨-, ⟨cellB, hcB, hoB, hclB⟩, hPc⟩ := hp
  intro T hT X
  rcases vx_callVX X hx (C := C) (hh := hh) (bytes := bytes) (maxL := maxL) (ret := ret) ho hl hin hse hcode hy hK (by rw [hT]; exact hcB) hoB hclB hg (hsize.trans hml.symm) (argsL := As) (rest := rest) (fun sig h => hn.trans (hlen sig h)) hstack hW (by rw [hb]; exact hdg)
    (fun vm₁ hW₁ => ⟨hf.1, hf.2, hPc (T.setVm vm₁) hT hW₁⟩) with ⟨v, vm₁, ⟨U', l2, c2, s2⟩, hW₁, X', ⟨g', mk, t, L, e1, e2, hq, h1, hL, h2, h3⟩, st⟩ | ⟨q, vm₁, ⟨U', l2, c2, s2⟩, hW₁, X', ⟨g', mk, t, L, E, ce, e1, e2, hq, hce, hcv, hcl, h1, hL, h2, h3⟩, st⟩
  · dsimp only [Pt.U, Pt.locs, Pt.cells, Pt.slots] at X' e1 e2 h1 h2 h3 st
    subst h1; subst h2; subst h3
    exact Or.inl ⟨v, (T.setVm vm₁).calling g' mk (Value.ref b :: As).toArray, t, U', L, hT, X', hL, e1, e2, hq, st⟩
  · dsimp only [Pt.U, Pt.locs, Pt.cells, Pt.slots] at X' e1 e2 h1 h2 h3 st hcl
    subst h1; subst h2; subst h3
    exact Or.inr ⟨q, (T.setVm vm₁).calling g' mk (Value.ref b :: As).toArray, t, U', L, E, ce, hT, X', hL, e1, e2, hq, hce, hcv, vx_cls hW₁ hcl, st⟩
theorem vx_runSX {hh : List (Nat × Nat × Nat × Nat)} (S : CallFix p m c cc nL s args Ts own) (hM : vx_Met l y ws rm Pc Qc XC mc ms free) (cw : vx_CSW R s args own index y bytes maxL ret hh ws rm mc ms n) (hp : PreS s H Pc As)
    (hg : g.method = m) (hn : As.length = n) (hsize : g.locals.size = nL) (hstack : g.stack = As.reverse ++ rest) (hW : 2 * g.monitorRoom + (rest.map fun v => v.category).sum ≤ 8) (hdg : decode cc g.pc = .ok (.invokestatic index, 3)) (hf : cells + mc ≤ R.cells ∧ slots + ms ≤ R.slots) :
    vx_Run p l e R s m args below meth c H locs cells slots mc ms g rest (Qc As.toArray) XC free := by
  obtain ⟨⟨hrc, hrs, hfr, hlo, hws, hcw⟩, hcode, hini, hy, hlen, hl, hstt⟩ := cw
  have hK : vx_Back l R p e below s args y 3 8 (PreOf R mc ms Pc) (PostOf Qc mc ms free) (vx_Post XC mc ms free) := vx_backW (hh := hh) (bytes := bytes) (maxL := maxL) (ret := ret) hM hp.1 hrc hrs hfr hlo hws hcw (fun a' U hW => word_at hW (Or.inl (by first | rfl | simp [Cond.onTables, Cond.keeps, Cond.steady])) hini)
  obtain ⟨hx, hb, hml, ho, -⟩ := S
  intro T hT X
  rcases vx_callSX X hx (hh := hh) (bytes := bytes) (maxL := maxL) (ret := ret) ho hl hstt hini hcode hy hK hg (hsize.trans hml.symm) (argsL := As) (rest := rest) (fun sig h => hn.trans (hlen sig h)) hstack hW (by rw [hb]; exact hdg)
    (fun vm₁ hW₁ => ⟨hf.1, hf.2, hp.2 (T.setVm vm₁) hT hW₁⟩) with ⟨v, vm₁, ⟨U', l2, c2, s2⟩, hW₁, X', ⟨g', mk, t, L, e1, e2, hq, h1, hL, h2, h3⟩, st⟩ | ⟨q, vm₁, ⟨U', l2, c2, s2⟩, hW₁, X', ⟨g', mk, t, L, E, ce, e1, e2, hq, hce, hcv, hcl, h1, hL, h2, h3⟩, st⟩
  · dsimp only [Pt.U, Pt.locs, Pt.cells, Pt.slots] at X' e1 e2 h1 h2 h3 st
    subst h1; subst h2; subst h3
    exact Or.inl ⟨v, (T.setVm vm₁).calling g' mk As.toArray, t, U', L, hT, X', hL, e1, e2, hq, st⟩
  · dsimp only [Pt.U, Pt.locs, Pt.cells, Pt.slots] at X' e1 e2 h1 h2 h3 st hcl
    subst h1; subst h2; subst h3
    exact Or.inr ⟨q, (T.setVm vm₁).calling g' mk As.toArray, t, U', L, E, ce, hT, X', hL, e1, e2, hq, hce, hcv, vx_cls hW₁ hcl, st⟩
end
end VXH
theorem vx_ofWH {l : Launch} {y : MethodName} {ws ws' : List Cond} {rm : Room} {Pc : Array Value → State → Prop} {Qc : Array Value → State → Outcome → State → Prop} {XC : String → State → State → Prop} {mc ms : Nat} {free : Addr → Prop} {cc : ByteArray} {maxL : Nat} {ret : Option FieldType} {hh : List (Nat × Nat × Nat × Nat)}
    (hy : plainName y.cls = true) (hw : ws = Cond.codeWith y cc maxL ret hh :: ws')
    (body : ∀ p e s m args below meth c s₁, BodyLoose p l y (headSpec ws rm) cc maxL ret e s m args below meth c s₁ → c.maxLocals = maxL → Pc args s →
      W p l e (headSpec ws rm).room s m args below meth c s.heap [] 0 0 (vx_MQ below Qc XC args s mc ms free) (entryFrame m args maxL)) : vx_Met l y ws rm Pc Qc XC mc ms free := by
  refine MetFree.of_bodyS (code := cc) (maxLocals := maxL) (ret := ret) hy ?_ ?_
  · intro args s m h hn
    obtain ⟨m9, meth, c, hn9, h1, h2, h3, h4, -, h5, h6, -⟩ := Cond.codeWith_spec (atoms_spec (ws := ws) h _ (by rw [hw]; exact List.mem_cons_self))
    cases hn.symm.trans hn9
    exact ⟨meth, c, h1, h2, h3, h4, h5, h6⟩
  · intro p e s m args below meth c s₁ B hml hP _
    have hh0 : s₁.heap = s.heap := by rw [B.state]; rfl
    obtain ⟨t, a1, o, b1, b2, b3⟩ := body p e s m args below meth c s₁ B hml hP s₁ hh0 (Stand.of_body B)
    exact ⟨t, o, a1, b1, b2, b3⟩
/-! ===== END ===== -/
end
section
def bwl0 : List Cond := [.code yX0_init cX0_init 2 none, .methodLink RX0 1 objectInit, .instanceMethod objectInit, .code objectInit ⟨#[0xb1]⟩ 1 none, .methodLink RX0 7 Lib.Math.max.name, .static Lib.Math.max.name, .initialized "java/lang/Math", .code Lib.Math.max.name Lib.Math.max.code 2 (some .int), .arrayClass .int, .fieldLink RX0 13 "HeapFile$Bytes" "values" "[I", .code yX0_at cX0_at 2 (some .int), .fieldLink RX0 19 "HeapFile$Bytes" "count" "I", .code yX0_add cX0_add 2 none, .code yX0_addAll cX0_addAll 3 none, .methodLink RX0 23 yX0_at, .instanceMethod yX0_at, .selects RX0 yX0_at yX0_at, .initialized RX0, .methodLink RX0 27 yX0_add, .instanceMethod yX0_add, .selects RX0 yX0_add yX0_add, .code yX0_empty cX0_empty 1 none, .code yX0_takePart cX0_takePart 5 none, .methodLink RX0 31 yX0_empty, .instanceMethod yX0_empty, .selects RX0 yX0_empty yX0_empty, .code yX1_init cX1_init 1 none, .methodLink RX1 1 objectInit, .code yX1_enter cX1_enter 2 (some .boolean), .fieldLink RX1 13 "HeapFile$OrderReader" "stage" "I", .fieldLink RX1 17 "HeapFile$OrderReader" "letters" "I", .fieldLink RX1 20 "HeapFile$OrderReader" "digits" "I", .fieldLink RX1 36 "HeapFile$OrderReader" "number" "I", .code yX1_restart cX1_restart 1 none, .methodLink RX1 9 yX1_enter, .instanceMethod yX1_enter, .selects RX1 yX1_enter yX1_enter, .initialized RX1, .code yX1_mayEnd cX1_mayEnd 1 (some .boolean), .code yX1_acceptsFirst cX1_acceptsFirst 2 (some .boolean), .code yX1_acceptsLetter cX1_acceptsLetter 2 (some .boolean), .code yX1_acceptsDigit cX1_acceptsDigit 2 (some .boolean), .methodLink RX1 23 yX1_mayEnd, .instanceMethod yX1_mayEnd, .selects RX1 yX1_mayEnd yX1_mayEnd, .methodLink RX1 27 yX1_acceptsFirst, .instanceMethod yX1_acceptsFirst, .selects RX1 yX1_acceptsFirst yX1_acceptsFirst, .methodLink RX1 30 yX1_acceptsLetter, .instanceMethod yX1_acceptsLetter, .selects RX1 yX1_acceptsLetter yX1_acceptsLetter, .methodLink RX1 33 yX1_acceptsDigit, .instanceMethod yX1_acceptsDigit, .selects RX1 yX1_acceptsDigit yX1_acceptsDigit, .code yX1_accepts cX1_accepts 2 (some .boolean), .code yX3_init cX3_init 1 none, .methodLink RX3 3 objectInit, .fieldLink RX3 9 "HeapFile$State" "bytes" "[I", .code yX2_init cX2_init 1 none, .methodLink RX2 3 objectInit]
def bwl1 : List Cond := [.classLink RX2 9 RX3, .instantiable RX3 5, .initialized RX3, .fieldLink RX2 12 "HeapFile$Pages" "state" "LHeapFile$State;", .classLink RX2 18 RX0, .instantiable RX0 2, .fieldLink RX2 23 "HeapFile$Pages" "before" "LHeapFile$Bytes;", .instanceMethod yX3_init, .instanceMethod yX0_init, .code yX3_slotCount cX3_slotCount 3 (some .int), .code yX4_slotOffset cX4_slotOffset 1 (some .int), .code yX3_sizeOf cX3_sizeOf 4 (some .int), .code yX2_freeBytes cX2_freeBytes 5 (some .int), .instanceMethod yX3_slotCount, .selects RX3 yX3_slotCount yX3_slotCount, .static yX4_slotOffset, .initialized RX4, .instanceMethod yX3_sizeOf, .selects RX3 yX3_sizeOf yX3_sizeOf, .code yX2_sizeOfRecords cX2_sizeOfRecords 2 (some .int), .methodLink RX2 38 yX2_freeBytes, .instanceMethod yX2_freeBytes, .selects RX2 yX2_freeBytes yX2_freeBytes, .initialized RX2, .code yX3_byteAt cX3_byteAt 4 (some .int), .code yX2_gapWith cX2_gapWith 3 (some .int), .instanceMethod yX3_byteAt, .selects RX3 yX3_byteAt yX3_byteAt, .code yX2_slotToUse cX2_slotToUse 4 (some .int), .code yX2_hasRoom cX2_hasRoom 4 (some .boolean), .methodLink RX2 44 yX2_slotToUse, .instanceMethod yX2_slotToUse, .selects RX2 yX2_slotToUse yX2_slotToUse, .methodLink RX2 51 yX2_hasRoom, .instanceMethod yX2_hasRoom, .selects RX2 yX2_hasRoom yX2_hasRoom, .code yX2_findPage cX2_findPage 5 (some .int), .code yX3_setByte cX3_setByte 5 none, .code yX2_openIfNew cX2_openIfNew 2 none, .instanceMethod yX3_setByte, .selects RX3 yX3_setByte yX3_setByte, .code yX2_recordsThatFit cX2_recordsThatFit 8 (some .int), .code yX3_offsetOf cX3_offsetOf 4 (some .int), .code yX2_eraseRecord cX2_eraseRecord 8 none, .methodLink RX2 62 Lib.Math.min.name, .static Lib.Math.min.name, .code Lib.Math.min.name Lib.Math.min.code 2 (some .int), .instanceMethod yX3_offsetOf, .selects RX3 yX3_offsetOf yX3_offsetOf, .code yX4_pageIn cX4_pageIn 1 (some .int), .code yX4_slotIn cX4_slotIn 1 (some .int), .static yX4_pageIn, .static yX4_slotIn, .methodLink RX2 73 yX2_eraseRecord, .instanceMethod yX2_eraseRecord, .selects RX2 yX2_eraseRecord yX2_eraseRecord, .code yX2_removeRecord cX2_removeRecord 4 none, .code yX2_compactPage cX2_compactPage 9 (some .int), .methodLink RX2 77 Lib.Math.max.name, .methodLink RX2 80 yX2_gapWith]
def bwl2 : List Cond := [.instanceMethod yX2_gapWith, .selects RX2 yX2_gapWith yX2_gapWith, .methodLink RX2 86 yX2_compactPage, .instanceMethod yX2_compactPage, .selects RX2 yX2_compactPage yX2_compactPage, .code yX2_putRecord cX2_putRecord 8 none, .code yX3_recordByte cX3_recordByte 4 (some .int), .methodLink RX3 15 yX3_offsetOf, .methodLink RX3 19 yX3_byteAt, .code yX3_setRecordByte cX3_setRecordByte 5 none, .methodLink RX3 22 yX3_setByte, .code yX3_copyFrom cX3_copyFrom 2 none, .methodLink RX3 26 Lib.Math.min.name, .methodLink RX3 31 arraycopyName, .native arraycopyName, .static arraycopyName, .initialized "java/lang/System", .fieldLink RX3 37 "HeapFile$State" "pageCount" "I", .fieldLink RX3 41 "HeapFile$State" "moveCount" "I", .fieldLink RX3 44 "HeapFile$State" "returnCount" "I", .fieldLink RX3 47 "HeapFile$State" "compactionCount" "I", .methodLink RX4 3 objectInit, .classLink RX4 9 RX2, .instantiable RX2 2, .fieldLink RX4 12 "HeapFile" "space" "LHeapFile$Pages;", .fieldLink RX4 20 "HeapFile" "state" "LHeapFile$State;", .classLink RX4 21 RX0, .fieldLink RX4 26 "HeapFile" "buffer" "LHeapFile$Bytes;", .fieldLink RX4 30 "HeapFile" "content" "LHeapFile$Bytes;", .fieldLink RX4 33 "HeapFile" "record" "LHeapFile$Bytes;", .classLink RX4 36 RX1, .instantiable RX1 4, .fieldLink RX4 39 "HeapFile" "reader" "LHeapFile$OrderReader;", .classLink RX4 43 RX3, .fieldLink RX4 45 "HeapFile" "saved" "[LHeapFile$State;", .instanceMethod yX2_init, .instanceMethod yX1_init, .code yX4_init cX4_init 2 none, .code yX4_appendSeveral cX4_appendSeveral 4 (some .int), .classLink RX4 61 "java/lang/IllegalArgumentException", .initialized "java/lang/IllegalArgumentException", .classLink RX4 70 "java/lang/IllegalStateException", .initialized "java/lang/IllegalStateException", .code yX4_append cX4_append 2 (some .int), .methodLink RX4 50 yX4_appendSeveral, .instanceMethod yX4_appendSeveral, .selects RX4 yX4_appendSeveral yX4_appendSeveral, .code yX4_fill cX4_fill 3 (some .int), .code yX4_clearBuffer cX4_clearBuffer 2 (some .int), .code yX4_homeSize cX4_homeSize 1 (some .int), .methodLink RX4 268 Lib.Math.max.name, .code yX4_discardOldest cX4_discardOldest 3 none, .fieldLink RX4 231 "HeapFile" "savedCount" "I", .methodLink RX4 323 yX4_discardOldest, .instanceMethod yX4_discardOldest, .selects RX4 yX4_discardOldest yX4_discardOldest, .instanceMethod yX3_copyFrom, .selects RX3 yX3_copyFrom yX3_copyFrom, .code yX4_saveState cX4_saveState 1 none, .code yX4_placeAt cX4_placeAt 2 (some .int)]
def bwl3 : List Cond := [.code yX4_writeHomeRecord cX4_writeHomeRecord 2 none, .instanceMethod yX0_addAll, .selects RX0 yX0_addAll yX0_addAll, .instanceMethod yX2_openIfNew, .selects RX2 yX2_openIfNew yX2_openIfNew, .methodLink RX4 149 yX4_placeAt, .static yX4_placeAt, .methodLink RX4 284 yX4_writeHomeRecord, .instanceMethod yX4_writeHomeRecord, .selects RX4 yX4_writeHomeRecord yX4_writeHomeRecord, .instanceMethod yX2_putRecord, .selects RX2 yX2_putRecord yX2_putRecord, .code yX4_insertContent cX4_insertContent 3 (some .int), .methodLink RX4 78 yX4_homeSize, .static yX4_homeSize, .instanceMethod yX2_findPage, .selects RX2 yX2_findPage yX2_findPage, .methodLink RX4 88 yX4_saveState, .instanceMethod yX4_saveState, .selects RX4 yX4_saveState yX4_saveState, .instanceMethod yX0_takePart, .selects RX0 yX0_takePart yX0_takePart, .methodLink RX4 95 yX4_insertContent, .instanceMethod yX4_insertContent, .selects RX4 yX4_insertContent yX4_insertContent, .code yX4_insert cX4_insert 2 (some .int), .methodLink RX4 167 yX4_pageIn, .methodLink RX4 170 yX4_slotIn, .instanceMethod yX3_recordByte, .selects RX3 yX3_recordByte yX3_recordByte, .code yX4_kind cX4_kind 5 (some .int), .methodLink RX4 132 yX4_kind, .instanceMethod yX4_kind, .selects RX4 yX4_kind yX4_kind, .code yX4_isRow cX4_isRow 3 (some .boolean), .classLink RX4 135 "java/lang/IndexOutOfBoundsException", .initialized "java/lang/IndexOutOfBoundsException", .methodLink RX4 259 yX4_isRow, .instanceMethod yX4_isRow, .selects RX4 yX4_isRow yX4_isRow, .code yX4_requireRow cX4_requireRow 2 none, .code yX4_sizeAt cX4_sizeAt 2 (some .int), .methodLink RX4 271 yX4_sizeAt, .instanceMethod yX4_sizeAt, .selects RX4 yX4_sizeAt yX4_sizeAt, .code yX4_roomToReplace cX4_roomToReplace 2 (some .int), .code yX4_targetAt cX4_targetAt 4 (some .int), .methodLink RX4 155 yX4_targetAt, .instanceMethod yX4_targetAt, .selects RX4 yX4_targetAt yX4_targetAt, .code yX4_presentPlace cX4_presentPlace 2 (some .int), .code yX4_movedSize cX4_movedSize 1 (some .int), .methodLink RX4 197 yX4_roomToReplace, .instanceMethod yX4_roomToReplace, .selects RX4 yX4_roomToReplace yX4_roomToReplace, .methodLink RX4 110 yX4_presentPlace, .instanceMethod yX4_presentPlace, .selects RX4 yX4_presentPlace yX4_presentPlace, .methodLink RX4 291 yX4_movedSize, .static yX4_movedSize]
def bwl4 : List Cond := [.code yX4_wayToChange cX4_wayToChange 5 (some .int), .instanceMethod yX2_removeRecord, .selects RX2 yX2_removeRecord yX2_removeRecord, .code yX4_storeAtHome cX4_storeAtHome 3 none, .code yX4_writeHead cX4_writeHead 3 none, .methodLink RX4 278 yX4_writeHead, .instanceMethod yX4_writeHead, .selects RX4 yX4_writeHead yX4_writeHead, .code yX4_writeMovedRecord cX4_writeMovedRecord 2 none, .instanceMethod yX3_setRecordByte, .selects RX3 yX3_setRecordByte yX3_setRecordByte, .code yX4_leaveNote cX4_leaveNote 4 none, .methodLink RX4 294 yX4_storeAtHome, .instanceMethod yX4_storeAtHome, .selects RX4 yX4_storeAtHome yX4_storeAtHome, .methodLink RX4 297 yX4_writeMovedRecord, .instanceMethod yX4_writeMovedRecord, .selects RX4 yX4_writeMovedRecord yX4_writeMovedRecord, .methodLink RX4 300 yX4_leaveNote, .instanceMethod yX4_leaveNote, .selects RX4 yX4_leaveNote yX4_leaveNote, .code yX4_changeRow cX4_changeRow 6 none, .methodLink RX4 98 yX4_requireRow, .instanceMethod yX4_requireRow, .selects RX4 yX4_requireRow yX4_requireRow, .methodLink RX4 101 yX4_wayToChange, .instanceMethod yX4_wayToChange, .selects RX4 yX4_wayToChange yX4_wayToChange, .methodLink RX4 106 yX4_changeRow, .instanceMethod yX4_changeRow, .selects RX4 yX4_changeRow yX4_changeRow, .code yX4_update cX4_update 3 (some .int), .code yX4_lengthAt cX4_lengthAt 3 (some .int), .code yX4_deleteRow cX4_deleteRow 3 none, .methodLink RX4 113 yX4_lengthAt, .instanceMethod yX4_lengthAt, .selects RX4 yX4_lengthAt yX4_lengthAt, .methodLink RX4 116 yX4_deleteRow, .instanceMethod yX4_deleteRow, .selects RX4 yX4_deleteRow yX4_deleteRow, .code yX4_delete cX4_delete 3 (some .int), .code yX4_mayReturn cX4_mayReturn 2 (some .boolean), .code yX4_rowByteAt cX4_rowByteAt 6 (some .int), .methodLink RX4 140 yX4_rowByteAt, .instanceMethod yX4_rowByteAt, .selects RX4 yX4_rowByteAt yX4_rowByteAt, .code yX4_takeContentOf cX4_takeContentOf 4 none, .methodLink RX4 311 yX4_mayReturn, .instanceMethod yX4_mayReturn, .selects RX4 yX4_mayReturn yX4_mayReturn, .methodLink RX4 314 yX4_takeContentOf, .instanceMethod yX4_takeContentOf, .selects RX4 yX4_takeContentOf yX4_takeContentOf, .code yX4_bringAllHome cX4_bringAllHome 7 (some .int), .methodLink RX4 119 yX4_bringAllHome, .instanceMethod yX4_bringAllHome, .selects RX4 yX4_bringAllHome yX4_bringAllHome, .code yX4_bringHome cX4_bringHome 1 (some .int), .code yX4_requirePage cX4_requirePage 2 none, .methodLink RX4 123 yX4_requirePage]
def bwl5 : List Cond := [.instanceMethod yX4_requirePage, .selects RX4 yX4_requirePage yX4_requirePage, .code yX4_compact cX4_compact 2 (some .int), .code yX4_countKind cX4_countKind 6 (some .int), .methodLink RX4 129 yX4_countKind, .instanceMethod yX4_countKind, .selects RX4 yX4_countKind yX4_countKind, .code yX4_rows cX4_rows 1 (some .int), .code yX4_length cX4_length 2 (some .int), .code yX4_byteOf cX4_byteOf 4 (some .int), .code yX4_placeOf cX4_placeOf 2 (some .int), .code yX4_rowAt cX4_rowAt 3 (some .int), .methodLink RX4 152 yX4_rowAt, .instanceMethod yX4_rowAt, .selects RX4 yX4_rowAt yX4_rowAt, .code yX4_next cX4_next 6 (some .int), .code yX4_pages cX4_pages 1 (some .int), .code yX4_pageByte cX4_pageByte 3 (some .int), .code yX4_free cX4_free 2 (some .int), .code yX4_gap cX4_gap 2 (some .int), .code yX4_notes cX4_notes 1 (some .int), .code yX4_moves cX4_moves 1 (some .int), .code yX4_returns cX4_returns 1 (some .int), .code yX4_compactions cX4_compactions 1 (some .int), .code yX4_fillFactor cX4_fillFactor 3 (some .double), .instanceMethod yX2_sizeOfRecords, .selects RX2 yX2_sizeOfRecords yX2_sizeOfRecords, .code yX4_requireLength cX4_requireLength 1 none, .methodLink RX4 191 yX4_requireLength, .static yX4_requireLength, .code yX4_ifInserted cX4_ifInserted 3 (some .int), .code yX4_ifUpdated cX4_ifUpdated 3 (some .int), .methodLink RX4 200 Lib.Math.min.name, .code yX4_greatestAtHome cX4_greatestAtHome 2 (some .int), .instanceMethod yX2_recordsThatFit, .selects RX2 yX2_recordsThatFit yX2_recordsThatFit, .code yX4_capacity cX4_capacity 5 (some .int), .instanceMethod yX1_restart, .selects RX1 yX1_restart yX1_restart, .instanceMethod yX1_accepts, .selects RX1 yX1_accepts yX1_accepts, .code yX4_firstError cX4_firstError 2 (some .int), .code yX4_endOfNumber cX4_endOfNumber 4 (some .int), .code yX4_numberIn cX4_numberIn 5 (some .int), .methodLink RX4 317 yX4_endOfNumber, .instanceMethod yX4_endOfNumber, .selects RX4 yX4_endOfNumber yX4_endOfNumber, .methodLink RX4 320 yX4_numberIn, .instanceMethod yX4_numberIn, .selects RX4 yX4_numberIn yX4_numberIn, .code yX4_executeOrder cX4_executeOrder 7 (some .boolean), .methodLink RX4 218 yX4_firstError, .instanceMethod yX4_firstError, .selects RX4 yX4_firstError yX4_firstError, .methodLink RX4 227 yX4_executeOrder, .instanceMethod yX4_executeOrder, .selects RX4 yX4_executeOrder yX4_executeOrder, .code yX4_run cX4_run 5 (some .int), .code yX4_undo cX4_undo 1 (some .int), .code yX4_savedStates cX4_savedStates 1 (some .int)]
def bwl6 : List Cond := [.code yX4_bitsOfFraction cX4_bitsOfFraction 4 (some .int), .constantFloat RX4 258 (1258291200), .constantLong RX4 240 (4436), .constantLong RX4 242 (31), .methodLink RX4 244 yX4_rows, .instanceMethod yX4_rows, .selects RX4 yX4_rows yX4_rows, .methodLink RX4 247 yX4_notes, .instanceMethod yX4_notes, .selects RX4 yX4_notes yX4_notes, .methodLink RX4 250 yX4_fillFactor, .instanceMethod yX4_fillFactor, .selects RX4 yX4_fillFactor yX4_fillFactor, .methodLink RX4 254 yX4_bitsOfFraction, .static yX4_bitsOfFraction, .code yX4_digest cX4_digest 5 (some .long), .code yX5_init cX5_init 1 none, .methodLink RX5 1 objectInit, .fieldLink RX5 7 "HeapFileModel" "s" "[I", .fieldLink RX5 13 "HeapFileModel" "buffer" "[I", .fieldLink RX5 16 "HeapFileModel" "bytes" "[I", .fieldLink RX5 19 "HeapFileModel" "moved" "[I", .code yX5_thrown cX5_thrown 1 (some .int), .fieldLink RX5 22 "HeapFileModel" "thrown" "I", .code yX5_in cX5_in 3 (some .boolean), .code yX5_holds cX5_holds 2 (some .boolean), .code yX5_of cX5_of 3 (some .int), .code yX5_lay cX5_lay 4 none, .code yX5_sizeOf cX5_sizeOf 3 (some .int), .methodLink RX5 26 yX5_of, .instanceMethod yX5_of, .selects RX5 yX5_of yX5_of, .initialized RX5, .code yX5_byteAt cX5_byteAt 4 (some .int), .code yX5_layByte cX5_layByte 5 none, .methodLink RX5 30 yX5_lay, .instanceMethod yX5_lay, .selects RX5 yX5_lay yX5_lay, .code yX5_lowest cX5_lowest 5 (some .int), .methodLink RX5 34 yX5_sizeOf, .instanceMethod yX5_sizeOf, .selects RX5 yX5_sizeOf yX5_sizeOf, .code yX5_gapOf cX5_gapOf 2 (some .int), .methodLink RX5 37 yX5_lowest, .instanceMethod yX5_lowest, .selects RX5 yX5_lowest yX5_lowest, .code yX5_sizes cX5_sizes 4 (some .int), .code yX5_freeOf cX5_freeOf 2 (some .int), .methodLink RX5 41 yX5_sizes, .instanceMethod yX5_sizes, .selects RX5 yX5_sizes yX5_sizes, .code yX5_byteOfPage cX5_byteOfPage 4 (some .int), .code yX5_emptySlot cX5_emptySlot 3 (some .int), .code yX5_hasRoom cX5_hasRoom 4 (some .boolean), .methodLink RX5 44 yX5_emptySlot, .instanceMethod yX5_emptySlot, .selects RX5 yX5_emptySlot yX5_emptySlot, .methodLink RX5 47 yX5_freeOf, .instanceMethod yX5_freeOf, .selects RX5 yX5_freeOf yX5_freeOf]
def bwl7 : List Cond := [.code yX5_wipes cX5_wipes 4 none, .methodLink RX5 50 yX5_layByte, .instanceMethod yX5_layByte, .selects RX5 yX5_layByte yX5_layByte, .code yX5_removes cX5_removes 4 none, .methodLink RX5 54 yX5_wipes, .instanceMethod yX5_wipes, .selects RX5 yX5_wipes yX5_wipes, .code yX5_compacts cX5_compacts 7 (some .int), .methodLink RX5 58 yX5_byteAt, .instanceMethod yX5_byteAt, .selects RX5 yX5_byteAt yX5_byteAt, .methodLink RX5 62 yX5_gapOf, .instanceMethod yX5_gapOf, .selects RX5 yX5_gapOf yX5_gapOf, .methodLink RX5 65 yX5_compacts, .instanceMethod yX5_compacts, .selects RX5 yX5_compacts yX5_compacts, .code yX5_puts cX5_puts 5 none, .methodLink RX5 68 yX5_puts, .instanceMethod yX5_puts, .selects RX5 yX5_puts yX5_puts, .code yX5_stores cX5_stores 4 (some .int), .code yX5_replaces cX5_replaces 4 none, .code yX5_canReplace cX5_canReplace 4 (some .boolean), .methodLink RX5 71 yX5_hasRoom, .instanceMethod yX5_hasRoom, .selects RX5 yX5_hasRoom yX5_hasRoom, .code yX5_pageFor cX5_pageFor 5 (some .int), .code yX5_opens cX5_opens 2 none, .code yX5_kindAt cX5_kindAt 4 (some .int), .code yX5_isIdentifier cX5_isIdentifier 2 (some .boolean), .methodLink RX5 75 yX5_kindAt, .instanceMethod yX5_kindAt, .selects RX5 yX5_kindAt yX5_kindAt, .methodLink RX5 78 yX5_in, .static yX5_in, .code yX5_placed cX5_placed 2 (some .int), .code yX5_homeSize cX5_homeSize 1 (some .int), .code yX5_lengthOf cX5_lengthOf 5 (some .int), .methodLink RX5 82 yX5_placed, .instanceMethod yX5_placed, .selects RX5 yX5_placed yX5_placed, .code yX5_byteOfRow cX5_byteOfRow 4 (some .int), .code yX5_writesHome cX5_writesHome 4 none, .fieldLink RX5 85 "HeapFileModel" "many" "I", .code yX5_writesNote cX5_writesNote 4 none, .code yX5_writesMoved cX5_writesMoved 4 none, .methodLink RX5 88 yX5_writesNote, .instanceMethod yX5_writesNote, .selects RX5 yX5_writesNote yX5_writesNote, .methodLink RX5 91 yX5_homeSize, .static yX5_homeSize, .methodLink RX5 94 yX5_pageFor, .instanceMethod yX5_pageFor, .selects RX5 yX5_pageFor yX5_pageFor, .methodLink RX5 97 yX5_opens, .instanceMethod yX5_opens, .selects RX5 yX5_opens yX5_opens, .methodLink RX5 101 yX5_stores]
def bwl8 : List Cond := [.instanceMethod yX5_stores, .selects RX5 yX5_stores yX5_stores, .methodLink RX5 104 yX5_writesHome, .instanceMethod yX5_writesHome, .selects RX5 yX5_writesHome yX5_writesHome, .code yX5_inserts cX5_inserts 3 (some .int), .methodLink RX5 107 yX5_canReplace, .instanceMethod yX5_canReplace, .selects RX5 yX5_canReplace yX5_canReplace, .code yX5_way cX5_way 5 (some .int), .methodLink RX5 110 yX5_removes, .instanceMethod yX5_removes, .selects RX5 yX5_removes yX5_removes, .methodLink RX5 113 yX5_replaces, .instanceMethod yX5_replaces, .selects RX5 yX5_replaces yX5_replaces, .code yX5_comesHome cX5_comesHome 3 none, .methodLink RX5 116 yX5_writesMoved, .instanceMethod yX5_writesMoved, .selects RX5 yX5_writesMoved yX5_writesMoved, .code yX5_goesOut cX5_goesOut 5 none, .methodLink RX5 119 yX5_way, .instanceMethod yX5_way, .selects RX5 yX5_way yX5_way, .methodLink RX5 122 yX5_comesHome, .instanceMethod yX5_comesHome, .selects RX5 yX5_comesHome yX5_comesHome, .methodLink RX5 125 yX5_goesOut, .instanceMethod yX5_goesOut, .selects RX5 yX5_goesOut yX5_goesOut, .code yX5_updates cX5_updates 4 (some .int), .methodLink RX5 128 yX5_lengthOf, .instanceMethod yX5_lengthOf, .selects RX5 yX5_lengthOf yX5_lengthOf, .code yX5_deletes cX5_deletes 4 (some .int), .methodLink RX5 134 yX5_byteOfRow, .instanceMethod yX5_byteOfRow, .selects RX5 yX5_byteOfRow yX5_byteOfRow, .code yX5_takesRow cX5_takesRow 3 none, .methodLink RX5 131 yX5_takesRow, .instanceMethod yX5_takesRow, .selects RX5 yX5_takesRow yX5_takesRow, .code yX5_returnsAll cX5_returnsAll 3 (some .int), .code yX5_takesBuffer cX5_takesBuffer 4 none, .code yX5_copies cX5_copies 4 none, .code yX5_save cX5_save 2 none, .fieldLink RX5 137 "HeapFileModel" "saved" "I", .methodLink RX5 140 yX5_copies, .instanceMethod yX5_copies, .selects RX5 yX5_copies yX5_copies, .code yX5_append cX5_append 2 (some .int), .fieldLink RX5 143 "HeapFileModel" "length" "I", .methodLink RX5 146 yX5_holds, .instanceMethod yX5_holds, .selects RX5 yX5_holds yX5_holds, .code yX5_fill cX5_fill 4 (some .int), .code yX5_clearBuffer cX5_clearBuffer 2 (some .int), .methodLink RX5 150 yX5_save, .instanceMethod yX5_save, .selects RX5 yX5_save yX5_save]
def bwl9 : List Cond := [.methodLink RX5 153 yX5_takesBuffer, .instanceMethod yX5_takesBuffer, .selects RX5 yX5_takesBuffer yX5_takesBuffer, .methodLink RX5 156 yX5_inserts, .instanceMethod yX5_inserts, .selects RX5 yX5_inserts yX5_inserts, .code yX5_insert cX5_insert 1 (some .int), .methodLink RX5 160 yX5_isIdentifier, .instanceMethod yX5_isIdentifier, .selects RX5 yX5_isIdentifier yX5_isIdentifier, .methodLink RX5 163 yX5_updates, .instanceMethod yX5_updates, .selects RX5 yX5_updates yX5_updates, .code yX5_update cX5_update 3 (some .int), .methodLink RX5 166 yX5_deletes, .instanceMethod yX5_deletes, .selects RX5 yX5_deletes yX5_deletes, .code yX5_delete cX5_delete 2 (some .int), .methodLink RX5 169 yX5_returnsAll, .instanceMethod yX5_returnsAll, .selects RX5 yX5_returnsAll yX5_returnsAll, .code yX5_bringHome cX5_bringHome 1 (some .int), .code yX5_isPage cX5_isPage 2 (some .boolean), .methodLink RX5 172 yX5_isPage, .instanceMethod yX5_isPage, .selects RX5 yX5_isPage yX5_isPage, .code yX5_compact cX5_compact 2 (some .int), .code yX5_counted cX5_counted 5 (some .int), .code yX5_rows cX5_rows 1 (some .int), .methodLink RX5 175 yX5_counted, .instanceMethod yX5_counted, .selects RX5 yX5_counted yX5_counted, .code yX5_isRow cX5_isRow 2 (some .boolean), .code yX5_length cX5_length 2 (some .int), .code yX5_byteOf cX5_byteOf 4 (some .int), .code yX5_placeOf cX5_placeOf 2 (some .int), .code yX5_next cX5_next 4 (some .int), .code yX5_rowAt cX5_rowAt 3 (some .int), .code yX5_pages cX5_pages 1 (some .int), .methodLink RX5 178 yX5_byteOfPage, .instanceMethod yX5_byteOfPage, .selects RX5 yX5_byteOfPage yX5_byteOfPage, .code yX5_pageByte cX5_pageByte 3 (some .int), .code yX5_free cX5_free 2 (some .int), .code yX5_gap cX5_gap 2 (some .int), .code yX5_kind cX5_kind 2 (some .int), .code yX5_notes cX5_notes 1 (some .int), .code yX5_moves cX5_moves 1 (some .int), .code yX5_returns cX5_returns 1 (some .int), .code yX5_compactions cX5_compactions 1 (some .int), .code yX5_factor cX5_factor 3 (some .double), .code yX5_fillFactor cX5_fillFactor 1 (some .double), .methodLink RX5 181 yX5_factor, .instanceMethod yX5_factor, .selects RX5 yX5_factor yX5_factor, .code yX5_ifInserted cX5_ifInserted 4 (some .int), .code yX5_ifUpdated cX5_ifUpdated 3 (some .int), .code yX5_greatestAtHome cX5_greatestAtHome 3 (some .int), .code yX5_taken cX5_taken 7 (some .int), .methodLink RX5 185 yX5_taken]
def bwl10 : List Cond := [.static yX5_taken, .code yX5_capacity cX5_capacity 7 (some .int), .code yX5_sign cX5_sign 1 (some .int), .fieldLink RX5 189 "HeapFileModel" "at" "I", .code yX5_takes cX5_takes 3 (some .boolean), .methodLink RX5 192 yX5_sign, .instanceMethod yX5_sign, .selects RX5 yX5_sign yX5_sign, .code yX5_readsIdentifier cX5_readsIdentifier 1 (some .boolean), .fieldLink RX5 195 "HeapFileModel" "identifier" "I", .code yX5_readsData cX5_readsData 2 (some .boolean), .fieldLink RX5 198 "HeapFileModel" "order" "I", .methodLink RX5 201 yX5_takes, .instanceMethod yX5_takes, .selects RX5 yX5_takes yX5_takes, .methodLink RX5 204 yX5_readsData, .instanceMethod yX5_readsData, .selects RX5 yX5_readsData yX5_readsData, .methodLink RX5 208 yX5_readsIdentifier, .instanceMethod yX5_readsIdentifier, .selects RX5 yX5_readsIdentifier yX5_readsIdentifier, .code yX5_readsOrder cX5_readsOrder 1 (some .boolean), .methodLink RX5 211 yX5_readsOrder, .instanceMethod yX5_readsOrder, .selects RX5 yX5_readsOrder yX5_readsOrder, .code yX5_isComplete cX5_isComplete 1 (some .boolean), .methodLink RX5 214 yX5_isComplete, .instanceMethod yX5_isComplete, .selects RX5 yX5_isComplete yX5_isComplete, .code yX5_firstError cX5_firstError 1 (some .int), .code yX5_can cX5_can 1 (some .boolean), .code yX5_does cX5_does 1 (some .int), .methodLink RX5 217 yX5_can, .instanceMethod yX5_can, .selects RX5 yX5_can yX5_can, .methodLink RX5 220 yX5_does, .instanceMethod yX5_does, .selects RX5 yX5_does yX5_does, .code yX5_run cX5_run 2 (some .int), .code yX5_undo cX5_undo 1 (some .int), .code yX5_savedStates cX5_savedStates 1 (some .int), .code yX5_mix cX5_mix 3 none, .constantLong RX5 223 (31), .fieldLink RX5 225 "HeapFileModel" "hash" "J", .code yX5_bits cX5_bits 3 (some .int), .constant RX5 229 (8388608), .constantFloat RX5 230 (1258291200), .constantLong RX5 231 (4436), .methodLink RX5 233 yX5_mix, .instanceMethod yX5_mix, .selects RX5 yX5_mix yX5_mix, .methodLink RX5 237 yX5_bits, .static yX5_bits, .code yX5_digest cX5_digest 3 (some .long)]
/-- the words that every method of the class and of the reference may need -/
def bw : List Cond := bwl0 ++ (bwl1 ++ (bwl2 ++ (bwl3 ++ (bwl4 ++ (bwl5 ++ (bwl6 ++ (bwl7 ++ (bwl8 ++ (bwl9 ++ (bwl10 ++ (wsX00 ++ (wsX10 ++ (wsX20 ++ (wsX30 ++ (wsX40 ++ (wsX50 ++ ((vx_atS RX4 65 "java/lang/IllegalArgumentException" ["java/lang/RuntimeException", "java/lang/Exception"]).filter goodWord ++ ((vx_atS RX4 74 "java/lang/IllegalStateException" ["java/lang/RuntimeException", "java/lang/Exception"]).filter goodWord ++ ((vx_atS RX4 139 "java/lang/IndexOutOfBoundsException" ["java/lang/RuntimeException", "java/lang/Exception"]).filter goodWord)))))))))))))))))))
theorem bi_bwl0 : ∀ w ∈ bwl0, w ∈ bw := fun _ h => (List.mem_append_left _ h)
theorem bi_bwl1 : ∀ w ∈ bwl1, w ∈ bw := fun _ h => (List.mem_append_right _ (List.mem_append_left _ h))
theorem bi_bwl2 : ∀ w ∈ bwl2, w ∈ bw := fun _ h => (List.mem_append_right _ (List.mem_append_right _ (List.mem_append_left _ h)))
theorem bi_bwl3 : ∀ w ∈ bwl3, w ∈ bw := fun _ h => (List.mem_append_right _ (List.mem_append_right _ (List.mem_append_right _ (List.mem_append_left _ h))))
theorem bi_bwl4 : ∀ w ∈ bwl4, w ∈ bw := fun _ h => (List.mem_append_right _ (List.mem_append_right _ (List.mem_append_right _ (List.mem_append_right _ (List.mem_append_left _ h)))))
theorem bi_bwl5 : ∀ w ∈ bwl5, w ∈ bw := fun _ h => (List.mem_append_right _ (List.mem_append_right _ (List.mem_append_right _ (List.mem_append_right _ (List.mem_append_right _ (List.mem_append_left _ h))))))
theorem bi_bwl6 : ∀ w ∈ bwl6, w ∈ bw := fun _ h => (List.mem_append_right _ (List.mem_append_right _ (List.mem_append_right _ (List.mem_append_right _ (List.mem_append_right _ (List.mem_append_right _ (List.mem_append_left _ h)))))))
theorem bi_bwl7 : ∀ w ∈ bwl7, w ∈ bw := fun _ h => (List.mem_append_right _ (List.mem_append_right _ (List.mem_append_right _ (List.mem_append_right _ (List.mem_append_right _ (List.mem_append_right _ (List.mem_append_right _ (List.mem_append_left _ h))))))))
theorem bi_bwl8 : ∀ w ∈ bwl8, w ∈ bw := fun _ h => (List.mem_append_right _ (List.mem_append_right _ (List.mem_append_right _ (List.mem_append_right _ (List.mem_append_right _ (List.mem_append_right _ (List.mem_append_right _ (List.mem_append_right _ (List.mem_append_left _ h)))))))))
theorem bi_bwl9 : ∀ w ∈ bwl9, w ∈ bw := fun _ h => (List.mem_append_right _ (List.mem_append_right _ (List.mem_append_right _ (List.mem_append_right _ (List.mem_append_right _ (List.mem_append_right _ (List.mem_append_right _ (List.mem_append_right _ (List.mem_append_right _ (List.mem_append_left _ h))))))))))
theorem bi_bwl10 : ∀ w ∈ bwl10, w ∈ bw := fun _ h => (List.mem_append_right _ (List.mem_append_right _ (List.mem_append_right _ (List.mem_append_right _ (List.mem_append_right _ (List.mem_append_right _ (List.mem_append_right _ (List.mem_append_right _ (List.mem_append_right _ (List.mem_append_right _ (List.mem_append_left _ h)))))))))))
theorem bi_U0 : ∀ w ∈ wsX00, w ∈ bw := fun _ h => (List.mem_append_right _ (List.mem_append_right _ (List.mem_append_right _ (List.mem_append_right _ (List.mem_append_right _ (List.mem_append_right _ (List.mem_append_right _ (List.mem_append_right _ (List.mem_append_right _ (List.mem_append_right _ (List.mem_append_right _ (List.mem_append_left _ h))))))))))))
theorem bi_U1 : ∀ w ∈ wsX10, w ∈ bw := fun _ h => (List.mem_append_right _ (List.mem_append_right _ (List.mem_append_right _ (List.mem_append_right _ (List.mem_append_right _ (List.mem_append_right _ (List.mem_append_right _ (List.mem_append_right _ (List.mem_append_right _ (List.mem_append_right _ (List.mem_append_right _ (List.mem_append_right _ (List.mem_append_left _ h)))))))))))))
theorem bi_U2 : ∀ w ∈ wsX20, w ∈ bw := fun _ h => (List.mem_append_right _ (List.mem_append_right _ (List.mem_append_right _ (List.mem_append_right _ (List.mem_append_right _ (List.mem_append_right _ (List.mem_append_right _ (List.mem_append_right _ (List.mem_append_right _ (List.mem_append_right _ (List.mem_append_right _ (List.mem_append_right _ (List.mem_append_right _ (List.mem_append_left _ h))))))))))))))
theorem bi_U3 : ∀ w ∈ wsX30, w ∈ bw := fun _ h => (List.mem_append_right _ (List.mem_append_right _ (List.mem_append_right _ (List.mem_append_right _ (List.mem_append_right _ (List.mem_append_right _ (List.mem_append_right _ (List.mem_append_right _ (List.mem_append_right _ (List.mem_append_right _ (List.mem_append_right _ (List.mem_append_right _ (List.mem_append_right _ (List.mem_append_right _ (List.mem_append_left _ h)))))))))))))))
theorem bi_U4 : ∀ w ∈ wsX40, w ∈ bw := fun _ h => (List.mem_append_right _ (List.mem_append_right _ (List.mem_append_right _ (List.mem_append_right _ (List.mem_append_right _ (List.mem_append_right _ (List.mem_append_right _ (List.mem_append_right _ (List.mem_append_right _ (List.mem_append_right _ (List.mem_append_right _ (List.mem_append_right _ (List.mem_append_right _ (List.mem_append_right _ (List.mem_append_right _ (List.mem_append_left _ h))))))))))))))))
theorem bi_U5 : ∀ w ∈ wsX50, w ∈ bw := fun _ h => (List.mem_append_right _ (List.mem_append_right _ (List.mem_append_right _ (List.mem_append_right _ (List.mem_append_right _ (List.mem_append_right _ (List.mem_append_right _ (List.mem_append_right _ (List.mem_append_right _ (List.mem_append_right _ (List.mem_append_right _ (List.mem_append_right _ (List.mem_append_right _ (List.mem_append_right _ (List.mem_append_right _ (List.mem_append_right _ (List.mem_append_left _ h)))))))))))))))))
theorem bi_A0 : ∀ w ∈ (vx_atS RX4 65 "java/lang/IllegalArgumentException" ["java/lang/RuntimeException", "java/lang/Exception"]).filter goodWord, w ∈ bw := fun _ h => (List.mem_append_right _ (List.mem_append_right _ (List.mem_append_right _ (List.mem_append_right _ (List.mem_append_right _ (List.mem_append_right _ (List.mem_append_right _ (List.mem_append_right _ (List.mem_append_right _ (List.mem_append_right _ (List.mem_append_right _ (List.mem_append_right _ (List.mem_append_right _ (List.mem_append_right _ (List.mem_append_right _ (List.mem_append_right _ (List.mem_append_right _ (List.mem_append_left _ h))))))))))))))))))
theorem bi_A1 : ∀ w ∈ (vx_atS RX4 74 "java/lang/IllegalStateException" ["java/lang/RuntimeException", "java/lang/Exception"]).filter goodWord, w ∈ bw := fun _ h => (List.mem_append_right _ (List.mem_append_right _ (List.mem_append_right _ (List.mem_append_right _ (List.mem_append_right _ (List.mem_append_right _ (List.mem_append_right _ (List.mem_append_right _ (List.mem_append_right _ (List.mem_append_right _ (List.mem_append_right _ (List.mem_append_right _ (List.mem_append_right _ (List.mem_append_right _ (List.mem_append_right _ (List.mem_append_right _ (List.mem_append_right _ (List.mem_append_right _ (List.mem_append_left _ h)))))))))))))))))))
theorem bi_A2 : ∀ w ∈ (vx_atS RX4 139 "java/lang/IndexOutOfBoundsException" ["java/lang/RuntimeException", "java/lang/Exception"]).filter goodWord, w ∈ bw := fun _ h => (List.mem_append_right _ (List.mem_append_right _ (List.mem_append_right _ (List.mem_append_right _ (List.mem_append_right _ (List.mem_append_right _ (List.mem_append_right _ (List.mem_append_right _ (List.mem_append_right _ (List.mem_append_right _ (List.mem_append_right _ (List.mem_append_right _ (List.mem_append_right _ (List.mem_append_right _ (List.mem_append_right _ (List.mem_append_right _ (List.mem_append_right _ (List.mem_append_right _ (List.mem_append_right _ h)))))))))))))))))))
theorem q_0 : (Cond.code yX0_init cX0_init 2 none : Cond) ∈ bw := bi_bwl0 _ (List.mem_of_getElem? (i := 0) rfl)
theorem q_1 : (Cond.methodLink RX0 1 objectInit : Cond) ∈ bw := bi_bwl0 _ (List.mem_of_getElem? (i := 1) rfl)
theorem q_2 : (Cond.instanceMethod objectInit : Cond) ∈ bw := bi_bwl0 _ (List.mem_of_getElem? (i := 2) rfl)
theorem q_3 : (Cond.code objectInit ⟨#[0xb1]⟩ 1 none : Cond) ∈ bw := bi_bwl0 _ (List.mem_of_getElem? (i := 3) rfl)
theorem q_4 : (Cond.methodLink RX0 7 Lib.Math.max.name : Cond) ∈ bw := bi_bwl0 _ (List.mem_of_getElem? (i := 4) rfl)
theorem q_5 : (Cond.static Lib.Math.max.name : Cond) ∈ bw := bi_bwl0 _ (List.mem_of_getElem? (i := 5) rfl)
theorem q_6 : (Cond.initialized "java/lang/Math" : Cond) ∈ bw := bi_bwl0 _ (List.mem_of_getElem? (i := 6) rfl)
theorem q_7 : (Cond.code Lib.Math.max.name Lib.Math.max.code 2 (some .int) : Cond) ∈ bw := bi_bwl0 _ (List.mem_of_getElem? (i := 7) rfl)
theorem q_8 : (Cond.arrayClass .int : Cond) ∈ bw := bi_bwl0 _ (List.mem_of_getElem? (i := 8) rfl)
theorem q_9 : (Cond.fieldLink RX0 13 "HeapFile$Bytes" "values" "[I" : Cond) ∈ bw := bi_bwl0 _ (List.mem_of_getElem? (i := 9) rfl)
theorem q_10 : (Cond.code yX0_at cX0_at 2 (some .int) : Cond) ∈ bw := bi_bwl0 _ (List.mem_of_getElem? (i := 10) rfl)
theorem q_11 : (Cond.fieldLink RX0 19 "HeapFile$Bytes" "count" "I" : Cond) ∈ bw := bi_bwl0 _ (List.mem_of_getElem? (i := 11) rfl)
theorem q_12 : (Cond.code yX0_add cX0_add 2 none : Cond) ∈ bw := bi_bwl0 _ (List.mem_of_getElem? (i := 12) rfl)
theorem q_13 : (Cond.code yX0_addAll cX0_addAll 3 none : Cond) ∈ bw := bi_bwl0 _ (List.mem_of_getElem? (i := 13) rfl)
theorem q_14 : (Cond.methodLink RX0 23 yX0_at : Cond) ∈ bw := bi_bwl0 _ (List.mem_of_getElem? (i := 14) rfl)
theorem q_15 : (Cond.instanceMethod yX0_at : Cond) ∈ bw := bi_bwl0 _ (List.mem_of_getElem? (i := 15) rfl)
theorem q_16 : (Cond.selects RX0 yX0_at yX0_at : Cond) ∈ bw := bi_bwl0 _ (List.mem_of_getElem? (i := 16) rfl)
theorem q_17 : (Cond.initialized RX0 : Cond) ∈ bw := bi_bwl0 _ (List.mem_of_getElem? (i := 17) rfl)
theorem q_18 : (Cond.methodLink RX0 27 yX0_add : Cond) ∈ bw := bi_bwl0 _ (List.mem_of_getElem? (i := 18) rfl)
theorem q_19 : (Cond.instanceMethod yX0_add : Cond) ∈ bw := bi_bwl0 _ (List.mem_of_getElem? (i := 19) rfl)
theorem q_20 : (Cond.selects RX0 yX0_add yX0_add : Cond) ∈ bw := bi_bwl0 _ (List.mem_of_getElem? (i := 20) rfl)
theorem q_21 : (Cond.code yX0_empty cX0_empty 1 none : Cond) ∈ bw := bi_bwl0 _ (List.mem_of_getElem? (i := 21) rfl)
theorem q_22 : (Cond.code yX0_takePart cX0_takePart 5 none : Cond) ∈ bw := bi_bwl0 _ (List.mem_of_getElem? (i := 22) rfl)
theorem q_23 : (Cond.methodLink RX0 31 yX0_empty : Cond) ∈ bw := bi_bwl0 _ (List.mem_of_getElem? (i := 23) rfl)
theorem q_24 : (Cond.instanceMethod yX0_empty : Cond) ∈ bw := bi_bwl0 _ (List.mem_of_getElem? (i := 24) rfl)
theorem q_25 : (Cond.selects RX0 yX0_empty yX0_empty : Cond) ∈ bw := bi_bwl0 _ (List.mem_of_getElem? (i := 25) rfl)
theorem q_26 : (Cond.code yX1_init cX1_init 1 none : Cond) ∈ bw := bi_bwl0 _ (List.mem_of_getElem? (i := 26) rfl)
theorem q_27 : (Cond.methodLink RX1 1 objectInit : Cond) ∈ bw := bi_bwl0 _ (List.mem_of_getElem? (i := 27) rfl)
theorem q_28 : (Cond.code yX1_enter cX1_enter 2 (some .boolean) : Cond) ∈ bw := bi_bwl0 _ (List.mem_of_getElem? (i := 28) rfl)
theorem q_29 : (Cond.fieldLink RX1 13 "HeapFile$OrderReader" "stage" "I" : Cond) ∈ bw := bi_bwl0 _ (List.mem_of_getElem? (i := 29) rfl)
theorem q_30 : (Cond.fieldLink RX1 17 "HeapFile$OrderReader" "letters" "I" : Cond) ∈ bw := bi_bwl0 _ (List.mem_of_getElem? (i := 30) rfl)
theorem q_31 : (Cond.fieldLink RX1 20 "HeapFile$OrderReader" "digits" "I" : Cond) ∈ bw := bi_bwl0 _ (List.mem_of_getElem? (i := 31) rfl)
theorem q_32 : (Cond.fieldLink RX1 36 "HeapFile$OrderReader" "number" "I" : Cond) ∈ bw := bi_bwl0 _ (List.mem_of_getElem? (i := 32) rfl)
theorem q_33 : (Cond.code yX1_restart cX1_restart 1 none : Cond) ∈ bw := bi_bwl0 _ (List.mem_of_getElem? (i := 33) rfl)
theorem q_34 : (Cond.methodLink RX1 9 yX1_enter : Cond) ∈ bw := bi_bwl0 _ (List.mem_of_getElem? (i := 34) rfl)
theorem q_35 : (Cond.instanceMethod yX1_enter : Cond) ∈ bw := bi_bwl0 _ (List.mem_of_getElem? (i := 35) rfl)
theorem q_36 : (Cond.selects RX1 yX1_enter yX1_enter : Cond) ∈ bw := bi_bwl0 _ (List.mem_of_getElem? (i := 36) rfl)
theorem q_37 : (Cond.initialized RX1 : Cond) ∈ bw := bi_bwl0 _ (List.mem_of_getElem? (i := 37) rfl)
theorem q_38 : (Cond.code yX1_mayEnd cX1_mayEnd 1 (some .boolean) : Cond) ∈ bw := bi_bwl0 _ (List.mem_of_getElem? (i := 38) rfl)
theorem q_39 : (Cond.code yX1_acceptsFirst cX1_acceptsFirst 2 (some .boolean) : Cond) ∈ bw := bi_bwl0 _ (List.mem_of_getElem? (i := 39) rfl)
theorem q_40 : (Cond.code yX1_acceptsLetter cX1_acceptsLetter 2 (some .boolean) : Cond) ∈ bw := bi_bwl0 _ (List.mem_of_getElem? (i := 40) rfl)
theorem q_41 : (Cond.code yX1_acceptsDigit cX1_acceptsDigit 2 (some .boolean) : Cond) ∈ bw := bi_bwl0 _ (List.mem_of_getElem? (i := 41) rfl)
theorem q_42 : (Cond.methodLink RX1 23 yX1_mayEnd : Cond) ∈ bw := bi_bwl0 _ (List.mem_of_getElem? (i := 42) rfl)
theorem q_43 : (Cond.instanceMethod yX1_mayEnd : Cond) ∈ bw := bi_bwl0 _ (List.mem_of_getElem? (i := 43) rfl)
theorem q_44 : (Cond.selects RX1 yX1_mayEnd yX1_mayEnd : Cond) ∈ bw := bi_bwl0 _ (List.mem_of_getElem? (i := 44) rfl)
theorem q_45 : (Cond.methodLink RX1 27 yX1_acceptsFirst : Cond) ∈ bw := bi_bwl0 _ (List.mem_of_getElem? (i := 45) rfl)
theorem q_46 : (Cond.instanceMethod yX1_acceptsFirst : Cond) ∈ bw := bi_bwl0 _ (List.mem_of_getElem? (i := 46) rfl)
theorem q_47 : (Cond.selects RX1 yX1_acceptsFirst yX1_acceptsFirst : Cond) ∈ bw := bi_bwl0 _ (List.mem_of_getElem? (i := 47) rfl)
theorem q_48 : (Cond.methodLink RX1 30 yX1_acceptsLetter : Cond) ∈ bw := bi_bwl0 _ (List.mem_of_getElem? (i := 48) rfl)
theorem q_49 : (Cond.instanceMethod yX1_acceptsLetter : Cond) ∈ bw := bi_bwl0 _ (List.mem_of_getElem? (i := 49) rfl)
theorem q_50 : (Cond.selects RX1 yX1_acceptsLetter yX1_acceptsLetter : Cond) ∈ bw := bi_bwl0 _ (List.mem_of_getElem? (i := 50) rfl)
theorem q_51 : (Cond.methodLink RX1 33 yX1_acceptsDigit : Cond) ∈ bw := bi_bwl0 _ (List.mem_of_getElem? (i := 51) rfl)
theorem q_52 : (Cond.instanceMethod yX1_acceptsDigit : Cond) ∈ bw := bi_bwl0 _ (List.mem_of_getElem? (i := 52) rfl)
theorem q_53 : (Cond.selects RX1 yX1_acceptsDigit yX1_acceptsDigit : Cond) ∈ bw := bi_bwl0 _ (List.mem_of_getElem? (i := 53) rfl)
theorem q_54 : (Cond.code yX1_accepts cX1_accepts 2 (some .boolean) : Cond) ∈ bw := bi_bwl0 _ (List.mem_of_getElem? (i := 54) rfl)
theorem q_55 : (Cond.code yX3_init cX3_init 1 none : Cond) ∈ bw := bi_bwl0 _ (List.mem_of_getElem? (i := 55) rfl)
theorem q_56 : (Cond.methodLink RX3 3 objectInit : Cond) ∈ bw := bi_bwl0 _ (List.mem_of_getElem? (i := 56) rfl)
theorem q_57 : (Cond.fieldLink RX3 9 "HeapFile$State" "bytes" "[I" : Cond) ∈ bw := bi_bwl0 _ (List.mem_of_getElem? (i := 57) rfl)
theorem q_58 : (Cond.code yX2_init cX2_init 1 none : Cond) ∈ bw := bi_bwl0 _ (List.mem_of_getElem? (i := 58) rfl)
theorem q_59 : (Cond.methodLink RX2 3 objectInit : Cond) ∈ bw := bi_bwl0 _ (List.mem_of_getElem? (i := 59) rfl)
theorem q_60 : (Cond.classLink RX2 9 RX3 : Cond) ∈ bw := bi_bwl1 _ (List.mem_of_getElem? (i := 0) rfl)
theorem q_61 : (Cond.instantiable RX3 5 : Cond) ∈ bw := bi_bwl1 _ (List.mem_of_getElem? (i := 1) rfl)
theorem q_62 : (Cond.initialized RX3 : Cond) ∈ bw := bi_bwl1 _ (List.mem_of_getElem? (i := 2) rfl)
theorem q_63 : (Cond.fieldLink RX2 12 "HeapFile$Pages" "state" "LHeapFile$State;" : Cond) ∈ bw := bi_bwl1 _ (List.mem_of_getElem? (i := 3) rfl)
theorem q_64 : (Cond.classLink RX2 18 RX0 : Cond) ∈ bw := bi_bwl1 _ (List.mem_of_getElem? (i := 4) rfl)
theorem q_65 : (Cond.instantiable RX0 2 : Cond) ∈ bw := bi_bwl1 _ (List.mem_of_getElem? (i := 5) rfl)
theorem q_66 : (Cond.fieldLink RX2 23 "HeapFile$Pages" "before" "LHeapFile$Bytes;" : Cond) ∈ bw := bi_bwl1 _ (List.mem_of_getElem? (i := 6) rfl)
theorem q_67 : (Cond.instanceMethod yX3_init : Cond) ∈ bw := bi_bwl1 _ (List.mem_of_getElem? (i := 7) rfl)
theorem q_68 : (Cond.instanceMethod yX0_init : Cond) ∈ bw := bi_bwl1 _ (List.mem_of_getElem? (i := 8) rfl)
theorem q_69 : (Cond.code yX3_slotCount cX3_slotCount 3 (some .int) : Cond) ∈ bw := bi_bwl1 _ (List.mem_of_getElem? (i := 9) rfl)
theorem q_70 : (Cond.code yX4_slotOffset cX4_slotOffset 1 (some .int) : Cond) ∈ bw := bi_bwl1 _ (List.mem_of_getElem? (i := 10) rfl)
theorem q_71 : (Cond.code yX3_sizeOf cX3_sizeOf 4 (some .int) : Cond) ∈ bw := bi_bwl1 _ (List.mem_of_getElem? (i := 11) rfl)
theorem q_72 : (Cond.code yX2_freeBytes cX2_freeBytes 5 (some .int) : Cond) ∈ bw := bi_bwl1 _ (List.mem_of_getElem? (i := 12) rfl)
theorem q_73 : (Cond.instanceMethod yX3_slotCount : Cond) ∈ bw := bi_bwl1 _ (List.mem_of_getElem? (i := 13) rfl)
theorem q_74 : (Cond.selects RX3 yX3_slotCount yX3_slotCount : Cond) ∈ bw := bi_bwl1 _ (List.mem_of_getElem? (i := 14) rfl)
theorem q_75 : (Cond.static yX4_slotOffset : Cond) ∈ bw := bi_bwl1 _ (List.mem_of_getElem? (i := 15) rfl)
theorem q_76 : (Cond.initialized RX4 : Cond) ∈ bw := bi_bwl1 _ (List.mem_of_getElem? (i := 16) rfl)
theorem q_77 : (Cond.instanceMethod yX3_sizeOf : Cond) ∈ bw := bi_bwl1 _ (List.mem_of_getElem? (i := 17) rfl)
theorem q_78 : (Cond.selects RX3 yX3_sizeOf yX3_sizeOf : Cond) ∈ bw := bi_bwl1 _ (List.mem_of_getElem? (i := 18) rfl)
theorem q_79 : (Cond.code yX2_sizeOfRecords cX2_sizeOfRecords 2 (some .int) : Cond) ∈ bw := bi_bwl1 _ (List.mem_of_getElem? (i := 19) rfl)
theorem q_80 : (Cond.methodLink RX2 38 yX2_freeBytes : Cond) ∈ bw := bi_bwl1 _ (List.mem_of_getElem? (i := 20) rfl)
theorem q_81 : (Cond.instanceMethod yX2_freeBytes : Cond) ∈ bw := bi_bwl1 _ (List.mem_of_getElem? (i := 21) rfl)
theorem q_82 : (Cond.selects RX2 yX2_freeBytes yX2_freeBytes : Cond) ∈ bw := bi_bwl1 _ (List.mem_of_getElem? (i := 22) rfl)
theorem q_83 : (Cond.initialized RX2 : Cond) ∈ bw := bi_bwl1 _ (List.mem_of_getElem? (i := 23) rfl)
theorem q_84 : (Cond.code yX3_byteAt cX3_byteAt 4 (some .int) : Cond) ∈ bw := bi_bwl1 _ (List.mem_of_getElem? (i := 24) rfl)
theorem q_85 : (Cond.code yX2_gapWith cX2_gapWith 3 (some .int) : Cond) ∈ bw := bi_bwl1 _ (List.mem_of_getElem? (i := 25) rfl)
theorem q_86 : (Cond.instanceMethod yX3_byteAt : Cond) ∈ bw := bi_bwl1 _ (List.mem_of_getElem? (i := 26) rfl)
theorem q_87 : (Cond.selects RX3 yX3_byteAt yX3_byteAt : Cond) ∈ bw := bi_bwl1 _ (List.mem_of_getElem? (i := 27) rfl)
theorem q_88 : (Cond.code yX2_slotToUse cX2_slotToUse 4 (some .int) : Cond) ∈ bw := bi_bwl1 _ (List.mem_of_getElem? (i := 28) rfl)
theorem q_89 : (Cond.code yX2_hasRoom cX2_hasRoom 4 (some .boolean) : Cond) ∈ bw := bi_bwl1 _ (List.mem_of_getElem? (i := 29) rfl)
theorem q_90 : (Cond.methodLink RX2 44 yX2_slotToUse : Cond) ∈ bw := bi_bwl1 _ (List.mem_of_getElem? (i := 30) rfl)
theorem q_91 : (Cond.instanceMethod yX2_slotToUse : Cond) ∈ bw := bi_bwl1 _ (List.mem_of_getElem? (i := 31) rfl)
theorem q_92 : (Cond.selects RX2 yX2_slotToUse yX2_slotToUse : Cond) ∈ bw := bi_bwl1 _ (List.mem_of_getElem? (i := 32) rfl)
theorem q_93 : (Cond.methodLink RX2 51 yX2_hasRoom : Cond) ∈ bw := bi_bwl1 _ (List.mem_of_getElem? (i := 33) rfl)
theorem q_94 : (Cond.instanceMethod yX2_hasRoom : Cond) ∈ bw := bi_bwl1 _ (List.mem_of_getElem? (i := 34) rfl)
theorem q_95 : (Cond.selects RX2 yX2_hasRoom yX2_hasRoom : Cond) ∈ bw := bi_bwl1 _ (List.mem_of_getElem? (i := 35) rfl)
theorem q_96 : (Cond.code yX2_findPage cX2_findPage 5 (some .int) : Cond) ∈ bw := bi_bwl1 _ (List.mem_of_getElem? (i := 36) rfl)
theorem q_97 : (Cond.code yX3_setByte cX3_setByte 5 none : Cond) ∈ bw := bi_bwl1 _ (List.mem_of_getElem? (i := 37) rfl)
theorem q_98 : (Cond.code yX2_openIfNew cX2_openIfNew 2 none : Cond) ∈ bw := bi_bwl1 _ (List.mem_of_getElem? (i := 38) rfl)
theorem q_99 : (Cond.instanceMethod yX3_setByte : Cond) ∈ bw := bi_bwl1 _ (List.mem_of_getElem? (i := 39) rfl)
theorem q_100 : (Cond.selects RX3 yX3_setByte yX3_setByte : Cond) ∈ bw := bi_bwl1 _ (List.mem_of_getElem? (i := 40) rfl)
theorem q_101 : (Cond.code yX2_recordsThatFit cX2_recordsThatFit 8 (some .int) : Cond) ∈ bw := bi_bwl1 _ (List.mem_of_getElem? (i := 41) rfl)
theorem q_102 : (Cond.code yX3_offsetOf cX3_offsetOf 4 (some .int) : Cond) ∈ bw := bi_bwl1 _ (List.mem_of_getElem? (i := 42) rfl)
theorem q_103 : (Cond.code yX2_eraseRecord cX2_eraseRecord 8 none : Cond) ∈ bw := bi_bwl1 _ (List.mem_of_getElem? (i := 43) rfl)
theorem q_104 : (Cond.methodLink RX2 62 Lib.Math.min.name : Cond) ∈ bw := bi_bwl1 _ (List.mem_of_getElem? (i := 44) rfl)
theorem q_105 : (Cond.static Lib.Math.min.name : Cond) ∈ bw := bi_bwl1 _ (List.mem_of_getElem? (i := 45) rfl)
theorem q_106 : (Cond.code Lib.Math.min.name Lib.Math.min.code 2 (some .int) : Cond) ∈ bw := bi_bwl1 _ (List.mem_of_getElem? (i := 46) rfl)
theorem q_107 : (Cond.instanceMethod yX3_offsetOf : Cond) ∈ bw := bi_bwl1 _ (List.mem_of_getElem? (i := 47) rfl)
theorem q_108 : (Cond.selects RX3 yX3_offsetOf yX3_offsetOf : Cond) ∈ bw := bi_bwl1 _ (List.mem_of_getElem? (i := 48) rfl)
theorem q_109 : (Cond.code yX4_pageIn cX4_pageIn 1 (some .int) : Cond) ∈ bw := bi_bwl1 _ (List.mem_of_getElem? (i := 49) rfl)
theorem q_110 : (Cond.code yX4_slotIn cX4_slotIn 1 (some .int) : Cond) ∈ bw := bi_bwl1 _ (List.mem_of_getElem? (i := 50) rfl)
theorem q_111 : (Cond.static yX4_pageIn : Cond) ∈ bw := bi_bwl1 _ (List.mem_of_getElem? (i := 51) rfl)
theorem q_112 : (Cond.static yX4_slotIn : Cond) ∈ bw := bi_bwl1 _ (List.mem_of_getElem? (i := 52) rfl)
theorem q_113 : (Cond.methodLink RX2 73 yX2_eraseRecord : Cond) ∈ bw := bi_bwl1 _ (List.mem_of_getElem? (i := 53) rfl)
theorem q_114 : (Cond.instanceMethod yX2_eraseRecord : Cond) ∈ bw := bi_bwl1 _ (List.mem_of_getElem? (i := 54) rfl)
theorem q_115 : (Cond.selects RX2 yX2_eraseRecord yX2_eraseRecord : Cond) ∈ bw := bi_bwl1 _ (List.mem_of_getElem? (i := 55) rfl)
theorem q_116 : (Cond.code yX2_removeRecord cX2_removeRecord 4 none : Cond) ∈ bw := bi_bwl1 _ (List.mem_of_getElem? (i := 56) rfl)
theorem q_117 : (Cond.code yX2_compactPage cX2_compactPage 9 (some .int) : Cond) ∈ bw := bi_bwl1 _ (List.mem_of_getElem? (i := 57) rfl)
theorem q_118 : (Cond.methodLink RX2 77 Lib.Math.max.name : Cond) ∈ bw := bi_bwl1 _ (List.mem_of_getElem? (i := 58) rfl)
theorem q_119 : (Cond.methodLink RX2 80 yX2_gapWith : Cond) ∈ bw := bi_bwl1 _ (List.mem_of_getElem? (i := 59) rfl)
theorem q_120 : (Cond.instanceMethod yX2_gapWith : Cond) ∈ bw := bi_bwl2 _ (List.mem_of_getElem? (i := 0) rfl)
theorem q_121 : (Cond.selects RX2 yX2_gapWith yX2_gapWith : Cond) ∈ bw := bi_bwl2 _ (List.mem_of_getElem? (i := 1) rfl)
theorem q_122 : (Cond.methodLink RX2 86 yX2_compactPage : Cond) ∈ bw := bi_bwl2 _ (List.mem_of_getElem? (i := 2) rfl)
theorem q_123 : (Cond.instanceMethod yX2_compactPage : Cond) ∈ bw := bi_bwl2 _ (List.mem_of_getElem? (i := 3) rfl)
theorem q_124 : (Cond.selects RX2 yX2_compactPage yX2_compactPage : Cond) ∈ bw := bi_bwl2 _ (List.mem_of_getElem? (i := 4) rfl)
theorem q_125 : (Cond.code yX2_putRecord cX2_putRecord 8 none : Cond) ∈ bw := bi_bwl2 _ (List.mem_of_getElem? (i := 5) rfl)
theorem q_126 : (Cond.code yX3_recordByte cX3_recordByte 4 (some .int) : Cond) ∈ bw := bi_bwl2 _ (List.mem_of_getElem? (i := 6) rfl)
theorem q_127 : (Cond.methodLink RX3 15 yX3_offsetOf : Cond) ∈ bw := bi_bwl2 _ (List.mem_of_getElem? (i := 7) rfl)
theorem q_128 : (Cond.methodLink RX3 19 yX3_byteAt : Cond) ∈ bw := bi_bwl2 _ (List.mem_of_getElem? (i := 8) rfl)
theorem q_129 : (Cond.code yX3_setRecordByte cX3_setRecordByte 5 none : Cond) ∈ bw := bi_bwl2 _ (List.mem_of_getElem? (i := 9) rfl)
theorem q_130 : (Cond.methodLink RX3 22 yX3_setByte : Cond) ∈ bw := bi_bwl2 _ (List.mem_of_getElem? (i := 10) rfl)
theorem q_131 : (Cond.code yX3_copyFrom cX3_copyFrom 2 none : Cond) ∈ bw := bi_bwl2 _ (List.mem_of_getElem? (i := 11) rfl)
theorem q_132 : (Cond.methodLink RX3 26 Lib.Math.min.name : Cond) ∈ bw := bi_bwl2 _ (List.mem_of_getElem? (i := 12) rfl)
theorem q_133 : (Cond.methodLink RX3 31 arraycopyName : Cond) ∈ bw := bi_bwl2 _ (List.mem_of_getElem? (i := 13) rfl)
theorem q_134 : (Cond.native arraycopyName : Cond) ∈ bw := bi_bwl2 _ (List.mem_of_getElem? (i := 14) rfl)
theorem q_135 : (Cond.static arraycopyName : Cond) ∈ bw := bi_bwl2 _ (List.mem_of_getElem? (i := 15) rfl)
theorem q_136 : (Cond.initialized "java/lang/System" : Cond) ∈ bw := bi_bwl2 _ (List.mem_of_getElem? (i := 16) rfl)
theorem q_137 : (Cond.fieldLink RX3 37 "HeapFile$State" "pageCount" "I" : Cond) ∈ bw := bi_bwl2 _ (List.mem_of_getElem? (i := 17) rfl)
theorem q_138 : (Cond.fieldLink RX3 41 "HeapFile$State" "moveCount" "I" : Cond) ∈ bw := bi_bwl2 _ (List.mem_of_getElem? (i := 18) rfl)
theorem q_139 : (Cond.fieldLink RX3 44 "HeapFile$State" "returnCount" "I" : Cond) ∈ bw := bi_bwl2 _ (List.mem_of_getElem? (i := 19) rfl)
theorem q_140 : (Cond.fieldLink RX3 47 "HeapFile$State" "compactionCount" "I" : Cond) ∈ bw := bi_bwl2 _ (List.mem_of_getElem? (i := 20) rfl)
theorem q_141 : (Cond.methodLink RX4 3 objectInit : Cond) ∈ bw := bi_bwl2 _ (List.mem_of_getElem? (i := 21) rfl)
theorem q_142 : (Cond.classLink RX4 9 RX2 : Cond) ∈ bw := bi_bwl2 _ (List.mem_of_getElem? (i := 22) rfl)
theorem q_143 : (Cond.instantiable RX2 2 : Cond) ∈ bw := bi_bwl2 _ (List.mem_of_getElem? (i := 23) rfl)
theorem q_144 : (Cond.fieldLink RX4 12 "HeapFile" "space" "LHeapFile$Pages;" : Cond) ∈ bw := bi_bwl2 _ (List.mem_of_getElem? (i := 24) rfl)
theorem q_145 : (Cond.fieldLink RX4 20 "HeapFile" "state" "LHeapFile$State;" : Cond) ∈ bw := bi_bwl2 _ (List.mem_of_getElem? (i := 25) rfl)
theorem q_146 : (Cond.classLink RX4 21 RX0 : Cond) ∈ bw := bi_bwl2 _ (List.mem_of_getElem? (i := 26) rfl)
theorem q_147 : (Cond.fieldLink RX4 26 "HeapFile" "buffer" "LHeapFile$Bytes;" : Cond) ∈ bw := bi_bwl2 _ (List.mem_of_getElem? (i := 27) rfl)
theorem q_148 : (Cond.fieldLink RX4 30 "HeapFile" "content" "LHeapFile$Bytes;" : Cond) ∈ bw := bi_bwl2 _ (List.mem_of_getElem? (i := 28) rfl)
theorem q_149 : (Cond.fieldLink RX4 33 "HeapFile" "record" "LHeapFile$Bytes;" : Cond) ∈ bw := bi_bwl2 _ (List.mem_of_getElem? (i := 29) rfl)
theorem q_150 : (Cond.classLink RX4 36 RX1 : Cond) ∈ bw := bi_bwl2 _ (List.mem_of_getElem? (i := 30) rfl)
theorem q_151 : (Cond.instantiable RX1 4 : Cond) ∈ bw := bi_bwl2 _ (List.mem_of_getElem? (i := 31) rfl)
theorem q_152 : (Cond.fieldLink RX4 39 "HeapFile" "reader" "LHeapFile$OrderReader;" : Cond) ∈ bw := bi_bwl2 _ (List.mem_of_getElem? (i := 32) rfl)
theorem q_153 : (Cond.classLink RX4 43 RX3 : Cond) ∈ bw := bi_bwl2 _ (List.mem_of_getElem? (i := 33) rfl)
theorem q_154 : (Cond.fieldLink RX4 45 "HeapFile" "saved" "[LHeapFile$State;" : Cond) ∈ bw := bi_bwl2 _ (List.mem_of_getElem? (i := 34) rfl)
theorem q_155 : (Cond.instanceMethod yX2_init : Cond) ∈ bw := bi_bwl2 _ (List.mem_of_getElem? (i := 35) rfl)
theorem q_156 : (Cond.instanceMethod yX1_init : Cond) ∈ bw := bi_bwl2 _ (List.mem_of_getElem? (i := 36) rfl)
theorem q_157 : (Cond.code yX4_init cX4_init 2 none : Cond) ∈ bw := bi_bwl2 _ (List.mem_of_getElem? (i := 37) rfl)
theorem q_158 : (Cond.code yX4_appendSeveral cX4_appendSeveral 4 (some .int) : Cond) ∈ bw := bi_bwl2 _ (List.mem_of_getElem? (i := 38) rfl)
theorem q_159 : (Cond.classLink RX4 61 "java/lang/IllegalArgumentException" : Cond) ∈ bw := bi_bwl2 _ (List.mem_of_getElem? (i := 39) rfl)
theorem q_160 : (Cond.initialized "java/lang/IllegalArgumentException" : Cond) ∈ bw := bi_bwl2 _ (List.mem_of_getElem? (i := 40) rfl)
theorem q_161 : (Cond.classLink RX4 70 "java/lang/IllegalStateException" : Cond) ∈ bw := bi_bwl2 _ (List.mem_of_getElem? (i := 41) rfl)
theorem q_162 : (Cond.initialized "java/lang/IllegalStateException" : Cond) ∈ bw := bi_bwl2 _ (List.mem_of_getElem? (i := 42) rfl)
theorem q_163 : (Cond.code yX4_append cX4_append 2 (some .int) : Cond) ∈ bw := bi_bwl2 _ (List.mem_of_getElem? (i := 43) rfl)
theorem q_164 : (Cond.methodLink RX4 50 yX4_appendSeveral : Cond) ∈ bw := bi_bwl2 _ (List.mem_of_getElem? (i := 44) rfl)
theorem q_165 : (Cond.instanceMethod yX4_appendSeveral : Cond) ∈ bw := bi_bwl2 _ (List.mem_of_getElem? (i := 45) rfl)
theorem q_166 : (Cond.selects RX4 yX4_appendSeveral yX4_appendSeveral : Cond) ∈ bw := bi_bwl2 _ (List.mem_of_getElem? (i := 46) rfl)
theorem q_167 : (Cond.code yX4_fill cX4_fill 3 (some .int) : Cond) ∈ bw := bi_bwl2 _ (List.mem_of_getElem? (i := 47) rfl)
theorem q_168 : (Cond.code yX4_clearBuffer cX4_clearBuffer 2 (some .int) : Cond) ∈ bw := bi_bwl2 _ (List.mem_of_getElem? (i := 48) rfl)
theorem q_169 : (Cond.code yX4_homeSize cX4_homeSize 1 (some .int) : Cond) ∈ bw := bi_bwl2 _ (List.mem_of_getElem? (i := 49) rfl)
theorem q_170 : (Cond.methodLink RX4 268 Lib.Math.max.name : Cond) ∈ bw := bi_bwl2 _ (List.mem_of_getElem? (i := 50) rfl)
theorem q_171 : (Cond.code yX4_discardOldest cX4_discardOldest 3 none : Cond) ∈ bw := bi_bwl2 _ (List.mem_of_getElem? (i := 51) rfl)
theorem q_172 : (Cond.fieldLink RX4 231 "HeapFile" "savedCount" "I" : Cond) ∈ bw := bi_bwl2 _ (List.mem_of_getElem? (i := 52) rfl)
theorem q_173 : (Cond.methodLink RX4 323 yX4_discardOldest : Cond) ∈ bw := bi_bwl2 _ (List.mem_of_getElem? (i := 53) rfl)
theorem q_174 : (Cond.instanceMethod yX4_discardOldest : Cond) ∈ bw := bi_bwl2 _ (List.mem_of_getElem? (i := 54) rfl)
theorem q_175 : (Cond.selects RX4 yX4_discardOldest yX4_discardOldest : Cond) ∈ bw := bi_bwl2 _ (List.mem_of_getElem? (i := 55) rfl)
theorem q_176 : (Cond.instanceMethod yX3_copyFrom : Cond) ∈ bw := bi_bwl2 _ (List.mem_of_getElem? (i := 56) rfl)
theorem q_177 : (Cond.selects RX3 yX3_copyFrom yX3_copyFrom : Cond) ∈ bw := bi_bwl2 _ (List.mem_of_getElem? (i := 57) rfl)
theorem q_178 : (Cond.code yX4_saveState cX4_saveState 1 none : Cond) ∈ bw := bi_bwl2 _ (List.mem_of_getElem? (i := 58) rfl)
theorem q_179 : (Cond.code yX4_placeAt cX4_placeAt 2 (some .int) : Cond) ∈ bw := bi_bwl2 _ (List.mem_of_getElem? (i := 59) rfl)
theorem q_180 : (Cond.code yX4_writeHomeRecord cX4_writeHomeRecord 2 none : Cond) ∈ bw := bi_bwl3 _ (List.mem_of_getElem? (i := 0) rfl)
theorem q_181 : (Cond.instanceMethod yX0_addAll : Cond) ∈ bw := bi_bwl3 _ (List.mem_of_getElem? (i := 1) rfl)
theorem q_182 : (Cond.selects RX0 yX0_addAll yX0_addAll : Cond) ∈ bw := bi_bwl3 _ (List.mem_of_getElem? (i := 2) rfl)
theorem q_183 : (Cond.instanceMethod yX2_openIfNew : Cond) ∈ bw := bi_bwl3 _ (List.mem_of_getElem? (i := 3) rfl)
theorem q_184 : (Cond.selects RX2 yX2_openIfNew yX2_openIfNew : Cond) ∈ bw := bi_bwl3 _ (List.mem_of_getElem? (i := 4) rfl)
theorem q_185 : (Cond.methodLink RX4 149 yX4_placeAt : Cond) ∈ bw := bi_bwl3 _ (List.mem_of_getElem? (i := 5) rfl)
theorem q_186 : (Cond.static yX4_placeAt : Cond) ∈ bw := bi_bwl3 _ (List.mem_of_getElem? (i := 6) rfl)
theorem q_187 : (Cond.methodLink RX4 284 yX4_writeHomeRecord : Cond) ∈ bw := bi_bwl3 _ (List.mem_of_getElem? (i := 7) rfl)
theorem q_188 : (Cond.instanceMethod yX4_writeHomeRecord : Cond) ∈ bw := bi_bwl3 _ (List.mem_of_getElem? (i := 8) rfl)
theorem q_189 : (Cond.selects RX4 yX4_writeHomeRecord yX4_writeHomeRecord : Cond) ∈ bw := bi_bwl3 _ (List.mem_of_getElem? (i := 9) rfl)
theorem q_190 : (Cond.instanceMethod yX2_putRecord : Cond) ∈ bw := bi_bwl3 _ (List.mem_of_getElem? (i := 10) rfl)
theorem q_191 : (Cond.selects RX2 yX2_putRecord yX2_putRecord : Cond) ∈ bw := bi_bwl3 _ (List.mem_of_getElem? (i := 11) rfl)
theorem q_192 : (Cond.code yX4_insertContent cX4_insertContent 3 (some .int) : Cond) ∈ bw := bi_bwl3 _ (List.mem_of_getElem? (i := 12) rfl)
theorem q_193 : (Cond.methodLink RX4 78 yX4_homeSize : Cond) ∈ bw := bi_bwl3 _ (List.mem_of_getElem? (i := 13) rfl)
theorem q_194 : (Cond.static yX4_homeSize : Cond) ∈ bw := bi_bwl3 _ (List.mem_of_getElem? (i := 14) rfl)
theorem q_195 : (Cond.instanceMethod yX2_findPage : Cond) ∈ bw := bi_bwl3 _ (List.mem_of_getElem? (i := 15) rfl)
theorem q_196 : (Cond.selects RX2 yX2_findPage yX2_findPage : Cond) ∈ bw := bi_bwl3 _ (List.mem_of_getElem? (i := 16) rfl)
theorem q_197 : (Cond.methodLink RX4 88 yX4_saveState : Cond) ∈ bw := bi_bwl3 _ (List.mem_of_getElem? (i := 17) rfl)
theorem q_198 : (Cond.instanceMethod yX4_saveState : Cond) ∈ bw := bi_bwl3 _ (List.mem_of_getElem? (i := 18) rfl)
theorem q_199 : (Cond.selects RX4 yX4_saveState yX4_saveState : Cond) ∈ bw := bi_bwl3 _ (List.mem_of_getElem? (i := 19) rfl)
theorem q_200 : (Cond.instanceMethod yX0_takePart : Cond) ∈ bw := bi_bwl3 _ (List.mem_of_getElem? (i := 20) rfl)
theorem q_201 : (Cond.selects RX0 yX0_takePart yX0_takePart : Cond) ∈ bw := bi_bwl3 _ (List.mem_of_getElem? (i := 21) rfl)
theorem q_202 : (Cond.methodLink RX4 95 yX4_insertContent : Cond) ∈ bw := bi_bwl3 _ (List.mem_of_getElem? (i := 22) rfl)
theorem q_203 : (Cond.instanceMethod yX4_insertContent : Cond) ∈ bw := bi_bwl3 _ (List.mem_of_getElem? (i := 23) rfl)
theorem q_204 : (Cond.selects RX4 yX4_insertContent yX4_insertContent : Cond) ∈ bw := bi_bwl3 _ (List.mem_of_getElem? (i := 24) rfl)
theorem q_205 : (Cond.code yX4_insert cX4_insert 2 (some .int) : Cond) ∈ bw := bi_bwl3 _ (List.mem_of_getElem? (i := 25) rfl)
theorem q_206 : (Cond.methodLink RX4 167 yX4_pageIn : Cond) ∈ bw := bi_bwl3 _ (List.mem_of_getElem? (i := 26) rfl)
theorem q_207 : (Cond.methodLink RX4 170 yX4_slotIn : Cond) ∈ bw := bi_bwl3 _ (List.mem_of_getElem? (i := 27) rfl)
theorem q_208 : (Cond.instanceMethod yX3_recordByte : Cond) ∈ bw := bi_bwl3 _ (List.mem_of_getElem? (i := 28) rfl)
theorem q_209 : (Cond.selects RX3 yX3_recordByte yX3_recordByte : Cond) ∈ bw := bi_bwl3 _ (List.mem_of_getElem? (i := 29) rfl)
theorem q_210 : (Cond.code yX4_kind cX4_kind 5 (some .int) : Cond) ∈ bw := bi_bwl3 _ (List.mem_of_getElem? (i := 30) rfl)
theorem q_211 : (Cond.methodLink RX4 132 yX4_kind : Cond) ∈ bw := bi_bwl3 _ (List.mem_of_getElem? (i := 31) rfl)
theorem q_212 : (Cond.instanceMethod yX4_kind : Cond) ∈ bw := bi_bwl3 _ (List.mem_of_getElem? (i := 32) rfl)
theorem q_213 : (Cond.selects RX4 yX4_kind yX4_kind : Cond) ∈ bw := bi_bwl3 _ (List.mem_of_getElem? (i := 33) rfl)
theorem q_214 : (Cond.code yX4_isRow cX4_isRow 3 (some .boolean) : Cond) ∈ bw := bi_bwl3 _ (List.mem_of_getElem? (i := 34) rfl)
theorem q_215 : (Cond.classLink RX4 135 "java/lang/IndexOutOfBoundsException" : Cond) ∈ bw := bi_bwl3 _ (List.mem_of_getElem? (i := 35) rfl)
theorem q_216 : (Cond.initialized "java/lang/IndexOutOfBoundsException" : Cond) ∈ bw := bi_bwl3 _ (List.mem_of_getElem? (i := 36) rfl)
theorem q_217 : (Cond.methodLink RX4 259 yX4_isRow : Cond) ∈ bw := bi_bwl3 _ (List.mem_of_getElem? (i := 37) rfl)
theorem q_218 : (Cond.instanceMethod yX4_isRow : Cond) ∈ bw := bi_bwl3 _ (List.mem_of_getElem? (i := 38) rfl)
theorem q_219 : (Cond.selects RX4 yX4_isRow yX4_isRow : Cond) ∈ bw := bi_bwl3 _ (List.mem_of_getElem? (i := 39) rfl)
theorem q_220 : (Cond.code yX4_requireRow cX4_requireRow 2 none : Cond) ∈ bw := bi_bwl3 _ (List.mem_of_getElem? (i := 40) rfl)
theorem q_221 : (Cond.code yX4_sizeAt cX4_sizeAt 2 (some .int) : Cond) ∈ bw := bi_bwl3 _ (List.mem_of_getElem? (i := 41) rfl)
theorem q_222 : (Cond.methodLink RX4 271 yX4_sizeAt : Cond) ∈ bw := bi_bwl3 _ (List.mem_of_getElem? (i := 42) rfl)
theorem q_223 : (Cond.instanceMethod yX4_sizeAt : Cond) ∈ bw := bi_bwl3 _ (List.mem_of_getElem? (i := 43) rfl)
theorem q_224 : (Cond.selects RX4 yX4_sizeAt yX4_sizeAt : Cond) ∈ bw := bi_bwl3 _ (List.mem_of_getElem? (i := 44) rfl)
theorem q_225 : (Cond.code yX4_roomToReplace cX4_roomToReplace 2 (some .int) : Cond) ∈ bw := bi_bwl3 _ (List.mem_of_getElem? (i := 45) rfl)
theorem q_226 : (Cond.code yX4_targetAt cX4_targetAt 4 (some .int) : Cond) ∈ bw := bi_bwl3 _ (List.mem_of_getElem? (i := 46) rfl)
theorem q_227 : (Cond.methodLink RX4 155 yX4_targetAt : Cond) ∈ bw := bi_bwl3 _ (List.mem_of_getElem? (i := 47) rfl)
theorem q_228 : (Cond.instanceMethod yX4_targetAt : Cond) ∈ bw := bi_bwl3 _ (List.mem_of_getElem? (i := 48) rfl)
theorem q_229 : (Cond.selects RX4 yX4_targetAt yX4_targetAt : Cond) ∈ bw := bi_bwl3 _ (List.mem_of_getElem? (i := 49) rfl)
theorem q_230 : (Cond.code yX4_presentPlace cX4_presentPlace 2 (some .int) : Cond) ∈ bw := bi_bwl3 _ (List.mem_of_getElem? (i := 50) rfl)
theorem q_231 : (Cond.code yX4_movedSize cX4_movedSize 1 (some .int) : Cond) ∈ bw := bi_bwl3 _ (List.mem_of_getElem? (i := 51) rfl)
theorem q_232 : (Cond.methodLink RX4 197 yX4_roomToReplace : Cond) ∈ bw := bi_bwl3 _ (List.mem_of_getElem? (i := 52) rfl)
theorem q_233 : (Cond.instanceMethod yX4_roomToReplace : Cond) ∈ bw := bi_bwl3 _ (List.mem_of_getElem? (i := 53) rfl)
theorem q_234 : (Cond.selects RX4 yX4_roomToReplace yX4_roomToReplace : Cond) ∈ bw := bi_bwl3 _ (List.mem_of_getElem? (i := 54) rfl)
theorem q_235 : (Cond.methodLink RX4 110 yX4_presentPlace : Cond) ∈ bw := bi_bwl3 _ (List.mem_of_getElem? (i := 55) rfl)
theorem q_236 : (Cond.instanceMethod yX4_presentPlace : Cond) ∈ bw := bi_bwl3 _ (List.mem_of_getElem? (i := 56) rfl)
theorem q_237 : (Cond.selects RX4 yX4_presentPlace yX4_presentPlace : Cond) ∈ bw := bi_bwl3 _ (List.mem_of_getElem? (i := 57) rfl)
theorem q_238 : (Cond.methodLink RX4 291 yX4_movedSize : Cond) ∈ bw := bi_bwl3 _ (List.mem_of_getElem? (i := 58) rfl)
theorem q_239 : (Cond.static yX4_movedSize : Cond) ∈ bw := bi_bwl3 _ (List.mem_of_getElem? (i := 59) rfl)
theorem q_240 : (Cond.code yX4_wayToChange cX4_wayToChange 5 (some .int) : Cond) ∈ bw := bi_bwl4 _ (List.mem_of_getElem? (i := 0) rfl)
theorem q_241 : (Cond.instanceMethod yX2_removeRecord : Cond) ∈ bw := bi_bwl4 _ (List.mem_of_getElem? (i := 1) rfl)
theorem q_242 : (Cond.selects RX2 yX2_removeRecord yX2_removeRecord : Cond) ∈ bw := bi_bwl4 _ (List.mem_of_getElem? (i := 2) rfl)
theorem q_243 : (Cond.code yX4_storeAtHome cX4_storeAtHome 3 none : Cond) ∈ bw := bi_bwl4 _ (List.mem_of_getElem? (i := 3) rfl)
theorem q_244 : (Cond.code yX4_writeHead cX4_writeHead 3 none : Cond) ∈ bw := bi_bwl4 _ (List.mem_of_getElem? (i := 4) rfl)
theorem q_245 : (Cond.methodLink RX4 278 yX4_writeHead : Cond) ∈ bw := bi_bwl4 _ (List.mem_of_getElem? (i := 5) rfl)
theorem q_246 : (Cond.instanceMethod yX4_writeHead : Cond) ∈ bw := bi_bwl4 _ (List.mem_of_getElem? (i := 6) rfl)
theorem q_247 : (Cond.selects RX4 yX4_writeHead yX4_writeHead : Cond) ∈ bw := bi_bwl4 _ (List.mem_of_getElem? (i := 7) rfl)
theorem q_248 : (Cond.code yX4_writeMovedRecord cX4_writeMovedRecord 2 none : Cond) ∈ bw := bi_bwl4 _ (List.mem_of_getElem? (i := 8) rfl)
theorem q_249 : (Cond.instanceMethod yX3_setRecordByte : Cond) ∈ bw := bi_bwl4 _ (List.mem_of_getElem? (i := 9) rfl)
theorem q_250 : (Cond.selects RX3 yX3_setRecordByte yX3_setRecordByte : Cond) ∈ bw := bi_bwl4 _ (List.mem_of_getElem? (i := 10) rfl)
theorem q_251 : (Cond.code yX4_leaveNote cX4_leaveNote 4 none : Cond) ∈ bw := bi_bwl4 _ (List.mem_of_getElem? (i := 11) rfl)
theorem q_252 : (Cond.methodLink RX4 294 yX4_storeAtHome : Cond) ∈ bw := bi_bwl4 _ (List.mem_of_getElem? (i := 12) rfl)
theorem q_253 : (Cond.instanceMethod yX4_storeAtHome : Cond) ∈ bw := bi_bwl4 _ (List.mem_of_getElem? (i := 13) rfl)
theorem q_254 : (Cond.selects RX4 yX4_storeAtHome yX4_storeAtHome : Cond) ∈ bw := bi_bwl4 _ (List.mem_of_getElem? (i := 14) rfl)
theorem q_255 : (Cond.methodLink RX4 297 yX4_writeMovedRecord : Cond) ∈ bw := bi_bwl4 _ (List.mem_of_getElem? (i := 15) rfl)
theorem q_256 : (Cond.instanceMethod yX4_writeMovedRecord : Cond) ∈ bw := bi_bwl4 _ (List.mem_of_getElem? (i := 16) rfl)
theorem q_257 : (Cond.selects RX4 yX4_writeMovedRecord yX4_writeMovedRecord : Cond) ∈ bw := bi_bwl4 _ (List.mem_of_getElem? (i := 17) rfl)
theorem q_258 : (Cond.methodLink RX4 300 yX4_leaveNote : Cond) ∈ bw := bi_bwl4 _ (List.mem_of_getElem? (i := 18) rfl)
theorem q_259 : (Cond.instanceMethod yX4_leaveNote : Cond) ∈ bw := bi_bwl4 _ (List.mem_of_getElem? (i := 19) rfl)
theorem q_260 : (Cond.selects RX4 yX4_leaveNote yX4_leaveNote : Cond) ∈ bw := bi_bwl4 _ (List.mem_of_getElem? (i := 20) rfl)
theorem q_261 : (Cond.code yX4_changeRow cX4_changeRow 6 none : Cond) ∈ bw := bi_bwl4 _ (List.mem_of_getElem? (i := 21) rfl)
theorem q_262 : (Cond.methodLink RX4 98 yX4_requireRow : Cond) ∈ bw := bi_bwl4 _ (List.mem_of_getElem? (i := 22) rfl)
theorem q_263 : (Cond.instanceMethod yX4_requireRow : Cond) ∈ bw := bi_bwl4 _ (List.mem_of_getElem? (i := 23) rfl)
theorem q_264 : (Cond.selects RX4 yX4_requireRow yX4_requireRow : Cond) ∈ bw := bi_bwl4 _ (List.mem_of_getElem? (i := 24) rfl)
theorem q_265 : (Cond.methodLink RX4 101 yX4_wayToChange : Cond) ∈ bw := bi_bwl4 _ (List.mem_of_getElem? (i := 25) rfl)
theorem q_266 : (Cond.instanceMethod yX4_wayToChange : Cond) ∈ bw := bi_bwl4 _ (List.mem_of_getElem? (i := 26) rfl)
theorem q_267 : (Cond.selects RX4 yX4_wayToChange yX4_wayToChange : Cond) ∈ bw := bi_bwl4 _ (List.mem_of_getElem? (i := 27) rfl)
theorem q_268 : (Cond.methodLink RX4 106 yX4_changeRow : Cond) ∈ bw := bi_bwl4 _ (List.mem_of_getElem? (i := 28) rfl)
theorem q_269 : (Cond.instanceMethod yX4_changeRow : Cond) ∈ bw := bi_bwl4 _ (List.mem_of_getElem? (i := 29) rfl)
theorem q_270 : (Cond.selects RX4 yX4_changeRow yX4_changeRow : Cond) ∈ bw := bi_bwl4 _ (List.mem_of_getElem? (i := 30) rfl)
theorem q_271 : (Cond.code yX4_update cX4_update 3 (some .int) : Cond) ∈ bw := bi_bwl4 _ (List.mem_of_getElem? (i := 31) rfl)
theorem q_272 : (Cond.code yX4_lengthAt cX4_lengthAt 3 (some .int) : Cond) ∈ bw := bi_bwl4 _ (List.mem_of_getElem? (i := 32) rfl)
theorem q_273 : (Cond.code yX4_deleteRow cX4_deleteRow 3 none : Cond) ∈ bw := bi_bwl4 _ (List.mem_of_getElem? (i := 33) rfl)
theorem q_274 : (Cond.methodLink RX4 113 yX4_lengthAt : Cond) ∈ bw := bi_bwl4 _ (List.mem_of_getElem? (i := 34) rfl)
theorem q_275 : (Cond.instanceMethod yX4_lengthAt : Cond) ∈ bw := bi_bwl4 _ (List.mem_of_getElem? (i := 35) rfl)
theorem q_276 : (Cond.selects RX4 yX4_lengthAt yX4_lengthAt : Cond) ∈ bw := bi_bwl4 _ (List.mem_of_getElem? (i := 36) rfl)
theorem q_277 : (Cond.methodLink RX4 116 yX4_deleteRow : Cond) ∈ bw := bi_bwl4 _ (List.mem_of_getElem? (i := 37) rfl)
theorem q_278 : (Cond.instanceMethod yX4_deleteRow : Cond) ∈ bw := bi_bwl4 _ (List.mem_of_getElem? (i := 38) rfl)
theorem q_279 : (Cond.selects RX4 yX4_deleteRow yX4_deleteRow : Cond) ∈ bw := bi_bwl4 _ (List.mem_of_getElem? (i := 39) rfl)
theorem q_280 : (Cond.code yX4_delete cX4_delete 3 (some .int) : Cond) ∈ bw := bi_bwl4 _ (List.mem_of_getElem? (i := 40) rfl)
theorem q_281 : (Cond.code yX4_mayReturn cX4_mayReturn 2 (some .boolean) : Cond) ∈ bw := bi_bwl4 _ (List.mem_of_getElem? (i := 41) rfl)
theorem q_282 : (Cond.code yX4_rowByteAt cX4_rowByteAt 6 (some .int) : Cond) ∈ bw := bi_bwl4 _ (List.mem_of_getElem? (i := 42) rfl)
theorem q_283 : (Cond.methodLink RX4 140 yX4_rowByteAt : Cond) ∈ bw := bi_bwl4 _ (List.mem_of_getElem? (i := 43) rfl)
theorem q_284 : (Cond.instanceMethod yX4_rowByteAt : Cond) ∈ bw := bi_bwl4 _ (List.mem_of_getElem? (i := 44) rfl)
theorem q_285 : (Cond.selects RX4 yX4_rowByteAt yX4_rowByteAt : Cond) ∈ bw := bi_bwl4 _ (List.mem_of_getElem? (i := 45) rfl)
theorem q_286 : (Cond.code yX4_takeContentOf cX4_takeContentOf 4 none : Cond) ∈ bw := bi_bwl4 _ (List.mem_of_getElem? (i := 46) rfl)
theorem q_287 : (Cond.methodLink RX4 311 yX4_mayReturn : Cond) ∈ bw := bi_bwl4 _ (List.mem_of_getElem? (i := 47) rfl)
theorem q_288 : (Cond.instanceMethod yX4_mayReturn : Cond) ∈ bw := bi_bwl4 _ (List.mem_of_getElem? (i := 48) rfl)
theorem q_289 : (Cond.selects RX4 yX4_mayReturn yX4_mayReturn : Cond) ∈ bw := bi_bwl4 _ (List.mem_of_getElem? (i := 49) rfl)
theorem q_290 : (Cond.methodLink RX4 314 yX4_takeContentOf : Cond) ∈ bw := bi_bwl4 _ (List.mem_of_getElem? (i := 50) rfl)
theorem q_291 : (Cond.instanceMethod yX4_takeContentOf : Cond) ∈ bw := bi_bwl4 _ (List.mem_of_getElem? (i := 51) rfl)
theorem q_292 : (Cond.selects RX4 yX4_takeContentOf yX4_takeContentOf : Cond) ∈ bw := bi_bwl4 _ (List.mem_of_getElem? (i := 52) rfl)
theorem q_293 : (Cond.code yX4_bringAllHome cX4_bringAllHome 7 (some .int) : Cond) ∈ bw := bi_bwl4 _ (List.mem_of_getElem? (i := 53) rfl)
theorem q_294 : (Cond.methodLink RX4 119 yX4_bringAllHome : Cond) ∈ bw := bi_bwl4 _ (List.mem_of_getElem? (i := 54) rfl)
theorem q_295 : (Cond.instanceMethod yX4_bringAllHome : Cond) ∈ bw := bi_bwl4 _ (List.mem_of_getElem? (i := 55) rfl)
theorem q_296 : (Cond.selects RX4 yX4_bringAllHome yX4_bringAllHome : Cond) ∈ bw := bi_bwl4 _ (List.mem_of_getElem? (i := 56) rfl)
theorem q_297 : (Cond.code yX4_bringHome cX4_bringHome 1 (some .int) : Cond) ∈ bw := bi_bwl4 _ (List.mem_of_getElem? (i := 57) rfl)
theorem q_298 : (Cond.code yX4_requirePage cX4_requirePage 2 none : Cond) ∈ bw := bi_bwl4 _ (List.mem_of_getElem? (i := 58) rfl)
theorem q_299 : (Cond.methodLink RX4 123 yX4_requirePage : Cond) ∈ bw := bi_bwl4 _ (List.mem_of_getElem? (i := 59) rfl)
theorem q_300 : (Cond.instanceMethod yX4_requirePage : Cond) ∈ bw := bi_bwl5 _ (List.mem_of_getElem? (i := 0) rfl)
theorem q_301 : (Cond.selects RX4 yX4_requirePage yX4_requirePage : Cond) ∈ bw := bi_bwl5 _ (List.mem_of_getElem? (i := 1) rfl)
theorem q_302 : (Cond.code yX4_compact cX4_compact 2 (some .int) : Cond) ∈ bw := bi_bwl5 _ (List.mem_of_getElem? (i := 2) rfl)
theorem q_303 : (Cond.code yX4_countKind cX4_countKind 6 (some .int) : Cond) ∈ bw := bi_bwl5 _ (List.mem_of_getElem? (i := 3) rfl)
theorem q_304 : (Cond.methodLink RX4 129 yX4_countKind : Cond) ∈ bw := bi_bwl5 _ (List.mem_of_getElem? (i := 4) rfl)
theorem q_305 : (Cond.instanceMethod yX4_countKind : Cond) ∈ bw := bi_bwl5 _ (List.mem_of_getElem? (i := 5) rfl)
theorem q_306 : (Cond.selects RX4 yX4_countKind yX4_countKind : Cond) ∈ bw := bi_bwl5 _ (List.mem_of_getElem? (i := 6) rfl)
theorem q_307 : (Cond.code yX4_rows cX4_rows 1 (some .int) : Cond) ∈ bw := bi_bwl5 _ (List.mem_of_getElem? (i := 7) rfl)
theorem q_308 : (Cond.code yX4_length cX4_length 2 (some .int) : Cond) ∈ bw := bi_bwl5 _ (List.mem_of_getElem? (i := 8) rfl)
theorem q_309 : (Cond.code yX4_byteOf cX4_byteOf 4 (some .int) : Cond) ∈ bw := bi_bwl5 _ (List.mem_of_getElem? (i := 9) rfl)
theorem q_310 : (Cond.code yX4_placeOf cX4_placeOf 2 (some .int) : Cond) ∈ bw := bi_bwl5 _ (List.mem_of_getElem? (i := 10) rfl)
theorem q_311 : (Cond.code yX4_rowAt cX4_rowAt 3 (some .int) : Cond) ∈ bw := bi_bwl5 _ (List.mem_of_getElem? (i := 11) rfl)
theorem q_312 : (Cond.methodLink RX4 152 yX4_rowAt : Cond) ∈ bw := bi_bwl5 _ (List.mem_of_getElem? (i := 12) rfl)
theorem q_313 : (Cond.instanceMethod yX4_rowAt : Cond) ∈ bw := bi_bwl5 _ (List.mem_of_getElem? (i := 13) rfl)
theorem q_314 : (Cond.selects RX4 yX4_rowAt yX4_rowAt : Cond) ∈ bw := bi_bwl5 _ (List.mem_of_getElem? (i := 14) rfl)
theorem q_315 : (Cond.code yX4_next cX4_next 6 (some .int) : Cond) ∈ bw := bi_bwl5 _ (List.mem_of_getElem? (i := 15) rfl)
theorem q_316 : (Cond.code yX4_pages cX4_pages 1 (some .int) : Cond) ∈ bw := bi_bwl5 _ (List.mem_of_getElem? (i := 16) rfl)
theorem q_317 : (Cond.code yX4_pageByte cX4_pageByte 3 (some .int) : Cond) ∈ bw := bi_bwl5 _ (List.mem_of_getElem? (i := 17) rfl)
theorem q_318 : (Cond.code yX4_free cX4_free 2 (some .int) : Cond) ∈ bw := bi_bwl5 _ (List.mem_of_getElem? (i := 18) rfl)
theorem q_319 : (Cond.code yX4_gap cX4_gap 2 (some .int) : Cond) ∈ bw := bi_bwl5 _ (List.mem_of_getElem? (i := 19) rfl)
theorem q_320 : (Cond.code yX4_notes cX4_notes 1 (some .int) : Cond) ∈ bw := bi_bwl5 _ (List.mem_of_getElem? (i := 20) rfl)
theorem q_321 : (Cond.code yX4_moves cX4_moves 1 (some .int) : Cond) ∈ bw := bi_bwl5 _ (List.mem_of_getElem? (i := 21) rfl)
theorem q_322 : (Cond.code yX4_returns cX4_returns 1 (some .int) : Cond) ∈ bw := bi_bwl5 _ (List.mem_of_getElem? (i := 22) rfl)
theorem q_323 : (Cond.code yX4_compactions cX4_compactions 1 (some .int) : Cond) ∈ bw := bi_bwl5 _ (List.mem_of_getElem? (i := 23) rfl)
theorem q_324 : (Cond.code yX4_fillFactor cX4_fillFactor 3 (some .double) : Cond) ∈ bw := bi_bwl5 _ (List.mem_of_getElem? (i := 24) rfl)
theorem q_325 : (Cond.instanceMethod yX2_sizeOfRecords : Cond) ∈ bw := bi_bwl5 _ (List.mem_of_getElem? (i := 25) rfl)
theorem q_326 : (Cond.selects RX2 yX2_sizeOfRecords yX2_sizeOfRecords : Cond) ∈ bw := bi_bwl5 _ (List.mem_of_getElem? (i := 26) rfl)
theorem q_327 : (Cond.code yX4_requireLength cX4_requireLength 1 none : Cond) ∈ bw := bi_bwl5 _ (List.mem_of_getElem? (i := 27) rfl)
theorem q_328 : (Cond.methodLink RX4 191 yX4_requireLength : Cond) ∈ bw := bi_bwl5 _ (List.mem_of_getElem? (i := 28) rfl)
theorem q_329 : (Cond.static yX4_requireLength : Cond) ∈ bw := bi_bwl5 _ (List.mem_of_getElem? (i := 29) rfl)
theorem q_330 : (Cond.code yX4_ifInserted cX4_ifInserted 3 (some .int) : Cond) ∈ bw := bi_bwl5 _ (List.mem_of_getElem? (i := 30) rfl)
theorem q_331 : (Cond.code yX4_ifUpdated cX4_ifUpdated 3 (some .int) : Cond) ∈ bw := bi_bwl5 _ (List.mem_of_getElem? (i := 31) rfl)
theorem q_332 : (Cond.methodLink RX4 200 Lib.Math.min.name : Cond) ∈ bw := bi_bwl5 _ (List.mem_of_getElem? (i := 32) rfl)
theorem q_333 : (Cond.code yX4_greatestAtHome cX4_greatestAtHome 2 (some .int) : Cond) ∈ bw := bi_bwl5 _ (List.mem_of_getElem? (i := 33) rfl)
theorem q_334 : (Cond.instanceMethod yX2_recordsThatFit : Cond) ∈ bw := bi_bwl5 _ (List.mem_of_getElem? (i := 34) rfl)
theorem q_335 : (Cond.selects RX2 yX2_recordsThatFit yX2_recordsThatFit : Cond) ∈ bw := bi_bwl5 _ (List.mem_of_getElem? (i := 35) rfl)
theorem q_336 : (Cond.code yX4_capacity cX4_capacity 5 (some .int) : Cond) ∈ bw := bi_bwl5 _ (List.mem_of_getElem? (i := 36) rfl)
theorem q_337 : (Cond.instanceMethod yX1_restart : Cond) ∈ bw := bi_bwl5 _ (List.mem_of_getElem? (i := 37) rfl)
theorem q_338 : (Cond.selects RX1 yX1_restart yX1_restart : Cond) ∈ bw := bi_bwl5 _ (List.mem_of_getElem? (i := 38) rfl)
theorem q_339 : (Cond.instanceMethod yX1_accepts : Cond) ∈ bw := bi_bwl5 _ (List.mem_of_getElem? (i := 39) rfl)
theorem q_340 : (Cond.selects RX1 yX1_accepts yX1_accepts : Cond) ∈ bw := bi_bwl5 _ (List.mem_of_getElem? (i := 40) rfl)
theorem q_341 : (Cond.code yX4_firstError cX4_firstError 2 (some .int) : Cond) ∈ bw := bi_bwl5 _ (List.mem_of_getElem? (i := 41) rfl)
theorem q_342 : (Cond.code yX4_endOfNumber cX4_endOfNumber 4 (some .int) : Cond) ∈ bw := bi_bwl5 _ (List.mem_of_getElem? (i := 42) rfl)
theorem q_343 : (Cond.code yX4_numberIn cX4_numberIn 5 (some .int) : Cond) ∈ bw := bi_bwl5 _ (List.mem_of_getElem? (i := 43) rfl)
theorem q_344 : (Cond.methodLink RX4 317 yX4_endOfNumber : Cond) ∈ bw := bi_bwl5 _ (List.mem_of_getElem? (i := 44) rfl)
theorem q_345 : (Cond.instanceMethod yX4_endOfNumber : Cond) ∈ bw := bi_bwl5 _ (List.mem_of_getElem? (i := 45) rfl)
theorem q_346 : (Cond.selects RX4 yX4_endOfNumber yX4_endOfNumber : Cond) ∈ bw := bi_bwl5 _ (List.mem_of_getElem? (i := 46) rfl)
theorem q_347 : (Cond.methodLink RX4 320 yX4_numberIn : Cond) ∈ bw := bi_bwl5 _ (List.mem_of_getElem? (i := 47) rfl)
theorem q_348 : (Cond.instanceMethod yX4_numberIn : Cond) ∈ bw := bi_bwl5 _ (List.mem_of_getElem? (i := 48) rfl)
theorem q_349 : (Cond.selects RX4 yX4_numberIn yX4_numberIn : Cond) ∈ bw := bi_bwl5 _ (List.mem_of_getElem? (i := 49) rfl)
theorem q_350 : (Cond.code yX4_executeOrder cX4_executeOrder 7 (some .boolean) : Cond) ∈ bw := bi_bwl5 _ (List.mem_of_getElem? (i := 50) rfl)
theorem q_351 : (Cond.methodLink RX4 218 yX4_firstError : Cond) ∈ bw := bi_bwl5 _ (List.mem_of_getElem? (i := 51) rfl)
theorem q_352 : (Cond.instanceMethod yX4_firstError : Cond) ∈ bw := bi_bwl5 _ (List.mem_of_getElem? (i := 52) rfl)
theorem q_353 : (Cond.selects RX4 yX4_firstError yX4_firstError : Cond) ∈ bw := bi_bwl5 _ (List.mem_of_getElem? (i := 53) rfl)
theorem q_354 : (Cond.methodLink RX4 227 yX4_executeOrder : Cond) ∈ bw := bi_bwl5 _ (List.mem_of_getElem? (i := 54) rfl)
theorem q_355 : (Cond.instanceMethod yX4_executeOrder : Cond) ∈ bw := bi_bwl5 _ (List.mem_of_getElem? (i := 55) rfl)
theorem q_356 : (Cond.selects RX4 yX4_executeOrder yX4_executeOrder : Cond) ∈ bw := bi_bwl5 _ (List.mem_of_getElem? (i := 56) rfl)
theorem q_357 : (Cond.code yX4_run cX4_run 5 (some .int) : Cond) ∈ bw := bi_bwl5 _ (List.mem_of_getElem? (i := 57) rfl)
theorem q_358 : (Cond.code yX4_undo cX4_undo 1 (some .int) : Cond) ∈ bw := bi_bwl5 _ (List.mem_of_getElem? (i := 58) rfl)
theorem q_359 : (Cond.code yX4_savedStates cX4_savedStates 1 (some .int) : Cond) ∈ bw := bi_bwl5 _ (List.mem_of_getElem? (i := 59) rfl)
theorem q_360 : (Cond.code yX4_bitsOfFraction cX4_bitsOfFraction 4 (some .int) : Cond) ∈ bw := bi_bwl6 _ (List.mem_of_getElem? (i := 0) rfl)
theorem q_361 : (Cond.constantFloat RX4 258 (1258291200) : Cond) ∈ bw := bi_bwl6 _ (List.mem_of_getElem? (i := 1) rfl)
theorem q_362 : (Cond.constantLong RX4 240 (4436) : Cond) ∈ bw := bi_bwl6 _ (List.mem_of_getElem? (i := 2) rfl)
theorem q_363 : (Cond.constantLong RX4 242 (31) : Cond) ∈ bw := bi_bwl6 _ (List.mem_of_getElem? (i := 3) rfl)
theorem q_364 : (Cond.methodLink RX4 244 yX4_rows : Cond) ∈ bw := bi_bwl6 _ (List.mem_of_getElem? (i := 4) rfl)
theorem q_365 : (Cond.instanceMethod yX4_rows : Cond) ∈ bw := bi_bwl6 _ (List.mem_of_getElem? (i := 5) rfl)
theorem q_366 : (Cond.selects RX4 yX4_rows yX4_rows : Cond) ∈ bw := bi_bwl6 _ (List.mem_of_getElem? (i := 6) rfl)
theorem q_367 : (Cond.methodLink RX4 247 yX4_notes : Cond) ∈ bw := bi_bwl6 _ (List.mem_of_getElem? (i := 7) rfl)
theorem q_368 : (Cond.instanceMethod yX4_notes : Cond) ∈ bw := bi_bwl6 _ (List.mem_of_getElem? (i := 8) rfl)
theorem q_369 : (Cond.selects RX4 yX4_notes yX4_notes : Cond) ∈ bw := bi_bwl6 _ (List.mem_of_getElem? (i := 9) rfl)
theorem q_370 : (Cond.methodLink RX4 250 yX4_fillFactor : Cond) ∈ bw := bi_bwl6 _ (List.mem_of_getElem? (i := 10) rfl)
theorem q_371 : (Cond.instanceMethod yX4_fillFactor : Cond) ∈ bw := bi_bwl6 _ (List.mem_of_getElem? (i := 11) rfl)
theorem q_372 : (Cond.selects RX4 yX4_fillFactor yX4_fillFactor : Cond) ∈ bw := bi_bwl6 _ (List.mem_of_getElem? (i := 12) rfl)
theorem q_373 : (Cond.methodLink RX4 254 yX4_bitsOfFraction : Cond) ∈ bw := bi_bwl6 _ (List.mem_of_getElem? (i := 13) rfl)
theorem q_374 : (Cond.static yX4_bitsOfFraction : Cond) ∈ bw := bi_bwl6 _ (List.mem_of_getElem? (i := 14) rfl)
theorem q_375 : (Cond.code yX4_digest cX4_digest 5 (some .long) : Cond) ∈ bw := bi_bwl6 _ (List.mem_of_getElem? (i := 15) rfl)
theorem q_376 : (Cond.code yX5_init cX5_init 1 none : Cond) ∈ bw := bi_bwl6 _ (List.mem_of_getElem? (i := 16) rfl)
theorem q_377 : (Cond.methodLink RX5 1 objectInit : Cond) ∈ bw := bi_bwl6 _ (List.mem_of_getElem? (i := 17) rfl)
theorem q_378 : (Cond.fieldLink RX5 7 "HeapFileModel" "s" "[I" : Cond) ∈ bw := bi_bwl6 _ (List.mem_of_getElem? (i := 18) rfl)
theorem q_379 : (Cond.fieldLink RX5 13 "HeapFileModel" "buffer" "[I" : Cond) ∈ bw := bi_bwl6 _ (List.mem_of_getElem? (i := 19) rfl)
theorem q_380 : (Cond.fieldLink RX5 16 "HeapFileModel" "bytes" "[I" : Cond) ∈ bw := bi_bwl6 _ (List.mem_of_getElem? (i := 20) rfl)
theorem q_381 : (Cond.fieldLink RX5 19 "HeapFileModel" "moved" "[I" : Cond) ∈ bw := bi_bwl6 _ (List.mem_of_getElem? (i := 21) rfl)
theorem q_382 : (Cond.code yX5_thrown cX5_thrown 1 (some .int) : Cond) ∈ bw := bi_bwl6 _ (List.mem_of_getElem? (i := 22) rfl)
theorem q_383 : (Cond.fieldLink RX5 22 "HeapFileModel" "thrown" "I" : Cond) ∈ bw := bi_bwl6 _ (List.mem_of_getElem? (i := 23) rfl)
theorem q_384 : (Cond.code yX5_in cX5_in 3 (some .boolean) : Cond) ∈ bw := bi_bwl6 _ (List.mem_of_getElem? (i := 24) rfl)
theorem q_385 : (Cond.code yX5_holds cX5_holds 2 (some .boolean) : Cond) ∈ bw := bi_bwl6 _ (List.mem_of_getElem? (i := 25) rfl)
theorem q_386 : (Cond.code yX5_of cX5_of 3 (some .int) : Cond) ∈ bw := bi_bwl6 _ (List.mem_of_getElem? (i := 26) rfl)
theorem q_387 : (Cond.code yX5_lay cX5_lay 4 none : Cond) ∈ bw := bi_bwl6 _ (List.mem_of_getElem? (i := 27) rfl)
theorem q_388 : (Cond.code yX5_sizeOf cX5_sizeOf 3 (some .int) : Cond) ∈ bw := bi_bwl6 _ (List.mem_of_getElem? (i := 28) rfl)
theorem q_389 : (Cond.methodLink RX5 26 yX5_of : Cond) ∈ bw := bi_bwl6 _ (List.mem_of_getElem? (i := 29) rfl)
theorem q_390 : (Cond.instanceMethod yX5_of : Cond) ∈ bw := bi_bwl6 _ (List.mem_of_getElem? (i := 30) rfl)
theorem q_391 : (Cond.selects RX5 yX5_of yX5_of : Cond) ∈ bw := bi_bwl6 _ (List.mem_of_getElem? (i := 31) rfl)
theorem q_392 : (Cond.initialized RX5 : Cond) ∈ bw := bi_bwl6 _ (List.mem_of_getElem? (i := 32) rfl)
theorem q_393 : (Cond.code yX5_byteAt cX5_byteAt 4 (some .int) : Cond) ∈ bw := bi_bwl6 _ (List.mem_of_getElem? (i := 33) rfl)
theorem q_394 : (Cond.code yX5_layByte cX5_layByte 5 none : Cond) ∈ bw := bi_bwl6 _ (List.mem_of_getElem? (i := 34) rfl)
theorem q_395 : (Cond.methodLink RX5 30 yX5_lay : Cond) ∈ bw := bi_bwl6 _ (List.mem_of_getElem? (i := 35) rfl)
theorem q_396 : (Cond.instanceMethod yX5_lay : Cond) ∈ bw := bi_bwl6 _ (List.mem_of_getElem? (i := 36) rfl)
theorem q_397 : (Cond.selects RX5 yX5_lay yX5_lay : Cond) ∈ bw := bi_bwl6 _ (List.mem_of_getElem? (i := 37) rfl)
theorem q_398 : (Cond.code yX5_lowest cX5_lowest 5 (some .int) : Cond) ∈ bw := bi_bwl6 _ (List.mem_of_getElem? (i := 38) rfl)
theorem q_399 : (Cond.methodLink RX5 34 yX5_sizeOf : Cond) ∈ bw := bi_bwl6 _ (List.mem_of_getElem? (i := 39) rfl)
theorem q_400 : (Cond.instanceMethod yX5_sizeOf : Cond) ∈ bw := bi_bwl6 _ (List.mem_of_getElem? (i := 40) rfl)
theorem q_401 : (Cond.selects RX5 yX5_sizeOf yX5_sizeOf : Cond) ∈ bw := bi_bwl6 _ (List.mem_of_getElem? (i := 41) rfl)
theorem q_402 : (Cond.code yX5_gapOf cX5_gapOf 2 (some .int) : Cond) ∈ bw := bi_bwl6 _ (List.mem_of_getElem? (i := 42) rfl)
theorem q_403 : (Cond.methodLink RX5 37 yX5_lowest : Cond) ∈ bw := bi_bwl6 _ (List.mem_of_getElem? (i := 43) rfl)
theorem q_404 : (Cond.instanceMethod yX5_lowest : Cond) ∈ bw := bi_bwl6 _ (List.mem_of_getElem? (i := 44) rfl)
theorem q_405 : (Cond.selects RX5 yX5_lowest yX5_lowest : Cond) ∈ bw := bi_bwl6 _ (List.mem_of_getElem? (i := 45) rfl)
theorem q_406 : (Cond.code yX5_sizes cX5_sizes 4 (some .int) : Cond) ∈ bw := bi_bwl6 _ (List.mem_of_getElem? (i := 46) rfl)
theorem q_407 : (Cond.code yX5_freeOf cX5_freeOf 2 (some .int) : Cond) ∈ bw := bi_bwl6 _ (List.mem_of_getElem? (i := 47) rfl)
theorem q_408 : (Cond.methodLink RX5 41 yX5_sizes : Cond) ∈ bw := bi_bwl6 _ (List.mem_of_getElem? (i := 48) rfl)
theorem q_409 : (Cond.instanceMethod yX5_sizes : Cond) ∈ bw := bi_bwl6 _ (List.mem_of_getElem? (i := 49) rfl)
theorem q_410 : (Cond.selects RX5 yX5_sizes yX5_sizes : Cond) ∈ bw := bi_bwl6 _ (List.mem_of_getElem? (i := 50) rfl)
theorem q_411 : (Cond.code yX5_byteOfPage cX5_byteOfPage 4 (some .int) : Cond) ∈ bw := bi_bwl6 _ (List.mem_of_getElem? (i := 51) rfl)
theorem q_412 : (Cond.code yX5_emptySlot cX5_emptySlot 3 (some .int) : Cond) ∈ bw := bi_bwl6 _ (List.mem_of_getElem? (i := 52) rfl)
theorem q_413 : (Cond.code yX5_hasRoom cX5_hasRoom 4 (some .boolean) : Cond) ∈ bw := bi_bwl6 _ (List.mem_of_getElem? (i := 53) rfl)
theorem q_414 : (Cond.methodLink RX5 44 yX5_emptySlot : Cond) ∈ bw := bi_bwl6 _ (List.mem_of_getElem? (i := 54) rfl)
theorem q_415 : (Cond.instanceMethod yX5_emptySlot : Cond) ∈ bw := bi_bwl6 _ (List.mem_of_getElem? (i := 55) rfl)
theorem q_416 : (Cond.selects RX5 yX5_emptySlot yX5_emptySlot : Cond) ∈ bw := bi_bwl6 _ (List.mem_of_getElem? (i := 56) rfl)
theorem q_417 : (Cond.methodLink RX5 47 yX5_freeOf : Cond) ∈ bw := bi_bwl6 _ (List.mem_of_getElem? (i := 57) rfl)
theorem q_418 : (Cond.instanceMethod yX5_freeOf : Cond) ∈ bw := bi_bwl6 _ (List.mem_of_getElem? (i := 58) rfl)
theorem q_419 : (Cond.selects RX5 yX5_freeOf yX5_freeOf : Cond) ∈ bw := bi_bwl6 _ (List.mem_of_getElem? (i := 59) rfl)
theorem q_420 : (Cond.code yX5_wipes cX5_wipes 4 none : Cond) ∈ bw := bi_bwl7 _ (List.mem_of_getElem? (i := 0) rfl)
theorem q_421 : (Cond.methodLink RX5 50 yX5_layByte : Cond) ∈ bw := bi_bwl7 _ (List.mem_of_getElem? (i := 1) rfl)
theorem q_422 : (Cond.instanceMethod yX5_layByte : Cond) ∈ bw := bi_bwl7 _ (List.mem_of_getElem? (i := 2) rfl)
theorem q_423 : (Cond.selects RX5 yX5_layByte yX5_layByte : Cond) ∈ bw := bi_bwl7 _ (List.mem_of_getElem? (i := 3) rfl)
theorem q_424 : (Cond.code yX5_removes cX5_removes 4 none : Cond) ∈ bw := bi_bwl7 _ (List.mem_of_getElem? (i := 4) rfl)
theorem q_425 : (Cond.methodLink RX5 54 yX5_wipes : Cond) ∈ bw := bi_bwl7 _ (List.mem_of_getElem? (i := 5) rfl)
theorem q_426 : (Cond.instanceMethod yX5_wipes : Cond) ∈ bw := bi_bwl7 _ (List.mem_of_getElem? (i := 6) rfl)
theorem q_427 : (Cond.selects RX5 yX5_wipes yX5_wipes : Cond) ∈ bw := bi_bwl7 _ (List.mem_of_getElem? (i := 7) rfl)
theorem q_428 : (Cond.code yX5_compacts cX5_compacts 7 (some .int) : Cond) ∈ bw := bi_bwl7 _ (List.mem_of_getElem? (i := 8) rfl)
theorem q_429 : (Cond.methodLink RX5 58 yX5_byteAt : Cond) ∈ bw := bi_bwl7 _ (List.mem_of_getElem? (i := 9) rfl)
theorem q_430 : (Cond.instanceMethod yX5_byteAt : Cond) ∈ bw := bi_bwl7 _ (List.mem_of_getElem? (i := 10) rfl)
theorem q_431 : (Cond.selects RX5 yX5_byteAt yX5_byteAt : Cond) ∈ bw := bi_bwl7 _ (List.mem_of_getElem? (i := 11) rfl)
theorem q_432 : (Cond.methodLink RX5 62 yX5_gapOf : Cond) ∈ bw := bi_bwl7 _ (List.mem_of_getElem? (i := 12) rfl)
theorem q_433 : (Cond.instanceMethod yX5_gapOf : Cond) ∈ bw := bi_bwl7 _ (List.mem_of_getElem? (i := 13) rfl)
theorem q_434 : (Cond.selects RX5 yX5_gapOf yX5_gapOf : Cond) ∈ bw := bi_bwl7 _ (List.mem_of_getElem? (i := 14) rfl)
theorem q_435 : (Cond.methodLink RX5 65 yX5_compacts : Cond) ∈ bw := bi_bwl7 _ (List.mem_of_getElem? (i := 15) rfl)
theorem q_436 : (Cond.instanceMethod yX5_compacts : Cond) ∈ bw := bi_bwl7 _ (List.mem_of_getElem? (i := 16) rfl)
theorem q_437 : (Cond.selects RX5 yX5_compacts yX5_compacts : Cond) ∈ bw := bi_bwl7 _ (List.mem_of_getElem? (i := 17) rfl)
theorem q_438 : (Cond.code yX5_puts cX5_puts 5 none : Cond) ∈ bw := bi_bwl7 _ (List.mem_of_getElem? (i := 18) rfl)
theorem q_439 : (Cond.methodLink RX5 68 yX5_puts : Cond) ∈ bw := bi_bwl7 _ (List.mem_of_getElem? (i := 19) rfl)
theorem q_440 : (Cond.instanceMethod yX5_puts : Cond) ∈ bw := bi_bwl7 _ (List.mem_of_getElem? (i := 20) rfl)
theorem q_441 : (Cond.selects RX5 yX5_puts yX5_puts : Cond) ∈ bw := bi_bwl7 _ (List.mem_of_getElem? (i := 21) rfl)
theorem q_442 : (Cond.code yX5_stores cX5_stores 4 (some .int) : Cond) ∈ bw := bi_bwl7 _ (List.mem_of_getElem? (i := 22) rfl)
theorem q_443 : (Cond.code yX5_replaces cX5_replaces 4 none : Cond) ∈ bw := bi_bwl7 _ (List.mem_of_getElem? (i := 23) rfl)
theorem q_444 : (Cond.code yX5_canReplace cX5_canReplace 4 (some .boolean) : Cond) ∈ bw := bi_bwl7 _ (List.mem_of_getElem? (i := 24) rfl)
theorem q_445 : (Cond.methodLink RX5 71 yX5_hasRoom : Cond) ∈ bw := bi_bwl7 _ (List.mem_of_getElem? (i := 25) rfl)
theorem q_446 : (Cond.instanceMethod yX5_hasRoom : Cond) ∈ bw := bi_bwl7 _ (List.mem_of_getElem? (i := 26) rfl)
theorem q_447 : (Cond.selects RX5 yX5_hasRoom yX5_hasRoom : Cond) ∈ bw := bi_bwl7 _ (List.mem_of_getElem? (i := 27) rfl)
theorem q_448 : (Cond.code yX5_pageFor cX5_pageFor 5 (some .int) : Cond) ∈ bw := bi_bwl7 _ (List.mem_of_getElem? (i := 28) rfl)
theorem q_449 : (Cond.code yX5_opens cX5_opens 2 none : Cond) ∈ bw := bi_bwl7 _ (List.mem_of_getElem? (i := 29) rfl)
theorem q_450 : (Cond.code yX5_kindAt cX5_kindAt 4 (some .int) : Cond) ∈ bw := bi_bwl7 _ (List.mem_of_getElem? (i := 30) rfl)
theorem q_451 : (Cond.code yX5_isIdentifier cX5_isIdentifier 2 (some .boolean) : Cond) ∈ bw := bi_bwl7 _ (List.mem_of_getElem? (i := 31) rfl)
theorem q_452 : (Cond.methodLink RX5 75 yX5_kindAt : Cond) ∈ bw := bi_bwl7 _ (List.mem_of_getElem? (i := 32) rfl)
theorem q_453 : (Cond.instanceMethod yX5_kindAt : Cond) ∈ bw := bi_bwl7 _ (List.mem_of_getElem? (i := 33) rfl)
theorem q_454 : (Cond.selects RX5 yX5_kindAt yX5_kindAt : Cond) ∈ bw := bi_bwl7 _ (List.mem_of_getElem? (i := 34) rfl)
theorem q_455 : (Cond.methodLink RX5 78 yX5_in : Cond) ∈ bw := bi_bwl7 _ (List.mem_of_getElem? (i := 35) rfl)
theorem q_456 : (Cond.static yX5_in : Cond) ∈ bw := bi_bwl7 _ (List.mem_of_getElem? (i := 36) rfl)
theorem q_457 : (Cond.code yX5_placed cX5_placed 2 (some .int) : Cond) ∈ bw := bi_bwl7 _ (List.mem_of_getElem? (i := 37) rfl)
theorem q_458 : (Cond.code yX5_homeSize cX5_homeSize 1 (some .int) : Cond) ∈ bw := bi_bwl7 _ (List.mem_of_getElem? (i := 38) rfl)
theorem q_459 : (Cond.code yX5_lengthOf cX5_lengthOf 5 (some .int) : Cond) ∈ bw := bi_bwl7 _ (List.mem_of_getElem? (i := 39) rfl)
theorem q_460 : (Cond.methodLink RX5 82 yX5_placed : Cond) ∈ bw := bi_bwl7 _ (List.mem_of_getElem? (i := 40) rfl)
theorem q_461 : (Cond.instanceMethod yX5_placed : Cond) ∈ bw := bi_bwl7 _ (List.mem_of_getElem? (i := 41) rfl)
theorem q_462 : (Cond.selects RX5 yX5_placed yX5_placed : Cond) ∈ bw := bi_bwl7 _ (List.mem_of_getElem? (i := 42) rfl)
theorem q_463 : (Cond.code yX5_byteOfRow cX5_byteOfRow 4 (some .int) : Cond) ∈ bw := bi_bwl7 _ (List.mem_of_getElem? (i := 43) rfl)
theorem q_464 : (Cond.code yX5_writesHome cX5_writesHome 4 none : Cond) ∈ bw := bi_bwl7 _ (List.mem_of_getElem? (i := 44) rfl)
theorem q_465 : (Cond.fieldLink RX5 85 "HeapFileModel" "many" "I" : Cond) ∈ bw := bi_bwl7 _ (List.mem_of_getElem? (i := 45) rfl)
theorem q_466 : (Cond.code yX5_writesNote cX5_writesNote 4 none : Cond) ∈ bw := bi_bwl7 _ (List.mem_of_getElem? (i := 46) rfl)
theorem q_467 : (Cond.code yX5_writesMoved cX5_writesMoved 4 none : Cond) ∈ bw := bi_bwl7 _ (List.mem_of_getElem? (i := 47) rfl)
theorem q_468 : (Cond.methodLink RX5 88 yX5_writesNote : Cond) ∈ bw := bi_bwl7 _ (List.mem_of_getElem? (i := 48) rfl)
theorem q_469 : (Cond.instanceMethod yX5_writesNote : Cond) ∈ bw := bi_bwl7 _ (List.mem_of_getElem? (i := 49) rfl)
theorem q_470 : (Cond.selects RX5 yX5_writesNote yX5_writesNote : Cond) ∈ bw := bi_bwl7 _ (List.mem_of_getElem? (i := 50) rfl)
theorem q_471 : (Cond.methodLink RX5 91 yX5_homeSize : Cond) ∈ bw := bi_bwl7 _ (List.mem_of_getElem? (i := 51) rfl)
theorem q_472 : (Cond.static yX5_homeSize : Cond) ∈ bw := bi_bwl7 _ (List.mem_of_getElem? (i := 52) rfl)
theorem q_473 : (Cond.methodLink RX5 94 yX5_pageFor : Cond) ∈ bw := bi_bwl7 _ (List.mem_of_getElem? (i := 53) rfl)
theorem q_474 : (Cond.instanceMethod yX5_pageFor : Cond) ∈ bw := bi_bwl7 _ (List.mem_of_getElem? (i := 54) rfl)
theorem q_475 : (Cond.selects RX5 yX5_pageFor yX5_pageFor : Cond) ∈ bw := bi_bwl7 _ (List.mem_of_getElem? (i := 55) rfl)
theorem q_476 : (Cond.methodLink RX5 97 yX5_opens : Cond) ∈ bw := bi_bwl7 _ (List.mem_of_getElem? (i := 56) rfl)
theorem q_477 : (Cond.instanceMethod yX5_opens : Cond) ∈ bw := bi_bwl7 _ (List.mem_of_getElem? (i := 57) rfl)
theorem q_478 : (Cond.selects RX5 yX5_opens yX5_opens : Cond) ∈ bw := bi_bwl7 _ (List.mem_of_getElem? (i := 58) rfl)
theorem q_479 : (Cond.methodLink RX5 101 yX5_stores : Cond) ∈ bw := bi_bwl7 _ (List.mem_of_getElem? (i := 59) rfl)
theorem q_480 : (Cond.instanceMethod yX5_stores : Cond) ∈ bw := bi_bwl8 _ (List.mem_of_getElem? (i := 0) rfl)
theorem q_481 : (Cond.selects RX5 yX5_stores yX5_stores : Cond) ∈ bw := bi_bwl8 _ (List.mem_of_getElem? (i := 1) rfl)
theorem q_482 : (Cond.methodLink RX5 104 yX5_writesHome : Cond) ∈ bw := bi_bwl8 _ (List.mem_of_getElem? (i := 2) rfl)
theorem q_483 : (Cond.instanceMethod yX5_writesHome : Cond) ∈ bw := bi_bwl8 _ (List.mem_of_getElem? (i := 3) rfl)
theorem q_484 : (Cond.selects RX5 yX5_writesHome yX5_writesHome : Cond) ∈ bw := bi_bwl8 _ (List.mem_of_getElem? (i := 4) rfl)
theorem q_485 : (Cond.code yX5_inserts cX5_inserts 3 (some .int) : Cond) ∈ bw := bi_bwl8 _ (List.mem_of_getElem? (i := 5) rfl)
theorem q_486 : (Cond.methodLink RX5 107 yX5_canReplace : Cond) ∈ bw := bi_bwl8 _ (List.mem_of_getElem? (i := 6) rfl)
theorem q_487 : (Cond.instanceMethod yX5_canReplace : Cond) ∈ bw := bi_bwl8 _ (List.mem_of_getElem? (i := 7) rfl)
theorem q_488 : (Cond.selects RX5 yX5_canReplace yX5_canReplace : Cond) ∈ bw := bi_bwl8 _ (List.mem_of_getElem? (i := 8) rfl)
theorem q_489 : (Cond.code yX5_way cX5_way 5 (some .int) : Cond) ∈ bw := bi_bwl8 _ (List.mem_of_getElem? (i := 9) rfl)
theorem q_490 : (Cond.methodLink RX5 110 yX5_removes : Cond) ∈ bw := bi_bwl8 _ (List.mem_of_getElem? (i := 10) rfl)
theorem q_491 : (Cond.instanceMethod yX5_removes : Cond) ∈ bw := bi_bwl8 _ (List.mem_of_getElem? (i := 11) rfl)
theorem q_492 : (Cond.selects RX5 yX5_removes yX5_removes : Cond) ∈ bw := bi_bwl8 _ (List.mem_of_getElem? (i := 12) rfl)
theorem q_493 : (Cond.methodLink RX5 113 yX5_replaces : Cond) ∈ bw := bi_bwl8 _ (List.mem_of_getElem? (i := 13) rfl)
theorem q_494 : (Cond.instanceMethod yX5_replaces : Cond) ∈ bw := bi_bwl8 _ (List.mem_of_getElem? (i := 14) rfl)
theorem q_495 : (Cond.selects RX5 yX5_replaces yX5_replaces : Cond) ∈ bw := bi_bwl8 _ (List.mem_of_getElem? (i := 15) rfl)
theorem q_496 : (Cond.code yX5_comesHome cX5_comesHome 3 none : Cond) ∈ bw := bi_bwl8 _ (List.mem_of_getElem? (i := 16) rfl)
theorem q_497 : (Cond.methodLink RX5 116 yX5_writesMoved : Cond) ∈ bw := bi_bwl8 _ (List.mem_of_getElem? (i := 17) rfl)
theorem q_498 : (Cond.instanceMethod yX5_writesMoved : Cond) ∈ bw := bi_bwl8 _ (List.mem_of_getElem? (i := 18) rfl)
theorem q_499 : (Cond.selects RX5 yX5_writesMoved yX5_writesMoved : Cond) ∈ bw := bi_bwl8 _ (List.mem_of_getElem? (i := 19) rfl)
theorem q_500 : (Cond.code yX5_goesOut cX5_goesOut 5 none : Cond) ∈ bw := bi_bwl8 _ (List.mem_of_getElem? (i := 20) rfl)
theorem q_501 : (Cond.methodLink RX5 119 yX5_way : Cond) ∈ bw := bi_bwl8 _ (List.mem_of_getElem? (i := 21) rfl)
theorem q_502 : (Cond.instanceMethod yX5_way : Cond) ∈ bw := bi_bwl8 _ (List.mem_of_getElem? (i := 22) rfl)
theorem q_503 : (Cond.selects RX5 yX5_way yX5_way : Cond) ∈ bw := bi_bwl8 _ (List.mem_of_getElem? (i := 23) rfl)
theorem q_504 : (Cond.methodLink RX5 122 yX5_comesHome : Cond) ∈ bw := bi_bwl8 _ (List.mem_of_getElem? (i := 24) rfl)
theorem q_505 : (Cond.instanceMethod yX5_comesHome : Cond) ∈ bw := bi_bwl8 _ (List.mem_of_getElem? (i := 25) rfl)
theorem q_506 : (Cond.selects RX5 yX5_comesHome yX5_comesHome : Cond) ∈ bw := bi_bwl8 _ (List.mem_of_getElem? (i := 26) rfl)
theorem q_507 : (Cond.methodLink RX5 125 yX5_goesOut : Cond) ∈ bw := bi_bwl8 _ (List.mem_of_getElem? (i := 27) rfl)
theorem q_508 : (Cond.instanceMethod yX5_goesOut : Cond) ∈ bw := bi_bwl8 _ (List.mem_of_getElem? (i := 28) rfl)
theorem q_509 : (Cond.selects RX5 yX5_goesOut yX5_goesOut : Cond) ∈ bw := bi_bwl8 _ (List.mem_of_getElem? (i := 29) rfl)
theorem q_510 : (Cond.code yX5_updates cX5_updates 4 (some .int) : Cond) ∈ bw := bi_bwl8 _ (List.mem_of_getElem? (i := 30) rfl)
theorem q_511 : (Cond.methodLink RX5 128 yX5_lengthOf : Cond) ∈ bw := bi_bwl8 _ (List.mem_of_getElem? (i := 31) rfl)
theorem q_512 : (Cond.instanceMethod yX5_lengthOf : Cond) ∈ bw := bi_bwl8 _ (List.mem_of_getElem? (i := 32) rfl)
theorem q_513 : (Cond.selects RX5 yX5_lengthOf yX5_lengthOf : Cond) ∈ bw := bi_bwl8 _ (List.mem_of_getElem? (i := 33) rfl)
theorem q_514 : (Cond.code yX5_deletes cX5_deletes 4 (some .int) : Cond) ∈ bw := bi_bwl8 _ (List.mem_of_getElem? (i := 34) rfl)
theorem q_515 : (Cond.methodLink RX5 134 yX5_byteOfRow : Cond) ∈ bw := bi_bwl8 _ (List.mem_of_getElem? (i := 35) rfl)
theorem q_516 : (Cond.instanceMethod yX5_byteOfRow : Cond) ∈ bw := bi_bwl8 _ (List.mem_of_getElem? (i := 36) rfl)
theorem q_517 : (Cond.selects RX5 yX5_byteOfRow yX5_byteOfRow : Cond) ∈ bw := bi_bwl8 _ (List.mem_of_getElem? (i := 37) rfl)
theorem q_518 : (Cond.code yX5_takesRow cX5_takesRow 3 none : Cond) ∈ bw := bi_bwl8 _ (List.mem_of_getElem? (i := 38) rfl)
theorem q_519 : (Cond.methodLink RX5 131 yX5_takesRow : Cond) ∈ bw := bi_bwl8 _ (List.mem_of_getElem? (i := 39) rfl)
theorem q_520 : (Cond.instanceMethod yX5_takesRow : Cond) ∈ bw := bi_bwl8 _ (List.mem_of_getElem? (i := 40) rfl)
theorem q_521 : (Cond.selects RX5 yX5_takesRow yX5_takesRow : Cond) ∈ bw := bi_bwl8 _ (List.mem_of_getElem? (i := 41) rfl)
theorem q_522 : (Cond.code yX5_returnsAll cX5_returnsAll 3 (some .int) : Cond) ∈ bw := bi_bwl8 _ (List.mem_of_getElem? (i := 42) rfl)
theorem q_523 : (Cond.code yX5_takesBuffer cX5_takesBuffer 4 none : Cond) ∈ bw := bi_bwl8 _ (List.mem_of_getElem? (i := 43) rfl)
theorem q_524 : (Cond.code yX5_copies cX5_copies 4 none : Cond) ∈ bw := bi_bwl8 _ (List.mem_of_getElem? (i := 44) rfl)
theorem q_525 : (Cond.code yX5_save cX5_save 2 none : Cond) ∈ bw := bi_bwl8 _ (List.mem_of_getElem? (i := 45) rfl)
theorem q_526 : (Cond.fieldLink RX5 137 "HeapFileModel" "saved" "I" : Cond) ∈ bw := bi_bwl8 _ (List.mem_of_getElem? (i := 46) rfl)
theorem q_527 : (Cond.methodLink RX5 140 yX5_copies : Cond) ∈ bw := bi_bwl8 _ (List.mem_of_getElem? (i := 47) rfl)
theorem q_528 : (Cond.instanceMethod yX5_copies : Cond) ∈ bw := bi_bwl8 _ (List.mem_of_getElem? (i := 48) rfl)
theorem q_529 : (Cond.selects RX5 yX5_copies yX5_copies : Cond) ∈ bw := bi_bwl8 _ (List.mem_of_getElem? (i := 49) rfl)
theorem q_530 : (Cond.code yX5_append cX5_append 2 (some .int) : Cond) ∈ bw := bi_bwl8 _ (List.mem_of_getElem? (i := 50) rfl)
theorem q_531 : (Cond.fieldLink RX5 143 "HeapFileModel" "length" "I" : Cond) ∈ bw := bi_bwl8 _ (List.mem_of_getElem? (i := 51) rfl)
theorem q_532 : (Cond.methodLink RX5 146 yX5_holds : Cond) ∈ bw := bi_bwl8 _ (List.mem_of_getElem? (i := 52) rfl)
theorem q_533 : (Cond.instanceMethod yX5_holds : Cond) ∈ bw := bi_bwl8 _ (List.mem_of_getElem? (i := 53) rfl)
theorem q_534 : (Cond.selects RX5 yX5_holds yX5_holds : Cond) ∈ bw := bi_bwl8 _ (List.mem_of_getElem? (i := 54) rfl)
theorem q_535 : (Cond.code yX5_fill cX5_fill 4 (some .int) : Cond) ∈ bw := bi_bwl8 _ (List.mem_of_getElem? (i := 55) rfl)
theorem q_536 : (Cond.code yX5_clearBuffer cX5_clearBuffer 2 (some .int) : Cond) ∈ bw := bi_bwl8 _ (List.mem_of_getElem? (i := 56) rfl)
theorem q_537 : (Cond.methodLink RX5 150 yX5_save : Cond) ∈ bw := bi_bwl8 _ (List.mem_of_getElem? (i := 57) rfl)
theorem q_538 : (Cond.instanceMethod yX5_save : Cond) ∈ bw := bi_bwl8 _ (List.mem_of_getElem? (i := 58) rfl)
theorem q_539 : (Cond.selects RX5 yX5_save yX5_save : Cond) ∈ bw := bi_bwl8 _ (List.mem_of_getElem? (i := 59) rfl)
theorem q_540 : (Cond.methodLink RX5 153 yX5_takesBuffer : Cond) ∈ bw := bi_bwl9 _ (List.mem_of_getElem? (i := 0) rfl)
theorem q_541 : (Cond.instanceMethod yX5_takesBuffer : Cond) ∈ bw := bi_bwl9 _ (List.mem_of_getElem? (i := 1) rfl)
theorem q_542 : (Cond.selects RX5 yX5_takesBuffer yX5_takesBuffer : Cond) ∈ bw := bi_bwl9 _ (List.mem_of_getElem? (i := 2) rfl)
theorem q_543 : (Cond.methodLink RX5 156 yX5_inserts : Cond) ∈ bw := bi_bwl9 _ (List.mem_of_getElem? (i := 3) rfl)
theorem q_544 : (Cond.instanceMethod yX5_inserts : Cond) ∈ bw := bi_bwl9 _ (List.mem_of_getElem? (i := 4) rfl)
theorem q_545 : (Cond.selects RX5 yX5_inserts yX5_inserts : Cond) ∈ bw := bi_bwl9 _ (List.mem_of_getElem? (i := 5) rfl)
theorem q_546 : (Cond.code yX5_insert cX5_insert 1 (some .int) : Cond) ∈ bw := bi_bwl9 _ (List.mem_of_getElem? (i := 6) rfl)
theorem q_547 : (Cond.methodLink RX5 160 yX5_isIdentifier : Cond) ∈ bw := bi_bwl9 _ (List.mem_of_getElem? (i := 7) rfl)
theorem q_548 : (Cond.instanceMethod yX5_isIdentifier : Cond) ∈ bw := bi_bwl9 _ (List.mem_of_getElem? (i := 8) rfl)
theorem q_549 : (Cond.selects RX5 yX5_isIdentifier yX5_isIdentifier : Cond) ∈ bw := bi_bwl9 _ (List.mem_of_getElem? (i := 9) rfl)
theorem q_550 : (Cond.methodLink RX5 163 yX5_updates : Cond) ∈ bw := bi_bwl9 _ (List.mem_of_getElem? (i := 10) rfl)
theorem q_551 : (Cond.instanceMethod yX5_updates : Cond) ∈ bw := bi_bwl9 _ (List.mem_of_getElem? (i := 11) rfl)
theorem q_552 : (Cond.selects RX5 yX5_updates yX5_updates : Cond) ∈ bw := bi_bwl9 _ (List.mem_of_getElem? (i := 12) rfl)
theorem q_553 : (Cond.code yX5_update cX5_update 3 (some .int) : Cond) ∈ bw := bi_bwl9 _ (List.mem_of_getElem? (i := 13) rfl)
theorem q_554 : (Cond.methodLink RX5 166 yX5_deletes : Cond) ∈ bw := bi_bwl9 _ (List.mem_of_getElem? (i := 14) rfl)
theorem q_555 : (Cond.instanceMethod yX5_deletes : Cond) ∈ bw := bi_bwl9 _ (List.mem_of_getElem? (i := 15) rfl)
theorem q_556 : (Cond.selects RX5 yX5_deletes yX5_deletes : Cond) ∈ bw := bi_bwl9 _ (List.mem_of_getElem? (i := 16) rfl)
theorem q_557 : (Cond.code yX5_delete cX5_delete 2 (some .int) : Cond) ∈ bw := bi_bwl9 _ (List.mem_of_getElem? (i := 17) rfl)
theorem q_558 : (Cond.methodLink RX5 169 yX5_returnsAll : Cond) ∈ bw := bi_bwl9 _ (List.mem_of_getElem? (i := 18) rfl)
theorem q_559 : (Cond.instanceMethod yX5_returnsAll : Cond) ∈ bw := bi_bwl9 _ (List.mem_of_getElem? (i := 19) rfl)
theorem q_560 : (Cond.selects RX5 yX5_returnsAll yX5_returnsAll : Cond) ∈ bw := bi_bwl9 _ (List.mem_of_getElem? (i := 20) rfl)
theorem q_561 : (Cond.code yX5_bringHome cX5_bringHome 1 (some .int) : Cond) ∈ bw := bi_bwl9 _ (List.mem_of_getElem? (i := 21) rfl)
theorem q_562 : (Cond.code yX5_isPage cX5_isPage 2 (some .boolean) : Cond) ∈ bw := bi_bwl9 _ (List.mem_of_getElem? (i := 22) rfl)
theorem q_563 : (Cond.methodLink RX5 172 yX5_isPage : Cond) ∈ bw := bi_bwl9 _ (List.mem_of_getElem? (i := 23) rfl)
theorem q_564 : (Cond.instanceMethod yX5_isPage : Cond) ∈ bw := bi_bwl9 _ (List.mem_of_getElem? (i := 24) rfl)
theorem q_565 : (Cond.selects RX5 yX5_isPage yX5_isPage : Cond) ∈ bw := bi_bwl9 _ (List.mem_of_getElem? (i := 25) rfl)
theorem q_566 : (Cond.code yX5_compact cX5_compact 2 (some .int) : Cond) ∈ bw := bi_bwl9 _ (List.mem_of_getElem? (i := 26) rfl)
theorem q_567 : (Cond.code yX5_counted cX5_counted 5 (some .int) : Cond) ∈ bw := bi_bwl9 _ (List.mem_of_getElem? (i := 27) rfl)
theorem q_568 : (Cond.code yX5_rows cX5_rows 1 (some .int) : Cond) ∈ bw := bi_bwl9 _ (List.mem_of_getElem? (i := 28) rfl)
theorem q_569 : (Cond.methodLink RX5 175 yX5_counted : Cond) ∈ bw := bi_bwl9 _ (List.mem_of_getElem? (i := 29) rfl)
theorem q_570 : (Cond.instanceMethod yX5_counted : Cond) ∈ bw := bi_bwl9 _ (List.mem_of_getElem? (i := 30) rfl)
theorem q_571 : (Cond.selects RX5 yX5_counted yX5_counted : Cond) ∈ bw := bi_bwl9 _ (List.mem_of_getElem? (i := 31) rfl)
theorem q_572 : (Cond.code yX5_isRow cX5_isRow 2 (some .boolean) : Cond) ∈ bw := bi_bwl9 _ (List.mem_of_getElem? (i := 32) rfl)
theorem q_573 : (Cond.code yX5_length cX5_length 2 (some .int) : Cond) ∈ bw := bi_bwl9 _ (List.mem_of_getElem? (i := 33) rfl)
theorem q_574 : (Cond.code yX5_byteOf cX5_byteOf 4 (some .int) : Cond) ∈ bw := bi_bwl9 _ (List.mem_of_getElem? (i := 34) rfl)
theorem q_575 : (Cond.code yX5_placeOf cX5_placeOf 2 (some .int) : Cond) ∈ bw := bi_bwl9 _ (List.mem_of_getElem? (i := 35) rfl)
theorem q_576 : (Cond.code yX5_next cX5_next 4 (some .int) : Cond) ∈ bw := bi_bwl9 _ (List.mem_of_getElem? (i := 36) rfl)
theorem q_577 : (Cond.code yX5_rowAt cX5_rowAt 3 (some .int) : Cond) ∈ bw := bi_bwl9 _ (List.mem_of_getElem? (i := 37) rfl)
theorem q_578 : (Cond.code yX5_pages cX5_pages 1 (some .int) : Cond) ∈ bw := bi_bwl9 _ (List.mem_of_getElem? (i := 38) rfl)
theorem q_579 : (Cond.methodLink RX5 178 yX5_byteOfPage : Cond) ∈ bw := bi_bwl9 _ (List.mem_of_getElem? (i := 39) rfl)
theorem q_580 : (Cond.instanceMethod yX5_byteOfPage : Cond) ∈ bw := bi_bwl9 _ (List.mem_of_getElem? (i := 40) rfl)
theorem q_581 : (Cond.selects RX5 yX5_byteOfPage yX5_byteOfPage : Cond) ∈ bw := bi_bwl9 _ (List.mem_of_getElem? (i := 41) rfl)
theorem q_582 : (Cond.code yX5_pageByte cX5_pageByte 3 (some .int) : Cond) ∈ bw := bi_bwl9 _ (List.mem_of_getElem? (i := 42) rfl)
theorem q_583 : (Cond.code yX5_free cX5_free 2 (some .int) : Cond) ∈ bw := bi_bwl9 _ (List.mem_of_getElem? (i := 43) rfl)
theorem q_584 : (Cond.code yX5_gap cX5_gap 2 (some .int) : Cond) ∈ bw := bi_bwl9 _ (List.mem_of_getElem? (i := 44) rfl)
theorem q_585 : (Cond.code yX5_kind cX5_kind 2 (some .int) : Cond) ∈ bw := bi_bwl9 _ (List.mem_of_getElem? (i := 45) rfl)
theorem q_586 : (Cond.code yX5_notes cX5_notes 1 (some .int) : Cond) ∈ bw := bi_bwl9 _ (List.mem_of_getElem? (i := 46) rfl)
theorem q_587 : (Cond.code yX5_moves cX5_moves 1 (some .int) : Cond) ∈ bw := bi_bwl9 _ (List.mem_of_getElem? (i := 47) rfl)
theorem q_588 : (Cond.code yX5_returns cX5_returns 1 (some .int) : Cond) ∈ bw := bi_bwl9 _ (List.mem_of_getElem? (i := 48) rfl)
theorem q_589 : (Cond.code yX5_compactions cX5_compactions 1 (some .int) : Cond) ∈ bw := bi_bwl9 _ (List.mem_of_getElem? (i := 49) rfl)
theorem q_590 : (Cond.code yX5_factor cX5_factor 3 (some .double) : Cond) ∈ bw := bi_bwl9 _ (List.mem_of_getElem? (i := 50) rfl)
theorem q_591 : (Cond.code yX5_fillFactor cX5_fillFactor 1 (some .double) : Cond) ∈ bw := bi_bwl9 _ (List.mem_of_getElem? (i := 51) rfl)
theorem q_592 : (Cond.methodLink RX5 181 yX5_factor : Cond) ∈ bw := bi_bwl9 _ (List.mem_of_getElem? (i := 52) rfl)
theorem q_593 : (Cond.instanceMethod yX5_factor : Cond) ∈ bw := bi_bwl9 _ (List.mem_of_getElem? (i := 53) rfl)
theorem q_594 : (Cond.selects RX5 yX5_factor yX5_factor : Cond) ∈ bw := bi_bwl9 _ (List.mem_of_getElem? (i := 54) rfl)
theorem q_595 : (Cond.code yX5_ifInserted cX5_ifInserted 4 (some .int) : Cond) ∈ bw := bi_bwl9 _ (List.mem_of_getElem? (i := 55) rfl)
theorem q_596 : (Cond.code yX5_ifUpdated cX5_ifUpdated 3 (some .int) : Cond) ∈ bw := bi_bwl9 _ (List.mem_of_getElem? (i := 56) rfl)
theorem q_597 : (Cond.code yX5_greatestAtHome cX5_greatestAtHome 3 (some .int) : Cond) ∈ bw := bi_bwl9 _ (List.mem_of_getElem? (i := 57) rfl)
theorem q_598 : (Cond.code yX5_taken cX5_taken 7 (some .int) : Cond) ∈ bw := bi_bwl9 _ (List.mem_of_getElem? (i := 58) rfl)
theorem q_599 : (Cond.methodLink RX5 185 yX5_taken : Cond) ∈ bw := bi_bwl9 _ (List.mem_of_getElem? (i := 59) rfl)
theorem q_600 : (Cond.static yX5_taken : Cond) ∈ bw := bi_bwl10 _ (List.mem_of_getElem? (i := 0) rfl)
theorem q_601 : (Cond.code yX5_capacity cX5_capacity 7 (some .int) : Cond) ∈ bw := bi_bwl10 _ (List.mem_of_getElem? (i := 1) rfl)
theorem q_602 : (Cond.code yX5_sign cX5_sign 1 (some .int) : Cond) ∈ bw := bi_bwl10 _ (List.mem_of_getElem? (i := 2) rfl)
theorem q_603 : (Cond.fieldLink RX5 189 "HeapFileModel" "at" "I" : Cond) ∈ bw := bi_bwl10 _ (List.mem_of_getElem? (i := 3) rfl)
theorem q_604 : (Cond.code yX5_takes cX5_takes 3 (some .boolean) : Cond) ∈ bw := bi_bwl10 _ (List.mem_of_getElem? (i := 4) rfl)
theorem q_605 : (Cond.methodLink RX5 192 yX5_sign : Cond) ∈ bw := bi_bwl10 _ (List.mem_of_getElem? (i := 5) rfl)
theorem q_606 : (Cond.instanceMethod yX5_sign : Cond) ∈ bw := bi_bwl10 _ (List.mem_of_getElem? (i := 6) rfl)
theorem q_607 : (Cond.selects RX5 yX5_sign yX5_sign : Cond) ∈ bw := bi_bwl10 _ (List.mem_of_getElem? (i := 7) rfl)
theorem q_608 : (Cond.code yX5_readsIdentifier cX5_readsIdentifier 1 (some .boolean) : Cond) ∈ bw := bi_bwl10 _ (List.mem_of_getElem? (i := 8) rfl)
theorem q_609 : (Cond.fieldLink RX5 195 "HeapFileModel" "identifier" "I" : Cond) ∈ bw := bi_bwl10 _ (List.mem_of_getElem? (i := 9) rfl)
theorem q_610 : (Cond.code yX5_readsData cX5_readsData 2 (some .boolean) : Cond) ∈ bw := bi_bwl10 _ (List.mem_of_getElem? (i := 10) rfl)
theorem q_611 : (Cond.fieldLink RX5 198 "HeapFileModel" "order" "I" : Cond) ∈ bw := bi_bwl10 _ (List.mem_of_getElem? (i := 11) rfl)
theorem q_612 : (Cond.methodLink RX5 201 yX5_takes : Cond) ∈ bw := bi_bwl10 _ (List.mem_of_getElem? (i := 12) rfl)
theorem q_613 : (Cond.instanceMethod yX5_takes : Cond) ∈ bw := bi_bwl10 _ (List.mem_of_getElem? (i := 13) rfl)
theorem q_614 : (Cond.selects RX5 yX5_takes yX5_takes : Cond) ∈ bw := bi_bwl10 _ (List.mem_of_getElem? (i := 14) rfl)
theorem q_615 : (Cond.methodLink RX5 204 yX5_readsData : Cond) ∈ bw := bi_bwl10 _ (List.mem_of_getElem? (i := 15) rfl)
theorem q_616 : (Cond.instanceMethod yX5_readsData : Cond) ∈ bw := bi_bwl10 _ (List.mem_of_getElem? (i := 16) rfl)
theorem q_617 : (Cond.selects RX5 yX5_readsData yX5_readsData : Cond) ∈ bw := bi_bwl10 _ (List.mem_of_getElem? (i := 17) rfl)
theorem q_618 : (Cond.methodLink RX5 208 yX5_readsIdentifier : Cond) ∈ bw := bi_bwl10 _ (List.mem_of_getElem? (i := 18) rfl)
theorem q_619 : (Cond.instanceMethod yX5_readsIdentifier : Cond) ∈ bw := bi_bwl10 _ (List.mem_of_getElem? (i := 19) rfl)
theorem q_620 : (Cond.selects RX5 yX5_readsIdentifier yX5_readsIdentifier : Cond) ∈ bw := bi_bwl10 _ (List.mem_of_getElem? (i := 20) rfl)
theorem q_621 : (Cond.code yX5_readsOrder cX5_readsOrder 1 (some .boolean) : Cond) ∈ bw := bi_bwl10 _ (List.mem_of_getElem? (i := 21) rfl)
theorem q_622 : (Cond.methodLink RX5 211 yX5_readsOrder : Cond) ∈ bw := bi_bwl10 _ (List.mem_of_getElem? (i := 22) rfl)
theorem q_623 : (Cond.instanceMethod yX5_readsOrder : Cond) ∈ bw := bi_bwl10 _ (List.mem_of_getElem? (i := 23) rfl)
theorem q_624 : (Cond.selects RX5 yX5_readsOrder yX5_readsOrder : Cond) ∈ bw := bi_bwl10 _ (List.mem_of_getElem? (i := 24) rfl)
theorem q_625 : (Cond.code yX5_isComplete cX5_isComplete 1 (some .boolean) : Cond) ∈ bw := bi_bwl10 _ (List.mem_of_getElem? (i := 25) rfl)
theorem q_626 : (Cond.methodLink RX5 214 yX5_isComplete : Cond) ∈ bw := bi_bwl10 _ (List.mem_of_getElem? (i := 26) rfl)
theorem q_627 : (Cond.instanceMethod yX5_isComplete : Cond) ∈ bw := bi_bwl10 _ (List.mem_of_getElem? (i := 27) rfl)
theorem q_628 : (Cond.selects RX5 yX5_isComplete yX5_isComplete : Cond) ∈ bw := bi_bwl10 _ (List.mem_of_getElem? (i := 28) rfl)
theorem q_629 : (Cond.code yX5_firstError cX5_firstError 1 (some .int) : Cond) ∈ bw := bi_bwl10 _ (List.mem_of_getElem? (i := 29) rfl)
theorem q_630 : (Cond.code yX5_can cX5_can 1 (some .boolean) : Cond) ∈ bw := bi_bwl10 _ (List.mem_of_getElem? (i := 30) rfl)
theorem q_631 : (Cond.code yX5_does cX5_does 1 (some .int) : Cond) ∈ bw := bi_bwl10 _ (List.mem_of_getElem? (i := 31) rfl)
theorem q_632 : (Cond.methodLink RX5 217 yX5_can : Cond) ∈ bw := bi_bwl10 _ (List.mem_of_getElem? (i := 32) rfl)
theorem q_633 : (Cond.instanceMethod yX5_can : Cond) ∈ bw := bi_bwl10 _ (List.mem_of_getElem? (i := 33) rfl)
theorem q_634 : (Cond.selects RX5 yX5_can yX5_can : Cond) ∈ bw := bi_bwl10 _ (List.mem_of_getElem? (i := 34) rfl)
theorem q_635 : (Cond.methodLink RX5 220 yX5_does : Cond) ∈ bw := bi_bwl10 _ (List.mem_of_getElem? (i := 35) rfl)
theorem q_636 : (Cond.instanceMethod yX5_does : Cond) ∈ bw := bi_bwl10 _ (List.mem_of_getElem? (i := 36) rfl)
theorem q_637 : (Cond.selects RX5 yX5_does yX5_does : Cond) ∈ bw := bi_bwl10 _ (List.mem_of_getElem? (i := 37) rfl)
theorem q_638 : (Cond.code yX5_run cX5_run 2 (some .int) : Cond) ∈ bw := bi_bwl10 _ (List.mem_of_getElem? (i := 38) rfl)
theorem q_639 : (Cond.code yX5_undo cX5_undo 1 (some .int) : Cond) ∈ bw := bi_bwl10 _ (List.mem_of_getElem? (i := 39) rfl)
theorem q_640 : (Cond.code yX5_savedStates cX5_savedStates 1 (some .int) : Cond) ∈ bw := bi_bwl10 _ (List.mem_of_getElem? (i := 40) rfl)
theorem q_641 : (Cond.code yX5_mix cX5_mix 3 none : Cond) ∈ bw := bi_bwl10 _ (List.mem_of_getElem? (i := 41) rfl)
theorem q_642 : (Cond.constantLong RX5 223 (31) : Cond) ∈ bw := bi_bwl10 _ (List.mem_of_getElem? (i := 42) rfl)
theorem q_643 : (Cond.fieldLink RX5 225 "HeapFileModel" "hash" "J" : Cond) ∈ bw := bi_bwl10 _ (List.mem_of_getElem? (i := 43) rfl)
theorem q_644 : (Cond.code yX5_bits cX5_bits 3 (some .int) : Cond) ∈ bw := bi_bwl10 _ (List.mem_of_getElem? (i := 44) rfl)
theorem q_645 : (Cond.constant RX5 229 (8388608) : Cond) ∈ bw := bi_bwl10 _ (List.mem_of_getElem? (i := 45) rfl)
theorem q_646 : (Cond.constantFloat RX5 230 (1258291200) : Cond) ∈ bw := bi_bwl10 _ (List.mem_of_getElem? (i := 46) rfl)
theorem q_647 : (Cond.constantLong RX5 231 (4436) : Cond) ∈ bw := bi_bwl10 _ (List.mem_of_getElem? (i := 47) rfl)
theorem q_648 : (Cond.methodLink RX5 233 yX5_mix : Cond) ∈ bw := bi_bwl10 _ (List.mem_of_getElem? (i := 48) rfl)
theorem q_649 : (Cond.instanceMethod yX5_mix : Cond) ∈ bw := bi_bwl10 _ (List.mem_of_getElem? (i := 49) rfl)
theorem q_650 : (Cond.selects RX5 yX5_mix yX5_mix : Cond) ∈ bw := bi_bwl10 _ (List.mem_of_getElem? (i := 50) rfl)
theorem q_651 : (Cond.methodLink RX5 237 yX5_bits : Cond) ∈ bw := bi_bwl10 _ (List.mem_of_getElem? (i := 51) rfl)
theorem q_652 : (Cond.static yX5_bits : Cond) ∈ bw := bi_bwl10 _ (List.mem_of_getElem? (i := 52) rfl)
theorem q_653 : (Cond.code yX5_digest cX5_digest 3 (some .long) : Cond) ∈ bw := bi_bwl10 _ (List.mem_of_getElem? (i := 53) rfl)
theorem bg_0 : (bwl0).all goodWord = true := by decide +kernel
theorem bg_1 : (bwl1).all goodWord = true := by decide +kernel
theorem bg_2 : (bwl2).all goodWord = true := by decide +kernel
theorem bg_3 : (bwl3).all goodWord = true := by decide +kernel
theorem bg_4 : (bwl4).all goodWord = true := by decide +kernel
theorem bg_5 : (bwl5).all goodWord = true := by decide +kernel
theorem bg_6 : (bwl6).all goodWord = true := by decide +kernel
theorem bg_7 : (bwl7).all goodWord = true := by decide +kernel
theorem bg_8 : (bwl8).all goodWord = true := by decide +kernel
theorem bg_9 : (bwl9).all goodWord = true := by decide +kernel
theorem bg_10 : (bwl10).all goodWord = true := by decide +kernel
theorem bg_11 : (wsX00).all goodWord = true := by decide +kernel
theorem bg_12 : (wsX10).all goodWord = true := by decide +kernel
theorem bg_13 : (wsX20).all goodWord = true := by decide +kernel
theorem bg_14 : (wsX30).all goodWord = true := by decide +kernel
theorem bg_15 : (wsX40).all goodWord = true := by decide +kernel
theorem bg_16 : (wsX50).all goodWord = true := by decide +kernel
theorem bg_17 : ((vx_atS RX4 65 "java/lang/IllegalArgumentException" ["java/lang/RuntimeException", "java/lang/Exception"]).filter goodWord).all goodWord = true := by exact List.all_eq_true.mpr (fun w h => (List.mem_filter.mp h).2)
theorem bg_18 : ((vx_atS RX4 74 "java/lang/IllegalStateException" ["java/lang/RuntimeException", "java/lang/Exception"]).filter goodWord).all goodWord = true := by exact List.all_eq_true.mpr (fun w h => (List.mem_filter.mp h).2)
theorem bg_19 : ((vx_atS RX4 139 "java/lang/IndexOutOfBoundsException" ["java/lang/RuntimeException", "java/lang/Exception"]).filter goodWord).all goodWord = true := by exact List.all_eq_true.mpr (fun w h => (List.mem_filter.mp h).2)
theorem bwGood : bw.all goodWord = true := by
  simp only [bw, List.all_append, Bool.and_eq_true]
  exact ⟨bg_0, ⟨bg_1, ⟨bg_2, ⟨bg_3, ⟨bg_4, ⟨bg_5, ⟨bg_6, ⟨bg_7, ⟨bg_8, ⟨bg_9, ⟨bg_10, ⟨bg_11, ⟨bg_12, ⟨bg_13, ⟨bg_14, ⟨bg_15, ⟨bg_16, ⟨bg_17, ⟨bg_18, bg_19⟩⟩⟩⟩⟩⟩⟩⟩⟩⟩⟩⟩⟩⟩⟩⟩⟩⟩⟩
end
section
theorem dX0_init_0 : decode cX0_init 0 = .ok (.aload_n 0, 1) := by decide +kernel
theorem dX0_init_1 : decode cX0_init 1 = .ok (.invokespecial 1, 3) := by decide +kernel
theorem dX0_init_4 : decode cX0_init 4 = .ok (.aload_n 0, 1) := by decide +kernel
theorem dX0_init_5 : decode cX0_init 5 = .ok (.iconst 0, 1) := by decide +kernel
theorem dX0_init_6 : decode cX0_init 6 = .ok (.iload_n 1, 1) := by decide +kernel
theorem dX0_init_7 : decode cX0_init 7 = .ok (.invokestatic 7, 3) := by decide +kernel
theorem dX0_init_10 : decode cX0_init 10 = .ok (.newarray .int, 2) := by decide +kernel
theorem dX0_init_12 : decode cX0_init 12 = .ok (.putfield 13, 3) := by decide +kernel
theorem dX0_init_15 : decode cX0_init 15 = .ok (.return_, 1) := by decide +kernel
theorem dX0_at_0 : decode cX0_at 0 = .ok (.iload_n 1, 1) := by decide +kernel
theorem dX0_at_1 : decode cX0_at 1 = .ok (.ifCond .lt 29, 3) := by decide +kernel
theorem dX0_at_4 : decode cX0_at 4 = .ok (.iload_n 1, 1) := by decide +kernel
theorem dX0_at_5 : decode cX0_at 5 = .ok (.aload_n 0, 1) := by decide +kernel
theorem dX0_at_6 : decode cX0_at 6 = .ok (.getfield 19, 3) := by decide +kernel
theorem dX0_at_9 : decode cX0_at 9 = .ok (.if_icmp .ge 21, 3) := by decide +kernel
theorem dX0_at_12 : decode cX0_at 12 = .ok (.iload_n 1, 1) := by decide +kernel
theorem dX0_at_13 : decode cX0_at 13 = .ok (.aload_n 0, 1) := by decide +kernel
theorem dX0_at_14 : decode cX0_at 14 = .ok (.getfield 13, 3) := by decide +kernel
theorem dX0_at_17 : decode cX0_at 17 = .ok (.arraylength, 1) := by decide +kernel
theorem dX0_at_18 : decode cX0_at 18 = .ok (.if_icmp .ge 12, 3) := by decide +kernel
theorem dX0_at_21 : decode cX0_at 21 = .ok (.aload_n 0, 1) := by decide +kernel
theorem dX0_at_22 : decode cX0_at 22 = .ok (.getfield 13, 3) := by decide +kernel
theorem dX0_at_25 : decode cX0_at 25 = .ok (.iload_n 1, 1) := by decide +kernel
theorem dX0_at_26 : decode cX0_at 26 = .ok (.iaload, 1) := by decide +kernel
theorem dX0_at_27 : decode cX0_at 27 = .ok (.goto 4, 3) := by decide +kernel
theorem dX0_at_30 : decode cX0_at 30 = .ok (.iconst 0, 1) := by decide +kernel
theorem dX0_at_31 : decode cX0_at 31 = .ok (.ireturn, 1) := by decide +kernel
theorem dX0_add_0 : decode cX0_add 0 = .ok (.aload_n 0, 1) := by decide +kernel
theorem dX0_add_1 : decode cX0_add 1 = .ok (.getfield 19, 3) := by decide +kernel
theorem dX0_add_4 : decode cX0_add 4 = .ok (.ifCond .lt 35, 3) := by decide +kernel
theorem dX0_add_7 : decode cX0_add 7 = .ok (.aload_n 0, 1) := by decide +kernel
theorem dX0_add_8 : decode cX0_add 8 = .ok (.getfield 19, 3) := by decide +kernel
theorem dX0_add_11 : decode cX0_add 11 = .ok (.aload_n 0, 1) := by decide +kernel
theorem dX0_add_12 : decode cX0_add 12 = .ok (.getfield 13, 3) := by decide +kernel
theorem dX0_add_15 : decode cX0_add 15 = .ok (.arraylength, 1) := by decide +kernel
theorem dX0_add_16 : decode cX0_add 16 = .ok (.if_icmp .ge 23, 3) := by decide +kernel
theorem dX0_add_19 : decode cX0_add 19 = .ok (.aload_n 0, 1) := by decide +kernel
theorem dX0_add_20 : decode cX0_add 20 = .ok (.getfield 13, 3) := by decide +kernel
theorem dX0_add_23 : decode cX0_add 23 = .ok (.aload_n 0, 1) := by decide +kernel
theorem dX0_add_24 : decode cX0_add 24 = .ok (.getfield 19, 3) := by decide +kernel
theorem dX0_add_27 : decode cX0_add 27 = .ok (.iload_n 1, 1) := by decide +kernel
theorem dX0_add_28 : decode cX0_add 28 = .ok (.iastore, 1) := by decide +kernel
theorem dX0_add_29 : decode cX0_add 29 = .ok (.aload_n 0, 1) := by decide +kernel
theorem dX0_add_30 : decode cX0_add 30 = .ok (.dup, 1) := by decide +kernel
theorem dX0_add_31 : decode cX0_add 31 = .ok (.getfield 19, 3) := by decide +kernel
theorem dX0_add_34 : decode cX0_add 34 = .ok (.iconst 1, 1) := by decide +kernel
theorem dX0_add_35 : decode cX0_add 35 = .ok (.iadd, 1) := by decide +kernel
theorem dX0_add_36 : decode cX0_add 36 = .ok (.putfield 19, 3) := by decide +kernel
theorem dX0_add_39 : decode cX0_add 39 = .ok (.return_, 1) := by decide +kernel
theorem dX0_addAll_0 : decode cX0_addAll 0 = .ok (.iconst 0, 1) := by decide +kernel
theorem dX0_addAll_1 : decode cX0_addAll 1 = .ok (.istore_n 2, 1) := by decide +kernel
theorem dX0_addAll_2 : decode cX0_addAll 2 = .ok (.iload_n 2, 1) := by decide +kernel
theorem dX0_addAll_3 : decode cX0_addAll 3 = .ok (.aload_n 1, 1) := by decide +kernel
theorem dX0_addAll_4 : decode cX0_addAll 4 = .ok (.getfield 19, 3) := by decide +kernel
theorem dX0_addAll_7 : decode cX0_addAll 7 = .ok (.if_icmp .ge 18, 3) := by decide +kernel
theorem dX0_addAll_10 : decode cX0_addAll 10 = .ok (.aload_n 0, 1) := by decide +kernel
theorem dX0_addAll_11 : decode cX0_addAll 11 = .ok (.aload_n 1, 1) := by decide +kernel
theorem dX0_addAll_12 : decode cX0_addAll 12 = .ok (.iload_n 2, 1) := by decide +kernel
theorem dX0_addAll_13 : decode cX0_addAll 13 = .ok (.invokevirtual 23, 3) := by decide +kernel
theorem dX0_addAll_16 : decode cX0_addAll 16 = .ok (.invokevirtual 27, 3) := by decide +kernel
theorem dX0_addAll_19 : decode cX0_addAll 19 = .ok (.iinc 2 1, 3) := by decide +kernel
theorem dX0_addAll_22 : decode cX0_addAll 22 = .ok (.goto (-20), 3) := by decide +kernel
theorem dX0_addAll_25 : decode cX0_addAll 25 = .ok (.return_, 1) := by decide +kernel
theorem dX0_empty_0 : decode cX0_empty 0 = .ok (.aload_n 0, 1) := by decide +kernel
theorem dX0_empty_1 : decode cX0_empty 1 = .ok (.iconst 0, 1) := by decide +kernel
theorem dX0_empty_2 : decode cX0_empty 2 = .ok (.putfield 19, 3) := by decide +kernel
theorem dX0_empty_5 : decode cX0_empty 5 = .ok (.return_, 1) := by decide +kernel
theorem dX0_takePart_0 : decode cX0_takePart 0 = .ok (.aload_n 0, 1) := by decide +kernel
theorem dX0_takePart_1 : decode cX0_takePart 1 = .ok (.invokevirtual 31, 3) := by decide +kernel
theorem dX0_takePart_4 : decode cX0_takePart 4 = .ok (.iload_n 2, 1) := by decide +kernel
theorem dX0_takePart_5 : decode cX0_takePart 5 = .ok (.istore 4, 2) := by decide +kernel
theorem dX0_takePart_7 : decode cX0_takePart 7 = .ok (.iload 4, 2) := by decide +kernel
theorem dX0_takePart_9 : decode cX0_takePart 9 = .ok (.iload_n 3, 1) := by decide +kernel
theorem dX0_takePart_10 : decode cX0_takePart 10 = .ok (.if_icmp .ge 19, 3) := by decide +kernel
theorem dX0_takePart_13 : decode cX0_takePart 13 = .ok (.aload_n 0, 1) := by decide +kernel
theorem dX0_takePart_14 : decode cX0_takePart 14 = .ok (.aload_n 1, 1) := by decide +kernel
theorem dX0_takePart_15 : decode cX0_takePart 15 = .ok (.iload 4, 2) := by decide +kernel
theorem dX0_takePart_17 : decode cX0_takePart 17 = .ok (.invokevirtual 23, 3) := by decide +kernel
theorem dX0_takePart_20 : decode cX0_takePart 20 = .ok (.invokevirtual 27, 3) := by decide +kernel
theorem dX0_takePart_23 : decode cX0_takePart 23 = .ok (.iinc 4 1, 3) := by decide +kernel
theorem dX0_takePart_26 : decode cX0_takePart 26 = .ok (.goto (-19), 3) := by decide +kernel
theorem dX0_takePart_29 : decode cX0_takePart 29 = .ok (.return_, 1) := by decide +kernel
theorem dX1_init_0 : decode cX1_init 0 = .ok (.aload_n 0, 1) := by decide +kernel
theorem dX1_init_1 : decode cX1_init 1 = .ok (.invokespecial 1, 3) := by decide +kernel
theorem dX1_init_4 : decode cX1_init 4 = .ok (.return_, 1) := by decide +kernel
theorem dX1_restart_0 : decode cX1_restart 0 = .ok (.aload_n 0, 1) := by decide +kernel
theorem dX1_restart_1 : decode cX1_restart 1 = .ok (.iconst 0, 1) := by decide +kernel
theorem dX1_restart_2 : decode cX1_restart 2 = .ok (.invokevirtual 9, 3) := by decide +kernel
theorem dX1_restart_5 : decode cX1_restart 5 = .ok (.pop, 1) := by decide +kernel
theorem dX1_restart_6 : decode cX1_restart 6 = .ok (.return_, 1) := by decide +kernel
theorem dX1_mayEnd_0 : decode cX1_mayEnd 0 = .ok (.aload_n 0, 1) := by decide +kernel
theorem dX1_mayEnd_1 : decode cX1_mayEnd 1 = .ok (.getfield 13, 3) := by decide +kernel
theorem dX1_mayEnd_4 : decode cX1_mayEnd 4 = .ok (.lookupswitch 54 #[(1, 28), (3, 41)], 28) := by decide +kernel
theorem dX1_mayEnd_32 : decode cX1_mayEnd 32 = .ok (.aload_n 0, 1) := by decide +kernel
theorem dX1_mayEnd_33 : decode cX1_mayEnd 33 = .ok (.getfield 17, 3) := by decide +kernel
theorem dX1_mayEnd_36 : decode cX1_mayEnd 36 = .ok (.ifCond .le 7, 3) := by decide +kernel
theorem dX1_mayEnd_39 : decode cX1_mayEnd 39 = .ok (.iconst 1, 1) := by decide +kernel
theorem dX1_mayEnd_40 : decode cX1_mayEnd 40 = .ok (.goto 4, 3) := by decide +kernel
theorem dX1_mayEnd_43 : decode cX1_mayEnd 43 = .ok (.iconst 0, 1) := by decide +kernel
theorem dX1_mayEnd_44 : decode cX1_mayEnd 44 = .ok (.ireturn, 1) := by decide +kernel
theorem dX1_mayEnd_45 : decode cX1_mayEnd 45 = .ok (.aload_n 0, 1) := by decide +kernel
theorem dX1_mayEnd_46 : decode cX1_mayEnd 46 = .ok (.getfield 20, 3) := by decide +kernel
theorem dX1_mayEnd_49 : decode cX1_mayEnd 49 = .ok (.ifCond .le 7, 3) := by decide +kernel
theorem dX1_mayEnd_52 : decode cX1_mayEnd 52 = .ok (.iconst 1, 1) := by decide +kernel
theorem dX1_mayEnd_53 : decode cX1_mayEnd 53 = .ok (.goto 4, 3) := by decide +kernel
theorem dX1_mayEnd_56 : decode cX1_mayEnd 56 = .ok (.iconst 0, 1) := by decide +kernel
theorem dX1_mayEnd_57 : decode cX1_mayEnd 57 = .ok (.ireturn, 1) := by decide +kernel
theorem dX1_mayEnd_58 : decode cX1_mayEnd 58 = .ok (.aload_n 0, 1) := by decide +kernel
theorem dX1_mayEnd_59 : decode cX1_mayEnd 59 = .ok (.getfield 13, 3) := by decide +kernel
theorem dX1_mayEnd_62 : decode cX1_mayEnd 62 = .ok (.iconst 4, 1) := by decide +kernel
theorem dX1_mayEnd_63 : decode cX1_mayEnd 63 = .ok (.if_icmp .ne 7, 3) := by decide +kernel
theorem dX1_mayEnd_66 : decode cX1_mayEnd 66 = .ok (.iconst 1, 1) := by decide +kernel
theorem dX1_mayEnd_67 : decode cX1_mayEnd 67 = .ok (.goto 4, 3) := by decide +kernel
theorem dX1_mayEnd_70 : decode cX1_mayEnd 70 = .ok (.iconst 0, 1) := by decide +kernel
theorem dX1_mayEnd_71 : decode cX1_mayEnd 71 = .ok (.ireturn, 1) := by decide +kernel
theorem dX1_accepts_0 : decode cX1_accepts 0 = .ok (.iload_n 1, 1) := by decide +kernel
theorem dX1_accepts_1 : decode cX1_accepts 1 = .ok (.bipush 59, 2) := by decide +kernel
theorem dX1_accepts_3 : decode cX1_accepts 3 = .ok (.if_icmp .ne 24, 3) := by decide +kernel
theorem dX1_accepts_6 : decode cX1_accepts 6 = .ok (.aload_n 0, 1) := by decide +kernel
theorem dX1_accepts_7 : decode cX1_accepts 7 = .ok (.invokevirtual 23, 3) := by decide +kernel
theorem dX1_accepts_10 : decode cX1_accepts 10 = .ok (.ifCond .eq 15, 3) := by decide +kernel
theorem dX1_accepts_13 : decode cX1_accepts 13 = .ok (.aload_n 0, 1) := by decide +kernel
theorem dX1_accepts_14 : decode cX1_accepts 14 = .ok (.iconst 0, 1) := by decide +kernel
theorem dX1_accepts_15 : decode cX1_accepts 15 = .ok (.invokevirtual 9, 3) := by decide +kernel
theorem dX1_accepts_18 : decode cX1_accepts 18 = .ok (.ifCond .eq 7, 3) := by decide +kernel
theorem dX1_accepts_21 : decode cX1_accepts 21 = .ok (.iconst 1, 1) := by decide +kernel
theorem dX1_accepts_22 : decode cX1_accepts 22 = .ok (.goto 4, 3) := by decide +kernel
theorem dX1_accepts_25 : decode cX1_accepts 25 = .ok (.iconst 0, 1) := by decide +kernel
theorem dX1_accepts_26 : decode cX1_accepts 26 = .ok (.ireturn, 1) := by decide +kernel
theorem dX1_accepts_27 : decode cX1_accepts 27 = .ok (.aload_n 0, 1) := by decide +kernel
theorem dX1_accepts_28 : decode cX1_accepts 28 = .ok (.getfield 13, 3) := by decide +kernel
theorem dX1_accepts_31 : decode cX1_accepts 31 = .ok (.tableswitch 82 0 3 #[29, 35, 41, 76], 29) := by decide +kernel
theorem dX1_accepts_60 : decode cX1_accepts 60 = .ok (.aload_n 0, 1) := by decide +kernel
theorem dX1_accepts_61 : decode cX1_accepts 61 = .ok (.iload_n 1, 1) := by decide +kernel
theorem dX1_accepts_62 : decode cX1_accepts 62 = .ok (.invokevirtual 27, 3) := by decide +kernel
theorem dX1_accepts_65 : decode cX1_accepts 65 = .ok (.ireturn, 1) := by decide +kernel
theorem dX1_accepts_66 : decode cX1_accepts 66 = .ok (.aload_n 0, 1) := by decide +kernel
theorem dX1_accepts_67 : decode cX1_accepts 67 = .ok (.iload_n 1, 1) := by decide +kernel
theorem dX1_accepts_68 : decode cX1_accepts 68 = .ok (.invokevirtual 30, 3) := by decide +kernel
theorem dX1_accepts_71 : decode cX1_accepts 71 = .ok (.ireturn, 1) := by decide +kernel
theorem dX1_accepts_72 : decode cX1_accepts 72 = .ok (.iload_n 1, 1) := by decide +kernel
theorem dX1_accepts_73 : decode cX1_accepts 73 = .ok (.bipush 58, 2) := by decide +kernel
theorem dX1_accepts_75 : decode cX1_accepts 75 = .ok (.if_icmp .ne 26, 3) := by decide +kernel
theorem dX1_accepts_78 : decode cX1_accepts 78 = .ok (.aload_n 0, 1) := by decide +kernel
theorem dX1_accepts_79 : decode cX1_accepts 79 = .ok (.getfield 20, 3) := by decide +kernel
theorem dX1_accepts_82 : decode cX1_accepts 82 = .ok (.ifCond .le 15, 3) := by decide +kernel
theorem dX1_accepts_85 : decode cX1_accepts 85 = .ok (.aload_n 0, 1) := by decide +kernel
theorem dX1_accepts_86 : decode cX1_accepts 86 = .ok (.iconst 1, 1) := by decide +kernel
theorem dX1_accepts_87 : decode cX1_accepts 87 = .ok (.invokevirtual 9, 3) := by decide +kernel
theorem dX1_accepts_90 : decode cX1_accepts 90 = .ok (.ifCond .eq 7, 3) := by decide +kernel
theorem dX1_accepts_93 : decode cX1_accepts 93 = .ok (.iconst 1, 1) := by decide +kernel
theorem dX1_accepts_94 : decode cX1_accepts 94 = .ok (.goto 12, 3) := by decide +kernel
theorem dX1_accepts_97 : decode cX1_accepts 97 = .ok (.iconst 0, 1) := by decide +kernel
theorem dX1_accepts_98 : decode cX1_accepts 98 = .ok (.goto 8, 3) := by decide +kernel
theorem dX1_accepts_101 : decode cX1_accepts 101 = .ok (.aload_n 0, 1) := by decide +kernel
theorem dX1_accepts_102 : decode cX1_accepts 102 = .ok (.iload_n 1, 1) := by decide +kernel
theorem dX1_accepts_103 : decode cX1_accepts 103 = .ok (.invokevirtual 33, 3) := by decide +kernel
theorem dX1_accepts_106 : decode cX1_accepts 106 = .ok (.ireturn, 1) := by decide +kernel
theorem dX1_accepts_107 : decode cX1_accepts 107 = .ok (.aload_n 0, 1) := by decide +kernel
theorem dX1_accepts_108 : decode cX1_accepts 108 = .ok (.iload_n 1, 1) := by decide +kernel
theorem dX1_accepts_109 : decode cX1_accepts 109 = .ok (.invokevirtual 33, 3) := by decide +kernel
theorem dX1_accepts_112 : decode cX1_accepts 112 = .ok (.ireturn, 1) := by decide +kernel
theorem dX1_accepts_113 : decode cX1_accepts 113 = .ok (.iconst 0, 1) := by decide +kernel
theorem dX1_accepts_114 : decode cX1_accepts 114 = .ok (.ireturn, 1) := by decide +kernel
theorem dX1_acceptsFirst_0 : decode cX1_acceptsFirst 0 = .ok (.iload_n 1, 1) := by decide +kernel
theorem dX1_acceptsFirst_1 : decode cX1_acceptsFirst 1 = .ok (.lookupswitch 67 #[(43, 43), (45, 55), (61, 49), (94, 61)], 43) := by decide +kernel
theorem dX1_acceptsFirst_44 : decode cX1_acceptsFirst 44 = .ok (.aload_n 0, 1) := by decide +kernel
theorem dX1_acceptsFirst_45 : decode cX1_acceptsFirst 45 = .ok (.iconst 1, 1) := by decide +kernel
theorem dX1_acceptsFirst_46 : decode cX1_acceptsFirst 46 = .ok (.invokevirtual 9, 3) := by decide +kernel
theorem dX1_acceptsFirst_49 : decode cX1_acceptsFirst 49 = .ok (.ireturn, 1) := by decide +kernel
theorem dX1_acceptsFirst_50 : decode cX1_acceptsFirst 50 = .ok (.aload_n 0, 1) := by decide +kernel
theorem dX1_acceptsFirst_51 : decode cX1_acceptsFirst 51 = .ok (.iconst 2, 1) := by decide +kernel
theorem dX1_acceptsFirst_52 : decode cX1_acceptsFirst 52 = .ok (.invokevirtual 9, 3) := by decide +kernel
theorem dX1_acceptsFirst_55 : decode cX1_acceptsFirst 55 = .ok (.ireturn, 1) := by decide +kernel
theorem dX1_acceptsFirst_56 : decode cX1_acceptsFirst 56 = .ok (.aload_n 0, 1) := by decide +kernel
theorem dX1_acceptsFirst_57 : decode cX1_acceptsFirst 57 = .ok (.iconst 3, 1) := by decide +kernel
theorem dX1_acceptsFirst_58 : decode cX1_acceptsFirst 58 = .ok (.invokevirtual 9, 3) := by decide +kernel
theorem dX1_acceptsFirst_61 : decode cX1_acceptsFirst 61 = .ok (.ireturn, 1) := by decide +kernel
theorem dX1_acceptsFirst_62 : decode cX1_acceptsFirst 62 = .ok (.aload_n 0, 1) := by decide +kernel
theorem dX1_acceptsFirst_63 : decode cX1_acceptsFirst 63 = .ok (.iconst 4, 1) := by decide +kernel
theorem dX1_acceptsFirst_64 : decode cX1_acceptsFirst 64 = .ok (.invokevirtual 9, 3) := by decide +kernel
theorem dX1_acceptsFirst_67 : decode cX1_acceptsFirst 67 = .ok (.ireturn, 1) := by decide +kernel
theorem dX1_acceptsFirst_68 : decode cX1_acceptsFirst 68 = .ok (.iconst 0, 1) := by decide +kernel
theorem dX1_acceptsFirst_69 : decode cX1_acceptsFirst 69 = .ok (.ireturn, 1) := by decide +kernel
theorem dX1_acceptsLetter_0 : decode cX1_acceptsLetter 0 = .ok (.aload_n 0, 1) := by decide +kernel
theorem dX1_acceptsLetter_1 : decode cX1_acceptsLetter 1 = .ok (.dup, 1) := by decide +kernel
theorem dX1_acceptsLetter_2 : decode cX1_acceptsLetter 2 = .ok (.getfield 17, 3) := by decide +kernel
theorem dX1_acceptsLetter_5 : decode cX1_acceptsLetter 5 = .ok (.iconst 1, 1) := by decide +kernel
theorem dX1_acceptsLetter_6 : decode cX1_acceptsLetter 6 = .ok (.iadd, 1) := by decide +kernel
theorem dX1_acceptsLetter_7 : decode cX1_acceptsLetter 7 = .ok (.putfield 17, 3) := by decide +kernel
theorem dX1_acceptsLetter_10 : decode cX1_acceptsLetter 10 = .ok (.iload_n 1, 1) := by decide +kernel
theorem dX1_acceptsLetter_11 : decode cX1_acceptsLetter 11 = .ok (.bipush 97, 2) := by decide +kernel
theorem dX1_acceptsLetter_13 : decode cX1_acceptsLetter 13 = .ok (.if_icmp .lt 22, 3) := by decide +kernel
theorem dX1_acceptsLetter_16 : decode cX1_acceptsLetter 16 = .ok (.iload_n 1, 1) := by decide +kernel
theorem dX1_acceptsLetter_17 : decode cX1_acceptsLetter 17 = .ok (.bipush 122, 2) := by decide +kernel
theorem dX1_acceptsLetter_19 : decode cX1_acceptsLetter 19 = .ok (.if_icmp .gt 16, 3) := by decide +kernel
theorem dX1_acceptsLetter_22 : decode cX1_acceptsLetter 22 = .ok (.aload_n 0, 1) := by decide +kernel
theorem dX1_acceptsLetter_23 : decode cX1_acceptsLetter 23 = .ok (.getfield 17, 3) := by decide +kernel
theorem dX1_acceptsLetter_26 : decode cX1_acceptsLetter 26 = .ok (.bipush 40, 2) := by decide +kernel
theorem dX1_acceptsLetter_28 : decode cX1_acceptsLetter 28 = .ok (.if_icmp .gt 7, 3) := by decide +kernel
theorem dX1_acceptsLetter_31 : decode cX1_acceptsLetter 31 = .ok (.iconst 1, 1) := by decide +kernel
theorem dX1_acceptsLetter_32 : decode cX1_acceptsLetter 32 = .ok (.goto 4, 3) := by decide +kernel
theorem dX1_acceptsLetter_35 : decode cX1_acceptsLetter 35 = .ok (.iconst 0, 1) := by decide +kernel
theorem dX1_acceptsLetter_36 : decode cX1_acceptsLetter 36 = .ok (.ireturn, 1) := by decide +kernel
theorem dX1_acceptsDigit_0 : decode cX1_acceptsDigit 0 = .ok (.iload_n 1, 1) := by decide +kernel
theorem dX1_acceptsDigit_1 : decode cX1_acceptsDigit 1 = .ok (.bipush 48, 2) := by decide +kernel
theorem dX1_acceptsDigit_3 : decode cX1_acceptsDigit 3 = .ok (.if_icmp .lt 23, 3) := by decide +kernel
theorem dX1_acceptsDigit_6 : decode cX1_acceptsDigit 6 = .ok (.iload_n 1, 1) := by decide +kernel
theorem dX1_acceptsDigit_7 : decode cX1_acceptsDigit 7 = .ok (.bipush 57, 2) := by decide +kernel
theorem dX1_acceptsDigit_9 : decode cX1_acceptsDigit 9 = .ok (.if_icmp .gt 17, 3) := by decide +kernel
theorem dX1_acceptsDigit_12 : decode cX1_acceptsDigit 12 = .ok (.aload_n 0, 1) := by decide +kernel
theorem dX1_acceptsDigit_13 : decode cX1_acceptsDigit 13 = .ok (.getfield 20, 3) := by decide +kernel
theorem dX1_acceptsDigit_16 : decode cX1_acceptsDigit 16 = .ok (.ifCond .le 12, 3) := by decide +kernel
theorem dX1_acceptsDigit_19 : decode cX1_acceptsDigit 19 = .ok (.aload_n 0, 1) := by decide +kernel
theorem dX1_acceptsDigit_20 : decode cX1_acceptsDigit 20 = .ok (.getfield 36, 3) := by decide +kernel
theorem dX1_acceptsDigit_23 : decode cX1_acceptsDigit 23 = .ok (.ifCond .ne 5, 3) := by decide +kernel
theorem dX1_acceptsDigit_26 : decode cX1_acceptsDigit 26 = .ok (.iconst 0, 1) := by decide +kernel
theorem dX1_acceptsDigit_27 : decode cX1_acceptsDigit 27 = .ok (.ireturn, 1) := by decide +kernel
theorem dX1_acceptsDigit_28 : decode cX1_acceptsDigit 28 = .ok (.aload_n 0, 1) := by decide +kernel
theorem dX1_acceptsDigit_29 : decode cX1_acceptsDigit 29 = .ok (.dup, 1) := by decide +kernel
theorem dX1_acceptsDigit_30 : decode cX1_acceptsDigit 30 = .ok (.getfield 20, 3) := by decide +kernel
theorem dX1_acceptsDigit_33 : decode cX1_acceptsDigit 33 = .ok (.iconst 1, 1) := by decide +kernel
theorem dX1_acceptsDigit_34 : decode cX1_acceptsDigit 34 = .ok (.iadd, 1) := by decide +kernel
theorem dX1_acceptsDigit_35 : decode cX1_acceptsDigit 35 = .ok (.putfield 20, 3) := by decide +kernel
theorem dX1_acceptsDigit_38 : decode cX1_acceptsDigit 38 = .ok (.aload_n 0, 1) := by decide +kernel
theorem dX1_acceptsDigit_39 : decode cX1_acceptsDigit 39 = .ok (.bipush 10, 2) := by decide +kernel
theorem dX1_acceptsDigit_41 : decode cX1_acceptsDigit 41 = .ok (.aload_n 0, 1) := by decide +kernel
theorem dX1_acceptsDigit_42 : decode cX1_acceptsDigit 42 = .ok (.getfield 36, 3) := by decide +kernel
theorem dX1_acceptsDigit_45 : decode cX1_acceptsDigit 45 = .ok (.imul, 1) := by decide +kernel
theorem dX1_acceptsDigit_46 : decode cX1_acceptsDigit 46 = .ok (.iload_n 1, 1) := by decide +kernel
theorem dX1_acceptsDigit_47 : decode cX1_acceptsDigit 47 = .ok (.iadd, 1) := by decide +kernel
theorem dX1_acceptsDigit_48 : decode cX1_acceptsDigit 48 = .ok (.bipush 48, 2) := by decide +kernel
theorem dX1_acceptsDigit_50 : decode cX1_acceptsDigit 50 = .ok (.isub, 1) := by decide +kernel
theorem dX1_acceptsDigit_51 : decode cX1_acceptsDigit 51 = .ok (.putfield 36, 3) := by decide +kernel
theorem dX1_acceptsDigit_54 : decode cX1_acceptsDigit 54 = .ok (.aload_n 0, 1) := by decide +kernel
theorem dX1_acceptsDigit_55 : decode cX1_acceptsDigit 55 = .ok (.getfield 36, 3) := by decide +kernel
theorem dX1_acceptsDigit_58 : decode cX1_acceptsDigit 58 = .ok (.sipush 799, 3) := by decide +kernel
theorem dX1_acceptsDigit_61 : decode cX1_acceptsDigit 61 = .ok (.if_icmp .gt 7, 3) := by decide +kernel
theorem dX1_acceptsDigit_64 : decode cX1_acceptsDigit 64 = .ok (.iconst 1, 1) := by decide +kernel
theorem dX1_acceptsDigit_65 : decode cX1_acceptsDigit 65 = .ok (.goto 4, 3) := by decide +kernel
theorem dX1_acceptsDigit_68 : decode cX1_acceptsDigit 68 = .ok (.iconst 0, 1) := by decide +kernel
theorem dX1_acceptsDigit_69 : decode cX1_acceptsDigit 69 = .ok (.ireturn, 1) := by decide +kernel
theorem dX1_enter_0 : decode cX1_enter 0 = .ok (.aload_n 0, 1) := by decide +kernel
theorem dX1_enter_1 : decode cX1_enter 1 = .ok (.iload_n 1, 1) := by decide +kernel
theorem dX1_enter_2 : decode cX1_enter 2 = .ok (.putfield 13, 3) := by decide +kernel
theorem dX1_enter_5 : decode cX1_enter 5 = .ok (.aload_n 0, 1) := by decide +kernel
theorem dX1_enter_6 : decode cX1_enter 6 = .ok (.iconst 0, 1) := by decide +kernel
theorem dX1_enter_7 : decode cX1_enter 7 = .ok (.putfield 17, 3) := by decide +kernel
theorem dX1_enter_10 : decode cX1_enter 10 = .ok (.aload_n 0, 1) := by decide +kernel
theorem dX1_enter_11 : decode cX1_enter 11 = .ok (.iconst 0, 1) := by decide +kernel
theorem dX1_enter_12 : decode cX1_enter 12 = .ok (.putfield 20, 3) := by decide +kernel
theorem dX1_enter_15 : decode cX1_enter 15 = .ok (.aload_n 0, 1) := by decide +kernel
theorem dX1_enter_16 : decode cX1_enter 16 = .ok (.iconst 0, 1) := by decide +kernel
theorem dX1_enter_17 : decode cX1_enter 17 = .ok (.putfield 36, 3) := by decide +kernel
theorem dX1_enter_20 : decode cX1_enter 20 = .ok (.iconst 1, 1) := by decide +kernel
theorem dX1_enter_21 : decode cX1_enter 21 = .ok (.ireturn, 1) := by decide +kernel
theorem dX2_init_0 : decode cX2_init 0 = .ok (.aload_n 0, 1) := by decide +kernel
theorem dX2_init_1 : decode cX2_init 1 = .ok (.invokespecial 3, 3) := by decide +kernel
theorem dX2_init_4 : decode cX2_init 4 = .ok (.aload_n 0, 1) := by decide +kernel
theorem dX2_init_5 : decode cX2_init 5 = .ok (.new 9, 3) := by decide +kernel
theorem dX2_init_8 : decode cX2_init 8 = .ok (.dup, 1) := by decide +kernel
theorem dX2_init_9 : decode cX2_init 9 = .ok (.invokespecial 11, 3) := by decide +kernel
theorem dX2_init_12 : decode cX2_init 12 = .ok (.putfield 12, 3) := by decide +kernel
theorem dX2_init_15 : decode cX2_init 15 = .ok (.aload_n 0, 1) := by decide +kernel
theorem dX2_init_16 : decode cX2_init 16 = .ok (.new 18, 3) := by decide +kernel
theorem dX2_init_19 : decode cX2_init 19 = .ok (.dup, 1) := by decide +kernel
theorem dX2_init_20 : decode cX2_init 20 = .ok (.sipush 128, 3) := by decide +kernel
theorem dX2_init_23 : decode cX2_init 23 = .ok (.invokespecial 20, 3) := by decide +kernel
theorem dX2_init_26 : decode cX2_init 26 = .ok (.putfield 23, 3) := by decide +kernel
theorem dX2_init_29 : decode cX2_init 29 = .ok (.return_, 1) := by decide +kernel
theorem dX2_freeBytes_0 : decode cX2_freeBytes 0 = .ok (.aload_n 0, 1) := by decide +kernel
theorem dX2_freeBytes_1 : decode cX2_freeBytes 1 = .ok (.getfield 12, 3) := by decide +kernel
theorem dX2_freeBytes_4 : decode cX2_freeBytes 4 = .ok (.iload_n 1, 1) := by decide +kernel
theorem dX2_freeBytes_5 : decode cX2_freeBytes 5 = .ok (.invokevirtual 27, 3) := by decide +kernel
theorem dX2_freeBytes_8 : decode cX2_freeBytes 8 = .ok (.istore_n 2, 1) := by decide +kernel
theorem dX2_freeBytes_9 : decode cX2_freeBytes 9 = .ok (.sipush 128, 3) := by decide +kernel
theorem dX2_freeBytes_12 : decode cX2_freeBytes 12 = .ok (.iload_n 2, 1) := by decide +kernel
theorem dX2_freeBytes_13 : decode cX2_freeBytes 13 = .ok (.invokestatic 31, 3) := by decide +kernel
theorem dX2_freeBytes_16 : decode cX2_freeBytes 16 = .ok (.isub, 1) := by decide +kernel
theorem dX2_freeBytes_17 : decode cX2_freeBytes 17 = .ok (.istore_n 3, 1) := by decide +kernel
theorem dX2_freeBytes_18 : decode cX2_freeBytes 18 = .ok (.iconst 0, 1) := by decide +kernel
theorem dX2_freeBytes_19 : decode cX2_freeBytes 19 = .ok (.istore 4, 2) := by decide +kernel
theorem dX2_freeBytes_21 : decode cX2_freeBytes 21 = .ok (.iload 4, 2) := by decide +kernel
theorem dX2_freeBytes_23 : decode cX2_freeBytes 23 = .ok (.iload_n 2, 1) := by decide +kernel
theorem dX2_freeBytes_24 : decode cX2_freeBytes 24 = .ok (.if_icmp .ge 22, 3) := by decide +kernel
theorem dX2_freeBytes_27 : decode cX2_freeBytes 27 = .ok (.iload_n 3, 1) := by decide +kernel
theorem dX2_freeBytes_28 : decode cX2_freeBytes 28 = .ok (.aload_n 0, 1) := by decide +kernel
theorem dX2_freeBytes_29 : decode cX2_freeBytes 29 = .ok (.getfield 12, 3) := by decide +kernel
theorem dX2_freeBytes_32 : decode cX2_freeBytes 32 = .ok (.iload_n 1, 1) := by decide +kernel
theorem dX2_freeBytes_33 : decode cX2_freeBytes 33 = .ok (.iload 4, 2) := by decide +kernel
theorem dX2_freeBytes_35 : decode cX2_freeBytes 35 = .ok (.invokevirtual 34, 3) := by decide +kernel
theorem dX2_freeBytes_38 : decode cX2_freeBytes 38 = .ok (.isub, 1) := by decide +kernel
theorem dX2_freeBytes_39 : decode cX2_freeBytes 39 = .ok (.istore_n 3, 1) := by decide +kernel
theorem dX2_freeBytes_40 : decode cX2_freeBytes 40 = .ok (.iinc 4 1, 3) := by decide +kernel
theorem dX2_freeBytes_43 : decode cX2_freeBytes 43 = .ok (.goto (-22), 3) := by decide +kernel
theorem dX2_freeBytes_46 : decode cX2_freeBytes 46 = .ok (.iload_n 3, 1) := by decide +kernel
theorem dX2_freeBytes_47 : decode cX2_freeBytes 47 = .ok (.ireturn, 1) := by decide +kernel
theorem dX2_sizeOfRecords_0 : decode cX2_sizeOfRecords 0 = .ok (.sipush 128, 3) := by decide +kernel
theorem dX2_sizeOfRecords_3 : decode cX2_sizeOfRecords 3 = .ok (.aload_n 0, 1) := by decide +kernel
theorem dX2_sizeOfRecords_4 : decode cX2_sizeOfRecords 4 = .ok (.getfield 12, 3) := by decide +kernel
theorem dX2_sizeOfRecords_7 : decode cX2_sizeOfRecords 7 = .ok (.iload_n 1, 1) := by decide +kernel
theorem dX2_sizeOfRecords_8 : decode cX2_sizeOfRecords 8 = .ok (.invokevirtual 27, 3) := by decide +kernel
theorem dX2_sizeOfRecords_11 : decode cX2_sizeOfRecords 11 = .ok (.invokestatic 31, 3) := by decide +kernel
theorem dX2_sizeOfRecords_14 : decode cX2_sizeOfRecords 14 = .ok (.isub, 1) := by decide +kernel
theorem dX2_sizeOfRecords_15 : decode cX2_sizeOfRecords 15 = .ok (.aload_n 0, 1) := by decide +kernel
theorem dX2_sizeOfRecords_16 : decode cX2_sizeOfRecords 16 = .ok (.iload_n 1, 1) := by decide +kernel
theorem dX2_sizeOfRecords_17 : decode cX2_sizeOfRecords 17 = .ok (.invokevirtual 38, 3) := by decide +kernel
theorem dX2_sizeOfRecords_20 : decode cX2_sizeOfRecords 20 = .ok (.isub, 1) := by decide +kernel
theorem dX2_sizeOfRecords_21 : decode cX2_sizeOfRecords 21 = .ok (.ireturn, 1) := by decide +kernel
theorem dX2_gapWith_0 : decode cX2_gapWith 0 = .ok (.aload_n 0, 1) := by decide +kernel
theorem dX2_gapWith_1 : decode cX2_gapWith 1 = .ok (.getfield 12, 3) := by decide +kernel
theorem dX2_gapWith_4 : decode cX2_gapWith 4 = .ok (.iload_n 1, 1) := by decide +kernel
theorem dX2_gapWith_5 : decode cX2_gapWith 5 = .ok (.iconst 1, 1) := by decide +kernel
theorem dX2_gapWith_6 : decode cX2_gapWith 6 = .ok (.invokevirtual 41, 3) := by decide +kernel
theorem dX2_gapWith_9 : decode cX2_gapWith 9 = .ok (.iload_n 2, 1) := by decide +kernel
theorem dX2_gapWith_10 : decode cX2_gapWith 10 = .ok (.invokestatic 31, 3) := by decide +kernel
theorem dX2_gapWith_13 : decode cX2_gapWith 13 = .ok (.isub, 1) := by decide +kernel
theorem dX2_gapWith_14 : decode cX2_gapWith 14 = .ok (.ireturn, 1) := by decide +kernel
theorem dX2_slotToUse_0 : decode cX2_slotToUse 0 = .ok (.aload_n 0, 1) := by decide +kernel
theorem dX2_slotToUse_1 : decode cX2_slotToUse 1 = .ok (.getfield 12, 3) := by decide +kernel
theorem dX2_slotToUse_4 : decode cX2_slotToUse 4 = .ok (.iload_n 1, 1) := by decide +kernel
theorem dX2_slotToUse_5 : decode cX2_slotToUse 5 = .ok (.invokevirtual 27, 3) := by decide +kernel
theorem dX2_slotToUse_8 : decode cX2_slotToUse 8 = .ok (.istore_n 2, 1) := by decide +kernel
theorem dX2_slotToUse_9 : decode cX2_slotToUse 9 = .ok (.iconst 0, 1) := by decide +kernel
theorem dX2_slotToUse_10 : decode cX2_slotToUse 10 = .ok (.istore_n 3, 1) := by decide +kernel
theorem dX2_slotToUse_11 : decode cX2_slotToUse 11 = .ok (.iload_n 3, 1) := by decide +kernel
theorem dX2_slotToUse_12 : decode cX2_slotToUse 12 = .ok (.iload_n 2, 1) := by decide +kernel
theorem dX2_slotToUse_13 : decode cX2_slotToUse 13 = .ok (.if_icmp .ge 23, 3) := by decide +kernel
theorem dX2_slotToUse_16 : decode cX2_slotToUse 16 = .ok (.aload_n 0, 1) := by decide +kernel
theorem dX2_slotToUse_17 : decode cX2_slotToUse 17 = .ok (.getfield 12, 3) := by decide +kernel
theorem dX2_slotToUse_20 : decode cX2_slotToUse 20 = .ok (.iload_n 1, 1) := by decide +kernel
theorem dX2_slotToUse_21 : decode cX2_slotToUse 21 = .ok (.iload_n 3, 1) := by decide +kernel
theorem dX2_slotToUse_22 : decode cX2_slotToUse 22 = .ok (.invokevirtual 34, 3) := by decide +kernel
theorem dX2_slotToUse_25 : decode cX2_slotToUse 25 = .ok (.ifCond .ne 5, 3) := by decide +kernel
theorem dX2_slotToUse_28 : decode cX2_slotToUse 28 = .ok (.iload_n 3, 1) := by decide +kernel
theorem dX2_slotToUse_29 : decode cX2_slotToUse 29 = .ok (.ireturn, 1) := by decide +kernel
theorem dX2_slotToUse_30 : decode cX2_slotToUse 30 = .ok (.iinc 3 1, 3) := by decide +kernel
theorem dX2_slotToUse_33 : decode cX2_slotToUse 33 = .ok (.goto (-22), 3) := by decide +kernel
theorem dX2_slotToUse_36 : decode cX2_slotToUse 36 = .ok (.iload_n 2, 1) := by decide +kernel
theorem dX2_slotToUse_37 : decode cX2_slotToUse 37 = .ok (.ireturn, 1) := by decide +kernel
theorem dX2_hasRoom_0 : decode cX2_hasRoom 0 = .ok (.aload_n 0, 1) := by decide +kernel
theorem dX2_hasRoom_1 : decode cX2_hasRoom 1 = .ok (.getfield 12, 3) := by decide +kernel
theorem dX2_hasRoom_4 : decode cX2_hasRoom 4 = .ok (.iload_n 1, 1) := by decide +kernel
theorem dX2_hasRoom_5 : decode cX2_hasRoom 5 = .ok (.invokevirtual 27, 3) := by decide +kernel
theorem dX2_hasRoom_8 : decode cX2_hasRoom 8 = .ok (.istore_n 3, 1) := by decide +kernel
theorem dX2_hasRoom_9 : decode cX2_hasRoom 9 = .ok (.aload_n 0, 1) := by decide +kernel
theorem dX2_hasRoom_10 : decode cX2_hasRoom 10 = .ok (.iload_n 1, 1) := by decide +kernel
theorem dX2_hasRoom_11 : decode cX2_hasRoom 11 = .ok (.invokevirtual 44, 3) := by decide +kernel
theorem dX2_hasRoom_14 : decode cX2_hasRoom 14 = .ok (.iload_n 3, 1) := by decide +kernel
theorem dX2_hasRoom_15 : decode cX2_hasRoom 15 = .ok (.if_icmp .ge 18, 3) := by decide +kernel
theorem dX2_hasRoom_18 : decode cX2_hasRoom 18 = .ok (.iload_n 2, 1) := by decide +kernel
theorem dX2_hasRoom_19 : decode cX2_hasRoom 19 = .ok (.aload_n 0, 1) := by decide +kernel
theorem dX2_hasRoom_20 : decode cX2_hasRoom 20 = .ok (.iload_n 1, 1) := by decide +kernel
theorem dX2_hasRoom_21 : decode cX2_hasRoom 21 = .ok (.invokevirtual 38, 3) := by decide +kernel
theorem dX2_hasRoom_24 : decode cX2_hasRoom 24 = .ok (.if_icmp .gt 7, 3) := by decide +kernel
theorem dX2_hasRoom_27 : decode cX2_hasRoom 27 = .ok (.iconst 1, 1) := by decide +kernel
theorem dX2_hasRoom_28 : decode cX2_hasRoom 28 = .ok (.goto 4, 3) := by decide +kernel
theorem dX2_hasRoom_31 : decode cX2_hasRoom 31 = .ok (.iconst 0, 1) := by decide +kernel
theorem dX2_hasRoom_32 : decode cX2_hasRoom 32 = .ok (.ireturn, 1) := by decide +kernel
theorem dX2_hasRoom_33 : decode cX2_hasRoom 33 = .ok (.iload_n 3, 1) := by decide +kernel
theorem dX2_hasRoom_34 : decode cX2_hasRoom 34 = .ok (.bipush 31, 2) := by decide +kernel
theorem dX2_hasRoom_36 : decode cX2_hasRoom 36 = .ok (.if_icmp .ge 18, 3) := by decide +kernel
theorem dX2_hasRoom_39 : decode cX2_hasRoom 39 = .ok (.iload_n 2, 1) := by decide +kernel
theorem dX2_hasRoom_40 : decode cX2_hasRoom 40 = .ok (.iconst 2, 1) := by decide +kernel
theorem dX2_hasRoom_41 : decode cX2_hasRoom 41 = .ok (.iadd, 1) := by decide +kernel
theorem dX2_hasRoom_42 : decode cX2_hasRoom 42 = .ok (.aload_n 0, 1) := by decide +kernel
theorem dX2_hasRoom_43 : decode cX2_hasRoom 43 = .ok (.iload_n 1, 1) := by decide +kernel
theorem dX2_hasRoom_44 : decode cX2_hasRoom 44 = .ok (.invokevirtual 38, 3) := by decide +kernel
theorem dX2_hasRoom_47 : decode cX2_hasRoom 47 = .ok (.if_icmp .gt 7, 3) := by decide +kernel
theorem dX2_hasRoom_50 : decode cX2_hasRoom 50 = .ok (.iconst 1, 1) := by decide +kernel
theorem dX2_hasRoom_51 : decode cX2_hasRoom 51 = .ok (.goto 4, 3) := by decide +kernel
theorem dX2_hasRoom_54 : decode cX2_hasRoom 54 = .ok (.iconst 0, 1) := by decide +kernel
theorem dX2_hasRoom_55 : decode cX2_hasRoom 55 = .ok (.ireturn, 1) := by decide +kernel
theorem dX2_findPage_0 : decode cX2_findPage 0 = .ok (.iconst 0, 1) := by decide +kernel
theorem dX2_findPage_1 : decode cX2_findPage 1 = .ok (.istore 4, 2) := by decide +kernel
theorem dX2_findPage_3 : decode cX2_findPage 3 = .ok (.iload 4, 2) := by decide +kernel
theorem dX2_findPage_5 : decode cX2_findPage 5 = .ok (.aload_n 0, 1) := by decide +kernel
theorem dX2_findPage_6 : decode cX2_findPage 6 = .ok (.getfield 12, 3) := by decide +kernel
theorem dX2_findPage_9 : decode cX2_findPage 9 = .ok (.getfield 47, 3) := by decide +kernel
theorem dX2_findPage_12 : decode cX2_findPage 12 = .ok (.if_icmp .ge 34, 3) := by decide +kernel
theorem dX2_findPage_15 : decode cX2_findPage 15 = .ok (.iload 4, 2) := by decide +kernel
theorem dX2_findPage_17 : decode cX2_findPage 17 = .ok (.iload_n 2, 1) := by decide +kernel
theorem dX2_findPage_18 : decode cX2_findPage 18 = .ok (.if_icmp .eq 22, 3) := by decide +kernel
theorem dX2_findPage_21 : decode cX2_findPage 21 = .ok (.iload 4, 2) := by decide +kernel
theorem dX2_findPage_23 : decode cX2_findPage 23 = .ok (.iload_n 3, 1) := by decide +kernel
theorem dX2_findPage_24 : decode cX2_findPage 24 = .ok (.if_icmp .eq 16, 3) := by decide +kernel
theorem dX2_findPage_27 : decode cX2_findPage 27 = .ok (.aload_n 0, 1) := by decide +kernel
theorem dX2_findPage_28 : decode cX2_findPage 28 = .ok (.iload 4, 2) := by decide +kernel
theorem dX2_findPage_30 : decode cX2_findPage 30 = .ok (.iload_n 1, 1) := by decide +kernel
theorem dX2_findPage_31 : decode cX2_findPage 31 = .ok (.invokevirtual 51, 3) := by decide +kernel
theorem dX2_findPage_34 : decode cX2_findPage 34 = .ok (.ifCond .eq 6, 3) := by decide +kernel
theorem dX2_findPage_37 : decode cX2_findPage 37 = .ok (.iload 4, 2) := by decide +kernel
theorem dX2_findPage_39 : decode cX2_findPage 39 = .ok (.ireturn, 1) := by decide +kernel
theorem dX2_findPage_40 : decode cX2_findPage 40 = .ok (.iinc 4 1, 3) := by decide +kernel
theorem dX2_findPage_43 : decode cX2_findPage 43 = .ok (.goto (-40), 3) := by decide +kernel
theorem dX2_findPage_46 : decode cX2_findPage 46 = .ok (.aload_n 0, 1) := by decide +kernel
theorem dX2_findPage_47 : decode cX2_findPage 47 = .ok (.getfield 12, 3) := by decide +kernel
theorem dX2_findPage_50 : decode cX2_findPage 50 = .ok (.getfield 47, 3) := by decide +kernel
theorem dX2_findPage_53 : decode cX2_findPage 53 = .ok (.bipush 8, 2) := by decide +kernel
theorem dX2_findPage_55 : decode cX2_findPage 55 = .ok (.if_icmp .ge 13, 3) := by decide +kernel
theorem dX2_findPage_58 : decode cX2_findPage 58 = .ok (.aload_n 0, 1) := by decide +kernel
theorem dX2_findPage_59 : decode cX2_findPage 59 = .ok (.getfield 12, 3) := by decide +kernel
theorem dX2_findPage_62 : decode cX2_findPage 62 = .ok (.getfield 47, 3) := by decide +kernel
theorem dX2_findPage_65 : decode cX2_findPage 65 = .ok (.goto 4, 3) := by decide +kernel
theorem dX2_findPage_68 : decode cX2_findPage 68 = .ok (.iconst (-1), 1) := by decide +kernel
theorem dX2_findPage_69 : decode cX2_findPage 69 = .ok (.ireturn, 1) := by decide +kernel
theorem dX2_openIfNew_0 : decode cX2_openIfNew 0 = .ok (.iload_n 1, 1) := by decide +kernel
theorem dX2_openIfNew_1 : decode cX2_openIfNew 1 = .ok (.aload_n 0, 1) := by decide +kernel
theorem dX2_openIfNew_2 : decode cX2_openIfNew 2 = .ok (.getfield 12, 3) := by decide +kernel
theorem dX2_openIfNew_5 : decode cX2_openIfNew 5 = .ok (.getfield 47, 3) := by decide +kernel
theorem dX2_openIfNew_8 : decode cX2_openIfNew 8 = .ok (.if_icmp .ne 34, 3) := by decide +kernel
theorem dX2_openIfNew_11 : decode cX2_openIfNew 11 = .ok (.iload_n 1, 1) := by decide +kernel
theorem dX2_openIfNew_12 : decode cX2_openIfNew 12 = .ok (.bipush 8, 2) := by decide +kernel
theorem dX2_openIfNew_14 : decode cX2_openIfNew 14 = .ok (.if_icmp .ge 28, 3) := by decide +kernel
theorem dX2_openIfNew_17 : decode cX2_openIfNew 17 = .ok (.aload_n 0, 1) := by decide +kernel
theorem dX2_openIfNew_18 : decode cX2_openIfNew 18 = .ok (.getfield 12, 3) := by decide +kernel
theorem dX2_openIfNew_21 : decode cX2_openIfNew 21 = .ok (.iload_n 1, 1) := by decide +kernel
theorem dX2_openIfNew_22 : decode cX2_openIfNew 22 = .ok (.iconst 1, 1) := by decide +kernel
theorem dX2_openIfNew_23 : decode cX2_openIfNew 23 = .ok (.sipush 128, 3) := by decide +kernel
theorem dX2_openIfNew_26 : decode cX2_openIfNew 26 = .ok (.invokevirtual 55, 3) := by decide +kernel
theorem dX2_openIfNew_29 : decode cX2_openIfNew 29 = .ok (.aload_n 0, 1) := by decide +kernel
theorem dX2_openIfNew_30 : decode cX2_openIfNew 30 = .ok (.getfield 12, 3) := by decide +kernel
theorem dX2_openIfNew_33 : decode cX2_openIfNew 33 = .ok (.dup, 1) := by decide +kernel
theorem dX2_openIfNew_34 : decode cX2_openIfNew 34 = .ok (.getfield 47, 3) := by decide +kernel
theorem dX2_openIfNew_37 : decode cX2_openIfNew 37 = .ok (.iconst 1, 1) := by decide +kernel
theorem dX2_openIfNew_38 : decode cX2_openIfNew 38 = .ok (.iadd, 1) := by decide +kernel
theorem dX2_openIfNew_39 : decode cX2_openIfNew 39 = .ok (.putfield 47, 3) := by decide +kernel
theorem dX2_openIfNew_42 : decode cX2_openIfNew 42 = .ok (.return_, 1) := by decide +kernel
theorem dX2_recordsThatFit_0 : decode cX2_recordsThatFit 0 = .ok (.aload_n 0, 1) := by decide +kernel
theorem dX2_recordsThatFit_1 : decode cX2_recordsThatFit 1 = .ok (.getfield 12, 3) := by decide +kernel
theorem dX2_recordsThatFit_4 : decode cX2_recordsThatFit 4 = .ok (.iload_n 1, 1) := by decide +kernel
theorem dX2_recordsThatFit_5 : decode cX2_recordsThatFit 5 = .ok (.invokevirtual 27, 3) := by decide +kernel
theorem dX2_recordsThatFit_8 : decode cX2_recordsThatFit 8 = .ok (.istore_n 3, 1) := by decide +kernel
theorem dX2_recordsThatFit_9 : decode cX2_recordsThatFit 9 = .ok (.aload_n 0, 1) := by decide +kernel
theorem dX2_recordsThatFit_10 : decode cX2_recordsThatFit 10 = .ok (.iload_n 1, 1) := by decide +kernel
theorem dX2_recordsThatFit_11 : decode cX2_recordsThatFit 11 = .ok (.invokevirtual 38, 3) := by decide +kernel
theorem dX2_recordsThatFit_14 : decode cX2_recordsThatFit 14 = .ok (.istore 4, 2) := by decide +kernel
theorem dX2_recordsThatFit_16 : decode cX2_recordsThatFit 16 = .ok (.iconst 0, 1) := by decide +kernel
theorem dX2_recordsThatFit_17 : decode cX2_recordsThatFit 17 = .ok (.istore 5, 2) := by decide +kernel
theorem dX2_recordsThatFit_19 : decode cX2_recordsThatFit 19 = .ok (.iconst 0, 1) := by decide +kernel
theorem dX2_recordsThatFit_20 : decode cX2_recordsThatFit 20 = .ok (.istore 6, 2) := by decide +kernel
theorem dX2_recordsThatFit_22 : decode cX2_recordsThatFit 22 = .ok (.iload 6, 2) := by decide +kernel
theorem dX2_recordsThatFit_24 : decode cX2_recordsThatFit 24 = .ok (.bipush 31, 2) := by decide +kernel
theorem dX2_recordsThatFit_26 : decode cX2_recordsThatFit 26 = .ok (.if_icmp .ge 68, 3) := by decide +kernel
theorem dX2_recordsThatFit_29 : decode cX2_recordsThatFit 29 = .ok (.iload 6, 2) := by decide +kernel
theorem dX2_recordsThatFit_31 : decode cX2_recordsThatFit 31 = .ok (.iload_n 3, 1) := by decide +kernel
theorem dX2_recordsThatFit_32 : decode cX2_recordsThatFit 32 = .ok (.if_icmp .lt 7, 3) := by decide +kernel
theorem dX2_recordsThatFit_35 : decode cX2_recordsThatFit 35 = .ok (.iconst 1, 1) := by decide +kernel
theorem dX2_recordsThatFit_36 : decode cX2_recordsThatFit 36 = .ok (.goto 4, 3) := by decide +kernel
theorem dX2_recordsThatFit_39 : decode cX2_recordsThatFit 39 = .ok (.iconst 0, 1) := by decide +kernel
theorem dX2_recordsThatFit_40 : decode cX2_recordsThatFit 40 = .ok (.istore 7, 2) := by decide +kernel
theorem dX2_recordsThatFit_42 : decode cX2_recordsThatFit 42 = .ok (.iload 7, 2) := by decide +kernel
theorem dX2_recordsThatFit_44 : decode cX2_recordsThatFit 44 = .ok (.ifCond .ne 16, 3) := by decide +kernel
theorem dX2_recordsThatFit_47 : decode cX2_recordsThatFit 47 = .ok (.aload_n 0, 1) := by decide +kernel
theorem dX2_recordsThatFit_48 : decode cX2_recordsThatFit 48 = .ok (.getfield 12, 3) := by decide +kernel
theorem dX2_recordsThatFit_51 : decode cX2_recordsThatFit 51 = .ok (.iload_n 1, 1) := by decide +kernel
theorem dX2_recordsThatFit_52 : decode cX2_recordsThatFit 52 = .ok (.iload 6, 2) := by decide +kernel
theorem dX2_recordsThatFit_54 : decode cX2_recordsThatFit 54 = .ok (.invokevirtual 34, 3) := by decide +kernel
theorem dX2_recordsThatFit_57 : decode cX2_recordsThatFit 57 = .ok (.ifCond .ne 31, 3) := by decide +kernel
theorem dX2_recordsThatFit_60 : decode cX2_recordsThatFit 60 = .ok (.iload 4, 2) := by decide +kernel
theorem dX2_recordsThatFit_62 : decode cX2_recordsThatFit 62 = .ok (.iload 7, 2) := by decide +kernel
theorem dX2_recordsThatFit_64 : decode cX2_recordsThatFit 64 = .ok (.ifCond .eq 9, 3) := by decide +kernel
theorem dX2_recordsThatFit_67 : decode cX2_recordsThatFit 67 = .ok (.iload_n 2, 1) := by decide +kernel
theorem dX2_recordsThatFit_68 : decode cX2_recordsThatFit 68 = .ok (.iconst 2, 1) := by decide +kernel
theorem dX2_recordsThatFit_69 : decode cX2_recordsThatFit 69 = .ok (.iadd, 1) := by decide +kernel
theorem dX2_recordsThatFit_70 : decode cX2_recordsThatFit 70 = .ok (.goto 4, 3) := by decide +kernel
theorem dX2_recordsThatFit_73 : decode cX2_recordsThatFit 73 = .ok (.iload_n 2, 1) := by decide +kernel
theorem dX2_recordsThatFit_74 : decode cX2_recordsThatFit 74 = .ok (.isub, 1) := by decide +kernel
theorem dX2_recordsThatFit_75 : decode cX2_recordsThatFit 75 = .ok (.istore 4, 2) := by decide +kernel
theorem dX2_recordsThatFit_77 : decode cX2_recordsThatFit 77 = .ok (.iload 4, 2) := by decide +kernel
theorem dX2_recordsThatFit_79 : decode cX2_recordsThatFit 79 = .ok (.ifCond .ge 6, 3) := by decide +kernel
theorem dX2_recordsThatFit_82 : decode cX2_recordsThatFit 82 = .ok (.iload 5, 2) := by decide +kernel
theorem dX2_recordsThatFit_84 : decode cX2_recordsThatFit 84 = .ok (.ireturn, 1) := by decide +kernel
theorem dX2_recordsThatFit_85 : decode cX2_recordsThatFit 85 = .ok (.iinc 5 1, 3) := by decide +kernel
theorem dX2_recordsThatFit_88 : decode cX2_recordsThatFit 88 = .ok (.iinc 6 1, 3) := by decide +kernel
theorem dX2_recordsThatFit_91 : decode cX2_recordsThatFit 91 = .ok (.goto (-69), 3) := by decide +kernel
theorem dX2_recordsThatFit_94 : decode cX2_recordsThatFit 94 = .ok (.iload 5, 2) := by decide +kernel
theorem dX2_recordsThatFit_96 : decode cX2_recordsThatFit 96 = .ok (.ireturn, 1) := by decide +kernel
theorem dX2_eraseRecord_0 : decode cX2_eraseRecord 0 = .ok (.aload_n 0, 1) := by decide +kernel
theorem dX2_eraseRecord_1 : decode cX2_eraseRecord 1 = .ok (.getfield 12, 3) := by decide +kernel
theorem dX2_eraseRecord_4 : decode cX2_eraseRecord 4 = .ok (.iload_n 1, 1) := by decide +kernel
theorem dX2_eraseRecord_5 : decode cX2_eraseRecord 5 = .ok (.iload_n 2, 1) := by decide +kernel
theorem dX2_eraseRecord_6 : decode cX2_eraseRecord 6 = .ok (.invokevirtual 59, 3) := by decide +kernel
theorem dX2_eraseRecord_9 : decode cX2_eraseRecord 9 = .ok (.istore_n 3, 1) := by decide +kernel
theorem dX2_eraseRecord_10 : decode cX2_eraseRecord 10 = .ok (.aload_n 0, 1) := by decide +kernel
theorem dX2_eraseRecord_11 : decode cX2_eraseRecord 11 = .ok (.getfield 12, 3) := by decide +kernel
theorem dX2_eraseRecord_14 : decode cX2_eraseRecord 14 = .ok (.iload_n 1, 1) := by decide +kernel
theorem dX2_eraseRecord_15 : decode cX2_eraseRecord 15 = .ok (.iload_n 2, 1) := by decide +kernel
theorem dX2_eraseRecord_16 : decode cX2_eraseRecord 16 = .ok (.invokevirtual 34, 3) := by decide +kernel
theorem dX2_eraseRecord_19 : decode cX2_eraseRecord 19 = .ok (.istore 4, 2) := by decide +kernel
theorem dX2_eraseRecord_21 : decode cX2_eraseRecord 21 = .ok (.iconst 0, 1) := by decide +kernel
theorem dX2_eraseRecord_22 : decode cX2_eraseRecord 22 = .ok (.istore 5, 2) := by decide +kernel
theorem dX2_eraseRecord_24 : decode cX2_eraseRecord 24 = .ok (.iload 5, 2) := by decide +kernel
theorem dX2_eraseRecord_26 : decode cX2_eraseRecord 26 = .ok (.iload 4, 2) := by decide +kernel
theorem dX2_eraseRecord_28 : decode cX2_eraseRecord 28 = .ok (.if_icmp .ge 22, 3) := by decide +kernel
theorem dX2_eraseRecord_31 : decode cX2_eraseRecord 31 = .ok (.aload_n 0, 1) := by decide +kernel
theorem dX2_eraseRecord_32 : decode cX2_eraseRecord 32 = .ok (.getfield 12, 3) := by decide +kernel
theorem dX2_eraseRecord_35 : decode cX2_eraseRecord 35 = .ok (.iload_n 1, 1) := by decide +kernel
theorem dX2_eraseRecord_36 : decode cX2_eraseRecord 36 = .ok (.iload_n 3, 1) := by decide +kernel
theorem dX2_eraseRecord_37 : decode cX2_eraseRecord 37 = .ok (.iload 5, 2) := by decide +kernel
theorem dX2_eraseRecord_39 : decode cX2_eraseRecord 39 = .ok (.iadd, 1) := by decide +kernel
theorem dX2_eraseRecord_40 : decode cX2_eraseRecord 40 = .ok (.iconst 0, 1) := by decide +kernel
theorem dX2_eraseRecord_41 : decode cX2_eraseRecord 41 = .ok (.invokevirtual 55, 3) := by decide +kernel
theorem dX2_eraseRecord_44 : decode cX2_eraseRecord 44 = .ok (.iinc 5 1, 3) := by decide +kernel
theorem dX2_eraseRecord_47 : decode cX2_eraseRecord 47 = .ok (.goto (-23), 3) := by decide +kernel
theorem dX2_eraseRecord_50 : decode cX2_eraseRecord 50 = .ok (.aload_n 0, 1) := by decide +kernel
theorem dX2_eraseRecord_51 : decode cX2_eraseRecord 51 = .ok (.getfield 12, 3) := by decide +kernel
theorem dX2_eraseRecord_54 : decode cX2_eraseRecord 54 = .ok (.iload_n 1, 1) := by decide +kernel
theorem dX2_eraseRecord_55 : decode cX2_eraseRecord 55 = .ok (.iload_n 2, 1) := by decide +kernel
theorem dX2_eraseRecord_56 : decode cX2_eraseRecord 56 = .ok (.invokestatic 31, 3) := by decide +kernel
theorem dX2_eraseRecord_59 : decode cX2_eraseRecord 59 = .ok (.iconst 0, 1) := by decide +kernel
theorem dX2_eraseRecord_60 : decode cX2_eraseRecord 60 = .ok (.invokevirtual 55, 3) := by decide +kernel
theorem dX2_eraseRecord_63 : decode cX2_eraseRecord 63 = .ok (.aload_n 0, 1) := by decide +kernel
theorem dX2_eraseRecord_64 : decode cX2_eraseRecord 64 = .ok (.getfield 12, 3) := by decide +kernel
theorem dX2_eraseRecord_67 : decode cX2_eraseRecord 67 = .ok (.iload_n 1, 1) := by decide +kernel
theorem dX2_eraseRecord_68 : decode cX2_eraseRecord 68 = .ok (.iload_n 2, 1) := by decide +kernel
theorem dX2_eraseRecord_69 : decode cX2_eraseRecord 69 = .ok (.invokestatic 31, 3) := by decide +kernel
theorem dX2_eraseRecord_72 : decode cX2_eraseRecord 72 = .ok (.iconst 1, 1) := by decide +kernel
theorem dX2_eraseRecord_73 : decode cX2_eraseRecord 73 = .ok (.iadd, 1) := by decide +kernel
theorem dX2_eraseRecord_74 : decode cX2_eraseRecord 74 = .ok (.iconst 0, 1) := by decide +kernel
theorem dX2_eraseRecord_75 : decode cX2_eraseRecord 75 = .ok (.invokevirtual 55, 3) := by decide +kernel
theorem dX2_eraseRecord_78 : decode cX2_eraseRecord 78 = .ok (.aload_n 0, 1) := by decide +kernel
theorem dX2_eraseRecord_79 : decode cX2_eraseRecord 79 = .ok (.getfield 12, 3) := by decide +kernel
theorem dX2_eraseRecord_82 : decode cX2_eraseRecord 82 = .ok (.iload_n 1, 1) := by decide +kernel
theorem dX2_eraseRecord_83 : decode cX2_eraseRecord 83 = .ok (.invokevirtual 27, 3) := by decide +kernel
theorem dX2_eraseRecord_86 : decode cX2_eraseRecord 86 = .ok (.istore 5, 2) := by decide +kernel
theorem dX2_eraseRecord_88 : decode cX2_eraseRecord 88 = .ok (.sipush 128, 3) := by decide +kernel
theorem dX2_eraseRecord_91 : decode cX2_eraseRecord 91 = .ok (.istore 6, 2) := by decide +kernel
theorem dX2_eraseRecord_93 : decode cX2_eraseRecord 93 = .ok (.iconst 0, 1) := by decide +kernel
theorem dX2_eraseRecord_94 : decode cX2_eraseRecord 94 = .ok (.istore 7, 2) := by decide +kernel
theorem dX2_eraseRecord_96 : decode cX2_eraseRecord 96 = .ok (.iload 7, 2) := by decide +kernel
theorem dX2_eraseRecord_98 : decode cX2_eraseRecord 98 = .ok (.iload 5, 2) := by decide +kernel
theorem dX2_eraseRecord_100 : decode cX2_eraseRecord 100 = .ok (.if_icmp .ge 39, 3) := by decide +kernel
theorem dX2_eraseRecord_103 : decode cX2_eraseRecord 103 = .ok (.aload_n 0, 1) := by decide +kernel
theorem dX2_eraseRecord_104 : decode cX2_eraseRecord 104 = .ok (.getfield 12, 3) := by decide +kernel
theorem dX2_eraseRecord_107 : decode cX2_eraseRecord 107 = .ok (.iload_n 1, 1) := by decide +kernel
theorem dX2_eraseRecord_108 : decode cX2_eraseRecord 108 = .ok (.iload 7, 2) := by decide +kernel
theorem dX2_eraseRecord_110 : decode cX2_eraseRecord 110 = .ok (.invokevirtual 34, 3) := by decide +kernel
theorem dX2_eraseRecord_113 : decode cX2_eraseRecord 113 = .ok (.ifCond .le 20, 3) := by decide +kernel
theorem dX2_eraseRecord_116 : decode cX2_eraseRecord 116 = .ok (.iload 6, 2) := by decide +kernel
theorem dX2_eraseRecord_118 : decode cX2_eraseRecord 118 = .ok (.aload_n 0, 1) := by decide +kernel
theorem dX2_eraseRecord_119 : decode cX2_eraseRecord 119 = .ok (.getfield 12, 3) := by decide +kernel
theorem dX2_eraseRecord_122 : decode cX2_eraseRecord 122 = .ok (.iload_n 1, 1) := by decide +kernel
theorem dX2_eraseRecord_123 : decode cX2_eraseRecord 123 = .ok (.iload 7, 2) := by decide +kernel
theorem dX2_eraseRecord_125 : decode cX2_eraseRecord 125 = .ok (.invokevirtual 59, 3) := by decide +kernel
theorem dX2_eraseRecord_128 : decode cX2_eraseRecord 128 = .ok (.invokestatic 62, 3) := by decide +kernel
theorem dX2_eraseRecord_131 : decode cX2_eraseRecord 131 = .ok (.istore 6, 2) := by decide +kernel
theorem dX2_eraseRecord_133 : decode cX2_eraseRecord 133 = .ok (.iinc 7 1, 3) := by decide +kernel
theorem dX2_eraseRecord_136 : decode cX2_eraseRecord 136 = .ok (.goto (-40), 3) := by decide +kernel
theorem dX2_eraseRecord_139 : decode cX2_eraseRecord 139 = .ok (.aload_n 0, 1) := by decide +kernel
theorem dX2_eraseRecord_140 : decode cX2_eraseRecord 140 = .ok (.getfield 12, 3) := by decide +kernel
theorem dX2_eraseRecord_143 : decode cX2_eraseRecord 143 = .ok (.iload_n 1, 1) := by decide +kernel
theorem dX2_eraseRecord_144 : decode cX2_eraseRecord 144 = .ok (.iconst 1, 1) := by decide +kernel
theorem dX2_eraseRecord_145 : decode cX2_eraseRecord 145 = .ok (.iload 6, 2) := by decide +kernel
theorem dX2_eraseRecord_147 : decode cX2_eraseRecord 147 = .ok (.invokevirtual 55, 3) := by decide +kernel
theorem dX2_eraseRecord_150 : decode cX2_eraseRecord 150 = .ok (.return_, 1) := by decide +kernel
theorem dX2_removeRecord_0 : decode cX2_removeRecord 0 = .ok (.iload_n 1, 1) := by decide +kernel
theorem dX2_removeRecord_1 : decode cX2_removeRecord 1 = .ok (.invokestatic 67, 3) := by decide +kernel
theorem dX2_removeRecord_4 : decode cX2_removeRecord 4 = .ok (.istore_n 2, 1) := by decide +kernel
theorem dX2_removeRecord_5 : decode cX2_removeRecord 5 = .ok (.aload_n 0, 1) := by decide +kernel
theorem dX2_removeRecord_6 : decode cX2_removeRecord 6 = .ok (.iload_n 2, 1) := by decide +kernel
theorem dX2_removeRecord_7 : decode cX2_removeRecord 7 = .ok (.iload_n 1, 1) := by decide +kernel
theorem dX2_removeRecord_8 : decode cX2_removeRecord 8 = .ok (.invokestatic 70, 3) := by decide +kernel
theorem dX2_removeRecord_11 : decode cX2_removeRecord 11 = .ok (.invokevirtual 73, 3) := by decide +kernel
theorem dX2_removeRecord_14 : decode cX2_removeRecord 14 = .ok (.aload_n 0, 1) := by decide +kernel
theorem dX2_removeRecord_15 : decode cX2_removeRecord 15 = .ok (.getfield 12, 3) := by decide +kernel
theorem dX2_removeRecord_18 : decode cX2_removeRecord 18 = .ok (.iload_n 2, 1) := by decide +kernel
theorem dX2_removeRecord_19 : decode cX2_removeRecord 19 = .ok (.invokevirtual 27, 3) := by decide +kernel
theorem dX2_removeRecord_22 : decode cX2_removeRecord 22 = .ok (.istore_n 3, 1) := by decide +kernel
theorem dX2_removeRecord_23 : decode cX2_removeRecord 23 = .ok (.iload_n 3, 1) := by decide +kernel
theorem dX2_removeRecord_24 : decode cX2_removeRecord 24 = .ok (.ifCond .le 23, 3) := by decide +kernel
theorem dX2_removeRecord_27 : decode cX2_removeRecord 27 = .ok (.aload_n 0, 1) := by decide +kernel
theorem dX2_removeRecord_28 : decode cX2_removeRecord 28 = .ok (.getfield 12, 3) := by decide +kernel
theorem dX2_removeRecord_31 : decode cX2_removeRecord 31 = .ok (.iload_n 2, 1) := by decide +kernel
theorem dX2_removeRecord_32 : decode cX2_removeRecord 32 = .ok (.iload_n 3, 1) := by decide +kernel
theorem dX2_removeRecord_33 : decode cX2_removeRecord 33 = .ok (.iconst 1, 1) := by decide +kernel
theorem dX2_removeRecord_34 : decode cX2_removeRecord 34 = .ok (.isub, 1) := by decide +kernel
theorem dX2_removeRecord_35 : decode cX2_removeRecord 35 = .ok (.invokevirtual 34, 3) := by decide +kernel
theorem dX2_removeRecord_38 : decode cX2_removeRecord 38 = .ok (.ifCond .ne 9, 3) := by decide +kernel
theorem dX2_removeRecord_41 : decode cX2_removeRecord 41 = .ok (.iinc 3 (-1), 3) := by decide +kernel
theorem dX2_removeRecord_44 : decode cX2_removeRecord 44 = .ok (.goto (-21), 3) := by decide +kernel
theorem dX2_removeRecord_47 : decode cX2_removeRecord 47 = .ok (.aload_n 0, 1) := by decide +kernel
theorem dX2_removeRecord_48 : decode cX2_removeRecord 48 = .ok (.getfield 12, 3) := by decide +kernel
theorem dX2_removeRecord_51 : decode cX2_removeRecord 51 = .ok (.iload_n 2, 1) := by decide +kernel
theorem dX2_removeRecord_52 : decode cX2_removeRecord 52 = .ok (.iconst 0, 1) := by decide +kernel
theorem dX2_removeRecord_53 : decode cX2_removeRecord 53 = .ok (.iload_n 3, 1) := by decide +kernel
theorem dX2_removeRecord_54 : decode cX2_removeRecord 54 = .ok (.invokevirtual 55, 3) := by decide +kernel
theorem dX2_removeRecord_57 : decode cX2_removeRecord 57 = .ok (.return_, 1) := by decide +kernel
theorem dX2_putRecord_0 : decode cX2_putRecord 0 = .ok (.iload_n 1, 1) := by decide +kernel
theorem dX2_putRecord_1 : decode cX2_putRecord 1 = .ok (.invokestatic 67, 3) := by decide +kernel
theorem dX2_putRecord_4 : decode cX2_putRecord 4 = .ok (.istore_n 3, 1) := by decide +kernel
theorem dX2_putRecord_5 : decode cX2_putRecord 5 = .ok (.iload_n 1, 1) := by decide +kernel
theorem dX2_putRecord_6 : decode cX2_putRecord 6 = .ok (.invokestatic 70, 3) := by decide +kernel
theorem dX2_putRecord_9 : decode cX2_putRecord 9 = .ok (.istore 4, 2) := by decide +kernel
theorem dX2_putRecord_11 : decode cX2_putRecord 11 = .ok (.iload 4, 2) := by decide +kernel
theorem dX2_putRecord_13 : decode cX2_putRecord 13 = .ok (.aload_n 0, 1) := by decide +kernel
theorem dX2_putRecord_14 : decode cX2_putRecord 14 = .ok (.getfield 12, 3) := by decide +kernel
theorem dX2_putRecord_17 : decode cX2_putRecord 17 = .ok (.iload_n 3, 1) := by decide +kernel
theorem dX2_putRecord_18 : decode cX2_putRecord 18 = .ok (.invokevirtual 27, 3) := by decide +kernel
theorem dX2_putRecord_21 : decode cX2_putRecord 21 = .ok (.if_icmp .ge 10, 3) := by decide +kernel
theorem dX2_putRecord_24 : decode cX2_putRecord 24 = .ok (.aload_n 0, 1) := by decide +kernel
theorem dX2_putRecord_25 : decode cX2_putRecord 25 = .ok (.iload_n 3, 1) := by decide +kernel
theorem dX2_putRecord_26 : decode cX2_putRecord 26 = .ok (.iload 4, 2) := by decide +kernel
theorem dX2_putRecord_28 : decode cX2_putRecord 28 = .ok (.invokevirtual 73, 3) := by decide +kernel
theorem dX2_putRecord_31 : decode cX2_putRecord 31 = .ok (.aload_n 0, 1) := by decide +kernel
theorem dX2_putRecord_32 : decode cX2_putRecord 32 = .ok (.getfield 12, 3) := by decide +kernel
theorem dX2_putRecord_35 : decode cX2_putRecord 35 = .ok (.iload_n 3, 1) := by decide +kernel
theorem dX2_putRecord_36 : decode cX2_putRecord 36 = .ok (.invokevirtual 27, 3) := by decide +kernel
theorem dX2_putRecord_39 : decode cX2_putRecord 39 = .ok (.iload 4, 2) := by decide +kernel
theorem dX2_putRecord_41 : decode cX2_putRecord 41 = .ok (.iconst 1, 1) := by decide +kernel
theorem dX2_putRecord_42 : decode cX2_putRecord 42 = .ok (.iadd, 1) := by decide +kernel
theorem dX2_putRecord_43 : decode cX2_putRecord 43 = .ok (.invokestatic 77, 3) := by decide +kernel
theorem dX2_putRecord_46 : decode cX2_putRecord 46 = .ok (.istore 5, 2) := by decide +kernel
theorem dX2_putRecord_48 : decode cX2_putRecord 48 = .ok (.aload_n 0, 1) := by decide +kernel
theorem dX2_putRecord_49 : decode cX2_putRecord 49 = .ok (.iload_n 3, 1) := by decide +kernel
theorem dX2_putRecord_50 : decode cX2_putRecord 50 = .ok (.iload 5, 2) := by decide +kernel
theorem dX2_putRecord_52 : decode cX2_putRecord 52 = .ok (.invokevirtual 80, 3) := by decide +kernel
theorem dX2_putRecord_55 : decode cX2_putRecord 55 = .ok (.aload_n 2, 1) := by decide +kernel
theorem dX2_putRecord_56 : decode cX2_putRecord 56 = .ok (.getfield 83, 3) := by decide +kernel
theorem dX2_putRecord_59 : decode cX2_putRecord 59 = .ok (.if_icmp .ge 9, 3) := by decide +kernel
theorem dX2_putRecord_62 : decode cX2_putRecord 62 = .ok (.aload_n 0, 1) := by decide +kernel
theorem dX2_putRecord_63 : decode cX2_putRecord 63 = .ok (.iload_n 3, 1) := by decide +kernel
theorem dX2_putRecord_64 : decode cX2_putRecord 64 = .ok (.invokevirtual 86, 3) := by decide +kernel
theorem dX2_putRecord_67 : decode cX2_putRecord 67 = .ok (.pop, 1) := by decide +kernel
theorem dX2_putRecord_68 : decode cX2_putRecord 68 = .ok (.aload_n 0, 1) := by decide +kernel
theorem dX2_putRecord_69 : decode cX2_putRecord 69 = .ok (.getfield 12, 3) := by decide +kernel
theorem dX2_putRecord_72 : decode cX2_putRecord 72 = .ok (.iload_n 3, 1) := by decide +kernel
theorem dX2_putRecord_73 : decode cX2_putRecord 73 = .ok (.iconst 0, 1) := by decide +kernel
theorem dX2_putRecord_74 : decode cX2_putRecord 74 = .ok (.iload 5, 2) := by decide +kernel
theorem dX2_putRecord_76 : decode cX2_putRecord 76 = .ok (.invokevirtual 55, 3) := by decide +kernel
theorem dX2_putRecord_79 : decode cX2_putRecord 79 = .ok (.aload_n 0, 1) := by decide +kernel
theorem dX2_putRecord_80 : decode cX2_putRecord 80 = .ok (.getfield 12, 3) := by decide +kernel
theorem dX2_putRecord_83 : decode cX2_putRecord 83 = .ok (.iload_n 3, 1) := by decide +kernel
theorem dX2_putRecord_84 : decode cX2_putRecord 84 = .ok (.iconst 1, 1) := by decide +kernel
theorem dX2_putRecord_85 : decode cX2_putRecord 85 = .ok (.invokevirtual 41, 3) := by decide +kernel
theorem dX2_putRecord_88 : decode cX2_putRecord 88 = .ok (.aload_n 2, 1) := by decide +kernel
theorem dX2_putRecord_89 : decode cX2_putRecord 89 = .ok (.getfield 83, 3) := by decide +kernel
theorem dX2_putRecord_92 : decode cX2_putRecord 92 = .ok (.isub, 1) := by decide +kernel
theorem dX2_putRecord_93 : decode cX2_putRecord 93 = .ok (.istore 6, 2) := by decide +kernel
theorem dX2_putRecord_95 : decode cX2_putRecord 95 = .ok (.iconst 0, 1) := by decide +kernel
theorem dX2_putRecord_96 : decode cX2_putRecord 96 = .ok (.istore 7, 2) := by decide +kernel
theorem dX2_putRecord_98 : decode cX2_putRecord 98 = .ok (.iload 7, 2) := by decide +kernel
theorem dX2_putRecord_100 : decode cX2_putRecord 100 = .ok (.aload_n 2, 1) := by decide +kernel
theorem dX2_putRecord_101 : decode cX2_putRecord 101 = .ok (.getfield 83, 3) := by decide +kernel
theorem dX2_putRecord_104 : decode cX2_putRecord 104 = .ok (.if_icmp .ge 28, 3) := by decide +kernel
theorem dX2_putRecord_107 : decode cX2_putRecord 107 = .ok (.aload_n 0, 1) := by decide +kernel
theorem dX2_putRecord_108 : decode cX2_putRecord 108 = .ok (.getfield 12, 3) := by decide +kernel
theorem dX2_putRecord_111 : decode cX2_putRecord 111 = .ok (.iload_n 3, 1) := by decide +kernel
theorem dX2_putRecord_112 : decode cX2_putRecord 112 = .ok (.iload 6, 2) := by decide +kernel
theorem dX2_putRecord_114 : decode cX2_putRecord 114 = .ok (.iload 7, 2) := by decide +kernel
theorem dX2_putRecord_116 : decode cX2_putRecord 116 = .ok (.iadd, 1) := by decide +kernel
theorem dX2_putRecord_117 : decode cX2_putRecord 117 = .ok (.aload_n 2, 1) := by decide +kernel
theorem dX2_putRecord_118 : decode cX2_putRecord 118 = .ok (.iload 7, 2) := by decide +kernel
theorem dX2_putRecord_120 : decode cX2_putRecord 120 = .ok (.invokevirtual 89, 3) := by decide +kernel
theorem dX2_putRecord_123 : decode cX2_putRecord 123 = .ok (.invokevirtual 55, 3) := by decide +kernel
theorem dX2_putRecord_126 : decode cX2_putRecord 126 = .ok (.iinc 7 1, 3) := by decide +kernel
theorem dX2_putRecord_129 : decode cX2_putRecord 129 = .ok (.goto (-31), 3) := by decide +kernel
theorem dX2_putRecord_132 : decode cX2_putRecord 132 = .ok (.aload_n 0, 1) := by decide +kernel
theorem dX2_putRecord_133 : decode cX2_putRecord 133 = .ok (.getfield 12, 3) := by decide +kernel
theorem dX2_putRecord_136 : decode cX2_putRecord 136 = .ok (.iload_n 3, 1) := by decide +kernel
theorem dX2_putRecord_137 : decode cX2_putRecord 137 = .ok (.iload 4, 2) := by decide +kernel
theorem dX2_putRecord_139 : decode cX2_putRecord 139 = .ok (.invokestatic 31, 3) := by decide +kernel
theorem dX2_putRecord_142 : decode cX2_putRecord 142 = .ok (.iload 6, 2) := by decide +kernel
theorem dX2_putRecord_144 : decode cX2_putRecord 144 = .ok (.invokevirtual 55, 3) := by decide +kernel
theorem dX2_putRecord_147 : decode cX2_putRecord 147 = .ok (.aload_n 0, 1) := by decide +kernel
theorem dX2_putRecord_148 : decode cX2_putRecord 148 = .ok (.getfield 12, 3) := by decide +kernel
theorem dX2_putRecord_151 : decode cX2_putRecord 151 = .ok (.iload_n 3, 1) := by decide +kernel
theorem dX2_putRecord_152 : decode cX2_putRecord 152 = .ok (.iload 4, 2) := by decide +kernel
theorem dX2_putRecord_154 : decode cX2_putRecord 154 = .ok (.invokestatic 31, 3) := by decide +kernel
theorem dX2_putRecord_157 : decode cX2_putRecord 157 = .ok (.iconst 1, 1) := by decide +kernel
theorem dX2_putRecord_158 : decode cX2_putRecord 158 = .ok (.iadd, 1) := by decide +kernel
theorem dX2_putRecord_159 : decode cX2_putRecord 159 = .ok (.aload_n 2, 1) := by decide +kernel
theorem dX2_putRecord_160 : decode cX2_putRecord 160 = .ok (.getfield 83, 3) := by decide +kernel
theorem dX2_putRecord_163 : decode cX2_putRecord 163 = .ok (.invokevirtual 55, 3) := by decide +kernel
theorem dX2_putRecord_166 : decode cX2_putRecord 166 = .ok (.aload_n 0, 1) := by decide +kernel
theorem dX2_putRecord_167 : decode cX2_putRecord 167 = .ok (.getfield 12, 3) := by decide +kernel
theorem dX2_putRecord_170 : decode cX2_putRecord 170 = .ok (.iload_n 3, 1) := by decide +kernel
theorem dX2_putRecord_171 : decode cX2_putRecord 171 = .ok (.iconst 1, 1) := by decide +kernel
theorem dX2_putRecord_172 : decode cX2_putRecord 172 = .ok (.iload 6, 2) := by decide +kernel
theorem dX2_putRecord_174 : decode cX2_putRecord 174 = .ok (.invokevirtual 55, 3) := by decide +kernel
theorem dX2_putRecord_177 : decode cX2_putRecord 177 = .ok (.return_, 1) := by decide +kernel
theorem dX2_compactPage_0 : decode cX2_compactPage 0 = .ok (.aload_n 0, 1) := by decide +kernel
theorem dX2_compactPage_1 : decode cX2_compactPage 1 = .ok (.getfield 12, 3) := by decide +kernel
theorem dX2_compactPage_4 : decode cX2_compactPage 4 = .ok (.iload_n 1, 1) := by decide +kernel
theorem dX2_compactPage_5 : decode cX2_compactPage 5 = .ok (.invokevirtual 27, 3) := by decide +kernel
theorem dX2_compactPage_8 : decode cX2_compactPage 8 = .ok (.istore_n 2, 1) := by decide +kernel
theorem dX2_compactPage_9 : decode cX2_compactPage 9 = .ok (.aload_n 0, 1) := by decide +kernel
theorem dX2_compactPage_10 : decode cX2_compactPage 10 = .ok (.getfield 23, 3) := by decide +kernel
theorem dX2_compactPage_13 : decode cX2_compactPage 13 = .ok (.invokevirtual 92, 3) := by decide +kernel
theorem dX2_compactPage_16 : decode cX2_compactPage 16 = .ok (.iconst 0, 1) := by decide +kernel
theorem dX2_compactPage_17 : decode cX2_compactPage 17 = .ok (.istore_n 3, 1) := by decide +kernel
theorem dX2_compactPage_18 : decode cX2_compactPage 18 = .ok (.iload_n 3, 1) := by decide +kernel
theorem dX2_compactPage_19 : decode cX2_compactPage 19 = .ok (.sipush 128, 3) := by decide +kernel
theorem dX2_compactPage_22 : decode cX2_compactPage 22 = .ok (.if_icmp .ge 25, 3) := by decide +kernel
theorem dX2_compactPage_25 : decode cX2_compactPage 25 = .ok (.aload_n 0, 1) := by decide +kernel
theorem dX2_compactPage_26 : decode cX2_compactPage 26 = .ok (.getfield 23, 3) := by decide +kernel
theorem dX2_compactPage_29 : decode cX2_compactPage 29 = .ok (.aload_n 0, 1) := by decide +kernel
theorem dX2_compactPage_30 : decode cX2_compactPage 30 = .ok (.getfield 12, 3) := by decide +kernel
theorem dX2_compactPage_33 : decode cX2_compactPage 33 = .ok (.iload_n 1, 1) := by decide +kernel
theorem dX2_compactPage_34 : decode cX2_compactPage 34 = .ok (.iload_n 3, 1) := by decide +kernel
theorem dX2_compactPage_35 : decode cX2_compactPage 35 = .ok (.invokevirtual 41, 3) := by decide +kernel
theorem dX2_compactPage_38 : decode cX2_compactPage 38 = .ok (.invokevirtual 95, 3) := by decide +kernel
theorem dX2_compactPage_41 : decode cX2_compactPage 41 = .ok (.iinc 3 1, 3) := by decide +kernel
theorem dX2_compactPage_44 : decode cX2_compactPage 44 = .ok (.goto (-26), 3) := by decide +kernel
theorem dX2_compactPage_47 : decode cX2_compactPage 47 = .ok (.iload_n 2, 1) := by decide +kernel
theorem dX2_compactPage_48 : decode cX2_compactPage 48 = .ok (.invokestatic 31, 3) := by decide +kernel
theorem dX2_compactPage_51 : decode cX2_compactPage 51 = .ok (.istore_n 3, 1) := by decide +kernel
theorem dX2_compactPage_52 : decode cX2_compactPage 52 = .ok (.iload_n 3, 1) := by decide +kernel
theorem dX2_compactPage_53 : decode cX2_compactPage 53 = .ok (.sipush 128, 3) := by decide +kernel
theorem dX2_compactPage_56 : decode cX2_compactPage 56 = .ok (.if_icmp .ge 19, 3) := by decide +kernel
theorem dX2_compactPage_59 : decode cX2_compactPage 59 = .ok (.aload_n 0, 1) := by decide +kernel
theorem dX2_compactPage_60 : decode cX2_compactPage 60 = .ok (.getfield 12, 3) := by decide +kernel
theorem dX2_compactPage_63 : decode cX2_compactPage 63 = .ok (.iload_n 1, 1) := by decide +kernel
theorem dX2_compactPage_64 : decode cX2_compactPage 64 = .ok (.iload_n 3, 1) := by decide +kernel
theorem dX2_compactPage_65 : decode cX2_compactPage 65 = .ok (.iconst 0, 1) := by decide +kernel
theorem dX2_compactPage_66 : decode cX2_compactPage 66 = .ok (.invokevirtual 55, 3) := by decide +kernel
theorem dX2_compactPage_69 : decode cX2_compactPage 69 = .ok (.iinc 3 1, 3) := by decide +kernel
theorem dX2_compactPage_72 : decode cX2_compactPage 72 = .ok (.goto (-20), 3) := by decide +kernel
theorem dX2_compactPage_75 : decode cX2_compactPage 75 = .ok (.sipush 128, 3) := by decide +kernel
theorem dX2_compactPage_78 : decode cX2_compactPage 78 = .ok (.istore_n 3, 1) := by decide +kernel
theorem dX2_compactPage_79 : decode cX2_compactPage 79 = .ok (.iconst 0, 1) := by decide +kernel
theorem dX2_compactPage_80 : decode cX2_compactPage 80 = .ok (.istore 4, 2) := by decide +kernel
theorem dX2_compactPage_82 : decode cX2_compactPage 82 = .ok (.iconst 0, 1) := by decide +kernel
theorem dX2_compactPage_83 : decode cX2_compactPage 83 = .ok (.istore 5, 2) := by decide +kernel
theorem dX2_compactPage_85 : decode cX2_compactPage 85 = .ok (.iload 5, 2) := by decide +kernel
theorem dX2_compactPage_87 : decode cX2_compactPage 87 = .ok (.iload_n 2, 1) := by decide +kernel
theorem dX2_compactPage_88 : decode cX2_compactPage 88 = .ok (.if_icmp .ge 106, 3) := by decide +kernel
theorem dX2_compactPage_91 : decode cX2_compactPage 91 = .ok (.aload_n 0, 1) := by decide +kernel
theorem dX2_compactPage_92 : decode cX2_compactPage 92 = .ok (.getfield 12, 3) := by decide +kernel
theorem dX2_compactPage_95 : decode cX2_compactPage 95 = .ok (.iload_n 1, 1) := by decide +kernel
theorem dX2_compactPage_96 : decode cX2_compactPage 96 = .ok (.iload 5, 2) := by decide +kernel
theorem dX2_compactPage_98 : decode cX2_compactPage 98 = .ok (.invokevirtual 34, 3) := by decide +kernel
theorem dX2_compactPage_101 : decode cX2_compactPage 101 = .ok (.istore 6, 2) := by decide +kernel
theorem dX2_compactPage_103 : decode cX2_compactPage 103 = .ok (.aload_n 0, 1) := by decide +kernel
theorem dX2_compactPage_104 : decode cX2_compactPage 104 = .ok (.getfield 12, 3) := by decide +kernel
theorem dX2_compactPage_107 : decode cX2_compactPage 107 = .ok (.iload_n 1, 1) := by decide +kernel
theorem dX2_compactPage_108 : decode cX2_compactPage 108 = .ok (.iload 5, 2) := by decide +kernel
theorem dX2_compactPage_110 : decode cX2_compactPage 110 = .ok (.invokevirtual 59, 3) := by decide +kernel
theorem dX2_compactPage_113 : decode cX2_compactPage 113 = .ok (.istore 7, 2) := by decide +kernel
theorem dX2_compactPage_115 : decode cX2_compactPage 115 = .ok (.iload_n 3, 1) := by decide +kernel
theorem dX2_compactPage_116 : decode cX2_compactPage 116 = .ok (.iload 6, 2) := by decide +kernel
theorem dX2_compactPage_118 : decode cX2_compactPage 118 = .ok (.isub, 1) := by decide +kernel
theorem dX2_compactPage_119 : decode cX2_compactPage 119 = .ok (.istore_n 3, 1) := by decide +kernel
theorem dX2_compactPage_120 : decode cX2_compactPage 120 = .ok (.iconst 0, 1) := by decide +kernel
theorem dX2_compactPage_121 : decode cX2_compactPage 121 = .ok (.istore 8, 2) := by decide +kernel
theorem dX2_compactPage_123 : decode cX2_compactPage 123 = .ok (.iload 8, 2) := by decide +kernel
theorem dX2_compactPage_125 : decode cX2_compactPage 125 = .ok (.iload 6, 2) := by decide +kernel
theorem dX2_compactPage_127 : decode cX2_compactPage 127 = .ok (.if_icmp .ge 33, 3) := by decide +kernel
theorem dX2_compactPage_130 : decode cX2_compactPage 130 = .ok (.aload_n 0, 1) := by decide +kernel
theorem dX2_compactPage_131 : decode cX2_compactPage 131 = .ok (.getfield 12, 3) := by decide +kernel
theorem dX2_compactPage_134 : decode cX2_compactPage 134 = .ok (.iload_n 1, 1) := by decide +kernel
theorem dX2_compactPage_135 : decode cX2_compactPage 135 = .ok (.iload_n 3, 1) := by decide +kernel
theorem dX2_compactPage_136 : decode cX2_compactPage 136 = .ok (.iload 8, 2) := by decide +kernel
theorem dX2_compactPage_138 : decode cX2_compactPage 138 = .ok (.iadd, 1) := by decide +kernel
theorem dX2_compactPage_139 : decode cX2_compactPage 139 = .ok (.aload_n 0, 1) := by decide +kernel
theorem dX2_compactPage_140 : decode cX2_compactPage 140 = .ok (.getfield 23, 3) := by decide +kernel
theorem dX2_compactPage_143 : decode cX2_compactPage 143 = .ok (.iload 7, 2) := by decide +kernel
theorem dX2_compactPage_145 : decode cX2_compactPage 145 = .ok (.iload 8, 2) := by decide +kernel
theorem dX2_compactPage_147 : decode cX2_compactPage 147 = .ok (.iadd, 1) := by decide +kernel
theorem dX2_compactPage_148 : decode cX2_compactPage 148 = .ok (.invokevirtual 89, 3) := by decide +kernel
theorem dX2_compactPage_151 : decode cX2_compactPage 151 = .ok (.invokevirtual 55, 3) := by decide +kernel
theorem dX2_compactPage_154 : decode cX2_compactPage 154 = .ok (.iinc 8 1, 3) := by decide +kernel
theorem dX2_compactPage_157 : decode cX2_compactPage 157 = .ok (.goto (-34), 3) := by decide +kernel
theorem dX2_compactPage_160 : decode cX2_compactPage 160 = .ok (.iload 6, 2) := by decide +kernel
theorem dX2_compactPage_162 : decode cX2_compactPage 162 = .ok (.ifCond .le 26, 3) := by decide +kernel
theorem dX2_compactPage_165 : decode cX2_compactPage 165 = .ok (.iload 7, 2) := by decide +kernel
theorem dX2_compactPage_167 : decode cX2_compactPage 167 = .ok (.iload_n 3, 1) := by decide +kernel
theorem dX2_compactPage_168 : decode cX2_compactPage 168 = .ok (.if_icmp .eq 20, 3) := by decide +kernel
theorem dX2_compactPage_171 : decode cX2_compactPage 171 = .ok (.aload_n 0, 1) := by decide +kernel
theorem dX2_compactPage_172 : decode cX2_compactPage 172 = .ok (.getfield 12, 3) := by decide +kernel
theorem dX2_compactPage_175 : decode cX2_compactPage 175 = .ok (.iload_n 1, 1) := by decide +kernel
theorem dX2_compactPage_176 : decode cX2_compactPage 176 = .ok (.iload 5, 2) := by decide +kernel
theorem dX2_compactPage_178 : decode cX2_compactPage 178 = .ok (.invokestatic 31, 3) := by decide +kernel
theorem dX2_compactPage_181 : decode cX2_compactPage 181 = .ok (.iload_n 3, 1) := by decide +kernel
theorem dX2_compactPage_182 : decode cX2_compactPage 182 = .ok (.invokevirtual 55, 3) := by decide +kernel
theorem dX2_compactPage_185 : decode cX2_compactPage 185 = .ok (.iinc 4 1, 3) := by decide +kernel
theorem dX2_compactPage_188 : decode cX2_compactPage 188 = .ok (.iinc 5 1, 3) := by decide +kernel
theorem dX2_compactPage_191 : decode cX2_compactPage 191 = .ok (.goto (-106), 3) := by decide +kernel
theorem dX2_compactPage_194 : decode cX2_compactPage 194 = .ok (.aload_n 0, 1) := by decide +kernel
theorem dX2_compactPage_195 : decode cX2_compactPage 195 = .ok (.getfield 12, 3) := by decide +kernel
theorem dX2_compactPage_198 : decode cX2_compactPage 198 = .ok (.iload_n 1, 1) := by decide +kernel
theorem dX2_compactPage_199 : decode cX2_compactPage 199 = .ok (.iconst 1, 1) := by decide +kernel
theorem dX2_compactPage_200 : decode cX2_compactPage 200 = .ok (.iload_n 3, 1) := by decide +kernel
theorem dX2_compactPage_201 : decode cX2_compactPage 201 = .ok (.invokevirtual 55, 3) := by decide +kernel
theorem dX2_compactPage_204 : decode cX2_compactPage 204 = .ok (.aload_n 0, 1) := by decide +kernel
theorem dX2_compactPage_205 : decode cX2_compactPage 205 = .ok (.getfield 12, 3) := by decide +kernel
theorem dX2_compactPage_208 : decode cX2_compactPage 208 = .ok (.dup, 1) := by decide +kernel
theorem dX2_compactPage_209 : decode cX2_compactPage 209 = .ok (.getfield 98, 3) := by decide +kernel
theorem dX2_compactPage_212 : decode cX2_compactPage 212 = .ok (.iconst 1, 1) := by decide +kernel
theorem dX2_compactPage_213 : decode cX2_compactPage 213 = .ok (.iadd, 1) := by decide +kernel
theorem dX2_compactPage_214 : decode cX2_compactPage 214 = .ok (.putfield 98, 3) := by decide +kernel
theorem dX2_compactPage_217 : decode cX2_compactPage 217 = .ok (.iload 4, 2) := by decide +kernel
theorem dX2_compactPage_219 : decode cX2_compactPage 219 = .ok (.ireturn, 1) := by decide +kernel
theorem dX3_init_0 : decode cX3_init 0 = .ok (.aload_n 0, 1) := by decide +kernel
theorem dX3_init_1 : decode cX3_init 1 = .ok (.invokespecial 3, 3) := by decide +kernel
theorem dX3_init_4 : decode cX3_init 4 = .ok (.aload_n 0, 1) := by decide +kernel
theorem dX3_init_5 : decode cX3_init 5 = .ok (.sipush 1024, 3) := by decide +kernel
theorem dX3_init_8 : decode cX3_init 8 = .ok (.newarray .int, 2) := by decide +kernel
theorem dX3_init_10 : decode cX3_init 10 = .ok (.putfield 9, 3) := by decide +kernel
theorem dX3_init_13 : decode cX3_init 13 = .ok (.return_, 1) := by decide +kernel
theorem dX3_byteAt_0 : decode cX3_byteAt 0 = .ok (.sipush 128, 3) := by decide +kernel
theorem dX3_byteAt_3 : decode cX3_byteAt 3 = .ok (.iload_n 1, 1) := by decide +kernel
theorem dX3_byteAt_4 : decode cX3_byteAt 4 = .ok (.imul, 1) := by decide +kernel
theorem dX3_byteAt_5 : decode cX3_byteAt 5 = .ok (.iload_n 2, 1) := by decide +kernel
theorem dX3_byteAt_6 : decode cX3_byteAt 6 = .ok (.iadd, 1) := by decide +kernel
theorem dX3_byteAt_7 : decode cX3_byteAt 7 = .ok (.istore_n 3, 1) := by decide +kernel
theorem dX3_byteAt_8 : decode cX3_byteAt 8 = .ok (.iload_n 3, 1) := by decide +kernel
theorem dX3_byteAt_9 : decode cX3_byteAt 9 = .ok (.ifCond .lt 21, 3) := by decide +kernel
theorem dX3_byteAt_12 : decode cX3_byteAt 12 = .ok (.iload_n 3, 1) := by decide +kernel
theorem dX3_byteAt_13 : decode cX3_byteAt 13 = .ok (.aload_n 0, 1) := by decide +kernel
theorem dX3_byteAt_14 : decode cX3_byteAt 14 = .ok (.getfield 9, 3) := by decide +kernel
theorem dX3_byteAt_17 : decode cX3_byteAt 17 = .ok (.arraylength, 1) := by decide +kernel
theorem dX3_byteAt_18 : decode cX3_byteAt 18 = .ok (.if_icmp .ge 12, 3) := by decide +kernel
theorem dX3_byteAt_21 : decode cX3_byteAt 21 = .ok (.aload_n 0, 1) := by decide +kernel
theorem dX3_byteAt_22 : decode cX3_byteAt 22 = .ok (.getfield 9, 3) := by decide +kernel
theorem dX3_byteAt_25 : decode cX3_byteAt 25 = .ok (.iload_n 3, 1) := by decide +kernel
theorem dX3_byteAt_26 : decode cX3_byteAt 26 = .ok (.iaload, 1) := by decide +kernel
theorem dX3_byteAt_27 : decode cX3_byteAt 27 = .ok (.goto 4, 3) := by decide +kernel
theorem dX3_byteAt_30 : decode cX3_byteAt 30 = .ok (.iconst 0, 1) := by decide +kernel
theorem dX3_byteAt_31 : decode cX3_byteAt 31 = .ok (.ireturn, 1) := by decide +kernel
theorem dX3_slotCount_0 : decode cX3_slotCount 0 = .ok (.sipush 128, 3) := by decide +kernel
theorem dX3_slotCount_3 : decode cX3_slotCount 3 = .ok (.iload_n 1, 1) := by decide +kernel
theorem dX3_slotCount_4 : decode cX3_slotCount 4 = .ok (.imul, 1) := by decide +kernel
theorem dX3_slotCount_5 : decode cX3_slotCount 5 = .ok (.iconst 0, 1) := by decide +kernel
theorem dX3_slotCount_6 : decode cX3_slotCount 6 = .ok (.iadd, 1) := by decide +kernel
theorem dX3_slotCount_7 : decode cX3_slotCount 7 = .ok (.istore_n 2, 1) := by decide +kernel
theorem dX3_slotCount_8 : decode cX3_slotCount 8 = .ok (.iload_n 2, 1) := by decide +kernel
theorem dX3_slotCount_9 : decode cX3_slotCount 9 = .ok (.ifCond .lt 21, 3) := by decide +kernel
theorem dX3_slotCount_12 : decode cX3_slotCount 12 = .ok (.iload_n 2, 1) := by decide +kernel
theorem dX3_slotCount_13 : decode cX3_slotCount 13 = .ok (.aload_n 0, 1) := by decide +kernel
theorem dX3_slotCount_14 : decode cX3_slotCount 14 = .ok (.getfield 9, 3) := by decide +kernel
theorem dX3_slotCount_17 : decode cX3_slotCount 17 = .ok (.arraylength, 1) := by decide +kernel
theorem dX3_slotCount_18 : decode cX3_slotCount 18 = .ok (.if_icmp .ge 12, 3) := by decide +kernel
theorem dX3_slotCount_21 : decode cX3_slotCount 21 = .ok (.aload_n 0, 1) := by decide +kernel
theorem dX3_slotCount_22 : decode cX3_slotCount 22 = .ok (.getfield 9, 3) := by decide +kernel
theorem dX3_slotCount_25 : decode cX3_slotCount 25 = .ok (.iload_n 2, 1) := by decide +kernel
theorem dX3_slotCount_26 : decode cX3_slotCount 26 = .ok (.iaload, 1) := by decide +kernel
theorem dX3_slotCount_27 : decode cX3_slotCount 27 = .ok (.goto 4, 3) := by decide +kernel
theorem dX3_slotCount_30 : decode cX3_slotCount 30 = .ok (.iconst 0, 1) := by decide +kernel
theorem dX3_slotCount_31 : decode cX3_slotCount 31 = .ok (.ireturn, 1) := by decide +kernel
theorem dX3_offsetOf_0 : decode cX3_offsetOf 0 = .ok (.sipush 128, 3) := by decide +kernel
theorem dX3_offsetOf_3 : decode cX3_offsetOf 3 = .ok (.iload_n 1, 1) := by decide +kernel
theorem dX3_offsetOf_4 : decode cX3_offsetOf 4 = .ok (.imul, 1) := by decide +kernel
theorem dX3_offsetOf_5 : decode cX3_offsetOf 5 = .ok (.iconst 2, 1) := by decide +kernel
theorem dX3_offsetOf_6 : decode cX3_offsetOf 6 = .ok (.iadd, 1) := by decide +kernel
theorem dX3_offsetOf_7 : decode cX3_offsetOf 7 = .ok (.iconst 2, 1) := by decide +kernel
theorem dX3_offsetOf_8 : decode cX3_offsetOf 8 = .ok (.iload_n 2, 1) := by decide +kernel
theorem dX3_offsetOf_9 : decode cX3_offsetOf 9 = .ok (.imul, 1) := by decide +kernel
theorem dX3_offsetOf_10 : decode cX3_offsetOf 10 = .ok (.iadd, 1) := by decide +kernel
theorem dX3_offsetOf_11 : decode cX3_offsetOf 11 = .ok (.istore_n 3, 1) := by decide +kernel
theorem dX3_offsetOf_12 : decode cX3_offsetOf 12 = .ok (.iload_n 3, 1) := by decide +kernel
theorem dX3_offsetOf_13 : decode cX3_offsetOf 13 = .ok (.ifCond .lt 21, 3) := by decide +kernel
theorem dX3_offsetOf_16 : decode cX3_offsetOf 16 = .ok (.iload_n 3, 1) := by decide +kernel
theorem dX3_offsetOf_17 : decode cX3_offsetOf 17 = .ok (.aload_n 0, 1) := by decide +kernel
theorem dX3_offsetOf_18 : decode cX3_offsetOf 18 = .ok (.getfield 9, 3) := by decide +kernel
theorem dX3_offsetOf_21 : decode cX3_offsetOf 21 = .ok (.arraylength, 1) := by decide +kernel
theorem dX3_offsetOf_22 : decode cX3_offsetOf 22 = .ok (.if_icmp .ge 12, 3) := by decide +kernel
theorem dX3_offsetOf_25 : decode cX3_offsetOf 25 = .ok (.aload_n 0, 1) := by decide +kernel
theorem dX3_offsetOf_26 : decode cX3_offsetOf 26 = .ok (.getfield 9, 3) := by decide +kernel
theorem dX3_offsetOf_29 : decode cX3_offsetOf 29 = .ok (.iload_n 3, 1) := by decide +kernel
theorem dX3_offsetOf_30 : decode cX3_offsetOf 30 = .ok (.iaload, 1) := by decide +kernel
theorem dX3_offsetOf_31 : decode cX3_offsetOf 31 = .ok (.goto 4, 3) := by decide +kernel
theorem dX3_offsetOf_34 : decode cX3_offsetOf 34 = .ok (.iconst 0, 1) := by decide +kernel
theorem dX3_offsetOf_35 : decode cX3_offsetOf 35 = .ok (.ireturn, 1) := by decide +kernel
theorem dX3_sizeOf_0 : decode cX3_sizeOf 0 = .ok (.sipush 128, 3) := by decide +kernel
theorem dX3_sizeOf_3 : decode cX3_sizeOf 3 = .ok (.iload_n 1, 1) := by decide +kernel
theorem dX3_sizeOf_4 : decode cX3_sizeOf 4 = .ok (.imul, 1) := by decide +kernel
theorem dX3_sizeOf_5 : decode cX3_sizeOf 5 = .ok (.iconst 2, 1) := by decide +kernel
theorem dX3_sizeOf_6 : decode cX3_sizeOf 6 = .ok (.iadd, 1) := by decide +kernel
theorem dX3_sizeOf_7 : decode cX3_sizeOf 7 = .ok (.iconst 2, 1) := by decide +kernel
theorem dX3_sizeOf_8 : decode cX3_sizeOf 8 = .ok (.iload_n 2, 1) := by decide +kernel
theorem dX3_sizeOf_9 : decode cX3_sizeOf 9 = .ok (.imul, 1) := by decide +kernel
theorem dX3_sizeOf_10 : decode cX3_sizeOf 10 = .ok (.iadd, 1) := by decide +kernel
theorem dX3_sizeOf_11 : decode cX3_sizeOf 11 = .ok (.iconst 1, 1) := by decide +kernel
theorem dX3_sizeOf_12 : decode cX3_sizeOf 12 = .ok (.iadd, 1) := by decide +kernel
theorem dX3_sizeOf_13 : decode cX3_sizeOf 13 = .ok (.istore_n 3, 1) := by decide +kernel
theorem dX3_sizeOf_14 : decode cX3_sizeOf 14 = .ok (.iload_n 3, 1) := by decide +kernel
theorem dX3_sizeOf_15 : decode cX3_sizeOf 15 = .ok (.ifCond .lt 21, 3) := by decide +kernel
theorem dX3_sizeOf_18 : decode cX3_sizeOf 18 = .ok (.iload_n 3, 1) := by decide +kernel
theorem dX3_sizeOf_19 : decode cX3_sizeOf 19 = .ok (.aload_n 0, 1) := by decide +kernel
theorem dX3_sizeOf_20 : decode cX3_sizeOf 20 = .ok (.getfield 9, 3) := by decide +kernel
theorem dX3_sizeOf_23 : decode cX3_sizeOf 23 = .ok (.arraylength, 1) := by decide +kernel
theorem dX3_sizeOf_24 : decode cX3_sizeOf 24 = .ok (.if_icmp .ge 12, 3) := by decide +kernel
theorem dX3_sizeOf_27 : decode cX3_sizeOf 27 = .ok (.aload_n 0, 1) := by decide +kernel
theorem dX3_sizeOf_28 : decode cX3_sizeOf 28 = .ok (.getfield 9, 3) := by decide +kernel
theorem dX3_sizeOf_31 : decode cX3_sizeOf 31 = .ok (.iload_n 3, 1) := by decide +kernel
theorem dX3_sizeOf_32 : decode cX3_sizeOf 32 = .ok (.iaload, 1) := by decide +kernel
theorem dX3_sizeOf_33 : decode cX3_sizeOf 33 = .ok (.goto 4, 3) := by decide +kernel
theorem dX3_sizeOf_36 : decode cX3_sizeOf 36 = .ok (.iconst 0, 1) := by decide +kernel
theorem dX3_sizeOf_37 : decode cX3_sizeOf 37 = .ok (.ireturn, 1) := by decide +kernel
theorem dX3_recordByte_0 : decode cX3_recordByte 0 = .ok (.aload_n 0, 1) := by decide +kernel
theorem dX3_recordByte_1 : decode cX3_recordByte 1 = .ok (.iload_n 1, 1) := by decide +kernel
theorem dX3_recordByte_2 : decode cX3_recordByte 2 = .ok (.aload_n 0, 1) := by decide +kernel
theorem dX3_recordByte_3 : decode cX3_recordByte 3 = .ok (.iload_n 1, 1) := by decide +kernel
theorem dX3_recordByte_4 : decode cX3_recordByte 4 = .ok (.iload_n 2, 1) := by decide +kernel
theorem dX3_recordByte_5 : decode cX3_recordByte 5 = .ok (.invokevirtual 15, 3) := by decide +kernel
theorem dX3_recordByte_8 : decode cX3_recordByte 8 = .ok (.iload_n 3, 1) := by decide +kernel
theorem dX3_recordByte_9 : decode cX3_recordByte 9 = .ok (.iadd, 1) := by decide +kernel
theorem dX3_recordByte_10 : decode cX3_recordByte 10 = .ok (.invokevirtual 19, 3) := by decide +kernel
theorem dX3_recordByte_13 : decode cX3_recordByte 13 = .ok (.ireturn, 1) := by decide +kernel
theorem dX3_setByte_0 : decode cX3_setByte 0 = .ok (.sipush 128, 3) := by decide +kernel
theorem dX3_setByte_3 : decode cX3_setByte 3 = .ok (.iload_n 1, 1) := by decide +kernel
theorem dX3_setByte_4 : decode cX3_setByte 4 = .ok (.imul, 1) := by decide +kernel
theorem dX3_setByte_5 : decode cX3_setByte 5 = .ok (.iload_n 2, 1) := by decide +kernel
theorem dX3_setByte_6 : decode cX3_setByte 6 = .ok (.iadd, 1) := by decide +kernel
theorem dX3_setByte_7 : decode cX3_setByte 7 = .ok (.istore 4, 2) := by decide +kernel
theorem dX3_setByte_9 : decode cX3_setByte 9 = .ok (.iload 4, 2) := by decide +kernel
theorem dX3_setByte_11 : decode cX3_setByte 11 = .ok (.ifCond .lt 21, 3) := by decide +kernel
theorem dX3_setByte_14 : decode cX3_setByte 14 = .ok (.iload 4, 2) := by decide +kernel
theorem dX3_setByte_16 : decode cX3_setByte 16 = .ok (.aload_n 0, 1) := by decide +kernel
theorem dX3_setByte_17 : decode cX3_setByte 17 = .ok (.getfield 9, 3) := by decide +kernel
theorem dX3_setByte_20 : decode cX3_setByte 20 = .ok (.arraylength, 1) := by decide +kernel
theorem dX3_setByte_21 : decode cX3_setByte 21 = .ok (.if_icmp .ge 11, 3) := by decide +kernel
theorem dX3_setByte_24 : decode cX3_setByte 24 = .ok (.aload_n 0, 1) := by decide +kernel
theorem dX3_setByte_25 : decode cX3_setByte 25 = .ok (.getfield 9, 3) := by decide +kernel
theorem dX3_setByte_28 : decode cX3_setByte 28 = .ok (.iload 4, 2) := by decide +kernel
theorem dX3_setByte_30 : decode cX3_setByte 30 = .ok (.iload_n 3, 1) := by decide +kernel
theorem dX3_setByte_31 : decode cX3_setByte 31 = .ok (.iastore, 1) := by decide +kernel
theorem dX3_setByte_32 : decode cX3_setByte 32 = .ok (.return_, 1) := by decide +kernel
theorem dX3_setRecordByte_0 : decode cX3_setRecordByte 0 = .ok (.aload_n 0, 1) := by decide +kernel
theorem dX3_setRecordByte_1 : decode cX3_setRecordByte 1 = .ok (.iload_n 1, 1) := by decide +kernel
theorem dX3_setRecordByte_2 : decode cX3_setRecordByte 2 = .ok (.aload_n 0, 1) := by decide +kernel
theorem dX3_setRecordByte_3 : decode cX3_setRecordByte 3 = .ok (.iload_n 1, 1) := by decide +kernel
theorem dX3_setRecordByte_4 : decode cX3_setRecordByte 4 = .ok (.iload_n 2, 1) := by decide +kernel
theorem dX3_setRecordByte_5 : decode cX3_setRecordByte 5 = .ok (.invokevirtual 15, 3) := by decide +kernel
theorem dX3_setRecordByte_8 : decode cX3_setRecordByte 8 = .ok (.iload_n 3, 1) := by decide +kernel
theorem dX3_setRecordByte_9 : decode cX3_setRecordByte 9 = .ok (.iadd, 1) := by decide +kernel
theorem dX3_setRecordByte_10 : decode cX3_setRecordByte 10 = .ok (.iload 4, 2) := by decide +kernel
theorem dX3_setRecordByte_12 : decode cX3_setRecordByte 12 = .ok (.invokevirtual 22, 3) := by decide +kernel
theorem dX3_setRecordByte_15 : decode cX3_setRecordByte 15 = .ok (.return_, 1) := by decide +kernel
theorem dX3_copyFrom_0 : decode cX3_copyFrom 0 = .ok (.aload_n 1, 1) := by decide +kernel
theorem dX3_copyFrom_1 : decode cX3_copyFrom 1 = .ok (.ifnonnull 4, 3) := by decide +kernel
theorem dX3_copyFrom_4 : decode cX3_copyFrom 4 = .ok (.return_, 1) := by decide +kernel
theorem dX3_copyFrom_5 : decode cX3_copyFrom 5 = .ok (.aload_n 1, 1) := by decide +kernel
theorem dX3_copyFrom_6 : decode cX3_copyFrom 6 = .ok (.getfield 9, 3) := by decide +kernel
theorem dX3_copyFrom_9 : decode cX3_copyFrom 9 = .ok (.iconst 0, 1) := by decide +kernel
theorem dX3_copyFrom_10 : decode cX3_copyFrom 10 = .ok (.aload_n 0, 1) := by decide +kernel
theorem dX3_copyFrom_11 : decode cX3_copyFrom 11 = .ok (.getfield 9, 3) := by decide +kernel
theorem dX3_copyFrom_14 : decode cX3_copyFrom 14 = .ok (.iconst 0, 1) := by decide +kernel
theorem dX3_copyFrom_15 : decode cX3_copyFrom 15 = .ok (.aload_n 1, 1) := by decide +kernel
theorem dX3_copyFrom_16 : decode cX3_copyFrom 16 = .ok (.getfield 9, 3) := by decide +kernel
theorem dX3_copyFrom_19 : decode cX3_copyFrom 19 = .ok (.arraylength, 1) := by decide +kernel
theorem dX3_copyFrom_20 : decode cX3_copyFrom 20 = .ok (.aload_n 0, 1) := by decide +kernel
theorem dX3_copyFrom_21 : decode cX3_copyFrom 21 = .ok (.getfield 9, 3) := by decide +kernel
theorem dX3_copyFrom_24 : decode cX3_copyFrom 24 = .ok (.arraylength, 1) := by decide +kernel
theorem dX3_copyFrom_25 : decode cX3_copyFrom 25 = .ok (.invokestatic 26, 3) := by decide +kernel
theorem dX3_copyFrom_28 : decode cX3_copyFrom 28 = .ok (.invokestatic 31, 3) := by decide +kernel
theorem dX3_copyFrom_31 : decode cX3_copyFrom 31 = .ok (.aload_n 0, 1) := by decide +kernel
theorem dX3_copyFrom_32 : decode cX3_copyFrom 32 = .ok (.aload_n 1, 1) := by decide +kernel
theorem dX3_copyFrom_33 : decode cX3_copyFrom 33 = .ok (.getfield 37, 3) := by decide +kernel
theorem dX3_copyFrom_36 : decode cX3_copyFrom 36 = .ok (.putfield 37, 3) := by decide +kernel
theorem dX3_copyFrom_39 : decode cX3_copyFrom 39 = .ok (.aload_n 0, 1) := by decide +kernel
theorem dX3_copyFrom_40 : decode cX3_copyFrom 40 = .ok (.aload_n 1, 1) := by decide +kernel
theorem dX3_copyFrom_41 : decode cX3_copyFrom 41 = .ok (.getfield 41, 3) := by decide +kernel
theorem dX3_copyFrom_44 : decode cX3_copyFrom 44 = .ok (.putfield 41, 3) := by decide +kernel
theorem dX3_copyFrom_47 : decode cX3_copyFrom 47 = .ok (.aload_n 0, 1) := by decide +kernel
theorem dX3_copyFrom_48 : decode cX3_copyFrom 48 = .ok (.aload_n 1, 1) := by decide +kernel
theorem dX3_copyFrom_49 : decode cX3_copyFrom 49 = .ok (.getfield 44, 3) := by decide +kernel
theorem dX3_copyFrom_52 : decode cX3_copyFrom 52 = .ok (.putfield 44, 3) := by decide +kernel
theorem dX3_copyFrom_55 : decode cX3_copyFrom 55 = .ok (.aload_n 0, 1) := by decide +kernel
theorem dX3_copyFrom_56 : decode cX3_copyFrom 56 = .ok (.aload_n 1, 1) := by decide +kernel
theorem dX3_copyFrom_57 : decode cX3_copyFrom 57 = .ok (.getfield 47, 3) := by decide +kernel
theorem dX3_copyFrom_60 : decode cX3_copyFrom 60 = .ok (.putfield 47, 3) := by decide +kernel
theorem dX3_copyFrom_63 : decode cX3_copyFrom 63 = .ok (.return_, 1) := by decide +kernel
theorem dX4_init_0 : decode cX4_init 0 = .ok (.aload_n 0, 1) := by decide +kernel
theorem dX4_init_1 : decode cX4_init 1 = .ok (.invokespecial 3, 3) := by decide +kernel
theorem dX4_init_4 : decode cX4_init 4 = .ok (.aload_n 0, 1) := by decide +kernel
theorem dX4_init_5 : decode cX4_init 5 = .ok (.new 9, 3) := by decide +kernel
theorem dX4_init_8 : decode cX4_init 8 = .ok (.dup, 1) := by decide +kernel
theorem dX4_init_9 : decode cX4_init 9 = .ok (.invokespecial 11, 3) := by decide +kernel
theorem dX4_init_12 : decode cX4_init 12 = .ok (.putfield 12, 3) := by decide +kernel
theorem dX4_init_15 : decode cX4_init 15 = .ok (.aload_n 0, 1) := by decide +kernel
theorem dX4_init_16 : decode cX4_init 16 = .ok (.aload_n 0, 1) := by decide +kernel
theorem dX4_init_17 : decode cX4_init 17 = .ok (.getfield 12, 3) := by decide +kernel
theorem dX4_init_20 : decode cX4_init 20 = .ok (.getfield 16, 3) := by decide +kernel
theorem dX4_init_23 : decode cX4_init 23 = .ok (.putfield 20, 3) := by decide +kernel
theorem dX4_init_26 : decode cX4_init 26 = .ok (.aload_n 0, 1) := by decide +kernel
theorem dX4_init_27 : decode cX4_init 27 = .ok (.new 21, 3) := by decide +kernel
theorem dX4_init_30 : decode cX4_init 30 = .ok (.dup, 1) := by decide +kernel
theorem dX4_init_31 : decode cX4_init 31 = .ok (.bipush 60, 2) := by decide +kernel
theorem dX4_init_33 : decode cX4_init 33 = .ok (.invokespecial 23, 3) := by decide +kernel
theorem dX4_init_36 : decode cX4_init 36 = .ok (.putfield 26, 3) := by decide +kernel
theorem dX4_init_39 : decode cX4_init 39 = .ok (.aload_n 0, 1) := by decide +kernel
theorem dX4_init_40 : decode cX4_init 40 = .ok (.new 21, 3) := by decide +kernel
theorem dX4_init_43 : decode cX4_init 43 = .ok (.dup, 1) := by decide +kernel
theorem dX4_init_44 : decode cX4_init 44 = .ok (.bipush 60, 2) := by decide +kernel
theorem dX4_init_46 : decode cX4_init 46 = .ok (.invokespecial 23, 3) := by decide +kernel
theorem dX4_init_49 : decode cX4_init 49 = .ok (.putfield 30, 3) := by decide +kernel
theorem dX4_init_52 : decode cX4_init 52 = .ok (.aload_n 0, 1) := by decide +kernel
theorem dX4_init_53 : decode cX4_init 53 = .ok (.new 21, 3) := by decide +kernel
theorem dX4_init_56 : decode cX4_init 56 = .ok (.dup, 1) := by decide +kernel
theorem dX4_init_57 : decode cX4_init 57 = .ok (.bipush 63, 2) := by decide +kernel
theorem dX4_init_59 : decode cX4_init 59 = .ok (.invokespecial 23, 3) := by decide +kernel
theorem dX4_init_62 : decode cX4_init 62 = .ok (.putfield 33, 3) := by decide +kernel
theorem dX4_init_65 : decode cX4_init 65 = .ok (.aload_n 0, 1) := by decide +kernel
theorem dX4_init_66 : decode cX4_init 66 = .ok (.new 36, 3) := by decide +kernel
theorem dX4_init_69 : decode cX4_init 69 = .ok (.dup, 1) := by decide +kernel
theorem dX4_init_70 : decode cX4_init 70 = .ok (.invokespecial 38, 3) := by decide +kernel
theorem dX4_init_73 : decode cX4_init 73 = .ok (.putfield 39, 3) := by decide +kernel
theorem dX4_init_76 : decode cX4_init 76 = .ok (.aload_n 0, 1) := by decide +kernel
theorem dX4_init_77 : decode cX4_init 77 = .ok (.bipush 6, 2) := by decide +kernel
theorem dX4_init_79 : decode cX4_init 79 = .ok (.anewarray 43, 3) := by decide +kernel
theorem dX4_init_82 : decode cX4_init 82 = .ok (.putfield 45, 3) := by decide +kernel
theorem dX4_init_85 : decode cX4_init 85 = .ok (.iconst 0, 1) := by decide +kernel
theorem dX4_init_86 : decode cX4_init 86 = .ok (.istore_n 1, 1) := by decide +kernel
theorem dX4_init_87 : decode cX4_init 87 = .ok (.iload_n 1, 1) := by decide +kernel
theorem dX4_init_88 : decode cX4_init 88 = .ok (.aload_n 0, 1) := by decide +kernel
theorem dX4_init_89 : decode cX4_init 89 = .ok (.getfield 45, 3) := by decide +kernel
theorem dX4_init_92 : decode cX4_init 92 = .ok (.arraylength, 1) := by decide +kernel
theorem dX4_init_93 : decode cX4_init 93 = .ok (.if_icmp .ge 22, 3) := by decide +kernel
theorem dX4_init_96 : decode cX4_init 96 = .ok (.aload_n 0, 1) := by decide +kernel
theorem dX4_init_97 : decode cX4_init 97 = .ok (.getfield 45, 3) := by decide +kernel
theorem dX4_init_100 : decode cX4_init 100 = .ok (.iload_n 1, 1) := by decide +kernel
theorem dX4_init_101 : decode cX4_init 101 = .ok (.new 43, 3) := by decide +kernel
theorem dX4_init_104 : decode cX4_init 104 = .ok (.dup, 1) := by decide +kernel
theorem dX4_init_105 : decode cX4_init 105 = .ok (.invokespecial 49, 3) := by decide +kernel
theorem dX4_init_108 : decode cX4_init 108 = .ok (.aastore, 1) := by decide +kernel
theorem dX4_init_109 : decode cX4_init 109 = .ok (.iinc 1 1, 3) := by decide +kernel
theorem dX4_init_112 : decode cX4_init 112 = .ok (.goto (-25), 3) := by decide +kernel
theorem dX4_init_115 : decode cX4_init 115 = .ok (.return_, 1) := by decide +kernel
theorem dX4_append_0 : decode cX4_append 0 = .ok (.aload_n 0, 1) := by decide +kernel
theorem dX4_append_1 : decode cX4_append 1 = .ok (.iconst 1, 1) := by decide +kernel
theorem dX4_append_2 : decode cX4_append 2 = .ok (.iload_n 1, 1) := by decide +kernel
theorem dX4_append_3 : decode cX4_append 3 = .ok (.invokevirtual 50, 3) := by decide +kernel
theorem dX4_append_6 : decode cX4_append 6 = .ok (.ireturn, 1) := by decide +kernel
theorem dX4_fill_0 : decode cX4_fill 0 = .ok (.aload_n 0, 1) := by decide +kernel
theorem dX4_fill_1 : decode cX4_fill 1 = .ok (.iload_n 1, 1) := by decide +kernel
theorem dX4_fill_2 : decode cX4_fill 2 = .ok (.iload_n 2, 1) := by decide +kernel
theorem dX4_fill_3 : decode cX4_fill 3 = .ok (.invokevirtual 50, 3) := by decide +kernel
theorem dX4_fill_6 : decode cX4_fill 6 = .ok (.ireturn, 1) := by decide +kernel
theorem dX4_clearBuffer_0 : decode cX4_clearBuffer 0 = .ok (.aload_n 0, 1) := by decide +kernel
theorem dX4_clearBuffer_1 : decode cX4_clearBuffer 1 = .ok (.getfield 26, 3) := by decide +kernel
theorem dX4_clearBuffer_4 : decode cX4_clearBuffer 4 = .ok (.getfield 54, 3) := by decide +kernel
theorem dX4_clearBuffer_7 : decode cX4_clearBuffer 7 = .ok (.istore_n 1, 1) := by decide +kernel
theorem dX4_clearBuffer_8 : decode cX4_clearBuffer 8 = .ok (.aload_n 0, 1) := by decide +kernel
theorem dX4_clearBuffer_9 : decode cX4_clearBuffer 9 = .ok (.getfield 26, 3) := by decide +kernel
theorem dX4_clearBuffer_12 : decode cX4_clearBuffer 12 = .ok (.invokevirtual 58, 3) := by decide +kernel
theorem dX4_clearBuffer_15 : decode cX4_clearBuffer 15 = .ok (.iload_n 1, 1) := by decide +kernel
theorem dX4_clearBuffer_16 : decode cX4_clearBuffer 16 = .ok (.ireturn, 1) := by decide +kernel
theorem dX4_appendSeveral_0 : decode cX4_appendSeveral 0 = .ok (.iload_n 1, 1) := by decide +kernel
theorem dX4_appendSeveral_1 : decode cX4_appendSeveral 1 = .ok (.iconst 1, 1) := by decide +kernel
theorem dX4_appendSeveral_2 : decode cX4_appendSeveral 2 = .ok (.if_icmp .lt 9, 3) := by decide +kernel
theorem dX4_appendSeveral_5 : decode cX4_appendSeveral 5 = .ok (.iload_n 1, 1) := by decide +kernel
theorem dX4_appendSeveral_6 : decode cX4_appendSeveral 6 = .ok (.bipush 60, 2) := by decide +kernel
theorem dX4_appendSeveral_8 : decode cX4_appendSeveral 8 = .ok (.if_icmp .le 13, 3) := by decide +kernel
theorem dX4_appendSeveral_11 : decode cX4_appendSeveral 11 = .ok (.new 61, 3) := by decide +kernel
theorem dX4_appendSeveral_14 : decode cX4_appendSeveral 14 = .ok (.dup, 1) := by decide +kernel
theorem dX4_appendSeveral_15 : decode cX4_appendSeveral 15 = .ok (.ldc 63, 2) := by decide +kernel
theorem dX4_appendSeveral_17 : decode cX4_appendSeveral 17 = .ok (.invokespecial 65, 3) := by decide +kernel
theorem dX4_appendSeveral_20 : decode cX4_appendSeveral 20 = .ok (.athrow, 1) := by decide +kernel
theorem dX4_appendSeveral_21 : decode cX4_appendSeveral 21 = .ok (.iload_n 2, 1) := by decide +kernel
theorem dX4_appendSeveral_22 : decode cX4_appendSeveral 22 = .ok (.ifCond .lt 10, 3) := by decide +kernel
theorem dX4_appendSeveral_25 : decode cX4_appendSeveral 25 = .ok (.iload_n 2, 1) := by decide +kernel
theorem dX4_appendSeveral_26 : decode cX4_appendSeveral 26 = .ok (.sipush 255, 3) := by decide +kernel
theorem dX4_appendSeveral_29 : decode cX4_appendSeveral 29 = .ok (.if_icmp .le 13, 3) := by decide +kernel
theorem dX4_appendSeveral_32 : decode cX4_appendSeveral 32 = .ok (.new 61, 3) := by decide +kernel
theorem dX4_appendSeveral_35 : decode cX4_appendSeveral 35 = .ok (.dup, 1) := by decide +kernel
theorem dX4_appendSeveral_36 : decode cX4_appendSeveral 36 = .ok (.ldc 68, 2) := by decide +kernel
theorem dX4_appendSeveral_38 : decode cX4_appendSeveral 38 = .ok (.invokespecial 65, 3) := by decide +kernel
theorem dX4_appendSeveral_41 : decode cX4_appendSeveral 41 = .ok (.athrow, 1) := by decide +kernel
theorem dX4_appendSeveral_42 : decode cX4_appendSeveral 42 = .ok (.aload_n 0, 1) := by decide +kernel
theorem dX4_appendSeveral_43 : decode cX4_appendSeveral 43 = .ok (.getfield 26, 3) := by decide +kernel
theorem dX4_appendSeveral_46 : decode cX4_appendSeveral 46 = .ok (.getfield 54, 3) := by decide +kernel
theorem dX4_appendSeveral_49 : decode cX4_appendSeveral 49 = .ok (.iload_n 1, 1) := by decide +kernel
theorem dX4_appendSeveral_50 : decode cX4_appendSeveral 50 = .ok (.iadd, 1) := by decide +kernel
theorem dX4_appendSeveral_51 : decode cX4_appendSeveral 51 = .ok (.bipush 60, 2) := by decide +kernel
theorem dX4_appendSeveral_53 : decode cX4_appendSeveral 53 = .ok (.if_icmp .le 13, 3) := by decide +kernel
theorem dX4_appendSeveral_56 : decode cX4_appendSeveral 56 = .ok (.new 70, 3) := by decide +kernel
theorem dX4_appendSeveral_59 : decode cX4_appendSeveral 59 = .ok (.dup, 1) := by decide +kernel
theorem dX4_appendSeveral_60 : decode cX4_appendSeveral 60 = .ok (.ldc 72, 2) := by decide +kernel
theorem dX4_appendSeveral_62 : decode cX4_appendSeveral 62 = .ok (.invokespecial 74, 3) := by decide +kernel
theorem dX4_appendSeveral_65 : decode cX4_appendSeveral 65 = .ok (.athrow, 1) := by decide +kernel
theorem dX4_appendSeveral_66 : decode cX4_appendSeveral 66 = .ok (.iconst 0, 1) := by decide +kernel
theorem dX4_appendSeveral_67 : decode cX4_appendSeveral 67 = .ok (.istore_n 3, 1) := by decide +kernel
theorem dX4_appendSeveral_68 : decode cX4_appendSeveral 68 = .ok (.iload_n 3, 1) := by decide +kernel
theorem dX4_appendSeveral_69 : decode cX4_appendSeveral 69 = .ok (.iload_n 1, 1) := by decide +kernel
theorem dX4_appendSeveral_70 : decode cX4_appendSeveral 70 = .ok (.if_icmp .ge 17, 3) := by decide +kernel
theorem dX4_appendSeveral_73 : decode cX4_appendSeveral 73 = .ok (.aload_n 0, 1) := by decide +kernel
theorem dX4_appendSeveral_74 : decode cX4_appendSeveral 74 = .ok (.getfield 26, 3) := by decide +kernel
theorem dX4_appendSeveral_77 : decode cX4_appendSeveral 77 = .ok (.iload_n 2, 1) := by decide +kernel
theorem dX4_appendSeveral_78 : decode cX4_appendSeveral 78 = .ok (.invokevirtual 75, 3) := by decide +kernel
theorem dX4_appendSeveral_81 : decode cX4_appendSeveral 81 = .ok (.iinc 3 1, 3) := by decide +kernel
theorem dX4_appendSeveral_84 : decode cX4_appendSeveral 84 = .ok (.goto (-16), 3) := by decide +kernel
theorem dX4_appendSeveral_87 : decode cX4_appendSeveral 87 = .ok (.aload_n 0, 1) := by decide +kernel
theorem dX4_appendSeveral_88 : decode cX4_appendSeveral 88 = .ok (.getfield 26, 3) := by decide +kernel
theorem dX4_appendSeveral_91 : decode cX4_appendSeveral 91 = .ok (.getfield 54, 3) := by decide +kernel
theorem dX4_appendSeveral_94 : decode cX4_appendSeveral 94 = .ok (.ireturn, 1) := by decide +kernel
theorem dX4_insert_0 : decode cX4_insert 0 = .ok (.aload_n 0, 1) := by decide +kernel
theorem dX4_insert_1 : decode cX4_insert 1 = .ok (.getfield 12, 3) := by decide +kernel
theorem dX4_insert_4 : decode cX4_insert 4 = .ok (.aload_n 0, 1) := by decide +kernel
theorem dX4_insert_5 : decode cX4_insert 5 = .ok (.getfield 26, 3) := by decide +kernel
theorem dX4_insert_8 : decode cX4_insert 8 = .ok (.getfield 54, 3) := by decide +kernel
theorem dX4_insert_11 : decode cX4_insert 11 = .ok (.invokestatic 78, 3) := by decide +kernel
theorem dX4_insert_14 : decode cX4_insert 14 = .ok (.iconst (-1), 1) := by decide +kernel
theorem dX4_insert_15 : decode cX4_insert 15 = .ok (.iconst (-1), 1) := by decide +kernel
theorem dX4_insert_16 : decode cX4_insert 16 = .ok (.invokevirtual 82, 3) := by decide +kernel
theorem dX4_insert_19 : decode cX4_insert 19 = .ok (.istore_n 1, 1) := by decide +kernel
theorem dX4_insert_20 : decode cX4_insert 20 = .ok (.iload_n 1, 1) := by decide +kernel
theorem dX4_insert_21 : decode cX4_insert 21 = .ok (.iconst (-1), 1) := by decide +kernel
theorem dX4_insert_22 : decode cX4_insert 22 = .ok (.if_icmp .ne 13, 3) := by decide +kernel
end
section
theorem dX4_insert_25 : decode cX4_insert 25 = .ok (.new 70, 3) := by decide +kernel
theorem dX4_insert_28 : decode cX4_insert 28 = .ok (.dup, 1) := by decide +kernel
theorem dX4_insert_29 : decode cX4_insert 29 = .ok (.ldc 86, 2) := by decide +kernel
theorem dX4_insert_31 : decode cX4_insert 31 = .ok (.invokespecial 74, 3) := by decide +kernel
theorem dX4_insert_34 : decode cX4_insert 34 = .ok (.athrow, 1) := by decide +kernel
theorem dX4_insert_35 : decode cX4_insert 35 = .ok (.aload_n 0, 1) := by decide +kernel
theorem dX4_insert_36 : decode cX4_insert 36 = .ok (.invokevirtual 88, 3) := by decide +kernel
theorem dX4_insert_39 : decode cX4_insert 39 = .ok (.aload_n 0, 1) := by decide +kernel
theorem dX4_insert_40 : decode cX4_insert 40 = .ok (.getfield 30, 3) := by decide +kernel
theorem dX4_insert_43 : decode cX4_insert 43 = .ok (.aload_n 0, 1) := by decide +kernel
theorem dX4_insert_44 : decode cX4_insert 44 = .ok (.getfield 26, 3) := by decide +kernel
theorem dX4_insert_47 : decode cX4_insert 47 = .ok (.iconst 0, 1) := by decide +kernel
theorem dX4_insert_48 : decode cX4_insert 48 = .ok (.aload_n 0, 1) := by decide +kernel
theorem dX4_insert_49 : decode cX4_insert 49 = .ok (.getfield 26, 3) := by decide +kernel
theorem dX4_insert_52 : decode cX4_insert 52 = .ok (.getfield 54, 3) := by decide +kernel
theorem dX4_insert_55 : decode cX4_insert 55 = .ok (.invokevirtual 91, 3) := by decide +kernel
theorem dX4_insert_58 : decode cX4_insert 58 = .ok (.aload_n 0, 1) := by decide +kernel
theorem dX4_insert_59 : decode cX4_insert 59 = .ok (.getfield 26, 3) := by decide +kernel
theorem dX4_insert_62 : decode cX4_insert 62 = .ok (.invokevirtual 58, 3) := by decide +kernel
theorem dX4_insert_65 : decode cX4_insert 65 = .ok (.aload_n 0, 1) := by decide +kernel
theorem dX4_insert_66 : decode cX4_insert 66 = .ok (.iload_n 1, 1) := by decide +kernel
theorem dX4_insert_67 : decode cX4_insert 67 = .ok (.invokevirtual 95, 3) := by decide +kernel
theorem dX4_insert_70 : decode cX4_insert 70 = .ok (.ireturn, 1) := by decide +kernel
theorem dX4_update_0 : decode cX4_update 0 = .ok (.aload_n 0, 1) := by decide +kernel
theorem dX4_update_1 : decode cX4_update 1 = .ok (.iload_n 1, 1) := by decide +kernel
theorem dX4_update_2 : decode cX4_update 2 = .ok (.invokevirtual 98, 3) := by decide +kernel
theorem dX4_update_5 : decode cX4_update 5 = .ok (.aload_n 0, 1) := by decide +kernel
theorem dX4_update_6 : decode cX4_update 6 = .ok (.iload_n 1, 1) := by decide +kernel
theorem dX4_update_7 : decode cX4_update 7 = .ok (.aload_n 0, 1) := by decide +kernel
theorem dX4_update_8 : decode cX4_update 8 = .ok (.getfield 26, 3) := by decide +kernel
theorem dX4_update_11 : decode cX4_update 11 = .ok (.getfield 54, 3) := by decide +kernel
theorem dX4_update_14 : decode cX4_update 14 = .ok (.invokevirtual 101, 3) := by decide +kernel
theorem dX4_update_17 : decode cX4_update 17 = .ok (.istore_n 2, 1) := by decide +kernel
theorem dX4_update_18 : decode cX4_update 18 = .ok (.iload_n 2, 1) := by decide +kernel
theorem dX4_update_19 : decode cX4_update 19 = .ok (.iconst (-1), 1) := by decide +kernel
theorem dX4_update_20 : decode cX4_update 20 = .ok (.if_icmp .ne 13, 3) := by decide +kernel
theorem dX4_update_23 : decode cX4_update 23 = .ok (.new 70, 3) := by decide +kernel
theorem dX4_update_26 : decode cX4_update 26 = .ok (.dup, 1) := by decide +kernel
theorem dX4_update_27 : decode cX4_update 27 = .ok (.ldc 104, 2) := by decide +kernel
theorem dX4_update_29 : decode cX4_update 29 = .ok (.invokespecial 74, 3) := by decide +kernel
theorem dX4_update_32 : decode cX4_update 32 = .ok (.athrow, 1) := by decide +kernel
theorem dX4_update_33 : decode cX4_update 33 = .ok (.aload_n 0, 1) := by decide +kernel
theorem dX4_update_34 : decode cX4_update 34 = .ok (.invokevirtual 88, 3) := by decide +kernel
theorem dX4_update_37 : decode cX4_update 37 = .ok (.aload_n 0, 1) := by decide +kernel
theorem dX4_update_38 : decode cX4_update 38 = .ok (.getfield 30, 3) := by decide +kernel
theorem dX4_update_41 : decode cX4_update 41 = .ok (.aload_n 0, 1) := by decide +kernel
theorem dX4_update_42 : decode cX4_update 42 = .ok (.getfield 26, 3) := by decide +kernel
theorem dX4_update_45 : decode cX4_update 45 = .ok (.iconst 0, 1) := by decide +kernel
theorem dX4_update_46 : decode cX4_update 46 = .ok (.aload_n 0, 1) := by decide +kernel
theorem dX4_update_47 : decode cX4_update 47 = .ok (.getfield 26, 3) := by decide +kernel
theorem dX4_update_50 : decode cX4_update 50 = .ok (.getfield 54, 3) := by decide +kernel
theorem dX4_update_53 : decode cX4_update 53 = .ok (.invokevirtual 91, 3) := by decide +kernel
theorem dX4_update_56 : decode cX4_update 56 = .ok (.aload_n 0, 1) := by decide +kernel
theorem dX4_update_57 : decode cX4_update 57 = .ok (.getfield 26, 3) := by decide +kernel
theorem dX4_update_60 : decode cX4_update 60 = .ok (.invokevirtual 58, 3) := by decide +kernel
theorem dX4_update_63 : decode cX4_update 63 = .ok (.aload_n 0, 1) := by decide +kernel
theorem dX4_update_64 : decode cX4_update 64 = .ok (.iload_n 1, 1) := by decide +kernel
theorem dX4_update_65 : decode cX4_update 65 = .ok (.iload_n 2, 1) := by decide +kernel
theorem dX4_update_66 : decode cX4_update 66 = .ok (.invokevirtual 106, 3) := by decide +kernel
theorem dX4_update_69 : decode cX4_update 69 = .ok (.iload_n 2, 1) := by decide +kernel
theorem dX4_update_70 : decode cX4_update 70 = .ok (.ireturn, 1) := by decide +kernel
theorem dX4_delete_0 : decode cX4_delete 0 = .ok (.aload_n 0, 1) := by decide +kernel
theorem dX4_delete_1 : decode cX4_delete 1 = .ok (.iload_n 1, 1) := by decide +kernel
theorem dX4_delete_2 : decode cX4_delete 2 = .ok (.invokevirtual 98, 3) := by decide +kernel
theorem dX4_delete_5 : decode cX4_delete 5 = .ok (.aload_n 0, 1) := by decide +kernel
theorem dX4_delete_6 : decode cX4_delete 6 = .ok (.invokevirtual 88, 3) := by decide +kernel
theorem dX4_delete_9 : decode cX4_delete 9 = .ok (.aload_n 0, 1) := by decide +kernel
theorem dX4_delete_10 : decode cX4_delete 10 = .ok (.aload_n 0, 1) := by decide +kernel
theorem dX4_delete_11 : decode cX4_delete 11 = .ok (.iload_n 1, 1) := by decide +kernel
theorem dX4_delete_12 : decode cX4_delete 12 = .ok (.invokevirtual 110, 3) := by decide +kernel
theorem dX4_delete_15 : decode cX4_delete 15 = .ok (.invokevirtual 113, 3) := by decide +kernel
theorem dX4_delete_18 : decode cX4_delete 18 = .ok (.istore_n 2, 1) := by decide +kernel
theorem dX4_delete_19 : decode cX4_delete 19 = .ok (.aload_n 0, 1) := by decide +kernel
theorem dX4_delete_20 : decode cX4_delete 20 = .ok (.iload_n 1, 1) := by decide +kernel
theorem dX4_delete_21 : decode cX4_delete 21 = .ok (.invokevirtual 116, 3) := by decide +kernel
theorem dX4_delete_24 : decode cX4_delete 24 = .ok (.iload_n 2, 1) := by decide +kernel
theorem dX4_delete_25 : decode cX4_delete 25 = .ok (.ireturn, 1) := by decide +kernel
theorem dX4_bringHome_0 : decode cX4_bringHome 0 = .ok (.aload_n 0, 1) := by decide +kernel
theorem dX4_bringHome_1 : decode cX4_bringHome 1 = .ok (.invokevirtual 88, 3) := by decide +kernel
theorem dX4_bringHome_4 : decode cX4_bringHome 4 = .ok (.aload_n 0, 1) := by decide +kernel
theorem dX4_bringHome_5 : decode cX4_bringHome 5 = .ok (.invokevirtual 119, 3) := by decide +kernel
theorem dX4_bringHome_8 : decode cX4_bringHome 8 = .ok (.ireturn, 1) := by decide +kernel
theorem dX4_compact_0 : decode cX4_compact 0 = .ok (.aload_n 0, 1) := by decide +kernel
theorem dX4_compact_1 : decode cX4_compact 1 = .ok (.iload_n 1, 1) := by decide +kernel
theorem dX4_compact_2 : decode cX4_compact 2 = .ok (.invokevirtual 123, 3) := by decide +kernel
theorem dX4_compact_5 : decode cX4_compact 5 = .ok (.aload_n 0, 1) := by decide +kernel
theorem dX4_compact_6 : decode cX4_compact 6 = .ok (.invokevirtual 88, 3) := by decide +kernel
theorem dX4_compact_9 : decode cX4_compact 9 = .ok (.aload_n 0, 1) := by decide +kernel
theorem dX4_compact_10 : decode cX4_compact 10 = .ok (.getfield 12, 3) := by decide +kernel
theorem dX4_compact_13 : decode cX4_compact 13 = .ok (.iload_n 1, 1) := by decide +kernel
theorem dX4_compact_14 : decode cX4_compact 14 = .ok (.invokevirtual 126, 3) := by decide +kernel
theorem dX4_compact_17 : decode cX4_compact 17 = .ok (.ireturn, 1) := by decide +kernel
theorem dX4_rows_0 : decode cX4_rows 0 = .ok (.aload_n 0, 1) := by decide +kernel
theorem dX4_rows_1 : decode cX4_rows 1 = .ok (.iconst 1, 1) := by decide +kernel
theorem dX4_rows_2 : decode cX4_rows 2 = .ok (.invokevirtual 129, 3) := by decide +kernel
theorem dX4_rows_5 : decode cX4_rows 5 = .ok (.aload_n 0, 1) := by decide +kernel
theorem dX4_rows_6 : decode cX4_rows 6 = .ok (.iconst 2, 1) := by decide +kernel
theorem dX4_rows_7 : decode cX4_rows 7 = .ok (.invokevirtual 129, 3) := by decide +kernel
theorem dX4_rows_10 : decode cX4_rows 10 = .ok (.iadd, 1) := by decide +kernel
theorem dX4_rows_11 : decode cX4_rows 11 = .ok (.ireturn, 1) := by decide +kernel
theorem dX4_isRow_0 : decode cX4_isRow 0 = .ok (.aload_n 0, 1) := by decide +kernel
theorem dX4_isRow_1 : decode cX4_isRow 1 = .ok (.iload_n 1, 1) := by decide +kernel
theorem dX4_isRow_2 : decode cX4_isRow 2 = .ok (.invokevirtual 132, 3) := by decide +kernel
theorem dX4_isRow_5 : decode cX4_isRow 5 = .ok (.istore_n 2, 1) := by decide +kernel
theorem dX4_isRow_6 : decode cX4_isRow 6 = .ok (.iload_n 2, 1) := by decide +kernel
theorem dX4_isRow_7 : decode cX4_isRow 7 = .ok (.iconst 1, 1) := by decide +kernel
theorem dX4_isRow_8 : decode cX4_isRow 8 = .ok (.if_icmp .eq 8, 3) := by decide +kernel
theorem dX4_isRow_11 : decode cX4_isRow 11 = .ok (.iload_n 2, 1) := by decide +kernel
theorem dX4_isRow_12 : decode cX4_isRow 12 = .ok (.iconst 2, 1) := by decide +kernel
theorem dX4_isRow_13 : decode cX4_isRow 13 = .ok (.if_icmp .ne 7, 3) := by decide +kernel
theorem dX4_isRow_16 : decode cX4_isRow 16 = .ok (.iconst 1, 1) := by decide +kernel
theorem dX4_isRow_17 : decode cX4_isRow 17 = .ok (.goto 4, 3) := by decide +kernel
theorem dX4_isRow_20 : decode cX4_isRow 20 = .ok (.iconst 0, 1) := by decide +kernel
theorem dX4_isRow_21 : decode cX4_isRow 21 = .ok (.ireturn, 1) := by decide +kernel
theorem dX4_length_0 : decode cX4_length 0 = .ok (.aload_n 0, 1) := by decide +kernel
theorem dX4_length_1 : decode cX4_length 1 = .ok (.iload_n 1, 1) := by decide +kernel
theorem dX4_length_2 : decode cX4_length 2 = .ok (.invokevirtual 98, 3) := by decide +kernel
theorem dX4_length_5 : decode cX4_length 5 = .ok (.aload_n 0, 1) := by decide +kernel
theorem dX4_length_6 : decode cX4_length 6 = .ok (.aload_n 0, 1) := by decide +kernel
theorem dX4_length_7 : decode cX4_length 7 = .ok (.iload_n 1, 1) := by decide +kernel
theorem dX4_length_8 : decode cX4_length 8 = .ok (.invokevirtual 110, 3) := by decide +kernel
theorem dX4_length_11 : decode cX4_length 11 = .ok (.invokevirtual 113, 3) := by decide +kernel
theorem dX4_length_14 : decode cX4_length 14 = .ok (.ireturn, 1) := by decide +kernel
theorem dX4_byteOf_0 : decode cX4_byteOf 0 = .ok (.aload_n 0, 1) := by decide +kernel
theorem dX4_byteOf_1 : decode cX4_byteOf 1 = .ok (.iload_n 1, 1) := by decide +kernel
theorem dX4_byteOf_2 : decode cX4_byteOf 2 = .ok (.invokevirtual 98, 3) := by decide +kernel
theorem dX4_byteOf_5 : decode cX4_byteOf 5 = .ok (.aload_n 0, 1) := by decide +kernel
theorem dX4_byteOf_6 : decode cX4_byteOf 6 = .ok (.iload_n 1, 1) := by decide +kernel
theorem dX4_byteOf_7 : decode cX4_byteOf 7 = .ok (.invokevirtual 110, 3) := by decide +kernel
theorem dX4_byteOf_10 : decode cX4_byteOf 10 = .ok (.istore_n 3, 1) := by decide +kernel
theorem dX4_byteOf_11 : decode cX4_byteOf 11 = .ok (.iload_n 2, 1) := by decide +kernel
theorem dX4_byteOf_12 : decode cX4_byteOf 12 = .ok (.ifCond .lt 12, 3) := by decide +kernel
theorem dX4_byteOf_15 : decode cX4_byteOf 15 = .ok (.iload_n 2, 1) := by decide +kernel
theorem dX4_byteOf_16 : decode cX4_byteOf 16 = .ok (.aload_n 0, 1) := by decide +kernel
theorem dX4_byteOf_17 : decode cX4_byteOf 17 = .ok (.iload_n 3, 1) := by decide +kernel
theorem dX4_byteOf_18 : decode cX4_byteOf 18 = .ok (.invokevirtual 113, 3) := by decide +kernel
theorem dX4_byteOf_21 : decode cX4_byteOf 21 = .ok (.if_icmp .lt 13, 3) := by decide +kernel
theorem dX4_byteOf_24 : decode cX4_byteOf 24 = .ok (.new 135, 3) := by decide +kernel
theorem dX4_byteOf_27 : decode cX4_byteOf 27 = .ok (.dup, 1) := by decide +kernel
theorem dX4_byteOf_28 : decode cX4_byteOf 28 = .ok (.ldc 137, 2) := by decide +kernel
theorem dX4_byteOf_30 : decode cX4_byteOf 30 = .ok (.invokespecial 139, 3) := by decide +kernel
theorem dX4_byteOf_33 : decode cX4_byteOf 33 = .ok (.athrow, 1) := by decide +kernel
theorem dX4_byteOf_34 : decode cX4_byteOf 34 = .ok (.aload_n 0, 1) := by decide +kernel
theorem dX4_byteOf_35 : decode cX4_byteOf 35 = .ok (.iload_n 3, 1) := by decide +kernel
theorem dX4_byteOf_36 : decode cX4_byteOf 36 = .ok (.iload_n 2, 1) := by decide +kernel
theorem dX4_byteOf_37 : decode cX4_byteOf 37 = .ok (.invokevirtual 140, 3) := by decide +kernel
theorem dX4_byteOf_40 : decode cX4_byteOf 40 = .ok (.ireturn, 1) := by decide +kernel
theorem dX4_placeOf_0 : decode cX4_placeOf 0 = .ok (.aload_n 0, 1) := by decide +kernel
theorem dX4_placeOf_1 : decode cX4_placeOf 1 = .ok (.iload_n 1, 1) := by decide +kernel
theorem dX4_placeOf_2 : decode cX4_placeOf 2 = .ok (.invokevirtual 98, 3) := by decide +kernel
theorem dX4_placeOf_5 : decode cX4_placeOf 5 = .ok (.aload_n 0, 1) := by decide +kernel
theorem dX4_placeOf_6 : decode cX4_placeOf 6 = .ok (.iload_n 1, 1) := by decide +kernel
theorem dX4_placeOf_7 : decode cX4_placeOf 7 = .ok (.invokevirtual 110, 3) := by decide +kernel
theorem dX4_placeOf_10 : decode cX4_placeOf 10 = .ok (.ireturn, 1) := by decide +kernel
theorem dX4_next_0 : decode cX4_next 0 = .ok (.iconst 0, 1) := by decide +kernel
theorem dX4_next_1 : decode cX4_next 1 = .ok (.istore_n 2, 1) := by decide +kernel
theorem dX4_next_2 : decode cX4_next 2 = .ok (.iload_n 2, 1) := by decide +kernel
theorem dX4_next_3 : decode cX4_next 3 = .ok (.aload_n 0, 1) := by decide +kernel
theorem dX4_next_4 : decode cX4_next 4 = .ok (.getfield 20, 3) := by decide +kernel
theorem dX4_next_7 : decode cX4_next 7 = .ok (.getfield 143, 3) := by decide +kernel
theorem dX4_next_10 : decode cX4_next 10 = .ok (.if_icmp .ge 60, 3) := by decide +kernel
theorem dX4_next_13 : decode cX4_next 13 = .ok (.aload_n 0, 1) := by decide +kernel
theorem dX4_next_14 : decode cX4_next 14 = .ok (.getfield 20, 3) := by decide +kernel
theorem dX4_next_17 : decode cX4_next 17 = .ok (.iload_n 2, 1) := by decide +kernel
theorem dX4_next_18 : decode cX4_next 18 = .ok (.invokevirtual 146, 3) := by decide +kernel
theorem dX4_next_21 : decode cX4_next 21 = .ok (.istore_n 3, 1) := by decide +kernel
theorem dX4_next_22 : decode cX4_next 22 = .ok (.iconst 0, 1) := by decide +kernel
theorem dX4_next_23 : decode cX4_next 23 = .ok (.istore 4, 2) := by decide +kernel
theorem dX4_next_25 : decode cX4_next 25 = .ok (.iload 4, 2) := by decide +kernel
theorem dX4_next_27 : decode cX4_next 27 = .ok (.iload_n 3, 1) := by decide +kernel
theorem dX4_next_28 : decode cX4_next 28 = .ok (.if_icmp .ge 36, 3) := by decide +kernel
theorem dX4_next_31 : decode cX4_next 31 = .ok (.iload_n 2, 1) := by decide +kernel
theorem dX4_next_32 : decode cX4_next 32 = .ok (.iload 4, 2) := by decide +kernel
theorem dX4_next_34 : decode cX4_next 34 = .ok (.invokestatic 149, 3) := by decide +kernel
theorem dX4_next_37 : decode cX4_next 37 = .ok (.istore 5, 2) := by decide +kernel
theorem dX4_next_39 : decode cX4_next 39 = .ok (.iload 5, 2) := by decide +kernel
theorem dX4_next_41 : decode cX4_next 41 = .ok (.iload_n 1, 1) := by decide +kernel
theorem dX4_next_42 : decode cX4_next 42 = .ok (.if_icmp .le 16, 3) := by decide +kernel
theorem dX4_next_45 : decode cX4_next 45 = .ok (.aload_n 0, 1) := by decide +kernel
theorem dX4_next_46 : decode cX4_next 46 = .ok (.iload 5, 2) := by decide +kernel
theorem dX4_next_48 : decode cX4_next 48 = .ok (.invokevirtual 152, 3) := by decide +kernel
theorem dX4_next_51 : decode cX4_next 51 = .ok (.iconst (-1), 1) := by decide +kernel
theorem dX4_next_52 : decode cX4_next 52 = .ok (.if_icmp .eq 6, 3) := by decide +kernel
theorem dX4_next_55 : decode cX4_next 55 = .ok (.iload 5, 2) := by decide +kernel
theorem dX4_next_57 : decode cX4_next 57 = .ok (.ireturn, 1) := by decide +kernel
theorem dX4_next_58 : decode cX4_next 58 = .ok (.iinc 4 1, 3) := by decide +kernel
theorem dX4_next_61 : decode cX4_next 61 = .ok (.goto (-36), 3) := by decide +kernel
theorem dX4_next_64 : decode cX4_next 64 = .ok (.iinc 2 1, 3) := by decide +kernel
theorem dX4_next_67 : decode cX4_next 67 = .ok (.goto (-65), 3) := by decide +kernel
theorem dX4_next_70 : decode cX4_next 70 = .ok (.iconst (-1), 1) := by decide +kernel
theorem dX4_next_71 : decode cX4_next 71 = .ok (.ireturn, 1) := by decide +kernel
theorem dX4_rowAt_0 : decode cX4_rowAt 0 = .ok (.aload_n 0, 1) := by decide +kernel
theorem dX4_rowAt_1 : decode cX4_rowAt 1 = .ok (.iload_n 1, 1) := by decide +kernel
theorem dX4_rowAt_2 : decode cX4_rowAt 2 = .ok (.invokevirtual 132, 3) := by decide +kernel
theorem dX4_rowAt_5 : decode cX4_rowAt 5 = .ok (.istore_n 2, 1) := by decide +kernel
theorem dX4_rowAt_6 : decode cX4_rowAt 6 = .ok (.iload_n 2, 1) := by decide +kernel
theorem dX4_rowAt_7 : decode cX4_rowAt 7 = .ok (.iconst 1, 1) := by decide +kernel
theorem dX4_rowAt_8 : decode cX4_rowAt 8 = .ok (.if_icmp .ne 5, 3) := by decide +kernel
theorem dX4_rowAt_11 : decode cX4_rowAt 11 = .ok (.iload_n 1, 1) := by decide +kernel
theorem dX4_rowAt_12 : decode cX4_rowAt 12 = .ok (.ireturn, 1) := by decide +kernel
theorem dX4_rowAt_13 : decode cX4_rowAt 13 = .ok (.iload_n 2, 1) := by decide +kernel
theorem dX4_rowAt_14 : decode cX4_rowAt 14 = .ok (.iconst 3, 1) := by decide +kernel
theorem dX4_rowAt_15 : decode cX4_rowAt 15 = .ok (.if_icmp .ne 11, 3) := by decide +kernel
theorem dX4_rowAt_18 : decode cX4_rowAt 18 = .ok (.aload_n 0, 1) := by decide +kernel
theorem dX4_rowAt_19 : decode cX4_rowAt 19 = .ok (.iload_n 1, 1) := by decide +kernel
theorem dX4_rowAt_20 : decode cX4_rowAt 20 = .ok (.invokevirtual 155, 3) := by decide +kernel
theorem dX4_rowAt_23 : decode cX4_rowAt 23 = .ok (.goto 4, 3) := by decide +kernel
theorem dX4_rowAt_26 : decode cX4_rowAt 26 = .ok (.iconst (-1), 1) := by decide +kernel
theorem dX4_rowAt_27 : decode cX4_rowAt 27 = .ok (.ireturn, 1) := by decide +kernel
theorem dX4_pages_0 : decode cX4_pages 0 = .ok (.aload_n 0, 1) := by decide +kernel
theorem dX4_pages_1 : decode cX4_pages 1 = .ok (.getfield 20, 3) := by decide +kernel
theorem dX4_pages_4 : decode cX4_pages 4 = .ok (.getfield 143, 3) := by decide +kernel
theorem dX4_pages_7 : decode cX4_pages 7 = .ok (.ireturn, 1) := by decide +kernel
theorem dX4_pageByte_0 : decode cX4_pageByte 0 = .ok (.aload_n 0, 1) := by decide +kernel
theorem dX4_pageByte_1 : decode cX4_pageByte 1 = .ok (.iload_n 1, 1) := by decide +kernel
theorem dX4_pageByte_2 : decode cX4_pageByte 2 = .ok (.invokevirtual 123, 3) := by decide +kernel
theorem dX4_pageByte_5 : decode cX4_pageByte 5 = .ok (.iload_n 2, 1) := by decide +kernel
theorem dX4_pageByte_6 : decode cX4_pageByte 6 = .ok (.ifCond .lt 10, 3) := by decide +kernel
theorem dX4_pageByte_9 : decode cX4_pageByte 9 = .ok (.iload_n 2, 1) := by decide +kernel
theorem dX4_pageByte_10 : decode cX4_pageByte 10 = .ok (.sipush 128, 3) := by decide +kernel
theorem dX4_pageByte_13 : decode cX4_pageByte 13 = .ok (.if_icmp .lt 13, 3) := by decide +kernel
theorem dX4_pageByte_16 : decode cX4_pageByte 16 = .ok (.new 135, 3) := by decide +kernel
theorem dX4_pageByte_19 : decode cX4_pageByte 19 = .ok (.dup, 1) := by decide +kernel
theorem dX4_pageByte_20 : decode cX4_pageByte 20 = .ok (.ldc 137, 2) := by decide +kernel
theorem dX4_pageByte_22 : decode cX4_pageByte 22 = .ok (.invokespecial 139, 3) := by decide +kernel
theorem dX4_pageByte_25 : decode cX4_pageByte 25 = .ok (.athrow, 1) := by decide +kernel
theorem dX4_pageByte_26 : decode cX4_pageByte 26 = .ok (.aload_n 0, 1) := by decide +kernel
theorem dX4_pageByte_27 : decode cX4_pageByte 27 = .ok (.getfield 20, 3) := by decide +kernel
theorem dX4_pageByte_30 : decode cX4_pageByte 30 = .ok (.iload_n 1, 1) := by decide +kernel
theorem dX4_pageByte_31 : decode cX4_pageByte 31 = .ok (.iload_n 2, 1) := by decide +kernel
theorem dX4_pageByte_32 : decode cX4_pageByte 32 = .ok (.invokevirtual 158, 3) := by decide +kernel
theorem dX4_pageByte_35 : decode cX4_pageByte 35 = .ok (.ireturn, 1) := by decide +kernel
theorem dX4_free_0 : decode cX4_free 0 = .ok (.aload_n 0, 1) := by decide +kernel
theorem dX4_free_1 : decode cX4_free 1 = .ok (.iload_n 1, 1) := by decide +kernel
theorem dX4_free_2 : decode cX4_free 2 = .ok (.invokevirtual 123, 3) := by decide +kernel
theorem dX4_free_5 : decode cX4_free 5 = .ok (.aload_n 0, 1) := by decide +kernel
theorem dX4_free_6 : decode cX4_free 6 = .ok (.getfield 12, 3) := by decide +kernel
theorem dX4_free_9 : decode cX4_free 9 = .ok (.iload_n 1, 1) := by decide +kernel
theorem dX4_free_10 : decode cX4_free 10 = .ok (.invokevirtual 161, 3) := by decide +kernel
theorem dX4_free_13 : decode cX4_free 13 = .ok (.ireturn, 1) := by decide +kernel
theorem dX4_gap_0 : decode cX4_gap 0 = .ok (.aload_n 0, 1) := by decide +kernel
theorem dX4_gap_1 : decode cX4_gap 1 = .ok (.iload_n 1, 1) := by decide +kernel
theorem dX4_gap_2 : decode cX4_gap 2 = .ok (.invokevirtual 123, 3) := by decide +kernel
theorem dX4_gap_5 : decode cX4_gap 5 = .ok (.aload_n 0, 1) := by decide +kernel
theorem dX4_gap_6 : decode cX4_gap 6 = .ok (.getfield 12, 3) := by decide +kernel
theorem dX4_gap_9 : decode cX4_gap 9 = .ok (.iload_n 1, 1) := by decide +kernel
theorem dX4_gap_10 : decode cX4_gap 10 = .ok (.aload_n 0, 1) := by decide +kernel
theorem dX4_gap_11 : decode cX4_gap 11 = .ok (.getfield 20, 3) := by decide +kernel
theorem dX4_gap_14 : decode cX4_gap 14 = .ok (.iload_n 1, 1) := by decide +kernel
theorem dX4_gap_15 : decode cX4_gap 15 = .ok (.invokevirtual 146, 3) := by decide +kernel
theorem dX4_gap_18 : decode cX4_gap 18 = .ok (.invokevirtual 164, 3) := by decide +kernel
theorem dX4_gap_21 : decode cX4_gap 21 = .ok (.ireturn, 1) := by decide +kernel
theorem dX4_kind_0 : decode cX4_kind 0 = .ok (.iload_n 1, 1) := by decide +kernel
theorem dX4_kind_1 : decode cX4_kind 1 = .ok (.ifCond .ge 5, 3) := by decide +kernel
theorem dX4_kind_4 : decode cX4_kind 4 = .ok (.iconst 0, 1) := by decide +kernel
theorem dX4_kind_5 : decode cX4_kind 5 = .ok (.ireturn, 1) := by decide +kernel
theorem dX4_kind_6 : decode cX4_kind 6 = .ok (.iload_n 1, 1) := by decide +kernel
theorem dX4_kind_7 : decode cX4_kind 7 = .ok (.invokestatic 167, 3) := by decide +kernel
theorem dX4_kind_10 : decode cX4_kind 10 = .ok (.istore_n 2, 1) := by decide +kernel
theorem dX4_kind_11 : decode cX4_kind 11 = .ok (.iload_n 1, 1) := by decide +kernel
theorem dX4_kind_12 : decode cX4_kind 12 = .ok (.invokestatic 170, 3) := by decide +kernel
theorem dX4_kind_15 : decode cX4_kind 15 = .ok (.istore_n 3, 1) := by decide +kernel
theorem dX4_kind_16 : decode cX4_kind 16 = .ok (.iload_n 2, 1) := by decide +kernel
theorem dX4_kind_17 : decode cX4_kind 17 = .ok (.aload_n 0, 1) := by decide +kernel
theorem dX4_kind_18 : decode cX4_kind 18 = .ok (.getfield 20, 3) := by decide +kernel
theorem dX4_kind_21 : decode cX4_kind 21 = .ok (.getfield 143, 3) := by decide +kernel
theorem dX4_kind_24 : decode cX4_kind 24 = .ok (.if_icmp .ge 27, 3) := by decide +kernel
theorem dX4_kind_27 : decode cX4_kind 27 = .ok (.iload_n 3, 1) := by decide +kernel
theorem dX4_kind_28 : decode cX4_kind 28 = .ok (.aload_n 0, 1) := by decide +kernel
theorem dX4_kind_29 : decode cX4_kind 29 = .ok (.getfield 20, 3) := by decide +kernel
theorem dX4_kind_32 : decode cX4_kind 32 = .ok (.iload_n 2, 1) := by decide +kernel
theorem dX4_kind_33 : decode cX4_kind 33 = .ok (.invokevirtual 146, 3) := by decide +kernel
theorem dX4_kind_36 : decode cX4_kind 36 = .ok (.if_icmp .ge 15, 3) := by decide +kernel
theorem dX4_kind_39 : decode cX4_kind 39 = .ok (.aload_n 0, 1) := by decide +kernel
theorem dX4_kind_40 : decode cX4_kind 40 = .ok (.getfield 20, 3) := by decide +kernel
theorem dX4_kind_43 : decode cX4_kind 43 = .ok (.iload_n 2, 1) := by decide +kernel
theorem dX4_kind_44 : decode cX4_kind 44 = .ok (.iload_n 3, 1) := by decide +kernel
theorem dX4_kind_45 : decode cX4_kind 45 = .ok (.invokevirtual 173, 3) := by decide +kernel
theorem dX4_kind_48 : decode cX4_kind 48 = .ok (.ifCond .ne 5, 3) := by decide +kernel
theorem dX4_kind_51 : decode cX4_kind 51 = .ok (.iconst 0, 1) := by decide +kernel
theorem dX4_kind_52 : decode cX4_kind 52 = .ok (.ireturn, 1) := by decide +kernel
theorem dX4_kind_53 : decode cX4_kind 53 = .ok (.aload_n 0, 1) := by decide +kernel
theorem dX4_kind_54 : decode cX4_kind 54 = .ok (.getfield 20, 3) := by decide +kernel
theorem dX4_kind_57 : decode cX4_kind 57 = .ok (.iload_n 2, 1) := by decide +kernel
theorem dX4_kind_58 : decode cX4_kind 58 = .ok (.iload_n 3, 1) := by decide +kernel
theorem dX4_kind_59 : decode cX4_kind 59 = .ok (.iconst 0, 1) := by decide +kernel
theorem dX4_kind_60 : decode cX4_kind 60 = .ok (.invokevirtual 176, 3) := by decide +kernel
theorem dX4_kind_63 : decode cX4_kind 63 = .ok (.istore 4, 2) := by decide +kernel
theorem dX4_kind_65 : decode cX4_kind 65 = .ok (.iload 4, 2) := by decide +kernel
theorem dX4_kind_67 : decode cX4_kind 67 = .ok (.iconst 2, 1) := by decide +kernel
theorem dX4_kind_68 : decode cX4_kind 68 = .ok (.if_icmp .eq 9, 3) := by decide +kernel
theorem dX4_kind_71 : decode cX4_kind 71 = .ok (.iload 4, 2) := by decide +kernel
theorem dX4_kind_73 : decode cX4_kind 73 = .ok (.iconst 3, 1) := by decide +kernel
theorem dX4_kind_74 : decode cX4_kind 74 = .ok (.if_icmp .ne 8, 3) := by decide +kernel
theorem dX4_kind_77 : decode cX4_kind 77 = .ok (.iload 4, 2) := by decide +kernel
theorem dX4_kind_79 : decode cX4_kind 79 = .ok (.goto 4, 3) := by decide +kernel
theorem dX4_kind_82 : decode cX4_kind 82 = .ok (.iconst 1, 1) := by decide +kernel
theorem dX4_kind_83 : decode cX4_kind 83 = .ok (.ireturn, 1) := by decide +kernel
theorem dX4_notes_0 : decode cX4_notes 0 = .ok (.aload_n 0, 1) := by decide +kernel
theorem dX4_notes_1 : decode cX4_notes 1 = .ok (.iconst 2, 1) := by decide +kernel
theorem dX4_notes_2 : decode cX4_notes 2 = .ok (.invokevirtual 129, 3) := by decide +kernel
theorem dX4_notes_5 : decode cX4_notes 5 = .ok (.ireturn, 1) := by decide +kernel
theorem dX4_moves_0 : decode cX4_moves 0 = .ok (.aload_n 0, 1) := by decide +kernel
theorem dX4_moves_1 : decode cX4_moves 1 = .ok (.getfield 20, 3) := by decide +kernel
theorem dX4_moves_4 : decode cX4_moves 4 = .ok (.getfield 179, 3) := by decide +kernel
theorem dX4_moves_7 : decode cX4_moves 7 = .ok (.ireturn, 1) := by decide +kernel
theorem dX4_returns_0 : decode cX4_returns 0 = .ok (.aload_n 0, 1) := by decide +kernel
theorem dX4_returns_1 : decode cX4_returns 1 = .ok (.getfield 20, 3) := by decide +kernel
theorem dX4_returns_4 : decode cX4_returns 4 = .ok (.getfield 182, 3) := by decide +kernel
theorem dX4_returns_7 : decode cX4_returns 7 = .ok (.ireturn, 1) := by decide +kernel
theorem dX4_compactions_0 : decode cX4_compactions 0 = .ok (.aload_n 0, 1) := by decide +kernel
theorem dX4_compactions_1 : decode cX4_compactions 1 = .ok (.getfield 20, 3) := by decide +kernel
theorem dX4_compactions_4 : decode cX4_compactions 4 = .ok (.getfield 185, 3) := by decide +kernel
theorem dX4_compactions_7 : decode cX4_compactions 7 = .ok (.ireturn, 1) := by decide +kernel
theorem dX4_fillFactor_0 : decode cX4_fillFactor 0 = .ok (.aload_n 0, 1) := by decide +kernel
theorem dX4_fillFactor_1 : decode cX4_fillFactor 1 = .ok (.getfield 20, 3) := by decide +kernel
theorem dX4_fillFactor_4 : decode cX4_fillFactor 4 = .ok (.getfield 143, 3) := by decide +kernel
theorem dX4_fillFactor_7 : decode cX4_fillFactor 7 = .ok (.ifCond .gt 5, 3) := by decide +kernel
theorem dX4_fillFactor_10 : decode cX4_fillFactor 10 = .ok (.dconst 0, 1) := by decide +kernel
theorem dX4_fillFactor_11 : decode cX4_fillFactor 11 = .ok (.dreturn, 1) := by decide +kernel
theorem dX4_fillFactor_12 : decode cX4_fillFactor 12 = .ok (.iconst 0, 1) := by decide +kernel
theorem dX4_fillFactor_13 : decode cX4_fillFactor 13 = .ok (.istore_n 1, 1) := by decide +kernel
theorem dX4_fillFactor_14 : decode cX4_fillFactor 14 = .ok (.iconst 0, 1) := by decide +kernel
theorem dX4_fillFactor_15 : decode cX4_fillFactor 15 = .ok (.istore_n 2, 1) := by decide +kernel
theorem dX4_fillFactor_16 : decode cX4_fillFactor 16 = .ok (.iload_n 2, 1) := by decide +kernel
theorem dX4_fillFactor_17 : decode cX4_fillFactor 17 = .ok (.aload_n 0, 1) := by decide +kernel
theorem dX4_fillFactor_18 : decode cX4_fillFactor 18 = .ok (.getfield 20, 3) := by decide +kernel
theorem dX4_fillFactor_21 : decode cX4_fillFactor 21 = .ok (.getfield 143, 3) := by decide +kernel
theorem dX4_fillFactor_24 : decode cX4_fillFactor 24 = .ok (.if_icmp .ge 20, 3) := by decide +kernel
theorem dX4_fillFactor_27 : decode cX4_fillFactor 27 = .ok (.iload_n 1, 1) := by decide +kernel
theorem dX4_fillFactor_28 : decode cX4_fillFactor 28 = .ok (.aload_n 0, 1) := by decide +kernel
theorem dX4_fillFactor_29 : decode cX4_fillFactor 29 = .ok (.getfield 12, 3) := by decide +kernel
theorem dX4_fillFactor_32 : decode cX4_fillFactor 32 = .ok (.iload_n 2, 1) := by decide +kernel
theorem dX4_fillFactor_33 : decode cX4_fillFactor 33 = .ok (.invokevirtual 188, 3) := by decide +kernel
theorem dX4_fillFactor_36 : decode cX4_fillFactor 36 = .ok (.iadd, 1) := by decide +kernel
theorem dX4_fillFactor_37 : decode cX4_fillFactor 37 = .ok (.istore_n 1, 1) := by decide +kernel
theorem dX4_fillFactor_38 : decode cX4_fillFactor 38 = .ok (.iinc 2 1, 3) := by decide +kernel
theorem dX4_fillFactor_41 : decode cX4_fillFactor 41 = .ok (.goto (-25), 3) := by decide +kernel
theorem dX4_fillFactor_44 : decode cX4_fillFactor 44 = .ok (.iload_n 1, 1) := by decide +kernel
theorem dX4_fillFactor_45 : decode cX4_fillFactor 45 = .ok (.i2d, 1) := by decide +kernel
theorem dX4_fillFactor_46 : decode cX4_fillFactor 46 = .ok (.sipush 128, 3) := by decide +kernel
theorem dX4_fillFactor_49 : decode cX4_fillFactor 49 = .ok (.aload_n 0, 1) := by decide +kernel
theorem dX4_fillFactor_50 : decode cX4_fillFactor 50 = .ok (.getfield 20, 3) := by decide +kernel
theorem dX4_fillFactor_53 : decode cX4_fillFactor 53 = .ok (.getfield 143, 3) := by decide +kernel
theorem dX4_fillFactor_56 : decode cX4_fillFactor 56 = .ok (.imul, 1) := by decide +kernel
theorem dX4_fillFactor_57 : decode cX4_fillFactor 57 = .ok (.i2d, 1) := by decide +kernel
theorem dX4_fillFactor_58 : decode cX4_fillFactor 58 = .ok (.ddiv, 1) := by decide +kernel
theorem dX4_fillFactor_59 : decode cX4_fillFactor 59 = .ok (.dreturn, 1) := by decide +kernel
theorem dX4_ifInserted_0 : decode cX4_ifInserted 0 = .ok (.iload_n 1, 1) := by decide +kernel
theorem dX4_ifInserted_1 : decode cX4_ifInserted 1 = .ok (.invokestatic 191, 3) := by decide +kernel
theorem dX4_ifInserted_4 : decode cX4_ifInserted 4 = .ok (.aload_n 0, 1) := by decide +kernel
theorem dX4_ifInserted_5 : decode cX4_ifInserted 5 = .ok (.getfield 12, 3) := by decide +kernel
theorem dX4_ifInserted_8 : decode cX4_ifInserted 8 = .ok (.iload_n 1, 1) := by decide +kernel
theorem dX4_ifInserted_9 : decode cX4_ifInserted 9 = .ok (.invokestatic 78, 3) := by decide +kernel
theorem dX4_ifInserted_12 : decode cX4_ifInserted 12 = .ok (.iconst (-1), 1) := by decide +kernel
theorem dX4_ifInserted_13 : decode cX4_ifInserted 13 = .ok (.iconst (-1), 1) := by decide +kernel
theorem dX4_ifInserted_14 : decode cX4_ifInserted 14 = .ok (.invokevirtual 82, 3) := by decide +kernel
theorem dX4_ifInserted_17 : decode cX4_ifInserted 17 = .ok (.istore_n 2, 1) := by decide +kernel
theorem dX4_ifInserted_18 : decode cX4_ifInserted 18 = .ok (.iload_n 2, 1) := by decide +kernel
theorem dX4_ifInserted_19 : decode cX4_ifInserted 19 = .ok (.iconst (-1), 1) := by decide +kernel
theorem dX4_ifInserted_20 : decode cX4_ifInserted 20 = .ok (.if_icmp .ne 7, 3) := by decide +kernel
theorem dX4_ifInserted_23 : decode cX4_ifInserted 23 = .ok (.iconst (-1), 1) := by decide +kernel
theorem dX4_ifInserted_24 : decode cX4_ifInserted 24 = .ok (.goto 15, 3) := by decide +kernel
theorem dX4_ifInserted_27 : decode cX4_ifInserted 27 = .ok (.iload_n 2, 1) := by decide +kernel
theorem dX4_ifInserted_28 : decode cX4_ifInserted 28 = .ok (.aload_n 0, 1) := by decide +kernel
theorem dX4_ifInserted_29 : decode cX4_ifInserted 29 = .ok (.getfield 12, 3) := by decide +kernel
theorem dX4_ifInserted_32 : decode cX4_ifInserted 32 = .ok (.iload_n 2, 1) := by decide +kernel
theorem dX4_ifInserted_33 : decode cX4_ifInserted 33 = .ok (.invokevirtual 194, 3) := by decide +kernel
theorem dX4_ifInserted_36 : decode cX4_ifInserted 36 = .ok (.invokestatic 149, 3) := by decide +kernel
theorem dX4_ifInserted_39 : decode cX4_ifInserted 39 = .ok (.ireturn, 1) := by decide +kernel
theorem dX4_ifUpdated_0 : decode cX4_ifUpdated 0 = .ok (.aload_n 0, 1) := by decide +kernel
theorem dX4_ifUpdated_1 : decode cX4_ifUpdated 1 = .ok (.iload_n 1, 1) := by decide +kernel
theorem dX4_ifUpdated_2 : decode cX4_ifUpdated 2 = .ok (.invokevirtual 98, 3) := by decide +kernel
theorem dX4_ifUpdated_5 : decode cX4_ifUpdated 5 = .ok (.iload_n 2, 1) := by decide +kernel
theorem dX4_ifUpdated_6 : decode cX4_ifUpdated 6 = .ok (.invokestatic 191, 3) := by decide +kernel
theorem dX4_ifUpdated_9 : decode cX4_ifUpdated 9 = .ok (.aload_n 0, 1) := by decide +kernel
theorem dX4_ifUpdated_10 : decode cX4_ifUpdated 10 = .ok (.iload_n 1, 1) := by decide +kernel
theorem dX4_ifUpdated_11 : decode cX4_ifUpdated 11 = .ok (.iload_n 2, 1) := by decide +kernel
theorem dX4_ifUpdated_12 : decode cX4_ifUpdated 12 = .ok (.invokevirtual 101, 3) := by decide +kernel
theorem dX4_ifUpdated_15 : decode cX4_ifUpdated 15 = .ok (.ireturn, 1) := by decide +kernel
theorem dX4_greatestAtHome_0 : decode cX4_greatestAtHome 0 = .ok (.aload_n 0, 1) := by decide +kernel
theorem dX4_greatestAtHome_1 : decode cX4_greatestAtHome 1 = .ok (.iload_n 1, 1) := by decide +kernel
theorem dX4_greatestAtHome_2 : decode cX4_greatestAtHome 2 = .ok (.invokevirtual 98, 3) := by decide +kernel
theorem dX4_greatestAtHome_5 : decode cX4_greatestAtHome 5 = .ok (.bipush 60, 2) := by decide +kernel
theorem dX4_greatestAtHome_7 : decode cX4_greatestAtHome 7 = .ok (.aload_n 0, 1) := by decide +kernel
theorem dX4_greatestAtHome_8 : decode cX4_greatestAtHome 8 = .ok (.iload_n 1, 1) := by decide +kernel
theorem dX4_greatestAtHome_9 : decode cX4_greatestAtHome 9 = .ok (.invokevirtual 197, 3) := by decide +kernel
theorem dX4_greatestAtHome_12 : decode cX4_greatestAtHome 12 = .ok (.iconst 1, 1) := by decide +kernel
theorem dX4_greatestAtHome_13 : decode cX4_greatestAtHome 13 = .ok (.isub, 1) := by decide +kernel
theorem dX4_greatestAtHome_14 : decode cX4_greatestAtHome 14 = .ok (.invokestatic 200, 3) := by decide +kernel
theorem dX4_greatestAtHome_17 : decode cX4_greatestAtHome 17 = .ok (.ireturn, 1) := by decide +kernel
theorem dX4_capacity_0 : decode cX4_capacity 0 = .ok (.iload_n 1, 1) := by decide +kernel
theorem dX4_capacity_1 : decode cX4_capacity 1 = .ok (.invokestatic 191, 3) := by decide +kernel
theorem dX4_capacity_4 : decode cX4_capacity 4 = .ok (.iload_n 1, 1) := by decide +kernel
theorem dX4_capacity_5 : decode cX4_capacity 5 = .ok (.invokestatic 78, 3) := by decide +kernel
theorem dX4_capacity_8 : decode cX4_capacity 8 = .ok (.istore_n 2, 1) := by decide +kernel
theorem dX4_capacity_9 : decode cX4_capacity 9 = .ok (.iconst 0, 1) := by decide +kernel
theorem dX4_capacity_10 : decode cX4_capacity 10 = .ok (.istore_n 3, 1) := by decide +kernel
theorem dX4_capacity_11 : decode cX4_capacity 11 = .ok (.iconst 0, 1) := by decide +kernel
theorem dX4_capacity_12 : decode cX4_capacity 12 = .ok (.istore 4, 2) := by decide +kernel
theorem dX4_capacity_14 : decode cX4_capacity 14 = .ok (.iload 4, 2) := by decide +kernel
theorem dX4_capacity_16 : decode cX4_capacity 16 = .ok (.bipush 8, 2) := by decide +kernel
theorem dX4_capacity_18 : decode cX4_capacity 18 = .ok (.if_icmp .ge 22, 3) := by decide +kernel
theorem dX4_capacity_21 : decode cX4_capacity 21 = .ok (.iload_n 3, 1) := by decide +kernel
theorem dX4_capacity_22 : decode cX4_capacity 22 = .ok (.aload_n 0, 1) := by decide +kernel
theorem dX4_capacity_23 : decode cX4_capacity 23 = .ok (.getfield 12, 3) := by decide +kernel
theorem dX4_capacity_26 : decode cX4_capacity 26 = .ok (.iload 4, 2) := by decide +kernel
theorem dX4_capacity_28 : decode cX4_capacity 28 = .ok (.iload_n 2, 1) := by decide +kernel
theorem dX4_capacity_29 : decode cX4_capacity 29 = .ok (.invokevirtual 205, 3) := by decide +kernel
theorem dX4_capacity_32 : decode cX4_capacity 32 = .ok (.iadd, 1) := by decide +kernel
theorem dX4_capacity_33 : decode cX4_capacity 33 = .ok (.istore_n 3, 1) := by decide +kernel
theorem dX4_capacity_34 : decode cX4_capacity 34 = .ok (.iinc 4 1, 3) := by decide +kernel
theorem dX4_capacity_37 : decode cX4_capacity 37 = .ok (.goto (-23), 3) := by decide +kernel
theorem dX4_capacity_40 : decode cX4_capacity 40 = .ok (.iload_n 3, 1) := by decide +kernel
theorem dX4_capacity_41 : decode cX4_capacity 41 = .ok (.ireturn, 1) := by decide +kernel
theorem dX4_firstError_0 : decode cX4_firstError 0 = .ok (.aload_n 0, 1) := by decide +kernel
theorem dX4_firstError_1 : decode cX4_firstError 1 = .ok (.getfield 39, 3) := by decide +kernel
theorem dX4_firstError_4 : decode cX4_firstError 4 = .ok (.invokevirtual 208, 3) := by decide +kernel
theorem dX4_firstError_7 : decode cX4_firstError 7 = .ok (.iconst 0, 1) := by decide +kernel
theorem dX4_firstError_8 : decode cX4_firstError 8 = .ok (.istore_n 1, 1) := by decide +kernel
theorem dX4_firstError_9 : decode cX4_firstError 9 = .ok (.iload_n 1, 1) := by decide +kernel
theorem dX4_firstError_10 : decode cX4_firstError 10 = .ok (.aload_n 0, 1) := by decide +kernel
theorem dX4_firstError_11 : decode cX4_firstError 11 = .ok (.getfield 26, 3) := by decide +kernel
theorem dX4_firstError_14 : decode cX4_firstError 14 = .ok (.getfield 54, 3) := by decide +kernel
theorem dX4_firstError_17 : decode cX4_firstError 17 = .ok (.if_icmp .ge 29, 3) := by decide +kernel
theorem dX4_firstError_20 : decode cX4_firstError 20 = .ok (.aload_n 0, 1) := by decide +kernel
theorem dX4_firstError_21 : decode cX4_firstError 21 = .ok (.getfield 39, 3) := by decide +kernel
theorem dX4_firstError_24 : decode cX4_firstError 24 = .ok (.aload_n 0, 1) := by decide +kernel
theorem dX4_firstError_25 : decode cX4_firstError 25 = .ok (.getfield 26, 3) := by decide +kernel
theorem dX4_firstError_28 : decode cX4_firstError 28 = .ok (.iload_n 1, 1) := by decide +kernel
theorem dX4_firstError_29 : decode cX4_firstError 29 = .ok (.invokevirtual 211, 3) := by decide +kernel
theorem dX4_firstError_32 : decode cX4_firstError 32 = .ok (.invokevirtual 214, 3) := by decide +kernel
theorem dX4_firstError_35 : decode cX4_firstError 35 = .ok (.ifCond .ne 5, 3) := by decide +kernel
theorem dX4_firstError_38 : decode cX4_firstError 38 = .ok (.iload_n 1, 1) := by decide +kernel
theorem dX4_firstError_39 : decode cX4_firstError 39 = .ok (.ireturn, 1) := by decide +kernel
theorem dX4_firstError_40 : decode cX4_firstError 40 = .ok (.iinc 1 1, 3) := by decide +kernel
theorem dX4_firstError_43 : decode cX4_firstError 43 = .ok (.goto (-34), 3) := by decide +kernel
theorem dX4_firstError_46 : decode cX4_firstError 46 = .ok (.aload_n 0, 1) := by decide +kernel
theorem dX4_firstError_47 : decode cX4_firstError 47 = .ok (.getfield 26, 3) := by decide +kernel
theorem dX4_firstError_50 : decode cX4_firstError 50 = .ok (.getfield 54, 3) := by decide +kernel
theorem dX4_firstError_53 : decode cX4_firstError 53 = .ok (.ireturn, 1) := by decide +kernel
theorem dX4_run_0 : decode cX4_run 0 = .ok (.aload_n 0, 1) := by decide +kernel
theorem dX4_run_1 : decode cX4_run 1 = .ok (.invokevirtual 218, 3) := by decide +kernel
theorem dX4_run_4 : decode cX4_run 4 = .ok (.aload_n 0, 1) := by decide +kernel
theorem dX4_run_5 : decode cX4_run 5 = .ok (.getfield 26, 3) := by decide +kernel
theorem dX4_run_8 : decode cX4_run 8 = .ok (.getfield 54, 3) := by decide +kernel
theorem dX4_run_11 : decode cX4_run 11 = .ok (.if_icmp .lt 13, 3) := by decide +kernel
theorem dX4_run_14 : decode cX4_run 14 = .ok (.aload_n 0, 1) := by decide +kernel
theorem dX4_run_15 : decode cX4_run 15 = .ok (.getfield 39, 3) := by decide +kernel
theorem dX4_run_18 : decode cX4_run 18 = .ok (.invokevirtual 221, 3) := by decide +kernel
theorem dX4_run_21 : decode cX4_run 21 = .ok (.ifCond .ne 13, 3) := by decide +kernel
theorem dX4_run_24 : decode cX4_run 24 = .ok (.new 61, 3) := by decide +kernel
theorem dX4_run_27 : decode cX4_run 27 = .ok (.dup, 1) := by decide +kernel
theorem dX4_run_28 : decode cX4_run 28 = .ok (.ldc 225, 2) := by decide +kernel
theorem dX4_run_30 : decode cX4_run 30 = .ok (.invokespecial 65, 3) := by decide +kernel
theorem dX4_run_33 : decode cX4_run 33 = .ok (.athrow, 1) := by decide +kernel
theorem dX4_run_34 : decode cX4_run 34 = .ok (.aload_n 0, 1) := by decide +kernel
theorem dX4_run_35 : decode cX4_run 35 = .ok (.invokevirtual 88, 3) := by decide +kernel
theorem dX4_run_38 : decode cX4_run 38 = .ok (.iconst 0, 1) := by decide +kernel
theorem dX4_run_39 : decode cX4_run 39 = .ok (.istore_n 1, 1) := by decide +kernel
theorem dX4_run_40 : decode cX4_run 40 = .ok (.iconst 0, 1) := by decide +kernel
theorem dX4_run_41 : decode cX4_run 41 = .ok (.istore_n 2, 1) := by decide +kernel
theorem dX4_run_42 : decode cX4_run 42 = .ok (.iconst 1, 1) := by decide +kernel
theorem dX4_run_43 : decode cX4_run 43 = .ok (.istore_n 3, 1) := by decide +kernel
theorem dX4_run_44 : decode cX4_run 44 = .ok (.iconst 0, 1) := by decide +kernel
theorem dX4_run_45 : decode cX4_run 45 = .ok (.istore 4, 2) := by decide +kernel
theorem dX4_run_47 : decode cX4_run 47 = .ok (.iload 4, 2) := by decide +kernel
theorem dX4_run_49 : decode cX4_run 49 = .ok (.aload_n 0, 1) := by decide +kernel
theorem dX4_run_50 : decode cX4_run 50 = .ok (.getfield 26, 3) := by decide +kernel
theorem dX4_run_53 : decode cX4_run 53 = .ok (.getfield 54, 3) := by decide +kernel
theorem dX4_run_56 : decode cX4_run 56 = .ok (.if_icmp .gt 64, 3) := by decide +kernel
theorem dX4_run_59 : decode cX4_run 59 = .ok (.iload_n 3, 1) := by decide +kernel
theorem dX4_run_60 : decode cX4_run 60 = .ok (.ifCond .eq 60, 3) := by decide +kernel
theorem dX4_run_63 : decode cX4_run 63 = .ok (.iload 4, 2) := by decide +kernel
theorem dX4_run_65 : decode cX4_run 65 = .ok (.aload_n 0, 1) := by decide +kernel
theorem dX4_run_66 : decode cX4_run 66 = .ok (.getfield 26, 3) := by decide +kernel
theorem dX4_run_69 : decode cX4_run 69 = .ok (.getfield 54, 3) := by decide +kernel
theorem dX4_run_72 : decode cX4_run 72 = .ok (.if_icmp .eq 17, 3) := by decide +kernel
theorem dX4_run_75 : decode cX4_run 75 = .ok (.aload_n 0, 1) := by decide +kernel
theorem dX4_run_76 : decode cX4_run 76 = .ok (.getfield 26, 3) := by decide +kernel
theorem dX4_run_79 : decode cX4_run 79 = .ok (.iload 4, 2) := by decide +kernel
theorem dX4_run_81 : decode cX4_run 81 = .ok (.invokevirtual 211, 3) := by decide +kernel
theorem dX4_run_84 : decode cX4_run 84 = .ok (.bipush 59, 2) := by decide +kernel
theorem dX4_run_86 : decode cX4_run 86 = .ok (.if_icmp .ne 28, 3) := by decide +kernel
theorem dX4_run_89 : decode cX4_run 89 = .ok (.aload_n 0, 1) := by decide +kernel
theorem dX4_run_90 : decode cX4_run 90 = .ok (.iload_n 2, 1) := by decide +kernel
theorem dX4_run_91 : decode cX4_run 91 = .ok (.iload 4, 2) := by decide +kernel
theorem dX4_run_93 : decode cX4_run 93 = .ok (.invokevirtual 227, 3) := by decide +kernel
theorem dX4_run_96 : decode cX4_run 96 = .ok (.istore_n 3, 1) := by decide +kernel
theorem dX4_run_97 : decode cX4_run 97 = .ok (.iload_n 1, 1) := by decide +kernel
theorem dX4_run_98 : decode cX4_run 98 = .ok (.iload_n 3, 1) := by decide +kernel
theorem dX4_run_99 : decode cX4_run 99 = .ok (.ifCond .eq 7, 3) := by decide +kernel
theorem dX4_run_102 : decode cX4_run 102 = .ok (.iconst 1, 1) := by decide +kernel
theorem dX4_run_103 : decode cX4_run 103 = .ok (.goto 4, 3) := by decide +kernel
theorem dX4_run_106 : decode cX4_run 106 = .ok (.iconst 0, 1) := by decide +kernel
theorem dX4_run_107 : decode cX4_run 107 = .ok (.iadd, 1) := by decide +kernel
theorem dX4_run_108 : decode cX4_run 108 = .ok (.istore_n 1, 1) := by decide +kernel
theorem dX4_run_109 : decode cX4_run 109 = .ok (.iload 4, 2) := by decide +kernel
theorem dX4_run_111 : decode cX4_run 111 = .ok (.iconst 1, 1) := by decide +kernel
theorem dX4_run_112 : decode cX4_run 112 = .ok (.iadd, 1) := by decide +kernel
theorem dX4_run_113 : decode cX4_run 113 = .ok (.istore_n 2, 1) := by decide +kernel
theorem dX4_run_114 : decode cX4_run 114 = .ok (.iinc 4 1, 3) := by decide +kernel
theorem dX4_run_117 : decode cX4_run 117 = .ok (.goto (-70), 3) := by decide +kernel
theorem dX4_run_120 : decode cX4_run 120 = .ok (.aload_n 0, 1) := by decide +kernel
theorem dX4_run_121 : decode cX4_run 121 = .ok (.getfield 26, 3) := by decide +kernel
theorem dX4_run_124 : decode cX4_run 124 = .ok (.invokevirtual 58, 3) := by decide +kernel
theorem dX4_run_127 : decode cX4_run 127 = .ok (.iload_n 1, 1) := by decide +kernel
theorem dX4_run_128 : decode cX4_run 128 = .ok (.ireturn, 1) := by decide +kernel
theorem dX4_undo_0 : decode cX4_undo 0 = .ok (.aload_n 0, 1) := by decide +kernel
theorem dX4_undo_1 : decode cX4_undo 1 = .ok (.getfield 231, 3) := by decide +kernel
theorem dX4_undo_4 : decode cX4_undo 4 = .ok (.ifCond .le 15, 3) := by decide +kernel
theorem dX4_undo_7 : decode cX4_undo 7 = .ok (.aload_n 0, 1) := by decide +kernel
theorem dX4_undo_8 : decode cX4_undo 8 = .ok (.getfield 231, 3) := by decide +kernel
theorem dX4_undo_11 : decode cX4_undo 11 = .ok (.aload_n 0, 1) := by decide +kernel
theorem dX4_undo_12 : decode cX4_undo 12 = .ok (.getfield 45, 3) := by decide +kernel
theorem dX4_undo_15 : decode cX4_undo 15 = .ok (.arraylength, 1) := by decide +kernel
theorem dX4_undo_16 : decode cX4_undo 16 = .ok (.if_icmp .le 13, 3) := by decide +kernel
theorem dX4_undo_19 : decode cX4_undo 19 = .ok (.new 70, 3) := by decide +kernel
theorem dX4_undo_22 : decode cX4_undo 22 = .ok (.dup, 1) := by decide +kernel
theorem dX4_undo_23 : decode cX4_undo 23 = .ok (.ldc 234, 2) := by decide +kernel
theorem dX4_undo_25 : decode cX4_undo 25 = .ok (.invokespecial 74, 3) := by decide +kernel
theorem dX4_undo_28 : decode cX4_undo 28 = .ok (.athrow, 1) := by decide +kernel
theorem dX4_undo_29 : decode cX4_undo 29 = .ok (.aload_n 0, 1) := by decide +kernel
theorem dX4_undo_30 : decode cX4_undo 30 = .ok (.dup, 1) := by decide +kernel
theorem dX4_undo_31 : decode cX4_undo 31 = .ok (.getfield 231, 3) := by decide +kernel
theorem dX4_undo_34 : decode cX4_undo 34 = .ok (.iconst 1, 1) := by decide +kernel
theorem dX4_undo_35 : decode cX4_undo 35 = .ok (.isub, 1) := by decide +kernel
theorem dX4_undo_36 : decode cX4_undo 36 = .ok (.putfield 231, 3) := by decide +kernel
theorem dX4_undo_39 : decode cX4_undo 39 = .ok (.aload_n 0, 1) := by decide +kernel
theorem dX4_undo_40 : decode cX4_undo 40 = .ok (.getfield 20, 3) := by decide +kernel
theorem dX4_undo_43 : decode cX4_undo 43 = .ok (.aload_n 0, 1) := by decide +kernel
theorem dX4_undo_44 : decode cX4_undo 44 = .ok (.getfield 45, 3) := by decide +kernel
theorem dX4_undo_47 : decode cX4_undo 47 = .ok (.aload_n 0, 1) := by decide +kernel
theorem dX4_undo_48 : decode cX4_undo 48 = .ok (.getfield 231, 3) := by decide +kernel
theorem dX4_undo_51 : decode cX4_undo 51 = .ok (.aaload, 1) := by decide +kernel
theorem dX4_undo_52 : decode cX4_undo 52 = .ok (.invokevirtual 236, 3) := by decide +kernel
theorem dX4_undo_55 : decode cX4_undo 55 = .ok (.aload_n 0, 1) := by decide +kernel
theorem dX4_undo_56 : decode cX4_undo 56 = .ok (.getfield 231, 3) := by decide +kernel
theorem dX4_undo_59 : decode cX4_undo 59 = .ok (.ireturn, 1) := by decide +kernel
theorem dX4_savedStates_0 : decode cX4_savedStates 0 = .ok (.aload_n 0, 1) := by decide +kernel
theorem dX4_savedStates_1 : decode cX4_savedStates 1 = .ok (.getfield 231, 3) := by decide +kernel
theorem dX4_savedStates_4 : decode cX4_savedStates 4 = .ok (.ireturn, 1) := by decide +kernel
theorem dX4_digest_0 : decode cX4_digest 0 = .ok (.ldc2_w 240, 3) := by decide +kernel
theorem dX4_digest_3 : decode cX4_digest 3 = .ok (.lstore_n 1, 1) := by decide +kernel
theorem dX4_digest_4 : decode cX4_digest 4 = .ok (.ldc2_w 242, 3) := by decide +kernel
theorem dX4_digest_7 : decode cX4_digest 7 = .ok (.lload_n 1, 1) := by decide +kernel
theorem dX4_digest_8 : decode cX4_digest 8 = .ok (.lmul, 1) := by decide +kernel
theorem dX4_digest_9 : decode cX4_digest 9 = .ok (.aload_n 0, 1) := by decide +kernel
theorem dX4_digest_10 : decode cX4_digest 10 = .ok (.getfield 20, 3) := by decide +kernel
theorem dX4_digest_13 : decode cX4_digest 13 = .ok (.getfield 143, 3) := by decide +kernel
theorem dX4_digest_16 : decode cX4_digest 16 = .ok (.i2l, 1) := by decide +kernel
theorem dX4_digest_17 : decode cX4_digest 17 = .ok (.ladd, 1) := by decide +kernel
theorem dX4_digest_18 : decode cX4_digest 18 = .ok (.lstore_n 1, 1) := by decide +kernel
theorem dX4_digest_19 : decode cX4_digest 19 = .ok (.ldc2_w 242, 3) := by decide +kernel
theorem dX4_digest_22 : decode cX4_digest 22 = .ok (.lload_n 1, 1) := by decide +kernel
theorem dX4_digest_23 : decode cX4_digest 23 = .ok (.lmul, 1) := by decide +kernel
theorem dX4_digest_24 : decode cX4_digest 24 = .ok (.aload_n 0, 1) := by decide +kernel
theorem dX4_digest_25 : decode cX4_digest 25 = .ok (.invokevirtual 244, 3) := by decide +kernel
theorem dX4_digest_28 : decode cX4_digest 28 = .ok (.i2l, 1) := by decide +kernel
theorem dX4_digest_29 : decode cX4_digest 29 = .ok (.ladd, 1) := by decide +kernel
theorem dX4_digest_30 : decode cX4_digest 30 = .ok (.lstore_n 1, 1) := by decide +kernel
theorem dX4_digest_31 : decode cX4_digest 31 = .ok (.ldc2_w 242, 3) := by decide +kernel
theorem dX4_digest_34 : decode cX4_digest 34 = .ok (.lload_n 1, 1) := by decide +kernel
theorem dX4_digest_35 : decode cX4_digest 35 = .ok (.lmul, 1) := by decide +kernel
theorem dX4_digest_36 : decode cX4_digest 36 = .ok (.aload_n 0, 1) := by decide +kernel
theorem dX4_digest_37 : decode cX4_digest 37 = .ok (.invokevirtual 247, 3) := by decide +kernel
theorem dX4_digest_40 : decode cX4_digest 40 = .ok (.i2l, 1) := by decide +kernel
theorem dX4_digest_41 : decode cX4_digest 41 = .ok (.ladd, 1) := by decide +kernel
theorem dX4_digest_42 : decode cX4_digest 42 = .ok (.lstore_n 1, 1) := by decide +kernel
theorem dX4_digest_43 : decode cX4_digest 43 = .ok (.ldc2_w 242, 3) := by decide +kernel
theorem dX4_digest_46 : decode cX4_digest 46 = .ok (.lload_n 1, 1) := by decide +kernel
theorem dX4_digest_47 : decode cX4_digest 47 = .ok (.lmul, 1) := by decide +kernel
theorem dX4_digest_48 : decode cX4_digest 48 = .ok (.aload_n 0, 1) := by decide +kernel
theorem dX4_digest_49 : decode cX4_digest 49 = .ok (.getfield 20, 3) := by decide +kernel
theorem dX4_digest_52 : decode cX4_digest 52 = .ok (.getfield 179, 3) := by decide +kernel
theorem dX4_digest_55 : decode cX4_digest 55 = .ok (.i2l, 1) := by decide +kernel
theorem dX4_digest_56 : decode cX4_digest 56 = .ok (.ladd, 1) := by decide +kernel
theorem dX4_digest_57 : decode cX4_digest 57 = .ok (.lstore_n 1, 1) := by decide +kernel
theorem dX4_digest_58 : decode cX4_digest 58 = .ok (.ldc2_w 242, 3) := by decide +kernel
theorem dX4_digest_61 : decode cX4_digest 61 = .ok (.lload_n 1, 1) := by decide +kernel
theorem dX4_digest_62 : decode cX4_digest 62 = .ok (.lmul, 1) := by decide +kernel
theorem dX4_digest_63 : decode cX4_digest 63 = .ok (.aload_n 0, 1) := by decide +kernel
theorem dX4_digest_64 : decode cX4_digest 64 = .ok (.getfield 20, 3) := by decide +kernel
theorem dX4_digest_67 : decode cX4_digest 67 = .ok (.getfield 182, 3) := by decide +kernel
theorem dX4_digest_70 : decode cX4_digest 70 = .ok (.i2l, 1) := by decide +kernel
theorem dX4_digest_71 : decode cX4_digest 71 = .ok (.ladd, 1) := by decide +kernel
theorem dX4_digest_72 : decode cX4_digest 72 = .ok (.lstore_n 1, 1) := by decide +kernel
theorem dX4_digest_73 : decode cX4_digest 73 = .ok (.ldc2_w 242, 3) := by decide +kernel
theorem dX4_digest_76 : decode cX4_digest 76 = .ok (.lload_n 1, 1) := by decide +kernel
theorem dX4_digest_77 : decode cX4_digest 77 = .ok (.lmul, 1) := by decide +kernel
theorem dX4_digest_78 : decode cX4_digest 78 = .ok (.aload_n 0, 1) := by decide +kernel
theorem dX4_digest_79 : decode cX4_digest 79 = .ok (.getfield 20, 3) := by decide +kernel
theorem dX4_digest_82 : decode cX4_digest 82 = .ok (.getfield 185, 3) := by decide +kernel
theorem dX4_digest_85 : decode cX4_digest 85 = .ok (.i2l, 1) := by decide +kernel
theorem dX4_digest_86 : decode cX4_digest 86 = .ok (.ladd, 1) := by decide +kernel
theorem dX4_digest_87 : decode cX4_digest 87 = .ok (.lstore_n 1, 1) := by decide +kernel
theorem dX4_digest_88 : decode cX4_digest 88 = .ok (.iconst 0, 1) := by decide +kernel
theorem dX4_digest_89 : decode cX4_digest 89 = .ok (.istore_n 3, 1) := by decide +kernel
theorem dX4_digest_90 : decode cX4_digest 90 = .ok (.iload_n 3, 1) := by decide +kernel
theorem dX4_digest_91 : decode cX4_digest 91 = .ok (.aload_n 0, 1) := by decide +kernel
theorem dX4_digest_92 : decode cX4_digest 92 = .ok (.getfield 20, 3) := by decide +kernel
theorem dX4_digest_95 : decode cX4_digest 95 = .ok (.getfield 143, 3) := by decide +kernel
theorem dX4_digest_98 : decode cX4_digest 98 = .ok (.if_icmp .ge 84, 3) := by decide +kernel
theorem dX4_digest_101 : decode cX4_digest 101 = .ok (.ldc2_w 242, 3) := by decide +kernel
theorem dX4_digest_104 : decode cX4_digest 104 = .ok (.lload_n 1, 1) := by decide +kernel
theorem dX4_digest_105 : decode cX4_digest 105 = .ok (.lmul, 1) := by decide +kernel
theorem dX4_digest_106 : decode cX4_digest 106 = .ok (.aload_n 0, 1) := by decide +kernel
theorem dX4_digest_107 : decode cX4_digest 107 = .ok (.getfield 12, 3) := by decide +kernel
theorem dX4_digest_110 : decode cX4_digest 110 = .ok (.iload_n 3, 1) := by decide +kernel
theorem dX4_digest_111 : decode cX4_digest 111 = .ok (.invokevirtual 161, 3) := by decide +kernel
theorem dX4_digest_114 : decode cX4_digest 114 = .ok (.i2l, 1) := by decide +kernel
theorem dX4_digest_115 : decode cX4_digest 115 = .ok (.ladd, 1) := by decide +kernel
theorem dX4_digest_116 : decode cX4_digest 116 = .ok (.lstore_n 1, 1) := by decide +kernel
theorem dX4_digest_117 : decode cX4_digest 117 = .ok (.ldc2_w 242, 3) := by decide +kernel
theorem dX4_digest_120 : decode cX4_digest 120 = .ok (.lload_n 1, 1) := by decide +kernel
theorem dX4_digest_121 : decode cX4_digest 121 = .ok (.lmul, 1) := by decide +kernel
theorem dX4_digest_122 : decode cX4_digest 122 = .ok (.aload_n 0, 1) := by decide +kernel
theorem dX4_digest_123 : decode cX4_digest 123 = .ok (.getfield 12, 3) := by decide +kernel
theorem dX4_digest_126 : decode cX4_digest 126 = .ok (.iload_n 3, 1) := by decide +kernel
theorem dX4_digest_127 : decode cX4_digest 127 = .ok (.aload_n 0, 1) := by decide +kernel
theorem dX4_digest_128 : decode cX4_digest 128 = .ok (.getfield 20, 3) := by decide +kernel
theorem dX4_digest_131 : decode cX4_digest 131 = .ok (.iload_n 3, 1) := by decide +kernel
theorem dX4_digest_132 : decode cX4_digest 132 = .ok (.invokevirtual 146, 3) := by decide +kernel
theorem dX4_digest_135 : decode cX4_digest 135 = .ok (.invokevirtual 164, 3) := by decide +kernel
theorem dX4_digest_138 : decode cX4_digest 138 = .ok (.i2l, 1) := by decide +kernel
theorem dX4_digest_139 : decode cX4_digest 139 = .ok (.ladd, 1) := by decide +kernel
theorem dX4_digest_140 : decode cX4_digest 140 = .ok (.lstore_n 1, 1) := by decide +kernel
theorem dX4_digest_141 : decode cX4_digest 141 = .ok (.iconst 0, 1) := by decide +kernel
theorem dX4_digest_142 : decode cX4_digest 142 = .ok (.istore 4, 2) := by decide +kernel
theorem dX4_digest_144 : decode cX4_digest 144 = .ok (.iload 4, 2) := by decide +kernel
theorem dX4_digest_146 : decode cX4_digest 146 = .ok (.sipush 128, 3) := by decide +kernel
theorem dX4_digest_149 : decode cX4_digest 149 = .ok (.if_icmp .ge 27, 3) := by decide +kernel
theorem dX4_digest_152 : decode cX4_digest 152 = .ok (.ldc2_w 242, 3) := by decide +kernel
theorem dX4_digest_155 : decode cX4_digest 155 = .ok (.lload_n 1, 1) := by decide +kernel
theorem dX4_digest_156 : decode cX4_digest 156 = .ok (.lmul, 1) := by decide +kernel
theorem dX4_digest_157 : decode cX4_digest 157 = .ok (.aload_n 0, 1) := by decide +kernel
theorem dX4_digest_158 : decode cX4_digest 158 = .ok (.getfield 20, 3) := by decide +kernel
theorem dX4_digest_161 : decode cX4_digest 161 = .ok (.iload_n 3, 1) := by decide +kernel
theorem dX4_digest_162 : decode cX4_digest 162 = .ok (.iload 4, 2) := by decide +kernel
theorem dX4_digest_164 : decode cX4_digest 164 = .ok (.invokevirtual 158, 3) := by decide +kernel
theorem dX4_digest_167 : decode cX4_digest 167 = .ok (.i2l, 1) := by decide +kernel
theorem dX4_digest_168 : decode cX4_digest 168 = .ok (.ladd, 1) := by decide +kernel
theorem dX4_digest_169 : decode cX4_digest 169 = .ok (.lstore_n 1, 1) := by decide +kernel
theorem dX4_digest_170 : decode cX4_digest 170 = .ok (.iinc 4 1, 3) := by decide +kernel
theorem dX4_digest_173 : decode cX4_digest 173 = .ok (.goto (-29), 3) := by decide +kernel
theorem dX4_digest_176 : decode cX4_digest 176 = .ok (.iinc 3 1, 3) := by decide +kernel
theorem dX4_digest_179 : decode cX4_digest 179 = .ok (.goto (-89), 3) := by decide +kernel
theorem dX4_digest_182 : decode cX4_digest 182 = .ok (.ldc2_w 242, 3) := by decide +kernel
theorem dX4_digest_185 : decode cX4_digest 185 = .ok (.lload_n 1, 1) := by decide +kernel
theorem dX4_digest_186 : decode cX4_digest 186 = .ok (.lmul, 1) := by decide +kernel
theorem dX4_digest_187 : decode cX4_digest 187 = .ok (.aload_n 0, 1) := by decide +kernel
theorem dX4_digest_188 : decode cX4_digest 188 = .ok (.invokevirtual 250, 3) := by decide +kernel
theorem dX4_digest_191 : decode cX4_digest 191 = .ok (.d2f, 1) := by decide +kernel
theorem dX4_digest_192 : decode cX4_digest 192 = .ok (.invokestatic 254, 3) := by decide +kernel
theorem dX4_digest_195 : decode cX4_digest 195 = .ok (.i2l, 1) := by decide +kernel
theorem dX4_digest_196 : decode cX4_digest 196 = .ok (.ladd, 1) := by decide +kernel
theorem dX4_digest_197 : decode cX4_digest 197 = .ok (.lreturn, 1) := by decide +kernel
theorem dX4_bitsOfFraction_0 : decode cX4_bitsOfFraction 0 = .ok (.fload_n 0, 1) := by decide +kernel
theorem dX4_bitsOfFraction_1 : decode cX4_bitsOfFraction 1 = .ok (.fconst 0, 1) := by decide +kernel
theorem dX4_bitsOfFraction_2 : decode cX4_bitsOfFraction 2 = .ok (.fcmp .l, 1) := by decide +kernel
theorem dX4_bitsOfFraction_3 : decode cX4_bitsOfFraction 3 = .ok (.ifCond .gt 5, 3) := by decide +kernel
theorem dX4_bitsOfFraction_6 : decode cX4_bitsOfFraction 6 = .ok (.iconst 0, 1) := by decide +kernel
theorem dX4_bitsOfFraction_7 : decode cX4_bitsOfFraction 7 = .ok (.ireturn, 1) := by decide +kernel
theorem dX4_bitsOfFraction_8 : decode cX4_bitsOfFraction 8 = .ok (.bipush 127, 2) := by decide +kernel
theorem dX4_bitsOfFraction_10 : decode cX4_bitsOfFraction 10 = .ok (.istore_n 1, 1) := by decide +kernel
theorem dX4_bitsOfFraction_11 : decode cX4_bitsOfFraction 11 = .ok (.fload_n 0, 1) := by decide +kernel
theorem dX4_bitsOfFraction_12 : decode cX4_bitsOfFraction 12 = .ok (.fstore_n 2, 1) := by decide +kernel
theorem dX4_bitsOfFraction_13 : decode cX4_bitsOfFraction 13 = .ok (.iconst 0, 1) := by decide +kernel
theorem dX4_bitsOfFraction_14 : decode cX4_bitsOfFraction 14 = .ok (.istore_n 3, 1) := by decide +kernel
theorem dX4_bitsOfFraction_15 : decode cX4_bitsOfFraction 15 = .ok (.iload_n 3, 1) := by decide +kernel
theorem dX4_bitsOfFraction_16 : decode cX4_bitsOfFraction 16 = .ok (.bipush 126, 2) := by decide +kernel
theorem dX4_bitsOfFraction_18 : decode cX4_bitsOfFraction 18 = .ok (.if_icmp .ge 22, 3) := by decide +kernel
theorem dX4_bitsOfFraction_21 : decode cX4_bitsOfFraction 21 = .ok (.fload_n 2, 1) := by decide +kernel
theorem dX4_bitsOfFraction_22 : decode cX4_bitsOfFraction 22 = .ok (.fconst 1, 1) := by decide +kernel
theorem dX4_bitsOfFraction_23 : decode cX4_bitsOfFraction 23 = .ok (.fcmp .g, 1) := by decide +kernel
theorem dX4_bitsOfFraction_24 : decode cX4_bitsOfFraction 24 = .ok (.ifCond .ge 16, 3) := by decide +kernel
theorem dX4_bitsOfFraction_27 : decode cX4_bitsOfFraction 27 = .ok (.fload_n 2, 1) := by decide +kernel
theorem dX4_bitsOfFraction_28 : decode cX4_bitsOfFraction 28 = .ok (.fconst 2, 1) := by decide +kernel
theorem dX4_bitsOfFraction_29 : decode cX4_bitsOfFraction 29 = .ok (.fmul, 1) := by decide +kernel
theorem dX4_bitsOfFraction_30 : decode cX4_bitsOfFraction 30 = .ok (.fstore_n 2, 1) := by decide +kernel
theorem dX4_bitsOfFraction_31 : decode cX4_bitsOfFraction 31 = .ok (.iinc 1 (-1), 3) := by decide +kernel
theorem dX4_bitsOfFraction_34 : decode cX4_bitsOfFraction 34 = .ok (.iinc 3 1, 3) := by decide +kernel
theorem dX4_bitsOfFraction_37 : decode cX4_bitsOfFraction 37 = .ok (.goto (-22), 3) := by decide +kernel
theorem dX4_bitsOfFraction_40 : decode cX4_bitsOfFraction 40 = .ok (.iload_n 1, 1) := by decide +kernel
theorem dX4_bitsOfFraction_41 : decode cX4_bitsOfFraction 41 = .ok (.bipush 23, 2) := by decide +kernel
theorem dX4_bitsOfFraction_43 : decode cX4_bitsOfFraction 43 = .ok (.ishl, 1) := by decide +kernel
theorem dX4_bitsOfFraction_44 : decode cX4_bitsOfFraction 44 = .ok (.fload_n 2, 1) := by decide +kernel
theorem dX4_bitsOfFraction_45 : decode cX4_bitsOfFraction 45 = .ok (.fconst 1, 1) := by decide +kernel
theorem dX4_bitsOfFraction_46 : decode cX4_bitsOfFraction 46 = .ok (.fsub, 1) := by decide +kernel
theorem dX4_bitsOfFraction_47 : decode cX4_bitsOfFraction 47 = .ok (.ldc_w 258, 3) := by decide +kernel
theorem dX4_bitsOfFraction_50 : decode cX4_bitsOfFraction 50 = .ok (.fmul, 1) := by decide +kernel
theorem dX4_bitsOfFraction_51 : decode cX4_bitsOfFraction 51 = .ok (.f2i, 1) := by decide +kernel
theorem dX4_bitsOfFraction_52 : decode cX4_bitsOfFraction 52 = .ok (.iadd, 1) := by decide +kernel
theorem dX4_bitsOfFraction_53 : decode cX4_bitsOfFraction 53 = .ok (.ireturn, 1) := by decide +kernel
theorem dX4_requireRow_0 : decode cX4_requireRow 0 = .ok (.aload_n 0, 1) := by decide +kernel
theorem dX4_requireRow_1 : decode cX4_requireRow 1 = .ok (.iload_n 1, 1) := by decide +kernel
theorem dX4_requireRow_2 : decode cX4_requireRow 2 = .ok (.invokevirtual 259, 3) := by decide +kernel
theorem dX4_requireRow_5 : decode cX4_requireRow 5 = .ok (.ifCond .ne 14, 3) := by decide +kernel
theorem dX4_requireRow_8 : decode cX4_requireRow 8 = .ok (.new 135, 3) := by decide +kernel
theorem dX4_requireRow_11 : decode cX4_requireRow 11 = .ok (.dup, 1) := by decide +kernel
theorem dX4_requireRow_12 : decode cX4_requireRow 12 = .ok (.ldc_w 262, 3) := by decide +kernel
theorem dX4_requireRow_15 : decode cX4_requireRow 15 = .ok (.invokespecial 139, 3) := by decide +kernel
theorem dX4_requireRow_18 : decode cX4_requireRow 18 = .ok (.athrow, 1) := by decide +kernel
theorem dX4_requireRow_19 : decode cX4_requireRow 19 = .ok (.return_, 1) := by decide +kernel
theorem dX4_requirePage_0 : decode cX4_requirePage 0 = .ok (.iload_n 1, 1) := by decide +kernel
theorem dX4_requirePage_1 : decode cX4_requirePage 1 = .ok (.ifCond .lt 14, 3) := by decide +kernel
theorem dX4_requirePage_4 : decode cX4_requirePage 4 = .ok (.iload_n 1, 1) := by decide +kernel
theorem dX4_requirePage_5 : decode cX4_requirePage 5 = .ok (.aload_n 0, 1) := by decide +kernel
theorem dX4_requirePage_6 : decode cX4_requirePage 6 = .ok (.getfield 20, 3) := by decide +kernel
theorem dX4_requirePage_9 : decode cX4_requirePage 9 = .ok (.getfield 143, 3) := by decide +kernel
theorem dX4_requirePage_12 : decode cX4_requirePage 12 = .ok (.if_icmp .lt 14, 3) := by decide +kernel
theorem dX4_requirePage_15 : decode cX4_requirePage 15 = .ok (.new 135, 3) := by decide +kernel
theorem dX4_requirePage_18 : decode cX4_requirePage 18 = .ok (.dup, 1) := by decide +kernel
theorem dX4_requirePage_19 : decode cX4_requirePage 19 = .ok (.ldc_w 264, 3) := by decide +kernel
theorem dX4_requirePage_22 : decode cX4_requirePage 22 = .ok (.invokespecial 139, 3) := by decide +kernel
theorem dX4_requirePage_25 : decode cX4_requirePage 25 = .ok (.athrow, 1) := by decide +kernel
theorem dX4_requirePage_26 : decode cX4_requirePage 26 = .ok (.return_, 1) := by decide +kernel
theorem dX4_requireLength_0 : decode cX4_requireLength 0 = .ok (.iload_n 0, 1) := by decide +kernel
theorem dX4_requireLength_1 : decode cX4_requireLength 1 = .ok (.ifCond .lt 9, 3) := by decide +kernel
theorem dX4_requireLength_4 : decode cX4_requireLength 4 = .ok (.iload_n 0, 1) := by decide +kernel
theorem dX4_requireLength_5 : decode cX4_requireLength 5 = .ok (.bipush 60, 2) := by decide +kernel
theorem dX4_requireLength_7 : decode cX4_requireLength 7 = .ok (.if_icmp .le 14, 3) := by decide +kernel
theorem dX4_requireLength_10 : decode cX4_requireLength 10 = .ok (.new 61, 3) := by decide +kernel
theorem dX4_requireLength_13 : decode cX4_requireLength 13 = .ok (.dup, 1) := by decide +kernel
theorem dX4_requireLength_14 : decode cX4_requireLength 14 = .ok (.ldc_w 266, 3) := by decide +kernel
theorem dX4_requireLength_17 : decode cX4_requireLength 17 = .ok (.invokespecial 65, 3) := by decide +kernel
theorem dX4_requireLength_20 : decode cX4_requireLength 20 = .ok (.athrow, 1) := by decide +kernel
theorem dX4_requireLength_21 : decode cX4_requireLength 21 = .ok (.return_, 1) := by decide +kernel
theorem dX4_placeAt_0 : decode cX4_placeAt 0 = .ok (.bipush 100, 2) := by decide +kernel
theorem dX4_placeAt_2 : decode cX4_placeAt 2 = .ok (.iload_n 0, 1) := by decide +kernel
theorem dX4_placeAt_3 : decode cX4_placeAt 3 = .ok (.imul, 1) := by decide +kernel
theorem dX4_placeAt_4 : decode cX4_placeAt 4 = .ok (.iload_n 1, 1) := by decide +kernel
theorem dX4_placeAt_5 : decode cX4_placeAt 5 = .ok (.iadd, 1) := by decide +kernel
theorem dX4_placeAt_6 : decode cX4_placeAt 6 = .ok (.ireturn, 1) := by decide +kernel
theorem dX4_pageIn_0 : decode cX4_pageIn 0 = .ok (.iload_n 0, 1) := by decide +kernel
theorem dX4_pageIn_1 : decode cX4_pageIn 1 = .ok (.bipush 100, 2) := by decide +kernel
theorem dX4_pageIn_3 : decode cX4_pageIn 3 = .ok (.idiv, 1) := by decide +kernel
theorem dX4_pageIn_4 : decode cX4_pageIn 4 = .ok (.ireturn, 1) := by decide +kernel
theorem dX4_slotIn_0 : decode cX4_slotIn 0 = .ok (.iload_n 0, 1) := by decide +kernel
theorem dX4_slotIn_1 : decode cX4_slotIn 1 = .ok (.bipush 100, 2) := by decide +kernel
theorem dX4_slotIn_3 : decode cX4_slotIn 3 = .ok (.irem, 1) := by decide +kernel
theorem dX4_slotIn_4 : decode cX4_slotIn 4 = .ok (.ireturn, 1) := by decide +kernel
theorem dX4_targetAt_0 : decode cX4_targetAt 0 = .ok (.iload_n 1, 1) := by decide +kernel
theorem dX4_targetAt_1 : decode cX4_targetAt 1 = .ok (.invokestatic 167, 3) := by decide +kernel
theorem dX4_targetAt_4 : decode cX4_targetAt 4 = .ok (.istore_n 2, 1) := by decide +kernel
theorem dX4_targetAt_5 : decode cX4_targetAt 5 = .ok (.iload_n 1, 1) := by decide +kernel
theorem dX4_targetAt_6 : decode cX4_targetAt 6 = .ok (.invokestatic 170, 3) := by decide +kernel
theorem dX4_targetAt_9 : decode cX4_targetAt 9 = .ok (.istore_n 3, 1) := by decide +kernel
theorem dX4_targetAt_10 : decode cX4_targetAt 10 = .ok (.aload_n 0, 1) := by decide +kernel
theorem dX4_targetAt_11 : decode cX4_targetAt 11 = .ok (.getfield 20, 3) := by decide +kernel
theorem dX4_targetAt_14 : decode cX4_targetAt 14 = .ok (.iload_n 2, 1) := by decide +kernel
theorem dX4_targetAt_15 : decode cX4_targetAt 15 = .ok (.iload_n 3, 1) := by decide +kernel
theorem dX4_targetAt_16 : decode cX4_targetAt 16 = .ok (.iconst 1, 1) := by decide +kernel
theorem dX4_targetAt_17 : decode cX4_targetAt 17 = .ok (.invokevirtual 176, 3) := by decide +kernel
theorem dX4_targetAt_20 : decode cX4_targetAt 20 = .ok (.aload_n 0, 1) := by decide +kernel
theorem dX4_targetAt_21 : decode cX4_targetAt 21 = .ok (.getfield 20, 3) := by decide +kernel
theorem dX4_targetAt_24 : decode cX4_targetAt 24 = .ok (.iload_n 2, 1) := by decide +kernel
theorem dX4_targetAt_25 : decode cX4_targetAt 25 = .ok (.iload_n 3, 1) := by decide +kernel
theorem dX4_targetAt_26 : decode cX4_targetAt 26 = .ok (.iconst 2, 1) := by decide +kernel
theorem dX4_targetAt_27 : decode cX4_targetAt 27 = .ok (.invokevirtual 176, 3) := by decide +kernel
theorem dX4_targetAt_30 : decode cX4_targetAt 30 = .ok (.invokestatic 149, 3) := by decide +kernel
theorem dX4_targetAt_33 : decode cX4_targetAt 33 = .ok (.ireturn, 1) := by decide +kernel
theorem dX4_presentPlace_0 : decode cX4_presentPlace 0 = .ok (.aload_n 0, 1) := by decide +kernel
theorem dX4_presentPlace_1 : decode cX4_presentPlace 1 = .ok (.iload_n 1, 1) := by decide +kernel
theorem dX4_presentPlace_2 : decode cX4_presentPlace 2 = .ok (.invokevirtual 132, 3) := by decide +kernel
theorem dX4_presentPlace_5 : decode cX4_presentPlace 5 = .ok (.iconst 2, 1) := by decide +kernel
theorem dX4_presentPlace_6 : decode cX4_presentPlace 6 = .ok (.if_icmp .ne 11, 3) := by decide +kernel
theorem dX4_presentPlace_9 : decode cX4_presentPlace 9 = .ok (.aload_n 0, 1) := by decide +kernel
theorem dX4_presentPlace_10 : decode cX4_presentPlace 10 = .ok (.iload_n 1, 1) := by decide +kernel
theorem dX4_presentPlace_11 : decode cX4_presentPlace 11 = .ok (.invokevirtual 155, 3) := by decide +kernel
theorem dX4_presentPlace_14 : decode cX4_presentPlace 14 = .ok (.goto 4, 3) := by decide +kernel
theorem dX4_presentPlace_17 : decode cX4_presentPlace 17 = .ok (.iload_n 1, 1) := by decide +kernel
theorem dX4_presentPlace_18 : decode cX4_presentPlace 18 = .ok (.ireturn, 1) := by decide +kernel
theorem dX4_sizeAt_0 : decode cX4_sizeAt 0 = .ok (.aload_n 0, 1) := by decide +kernel
theorem dX4_sizeAt_1 : decode cX4_sizeAt 1 = .ok (.getfield 20, 3) := by decide +kernel
theorem dX4_sizeAt_4 : decode cX4_sizeAt 4 = .ok (.iload_n 1, 1) := by decide +kernel
theorem dX4_sizeAt_5 : decode cX4_sizeAt 5 = .ok (.invokestatic 167, 3) := by decide +kernel
theorem dX4_sizeAt_8 : decode cX4_sizeAt 8 = .ok (.iload_n 1, 1) := by decide +kernel
theorem dX4_sizeAt_9 : decode cX4_sizeAt 9 = .ok (.invokestatic 170, 3) := by decide +kernel
theorem dX4_sizeAt_12 : decode cX4_sizeAt 12 = .ok (.invokevirtual 173, 3) := by decide +kernel
theorem dX4_sizeAt_15 : decode cX4_sizeAt 15 = .ok (.ireturn, 1) := by decide +kernel
theorem dX4_homeSize_0 : decode cX4_homeSize 0 = .ok (.iconst 3, 1) := by decide +kernel
theorem dX4_homeSize_1 : decode cX4_homeSize 1 = .ok (.iload_n 0, 1) := by decide +kernel
theorem dX4_homeSize_2 : decode cX4_homeSize 2 = .ok (.iconst 1, 1) := by decide +kernel
theorem dX4_homeSize_3 : decode cX4_homeSize 3 = .ok (.iadd, 1) := by decide +kernel
theorem dX4_homeSize_4 : decode cX4_homeSize 4 = .ok (.invokestatic 268, 3) := by decide +kernel
theorem dX4_homeSize_7 : decode cX4_homeSize 7 = .ok (.ireturn, 1) := by decide +kernel
theorem dX4_movedSize_0 : decode cX4_movedSize 0 = .ok (.iload_n 0, 1) := by decide +kernel
theorem dX4_movedSize_1 : decode cX4_movedSize 1 = .ok (.iconst 3, 1) := by decide +kernel
theorem dX4_movedSize_2 : decode cX4_movedSize 2 = .ok (.iadd, 1) := by decide +kernel
theorem dX4_movedSize_3 : decode cX4_movedSize 3 = .ok (.ireturn, 1) := by decide +kernel
theorem dX4_lengthAt_0 : decode cX4_lengthAt 0 = .ok (.aload_n 0, 1) := by decide +kernel
theorem dX4_lengthAt_1 : decode cX4_lengthAt 1 = .ok (.iload_n 1, 1) := by decide +kernel
theorem dX4_lengthAt_2 : decode cX4_lengthAt 2 = .ok (.invokevirtual 271, 3) := by decide +kernel
theorem dX4_lengthAt_5 : decode cX4_lengthAt 5 = .ok (.istore_n 2, 1) := by decide +kernel
theorem dX4_lengthAt_6 : decode cX4_lengthAt 6 = .ok (.aload_n 0, 1) := by decide +kernel
theorem dX4_lengthAt_7 : decode cX4_lengthAt 7 = .ok (.getfield 20, 3) := by decide +kernel
theorem dX4_lengthAt_10 : decode cX4_lengthAt 10 = .ok (.iload_n 1, 1) := by decide +kernel
theorem dX4_lengthAt_11 : decode cX4_lengthAt 11 = .ok (.invokestatic 167, 3) := by decide +kernel
theorem dX4_lengthAt_14 : decode cX4_lengthAt 14 = .ok (.iload_n 1, 1) := by decide +kernel
theorem dX4_lengthAt_15 : decode cX4_lengthAt 15 = .ok (.invokestatic 170, 3) := by decide +kernel
theorem dX4_lengthAt_18 : decode cX4_lengthAt 18 = .ok (.iconst 0, 1) := by decide +kernel
theorem dX4_lengthAt_19 : decode cX4_lengthAt 19 = .ok (.invokevirtual 176, 3) := by decide +kernel
theorem dX4_lengthAt_22 : decode cX4_lengthAt 22 = .ok (.tableswitch 34 3 5 #[30, 26, 28], 26) := by decide +kernel
theorem dX4_lengthAt_48 : decode cX4_lengthAt 48 = .ok (.iconst 0, 1) := by decide +kernel
theorem dX4_lengthAt_49 : decode cX4_lengthAt 49 = .ok (.ireturn, 1) := by decide +kernel
theorem dX4_lengthAt_50 : decode cX4_lengthAt 50 = .ok (.iconst 1, 1) := by decide +kernel
theorem dX4_lengthAt_51 : decode cX4_lengthAt 51 = .ok (.ireturn, 1) := by decide +kernel
theorem dX4_lengthAt_52 : decode cX4_lengthAt 52 = .ok (.iload_n 2, 1) := by decide +kernel
theorem dX4_lengthAt_53 : decode cX4_lengthAt 53 = .ok (.iconst 3, 1) := by decide +kernel
theorem dX4_lengthAt_54 : decode cX4_lengthAt 54 = .ok (.isub, 1) := by decide +kernel
theorem dX4_lengthAt_55 : decode cX4_lengthAt 55 = .ok (.ireturn, 1) := by decide +kernel
theorem dX4_lengthAt_56 : decode cX4_lengthAt 56 = .ok (.iload_n 2, 1) := by decide +kernel
theorem dX4_lengthAt_57 : decode cX4_lengthAt 57 = .ok (.iconst 1, 1) := by decide +kernel
theorem dX4_lengthAt_58 : decode cX4_lengthAt 58 = .ok (.isub, 1) := by decide +kernel
theorem dX4_lengthAt_59 : decode cX4_lengthAt 59 = .ok (.ireturn, 1) := by decide +kernel
theorem dX4_rowByteAt_0 : decode cX4_rowByteAt 0 = .ok (.iload_n 1, 1) := by decide +kernel
theorem dX4_rowByteAt_1 : decode cX4_rowByteAt 1 = .ok (.invokestatic 167, 3) := by decide +kernel
theorem dX4_rowByteAt_4 : decode cX4_rowByteAt 4 = .ok (.istore_n 3, 1) := by decide +kernel
theorem dX4_rowByteAt_5 : decode cX4_rowByteAt 5 = .ok (.iload_n 1, 1) := by decide +kernel
theorem dX4_rowByteAt_6 : decode cX4_rowByteAt 6 = .ok (.invokestatic 170, 3) := by decide +kernel
theorem dX4_rowByteAt_9 : decode cX4_rowByteAt 9 = .ok (.istore 4, 2) := by decide +kernel
theorem dX4_rowByteAt_11 : decode cX4_rowByteAt 11 = .ok (.aload_n 0, 1) := by decide +kernel
theorem dX4_rowByteAt_12 : decode cX4_rowByteAt 12 = .ok (.getfield 20, 3) := by decide +kernel
theorem dX4_rowByteAt_15 : decode cX4_rowByteAt 15 = .ok (.iload_n 3, 1) := by decide +kernel
theorem dX4_rowByteAt_16 : decode cX4_rowByteAt 16 = .ok (.iload 4, 2) := by decide +kernel
theorem dX4_rowByteAt_18 : decode cX4_rowByteAt 18 = .ok (.iconst 0, 1) := by decide +kernel
theorem dX4_rowByteAt_19 : decode cX4_rowByteAt 19 = .ok (.invokevirtual 176, 3) := by decide +kernel
theorem dX4_rowByteAt_22 : decode cX4_rowByteAt 22 = .ok (.iconst 3, 1) := by decide +kernel
theorem dX4_rowByteAt_23 : decode cX4_rowByteAt 23 = .ok (.if_icmp .ne 7, 3) := by decide +kernel
theorem dX4_rowByteAt_26 : decode cX4_rowByteAt 26 = .ok (.iconst 3, 1) := by decide +kernel
theorem dX4_rowByteAt_27 : decode cX4_rowByteAt 27 = .ok (.goto 4, 3) := by decide +kernel
theorem dX4_rowByteAt_30 : decode cX4_rowByteAt 30 = .ok (.iconst 1, 1) := by decide +kernel
theorem dX4_rowByteAt_31 : decode cX4_rowByteAt 31 = .ok (.istore 5, 2) := by decide +kernel
theorem dX4_rowByteAt_33 : decode cX4_rowByteAt 33 = .ok (.aload_n 0, 1) := by decide +kernel
theorem dX4_rowByteAt_34 : decode cX4_rowByteAt 34 = .ok (.getfield 20, 3) := by decide +kernel
theorem dX4_rowByteAt_37 : decode cX4_rowByteAt 37 = .ok (.iload_n 3, 1) := by decide +kernel
theorem dX4_rowByteAt_38 : decode cX4_rowByteAt 38 = .ok (.iload 4, 2) := by decide +kernel
theorem dX4_rowByteAt_40 : decode cX4_rowByteAt 40 = .ok (.iload 5, 2) := by decide +kernel
theorem dX4_rowByteAt_42 : decode cX4_rowByteAt 42 = .ok (.iload_n 2, 1) := by decide +kernel
theorem dX4_rowByteAt_43 : decode cX4_rowByteAt 43 = .ok (.iadd, 1) := by decide +kernel
theorem dX4_rowByteAt_44 : decode cX4_rowByteAt 44 = .ok (.invokevirtual 176, 3) := by decide +kernel
theorem dX4_rowByteAt_47 : decode cX4_rowByteAt 47 = .ok (.ireturn, 1) := by decide +kernel
theorem dX4_countKind_0 : decode cX4_countKind 0 = .ok (.iconst 0, 1) := by decide +kernel
theorem dX4_countKind_1 : decode cX4_countKind 1 = .ok (.istore_n 2, 1) := by decide +kernel
theorem dX4_countKind_2 : decode cX4_countKind 2 = .ok (.iconst 0, 1) := by decide +kernel
theorem dX4_countKind_3 : decode cX4_countKind 3 = .ok (.istore_n 3, 1) := by decide +kernel
theorem dX4_countKind_4 : decode cX4_countKind 4 = .ok (.iload_n 3, 1) := by decide +kernel
theorem dX4_countKind_5 : decode cX4_countKind 5 = .ok (.aload_n 0, 1) := by decide +kernel
theorem dX4_countKind_6 : decode cX4_countKind 6 = .ok (.getfield 20, 3) := by decide +kernel
theorem dX4_countKind_9 : decode cX4_countKind 9 = .ok (.getfield 143, 3) := by decide +kernel
theorem dX4_countKind_12 : decode cX4_countKind 12 = .ok (.if_icmp .ge 52, 3) := by decide +kernel
theorem dX4_countKind_15 : decode cX4_countKind 15 = .ok (.aload_n 0, 1) := by decide +kernel
theorem dX4_countKind_16 : decode cX4_countKind 16 = .ok (.getfield 20, 3) := by decide +kernel
theorem dX4_countKind_19 : decode cX4_countKind 19 = .ok (.iload_n 3, 1) := by decide +kernel
theorem dX4_countKind_20 : decode cX4_countKind 20 = .ok (.invokevirtual 146, 3) := by decide +kernel
theorem dX4_countKind_23 : decode cX4_countKind 23 = .ok (.istore 4, 2) := by decide +kernel
theorem dX4_countKind_25 : decode cX4_countKind 25 = .ok (.iconst 0, 1) := by decide +kernel
theorem dX4_countKind_26 : decode cX4_countKind 26 = .ok (.istore 5, 2) := by decide +kernel
theorem dX4_countKind_28 : decode cX4_countKind 28 = .ok (.iload 5, 2) := by decide +kernel
theorem dX4_countKind_30 : decode cX4_countKind 30 = .ok (.iload 4, 2) := by decide +kernel
theorem dX4_countKind_32 : decode cX4_countKind 32 = .ok (.if_icmp .ge 26, 3) := by decide +kernel
theorem dX4_countKind_35 : decode cX4_countKind 35 = .ok (.aload_n 0, 1) := by decide +kernel
theorem dX4_countKind_36 : decode cX4_countKind 36 = .ok (.iload_n 3, 1) := by decide +kernel
theorem dX4_countKind_37 : decode cX4_countKind 37 = .ok (.iload 5, 2) := by decide +kernel
theorem dX4_countKind_39 : decode cX4_countKind 39 = .ok (.invokestatic 149, 3) := by decide +kernel
theorem dX4_countKind_42 : decode cX4_countKind 42 = .ok (.invokevirtual 132, 3) := by decide +kernel
theorem dX4_countKind_45 : decode cX4_countKind 45 = .ok (.iload_n 1, 1) := by decide +kernel
theorem dX4_countKind_46 : decode cX4_countKind 46 = .ok (.if_icmp .ne 6, 3) := by decide +kernel
theorem dX4_countKind_49 : decode cX4_countKind 49 = .ok (.iinc 2 1, 3) := by decide +kernel
theorem dX4_countKind_52 : decode cX4_countKind 52 = .ok (.iinc 5 1, 3) := by decide +kernel
theorem dX4_countKind_55 : decode cX4_countKind 55 = .ok (.goto (-27), 3) := by decide +kernel
theorem dX4_countKind_58 : decode cX4_countKind 58 = .ok (.iinc 3 1, 3) := by decide +kernel
theorem dX4_countKind_61 : decode cX4_countKind 61 = .ok (.goto (-57), 3) := by decide +kernel
theorem dX4_countKind_64 : decode cX4_countKind 64 = .ok (.iload_n 2, 1) := by decide +kernel
theorem dX4_countKind_65 : decode cX4_countKind 65 = .ok (.ireturn, 1) := by decide +kernel
theorem dX4_writeHomeRecord_0 : decode cX4_writeHomeRecord 0 = .ok (.aload_n 0, 1) := by decide +kernel
theorem dX4_writeHomeRecord_1 : decode cX4_writeHomeRecord 1 = .ok (.getfield 33, 3) := by decide +kernel
theorem dX4_writeHomeRecord_4 : decode cX4_writeHomeRecord 4 = .ok (.invokevirtual 58, 3) := by decide +kernel
theorem dX4_writeHomeRecord_7 : decode cX4_writeHomeRecord 7 = .ok (.aload_n 0, 1) := by decide +kernel
theorem dX4_writeHomeRecord_8 : decode cX4_writeHomeRecord 8 = .ok (.getfield 30, 3) := by decide +kernel
theorem dX4_writeHomeRecord_11 : decode cX4_writeHomeRecord 11 = .ok (.getfield 54, 3) := by decide +kernel
theorem dX4_writeHomeRecord_14 : decode cX4_writeHomeRecord 14 = .ok (.ifCond .ne 14, 3) := by decide +kernel
theorem dX4_writeHomeRecord_17 : decode cX4_writeHomeRecord 17 = .ok (.aload_n 0, 1) := by decide +kernel
theorem dX4_writeHomeRecord_18 : decode cX4_writeHomeRecord 18 = .ok (.getfield 33, 3) := by decide +kernel
theorem dX4_writeHomeRecord_21 : decode cX4_writeHomeRecord 21 = .ok (.iconst 4, 1) := by decide +kernel
theorem dX4_writeHomeRecord_22 : decode cX4_writeHomeRecord 22 = .ok (.invokevirtual 75, 3) := by decide +kernel
theorem dX4_writeHomeRecord_25 : decode cX4_writeHomeRecord 25 = .ok (.goto 33, 3) := by decide +kernel
theorem dX4_writeHomeRecord_28 : decode cX4_writeHomeRecord 28 = .ok (.aload_n 0, 1) := by decide +kernel
theorem dX4_writeHomeRecord_29 : decode cX4_writeHomeRecord 29 = .ok (.getfield 30, 3) := by decide +kernel
theorem dX4_writeHomeRecord_32 : decode cX4_writeHomeRecord 32 = .ok (.getfield 54, 3) := by decide +kernel
theorem dX4_writeHomeRecord_35 : decode cX4_writeHomeRecord 35 = .ok (.iconst 1, 1) := by decide +kernel
theorem dX4_writeHomeRecord_36 : decode cX4_writeHomeRecord 36 = .ok (.if_icmp .ne 14, 3) := by decide +kernel
theorem dX4_writeHomeRecord_39 : decode cX4_writeHomeRecord 39 = .ok (.aload_n 0, 1) := by decide +kernel
theorem dX4_writeHomeRecord_40 : decode cX4_writeHomeRecord 40 = .ok (.getfield 33, 3) := by decide +kernel
theorem dX4_writeHomeRecord_43 : decode cX4_writeHomeRecord 43 = .ok (.iconst 5, 1) := by decide +kernel
theorem dX4_writeHomeRecord_44 : decode cX4_writeHomeRecord 44 = .ok (.invokevirtual 75, 3) := by decide +kernel
theorem dX4_writeHomeRecord_47 : decode cX4_writeHomeRecord 47 = .ok (.goto 11, 3) := by decide +kernel
theorem dX4_writeHomeRecord_50 : decode cX4_writeHomeRecord 50 = .ok (.aload_n 0, 1) := by decide +kernel
theorem dX4_writeHomeRecord_51 : decode cX4_writeHomeRecord 51 = .ok (.getfield 33, 3) := by decide +kernel
theorem dX4_writeHomeRecord_54 : decode cX4_writeHomeRecord 54 = .ok (.iconst 1, 1) := by decide +kernel
theorem dX4_writeHomeRecord_55 : decode cX4_writeHomeRecord 55 = .ok (.invokevirtual 75, 3) := by decide +kernel
theorem dX4_writeHomeRecord_58 : decode cX4_writeHomeRecord 58 = .ok (.aload_n 0, 1) := by decide +kernel
theorem dX4_writeHomeRecord_59 : decode cX4_writeHomeRecord 59 = .ok (.getfield 33, 3) := by decide +kernel
theorem dX4_writeHomeRecord_62 : decode cX4_writeHomeRecord 62 = .ok (.aload_n 0, 1) := by decide +kernel
theorem dX4_writeHomeRecord_63 : decode cX4_writeHomeRecord 63 = .ok (.getfield 30, 3) := by decide +kernel
theorem dX4_writeHomeRecord_66 : decode cX4_writeHomeRecord 66 = .ok (.invokevirtual 274, 3) := by decide +kernel
theorem dX4_writeHomeRecord_69 : decode cX4_writeHomeRecord 69 = .ok (.aload_n 0, 1) := by decide +kernel
theorem dX4_writeHomeRecord_70 : decode cX4_writeHomeRecord 70 = .ok (.getfield 33, 3) := by decide +kernel
theorem dX4_writeHomeRecord_73 : decode cX4_writeHomeRecord 73 = .ok (.getfield 54, 3) := by decide +kernel
theorem dX4_writeHomeRecord_76 : decode cX4_writeHomeRecord 76 = .ok (.istore_n 1, 1) := by decide +kernel
theorem dX4_writeHomeRecord_77 : decode cX4_writeHomeRecord 77 = .ok (.iload_n 1, 1) := by decide +kernel
theorem dX4_writeHomeRecord_78 : decode cX4_writeHomeRecord 78 = .ok (.iconst 3, 1) := by decide +kernel
theorem dX4_writeHomeRecord_79 : decode cX4_writeHomeRecord 79 = .ok (.if_icmp .ge 17, 3) := by decide +kernel
theorem dX4_writeHomeRecord_82 : decode cX4_writeHomeRecord 82 = .ok (.aload_n 0, 1) := by decide +kernel
theorem dX4_writeHomeRecord_83 : decode cX4_writeHomeRecord 83 = .ok (.getfield 33, 3) := by decide +kernel
theorem dX4_writeHomeRecord_86 : decode cX4_writeHomeRecord 86 = .ok (.iconst 0, 1) := by decide +kernel
theorem dX4_writeHomeRecord_87 : decode cX4_writeHomeRecord 87 = .ok (.invokevirtual 75, 3) := by decide +kernel
theorem dX4_writeHomeRecord_90 : decode cX4_writeHomeRecord 90 = .ok (.iinc 1 1, 3) := by decide +kernel
theorem dX4_writeHomeRecord_93 : decode cX4_writeHomeRecord 93 = .ok (.goto (-16), 3) := by decide +kernel
theorem dX4_writeHomeRecord_96 : decode cX4_writeHomeRecord 96 = .ok (.return_, 1) := by decide +kernel
theorem dX4_writeHead_0 : decode cX4_writeHead 0 = .ok (.aload_n 0, 1) := by decide +kernel
theorem dX4_writeHead_1 : decode cX4_writeHead 1 = .ok (.getfield 33, 3) := by decide +kernel
theorem dX4_writeHead_4 : decode cX4_writeHead 4 = .ok (.invokevirtual 58, 3) := by decide +kernel
theorem dX4_writeHead_7 : decode cX4_writeHead 7 = .ok (.aload_n 0, 1) := by decide +kernel
theorem dX4_writeHead_8 : decode cX4_writeHead 8 = .ok (.getfield 33, 3) := by decide +kernel
theorem dX4_writeHead_11 : decode cX4_writeHead 11 = .ok (.iload_n 1, 1) := by decide +kernel
theorem dX4_writeHead_12 : decode cX4_writeHead 12 = .ok (.invokevirtual 75, 3) := by decide +kernel
theorem dX4_writeHead_15 : decode cX4_writeHead 15 = .ok (.aload_n 0, 1) := by decide +kernel
theorem dX4_writeHead_16 : decode cX4_writeHead 16 = .ok (.getfield 33, 3) := by decide +kernel
theorem dX4_writeHead_19 : decode cX4_writeHead 19 = .ok (.iload_n 2, 1) := by decide +kernel
theorem dX4_writeHead_20 : decode cX4_writeHead 20 = .ok (.invokestatic 167, 3) := by decide +kernel
theorem dX4_writeHead_23 : decode cX4_writeHead 23 = .ok (.invokevirtual 75, 3) := by decide +kernel
theorem dX4_writeHead_26 : decode cX4_writeHead 26 = .ok (.aload_n 0, 1) := by decide +kernel
theorem dX4_writeHead_27 : decode cX4_writeHead 27 = .ok (.getfield 33, 3) := by decide +kernel
theorem dX4_writeHead_30 : decode cX4_writeHead 30 = .ok (.iload_n 2, 1) := by decide +kernel
theorem dX4_writeHead_31 : decode cX4_writeHead 31 = .ok (.invokestatic 170, 3) := by decide +kernel
theorem dX4_writeHead_34 : decode cX4_writeHead 34 = .ok (.invokevirtual 75, 3) := by decide +kernel
theorem dX4_writeHead_37 : decode cX4_writeHead 37 = .ok (.return_, 1) := by decide +kernel
theorem dX4_writeMovedRecord_0 : decode cX4_writeMovedRecord 0 = .ok (.aload_n 0, 1) := by decide +kernel
theorem dX4_writeMovedRecord_1 : decode cX4_writeMovedRecord 1 = .ok (.iconst 3, 1) := by decide +kernel
theorem dX4_writeMovedRecord_2 : decode cX4_writeMovedRecord 2 = .ok (.iload_n 1, 1) := by decide +kernel
theorem dX4_writeMovedRecord_3 : decode cX4_writeMovedRecord 3 = .ok (.invokevirtual 278, 3) := by decide +kernel
theorem dX4_writeMovedRecord_6 : decode cX4_writeMovedRecord 6 = .ok (.aload_n 0, 1) := by decide +kernel
theorem dX4_writeMovedRecord_7 : decode cX4_writeMovedRecord 7 = .ok (.getfield 33, 3) := by decide +kernel
theorem dX4_writeMovedRecord_10 : decode cX4_writeMovedRecord 10 = .ok (.aload_n 0, 1) := by decide +kernel
theorem dX4_writeMovedRecord_11 : decode cX4_writeMovedRecord 11 = .ok (.getfield 30, 3) := by decide +kernel
theorem dX4_writeMovedRecord_14 : decode cX4_writeMovedRecord 14 = .ok (.invokevirtual 274, 3) := by decide +kernel
theorem dX4_writeMovedRecord_17 : decode cX4_writeMovedRecord 17 = .ok (.return_, 1) := by decide +kernel
theorem dX4_insertContent_0 : decode cX4_insertContent 0 = .ok (.aload_n 0, 1) := by decide +kernel
theorem dX4_insertContent_1 : decode cX4_insertContent 1 = .ok (.getfield 12, 3) := by decide +kernel
theorem dX4_insertContent_4 : decode cX4_insertContent 4 = .ok (.iload_n 1, 1) := by decide +kernel
theorem dX4_insertContent_5 : decode cX4_insertContent 5 = .ok (.invokevirtual 281, 3) := by decide +kernel
theorem dX4_insertContent_8 : decode cX4_insertContent 8 = .ok (.iload_n 1, 1) := by decide +kernel
theorem dX4_insertContent_9 : decode cX4_insertContent 9 = .ok (.aload_n 0, 1) := by decide +kernel
theorem dX4_insertContent_10 : decode cX4_insertContent 10 = .ok (.getfield 12, 3) := by decide +kernel
theorem dX4_insertContent_13 : decode cX4_insertContent 13 = .ok (.iload_n 1, 1) := by decide +kernel
theorem dX4_insertContent_14 : decode cX4_insertContent 14 = .ok (.invokevirtual 194, 3) := by decide +kernel
theorem dX4_insertContent_17 : decode cX4_insertContent 17 = .ok (.invokestatic 149, 3) := by decide +kernel
theorem dX4_insertContent_20 : decode cX4_insertContent 20 = .ok (.istore_n 2, 1) := by decide +kernel
theorem dX4_insertContent_21 : decode cX4_insertContent 21 = .ok (.aload_n 0, 1) := by decide +kernel
theorem dX4_insertContent_22 : decode cX4_insertContent 22 = .ok (.invokevirtual 284, 3) := by decide +kernel
theorem dX4_insertContent_25 : decode cX4_insertContent 25 = .ok (.aload_n 0, 1) := by decide +kernel
theorem dX4_insertContent_26 : decode cX4_insertContent 26 = .ok (.getfield 12, 3) := by decide +kernel
theorem dX4_insertContent_29 : decode cX4_insertContent 29 = .ok (.iload_n 2, 1) := by decide +kernel
theorem dX4_insertContent_30 : decode cX4_insertContent 30 = .ok (.aload_n 0, 1) := by decide +kernel
theorem dX4_insertContent_31 : decode cX4_insertContent 31 = .ok (.getfield 33, 3) := by decide +kernel
theorem dX4_insertContent_34 : decode cX4_insertContent 34 = .ok (.invokevirtual 287, 3) := by decide +kernel
theorem dX4_insertContent_37 : decode cX4_insertContent 37 = .ok (.iload_n 2, 1) := by decide +kernel
theorem dX4_insertContent_38 : decode cX4_insertContent 38 = .ok (.ireturn, 1) := by decide +kernel
theorem dX4_roomToReplace_0 : decode cX4_roomToReplace 0 = .ok (.aload_n 0, 1) := by decide +kernel
theorem dX4_roomToReplace_1 : decode cX4_roomToReplace 1 = .ok (.getfield 12, 3) := by decide +kernel
theorem dX4_roomToReplace_4 : decode cX4_roomToReplace 4 = .ok (.iload_n 1, 1) := by decide +kernel
theorem dX4_roomToReplace_5 : decode cX4_roomToReplace 5 = .ok (.invokestatic 167, 3) := by decide +kernel
theorem dX4_roomToReplace_8 : decode cX4_roomToReplace 8 = .ok (.invokevirtual 161, 3) := by decide +kernel
theorem dX4_roomToReplace_11 : decode cX4_roomToReplace 11 = .ok (.aload_n 0, 1) := by decide +kernel
theorem dX4_roomToReplace_12 : decode cX4_roomToReplace 12 = .ok (.iload_n 1, 1) := by decide +kernel
theorem dX4_roomToReplace_13 : decode cX4_roomToReplace 13 = .ok (.invokevirtual 271, 3) := by decide +kernel
theorem dX4_roomToReplace_16 : decode cX4_roomToReplace 16 = .ok (.iadd, 1) := by decide +kernel
theorem dX4_roomToReplace_17 : decode cX4_roomToReplace 17 = .ok (.ireturn, 1) := by decide +kernel
theorem dX4_wayToChange_0 : decode cX4_wayToChange 0 = .ok (.iload_n 2, 1) := by decide +kernel
theorem dX4_wayToChange_1 : decode cX4_wayToChange 1 = .ok (.invokestatic 78, 3) := by decide +kernel
theorem dX4_wayToChange_4 : decode cX4_wayToChange 4 = .ok (.aload_n 0, 1) := by decide +kernel
theorem dX4_wayToChange_5 : decode cX4_wayToChange 5 = .ok (.iload_n 1, 1) := by decide +kernel
theorem dX4_wayToChange_6 : decode cX4_wayToChange 6 = .ok (.invokevirtual 197, 3) := by decide +kernel
theorem dX4_wayToChange_9 : decode cX4_wayToChange 9 = .ok (.if_icmp .gt 5, 3) := by decide +kernel
theorem dX4_wayToChange_12 : decode cX4_wayToChange 12 = .ok (.iconst 1, 1) := by decide +kernel
theorem dX4_wayToChange_13 : decode cX4_wayToChange 13 = .ok (.ireturn, 1) := by decide +kernel
theorem dX4_wayToChange_14 : decode cX4_wayToChange 14 = .ok (.aload_n 0, 1) := by decide +kernel
theorem dX4_wayToChange_15 : decode cX4_wayToChange 15 = .ok (.iload_n 1, 1) := by decide +kernel
theorem dX4_wayToChange_16 : decode cX4_wayToChange 16 = .ok (.invokevirtual 110, 3) := by decide +kernel
theorem dX4_wayToChange_19 : decode cX4_wayToChange 19 = .ok (.istore_n 3, 1) := by decide +kernel
theorem dX4_wayToChange_20 : decode cX4_wayToChange 20 = .ok (.iload_n 2, 1) := by decide +kernel
theorem dX4_wayToChange_21 : decode cX4_wayToChange 21 = .ok (.invokestatic 291, 3) := by decide +kernel
theorem dX4_wayToChange_24 : decode cX4_wayToChange 24 = .ok (.istore 4, 2) := by decide +kernel
theorem dX4_wayToChange_26 : decode cX4_wayToChange 26 = .ok (.iload_n 3, 1) := by decide +kernel
theorem dX4_wayToChange_27 : decode cX4_wayToChange 27 = .ok (.iload_n 1, 1) := by decide +kernel
theorem dX4_wayToChange_28 : decode cX4_wayToChange 28 = .ok (.if_icmp .eq 15, 3) := by decide +kernel
theorem dX4_wayToChange_31 : decode cX4_wayToChange 31 = .ok (.iload 4, 2) := by decide +kernel
theorem dX4_wayToChange_33 : decode cX4_wayToChange 33 = .ok (.aload_n 0, 1) := by decide +kernel
theorem dX4_wayToChange_34 : decode cX4_wayToChange 34 = .ok (.iload_n 3, 1) := by decide +kernel
theorem dX4_wayToChange_35 : decode cX4_wayToChange 35 = .ok (.invokevirtual 197, 3) := by decide +kernel
theorem dX4_wayToChange_38 : decode cX4_wayToChange 38 = .ok (.if_icmp .gt 5, 3) := by decide +kernel
theorem dX4_wayToChange_41 : decode cX4_wayToChange 41 = .ok (.iconst 2, 1) := by decide +kernel
theorem dX4_wayToChange_42 : decode cX4_wayToChange 42 = .ok (.ireturn, 1) := by decide +kernel
theorem dX4_wayToChange_43 : decode cX4_wayToChange 43 = .ok (.aload_n 0, 1) := by decide +kernel
theorem dX4_wayToChange_44 : decode cX4_wayToChange 44 = .ok (.getfield 12, 3) := by decide +kernel
theorem dX4_wayToChange_47 : decode cX4_wayToChange 47 = .ok (.iload 4, 2) := by decide +kernel
theorem dX4_wayToChange_49 : decode cX4_wayToChange 49 = .ok (.iload_n 1, 1) := by decide +kernel
theorem dX4_wayToChange_50 : decode cX4_wayToChange 50 = .ok (.invokestatic 167, 3) := by decide +kernel
theorem dX4_wayToChange_53 : decode cX4_wayToChange 53 = .ok (.iload_n 3, 1) := by decide +kernel
theorem dX4_wayToChange_54 : decode cX4_wayToChange 54 = .ok (.invokestatic 167, 3) := by decide +kernel
theorem dX4_wayToChange_57 : decode cX4_wayToChange 57 = .ok (.invokevirtual 82, 3) := by decide +kernel
theorem dX4_wayToChange_60 : decode cX4_wayToChange 60 = .ok (.iconst (-1), 1) := by decide +kernel
theorem dX4_wayToChange_61 : decode cX4_wayToChange 61 = .ok (.if_icmp .ne 7, 3) := by decide +kernel
theorem dX4_wayToChange_64 : decode cX4_wayToChange 64 = .ok (.iconst (-1), 1) := by decide +kernel
theorem dX4_wayToChange_65 : decode cX4_wayToChange 65 = .ok (.goto 4, 3) := by decide +kernel
theorem dX4_wayToChange_68 : decode cX4_wayToChange 68 = .ok (.iconst 3, 1) := by decide +kernel
theorem dX4_wayToChange_69 : decode cX4_wayToChange 69 = .ok (.ireturn, 1) := by decide +kernel
theorem dX4_changeRow_0 : decode cX4_changeRow 0 = .ok (.aload_n 0, 1) := by decide +kernel
theorem dX4_changeRow_1 : decode cX4_changeRow 1 = .ok (.iload_n 1, 1) := by decide +kernel
theorem dX4_changeRow_2 : decode cX4_changeRow 2 = .ok (.invokevirtual 110, 3) := by decide +kernel
theorem dX4_changeRow_5 : decode cX4_changeRow 5 = .ok (.istore_n 3, 1) := by decide +kernel
theorem dX4_changeRow_6 : decode cX4_changeRow 6 = .ok (.iload_n 2, 1) := by decide +kernel
theorem dX4_changeRow_7 : decode cX4_changeRow 7 = .ok (.iconst 1, 1) := by decide +kernel
theorem dX4_changeRow_8 : decode cX4_changeRow 8 = .ok (.if_icmp .ne 10, 3) := by decide +kernel
theorem dX4_changeRow_11 : decode cX4_changeRow 11 = .ok (.aload_n 0, 1) := by decide +kernel
theorem dX4_changeRow_12 : decode cX4_changeRow 12 = .ok (.iload_n 1, 1) := by decide +kernel
theorem dX4_changeRow_13 : decode cX4_changeRow 13 = .ok (.iload_n 3, 1) := by decide +kernel
theorem dX4_changeRow_14 : decode cX4_changeRow 14 = .ok (.invokevirtual 294, 3) := by decide +kernel
theorem dX4_changeRow_17 : decode cX4_changeRow 17 = .ok (.return_, 1) := by decide +kernel
theorem dX4_changeRow_18 : decode cX4_changeRow 18 = .ok (.aload_n 0, 1) := by decide +kernel
theorem dX4_changeRow_19 : decode cX4_changeRow 19 = .ok (.iload_n 1, 1) := by decide +kernel
theorem dX4_changeRow_20 : decode cX4_changeRow 20 = .ok (.invokevirtual 297, 3) := by decide +kernel
theorem dX4_changeRow_23 : decode cX4_changeRow 23 = .ok (.iload_n 2, 1) := by decide +kernel
theorem dX4_changeRow_24 : decode cX4_changeRow 24 = .ok (.iconst 2, 1) := by decide +kernel
theorem dX4_changeRow_25 : decode cX4_changeRow 25 = .ok (.if_icmp .ne 16, 3) := by decide +kernel
theorem dX4_changeRow_28 : decode cX4_changeRow 28 = .ok (.aload_n 0, 1) := by decide +kernel
theorem dX4_changeRow_29 : decode cX4_changeRow 29 = .ok (.getfield 12, 3) := by decide +kernel
theorem dX4_changeRow_32 : decode cX4_changeRow 32 = .ok (.iload_n 3, 1) := by decide +kernel
theorem dX4_changeRow_33 : decode cX4_changeRow 33 = .ok (.aload_n 0, 1) := by decide +kernel
theorem dX4_changeRow_34 : decode cX4_changeRow 34 = .ok (.getfield 33, 3) := by decide +kernel
theorem dX4_changeRow_37 : decode cX4_changeRow 37 = .ok (.invokevirtual 287, 3) := by decide +kernel
theorem dX4_changeRow_40 : decode cX4_changeRow 40 = .ok (.return_, 1) := by decide +kernel
theorem dX4_changeRow_41 : decode cX4_changeRow 41 = .ok (.aload_n 0, 1) := by decide +kernel
theorem dX4_changeRow_42 : decode cX4_changeRow 42 = .ok (.getfield 12, 3) := by decide +kernel
theorem dX4_changeRow_45 : decode cX4_changeRow 45 = .ok (.aload_n 0, 1) := by decide +kernel
theorem dX4_changeRow_46 : decode cX4_changeRow 46 = .ok (.getfield 33, 3) := by decide +kernel
theorem dX4_changeRow_49 : decode cX4_changeRow 49 = .ok (.getfield 54, 3) := by decide +kernel
theorem dX4_changeRow_52 : decode cX4_changeRow 52 = .ok (.iload_n 1, 1) := by decide +kernel
theorem dX4_changeRow_53 : decode cX4_changeRow 53 = .ok (.invokestatic 167, 3) := by decide +kernel
theorem dX4_changeRow_56 : decode cX4_changeRow 56 = .ok (.iload_n 3, 1) := by decide +kernel
theorem dX4_changeRow_57 : decode cX4_changeRow 57 = .ok (.invokestatic 167, 3) := by decide +kernel
theorem dX4_changeRow_60 : decode cX4_changeRow 60 = .ok (.invokevirtual 82, 3) := by decide +kernel
theorem dX4_changeRow_63 : decode cX4_changeRow 63 = .ok (.istore 4, 2) := by decide +kernel
theorem dX4_changeRow_65 : decode cX4_changeRow 65 = .ok (.aload_n 0, 1) := by decide +kernel
theorem dX4_changeRow_66 : decode cX4_changeRow 66 = .ok (.getfield 12, 3) := by decide +kernel
theorem dX4_changeRow_69 : decode cX4_changeRow 69 = .ok (.iload 4, 2) := by decide +kernel
theorem dX4_changeRow_71 : decode cX4_changeRow 71 = .ok (.invokevirtual 281, 3) := by decide +kernel
theorem dX4_changeRow_74 : decode cX4_changeRow 74 = .ok (.iload 4, 2) := by decide +kernel
theorem dX4_changeRow_76 : decode cX4_changeRow 76 = .ok (.aload_n 0, 1) := by decide +kernel
theorem dX4_changeRow_77 : decode cX4_changeRow 77 = .ok (.getfield 12, 3) := by decide +kernel
theorem dX4_changeRow_80 : decode cX4_changeRow 80 = .ok (.iload 4, 2) := by decide +kernel
theorem dX4_changeRow_82 : decode cX4_changeRow 82 = .ok (.invokevirtual 194, 3) := by decide +kernel
theorem dX4_changeRow_85 : decode cX4_changeRow 85 = .ok (.invokestatic 149, 3) := by decide +kernel
theorem dX4_changeRow_88 : decode cX4_changeRow 88 = .ok (.istore 5, 2) := by decide +kernel
theorem dX4_changeRow_90 : decode cX4_changeRow 90 = .ok (.aload_n 0, 1) := by decide +kernel
theorem dX4_changeRow_91 : decode cX4_changeRow 91 = .ok (.getfield 12, 3) := by decide +kernel
theorem dX4_changeRow_94 : decode cX4_changeRow 94 = .ok (.iload 5, 2) := by decide +kernel
theorem dX4_changeRow_96 : decode cX4_changeRow 96 = .ok (.aload_n 0, 1) := by decide +kernel
theorem dX4_changeRow_97 : decode cX4_changeRow 97 = .ok (.getfield 33, 3) := by decide +kernel
theorem dX4_changeRow_100 : decode cX4_changeRow 100 = .ok (.invokevirtual 287, 3) := by decide +kernel
theorem dX4_changeRow_103 : decode cX4_changeRow 103 = .ok (.aload_n 0, 1) := by decide +kernel
theorem dX4_changeRow_104 : decode cX4_changeRow 104 = .ok (.iload_n 1, 1) := by decide +kernel
theorem dX4_changeRow_105 : decode cX4_changeRow 105 = .ok (.iload_n 3, 1) := by decide +kernel
theorem dX4_changeRow_106 : decode cX4_changeRow 106 = .ok (.iload 5, 2) := by decide +kernel
theorem dX4_changeRow_108 : decode cX4_changeRow 108 = .ok (.invokevirtual 300, 3) := by decide +kernel
theorem dX4_changeRow_111 : decode cX4_changeRow 111 = .ok (.aload_n 0, 1) := by decide +kernel
theorem dX4_changeRow_112 : decode cX4_changeRow 112 = .ok (.getfield 20, 3) := by decide +kernel
theorem dX4_changeRow_115 : decode cX4_changeRow 115 = .ok (.dup, 1) := by decide +kernel
theorem dX4_changeRow_116 : decode cX4_changeRow 116 = .ok (.getfield 179, 3) := by decide +kernel
theorem dX4_changeRow_119 : decode cX4_changeRow 119 = .ok (.iconst 1, 1) := by decide +kernel
theorem dX4_changeRow_120 : decode cX4_changeRow 120 = .ok (.iadd, 1) := by decide +kernel
theorem dX4_changeRow_121 : decode cX4_changeRow 121 = .ok (.putfield 179, 3) := by decide +kernel
theorem dX4_changeRow_124 : decode cX4_changeRow 124 = .ok (.return_, 1) := by decide +kernel
theorem dX4_storeAtHome_0 : decode cX4_storeAtHome 0 = .ok (.iload_n 2, 1) := by decide +kernel
theorem dX4_storeAtHome_1 : decode cX4_storeAtHome 1 = .ok (.iload_n 1, 1) := by decide +kernel
theorem dX4_storeAtHome_2 : decode cX4_storeAtHome 2 = .ok (.if_icmp .eq 24, 3) := by decide +kernel
theorem dX4_storeAtHome_5 : decode cX4_storeAtHome 5 = .ok (.aload_n 0, 1) := by decide +kernel
theorem dX4_storeAtHome_6 : decode cX4_storeAtHome 6 = .ok (.getfield 12, 3) := by decide +kernel
theorem dX4_storeAtHome_9 : decode cX4_storeAtHome 9 = .ok (.iload_n 2, 1) := by decide +kernel
theorem dX4_storeAtHome_10 : decode cX4_storeAtHome 10 = .ok (.invokevirtual 304, 3) := by decide +kernel
theorem dX4_storeAtHome_13 : decode cX4_storeAtHome 13 = .ok (.aload_n 0, 1) := by decide +kernel
theorem dX4_storeAtHome_14 : decode cX4_storeAtHome 14 = .ok (.getfield 20, 3) := by decide +kernel
theorem dX4_storeAtHome_17 : decode cX4_storeAtHome 17 = .ok (.dup, 1) := by decide +kernel
theorem dX4_storeAtHome_18 : decode cX4_storeAtHome 18 = .ok (.getfield 182, 3) := by decide +kernel
theorem dX4_storeAtHome_21 : decode cX4_storeAtHome 21 = .ok (.iconst 1, 1) := by decide +kernel
theorem dX4_storeAtHome_22 : decode cX4_storeAtHome 22 = .ok (.iadd, 1) := by decide +kernel
theorem dX4_storeAtHome_23 : decode cX4_storeAtHome 23 = .ok (.putfield 182, 3) := by decide +kernel
theorem dX4_storeAtHome_26 : decode cX4_storeAtHome 26 = .ok (.aload_n 0, 1) := by decide +kernel
end
section
theorem dX4_storeAtHome_27 : decode cX4_storeAtHome 27 = .ok (.invokevirtual 284, 3) := by decide +kernel
theorem dX4_storeAtHome_30 : decode cX4_storeAtHome 30 = .ok (.aload_n 0, 1) := by decide +kernel
theorem dX4_storeAtHome_31 : decode cX4_storeAtHome 31 = .ok (.getfield 12, 3) := by decide +kernel
theorem dX4_storeAtHome_34 : decode cX4_storeAtHome 34 = .ok (.iload_n 1, 1) := by decide +kernel
theorem dX4_storeAtHome_35 : decode cX4_storeAtHome 35 = .ok (.aload_n 0, 1) := by decide +kernel
theorem dX4_storeAtHome_36 : decode cX4_storeAtHome 36 = .ok (.getfield 33, 3) := by decide +kernel
theorem dX4_storeAtHome_39 : decode cX4_storeAtHome 39 = .ok (.invokevirtual 287, 3) := by decide +kernel
theorem dX4_storeAtHome_42 : decode cX4_storeAtHome 42 = .ok (.return_, 1) := by decide +kernel
theorem dX4_leaveNote_0 : decode cX4_leaveNote 0 = .ok (.iload_n 2, 1) := by decide +kernel
theorem dX4_leaveNote_1 : decode cX4_leaveNote 1 = .ok (.iload_n 1, 1) := by decide +kernel
theorem dX4_leaveNote_2 : decode cX4_leaveNote 2 = .ok (.if_icmp .ne 22, 3) := by decide +kernel
theorem dX4_leaveNote_5 : decode cX4_leaveNote 5 = .ok (.aload_n 0, 1) := by decide +kernel
theorem dX4_leaveNote_6 : decode cX4_leaveNote 6 = .ok (.iconst 2, 1) := by decide +kernel
theorem dX4_leaveNote_7 : decode cX4_leaveNote 7 = .ok (.iload_n 3, 1) := by decide +kernel
theorem dX4_leaveNote_8 : decode cX4_leaveNote 8 = .ok (.invokevirtual 278, 3) := by decide +kernel
theorem dX4_leaveNote_11 : decode cX4_leaveNote 11 = .ok (.aload_n 0, 1) := by decide +kernel
theorem dX4_leaveNote_12 : decode cX4_leaveNote 12 = .ok (.getfield 12, 3) := by decide +kernel
theorem dX4_leaveNote_15 : decode cX4_leaveNote 15 = .ok (.iload_n 1, 1) := by decide +kernel
theorem dX4_leaveNote_16 : decode cX4_leaveNote 16 = .ok (.aload_n 0, 1) := by decide +kernel
theorem dX4_leaveNote_17 : decode cX4_leaveNote 17 = .ok (.getfield 33, 3) := by decide +kernel
theorem dX4_leaveNote_20 : decode cX4_leaveNote 20 = .ok (.invokevirtual 287, 3) := by decide +kernel
theorem dX4_leaveNote_23 : decode cX4_leaveNote 23 = .ok (.return_, 1) := by decide +kernel
theorem dX4_leaveNote_24 : decode cX4_leaveNote 24 = .ok (.aload_n 0, 1) := by decide +kernel
theorem dX4_leaveNote_25 : decode cX4_leaveNote 25 = .ok (.getfield 12, 3) := by decide +kernel
theorem dX4_leaveNote_28 : decode cX4_leaveNote 28 = .ok (.iload_n 2, 1) := by decide +kernel
theorem dX4_leaveNote_29 : decode cX4_leaveNote 29 = .ok (.invokevirtual 304, 3) := by decide +kernel
theorem dX4_leaveNote_32 : decode cX4_leaveNote 32 = .ok (.aload_n 0, 1) := by decide +kernel
theorem dX4_leaveNote_33 : decode cX4_leaveNote 33 = .ok (.getfield 20, 3) := by decide +kernel
theorem dX4_leaveNote_36 : decode cX4_leaveNote 36 = .ok (.iload_n 1, 1) := by decide +kernel
theorem dX4_leaveNote_37 : decode cX4_leaveNote 37 = .ok (.invokestatic 167, 3) := by decide +kernel
theorem dX4_leaveNote_40 : decode cX4_leaveNote 40 = .ok (.iload_n 1, 1) := by decide +kernel
theorem dX4_leaveNote_41 : decode cX4_leaveNote 41 = .ok (.invokestatic 170, 3) := by decide +kernel
theorem dX4_leaveNote_44 : decode cX4_leaveNote 44 = .ok (.iconst 1, 1) := by decide +kernel
theorem dX4_leaveNote_45 : decode cX4_leaveNote 45 = .ok (.iload_n 3, 1) := by decide +kernel
theorem dX4_leaveNote_46 : decode cX4_leaveNote 46 = .ok (.invokestatic 167, 3) := by decide +kernel
theorem dX4_leaveNote_49 : decode cX4_leaveNote 49 = .ok (.invokevirtual 307, 3) := by decide +kernel
theorem dX4_leaveNote_52 : decode cX4_leaveNote 52 = .ok (.aload_n 0, 1) := by decide +kernel
theorem dX4_leaveNote_53 : decode cX4_leaveNote 53 = .ok (.getfield 20, 3) := by decide +kernel
theorem dX4_leaveNote_56 : decode cX4_leaveNote 56 = .ok (.iload_n 1, 1) := by decide +kernel
theorem dX4_leaveNote_57 : decode cX4_leaveNote 57 = .ok (.invokestatic 167, 3) := by decide +kernel
theorem dX4_leaveNote_60 : decode cX4_leaveNote 60 = .ok (.iload_n 1, 1) := by decide +kernel
theorem dX4_leaveNote_61 : decode cX4_leaveNote 61 = .ok (.invokestatic 170, 3) := by decide +kernel
theorem dX4_leaveNote_64 : decode cX4_leaveNote 64 = .ok (.iconst 2, 1) := by decide +kernel
theorem dX4_leaveNote_65 : decode cX4_leaveNote 65 = .ok (.iload_n 3, 1) := by decide +kernel
theorem dX4_leaveNote_66 : decode cX4_leaveNote 66 = .ok (.invokestatic 170, 3) := by decide +kernel
theorem dX4_leaveNote_69 : decode cX4_leaveNote 69 = .ok (.invokevirtual 307, 3) := by decide +kernel
theorem dX4_leaveNote_72 : decode cX4_leaveNote 72 = .ok (.return_, 1) := by decide +kernel
theorem dX4_deleteRow_0 : decode cX4_deleteRow 0 = .ok (.aload_n 0, 1) := by decide +kernel
theorem dX4_deleteRow_1 : decode cX4_deleteRow 1 = .ok (.iload_n 1, 1) := by decide +kernel
theorem dX4_deleteRow_2 : decode cX4_deleteRow 2 = .ok (.invokevirtual 110, 3) := by decide +kernel
theorem dX4_deleteRow_5 : decode cX4_deleteRow 5 = .ok (.istore_n 2, 1) := by decide +kernel
theorem dX4_deleteRow_6 : decode cX4_deleteRow 6 = .ok (.aload_n 0, 1) := by decide +kernel
theorem dX4_deleteRow_7 : decode cX4_deleteRow 7 = .ok (.getfield 12, 3) := by decide +kernel
theorem dX4_deleteRow_10 : decode cX4_deleteRow 10 = .ok (.iload_n 2, 1) := by decide +kernel
theorem dX4_deleteRow_11 : decode cX4_deleteRow 11 = .ok (.invokevirtual 304, 3) := by decide +kernel
theorem dX4_deleteRow_14 : decode cX4_deleteRow 14 = .ok (.iload_n 2, 1) := by decide +kernel
theorem dX4_deleteRow_15 : decode cX4_deleteRow 15 = .ok (.iload_n 1, 1) := by decide +kernel
theorem dX4_deleteRow_16 : decode cX4_deleteRow 16 = .ok (.if_icmp .eq 11, 3) := by decide +kernel
theorem dX4_deleteRow_19 : decode cX4_deleteRow 19 = .ok (.aload_n 0, 1) := by decide +kernel
theorem dX4_deleteRow_20 : decode cX4_deleteRow 20 = .ok (.getfield 12, 3) := by decide +kernel
theorem dX4_deleteRow_23 : decode cX4_deleteRow 23 = .ok (.iload_n 1, 1) := by decide +kernel
theorem dX4_deleteRow_24 : decode cX4_deleteRow 24 = .ok (.invokevirtual 304, 3) := by decide +kernel
theorem dX4_deleteRow_27 : decode cX4_deleteRow 27 = .ok (.return_, 1) := by decide +kernel
theorem dX4_bringAllHome_0 : decode cX4_bringAllHome 0 = .ok (.iconst 0, 1) := by decide +kernel
theorem dX4_bringAllHome_1 : decode cX4_bringAllHome 1 = .ok (.istore_n 1, 1) := by decide +kernel
theorem dX4_bringAllHome_2 : decode cX4_bringAllHome 2 = .ok (.iconst 0, 1) := by decide +kernel
theorem dX4_bringAllHome_3 : decode cX4_bringAllHome 3 = .ok (.istore_n 2, 1) := by decide +kernel
theorem dX4_bringAllHome_4 : decode cX4_bringAllHome 4 = .ok (.iload_n 2, 1) := by decide +kernel
theorem dX4_bringAllHome_5 : decode cX4_bringAllHome 5 = .ok (.aload_n 0, 1) := by decide +kernel
theorem dX4_bringAllHome_6 : decode cX4_bringAllHome 6 = .ok (.getfield 20, 3) := by decide +kernel
theorem dX4_bringAllHome_9 : decode cX4_bringAllHome 9 = .ok (.getfield 143, 3) := by decide +kernel
theorem dX4_bringAllHome_12 : decode cX4_bringAllHome 12 = .ok (.if_icmp .ge 75, 3) := by decide +kernel
theorem dX4_bringAllHome_15 : decode cX4_bringAllHome 15 = .ok (.aload_n 0, 1) := by decide +kernel
theorem dX4_bringAllHome_16 : decode cX4_bringAllHome 16 = .ok (.getfield 20, 3) := by decide +kernel
theorem dX4_bringAllHome_19 : decode cX4_bringAllHome 19 = .ok (.iload_n 2, 1) := by decide +kernel
theorem dX4_bringAllHome_20 : decode cX4_bringAllHome 20 = .ok (.invokevirtual 146, 3) := by decide +kernel
theorem dX4_bringAllHome_23 : decode cX4_bringAllHome 23 = .ok (.istore_n 3, 1) := by decide +kernel
theorem dX4_bringAllHome_24 : decode cX4_bringAllHome 24 = .ok (.iconst 0, 1) := by decide +kernel
theorem dX4_bringAllHome_25 : decode cX4_bringAllHome 25 = .ok (.istore 4, 2) := by decide +kernel
theorem dX4_bringAllHome_27 : decode cX4_bringAllHome 27 = .ok (.iload 4, 2) := by decide +kernel
theorem dX4_bringAllHome_29 : decode cX4_bringAllHome 29 = .ok (.iload_n 3, 1) := by decide +kernel
theorem dX4_bringAllHome_30 : decode cX4_bringAllHome 30 = .ok (.if_icmp .ge 51, 3) := by decide +kernel
theorem dX4_bringAllHome_33 : decode cX4_bringAllHome 33 = .ok (.iload_n 2, 1) := by decide +kernel
theorem dX4_bringAllHome_34 : decode cX4_bringAllHome 34 = .ok (.iload 4, 2) := by decide +kernel
theorem dX4_bringAllHome_36 : decode cX4_bringAllHome 36 = .ok (.invokestatic 149, 3) := by decide +kernel
theorem dX4_bringAllHome_39 : decode cX4_bringAllHome 39 = .ok (.istore 5, 2) := by decide +kernel
theorem dX4_bringAllHome_41 : decode cX4_bringAllHome 41 = .ok (.aload_n 0, 1) := by decide +kernel
theorem dX4_bringAllHome_42 : decode cX4_bringAllHome 42 = .ok (.iload 5, 2) := by decide +kernel
theorem dX4_bringAllHome_44 : decode cX4_bringAllHome 44 = .ok (.invokevirtual 311, 3) := by decide +kernel
theorem dX4_bringAllHome_47 : decode cX4_bringAllHome 47 = .ok (.ifCond .eq 28, 3) := by decide +kernel
theorem dX4_bringAllHome_50 : decode cX4_bringAllHome 50 = .ok (.aload_n 0, 1) := by decide +kernel
theorem dX4_bringAllHome_51 : decode cX4_bringAllHome 51 = .ok (.iload 5, 2) := by decide +kernel
theorem dX4_bringAllHome_53 : decode cX4_bringAllHome 53 = .ok (.invokevirtual 155, 3) := by decide +kernel
theorem dX4_bringAllHome_56 : decode cX4_bringAllHome 56 = .ok (.istore 6, 2) := by decide +kernel
theorem dX4_bringAllHome_58 : decode cX4_bringAllHome 58 = .ok (.aload_n 0, 1) := by decide +kernel
theorem dX4_bringAllHome_59 : decode cX4_bringAllHome 59 = .ok (.iload 6, 2) := by decide +kernel
theorem dX4_bringAllHome_61 : decode cX4_bringAllHome 61 = .ok (.invokevirtual 314, 3) := by decide +kernel
theorem dX4_bringAllHome_64 : decode cX4_bringAllHome 64 = .ok (.aload_n 0, 1) := by decide +kernel
theorem dX4_bringAllHome_65 : decode cX4_bringAllHome 65 = .ok (.iload 5, 2) := by decide +kernel
theorem dX4_bringAllHome_67 : decode cX4_bringAllHome 67 = .ok (.iload 6, 2) := by decide +kernel
theorem dX4_bringAllHome_69 : decode cX4_bringAllHome 69 = .ok (.invokevirtual 294, 3) := by decide +kernel
theorem dX4_bringAllHome_72 : decode cX4_bringAllHome 72 = .ok (.iinc 1 1, 3) := by decide +kernel
theorem dX4_bringAllHome_75 : decode cX4_bringAllHome 75 = .ok (.iinc 4 1, 3) := by decide +kernel
theorem dX4_bringAllHome_78 : decode cX4_bringAllHome 78 = .ok (.goto (-51), 3) := by decide +kernel
theorem dX4_bringAllHome_81 : decode cX4_bringAllHome 81 = .ok (.iinc 2 1, 3) := by decide +kernel
theorem dX4_bringAllHome_84 : decode cX4_bringAllHome 84 = .ok (.goto (-80), 3) := by decide +kernel
theorem dX4_bringAllHome_87 : decode cX4_bringAllHome 87 = .ok (.iload_n 1, 1) := by decide +kernel
theorem dX4_bringAllHome_88 : decode cX4_bringAllHome 88 = .ok (.ireturn, 1) := by decide +kernel
theorem dX4_mayReturn_0 : decode cX4_mayReturn 0 = .ok (.aload_n 0, 1) := by decide +kernel
theorem dX4_mayReturn_1 : decode cX4_mayReturn 1 = .ok (.iload_n 1, 1) := by decide +kernel
theorem dX4_mayReturn_2 : decode cX4_mayReturn 2 = .ok (.invokevirtual 132, 3) := by decide +kernel
theorem dX4_mayReturn_5 : decode cX4_mayReturn 5 = .ok (.iconst 2, 1) := by decide +kernel
theorem dX4_mayReturn_6 : decode cX4_mayReturn 6 = .ok (.if_icmp .ne 27, 3) := by decide +kernel
theorem dX4_mayReturn_9 : decode cX4_mayReturn 9 = .ok (.aload_n 0, 1) := by decide +kernel
theorem dX4_mayReturn_10 : decode cX4_mayReturn 10 = .ok (.aload_n 0, 1) := by decide +kernel
theorem dX4_mayReturn_11 : decode cX4_mayReturn 11 = .ok (.iload_n 1, 1) := by decide +kernel
theorem dX4_mayReturn_12 : decode cX4_mayReturn 12 = .ok (.invokevirtual 155, 3) := by decide +kernel
theorem dX4_mayReturn_15 : decode cX4_mayReturn 15 = .ok (.invokevirtual 113, 3) := by decide +kernel
theorem dX4_mayReturn_18 : decode cX4_mayReturn 18 = .ok (.invokestatic 78, 3) := by decide +kernel
theorem dX4_mayReturn_21 : decode cX4_mayReturn 21 = .ok (.aload_n 0, 1) := by decide +kernel
theorem dX4_mayReturn_22 : decode cX4_mayReturn 22 = .ok (.iload_n 1, 1) := by decide +kernel
theorem dX4_mayReturn_23 : decode cX4_mayReturn 23 = .ok (.invokevirtual 197, 3) := by decide +kernel
theorem dX4_mayReturn_26 : decode cX4_mayReturn 26 = .ok (.if_icmp .gt 7, 3) := by decide +kernel
theorem dX4_mayReturn_29 : decode cX4_mayReturn 29 = .ok (.iconst 1, 1) := by decide +kernel
theorem dX4_mayReturn_30 : decode cX4_mayReturn 30 = .ok (.goto 4, 3) := by decide +kernel
theorem dX4_mayReturn_33 : decode cX4_mayReturn 33 = .ok (.iconst 0, 1) := by decide +kernel
theorem dX4_mayReturn_34 : decode cX4_mayReturn 34 = .ok (.ireturn, 1) := by decide +kernel
theorem dX4_takeContentOf_0 : decode cX4_takeContentOf 0 = .ok (.aload_n 0, 1) := by decide +kernel
theorem dX4_takeContentOf_1 : decode cX4_takeContentOf 1 = .ok (.iload_n 1, 1) := by decide +kernel
theorem dX4_takeContentOf_2 : decode cX4_takeContentOf 2 = .ok (.invokevirtual 113, 3) := by decide +kernel
theorem dX4_takeContentOf_5 : decode cX4_takeContentOf 5 = .ok (.istore_n 2, 1) := by decide +kernel
theorem dX4_takeContentOf_6 : decode cX4_takeContentOf 6 = .ok (.aload_n 0, 1) := by decide +kernel
theorem dX4_takeContentOf_7 : decode cX4_takeContentOf 7 = .ok (.getfield 30, 3) := by decide +kernel
theorem dX4_takeContentOf_10 : decode cX4_takeContentOf 10 = .ok (.invokevirtual 58, 3) := by decide +kernel
theorem dX4_takeContentOf_13 : decode cX4_takeContentOf 13 = .ok (.iconst 0, 1) := by decide +kernel
theorem dX4_takeContentOf_14 : decode cX4_takeContentOf 14 = .ok (.istore_n 3, 1) := by decide +kernel
theorem dX4_takeContentOf_15 : decode cX4_takeContentOf 15 = .ok (.iload_n 3, 1) := by decide +kernel
theorem dX4_takeContentOf_16 : decode cX4_takeContentOf 16 = .ok (.iload_n 2, 1) := by decide +kernel
theorem dX4_takeContentOf_17 : decode cX4_takeContentOf 17 = .ok (.if_icmp .ge 22, 3) := by decide +kernel
theorem dX4_takeContentOf_20 : decode cX4_takeContentOf 20 = .ok (.aload_n 0, 1) := by decide +kernel
theorem dX4_takeContentOf_21 : decode cX4_takeContentOf 21 = .ok (.getfield 30, 3) := by decide +kernel
theorem dX4_takeContentOf_24 : decode cX4_takeContentOf 24 = .ok (.aload_n 0, 1) := by decide +kernel
theorem dX4_takeContentOf_25 : decode cX4_takeContentOf 25 = .ok (.iload_n 1, 1) := by decide +kernel
theorem dX4_takeContentOf_26 : decode cX4_takeContentOf 26 = .ok (.iload_n 3, 1) := by decide +kernel
theorem dX4_takeContentOf_27 : decode cX4_takeContentOf 27 = .ok (.invokevirtual 140, 3) := by decide +kernel
theorem dX4_takeContentOf_30 : decode cX4_takeContentOf 30 = .ok (.invokevirtual 75, 3) := by decide +kernel
theorem dX4_takeContentOf_33 : decode cX4_takeContentOf 33 = .ok (.iinc 3 1, 3) := by decide +kernel
theorem dX4_takeContentOf_36 : decode cX4_takeContentOf 36 = .ok (.goto (-21), 3) := by decide +kernel
theorem dX4_takeContentOf_39 : decode cX4_takeContentOf 39 = .ok (.return_, 1) := by decide +kernel
theorem dX4_executeOrder_0 : decode cX4_executeOrder 0 = .ok (.aload_n 0, 1) := by decide +kernel
theorem dX4_executeOrder_1 : decode cX4_executeOrder 1 = .ok (.getfield 26, 3) := by decide +kernel
theorem dX4_executeOrder_4 : decode cX4_executeOrder 4 = .ok (.iload_n 1, 1) := by decide +kernel
theorem dX4_executeOrder_5 : decode cX4_executeOrder 5 = .ok (.invokevirtual 211, 3) := by decide +kernel
theorem dX4_executeOrder_8 : decode cX4_executeOrder 8 = .ok (.istore_n 3, 1) := by decide +kernel
theorem dX4_executeOrder_9 : decode cX4_executeOrder 9 = .ok (.iload_n 3, 1) := by decide +kernel
theorem dX4_executeOrder_10 : decode cX4_executeOrder 10 = .ok (.bipush 94, 2) := by decide +kernel
theorem dX4_executeOrder_12 : decode cX4_executeOrder 12 = .ok (.if_icmp .ne 10, 3) := by decide +kernel
theorem dX4_executeOrder_15 : decode cX4_executeOrder 15 = .ok (.aload_n 0, 1) := by decide +kernel
theorem dX4_executeOrder_16 : decode cX4_executeOrder 16 = .ok (.invokevirtual 119, 3) := by decide +kernel
theorem dX4_executeOrder_19 : decode cX4_executeOrder 19 = .ok (.pop, 1) := by decide +kernel
theorem dX4_executeOrder_20 : decode cX4_executeOrder 20 = .ok (.iconst 1, 1) := by decide +kernel
theorem dX4_executeOrder_21 : decode cX4_executeOrder 21 = .ok (.ireturn, 1) := by decide +kernel
theorem dX4_executeOrder_22 : decode cX4_executeOrder 22 = .ok (.iload_n 3, 1) := by decide +kernel
theorem dX4_executeOrder_23 : decode cX4_executeOrder 23 = .ok (.bipush 43, 2) := by decide +kernel
theorem dX4_executeOrder_25 : decode cX4_executeOrder 25 = .ok (.if_icmp .ne 64, 3) := by decide +kernel
theorem dX4_executeOrder_28 : decode cX4_executeOrder 28 = .ok (.aload_n 0, 1) := by decide +kernel
theorem dX4_executeOrder_29 : decode cX4_executeOrder 29 = .ok (.getfield 30, 3) := by decide +kernel
theorem dX4_executeOrder_32 : decode cX4_executeOrder 32 = .ok (.aload_n 0, 1) := by decide +kernel
theorem dX4_executeOrder_33 : decode cX4_executeOrder 33 = .ok (.getfield 26, 3) := by decide +kernel
theorem dX4_executeOrder_36 : decode cX4_executeOrder 36 = .ok (.iload_n 1, 1) := by decide +kernel
theorem dX4_executeOrder_37 : decode cX4_executeOrder 37 = .ok (.iconst 1, 1) := by decide +kernel
theorem dX4_executeOrder_38 : decode cX4_executeOrder 38 = .ok (.iadd, 1) := by decide +kernel
theorem dX4_executeOrder_39 : decode cX4_executeOrder 39 = .ok (.iload_n 2, 1) := by decide +kernel
theorem dX4_executeOrder_40 : decode cX4_executeOrder 40 = .ok (.invokevirtual 91, 3) := by decide +kernel
theorem dX4_executeOrder_43 : decode cX4_executeOrder 43 = .ok (.aload_n 0, 1) := by decide +kernel
theorem dX4_executeOrder_44 : decode cX4_executeOrder 44 = .ok (.getfield 12, 3) := by decide +kernel
theorem dX4_executeOrder_47 : decode cX4_executeOrder 47 = .ok (.aload_n 0, 1) := by decide +kernel
theorem dX4_executeOrder_48 : decode cX4_executeOrder 48 = .ok (.getfield 30, 3) := by decide +kernel
theorem dX4_executeOrder_51 : decode cX4_executeOrder 51 = .ok (.getfield 54, 3) := by decide +kernel
theorem dX4_executeOrder_54 : decode cX4_executeOrder 54 = .ok (.invokestatic 78, 3) := by decide +kernel
theorem dX4_executeOrder_57 : decode cX4_executeOrder 57 = .ok (.iconst (-1), 1) := by decide +kernel
theorem dX4_executeOrder_58 : decode cX4_executeOrder 58 = .ok (.iconst (-1), 1) := by decide +kernel
theorem dX4_executeOrder_59 : decode cX4_executeOrder 59 = .ok (.invokevirtual 82, 3) := by decide +kernel
theorem dX4_executeOrder_62 : decode cX4_executeOrder 62 = .ok (.istore 4, 2) := by decide +kernel
theorem dX4_executeOrder_64 : decode cX4_executeOrder 64 = .ok (.iload 4, 2) := by decide +kernel
theorem dX4_executeOrder_66 : decode cX4_executeOrder 66 = .ok (.iconst (-1), 1) := by decide +kernel
theorem dX4_executeOrder_67 : decode cX4_executeOrder 67 = .ok (.if_icmp .eq 10, 3) := by decide +kernel
theorem dX4_executeOrder_70 : decode cX4_executeOrder 70 = .ok (.aload_n 0, 1) := by decide +kernel
theorem dX4_executeOrder_71 : decode cX4_executeOrder 71 = .ok (.iload 4, 2) := by decide +kernel
theorem dX4_executeOrder_73 : decode cX4_executeOrder 73 = .ok (.invokevirtual 95, 3) := by decide +kernel
theorem dX4_executeOrder_76 : decode cX4_executeOrder 76 = .ok (.pop, 1) := by decide +kernel
theorem dX4_executeOrder_77 : decode cX4_executeOrder 77 = .ok (.iload 4, 2) := by decide +kernel
theorem dX4_executeOrder_79 : decode cX4_executeOrder 79 = .ok (.iconst (-1), 1) := by decide +kernel
theorem dX4_executeOrder_80 : decode cX4_executeOrder 80 = .ok (.if_icmp .eq 7, 3) := by decide +kernel
theorem dX4_executeOrder_83 : decode cX4_executeOrder 83 = .ok (.iconst 1, 1) := by decide +kernel
theorem dX4_executeOrder_84 : decode cX4_executeOrder 84 = .ok (.goto 4, 3) := by decide +kernel
theorem dX4_executeOrder_87 : decode cX4_executeOrder 87 = .ok (.iconst 0, 1) := by decide +kernel
theorem dX4_executeOrder_88 : decode cX4_executeOrder 88 = .ok (.ireturn, 1) := by decide +kernel
theorem dX4_executeOrder_89 : decode cX4_executeOrder 89 = .ok (.aload_n 0, 1) := by decide +kernel
theorem dX4_executeOrder_90 : decode cX4_executeOrder 90 = .ok (.iload_n 1, 1) := by decide +kernel
theorem dX4_executeOrder_91 : decode cX4_executeOrder 91 = .ok (.iconst 1, 1) := by decide +kernel
theorem dX4_executeOrder_92 : decode cX4_executeOrder 92 = .ok (.iadd, 1) := by decide +kernel
theorem dX4_executeOrder_93 : decode cX4_executeOrder 93 = .ok (.iload_n 2, 1) := by decide +kernel
theorem dX4_executeOrder_94 : decode cX4_executeOrder 94 = .ok (.invokevirtual 317, 3) := by decide +kernel
theorem dX4_executeOrder_97 : decode cX4_executeOrder 97 = .ok (.istore 4, 2) := by decide +kernel
theorem dX4_executeOrder_99 : decode cX4_executeOrder 99 = .ok (.aload_n 0, 1) := by decide +kernel
theorem dX4_executeOrder_100 : decode cX4_executeOrder 100 = .ok (.iload_n 1, 1) := by decide +kernel
theorem dX4_executeOrder_101 : decode cX4_executeOrder 101 = .ok (.iconst 1, 1) := by decide +kernel
theorem dX4_executeOrder_102 : decode cX4_executeOrder 102 = .ok (.iadd, 1) := by decide +kernel
theorem dX4_executeOrder_103 : decode cX4_executeOrder 103 = .ok (.iload 4, 2) := by decide +kernel
theorem dX4_executeOrder_105 : decode cX4_executeOrder 105 = .ok (.invokevirtual 320, 3) := by decide +kernel
theorem dX4_executeOrder_108 : decode cX4_executeOrder 108 = .ok (.istore 5, 2) := by decide +kernel
theorem dX4_executeOrder_110 : decode cX4_executeOrder 110 = .ok (.aload_n 0, 1) := by decide +kernel
theorem dX4_executeOrder_111 : decode cX4_executeOrder 111 = .ok (.iload 5, 2) := by decide +kernel
theorem dX4_executeOrder_113 : decode cX4_executeOrder 113 = .ok (.invokevirtual 259, 3) := by decide +kernel
theorem dX4_executeOrder_116 : decode cX4_executeOrder 116 = .ok (.ifCond .ne 5, 3) := by decide +kernel
theorem dX4_executeOrder_119 : decode cX4_executeOrder 119 = .ok (.iconst 0, 1) := by decide +kernel
theorem dX4_executeOrder_120 : decode cX4_executeOrder 120 = .ok (.ireturn, 1) := by decide +kernel
theorem dX4_executeOrder_121 : decode cX4_executeOrder 121 = .ok (.iload_n 3, 1) := by decide +kernel
theorem dX4_executeOrder_122 : decode cX4_executeOrder 122 = .ok (.bipush 45, 2) := by decide +kernel
theorem dX4_executeOrder_124 : decode cX4_executeOrder 124 = .ok (.if_icmp .ne 11, 3) := by decide +kernel
theorem dX4_executeOrder_127 : decode cX4_executeOrder 127 = .ok (.aload_n 0, 1) := by decide +kernel
theorem dX4_executeOrder_128 : decode cX4_executeOrder 128 = .ok (.iload 5, 2) := by decide +kernel
theorem dX4_executeOrder_130 : decode cX4_executeOrder 130 = .ok (.invokevirtual 116, 3) := by decide +kernel
theorem dX4_executeOrder_133 : decode cX4_executeOrder 133 = .ok (.iconst 1, 1) := by decide +kernel
theorem dX4_executeOrder_134 : decode cX4_executeOrder 134 = .ok (.ireturn, 1) := by decide +kernel
theorem dX4_executeOrder_135 : decode cX4_executeOrder 135 = .ok (.aload_n 0, 1) := by decide +kernel
theorem dX4_executeOrder_136 : decode cX4_executeOrder 136 = .ok (.getfield 30, 3) := by decide +kernel
theorem dX4_executeOrder_139 : decode cX4_executeOrder 139 = .ok (.aload_n 0, 1) := by decide +kernel
theorem dX4_executeOrder_140 : decode cX4_executeOrder 140 = .ok (.getfield 26, 3) := by decide +kernel
theorem dX4_executeOrder_143 : decode cX4_executeOrder 143 = .ok (.iload 4, 2) := by decide +kernel
theorem dX4_executeOrder_145 : decode cX4_executeOrder 145 = .ok (.iconst 1, 1) := by decide +kernel
theorem dX4_executeOrder_146 : decode cX4_executeOrder 146 = .ok (.iadd, 1) := by decide +kernel
theorem dX4_executeOrder_147 : decode cX4_executeOrder 147 = .ok (.iload_n 2, 1) := by decide +kernel
theorem dX4_executeOrder_148 : decode cX4_executeOrder 148 = .ok (.invokevirtual 91, 3) := by decide +kernel
theorem dX4_executeOrder_151 : decode cX4_executeOrder 151 = .ok (.aload_n 0, 1) := by decide +kernel
theorem dX4_executeOrder_152 : decode cX4_executeOrder 152 = .ok (.iload 5, 2) := by decide +kernel
theorem dX4_executeOrder_154 : decode cX4_executeOrder 154 = .ok (.aload_n 0, 1) := by decide +kernel
theorem dX4_executeOrder_155 : decode cX4_executeOrder 155 = .ok (.getfield 30, 3) := by decide +kernel
theorem dX4_executeOrder_158 : decode cX4_executeOrder 158 = .ok (.getfield 54, 3) := by decide +kernel
theorem dX4_executeOrder_161 : decode cX4_executeOrder 161 = .ok (.invokevirtual 101, 3) := by decide +kernel
theorem dX4_executeOrder_164 : decode cX4_executeOrder 164 = .ok (.istore 6, 2) := by decide +kernel
theorem dX4_executeOrder_166 : decode cX4_executeOrder 166 = .ok (.iload 6, 2) := by decide +kernel
theorem dX4_executeOrder_168 : decode cX4_executeOrder 168 = .ok (.iconst (-1), 1) := by decide +kernel
theorem dX4_executeOrder_169 : decode cX4_executeOrder 169 = .ok (.if_icmp .eq 11, 3) := by decide +kernel
theorem dX4_executeOrder_172 : decode cX4_executeOrder 172 = .ok (.aload_n 0, 1) := by decide +kernel
theorem dX4_executeOrder_173 : decode cX4_executeOrder 173 = .ok (.iload 5, 2) := by decide +kernel
theorem dX4_executeOrder_175 : decode cX4_executeOrder 175 = .ok (.iload 6, 2) := by decide +kernel
theorem dX4_executeOrder_177 : decode cX4_executeOrder 177 = .ok (.invokevirtual 106, 3) := by decide +kernel
theorem dX4_executeOrder_180 : decode cX4_executeOrder 180 = .ok (.iload 6, 2) := by decide +kernel
theorem dX4_executeOrder_182 : decode cX4_executeOrder 182 = .ok (.iconst (-1), 1) := by decide +kernel
theorem dX4_executeOrder_183 : decode cX4_executeOrder 183 = .ok (.if_icmp .eq 7, 3) := by decide +kernel
theorem dX4_executeOrder_186 : decode cX4_executeOrder 186 = .ok (.iconst 1, 1) := by decide +kernel
theorem dX4_executeOrder_187 : decode cX4_executeOrder 187 = .ok (.goto 4, 3) := by decide +kernel
theorem dX4_executeOrder_190 : decode cX4_executeOrder 190 = .ok (.iconst 0, 1) := by decide +kernel
theorem dX4_executeOrder_191 : decode cX4_executeOrder 191 = .ok (.ireturn, 1) := by decide +kernel
theorem dX4_endOfNumber_0 : decode cX4_endOfNumber 0 = .ok (.iload_n 1, 1) := by decide +kernel
theorem dX4_endOfNumber_1 : decode cX4_endOfNumber 1 = .ok (.istore_n 3, 1) := by decide +kernel
theorem dX4_endOfNumber_2 : decode cX4_endOfNumber 2 = .ok (.iload_n 3, 1) := by decide +kernel
theorem dX4_endOfNumber_3 : decode cX4_endOfNumber 3 = .ok (.iload_n 2, 1) := by decide +kernel
theorem dX4_endOfNumber_4 : decode cX4_endOfNumber 4 = .ok (.if_icmp .ge 24, 3) := by decide +kernel
theorem dX4_endOfNumber_7 : decode cX4_endOfNumber 7 = .ok (.aload_n 0, 1) := by decide +kernel
theorem dX4_endOfNumber_8 : decode cX4_endOfNumber 8 = .ok (.getfield 26, 3) := by decide +kernel
theorem dX4_endOfNumber_11 : decode cX4_endOfNumber 11 = .ok (.iload_n 3, 1) := by decide +kernel
theorem dX4_endOfNumber_12 : decode cX4_endOfNumber 12 = .ok (.invokevirtual 211, 3) := by decide +kernel
theorem dX4_endOfNumber_15 : decode cX4_endOfNumber 15 = .ok (.bipush 58, 2) := by decide +kernel
theorem dX4_endOfNumber_17 : decode cX4_endOfNumber 17 = .ok (.if_icmp .ne 5, 3) := by decide +kernel
theorem dX4_endOfNumber_20 : decode cX4_endOfNumber 20 = .ok (.iload_n 3, 1) := by decide +kernel
theorem dX4_endOfNumber_21 : decode cX4_endOfNumber 21 = .ok (.ireturn, 1) := by decide +kernel
theorem dX4_endOfNumber_22 : decode cX4_endOfNumber 22 = .ok (.iinc 3 1, 3) := by decide +kernel
theorem dX4_endOfNumber_25 : decode cX4_endOfNumber 25 = .ok (.goto (-23), 3) := by decide +kernel
theorem dX4_endOfNumber_28 : decode cX4_endOfNumber 28 = .ok (.iload_n 2, 1) := by decide +kernel
theorem dX4_endOfNumber_29 : decode cX4_endOfNumber 29 = .ok (.ireturn, 1) := by decide +kernel
theorem dX4_numberIn_0 : decode cX4_numberIn 0 = .ok (.iconst 0, 1) := by decide +kernel
theorem dX4_numberIn_1 : decode cX4_numberIn 1 = .ok (.istore_n 3, 1) := by decide +kernel
theorem dX4_numberIn_2 : decode cX4_numberIn 2 = .ok (.iload_n 1, 1) := by decide +kernel
theorem dX4_numberIn_3 : decode cX4_numberIn 3 = .ok (.istore 4, 2) := by decide +kernel
theorem dX4_numberIn_5 : decode cX4_numberIn 5 = .ok (.iload 4, 2) := by decide +kernel
theorem dX4_numberIn_7 : decode cX4_numberIn 7 = .ok (.iload_n 2, 1) := by decide +kernel
theorem dX4_numberIn_8 : decode cX4_numberIn 8 = .ok (.if_icmp .ge 27, 3) := by decide +kernel
theorem dX4_numberIn_11 : decode cX4_numberIn 11 = .ok (.bipush 10, 2) := by decide +kernel
theorem dX4_numberIn_13 : decode cX4_numberIn 13 = .ok (.iload_n 3, 1) := by decide +kernel
theorem dX4_numberIn_14 : decode cX4_numberIn 14 = .ok (.imul, 1) := by decide +kernel
theorem dX4_numberIn_15 : decode cX4_numberIn 15 = .ok (.aload_n 0, 1) := by decide +kernel
theorem dX4_numberIn_16 : decode cX4_numberIn 16 = .ok (.getfield 26, 3) := by decide +kernel
theorem dX4_numberIn_19 : decode cX4_numberIn 19 = .ok (.iload 4, 2) := by decide +kernel
theorem dX4_numberIn_21 : decode cX4_numberIn 21 = .ok (.invokevirtual 211, 3) := by decide +kernel
theorem dX4_numberIn_24 : decode cX4_numberIn 24 = .ok (.iadd, 1) := by decide +kernel
theorem dX4_numberIn_25 : decode cX4_numberIn 25 = .ok (.bipush 48, 2) := by decide +kernel
theorem dX4_numberIn_27 : decode cX4_numberIn 27 = .ok (.isub, 1) := by decide +kernel
theorem dX4_numberIn_28 : decode cX4_numberIn 28 = .ok (.istore_n 3, 1) := by decide +kernel
theorem dX4_numberIn_29 : decode cX4_numberIn 29 = .ok (.iinc 4 1, 3) := by decide +kernel
theorem dX4_numberIn_32 : decode cX4_numberIn 32 = .ok (.goto (-27), 3) := by decide +kernel
theorem dX4_numberIn_35 : decode cX4_numberIn 35 = .ok (.iload_n 3, 1) := by decide +kernel
theorem dX4_numberIn_36 : decode cX4_numberIn 36 = .ok (.ireturn, 1) := by decide +kernel
theorem dX4_saveState_0 : decode cX4_saveState 0 = .ok (.aload_n 0, 1) := by decide +kernel
theorem dX4_saveState_1 : decode cX4_saveState 1 = .ok (.getfield 231, 3) := by decide +kernel
theorem dX4_saveState_4 : decode cX4_saveState 4 = .ok (.aload_n 0, 1) := by decide +kernel
theorem dX4_saveState_5 : decode cX4_saveState 5 = .ok (.getfield 45, 3) := by decide +kernel
theorem dX4_saveState_8 : decode cX4_saveState 8 = .ok (.arraylength, 1) := by decide +kernel
theorem dX4_saveState_9 : decode cX4_saveState 9 = .ok (.if_icmp .lt 7, 3) := by decide +kernel
theorem dX4_saveState_12 : decode cX4_saveState 12 = .ok (.aload_n 0, 1) := by decide +kernel
theorem dX4_saveState_13 : decode cX4_saveState 13 = .ok (.invokevirtual 323, 3) := by decide +kernel
theorem dX4_saveState_16 : decode cX4_saveState 16 = .ok (.aload_n 0, 1) := by decide +kernel
theorem dX4_saveState_17 : decode cX4_saveState 17 = .ok (.getfield 231, 3) := by decide +kernel
theorem dX4_saveState_20 : decode cX4_saveState 20 = .ok (.ifCond .lt 53, 3) := by decide +kernel
theorem dX4_saveState_23 : decode cX4_saveState 23 = .ok (.aload_n 0, 1) := by decide +kernel
theorem dX4_saveState_24 : decode cX4_saveState 24 = .ok (.getfield 231, 3) := by decide +kernel
theorem dX4_saveState_27 : decode cX4_saveState 27 = .ok (.aload_n 0, 1) := by decide +kernel
theorem dX4_saveState_28 : decode cX4_saveState 28 = .ok (.getfield 45, 3) := by decide +kernel
theorem dX4_saveState_31 : decode cX4_saveState 31 = .ok (.arraylength, 1) := by decide +kernel
theorem dX4_saveState_32 : decode cX4_saveState 32 = .ok (.if_icmp .ge 41, 3) := by decide +kernel
theorem dX4_saveState_35 : decode cX4_saveState 35 = .ok (.aload_n 0, 1) := by decide +kernel
theorem dX4_saveState_36 : decode cX4_saveState 36 = .ok (.getfield 45, 3) := by decide +kernel
theorem dX4_saveState_39 : decode cX4_saveState 39 = .ok (.aload_n 0, 1) := by decide +kernel
theorem dX4_saveState_40 : decode cX4_saveState 40 = .ok (.getfield 231, 3) := by decide +kernel
theorem dX4_saveState_43 : decode cX4_saveState 43 = .ok (.aaload, 1) := by decide +kernel
theorem dX4_saveState_44 : decode cX4_saveState 44 = .ok (.ifnull 29, 3) := by decide +kernel
theorem dX4_saveState_47 : decode cX4_saveState 47 = .ok (.aload_n 0, 1) := by decide +kernel
theorem dX4_saveState_48 : decode cX4_saveState 48 = .ok (.getfield 45, 3) := by decide +kernel
theorem dX4_saveState_51 : decode cX4_saveState 51 = .ok (.aload_n 0, 1) := by decide +kernel
theorem dX4_saveState_52 : decode cX4_saveState 52 = .ok (.getfield 231, 3) := by decide +kernel
theorem dX4_saveState_55 : decode cX4_saveState 55 = .ok (.aaload, 1) := by decide +kernel
theorem dX4_saveState_56 : decode cX4_saveState 56 = .ok (.aload_n 0, 1) := by decide +kernel
theorem dX4_saveState_57 : decode cX4_saveState 57 = .ok (.getfield 20, 3) := by decide +kernel
theorem dX4_saveState_60 : decode cX4_saveState 60 = .ok (.invokevirtual 236, 3) := by decide +kernel
theorem dX4_saveState_63 : decode cX4_saveState 63 = .ok (.aload_n 0, 1) := by decide +kernel
theorem dX4_saveState_64 : decode cX4_saveState 64 = .ok (.dup, 1) := by decide +kernel
theorem dX4_saveState_65 : decode cX4_saveState 65 = .ok (.getfield 231, 3) := by decide +kernel
theorem dX4_saveState_68 : decode cX4_saveState 68 = .ok (.iconst 1, 1) := by decide +kernel
theorem dX4_saveState_69 : decode cX4_saveState 69 = .ok (.iadd, 1) := by decide +kernel
theorem dX4_saveState_70 : decode cX4_saveState 70 = .ok (.putfield 231, 3) := by decide +kernel
theorem dX4_saveState_73 : decode cX4_saveState 73 = .ok (.return_, 1) := by decide +kernel
theorem dX4_discardOldest_0 : decode cX4_discardOldest 0 = .ok (.iconst 1, 1) := by decide +kernel
theorem dX4_discardOldest_1 : decode cX4_discardOldest 1 = .ok (.istore_n 1, 1) := by decide +kernel
theorem dX4_discardOldest_2 : decode cX4_discardOldest 2 = .ok (.iload_n 1, 1) := by decide +kernel
theorem dX4_discardOldest_3 : decode cX4_discardOldest 3 = .ok (.aload_n 0, 1) := by decide +kernel
theorem dX4_discardOldest_4 : decode cX4_discardOldest 4 = .ok (.getfield 45, 3) := by decide +kernel
theorem dX4_discardOldest_7 : decode cX4_discardOldest 7 = .ok (.arraylength, 1) := by decide +kernel
theorem dX4_discardOldest_8 : decode cX4_discardOldest 8 = .ok (.if_icmp .ge 39, 3) := by decide +kernel
theorem dX4_discardOldest_11 : decode cX4_discardOldest 11 = .ok (.aload_n 0, 1) := by decide +kernel
theorem dX4_discardOldest_12 : decode cX4_discardOldest 12 = .ok (.getfield 45, 3) := by decide +kernel
theorem dX4_discardOldest_15 : decode cX4_discardOldest 15 = .ok (.iload_n 1, 1) := by decide +kernel
theorem dX4_discardOldest_16 : decode cX4_discardOldest 16 = .ok (.iconst 1, 1) := by decide +kernel
theorem dX4_discardOldest_17 : decode cX4_discardOldest 17 = .ok (.isub, 1) := by decide +kernel
theorem dX4_discardOldest_18 : decode cX4_discardOldest 18 = .ok (.aaload, 1) := by decide +kernel
theorem dX4_discardOldest_19 : decode cX4_discardOldest 19 = .ok (.astore_n 2, 1) := by decide +kernel
theorem dX4_discardOldest_20 : decode cX4_discardOldest 20 = .ok (.aload_n 0, 1) := by decide +kernel
theorem dX4_discardOldest_21 : decode cX4_discardOldest 21 = .ok (.getfield 45, 3) := by decide +kernel
theorem dX4_discardOldest_24 : decode cX4_discardOldest 24 = .ok (.iload_n 1, 1) := by decide +kernel
theorem dX4_discardOldest_25 : decode cX4_discardOldest 25 = .ok (.iconst 1, 1) := by decide +kernel
theorem dX4_discardOldest_26 : decode cX4_discardOldest 26 = .ok (.isub, 1) := by decide +kernel
theorem dX4_discardOldest_27 : decode cX4_discardOldest 27 = .ok (.aload_n 0, 1) := by decide +kernel
theorem dX4_discardOldest_28 : decode cX4_discardOldest 28 = .ok (.getfield 45, 3) := by decide +kernel
theorem dX4_discardOldest_31 : decode cX4_discardOldest 31 = .ok (.iload_n 1, 1) := by decide +kernel
theorem dX4_discardOldest_32 : decode cX4_discardOldest 32 = .ok (.aaload, 1) := by decide +kernel
theorem dX4_discardOldest_33 : decode cX4_discardOldest 33 = .ok (.aastore, 1) := by decide +kernel
theorem dX4_discardOldest_34 : decode cX4_discardOldest 34 = .ok (.aload_n 0, 1) := by decide +kernel
theorem dX4_discardOldest_35 : decode cX4_discardOldest 35 = .ok (.getfield 45, 3) := by decide +kernel
theorem dX4_discardOldest_38 : decode cX4_discardOldest 38 = .ok (.iload_n 1, 1) := by decide +kernel
theorem dX4_discardOldest_39 : decode cX4_discardOldest 39 = .ok (.aload_n 2, 1) := by decide +kernel
theorem dX4_discardOldest_40 : decode cX4_discardOldest 40 = .ok (.aastore, 1) := by decide +kernel
theorem dX4_discardOldest_41 : decode cX4_discardOldest 41 = .ok (.iinc 1 1, 3) := by decide +kernel
theorem dX4_discardOldest_44 : decode cX4_discardOldest 44 = .ok (.goto (-42), 3) := by decide +kernel
theorem dX4_discardOldest_47 : decode cX4_discardOldest 47 = .ok (.aload_n 0, 1) := by decide +kernel
theorem dX4_discardOldest_48 : decode cX4_discardOldest 48 = .ok (.dup, 1) := by decide +kernel
theorem dX4_discardOldest_49 : decode cX4_discardOldest 49 = .ok (.getfield 231, 3) := by decide +kernel
theorem dX4_discardOldest_52 : decode cX4_discardOldest 52 = .ok (.iconst 1, 1) := by decide +kernel
theorem dX4_discardOldest_53 : decode cX4_discardOldest 53 = .ok (.isub, 1) := by decide +kernel
theorem dX4_discardOldest_54 : decode cX4_discardOldest 54 = .ok (.putfield 231, 3) := by decide +kernel
theorem dX4_discardOldest_57 : decode cX4_discardOldest 57 = .ok (.return_, 1) := by decide +kernel
theorem dX4_slotOffset_0 : decode cX4_slotOffset 0 = .ok (.iconst 2, 1) := by decide +kernel
theorem dX4_slotOffset_1 : decode cX4_slotOffset 1 = .ok (.iconst 2, 1) := by decide +kernel
theorem dX4_slotOffset_2 : decode cX4_slotOffset 2 = .ok (.iload_n 0, 1) := by decide +kernel
theorem dX4_slotOffset_3 : decode cX4_slotOffset 3 = .ok (.imul, 1) := by decide +kernel
theorem dX4_slotOffset_4 : decode cX4_slotOffset 4 = .ok (.iadd, 1) := by decide +kernel
theorem dX4_slotOffset_5 : decode cX4_slotOffset 5 = .ok (.ireturn, 1) := by decide +kernel
theorem dX5_init_0 : decode cX5_init 0 = .ok (.aload_n 0, 1) := by decide +kernel
theorem dX5_init_1 : decode cX5_init 1 = .ok (.invokespecial 1, 3) := by decide +kernel
theorem dX5_init_4 : decode cX5_init 4 = .ok (.aload_n 0, 1) := by decide +kernel
theorem dX5_init_5 : decode cX5_init 5 = .ok (.sipush 10724, 3) := by decide +kernel
theorem dX5_init_8 : decode cX5_init 8 = .ok (.newarray .int, 2) := by decide +kernel
theorem dX5_init_10 : decode cX5_init 10 = .ok (.putfield 7, 3) := by decide +kernel
theorem dX5_init_13 : decode cX5_init 13 = .ok (.aload_n 0, 1) := by decide +kernel
theorem dX5_init_14 : decode cX5_init 14 = .ok (.bipush 60, 2) := by decide +kernel
theorem dX5_init_16 : decode cX5_init 16 = .ok (.newarray .int, 2) := by decide +kernel
theorem dX5_init_18 : decode cX5_init 18 = .ok (.putfield 13, 3) := by decide +kernel
theorem dX5_init_21 : decode cX5_init 21 = .ok (.aload_n 0, 1) := by decide +kernel
theorem dX5_init_22 : decode cX5_init 22 = .ok (.bipush 60, 2) := by decide +kernel
theorem dX5_init_24 : decode cX5_init 24 = .ok (.newarray .int, 2) := by decide +kernel
theorem dX5_init_26 : decode cX5_init 26 = .ok (.putfield 16, 3) := by decide +kernel
theorem dX5_init_29 : decode cX5_init 29 = .ok (.aload_n 0, 1) := by decide +kernel
theorem dX5_init_30 : decode cX5_init 30 = .ok (.sipush 128, 3) := by decide +kernel
theorem dX5_init_33 : decode cX5_init 33 = .ok (.newarray .int, 2) := by decide +kernel
theorem dX5_init_35 : decode cX5_init 35 = .ok (.putfield 19, 3) := by decide +kernel
theorem dX5_init_38 : decode cX5_init 38 = .ok (.return_, 1) := by decide +kernel
theorem dX5_thrown_0 : decode cX5_thrown 0 = .ok (.aload_n 0, 1) := by decide +kernel
theorem dX5_thrown_1 : decode cX5_thrown 1 = .ok (.getfield 22, 3) := by decide +kernel
theorem dX5_thrown_4 : decode cX5_thrown 4 = .ok (.ireturn, 1) := by decide +kernel
theorem dX5_in_0 : decode cX5_in 0 = .ok (.iload_n 0, 1) := by decide +kernel
theorem dX5_in_1 : decode cX5_in 1 = .ok (.iload_n 1, 1) := by decide +kernel
theorem dX5_in_2 : decode cX5_in 2 = .ok (.if_icmp .lt 12, 3) := by decide +kernel
theorem dX5_in_5 : decode cX5_in 5 = .ok (.iload_n 0, 1) := by decide +kernel
theorem dX5_in_6 : decode cX5_in 6 = .ok (.iload_n 2, 1) := by decide +kernel
theorem dX5_in_7 : decode cX5_in 7 = .ok (.if_icmp .gt 7, 3) := by decide +kernel
theorem dX5_in_10 : decode cX5_in 10 = .ok (.iconst 1, 1) := by decide +kernel
theorem dX5_in_11 : decode cX5_in 11 = .ok (.goto 4, 3) := by decide +kernel
theorem dX5_in_14 : decode cX5_in 14 = .ok (.iconst 0, 1) := by decide +kernel
theorem dX5_in_15 : decode cX5_in 15 = .ok (.ireturn, 1) := by decide +kernel
theorem dX5_holds_0 : decode cX5_holds 0 = .ok (.aload_n 0, 1) := by decide +kernel
theorem dX5_holds_1 : decode cX5_holds 1 = .ok (.iload_n 1, 1) := by decide +kernel
theorem dX5_holds_2 : decode cX5_holds 2 = .ok (.putfield 22, 3) := by decide +kernel
theorem dX5_holds_5 : decode cX5_holds 5 = .ok (.iload_n 1, 1) := by decide +kernel
theorem dX5_holds_6 : decode cX5_holds 6 = .ok (.ifCond .ne 7, 3) := by decide +kernel
theorem dX5_holds_9 : decode cX5_holds 9 = .ok (.iconst 1, 1) := by decide +kernel
theorem dX5_holds_10 : decode cX5_holds 10 = .ok (.goto 4, 3) := by decide +kernel
theorem dX5_holds_13 : decode cX5_holds 13 = .ok (.iconst 0, 1) := by decide +kernel
theorem dX5_holds_14 : decode cX5_holds 14 = .ok (.ireturn, 1) := by decide +kernel
theorem dX5_of_0 : decode cX5_of 0 = .ok (.aload_n 0, 1) := by decide +kernel
theorem dX5_of_1 : decode cX5_of 1 = .ok (.getfield 7, 3) := by decide +kernel
theorem dX5_of_4 : decode cX5_of 4 = .ok (.iconst 4, 1) := by decide +kernel
theorem dX5_of_5 : decode cX5_of 5 = .ok (.sipush 191, 3) := by decide +kernel
theorem dX5_of_8 : decode cX5_of 8 = .ok (.iload_n 1, 1) := by decide +kernel
theorem dX5_of_9 : decode cX5_of 9 = .ok (.imul, 1) := by decide +kernel
theorem dX5_of_10 : decode cX5_of 10 = .ok (.iadd, 1) := by decide +kernel
theorem dX5_of_11 : decode cX5_of 11 = .ok (.iload_n 2, 1) := by decide +kernel
theorem dX5_of_12 : decode cX5_of 12 = .ok (.iadd, 1) := by decide +kernel
theorem dX5_of_13 : decode cX5_of 13 = .ok (.iaload, 1) := by decide +kernel
theorem dX5_of_14 : decode cX5_of 14 = .ok (.ireturn, 1) := by decide +kernel
theorem dX5_lay_0 : decode cX5_lay 0 = .ok (.aload_n 0, 1) := by decide +kernel
theorem dX5_lay_1 : decode cX5_lay 1 = .ok (.getfield 7, 3) := by decide +kernel
theorem dX5_lay_4 : decode cX5_lay 4 = .ok (.iconst 4, 1) := by decide +kernel
theorem dX5_lay_5 : decode cX5_lay 5 = .ok (.sipush 191, 3) := by decide +kernel
theorem dX5_lay_8 : decode cX5_lay 8 = .ok (.iload_n 1, 1) := by decide +kernel
theorem dX5_lay_9 : decode cX5_lay 9 = .ok (.imul, 1) := by decide +kernel
theorem dX5_lay_10 : decode cX5_lay 10 = .ok (.iadd, 1) := by decide +kernel
theorem dX5_lay_11 : decode cX5_lay 11 = .ok (.iload_n 2, 1) := by decide +kernel
theorem dX5_lay_12 : decode cX5_lay 12 = .ok (.iadd, 1) := by decide +kernel
theorem dX5_lay_13 : decode cX5_lay 13 = .ok (.iload_n 3, 1) := by decide +kernel
theorem dX5_lay_14 : decode cX5_lay 14 = .ok (.iastore, 1) := by decide +kernel
theorem dX5_lay_15 : decode cX5_lay 15 = .ok (.return_, 1) := by decide +kernel
theorem dX5_sizeOf_0 : decode cX5_sizeOf 0 = .ok (.aload_n 0, 1) := by decide +kernel
theorem dX5_sizeOf_1 : decode cX5_sizeOf 1 = .ok (.iload_n 1, 1) := by decide +kernel
theorem dX5_sizeOf_2 : decode cX5_sizeOf 2 = .ok (.bipush 32, 2) := by decide +kernel
theorem dX5_sizeOf_4 : decode cX5_sizeOf 4 = .ok (.iload_n 2, 1) := by decide +kernel
theorem dX5_sizeOf_5 : decode cX5_sizeOf 5 = .ok (.iadd, 1) := by decide +kernel
theorem dX5_sizeOf_6 : decode cX5_sizeOf 6 = .ok (.invokevirtual 26, 3) := by decide +kernel
theorem dX5_sizeOf_9 : decode cX5_sizeOf 9 = .ok (.ireturn, 1) := by decide +kernel
theorem dX5_byteAt_0 : decode cX5_byteAt 0 = .ok (.aload_n 0, 1) := by decide +kernel
theorem dX5_byteAt_1 : decode cX5_byteAt 1 = .ok (.iload_n 1, 1) := by decide +kernel
theorem dX5_byteAt_2 : decode cX5_byteAt 2 = .ok (.bipush 63, 2) := by decide +kernel
theorem dX5_byteAt_4 : decode cX5_byteAt 4 = .ok (.aload_n 0, 1) := by decide +kernel
theorem dX5_byteAt_5 : decode cX5_byteAt 5 = .ok (.iload_n 1, 1) := by decide +kernel
theorem dX5_byteAt_6 : decode cX5_byteAt 6 = .ok (.iconst 1, 1) := by decide +kernel
theorem dX5_byteAt_7 : decode cX5_byteAt 7 = .ok (.iload_n 2, 1) := by decide +kernel
theorem dX5_byteAt_8 : decode cX5_byteAt 8 = .ok (.iadd, 1) := by decide +kernel
theorem dX5_byteAt_9 : decode cX5_byteAt 9 = .ok (.invokevirtual 26, 3) := by decide +kernel
theorem dX5_byteAt_12 : decode cX5_byteAt 12 = .ok (.iadd, 1) := by decide +kernel
theorem dX5_byteAt_13 : decode cX5_byteAt 13 = .ok (.iload_n 3, 1) := by decide +kernel
theorem dX5_byteAt_14 : decode cX5_byteAt 14 = .ok (.iadd, 1) := by decide +kernel
theorem dX5_byteAt_15 : decode cX5_byteAt 15 = .ok (.invokevirtual 26, 3) := by decide +kernel
theorem dX5_byteAt_18 : decode cX5_byteAt 18 = .ok (.ireturn, 1) := by decide +kernel
theorem dX5_layByte_0 : decode cX5_layByte 0 = .ok (.aload_n 0, 1) := by decide +kernel
theorem dX5_layByte_1 : decode cX5_layByte 1 = .ok (.iload_n 1, 1) := by decide +kernel
theorem dX5_layByte_2 : decode cX5_layByte 2 = .ok (.bipush 63, 2) := by decide +kernel
theorem dX5_layByte_4 : decode cX5_layByte 4 = .ok (.aload_n 0, 1) := by decide +kernel
theorem dX5_layByte_5 : decode cX5_layByte 5 = .ok (.iload_n 1, 1) := by decide +kernel
theorem dX5_layByte_6 : decode cX5_layByte 6 = .ok (.iconst 1, 1) := by decide +kernel
theorem dX5_layByte_7 : decode cX5_layByte 7 = .ok (.iload_n 2, 1) := by decide +kernel
theorem dX5_layByte_8 : decode cX5_layByte 8 = .ok (.iadd, 1) := by decide +kernel
theorem dX5_layByte_9 : decode cX5_layByte 9 = .ok (.invokevirtual 26, 3) := by decide +kernel
theorem dX5_layByte_12 : decode cX5_layByte 12 = .ok (.iadd, 1) := by decide +kernel
theorem dX5_layByte_13 : decode cX5_layByte 13 = .ok (.iload_n 3, 1) := by decide +kernel
theorem dX5_layByte_14 : decode cX5_layByte 14 = .ok (.iadd, 1) := by decide +kernel
theorem dX5_layByte_15 : decode cX5_layByte 15 = .ok (.iload 4, 2) := by decide +kernel
theorem dX5_layByte_17 : decode cX5_layByte 17 = .ok (.invokevirtual 30, 3) := by decide +kernel
theorem dX5_layByte_20 : decode cX5_layByte 20 = .ok (.return_, 1) := by decide +kernel
theorem dX5_lowest_0 : decode cX5_lowest 0 = .ok (.sipush 128, 3) := by decide +kernel
theorem dX5_lowest_3 : decode cX5_lowest 3 = .ok (.istore_n 2, 1) := by decide +kernel
theorem dX5_lowest_4 : decode cX5_lowest 4 = .ok (.iconst 0, 1) := by decide +kernel
theorem dX5_lowest_5 : decode cX5_lowest 5 = .ok (.istore_n 3, 1) := by decide +kernel
theorem dX5_lowest_6 : decode cX5_lowest 6 = .ok (.iload_n 3, 1) := by decide +kernel
theorem dX5_lowest_7 : decode cX5_lowest 7 = .ok (.aload_n 0, 1) := by decide +kernel
theorem dX5_lowest_8 : decode cX5_lowest 8 = .ok (.iload_n 1, 1) := by decide +kernel
theorem dX5_lowest_9 : decode cX5_lowest 9 = .ok (.iconst 0, 1) := by decide +kernel
theorem dX5_lowest_10 : decode cX5_lowest 10 = .ok (.invokevirtual 26, 3) := by decide +kernel
theorem dX5_lowest_13 : decode cX5_lowest 13 = .ok (.if_icmp .ge 55, 3) := by decide +kernel
theorem dX5_lowest_16 : decode cX5_lowest 16 = .ok (.aload_n 0, 1) := by decide +kernel
theorem dX5_lowest_17 : decode cX5_lowest 17 = .ok (.iload_n 1, 1) := by decide +kernel
theorem dX5_lowest_18 : decode cX5_lowest 18 = .ok (.iload_n 3, 1) := by decide +kernel
theorem dX5_lowest_19 : decode cX5_lowest 19 = .ok (.invokevirtual 34, 3) := by decide +kernel
theorem dX5_lowest_22 : decode cX5_lowest 22 = .ok (.ifCond .le 19, 3) := by decide +kernel
theorem dX5_lowest_25 : decode cX5_lowest 25 = .ok (.aload_n 0, 1) := by decide +kernel
theorem dX5_lowest_26 : decode cX5_lowest 26 = .ok (.iload_n 1, 1) := by decide +kernel
theorem dX5_lowest_27 : decode cX5_lowest 27 = .ok (.iconst 1, 1) := by decide +kernel
theorem dX5_lowest_28 : decode cX5_lowest 28 = .ok (.iload_n 3, 1) := by decide +kernel
theorem dX5_lowest_29 : decode cX5_lowest 29 = .ok (.iadd, 1) := by decide +kernel
theorem dX5_lowest_30 : decode cX5_lowest 30 = .ok (.invokevirtual 26, 3) := by decide +kernel
theorem dX5_lowest_33 : decode cX5_lowest 33 = .ok (.iload_n 2, 1) := by decide +kernel
theorem dX5_lowest_34 : decode cX5_lowest 34 = .ok (.if_icmp .ge 7, 3) := by decide +kernel
theorem dX5_lowest_37 : decode cX5_lowest 37 = .ok (.iconst 1, 1) := by decide +kernel
theorem dX5_lowest_38 : decode cX5_lowest 38 = .ok (.goto 4, 3) := by decide +kernel
theorem dX5_lowest_41 : decode cX5_lowest 41 = .ok (.iconst 0, 1) := by decide +kernel
theorem dX5_lowest_42 : decode cX5_lowest 42 = .ok (.istore 4, 2) := by decide +kernel
theorem dX5_lowest_44 : decode cX5_lowest 44 = .ok (.iload 4, 2) := by decide +kernel
theorem dX5_lowest_46 : decode cX5_lowest 46 = .ok (.ifCond .eq 14, 3) := by decide +kernel
theorem dX5_lowest_49 : decode cX5_lowest 49 = .ok (.aload_n 0, 1) := by decide +kernel
theorem dX5_lowest_50 : decode cX5_lowest 50 = .ok (.iload_n 1, 1) := by decide +kernel
theorem dX5_lowest_51 : decode cX5_lowest 51 = .ok (.iconst 1, 1) := by decide +kernel
theorem dX5_lowest_52 : decode cX5_lowest 52 = .ok (.iload_n 3, 1) := by decide +kernel
theorem dX5_lowest_53 : decode cX5_lowest 53 = .ok (.iadd, 1) := by decide +kernel
theorem dX5_lowest_54 : decode cX5_lowest 54 = .ok (.invokevirtual 26, 3) := by decide +kernel
theorem dX5_lowest_57 : decode cX5_lowest 57 = .ok (.goto 4, 3) := by decide +kernel
theorem dX5_lowest_60 : decode cX5_lowest 60 = .ok (.iload_n 2, 1) := by decide +kernel
theorem dX5_lowest_61 : decode cX5_lowest 61 = .ok (.istore_n 2, 1) := by decide +kernel
theorem dX5_lowest_62 : decode cX5_lowest 62 = .ok (.iinc 3 1, 3) := by decide +kernel
theorem dX5_lowest_65 : decode cX5_lowest 65 = .ok (.goto (-59), 3) := by decide +kernel
theorem dX5_lowest_68 : decode cX5_lowest 68 = .ok (.iload_n 2, 1) := by decide +kernel
theorem dX5_lowest_69 : decode cX5_lowest 69 = .ok (.ireturn, 1) := by decide +kernel
theorem dX5_gapOf_0 : decode cX5_gapOf 0 = .ok (.aload_n 0, 1) := by decide +kernel
theorem dX5_gapOf_1 : decode cX5_gapOf 1 = .ok (.iload_n 1, 1) := by decide +kernel
theorem dX5_gapOf_2 : decode cX5_gapOf 2 = .ok (.invokevirtual 37, 3) := by decide +kernel
theorem dX5_gapOf_5 : decode cX5_gapOf 5 = .ok (.iconst 2, 1) := by decide +kernel
theorem dX5_gapOf_6 : decode cX5_gapOf 6 = .ok (.isub, 1) := by decide +kernel
theorem dX5_gapOf_7 : decode cX5_gapOf 7 = .ok (.iconst 2, 1) := by decide +kernel
theorem dX5_gapOf_8 : decode cX5_gapOf 8 = .ok (.aload_n 0, 1) := by decide +kernel
theorem dX5_gapOf_9 : decode cX5_gapOf 9 = .ok (.iload_n 1, 1) := by decide +kernel
theorem dX5_gapOf_10 : decode cX5_gapOf 10 = .ok (.iconst 0, 1) := by decide +kernel
theorem dX5_gapOf_11 : decode cX5_gapOf 11 = .ok (.invokevirtual 26, 3) := by decide +kernel
theorem dX5_gapOf_14 : decode cX5_gapOf 14 = .ok (.imul, 1) := by decide +kernel
theorem dX5_gapOf_15 : decode cX5_gapOf 15 = .ok (.isub, 1) := by decide +kernel
theorem dX5_gapOf_16 : decode cX5_gapOf 16 = .ok (.ireturn, 1) := by decide +kernel
theorem dX5_sizes_0 : decode cX5_sizes 0 = .ok (.iconst 0, 1) := by decide +kernel
theorem dX5_sizes_1 : decode cX5_sizes 1 = .ok (.istore_n 2, 1) := by decide +kernel
theorem dX5_sizes_2 : decode cX5_sizes 2 = .ok (.iconst 0, 1) := by decide +kernel
theorem dX5_sizes_3 : decode cX5_sizes 3 = .ok (.istore_n 3, 1) := by decide +kernel
theorem dX5_sizes_4 : decode cX5_sizes 4 = .ok (.iload_n 3, 1) := by decide +kernel
theorem dX5_sizes_5 : decode cX5_sizes 5 = .ok (.aload_n 0, 1) := by decide +kernel
theorem dX5_sizes_6 : decode cX5_sizes 6 = .ok (.iload_n 1, 1) := by decide +kernel
theorem dX5_sizes_7 : decode cX5_sizes 7 = .ok (.iconst 0, 1) := by decide +kernel
theorem dX5_sizes_8 : decode cX5_sizes 8 = .ok (.invokevirtual 26, 3) := by decide +kernel
theorem dX5_sizes_11 : decode cX5_sizes 11 = .ok (.if_icmp .ge 18, 3) := by decide +kernel
theorem dX5_sizes_14 : decode cX5_sizes 14 = .ok (.iload_n 2, 1) := by decide +kernel
theorem dX5_sizes_15 : decode cX5_sizes 15 = .ok (.aload_n 0, 1) := by decide +kernel
theorem dX5_sizes_16 : decode cX5_sizes 16 = .ok (.iload_n 1, 1) := by decide +kernel
theorem dX5_sizes_17 : decode cX5_sizes 17 = .ok (.iload_n 3, 1) := by decide +kernel
theorem dX5_sizes_18 : decode cX5_sizes 18 = .ok (.invokevirtual 34, 3) := by decide +kernel
theorem dX5_sizes_21 : decode cX5_sizes 21 = .ok (.iadd, 1) := by decide +kernel
theorem dX5_sizes_22 : decode cX5_sizes 22 = .ok (.istore_n 2, 1) := by decide +kernel
theorem dX5_sizes_23 : decode cX5_sizes 23 = .ok (.iinc 3 1, 3) := by decide +kernel
theorem dX5_sizes_26 : decode cX5_sizes 26 = .ok (.goto (-22), 3) := by decide +kernel
theorem dX5_sizes_29 : decode cX5_sizes 29 = .ok (.iload_n 2, 1) := by decide +kernel
theorem dX5_sizes_30 : decode cX5_sizes 30 = .ok (.ireturn, 1) := by decide +kernel
theorem dX5_freeOf_0 : decode cX5_freeOf 0 = .ok (.bipush 126, 2) := by decide +kernel
theorem dX5_freeOf_2 : decode cX5_freeOf 2 = .ok (.iconst 2, 1) := by decide +kernel
theorem dX5_freeOf_3 : decode cX5_freeOf 3 = .ok (.aload_n 0, 1) := by decide +kernel
theorem dX5_freeOf_4 : decode cX5_freeOf 4 = .ok (.iload_n 1, 1) := by decide +kernel
theorem dX5_freeOf_5 : decode cX5_freeOf 5 = .ok (.iconst 0, 1) := by decide +kernel
theorem dX5_freeOf_6 : decode cX5_freeOf 6 = .ok (.invokevirtual 26, 3) := by decide +kernel
theorem dX5_freeOf_9 : decode cX5_freeOf 9 = .ok (.imul, 1) := by decide +kernel
theorem dX5_freeOf_10 : decode cX5_freeOf 10 = .ok (.isub, 1) := by decide +kernel
theorem dX5_freeOf_11 : decode cX5_freeOf 11 = .ok (.aload_n 0, 1) := by decide +kernel
theorem dX5_freeOf_12 : decode cX5_freeOf 12 = .ok (.iload_n 1, 1) := by decide +kernel
theorem dX5_freeOf_13 : decode cX5_freeOf 13 = .ok (.invokevirtual 41, 3) := by decide +kernel
theorem dX5_freeOf_16 : decode cX5_freeOf 16 = .ok (.isub, 1) := by decide +kernel
theorem dX5_freeOf_17 : decode cX5_freeOf 17 = .ok (.ireturn, 1) := by decide +kernel
theorem dX5_byteOfPage_0 : decode cX5_byteOfPage 0 = .ok (.iload_n 2, 1) := by decide +kernel
theorem dX5_byteOfPage_1 : decode cX5_byteOfPage 1 = .ok (.iconst 2, 1) := by decide +kernel
theorem dX5_byteOfPage_2 : decode cX5_byteOfPage 2 = .ok (.isub, 1) := by decide +kernel
theorem dX5_byteOfPage_3 : decode cX5_byteOfPage 3 = .ok (.iconst 2, 1) := by decide +kernel
theorem dX5_byteOfPage_4 : decode cX5_byteOfPage 4 = .ok (.idiv, 1) := by decide +kernel
theorem dX5_byteOfPage_5 : decode cX5_byteOfPage 5 = .ok (.istore_n 3, 1) := by decide +kernel
theorem dX5_byteOfPage_6 : decode cX5_byteOfPage 6 = .ok (.iload_n 2, 1) := by decide +kernel
theorem dX5_byteOfPage_7 : decode cX5_byteOfPage 7 = .ok (.iconst 2, 1) := by decide +kernel
theorem dX5_byteOfPage_8 : decode cX5_byteOfPage 8 = .ok (.if_icmp .ge 22, 3) := by decide +kernel
theorem dX5_byteOfPage_11 : decode cX5_byteOfPage 11 = .ok (.iload_n 2, 1) := by decide +kernel
theorem dX5_byteOfPage_12 : decode cX5_byteOfPage 12 = .ok (.ifCond .ne 12, 3) := by decide +kernel
theorem dX5_byteOfPage_15 : decode cX5_byteOfPage 15 = .ok (.aload_n 0, 1) := by decide +kernel
theorem dX5_byteOfPage_16 : decode cX5_byteOfPage 16 = .ok (.iload_n 1, 1) := by decide +kernel
theorem dX5_byteOfPage_17 : decode cX5_byteOfPage 17 = .ok (.iconst 0, 1) := by decide +kernel
theorem dX5_byteOfPage_18 : decode cX5_byteOfPage 18 = .ok (.invokevirtual 26, 3) := by decide +kernel
theorem dX5_byteOfPage_21 : decode cX5_byteOfPage 21 = .ok (.goto 8, 3) := by decide +kernel
theorem dX5_byteOfPage_24 : decode cX5_byteOfPage 24 = .ok (.aload_n 0, 1) := by decide +kernel
theorem dX5_byteOfPage_25 : decode cX5_byteOfPage 25 = .ok (.iload_n 1, 1) := by decide +kernel
theorem dX5_byteOfPage_26 : decode cX5_byteOfPage 26 = .ok (.invokevirtual 37, 3) := by decide +kernel
theorem dX5_byteOfPage_29 : decode cX5_byteOfPage 29 = .ok (.ireturn, 1) := by decide +kernel
theorem dX5_byteOfPage_30 : decode cX5_byteOfPage 30 = .ok (.iload_n 3, 1) := by decide +kernel
theorem dX5_byteOfPage_31 : decode cX5_byteOfPage 31 = .ok (.aload_n 0, 1) := by decide +kernel
theorem dX5_byteOfPage_32 : decode cX5_byteOfPage 32 = .ok (.iload_n 1, 1) := by decide +kernel
theorem dX5_byteOfPage_33 : decode cX5_byteOfPage 33 = .ok (.iconst 0, 1) := by decide +kernel
theorem dX5_byteOfPage_34 : decode cX5_byteOfPage 34 = .ok (.invokevirtual 26, 3) := by decide +kernel
theorem dX5_byteOfPage_37 : decode cX5_byteOfPage 37 = .ok (.if_icmp .ge 27, 3) := by decide +kernel
theorem dX5_byteOfPage_40 : decode cX5_byteOfPage 40 = .ok (.iload_n 2, 1) := by decide +kernel
theorem dX5_byteOfPage_41 : decode cX5_byteOfPage 41 = .ok (.iconst 2, 1) := by decide +kernel
theorem dX5_byteOfPage_42 : decode cX5_byteOfPage 42 = .ok (.irem, 1) := by decide +kernel
theorem dX5_byteOfPage_43 : decode cX5_byteOfPage 43 = .ok (.ifCond .ne 14, 3) := by decide +kernel
theorem dX5_byteOfPage_46 : decode cX5_byteOfPage 46 = .ok (.aload_n 0, 1) := by decide +kernel
theorem dX5_byteOfPage_47 : decode cX5_byteOfPage 47 = .ok (.iload_n 1, 1) := by decide +kernel
theorem dX5_byteOfPage_48 : decode cX5_byteOfPage 48 = .ok (.iconst 1, 1) := by decide +kernel
theorem dX5_byteOfPage_49 : decode cX5_byteOfPage 49 = .ok (.iload_n 3, 1) := by decide +kernel
theorem dX5_byteOfPage_50 : decode cX5_byteOfPage 50 = .ok (.iadd, 1) := by decide +kernel
theorem dX5_byteOfPage_51 : decode cX5_byteOfPage 51 = .ok (.invokevirtual 26, 3) := by decide +kernel
theorem dX5_byteOfPage_54 : decode cX5_byteOfPage 54 = .ok (.goto 9, 3) := by decide +kernel
theorem dX5_byteOfPage_57 : decode cX5_byteOfPage 57 = .ok (.aload_n 0, 1) := by decide +kernel
theorem dX5_byteOfPage_58 : decode cX5_byteOfPage 58 = .ok (.iload_n 1, 1) := by decide +kernel
theorem dX5_byteOfPage_59 : decode cX5_byteOfPage 59 = .ok (.iload_n 3, 1) := by decide +kernel
theorem dX5_byteOfPage_60 : decode cX5_byteOfPage 60 = .ok (.invokevirtual 34, 3) := by decide +kernel
theorem dX5_byteOfPage_63 : decode cX5_byteOfPage 63 = .ok (.ireturn, 1) := by decide +kernel
theorem dX5_byteOfPage_64 : decode cX5_byteOfPage 64 = .ok (.aload_n 0, 1) := by decide +kernel
theorem dX5_byteOfPage_65 : decode cX5_byteOfPage 65 = .ok (.iload_n 1, 1) := by decide +kernel
theorem dX5_byteOfPage_66 : decode cX5_byteOfPage 66 = .ok (.bipush 63, 2) := by decide +kernel
theorem dX5_byteOfPage_68 : decode cX5_byteOfPage 68 = .ok (.iload_n 2, 1) := by decide +kernel
theorem dX5_byteOfPage_69 : decode cX5_byteOfPage 69 = .ok (.iadd, 1) := by decide +kernel
theorem dX5_byteOfPage_70 : decode cX5_byteOfPage 70 = .ok (.invokevirtual 26, 3) := by decide +kernel
theorem dX5_byteOfPage_73 : decode cX5_byteOfPage 73 = .ok (.ireturn, 1) := by decide +kernel
theorem dX5_emptySlot_0 : decode cX5_emptySlot 0 = .ok (.iconst 0, 1) := by decide +kernel
theorem dX5_emptySlot_1 : decode cX5_emptySlot 1 = .ok (.istore_n 2, 1) := by decide +kernel
theorem dX5_emptySlot_2 : decode cX5_emptySlot 2 = .ok (.iload_n 2, 1) := by decide +kernel
theorem dX5_emptySlot_3 : decode cX5_emptySlot 3 = .ok (.aload_n 0, 1) := by decide +kernel
theorem dX5_emptySlot_4 : decode cX5_emptySlot 4 = .ok (.iload_n 1, 1) := by decide +kernel
theorem dX5_emptySlot_5 : decode cX5_emptySlot 5 = .ok (.iconst 0, 1) := by decide +kernel
theorem dX5_emptySlot_6 : decode cX5_emptySlot 6 = .ok (.invokevirtual 26, 3) := by decide +kernel
theorem dX5_emptySlot_9 : decode cX5_emptySlot 9 = .ok (.if_icmp .ge 20, 3) := by decide +kernel
theorem dX5_emptySlot_12 : decode cX5_emptySlot 12 = .ok (.aload_n 0, 1) := by decide +kernel
theorem dX5_emptySlot_13 : decode cX5_emptySlot 13 = .ok (.iload_n 1, 1) := by decide +kernel
theorem dX5_emptySlot_14 : decode cX5_emptySlot 14 = .ok (.iload_n 2, 1) := by decide +kernel
theorem dX5_emptySlot_15 : decode cX5_emptySlot 15 = .ok (.invokevirtual 34, 3) := by decide +kernel
theorem dX5_emptySlot_18 : decode cX5_emptySlot 18 = .ok (.ifCond .ne 5, 3) := by decide +kernel
theorem dX5_emptySlot_21 : decode cX5_emptySlot 21 = .ok (.iload_n 2, 1) := by decide +kernel
theorem dX5_emptySlot_22 : decode cX5_emptySlot 22 = .ok (.ireturn, 1) := by decide +kernel
theorem dX5_emptySlot_23 : decode cX5_emptySlot 23 = .ok (.iinc 2 1, 3) := by decide +kernel
theorem dX5_emptySlot_26 : decode cX5_emptySlot 26 = .ok (.goto (-24), 3) := by decide +kernel
theorem dX5_emptySlot_29 : decode cX5_emptySlot 29 = .ok (.iconst (-1), 1) := by decide +kernel
theorem dX5_emptySlot_30 : decode cX5_emptySlot 30 = .ok (.ireturn, 1) := by decide +kernel
theorem dX5_hasRoom_0 : decode cX5_hasRoom 0 = .ok (.aload_n 0, 1) := by decide +kernel
theorem dX5_hasRoom_1 : decode cX5_hasRoom 1 = .ok (.iload_n 1, 1) := by decide +kernel
theorem dX5_hasRoom_2 : decode cX5_hasRoom 2 = .ok (.invokevirtual 44, 3) := by decide +kernel
theorem dX5_hasRoom_5 : decode cX5_hasRoom 5 = .ok (.iconst (-1), 1) := by decide +kernel
theorem dX5_hasRoom_6 : decode cX5_hasRoom 6 = .ok (.if_icmp .ne 7, 3) := by decide +kernel
theorem dX5_hasRoom_9 : decode cX5_hasRoom 9 = .ok (.iconst 1, 1) := by decide +kernel
theorem dX5_hasRoom_10 : decode cX5_hasRoom 10 = .ok (.goto 4, 3) := by decide +kernel
theorem dX5_hasRoom_13 : decode cX5_hasRoom 13 = .ok (.iconst 0, 1) := by decide +kernel
theorem dX5_hasRoom_14 : decode cX5_hasRoom 14 = .ok (.istore_n 3, 1) := by decide +kernel
theorem dX5_hasRoom_15 : decode cX5_hasRoom 15 = .ok (.iload_n 3, 1) := by decide +kernel
theorem dX5_hasRoom_16 : decode cX5_hasRoom 16 = .ok (.ifCond .eq 33, 3) := by decide +kernel
theorem dX5_hasRoom_19 : decode cX5_hasRoom 19 = .ok (.aload_n 0, 1) := by decide +kernel
theorem dX5_hasRoom_20 : decode cX5_hasRoom 20 = .ok (.iload_n 1, 1) := by decide +kernel
theorem dX5_hasRoom_21 : decode cX5_hasRoom 21 = .ok (.iconst 0, 1) := by decide +kernel
theorem dX5_hasRoom_22 : decode cX5_hasRoom 22 = .ok (.invokevirtual 26, 3) := by decide +kernel
theorem dX5_hasRoom_25 : decode cX5_hasRoom 25 = .ok (.bipush 31, 2) := by decide +kernel
theorem dX5_hasRoom_27 : decode cX5_hasRoom 27 = .ok (.if_icmp .ge 18, 3) := by decide +kernel
theorem dX5_hasRoom_30 : decode cX5_hasRoom 30 = .ok (.iload_n 2, 1) := by decide +kernel
theorem dX5_hasRoom_31 : decode cX5_hasRoom 31 = .ok (.iconst 2, 1) := by decide +kernel
theorem dX5_hasRoom_32 : decode cX5_hasRoom 32 = .ok (.iadd, 1) := by decide +kernel
theorem dX5_hasRoom_33 : decode cX5_hasRoom 33 = .ok (.aload_n 0, 1) := by decide +kernel
theorem dX5_hasRoom_34 : decode cX5_hasRoom 34 = .ok (.iload_n 1, 1) := by decide +kernel
theorem dX5_hasRoom_35 : decode cX5_hasRoom 35 = .ok (.invokevirtual 47, 3) := by decide +kernel
theorem dX5_hasRoom_38 : decode cX5_hasRoom 38 = .ok (.if_icmp .gt 7, 3) := by decide +kernel
theorem dX5_hasRoom_41 : decode cX5_hasRoom 41 = .ok (.iconst 1, 1) := by decide +kernel
theorem dX5_hasRoom_42 : decode cX5_hasRoom 42 = .ok (.goto 21, 3) := by decide +kernel
theorem dX5_hasRoom_45 : decode cX5_hasRoom 45 = .ok (.iconst 0, 1) := by decide +kernel
theorem dX5_hasRoom_46 : decode cX5_hasRoom 46 = .ok (.goto 17, 3) := by decide +kernel
theorem dX5_hasRoom_49 : decode cX5_hasRoom 49 = .ok (.iload_n 2, 1) := by decide +kernel
theorem dX5_hasRoom_50 : decode cX5_hasRoom 50 = .ok (.aload_n 0, 1) := by decide +kernel
theorem dX5_hasRoom_51 : decode cX5_hasRoom 51 = .ok (.iload_n 1, 1) := by decide +kernel
theorem dX5_hasRoom_52 : decode cX5_hasRoom 52 = .ok (.invokevirtual 47, 3) := by decide +kernel
theorem dX5_hasRoom_55 : decode cX5_hasRoom 55 = .ok (.if_icmp .gt 7, 3) := by decide +kernel
theorem dX5_hasRoom_58 : decode cX5_hasRoom 58 = .ok (.iconst 1, 1) := by decide +kernel
theorem dX5_hasRoom_59 : decode cX5_hasRoom 59 = .ok (.goto 4, 3) := by decide +kernel
theorem dX5_hasRoom_62 : decode cX5_hasRoom 62 = .ok (.iconst 0, 1) := by decide +kernel
theorem dX5_hasRoom_63 : decode cX5_hasRoom 63 = .ok (.ireturn, 1) := by decide +kernel
theorem dX5_wipes_0 : decode cX5_wipes 0 = .ok (.iconst 0, 1) := by decide +kernel
theorem dX5_wipes_1 : decode cX5_wipes 1 = .ok (.istore_n 3, 1) := by decide +kernel
theorem dX5_wipes_2 : decode cX5_wipes 2 = .ok (.iload_n 3, 1) := by decide +kernel
theorem dX5_wipes_3 : decode cX5_wipes 3 = .ok (.aload_n 0, 1) := by decide +kernel
theorem dX5_wipes_4 : decode cX5_wipes 4 = .ok (.iload_n 1, 1) := by decide +kernel
theorem dX5_wipes_5 : decode cX5_wipes 5 = .ok (.iload_n 2, 1) := by decide +kernel
theorem dX5_wipes_6 : decode cX5_wipes 6 = .ok (.invokevirtual 34, 3) := by decide +kernel
theorem dX5_wipes_9 : decode cX5_wipes 9 = .ok (.if_icmp .ge 17, 3) := by decide +kernel
theorem dX5_wipes_12 : decode cX5_wipes 12 = .ok (.aload_n 0, 1) := by decide +kernel
theorem dX5_wipes_13 : decode cX5_wipes 13 = .ok (.iload_n 1, 1) := by decide +kernel
theorem dX5_wipes_14 : decode cX5_wipes 14 = .ok (.iload_n 2, 1) := by decide +kernel
theorem dX5_wipes_15 : decode cX5_wipes 15 = .ok (.iload_n 3, 1) := by decide +kernel
theorem dX5_wipes_16 : decode cX5_wipes 16 = .ok (.iconst 0, 1) := by decide +kernel
theorem dX5_wipes_17 : decode cX5_wipes 17 = .ok (.invokevirtual 50, 3) := by decide +kernel
theorem dX5_wipes_20 : decode cX5_wipes 20 = .ok (.iinc 3 1, 3) := by decide +kernel
theorem dX5_wipes_23 : decode cX5_wipes 23 = .ok (.goto (-21), 3) := by decide +kernel
theorem dX5_wipes_26 : decode cX5_wipes 26 = .ok (.aload_n 0, 1) := by decide +kernel
theorem dX5_wipes_27 : decode cX5_wipes 27 = .ok (.iload_n 1, 1) := by decide +kernel
theorem dX5_wipes_28 : decode cX5_wipes 28 = .ok (.iconst 1, 1) := by decide +kernel
theorem dX5_wipes_29 : decode cX5_wipes 29 = .ok (.iload_n 2, 1) := by decide +kernel
theorem dX5_wipes_30 : decode cX5_wipes 30 = .ok (.iadd, 1) := by decide +kernel
theorem dX5_wipes_31 : decode cX5_wipes 31 = .ok (.iconst 0, 1) := by decide +kernel
theorem dX5_wipes_32 : decode cX5_wipes 32 = .ok (.invokevirtual 30, 3) := by decide +kernel
theorem dX5_wipes_35 : decode cX5_wipes 35 = .ok (.aload_n 0, 1) := by decide +kernel
theorem dX5_wipes_36 : decode cX5_wipes 36 = .ok (.iload_n 1, 1) := by decide +kernel
theorem dX5_wipes_37 : decode cX5_wipes 37 = .ok (.bipush 32, 2) := by decide +kernel
theorem dX5_wipes_39 : decode cX5_wipes 39 = .ok (.iload_n 2, 1) := by decide +kernel
theorem dX5_wipes_40 : decode cX5_wipes 40 = .ok (.iadd, 1) := by decide +kernel
theorem dX5_wipes_41 : decode cX5_wipes 41 = .ok (.iconst 0, 1) := by decide +kernel
theorem dX5_wipes_42 : decode cX5_wipes 42 = .ok (.invokevirtual 30, 3) := by decide +kernel
theorem dX5_wipes_45 : decode cX5_wipes 45 = .ok (.return_, 1) := by decide +kernel
theorem dX5_removes_0 : decode cX5_removes 0 = .ok (.aload_n 0, 1) := by decide +kernel
theorem dX5_removes_1 : decode cX5_removes 1 = .ok (.iload_n 1, 1) := by decide +kernel
theorem dX5_removes_2 : decode cX5_removes 2 = .ok (.iload_n 2, 1) := by decide +kernel
theorem dX5_removes_3 : decode cX5_removes 3 = .ok (.invokevirtual 54, 3) := by decide +kernel
theorem dX5_removes_6 : decode cX5_removes 6 = .ok (.aload_n 0, 1) := by decide +kernel
theorem dX5_removes_7 : decode cX5_removes 7 = .ok (.iload_n 1, 1) := by decide +kernel
theorem dX5_removes_8 : decode cX5_removes 8 = .ok (.iconst 0, 1) := by decide +kernel
theorem dX5_removes_9 : decode cX5_removes 9 = .ok (.invokevirtual 26, 3) := by decide +kernel
theorem dX5_removes_12 : decode cX5_removes 12 = .ok (.istore_n 3, 1) := by decide +kernel
theorem dX5_removes_13 : decode cX5_removes 13 = .ok (.iload_n 3, 1) := by decide +kernel
theorem dX5_removes_14 : decode cX5_removes 14 = .ok (.ifCond .le 20, 3) := by decide +kernel
theorem dX5_removes_17 : decode cX5_removes 17 = .ok (.aload_n 0, 1) := by decide +kernel
theorem dX5_removes_18 : decode cX5_removes 18 = .ok (.iload_n 1, 1) := by decide +kernel
theorem dX5_removes_19 : decode cX5_removes 19 = .ok (.iload_n 3, 1) := by decide +kernel
theorem dX5_removes_20 : decode cX5_removes 20 = .ok (.iconst 1, 1) := by decide +kernel
theorem dX5_removes_21 : decode cX5_removes 21 = .ok (.isub, 1) := by decide +kernel
theorem dX5_removes_22 : decode cX5_removes 22 = .ok (.invokevirtual 34, 3) := by decide +kernel
theorem dX5_removes_25 : decode cX5_removes 25 = .ok (.ifCond .ne 9, 3) := by decide +kernel
theorem dX5_removes_28 : decode cX5_removes 28 = .ok (.iinc 3 (-1), 3) := by decide +kernel
theorem dX5_removes_31 : decode cX5_removes 31 = .ok (.goto (-18), 3) := by decide +kernel
theorem dX5_removes_34 : decode cX5_removes 34 = .ok (.aload_n 0, 1) := by decide +kernel
theorem dX5_removes_35 : decode cX5_removes 35 = .ok (.iload_n 1, 1) := by decide +kernel
theorem dX5_removes_36 : decode cX5_removes 36 = .ok (.iconst 0, 1) := by decide +kernel
theorem dX5_removes_37 : decode cX5_removes 37 = .ok (.iload_n 3, 1) := by decide +kernel
theorem dX5_removes_38 : decode cX5_removes 38 = .ok (.invokevirtual 30, 3) := by decide +kernel
theorem dX5_removes_41 : decode cX5_removes 41 = .ok (.return_, 1) := by decide +kernel
theorem dX5_compacts_0 : decode cX5_compacts 0 = .ok (.iconst 0, 1) := by decide +kernel
theorem dX5_compacts_1 : decode cX5_compacts 1 = .ok (.istore_n 2, 1) := by decide +kernel
theorem dX5_compacts_2 : decode cX5_compacts 2 = .ok (.iload_n 2, 1) := by decide +kernel
theorem dX5_compacts_3 : decode cX5_compacts 3 = .ok (.sipush 128, 3) := by decide +kernel
theorem dX5_compacts_6 : decode cX5_compacts 6 = .ok (.if_icmp .ge 16, 3) := by decide +kernel
theorem dX5_compacts_9 : decode cX5_compacts 9 = .ok (.aload_n 0, 1) := by decide +kernel
theorem dX5_compacts_10 : decode cX5_compacts 10 = .ok (.getfield 19, 3) := by decide +kernel
theorem dX5_compacts_13 : decode cX5_compacts 13 = .ok (.iload_n 2, 1) := by decide +kernel
theorem dX5_compacts_14 : decode cX5_compacts 14 = .ok (.iconst 0, 1) := by decide +kernel
theorem dX5_compacts_15 : decode cX5_compacts 15 = .ok (.iastore, 1) := by decide +kernel
theorem dX5_compacts_16 : decode cX5_compacts 16 = .ok (.iinc 2 1, 3) := by decide +kernel
theorem dX5_compacts_19 : decode cX5_compacts 19 = .ok (.goto (-17), 3) := by decide +kernel
theorem dX5_compacts_22 : decode cX5_compacts 22 = .ok (.sipush 128, 3) := by decide +kernel
theorem dX5_compacts_25 : decode cX5_compacts 25 = .ok (.istore_n 2, 1) := by decide +kernel
theorem dX5_compacts_26 : decode cX5_compacts 26 = .ok (.iconst 0, 1) := by decide +kernel
theorem dX5_compacts_27 : decode cX5_compacts 27 = .ok (.istore_n 3, 1) := by decide +kernel
theorem dX5_compacts_28 : decode cX5_compacts 28 = .ok (.iconst 0, 1) := by decide +kernel
theorem dX5_compacts_29 : decode cX5_compacts 29 = .ok (.istore 4, 2) := by decide +kernel
theorem dX5_compacts_31 : decode cX5_compacts 31 = .ok (.iload 4, 2) := by decide +kernel
theorem dX5_compacts_33 : decode cX5_compacts 33 = .ok (.aload_n 0, 1) := by decide +kernel
theorem dX5_compacts_34 : decode cX5_compacts 34 = .ok (.iload_n 1, 1) := by decide +kernel
theorem dX5_compacts_35 : decode cX5_compacts 35 = .ok (.iconst 0, 1) := by decide +kernel
theorem dX5_compacts_36 : decode cX5_compacts 36 = .ok (.invokevirtual 26, 3) := by decide +kernel
theorem dX5_compacts_39 : decode cX5_compacts 39 = .ok (.if_icmp .ge 102, 3) := by decide +kernel
theorem dX5_compacts_42 : decode cX5_compacts 42 = .ok (.aload_n 0, 1) := by decide +kernel
theorem dX5_compacts_43 : decode cX5_compacts 43 = .ok (.iload_n 1, 1) := by decide +kernel
theorem dX5_compacts_44 : decode cX5_compacts 44 = .ok (.iload 4, 2) := by decide +kernel
theorem dX5_compacts_46 : decode cX5_compacts 46 = .ok (.invokevirtual 34, 3) := by decide +kernel
theorem dX5_compacts_49 : decode cX5_compacts 49 = .ok (.istore 5, 2) := by decide +kernel
theorem dX5_compacts_51 : decode cX5_compacts 51 = .ok (.iload_n 2, 1) := by decide +kernel
theorem dX5_compacts_52 : decode cX5_compacts 52 = .ok (.iload 5, 2) := by decide +kernel
theorem dX5_compacts_54 : decode cX5_compacts 54 = .ok (.isub, 1) := by decide +kernel
theorem dX5_compacts_55 : decode cX5_compacts 55 = .ok (.istore_n 2, 1) := by decide +kernel
theorem dX5_compacts_56 : decode cX5_compacts 56 = .ok (.iconst 0, 1) := by decide +kernel
theorem dX5_compacts_57 : decode cX5_compacts 57 = .ok (.istore 6, 2) := by decide +kernel
theorem dX5_compacts_59 : decode cX5_compacts 59 = .ok (.iload 6, 2) := by decide +kernel
theorem dX5_compacts_61 : decode cX5_compacts 61 = .ok (.iload 5, 2) := by decide +kernel
theorem dX5_compacts_63 : decode cX5_compacts 63 = .ok (.if_icmp .ge 27, 3) := by decide +kernel
theorem dX5_compacts_66 : decode cX5_compacts 66 = .ok (.aload_n 0, 1) := by decide +kernel
theorem dX5_compacts_67 : decode cX5_compacts 67 = .ok (.getfield 19, 3) := by decide +kernel
theorem dX5_compacts_70 : decode cX5_compacts 70 = .ok (.iload_n 2, 1) := by decide +kernel
theorem dX5_compacts_71 : decode cX5_compacts 71 = .ok (.iload 6, 2) := by decide +kernel
theorem dX5_compacts_73 : decode cX5_compacts 73 = .ok (.iadd, 1) := by decide +kernel
theorem dX5_compacts_74 : decode cX5_compacts 74 = .ok (.aload_n 0, 1) := by decide +kernel
theorem dX5_compacts_75 : decode cX5_compacts 75 = .ok (.iload_n 1, 1) := by decide +kernel
theorem dX5_compacts_76 : decode cX5_compacts 76 = .ok (.iload 4, 2) := by decide +kernel
theorem dX5_compacts_78 : decode cX5_compacts 78 = .ok (.iload 6, 2) := by decide +kernel
theorem dX5_compacts_80 : decode cX5_compacts 80 = .ok (.invokevirtual 58, 3) := by decide +kernel
theorem dX5_compacts_83 : decode cX5_compacts 83 = .ok (.iastore, 1) := by decide +kernel
theorem dX5_compacts_84 : decode cX5_compacts 84 = .ok (.iinc 6 1, 3) := by decide +kernel
theorem dX5_compacts_87 : decode cX5_compacts 87 = .ok (.goto (-28), 3) := by decide +kernel
theorem dX5_compacts_90 : decode cX5_compacts 90 = .ok (.iload_n 3, 1) := by decide +kernel
theorem dX5_compacts_91 : decode cX5_compacts 91 = .ok (.iload 5, 2) := by decide +kernel
theorem dX5_compacts_93 : decode cX5_compacts 93 = .ok (.ifCond .le 20, 3) := by decide +kernel
theorem dX5_compacts_96 : decode cX5_compacts 96 = .ok (.aload_n 0, 1) := by decide +kernel
theorem dX5_compacts_97 : decode cX5_compacts 97 = .ok (.iload_n 1, 1) := by decide +kernel
theorem dX5_compacts_98 : decode cX5_compacts 98 = .ok (.iconst 1, 1) := by decide +kernel
theorem dX5_compacts_99 : decode cX5_compacts 99 = .ok (.iload 4, 2) := by decide +kernel
theorem dX5_compacts_101 : decode cX5_compacts 101 = .ok (.iadd, 1) := by decide +kernel
theorem dX5_compacts_102 : decode cX5_compacts 102 = .ok (.invokevirtual 26, 3) := by decide +kernel
theorem dX5_compacts_105 : decode cX5_compacts 105 = .ok (.iload_n 2, 1) := by decide +kernel
theorem dX5_compacts_106 : decode cX5_compacts 106 = .ok (.if_icmp .eq 7, 3) := by decide +kernel
theorem dX5_compacts_109 : decode cX5_compacts 109 = .ok (.iconst 1, 1) := by decide +kernel
theorem dX5_compacts_110 : decode cX5_compacts 110 = .ok (.goto 4, 3) := by decide +kernel
theorem dX5_compacts_113 : decode cX5_compacts 113 = .ok (.iconst 0, 1) := by decide +kernel
theorem dX5_compacts_114 : decode cX5_compacts 114 = .ok (.iadd, 1) := by decide +kernel
theorem dX5_compacts_115 : decode cX5_compacts 115 = .ok (.istore_n 3, 1) := by decide +kernel
theorem dX5_compacts_116 : decode cX5_compacts 116 = .ok (.aload_n 0, 1) := by decide +kernel
theorem dX5_compacts_117 : decode cX5_compacts 117 = .ok (.iload_n 1, 1) := by decide +kernel
theorem dX5_compacts_118 : decode cX5_compacts 118 = .ok (.iconst 1, 1) := by decide +kernel
theorem dX5_compacts_119 : decode cX5_compacts 119 = .ok (.iload 4, 2) := by decide +kernel
theorem dX5_compacts_121 : decode cX5_compacts 121 = .ok (.iadd, 1) := by decide +kernel
theorem dX5_compacts_122 : decode cX5_compacts 122 = .ok (.iload 5, 2) := by decide +kernel
theorem dX5_compacts_124 : decode cX5_compacts 124 = .ok (.ifCond .le 7, 3) := by decide +kernel
theorem dX5_compacts_127 : decode cX5_compacts 127 = .ok (.iload_n 2, 1) := by decide +kernel
theorem dX5_compacts_128 : decode cX5_compacts 128 = .ok (.goto 4, 3) := by decide +kernel
theorem dX5_compacts_131 : decode cX5_compacts 131 = .ok (.iconst 0, 1) := by decide +kernel
theorem dX5_compacts_132 : decode cX5_compacts 132 = .ok (.invokevirtual 30, 3) := by decide +kernel
theorem dX5_compacts_135 : decode cX5_compacts 135 = .ok (.iinc 4 1, 3) := by decide +kernel
theorem dX5_compacts_138 : decode cX5_compacts 138 = .ok (.goto (-107), 3) := by decide +kernel
theorem dX5_compacts_141 : decode cX5_compacts 141 = .ok (.iconst 0, 1) := by decide +kernel
theorem dX5_compacts_142 : decode cX5_compacts 142 = .ok (.istore 4, 2) := by decide +kernel
theorem dX5_compacts_144 : decode cX5_compacts 144 = .ok (.iload 4, 2) := by decide +kernel
theorem dX5_compacts_146 : decode cX5_compacts 146 = .ok (.sipush 128, 3) := by decide +kernel
theorem dX5_compacts_149 : decode cX5_compacts 149 = .ok (.if_icmp .ge 26, 3) := by decide +kernel
theorem dX5_compacts_152 : decode cX5_compacts 152 = .ok (.aload_n 0, 1) := by decide +kernel
theorem dX5_compacts_153 : decode cX5_compacts 153 = .ok (.iload_n 1, 1) := by decide +kernel
theorem dX5_compacts_154 : decode cX5_compacts 154 = .ok (.bipush 63, 2) := by decide +kernel
theorem dX5_compacts_156 : decode cX5_compacts 156 = .ok (.iload 4, 2) := by decide +kernel
theorem dX5_compacts_158 : decode cX5_compacts 158 = .ok (.iadd, 1) := by decide +kernel
theorem dX5_compacts_159 : decode cX5_compacts 159 = .ok (.aload_n 0, 1) := by decide +kernel
theorem dX5_compacts_160 : decode cX5_compacts 160 = .ok (.getfield 19, 3) := by decide +kernel
theorem dX5_compacts_163 : decode cX5_compacts 163 = .ok (.iload 4, 2) := by decide +kernel
theorem dX5_compacts_165 : decode cX5_compacts 165 = .ok (.iaload, 1) := by decide +kernel
theorem dX5_compacts_166 : decode cX5_compacts 166 = .ok (.invokevirtual 30, 3) := by decide +kernel
theorem dX5_compacts_169 : decode cX5_compacts 169 = .ok (.iinc 4 1, 3) := by decide +kernel
theorem dX5_compacts_172 : decode cX5_compacts 172 = .ok (.goto (-28), 3) := by decide +kernel
theorem dX5_compacts_175 : decode cX5_compacts 175 = .ok (.aload_n 0, 1) := by decide +kernel
theorem dX5_compacts_176 : decode cX5_compacts 176 = .ok (.getfield 7, 3) := by decide +kernel
theorem dX5_compacts_179 : decode cX5_compacts 179 = .ok (.iconst 3, 1) := by decide +kernel
theorem dX5_compacts_180 : decode cX5_compacts 180 = .ok (.dup2, 1) := by decide +kernel
theorem dX5_compacts_181 : decode cX5_compacts 181 = .ok (.iaload, 1) := by decide +kernel
theorem dX5_compacts_182 : decode cX5_compacts 182 = .ok (.iconst 1, 1) := by decide +kernel
theorem dX5_compacts_183 : decode cX5_compacts 183 = .ok (.iadd, 1) := by decide +kernel
theorem dX5_compacts_184 : decode cX5_compacts 184 = .ok (.iastore, 1) := by decide +kernel
theorem dX5_compacts_185 : decode cX5_compacts 185 = .ok (.iload_n 3, 1) := by decide +kernel
theorem dX5_compacts_186 : decode cX5_compacts 186 = .ok (.ireturn, 1) := by decide +kernel
theorem dX5_puts_0 : decode cX5_puts 0 = .ok (.aload_n 0, 1) := by decide +kernel
theorem dX5_puts_1 : decode cX5_puts 1 = .ok (.iload_n 1, 1) := by decide +kernel
theorem dX5_puts_2 : decode cX5_puts 2 = .ok (.invokevirtual 62, 3) := by decide +kernel
theorem dX5_puts_5 : decode cX5_puts 5 = .ok (.iload_n 3, 1) := by decide +kernel
theorem dX5_puts_6 : decode cX5_puts 6 = .ok (.if_icmp .ge 9, 3) := by decide +kernel
theorem dX5_puts_9 : decode cX5_puts 9 = .ok (.aload_n 0, 1) := by decide +kernel
theorem dX5_puts_10 : decode cX5_puts 10 = .ok (.iload_n 1, 1) := by decide +kernel
theorem dX5_puts_11 : decode cX5_puts 11 = .ok (.invokevirtual 65, 3) := by decide +kernel
theorem dX5_puts_14 : decode cX5_puts 14 = .ok (.pop, 1) := by decide +kernel
theorem dX5_puts_15 : decode cX5_puts 15 = .ok (.aload_n 0, 1) := by decide +kernel
theorem dX5_puts_16 : decode cX5_puts 16 = .ok (.iload_n 1, 1) := by decide +kernel
theorem dX5_puts_17 : decode cX5_puts 17 = .ok (.invokevirtual 37, 3) := by decide +kernel
theorem dX5_puts_20 : decode cX5_puts 20 = .ok (.iload_n 3, 1) := by decide +kernel
theorem dX5_puts_21 : decode cX5_puts 21 = .ok (.isub, 1) := by decide +kernel
theorem dX5_puts_22 : decode cX5_puts 22 = .ok (.istore 4, 2) := by decide +kernel
theorem dX5_puts_24 : decode cX5_puts 24 = .ok (.aload_n 0, 1) := by decide +kernel
theorem dX5_puts_25 : decode cX5_puts 25 = .ok (.iload_n 1, 1) := by decide +kernel
theorem dX5_puts_26 : decode cX5_puts 26 = .ok (.iconst 1, 1) := by decide +kernel
theorem dX5_puts_27 : decode cX5_puts 27 = .ok (.iload_n 2, 1) := by decide +kernel
theorem dX5_puts_28 : decode cX5_puts 28 = .ok (.iadd, 1) := by decide +kernel
theorem dX5_puts_29 : decode cX5_puts 29 = .ok (.iload 4, 2) := by decide +kernel
theorem dX5_puts_31 : decode cX5_puts 31 = .ok (.invokevirtual 30, 3) := by decide +kernel
theorem dX5_puts_34 : decode cX5_puts 34 = .ok (.aload_n 0, 1) := by decide +kernel
theorem dX5_puts_35 : decode cX5_puts 35 = .ok (.iload_n 1, 1) := by decide +kernel
theorem dX5_puts_36 : decode cX5_puts 36 = .ok (.bipush 32, 2) := by decide +kernel
theorem dX5_puts_38 : decode cX5_puts 38 = .ok (.iload_n 2, 1) := by decide +kernel
theorem dX5_puts_39 : decode cX5_puts 39 = .ok (.iadd, 1) := by decide +kernel
theorem dX5_puts_40 : decode cX5_puts 40 = .ok (.iload_n 3, 1) := by decide +kernel
theorem dX5_puts_41 : decode cX5_puts 41 = .ok (.invokevirtual 30, 3) := by decide +kernel
theorem dX5_puts_44 : decode cX5_puts 44 = .ok (.return_, 1) := by decide +kernel
theorem dX5_stores_0 : decode cX5_stores 0 = .ok (.aload_n 0, 1) := by decide +kernel
theorem dX5_stores_1 : decode cX5_stores 1 = .ok (.iload_n 1, 1) := by decide +kernel
theorem dX5_stores_2 : decode cX5_stores 2 = .ok (.invokevirtual 44, 3) := by decide +kernel
theorem dX5_stores_5 : decode cX5_stores 5 = .ok (.istore_n 3, 1) := by decide +kernel
theorem dX5_stores_6 : decode cX5_stores 6 = .ok (.iload_n 3, 1) := by decide +kernel
theorem dX5_stores_7 : decode cX5_stores 7 = .ok (.iconst (-1), 1) := by decide +kernel
theorem dX5_stores_8 : decode cX5_stores 8 = .ok (.if_icmp .ne 19, 3) := by decide +kernel
theorem dX5_stores_11 : decode cX5_stores 11 = .ok (.aload_n 0, 1) := by decide +kernel
theorem dX5_stores_12 : decode cX5_stores 12 = .ok (.iload_n 1, 1) := by decide +kernel
theorem dX5_stores_13 : decode cX5_stores 13 = .ok (.iconst 0, 1) := by decide +kernel
theorem dX5_stores_14 : decode cX5_stores 14 = .ok (.invokevirtual 26, 3) := by decide +kernel
theorem dX5_stores_17 : decode cX5_stores 17 = .ok (.istore_n 3, 1) := by decide +kernel
theorem dX5_stores_18 : decode cX5_stores 18 = .ok (.aload_n 0, 1) := by decide +kernel
theorem dX5_stores_19 : decode cX5_stores 19 = .ok (.iload_n 1, 1) := by decide +kernel
theorem dX5_stores_20 : decode cX5_stores 20 = .ok (.iconst 0, 1) := by decide +kernel
theorem dX5_stores_21 : decode cX5_stores 21 = .ok (.iload_n 3, 1) := by decide +kernel
theorem dX5_stores_22 : decode cX5_stores 22 = .ok (.iconst 1, 1) := by decide +kernel
theorem dX5_stores_23 : decode cX5_stores 23 = .ok (.iadd, 1) := by decide +kernel
theorem dX5_stores_24 : decode cX5_stores 24 = .ok (.invokevirtual 30, 3) := by decide +kernel
theorem dX5_stores_27 : decode cX5_stores 27 = .ok (.aload_n 0, 1) := by decide +kernel
theorem dX5_stores_28 : decode cX5_stores 28 = .ok (.iload_n 1, 1) := by decide +kernel
theorem dX5_stores_29 : decode cX5_stores 29 = .ok (.iload_n 3, 1) := by decide +kernel
theorem dX5_stores_30 : decode cX5_stores 30 = .ok (.iload_n 2, 1) := by decide +kernel
theorem dX5_stores_31 : decode cX5_stores 31 = .ok (.invokevirtual 68, 3) := by decide +kernel
theorem dX5_stores_34 : decode cX5_stores 34 = .ok (.iload_n 3, 1) := by decide +kernel
theorem dX5_stores_35 : decode cX5_stores 35 = .ok (.ireturn, 1) := by decide +kernel
theorem dX5_replaces_0 : decode cX5_replaces 0 = .ok (.aload_n 0, 1) := by decide +kernel
theorem dX5_replaces_1 : decode cX5_replaces 1 = .ok (.iload_n 1, 1) := by decide +kernel
theorem dX5_replaces_2 : decode cX5_replaces 2 = .ok (.iload_n 2, 1) := by decide +kernel
theorem dX5_replaces_3 : decode cX5_replaces 3 = .ok (.invokevirtual 54, 3) := by decide +kernel
theorem dX5_replaces_6 : decode cX5_replaces 6 = .ok (.aload_n 0, 1) := by decide +kernel
theorem dX5_replaces_7 : decode cX5_replaces 7 = .ok (.iload_n 1, 1) := by decide +kernel
theorem dX5_replaces_8 : decode cX5_replaces 8 = .ok (.iload_n 2, 1) := by decide +kernel
theorem dX5_replaces_9 : decode cX5_replaces 9 = .ok (.iload_n 3, 1) := by decide +kernel
theorem dX5_replaces_10 : decode cX5_replaces 10 = .ok (.invokevirtual 68, 3) := by decide +kernel
theorem dX5_replaces_13 : decode cX5_replaces 13 = .ok (.return_, 1) := by decide +kernel
theorem dX5_canReplace_0 : decode cX5_canReplace 0 = .ok (.iload_n 3, 1) := by decide +kernel
theorem dX5_canReplace_1 : decode cX5_canReplace 1 = .ok (.aload_n 0, 1) := by decide +kernel
theorem dX5_canReplace_2 : decode cX5_canReplace 2 = .ok (.iload_n 1, 1) := by decide +kernel
theorem dX5_canReplace_3 : decode cX5_canReplace 3 = .ok (.invokevirtual 47, 3) := by decide +kernel
theorem dX5_canReplace_6 : decode cX5_canReplace 6 = .ok (.aload_n 0, 1) := by decide +kernel
theorem dX5_canReplace_7 : decode cX5_canReplace 7 = .ok (.iload_n 1, 1) := by decide +kernel
theorem dX5_canReplace_8 : decode cX5_canReplace 8 = .ok (.iload_n 2, 1) := by decide +kernel
theorem dX5_canReplace_9 : decode cX5_canReplace 9 = .ok (.invokevirtual 34, 3) := by decide +kernel
theorem dX5_canReplace_12 : decode cX5_canReplace 12 = .ok (.iadd, 1) := by decide +kernel
theorem dX5_canReplace_13 : decode cX5_canReplace 13 = .ok (.if_icmp .gt 7, 3) := by decide +kernel
theorem dX5_canReplace_16 : decode cX5_canReplace 16 = .ok (.iconst 1, 1) := by decide +kernel
theorem dX5_canReplace_17 : decode cX5_canReplace 17 = .ok (.goto 4, 3) := by decide +kernel
theorem dX5_canReplace_20 : decode cX5_canReplace 20 = .ok (.iconst 0, 1) := by decide +kernel
theorem dX5_canReplace_21 : decode cX5_canReplace 21 = .ok (.ireturn, 1) := by decide +kernel
theorem dX5_pageFor_0 : decode cX5_pageFor 0 = .ok (.iconst 0, 1) := by decide +kernel
theorem dX5_pageFor_1 : decode cX5_pageFor 1 = .ok (.istore 4, 2) := by decide +kernel
theorem dX5_pageFor_3 : decode cX5_pageFor 3 = .ok (.iload 4, 2) := by decide +kernel
theorem dX5_pageFor_5 : decode cX5_pageFor 5 = .ok (.aload_n 0, 1) := by decide +kernel
theorem dX5_pageFor_6 : decode cX5_pageFor 6 = .ok (.getfield 7, 3) := by decide +kernel
theorem dX5_pageFor_9 : decode cX5_pageFor 9 = .ok (.iconst 0, 1) := by decide +kernel
theorem dX5_pageFor_10 : decode cX5_pageFor 10 = .ok (.iaload, 1) := by decide +kernel
theorem dX5_pageFor_11 : decode cX5_pageFor 11 = .ok (.if_icmp .ge 34, 3) := by decide +kernel
theorem dX5_pageFor_14 : decode cX5_pageFor 14 = .ok (.iload 4, 2) := by decide +kernel
theorem dX5_pageFor_16 : decode cX5_pageFor 16 = .ok (.iload_n 2, 1) := by decide +kernel
theorem dX5_pageFor_17 : decode cX5_pageFor 17 = .ok (.if_icmp .eq 22, 3) := by decide +kernel
theorem dX5_pageFor_20 : decode cX5_pageFor 20 = .ok (.iload 4, 2) := by decide +kernel
theorem dX5_pageFor_22 : decode cX5_pageFor 22 = .ok (.iload_n 3, 1) := by decide +kernel
theorem dX5_pageFor_23 : decode cX5_pageFor 23 = .ok (.if_icmp .eq 16, 3) := by decide +kernel
theorem dX5_pageFor_26 : decode cX5_pageFor 26 = .ok (.aload_n 0, 1) := by decide +kernel
theorem dX5_pageFor_27 : decode cX5_pageFor 27 = .ok (.iload 4, 2) := by decide +kernel
theorem dX5_pageFor_29 : decode cX5_pageFor 29 = .ok (.iload_n 1, 1) := by decide +kernel
theorem dX5_pageFor_30 : decode cX5_pageFor 30 = .ok (.invokevirtual 71, 3) := by decide +kernel
theorem dX5_pageFor_33 : decode cX5_pageFor 33 = .ok (.ifCond .eq 6, 3) := by decide +kernel
theorem dX5_pageFor_36 : decode cX5_pageFor 36 = .ok (.iload 4, 2) := by decide +kernel
theorem dX5_pageFor_38 : decode cX5_pageFor 38 = .ok (.ireturn, 1) := by decide +kernel
theorem dX5_pageFor_39 : decode cX5_pageFor 39 = .ok (.iinc 4 1, 3) := by decide +kernel
theorem dX5_pageFor_42 : decode cX5_pageFor 42 = .ok (.goto (-39), 3) := by decide +kernel
theorem dX5_pageFor_45 : decode cX5_pageFor 45 = .ok (.aload_n 0, 1) := by decide +kernel
theorem dX5_pageFor_46 : decode cX5_pageFor 46 = .ok (.getfield 7, 3) := by decide +kernel
theorem dX5_pageFor_49 : decode cX5_pageFor 49 = .ok (.iconst 0, 1) := by decide +kernel
theorem dX5_pageFor_50 : decode cX5_pageFor 50 = .ok (.iaload, 1) := by decide +kernel
theorem dX5_pageFor_51 : decode cX5_pageFor 51 = .ok (.bipush 8, 2) := by decide +kernel
theorem dX5_pageFor_53 : decode cX5_pageFor 53 = .ok (.if_icmp .ge 12, 3) := by decide +kernel
theorem dX5_pageFor_56 : decode cX5_pageFor 56 = .ok (.aload_n 0, 1) := by decide +kernel
theorem dX5_pageFor_57 : decode cX5_pageFor 57 = .ok (.getfield 7, 3) := by decide +kernel
theorem dX5_pageFor_60 : decode cX5_pageFor 60 = .ok (.iconst 0, 1) := by decide +kernel
theorem dX5_pageFor_61 : decode cX5_pageFor 61 = .ok (.iaload, 1) := by decide +kernel
theorem dX5_pageFor_62 : decode cX5_pageFor 62 = .ok (.goto 4, 3) := by decide +kernel
theorem dX5_pageFor_65 : decode cX5_pageFor 65 = .ok (.iconst (-1), 1) := by decide +kernel
theorem dX5_pageFor_66 : decode cX5_pageFor 66 = .ok (.ireturn, 1) := by decide +kernel
theorem dX5_opens_0 : decode cX5_opens 0 = .ok (.aload_n 0, 1) := by decide +kernel
theorem dX5_opens_1 : decode cX5_opens 1 = .ok (.getfield 7, 3) := by decide +kernel
theorem dX5_opens_4 : decode cX5_opens 4 = .ok (.iconst 0, 1) := by decide +kernel
theorem dX5_opens_5 : decode cX5_opens 5 = .ok (.dup2, 1) := by decide +kernel
theorem dX5_opens_6 : decode cX5_opens 6 = .ok (.iaload, 1) := by decide +kernel
theorem dX5_opens_7 : decode cX5_opens 7 = .ok (.iload_n 1, 1) := by decide +kernel
theorem dX5_opens_8 : decode cX5_opens 8 = .ok (.aload_n 0, 1) := by decide +kernel
theorem dX5_opens_9 : decode cX5_opens 9 = .ok (.getfield 7, 3) := by decide +kernel
theorem dX5_opens_12 : decode cX5_opens 12 = .ok (.iconst 0, 1) := by decide +kernel
theorem dX5_opens_13 : decode cX5_opens 13 = .ok (.iaload, 1) := by decide +kernel
theorem dX5_opens_14 : decode cX5_opens 14 = .ok (.if_icmp .ne 7, 3) := by decide +kernel
theorem dX5_opens_17 : decode cX5_opens 17 = .ok (.iconst 1, 1) := by decide +kernel
theorem dX5_opens_18 : decode cX5_opens 18 = .ok (.goto 4, 3) := by decide +kernel
theorem dX5_opens_21 : decode cX5_opens 21 = .ok (.iconst 0, 1) := by decide +kernel
theorem dX5_opens_22 : decode cX5_opens 22 = .ok (.iadd, 1) := by decide +kernel
theorem dX5_opens_23 : decode cX5_opens 23 = .ok (.iastore, 1) := by decide +kernel
theorem dX5_opens_24 : decode cX5_opens 24 = .ok (.return_, 1) := by decide +kernel
theorem dX5_kindAt_0 : decode cX5_kindAt 0 = .ok (.iload_n 1, 1) := by decide +kernel
theorem dX5_kindAt_1 : decode cX5_kindAt 1 = .ok (.ifCond .lt 51, 3) := by decide +kernel
theorem dX5_kindAt_4 : decode cX5_kindAt 4 = .ok (.iload_n 1, 1) := by decide +kernel
theorem dX5_kindAt_5 : decode cX5_kindAt 5 = .ok (.bipush 100, 2) := by decide +kernel
theorem dX5_kindAt_7 : decode cX5_kindAt 7 = .ok (.idiv, 1) := by decide +kernel
theorem dX5_kindAt_8 : decode cX5_kindAt 8 = .ok (.aload_n 0, 1) := by decide +kernel
theorem dX5_kindAt_9 : decode cX5_kindAt 9 = .ok (.getfield 7, 3) := by decide +kernel
theorem dX5_kindAt_12 : decode cX5_kindAt 12 = .ok (.iconst 0, 1) := by decide +kernel
theorem dX5_kindAt_13 : decode cX5_kindAt 13 = .ok (.iaload, 1) := by decide +kernel
theorem dX5_kindAt_14 : decode cX5_kindAt 14 = .ok (.if_icmp .ge 38, 3) := by decide +kernel
theorem dX5_kindAt_17 : decode cX5_kindAt 17 = .ok (.iload_n 1, 1) := by decide +kernel
theorem dX5_kindAt_18 : decode cX5_kindAt 18 = .ok (.bipush 100, 2) := by decide +kernel
theorem dX5_kindAt_20 : decode cX5_kindAt 20 = .ok (.irem, 1) := by decide +kernel
theorem dX5_kindAt_21 : decode cX5_kindAt 21 = .ok (.aload_n 0, 1) := by decide +kernel
theorem dX5_kindAt_22 : decode cX5_kindAt 22 = .ok (.iload_n 1, 1) := by decide +kernel
theorem dX5_kindAt_23 : decode cX5_kindAt 23 = .ok (.bipush 100, 2) := by decide +kernel
theorem dX5_kindAt_25 : decode cX5_kindAt 25 = .ok (.idiv, 1) := by decide +kernel
theorem dX5_kindAt_26 : decode cX5_kindAt 26 = .ok (.iconst 0, 1) := by decide +kernel
theorem dX5_kindAt_27 : decode cX5_kindAt 27 = .ok (.invokevirtual 26, 3) := by decide +kernel
theorem dX5_kindAt_30 : decode cX5_kindAt 30 = .ok (.if_icmp .ge 22, 3) := by decide +kernel
theorem dX5_kindAt_33 : decode cX5_kindAt 33 = .ok (.aload_n 0, 1) := by decide +kernel
theorem dX5_kindAt_34 : decode cX5_kindAt 34 = .ok (.iload_n 1, 1) := by decide +kernel
theorem dX5_kindAt_35 : decode cX5_kindAt 35 = .ok (.bipush 100, 2) := by decide +kernel
theorem dX5_kindAt_37 : decode cX5_kindAt 37 = .ok (.idiv, 1) := by decide +kernel
theorem dX5_kindAt_38 : decode cX5_kindAt 38 = .ok (.iload_n 1, 1) := by decide +kernel
theorem dX5_kindAt_39 : decode cX5_kindAt 39 = .ok (.bipush 100, 2) := by decide +kernel
theorem dX5_kindAt_41 : decode cX5_kindAt 41 = .ok (.irem, 1) := by decide +kernel
theorem dX5_kindAt_42 : decode cX5_kindAt 42 = .ok (.invokevirtual 34, 3) := by decide +kernel
theorem dX5_kindAt_45 : decode cX5_kindAt 45 = .ok (.ifCond .le 7, 3) := by decide +kernel
theorem dX5_kindAt_48 : decode cX5_kindAt 48 = .ok (.iconst 1, 1) := by decide +kernel
theorem dX5_kindAt_49 : decode cX5_kindAt 49 = .ok (.goto 4, 3) := by decide +kernel
theorem dX5_kindAt_52 : decode cX5_kindAt 52 = .ok (.iconst 0, 1) := by decide +kernel
theorem dX5_kindAt_53 : decode cX5_kindAt 53 = .ok (.istore_n 2, 1) := by decide +kernel
theorem dX5_kindAt_54 : decode cX5_kindAt 54 = .ok (.iload_n 2, 1) := by decide +kernel
theorem dX5_kindAt_55 : decode cX5_kindAt 55 = .ok (.ifCond .ne 5, 3) := by decide +kernel
theorem dX5_kindAt_58 : decode cX5_kindAt 58 = .ok (.iconst 0, 1) := by decide +kernel
theorem dX5_kindAt_59 : decode cX5_kindAt 59 = .ok (.ireturn, 1) := by decide +kernel
theorem dX5_kindAt_60 : decode cX5_kindAt 60 = .ok (.aload_n 0, 1) := by decide +kernel
theorem dX5_kindAt_61 : decode cX5_kindAt 61 = .ok (.iload_n 1, 1) := by decide +kernel
theorem dX5_kindAt_62 : decode cX5_kindAt 62 = .ok (.bipush 100, 2) := by decide +kernel
theorem dX5_kindAt_64 : decode cX5_kindAt 64 = .ok (.idiv, 1) := by decide +kernel
theorem dX5_kindAt_65 : decode cX5_kindAt 65 = .ok (.iload_n 1, 1) := by decide +kernel
theorem dX5_kindAt_66 : decode cX5_kindAt 66 = .ok (.bipush 100, 2) := by decide +kernel
theorem dX5_kindAt_68 : decode cX5_kindAt 68 = .ok (.irem, 1) := by decide +kernel
theorem dX5_kindAt_69 : decode cX5_kindAt 69 = .ok (.iconst 0, 1) := by decide +kernel
theorem dX5_kindAt_70 : decode cX5_kindAt 70 = .ok (.invokevirtual 58, 3) := by decide +kernel
theorem dX5_kindAt_73 : decode cX5_kindAt 73 = .ok (.istore_n 3, 1) := by decide +kernel
theorem dX5_kindAt_74 : decode cX5_kindAt 74 = .ok (.iload_n 3, 1) := by decide +kernel
theorem dX5_kindAt_75 : decode cX5_kindAt 75 = .ok (.iconst 2, 1) := by decide +kernel
theorem dX5_kindAt_76 : decode cX5_kindAt 76 = .ok (.if_icmp .eq 8, 3) := by decide +kernel
theorem dX5_kindAt_79 : decode cX5_kindAt 79 = .ok (.iload_n 3, 1) := by decide +kernel
theorem dX5_kindAt_80 : decode cX5_kindAt 80 = .ok (.iconst 3, 1) := by decide +kernel
theorem dX5_kindAt_81 : decode cX5_kindAt 81 = .ok (.if_icmp .ne 7, 3) := by decide +kernel
theorem dX5_kindAt_84 : decode cX5_kindAt 84 = .ok (.iload_n 3, 1) := by decide +kernel
theorem dX5_kindAt_85 : decode cX5_kindAt 85 = .ok (.goto 4, 3) := by decide +kernel
theorem dX5_kindAt_88 : decode cX5_kindAt 88 = .ok (.iconst 1, 1) := by decide +kernel
theorem dX5_kindAt_89 : decode cX5_kindAt 89 = .ok (.ireturn, 1) := by decide +kernel
theorem dX5_isIdentifier_0 : decode cX5_isIdentifier 0 = .ok (.aload_n 0, 1) := by decide +kernel
theorem dX5_isIdentifier_1 : decode cX5_isIdentifier 1 = .ok (.iload_n 1, 1) := by decide +kernel
theorem dX5_isIdentifier_2 : decode cX5_isIdentifier 2 = .ok (.invokevirtual 75, 3) := by decide +kernel
theorem dX5_isIdentifier_5 : decode cX5_isIdentifier 5 = .ok (.iconst 1, 1) := by decide +kernel
theorem dX5_isIdentifier_6 : decode cX5_isIdentifier 6 = .ok (.iconst 2, 1) := by decide +kernel
theorem dX5_isIdentifier_7 : decode cX5_isIdentifier 7 = .ok (.invokestatic 78, 3) := by decide +kernel
theorem dX5_isIdentifier_10 : decode cX5_isIdentifier 10 = .ok (.ireturn, 1) := by decide +kernel
theorem dX5_placed_0 : decode cX5_placed 0 = .ok (.aload_n 0, 1) := by decide +kernel
theorem dX5_placed_1 : decode cX5_placed 1 = .ok (.iload_n 1, 1) := by decide +kernel
theorem dX5_placed_2 : decode cX5_placed 2 = .ok (.invokevirtual 75, 3) := by decide +kernel
theorem dX5_placed_5 : decode cX5_placed 5 = .ok (.iconst 1, 1) := by decide +kernel
theorem dX5_placed_6 : decode cX5_placed 6 = .ok (.if_icmp .ne 7, 3) := by decide +kernel
theorem dX5_placed_9 : decode cX5_placed 9 = .ok (.iload_n 1, 1) := by decide +kernel
theorem dX5_placed_10 : decode cX5_placed 10 = .ok (.goto 33, 3) := by decide +kernel
theorem dX5_placed_13 : decode cX5_placed 13 = .ok (.bipush 100, 2) := by decide +kernel
theorem dX5_placed_15 : decode cX5_placed 15 = .ok (.aload_n 0, 1) := by decide +kernel
theorem dX5_placed_16 : decode cX5_placed 16 = .ok (.iload_n 1, 1) := by decide +kernel
theorem dX5_placed_17 : decode cX5_placed 17 = .ok (.bipush 100, 2) := by decide +kernel
theorem dX5_placed_19 : decode cX5_placed 19 = .ok (.idiv, 1) := by decide +kernel
theorem dX5_placed_20 : decode cX5_placed 20 = .ok (.iload_n 1, 1) := by decide +kernel
theorem dX5_placed_21 : decode cX5_placed 21 = .ok (.bipush 100, 2) := by decide +kernel
theorem dX5_placed_23 : decode cX5_placed 23 = .ok (.irem, 1) := by decide +kernel
theorem dX5_placed_24 : decode cX5_placed 24 = .ok (.iconst 1, 1) := by decide +kernel
theorem dX5_placed_25 : decode cX5_placed 25 = .ok (.invokevirtual 58, 3) := by decide +kernel
theorem dX5_placed_28 : decode cX5_placed 28 = .ok (.imul, 1) := by decide +kernel
theorem dX5_placed_29 : decode cX5_placed 29 = .ok (.aload_n 0, 1) := by decide +kernel
theorem dX5_placed_30 : decode cX5_placed 30 = .ok (.iload_n 1, 1) := by decide +kernel
theorem dX5_placed_31 : decode cX5_placed 31 = .ok (.bipush 100, 2) := by decide +kernel
theorem dX5_placed_33 : decode cX5_placed 33 = .ok (.idiv, 1) := by decide +kernel
theorem dX5_placed_34 : decode cX5_placed 34 = .ok (.iload_n 1, 1) := by decide +kernel
theorem dX5_placed_35 : decode cX5_placed 35 = .ok (.bipush 100, 2) := by decide +kernel
theorem dX5_placed_37 : decode cX5_placed 37 = .ok (.irem, 1) := by decide +kernel
theorem dX5_placed_38 : decode cX5_placed 38 = .ok (.iconst 2, 1) := by decide +kernel
theorem dX5_placed_39 : decode cX5_placed 39 = .ok (.invokevirtual 58, 3) := by decide +kernel
theorem dX5_placed_42 : decode cX5_placed 42 = .ok (.iadd, 1) := by decide +kernel
theorem dX5_placed_43 : decode cX5_placed 43 = .ok (.ireturn, 1) := by decide +kernel
theorem dX5_homeSize_0 : decode cX5_homeSize 0 = .ok (.iload_n 0, 1) := by decide +kernel
theorem dX5_homeSize_1 : decode cX5_homeSize 1 = .ok (.iconst 2, 1) := by decide +kernel
theorem dX5_homeSize_2 : decode cX5_homeSize 2 = .ok (.if_icmp .ge 7, 3) := by decide +kernel
theorem dX5_homeSize_5 : decode cX5_homeSize 5 = .ok (.iconst 3, 1) := by decide +kernel
theorem dX5_homeSize_6 : decode cX5_homeSize 6 = .ok (.goto 6, 3) := by decide +kernel
theorem dX5_homeSize_9 : decode cX5_homeSize 9 = .ok (.iload_n 0, 1) := by decide +kernel
theorem dX5_homeSize_10 : decode cX5_homeSize 10 = .ok (.iconst 1, 1) := by decide +kernel
theorem dX5_homeSize_11 : decode cX5_homeSize 11 = .ok (.iadd, 1) := by decide +kernel
theorem dX5_homeSize_12 : decode cX5_homeSize 12 = .ok (.ireturn, 1) := by decide +kernel
theorem dX5_lengthOf_0 : decode cX5_lengthOf 0 = .ok (.aload_n 0, 1) := by decide +kernel
theorem dX5_lengthOf_1 : decode cX5_lengthOf 1 = .ok (.iload_n 1, 1) := by decide +kernel
theorem dX5_lengthOf_2 : decode cX5_lengthOf 2 = .ok (.invokevirtual 82, 3) := by decide +kernel
theorem dX5_lengthOf_5 : decode cX5_lengthOf 5 = .ok (.istore_n 2, 1) := by decide +kernel
theorem dX5_lengthOf_6 : decode cX5_lengthOf 6 = .ok (.aload_n 0, 1) := by decide +kernel
theorem dX5_lengthOf_7 : decode cX5_lengthOf 7 = .ok (.iload_n 2, 1) := by decide +kernel
theorem dX5_lengthOf_8 : decode cX5_lengthOf 8 = .ok (.bipush 100, 2) := by decide +kernel
theorem dX5_lengthOf_10 : decode cX5_lengthOf 10 = .ok (.idiv, 1) := by decide +kernel
theorem dX5_lengthOf_11 : decode cX5_lengthOf 11 = .ok (.iload_n 2, 1) := by decide +kernel
theorem dX5_lengthOf_12 : decode cX5_lengthOf 12 = .ok (.bipush 100, 2) := by decide +kernel
theorem dX5_lengthOf_14 : decode cX5_lengthOf 14 = .ok (.irem, 1) := by decide +kernel
theorem dX5_lengthOf_15 : decode cX5_lengthOf 15 = .ok (.invokevirtual 34, 3) := by decide +kernel
theorem dX5_lengthOf_18 : decode cX5_lengthOf 18 = .ok (.istore_n 3, 1) := by decide +kernel
theorem dX5_lengthOf_19 : decode cX5_lengthOf 19 = .ok (.aload_n 0, 1) := by decide +kernel
theorem dX5_lengthOf_20 : decode cX5_lengthOf 20 = .ok (.iload_n 1, 1) := by decide +kernel
theorem dX5_lengthOf_21 : decode cX5_lengthOf 21 = .ok (.invokevirtual 75, 3) := by decide +kernel
theorem dX5_lengthOf_24 : decode cX5_lengthOf 24 = .ok (.iconst 2, 1) := by decide +kernel
theorem dX5_lengthOf_25 : decode cX5_lengthOf 25 = .ok (.if_icmp .ne 7, 3) := by decide +kernel
theorem dX5_lengthOf_28 : decode cX5_lengthOf 28 = .ok (.iload_n 3, 1) := by decide +kernel
theorem dX5_lengthOf_29 : decode cX5_lengthOf 29 = .ok (.iconst 3, 1) := by decide +kernel
theorem dX5_lengthOf_30 : decode cX5_lengthOf 30 = .ok (.isub, 1) := by decide +kernel
theorem dX5_lengthOf_31 : decode cX5_lengthOf 31 = .ok (.ireturn, 1) := by decide +kernel
theorem dX5_lengthOf_32 : decode cX5_lengthOf 32 = .ok (.aload_n 0, 1) := by decide +kernel
theorem dX5_lengthOf_33 : decode cX5_lengthOf 33 = .ok (.iload_n 2, 1) := by decide +kernel
theorem dX5_lengthOf_34 : decode cX5_lengthOf 34 = .ok (.bipush 100, 2) := by decide +kernel
theorem dX5_lengthOf_36 : decode cX5_lengthOf 36 = .ok (.idiv, 1) := by decide +kernel
theorem dX5_lengthOf_37 : decode cX5_lengthOf 37 = .ok (.iload_n 2, 1) := by decide +kernel
theorem dX5_lengthOf_38 : decode cX5_lengthOf 38 = .ok (.bipush 100, 2) := by decide +kernel
theorem dX5_lengthOf_40 : decode cX5_lengthOf 40 = .ok (.irem, 1) := by decide +kernel
theorem dX5_lengthOf_41 : decode cX5_lengthOf 41 = .ok (.iconst 0, 1) := by decide +kernel
end
section
theorem dX5_lengthOf_42 : decode cX5_lengthOf 42 = .ok (.invokevirtual 58, 3) := by decide +kernel
theorem dX5_lengthOf_45 : decode cX5_lengthOf 45 = .ok (.istore 4, 2) := by decide +kernel
theorem dX5_lengthOf_47 : decode cX5_lengthOf 47 = .ok (.iload 4, 2) := by decide +kernel
theorem dX5_lengthOf_49 : decode cX5_lengthOf 49 = .ok (.iconst 4, 1) := by decide +kernel
theorem dX5_lengthOf_50 : decode cX5_lengthOf 50 = .ok (.if_icmp .ne 7, 3) := by decide +kernel
theorem dX5_lengthOf_53 : decode cX5_lengthOf 53 = .ok (.iconst 0, 1) := by decide +kernel
theorem dX5_lengthOf_54 : decode cX5_lengthOf 54 = .ok (.goto 16, 3) := by decide +kernel
theorem dX5_lengthOf_57 : decode cX5_lengthOf 57 = .ok (.iload 4, 2) := by decide +kernel
theorem dX5_lengthOf_59 : decode cX5_lengthOf 59 = .ok (.iconst 5, 1) := by decide +kernel
theorem dX5_lengthOf_60 : decode cX5_lengthOf 60 = .ok (.if_icmp .ne 7, 3) := by decide +kernel
theorem dX5_lengthOf_63 : decode cX5_lengthOf 63 = .ok (.iconst 1, 1) := by decide +kernel
theorem dX5_lengthOf_64 : decode cX5_lengthOf 64 = .ok (.goto 6, 3) := by decide +kernel
theorem dX5_lengthOf_67 : decode cX5_lengthOf 67 = .ok (.iload_n 3, 1) := by decide +kernel
theorem dX5_lengthOf_68 : decode cX5_lengthOf 68 = .ok (.iconst 1, 1) := by decide +kernel
theorem dX5_lengthOf_69 : decode cX5_lengthOf 69 = .ok (.isub, 1) := by decide +kernel
theorem dX5_lengthOf_70 : decode cX5_lengthOf 70 = .ok (.ireturn, 1) := by decide +kernel
theorem dX5_byteOfRow_0 : decode cX5_byteOfRow 0 = .ok (.aload_n 0, 1) := by decide +kernel
theorem dX5_byteOfRow_1 : decode cX5_byteOfRow 1 = .ok (.iload_n 1, 1) := by decide +kernel
theorem dX5_byteOfRow_2 : decode cX5_byteOfRow 2 = .ok (.invokevirtual 82, 3) := by decide +kernel
theorem dX5_byteOfRow_5 : decode cX5_byteOfRow 5 = .ok (.istore_n 3, 1) := by decide +kernel
theorem dX5_byteOfRow_6 : decode cX5_byteOfRow 6 = .ok (.aload_n 0, 1) := by decide +kernel
theorem dX5_byteOfRow_7 : decode cX5_byteOfRow 7 = .ok (.iload_n 3, 1) := by decide +kernel
theorem dX5_byteOfRow_8 : decode cX5_byteOfRow 8 = .ok (.bipush 100, 2) := by decide +kernel
theorem dX5_byteOfRow_10 : decode cX5_byteOfRow 10 = .ok (.idiv, 1) := by decide +kernel
theorem dX5_byteOfRow_11 : decode cX5_byteOfRow 11 = .ok (.iload_n 3, 1) := by decide +kernel
theorem dX5_byteOfRow_12 : decode cX5_byteOfRow 12 = .ok (.bipush 100, 2) := by decide +kernel
theorem dX5_byteOfRow_14 : decode cX5_byteOfRow 14 = .ok (.irem, 1) := by decide +kernel
theorem dX5_byteOfRow_15 : decode cX5_byteOfRow 15 = .ok (.aload_n 0, 1) := by decide +kernel
theorem dX5_byteOfRow_16 : decode cX5_byteOfRow 16 = .ok (.iload_n 1, 1) := by decide +kernel
theorem dX5_byteOfRow_17 : decode cX5_byteOfRow 17 = .ok (.invokevirtual 75, 3) := by decide +kernel
theorem dX5_byteOfRow_20 : decode cX5_byteOfRow 20 = .ok (.iconst 2, 1) := by decide +kernel
theorem dX5_byteOfRow_21 : decode cX5_byteOfRow 21 = .ok (.if_icmp .ne 9, 3) := by decide +kernel
theorem dX5_byteOfRow_24 : decode cX5_byteOfRow 24 = .ok (.iconst 3, 1) := by decide +kernel
theorem dX5_byteOfRow_25 : decode cX5_byteOfRow 25 = .ok (.iload_n 2, 1) := by decide +kernel
theorem dX5_byteOfRow_26 : decode cX5_byteOfRow 26 = .ok (.iadd, 1) := by decide +kernel
theorem dX5_byteOfRow_27 : decode cX5_byteOfRow 27 = .ok (.goto 6, 3) := by decide +kernel
theorem dX5_byteOfRow_30 : decode cX5_byteOfRow 30 = .ok (.iconst 1, 1) := by decide +kernel
theorem dX5_byteOfRow_31 : decode cX5_byteOfRow 31 = .ok (.iload_n 2, 1) := by decide +kernel
theorem dX5_byteOfRow_32 : decode cX5_byteOfRow 32 = .ok (.iadd, 1) := by decide +kernel
theorem dX5_byteOfRow_33 : decode cX5_byteOfRow 33 = .ok (.invokevirtual 58, 3) := by decide +kernel
theorem dX5_byteOfRow_36 : decode cX5_byteOfRow 36 = .ok (.ireturn, 1) := by decide +kernel
theorem dX5_writesHome_0 : decode cX5_writesHome 0 = .ok (.aload_n 0, 1) := by decide +kernel
theorem dX5_writesHome_1 : decode cX5_writesHome 1 = .ok (.iload_n 1, 1) := by decide +kernel
theorem dX5_writesHome_2 : decode cX5_writesHome 2 = .ok (.iload_n 2, 1) := by decide +kernel
theorem dX5_writesHome_3 : decode cX5_writesHome 3 = .ok (.iconst 0, 1) := by decide +kernel
theorem dX5_writesHome_4 : decode cX5_writesHome 4 = .ok (.aload_n 0, 1) := by decide +kernel
theorem dX5_writesHome_5 : decode cX5_writesHome 5 = .ok (.getfield 85, 3) := by decide +kernel
theorem dX5_writesHome_8 : decode cX5_writesHome 8 = .ok (.ifCond .ne 7, 3) := by decide +kernel
theorem dX5_writesHome_11 : decode cX5_writesHome 11 = .ok (.iconst 4, 1) := by decide +kernel
theorem dX5_writesHome_12 : decode cX5_writesHome 12 = .ok (.goto 16, 3) := by decide +kernel
theorem dX5_writesHome_15 : decode cX5_writesHome 15 = .ok (.aload_n 0, 1) := by decide +kernel
theorem dX5_writesHome_16 : decode cX5_writesHome 16 = .ok (.getfield 85, 3) := by decide +kernel
theorem dX5_writesHome_19 : decode cX5_writesHome 19 = .ok (.iconst 1, 1) := by decide +kernel
theorem dX5_writesHome_20 : decode cX5_writesHome 20 = .ok (.if_icmp .ne 7, 3) := by decide +kernel
theorem dX5_writesHome_23 : decode cX5_writesHome 23 = .ok (.iconst 5, 1) := by decide +kernel
theorem dX5_writesHome_24 : decode cX5_writesHome 24 = .ok (.goto 4, 3) := by decide +kernel
theorem dX5_writesHome_27 : decode cX5_writesHome 27 = .ok (.iconst 1, 1) := by decide +kernel
theorem dX5_writesHome_28 : decode cX5_writesHome 28 = .ok (.invokevirtual 50, 3) := by decide +kernel
theorem dX5_writesHome_31 : decode cX5_writesHome 31 = .ok (.iconst 0, 1) := by decide +kernel
theorem dX5_writesHome_32 : decode cX5_writesHome 32 = .ok (.istore_n 3, 1) := by decide +kernel
theorem dX5_writesHome_33 : decode cX5_writesHome 33 = .ok (.iload_n 3, 1) := by decide +kernel
theorem dX5_writesHome_34 : decode cX5_writesHome 34 = .ok (.aload_n 0, 1) := by decide +kernel
theorem dX5_writesHome_35 : decode cX5_writesHome 35 = .ok (.getfield 85, 3) := by decide +kernel
theorem dX5_writesHome_38 : decode cX5_writesHome 38 = .ok (.if_icmp .ge 24, 3) := by decide +kernel
theorem dX5_writesHome_41 : decode cX5_writesHome 41 = .ok (.aload_n 0, 1) := by decide +kernel
theorem dX5_writesHome_42 : decode cX5_writesHome 42 = .ok (.iload_n 1, 1) := by decide +kernel
theorem dX5_writesHome_43 : decode cX5_writesHome 43 = .ok (.iload_n 2, 1) := by decide +kernel
theorem dX5_writesHome_44 : decode cX5_writesHome 44 = .ok (.iconst 1, 1) := by decide +kernel
theorem dX5_writesHome_45 : decode cX5_writesHome 45 = .ok (.iload_n 3, 1) := by decide +kernel
theorem dX5_writesHome_46 : decode cX5_writesHome 46 = .ok (.iadd, 1) := by decide +kernel
theorem dX5_writesHome_47 : decode cX5_writesHome 47 = .ok (.aload_n 0, 1) := by decide +kernel
theorem dX5_writesHome_48 : decode cX5_writesHome 48 = .ok (.getfield 16, 3) := by decide +kernel
theorem dX5_writesHome_51 : decode cX5_writesHome 51 = .ok (.iload_n 3, 1) := by decide +kernel
theorem dX5_writesHome_52 : decode cX5_writesHome 52 = .ok (.iaload, 1) := by decide +kernel
theorem dX5_writesHome_53 : decode cX5_writesHome 53 = .ok (.invokevirtual 50, 3) := by decide +kernel
theorem dX5_writesHome_56 : decode cX5_writesHome 56 = .ok (.iinc 3 1, 3) := by decide +kernel
theorem dX5_writesHome_59 : decode cX5_writesHome 59 = .ok (.goto (-26), 3) := by decide +kernel
theorem dX5_writesHome_62 : decode cX5_writesHome 62 = .ok (.return_, 1) := by decide +kernel
theorem dX5_writesNote_0 : decode cX5_writesNote 0 = .ok (.aload_n 0, 1) := by decide +kernel
theorem dX5_writesNote_1 : decode cX5_writesNote 1 = .ok (.iload_n 1, 1) := by decide +kernel
theorem dX5_writesNote_2 : decode cX5_writesNote 2 = .ok (.bipush 100, 2) := by decide +kernel
theorem dX5_writesNote_4 : decode cX5_writesNote 4 = .ok (.idiv, 1) := by decide +kernel
theorem dX5_writesNote_5 : decode cX5_writesNote 5 = .ok (.iload_n 1, 1) := by decide +kernel
theorem dX5_writesNote_6 : decode cX5_writesNote 6 = .ok (.bipush 100, 2) := by decide +kernel
theorem dX5_writesNote_8 : decode cX5_writesNote 8 = .ok (.irem, 1) := by decide +kernel
theorem dX5_writesNote_9 : decode cX5_writesNote 9 = .ok (.iconst 0, 1) := by decide +kernel
theorem dX5_writesNote_10 : decode cX5_writesNote 10 = .ok (.iload_n 2, 1) := by decide +kernel
theorem dX5_writesNote_11 : decode cX5_writesNote 11 = .ok (.invokevirtual 50, 3) := by decide +kernel
theorem dX5_writesNote_14 : decode cX5_writesNote 14 = .ok (.aload_n 0, 1) := by decide +kernel
theorem dX5_writesNote_15 : decode cX5_writesNote 15 = .ok (.iload_n 1, 1) := by decide +kernel
theorem dX5_writesNote_16 : decode cX5_writesNote 16 = .ok (.bipush 100, 2) := by decide +kernel
theorem dX5_writesNote_18 : decode cX5_writesNote 18 = .ok (.idiv, 1) := by decide +kernel
theorem dX5_writesNote_19 : decode cX5_writesNote 19 = .ok (.iload_n 1, 1) := by decide +kernel
theorem dX5_writesNote_20 : decode cX5_writesNote 20 = .ok (.bipush 100, 2) := by decide +kernel
theorem dX5_writesNote_22 : decode cX5_writesNote 22 = .ok (.irem, 1) := by decide +kernel
theorem dX5_writesNote_23 : decode cX5_writesNote 23 = .ok (.iconst 1, 1) := by decide +kernel
theorem dX5_writesNote_24 : decode cX5_writesNote 24 = .ok (.iload_n 3, 1) := by decide +kernel
theorem dX5_writesNote_25 : decode cX5_writesNote 25 = .ok (.bipush 100, 2) := by decide +kernel
theorem dX5_writesNote_27 : decode cX5_writesNote 27 = .ok (.idiv, 1) := by decide +kernel
theorem dX5_writesNote_28 : decode cX5_writesNote 28 = .ok (.invokevirtual 50, 3) := by decide +kernel
theorem dX5_writesNote_31 : decode cX5_writesNote 31 = .ok (.aload_n 0, 1) := by decide +kernel
theorem dX5_writesNote_32 : decode cX5_writesNote 32 = .ok (.iload_n 1, 1) := by decide +kernel
theorem dX5_writesNote_33 : decode cX5_writesNote 33 = .ok (.bipush 100, 2) := by decide +kernel
theorem dX5_writesNote_35 : decode cX5_writesNote 35 = .ok (.idiv, 1) := by decide +kernel
theorem dX5_writesNote_36 : decode cX5_writesNote 36 = .ok (.iload_n 1, 1) := by decide +kernel
theorem dX5_writesNote_37 : decode cX5_writesNote 37 = .ok (.bipush 100, 2) := by decide +kernel
theorem dX5_writesNote_39 : decode cX5_writesNote 39 = .ok (.irem, 1) := by decide +kernel
theorem dX5_writesNote_40 : decode cX5_writesNote 40 = .ok (.iconst 2, 1) := by decide +kernel
theorem dX5_writesNote_41 : decode cX5_writesNote 41 = .ok (.iload_n 3, 1) := by decide +kernel
theorem dX5_writesNote_42 : decode cX5_writesNote 42 = .ok (.bipush 100, 2) := by decide +kernel
theorem dX5_writesNote_44 : decode cX5_writesNote 44 = .ok (.irem, 1) := by decide +kernel
theorem dX5_writesNote_45 : decode cX5_writesNote 45 = .ok (.invokevirtual 50, 3) := by decide +kernel
theorem dX5_writesNote_48 : decode cX5_writesNote 48 = .ok (.return_, 1) := by decide +kernel
theorem dX5_writesMoved_0 : decode cX5_writesMoved 0 = .ok (.aload_n 0, 1) := by decide +kernel
theorem dX5_writesMoved_1 : decode cX5_writesMoved 1 = .ok (.iload_n 1, 1) := by decide +kernel
theorem dX5_writesMoved_2 : decode cX5_writesMoved 2 = .ok (.iconst 3, 1) := by decide +kernel
theorem dX5_writesMoved_3 : decode cX5_writesMoved 3 = .ok (.iload_n 2, 1) := by decide +kernel
theorem dX5_writesMoved_4 : decode cX5_writesMoved 4 = .ok (.invokevirtual 88, 3) := by decide +kernel
theorem dX5_writesMoved_7 : decode cX5_writesMoved 7 = .ok (.iconst 0, 1) := by decide +kernel
theorem dX5_writesMoved_8 : decode cX5_writesMoved 8 = .ok (.istore_n 3, 1) := by decide +kernel
theorem dX5_writesMoved_9 : decode cX5_writesMoved 9 = .ok (.iload_n 3, 1) := by decide +kernel
theorem dX5_writesMoved_10 : decode cX5_writesMoved 10 = .ok (.aload_n 0, 1) := by decide +kernel
theorem dX5_writesMoved_11 : decode cX5_writesMoved 11 = .ok (.getfield 85, 3) := by decide +kernel
theorem dX5_writesMoved_14 : decode cX5_writesMoved 14 = .ok (.if_icmp .ge 30, 3) := by decide +kernel
theorem dX5_writesMoved_17 : decode cX5_writesMoved 17 = .ok (.aload_n 0, 1) := by decide +kernel
theorem dX5_writesMoved_18 : decode cX5_writesMoved 18 = .ok (.iload_n 1, 1) := by decide +kernel
theorem dX5_writesMoved_19 : decode cX5_writesMoved 19 = .ok (.bipush 100, 2) := by decide +kernel
theorem dX5_writesMoved_21 : decode cX5_writesMoved 21 = .ok (.idiv, 1) := by decide +kernel
theorem dX5_writesMoved_22 : decode cX5_writesMoved 22 = .ok (.iload_n 1, 1) := by decide +kernel
theorem dX5_writesMoved_23 : decode cX5_writesMoved 23 = .ok (.bipush 100, 2) := by decide +kernel
theorem dX5_writesMoved_25 : decode cX5_writesMoved 25 = .ok (.irem, 1) := by decide +kernel
theorem dX5_writesMoved_26 : decode cX5_writesMoved 26 = .ok (.iconst 3, 1) := by decide +kernel
theorem dX5_writesMoved_27 : decode cX5_writesMoved 27 = .ok (.iload_n 3, 1) := by decide +kernel
theorem dX5_writesMoved_28 : decode cX5_writesMoved 28 = .ok (.iadd, 1) := by decide +kernel
theorem dX5_writesMoved_29 : decode cX5_writesMoved 29 = .ok (.aload_n 0, 1) := by decide +kernel
theorem dX5_writesMoved_30 : decode cX5_writesMoved 30 = .ok (.getfield 16, 3) := by decide +kernel
theorem dX5_writesMoved_33 : decode cX5_writesMoved 33 = .ok (.iload_n 3, 1) := by decide +kernel
theorem dX5_writesMoved_34 : decode cX5_writesMoved 34 = .ok (.iaload, 1) := by decide +kernel
theorem dX5_writesMoved_35 : decode cX5_writesMoved 35 = .ok (.invokevirtual 50, 3) := by decide +kernel
theorem dX5_writesMoved_38 : decode cX5_writesMoved 38 = .ok (.iinc 3 1, 3) := by decide +kernel
theorem dX5_writesMoved_41 : decode cX5_writesMoved 41 = .ok (.goto (-32), 3) := by decide +kernel
theorem dX5_writesMoved_44 : decode cX5_writesMoved 44 = .ok (.return_, 1) := by decide +kernel
theorem dX5_inserts_0 : decode cX5_inserts 0 = .ok (.aload_n 0, 1) := by decide +kernel
theorem dX5_inserts_1 : decode cX5_inserts 1 = .ok (.aload_n 0, 1) := by decide +kernel
theorem dX5_inserts_2 : decode cX5_inserts 2 = .ok (.getfield 85, 3) := by decide +kernel
theorem dX5_inserts_5 : decode cX5_inserts 5 = .ok (.invokestatic 91, 3) := by decide +kernel
theorem dX5_inserts_8 : decode cX5_inserts 8 = .ok (.iconst (-1), 1) := by decide +kernel
theorem dX5_inserts_9 : decode cX5_inserts 9 = .ok (.iconst (-1), 1) := by decide +kernel
theorem dX5_inserts_10 : decode cX5_inserts 10 = .ok (.invokevirtual 94, 3) := by decide +kernel
theorem dX5_inserts_13 : decode cX5_inserts 13 = .ok (.istore_n 1, 1) := by decide +kernel
theorem dX5_inserts_14 : decode cX5_inserts 14 = .ok (.aload_n 0, 1) := by decide +kernel
theorem dX5_inserts_15 : decode cX5_inserts 15 = .ok (.iload_n 1, 1) := by decide +kernel
theorem dX5_inserts_16 : decode cX5_inserts 16 = .ok (.invokevirtual 97, 3) := by decide +kernel
theorem dX5_inserts_19 : decode cX5_inserts 19 = .ok (.aload_n 0, 1) := by decide +kernel
theorem dX5_inserts_20 : decode cX5_inserts 20 = .ok (.iload_n 1, 1) := by decide +kernel
theorem dX5_inserts_21 : decode cX5_inserts 21 = .ok (.aload_n 0, 1) := by decide +kernel
theorem dX5_inserts_22 : decode cX5_inserts 22 = .ok (.getfield 85, 3) := by decide +kernel
theorem dX5_inserts_25 : decode cX5_inserts 25 = .ok (.invokestatic 91, 3) := by decide +kernel
theorem dX5_inserts_28 : decode cX5_inserts 28 = .ok (.invokevirtual 101, 3) := by decide +kernel
theorem dX5_inserts_31 : decode cX5_inserts 31 = .ok (.istore_n 2, 1) := by decide +kernel
theorem dX5_inserts_32 : decode cX5_inserts 32 = .ok (.aload_n 0, 1) := by decide +kernel
theorem dX5_inserts_33 : decode cX5_inserts 33 = .ok (.iload_n 1, 1) := by decide +kernel
theorem dX5_inserts_34 : decode cX5_inserts 34 = .ok (.iload_n 2, 1) := by decide +kernel
theorem dX5_inserts_35 : decode cX5_inserts 35 = .ok (.invokevirtual 104, 3) := by decide +kernel
theorem dX5_inserts_38 : decode cX5_inserts 38 = .ok (.bipush 100, 2) := by decide +kernel
theorem dX5_inserts_40 : decode cX5_inserts 40 = .ok (.iload_n 1, 1) := by decide +kernel
theorem dX5_inserts_41 : decode cX5_inserts 41 = .ok (.imul, 1) := by decide +kernel
theorem dX5_inserts_42 : decode cX5_inserts 42 = .ok (.iload_n 2, 1) := by decide +kernel
theorem dX5_inserts_43 : decode cX5_inserts 43 = .ok (.iadd, 1) := by decide +kernel
theorem dX5_inserts_44 : decode cX5_inserts 44 = .ok (.ireturn, 1) := by decide +kernel
theorem dX5_way_0 : decode cX5_way 0 = .ok (.aload_n 0, 1) := by decide +kernel
theorem dX5_way_1 : decode cX5_way 1 = .ok (.iload_n 1, 1) := by decide +kernel
theorem dX5_way_2 : decode cX5_way 2 = .ok (.invokevirtual 82, 3) := by decide +kernel
theorem dX5_way_5 : decode cX5_way 5 = .ok (.istore_n 3, 1) := by decide +kernel
theorem dX5_way_6 : decode cX5_way 6 = .ok (.aload_n 0, 1) := by decide +kernel
theorem dX5_way_7 : decode cX5_way 7 = .ok (.iload_n 1, 1) := by decide +kernel
theorem dX5_way_8 : decode cX5_way 8 = .ok (.invokevirtual 75, 3) := by decide +kernel
theorem dX5_way_11 : decode cX5_way 11 = .ok (.iconst 2, 1) := by decide +kernel
theorem dX5_way_12 : decode cX5_way 12 = .ok (.if_icmp .ne 7, 3) := by decide +kernel
theorem dX5_way_15 : decode cX5_way 15 = .ok (.iconst 1, 1) := by decide +kernel
theorem dX5_way_16 : decode cX5_way 16 = .ok (.goto 4, 3) := by decide +kernel
theorem dX5_way_19 : decode cX5_way 19 = .ok (.iconst 0, 1) := by decide +kernel
theorem dX5_way_20 : decode cX5_way 20 = .ok (.istore 4, 2) := by decide +kernel
theorem dX5_way_22 : decode cX5_way 22 = .ok (.aload_n 0, 1) := by decide +kernel
theorem dX5_way_23 : decode cX5_way 23 = .ok (.iload_n 1, 1) := by decide +kernel
theorem dX5_way_24 : decode cX5_way 24 = .ok (.bipush 100, 2) := by decide +kernel
theorem dX5_way_26 : decode cX5_way 26 = .ok (.idiv, 1) := by decide +kernel
theorem dX5_way_27 : decode cX5_way 27 = .ok (.iload_n 1, 1) := by decide +kernel
theorem dX5_way_28 : decode cX5_way 28 = .ok (.bipush 100, 2) := by decide +kernel
theorem dX5_way_30 : decode cX5_way 30 = .ok (.irem, 1) := by decide +kernel
theorem dX5_way_31 : decode cX5_way 31 = .ok (.iload_n 2, 1) := by decide +kernel
theorem dX5_way_32 : decode cX5_way 32 = .ok (.invokestatic 91, 3) := by decide +kernel
theorem dX5_way_35 : decode cX5_way 35 = .ok (.invokevirtual 107, 3) := by decide +kernel
theorem dX5_way_38 : decode cX5_way 38 = .ok (.ifCond .eq 5, 3) := by decide +kernel
theorem dX5_way_41 : decode cX5_way 41 = .ok (.iconst 1, 1) := by decide +kernel
theorem dX5_way_42 : decode cX5_way 42 = .ok (.ireturn, 1) := by decide +kernel
theorem dX5_way_43 : decode cX5_way 43 = .ok (.iload 4, 2) := by decide +kernel
theorem dX5_way_45 : decode cX5_way 45 = .ok (.ifCond .eq 23, 3) := by decide +kernel
theorem dX5_way_48 : decode cX5_way 48 = .ok (.aload_n 0, 1) := by decide +kernel
theorem dX5_way_49 : decode cX5_way 49 = .ok (.iload_n 3, 1) := by decide +kernel
theorem dX5_way_50 : decode cX5_way 50 = .ok (.bipush 100, 2) := by decide +kernel
theorem dX5_way_52 : decode cX5_way 52 = .ok (.idiv, 1) := by decide +kernel
theorem dX5_way_53 : decode cX5_way 53 = .ok (.iload_n 3, 1) := by decide +kernel
theorem dX5_way_54 : decode cX5_way 54 = .ok (.bipush 100, 2) := by decide +kernel
theorem dX5_way_56 : decode cX5_way 56 = .ok (.irem, 1) := by decide +kernel
theorem dX5_way_57 : decode cX5_way 57 = .ok (.iload_n 2, 1) := by decide +kernel
theorem dX5_way_58 : decode cX5_way 58 = .ok (.iconst 3, 1) := by decide +kernel
theorem dX5_way_59 : decode cX5_way 59 = .ok (.iadd, 1) := by decide +kernel
theorem dX5_way_60 : decode cX5_way 60 = .ok (.invokevirtual 107, 3) := by decide +kernel
theorem dX5_way_63 : decode cX5_way 63 = .ok (.ifCond .eq 5, 3) := by decide +kernel
theorem dX5_way_66 : decode cX5_way 66 = .ok (.iconst 2, 1) := by decide +kernel
theorem dX5_way_67 : decode cX5_way 67 = .ok (.ireturn, 1) := by decide +kernel
theorem dX5_way_68 : decode cX5_way 68 = .ok (.aload_n 0, 1) := by decide +kernel
theorem dX5_way_69 : decode cX5_way 69 = .ok (.iload_n 2, 1) := by decide +kernel
theorem dX5_way_70 : decode cX5_way 70 = .ok (.iconst 3, 1) := by decide +kernel
theorem dX5_way_71 : decode cX5_way 71 = .ok (.iadd, 1) := by decide +kernel
theorem dX5_way_72 : decode cX5_way 72 = .ok (.iload_n 1, 1) := by decide +kernel
theorem dX5_way_73 : decode cX5_way 73 = .ok (.bipush 100, 2) := by decide +kernel
theorem dX5_way_75 : decode cX5_way 75 = .ok (.idiv, 1) := by decide +kernel
theorem dX5_way_76 : decode cX5_way 76 = .ok (.iload_n 3, 1) := by decide +kernel
theorem dX5_way_77 : decode cX5_way 77 = .ok (.bipush 100, 2) := by decide +kernel
theorem dX5_way_79 : decode cX5_way 79 = .ok (.idiv, 1) := by decide +kernel
theorem dX5_way_80 : decode cX5_way 80 = .ok (.invokevirtual 94, 3) := by decide +kernel
theorem dX5_way_83 : decode cX5_way 83 = .ok (.iconst (-1), 1) := by decide +kernel
theorem dX5_way_84 : decode cX5_way 84 = .ok (.if_icmp .ne 7, 3) := by decide +kernel
theorem dX5_way_87 : decode cX5_way 87 = .ok (.iconst (-1), 1) := by decide +kernel
theorem dX5_way_88 : decode cX5_way 88 = .ok (.goto 4, 3) := by decide +kernel
theorem dX5_way_91 : decode cX5_way 91 = .ok (.iconst 3, 1) := by decide +kernel
theorem dX5_way_92 : decode cX5_way 92 = .ok (.ireturn, 1) := by decide +kernel
theorem dX5_comesHome_0 : decode cX5_comesHome 0 = .ok (.aload_n 0, 1) := by decide +kernel
theorem dX5_comesHome_1 : decode cX5_comesHome 1 = .ok (.iload_n 1, 1) := by decide +kernel
theorem dX5_comesHome_2 : decode cX5_comesHome 2 = .ok (.invokevirtual 82, 3) := by decide +kernel
theorem dX5_comesHome_5 : decode cX5_comesHome 5 = .ok (.istore_n 2, 1) := by decide +kernel
theorem dX5_comesHome_6 : decode cX5_comesHome 6 = .ok (.aload_n 0, 1) := by decide +kernel
theorem dX5_comesHome_7 : decode cX5_comesHome 7 = .ok (.iload_n 1, 1) := by decide +kernel
theorem dX5_comesHome_8 : decode cX5_comesHome 8 = .ok (.invokevirtual 75, 3) := by decide +kernel
theorem dX5_comesHome_11 : decode cX5_comesHome 11 = .ok (.iconst 2, 1) := by decide +kernel
theorem dX5_comesHome_12 : decode cX5_comesHome 12 = .ok (.if_icmp .ne 25, 3) := by decide +kernel
theorem dX5_comesHome_15 : decode cX5_comesHome 15 = .ok (.aload_n 0, 1) := by decide +kernel
theorem dX5_comesHome_16 : decode cX5_comesHome 16 = .ok (.iload_n 2, 1) := by decide +kernel
theorem dX5_comesHome_17 : decode cX5_comesHome 17 = .ok (.bipush 100, 2) := by decide +kernel
theorem dX5_comesHome_19 : decode cX5_comesHome 19 = .ok (.idiv, 1) := by decide +kernel
theorem dX5_comesHome_20 : decode cX5_comesHome 20 = .ok (.iload_n 2, 1) := by decide +kernel
theorem dX5_comesHome_21 : decode cX5_comesHome 21 = .ok (.bipush 100, 2) := by decide +kernel
theorem dX5_comesHome_23 : decode cX5_comesHome 23 = .ok (.irem, 1) := by decide +kernel
theorem dX5_comesHome_24 : decode cX5_comesHome 24 = .ok (.invokevirtual 110, 3) := by decide +kernel
theorem dX5_comesHome_27 : decode cX5_comesHome 27 = .ok (.aload_n 0, 1) := by decide +kernel
theorem dX5_comesHome_28 : decode cX5_comesHome 28 = .ok (.getfield 7, 3) := by decide +kernel
theorem dX5_comesHome_31 : decode cX5_comesHome 31 = .ok (.iconst 2, 1) := by decide +kernel
theorem dX5_comesHome_32 : decode cX5_comesHome 32 = .ok (.dup2, 1) := by decide +kernel
theorem dX5_comesHome_33 : decode cX5_comesHome 33 = .ok (.iaload, 1) := by decide +kernel
theorem dX5_comesHome_34 : decode cX5_comesHome 34 = .ok (.iconst 1, 1) := by decide +kernel
theorem dX5_comesHome_35 : decode cX5_comesHome 35 = .ok (.iadd, 1) := by decide +kernel
theorem dX5_comesHome_36 : decode cX5_comesHome 36 = .ok (.iastore, 1) := by decide +kernel
theorem dX5_comesHome_37 : decode cX5_comesHome 37 = .ok (.aload_n 0, 1) := by decide +kernel
theorem dX5_comesHome_38 : decode cX5_comesHome 38 = .ok (.iload_n 1, 1) := by decide +kernel
theorem dX5_comesHome_39 : decode cX5_comesHome 39 = .ok (.bipush 100, 2) := by decide +kernel
theorem dX5_comesHome_41 : decode cX5_comesHome 41 = .ok (.idiv, 1) := by decide +kernel
theorem dX5_comesHome_42 : decode cX5_comesHome 42 = .ok (.iload_n 1, 1) := by decide +kernel
theorem dX5_comesHome_43 : decode cX5_comesHome 43 = .ok (.bipush 100, 2) := by decide +kernel
theorem dX5_comesHome_45 : decode cX5_comesHome 45 = .ok (.irem, 1) := by decide +kernel
theorem dX5_comesHome_46 : decode cX5_comesHome 46 = .ok (.aload_n 0, 1) := by decide +kernel
theorem dX5_comesHome_47 : decode cX5_comesHome 47 = .ok (.getfield 85, 3) := by decide +kernel
theorem dX5_comesHome_50 : decode cX5_comesHome 50 = .ok (.invokestatic 91, 3) := by decide +kernel
theorem dX5_comesHome_53 : decode cX5_comesHome 53 = .ok (.invokevirtual 113, 3) := by decide +kernel
theorem dX5_comesHome_56 : decode cX5_comesHome 56 = .ok (.aload_n 0, 1) := by decide +kernel
theorem dX5_comesHome_57 : decode cX5_comesHome 57 = .ok (.iload_n 1, 1) := by decide +kernel
theorem dX5_comesHome_58 : decode cX5_comesHome 58 = .ok (.bipush 100, 2) := by decide +kernel
theorem dX5_comesHome_60 : decode cX5_comesHome 60 = .ok (.idiv, 1) := by decide +kernel
theorem dX5_comesHome_61 : decode cX5_comesHome 61 = .ok (.iload_n 1, 1) := by decide +kernel
theorem dX5_comesHome_62 : decode cX5_comesHome 62 = .ok (.bipush 100, 2) := by decide +kernel
theorem dX5_comesHome_64 : decode cX5_comesHome 64 = .ok (.irem, 1) := by decide +kernel
theorem dX5_comesHome_65 : decode cX5_comesHome 65 = .ok (.invokevirtual 104, 3) := by decide +kernel
theorem dX5_comesHome_68 : decode cX5_comesHome 68 = .ok (.return_, 1) := by decide +kernel
theorem dX5_goesOut_0 : decode cX5_goesOut 0 = .ok (.aload_n 0, 1) := by decide +kernel
theorem dX5_goesOut_1 : decode cX5_goesOut 1 = .ok (.iload_n 1, 1) := by decide +kernel
theorem dX5_goesOut_2 : decode cX5_goesOut 2 = .ok (.invokevirtual 82, 3) := by decide +kernel
theorem dX5_goesOut_5 : decode cX5_goesOut 5 = .ok (.istore_n 2, 1) := by decide +kernel
theorem dX5_goesOut_6 : decode cX5_goesOut 6 = .ok (.aload_n 0, 1) := by decide +kernel
theorem dX5_goesOut_7 : decode cX5_goesOut 7 = .ok (.aload_n 0, 1) := by decide +kernel
theorem dX5_goesOut_8 : decode cX5_goesOut 8 = .ok (.getfield 85, 3) := by decide +kernel
theorem dX5_goesOut_11 : decode cX5_goesOut 11 = .ok (.iconst 3, 1) := by decide +kernel
theorem dX5_goesOut_12 : decode cX5_goesOut 12 = .ok (.iadd, 1) := by decide +kernel
theorem dX5_goesOut_13 : decode cX5_goesOut 13 = .ok (.iload_n 1, 1) := by decide +kernel
theorem dX5_goesOut_14 : decode cX5_goesOut 14 = .ok (.bipush 100, 2) := by decide +kernel
theorem dX5_goesOut_16 : decode cX5_goesOut 16 = .ok (.idiv, 1) := by decide +kernel
theorem dX5_goesOut_17 : decode cX5_goesOut 17 = .ok (.iload_n 2, 1) := by decide +kernel
theorem dX5_goesOut_18 : decode cX5_goesOut 18 = .ok (.bipush 100, 2) := by decide +kernel
theorem dX5_goesOut_20 : decode cX5_goesOut 20 = .ok (.idiv, 1) := by decide +kernel
theorem dX5_goesOut_21 : decode cX5_goesOut 21 = .ok (.invokevirtual 94, 3) := by decide +kernel
theorem dX5_goesOut_24 : decode cX5_goesOut 24 = .ok (.istore_n 3, 1) := by decide +kernel
theorem dX5_goesOut_25 : decode cX5_goesOut 25 = .ok (.aload_n 0, 1) := by decide +kernel
theorem dX5_goesOut_26 : decode cX5_goesOut 26 = .ok (.iload_n 3, 1) := by decide +kernel
theorem dX5_goesOut_27 : decode cX5_goesOut 27 = .ok (.invokevirtual 97, 3) := by decide +kernel
theorem dX5_goesOut_30 : decode cX5_goesOut 30 = .ok (.bipush 100, 2) := by decide +kernel
theorem dX5_goesOut_32 : decode cX5_goesOut 32 = .ok (.iload_n 3, 1) := by decide +kernel
theorem dX5_goesOut_33 : decode cX5_goesOut 33 = .ok (.imul, 1) := by decide +kernel
theorem dX5_goesOut_34 : decode cX5_goesOut 34 = .ok (.aload_n 0, 1) := by decide +kernel
theorem dX5_goesOut_35 : decode cX5_goesOut 35 = .ok (.iload_n 3, 1) := by decide +kernel
theorem dX5_goesOut_36 : decode cX5_goesOut 36 = .ok (.aload_n 0, 1) := by decide +kernel
theorem dX5_goesOut_37 : decode cX5_goesOut 37 = .ok (.getfield 85, 3) := by decide +kernel
theorem dX5_goesOut_40 : decode cX5_goesOut 40 = .ok (.iconst 3, 1) := by decide +kernel
theorem dX5_goesOut_41 : decode cX5_goesOut 41 = .ok (.iadd, 1) := by decide +kernel
theorem dX5_goesOut_42 : decode cX5_goesOut 42 = .ok (.invokevirtual 101, 3) := by decide +kernel
theorem dX5_goesOut_45 : decode cX5_goesOut 45 = .ok (.iadd, 1) := by decide +kernel
theorem dX5_goesOut_46 : decode cX5_goesOut 46 = .ok (.istore 4, 2) := by decide +kernel
theorem dX5_goesOut_48 : decode cX5_goesOut 48 = .ok (.aload_n 0, 1) := by decide +kernel
theorem dX5_goesOut_49 : decode cX5_goesOut 49 = .ok (.iload 4, 2) := by decide +kernel
theorem dX5_goesOut_51 : decode cX5_goesOut 51 = .ok (.iload_n 1, 1) := by decide +kernel
theorem dX5_goesOut_52 : decode cX5_goesOut 52 = .ok (.invokevirtual 116, 3) := by decide +kernel
theorem dX5_goesOut_55 : decode cX5_goesOut 55 = .ok (.aload_n 0, 1) := by decide +kernel
theorem dX5_goesOut_56 : decode cX5_goesOut 56 = .ok (.iload_n 1, 1) := by decide +kernel
theorem dX5_goesOut_57 : decode cX5_goesOut 57 = .ok (.invokevirtual 75, 3) := by decide +kernel
theorem dX5_goesOut_60 : decode cX5_goesOut 60 = .ok (.iconst 1, 1) := by decide +kernel
theorem dX5_goesOut_61 : decode cX5_goesOut 61 = .ok (.if_icmp .ne 19, 3) := by decide +kernel
theorem dX5_goesOut_64 : decode cX5_goesOut 64 = .ok (.aload_n 0, 1) := by decide +kernel
theorem dX5_goesOut_65 : decode cX5_goesOut 65 = .ok (.iload_n 1, 1) := by decide +kernel
theorem dX5_goesOut_66 : decode cX5_goesOut 66 = .ok (.bipush 100, 2) := by decide +kernel
theorem dX5_goesOut_68 : decode cX5_goesOut 68 = .ok (.idiv, 1) := by decide +kernel
theorem dX5_goesOut_69 : decode cX5_goesOut 69 = .ok (.iload_n 1, 1) := by decide +kernel
theorem dX5_goesOut_70 : decode cX5_goesOut 70 = .ok (.bipush 100, 2) := by decide +kernel
theorem dX5_goesOut_72 : decode cX5_goesOut 72 = .ok (.irem, 1) := by decide +kernel
theorem dX5_goesOut_73 : decode cX5_goesOut 73 = .ok (.iconst 3, 1) := by decide +kernel
theorem dX5_goesOut_74 : decode cX5_goesOut 74 = .ok (.invokevirtual 113, 3) := by decide +kernel
theorem dX5_goesOut_77 : decode cX5_goesOut 77 = .ok (.goto 15, 3) := by decide +kernel
theorem dX5_goesOut_80 : decode cX5_goesOut 80 = .ok (.aload_n 0, 1) := by decide +kernel
theorem dX5_goesOut_81 : decode cX5_goesOut 81 = .ok (.iload_n 2, 1) := by decide +kernel
theorem dX5_goesOut_82 : decode cX5_goesOut 82 = .ok (.bipush 100, 2) := by decide +kernel
theorem dX5_goesOut_84 : decode cX5_goesOut 84 = .ok (.idiv, 1) := by decide +kernel
theorem dX5_goesOut_85 : decode cX5_goesOut 85 = .ok (.iload_n 2, 1) := by decide +kernel
theorem dX5_goesOut_86 : decode cX5_goesOut 86 = .ok (.bipush 100, 2) := by decide +kernel
theorem dX5_goesOut_88 : decode cX5_goesOut 88 = .ok (.irem, 1) := by decide +kernel
theorem dX5_goesOut_89 : decode cX5_goesOut 89 = .ok (.invokevirtual 110, 3) := by decide +kernel
theorem dX5_goesOut_92 : decode cX5_goesOut 92 = .ok (.aload_n 0, 1) := by decide +kernel
theorem dX5_goesOut_93 : decode cX5_goesOut 93 = .ok (.iload_n 1, 1) := by decide +kernel
theorem dX5_goesOut_94 : decode cX5_goesOut 94 = .ok (.iconst 2, 1) := by decide +kernel
theorem dX5_goesOut_95 : decode cX5_goesOut 95 = .ok (.iload 4, 2) := by decide +kernel
theorem dX5_goesOut_97 : decode cX5_goesOut 97 = .ok (.invokevirtual 88, 3) := by decide +kernel
theorem dX5_goesOut_100 : decode cX5_goesOut 100 = .ok (.aload_n 0, 1) := by decide +kernel
theorem dX5_goesOut_101 : decode cX5_goesOut 101 = .ok (.getfield 7, 3) := by decide +kernel
theorem dX5_goesOut_104 : decode cX5_goesOut 104 = .ok (.iconst 1, 1) := by decide +kernel
theorem dX5_goesOut_105 : decode cX5_goesOut 105 = .ok (.dup2, 1) := by decide +kernel
theorem dX5_goesOut_106 : decode cX5_goesOut 106 = .ok (.iaload, 1) := by decide +kernel
theorem dX5_goesOut_107 : decode cX5_goesOut 107 = .ok (.iconst 1, 1) := by decide +kernel
theorem dX5_goesOut_108 : decode cX5_goesOut 108 = .ok (.iadd, 1) := by decide +kernel
theorem dX5_goesOut_109 : decode cX5_goesOut 109 = .ok (.iastore, 1) := by decide +kernel
theorem dX5_goesOut_110 : decode cX5_goesOut 110 = .ok (.return_, 1) := by decide +kernel
theorem dX5_updates_0 : decode cX5_updates 0 = .ok (.aload_n 0, 1) := by decide +kernel
theorem dX5_updates_1 : decode cX5_updates 1 = .ok (.iload_n 1, 1) := by decide +kernel
theorem dX5_updates_2 : decode cX5_updates 2 = .ok (.aload_n 0, 1) := by decide +kernel
theorem dX5_updates_3 : decode cX5_updates 3 = .ok (.getfield 85, 3) := by decide +kernel
theorem dX5_updates_6 : decode cX5_updates 6 = .ok (.invokevirtual 119, 3) := by decide +kernel
theorem dX5_updates_9 : decode cX5_updates 9 = .ok (.istore_n 2, 1) := by decide +kernel
theorem dX5_updates_10 : decode cX5_updates 10 = .ok (.iload_n 2, 1) := by decide +kernel
theorem dX5_updates_11 : decode cX5_updates 11 = .ok (.iconst 1, 1) := by decide +kernel
theorem dX5_updates_12 : decode cX5_updates 12 = .ok (.if_icmp .ne 11, 3) := by decide +kernel
theorem dX5_updates_15 : decode cX5_updates 15 = .ok (.aload_n 0, 1) := by decide +kernel
theorem dX5_updates_16 : decode cX5_updates 16 = .ok (.iload_n 1, 1) := by decide +kernel
theorem dX5_updates_17 : decode cX5_updates 17 = .ok (.invokevirtual 122, 3) := by decide +kernel
theorem dX5_updates_20 : decode cX5_updates 20 = .ok (.goto 46, 3) := by decide +kernel
theorem dX5_updates_23 : decode cX5_updates 23 = .ok (.iload_n 2, 1) := by decide +kernel
theorem dX5_updates_24 : decode cX5_updates 24 = .ok (.iconst 2, 1) := by decide +kernel
theorem dX5_updates_25 : decode cX5_updates 25 = .ok (.if_icmp .ne 36, 3) := by decide +kernel
theorem dX5_updates_28 : decode cX5_updates 28 = .ok (.aload_n 0, 1) := by decide +kernel
theorem dX5_updates_29 : decode cX5_updates 29 = .ok (.iload_n 1, 1) := by decide +kernel
theorem dX5_updates_30 : decode cX5_updates 30 = .ok (.invokevirtual 82, 3) := by decide +kernel
theorem dX5_updates_33 : decode cX5_updates 33 = .ok (.istore_n 3, 1) := by decide +kernel
theorem dX5_updates_34 : decode cX5_updates 34 = .ok (.aload_n 0, 1) := by decide +kernel
theorem dX5_updates_35 : decode cX5_updates 35 = .ok (.iload_n 3, 1) := by decide +kernel
theorem dX5_updates_36 : decode cX5_updates 36 = .ok (.bipush 100, 2) := by decide +kernel
theorem dX5_updates_38 : decode cX5_updates 38 = .ok (.idiv, 1) := by decide +kernel
theorem dX5_updates_39 : decode cX5_updates 39 = .ok (.iload_n 3, 1) := by decide +kernel
theorem dX5_updates_40 : decode cX5_updates 40 = .ok (.bipush 100, 2) := by decide +kernel
theorem dX5_updates_42 : decode cX5_updates 42 = .ok (.irem, 1) := by decide +kernel
theorem dX5_updates_43 : decode cX5_updates 43 = .ok (.aload_n 0, 1) := by decide +kernel
theorem dX5_updates_44 : decode cX5_updates 44 = .ok (.getfield 85, 3) := by decide +kernel
theorem dX5_updates_47 : decode cX5_updates 47 = .ok (.iconst 3, 1) := by decide +kernel
theorem dX5_updates_48 : decode cX5_updates 48 = .ok (.iadd, 1) := by decide +kernel
theorem dX5_updates_49 : decode cX5_updates 49 = .ok (.invokevirtual 113, 3) := by decide +kernel
theorem dX5_updates_52 : decode cX5_updates 52 = .ok (.aload_n 0, 1) := by decide +kernel
theorem dX5_updates_53 : decode cX5_updates 53 = .ok (.iload_n 3, 1) := by decide +kernel
theorem dX5_updates_54 : decode cX5_updates 54 = .ok (.iload_n 1, 1) := by decide +kernel
theorem dX5_updates_55 : decode cX5_updates 55 = .ok (.invokevirtual 116, 3) := by decide +kernel
theorem dX5_updates_58 : decode cX5_updates 58 = .ok (.goto 8, 3) := by decide +kernel
theorem dX5_updates_61 : decode cX5_updates 61 = .ok (.aload_n 0, 1) := by decide +kernel
theorem dX5_updates_62 : decode cX5_updates 62 = .ok (.iload_n 1, 1) := by decide +kernel
theorem dX5_updates_63 : decode cX5_updates 63 = .ok (.invokevirtual 125, 3) := by decide +kernel
theorem dX5_updates_66 : decode cX5_updates 66 = .ok (.iload_n 2, 1) := by decide +kernel
theorem dX5_updates_67 : decode cX5_updates 67 = .ok (.ireturn, 1) := by decide +kernel
theorem dX5_deletes_0 : decode cX5_deletes 0 = .ok (.aload_n 0, 1) := by decide +kernel
theorem dX5_deletes_1 : decode cX5_deletes 1 = .ok (.iload_n 1, 1) := by decide +kernel
theorem dX5_deletes_2 : decode cX5_deletes 2 = .ok (.invokevirtual 128, 3) := by decide +kernel
theorem dX5_deletes_5 : decode cX5_deletes 5 = .ok (.istore_n 2, 1) := by decide +kernel
theorem dX5_deletes_6 : decode cX5_deletes 6 = .ok (.aload_n 0, 1) := by decide +kernel
theorem dX5_deletes_7 : decode cX5_deletes 7 = .ok (.iload_n 1, 1) := by decide +kernel
theorem dX5_deletes_8 : decode cX5_deletes 8 = .ok (.invokevirtual 82, 3) := by decide +kernel
theorem dX5_deletes_11 : decode cX5_deletes 11 = .ok (.istore_n 3, 1) := by decide +kernel
theorem dX5_deletes_12 : decode cX5_deletes 12 = .ok (.aload_n 0, 1) := by decide +kernel
theorem dX5_deletes_13 : decode cX5_deletes 13 = .ok (.iload_n 3, 1) := by decide +kernel
theorem dX5_deletes_14 : decode cX5_deletes 14 = .ok (.bipush 100, 2) := by decide +kernel
theorem dX5_deletes_16 : decode cX5_deletes 16 = .ok (.idiv, 1) := by decide +kernel
theorem dX5_deletes_17 : decode cX5_deletes 17 = .ok (.iload_n 3, 1) := by decide +kernel
theorem dX5_deletes_18 : decode cX5_deletes 18 = .ok (.bipush 100, 2) := by decide +kernel
theorem dX5_deletes_20 : decode cX5_deletes 20 = .ok (.irem, 1) := by decide +kernel
theorem dX5_deletes_21 : decode cX5_deletes 21 = .ok (.invokevirtual 110, 3) := by decide +kernel
theorem dX5_deletes_24 : decode cX5_deletes 24 = .ok (.iload_n 3, 1) := by decide +kernel
theorem dX5_deletes_25 : decode cX5_deletes 25 = .ok (.iload_n 1, 1) := by decide +kernel
theorem dX5_deletes_26 : decode cX5_deletes 26 = .ok (.if_icmp .eq 15, 3) := by decide +kernel
theorem dX5_deletes_29 : decode cX5_deletes 29 = .ok (.aload_n 0, 1) := by decide +kernel
theorem dX5_deletes_30 : decode cX5_deletes 30 = .ok (.iload_n 1, 1) := by decide +kernel
theorem dX5_deletes_31 : decode cX5_deletes 31 = .ok (.bipush 100, 2) := by decide +kernel
theorem dX5_deletes_33 : decode cX5_deletes 33 = .ok (.idiv, 1) := by decide +kernel
theorem dX5_deletes_34 : decode cX5_deletes 34 = .ok (.iload_n 1, 1) := by decide +kernel
theorem dX5_deletes_35 : decode cX5_deletes 35 = .ok (.bipush 100, 2) := by decide +kernel
theorem dX5_deletes_37 : decode cX5_deletes 37 = .ok (.irem, 1) := by decide +kernel
theorem dX5_deletes_38 : decode cX5_deletes 38 = .ok (.invokevirtual 110, 3) := by decide +kernel
theorem dX5_deletes_41 : decode cX5_deletes 41 = .ok (.iload_n 2, 1) := by decide +kernel
theorem dX5_deletes_42 : decode cX5_deletes 42 = .ok (.ireturn, 1) := by decide +kernel
theorem dX5_returnsAll_0 : decode cX5_returnsAll 0 = .ok (.iconst 0, 1) := by decide +kernel
theorem dX5_returnsAll_1 : decode cX5_returnsAll 1 = .ok (.istore_n 1, 1) := by decide +kernel
theorem dX5_returnsAll_2 : decode cX5_returnsAll 2 = .ok (.iconst 0, 1) := by decide +kernel
theorem dX5_returnsAll_3 : decode cX5_returnsAll 3 = .ok (.istore_n 2, 1) := by decide +kernel
theorem dX5_returnsAll_4 : decode cX5_returnsAll 4 = .ok (.iload_n 2, 1) := by decide +kernel
theorem dX5_returnsAll_5 : decode cX5_returnsAll 5 = .ok (.bipush 100, 2) := by decide +kernel
theorem dX5_returnsAll_7 : decode cX5_returnsAll 7 = .ok (.aload_n 0, 1) := by decide +kernel
theorem dX5_returnsAll_8 : decode cX5_returnsAll 8 = .ok (.getfield 7, 3) := by decide +kernel
theorem dX5_returnsAll_11 : decode cX5_returnsAll 11 = .ok (.iconst 0, 1) := by decide +kernel
theorem dX5_returnsAll_12 : decode cX5_returnsAll 12 = .ok (.iaload, 1) := by decide +kernel
theorem dX5_returnsAll_13 : decode cX5_returnsAll 13 = .ok (.imul, 1) := by decide +kernel
theorem dX5_returnsAll_14 : decode cX5_returnsAll 14 = .ok (.if_icmp .ge 45, 3) := by decide +kernel
theorem dX5_returnsAll_17 : decode cX5_returnsAll 17 = .ok (.aload_n 0, 1) := by decide +kernel
theorem dX5_returnsAll_18 : decode cX5_returnsAll 18 = .ok (.iload_n 2, 1) := by decide +kernel
theorem dX5_returnsAll_19 : decode cX5_returnsAll 19 = .ok (.invokevirtual 75, 3) := by decide +kernel
theorem dX5_returnsAll_22 : decode cX5_returnsAll 22 = .ok (.iconst 2, 1) := by decide +kernel
theorem dX5_returnsAll_23 : decode cX5_returnsAll 23 = .ok (.if_icmp .ne 30, 3) := by decide +kernel
theorem dX5_returnsAll_26 : decode cX5_returnsAll 26 = .ok (.aload_n 0, 1) := by decide +kernel
theorem dX5_returnsAll_27 : decode cX5_returnsAll 27 = .ok (.iload_n 2, 1) := by decide +kernel
theorem dX5_returnsAll_28 : decode cX5_returnsAll 28 = .ok (.aload_n 0, 1) := by decide +kernel
theorem dX5_returnsAll_29 : decode cX5_returnsAll 29 = .ok (.iload_n 2, 1) := by decide +kernel
theorem dX5_returnsAll_30 : decode cX5_returnsAll 30 = .ok (.invokevirtual 128, 3) := by decide +kernel
theorem dX5_returnsAll_33 : decode cX5_returnsAll 33 = .ok (.invokevirtual 119, 3) := by decide +kernel
theorem dX5_returnsAll_36 : decode cX5_returnsAll 36 = .ok (.iconst 1, 1) := by decide +kernel
theorem dX5_returnsAll_37 : decode cX5_returnsAll 37 = .ok (.if_icmp .ne 16, 3) := by decide +kernel
theorem dX5_returnsAll_40 : decode cX5_returnsAll 40 = .ok (.aload_n 0, 1) := by decide +kernel
theorem dX5_returnsAll_41 : decode cX5_returnsAll 41 = .ok (.iload_n 2, 1) := by decide +kernel
theorem dX5_returnsAll_42 : decode cX5_returnsAll 42 = .ok (.invokevirtual 131, 3) := by decide +kernel
theorem dX5_returnsAll_45 : decode cX5_returnsAll 45 = .ok (.aload_n 0, 1) := by decide +kernel
theorem dX5_returnsAll_46 : decode cX5_returnsAll 46 = .ok (.iload_n 2, 1) := by decide +kernel
theorem dX5_returnsAll_47 : decode cX5_returnsAll 47 = .ok (.invokevirtual 122, 3) := by decide +kernel
theorem dX5_returnsAll_50 : decode cX5_returnsAll 50 = .ok (.iinc 1 1, 3) := by decide +kernel
theorem dX5_returnsAll_53 : decode cX5_returnsAll 53 = .ok (.iinc 2 1, 3) := by decide +kernel
theorem dX5_returnsAll_56 : decode cX5_returnsAll 56 = .ok (.goto (-52), 3) := by decide +kernel
theorem dX5_returnsAll_59 : decode cX5_returnsAll 59 = .ok (.iload_n 1, 1) := by decide +kernel
theorem dX5_returnsAll_60 : decode cX5_returnsAll 60 = .ok (.ireturn, 1) := by decide +kernel
theorem dX5_takesRow_0 : decode cX5_takesRow 0 = .ok (.aload_n 0, 1) := by decide +kernel
theorem dX5_takesRow_1 : decode cX5_takesRow 1 = .ok (.aload_n 0, 1) := by decide +kernel
theorem dX5_takesRow_2 : decode cX5_takesRow 2 = .ok (.iload_n 1, 1) := by decide +kernel
theorem dX5_takesRow_3 : decode cX5_takesRow 3 = .ok (.invokevirtual 128, 3) := by decide +kernel
theorem dX5_takesRow_6 : decode cX5_takesRow 6 = .ok (.putfield 85, 3) := by decide +kernel
theorem dX5_takesRow_9 : decode cX5_takesRow 9 = .ok (.iconst 0, 1) := by decide +kernel
theorem dX5_takesRow_10 : decode cX5_takesRow 10 = .ok (.istore_n 2, 1) := by decide +kernel
theorem dX5_takesRow_11 : decode cX5_takesRow 11 = .ok (.iload_n 2, 1) := by decide +kernel
theorem dX5_takesRow_12 : decode cX5_takesRow 12 = .ok (.aload_n 0, 1) := by decide +kernel
theorem dX5_takesRow_13 : decode cX5_takesRow 13 = .ok (.getfield 85, 3) := by decide +kernel
theorem dX5_takesRow_16 : decode cX5_takesRow 16 = .ok (.if_icmp .ge 21, 3) := by decide +kernel
theorem dX5_takesRow_19 : decode cX5_takesRow 19 = .ok (.aload_n 0, 1) := by decide +kernel
theorem dX5_takesRow_20 : decode cX5_takesRow 20 = .ok (.getfield 16, 3) := by decide +kernel
theorem dX5_takesRow_23 : decode cX5_takesRow 23 = .ok (.iload_n 2, 1) := by decide +kernel
theorem dX5_takesRow_24 : decode cX5_takesRow 24 = .ok (.aload_n 0, 1) := by decide +kernel
theorem dX5_takesRow_25 : decode cX5_takesRow 25 = .ok (.iload_n 1, 1) := by decide +kernel
theorem dX5_takesRow_26 : decode cX5_takesRow 26 = .ok (.iload_n 2, 1) := by decide +kernel
theorem dX5_takesRow_27 : decode cX5_takesRow 27 = .ok (.invokevirtual 134, 3) := by decide +kernel
theorem dX5_takesRow_30 : decode cX5_takesRow 30 = .ok (.iastore, 1) := by decide +kernel
theorem dX5_takesRow_31 : decode cX5_takesRow 31 = .ok (.iinc 2 1, 3) := by decide +kernel
theorem dX5_takesRow_34 : decode cX5_takesRow 34 = .ok (.goto (-23), 3) := by decide +kernel
theorem dX5_takesRow_37 : decode cX5_takesRow 37 = .ok (.return_, 1) := by decide +kernel
theorem dX5_takesBuffer_0 : decode cX5_takesBuffer 0 = .ok (.aload_n 0, 1) := by decide +kernel
theorem dX5_takesBuffer_1 : decode cX5_takesBuffer 1 = .ok (.iload_n 2, 1) := by decide +kernel
theorem dX5_takesBuffer_2 : decode cX5_takesBuffer 2 = .ok (.iload_n 1, 1) := by decide +kernel
theorem dX5_takesBuffer_3 : decode cX5_takesBuffer 3 = .ok (.isub, 1) := by decide +kernel
theorem dX5_takesBuffer_4 : decode cX5_takesBuffer 4 = .ok (.putfield 85, 3) := by decide +kernel
theorem dX5_takesBuffer_7 : decode cX5_takesBuffer 7 = .ok (.iconst 0, 1) := by decide +kernel
theorem dX5_takesBuffer_8 : decode cX5_takesBuffer 8 = .ok (.istore_n 3, 1) := by decide +kernel
theorem dX5_takesBuffer_9 : decode cX5_takesBuffer 9 = .ok (.iload_n 3, 1) := by decide +kernel
theorem dX5_takesBuffer_10 : decode cX5_takesBuffer 10 = .ok (.aload_n 0, 1) := by decide +kernel
theorem dX5_takesBuffer_11 : decode cX5_takesBuffer 11 = .ok (.getfield 85, 3) := by decide +kernel
theorem dX5_takesBuffer_14 : decode cX5_takesBuffer 14 = .ok (.if_icmp .ge 23, 3) := by decide +kernel
theorem dX5_takesBuffer_17 : decode cX5_takesBuffer 17 = .ok (.aload_n 0, 1) := by decide +kernel
theorem dX5_takesBuffer_18 : decode cX5_takesBuffer 18 = .ok (.getfield 16, 3) := by decide +kernel
theorem dX5_takesBuffer_21 : decode cX5_takesBuffer 21 = .ok (.iload_n 3, 1) := by decide +kernel
theorem dX5_takesBuffer_22 : decode cX5_takesBuffer 22 = .ok (.aload_n 0, 1) := by decide +kernel
theorem dX5_takesBuffer_23 : decode cX5_takesBuffer 23 = .ok (.getfield 13, 3) := by decide +kernel
theorem dX5_takesBuffer_26 : decode cX5_takesBuffer 26 = .ok (.iload_n 1, 1) := by decide +kernel
theorem dX5_takesBuffer_27 : decode cX5_takesBuffer 27 = .ok (.iload_n 3, 1) := by decide +kernel
theorem dX5_takesBuffer_28 : decode cX5_takesBuffer 28 = .ok (.iadd, 1) := by decide +kernel
theorem dX5_takesBuffer_29 : decode cX5_takesBuffer 29 = .ok (.iaload, 1) := by decide +kernel
theorem dX5_takesBuffer_30 : decode cX5_takesBuffer 30 = .ok (.iastore, 1) := by decide +kernel
theorem dX5_takesBuffer_31 : decode cX5_takesBuffer 31 = .ok (.iinc 3 1, 3) := by decide +kernel
theorem dX5_takesBuffer_34 : decode cX5_takesBuffer 34 = .ok (.goto (-25), 3) := by decide +kernel
theorem dX5_takesBuffer_37 : decode cX5_takesBuffer 37 = .ok (.return_, 1) := by decide +kernel
theorem dX5_copies_0 : decode cX5_copies 0 = .ok (.iconst 0, 1) := by decide +kernel
theorem dX5_copies_1 : decode cX5_copies 1 = .ok (.istore_n 3, 1) := by decide +kernel
theorem dX5_copies_2 : decode cX5_copies 2 = .ok (.iload_n 3, 1) := by decide +kernel
theorem dX5_copies_3 : decode cX5_copies 3 = .ok (.sipush 1532, 3) := by decide +kernel
theorem dX5_copies_6 : decode cX5_copies 6 = .ok (.if_icmp .ge 33, 3) := by decide +kernel
theorem dX5_copies_9 : decode cX5_copies 9 = .ok (.aload_n 0, 1) := by decide +kernel
theorem dX5_copies_10 : decode cX5_copies 10 = .ok (.getfield 7, 3) := by decide +kernel
theorem dX5_copies_13 : decode cX5_copies 13 = .ok (.sipush 1532, 3) := by decide +kernel
theorem dX5_copies_16 : decode cX5_copies 16 = .ok (.iload_n 2, 1) := by decide +kernel
theorem dX5_copies_17 : decode cX5_copies 17 = .ok (.imul, 1) := by decide +kernel
theorem dX5_copies_18 : decode cX5_copies 18 = .ok (.iload_n 3, 1) := by decide +kernel
theorem dX5_copies_19 : decode cX5_copies 19 = .ok (.iadd, 1) := by decide +kernel
theorem dX5_copies_20 : decode cX5_copies 20 = .ok (.aload_n 0, 1) := by decide +kernel
theorem dX5_copies_21 : decode cX5_copies 21 = .ok (.getfield 7, 3) := by decide +kernel
theorem dX5_copies_24 : decode cX5_copies 24 = .ok (.sipush 1532, 3) := by decide +kernel
theorem dX5_copies_27 : decode cX5_copies 27 = .ok (.iload_n 1, 1) := by decide +kernel
theorem dX5_copies_28 : decode cX5_copies 28 = .ok (.imul, 1) := by decide +kernel
theorem dX5_copies_29 : decode cX5_copies 29 = .ok (.iload_n 3, 1) := by decide +kernel
theorem dX5_copies_30 : decode cX5_copies 30 = .ok (.iadd, 1) := by decide +kernel
theorem dX5_copies_31 : decode cX5_copies 31 = .ok (.iaload, 1) := by decide +kernel
theorem dX5_copies_32 : decode cX5_copies 32 = .ok (.iastore, 1) := by decide +kernel
theorem dX5_copies_33 : decode cX5_copies 33 = .ok (.iinc 3 1, 3) := by decide +kernel
theorem dX5_copies_36 : decode cX5_copies 36 = .ok (.goto (-34), 3) := by decide +kernel
theorem dX5_copies_39 : decode cX5_copies 39 = .ok (.return_, 1) := by decide +kernel
theorem dX5_save_0 : decode cX5_save 0 = .ok (.iconst 1, 1) := by decide +kernel
theorem dX5_save_1 : decode cX5_save 1 = .ok (.istore_n 1, 1) := by decide +kernel
theorem dX5_save_2 : decode cX5_save 2 = .ok (.iload_n 1, 1) := by decide +kernel
theorem dX5_save_3 : decode cX5_save 3 = .ok (.bipush 6, 2) := by decide +kernel
theorem dX5_save_5 : decode cX5_save 5 = .ok (.if_icmp .ge 26, 3) := by decide +kernel
theorem dX5_save_8 : decode cX5_save 8 = .ok (.aload_n 0, 1) := by decide +kernel
theorem dX5_save_9 : decode cX5_save 9 = .ok (.getfield 137, 3) := by decide +kernel
theorem dX5_save_12 : decode cX5_save 12 = .ok (.bipush 6, 2) := by decide +kernel
theorem dX5_save_14 : decode cX5_save 14 = .ok (.if_icmp .ne 17, 3) := by decide +kernel
theorem dX5_save_17 : decode cX5_save 17 = .ok (.aload_n 0, 1) := by decide +kernel
theorem dX5_save_18 : decode cX5_save 18 = .ok (.iload_n 1, 1) := by decide +kernel
theorem dX5_save_19 : decode cX5_save 19 = .ok (.iconst 1, 1) := by decide +kernel
theorem dX5_save_20 : decode cX5_save 20 = .ok (.iadd, 1) := by decide +kernel
theorem dX5_save_21 : decode cX5_save 21 = .ok (.iload_n 1, 1) := by decide +kernel
theorem dX5_save_22 : decode cX5_save 22 = .ok (.invokevirtual 140, 3) := by decide +kernel
theorem dX5_save_25 : decode cX5_save 25 = .ok (.iinc 1 1, 3) := by decide +kernel
theorem dX5_save_28 : decode cX5_save 28 = .ok (.goto (-26), 3) := by decide +kernel
theorem dX5_save_31 : decode cX5_save 31 = .ok (.aload_n 0, 1) := by decide +kernel
theorem dX5_save_32 : decode cX5_save 32 = .ok (.dup, 1) := by decide +kernel
theorem dX5_save_33 : decode cX5_save 33 = .ok (.getfield 137, 3) := by decide +kernel
theorem dX5_save_36 : decode cX5_save 36 = .ok (.aload_n 0, 1) := by decide +kernel
theorem dX5_save_37 : decode cX5_save 37 = .ok (.getfield 137, 3) := by decide +kernel
theorem dX5_save_40 : decode cX5_save 40 = .ok (.bipush 6, 2) := by decide +kernel
theorem dX5_save_42 : decode cX5_save 42 = .ok (.if_icmp .ge 7, 3) := by decide +kernel
theorem dX5_save_45 : decode cX5_save 45 = .ok (.iconst 1, 1) := by decide +kernel
theorem dX5_save_46 : decode cX5_save 46 = .ok (.goto 4, 3) := by decide +kernel
theorem dX5_save_49 : decode cX5_save 49 = .ok (.iconst 0, 1) := by decide +kernel
theorem dX5_save_50 : decode cX5_save 50 = .ok (.iadd, 1) := by decide +kernel
theorem dX5_save_51 : decode cX5_save 51 = .ok (.putfield 137, 3) := by decide +kernel
theorem dX5_save_54 : decode cX5_save 54 = .ok (.aload_n 0, 1) := by decide +kernel
theorem dX5_save_55 : decode cX5_save 55 = .ok (.iconst 0, 1) := by decide +kernel
theorem dX5_save_56 : decode cX5_save 56 = .ok (.aload_n 0, 1) := by decide +kernel
theorem dX5_save_57 : decode cX5_save 57 = .ok (.getfield 137, 3) := by decide +kernel
theorem dX5_save_60 : decode cX5_save 60 = .ok (.invokevirtual 140, 3) := by decide +kernel
theorem dX5_save_63 : decode cX5_save 63 = .ok (.return_, 1) := by decide +kernel
theorem dX5_append_0 : decode cX5_append 0 = .ok (.aload_n 0, 1) := by decide +kernel
theorem dX5_append_1 : decode cX5_append 1 = .ok (.iload_n 1, 1) := by decide +kernel
theorem dX5_append_2 : decode cX5_append 2 = .ok (.iconst 0, 1) := by decide +kernel
theorem dX5_append_3 : decode cX5_append 3 = .ok (.sipush 255, 3) := by decide +kernel
theorem dX5_append_6 : decode cX5_append 6 = .ok (.invokestatic 78, 3) := by decide +kernel
theorem dX5_append_9 : decode cX5_append 9 = .ok (.ifCond .ne 7, 3) := by decide +kernel
theorem dX5_append_12 : decode cX5_append 12 = .ok (.iconst 1, 1) := by decide +kernel
theorem dX5_append_13 : decode cX5_append 13 = .ok (.goto 17, 3) := by decide +kernel
theorem dX5_append_16 : decode cX5_append 16 = .ok (.aload_n 0, 1) := by decide +kernel
theorem dX5_append_17 : decode cX5_append 17 = .ok (.getfield 143, 3) := by decide +kernel
theorem dX5_append_20 : decode cX5_append 20 = .ok (.bipush 60, 2) := by decide +kernel
theorem dX5_append_22 : decode cX5_append 22 = .ok (.if_icmp .ne 7, 3) := by decide +kernel
theorem dX5_append_25 : decode cX5_append 25 = .ok (.iconst 2, 1) := by decide +kernel
theorem dX5_append_26 : decode cX5_append 26 = .ok (.goto 4, 3) := by decide +kernel
theorem dX5_append_29 : decode cX5_append 29 = .ok (.iconst 0, 1) := by decide +kernel
theorem dX5_append_30 : decode cX5_append 30 = .ok (.invokevirtual 146, 3) := by decide +kernel
theorem dX5_append_33 : decode cX5_append 33 = .ok (.ifCond .ne 5, 3) := by decide +kernel
theorem dX5_append_36 : decode cX5_append 36 = .ok (.iconst 0, 1) := by decide +kernel
theorem dX5_append_37 : decode cX5_append 37 = .ok (.ireturn, 1) := by decide +kernel
theorem dX5_append_38 : decode cX5_append 38 = .ok (.aload_n 0, 1) := by decide +kernel
theorem dX5_append_39 : decode cX5_append 39 = .ok (.getfield 13, 3) := by decide +kernel
theorem dX5_append_42 : decode cX5_append 42 = .ok (.aload_n 0, 1) := by decide +kernel
theorem dX5_append_43 : decode cX5_append 43 = .ok (.getfield 143, 3) := by decide +kernel
theorem dX5_append_46 : decode cX5_append 46 = .ok (.iload_n 1, 1) := by decide +kernel
theorem dX5_append_47 : decode cX5_append 47 = .ok (.iastore, 1) := by decide +kernel
theorem dX5_append_48 : decode cX5_append 48 = .ok (.aload_n 0, 1) := by decide +kernel
theorem dX5_append_49 : decode cX5_append 49 = .ok (.dup, 1) := by decide +kernel
theorem dX5_append_50 : decode cX5_append 50 = .ok (.getfield 143, 3) := by decide +kernel
theorem dX5_append_53 : decode cX5_append 53 = .ok (.iconst 1, 1) := by decide +kernel
theorem dX5_append_54 : decode cX5_append 54 = .ok (.iadd, 1) := by decide +kernel
theorem dX5_append_55 : decode cX5_append 55 = .ok (.putfield 143, 3) := by decide +kernel
theorem dX5_append_58 : decode cX5_append 58 = .ok (.aload_n 0, 1) := by decide +kernel
theorem dX5_append_59 : decode cX5_append 59 = .ok (.getfield 143, 3) := by decide +kernel
theorem dX5_append_62 : decode cX5_append 62 = .ok (.ireturn, 1) := by decide +kernel
theorem dX5_fill_0 : decode cX5_fill 0 = .ok (.aload_n 0, 1) := by decide +kernel
theorem dX5_fill_1 : decode cX5_fill 1 = .ok (.iload_n 1, 1) := by decide +kernel
theorem dX5_fill_2 : decode cX5_fill 2 = .ok (.iconst 1, 1) := by decide +kernel
theorem dX5_fill_3 : decode cX5_fill 3 = .ok (.bipush 60, 2) := by decide +kernel
theorem dX5_fill_5 : decode cX5_fill 5 = .ok (.invokestatic 78, 3) := by decide +kernel
theorem dX5_fill_8 : decode cX5_fill 8 = .ok (.ifCond .eq 14, 3) := by decide +kernel
theorem dX5_fill_11 : decode cX5_fill 11 = .ok (.iload_n 2, 1) := by decide +kernel
theorem dX5_fill_12 : decode cX5_fill 12 = .ok (.iconst 0, 1) := by decide +kernel
theorem dX5_fill_13 : decode cX5_fill 13 = .ok (.sipush 255, 3) := by decide +kernel
theorem dX5_fill_16 : decode cX5_fill 16 = .ok (.invokestatic 78, 3) := by decide +kernel
theorem dX5_fill_19 : decode cX5_fill 19 = .ok (.ifCond .ne 7, 3) := by decide +kernel
theorem dX5_fill_22 : decode cX5_fill 22 = .ok (.iconst 1, 1) := by decide +kernel
theorem dX5_fill_23 : decode cX5_fill 23 = .ok (.goto 19, 3) := by decide +kernel
theorem dX5_fill_26 : decode cX5_fill 26 = .ok (.aload_n 0, 1) := by decide +kernel
theorem dX5_fill_27 : decode cX5_fill 27 = .ok (.getfield 143, 3) := by decide +kernel
theorem dX5_fill_30 : decode cX5_fill 30 = .ok (.iload_n 1, 1) := by decide +kernel
theorem dX5_fill_31 : decode cX5_fill 31 = .ok (.iadd, 1) := by decide +kernel
theorem dX5_fill_32 : decode cX5_fill 32 = .ok (.bipush 60, 2) := by decide +kernel
theorem dX5_fill_34 : decode cX5_fill 34 = .ok (.if_icmp .le 7, 3) := by decide +kernel
theorem dX5_fill_37 : decode cX5_fill 37 = .ok (.iconst 2, 1) := by decide +kernel
theorem dX5_fill_38 : decode cX5_fill 38 = .ok (.goto 4, 3) := by decide +kernel
theorem dX5_fill_41 : decode cX5_fill 41 = .ok (.iconst 0, 1) := by decide +kernel
theorem dX5_fill_42 : decode cX5_fill 42 = .ok (.invokevirtual 146, 3) := by decide +kernel
theorem dX5_fill_45 : decode cX5_fill 45 = .ok (.ifCond .ne 5, 3) := by decide +kernel
theorem dX5_fill_48 : decode cX5_fill 48 = .ok (.iconst 0, 1) := by decide +kernel
theorem dX5_fill_49 : decode cX5_fill 49 = .ok (.ireturn, 1) := by decide +kernel
theorem dX5_fill_50 : decode cX5_fill 50 = .ok (.iconst 0, 1) := by decide +kernel
theorem dX5_fill_51 : decode cX5_fill 51 = .ok (.istore_n 3, 1) := by decide +kernel
theorem dX5_fill_52 : decode cX5_fill 52 = .ok (.iload_n 3, 1) := by decide +kernel
theorem dX5_fill_53 : decode cX5_fill 53 = .ok (.iload_n 1, 1) := by decide +kernel
theorem dX5_fill_54 : decode cX5_fill 54 = .ok (.if_icmp .ge 29, 3) := by decide +kernel
theorem dX5_fill_57 : decode cX5_fill 57 = .ok (.aload_n 0, 1) := by decide +kernel
theorem dX5_fill_58 : decode cX5_fill 58 = .ok (.getfield 13, 3) := by decide +kernel
theorem dX5_fill_61 : decode cX5_fill 61 = .ok (.aload_n 0, 1) := by decide +kernel
theorem dX5_fill_62 : decode cX5_fill 62 = .ok (.getfield 143, 3) := by decide +kernel
theorem dX5_fill_65 : decode cX5_fill 65 = .ok (.iload_n 2, 1) := by decide +kernel
theorem dX5_fill_66 : decode cX5_fill 66 = .ok (.iastore, 1) := by decide +kernel
theorem dX5_fill_67 : decode cX5_fill 67 = .ok (.aload_n 0, 1) := by decide +kernel
theorem dX5_fill_68 : decode cX5_fill 68 = .ok (.dup, 1) := by decide +kernel
theorem dX5_fill_69 : decode cX5_fill 69 = .ok (.getfield 143, 3) := by decide +kernel
theorem dX5_fill_72 : decode cX5_fill 72 = .ok (.iconst 1, 1) := by decide +kernel
theorem dX5_fill_73 : decode cX5_fill 73 = .ok (.iadd, 1) := by decide +kernel
theorem dX5_fill_74 : decode cX5_fill 74 = .ok (.putfield 143, 3) := by decide +kernel
theorem dX5_fill_77 : decode cX5_fill 77 = .ok (.iinc 3 1, 3) := by decide +kernel
theorem dX5_fill_80 : decode cX5_fill 80 = .ok (.goto (-28), 3) := by decide +kernel
theorem dX5_fill_83 : decode cX5_fill 83 = .ok (.aload_n 0, 1) := by decide +kernel
theorem dX5_fill_84 : decode cX5_fill 84 = .ok (.getfield 143, 3) := by decide +kernel
theorem dX5_fill_87 : decode cX5_fill 87 = .ok (.ireturn, 1) := by decide +kernel
theorem dX5_clearBuffer_0 : decode cX5_clearBuffer 0 = .ok (.aload_n 0, 1) := by decide +kernel
theorem dX5_clearBuffer_1 : decode cX5_clearBuffer 1 = .ok (.iconst 0, 1) := by decide +kernel
theorem dX5_clearBuffer_2 : decode cX5_clearBuffer 2 = .ok (.putfield 22, 3) := by decide +kernel
theorem dX5_clearBuffer_5 : decode cX5_clearBuffer 5 = .ok (.aload_n 0, 1) := by decide +kernel
theorem dX5_clearBuffer_6 : decode cX5_clearBuffer 6 = .ok (.getfield 143, 3) := by decide +kernel
theorem dX5_clearBuffer_9 : decode cX5_clearBuffer 9 = .ok (.istore_n 1, 1) := by decide +kernel
theorem dX5_clearBuffer_10 : decode cX5_clearBuffer 10 = .ok (.aload_n 0, 1) := by decide +kernel
theorem dX5_clearBuffer_11 : decode cX5_clearBuffer 11 = .ok (.iconst 0, 1) := by decide +kernel
theorem dX5_clearBuffer_12 : decode cX5_clearBuffer 12 = .ok (.putfield 143, 3) := by decide +kernel
theorem dX5_clearBuffer_15 : decode cX5_clearBuffer 15 = .ok (.iload_n 1, 1) := by decide +kernel
theorem dX5_clearBuffer_16 : decode cX5_clearBuffer 16 = .ok (.ireturn, 1) := by decide +kernel
theorem dX5_insert_0 : decode cX5_insert 0 = .ok (.aload_n 0, 1) := by decide +kernel
theorem dX5_insert_1 : decode cX5_insert 1 = .ok (.aload_n 0, 1) := by decide +kernel
theorem dX5_insert_2 : decode cX5_insert 2 = .ok (.aload_n 0, 1) := by decide +kernel
theorem dX5_insert_3 : decode cX5_insert 3 = .ok (.getfield 143, 3) := by decide +kernel
theorem dX5_insert_6 : decode cX5_insert 6 = .ok (.invokestatic 91, 3) := by decide +kernel
theorem dX5_insert_9 : decode cX5_insert 9 = .ok (.iconst (-1), 1) := by decide +kernel
theorem dX5_insert_10 : decode cX5_insert 10 = .ok (.iconst (-1), 1) := by decide +kernel
theorem dX5_insert_11 : decode cX5_insert 11 = .ok (.invokevirtual 94, 3) := by decide +kernel
theorem dX5_insert_14 : decode cX5_insert 14 = .ok (.iconst (-1), 1) := by decide +kernel
theorem dX5_insert_15 : decode cX5_insert 15 = .ok (.if_icmp .ne 7, 3) := by decide +kernel
theorem dX5_insert_18 : decode cX5_insert 18 = .ok (.iconst 1, 1) := by decide +kernel
theorem dX5_insert_19 : decode cX5_insert 19 = .ok (.goto 4, 3) := by decide +kernel
theorem dX5_insert_22 : decode cX5_insert 22 = .ok (.iconst 0, 1) := by decide +kernel
theorem dX5_insert_23 : decode cX5_insert 23 = .ok (.invokevirtual 146, 3) := by decide +kernel
theorem dX5_insert_26 : decode cX5_insert 26 = .ok (.ifCond .ne 5, 3) := by decide +kernel
theorem dX5_insert_29 : decode cX5_insert 29 = .ok (.iconst 0, 1) := by decide +kernel
theorem dX5_insert_30 : decode cX5_insert 30 = .ok (.ireturn, 1) := by decide +kernel
theorem dX5_insert_31 : decode cX5_insert 31 = .ok (.aload_n 0, 1) := by decide +kernel
theorem dX5_insert_32 : decode cX5_insert 32 = .ok (.invokevirtual 150, 3) := by decide +kernel
theorem dX5_insert_35 : decode cX5_insert 35 = .ok (.aload_n 0, 1) := by decide +kernel
theorem dX5_insert_36 : decode cX5_insert 36 = .ok (.iconst 0, 1) := by decide +kernel
theorem dX5_insert_37 : decode cX5_insert 37 = .ok (.aload_n 0, 1) := by decide +kernel
theorem dX5_insert_38 : decode cX5_insert 38 = .ok (.getfield 143, 3) := by decide +kernel
theorem dX5_insert_41 : decode cX5_insert 41 = .ok (.invokevirtual 153, 3) := by decide +kernel
theorem dX5_insert_44 : decode cX5_insert 44 = .ok (.aload_n 0, 1) := by decide +kernel
theorem dX5_insert_45 : decode cX5_insert 45 = .ok (.iconst 0, 1) := by decide +kernel
theorem dX5_insert_46 : decode cX5_insert 46 = .ok (.putfield 143, 3) := by decide +kernel
theorem dX5_insert_49 : decode cX5_insert 49 = .ok (.aload_n 0, 1) := by decide +kernel
theorem dX5_insert_50 : decode cX5_insert 50 = .ok (.invokevirtual 156, 3) := by decide +kernel
theorem dX5_insert_53 : decode cX5_insert 53 = .ok (.ireturn, 1) := by decide +kernel
theorem dX5_update_0 : decode cX5_update 0 = .ok (.aload_n 0, 1) := by decide +kernel
theorem dX5_update_1 : decode cX5_update 1 = .ok (.iload_n 1, 1) := by decide +kernel
theorem dX5_update_2 : decode cX5_update 2 = .ok (.invokevirtual 160, 3) := by decide +kernel
theorem dX5_update_5 : decode cX5_update 5 = .ok (.istore_n 2, 1) := by decide +kernel
theorem dX5_update_6 : decode cX5_update 6 = .ok (.aload_n 0, 1) := by decide +kernel
theorem dX5_update_7 : decode cX5_update 7 = .ok (.iload_n 2, 1) := by decide +kernel
theorem dX5_update_8 : decode cX5_update 8 = .ok (.ifCond .ne 7, 3) := by decide +kernel
theorem dX5_update_11 : decode cX5_update 11 = .ok (.iconst 1, 1) := by decide +kernel
theorem dX5_update_12 : decode cX5_update 12 = .ok (.goto 21, 3) := by decide +kernel
theorem dX5_update_15 : decode cX5_update 15 = .ok (.aload_n 0, 1) := by decide +kernel
theorem dX5_update_16 : decode cX5_update 16 = .ok (.iload_n 1, 1) := by decide +kernel
theorem dX5_update_17 : decode cX5_update 17 = .ok (.aload_n 0, 1) := by decide +kernel
theorem dX5_update_18 : decode cX5_update 18 = .ok (.getfield 143, 3) := by decide +kernel
theorem dX5_update_21 : decode cX5_update 21 = .ok (.invokevirtual 119, 3) := by decide +kernel
theorem dX5_update_24 : decode cX5_update 24 = .ok (.iconst (-1), 1) := by decide +kernel
theorem dX5_update_25 : decode cX5_update 25 = .ok (.if_icmp .ne 7, 3) := by decide +kernel
theorem dX5_update_28 : decode cX5_update 28 = .ok (.iconst 2, 1) := by decide +kernel
theorem dX5_update_29 : decode cX5_update 29 = .ok (.goto 4, 3) := by decide +kernel
theorem dX5_update_32 : decode cX5_update 32 = .ok (.iconst 0, 1) := by decide +kernel
theorem dX5_update_33 : decode cX5_update 33 = .ok (.invokevirtual 146, 3) := by decide +kernel
theorem dX5_update_36 : decode cX5_update 36 = .ok (.ifCond .ne 5, 3) := by decide +kernel
theorem dX5_update_39 : decode cX5_update 39 = .ok (.iconst 0, 1) := by decide +kernel
theorem dX5_update_40 : decode cX5_update 40 = .ok (.ireturn, 1) := by decide +kernel
theorem dX5_update_41 : decode cX5_update 41 = .ok (.aload_n 0, 1) := by decide +kernel
theorem dX5_update_42 : decode cX5_update 42 = .ok (.invokevirtual 150, 3) := by decide +kernel
theorem dX5_update_45 : decode cX5_update 45 = .ok (.aload_n 0, 1) := by decide +kernel
theorem dX5_update_46 : decode cX5_update 46 = .ok (.iconst 0, 1) := by decide +kernel
theorem dX5_update_47 : decode cX5_update 47 = .ok (.aload_n 0, 1) := by decide +kernel
theorem dX5_update_48 : decode cX5_update 48 = .ok (.getfield 143, 3) := by decide +kernel
theorem dX5_update_51 : decode cX5_update 51 = .ok (.invokevirtual 153, 3) := by decide +kernel
theorem dX5_update_54 : decode cX5_update 54 = .ok (.aload_n 0, 1) := by decide +kernel
theorem dX5_update_55 : decode cX5_update 55 = .ok (.iconst 0, 1) := by decide +kernel
theorem dX5_update_56 : decode cX5_update 56 = .ok (.putfield 143, 3) := by decide +kernel
theorem dX5_update_59 : decode cX5_update 59 = .ok (.aload_n 0, 1) := by decide +kernel
theorem dX5_update_60 : decode cX5_update 60 = .ok (.iload_n 1, 1) := by decide +kernel
theorem dX5_update_61 : decode cX5_update 61 = .ok (.invokevirtual 163, 3) := by decide +kernel
theorem dX5_update_64 : decode cX5_update 64 = .ok (.ireturn, 1) := by decide +kernel
theorem dX5_delete_0 : decode cX5_delete 0 = .ok (.aload_n 0, 1) := by decide +kernel
theorem dX5_delete_1 : decode cX5_delete 1 = .ok (.aload_n 0, 1) := by decide +kernel
theorem dX5_delete_2 : decode cX5_delete 2 = .ok (.iload_n 1, 1) := by decide +kernel
theorem dX5_delete_3 : decode cX5_delete 3 = .ok (.invokevirtual 160, 3) := by decide +kernel
theorem dX5_delete_6 : decode cX5_delete 6 = .ok (.ifCond .eq 7, 3) := by decide +kernel
theorem dX5_delete_9 : decode cX5_delete 9 = .ok (.iconst 0, 1) := by decide +kernel
theorem dX5_delete_10 : decode cX5_delete 10 = .ok (.goto 4, 3) := by decide +kernel
theorem dX5_delete_13 : decode cX5_delete 13 = .ok (.iconst 1, 1) := by decide +kernel
theorem dX5_delete_14 : decode cX5_delete 14 = .ok (.invokevirtual 146, 3) := by decide +kernel
theorem dX5_delete_17 : decode cX5_delete 17 = .ok (.ifCond .ne 5, 3) := by decide +kernel
theorem dX5_delete_20 : decode cX5_delete 20 = .ok (.iconst 0, 1) := by decide +kernel
theorem dX5_delete_21 : decode cX5_delete 21 = .ok (.ireturn, 1) := by decide +kernel
theorem dX5_delete_22 : decode cX5_delete 22 = .ok (.aload_n 0, 1) := by decide +kernel
theorem dX5_delete_23 : decode cX5_delete 23 = .ok (.invokevirtual 150, 3) := by decide +kernel
theorem dX5_delete_26 : decode cX5_delete 26 = .ok (.aload_n 0, 1) := by decide +kernel
theorem dX5_delete_27 : decode cX5_delete 27 = .ok (.iload_n 1, 1) := by decide +kernel
theorem dX5_delete_28 : decode cX5_delete 28 = .ok (.invokevirtual 166, 3) := by decide +kernel
theorem dX5_delete_31 : decode cX5_delete 31 = .ok (.ireturn, 1) := by decide +kernel
theorem dX5_bringHome_0 : decode cX5_bringHome 0 = .ok (.aload_n 0, 1) := by decide +kernel
theorem dX5_bringHome_1 : decode cX5_bringHome 1 = .ok (.iconst 0, 1) := by decide +kernel
theorem dX5_bringHome_2 : decode cX5_bringHome 2 = .ok (.putfield 22, 3) := by decide +kernel
theorem dX5_bringHome_5 : decode cX5_bringHome 5 = .ok (.aload_n 0, 1) := by decide +kernel
theorem dX5_bringHome_6 : decode cX5_bringHome 6 = .ok (.invokevirtual 150, 3) := by decide +kernel
theorem dX5_bringHome_9 : decode cX5_bringHome 9 = .ok (.aload_n 0, 1) := by decide +kernel
theorem dX5_bringHome_10 : decode cX5_bringHome 10 = .ok (.invokevirtual 169, 3) := by decide +kernel
theorem dX5_bringHome_13 : decode cX5_bringHome 13 = .ok (.ireturn, 1) := by decide +kernel
theorem dX5_isPage_0 : decode cX5_isPage 0 = .ok (.iload_n 1, 1) := by decide +kernel
theorem dX5_isPage_1 : decode cX5_isPage 1 = .ok (.iconst 0, 1) := by decide +kernel
theorem dX5_isPage_2 : decode cX5_isPage 2 = .ok (.aload_n 0, 1) := by decide +kernel
theorem dX5_isPage_3 : decode cX5_isPage 3 = .ok (.getfield 7, 3) := by decide +kernel
theorem dX5_isPage_6 : decode cX5_isPage 6 = .ok (.iconst 0, 1) := by decide +kernel
theorem dX5_isPage_7 : decode cX5_isPage 7 = .ok (.iaload, 1) := by decide +kernel
theorem dX5_isPage_8 : decode cX5_isPage 8 = .ok (.iconst 1, 1) := by decide +kernel
theorem dX5_isPage_9 : decode cX5_isPage 9 = .ok (.isub, 1) := by decide +kernel
theorem dX5_isPage_10 : decode cX5_isPage 10 = .ok (.invokestatic 78, 3) := by decide +kernel
theorem dX5_isPage_13 : decode cX5_isPage 13 = .ok (.ireturn, 1) := by decide +kernel
theorem dX5_compact_0 : decode cX5_compact 0 = .ok (.aload_n 0, 1) := by decide +kernel
theorem dX5_compact_1 : decode cX5_compact 1 = .ok (.aload_n 0, 1) := by decide +kernel
theorem dX5_compact_2 : decode cX5_compact 2 = .ok (.iload_n 1, 1) := by decide +kernel
theorem dX5_compact_3 : decode cX5_compact 3 = .ok (.invokevirtual 172, 3) := by decide +kernel
theorem dX5_compact_6 : decode cX5_compact 6 = .ok (.ifCond .eq 7, 3) := by decide +kernel
theorem dX5_compact_9 : decode cX5_compact 9 = .ok (.iconst 0, 1) := by decide +kernel
theorem dX5_compact_10 : decode cX5_compact 10 = .ok (.goto 4, 3) := by decide +kernel
theorem dX5_compact_13 : decode cX5_compact 13 = .ok (.iconst 1, 1) := by decide +kernel
theorem dX5_compact_14 : decode cX5_compact 14 = .ok (.invokevirtual 146, 3) := by decide +kernel
theorem dX5_compact_17 : decode cX5_compact 17 = .ok (.ifCond .ne 5, 3) := by decide +kernel
theorem dX5_compact_20 : decode cX5_compact 20 = .ok (.iconst 0, 1) := by decide +kernel
theorem dX5_compact_21 : decode cX5_compact 21 = .ok (.ireturn, 1) := by decide +kernel
theorem dX5_compact_22 : decode cX5_compact 22 = .ok (.aload_n 0, 1) := by decide +kernel
theorem dX5_compact_23 : decode cX5_compact 23 = .ok (.invokevirtual 150, 3) := by decide +kernel
theorem dX5_compact_26 : decode cX5_compact 26 = .ok (.aload_n 0, 1) := by decide +kernel
theorem dX5_compact_27 : decode cX5_compact 27 = .ok (.iload_n 1, 1) := by decide +kernel
theorem dX5_compact_28 : decode cX5_compact 28 = .ok (.invokevirtual 65, 3) := by decide +kernel
theorem dX5_compact_31 : decode cX5_compact 31 = .ok (.ireturn, 1) := by decide +kernel
theorem dX5_counted_0 : decode cX5_counted 0 = .ok (.iconst 0, 1) := by decide +kernel
theorem dX5_counted_1 : decode cX5_counted 1 = .ok (.istore_n 3, 1) := by decide +kernel
theorem dX5_counted_2 : decode cX5_counted 2 = .ok (.iconst 0, 1) := by decide +kernel
theorem dX5_counted_3 : decode cX5_counted 3 = .ok (.istore 4, 2) := by decide +kernel
theorem dX5_counted_5 : decode cX5_counted 5 = .ok (.iload 4, 2) := by decide +kernel
theorem dX5_counted_7 : decode cX5_counted 7 = .ok (.bipush 100, 2) := by decide +kernel
theorem dX5_counted_9 : decode cX5_counted 9 = .ok (.aload_n 0, 1) := by decide +kernel
theorem dX5_counted_10 : decode cX5_counted 10 = .ok (.getfield 7, 3) := by decide +kernel
theorem dX5_counted_13 : decode cX5_counted 13 = .ok (.iconst 0, 1) := by decide +kernel
theorem dX5_counted_14 : decode cX5_counted 14 = .ok (.iaload, 1) := by decide +kernel
theorem dX5_counted_15 : decode cX5_counted 15 = .ok (.imul, 1) := by decide +kernel
theorem dX5_counted_16 : decode cX5_counted 16 = .ok (.if_icmp .ge 37, 3) := by decide +kernel
theorem dX5_counted_19 : decode cX5_counted 19 = .ok (.iload_n 3, 1) := by decide +kernel
theorem dX5_counted_20 : decode cX5_counted 20 = .ok (.aload_n 0, 1) := by decide +kernel
theorem dX5_counted_21 : decode cX5_counted 21 = .ok (.iload 4, 2) := by decide +kernel
theorem dX5_counted_23 : decode cX5_counted 23 = .ok (.invokevirtual 75, 3) := by decide +kernel
theorem dX5_counted_26 : decode cX5_counted 26 = .ok (.iload_n 1, 1) := by decide +kernel
theorem dX5_counted_27 : decode cX5_counted 27 = .ok (.if_icmp .eq 13, 3) := by decide +kernel
theorem dX5_counted_30 : decode cX5_counted 30 = .ok (.aload_n 0, 1) := by decide +kernel
theorem dX5_counted_31 : decode cX5_counted 31 = .ok (.iload 4, 2) := by decide +kernel
theorem dX5_counted_33 : decode cX5_counted 33 = .ok (.invokevirtual 75, 3) := by decide +kernel
theorem dX5_counted_36 : decode cX5_counted 36 = .ok (.iload_n 2, 1) := by decide +kernel
theorem dX5_counted_37 : decode cX5_counted 37 = .ok (.if_icmp .ne 7, 3) := by decide +kernel
theorem dX5_counted_40 : decode cX5_counted 40 = .ok (.iconst 1, 1) := by decide +kernel
theorem dX5_counted_41 : decode cX5_counted 41 = .ok (.goto 4, 3) := by decide +kernel
theorem dX5_counted_44 : decode cX5_counted 44 = .ok (.iconst 0, 1) := by decide +kernel
theorem dX5_counted_45 : decode cX5_counted 45 = .ok (.iadd, 1) := by decide +kernel
theorem dX5_counted_46 : decode cX5_counted 46 = .ok (.istore_n 3, 1) := by decide +kernel
theorem dX5_counted_47 : decode cX5_counted 47 = .ok (.iinc 4 1, 3) := by decide +kernel
theorem dX5_counted_50 : decode cX5_counted 50 = .ok (.goto (-45), 3) := by decide +kernel
theorem dX5_counted_53 : decode cX5_counted 53 = .ok (.iload_n 3, 1) := by decide +kernel
theorem dX5_counted_54 : decode cX5_counted 54 = .ok (.ireturn, 1) := by decide +kernel
theorem dX5_rows_0 : decode cX5_rows 0 = .ok (.aload_n 0, 1) := by decide +kernel
theorem dX5_rows_1 : decode cX5_rows 1 = .ok (.iconst 0, 1) := by decide +kernel
theorem dX5_rows_2 : decode cX5_rows 2 = .ok (.putfield 22, 3) := by decide +kernel
theorem dX5_rows_5 : decode cX5_rows 5 = .ok (.aload_n 0, 1) := by decide +kernel
theorem dX5_rows_6 : decode cX5_rows 6 = .ok (.iconst 1, 1) := by decide +kernel
theorem dX5_rows_7 : decode cX5_rows 7 = .ok (.iconst 2, 1) := by decide +kernel
theorem dX5_rows_8 : decode cX5_rows 8 = .ok (.invokevirtual 175, 3) := by decide +kernel
theorem dX5_rows_11 : decode cX5_rows 11 = .ok (.ireturn, 1) := by decide +kernel
theorem dX5_isRow_0 : decode cX5_isRow 0 = .ok (.aload_n 0, 1) := by decide +kernel
theorem dX5_isRow_1 : decode cX5_isRow 1 = .ok (.iconst 0, 1) := by decide +kernel
theorem dX5_isRow_2 : decode cX5_isRow 2 = .ok (.putfield 22, 3) := by decide +kernel
theorem dX5_isRow_5 : decode cX5_isRow 5 = .ok (.aload_n 0, 1) := by decide +kernel
theorem dX5_isRow_6 : decode cX5_isRow 6 = .ok (.iload_n 1, 1) := by decide +kernel
theorem dX5_isRow_7 : decode cX5_isRow 7 = .ok (.invokevirtual 160, 3) := by decide +kernel
theorem dX5_isRow_10 : decode cX5_isRow 10 = .ok (.ireturn, 1) := by decide +kernel
theorem dX5_length_0 : decode cX5_length 0 = .ok (.aload_n 0, 1) := by decide +kernel
theorem dX5_length_1 : decode cX5_length 1 = .ok (.aload_n 0, 1) := by decide +kernel
theorem dX5_length_2 : decode cX5_length 2 = .ok (.iload_n 1, 1) := by decide +kernel
theorem dX5_length_3 : decode cX5_length 3 = .ok (.invokevirtual 160, 3) := by decide +kernel
theorem dX5_length_6 : decode cX5_length 6 = .ok (.ifCond .eq 7, 3) := by decide +kernel
theorem dX5_length_9 : decode cX5_length 9 = .ok (.iconst 0, 1) := by decide +kernel
theorem dX5_length_10 : decode cX5_length 10 = .ok (.goto 4, 3) := by decide +kernel
theorem dX5_length_13 : decode cX5_length 13 = .ok (.iconst 1, 1) := by decide +kernel
theorem dX5_length_14 : decode cX5_length 14 = .ok (.invokevirtual 146, 3) := by decide +kernel
theorem dX5_length_17 : decode cX5_length 17 = .ok (.ifCond .eq 11, 3) := by decide +kernel
theorem dX5_length_20 : decode cX5_length 20 = .ok (.aload_n 0, 1) := by decide +kernel
theorem dX5_length_21 : decode cX5_length 21 = .ok (.iload_n 1, 1) := by decide +kernel
theorem dX5_length_22 : decode cX5_length 22 = .ok (.invokevirtual 128, 3) := by decide +kernel
theorem dX5_length_25 : decode cX5_length 25 = .ok (.goto 4, 3) := by decide +kernel
theorem dX5_length_28 : decode cX5_length 28 = .ok (.iconst 0, 1) := by decide +kernel
theorem dX5_length_29 : decode cX5_length 29 = .ok (.ireturn, 1) := by decide +kernel
theorem dX5_byteOf_0 : decode cX5_byteOf 0 = .ok (.aload_n 0, 1) := by decide +kernel
theorem dX5_byteOf_1 : decode cX5_byteOf 1 = .ok (.iload_n 1, 1) := by decide +kernel
theorem dX5_byteOf_2 : decode cX5_byteOf 2 = .ok (.invokevirtual 160, 3) := by decide +kernel
theorem dX5_byteOf_5 : decode cX5_byteOf 5 = .ok (.istore_n 3, 1) := by decide +kernel
theorem dX5_byteOf_6 : decode cX5_byteOf 6 = .ok (.aload_n 0, 1) := by decide +kernel
theorem dX5_byteOf_7 : decode cX5_byteOf 7 = .ok (.iload_n 3, 1) := by decide +kernel
theorem dX5_byteOf_8 : decode cX5_byteOf 8 = .ok (.ifCond .eq 22, 3) := by decide +kernel
theorem dX5_byteOf_11 : decode cX5_byteOf 11 = .ok (.iload_n 2, 1) := by decide +kernel
theorem dX5_byteOf_12 : decode cX5_byteOf 12 = .ok (.iconst 0, 1) := by decide +kernel
theorem dX5_byteOf_13 : decode cX5_byteOf 13 = .ok (.aload_n 0, 1) := by decide +kernel
theorem dX5_byteOf_14 : decode cX5_byteOf 14 = .ok (.iload_n 1, 1) := by decide +kernel
theorem dX5_byteOf_15 : decode cX5_byteOf 15 = .ok (.invokevirtual 128, 3) := by decide +kernel
theorem dX5_byteOf_18 : decode cX5_byteOf 18 = .ok (.iconst 1, 1) := by decide +kernel
theorem dX5_byteOf_19 : decode cX5_byteOf 19 = .ok (.isub, 1) := by decide +kernel
theorem dX5_byteOf_20 : decode cX5_byteOf 20 = .ok (.invokestatic 78, 3) := by decide +kernel
theorem dX5_byteOf_23 : decode cX5_byteOf 23 = .ok (.ifCond .eq 7, 3) := by decide +kernel
theorem dX5_byteOf_26 : decode cX5_byteOf 26 = .ok (.iconst 0, 1) := by decide +kernel
theorem dX5_byteOf_27 : decode cX5_byteOf 27 = .ok (.goto 4, 3) := by decide +kernel
theorem dX5_byteOf_30 : decode cX5_byteOf 30 = .ok (.iconst 1, 1) := by decide +kernel
theorem dX5_byteOf_31 : decode cX5_byteOf 31 = .ok (.invokevirtual 146, 3) := by decide +kernel
theorem dX5_byteOf_34 : decode cX5_byteOf 34 = .ok (.ifCond .eq 12, 3) := by decide +kernel
theorem dX5_byteOf_37 : decode cX5_byteOf 37 = .ok (.aload_n 0, 1) := by decide +kernel
theorem dX5_byteOf_38 : decode cX5_byteOf 38 = .ok (.iload_n 1, 1) := by decide +kernel
theorem dX5_byteOf_39 : decode cX5_byteOf 39 = .ok (.iload_n 2, 1) := by decide +kernel
theorem dX5_byteOf_40 : decode cX5_byteOf 40 = .ok (.invokevirtual 134, 3) := by decide +kernel
theorem dX5_byteOf_43 : decode cX5_byteOf 43 = .ok (.goto 4, 3) := by decide +kernel
theorem dX5_byteOf_46 : decode cX5_byteOf 46 = .ok (.iconst 0, 1) := by decide +kernel
theorem dX5_byteOf_47 : decode cX5_byteOf 47 = .ok (.ireturn, 1) := by decide +kernel
theorem dX5_placeOf_0 : decode cX5_placeOf 0 = .ok (.aload_n 0, 1) := by decide +kernel
theorem dX5_placeOf_1 : decode cX5_placeOf 1 = .ok (.aload_n 0, 1) := by decide +kernel
theorem dX5_placeOf_2 : decode cX5_placeOf 2 = .ok (.iload_n 1, 1) := by decide +kernel
theorem dX5_placeOf_3 : decode cX5_placeOf 3 = .ok (.invokevirtual 160, 3) := by decide +kernel
theorem dX5_placeOf_6 : decode cX5_placeOf 6 = .ok (.ifCond .eq 7, 3) := by decide +kernel
theorem dX5_placeOf_9 : decode cX5_placeOf 9 = .ok (.iconst 0, 1) := by decide +kernel
theorem dX5_placeOf_10 : decode cX5_placeOf 10 = .ok (.goto 4, 3) := by decide +kernel
theorem dX5_placeOf_13 : decode cX5_placeOf 13 = .ok (.iconst 1, 1) := by decide +kernel
theorem dX5_placeOf_14 : decode cX5_placeOf 14 = .ok (.invokevirtual 146, 3) := by decide +kernel
theorem dX5_placeOf_17 : decode cX5_placeOf 17 = .ok (.ifCond .eq 11, 3) := by decide +kernel
theorem dX5_placeOf_20 : decode cX5_placeOf 20 = .ok (.aload_n 0, 1) := by decide +kernel
theorem dX5_placeOf_21 : decode cX5_placeOf 21 = .ok (.iload_n 1, 1) := by decide +kernel
theorem dX5_placeOf_22 : decode cX5_placeOf 22 = .ok (.invokevirtual 82, 3) := by decide +kernel
theorem dX5_placeOf_25 : decode cX5_placeOf 25 = .ok (.goto 4, 3) := by decide +kernel
theorem dX5_placeOf_28 : decode cX5_placeOf 28 = .ok (.iconst 0, 1) := by decide +kernel
theorem dX5_placeOf_29 : decode cX5_placeOf 29 = .ok (.ireturn, 1) := by decide +kernel
theorem dX5_next_0 : decode cX5_next 0 = .ok (.aload_n 0, 1) := by decide +kernel
theorem dX5_next_1 : decode cX5_next 1 = .ok (.iconst 0, 1) := by decide +kernel
theorem dX5_next_2 : decode cX5_next 2 = .ok (.putfield 22, 3) := by decide +kernel
theorem dX5_next_5 : decode cX5_next 5 = .ok (.iload_n 1, 1) := by decide +kernel
theorem dX5_next_6 : decode cX5_next 6 = .ok (.ifCond .ge 7, 3) := by decide +kernel
theorem dX5_next_9 : decode cX5_next 9 = .ok (.iconst 0, 1) := by decide +kernel
theorem dX5_next_10 : decode cX5_next 10 = .ok (.goto 4, 3) := by decide +kernel
theorem dX5_next_13 : decode cX5_next 13 = .ok (.iload_n 1, 1) := by decide +kernel
theorem dX5_next_14 : decode cX5_next 14 = .ok (.istore_n 2, 1) := by decide +kernel
theorem dX5_next_15 : decode cX5_next 15 = .ok (.iload_n 2, 1) := by decide +kernel
theorem dX5_next_16 : decode cX5_next 16 = .ok (.bipush 100, 2) := by decide +kernel
theorem dX5_next_18 : decode cX5_next 18 = .ok (.aload_n 0, 1) := by decide +kernel
theorem dX5_next_19 : decode cX5_next 19 = .ok (.getfield 7, 3) := by decide +kernel
theorem dX5_next_22 : decode cX5_next 22 = .ok (.iconst 0, 1) := by decide +kernel
theorem dX5_next_23 : decode cX5_next 23 = .ok (.iaload, 1) := by decide +kernel
theorem dX5_next_24 : decode cX5_next 24 = .ok (.imul, 1) := by decide +kernel
theorem dX5_next_25 : decode cX5_next 25 = .ok (.if_icmp .ge 44, 3) := by decide +kernel
theorem dX5_next_28 : decode cX5_next 28 = .ok (.iload_n 2, 1) := by decide +kernel
theorem dX5_next_29 : decode cX5_next 29 = .ok (.iload_n 1, 1) := by decide +kernel
theorem dX5_next_30 : decode cX5_next 30 = .ok (.if_icmp .le 25, 3) := by decide +kernel
theorem dX5_next_33 : decode cX5_next 33 = .ok (.aload_n 0, 1) := by decide +kernel
theorem dX5_next_34 : decode cX5_next 34 = .ok (.iload_n 2, 1) := by decide +kernel
theorem dX5_next_35 : decode cX5_next 35 = .ok (.invokevirtual 75, 3) := by decide +kernel
theorem dX5_next_38 : decode cX5_next 38 = .ok (.iconst 1, 1) := by decide +kernel
theorem dX5_next_39 : decode cX5_next 39 = .ok (.if_icmp .eq 12, 3) := by decide +kernel
theorem dX5_next_42 : decode cX5_next 42 = .ok (.aload_n 0, 1) := by decide +kernel
theorem dX5_next_43 : decode cX5_next 43 = .ok (.iload_n 2, 1) := by decide +kernel
theorem dX5_next_44 : decode cX5_next 44 = .ok (.invokevirtual 75, 3) := by decide +kernel
theorem dX5_next_47 : decode cX5_next 47 = .ok (.iconst 3, 1) := by decide +kernel
theorem dX5_next_48 : decode cX5_next 48 = .ok (.if_icmp .ne 7, 3) := by decide +kernel
theorem dX5_next_51 : decode cX5_next 51 = .ok (.iconst 1, 1) := by decide +kernel
theorem dX5_next_52 : decode cX5_next 52 = .ok (.goto 4, 3) := by decide +kernel
theorem dX5_next_55 : decode cX5_next 55 = .ok (.iconst 0, 1) := by decide +kernel
theorem dX5_next_56 : decode cX5_next 56 = .ok (.istore_n 3, 1) := by decide +kernel
theorem dX5_next_57 : decode cX5_next 57 = .ok (.iload_n 3, 1) := by decide +kernel
theorem dX5_next_58 : decode cX5_next 58 = .ok (.ifCond .eq 5, 3) := by decide +kernel
theorem dX5_next_61 : decode cX5_next 61 = .ok (.iload_n 2, 1) := by decide +kernel
theorem dX5_next_62 : decode cX5_next 62 = .ok (.ireturn, 1) := by decide +kernel
theorem dX5_next_63 : decode cX5_next 63 = .ok (.iinc 2 1, 3) := by decide +kernel
theorem dX5_next_66 : decode cX5_next 66 = .ok (.goto (-51), 3) := by decide +kernel
theorem dX5_next_69 : decode cX5_next 69 = .ok (.iconst (-1), 1) := by decide +kernel
theorem dX5_next_70 : decode cX5_next 70 = .ok (.ireturn, 1) := by decide +kernel
theorem dX5_rowAt_0 : decode cX5_rowAt 0 = .ok (.aload_n 0, 1) := by decide +kernel
theorem dX5_rowAt_1 : decode cX5_rowAt 1 = .ok (.iconst 0, 1) := by decide +kernel
theorem dX5_rowAt_2 : decode cX5_rowAt 2 = .ok (.putfield 22, 3) := by decide +kernel
theorem dX5_rowAt_5 : decode cX5_rowAt 5 = .ok (.aload_n 0, 1) := by decide +kernel
theorem dX5_rowAt_6 : decode cX5_rowAt 6 = .ok (.iload_n 1, 1) := by decide +kernel
theorem dX5_rowAt_7 : decode cX5_rowAt 7 = .ok (.invokevirtual 75, 3) := by decide +kernel
theorem dX5_rowAt_10 : decode cX5_rowAt 10 = .ok (.istore_n 2, 1) := by decide +kernel
theorem dX5_rowAt_11 : decode cX5_rowAt 11 = .ok (.iload_n 2, 1) := by decide +kernel
theorem dX5_rowAt_12 : decode cX5_rowAt 12 = .ok (.iconst 1, 1) := by decide +kernel
theorem dX5_rowAt_13 : decode cX5_rowAt 13 = .ok (.if_icmp .ne 5, 3) := by decide +kernel
theorem dX5_rowAt_16 : decode cX5_rowAt 16 = .ok (.iload_n 1, 1) := by decide +kernel
theorem dX5_rowAt_17 : decode cX5_rowAt 17 = .ok (.ireturn, 1) := by decide +kernel
theorem dX5_rowAt_18 : decode cX5_rowAt 18 = .ok (.iload_n 2, 1) := by decide +kernel
theorem dX5_rowAt_19 : decode cX5_rowAt 19 = .ok (.iconst 3, 1) := by decide +kernel
theorem dX5_rowAt_20 : decode cX5_rowAt 20 = .ok (.if_icmp .ne 36, 3) := by decide +kernel
theorem dX5_rowAt_23 : decode cX5_rowAt 23 = .ok (.bipush 100, 2) := by decide +kernel
theorem dX5_rowAt_25 : decode cX5_rowAt 25 = .ok (.aload_n 0, 1) := by decide +kernel
theorem dX5_rowAt_26 : decode cX5_rowAt 26 = .ok (.iload_n 1, 1) := by decide +kernel
theorem dX5_rowAt_27 : decode cX5_rowAt 27 = .ok (.bipush 100, 2) := by decide +kernel
theorem dX5_rowAt_29 : decode cX5_rowAt 29 = .ok (.idiv, 1) := by decide +kernel
theorem dX5_rowAt_30 : decode cX5_rowAt 30 = .ok (.iload_n 1, 1) := by decide +kernel
theorem dX5_rowAt_31 : decode cX5_rowAt 31 = .ok (.bipush 100, 2) := by decide +kernel
theorem dX5_rowAt_33 : decode cX5_rowAt 33 = .ok (.irem, 1) := by decide +kernel
theorem dX5_rowAt_34 : decode cX5_rowAt 34 = .ok (.iconst 1, 1) := by decide +kernel
theorem dX5_rowAt_35 : decode cX5_rowAt 35 = .ok (.invokevirtual 58, 3) := by decide +kernel
theorem dX5_rowAt_38 : decode cX5_rowAt 38 = .ok (.imul, 1) := by decide +kernel
theorem dX5_rowAt_39 : decode cX5_rowAt 39 = .ok (.aload_n 0, 1) := by decide +kernel
theorem dX5_rowAt_40 : decode cX5_rowAt 40 = .ok (.iload_n 1, 1) := by decide +kernel
theorem dX5_rowAt_41 : decode cX5_rowAt 41 = .ok (.bipush 100, 2) := by decide +kernel
theorem dX5_rowAt_43 : decode cX5_rowAt 43 = .ok (.idiv, 1) := by decide +kernel
theorem dX5_rowAt_44 : decode cX5_rowAt 44 = .ok (.iload_n 1, 1) := by decide +kernel
theorem dX5_rowAt_45 : decode cX5_rowAt 45 = .ok (.bipush 100, 2) := by decide +kernel
theorem dX5_rowAt_47 : decode cX5_rowAt 47 = .ok (.irem, 1) := by decide +kernel
theorem dX5_rowAt_48 : decode cX5_rowAt 48 = .ok (.iconst 2, 1) := by decide +kernel
theorem dX5_rowAt_49 : decode cX5_rowAt 49 = .ok (.invokevirtual 58, 3) := by decide +kernel
theorem dX5_rowAt_52 : decode cX5_rowAt 52 = .ok (.iadd, 1) := by decide +kernel
theorem dX5_rowAt_53 : decode cX5_rowAt 53 = .ok (.goto 4, 3) := by decide +kernel
theorem dX5_rowAt_56 : decode cX5_rowAt 56 = .ok (.iconst (-1), 1) := by decide +kernel
theorem dX5_rowAt_57 : decode cX5_rowAt 57 = .ok (.ireturn, 1) := by decide +kernel
theorem dX5_pages_0 : decode cX5_pages 0 = .ok (.aload_n 0, 1) := by decide +kernel
theorem dX5_pages_1 : decode cX5_pages 1 = .ok (.iconst 0, 1) := by decide +kernel
theorem dX5_pages_2 : decode cX5_pages 2 = .ok (.putfield 22, 3) := by decide +kernel
theorem dX5_pages_5 : decode cX5_pages 5 = .ok (.aload_n 0, 1) := by decide +kernel
theorem dX5_pages_6 : decode cX5_pages 6 = .ok (.getfield 7, 3) := by decide +kernel
theorem dX5_pages_9 : decode cX5_pages 9 = .ok (.iconst 0, 1) := by decide +kernel
theorem dX5_pages_10 : decode cX5_pages 10 = .ok (.iaload, 1) := by decide +kernel
theorem dX5_pages_11 : decode cX5_pages 11 = .ok (.ireturn, 1) := by decide +kernel
theorem dX5_pageByte_0 : decode cX5_pageByte 0 = .ok (.aload_n 0, 1) := by decide +kernel
theorem dX5_pageByte_1 : decode cX5_pageByte 1 = .ok (.aload_n 0, 1) := by decide +kernel
theorem dX5_pageByte_2 : decode cX5_pageByte 2 = .ok (.iload_n 1, 1) := by decide +kernel
theorem dX5_pageByte_3 : decode cX5_pageByte 3 = .ok (.invokevirtual 172, 3) := by decide +kernel
theorem dX5_pageByte_6 : decode cX5_pageByte 6 = .ok (.ifCond .eq 17, 3) := by decide +kernel
theorem dX5_pageByte_9 : decode cX5_pageByte 9 = .ok (.iload_n 2, 1) := by decide +kernel
theorem dX5_pageByte_10 : decode cX5_pageByte 10 = .ok (.iconst 0, 1) := by decide +kernel
theorem dX5_pageByte_11 : decode cX5_pageByte 11 = .ok (.bipush 127, 2) := by decide +kernel
theorem dX5_pageByte_13 : decode cX5_pageByte 13 = .ok (.invokestatic 78, 3) := by decide +kernel
theorem dX5_pageByte_16 : decode cX5_pageByte 16 = .ok (.ifCond .eq 7, 3) := by decide +kernel
theorem dX5_pageByte_19 : decode cX5_pageByte 19 = .ok (.iconst 0, 1) := by decide +kernel
theorem dX5_pageByte_20 : decode cX5_pageByte 20 = .ok (.goto 4, 3) := by decide +kernel
theorem dX5_pageByte_23 : decode cX5_pageByte 23 = .ok (.iconst 1, 1) := by decide +kernel
theorem dX5_pageByte_24 : decode cX5_pageByte 24 = .ok (.invokevirtual 146, 3) := by decide +kernel
theorem dX5_pageByte_27 : decode cX5_pageByte 27 = .ok (.ifCond .eq 12, 3) := by decide +kernel
theorem dX5_pageByte_30 : decode cX5_pageByte 30 = .ok (.aload_n 0, 1) := by decide +kernel
theorem dX5_pageByte_31 : decode cX5_pageByte 31 = .ok (.iload_n 1, 1) := by decide +kernel
theorem dX5_pageByte_32 : decode cX5_pageByte 32 = .ok (.iload_n 2, 1) := by decide +kernel
theorem dX5_pageByte_33 : decode cX5_pageByte 33 = .ok (.invokevirtual 178, 3) := by decide +kernel
theorem dX5_pageByte_36 : decode cX5_pageByte 36 = .ok (.goto 4, 3) := by decide +kernel
theorem dX5_pageByte_39 : decode cX5_pageByte 39 = .ok (.iconst 0, 1) := by decide +kernel
theorem dX5_pageByte_40 : decode cX5_pageByte 40 = .ok (.ireturn, 1) := by decide +kernel
theorem dX5_free_0 : decode cX5_free 0 = .ok (.aload_n 0, 1) := by decide +kernel
theorem dX5_free_1 : decode cX5_free 1 = .ok (.aload_n 0, 1) := by decide +kernel
theorem dX5_free_2 : decode cX5_free 2 = .ok (.iload_n 1, 1) := by decide +kernel
theorem dX5_free_3 : decode cX5_free 3 = .ok (.invokevirtual 172, 3) := by decide +kernel
theorem dX5_free_6 : decode cX5_free 6 = .ok (.ifCond .eq 7, 3) := by decide +kernel
theorem dX5_free_9 : decode cX5_free 9 = .ok (.iconst 0, 1) := by decide +kernel
theorem dX5_free_10 : decode cX5_free 10 = .ok (.goto 4, 3) := by decide +kernel
theorem dX5_free_13 : decode cX5_free 13 = .ok (.iconst 1, 1) := by decide +kernel
theorem dX5_free_14 : decode cX5_free 14 = .ok (.invokevirtual 146, 3) := by decide +kernel
theorem dX5_free_17 : decode cX5_free 17 = .ok (.ifCond .eq 11, 3) := by decide +kernel
theorem dX5_free_20 : decode cX5_free 20 = .ok (.aload_n 0, 1) := by decide +kernel
theorem dX5_free_21 : decode cX5_free 21 = .ok (.iload_n 1, 1) := by decide +kernel
theorem dX5_free_22 : decode cX5_free 22 = .ok (.invokevirtual 47, 3) := by decide +kernel
theorem dX5_free_25 : decode cX5_free 25 = .ok (.goto 4, 3) := by decide +kernel
theorem dX5_free_28 : decode cX5_free 28 = .ok (.iconst 0, 1) := by decide +kernel
theorem dX5_free_29 : decode cX5_free 29 = .ok (.ireturn, 1) := by decide +kernel
theorem dX5_gap_0 : decode cX5_gap 0 = .ok (.aload_n 0, 1) := by decide +kernel
theorem dX5_gap_1 : decode cX5_gap 1 = .ok (.aload_n 0, 1) := by decide +kernel
theorem dX5_gap_2 : decode cX5_gap 2 = .ok (.iload_n 1, 1) := by decide +kernel
theorem dX5_gap_3 : decode cX5_gap 3 = .ok (.invokevirtual 172, 3) := by decide +kernel
theorem dX5_gap_6 : decode cX5_gap 6 = .ok (.ifCond .eq 7, 3) := by decide +kernel
theorem dX5_gap_9 : decode cX5_gap 9 = .ok (.iconst 0, 1) := by decide +kernel
theorem dX5_gap_10 : decode cX5_gap 10 = .ok (.goto 4, 3) := by decide +kernel
theorem dX5_gap_13 : decode cX5_gap 13 = .ok (.iconst 1, 1) := by decide +kernel
theorem dX5_gap_14 : decode cX5_gap 14 = .ok (.invokevirtual 146, 3) := by decide +kernel
theorem dX5_gap_17 : decode cX5_gap 17 = .ok (.ifCond .eq 11, 3) := by decide +kernel
theorem dX5_gap_20 : decode cX5_gap 20 = .ok (.aload_n 0, 1) := by decide +kernel
theorem dX5_gap_21 : decode cX5_gap 21 = .ok (.iload_n 1, 1) := by decide +kernel
theorem dX5_gap_22 : decode cX5_gap 22 = .ok (.invokevirtual 62, 3) := by decide +kernel
theorem dX5_gap_25 : decode cX5_gap 25 = .ok (.goto 4, 3) := by decide +kernel
theorem dX5_gap_28 : decode cX5_gap 28 = .ok (.iconst 0, 1) := by decide +kernel
theorem dX5_gap_29 : decode cX5_gap 29 = .ok (.ireturn, 1) := by decide +kernel
theorem dX5_kind_0 : decode cX5_kind 0 = .ok (.aload_n 0, 1) := by decide +kernel
theorem dX5_kind_1 : decode cX5_kind 1 = .ok (.iconst 0, 1) := by decide +kernel
theorem dX5_kind_2 : decode cX5_kind 2 = .ok (.putfield 22, 3) := by decide +kernel
theorem dX5_kind_5 : decode cX5_kind 5 = .ok (.aload_n 0, 1) := by decide +kernel
theorem dX5_kind_6 : decode cX5_kind 6 = .ok (.iload_n 1, 1) := by decide +kernel
theorem dX5_kind_7 : decode cX5_kind 7 = .ok (.invokevirtual 75, 3) := by decide +kernel
theorem dX5_kind_10 : decode cX5_kind 10 = .ok (.ireturn, 1) := by decide +kernel
theorem dX5_notes_0 : decode cX5_notes 0 = .ok (.aload_n 0, 1) := by decide +kernel
theorem dX5_notes_1 : decode cX5_notes 1 = .ok (.iconst 0, 1) := by decide +kernel
theorem dX5_notes_2 : decode cX5_notes 2 = .ok (.putfield 22, 3) := by decide +kernel
theorem dX5_notes_5 : decode cX5_notes 5 = .ok (.aload_n 0, 1) := by decide +kernel
theorem dX5_notes_6 : decode cX5_notes 6 = .ok (.iconst 2, 1) := by decide +kernel
theorem dX5_notes_7 : decode cX5_notes 7 = .ok (.iconst 2, 1) := by decide +kernel
theorem dX5_notes_8 : decode cX5_notes 8 = .ok (.invokevirtual 175, 3) := by decide +kernel
theorem dX5_notes_11 : decode cX5_notes 11 = .ok (.ireturn, 1) := by decide +kernel
theorem dX5_moves_0 : decode cX5_moves 0 = .ok (.aload_n 0, 1) := by decide +kernel
theorem dX5_moves_1 : decode cX5_moves 1 = .ok (.iconst 0, 1) := by decide +kernel
theorem dX5_moves_2 : decode cX5_moves 2 = .ok (.putfield 22, 3) := by decide +kernel
theorem dX5_moves_5 : decode cX5_moves 5 = .ok (.aload_n 0, 1) := by decide +kernel
theorem dX5_moves_6 : decode cX5_moves 6 = .ok (.getfield 7, 3) := by decide +kernel
theorem dX5_moves_9 : decode cX5_moves 9 = .ok (.iconst 1, 1) := by decide +kernel
theorem dX5_moves_10 : decode cX5_moves 10 = .ok (.iaload, 1) := by decide +kernel
theorem dX5_moves_11 : decode cX5_moves 11 = .ok (.ireturn, 1) := by decide +kernel
theorem dX5_returns_0 : decode cX5_returns 0 = .ok (.aload_n 0, 1) := by decide +kernel
theorem dX5_returns_1 : decode cX5_returns 1 = .ok (.iconst 0, 1) := by decide +kernel
theorem dX5_returns_2 : decode cX5_returns 2 = .ok (.putfield 22, 3) := by decide +kernel
theorem dX5_returns_5 : decode cX5_returns 5 = .ok (.aload_n 0, 1) := by decide +kernel
theorem dX5_returns_6 : decode cX5_returns 6 = .ok (.getfield 7, 3) := by decide +kernel
theorem dX5_returns_9 : decode cX5_returns 9 = .ok (.iconst 2, 1) := by decide +kernel
theorem dX5_returns_10 : decode cX5_returns 10 = .ok (.iaload, 1) := by decide +kernel
theorem dX5_returns_11 : decode cX5_returns 11 = .ok (.ireturn, 1) := by decide +kernel
theorem dX5_compactions_0 : decode cX5_compactions 0 = .ok (.aload_n 0, 1) := by decide +kernel
theorem dX5_compactions_1 : decode cX5_compactions 1 = .ok (.iconst 0, 1) := by decide +kernel
theorem dX5_compactions_2 : decode cX5_compactions 2 = .ok (.putfield 22, 3) := by decide +kernel
theorem dX5_compactions_5 : decode cX5_compactions 5 = .ok (.aload_n 0, 1) := by decide +kernel
theorem dX5_compactions_6 : decode cX5_compactions 6 = .ok (.getfield 7, 3) := by decide +kernel
theorem dX5_compactions_9 : decode cX5_compactions 9 = .ok (.iconst 3, 1) := by decide +kernel
theorem dX5_compactions_10 : decode cX5_compactions 10 = .ok (.iaload, 1) := by decide +kernel
theorem dX5_compactions_11 : decode cX5_compactions 11 = .ok (.ireturn, 1) := by decide +kernel
theorem dX5_factor_0 : decode cX5_factor 0 = .ok (.iconst 0, 1) := by decide +kernel
theorem dX5_factor_1 : decode cX5_factor 1 = .ok (.istore_n 1, 1) := by decide +kernel
theorem dX5_factor_2 : decode cX5_factor 2 = .ok (.iconst 0, 1) := by decide +kernel
theorem dX5_factor_3 : decode cX5_factor 3 = .ok (.istore_n 2, 1) := by decide +kernel
theorem dX5_factor_4 : decode cX5_factor 4 = .ok (.iload_n 2, 1) := by decide +kernel
theorem dX5_factor_5 : decode cX5_factor 5 = .ok (.aload_n 0, 1) := by decide +kernel
theorem dX5_factor_6 : decode cX5_factor 6 = .ok (.getfield 7, 3) := by decide +kernel
theorem dX5_factor_9 : decode cX5_factor 9 = .ok (.iconst 0, 1) := by decide +kernel
theorem dX5_factor_10 : decode cX5_factor 10 = .ok (.iaload, 1) := by decide +kernel
theorem dX5_factor_11 : decode cX5_factor 11 = .ok (.if_icmp .ge 17, 3) := by decide +kernel
theorem dX5_factor_14 : decode cX5_factor 14 = .ok (.iload_n 1, 1) := by decide +kernel
theorem dX5_factor_15 : decode cX5_factor 15 = .ok (.aload_n 0, 1) := by decide +kernel
theorem dX5_factor_16 : decode cX5_factor 16 = .ok (.iload_n 2, 1) := by decide +kernel
theorem dX5_factor_17 : decode cX5_factor 17 = .ok (.invokevirtual 41, 3) := by decide +kernel
theorem dX5_factor_20 : decode cX5_factor 20 = .ok (.iadd, 1) := by decide +kernel
theorem dX5_factor_21 : decode cX5_factor 21 = .ok (.istore_n 1, 1) := by decide +kernel
theorem dX5_factor_22 : decode cX5_factor 22 = .ok (.iinc 2 1, 3) := by decide +kernel
theorem dX5_factor_25 : decode cX5_factor 25 = .ok (.goto (-21), 3) := by decide +kernel
theorem dX5_factor_28 : decode cX5_factor 28 = .ok (.aload_n 0, 1) := by decide +kernel
theorem dX5_factor_29 : decode cX5_factor 29 = .ok (.getfield 7, 3) := by decide +kernel
theorem dX5_factor_32 : decode cX5_factor 32 = .ok (.iconst 0, 1) := by decide +kernel
theorem dX5_factor_33 : decode cX5_factor 33 = .ok (.iaload, 1) := by decide +kernel
theorem dX5_factor_34 : decode cX5_factor 34 = .ok (.ifCond .ne 7, 3) := by decide +kernel
theorem dX5_factor_37 : decode cX5_factor 37 = .ok (.dconst 0, 1) := by decide +kernel
theorem dX5_factor_38 : decode cX5_factor 38 = .ok (.goto 17, 3) := by decide +kernel
theorem dX5_factor_41 : decode cX5_factor 41 = .ok (.iload_n 1, 1) := by decide +kernel
theorem dX5_factor_42 : decode cX5_factor 42 = .ok (.i2d, 1) := by decide +kernel
theorem dX5_factor_43 : decode cX5_factor 43 = .ok (.sipush 128, 3) := by decide +kernel
theorem dX5_factor_46 : decode cX5_factor 46 = .ok (.aload_n 0, 1) := by decide +kernel
theorem dX5_factor_47 : decode cX5_factor 47 = .ok (.getfield 7, 3) := by decide +kernel
theorem dX5_factor_50 : decode cX5_factor 50 = .ok (.iconst 0, 1) := by decide +kernel
theorem dX5_factor_51 : decode cX5_factor 51 = .ok (.iaload, 1) := by decide +kernel
theorem dX5_factor_52 : decode cX5_factor 52 = .ok (.imul, 1) := by decide +kernel
theorem dX5_factor_53 : decode cX5_factor 53 = .ok (.i2d, 1) := by decide +kernel
theorem dX5_factor_54 : decode cX5_factor 54 = .ok (.ddiv, 1) := by decide +kernel
theorem dX5_factor_55 : decode cX5_factor 55 = .ok (.dreturn, 1) := by decide +kernel
theorem dX5_fillFactor_0 : decode cX5_fillFactor 0 = .ok (.aload_n 0, 1) := by decide +kernel
theorem dX5_fillFactor_1 : decode cX5_fillFactor 1 = .ok (.iconst 0, 1) := by decide +kernel
end
section
theorem dX5_fillFactor_2 : decode cX5_fillFactor 2 = .ok (.putfield 22, 3) := by decide +kernel
theorem dX5_fillFactor_5 : decode cX5_fillFactor 5 = .ok (.aload_n 0, 1) := by decide +kernel
theorem dX5_fillFactor_6 : decode cX5_fillFactor 6 = .ok (.invokevirtual 181, 3) := by decide +kernel
theorem dX5_fillFactor_9 : decode cX5_fillFactor 9 = .ok (.dreturn, 1) := by decide +kernel
theorem dX5_ifInserted_0 : decode cX5_ifInserted 0 = .ok (.aload_n 0, 1) := by decide +kernel
theorem dX5_ifInserted_1 : decode cX5_ifInserted 1 = .ok (.iload_n 1, 1) := by decide +kernel
theorem dX5_ifInserted_2 : decode cX5_ifInserted 2 = .ok (.iconst 0, 1) := by decide +kernel
theorem dX5_ifInserted_3 : decode cX5_ifInserted 3 = .ok (.bipush 60, 2) := by decide +kernel
theorem dX5_ifInserted_5 : decode cX5_ifInserted 5 = .ok (.invokestatic 78, 3) := by decide +kernel
theorem dX5_ifInserted_8 : decode cX5_ifInserted 8 = .ok (.ifCond .eq 7, 3) := by decide +kernel
theorem dX5_ifInserted_11 : decode cX5_ifInserted 11 = .ok (.iconst 0, 1) := by decide +kernel
theorem dX5_ifInserted_12 : decode cX5_ifInserted 12 = .ok (.goto 4, 3) := by decide +kernel
theorem dX5_ifInserted_15 : decode cX5_ifInserted 15 = .ok (.iconst 1, 1) := by decide +kernel
theorem dX5_ifInserted_16 : decode cX5_ifInserted 16 = .ok (.invokevirtual 146, 3) := by decide +kernel
theorem dX5_ifInserted_19 : decode cX5_ifInserted 19 = .ok (.ifCond .ne 5, 3) := by decide +kernel
theorem dX5_ifInserted_22 : decode cX5_ifInserted 22 = .ok (.iconst 0, 1) := by decide +kernel
theorem dX5_ifInserted_23 : decode cX5_ifInserted 23 = .ok (.ireturn, 1) := by decide +kernel
theorem dX5_ifInserted_24 : decode cX5_ifInserted 24 = .ok (.aload_n 0, 1) := by decide +kernel
theorem dX5_ifInserted_25 : decode cX5_ifInserted 25 = .ok (.iload_n 1, 1) := by decide +kernel
theorem dX5_ifInserted_26 : decode cX5_ifInserted 26 = .ok (.invokestatic 91, 3) := by decide +kernel
theorem dX5_ifInserted_29 : decode cX5_ifInserted 29 = .ok (.iconst (-1), 1) := by decide +kernel
theorem dX5_ifInserted_30 : decode cX5_ifInserted 30 = .ok (.iconst (-1), 1) := by decide +kernel
theorem dX5_ifInserted_31 : decode cX5_ifInserted 31 = .ok (.invokevirtual 94, 3) := by decide +kernel
theorem dX5_ifInserted_34 : decode cX5_ifInserted 34 = .ok (.istore_n 2, 1) := by decide +kernel
theorem dX5_ifInserted_35 : decode cX5_ifInserted 35 = .ok (.iload_n 2, 1) := by decide +kernel
theorem dX5_ifInserted_36 : decode cX5_ifInserted 36 = .ok (.iconst (-1), 1) := by decide +kernel
theorem dX5_ifInserted_37 : decode cX5_ifInserted 37 = .ok (.if_icmp .eq 13, 3) := by decide +kernel
theorem dX5_ifInserted_40 : decode cX5_ifInserted 40 = .ok (.iload_n 2, 1) := by decide +kernel
theorem dX5_ifInserted_41 : decode cX5_ifInserted 41 = .ok (.aload_n 0, 1) := by decide +kernel
theorem dX5_ifInserted_42 : decode cX5_ifInserted 42 = .ok (.getfield 7, 3) := by decide +kernel
theorem dX5_ifInserted_45 : decode cX5_ifInserted 45 = .ok (.iconst 0, 1) := by decide +kernel
theorem dX5_ifInserted_46 : decode cX5_ifInserted 46 = .ok (.iaload, 1) := by decide +kernel
theorem dX5_ifInserted_47 : decode cX5_ifInserted 47 = .ok (.if_icmp .ne 17, 3) := by decide +kernel
theorem dX5_ifInserted_50 : decode cX5_ifInserted 50 = .ok (.iload_n 2, 1) := by decide +kernel
theorem dX5_ifInserted_51 : decode cX5_ifInserted 51 = .ok (.iconst (-1), 1) := by decide +kernel
theorem dX5_ifInserted_52 : decode cX5_ifInserted 52 = .ok (.if_icmp .ne 7, 3) := by decide +kernel
theorem dX5_ifInserted_55 : decode cX5_ifInserted 55 = .ok (.iconst (-1), 1) := by decide +kernel
theorem dX5_ifInserted_56 : decode cX5_ifInserted 56 = .ok (.goto 7, 3) := by decide +kernel
theorem dX5_ifInserted_59 : decode cX5_ifInserted 59 = .ok (.bipush 100, 2) := by decide +kernel
theorem dX5_ifInserted_61 : decode cX5_ifInserted 61 = .ok (.iload_n 2, 1) := by decide +kernel
theorem dX5_ifInserted_62 : decode cX5_ifInserted 62 = .ok (.imul, 1) := by decide +kernel
theorem dX5_ifInserted_63 : decode cX5_ifInserted 63 = .ok (.ireturn, 1) := by decide +kernel
theorem dX5_ifInserted_64 : decode cX5_ifInserted 64 = .ok (.aload_n 0, 1) := by decide +kernel
theorem dX5_ifInserted_65 : decode cX5_ifInserted 65 = .ok (.iload_n 2, 1) := by decide +kernel
theorem dX5_ifInserted_66 : decode cX5_ifInserted 66 = .ok (.invokevirtual 44, 3) := by decide +kernel
theorem dX5_ifInserted_69 : decode cX5_ifInserted 69 = .ok (.istore_n 3, 1) := by decide +kernel
theorem dX5_ifInserted_70 : decode cX5_ifInserted 70 = .ok (.bipush 100, 2) := by decide +kernel
theorem dX5_ifInserted_72 : decode cX5_ifInserted 72 = .ok (.iload_n 2, 1) := by decide +kernel
theorem dX5_ifInserted_73 : decode cX5_ifInserted 73 = .ok (.imul, 1) := by decide +kernel
theorem dX5_ifInserted_74 : decode cX5_ifInserted 74 = .ok (.iload_n 3, 1) := by decide +kernel
theorem dX5_ifInserted_75 : decode cX5_ifInserted 75 = .ok (.iconst (-1), 1) := by decide +kernel
theorem dX5_ifInserted_76 : decode cX5_ifInserted 76 = .ok (.if_icmp .ne 12, 3) := by decide +kernel
theorem dX5_ifInserted_79 : decode cX5_ifInserted 79 = .ok (.aload_n 0, 1) := by decide +kernel
theorem dX5_ifInserted_80 : decode cX5_ifInserted 80 = .ok (.iload_n 2, 1) := by decide +kernel
theorem dX5_ifInserted_81 : decode cX5_ifInserted 81 = .ok (.iconst 0, 1) := by decide +kernel
theorem dX5_ifInserted_82 : decode cX5_ifInserted 82 = .ok (.invokevirtual 26, 3) := by decide +kernel
theorem dX5_ifInserted_85 : decode cX5_ifInserted 85 = .ok (.goto 4, 3) := by decide +kernel
theorem dX5_ifInserted_88 : decode cX5_ifInserted 88 = .ok (.iload_n 3, 1) := by decide +kernel
theorem dX5_ifInserted_89 : decode cX5_ifInserted 89 = .ok (.iadd, 1) := by decide +kernel
theorem dX5_ifInserted_90 : decode cX5_ifInserted 90 = .ok (.ireturn, 1) := by decide +kernel
theorem dX5_ifUpdated_0 : decode cX5_ifUpdated 0 = .ok (.aload_n 0, 1) := by decide +kernel
theorem dX5_ifUpdated_1 : decode cX5_ifUpdated 1 = .ok (.aload_n 0, 1) := by decide +kernel
theorem dX5_ifUpdated_2 : decode cX5_ifUpdated 2 = .ok (.iload_n 1, 1) := by decide +kernel
theorem dX5_ifUpdated_3 : decode cX5_ifUpdated 3 = .ok (.invokevirtual 160, 3) := by decide +kernel
theorem dX5_ifUpdated_6 : decode cX5_ifUpdated 6 = .ok (.ifCond .ne 7, 3) := by decide +kernel
theorem dX5_ifUpdated_9 : decode cX5_ifUpdated 9 = .ok (.iconst 1, 1) := by decide +kernel
theorem dX5_ifUpdated_10 : decode cX5_ifUpdated 10 = .ok (.goto 18, 3) := by decide +kernel
theorem dX5_ifUpdated_13 : decode cX5_ifUpdated 13 = .ok (.iload_n 2, 1) := by decide +kernel
theorem dX5_ifUpdated_14 : decode cX5_ifUpdated 14 = .ok (.iconst 0, 1) := by decide +kernel
theorem dX5_ifUpdated_15 : decode cX5_ifUpdated 15 = .ok (.bipush 60, 2) := by decide +kernel
theorem dX5_ifUpdated_17 : decode cX5_ifUpdated 17 = .ok (.invokestatic 78, 3) := by decide +kernel
theorem dX5_ifUpdated_20 : decode cX5_ifUpdated 20 = .ok (.ifCond .ne 7, 3) := by decide +kernel
theorem dX5_ifUpdated_23 : decode cX5_ifUpdated 23 = .ok (.iconst 2, 1) := by decide +kernel
theorem dX5_ifUpdated_24 : decode cX5_ifUpdated 24 = .ok (.goto 4, 3) := by decide +kernel
theorem dX5_ifUpdated_27 : decode cX5_ifUpdated 27 = .ok (.iconst 0, 1) := by decide +kernel
theorem dX5_ifUpdated_28 : decode cX5_ifUpdated 28 = .ok (.invokevirtual 146, 3) := by decide +kernel
theorem dX5_ifUpdated_31 : decode cX5_ifUpdated 31 = .ok (.ifCond .eq 12, 3) := by decide +kernel
theorem dX5_ifUpdated_34 : decode cX5_ifUpdated 34 = .ok (.aload_n 0, 1) := by decide +kernel
theorem dX5_ifUpdated_35 : decode cX5_ifUpdated 35 = .ok (.iload_n 1, 1) := by decide +kernel
theorem dX5_ifUpdated_36 : decode cX5_ifUpdated 36 = .ok (.iload_n 2, 1) := by decide +kernel
theorem dX5_ifUpdated_37 : decode cX5_ifUpdated 37 = .ok (.invokevirtual 119, 3) := by decide +kernel
theorem dX5_ifUpdated_40 : decode cX5_ifUpdated 40 = .ok (.goto 4, 3) := by decide +kernel
theorem dX5_ifUpdated_43 : decode cX5_ifUpdated 43 = .ok (.iconst 0, 1) := by decide +kernel
theorem dX5_ifUpdated_44 : decode cX5_ifUpdated 44 = .ok (.ireturn, 1) := by decide +kernel
theorem dX5_greatestAtHome_0 : decode cX5_greatestAtHome 0 = .ok (.aload_n 0, 1) := by decide +kernel
theorem dX5_greatestAtHome_1 : decode cX5_greatestAtHome 1 = .ok (.aload_n 0, 1) := by decide +kernel
theorem dX5_greatestAtHome_2 : decode cX5_greatestAtHome 2 = .ok (.iload_n 1, 1) := by decide +kernel
theorem dX5_greatestAtHome_3 : decode cX5_greatestAtHome 3 = .ok (.invokevirtual 160, 3) := by decide +kernel
theorem dX5_greatestAtHome_6 : decode cX5_greatestAtHome 6 = .ok (.ifCond .eq 7, 3) := by decide +kernel
theorem dX5_greatestAtHome_9 : decode cX5_greatestAtHome 9 = .ok (.iconst 0, 1) := by decide +kernel
theorem dX5_greatestAtHome_10 : decode cX5_greatestAtHome 10 = .ok (.goto 4, 3) := by decide +kernel
theorem dX5_greatestAtHome_13 : decode cX5_greatestAtHome 13 = .ok (.iconst 1, 1) := by decide +kernel
theorem dX5_greatestAtHome_14 : decode cX5_greatestAtHome 14 = .ok (.invokevirtual 146, 3) := by decide +kernel
theorem dX5_greatestAtHome_17 : decode cX5_greatestAtHome 17 = .ok (.ifCond .ne 5, 3) := by decide +kernel
theorem dX5_greatestAtHome_20 : decode cX5_greatestAtHome 20 = .ok (.iconst 0, 1) := by decide +kernel
theorem dX5_greatestAtHome_21 : decode cX5_greatestAtHome 21 = .ok (.ireturn, 1) := by decide +kernel
theorem dX5_greatestAtHome_22 : decode cX5_greatestAtHome 22 = .ok (.bipush 60, 2) := by decide +kernel
theorem dX5_greatestAtHome_24 : decode cX5_greatestAtHome 24 = .ok (.istore_n 2, 1) := by decide +kernel
theorem dX5_greatestAtHome_25 : decode cX5_greatestAtHome 25 = .ok (.aload_n 0, 1) := by decide +kernel
theorem dX5_greatestAtHome_26 : decode cX5_greatestAtHome 26 = .ok (.iload_n 1, 1) := by decide +kernel
theorem dX5_greatestAtHome_27 : decode cX5_greatestAtHome 27 = .ok (.bipush 100, 2) := by decide +kernel
theorem dX5_greatestAtHome_29 : decode cX5_greatestAtHome 29 = .ok (.idiv, 1) := by decide +kernel
theorem dX5_greatestAtHome_30 : decode cX5_greatestAtHome 30 = .ok (.iload_n 1, 1) := by decide +kernel
theorem dX5_greatestAtHome_31 : decode cX5_greatestAtHome 31 = .ok (.bipush 100, 2) := by decide +kernel
theorem dX5_greatestAtHome_33 : decode cX5_greatestAtHome 33 = .ok (.irem, 1) := by decide +kernel
theorem dX5_greatestAtHome_34 : decode cX5_greatestAtHome 34 = .ok (.iload_n 2, 1) := by decide +kernel
theorem dX5_greatestAtHome_35 : decode cX5_greatestAtHome 35 = .ok (.invokestatic 91, 3) := by decide +kernel
theorem dX5_greatestAtHome_38 : decode cX5_greatestAtHome 38 = .ok (.invokevirtual 107, 3) := by decide +kernel
theorem dX5_greatestAtHome_41 : decode cX5_greatestAtHome 41 = .ok (.ifCond .ne 9, 3) := by decide +kernel
theorem dX5_greatestAtHome_44 : decode cX5_greatestAtHome 44 = .ok (.iinc 2 (-1), 3) := by decide +kernel
theorem dX5_greatestAtHome_47 : decode cX5_greatestAtHome 47 = .ok (.goto (-22), 3) := by decide +kernel
theorem dX5_greatestAtHome_50 : decode cX5_greatestAtHome 50 = .ok (.iload_n 2, 1) := by decide +kernel
theorem dX5_greatestAtHome_51 : decode cX5_greatestAtHome 51 = .ok (.ireturn, 1) := by decide +kernel
theorem dX5_taken_0 : decode cX5_taken 0 = .ok (.iconst 0, 1) := by decide +kernel
theorem dX5_taken_1 : decode cX5_taken 1 = .ok (.istore 4, 2) := by decide +kernel
theorem dX5_taken_3 : decode cX5_taken 3 = .ok (.iload_n 3, 1) := by decide +kernel
theorem dX5_taken_4 : decode cX5_taken 4 = .ok (.istore 5, 2) := by decide +kernel
theorem dX5_taken_6 : decode cX5_taken 6 = .ok (.iload 4, 2) := by decide +kernel
theorem dX5_taken_8 : decode cX5_taken 8 = .ok (.iload_n 1, 1) := by decide +kernel
theorem dX5_taken_9 : decode cX5_taken 9 = .ok (.if_icmp .ge 21, 3) := by decide +kernel
theorem dX5_taken_12 : decode cX5_taken 12 = .ok (.iload_n 0, 1) := by decide +kernel
theorem dX5_taken_13 : decode cX5_taken 13 = .ok (.iload 5, 2) := by decide +kernel
theorem dX5_taken_15 : decode cX5_taken 15 = .ok (.if_icmp .gt 15, 3) := by decide +kernel
theorem dX5_taken_18 : decode cX5_taken 18 = .ok (.iload 5, 2) := by decide +kernel
theorem dX5_taken_20 : decode cX5_taken 20 = .ok (.iload_n 0, 1) := by decide +kernel
theorem dX5_taken_21 : decode cX5_taken 21 = .ok (.isub, 1) := by decide +kernel
theorem dX5_taken_22 : decode cX5_taken 22 = .ok (.istore 5, 2) := by decide +kernel
theorem dX5_taken_24 : decode cX5_taken 24 = .ok (.iinc 4 1, 3) := by decide +kernel
theorem dX5_taken_27 : decode cX5_taken 27 = .ok (.goto (-21), 3) := by decide +kernel
theorem dX5_taken_30 : decode cX5_taken 30 = .ok (.iload 4, 2) := by decide +kernel
theorem dX5_taken_32 : decode cX5_taken 32 = .ok (.iload_n 1, 1) := by decide +kernel
theorem dX5_taken_33 : decode cX5_taken 33 = .ok (.if_icmp .ge 8, 3) := by decide +kernel
theorem dX5_taken_36 : decode cX5_taken 36 = .ok (.bipush 31, 2) := by decide +kernel
theorem dX5_taken_38 : decode cX5_taken 38 = .ok (.goto 4, 3) := by decide +kernel
theorem dX5_taken_41 : decode cX5_taken 41 = .ok (.iload_n 2, 1) := by decide +kernel
theorem dX5_taken_42 : decode cX5_taken 42 = .ok (.istore 6, 2) := by decide +kernel
theorem dX5_taken_44 : decode cX5_taken 44 = .ok (.iload 6, 2) := by decide +kernel
theorem dX5_taken_46 : decode cX5_taken 46 = .ok (.bipush 31, 2) := by decide +kernel
theorem dX5_taken_48 : decode cX5_taken 48 = .ok (.if_icmp .ge 28, 3) := by decide +kernel
theorem dX5_taken_51 : decode cX5_taken 51 = .ok (.iload_n 0, 1) := by decide +kernel
theorem dX5_taken_52 : decode cX5_taken 52 = .ok (.iconst 2, 1) := by decide +kernel
theorem dX5_taken_53 : decode cX5_taken 53 = .ok (.iadd, 1) := by decide +kernel
theorem dX5_taken_54 : decode cX5_taken 54 = .ok (.iload 5, 2) := by decide +kernel
theorem dX5_taken_56 : decode cX5_taken 56 = .ok (.if_icmp .gt 20, 3) := by decide +kernel
theorem dX5_taken_59 : decode cX5_taken 59 = .ok (.iload 5, 2) := by decide +kernel
theorem dX5_taken_61 : decode cX5_taken 61 = .ok (.iload_n 0, 1) := by decide +kernel
theorem dX5_taken_62 : decode cX5_taken 62 = .ok (.iconst 2, 1) := by decide +kernel
theorem dX5_taken_63 : decode cX5_taken 63 = .ok (.iadd, 1) := by decide +kernel
theorem dX5_taken_64 : decode cX5_taken 64 = .ok (.isub, 1) := by decide +kernel
theorem dX5_taken_65 : decode cX5_taken 65 = .ok (.istore 5, 2) := by decide +kernel
theorem dX5_taken_67 : decode cX5_taken 67 = .ok (.iinc 6 1, 3) := by decide +kernel
theorem dX5_taken_70 : decode cX5_taken 70 = .ok (.iinc 4 1, 3) := by decide +kernel
theorem dX5_taken_73 : decode cX5_taken 73 = .ok (.goto (-29), 3) := by decide +kernel
theorem dX5_taken_76 : decode cX5_taken 76 = .ok (.iload 4, 2) := by decide +kernel
theorem dX5_taken_78 : decode cX5_taken 78 = .ok (.ireturn, 1) := by decide +kernel
theorem dX5_capacity_0 : decode cX5_capacity 0 = .ok (.aload_n 0, 1) := by decide +kernel
theorem dX5_capacity_1 : decode cX5_capacity 1 = .ok (.iload_n 1, 1) := by decide +kernel
theorem dX5_capacity_2 : decode cX5_capacity 2 = .ok (.iconst 0, 1) := by decide +kernel
theorem dX5_capacity_3 : decode cX5_capacity 3 = .ok (.bipush 60, 2) := by decide +kernel
theorem dX5_capacity_5 : decode cX5_capacity 5 = .ok (.invokestatic 78, 3) := by decide +kernel
theorem dX5_capacity_8 : decode cX5_capacity 8 = .ok (.ifCond .eq 7, 3) := by decide +kernel
theorem dX5_capacity_11 : decode cX5_capacity 11 = .ok (.iconst 0, 1) := by decide +kernel
theorem dX5_capacity_12 : decode cX5_capacity 12 = .ok (.goto 4, 3) := by decide +kernel
theorem dX5_capacity_15 : decode cX5_capacity 15 = .ok (.iconst 1, 1) := by decide +kernel
theorem dX5_capacity_16 : decode cX5_capacity 16 = .ok (.invokevirtual 146, 3) := by decide +kernel
theorem dX5_capacity_19 : decode cX5_capacity 19 = .ok (.ifCond .ne 5, 3) := by decide +kernel
theorem dX5_capacity_22 : decode cX5_capacity 22 = .ok (.iconst 0, 1) := by decide +kernel
theorem dX5_capacity_23 : decode cX5_capacity 23 = .ok (.ireturn, 1) := by decide +kernel
theorem dX5_capacity_24 : decode cX5_capacity 24 = .ok (.iconst 0, 1) := by decide +kernel
theorem dX5_capacity_25 : decode cX5_capacity 25 = .ok (.istore_n 2, 1) := by decide +kernel
theorem dX5_capacity_26 : decode cX5_capacity 26 = .ok (.iconst 0, 1) := by decide +kernel
theorem dX5_capacity_27 : decode cX5_capacity 27 = .ok (.istore_n 3, 1) := by decide +kernel
theorem dX5_capacity_28 : decode cX5_capacity 28 = .ok (.iload_n 3, 1) := by decide +kernel
theorem dX5_capacity_29 : decode cX5_capacity 29 = .ok (.bipush 8, 2) := by decide +kernel
theorem dX5_capacity_31 : decode cX5_capacity 31 = .ok (.if_icmp .ge 116, 3) := by decide +kernel
theorem dX5_capacity_34 : decode cX5_capacity 34 = .ok (.iconst 0, 1) := by decide +kernel
theorem dX5_capacity_35 : decode cX5_capacity 35 = .ok (.istore 4, 2) := by decide +kernel
theorem dX5_capacity_37 : decode cX5_capacity 37 = .ok (.iload_n 3, 1) := by decide +kernel
theorem dX5_capacity_38 : decode cX5_capacity 38 = .ok (.aload_n 0, 1) := by decide +kernel
theorem dX5_capacity_39 : decode cX5_capacity 39 = .ok (.getfield 7, 3) := by decide +kernel
theorem dX5_capacity_42 : decode cX5_capacity 42 = .ok (.iconst 0, 1) := by decide +kernel
theorem dX5_capacity_43 : decode cX5_capacity 43 = .ok (.iaload, 1) := by decide +kernel
theorem dX5_capacity_44 : decode cX5_capacity 44 = .ok (.if_icmp .ge 7, 3) := by decide +kernel
theorem dX5_capacity_47 : decode cX5_capacity 47 = .ok (.iconst 1, 1) := by decide +kernel
theorem dX5_capacity_48 : decode cX5_capacity 48 = .ok (.goto 4, 3) := by decide +kernel
theorem dX5_capacity_51 : decode cX5_capacity 51 = .ok (.iconst 0, 1) := by decide +kernel
theorem dX5_capacity_52 : decode cX5_capacity 52 = .ok (.istore 5, 2) := by decide +kernel
theorem dX5_capacity_54 : decode cX5_capacity 54 = .ok (.iconst 0, 1) := by decide +kernel
theorem dX5_capacity_55 : decode cX5_capacity 55 = .ok (.istore 6, 2) := by decide +kernel
theorem dX5_capacity_57 : decode cX5_capacity 57 = .ok (.iload 5, 2) := by decide +kernel
theorem dX5_capacity_59 : decode cX5_capacity 59 = .ok (.ifCond .eq 40, 3) := by decide +kernel
theorem dX5_capacity_62 : decode cX5_capacity 62 = .ok (.iload 6, 2) := by decide +kernel
theorem dX5_capacity_64 : decode cX5_capacity 64 = .ok (.aload_n 0, 1) := by decide +kernel
theorem dX5_capacity_65 : decode cX5_capacity 65 = .ok (.iload_n 3, 1) := by decide +kernel
theorem dX5_capacity_66 : decode cX5_capacity 66 = .ok (.iconst 0, 1) := by decide +kernel
theorem dX5_capacity_67 : decode cX5_capacity 67 = .ok (.invokevirtual 26, 3) := by decide +kernel
theorem dX5_capacity_70 : decode cX5_capacity 70 = .ok (.if_icmp .ge 29, 3) := by decide +kernel
theorem dX5_capacity_73 : decode cX5_capacity 73 = .ok (.iload 4, 2) := by decide +kernel
theorem dX5_capacity_75 : decode cX5_capacity 75 = .ok (.aload_n 0, 1) := by decide +kernel
theorem dX5_capacity_76 : decode cX5_capacity 76 = .ok (.iload_n 3, 1) := by decide +kernel
theorem dX5_capacity_77 : decode cX5_capacity 77 = .ok (.iload 6, 2) := by decide +kernel
theorem dX5_capacity_79 : decode cX5_capacity 79 = .ok (.invokevirtual 34, 3) := by decide +kernel
theorem dX5_capacity_82 : decode cX5_capacity 82 = .ok (.ifCond .ne 7, 3) := by decide +kernel
theorem dX5_capacity_85 : decode cX5_capacity 85 = .ok (.iconst 1, 1) := by decide +kernel
theorem dX5_capacity_86 : decode cX5_capacity 86 = .ok (.goto 4, 3) := by decide +kernel
theorem dX5_capacity_89 : decode cX5_capacity 89 = .ok (.iconst 0, 1) := by decide +kernel
theorem dX5_capacity_90 : decode cX5_capacity 90 = .ok (.iadd, 1) := by decide +kernel
theorem dX5_capacity_91 : decode cX5_capacity 91 = .ok (.istore 4, 2) := by decide +kernel
theorem dX5_capacity_93 : decode cX5_capacity 93 = .ok (.iinc 6 1, 3) := by decide +kernel
theorem dX5_capacity_96 : decode cX5_capacity 96 = .ok (.goto (-39), 3) := by decide +kernel
theorem dX5_capacity_99 : decode cX5_capacity 99 = .ok (.iload_n 2, 1) := by decide +kernel
theorem dX5_capacity_100 : decode cX5_capacity 100 = .ok (.iload 5, 2) := by decide +kernel
theorem dX5_capacity_102 : decode cX5_capacity 102 = .ok (.ifCond .eq 26, 3) := by decide +kernel
theorem dX5_capacity_105 : decode cX5_capacity 105 = .ok (.iload_n 1, 1) := by decide +kernel
theorem dX5_capacity_106 : decode cX5_capacity 106 = .ok (.invokestatic 91, 3) := by decide +kernel
theorem dX5_capacity_109 : decode cX5_capacity 109 = .ok (.iload 4, 2) := by decide +kernel
theorem dX5_capacity_111 : decode cX5_capacity 111 = .ok (.aload_n 0, 1) := by decide +kernel
theorem dX5_capacity_112 : decode cX5_capacity 112 = .ok (.iload_n 3, 1) := by decide +kernel
theorem dX5_capacity_113 : decode cX5_capacity 113 = .ok (.iconst 0, 1) := by decide +kernel
theorem dX5_capacity_114 : decode cX5_capacity 114 = .ok (.invokevirtual 26, 3) := by decide +kernel
theorem dX5_capacity_117 : decode cX5_capacity 117 = .ok (.aload_n 0, 1) := by decide +kernel
theorem dX5_capacity_118 : decode cX5_capacity 118 = .ok (.iload_n 3, 1) := by decide +kernel
theorem dX5_capacity_119 : decode cX5_capacity 119 = .ok (.invokevirtual 47, 3) := by decide +kernel
theorem dX5_capacity_122 : decode cX5_capacity 122 = .ok (.invokestatic 185, 3) := by decide +kernel
theorem dX5_capacity_125 : decode cX5_capacity 125 = .ok (.goto 14, 3) := by decide +kernel
theorem dX5_capacity_128 : decode cX5_capacity 128 = .ok (.iload_n 1, 1) := by decide +kernel
theorem dX5_capacity_129 : decode cX5_capacity 129 = .ok (.invokestatic 91, 3) := by decide +kernel
theorem dX5_capacity_132 : decode cX5_capacity 132 = .ok (.iconst 0, 1) := by decide +kernel
theorem dX5_capacity_133 : decode cX5_capacity 133 = .ok (.iconst 0, 1) := by decide +kernel
theorem dX5_capacity_134 : decode cX5_capacity 134 = .ok (.bipush 126, 2) := by decide +kernel
theorem dX5_capacity_136 : decode cX5_capacity 136 = .ok (.invokestatic 185, 3) := by decide +kernel
theorem dX5_capacity_139 : decode cX5_capacity 139 = .ok (.iadd, 1) := by decide +kernel
theorem dX5_capacity_140 : decode cX5_capacity 140 = .ok (.istore_n 2, 1) := by decide +kernel
theorem dX5_capacity_141 : decode cX5_capacity 141 = .ok (.iinc 3 1, 3) := by decide +kernel
theorem dX5_capacity_144 : decode cX5_capacity 144 = .ok (.goto (-116), 3) := by decide +kernel
theorem dX5_capacity_147 : decode cX5_capacity 147 = .ok (.iload_n 2, 1) := by decide +kernel
theorem dX5_capacity_148 : decode cX5_capacity 148 = .ok (.ireturn, 1) := by decide +kernel
theorem dX5_sign_0 : decode cX5_sign 0 = .ok (.aload_n 0, 1) := by decide +kernel
theorem dX5_sign_1 : decode cX5_sign 1 = .ok (.getfield 189, 3) := by decide +kernel
theorem dX5_sign_4 : decode cX5_sign 4 = .ok (.aload_n 0, 1) := by decide +kernel
theorem dX5_sign_5 : decode cX5_sign 5 = .ok (.getfield 143, 3) := by decide +kernel
theorem dX5_sign_8 : decode cX5_sign 8 = .ok (.if_icmp .ge 15, 3) := by decide +kernel
theorem dX5_sign_11 : decode cX5_sign 11 = .ok (.aload_n 0, 1) := by decide +kernel
theorem dX5_sign_12 : decode cX5_sign 12 = .ok (.getfield 13, 3) := by decide +kernel
theorem dX5_sign_15 : decode cX5_sign 15 = .ok (.aload_n 0, 1) := by decide +kernel
theorem dX5_sign_16 : decode cX5_sign 16 = .ok (.getfield 189, 3) := by decide +kernel
theorem dX5_sign_19 : decode cX5_sign 19 = .ok (.iaload, 1) := by decide +kernel
theorem dX5_sign_20 : decode cX5_sign 20 = .ok (.goto 4, 3) := by decide +kernel
theorem dX5_sign_23 : decode cX5_sign 23 = .ok (.iconst (-1), 1) := by decide +kernel
theorem dX5_sign_24 : decode cX5_sign 24 = .ok (.ireturn, 1) := by decide +kernel
theorem dX5_takes_0 : decode cX5_takes 0 = .ok (.aload_n 0, 1) := by decide +kernel
theorem dX5_takes_1 : decode cX5_takes 1 = .ok (.invokevirtual 192, 3) := by decide +kernel
theorem dX5_takes_4 : decode cX5_takes 4 = .ok (.iload_n 1, 1) := by decide +kernel
theorem dX5_takes_5 : decode cX5_takes 5 = .ok (.if_icmp .ne 7, 3) := by decide +kernel
theorem dX5_takes_8 : decode cX5_takes 8 = .ok (.iconst 1, 1) := by decide +kernel
theorem dX5_takes_9 : decode cX5_takes 9 = .ok (.goto 4, 3) := by decide +kernel
theorem dX5_takes_12 : decode cX5_takes 12 = .ok (.iconst 0, 1) := by decide +kernel
theorem dX5_takes_13 : decode cX5_takes 13 = .ok (.istore_n 2, 1) := by decide +kernel
theorem dX5_takes_14 : decode cX5_takes 14 = .ok (.aload_n 0, 1) := by decide +kernel
theorem dX5_takes_15 : decode cX5_takes 15 = .ok (.dup, 1) := by decide +kernel
theorem dX5_takes_16 : decode cX5_takes 16 = .ok (.getfield 189, 3) := by decide +kernel
theorem dX5_takes_19 : decode cX5_takes 19 = .ok (.iload_n 2, 1) := by decide +kernel
theorem dX5_takes_20 : decode cX5_takes 20 = .ok (.ifCond .eq 7, 3) := by decide +kernel
theorem dX5_takes_23 : decode cX5_takes 23 = .ok (.iconst 1, 1) := by decide +kernel
theorem dX5_takes_24 : decode cX5_takes 24 = .ok (.goto 4, 3) := by decide +kernel
theorem dX5_takes_27 : decode cX5_takes 27 = .ok (.iconst 0, 1) := by decide +kernel
theorem dX5_takes_28 : decode cX5_takes 28 = .ok (.iadd, 1) := by decide +kernel
theorem dX5_takes_29 : decode cX5_takes 29 = .ok (.putfield 189, 3) := by decide +kernel
theorem dX5_takes_32 : decode cX5_takes 32 = .ok (.iload_n 2, 1) := by decide +kernel
theorem dX5_takes_33 : decode cX5_takes 33 = .ok (.ireturn, 1) := by decide +kernel
theorem dX5_readsIdentifier_0 : decode cX5_readsIdentifier 0 = .ok (.aload_n 0, 1) := by decide +kernel
theorem dX5_readsIdentifier_1 : decode cX5_readsIdentifier 1 = .ok (.invokevirtual 192, 3) := by decide +kernel
theorem dX5_readsIdentifier_4 : decode cX5_readsIdentifier 4 = .ok (.bipush 48, 2) := by decide +kernel
theorem dX5_readsIdentifier_6 : decode cX5_readsIdentifier 6 = .ok (.bipush 57, 2) := by decide +kernel
theorem dX5_readsIdentifier_8 : decode cX5_readsIdentifier 8 = .ok (.invokestatic 78, 3) := by decide +kernel
theorem dX5_readsIdentifier_11 : decode cX5_readsIdentifier 11 = .ok (.ifCond .ne 5, 3) := by decide +kernel
theorem dX5_readsIdentifier_14 : decode cX5_readsIdentifier 14 = .ok (.iconst 0, 1) := by decide +kernel
theorem dX5_readsIdentifier_15 : decode cX5_readsIdentifier 15 = .ok (.ireturn, 1) := by decide +kernel
theorem dX5_readsIdentifier_16 : decode cX5_readsIdentifier 16 = .ok (.aload_n 0, 1) := by decide +kernel
theorem dX5_readsIdentifier_17 : decode cX5_readsIdentifier 17 = .ok (.aload_n 0, 1) := by decide +kernel
theorem dX5_readsIdentifier_18 : decode cX5_readsIdentifier 18 = .ok (.invokevirtual 192, 3) := by decide +kernel
theorem dX5_readsIdentifier_21 : decode cX5_readsIdentifier 21 = .ok (.bipush 48, 2) := by decide +kernel
theorem dX5_readsIdentifier_23 : decode cX5_readsIdentifier 23 = .ok (.isub, 1) := by decide +kernel
theorem dX5_readsIdentifier_24 : decode cX5_readsIdentifier 24 = .ok (.putfield 195, 3) := by decide +kernel
theorem dX5_readsIdentifier_27 : decode cX5_readsIdentifier 27 = .ok (.aload_n 0, 1) := by decide +kernel
theorem dX5_readsIdentifier_28 : decode cX5_readsIdentifier 28 = .ok (.dup, 1) := by decide +kernel
theorem dX5_readsIdentifier_29 : decode cX5_readsIdentifier 29 = .ok (.getfield 189, 3) := by decide +kernel
theorem dX5_readsIdentifier_32 : decode cX5_readsIdentifier 32 = .ok (.iconst 1, 1) := by decide +kernel
theorem dX5_readsIdentifier_33 : decode cX5_readsIdentifier 33 = .ok (.iadd, 1) := by decide +kernel
theorem dX5_readsIdentifier_34 : decode cX5_readsIdentifier 34 = .ok (.putfield 189, 3) := by decide +kernel
theorem dX5_readsIdentifier_37 : decode cX5_readsIdentifier 37 = .ok (.aload_n 0, 1) := by decide +kernel
theorem dX5_readsIdentifier_38 : decode cX5_readsIdentifier 38 = .ok (.getfield 195, 3) := by decide +kernel
theorem dX5_readsIdentifier_41 : decode cX5_readsIdentifier 41 = .ok (.ifCond .le 70, 3) := by decide +kernel
theorem dX5_readsIdentifier_44 : decode cX5_readsIdentifier 44 = .ok (.aload_n 0, 1) := by decide +kernel
theorem dX5_readsIdentifier_45 : decode cX5_readsIdentifier 45 = .ok (.invokevirtual 192, 3) := by decide +kernel
theorem dX5_readsIdentifier_48 : decode cX5_readsIdentifier 48 = .ok (.bipush 48, 2) := by decide +kernel
theorem dX5_readsIdentifier_50 : decode cX5_readsIdentifier 50 = .ok (.bipush 57, 2) := by decide +kernel
theorem dX5_readsIdentifier_52 : decode cX5_readsIdentifier 52 = .ok (.invokestatic 78, 3) := by decide +kernel
theorem dX5_readsIdentifier_55 : decode cX5_readsIdentifier 55 = .ok (.ifCond .eq 56, 3) := by decide +kernel
theorem dX5_readsIdentifier_58 : decode cX5_readsIdentifier 58 = .ok (.bipush 10, 2) := by decide +kernel
theorem dX5_readsIdentifier_60 : decode cX5_readsIdentifier 60 = .ok (.aload_n 0, 1) := by decide +kernel
theorem dX5_readsIdentifier_61 : decode cX5_readsIdentifier 61 = .ok (.getfield 195, 3) := by decide +kernel
theorem dX5_readsIdentifier_64 : decode cX5_readsIdentifier 64 = .ok (.imul, 1) := by decide +kernel
theorem dX5_readsIdentifier_65 : decode cX5_readsIdentifier 65 = .ok (.aload_n 0, 1) := by decide +kernel
theorem dX5_readsIdentifier_66 : decode cX5_readsIdentifier 66 = .ok (.invokevirtual 192, 3) := by decide +kernel
theorem dX5_readsIdentifier_69 : decode cX5_readsIdentifier 69 = .ok (.iadd, 1) := by decide +kernel
theorem dX5_readsIdentifier_70 : decode cX5_readsIdentifier 70 = .ok (.bipush 48, 2) := by decide +kernel
theorem dX5_readsIdentifier_72 : decode cX5_readsIdentifier 72 = .ok (.isub, 1) := by decide +kernel
theorem dX5_readsIdentifier_73 : decode cX5_readsIdentifier 73 = .ok (.sipush 800, 3) := by decide +kernel
theorem dX5_readsIdentifier_76 : decode cX5_readsIdentifier 76 = .ok (.if_icmp .ge 35, 3) := by decide +kernel
theorem dX5_readsIdentifier_79 : decode cX5_readsIdentifier 79 = .ok (.aload_n 0, 1) := by decide +kernel
theorem dX5_readsIdentifier_80 : decode cX5_readsIdentifier 80 = .ok (.bipush 10, 2) := by decide +kernel
theorem dX5_readsIdentifier_82 : decode cX5_readsIdentifier 82 = .ok (.aload_n 0, 1) := by decide +kernel
theorem dX5_readsIdentifier_83 : decode cX5_readsIdentifier 83 = .ok (.getfield 195, 3) := by decide +kernel
theorem dX5_readsIdentifier_86 : decode cX5_readsIdentifier 86 = .ok (.imul, 1) := by decide +kernel
theorem dX5_readsIdentifier_87 : decode cX5_readsIdentifier 87 = .ok (.aload_n 0, 1) := by decide +kernel
theorem dX5_readsIdentifier_88 : decode cX5_readsIdentifier 88 = .ok (.invokevirtual 192, 3) := by decide +kernel
theorem dX5_readsIdentifier_91 : decode cX5_readsIdentifier 91 = .ok (.iadd, 1) := by decide +kernel
theorem dX5_readsIdentifier_92 : decode cX5_readsIdentifier 92 = .ok (.bipush 48, 2) := by decide +kernel
theorem dX5_readsIdentifier_94 : decode cX5_readsIdentifier 94 = .ok (.isub, 1) := by decide +kernel
theorem dX5_readsIdentifier_95 : decode cX5_readsIdentifier 95 = .ok (.putfield 195, 3) := by decide +kernel
theorem dX5_readsIdentifier_98 : decode cX5_readsIdentifier 98 = .ok (.aload_n 0, 1) := by decide +kernel
theorem dX5_readsIdentifier_99 : decode cX5_readsIdentifier 99 = .ok (.dup, 1) := by decide +kernel
theorem dX5_readsIdentifier_100 : decode cX5_readsIdentifier 100 = .ok (.getfield 189, 3) := by decide +kernel
theorem dX5_readsIdentifier_103 : decode cX5_readsIdentifier 103 = .ok (.iconst 1, 1) := by decide +kernel
theorem dX5_readsIdentifier_104 : decode cX5_readsIdentifier 104 = .ok (.iadd, 1) := by decide +kernel
theorem dX5_readsIdentifier_105 : decode cX5_readsIdentifier 105 = .ok (.putfield 189, 3) := by decide +kernel
theorem dX5_readsIdentifier_108 : decode cX5_readsIdentifier 108 = .ok (.goto (-71), 3) := by decide +kernel
theorem dX5_readsIdentifier_111 : decode cX5_readsIdentifier 111 = .ok (.iconst 1, 1) := by decide +kernel
theorem dX5_readsIdentifier_112 : decode cX5_readsIdentifier 112 = .ok (.ireturn, 1) := by decide +kernel
theorem dX5_readsData_0 : decode cX5_readsData 0 = .ok (.aload_n 0, 1) := by decide +kernel
theorem dX5_readsData_1 : decode cX5_readsData 1 = .ok (.getfield 189, 3) := by decide +kernel
theorem dX5_readsData_4 : decode cX5_readsData 4 = .ok (.istore_n 1, 1) := by decide +kernel
theorem dX5_readsData_5 : decode cX5_readsData 5 = .ok (.aload_n 0, 1) := by decide +kernel
theorem dX5_readsData_6 : decode cX5_readsData 6 = .ok (.getfield 189, 3) := by decide +kernel
theorem dX5_readsData_9 : decode cX5_readsData 9 = .ok (.iload_n 1, 1) := by decide +kernel
theorem dX5_readsData_10 : decode cX5_readsData 10 = .ok (.isub, 1) := by decide +kernel
theorem dX5_readsData_11 : decode cX5_readsData 11 = .ok (.bipush 40, 2) := by decide +kernel
theorem dX5_readsData_13 : decode cX5_readsData 13 = .ok (.if_icmp .ge 30, 3) := by decide +kernel
theorem dX5_readsData_16 : decode cX5_readsData 16 = .ok (.aload_n 0, 1) := by decide +kernel
theorem dX5_readsData_17 : decode cX5_readsData 17 = .ok (.invokevirtual 192, 3) := by decide +kernel
theorem dX5_readsData_20 : decode cX5_readsData 20 = .ok (.bipush 97, 2) := by decide +kernel
theorem dX5_readsData_22 : decode cX5_readsData 22 = .ok (.bipush 122, 2) := by decide +kernel
theorem dX5_readsData_24 : decode cX5_readsData 24 = .ok (.invokestatic 78, 3) := by decide +kernel
theorem dX5_readsData_27 : decode cX5_readsData 27 = .ok (.ifCond .eq 16, 3) := by decide +kernel
theorem dX5_readsData_30 : decode cX5_readsData 30 = .ok (.aload_n 0, 1) := by decide +kernel
theorem dX5_readsData_31 : decode cX5_readsData 31 = .ok (.dup, 1) := by decide +kernel
theorem dX5_readsData_32 : decode cX5_readsData 32 = .ok (.getfield 189, 3) := by decide +kernel
theorem dX5_readsData_35 : decode cX5_readsData 35 = .ok (.iconst 1, 1) := by decide +kernel
theorem dX5_readsData_36 : decode cX5_readsData 36 = .ok (.iadd, 1) := by decide +kernel
theorem dX5_readsData_37 : decode cX5_readsData 37 = .ok (.putfield 189, 3) := by decide +kernel
theorem dX5_readsData_40 : decode cX5_readsData 40 = .ok (.goto (-35), 3) := by decide +kernel
theorem dX5_readsData_43 : decode cX5_readsData 43 = .ok (.aload_n 0, 1) := by decide +kernel
theorem dX5_readsData_44 : decode cX5_readsData 44 = .ok (.iload_n 1, 1) := by decide +kernel
theorem dX5_readsData_45 : decode cX5_readsData 45 = .ok (.aload_n 0, 1) := by decide +kernel
theorem dX5_readsData_46 : decode cX5_readsData 46 = .ok (.getfield 189, 3) := by decide +kernel
theorem dX5_readsData_49 : decode cX5_readsData 49 = .ok (.invokevirtual 153, 3) := by decide +kernel
theorem dX5_readsData_52 : decode cX5_readsData 52 = .ok (.aload_n 0, 1) := by decide +kernel
theorem dX5_readsData_53 : decode cX5_readsData 53 = .ok (.getfield 85, 3) := by decide +kernel
theorem dX5_readsData_56 : decode cX5_readsData 56 = .ok (.ifCond .le 7, 3) := by decide +kernel
theorem dX5_readsData_59 : decode cX5_readsData 59 = .ok (.iconst 1, 1) := by decide +kernel
theorem dX5_readsData_60 : decode cX5_readsData 60 = .ok (.goto 4, 3) := by decide +kernel
theorem dX5_readsData_63 : decode cX5_readsData 63 = .ok (.iconst 0, 1) := by decide +kernel
theorem dX5_readsData_64 : decode cX5_readsData 64 = .ok (.ireturn, 1) := by decide +kernel
theorem dX5_readsOrder_0 : decode cX5_readsOrder 0 = .ok (.aload_n 0, 1) := by decide +kernel
theorem dX5_readsOrder_1 : decode cX5_readsOrder 1 = .ok (.aload_n 0, 1) := by decide +kernel
theorem dX5_readsOrder_2 : decode cX5_readsOrder 2 = .ok (.invokevirtual 192, 3) := by decide +kernel
theorem dX5_readsOrder_5 : decode cX5_readsOrder 5 = .ok (.putfield 198, 3) := by decide +kernel
theorem dX5_readsOrder_8 : decode cX5_readsOrder 8 = .ok (.aload_n 0, 1) := by decide +kernel
theorem dX5_readsOrder_9 : decode cX5_readsOrder 9 = .ok (.bipush 43, 2) := by decide +kernel
theorem dX5_readsOrder_11 : decode cX5_readsOrder 11 = .ok (.invokevirtual 201, 3) := by decide +kernel
theorem dX5_readsOrder_14 : decode cX5_readsOrder 14 = .ok (.ifCond .eq 8, 3) := by decide +kernel
theorem dX5_readsOrder_17 : decode cX5_readsOrder 17 = .ok (.aload_n 0, 1) := by decide +kernel
theorem dX5_readsOrder_18 : decode cX5_readsOrder 18 = .ok (.invokevirtual 204, 3) := by decide +kernel
theorem dX5_readsOrder_21 : decode cX5_readsOrder 21 = .ok (.ireturn, 1) := by decide +kernel
theorem dX5_readsOrder_22 : decode cX5_readsOrder 22 = .ok (.aload_n 0, 1) := by decide +kernel
theorem dX5_readsOrder_23 : decode cX5_readsOrder 23 = .ok (.bipush 61, 2) := by decide +kernel
theorem dX5_readsOrder_25 : decode cX5_readsOrder 25 = .ok (.invokevirtual 201, 3) := by decide +kernel
theorem dX5_readsOrder_28 : decode cX5_readsOrder 28 = .ok (.ifCond .eq 32, 3) := by decide +kernel
theorem dX5_readsOrder_31 : decode cX5_readsOrder 31 = .ok (.aload_n 0, 1) := by decide +kernel
theorem dX5_readsOrder_32 : decode cX5_readsOrder 32 = .ok (.invokevirtual 208, 3) := by decide +kernel
theorem dX5_readsOrder_35 : decode cX5_readsOrder 35 = .ok (.ifCond .eq 23, 3) := by decide +kernel
theorem dX5_readsOrder_38 : decode cX5_readsOrder 38 = .ok (.aload_n 0, 1) := by decide +kernel
theorem dX5_readsOrder_39 : decode cX5_readsOrder 39 = .ok (.bipush 58, 2) := by decide +kernel
theorem dX5_readsOrder_41 : decode cX5_readsOrder 41 = .ok (.invokevirtual 201, 3) := by decide +kernel
theorem dX5_readsOrder_44 : decode cX5_readsOrder 44 = .ok (.ifCond .eq 14, 3) := by decide +kernel
theorem dX5_readsOrder_47 : decode cX5_readsOrder 47 = .ok (.aload_n 0, 1) := by decide +kernel
theorem dX5_readsOrder_48 : decode cX5_readsOrder 48 = .ok (.invokevirtual 204, 3) := by decide +kernel
theorem dX5_readsOrder_51 : decode cX5_readsOrder 51 = .ok (.ifCond .eq 7, 3) := by decide +kernel
theorem dX5_readsOrder_54 : decode cX5_readsOrder 54 = .ok (.iconst 1, 1) := by decide +kernel
theorem dX5_readsOrder_55 : decode cX5_readsOrder 55 = .ok (.goto 4, 3) := by decide +kernel
theorem dX5_readsOrder_58 : decode cX5_readsOrder 58 = .ok (.iconst 0, 1) := by decide +kernel
theorem dX5_readsOrder_59 : decode cX5_readsOrder 59 = .ok (.ireturn, 1) := by decide +kernel
theorem dX5_readsOrder_60 : decode cX5_readsOrder 60 = .ok (.aload_n 0, 1) := by decide +kernel
theorem dX5_readsOrder_61 : decode cX5_readsOrder 61 = .ok (.bipush 45, 2) := by decide +kernel
theorem dX5_readsOrder_63 : decode cX5_readsOrder 63 = .ok (.invokevirtual 201, 3) := by decide +kernel
theorem dX5_readsOrder_66 : decode cX5_readsOrder 66 = .ok (.ifCond .eq 8, 3) := by decide +kernel
theorem dX5_readsOrder_69 : decode cX5_readsOrder 69 = .ok (.aload_n 0, 1) := by decide +kernel
theorem dX5_readsOrder_70 : decode cX5_readsOrder 70 = .ok (.invokevirtual 208, 3) := by decide +kernel
theorem dX5_readsOrder_73 : decode cX5_readsOrder 73 = .ok (.ireturn, 1) := by decide +kernel
theorem dX5_readsOrder_74 : decode cX5_readsOrder 74 = .ok (.aload_n 0, 1) := by decide +kernel
theorem dX5_readsOrder_75 : decode cX5_readsOrder 75 = .ok (.bipush 94, 2) := by decide +kernel
theorem dX5_readsOrder_77 : decode cX5_readsOrder 77 = .ok (.invokevirtual 201, 3) := by decide +kernel
theorem dX5_readsOrder_80 : decode cX5_readsOrder 80 = .ok (.ireturn, 1) := by decide +kernel
theorem dX5_isComplete_0 : decode cX5_isComplete 0 = .ok (.aload_n 0, 1) := by decide +kernel
theorem dX5_isComplete_1 : decode cX5_isComplete 1 = .ok (.iconst 0, 1) := by decide +kernel
theorem dX5_isComplete_2 : decode cX5_isComplete 2 = .ok (.putfield 189, 3) := by decide +kernel
theorem dX5_isComplete_5 : decode cX5_isComplete 5 = .ok (.aload_n 0, 1) := by decide +kernel
theorem dX5_isComplete_6 : decode cX5_isComplete 6 = .ok (.invokevirtual 211, 3) := by decide +kernel
theorem dX5_isComplete_9 : decode cX5_isComplete 9 = .ok (.ifCond .eq 27, 3) := by decide +kernel
theorem dX5_isComplete_12 : decode cX5_isComplete 12 = .ok (.aload_n 0, 1) := by decide +kernel
theorem dX5_isComplete_13 : decode cX5_isComplete 13 = .ok (.getfield 189, 3) := by decide +kernel
theorem dX5_isComplete_16 : decode cX5_isComplete 16 = .ok (.aload_n 0, 1) := by decide +kernel
theorem dX5_isComplete_17 : decode cX5_isComplete 17 = .ok (.getfield 143, 3) := by decide +kernel
theorem dX5_isComplete_20 : decode cX5_isComplete 20 = .ok (.if_icmp .ne 5, 3) := by decide +kernel
theorem dX5_isComplete_23 : decode cX5_isComplete 23 = .ok (.iconst 1, 1) := by decide +kernel
theorem dX5_isComplete_24 : decode cX5_isComplete 24 = .ok (.ireturn, 1) := by decide +kernel
theorem dX5_isComplete_25 : decode cX5_isComplete 25 = .ok (.aload_n 0, 1) := by decide +kernel
theorem dX5_isComplete_26 : decode cX5_isComplete 26 = .ok (.bipush 59, 2) := by decide +kernel
theorem dX5_isComplete_28 : decode cX5_isComplete 28 = .ok (.invokevirtual 201, 3) := by decide +kernel
theorem dX5_isComplete_31 : decode cX5_isComplete 31 = .ok (.ifCond .ne (-26), 3) := by decide +kernel
theorem dX5_isComplete_34 : decode cX5_isComplete 34 = .ok (.iconst 0, 1) := by decide +kernel
theorem dX5_isComplete_35 : decode cX5_isComplete 35 = .ok (.ireturn, 1) := by decide +kernel
theorem dX5_isComplete_36 : decode cX5_isComplete 36 = .ok (.iconst 0, 1) := by decide +kernel
theorem dX5_isComplete_37 : decode cX5_isComplete 37 = .ok (.ireturn, 1) := by decide +kernel
theorem dX5_firstError_0 : decode cX5_firstError 0 = .ok (.aload_n 0, 1) := by decide +kernel
theorem dX5_firstError_1 : decode cX5_firstError 1 = .ok (.iconst 0, 1) := by decide +kernel
theorem dX5_firstError_2 : decode cX5_firstError 2 = .ok (.putfield 22, 3) := by decide +kernel
theorem dX5_firstError_5 : decode cX5_firstError 5 = .ok (.aload_n 0, 1) := by decide +kernel
theorem dX5_firstError_6 : decode cX5_firstError 6 = .ok (.invokevirtual 214, 3) := by decide +kernel
theorem dX5_firstError_9 : decode cX5_firstError 9 = .ok (.pop, 1) := by decide +kernel
theorem dX5_firstError_10 : decode cX5_firstError 10 = .ok (.aload_n 0, 1) := by decide +kernel
theorem dX5_firstError_11 : decode cX5_firstError 11 = .ok (.getfield 189, 3) := by decide +kernel
theorem dX5_firstError_14 : decode cX5_firstError 14 = .ok (.ireturn, 1) := by decide +kernel
theorem dX5_can_0 : decode cX5_can 0 = .ok (.aload_n 0, 1) := by decide +kernel
theorem dX5_can_1 : decode cX5_can 1 = .ok (.getfield 198, 3) := by decide +kernel
theorem dX5_can_4 : decode cX5_can 4 = .ok (.bipush 43, 2) := by decide +kernel
theorem dX5_can_6 : decode cX5_can 6 = .ok (.if_icmp .ne 26, 3) := by decide +kernel
theorem dX5_can_9 : decode cX5_can 9 = .ok (.aload_n 0, 1) := by decide +kernel
theorem dX5_can_10 : decode cX5_can 10 = .ok (.aload_n 0, 1) := by decide +kernel
theorem dX5_can_11 : decode cX5_can 11 = .ok (.getfield 85, 3) := by decide +kernel
theorem dX5_can_14 : decode cX5_can 14 = .ok (.invokestatic 91, 3) := by decide +kernel
theorem dX5_can_17 : decode cX5_can 17 = .ok (.iconst (-1), 1) := by decide +kernel
theorem dX5_can_18 : decode cX5_can 18 = .ok (.iconst (-1), 1) := by decide +kernel
theorem dX5_can_19 : decode cX5_can 19 = .ok (.invokevirtual 94, 3) := by decide +kernel
theorem dX5_can_22 : decode cX5_can 22 = .ok (.iconst (-1), 1) := by decide +kernel
theorem dX5_can_23 : decode cX5_can 23 = .ok (.if_icmp .eq 7, 3) := by decide +kernel
theorem dX5_can_26 : decode cX5_can 26 = .ok (.iconst 1, 1) := by decide +kernel
theorem dX5_can_27 : decode cX5_can 27 = .ok (.goto 4, 3) := by decide +kernel
theorem dX5_can_30 : decode cX5_can 30 = .ok (.iconst 0, 1) := by decide +kernel
theorem dX5_can_31 : decode cX5_can 31 = .ok (.ireturn, 1) := by decide +kernel
theorem dX5_can_32 : decode cX5_can 32 = .ok (.aload_n 0, 1) := by decide +kernel
theorem dX5_can_33 : decode cX5_can 33 = .ok (.getfield 198, 3) := by decide +kernel
theorem dX5_can_36 : decode cX5_can 36 = .ok (.bipush 94, 2) := by decide +kernel
theorem dX5_can_38 : decode cX5_can 38 = .ok (.if_icmp .eq 39, 3) := by decide +kernel
theorem dX5_can_41 : decode cX5_can 41 = .ok (.aload_n 0, 1) := by decide +kernel
theorem dX5_can_42 : decode cX5_can 42 = .ok (.aload_n 0, 1) := by decide +kernel
theorem dX5_can_43 : decode cX5_can 43 = .ok (.getfield 195, 3) := by decide +kernel
theorem dX5_can_46 : decode cX5_can 46 = .ok (.invokevirtual 160, 3) := by decide +kernel
theorem dX5_can_49 : decode cX5_can 49 = .ok (.ifCond .eq 32, 3) := by decide +kernel
theorem dX5_can_52 : decode cX5_can 52 = .ok (.aload_n 0, 1) := by decide +kernel
theorem dX5_can_53 : decode cX5_can 53 = .ok (.getfield 198, 3) := by decide +kernel
theorem dX5_can_56 : decode cX5_can 56 = .ok (.bipush 45, 2) := by decide +kernel
theorem dX5_can_58 : decode cX5_can 58 = .ok (.if_icmp .eq 19, 3) := by decide +kernel
theorem dX5_can_61 : decode cX5_can 61 = .ok (.aload_n 0, 1) := by decide +kernel
theorem dX5_can_62 : decode cX5_can 62 = .ok (.aload_n 0, 1) := by decide +kernel
theorem dX5_can_63 : decode cX5_can 63 = .ok (.getfield 195, 3) := by decide +kernel
theorem dX5_can_66 : decode cX5_can 66 = .ok (.aload_n 0, 1) := by decide +kernel
theorem dX5_can_67 : decode cX5_can 67 = .ok (.getfield 85, 3) := by decide +kernel
theorem dX5_can_70 : decode cX5_can 70 = .ok (.invokevirtual 119, 3) := by decide +kernel
theorem dX5_can_73 : decode cX5_can 73 = .ok (.iconst (-1), 1) := by decide +kernel
theorem dX5_can_74 : decode cX5_can 74 = .ok (.if_icmp .eq 7, 3) := by decide +kernel
theorem dX5_can_77 : decode cX5_can 77 = .ok (.iconst 1, 1) := by decide +kernel
theorem dX5_can_78 : decode cX5_can 78 = .ok (.goto 4, 3) := by decide +kernel
theorem dX5_can_81 : decode cX5_can 81 = .ok (.iconst 0, 1) := by decide +kernel
theorem dX5_can_82 : decode cX5_can 82 = .ok (.ireturn, 1) := by decide +kernel
theorem dX5_does_0 : decode cX5_does 0 = .ok (.aload_n 0, 1) := by decide +kernel
theorem dX5_does_1 : decode cX5_does 1 = .ok (.getfield 198, 3) := by decide +kernel
theorem dX5_does_4 : decode cX5_does 4 = .ok (.lookupswitch 59 #[(43, 36), (45, 50), (61, 41)], 36) := by decide +kernel
theorem dX5_does_40 : decode cX5_does 40 = .ok (.aload_n 0, 1) := by decide +kernel
theorem dX5_does_41 : decode cX5_does 41 = .ok (.invokevirtual 156, 3) := by decide +kernel
theorem dX5_does_44 : decode cX5_does 44 = .ok (.ireturn, 1) := by decide +kernel
theorem dX5_does_45 : decode cX5_does 45 = .ok (.aload_n 0, 1) := by decide +kernel
theorem dX5_does_46 : decode cX5_does 46 = .ok (.aload_n 0, 1) := by decide +kernel
theorem dX5_does_47 : decode cX5_does 47 = .ok (.getfield 195, 3) := by decide +kernel
theorem dX5_does_50 : decode cX5_does 50 = .ok (.invokevirtual 163, 3) := by decide +kernel
theorem dX5_does_53 : decode cX5_does 53 = .ok (.ireturn, 1) := by decide +kernel
theorem dX5_does_54 : decode cX5_does 54 = .ok (.aload_n 0, 1) := by decide +kernel
theorem dX5_does_55 : decode cX5_does 55 = .ok (.aload_n 0, 1) := by decide +kernel
theorem dX5_does_56 : decode cX5_does 56 = .ok (.getfield 195, 3) := by decide +kernel
theorem dX5_does_59 : decode cX5_does 59 = .ok (.invokevirtual 166, 3) := by decide +kernel
theorem dX5_does_62 : decode cX5_does 62 = .ok (.ireturn, 1) := by decide +kernel
theorem dX5_does_63 : decode cX5_does 63 = .ok (.aload_n 0, 1) := by decide +kernel
theorem dX5_does_64 : decode cX5_does 64 = .ok (.invokevirtual 169, 3) := by decide +kernel
theorem dX5_does_67 : decode cX5_does 67 = .ok (.ireturn, 1) := by decide +kernel
theorem dX5_run_0 : decode cX5_run 0 = .ok (.aload_n 0, 1) := by decide +kernel
theorem dX5_run_1 : decode cX5_run 1 = .ok (.aload_n 0, 1) := by decide +kernel
theorem dX5_run_2 : decode cX5_run 2 = .ok (.invokevirtual 214, 3) := by decide +kernel
theorem dX5_run_5 : decode cX5_run 5 = .ok (.ifCond .eq 7, 3) := by decide +kernel
theorem dX5_run_8 : decode cX5_run 8 = .ok (.iconst 0, 1) := by decide +kernel
theorem dX5_run_9 : decode cX5_run 9 = .ok (.goto 4, 3) := by decide +kernel
theorem dX5_run_12 : decode cX5_run 12 = .ok (.iconst 1, 1) := by decide +kernel
theorem dX5_run_13 : decode cX5_run 13 = .ok (.invokevirtual 146, 3) := by decide +kernel
theorem dX5_run_16 : decode cX5_run 16 = .ok (.ifCond .ne 5, 3) := by decide +kernel
theorem dX5_run_19 : decode cX5_run 19 = .ok (.iconst 0, 1) := by decide +kernel
theorem dX5_run_20 : decode cX5_run 20 = .ok (.ireturn, 1) := by decide +kernel
theorem dX5_run_21 : decode cX5_run 21 = .ok (.aload_n 0, 1) := by decide +kernel
theorem dX5_run_22 : decode cX5_run 22 = .ok (.invokevirtual 150, 3) := by decide +kernel
theorem dX5_run_25 : decode cX5_run 25 = .ok (.aload_n 0, 1) := by decide +kernel
theorem dX5_run_26 : decode cX5_run 26 = .ok (.iconst 0, 1) := by decide +kernel
theorem dX5_run_27 : decode cX5_run 27 = .ok (.putfield 189, 3) := by decide +kernel
theorem dX5_run_30 : decode cX5_run 30 = .ok (.iconst 0, 1) := by decide +kernel
theorem dX5_run_31 : decode cX5_run 31 = .ok (.istore_n 1, 1) := by decide +kernel
theorem dX5_run_32 : decode cX5_run 32 = .ok (.aload_n 0, 1) := by decide +kernel
theorem dX5_run_33 : decode cX5_run 33 = .ok (.invokevirtual 211, 3) := by decide +kernel
theorem dX5_run_36 : decode cX5_run 36 = .ok (.ifCond .eq 35, 3) := by decide +kernel
theorem dX5_run_39 : decode cX5_run 39 = .ok (.aload_n 0, 1) := by decide +kernel
theorem dX5_run_40 : decode cX5_run 40 = .ok (.invokevirtual 217, 3) := by decide +kernel
theorem dX5_run_43 : decode cX5_run 43 = .ok (.ifCond .eq 28, 3) := by decide +kernel
theorem dX5_run_46 : decode cX5_run 46 = .ok (.iload_n 1, 1) := by decide +kernel
theorem dX5_run_47 : decode cX5_run 47 = .ok (.aload_n 0, 1) := by decide +kernel
theorem dX5_run_48 : decode cX5_run 48 = .ok (.invokevirtual 220, 3) := by decide +kernel
theorem dX5_run_51 : decode cX5_run 51 = .ok (.ifCond .lt 7, 3) := by decide +kernel
theorem dX5_run_54 : decode cX5_run 54 = .ok (.iconst 1, 1) := by decide +kernel
theorem dX5_run_55 : decode cX5_run 55 = .ok (.goto 4, 3) := by decide +kernel
theorem dX5_run_58 : decode cX5_run 58 = .ok (.iconst 0, 1) := by decide +kernel
theorem dX5_run_59 : decode cX5_run 59 = .ok (.iadd, 1) := by decide +kernel
theorem dX5_run_60 : decode cX5_run 60 = .ok (.istore_n 1, 1) := by decide +kernel
theorem dX5_run_61 : decode cX5_run 61 = .ok (.aload_n 0, 1) := by decide +kernel
theorem dX5_run_62 : decode cX5_run 62 = .ok (.bipush 59, 2) := by decide +kernel
theorem dX5_run_64 : decode cX5_run 64 = .ok (.invokevirtual 201, 3) := by decide +kernel
theorem dX5_run_67 : decode cX5_run 67 = .ok (.pop, 1) := by decide +kernel
theorem dX5_run_68 : decode cX5_run 68 = .ok (.goto (-36), 3) := by decide +kernel
theorem dX5_run_71 : decode cX5_run 71 = .ok (.aload_n 0, 1) := by decide +kernel
theorem dX5_run_72 : decode cX5_run 72 = .ok (.iconst 0, 1) := by decide +kernel
theorem dX5_run_73 : decode cX5_run 73 = .ok (.putfield 143, 3) := by decide +kernel
theorem dX5_run_76 : decode cX5_run 76 = .ok (.iload_n 1, 1) := by decide +kernel
theorem dX5_run_77 : decode cX5_run 77 = .ok (.ireturn, 1) := by decide +kernel
theorem dX5_undo_0 : decode cX5_undo 0 = .ok (.aload_n 0, 1) := by decide +kernel
theorem dX5_undo_1 : decode cX5_undo 1 = .ok (.aload_n 0, 1) := by decide +kernel
theorem dX5_undo_2 : decode cX5_undo 2 = .ok (.getfield 137, 3) := by decide +kernel
theorem dX5_undo_5 : decode cX5_undo 5 = .ok (.ifCond .le 7, 3) := by decide +kernel
theorem dX5_undo_8 : decode cX5_undo 8 = .ok (.iconst 0, 1) := by decide +kernel
theorem dX5_undo_9 : decode cX5_undo 9 = .ok (.goto 4, 3) := by decide +kernel
theorem dX5_undo_12 : decode cX5_undo 12 = .ok (.iconst 1, 1) := by decide +kernel
theorem dX5_undo_13 : decode cX5_undo 13 = .ok (.invokevirtual 146, 3) := by decide +kernel
theorem dX5_undo_16 : decode cX5_undo 16 = .ok (.ifCond .ne 5, 3) := by decide +kernel
theorem dX5_undo_19 : decode cX5_undo 19 = .ok (.iconst 0, 1) := by decide +kernel
theorem dX5_undo_20 : decode cX5_undo 20 = .ok (.ireturn, 1) := by decide +kernel
theorem dX5_undo_21 : decode cX5_undo 21 = .ok (.aload_n 0, 1) := by decide +kernel
theorem dX5_undo_22 : decode cX5_undo 22 = .ok (.aload_n 0, 1) := by decide +kernel
theorem dX5_undo_23 : decode cX5_undo 23 = .ok (.getfield 137, 3) := by decide +kernel
theorem dX5_undo_26 : decode cX5_undo 26 = .ok (.iconst 0, 1) := by decide +kernel
theorem dX5_undo_27 : decode cX5_undo 27 = .ok (.invokevirtual 140, 3) := by decide +kernel
theorem dX5_undo_30 : decode cX5_undo 30 = .ok (.aload_n 0, 1) := by decide +kernel
theorem dX5_undo_31 : decode cX5_undo 31 = .ok (.dup, 1) := by decide +kernel
theorem dX5_undo_32 : decode cX5_undo 32 = .ok (.getfield 137, 3) := by decide +kernel
theorem dX5_undo_35 : decode cX5_undo 35 = .ok (.iconst 1, 1) := by decide +kernel
theorem dX5_undo_36 : decode cX5_undo 36 = .ok (.isub, 1) := by decide +kernel
theorem dX5_undo_37 : decode cX5_undo 37 = .ok (.putfield 137, 3) := by decide +kernel
theorem dX5_undo_40 : decode cX5_undo 40 = .ok (.aload_n 0, 1) := by decide +kernel
theorem dX5_undo_41 : decode cX5_undo 41 = .ok (.getfield 137, 3) := by decide +kernel
theorem dX5_undo_44 : decode cX5_undo 44 = .ok (.ireturn, 1) := by decide +kernel
theorem dX5_savedStates_0 : decode cX5_savedStates 0 = .ok (.aload_n 0, 1) := by decide +kernel
theorem dX5_savedStates_1 : decode cX5_savedStates 1 = .ok (.iconst 0, 1) := by decide +kernel
theorem dX5_savedStates_2 : decode cX5_savedStates 2 = .ok (.putfield 22, 3) := by decide +kernel
theorem dX5_savedStates_5 : decode cX5_savedStates 5 = .ok (.aload_n 0, 1) := by decide +kernel
theorem dX5_savedStates_6 : decode cX5_savedStates 6 = .ok (.getfield 137, 3) := by decide +kernel
theorem dX5_savedStates_9 : decode cX5_savedStates 9 = .ok (.ireturn, 1) := by decide +kernel
theorem dX5_mix_0 : decode cX5_mix 0 = .ok (.aload_n 0, 1) := by decide +kernel
theorem dX5_mix_1 : decode cX5_mix 1 = .ok (.ldc2_w 223, 3) := by decide +kernel
theorem dX5_mix_4 : decode cX5_mix 4 = .ok (.aload_n 0, 1) := by decide +kernel
theorem dX5_mix_5 : decode cX5_mix 5 = .ok (.getfield 225, 3) := by decide +kernel
theorem dX5_mix_8 : decode cX5_mix 8 = .ok (.lmul, 1) := by decide +kernel
theorem dX5_mix_9 : decode cX5_mix 9 = .ok (.lload_n 1, 1) := by decide +kernel
theorem dX5_mix_10 : decode cX5_mix 10 = .ok (.ladd, 1) := by decide +kernel
theorem dX5_mix_11 : decode cX5_mix 11 = .ok (.putfield 225, 3) := by decide +kernel
theorem dX5_mix_14 : decode cX5_mix 14 = .ok (.return_, 1) := by decide +kernel
theorem dX5_bits_0 : decode cX5_bits 0 = .ok (.fload_n 0, 1) := by decide +kernel
theorem dX5_bits_1 : decode cX5_bits 1 = .ok (.fconst 0, 1) := by decide +kernel
theorem dX5_bits_2 : decode cX5_bits 2 = .ok (.fcmp .l, 1) := by decide +kernel
theorem dX5_bits_3 : decode cX5_bits 3 = .ok (.ifCond .ne 5, 3) := by decide +kernel
theorem dX5_bits_6 : decode cX5_bits 6 = .ok (.iconst 0, 1) := by decide +kernel
theorem dX5_bits_7 : decode cX5_bits 7 = .ok (.ireturn, 1) := by decide +kernel
theorem dX5_bits_8 : decode cX5_bits 8 = .ok (.fload_n 0, 1) := by decide +kernel
theorem dX5_bits_9 : decode cX5_bits 9 = .ok (.fstore_n 1, 1) := by decide +kernel
theorem dX5_bits_10 : decode cX5_bits 10 = .ok (.bipush 127, 2) := by decide +kernel
theorem dX5_bits_12 : decode cX5_bits 12 = .ok (.istore_n 2, 1) := by decide +kernel
theorem dX5_bits_13 : decode cX5_bits 13 = .ok (.fload_n 1, 1) := by decide +kernel
theorem dX5_bits_14 : decode cX5_bits 14 = .ok (.fconst 1, 1) := by decide +kernel
theorem dX5_bits_15 : decode cX5_bits 15 = .ok (.fcmp .g, 1) := by decide +kernel
theorem dX5_bits_16 : decode cX5_bits 16 = .ok (.ifCond .ge 13, 3) := by decide +kernel
theorem dX5_bits_19 : decode cX5_bits 19 = .ok (.fload_n 1, 1) := by decide +kernel
theorem dX5_bits_20 : decode cX5_bits 20 = .ok (.fconst 2, 1) := by decide +kernel
theorem dX5_bits_21 : decode cX5_bits 21 = .ok (.fmul, 1) := by decide +kernel
theorem dX5_bits_22 : decode cX5_bits 22 = .ok (.fstore_n 1, 1) := by decide +kernel
theorem dX5_bits_23 : decode cX5_bits 23 = .ok (.iinc 2 (-1), 3) := by decide +kernel
theorem dX5_bits_26 : decode cX5_bits 26 = .ok (.goto (-13), 3) := by decide +kernel
theorem dX5_bits_29 : decode cX5_bits 29 = .ok (.iload_n 2, 1) := by decide +kernel
theorem dX5_bits_30 : decode cX5_bits 30 = .ok (.ldc 229, 2) := by decide +kernel
theorem dX5_bits_32 : decode cX5_bits 32 = .ok (.imul, 1) := by decide +kernel
theorem dX5_bits_33 : decode cX5_bits 33 = .ok (.fload_n 1, 1) := by decide +kernel
theorem dX5_bits_34 : decode cX5_bits 34 = .ok (.fconst 1, 1) := by decide +kernel
theorem dX5_bits_35 : decode cX5_bits 35 = .ok (.fsub, 1) := by decide +kernel
theorem dX5_bits_36 : decode cX5_bits 36 = .ok (.ldc 230, 2) := by decide +kernel
theorem dX5_bits_38 : decode cX5_bits 38 = .ok (.fmul, 1) := by decide +kernel
theorem dX5_bits_39 : decode cX5_bits 39 = .ok (.f2i, 1) := by decide +kernel
theorem dX5_bits_40 : decode cX5_bits 40 = .ok (.iadd, 1) := by decide +kernel
theorem dX5_bits_41 : decode cX5_bits 41 = .ok (.ireturn, 1) := by decide +kernel
theorem dX5_digest_0 : decode cX5_digest 0 = .ok (.aload_n 0, 1) := by decide +kernel
theorem dX5_digest_1 : decode cX5_digest 1 = .ok (.iconst 0, 1) := by decide +kernel
theorem dX5_digest_2 : decode cX5_digest 2 = .ok (.putfield 22, 3) := by decide +kernel
theorem dX5_digest_5 : decode cX5_digest 5 = .ok (.aload_n 0, 1) := by decide +kernel
theorem dX5_digest_6 : decode cX5_digest 6 = .ok (.ldc2_w 231, 3) := by decide +kernel
theorem dX5_digest_9 : decode cX5_digest 9 = .ok (.putfield 225, 3) := by decide +kernel
theorem dX5_digest_12 : decode cX5_digest 12 = .ok (.aload_n 0, 1) := by decide +kernel
theorem dX5_digest_13 : decode cX5_digest 13 = .ok (.aload_n 0, 1) := by decide +kernel
theorem dX5_digest_14 : decode cX5_digest 14 = .ok (.getfield 7, 3) := by decide +kernel
theorem dX5_digest_17 : decode cX5_digest 17 = .ok (.iconst 0, 1) := by decide +kernel
theorem dX5_digest_18 : decode cX5_digest 18 = .ok (.iaload, 1) := by decide +kernel
theorem dX5_digest_19 : decode cX5_digest 19 = .ok (.i2l, 1) := by decide +kernel
theorem dX5_digest_20 : decode cX5_digest 20 = .ok (.invokevirtual 233, 3) := by decide +kernel
theorem dX5_digest_23 : decode cX5_digest 23 = .ok (.aload_n 0, 1) := by decide +kernel
theorem dX5_digest_24 : decode cX5_digest 24 = .ok (.aload_n 0, 1) := by decide +kernel
theorem dX5_digest_25 : decode cX5_digest 25 = .ok (.iconst 1, 1) := by decide +kernel
theorem dX5_digest_26 : decode cX5_digest 26 = .ok (.iconst 2, 1) := by decide +kernel
theorem dX5_digest_27 : decode cX5_digest 27 = .ok (.invokevirtual 175, 3) := by decide +kernel
theorem dX5_digest_30 : decode cX5_digest 30 = .ok (.i2l, 1) := by decide +kernel
theorem dX5_digest_31 : decode cX5_digest 31 = .ok (.invokevirtual 233, 3) := by decide +kernel
theorem dX5_digest_34 : decode cX5_digest 34 = .ok (.aload_n 0, 1) := by decide +kernel
theorem dX5_digest_35 : decode cX5_digest 35 = .ok (.aload_n 0, 1) := by decide +kernel
theorem dX5_digest_36 : decode cX5_digest 36 = .ok (.iconst 2, 1) := by decide +kernel
theorem dX5_digest_37 : decode cX5_digest 37 = .ok (.iconst 2, 1) := by decide +kernel
theorem dX5_digest_38 : decode cX5_digest 38 = .ok (.invokevirtual 175, 3) := by decide +kernel
theorem dX5_digest_41 : decode cX5_digest 41 = .ok (.i2l, 1) := by decide +kernel
theorem dX5_digest_42 : decode cX5_digest 42 = .ok (.invokevirtual 233, 3) := by decide +kernel
theorem dX5_digest_45 : decode cX5_digest 45 = .ok (.aload_n 0, 1) := by decide +kernel
theorem dX5_digest_46 : decode cX5_digest 46 = .ok (.aload_n 0, 1) := by decide +kernel
theorem dX5_digest_47 : decode cX5_digest 47 = .ok (.getfield 7, 3) := by decide +kernel
theorem dX5_digest_50 : decode cX5_digest 50 = .ok (.iconst 1, 1) := by decide +kernel
theorem dX5_digest_51 : decode cX5_digest 51 = .ok (.iaload, 1) := by decide +kernel
theorem dX5_digest_52 : decode cX5_digest 52 = .ok (.i2l, 1) := by decide +kernel
theorem dX5_digest_53 : decode cX5_digest 53 = .ok (.invokevirtual 233, 3) := by decide +kernel
theorem dX5_digest_56 : decode cX5_digest 56 = .ok (.aload_n 0, 1) := by decide +kernel
theorem dX5_digest_57 : decode cX5_digest 57 = .ok (.aload_n 0, 1) := by decide +kernel
theorem dX5_digest_58 : decode cX5_digest 58 = .ok (.getfield 7, 3) := by decide +kernel
theorem dX5_digest_61 : decode cX5_digest 61 = .ok (.iconst 2, 1) := by decide +kernel
theorem dX5_digest_62 : decode cX5_digest 62 = .ok (.iaload, 1) := by decide +kernel
theorem dX5_digest_63 : decode cX5_digest 63 = .ok (.i2l, 1) := by decide +kernel
theorem dX5_digest_64 : decode cX5_digest 64 = .ok (.invokevirtual 233, 3) := by decide +kernel
theorem dX5_digest_67 : decode cX5_digest 67 = .ok (.aload_n 0, 1) := by decide +kernel
theorem dX5_digest_68 : decode cX5_digest 68 = .ok (.aload_n 0, 1) := by decide +kernel
theorem dX5_digest_69 : decode cX5_digest 69 = .ok (.getfield 7, 3) := by decide +kernel
theorem dX5_digest_72 : decode cX5_digest 72 = .ok (.iconst 3, 1) := by decide +kernel
theorem dX5_digest_73 : decode cX5_digest 73 = .ok (.iaload, 1) := by decide +kernel
theorem dX5_digest_74 : decode cX5_digest 74 = .ok (.i2l, 1) := by decide +kernel
theorem dX5_digest_75 : decode cX5_digest 75 = .ok (.invokevirtual 233, 3) := by decide +kernel
theorem dX5_digest_78 : decode cX5_digest 78 = .ok (.iconst 0, 1) := by decide +kernel
theorem dX5_digest_79 : decode cX5_digest 79 = .ok (.istore_n 1, 1) := by decide +kernel
theorem dX5_digest_80 : decode cX5_digest 80 = .ok (.iload_n 1, 1) := by decide +kernel
theorem dX5_digest_81 : decode cX5_digest 81 = .ok (.aload_n 0, 1) := by decide +kernel
theorem dX5_digest_82 : decode cX5_digest 82 = .ok (.getfield 7, 3) := by decide +kernel
theorem dX5_digest_85 : decode cX5_digest 85 = .ok (.iconst 0, 1) := by decide +kernel
theorem dX5_digest_86 : decode cX5_digest 86 = .ok (.iaload, 1) := by decide +kernel
theorem dX5_digest_87 : decode cX5_digest 87 = .ok (.if_icmp .ge 55, 3) := by decide +kernel
theorem dX5_digest_90 : decode cX5_digest 90 = .ok (.aload_n 0, 1) := by decide +kernel
theorem dX5_digest_91 : decode cX5_digest 91 = .ok (.aload_n 0, 1) := by decide +kernel
theorem dX5_digest_92 : decode cX5_digest 92 = .ok (.iload_n 1, 1) := by decide +kernel
theorem dX5_digest_93 : decode cX5_digest 93 = .ok (.invokevirtual 47, 3) := by decide +kernel
theorem dX5_digest_96 : decode cX5_digest 96 = .ok (.i2l, 1) := by decide +kernel
theorem dX5_digest_97 : decode cX5_digest 97 = .ok (.invokevirtual 233, 3) := by decide +kernel
theorem dX5_digest_100 : decode cX5_digest 100 = .ok (.aload_n 0, 1) := by decide +kernel
theorem dX5_digest_101 : decode cX5_digest 101 = .ok (.aload_n 0, 1) := by decide +kernel
theorem dX5_digest_102 : decode cX5_digest 102 = .ok (.iload_n 1, 1) := by decide +kernel
theorem dX5_digest_103 : decode cX5_digest 103 = .ok (.invokevirtual 62, 3) := by decide +kernel
theorem dX5_digest_106 : decode cX5_digest 106 = .ok (.i2l, 1) := by decide +kernel
theorem dX5_digest_107 : decode cX5_digest 107 = .ok (.invokevirtual 233, 3) := by decide +kernel
theorem dX5_digest_110 : decode cX5_digest 110 = .ok (.iconst 0, 1) := by decide +kernel
theorem dX5_digest_111 : decode cX5_digest 111 = .ok (.istore_n 2, 1) := by decide +kernel
theorem dX5_digest_112 : decode cX5_digest 112 = .ok (.iload_n 2, 1) := by decide +kernel
theorem dX5_digest_113 : decode cX5_digest 113 = .ok (.sipush 128, 3) := by decide +kernel
theorem dX5_digest_116 : decode cX5_digest 116 = .ok (.if_icmp .ge 20, 3) := by decide +kernel
theorem dX5_digest_119 : decode cX5_digest 119 = .ok (.aload_n 0, 1) := by decide +kernel
theorem dX5_digest_120 : decode cX5_digest 120 = .ok (.aload_n 0, 1) := by decide +kernel
theorem dX5_digest_121 : decode cX5_digest 121 = .ok (.iload_n 1, 1) := by decide +kernel
theorem dX5_digest_122 : decode cX5_digest 122 = .ok (.iload_n 2, 1) := by decide +kernel
theorem dX5_digest_123 : decode cX5_digest 123 = .ok (.invokevirtual 178, 3) := by decide +kernel
theorem dX5_digest_126 : decode cX5_digest 126 = .ok (.i2l, 1) := by decide +kernel
theorem dX5_digest_127 : decode cX5_digest 127 = .ok (.invokevirtual 233, 3) := by decide +kernel
theorem dX5_digest_130 : decode cX5_digest 130 = .ok (.iinc 2 1, 3) := by decide +kernel
theorem dX5_digest_133 : decode cX5_digest 133 = .ok (.goto (-21), 3) := by decide +kernel
theorem dX5_digest_136 : decode cX5_digest 136 = .ok (.iinc 1 1, 3) := by decide +kernel
theorem dX5_digest_139 : decode cX5_digest 139 = .ok (.goto (-59), 3) := by decide +kernel
theorem dX5_digest_142 : decode cX5_digest 142 = .ok (.aload_n 0, 1) := by decide +kernel
theorem dX5_digest_143 : decode cX5_digest 143 = .ok (.aload_n 0, 1) := by decide +kernel
theorem dX5_digest_144 : decode cX5_digest 144 = .ok (.invokevirtual 181, 3) := by decide +kernel
theorem dX5_digest_147 : decode cX5_digest 147 = .ok (.d2f, 1) := by decide +kernel
theorem dX5_digest_148 : decode cX5_digest 148 = .ok (.invokestatic 237, 3) := by decide +kernel
theorem dX5_digest_151 : decode cX5_digest 151 = .ok (.i2l, 1) := by decide +kernel
theorem dX5_digest_152 : decode cX5_digest 152 = .ok (.invokevirtual 233, 3) := by decide +kernel
theorem dX5_digest_155 : decode cX5_digest 155 = .ok (.aload_n 0, 1) := by decide +kernel
theorem dX5_digest_156 : decode cX5_digest 156 = .ok (.getfield 225, 3) := by decide +kernel
theorem dX5_digest_159 : decode cX5_digest 159 = .ok (.lreturn, 1) := by decide +kernel
theorem dJ9_max_7cf53_0 : decode cJ9_max_7cf53 0 = .ok (.iload_n 0, 1) := by decide +kernel
theorem dJ9_max_7cf53_1 : decode cJ9_max_7cf53 1 = .ok (.iload_n 1, 1) := by decide +kernel
theorem dJ9_max_7cf53_2 : decode cJ9_max_7cf53 2 = .ok (.if_icmp .lt 7, 3) := by decide +kernel
theorem dJ9_max_7cf53_5 : decode cJ9_max_7cf53 5 = .ok (.iload_n 0, 1) := by decide +kernel
theorem dJ9_max_7cf53_6 : decode cJ9_max_7cf53 6 = .ok (.goto 4, 3) := by decide +kernel
theorem dJ9_max_7cf53_9 : decode cJ9_max_7cf53 9 = .ok (.iload_n 1, 1) := by decide +kernel
theorem dJ9_max_7cf53_10 : decode cJ9_max_7cf53 10 = .ok (.ireturn, 1) := by decide +kernel
theorem dJ9_min_7cf53_0 : decode cJ9_min_7cf53 0 = .ok (.iload_n 0, 1) := by decide +kernel
theorem dJ9_min_7cf53_1 : decode cJ9_min_7cf53 1 = .ok (.iload_n 1, 1) := by decide +kernel
theorem dJ9_min_7cf53_2 : decode cJ9_min_7cf53 2 = .ok (.if_icmp .gt 7, 3) := by decide +kernel
theorem dJ9_min_7cf53_5 : decode cJ9_min_7cf53 5 = .ok (.iload_n 0, 1) := by decide +kernel
theorem dJ9_min_7cf53_6 : decode cJ9_min_7cf53 6 = .ok (.goto 4, 3) := by decide +kernel
theorem dJ9_min_7cf53_9 : decode cJ9_min_7cf53 9 = .ok (.iload_n 1, 1) := by decide +kernel
theorem dJ9_min_7cf53_10 : decode cJ9_min_7cf53 10 = .ok (.ireturn, 1) := by decide +kernel
theorem dL_append_0 : decode cL_append 0 = .ok (.aload_n 2, 1) := by decide +kernel
theorem dL_append_1 : decode cL_append 1 = .ok (.iconst 0, 1) := by decide +kernel
theorem dL_append_2 : decode cL_append 2 = .ok (.aload_n 0, 1) := by decide +kernel
theorem dL_append_3 : decode cL_append 3 = .ok (.iload_n 1, 1) := by decide +kernel
theorem dL_append_4 : decode cL_append 4 = .ok (.invokevirtual 7, 3) := by decide +kernel
theorem dL_append_7 : decode cL_append 7 = .ok (.i2l, 1) := by decide +kernel
theorem dL_append_8 : decode cL_append 8 = .ok (.lastore, 1) := by decide +kernel
theorem dL_append_9 : decode cL_append 9 = .ok (.goto 9, 3) := by decide +kernel
theorem dL_append_12 : decode cL_append 12 = .ok (.astore_n 3, 1) := by decide +kernel
theorem dL_append_13 : decode cL_append 13 = .ok (.iconst 1, 1) := by decide +kernel
theorem dL_append_14 : decode cL_append 14 = .ok (.ireturn, 1) := by decide +kernel
theorem dL_append_15 : decode cL_append 15 = .ok (.astore_n 3, 1) := by decide +kernel
theorem dL_append_16 : decode cL_append 16 = .ok (.iconst 2, 1) := by decide +kernel
theorem dL_append_17 : decode cL_append 17 = .ok (.ireturn, 1) := by decide +kernel
theorem dL_append_18 : decode cL_append 18 = .ok (.iconst 0, 1) := by decide +kernel
theorem dL_append_19 : decode cL_append 19 = .ok (.ireturn, 1) := by decide +kernel
theorem dL_fill_0 : decode cL_fill 0 = .ok (.aload_n 3, 1) := by decide +kernel
theorem dL_fill_1 : decode cL_fill 1 = .ok (.iconst 0, 1) := by decide +kernel
theorem dL_fill_2 : decode cL_fill 2 = .ok (.aload_n 0, 1) := by decide +kernel
theorem dL_fill_3 : decode cL_fill 3 = .ok (.iload_n 1, 1) := by decide +kernel
theorem dL_fill_4 : decode cL_fill 4 = .ok (.iload_n 2, 1) := by decide +kernel
theorem dL_fill_5 : decode cL_fill 5 = .ok (.invokevirtual 17, 3) := by decide +kernel
theorem dL_fill_8 : decode cL_fill 8 = .ok (.i2l, 1) := by decide +kernel
theorem dL_fill_9 : decode cL_fill 9 = .ok (.lastore, 1) := by decide +kernel
theorem dL_fill_10 : decode cL_fill 10 = .ok (.goto 11, 3) := by decide +kernel
theorem dL_fill_13 : decode cL_fill 13 = .ok (.astore 4, 2) := by decide +kernel
theorem dL_fill_15 : decode cL_fill 15 = .ok (.iconst 1, 1) := by decide +kernel
theorem dL_fill_16 : decode cL_fill 16 = .ok (.ireturn, 1) := by decide +kernel
theorem dL_fill_17 : decode cL_fill 17 = .ok (.astore 4, 2) := by decide +kernel
theorem dL_fill_19 : decode cL_fill 19 = .ok (.iconst 2, 1) := by decide +kernel
theorem dL_fill_20 : decode cL_fill 20 = .ok (.ireturn, 1) := by decide +kernel
theorem dL_fill_21 : decode cL_fill 21 = .ok (.iconst 0, 1) := by decide +kernel
theorem dL_fill_22 : decode cL_fill 22 = .ok (.ireturn, 1) := by decide +kernel
theorem dL_insert_0 : decode cL_insert 0 = .ok (.aload_n 1, 1) := by decide +kernel
theorem dL_insert_1 : decode cL_insert 1 = .ok (.iconst 0, 1) := by decide +kernel
theorem dL_insert_2 : decode cL_insert 2 = .ok (.aload_n 0, 1) := by decide +kernel
theorem dL_insert_3 : decode cL_insert 3 = .ok (.invokevirtual 21, 3) := by decide +kernel
theorem dL_insert_6 : decode cL_insert 6 = .ok (.i2l, 1) := by decide +kernel
theorem dL_insert_7 : decode cL_insert 7 = .ok (.lastore, 1) := by decide +kernel
theorem dL_insert_8 : decode cL_insert 8 = .ok (.goto 6, 3) := by decide +kernel
theorem dL_insert_11 : decode cL_insert 11 = .ok (.astore_n 2, 1) := by decide +kernel
theorem dL_insert_12 : decode cL_insert 12 = .ok (.iconst 1, 1) := by decide +kernel
theorem dL_insert_13 : decode cL_insert 13 = .ok (.ireturn, 1) := by decide +kernel
theorem dL_insert_14 : decode cL_insert 14 = .ok (.iconst 0, 1) := by decide +kernel
theorem dL_insert_15 : decode cL_insert 15 = .ok (.ireturn, 1) := by decide +kernel
theorem dL_update_0 : decode cL_update 0 = .ok (.aload_n 2, 1) := by decide +kernel
theorem dL_update_1 : decode cL_update 1 = .ok (.iconst 0, 1) := by decide +kernel
theorem dL_update_2 : decode cL_update 2 = .ok (.aload_n 0, 1) := by decide +kernel
theorem dL_update_3 : decode cL_update 3 = .ok (.iload_n 1, 1) := by decide +kernel
theorem dL_update_4 : decode cL_update 4 = .ok (.invokevirtual 25, 3) := by decide +kernel
theorem dL_update_7 : decode cL_update 7 = .ok (.i2l, 1) := by decide +kernel
theorem dL_update_8 : decode cL_update 8 = .ok (.lastore, 1) := by decide +kernel
theorem dL_update_9 : decode cL_update 9 = .ok (.goto 9, 3) := by decide +kernel
theorem dL_update_12 : decode cL_update 12 = .ok (.astore_n 3, 1) := by decide +kernel
theorem dL_update_13 : decode cL_update 13 = .ok (.iconst 1, 1) := by decide +kernel
theorem dL_update_14 : decode cL_update 14 = .ok (.ireturn, 1) := by decide +kernel
theorem dL_update_15 : decode cL_update 15 = .ok (.astore_n 3, 1) := by decide +kernel
theorem dL_update_16 : decode cL_update 16 = .ok (.iconst 2, 1) := by decide +kernel
theorem dL_update_17 : decode cL_update 17 = .ok (.ireturn, 1) := by decide +kernel
theorem dL_update_18 : decode cL_update 18 = .ok (.iconst 0, 1) := by decide +kernel
theorem dL_update_19 : decode cL_update 19 = .ok (.ireturn, 1) := by decide +kernel
theorem dL_delete_0 : decode cL_delete 0 = .ok (.aload_n 2, 1) := by decide +kernel
theorem dL_delete_1 : decode cL_delete 1 = .ok (.iconst 0, 1) := by decide +kernel
theorem dL_delete_2 : decode cL_delete 2 = .ok (.aload_n 0, 1) := by decide +kernel
theorem dL_delete_3 : decode cL_delete 3 = .ok (.iload_n 1, 1) := by decide +kernel
theorem dL_delete_4 : decode cL_delete 4 = .ok (.invokevirtual 30, 3) := by decide +kernel
theorem dL_delete_7 : decode cL_delete 7 = .ok (.i2l, 1) := by decide +kernel
theorem dL_delete_8 : decode cL_delete 8 = .ok (.lastore, 1) := by decide +kernel
theorem dL_delete_9 : decode cL_delete 9 = .ok (.goto 6, 3) := by decide +kernel
theorem dL_delete_12 : decode cL_delete 12 = .ok (.astore_n 3, 1) := by decide +kernel
theorem dL_delete_13 : decode cL_delete 13 = .ok (.iconst 1, 1) := by decide +kernel
theorem dL_delete_14 : decode cL_delete 14 = .ok (.ireturn, 1) := by decide +kernel
theorem dL_delete_15 : decode cL_delete 15 = .ok (.iconst 0, 1) := by decide +kernel
theorem dL_delete_16 : decode cL_delete 16 = .ok (.ireturn, 1) := by decide +kernel
theorem dL_compact_0 : decode cL_compact 0 = .ok (.aload_n 2, 1) := by decide +kernel
theorem dL_compact_1 : decode cL_compact 1 = .ok (.iconst 0, 1) := by decide +kernel
theorem dL_compact_2 : decode cL_compact 2 = .ok (.aload_n 0, 1) := by decide +kernel
theorem dL_compact_3 : decode cL_compact 3 = .ok (.iload_n 1, 1) := by decide +kernel
theorem dL_compact_4 : decode cL_compact 4 = .ok (.invokevirtual 33, 3) := by decide +kernel
theorem dL_compact_7 : decode cL_compact 7 = .ok (.i2l, 1) := by decide +kernel
theorem dL_compact_8 : decode cL_compact 8 = .ok (.lastore, 1) := by decide +kernel
theorem dL_compact_9 : decode cL_compact 9 = .ok (.goto 6, 3) := by decide +kernel
theorem dL_compact_12 : decode cL_compact 12 = .ok (.astore_n 3, 1) := by decide +kernel
theorem dL_compact_13 : decode cL_compact 13 = .ok (.iconst 1, 1) := by decide +kernel
theorem dL_compact_14 : decode cL_compact 14 = .ok (.ireturn, 1) := by decide +kernel
theorem dL_compact_15 : decode cL_compact 15 = .ok (.iconst 0, 1) := by decide +kernel
theorem dL_compact_16 : decode cL_compact 16 = .ok (.ireturn, 1) := by decide +kernel
theorem dL_length_0 : decode cL_length 0 = .ok (.aload_n 2, 1) := by decide +kernel
theorem dL_length_1 : decode cL_length 1 = .ok (.iconst 0, 1) := by decide +kernel
theorem dL_length_2 : decode cL_length 2 = .ok (.aload_n 0, 1) := by decide +kernel
theorem dL_length_3 : decode cL_length 3 = .ok (.iload_n 1, 1) := by decide +kernel
theorem dL_length_4 : decode cL_length 4 = .ok (.invokevirtual 36, 3) := by decide +kernel
theorem dL_length_7 : decode cL_length 7 = .ok (.i2l, 1) := by decide +kernel
theorem dL_length_8 : decode cL_length 8 = .ok (.lastore, 1) := by decide +kernel
theorem dL_length_9 : decode cL_length 9 = .ok (.goto 6, 3) := by decide +kernel
theorem dL_length_12 : decode cL_length 12 = .ok (.astore_n 3, 1) := by decide +kernel
theorem dL_length_13 : decode cL_length 13 = .ok (.iconst 1, 1) := by decide +kernel
theorem dL_length_14 : decode cL_length 14 = .ok (.ireturn, 1) := by decide +kernel
theorem dL_length_15 : decode cL_length 15 = .ok (.iconst 0, 1) := by decide +kernel
theorem dL_length_16 : decode cL_length 16 = .ok (.ireturn, 1) := by decide +kernel
theorem dL_byteOf_0 : decode cL_byteOf 0 = .ok (.aload_n 3, 1) := by decide +kernel
theorem dL_byteOf_1 : decode cL_byteOf 1 = .ok (.iconst 0, 1) := by decide +kernel
theorem dL_byteOf_2 : decode cL_byteOf 2 = .ok (.aload_n 0, 1) := by decide +kernel
theorem dL_byteOf_3 : decode cL_byteOf 3 = .ok (.iload_n 1, 1) := by decide +kernel
theorem dL_byteOf_4 : decode cL_byteOf 4 = .ok (.iload_n 2, 1) := by decide +kernel
theorem dL_byteOf_5 : decode cL_byteOf 5 = .ok (.invokevirtual 39, 3) := by decide +kernel
theorem dL_byteOf_8 : decode cL_byteOf 8 = .ok (.i2l, 1) := by decide +kernel
theorem dL_byteOf_9 : decode cL_byteOf 9 = .ok (.lastore, 1) := by decide +kernel
theorem dL_byteOf_10 : decode cL_byteOf 10 = .ok (.goto 7, 3) := by decide +kernel
theorem dL_byteOf_13 : decode cL_byteOf 13 = .ok (.astore 4, 2) := by decide +kernel
theorem dL_byteOf_15 : decode cL_byteOf 15 = .ok (.iconst 1, 1) := by decide +kernel
theorem dL_byteOf_16 : decode cL_byteOf 16 = .ok (.ireturn, 1) := by decide +kernel
theorem dL_byteOf_17 : decode cL_byteOf 17 = .ok (.iconst 0, 1) := by decide +kernel
theorem dL_byteOf_18 : decode cL_byteOf 18 = .ok (.ireturn, 1) := by decide +kernel
theorem dL_placeOf_0 : decode cL_placeOf 0 = .ok (.aload_n 2, 1) := by decide +kernel
theorem dL_placeOf_1 : decode cL_placeOf 1 = .ok (.iconst 0, 1) := by decide +kernel
theorem dL_placeOf_2 : decode cL_placeOf 2 = .ok (.aload_n 0, 1) := by decide +kernel
theorem dL_placeOf_3 : decode cL_placeOf 3 = .ok (.iload_n 1, 1) := by decide +kernel
theorem dL_placeOf_4 : decode cL_placeOf 4 = .ok (.invokevirtual 42, 3) := by decide +kernel
theorem dL_placeOf_7 : decode cL_placeOf 7 = .ok (.i2l, 1) := by decide +kernel
theorem dL_placeOf_8 : decode cL_placeOf 8 = .ok (.lastore, 1) := by decide +kernel
theorem dL_placeOf_9 : decode cL_placeOf 9 = .ok (.goto 6, 3) := by decide +kernel
theorem dL_placeOf_12 : decode cL_placeOf 12 = .ok (.astore_n 3, 1) := by decide +kernel
theorem dL_placeOf_13 : decode cL_placeOf 13 = .ok (.iconst 1, 1) := by decide +kernel
theorem dL_placeOf_14 : decode cL_placeOf 14 = .ok (.ireturn, 1) := by decide +kernel
theorem dL_placeOf_15 : decode cL_placeOf 15 = .ok (.iconst 0, 1) := by decide +kernel
theorem dL_placeOf_16 : decode cL_placeOf 16 = .ok (.ireturn, 1) := by decide +kernel
theorem dL_pageByte_0 : decode cL_pageByte 0 = .ok (.aload_n 3, 1) := by decide +kernel
theorem dL_pageByte_1 : decode cL_pageByte 1 = .ok (.iconst 0, 1) := by decide +kernel
theorem dL_pageByte_2 : decode cL_pageByte 2 = .ok (.aload_n 0, 1) := by decide +kernel
theorem dL_pageByte_3 : decode cL_pageByte 3 = .ok (.iload_n 1, 1) := by decide +kernel
theorem dL_pageByte_4 : decode cL_pageByte 4 = .ok (.iload_n 2, 1) := by decide +kernel
theorem dL_pageByte_5 : decode cL_pageByte 5 = .ok (.invokevirtual 45, 3) := by decide +kernel
theorem dL_pageByte_8 : decode cL_pageByte 8 = .ok (.i2l, 1) := by decide +kernel
theorem dL_pageByte_9 : decode cL_pageByte 9 = .ok (.lastore, 1) := by decide +kernel
theorem dL_pageByte_10 : decode cL_pageByte 10 = .ok (.goto 7, 3) := by decide +kernel
theorem dL_pageByte_13 : decode cL_pageByte 13 = .ok (.astore 4, 2) := by decide +kernel
theorem dL_pageByte_15 : decode cL_pageByte 15 = .ok (.iconst 1, 1) := by decide +kernel
theorem dL_pageByte_16 : decode cL_pageByte 16 = .ok (.ireturn, 1) := by decide +kernel
theorem dL_pageByte_17 : decode cL_pageByte 17 = .ok (.iconst 0, 1) := by decide +kernel
theorem dL_pageByte_18 : decode cL_pageByte 18 = .ok (.ireturn, 1) := by decide +kernel
theorem dL_free_0 : decode cL_free 0 = .ok (.aload_n 2, 1) := by decide +kernel
theorem dL_free_1 : decode cL_free 1 = .ok (.iconst 0, 1) := by decide +kernel
theorem dL_free_2 : decode cL_free 2 = .ok (.aload_n 0, 1) := by decide +kernel
theorem dL_free_3 : decode cL_free 3 = .ok (.iload_n 1, 1) := by decide +kernel
theorem dL_free_4 : decode cL_free 4 = .ok (.invokevirtual 48, 3) := by decide +kernel
theorem dL_free_7 : decode cL_free 7 = .ok (.i2l, 1) := by decide +kernel
theorem dL_free_8 : decode cL_free 8 = .ok (.lastore, 1) := by decide +kernel
theorem dL_free_9 : decode cL_free 9 = .ok (.goto 6, 3) := by decide +kernel
theorem dL_free_12 : decode cL_free 12 = .ok (.astore_n 3, 1) := by decide +kernel
theorem dL_free_13 : decode cL_free 13 = .ok (.iconst 1, 1) := by decide +kernel
theorem dL_free_14 : decode cL_free 14 = .ok (.ireturn, 1) := by decide +kernel
theorem dL_free_15 : decode cL_free 15 = .ok (.iconst 0, 1) := by decide +kernel
theorem dL_free_16 : decode cL_free 16 = .ok (.ireturn, 1) := by decide +kernel
theorem dL_gap_0 : decode cL_gap 0 = .ok (.aload_n 2, 1) := by decide +kernel
theorem dL_gap_1 : decode cL_gap 1 = .ok (.iconst 0, 1) := by decide +kernel
theorem dL_gap_2 : decode cL_gap 2 = .ok (.aload_n 0, 1) := by decide +kernel
theorem dL_gap_3 : decode cL_gap 3 = .ok (.iload_n 1, 1) := by decide +kernel
theorem dL_gap_4 : decode cL_gap 4 = .ok (.invokevirtual 51, 3) := by decide +kernel
theorem dL_gap_7 : decode cL_gap 7 = .ok (.i2l, 1) := by decide +kernel
theorem dL_gap_8 : decode cL_gap 8 = .ok (.lastore, 1) := by decide +kernel
theorem dL_gap_9 : decode cL_gap 9 = .ok (.goto 6, 3) := by decide +kernel
theorem dL_gap_12 : decode cL_gap 12 = .ok (.astore_n 3, 1) := by decide +kernel
theorem dL_gap_13 : decode cL_gap 13 = .ok (.iconst 1, 1) := by decide +kernel
theorem dL_gap_14 : decode cL_gap 14 = .ok (.ireturn, 1) := by decide +kernel
theorem dL_gap_15 : decode cL_gap 15 = .ok (.iconst 0, 1) := by decide +kernel
theorem dL_gap_16 : decode cL_gap 16 = .ok (.ireturn, 1) := by decide +kernel
theorem dL_ifInserted_0 : decode cL_ifInserted 0 = .ok (.aload_n 2, 1) := by decide +kernel
theorem dL_ifInserted_1 : decode cL_ifInserted 1 = .ok (.iconst 0, 1) := by decide +kernel
theorem dL_ifInserted_2 : decode cL_ifInserted 2 = .ok (.aload_n 0, 1) := by decide +kernel
theorem dL_ifInserted_3 : decode cL_ifInserted 3 = .ok (.iload_n 1, 1) := by decide +kernel
theorem dL_ifInserted_4 : decode cL_ifInserted 4 = .ok (.invokevirtual 54, 3) := by decide +kernel
theorem dL_ifInserted_7 : decode cL_ifInserted 7 = .ok (.i2l, 1) := by decide +kernel
theorem dL_ifInserted_8 : decode cL_ifInserted 8 = .ok (.lastore, 1) := by decide +kernel
theorem dL_ifInserted_9 : decode cL_ifInserted 9 = .ok (.goto 6, 3) := by decide +kernel
theorem dL_ifInserted_12 : decode cL_ifInserted 12 = .ok (.astore_n 3, 1) := by decide +kernel
theorem dL_ifInserted_13 : decode cL_ifInserted 13 = .ok (.iconst 1, 1) := by decide +kernel
theorem dL_ifInserted_14 : decode cL_ifInserted 14 = .ok (.ireturn, 1) := by decide +kernel
theorem dL_ifInserted_15 : decode cL_ifInserted 15 = .ok (.iconst 0, 1) := by decide +kernel
theorem dL_ifInserted_16 : decode cL_ifInserted 16 = .ok (.ireturn, 1) := by decide +kernel
theorem dL_ifUpdated_0 : decode cL_ifUpdated 0 = .ok (.aload_n 3, 1) := by decide +kernel
theorem dL_ifUpdated_1 : decode cL_ifUpdated 1 = .ok (.iconst 0, 1) := by decide +kernel
theorem dL_ifUpdated_2 : decode cL_ifUpdated 2 = .ok (.aload_n 0, 1) := by decide +kernel
theorem dL_ifUpdated_3 : decode cL_ifUpdated 3 = .ok (.iload_n 1, 1) := by decide +kernel
theorem dL_ifUpdated_4 : decode cL_ifUpdated 4 = .ok (.iload_n 2, 1) := by decide +kernel
theorem dL_ifUpdated_5 : decode cL_ifUpdated 5 = .ok (.invokevirtual 57, 3) := by decide +kernel
theorem dL_ifUpdated_8 : decode cL_ifUpdated 8 = .ok (.i2l, 1) := by decide +kernel
theorem dL_ifUpdated_9 : decode cL_ifUpdated 9 = .ok (.lastore, 1) := by decide +kernel
theorem dL_ifUpdated_10 : decode cL_ifUpdated 10 = .ok (.goto 11, 3) := by decide +kernel
theorem dL_ifUpdated_13 : decode cL_ifUpdated 13 = .ok (.astore 4, 2) := by decide +kernel
theorem dL_ifUpdated_15 : decode cL_ifUpdated 15 = .ok (.iconst 1, 1) := by decide +kernel
theorem dL_ifUpdated_16 : decode cL_ifUpdated 16 = .ok (.ireturn, 1) := by decide +kernel
theorem dL_ifUpdated_17 : decode cL_ifUpdated 17 = .ok (.astore 4, 2) := by decide +kernel
theorem dL_ifUpdated_19 : decode cL_ifUpdated 19 = .ok (.iconst 2, 1) := by decide +kernel
theorem dL_ifUpdated_20 : decode cL_ifUpdated 20 = .ok (.ireturn, 1) := by decide +kernel
theorem dL_ifUpdated_21 : decode cL_ifUpdated 21 = .ok (.iconst 0, 1) := by decide +kernel
theorem dL_ifUpdated_22 : decode cL_ifUpdated 22 = .ok (.ireturn, 1) := by decide +kernel
theorem dL_greatestAtHome_0 : decode cL_greatestAtHome 0 = .ok (.aload_n 2, 1) := by decide +kernel
theorem dL_greatestAtHome_1 : decode cL_greatestAtHome 1 = .ok (.iconst 0, 1) := by decide +kernel
theorem dL_greatestAtHome_2 : decode cL_greatestAtHome 2 = .ok (.aload_n 0, 1) := by decide +kernel
theorem dL_greatestAtHome_3 : decode cL_greatestAtHome 3 = .ok (.iload_n 1, 1) := by decide +kernel
theorem dL_greatestAtHome_4 : decode cL_greatestAtHome 4 = .ok (.invokevirtual 60, 3) := by decide +kernel
theorem dL_greatestAtHome_7 : decode cL_greatestAtHome 7 = .ok (.i2l, 1) := by decide +kernel
theorem dL_greatestAtHome_8 : decode cL_greatestAtHome 8 = .ok (.lastore, 1) := by decide +kernel
theorem dL_greatestAtHome_9 : decode cL_greatestAtHome 9 = .ok (.goto 6, 3) := by decide +kernel
theorem dL_greatestAtHome_12 : decode cL_greatestAtHome 12 = .ok (.astore_n 3, 1) := by decide +kernel
theorem dL_greatestAtHome_13 : decode cL_greatestAtHome 13 = .ok (.iconst 1, 1) := by decide +kernel
theorem dL_greatestAtHome_14 : decode cL_greatestAtHome 14 = .ok (.ireturn, 1) := by decide +kernel
theorem dL_greatestAtHome_15 : decode cL_greatestAtHome 15 = .ok (.iconst 0, 1) := by decide +kernel
theorem dL_greatestAtHome_16 : decode cL_greatestAtHome 16 = .ok (.ireturn, 1) := by decide +kernel
theorem dL_capacity_0 : decode cL_capacity 0 = .ok (.aload_n 2, 1) := by decide +kernel
theorem dL_capacity_1 : decode cL_capacity 1 = .ok (.iconst 0, 1) := by decide +kernel
theorem dL_capacity_2 : decode cL_capacity 2 = .ok (.aload_n 0, 1) := by decide +kernel
theorem dL_capacity_3 : decode cL_capacity 3 = .ok (.iload_n 1, 1) := by decide +kernel
theorem dL_capacity_4 : decode cL_capacity 4 = .ok (.invokevirtual 63, 3) := by decide +kernel
theorem dL_capacity_7 : decode cL_capacity 7 = .ok (.i2l, 1) := by decide +kernel
theorem dL_capacity_8 : decode cL_capacity 8 = .ok (.lastore, 1) := by decide +kernel
theorem dL_capacity_9 : decode cL_capacity 9 = .ok (.goto 6, 3) := by decide +kernel
theorem dL_capacity_12 : decode cL_capacity 12 = .ok (.astore_n 3, 1) := by decide +kernel
theorem dL_capacity_13 : decode cL_capacity 13 = .ok (.iconst 1, 1) := by decide +kernel
theorem dL_capacity_14 : decode cL_capacity 14 = .ok (.ireturn, 1) := by decide +kernel
theorem dL_capacity_15 : decode cL_capacity 15 = .ok (.iconst 0, 1) := by decide +kernel
theorem dL_capacity_16 : decode cL_capacity 16 = .ok (.ireturn, 1) := by decide +kernel
theorem dL_run_0 : decode cL_run 0 = .ok (.aload_n 1, 1) := by decide +kernel
theorem dL_run_1 : decode cL_run 1 = .ok (.iconst 0, 1) := by decide +kernel
theorem dL_run_2 : decode cL_run 2 = .ok (.aload_n 0, 1) := by decide +kernel
theorem dL_run_3 : decode cL_run 3 = .ok (.invokevirtual 66, 3) := by decide +kernel
theorem dL_run_6 : decode cL_run 6 = .ok (.i2l, 1) := by decide +kernel
theorem dL_run_7 : decode cL_run 7 = .ok (.lastore, 1) := by decide +kernel
theorem dL_run_8 : decode cL_run 8 = .ok (.goto 6, 3) := by decide +kernel
theorem dL_run_11 : decode cL_run 11 = .ok (.astore_n 2, 1) := by decide +kernel
theorem dL_run_12 : decode cL_run 12 = .ok (.iconst 1, 1) := by decide +kernel
theorem dL_run_13 : decode cL_run 13 = .ok (.ireturn, 1) := by decide +kernel
theorem dL_run_14 : decode cL_run 14 = .ok (.iconst 0, 1) := by decide +kernel
theorem dL_run_15 : decode cL_run 15 = .ok (.ireturn, 1) := by decide +kernel
theorem dL_undo_0 : decode cL_undo 0 = .ok (.aload_n 1, 1) := by decide +kernel
theorem dL_undo_1 : decode cL_undo 1 = .ok (.iconst 0, 1) := by decide +kernel
theorem dL_undo_2 : decode cL_undo 2 = .ok (.aload_n 0, 1) := by decide +kernel
theorem dL_undo_3 : decode cL_undo 3 = .ok (.invokevirtual 69, 3) := by decide +kernel
theorem dL_undo_6 : decode cL_undo 6 = .ok (.i2l, 1) := by decide +kernel
theorem dL_undo_7 : decode cL_undo 7 = .ok (.lastore, 1) := by decide +kernel
theorem dL_undo_8 : decode cL_undo 8 = .ok (.goto 6, 3) := by decide +kernel
theorem dL_undo_11 : decode cL_undo 11 = .ok (.astore_n 2, 1) := by decide +kernel
theorem dL_undo_12 : decode cL_undo 12 = .ok (.iconst 1, 1) := by decide +kernel
theorem dL_undo_13 : decode cL_undo 13 = .ok (.ireturn, 1) := by decide +kernel
theorem dL_undo_14 : decode cL_undo 14 = .ok (.iconst 0, 1) := by decide +kernel
theorem dL_undo_15 : decode cL_undo 15 = .ok (.ireturn, 1) := by decide +kernel
theorem dL_law_0 : decode cL_law 0 = .ok (.new 8, 3) := by decide +kernel
theorem dL_law_3 : decode cL_law 3 = .ok (.dup, 1) := by decide +kernel
theorem dL_law_4 : decode cL_law 4 = .ok (.invokespecial 72, 3) := by decide +kernel
theorem dL_law_7 : decode cL_law 7 = .ok (.astore_n 1, 1) := by decide +kernel
theorem dL_law_8 : decode cL_law 8 = .ok (.new 73, 3) := by decide +kernel
theorem dL_law_11 : decode cL_law 11 = .ok (.dup, 1) := by decide +kernel
theorem dL_law_12 : decode cL_law 12 = .ok (.invokespecial 75, 3) := by decide +kernel
theorem dL_law_15 : decode cL_law 15 = .ok (.astore_n 2, 1) := by decide +kernel
theorem dL_law_16 : decode cL_law 16 = .ok (.iconst 1, 1) := by decide +kernel
theorem dL_law_17 : decode cL_law 17 = .ok (.newarray .long, 2) := by decide +kernel
theorem dL_law_19 : decode cL_law 19 = .ok (.astore_n 3, 1) := by decide +kernel
theorem dL_law_20 : decode cL_law 20 = .ok (.iconst 0, 1) := by decide +kernel
theorem dL_law_21 : decode cL_law 21 = .ok (.istore 4, 2) := by decide +kernel
theorem dL_law_23 : decode cL_law 23 = .ok (.iload 4, 2) := by decide +kernel
theorem dL_law_25 : decode cL_law 25 = .ok (.aload_n 0, 1) := by decide +kernel
theorem dL_law_26 : decode cL_law 26 = .ok (.arraylength, 1) := by decide +kernel
theorem dL_law_27 : decode cL_law 27 = .ok (.iconst 3, 1) := by decide +kernel
theorem dL_law_28 : decode cL_law 28 = .ok (.isub, 1) := by decide +kernel
theorem dL_law_29 : decode cL_law 29 = .ok (.if_icmp .gt 1470, 3) := by decide +kernel
theorem dL_law_32 : decode cL_law 32 = .ok (.aload_n 0, 1) := by decide +kernel
theorem dL_law_33 : decode cL_law 33 = .ok (.iload 4, 2) := by decide +kernel
theorem dL_law_35 : decode cL_law 35 = .ok (.iaload, 1) := by decide +kernel
theorem dL_law_36 : decode cL_law 36 = .ok (.bipush 63, 2) := by decide +kernel
theorem dL_law_38 : decode cL_law 38 = .ok (.iand, 1) := by decide +kernel
theorem dL_law_39 : decode cL_law 39 = .ok (.tableswitch 1454 0 33 #[149, 205, 273, 286, 330, 386, 442, 455, 511, 524, 549, 605, 673, 729, 754, 779, 792, 860, 916, 972, 997, 1010, 1023, 1036, 1049, 1090, 1146, 1214, 1270, 1326, 1339, 1383, 1427, 1440], 149) := by decide +kernel
theorem dL_law_188 : decode cL_law 188 = .ok (.aload_n 1, 1) := by decide +kernel
theorem dL_law_189 : decode cL_law 189 = .ok (.aload_n 0, 1) := by decide +kernel
theorem dL_law_190 : decode cL_law 190 = .ok (.iload 4, 2) := by decide +kernel
theorem dL_law_192 : decode cL_law 192 = .ok (.iconst 1, 1) := by decide +kernel
theorem dL_law_193 : decode cL_law 193 = .ok (.iadd, 1) := by decide +kernel
theorem dL_law_194 : decode cL_law 194 = .ok (.iaload, 1) := by decide +kernel
theorem dL_law_195 : decode cL_law 195 = .ok (.aload_n 3, 1) := by decide +kernel
theorem dL_law_196 : decode cL_law 196 = .ok (.invokestatic 76, 3) := by decide +kernel
theorem dL_law_199 : decode cL_law 199 = .ok (.istore 5, 2) := by decide +kernel
theorem dL_law_201 : decode cL_law 201 = .ok (.aload_n 2, 1) := by decide +kernel
theorem dL_law_202 : decode cL_law 202 = .ok (.aload_n 0, 1) := by decide +kernel
theorem dL_law_203 : decode cL_law 203 = .ok (.iload 4, 2) := by decide +kernel
theorem dL_law_205 : decode cL_law 205 = .ok (.iconst 1, 1) := by decide +kernel
theorem dL_law_206 : decode cL_law 206 = .ok (.iadd, 1) := by decide +kernel
theorem dL_law_207 : decode cL_law 207 = .ok (.iaload, 1) := by decide +kernel
theorem dL_law_208 : decode cL_law 208 = .ok (.invokevirtual 81, 3) := by decide +kernel
theorem dL_law_211 : decode cL_law 211 = .ok (.istore 6, 2) := by decide +kernel
theorem dL_law_213 : decode cL_law 213 = .ok (.aload_n 2, 1) := by decide +kernel
theorem dL_law_214 : decode cL_law 214 = .ok (.invokevirtual 82, 3) := by decide +kernel
theorem dL_law_217 : decode cL_law 217 = .ok (.iload 5, 2) := by decide +kernel
theorem dL_law_219 : decode cL_law 219 = .ok (.if_icmp .eq 5, 3) := by decide +kernel
theorem dL_law_222 : decode cL_law 222 = .ok (.iconst 0, 1) := by decide +kernel
theorem dL_law_223 : decode cL_law 223 = .ok (.ireturn, 1) := by decide +kernel
theorem dL_law_224 : decode cL_law 224 = .ok (.iload 5, 2) := by decide +kernel
theorem dL_law_226 : decode cL_law 226 = .ok (.ifCond .ne 15, 3) := by decide +kernel
theorem dL_law_229 : decode cL_law 229 = .ok (.aload_n 3, 1) := by decide +kernel
theorem dL_law_230 : decode cL_law 230 = .ok (.iconst 0, 1) := by decide +kernel
theorem dL_law_231 : decode cL_law 231 = .ok (.laload, 1) := by decide +kernel
theorem dL_law_232 : decode cL_law 232 = .ok (.iload 6, 2) := by decide +kernel
theorem dL_law_234 : decode cL_law 234 = .ok (.i2l, 1) := by decide +kernel
theorem dL_law_235 : decode cL_law 235 = .ok (.lcmp, 1) := by decide +kernel
theorem dL_law_236 : decode cL_law 236 = .ok (.ifCond .eq 5, 3) := by decide +kernel
theorem dL_law_239 : decode cL_law 239 = .ok (.iconst 0, 1) := by decide +kernel
theorem dL_law_240 : decode cL_law 240 = .ok (.ireturn, 1) := by decide +kernel
theorem dL_law_241 : decode cL_law 241 = .ok (.goto 1252, 3) := by decide +kernel
theorem dL_law_244 : decode cL_law 244 = .ok (.aload_n 1, 1) := by decide +kernel
theorem dL_law_245 : decode cL_law 245 = .ok (.aload_n 0, 1) := by decide +kernel
theorem dL_law_246 : decode cL_law 246 = .ok (.iload 4, 2) := by decide +kernel
theorem dL_law_248 : decode cL_law 248 = .ok (.iconst 1, 1) := by decide +kernel
theorem dL_law_249 : decode cL_law 249 = .ok (.iadd, 1) := by decide +kernel
theorem dL_law_250 : decode cL_law 250 = .ok (.iaload, 1) := by decide +kernel
theorem dL_law_251 : decode cL_law 251 = .ok (.aload_n 0, 1) := by decide +kernel
theorem dL_law_252 : decode cL_law 252 = .ok (.iload 4, 2) := by decide +kernel
theorem dL_law_254 : decode cL_law 254 = .ok (.iconst 2, 1) := by decide +kernel
theorem dL_law_255 : decode cL_law 255 = .ok (.iadd, 1) := by decide +kernel
theorem dL_law_256 : decode cL_law 256 = .ok (.iaload, 1) := by decide +kernel
theorem dL_law_257 : decode cL_law 257 = .ok (.aload_n 3, 1) := by decide +kernel
theorem dL_law_258 : decode cL_law 258 = .ok (.invokestatic 85, 3) := by decide +kernel
theorem dL_law_261 : decode cL_law 261 = .ok (.istore 5, 2) := by decide +kernel
theorem dL_law_263 : decode cL_law 263 = .ok (.aload_n 2, 1) := by decide +kernel
theorem dL_law_264 : decode cL_law 264 = .ok (.aload_n 0, 1) := by decide +kernel
theorem dL_law_265 : decode cL_law 265 = .ok (.iload 4, 2) := by decide +kernel
theorem dL_law_267 : decode cL_law 267 = .ok (.iconst 1, 1) := by decide +kernel
theorem dL_law_268 : decode cL_law 268 = .ok (.iadd, 1) := by decide +kernel
theorem dL_law_269 : decode cL_law 269 = .ok (.iaload, 1) := by decide +kernel
theorem dL_law_270 : decode cL_law 270 = .ok (.aload_n 0, 1) := by decide +kernel
theorem dL_law_271 : decode cL_law 271 = .ok (.iload 4, 2) := by decide +kernel
theorem dL_law_273 : decode cL_law 273 = .ok (.iconst 2, 1) := by decide +kernel
theorem dL_law_274 : decode cL_law 274 = .ok (.iadd, 1) := by decide +kernel
theorem dL_law_275 : decode cL_law 275 = .ok (.iaload, 1) := by decide +kernel
theorem dL_law_276 : decode cL_law 276 = .ok (.invokevirtual 88, 3) := by decide +kernel
theorem dL_law_279 : decode cL_law 279 = .ok (.istore 6, 2) := by decide +kernel
theorem dL_law_281 : decode cL_law 281 = .ok (.aload_n 2, 1) := by decide +kernel
theorem dL_law_282 : decode cL_law 282 = .ok (.invokevirtual 82, 3) := by decide +kernel
theorem dL_law_285 : decode cL_law 285 = .ok (.iload 5, 2) := by decide +kernel
theorem dL_law_287 : decode cL_law 287 = .ok (.if_icmp .eq 5, 3) := by decide +kernel
theorem dL_law_290 : decode cL_law 290 = .ok (.iconst 0, 1) := by decide +kernel
theorem dL_law_291 : decode cL_law 291 = .ok (.ireturn, 1) := by decide +kernel
theorem dL_law_292 : decode cL_law 292 = .ok (.iload 5, 2) := by decide +kernel
theorem dL_law_294 : decode cL_law 294 = .ok (.ifCond .ne 15, 3) := by decide +kernel
theorem dL_law_297 : decode cL_law 297 = .ok (.aload_n 3, 1) := by decide +kernel
theorem dL_law_298 : decode cL_law 298 = .ok (.iconst 0, 1) := by decide +kernel
theorem dL_law_299 : decode cL_law 299 = .ok (.laload, 1) := by decide +kernel
theorem dL_law_300 : decode cL_law 300 = .ok (.iload 6, 2) := by decide +kernel
theorem dL_law_302 : decode cL_law 302 = .ok (.i2l, 1) := by decide +kernel
theorem dL_law_303 : decode cL_law 303 = .ok (.lcmp, 1) := by decide +kernel
theorem dL_law_304 : decode cL_law 304 = .ok (.ifCond .eq 5, 3) := by decide +kernel
theorem dL_law_307 : decode cL_law 307 = .ok (.iconst 0, 1) := by decide +kernel
theorem dL_law_308 : decode cL_law 308 = .ok (.ireturn, 1) := by decide +kernel
theorem dL_law_309 : decode cL_law 309 = .ok (.goto 1184, 3) := by decide +kernel
theorem dL_law_312 : decode cL_law 312 = .ok (.aload_n 1, 1) := by decide +kernel
theorem dL_law_313 : decode cL_law 313 = .ok (.invokevirtual 89, 3) := by decide +kernel
theorem dL_law_316 : decode cL_law 316 = .ok (.aload_n 2, 1) := by decide +kernel
theorem dL_law_317 : decode cL_law 317 = .ok (.invokevirtual 92, 3) := by decide +kernel
theorem dL_law_320 : decode cL_law 320 = .ok (.if_icmp .eq 1173, 3) := by decide +kernel
theorem dL_law_323 : decode cL_law 323 = .ok (.iconst 0, 1) := by decide +kernel
theorem dL_law_324 : decode cL_law 324 = .ok (.ireturn, 1) := by decide +kernel
theorem dL_law_325 : decode cL_law 325 = .ok (.aload_n 1, 1) := by decide +kernel
theorem dL_law_326 : decode cL_law 326 = .ok (.aload_n 3, 1) := by decide +kernel
theorem dL_law_327 : decode cL_law 327 = .ok (.invokestatic 93, 3) := by decide +kernel
theorem dL_law_330 : decode cL_law 330 = .ok (.istore 5, 2) := by decide +kernel
theorem dL_law_332 : decode cL_law 332 = .ok (.aload_n 2, 1) := by decide +kernel
theorem dL_law_333 : decode cL_law 333 = .ok (.invokevirtual 96, 3) := by decide +kernel
theorem dL_law_336 : decode cL_law 336 = .ok (.istore 6, 2) := by decide +kernel
theorem dL_law_338 : decode cL_law 338 = .ok (.aload_n 2, 1) := by decide +kernel
theorem dL_law_339 : decode cL_law 339 = .ok (.invokevirtual 82, 3) := by decide +kernel
theorem dL_law_342 : decode cL_law 342 = .ok (.iload 5, 2) := by decide +kernel
theorem dL_law_344 : decode cL_law 344 = .ok (.if_icmp .eq 5, 3) := by decide +kernel
theorem dL_law_347 : decode cL_law 347 = .ok (.iconst 0, 1) := by decide +kernel
theorem dL_law_348 : decode cL_law 348 = .ok (.ireturn, 1) := by decide +kernel
theorem dL_law_349 : decode cL_law 349 = .ok (.iload 5, 2) := by decide +kernel
theorem dL_law_351 : decode cL_law 351 = .ok (.ifCond .ne 15, 3) := by decide +kernel
theorem dL_law_354 : decode cL_law 354 = .ok (.aload_n 3, 1) := by decide +kernel
theorem dL_law_355 : decode cL_law 355 = .ok (.iconst 0, 1) := by decide +kernel
theorem dL_law_356 : decode cL_law 356 = .ok (.laload, 1) := by decide +kernel
theorem dL_law_357 : decode cL_law 357 = .ok (.iload 6, 2) := by decide +kernel
theorem dL_law_359 : decode cL_law 359 = .ok (.i2l, 1) := by decide +kernel
theorem dL_law_360 : decode cL_law 360 = .ok (.lcmp, 1) := by decide +kernel
theorem dL_law_361 : decode cL_law 361 = .ok (.ifCond .eq 5, 3) := by decide +kernel
theorem dL_law_364 : decode cL_law 364 = .ok (.iconst 0, 1) := by decide +kernel
theorem dL_law_365 : decode cL_law 365 = .ok (.ireturn, 1) := by decide +kernel
end
section
theorem dL_law_366 : decode cL_law 366 = .ok (.goto 1127, 3) := by decide +kernel
theorem dL_law_369 : decode cL_law 369 = .ok (.aload_n 1, 1) := by decide +kernel
theorem dL_law_370 : decode cL_law 370 = .ok (.aload_n 0, 1) := by decide +kernel
theorem dL_law_371 : decode cL_law 371 = .ok (.iload 4, 2) := by decide +kernel
theorem dL_law_373 : decode cL_law 373 = .ok (.iconst 1, 1) := by decide +kernel
theorem dL_law_374 : decode cL_law 374 = .ok (.iadd, 1) := by decide +kernel
theorem dL_law_375 : decode cL_law 375 = .ok (.iaload, 1) := by decide +kernel
theorem dL_law_376 : decode cL_law 376 = .ok (.aload_n 3, 1) := by decide +kernel
theorem dL_law_377 : decode cL_law 377 = .ok (.invokestatic 97, 3) := by decide +kernel
theorem dL_law_380 : decode cL_law 380 = .ok (.istore 5, 2) := by decide +kernel
theorem dL_law_382 : decode cL_law 382 = .ok (.aload_n 2, 1) := by decide +kernel
theorem dL_law_383 : decode cL_law 383 = .ok (.aload_n 0, 1) := by decide +kernel
theorem dL_law_384 : decode cL_law 384 = .ok (.iload 4, 2) := by decide +kernel
theorem dL_law_386 : decode cL_law 386 = .ok (.iconst 1, 1) := by decide +kernel
theorem dL_law_387 : decode cL_law 387 = .ok (.iadd, 1) := by decide +kernel
theorem dL_law_388 : decode cL_law 388 = .ok (.iaload, 1) := by decide +kernel
theorem dL_law_389 : decode cL_law 389 = .ok (.invokevirtual 99, 3) := by decide +kernel
theorem dL_law_392 : decode cL_law 392 = .ok (.istore 6, 2) := by decide +kernel
theorem dL_law_394 : decode cL_law 394 = .ok (.aload_n 2, 1) := by decide +kernel
theorem dL_law_395 : decode cL_law 395 = .ok (.invokevirtual 82, 3) := by decide +kernel
theorem dL_law_398 : decode cL_law 398 = .ok (.iload 5, 2) := by decide +kernel
theorem dL_law_400 : decode cL_law 400 = .ok (.if_icmp .eq 5, 3) := by decide +kernel
theorem dL_law_403 : decode cL_law 403 = .ok (.iconst 0, 1) := by decide +kernel
theorem dL_law_404 : decode cL_law 404 = .ok (.ireturn, 1) := by decide +kernel
theorem dL_law_405 : decode cL_law 405 = .ok (.iload 5, 2) := by decide +kernel
theorem dL_law_407 : decode cL_law 407 = .ok (.ifCond .ne 15, 3) := by decide +kernel
theorem dL_law_410 : decode cL_law 410 = .ok (.aload_n 3, 1) := by decide +kernel
theorem dL_law_411 : decode cL_law 411 = .ok (.iconst 0, 1) := by decide +kernel
theorem dL_law_412 : decode cL_law 412 = .ok (.laload, 1) := by decide +kernel
theorem dL_law_413 : decode cL_law 413 = .ok (.iload 6, 2) := by decide +kernel
theorem dL_law_415 : decode cL_law 415 = .ok (.i2l, 1) := by decide +kernel
theorem dL_law_416 : decode cL_law 416 = .ok (.lcmp, 1) := by decide +kernel
theorem dL_law_417 : decode cL_law 417 = .ok (.ifCond .eq 5, 3) := by decide +kernel
theorem dL_law_420 : decode cL_law 420 = .ok (.iconst 0, 1) := by decide +kernel
theorem dL_law_421 : decode cL_law 421 = .ok (.ireturn, 1) := by decide +kernel
theorem dL_law_422 : decode cL_law 422 = .ok (.goto 1071, 3) := by decide +kernel
theorem dL_law_425 : decode cL_law 425 = .ok (.aload_n 1, 1) := by decide +kernel
theorem dL_law_426 : decode cL_law 426 = .ok (.aload_n 0, 1) := by decide +kernel
theorem dL_law_427 : decode cL_law 427 = .ok (.iload 4, 2) := by decide +kernel
theorem dL_law_429 : decode cL_law 429 = .ok (.iconst 1, 1) := by decide +kernel
theorem dL_law_430 : decode cL_law 430 = .ok (.iadd, 1) := by decide +kernel
theorem dL_law_431 : decode cL_law 431 = .ok (.iaload, 1) := by decide +kernel
theorem dL_law_432 : decode cL_law 432 = .ok (.aload_n 3, 1) := by decide +kernel
theorem dL_law_433 : decode cL_law 433 = .ok (.invokestatic 100, 3) := by decide +kernel
theorem dL_law_436 : decode cL_law 436 = .ok (.istore 5, 2) := by decide +kernel
theorem dL_law_438 : decode cL_law 438 = .ok (.aload_n 2, 1) := by decide +kernel
theorem dL_law_439 : decode cL_law 439 = .ok (.aload_n 0, 1) := by decide +kernel
theorem dL_law_440 : decode cL_law 440 = .ok (.iload 4, 2) := by decide +kernel
theorem dL_law_442 : decode cL_law 442 = .ok (.iconst 1, 1) := by decide +kernel
theorem dL_law_443 : decode cL_law 443 = .ok (.iadd, 1) := by decide +kernel
theorem dL_law_444 : decode cL_law 444 = .ok (.iaload, 1) := by decide +kernel
theorem dL_law_445 : decode cL_law 445 = .ok (.invokevirtual 102, 3) := by decide +kernel
theorem dL_law_448 : decode cL_law 448 = .ok (.istore 6, 2) := by decide +kernel
theorem dL_law_450 : decode cL_law 450 = .ok (.aload_n 2, 1) := by decide +kernel
theorem dL_law_451 : decode cL_law 451 = .ok (.invokevirtual 82, 3) := by decide +kernel
theorem dL_law_454 : decode cL_law 454 = .ok (.iload 5, 2) := by decide +kernel
theorem dL_law_456 : decode cL_law 456 = .ok (.if_icmp .eq 5, 3) := by decide +kernel
theorem dL_law_459 : decode cL_law 459 = .ok (.iconst 0, 1) := by decide +kernel
theorem dL_law_460 : decode cL_law 460 = .ok (.ireturn, 1) := by decide +kernel
theorem dL_law_461 : decode cL_law 461 = .ok (.iload 5, 2) := by decide +kernel
theorem dL_law_463 : decode cL_law 463 = .ok (.ifCond .ne 15, 3) := by decide +kernel
theorem dL_law_466 : decode cL_law 466 = .ok (.aload_n 3, 1) := by decide +kernel
theorem dL_law_467 : decode cL_law 467 = .ok (.iconst 0, 1) := by decide +kernel
theorem dL_law_468 : decode cL_law 468 = .ok (.laload, 1) := by decide +kernel
theorem dL_law_469 : decode cL_law 469 = .ok (.iload 6, 2) := by decide +kernel
theorem dL_law_471 : decode cL_law 471 = .ok (.i2l, 1) := by decide +kernel
theorem dL_law_472 : decode cL_law 472 = .ok (.lcmp, 1) := by decide +kernel
theorem dL_law_473 : decode cL_law 473 = .ok (.ifCond .eq 5, 3) := by decide +kernel
theorem dL_law_476 : decode cL_law 476 = .ok (.iconst 0, 1) := by decide +kernel
theorem dL_law_477 : decode cL_law 477 = .ok (.ireturn, 1) := by decide +kernel
theorem dL_law_478 : decode cL_law 478 = .ok (.goto 1015, 3) := by decide +kernel
theorem dL_law_481 : decode cL_law 481 = .ok (.aload_n 1, 1) := by decide +kernel
theorem dL_law_482 : decode cL_law 482 = .ok (.invokevirtual 103, 3) := by decide +kernel
theorem dL_law_485 : decode cL_law 485 = .ok (.aload_n 2, 1) := by decide +kernel
theorem dL_law_486 : decode cL_law 486 = .ok (.invokevirtual 106, 3) := by decide +kernel
theorem dL_law_489 : decode cL_law 489 = .ok (.if_icmp .eq 1004, 3) := by decide +kernel
theorem dL_law_492 : decode cL_law 492 = .ok (.iconst 0, 1) := by decide +kernel
theorem dL_law_493 : decode cL_law 493 = .ok (.ireturn, 1) := by decide +kernel
theorem dL_law_494 : decode cL_law 494 = .ok (.aload_n 1, 1) := by decide +kernel
theorem dL_law_495 : decode cL_law 495 = .ok (.aload_n 0, 1) := by decide +kernel
theorem dL_law_496 : decode cL_law 496 = .ok (.iload 4, 2) := by decide +kernel
theorem dL_law_498 : decode cL_law 498 = .ok (.iconst 1, 1) := by decide +kernel
theorem dL_law_499 : decode cL_law 499 = .ok (.iadd, 1) := by decide +kernel
theorem dL_law_500 : decode cL_law 500 = .ok (.iaload, 1) := by decide +kernel
theorem dL_law_501 : decode cL_law 501 = .ok (.aload_n 3, 1) := by decide +kernel
theorem dL_law_502 : decode cL_law 502 = .ok (.invokestatic 107, 3) := by decide +kernel
theorem dL_law_505 : decode cL_law 505 = .ok (.istore 5, 2) := by decide +kernel
theorem dL_law_507 : decode cL_law 507 = .ok (.aload_n 2, 1) := by decide +kernel
theorem dL_law_508 : decode cL_law 508 = .ok (.aload_n 0, 1) := by decide +kernel
theorem dL_law_509 : decode cL_law 509 = .ok (.iload 4, 2) := by decide +kernel
theorem dL_law_511 : decode cL_law 511 = .ok (.iconst 1, 1) := by decide +kernel
theorem dL_law_512 : decode cL_law 512 = .ok (.iadd, 1) := by decide +kernel
theorem dL_law_513 : decode cL_law 513 = .ok (.iaload, 1) := by decide +kernel
theorem dL_law_514 : decode cL_law 514 = .ok (.invokevirtual 109, 3) := by decide +kernel
theorem dL_law_517 : decode cL_law 517 = .ok (.istore 6, 2) := by decide +kernel
theorem dL_law_519 : decode cL_law 519 = .ok (.aload_n 2, 1) := by decide +kernel
theorem dL_law_520 : decode cL_law 520 = .ok (.invokevirtual 82, 3) := by decide +kernel
theorem dL_law_523 : decode cL_law 523 = .ok (.iload 5, 2) := by decide +kernel
theorem dL_law_525 : decode cL_law 525 = .ok (.if_icmp .eq 5, 3) := by decide +kernel
theorem dL_law_528 : decode cL_law 528 = .ok (.iconst 0, 1) := by decide +kernel
theorem dL_law_529 : decode cL_law 529 = .ok (.ireturn, 1) := by decide +kernel
theorem dL_law_530 : decode cL_law 530 = .ok (.iload 5, 2) := by decide +kernel
theorem dL_law_532 : decode cL_law 532 = .ok (.ifCond .ne 15, 3) := by decide +kernel
theorem dL_law_535 : decode cL_law 535 = .ok (.aload_n 3, 1) := by decide +kernel
theorem dL_law_536 : decode cL_law 536 = .ok (.iconst 0, 1) := by decide +kernel
theorem dL_law_537 : decode cL_law 537 = .ok (.laload, 1) := by decide +kernel
theorem dL_law_538 : decode cL_law 538 = .ok (.iload 6, 2) := by decide +kernel
theorem dL_law_540 : decode cL_law 540 = .ok (.i2l, 1) := by decide +kernel
theorem dL_law_541 : decode cL_law 541 = .ok (.lcmp, 1) := by decide +kernel
theorem dL_law_542 : decode cL_law 542 = .ok (.ifCond .eq 5, 3) := by decide +kernel
theorem dL_law_545 : decode cL_law 545 = .ok (.iconst 0, 1) := by decide +kernel
theorem dL_law_546 : decode cL_law 546 = .ok (.ireturn, 1) := by decide +kernel
theorem dL_law_547 : decode cL_law 547 = .ok (.goto 946, 3) := by decide +kernel
theorem dL_law_550 : decode cL_law 550 = .ok (.aload_n 1, 1) := by decide +kernel
theorem dL_law_551 : decode cL_law 551 = .ok (.invokevirtual 110, 3) := by decide +kernel
theorem dL_law_554 : decode cL_law 554 = .ok (.aload_n 2, 1) := by decide +kernel
theorem dL_law_555 : decode cL_law 555 = .ok (.invokevirtual 113, 3) := by decide +kernel
theorem dL_law_558 : decode cL_law 558 = .ok (.if_icmp .eq 935, 3) := by decide +kernel
theorem dL_law_561 : decode cL_law 561 = .ok (.iconst 0, 1) := by decide +kernel
theorem dL_law_562 : decode cL_law 562 = .ok (.ireturn, 1) := by decide +kernel
theorem dL_law_563 : decode cL_law 563 = .ok (.aload_n 1, 1) := by decide +kernel
theorem dL_law_564 : decode cL_law 564 = .ok (.aload_n 0, 1) := by decide +kernel
theorem dL_law_565 : decode cL_law 565 = .ok (.iload 4, 2) := by decide +kernel
theorem dL_law_567 : decode cL_law 567 = .ok (.iconst 1, 1) := by decide +kernel
theorem dL_law_568 : decode cL_law 568 = .ok (.iadd, 1) := by decide +kernel
theorem dL_law_569 : decode cL_law 569 = .ok (.iaload, 1) := by decide +kernel
theorem dL_law_570 : decode cL_law 570 = .ok (.invokevirtual 114, 3) := by decide +kernel
theorem dL_law_573 : decode cL_law 573 = .ok (.aload_n 2, 1) := by decide +kernel
theorem dL_law_574 : decode cL_law 574 = .ok (.aload_n 0, 1) := by decide +kernel
theorem dL_law_575 : decode cL_law 575 = .ok (.iload 4, 2) := by decide +kernel
theorem dL_law_577 : decode cL_law 577 = .ok (.iconst 1, 1) := by decide +kernel
theorem dL_law_578 : decode cL_law 578 = .ok (.iadd, 1) := by decide +kernel
theorem dL_law_579 : decode cL_law 579 = .ok (.iaload, 1) := by decide +kernel
theorem dL_law_580 : decode cL_law 580 = .ok (.invokevirtual 118, 3) := by decide +kernel
theorem dL_law_583 : decode cL_law 583 = .ok (.if_icmp .eq 910, 3) := by decide +kernel
theorem dL_law_586 : decode cL_law 586 = .ok (.iconst 0, 1) := by decide +kernel
theorem dL_law_587 : decode cL_law 587 = .ok (.ireturn, 1) := by decide +kernel
theorem dL_law_588 : decode cL_law 588 = .ok (.aload_n 1, 1) := by decide +kernel
theorem dL_law_589 : decode cL_law 589 = .ok (.aload_n 0, 1) := by decide +kernel
theorem dL_law_590 : decode cL_law 590 = .ok (.iload 4, 2) := by decide +kernel
theorem dL_law_592 : decode cL_law 592 = .ok (.iconst 1, 1) := by decide +kernel
theorem dL_law_593 : decode cL_law 593 = .ok (.iadd, 1) := by decide +kernel
theorem dL_law_594 : decode cL_law 594 = .ok (.iaload, 1) := by decide +kernel
theorem dL_law_595 : decode cL_law 595 = .ok (.aload_n 3, 1) := by decide +kernel
theorem dL_law_596 : decode cL_law 596 = .ok (.invokestatic 119, 3) := by decide +kernel
theorem dL_law_599 : decode cL_law 599 = .ok (.istore 5, 2) := by decide +kernel
theorem dL_law_601 : decode cL_law 601 = .ok (.aload_n 2, 1) := by decide +kernel
theorem dL_law_602 : decode cL_law 602 = .ok (.aload_n 0, 1) := by decide +kernel
theorem dL_law_603 : decode cL_law 603 = .ok (.iload 4, 2) := by decide +kernel
theorem dL_law_605 : decode cL_law 605 = .ok (.iconst 1, 1) := by decide +kernel
theorem dL_law_606 : decode cL_law 606 = .ok (.iadd, 1) := by decide +kernel
theorem dL_law_607 : decode cL_law 607 = .ok (.iaload, 1) := by decide +kernel
theorem dL_law_608 : decode cL_law 608 = .ok (.invokevirtual 121, 3) := by decide +kernel
theorem dL_law_611 : decode cL_law 611 = .ok (.istore 6, 2) := by decide +kernel
theorem dL_law_613 : decode cL_law 613 = .ok (.aload_n 2, 1) := by decide +kernel
theorem dL_law_614 : decode cL_law 614 = .ok (.invokevirtual 82, 3) := by decide +kernel
theorem dL_law_617 : decode cL_law 617 = .ok (.iload 5, 2) := by decide +kernel
theorem dL_law_619 : decode cL_law 619 = .ok (.if_icmp .eq 5, 3) := by decide +kernel
theorem dL_law_622 : decode cL_law 622 = .ok (.iconst 0, 1) := by decide +kernel
theorem dL_law_623 : decode cL_law 623 = .ok (.ireturn, 1) := by decide +kernel
theorem dL_law_624 : decode cL_law 624 = .ok (.iload 5, 2) := by decide +kernel
theorem dL_law_626 : decode cL_law 626 = .ok (.ifCond .ne 15, 3) := by decide +kernel
theorem dL_law_629 : decode cL_law 629 = .ok (.aload_n 3, 1) := by decide +kernel
theorem dL_law_630 : decode cL_law 630 = .ok (.iconst 0, 1) := by decide +kernel
theorem dL_law_631 : decode cL_law 631 = .ok (.laload, 1) := by decide +kernel
theorem dL_law_632 : decode cL_law 632 = .ok (.iload 6, 2) := by decide +kernel
theorem dL_law_634 : decode cL_law 634 = .ok (.i2l, 1) := by decide +kernel
theorem dL_law_635 : decode cL_law 635 = .ok (.lcmp, 1) := by decide +kernel
theorem dL_law_636 : decode cL_law 636 = .ok (.ifCond .eq 5, 3) := by decide +kernel
theorem dL_law_639 : decode cL_law 639 = .ok (.iconst 0, 1) := by decide +kernel
theorem dL_law_640 : decode cL_law 640 = .ok (.ireturn, 1) := by decide +kernel
theorem dL_law_641 : decode cL_law 641 = .ok (.goto 852, 3) := by decide +kernel
theorem dL_law_644 : decode cL_law 644 = .ok (.aload_n 1, 1) := by decide +kernel
theorem dL_law_645 : decode cL_law 645 = .ok (.aload_n 0, 1) := by decide +kernel
theorem dL_law_646 : decode cL_law 646 = .ok (.iload 4, 2) := by decide +kernel
theorem dL_law_648 : decode cL_law 648 = .ok (.iconst 1, 1) := by decide +kernel
theorem dL_law_649 : decode cL_law 649 = .ok (.iadd, 1) := by decide +kernel
theorem dL_law_650 : decode cL_law 650 = .ok (.iaload, 1) := by decide +kernel
theorem dL_law_651 : decode cL_law 651 = .ok (.aload_n 0, 1) := by decide +kernel
theorem dL_law_652 : decode cL_law 652 = .ok (.iload 4, 2) := by decide +kernel
theorem dL_law_654 : decode cL_law 654 = .ok (.iconst 2, 1) := by decide +kernel
theorem dL_law_655 : decode cL_law 655 = .ok (.iadd, 1) := by decide +kernel
theorem dL_law_656 : decode cL_law 656 = .ok (.iaload, 1) := by decide +kernel
theorem dL_law_657 : decode cL_law 657 = .ok (.aload_n 3, 1) := by decide +kernel
theorem dL_law_658 : decode cL_law 658 = .ok (.invokestatic 122, 3) := by decide +kernel
theorem dL_law_661 : decode cL_law 661 = .ok (.istore 5, 2) := by decide +kernel
theorem dL_law_663 : decode cL_law 663 = .ok (.aload_n 2, 1) := by decide +kernel
theorem dL_law_664 : decode cL_law 664 = .ok (.aload_n 0, 1) := by decide +kernel
theorem dL_law_665 : decode cL_law 665 = .ok (.iload 4, 2) := by decide +kernel
theorem dL_law_667 : decode cL_law 667 = .ok (.iconst 1, 1) := by decide +kernel
theorem dL_law_668 : decode cL_law 668 = .ok (.iadd, 1) := by decide +kernel
theorem dL_law_669 : decode cL_law 669 = .ok (.iaload, 1) := by decide +kernel
theorem dL_law_670 : decode cL_law 670 = .ok (.aload_n 0, 1) := by decide +kernel
theorem dL_law_671 : decode cL_law 671 = .ok (.iload 4, 2) := by decide +kernel
theorem dL_law_673 : decode cL_law 673 = .ok (.iconst 2, 1) := by decide +kernel
theorem dL_law_674 : decode cL_law 674 = .ok (.iadd, 1) := by decide +kernel
theorem dL_law_675 : decode cL_law 675 = .ok (.iaload, 1) := by decide +kernel
theorem dL_law_676 : decode cL_law 676 = .ok (.invokevirtual 124, 3) := by decide +kernel
theorem dL_law_679 : decode cL_law 679 = .ok (.istore 6, 2) := by decide +kernel
theorem dL_law_681 : decode cL_law 681 = .ok (.aload_n 2, 1) := by decide +kernel
theorem dL_law_682 : decode cL_law 682 = .ok (.invokevirtual 82, 3) := by decide +kernel
theorem dL_law_685 : decode cL_law 685 = .ok (.iload 5, 2) := by decide +kernel
theorem dL_law_687 : decode cL_law 687 = .ok (.if_icmp .eq 5, 3) := by decide +kernel
theorem dL_law_690 : decode cL_law 690 = .ok (.iconst 0, 1) := by decide +kernel
theorem dL_law_691 : decode cL_law 691 = .ok (.ireturn, 1) := by decide +kernel
theorem dL_law_692 : decode cL_law 692 = .ok (.iload 5, 2) := by decide +kernel
theorem dL_law_694 : decode cL_law 694 = .ok (.ifCond .ne 15, 3) := by decide +kernel
theorem dL_law_697 : decode cL_law 697 = .ok (.aload_n 3, 1) := by decide +kernel
theorem dL_law_698 : decode cL_law 698 = .ok (.iconst 0, 1) := by decide +kernel
theorem dL_law_699 : decode cL_law 699 = .ok (.laload, 1) := by decide +kernel
theorem dL_law_700 : decode cL_law 700 = .ok (.iload 6, 2) := by decide +kernel
theorem dL_law_702 : decode cL_law 702 = .ok (.i2l, 1) := by decide +kernel
theorem dL_law_703 : decode cL_law 703 = .ok (.lcmp, 1) := by decide +kernel
theorem dL_law_704 : decode cL_law 704 = .ok (.ifCond .eq 5, 3) := by decide +kernel
theorem dL_law_707 : decode cL_law 707 = .ok (.iconst 0, 1) := by decide +kernel
theorem dL_law_708 : decode cL_law 708 = .ok (.ireturn, 1) := by decide +kernel
theorem dL_law_709 : decode cL_law 709 = .ok (.goto 784, 3) := by decide +kernel
theorem dL_law_712 : decode cL_law 712 = .ok (.aload_n 1, 1) := by decide +kernel
theorem dL_law_713 : decode cL_law 713 = .ok (.aload_n 0, 1) := by decide +kernel
theorem dL_law_714 : decode cL_law 714 = .ok (.iload 4, 2) := by decide +kernel
theorem dL_law_716 : decode cL_law 716 = .ok (.iconst 1, 1) := by decide +kernel
theorem dL_law_717 : decode cL_law 717 = .ok (.iadd, 1) := by decide +kernel
theorem dL_law_718 : decode cL_law 718 = .ok (.iaload, 1) := by decide +kernel
theorem dL_law_719 : decode cL_law 719 = .ok (.aload_n 3, 1) := by decide +kernel
theorem dL_law_720 : decode cL_law 720 = .ok (.invokestatic 125, 3) := by decide +kernel
theorem dL_law_723 : decode cL_law 723 = .ok (.istore 5, 2) := by decide +kernel
theorem dL_law_725 : decode cL_law 725 = .ok (.aload_n 2, 1) := by decide +kernel
theorem dL_law_726 : decode cL_law 726 = .ok (.aload_n 0, 1) := by decide +kernel
theorem dL_law_727 : decode cL_law 727 = .ok (.iload 4, 2) := by decide +kernel
theorem dL_law_729 : decode cL_law 729 = .ok (.iconst 1, 1) := by decide +kernel
theorem dL_law_730 : decode cL_law 730 = .ok (.iadd, 1) := by decide +kernel
theorem dL_law_731 : decode cL_law 731 = .ok (.iaload, 1) := by decide +kernel
theorem dL_law_732 : decode cL_law 732 = .ok (.invokevirtual 127, 3) := by decide +kernel
theorem dL_law_735 : decode cL_law 735 = .ok (.istore 6, 2) := by decide +kernel
theorem dL_law_737 : decode cL_law 737 = .ok (.aload_n 2, 1) := by decide +kernel
theorem dL_law_738 : decode cL_law 738 = .ok (.invokevirtual 82, 3) := by decide +kernel
theorem dL_law_741 : decode cL_law 741 = .ok (.iload 5, 2) := by decide +kernel
theorem dL_law_743 : decode cL_law 743 = .ok (.if_icmp .eq 5, 3) := by decide +kernel
theorem dL_law_746 : decode cL_law 746 = .ok (.iconst 0, 1) := by decide +kernel
theorem dL_law_747 : decode cL_law 747 = .ok (.ireturn, 1) := by decide +kernel
theorem dL_law_748 : decode cL_law 748 = .ok (.iload 5, 2) := by decide +kernel
theorem dL_law_750 : decode cL_law 750 = .ok (.ifCond .ne 15, 3) := by decide +kernel
theorem dL_law_753 : decode cL_law 753 = .ok (.aload_n 3, 1) := by decide +kernel
theorem dL_law_754 : decode cL_law 754 = .ok (.iconst 0, 1) := by decide +kernel
theorem dL_law_755 : decode cL_law 755 = .ok (.laload, 1) := by decide +kernel
theorem dL_law_756 : decode cL_law 756 = .ok (.iload 6, 2) := by decide +kernel
theorem dL_law_758 : decode cL_law 758 = .ok (.i2l, 1) := by decide +kernel
theorem dL_law_759 : decode cL_law 759 = .ok (.lcmp, 1) := by decide +kernel
theorem dL_law_760 : decode cL_law 760 = .ok (.ifCond .eq 5, 3) := by decide +kernel
theorem dL_law_763 : decode cL_law 763 = .ok (.iconst 0, 1) := by decide +kernel
theorem dL_law_764 : decode cL_law 764 = .ok (.ireturn, 1) := by decide +kernel
theorem dL_law_765 : decode cL_law 765 = .ok (.goto 728, 3) := by decide +kernel
theorem dL_law_768 : decode cL_law 768 = .ok (.aload_n 1, 1) := by decide +kernel
theorem dL_law_769 : decode cL_law 769 = .ok (.aload_n 0, 1) := by decide +kernel
theorem dL_law_770 : decode cL_law 770 = .ok (.iload 4, 2) := by decide +kernel
theorem dL_law_772 : decode cL_law 772 = .ok (.iconst 1, 1) := by decide +kernel
theorem dL_law_773 : decode cL_law 773 = .ok (.iadd, 1) := by decide +kernel
theorem dL_law_774 : decode cL_law 774 = .ok (.iaload, 1) := by decide +kernel
theorem dL_law_775 : decode cL_law 775 = .ok (.invokevirtual 128, 3) := by decide +kernel
theorem dL_law_778 : decode cL_law 778 = .ok (.aload_n 2, 1) := by decide +kernel
theorem dL_law_779 : decode cL_law 779 = .ok (.aload_n 0, 1) := by decide +kernel
theorem dL_law_780 : decode cL_law 780 = .ok (.iload 4, 2) := by decide +kernel
theorem dL_law_782 : decode cL_law 782 = .ok (.iconst 1, 1) := by decide +kernel
theorem dL_law_783 : decode cL_law 783 = .ok (.iadd, 1) := by decide +kernel
theorem dL_law_784 : decode cL_law 784 = .ok (.iaload, 1) := by decide +kernel
theorem dL_law_785 : decode cL_law 785 = .ok (.invokevirtual 131, 3) := by decide +kernel
theorem dL_law_788 : decode cL_law 788 = .ok (.if_icmp .eq 705, 3) := by decide +kernel
theorem dL_law_791 : decode cL_law 791 = .ok (.iconst 0, 1) := by decide +kernel
theorem dL_law_792 : decode cL_law 792 = .ok (.ireturn, 1) := by decide +kernel
theorem dL_law_793 : decode cL_law 793 = .ok (.aload_n 1, 1) := by decide +kernel
theorem dL_law_794 : decode cL_law 794 = .ok (.aload_n 0, 1) := by decide +kernel
theorem dL_law_795 : decode cL_law 795 = .ok (.iload 4, 2) := by decide +kernel
theorem dL_law_797 : decode cL_law 797 = .ok (.iconst 1, 1) := by decide +kernel
theorem dL_law_798 : decode cL_law 798 = .ok (.iadd, 1) := by decide +kernel
theorem dL_law_799 : decode cL_law 799 = .ok (.iaload, 1) := by decide +kernel
theorem dL_law_800 : decode cL_law 800 = .ok (.invokevirtual 132, 3) := by decide +kernel
theorem dL_law_803 : decode cL_law 803 = .ok (.aload_n 2, 1) := by decide +kernel
theorem dL_law_804 : decode cL_law 804 = .ok (.aload_n 0, 1) := by decide +kernel
theorem dL_law_805 : decode cL_law 805 = .ok (.iload 4, 2) := by decide +kernel
theorem dL_law_807 : decode cL_law 807 = .ok (.iconst 1, 1) := by decide +kernel
theorem dL_law_808 : decode cL_law 808 = .ok (.iadd, 1) := by decide +kernel
theorem dL_law_809 : decode cL_law 809 = .ok (.iaload, 1) := by decide +kernel
theorem dL_law_810 : decode cL_law 810 = .ok (.invokevirtual 135, 3) := by decide +kernel
theorem dL_law_813 : decode cL_law 813 = .ok (.if_icmp .eq 680, 3) := by decide +kernel
theorem dL_law_816 : decode cL_law 816 = .ok (.iconst 0, 1) := by decide +kernel
theorem dL_law_817 : decode cL_law 817 = .ok (.ireturn, 1) := by decide +kernel
theorem dL_law_818 : decode cL_law 818 = .ok (.aload_n 1, 1) := by decide +kernel
theorem dL_law_819 : decode cL_law 819 = .ok (.invokevirtual 136, 3) := by decide +kernel
theorem dL_law_822 : decode cL_law 822 = .ok (.aload_n 2, 1) := by decide +kernel
theorem dL_law_823 : decode cL_law 823 = .ok (.invokevirtual 139, 3) := by decide +kernel
theorem dL_law_826 : decode cL_law 826 = .ok (.if_icmp .eq 667, 3) := by decide +kernel
theorem dL_law_829 : decode cL_law 829 = .ok (.iconst 0, 1) := by decide +kernel
theorem dL_law_830 : decode cL_law 830 = .ok (.ireturn, 1) := by decide +kernel
theorem dL_law_831 : decode cL_law 831 = .ok (.aload_n 1, 1) := by decide +kernel
theorem dL_law_832 : decode cL_law 832 = .ok (.aload_n 0, 1) := by decide +kernel
theorem dL_law_833 : decode cL_law 833 = .ok (.iload 4, 2) := by decide +kernel
theorem dL_law_835 : decode cL_law 835 = .ok (.iconst 1, 1) := by decide +kernel
theorem dL_law_836 : decode cL_law 836 = .ok (.iadd, 1) := by decide +kernel
theorem dL_law_837 : decode cL_law 837 = .ok (.iaload, 1) := by decide +kernel
theorem dL_law_838 : decode cL_law 838 = .ok (.aload_n 0, 1) := by decide +kernel
theorem dL_law_839 : decode cL_law 839 = .ok (.iload 4, 2) := by decide +kernel
theorem dL_law_841 : decode cL_law 841 = .ok (.iconst 2, 1) := by decide +kernel
theorem dL_law_842 : decode cL_law 842 = .ok (.iadd, 1) := by decide +kernel
theorem dL_law_843 : decode cL_law 843 = .ok (.iaload, 1) := by decide +kernel
theorem dL_law_844 : decode cL_law 844 = .ok (.aload_n 3, 1) := by decide +kernel
theorem dL_law_845 : decode cL_law 845 = .ok (.invokestatic 140, 3) := by decide +kernel
theorem dL_law_848 : decode cL_law 848 = .ok (.istore 5, 2) := by decide +kernel
theorem dL_law_850 : decode cL_law 850 = .ok (.aload_n 2, 1) := by decide +kernel
theorem dL_law_851 : decode cL_law 851 = .ok (.aload_n 0, 1) := by decide +kernel
theorem dL_law_852 : decode cL_law 852 = .ok (.iload 4, 2) := by decide +kernel
theorem dL_law_854 : decode cL_law 854 = .ok (.iconst 1, 1) := by decide +kernel
theorem dL_law_855 : decode cL_law 855 = .ok (.iadd, 1) := by decide +kernel
theorem dL_law_856 : decode cL_law 856 = .ok (.iaload, 1) := by decide +kernel
theorem dL_law_857 : decode cL_law 857 = .ok (.aload_n 0, 1) := by decide +kernel
theorem dL_law_858 : decode cL_law 858 = .ok (.iload 4, 2) := by decide +kernel
theorem dL_law_860 : decode cL_law 860 = .ok (.iconst 2, 1) := by decide +kernel
theorem dL_law_861 : decode cL_law 861 = .ok (.iadd, 1) := by decide +kernel
theorem dL_law_862 : decode cL_law 862 = .ok (.iaload, 1) := by decide +kernel
theorem dL_law_863 : decode cL_law 863 = .ok (.invokevirtual 142, 3) := by decide +kernel
theorem dL_law_866 : decode cL_law 866 = .ok (.istore 6, 2) := by decide +kernel
theorem dL_law_868 : decode cL_law 868 = .ok (.aload_n 2, 1) := by decide +kernel
theorem dL_law_869 : decode cL_law 869 = .ok (.invokevirtual 82, 3) := by decide +kernel
theorem dL_law_872 : decode cL_law 872 = .ok (.iload 5, 2) := by decide +kernel
theorem dL_law_874 : decode cL_law 874 = .ok (.if_icmp .eq 5, 3) := by decide +kernel
theorem dL_law_877 : decode cL_law 877 = .ok (.iconst 0, 1) := by decide +kernel
theorem dL_law_878 : decode cL_law 878 = .ok (.ireturn, 1) := by decide +kernel
theorem dL_law_879 : decode cL_law 879 = .ok (.iload 5, 2) := by decide +kernel
theorem dL_law_881 : decode cL_law 881 = .ok (.ifCond .ne 15, 3) := by decide +kernel
theorem dL_law_884 : decode cL_law 884 = .ok (.aload_n 3, 1) := by decide +kernel
theorem dL_law_885 : decode cL_law 885 = .ok (.iconst 0, 1) := by decide +kernel
theorem dL_law_886 : decode cL_law 886 = .ok (.laload, 1) := by decide +kernel
theorem dL_law_887 : decode cL_law 887 = .ok (.iload 6, 2) := by decide +kernel
theorem dL_law_889 : decode cL_law 889 = .ok (.i2l, 1) := by decide +kernel
theorem dL_law_890 : decode cL_law 890 = .ok (.lcmp, 1) := by decide +kernel
theorem dL_law_891 : decode cL_law 891 = .ok (.ifCond .eq 5, 3) := by decide +kernel
theorem dL_law_894 : decode cL_law 894 = .ok (.iconst 0, 1) := by decide +kernel
theorem dL_law_895 : decode cL_law 895 = .ok (.ireturn, 1) := by decide +kernel
theorem dL_law_896 : decode cL_law 896 = .ok (.goto 597, 3) := by decide +kernel
theorem dL_law_899 : decode cL_law 899 = .ok (.aload_n 1, 1) := by decide +kernel
theorem dL_law_900 : decode cL_law 900 = .ok (.aload_n 0, 1) := by decide +kernel
theorem dL_law_901 : decode cL_law 901 = .ok (.iload 4, 2) := by decide +kernel
theorem dL_law_903 : decode cL_law 903 = .ok (.iconst 1, 1) := by decide +kernel
theorem dL_law_904 : decode cL_law 904 = .ok (.iadd, 1) := by decide +kernel
theorem dL_law_905 : decode cL_law 905 = .ok (.iaload, 1) := by decide +kernel
theorem dL_law_906 : decode cL_law 906 = .ok (.aload_n 3, 1) := by decide +kernel
theorem dL_law_907 : decode cL_law 907 = .ok (.invokestatic 143, 3) := by decide +kernel
theorem dL_law_910 : decode cL_law 910 = .ok (.istore 5, 2) := by decide +kernel
theorem dL_law_912 : decode cL_law 912 = .ok (.aload_n 2, 1) := by decide +kernel
theorem dL_law_913 : decode cL_law 913 = .ok (.aload_n 0, 1) := by decide +kernel
theorem dL_law_914 : decode cL_law 914 = .ok (.iload 4, 2) := by decide +kernel
theorem dL_law_916 : decode cL_law 916 = .ok (.iconst 1, 1) := by decide +kernel
theorem dL_law_917 : decode cL_law 917 = .ok (.iadd, 1) := by decide +kernel
theorem dL_law_918 : decode cL_law 918 = .ok (.iaload, 1) := by decide +kernel
theorem dL_law_919 : decode cL_law 919 = .ok (.invokevirtual 145, 3) := by decide +kernel
theorem dL_law_922 : decode cL_law 922 = .ok (.istore 6, 2) := by decide +kernel
theorem dL_law_924 : decode cL_law 924 = .ok (.aload_n 2, 1) := by decide +kernel
theorem dL_law_925 : decode cL_law 925 = .ok (.invokevirtual 82, 3) := by decide +kernel
theorem dL_law_928 : decode cL_law 928 = .ok (.iload 5, 2) := by decide +kernel
theorem dL_law_930 : decode cL_law 930 = .ok (.if_icmp .eq 5, 3) := by decide +kernel
theorem dL_law_933 : decode cL_law 933 = .ok (.iconst 0, 1) := by decide +kernel
theorem dL_law_934 : decode cL_law 934 = .ok (.ireturn, 1) := by decide +kernel
theorem dL_law_935 : decode cL_law 935 = .ok (.iload 5, 2) := by decide +kernel
theorem dL_law_937 : decode cL_law 937 = .ok (.ifCond .ne 15, 3) := by decide +kernel
theorem dL_law_940 : decode cL_law 940 = .ok (.aload_n 3, 1) := by decide +kernel
theorem dL_law_941 : decode cL_law 941 = .ok (.iconst 0, 1) := by decide +kernel
theorem dL_law_942 : decode cL_law 942 = .ok (.laload, 1) := by decide +kernel
theorem dL_law_943 : decode cL_law 943 = .ok (.iload 6, 2) := by decide +kernel
theorem dL_law_945 : decode cL_law 945 = .ok (.i2l, 1) := by decide +kernel
theorem dL_law_946 : decode cL_law 946 = .ok (.lcmp, 1) := by decide +kernel
theorem dL_law_947 : decode cL_law 947 = .ok (.ifCond .eq 5, 3) := by decide +kernel
theorem dL_law_950 : decode cL_law 950 = .ok (.iconst 0, 1) := by decide +kernel
theorem dL_law_951 : decode cL_law 951 = .ok (.ireturn, 1) := by decide +kernel
theorem dL_law_952 : decode cL_law 952 = .ok (.goto 541, 3) := by decide +kernel
theorem dL_law_955 : decode cL_law 955 = .ok (.aload_n 1, 1) := by decide +kernel
theorem dL_law_956 : decode cL_law 956 = .ok (.aload_n 0, 1) := by decide +kernel
theorem dL_law_957 : decode cL_law 957 = .ok (.iload 4, 2) := by decide +kernel
theorem dL_law_959 : decode cL_law 959 = .ok (.iconst 1, 1) := by decide +kernel
theorem dL_law_960 : decode cL_law 960 = .ok (.iadd, 1) := by decide +kernel
theorem dL_law_961 : decode cL_law 961 = .ok (.iaload, 1) := by decide +kernel
theorem dL_law_962 : decode cL_law 962 = .ok (.aload_n 3, 1) := by decide +kernel
theorem dL_law_963 : decode cL_law 963 = .ok (.invokestatic 146, 3) := by decide +kernel
theorem dL_law_966 : decode cL_law 966 = .ok (.istore 5, 2) := by decide +kernel
theorem dL_law_968 : decode cL_law 968 = .ok (.aload_n 2, 1) := by decide +kernel
theorem dL_law_969 : decode cL_law 969 = .ok (.aload_n 0, 1) := by decide +kernel
theorem dL_law_970 : decode cL_law 970 = .ok (.iload 4, 2) := by decide +kernel
theorem dL_law_972 : decode cL_law 972 = .ok (.iconst 1, 1) := by decide +kernel
theorem dL_law_973 : decode cL_law 973 = .ok (.iadd, 1) := by decide +kernel
theorem dL_law_974 : decode cL_law 974 = .ok (.iaload, 1) := by decide +kernel
theorem dL_law_975 : decode cL_law 975 = .ok (.invokevirtual 148, 3) := by decide +kernel
theorem dL_law_978 : decode cL_law 978 = .ok (.istore 6, 2) := by decide +kernel
theorem dL_law_980 : decode cL_law 980 = .ok (.aload_n 2, 1) := by decide +kernel
theorem dL_law_981 : decode cL_law 981 = .ok (.invokevirtual 82, 3) := by decide +kernel
theorem dL_law_984 : decode cL_law 984 = .ok (.iload 5, 2) := by decide +kernel
theorem dL_law_986 : decode cL_law 986 = .ok (.if_icmp .eq 5, 3) := by decide +kernel
theorem dL_law_989 : decode cL_law 989 = .ok (.iconst 0, 1) := by decide +kernel
theorem dL_law_990 : decode cL_law 990 = .ok (.ireturn, 1) := by decide +kernel
theorem dL_law_991 : decode cL_law 991 = .ok (.iload 5, 2) := by decide +kernel
theorem dL_law_993 : decode cL_law 993 = .ok (.ifCond .ne 15, 3) := by decide +kernel
theorem dL_law_996 : decode cL_law 996 = .ok (.aload_n 3, 1) := by decide +kernel
theorem dL_law_997 : decode cL_law 997 = .ok (.iconst 0, 1) := by decide +kernel
theorem dL_law_998 : decode cL_law 998 = .ok (.laload, 1) := by decide +kernel
theorem dL_law_999 : decode cL_law 999 = .ok (.iload 6, 2) := by decide +kernel
theorem dL_law_1001 : decode cL_law 1001 = .ok (.i2l, 1) := by decide +kernel
theorem dL_law_1002 : decode cL_law 1002 = .ok (.lcmp, 1) := by decide +kernel
theorem dL_law_1003 : decode cL_law 1003 = .ok (.ifCond .eq 5, 3) := by decide +kernel
theorem dL_law_1006 : decode cL_law 1006 = .ok (.iconst 0, 1) := by decide +kernel
theorem dL_law_1007 : decode cL_law 1007 = .ok (.ireturn, 1) := by decide +kernel
theorem dL_law_1008 : decode cL_law 1008 = .ok (.goto 485, 3) := by decide +kernel
theorem dL_law_1011 : decode cL_law 1011 = .ok (.aload_n 1, 1) := by decide +kernel
theorem dL_law_1012 : decode cL_law 1012 = .ok (.aload_n 0, 1) := by decide +kernel
theorem dL_law_1013 : decode cL_law 1013 = .ok (.iload 4, 2) := by decide +kernel
theorem dL_law_1015 : decode cL_law 1015 = .ok (.iconst 1, 1) := by decide +kernel
theorem dL_law_1016 : decode cL_law 1016 = .ok (.iadd, 1) := by decide +kernel
theorem dL_law_1017 : decode cL_law 1017 = .ok (.iaload, 1) := by decide +kernel
theorem dL_law_1018 : decode cL_law 1018 = .ok (.invokevirtual 149, 3) := by decide +kernel
theorem dL_law_1021 : decode cL_law 1021 = .ok (.aload_n 2, 1) := by decide +kernel
theorem dL_law_1022 : decode cL_law 1022 = .ok (.aload_n 0, 1) := by decide +kernel
theorem dL_law_1023 : decode cL_law 1023 = .ok (.iload 4, 2) := by decide +kernel
theorem dL_law_1025 : decode cL_law 1025 = .ok (.iconst 1, 1) := by decide +kernel
theorem dL_law_1026 : decode cL_law 1026 = .ok (.iadd, 1) := by decide +kernel
theorem dL_law_1027 : decode cL_law 1027 = .ok (.iaload, 1) := by decide +kernel
theorem dL_law_1028 : decode cL_law 1028 = .ok (.invokevirtual 152, 3) := by decide +kernel
theorem dL_law_1031 : decode cL_law 1031 = .ok (.if_icmp .eq 462, 3) := by decide +kernel
theorem dL_law_1034 : decode cL_law 1034 = .ok (.iconst 0, 1) := by decide +kernel
theorem dL_law_1035 : decode cL_law 1035 = .ok (.ireturn, 1) := by decide +kernel
theorem dL_law_1036 : decode cL_law 1036 = .ok (.aload_n 1, 1) := by decide +kernel
theorem dL_law_1037 : decode cL_law 1037 = .ok (.invokevirtual 153, 3) := by decide +kernel
theorem dL_law_1040 : decode cL_law 1040 = .ok (.aload_n 2, 1) := by decide +kernel
theorem dL_law_1041 : decode cL_law 1041 = .ok (.invokevirtual 156, 3) := by decide +kernel
theorem dL_law_1044 : decode cL_law 1044 = .ok (.if_icmp .eq 449, 3) := by decide +kernel
theorem dL_law_1047 : decode cL_law 1047 = .ok (.iconst 0, 1) := by decide +kernel
theorem dL_law_1048 : decode cL_law 1048 = .ok (.ireturn, 1) := by decide +kernel
theorem dL_law_1049 : decode cL_law 1049 = .ok (.aload_n 1, 1) := by decide +kernel
theorem dL_law_1050 : decode cL_law 1050 = .ok (.invokevirtual 157, 3) := by decide +kernel
theorem dL_law_1053 : decode cL_law 1053 = .ok (.aload_n 2, 1) := by decide +kernel
theorem dL_law_1054 : decode cL_law 1054 = .ok (.invokevirtual 160, 3) := by decide +kernel
theorem dL_law_1057 : decode cL_law 1057 = .ok (.if_icmp .eq 436, 3) := by decide +kernel
theorem dL_law_1060 : decode cL_law 1060 = .ok (.iconst 0, 1) := by decide +kernel
theorem dL_law_1061 : decode cL_law 1061 = .ok (.ireturn, 1) := by decide +kernel
theorem dL_law_1062 : decode cL_law 1062 = .ok (.aload_n 1, 1) := by decide +kernel
theorem dL_law_1063 : decode cL_law 1063 = .ok (.invokevirtual 161, 3) := by decide +kernel
theorem dL_law_1066 : decode cL_law 1066 = .ok (.aload_n 2, 1) := by decide +kernel
theorem dL_law_1067 : decode cL_law 1067 = .ok (.invokevirtual 164, 3) := by decide +kernel
theorem dL_law_1070 : decode cL_law 1070 = .ok (.if_icmp .eq 423, 3) := by decide +kernel
theorem dL_law_1073 : decode cL_law 1073 = .ok (.iconst 0, 1) := by decide +kernel
theorem dL_law_1074 : decode cL_law 1074 = .ok (.ireturn, 1) := by decide +kernel
theorem dL_law_1075 : decode cL_law 1075 = .ok (.aload_n 1, 1) := by decide +kernel
theorem dL_law_1076 : decode cL_law 1076 = .ok (.invokevirtual 165, 3) := by decide +kernel
theorem dL_law_1079 : decode cL_law 1079 = .ok (.aload_n 2, 1) := by decide +kernel
theorem dL_law_1080 : decode cL_law 1080 = .ok (.invokevirtual 168, 3) := by decide +kernel
theorem dL_law_1083 : decode cL_law 1083 = .ok (.if_icmp .eq 410, 3) := by decide +kernel
theorem dL_law_1086 : decode cL_law 1086 = .ok (.iconst 0, 1) := by decide +kernel
theorem dL_law_1087 : decode cL_law 1087 = .ok (.ireturn, 1) := by decide +kernel
theorem dL_law_1088 : decode cL_law 1088 = .ok (.aload_n 1, 1) := by decide +kernel
theorem dL_law_1089 : decode cL_law 1089 = .ok (.invokevirtual 169, 3) := by decide +kernel
theorem dL_law_1092 : decode cL_law 1092 = .ok (.dstore 5, 2) := by decide +kernel
theorem dL_law_1094 : decode cL_law 1094 = .ok (.aload_n 2, 1) := by decide +kernel
theorem dL_law_1095 : decode cL_law 1095 = .ok (.invokevirtual 173, 3) := by decide +kernel
theorem dL_law_1098 : decode cL_law 1098 = .ok (.dstore 7, 2) := by decide +kernel
theorem dL_law_1100 : decode cL_law 1100 = .ok (.dload 5, 2) := by decide +kernel
theorem dL_law_1102 : decode cL_law 1102 = .ok (.dload 7, 2) := by decide +kernel
theorem dL_law_1104 : decode cL_law 1104 = .ok (.dcmp .l, 1) := by decide +kernel
theorem dL_law_1105 : decode cL_law 1105 = .ok (.ifCond .eq 21, 3) := by decide +kernel
theorem dL_law_1108 : decode cL_law 1108 = .ok (.dload 5, 2) := by decide +kernel
theorem dL_law_1110 : decode cL_law 1110 = .ok (.dload 5, 2) := by decide +kernel
theorem dL_law_1112 : decode cL_law 1112 = .ok (.dcmp .l, 1) := by decide +kernel
theorem dL_law_1113 : decode cL_law 1113 = .ok (.ifCond .eq 11, 3) := by decide +kernel
theorem dL_law_1116 : decode cL_law 1116 = .ok (.dload 7, 2) := by decide +kernel
theorem dL_law_1118 : decode cL_law 1118 = .ok (.dload 7, 2) := by decide +kernel
theorem dL_law_1120 : decode cL_law 1120 = .ok (.dcmp .l, 1) := by decide +kernel
theorem dL_law_1121 : decode cL_law 1121 = .ok (.ifCond .ne 5, 3) := by decide +kernel
theorem dL_law_1124 : decode cL_law 1124 = .ok (.iconst 0, 1) := by decide +kernel
theorem dL_law_1125 : decode cL_law 1125 = .ok (.ireturn, 1) := by decide +kernel
theorem dL_law_1126 : decode cL_law 1126 = .ok (.goto 367, 3) := by decide +kernel
theorem dL_law_1129 : decode cL_law 1129 = .ok (.aload_n 1, 1) := by decide +kernel
theorem dL_law_1130 : decode cL_law 1130 = .ok (.aload_n 0, 1) := by decide +kernel
theorem dL_law_1131 : decode cL_law 1131 = .ok (.iload 4, 2) := by decide +kernel
theorem dL_law_1133 : decode cL_law 1133 = .ok (.iconst 1, 1) := by decide +kernel
theorem dL_law_1134 : decode cL_law 1134 = .ok (.iadd, 1) := by decide +kernel
theorem dL_law_1135 : decode cL_law 1135 = .ok (.iaload, 1) := by decide +kernel
theorem dL_law_1136 : decode cL_law 1136 = .ok (.aload_n 3, 1) := by decide +kernel
theorem dL_law_1137 : decode cL_law 1137 = .ok (.invokestatic 174, 3) := by decide +kernel
theorem dL_law_1140 : decode cL_law 1140 = .ok (.istore 5, 2) := by decide +kernel
theorem dL_law_1142 : decode cL_law 1142 = .ok (.aload_n 2, 1) := by decide +kernel
theorem dL_law_1143 : decode cL_law 1143 = .ok (.aload_n 0, 1) := by decide +kernel
theorem dL_law_1144 : decode cL_law 1144 = .ok (.iload 4, 2) := by decide +kernel
theorem dL_law_1146 : decode cL_law 1146 = .ok (.iconst 1, 1) := by decide +kernel
theorem dL_law_1147 : decode cL_law 1147 = .ok (.iadd, 1) := by decide +kernel
theorem dL_law_1148 : decode cL_law 1148 = .ok (.iaload, 1) := by decide +kernel
theorem dL_law_1149 : decode cL_law 1149 = .ok (.invokevirtual 176, 3) := by decide +kernel
theorem dL_law_1152 : decode cL_law 1152 = .ok (.istore 6, 2) := by decide +kernel
theorem dL_law_1154 : decode cL_law 1154 = .ok (.aload_n 2, 1) := by decide +kernel
theorem dL_law_1155 : decode cL_law 1155 = .ok (.invokevirtual 82, 3) := by decide +kernel
theorem dL_law_1158 : decode cL_law 1158 = .ok (.iload 5, 2) := by decide +kernel
theorem dL_law_1160 : decode cL_law 1160 = .ok (.if_icmp .eq 5, 3) := by decide +kernel
theorem dL_law_1163 : decode cL_law 1163 = .ok (.iconst 0, 1) := by decide +kernel
theorem dL_law_1164 : decode cL_law 1164 = .ok (.ireturn, 1) := by decide +kernel
theorem dL_law_1165 : decode cL_law 1165 = .ok (.iload 5, 2) := by decide +kernel
theorem dL_law_1167 : decode cL_law 1167 = .ok (.ifCond .ne 15, 3) := by decide +kernel
theorem dL_law_1170 : decode cL_law 1170 = .ok (.aload_n 3, 1) := by decide +kernel
theorem dL_law_1171 : decode cL_law 1171 = .ok (.iconst 0, 1) := by decide +kernel
theorem dL_law_1172 : decode cL_law 1172 = .ok (.laload, 1) := by decide +kernel
theorem dL_law_1173 : decode cL_law 1173 = .ok (.iload 6, 2) := by decide +kernel
theorem dL_law_1175 : decode cL_law 1175 = .ok (.i2l, 1) := by decide +kernel
theorem dL_law_1176 : decode cL_law 1176 = .ok (.lcmp, 1) := by decide +kernel
theorem dL_law_1177 : decode cL_law 1177 = .ok (.ifCond .eq 5, 3) := by decide +kernel
theorem dL_law_1180 : decode cL_law 1180 = .ok (.iconst 0, 1) := by decide +kernel
theorem dL_law_1181 : decode cL_law 1181 = .ok (.ireturn, 1) := by decide +kernel
theorem dL_law_1182 : decode cL_law 1182 = .ok (.goto 311, 3) := by decide +kernel
theorem dL_law_1185 : decode cL_law 1185 = .ok (.aload_n 1, 1) := by decide +kernel
theorem dL_law_1186 : decode cL_law 1186 = .ok (.aload_n 0, 1) := by decide +kernel
theorem dL_law_1187 : decode cL_law 1187 = .ok (.iload 4, 2) := by decide +kernel
theorem dL_law_1189 : decode cL_law 1189 = .ok (.iconst 1, 1) := by decide +kernel
theorem dL_law_1190 : decode cL_law 1190 = .ok (.iadd, 1) := by decide +kernel
theorem dL_law_1191 : decode cL_law 1191 = .ok (.iaload, 1) := by decide +kernel
theorem dL_law_1192 : decode cL_law 1192 = .ok (.aload_n 0, 1) := by decide +kernel
theorem dL_law_1193 : decode cL_law 1193 = .ok (.iload 4, 2) := by decide +kernel
theorem dL_law_1195 : decode cL_law 1195 = .ok (.iconst 2, 1) := by decide +kernel
theorem dL_law_1196 : decode cL_law 1196 = .ok (.iadd, 1) := by decide +kernel
theorem dL_law_1197 : decode cL_law 1197 = .ok (.iaload, 1) := by decide +kernel
theorem dL_law_1198 : decode cL_law 1198 = .ok (.aload_n 3, 1) := by decide +kernel
theorem dL_law_1199 : decode cL_law 1199 = .ok (.invokestatic 177, 3) := by decide +kernel
theorem dL_law_1202 : decode cL_law 1202 = .ok (.istore 5, 2) := by decide +kernel
theorem dL_law_1204 : decode cL_law 1204 = .ok (.aload_n 2, 1) := by decide +kernel
theorem dL_law_1205 : decode cL_law 1205 = .ok (.aload_n 0, 1) := by decide +kernel
theorem dL_law_1206 : decode cL_law 1206 = .ok (.iload 4, 2) := by decide +kernel
theorem dL_law_1208 : decode cL_law 1208 = .ok (.iconst 1, 1) := by decide +kernel
theorem dL_law_1209 : decode cL_law 1209 = .ok (.iadd, 1) := by decide +kernel
theorem dL_law_1210 : decode cL_law 1210 = .ok (.iaload, 1) := by decide +kernel
theorem dL_law_1211 : decode cL_law 1211 = .ok (.aload_n 0, 1) := by decide +kernel
theorem dL_law_1212 : decode cL_law 1212 = .ok (.iload 4, 2) := by decide +kernel
theorem dL_law_1214 : decode cL_law 1214 = .ok (.iconst 2, 1) := by decide +kernel
theorem dL_law_1215 : decode cL_law 1215 = .ok (.iadd, 1) := by decide +kernel
theorem dL_law_1216 : decode cL_law 1216 = .ok (.iaload, 1) := by decide +kernel
theorem dL_law_1217 : decode cL_law 1217 = .ok (.invokevirtual 179, 3) := by decide +kernel
theorem dL_law_1220 : decode cL_law 1220 = .ok (.istore 6, 2) := by decide +kernel
theorem dL_law_1222 : decode cL_law 1222 = .ok (.aload_n 2, 1) := by decide +kernel
theorem dL_law_1223 : decode cL_law 1223 = .ok (.invokevirtual 82, 3) := by decide +kernel
theorem dL_law_1226 : decode cL_law 1226 = .ok (.iload 5, 2) := by decide +kernel
theorem dL_law_1228 : decode cL_law 1228 = .ok (.if_icmp .eq 5, 3) := by decide +kernel
theorem dL_law_1231 : decode cL_law 1231 = .ok (.iconst 0, 1) := by decide +kernel
theorem dL_law_1232 : decode cL_law 1232 = .ok (.ireturn, 1) := by decide +kernel
theorem dL_law_1233 : decode cL_law 1233 = .ok (.iload 5, 2) := by decide +kernel
theorem dL_law_1235 : decode cL_law 1235 = .ok (.ifCond .ne 15, 3) := by decide +kernel
theorem dL_law_1238 : decode cL_law 1238 = .ok (.aload_n 3, 1) := by decide +kernel
theorem dL_law_1239 : decode cL_law 1239 = .ok (.iconst 0, 1) := by decide +kernel
theorem dL_law_1240 : decode cL_law 1240 = .ok (.laload, 1) := by decide +kernel
theorem dL_law_1241 : decode cL_law 1241 = .ok (.iload 6, 2) := by decide +kernel
theorem dL_law_1243 : decode cL_law 1243 = .ok (.i2l, 1) := by decide +kernel
theorem dL_law_1244 : decode cL_law 1244 = .ok (.lcmp, 1) := by decide +kernel
theorem dL_law_1245 : decode cL_law 1245 = .ok (.ifCond .eq 5, 3) := by decide +kernel
theorem dL_law_1248 : decode cL_law 1248 = .ok (.iconst 0, 1) := by decide +kernel
theorem dL_law_1249 : decode cL_law 1249 = .ok (.ireturn, 1) := by decide +kernel
theorem dL_law_1250 : decode cL_law 1250 = .ok (.goto 243, 3) := by decide +kernel
theorem dL_law_1253 : decode cL_law 1253 = .ok (.aload_n 1, 1) := by decide +kernel
theorem dL_law_1254 : decode cL_law 1254 = .ok (.aload_n 0, 1) := by decide +kernel
theorem dL_law_1255 : decode cL_law 1255 = .ok (.iload 4, 2) := by decide +kernel
theorem dL_law_1257 : decode cL_law 1257 = .ok (.iconst 1, 1) := by decide +kernel
theorem dL_law_1258 : decode cL_law 1258 = .ok (.iadd, 1) := by decide +kernel
theorem dL_law_1259 : decode cL_law 1259 = .ok (.iaload, 1) := by decide +kernel
theorem dL_law_1260 : decode cL_law 1260 = .ok (.aload_n 3, 1) := by decide +kernel
theorem dL_law_1261 : decode cL_law 1261 = .ok (.invokestatic 180, 3) := by decide +kernel
theorem dL_law_1264 : decode cL_law 1264 = .ok (.istore 5, 2) := by decide +kernel
theorem dL_law_1266 : decode cL_law 1266 = .ok (.aload_n 2, 1) := by decide +kernel
theorem dL_law_1267 : decode cL_law 1267 = .ok (.aload_n 0, 1) := by decide +kernel
theorem dL_law_1268 : decode cL_law 1268 = .ok (.iload 4, 2) := by decide +kernel
theorem dL_law_1270 : decode cL_law 1270 = .ok (.iconst 1, 1) := by decide +kernel
theorem dL_law_1271 : decode cL_law 1271 = .ok (.iadd, 1) := by decide +kernel
theorem dL_law_1272 : decode cL_law 1272 = .ok (.iaload, 1) := by decide +kernel
theorem dL_law_1273 : decode cL_law 1273 = .ok (.invokevirtual 182, 3) := by decide +kernel
theorem dL_law_1276 : decode cL_law 1276 = .ok (.istore 6, 2) := by decide +kernel
theorem dL_law_1278 : decode cL_law 1278 = .ok (.aload_n 2, 1) := by decide +kernel
theorem dL_law_1279 : decode cL_law 1279 = .ok (.invokevirtual 82, 3) := by decide +kernel
theorem dL_law_1282 : decode cL_law 1282 = .ok (.iload 5, 2) := by decide +kernel
theorem dL_law_1284 : decode cL_law 1284 = .ok (.if_icmp .eq 5, 3) := by decide +kernel
theorem dL_law_1287 : decode cL_law 1287 = .ok (.iconst 0, 1) := by decide +kernel
theorem dL_law_1288 : decode cL_law 1288 = .ok (.ireturn, 1) := by decide +kernel
theorem dL_law_1289 : decode cL_law 1289 = .ok (.iload 5, 2) := by decide +kernel
theorem dL_law_1291 : decode cL_law 1291 = .ok (.ifCond .ne 15, 3) := by decide +kernel
theorem dL_law_1294 : decode cL_law 1294 = .ok (.aload_n 3, 1) := by decide +kernel
theorem dL_law_1295 : decode cL_law 1295 = .ok (.iconst 0, 1) := by decide +kernel
theorem dL_law_1296 : decode cL_law 1296 = .ok (.laload, 1) := by decide +kernel
theorem dL_law_1297 : decode cL_law 1297 = .ok (.iload 6, 2) := by decide +kernel
theorem dL_law_1299 : decode cL_law 1299 = .ok (.i2l, 1) := by decide +kernel
theorem dL_law_1300 : decode cL_law 1300 = .ok (.lcmp, 1) := by decide +kernel
theorem dL_law_1301 : decode cL_law 1301 = .ok (.ifCond .eq 5, 3) := by decide +kernel
theorem dL_law_1304 : decode cL_law 1304 = .ok (.iconst 0, 1) := by decide +kernel
theorem dL_law_1305 : decode cL_law 1305 = .ok (.ireturn, 1) := by decide +kernel
theorem dL_law_1306 : decode cL_law 1306 = .ok (.goto 187, 3) := by decide +kernel
theorem dL_law_1309 : decode cL_law 1309 = .ok (.aload_n 1, 1) := by decide +kernel
theorem dL_law_1310 : decode cL_law 1310 = .ok (.aload_n 0, 1) := by decide +kernel
theorem dL_law_1311 : decode cL_law 1311 = .ok (.iload 4, 2) := by decide +kernel
theorem dL_law_1313 : decode cL_law 1313 = .ok (.iconst 1, 1) := by decide +kernel
theorem dL_law_1314 : decode cL_law 1314 = .ok (.iadd, 1) := by decide +kernel
theorem dL_law_1315 : decode cL_law 1315 = .ok (.iaload, 1) := by decide +kernel
theorem dL_law_1316 : decode cL_law 1316 = .ok (.aload_n 3, 1) := by decide +kernel
theorem dL_law_1317 : decode cL_law 1317 = .ok (.invokestatic 183, 3) := by decide +kernel
theorem dL_law_1320 : decode cL_law 1320 = .ok (.istore 5, 2) := by decide +kernel
theorem dL_law_1322 : decode cL_law 1322 = .ok (.aload_n 2, 1) := by decide +kernel
theorem dL_law_1323 : decode cL_law 1323 = .ok (.aload_n 0, 1) := by decide +kernel
theorem dL_law_1324 : decode cL_law 1324 = .ok (.iload 4, 2) := by decide +kernel
theorem dL_law_1326 : decode cL_law 1326 = .ok (.iconst 1, 1) := by decide +kernel
theorem dL_law_1327 : decode cL_law 1327 = .ok (.iadd, 1) := by decide +kernel
theorem dL_law_1328 : decode cL_law 1328 = .ok (.iaload, 1) := by decide +kernel
theorem dL_law_1329 : decode cL_law 1329 = .ok (.invokevirtual 185, 3) := by decide +kernel
theorem dL_law_1332 : decode cL_law 1332 = .ok (.istore 6, 2) := by decide +kernel
theorem dL_law_1334 : decode cL_law 1334 = .ok (.aload_n 2, 1) := by decide +kernel
theorem dL_law_1335 : decode cL_law 1335 = .ok (.invokevirtual 82, 3) := by decide +kernel
theorem dL_law_1338 : decode cL_law 1338 = .ok (.iload 5, 2) := by decide +kernel
theorem dL_law_1340 : decode cL_law 1340 = .ok (.if_icmp .eq 5, 3) := by decide +kernel
theorem dL_law_1343 : decode cL_law 1343 = .ok (.iconst 0, 1) := by decide +kernel
theorem dL_law_1344 : decode cL_law 1344 = .ok (.ireturn, 1) := by decide +kernel
theorem dL_law_1345 : decode cL_law 1345 = .ok (.iload 5, 2) := by decide +kernel
theorem dL_law_1347 : decode cL_law 1347 = .ok (.ifCond .ne 15, 3) := by decide +kernel
theorem dL_law_1350 : decode cL_law 1350 = .ok (.aload_n 3, 1) := by decide +kernel
theorem dL_law_1351 : decode cL_law 1351 = .ok (.iconst 0, 1) := by decide +kernel
theorem dL_law_1352 : decode cL_law 1352 = .ok (.laload, 1) := by decide +kernel
theorem dL_law_1353 : decode cL_law 1353 = .ok (.iload 6, 2) := by decide +kernel
theorem dL_law_1355 : decode cL_law 1355 = .ok (.i2l, 1) := by decide +kernel
theorem dL_law_1356 : decode cL_law 1356 = .ok (.lcmp, 1) := by decide +kernel
theorem dL_law_1357 : decode cL_law 1357 = .ok (.ifCond .eq 5, 3) := by decide +kernel
theorem dL_law_1360 : decode cL_law 1360 = .ok (.iconst 0, 1) := by decide +kernel
theorem dL_law_1361 : decode cL_law 1361 = .ok (.ireturn, 1) := by decide +kernel
theorem dL_law_1362 : decode cL_law 1362 = .ok (.goto 131, 3) := by decide +kernel
theorem dL_law_1365 : decode cL_law 1365 = .ok (.aload_n 1, 1) := by decide +kernel
theorem dL_law_1366 : decode cL_law 1366 = .ok (.invokevirtual 186, 3) := by decide +kernel
theorem dL_law_1369 : decode cL_law 1369 = .ok (.aload_n 2, 1) := by decide +kernel
theorem dL_law_1370 : decode cL_law 1370 = .ok (.invokevirtual 189, 3) := by decide +kernel
theorem dL_law_1373 : decode cL_law 1373 = .ok (.if_icmp .eq 120, 3) := by decide +kernel
theorem dL_law_1376 : decode cL_law 1376 = .ok (.iconst 0, 1) := by decide +kernel
theorem dL_law_1377 : decode cL_law 1377 = .ok (.ireturn, 1) := by decide +kernel
theorem dL_law_1378 : decode cL_law 1378 = .ok (.aload_n 1, 1) := by decide +kernel
theorem dL_law_1379 : decode cL_law 1379 = .ok (.aload_n 3, 1) := by decide +kernel
theorem dL_law_1380 : decode cL_law 1380 = .ok (.invokestatic 190, 3) := by decide +kernel
theorem dL_law_1383 : decode cL_law 1383 = .ok (.istore 5, 2) := by decide +kernel
theorem dL_law_1385 : decode cL_law 1385 = .ok (.aload_n 2, 1) := by decide +kernel
theorem dL_law_1386 : decode cL_law 1386 = .ok (.invokevirtual 192, 3) := by decide +kernel
theorem dL_law_1389 : decode cL_law 1389 = .ok (.istore 6, 2) := by decide +kernel
theorem dL_law_1391 : decode cL_law 1391 = .ok (.aload_n 2, 1) := by decide +kernel
theorem dL_law_1392 : decode cL_law 1392 = .ok (.invokevirtual 82, 3) := by decide +kernel
theorem dL_law_1395 : decode cL_law 1395 = .ok (.iload 5, 2) := by decide +kernel
theorem dL_law_1397 : decode cL_law 1397 = .ok (.if_icmp .eq 5, 3) := by decide +kernel
theorem dL_law_1400 : decode cL_law 1400 = .ok (.iconst 0, 1) := by decide +kernel
theorem dL_law_1401 : decode cL_law 1401 = .ok (.ireturn, 1) := by decide +kernel
theorem dL_law_1402 : decode cL_law 1402 = .ok (.iload 5, 2) := by decide +kernel
theorem dL_law_1404 : decode cL_law 1404 = .ok (.ifCond .ne 15, 3) := by decide +kernel
theorem dL_law_1407 : decode cL_law 1407 = .ok (.aload_n 3, 1) := by decide +kernel
theorem dL_law_1408 : decode cL_law 1408 = .ok (.iconst 0, 1) := by decide +kernel
theorem dL_law_1409 : decode cL_law 1409 = .ok (.laload, 1) := by decide +kernel
theorem dL_law_1410 : decode cL_law 1410 = .ok (.iload 6, 2) := by decide +kernel
theorem dL_law_1412 : decode cL_law 1412 = .ok (.i2l, 1) := by decide +kernel
theorem dL_law_1413 : decode cL_law 1413 = .ok (.lcmp, 1) := by decide +kernel
theorem dL_law_1414 : decode cL_law 1414 = .ok (.ifCond .eq 5, 3) := by decide +kernel
theorem dL_law_1417 : decode cL_law 1417 = .ok (.iconst 0, 1) := by decide +kernel
theorem dL_law_1418 : decode cL_law 1418 = .ok (.ireturn, 1) := by decide +kernel
theorem dL_law_1419 : decode cL_law 1419 = .ok (.goto 74, 3) := by decide +kernel
theorem dL_law_1422 : decode cL_law 1422 = .ok (.aload_n 1, 1) := by decide +kernel
theorem dL_law_1423 : decode cL_law 1423 = .ok (.aload_n 3, 1) := by decide +kernel
theorem dL_law_1424 : decode cL_law 1424 = .ok (.invokestatic 193, 3) := by decide +kernel
theorem dL_law_1427 : decode cL_law 1427 = .ok (.istore 5, 2) := by decide +kernel
theorem dL_law_1429 : decode cL_law 1429 = .ok (.aload_n 2, 1) := by decide +kernel
theorem dL_law_1430 : decode cL_law 1430 = .ok (.invokevirtual 195, 3) := by decide +kernel
theorem dL_law_1433 : decode cL_law 1433 = .ok (.istore 6, 2) := by decide +kernel
theorem dL_law_1435 : decode cL_law 1435 = .ok (.aload_n 2, 1) := by decide +kernel
theorem dL_law_1436 : decode cL_law 1436 = .ok (.invokevirtual 82, 3) := by decide +kernel
theorem dL_law_1439 : decode cL_law 1439 = .ok (.iload 5, 2) := by decide +kernel
theorem dL_law_1441 : decode cL_law 1441 = .ok (.if_icmp .eq 5, 3) := by decide +kernel
theorem dL_law_1444 : decode cL_law 1444 = .ok (.iconst 0, 1) := by decide +kernel
theorem dL_law_1445 : decode cL_law 1445 = .ok (.ireturn, 1) := by decide +kernel
theorem dL_law_1446 : decode cL_law 1446 = .ok (.iload 5, 2) := by decide +kernel
theorem dL_law_1448 : decode cL_law 1448 = .ok (.ifCond .ne 15, 3) := by decide +kernel
theorem dL_law_1451 : decode cL_law 1451 = .ok (.aload_n 3, 1) := by decide +kernel
theorem dL_law_1452 : decode cL_law 1452 = .ok (.iconst 0, 1) := by decide +kernel
theorem dL_law_1453 : decode cL_law 1453 = .ok (.laload, 1) := by decide +kernel
theorem dL_law_1454 : decode cL_law 1454 = .ok (.iload 6, 2) := by decide +kernel
theorem dL_law_1456 : decode cL_law 1456 = .ok (.i2l, 1) := by decide +kernel
theorem dL_law_1457 : decode cL_law 1457 = .ok (.lcmp, 1) := by decide +kernel
theorem dL_law_1458 : decode cL_law 1458 = .ok (.ifCond .eq 5, 3) := by decide +kernel
theorem dL_law_1461 : decode cL_law 1461 = .ok (.iconst 0, 1) := by decide +kernel
theorem dL_law_1462 : decode cL_law 1462 = .ok (.ireturn, 1) := by decide +kernel
theorem dL_law_1463 : decode cL_law 1463 = .ok (.goto 30, 3) := by decide +kernel
theorem dL_law_1466 : decode cL_law 1466 = .ok (.aload_n 1, 1) := by decide +kernel
theorem dL_law_1467 : decode cL_law 1467 = .ok (.invokevirtual 196, 3) := by decide +kernel
theorem dL_law_1470 : decode cL_law 1470 = .ok (.aload_n 2, 1) := by decide +kernel
theorem dL_law_1471 : decode cL_law 1471 = .ok (.invokevirtual 199, 3) := by decide +kernel
theorem dL_law_1474 : decode cL_law 1474 = .ok (.if_icmp .eq 19, 3) := by decide +kernel
theorem dL_law_1477 : decode cL_law 1477 = .ok (.iconst 0, 1) := by decide +kernel
theorem dL_law_1478 : decode cL_law 1478 = .ok (.ireturn, 1) := by decide +kernel
theorem dL_law_1479 : decode cL_law 1479 = .ok (.aload_n 1, 1) := by decide +kernel
theorem dL_law_1480 : decode cL_law 1480 = .ok (.invokevirtual 200, 3) := by decide +kernel
theorem dL_law_1483 : decode cL_law 1483 = .ok (.aload_n 2, 1) := by decide +kernel
theorem dL_law_1484 : decode cL_law 1484 = .ok (.invokevirtual 204, 3) := by decide +kernel
theorem dL_law_1487 : decode cL_law 1487 = .ok (.lcmp, 1) := by decide +kernel
theorem dL_law_1488 : decode cL_law 1488 = .ok (.ifCond .eq 5, 3) := by decide +kernel
theorem dL_law_1491 : decode cL_law 1491 = .ok (.iconst 0, 1) := by decide +kernel
theorem dL_law_1492 : decode cL_law 1492 = .ok (.ireturn, 1) := by decide +kernel
theorem dL_law_1493 : decode cL_law 1493 = .ok (.iinc 4 3, 3) := by decide +kernel
theorem dL_law_1496 : decode cL_law 1496 = .ok (.goto (-1473), 3) := by decide +kernel
theorem dL_law_1499 : decode cL_law 1499 = .ok (.iconst 1, 1) := by decide +kernel
theorem dL_law_1500 : decode cL_law 1500 = .ok (.ireturn, 1) := by decide +kernel
end
section
theorem zz_end : True := trivial
end

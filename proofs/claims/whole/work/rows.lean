section
/-- a private method of a class that the tables say can be made, by its rows of tables_1 -/
def lw_okq (q : MethodName × Nat) : Prop := (q.1.cls ≠ "java/lang/invoke/MethodHandle" ∧ q.1.cls ≠ "java/lang/invoke/VarHandle") ∧ Cond.instantiable q.1.cls q.2 ∈ tables_1 ∧ Cond.privateMethod q.1 ∈ tables_1 ∧ Cond.instanceMethod q.1 ∈ tables_1
theorem lw_p0 : lw_okq (⟨"GuardHeap", "give", "(I)LGuardHeap$Block;"⟩, 13) := ⟨⟨by decide +kernel, by decide +kernel⟩, List.mem_of_getElem? (i := 18) (by decide +kernel), List.mem_of_getElem? (i := 230) (by decide +kernel), List.mem_of_getElem? (i := 231) (by decide +kernel)⟩
theorem lw_p1 : lw_okq (⟨"GuardHeap", "needed", "(I)I"⟩, 13) := ⟨⟨by decide +kernel, by decide +kernel⟩, List.mem_of_getElem? (i := 18) (by decide +kernel), List.mem_of_getElem? (i := 234) (by decide +kernel), List.mem_of_getElem? (i := 235) (by decide +kernel)⟩
theorem lw_p2 : lw_okq (⟨"GuardHeap", "letLongestGo", "()V"⟩, 13) := ⟨⟨by decide +kernel, by decide +kernel⟩, List.mem_of_getElem? (i := 18) (by decide +kernel), List.mem_of_getElem? (i := 280) (by decide +kernel), List.mem_of_getElem? (i := 281) (by decide +kernel)⟩
theorem lw_p3 : lw_okq (⟨"GuardHeap", "keepStartFault", "(I)I"⟩, 13) := ⟨⟨by decide +kernel, by decide +kernel⟩, List.mem_of_getElem? (i := 18) (by decide +kernel), List.mem_of_getElem? (i := 378) (by decide +kernel), List.mem_of_getElem? (i := 379) (by decide +kernel)⟩
theorem lw_p4 : lw_okq (⟨"GuardHeap", "putIntoQueue", "(LGuardHeap$Block;)V"⟩, 13) := ⟨⟨by decide +kernel, by decide +kernel⟩, List.mem_of_getElem? (i := 18) (by decide +kernel), List.mem_of_getElem? (i := 390) (by decide +kernel), List.mem_of_getElem? (i := 391) (by decide +kernel)⟩
theorem lw_p5 : lw_okq (⟨"GuardHeap", "keepCopyFault", "(II)I"⟩, 13) := ⟨⟨by decide +kernel, by decide +kernel⟩, List.mem_of_getElem? (i := 18) (by decide +kernel), List.mem_of_getElem? (i := 444) (by decide +kernel), List.mem_of_getElem? (i := 445) (by decide +kernel)⟩
theorem lw_p6 : lw_okq (⟨"java/lang/Throwable", "fillInStackTrace", "(I)Ljava/lang/Throwable;"⟩, 6) := ⟨⟨by decide +kernel, by decide +kernel⟩, List.mem_of_getElem? (i := 601) (by decide +kernel), List.mem_of_getElem? (i := 599) (by decide +kernel), List.mem_of_getElem? (i := 600) (by decide +kernel)⟩
theorem lw_p7 : lw_okq (⟨"GuardHeapModel", "give", "(I)I"⟩, 33) := ⟨⟨by decide +kernel, by decide +kernel⟩, List.mem_of_getElem? (i := 655) (by decide +kernel), List.mem_of_getElem? (i := 773) (by decide +kernel), List.mem_of_getElem? (i := 774) (by decide +kernel)⟩
theorem lw_p8 : lw_okq (⟨"GuardHeapModel", "find", "(I)I"⟩, 33) := ⟨⟨by decide +kernel, by decide +kernel⟩, List.mem_of_getElem? (i := 655) (by decide +kernel), List.mem_of_getElem? (i := 781) (by decide +kernel), List.mem_of_getElem? (i := 782) (by decide +kernel)⟩
theorem lw_p9 : lw_okq (⟨"GuardHeapModel", "fits", "(I)I"⟩, 33) := ⟨⟨by decide +kernel, by decide +kernel⟩, List.mem_of_getElem? (i := 655) (by decide +kernel), List.mem_of_getElem? (i := 785) (by decide +kernel), List.mem_of_getElem? (i := 786) (by decide +kernel)⟩
theorem lw_p10 : lw_okq (⟨"GuardHeapModel", "takeFree", "(I)V"⟩, 33) := ⟨⟨by decide +kernel, by decide +kernel⟩, List.mem_of_getElem? (i := 655) (by decide +kernel), List.mem_of_getElem? (i := 789) (by decide +kernel), List.mem_of_getElem? (i := 790) (by decide +kernel)⟩
theorem lw_p11 : lw_okq (⟨"GuardHeapModel", "release", "(II)V"⟩, 33) := ⟨⟨by decide +kernel, by decide +kernel⟩, List.mem_of_getElem? (i := 655) (by decide +kernel), List.mem_of_getElem? (i := 793) (by decide +kernel), List.mem_of_getElem? (i := 794) (by decide +kernel)⟩
theorem lw_p12 : lw_okq (⟨"GuardHeapModel", "addFree", "(II)V"⟩, 33) := ⟨⟨by decide +kernel, by decide +kernel⟩, List.mem_of_getElem? (i := 655) (by decide +kernel), List.mem_of_getElem? (i := 797) (by decide +kernel), List.mem_of_getElem? (i := 798) (by decide +kernel)⟩
theorem lw_p13 : lw_okq (⟨"GuardHeapModel", "greatBeside", "(IZ)I"⟩, 33) := ⟨⟨by decide +kernel, by decide +kernel⟩, List.mem_of_getElem? (i := 655) (by decide +kernel), List.mem_of_getElem? (i := 801) (by decide +kernel), List.mem_of_getElem? (i := 802) (by decide +kernel)⟩
theorem lw_p14 : lw_okq (⟨"GuardHeapModel", "oneGoes", "()Z"⟩, 33) := ⟨⟨by decide +kernel, by decide +kernel⟩, List.mem_of_getElem? (i := 655) (by decide +kernel), List.mem_of_getElem? (i := 805) (by decide +kernel), List.mem_of_getElem? (i := 806) (by decide +kernel)⟩
theorem lw_p15 : lw_okq (⟨"GuardHeapModel", "longest", "()I"⟩, 33) := ⟨⟨by decide +kernel, by decide +kernel⟩, List.mem_of_getElem? (i := 655) (by decide +kernel), List.mem_of_getElem? (i := 809) (by decide +kernel), List.mem_of_getElem? (i := 810) (by decide +kernel)⟩
def lw_privs_1 : List (MethodName × Nat) := [(⟨"GuardHeap", "give", "(I)LGuardHeap$Block;"⟩, 13), (⟨"GuardHeap", "needed", "(I)I"⟩, 13), (⟨"GuardHeap", "letLongestGo", "()V"⟩, 13), (⟨"GuardHeap", "keepStartFault", "(I)I"⟩, 13), (⟨"GuardHeap", "putIntoQueue", "(LGuardHeap$Block;)V"⟩, 13), (⟨"GuardHeap", "keepCopyFault", "(II)I"⟩, 13), (⟨"java/lang/Throwable", "fillInStackTrace", "(I)Ljava/lang/Throwable;"⟩, 6), (⟨"GuardHeapModel", "give", "(I)I"⟩, 33), (⟨"GuardHeapModel", "find", "(I)I"⟩, 33), (⟨"GuardHeapModel", "fits", "(I)I"⟩, 33), (⟨"GuardHeapModel", "takeFree", "(I)V"⟩, 33), (⟨"GuardHeapModel", "release", "(II)V"⟩, 33), (⟨"GuardHeapModel", "addFree", "(II)V"⟩, 33), (⟨"GuardHeapModel", "greatBeside", "(IZ)I"⟩, 33), (⟨"GuardHeapModel", "oneGoes", "()Z"⟩, 33), (⟨"GuardHeapModel", "longest", "()I"⟩, 33)]
theorem lw_r1 : ∀ q ∈ lw_privs_1, lw_okq q := List.forall_mem_cons.mpr ⟨lw_p0, List.forall_mem_cons.mpr ⟨lw_p1, List.forall_mem_cons.mpr ⟨lw_p2, List.forall_mem_cons.mpr ⟨lw_p3, List.forall_mem_cons.mpr ⟨lw_p4, List.forall_mem_cons.mpr ⟨lw_p5, List.forall_mem_cons.mpr ⟨lw_p6, List.forall_mem_cons.mpr ⟨lw_p7, List.forall_mem_cons.mpr ⟨lw_p8, List.forall_mem_cons.mpr ⟨lw_p9, List.forall_mem_cons.mpr ⟨lw_p10, List.forall_mem_cons.mpr ⟨lw_p11, List.forall_mem_cons.mpr ⟨lw_p12, List.forall_mem_cons.mpr ⟨lw_p13, List.forall_mem_cons.mpr ⟨lw_p14, List.forall_mem_cons.mpr ⟨lw_p15, fun _ h => absurd h List.not_mem_nil⟩⟩⟩⟩⟩⟩⟩⟩⟩⟩⟩⟩⟩⟩⟩⟩
theorem lw_p16 : lw_okq (⟨"GuardHeapModel", "isLive", "(I)Z"⟩, 33) := ⟨⟨by decide +kernel, by decide +kernel⟩, List.mem_of_getElem? (i := 655) (by decide +kernel), List.mem_of_getElem? (i := 813) (by decide +kernel), List.mem_of_getElem? (i := 814) (by decide +kernel)⟩
theorem lw_p17 : lw_okq (⟨"GuardHeapModel", "drop", "(I)V"⟩, 33) := ⟨⟨by decide +kernel, by decide +kernel⟩, List.mem_of_getElem? (i := 655) (by decide +kernel), List.mem_of_getElem? (i := 817) (by decide +kernel), List.mem_of_getElem? (i := 818) (by decide +kernel)⟩
theorem lw_p18 : lw_okq (⟨"GuardHeapModel", "liveAt", "(I)I"⟩, 33) := ⟨⟨by decide +kernel, by decide +kernel⟩, List.mem_of_getElem? (i := 655) (by decide +kernel), List.mem_of_getElem? (i := 825) (by decide +kernel), List.mem_of_getElem? (i := 826) (by decide +kernel)⟩
theorem lw_p19 : lw_okq (⟨"GuardHeapModel", "startsAt", "(I)I"⟩, 33) := ⟨⟨by decide +kernel, by decide +kernel⟩, List.mem_of_getElem? (i := 655) (by decide +kernel), List.mem_of_getElem? (i := 829) (by decide +kernel), List.mem_of_getElem? (i := 830) (by decide +kernel)⟩
theorem lw_p20 : lw_okq (⟨"GuardHeapModel", "start", "(I)I"⟩, 33) := ⟨⟨by decide +kernel, by decide +kernel⟩, List.mem_of_getElem? (i := 655) (by decide +kernel), List.mem_of_getElem? (i := 833) (by decide +kernel), List.mem_of_getElem? (i := 834) (by decide +kernel)⟩
theorem lw_p21 : lw_okq (⟨"GuardHeapModel", "no", "(I)I"⟩, 33) := ⟨⟨by decide +kernel, by decide +kernel⟩, List.mem_of_getElem? (i := 655) (by decide +kernel), List.mem_of_getElem? (i := 837) (by decide +kernel), List.mem_of_getElem? (i := 838) (by decide +kernel)⟩
theorem lw_p22 : lw_okq (⟨"GuardHeapModel", "faulty", "(II)V"⟩, 33) := ⟨⟨by decide +kernel, by decide +kernel⟩, List.mem_of_getElem? (i := 655) (by decide +kernel), List.mem_of_getElem? (i := 841) (by decide +kernel), List.mem_of_getElem? (i := 842) (by decide +kernel)⟩
theorem lw_p23 : lw_okq (⟨"GuardHeapModel", "setFree", "(I)V"⟩, 33) := ⟨⟨by decide +kernel, by decide +kernel⟩, List.mem_of_getElem? (i := 655) (by decide +kernel), List.mem_of_getElem? (i := 845) (by decide +kernel), List.mem_of_getElem? (i := 846) (by decide +kernel)⟩
theorem lw_p24 : lw_okq (⟨"GuardHeapModel", "waits", "()I"⟩, 33) := ⟨⟨by decide +kernel, by decide +kernel⟩, List.mem_of_getElem? (i := 655) (by decide +kernel), List.mem_of_getElem? (i := 849) (by decide +kernel), List.mem_of_getElem? (i := 850) (by decide +kernel)⟩
theorem lw_p25 : lw_okq (⟨"GuardHeapModel", "sortOf", "(I)I"⟩, 33) := ⟨⟨by decide +kernel, by decide +kernel⟩, List.mem_of_getElem? (i := 655) (by decide +kernel), List.mem_of_getElem? (i := 861) (by decide +kernel), List.mem_of_getElem? (i := 862) (by decide +kernel)⟩
theorem lw_p26 : lw_okq (⟨"GuardHeapModel", "blockOf", "(I)I"⟩, 33) := ⟨⟨by decide +kernel, by decide +kernel⟩, List.mem_of_getElem? (i := 655) (by decide +kernel), List.mem_of_getElem? (i := 865) (by decide +kernel), List.mem_of_getElem? (i := 866) (by decide +kernel)⟩
theorem lw_p27 : lw_okq (⟨"GuardHeapModel", "reaches", "()V"⟩, 33) := ⟨⟨by decide +kernel, by decide +kernel⟩, List.mem_of_getElem? (i := 655) (by decide +kernel), List.mem_of_getElem? (i := 897) (by decide +kernel), List.mem_of_getElem? (i := 898) (by decide +kernel)⟩
theorem lw_p28 : lw_okq (⟨"GuardHeapModel", "leads", "(I)I"⟩, 33) := ⟨⟨by decide +kernel, by decide +kernel⟩, List.mem_of_getElem? (i := 655) (by decide +kernel), List.mem_of_getElem? (i := 901) (by decide +kernel), List.mem_of_getElem? (i := 902) (by decide +kernel)⟩
theorem lw_p29 : lw_okq (⟨"GuardHeapModel", "isHead", "(I)Z"⟩, 33) := ⟨⟨by decide +kernel, by decide +kernel⟩, List.mem_of_getElem? (i := 655) (by decide +kernel), List.mem_of_getElem? (i := 905) (by decide +kernel), List.mem_of_getElem? (i := 906) (by decide +kernel)⟩
theorem lw_p30 : lw_okq (⟨"GuardHeapModel", "lives", "(Z)I"⟩, 33) := ⟨⟨by decide +kernel, by decide +kernel⟩, List.mem_of_getElem? (i := 655) (by decide +kernel), List.mem_of_getElem? (i := 921) (by decide +kernel), List.mem_of_getElem? (i := 922) (by decide +kernel)⟩
theorem lw_p31 : lw_okq (⟨"GuardHeapModel", "freeWords", "()I"⟩, 33) := ⟨⟨by decide +kernel, by decide +kernel⟩, List.mem_of_getElem? (i := 655) (by decide +kernel), List.mem_of_getElem? (i := 925) (by decide +kernel), List.mem_of_getElem? (i := 926) (by decide +kernel)⟩
def lw_privs_2 : List (MethodName × Nat) := [(⟨"GuardHeapModel", "isLive", "(I)Z"⟩, 33), (⟨"GuardHeapModel", "drop", "(I)V"⟩, 33), (⟨"GuardHeapModel", "liveAt", "(I)I"⟩, 33), (⟨"GuardHeapModel", "startsAt", "(I)I"⟩, 33), (⟨"GuardHeapModel", "start", "(I)I"⟩, 33), (⟨"GuardHeapModel", "no", "(I)I"⟩, 33), (⟨"GuardHeapModel", "faulty", "(II)V"⟩, 33), (⟨"GuardHeapModel", "setFree", "(I)V"⟩, 33), (⟨"GuardHeapModel", "waits", "()I"⟩, 33), (⟨"GuardHeapModel", "sortOf", "(I)I"⟩, 33), (⟨"GuardHeapModel", "blockOf", "(I)I"⟩, 33), (⟨"GuardHeapModel", "reaches", "()V"⟩, 33), (⟨"GuardHeapModel", "leads", "(I)I"⟩, 33), (⟨"GuardHeapModel", "isHead", "(I)Z"⟩, 33), (⟨"GuardHeapModel", "lives", "(Z)I"⟩, 33), (⟨"GuardHeapModel", "freeWords", "()I"⟩, 33)]
theorem lw_r2 : ∀ q ∈ lw_privs_2, lw_okq q := List.forall_mem_cons.mpr ⟨lw_p16, List.forall_mem_cons.mpr ⟨lw_p17, List.forall_mem_cons.mpr ⟨lw_p18, List.forall_mem_cons.mpr ⟨lw_p19, List.forall_mem_cons.mpr ⟨lw_p20, List.forall_mem_cons.mpr ⟨lw_p21, List.forall_mem_cons.mpr ⟨lw_p22, List.forall_mem_cons.mpr ⟨lw_p23, List.forall_mem_cons.mpr ⟨lw_p24, List.forall_mem_cons.mpr ⟨lw_p25, List.forall_mem_cons.mpr ⟨lw_p26, List.forall_mem_cons.mpr ⟨lw_p27, List.forall_mem_cons.mpr ⟨lw_p28, List.forall_mem_cons.mpr ⟨lw_p29, List.forall_mem_cons.mpr ⟨lw_p30, List.forall_mem_cons.mpr ⟨lw_p31, fun _ h => absurd h List.not_mem_nil⟩⟩⟩⟩⟩⟩⟩⟩⟩⟩⟩⟩⟩⟩⟩⟩
def lw_privs : List (MethodName × Nat) := lw_privs_1 ++ (lw_privs_2)
def lw_tbl : List Cond := k2_sels lw_privs ++ tables_1
theorem lw_privs_ok : ∀ q ∈ lw_privs, lw_okq q := by
  show ∀ q ∈ lw_privs_1 ++ (lw_privs_2), lw_okq q
  exact List.forall_mem_append.mpr ⟨lw_r1, lw_r2⟩
end
section
def RX0 : String := "GuardHeap$Block"
def TX0 : u_T := fun k => match k with
  | 0 => ("GuardHeap$Block", "chunk", "I", true)
  | 1 => ("GuardHeap$Block", "chunkSize", "I", true)
  | 2 => ("GuardHeap$Block", "start", "I", true)
  | 3 => ("GuardHeap$Block", "length", "I", true)
  | 4 => ("GuardHeap$Block", "serial", "I", true)
  | 5 => ("GuardHeap$Block", "live", "Z", false)
  | 6 => ("GuardHeap$Block", "reached", "Z", false)
  | 7 => ("GuardHeap$Block", "head", "Z", false)
  | _ => ("GuardHeap$Block", "next", "LGuardHeap$Block;", false)
def tyX0 : Nat → FieldType := fun k => match k with
  | 0 => .int
  | 1 => .int
  | 2 => .int
  | 3 => .int
  | 4 => .int
  | 5 => .boolean
  | 6 => .boolean
  | 7 => .boolean
  | _ => .object "GuardHeap$Block"
theorem nmX0 : ∀ a, a < 9 → ∀ b, b < 9 → a ≠ b → (TX0 a).2.1 ≠ (TX0 b).2.1 := by decide +kernel
theorem tyX0_ok : ∀ k, k < 9 → parseFieldDescriptor (TX0 k).2.2.1 = some (tyX0 k) := by decide +kernel
abbrev cX0_init : ByteArray := prog_2_method_1_code
def yX0_init : MethodName := ⟨RX0, "<init>", "(IIIII)V"⟩
abbrev cX0_hasWord : ByteArray := prog_2_method_2_code
def yX0_hasWord : MethodName := ⟨RX0, "hasWord", "(I)Z"⟩
def RX1 : String := "GuardHeap$Blocks"
def TX1 : u_T := fun k => match k with
  | _ => ("GuardHeap$Blocks", "byUnit", "[LGuardHeap$Block;", true)
def tyX1 : Nat → FieldType := fun k => match k with
  | _ => .array (.object "GuardHeap$Block")
theorem nmX1 : ∀ a, a < 1 → ∀ b, b < 1 → a ≠ b → (TX1 a).2.1 ≠ (TX1 b).2.1 := by decide +kernel
theorem tyX1_ok : ∀ k, k < 1 → parseFieldDescriptor (TX1 k).2.2.1 = some (tyX1 k) := by decide +kernel
abbrev cX1_init : ByteArray := prog_3_method_1_code
def yX1_init : MethodName := ⟨RX1, "<init>", "(I)V"⟩
abbrev cX1_at : ByteArray := prog_3_method_2_code
def yX1_at : MethodName := ⟨RX1, "at", "(I)LGuardHeap$Block;"⟩
abbrev cX1_startingAt : ByteArray := prog_3_method_3_code
def yX1_startingAt : MethodName := ⟨RX1, "startingAt", "(I)LGuardHeap$Block;"⟩
abbrev cX1_liveStartingAt : ByteArray := prog_3_method_4_code
def yX1_liveStartingAt : MethodName := ⟨RX1, "liveStartingAt", "(I)LGuardHeap$Block;"⟩
abbrev cX1_ledToBy : ByteArray := prog_3_method_5_code
def yX1_ledToBy : MethodName := ⟨RX1, "ledToBy", "(I)LGuardHeap$Block;"⟩
abbrev cX1_liveFromUnit : ByteArray := prog_3_method_6_code
def yX1_liveFromUnit : MethodName := ⟨RX1, "liveFromUnit", "(I)LGuardHeap$Block;"⟩
abbrev cX1_sortOf : ByteArray := prog_3_method_7_code
def yX1_sortOf : MethodName := ⟨RX1, "sortOf", "(I)I"⟩
abbrev cX1_ownWordsFrom : ByteArray := prog_3_method_8_code
def yX1_ownWordsFrom : MethodName := ⟨RX1, "ownWordsFrom", "(II)I"⟩
abbrev cX1_enter : ByteArray := prog_3_method_9_code
def yX1_enter : MethodName := ⟨RX1, "enter", "(LGuardHeap$Block;)V"⟩
abbrev cX1_remove : ByteArray := prog_3_method_10_code
def yX1_remove : MethodName := ⟨RX1, "remove", "(LGuardHeap$Block;)V"⟩
abbrev cX1_fillUnits : ByteArray := prog_3_method_11_code
def yX1_fillUnits : MethodName := ⟨RX1, "fillUnits", "(LGuardHeap$Block;LGuardHeap$Block;)V"⟩
def RX2 : String := "GuardHeap$Chunk"
def TX2 : u_T := fun k => match k with
  | 0 => ("GuardHeap$Chunk", "address", "I", true)
  | 1 => ("GuardHeap$Chunk", "size", "I", true)
  | _ => ("GuardHeap$Chunk", "next", "LGuardHeap$Chunk;", false)
def tyX2 : Nat → FieldType := fun k => match k with
  | 0 => .int
  | 1 => .int
  | _ => .object "GuardHeap$Chunk"
theorem nmX2 : ∀ a, a < 3 → ∀ b, b < 3 → a ≠ b → (TX2 a).2.1 ≠ (TX2 b).2.1 := by decide +kernel
theorem tyX2_ok : ∀ k, k < 3 → parseFieldDescriptor (TX2 k).2.2.1 = some (tyX2 k) := by decide +kernel
abbrev cX2_init : ByteArray := prog_4_method_1_code
def yX2_init : MethodName := ⟨RX2, "<init>", "(II)V"⟩
abbrev cX2_end : ByteArray := prog_4_method_2_code
def yX2_end : MethodName := ⟨RX2, "end", "()I"⟩
def RX3 : String := "GuardHeap$Chunks"
def TX3 : u_T := fun k => match k with
  | 0 => ("GuardHeap$Chunks", "end", "I", true)
  | 1 => ("GuardHeap$Chunks", "piles", "[LGuardHeap$Chunk;", true)
  | 2 => ("GuardHeap$Chunks", "greatFront", "LGuardHeap$Chunk;", true)
  | 3 => ("GuardHeap$Chunks", "top", "I", false)
  | 4 => ("GuardHeap$Chunks", "highestTop", "I", false)
  | 5 => ("GuardHeap$Chunks", "freeChunks", "I", false)
  | 6 => ("GuardHeap$Chunks", "freeWords", "I", false)
  | 7 => ("GuardHeap$Chunks", "splits", "I", false)
  | _ => ("GuardHeap$Chunks", "joins", "I", false)
def tyX3 : Nat → FieldType := fun k => match k with
  | 0 => .int
  | 1 => .array (.object "GuardHeap$Chunk")
  | 2 => .object "GuardHeap$Chunk"
  | 3 => .int
  | 4 => .int
  | 5 => .int
  | 6 => .int
  | 7 => .int
  | _ => .int
theorem nmX3 : ∀ a, a < 9 → ∀ b, b < 9 → a ≠ b → (TX3 a).2.1 ≠ (TX3 b).2.1 := by decide +kernel
theorem tyX3_ok : ∀ k, k < 9 → parseFieldDescriptor (TX3 k).2.2.1 = some (tyX3 k) := by decide +kernel
abbrev cX3_init : ByteArray := prog_5_method_1_code
def yX3_init : MethodName := ⟨RX3, "<init>", "(I)V"⟩
abbrev cX3_find : ByteArray := prog_5_method_2_code
def yX3_find : MethodName := ⟨RX3, "find", "(I)I"⟩
abbrev cX3_takeFromPiles : ByteArray := prog_5_method_3_code
def yX3_takeFromPiles : MethodName := ⟨RX3, "takeFromPiles", "(I)LGuardHeap$Chunk;"⟩
abbrev cX3_takeGreat : ByteArray := prog_5_method_4_code
def yX3_takeGreat : MethodName := ⟨RX3, "takeGreat", "(I)LGuardHeap$Chunk;"⟩
abbrev cX3_takeFromTop : ByteArray := prog_5_method_5_code
def yX3_takeFromTop : MethodName := ⟨RX3, "takeFromTop", "(I)I"⟩
abbrev cX3_release : ByteArray := prog_5_method_6_code
def yX3_release : MethodName := ⟨RX3, "release", "(II)V"⟩
abbrev cX3_putOnPile : ByteArray := prog_5_method_7_code
def yX3_putOnPile : MethodName := ⟨RX3, "putOnPile", "(LGuardHeap$Chunk;)V"⟩
abbrev cX3_releaseGreat : ByteArray := prog_5_method_8_code
def yX3_releaseGreat : MethodName := ⟨RX3, "releaseGreat", "(II)V"⟩
abbrev cX3_linkGreat : ByteArray := prog_5_method_9_code
def yX3_linkGreat : MethodName := ⟨RX3, "linkGreat", "(LGuardHeap$Chunk;)V"⟩
abbrev cX3_unlinkGreat : ByteArray := prog_5_method_10_code
def yX3_unlinkGreat : MethodName := ⟨RX3, "unlinkGreat", "(LGuardHeap$Chunk;)V"⟩
abbrev cX3_chainOf : ByteArray := prog_5_method_11_code
def yX3_chainOf : MethodName := ⟨RX3, "chainOf", "(I)LGuardHeap$Chunk;"⟩
abbrev cX3_manyOfSize : ByteArray := prog_5_method_12_code
def yX3_manyOfSize : MethodName := ⟨RX3, "manyOfSize", "(I)I"⟩
abbrev cX3_addressOfSize : ByteArray := prog_5_method_13_code
def yX3_addressOfSize : MethodName := ⟨RX3, "addressOfSize", "(II)I"⟩
def RX4 : String := "GuardHeap$Faults"
def TX4 : u_T := fun k => match k with
  | 0 => ("GuardHeap$Faults", "kinds", "[I", true)
  | 1 => ("GuardHeap$Faults", "addresses", "[I", true)
  | _ => ("GuardHeap$Faults", "total", "I", false)
def tyX4 : Nat → FieldType := fun k => match k with
  | 0 => .array .int
  | 1 => .array .int
  | _ => .int
theorem nmX4 : ∀ a, a < 3 → ∀ b, b < 3 → a ≠ b → (TX4 a).2.1 ≠ (TX4 b).2.1 := by decide +kernel
theorem tyX4_ok : ∀ k, k < 3 → parseFieldDescriptor (TX4 k).2.2.1 = some (tyX4 k) := by decide +kernel
abbrev cX4_init : ByteArray := prog_6_method_1_code
def yX4_init : MethodName := ⟨RX4, "<init>", "()V"⟩
abbrev cX4_keep : ByteArray := prog_6_method_2_code
def yX4_keep : MethodName := ⟨RX4, "keep", "(II)V"⟩
abbrev cX4_has : ByteArray := prog_6_method_3_code
def yX4_has : MethodName := ⟨RX4, "has", "(I)Z"⟩
abbrev cX4_slotOf : ByteArray := prog_6_method_4_code
def yX4_slotOf : MethodName := ⟨RX4, "slotOf", "(I)I"⟩
abbrev cX4_kindOf : ByteArray := prog_6_method_5_code
def yX4_kindOf : MethodName := ⟨RX4, "kindOf", "(I)I"⟩
abbrev cX4_addressOf : ByteArray := prog_6_method_6_code
def yX4_addressOf : MethodName := ⟨RX4, "addressOf", "(I)I"⟩
def RX5 : String := "GuardHeap$LeakSearch"
def TX5 : u_T := fun k => match k with
  | 0 => ("GuardHeap$LeakSearch", "blocks", "LGuardHeap$Blocks;", true)
  | 1 => ("GuardHeap$LeakSearch", "memory", "LGuardHeap$Memory;", true)
  | 2 => ("GuardHeap$LeakSearch", "roots", "[I", true)
  | 3 => ("GuardHeap$LeakSearch", "reached", "[LGuardHeap$Block;", true)
  | 4 => ("GuardHeap$LeakSearch", "lost", "[LGuardHeap$Block;", true)
  | 5 => ("GuardHeap$LeakSearch", "reachedMany", "I", false)
  | _ => ("GuardHeap$LeakSearch", "lostMany", "I", false)
def tyX5 : Nat → FieldType := fun k => match k with
  | 0 => .object "GuardHeap$Blocks"
  | 1 => .object "GuardHeap$Memory"
  | 2 => .array .int
  | 3 => .array (.object "GuardHeap$Block")
  | 4 => .array (.object "GuardHeap$Block")
  | 5 => .int
  | _ => .int
theorem nmX5 : ∀ a, a < 7 → ∀ b, b < 7 → a ≠ b → (TX5 a).2.1 ≠ (TX5 b).2.1 := by decide +kernel
theorem tyX5_ok : ∀ k, k < 7 → parseFieldDescriptor (TX5 k).2.2.1 = some (tyX5 k) := by decide +kernel
abbrev cX5_init : ByteArray := prog_7_method_1_code
def yX5_init : MethodName := ⟨RX5, "<init>", "(LGuardHeap$Blocks;LGuardHeap$Memory;[I)V"⟩
abbrev cX5_run : ByteArray := prog_7_method_2_code
def yX5_run : MethodName := ⟨RX5, "run", "()I"⟩
abbrev cX5_lostBlock : ByteArray := prog_7_method_3_code
def yX5_lostBlock : MethodName := ⟨RX5, "lostBlock", "(I)LGuardHeap$Block;"⟩
abbrev cX5_leadingNumbers : ByteArray := prog_7_method_4_code
def yX5_leadingNumbers : MethodName := ⟨RX5, "leadingNumbers", "()I"⟩
abbrev cX5_leadingWords : ByteArray := prog_7_method_5_code
def yX5_leadingWords : MethodName := ⟨RX5, "leadingWords", "(LGuardHeap$Block;)I"⟩
abbrev cX5_ledToByWord : ByteArray := prog_7_method_6_code
def yX5_ledToByWord : MethodName := ⟨RX5, "ledToByWord", "(LGuardHeap$Block;I)LGuardHeap$Block;"⟩
abbrev cX5_forgetReached : ByteArray := prog_7_method_7_code
def yX5_forgetReached : MethodName := ⟨RX5, "forgetReached", "()V"⟩
abbrev cX5_reachFromRoots : ByteArray := prog_7_method_8_code
def yX5_reachFromRoots : MethodName := ⟨RX5, "reachFromRoots", "()V"⟩
abbrev cX5_reachFromBlock : ByteArray := prog_7_method_9_code
def yX5_reachFromBlock : MethodName := ⟨RX5, "reachFromBlock", "(LGuardHeap$Block;)V"⟩
abbrev cX5_reach : ByteArray := prog_7_method_10_code
def yX5_reach : MethodName := ⟨RX5, "reach", "(LGuardHeap$Block;)V"⟩
abbrev cX5_keepLost : ByteArray := prog_7_method_11_code
def yX5_keepLost : MethodName := ⟨RX5, "keepLost", "()V"⟩
abbrev cX5_unmarkHeads : ByteArray := prog_7_method_12_code
def yX5_unmarkHeads : MethodName := ⟨RX5, "unmarkHeads", "(LGuardHeap$Block;)V"⟩
def RX6 : String := "GuardHeap$Memory"
def TX6 : u_T := fun k => match k with
  | _ => ("GuardHeap$Memory", "words", "[I", true)
def tyX6 : Nat → FieldType := fun k => match k with
  | _ => .array .int
theorem nmX6 : ∀ a, a < 1 → ∀ b, b < 1 → a ≠ b → (TX6 a).2.1 ≠ (TX6 b).2.1 := by decide +kernel
theorem tyX6_ok : ∀ k, k < 1 → parseFieldDescriptor (TX6 k).2.2.1 = some (tyX6 k) := by decide +kernel
abbrev cX6_init : ByteArray := prog_8_method_1_code
def yX6_init : MethodName := ⟨RX6, "<init>", "(I)V"⟩
abbrev cX6_has : ByteArray := prog_8_method_2_code
def yX6_has : MethodName := ⟨RX6, "has", "(I)Z"⟩
abbrev cX6_read : ByteArray := prog_8_method_3_code
def yX6_read : MethodName := ⟨RX6, "read", "(I)I"⟩
abbrev cX6_write : ByteArray := prog_8_method_4_code
def yX6_write : MethodName := ⟨RX6, "write", "(II)V"⟩
abbrev cX6_clear : ByteArray := prog_8_method_5_code
def yX6_clear : MethodName := ⟨RX6, "clear", "(II)V"⟩
abbrev cX6_move : ByteArray := prog_8_method_6_code
def yX6_move : MethodName := ⟨RX6, "move", "(III)V"⟩
def RX7 : String := "GuardHeap$Queue"
def TX7 : u_T := fun k => match k with
  | 0 => ("GuardHeap$Queue", "first", "LGuardHeap$Block;", false)
  | 1 => ("GuardHeap$Queue", "last", "LGuardHeap$Block;", false)
  | 2 => ("GuardHeap$Queue", "many", "I", false)
  | _ => ("GuardHeap$Queue", "words", "I", false)
def tyX7 : Nat → FieldType := fun k => match k with
  | 0 => .object "GuardHeap$Block"
  | 1 => .object "GuardHeap$Block"
  | 2 => .int
  | _ => .int
theorem nmX7 : ∀ a, a < 4 → ∀ b, b < 4 → a ≠ b → (TX7 a).2.1 ≠ (TX7 b).2.1 := by decide +kernel
theorem tyX7_ok : ∀ k, k < 4 → parseFieldDescriptor (TX7 k).2.2.1 = some (tyX7 k) := by decide +kernel
abbrev cX7_init : ByteArray := prog_9_method_1_code
def yX7_init : MethodName := ⟨RX7, "<init>", "()V"⟩
abbrev cX7_add : ByteArray := prog_9_method_2_code
def yX7_add : MethodName := ⟨RX7, "add", "(LGuardHeap$Block;)V"⟩
abbrev cX7_takeFirst : ByteArray := prog_9_method_3_code
def yX7_takeFirst : MethodName := ⟨RX7, "takeFirst", "()LGuardHeap$Block;"⟩
abbrev cX7_behindFirst : ByteArray := prog_9_method_4_code
def yX7_behindFirst : MethodName := ⟨RX7, "behindFirst", "(I)LGuardHeap$Block;"⟩
def RX8 : String := "GuardHeap"
def TX8 : u_T := fun k => match k with
  | 0 => ("GuardHeap", "memory", "LGuardHeap$Memory;", true)
  | 1 => ("GuardHeap", "red", "I", true)
  | 2 => ("GuardHeap", "cap", "I", true)
  | 3 => ("GuardHeap", "chunks", "LGuardHeap$Chunks;", true)
  | 4 => ("GuardHeap", "blocks", "LGuardHeap$Blocks;", true)
  | 5 => ("GuardHeap", "queue", "LGuardHeap$Queue;", true)
  | 6 => ("GuardHeap", "roots", "[I", true)
  | 7 => ("GuardHeap", "faults", "LGuardHeap$Faults;", true)
  | 8 => ("GuardHeap", "search", "LGuardHeap$LeakSearch;", true)
  | 9 => ("GuardHeap", "given", "I", false)
  | 10 => ("GuardHeap", "freed", "I", false)
  | 11 => ("GuardHeap", "gone", "I", false)
  | _ => ("GuardHeap", "liveWords", "I", false)
def tyX8 : Nat → FieldType := fun k => match k with
  | 0 => .object "GuardHeap$Memory"
  | 1 => .int
  | 2 => .int
  | 3 => .object "GuardHeap$Chunks"
  | 4 => .object "GuardHeap$Blocks"
  | 5 => .object "GuardHeap$Queue"
  | 6 => .array .int
  | 7 => .object "GuardHeap$Faults"
  | 8 => .object "GuardHeap$LeakSearch"
  | 9 => .int
  | 10 => .int
  | 11 => .int
  | _ => .int
theorem nmX8 : ∀ a, a < 13 → ∀ b, b < 13 → a ≠ b → (TX8 a).2.1 ≠ (TX8 b).2.1 := by decide +kernel
theorem tyX8_ok : ∀ k, k < 13 → parseFieldDescriptor (TX8 k).2.2.1 = some (tyX8 k) := by decide +kernel
abbrev cX8_init : ByteArray := prog_1_method_1_code
def yX8_init : MethodName := ⟨RX8, "<init>", "(III)V"⟩
abbrev cX8_alloc : ByteArray := prog_1_method_2_code
def yX8_alloc : MethodName := ⟨RX8, "alloc", "(I)I"⟩
abbrev cX8_free : ByteArray := prog_1_method_3_code
def yX8_free : MethodName := ⟨RX8, "free", "(I)I"⟩
abbrev cX8_resize : ByteArray := prog_1_method_4_code
def yX8_resize : MethodName := ⟨RX8, "resize", "(II)I"⟩
abbrev cX8_load : ByteArray := prog_1_method_5_code
def yX8_load : MethodName := ⟨RX8, "load", "(I)I"⟩
abbrev cX8_store : ByteArray := prog_1_method_6_code
def yX8_store : MethodName := ⟨RX8, "store", "(II)I"⟩
abbrev cX8_check : ByteArray := prog_1_method_7_code
def yX8_check : MethodName := ⟨RX8, "check", "(I)I"⟩
abbrev cX8_copy : ByteArray := prog_1_method_8_code
def yX8_copy : MethodName := ⟨RX8, "copy", "(III)I"⟩
abbrev cX8_sizeOf : ByteArray := prog_1_method_9_code
def yX8_sizeOf : MethodName := ⟨RX8, "sizeOf", "(I)I"⟩
abbrev cX8_describe : ByteArray := prog_1_method_10_code
def yX8_describe : MethodName := ⟨RX8, "describe", "(II)I"⟩
abbrev cX8_setRoot : ByteArray := prog_1_method_11_code
def yX8_setRoot : MethodName := ⟨RX8, "setRoot", "(II)Z"⟩
abbrev cX8_leakScan : ByteArray := prog_1_method_12_code
def yX8_leakScan : MethodName := ⟨RX8, "leakScan", "()I"⟩
abbrev cX8_leak : ByteArray := prog_1_method_13_code
def yX8_leak : MethodName := ⟨RX8, "leak", "(II)I"⟩
abbrev cX8_pointers : ByteArray := prog_1_method_14_code
def yX8_pointers : MethodName := ⟨RX8, "pointers", "()I"⟩
abbrev cX8_count : ByteArray := prog_1_method_15_code
def yX8_count : MethodName := ⟨RX8, "count", "(I)I"⟩
abbrev cX8_freeMany : ByteArray := prog_1_method_16_code
def yX8_freeMany : MethodName := ⟨RX8, "freeMany", "(I)I"⟩
abbrev cX8_freeAt : ByteArray := prog_1_method_17_code
def yX8_freeAt : MethodName := ⟨RX8, "freeAt", "(II)I"⟩
abbrev cX8_waiting : ByteArray := prog_1_method_18_code
def yX8_waiting : MethodName := ⟨RX8, "waiting", "(I)I"⟩
abbrev cX8_fault : ByteArray := prog_1_method_19_code
def yX8_fault : MethodName := ⟨RX8, "fault", "(II)I"⟩
abbrev cX8_nearest : ByteArray := prog_1_method_20_code
def yX8_nearest : MethodName := ⟨RX8, "nearest", "(III)I"⟩
abbrev cX8_needed : ByteArray := prog_1_method_21_code
def yX8_needed : MethodName := ⟨RX8, "needed", "(I)I"⟩
abbrev cX8_give : ByteArray := prog_1_method_22_code
def yX8_give : MethodName := ⟨RX8, "give", "(I)LGuardHeap$Block;"⟩
abbrev cX8_putIntoQueue : ByteArray := prog_1_method_23_code
def yX8_putIntoQueue : MethodName := ⟨RX8, "putIntoQueue", "(LGuardHeap$Block;)V"⟩
abbrev cX8_letLongestGo : ByteArray := prog_1_method_24_code
def yX8_letLongestGo : MethodName := ⟨RX8, "letLongestGo", "()V"⟩
abbrev cX8_keepStartFault : ByteArray := prog_1_method_25_code
def yX8_keepStartFault : MethodName := ⟨RX8, "keepStartFault", "(I)I"⟩
abbrev cX8_keepCopyFault : ByteArray := prog_1_method_26_code
def yX8_keepCopyFault : MethodName := ⟨RX8, "keepCopyFault", "(II)I"⟩
def RX9 : String := "GuardHeapModel"
def TX9 : u_T := fun k => match k with
  | 0 => ("GuardHeapModel", "words", "I", true)
  | 1 => ("GuardHeapModel", "red", "I", true)
  | 2 => ("GuardHeapModel", "cap", "I", true)
  | 3 => ("GuardHeapModel", "thrown", "I", false)
  | 4 => ("GuardHeapModel", "heap", "[I", true)
  | 5 => ("GuardHeapModel", "top", "I", false)
  | 6 => ("GuardHeapModel", "highest", "I", false)
  | 7 => ("GuardHeapModel", "chunk", "[I", true)
  | 8 => ("GuardHeapModel", "size", "[I", true)
  | 9 => ("GuardHeapModel", "many", "[I", true)
  | 10 => ("GuardHeapModel", "serial", "[I", true)
  | 11 => ("GuardHeapModel", "turn", "[I", true)
  | 12 => ("GuardHeapModel", "blocks", "I", false)
  | 13 => ("GuardHeapModel", "freeAddress", "[I", true)
  | 14 => ("GuardHeapModel", "freeSize", "[I", true)
  | 15 => ("GuardHeapModel", "frees", "I", false)
  | 16 => ("GuardHeapModel", "given", "I", false)
  | 17 => ("GuardHeapModel", "freed", "I", false)
  | 18 => ("GuardHeapModel", "gone", "I", false)
  | 19 => ("GuardHeapModel", "splits", "I", false)
  | 20 => ("GuardHeapModel", "joins", "I", false)
  | 21 => ("GuardHeapModel", "faults", "I", false)
  | 22 => ("GuardHeapModel", "root", "[I", true)
  | 23 => ("GuardHeapModel", "faultKind", "[I", true)
  | 24 => ("GuardHeapModel", "faultAt", "[I", true)
  | 25 => ("GuardHeapModel", "read", "[I", true)
  | 26 => ("GuardHeapModel", "reached", "[Z", true)
  | 27 => ("GuardHeapModel", "lost", "[I", true)
  | 28 => ("GuardHeapModel", "lostStart", "[I", true)
  | 29 => ("GuardHeapModel", "lostMany", "[I", true)
  | 30 => ("GuardHeapModel", "lostSerial", "[I", true)
  | 31 => ("GuardHeapModel", "lostHead", "[Z", true)
  | _ => ("GuardHeapModel", "losts", "I", false)
def tyX9 : Nat → FieldType := fun k => match k with
  | 0 => .int
  | 1 => .int
  | 2 => .int
  | 3 => .int
  | 4 => .array .int
  | 5 => .int
  | 6 => .int
  | 7 => .array .int
  | 8 => .array .int
  | 9 => .array .int
  | 10 => .array .int
  | 11 => .array .int
  | 12 => .int
  | 13 => .array .int
  | 14 => .array .int
  | 15 => .int
  | 16 => .int
  | 17 => .int
  | 18 => .int
  | 19 => .int
  | 20 => .int
  | 21 => .int
  | 22 => .array .int
  | 23 => .array .int
  | 24 => .array .int
  | 25 => .array .int
  | 26 => .array .boolean
  | 27 => .array .int
  | 28 => .array .int
  | 29 => .array .int
  | 30 => .array .int
  | 31 => .array .boolean
  | _ => .int
theorem nmX9 : ∀ a, a < 33 → ∀ b, b < 33 → a ≠ b → (TX9 a).2.1 ≠ (TX9 b).2.1 := by decide +kernel
theorem tyX9_ok : ∀ k, k < 33 → parseFieldDescriptor (TX9 k).2.2.1 = some (tyX9 k) := by decide +kernel
abbrev cX9_near : ByteArray := prog_11_method_1_code
def yX9_near : MethodName := ⟨RX9, "near", "(III)I"⟩
abbrev cX9_init : ByteArray := prog_11_method_2_code
def yX9_init : MethodName := ⟨RX9, "<init>", "(III)V"⟩
abbrev cX9_thrown : ByteArray := prog_11_method_3_code
def yX9_thrown : MethodName := ⟨RX9, "thrown", "()I"⟩
abbrev cX9_start : ByteArray := prog_11_method_4_code
def yX9_start : MethodName := ⟨RX9, "start", "(I)I"⟩
abbrev cX9_isLive : ByteArray := prog_11_method_5_code
def yX9_isLive : MethodName := ⟨RX9, "isLive", "(I)Z"⟩
abbrev cX9_blockOf : ByteArray := prog_11_method_6_code
def yX9_blockOf : MethodName := ⟨RX9, "blockOf", "(I)I"⟩
abbrev cX9_startsAt : ByteArray := prog_11_method_7_code
def yX9_startsAt : MethodName := ⟨RX9, "startsAt", "(I)I"⟩
abbrev cX9_sortOf : ByteArray := prog_11_method_8_code
def yX9_sortOf : MethodName := ⟨RX9, "sortOf", "(I)I"⟩
abbrev cX9_drop : ByteArray := prog_11_method_9_code
def yX9_drop : MethodName := ⟨RX9, "drop", "(I)V"⟩
abbrev cX9_faulty : ByteArray := prog_11_method_10_code
def yX9_faulty : MethodName := ⟨RX9, "faulty", "(II)V"⟩
abbrev cX9_takeFree : ByteArray := prog_11_method_11_code
def yX9_takeFree : MethodName := ⟨RX9, "takeFree", "(I)V"⟩
abbrev cX9_addFree : ByteArray := prog_11_method_12_code
def yX9_addFree : MethodName := ⟨RX9, "addFree", "(II)V"⟩
abbrev cX9_greatBeside : ByteArray := prog_11_method_13_code
def yX9_greatBeside : MethodName := ⟨RX9, "greatBeside", "(IZ)I"⟩
abbrev cX9_release : ByteArray := prog_11_method_14_code
def yX9_release : MethodName := ⟨RX9, "release", "(II)V"⟩
abbrev cX9_fits : ByteArray := prog_11_method_15_code
def yX9_fits : MethodName := ⟨RX9, "fits", "(I)I"⟩
abbrev cX9_find : ByteArray := prog_11_method_16_code
def yX9_find : MethodName := ⟨RX9, "find", "(I)I"⟩
abbrev cX9_longest : ByteArray := prog_11_method_17_code
def yX9_longest : MethodName := ⟨RX9, "longest", "()I"⟩
abbrev cX9_oneGoes : ByteArray := prog_11_method_18_code
def yX9_oneGoes : MethodName := ⟨RX9, "oneGoes", "()Z"⟩
abbrev cX9_waits : ByteArray := prog_11_method_19_code
def yX9_waits : MethodName := ⟨RX9, "waits", "()I"⟩
abbrev cX9_give : ByteArray := prog_11_method_20_code
def yX9_give : MethodName := ⟨RX9, "give", "(I)I"⟩
abbrev cX9_setFree : ByteArray := prog_11_method_21_code
def yX9_setFree : MethodName := ⟨RX9, "setFree", "(I)V"⟩
abbrev cX9_no : ByteArray := prog_11_method_22_code
def yX9_no : MethodName := ⟨RX9, "no", "(I)I"⟩
abbrev cX9_liveAt : ByteArray := prog_11_method_23_code
def yX9_liveAt : MethodName := ⟨RX9, "liveAt", "(I)I"⟩
abbrev cX9_alloc : ByteArray := prog_11_method_24_code
def yX9_alloc : MethodName := ⟨RX9, "alloc", "(I)I"⟩
abbrev cX9_free : ByteArray := prog_11_method_25_code
def yX9_free : MethodName := ⟨RX9, "free", "(I)I"⟩
abbrev cX9_resize : ByteArray := prog_11_method_26_code
def yX9_resize : MethodName := ⟨RX9, "resize", "(II)I"⟩
abbrev cX9_load : ByteArray := prog_11_method_27_code
def yX9_load : MethodName := ⟨RX9, "load", "(I)I"⟩
abbrev cX9_store : ByteArray := prog_11_method_28_code
def yX9_store : MethodName := ⟨RX9, "store", "(II)I"⟩
abbrev cX9_check : ByteArray := prog_11_method_29_code
def yX9_check : MethodName := ⟨RX9, "check", "(I)I"⟩
abbrev cX9_copy : ByteArray := prog_11_method_30_code
def yX9_copy : MethodName := ⟨RX9, "copy", "(III)I"⟩
abbrev cX9_sizeOf : ByteArray := prog_11_method_31_code
def yX9_sizeOf : MethodName := ⟨RX9, "sizeOf", "(I)I"⟩
abbrev cX9_describe : ByteArray := prog_11_method_32_code
def yX9_describe : MethodName := ⟨RX9, "describe", "(II)I"⟩
abbrev cX9_setRoot : ByteArray := prog_11_method_33_code
def yX9_setRoot : MethodName := ⟨RX9, "setRoot", "(II)Z"⟩
abbrev cX9_leads : ByteArray := prog_11_method_34_code
def yX9_leads : MethodName := ⟨RX9, "leads", "(I)I"⟩
abbrev cX9_reaches : ByteArray := prog_11_method_35_code
def yX9_reaches : MethodName := ⟨RX9, "reaches", "()V"⟩
abbrev cX9_isHead : ByteArray := prog_11_method_36_code
def yX9_isHead : MethodName := ⟨RX9, "isHead", "(I)Z"⟩
abbrev cX9_leakScan : ByteArray := prog_11_method_37_code
def yX9_leakScan : MethodName := ⟨RX9, "leakScan", "()I"⟩
abbrev cX9_leak : ByteArray := prog_11_method_38_code
def yX9_leak : MethodName := ⟨RX9, "leak", "(II)I"⟩
abbrev cX9_pointers : ByteArray := prog_11_method_39_code
def yX9_pointers : MethodName := ⟨RX9, "pointers", "()I"⟩
abbrev cX9_lives : ByteArray := prog_11_method_40_code
def yX9_lives : MethodName := ⟨RX9, "lives", "(Z)I"⟩
abbrev cX9_freeWords : ByteArray := prog_11_method_41_code
def yX9_freeWords : MethodName := ⟨RX9, "freeWords", "()I"⟩
abbrev cX9_count : ByteArray := prog_11_method_42_code
def yX9_count : MethodName := ⟨RX9, "count", "(I)I"⟩
abbrev cX9_freeMany : ByteArray := prog_11_method_43_code
def yX9_freeMany : MethodName := ⟨RX9, "freeMany", "(I)I"⟩
abbrev cX9_freeAt : ByteArray := prog_11_method_44_code
def yX9_freeAt : MethodName := ⟨RX9, "freeAt", "(II)I"⟩
abbrev cX9_waiting : ByteArray := prog_11_method_45_code
def yX9_waiting : MethodName := ⟨RX9, "waiting", "(I)I"⟩
abbrev cX9_fault : ByteArray := prog_11_method_46_code
def yX9_fault : MethodName := ⟨RX9, "fault", "(II)I"⟩
def RJ9 : String := "java/lang/Math"
abbrev cJ9_floorMod_7cf53 : ByteArray := prog_13_method_50_code
def yJ9_floorMod_7cf53 : MethodName := ⟨RJ9, "floorMod", "(II)I"⟩
abbrev cJ9_max_7cf53 : ByteArray := prog_13_method_65_code
def yJ9_max_7cf53 : MethodName := ⟨RJ9, "max", "(II)I"⟩
abbrev cJ9_min_7cf53 : ByteArray := prog_13_method_69_code
def yJ9_min_7cf53 : MethodName := ⟨RJ9, "min", "(II)I"⟩
def RJ0 : String := "java/lang/String"
def RJ10 : String := "java/lang/System"
def RL : String := "GuardHeapLaw"
abbrev cL_cell : ByteArray := method_2_code
def yL_cell : MethodName := ⟨RL, "cell", "([II)I"⟩
abbrev cL_describe : ByteArray := method_3_code
def yL_describe : MethodName := ⟨RL, "describe", "(LGuardHeap;II[J)I"⟩
abbrev cL_fault : ByteArray := method_4_code
def yL_fault : MethodName := ⟨RL, "fault", "(LGuardHeap;II[J)I"⟩
abbrev cL_law : ByteArray := code
def yL_law : MethodName := ⟨RL, "law", "([I)Z"⟩
theorem inX0 : ∀ w ∈ u_ws RX0 TX0 9, w ∈ lw_tbl := by decide +kernel
theorem inX1 : ∀ w ∈ u_ws RX1 TX1 1, w ∈ lw_tbl := by decide +kernel
theorem inX2 : ∀ w ∈ u_ws RX2 TX2 3, w ∈ lw_tbl := by decide +kernel
theorem inX3 : ∀ w ∈ u_ws RX3 TX3 9, w ∈ lw_tbl := by decide +kernel
theorem inX4 : ∀ w ∈ u_ws RX4 TX4 3, w ∈ lw_tbl := by decide +kernel
theorem inX5 : ∀ w ∈ u_ws RX5 TX5 7, w ∈ lw_tbl := by decide +kernel
theorem inX6 : ∀ w ∈ u_ws RX6 TX6 1, w ∈ lw_tbl := by decide +kernel
theorem inX7 : ∀ w ∈ u_ws RX7 TX7 4, w ∈ lw_tbl := by decide +kernel
theorem inX8 : ∀ w ∈ u_ws RX8 TX8 13, w ∈ lw_tbl := by decide +kernel
theorem inX9 : ∀ w ∈ u_ws RX9 TX9 33, w ∈ lw_tbl := by decide +kernel
abbrev gcls : List vw_C := [(RX0, TX0, 9), (RX1, TX1, 1), (RX2, TX2, 3), (RX3, TX3, 9), (RX4, TX4, 3), (RX5, TX5, 7), (RX6, TX6, 1), (RX7, TX7, 4), (RX8, TX8, 13), (RX9, TX9, 33)]
end
section
/-! THE HEAP, field by field: kinds, lengths, int fields, reference fields, int rows, reference rows, long rows. A field's number is 100 * (its class's place) + (its place). -/
def Hp : Type := (Nat → Nat) × (Nat → Nat) × (Nat → Nat → Int32) × (Nat → Nat → Option Nat) × (Nat → Nat → Int32) × (Nat → Nat → Option Nat) × (Nat → Nat → Int64)
def Hp.K (h : Hp) : Nat → Nat := h.1
def Hp.N (h : Hp) : Nat → Nat := h.2.1
def Hp.I (h : Hp) : Nat → Nat → Int32 := h.2.2.1
def Hp.R (h : Hp) : Nat → Nat → Option Nat := h.2.2.2.1
def Hp.AI (h : Hp) : Nat → Nat → Int32 := h.2.2.2.2.1
def Hp.AR (h : Hp) : Nat → Nat → Option Nat := h.2.2.2.2.2.1
def Hp.AL (h : Hp) : Nat → Nat → Int64 := h.2.2.2.2.2.2
def up2 {α : Type} (F : Nat → Nat → α) (f a : Nat) (v : α) : Nat → Nat → α := fun g b => if g = f then (if b = a then v else F g b) else F g b
def Hp.sI (h : Hp) (f a : Nat) (v : Int32) : Hp := (h.1, h.2.1, up2 h.2.2.1 f a v, h.2.2.2)
def Hp.sR (h : Hp) (f a : Nat) (v : Option Nat) : Hp := (h.1, h.2.1, h.2.2.1, up2 h.2.2.2.1 f a v, h.2.2.2.2)
def Hp.sAI (h : Hp) (a i : Nat) (v : Int32) : Hp := (h.1, h.2.1, h.2.2.1, h.2.2.2.1, up2 h.2.2.2.2.1 a i v, h.2.2.2.2.2)
def Hp.sAR (h : Hp) (a i : Nat) (v : Option Nat) : Hp := (h.1, h.2.1, h.2.2.1, h.2.2.2.1, h.2.2.2.2.1, up2 h.2.2.2.2.2.1 a i v, h.2.2.2.2.2.2)
def Hp.sAL (h : Hp) (a i : Nat) (v : Int64) : Hp := (h.1, h.2.1, h.2.2.1, h.2.2.2.1, h.2.2.2.2.1, h.2.2.2.2.2.1, up2 h.2.2.2.2.2.2 a i v)
def Hp.cp (h : Hp) (a sp dp n : Nat) : Hp := (h.1, h.2.1, h.2.2.1, h.2.2.2.1, (fun b i => if b = a then va_cpy (h.2.2.2.2.1 a) (h.2.2.2.2.1 a) sp dp n i else h.2.2.2.2.1 b i), h.2.2.2.2.2)
def Hp.nw (h : Hp) (q k n : Nat) : Hp := ((fun b => if b = q then k else h.1 b), (fun b => if b = q then n else h.2.1 b), (fun g b => if b = q then 0 else h.2.2.1 g b), (fun g b => if b = q then none else h.2.2.2.1 g b), (fun b i => if b = q then 0 else h.2.2.2.2.1 b i), (fun b i => if b = q then none else h.2.2.2.2.2.1 b i), (fun b i => if b = q then 0 else h.2.2.2.2.2.2 b i))
theorem up2_s {α : Type} (F : Nat → Nat → α) (f a : Nat) (v : α) : up2 F f a v f a = v := by simp [up2]
theorem up2_f {α : Type} (F : Nat → Nat → α) {f a g b : Nat} (v : α) (h : g ≠ f) : up2 F f a v g b = F g b := by simp [up2, h]
theorem up2_a {α : Type} (F : Nat → Nat → α) {f a g b : Nat} (v : α) (h : b ≠ a) : up2 F f a v g b = F g b := by simp [up2, h]
theorem K_sI (h : Hp) (f a : Nat) (v : Int32) : (h.sI f a v).K = h.K := rfl
theorem K_sR (h : Hp) (f a : Nat) (v : Option Nat) : (h.sR f a v).K = h.K := rfl
theorem K_sAI (h : Hp) (f a : Nat) (v : Int32) : (h.sAI f a v).K = h.K := rfl
theorem K_sAR (h : Hp) (f a : Nat) (v : Option Nat) : (h.sAR f a v).K = h.K := rfl
theorem K_sAL (h : Hp) (f a : Nat) (v : Int64) : (h.sAL f a v).K = h.K := rfl
theorem K_cp (h : Hp) (a sp dp n : Nat) : (h.cp a sp dp n).K = h.K := rfl
theorem N_sI (h : Hp) (f a : Nat) (v : Int32) : (h.sI f a v).N = h.N := rfl
theorem N_sR (h : Hp) (f a : Nat) (v : Option Nat) : (h.sR f a v).N = h.N := rfl
theorem N_sAI (h : Hp) (f a : Nat) (v : Int32) : (h.sAI f a v).N = h.N := rfl
theorem N_sAR (h : Hp) (f a : Nat) (v : Option Nat) : (h.sAR f a v).N = h.N := rfl
theorem N_sAL (h : Hp) (f a : Nat) (v : Int64) : (h.sAL f a v).N = h.N := rfl
theorem N_cp (h : Hp) (a sp dp n : Nat) : (h.cp a sp dp n).N = h.N := rfl
theorem I_sR (h : Hp) (f a : Nat) (v : Option Nat) : (h.sR f a v).I = h.I := rfl
theorem I_sAI (h : Hp) (f a : Nat) (v : Int32) : (h.sAI f a v).I = h.I := rfl
theorem I_sAR (h : Hp) (f a : Nat) (v : Option Nat) : (h.sAR f a v).I = h.I := rfl
theorem I_sAL (h : Hp) (f a : Nat) (v : Int64) : (h.sAL f a v).I = h.I := rfl
theorem I_cp (h : Hp) (a sp dp n : Nat) : (h.cp a sp dp n).I = h.I := rfl
theorem R_sI (h : Hp) (f a : Nat) (v : Int32) : (h.sI f a v).R = h.R := rfl
theorem R_sAI (h : Hp) (f a : Nat) (v : Int32) : (h.sAI f a v).R = h.R := rfl
theorem R_sAR (h : Hp) (f a : Nat) (v : Option Nat) : (h.sAR f a v).R = h.R := rfl
theorem R_sAL (h : Hp) (f a : Nat) (v : Int64) : (h.sAL f a v).R = h.R := rfl
theorem R_cp (h : Hp) (a sp dp n : Nat) : (h.cp a sp dp n).R = h.R := rfl
theorem AI_sI (h : Hp) (f a : Nat) (v : Int32) : (h.sI f a v).AI = h.AI := rfl
theorem AI_sR (h : Hp) (f a : Nat) (v : Option Nat) : (h.sR f a v).AI = h.AI := rfl
theorem AI_sAR (h : Hp) (f a : Nat) (v : Option Nat) : (h.sAR f a v).AI = h.AI := rfl
theorem AI_sAL (h : Hp) (f a : Nat) (v : Int64) : (h.sAL f a v).AI = h.AI := rfl
theorem AR_sI (h : Hp) (f a : Nat) (v : Int32) : (h.sI f a v).AR = h.AR := rfl
theorem AR_sR (h : Hp) (f a : Nat) (v : Option Nat) : (h.sR f a v).AR = h.AR := rfl
theorem AR_sAI (h : Hp) (f a : Nat) (v : Int32) : (h.sAI f a v).AR = h.AR := rfl
theorem AR_sAL (h : Hp) (f a : Nat) (v : Int64) : (h.sAL f a v).AR = h.AR := rfl
theorem AR_cp (h : Hp) (a sp dp n : Nat) : (h.cp a sp dp n).AR = h.AR := rfl
theorem AL_sI (h : Hp) (f a : Nat) (v : Int32) : (h.sI f a v).AL = h.AL := rfl
theorem AL_sR (h : Hp) (f a : Nat) (v : Option Nat) : (h.sR f a v).AL = h.AL := rfl
theorem AL_sAI (h : Hp) (f a : Nat) (v : Int32) : (h.sAI f a v).AL = h.AL := rfl
theorem AL_sAR (h : Hp) (f a : Nat) (v : Option Nat) : (h.sAR f a v).AL = h.AL := rfl
theorem AL_cp (h : Hp) (a sp dp n : Nat) : (h.cp a sp dp n).AL = h.AL := rfl
theorem I_sI (h : Hp) (f a : Nat) (v : Int32) : (h.sI f a v).I = up2 h.I f a v := rfl
theorem R_sR (h : Hp) (f a : Nat) (v : Option Nat) : (h.sR f a v).R = up2 h.R f a v := rfl
theorem AI_sAI (h : Hp) (a i : Nat) (v : Int32) : (h.sAI a i v).AI = up2 h.AI a i v := rfl
theorem AR_sAR (h : Hp) (a i : Nat) (v : Option Nat) : (h.sAR a i v).AR = up2 h.AR a i v := rfl
theorem AL_sAL (h : Hp) (a i : Nat) (v : Int64) : (h.sAL a i v).AL = up2 h.AL a i v := rfl
theorem AI_cp (h : Hp) (a sp dp n : Nat) : (h.cp a sp dp n).AI = fun b i => if b = a then va_cpy (h.AI a) (h.AI a) sp dp n i else h.AI b i := rfl
theorem K_nw (h : Hp) (q k n : Nat) : (h.nw q k n).K = fun b => if b = q then k else h.K b := rfl
theorem N_nw (h : Hp) (q k n : Nat) : (h.nw q k n).N = fun b => if b = q then n else h.N b := rfl
theorem I_nw (h : Hp) (q k n : Nat) : (h.nw q k n).I = fun g b => if b = q then 0 else h.I g b := rfl
theorem R_nw (h : Hp) (q k n : Nat) : (h.nw q k n).R = fun g b => if b = q then none else h.R g b := rfl
theorem AI_nw (h : Hp) (q k n : Nat) : (h.nw q k n).AI = fun b i => if b = q then 0 else h.AI b i := rfl
theorem AR_nw (h : Hp) (q k n : Nat) : (h.nw q k n).AR = fun b i => if b = q then none else h.AR b i := rfl
theorem AL_nw (h : Hp) (q k n : Nat) : (h.nw q k n).AL = fun b i => if b = q then 0 else h.AL b i := rfl
theorem rf_s (a : Nat) : va_rf (some a) = .ref a := rfl
theorem rf_n : va_rf none = .null := rfl
def fl (ci : Nat) : List (Nat × Bool) := match ci with
  | 0 => [(0, false), (1, false), (2, false), (3, false), (4, false), (5, false), (6, false), (7, false), (8, true)]
  | 1 => [(100, true)]
  | 2 => [(200, false), (201, false), (202, true)]
  | 3 => [(300, false), (301, true), (302, true), (303, false), (304, false), (305, false), (306, false), (307, false), (308, false)]
  | 4 => [(400, true), (401, true), (402, false)]
  | 5 => [(500, true), (501, true), (502, true), (503, true), (504, true), (505, false), (506, false)]
  | 6 => [(600, true)]
  | 7 => [(700, true), (701, true), (702, false), (703, false)]
  | 8 => [(800, true), (801, false), (802, false), (803, true), (804, true), (805, true), (806, true), (807, true), (808, true), (809, false), (810, false), (811, false), (812, false)]
  | 9 => [(900, false), (901, false), (902, false), (903, false), (904, true), (905, false), (906, false), (907, true), (908, true), (909, true), (910, true), (911, true), (912, false), (913, true), (914, true), (915, false), (916, false), (917, false), (918, false), (919, false), (920, false), (921, false), (922, true), (923, true), (924, true), (925, true), (926, true), (927, true), (928, true), (929, true), (930, true), (931, true), (932, false)]
  | _ => []
theorem fl_id : ∀ (ci j : Nat) (q : Nat × Bool), (fl ci)[j]? = some q → q.1 = 100 * ci + j := by
  intro ci j q hq
  by_cases hc : ci < 10
  · by_cases hj : j < 40
    · have h : ∀ c < 10, ∀ i < 40, ((fl c)[i]?).all (fun q => decide (q.1 = 100 * c + i)) = true := by decide +kernel
      have h1 := h ci hc j hj
      rw [hq] at h1
      simpa using h1
    · have h : ∀ c < 10, (fl c).length ≤ 40 := by decide +kernel
      have h1 := h ci hc
      have h2 := (List.getElem?_eq_some_iff.mp hq).1
      omega
  · have : fl ci = [] := by
      unfold fl
      split <;> first | omega | rfl
    rw [this] at hq
    cases hq
def fv (h : Hp) (a : Nat) (q : Nat × Bool) : Value := if q.2 then va_rf (h.R q.1 a) else .int (h.I q.1 a)
/-- what the heap says of a cell: kinds 1 to 10 objects, 11 int rows, 12 boolean rows, 13, 14 rows of blocks, of chunks, 15 long rows -/
def cof (dA : Nat → ClassId) (h : Hp) (a : Nat) : Option va_E :=
  if 1 ≤ h.K a ∧ h.K a ≤ 10 then some (.inr (h.K a - 1, (fl (h.K a - 1)).map (fv h a)))
  else if h.K a = 11 then some (.inl (dA 0, h.N a, .inl (h.AI a)))
  else if h.K a = 12 then some (.inl (dA 1, h.N a, .inl (h.AI a)))
  else if h.K a = 13 then some (.inl (dA 2, h.N a, .inr (.inr (.inr (.inr (h.AR a))))))
  else if h.K a = 14 then some (.inl (dA 3, h.N a, .inr (.inr (.inr (.inr (h.AR a))))))
  else if h.K a = 15 then some (.inl (dA 4, h.N a, .inr (.inl (h.AL a))))
  else none
def gtys (dA : Nat → ClassId) : List (ClassId × FieldType) := [(dA 0, .int), (dA 1, .boolean), (dA 2, .object RX0), (dA 3, .object RX2), (dA 4, .long)]
def Hok (D : va_G) (dA : Nat → ClassId) (base : Nat) (h : Hp) (U : State) (H : Heap) : Prop :=
  (∀ a e, cof dA h a = some e → base ≤ a ∧ va_at D gcls (a, e) H) ∧ (∀ a, h.K a = 20 → a < base ∧ va_X a (h.N a) (h.AI a) U H) ∧ (∀ a, h.K a ≠ 0 → a < H.size)
theorem cof_ob {dA : Nat → ClassId} {h : Hp} {a ci : Nat} (hk : h.K a = ci + 1) (hc : ci < 10) : cof dA h a = some (.inr (ci, (fl ci).map (fv h a))) := by
  unfold cof
  rw [if_pos (by omega), hk]
  rfl
theorem cof_11 {dA : Nat → ClassId} {h : Hp} {a : Nat} (hk : h.K a = 11) : cof dA h a = some (.inl (dA 0, h.N a, .inl (h.AI a))) := by simp [cof, hk]
theorem cof_12 {dA : Nat → ClassId} {h : Hp} {a : Nat} (hk : h.K a = 12) : cof dA h a = some (.inl (dA 1, h.N a, .inl (h.AI a))) := by simp [cof, hk]
theorem cof_13 {dA : Nat → ClassId} {h : Hp} {a : Nat} (hk : h.K a = 13) : cof dA h a = some (.inl (dA 2, h.N a, .inr (.inr (.inr (.inr (h.AR a)))))) := by simp [cof, hk]
theorem cof_14 {dA : Nat → ClassId} {h : Hp} {a : Nat} (hk : h.K a = 14) : cof dA h a = some (.inl (dA 3, h.N a, .inr (.inr (.inr (.inr (h.AR a)))))) := by simp [cof, hk]
theorem cof_15 {dA : Nat → ClassId} {h : Hp} {a : Nat} (hk : h.K a = 15) : cof dA h a = some (.inl (dA 4, h.N a, .inr (.inl (h.AL a)))) := by simp [cof, hk]
/-- two heaps that say the same of an address -/
theorem cof_cg {dA : Nat → ClassId} {h g : Hp} {a : Nat} (e1 : g.K a = h.K a) (e2 : g.N a = h.N a) (e3 : ∀ f, g.I f a = h.I f a) (e4 : ∀ f, g.R f a = h.R f a) (e5 : g.AI a = h.AI a) (e6 : g.AR a = h.AR a) (e7 : g.AL a = h.AL a) : cof dA g a = cof dA h a := by
  have hv : fv g a = fv h a := by
    funext q
    simp only [fv, e3, e4]
  simp only [cof, e1, e2, e5, e6, e7, hv]
theorem map_setI {h : Hp} {a ci k : Nat} {v : Int32} (hk : (fl ci)[k]? = some (100 * ci + k, false)) : (fl ci).map (fv (h.sI (100 * ci + k) a v) a) = ((fl ci).map (fv h a)).set k (.int v) := by
  apply List.ext_getElem?
  intro j
  rw [List.getElem?_map, List.getElem?_set]
  by_cases hj : k = j
  · subst hj
    have hl := (List.getElem?_eq_some_iff.mp hk).1
    rw [hk]
    simp [hl, fv, I_sI, up2]
  · rw [if_neg hj, List.getElem?_map]
    cases hq : (fl ci)[j]? with
    | none => rfl
    | some q =>
      have hid := fl_id ci j q hq
      simp only [Option.map_some, fv, I_sI, R_sI]
      rw [up2_f _ _ (by omega)]
theorem map_setR {h : Hp} {a ci k : Nat} {v : Option Nat} (hk : (fl ci)[k]? = some (100 * ci + k, true)) : (fl ci).map (fv (h.sR (100 * ci + k) a v) a) = ((fl ci).map (fv h a)).set k (va_rf v) := by
  apply List.ext_getElem?
  intro j
  rw [List.getElem?_map, List.getElem?_set]
  by_cases hj : k = j
  · subst hj
    have hl := (List.getElem?_eq_some_iff.mp hk).1
    rw [hk]
    simp [hl, fv, R_sR, up2]
  · rw [if_neg hj, List.getElem?_map]
    cases hq : (fl ci)[j]? with
    | none => rfl
    | some q =>
      have hid := fl_id ci j q hq
      simp only [Option.map_some, fv, R_sR, I_sR]
      rw [up2_f _ _ (by omega)]
/-- one cell changes -/
theorem Hok.put {D : va_G} {dA : Nat → ClassId} {base : Nat} {h g : Hp} {U : State} {H H1 : Heap} {a : Nat} {e0 : va_E} (hk : Hok D dA base h U H) (e : ∀ b, b ≠ a → cof dA g b = cof dA h b) (eK : g.K = h.K) (eN : g.N = h.N) (eA : ∀ b, b ≠ a → g.AI b = h.AI b) (h0 : cof dA h a = some e0)
    (hc : ∀ e1, cof dA g a = some e1 → va_at D gcls (a, e1) H1) (hz : H1.size = H.size) (hq : ∀ q : Nat, q ≠ a → H1[q]? = H[q]?) : Hok D dA base g U H1 := by
  have hne : ∀ b, h.K b = 20 → b ≠ a := by
    intro b hb hba
    subst hba
    simp [cof, hb] at h0
  refine ⟨fun b x hb => ?_, fun b hb => ?_, fun b hb => ?_⟩
  · by_cases hba : b = a
    · subst hba
      exact ⟨(hk.1 b _ h0).1, hc _ hb⟩
    · rw [e b hba] at hb
      exact ⟨(hk.1 b x hb).1, (hk.1 b x hb).2.kept (hq b hba)⟩
  · rw [eK] at hb
    have hba := hne b hb
    rw [eN, eA b hba]
    exact ⟨(hk.2.1 b hb).1, (hk.2.1 b hb).2.kept (hq b hba)⟩
  · rw [eK] at hb
    rw [hz]
    exact hk.2.2 b hb
/-- a new cell -/
theorem Hok.new {D : va_G} {dA : Nat → ClassId} {base k n : Nat} {h : Hp} {U : State} {H H1 : Heap} (hk : Hok D dA base h U H) (hb : base ≤ H.size) (hk20 : k ≠ 20)
    (hc : ∀ e1, cof dA (h.nw H.size k n) H.size = some e1 → va_at D gcls (H.size, e1) H1) (hz : H1.size = H.size + 1) (hq : ∀ q : Nat, q < H.size → H1[q]? = H[q]?) : h.K H.size = 0 ∧ Hok D dA base (h.nw H.size k n) U H1 := by
  have hfresh : h.K H.size = 0 := by
    by_cases h0 : h.K H.size = 0
    · exact h0
    · exact absurd (hk.2.2 _ h0) (Nat.lt_irrefl _)
  have hlt : ∀ b, h.K b ≠ 0 → b ≠ H.size := fun b hb e => by subst e; exact hb hfresh
  refine ⟨hfresh, fun b x hx => ?_, fun b hx => ?_, fun b hx => ?_⟩
  · by_cases hbq : b = H.size
    · subst hbq
      exact ⟨hb, hc x hx⟩
    · have e : cof dA (h.nw H.size k n) b = cof dA h b := cof_cg (by simp [K_nw, hbq]) (by simp [N_nw, hbq]) (fun f => by simp [I_nw, hbq]) (fun f => by simp [R_nw, hbq]) (by simp [AI_nw, hbq]) (by simp [AR_nw, hbq]) (by simp [AL_nw, hbq])
      rw [e] at hx
      have h1 := hk.1 b x hx
      exact ⟨h1.1, h1.2.kept (hq b h1.2.lt)⟩
  · by_cases hbq : b = H.size
    · subst hbq
      simp [K_nw] at hx
      exact absurd hx hk20
    · simp only [K_nw, if_neg hbq] at hx
      have h1 := hk.2.1 b hx
      have hl : b < H.size := hk.2.2 b (by omega)
      simp only [N_nw, AI_nw, if_neg hbq]
      exact ⟨h1.1, h1.2.kept (hq b hl)⟩
  · by_cases hbq : b = H.size
    · subst hbq; omega
    · simp only [K_nw, if_neg hbq] at hx
      have := hk.2.2 b hx
      omega
theorem Hok.moved {D : va_G} {dA : Nat → ClassId} {base : Nat} {h : Hp} {u U : State} {H : Heap} (hvm : u.vm.Alike U.vm) (hk : Hok D dA base h u H) : Hok D dA base h U H := ⟨hk.1, fun a ha => ⟨(hk.2.1 a ha).1, (hk.2.1 a ha).2.moved hvm⟩, hk.2.2⟩
end
section
/-! THE WALK over the heap: At, and a row an instruction -/
abbrev CX : Type := (Program × Launch × Env × Room × State × MethodId × Array Value) × (List Frame × Method × Code × (State → Prop)) × (va_G × (Nat → ClassId) × Nat × Nat)
def CX.p (X : CX) : Program := X.1.1
def CX.l (X : CX) : Launch := X.1.2.1
def CX.e (X : CX) : Env := X.1.2.2.1
def CX.Rm (X : CX) : Room := X.1.2.2.2.1
def CX.s (X : CX) : State := X.1.2.2.2.2.1
def CX.m (X : CX) : MethodId := X.1.2.2.2.2.2.1
def CX.args (X : CX) : Array Value := X.1.2.2.2.2.2.2
def CX.below (X : CX) : List Frame := X.2.1.1
def CX.meth (X : CX) : Method := X.2.1.2.1
def CX.c (X : CX) : Code := X.2.1.2.2.1
def CX.Q (X : CX) : State → Prop := X.2.1.2.2.2
def CX.D (X : CX) : va_G := X.2.2.1
def CX.dA (X : CX) : Nat → ClassId := X.2.2.2.1
def CX.base (X : CX) : Nat := X.2.2.2.2.1
def CX.nL (X : CX) : Nat := X.2.2.2.2.2
/-- locals: what is known of each place -/
def lh (sl : Array Slot) (nL : Nat) (ls : List (Option Value)) : Prop := sl.size = nL ∧ lv_wf sl ∧ ∀ (i : Nat) (v : Value), ls[i]? = some (some v) → sl[i]? = some (.val v)
def lprs : Nat → List (Option Value) → List (Nat × Value)
  | _, [] => []
  | k, none :: r => lprs (k + 1) r
  | k, some v :: r => (k, v) :: lprs (k + 1) r
theorem lprs_mem : ∀ (ls : List (Option Value)) (k i : Nat) (v : Value), (i, v) ∈ lprs k ls ↔ k ≤ i ∧ ls[i - k]? = some (some v)
  | [], k, i, v => by simp [lprs]
  | none :: r, k, i, v => by
    rw [lprs, lprs_mem r (k + 1) i v]
    constructor
    · rintro ⟨h1, h2⟩
      refine ⟨by omega, ?_⟩
      rw [show i - k = (i - (k + 1)) + 1 by omega]
      exact h2
    · rintro ⟨h1, h2⟩
      by_cases h : i = k
      · subst h
        simp at h2
      · refine ⟨by omega, ?_⟩
        rw [show i - k = (i - (k + 1)) + 1 by omega] at h2
        exact h2
  | some w :: r, k, i, v => by
    rw [lprs, List.mem_cons, lprs_mem r (k + 1) i v]
    constructor
    · rintro (h | ⟨h1, h2⟩)
      · cases h
        simp
      · refine ⟨by omega, ?_⟩
        rw [show i - k = (i - (k + 1)) + 1 by omega]
        exact h2
    · rintro ⟨h1, h2⟩
      by_cases h : i = k
      · subst h
        simp at h2
        exact Or.inl (by rw [h2])
      · refine Or.inr ⟨by omega, ?_⟩
        rw [show i - k = (i - (k + 1)) + 1 by omega] at h2
        exact h2
theorem lh.has {sl : Array Slot} {nL : Nat} {ls : List (Option Value)} (h : lh sl nL ls) : lv_has sl nL (lprs 0 ls) := ⟨h.1, h.2.1, fun q hq => by
  obtain ⟨i, v⟩ := q
  have := (lprs_mem ls 0 i v).mp hq
  exact h.2.2 i v this.2⟩
/-- the place ahead holds no long -/
def l1 (ls : List (Option Value)) (i : Nat) : Bool := match i with
  | 0 => true
  | j + 1 => match ls[j]? with
    | some (some v) => v.category == 1
    | _ => true
theorem lh.set1 {sl : Array Slot} {nL i : Nat} {ls : List (Option Value)} {v : Value} (hi : i < ls.length) (hp : l1 ls i = true) (h : lv_has sl nL ((i, v) :: (lprs 0 ls).filter (fun q => !(q.1 == i) && !(q.1 + 1 == i && q.2.category == 2)))) : lh sl nL (ls.set i (some v)) := by
  refine ⟨h.1, h.2.1, fun j w hj => ?_⟩
  by_cases hij : i = j
  · subst hij
    rw [List.getElem?_set_self hi] at hj
    cases hj
    exact h.2.2 (i, v) List.mem_cons_self
  · rw [List.getElem?_set_ne hij] at hj
    refine h.2.2 (j, w) (List.mem_cons_of_mem _ (List.mem_filter.mpr ⟨(lprs_mem ls 0 j w).mpr ⟨Nat.zero_le _, hj⟩, ?_⟩))
    have e1 : (j == i) = false := by simpa using fun e => hij e.symm
    simp only [e1, Bool.not_false, Bool.true_and, Bool.not_eq_true', Bool.and_eq_false_iff]
    by_cases hji : j + 1 = i
    · right
      subst hji
      simp only [l1, hj] at hp
      have : w.category = 1 := by simpa using hp
      rw [this]; rfl
    · left
      simpa using hji
theorem lh.set2 {sl : Array Slot} {nL i : Nat} {ls : List (Option Value)} {v : Value} (hi : i + 1 < ls.length) (hp : l1 ls i = true) (h : lv_has sl nL ((i, v) :: (lprs 0 ls).filter (fun q => !(q.1 == i) && (!(q.1 == i + 1) && !(q.1 + 1 == i && q.2.category == 2))))) : lh sl nL ((ls.set i (some v)).set (i + 1) none) := by
  refine ⟨h.1, h.2.1, fun j w hj => ?_⟩
  by_cases hij1 : i + 1 = j
  · subst hij1
    rw [List.getElem?_set_self (by rw [List.length_set]; exact hi)] at hj
    cases hj
  · rw [List.getElem?_set_ne hij1] at hj
    by_cases hij : i = j
    · subst hij
      rw [List.getElem?_set_self (by omega)] at hj
      cases hj
      exact h.2.2 (i, v) List.mem_cons_self
    · rw [List.getElem?_set_ne hij] at hj
      refine h.2.2 (j, w) (List.mem_cons_of_mem _ (List.mem_filter.mpr ⟨(lprs_mem ls 0 j w).mpr ⟨Nat.zero_le _, hj⟩, ?_⟩))
      have e1 : (j == i) = false := by simpa using fun e => hij e.symm
      have e2 : (j == i + 1) = false := by simpa using fun e => hij1 e.symm
      simp only [e1, e2, Bool.not_false, Bool.true_and, Bool.not_eq_true', Bool.and_eq_false_iff]
      by_cases hji : j + 1 = i
      · right
        subst hji
        simp only [l1, hj] at hp
        have : w.category = 1 := by simpa using hp
        rw [this]; rfl
      · left
        simpa using hji
def At (X : CX) (cells slots pc : Nat) (ls : List (Option Value)) (st : List Value) (h : Hp) : Prop :=
  ∀ (H : Heap) (locs : List Loc) (sl : Array Slot), Hok X.D X.dA X.base h X.s H → va_S (fun q => X.base ≤ q) X.s.heap H locs → lh sl X.nL ls → W X.p X.l X.e X.Rm X.s X.m X.args X.below X.meth X.c H locs cells slots X.Q (F0 X.m pc sl st)
/-- the words that keep -/
def gw : List Cond := lw_tbl.filter goodWord
theorem gw_of {w : Cond} (h : w ∈ lw_tbl) (hg : goodWord w = true) : w ∈ gw := List.mem_filter.mpr ⟨h, hg⟩
theorem gw_good {ws : List Cond} (h : ∀ w ∈ ws, w ∈ gw) : GoodIn gw ws := fun w hw => ⟨h w hw, good_of_word (List.mem_filter.mp (h w hw)).2⟩
/-- the words that keep otherwise -/
def Ext (base : Nat) (U : State) (H : Heap) : Prop := va_AO RX0 U ∧ va_AO RX2 U ∧ va_Nw (.methodLinkNest RX8 45 yX7_init RX8) U
def Cx (X : CX) (own : String) (cc : ByteArray) : Prop :=
  X.p.tables.exec = Jvm.exec ∧ X.c.code = cc ∧ X.c.maxLocals = X.nL ∧ X.s.vm.findClass own = some X.m.cls ∧ (∀ w ∈ gw, w.before X.args X.s = true) ∧ va_K X.D gcls (gtys X.dA) X.s ∧ X.base ≤ X.s.heap.size ∧ X.meth.locks = false ∧ Ext X.base X.s X.s.heap
section ATR
variable {X : CX} {own : String} {cc : ByteArray} {cells slots pc : Nat} {ls : List (Option Value)} {st : List Value} {h : Hp}
theorem At.widen {k n : Nat} (h1 : cells ≤ k) (h2 : slots ≤ n) (kk : At X k n pc ls st h) : At X cells slots pc ls st h := fun H locs sl a b c => W.widen h1 h2 (kk H locs sl a b c)
theorem At.eqc {k n : Nat} (h1 : k = cells) (h2 : n = slots) (kk : At X k n pc ls st h) : At X cells slots pc ls st h := by subst h1; subst h2; exact kk
/-- fewer locals -/
theorem At.les {ls' : List (Option Value)} (hl : ∀ (i : Nat) (v : Value), ls'[i]? = some (some v) → ls[i]? = some (some v)) (kk : At X cells slots pc ls' st h) : At X cells slots pc ls st h := fun H locs sl a b c => kk H locs sl a b ⟨c.1, c.2.1, fun i v hi => c.2.2 i v (hl i v hi)⟩
theorem st_iconst (C : Cx X own cc) {n : Int} {v : Int32} (hd : decode cc pc = .ok (.iconst n, 1)) (hv : Int32.ofInt n = v) (k : At X cells slots (pc + 1) ls (.int v :: st) h) : At X cells slots pc ls (st) h := fun H locs sl a b c => lv_iconst C.1 C.2.1 hd hv (k H locs sl a b c)
theorem st_bipush (C : Cx X own cc) {n : Int} {v : Int32} (hd : decode cc pc = .ok (.bipush n, 2)) (hv : (Int8.ofInt n).toInt32 = v) (k : At X cells slots (pc + 2) ls (.int v :: st) h) : At X cells slots pc ls (st) h := fun H locs sl a b c => lv_bipush C.1 C.2.1 hd hv (k H locs sl a b c)
theorem st_sipush (C : Cx X own cc) {n : Int} {v : Int32} (hd : decode cc pc = .ok (.sipush n, 3)) (hv : (Int16.ofInt n).toInt32 = v) (k : At X cells slots (pc + 3) ls (.int v :: st) h) : At X cells slots pc ls (st) h := fun H locs sl a b c => lv_sipush C.1 C.2.1 hd hv (k H locs sl a b c)
theorem st_ldc2 (C : Cx X own cc) {idx : Nat} {v : Int64} (hd : decode cc pc = .ok (.ldc2_w idx, 3)) (hw : Cond.constantLong own idx v ∈ gw) (k : At X cells slots (pc + 3) ls (.long v :: st) h) : At X cells slots pc ls (st) h := fun H locs sl a b c => lv_ldc2 C.1 C.2.1 C.2.2.2.1 (C.2.2.2.2.1 _ hw) hd (k H locs sl a b c)
theorem st_iload_n (C : Cx X own cc) {n : Fin 4} {i : Nat} {v : Int32} (hd : decode cc pc = .ok (.iload_n n, 1)) (hi : (n : Nat) = i) (hl : ls[i]? = some (some (.int v))) (k : At X cells slots (pc + 1) ls (.int v :: st) h) : At X cells slots pc ls (st) h := fun H locs sl a b c => lv_iload_n C.1 C.2.1 hd hi (c.2.2 i _ hl) (k H locs sl a b c)
theorem st_iload (C : Cx X own cc) {i : Nat} {v : Int32} (hd : decode cc pc = .ok (.iload i, 2)) (hl : ls[i]? = some (some (.int v))) (k : At X cells slots (pc + 2) ls (.int v :: st) h) : At X cells slots pc ls (st) h := fun H locs sl a b c => lv_iload C.1 C.2.1 hd (c.2.2 i _ hl) (k H locs sl a b c)
theorem st_lload_n (C : Cx X own cc) {n : Fin 4} {i : Nat} {v : Int64} (hd : decode cc pc = .ok (.lload_n n, 1)) (hi : (n : Nat) = i) (hl : ls[i]? = some (some (.long v))) (k : At X cells slots (pc + 1) ls (.long v :: st) h) : At X cells slots pc ls (st) h := fun H locs sl a b c => lv_lload_n C.1 C.2.1 hd hi (c.2.2 i _ hl) (k H locs sl a b c)
theorem st_lload (C : Cx X own cc) {i : Nat} {v : Int64} (hd : decode cc pc = .ok (.lload i, 2)) (hl : ls[i]? = some (some (.long v))) (k : At X cells slots (pc + 2) ls (.long v :: st) h) : At X cells slots pc ls (st) h := fun H locs sl a b c => lv_lload C.1 C.2.1 hd (c.2.2 i _ hl) (k H locs sl a b c)
theorem st_aload_n (C : Cx X own cc) {n : Fin 4} {i : Nat} (o : Option Nat) (hd : decode cc pc = .ok (.aload_n n, 1)) (hi : (n : Nat) = i) (hl : ls[i]? = some (some (va_rf o))) (k : At X cells slots (pc + 1) ls (va_rf o :: st) h) : At X cells slots pc ls st h := by
  intro H locs sl a b c
  cases o with
  | none => exact lv_aload_nN C.1 C.2.1 hd hi (c.2.2 i _ hl) (k H locs sl a b c)
  | some x => exact lv_aload_n C.1 C.2.1 hd hi (c.2.2 i _ hl) (k H locs sl a b c)
theorem st_aload (C : Cx X own cc) {i : Nat} (o : Option Nat) (hd : decode cc pc = .ok (.aload i, 2)) (hl : ls[i]? = some (some (va_rf o))) (k : At X cells slots (pc + 2) ls (va_rf o :: st) h) : At X cells slots pc ls st h := by
  intro H locs sl a b c
  cases o with
  | none => exact lv_aloadN C.1 C.2.1 hd (c.2.2 i _ hl) (k H locs sl a b c)
  | some x => exact lv_aload C.1 C.2.1 hd (c.2.2 i _ hl) (k H locs sl a b c)
theorem st_istore_n (C : Cx X own cc) {n : Fin 4} {i : Nat} {v : Int32} (hd : decode cc pc = .ok (.istore_n n, 1)) (hi : (n : Nat) = i) (hi2 : i < ls.length) (hi3 : i < X.nL) (hp : l1 ls i = true) (k : At X cells slots (pc + 1) (ls.set i (some (.int v))) st h) : At X cells slots pc ls (.int v :: st) h := fun H locs sl a b c => lv_istore_n C.1 C.2.1 hd hi c.has hi3 rfl (fun sl2 h2 => k H locs sl2 a b (lh.set1 hi2 hp h2))
theorem st_istore (C : Cx X own cc) {i : Nat} {v : Int32} (hd : decode cc pc = .ok (.istore i, 2)) (hi2 : i < ls.length) (hi3 : i < X.nL) (hp : l1 ls i = true) (k : At X cells slots (pc + 2) (ls.set i (some (.int v))) st h) : At X cells slots pc ls (.int v :: st) h := fun H locs sl a b c => lv_istore C.1 C.2.1 hd c.has hi3 rfl (fun sl2 h2 => k H locs sl2 a b (lh.set1 hi2 hp h2))
theorem st_lstore_n (C : Cx X own cc) {n : Fin 4} {i : Nat} {v : Int64} (hd : decode cc pc = .ok (.lstore_n n, 1)) (hi : (n : Nat) = i) (hi2 : i + 1 < ls.length) (hi3 : i + 1 < X.nL) (hp : l1 ls i = true) (k : At X cells slots (pc + 1) ((ls.set i (some (.long v))).set (i + 1) none) st h) : At X cells slots pc ls (.long v :: st) h := fun H locs sl a b c => lv_lstore_n C.1 C.2.1 hd hi c.has hi3 rfl (fun sl2 h2 => k H locs sl2 a b (lh.set2 hi2 hp h2))
theorem st_lstore (C : Cx X own cc) {i : Nat} {v : Int64} (hd : decode cc pc = .ok (.lstore i, 2)) (hi2 : i + 1 < ls.length) (hi3 : i + 1 < X.nL) (hp : l1 ls i = true) (k : At X cells slots (pc + 2) ((ls.set i (some (.long v))).set (i + 1) none) st h) : At X cells slots pc ls (.long v :: st) h := fun H locs sl a b c => lv_lstore C.1 C.2.1 hd c.has hi3 rfl (fun sl2 h2 => k H locs sl2 a b (lh.set2 hi2 hp h2))
theorem st_astore_n (C : Cx X own cc) {n : Fin 4} {i : Nat} (o : Option Nat) (hd : decode cc pc = .ok (.astore_n n, 1)) (hi : (n : Nat) = i) (hi2 : i < ls.length) (hi3 : i < X.nL) (hp : l1 ls i = true) (k : At X cells slots (pc + 1) (ls.set i (some (va_rf o))) st h) : At X cells slots pc ls (va_rf o :: st) h := by
  intro H locs sl a b c
  cases o with
  | none => exact lv_astore_nN C.1 C.2.1 hd hi c.has hi3 rfl (fun sl2 h2 => k H locs sl2 a b (lh.set1 hi2 hp h2))
  | some x => exact lv_astore_n C.1 C.2.1 hd hi c.has hi3 rfl (fun sl2 h2 => k H locs sl2 a b (lh.set1 hi2 hp h2))
theorem st_astore (C : Cx X own cc) {i : Nat} (o : Option Nat) (hd : decode cc pc = .ok (.astore i, 2)) (hi2 : i < ls.length) (hi3 : i < X.nL) (hp : l1 ls i = true) (k : At X cells slots (pc + 2) (ls.set i (some (va_rf o))) st h) : At X cells slots pc ls (va_rf o :: st) h := by
  intro H locs sl a b c
  cases o with
  | none => exact lv_astoreN C.1 C.2.1 hd c.has hi3 rfl (fun sl2 h2 => k H locs sl2 a b (lh.set1 hi2 hp h2))
  | some x => exact lv_astore C.1 C.2.1 hd c.has hi3 rfl (fun sl2 h2 => k H locs sl2 a b (lh.set1 hi2 hp h2))
theorem st_iinc (C : Cx X own cc) {i : Nat} {n : Int} {x v : Int32} (hd : decode cc pc = .ok (.iinc i n, 3)) (hl : ls[i]? = some (some (.int x))) (hv : x + Int32.ofInt n = v) (hi3 : i < X.nL) (hp : l1 ls i = true) (k : At X cells slots (pc + 3) (ls.set i (some (.int v))) st h) : At X cells slots pc ls st h := by
  intro H locs sl a b c
  have hm : (i, Value.int x) ∈ lprs 0 ls := (lprs_mem ls 0 i _).mpr ⟨Nat.zero_le _, hl⟩
  obtain ⟨j, hj⟩ := List.getElem?_of_mem hm
  exact lv_iinc C.1 C.2.1 hd c.has hj hv hi3 rfl (fun sl2 h2 => k H locs sl2 a b (lh.set1 (List.getElem?_eq_some_iff.mp hl).1 hp h2))
theorem st_iadd (C : Cx X own cc) {x y : Int32} (hd : decode cc pc = .ok (.iadd, 1)) (k : At X cells slots (pc + 1) ls (.int (x + y) :: st) h) : At X cells slots pc ls (.int y :: .int x :: st) h := fun H locs sl a b c => lv_iadd C.1 C.2.1 hd (k H locs sl a b c)
theorem st_isub (C : Cx X own cc) {x y : Int32} (hd : decode cc pc = .ok (.isub, 1)) (k : At X cells slots (pc + 1) ls (.int (x - y) :: st) h) : At X cells slots pc ls (.int y :: .int x :: st) h := fun H locs sl a b c => lv_isub C.1 C.2.1 hd (k H locs sl a b c)
theorem st_imul (C : Cx X own cc) {x y : Int32} (hd : decode cc pc = .ok (.imul, 1)) (k : At X cells slots (pc + 1) ls (.int (x * y) :: st) h) : At X cells slots pc ls (.int y :: .int x :: st) h := fun H locs sl a b c => lv_imul C.1 C.2.1 hd (k H locs sl a b c)
theorem st_iand (C : Cx X own cc) {x y : Int32} (hd : decode cc pc = .ok (.iand, 1)) (k : At X cells slots (pc + 1) ls (.int (x &&& y) :: st) h) : At X cells slots pc ls (.int y :: .int x :: st) h := fun H locs sl a b c => lv_iand C.1 C.2.1 hd (k H locs sl a b c)
theorem st_ixor (C : Cx X own cc) {x y : Int32} (hd : decode cc pc = .ok (.ixor, 1)) (k : At X cells slots (pc + 1) ls (.int (x ^^^ y) :: st) h) : At X cells slots pc ls (.int y :: .int x :: st) h := fun H locs sl a b c => lv_ixor C.1 C.2.1 hd (k H locs sl a b c)
theorem st_idiv (C : Cx X own cc) {x y : Int32} (hd : decode cc pc = .ok (.idiv, 1)) (hne : ¬ y = 0) (k : At X cells slots (pc + 1) ls (.int (x / y) :: st) h) : At X cells slots pc ls (.int y :: .int x :: st) h := fun H locs sl a b c => lv_idiv C.1 C.2.1 hd hne (k H locs sl a b c)
theorem st_irem (C : Cx X own cc) {x y : Int32} (hd : decode cc pc = .ok (.irem, 1)) (hne : ¬ y = 0) (k : At X cells slots (pc + 1) ls (.int (x - x / y * y) :: st) h) : At X cells slots pc ls (.int y :: .int x :: st) h := fun H locs sl a b c => lv_irem C.1 C.2.1 hd hne (k H locs sl a b c)
theorem st_ineg (C : Cx X own cc) {x : Int32} (hd : decode cc pc = .ok (.ineg, 1)) (k : At X cells slots (pc + 1) ls (.int (-x) :: st) h) : At X cells slots pc ls (.int x :: st) h := fun H locs sl a b c => lv_ineg C.1 C.2.1 hd (k H locs sl a b c)
theorem st_ladd (C : Cx X own cc) {x y : Int64} (hd : decode cc pc = .ok (.ladd, 1)) (k : At X cells slots (pc + 1) ls (.long (x + y) :: st) h) : At X cells slots pc ls (.long y :: .long x :: st) h := fun H locs sl a b c => lv_ladd C.1 C.2.1 hd (k H locs sl a b c)
theorem st_lmul (C : Cx X own cc) {x y : Int64} (hd : decode cc pc = .ok (.lmul, 1)) (k : At X cells slots (pc + 1) ls (.long (x * y) :: st) h) : At X cells slots pc ls (.long y :: .long x :: st) h := fun H locs sl a b c => lv_lmul C.1 C.2.1 hd (k H locs sl a b c)
theorem st_ldiv (C : Cx X own cc) {x y : Int64} (hd : decode cc pc = .ok (.ldiv, 1)) (hne : ¬ y = 0) (k : At X cells slots (pc + 1) ls (.long (x / y) :: st) h) : At X cells slots pc ls (.long y :: .long x :: st) h := fun H locs sl a b c => lv_ldiv C.1 C.2.1 hd hne (k H locs sl a b c)
theorem st_lcmp (C : Cx X own cc) {x y : Int64} (hd : decode cc pc = .ok (.lcmp, 1)) (k : At X cells slots (pc + 1) ls (.int (lg_cmp x y) :: st) h) : At X cells slots pc ls (.long y :: .long x :: st) h := fun H locs sl a b c => W.lcmp C.1 C.2.1 hd (k H locs sl a b c)
theorem st_i2l (C : Cx X own cc) {x : Int32} (hd : decode cc pc = .ok (.i2l, 1)) (k : At X cells slots (pc + 1) ls (.long x.toInt64 :: st) h) : At X cells slots pc ls (.int x :: st) h := fun H locs sl a b c => lv_i2l C.1 C.2.1 hd rfl (k H locs sl a b c)
theorem st_l2i (C : Cx X own cc) {x : Int64} (hd : decode cc pc = .ok (.l2i, 1)) (k : At X cells slots (pc + 1) ls (.int x.toInt32 :: st) h) : At X cells slots pc ls (.long x :: st) h := fun H locs sl a b c => lv_l2i C.1 C.2.1 hd rfl (k H locs sl a b c)
theorem st_dup (C : Cx X own cc) {v : Value} (hd : decode cc pc = .ok (.dup, 1)) (hv : v.category = 1) (k : At X cells slots (pc + 1) ls (v :: v :: st) h) : At X cells slots pc ls (v :: st) h := fun H locs sl a b c => lv_dup C.1 C.2.1 hd hv (k H locs sl a b c)
theorem st_pop (C : Cx X own cc) {v : Value} (hd : decode cc pc = .ok (.pop, 1)) (hv : v.category = 1) (k : At X cells slots (pc + 1) ls (st) h) : At X cells slots pc ls (v :: st) h := fun H locs sl a b c => lv_pop C.1 C.2.1 hd hv (k H locs sl a b c)
theorem st_dup_x1 (C : Cx X own cc) {v w : Value} (hd : decode cc pc = .ok (.dup_x1, 1)) (hv : v.category = 1) (hw : w.category = 1) (k : At X cells slots (pc + 1) ls (v :: w :: v :: st) h) : At X cells slots pc ls (v :: w :: st) h := fun H locs sl a b c => lv_dup_x1 C.1 C.2.1 hd hv hw (k H locs sl a b c)
theorem st_dup_x2 (C : Cx X own cc) {v w u : Value} (hd : decode cc pc = .ok (.dup_x2, 1)) (hv : v.category = 1) (hw : w.category = 1) (hu : u.category = 1) (k : At X cells slots (pc + 1) ls (v :: w :: u :: v :: st) h) : At X cells slots pc ls (v :: w :: u :: st) h := fun H locs sl a b c => lv_dup_x2 C.1 C.2.1 hd hv hw hu (k H locs sl a b c)
theorem st_null (C : Cx X own cc)  (hd : decode cc pc = .ok (.aconst_null, 1)) (k : At X cells slots (pc + 1) ls (.null :: st) h) : At X cells slots pc ls (st) h := fun H locs sl a b c => lv_null C.1 C.2.1 hd (k H locs sl a b c)
theorem st_if_eq (C : Cx X own cc) {x : Int32} {off : Int} {tgt : Nat} (hd : decode cc pc = .ok (.ifCond .eq off, 3)) (ht : (pc : Int) + off = (tgt : Int)) (kt : x = 0 → At X cells slots tgt ls st h) (kf : ¬ x = 0 → At X cells slots (pc + 3) ls st h) : At X cells slots pc ls (.int x :: st) h := fun H locs sl a b c => lv_if_eq C.1 C.2.1 hd ht (fun q => kt q H locs sl a b c) (fun q => kf q H locs sl a b c)
theorem st_icmp_eq (C : Cx X own cc) {x y : Int32} {off : Int} {tgt : Nat} (hd : decode cc pc = .ok (.if_icmp .eq off, 3)) (ht : (pc : Int) + off = (tgt : Int)) (kt : x = y → At X cells slots tgt ls st h) (kf : ¬ x = y → At X cells slots (pc + 3) ls st h) : At X cells slots pc ls (.int y :: .int x :: st) h := fun H locs sl a b c => lv_icmp_eq C.1 C.2.1 hd ht (fun q => kt q H locs sl a b c) (fun q => kf q H locs sl a b c)
theorem st_if_ne (C : Cx X own cc) {x : Int32} {off : Int} {tgt : Nat} (hd : decode cc pc = .ok (.ifCond .ne off, 3)) (ht : (pc : Int) + off = (tgt : Int)) (kt : ¬ x = 0 → At X cells slots tgt ls st h) (kf : x = 0 → At X cells slots (pc + 3) ls st h) : At X cells slots pc ls (.int x :: st) h := fun H locs sl a b c => lv_if_ne C.1 C.2.1 hd ht (fun q => kt q H locs sl a b c) (fun q => kf q H locs sl a b c)
theorem st_icmp_ne (C : Cx X own cc) {x y : Int32} {off : Int} {tgt : Nat} (hd : decode cc pc = .ok (.if_icmp .ne off, 3)) (ht : (pc : Int) + off = (tgt : Int)) (kt : ¬ x = y → At X cells slots tgt ls st h) (kf : x = y → At X cells slots (pc + 3) ls st h) : At X cells slots pc ls (.int y :: .int x :: st) h := fun H locs sl a b c => lv_icmp_ne C.1 C.2.1 hd ht (fun q => kt q H locs sl a b c) (fun q => kf q H locs sl a b c)
theorem st_if_lt (C : Cx X own cc) {x : Int32} {off : Int} {tgt : Nat} (hd : decode cc pc = .ok (.ifCond .lt off, 3)) (ht : (pc : Int) + off = (tgt : Int)) (kt : x < 0 → At X cells slots tgt ls st h) (kf : ¬ x < 0 → At X cells slots (pc + 3) ls st h) : At X cells slots pc ls (.int x :: st) h := fun H locs sl a b c => lv_if_lt C.1 C.2.1 hd ht (fun q => kt q H locs sl a b c) (fun q => kf q H locs sl a b c)
theorem st_icmp_lt (C : Cx X own cc) {x y : Int32} {off : Int} {tgt : Nat} (hd : decode cc pc = .ok (.if_icmp .lt off, 3)) (ht : (pc : Int) + off = (tgt : Int)) (kt : x < y → At X cells slots tgt ls st h) (kf : ¬ x < y → At X cells slots (pc + 3) ls st h) : At X cells slots pc ls (.int y :: .int x :: st) h := fun H locs sl a b c => lv_icmp_lt C.1 C.2.1 hd ht (fun q => kt q H locs sl a b c) (fun q => kf q H locs sl a b c)
theorem st_if_ge (C : Cx X own cc) {x : Int32} {off : Int} {tgt : Nat} (hd : decode cc pc = .ok (.ifCond .ge off, 3)) (ht : (pc : Int) + off = (tgt : Int)) (kt : 0 ≤ x → At X cells slots tgt ls st h) (kf : ¬ 0 ≤ x → At X cells slots (pc + 3) ls st h) : At X cells slots pc ls (.int x :: st) h := fun H locs sl a b c => lv_if_ge C.1 C.2.1 hd ht (fun q => kt q H locs sl a b c) (fun q => kf q H locs sl a b c)
theorem st_icmp_ge (C : Cx X own cc) {x y : Int32} {off : Int} {tgt : Nat} (hd : decode cc pc = .ok (.if_icmp .ge off, 3)) (ht : (pc : Int) + off = (tgt : Int)) (kt : y ≤ x → At X cells slots tgt ls st h) (kf : ¬ y ≤ x → At X cells slots (pc + 3) ls st h) : At X cells slots pc ls (.int y :: .int x :: st) h := fun H locs sl a b c => lv_icmp_ge C.1 C.2.1 hd ht (fun q => kt q H locs sl a b c) (fun q => kf q H locs sl a b c)
theorem st_if_gt (C : Cx X own cc) {x : Int32} {off : Int} {tgt : Nat} (hd : decode cc pc = .ok (.ifCond .gt off, 3)) (ht : (pc : Int) + off = (tgt : Int)) (kt : 0 < x → At X cells slots tgt ls st h) (kf : ¬ 0 < x → At X cells slots (pc + 3) ls st h) : At X cells slots pc ls (.int x :: st) h := fun H locs sl a b c => lv_if_gt C.1 C.2.1 hd ht (fun q => kt q H locs sl a b c) (fun q => kf q H locs sl a b c)
theorem st_icmp_gt (C : Cx X own cc) {x y : Int32} {off : Int} {tgt : Nat} (hd : decode cc pc = .ok (.if_icmp .gt off, 3)) (ht : (pc : Int) + off = (tgt : Int)) (kt : y < x → At X cells slots tgt ls st h) (kf : ¬ y < x → At X cells slots (pc + 3) ls st h) : At X cells slots pc ls (.int y :: .int x :: st) h := fun H locs sl a b c => lv_icmp_gt C.1 C.2.1 hd ht (fun q => kt q H locs sl a b c) (fun q => kf q H locs sl a b c)
theorem st_if_le (C : Cx X own cc) {x : Int32} {off : Int} {tgt : Nat} (hd : decode cc pc = .ok (.ifCond .le off, 3)) (ht : (pc : Int) + off = (tgt : Int)) (kt : x ≤ 0 → At X cells slots tgt ls st h) (kf : ¬ x ≤ 0 → At X cells slots (pc + 3) ls st h) : At X cells slots pc ls (.int x :: st) h := fun H locs sl a b c => lv_if_le C.1 C.2.1 hd ht (fun q => kt q H locs sl a b c) (fun q => kf q H locs sl a b c)
theorem st_icmp_le (C : Cx X own cc) {x y : Int32} {off : Int} {tgt : Nat} (hd : decode cc pc = .ok (.if_icmp .le off, 3)) (ht : (pc : Int) + off = (tgt : Int)) (kt : x ≤ y → At X cells slots tgt ls st h) (kf : ¬ x ≤ y → At X cells slots (pc + 3) ls st h) : At X cells slots pc ls (.int y :: .int x :: st) h := fun H locs sl a b c => lv_icmp_le C.1 C.2.1 hd ht (fun q => kt q H locs sl a b c) (fun q => kf q H locs sl a b c)
theorem st_goto (C : Cx X own cc) {off : Int} {tgt : Nat} (hd : decode cc pc = .ok (.goto off, 3)) (ht : (pc : Int) + off = (tgt : Int)) (k : At X cells slots tgt ls st h) : At X cells slots pc ls st h := fun H locs sl a b c => lv_goto C.1 C.2.1 hd ht (k H locs sl a b c)
theorem st_ifnull (C : Cx X own cc) {o : Option Nat} {off : Int} {tgt : Nat} (hd : decode cc pc = .ok (.ifnull off, 3)) (ht : (pc : Int) + off = (tgt : Int)) (kt : o = none → At X cells slots tgt ls st h) (kf : ∀ x, o = some x → At X cells slots (pc + 3) ls st h) : At X cells slots pc ls (va_rf o :: st) h := by
  intro H locs sl a b c
  cases o with
  | none => exact lv_ifnullN C.1 C.2.1 hd ht (kt rfl H locs sl a b c)
  | some x => exact lv_ifnull C.1 C.2.1 hd (kf x rfl H locs sl a b c)
theorem st_ifnonnull (C : Cx X own cc) {o : Option Nat} {off : Int} {tgt : Nat} (hd : decode cc pc = .ok (.ifnonnull off, 3)) (ht : (pc : Int) + off = (tgt : Int)) (kt : ∀ x, o = some x → At X cells slots tgt ls st h) (kf : o = none → At X cells slots (pc + 3) ls st h) : At X cells slots pc ls (va_rf o :: st) h := by
  intro H locs sl a b c
  cases o with
  | none => exact lv_ifnonnullN C.1 C.2.1 hd (kf rfl H locs sl a b c)
  | some x => exact lv_ifnonnull C.1 C.2.1 hd ht (kt x rfl H locs sl a b c)
theorem st_acmp_eq (C : Cx X own cc) {rx ry : Option Nat} {off : Int} {tgt : Nat} (hd : decode cc pc = .ok (.if_acmp .eq off, 3)) (ht : (pc : Int) + off = (tgt : Int)) (kt : rx = ry → At X cells slots tgt ls st h) (kf : ¬ rx = ry → At X cells slots (pc + 3) ls st h) : At X cells slots pc ls (va_rf ry :: va_rf rx :: st) h := fun H locs sl a b c => lv_acmp_eq C.1 C.2.1 hd ht (fun q => kt q H locs sl a b c) (fun q => kf q H locs sl a b c)
theorem st_acmp_ne (C : Cx X own cc) {rx ry : Option Nat} {off : Int} {tgt : Nat} (hd : decode cc pc = .ok (.if_acmp .ne off, 3)) (ht : (pc : Int) + off = (tgt : Int)) (kt : ¬ rx = ry → At X cells slots tgt ls st h) (kf : rx = ry → At X cells slots (pc + 3) ls st h) : At X cells slots pc ls (va_rf ry :: va_rf rx :: st) h := fun H locs sl a b c => lv_acmp_ne C.1 C.2.1 hd ht (fun q => kt q H locs sl a b c) (fun q => kf q H locs sl a b c)
theorem st_tableOut (C : Cx X own cc) {x : Int32} {dflt lo hi : Int} {offs : Array Int} {len tgt : Nat} (hd : decode cc pc = .ok (.tableswitch dflt lo hi offs, len)) (hx : x.toInt < lo ∨ hi < x.toInt) (ht : (pc : Int) + dflt = (tgt : Int)) (k : At X cells slots tgt ls st h) : At X cells slots pc ls (.int x :: st) h := fun H locs sl a b c => lv_tableOut C.1 C.2.1 hd hx ht (k H locs sl a b c)
theorem st_tableIn (C : Cx X own cc) {x : Int32} {dflt lo hi off : Int} {offs : Array Int} {len tgt : Nat} (hd : decode cc pc = .ok (.tableswitch dflt lo hi offs, len)) (h1 : ¬ x.toInt < lo) (h2 : ¬ hi < x.toInt) (ho : offs[(x.toInt - lo).toNat]? = some off) (ht : (pc : Int) + off = (tgt : Int)) (k : At X cells slots tgt ls st h) : At X cells slots pc ls (.int x :: st) h := fun H locs sl a b c => lv_tableIn C.1 C.2.1 hd h1 h2 ho ht (k H locs sl a b c)
theorem st_getI (C : Cx X own cc) {a idx ci k : Nat} {R : String} {T : u_T} {N : Nat} (hc : gcls[ci]? = some (R, T, N)) (hin : ∀ w ∈ u_ws R T N, w ∈ gw) (hk : k < N) (hf : (fl ci)[k]? = some (100 * ci + k, false)) (hw : Cond.fieldLink own idx (T k).1 (T k).2.1 (T k).2.2.1 ∈ gw) (hd : decode cc pc = .ok (.getfield idx, 3)) (hci : ci < 10) (hK : h.K a = ci + 1)
    (kk : At X cells slots (pc + 3) ls (.int (h.I (100 * ci + k) a) :: st) h) : At X cells slots pc ls (.ref a :: st) h := by
  intro H locs sl q b c
  have hP : va_P X.D gcls [(a, .inr (ci, (fl ci).map (fv h a)))] H := fun j x hx => by
    match j, hx with
    | 0, hx => cases hx; exact (q.1 a _ (cof_ob hK hci)).2
    | j + 1, hx => cases hx
  refine va_get C.1 C.2.1 C.2.2.2.2.1 hin C.2.2.2.1 C.2.2.2.2.2.1 hP 0 rfl hc k hk (C.2.2.2.2.1 _ hw) (fun x h => h) (v := .int (h.I (100 * ci + k) a)) ?_ hd (kk H locs sl q b c)
  rw [List.getElem?_map, hf]
  rfl
theorem st_getR (C : Cx X own cc) {a idx ci k : Nat} {R : String} {T : u_T} {N : Nat} (hc : gcls[ci]? = some (R, T, N)) (hin : ∀ w ∈ u_ws R T N, w ∈ gw) (hk : k < N) (hf : (fl ci)[k]? = some (100 * ci + k, true)) (hw : Cond.fieldLink own idx (T k).1 (T k).2.1 (T k).2.2.1 ∈ gw) (hd : decode cc pc = .ok (.getfield idx, 3)) (hci : ci < 10) (hK : h.K a = ci + 1)
    (kk : At X cells slots (pc + 3) ls (va_rf (h.R (100 * ci + k) a) :: st) h) : At X cells slots pc ls (.ref a :: st) h := by
  intro H locs sl q b c
  have hP : va_P X.D gcls [(a, .inr (ci, (fl ci).map (fv h a)))] H := fun j x hx => by
    match j, hx with
    | 0, hx => cases hx; exact (q.1 a _ (cof_ob hK hci)).2
    | j + 1, hx => cases hx
  refine va_get C.1 C.2.1 C.2.2.2.2.1 hin C.2.2.2.1 C.2.2.2.2.2.1 hP 0 rfl hc k hk (C.2.2.2.2.1 _ hw) (fun x h => h) (v := va_rf (h.R (100 * ci + k) a)) ?_ hd (kk H locs sl q b c)
  rw [List.getElem?_map, hf]
  rfl
/-- a store into a field: the machine's part -/
theorem st_putV (C : Cx X own cc) {a idx ci k : Nat} {R : String} {T : u_T} {N : Nat} {tyf : Nat → FieldType} {v : Value} {g : Hp} (hc : gcls[ci]? = some (R, T, N)) (hin : ∀ w ∈ u_ws R T N, w ∈ gw) (hty : ∀ k, k < N → parseFieldDescriptor (T k).2.2.1 = some (tyf k)) (hnm : ∀ a, a < N → ∀ b, b < N → a ≠ b → (T a).2.1 ≠ (T b).2.1) (hk : k < N) (hl : k < (fl ci).length)
    (hw : Cond.fieldLink own idx (T k).1 (T k).2.1 (T k).2.2.1 ∈ gw) (hd : decode cc pc = .ok (.putfield idx, 3)) (hci : ci < 10) (hK : h.K a = ci + 1) (hfin : (T k).2.2.2 = false ∨ ((T k).2.2.2 = true ∧ X.meth.name = "<init>" ∧ (T k).1 = own)) (hn : narrow (tyf k) v = v) (hfit : fits (tyf k) v = true)
    (e : ∀ b, b ≠ a → cof X.dA g b = cof X.dA h b) (eK : g.K = h.K) (eN : g.N = h.N) (eA : g.AI = h.AI) (ec : (fl ci).map (fv g a) = ((fl ci).map (fv h a)).set k v)
    (kk : At X cells slots (pc + 3) ls st g) : At X cells slots pc ls (v :: .ref a :: st) h := by
  intro H locs sl q b c
  have hcof : cof X.dA h a = some (.inr (ci, (fl ci).map (fv h a))) := cof_ob hK hci
  have hcofg : cof X.dA g a = some (.inr (ci, ((fl ci).map (fv h a)).set k v)) := by rw [← ec]; exact cof_ob (by rw [eK]; exact hK) hci
  obtain ⟨hbase, r, h1, cell, q1, q2, q3, q4⟩ := q.1 a _ hcof
  have hr : r = (R, T, N) := Option.some.inj (h1.symm.trans hc)
  subst hr
  have hap := va_apart (own := own) C.2.2.2.2.1 hin tyf hty hnm C.2.2.2.2.2.1 hc
  obtain ⟨hS, hfc, kC, hkC, hkind⟩ := C.2.2.2.2.2.1.1 ci _ hc
  obtain ⟨cf, kf, fi, f, hi, hsl⟩ := hS k hk
  have hlay := C.2.2.2.2.1 _ (hin _ (u_in_lay hk))
  have hst := (u_facts hfc hkC (u_lays C.2.2.2.2.1 hin hk) hi).1
  have fin : ∀ H', H'[a]? = some (cell.setSlot f.slot v) → H'.size = H.size → (∀ q, q ≠ a → H'[q]? = H[q]?) → W X.p X.l X.e X.Rm X.s X.m X.args X.below X.meth X.c H' (locs ++ [⟨a, f.slot⟩]) cells slots X.Q (F0 X.m (pc + 3) sl st) := by
    intro H' e1 e2 e3
    rw [hsl] at e1
    refine kk H' _ sl (q.put e eK eN (fun b hb => by rw [eA]) hcof (fun e1' he => ?_) e2 e3) (b.put e2 e3 hbase) c
    rw [hcofg] at he
    cases he
    exact ⟨_, hc, t_OB.to (V := updV (vp_V ((fl ci).map (fv h a))) k v) ⟨_, e1, q2, q3, t_set q4 hap hk v⟩ (fun j _ => vp_updV_set (by rw [List.length_map]; exact hl) v j)⟩
  rcases hfin with hfin | ⟨hfin, hin2, hdecl⟩
  · unfold u_lay at hlay
    rw [if_neg (by rw [hfin]; decide)] at hlay
    have h6 := u_store hfc hkC hkind hlay hi (hty k hk) hn hfit
    refine W.putK C.1 C.2.1 (f := f) ⟨C.2.2.2.1, C.2.2.2.2.1 _ hw, ⟨_, _, _, hi⟩, hst⟩ (by rw [q2]; exact h6) q1 q3 (by rw [hsl]; exact k2_hasslot (q4 k hk)) rfl rfl hd fin
  · unfold u_lay at hlay
    rw [if_pos hfin] at hlay
    have hcf : X.m.cls = cf := by
      obtain ⟨_, _, c', _, _, _, -, -, hf', -, -, -, hown2, -⟩ := Cond.laysFinal_spec hlay
      have e1 : c' = cf := by have := hi.symm.trans hf'; simp at this; exact this.1.symm
      rw [hdecl] at hown2
      rw [← e1]; exact Option.some.inj (C.2.2.2.1.symm.trans hown2)
    have h6 := u_fits hfc hkC hkind (Or.inr hlay) hi (hty k hk) hn hfit
    refine W.putFinK C.1 C.2.1 C.2.2.2.1 (C.2.2.2.2.1 _ hw) hi hst hcf hin2 (by rw [q2]; exact h6) q1 q3 (by rw [hsl]; exact k2_hasslot (q4 k hk)) rfl rfl hd fin
theorem st_putI (C : Cx X own cc) {a idx ci k : Nat} {R : String} {T : u_T} {N : Nat} {tyf : Nat → FieldType} {v : Int32} (hc : gcls[ci]? = some (R, T, N)) (hin : ∀ w ∈ u_ws R T N, w ∈ gw) (hty : ∀ k, k < N → parseFieldDescriptor (T k).2.2.1 = some (tyf k)) (hnm : ∀ a, a < N → ∀ b, b < N → a ≠ b → (T a).2.1 ≠ (T b).2.1) (hk : k < N) (hf : (fl ci)[k]? = some (100 * ci + k, false))
    (hw : Cond.fieldLink own idx (T k).1 (T k).2.1 (T k).2.2.1 ∈ gw) (hd : decode cc pc = .ok (.putfield idx, 3)) (hci : ci < 10) (hK : h.K a = ci + 1) (hfin : (T k).2.2.2 = false ∨ ((T k).2.2.2 = true ∧ X.meth.name = "<init>" ∧ (T k).1 = own)) (hn : narrow (tyf k) (.int v) = .int v) (hfit : fits (tyf k) (.int v) = true)
    (kk : At X cells slots (pc + 3) ls st (h.sI (100 * ci + k) a v)) : At X cells slots pc ls (.int v :: .ref a :: st) h :=
  st_putV C (g := h.sI (100 * ci + k) a v) hc hin hty hnm hk (List.getElem?_eq_some_iff.mp hf).1 hw hd hci hK hfin hn hfit (fun b hb => cof_cg rfl rfl (fun f => by rw [I_sI, up2_a _ _ hb]) (fun _ => rfl) rfl rfl rfl) rfl rfl rfl (map_setI hf) kk
theorem st_putR (C : Cx X own cc) {a idx ci k : Nat} {R : String} {T : u_T} {N : Nat} {tyf : Nat → FieldType} (o : Option Nat) (hc : gcls[ci]? = some (R, T, N)) (hin : ∀ w ∈ u_ws R T N, w ∈ gw) (hty : ∀ k, k < N → parseFieldDescriptor (T k).2.2.1 = some (tyf k)) (hnm : ∀ a, a < N → ∀ b, b < N → a ≠ b → (T a).2.1 ≠ (T b).2.1) (hk : k < N) (hf : (fl ci)[k]? = some (100 * ci + k, true))
    (hw : Cond.fieldLink own idx (T k).1 (T k).2.1 (T k).2.2.1 ∈ gw) (hd : decode cc pc = .ok (.putfield idx, 3)) (hci : ci < 10) (hK : h.K a = ci + 1) (hfin : (T k).2.2.2 = false ∨ ((T k).2.2.2 = true ∧ X.meth.name = "<init>" ∧ (T k).1 = own)) (hn : narrow (tyf k) (va_rf o) = va_rf o) (hfit : fits (tyf k) (va_rf o) = true)
    (kk : At X cells slots (pc + 3) ls st (h.sR (100 * ci + k) a o)) : At X cells slots pc ls (va_rf o :: .ref a :: st) h :=
  st_putV C (g := h.sR (100 * ci + k) a o) hc hin hty hnm hk (List.getElem?_eq_some_iff.mp hf).1 hw hd hci hK hfin hn hfit (fun b hb => cof_cg rfl rfl (fun _ => rfl) (fun f => by rw [R_sR, up2_a _ _ hb]) rfl rfl rfl) rfl rfl rfl (map_setR hf) kk
end ATR
end
section
section ATA
variable {X : CX} {own : String} {cc : ByteArray} {cells slots pc : Nat} {ls : List (Option Value)} {st : List Value} {h : Hp}
theorem va1 {D : va_G} {a : Nat} {e : va_E} {H : Heap} (he : va_at D gcls (a, e) H) : va_P D gcls [(a, e)] H := fun j x hx => by
  match j, hx with
  | 0, hx => cases hx; exact he
  | j + 1, hx => cases hx
theorem st_iaload (C : Cx X own cc) {a : Nat} {i : Int32} (hd : decode cc pc = .ok (.iaload, 1)) (hK : h.K a = 11) (hi : vp_in i (h.N a)) (kk : At X cells slots (pc + 1) ls (.int (h.AI a i.toNatClampNeg) :: st) h) : At X cells slots pc ls (.int i :: .ref a :: st) h :=
  fun H locs sl q b c => va_iald C.1 C.2.1 C.2.2.2.2.2.1 (va1 (q.1 a _ (cof_11 hK)).2) 0 0 rfl rfl hi hd (kk H locs sl q b c)
theorem st_saload (C : Cx X own cc) {a : Nat} {i : Int32} (hd : decode cc pc = .ok (.iaload, 1)) (hK : h.K a = 20) (hi : vp_in i (h.N a)) (kk : At X cells slots (pc + 1) ls (.int (h.AI a i.toNatClampNeg) :: st) h) : At X cells slots pc ls (.int i :: .ref a :: st) h := by
  intro H locs sl q b c
  obtain ⟨-, scr, h1, h2, h3, h4, h5⟩ := q.2.1 a hK
  have hlt : i.toNatClampNeg < h.N a := Nat.not_le.mp fun q => hi (Or.inr q)
  exact W.iald (v := .int (h.AI a i.toNatClampNeg)) C.1 C.2.1 h1 h2 h3 (by rw [h4]; exact hi) (h5 _ hlt) rfl rfl hd (kk H locs sl q b c)
theorem st_slen (C : Cx X own cc) {a : Nat} (hd : decode cc pc = .ok (.arraylength, 1)) (hK : h.K a = 20) (kk : At X cells slots (pc + 1) ls (.int (nI (h.N a)) :: st) h) : At X cells slots pc ls (.ref a :: st) h := by
  intro H locs sl q b c
  obtain ⟨-, scr, h1, h2, h3, h4, h5⟩ := q.2.1 a hK
  exact W.alen (n := Int32.ofNat (h.N a)) C.1 C.2.1 h1 h2 (by rw [h4] <;> rfl) rfl rfl hd (kk H locs sl q b c)
theorem st_baload (C : Cx X own cc) {a : Nat} {i : Int32} (hd : decode cc pc = .ok (.baload, 1)) (hK : h.K a = 12) (hi : vp_in i (h.N a)) (kk : At X cells slots (pc + 1) ls (.int (h.AI a i.toNatClampNeg) :: st) h) : At X cells slots pc ls (.int i :: .ref a :: st) h :=
  fun H locs sl q b c => va_zald C.1 C.2.1 C.2.2.2.2.2.1 (va1 (q.1 a _ (cof_12 hK)).2) 0 1 rfl rfl hi hd (kk H locs sl q b c)
theorem st_aaload (C : Cx X own cc) {a : Nat} {i : Int32} (hd : decode cc pc = .ok (.aaload, 1)) (hK : h.K a = 13 ∨ h.K a = 14) (hi : vp_in i (h.N a)) (kk : At X cells slots (pc + 1) ls (va_rf (h.AR a i.toNatClampNeg) :: st) h) : At X cells slots pc ls (.int i :: .ref a :: st) h := by
  intro H locs sl q b c
  rcases hK with hK | hK
  · exact va_aldq C.1 C.2.1 C.2.2.2.2.2.1 (va1 (q.1 a _ (cof_13 hK)).2) 0 2 rfl rfl hi hd (kk H locs sl q b c)
  · exact va_aldq C.1 C.2.1 C.2.2.2.2.2.1 (va1 (q.1 a _ (cof_14 hK)).2) 0 3 rfl rfl hi hd (kk H locs sl q b c)
theorem st_laload (C : Cx X own cc) {a : Nat} {i : Int32} (hd : decode cc pc = .ok (.laload, 1)) (hK : h.K a = 15) (hi : vp_in i (h.N a)) (kk : At X cells slots (pc + 1) ls (.long (h.AL a i.toNatClampNeg) :: st) h) : At X cells slots pc ls (.int i :: .ref a :: st) h :=
  fun H locs sl q b c => va_lald C.1 C.2.1 C.2.2.2.2.2.1 (va1 (q.1 a _ (cof_15 hK)).2) 0 4 rfl rfl hi hd (kk H locs sl q b c)
theorem st_alen (C : Cx X own cc) {a : Nat} (hd : decode cc pc = .ok (.arraylength, 1)) (hK : h.K a = 11 ∨ h.K a = 12 ∨ h.K a = 13 ∨ h.K a = 14 ∨ h.K a = 15) (kk : At X cells slots (pc + 1) ls (.int (nI (h.N a)) :: st) h) : At X cells slots pc ls (.ref a :: st) h := by
  intro H locs sl q b c
  rcases hK with hK | hK | hK | hK | hK
  · exact va_alen C.1 C.2.1 C.2.2.2.2.2.1 (va1 (q.1 a _ (cof_11 hK)).2) 0 0 rfl rfl rfl hd (kk H locs sl q b c)
  · exact va_alen C.1 C.2.1 C.2.2.2.2.2.1 (va1 (q.1 a _ (cof_12 hK)).2) 0 1 rfl rfl rfl hd (kk H locs sl q b c)
  · exact va_alen C.1 C.2.1 C.2.2.2.2.2.1 (va1 (q.1 a _ (cof_13 hK)).2) 0 2 rfl rfl rfl hd (kk H locs sl q b c)
  · exact va_alen C.1 C.2.1 C.2.2.2.2.2.1 (va1 (q.1 a _ (cof_14 hK)).2) 0 3 rfl rfl rfl hd (kk H locs sl q b c)
  · exact va_alen C.1 C.2.1 C.2.2.2.2.2.1 (va1 (q.1 a _ (cof_15 hK)).2) 0 4 rfl rfl rfl hd (kk H locs sl q b c)
theorem updV_i (f : Nat → Int32) (k : Nat) (v : Int32) : updV (fun j => Value.int (f j)) k (.int v) = fun j => Value.int (if j = k then v else f j) := by
  funext j
  by_cases hj : j = k <;> simp [updV, hj]
theorem updV_l (f : Nat → Int64) (k : Nat) (v : Int64) : updV (fun j => Value.long (f j)) k (.long v) = fun j => Value.long (if j = k then v else f j) := by
  funext j
  by_cases hj : j = k <;> simp [updV, hj]
theorem updV_r (f : Nat → Option Nat) (k : Nat) (v : Option Nat) : updV (fun j => va_rf (f j)) k (va_rf v) = fun j => va_rf (if j = k then v else f j) := by
  funext j
  by_cases hj : j = k <;> simp [updV, hj]
theorem sAI_row (h : Hp) (a k : Nat) (v : Int32) : (h.sAI a k v).AI a = fun j => if j = k then v else h.AI a j := by funext j; simp [AI_sAI, up2]
theorem sAR_row (h : Hp) (a k : Nat) (v : Option Nat) : (h.sAR a k v).AR a = fun j => if j = k then v else h.AR a j := by funext j; simp [AR_sAR, up2]
theorem sAL_row (h : Hp) (a k : Nat) (v : Int64) : (h.sAL a k v).AL a = fun j => if j = k then v else h.AL a j := by funext j; simp [AL_sAL, up2]
theorem sAI_off (h : Hp) {a b k : Nat} (v : Int32) (hb : b ≠ a) : (h.sAI a k v).AI b = h.AI b := by funext j; simp [AI_sAI, up2, hb]
theorem sAR_off (h : Hp) {a b k : Nat} (v : Option Nat) (hb : b ≠ a) : (h.sAR a k v).AR b = h.AR b := by funext j; simp [AR_sAR, up2, hb]
theorem sAL_off (h : Hp) {a b k : Nat} (v : Int64) (hb : b ≠ a) : (h.sAL a k v).AL b = h.AL b := by funext j; simp [AL_sAL, up2, hb]
theorem st_iastore (C : Cx X own cc) {a : Nat} {i v : Int32} (hd : decode cc pc = .ok (.iastore, 1)) (hK : h.K a = 11) (hi : vp_in i (h.N a)) (kk : At X cells slots (pc + 1) ls st (h.sAI a i.toNatClampNeg v)) : At X cells slots pc ls (.int v :: .int i :: .ref a :: st) h := by
  intro H locs sl q b c
  have hcof : cof X.dA h a = _ := cof_11 hK
  obtain ⟨hbase, hat⟩ := q.1 a _ hcof
  refine W.iast C.1 C.2.1 hat ((C.2.2.2.2.2.1.2 0 _ rfl).1 (h.N a) (fun j => .int (h.AI a j))) (fun q => by cases q) (by show ¬ (i < 0 ∨ (arrV _ _ _).slots.size ≤ _); rw [arrV_size]; exact hi) rfl rfl hd fun H1 e z oq => ?_
  refine kk H1 _ sl (q.put (g := h.sAI a i.toNatClampNeg v) (fun x hx => cof_cg rfl rfl (fun _ => rfl) (fun _ => rfl) (sAI_off h v hx) rfl rfl) rfl rfl (fun x hx => sAI_off h v hx) hcof (fun e1 he => ?_) z oq) (b.put z oq hbase) c
  rw [cof_11 (h := h.sAI a i.toNatClampNeg v) hK] at he
  cases he
  show H1[a]? = some (vp_cell _ _)
  rw [e, vp_cell_i, vp_cell_i, arrV_store, updV_i]
  show some (arrV _ _ _) = some (arrV _ _ (fun j => Value.int ((h.sAI a i.toNatClampNeg v).AI a j)))
  rw [sAI_row]
  rfl
theorem st_bastore (C : Cx X own cc) {a : Nat} {i v : Int32} (hd : decode cc pc = .ok (.bastore, 1)) (hK : h.K a = 12) (hi : vp_in i (h.N a)) (hv : v = 0 ∨ v = 1) (kk : At X cells slots (pc + 1) ls st (h.sAI a i.toNatClampNeg v)) : At X cells slots pc ls (.int v :: .int i :: .ref a :: st) h := by
  intro H locs sl q b c
  have hcof : cof X.dA h a = _ := cof_12 hK
  obtain ⟨hbase, hat⟩ := q.1 a _ hcof
  have hnar : narrow .boolean (.int v) = .int v := by rcases hv with rfl | rfl <;> decide
  refine W.zast C.1 C.2.1 hat ((C.2.2.2.2.2.1.2 1 _ rfl).1 (h.N a) (fun j => .int (h.AI a j))) (fun q => by cases q) (by show ¬ (i < 0 ∨ (arrV _ _ _).slots.size ≤ _); rw [arrV_size]; exact hi) rfl rfl hd fun H1 e z oq => ?_
  rw [hnar] at e
  refine kk H1 _ sl (q.put (g := h.sAI a i.toNatClampNeg v) (fun x hx => cof_cg rfl rfl (fun _ => rfl) (fun _ => rfl) (sAI_off h v hx) rfl rfl) rfl rfl (fun x hx => sAI_off h v hx) hcof (fun e1 he => ?_) z oq) (b.put z oq hbase) c
  rw [cof_12 (h := h.sAI a i.toNatClampNeg v) hK] at he
  cases he
  show H1[a]? = some (vp_cell _ _)
  rw [e, vp_cell_i, vp_cell_i, arrV_store, updV_i]
  show some (arrV _ _ _) = some (arrV _ _ (fun j => Value.int ((h.sAI a i.toNatClampNeg v).AI a j)))
  rw [sAI_row]
  rfl
theorem st_lastore (C : Cx X own cc) {a : Nat} {i : Int32} {v : Int64} (hd : decode cc pc = .ok (.lastore, 1)) (hK : h.K a = 15) (hi : vp_in i (h.N a)) (kk : At X cells slots (pc + 1) ls st (h.sAL a i.toNatClampNeg v)) : At X cells slots pc ls (.long v :: .int i :: .ref a :: st) h := by
  intro H locs sl q b c
  have hcof : cof X.dA h a = _ := cof_15 hK
  obtain ⟨hbase, hat⟩ := q.1 a _ hcof
  refine W.last C.1 C.2.1 hat ((C.2.2.2.2.2.1.2 4 _ rfl).1 (h.N a) (fun j => .long (h.AL a j))) (fun q => by cases q) (by show ¬ (i < 0 ∨ (arrV _ _ _).slots.size ≤ _); rw [arrV_size]; exact hi) rfl rfl hd fun H1 e z oq => ?_
  refine kk H1 _ sl (q.put (g := h.sAL a i.toNatClampNeg v) (fun x hx => cof_cg rfl rfl (fun _ => rfl) (fun _ => rfl) rfl rfl (sAL_off h v hx)) rfl rfl (fun x hx => rfl) hcof (fun e1 he => ?_) z oq) (b.put z oq hbase) c
  rw [cof_15 (h := h.sAL a i.toNatClampNeg v) hK] at he
  cases he
  show H1[a]? = some (vp_cell _ _)
  rw [e, vp_cell_l, vp_cell_l, arrV_store, updV_l]
  show some (arrV _ _ _) = some (arrV _ _ (fun j => Value.long ((h.sAL a i.toNatClampNeg v).AL a j)))
  rw [sAL_row]
  rfl
/-- rows of references: of blocks (13, class 0) and of chunks (14, class 2) -/
theorem st_aastore (C : Cx X own cc) {a : Nat} {i : Int32} (o : Option Nat) (hd : decode cc pc = .ok (.aastore, 1)) (hK : (h.K a = 13 ∧ ∀ v, o = some v → h.K v = 1) ∨ (h.K a = 14 ∧ ∀ v, o = some v → h.K v = 3)) (hi : vp_in i (h.N a)) (kk : At X cells slots (pc + 1) ls st (h.sAR a i.toNatClampNeg o)) : At X cells slots pc ls (va_rf o :: .int i :: .ref a :: st) h := by
  intro H locs sl q b c
  have hlt : i.toNatClampNeg < h.N a := Nat.not_le.mp fun q => hi (Or.inr q)
  have h0 : ¬ i < 0 := fun q => hi (Or.inl q)
  have key : ∀ (t0 ci : Nat) (R : vw_C) (dk : ClassId), gcls[ci]? = some R → (gtys X.dA)[t0]? = some (dk, .object R.1) → ci < 10 → (∀ v, o = some v → h.K v = ci + 1) → cof X.dA h a = some (.inl (dk, h.N a, .inr (.inr (.inr (.inr (h.AR a)))))) → (∀ g : Hp, g.K = h.K → g.N = h.N → cof X.dA g a = some (.inl (dk, g.N a, .inr (.inr (.inr (.inr (g.AR a))))))) →
      W X.p X.l X.e X.Rm X.s X.m X.args X.below X.meth X.c H locs cells slots X.Q (F0 X.m pc sl (va_rf o :: .int i :: .ref a :: st)) := by
    intro t0 ci R dk hR ht hci hv hcof hcofg
    obtain ⟨hbase, hat⟩ := q.1 a _ hcof
    have fin : ∀ H1, H1[a]? = some ((vp_cell dk (h.N a, .inr (.inr (.inr (.inr (h.AR a)))))).setSlot i.toNatClampNeg (va_rf o)) → H1.size = H.size → (∀ q, q ≠ a → H1[q]? = H[q]?) → W X.p X.l X.e X.Rm X.s X.m X.args X.below X.meth X.c H1 (locs ++ [⟨a, i.toNatClampNeg⟩]) cells slots X.Q (F0 X.m (pc + 1) sl st) := by
      intro H1 e z oq
      refine kk H1 _ sl (q.put (g := h.sAR a i.toNatClampNeg o) (fun x hx => cof_cg rfl rfl (fun _ => rfl) (fun _ => rfl) rfl (sAR_off h o hx) rfl) rfl rfl (fun x hx => rfl) hcof (fun e1 he => ?_) z oq) (b.put z oq hbase) c
      rw [hcofg (h.sAR a i.toNatClampNeg o) rfl rfl] at he
      cases he
      show H1[a]? = some (vp_cell _ _)
      rw [e, vp_cell_q, vp_cell_q, arrV_store, updV_r]
      show some (arrV _ _ _) = some (arrV _ _ (fun j => va_rf ((h.sAR a i.toNatClampNeg o).AR a j)))
      rw [sAR_row]
      rfl
    cases o with
    | none => exact va_WaastN (C := R.1) C.1 C.2.1 hat ((C.2.2.2.2.2.1.2 t0 _ ht).1 (h.N a) (fun j => va_rf (h.AR a j))) (fun h => by cases h) (by show ¬ (i < 0 ∨ (arrV _ _ _).slots.size ≤ _); rw [arrV_size]; exact hi) rfl rfl hd fin
    | some v =>
      obtain ⟨r', hr', cellV, g1, g2, g3, -⟩ := (q.1 v _ (cof_ob (hv v rfl) hci)).2
      have hcls := (C.2.2.2.2.2.1.1 ci R hR).2
      obtain ⟨kA, comp, k1, k2, k3, -⟩ := (C.2.2.2.2.2.1.2 t0 _ ht).2
      have hcomp : comp = X.D.1 ci := Option.some.inj (k3.symm.trans hcls.1)
      subst hcomp
      obtain ⟨kC, hkC, -⟩ := hcls.2
      exact W.aast C.1 C.2.1 hat (fun q h => by cases h) (fun h => by cases h) k1 k2 rfl hkC ⟨h0, by show _ < (arrV _ _ _).slots.size; rw [arrV_size]; exact hlt⟩ g1 (fun q h => by rw [g3] at h; cases h) (by rw [g2]; exact hkC) (by rw [g2]; exact va_assign hcls) rfl rfl hd fin
  rcases hK with ⟨hK, hv⟩ | ⟨hK, hv⟩
  · exact key 2 0 (RX0, TX0, 9) _ rfl rfl (by decide) hv (cof_13 hK) (fun g e1 e2 => cof_13 (by rw [e1]; exact hK))
  · exact key 3 2 (RX2, TX2, 3) _ rfl rfl (by decide) hv (cof_14 hK) (fun g e1 e2 => cof_14 (by rw [e1]; exact hK))
theorem st_new (C : Cx X own cc) {idx ci : Nat} {R : String} {T : u_T} {N : Nat} {tyf : Nat → FieldType} (hc : gcls[ci]? = some (R, T, N)) (hin : ∀ w ∈ u_ws R T N, w ∈ gw) (hty : ∀ k, k < N → parseFieldDescriptor (T k).2.2.1 = some (tyf k)) (hw1 : Cond.classLink own idx R ∈ gw) (hw2 : Cond.instantiable R N ∈ gw) (hw3 : Cond.initialized R ∈ gw) (hd : decode cc pc = .ok (.new idx, 3)) (hci : ci < 10)
    (hdef : ∀ j, j < N → defaultValue (tyf j) = vp_V ((fl ci).map (fun q => if q.2 then Value.null else .int 0)) j) (hrc : cells + 1 ≤ X.Rm.cells) (hrs : slots + N ≤ X.Rm.slots)
    (kk : ∀ q, h.K q = 0 → At X (cells + 1) (slots + N) (pc + 3) ls (.ref q :: st) (h.nw q (ci + 1) 0)) : At X cells slots pc ls st h := by
  intro H locs sl q b c
  have hKn := C.2.2.2.2.2.1.1 ci _ hc
  refine W.newcK C.1 C.2.1 C.2.2.2.1 (C.2.2.2.2.1 _ hw1) (C.2.2.2.2.1 _ hw2) (C.2.2.2.2.1 _ hw3) rfl hd hrc hrs hKn.2.1 rfl fun H1 kC hkC e1 z1 o1 => ?_
  have hmap : (fl ci).map (fv (h.nw H.size (ci + 1) 0) H.size) = (fl ci).map (fun q => if q.2 then Value.null else .int 0) := by
    apply List.map_congr_left
    intro x _
    simp [fv, R_nw, I_nw, va_rf]
  obtain ⟨f0, hok⟩ := q.new (k := ci + 1) (n := 0) (H1 := H1) (Nat.le_trans C.2.2.2.2.2.2.1 b.1) (by omega) (fun e2 he => by
    rw [cof_ob (ci := ci) (by simp [K_nw]) hci, hmap] at he
    cases he
    exact ⟨_, hc, (u_born tyf C.2.2.2.2.1 hin hKn hkC e1 hty).to hdef⟩) z1 o1
  exact kk H.size f0 H1 locs sl hok ⟨Nat.le_trans b.1 (by omega), fun x h1 h2 => (o1 x (Nat.lt_of_lt_of_le h1 b.1)).trans (b.2.1 x h1 h2), b.2.2⟩ c
theorem arr_same {dA : Nat → ClassId} {D : va_G} {s : State} (hK : va_K D gcls (gtys dA) s) {t0 : Nat} {dk cA : ClassId} {ty : FieldType} (ht : (gtys dA)[t0]? = some (dk, ty)) (hn : ∀ C, ty ≠ .object C) (h : s.vm.findClass ("[" ++ ty.toString) = some cA) : cA = dk := by
  have h1 := (hK.2 t0 _ ht).2
  cases ty with
  | object C => exact absurd rfl (hn C)
  | _ => exact Option.some.inj (h.symm.trans h1)
theorem arrV_i (cA : ClassId) (n : Nat) (ty : FieldType) (hd : defaultValue ty = .int 0) : arrV cA n (fun _ => defaultValue ty) = vp_cell cA (n, .inl (fun _ => 0)) := by rw [hd, vp_cell_i]
theorem st_newarray (C : Cx X own cc) {t : ArrayType} (k t0 : Nat) (hkt : (k = 11 ∧ t0 = 0 ∧ t = .int) ∨ (k = 12 ∧ t0 = 1 ∧ t = .boolean) ∨ (k = 15 ∧ t0 = 4 ∧ t = .long)) (hw : Cond.arrayClass (newarray.typeOf t) ∈ gw) (hd : decode cc pc = .ok (.newarray t, 2)) {n : Int32} (hn : ¬ n < 0) (hb : n.toNatClampNeg ≤ 60000000) (hrc : cells + 1 ≤ X.Rm.cells) (hrs : slots + n.toNatClampNeg ≤ X.Rm.slots)
    (kk : ∀ q, h.K q = 0 → At X (cells + 1) (slots + n.toNatClampNeg) (pc + 2) ls (.ref q :: st) (h.nw q k n.toNatClampNeg)) : At X cells slots pc ls (.int n :: st) h := by
  intro H locs sl q b c
  have hbytes : n.toNatClampNeg * componentBytes (newarray.typeOf t) ≤ 536870912 := by
    rcases hkt with ⟨-, -, rfl⟩ | ⟨-, -, rfl⟩ | ⟨-, -, rfl⟩ <;> simp [newarray.typeOf, componentBytes] <;> omega
  refine va_newaK C.1 C.2.1 (C.2.2.2.2.1 _ hw) rfl hd rfl hn rfl hbytes hrc hrs rfl fun H1 cA e1 z1 o1 hAr hNm => ?_
  have hcell : ∀ e2, cof X.dA (h.nw H.size k n.toNatClampNeg) H.size = some e2 → va_at X.D gcls (H.size, e2) H1 := by
    intro e2 he
    rcases hkt with ⟨rfl, rfl, rfl⟩ | ⟨rfl, rfl, rfl⟩ | ⟨rfl, rfl, rfl⟩
    · rw [cof_11 (by simp [K_nw])] at he
      cases he
      have hcA : cA = X.dA 0 := arr_same C.2.2.2.2.2.1 (t0 := 0) rfl (by simp) hNm
      subst hcA
      show H1[H.size]? = some (vp_cell _ _)
      rw [e1]
      simp [newarray.typeOf, defaultValue, vp_cell_i, N_nw, AI_nw]
    · rw [cof_12 (by simp [K_nw])] at he
      cases he
      have hcA : cA = X.dA 1 := arr_same C.2.2.2.2.2.1 (t0 := 1) rfl (by simp) hNm
      subst hcA
      show H1[H.size]? = some (vp_cell _ _)
      rw [e1]
      simp [newarray.typeOf, defaultValue, vp_cell_i, N_nw, AI_nw]
    · rw [cof_15 (by simp [K_nw])] at he
      cases he
      have hcA : cA = X.dA 4 := arr_same C.2.2.2.2.2.1 (t0 := 4) rfl (by simp) hNm
      subst hcA
      show H1[H.size]? = some (vp_cell _ _)
      rw [e1]
      simp [newarray.typeOf, defaultValue, vp_cell_l, N_nw, AL_nw]
  obtain ⟨f0, hok⟩ := q.new (k := k) (n := n.toNatClampNeg) (H1 := H1) (Nat.le_trans C.2.2.2.2.2.2.1 b.1) (by omega) hcell z1 o1
  exact kk H.size f0 H1 locs sl hok ⟨Nat.le_trans b.1 (by omega), fun x h1 h2 => (o1 x (Nat.lt_of_lt_of_le h1 b.1)).trans (b.2.1 x h1 h2), b.2.2⟩ c
theorem st_anewarray (C : Cx X own cc) {idx : Nat} {R : String} (k t0 : Nat) (hkt : (k = 13 ∧ t0 = 2 ∧ R = RX0) ∨ (k = 14 ∧ t0 = 3 ∧ R = RX2)) (hw : Cond.classLink own idx R ∈ gw) (hd : decode cc pc = .ok (.anewarray idx, 3)) {n : Int32} (hn : ¬ n < 0) (hb : n.toNatClampNeg ≤ 60000000) (hrc : cells + 1 ≤ X.Rm.cells) (hrs : slots + n.toNatClampNeg ≤ X.Rm.slots)
    (kk : ∀ q, h.K q = 0 → At X (cells + 1) (slots + n.toNatClampNeg) (pc + 3) ls (.ref q :: st) (h.nw q k n.toNatClampNeg)) : At X cells slots pc ls (.int n :: st) h := by
  intro H locs sl q b c
  have hover : va_AO R X.s := by
    rcases hkt with ⟨-, -, rfl⟩ | ⟨-, -, rfl⟩
    · exact C.2.2.2.2.2.2.2.2.1
    · exact C.2.2.2.2.2.2.2.2.2.1
  refine W.anew C.1 C.2.1 C.2.2.2.1 (C.2.2.2.2.1 _ hw) (va_AO.use hover) rfl hd rfl hn (by omega) hrc hrs fun cA kA comp f1 f2 f3 f4 => ?_
  generalize hH1 : H.push ({ cls := cA, slots := Array.replicate n.toNatClampNeg .null, vm := .none } : Cell) = H1
  have z1 : H1.size = H.size + 1 := by rw [← hH1, Array.size_push]
  have e1 : H1[H.size]? = some (arrV cA n.toNatClampNeg (fun _ => .null)) := by rw [← hH1, Array.getElem?_push_size, ← arrV_new]
  have o1 : ∀ q : Nat, q < H.size → H1[q]? = H[q]? := fun q hq => by rw [← hH1, Array.getElem?_push, if_neg (Nat.ne_of_lt hq)]
  have hcell : ∀ e2, cof X.dA (h.nw H.size k n.toNatClampNeg) H.size = some e2 → va_at X.D gcls (H.size, e2) H1 := by
    intro e2 he
    rcases hkt with ⟨rfl, rfl, rfl⟩ | ⟨rfl, rfl, rfl⟩
    · rw [cof_13 (by simp [K_nw])] at he
      cases he
      obtain ⟨_, _, _, _, _, hz⟩ := (C.2.2.2.2.2.1.2 2 _ rfl).2
      have hcA : cA = X.dA 2 := Option.some.inj (f1.symm.trans hz)
      subst hcA
      show H1[H.size]? = some (vp_cell _ _)
      rw [e1]
      simp [vp_cell_q, N_nw, AR_nw, va_rf]
    · rw [cof_14 (by simp [K_nw])] at he
      cases he
      obtain ⟨_, _, _, _, _, hz⟩ := (C.2.2.2.2.2.1.2 3 _ rfl).2
      have hcA : cA = X.dA 3 := Option.some.inj (f1.symm.trans hz)
      subst hcA
      show H1[H.size]? = some (vp_cell _ _)
      rw [e1]
      simp [vp_cell_q, N_nw, AR_nw, va_rf]
  obtain ⟨f0, hok⟩ := q.new (k := k) (n := n.toNatClampNeg) (H1 := H1) (Nat.le_trans C.2.2.2.2.2.2.1 b.1) (by omega) hcell z1 o1
  exact kk H.size f0 H1 locs sl hok ⟨Nat.le_trans b.1 (by omega), fun x h1 h2 => (o1 x (Nat.lt_of_lt_of_le h1 b.1)).trans (b.2.1 x h1 h2), b.2.2⟩ c
theorem st_objInit (C : Cx X own cc) {idx a : Nat} (hw : Cond.methodLink own idx Lib.objectInit ∈ gw) (hw2 : Cond.instanceMethod Lib.objectInit ∈ gw) (hw3 : Cond.code Lib.objectInit ⟨#[0xb1]⟩ 1 none ∈ gw) (hd : decode cc pc = .ok (.invokespecial idx, 3)) (hr1 : 1 ≤ X.Rm.frames) (hr2 : (st.map fun v => v.category).sum + 12 ≤ X.Rm.locals) (kk : At X cells slots (pc + 3) ls st h) : At X cells slots pc ls (.ref a :: st) h := by
  intro H locs sl q b c
  exact W.objInit C.1 C.2.1 C.2.2.2.1 (C.2.2.2.2.1 _ hw) (C.2.2.2.2.1 _ hw2) (C.2.2.2.2.1 _ hw3) rfl (c.1.trans C.2.2.1.symm) rfl hd hr1 (by show 2 * 0 + _ + 12 ≤ _; omega) (kk H locs sl q b c)
end ATA
end
section
/-! CONTRACTS over the heap -/
def Wd (D : va_G) (dA : Nat → ClassId) (base : Nat) (h : Hp) (U : State) : Prop := Hok D dA base h U U.heap ∧ va_K D gcls (gtys dA) U ∧ base ≤ U.heap.size ∧ Ext base U U.heap
theorem va_Nw.movedM {own C : String} {idx : Nat} {y : MethodName} {s U : State} (hW : s.WarmedH U.vm) (h : va_Nw (.methodLinkNest own idx y C) s) : va_Nw (.methodLinkNest own idx y C) U := va_Nw.warmM hW h
theorem Ext.warm {base : Nat} {s U : State} {H H1 : Heap} (hW : s.WarmedH U.vm) (hq : ∀ q : Nat, q < H.size → q < base → H1[q]? = H[q]?) (h : Ext base s H) : Ext base U H1 := ⟨va_AO.moved hW.alike h.1, va_AO.moved hW.alike h.2.1, va_Nw.warmM hW h.2.2⟩
def Qcx (D : va_G) (dA : Nat → ClassId) (base : Nat) (post : Option Value → Hp → Prop) : Array Value → State → Outcome → State → Prop := fun _ st o t =>
  (∃ v h', o = .returned v ∧ post v h' ∧ Wd D dA base h' t) ∧ va_F (fun q => base ≤ q) st t
abbrev MD : Type := MethodName × ByteArray × Nat × Option FieldType
def mws (M : MD) : List Cond := .code M.1 M.2.1 M.2.2.1 M.2.2.2 :: gw
def rmd (d mc ms : Nat) : Room := { frames := d, cells := mc, slots := ms, locals := 30 * d }
def Ct (M : MD) (d mc ms : Nat) (av : List Value) (h : Hp) (post : Option Value → Hp → Prop) : Prop :=
  ∀ (l : Launch) (D : va_G) (dA : Nat → ClassId) (base : Nat), l.stackTraces = false → Met l M.1 (mws M) (rmd d mc ms) (va_Pc av (Wd D dA base h)) (Qcx D dA base post) mc ms (fun q => base ≤ q)
theorem Wd.blind (D : va_G) (dA : Nat → ClassId) (base : Nat) (h : Hp) (av : List Value) : FrameBlind (va_Pc av (Wd D dA base h)) := fun a U g mk q => by
  obtain ⟨q1, q2, q3, q4, q5⟩ := q
  exact ⟨q1, Hok.moved (u := U) (Vm.Alike.refl U.vm) q2, va_K.moved (u := U) (U := U.calling g mk a) (Vm.Alike.refl U.vm) q3, q4, Ext.warm (s := U) (U := U.calling g mk a) (H := U.heap) (State.WarmedH.refl U) (fun _ _ _ => rfl) q5⟩
theorem Ct.weak {M : MD} {d mc ms : Nat} {av : List Value} {h : Hp} {post post' : Option Value → Hp → Prop} (hc : Ct M d mc ms av h post) (hp : ∀ v h', post v h' → post' v h') : Ct M d mc ms av h post' := by
  intro l D dA base hl
  have h1 := hc l D dA base hl
  intro p e a1 a2 a3 s m args below a4 a5 a6 a7
  obtain ⟨k, o, b1, b2, b3, ⟨⟨⟨v, h', c1, c2, c3⟩, c4⟩, c5⟩⟩ := h1 p e a1 a2 a3 s m args below a4 a5 a6 a7
  exact ⟨k, o, b1, b2, b3, ⟨⟨⟨v, h', c1, hp v h' c2, c3⟩, c4⟩, c5⟩⟩
/-- what a walk knows of its method -/
def Cm (X : CX) (M : MD) (d mc ms : Nat) (post : Option Value → Hp → Prop) : Prop :=
  Cx X M.1.cls M.2.1 ∧ X.nL = M.2.2.1 ∧ X.Rm = rmd d mc ms ∧ X.meth.sig.returnType = M.2.2.2 ∧ X.meth.name = M.1.name ∧ X.Q = MQ X.below (Qcx X.D X.dA X.base post) X.args X.s mc ms (fun q => X.base ≤ q) ∧ X.l.stackTraces = false
theorem lv_args1 : ∀ (av : List Value) (k : Nat), (∀ v ∈ av, v.category = 1) → ∀ (i : Nat) (v : Value), av[i]? = some v → (k + i, v) ∈ lv_args k av
  | [], _, _, i, v, h => by simp at h
  | w :: r, k, hc, i, v, h => by
    have hw : ¬ w.category = 2 := by rw [hc w List.mem_cons_self]; decide
    rw [lv_args, if_neg hw]
    match i, h with
    | 0, h => simp at h; subst h; exact List.mem_cons_self
    | j + 1, h =>
      simp at h
      have := lv_args1 r (k + 1) (fun v hv => hc v (List.mem_cons_of_mem _ hv)) j v h
      rw [show k + 1 + j = k + (j + 1) by omega] at this
      exact List.mem_cons_of_mem _ this
theorem lg_sl1 : ∀ (av : List Value), (∀ v ∈ av, v.category = 1) → (lg_sl av).length = av.length
  | [], _ => rfl
  | w :: r, hc => by
    have hw := hc w List.mem_cons_self
    have := lg_sl1 r (fun v hv => hc v (List.mem_cons_of_mem _ hv))
    cases w <;> simp_all [lg_sl, Value.category]
def ent (av : List Value) (n : Nat) : List (Option Value) := av.map some ++ List.replicate (n - av.length) none
theorem Ct.of {M : MD} {d mc ms : Nat} {av : List Value} {h : Hp} {post : Option Value → Hp → Prop} (hy : plainName M.1.cls = true) (hav : av.length ≤ M.2.2.1) (hc1 : ∀ v ∈ av, v.category = 1)
    (body : ∀ X, Cm X M d mc ms post → At X 0 0 0 (ent av M.2.2.1) [] h) : Ct M d mc ms av h post := by
  intro l D dA base hl
  refine Met.ofW (cc := M.2.1) (maxL := M.2.2.1) (ret := M.2.2.2) hy rfl ?_
  intro p e s m args below meth c s₁ B hml hv
  obtain ⟨rfl, hH, hK, hB, hE⟩ := hv
  have hts : ∀ w ∈ gw, w.before av.toArray s = true := fun w hw => atoms_spec (ws := mws M) B.pre w (List.mem_cons_of_mem _ hw)
  have key := body ((p, l, e, rmd d mc ms, s, m, av.toArray), (below, meth, c, MQ below (Qcx D dA base post) av.toArray s mc ms (fun q => base ≤ q)), (D, dA, base, M.2.2.1))
    ⟨⟨B.exec, B.bytes, hml, findClass_of_methodNamed B.named, hts, hK, hB, B.notSynchronized, hE⟩, rfl, rfl, B.returns, (name_of_methodNamed B.named B.method).1, rfl, hl⟩
  rw [lg_entry_eq]
  have hlen := lg_sl1 av hc1
  have hl9 := lv_entry av (n := M.2.2.1) (by rw [hlen]; exact hav)
  refine key s.heap [] _ hH va_S.rf ⟨hl9.1, hl9.2.1, fun i v hi => ?_⟩
  have hi2 : av[i]? = some v := by
    unfold ent at hi
    by_cases hlt : i < av.length
    · rw [List.getElem?_append_left (by simpa using hlt), List.getElem?_map] at hi
      cases hx : av[i]? with
      | none => rw [hx] at hi; cases hi
      | some w => rw [hx] at hi; simp at hi; rw [hi]
    · rw [List.getElem?_append_right (by simpa using hlt), List.getElem?_replicate] at hi
      split at hi <;> simp at hi
  have := hl9.2.2 (0 + i, v) (lv_args1 av 0 hc1 i v hi2)
  simpa using this
section RET
variable {X : CX} {M : MD} {d mc ms : Nat} {post : Option Value → Hp → Prop} {cells slots pc : Nat} {ls : List (Option Value)} {h : Hp}
theorem ret_W {H : Heap} {locs : List Loc} (C : Cm X M d mc ms post) (q : Hok X.D X.dA X.base h X.s H) (b : va_S (fun q => X.base ≤ q) X.s.heap H locs) {v : Option Value} (hp : post v h) (t : State) (ht : t.heap = H) (hW : X.s.WarmedH t.vm) : Qcx X.D X.dA X.base post X.args X.s (.returned v) t := by
  subst ht
  have hE := C.1.2.2.2.2.2.2.2.2
  exact ⟨⟨v, h, rfl, hp, q.moved hW.alike, va_K.moved hW.alike C.1.2.2.2.2.2.1, Nat.le_trans C.1.2.2.2.2.2.2.1 b.1, hE.warm hW (fun x h1 h2 => b.2.1 x h1 (Nat.not_le.mpr h2))⟩, b.F rfl⟩
theorem rt_i (C : Cm X M d mc ms post) {v : Int32} (hr : M.2.2.2 = some .int ∨ (M.2.2.2 = some .boolean ∧ (v = 0 ∨ v = 1))) (hd : decode M.2.1 pc = .ok (.ireturn, 1)) (hc : cells ≤ mc) (hs : slots ≤ ms) (hp : post (some (.int v)) h) : At X cells slots pc ls [.int v] h := by
  intro H locs sl q b c
  obtain ⟨C1, -, -, hret, -, hQ, -⟩ := id C
  rw [hQ]
  refine W.widen hc hs ?_
  rcases hr with hr | ⟨hr, hv⟩
  · exact W.iret C1.1 C1.2.1 (hret.trans hr) (ret_W C q b hp) b.2.2 hd C1.2.2.2.2.2.2.2.1
  · exact W.zret C1.1 C1.2.1 (hret.trans hr) (by rcases hv with rfl | rfl <;> decide) (ret_W C q b hp) b.2.2 hd C1.2.2.2.2.2.2.2.1
theorem rt_v (C : Cm X M d mc ms post) (hr : M.2.2.2 = none) (hd : decode M.2.1 pc = .ok (.return_, 1)) (hc : cells ≤ mc) (hs : slots ≤ ms) (hp : post none h) : At X cells slots pc ls [] h := by
  intro H locs sl q b c
  obtain ⟨C1, -, -, hret, -, hQ, -⟩ := id C
  rw [hQ]
  refine W.widen hc hs ?_
  exact W.vret C1.1 C1.2.1 (hret.trans hr) (ret_W C q b hp) b.2.2 hd C1.2.2.2.2.2.2.2.1
theorem rt_a (C : Cm X M d mc ms post) (o : Option Nat) {R : String} (hr : M.2.2.2 = some (.object R)) (hd : decode M.2.1 pc = .ok (.areturn, 1)) (hc : cells ≤ mc) (hs : slots ≤ ms) (hp : post (some (va_rf o)) h) : At X cells slots pc ls [va_rf o] h := by
  intro H locs sl q b c
  obtain ⟨C1, -, -, hret, -, hQ, -⟩ := id C
  rw [hQ]
  refine W.widen hc hs ?_
  exact W.aret C1.1 C1.2.1 (hret.trans hr) (Or.inl ⟨R, rfl⟩) (by cases o <;> simp [va_rf]) (ret_W C q b hp) b.2.2 hd C1.2.2.2.2.2.2.2.1
end RET
section CALL
variable {X : CX} {own : String} {cc : ByteArray} {cells slots pc : Nat} {ls : List (Option Value)} {rest : List Value} {h : Hp} {M : MD} {d d0 mc ms : Nat} {post : Option Value → Hp → Prop}
theorem Qcx.go (C : Cx X own cc) {H : Heap} {locs : List Loc} {sl : Array Slot} {st0 : List Value} {a : Array Value}
    (hr : va_Run X.p X.l X.e X.Rm X.s X.m X.args X.below X.meth X.c H locs cells slots mc ms (F0 X.m pc sl st0) rest (Qcx X.D X.dA X.base post a) (fun q => X.base ≤ q)) (b : va_S (fun q => X.base ≤ q) X.s.heap H locs) (c : lh sl X.nL ls)
    (kk : ∀ v h', post v h' → At X (cells + mc) (slots + ms) (pc + 3) ls (v.toList ++ rest) h') : W X.p X.l X.e X.Rm X.s X.m X.args X.below X.meth X.c H locs cells slots X.Q (F0 X.m pc sl st0) := by
  intro T hT Y
  obtain ⟨v, st₀, t, T', L, h0, Y', hL, e1, e2, ⟨⟨v', h', hv, hp, hw⟩, hz, hk⟩, stp⟩ := hr T hT Y
  cases hv
  rw [h0] at hz hk
  have hWm : X.s.vm.Alike t.vm := by rw [← e2]; exact Y'.warmed.alike
  obtain ⟨t2, a1, b1⟩ := kk v h' hp T'.heap (locs ++ L) sl (by rw [e1]; exact hw.1.moved hWm.symm)
    ⟨Nat.le_trans b.1 (by rw [e1]; exact hz), fun q h1 h2 => by rw [e1, hk q (Nat.lt_of_lt_of_le h1 b.1) h2]; exact b.2.1 q h1 h2, fun q hq => by
      rcases List.mem_append.mp hq with h | h
      · exact b.2.2 q h
      · exact hL q h⟩ c T' rfl Y'
  exact ⟨t2, stp t2 a1, b1⟩
theorem Wd.at (C : Cx X own cc) {H : Heap} {locs : List Loc} (q : Hok X.D X.dA X.base h X.s H) (b : va_S (fun q => X.base ≤ q) X.s.heap H locs) (U : State) (hU : U.heap = H) (hW : X.s.WarmedH U.vm) : Wd X.D X.dA X.base h U := by
  subst hU
  exact ⟨q.moved hW.alike, va_K.moved hW.alike C.2.2.2.2.2.1, Nat.le_trans C.2.2.2.2.2.2.1 b.1, C.2.2.2.2.2.2.2.2.warm hW (fun x h1 h2 => b.2.1 x h1 (Nat.not_le.mpr h2))⟩
theorem mws_in (hw : Cond.code M.1 M.2.1 M.2.2.1 M.2.2.2 ∈ gw) : ∀ w ∈ mws M, w ∈ gw := fun w h => (List.mem_cons.mp h).elim (fun e => by rw [e]; exact hw) id
/-- the callee, its place, its words -/
def cOk (own : String) (idx n : Nat) (M : MD) : Prop := Cond.methodLink own idx M.1 ∈ gw ∧ Cond.code M.1 M.2.1 M.2.2.1 M.2.2.2 ∈ gw ∧ Cond.initialized M.1.cls ∈ gw ∧ (M.1.cls ≠ "java/lang/invoke/MethodHandle" ∧ M.1.cls ≠ "java/lang/invoke/VarHandle" ∧ (parseMethodDescriptor M.1.desc).map (fun d => d.parameters.length) = some n) ∧ M.2.2.1 ≤ 11
theorem st_callV (C : Cx X own cc) {idx n b ci : Nat} {As : List Value} {R : String} {T : u_T} {N : Nat} {mc0 ms0 : Nat} (hR : X.Rm = rmd d0 mc0 ms0) (hl : X.l.stackTraces = false) (hok : cOk own idx n M) (hw1 : Cond.instanceMethod M.1 ∈ gw) (hw2 : Cond.selects R M.1 M.1 ∈ gw) (hc : gcls[ci]? = some (R, T, N)) (hyc : M.1.cls = R) (hci : ci < 10) (hd : decode cc pc = .ok (.invokevirtual idx, 3)) (hn : As.length = n) (hdd : d < d0) (hcat : (rest.map fun v => v.category).sum ≤ 8)
    (hK : h.K b = ci + 1) (hct : Ct M d mc ms (.ref b :: As) h post) (hmc : cells + mc ≤ mc0) (hms : slots + ms ≤ ms0)
    (kk : ∀ v h', post v h' → At X (cells + mc) (slots + ms) (pc + 3) ls (v.toList ++ rest) h') : At X cells slots pc ls (As.reverse ++ .ref b :: rest) h := by
  intro H locs sl q bb c
  obtain ⟨k1, k2, k3, k4, k5⟩ := hok
  refine Qcx.go C (va_runV (As := As) (rest := rest) (Ts := gw) ⟨C.1, C.2.1, C.2.2.1, C.2.2.2.1, C.2.2.2.2.1⟩ (hct X.l X.D X.dA X.base hl) (cwV n C.2.2.2.2.1 (gw_good (fun w hw => ?_)) rfl rfl rfl ⟨hyc, k4⟩ ⟨?_, ?_⟩) ⟨Wd.blind _ _ _ _ _, va_recv C.2.2.2.2.2.1 (va1 (q.1 b _ (cof_ob hK hci)).2) hc (q0 := 0) rfl, fun U hU hW => ⟨rfl, Wd.at C q bb U hU hW⟩⟩ rfl hn c.1 rfl (lv_room hcat) hd ⟨?_, ?_⟩) bb c kk
  · unfold wsV at hw
    rcases List.mem_append.mp hw with h1 | h1
    · simp only [List.mem_cons, List.not_mem_nil, or_false] at h1
      rcases h1 with rfl | rfl | rfl | rfl
      · exact k1
      · exact hw1
      · exact hw2
      · rw [← hyc]; exact k3
    · exact mws_in k2 w h1
  · rw [hR]; show d + 1 ≤ d0; omega
  · rw [hR]; show 8 + (M.2.2.1 + 11) + 30 * d ≤ 30 * d0; omega
  · rw [hR]; exact hmc
  · rw [hR]; exact hms
theorem st_callS (C : Cx X own cc) {idx n : Nat} {As : List Value} {mc0 ms0 : Nat} (hR : X.Rm = rmd d0 mc0 ms0) (hl : X.l.stackTraces = false) (hok : cOk own idx n M) (hw1 : Cond.static M.1 ∈ gw) (hd : decode cc pc = .ok (.invokestatic idx, 3)) (hn : As.length = n) (hdd : d < d0) (hcat : (rest.map fun v => v.category).sum ≤ 8)
    (hct : Ct M d mc ms As h post) (hmc : cells + mc ≤ mc0) (hms : slots + ms ≤ ms0)
    (kk : ∀ v h', post v h' → At X (cells + mc) (slots + ms) (pc + 3) ls (v.toList ++ rest) h') : At X cells slots pc ls (As.reverse ++ rest) h := by
  intro H locs sl q bb c
  obtain ⟨k1, k2, k3, k4, k5⟩ := hok
  refine Qcx.go C (va_runS (As := As) (rest := rest) (Ts := gw) ⟨C.1, C.2.1, C.2.2.1, C.2.2.2.1, C.2.2.2.2.1⟩ (hct X.l X.D X.dA X.base hl) (va_cwS n C.2.2.2.2.1 (gw_good (fun w hw => ?_)) rfl rfl rfl k4 ⟨?_, ?_⟩) ⟨Wd.blind _ _ _ _ _, fun U hU hW => ⟨rfl, Wd.at C q bb U hU hW⟩⟩ rfl hn c.1 rfl (lv_room hcat) hd ⟨?_, ?_⟩) bb c kk
  · unfold va_wsS at hw
    rcases List.mem_append.mp hw with h1 | h1
    · simp only [List.mem_cons, List.not_mem_nil, or_false] at h1
      rcases h1 with rfl | rfl | rfl
      · exact k1
      · exact hw1
      · exact k3
    · exact mws_in k2 w h1
  · rw [hR]; show d + 1 ≤ d0; omega
  · rw [hR]; show 8 + (M.2.2.1 + 11) + 30 * d ≤ 30 * d0; omega
  · rw [hR]; exact hmc
  · rw [hR]; exact hms
theorem st_callI (C : Cx X own cc) {idx n b : Nat} {As : List Value} {y : MethodName} {cb : ByteArray} {mL : Nat} {mc0 ms0 : Nat} (hR : X.Rm = rmd d0 mc0 ms0) (hl : X.l.stackTraces = false) (hM : M = (y, cb, mL, none)) (hok : cOk own idx n M) (hw1 : Cond.instanceMethod M.1 ∈ gw) (hy1 : M.1.name = "<init>") (hd : decode cc pc = .ok (.invokespecial idx, 3)) (hn : As.length = n) (hdd : d < d0) (hcat : (rest.map fun v => v.category).sum ≤ 8)
    (hct : Ct M d mc ms (.ref b :: As) h post) (hmc : cells + mc ≤ mc0) (hms : slots + ms ≤ ms0)
    (kk : ∀ v h', post v h' → At X (cells + mc) (slots + ms) (pc + 3) ls (v.toList ++ rest) h') : At X cells slots pc ls (As.reverse ++ .ref b :: rest) h := by
  intro H locs sl q bb c
  subst hM
  obtain ⟨k1, k2, k3, k4, k5⟩ := hok
  refine Qcx.go C (va_runI (As := As) (rest := rest) (Ts := gw) ⟨C.1, C.2.1, C.2.2.1, C.2.2.2.1, C.2.2.2.2.1⟩ (hct X.l X.D X.dA X.base hl) (cwI n C.2.2.2.2.1 (gw_good (mws_in k2)) rfl rfl rfl (C.2.2.2.2.1 _ k3) (C.2.2.2.2.1 _ k1) (C.2.2.2.2.1 _ hw1) hy1 k4 ⟨?_, ?_⟩) ⟨Wd.blind _ _ _ _ _, fun U hU hW => ⟨rfl, Wd.at C q bb U hU hW⟩⟩ rfl hn c.1 rfl (lv_room hcat) hd ⟨?_, ?_⟩) bb c kk
  · rw [hR]; show d + 1 ≤ d0; omega
  · rw [hR]; show 8 + (mL + 11) + 30 * d ≤ 30 * d0
    have : mL ≤ 11 := k5
    omega
  · rw [hR]; exact hmc
  · rw [hR]; exact hms
/-- the constructor of the queue: a nest mate's -/
theorem st_callIN (C : Cx X own cc) {idx n b : Nat} {As : List Value} {y : MethodName} {cb : ByteArray} {mL : Nat} {mc0 ms0 : Nat} {host : String} (hR : X.Rm = rmd d0 mc0 ms0) (hl : X.l.stackTraces = false) (hM : M = (y, cb, mL, none)) (hnest : va_Nw (.methodLinkNest own idx M.1 host) X.s) (hok : Cond.code M.1 M.2.1 M.2.2.1 M.2.2.2 ∈ gw ∧ Cond.initialized M.1.cls ∈ gw ∧ (M.1.cls ≠ "java/lang/invoke/MethodHandle" ∧ M.1.cls ≠ "java/lang/invoke/VarHandle" ∧ (parseMethodDescriptor M.1.desc).map (fun d => d.parameters.length) = some n) ∧ M.2.2.1 ≤ 11) (hw1 : Cond.instanceMethod M.1 ∈ gw) (hy1 : M.1.name = "<init>") (hd : decode cc pc = .ok (.invokespecial idx, 3)) (hn : As.length = n) (hdd : d < d0) (hcat : (rest.map fun v => v.category).sum ≤ 8)
    (hct : Ct M d mc ms (.ref b :: As) h post) (hmc : cells + mc ≤ mc0) (hms : slots + ms ≤ ms0)
    (kk : ∀ v h', post v h' → At X (cells + mc) (slots + ms) (pc + 3) ls (v.toList ++ rest) h') : At X cells slots pc ls (As.reverse ++ .ref b :: rest) h := by
  intro H locs sl q bb c
  subst hM
  obtain ⟨k2, k3, k4, k5⟩ := hok
  refine Qcx.go C (va_runIN (As := As) (rest := rest) (Ts := gw) ⟨C.1, C.2.1, C.2.2.1, C.2.2.2.1, C.2.2.2.2.1⟩ (hct X.l X.D X.dA X.base hl) ⟨va_cnB n C.2.2.2.2.1 (gw_good (mws_in k2)) rfl rfl rfl hnest (C.2.2.2.2.1 _ k3) k4 ⟨?_, ?_⟩, hy1, C.2.2.2.2.1 _ hw1⟩ ⟨Wd.blind _ _ _ _ _, fun U hU hW => ⟨rfl, Wd.at C q bb U hU hW⟩⟩ rfl hn c.1 rfl (lv_room hcat) hd ⟨?_, ?_⟩) bb c kk
  · rw [hR]; show d + 1 ≤ d0; omega
  · rw [hR]; show 8 + (mL + 11) + 30 * d ≤ 30 * d0
    have : mL ≤ 11 := k5
    omega
  · rw [hR]; exact hmc
  · rw [hR]; exact hms
end CALL
end
section
theorem zz_end : True := trivial
end

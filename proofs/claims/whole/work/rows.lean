section
-- ===== PART A: goes FIRST, ahead of the names: the tables' words, and 'selects' of the private methods out of them =====
/-- a private method of a class that the tables say can be made, by its rows of tables_1 -/
def lw_okq (q : MethodName × Nat) : Prop := (q.1.cls ≠ "java/lang/invoke/MethodHandle" ∧ q.1.cls ≠ "java/lang/invoke/VarHandle") ∧ Cond.instantiable q.1.cls q.2 ∈ tables_1 ∧ Cond.privateMethod q.1 ∈ tables_1 ∧ Cond.instanceMethod q.1 ∈ tables_1
theorem lw_p0 : lw_okq (⟨"ChurchLodge$Plan", "isReadBefore", "(I)Z"⟩, 7) := ⟨⟨by decide +kernel, by decide +kernel⟩, List.mem_of_getElem? (i := 28) (by decide +kernel), List.mem_of_getElem? (i := 300) (by decide +kernel), List.mem_of_getElem? (i := 301) (by decide +kernel)⟩
theorem lw_p1 : lw_okq (⟨"ChurchLodge", "stands", "()Z"⟩, 13) := ⟨⟨by decide +kernel, by decide +kernel⟩, List.mem_of_getElem? (i := 20) (by decide +kernel), List.mem_of_getElem? (i := 336) (by decide +kernel), List.mem_of_getElem? (i := 337) (by decide +kernel)⟩
theorem lw_p2 : lw_okq (⟨"ChurchLodge$Stress", "passDown", "(LChurchLodge$Part;I)V"⟩, 2) := ⟨⟨by decide +kernel, by decide +kernel⟩, List.mem_of_getElem? (i := 62) (by decide +kernel), List.mem_of_getElem? (i := 357) (by decide +kernel), List.mem_of_getElem? (i := 358) (by decide +kernel)⟩
theorem lw_p3 : lw_okq (⟨"ChurchLodge$Stress", "pushAside", "(LChurchLodge$Part;I)V"⟩, 2) := ⟨⟨by decide +kernel, by decide +kernel⟩, List.mem_of_getElem? (i := 62) (by decide +kernel), List.mem_of_getElem? (i := 365) (by decide +kernel), List.mem_of_getElem? (i := 366) (by decide +kernel)⟩
theorem lw_p4 : lw_okq (⟨"ChurchLodge", "hindranceOfCourse", "(ILChurchLodge$Part;)I"⟩, 13) := ⟨⟨by decide +kernel, by decide +kernel⟩, List.mem_of_getElem? (i := 20) (by decide +kernel), List.mem_of_getElem? (i := 377) (by decide +kernel), List.mem_of_getElem? (i := 378) (by decide +kernel)⟩
theorem lw_p5 : lw_okq (⟨"ChurchLodge", "statuteInForce", "()I"⟩, 13) := ⟨⟨by decide +kernel, by decide +kernel⟩, List.mem_of_getElem? (i := 20) (by decide +kernel), List.mem_of_getElem? (i := 395) (by decide +kernel), List.mem_of_getElem? (i := 396) (by decide +kernel)⟩
theorem lw_p6 : lw_okq (⟨"ChurchLodge", "nameMonth", "()V"⟩, 13) := ⟨⟨by decide +kernel, by decide +kernel⟩, List.mem_of_getElem? (i := 20) (by decide +kernel), List.mem_of_getElem? (i := 399) (by decide +kernel), List.mem_of_getElem? (i := 400) (by decide +kernel)⟩
theorem lw_p7 : lw_okq (⟨"ChurchLodge$Reckoner", "meaningOf", "(I)I"⟩, 2) := ⟨⟨by decide +kernel, by decide +kernel⟩, List.mem_of_getElem? (i := 121) (by decide +kernel), List.mem_of_getElem? (i := 500) (by decide +kernel), List.mem_of_getElem? (i := 501) (by decide +kernel)⟩
theorem lw_p8 : lw_okq (⟨"ChurchLodge", "coinsFor", "(ILChurchLodge$Part;)I"⟩, 13) := ⟨⟨by decide +kernel, by decide +kernel⟩, List.mem_of_getElem? (i := 20) (by decide +kernel), List.mem_of_getElem? (i := 511) (by decide +kernel), List.mem_of_getElem? (i := 512) (by decide +kernel)⟩
theorem lw_p9 : lw_okq (⟨"ChurchLodge", "findGift", "(I)LChurchLodge$Gift;"⟩, 13) := ⟨⟨by decide +kernel, by decide +kernel⟩, List.mem_of_getElem? (i := 20) (by decide +kernel), List.mem_of_getElem? (i := 519) (by decide +kernel), List.mem_of_getElem? (i := 520) (by decide +kernel)⟩
theorem lw_p10 : lw_okq (⟨"ChurchLodge", "fallByCourse", "(LChurchLodge$Part;)I"⟩, 13) := ⟨⟨by decide +kernel, by decide +kernel⟩, List.mem_of_getElem? (i := 20) (by decide +kernel), List.mem_of_getElem? (i := 528) (by decide +kernel), List.mem_of_getElem? (i := 529) (by decide +kernel)⟩
theorem lw_p11 : lw_okq (⟨"ChurchLodge", "payFor", "(ILChurchLodge$Part;)V"⟩, 13) := ⟨⟨by decide +kernel, by decide +kernel⟩, List.mem_of_getElem? (i := 20) (by decide +kernel), List.mem_of_getElem? (i := 532) (by decide +kernel), List.mem_of_getElem? (i := 533) (by decide +kernel)⟩
theorem lw_p12 : lw_okq (⟨"ChurchLodge$Tape", "openSign", "(I)V"⟩, 6) := ⟨⟨by decide +kernel, by decide +kernel⟩, List.mem_of_getElem? (i := 95) (by decide +kernel), List.mem_of_getElem? (i := 608) (by decide +kernel), List.mem_of_getElem? (i := 609) (by decide +kernel)⟩
theorem lw_p13 : lw_okq (⟨"ChurchLodge$Tape", "keep", "(I)V"⟩, 6) := ⟨⟨by decide +kernel, by decide +kernel⟩, List.mem_of_getElem? (i := 95) (by decide +kernel), List.mem_of_getElem? (i := 612) (by decide +kernel), List.mem_of_getElem? (i := 613) (by decide +kernel)⟩
theorem lw_p14 : lw_okq (⟨"ChurchLodge$Tape", "readLeaf", "(I)I"⟩, 6) := ⟨⟨by decide +kernel, by decide +kernel⟩, List.mem_of_getElem? (i := 95) (by decide +kernel), List.mem_of_getElem? (i := 616) (by decide +kernel), List.mem_of_getElem? (i := 617) (by decide +kernel)⟩
theorem lw_p15 : lw_okq (⟨"ChurchLodge$Tape", "readNumber", "(I)I"⟩, 6) := ⟨⟨by decide +kernel, by decide +kernel⟩, List.mem_of_getElem? (i := 95) (by decide +kernel), List.mem_of_getElem? (i := 620) (by decide +kernel), List.mem_of_getElem? (i := 621) (by decide +kernel)⟩
def lw_privs_1 : List (MethodName × Nat) := [(⟨"ChurchLodge$Plan", "isReadBefore", "(I)Z"⟩, 7), (⟨"ChurchLodge", "stands", "()Z"⟩, 13), (⟨"ChurchLodge$Stress", "passDown", "(LChurchLodge$Part;I)V"⟩, 2), (⟨"ChurchLodge$Stress", "pushAside", "(LChurchLodge$Part;I)V"⟩, 2), (⟨"ChurchLodge", "hindranceOfCourse", "(ILChurchLodge$Part;)I"⟩, 13), (⟨"ChurchLodge", "statuteInForce", "()I"⟩, 13), (⟨"ChurchLodge", "nameMonth", "()V"⟩, 13), (⟨"ChurchLodge$Reckoner", "meaningOf", "(I)I"⟩, 2), (⟨"ChurchLodge", "coinsFor", "(ILChurchLodge$Part;)I"⟩, 13), (⟨"ChurchLodge", "findGift", "(I)LChurchLodge$Gift;"⟩, 13), (⟨"ChurchLodge", "fallByCourse", "(LChurchLodge$Part;)I"⟩, 13), (⟨"ChurchLodge", "payFor", "(ILChurchLodge$Part;)V"⟩, 13), (⟨"ChurchLodge$Tape", "openSign", "(I)V"⟩, 6), (⟨"ChurchLodge$Tape", "keep", "(I)V"⟩, 6), (⟨"ChurchLodge$Tape", "readLeaf", "(I)I"⟩, 6), (⟨"ChurchLodge$Tape", "readNumber", "(I)I"⟩, 6)]
theorem lw_r1 : ∀ q ∈ lw_privs_1, lw_okq q := List.forall_mem_cons.mpr ⟨lw_p0, List.forall_mem_cons.mpr ⟨lw_p1, List.forall_mem_cons.mpr ⟨lw_p2, List.forall_mem_cons.mpr ⟨lw_p3, List.forall_mem_cons.mpr ⟨lw_p4, List.forall_mem_cons.mpr ⟨lw_p5, List.forall_mem_cons.mpr ⟨lw_p6, List.forall_mem_cons.mpr ⟨lw_p7, List.forall_mem_cons.mpr ⟨lw_p8, List.forall_mem_cons.mpr ⟨lw_p9, List.forall_mem_cons.mpr ⟨lw_p10, List.forall_mem_cons.mpr ⟨lw_p11, List.forall_mem_cons.mpr ⟨lw_p12, List.forall_mem_cons.mpr ⟨lw_p13, List.forall_mem_cons.mpr ⟨lw_p14, List.forall_mem_cons.mpr ⟨lw_p15, fun _ h => absurd h List.not_mem_nil⟩⟩⟩⟩⟩⟩⟩⟩⟩⟩⟩⟩⟩⟩⟩⟩
theorem lw_p16 : lw_okq (⟨"ChurchLodge$Tape", "closeSigns", "()Z"⟩, 6) := ⟨⟨by decide +kernel, by decide +kernel⟩, List.mem_of_getElem? (i := 95) (by decide +kernel), List.mem_of_getElem? (i := 628) (by decide +kernel), List.mem_of_getElem? (i := 629) (by decide +kernel)⟩
theorem lw_p17 : lw_okq (⟨"ChurchLodge", "loadOf", "(I)I"⟩, 13) := ⟨⟨by decide +kernel, by decide +kernel⟩, List.mem_of_getElem? (i := 20) (by decide +kernel), List.mem_of_getElem? (i := 692) (by decide +kernel), List.mem_of_getElem? (i := 693) (by decide +kernel)⟩
theorem lw_p18 : lw_okq (⟨"ChurchLodge", "pushToRightOn", "(I)I"⟩, 13) := ⟨⟨by decide +kernel, by decide +kernel⟩, List.mem_of_getElem? (i := 20) (by decide +kernel), List.mem_of_getElem? (i := 697) (by decide +kernel), List.mem_of_getElem? (i := 698) (by decide +kernel)⟩
theorem lw_p19 : lw_okq (⟨"ChurchLodge", "coinsRemaining", "()I"⟩, 13) := ⟨⟨by decide +kernel, by decide +kernel⟩, List.mem_of_getElem? (i := 20) (by decide +kernel), List.mem_of_getElem? (i := 753) (by decide +kernel), List.mem_of_getElem? (i := 754) (by decide +kernel)⟩
theorem lw_p20 : lw_okq (⟨"ChurchLodgeModel", "newPart", "(IIII)I"⟩, 47) := ⟨⟨by decide +kernel, by decide +kernel⟩, List.mem_of_getElem? (i := 757) (by decide +kernel), List.mem_of_getElem? (i := 916) (by decide +kernel), List.mem_of_getElem? (i := 917) (by decide +kernel)⟩
theorem lw_p21 : lw_okq (⟨"ChurchLodgeModel", "isPart", "(I)Z"⟩, 47) := ⟨⟨by decide +kernel, by decide +kernel⟩, List.mem_of_getElem? (i := 757) (by decide +kernel), List.mem_of_getElem? (i := 925) (by decide +kernel), List.mem_of_getElem? (i := 926) (by decide +kernel)⟩
theorem lw_p22 : lw_okq (⟨"ChurchLodgeModel", "support0", "(IIII)V"⟩, 47) := ⟨⟨by decide +kernel, by decide +kernel⟩, List.mem_of_getElem? (i := 757) (by decide +kernel), List.mem_of_getElem? (i := 929) (by decide +kernel), List.mem_of_getElem? (i := 930) (by decide +kernel)⟩
theorem lw_p23 : lw_okq (⟨"ChurchLodgeModel", "edition", "()V"⟩, 47) := ⟨⟨by decide +kernel, by decide +kernel⟩, List.mem_of_getElem? (i := 757) (by decide +kernel), List.mem_of_getElem? (i := 937) (by decide +kernel), List.mem_of_getElem? (i := 938) (by decide +kernel)⟩
theorem lw_p24 : lw_okq (⟨"ChurchLodgeModel", "falling", "()I"⟩, 47) := ⟨⟨by decide +kernel, by decide +kernel⟩, List.mem_of_getElem? (i := 757) (by decide +kernel), List.mem_of_getElem? (i := 953) (by decide +kernel), List.mem_of_getElem? (i := 954) (by decide +kernel)⟩
theorem lw_p25 : lw_okq (⟨"ChurchLodgeModel", "weigh", "()V"⟩, 47) := ⟨⟨by decide +kernel, by decide +kernel⟩, List.mem_of_getElem? (i := 757) (by decide +kernel), List.mem_of_getElem? (i := 957) (by decide +kernel), List.mem_of_getElem? (i := 958) (by decide +kernel)⟩
theorem lw_p26 : lw_okq (⟨"ChurchLodgeModel", "goes", "(II)I"⟩, 47) := ⟨⟨by decide +kernel, by decide +kernel⟩, List.mem_of_getElem? (i := 757) (by decide +kernel), List.mem_of_getElem? (i := 961) (by decide +kernel), List.mem_of_getElem? (i := 962) (by decide +kernel)⟩
theorem lw_p27 : lw_okq (⟨"ChurchLodgeModel", "net", "(I)I"⟩, 47) := ⟨⟨by decide +kernel, by decide +kernel⟩, List.mem_of_getElem? (i := 757) (by decide +kernel), List.mem_of_getElem? (i := 966) (by decide +kernel), List.mem_of_getElem? (i := 967) (by decide +kernel)⟩
theorem lw_p28 : lw_okq (⟨"ChurchLodgeModel", "read", "()I"⟩, 47) := ⟨⟨by decide +kernel, by decide +kernel⟩, List.mem_of_getElem? (i := 757) (by decide +kernel), List.mem_of_getElem? (i := 979) (by decide +kernel), List.mem_of_getElem? (i := 980) (by decide +kernel)⟩
theorem lw_p29 : lw_okq (⟨"ChurchLodgeModel", "lay0", "(I)V"⟩, 47) := ⟨⟨by decide +kernel, by decide +kernel⟩, List.mem_of_getElem? (i := 757) (by decide +kernel), List.mem_of_getElem? (i := 986) (by decide +kernel), List.mem_of_getElem? (i := 987) (by decide +kernel)⟩
theorem lw_p30 : lw_okq (⟨"ChurchLodgeModel", "keep", "()I"⟩, 47) := ⟨⟨by decide +kernel, by decide +kernel⟩, List.mem_of_getElem? (i := 757) (by decide +kernel), List.mem_of_getElem? (i := 996) (by decide +kernel), List.mem_of_getElem? (i := 997) (by decide +kernel)⟩
theorem lw_p31 : lw_okq (⟨"ChurchLodgeModel", "says", "(II)I"⟩, 47) := ⟨⟨by decide +kernel, by decide +kernel⟩, List.mem_of_getElem? (i := 757) (by decide +kernel), List.mem_of_getElem? (i := 1008) (by decide +kernel), List.mem_of_getElem? (i := 1009) (by decide +kernel)⟩
def lw_privs_2 : List (MethodName × Nat) := [(⟨"ChurchLodge$Tape", "closeSigns", "()Z"⟩, 6), (⟨"ChurchLodge", "loadOf", "(I)I"⟩, 13), (⟨"ChurchLodge", "pushToRightOn", "(I)I"⟩, 13), (⟨"ChurchLodge", "coinsRemaining", "()I"⟩, 13), (⟨"ChurchLodgeModel", "newPart", "(IIII)I"⟩, 47), (⟨"ChurchLodgeModel", "isPart", "(I)Z"⟩, 47), (⟨"ChurchLodgeModel", "support0", "(IIII)V"⟩, 47), (⟨"ChurchLodgeModel", "edition", "()V"⟩, 47), (⟨"ChurchLodgeModel", "falling", "()I"⟩, 47), (⟨"ChurchLodgeModel", "weigh", "()V"⟩, 47), (⟨"ChurchLodgeModel", "goes", "(II)I"⟩, 47), (⟨"ChurchLodgeModel", "net", "(I)I"⟩, 47), (⟨"ChurchLodgeModel", "read", "()I"⟩, 47), (⟨"ChurchLodgeModel", "lay0", "(I)V"⟩, 47), (⟨"ChurchLodgeModel", "keep", "()I"⟩, 47), (⟨"ChurchLodgeModel", "says", "(II)I"⟩, 47)]
theorem lw_r2 : ∀ q ∈ lw_privs_2, lw_okq q := List.forall_mem_cons.mpr ⟨lw_p16, List.forall_mem_cons.mpr ⟨lw_p17, List.forall_mem_cons.mpr ⟨lw_p18, List.forall_mem_cons.mpr ⟨lw_p19, List.forall_mem_cons.mpr ⟨lw_p20, List.forall_mem_cons.mpr ⟨lw_p21, List.forall_mem_cons.mpr ⟨lw_p22, List.forall_mem_cons.mpr ⟨lw_p23, List.forall_mem_cons.mpr ⟨lw_p24, List.forall_mem_cons.mpr ⟨lw_p25, List.forall_mem_cons.mpr ⟨lw_p26, List.forall_mem_cons.mpr ⟨lw_p27, List.forall_mem_cons.mpr ⟨lw_p28, List.forall_mem_cons.mpr ⟨lw_p29, List.forall_mem_cons.mpr ⟨lw_p30, List.forall_mem_cons.mpr ⟨lw_p31, fun _ h => absurd h List.not_mem_nil⟩⟩⟩⟩⟩⟩⟩⟩⟩⟩⟩⟩⟩⟩⟩⟩
theorem lw_p32 : lw_okq (⟨"ChurchLodgeModel", "named", "(II)I"⟩, 47) := ⟨⟨by decide +kernel, by decide +kernel⟩, List.mem_of_getElem? (i := 757) (by decide +kernel), List.mem_of_getElem? (i := 1012) (by decide +kernel), List.mem_of_getElem? (i := 1013) (by decide +kernel)⟩
theorem lw_p33 : lw_okq (⟨"ChurchLodgeModel", "isFrost", "(I)Z"⟩, 47) := ⟨⟨by decide +kernel, by decide +kernel⟩, List.mem_of_getElem? (i := 757) (by decide +kernel), List.mem_of_getElem? (i := 1016) (by decide +kernel), List.mem_of_getElem? (i := 1017) (by decide +kernel)⟩
theorem lw_p34 : lw_okq (⟨"ChurchLodgeModel", "isGift", "(I)Z"⟩, 47) := ⟨⟨by decide +kernel, by decide +kernel⟩, List.mem_of_getElem? (i := 757) (by decide +kernel), List.mem_of_getElem? (i := 1027) (by decide +kernel), List.mem_of_getElem? (i := 1028) (by decide +kernel)⟩
theorem lw_p35 : lw_okq (⟨"ChurchLodgeModel", "endFor", "(II)I"⟩, 47) := ⟨⟨by decide +kernel, by decide +kernel⟩, List.mem_of_getElem? (i := 757) (by decide +kernel), List.mem_of_getElem? (i := 1031) (by decide +kernel), List.mem_of_getElem? (i := 1032) (by decide +kernel)⟩
theorem lw_p36 : lw_okq (⟨"ChurchLodgeModel", "hinders", "(I)I"⟩, 47) := ⟨⟨by decide +kernel, by decide +kernel⟩, List.mem_of_getElem? (i := 757) (by decide +kernel), List.mem_of_getElem? (i := 1040) (by decide +kernel), List.mem_of_getElem? (i := 1041) (by decide +kernel)⟩
theorem lw_p37 : lw_okq (⟨"ChurchLodgeModel", "fallingBy", "(I)I"⟩, 47) := ⟨⟨by decide +kernel, by decide +kernel⟩, List.mem_of_getElem? (i := 757) (by decide +kernel), List.mem_of_getElem? (i := 1045) (by decide +kernel), List.mem_of_getElem? (i := 1046) (by decide +kernel)⟩
theorem lw_p38 : lw_okq (⟨"ChurchLodgeModel", "stands", "(II)Z"⟩, 47) := ⟨⟨by decide +kernel, by decide +kernel⟩, List.mem_of_getElem? (i := 757) (by decide +kernel), List.mem_of_getElem? (i := 1081) (by decide +kernel), List.mem_of_getElem? (i := 1082) (by decide +kernel)⟩
def lw_privs_3 : List (MethodName × Nat) := [(⟨"ChurchLodgeModel", "named", "(II)I"⟩, 47), (⟨"ChurchLodgeModel", "isFrost", "(I)Z"⟩, 47), (⟨"ChurchLodgeModel", "isGift", "(I)Z"⟩, 47), (⟨"ChurchLodgeModel", "endFor", "(II)I"⟩, 47), (⟨"ChurchLodgeModel", "hinders", "(I)I"⟩, 47), (⟨"ChurchLodgeModel", "fallingBy", "(I)I"⟩, 47), (⟨"ChurchLodgeModel", "stands", "(II)Z"⟩, 47)]
theorem lw_r3 : ∀ q ∈ lw_privs_3, lw_okq q := List.forall_mem_cons.mpr ⟨lw_p32, List.forall_mem_cons.mpr ⟨lw_p33, List.forall_mem_cons.mpr ⟨lw_p34, List.forall_mem_cons.mpr ⟨lw_p35, List.forall_mem_cons.mpr ⟨lw_p36, List.forall_mem_cons.mpr ⟨lw_p37, List.forall_mem_cons.mpr ⟨lw_p38, fun _ h => absurd h List.not_mem_nil⟩⟩⟩⟩⟩⟩⟩
def lw_privs : List (MethodName × Nat) := lw_privs_1 ++ (lw_privs_2 ++ (lw_privs_3))
def lw_tbl : List Cond := k2_sels lw_privs ++ tables_1
theorem lw_privs_ok : ∀ q ∈ lw_privs, lw_okq q := by
  show ∀ q ∈ lw_privs_1 ++ (lw_privs_2 ++ (lw_privs_3)), lw_okq q
  exact List.forall_mem_append.mpr ⟨lw_r1, List.forall_mem_append.mpr ⟨lw_r2, lw_r3⟩⟩
-- ===== end of PART A; then your names; then what follows =====
end
section
def RX0 : String := "ChurchLodge$Calendar"
def TX0 : u_T := fun k => match k with
  | 0 => ("ChurchLodge$Calendar", "bitterOfYear", "[I", true)
  | 1 => ("ChurchLodge$Calendar", "now", "I", false)
  | _ => ("ChurchLodge$Calendar", "frostOfYears", "I", false)
def tyX0 : Nat → FieldType := fun k => match k with
  | 0 => .array .int
  | 1 => .int
  | _ => .int
theorem nmX0 : ∀ a, a < 3 → ∀ b, b < 3 → a ≠ b → (TX0 a).2.1 ≠ (TX0 b).2.1 := by decide +kernel
theorem tyX0_ok : ∀ k, k < 3 → parseFieldDescriptor (TX0 k).2.2.1 = some (tyX0 k) := by decide +kernel
abbrev cX0_init : ByteArray := prog_2_method_1_code
def yX0_init : MethodName := ⟨RX0, "<init>", "()V"⟩
abbrev cX0_isAhead : ByteArray := prog_2_method_2_code
def yX0_isAhead : MethodName := ⟨RX0, "isAhead", "(I)Z"⟩
abbrev cX0_hasFrost : ByteArray := prog_2_method_3_code
def yX0_hasFrost : MethodName := ⟨RX0, "hasFrost", "(I)Z"⟩
abbrev cX0_makeBitter : ByteArray := prog_2_method_4_code
def yX0_makeBitter : MethodName := ⟨RX0, "makeBitter", "(I)Z"⟩
abbrev cX0_pass : ByteArray := prog_2_method_5_code
def yX0_pass : MethodName := ⟨RX0, "pass", "(I)I"⟩
def RX1 : String := "ChurchLodge$Gift"
def TX1 : u_T := fun k => match k with
  | 0 => ("ChurchLodge$Gift", "coins", "I", true)
  | 1 => ("ChurchLodge$Gift", "purpose", "LChurchLodge$Text;", true)
  | _ => ("ChurchLodge$Gift", "remaining", "I", false)
def tyX1 : Nat → FieldType := fun k => match k with
  | 0 => .int
  | 1 => .object "ChurchLodge$Text"
  | _ => .int
theorem nmX1 : ∀ a, a < 3 → ∀ b, b < 3 → a ≠ b → (TX1 a).2.1 ≠ (TX1 b).2.1 := by decide +kernel
theorem tyX1_ok : ∀ k, k < 3 → parseFieldDescriptor (TX1 k).2.2.1 = some (tyX1 k) := by decide +kernel
abbrev cX1_init : ByteArray := prog_3_method_1_code
def yX1_init : MethodName := ⟨RX1, "<init>", "(ILChurchLodge$Text;)V"⟩
def RX2 : String := "ChurchLodge$Part"
def TX2 : u_T := fun k => match k with
  | 0 => ("ChurchLodge$Part", "kind", "I", true)
  | 1 => ("ChurchLodge$Part", "coursesMade", "I", true)
  | 2 => ("ChurchLodge$Part", "weight", "I", true)
  | 3 => ("ChurchLodge$Part", "price", "I", true)
  | 4 => ("ChurchLodge$Part", "told", "[I", true)
  | 5 => ("ChurchLodge$Part", "supports", "[I", true)
  | 6 => ("ChurchLodge$Part", "shares", "[I", true)
  | 7 => ("ChurchLodge$Part", "laidIn", "[I", true)
  | 8 => ("ChurchLodge$Part", "supportCount", "I", false)
  | 9 => ("ChurchLodge$Part", "courses", "I", false)
  | 10 => ("ChurchLodge$Part", "laid", "I", false)
  | 11 => ("ChurchLodge$Part", "age", "I", false)
  | 12 => ("ChurchLodge$Part", "prop", "I", false)
  | _ => ("ChurchLodge$Part", "struck", "Z", false)
def tyX2 : Nat → FieldType := fun k => match k with
  | 0 => .int
  | 1 => .int
  | 2 => .int
  | 3 => .int
  | 4 => .array .int
  | 5 => .array .int
  | 6 => .array .int
  | 7 => .array .int
  | 8 => .int
  | 9 => .int
  | 10 => .int
  | 11 => .int
  | 12 => .int
  | _ => .boolean
theorem nmX2 : ∀ a, a < 14 → ∀ b, b < 14 → a ≠ b → (TX2 a).2.1 ≠ (TX2 b).2.1 := by decide +kernel
theorem tyX2_ok : ∀ k, k < 14 → parseFieldDescriptor (TX2 k).2.2.1 = some (tyX2 k) := by decide +kernel
abbrev cX2_init : ByteArray := prog_4_method_1_code
def yX2_init : MethodName := ⟨RX2, "<init>", "(IIII)V"⟩
abbrev cX2_isBegun : ByteArray := prog_4_method_2_code
def yX2_isBegun : MethodName := ⟨RX2, "isBegun", "()Z"⟩
abbrev cX2_isWhole : ByteArray := prog_4_method_3_code
def yX2_isWhole : MethodName := ⟨RX2, "isWhole", "()Z"⟩
abbrev cX2_isOnCentring : ByteArray := prog_4_method_4_code
def yX2_isOnCentring : MethodName := ⟨RX2, "isOnCentring", "()Z"⟩
abbrev cX2_standOn : ByteArray := prog_4_method_5_code
def yX2_standOn : MethodName := ⟨RX2, "standOn", "(III)V"⟩
abbrev cX2_takeCourse : ByteArray := prog_4_method_6_code
def yX2_takeCourse : MethodName := ⟨RX2, "takeCourse", "(I)V"⟩
abbrev cX2_laidTill : ByteArray := prog_4_method_7_code
def yX2_laidTill : MethodName := ⟨RX2, "laidTill", "(I)I"⟩
abbrev cX2_portion : ByteArray := prog_4_method_8_code
def yX2_portion : MethodName := ⟨RX2, "portion", "(II)I"⟩
abbrev cX2_heaviestWay : ByteArray := prog_4_method_9_code
def yX2_heaviestWay : MethodName := ⟨RX2, "heaviestWay", "(I)I"⟩
abbrev cX2_markSupports : ByteArray := prog_4_method_10_code
def yX2_markSupports : MethodName := ⟨RX2, "markSupports", "([I)V"⟩
abbrev cX2_standsOn : ByteArray := prog_4_method_11_code
def yX2_standsOn : MethodName := ⟨RX2, "standsOn", "(I)Z"⟩
def RX3 : String := "ChurchLodge$Plan"
def TX3 : u_T := fun k => match k with
  | 0 => ("ChurchLodge$Plan", "parts", "[LChurchLodge$Part;", true)
  | 1 => ("ChurchLodge$Plan", "editionPart", "[I", true)
  | 2 => ("ChurchLodge$Plan", "editionCourses", "[I", true)
  | 3 => ("ChurchLodge$Plan", "editionSize", "[I", true)
  | 4 => ("ChurchLodge$Plan", "supportsRead", "[I", true)
  | 5 => ("ChurchLodge$Plan", "partCount", "I", false)
  | _ => ("ChurchLodge$Plan", "editionCount", "I", false)
def tyX3 : Nat → FieldType := fun k => match k with
  | 0 => .array (.object "ChurchLodge$Part")
  | 1 => .array .int
  | 2 => .array .int
  | 3 => .array .int
  | 4 => .array .int
  | 5 => .int
  | _ => .int
theorem nmX3 : ∀ a, a < 7 → ∀ b, b < 7 → a ≠ b → (TX3 a).2.1 ≠ (TX3 b).2.1 := by decide +kernel
theorem tyX3_ok : ∀ k, k < 7 → parseFieldDescriptor (TX3 k).2.2.1 = some (tyX3 k) := by decide +kernel
abbrev cX3_init : ByteArray := prog_5_method_1_code
def yX3_init : MethodName := ⟨RX3, "<init>", "()V"⟩
abbrev cX3_find : ByteArray := prog_5_method_2_code
def yX3_find : MethodName := ⟨RX3, "find", "(I)LChurchLodge$Part;"⟩
abbrev cX3_add : ByteArray := prog_5_method_3_code
def yX3_add : MethodName := ⟨RX3, "add", "(LChurchLodge$Part;)I"⟩
abbrev cX3_readSupports : ByteArray := prog_5_method_4_code
def yX3_readSupports : MethodName := ⟨RX3, "readSupports", "(IIIII)I"⟩
abbrev cX3_isSupportFor : ByteArray := prog_5_method_5_code
def yX3_isSupportFor : MethodName := ⟨RX3, "isSupportFor", "(II)Z"⟩
abbrev cX3_isReadBefore : ByteArray := prog_5_method_6_code
def yX3_isReadBefore : MethodName := ⟨RX3, "isReadBefore", "(I)Z"⟩
abbrev cX3_setSupports : ByteArray := prog_5_method_7_code
def yX3_setSupports : MethodName := ⟨RX3, "setSupports", "(LChurchLodge$Part;I)V"⟩
abbrev cX3_keepEdition : ByteArray := prog_5_method_8_code
def yX3_keepEdition : MethodName := ⟨RX3, "keepEdition", "(II)I"⟩
abbrev cX3_coursesIn : ByteArray := prog_5_method_9_code
def yX3_coursesIn : MethodName := ⟨RX3, "coursesIn", "(II)I"⟩
abbrev cX3_isReadyBelow : ByteArray := prog_5_method_10_code
def yX3_isReadyBelow : MethodName := ⟨RX3, "isReadyBelow", "(LChurchLodge$Part;)Z"⟩
abbrev cX3_ageAll : ByteArray := prog_5_method_11_code
def yX3_ageAll : MethodName := ⟨RX3, "ageAll", "(I)V"⟩
abbrev cX3_countBorneBy : ByteArray := prog_5_method_12_code
def yX3_countBorneBy : MethodName := ⟨RX3, "countBorneBy", "(I)I"⟩
abbrev cX3_countLaid : ByteArray := prog_5_method_13_code
def yX3_countLaid : MethodName := ⟨RX3, "countLaid", "()I"⟩
def RX4 : String := "ChurchLodge$Reckoner"
def TX4 : u_T := fun k => match k with
  | 0 => ("ChurchLodge$Reckoner", "meanings", "[I", true)
  | _ => ("ChurchLodge$Reckoner", "stack", "[I", true)
def tyX4 : Nat → FieldType := fun k => match k with
  | 0 => .array .int
  | _ => .array .int
theorem nmX4 : ∀ a, a < 2 → ∀ b, b < 2 → a ≠ b → (TX4 a).2.1 ≠ (TX4 b).2.1 := by decide +kernel
theorem tyX4_ok : ∀ k, k < 2 → parseFieldDescriptor (TX4 k).2.2.1 = some (tyX4 k) := by decide +kernel
abbrev cX4_init : ByteArray := prog_6_method_1_code
def yX4_init : MethodName := ⟨RX4, "<init>", "()V"⟩
abbrev cX4_nameNoPart : ByteArray := prog_6_method_2_code
def yX4_nameNoPart : MethodName := ⟨RX4, "nameNoPart", "()V"⟩
abbrev cX4_namePart : ByteArray := prog_6_method_3_code
def yX4_namePart : MethodName := ⟨RX4, "namePart", "(ILChurchLodge$Part;)V"⟩
abbrev cX4_nameMonth : ByteArray := prog_6_method_4_code
def yX4_nameMonth : MethodName := ⟨RX4, "nameMonth", "(IZI)V"⟩
abbrev cX4_endOf : ByteArray := prog_6_method_5_code
def yX4_endOf : MethodName := ⟨RX4, "endOf", "(LChurchLodge$Gift;)I"⟩
abbrev cX4_valueOf : ByteArray := prog_6_method_6_code
def yX4_valueOf : MethodName := ⟨RX4, "valueOf", "(LChurchLodge$Text;)I"⟩
abbrev cX4_isSign : ByteArray := prog_6_method_7_code
def yX4_isSign : MethodName := ⟨RX4, "isSign", "(I)Z"⟩
abbrev cX4_meaningOf : ByteArray := prog_6_method_8_code
def yX4_meaningOf : MethodName := ⟨RX4, "meaningOf", "(I)I"⟩
abbrev cX4_truth : ByteArray := prog_6_method_9_code
def yX4_truth : MethodName := ⟨RX4, "truth", "(Z)I"⟩
abbrev cX4_join : ByteArray := prog_6_method_10_code
def yX4_join : MethodName := ⟨RX4, "join", "(III)I"⟩
def RX5 : String := "ChurchLodge$Stress"
def TX5 : u_T := fun k => match k with
  | 0 => ("ChurchLodge$Stress", "loads", "[I", true)
  | _ => ("ChurchLodge$Stress", "pushes", "[I", true)
def tyX5 : Nat → FieldType := fun k => match k with
  | 0 => .array .int
  | _ => .array .int
theorem nmX5 : ∀ a, a < 2 → ∀ b, b < 2 → a ≠ b → (TX5 a).2.1 ≠ (TX5 b).2.1 := by decide +kernel
theorem tyX5_ok : ∀ k, k < 2 → parseFieldDescriptor (TX5 k).2.2.1 = some (tyX5 k) := by decide +kernel
abbrev cX5_init : ByteArray := prog_7_method_1_code
def yX5_init : MethodName := ⟨RX5, "<init>", "()V"⟩
abbrev cX5_weigh : ByteArray := prog_7_method_2_code
def yX5_weigh : MethodName := ⟨RX5, "weigh", "(LChurchLodge$Plan;)V"⟩
abbrev cX5_passDown : ByteArray := prog_7_method_3_code
def yX5_passDown : MethodName := ⟨RX5, "passDown", "(LChurchLodge$Part;I)V"⟩
abbrev cX5_pushAside : ByteArray := prog_7_method_4_code
def yX5_pushAside : MethodName := ⟨RX5, "pushAside", "(LChurchLodge$Part;I)V"⟩
abbrev cX5_leastFalling : ByteArray := prog_7_method_5_code
def yX5_leastFalling : MethodName := ⟨RX5, "leastFalling", "(LChurchLodge$Plan;)I"⟩
def RX6 : String := "ChurchLodge$Tape"
def TX6 : u_T := fun k => match k with
  | 0 => ("ChurchLodge$Tape", "bytes", "[I", true)
  | 1 => ("ChurchLodge$Tape", "items", "[I", true)
  | 2 => ("ChurchLodge$Tape", "wants", "[I", true)
  | 3 => ("ChurchLodge$Tape", "length", "I", false)
  | 4 => ("ChurchLodge$Tape", "itemCount", "I", false)
  | _ => ("ChurchLodge$Tape", "open", "I", false)
def tyX6 : Nat → FieldType := fun k => match k with
  | 0 => .array .int
  | 1 => .array .int
  | 2 => .array .int
  | 3 => .int
  | 4 => .int
  | _ => .int
theorem nmX6 : ∀ a, a < 6 → ∀ b, b < 6 → a ≠ b → (TX6 a).2.1 ≠ (TX6 b).2.1 := by decide +kernel
theorem tyX6_ok : ∀ k, k < 6 → parseFieldDescriptor (TX6 k).2.2.1 = some (tyX6 k) := by decide +kernel
abbrev cX6_init : ByteArray := prog_8_method_1_code
def yX6_init : MethodName := ⟨RX6, "<init>", "()V"⟩
abbrev cX6_take : ByteArray := prog_8_method_2_code
def yX6_take : MethodName := ⟨RX6, "take", "(II)V"⟩
abbrev cX6_asText : ByteArray := prog_8_method_3_code
def yX6_asText : MethodName := ⟨RX6, "asText", "()LChurchLodge$Text;"⟩
abbrev cX6_read : ByteArray := prog_8_method_4_code
def yX6_read : MethodName := ⟨RX6, "read", "()I"⟩
abbrev cX6_openSign : ByteArray := prog_8_method_5_code
def yX6_openSign : MethodName := ⟨RX6, "openSign", "(I)V"⟩
abbrev cX6_closeSigns : ByteArray := prog_8_method_6_code
def yX6_closeSigns : MethodName := ⟨RX6, "closeSigns", "()Z"⟩
abbrev cX6_readLeaf : ByteArray := prog_8_method_7_code
def yX6_readLeaf : MethodName := ⟨RX6, "readLeaf", "(I)I"⟩
abbrev cX6_readNumber : ByteArray := prog_8_method_8_code
def yX6_readNumber : MethodName := ⟨RX6, "readNumber", "(I)I"⟩
abbrev cX6_keep : ByteArray := prog_8_method_9_code
def yX6_keep : MethodName := ⟨RX6, "keep", "(I)V"⟩
abbrev cX6_isDigit : ByteArray := prog_8_method_10_code
def yX6_isDigit : MethodName := ⟨RX6, "isDigit", "(I)Z"⟩
def RX7 : String := "ChurchLodge$Text"
def TX7 : u_T := fun k => match k with
  | _ => ("ChurchLodge$Text", "items", "[I", true)
def tyX7 : Nat → FieldType := fun k => match k with
  | _ => .array .int
theorem nmX7 : ∀ a, a < 1 → ∀ b, b < 1 → a ≠ b → (TX7 a).2.1 ≠ (TX7 b).2.1 := by decide +kernel
theorem tyX7_ok : ∀ k, k < 1 → parseFieldDescriptor (TX7 k).2.2.1 = some (tyX7 k) := by decide +kernel
abbrev cX7_init : ByteArray := prog_9_method_1_code
def yX7_init : MethodName := ⟨RX7, "<init>", "([I)V"⟩
def RX8 : String := "ChurchLodge"
def TX8 : u_T := fun k => match k with
  | 0 => ("ChurchLodge", "plan", "LChurchLodge$Plan;", true)
  | 1 => ("ChurchLodge", "stress", "LChurchLodge$Stress;", true)
  | 2 => ("ChurchLodge", "calendar", "LChurchLodge$Calendar;", true)
  | 3 => ("ChurchLodge", "tape", "LChurchLodge$Tape;", true)
  | 4 => ("ChurchLodge", "reckoner", "LChurchLodge$Reckoner;", true)
  | 5 => ("ChurchLodge", "gifts", "[LChurchLodge$Gift;", true)
  | 6 => ("ChurchLodge", "statutes", "[LChurchLodge$Text;", true)
  | 7 => ("ChurchLodge", "statuteFrom", "[I", true)
  | 8 => ("ChurchLodge", "marked", "[I", true)
  | 9 => ("ChurchLodge", "giftCount", "I", false)
  | 10 => ("ChurchLodge", "statuteCount", "I", false)
  | 11 => ("ChurchLodge", "workDone", "I", false)
  | _ => ("ChurchLodge", "paid", "I", false)
def tyX8 : Nat → FieldType := fun k => match k with
  | 0 => .object "ChurchLodge$Plan"
  | 1 => .object "ChurchLodge$Stress"
  | 2 => .object "ChurchLodge$Calendar"
  | 3 => .object "ChurchLodge$Tape"
  | 4 => .object "ChurchLodge$Reckoner"
  | 5 => .array (.object "ChurchLodge$Gift")
  | 6 => .array (.object "ChurchLodge$Text")
  | 7 => .array .int
  | 8 => .array .int
  | 9 => .int
  | 10 => .int
  | 11 => .int
  | _ => .int
theorem nmX8 : ∀ a, a < 13 → ∀ b, b < 13 → a ≠ b → (TX8 a).2.1 ≠ (TX8 b).2.1 := by decide +kernel
theorem tyX8_ok : ∀ k, k < 13 → parseFieldDescriptor (TX8 k).2.2.1 = some (tyX8 k) := by decide +kernel
abbrev cX8_init : ByteArray := prog_1_method_1_code
def yX8_init : MethodName := ⟨RX8, "<init>", "()V"⟩
abbrev cX8_part : ByteArray := prog_1_method_2_code
def yX8_part : MethodName := ⟨RX8, "part", "(III)I"⟩
abbrev cX8_arch : ByteArray := prog_1_method_3_code
def yX8_arch : MethodName := ⟨RX8, "arch", "(IIIII)I"⟩
abbrev cX8_bear : ByteArray := prog_1_method_4_code
def yX8_bear : MethodName := ⟨RX8, "bear", "(IIIII)I"⟩
abbrev cX8_edit : ByteArray := prog_1_method_5_code
def yX8_edit : MethodName := ⟨RX8, "edit", "(II)I"⟩
abbrev cX8_wanted : ByteArray := prog_1_method_6_code
def yX8_wanted : MethodName := ⟨RX8, "wanted", "(II)I"⟩
abbrev cX8_tell : ByteArray := prog_1_method_7_code
def yX8_tell : MethodName := ⟨RX8, "tell", "(III)I"⟩
abbrev cX8_lay : ByteArray := prog_1_method_8_code
def yX8_lay : MethodName := ⟨RX8, "lay", "(I)I"⟩
abbrev cX8_may : ByteArray := prog_1_method_9_code
def yX8_may : MethodName := ⟨RX8, "may", "(I)I"⟩
abbrev cX8_falls : ByteArray := prog_1_method_10_code
def yX8_falls : MethodName := ⟨RX8, "falls", "(I)I"⟩
abbrev cX8_strike : ByteArray := prog_1_method_11_code
def yX8_strike : MethodName := ⟨RX8, "strike", "(I)I"⟩
abbrev cX8_prop : ByteArray := prog_1_method_12_code
def yX8_prop : MethodName := ⟨RX8, "prop", "(II)I"⟩
abbrev cX8_month : ByteArray := prog_1_method_13_code
def yX8_month : MethodName := ⟨RX8, "month", "(I)I"⟩
abbrev cX8_frost : ByteArray := prog_1_method_14_code
def yX8_frost : MethodName := ⟨RX8, "frost", "(I)I"⟩
abbrev cX8_bitter : ByteArray := prog_1_method_15_code
def yX8_bitter : MethodName := ⟨RX8, "bitter", "(I)I"⟩
abbrev cX8_feed : ByteArray := prog_1_method_16_code
def yX8_feed : MethodName := ⟨RX8, "feed", "(II)I"⟩
abbrev cX8_gift : ByteArray := prog_1_method_17_code
def yX8_gift : MethodName := ⟨RX8, "gift", "(I)I"⟩
abbrev cX8_statute : ByteArray := prog_1_method_18_code
def yX8_statute : MethodName := ⟨RX8, "statute", "(I)I"⟩
abbrev cX8_end : ByteArray := prog_1_method_19_code
def yX8_end : MethodName := ⟨RX8, "end", "(II)I"⟩
abbrev cX8_about : ByteArray := prog_1_method_20_code
def yX8_about : MethodName := ⟨RX8, "about", "(II)I"⟩
abbrev cX8_support : ByteArray := prog_1_method_21_code
def yX8_support : MethodName := ⟨RX8, "support", "(II)I"⟩
abbrev cX8_left : ByteArray := prog_1_method_22_code
def yX8_left : MethodName := ⟨RX8, "left", "(II)I"⟩
abbrev cX8_work : ByteArray := prog_1_method_23_code
def yX8_work : MethodName := ⟨RX8, "work", "()I"⟩
abbrev cX8_as : ByteArray := prog_1_method_24_code
def yX8_as : MethodName := ⟨RX8, "as", "(II)I"⟩
abbrev cX8_down : ByteArray := prog_1_method_25_code
def yX8_down : MethodName := ⟨RX8, "down", "(I)I"⟩
abbrev cX8_needs : ByteArray := prog_1_method_26_code
def yX8_needs : MethodName := ⟨RX8, "needs", "(I)I"⟩
abbrev cX8_count : ByteArray := prog_1_method_27_code
def yX8_count : MethodName := ⟨RX8, "count", "(I)I"⟩
abbrev cX8_isMeasure : ByteArray := prog_1_method_28_code
def yX8_isMeasure : MethodName := ⟨RX8, "isMeasure", "(III)Z"⟩
abbrev cX8_stands : ByteArray := prog_1_method_29_code
def yX8_stands : MethodName := ⟨RX8, "stands", "()Z"⟩
abbrev cX8_loadOf : ByteArray := prog_1_method_30_code
def yX8_loadOf : MethodName := ⟨RX8, "loadOf", "(I)I"⟩
abbrev cX8_pushToRightOn : ByteArray := prog_1_method_31_code
def yX8_pushToRightOn : MethodName := ⟨RX8, "pushToRightOn", "(I)I"⟩
abbrev cX8_fallByCourse : ByteArray := prog_1_method_32_code
def yX8_fallByCourse : MethodName := ⟨RX8, "fallByCourse", "(LChurchLodge$Part;)I"⟩
abbrev cX8_hindranceOfCourse : ByteArray := prog_1_method_33_code
def yX8_hindranceOfCourse : MethodName := ⟨RX8, "hindranceOfCourse", "(ILChurchLodge$Part;)I"⟩
abbrev cX8_findGift : ByteArray := prog_1_method_34_code
def yX8_findGift : MethodName := ⟨RX8, "findGift", "(I)LChurchLodge$Gift;"⟩
abbrev cX8_coinsRemaining : ByteArray := prog_1_method_35_code
def yX8_coinsRemaining : MethodName := ⟨RX8, "coinsRemaining", "()I"⟩
abbrev cX8_coinsFor : ByteArray := prog_1_method_36_code
def yX8_coinsFor : MethodName := ⟨RX8, "coinsFor", "(ILChurchLodge$Part;)I"⟩
abbrev cX8_payFor : ByteArray := prog_1_method_37_code
def yX8_payFor : MethodName := ⟨RX8, "payFor", "(ILChurchLodge$Part;)V"⟩
abbrev cX8_nameMonth : ByteArray := prog_1_method_38_code
def yX8_nameMonth : MethodName := ⟨RX8, "nameMonth", "()V"⟩
abbrev cX8_statuteInForce : ByteArray := prog_1_method_39_code
def yX8_statuteInForce : MethodName := ⟨RX8, "statuteInForce", "()I"⟩
def RX9 : String := "ChurchLodgeModel"
def TX9 : u_T := fun k => match k with
  | 0 => ("ChurchLodgeModel", "code", "I", false)
  | 1 => ("ChurchLodgeModel", "parts", "I", false)
  | 2 => ("ChurchLodgeModel", "kind", "[I", true)
  | 3 => ("ChurchLodgeModel", "wants", "[I", true)
  | 4 => ("ChurchLodgeModel", "firstWant", "[I", true)
  | 5 => ("ChurchLodgeModel", "weight", "[I", true)
  | 6 => ("ChurchLodgeModel", "price", "[I", true)
  | 7 => ("ChurchLodgeModel", "bears", "[I", true)
  | 8 => ("ChurchLodgeModel", "holds", "[I", true)
  | 9 => ("ChurchLodgeModel", "thrust", "[I", true)
  | 10 => ("ChurchLodgeModel", "hard", "[I", true)
  | 11 => ("ChurchLodgeModel", "props", "[I", true)
  | 12 => ("ChurchLodgeModel", "laid", "[I", true)
  | 13 => ("ChurchLodgeModel", "age", "[I", true)
  | 14 => ("ChurchLodgeModel", "centred", "[Z", true)
  | 15 => ("ChurchLodgeModel", "supports", "[I", true)
  | 16 => ("ChurchLodgeModel", "onto", "[I", true)
  | 17 => ("ChurchLodgeModel", "share", "[I", true)
  | 18 => ("ChurchLodgeModel", "month", "I", false)
  | 19 => ("ChurchLodgeModel", "done", "I", false)
  | 20 => ("ChurchLodgeModel", "paid", "I", false)
  | 21 => ("ChurchLodgeModel", "frosts", "I", false)
  | 22 => ("ChurchLodgeModel", "bitters", "[Z", true)
  | 23 => ("ChurchLodgeModel", "laidAt", "[I", true)
  | 24 => ("ChurchLodgeModel", "editions", "I", false)
  | 25 => ("ChurchLodgeModel", "partsAt", "[I", true)
  | 26 => ("ChurchLodgeModel", "wantedAt", "[I", true)
  | 27 => ("ChurchLodgeModel", "asked", "[I", true)
  | 28 => ("ChurchLodgeModel", "load", "[I", true)
  | 29 => ("ChurchLodgeModel", "push", "[I", true)
  | 30 => ("ChurchLodgeModel", "tape", "[B", true)
  | 31 => ("ChurchLodgeModel", "taped", "I", false)
  | 32 => ("ChurchLodgeModel", "texts", "I", false)
  | 33 => ("ChurchLodgeModel", "textFrom", "[I", true)
  | 34 => ("ChurchLodgeModel", "step", "[I", true)
  | 35 => ("ChurchLodgeModel", "laidSteps", "I", false)
  | 36 => ("ChurchLodgeModel", "wanting", "[I", true)
  | 37 => ("ChurchLodgeModel", "pile", "[I", true)
  | 38 => ("ChurchLodgeModel", "gifts", "I", false)
  | 39 => ("ChurchLodgeModel", "brought", "[I", true)
  | 40 => ("ChurchLodgeModel", "left", "[I", true)
  | 41 => ("ChurchLodgeModel", "endOf", "[I", true)
  | 42 => ("ChurchLodgeModel", "statutes", "I", false)
  | 43 => ("ChurchLodgeModel", "statuteText", "[I", true)
  | 44 => ("ChurchLodgeModel", "statuteFrom", "[I", true)
  | 45 => ("ChurchLodgeModel", "pays", "[Z", true)
  | _ => ("ChurchLodgeModel", "under", "[Z", true)
def tyX9 : Nat → FieldType := fun k => match k with
  | 0 => .int
  | 1 => .int
  | 2 => .array .int
  | 3 => .array .int
  | 4 => .array .int
  | 5 => .array .int
  | 6 => .array .int
  | 7 => .array .int
  | 8 => .array .int
  | 9 => .array .int
  | 10 => .array .int
  | 11 => .array .int
  | 12 => .array .int
  | 13 => .array .int
  | 14 => .array .boolean
  | 15 => .array .int
  | 16 => .array .int
  | 17 => .array .int
  | 18 => .int
  | 19 => .int
  | 20 => .int
  | 21 => .int
  | 22 => .array .boolean
  | 23 => .array .int
  | 24 => .int
  | 25 => .array .int
  | 26 => .array .int
  | 27 => .array .int
  | 28 => .array .int
  | 29 => .array .int
  | 30 => .array .byte
  | 31 => .int
  | 32 => .int
  | 33 => .array .int
  | 34 => .array .int
  | 35 => .int
  | 36 => .array .int
  | 37 => .array .int
  | 38 => .int
  | 39 => .array .int
  | 40 => .array .int
  | 41 => .array .int
  | 42 => .int
  | 43 => .array .int
  | 44 => .array .int
  | 45 => .array .boolean
  | _ => .array .boolean
theorem nmX9 : ∀ a, a < 47 → ∀ b, b < 47 → a ≠ b → (TX9 a).2.1 ≠ (TX9 b).2.1 := by decide +kernel
theorem tyX9_ok : ∀ k, k < 47 → parseFieldDescriptor (TX9 k).2.2.1 = some (tyX9 k) := by decide +kernel
abbrev cX9_init : ByteArray := prog_11_method_1_code
def yX9_init : MethodName := ⟨RX9, "<init>", "()V"⟩
abbrev cX9_in : ByteArray := prog_11_method_3_code
def yX9_in : MethodName := ⟨RX9, "in", "(III)Z"⟩
abbrev cX9_isPart : ByteArray := prog_11_method_4_code
def yX9_isPart : MethodName := ⟨RX9, "isPart", "(I)Z"⟩
abbrev cX9_newPart : ByteArray := prog_11_method_5_code
def yX9_newPart : MethodName := ⟨RX9, "newPart", "(IIII)I"⟩
abbrev cX9_isPlan : ByteArray := prog_11_method_6_code
def yX9_isPlan : MethodName := ⟨RX9, "isPlan", "(III)Z"⟩
abbrev cX9_part : ByteArray := prog_11_method_7_code
def yX9_part : MethodName := ⟨RX9, "part", "(III)I"⟩
abbrev cX9_support0 : ByteArray := prog_11_method_8_code
def yX9_support0 : MethodName := ⟨RX9, "support0", "(IIII)V"⟩
abbrev cX9_arch : ByteArray := prog_11_method_9_code
def yX9_arch : MethodName := ⟨RX9, "arch", "(IIIII)I"⟩
abbrev cX9_edition : ByteArray := prog_11_method_10_code
def yX9_edition : MethodName := ⟨RX9, "edition", "()V"⟩
abbrev cX9_bear : ByteArray := prog_11_method_11_code
def yX9_bear : MethodName := ⟨RX9, "bear", "(IIIII)I"⟩
abbrev cX9_edit : ByteArray := prog_11_method_12_code
def yX9_edit : MethodName := ⟨RX9, "edit", "(II)I"⟩
abbrev cX9_wanted : ByteArray := prog_11_method_13_code
def yX9_wanted : MethodName := ⟨RX9, "wanted", "(II)I"⟩
abbrev cX9_goes : ByteArray := prog_11_method_14_code
def yX9_goes : MethodName := ⟨RX9, "goes", "(II)I"⟩
abbrev cX9_weigh : ByteArray := prog_11_method_15_code
def yX9_weigh : MethodName := ⟨RX9, "weigh", "()V"⟩
abbrev cX9_net : ByteArray := prog_11_method_16_code
def yX9_net : MethodName := ⟨RX9, "net", "(I)I"⟩
abbrev cX9_falling : ByteArray := prog_11_method_17_code
def yX9_falling : MethodName := ⟨RX9, "falling", "()I"⟩
abbrev cX9_fallingBy : ByteArray := prog_11_method_18_code
def yX9_fallingBy : MethodName := ⟨RX9, "fallingBy", "(I)I"⟩
abbrev cX9_tell : ByteArray := prog_11_method_19_code
def yX9_tell : MethodName := ⟨RX9, "tell", "(III)I"⟩
abbrev cX9_feed : ByteArray := prog_11_method_20_code
def yX9_feed : MethodName := ⟨RX9, "feed", "(II)I"⟩
abbrev cX9_isDigit : ByteArray := prog_11_method_21_code
def yX9_isDigit : MethodName := ⟨RX9, "isDigit", "(I)Z"⟩
abbrev cX9_isName : ByteArray := prog_11_method_22_code
def yX9_isName : MethodName := ⟨RX9, "isName", "(I)Z"⟩
abbrev cX9_isSign : ByteArray := prog_11_method_23_code
def yX9_isSign : MethodName := ⟨RX9, "isSign", "(I)Z"⟩
abbrev cX9_lay0 : ByteArray := prog_11_method_24_code
def yX9_lay0 : MethodName := ⟨RX9, "lay0", "(I)V"⟩
abbrev cX9_read : ByteArray := prog_11_method_25_code
def yX9_read : MethodName := ⟨RX9, "read", "()I"⟩
abbrev cX9_keep : ByteArray := prog_11_method_26_code
def yX9_keep : MethodName := ⟨RX9, "keep", "()I"⟩
abbrev cX9_isFrost : ByteArray := prog_11_method_27_code
def yX9_isFrost : MethodName := ⟨RX9, "isFrost", "(I)Z"⟩
abbrev cX9_named : ByteArray := prog_11_method_28_code
def yX9_named : MethodName := ⟨RX9, "named", "(II)I"⟩
abbrev cX9_both : ByteArray := prog_11_method_29_code
def yX9_both : MethodName := ⟨RX9, "both", "(III)I"⟩
abbrev cX9_says : ByteArray := prog_11_method_30_code
def yX9_says : MethodName := ⟨RX9, "says", "(II)I"⟩
abbrev cX9_isGift : ByteArray := prog_11_method_31_code
def yX9_isGift : MethodName := ⟨RX9, "isGift", "(I)Z"⟩
abbrev cX9_gift : ByteArray := prog_11_method_32_code
def yX9_gift : MethodName := ⟨RX9, "gift", "(I)I"⟩
abbrev cX9_statute : ByteArray := prog_11_method_33_code
def yX9_statute : MethodName := ⟨RX9, "statute", "(I)I"⟩
abbrev cX9_work : ByteArray := prog_11_method_34_code
def yX9_work : MethodName := ⟨RX9, "work", "()I"⟩
abbrev cX9_endFor : ByteArray := prog_11_method_35_code
def yX9_endFor : MethodName := ⟨RX9, "endFor", "(II)I"⟩
abbrev cX9_end : ByteArray := prog_11_method_36_code
def yX9_end : MethodName := ⟨RX9, "end", "(II)I"⟩
abbrev cX9_hinders : ByteArray := prog_11_method_37_code
def yX9_hinders : MethodName := ⟨RX9, "hinders", "(I)I"⟩
abbrev cX9_may : ByteArray := prog_11_method_38_code
def yX9_may : MethodName := ⟨RX9, "may", "(I)I"⟩
abbrev cX9_falls : ByteArray := prog_11_method_39_code
def yX9_falls : MethodName := ⟨RX9, "falls", "(I)I"⟩
abbrev cX9_lay : ByteArray := prog_11_method_40_code
def yX9_lay : MethodName := ⟨RX9, "lay", "(I)I"⟩
abbrev cX9_strike : ByteArray := prog_11_method_41_code
def yX9_strike : MethodName := ⟨RX9, "strike", "(I)I"⟩
abbrev cX9_prop : ByteArray := prog_11_method_42_code
def yX9_prop : MethodName := ⟨RX9, "prop", "(II)I"⟩
abbrev cX9_month : ByteArray := prog_11_method_43_code
def yX9_month : MethodName := ⟨RX9, "month", "(I)I"⟩
abbrev cX9_frost : ByteArray := prog_11_method_44_code
def yX9_frost : MethodName := ⟨RX9, "frost", "(I)I"⟩
abbrev cX9_bitter : ByteArray := prog_11_method_45_code
def yX9_bitter : MethodName := ⟨RX9, "bitter", "(I)I"⟩
abbrev cX9_about : ByteArray := prog_11_method_46_code
def yX9_about : MethodName := ⟨RX9, "about", "(II)I"⟩
abbrev cX9_stands : ByteArray := prog_11_method_47_code
def yX9_stands : MethodName := ⟨RX9, "stands", "(II)Z"⟩
abbrev cX9_support : ByteArray := prog_11_method_48_code
def yX9_support : MethodName := ⟨RX9, "support", "(II)I"⟩
abbrev cX9_left : ByteArray := prog_11_method_49_code
def yX9_left : MethodName := ⟨RX9, "left", "(II)I"⟩
abbrev cX9_as : ByteArray := prog_11_method_50_code
def yX9_as : MethodName := ⟨RX9, "as", "(II)I"⟩
abbrev cX9_down : ByteArray := prog_11_method_51_code
def yX9_down : MethodName := ⟨RX9, "down", "(I)I"⟩
abbrev cX9_needs : ByteArray := prog_11_method_52_code
def yX9_needs : MethodName := ⟨RX9, "needs", "(I)I"⟩
abbrev cX9_count : ByteArray := prog_11_method_53_code
def yX9_count : MethodName := ⟨RX9, "count", "(I)I"⟩
def RJ11 : String := "java/lang/Character"
def TJ11 : u_T := fun k => match k with
  | _ => ("", "", "", false)
def tyJ11 : Nat → FieldType := fun k => match k with
  | _ => .int
theorem nmJ11 : ∀ a, a < 0 → ∀ b, b < 0 → a ≠ b → (TJ11 a).2.1 ≠ (TJ11 b).2.1 := by decide +kernel
theorem tyJ11_ok : ∀ k, k < 0 → parseFieldDescriptor (TJ11 k).2.2.1 = some (tyJ11 k) := by decide +kernel
abbrev cJ11_isValidCodePoint_9a6ad : ByteArray := prog_12_method_11_code
def yJ11_isValidCodePoint_9a6ad : MethodName := ⟨RJ11, "isValidCodePoint", "(I)Z"⟩
abbrev cJ11_highSurrogate_5068e : ByteArray := prog_12_method_28_code
def yJ11_highSurrogate_5068e : MethodName := ⟨RJ11, "highSurrogate", "(I)C"⟩
abbrev cJ11_lowSurrogate_5068e : ByteArray := prog_12_method_29_code
def yJ11_lowSurrogate_5068e : MethodName := ⟨RJ11, "lowSurrogate", "(I)C"⟩
def RJx8e188 : String := "java/lang/Cloneable"
def TJx8e188 : u_T := fun k => match k with
  | _ => ("", "", "", false)
def tyJx8e188 : Nat → FieldType := fun k => match k with
  | _ => .int
theorem nmJx8e188 : ∀ a, a < 0 → ∀ b, b < 0 → a ≠ b → (TJx8e188 a).2.1 ≠ (TJx8e188 b).2.1 := by decide +kernel
theorem tyJx8e188_ok : ∀ k, k < 0 → parseFieldDescriptor (TJx8e188 k).2.2.1 = some (tyJx8e188 k) := by decide +kernel
def RJ9 : String := "java/lang/Math"
def TJ9 : u_T := fun k => match k with
  | _ => ("", "", "", false)
def tyJ9 : Nat → FieldType := fun k => match k with
  | _ => .int
theorem nmJ9 : ∀ a, a < 0 → ∀ b, b < 0 → a ≠ b → (TJ9 a).2.1 ≠ (TJ9 b).2.1 := by decide +kernel
theorem tyJ9_ok : ∀ k, k < 0 → parseFieldDescriptor (TJ9 k).2.2.1 = some (tyJ9 k) := by decide +kernel
abbrev cJ9_abs_0f7a4 : ByteArray := prog_14_method_59_code
def yJ9_abs_0f7a4 : MethodName := ⟨RJ9, "abs", "(I)I"⟩
abbrev cJ9_max_7cf53 : ByteArray := prog_14_method_65_code
def yJ9_max_7cf53 : MethodName := ⟨RJ9, "max", "(II)I"⟩
abbrev cJ9_min_7cf53 : ByteArray := prog_14_method_69_code
def yJ9_min_7cf53 : MethodName := ⟨RJ9, "min", "(II)I"⟩
def RJ0 : String := "java/lang/String"
def TJ0 : u_T := fun k => match k with
  | _ => ("", "", "", false)
def tyJ0 : Nat → FieldType := fun k => match k with
  | _ => .int
theorem nmJ0 : ∀ a, a < 0 → ∀ b, b < 0 → a ≠ b → (TJ0 a).2.1 ≠ (TJ0 b).2.1 := by decide +kernel
theorem tyJ0_ok : ∀ k, k < 0 → parseFieldDescriptor (TJ0 k).2.2.1 = some (tyJ0 k) := by decide +kernel
abbrev cJ0_length_8abf5 : ByteArray := prog_15_method_54_code
def yJ0_length_8abf5 : MethodName := ⟨RJ0, "length", "()I"⟩
abbrev cJ0_indexOf_0f7a4 : ByteArray := prog_15_method_79_code
def yJ0_indexOf_0f7a4 : MethodName := ⟨RJ0, "indexOf", "(I)I"⟩
abbrev cJ0_indexOf_7cf53 : ByteArray := prog_15_method_80_code
def yJ0_indexOf_7cf53 : MethodName := ⟨RJ0, "indexOf", "(II)I"⟩
abbrev cJ0_coder_7d493 : ByteArray := prog_15_method_152_code
def yJ0_coder_7d493 : MethodName := ⟨RJ0, "coder", "()B"⟩
abbrev cJ0_isLatin1_aae02 : ByteArray := prog_15_method_154_code
def yJ0_isLatin1_aae02 : MethodName := ⟨RJ0, "isLatin1", "()Z"⟩
abbrev cJ0_checkBoundsBeginEnd_23922 : ByteArray := prog_15_method_158_code
def yJ0_checkBoundsBeginEnd_23922 : MethodName := ⟨RJ0, "checkBoundsBeginEnd", "(III)V"⟩
def RJ1 : String := "java/lang/StringLatin1"
def TJ1 : u_T := fun k => match k with
  | _ => ("", "", "", false)
def tyJ1 : Nat → FieldType := fun k => match k with
  | _ => .int
theorem nmJ1 : ∀ a, a < 0 → ∀ b, b < 0 → a ≠ b → (TJ1 a).2.1 ≠ (TJ1 b).2.1 := by decide +kernel
theorem tyJ1_ok : ∀ k, k < 0 → parseFieldDescriptor (TJ1 k).2.2.1 = some (tyJ1 k) := by decide +kernel
abbrev cJ1_canEncode_9a6ad : ByteArray := prog_16_method_4_code
def yJ1_canEncode_9a6ad : MethodName := ⟨RJ1, "canEncode", "(I)Z"⟩
abbrev cJ1_indexOf_4cfef : ByteArray := prog_16_method_22_code
def yJ1_indexOf_4cfef : MethodName := ⟨RJ1, "indexOf", "([BIII)I"⟩
abbrev cJ1_indexOfChar_4cfef : ByteArray := prog_16_method_23_code
def yJ1_indexOfChar_4cfef : MethodName := ⟨RJ1, "indexOfChar", "([BIII)I"⟩
def RJ2 : String := "java/lang/StringUTF16"
def TJ2 : u_T := fun k => match k with
  | _ => ("", "", "", false)
def tyJ2 : Nat → FieldType := fun k => match k with
  | _ => .int
theorem nmJ2 : ∀ a, a < 0 → ∀ b, b < 0 → a ≠ b → (TJ2 a).2.1 ≠ (TJ2 b).2.1 := by decide +kernel
theorem tyJ2_ok : ∀ k, k < 0 → parseFieldDescriptor (TJ2 k).2.2.1 = some (tyJ2 k) := by decide +kernel
abbrev cJ2_getChar_3b067 : ByteArray := prog_17_method_5_code
def yJ2_getChar_3b067 : MethodName := ⟨RJ2, "getChar", "([BI)C"⟩
abbrev cJ2_length_9d52b : ByteArray := prog_17_method_6_code
def yJ2_length_9d52b : MethodName := ⟨RJ2, "length", "([B)I"⟩
abbrev cJ2_indexOf_4cfef : ByteArray := prog_17_method_40_code
def yJ2_indexOf_4cfef : MethodName := ⟨RJ2, "indexOf", "([BIII)I"⟩
abbrev cJ2_indexOfChar_4cfef : ByteArray := prog_17_method_47_code
def yJ2_indexOfChar_4cfef : MethodName := ⟨RJ2, "indexOfChar", "([BIII)I"⟩
abbrev cJ2_indexOfCharUnsafe_4cfef : ByteArray := prog_17_method_48_code
def yJ2_indexOfCharUnsafe_4cfef : MethodName := ⟨RJ2, "indexOfCharUnsafe", "([BIII)I"⟩
abbrev cJ2_indexOfSupplementary_4cfef : ByteArray := prog_17_method_49_code
def yJ2_indexOfSupplementary_4cfef : MethodName := ⟨RJ2, "indexOfSupplementary", "([BIII)I"⟩
abbrev cJ2_checkBoundsBeginEnd_d044e : ByteArray := prog_17_method_93_code
def yJ2_checkBoundsBeginEnd_d044e : MethodName := ⟨RJ2, "checkBoundsBeginEnd", "(II[B)V"⟩
def RJ10 : String := "java/lang/System"
def TJ10 : u_T := fun k => match k with
  | _ => ("", "", "", false)
def tyJ10 : Nat → FieldType := fun k => match k with
  | _ => .int
theorem nmJ10 : ∀ a, a < 0 → ∀ b, b < 0 → a ≠ b → (TJ10 a).2.1 ≠ (TJ10 b).2.1 := by decide +kernel
theorem tyJ10_ok : ∀ k, k < 0 → parseFieldDescriptor (TJ10 k).2.2.1 = some (tyJ10 k) := by decide +kernel
def RJ7 : String := "java/util/Arrays"
def TJ7 : u_T := fun k => match k with
  | _ => ("", "", "", false)
def tyJ7 : Nat → FieldType := fun k => match k with
  | _ => .int
theorem nmJ7 : ∀ a, a < 0 → ∀ b, b < 0 → a ≠ b → (TJ7 a).2.1 ≠ (TJ7 b).2.1 := by decide +kernel
theorem tyJ7_ok : ∀ k, k < 0 → parseFieldDescriptor (TJ7 k).2.2.1 = some (tyJ7 k) := by decide +kernel
abbrev cJ7_fill_53178 : ByteArray := prog_19_method_103_code
def yJ7_fill_53178 : MethodName := ⟨RJ7, "fill", "([II)V"⟩
abbrev cJ7_copyOf_59c91 : ByteArray := prog_19_method_123_code
def yJ7_copyOf_59c91 : MethodName := ⟨RJ7, "copyOf", "([II)[I"⟩
def RJ3 : String := "jdk/internal/util/Preconditions"
def TJ3 : u_T := fun k => match k with
  | _ => ("", "", "", false)
def tyJ3 : Nat → FieldType := fun k => match k with
  | _ => .int
theorem nmJ3 : ∀ a, a < 0 → ∀ b, b < 0 → a ≠ b → (TJ3 a).2.1 ≠ (TJ3 b).2.1 := by decide +kernel
theorem tyJ3_ok : ∀ k, k < 0 → parseFieldDescriptor (TJ3 k).2.2.1 = some (tyJ3 k) := by decide +kernel
abbrev cJ3_checkFromToIndex_8c36e : ByteArray := prog_20_method_12_code
def yJ3_checkFromToIndex_8c36e : MethodName := ⟨RJ3, "checkFromToIndex", "(IIILjava/util/function/BiFunction;)I"⟩
def RL : String := "ChurchLodgeLaw"
abbrev cL_law : ByteArray := code
def yL_law : MethodName := ⟨RL, "law", "([I)Z"⟩
end
section
/-! THE WORLD BY NAMES. A cell's name is (id, i): id < 100: the i-th object of class id (cls); id = 100 * (c + 1) + k: the array in field k of the i-th object of class c. V id i j: the int there (of a scalar field: V (its id) i 0). -/
abbrev Vt : Type := Nat → Nat → Nat → Int32
/-- what never changes in a run: class numbers, array classes, the heap at the law's entry, String constants' cells and rows, MOST_TOLD's row -/
abbrev Gt : Type := va_G × (Nat → ClassId) × Heap × (Nat → Nat) × (Nat → Nat) × Nat
/-- what only makings change: addresses, which objects there are, lengths of arrays, references -/
abbrev Et : Type := (Nat → Nat → Nat) × (Nat → Nat → Prop) × (Nat → Nat → Nat) × (Nat → Nat → Option Nat)
abbrev gD (G : Gt) : va_G := G.1
abbrev gT (G : Gt) : Nat → ClassId := G.2.1
abbrev gB (G : Gt) : Heap := G.2.2.1
abbrev gK (G : Gt) : Nat → Nat := G.2.2.2.1
abbrev gV (G : Gt) : Nat → Nat := G.2.2.2.2.1
abbrev gM (G : Gt) : Nat := G.2.2.2.2.2
abbrev eA (E : Et) : Nat → Nat → Nat := E.1
abbrev eL (E : Et) : Nat → Nat → Prop := E.2.1
abbrev eN (E : Et) : Nat → Nat → Nat := E.2.2.1
abbrev eR (E : Et) : Nat → Nat → Option Nat := E.2.2.2
def cls : List vw_C := [(RX0, TX0, 3), (RX1, TX1, 3), (RX2, TX2, 14), (RX3, TX3, 7), (RX4, TX4, 2), (RX5, TX5, 2), (RX6, TX6, 6), (RX7, TX7, 1), (RX8, TX8, 13), (RX9, TX9, 47)]
/-- kinds of fields: 0 an int; 1, 2, 3 a row of ints, bytes, booleans; 4, 5, 6 a row of Parts, Gifts, Texts; 8 a Text or null; 10 + c the one object of class c -/
def fkl (c : Nat) : List Nat := match c with
  | 0 => [1, 0, 0]
  | 1 => [0, 8, 0]
  | 2 => [0, 0, 0, 0, 1, 1, 1, 1, 0, 0, 0, 0, 0, 0]
  | 3 => [4, 1, 1, 1, 1, 0, 0]
  | 4 => [1, 1]
  | 5 => [1, 1]
  | 6 => [1, 1, 1, 0, 0, 0]
  | 7 => [1]
  | 8 => [13, 15, 10, 16, 14, 5, 6, 1, 1, 0, 0, 0, 0]
  | 9 => [0, 0, 1, 1, 1, 1, 1, 1, 1, 1, 1, 1, 1, 1, 3, 1, 1, 1, 0, 0, 0, 0, 3, 1, 0, 1, 1, 1, 1, 1, 2, 0, 0, 1, 1, 0, 1, 1, 0, 1, 1, 1, 0, 1, 1, 3, 3]
  | _ => []
def kdo (id : Nat) : Nat := (fkl (id / 100 - 1)).getD (id % 100) 0
def fval (E : Et) (V : Vt) (c i k kd : Nat) : Value := match kd with
  | 0 => .int (V (100 * (c + 1) + k) i 0)
  | 8 => va_rf ((eR E (100 * (c + 1) + k) i).map (eA E 7))
  | 1 => .ref (eA E (100 * (c + 1) + k) i)
  | 2 => .ref (eA E (100 * (c + 1) + k) i)
  | 3 => .ref (eA E (100 * (c + 1) + k) i)
  | 4 => .ref (eA E (100 * (c + 1) + k) i)
  | 5 => .ref (eA E (100 * (c + 1) + k) i)
  | 6 => .ref (eA E (100 * (c + 1) + k) i)
  | n => .ref (eA E (n - 10) 0)
def fvs (E : Et) (V : Vt) (c i : Nat) : Nat → List Nat → List Value
  | _, [] => []
  | k, kd :: t => fval E V c i k kd :: fvs E V c i (k + 1) t
def obF (E : Et) (V : Vt) (c i : Nat) : List Value := fvs E V c i 0 (fkl c)
def arC (G : Gt) (E : Et) (V : Vt) (id i kd : Nat) : va_E := match kd with
  | 1 => .inl (gT G 0, eN E id i, .inl (V id i))
  | 2 => .inl (gT G 1, eN E id i, .inl (V id i))
  | 3 => .inl (gT G 2, eN E id i, .inl (V id i))
  | 4 => .inl (gT G 3, eN E id i, .inr (.inr (.inr (.inr (fun j => (eR E id j).map (eA E 2))))))
  | 5 => .inl (gT G 4, eN E id i, .inr (.inr (.inr (.inr (fun j => (eR E id j).map (eA E 1))))))
  | _ => .inl (gT G 5, eN E id i, .inr (.inr (.inr (.inr (fun j => (eR E id j).map (eA E 7))))))
def cellOf (G : Gt) (E : Et) (V : Vt) (id i : Nat) : va_E := if id < 100 then .inr (id, obF E V id i) else arC G E V id i (kdo id)
def Lv (E : Et) (id i : Nat) : Prop := if id < 100 then eL E id i else 1 ≤ kdo id ∧ kdo id ≤ 6 ∧ eL E (id / 100 - 1) i
def RepH (G : Gt) (E : Et) (V : Vt) (H : Heap) : Prop :=
  (∀ q, q < (gB G).size → H[q]? = (gB G)[q]?) ∧ (∀ id i, Lv E id i → (gB G).size ≤ eA E id i ∧ va_at (gD G) cls (eA E id i, cellOf G E V id i) H) ∧ ∀ id i id' i', Lv E id i → Lv E id' i' → eA E id i = eA E id' i' → id = id' ∧ i = i'
def up3 (V : Vt) (f i j : Nat) (v : Int32) : Vt := fun f' i' j' => if f' = f ∧ i' = i ∧ j' = j then v else V f' i' j'
theorem up3_s (V : Vt) (f i j : Nat) (v : Int32) : up3 V f i j v f i j = v := by simp [up3]
theorem up3_f {V : Vt} {f i j f' i' j' : Nat} {v : Int32} (h : f' ≠ f) : up3 V f i j v f' i' j' = V f' i' j' := by simp [up3, h]
theorem up3_i {V : Vt} {f i j f' i' j' : Nat} {v : Int32} (h : i' ≠ i) : up3 V f i j v f' i' j' = V f' i' j' := by simp [up3, h]
theorem up3_j {V : Vt} {f i j f' i' j' : Nat} {v : Int32} (h : j' ≠ j) : up3 V f i j v f' i' j' = V f' i' j' := by simp [up3, h]
theorem up3_row (V : Vt) (f i j : Nat) (v : Int32) : up3 V f i j v f i = upd (V f i) j v := by
  funext x
  simp only [up3, upd, true_and]
theorem fvs_get (E : Et) (V : Vt) (c i : Nat) : ∀ (l : List Nat) (k0 k : Nat), (fvs E V c i k0 l)[k]? = (l[k]?).map (fval E V c i (k0 + k))
  | [], k0, k => by simp [fvs]
  | kd :: t, k0, 0 => by simp [fvs]
  | kd :: t, k0, k + 1 => by
    simp only [fvs, List.getElem?_cons_succ]
    rw [fvs_get E V c i t (k0 + 1) k, show k0 + 1 + k = k0 + (k + 1) by omega]
theorem obF_get (E : Et) (V : Vt) (c i k : Nat) : (obF E V c i)[k]? = ((fkl c)[k]?).map (fval E V c i k) := by
  unfold obF
  rw [fvs_get, Nat.zero_add]
theorem fkl_len (c : Nat) : (fkl c).length ≤ 60 := by
  unfold fkl
  split <;> simp
theorem fkl_lt {c k kd : Nat} (h : (fkl c)[k]? = some kd) : k < 60 := Nat.lt_of_lt_of_le (List.getElem?_eq_some_iff.mp h).1 (fkl_len c)
theorem kdo_at {c k kd : Nat} (h : (fkl c)[k]? = some kd) : kdo (100 * (c + 1) + k) = kd := by
  have hk := fkl_lt h
  unfold kdo
  rw [show (100 * (c + 1) + k) / 100 - 1 = c by omega, show (100 * (c + 1) + k) % 100 = k by omega]
  simp [List.getD, h]
/-- a row's write changes no object's fields -/
theorem obF_row {E : Et} {V : Vt} {f i0 j c i : Nat} {v : Int32} (hf : kdo f ≠ 0) : obF E (up3 V f i0 j v) c i = obF E V c i := by
  apply List.ext_getElem?
  intro k
  rw [obF_get, obF_get]
  cases h : (fkl c)[k]? with
  | none => rfl
  | some kd =>
    simp only [Option.map_some]
    congr 1
    unfold fval
    split <;> first | rfl | skip
    rw [up3_f (fun e => hf (by rw [← e]; exact kdo_at h))]
/-- a scalar's write changes no row -/
theorem arC_other {G : Gt} {E : Et} {V : Vt} {f i0 j id i : Nat} {v : Int32} (h : ¬ (id = f ∧ i = i0)) (kd : Nat) : arC G E (up3 V f i0 j v) id i kd = arC G E V id i kd := by
  have e : up3 V f i0 j v id i = V id i := by
    funext x
    by_cases h1 : id = f
    · exact up3_i (fun q => h ⟨h1, q⟩)
    · exact up3_f h1
  unfold arC
  split <;> first | rw [e] | rfl
theorem obF_put {E : Et} {V : Vt} {c i k : Nat} {v : Int32} (hk : (fkl c)[k]? = some 0) : obF E (up3 V (100 * (c + 1) + k) i 0 v) c i = (obF E V c i).set k (.int v) := by
  apply List.ext_getElem?
  intro x
  have hk60 := fkl_lt hk
  rw [List.getElem?_set, obF_get, obF_get]
  by_cases hx : k = x
  · subst hx
    have hl : k < (obF E V c i).length := by
      have : (obF E V c i)[k]? = some (fval E V c i k 0) := by rw [obF_get, hk]; rfl
      exact (List.getElem?_eq_some_iff.mp this).1
    rw [if_pos rfl, if_pos hl, hk]
    simp only [Option.map_some, fval, up3_s]
  · rw [if_neg hx]
    cases h : (fkl c)[x]? with
    | none => rfl
    | some kd =>
      simp only [Option.map_some]
      congr 1
      unfold fval
      split <;> first | rfl | skip
      rw [up3_f (by omega)]
theorem obF_other {E : Et} {V : Vt} {c i k c' i' : Nat} {v : Int32} (hk : (fkl c)[k]? = some 0) (h : ¬ (c' = c ∧ i' = i)) : obF E (up3 V (100 * (c + 1) + k) i 0 v) c' i' = obF E V c' i' := by
  apply List.ext_getElem?
  intro x
  have hk60 := fkl_lt hk
  rw [obF_get, obF_get]
  cases hx : (fkl c')[x]? with
  | none => rfl
  | some kd =>
    have hx60 := fkl_lt hx
    simp only [Option.map_some]
    congr 1
    unfold fval
    split <;> first | rfl | skip
    by_cases hi : i' = i
    · rw [up3_f (fun e => h ⟨by omega, hi⟩)]
    · rw [up3_i hi]
/-- the heap behind a write to one named cell -/
theorem RepH.wr {G : Gt} {E : Et} {V V' : Vt} {H H1 : Heap} {id i : Nat} (h : RepH G E V H) (hl : Lv E id i) (hz : H1.size = H.size) (ho : ∀ q, q ≠ eA E id i → H1[q]? = H[q]?) (hs : va_at (gD G) cls (eA E id i, cellOf G E V' id i) H1) (hv : ∀ id' i', ¬ (id' = id ∧ i' = i) → cellOf G E V' id' i' = cellOf G E V id' i') : RepH G E V' H1 := by
  obtain ⟨h1, h2, h3⟩ := h
  refine ⟨fun q hq => ?_, fun id' i' hl' => ?_, h3⟩
  · have := (h2 id i hl).1
    rw [ho q (by omega)]
    exact h1 q hq
  · refine ⟨(h2 id' i' hl').1, ?_⟩
    by_cases he : id' = id ∧ i' = i
    · obtain ⟨rfl, rfl⟩ := he
      exact hs
    · rw [hv id' i' he]
      exact (h2 id' i' hl').2.kept (ho _ (fun e => he (h3 id' i' id i hl' hl e)))
def tb : List Cond := lw_tbl.filter goodWord
theorem tb_in {w : Cond} (h : w ∈ lw_tbl) (hg : goodWord w = true) : w ∈ tb := List.mem_filter.mpr ⟨h, hg⟩
theorem tb_good {w : Cond} (h : w ∈ tb) : goodWord w = true := (List.mem_filter.mp h).2
theorem tb_GoodIn {y : MethodName} {cc : ByteArray} {n : Nat} {ret : Option FieldType} (h : Cond.code y cc n ret ∈ tb) : GoodIn tb (Cond.code y cc n ret :: tb) := fun w hw => by
  rcases List.mem_cons.mp hw with rfl | h1
  · exact ⟨h, good_of_word (tb_good h)⟩
  · exact ⟨h1, good_of_word (tb_good h1)⟩
def tyL (G : Gt) : List (ClassId × FieldType) := [(gT G 0, .int), (gT G 1, .byte), (gT G 2, .boolean), (gT G 3, .object RX2), (gT G 4, .object RX1), (gT G 5, .object RX7)]
abbrev gA (G : Gt) : Nat → Prop := fun a => (gB G).size ≤ a
def sLen : List Nat := [8, 9]
def sByt : List (List Int32) := [[112, 107, 110, 119, 109, 121, 102, 100], [33, 43, 45, 42, 60, 61, 62, 38, 124]]
def mTold : List Int32 := [1000000, 100000, 100, 24]
def BF (G : Gt) (U : State) : Prop :=
  vk_R RX4 9 "pknwmyfd" (gK G 0) U ∧ vk_R RX4 69 "!+-*<=>&|" (gK G 1) U ∧ vk_R RX6 42 "!+-*<=>&|" (gK G 1) U ∧ vk_R RX6 71 "pknwmyfd" (gK G 0) U ∧
  vk_S 2 sLen sByt (gK G) (gV G) (gA G) U (gB G) ∧ va_Z RX8 "MOST_TOLD" "[I" (.ref (gM G)) (gA G) U (gB G) ∧ va_T .int (gM G) 4 (fun j => .int (mTold.getD j 0)) (gA G) U (gB G) ∧ va_Z "java/lang/String" "COMPACT_STRINGS" "Z" (.int 1) (gA G) U (gB G)
theorem BF.warm {G : Gt} {s U : State} (hW : s.WarmedH U.vm) (h : BF G s) : BF G U := by
  obtain ⟨a, b, c, d, e, f, g, i⟩ := h
  exact ⟨a.warm hW, b.warm hW, c.warm hW, d.warm hW, e.moved hW.alike, f.moved hW.alike, g.moved hW.alike, i.moved hW.alike⟩
theorem BF.same {G : Gt} {s U : State} (hv : U.vm = s.vm) (h : BF G s) : BF G U := by
  obtain ⟨a, b, c, d, e, f, g, i⟩ := h
  have hal : s.vm.Alike U.vm := by rw [hv]; exact Vm.Alike.refl _
  exact ⟨a.same hv, b.same hv, c.same hv, d.same hv, e.moved hal, f.moved hal, g.moved hal, i.moved hal⟩
def KU (G : Gt) (U : State) : Prop := va_K (gD G) cls (tyL G) U ∧ BF G U
theorem KU.warm {G : Gt} {s U : State} (hW : s.WarmedH U.vm) (h : KU G s) : KU G U := ⟨va_K.moved hW.alike h.1, h.2.warm hW⟩
theorem KU.same {G : Gt} {s U : State} (hv : U.vm = s.vm) (h : KU G s) : KU G U := ⟨va_K.moved (by rw [hv]; exact Vm.Alike.refl _) h.1, h.2.same hv⟩
def Qo (G : Gt) (Q : Option Value → Et → Vt → Prop) : Array Value → State → Outcome → State → Prop := fun _ _ oc t => ∃ r E V, oc = .returned r ∧ Q r E V ∧ RepH G E V t.heap
def Cx (G : Gt) (own : String) (cc : ByteArray) (nL : Nat) (ret : Option FieldType) (p : Program) (s : State) (m : MethodId) (args : Array Value) (meth : Method) (c : Code) : Prop :=
  p.tables.exec = Jvm.exec ∧ c.code = cc ∧ meth.sig.returnType = ret ∧ c.maxLocals = nL ∧ s.vm.findClass own = some m.cls ∧ (∀ w ∈ tb, w.before args s = true) ∧ meth.locks = false ∧ KU G s
/-- the method own.., at pc, with the locals ll, the operands st, the world E, V, k cells and n slots made: it comes to its end, with Q -/
def Ev (l : Launch) (G : Gt) (own : String) (cc : ByteArray) (nL : Nat) (ret : Option FieldType) (rm : Room) (E : Et) (k n : Nat) (V : Vt) (pc : Nat) (ll : List (Nat × Value)) (st : List Value) (Q : Option Value → Et → Vt → Prop) : Prop :=
  ∀ (p : Program) (e : Env) (s : State) (m : MethodId) (args : Array Value) (below : List Frame) (meth : Method) (c : Code) (H : Heap) (locs : List Loc) (ls : Array Slot),
    Cx G own cc nL ret p s m args meth c → RepH G E V H → (∀ q ∈ locs, gA G q.base) → lv_has ls nL ll →
    W p l e rm s m args below meth c H locs k n (MQ below (Qo G Q) args s rm.cells rm.slots (gA G)) (F0 m pc ls st)
/-- a call of y with the arguments as in the world E, V: it returns, with Q -/
def Cl (l : Launch) (G : Gt) (y : MethodName) (cc : ByteArray) (nL : Nat) (ret : Option FieldType) (rm : Room) (E : Et) (V : Vt) (as : List Value) (Q : Option Value → Et → Vt → Prop) : Prop :=
  Met l y (Cond.code y cc nL ret :: tb) rm (va_Pc as (fun U => KU G U ∧ RepH G E V U.heap)) (Qo G Q) rm.cells rm.slots (gA G)
theorem Cl.of {l : Launch} {G : Gt} {y : MethodName} {cc : ByteArray} {nL : Nat} {ret : Option FieldType} {rm : Room} {E : Et} {V : Vt} {as : List Value} {Q : Option Value → Et → Vt → Prop} (hy : plainName y.cls = true) (hn : (lg_sl as).length ≤ nL)
    (h : Ev l G y.cls cc nL ret rm E 0 0 V 0 (lv_args 0 as) [] Q) : Cl l G y cc nL ret rm E V as Q := by
  refine Met.ofW (cc := cc) (maxL := nL) (ret := ret) hy rfl ?_
  intro p e s m args below meth c s₁ B hml hv
  obtain ⟨rfl, hK, hR⟩ := hv
  have hts := atoms_spec (ws := Cond.code y cc nL ret :: tb) B.pre
  have hl := lv_entry as (n := nL) hn
  rw [lg_entry_eq]
  exact h p e s m _ below meth c s.heap [] _ ⟨B.exec, B.bytes, B.returns, hml, findClass_of_methodNamed B.named, fun w hw => hts w (List.mem_cons_of_mem _ hw), B.notSynchronized, hK⟩ hR (fun q h => by cases h) hl
end
section
/-! A ROW AN INSTRUCTION, over Ev -/
def lk : List (Nat × Value) → Nat → Option Value
  | [], _ => none
  | q :: t, i => match Nat.beq q.1 i with
    | true => some q.2
    | false => lk t i
theorem lk_mem : ∀ (l : List (Nat × Value)) {i : Nat} {v : Value}, lk l i = some v → (i, v) ∈ l
  | [], i, v, h => by simp [lk] at h
  | (j, w) :: t, i, v, h => by
    unfold lk at h
    split at h
    · rename_i hb
      have hj : j = i := Nat.eq_of_beq_eq_true hb
      subst hj
      cases h
      exact List.mem_cons_self
    · exact List.mem_cons_of_mem _ (lk_mem t h)
theorem lk_at {ls : Array Slot} {nL : Nat} {l : List (Nat × Value)} (h : lv_has ls nL l) {i : Nat} {v : Value} (hk : lk l i = some v) : ls[i]? = some (.val v) := h.2.2 (i, v) (lk_mem l hk)
def fst1 (i : Nat) (q : Nat × Value) : Bool := !(q.1 == i) && !(q.1 + 1 == i && q.2.category == 2)
/-- the locals behind a store of a value of one word: its place stays where it was -/
def sto (i : Nat) (v : Value) : List (Nat × Value) → List (Nat × Value)
  | [] => [(i, v)]
  | q :: t => match Nat.beq q.1 i with
    | true => (i, v) :: t.filter (fst1 i)
    | false => match fst1 i q with
      | true => q :: sto i v t
      | false => sto i v t
theorem sto_mem (i : Nat) (v : Value) : ∀ (l : List (Nat × Value)) (q : Nat × Value), q ∈ sto i v l → q ∈ (i, v) :: l.filter (fst1 i)
  | [], q, h => by simpa [sto] using h
  | r :: t, q, h => by
    unfold sto at h
    split at h
    · rcases List.mem_cons.mp h with h | h
      · exact List.mem_cons.mpr (Or.inl h)
      · refine List.mem_cons.mpr (Or.inr ?_)
        rw [List.filter_cons]
        split
        · exact List.mem_cons_of_mem _ h
        · exact h
    · split at h
      · rename_i hf
        rcases List.mem_cons.mp h with h | h
        · subst h
          refine List.mem_cons.mpr (Or.inr ?_)
          rw [List.filter_cons, hf]
          exact List.mem_cons_self
        · rcases List.mem_cons.mp (sto_mem i v t q h) with h | h
          · exact List.mem_cons.mpr (Or.inl h)
          · refine List.mem_cons.mpr (Or.inr ?_)
            rw [List.filter_cons, hf]
            exact List.mem_cons_of_mem _ h
      · rename_i hf
        rcases List.mem_cons.mp (sto_mem i v t q h) with h | h
        · exact List.mem_cons.mpr (Or.inl h)
        · refine List.mem_cons.mpr (Or.inr ?_)
          rw [List.filter_cons, hf]
          exact h
theorem sto_has {ls : Array Slot} {nL i : Nat} {v : Value} {l : List (Nat × Value)} (h : lv_has ls nL ((i, v) :: l.filter (fst1 i))) : lv_has ls nL (sto i v l) := ⟨h.1, h.2.1, fun q hq => h.2.2 q (sto_mem i v l q hq)⟩
def rl (v : Value) : Prop := v = .null ∨ ∃ a, v = .ref a
theorem rl_ref (a : Nat) : rl (.ref a) := Or.inr ⟨a, rfl⟩
theorem rl_rf (o : Option Nat) : rl (va_rf o) := by
  cases o with
  | none => exact Or.inl rfl
  | some a => exact Or.inr ⟨a, rfl⟩
section Rows
variable {l : Launch} {G : Gt} {own : String} {cc : ByteArray} {nL : Nat} {ret : Option FieldType} {rm : Room} {E : Et} {k n : Nat} {V : Vt} {pc : Nat} {ll : List (Nat × Value)} {st : List Value} {Q : Option Value → Et → Vt → Prop}
theorem Ev.loc {ll' : List (Nat × Value)} (ks : List Nat) (h : lv_pick ll ks = ll') (kk : Ev l G own cc nL ret rm E k n V pc ll' st Q) : Ev l G own cc nL ret rm E k n V pc ll st Q :=
  fun p e s m args below meth c H locs ls C hR hL hl => kk p e s m args below meth c H locs ls C hR hL (lv_sub hl ks h)
theorem Ev.mono {Q' : Option Value → Et → Vt → Prop} (hq : ∀ r E' V', Q r E' V' → Q' r E' V') (kk : Ev l G own cc nL ret rm E k n V pc ll st Q) : Ev l G own cc nL ret rm E k n V pc ll st Q' := by
  intro p e s m args below meth c H locs ls C hR hL hl T hT X
  obtain ⟨t, a, o, b1, b2, ⟨r, E', V', c1, c2, c3⟩, b4⟩ := kk p e s m args below meth c H locs ls C hR hL hl T hT X
  exact ⟨t, a, o, b1, b2, ⟨r, E', V', c1, hq _ _ _ c2, c3⟩, b4⟩
theorem r_iconst {z : Int} {v : Int32} (hd : decode cc pc = .ok (.iconst z, 1)) (hv : Int32.ofInt z = v) (kk : Ev l G own cc nL ret rm E k n V (pc + 1) ll (.int v :: st) Q) : Ev l G own cc nL ret rm E k n V pc ll st Q := by
  intro p e s m args below meth c H locs ls C hR hL hl
  obtain ⟨hx, hb, hr, hml, ho, hts, hlk, hK⟩ := And.intro True.intro C |>.2
  exact lv_iconst hx hb hd hv (kk p e s m args below meth c H locs ls C hR hL hl)
theorem r_bipush {z : Int} {v : Int32} (hd : decode cc pc = .ok (.bipush z, 2)) (hv : (Int8.ofInt z).toInt32 = v) (kk : Ev l G own cc nL ret rm E k n V (pc + 2) ll (.int v :: st) Q) : Ev l G own cc nL ret rm E k n V pc ll st Q := by
  intro p e s m args below meth c H locs ls C hR hL hl
  obtain ⟨hx, hb, hr, hml, ho, hts, hlk, hK⟩ := And.intro True.intro C |>.2
  exact lv_bipush hx hb hd hv (kk p e s m args below meth c H locs ls C hR hL hl)
theorem r_sipush {z : Int} {v : Int32} (hd : decode cc pc = .ok (.sipush z, 3)) (hv : (Int16.ofInt z).toInt32 = v) (kk : Ev l G own cc nL ret rm E k n V (pc + 3) ll (.int v :: st) Q) : Ev l G own cc nL ret rm E k n V pc ll st Q := by
  intro p e s m args below meth c H locs ls C hR hL hl
  obtain ⟨hx, hb, hr, hml, ho, hts, hlk, hK⟩ := And.intro True.intro C |>.2
  exact lv_sipush hx hb hd hv (kk p e s m args below meth c H locs ls C hR hL hl)
theorem r_lconst {z : Fin 2} {v : Int64} (hd : decode cc pc = .ok (.lconst z, 1)) (hv : Int64.ofNat (z : Nat) = v) (kk : Ev l G own cc nL ret rm E k n V (pc + 1) ll (.long v :: st) Q) : Ev l G own cc nL ret rm E k n V pc ll st Q := by
  intro p e s m args below meth c H locs ls C hR hL hl
  obtain ⟨hx, hb, hr, hml, ho, hts, hlk, hK⟩ := And.intro True.intro C |>.2
  exact lv_lconst hx hb hd hv (kk p e s m args below meth c H locs ls C hR hL hl)
theorem r_ldc {idx : Nat} {v : Int32} (hd : decode cc pc = .ok (.ldc idx, 2)) (hw : Cond.constant own idx v ∈ tb) (kk : Ev l G own cc nL ret rm E k n V (pc + 2) ll (.int v :: st) Q) : Ev l G own cc nL ret rm E k n V pc ll st Q := by
  intro p e s m args below meth c H locs ls C hR hL hl
  obtain ⟨hx, hb, hr, hml, ho, hts, hlk, hK⟩ := And.intro True.intro C |>.2
  exact lv_ldc hx hb ho (hts _ hw) hd (kk p e s m args below meth c H locs ls C hR hL hl)
theorem r_ldc2 {idx : Nat} {v : Int64} (hd : decode cc pc = .ok (.ldc2_w idx, 3)) (hw : Cond.constantLong own idx v ∈ tb) (kk : Ev l G own cc nL ret rm E k n V (pc + 3) ll (.long v :: st) Q) : Ev l G own cc nL ret rm E k n V pc ll st Q := by
  intro p e s m args below meth c H locs ls C hR hL hl
  obtain ⟨hx, hb, hr, hml, ho, hts, hlk, hK⟩ := And.intro True.intro C |>.2
  exact lv_ldc2 hx hb ho (hts _ hw) hd (kk p e s m args below meth c H locs ls C hR hL hl)
theorem r_null  (hd : decode cc pc = .ok (.aconst_null, 1)) (kk : Ev l G own cc nL ret rm E k n V (pc + 1) ll (.null :: st) Q) : Ev l G own cc nL ret rm E k n V pc ll st Q := by
  intro p e s m args below meth c H locs ls C hR hL hl
  obtain ⟨hx, hb, hr, hml, ho, hts, hlk, hK⟩ := And.intro True.intro C |>.2
  exact lv_null hx hb hd (kk p e s m args below meth c H locs ls C hR hL hl)
theorem r_iload_n {j : Fin 4} {x : Int32} (hd : decode cc pc = .ok (.iload_n j, 1)) (hv : lk ll j.val = some (.int x)) (kk : Ev l G own cc nL ret rm E k n V (pc + 1) ll (.int x :: st) Q) : Ev l G own cc nL ret rm E k n V pc ll st Q := by
  intro p e s m args below meth c H locs ls C hR hL hl
  obtain ⟨hx, hb, hr, hml, ho, hts, hlk, hK⟩ := And.intro True.intro C |>.2
  exact lv_iload_n hx hb hd rfl (lk_at hl hv) (kk p e s m args below meth c H locs ls C hR hL hl)
theorem r_iload {j : Nat} {x : Int32} (hd : decode cc pc = .ok (.iload j, 2)) (hv : lk ll j = some (.int x)) (kk : Ev l G own cc nL ret rm E k n V (pc + 2) ll (.int x :: st) Q) : Ev l G own cc nL ret rm E k n V pc ll st Q := by
  intro p e s m args below meth c H locs ls C hR hL hl
  obtain ⟨hx, hb, hr, hml, ho, hts, hlk, hK⟩ := And.intro True.intro C |>.2
  exact lv_iload hx hb hd (lk_at hl hv) (kk p e s m args below meth c H locs ls C hR hL hl)
theorem r_lload_n {j : Fin 4} {x : Int64} (hd : decode cc pc = .ok (.lload_n j, 1)) (hv : lk ll j.val = some (.long x)) (kk : Ev l G own cc nL ret rm E k n V (pc + 1) ll (.long x :: st) Q) : Ev l G own cc nL ret rm E k n V pc ll st Q := by
  intro p e s m args below meth c H locs ls C hR hL hl
  obtain ⟨hx, hb, hr, hml, ho, hts, hlk, hK⟩ := And.intro True.intro C |>.2
  exact lv_lload_n hx hb hd rfl (lk_at hl hv) (kk p e s m args below meth c H locs ls C hR hL hl)
theorem r_aload_n {j : Fin 4} {v : Value} (hd : decode cc pc = .ok (.aload_n j, 1)) (hv : lk ll j.val = some v) (hr : rl v) (kk : Ev l G own cc nL ret rm E k n V (pc + 1) ll (v :: st) Q) : Ev l G own cc nL ret rm E k n V pc ll st Q := by
  intro p e s m args below meth c H locs ls C hR hL hl
  obtain ⟨hx, hb, -, hml, ho, hts, hlk, hK⟩ := And.intro True.intro C |>.2
  rcases hr with rfl | ⟨a, rfl⟩
  · exact lv_aload_nN hx hb hd rfl (lk_at hl hv) (kk p e s m args below meth c H locs ls C hR hL hl)
  · exact lv_aload_n hx hb hd rfl (lk_at hl hv) (kk p e s m args below meth c H locs ls C hR hL hl)
theorem r_aload {j : Nat} {v : Value} (hd : decode cc pc = .ok (.aload j, 2)) (hv : lk ll j = some v) (hr : rl v) (kk : Ev l G own cc nL ret rm E k n V (pc + 2) ll (v :: st) Q) : Ev l G own cc nL ret rm E k n V pc ll st Q := by
  intro p e s m args below meth c H locs ls C hR hL hl
  obtain ⟨hx, hb, -, hml, ho, hts, hlk, hK⟩ := And.intro True.intro C |>.2
  rcases hr with rfl | ⟨a, rfl⟩
  · exact lv_aloadN hx hb hd (lk_at hl hv) (kk p e s m args below meth c H locs ls C hR hL hl)
  · exact lv_aload hx hb hd (lk_at hl hv) (kk p e s m args below meth c H locs ls C hR hL hl)
theorem r_istore_n {j : Fin 4} {x : Int32} (hd : decode cc pc = .ok (.istore_n j, 1)) (hj : j.val < nL) (kk : Ev l G own cc nL ret rm E k n V (pc + 1) (sto j.val (Value.int x) ll) st Q) : Ev l G own cc nL ret rm E k n V pc ll (Value.int x :: st) Q := by
  intro p e s m args below meth c H locs ls C hR hL hl
  obtain ⟨hx, hb, hr, hml, ho, hts, hlk, hK⟩ := And.intro True.intro C |>.2
  exact lv_istore_n (lv' := (j.val, Value.int x) :: ll.filter (fst1 j.val)) hx hb hd rfl hl hj rfl (fun ls' hl' => kk p e s m args below meth c H locs ls' C hR hL (sto_has hl'))
theorem r_istore {j : Nat} {x : Int32} (hd : decode cc pc = .ok (.istore j, 2)) (hj : j < nL) (kk : Ev l G own cc nL ret rm E k n V (pc + 2) (sto j (Value.int x) ll) st Q) : Ev l G own cc nL ret rm E k n V pc ll (Value.int x :: st) Q := by
  intro p e s m args below meth c H locs ls C hR hL hl
  obtain ⟨hx, hb, hr, hml, ho, hts, hlk, hK⟩ := And.intro True.intro C |>.2
  exact lv_istore (lv' := (j, Value.int x) :: ll.filter (fst1 j)) hx hb hd hl hj rfl (fun ls' hl' => kk p e s m args below meth c H locs ls' C hR hL (sto_has hl'))
theorem r_astore_n {j : Fin 4} {v : Value} (hd : decode cc pc = .ok (.astore_n j, 1)) (hj : j.val < nL) (hr : rl v) (kk : Ev l G own cc nL ret rm E k n V (pc + 1) (sto j.val v ll) st Q) : Ev l G own cc nL ret rm E k n V pc ll (v :: st) Q := by
  intro p e s m args below meth c H locs ls C hR hL hl
  obtain ⟨hx, hb, -, hml, ho, hts, hlk, hK⟩ := And.intro True.intro C |>.2
  rcases hr with rfl | ⟨a, rfl⟩
  · exact lv_astore_nN (lv' := (j.val, Value.null) :: ll.filter (fst1 j.val)) hx hb hd rfl hl hj rfl (fun ls' hl' => kk p e s m args below meth c H locs ls' C hR hL (sto_has hl'))
  · exact lv_astore_n (lv' := (j.val, Value.ref a) :: ll.filter (fst1 j.val)) hx hb hd rfl hl hj rfl (fun ls' hl' => kk p e s m args below meth c H locs ls' C hR hL (sto_has hl'))
theorem r_astore {j : Nat} {v : Value} (hd : decode cc pc = .ok (.astore j, 2)) (hj : j < nL) (hr : rl v) (kk : Ev l G own cc nL ret rm E k n V (pc + 2) (sto j v ll) st Q) : Ev l G own cc nL ret rm E k n V pc ll (v :: st) Q := by
  intro p e s m args below meth c H locs ls C hR hL hl
  obtain ⟨hx, hb, -, hml, ho, hts, hlk, hK⟩ := And.intro True.intro C |>.2
  rcases hr with rfl | ⟨a, rfl⟩
  · exact lv_astoreN (lv' := (j, Value.null) :: ll.filter (fst1 j)) hx hb hd hl hj rfl (fun ls' hl' => kk p e s m args below meth c H locs ls' C hR hL (sto_has hl'))
  · exact lv_astore (lv' := (j, Value.ref a) :: ll.filter (fst1 j)) hx hb hd hl hj rfl (fun ls' hl' => kk p e s m args below meth c H locs ls' C hR hL (sto_has hl'))
def fst2 (i : Nat) (q : Nat × Value) : Bool := !(q.1 == i) && (!(q.1 == i + 1) && !(q.1 + 1 == i && q.2.category == 2))
theorem r_lstore_n {j : Fin 4} {x : Int64} (hd : decode cc pc = .ok (.lstore_n j, 1)) (hj : j.val + 1 < nL) (kk : Ev l G own cc nL ret rm E k n V (pc + 1) ((j.val, Value.long x) :: ll.filter (fst2 j.val)) st Q) : Ev l G own cc nL ret rm E k n V pc ll (Value.long x :: st) Q := by
  intro p e s m args below meth c H locs ls C hR hL hl
  obtain ⟨hx, hb, hr, hml, ho, hts, hlk, hK⟩ := And.intro True.intro C |>.2
  exact lv_lstore_n (lv' := (j.val, Value.long x) :: ll.filter (fst2 j.val)) hx hb hd rfl hl hj rfl (fun ls' hl' => kk p e s m args below meth c H locs ls' C hR hL hl')
theorem r_iinc {j : Nat} {z : Int} {x v : Int32} (hd : decode cc pc = .ok (.iinc j z, 3)) (hv : lk ll j = some (.int x)) (hz : Int32.ofInt z = v) (hj : j < nL) (kk : Ev l G own cc nL ret rm E k n V (pc + 3) (sto j (.int (x + v)) ll) st Q) : Ev l G own cc nL ret rm E k n V pc ll st Q := by
  intro p e s m args below meth c H locs ls C hR hL hl
  obtain ⟨hx, hb, hr, hml, ho, hts, hlk, hK⟩ := And.intro True.intro C |>.2
  subst hz
  obtain ⟨kq, hkq⟩ := List.getElem?_of_mem (lk_mem ll hv)
  exact lv_iinc (lv' := (j, Value.int (x + Int32.ofInt z)) :: ll.filter (fst1 j)) hx hb hd hl (k := kq) hkq rfl hj rfl (fun ls' hl' => kk p e s m args below meth c H locs ls' C hR hL (sto_has hl'))
theorem r_iadd {x y : Int32} (hd : decode cc pc = .ok (.iadd, 1)) (kk : Ev l G own cc nL ret rm E k n V (pc + 1) ll (.int (x + y) :: st) Q) : Ev l G own cc nL ret rm E k n V pc ll (.int y :: .int x :: st) Q := by
  intro p e s m args below meth c H locs ls C hR hL hl
  obtain ⟨hx, hb, hr, hml, ho, hts, hlk, hK⟩ := And.intro True.intro C |>.2
  exact lv_iadd hx hb hd (kk p e s m args below meth c H locs ls C hR hL hl)
theorem r_isub {x y : Int32} (hd : decode cc pc = .ok (.isub, 1)) (kk : Ev l G own cc nL ret rm E k n V (pc + 1) ll (.int (x - y) :: st) Q) : Ev l G own cc nL ret rm E k n V pc ll (.int y :: .int x :: st) Q := by
  intro p e s m args below meth c H locs ls C hR hL hl
  obtain ⟨hx, hb, hr, hml, ho, hts, hlk, hK⟩ := And.intro True.intro C |>.2
  exact lv_isub hx hb hd (kk p e s m args below meth c H locs ls C hR hL hl)
theorem r_imul {x y : Int32} (hd : decode cc pc = .ok (.imul, 1)) (kk : Ev l G own cc nL ret rm E k n V (pc + 1) ll (.int (x * y) :: st) Q) : Ev l G own cc nL ret rm E k n V pc ll (.int y :: .int x :: st) Q := by
  intro p e s m args below meth c H locs ls C hR hL hl
  obtain ⟨hx, hb, hr, hml, ho, hts, hlk, hK⟩ := And.intro True.intro C |>.2
  exact lv_imul hx hb hd (kk p e s m args below meth c H locs ls C hR hL hl)
theorem r_iand {x y : Int32} (hd : decode cc pc = .ok (.iand, 1)) (kk : Ev l G own cc nL ret rm E k n V (pc + 1) ll (.int (x &&& y) :: st) Q) : Ev l G own cc nL ret rm E k n V pc ll (.int y :: .int x :: st) Q := by
  intro p e s m args below meth c H locs ls C hR hL hl
  obtain ⟨hx, hb, hr, hml, ho, hts, hlk, hK⟩ := And.intro True.intro C |>.2
  exact lv_iand hx hb hd (kk p e s m args below meth c H locs ls C hR hL hl)
theorem r_ior {x y : Int32} (hd : decode cc pc = .ok (.ior, 1)) (kk : Ev l G own cc nL ret rm E k n V (pc + 1) ll (.int (x ||| y) :: st) Q) : Ev l G own cc nL ret rm E k n V pc ll (.int y :: .int x :: st) Q := by
  intro p e s m args below meth c H locs ls C hR hL hl
  obtain ⟨hx, hb, hr, hml, ho, hts, hlk, hK⟩ := And.intro True.intro C |>.2
  exact lv_ior hx hb hd (kk p e s m args below meth c H locs ls C hR hL hl)
theorem r_ishl {x y : Int32} (hd : decode cc pc = .ok (.ishl, 1)) (kk : Ev l G own cc nL ret rm E k n V (pc + 1) ll (.int (x <<< (y &&& 31)) :: st) Q) : Ev l G own cc nL ret rm E k n V pc ll (.int y :: .int x :: st) Q := by
  intro p e s m args below meth c H locs ls C hR hL hl
  obtain ⟨hx, hb, hr, hml, ho, hts, hlk, hK⟩ := And.intro True.intro C |>.2
  exact lv_ishl hx hb hd (kk p e s m args below meth c H locs ls C hR hL hl)
theorem r_ishr {x y : Int32} (hd : decode cc pc = .ok (.ishr, 1)) (kk : Ev l G own cc nL ret rm E k n V (pc + 1) ll (.int (x >>> (y &&& 31)) :: st) Q) : Ev l G own cc nL ret rm E k n V pc ll (.int y :: .int x :: st) Q := by
  intro p e s m args below meth c H locs ls C hR hL hl
  obtain ⟨hx, hb, hr, hml, ho, hts, hlk, hK⟩ := And.intro True.intro C |>.2
  exact lv_ishr hx hb hd (kk p e s m args below meth c H locs ls C hR hL hl)
theorem r_idiv {x y : Int32} (hd : decode cc pc = .ok (.idiv, 1)) (hne : ¬ y = 0) (kk : Ev l G own cc nL ret rm E k n V (pc + 1) ll (.int (x / y) :: st) Q) : Ev l G own cc nL ret rm E k n V pc ll (.int y :: .int x :: st) Q := by
  intro p e s m args below meth c H locs ls C hR hL hl
  obtain ⟨hx, hb, hr, hml, ho, hts, hlk, hK⟩ := And.intro True.intro C |>.2
  exact lv_idiv hx hb hd hne (kk p e s m args below meth c H locs ls C hR hL hl)
theorem r_irem {x y : Int32} (hd : decode cc pc = .ok (.irem, 1)) (hne : ¬ y = 0) (kk : Ev l G own cc nL ret rm E k n V (pc + 1) ll (.int (x - x / y * y) :: st) Q) : Ev l G own cc nL ret rm E k n V pc ll (.int y :: .int x :: st) Q := by
  intro p e s m args below meth c H locs ls C hR hL hl
  obtain ⟨hx, hb, hr, hml, ho, hts, hlk, hK⟩ := And.intro True.intro C |>.2
  exact lv_irem hx hb hd hne (kk p e s m args below meth c H locs ls C hR hL hl)
theorem r_ineg {x : Int32} (hd : decode cc pc = .ok (.ineg, 1)) (kk : Ev l G own cc nL ret rm E k n V (pc + 1) ll (.int (-x) :: st) Q) : Ev l G own cc nL ret rm E k n V pc ll (.int x :: st) Q := by
  intro p e s m args below meth c H locs ls C hR hL hl
  obtain ⟨hx, hb, hr, hml, ho, hts, hlk, hK⟩ := And.intro True.intro C |>.2
  exact lv_ineg hx hb hd (kk p e s m args below meth c H locs ls C hR hL hl)
theorem r_ladd {x y : Int64} (hd : decode cc pc = .ok (.ladd, 1)) (kk : Ev l G own cc nL ret rm E k n V (pc + 1) ll (.long (x + y) :: st) Q) : Ev l G own cc nL ret rm E k n V pc ll (.long y :: .long x :: st) Q := by
  intro p e s m args below meth c H locs ls C hR hL hl
  obtain ⟨hx, hb, hr, hml, ho, hts, hlk, hK⟩ := And.intro True.intro C |>.2
  exact lv_ladd hx hb hd (kk p e s m args below meth c H locs ls C hR hL hl)
theorem r_lmul {x y : Int64} (hd : decode cc pc = .ok (.lmul, 1)) (kk : Ev l G own cc nL ret rm E k n V (pc + 1) ll (.long (x * y) :: st) Q) : Ev l G own cc nL ret rm E k n V pc ll (.long y :: .long x :: st) Q := by
  intro p e s m args below meth c H locs ls C hR hL hl
  obtain ⟨hx, hb, hr, hml, ho, hts, hlk, hK⟩ := And.intro True.intro C |>.2
  exact lv_lmul hx hb hd (kk p e s m args below meth c H locs ls C hR hL hl)
theorem r_ldiv {x y : Int64} (hd : decode cc pc = .ok (.ldiv, 1)) (hne : ¬ y = 0) (kk : Ev l G own cc nL ret rm E k n V (pc + 1) ll (.long (x / y) :: st) Q) : Ev l G own cc nL ret rm E k n V pc ll (.long y :: .long x :: st) Q := by
  intro p e s m args below meth c H locs ls C hR hL hl
  obtain ⟨hx, hb, hr, hml, ho, hts, hlk, hK⟩ := And.intro True.intro C |>.2
  exact lv_ldiv hx hb hd hne (kk p e s m args below meth c H locs ls C hR hL hl)
theorem r_lcmp {x y : Int64} (hd : decode cc pc = .ok (.lcmp, 1)) (kk : Ev l G own cc nL ret rm E k n V (pc + 1) ll (.int (lg_cmp x y) :: st) Q) : Ev l G own cc nL ret rm E k n V pc ll (.long y :: .long x :: st) Q := by
  intro p e s m args below meth c H locs ls C hR hL hl
  obtain ⟨hx, hb, hr, hml, ho, hts, hlk, hK⟩ := And.intro True.intro C |>.2
  exact W.lcmp hx hb hd (kk p e s m args below meth c H locs ls C hR hL hl)
theorem r_i2l {x : Int32} (hd : decode cc pc = .ok (.i2l, 1)) (kk : Ev l G own cc nL ret rm E k n V (pc + 1) ll (.long x.toInt64 :: st) Q) : Ev l G own cc nL ret rm E k n V pc ll (.int x :: st) Q := by
  intro p e s m args below meth c H locs ls C hR hL hl
  obtain ⟨hx, hb, hr, hml, ho, hts, hlk, hK⟩ := And.intro True.intro C |>.2
  exact lv_i2l hx hb hd rfl (kk p e s m args below meth c H locs ls C hR hL hl)
theorem r_l2i {x : Int64} (hd : decode cc pc = .ok (.l2i, 1)) (kk : Ev l G own cc nL ret rm E k n V (pc + 1) ll (.int x.toInt32 :: st) Q) : Ev l G own cc nL ret rm E k n V pc ll (.long x :: st) Q := by
  intro p e s m args below meth c H locs ls C hR hL hl
  obtain ⟨hx, hb, hr, hml, ho, hts, hlk, hK⟩ := And.intro True.intro C |>.2
  exact lv_l2i hx hb hd rfl (kk p e s m args below meth c H locs ls C hR hL hl)
theorem r_i2b {x : Int32} (hd : decode cc pc = .ok (.i2b, 1)) (kk : Ev l G own cc nL ret rm E k n V (pc + 1) ll (.int x.toInt8.toInt32 :: st) Q) : Ev l G own cc nL ret rm E k n V pc ll (.int x :: st) Q := by
  intro p e s m args below meth c H locs ls C hR hL hl
  obtain ⟨hx, hb, hr, hml, ho, hts, hlk, hK⟩ := And.intro True.intro C |>.2
  exact lv_i2b hx hb hd rfl (kk p e s m args below meth c H locs ls C hR hL hl)
theorem r_i2c {x : Int32} (hd : decode cc pc = .ok (.i2c, 1)) (kk : Ev l G own cc nL ret rm E k n V (pc + 1) ll (.int (x.toUInt32 % 65536).toInt32 :: st) Q) : Ev l G own cc nL ret rm E k n V pc ll (.int x :: st) Q := by
  intro p e s m args below meth c H locs ls C hR hL hl
  obtain ⟨hx, hb, hr, hml, ho, hts, hlk, hK⟩ := And.intro True.intro C |>.2
  exact lv_i2c hx hb hd rfl (kk p e s m args below meth c H locs ls C hR hL hl)
theorem r_iushr {x y : Int32} (hd : decode cc pc = .ok (.iushr, 1)) (kk : Ev l G own cc nL ret rm E k n V (pc + 1) ll (.int (x.toUInt32 >>> (y.toUInt32 &&& Int32.toUInt32 31)).toInt32 :: st) Q) : Ev l G own cc nL ret rm E k n V pc ll (.int y :: .int x :: st) Q := by
  intro p e s m args below meth c H locs ls C hR hL hl
  obtain ⟨hx, hb, hr, hml, ho, hts, hlk, hK⟩ := And.intro True.intro C |>.2
  exact lv_iushr hx hb hd rfl (kk p e s m args below meth c H locs ls C hR hL hl)
theorem r_dup {v : Value} (hd : decode cc pc = .ok (.dup, 1)) (hc : v.category = 1) (kk : Ev l G own cc nL ret rm E k n V (pc + 1) ll (v :: v :: st) Q) : Ev l G own cc nL ret rm E k n V pc ll (v :: st) Q := by
  intro p e s m args below meth c H locs ls C hR hL hl
  obtain ⟨hx, hb, hr, hml, ho, hts, hlk, hK⟩ := And.intro True.intro C |>.2
  exact lv_dup hx hb hd hc (kk p e s m args below meth c H locs ls C hR hL hl)
theorem r_pop {v : Value} (hd : decode cc pc = .ok (.pop, 1)) (hc : v.category = 1) (kk : Ev l G own cc nL ret rm E k n V (pc + 1) ll st Q) : Ev l G own cc nL ret rm E k n V pc ll (v :: st) Q := by
  intro p e s m args below meth c H locs ls C hR hL hl
  obtain ⟨hx, hb, hr, hml, ho, hts, hlk, hK⟩ := And.intro True.intro C |>.2
  exact lv_pop hx hb hd hc (kk p e s m args below meth c H locs ls C hR hL hl)
theorem r_dup_x1 {v w : Value} (hd : decode cc pc = .ok (.dup_x1, 1)) (hc : v.category = 1) (hc2 : w.category = 1) (kk : Ev l G own cc nL ret rm E k n V (pc + 1) ll (v :: w :: v :: st) Q) : Ev l G own cc nL ret rm E k n V pc ll (v :: w :: st) Q := by
  intro p e s m args below meth c H locs ls C hR hL hl
  obtain ⟨hx, hb, hr, hml, ho, hts, hlk, hK⟩ := And.intro True.intro C |>.2
  exact lv_dup_x1 hx hb hd hc hc2 (kk p e s m args below meth c H locs ls C hR hL hl)
theorem r_dup2 {v w : Value} (hd : decode cc pc = .ok (.dup2, 1)) (hc : v.category = 1) (hc2 : w.category = 1) (kk : Ev l G own cc nL ret rm E k n V (pc + 1) ll (v :: w :: v :: w :: st) Q) : Ev l G own cc nL ret rm E k n V pc ll (v :: w :: st) Q := by
  intro p e s m args below meth c H locs ls C hR hL hl
  obtain ⟨hx, hb, hr, hml, ho, hts, hlk, hK⟩ := And.intro True.intro C |>.2
  exact lv_dup2_11 hx hb hd hc hc2 (kk p e s m args below meth c H locs ls C hR hL hl)
theorem r_if_eq {x : Int32} {off : Int} (tgt : Nat) (hd : decode cc pc = .ok (.ifCond .eq off, 3)) (ht : (pc : Int) + off = (tgt : Int)) (kt : x = 0 → Ev l G own cc nL ret rm E k n V tgt ll st Q) (kf : ¬ x = 0 → Ev l G own cc nL ret rm E k n V (pc + 3) ll st Q) : Ev l G own cc nL ret rm E k n V pc ll (.int x :: st) Q := by
  intro p e s m args below meth c H locs ls C hR hL hl
  obtain ⟨hx, hb, hr, hml, ho, hts, hlk, hK⟩ := And.intro True.intro C |>.2
  exact lv_if_eq hx hb hd ht (fun q => kt q p e s m args below meth c H locs ls C hR hL hl) (fun q => kf q p e s m args below meth c H locs ls C hR hL hl)
theorem r_icmp_eq {x y : Int32} {off : Int} (tgt : Nat) (hd : decode cc pc = .ok (.if_icmp .eq off, 3)) (ht : (pc : Int) + off = (tgt : Int)) (kt : x = y → Ev l G own cc nL ret rm E k n V tgt ll st Q) (kf : ¬ x = y → Ev l G own cc nL ret rm E k n V (pc + 3) ll st Q) : Ev l G own cc nL ret rm E k n V pc ll (.int y :: .int x :: st) Q := by
  intro p e s m args below meth c H locs ls C hR hL hl
  obtain ⟨hx, hb, hr, hml, ho, hts, hlk, hK⟩ := And.intro True.intro C |>.2
  exact lv_icmp_eq hx hb hd ht (fun q => kt q p e s m args below meth c H locs ls C hR hL hl) (fun q => kf q p e s m args below meth c H locs ls C hR hL hl)
theorem r_if_ne {x : Int32} {off : Int} (tgt : Nat) (hd : decode cc pc = .ok (.ifCond .ne off, 3)) (ht : (pc : Int) + off = (tgt : Int)) (kt : ¬ x = 0 → Ev l G own cc nL ret rm E k n V tgt ll st Q) (kf : x = 0 → Ev l G own cc nL ret rm E k n V (pc + 3) ll st Q) : Ev l G own cc nL ret rm E k n V pc ll (.int x :: st) Q := by
  intro p e s m args below meth c H locs ls C hR hL hl
  obtain ⟨hx, hb, hr, hml, ho, hts, hlk, hK⟩ := And.intro True.intro C |>.2
  exact lv_if_ne hx hb hd ht (fun q => kt q p e s m args below meth c H locs ls C hR hL hl) (fun q => kf q p e s m args below meth c H locs ls C hR hL hl)
theorem r_icmp_ne {x y : Int32} {off : Int} (tgt : Nat) (hd : decode cc pc = .ok (.if_icmp .ne off, 3)) (ht : (pc : Int) + off = (tgt : Int)) (kt : ¬ x = y → Ev l G own cc nL ret rm E k n V tgt ll st Q) (kf : x = y → Ev l G own cc nL ret rm E k n V (pc + 3) ll st Q) : Ev l G own cc nL ret rm E k n V pc ll (.int y :: .int x :: st) Q := by
  intro p e s m args below meth c H locs ls C hR hL hl
  obtain ⟨hx, hb, hr, hml, ho, hts, hlk, hK⟩ := And.intro True.intro C |>.2
  exact lv_icmp_ne hx hb hd ht (fun q => kt q p e s m args below meth c H locs ls C hR hL hl) (fun q => kf q p e s m args below meth c H locs ls C hR hL hl)
theorem r_if_lt {x : Int32} {off : Int} (tgt : Nat) (hd : decode cc pc = .ok (.ifCond .lt off, 3)) (ht : (pc : Int) + off = (tgt : Int)) (kt : x < 0 → Ev l G own cc nL ret rm E k n V tgt ll st Q) (kf : ¬ x < 0 → Ev l G own cc nL ret rm E k n V (pc + 3) ll st Q) : Ev l G own cc nL ret rm E k n V pc ll (.int x :: st) Q := by
  intro p e s m args below meth c H locs ls C hR hL hl
  obtain ⟨hx, hb, hr, hml, ho, hts, hlk, hK⟩ := And.intro True.intro C |>.2
  exact lv_if_lt hx hb hd ht (fun q => kt q p e s m args below meth c H locs ls C hR hL hl) (fun q => kf q p e s m args below meth c H locs ls C hR hL hl)
theorem r_icmp_lt {x y : Int32} {off : Int} (tgt : Nat) (hd : decode cc pc = .ok (.if_icmp .lt off, 3)) (ht : (pc : Int) + off = (tgt : Int)) (kt : x < y → Ev l G own cc nL ret rm E k n V tgt ll st Q) (kf : ¬ x < y → Ev l G own cc nL ret rm E k n V (pc + 3) ll st Q) : Ev l G own cc nL ret rm E k n V pc ll (.int y :: .int x :: st) Q := by
  intro p e s m args below meth c H locs ls C hR hL hl
  obtain ⟨hx, hb, hr, hml, ho, hts, hlk, hK⟩ := And.intro True.intro C |>.2
  exact lv_icmp_lt hx hb hd ht (fun q => kt q p e s m args below meth c H locs ls C hR hL hl) (fun q => kf q p e s m args below meth c H locs ls C hR hL hl)
theorem r_if_ge {x : Int32} {off : Int} (tgt : Nat) (hd : decode cc pc = .ok (.ifCond .ge off, 3)) (ht : (pc : Int) + off = (tgt : Int)) (kt : 0 ≤ x → Ev l G own cc nL ret rm E k n V tgt ll st Q) (kf : ¬ 0 ≤ x → Ev l G own cc nL ret rm E k n V (pc + 3) ll st Q) : Ev l G own cc nL ret rm E k n V pc ll (.int x :: st) Q := by
  intro p e s m args below meth c H locs ls C hR hL hl
  obtain ⟨hx, hb, hr, hml, ho, hts, hlk, hK⟩ := And.intro True.intro C |>.2
  exact lv_if_ge hx hb hd ht (fun q => kt q p e s m args below meth c H locs ls C hR hL hl) (fun q => kf q p e s m args below meth c H locs ls C hR hL hl)
theorem r_icmp_ge {x y : Int32} {off : Int} (tgt : Nat) (hd : decode cc pc = .ok (.if_icmp .ge off, 3)) (ht : (pc : Int) + off = (tgt : Int)) (kt : y ≤ x → Ev l G own cc nL ret rm E k n V tgt ll st Q) (kf : ¬ y ≤ x → Ev l G own cc nL ret rm E k n V (pc + 3) ll st Q) : Ev l G own cc nL ret rm E k n V pc ll (.int y :: .int x :: st) Q := by
  intro p e s m args below meth c H locs ls C hR hL hl
  obtain ⟨hx, hb, hr, hml, ho, hts, hlk, hK⟩ := And.intro True.intro C |>.2
  exact lv_icmp_ge hx hb hd ht (fun q => kt q p e s m args below meth c H locs ls C hR hL hl) (fun q => kf q p e s m args below meth c H locs ls C hR hL hl)
theorem r_if_gt {x : Int32} {off : Int} (tgt : Nat) (hd : decode cc pc = .ok (.ifCond .gt off, 3)) (ht : (pc : Int) + off = (tgt : Int)) (kt : 0 < x → Ev l G own cc nL ret rm E k n V tgt ll st Q) (kf : ¬ 0 < x → Ev l G own cc nL ret rm E k n V (pc + 3) ll st Q) : Ev l G own cc nL ret rm E k n V pc ll (.int x :: st) Q := by
  intro p e s m args below meth c H locs ls C hR hL hl
  obtain ⟨hx, hb, hr, hml, ho, hts, hlk, hK⟩ := And.intro True.intro C |>.2
  exact lv_if_gt hx hb hd ht (fun q => kt q p e s m args below meth c H locs ls C hR hL hl) (fun q => kf q p e s m args below meth c H locs ls C hR hL hl)
theorem r_icmp_gt {x y : Int32} {off : Int} (tgt : Nat) (hd : decode cc pc = .ok (.if_icmp .gt off, 3)) (ht : (pc : Int) + off = (tgt : Int)) (kt : y < x → Ev l G own cc nL ret rm E k n V tgt ll st Q) (kf : ¬ y < x → Ev l G own cc nL ret rm E k n V (pc + 3) ll st Q) : Ev l G own cc nL ret rm E k n V pc ll (.int y :: .int x :: st) Q := by
  intro p e s m args below meth c H locs ls C hR hL hl
  obtain ⟨hx, hb, hr, hml, ho, hts, hlk, hK⟩ := And.intro True.intro C |>.2
  exact lv_icmp_gt hx hb hd ht (fun q => kt q p e s m args below meth c H locs ls C hR hL hl) (fun q => kf q p e s m args below meth c H locs ls C hR hL hl)
theorem r_if_le {x : Int32} {off : Int} (tgt : Nat) (hd : decode cc pc = .ok (.ifCond .le off, 3)) (ht : (pc : Int) + off = (tgt : Int)) (kt : x ≤ 0 → Ev l G own cc nL ret rm E k n V tgt ll st Q) (kf : ¬ x ≤ 0 → Ev l G own cc nL ret rm E k n V (pc + 3) ll st Q) : Ev l G own cc nL ret rm E k n V pc ll (.int x :: st) Q := by
  intro p e s m args below meth c H locs ls C hR hL hl
  obtain ⟨hx, hb, hr, hml, ho, hts, hlk, hK⟩ := And.intro True.intro C |>.2
  exact lv_if_le hx hb hd ht (fun q => kt q p e s m args below meth c H locs ls C hR hL hl) (fun q => kf q p e s m args below meth c H locs ls C hR hL hl)
theorem r_icmp_le {x y : Int32} {off : Int} (tgt : Nat) (hd : decode cc pc = .ok (.if_icmp .le off, 3)) (ht : (pc : Int) + off = (tgt : Int)) (kt : x ≤ y → Ev l G own cc nL ret rm E k n V tgt ll st Q) (kf : ¬ x ≤ y → Ev l G own cc nL ret rm E k n V (pc + 3) ll st Q) : Ev l G own cc nL ret rm E k n V pc ll (.int y :: .int x :: st) Q := by
  intro p e s m args below meth c H locs ls C hR hL hl
  obtain ⟨hx, hb, hr, hml, ho, hts, hlk, hK⟩ := And.intro True.intro C |>.2
  exact lv_icmp_le hx hb hd ht (fun q => kt q p e s m args below meth c H locs ls C hR hL hl) (fun q => kf q p e s m args below meth c H locs ls C hR hL hl)
theorem r_goto {off : Int} (tgt : Nat) (hd : decode cc pc = .ok (.goto off, 3)) (ht : (pc : Int) + off = (tgt : Int)) (kk : Ev l G own cc nL ret rm E k n V tgt ll st Q) : Ev l G own cc nL ret rm E k n V pc ll st Q := by
  intro p e s m args below meth c H locs ls C hR hL hl
  obtain ⟨hx, hb, hr, hml, ho, hts, hlk, hK⟩ := And.intro True.intro C |>.2
  exact lv_goto hx hb hd ht (kk p e s m args below meth c H locs ls C hR hL hl)
theorem r_ifnull {off : Int} {o : Option Nat} (tgt : Nat) (hd : decode cc pc = .ok (.ifnull off, 3)) (ht : (pc : Int) + off = (tgt : Int)) (kt : o = none → Ev l G own cc nL ret rm E k n V tgt ll st Q) (kf : ∀ a, o = some a → Ev l G own cc nL ret rm E k n V (pc + 3) ll st Q) : Ev l G own cc nL ret rm E k n V pc ll (va_rf o :: st) Q := by
  intro p e s m args below meth c H locs ls C hR hL hl
  obtain ⟨hx, hb, hr, hml, ho, hts, hlk, hK⟩ := And.intro True.intro C |>.2
  cases o with
  | none => exact lv_ifnullN hx hb hd ht (kt rfl p e s m args below meth c H locs ls C hR hL hl)
  | some a => exact lv_ifnull hx hb hd (kf a rfl p e s m args below meth c H locs ls C hR hL hl)
theorem r_ifnonnull {off : Int} {o : Option Nat} (tgt : Nat) (hd : decode cc pc = .ok (.ifnonnull off, 3)) (ht : (pc : Int) + off = (tgt : Int)) (kt : ∀ a, o = some a → Ev l G own cc nL ret rm E k n V tgt ll st Q) (kf : o = none → Ev l G own cc nL ret rm E k n V (pc + 3) ll st Q) : Ev l G own cc nL ret rm E k n V pc ll (va_rf o :: st) Q := by
  intro p e s m args below meth c H locs ls C hR hL hl
  obtain ⟨hx, hb, hr, hml, ho, hts, hlk, hK⟩ := And.intro True.intro C |>.2
  cases o with
  | none => exact lv_ifnonnullN hx hb hd (kf rfl p e s m args below meth c H locs ls C hR hL hl)
  | some a => exact lv_ifnonnull hx hb hd ht (kt a rfl p e s m args below meth c H locs ls C hR hL hl)
theorem r_tIn {dflt lo hi : Int} {offs : Array Int} {len : Nat} {x xv : Int32} {off : Int} (tgt : Nat) (hd : decode cc pc = .ok (.tableswitch dflt lo hi offs, len)) (he : x = xv) (h1 : ¬ xv.toInt < lo) (h2 : ¬ hi < xv.toInt) (hof : offs[(xv.toInt - lo).toNat]? = some off) (ht : (pc : Int) + off = (tgt : Int)) (kk : Ev l G own cc nL ret rm E k n V tgt ll st Q) : Ev l G own cc nL ret rm E k n V pc ll (.int x :: st) Q := by
  intro p e s m args below meth c H locs ls C hR hL hl
  obtain ⟨hx, hb, hr, hml, ho, hts, hlk, hK⟩ := And.intro True.intro C |>.2
  subst he
  exact lv_tableIn hx hb hd h1 h2 hof ht (kk p e s m args below meth c H locs ls C hR hL hl)
theorem r_tOut {dflt lo hi : Int} {offs : Array Int} {len : Nat} {x : Int32} (tgt : Nat) (hd : decode cc pc = .ok (.tableswitch dflt lo hi offs, len)) (h : x.toInt < lo ∨ hi < x.toInt) (ht : (pc : Int) + dflt = (tgt : Int)) (kk : Ev l G own cc nL ret rm E k n V tgt ll st Q) : Ev l G own cc nL ret rm E k n V pc ll (.int x :: st) Q := by
  intro p e s m args below meth c H locs ls C hR hL hl
  obtain ⟨hx, hb, hr, hml, ho, hts, hlk, hK⟩ := And.intro True.intro C |>.2
  exact lv_tableOut hx hb hd h ht (kk p e s m args below meth c H locs ls C hR hL hl)
theorem r_look {dflt : Int} {ps : Array (Int × Int)} {len : Nat} {x : Int32} {off : Int} (tgt : Nat) (hd : decode cc pc = .ok (.lookupswitch dflt ps, len)) (hp : (ps.toList.zip (ps.toList.drop 1)).all (fun (a, next) => a.1 < next.1) = true) (hof : Op.lookupswitch.offset ps.toList dflt x.toInt = off) (ht : (pc : Int) + off = (tgt : Int)) (kk : Ev l G own cc nL ret rm E k n V tgt ll st Q) : Ev l G own cc nL ret rm E k n V pc ll (.int x :: st) Q := by
  intro p e s m args below meth c H locs ls C hR hL hl
  obtain ⟨hx, hb, hr, hml, ho, hts, hlk, hK⟩ := And.intro True.intro C |>.2
  exact lv_lookup hx hb hd hp hof ht (kk p e s m args below meth c H locs ls C hR hL hl)
/-- the pool's entry idx of own is field k of class c -/
def FL (own : String) (idx c k : Nat) : Prop := ∃ (q : vw_C), cls[c]? = some q ∧ k < q.2.2 ∧ Cond.fieldLink own idx (q.2.1 k).1 (q.2.1 k).2.1 (q.2.1 k).2.2.1 ∈ tb ∧ ∀ w ∈ u_ws q.1 q.2.1 q.2.2, w ∈ tb
/-- .. and may be written, as a value of type ty -/
def FP (own : String) (idx c k : Nat) (ty : FieldType) : Prop := ∃ (q : vw_C) (ty0 : Nat → FieldType), cls[c]? = some q ∧ k < q.2.2 ∧ Cond.fieldLink own idx (q.2.1 k).1 (q.2.1 k).2.1 (q.2.1 k).2.2.1 ∈ tb ∧ (∀ w ∈ u_ws q.1 q.2.1 q.2.2, w ∈ tb) ∧ (q.2.1 k).2.2.2 = false ∧ parseFieldDescriptor (q.2.1 k).2.2.1 = some ty ∧ (∀ j, j < q.2.2 → parseFieldDescriptor (q.2.1 j).2.2.1 = some (ty0 j)) ∧ ∀ a, a < q.2.2 → ∀ b, b < q.2.2 → a ≠ b → (q.2.1 a).2.1 ≠ (q.2.1 b).2.1
theorem RepH.ob {H : Heap} {c i : Nat} (h : RepH G E V H) (hc : c < 100) (hl : eL E c i) : va_at (gD G) cls (eA E c i, .inr (c, obF E V c i)) H := by
  have h1 := (h.2.1 c i (by unfold Lv; rw [if_pos hc]; exact hl)).2
  unfold cellOf at h1
  rw [if_pos hc] at h1
  exact h1
theorem r_get {idx ci i kf : Nat} {v : Value} (hd : decode cc pc = .ok (.getfield idx, 3)) (hf : FL own idx ci kf) (hlv : eL E ci i) (hv : (obF E V ci i)[kf]? = some v) (kk : Ev l G own cc nL ret rm E k n V (pc + 3) ll (v :: st) Q) : Ev l G own cc nL ret rm E k n V pc ll (.ref (eA E ci i) :: st) Q := by
  intro p e s m args below meth c H locs ls C hR hL hl
  obtain ⟨hx, hb, hr, hml, ho, hts, hlk, hK⟩ := And.intro True.intro C |>.2
  obtain ⟨q, hq, hkq, hlink, hin⟩ := hf
  have hc : ci < 100 := Nat.lt_of_lt_of_le (List.getElem?_eq_some_iff.mp hq).1 (by decide)
  have hP : va_P (gD G) cls [(eA E ci i, .inr (ci, obF E V ci i))] H := fun j x hj => by
    cases j with
    | zero => cases hj; exact hR.ob hc hlv
    | succ j => simp at hj
  exact va_get (D := gD G) (cl := cls) (ci := ci) (C := q.1) (T := q.2.1) (N := q.2.2) (ref := (q.2.1 kf).1) hx hb hts hin ho hK.1 hP 0 rfl hq kf hkq (hts _ hlink) (fun _ h9 => h9) hv hd (kk p e s m args below meth c H locs ls C hR hL hl)
theorem r_put {idx ci i kf : Nat} {x : Int32} {ty : FieldType} (hd : decode cc pc = .ok (.putfield idx, 3)) (hf : FP own idx ci kf ty) (h0 : (fkl ci)[kf]? = some 0) (hlv : eL E ci i) (hn : narrow ty (.int x) = .int x) (hfit : fits ty (.int x) = true) (kk : Ev l G own cc nL ret rm E k n (up3 V (100 * (ci + 1) + kf) i 0 x) (pc + 3) ll st Q) : Ev l G own cc nL ret rm E k n V pc ll (.int x :: .ref (eA E ci i) :: st) Q := by
  intro p e s m args below meth c H locs ls C hR hL hl
  obtain ⟨hx, hb, hr, hml, ho, hts, hlk, hK⟩ := And.intro True.intro C |>.2
  obtain ⟨q, ty0, hq, hkq, hlink, hin, hfin, hty, hty0, hnm⟩ := hf
  have hc : ci < 100 := Nat.lt_of_lt_of_le (List.getElem?_eq_some_iff.mp hq).1 (by decide)
  have hob := hR.ob hc hlv
  have hap := va_apart (own := own) hts hin ty0 hty0 hnm hK.1 hq
  obtain ⟨r, h1, cell, q1, q2, q3, q4⟩ := hob
  have hr1 : r = q := Option.some.inj (h1.symm.trans hq)
  subst hr1
  obtain ⟨hS, hfc, kC, hkC, hkind⟩ := hK.1.1 ci _ hq
  obtain ⟨cf, kff, fi, f, hi, hsl⟩ := hS kf hkq
  have hlay := hts _ (hin _ (u_in_lay hkq))
  unfold u_lay at hlay
  rw [if_neg (by rw [hfin]; decide)] at hlay
  have hst := (u_facts hfc hkC (u_lays hts hin hkq) hi).1
  have h6 := u_store hfc hkC hkind hlay hi hty hn hfit
  have hLv : Lv E ci i := by unfold Lv; rw [if_pos hc]; exact hlv
  have hkl : kf < (obF E V ci i).length := by
    have : (obF E V ci i)[kf]? = some (fval E V ci i kf 0) := by rw [obF_get, h0]; rfl
    exact (List.getElem?_eq_some_iff.mp this).1
  refine W.putK hx hb (f := f) ⟨ho, hts _ hlink, ⟨_, _, _, hi⟩, hst⟩ (by rw [q2]; exact h6) q1 q3 (by rw [hsl]; exact k2_hasslot (q4 kf hkq)) rfl rfl hd fun H' e1 e2 e3 => ?_
  rw [hsl] at e1 ⊢
  refine kk p e s m args below meth c H' _ ls C (hR.wr hLv e2 e3 ?_ ?_) ?_ hl
  · unfold cellOf
    rw [if_pos hc, obF_put h0]
    exact ⟨_, hq, t_OB.to (V := updV (vp_V (obF E V ci i)) kf (.int x)) ⟨_, e1, q2, q3, t_set q4 hap hkq (.int x)⟩ (fun j _ => vp_updV_set hkl (.int x) j)⟩
  · intro id' i' hne
    unfold cellOf
    split
    · rw [obF_other h0 hne]
    · rename_i hid
      by_cases hf2 : id' = 100 * (ci + 1) + kf ∧ i' = i
      · obtain ⟨rfl, rfl⟩ := hf2
        rw [kdo_at h0]
        rfl
      · exact arC_other hf2 _
  · intro z hz
    rcases List.mem_append.mp hz with h | h
    · exact hL z h
    · rw [List.mem_singleton.mp h]
      exact (hR.2.1 ci i hLv).1
theorem RepH.ar {H : Heap} {id i : Nat} (h : RepH G E V H) (hk : 1 ≤ kdo id ∧ kdo id ≤ 6) (hid : 100 ≤ id) (hl : eL E (id / 100 - 1) i) : va_at (gD G) cls (eA E id i, arC G E V id i (kdo id)) H := by
  have h1 := (h.2.1 id i (by unfold Lv; rw [if_neg (by omega)]; exact ⟨hk.1, hk.2, hl⟩)).2
  unfold cellOf at h1
  rw [if_neg (by omega)] at h1
  exact h1
theorem Lv_ar {id i : Nat} (hk : 1 ≤ kdo id ∧ kdo id ≤ 6) (hid : 100 ≤ id) (hl : eL E (id / 100 - 1) i) : Lv E id i := by
  unfold Lv
  rw [if_neg (by omega)]
  exact ⟨hk.1, hk.2, hl⟩
theorem RepH.wrA {H H1 : Heap} {id i j : Nat} {x : Int32} {kd t : Nat} (h : RepH G E V H) (hkd : kdo id = kd) (h3 : kd = t + 1) (ht : t ≤ 2) (hid : 100 ≤ id) (hl : eL E (id / 100 - 1) i) (hz : H1.size = H.size) (ho : ∀ q, q ≠ eA E id i → H1[q]? = H[q]?) (hs : H1[eA E id i]? = some (vp_cell (gT G t) (eN E id i, .inl (upd (V id i) j x)))) : RepH G E (up3 V id i j x) H1 := by
  have hk : 1 ≤ kdo id ∧ kdo id ≤ 6 := by omega
  refine h.wr (Lv_ar hk hid hl) hz ho ?_ ?_
  · unfold cellOf
    rw [if_neg (by omega), hkd, h3]
    have e : t = 0 ∨ t = 1 ∨ t = 2 := by omega
    rcases e with rfl | rfl | rfl <;> (show H1[eA E id i]? = some (vp_cell _ (eN E id i, .inl (up3 V id i j x id i))); rw [up3_row]; exact hs)
  · intro id' i' hne
    unfold cellOf
    split
    · rw [obF_row (by omega)]
    · exact arC_other hne _
theorem r_iald {id i : Nat} {x : Int32} (hd : decode cc pc = .ok (.iaload, 1)) (hkd : kdo id = 1) (hid : 100 ≤ id) (hlv : eL E (id / 100 - 1) i) (hin : vp_in x (eN E id i)) (kk : Ev l G own cc nL ret rm E k n V (pc + 1) ll (.int (V id i x.toNatClampNeg) :: st) Q) : Ev l G own cc nL ret rm E k n V pc ll (.int x :: .ref (eA E id i) :: st) Q := by
  intro p e s m args below meth c H locs ls C hR hL hl
  obtain ⟨hx, hb, hr, hml, ho, hts, hlk, hK⟩ := And.intro True.intro C |>.2
  have hP : va_P (gD G) cls [(eA E id i, .inl (gT G 0, eN E id i, .inl (V id i)))] H := fun j x hj => by
    cases j with
    | zero =>
      cases hj
      have h1 := hR.ar (by omega) hid hlv
      rw [hkd] at h1
      exact h1
    | succ j => simp at hj
  exact va_iald (D := gD G) (cl := cls) hx hb hK.1 hP 0 0 rfl rfl hin hd (kk p e s m args below meth c H locs ls C hR hL hl)
theorem r_bald {id i : Nat} {x : Int32} (hd : decode cc pc = .ok (.baload, 1)) (hkd : kdo id = 2) (hid : 100 ≤ id) (hlv : eL E (id / 100 - 1) i) (hin : vp_in x (eN E id i)) (kk : Ev l G own cc nL ret rm E k n V (pc + 1) ll (.int (V id i x.toNatClampNeg) :: st) Q) : Ev l G own cc nL ret rm E k n V pc ll (.int x :: .ref (eA E id i) :: st) Q := by
  intro p e s m args below meth c H locs ls C hR hL hl
  obtain ⟨hx, hb, hr, hml, ho, hts, hlk, hK⟩ := And.intro True.intro C |>.2
  have hP : va_P (gD G) cls [(eA E id i, .inl (gT G 1, eN E id i, .inl (V id i)))] H := fun j x hj => by
    cases j with
    | zero =>
      cases hj
      have h1 := hR.ar (by omega) hid hlv
      rw [hkd] at h1
      exact h1
    | succ j => simp at hj
  exact va_bald (D := gD G) (cl := cls) hx hb hK.1 hP 0 1 rfl rfl hin hd (kk p e s m args below meth c H locs ls C hR hL hl)
theorem r_zald {id i : Nat} {x : Int32} (hd : decode cc pc = .ok (.baload, 1)) (hkd : kdo id = 3) (hid : 100 ≤ id) (hlv : eL E (id / 100 - 1) i) (hin : vp_in x (eN E id i)) (kk : Ev l G own cc nL ret rm E k n V (pc + 1) ll (.int (V id i x.toNatClampNeg) :: st) Q) : Ev l G own cc nL ret rm E k n V pc ll (.int x :: .ref (eA E id i) :: st) Q := by
  intro p e s m args below meth c H locs ls C hR hL hl
  obtain ⟨hx, hb, hr, hml, ho, hts, hlk, hK⟩ := And.intro True.intro C |>.2
  have hP : va_P (gD G) cls [(eA E id i, .inl (gT G 2, eN E id i, .inl (V id i)))] H := fun j x hj => by
    cases j with
    | zero =>
      cases hj
      have h1 := hR.ar (by omega) hid hlv
      rw [hkd] at h1
      exact h1
    | succ j => simp at hj
  exact va_zald (D := gD G) (cl := cls) hx hb hK.1 hP 0 2 rfl rfl hin hd (kk p e s m args below meth c H locs ls C hR hL hl)
theorem r_iast {id i : Nat} {x y : Int32} (hd : decode cc pc = .ok (.iastore, 1)) (hkd : kdo id = 1) (hid : 100 ≤ id) (hlv : eL E (id / 100 - 1) i) (hin : vp_in y (eN E id i)) (kk : Ev l G own cc nL ret rm E k n (up3 V id i y.toNatClampNeg (x)) (pc + 1) ll st Q) : Ev l G own cc nL ret rm E k n V pc ll (.int x :: .int y :: .ref (eA E id i) :: st) Q := by
  intro p e s m args below meth c H locs ls C hR hL hl
  obtain ⟨hx, hb, hr, hml, ho, hts, hlk, hK⟩ := And.intro True.intro C |>.2
  have h1 := hR.ar (by omega) hid hlv
  rw [hkd] at h1
  have h2 : H[eA E id i]? = some (vp_cell (gT G 0) (eN E id i, .inl (V id i))) := h1
  refine W.iast hx hb h2 ((hK.1.2 0 _ rfl).1 (eN E id i) (fun j => .int (V id i j))) (fun q => by cases q) (by show ¬ (y < 0 ∨ (arrV _ _ _).slots.size ≤ _); rw [arrV_size]; exact hin) rfl rfl hd fun H1 e9 z oq => ?_
  refine kk p e s m args below meth c H1 _ ls C (hR.wrA hkd rfl (by omega) hid hlv z oq ?_) ?_ hl
  · rw [e9, vp_cell_i, vp_cell_i, arrV_store]
    congr 2
    funext q
    by_cases hq : q = y.toNatClampNeg
    · subst hq
      simp [updV, upd]
    · simp [updV, upd, hq]
  · intro z hz
    rcases List.mem_append.mp hz with h | h
    · exact hL z h
    · rw [List.mem_singleton.mp h]
      exact (hR.2.1 id i (Lv_ar (by omega) hid hlv)).1
theorem r_bast {id i : Nat} {x y : Int32} (hd : decode cc pc = .ok (.bastore, 1)) (hkd : kdo id = 2) (hid : 100 ≤ id) (hlv : eL E (id / 100 - 1) i) (hin : vp_in y (eN E id i)) (kk : Ev l G own cc nL ret rm E k n (up3 V id i y.toNatClampNeg (vp_nar .byte x)) (pc + 1) ll st Q) : Ev l G own cc nL ret rm E k n V pc ll (.int x :: .int y :: .ref (eA E id i) :: st) Q := by
  intro p e s m args below meth c H locs ls C hR hL hl
  obtain ⟨hx, hb, hr, hml, ho, hts, hlk, hK⟩ := And.intro True.intro C |>.2
  have h1 := hR.ar (by omega) hid hlv
  rw [hkd] at h1
  have h2 : H[eA E id i]? = some (vp_cell (gT G 1) (eN E id i, .inl (V id i))) := h1
  refine W.bast hx hb h2 ((hK.1.2 1 _ rfl).1 (eN E id i) (fun j => .int (V id i j))) (fun q => by cases q) (by show ¬ (y < 0 ∨ (arrV _ _ _).slots.size ≤ _); rw [arrV_size]; exact hin) rfl rfl hd fun H1 e9 z oq => ?_
  refine kk p e s m args below meth c H1 _ ls C (hR.wrA hkd rfl (by omega) hid hlv z oq ?_) ?_ hl
  · rw [e9, vp_cell_i, vp_cell_i, arrV_store]
    congr 2
    funext q
    by_cases hq : q = y.toNatClampNeg
    · subst hq
      simp [updV, upd, vp_nar, narrow]
    · simp [updV, upd, hq]
  · intro z hz
    rcases List.mem_append.mp hz with h | h
    · exact hL z h
    · rw [List.mem_singleton.mp h]
      exact (hR.2.1 id i (Lv_ar (by omega) hid hlv)).1
theorem r_zast {id i : Nat} {x y : Int32} (hd : decode cc pc = .ok (.bastore, 1)) (hkd : kdo id = 3) (hid : 100 ≤ id) (hlv : eL E (id / 100 - 1) i) (hin : vp_in y (eN E id i)) (kk : Ev l G own cc nL ret rm E k n (up3 V id i y.toNatClampNeg (vp_nar .boolean x)) (pc + 1) ll st Q) : Ev l G own cc nL ret rm E k n V pc ll (.int x :: .int y :: .ref (eA E id i) :: st) Q := by
  intro p e s m args below meth c H locs ls C hR hL hl
  obtain ⟨hx, hb, hr, hml, ho, hts, hlk, hK⟩ := And.intro True.intro C |>.2
  have h1 := hR.ar (by omega) hid hlv
  rw [hkd] at h1
  have h2 : H[eA E id i]? = some (vp_cell (gT G 2) (eN E id i, .inl (V id i))) := h1
  refine W.zast hx hb h2 ((hK.1.2 2 _ rfl).1 (eN E id i) (fun j => .int (V id i j))) (fun q => by cases q) (by show ¬ (y < 0 ∨ (arrV _ _ _).slots.size ≤ _); rw [arrV_size]; exact hin) rfl rfl hd fun H1 e9 z oq => ?_
  refine kk p e s m args below meth c H1 _ ls C (hR.wrA hkd rfl (by omega) hid hlv z oq ?_) ?_ hl
  · rw [e9, vp_cell_i, vp_cell_i, arrV_store]
    congr 2
    funext q
    by_cases hq : q = y.toNatClampNeg
    · subst hq
      simp [updV, upd, vp_nar, narrow]
    · simp [updV, upd, hq]
  · intro z hz
    rcases List.mem_append.mp hz with h | h
    · exact hL z h
    · rw [List.mem_singleton.mp h]
      exact (hR.2.1 id i (Lv_ar (by omega) hid hlv)).1
theorem r_aaldP {id i : Nat} {x : Int32} (hd : decode cc pc = .ok (.aaload, 1)) (hkd : kdo id = 4) (hid : 100 ≤ id) (hlv : eL E (id / 100 - 1) i) (hin : vp_in x (eN E id i)) (kk : Ev l G own cc nL ret rm E k n V (pc + 1) ll (va_rf ((eR E id x.toNatClampNeg).map (eA E 2)) :: st) Q) : Ev l G own cc nL ret rm E k n V pc ll (.int x :: .ref (eA E id i) :: st) Q := by
  intro p e s m args below meth c H locs ls C hR hL hl
  obtain ⟨hx, hb, hr, hml, ho, hts, hlk, hK⟩ := And.intro True.intro C |>.2
  have hP : va_P (gD G) cls [(eA E id i, .inl (gT G 3, eN E id i, .inr (.inr (.inr (.inr (fun j => (eR E id j).map (eA E 2)))))))] H := fun j x hj => by
    cases j with
    | zero =>
      cases hj
      have h1 := hR.ar (by omega) hid hlv
      rw [hkd] at h1
      exact h1
    | succ j => simp at hj
  exact va_aldq (D := gD G) (cl := cls) (C := RX2) hx hb hK.1 hP 0 3 rfl rfl hin hd (kk p e s m args below meth c H locs ls C hR hL hl)
theorem r_aaldG {id i : Nat} {x : Int32} (hd : decode cc pc = .ok (.aaload, 1)) (hkd : kdo id = 5) (hid : 100 ≤ id) (hlv : eL E (id / 100 - 1) i) (hin : vp_in x (eN E id i)) (kk : Ev l G own cc nL ret rm E k n V (pc + 1) ll (va_rf ((eR E id x.toNatClampNeg).map (eA E 1)) :: st) Q) : Ev l G own cc nL ret rm E k n V pc ll (.int x :: .ref (eA E id i) :: st) Q := by
  intro p e s m args below meth c H locs ls C hR hL hl
  obtain ⟨hx, hb, hr, hml, ho, hts, hlk, hK⟩ := And.intro True.intro C |>.2
  have hP : va_P (gD G) cls [(eA E id i, .inl (gT G 4, eN E id i, .inr (.inr (.inr (.inr (fun j => (eR E id j).map (eA E 1)))))))] H := fun j x hj => by
    cases j with
    | zero =>
      cases hj
      have h1 := hR.ar (by omega) hid hlv
      rw [hkd] at h1
      exact h1
    | succ j => simp at hj
  exact va_aldq (D := gD G) (cl := cls) (C := RX1) hx hb hK.1 hP 0 4 rfl rfl hin hd (kk p e s m args below meth c H locs ls C hR hL hl)
theorem r_aaldT {id i : Nat} {x : Int32} (hd : decode cc pc = .ok (.aaload, 1)) (hkd : kdo id = 6) (hid : 100 ≤ id) (hlv : eL E (id / 100 - 1) i) (hin : vp_in x (eN E id i)) (kk : Ev l G own cc nL ret rm E k n V (pc + 1) ll (va_rf ((eR E id x.toNatClampNeg).map (eA E 7)) :: st) Q) : Ev l G own cc nL ret rm E k n V pc ll (.int x :: .ref (eA E id i) :: st) Q := by
  intro p e s m args below meth c H locs ls C hR hL hl
  obtain ⟨hx, hb, hr, hml, ho, hts, hlk, hK⟩ := And.intro True.intro C |>.2
  have hP : va_P (gD G) cls [(eA E id i, .inl (gT G 5, eN E id i, .inr (.inr (.inr (.inr (fun j => (eR E id j).map (eA E 7)))))))] H := fun j x hj => by
    cases j with
    | zero =>
      cases hj
      have h1 := hR.ar (by omega) hid hlv
      rw [hkd] at h1
      exact h1
    | succ j => simp at hj
  exact va_aldq (D := gD G) (cl := cls) (C := RX7) hx hb hK.1 hP 0 5 rfl rfl hin hd (kk p e s m args below meth c H locs ls C hR hL hl)
theorem r_alenI {id i : Nat} (hd : decode cc pc = .ok (.arraylength, 1)) (hkd : kdo id = 1) (hid : 100 ≤ id) (hlv : eL E (id / 100 - 1) i) (kk : Ev l G own cc nL ret rm E k n V (pc + 1) ll (.int (Int32.ofNat (eN E id i)) :: st) Q) : Ev l G own cc nL ret rm E k n V pc ll (.ref (eA E id i) :: st) Q := by
  intro p e s m args below meth c H locs ls C hR hL hl
  obtain ⟨hx, hb, hr, hml, ho, hts, hlk, hK⟩ := And.intro True.intro C |>.2
  have hP : va_P (gD G) cls [(eA E id i, .inl (gT G 0, eN E id i, .inl (V id i)))] H := fun j x hj => by
    cases j with
    | zero =>
      cases hj
      have h1 := hR.ar (by omega) hid hlv
      rw [hkd] at h1
      exact h1
    | succ j => simp at hj
  exact va_alen (D := gD G) (cl := cls) hx hb hK.1 hP 0 0 rfl (ty := .int) rfl rfl hd (kk p e s m args below meth c H locs ls C hR hL hl)
/-- the static row MOST_TOLD -/
theorem r_told {idx : Nat} (hd : decode cc pc = .ok (.getstatic idx, 3)) (hw : Cond.fieldLink own idx RX8 "MOST_TOLD" "[I" ∈ tb) (kk : Ev l G own cc nL ret rm E k n V (pc + 3) ll (.ref (gM G) :: st) Q) : Ev l G own cc nL ret rm E k n V pc ll st Q := by
  intro p e s m args below meth c H locs ls C hR hL hl
  obtain ⟨hx, hb, hr, hml, ho, hts, hlk, hK⟩ := And.intro True.intro C |>.2
  obtain ⟨cf, kf, fi, f, a, cell, h1, h2, h3, h4, h5, h6, h7, h8⟩ := hK.2.2.2.2.2.2.1
  exact W.gets hx hb ho (hts _ hw) h1 h2 h3 h4 (by rw [hR.1 a (Array.getElem?_eq_some_iff.mp h5).1]; exact h5) (fun e => by rw [e] at h6; cases h6) h7 rfl hd (kk p e s m args below meth c H locs ls C hR hL hl)
theorem r_toldlen (hd : decode cc pc = .ok (.arraylength, 1)) (kk : Ev l G own cc nL ret rm E k n V (pc + 1) ll (.int 4 :: st) Q) : Ev l G own cc nL ret rm E k n V pc ll (.ref (gM G) :: st) Q := by
  intro p e s m args below meth c H locs ls C hR hL hl
  obtain ⟨hx, hb, hr, hml, ho, hts, hlk, hK⟩ := And.intro True.intro C |>.2
  obtain ⟨cell, h1, h2, h3, h4, h5, h6, h7⟩ := hK.2.2.2.2.2.2.2.1
  exact W.alen (n := 4) hx hb (by rw [hR.1 _ (Array.getElem?_eq_some_iff.mp h1).1]; exact h1) h2 h5 rfl rfl hd (kk p e s m args below meth c H locs ls C hR hL hl)
theorem r_toldat {x : Int32} (hd : decode cc pc = .ok (.iaload, 1)) (hin : vp_in x 4) (kk : Ev l G own cc nL ret rm E k n V (pc + 1) ll (.int (mTold.getD x.toNatClampNeg 0) :: st) Q) : Ev l G own cc nL ret rm E k n V pc ll (.int x :: .ref (gM G) :: st) Q := by
  intro p e s m args below meth c H locs ls C hR hL hl
  obtain ⟨hx, hb, hr, hml, ho, hts, hlk, hK⟩ := And.intro True.intro C |>.2
  obtain ⟨cell, h1, h2, h3, h4, h5, h6, h7⟩ := hK.2.2.2.2.2.2.2.1
  have hlt : x.toNatClampNeg < 4 := Nat.not_le.mp fun q => hin (Or.inr q)
  exact W.iald hx hb (by rw [hR.1 _ (Array.getElem?_eq_some_iff.mp h1).1]; exact h1) h2 h3 (fun q => hin (q.imp id (fun z => Nat.le_trans h4 z))) (h6 _ hlt) rfl rfl hd (kk p e s m args below meth c H locs ls C hR hL hl)
theorem r_ldcS {idx : Nat} {tx : String} {a : Nat} (hd : decode cc pc = .ok (.ldc idx, 2)) (hz : ∀ U, BF G U → vk_R own idx tx a U) (kk : Ev l G own cc nL ret rm E k n V (pc + 2) ll (.ref a :: st) Q) : Ev l G own cc nL ret rm E k n V pc ll st Q := by
  intro p e s m args below meth c H locs ls C hR hL hl
  obtain ⟨hx, hb, hr, hml, ho, hts, hlk, hK⟩ := And.intro True.intro C |>.2
  exact va_ldcS hx hb ho (hz s hK.2) hd (kk p e s m args below meth c H locs ls C hR hL hl)
theorem r_iret {v : Int32} (hd : decode cc pc = .ok (.ireturn, 1)) (hrt : ret = some .int) (hkn : k ≤ rm.cells ∧ n ≤ rm.slots) (hq : Q (some (.int v)) E V) : Ev l G own cc nL ret rm E k n V pc ll [.int v] Q := by
  intro p e s m args below meth c H locs ls C hR hL hl
  obtain ⟨hx, hb, hr, hml, ho, hts, hlk, hK⟩ := And.intro True.intro C |>.2
  subst hrt
  exact W.widen hkn.1 hkn.2 (W.iret hx hb hr (fun t ht hW => ⟨_, _, _, rfl, hq, by rw [ht]; exact hR⟩) hL hd)
theorem r_zret {v : Int32} {ty : FieldType} (hd : decode cc pc = .ok (.ireturn, 1)) (hrt : ret = some ty) (hn : narrow ty (.int v) = .int v) (hkn : k ≤ rm.cells ∧ n ≤ rm.slots) (hq : Q (some (.int v)) E V) : Ev l G own cc nL ret rm E k n V pc ll [.int v] Q := by
  intro p e s m args below meth c H locs ls C hR hL hl
  obtain ⟨hx, hb, hr, hml, ho, hts, hlk, hK⟩ := And.intro True.intro C |>.2
  subst hrt
  exact W.widen hkn.1 hkn.2 (W.zret hx hb hr hn (fun t ht hW => ⟨_, _, _, rfl, hq, by rw [ht]; exact hR⟩) hL hd)
theorem r_vret (hd : decode cc pc = .ok (.return_, 1)) (hrt : ret = none) (hkn : k ≤ rm.cells ∧ n ≤ rm.slots) (hq : Q none E V) : Ev l G own cc nL ret rm E k n V pc ll [] Q := by
  intro p e s m args below meth c H locs ls C hR hL hl
  obtain ⟨hx, hb, hr, hml, ho, hts, hlk, hK⟩ := And.intro True.intro C |>.2
  subst hrt
  exact W.widen hkn.1 hkn.2 (W.vret hx hb hr (fun t ht hW => ⟨_, _, _, rfl, hq, by rw [ht]; exact hR⟩) hL hd)
theorem r_aret {v : Value} {rt : FieldType} (hd : decode cc pc = .ok (.areturn, 1)) (hrt : ret = some rt) (hrt2 : (∃ n, rt = .object n) ∨ ∃ t, rt = .array t) (hv : rl v) (hkn : k ≤ rm.cells ∧ n ≤ rm.slots) (hq : Q (some v) E V) : Ev l G own cc nL ret rm E k n V pc ll [v] Q := by
  intro p e s m args below meth c H locs ls C hR hL hl
  obtain ⟨hx, hb, hr, hml, ho, hts, hlk, hK⟩ := And.intro True.intro C |>.2
  subst hrt
  exact W.widen hkn.1 hkn.2 (W.aret hx hb hr hrt2 hv (fun t ht hW => ⟨_, _, _, rfl, hq, by rw [ht]; exact hR⟩) hL hd)
/-- what the tables say of an instance method that is called, of a static one -/
def MV (y : MethodName) (cy : ByteArray) (nY : Nat) (ry : Option FieldType) (na : Nat) : Prop := Cond.code y cy nY ry ∈ tb ∧ Cond.instanceMethod y ∈ tb ∧ Cond.selects y.cls y y ∈ tb ∧ Cond.initialized y.cls ∈ tb ∧ y.cls ≠ "java/lang/invoke/MethodHandle" ∧ y.cls ≠ "java/lang/invoke/VarHandle" ∧ (parseMethodDescriptor y.desc).map (fun d => d.parameters.length) = some na
def MS (y : MethodName) (cy : ByteArray) (nY : Nat) (ry : Option FieldType) (na : Nat) : Prop := Cond.code y cy nY ry ∈ tb ∧ Cond.static y ∈ tb ∧ Cond.initialized y.cls ∈ tb ∧ y.cls ≠ "java/lang/invoke/MethodHandle" ∧ y.cls ≠ "java/lang/invoke/VarHandle" ∧ (parseMethodDescriptor y.desc).map (fun d => d.parameters.length) = some na
theorem blind (as : List Value) : FrameBlind (va_Pc as (fun U => KU G U ∧ RepH G E V U.heap)) := fun a U g mk h => ⟨h.1, h.2.1.same (s := U) rfl, h.2.2⟩
theorem r_callV {idx ci i na nY : Nat} {y : MethodName} {cy : ByteArray} {ry : Option FieldType} {rY : Room} {As rest : List Value} {Qc : Option Value → Et → Vt → Prop} (hd : decode cc pc = .ok (.invokevirtual idx, 3)) (hm : MV y cy nY ry na) (hlink : Cond.methodLink own idx y ∈ tb) (hcl : ∃ T N, cls[ci]? = some (y.cls, T, N)) (hlv : eL E ci i) (hrm : rY.frames + 1 ≤ rm.frames ∧ 8 + (nY + 11) + rY.locals ≤ rm.locals) (hcs : k + rY.cells ≤ rm.cells ∧ n + rY.slots ≤ rm.slots) (hna : As.length = na) (hst : st = As.reverse ++ .ref (eA E ci i) :: rest) (hcat : (rest.map fun v => v.category).sum ≤ 8)
    (hC : Cl l G y cy nY ry rY E V (.ref (eA E ci i) :: As) Qc) (kk : ∀ r E' V', Qc r E' V' → Ev l G own cc nL ret rm E' (k + rY.cells) (n + rY.slots) V' (pc + 3) ll (r.toList ++ rest) Q) : Ev l G own cc nL ret rm E k n V pc ll st Q := by
  intro p e s m args below meth c H locs ls C hR hL hl
  obtain ⟨hx, hb, hr, hml, ho, hts, hlk, hK⟩ := And.intro True.intro C |>.2
  obtain ⟨m1, m2, m3, m4, m5, m6, m7⟩ := hm
  obtain ⟨T, N, hq⟩ := hcl
  have hc : ci < 100 := Nat.lt_of_lt_of_le (List.getElem?_eq_some_iff.mp hq).1 (by decide)
  subst hst
  have hrecv : ∃ cellB : Cell, H[eA E ci i]? = some cellB ∧ cellB.vm.isStatics = false ∧ s.vm.findClass y.cls = some cellB.cls := by
    obtain ⟨q', h1, cell, g1, g2, g3, -⟩ := hR.ob hc hlv
    exact ⟨cell, g1, by rw [g3]; rfl, by rw [g2]; exact (hK.1.1 ci _ hq).2.1⟩
  have hcb : CallB rm s args own idx y cy nY ry (Cond.code y cy nY ry :: tb) rY rY.cells rY.slots na := callB_of na hts (tb_GoodIn m1) rfl rfl rfl (hts _ m4) (hts _ hlink) ⟨m5, m6, m7⟩ hrm
  have hrun := va_runV (e := e) (below := below) (meth := meth) (locs := locs) (g := F0 m pc ls (As.reverse ++ .ref (eA E ci i) :: rest)) (rest := rest) ⟨hx, hb, hml, ho, hts⟩ hC ⟨hcb, hts _ m2, hts _ m3⟩ ⟨blind _, hrecv, fun U hU hW => ⟨rfl, hK.warm hW, by rw [hU]; exact hR⟩⟩ rfl hna hl.1 rfl (lv_room hcat) hd hcs
  intro T0 hT0 X
  obtain ⟨v, st₀, t, T', L, z0, X', zL, z1, z2, ⟨r, E', V', w1, w2, w3⟩, z3⟩ := hrun T0 hT0 X
  cases w1
  obtain ⟨t2, a1, b1⟩ := kk v E' V' w2 p e s m args below meth c T'.heap (locs ++ L) ls C (by rw [z1]; exact w3) (fun q hq' => by
    rcases List.mem_append.mp hq' with h | h
    · exact hL q h
    · exact zL q h) hl T' rfl X'
  exact ⟨t2, z3 t2 a1, b1⟩
theorem r_callS {idx na nY : Nat} {y : MethodName} {cy : ByteArray} {ry : Option FieldType} {rY : Room} {As rest : List Value} {Qc : Option Value → Et → Vt → Prop} (hd : decode cc pc = .ok (.invokestatic idx, 3)) (hm : MS y cy nY ry na) (hlink : Cond.methodLink own idx y ∈ tb) (hrm : rY.frames + 1 ≤ rm.frames ∧ 8 + (nY + 11) + rY.locals ≤ rm.locals) (hcs : k + rY.cells ≤ rm.cells ∧ n + rY.slots ≤ rm.slots) (hna : As.length = na) (hst : st = As.reverse ++ rest) (hcat : (rest.map fun v => v.category).sum ≤ 8)
    (hC : Cl l G y cy nY ry rY E V As Qc) (kk : ∀ r E' V', Qc r E' V' → Ev l G own cc nL ret rm E' (k + rY.cells) (n + rY.slots) V' (pc + 3) ll (r.toList ++ rest) Q) : Ev l G own cc nL ret rm E k n V pc ll st Q := by
  intro p e s m args below meth c H locs ls C hR hL hl
  obtain ⟨hx, hb, hr, hml, ho, hts, hlk, hK⟩ := And.intro True.intro C |>.2
  obtain ⟨m1, m2, m4, m5, m6, m7⟩ := hm
  subst hst
  have hcb : CallB rm s args own idx y cy nY ry (Cond.code y cy nY ry :: tb) rY rY.cells rY.slots na := callB_of na hts (tb_GoodIn m1) rfl rfl rfl (hts _ m4) (hts _ hlink) ⟨m5, m6, m7⟩ hrm
  have hrun := va_runS (e := e) (below := below) (meth := meth) (locs := locs) (g := F0 m pc ls (As.reverse ++ rest)) (rest := rest) ⟨hx, hb, hml, ho, hts⟩ hC ⟨hcb, hts _ m2⟩ ⟨blind _, fun U hU hW => ⟨rfl, hK.warm hW, by rw [hU]; exact hR⟩⟩ rfl hna hl.1 rfl (lv_room hcat) hd hcs
  intro T0 hT0 X
  obtain ⟨v, st₀, t, T', L, z0, X', zL, z1, z2, ⟨r, E', V', w1, w2, w3⟩, z3⟩ := hrun T0 hT0 X
  cases w1
  obtain ⟨t2, a1, b1⟩ := kk v E' V' w2 p e s m args below meth c T'.heap (locs ++ L) ls C (by rw [z1]; exact w3) (fun q hq' => by
    rcases List.mem_append.mp hq' with h | h
    · exact hL q h
    · exact zL q h) hl T' rfl X'
  exact ⟨t2, z3 t2 a1, b1⟩
end Rows
end

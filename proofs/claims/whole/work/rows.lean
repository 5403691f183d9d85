section
-- ===== PART A: goes FIRST, ahead of the names: the tables' words, and 'selects' of the private methods out of them =====
/-- a private method of a class that the tables say can be made, by its rows of tables_1 -/
def lw_okq (q : MethodName × Nat) : Prop := (q.1.cls ≠ "java/lang/invoke/MethodHandle" ∧ q.1.cls ≠ "java/lang/invoke/VarHandle") ∧ Cond.instantiable q.1.cls q.2 ∈ tables_1 ∧ Cond.privateMethod q.1 ∈ tables_1 ∧ Cond.instanceMethod q.1 ∈ tables_1
theorem lw_p0 : lw_okq (⟨"ChurchLodge$Plan", "isReadBefore", "(I)Z"⟩, 7) := ⟨⟨by decide +kernel, by decide +kernel⟩, List.mem_of_getElem? (i := 28) (by decide +kernel), List.mem_of_getElem? (i := 300) (by decide +kernel), List.mem_of_getElem? (i := 301) (by decide +kernel)⟩
theorem lw_p1 : lw_okq (⟨"ChurchLodge", "stands", "()Z"⟩, 13) := ⟨⟨by decide +kernel, by decide +kernel⟩, List.mem_of_getElem? (i := 20) (by decide +kernel), List.mem_of_getElem? (i := 336) (by decide +kernel), List.mem_of_getElem? (i := 337) (by decide +kernel)⟩
theorem lw_p2 : lw_okq (⟨"ChurchLodge$Stress", "passDown", "(LChurchLodge$Part;I)V"⟩, 2) := ⟨⟨by decide +kernel, by decide +kernel⟩, List.mem_of_getElem? (i := 62) (by decide +kernel), List.mem_of_getElem? (i := 357) (by decide +kernel), List.mem_of_getElem? (i := 358) (by decide +kernel)⟩
theorem lw_p3 : lw_okq (⟨"ChurchLodge$Stress", "pushAside", "(LChurchLodge$Part;I)V"⟩, 2) := ⟨⟨by decide +kernel, by decide +kernel⟩, List.mem_of_getElem? (i := 62) (by decide +kernel), List.mem_of_getElem? (i := 365) (by decide +kernel), List.mem_of_getElem? (i := 366) (by decide +kernel)⟩
theorem lw_p4 : lw_okq (⟨"ChurchLodge", "hindranceOfCourse", "(ILChurchLodge$Part;)I"⟩, 13) := ⟨⟨by decide +kernel, by decide +kernel⟩, List.mem_of_getElem? (i := 20) (by decide +kernel), List.mem_of_getElem? (i := 377) (by decide +kernel), List.mem_of_getElem? (i := 378) (by decide +kernel)⟩
theorem lw_p5 : lw_okq (⟨"ChurchLodge", "statuteInForce", "()I"⟩, 13) := ⟨⟨by decide +kernel, by decide +kernel⟩, List.mem_of_getElem? (i := 20) (by decide +kernel), List.mem_of_getElem? (i := 395) (by decide +kernel), List.mem_of_getElem? (i := 396) (by decide +kernel)⟩
theorem lw_p6 : lw_okq (⟨"ChurchLodge", "nameMonth", "()V"⟩, 13) := ⟨⟨by decide +kernel, by decide +kernel⟩, List.mem_of_getElem? (i := 20) (by decide +kernel), List.mem_of_getElem? (i := 399) (by decide +kernel), List.mem_of_getElem? (i := 400) (by decide +kernel)⟩
theorem lw_p7 : lw_okq (⟨"ChurchLodge$Reckoner", "meaningOf", "(I)I"⟩, 2) := ⟨⟨by decide +kernel, by decide +kernel⟩, List.mem_of_getElem? (i := 121) (by decide +kernel), List.mem_of_getElem? (i := 500) (by decide +kernel), List.mem_of_getElem? (i := 501) (by decide +kernel)⟩
theorem lw_p8 : lw_okq (⟨"ChurchLodge", "coinsFor", "(ILChurchLodge$Part;)I"⟩, 13) := ⟨⟨by decide +kernel, by decide +kernel⟩, List.mem_of_getElem? (i := 20) (by decide +kernel), List.mem_of_getElem? (i := 511) (by decide +kernel), List.mem_of_getElem? (i := 512) (by decide +kernel)⟩
theorem lw_p9 : lw_okq (⟨"ChurchLodge", "findGift", "(I)LChurchLodge$Gift;"⟩, 13) := ⟨⟨by decide +kernel, by decide +kernel⟩, List.mem_of_getElem? (i := 20) (by decide +kernel), List.mem_of_getElem? (i := 519) (by decide +kernel), List.mem_of_getElem? (i := 520) (by decide +kernel)⟩
theorem lw_p10 : lw_okq (⟨"ChurchLodge", "fallByCourse", "(LChurchLodge$Part;)I"⟩, 13) := ⟨⟨by decide +kernel, by decide +kernel⟩, List.mem_of_getElem? (i := 20) (by decide +kernel), List.mem_of_getElem? (i := 528) (by decide +kernel), List.mem_of_getElem? (i := 529) (by decide +kernel)⟩
theorem lw_p11 : lw_okq (⟨"ChurchLodge", "payFor", "(ILChurchLodge$Part;)V"⟩, 13) := ⟨⟨by decide +kernel, by decide +kernel⟩, List.mem_of_getElem? (i := 20) (by decide +kernel), List.mem_of_getElem? (i := 532) (by decide +kernel), List.mem_of_getElem? (i := 533) (by decide +kernel)⟩
theorem lw_p12 : lw_okq (⟨"ChurchLodge$Tape", "openSign", "(I)V"⟩, 6) := ⟨⟨by decide +kernel, by decide +kernel⟩, List.mem_of_getElem? (i := 95) (by decide +kernel), List.mem_of_getElem? (i := 608) (by decide +kernel), List.mem_of_getElem? (i := 609) (by decide +kernel)⟩
theorem lw_p13 : lw_okq (⟨"ChurchLodge$Tape", "keep", "(I)V"⟩, 6) := ⟨⟨by decide +kernel, by decide +kernel⟩, List.mem_of_getElem? (i := 95) (by decide +kernel), List.mem_of_getElem? (i := 612) (by decide +kernel), List.mem_of_getElem? (i := 613) (by decide +kernel)⟩
theorem lw_p14 : lw_okq (⟨"ChurchLodge$Tape", "readLeaf", "(I)I"⟩, 6) := ⟨⟨by decide +kernel, by decide +kernel⟩, List.mem_of_getElem? (i := 95) (by decide +kernel), List.mem_of_getElem? (i := 616) (by decide +kernel), List.mem_of_getElem? (i := 617) (by decide +kernel)⟩
theorem lw_p15 : lw_okq (⟨"ChurchLodge$Tape", "readNumber", "(I)I"⟩, 6) := ⟨⟨by decide +kernel, by decide +kernel⟩, List.mem_of_getElem? (i := 95) (by decide +kernel), List.mem_of_getElem? (i := 620) (by decide +kernel), List.mem_of_getElem? (i := 621) (by decide +kernel)⟩
def lw_privs_1 : List (MethodName × Nat) := [(⟨"ChurchLodge$Plan", "isReadBefore", "(I)Z"⟩, 7), (⟨"ChurchLodge", "stands", "()Z"⟩, 13), (⟨"ChurchLodge$Stress", "passDown", "(LChurchLodge$Part;I)V"⟩, 2), (⟨"ChurchLodge$Stress", "pushAside", "(LChurchLodge$Part;I)V"⟩, 2), (⟨"ChurchLodge", "hindranceOfCourse", "(ILChurchLodge$Part;)I"⟩, 13), (⟨"ChurchLodge", "statuteInForce", "()I"⟩, 13), (⟨"ChurchLodge", "nameMonth", "()V"⟩, 13), (⟨"ChurchLodge$Reckoner", "meaningOf", "(I)I"⟩, 2), (⟨"ChurchLodge", "coinsFor", "(ILChurchLodge$Part;)I"⟩, 13), (⟨"ChurchLodge", "findGift", "(I)LChurchLodge$Gift;"⟩, 13), (⟨"ChurchLodge", "fallByCourse", "(LChurchLodge$Part;)I"⟩, 13), (⟨"ChurchLodge", "payFor", "(ILChurchLodge$Part;)V"⟩, 13), (⟨"ChurchLodge$Tape", "openSign", "(I)V"⟩, 6), (⟨"ChurchLodge$Tape", "keep", "(I)V"⟩, 6), (⟨"ChurchLodge$Tape", "readLeaf", "(I)I"⟩, 6), (⟨"ChurchLodge$Tape", "readNumber", "(I)I"⟩, 6)]
theorem lw_r1 : ∀ q ∈ lw_privs_1, lw_okq q := List.forall_mem_cons.mpr ⟨lw_p0, List.forall_mem_cons.mpr ⟨lw_p1, List.forall_mem_cons.mpr ⟨lw_p2, List.forall_mem_cons.mpr ⟨lw_p3, List.forall_mem_cons.mpr ⟨lw_p4, List.forall_mem_cons.mpr ⟨lw_p5, List.forall_mem_cons.mpr ⟨lw_p6, List.forall_mem_cons.mpr ⟨lw_p7, List.forall_mem_cons.mpr ⟨lw_p8, List.forall_mem_cons.mpr ⟨lw_p9, List.forall_mem_cons.mpr ⟨lw_p10, List.forall_mem_cons.mpr ⟨lw_p11, List.forall_mem_cons.mpr ⟨lw_p12, List.forall_mem_cons.mpr ⟨lw_p13, List.forall_mem_cons.mpr ⟨lw_p14, List.forall_mem_cons.mpr ⟨lw_p15, fun _ h => absurd h List.not_mem_nil⟩⟩⟩⟩⟩⟩⟩⟩⟩⟩⟩⟩⟩⟩⟩⟩
theorem lw_p16 : lw_okq (⟨"ChurchLodge$Tape", "closeSigns", "()Z"⟩, 6) := ⟨⟨by decide +kernel, by decide +kernel⟩, List.mem_of_getElem? (i := 95) (by decide +kernel), List.mem_of_getElem? (i := 628) (by decide +kernel), List.mem_of_getElem? (i := 629) (by decide +kernel)⟩
theorem lw_p17 : lw_okq (⟨"ChurchLodge", "loadOf", "(I)I"⟩, 13) := ⟨⟨by decide +kernel, by decide +kernel⟩, List.mem_of_getElem? (i := 20) (by decide +kernel), List.mem_of_getElem? (i := 692) (by decide +kernel), List.mem_of_getElem? (i := 693) (by decide +kernel)⟩
theorem lw_p18 : lw_okq (⟨"ChurchLodge", "pushToRightOn", "(I)I"⟩, 13) := ⟨⟨by decide +kernel, by decide +kernel⟩, List.mem_of_getElem? (i := 20) (by decide +kernel), List.mem_of_getElem? (i := 697) (by decide +kernel), List.mem_of_getElem? (i := 698) (by decide +kernel)⟩
theorem lw_p19 : lw_okq (⟨"ChurchLodge", "coinsRemaining", "()I"⟩, 13) := ⟨⟨by decide +kernel, by decide +kernel⟩, List.mem_of_getElem? (i := 20) (by decide +kernel), List.mem_of_getElem? (i := 753) (by decide +kernel), List.mem_of_getElem? (i := 754) (by decide +kernel)⟩
theorem lw_p20 : lw_okq (⟨"ChurchLodgeModel", "newPart", "(IIII)I"⟩, 47) := ⟨⟨by decide +kernel, by decide +kernel⟩, List.mem_of_getElem? (i := 757) (by decide +kernel), List.mem_of_getElem? (i := 916) (by decide +kernel), List.mem_of_getElem? (i := 917) (by decide +kernel)⟩
theorem lw_p21 : lw_okq (⟨"ChurchLodgeModel", "isPart", "(I)Z"⟩, 47) := ⟨⟨by decide +kernel, by decide +kernel⟩, List.mem_of_getElem? (i := 757) (by decide +kernel), List.mem_of_getElem? (i := 925) (by decide +kernel), List.mem_of_getElem? (i := 926) (by decide +kernel)⟩
theorem lw_p22 : lw_okq (⟨"ChurchLodgeModel", "support0", "(IIII)V"⟩, 47) := ⟨⟨by decide +kernel, by decide +kernel⟩, List.mem_of_getElem? (i := 757) (by decide +kernel), List.mem_of_getElem? (i := 929) (by decide +kernel), List.mem_of_getElem? (i := 930) (by decide +kernel)⟩
theorem lw_p23 : lw_okq (⟨"ChurchLodgeModel", "edition", "()V"⟩, 47) := ⟨⟨by decide +kernel, by decide +kernel⟩, List.mem_of_getElem? (i := 757) (by decide +kernel), List.mem_of_getElem? (i := 937) (by decide +kernel), List.mem_of_getElem? (i := 938) (by decide +kernel)⟩
theorem lw_p24 : lw_okq (⟨"ChurchLodgeModel", "falling", "()I"⟩, 47) := ⟨⟨by decide +kernel, by decide +kernel⟩, List.mem_of_getElem? (i := 757) (by decide +kernel), List.mem_of_getElem? (i := 953) (by decide +kernel), List.mem_of_getElem? (i := 954) (by decide +kernel)⟩
theorem lw_p25 : lw_okq (⟨"ChurchLodgeModel", "weigh", "()V"⟩, 47) := ⟨⟨by decide +kernel, by decide +kernel⟩, List.mem_of_getElem? (i := 757) (by decide +kernel), List.mem_of_getElem? (i := 957) (by decide +kernel), List.mem_of_getElem? (i := 958) (by decide +kernel)⟩
theorem lw_p26 : lw_okq (⟨"ChurchLodgeModel", "goes", "(II)I"⟩, 47) := ⟨⟨by decide +kernel, by decide +kernel⟩, List.mem_of_getElem? (i := 757) (by decide +kernel), List.mem_of_getElem? (i := 961) (by decide +kernel), List.mem_of_getElem? (i := 962) (by decide +kernel)⟩
theorem lw_p27 : lw_okq (⟨"ChurchLodgeModel", "net", "(I)I"⟩, 47) := ⟨⟨by decide +kernel, by decide +kernel⟩, List.mem_of_getElem? (i := 757) (by decide +kernel), List.mem_of_getElem? (i := 966) (by decide +kernel), List.mem_of_getElem? (i := 967) (by decide +kernel)⟩
theorem lw_p28 : lw_okq (⟨"ChurchLodgeModel", "read", "()I"⟩, 47) := ⟨⟨by decide +kernel, by decide +kernel⟩, List.mem_of_getElem? (i := 757) (by decide +kernel), List.mem_of_getElem? (i := 979) (by decide +kernel), List.mem_of_getElem? (i := 980) (by decide +kernel)⟩
theorem lw_p29 : lw_okq (⟨"ChurchLodgeModel", "lay0", "(I)V"⟩, 47) := ⟨⟨by decide +kernel, by decide +kernel⟩, List.mem_of_getElem? (i := 757) (by decide +kernel), List.mem_of_getElem? (i := 986) (by decide +kernel), List.mem_of_getElem? (i := 987) (by decide +kernel)⟩
theorem lw_p30 : lw_okq (⟨"ChurchLodgeModel", "keep", "()I"⟩, 47) := ⟨⟨by decide +kernel, by decide +kernel⟩, List.mem_of_getElem? (i := 757) (by decide +kernel), List.mem_of_getElem? (i := 996) (by decide +kernel), List.mem_of_getElem? (i := 997) (by decide +kernel)⟩
theorem lw_p31 : lw_okq (⟨"ChurchLodgeModel", "says", "(II)I"⟩, 47) := ⟨⟨by decide +kernel, by decide +kernel⟩, List.mem_of_getElem? (i := 757) (by decide +kernel), List.mem_of_getElem? (i := 1008) (by decide +kernel), List.mem_of_getElem? (i := 1009) (by decide +kernel)⟩
def lw_privs_2 : List (MethodName × Nat) := [(⟨"ChurchLodge$Tape", "closeSigns", "()Z"⟩, 6), (⟨"ChurchLodge", "loadOf", "(I)I"⟩, 13), (⟨"ChurchLodge", "pushToRightOn", "(I)I"⟩, 13), (⟨"ChurchLodge", "coinsRemaining", "()I"⟩, 13), (⟨"ChurchLodgeModel", "newPart", "(IIII)I"⟩, 47), (⟨"ChurchLodgeModel", "isPart", "(I)Z"⟩, 47), (⟨"ChurchLodgeModel", "support0", "(IIII)V"⟩, 47), (⟨"ChurchLodgeModel", "edition", "()V"⟩, 47), (⟨"ChurchLodgeModel", "falling", "()I"⟩, 47), (⟨"ChurchLodgeModel", "weigh", "()V"⟩, 47), (⟨"ChurchLodgeModel", "goes", "(II)I"⟩, 47), (⟨"ChurchLodgeModel", "net", "(I)I"⟩, 47), (⟨"ChurchLodgeModel", "read", "()I"⟩, 47), (⟨"ChurchLodgeModel", "lay0", "(I)V"⟩, 47), (⟨"ChurchLodgeModel", "keep", "()I"⟩, 47), (⟨"ChurchLodgeModel", "says", "(II)I"⟩, 47)]
theorem lw_r2 : ∀ q ∈ lw_privs_2, lw_okq q := List.forall_mem_cons.mpr ⟨lw_p16, List.forall_mem_cons.mpr ⟨lw_p17, List.forall_mem_cons.mpr ⟨lw_p18, List.forall_mem_cons.mpr ⟨lw_p19, List.forall_mem_cons.mpr ⟨lw_p20, List.forall_mem_cons.mpr ⟨lw_p21, List.forall_mem_cons.mpr ⟨lw_p22, List.forall_mem_cons.mpr ⟨lw_p23, List.forall_mem_cons.mpr ⟨lw_p24, List.forall_mem_cons.mpr ⟨lw_p25, List.forall_mem_cons.mpr ⟨lw_p26, List.forall_mem_cons.mpr ⟨lw_p27, List.forall_mem_cons.mpr ⟨lw_p28, List.forall_mem_cons.mpr ⟨lw_p29, List.forall_mem_cons.mpr ⟨lw_p30, List.forall_mem_cons.mpr ⟨lw_p31, fun _ h => absurd h List.not_mem_nil⟩⟩⟩⟩⟩⟩⟩⟩⟩⟩⟩⟩⟩⟩⟩⟩
theorem lw_p32 : lw_okq (⟨"ChurchLodgeModel", "named", "(II)I"⟩, 47) := ⟨⟨by decide +kernel, by decide +kernel⟩, List.mem_of_getElem? (i := 757) (by decide +kernel), List.mem_of_getElem? (i := 1012) (by decide +kernel), List.mem_of_getElem? (i := 1013) (by decide +kernel)⟩
theorem lw_p33 : lw_okq (⟨"ChurchLodgeModel", "isFrost", "(I)Z"⟩, 47) := ⟨⟨by decide +kernel, by decide +kernel⟩, List.mem_of_getElem? (i := 757) (by decide +kernel), List.mem_of_getElem? (i := 1016) (by decide +kernel), List.mem_of_getElem? (i := 1017) (by decide +kernel)⟩
theorem lw_p34 : lw_okq (⟨"ChurchLodgeModel", "isGift", "(I)Z"⟩, 47) := ⟨⟨by decide +kernel, by decide +kernel⟩, List.mem_of_getElem? (i := 757) (by decide +kernel), List.mem_of_getElem? (i := 1027) (by decide +kernel), List.mem_of_getElem? (i := 1028) (by decide +kernel)⟩
theorem lw_p35 : lw_okq (⟨"ChurchLodgeModel", "endFor", "(II)I"⟩, 47) := ⟨⟨by decide +kernel, by decide +kernel⟩, List.mem_of_getElem? (i := 757) (by decide +kernel), List.mem_of_getElem? (i := 1031) (by decide +kernel), List.mem_of_getElem? (i := 1032) (by decide +kernel)⟩
theorem lw_p36 : lw_okq (⟨"ChurchLodgeModel", "hinders", "(I)I"⟩, 47) := ⟨⟨by decide +kernel, by decide +kernel⟩, List.mem_of_getElem? (i := 757) (by decide +kernel), List.mem_of_getElem? (i := 1040) (by decide +kernel), List.mem_of_getElem? (i := 1041) (by decide +kernel)⟩
theorem lw_p37 : lw_okq (⟨"ChurchLodgeModel", "fallingBy", "(I)I"⟩, 47) := ⟨⟨by decide +kernel, by decide +kernel⟩, List.mem_of_getElem? (i := 757) (by decide +kernel), List.mem_of_getElem? (i := 1045) (by decide +kernel), List.mem_of_getElem? (i := 1046) (by decide +kernel)⟩
theorem lw_p38 : lw_okq (⟨"ChurchLodgeModel", "stands", "(II)Z"⟩, 47) := ⟨⟨by decide +kernel, by decide +kernel⟩, List.mem_of_getElem? (i := 757) (by decide +kernel), List.mem_of_getElem? (i := 1081) (by decide +kernel), List.mem_of_getElem? (i := 1082) (by decide +kernel)⟩
def lw_privs_3 : List (MethodName × Nat) := [(⟨"ChurchLodgeModel", "named", "(II)I"⟩, 47), (⟨"ChurchLodgeModel", "isFrost", "(I)Z"⟩, 47), (⟨"ChurchLodgeModel", "isGift", "(I)Z"⟩, 47), (⟨"ChurchLodgeModel", "endFor", "(II)I"⟩, 47), (⟨"ChurchLodgeModel", "hinders", "(I)I"⟩, 47), (⟨"ChurchLodgeModel", "fallingBy", "(I)I"⟩, 47), (⟨"ChurchLodgeModel", "stands", "(II)Z"⟩, 47)]
theorem lw_r3 : ∀ q ∈ lw_privs_3, lw_okq q := List.forall_mem_cons.mpr ⟨lw_p32, List.forall_mem_cons.mpr ⟨lw_p33, List.forall_mem_cons.mpr ⟨lw_p34, List.forall_mem_cons.mpr ⟨lw_p35, List.forall_mem_cons.mpr ⟨lw_p36, List.forall_mem_cons.mpr ⟨lw_p37, List.forall_mem_cons.mpr ⟨lw_p38, fun _ h => absurd h List.not_mem_nil⟩⟩⟩⟩⟩⟩⟩
def lw_privs : List (MethodName × Nat) := lw_privs_1 ++ (lw_privs_2 ++ (lw_privs_3))
def lw_tbl : List Cond := k2_sels lw_privs ++ tables_1
theorem lw_privs_ok : ∀ q ∈ lw_privs, lw_okq q := by
  show ∀ q ∈ lw_privs_1 ++ (lw_privs_2 ++ (lw_privs_3)), lw_okq q
  exact List.forall_mem_append.mpr ⟨lw_r1, List.forall_mem_append.mpr ⟨lw_r2, lw_r3⟩⟩
-- ===== end of PART A; then your names; then what follows =====
end
section
def RX0 : String := "ChurchLodge$Calendar"
def TX0 : u_T := fun k => match k with
  | 0 => ("ChurchLodge$Calendar", "bitterOfYear", "[I", true)
  | 1 => ("ChurchLodge$Calendar", "now", "I", false)
  | _ => ("ChurchLodge$Calendar", "frostOfYears", "I", false)
def tyX0 : Nat → FieldType := fun k => match k with
  | 0 => .array .int
  | 1 => .int
  | _ => .int
theorem nmX0 : ∀ a, a < 3 → ∀ b, b < 3 → a ≠ b → (TX0 a).2.1 ≠ (TX0 b).2.1 := by decide +kernel
theorem tyX0_ok : ∀ k, k < 3 → parseFieldDescriptor (TX0 k).2.2.1 = some (tyX0 k) := by decide +kernel
abbrev cX0_init : ByteArray := prog_2_method_1_code
def yX0_init : MethodName := ⟨RX0, "<init>", "()V"⟩
abbrev cX0_isAhead : ByteArray := prog_2_method_2_code
def yX0_isAhead : MethodName := ⟨RX0, "isAhead", "(I)Z"⟩
abbrev cX0_hasFrost : ByteArray := prog_2_method_3_code
def yX0_hasFrost : MethodName := ⟨RX0, "hasFrost", "(I)Z"⟩
abbrev cX0_makeBitter : ByteArray := prog_2_method_4_code
def yX0_makeBitter : MethodName := ⟨RX0, "makeBitter", "(I)Z"⟩
abbrev cX0_pass : ByteArray := prog_2_method_5_code
def yX0_pass : MethodName := ⟨RX0, "pass", "(I)I"⟩
def RX1 : String := "ChurchLodge$Gift"
def TX1 : u_T := fun k => match k with
  | 0 => ("ChurchLodge$Gift", "coins", "I", true)
  | 1 => ("ChurchLodge$Gift", "purpose", "LChurchLodge$Text;", true)
  | _ => ("ChurchLodge$Gift", "remaining", "I", false)
def tyX1 : Nat → FieldType := fun k => match k with
  | 0 => .int
  | 1 => .object "ChurchLodge$Text"
  | _ => .int
theorem nmX1 : ∀ a, a < 3 → ∀ b, b < 3 → a ≠ b → (TX1 a).2.1 ≠ (TX1 b).2.1 := by decide +kernel
theorem tyX1_ok : ∀ k, k < 3 → parseFieldDescriptor (TX1 k).2.2.1 = some (tyX1 k) := by decide +kernel
abbrev cX1_init : ByteArray := prog_3_method_1_code
def yX1_init : MethodName := ⟨RX1, "<init>", "(ILChurchLodge$Text;)V"⟩
def RX2 : String := "ChurchLodge$Part"
def TX2 : u_T := fun k => match k with
  | 0 => ("ChurchLodge$Part", "kind", "I", true)
  | 1 => ("ChurchLodge$Part", "coursesMade", "I", true)
  | 2 => ("ChurchLodge$Part", "weight", "I", true)
  | 3 => ("ChurchLodge$Part", "price", "I", true)
  | 4 => ("ChurchLodge$Part", "told", "[I", true)
  | 5 => ("ChurchLodge$Part", "supports", "[I", true)
  | 6 => ("ChurchLodge$Part", "shares", "[I", true)
  | 7 => ("ChurchLodge$Part", "laidIn", "[I", true)
  | 8 => ("ChurchLodge$Part", "supportCount", "I", false)
  | 9 => ("ChurchLodge$Part", "courses", "I", false)
  | 10 => ("ChurchLodge$Part", "laid", "I", false)
  | 11 => ("ChurchLodge$Part", "age", "I", false)
  | 12 => ("ChurchLodge$Part", "prop", "I", false)
  | _ => ("ChurchLodge$Part", "struck", "Z", false)
def tyX2 : Nat → FieldType := fun k => match k with
  | 0 => .int
  | 1 => .int
  | 2 => .int
  | 3 => .int
  | 4 => .array .int
  | 5 => .array .int
  | 6 => .array .int
  | 7 => .array .int
  | 8 => .int
  | 9 => .int
  | 10 => .int
  | 11 => .int
  | 12 => .int
  | _ => .boolean
theorem nmX2 : ∀ a, a < 14 → ∀ b, b < 14 → a ≠ b → (TX2 a).2.1 ≠ (TX2 b).2.1 := by decide +kernel
theorem tyX2_ok : ∀ k, k < 14 → parseFieldDescriptor (TX2 k).2.2.1 = some (tyX2 k) := by decide +kernel
abbrev cX2_init : ByteArray := prog_4_method_1_code
def yX2_init : MethodName := ⟨RX2, "<init>", "(IIII)V"⟩
abbrev cX2_isBegun : ByteArray := prog_4_method_2_code
def yX2_isBegun : MethodName := ⟨RX2, "isBegun", "()Z"⟩
abbrev cX2_isWhole : ByteArray := prog_4_method_3_code
def yX2_isWhole : MethodName := ⟨RX2, "isWhole", "()Z"⟩
abbrev cX2_isOnCentring : ByteArray := prog_4_method_4_code
def yX2_isOnCentring : MethodName := ⟨RX2, "isOnCentring", "()Z"⟩
abbrev cX2_standOn : ByteArray := prog_4_method_5_code
def yX2_standOn : MethodName := ⟨RX2, "standOn", "(III)V"⟩
abbrev cX2_takeCourse : ByteArray := prog_4_method_6_code
def yX2_takeCourse : MethodName := ⟨RX2, "takeCourse", "(I)V"⟩
abbrev cX2_laidTill : ByteArray := prog_4_method_7_code
def yX2_laidTill : MethodName := ⟨RX2, "laidTill", "(I)I"⟩
abbrev cX2_portion : ByteArray := prog_4_method_8_code
def yX2_portion : MethodName := ⟨RX2, "portion", "(II)I"⟩
abbrev cX2_heaviestWay : ByteArray := prog_4_method_9_code
def yX2_heaviestWay : MethodName := ⟨RX2, "heaviestWay", "(I)I"⟩
abbrev cX2_markSupports : ByteArray := prog_4_method_10_code
def yX2_markSupports : MethodName := ⟨RX2, "markSupports", "([I)V"⟩
abbrev cX2_standsOn : ByteArray := prog_4_method_11_code
def yX2_standsOn : MethodName := ⟨RX2, "standsOn", "(I)Z"⟩
def RX3 : String := "ChurchLodge$Plan"
def TX3 : u_T := fun k => match k with
  | 0 => ("ChurchLodge$Plan", "parts", "[LChurchLodge$Part;", true)
  | 1 => ("ChurchLodge$Plan", "editionPart", "[I", true)
  | 2 => ("ChurchLodge$Plan", "editionCourses", "[I", true)
  | 3 => ("ChurchLodge$Plan", "editionSize", "[I", true)
  | 4 => ("ChurchLodge$Plan", "supportsRead", "[I", true)
  | 5 => ("ChurchLodge$Plan", "partCount", "I", false)
  | _ => ("ChurchLodge$Plan", "editionCount", "I", false)
def tyX3 : Nat → FieldType := fun k => match k with
  | 0 => .array (.object "ChurchLodge$Part")
  | 1 => .array .int
  | 2 => .array .int
  | 3 => .array .int
  | 4 => .array .int
  | 5 => .int
  | _ => .int
theorem nmX3 : ∀ a, a < 7 → ∀ b, b < 7 → a ≠ b → (TX3 a).2.1 ≠ (TX3 b).2.1 := by decide +kernel
theorem tyX3_ok : ∀ k, k < 7 → parseFieldDescriptor (TX3 k).2.2.1 = some (tyX3 k) := by decide +kernel
abbrev cX3_init : ByteArray := prog_5_method_1_code
def yX3_init : MethodName := ⟨RX3, "<init>", "()V"⟩
abbrev cX3_find : ByteArray := prog_5_method_2_code
def yX3_find : MethodName := ⟨RX3, "find", "(I)LChurchLodge$Part;"⟩
abbrev cX3_add : ByteArray := prog_5_method_3_code
def yX3_add : MethodName := ⟨RX3, "add", "(LChurchLodge$Part;)I"⟩
abbrev cX3_readSupports : ByteArray := prog_5_method_4_code
def yX3_readSupports : MethodName := ⟨RX3, "readSupports", "(IIIII)I"⟩
abbrev cX3_isSupportFor : ByteArray := prog_5_method_5_code
def yX3_isSupportFor : MethodName := ⟨RX3, "isSupportFor", "(II)Z"⟩
abbrev cX3_isReadBefore : ByteArray := prog_5_method_6_code
def yX3_isReadBefore : MethodName := ⟨RX3, "isReadBefore", "(I)Z"⟩
abbrev cX3_setSupports : ByteArray := prog_5_method_7_code
def yX3_setSupports : MethodName := ⟨RX3, "setSupports", "(LChurchLodge$Part;I)V"⟩
abbrev cX3_keepEdition : ByteArray := prog_5_method_8_code
def yX3_keepEdition : MethodName := ⟨RX3, "keepEdition", "(II)I"⟩
abbrev cX3_coursesIn : ByteArray := prog_5_method_9_code
def yX3_coursesIn : MethodName := ⟨RX3, "coursesIn", "(II)I"⟩
abbrev cX3_isReadyBelow : ByteArray := prog_5_method_10_code
def yX3_isReadyBelow : MethodName := ⟨RX3, "isReadyBelow", "(LChurchLodge$Part;)Z"⟩
abbrev cX3_ageAll : ByteArray := prog_5_method_11_code
def yX3_ageAll : MethodName := ⟨RX3, "ageAll", "(I)V"⟩
abbrev cX3_countBorneBy : ByteArray := prog_5_method_12_code
def yX3_countBorneBy : MethodName := ⟨RX3, "countBorneBy", "(I)I"⟩
abbrev cX3_countLaid : ByteArray := prog_5_method_13_code
def yX3_countLaid : MethodName := ⟨RX3, "countLaid", "()I"⟩
def RX4 : String := "ChurchLodge$Reckoner"
def TX4 : u_T := fun k => match k with
  | 0 => ("ChurchLodge$Reckoner", "meanings", "[I", true)
  | _ => ("ChurchLodge$Reckoner", "stack", "[I", true)
def tyX4 : Nat → FieldType := fun k => match k with
  | 0 => .array .int
  | _ => .array .int
theorem nmX4 : ∀ a, a < 2 → ∀ b, b < 2 → a ≠ b → (TX4 a).2.1 ≠ (TX4 b).2.1 := by decide +kernel
theorem tyX4_ok : ∀ k, k < 2 → parseFieldDescriptor (TX4 k).2.2.1 = some (tyX4 k) := by decide +kernel
abbrev cX4_init : ByteArray := prog_6_method_1_code
def yX4_init : MethodName := ⟨RX4, "<init>", "()V"⟩
abbrev cX4_nameNoPart : ByteArray := prog_6_method_2_code
def yX4_nameNoPart : MethodName := ⟨RX4, "nameNoPart", "()V"⟩
abbrev cX4_namePart : ByteArray := prog_6_method_3_code
def yX4_namePart : MethodName := ⟨RX4, "namePart", "(ILChurchLodge$Part;)V"⟩
abbrev cX4_nameMonth : ByteArray := prog_6_method_4_code
def yX4_nameMonth : MethodName := ⟨RX4, "nameMonth", "(IZI)V"⟩
abbrev cX4_endOf : ByteArray := prog_6_method_5_code
def yX4_endOf : MethodName := ⟨RX4, "endOf", "(LChurchLodge$Gift;)I"⟩
abbrev cX4_valueOf : ByteArray := prog_6_method_6_code
def yX4_valueOf : MethodName := ⟨RX4, "valueOf", "(LChurchLodge$Text;)I"⟩
abbrev cX4_isSign : ByteArray := prog_6_method_7_code
def yX4_isSign : MethodName := ⟨RX4, "isSign", "(I)Z"⟩
abbrev cX4_meaningOf : ByteArray := prog_6_method_8_code
def yX4_meaningOf : MethodName := ⟨RX4, "meaningOf", "(I)I"⟩
abbrev cX4_truth : ByteArray := prog_6_method_9_code
def yX4_truth : MethodName := ⟨RX4, "truth", "(Z)I"⟩
abbrev cX4_join : ByteArray := prog_6_method_10_code
def yX4_join : MethodName := ⟨RX4, "join", "(III)I"⟩
def RX5 : String := "ChurchLodge$Stress"
def TX5 : u_T := fun k => match k with
  | 0 => ("ChurchLodge$Stress", "loads", "[I", true)
  | _ => ("ChurchLodge$Stress", "pushes", "[I", true)
def tyX5 : Nat → FieldType := fun k => match k with
  | 0 => .array .int
  | _ => .array .int
theorem nmX5 : ∀ a, a < 2 → ∀ b, b < 2 → a ≠ b → (TX5 a).2.1 ≠ (TX5 b).2.1 := by decide +kernel
theorem tyX5_ok : ∀ k, k < 2 → parseFieldDescriptor (TX5 k).2.2.1 = some (tyX5 k) := by decide +kernel
abbrev cX5_init : ByteArray := prog_7_method_1_code
def yX5_init : MethodName := ⟨RX5, "<init>", "()V"⟩
abbrev cX5_weigh : ByteArray := prog_7_method_2_code
def yX5_weigh : MethodName := ⟨RX5, "weigh", "(LChurchLodge$Plan;)V"⟩
abbrev cX5_passDown : ByteArray := prog_7_method_3_code
def yX5_passDown : MethodName := ⟨RX5, "passDown", "(LChurchLodge$Part;I)V"⟩
abbrev cX5_pushAside : ByteArray := prog_7_method_4_code
def yX5_pushAside : MethodName := ⟨RX5, "pushAside", "(LChurchLodge$Part;I)V"⟩
abbrev cX5_leastFalling : ByteArray := prog_7_method_5_code
def yX5_leastFalling : MethodName := ⟨RX5, "leastFalling", "(LChurchLodge$Plan;)I"⟩
def RX6 : String := "ChurchLodge$Tape"
def TX6 : u_T := fun k => match k with
  | 0 => ("ChurchLodge$Tape", "bytes", "[I", true)
  | 1 => ("ChurchLodge$Tape", "items", "[I", true)
  | 2 => ("ChurchLodge$Tape", "wants", "[I", true)
  | 3 => ("ChurchLodge$Tape", "length", "I", false)
  | 4 => ("ChurchLodge$Tape", "itemCount", "I", false)
  | _ => ("ChurchLodge$Tape", "open", "I", false)
def tyX6 : Nat → FieldType := fun k => match k with
  | 0 => .array .int
  | 1 => .array .int
  | 2 => .array .int
  | 3 => .int
  | 4 => .int
  | _ => .int
theorem nmX6 : ∀ a, a < 6 → ∀ b, b < 6 → a ≠ b → (TX6 a).2.1 ≠ (TX6 b).2.1 := by decide +kernel
theorem tyX6_ok : ∀ k, k < 6 → parseFieldDescriptor (TX6 k).2.2.1 = some (tyX6 k) := by decide +kernel
abbrev cX6_init : ByteArray := prog_8_method_1_code
def yX6_init : MethodName := ⟨RX6, "<init>", "()V"⟩
abbrev cX6_take : ByteArray := prog_8_method_2_code
def yX6_take : MethodName := ⟨RX6, "take", "(II)V"⟩
abbrev cX6_asText : ByteArray := prog_8_method_3_code
def yX6_asText : MethodName := ⟨RX6, "asText", "()LChurchLodge$Text;"⟩
abbrev cX6_read : ByteArray := prog_8_method_4_code
def yX6_read : MethodName := ⟨RX6, "read", "()I"⟩
abbrev cX6_openSign : ByteArray := prog_8_method_5_code
def yX6_openSign : MethodName := ⟨RX6, "openSign", "(I)V"⟩
abbrev cX6_closeSigns : ByteArray := prog_8_method_6_code
def yX6_closeSigns : MethodName := ⟨RX6, "closeSigns", "()Z"⟩
abbrev cX6_readLeaf : ByteArray := prog_8_method_7_code
def yX6_readLeaf : MethodName := ⟨RX6, "readLeaf", "(I)I"⟩
abbrev cX6_readNumber : ByteArray := prog_8_method_8_code
def yX6_readNumber : MethodName := ⟨RX6, "readNumber", "(I)I"⟩
abbrev cX6_keep : ByteArray := prog_8_method_9_code
def yX6_keep : MethodName := ⟨RX6, "keep", "(I)V"⟩
abbrev cX6_isDigit : ByteArray := prog_8_method_10_code
def yX6_isDigit : MethodName := ⟨RX6, "isDigit", "(I)Z"⟩
def RX7 : String := "ChurchLodge$Text"
def TX7 : u_T := fun k => match k with
  | _ => ("ChurchLodge$Text", "items", "[I", true)
def tyX7 : Nat → FieldType := fun k => match k with
  | _ => .array .int
theorem nmX7 : ∀ a, a < 1 → ∀ b, b < 1 → a ≠ b → (TX7 a).2.1 ≠ (TX7 b).2.1 := by decide +kernel
theorem tyX7_ok : ∀ k, k < 1 → parseFieldDescriptor (TX7 k).2.2.1 = some (tyX7 k) := by decide +kernel
abbrev cX7_init : ByteArray := prog_9_method_1_code
def yX7_init : MethodName := ⟨RX7, "<init>", "([I)V"⟩
def RX8 : String := "ChurchLodge"
def TX8 : u_T := fun k => match k with
  | 0 => ("ChurchLodge", "plan", "LChurchLodge$Plan;", true)
  | 1 => ("ChurchLodge", "stress", "LChurchLodge$Stress;", true)
  | 2 => ("ChurchLodge", "calendar", "LChurchLodge$Calendar;", true)
  | 3 => ("ChurchLodge", "tape", "LChurchLodge$Tape;", true)
  | 4 => ("ChurchLodge", "reckoner", "LChurchLodge$Reckoner;", true)
  | 5 => ("ChurchLodge", "gifts", "[LChurchLodge$Gift;", true)
  | 6 => ("ChurchLodge", "statutes", "[LChurchLodge$Text;", true)
  | 7 => ("ChurchLodge", "statuteFrom", "[I", true)
  | 8 => ("ChurchLodge", "marked", "[I", true)
  | 9 => ("ChurchLodge", "giftCount", "I", false)
  | 10 => ("ChurchLodge", "statuteCount", "I", false)
  | 11 => ("ChurchLodge", "workDone", "I", false)
  | _ => ("ChurchLodge", "paid", "I", false)
def tyX8 : Nat → FieldType := fun k => match k with
  | 0 => .object "ChurchLodge$Plan"
  | 1 => .object "ChurchLodge$Stress"
  | 2 => .object "ChurchLodge$Calendar"
  | 3 => .object "ChurchLodge$Tape"
  | 4 => .object "ChurchLodge$Reckoner"
  | 5 => .array (.object "ChurchLodge$Gift")
  | 6 => .array (.object "ChurchLodge$Text")
  | 7 => .array .int
  | 8 => .array .int
  | 9 => .int
  | 10 => .int
  | 11 => .int
  | _ => .int
theorem nmX8 : ∀ a, a < 13 → ∀ b, b < 13 → a ≠ b → (TX8 a).2.1 ≠ (TX8 b).2.1 := by decide +kernel
theorem tyX8_ok : ∀ k, k < 13 → parseFieldDescriptor (TX8 k).2.2.1 = some (tyX8 k) := by decide +kernel
abbrev cX8_init : ByteArray := prog_1_method_1_code
def yX8_init : MethodName := ⟨RX8, "<init>", "()V"⟩
abbrev cX8_part : ByteArray := prog_1_method_2_code
def yX8_part : MethodName := ⟨RX8, "part", "(III)I"⟩
abbrev cX8_arch : ByteArray := prog_1_method_3_code
def yX8_arch : MethodName := ⟨RX8, "arch", "(IIIII)I"⟩
abbrev cX8_bear : ByteArray := prog_1_method_4_code
def yX8_bear : MethodName := ⟨RX8, "bear", "(IIIII)I"⟩
abbrev cX8_edit : ByteArray := prog_1_method_5_code
def yX8_edit : MethodName := ⟨RX8, "edit", "(II)I"⟩
abbrev cX8_wanted : ByteArray := prog_1_method_6_code
def yX8_wanted : MethodName := ⟨RX8, "wanted", "(II)I"⟩
abbrev cX8_tell : ByteArray := prog_1_method_7_code
def yX8_tell : MethodName := ⟨RX8, "tell", "(III)I"⟩
abbrev cX8_lay : ByteArray := prog_1_method_8_code
def yX8_lay : MethodName := ⟨RX8, "lay", "(I)I"⟩
abbrev cX8_may : ByteArray := prog_1_method_9_code
def yX8_may : MethodName := ⟨RX8, "may", "(I)I"⟩
abbrev cX8_falls : ByteArray := prog_1_method_10_code
def yX8_falls : MethodName := ⟨RX8, "falls", "(I)I"⟩
abbrev cX8_strike : ByteArray := prog_1_method_11_code
def yX8_strike : MethodName := ⟨RX8, "strike", "(I)I"⟩
abbrev cX8_prop : ByteArray := prog_1_method_12_code
def yX8_prop : MethodName := ⟨RX8, "prop", "(II)I"⟩
abbrev cX8_month : ByteArray := prog_1_method_13_code
def yX8_month : MethodName := ⟨RX8, "month", "(I)I"⟩
abbrev cX8_frost : ByteArray := prog_1_method_14_code
def yX8_frost : MethodName := ⟨RX8, "frost", "(I)I"⟩
abbrev cX8_bitter : ByteArray := prog_1_method_15_code
def yX8_bitter : MethodName := ⟨RX8, "bitter", "(I)I"⟩
abbrev cX8_feed : ByteArray := prog_1_method_16_code
def yX8_feed : MethodName := ⟨RX8, "feed", "(II)I"⟩
abbrev cX8_gift : ByteArray := prog_1_method_17_code
def yX8_gift : MethodName := ⟨RX8, "gift", "(I)I"⟩
abbrev cX8_statute : ByteArray := prog_1_method_18_code
def yX8_statute : MethodName := ⟨RX8, "statute", "(I)I"⟩
abbrev cX8_end : ByteArray := prog_1_method_19_code
def yX8_end : MethodName := ⟨RX8, "end", "(II)I"⟩
abbrev cX8_about : ByteArray := prog_1_method_20_code
def yX8_about : MethodName := ⟨RX8, "about", "(II)I"⟩
abbrev cX8_support : ByteArray := prog_1_method_21_code
def yX8_support : MethodName := ⟨RX8, "support", "(II)I"⟩
abbrev cX8_left : ByteArray := prog_1_method_22_code
def yX8_left : MethodName := ⟨RX8, "left", "(II)I"⟩
abbrev cX8_work : ByteArray := prog_1_method_23_code
def yX8_work : MethodName := ⟨RX8, "work", "()I"⟩
abbrev cX8_as : ByteArray := prog_1_method_24_code
def yX8_as : MethodName := ⟨RX8, "as", "(II)I"⟩
abbrev cX8_down : ByteArray := prog_1_method_25_code
def yX8_down : MethodName := ⟨RX8, "down", "(I)I"⟩
abbrev cX8_needs : ByteArray := prog_1_method_26_code
def yX8_needs : MethodName := ⟨RX8, "needs", "(I)I"⟩
abbrev cX8_count : ByteArray := prog_1_method_27_code
def yX8_count : MethodName := ⟨RX8, "count", "(I)I"⟩
abbrev cX8_isMeasure : ByteArray := prog_1_method_28_code
def yX8_isMeasure : MethodName := ⟨RX8, "isMeasure", "(III)Z"⟩
abbrev cX8_stands : ByteArray := prog_1_method_29_code
def yX8_stands : MethodName := ⟨RX8, "stands", "()Z"⟩
abbrev cX8_loadOf : ByteArray := prog_1_method_30_code
def yX8_loadOf : MethodName := ⟨RX8, "loadOf", "(I)I"⟩
abbrev cX8_pushToRightOn : ByteArray := prog_1_method_31_code
def yX8_pushToRightOn : MethodName := ⟨RX8, "pushToRightOn", "(I)I"⟩
abbrev cX8_fallByCourse : ByteArray := prog_1_method_32_code
def yX8_fallByCourse : MethodName := ⟨RX8, "fallByCourse", "(LChurchLodge$Part;)I"⟩
abbrev cX8_hindranceOfCourse : ByteArray := prog_1_method_33_code
def yX8_hindranceOfCourse : MethodName := ⟨RX8, "hindranceOfCourse", "(ILChurchLodge$Part;)I"⟩
abbrev cX8_findGift : ByteArray := prog_1_method_34_code
def yX8_findGift : MethodName := ⟨RX8, "findGift", "(I)LChurchLodge$Gift;"⟩
abbrev cX8_coinsRemaining : ByteArray := prog_1_method_35_code
def yX8_coinsRemaining : MethodName := ⟨RX8, "coinsRemaining", "()I"⟩
abbrev cX8_coinsFor : ByteArray := prog_1_method_36_code
def yX8_coinsFor : MethodName := ⟨RX8, "coinsFor", "(ILChurchLodge$Part;)I"⟩
abbrev cX8_payFor : ByteArray := prog_1_method_37_code
def yX8_payFor : MethodName := ⟨RX8, "payFor", "(ILChurchLodge$Part;)V"⟩
abbrev cX8_nameMonth : ByteArray := prog_1_method_38_code
def yX8_nameMonth : MethodName := ⟨RX8, "nameMonth", "()V"⟩
abbrev cX8_statuteInForce : ByteArray := prog_1_method_39_code
def yX8_statuteInForce : MethodName := ⟨RX8, "statuteInForce", "()I"⟩
def RX9 : String := "ChurchLodgeModel"
def TX9 : u_T := fun k => match k with
  | 0 => ("ChurchLodgeModel", "code", "I", false)
  | 1 => ("ChurchLodgeModel", "parts", "I", false)
  | 2 => ("ChurchLodgeModel", "kind", "[I", true)
  | 3 => ("ChurchLodgeModel", "wants", "[I", true)
  | 4 => ("ChurchLodgeModel", "firstWant", "[I", true)
  | 5 => ("ChurchLodgeModel", "weight", "[I", true)
  | 6 => ("ChurchLodgeModel", "price", "[I", true)
  | 7 => ("ChurchLodgeModel", "bears", "[I", true)
  | 8 => ("ChurchLodgeModel", "holds", "[I", true)
  | 9 => ("ChurchLodgeModel", "thrust", "[I", true)
  | 10 => ("ChurchLodgeModel", "hard", "[I", true)
  | 11 => ("ChurchLodgeModel", "props", "[I", true)
  | 12 => ("ChurchLodgeModel", "laid", "[I", true)
  | 13 => ("ChurchLodgeModel", "age", "[I", true)
  | 14 => ("ChurchLodgeModel", "centred", "[Z", true)
  | 15 => ("ChurchLodgeModel", "supports", "[I", true)
  | 16 => ("ChurchLodgeModel", "onto", "[I", true)
  | 17 => ("ChurchLodgeModel", "share", "[I", true)
  | 18 => ("ChurchLodgeModel", "month", "I", false)
  | 19 => ("ChurchLodgeModel", "done", "I", false)
  | 20 => ("ChurchLodgeModel", "paid", "I", false)
  | 21 => ("ChurchLodgeModel", "frosts", "I", false)
  | 22 => ("ChurchLodgeModel", "bitters", "[Z", true)
  | 23 => ("ChurchLodgeModel", "laidAt", "[I", true)
  | 24 => ("ChurchLodgeModel", "editions", "I", false)
  | 25 => ("ChurchLodgeModel", "partsAt", "[I", true)
  | 26 => ("ChurchLodgeModel", "wantedAt", "[I", true)
  | 27 => ("ChurchLodgeModel", "asked", "[I", true)
  | 28 => ("ChurchLodgeModel", "load", "[I", true)
  | 29 => ("ChurchLodgeModel", "push", "[I", true)
  | 30 => ("ChurchLodgeModel", "tape", "[B", true)
  | 31 => ("ChurchLodgeModel", "taped", "I", false)
  | 32 => ("ChurchLodgeModel", "texts", "I", false)
  | 33 => ("ChurchLodgeModel", "textFrom", "[I", true)
  | 34 => ("ChurchLodgeModel", "step", "[I", true)
  | 35 => ("ChurchLodgeModel", "laidSteps", "I", false)
  | 36 => ("ChurchLodgeModel", "wanting", "[I", true)
  | 37 => ("ChurchLodgeModel", "pile", "[I", true)
  | 38 => ("ChurchLodgeModel", "gifts", "I", false)
  | 39 => ("ChurchLodgeModel", "brought", "[I", true)
  | 40 => ("ChurchLodgeModel", "left", "[I", true)
  | 41 => ("ChurchLodgeModel", "endOf", "[I", true)
  | 42 => ("ChurchLodgeModel", "statutes", "I", false)
  | 43 => ("ChurchLodgeModel", "statuteText", "[I", true)
  | 44 => ("ChurchLodgeModel", "statuteFrom", "[I", true)
  | 45 => ("ChurchLodgeModel", "pays", "[Z", true)
  | _ => ("ChurchLodgeModel", "under", "[Z", true)
def tyX9 : Nat → FieldType := fun k => match k with
  | 0 => .int
  | 1 => .int
  | 2 => .array .int
  | 3 => .array .int
  | 4 => .array .int
  | 5 => .array .int
  | 6 => .array .int
  | 7 => .array .int
  | 8 => .array .int
  | 9 => .array .int
  | 10 => .array .int
  | 11 => .array .int
  | 12 => .array .int
  | 13 => .array .int
  | 14 => .array .boolean
  | 15 => .array .int
  | 16 => .array .int
  | 17 => .array .int
  | 18 => .int
  | 19 => .int
  | 20 => .int
  | 21 => .int
  | 22 => .array .boolean
  | 23 => .array .int
  | 24 => .int
  | 25 => .array .int
  | 26 => .array .int
  | 27 => .array .int
  | 28 => .array .int
  | 29 => .array .int
  | 30 => .array .byte
  | 31 => .int
  | 32 => .int
  | 33 => .array .int
  | 34 => .array .int
  | 35 => .int
  | 36 => .array .int
  | 37 => .array .int
  | 38 => .int
  | 39 => .array .int
  | 40 => .array .int
  | 41 => .array .int
  | 42 => .int
  | 43 => .array .int
  | 44 => .array .int
  | 45 => .array .boolean
  | _ => .array .boolean
theorem nmX9 : ∀ a, a < 47 → ∀ b, b < 47 → a ≠ b → (TX9 a).2.1 ≠ (TX9 b).2.1 := by decide +kernel
theorem tyX9_ok : ∀ k, k < 47 → parseFieldDescriptor (TX9 k).2.2.1 = some (tyX9 k) := by decide +kernel
abbrev cX9_init : ByteArray := prog_11_method_1_code
def yX9_init : MethodName := ⟨RX9, "<init>", "()V"⟩
abbrev cX9_in : ByteArray := prog_11_method_3_code
def yX9_in : MethodName := ⟨RX9, "in", "(III)Z"⟩
abbrev cX9_isPart : ByteArray := prog_11_method_4_code
def yX9_isPart : MethodName := ⟨RX9, "isPart", "(I)Z"⟩
abbrev cX9_newPart : ByteArray := prog_11_method_5_code
def yX9_newPart : MethodName := ⟨RX9, "newPart", "(IIII)I"⟩
abbrev cX9_isPlan : ByteArray := prog_11_method_6_code
def yX9_isPlan : MethodName := ⟨RX9, "isPlan", "(III)Z"⟩
abbrev cX9_part : ByteArray := prog_11_method_7_code
def yX9_part : MethodName := ⟨RX9, "part", "(III)I"⟩
abbrev cX9_support0 : ByteArray := prog_11_method_8_code
def yX9_support0 : MethodName := ⟨RX9, "support0", "(IIII)V"⟩
abbrev cX9_arch : ByteArray := prog_11_method_9_code
def yX9_arch : MethodName := ⟨RX9, "arch", "(IIIII)I"⟩
abbrev cX9_edition : ByteArray := prog_11_method_10_code
def yX9_edition : MethodName := ⟨RX9, "edition", "()V"⟩
abbrev cX9_bear : ByteArray := prog_11_method_11_code
def yX9_bear : MethodName := ⟨RX9, "bear", "(IIIII)I"⟩
abbrev cX9_edit : ByteArray := prog_11_method_12_code
def yX9_edit : MethodName := ⟨RX9, "edit", "(II)I"⟩
abbrev cX9_wanted : ByteArray := prog_11_method_13_code
def yX9_wanted : MethodName := ⟨RX9, "wanted", "(II)I"⟩
abbrev cX9_goes : ByteArray := prog_11_method_14_code
def yX9_goes : MethodName := ⟨RX9, "goes", "(II)I"⟩
abbrev cX9_weigh : ByteArray := prog_11_method_15_code
def yX9_weigh : MethodName := ⟨RX9, "weigh", "()V"⟩
abbrev cX9_net : ByteArray := prog_11_method_16_code
def yX9_net : MethodName := ⟨RX9, "net", "(I)I"⟩
abbrev cX9_falling : ByteArray := prog_11_method_17_code
def yX9_falling : MethodName := ⟨RX9, "falling", "()I"⟩
abbrev cX9_fallingBy : ByteArray := prog_11_method_18_code
def yX9_fallingBy : MethodName := ⟨RX9, "fallingBy", "(I)I"⟩
abbrev cX9_tell : ByteArray := prog_11_method_19_code
def yX9_tell : MethodName := ⟨RX9, "tell", "(III)I"⟩
abbrev cX9_feed : ByteArray := prog_11_method_20_code
def yX9_feed : MethodName := ⟨RX9, "feed", "(II)I"⟩
abbrev cX9_isDigit : ByteArray := prog_11_method_21_code
def yX9_isDigit : MethodName := ⟨RX9, "isDigit", "(I)Z"⟩
abbrev cX9_isName : ByteArray := prog_11_method_22_code
def yX9_isName : MethodName := ⟨RX9, "isName", "(I)Z"⟩
abbrev cX9_isSign : ByteArray := prog_11_method_23_code
def yX9_isSign : MethodName := ⟨RX9, "isSign", "(I)Z"⟩
abbrev cX9_lay0 : ByteArray := prog_11_method_24_code
def yX9_lay0 : MethodName := ⟨RX9, "lay0", "(I)V"⟩
abbrev cX9_read : ByteArray := prog_11_method_25_code
def yX9_read : MethodName := ⟨RX9, "read", "()I"⟩
abbrev cX9_keep : ByteArray := prog_11_method_26_code
def yX9_keep : MethodName := ⟨RX9, "keep", "()I"⟩
abbrev cX9_isFrost : ByteArray := prog_11_method_27_code
def yX9_isFrost : MethodName := ⟨RX9, "isFrost", "(I)Z"⟩
abbrev cX9_named : ByteArray := prog_11_method_28_code
def yX9_named : MethodName := ⟨RX9, "named", "(II)I"⟩
abbrev cX9_both : ByteArray := prog_11_method_29_code
def yX9_both : MethodName := ⟨RX9, "both", "(III)I"⟩
abbrev cX9_says : ByteArray := prog_11_method_30_code
def yX9_says : MethodName := ⟨RX9, "says", "(II)I"⟩
abbrev cX9_isGift : ByteArray := prog_11_method_31_code
def yX9_isGift : MethodName := ⟨RX9, "isGift", "(I)Z"⟩
abbrev cX9_gift : ByteArray := prog_11_method_32_code
def yX9_gift : MethodName := ⟨RX9, "gift", "(I)I"⟩
abbrev cX9_statute : ByteArray := prog_11_method_33_code
def yX9_statute : MethodName := ⟨RX9, "statute", "(I)I"⟩
abbrev cX9_work : ByteArray := prog_11_method_34_code
def yX9_work : MethodName := ⟨RX9, "work", "()I"⟩
abbrev cX9_endFor : ByteArray := prog_11_method_35_code
def yX9_endFor : MethodName := ⟨RX9, "endFor", "(II)I"⟩
abbrev cX9_end : ByteArray := prog_11_method_36_code
def yX9_end : MethodName := ⟨RX9, "end", "(II)I"⟩
abbrev cX9_hinders : ByteArray := prog_11_method_37_code
def yX9_hinders : MethodName := ⟨RX9, "hinders", "(I)I"⟩
abbrev cX9_may : ByteArray := prog_11_method_38_code
def yX9_may : MethodName := ⟨RX9, "may", "(I)I"⟩
abbrev cX9_falls : ByteArray := prog_11_method_39_code
def yX9_falls : MethodName := ⟨RX9, "falls", "(I)I"⟩
abbrev cX9_lay : ByteArray := prog_11_method_40_code
def yX9_lay : MethodName := ⟨RX9, "lay", "(I)I"⟩
abbrev cX9_strike : ByteArray := prog_11_method_41_code
def yX9_strike : MethodName := ⟨RX9, "strike", "(I)I"⟩
abbrev cX9_prop : ByteArray := prog_11_method_42_code
def yX9_prop : MethodName := ⟨RX9, "prop", "(II)I"⟩
abbrev cX9_month : ByteArray := prog_11_method_43_code
def yX9_month : MethodName := ⟨RX9, "month", "(I)I"⟩
abbrev cX9_frost : ByteArray := prog_11_method_44_code
def yX9_frost : MethodName := ⟨RX9, "frost", "(I)I"⟩
abbrev cX9_bitter : ByteArray := prog_11_method_45_code
def yX9_bitter : MethodName := ⟨RX9, "bitter", "(I)I"⟩
abbrev cX9_about : ByteArray := prog_11_method_46_code
def yX9_about : MethodName := ⟨RX9, "about", "(II)I"⟩
abbrev cX9_stands : ByteArray := prog_11_method_47_code
def yX9_stands : MethodName := ⟨RX9, "stands", "(II)Z"⟩
abbrev cX9_support : ByteArray := prog_11_method_48_code
def yX9_support : MethodName := ⟨RX9, "support", "(II)I"⟩
abbrev cX9_left : ByteArray := prog_11_method_49_code
def yX9_left : MethodName := ⟨RX9, "left", "(II)I"⟩
abbrev cX9_as : ByteArray := prog_11_method_50_code
def yX9_as : MethodName := ⟨RX9, "as", "(II)I"⟩
abbrev cX9_down : ByteArray := prog_11_method_51_code
def yX9_down : MethodName := ⟨RX9, "down", "(I)I"⟩
abbrev cX9_needs : ByteArray := prog_11_method_52_code
def yX9_needs : MethodName := ⟨RX9, "needs", "(I)I"⟩
abbrev cX9_count : ByteArray := prog_11_method_53_code
def yX9_count : MethodName := ⟨RX9, "count", "(I)I"⟩
def RJ11 : String := "java/lang/Character"
def TJ11 : u_T := fun k => match k with
  | _ => ("", "", "", false)
def tyJ11 : Nat → FieldType := fun k => match k with
  | _ => .int
theorem nmJ11 : ∀ a, a < 0 → ∀ b, b < 0 → a ≠ b → (TJ11 a).2.1 ≠ (TJ11 b).2.1 := by decide +kernel
theorem tyJ11_ok : ∀ k, k < 0 → parseFieldDescriptor (TJ11 k).2.2.1 = some (tyJ11 k) := by decide +kernel
abbrev cJ11_isValidCodePoint_9a6ad : ByteArray := prog_12_method_11_code
def yJ11_isValidCodePoint_9a6ad : MethodName := ⟨RJ11, "isValidCodePoint", "(I)Z"⟩
abbrev cJ11_highSurrogate_5068e : ByteArray := prog_12_method_28_code
def yJ11_highSurrogate_5068e : MethodName := ⟨RJ11, "highSurrogate", "(I)C"⟩
abbrev cJ11_lowSurrogate_5068e : ByteArray := prog_12_method_29_code
def yJ11_lowSurrogate_5068e : MethodName := ⟨RJ11, "lowSurrogate", "(I)C"⟩
def RJx8e188 : String := "java/lang/Cloneable"
def TJx8e188 : u_T := fun k => match k with
  | _ => ("", "", "", false)
def tyJx8e188 : Nat → FieldType := fun k => match k with
  | _ => .int
theorem nmJx8e188 : ∀ a, a < 0 → ∀ b, b < 0 → a ≠ b → (TJx8e188 a).2.1 ≠ (TJx8e188 b).2.1 := by decide +kernel
theorem tyJx8e188_ok : ∀ k, k < 0 → parseFieldDescriptor (TJx8e188 k).2.2.1 = some (tyJx8e188 k) := by decide +kernel
def RJ9 : String := "java/lang/Math"
def TJ9 : u_T := fun k => match k with
  | _ => ("", "", "", false)
def tyJ9 : Nat → FieldType := fun k => match k with
  | _ => .int
theorem nmJ9 : ∀ a, a < 0 → ∀ b, b < 0 → a ≠ b → (TJ9 a).2.1 ≠ (TJ9 b).2.1 := by decide +kernel
theorem tyJ9_ok : ∀ k, k < 0 → parseFieldDescriptor (TJ9 k).2.2.1 = some (tyJ9 k) := by decide +kernel
abbrev cJ9_abs_0f7a4 : ByteArray := prog_14_method_59_code
def yJ9_abs_0f7a4 : MethodName := ⟨RJ9, "abs", "(I)I"⟩
abbrev cJ9_max_7cf53 : ByteArray := prog_14_method_65_code
def yJ9_max_7cf53 : MethodName := ⟨RJ9, "max", "(II)I"⟩
abbrev cJ9_min_7cf53 : ByteArray := prog_14_method_69_code
def yJ9_min_7cf53 : MethodName := ⟨RJ9, "min", "(II)I"⟩
def RJ0 : String := "java/lang/String"
def TJ0 : u_T := fun k => match k with
  | _ => ("", "", "", false)
def tyJ0 : Nat → FieldType := fun k => match k with
  | _ => .int
theorem nmJ0 : ∀ a, a < 0 → ∀ b, b < 0 → a ≠ b → (TJ0 a).2.1 ≠ (TJ0 b).2.1 := by decide +kernel
theorem tyJ0_ok : ∀ k, k < 0 → parseFieldDescriptor (TJ0 k).2.2.1 = some (tyJ0 k) := by decide +kernel
abbrev cJ0_length_8abf5 : ByteArray := prog_15_method_54_code
def yJ0_length_8abf5 : MethodName := ⟨RJ0, "length", "()I"⟩
abbrev cJ0_indexOf_0f7a4 : ByteArray := prog_15_method_79_code
def yJ0_indexOf_0f7a4 : MethodName := ⟨RJ0, "indexOf", "(I)I"⟩
abbrev cJ0_indexOf_7cf53 : ByteArray := prog_15_method_80_code
def yJ0_indexOf_7cf53 : MethodName := ⟨RJ0, "indexOf", "(II)I"⟩
abbrev cJ0_coder_7d493 : ByteArray := prog_15_method_152_code
def yJ0_coder_7d493 : MethodName := ⟨RJ0, "coder", "()B"⟩
abbrev cJ0_isLatin1_aae02 : ByteArray := prog_15_method_154_code
def yJ0_isLatin1_aae02 : MethodName := ⟨RJ0, "isLatin1", "()Z"⟩
abbrev cJ0_checkBoundsBeginEnd_23922 : ByteArray := prog_15_method_158_code
def yJ0_checkBoundsBeginEnd_23922 : MethodName := ⟨RJ0, "checkBoundsBeginEnd", "(III)V"⟩
def RJ1 : String := "java/lang/StringLatin1"
def TJ1 : u_T := fun k => match k with
  | _ => ("", "", "", false)
def tyJ1 : Nat → FieldType := fun k => match k with
  | _ => .int
theorem nmJ1 : ∀ a, a < 0 → ∀ b, b < 0 → a ≠ b → (TJ1 a).2.1 ≠ (TJ1 b).2.1 := by decide +kernel
theorem tyJ1_ok : ∀ k, k < 0 → parseFieldDescriptor (TJ1 k).2.2.1 = some (tyJ1 k) := by decide +kernel
abbrev cJ1_canEncode_9a6ad : ByteArray := prog_16_method_4_code
def yJ1_canEncode_9a6ad : MethodName := ⟨RJ1, "canEncode", "(I)Z"⟩
abbrev cJ1_indexOf_4cfef : ByteArray := prog_16_method_22_code
def yJ1_indexOf_4cfef : MethodName := ⟨RJ1, "indexOf", "([BIII)I"⟩
abbrev cJ1_indexOfChar_4cfef : ByteArray := prog_16_method_23_code
def yJ1_indexOfChar_4cfef : MethodName := ⟨RJ1, "indexOfChar", "([BIII)I"⟩
def RJ2 : String := "java/lang/StringUTF16"
def TJ2 : u_T := fun k => match k with
  | _ => ("", "", "", false)
def tyJ2 : Nat → FieldType := fun k => match k with
  | _ => .int
theorem nmJ2 : ∀ a, a < 0 → ∀ b, b < 0 → a ≠ b → (TJ2 a).2.1 ≠ (TJ2 b).2.1 := by decide +kernel
theorem tyJ2_ok : ∀ k, k < 0 → parseFieldDescriptor (TJ2 k).2.2.1 = some (tyJ2 k) := by decide +kernel
abbrev cJ2_getChar_3b067 : ByteArray := prog_17_method_5_code
def yJ2_getChar_3b067 : MethodName := ⟨RJ2, "getChar", "([BI)C"⟩
abbrev cJ2_length_9d52b : ByteArray := prog_17_method_6_code
def yJ2_length_9d52b : MethodName := ⟨RJ2, "length", "([B)I"⟩
abbrev cJ2_indexOf_4cfef : ByteArray := prog_17_method_40_code
def yJ2_indexOf_4cfef : MethodName := ⟨RJ2, "indexOf", "([BIII)I"⟩
abbrev cJ2_indexOfChar_4cfef : ByteArray := prog_17_method_47_code
def yJ2_indexOfChar_4cfef : MethodName := ⟨RJ2, "indexOfChar", "([BIII)I"⟩
abbrev cJ2_indexOfCharUnsafe_4cfef : ByteArray := prog_17_method_48_code
def yJ2_indexOfCharUnsafe_4cfef : MethodName := ⟨RJ2, "indexOfCharUnsafe", "([BIII)I"⟩
abbrev cJ2_indexOfSupplementary_4cfef : ByteArray := prog_17_method_49_code
def yJ2_indexOfSupplementary_4cfef : MethodName := ⟨RJ2, "indexOfSupplementary", "([BIII)I"⟩
abbrev cJ2_checkBoundsBeginEnd_d044e : ByteArray := prog_17_method_93_code
def yJ2_checkBoundsBeginEnd_d044e : MethodName := ⟨RJ2, "checkBoundsBeginEnd", "(II[B)V"⟩
def RJ10 : String := "java/lang/System"
def TJ10 : u_T := fun k => match k with
  | _ => ("", "", "", false)
def tyJ10 : Nat → FieldType := fun k => match k with
  | _ => .int
theorem nmJ10 : ∀ a, a < 0 → ∀ b, b < 0 → a ≠ b → (TJ10 a).2.1 ≠ (TJ10 b).2.1 := by decide +kernel
theorem tyJ10_ok : ∀ k, k < 0 → parseFieldDescriptor (TJ10 k).2.2.1 = some (tyJ10 k) := by decide +kernel
def RJ7 : String := "java/util/Arrays"
def TJ7 : u_T := fun k => match k with
  | _ => ("", "", "", false)
def tyJ7 : Nat → FieldType := fun k => match k with
  | _ => .int
theorem nmJ7 : ∀ a, a < 0 → ∀ b, b < 0 → a ≠ b → (TJ7 a).2.1 ≠ (TJ7 b).2.1 := by decide +kernel
theorem tyJ7_ok : ∀ k, k < 0 → parseFieldDescriptor (TJ7 k).2.2.1 = some (tyJ7 k) := by decide +kernel
abbrev cJ7_fill_53178 : ByteArray := prog_19_method_103_code
def yJ7_fill_53178 : MethodName := ⟨RJ7, "fill", "([II)V"⟩
abbrev cJ7_copyOf_59c91 : ByteArray := prog_19_method_123_code
def yJ7_copyOf_59c91 : MethodName := ⟨RJ7, "copyOf", "([II)[I"⟩
def RJ3 : String := "jdk/internal/util/Preconditions"
def TJ3 : u_T := fun k => match k with
  | _ => ("", "", "", false)
def tyJ3 : Nat → FieldType := fun k => match k with
  | _ => .int
theorem nmJ3 : ∀ a, a < 0 → ∀ b, b < 0 → a ≠ b → (TJ3 a).2.1 ≠ (TJ3 b).2.1 := by decide +kernel
theorem tyJ3_ok : ∀ k, k < 0 → parseFieldDescriptor (TJ3 k).2.2.1 = some (tyJ3 k) := by decide +kernel
abbrev cJ3_checkFromToIndex_8c36e : ByteArray := prog_20_method_12_code
def yJ3_checkFromToIndex_8c36e : MethodName := ⟨RJ3, "checkFromToIndex", "(IIILjava/util/function/BiFunction;)I"⟩
def RL : String := "ChurchLodgeLaw"
abbrev cL_law : ByteArray := code
def yL_law : MethodName := ⟨RL, "law", "([I)Z"⟩
end
section
/-! THE WORLD BY NAMES. A cell's name is (id, i): id < 100: the i-th object of class id (cls); id = 100 * (c + 1) + k: the array in field k of the i-th object of class c. V id i j: the int there (of a scalar field: V (its id) i 0). -/
abbrev Vt : Type := Nat → Nat → Nat → Int32
/-- what never changes in a run: class numbers, array classes, the heap at the law's entry, String constants' cells and rows, MOST_TOLD's row -/
abbrev Gt : Type := va_G × (Nat → ClassId) × Heap × (Nat → Nat) × (Nat → Nat) × Nat
/-- what only makings change: addresses, which objects there are, lengths of arrays, references -/
abbrev Et : Type := (Nat → Nat → Nat) × (Nat → Nat → Prop) × (Nat → Nat → Nat) × (Nat → Nat → Option Nat)
abbrev gD (G : Gt) : va_G := G.1
abbrev gT (G : Gt) : Nat → ClassId := G.2.1
abbrev gB (G : Gt) : Heap := G.2.2.1
abbrev gK (G : Gt) : Nat → Nat := G.2.2.2.1
abbrev gV (G : Gt) : Nat → Nat := G.2.2.2.2.1
abbrev gM (G : Gt) : Nat := G.2.2.2.2.2
abbrev eA (E : Et) : Nat → Nat → Nat := E.1
abbrev eL (E : Et) : Nat → Nat → Prop := E.2.1
abbrev eN (E : Et) : Nat → Nat → Nat := E.2.2.1
abbrev eR (E : Et) : Nat → Nat → Option Nat := E.2.2.2
def cls : List vw_C := [(RX0, TX0, 3), (RX1, TX1, 3), (RX2, TX2, 14), (RX3, TX3, 7), (RX4, TX4, 2), (RX5, TX5, 2), (RX6, TX6, 6), (RX7, TX7, 1), (RX8, TX8, 13), (RX9, TX9, 47)]
/-- kinds of fields: 0 an int; 1, 2, 3 a row of ints, bytes, booleans; 4, 5, 6 a row of Parts, Gifts, Texts; 8 a Text or null; 10 + c the one object of class c -/
def fkl (c : Nat) : List Nat := match c with
  | 0 => [1, 0, 0]
  | 1 => [0, 8, 0]
  | 2 => [0, 0, 0, 0, 1, 1, 1, 1, 0, 0, 0, 0, 0, 0]
  | 3 => [4, 1, 1, 1, 1, 0, 0]
  | 4 => [1, 1]
  | 5 => [1, 1]
  | 6 => [1, 1, 1, 0, 0, 0]
  | 7 => [1]
  | 8 => [13, 15, 10, 16, 14, 5, 6, 1, 1, 0, 0, 0, 0]
  | 9 => [0, 0, 1, 1, 1, 1, 1, 1, 1, 1, 1, 1, 1, 1, 3, 1, 1, 1, 0, 0, 0, 0, 3, 1, 0, 1, 1, 1, 1, 1, 2, 0, 0, 1, 1, 0, 1, 1, 0, 1, 1, 1, 0, 1, 1, 3, 3]
  | _ => []
def kdo (id : Nat) : Nat := (fkl (id / 100 - 1)).getD (id % 100) 0
def fval (E : Et) (V : Vt) (c i k kd : Nat) : Value := match kd with
  | 0 => .int (V (100 * (c + 1) + k) i 0)
  | 8 => va_rf ((eR E (100 * (c + 1) + k) i).map (eA E 7))
  | 1 => .ref (eA E (100 * (c + 1) + k) i)
  | 2 => .ref (eA E (100 * (c + 1) + k) i)
  | 3 => .ref (eA E (100 * (c + 1) + k) i)
  | 4 => .ref (eA E (100 * (c + 1) + k) i)
  | 5 => .ref (eA E (100 * (c + 1) + k) i)
  | 6 => .ref (eA E (100 * (c + 1) + k) i)
  | n => .ref (eA E (n - 10) 0)
def fvs (E : Et) (V : Vt) (c i : Nat) : Nat → List Nat → List Value
  | _, [] => []
  | k, kd :: t => fval E V c i k kd :: fvs E V c i (k + 1) t
def obF (E : Et) (V : Vt) (c i : Nat) : List Value := fvs E V c i 0 (fkl c)
def arC (G : Gt) (E : Et) (V : Vt) (id i kd : Nat) : va_E := match kd with
  | 1 => .inl (gT G 0, eN E id i, .inl (V id i))
  | 2 => .inl (gT G 1, eN E id i, .inl (V id i))
  | 3 => .inl (gT G 2, eN E id i, .inl (V id i))
  | 4 => .inl (gT G 3, eN E id i, .inr (.inr (.inr (.inr (fun j => (eR E id j).map (eA E 2))))))
  | 5 => .inl (gT G 4, eN E id i, .inr (.inr (.inr (.inr (fun j => (eR E id j).map (eA E 1))))))
  | _ => .inl (gT G 5, eN E id i, .inr (.inr (.inr (.inr (fun j => (eR E id j).map (eA E 7))))))
def cellOf (G : Gt) (E : Et) (V : Vt) (id i : Nat) : va_E := if id < 100 then .inr (id, obF E V id i) else arC G E V id i (kdo id)
def Lv (E : Et) (id i : Nat) : Prop := if id < 100 then eL E id i else 1 ≤ kdo id ∧ kdo id ≤ 6 ∧ eL E (id / 100 - 1) i
def RepH (G : Gt) (E : Et) (V : Vt) (H : Heap) : Prop :=
  (∀ q, q < (gB G).size → H[q]? = (gB G)[q]?) ∧ (∀ id i, Lv E id i → (gB G).size ≤ eA E id i ∧ va_at (gD G) cls (eA E id i, cellOf G E V id i) H) ∧ ∀ id i id' i', Lv E id i → Lv E id' i' → eA E id i = eA E id' i' → id = id' ∧ i = i'
def up3 (V : Vt) (f i j : Nat) (v : Int32) : Vt := fun f' i' j' => if f' = f ∧ i' = i ∧ j' = j then v else V f' i' j'
theorem up3_s (V : Vt) (f i j : Nat) (v : Int32) : up3 V f i j v f i j = v := by simp [up3]
theorem up3_f {V : Vt} {f i j f' i' j' : Nat} {v : Int32} (h : f' ≠ f) : up3 V f i j v f' i' j' = V f' i' j' := by simp [up3, h]
theorem up3_i {V : Vt} {f i j f' i' j' : Nat} {v : Int32} (h : i' ≠ i) : up3 V f i j v f' i' j' = V f' i' j' := by simp [up3, h]
theorem up3_j {V : Vt} {f i j f' i' j' : Nat} {v : Int32} (h : j' ≠ j) : up3 V f i j v f' i' j' = V f' i' j' := by simp [up3, h]
theorem up3_row (V : Vt) (f i j : Nat) (v : Int32) : up3 V f i j v f i = upd (V f i) j v := by
  funext x
  simp only [up3, upd, true_and]
theorem fvs_get (E : Et) (V : Vt) (c i : Nat) : ∀ (l : List Nat) (k0 k : Nat), (fvs E V c i k0 l)[k]? = (l[k]?).map (fval E V c i (k0 + k))
  | [], k0, k => by simp [fvs]
  | kd :: t, k0, 0 => by simp [fvs]
  | kd :: t, k0, k + 1 => by
    simp only [fvs, List.getElem?_cons_succ]
    rw [fvs_get E V c i t (k0 + 1) k, show k0 + 1 + k = k0 + (k + 1) by omega]
theorem obF_get (E : Et) (V : Vt) (c i k : Nat) : (obF E V c i)[k]? = ((fkl c)[k]?).map (fval E V c i k) := by
  unfold obF
  rw [fvs_get, Nat.zero_add]
theorem fkl_len (c : Nat) : (fkl c).length ≤ 60 := by
  unfold fkl
  split <;> simp
theorem fkl_lt {c k kd : Nat} (h : (fkl c)[k]? = some kd) : k < 60 := Nat.lt_of_lt_of_le (List.getElem?_eq_some_iff.mp h).1 (fkl_len c)
theorem kdo_at {c k kd : Nat} (h : (fkl c)[k]? = some kd) : kdo (100 * (c + 1) + k) = kd := by
  have hk := fkl_lt h
  unfold kdo
  rw [show (100 * (c + 1) + k) / 100 - 1 = c by omega, show (100 * (c + 1) + k) % 100 = k by omega]
  simp [List.getD, h]
/-- a row's write changes no object's fields -/
theorem obF_row {E : Et} {V : Vt} {f i0 j c i : Nat} {v : Int32} (hf : kdo f ≠ 0) : obF E (up3 V f i0 j v) c i = obF E V c i := by
  apply List.ext_getElem?
  intro k
  rw [obF_get, obF_get]
  cases h : (fkl c)[k]? with
  | none => rfl
  | some kd =>
    simp only [Option.map_some]
    congr 1
    unfold fval
    split <;> first | rfl | skip
    rw [up3_f (fun e => hf (by rw [← e]; exact kdo_at h))]
/-- a scalar's write changes no row -/
theorem arC_other {G : Gt} {E : Et} {V : Vt} {f i0 j id i : Nat} {v : Int32} (h : ¬ (id = f ∧ i = i0)) (kd : Nat) : arC G E (up3 V f i0 j v) id i kd = arC G E V id i kd := by
  have e : up3 V f i0 j v id i = V id i := by
    funext x
    by_cases h1 : id = f
    · exact up3_i (fun q => h ⟨h1, q⟩)
    · exact up3_f h1
  unfold arC
  split <;> first | rw [e] | rfl
theorem obF_put {E : Et} {V : Vt} {c i k : Nat} {v : Int32} (hk : (fkl c)[k]? = some 0) : obF E (up3 V (100 * (c + 1) + k) i 0 v) c i = (obF E V c i).set k (.int v) := by
  apply List.ext_getElem?
  intro x
  have hk60 := fkl_lt hk
  rw [List.getElem?_set, obF_get, obF_get]
  by_cases hx : k = x
  · subst hx
    have hl : k < (obF E V c i).length := by
      have : (obF E V c i)[k]? = some (fval E V c i k 0) := by rw [obF_get, hk]; rfl
      exact (List.getElem?_eq_some_iff.mp this).1
    rw [if_pos rfl, if_pos hl, hk]
    simp only [Option.map_some, fval, up3_s]
  · rw [if_neg hx]
    cases h : (fkl c)[x]? with
    | none => rfl
    | some kd =>
      simp only [Option.map_some]
      congr 1
      unfold fval
      split <;> first | rfl | skip
      rw [up3_f (by omega)]
theorem obF_other {E : Et} {V : Vt} {c i k c' i' : Nat} {v : Int32} (hk : (fkl c)[k]? = some 0) (h : ¬ (c' = c ∧ i' = i)) : obF E (up3 V (100 * (c + 1) + k) i 0 v) c' i' = obF E V c' i' := by
  apply List.ext_getElem?
  intro x
  have hk60 := fkl_lt hk
  rw [obF_get, obF_get]
  cases hx : (fkl c')[x]? with
  | none => rfl
  | some kd =>
    have hx60 := fkl_lt hx
    simp only [Option.map_some]
    congr 1
    unfold fval
    split <;> first | rfl | skip
    by_cases hi : i' = i
    · rw [up3_f (fun e => h ⟨by omega, hi⟩)]
    · rw [up3_i hi]
/-- the heap behind a write to one named cell -/
theorem RepH.wr {G : Gt} {E : Et} {V V' : Vt} {H H1 : Heap} {id i : Nat} (h : RepH G E V H) (hl : Lv E id i) (hz : H1.size = H.size) (ho : ∀ q, q ≠ eA E id i → H1[q]? = H[q]?) (hs : va_at (gD G) cls (eA E id i, cellOf G E V' id i) H1) (hv : ∀ id' i', ¬ (id' = id ∧ i' = i) → cellOf G E V' id' i' = cellOf G E V id' i') : RepH G E V' H1 := by
  obtain ⟨h1, h2, h3⟩ := h
  refine ⟨fun q hq => ?_, fun id' i' hl' => ?_, h3⟩
  · have := (h2 id i hl).1
    rw [ho q (by omega)]
    exact h1 q hq
  · refine ⟨(h2 id' i' hl').1, ?_⟩
    by_cases he : id' = id ∧ i' = i
    · obtain ⟨rfl, rfl⟩ := he
      exact hs
    · rw [hv id' i' he]
      exact (h2 id' i' hl').2.kept (ho _ (fun e => he (h3 id' i' id i hl' hl e)))
def tb : List Cond := lw_tbl.filter goodWord
theorem tb_in {w : Cond} (h : w ∈ lw_tbl) (hg : goodWord w = true) : w ∈ tb := List.mem_filter.mpr ⟨h, hg⟩
theorem tb_good {w : Cond} (h : w ∈ tb) : goodWord w = true := (List.mem_filter.mp h).2
theorem tb_GoodIn {y : MethodName} {cc : ByteArray} {n : Nat} {ret : Option FieldType} (h : Cond.code y cc n ret ∈ tb) : GoodIn tb (Cond.code y cc n ret :: tb) := fun w hw => by
  rcases List.mem_cons.mp hw with rfl | h1
  · exact ⟨h, good_of_word (tb_good h)⟩
  · exact ⟨h1, good_of_word (tb_good h1)⟩
def tyL (G : Gt) : List (ClassId × FieldType) := [(gT G 0, .int), (gT G 1, .byte), (gT G 2, .boolean), (gT G 3, .object RX2), (gT G 4, .object RX1), (gT G 5, .object RX7)]
abbrev gA (G : Gt) : Nat → Prop := fun a => (gB G).size ≤ a
def sLen : List Nat := [8, 9]
def sByt : List (List Int32) := [[112, 107, 110, 119, 109, 121, 102, 100], [33, 43, 45, 42, 60, 61, 62, 38, 124]]
def mTold : List Int32 := [1000000, 100000, 100, 24]
def BF (G : Gt) (U : State) : Prop :=
  vk_R RX4 9 "pknwmyfd" (gK G 0) U ∧ vk_R RX4 69 "!+-*<=>&|" (gK G 1) U ∧ vk_R RX6 42 "!+-*<=>&|" (gK G 1) U ∧ vk_R RX6 71 "pknwmyfd" (gK G 0) U ∧
  vk_S 2 sLen sByt (gK G) (gV G) (gA G) U (gB G) ∧ va_Z RX8 "MOST_TOLD" "[I" (.ref (gM G)) (gA G) U (gB G) ∧ va_T .int (gM G) 4 (fun j => .int (mTold.getD j 0)) (gA G) U (gB G) ∧ va_Z "java/lang/String" "COMPACT_STRINGS" "Z" (.int 1) (gA G) U (gB G)
theorem BF.warm {G : Gt} {s U : State} (hW : s.WarmedH U.vm) (h : BF G s) : BF G U := by
  obtain ⟨a, b, c, d, e, f, g, i⟩ := h
  exact ⟨a.warm hW, b.warm hW, c.warm hW, d.warm hW, e.moved hW.alike, f.moved hW.alike, g.moved hW.alike, i.moved hW.alike⟩
theorem BF.same {G : Gt} {s U : State} (hv : U.vm = s.vm) (h : BF G s) : BF G U := by
  obtain ⟨a, b, c, d, e, f, g, i⟩ := h
  have hal : s.vm.Alike U.vm := by rw [hv]; exact Vm.Alike.refl _
  exact ⟨a.same hv, b.same hv, c.same hv, d.same hv, e.moved hal, f.moved hal, g.moved hal, i.moved hal⟩
def KU (G : Gt) (U : State) : Prop := va_K (gD G) cls (tyL G) U ∧ BF G U
theorem KU.warm {G : Gt} {s U : State} (hW : s.WarmedH U.vm) (h : KU G s) : KU G U := ⟨va_K.moved hW.alike h.1, h.2.warm hW⟩
theorem KU.same {G : Gt} {s U : State} (hv : U.vm = s.vm) (h : KU G s) : KU G U := ⟨va_K.moved (by rw [hv]; exact Vm.Alike.refl _) h.1, h.2.same hv⟩
def Qo (G : Gt) (Q : Option Value → Et → Vt → Prop) : Array Value → State → Outcome → State → Prop := fun _ _ oc t => ∃ r E V, oc = .returned r ∧ Q r E V ∧ RepH G E V t.heap
def Cx (G : Gt) (own : String) (cc : ByteArray) (nL : Nat) (ret : Option FieldType) (p : Program) (s : State) (m : MethodId) (args : Array Value) (meth : Method) (c : Code) : Prop :=
  p.tables.exec = Jvm.exec ∧ c.code = cc ∧ meth.sig.returnType = ret ∧ c.maxLocals = nL ∧ s.vm.findClass own = some m.cls ∧ (∀ w ∈ tb, w.before args s = true) ∧ meth.locks = false ∧ KU G s
/-- the method own.., at pc, with the locals ll, the operands st, the world E, V, k cells and n slots made: it comes to its end, with Q -/
def Ev (l : Launch) (G : Gt) (own : String) (cc : ByteArray) (nL : Nat) (ret : Option FieldType) (rm : Room) (E : Et) (k n : Nat) (V : Vt) (pc : Nat) (ll : List (Nat × Value)) (st : List Value) (Q : Option Value → Et → Vt → Prop) : Prop :=
  ∀ (p : Program) (e : Env) (s : State) (m : MethodId) (args : Array Value) (below : List Frame) (meth : Method) (c : Code) (H : Heap) (locs : List Loc) (ls : Array Slot),
    Cx G own cc nL ret p s m args meth c → RepH G E V H → (∀ q ∈ locs, gA G q.base) → lv_has ls nL ll →
    W p l e rm s m args below meth c H locs k n (MQ below (Qo G Q) args s rm.cells rm.slots (gA G)) (F0 m pc ls st)
/-- a call of y with the arguments as in the world E, V: it returns, with Q -/
def Cl (l : Launch) (G : Gt) (y : MethodName) (cc : ByteArray) (nL : Nat) (ret : Option FieldType) (rm : Room) (E : Et) (V : Vt) (as : List Value) (Q : Option Value → Et → Vt → Prop) : Prop :=
  Met l y (Cond.code y cc nL ret :: tb) rm (va_Pc as (fun U => KU G U ∧ RepH G E V U.heap)) (Qo G Q) rm.cells rm.slots (gA G)
theorem Cl.of {l : Launch} {G : Gt} {y : MethodName} {cc : ByteArray} {nL : Nat} {ret : Option FieldType} {rm : Room} {E : Et} {V : Vt} {as : List Value} {Q : Option Value → Et → Vt → Prop} (hy : plainName y.cls = true) (hn : (lg_sl as).length ≤ nL)
    (h : Ev l G y.cls cc nL ret rm E 0 0 V 0 (lv_args 0 as) [] Q) : Cl l G y cc nL ret rm E V as Q := by
  refine Met.ofW (cc := cc) (maxL := nL) (ret := ret) hy rfl ?_
  intro p e s m args below meth c s₁ B hml hv
  obtain ⟨rfl, hK, hR⟩ := hv
  have hts := atoms_spec (ws := Cond.code y cc nL ret :: tb) B.pre
  have hl := lv_entry as (n := nL) hn
  rw [lg_entry_eq]
  exact h p e s m _ below meth c s.heap [] _ ⟨B.exec, B.bytes, B.returns, hml, findClass_of_methodNamed B.named, fun w hw => hts w (List.mem_cons_of_mem _ hw), B.notSynchronized, hK⟩ hR (fun q h => by cases h) hl
end
section
/-! A ROW AN INSTRUCTION, over Ev -/
def lk : List (Nat × Value) → Nat → Option Value
  | [], _ => none
  | q :: t, i => match Nat.beq q.1 i with
    | true => some q.2
    | false => lk t i
theorem lk_mem : ∀ (l : List (Nat × Value)) {i : Nat} {v : Value}, lk l i = some v → (i, v) ∈ l
  | [], i, v, h => by simp [lk] at h
  | (j, w) :: t, i, v, h => by
    unfold lk at h
    split at h
    · rename_i hb
      have hj : j = i := Nat.eq_of_beq_eq_true hb
      subst hj
      cases h
      exact List.mem_cons_self
    · exact List.mem_cons_of_mem _ (lk_mem t h)
theorem lk_at {ls : Array Slot} {nL : Nat} {l : List (Nat × Value)} (h : lv_has ls nL l) {i : Nat} {v : Value} (hk : lk l i = some v) : ls[i]? = some (.val v) := h.2.2 (i, v) (lk_mem l hk)
def fst1 (i : Nat) (q : Nat × Value) : Bool := !(q.1 == i) && !(q.1 + 1 == i && q.2.category == 2)
/-- the locals behind a store of a value of one word: its place stays where it was -/
def sto (i : Nat) (v : Value) : List (Nat × Value) → List (Nat × Value)
  | [] => [(i, v)]
  | q :: t => match Nat.beq q.1 i with
    | true => (i, v) :: t.filter (fst1 i)
    | false => match fst1 i q with
      | true => q :: sto i v t
      | false => sto i v t
theorem sto_mem (i : Nat) (v : Value) : ∀ (l : List (Nat × Value)) (q : Nat × Value), q ∈ sto i v l → q ∈ (i, v) :: l.filter (fst1 i)
  | [], q, h => by simpa [sto] using h
  | r :: t, q, h => by
    unfold sto at h
    split at h
    · rcases List.mem_cons.mp h with h | h
      · exact List.mem_cons.mpr (Or.inl h)
      · refine List.mem_cons.mpr (Or.inr ?_)
        rw [List.filter_cons]
        split
        · exact List.mem_cons_of_mem _ h
        · exact h
    · split at h
      · rename_i hf
        rcases List.mem_cons.mp h with h | h
        · subst h
          refine List.mem_cons.mpr (Or.inr ?_)
          rw [List.filter_cons, hf]
          exact List.mem_cons_self
        · rcases List.mem_cons.mp (sto_mem i v t q h) with h | h
          · exact List.mem_cons.mpr (Or.inl h)
          · refine List.mem_cons.mpr (Or.inr ?_)
            rw [List.filter_cons, hf]
            exact List.mem_cons_of_mem _ h
      · rename_i hf
        rcases List.mem_cons.mp (sto_mem i v t q h) with h | h
        · exact List.mem_cons.mpr (Or.inl h)
        · refine List.mem_cons.mpr (Or.inr ?_)
          rw [List.filter_cons, hf]
          exact h
theorem sto_has {ls : Array Slot} {nL i : Nat} {v : Value} {l : List (Nat × Value)} (h : lv_has ls nL ((i, v) :: l.filter (fst1 i))) : lv_has ls nL (sto i v l) := ⟨h.1, h.2.1, fun q hq => h.2.2 q (sto_mem i v l q hq)⟩
def rl (v : Value) : Prop := v = .null ∨ ∃ a, v = .ref a
theorem rl_ref (a : Nat) : rl (.ref a) := Or.inr ⟨a, rfl⟩
theorem rl_rf (o : Option Nat) : rl (va_rf o) := by
  cases o with
  | none => exact Or.inl rfl
  | some a => exact Or.inr ⟨a, rfl⟩
section Rows
variable {l : Launch} {G : Gt} {own : String} {cc : ByteArray} {nL : Nat} {ret : Option FieldType} {rm : Room} {E : Et} {k n : Nat} {V : Vt} {pc : Nat} {ll : List (Nat × Value)} {st : List Value} {Q : Option Value → Et → Vt → Prop}
theorem Ev.loc {ll' : List (Nat × Value)} (ks : List Nat) (h : lv_pick ll ks = ll') (kk : Ev l G own cc nL ret rm E k n V pc ll' st Q) : Ev l G own cc nL ret rm E k n V pc ll st Q :=
  fun p e s m args below meth c H locs ls C hR hL hl => kk p e s m args below meth c H locs ls C hR hL (lv_sub hl ks h)
theorem Ev.mono {Q' : Option Value → Et → Vt → Prop} (hq : ∀ r E' V', Q r E' V' → Q' r E' V') (kk : Ev l G own cc nL ret rm E k n V pc ll st Q) : Ev l G own cc nL ret rm E k n V pc ll st Q' := by
  intro p e s m args below meth c H locs ls C hR hL hl T hT X
  obtain ⟨t, a, o, b1, b2, ⟨r, E', V', c1, c2, c3⟩, b4⟩ := kk p e s m args below meth c H locs ls C hR hL hl T hT X
  exact ⟨t, a, o, b1, b2, ⟨r, E', V', c1, hq _ _ _ c2, c3⟩, b4⟩
theorem r_iconst {z : Int} {v : Int32} (hd : decode cc pc = .ok (.iconst z, 1)) (hv : Int32.ofInt z = v) (kk : Ev l G own cc nL ret rm E k n V (pc + 1) ll (.int v :: st) Q) : Ev l G own cc nL ret rm E k n V pc ll st Q := by
  intro p e s m args below meth c H locs ls C hR hL hl
  obtain ⟨hx, hb, hr, hml, ho, hts, hlk, hK⟩ := And.intro True.intro C |>.2
  exact lv_iconst hx hb hd hv (kk p e s m args below meth c H locs ls C hR hL hl)
theorem r_bipush {z : Int} {v : Int32} (hd : decode cc pc = .ok (.bipush z, 2)) (hv : (Int8.ofInt z).toInt32 = v) (kk : Ev l G own cc nL ret rm E k n V (pc + 2) ll (.int v :: st) Q) : Ev l G own cc nL ret rm E k n V pc ll st Q := by
  intro p e s m args below meth c H locs ls C hR hL hl
  obtain ⟨hx, hb, hr, hml, ho, hts, hlk, hK⟩ := And.intro True.intro C |>.2
  exact lv_bipush hx hb hd hv (kk p e s m args below meth c H locs ls C hR hL hl)
theorem r_sipush {z : Int} {v : Int32} (hd : decode cc pc = .ok (.sipush z, 3)) (hv : (Int16.ofInt z).toInt32 = v) (kk : Ev l G own cc nL ret rm E k n V (pc + 3) ll (.int v :: st) Q) : Ev l G own cc nL ret rm E k n V pc ll st Q := by
  intro p e s m args below meth c H locs ls C hR hL hl
  obtain ⟨hx, hb, hr, hml, ho, hts, hlk, hK⟩ := And.intro True.intro C |>.2
  exact lv_sipush hx hb hd hv (kk p e s m args below meth c H locs ls C hR hL hl)
theorem r_lconst {z : Fin 2} {v : Int64} (hd : decode cc pc = .ok (.lconst z, 1)) (hv : Int64.ofNat (z : Nat) = v) (kk : Ev l G own cc nL ret rm E k n V (pc + 1) ll (.long v :: st) Q) : Ev l G own cc nL ret rm E k n V pc ll st Q := by
  intro p e s m args below meth c H locs ls C hR hL hl
  obtain ⟨hx, hb, hr, hml, ho, hts, hlk, hK⟩ := And.intro True.intro C |>.2
  exact lv_lconst hx hb hd hv (kk p e s m args below meth c H locs ls C hR hL hl)
theorem r_ldc {idx : Nat} {v : Int32} (hd : decode cc pc = .ok (.ldc idx, 2)) (hw : Cond.constant own idx v ∈ tb) (kk : Ev l G own cc nL ret rm E k n V (pc + 2) ll (.int v :: st) Q) : Ev l G own cc nL ret rm E k n V pc ll st Q := by
  intro p e s m args below meth c H locs ls C hR hL hl
  obtain ⟨hx, hb, hr, hml, ho, hts, hlk, hK⟩ := And.intro True.intro C |>.2
  exact lv_ldc hx hb ho (hts _ hw) hd (kk p e s m args below meth c H locs ls C hR hL hl)
theorem r_ldc2 {idx : Nat} {v : Int64} (hd : decode cc pc = .ok (.ldc2_w idx, 3)) (hw : Cond.constantLong own idx v ∈ tb) (kk : Ev l G own cc nL ret rm E k n V (pc + 3) ll (.long v :: st) Q) : Ev l G own cc nL ret rm E k n V pc ll st Q := by
  intro p e s m args below meth c H locs ls C hR hL hl
  obtain ⟨hx, hb, hr, hml, ho, hts, hlk, hK⟩ := And.intro True.intro C |>.2
  exact lv_ldc2 hx hb ho (hts _ hw) hd (kk p e s m args below meth c H locs ls C hR hL hl)
theorem r_null  (hd : decode cc pc = .ok (.aconst_null, 1)) (kk : Ev l G own cc nL ret rm E k n V (pc + 1) ll (.null :: st) Q) : Ev l G own cc nL ret rm E k n V pc ll st Q := by
  intro p e s m args below meth c H locs ls C hR hL hl
  obtain ⟨hx, hb, hr, hml, ho, hts, hlk, hK⟩ := And.intro True.intro C |>.2
  exact lv_null hx hb hd (kk p e s m args below meth c H locs ls C hR hL hl)
theorem r_iload_n {j : Fin 4} {x : Int32} (hd : decode cc pc = .ok (.iload_n j, 1)) (hv : lk ll j.val = some (.int x)) (kk : Ev l G own cc nL ret rm E k n V (pc + 1) ll (.int x :: st) Q) : Ev l G own cc nL ret rm E k n V pc ll st Q := by
  intro p e s m args below meth c H locs ls C hR hL hl
  obtain ⟨hx, hb, hr, hml, ho, hts, hlk, hK⟩ := And.intro True.intro C |>.2
  exact lv_iload_n hx hb hd rfl (lk_at hl hv) (kk p e s m args below meth c H locs ls C hR hL hl)
theorem r_iload {j : Nat} {x : Int32} (hd : decode cc pc = .ok (.iload j, 2)) (hv : lk ll j = some (.int x)) (kk : Ev l G own cc nL ret rm E k n V (pc + 2) ll (.int x :: st) Q) : Ev l G own cc nL ret rm E k n V pc ll st Q := by
  intro p e s m args below meth c H locs ls C hR hL hl
  obtain ⟨hx, hb, hr, hml, ho, hts, hlk, hK⟩ := And.intro True.intro C |>.2
  exact lv_iload hx hb hd (lk_at hl hv) (kk p e s m args below meth c H locs ls C hR hL hl)
theorem r_lload_n {j : Fin 4} {x : Int64} (hd : decode cc pc = .ok (.lload_n j, 1)) (hv : lk ll j.val = some (.long x)) (kk : Ev l G own cc nL ret rm E k n V (pc + 1) ll (.long x :: st) Q) : Ev l G own cc nL ret rm E k n V pc ll st Q := by
  intro p e s m args below meth c H locs ls C hR hL hl
  obtain ⟨hx, hb, hr, hml, ho, hts, hlk, hK⟩ := And.intro True.intro C |>.2
  exact lv_lload_n hx hb hd rfl (lk_at hl hv) (kk p e s m args below meth c H locs ls C hR hL hl)
theorem r_aload_n {j : Fin 4} {v : Value} (hd : decode cc pc = .ok (.aload_n j, 1)) (hv : lk ll j.val = some v) (hr : rl v) (kk : Ev l G own cc nL ret rm E k n V (pc + 1) ll (v :: st) Q) : Ev l G own cc nL ret rm E k n V pc ll st Q := by
  intro p e s m args below meth c H locs ls C hR hL hl
  obtain ⟨hx, hb, -, hml, ho, hts, hlk, hK⟩ := And.intro True.intro C |>.2
  rcases hr with rfl | ⟨a, rfl⟩
  · exact lv_aload_nN hx hb hd rfl (lk_at hl hv) (kk p e s m args below meth c H locs ls C hR hL hl)
  · exact lv_aload_n hx hb hd rfl (lk_at hl hv) (kk p e s m args below meth c H locs ls C hR hL hl)
theorem r_aload {j : Nat} {v : Value} (hd : decode cc pc = .ok (.aload j, 2)) (hv : lk ll j = some v) (hr : rl v) (kk : Ev l G own cc nL ret rm E k n V (pc + 2) ll (v :: st) Q) : Ev l G own cc nL ret rm E k n V pc ll st Q := by
  intro p e s m args below meth c H locs ls C hR hL hl
  obtain ⟨hx, hb, -, hml, ho, hts, hlk, hK⟩ := And.intro True.intro C |>.2
  rcases hr with rfl | ⟨a, rfl⟩
  · exact lv_aloadN hx hb hd (lk_at hl hv) (kk p e s m args below meth c H locs ls C hR hL hl)
  · exact lv_aload hx hb hd (lk_at hl hv) (kk p e s m args below meth c H locs ls C hR hL hl)
theorem r_istore_n {j : Fin 4} {x : Int32} (hd : decode cc pc = .ok (.istore_n j, 1)) (hj : j.val < nL) (kk : Ev l G own cc nL ret rm E k n V (pc + 1) (sto j.val (Value.int x) ll) st Q) : Ev l G own cc nL ret rm E k n V pc ll (Value.int x :: st) Q := by
  intro p e s m args below meth c H locs ls C hR hL hl
  obtain ⟨hx, hb, hr, hml, ho, hts, hlk, hK⟩ := And.intro True.intro C |>.2
  exact lv_istore_n (lv' := (j.val, Value.int x) :: ll.filter (fst1 j.val)) hx hb hd rfl hl hj rfl (fun ls' hl' => kk p e s m args below meth c H locs ls' C hR hL (sto_has hl'))
theorem r_istore {j : Nat} {x : Int32} (hd : decode cc pc = .ok (.istore j, 2)) (hj : j < nL) (kk : Ev l G own cc nL ret rm E k n V (pc + 2) (sto j (Value.int x) ll) st Q) : Ev l G own cc nL ret rm E k n V pc ll (Value.int x :: st) Q := by
  intro p e s m args below meth c H locs ls C hR hL hl
  obtain ⟨hx, hb, hr, hml, ho, hts, hlk, hK⟩ := And.intro True.intro C |>.2
  exact lv_istore (lv' := (j, Value.int x) :: ll.filter (fst1 j)) hx hb hd hl hj rfl (fun ls' hl' => kk p e s m args below meth c H locs ls' C hR hL (sto_has hl'))
theorem r_astore_n {j : Fin 4} {v : Value} (hd : decode cc pc = .ok (.astore_n j, 1)) (hj : j.val < nL) (hr : rl v) (kk : Ev l G own cc nL ret rm E k n V (pc + 1) (sto j.val v ll) st Q) : Ev l G own cc nL ret rm E k n V pc ll (v :: st) Q := by
  intro p e s m args below meth c H locs ls C hR hL hl
  obtain ⟨hx, hb, -, hml, ho, hts, hlk, hK⟩ := And.intro True.intro C |>.2
  rcases hr with rfl | ⟨a, rfl⟩
  · exact lv_astore_nN (lv' := (j.val, Value.null) :: ll.filter (fst1 j.val)) hx hb hd rfl hl hj rfl (fun ls' hl' => kk p e s m args below meth c H locs ls' C hR hL (sto_has hl'))
  · exact lv_astore_n (lv' := (j.val, Value.ref a) :: ll.filter (fst1 j.val)) hx hb hd rfl hl hj rfl (fun ls' hl' => kk p e s m args below meth c H locs ls' C hR hL (sto_has hl'))
theorem r_astore {j : Nat} {v : Value} (hd : decode cc pc = .ok (.astore j, 2)) (hj : j < nL) (hr : rl v) (kk : Ev l G own cc nL ret rm E k n V (pc + 2) (sto j v ll) st Q) : Ev l G own cc nL ret rm E k n V pc ll (v :: st) Q := by
  intro p e s m args below meth c H locs ls C hR hL hl
  obtain ⟨hx, hb, -, hml, ho, hts, hlk, hK⟩ := And.intro True.intro C |>.2
  rcases hr with rfl | ⟨a, rfl⟩
  · exact lv_astoreN (lv' := (j, Value.null) :: ll.filter (fst1 j)) hx hb hd hl hj rfl (fun ls' hl' => kk p e s m args below meth c H locs ls' C hR hL (sto_has hl'))
  · exact lv_astore (lv' := (j, Value.ref a) :: ll.filter (fst1 j)) hx hb hd hl hj rfl (fun ls' hl' => kk p e s m args below meth c H locs ls' C hR hL (sto_has hl'))
def fst2 (i : Nat) (q : Nat × Value) : Bool := !(q.1 == i) && (!(q.1 == i + 1) && !(q.1 + 1 == i && q.2.category == 2))
theorem r_lstore_n {j : Fin 4} {x : Int64} (hd : decode cc pc = .ok (.lstore_n j, 1)) (hj : j.val + 1 < nL) (kk : Ev l G own cc nL ret rm E k n V (pc + 1) ((j.val, Value.long x) :: ll.filter (fst2 j.val)) st Q) : Ev l G own cc nL ret rm E k n V pc ll (Value.long x :: st) Q := by
  intro p e s m args below meth c H locs ls C hR hL hl
  obtain ⟨hx, hb, hr, hml, ho, hts, hlk, hK⟩ := And.intro True.intro C |>.2
  exact lv_lstore_n (lv' := (j.val, Value.long x) :: ll.filter (fst2 j.val)) hx hb hd rfl hl hj rfl (fun ls' hl' => kk p e s m args below meth c H locs ls' C hR hL hl')
theorem r_iinc {j : Nat} {z : Int} {x v : Int32} (hd : decode cc pc = .ok (.iinc j z, 3)) (hv : lk ll j = some (.int x)) (hz : Int32.ofInt z = v) (hj : j < nL) (kk : Ev l G own cc nL ret rm E k n V (pc + 3) (sto j (.int (x + v)) ll) st Q) : Ev l G own cc nL ret rm E k n V pc ll st Q := by
  intro p e s m args below meth c H locs ls C hR hL hl
  obtain ⟨hx, hb, hr, hml, ho, hts, hlk, hK⟩ := And.intro True.intro C |>.2
  subst hz
  obtain ⟨kq, hkq⟩ := List.getElem?_of_mem (lk_mem ll hv)
  exact lv_iinc (lv' := (j, Value.int (x + Int32.ofInt z)) :: ll.filter (fst1 j)) hx hb hd hl (k := kq) hkq rfl hj rfl (fun ls' hl' => kk p e s m args below meth c H locs ls' C hR hL (sto_has hl'))
theorem r_iadd {x y : Int32} (hd : decode cc pc = .ok (.iadd, 1)) (kk : Ev l G own cc nL ret rm E k n V (pc + 1) ll (.int (x + y) :: st) Q) : Ev l G own cc nL ret rm E k n V pc ll (.int y :: .int x :: st) Q := by
  intro p e s m args below meth c H locs ls C hR hL hl
  obtain ⟨hx, hb, hr, hml, ho, hts, hlk, hK⟩ := And.intro True.intro C |>.2
  exact lv_iadd hx hb hd (kk p e s m args below meth c H locs ls C hR hL hl)
theorem r_isub {x y : Int32} (hd : decode cc pc = .ok (.isub, 1)) (kk : Ev l G own cc nL ret rm E k n V (pc + 1) ll (.int (x - y) :: st) Q) : Ev l G own cc nL ret rm E k n V pc ll (.int y :: .int x :: st) Q := by
  intro p e s m args below meth c H locs ls C hR hL hl
  obtain ⟨hx, hb, hr, hml, ho, hts, hlk, hK⟩ := And.intro True.intro C |>.2
  exact lv_isub hx hb hd (kk p e s m args below meth c H locs ls C hR hL hl)
theorem r_imul {x y : Int32} (hd : decode cc pc = .ok (.imul, 1)) (kk : Ev l G own cc nL ret rm E k n V (pc + 1) ll (.int (x * y) :: st) Q) : Ev l G own cc nL ret rm E k n V pc ll (.int y :: .int x :: st) Q := by
  intro p e s m args below meth c H locs ls C hR hL hl
  obtain ⟨hx, hb, hr, hml, ho, hts, hlk, hK⟩ := And.intro True.intro C |>.2
  exact lv_imul hx hb hd (kk p e s m args below meth c H locs ls C hR hL hl)
theorem r_iand {x y : Int32} (hd : decode cc pc = .ok (.iand, 1)) (kk : Ev l G own cc nL ret rm E k n V (pc + 1) ll (.int (x &&& y) :: st) Q) : Ev l G own cc nL ret rm E k n V pc ll (.int y :: .int x :: st) Q := by
  intro p e s m args below meth c H locs ls C hR hL hl
  obtain ⟨hx, hb, hr, hml, ho, hts, hlk, hK⟩ := And.intro True.intro C |>.2
  exact lv_iand hx hb hd (kk p e s m args below meth c H locs ls C hR hL hl)
theorem r_ior {x y : Int32} (hd : decode cc pc = .ok (.ior, 1)) (kk : Ev l G own cc nL ret rm E k n V (pc + 1) ll (.int (x ||| y) :: st) Q) : Ev l G own cc nL ret rm E k n V pc ll (.int y :: .int x :: st) Q := by
  intro p e s m args below meth c H locs ls C hR hL hl
  obtain ⟨hx, hb, hr, hml, ho, hts, hlk, hK⟩ := And.intro True.intro C |>.2
  exact lv_ior hx hb hd (kk p e s m args below meth c H locs ls C hR hL hl)
theorem r_ishl {x y : Int32} (hd : decode cc pc = .ok (.ishl, 1)) (kk : Ev l G own cc nL ret rm E k n V (pc + 1) ll (.int (x <<< (y &&& 31)) :: st) Q) : Ev l G own cc nL ret rm E k n V pc ll (.int y :: .int x :: st) Q := by
  intro p e s m args below meth c H locs ls C hR hL hl
  obtain ⟨hx, hb, hr, hml, ho, hts, hlk, hK⟩ := And.intro True.intro C |>.2
  exact lv_ishl hx hb hd (kk p e s m args below meth c H locs ls C hR hL hl)
theorem r_ishr {x y : Int32} (hd : decode cc pc = .ok (.ishr, 1)) (kk : Ev l G own cc nL ret rm E k n V (pc + 1) ll (.int (x >>> (y &&& 31)) :: st) Q) : Ev l G own cc nL ret rm E k n V pc ll (.int y :: .int x :: st) Q := by
  intro p e s m args below meth c H locs ls C hR hL hl
  obtain ⟨hx, hb, hr, hml, ho, hts, hlk, hK⟩ := And.intro True.intro C |>.2
  exact lv_ishr hx hb hd (kk p e s m args below meth c H locs ls C hR hL hl)
theorem r_idiv {x y : Int32} (hd : decode cc pc = .ok (.idiv, 1)) (hne : ¬ y = 0) (kk : Ev l G own cc nL ret rm E k n V (pc + 1) ll (.int (x / y) :: st) Q) : Ev l G own cc nL ret rm E k n V pc ll (.int y :: .int x :: st) Q := by
  intro p e s m args below meth c H locs ls C hR hL hl
  obtain ⟨hx, hb, hr, hml, ho, hts, hlk, hK⟩ := And.intro True.intro C |>.2
  exact lv_idiv hx hb hd hne (kk p e s m args below meth c H locs ls C hR hL hl)
theorem r_irem {x y : Int32} (hd : decode cc pc = .ok (.irem, 1)) (hne : ¬ y = 0) (kk : Ev l G own cc nL ret rm E k n V (pc + 1) ll (.int (x - x / y * y) :: st) Q) : Ev l G own cc nL ret rm E k n V pc ll (.int y :: .int x :: st) Q := by
  intro p e s m args below meth c H locs ls C hR hL hl
  obtain ⟨hx, hb, hr, hml, ho, hts, hlk, hK⟩ := And.intro True.intro C |>.2
  exact lv_irem hx hb hd hne (kk p e s m args below meth c H locs ls C hR hL hl)
theorem r_ineg {x : Int32} (hd : decode cc pc = .ok (.ineg, 1)) (kk : Ev l G own cc nL ret rm E k n V (pc + 1) ll (.int (-x) :: st) Q) : Ev l G own cc nL ret rm E k n V pc ll (.int x :: st) Q := by
  intro p e s m args below meth c H locs ls C hR hL hl
  obtain ⟨hx, hb, hr, hml, ho, hts, hlk, hK⟩ := And.intro True.intro C |>.2
  exact lv_ineg hx hb hd (kk p e s m args below meth c H locs ls C hR hL hl)
theorem r_ladd {x y : Int64} (hd : decode cc pc = .ok (.ladd, 1)) (kk : Ev l G own cc nL ret rm E k n V (pc + 1) ll (.long (x + y) :: st) Q) : Ev l G own cc nL ret rm E k n V pc ll (.long y :: .long x :: st) Q := by
  intro p e s m args below meth c H locs ls C hR hL hl
  obtain ⟨hx, hb, hr, hml, ho, hts, hlk, hK⟩ := And.intro True.intro C |>.2
  exact lv_ladd hx hb hd (kk p e s m args below meth c H locs ls C hR hL hl)
theorem r_lmul {x y : Int64} (hd : decode cc pc = .ok (.lmul, 1)) (kk : Ev l G own cc nL ret rm E k n V (pc + 1) ll (.long (x * y) :: st) Q) : Ev l G own cc nL ret rm E k n V pc ll (.long y :: .long x :: st) Q := by
  intro p e s m args below meth c H locs ls C hR hL hl
  obtain ⟨hx, hb, hr, hml, ho, hts, hlk, hK⟩ := And.intro True.intro C |>.2
  exact lv_lmul hx hb hd (kk p e s m args below meth c H locs ls C hR hL hl)
theorem r_ldiv {x y : Int64} (hd : decode cc pc = .ok (.ldiv, 1)) (hne : ¬ y = 0) (kk : Ev l G own cc nL ret rm E k n V (pc + 1) ll (.long (x / y) :: st) Q) : Ev l G own cc nL ret rm E k n V pc ll (.long y :: .long x :: st) Q := by
  intro p e s m args below meth c H locs ls C hR hL hl
  obtain ⟨hx, hb, hr, hml, ho, hts, hlk, hK⟩ := And.intro True.intro C |>.2
  exact lv_ldiv hx hb hd hne (kk p e s m args below meth c H locs ls C hR hL hl)
theorem r_lcmp {x y : Int64} (hd : decode cc pc = .ok (.lcmp, 1)) (kk : Ev l G own cc nL ret rm E k n V (pc + 1) ll (.int (lg_cmp x y) :: st) Q) : Ev l G own cc nL ret rm E k n V pc ll (.long y :: .long x :: st) Q := by
  intro p e s m args below meth c H locs ls C hR hL hl
  obtain ⟨hx, hb, hr, hml, ho, hts, hlk, hK⟩ := And.intro True.intro C |>.2
  exact W.lcmp hx hb hd (kk p e s m args below meth c H locs ls C hR hL hl)
theorem r_i2l {x : Int32} (hd : decode cc pc = .ok (.i2l, 1)) (kk : Ev l G own cc nL ret rm E k n V (pc + 1) ll (.long x.toInt64 :: st) Q) : Ev l G own cc nL ret rm E k n V pc ll (.int x :: st) Q := by
  intro p e s m args below meth c H locs ls C hR hL hl
  obtain ⟨hx, hb, hr, hml, ho, hts, hlk, hK⟩ := And.intro True.intro C |>.2
  exact lv_i2l hx hb hd rfl (kk p e s m args below meth c H locs ls C hR hL hl)
theorem r_l2i {x : Int64} (hd : decode cc pc = .ok (.l2i, 1)) (kk : Ev l G own cc nL ret rm E k n V (pc + 1) ll (.int x.toInt32 :: st) Q) : Ev l G own cc nL ret rm E k n V pc ll (.long x :: st) Q := by
  intro p e s m args below meth c H locs ls C hR hL hl
  obtain ⟨hx, hb, hr, hml, ho, hts, hlk, hK⟩ := And.intro True.intro C |>.2
  exact lv_l2i hx hb hd rfl (kk p e s m args below meth c H locs ls C hR hL hl)
theorem r_i2b {x : Int32} (hd : decode cc pc = .ok (.i2b, 1)) (kk : Ev l G own cc nL ret rm E k n V (pc + 1) ll (.int x.toInt8.toInt32 :: st) Q) : Ev l G own cc nL ret rm E k n V pc ll (.int x :: st) Q := by
  intro p e s m args below meth c H locs ls C hR hL hl
  obtain ⟨hx, hb, hr, hml, ho, hts, hlk, hK⟩ := And.intro True.intro C |>.2
  exact lv_i2b hx hb hd rfl (kk p e s m args below meth c H locs ls C hR hL hl)
theorem r_i2c {x : Int32} (hd : decode cc pc = .ok (.i2c, 1)) (kk : Ev l G own cc nL ret rm E k n V (pc + 1) ll (.int (x.toUInt32 % 65536).toInt32 :: st) Q) : Ev l G own cc nL ret rm E k n V pc ll (.int x :: st) Q := by
  intro p e s m args below meth c H locs ls C hR hL hl
  obtain ⟨hx, hb, hr, hml, ho, hts, hlk, hK⟩ := And.intro True.intro C |>.2
  exact lv_i2c hx hb hd rfl (kk p e s m args below meth c H locs ls C hR hL hl)
theorem r_iushr {x y : Int32} (hd : decode cc pc = .ok (.iushr, 1)) (kk : Ev l G own cc nL ret rm E k n V (pc + 1) ll (.int (x.toUInt32 >>> (y.toUInt32 &&& Int32.toUInt32 31)).toInt32 :: st) Q) : Ev l G own cc nL ret rm E k n V pc ll (.int y :: .int x :: st) Q := by
  intro p e s m args below meth c H locs ls C hR hL hl
  obtain ⟨hx, hb, hr, hml, ho, hts, hlk, hK⟩ := And.intro True.intro C |>.2
  exact lv_iushr hx hb hd rfl (kk p e s m args below meth c H locs ls C hR hL hl)
theorem r_dup {v : Value} (hd : decode cc pc = .ok (.dup, 1)) (hc : v.category = 1) (kk : Ev l G own cc nL ret rm E k n V (pc + 1) ll (v :: v :: st) Q) : Ev l G own cc nL ret rm E k n V pc ll (v :: st) Q := by
  intro p e s m args below meth c H locs ls C hR hL hl
  obtain ⟨hx, hb, hr, hml, ho, hts, hlk, hK⟩ := And.intro True.intro C |>.2
  exact lv_dup hx hb hd hc (kk p e s m args below meth c H locs ls C hR hL hl)
theorem r_pop {v : Value} (hd : decode cc pc = .ok (.pop, 1)) (hc : v.category = 1) (kk : Ev l G own cc nL ret rm E k n V (pc + 1) ll st Q) : Ev l G own cc nL ret rm E k n V pc ll (v :: st) Q := by
  intro p e s m args below meth c H locs ls C hR hL hl
  obtain ⟨hx, hb, hr, hml, ho, hts, hlk, hK⟩ := And.intro True.intro C |>.2
  exact lv_pop hx hb hd hc (kk p e s m args below meth c H locs ls C hR hL hl)
theorem r_dup_x1 {v w : Value} (hd : decode cc pc = .ok (.dup_x1, 1)) (hc : v.category = 1) (hc2 : w.category = 1) (kk : Ev l G own cc nL ret rm E k n V (pc + 1) ll (v :: w :: v :: st) Q) : Ev l G own cc nL ret rm E k n V pc ll (v :: w :: st) Q := by
  intro p e s m args below meth c H locs ls C hR hL hl
  obtain ⟨hx, hb, hr, hml, ho, hts, hlk, hK⟩ := And.intro True.intro C |>.2
  exact lv_dup_x1 hx hb hd hc hc2 (kk p e s m args below meth c H locs ls C hR hL hl)
theorem r_dup2 {v w : Value} (hd : decode cc pc = .ok (.dup2, 1)) (hc : v.category = 1) (hc2 : w.category = 1) (kk : Ev l G own cc nL ret rm E k n V (pc + 1) ll (v :: w :: v :: w :: st) Q) : Ev l G own cc nL ret rm E k n V pc ll (v :: w :: st) Q := by
  intro p e s m args below meth c H locs ls C hR hL hl
  obtain ⟨hx, hb, hr, hml, ho, hts, hlk, hK⟩ := And.intro True.intro C |>.2
  exact lv_dup2_11 hx hb hd hc hc2 (kk p e s m args below meth c H locs ls C hR hL hl)
theorem r_if_eq {x : Int32} {off : Int} (tgt : Nat) (hd : decode cc pc = .ok (.ifCond .eq off, 3)) (ht : (pc : Int) + off = (tgt : Int)) (kt : x = 0 → Ev l G own cc nL ret rm E k n V tgt ll st Q) (kf : ¬ x = 0 → Ev l G own cc nL ret rm E k n V (pc + 3) ll st Q) : Ev l G own cc nL ret rm E k n V pc ll (.int x :: st) Q := by
  intro p e s m args below meth c H locs ls C hR hL hl
  obtain ⟨hx, hb, hr, hml, ho, hts, hlk, hK⟩ := And.intro True.intro C |>.2
  exact lv_if_eq hx hb hd ht (fun q => kt q p e s m args below meth c H locs ls C hR hL hl) (fun q => kf q p e s m args below meth c H locs ls C hR hL hl)
theorem r_icmp_eq {x y : Int32} {off : Int} (tgt : Nat) (hd : decode cc pc = .ok (.if_icmp .eq off, 3)) (ht : (pc : Int) + off = (tgt : Int)) (kt : x = y → Ev l G own cc nL ret rm E k n V tgt ll st Q) (kf : ¬ x = y → Ev l G own cc nL ret rm E k n V (pc + 3) ll st Q) : Ev l G own cc nL ret rm E k n V pc ll (.int y :: .int x :: st) Q := by
  intro p e s m args below meth c H locs ls C hR hL hl
  obtain ⟨hx, hb, hr, hml, ho, hts, hlk, hK⟩ := And.intro True.intro C |>.2
  exact lv_icmp_eq hx hb hd ht (fun q => kt q p e s m args below meth c H locs ls C hR hL hl) (fun q => kf q p e s m args below meth c H locs ls C hR hL hl)
theorem r_if_ne {x : Int32} {off : Int} (tgt : Nat) (hd : decode cc pc = .ok (.ifCond .ne off, 3)) (ht : (pc : Int) + off = (tgt : Int)) (kt : ¬ x = 0 → Ev l G own cc nL ret rm E k n V tgt ll st Q) (kf : x = 0 → Ev l G own cc nL ret rm E k n V (pc + 3) ll st Q) : Ev l G own cc nL ret rm E k n V pc ll (.int x :: st) Q := by
  intro p e s m args below meth c H locs ls C hR hL hl
  obtain ⟨hx, hb, hr, hml, ho, hts, hlk, hK⟩ := And.intro True.intro C |>.2
  exact lv_if_ne hx hb hd ht (fun q => kt q p e s m args below meth c H locs ls C hR hL hl) (fun q => kf q p e s m args below meth c H locs ls C hR hL hl)
theorem r_icmp_ne {x y : Int32} {off : Int} (tgt : Nat) (hd : decode cc pc = .ok (.if_icmp .ne off, 3)) (ht : (pc : Int) + off = (tgt : Int)) (kt : ¬ x = y → Ev l G own cc nL ret rm E k n V tgt ll st Q) (kf : x = y → Ev l G own cc nL ret rm E k n V (pc + 3) ll st Q) : Ev l G own cc nL ret rm E k n V pc ll (.int y :: .int x :: st) Q := by
  intro p e s m args below meth c H locs ls C hR hL hl
  obtain ⟨hx, hb, hr, hml, ho, hts, hlk, hK⟩ := And.intro True.intro C |>.2
  exact lv_icmp_ne hx hb hd ht (fun q => kt q p e s m args below meth c H locs ls C hR hL hl) (fun q => kf q p e s m args below meth c H locs ls C hR hL hl)
theorem r_if_lt {x : Int32} {off : Int} (tgt : Nat) (hd : decode cc pc = .ok (.ifCond .lt off, 3)) (ht : (pc : Int) + off = (tgt : Int)) (kt : x < 0 → Ev l G own cc nL ret rm E k n V tgt ll st Q) (kf : ¬ x < 0 → Ev l G own cc nL ret rm E k n V (pc + 3) ll st Q) : Ev l G own cc nL ret rm E k n V pc ll (.int x :: st) Q := by
  intro p e s m args below meth c H locs ls C hR hL hl
  obtain ⟨hx, hb, hr, hml, ho, hts, hlk, hK⟩ := And.intro True.intro C |>.2
  exact lv_if_lt hx hb hd ht (fun q => kt q p e s m args below meth c H locs ls C hR hL hl) (fun q => kf q p e s m args below meth c H locs ls C hR hL hl)
theorem r_icmp_lt {x y : Int32} {off : Int} (tgt : Nat) (hd : decode cc pc = .ok (.if_icmp .lt off, 3)) (ht : (pc : Int) + off = (tgt : Int)) (kt : x < y → Ev l G own cc nL ret rm E k n V tgt ll st Q) (kf : ¬ x < y → Ev l G own cc nL ret rm E k n V (pc + 3) ll st Q) : Ev l G own cc nL ret rm E k n V pc ll (.int y :: .int x :: st) Q := by
  intro p e s m args below meth c H locs ls C hR hL hl
  obtain ⟨hx, hb, hr, hml, ho, hts, hlk, hK⟩ := And.intro True.intro C |>.2
  exact lv_icmp_lt hx hb hd ht (fun q => kt q p e s m args below meth c H locs ls C hR hL hl) (fun q => kf q p e s m args below meth c H locs ls C hR hL hl)
theorem r_if_ge {x : Int32} {off : Int} (tgt : Nat) (hd : decode cc pc = .ok (.ifCond .ge off, 3)) (ht : (pc : Int) + off = (tgt : Int)) (kt : 0 ≤ x → Ev l G own cc nL ret rm E k n V tgt ll st Q) (kf : ¬ 0 ≤ x → Ev l G own cc nL ret rm E k n V (pc + 3) ll st Q) : Ev l G own cc nL ret rm E k n V pc ll (.int x :: st) Q := by
  intro p e s m args below meth c H locs ls C hR hL hl
  obtain ⟨hx, hb, hr, hml, ho, hts, hlk, hK⟩ := And.intro True.intro C |>.2
  exact lv_if_ge hx hb hd ht (fun q => kt q p e s m args below meth c H locs ls C hR hL hl) (fun q => kf q p e s m args below meth c H locs ls C hR hL hl)
theorem r_icmp_ge {x y : Int32} {off : Int} (tgt : Nat) (hd : decode cc pc = .ok (.if_icmp .ge off, 3)) (ht : (pc : Int) + off = (tgt : Int)) (kt : y ≤ x → Ev l G own cc nL ret rm E k n V tgt ll st Q) (kf : ¬ y ≤ x → Ev l G own cc nL ret rm E k n V (pc + 3) ll st Q) : Ev l G own cc nL ret rm E k n V pc ll (.int y :: .int x :: st) Q := by
  intro p e s m args below meth c H locs ls C hR hL hl
  obtain ⟨hx, hb, hr, hml, ho, hts, hlk, hK⟩ := And.intro True.intro C |>.2
  exact lv_icmp_ge hx hb hd ht (fun q => kt q p e s m args below meth c H locs ls C hR hL hl) (fun q => kf q p e s m args below meth c H locs ls C hR hL hl)
theorem r_if_gt {x : Int32} {off : Int} (tgt : Nat) (hd : decode cc pc = .ok (.ifCond .gt off, 3)) (ht : (pc : Int) + off = (tgt : Int)) (kt : 0 < x → Ev l G own cc nL ret rm E k n V tgt ll st Q) (kf : ¬ 0 < x → Ev l G own cc nL ret rm E k n V (pc + 3) ll st Q) : Ev l G own cc nL ret rm E k n V pc ll (.int x :: st) Q := by
  intro p e s m args below meth c H locs ls C hR hL hl
  obtain ⟨hx, hb, hr, hml, ho, hts, hlk, hK⟩ := And.intro True.intro C |>.2
  exact lv_if_gt hx hb hd ht (fun q => kt q p e s m args below meth c H locs ls C hR hL hl) (fun q => kf q p e s m args below meth c H locs ls C hR hL hl)
theorem r_icmp_gt {x y : Int32} {off : Int} (tgt : Nat) (hd : decode cc pc = .ok (.if_icmp .gt off, 3)) (ht : (pc : Int) + off = (tgt : Int)) (kt : y < x → Ev l G own cc nL ret rm E k n V tgt ll st Q) (kf : ¬ y < x → Ev l G own cc nL ret rm E k n V (pc + 3) ll st Q) : Ev l G own cc nL ret rm E k n V pc ll (.int y :: .int x :: st) Q := by
  intro p e s m args below meth c H locs ls C hR hL hl
  obtain ⟨hx, hb, hr, hml, ho, hts, hlk, hK⟩ := And.intro True.intro C |>.2
  exact lv_icmp_gt hx hb hd ht (fun q => kt q p e s m args below meth c H locs ls C hR hL hl) (fun q => kf q p e s m args below meth c H locs ls C hR hL hl)
theorem r_if_le {x : Int32} {off : Int} (tgt : Nat) (hd : decode cc pc = .ok (.ifCond .le off, 3)) (ht : (pc : Int) + off = (tgt : Int)) (kt : x ≤ 0 → Ev l G own cc nL ret rm E k n V tgt ll st Q) (kf : ¬ x ≤ 0 → Ev l G own cc nL ret rm E k n V (pc + 3) ll st Q) : Ev l G own cc nL ret rm E k n V pc ll (.int x :: st) Q := by
  intro p e s m args below meth c H locs ls C hR hL hl
  obtain ⟨hx, hb, hr, hml, ho, hts, hlk, hK⟩ := And.intro True.intro C |>.2
  exact lv_if_le hx hb hd ht (fun q => kt q p e s m args below meth c H locs ls C hR hL hl) (fun q => kf q p e s m args below meth c H locs ls C hR hL hl)
theorem r_icmp_le {x y : Int32} {off : Int} (tgt : Nat) (hd : decode cc pc = .ok (.if_icmp .le off, 3)) (ht : (pc : Int) + off = (tgt : Int)) (kt : x ≤ y → Ev l G own cc nL ret rm E k n V tgt ll st Q) (kf : ¬ x ≤ y → Ev l G own cc nL ret rm E k n V (pc + 3) ll st Q) : Ev l G own cc nL ret rm E k n V pc ll (.int y :: .int x :: st) Q := by
  intro p e s m args below meth c H locs ls C hR hL hl
  obtain ⟨hx, hb, hr, hml, ho, hts, hlk, hK⟩ := And.intro True.intro C |>.2
  exact lv_icmp_le hx hb hd ht (fun q => kt q p e s m args below meth c H locs ls C hR hL hl) (fun q => kf q p e s m args below meth c H locs ls C hR hL hl)
theorem r_goto {off : Int} (tgt : Nat) (hd : decode cc pc = .ok (.goto off, 3)) (ht : (pc : Int) + off = (tgt : Int)) (kk : Ev l G own cc nL ret rm E k n V tgt ll st Q) : Ev l G own cc nL ret rm E k n V pc ll st Q := by
  intro p e s m args below meth c H locs ls C hR hL hl
  obtain ⟨hx, hb, hr, hml, ho, hts, hlk, hK⟩ := And.intro True.intro C |>.2
  exact lv_goto hx hb hd ht (kk p e s m args below meth c H locs ls C hR hL hl)
theorem r_ifnull {off : Int} {o : Option Nat} (tgt : Nat) (hd : decode cc pc = .ok (.ifnull off, 3)) (ht : (pc : Int) + off = (tgt : Int)) (kt : o = none → Ev l G own cc nL ret rm E k n V tgt ll st Q) (kf : ∀ a, o = some a → Ev l G own cc nL ret rm E k n V (pc + 3) ll st Q) : Ev l G own cc nL ret rm E k n V pc ll (va_rf o :: st) Q := by
  intro p e s m args below meth c H locs ls C hR hL hl
  obtain ⟨hx, hb, hr, hml, ho, hts, hlk, hK⟩ := And.intro True.intro C |>.2
  cases o with
  | none => exact lv_ifnullN hx hb hd ht (kt rfl p e s m args below meth c H locs ls C hR hL hl)
  | some a => exact lv_ifnull hx hb hd (kf a rfl p e s m args below meth c H locs ls C hR hL hl)
theorem r_ifnonnull {off : Int} {o : Option Nat} (tgt : Nat) (hd : decode cc pc = .ok (.ifnonnull off, 3)) (ht : (pc : Int) + off = (tgt : Int)) (kt : ∀ a, o = some a → Ev l G own cc nL ret rm E k n V tgt ll st Q) (kf : o = none → Ev l G own cc nL ret rm E k n V (pc + 3) ll st Q) : Ev l G own cc nL ret rm E k n V pc ll (va_rf o :: st) Q := by
  intro p e s m args below meth c H locs ls C hR hL hl
  obtain ⟨hx, hb, hr, hml, ho, hts, hlk, hK⟩ := And.intro True.intro C |>.2
  cases o with
  | none => exact lv_ifnonnullN hx hb hd (kf rfl p e s m args below meth c H locs ls C hR hL hl)
  | some a => exact lv_ifnonnull hx hb hd ht (kt a rfl p e s m args below meth c H locs ls C hR hL hl)
theorem r_tIn {dflt lo hi : Int} {offs : Array Int} {len : Nat} {x xv : Int32} {off : Int} (tgt : Nat) (hd : decode cc pc = .ok (.tableswitch dflt lo hi offs, len)) (he : x = xv) (h1 : ¬ xv.toInt < lo) (h2 : ¬ hi < xv.toInt) (hof : offs[(xv.toInt - lo).toNat]? = some off) (ht : (pc : Int) + off = (tgt : Int)) (kk : Ev l G own cc nL ret rm E k n V tgt ll st Q) : Ev l G own cc nL ret rm E k n V pc ll (.int x :: st) Q := by
  intro p e s m args below meth c H locs ls C hR hL hl
  obtain ⟨hx, hb, hr, hml, ho, hts, hlk, hK⟩ := And.intro True.intro C |>.2
  subst he
  exact lv_tableIn hx hb hd h1 h2 hof ht (kk p e s m args below meth c H locs ls C hR hL hl)
theorem r_tOut {dflt lo hi : Int} {offs : Array Int} {len : Nat} {x : Int32} (tgt : Nat) (hd : decode cc pc = .ok (.tableswitch dflt lo hi offs, len)) (h : x.toInt < lo ∨ hi < x.toInt) (ht : (pc : Int) + dflt = (tgt : Int)) (kk : Ev l G own cc nL ret rm E k n V tgt ll st Q) : Ev l G own cc nL ret rm E k n V pc ll (.int x :: st) Q := by
  intro p e s m args below meth c H locs ls C hR hL hl
  obtain ⟨hx, hb, hr, hml, ho, hts, hlk, hK⟩ := And.intro True.intro C |>.2
  exact lv_tableOut hx hb hd h ht (kk p e s m args below meth c H locs ls C hR hL hl)
theorem r_look {dflt : Int} {ps : Array (Int × Int)} {len : Nat} {x : Int32} {off : Int} (tgt : Nat) (hd : decode cc pc = .ok (.lookupswitch dflt ps, len)) (hp : (ps.toList.zip (ps.toList.drop 1)).all (fun (a, next) => a.1 < next.1) = true) (hof : Op.lookupswitch.offset ps.toList dflt x.toInt = off) (ht : (pc : Int) + off = (tgt : Int)) (kk : Ev l G own cc nL ret rm E k n V tgt ll st Q) : Ev l G own cc nL ret rm E k n V pc ll (.int x :: st) Q := by
  intro p e s m args below meth c H locs ls C hR hL hl
  obtain ⟨hx, hb, hr, hml, ho, hts, hlk, hK⟩ := And.intro True.intro C |>.2
  exact lv_lookup hx hb hd hp hof ht (kk p e s m args below meth c H locs ls C hR hL hl)
/-- the pool's entry idx of own is field k of class c -/
def FL (own : String) (idx c k : Nat) : Prop := ∃ (q : vw_C), cls[c]? = some q ∧ k < q.2.2 ∧ Cond.fieldLink own idx (q.2.1 k).1 (q.2.1 k).2.1 (q.2.1 k).2.2.1 ∈ tb ∧ ∀ w ∈ u_ws q.1 q.2.1 q.2.2, w ∈ tb
/-- .. and may be written, as a value of type ty -/
def FP (own : String) (idx c k : Nat) (ty : FieldType) : Prop := ∃ (q : vw_C) (ty0 : Nat → FieldType), cls[c]? = some q ∧ k < q.2.2 ∧ Cond.fieldLink own idx (q.2.1 k).1 (q.2.1 k).2.1 (q.2.1 k).2.2.1 ∈ tb ∧ (∀ w ∈ u_ws q.1 q.2.1 q.2.2, w ∈ tb) ∧ (q.2.1 k).2.2.2 = false ∧ parseFieldDescriptor (q.2.1 k).2.2.1 = some ty ∧ (∀ j, j < q.2.2 → parseFieldDescriptor (q.2.1 j).2.2.1 = some (ty0 j)) ∧ ∀ a, a < q.2.2 → ∀ b, b < q.2.2 → a ≠ b → (q.2.1 a).2.1 ≠ (q.2.1 b).2.1
theorem RepH.ob {H : Heap} {c i : Nat} (h : RepH G E V H) (hc : c < 100) (hl : eL E c i) : va_at (gD G) cls (eA E c i, .inr (c, obF E V c i)) H := by
  have h1 := (h.2.1 c i (by unfold Lv; rw [if_pos hc]; exact hl)).2
  unfold cellOf at h1
  rw [if_pos hc] at h1
  exact h1
theorem r_get {idx ci i kf : Nat} {v : Value} (hd : decode cc pc = .ok (.getfield idx, 3)) (hf : FL own idx ci kf) (hlv : eL E ci i) (hv : (obF E V ci i)[kf]? = some v) (kk : Ev l G own cc nL ret rm E k n V (pc + 3) ll (v :: st) Q) : Ev l G own cc nL ret rm E k n V pc ll (.ref (eA E ci i) :: st) Q := by
  intro p e s m args below meth c H locs ls C hR hL hl
  obtain ⟨hx, hb, hr, hml, ho, hts, hlk, hK⟩ := And.intro True.intro C |>.2
  obtain ⟨q, hq, hkq, hlink, hin⟩ := hf
  have hc : ci < 100 := Nat.lt_of_lt_of_le (List.getElem?_eq_some_iff.mp hq).1 (by decide)
  have hP : va_P (gD G) cls [(eA E ci i, .inr (ci, obF E V ci i))] H := fun j x hj => by
    cases j with
    | zero => cases hj; exact hR.ob hc hlv
    | succ j => simp at hj
  exact va_get (D := gD G) (cl := cls) (ci := ci) (C := q.1) (T := q.2.1) (N := q.2.2) (ref := (q.2.1 kf).1) hx hb hts hin ho hK.1 hP 0 rfl hq kf hkq (hts _ hlink) (fun _ h9 => h9) hv hd (kk p e s m args below meth c H locs ls C hR hL hl)
theorem r_put {idx ci i kf : Nat} {x : Int32} {ty : FieldType} (hd : decode cc pc = .ok (.putfield idx, 3)) (hf : FP own idx ci kf ty) (h0 : (fkl ci)[kf]? = some 0) (hlv : eL E ci i) (hn : narrow ty (.int x) = .int x) (hfit : fits ty (.int x) = true) (kk : Ev l G own cc nL ret rm E k n (up3 V (100 * (ci + 1) + kf) i 0 x) (pc + 3) ll st Q) : Ev l G own cc nL ret rm E k n V pc ll (.int x :: .ref (eA E ci i) :: st) Q := by
  intro p e s m args below meth c H locs ls C hR hL hl
  obtain ⟨hx, hb, hr, hml, ho, hts, hlk, hK⟩ := And.intro True.intro C |>.2
  obtain ⟨q, ty0, hq, hkq, hlink, hin, hfin, hty, hty0, hnm⟩ := hf
  have hc : ci < 100 := Nat.lt_of_lt_of_le (List.getElem?_eq_some_iff.mp hq).1 (by decide)
  have hob := hR.ob hc hlv
  have hap := va_apart (own := own) hts hin ty0 hty0 hnm hK.1 hq
  obtain ⟨r, h1, cell, q1, q2, q3, q4⟩ := hob
  have hr1 : r = q := Option.some.inj (h1.symm.trans hq)
  subst hr1
  obtain ⟨hS, hfc, kC, hkC, hkind⟩ := hK.1.1 ci _ hq
  obtain ⟨cf, kff, fi, f, hi, hsl⟩ := hS kf hkq
  have hlay := hts _ (hin _ (u_in_lay hkq))
  unfold u_lay at hlay
  rw [if_neg (by rw [hfin]; decide)] at hlay
  have hst := (u_facts hfc hkC (u_lays hts hin hkq) hi).1
  have h6 := u_store hfc hkC hkind hlay hi hty hn hfit
  have hLv : Lv E ci i := by unfold Lv; rw [if_pos hc]; exact hlv
  have hkl : kf < (obF E V ci i).length := by
    have : (obF E V ci i)[kf]? = some (fval E V ci i kf 0) := by rw [obF_get, h0]; rfl
    exact (List.getElem?_eq_some_iff.mp this).1
  refine W.putK hx hb (f := f) ⟨ho, hts _ hlink, ⟨_, _, _, hi⟩, hst⟩ (by rw [q2]; exact h6) q1 q3 (by rw [hsl]; exact k2_hasslot (q4 kf hkq)) rfl rfl hd fun H' e1 e2 e3 => ?_
  rw [hsl] at e1 ⊢
  refine kk p e s m args below meth c H' _ ls C (hR.wr hLv e2 e3 ?_ ?_) ?_ hl
  · unfold cellOf
    rw [if_pos hc, obF_put h0]
    exact ⟨_, hq, t_OB.to (V := updV (vp_V (obF E V ci i)) kf (.int x)) ⟨_, e1, q2, q3, t_set q4 hap hkq (.int x)⟩ (fun j _ => vp_updV_set hkl (.int x) j)⟩
  · intro id' i' hne
    unfold cellOf
    split
    · rw [obF_other h0 hne]
    · rename_i hid
      by_cases hf2 : id' = 100 * (ci + 1) + kf ∧ i' = i
      · obtain ⟨rfl, rfl⟩ := hf2
        rw [kdo_at h0]
        rfl
      · exact arC_other hf2 _
  · intro z hz
    rcases List.mem_append.mp hz with h | h
    · exact hL z h
    · rw [List.mem_singleton.mp h]
      exact (hR.2.1 ci i hLv).1
theorem RepH.ar {H : Heap} {id i : Nat} (h : RepH G E V H) (hk : 1 ≤ kdo id ∧ kdo id ≤ 6) (hid : 100 ≤ id) (hl : eL E (id / 100 - 1) i) : va_at (gD G) cls (eA E id i, arC G E V id i (kdo id)) H := by
  have h1 := (h.2.1 id i (by unfold Lv; rw [if_neg (by omega)]; exact ⟨hk.1, hk.2, hl⟩)).2
  unfold cellOf at h1
  rw [if_neg (by omega)] at h1
  exact h1
theorem Lv_ar {id i : Nat} (hk : 1 ≤ kdo id ∧ kdo id ≤ 6) (hid : 100 ≤ id) (hl : eL E (id / 100 - 1) i) : Lv E id i := by
  unfold Lv
  rw [if_neg (by omega)]
  exact ⟨hk.1, hk.2, hl⟩
theorem RepH.wrA {H H1 : Heap} {id i j : Nat} {x : Int32} {kd t : Nat} (h : RepH G E V H) (hkd : kdo id = kd) (h3 : kd = t + 1) (ht : t ≤ 2) (hid : 100 ≤ id) (hl : eL E (id / 100 - 1) i) (hz : H1.size = H.size) (ho : ∀ q, q ≠ eA E id i → H1[q]? = H[q]?) (hs : H1[eA E id i]? = some (vp_cell (gT G t) (eN E id i, .inl (upd (V id i) j x)))) : RepH G E (up3 V id i j x) H1 := by
  have hk : 1 ≤ kdo id ∧ kdo id ≤ 6 := by omega
  refine h.wr (Lv_ar hk hid hl) hz ho ?_ ?_
  · unfold cellOf
    rw [if_neg (by omega), hkd, h3]
    have e : t = 0 ∨ t = 1 ∨ t = 2 := by omega
    rcases e with rfl | rfl | rfl <;> (show H1[eA E id i]? = some (vp_cell _ (eN E id i, .inl (up3 V id i j x id i))); rw [up3_row]; exact hs)
  · intro id' i' hne
    unfold cellOf
    split
    · rw [obF_row (by omega)]
    · exact arC_other hne _
theorem r_iald {id i : Nat} {x : Int32} (hd : decode cc pc = .ok (.iaload, 1)) (hkd : kdo id = 1) (hid : 100 ≤ id) (hlv : eL E (id / 100 - 1) i) (hin : vp_in x (eN E id i)) (kk : Ev l G own cc nL ret rm E k n V (pc + 1) ll (.int (V id i x.toNatClampNeg) :: st) Q) : Ev l G own cc nL ret rm E k n V pc ll (.int x :: .ref (eA E id i) :: st) Q := by
  intro p e s m args below meth c H locs ls C hR hL hl
  obtain ⟨hx, hb, hr, hml, ho, hts, hlk, hK⟩ := And.intro True.intro C |>.2
  have hP : va_P (gD G) cls [(eA E id i, .inl (gT G 0, eN E id i, .inl (V id i)))] H := fun j x hj => by
    cases j with
    | zero =>
      cases hj
      have h1 := hR.ar (by omega) hid hlv
      rw [hkd] at h1
      exact h1
    | succ j => simp at hj
  exact va_iald (D := gD G) (cl := cls) hx hb hK.1 hP 0 0 rfl rfl hin hd (kk p e s m args below meth c H locs ls C hR hL hl)
theorem r_bald {id i : Nat} {x : Int32} (hd : decode cc pc = .ok (.baload, 1)) (hkd : kdo id = 2) (hid : 100 ≤ id) (hlv : eL E (id / 100 - 1) i) (hin : vp_in x (eN E id i)) (kk : Ev l G own cc nL ret rm E k n V (pc + 1) ll (.int (V id i x.toNatClampNeg) :: st) Q) : Ev l G own cc nL ret rm E k n V pc ll (.int x :: .ref (eA E id i) :: st) Q := by
  intro p e s m args below meth c H locs ls C hR hL hl
  obtain ⟨hx, hb, hr, hml, ho, hts, hlk, hK⟩ := And.intro True.intro C |>.2
  have hP : va_P (gD G) cls [(eA E id i, .inl (gT G 1, eN E id i, .inl (V id i)))] H := fun j x hj => by
    cases j with
    | zero =>
      cases hj
      have h1 := hR.ar (by omega) hid hlv
      rw [hkd] at h1
      exact h1
    | succ j => simp at hj
  exact va_bald (D := gD G) (cl := cls) hx hb hK.1 hP 0 1 rfl rfl hin hd (kk p e s m args below meth c H locs ls C hR hL hl)
theorem r_zald {id i : Nat} {x : Int32} (hd : decode cc pc = .ok (.baload, 1)) (hkd : kdo id = 3) (hid : 100 ≤ id) (hlv : eL E (id / 100 - 1) i) (hin : vp_in x (eN E id i)) (kk : Ev l G own cc nL ret rm E k n V (pc + 1) ll (.int (V id i x.toNatClampNeg) :: st) Q) : Ev l G own cc nL ret rm E k n V pc ll (.int x :: .ref (eA E id i) :: st) Q := by
  intro p e s m args below meth c H locs ls C hR hL hl
  obtain ⟨hx, hb, hr, hml, ho, hts, hlk, hK⟩ := And.intro True.intro C |>.2
  have hP : va_P (gD G) cls [(eA E id i, .inl (gT G 2, eN E id i, .inl (V id i)))] H := fun j x hj => by
    cases j with
    | zero =>
      cases hj
      have h1 := hR.ar (by omega) hid hlv
      rw [hkd] at h1
      exact h1
    | succ j => simp at hj
  exact va_zald (D := gD G) (cl := cls) hx hb hK.1 hP 0 2 rfl rfl hin hd (kk p e s m args below meth c H locs ls C hR hL hl)
theorem r_iast {id i : Nat} {x y : Int32} (hd : decode cc pc = .ok (.iastore, 1)) (hkd : kdo id = 1) (hid : 100 ≤ id) (hlv : eL E (id / 100 - 1) i) (hin : vp_in y (eN E id i)) (kk : Ev l G own cc nL ret rm E k n (up3 V id i y.toNatClampNeg (x)) (pc + 1) ll st Q) : Ev l G own cc nL ret rm E k n V pc ll (.int x :: .int y :: .ref (eA E id i) :: st) Q := by
  intro p e s m args below meth c H locs ls C hR hL hl
  obtain ⟨hx, hb, hr, hml, ho, hts, hlk, hK⟩ := And.intro True.intro C |>.2
  have h1 := hR.ar (by omega) hid hlv
  rw [hkd] at h1
  have h2 : H[eA E id i]? = some (vp_cell (gT G 0) (eN E id i, .inl (V id i))) := h1
  refine W.iast hx hb h2 ((hK.1.2 0 _ rfl).1 (eN E id i) (fun j => .int (V id i j))) (fun q => by cases q) (by show ¬ (y < 0 ∨ (arrV _ _ _).slots.size ≤ _); rw [arrV_size]; exact hin) rfl rfl hd fun H1 e9 z oq => ?_
  refine kk p e s m args below meth c H1 _ ls C (hR.wrA hkd rfl (by omega) hid hlv z oq ?_) ?_ hl
  · rw [e9, vp_cell_i, vp_cell_i, arrV_store]
    congr 2
    funext q
    by_cases hq : q = y.toNatClampNeg
    · subst hq
      simp [updV, upd]
    · simp [updV, upd, hq]
  · intro z hz
    rcases List.mem_append.mp hz with h | h
    · exact hL z h
    · rw [List.mem_singleton.mp h]
      exact (hR.2.1 id i (Lv_ar (by omega) hid hlv)).1
theorem r_bast {id i : Nat} {x y : Int32} (hd : decode cc pc = .ok (.bastore, 1)) (hkd : kdo id = 2) (hid : 100 ≤ id) (hlv : eL E (id / 100 - 1) i) (hin : vp_in y (eN E id i)) (kk : Ev l G own cc nL ret rm E k n (up3 V id i y.toNatClampNeg (vp_nar .byte x)) (pc + 1) ll st Q) : Ev l G own cc nL ret rm E k n V pc ll (.int x :: .int y :: .ref (eA E id i) :: st) Q := by
  intro p e s m args below meth c H locs ls C hR hL hl
  obtain ⟨hx, hb, hr, hml, ho, hts, hlk, hK⟩ := And.intro True.intro C |>.2
  have h1 := hR.ar (by omega) hid hlv
  rw [hkd] at h1
  have h2 : H[eA E id i]? = some (vp_cell (gT G 1) (eN E id i, .inl (V id i))) := h1
  refine W.bast hx hb h2 ((hK.1.2 1 _ rfl).1 (eN E id i) (fun j => .int (V id i j))) (fun q => by cases q) (by show ¬ (y < 0 ∨ (arrV _ _ _).slots.size ≤ _); rw [arrV_size]; exact hin) rfl rfl hd fun H1 e9 z oq => ?_
  refine kk p e s m args below meth c H1 _ ls C (hR.wrA hkd rfl (by omega) hid hlv z oq ?_) ?_ hl
  · rw [e9, vp_cell_i, vp_cell_i, arrV_store]
    congr 2
    funext q
    by_cases hq : q = y.toNatClampNeg
    · subst hq
      simp [updV, upd, vp_nar, narrow]
    · simp [updV, upd, hq]
  · intro z hz
    rcases List.mem_append.mp hz with h | h
    · exact hL z h
    · rw [List.mem_singleton.mp h]
      exact (hR.2.1 id i (Lv_ar (by omega) hid hlv)).1
theorem r_zast {id i : Nat} {x y : Int32} (hd : decode cc pc = .ok (.bastore, 1)) (hkd : kdo id = 3) (hid : 100 ≤ id) (hlv : eL E (id / 100 - 1) i) (hin : vp_in y (eN E id i)) (kk : Ev l G own cc nL ret rm E k n (up3 V id i y.toNatClampNeg (vp_nar .boolean x)) (pc + 1) ll st Q) : Ev l G own cc nL ret rm E k n V pc ll (.int x :: .int y :: .ref (eA E id i) :: st) Q := by
  intro p e s m args below meth c H locs ls C hR hL hl
  obtain ⟨hx, hb, hr, hml, ho, hts, hlk, hK⟩ := And.intro True.intro C |>.2
  have h1 := hR.ar (by omega) hid hlv
  rw [hkd] at h1
  have h2 : H[eA E id i]? = some (vp_cell (gT G 2) (eN E id i, .inl (V id i))) := h1
  refine W.zast hx hb h2 ((hK.1.2 2 _ rfl).1 (eN E id i) (fun j => .int (V id i j))) (fun q => by cases q) (by show ¬ (y < 0 ∨ (arrV _ _ _).slots.size ≤ _); rw [arrV_size]; exact hin) rfl rfl hd fun H1 e9 z oq => ?_
  refine kk p e s m args below meth c H1 _ ls C (hR.wrA hkd rfl (by omega) hid hlv z oq ?_) ?_ hl
  · rw [e9, vp_cell_i, vp_cell_i, arrV_store]
    congr 2
    funext q
    by_cases hq : q = y.toNatClampNeg
    · subst hq
      simp [updV, upd, vp_nar, narrow]
    · simp [updV, upd, hq]
  · intro z hz
    rcases List.mem_append.mp hz with h | h
    · exact hL z h
    · rw [List.mem_singleton.mp h]
      exact (hR.2.1 id i (Lv_ar (by omega) hid hlv)).1
theorem r_aaldP {id i : Nat} {x : Int32} (hd : decode cc pc = .ok (.aaload, 1)) (hkd : kdo id = 4) (hid : 100 ≤ id) (hlv : eL E (id / 100 - 1) i) (hin : vp_in x (eN E id i)) (kk : Ev l G own cc nL ret rm E k n V (pc + 1) ll (va_rf ((eR E id x.toNatClampNeg).map (eA E 2)) :: st) Q) : Ev l G own cc nL ret rm E k n V pc ll (.int x :: .ref (eA E id i) :: st) Q := by
  intro p e s m args below meth c H locs ls C hR hL hl
  obtain ⟨hx, hb, hr, hml, ho, hts, hlk, hK⟩ := And.intro True.intro C |>.2
  have hP : va_P (gD G) cls [(eA E id i, .inl (gT G 3, eN E id i, .inr (.inr (.inr (.inr (fun j => (eR E id j).map (eA E 2)))))))] H := fun j x hj => by
    cases j with
    | zero =>
      cases hj
      have h1 := hR.ar (by omega) hid hlv
      rw [hkd] at h1
      exact h1
    | succ j => simp at hj
  exact va_aldq (D := gD G) (cl := cls) (C := RX2) hx hb hK.1 hP 0 3 rfl rfl hin hd (kk p e s m args below meth c H locs ls C hR hL hl)
theorem r_aaldG {id i : Nat} {x : Int32} (hd : decode cc pc = .ok (.aaload, 1)) (hkd : kdo id = 5) (hid : 100 ≤ id) (hlv : eL E (id / 100 - 1) i) (hin : vp_in x (eN E id i)) (kk : Ev l G own cc nL ret rm E k n V (pc + 1) ll (va_rf ((eR E id x.toNatClampNeg).map (eA E 1)) :: st) Q) : Ev l G own cc nL ret rm E k n V pc ll (.int x :: .ref (eA E id i) :: st) Q := by
  intro p e s m args below meth c H locs ls C hR hL hl
  obtain ⟨hx, hb, hr, hml, ho, hts, hlk, hK⟩ := And.intro True.intro C |>.2
  have hP : va_P (gD G) cls [(eA E id i, .inl (gT G 4, eN E id i, .inr (.inr (.inr (.inr (fun j => (eR E id j).map (eA E 1)))))))] H := fun j x hj => by
    cases j with
    | zero =>
      cases hj
      have h1 := hR.ar (by omega) hid hlv
      rw [hkd] at h1
      exact h1
    | succ j => simp at hj
  exact va_aldq (D := gD G) (cl := cls) (C := RX1) hx hb hK.1 hP 0 4 rfl rfl hin hd (kk p e s m args below meth c H locs ls C hR hL hl)
theorem r_aaldT {id i : Nat} {x : Int32} (hd : decode cc pc = .ok (.aaload, 1)) (hkd : kdo id = 6) (hid : 100 ≤ id) (hlv : eL E (id / 100 - 1) i) (hin : vp_in x (eN E id i)) (kk : Ev l G own cc nL ret rm E k n V (pc + 1) ll (va_rf ((eR E id x.toNatClampNeg).map (eA E 7)) :: st) Q) : Ev l G own cc nL ret rm E k n V pc ll (.int x :: .ref (eA E id i) :: st) Q := by
  intro p e s m args below meth c H locs ls C hR hL hl
  obtain ⟨hx, hb, hr, hml, ho, hts, hlk, hK⟩ := And.intro True.intro C |>.2
  have hP : va_P (gD G) cls [(eA E id i, .inl (gT G 5, eN E id i, .inr (.inr (.inr (.inr (fun j => (eR E id j).map (eA E 7)))))))] H := fun j x hj => by
    cases j with
    | zero =>
      cases hj
      have h1 := hR.ar (by omega) hid hlv
      rw [hkd] at h1
      exact h1
    | succ j => simp at hj
  exact va_aldq (D := gD G) (cl := cls) (C := RX7) hx hb hK.1 hP 0 5 rfl rfl hin hd (kk p e s m args below meth c H locs ls C hR hL hl)
theorem r_alenI {id i : Nat} (hd : decode cc pc = .ok (.arraylength, 1)) (hkd : kdo id = 1) (hid : 100 ≤ id) (hlv : eL E (id / 100 - 1) i) (kk : Ev l G own cc nL ret rm E k n V (pc + 1) ll (.int (Int32.ofNat (eN E id i)) :: st) Q) : Ev l G own cc nL ret rm E k n V pc ll (.ref (eA E id i) :: st) Q := by
  intro p e s m args below meth c H locs ls C hR hL hl
  obtain ⟨hx, hb, hr, hml, ho, hts, hlk, hK⟩ := And.intro True.intro C |>.2
  have hP : va_P (gD G) cls [(eA E id i, .inl (gT G 0, eN E id i, .inl (V id i)))] H := fun j x hj => by
    cases j with
    | zero =>
      cases hj
      have h1 := hR.ar (by omega) hid hlv
      rw [hkd] at h1
      exact h1
    | succ j => simp at hj
  exact va_alen (D := gD G) (cl := cls) hx hb hK.1 hP 0 0 rfl (ty := .int) rfl rfl hd (kk p e s m args below meth c H locs ls C hR hL hl)
/-- the static row MOST_TOLD -/
theorem r_told {idx : Nat} (hd : decode cc pc = .ok (.getstatic idx, 3)) (hw : Cond.fieldLink own idx RX8 "MOST_TOLD" "[I" ∈ tb) (kk : Ev l G own cc nL ret rm E k n V (pc + 3) ll (.ref (gM G) :: st) Q) : Ev l G own cc nL ret rm E k n V pc ll st Q := by
  intro p e s m args below meth c H locs ls C hR hL hl
  obtain ⟨hx, hb, hr, hml, ho, hts, hlk, hK⟩ := And.intro True.intro C |>.2
  obtain ⟨cf, kf, fi, f, a, cell, h1, h2, h3, h4, h5, h6, h7, h8⟩ := hK.2.2.2.2.2.2.1
  exact W.gets hx hb ho (hts _ hw) h1 h2 h3 h4 (by rw [hR.1 a (Array.getElem?_eq_some_iff.mp h5).1]; exact h5) (fun e => by rw [e] at h6; cases h6) h7 rfl hd (kk p e s m args below meth c H locs ls C hR hL hl)
theorem r_toldlen (hd : decode cc pc = .ok (.arraylength, 1)) (kk : Ev l G own cc nL ret rm E k n V (pc + 1) ll (.int 4 :: st) Q) : Ev l G own cc nL ret rm E k n V pc ll (.ref (gM G) :: st) Q := by
  intro p e s m args below meth c H locs ls C hR hL hl
  obtain ⟨hx, hb, hr, hml, ho, hts, hlk, hK⟩ := And.intro True.intro C |>.2
  obtain ⟨cell, h1, h2, h3, h4, h5, h6, h7⟩ := hK.2.2.2.2.2.2.2.1
  exact W.alen (n := 4) hx hb (by rw [hR.1 _ (Array.getElem?_eq_some_iff.mp h1).1]; exact h1) h2 h5 rfl rfl hd (kk p e s m args below meth c H locs ls C hR hL hl)
theorem r_toldat {x : Int32} (hd : decode cc pc = .ok (.iaload, 1)) (hin : vp_in x 4) (kk : Ev l G own cc nL ret rm E k n V (pc + 1) ll (.int (mTold.getD x.toNatClampNeg 0) :: st) Q) : Ev l G own cc nL ret rm E k n V pc ll (.int x :: .ref (gM G) :: st) Q := by
  intro p e s m args below meth c H locs ls C hR hL hl
  obtain ⟨hx, hb, hr, hml, ho, hts, hlk, hK⟩ := And.intro True.intro C |>.2
  obtain ⟨cell, h1, h2, h3, h4, h5, h6, h7⟩ := hK.2.2.2.2.2.2.2.1
  have hlt : x.toNatClampNeg < 4 := Nat.not_le.mp fun q => hin (Or.inr q)
  exact W.iald hx hb (by rw [hR.1 _ (Array.getElem?_eq_some_iff.mp h1).1]; exact h1) h2 h3 (fun q => hin (q.imp id (fun z => Nat.le_trans h4 z))) (h6 _ hlt) rfl rfl hd (kk p e s m args below meth c H locs ls C hR hL hl)
theorem r_ldcS {idx : Nat} {tx : String} {a : Nat} (hd : decode cc pc = .ok (.ldc idx, 2)) (hz : ∀ U, BF G U → vk_R own idx tx a U) (kk : Ev l G own cc nL ret rm E k n V (pc + 2) ll (.ref a :: st) Q) : Ev l G own cc nL ret rm E k n V pc ll st Q := by
  intro p e s m args below meth c H locs ls C hR hL hl
  obtain ⟨hx, hb, hr, hml, ho, hts, hlk, hK⟩ := And.intro True.intro C |>.2
  exact va_ldcS hx hb ho (hz s hK.2) hd (kk p e s m args below meth c H locs ls C hR hL hl)
theorem r_iret {v : Int32} (hd : decode cc pc = .ok (.ireturn, 1)) (hrt : ret = some .int) (hkn : k ≤ rm.cells ∧ n ≤ rm.slots) (hq : Q (some (.int v)) E V) : Ev l G own cc nL ret rm E k n V pc ll [.int v] Q := by
  intro p e s m args below meth c H locs ls C hR hL hl
  obtain ⟨hx, hb, hr, hml, ho, hts, hlk, hK⟩ := And.intro True.intro C |>.2
  subst hrt
  exact W.widen hkn.1 hkn.2 (W.iret hx hb hr (fun t ht hW => ⟨_, _, _, rfl, hq, by rw [ht]; exact hR⟩) hL hd)
theorem r_zret {v : Int32} {ty : FieldType} (hd : decode cc pc = .ok (.ireturn, 1)) (hrt : ret = some ty) (hn : narrow ty (.int v) = .int v) (hkn : k ≤ rm.cells ∧ n ≤ rm.slots) (hq : Q (some (.int v)) E V) : Ev l G own cc nL ret rm E k n V pc ll [.int v] Q := by
  intro p e s m args below meth c H locs ls C hR hL hl
  obtain ⟨hx, hb, hr, hml, ho, hts, hlk, hK⟩ := And.intro True.intro C |>.2
  subst hrt
  exact W.widen hkn.1 hkn.2 (W.zret hx hb hr hn (fun t ht hW => ⟨_, _, _, rfl, hq, by rw [ht]; exact hR⟩) hL hd)
theorem r_vret (hd : decode cc pc = .ok (.return_, 1)) (hrt : ret = none) (hkn : k ≤ rm.cells ∧ n ≤ rm.slots) (hq : Q none E V) : Ev l G own cc nL ret rm E k n V pc ll [] Q := by
  intro p e s m args below meth c H locs ls C hR hL hl
  obtain ⟨hx, hb, hr, hml, ho, hts, hlk, hK⟩ := And.intro True.intro C |>.2
  subst hrt
  exact W.widen hkn.1 hkn.2 (W.vret hx hb hr (fun t ht hW => ⟨_, _, _, rfl, hq, by rw [ht]; exact hR⟩) hL hd)
theorem r_aret {v : Value} {rt : FieldType} (hd : decode cc pc = .ok (.areturn, 1)) (hrt : ret = some rt) (hrt2 : (∃ n, rt = .object n) ∨ ∃ t, rt = .array t) (hv : rl v) (hkn : k ≤ rm.cells ∧ n ≤ rm.slots) (hq : Q (some v) E V) : Ev l G own cc nL ret rm E k n V pc ll [v] Q := by
  intro p e s m args below meth c H locs ls C hR hL hl
  obtain ⟨hx, hb, hr, hml, ho, hts, hlk, hK⟩ := And.intro True.intro C |>.2
  subst hrt
  exact W.widen hkn.1 hkn.2 (W.aret hx hb hr hrt2 hv (fun t ht hW => ⟨_, _, _, rfl, hq, by rw [ht]; exact hR⟩) hL hd)
/-- what the tables say of an instance method that is called, of a static one -/
def MV (y : MethodName) (cy : ByteArray) (nY : Nat) (ry : Option FieldType) (na : Nat) : Prop := Cond.code y cy nY ry ∈ tb ∧ Cond.instanceMethod y ∈ tb ∧ Cond.selects y.cls y y ∈ tb ∧ Cond.initialized y.cls ∈ tb ∧ y.cls ≠ "java/lang/invoke/MethodHandle" ∧ y.cls ≠ "java/lang/invoke/VarHandle" ∧ (parseMethodDescriptor y.desc).map (fun d => d.parameters.length) = some na
def MS (y : MethodName) (cy : ByteArray) (nY : Nat) (ry : Option FieldType) (na : Nat) : Prop := Cond.code y cy nY ry ∈ tb ∧ Cond.static y ∈ tb ∧ Cond.initialized y.cls ∈ tb ∧ y.cls ≠ "java/lang/invoke/MethodHandle" ∧ y.cls ≠ "java/lang/invoke/VarHandle" ∧ (parseMethodDescriptor y.desc).map (fun d => d.parameters.length) = some na
theorem blind (as : List Value) : FrameBlind (va_Pc as (fun U => KU G U ∧ RepH G E V U.heap)) := fun a U g mk h => ⟨h.1, h.2.1.same (s := U) rfl, h.2.2⟩
theorem r_callV {idx ci i na nY : Nat} {y : MethodName} {cy : ByteArray} {ry : Option FieldType} {rY : Room} {As rest : List Value} {Qc : Option Value → Et → Vt → Prop} (hd : decode cc pc = .ok (.invokevirtual idx, 3)) (hm : MV y cy nY ry na) (hlink : Cond.methodLink own idx y ∈ tb) (hcl : ∃ T N, cls[ci]? = some (y.cls, T, N)) (hlv : eL E ci i) (hrm : rY.frames + 1 ≤ rm.frames ∧ 8 + (nY + 11) + rY.locals ≤ rm.locals) (hcs : k + rY.cells ≤ rm.cells ∧ n + rY.slots ≤ rm.slots) (hna : As.length = na) (hst : st = As.reverse ++ .ref (eA E ci i) :: rest) (hcat : (rest.map fun v => v.category).sum ≤ 8)
    (hC : Cl l G y cy nY ry rY E V (.ref (eA E ci i) :: As) Qc) (kk : ∀ r E' V', Qc r E' V' → Ev l G own cc nL ret rm E' (k + rY.cells) (n + rY.slots) V' (pc + 3) ll (r.toList ++ rest) Q) : Ev l G own cc nL ret rm E k n V pc ll st Q := by
  intro p e s m args below meth c H locs ls C hR hL hl
  obtain ⟨hx, hb, hr, hml, ho, hts, hlk, hK⟩ := And.intro True.intro C |>.2
  obtain ⟨m1, m2, m3, m4, m5, m6, m7⟩ := hm
  obtain ⟨T, N, hq⟩ := hcl
  have hc : ci < 100 := Nat.lt_of_lt_of_le (List.getElem?_eq_some_iff.mp hq).1 (by decide)
  subst hst
  have hrecv : ∃ cellB : Cell, H[eA E ci i]? = some cellB ∧ cellB.vm.isStatics = false ∧ s.vm.findClass y.cls = some cellB.cls := by
    obtain ⟨q', h1, cell, g1, g2, g3, -⟩ := hR.ob hc hlv
    exact ⟨cell, g1, by rw [g3]; rfl, by rw [g2]; exact (hK.1.1 ci _ hq).2.1⟩
  have hcb : CallB rm s args own idx y cy nY ry (Cond.code y cy nY ry :: tb) rY rY.cells rY.slots na := callB_of na hts (tb_GoodIn m1) rfl rfl rfl (hts _ m4) (hts _ hlink) ⟨m5, m6, m7⟩ hrm
  have hrun := va_runV (e := e) (below := below) (meth := meth) (locs := locs) (g := F0 m pc ls (As.reverse ++ .ref (eA E ci i) :: rest)) (rest := rest) ⟨hx, hb, hml, ho, hts⟩ hC ⟨hcb, hts _ m2, hts _ m3⟩ ⟨blind _, hrecv, fun U hU hW => ⟨rfl, hK.warm hW, by rw [hU]; exact hR⟩⟩ rfl hna hl.1 rfl (lv_room hcat) hd hcs
  intro T0 hT0 X
  obtain ⟨v, st₀, t, T', L, z0, X', zL, z1, z2, ⟨r, E', V', w1, w2, w3⟩, z3⟩ := hrun T0 hT0 X
  cases w1
  obtain ⟨t2, a1, b1⟩ := kk v E' V' w2 p e s m args below meth c T'.heap (locs ++ L) ls C (by rw [z1]; exact w3) (fun q hq' => by
    rcases List.mem_append.mp hq' with h | h
    · exact hL q h
    · exact zL q h) hl T' rfl X'
  exact ⟨t2, z3 t2 a1, b1⟩
theorem r_callS {idx na nY : Nat} {y : MethodName} {cy : ByteArray} {ry : Option FieldType} {rY : Room} {As rest : List Value} {Qc : Option Value → Et → Vt → Prop} (hd : decode cc pc = .ok (.invokestatic idx, 3)) (hm : MS y cy nY ry na) (hlink : Cond.methodLink own idx y ∈ tb) (hrm : rY.frames + 1 ≤ rm.frames ∧ 8 + (nY + 11) + rY.locals ≤ rm.locals) (hcs : k + rY.cells ≤ rm.cells ∧ n + rY.slots ≤ rm.slots) (hna : As.length = na) (hst : st = As.reverse ++ rest) (hcat : (rest.map fun v => v.category).sum ≤ 8)
    (hC : Cl l G y cy nY ry rY E V As Qc) (kk : ∀ r E' V', Qc r E' V' → Ev l G own cc nL ret rm E' (k + rY.cells) (n + rY.slots) V' (pc + 3) ll (r.toList ++ rest) Q) : Ev l G own cc nL ret rm E k n V pc ll st Q := by
  intro p e s m args below meth c H locs ls C hR hL hl
  obtain ⟨hx, hb, hr, hml, ho, hts, hlk, hK⟩ := And.intro True.intro C |>.2
  obtain ⟨m1, m2, m4, m5, m6, m7⟩ := hm
  subst hst
  have hcb : CallB rm s args own idx y cy nY ry (Cond.code y cy nY ry :: tb) rY rY.cells rY.slots na := callB_of na hts (tb_GoodIn m1) rfl rfl rfl (hts _ m4) (hts _ hlink) ⟨m5, m6, m7⟩ hrm
  have hrun := va_runS (e := e) (below := below) (meth := meth) (locs := locs) (g := F0 m pc ls (As.reverse ++ rest)) (rest := rest) ⟨hx, hb, hml, ho, hts⟩ hC ⟨hcb, hts _ m2⟩ ⟨blind _, fun U hU hW => ⟨rfl, hK.warm hW, by rw [hU]; exact hR⟩⟩ rfl hna hl.1 rfl (lv_room hcat) hd hcs
  intro T0 hT0 X
  obtain ⟨v, st₀, t, T', L, z0, X', zL, z1, z2, ⟨r, E', V', w1, w2, w3⟩, z3⟩ := hrun T0 hT0 X
  cases w1
  obtain ⟨t2, a1, b1⟩ := kk v E' V' w2 p e s m args below meth c T'.heap (locs ++ L) ls C (by rw [z1]; exact w3) (fun q hq' => by
    rcases List.mem_append.mp hq' with h | h
    · exact hL q h
    · exact zL q h) hl T' rfl X'
  exact ⟨t2, z3 t2 a1, b1⟩
end Rows
end
section
set_option maxRecDepth 20000 in
theorem uw_X0 : ∀ w ∈ u_ws RX0 TX0 3, w ∈ tb := fun w h => tb_in ((show ∀ w ∈ u_ws RX0 TX0 3, w ∈ lw_tbl by decide +kernel) w h) ((show ∀ w ∈ u_ws RX0 TX0 3, goodWord w = true by decide +kernel) w h)
set_option maxRecDepth 20000 in
theorem uw_X1 : ∀ w ∈ u_ws RX1 TX1 3, w ∈ tb := fun w h => tb_in ((show ∀ w ∈ u_ws RX1 TX1 3, w ∈ lw_tbl by decide +kernel) w h) ((show ∀ w ∈ u_ws RX1 TX1 3, goodWord w = true by decide +kernel) w h)
set_option maxRecDepth 20000 in
theorem uw_X2 : ∀ w ∈ u_ws RX2 TX2 14, w ∈ tb := fun w h => tb_in ((show ∀ w ∈ u_ws RX2 TX2 14, w ∈ lw_tbl by decide +kernel) w h) ((show ∀ w ∈ u_ws RX2 TX2 14, goodWord w = true by decide +kernel) w h)
set_option maxRecDepth 20000 in
theorem uw_X3 : ∀ w ∈ u_ws RX3 TX3 7, w ∈ tb := fun w h => tb_in ((show ∀ w ∈ u_ws RX3 TX3 7, w ∈ lw_tbl by decide +kernel) w h) ((show ∀ w ∈ u_ws RX3 TX3 7, goodWord w = true by decide +kernel) w h)
set_option maxRecDepth 20000 in
theorem uw_X4 : ∀ w ∈ u_ws RX4 TX4 2, w ∈ tb := fun w h => tb_in ((show ∀ w ∈ u_ws RX4 TX4 2, w ∈ lw_tbl by decide +kernel) w h) ((show ∀ w ∈ u_ws RX4 TX4 2, goodWord w = true by decide +kernel) w h)
set_option maxRecDepth 20000 in
theorem uw_X5 : ∀ w ∈ u_ws RX5 TX5 2, w ∈ tb := fun w h => tb_in ((show ∀ w ∈ u_ws RX5 TX5 2, w ∈ lw_tbl by decide +kernel) w h) ((show ∀ w ∈ u_ws RX5 TX5 2, goodWord w = true by decide +kernel) w h)
set_option maxRecDepth 20000 in
theorem uw_X6 : ∀ w ∈ u_ws RX6 TX6 6, w ∈ tb := fun w h => tb_in ((show ∀ w ∈ u_ws RX6 TX6 6, w ∈ lw_tbl by decide +kernel) w h) ((show ∀ w ∈ u_ws RX6 TX6 6, goodWord w = true by decide +kernel) w h)
set_option maxRecDepth 20000 in
theorem uw_X7 : ∀ w ∈ u_ws RX7 TX7 1, w ∈ tb := fun w h => tb_in ((show ∀ w ∈ u_ws RX7 TX7 1, w ∈ lw_tbl by decide +kernel) w h) ((show ∀ w ∈ u_ws RX7 TX7 1, goodWord w = true by decide +kernel) w h)
set_option maxRecDepth 20000 in
theorem uw_X8 : ∀ w ∈ u_ws RX8 TX8 13, w ∈ tb := fun w h => tb_in ((show ∀ w ∈ u_ws RX8 TX8 13, w ∈ lw_tbl by decide +kernel) w h) ((show ∀ w ∈ u_ws RX8 TX8 13, goodWord w = true by decide +kernel) w h)
set_option maxRecDepth 20000 in
theorem uw_X9 : ∀ w ∈ u_ws RX9 TX9 47, w ∈ tb := fun w h => tb_in ((show ∀ w ∈ u_ws RX9 TX9 47, w ∈ lw_tbl by decide +kernel) w h) ((show ∀ w ∈ u_ws RX9 TX9 47, goodWord w = true by decide +kernel) w h)
theorem fl_RX0_9 : FL RX0 9 0 0 := ⟨(RX0, TX0, 3), rfl, by decide, tb_in (List.mem_of_getElem? (i := 121) (by decide +kernel)) rfl, uw_X0⟩
theorem fl_RX0_15 : FL RX0 15 0 1 := ⟨(RX0, TX0, 3), rfl, by decide, tb_in (List.mem_of_getElem? (i := 122) (by decide +kernel)) rfl, uw_X0⟩
theorem fp_RX0_15 : FP RX0 15 0 1 .int := ⟨(RX0, TX0, 3), tyX0, rfl, by decide, tb_in (List.mem_of_getElem? (i := 122) (by decide +kernel)) rfl, uw_X0, rfl, by decide +kernel, tyX0_ok, nmX0⟩
theorem fl_RX0_19 : FL RX0 19 0 2 := ⟨(RX0, TX0, 3), rfl, by decide, tb_in (List.mem_of_getElem? (i := 124) (by decide +kernel)) rfl, uw_X0⟩
theorem fl_RX1_7 : FL RX1 7 1 0 := ⟨(RX1, TX1, 3), rfl, by decide, tb_in (List.mem_of_getElem? (i := 704) (by decide +kernel)) rfl, uw_X1⟩
theorem fl_RX1_13 : FL RX1 13 1 1 := ⟨(RX1, TX1, 3), rfl, by decide, tb_in (List.mem_of_getElem? (i := 706) (by decide +kernel)) rfl, uw_X1⟩
theorem fl_RX1_17 : FL RX1 17 1 2 := ⟨(RX1, TX1, 3), rfl, by decide, tb_in (List.mem_of_getElem? (i := 708) (by decide +kernel)) rfl, uw_X1⟩
theorem fp_RX1_17 : FP RX1 17 1 2 .int := ⟨(RX1, TX1, 3), tyX1, rfl, by decide, tb_in (List.mem_of_getElem? (i := 708) (by decide +kernel)) rfl, uw_X1, rfl, by decide +kernel, tyX1_ok, nmX1⟩
theorem fl_RX2_10 : FL RX2 10 2 4 := ⟨(RX2, TX2, 14), rfl, by decide, tb_in (List.mem_of_getElem? (i := 253) (by decide +kernel)) rfl, uw_X2⟩
theorem fl_RX2_16 : FL RX2 16 2 5 := ⟨(RX2, TX2, 14), rfl, by decide, tb_in (List.mem_of_getElem? (i := 256) (by decide +kernel)) rfl, uw_X2⟩
theorem fl_RX2_19 : FL RX2 19 2 6 := ⟨(RX2, TX2, 14), rfl, by decide, tb_in (List.mem_of_getElem? (i := 260) (by decide +kernel)) rfl, uw_X2⟩
theorem fl_RX2_22 : FL RX2 22 2 7 := ⟨(RX2, TX2, 14), rfl, by decide, tb_in (List.mem_of_getElem? (i := 262) (by decide +kernel)) rfl, uw_X2⟩
theorem fl_RX2_25 : FL RX2 25 2 0 := ⟨(RX2, TX2, 14), rfl, by decide, tb_in (List.mem_of_getElem? (i := 242) (by decide +kernel)) rfl, uw_X2⟩
theorem fl_RX2_29 : FL RX2 29 2 1 := ⟨(RX2, TX2, 14), rfl, by decide, tb_in (List.mem_of_getElem? (i := 246) (by decide +kernel)) rfl, uw_X2⟩
theorem fl_RX2_32 : FL RX2 32 2 9 := ⟨(RX2, TX2, 14), rfl, by decide, tb_in (List.mem_of_getElem? (i := 267) (by decide +kernel)) rfl, uw_X2⟩
theorem fp_RX2_32 : FP RX2 32 2 9 .int := ⟨(RX2, TX2, 14), tyX2, rfl, by decide, tb_in (List.mem_of_getElem? (i := 267) (by decide +kernel)) rfl, uw_X2, rfl, by decide +kernel, tyX2_ok, nmX2⟩
theorem fl_RX2_35 : FL RX2 35 2 2 := ⟨(RX2, TX2, 14), rfl, by decide, tb_in (List.mem_of_getElem? (i := 248) (by decide +kernel)) rfl, uw_X2⟩
theorem fl_RX2_38 : FL RX2 38 2 3 := ⟨(RX2, TX2, 14), rfl, by decide, tb_in (List.mem_of_getElem? (i := 251) (by decide +kernel)) rfl, uw_X2⟩
theorem fl_RX2_41 : FL RX2 41 2 10 := ⟨(RX2, TX2, 14), rfl, by decide, tb_in (List.mem_of_getElem? (i := 270) (by decide +kernel)) rfl, uw_X2⟩
theorem fp_RX2_41 : FP RX2 41 2 10 .int := ⟨(RX2, TX2, 14), tyX2, rfl, by decide, tb_in (List.mem_of_getElem? (i := 270) (by decide +kernel)) rfl, uw_X2, rfl, by decide +kernel, tyX2_ok, nmX2⟩
theorem fl_RX2_48 : FL RX2 48 2 13 := ⟨(RX2, TX2, 14), rfl, by decide, tb_in (List.mem_of_getElem? (i := 280) (by decide +kernel)) rfl, uw_X2⟩
theorem fl_RX2_52 : FL RX2 52 2 11 := ⟨(RX2, TX2, 14), rfl, by decide, tb_in (List.mem_of_getElem? (i := 275) (by decide +kernel)) rfl, uw_X2⟩
theorem fp_RX2_52 : FP RX2 52 2 11 .int := ⟨(RX2, TX2, 14), tyX2, rfl, by decide, tb_in (List.mem_of_getElem? (i := 275) (by decide +kernel)) rfl, uw_X2, rfl, by decide +kernel, tyX2_ok, nmX2⟩
theorem fl_RX2_55 : FL RX2 55 2 8 := ⟨(RX2, TX2, 14), rfl, by decide, tb_in (List.mem_of_getElem? (i := 266) (by decide +kernel)) rfl, uw_X2⟩
theorem fl_RX3_11 : FL RX3 11 3 0 := ⟨(RX3, TX3, 7), rfl, by decide, tb_in (List.mem_of_getElem? (i := 74) (by decide +kernel)) rfl, uw_X3⟩
theorem fl_RX3_17 : FL RX3 17 3 1 := ⟨(RX3, TX3, 7), rfl, by decide, tb_in (List.mem_of_getElem? (i := 75) (by decide +kernel)) rfl, uw_X3⟩
theorem fl_RX3_21 : FL RX3 21 3 2 := ⟨(RX3, TX3, 7), rfl, by decide, tb_in (List.mem_of_getElem? (i := 76) (by decide +kernel)) rfl, uw_X3⟩
theorem fl_RX3_24 : FL RX3 24 3 3 := ⟨(RX3, TX3, 7), rfl, by decide, tb_in (List.mem_of_getElem? (i := 77) (by decide +kernel)) rfl, uw_X3⟩
theorem fl_RX3_27 : FL RX3 27 3 4 := ⟨(RX3, TX3, 7), rfl, by decide, tb_in (List.mem_of_getElem? (i := 78) (by decide +kernel)) rfl, uw_X3⟩
theorem fl_RX3_30 : FL RX3 30 3 5 := ⟨(RX3, TX3, 7), rfl, by decide, tb_in (List.mem_of_getElem? (i := 79) (by decide +kernel)) rfl, uw_X3⟩
theorem fp_RX3_30 : FP RX3 30 3 5 .int := ⟨(RX3, TX3, 7), tyX3, rfl, by decide, tb_in (List.mem_of_getElem? (i := 79) (by decide +kernel)) rfl, uw_X3, rfl, by decide +kernel, tyX3_ok, nmX3⟩
theorem fl_RX3_46 : FL RX3 46 2 8 := ⟨(RX2, TX2, 14), rfl, by decide, tb_in (List.mem_of_getElem? (i := 265) (by decide +kernel)) rfl, uw_X2⟩
theorem fp_RX3_46 : FP RX3 46 2 8 .int := ⟨(RX2, TX2, 14), tyX2, rfl, by decide, tb_in (List.mem_of_getElem? (i := 265) (by decide +kernel)) rfl, uw_X2, rfl, by decide +kernel, tyX2_ok, nmX2⟩
theorem fl_RX3_49 : FL RX3 49 3 6 := ⟨(RX3, TX3, 7), rfl, by decide, tb_in (List.mem_of_getElem? (i := 83) (by decide +kernel)) rfl, uw_X3⟩
theorem fp_RX3_49 : FP RX3 49 3 6 .int := ⟨(RX3, TX3, 7), tyX3, rfl, by decide, tb_in (List.mem_of_getElem? (i := 83) (by decide +kernel)) rfl, uw_X3, rfl, by decide +kernel, tyX3_ok, nmX3⟩
theorem fl_RX3_56 : FL RX3 56 2 1 := ⟨(RX2, TX2, 14), rfl, by decide, tb_in (List.mem_of_getElem? (i := 247) (by decide +kernel)) rfl, uw_X2⟩
theorem fl_RX3_59 : FL RX3 59 2 5 := ⟨(RX2, TX2, 14), rfl, by decide, tb_in (List.mem_of_getElem? (i := 258) (by decide +kernel)) rfl, uw_X2⟩
theorem fl_RX3_72 : FL RX3 72 2 11 := ⟨(RX2, TX2, 14), rfl, by decide, tb_in (List.mem_of_getElem? (i := 276) (by decide +kernel)) rfl, uw_X2⟩
theorem fp_RX3_72 : FP RX3 72 2 11 .int := ⟨(RX2, TX2, 14), tyX2, rfl, by decide, tb_in (List.mem_of_getElem? (i := 276) (by decide +kernel)) rfl, uw_X2, rfl, by decide +kernel, tyX2_ok, nmX2⟩
theorem fl_RX3_78 : FL RX3 78 2 10 := ⟨(RX2, TX2, 14), rfl, by decide, tb_in (List.mem_of_getElem? (i := 274) (by decide +kernel)) rfl, uw_X2⟩
theorem fl_RX4_17 : FL RX4 17 4 0 := ⟨(RX4, TX4, 2), rfl, by decide, tb_in (List.mem_of_getElem? (i := 176) (by decide +kernel)) rfl, uw_X4⟩
theorem fl_RX4_23 : FL RX4 23 4 1 := ⟨(RX4, TX4, 2), rfl, by decide, tb_in (List.mem_of_getElem? (i := 177) (by decide +kernel)) rfl, uw_X4⟩
theorem fl_RX4_26 : FL RX4 26 2 0 := ⟨(RX2, TX2, 14), rfl, by decide, tb_in (List.mem_of_getElem? (i := 243) (by decide +kernel)) rfl, uw_X2⟩
theorem fl_RX4_32 : FL RX4 32 2 10 := ⟨(RX2, TX2, 14), rfl, by decide, tb_in (List.mem_of_getElem? (i := 272) (by decide +kernel)) rfl, uw_X2⟩
theorem fl_RX4_35 : FL RX4 35 2 9 := ⟨(RX2, TX2, 14), rfl, by decide, tb_in (List.mem_of_getElem? (i := 268) (by decide +kernel)) rfl, uw_X2⟩
theorem fl_RX4_38 : FL RX4 38 1 1 := ⟨(RX1, TX1, 3), rfl, by decide, tb_in (List.mem_of_getElem? (i := 707) (by decide +kernel)) rfl, uw_X1⟩
theorem fl_RX4_48 : FL RX4 48 7 0 := ⟨(RX7, TX7, 1), rfl, by decide, tb_in (List.mem_of_getElem? (i := 695) (by decide +kernel)) rfl, uw_X7⟩
theorem fl_RX5_9 : FL RX5 9 5 0 := ⟨(RX5, TX5, 2), rfl, by decide, tb_in (List.mem_of_getElem? (i := 106) (by decide +kernel)) rfl, uw_X5⟩
theorem fl_RX5_15 : FL RX5 15 5 1 := ⟨(RX5, TX5, 2), rfl, by decide, tb_in (List.mem_of_getElem? (i := 108) (by decide +kernel)) rfl, uw_X5⟩
theorem fl_RX5_24 : FL RX5 24 3 5 := ⟨(RX3, TX3, 7), rfl, by decide, tb_in (List.mem_of_getElem? (i := 81) (by decide +kernel)) rfl, uw_X3⟩
theorem fl_RX5_34 : FL RX5 34 2 10 := ⟨(RX2, TX2, 14), rfl, by decide, tb_in (List.mem_of_getElem? (i := 271) (by decide +kernel)) rfl, uw_X2⟩
theorem fl_RX5_39 : FL RX5 39 2 2 := ⟨(RX2, TX2, 14), rfl, by decide, tb_in (List.mem_of_getElem? (i := 249) (by decide +kernel)) rfl, uw_X2⟩
theorem fl_RX5_53 : FL RX5 53 2 8 := ⟨(RX2, TX2, 14), rfl, by decide, tb_in (List.mem_of_getElem? (i := 263) (by decide +kernel)) rfl, uw_X2⟩
theorem fl_RX5_56 : FL RX5 56 2 5 := ⟨(RX2, TX2, 14), rfl, by decide, tb_in (List.mem_of_getElem? (i := 257) (by decide +kernel)) rfl, uw_X2⟩
theorem fl_RX5_63 : FL RX5 63 2 0 := ⟨(RX2, TX2, 14), rfl, by decide, tb_in (List.mem_of_getElem? (i := 244) (by decide +kernel)) rfl, uw_X2⟩
theorem fl_RX5_69 : FL RX5 69 2 4 := ⟨(RX2, TX2, 14), rfl, by decide, tb_in (List.mem_of_getElem? (i := 254) (by decide +kernel)) rfl, uw_X2⟩
theorem fl_RX5_82 : FL RX5 82 2 12 := ⟨(RX2, TX2, 14), rfl, by decide, tb_in (List.mem_of_getElem? (i := 278) (by decide +kernel)) rfl, uw_X2⟩
theorem fl_RX6_9 : FL RX6 9 6 0 := ⟨(RX6, TX6, 6), rfl, by decide, tb_in (List.mem_of_getElem? (i := 139) (by decide +kernel)) rfl, uw_X6⟩
theorem fl_RX6_15 : FL RX6 15 6 1 := ⟨(RX6, TX6, 6), rfl, by decide, tb_in (List.mem_of_getElem? (i := 140) (by decide +kernel)) rfl, uw_X6⟩
theorem fl_RX6_18 : FL RX6 18 6 2 := ⟨(RX6, TX6, 6), rfl, by decide, tb_in (List.mem_of_getElem? (i := 141) (by decide +kernel)) rfl, uw_X6⟩
theorem fl_RX6_21 : FL RX6 21 6 3 := ⟨(RX6, TX6, 6), rfl, by decide, tb_in (List.mem_of_getElem? (i := 142) (by decide +kernel)) rfl, uw_X6⟩
theorem fp_RX6_21 : FP RX6 21 6 3 .int := ⟨(RX6, TX6, 6), tyX6, rfl, by decide, tb_in (List.mem_of_getElem? (i := 142) (by decide +kernel)) rfl, uw_X6, rfl, by decide +kernel, tyX6_ok, nmX6⟩
theorem fl_RX6_27 : FL RX6 27 6 4 := ⟨(RX6, TX6, 6), rfl, by decide, tb_in (List.mem_of_getElem? (i := 144) (by decide +kernel)) rfl, uw_X6⟩
theorem fp_RX6_27 : FP RX6 27 6 4 .int := ⟨(RX6, TX6, 6), tyX6, rfl, by decide, tb_in (List.mem_of_getElem? (i := 144) (by decide +kernel)) rfl, uw_X6, rfl, by decide +kernel, tyX6_ok, nmX6⟩
theorem fl_RX6_39 : FL RX6 39 6 5 := ⟨(RX6, TX6, 6), rfl, by decide, tb_in (List.mem_of_getElem? (i := 145) (by decide +kernel)) rfl, uw_X6⟩
theorem fp_RX6_39 : FP RX6 39 6 5 .int := ⟨(RX6, TX6, 6), tyX6, rfl, by decide, tb_in (List.mem_of_getElem? (i := 145) (by decide +kernel)) rfl, uw_X6, rfl, by decide +kernel, tyX6_ok, nmX6⟩
theorem fl_RX7_7 : FL RX7 7 7 0 := ⟨(RX7, TX7, 1), rfl, by decide, tb_in (List.mem_of_getElem? (i := 694) (by decide +kernel)) rfl, uw_X7⟩
theorem fl_RX8_10 : FL RX8 10 8 0 := ⟨(RX8, TX8, 13), rfl, by decide, tb_in (List.mem_of_getElem? (i := 188) (by decide +kernel)) rfl, uw_X8⟩
theorem fl_RX8_19 : FL RX8 19 8 1 := ⟨(RX8, TX8, 13), rfl, by decide, tb_in (List.mem_of_getElem? (i := 189) (by decide +kernel)) rfl, uw_X8⟩
theorem fl_RX8_26 : FL RX8 26 8 2 := ⟨(RX8, TX8, 13), rfl, by decide, tb_in (List.mem_of_getElem? (i := 190) (by decide +kernel)) rfl, uw_X8⟩
theorem fl_RX8_33 : FL RX8 33 8 3 := ⟨(RX8, TX8, 13), rfl, by decide, tb_in (List.mem_of_getElem? (i := 191) (by decide +kernel)) rfl, uw_X8⟩
theorem fl_RX8_40 : FL RX8 40 8 4 := ⟨(RX8, TX8, 13), rfl, by decide, tb_in (List.mem_of_getElem? (i := 192) (by decide +kernel)) rfl, uw_X8⟩
theorem fl_RX8_46 : FL RX8 46 8 5 := ⟨(RX8, TX8, 13), rfl, by decide, tb_in (List.mem_of_getElem? (i := 193) (by decide +kernel)) rfl, uw_X8⟩
theorem fl_RX8_52 : FL RX8 52 8 6 := ⟨(RX8, TX8, 13), rfl, by decide, tb_in (List.mem_of_getElem? (i := 194) (by decide +kernel)) rfl, uw_X8⟩
theorem fl_RX8_56 : FL RX8 56 8 7 := ⟨(RX8, TX8, 13), rfl, by decide, tb_in (List.mem_of_getElem? (i := 195) (by decide +kernel)) rfl, uw_X8⟩
theorem fl_RX8_60 : FL RX8 60 8 8 := ⟨(RX8, TX8, 13), rfl, by decide, tb_in (List.mem_of_getElem? (i := 196) (by decide +kernel)) rfl, uw_X8⟩
theorem fl_RX8_67 : FL RX8 67 3 5 := ⟨(RX3, TX3, 7), rfl, by decide, tb_in (List.mem_of_getElem? (i := 80) (by decide +kernel)) rfl, uw_X3⟩
theorem fl_RX8_88 : FL RX8 88 2 8 := ⟨(RX2, TX2, 14), rfl, by decide, tb_in (List.mem_of_getElem? (i := 264) (by decide +kernel)) rfl, uw_X2⟩
theorem fp_RX8_88 : FP RX8 88 2 8 .int := ⟨(RX2, TX2, 14), tyX2, rfl, by decide, tb_in (List.mem_of_getElem? (i := 264) (by decide +kernel)) rfl, uw_X2, rfl, by decide +kernel, tyX2_ok, nmX2⟩
theorem fl_RX8_95 : FL RX8 95 2 0 := ⟨(RX2, TX2, 14), rfl, by decide, tb_in (List.mem_of_getElem? (i := 245) (by decide +kernel)) rfl, uw_X2⟩
theorem fl_RX8_102 : FL RX8 102 3 6 := ⟨(RX3, TX3, 7), rfl, by decide, tb_in (List.mem_of_getElem? (i := 82) (by decide +kernel)) rfl, uw_X3⟩
theorem fl_RX8_109 : FL RX8 109 2 9 := ⟨(RX2, TX2, 14), rfl, by decide, tb_in (List.mem_of_getElem? (i := 269) (by decide +kernel)) rfl, uw_X2⟩
theorem fp_RX8_109 : FP RX8 109 2 9 .int := ⟨(RX2, TX2, 14), tyX2, rfl, by decide, tb_in (List.mem_of_getElem? (i := 269) (by decide +kernel)) rfl, uw_X2, rfl, by decide +kernel, tyX2_ok, nmX2⟩
theorem fl_RX8_122 : FL RX8 122 2 4 := ⟨(RX2, TX2, 14), rfl, by decide, tb_in (List.mem_of_getElem? (i := 255) (by decide +kernel)) rfl, uw_X2⟩
theorem fl_RX8_136 : FL RX8 136 0 1 := ⟨(RX0, TX0, 3), rfl, by decide, tb_in (List.mem_of_getElem? (i := 123) (by decide +kernel)) rfl, uw_X0⟩
theorem fl_RX8_143 : FL RX8 143 8 11 := ⟨(RX8, TX8, 13), rfl, by decide, tb_in (List.mem_of_getElem? (i := 199) (by decide +kernel)) rfl, uw_X8⟩
theorem fp_RX8_143 : FP RX8 143 8 11 .int := ⟨(RX8, TX8, 13), tyX8, rfl, by decide, tb_in (List.mem_of_getElem? (i := 199) (by decide +kernel)) rfl, uw_X8, rfl, by decide +kernel, tyX8_ok, nmX8⟩
theorem fl_RX8_146 : FL RX8 146 2 10 := ⟨(RX2, TX2, 14), rfl, by decide, tb_in (List.mem_of_getElem? (i := 273) (by decide +kernel)) rfl, uw_X2⟩
theorem fp_RX8_146 : FP RX8 146 2 10 .int := ⟨(RX2, TX2, 14), tyX2, rfl, by decide, tb_in (List.mem_of_getElem? (i := 273) (by decide +kernel)) rfl, uw_X2, rfl, by decide +kernel, tyX2_ok, nmX2⟩
theorem fl_RX8_158 : FL RX8 158 2 11 := ⟨(RX2, TX2, 14), rfl, by decide, tb_in (List.mem_of_getElem? (i := 277) (by decide +kernel)) rfl, uw_X2⟩
theorem fl_RX8_161 : FL RX8 161 2 13 := ⟨(RX2, TX2, 14), rfl, by decide, tb_in (List.mem_of_getElem? (i := 281) (by decide +kernel)) rfl, uw_X2⟩
theorem fp_RX8_161 : FP RX8 161 2 13 .boolean := ⟨(RX2, TX2, 14), tyX2, rfl, by decide, tb_in (List.mem_of_getElem? (i := 281) (by decide +kernel)) rfl, uw_X2, rfl, by decide +kernel, tyX2_ok, nmX2⟩
theorem fl_RX8_166 : FL RX8 166 2 12 := ⟨(RX2, TX2, 14), rfl, by decide, tb_in (List.mem_of_getElem? (i := 279) (by decide +kernel)) rfl, uw_X2⟩
theorem fp_RX8_166 : FP RX8 166 2 12 .int := ⟨(RX2, TX2, 14), tyX2, rfl, by decide, tb_in (List.mem_of_getElem? (i := 279) (by decide +kernel)) rfl, uw_X2, rfl, by decide +kernel, tyX2_ok, nmX2⟩
theorem fl_RX8_176 : FL RX8 176 0 2 := ⟨(RX0, TX0, 3), rfl, by decide, tb_in (List.mem_of_getElem? (i := 125) (by decide +kernel)) rfl, uw_X0⟩
theorem fp_RX8_176 : FP RX8 176 0 2 .int := ⟨(RX0, TX0, 3), tyX0, rfl, by decide, tb_in (List.mem_of_getElem? (i := 125) (by decide +kernel)) rfl, uw_X0, rfl, by decide +kernel, tyX0_ok, nmX0⟩
theorem fl_RX8_186 : FL RX8 186 6 3 := ⟨(RX6, TX6, 6), rfl, by decide, tb_in (List.mem_of_getElem? (i := 143) (by decide +kernel)) rfl, uw_X6⟩
theorem fp_RX8_186 : FP RX8 186 6 3 .int := ⟨(RX6, TX6, 6), tyX6, rfl, by decide, tb_in (List.mem_of_getElem? (i := 143) (by decide +kernel)) rfl, uw_X6, rfl, by decide +kernel, tyX6_ok, nmX6⟩
theorem fl_RX8_194 : FL RX8 194 8 9 := ⟨(RX8, TX8, 13), rfl, by decide, tb_in (List.mem_of_getElem? (i := 197) (by decide +kernel)) rfl, uw_X8⟩
theorem fp_RX8_194 : FP RX8 194 8 9 .int := ⟨(RX8, TX8, 13), tyX8, rfl, by decide, tb_in (List.mem_of_getElem? (i := 197) (by decide +kernel)) rfl, uw_X8, rfl, by decide +kernel, tyX8_ok, nmX8⟩
theorem fl_RX8_208 : FL RX8 208 8 10 := ⟨(RX8, TX8, 13), rfl, by decide, tb_in (List.mem_of_getElem? (i := 198) (by decide +kernel)) rfl, uw_X8⟩
theorem fp_RX8_208 : FP RX8 208 8 10 .int := ⟨(RX8, TX8, 13), tyX8, rfl, by decide, tb_in (List.mem_of_getElem? (i := 198) (by decide +kernel)) rfl, uw_X8, rfl, by decide +kernel, tyX8_ok, nmX8⟩
theorem fl_RX8_240 : FL RX8 240 2 2 := ⟨(RX2, TX2, 14), rfl, by decide, tb_in (List.mem_of_getElem? (i := 250) (by decide +kernel)) rfl, uw_X2⟩
theorem fl_RX8_243 : FL RX8 243 2 3 := ⟨(RX2, TX2, 14), rfl, by decide, tb_in (List.mem_of_getElem? (i := 252) (by decide +kernel)) rfl, uw_X2⟩
theorem fl_RX8_246 : FL RX8 246 2 5 := ⟨(RX2, TX2, 14), rfl, by decide, tb_in (List.mem_of_getElem? (i := 259) (by decide +kernel)) rfl, uw_X2⟩
theorem fl_RX8_249 : FL RX8 249 2 6 := ⟨(RX2, TX2, 14), rfl, by decide, tb_in (List.mem_of_getElem? (i := 261) (by decide +kernel)) rfl, uw_X2⟩
theorem fl_RX8_252 : FL RX8 252 1 2 := ⟨(RX1, TX1, 3), rfl, by decide, tb_in (List.mem_of_getElem? (i := 709) (by decide +kernel)) rfl, uw_X1⟩
theorem fp_RX8_252 : FP RX8 252 1 2 .int := ⟨(RX1, TX1, 3), tyX1, rfl, by decide, tb_in (List.mem_of_getElem? (i := 709) (by decide +kernel)) rfl, uw_X1, rfl, by decide +kernel, tyX1_ok, nmX1⟩
theorem fl_RX8_255 : FL RX8 255 1 0 := ⟨(RX1, TX1, 3), rfl, by decide, tb_in (List.mem_of_getElem? (i := 705) (by decide +kernel)) rfl, uw_X1⟩
theorem fl_RX8_293 : FL RX8 293 8 12 := ⟨(RX8, TX8, 13), rfl, by decide, tb_in (List.mem_of_getElem? (i := 200) (by decide +kernel)) rfl, uw_X8⟩
theorem fp_RX8_293 : FP RX8 293 8 12 .int := ⟨(RX8, TX8, 13), tyX8, rfl, by decide, tb_in (List.mem_of_getElem? (i := 200) (by decide +kernel)) rfl, uw_X8, rfl, by decide +kernel, tyX8_ok, nmX8⟩
theorem fl_RX8_304 : FL RX8 304 5 0 := ⟨(RX5, TX5, 2), rfl, by decide, tb_in (List.mem_of_getElem? (i := 107) (by decide +kernel)) rfl, uw_X5⟩
theorem fl_RX8_307 : FL RX8 307 5 1 := ⟨(RX5, TX5, 2), rfl, by decide, tb_in (List.mem_of_getElem? (i := 109) (by decide +kernel)) rfl, uw_X5⟩
theorem fl_RX9_7 : FL RX9 7 9 2 := ⟨(RX9, TX9, 47), rfl, by decide, tb_in (List.mem_of_getElem? (i := 803) (by decide +kernel)) rfl, uw_X9⟩
theorem fl_RX9_13 : FL RX9 13 9 3 := ⟨(RX9, TX9, 47), rfl, by decide, tb_in (List.mem_of_getElem? (i := 804) (by decide +kernel)) rfl, uw_X9⟩
theorem fl_RX9_16 : FL RX9 16 9 4 := ⟨(RX9, TX9, 47), rfl, by decide, tb_in (List.mem_of_getElem? (i := 805) (by decide +kernel)) rfl, uw_X9⟩
theorem fl_RX9_19 : FL RX9 19 9 5 := ⟨(RX9, TX9, 47), rfl, by decide, tb_in (List.mem_of_getElem? (i := 806) (by decide +kernel)) rfl, uw_X9⟩
theorem fl_RX9_22 : FL RX9 22 9 6 := ⟨(RX9, TX9, 47), rfl, by decide, tb_in (List.mem_of_getElem? (i := 807) (by decide +kernel)) rfl, uw_X9⟩
theorem fl_RX9_25 : FL RX9 25 9 7 := ⟨(RX9, TX9, 47), rfl, by decide, tb_in (List.mem_of_getElem? (i := 808) (by decide +kernel)) rfl, uw_X9⟩
theorem fl_RX9_28 : FL RX9 28 9 8 := ⟨(RX9, TX9, 47), rfl, by decide, tb_in (List.mem_of_getElem? (i := 809) (by decide +kernel)) rfl, uw_X9⟩
theorem fl_RX9_31 : FL RX9 31 9 9 := ⟨(RX9, TX9, 47), rfl, by decide, tb_in (List.mem_of_getElem? (i := 810) (by decide +kernel)) rfl, uw_X9⟩
theorem fl_RX9_34 : FL RX9 34 9 10 := ⟨(RX9, TX9, 47), rfl, by decide, tb_in (List.mem_of_getElem? (i := 811) (by decide +kernel)) rfl, uw_X9⟩
theorem fl_RX9_37 : FL RX9 37 9 11 := ⟨(RX9, TX9, 47), rfl, by decide, tb_in (List.mem_of_getElem? (i := 812) (by decide +kernel)) rfl, uw_X9⟩
theorem fl_RX9_40 : FL RX9 40 9 12 := ⟨(RX9, TX9, 47), rfl, by decide, tb_in (List.mem_of_getElem? (i := 813) (by decide +kernel)) rfl, uw_X9⟩
theorem fl_RX9_43 : FL RX9 43 9 13 := ⟨(RX9, TX9, 47), rfl, by decide, tb_in (List.mem_of_getElem? (i := 814) (by decide +kernel)) rfl, uw_X9⟩
theorem fl_RX9_46 : FL RX9 46 9 14 := ⟨(RX9, TX9, 47), rfl, by decide, tb_in (List.mem_of_getElem? (i := 815) (by decide +kernel)) rfl, uw_X9⟩
theorem fl_RX9_50 : FL RX9 50 9 15 := ⟨(RX9, TX9, 47), rfl, by decide, tb_in (List.mem_of_getElem? (i := 816) (by decide +kernel)) rfl, uw_X9⟩
theorem fl_RX9_53 : FL RX9 53 9 16 := ⟨(RX9, TX9, 47), rfl, by decide, tb_in (List.mem_of_getElem? (i := 817) (by decide +kernel)) rfl, uw_X9⟩
theorem fl_RX9_56 : FL RX9 56 9 17 := ⟨(RX9, TX9, 47), rfl, by decide, tb_in (List.mem_of_getElem? (i := 818) (by decide +kernel)) rfl, uw_X9⟩
theorem fl_RX9_59 : FL RX9 59 9 22 := ⟨(RX9, TX9, 47), rfl, by decide, tb_in (List.mem_of_getElem? (i := 823) (by decide +kernel)) rfl, uw_X9⟩
theorem fl_RX9_63 : FL RX9 63 9 23 := ⟨(RX9, TX9, 47), rfl, by decide, tb_in (List.mem_of_getElem? (i := 824) (by decide +kernel)) rfl, uw_X9⟩
theorem fl_RX9_66 : FL RX9 66 9 25 := ⟨(RX9, TX9, 47), rfl, by decide, tb_in (List.mem_of_getElem? (i := 826) (by decide +kernel)) rfl, uw_X9⟩
theorem fl_RX9_69 : FL RX9 69 9 26 := ⟨(RX9, TX9, 47), rfl, by decide, tb_in (List.mem_of_getElem? (i := 827) (by decide +kernel)) rfl, uw_X9⟩
theorem fl_RX9_72 : FL RX9 72 9 27 := ⟨(RX9, TX9, 47), rfl, by decide, tb_in (List.mem_of_getElem? (i := 828) (by decide +kernel)) rfl, uw_X9⟩
theorem fl_RX9_75 : FL RX9 75 9 28 := ⟨(RX9, TX9, 47), rfl, by decide, tb_in (List.mem_of_getElem? (i := 829) (by decide +kernel)) rfl, uw_X9⟩
theorem fl_RX9_78 : FL RX9 78 9 29 := ⟨(RX9, TX9, 47), rfl, by decide, tb_in (List.mem_of_getElem? (i := 830) (by decide +kernel)) rfl, uw_X9⟩
theorem fl_RX9_81 : FL RX9 81 9 30 := ⟨(RX9, TX9, 47), rfl, by decide, tb_in (List.mem_of_getElem? (i := 831) (by decide +kernel)) rfl, uw_X9⟩
theorem fl_RX9_85 : FL RX9 85 9 33 := ⟨(RX9, TX9, 47), rfl, by decide, tb_in (List.mem_of_getElem? (i := 834) (by decide +kernel)) rfl, uw_X9⟩
theorem fl_RX9_88 : FL RX9 88 9 34 := ⟨(RX9, TX9, 47), rfl, by decide, tb_in (List.mem_of_getElem? (i := 835) (by decide +kernel)) rfl, uw_X9⟩
theorem fl_RX9_91 : FL RX9 91 9 36 := ⟨(RX9, TX9, 47), rfl, by decide, tb_in (List.mem_of_getElem? (i := 837) (by decide +kernel)) rfl, uw_X9⟩
theorem fl_RX9_94 : FL RX9 94 9 37 := ⟨(RX9, TX9, 47), rfl, by decide, tb_in (List.mem_of_getElem? (i := 838) (by decide +kernel)) rfl, uw_X9⟩
theorem fl_RX9_97 : FL RX9 97 9 39 := ⟨(RX9, TX9, 47), rfl, by decide, tb_in (List.mem_of_getElem? (i := 840) (by decide +kernel)) rfl, uw_X9⟩
theorem fl_RX9_100 : FL RX9 100 9 40 := ⟨(RX9, TX9, 47), rfl, by decide, tb_in (List.mem_of_getElem? (i := 841) (by decide +kernel)) rfl, uw_X9⟩
theorem fl_RX9_103 : FL RX9 103 9 41 := ⟨(RX9, TX9, 47), rfl, by decide, tb_in (List.mem_of_getElem? (i := 842) (by decide +kernel)) rfl, uw_X9⟩
theorem fl_RX9_106 : FL RX9 106 9 43 := ⟨(RX9, TX9, 47), rfl, by decide, tb_in (List.mem_of_getElem? (i := 844) (by decide +kernel)) rfl, uw_X9⟩
theorem fl_RX9_109 : FL RX9 109 9 44 := ⟨(RX9, TX9, 47), rfl, by decide, tb_in (List.mem_of_getElem? (i := 845) (by decide +kernel)) rfl, uw_X9⟩
theorem fl_RX9_112 : FL RX9 112 9 45 := ⟨(RX9, TX9, 47), rfl, by decide, tb_in (List.mem_of_getElem? (i := 846) (by decide +kernel)) rfl, uw_X9⟩
theorem fl_RX9_115 : FL RX9 115 9 46 := ⟨(RX9, TX9, 47), rfl, by decide, tb_in (List.mem_of_getElem? (i := 847) (by decide +kernel)) rfl, uw_X9⟩
theorem fl_RX9_122 : FL RX9 122 9 1 := ⟨(RX9, TX9, 47), rfl, by decide, tb_in (List.mem_of_getElem? (i := 802) (by decide +kernel)) rfl, uw_X9⟩
theorem fp_RX9_122 : FP RX9 122 9 1 .int := ⟨(RX9, TX9, 47), tyX9, rfl, by decide, tb_in (List.mem_of_getElem? (i := 802) (by decide +kernel)) rfl, uw_X9, rfl, by decide +kernel, tyX9_ok, nmX9⟩
theorem fl_RX9_145 : FL RX9 145 9 24 := ⟨(RX9, TX9, 47), rfl, by decide, tb_in (List.mem_of_getElem? (i := 825) (by decide +kernel)) rfl, uw_X9⟩
theorem fp_RX9_145 : FP RX9 145 9 24 .int := ⟨(RX9, TX9, 47), tyX9, rfl, by decide, tb_in (List.mem_of_getElem? (i := 825) (by decide +kernel)) rfl, uw_X9, rfl, by decide +kernel, tyX9_ok, nmX9⟩
theorem fl_RX9_169 : FL RX9 169 9 31 := ⟨(RX9, TX9, 47), rfl, by decide, tb_in (List.mem_of_getElem? (i := 832) (by decide +kernel)) rfl, uw_X9⟩
theorem fp_RX9_169 : FP RX9 169 9 31 .int := ⟨(RX9, TX9, 47), tyX9, rfl, by decide, tb_in (List.mem_of_getElem? (i := 832) (by decide +kernel)) rfl, uw_X9, rfl, by decide +kernel, tyX9_ok, nmX9⟩
theorem fl_RX9_172 : FL RX9 172 9 35 := ⟨(RX9, TX9, 47), rfl, by decide, tb_in (List.mem_of_getElem? (i := 836) (by decide +kernel)) rfl, uw_X9⟩
theorem fp_RX9_172 : FP RX9 172 9 35 .int := ⟨(RX9, TX9, 47), tyX9, rfl, by decide, tb_in (List.mem_of_getElem? (i := 836) (by decide +kernel)) rfl, uw_X9, rfl, by decide +kernel, tyX9_ok, nmX9⟩
theorem fl_RX9_175 : FL RX9 175 9 32 := ⟨(RX9, TX9, 47), rfl, by decide, tb_in (List.mem_of_getElem? (i := 833) (by decide +kernel)) rfl, uw_X9⟩
theorem fp_RX9_175 : FP RX9 175 9 32 .int := ⟨(RX9, TX9, 47), tyX9, rfl, by decide, tb_in (List.mem_of_getElem? (i := 833) (by decide +kernel)) rfl, uw_X9, rfl, by decide +kernel, tyX9_ok, nmX9⟩
theorem fl_RX9_191 : FL RX9 191 9 21 := ⟨(RX9, TX9, 47), rfl, by decide, tb_in (List.mem_of_getElem? (i := 822) (by decide +kernel)) rfl, uw_X9⟩
theorem fp_RX9_191 : FP RX9 191 9 21 .int := ⟨(RX9, TX9, 47), tyX9, rfl, by decide, tb_in (List.mem_of_getElem? (i := 822) (by decide +kernel)) rfl, uw_X9, rfl, by decide +kernel, tyX9_ok, nmX9⟩
theorem fl_RX9_194 : FL RX9 194 9 18 := ⟨(RX9, TX9, 47), rfl, by decide, tb_in (List.mem_of_getElem? (i := 819) (by decide +kernel)) rfl, uw_X9⟩
theorem fp_RX9_194 : FP RX9 194 9 18 .int := ⟨(RX9, TX9, 47), tyX9, rfl, by decide, tb_in (List.mem_of_getElem? (i := 819) (by decide +kernel)) rfl, uw_X9, rfl, by decide +kernel, tyX9_ok, nmX9⟩
theorem fl_RX9_200 : FL RX9 200 9 19 := ⟨(RX9, TX9, 47), rfl, by decide, tb_in (List.mem_of_getElem? (i := 820) (by decide +kernel)) rfl, uw_X9⟩
theorem fp_RX9_200 : FP RX9 200 9 19 .int := ⟨(RX9, TX9, 47), tyX9, rfl, by decide, tb_in (List.mem_of_getElem? (i := 820) (by decide +kernel)) rfl, uw_X9, rfl, by decide +kernel, tyX9_ok, nmX9⟩
theorem fl_RX9_210 : FL RX9 210 9 38 := ⟨(RX9, TX9, 47), rfl, by decide, tb_in (List.mem_of_getElem? (i := 839) (by decide +kernel)) rfl, uw_X9⟩
theorem fp_RX9_210 : FP RX9 210 9 38 .int := ⟨(RX9, TX9, 47), tyX9, rfl, by decide, tb_in (List.mem_of_getElem? (i := 839) (by decide +kernel)) rfl, uw_X9, rfl, by decide +kernel, tyX9_ok, nmX9⟩
theorem fl_RX9_219 : FL RX9 219 9 42 := ⟨(RX9, TX9, 47), rfl, by decide, tb_in (List.mem_of_getElem? (i := 843) (by decide +kernel)) rfl, uw_X9⟩
theorem fp_RX9_219 : FP RX9 219 9 42 .int := ⟨(RX9, TX9, 47), tyX9, rfl, by decide, tb_in (List.mem_of_getElem? (i := 843) (by decide +kernel)) rfl, uw_X9, rfl, by decide +kernel, tyX9_ok, nmX9⟩
theorem fl_RX9_241 : FL RX9 241 9 20 := ⟨(RX9, TX9, 47), rfl, by decide, tb_in (List.mem_of_getElem? (i := 821) (by decide +kernel)) rfl, uw_X9⟩
theorem fp_RX9_241 : FP RX9 241 9 20 .int := ⟨(RX9, TX9, 47), tyX9, rfl, by decide, tb_in (List.mem_of_getElem? (i := 821) (by decide +kernel)) rfl, uw_X9, rfl, by decide +kernel, tyX9_ok, nmX9⟩
theorem mv_X0_isAhead : MV yX0_isAhead cX0_isAhead 2 (some .boolean) 1 := ⟨tb_in (List.mem_of_getElem? (i := 622) (by decide +kernel)) rfl, tb_in (List.mem_of_getElem? (i := 620) (by decide +kernel)) rfl, tb_in (List.mem_of_getElem? (i := 621) (by decide +kernel)) rfl, tb_in (List.mem_of_getElem? (i := 43) (by decide +kernel)) rfl, by decide +kernel, by decide +kernel, by decide +kernel⟩
theorem mv_X0_hasFrost : MV yX0_hasFrost cX0_hasFrost 2 (some .boolean) 1 := ⟨tb_in (List.mem_of_getElem? (i := 444) (by decide +kernel)) rfl, tb_in (List.mem_of_getElem? (i := 442) (by decide +kernel)) rfl, tb_in (List.mem_of_getElem? (i := 443) (by decide +kernel)) rfl, tb_in (List.mem_of_getElem? (i := 43) (by decide +kernel)) rfl, by decide +kernel, by decide +kernel, by decide +kernel⟩
theorem mv_X0_makeBitter : MV yX0_makeBitter cX0_makeBitter 4 (some .boolean) 1 := ⟨tb_in (List.mem_of_getElem? (i := 626) (by decide +kernel)) rfl, tb_in (List.mem_of_getElem? (i := 624) (by decide +kernel)) rfl, tb_in (List.mem_of_getElem? (i := 625) (by decide +kernel)) rfl, tb_in (List.mem_of_getElem? (i := 43) (by decide +kernel)) rfl, by decide +kernel, by decide +kernel, by decide +kernel⟩
theorem mv_X0_pass : MV yX0_pass cX0_pass 4 (some .int) 1 := ⟨tb_in (List.mem_of_getElem? (i := 604) (by decide +kernel)) rfl, tb_in (List.mem_of_getElem? (i := 602) (by decide +kernel)) rfl, tb_in (List.mem_of_getElem? (i := 603) (by decide +kernel)) rfl, tb_in (List.mem_of_getElem? (i := 43) (by decide +kernel)) rfl, by decide +kernel, by decide +kernel, by decide +kernel⟩
theorem mv_X2_isBegun : MV yX2_isBegun cX2_isBegun 1 (some .boolean) 0 := ⟨tb_in (List.mem_of_getElem? (i := 345) (by decide +kernel)) rfl, tb_in (List.mem_of_getElem? (i := 343) (by decide +kernel)) rfl, tb_in (List.mem_of_getElem? (i := 344) (by decide +kernel)) rfl, tb_in (List.mem_of_getElem? (i := 48) (by decide +kernel)) rfl, by decide +kernel, by decide +kernel, by decide +kernel⟩
theorem mv_X2_isWhole : MV yX2_isWhole cX2_isWhole 1 (some .boolean) 0 := ⟨tb_in (List.mem_of_getElem? (i := 422) (by decide +kernel)) rfl, tb_in (List.mem_of_getElem? (i := 420) (by decide +kernel)) rfl, tb_in (List.mem_of_getElem? (i := 421) (by decide +kernel)) rfl, tb_in (List.mem_of_getElem? (i := 48) (by decide +kernel)) rfl, by decide +kernel, by decide +kernel, by decide +kernel⟩
theorem mv_X2_isOnCentring : MV yX2_isOnCentring cX2_isOnCentring 1 (some .boolean) 0 := ⟨tb_in (List.mem_of_getElem? (i := 393) (by decide +kernel)) rfl, tb_in (List.mem_of_getElem? (i := 391) (by decide +kernel)) rfl, tb_in (List.mem_of_getElem? (i := 392) (by decide +kernel)) rfl, tb_in (List.mem_of_getElem? (i := 48) (by decide +kernel)) rfl, by decide +kernel, by decide +kernel, by decide +kernel⟩
theorem mv_X2_standOn : MV yX2_standOn cX2_standOn 4 none 3 := ⟨tb_in (List.mem_of_getElem? (i := 326) (by decide +kernel)) rfl, tb_in (List.mem_of_getElem? (i := 324) (by decide +kernel)) rfl, tb_in (List.mem_of_getElem? (i := 325) (by decide +kernel)) rfl, tb_in (List.mem_of_getElem? (i := 48) (by decide +kernel)) rfl, by decide +kernel, by decide +kernel, by decide +kernel⟩
theorem mv_X2_takeCourse : MV yX2_takeCourse cX2_takeCourse 2 none 1 := ⟨tb_in (List.mem_of_getElem? (i := 578) (by decide +kernel)) rfl, tb_in (List.mem_of_getElem? (i := 576) (by decide +kernel)) rfl, tb_in (List.mem_of_getElem? (i := 577) (by decide +kernel)) rfl, tb_in (List.mem_of_getElem? (i := 48) (by decide +kernel)) rfl, by decide +kernel, by decide +kernel, by decide +kernel⟩
theorem mv_X2_laidTill : MV yX2_laidTill cX2_laidTill 4 (some .int) 1 := ⟨tb_in (List.mem_of_getElem? (i := 764) (by decide +kernel)) rfl, tb_in (List.mem_of_getElem? (i := 762) (by decide +kernel)) rfl, tb_in (List.mem_of_getElem? (i := 763) (by decide +kernel)) rfl, tb_in (List.mem_of_getElem? (i := 48) (by decide +kernel)) rfl, by decide +kernel, by decide +kernel, by decide +kernel⟩
theorem mv_X2_portion : MV yX2_portion cX2_portion 5 (some .int) 2 := ⟨tb_in (List.mem_of_getElem? (i := 402) (by decide +kernel)) rfl, tb_in (List.mem_of_getElem? (i := 400) (by decide +kernel)) rfl, tb_in (List.mem_of_getElem? (i := 401) (by decide +kernel)) rfl, tb_in (List.mem_of_getElem? (i := 48) (by decide +kernel)) rfl, by decide +kernel, by decide +kernel, by decide +kernel⟩
theorem mv_X2_heaviestWay : MV yX2_heaviestWay cX2_heaviestWay 4 (some .int) 1 := ⟨tb_in (List.mem_of_getElem? (i := 772) (by decide +kernel)) rfl, tb_in (List.mem_of_getElem? (i := 770) (by decide +kernel)) rfl, tb_in (List.mem_of_getElem? (i := 771) (by decide +kernel)) rfl, tb_in (List.mem_of_getElem? (i := 48) (by decide +kernel)) rfl, by decide +kernel, by decide +kernel, by decide +kernel⟩
theorem mv_X2_markSupports : MV yX2_markSupports cX2_markSupports 3 none 1 := ⟨tb_in (List.mem_of_getElem? (i := 782) (by decide +kernel)) rfl, tb_in (List.mem_of_getElem? (i := 780) (by decide +kernel)) rfl, tb_in (List.mem_of_getElem? (i := 781) (by decide +kernel)) rfl, tb_in (List.mem_of_getElem? (i := 48) (by decide +kernel)) rfl, by decide +kernel, by decide +kernel, by decide +kernel⟩
theorem mv_X2_standsOn : MV yX2_standsOn cX2_standsOn 3 (some .boolean) 1 := ⟨tb_in (List.mem_of_getElem? (i := 747) (by decide +kernel)) rfl, tb_in (List.mem_of_getElem? (i := 745) (by decide +kernel)) rfl, tb_in (List.mem_of_getElem? (i := 746) (by decide +kernel)) rfl, tb_in (List.mem_of_getElem? (i := 48) (by decide +kernel)) rfl, by decide +kernel, by decide +kernel, by decide +kernel⟩
theorem mv_X3_find : MV yX3_find cX3_find 2 (some (.object "ChurchLodge$Part")) 1 := ⟨tb_in (List.mem_of_getElem? (i := 322) (by decide +kernel)) rfl, tb_in (List.mem_of_getElem? (i := 320) (by decide +kernel)) rfl, tb_in (List.mem_of_getElem? (i := 321) (by decide +kernel)) rfl, tb_in (List.mem_of_getElem? (i := 41) (by decide +kernel)) rfl, by decide +kernel, by decide +kernel, by decide +kernel⟩
theorem mv_X3_add : MV yX3_add cX3_add 2 (some .int) 1 := ⟨tb_in (List.mem_of_getElem? (i := 314) (by decide +kernel)) rfl, tb_in (List.mem_of_getElem? (i := 312) (by decide +kernel)) rfl, tb_in (List.mem_of_getElem? (i := 313) (by decide +kernel)) rfl, tb_in (List.mem_of_getElem? (i := 41) (by decide +kernel)) rfl, by decide +kernel, by decide +kernel, by decide +kernel⟩
theorem mv_X3_readSupports : MV yX3_readSupports cX3_readSupports 9 (some .int) 5 := ⟨tb_in (List.mem_of_getElem? (i := 334) (by decide +kernel)) rfl, tb_in (List.mem_of_getElem? (i := 332) (by decide +kernel)) rfl, tb_in (List.mem_of_getElem? (i := 333) (by decide +kernel)) rfl, tb_in (List.mem_of_getElem? (i := 41) (by decide +kernel)) rfl, by decide +kernel, by decide +kernel, by decide +kernel⟩
theorem ms_X3_isSupportFor : MS yX3_isSupportFor cX3_isSupportFor 3 (some .boolean) 2 := ⟨tb_in (List.mem_of_getElem? (i := 337) (by decide +kernel)) rfl, tb_in (List.mem_of_getElem? (i := 336) (by decide +kernel)) rfl, tb_in (List.mem_of_getElem? (i := 41) (by decide +kernel)) rfl, by decide +kernel, by decide +kernel, by decide +kernel⟩
theorem mv_X3_isReadBefore : MV yX3_isReadBefore cX3_isReadBefore 3 (some .boolean) 1 := ⟨tb_in (List.mem_of_getElem? (i := 341) (by decide +kernel)) rfl, tb_in (List.mem_of_getElem? (i := 340) (by decide +kernel)) rfl, tb_in (List.mem_of_getElem? (i := 0) (by decide +kernel)) rfl, tb_in (List.mem_of_getElem? (i := 41) (by decide +kernel)) rfl, by decide +kernel, by decide +kernel, by decide +kernel⟩
theorem mv_X3_setSupports : MV yX3_setSupports cX3_setSupports 4 none 2 := ⟨tb_in (List.mem_of_getElem? (i := 349) (by decide +kernel)) rfl, tb_in (List.mem_of_getElem? (i := 347) (by decide +kernel)) rfl, tb_in (List.mem_of_getElem? (i := 348) (by decide +kernel)) rfl, tb_in (List.mem_of_getElem? (i := 41) (by decide +kernel)) rfl, by decide +kernel, by decide +kernel, by decide +kernel⟩
theorem mv_X3_keepEdition : MV yX3_keepEdition cX3_keepEdition 3 (some .int) 2 := ⟨tb_in (List.mem_of_getElem? (i := 354) (by decide +kernel)) rfl, tb_in (List.mem_of_getElem? (i := 352) (by decide +kernel)) rfl, tb_in (List.mem_of_getElem? (i := 353) (by decide +kernel)) rfl, tb_in (List.mem_of_getElem? (i := 41) (by decide +kernel)) rfl, by decide +kernel, by decide +kernel, by decide +kernel⟩
theorem mv_X3_coursesIn : MV yX3_coursesIn cX3_coursesIn 5 (some .int) 2 := ⟨tb_in (List.mem_of_getElem? (i := 366) (by decide +kernel)) rfl, tb_in (List.mem_of_getElem? (i := 364) (by decide +kernel)) rfl, tb_in (List.mem_of_getElem? (i := 365) (by decide +kernel)) rfl, tb_in (List.mem_of_getElem? (i := 41) (by decide +kernel)) rfl, by decide +kernel, by decide +kernel, by decide +kernel⟩
theorem mv_X3_isReadyBelow : MV yX3_isReadyBelow cX3_isReadyBelow 4 (some .boolean) 1 := ⟨tb_in (List.mem_of_getElem? (i := 426) (by decide +kernel)) rfl, tb_in (List.mem_of_getElem? (i := 424) (by decide +kernel)) rfl, tb_in (List.mem_of_getElem? (i := 425) (by decide +kernel)) rfl, tb_in (List.mem_of_getElem? (i := 41) (by decide +kernel)) rfl, by decide +kernel, by decide +kernel, by decide +kernel⟩
theorem mv_X3_ageAll : MV yX3_ageAll cX3_ageAll 4 none 1 := ⟨tb_in (List.mem_of_getElem? (i := 609) (by decide +kernel)) rfl, tb_in (List.mem_of_getElem? (i := 607) (by decide +kernel)) rfl, tb_in (List.mem_of_getElem? (i := 608) (by decide +kernel)) rfl, tb_in (List.mem_of_getElem? (i := 41) (by decide +kernel)) rfl, by decide +kernel, by decide +kernel, by decide +kernel⟩
theorem mv_X3_countBorneBy : MV yX3_countBorneBy cX3_countBorneBy 5 (some .int) 1 := ⟨tb_in (List.mem_of_getElem? (i := 743) (by decide +kernel)) rfl, tb_in (List.mem_of_getElem? (i := 741) (by decide +kernel)) rfl, tb_in (List.mem_of_getElem? (i := 742) (by decide +kernel)) rfl, tb_in (List.mem_of_getElem? (i := 41) (by decide +kernel)) rfl, by decide +kernel, by decide +kernel, by decide +kernel⟩
theorem mv_X3_countLaid : MV yX3_countLaid cX3_countLaid 4 (some .int) 0 := ⟨tb_in (List.mem_of_getElem? (i := 790) (by decide +kernel)) rfl, tb_in (List.mem_of_getElem? (i := 788) (by decide +kernel)) rfl, tb_in (List.mem_of_getElem? (i := 789) (by decide +kernel)) rfl, tb_in (List.mem_of_getElem? (i := 41) (by decide +kernel)) rfl, by decide +kernel, by decide +kernel, by decide +kernel⟩
theorem mv_X4_nameNoPart : MV yX4_nameNoPart cX4_nameNoPart 1 none 0 := ⟨tb_in (List.mem_of_getElem? (i := 452) (by decide +kernel)) rfl, tb_in (List.mem_of_getElem? (i := 450) (by decide +kernel)) rfl, tb_in (List.mem_of_getElem? (i := 451) (by decide +kernel)) rfl, tb_in (List.mem_of_getElem? (i := 45) (by decide +kernel)) rfl, by decide +kernel, by decide +kernel, by decide +kernel⟩
theorem mv_X4_namePart : MV yX4_namePart cX4_namePart 3 none 2 := ⟨tb_in (List.mem_of_getElem? (i := 556) (by decide +kernel)) rfl, tb_in (List.mem_of_getElem? (i := 554) (by decide +kernel)) rfl, tb_in (List.mem_of_getElem? (i := 555) (by decide +kernel)) rfl, tb_in (List.mem_of_getElem? (i := 45) (by decide +kernel)) rfl, by decide +kernel, by decide +kernel, by decide +kernel⟩
theorem mv_X4_nameMonth : MV yX4_nameMonth cX4_nameMonth 4 none 3 := ⟨tb_in (List.mem_of_getElem? (i := 448) (by decide +kernel)) rfl, tb_in (List.mem_of_getElem? (i := 446) (by decide +kernel)) rfl, tb_in (List.mem_of_getElem? (i := 447) (by decide +kernel)) rfl, tb_in (List.mem_of_getElem? (i := 45) (by decide +kernel)) rfl, by decide +kernel, by decide +kernel, by decide +kernel⟩
theorem mv_X4_endOf : MV yX4_endOf cX4_endOf 2 (some .int) 1 := ⟨tb_in (List.mem_of_getElem? (i := 564) (by decide +kernel)) rfl, tb_in (List.mem_of_getElem? (i := 562) (by decide +kernel)) rfl, tb_in (List.mem_of_getElem? (i := 563) (by decide +kernel)) rfl, tb_in (List.mem_of_getElem? (i := 45) (by decide +kernel)) rfl, by decide +kernel, by decide +kernel, by decide +kernel⟩
theorem mv_X4_valueOf : MV yX4_valueOf cX4_valueOf 5 (some .int) 1 := ⟨tb_in (List.mem_of_getElem? (i := 456) (by decide +kernel)) rfl, tb_in (List.mem_of_getElem? (i := 454) (by decide +kernel)) rfl, tb_in (List.mem_of_getElem? (i := 455) (by decide +kernel)) rfl, tb_in (List.mem_of_getElem? (i := 45) (by decide +kernel)) rfl, by decide +kernel, by decide +kernel, by decide +kernel⟩
theorem ms_X4_isSign : MS yX4_isSign cX4_isSign 1 (some .boolean) 1 := ⟨tb_in (List.mem_of_getElem? (i := 459) (by decide +kernel)) rfl, tb_in (List.mem_of_getElem? (i := 458) (by decide +kernel)) rfl, tb_in (List.mem_of_getElem? (i := 45) (by decide +kernel)) rfl, by decide +kernel, by decide +kernel, by decide +kernel⟩
theorem mv_X4_meaningOf : MV yX4_meaningOf cX4_meaningOf 3 (some .int) 1 := ⟨tb_in (List.mem_of_getElem? (i := 541) (by decide +kernel)) rfl, tb_in (List.mem_of_getElem? (i := 540) (by decide +kernel)) rfl, tb_in (List.mem_of_getElem? (i := 7) (by decide +kernel)) rfl, tb_in (List.mem_of_getElem? (i := 45) (by decide +kernel)) rfl, by decide +kernel, by decide +kernel, by decide +kernel⟩
theorem ms_X4_truth : MS yX4_truth cX4_truth 1 (some .int) 1 := ⟨tb_in (List.mem_of_getElem? (i := 544) (by decide +kernel)) rfl, tb_in (List.mem_of_getElem? (i := 543) (by decide +kernel)) rfl, tb_in (List.mem_of_getElem? (i := 45) (by decide +kernel)) rfl, by decide +kernel, by decide +kernel, by decide +kernel⟩
theorem ms_X4_join : MS yX4_join cX4_join 3 (some .int) 3 := ⟨tb_in (List.mem_of_getElem? (i := 547) (by decide +kernel)) rfl, tb_in (List.mem_of_getElem? (i := 546) (by decide +kernel)) rfl, tb_in (List.mem_of_getElem? (i := 45) (by decide +kernel)) rfl, by decide +kernel, by decide +kernel, by decide +kernel⟩
theorem mv_X5_weigh : MV yX5_weigh cX5_weigh 4 none 1 := ⟨tb_in (List.mem_of_getElem? (i := 385) (by decide +kernel)) rfl, tb_in (List.mem_of_getElem? (i := 383) (by decide +kernel)) rfl, tb_in (List.mem_of_getElem? (i := 384) (by decide +kernel)) rfl, tb_in (List.mem_of_getElem? (i := 42) (by decide +kernel)) rfl, by decide +kernel, by decide +kernel, by decide +kernel⟩
theorem mv_X5_passDown : MV yX5_passDown cX5_passDown 4 none 2 := ⟨tb_in (List.mem_of_getElem? (i := 398) (by decide +kernel)) rfl, tb_in (List.mem_of_getElem? (i := 397) (by decide +kernel)) rfl, tb_in (List.mem_of_getElem? (i := 2) (by decide +kernel)) rfl, tb_in (List.mem_of_getElem? (i := 42) (by decide +kernel)) rfl, by decide +kernel, by decide +kernel, by decide +kernel⟩
theorem mv_X5_pushAside : MV yX5_pushAside cX5_pushAside 4 none 2 := ⟨tb_in (List.mem_of_getElem? (i := 406) (by decide +kernel)) rfl, tb_in (List.mem_of_getElem? (i := 405) (by decide +kernel)) rfl, tb_in (List.mem_of_getElem? (i := 3) (by decide +kernel)) rfl, tb_in (List.mem_of_getElem? (i := 42) (by decide +kernel)) rfl, by decide +kernel, by decide +kernel, by decide +kernel⟩
theorem mv_X5_leastFalling : MV yX5_leastFalling cX5_leastFalling 4 (some .int) 1 := ⟨tb_in (List.mem_of_getElem? (i := 381) (by decide +kernel)) rfl, tb_in (List.mem_of_getElem? (i := 379) (by decide +kernel)) rfl, tb_in (List.mem_of_getElem? (i := 380) (by decide +kernel)) rfl, tb_in (List.mem_of_getElem? (i := 42) (by decide +kernel)) rfl, by decide +kernel, by decide +kernel, by decide +kernel⟩
theorem mv_X6_take : MV yX6_take cX6_take 4 none 2 := ⟨tb_in (List.mem_of_getElem? (i := 634) (by decide +kernel)) rfl, tb_in (List.mem_of_getElem? (i := 632) (by decide +kernel)) rfl, tb_in (List.mem_of_getElem? (i := 633) (by decide +kernel)) rfl, tb_in (List.mem_of_getElem? (i := 44) (by decide +kernel)) rfl, by decide +kernel, by decide +kernel, by decide +kernel⟩
theorem mv_X6_asText : MV yX6_asText cX6_asText 1 (some (.object "ChurchLodge$Text")) 0 := ⟨tb_in (List.mem_of_getElem? (i := 673) (by decide +kernel)) rfl, tb_in (List.mem_of_getElem? (i := 671) (by decide +kernel)) rfl, tb_in (List.mem_of_getElem? (i := 672) (by decide +kernel)) rfl, tb_in (List.mem_of_getElem? (i := 44) (by decide +kernel)) rfl, by decide +kernel, by decide +kernel, by decide +kernel⟩
theorem mv_X6_read : MV yX6_read cX6_read 5 (some .int) 0 := ⟨tb_in (List.mem_of_getElem? (i := 643) (by decide +kernel)) rfl, tb_in (List.mem_of_getElem? (i := 641) (by decide +kernel)) rfl, tb_in (List.mem_of_getElem? (i := 642) (by decide +kernel)) rfl, tb_in (List.mem_of_getElem? (i := 44) (by decide +kernel)) rfl, by decide +kernel, by decide +kernel, by decide +kernel⟩
theorem mv_X6_openSign : MV yX6_openSign cX6_openSign 2 none 1 := ⟨tb_in (List.mem_of_getElem? (i := 649) (by decide +kernel)) rfl, tb_in (List.mem_of_getElem? (i := 648) (by decide +kernel)) rfl, tb_in (List.mem_of_getElem? (i := 12) (by decide +kernel)) rfl, tb_in (List.mem_of_getElem? (i := 44) (by decide +kernel)) rfl, by decide +kernel, by decide +kernel, by decide +kernel⟩
theorem mv_X6_closeSigns : MV yX6_closeSigns cX6_closeSigns 1 (some .boolean) 0 := ⟨tb_in (List.mem_of_getElem? (i := 669) (by decide +kernel)) rfl, tb_in (List.mem_of_getElem? (i := 668) (by decide +kernel)) rfl, tb_in (List.mem_of_getElem? (i := 16) (by decide +kernel)) rfl, tb_in (List.mem_of_getElem? (i := 44) (by decide +kernel)) rfl, by decide +kernel, by decide +kernel, by decide +kernel⟩
theorem mv_X6_readLeaf : MV yX6_readLeaf cX6_readLeaf 3 (some .int) 1 := ⟨tb_in (List.mem_of_getElem? (i := 657) (by decide +kernel)) rfl, tb_in (List.mem_of_getElem? (i := 656) (by decide +kernel)) rfl, tb_in (List.mem_of_getElem? (i := 14) (by decide +kernel)) rfl, tb_in (List.mem_of_getElem? (i := 44) (by decide +kernel)) rfl, by decide +kernel, by decide +kernel, by decide +kernel⟩
theorem mv_X6_readNumber : MV yX6_readNumber cX6_readNumber 4 (some .int) 1 := ⟨tb_in (List.mem_of_getElem? (i := 661) (by decide +kernel)) rfl, tb_in (List.mem_of_getElem? (i := 660) (by decide +kernel)) rfl, tb_in (List.mem_of_getElem? (i := 15) (by decide +kernel)) rfl, tb_in (List.mem_of_getElem? (i := 44) (by decide +kernel)) rfl, by decide +kernel, by decide +kernel, by decide +kernel⟩
theorem mv_X6_keep : MV yX6_keep cX6_keep 2 none 1 := ⟨tb_in (List.mem_of_getElem? (i := 653) (by decide +kernel)) rfl, tb_in (List.mem_of_getElem? (i := 652) (by decide +kernel)) rfl, tb_in (List.mem_of_getElem? (i := 13) (by decide +kernel)) rfl, tb_in (List.mem_of_getElem? (i := 44) (by decide +kernel)) rfl, by decide +kernel, by decide +kernel, by decide +kernel⟩
theorem ms_X6_isDigit : MS yX6_isDigit cX6_isDigit 1 (some .boolean) 1 := ⟨tb_in (List.mem_of_getElem? (i := 664) (by decide +kernel)) rfl, tb_in (List.mem_of_getElem? (i := 663) (by decide +kernel)) rfl, tb_in (List.mem_of_getElem? (i := 44) (by decide +kernel)) rfl, by decide +kernel, by decide +kernel, by decide +kernel⟩
theorem mv_X8_part : MV yX8_part cX8_part 4 (some .int) 3 := ⟨tb_in (List.mem_of_getElem? (i := 231) (by decide +kernel)) rfl, tb_in (List.mem_of_getElem? (i := 229) (by decide +kernel)) rfl, tb_in (List.mem_of_getElem? (i := 230) (by decide +kernel)) rfl, tb_in (List.mem_of_getElem? (i := 40) (by decide +kernel)) rfl, by decide +kernel, by decide +kernel, by decide +kernel⟩
theorem mv_X8_arch : MV yX8_arch cX8_arch 7 (some .int) 5 := ⟨tb_in (List.mem_of_getElem? (i := 318) (by decide +kernel)) rfl, tb_in (List.mem_of_getElem? (i := 316) (by decide +kernel)) rfl, tb_in (List.mem_of_getElem? (i := 317) (by decide +kernel)) rfl, tb_in (List.mem_of_getElem? (i := 40) (by decide +kernel)) rfl, by decide +kernel, by decide +kernel, by decide +kernel⟩
theorem mv_X8_bear : MV yX8_bear cX8_bear 8 (some .int) 5 := ⟨tb_in (List.mem_of_getElem? (i := 330) (by decide +kernel)) rfl, tb_in (List.mem_of_getElem? (i := 328) (by decide +kernel)) rfl, tb_in (List.mem_of_getElem? (i := 329) (by decide +kernel)) rfl, tb_in (List.mem_of_getElem? (i := 40) (by decide +kernel)) rfl, by decide +kernel, by decide +kernel, by decide +kernel⟩
theorem mv_X8_edit : MV yX8_edit cX8_edit 4 (some .int) 2 := ⟨tb_in (List.mem_of_getElem? (i := 358) (by decide +kernel)) rfl, tb_in (List.mem_of_getElem? (i := 356) (by decide +kernel)) rfl, tb_in (List.mem_of_getElem? (i := 357) (by decide +kernel)) rfl, tb_in (List.mem_of_getElem? (i := 40) (by decide +kernel)) rfl, by decide +kernel, by decide +kernel, by decide +kernel⟩
theorem mv_X8_wanted : MV yX8_wanted cX8_wanted 3 (some .int) 2 := ⟨tb_in (List.mem_of_getElem? (i := 362) (by decide +kernel)) rfl, tb_in (List.mem_of_getElem? (i := 360) (by decide +kernel)) rfl, tb_in (List.mem_of_getElem? (i := 361) (by decide +kernel)) rfl, tb_in (List.mem_of_getElem? (i := 40) (by decide +kernel)) rfl, by decide +kernel, by decide +kernel, by decide +kernel⟩
theorem mv_X8_tell : MV yX8_tell cX8_tell 6 (some .int) 3 := ⟨tb_in (List.mem_of_getElem? (i := 371) (by decide +kernel)) rfl, tb_in (List.mem_of_getElem? (i := 369) (by decide +kernel)) rfl, tb_in (List.mem_of_getElem? (i := 370) (by decide +kernel)) rfl, tb_in (List.mem_of_getElem? (i := 40) (by decide +kernel)) rfl, by decide +kernel, by decide +kernel, by decide +kernel⟩
theorem mv_X8_lay : MV yX8_lay cX8_lay 4 (some .int) 1 := ⟨tb_in (List.mem_of_getElem? (i := 414) (by decide +kernel)) rfl, tb_in (List.mem_of_getElem? (i := 412) (by decide +kernel)) rfl, tb_in (List.mem_of_getElem? (i := 413) (by decide +kernel)) rfl, tb_in (List.mem_of_getElem? (i := 40) (by decide +kernel)) rfl, by decide +kernel, by decide +kernel, by decide +kernel⟩
theorem mv_X8_may : MV yX8_may cX8_may 3 (some .int) 1 := ⟨tb_in (List.mem_of_getElem? (i := 582) (by decide +kernel)) rfl, tb_in (List.mem_of_getElem? (i := 580) (by decide +kernel)) rfl, tb_in (List.mem_of_getElem? (i := 581) (by decide +kernel)) rfl, tb_in (List.mem_of_getElem? (i := 40) (by decide +kernel)) rfl, by decide +kernel, by decide +kernel, by decide +kernel⟩
theorem mv_X8_falls : MV yX8_falls cX8_falls 3 (some .int) 1 := ⟨tb_in (List.mem_of_getElem? (i := 586) (by decide +kernel)) rfl, tb_in (List.mem_of_getElem? (i := 584) (by decide +kernel)) rfl, tb_in (List.mem_of_getElem? (i := 585) (by decide +kernel)) rfl, tb_in (List.mem_of_getElem? (i := 40) (by decide +kernel)) rfl, by decide +kernel, by decide +kernel, by decide +kernel⟩
theorem mv_X8_strike : MV yX8_strike cX8_strike 3 (some .int) 1 := ⟨tb_in (List.mem_of_getElem? (i := 590) (by decide +kernel)) rfl, tb_in (List.mem_of_getElem? (i := 588) (by decide +kernel)) rfl, tb_in (List.mem_of_getElem? (i := 589) (by decide +kernel)) rfl, tb_in (List.mem_of_getElem? (i := 40) (by decide +kernel)) rfl, by decide +kernel, by decide +kernel, by decide +kernel⟩
theorem mv_X8_prop : MV yX8_prop cX8_prop 5 (some .int) 2 := ⟨tb_in (List.mem_of_getElem? (i := 595) (by decide +kernel)) rfl, tb_in (List.mem_of_getElem? (i := 593) (by decide +kernel)) rfl, tb_in (List.mem_of_getElem? (i := 594) (by decide +kernel)) rfl, tb_in (List.mem_of_getElem? (i := 40) (by decide +kernel)) rfl, by decide +kernel, by decide +kernel, by decide +kernel⟩
theorem mv_X8_month : MV yX8_month cX8_month 2 (some .int) 1 := ⟨tb_in (List.mem_of_getElem? (i := 600) (by decide +kernel)) rfl, tb_in (List.mem_of_getElem? (i := 598) (by decide +kernel)) rfl, tb_in (List.mem_of_getElem? (i := 599) (by decide +kernel)) rfl, tb_in (List.mem_of_getElem? (i := 40) (by decide +kernel)) rfl, by decide +kernel, by decide +kernel, by decide +kernel⟩
theorem mv_X8_frost : MV yX8_frost cX8_frost 3 (some .int) 1 := ⟨tb_in (List.mem_of_getElem? (i := 614) (by decide +kernel)) rfl, tb_in (List.mem_of_getElem? (i := 612) (by decide +kernel)) rfl, tb_in (List.mem_of_getElem? (i := 613) (by decide +kernel)) rfl, tb_in (List.mem_of_getElem? (i := 40) (by decide +kernel)) rfl, by decide +kernel, by decide +kernel, by decide +kernel⟩
theorem mv_X8_bitter : MV yX8_bitter cX8_bitter 2 (some .int) 1 := ⟨tb_in (List.mem_of_getElem? (i := 618) (by decide +kernel)) rfl, tb_in (List.mem_of_getElem? (i := 616) (by decide +kernel)) rfl, tb_in (List.mem_of_getElem? (i := 617) (by decide +kernel)) rfl, tb_in (List.mem_of_getElem? (i := 40) (by decide +kernel)) rfl, by decide +kernel, by decide +kernel, by decide +kernel⟩
theorem mv_X8_feed : MV yX8_feed cX8_feed 3 (some .int) 2 := ⟨tb_in (List.mem_of_getElem? (i := 630) (by decide +kernel)) rfl, tb_in (List.mem_of_getElem? (i := 628) (by decide +kernel)) rfl, tb_in (List.mem_of_getElem? (i := 629) (by decide +kernel)) rfl, tb_in (List.mem_of_getElem? (i := 40) (by decide +kernel)) rfl, by decide +kernel, by decide +kernel, by decide +kernel⟩
theorem mv_X8_gift : MV yX8_gift cX8_gift 4 (some .int) 1 := ⟨tb_in (List.mem_of_getElem? (i := 638) (by decide +kernel)) rfl, tb_in (List.mem_of_getElem? (i := 636) (by decide +kernel)) rfl, tb_in (List.mem_of_getElem? (i := 637) (by decide +kernel)) rfl, tb_in (List.mem_of_getElem? (i := 40) (by decide +kernel)) rfl, by decide +kernel, by decide +kernel, by decide +kernel⟩
theorem mv_X8_statute : MV yX8_statute cX8_statute 3 (some .int) 1 := ⟨tb_in (List.mem_of_getElem? (i := 720) (by decide +kernel)) rfl, tb_in (List.mem_of_getElem? (i := 718) (by decide +kernel)) rfl, tb_in (List.mem_of_getElem? (i := 719) (by decide +kernel)) rfl, tb_in (List.mem_of_getElem? (i := 40) (by decide +kernel)) rfl, by decide +kernel, by decide +kernel, by decide +kernel⟩
theorem mv_X8_end : MV yX8_end cX8_end 5 (some .int) 2 := ⟨tb_in (List.mem_of_getElem? (i := 724) (by decide +kernel)) rfl, tb_in (List.mem_of_getElem? (i := 722) (by decide +kernel)) rfl, tb_in (List.mem_of_getElem? (i := 723) (by decide +kernel)) rfl, tb_in (List.mem_of_getElem? (i := 40) (by decide +kernel)) rfl, by decide +kernel, by decide +kernel, by decide +kernel⟩
theorem mv_X8_about : MV yX8_about cX8_about 4 (some .int) 2 := ⟨tb_in (List.mem_of_getElem? (i := 729) (by decide +kernel)) rfl, tb_in (List.mem_of_getElem? (i := 727) (by decide +kernel)) rfl, tb_in (List.mem_of_getElem? (i := 728) (by decide +kernel)) rfl, tb_in (List.mem_of_getElem? (i := 40) (by decide +kernel)) rfl, by decide +kernel, by decide +kernel, by decide +kernel⟩
theorem mv_X8_support : MV yX8_support cX8_support 4 (some .int) 2 := ⟨tb_in (List.mem_of_getElem? (i := 751) (by decide +kernel)) rfl, tb_in (List.mem_of_getElem? (i := 749) (by decide +kernel)) rfl, tb_in (List.mem_of_getElem? (i := 750) (by decide +kernel)) rfl, tb_in (List.mem_of_getElem? (i := 40) (by decide +kernel)) rfl, by decide +kernel, by decide +kernel, by decide +kernel⟩
theorem mv_X8_left : MV yX8_left cX8_left 4 (some .int) 2 := ⟨tb_in (List.mem_of_getElem? (i := 755) (by decide +kernel)) rfl, tb_in (List.mem_of_getElem? (i := 753) (by decide +kernel)) rfl, tb_in (List.mem_of_getElem? (i := 754) (by decide +kernel)) rfl, tb_in (List.mem_of_getElem? (i := 40) (by decide +kernel)) rfl, by decide +kernel, by decide +kernel, by decide +kernel⟩
theorem mv_X8_work : MV yX8_work cX8_work 2 (some .int) 0 := ⟨tb_in (List.mem_of_getElem? (i := 432) (by decide +kernel)) rfl, tb_in (List.mem_of_getElem? (i := 430) (by decide +kernel)) rfl, tb_in (List.mem_of_getElem? (i := 431) (by decide +kernel)) rfl, tb_in (List.mem_of_getElem? (i := 40) (by decide +kernel)) rfl, by decide +kernel, by decide +kernel, by decide +kernel⟩
theorem mv_X8_as : MV yX8_as cX8_as 4 (some .int) 2 := ⟨tb_in (List.mem_of_getElem? (i := 760) (by decide +kernel)) rfl, tb_in (List.mem_of_getElem? (i := 758) (by decide +kernel)) rfl, tb_in (List.mem_of_getElem? (i := 759) (by decide +kernel)) rfl, tb_in (List.mem_of_getElem? (i := 40) (by decide +kernel)) rfl, by decide +kernel, by decide +kernel, by decide +kernel⟩
theorem mv_X8_down : MV yX8_down cX8_down 3 (some .int) 1 := ⟨tb_in (List.mem_of_getElem? (i := 768) (by decide +kernel)) rfl, tb_in (List.mem_of_getElem? (i := 766) (by decide +kernel)) rfl, tb_in (List.mem_of_getElem? (i := 767) (by decide +kernel)) rfl, tb_in (List.mem_of_getElem? (i := 40) (by decide +kernel)) rfl, by decide +kernel, by decide +kernel, by decide +kernel⟩
theorem mv_X8_needs : MV yX8_needs cX8_needs 5 (some .int) 1 := ⟨tb_in (List.mem_of_getElem? (i := 777) (by decide +kernel)) rfl, tb_in (List.mem_of_getElem? (i := 775) (by decide +kernel)) rfl, tb_in (List.mem_of_getElem? (i := 776) (by decide +kernel)) rfl, tb_in (List.mem_of_getElem? (i := 40) (by decide +kernel)) rfl, by decide +kernel, by decide +kernel, by decide +kernel⟩
theorem mv_X8_count : MV yX8_count cX8_count 2 (some .int) 1 := ⟨tb_in (List.mem_of_getElem? (i := 786) (by decide +kernel)) rfl, tb_in (List.mem_of_getElem? (i := 784) (by decide +kernel)) rfl, tb_in (List.mem_of_getElem? (i := 785) (by decide +kernel)) rfl, tb_in (List.mem_of_getElem? (i := 40) (by decide +kernel)) rfl, by decide +kernel, by decide +kernel, by decide +kernel⟩
theorem ms_X8_isMeasure : MS yX8_isMeasure cX8_isMeasure 3 (some .boolean) 3 := ⟨tb_in (List.mem_of_getElem? (i := 234) (by decide +kernel)) rfl, tb_in (List.mem_of_getElem? (i := 233) (by decide +kernel)) rfl, tb_in (List.mem_of_getElem? (i := 40) (by decide +kernel)) rfl, by decide +kernel, by decide +kernel, by decide +kernel⟩
theorem mv_X8_stands : MV yX8_stands cX8_stands 1 (some .boolean) 0 := ⟨tb_in (List.mem_of_getElem? (i := 377) (by decide +kernel)) rfl, tb_in (List.mem_of_getElem? (i := 376) (by decide +kernel)) rfl, tb_in (List.mem_of_getElem? (i := 1) (by decide +kernel)) rfl, tb_in (List.mem_of_getElem? (i := 40) (by decide +kernel)) rfl, by decide +kernel, by decide +kernel, by decide +kernel⟩
theorem mv_X8_loadOf : MV yX8_loadOf cX8_loadOf 2 (some .int) 1 := ⟨tb_in (List.mem_of_getElem? (i := 733) (by decide +kernel)) rfl, tb_in (List.mem_of_getElem? (i := 732) (by decide +kernel)) rfl, tb_in (List.mem_of_getElem? (i := 17) (by decide +kernel)) rfl, tb_in (List.mem_of_getElem? (i := 40) (by decide +kernel)) rfl, by decide +kernel, by decide +kernel, by decide +kernel⟩
theorem mv_X8_pushToRightOn : MV yX8_pushToRightOn cX8_pushToRightOn 2 (some .int) 1 := ⟨tb_in (List.mem_of_getElem? (i := 738) (by decide +kernel)) rfl, tb_in (List.mem_of_getElem? (i := 737) (by decide +kernel)) rfl, tb_in (List.mem_of_getElem? (i := 18) (by decide +kernel)) rfl, tb_in (List.mem_of_getElem? (i := 40) (by decide +kernel)) rfl, by decide +kernel, by decide +kernel, by decide +kernel⟩
theorem mv_X8_fallByCourse : MV yX8_fallByCourse cX8_fallByCourse 3 (some .int) 1 := ⟨tb_in (List.mem_of_getElem? (i := 569) (by decide +kernel)) rfl, tb_in (List.mem_of_getElem? (i := 568) (by decide +kernel)) rfl, tb_in (List.mem_of_getElem? (i := 10) (by decide +kernel)) rfl, tb_in (List.mem_of_getElem? (i := 40) (by decide +kernel)) rfl, by decide +kernel, by decide +kernel, by decide +kernel⟩
theorem mv_X8_hindranceOfCourse : MV yX8_hindranceOfCourse cX8_hindranceOfCourse 3 (some .int) 2 := ⟨tb_in (List.mem_of_getElem? (i := 418) (by decide +kernel)) rfl, tb_in (List.mem_of_getElem? (i := 417) (by decide +kernel)) rfl, tb_in (List.mem_of_getElem? (i := 4) (by decide +kernel)) rfl, tb_in (List.mem_of_getElem? (i := 40) (by decide +kernel)) rfl, by decide +kernel, by decide +kernel, by decide +kernel⟩
theorem mv_X8_findGift : MV yX8_findGift cX8_findGift 2 (some (.object "ChurchLodge$Gift")) 1 := ⟨tb_in (List.mem_of_getElem? (i := 560) (by decide +kernel)) rfl, tb_in (List.mem_of_getElem? (i := 559) (by decide +kernel)) rfl, tb_in (List.mem_of_getElem? (i := 9) (by decide +kernel)) rfl, tb_in (List.mem_of_getElem? (i := 40) (by decide +kernel)) rfl, by decide +kernel, by decide +kernel, by decide +kernel⟩
theorem mv_X8_coinsRemaining : MV yX8_coinsRemaining cX8_coinsRemaining 4 (some .int) 0 := ⟨tb_in (List.mem_of_getElem? (i := 794) (by decide +kernel)) rfl, tb_in (List.mem_of_getElem? (i := 793) (by decide +kernel)) rfl, tb_in (List.mem_of_getElem? (i := 19) (by decide +kernel)) rfl, tb_in (List.mem_of_getElem? (i := 40) (by decide +kernel)) rfl, by decide +kernel, by decide +kernel, by decide +kernel⟩
theorem mv_X8_coinsFor : MV yX8_coinsFor cX8_coinsFor 6 (some .int) 2 := ⟨tb_in (List.mem_of_getElem? (i := 552) (by decide +kernel)) rfl, tb_in (List.mem_of_getElem? (i := 551) (by decide +kernel)) rfl, tb_in (List.mem_of_getElem? (i := 8) (by decide +kernel)) rfl, tb_in (List.mem_of_getElem? (i := 40) (by decide +kernel)) rfl, by decide +kernel, by decide +kernel, by decide +kernel⟩
theorem mv_X8_payFor : MV yX8_payFor cX8_payFor 7 none 2 := ⟨tb_in (List.mem_of_getElem? (i := 573) (by decide +kernel)) rfl, tb_in (List.mem_of_getElem? (i := 572) (by decide +kernel)) rfl, tb_in (List.mem_of_getElem? (i := 11) (by decide +kernel)) rfl, tb_in (List.mem_of_getElem? (i := 40) (by decide +kernel)) rfl, by decide +kernel, by decide +kernel, by decide +kernel⟩
theorem mv_X8_nameMonth : MV yX8_nameMonth cX8_nameMonth 1 none 0 := ⟨tb_in (List.mem_of_getElem? (i := 440) (by decide +kernel)) rfl, tb_in (List.mem_of_getElem? (i := 439) (by decide +kernel)) rfl, tb_in (List.mem_of_getElem? (i := 6) (by decide +kernel)) rfl, tb_in (List.mem_of_getElem? (i := 40) (by decide +kernel)) rfl, by decide +kernel, by decide +kernel, by decide +kernel⟩
theorem mv_X8_statuteInForce : MV yX8_statuteInForce cX8_statuteInForce 2 (some .int) 0 := ⟨tb_in (List.mem_of_getElem? (i := 436) (by decide +kernel)) rfl, tb_in (List.mem_of_getElem? (i := 435) (by decide +kernel)) rfl, tb_in (List.mem_of_getElem? (i := 5) (by decide +kernel)) rfl, tb_in (List.mem_of_getElem? (i := 40) (by decide +kernel)) rfl, by decide +kernel, by decide +kernel, by decide +kernel⟩
theorem ms_X9_in : MS yX9_in cX9_in 3 (some .boolean) 3 := ⟨tb_in (List.mem_of_getElem? (i := 953) (by decide +kernel)) rfl, tb_in (List.mem_of_getElem? (i := 952) (by decide +kernel)) rfl, tb_in (List.mem_of_getElem? (i := 47) (by decide +kernel)) rfl, by decide +kernel, by decide +kernel, by decide +kernel⟩
theorem mv_X9_isPart : MV yX9_isPart cX9_isPart 2 (some .boolean) 1 := ⟨tb_in (List.mem_of_getElem? (i := 966) (by decide +kernel)) rfl, tb_in (List.mem_of_getElem? (i := 965) (by decide +kernel)) rfl, tb_in (List.mem_of_getElem? (i := 21) (by decide +kernel)) rfl, tb_in (List.mem_of_getElem? (i := 47) (by decide +kernel)) rfl, by decide +kernel, by decide +kernel, by decide +kernel⟩
theorem mv_X9_newPart : MV yX9_newPart cX9_newPart 6 (some .int) 4 := ⟨tb_in (List.mem_of_getElem? (i := 957) (by decide +kernel)) rfl, tb_in (List.mem_of_getElem? (i := 956) (by decide +kernel)) rfl, tb_in (List.mem_of_getElem? (i := 20) (by decide +kernel)) rfl, tb_in (List.mem_of_getElem? (i := 47) (by decide +kernel)) rfl, by decide +kernel, by decide +kernel, by decide +kernel⟩
theorem ms_X9_isPlan : MS yX9_isPlan cX9_isPlan 3 (some .boolean) 3 := ⟨tb_in (List.mem_of_getElem? (i := 950) (by decide +kernel)) rfl, tb_in (List.mem_of_getElem? (i := 949) (by decide +kernel)) rfl, tb_in (List.mem_of_getElem? (i := 47) (by decide +kernel)) rfl, by decide +kernel, by decide +kernel, by decide +kernel⟩
theorem mv_X9_part : MV yX9_part cX9_part 4 (some .int) 3 := ⟨tb_in (List.mem_of_getElem? (i := 947) (by decide +kernel)) rfl, tb_in (List.mem_of_getElem? (i := 945) (by decide +kernel)) rfl, tb_in (List.mem_of_getElem? (i := 946) (by decide +kernel)) rfl, tb_in (List.mem_of_getElem? (i := 47) (by decide +kernel)) rfl, by decide +kernel, by decide +kernel, by decide +kernel⟩
theorem mv_X9_support0 : MV yX9_support0 cX9_support0 5 none 4 := ⟨tb_in (List.mem_of_getElem? (i := 970) (by decide +kernel)) rfl, tb_in (List.mem_of_getElem? (i := 969) (by decide +kernel)) rfl, tb_in (List.mem_of_getElem? (i := 22) (by decide +kernel)) rfl, tb_in (List.mem_of_getElem? (i := 47) (by decide +kernel)) rfl, by decide +kernel, by decide +kernel, by decide +kernel⟩
theorem mv_X9_arch : MV yX9_arch cX9_arch 7 (some .int) 5 := ⟨tb_in (List.mem_of_getElem? (i := 962) (by decide +kernel)) rfl, tb_in (List.mem_of_getElem? (i := 960) (by decide +kernel)) rfl, tb_in (List.mem_of_getElem? (i := 961) (by decide +kernel)) rfl, tb_in (List.mem_of_getElem? (i := 47) (by decide +kernel)) rfl, by decide +kernel, by decide +kernel, by decide +kernel⟩
theorem mv_X9_edition : MV yX9_edition cX9_edition 2 none 0 := ⟨tb_in (List.mem_of_getElem? (i := 978) (by decide +kernel)) rfl, tb_in (List.mem_of_getElem? (i := 977) (by decide +kernel)) rfl, tb_in (List.mem_of_getElem? (i := 23) (by decide +kernel)) rfl, tb_in (List.mem_of_getElem? (i := 47) (by decide +kernel)) rfl, by decide +kernel, by decide +kernel, by decide +kernel⟩
theorem mv_X9_bear : MV yX9_bear cX9_bear 10 (some .int) 5 := ⟨tb_in (List.mem_of_getElem? (i := 974) (by decide +kernel)) rfl, tb_in (List.mem_of_getElem? (i := 972) (by decide +kernel)) rfl, tb_in (List.mem_of_getElem? (i := 973) (by decide +kernel)) rfl, tb_in (List.mem_of_getElem? (i := 47) (by decide +kernel)) rfl, by decide +kernel, by decide +kernel, by decide +kernel⟩
theorem mv_X9_edit : MV yX9_edit cX9_edit 3 (some .int) 2 := ⟨tb_in (List.mem_of_getElem? (i := 982) (by decide +kernel)) rfl, tb_in (List.mem_of_getElem? (i := 980) (by decide +kernel)) rfl, tb_in (List.mem_of_getElem? (i := 981) (by decide +kernel)) rfl, tb_in (List.mem_of_getElem? (i := 47) (by decide +kernel)) rfl, by decide +kernel, by decide +kernel, by decide +kernel⟩
theorem mv_X9_wanted : MV yX9_wanted cX9_wanted 3 (some .int) 2 := ⟨tb_in (List.mem_of_getElem? (i := 986) (by decide +kernel)) rfl, tb_in (List.mem_of_getElem? (i := 984) (by decide +kernel)) rfl, tb_in (List.mem_of_getElem? (i := 985) (by decide +kernel)) rfl, tb_in (List.mem_of_getElem? (i := 47) (by decide +kernel)) rfl, by decide +kernel, by decide +kernel, by decide +kernel⟩
theorem mv_X9_goes : MV yX9_goes cX9_goes 5 (some .int) 2 := ⟨tb_in (List.mem_of_getElem? (i := 1002) (by decide +kernel)) rfl, tb_in (List.mem_of_getElem? (i := 1001) (by decide +kernel)) rfl, tb_in (List.mem_of_getElem? (i := 26) (by decide +kernel)) rfl, tb_in (List.mem_of_getElem? (i := 47) (by decide +kernel)) rfl, by decide +kernel, by decide +kernel, by decide +kernel⟩
theorem mv_X9_weigh : MV yX9_weigh cX9_weigh 3 none 0 := ⟨tb_in (List.mem_of_getElem? (i := 998) (by decide +kernel)) rfl, tb_in (List.mem_of_getElem? (i := 997) (by decide +kernel)) rfl, tb_in (List.mem_of_getElem? (i := 25) (by decide +kernel)) rfl, tb_in (List.mem_of_getElem? (i := 47) (by decide +kernel)) rfl, by decide +kernel, by decide +kernel, by decide +kernel⟩
theorem mv_X9_net : MV yX9_net cX9_net 2 (some .int) 1 := ⟨tb_in (List.mem_of_getElem? (i := 1007) (by decide +kernel)) rfl, tb_in (List.mem_of_getElem? (i := 1006) (by decide +kernel)) rfl, tb_in (List.mem_of_getElem? (i := 27) (by decide +kernel)) rfl, tb_in (List.mem_of_getElem? (i := 47) (by decide +kernel)) rfl, by decide +kernel, by decide +kernel, by decide +kernel⟩
theorem mv_X9_falling : MV yX9_falling cX9_falling 2 (some .int) 0 := ⟨tb_in (List.mem_of_getElem? (i := 994) (by decide +kernel)) rfl, tb_in (List.mem_of_getElem? (i := 993) (by decide +kernel)) rfl, tb_in (List.mem_of_getElem? (i := 24) (by decide +kernel)) rfl, tb_in (List.mem_of_getElem? (i := 47) (by decide +kernel)) rfl, by decide +kernel, by decide +kernel, by decide +kernel⟩
theorem mv_X9_fallingBy : MV yX9_fallingBy cX9_fallingBy 4 (some .int) 1 := ⟨tb_in (List.mem_of_getElem? (i := 1086) (by decide +kernel)) rfl, tb_in (List.mem_of_getElem? (i := 1085) (by decide +kernel)) rfl, tb_in (List.mem_of_getElem? (i := 37) (by decide +kernel)) rfl, tb_in (List.mem_of_getElem? (i := 47) (by decide +kernel)) rfl, by decide +kernel, by decide +kernel, by decide +kernel⟩
theorem mv_X9_tell : MV yX9_tell cX9_tell 5 (some .int) 3 := ⟨tb_in (List.mem_of_getElem? (i := 990) (by decide +kernel)) rfl, tb_in (List.mem_of_getElem? (i := 988) (by decide +kernel)) rfl, tb_in (List.mem_of_getElem? (i := 989) (by decide +kernel)) rfl, tb_in (List.mem_of_getElem? (i := 47) (by decide +kernel)) rfl, by decide +kernel, by decide +kernel, by decide +kernel⟩
theorem mv_X9_feed : MV yX9_feed cX9_feed 4 (some .int) 2 := ⟨tb_in (List.mem_of_getElem? (i := 1012) (by decide +kernel)) rfl, tb_in (List.mem_of_getElem? (i := 1010) (by decide +kernel)) rfl, tb_in (List.mem_of_getElem? (i := 1011) (by decide +kernel)) rfl, tb_in (List.mem_of_getElem? (i := 47) (by decide +kernel)) rfl, by decide +kernel, by decide +kernel, by decide +kernel⟩
theorem ms_X9_isDigit : MS yX9_isDigit cX9_isDigit 1 (some .boolean) 1 := ⟨tb_in (List.mem_of_getElem? (i := 1030) (by decide +kernel)) rfl, tb_in (List.mem_of_getElem? (i := 1029) (by decide +kernel)) rfl, tb_in (List.mem_of_getElem? (i := 47) (by decide +kernel)) rfl, by decide +kernel, by decide +kernel, by decide +kernel⟩
theorem ms_X9_isName : MS yX9_isName cX9_isName 1 (some .boolean) 1 := ⟨tb_in (List.mem_of_getElem? (i := 1033) (by decide +kernel)) rfl, tb_in (List.mem_of_getElem? (i := 1032) (by decide +kernel)) rfl, tb_in (List.mem_of_getElem? (i := 47) (by decide +kernel)) rfl, by decide +kernel, by decide +kernel, by decide +kernel⟩
theorem ms_X9_isSign : MS yX9_isSign cX9_isSign 1 (some .boolean) 1 := ⟨tb_in (List.mem_of_getElem? (i := 1023) (by decide +kernel)) rfl, tb_in (List.mem_of_getElem? (i := 1022) (by decide +kernel)) rfl, tb_in (List.mem_of_getElem? (i := 47) (by decide +kernel)) rfl, by decide +kernel, by decide +kernel, by decide +kernel⟩
theorem mv_X9_lay0 : MV yX9_lay0 cX9_lay0 2 none 1 := ⟨tb_in (List.mem_of_getElem? (i := 1027) (by decide +kernel)) rfl, tb_in (List.mem_of_getElem? (i := 1026) (by decide +kernel)) rfl, tb_in (List.mem_of_getElem? (i := 29) (by decide +kernel)) rfl, tb_in (List.mem_of_getElem? (i := 47) (by decide +kernel)) rfl, by decide +kernel, by decide +kernel, by decide +kernel⟩
theorem mv_X9_read : MV yX9_read cX9_read 6 (some .int) 0 := ⟨tb_in (List.mem_of_getElem? (i := 1020) (by decide +kernel)) rfl, tb_in (List.mem_of_getElem? (i := 1019) (by decide +kernel)) rfl, tb_in (List.mem_of_getElem? (i := 28) (by decide +kernel)) rfl, tb_in (List.mem_of_getElem? (i := 47) (by decide +kernel)) rfl, by decide +kernel, by decide +kernel, by decide +kernel⟩
theorem mv_X9_keep : MV yX9_keep cX9_keep 1 (some .int) 0 := ⟨tb_in (List.mem_of_getElem? (i := 1037) (by decide +kernel)) rfl, tb_in (List.mem_of_getElem? (i := 1036) (by decide +kernel)) rfl, tb_in (List.mem_of_getElem? (i := 30) (by decide +kernel)) rfl, tb_in (List.mem_of_getElem? (i := 47) (by decide +kernel)) rfl, by decide +kernel, by decide +kernel, by decide +kernel⟩
theorem mv_X9_isFrost : MV yX9_isFrost cX9_isFrost 2 (some .boolean) 1 := ⟨tb_in (List.mem_of_getElem? (i := 1057) (by decide +kernel)) rfl, tb_in (List.mem_of_getElem? (i := 1056) (by decide +kernel)) rfl, tb_in (List.mem_of_getElem? (i := 33) (by decide +kernel)) rfl, tb_in (List.mem_of_getElem? (i := 47) (by decide +kernel)) rfl, by decide +kernel, by decide +kernel, by decide +kernel⟩
theorem mv_X9_named : MV yX9_named cX9_named 3 (some .int) 2 := ⟨tb_in (List.mem_of_getElem? (i := 1053) (by decide +kernel)) rfl, tb_in (List.mem_of_getElem? (i := 1052) (by decide +kernel)) rfl, tb_in (List.mem_of_getElem? (i := 32) (by decide +kernel)) rfl, tb_in (List.mem_of_getElem? (i := 47) (by decide +kernel)) rfl, by decide +kernel, by decide +kernel, by decide +kernel⟩
theorem ms_X9_both : MS yX9_both cX9_both 3 (some .int) 3 := ⟨tb_in (List.mem_of_getElem? (i := 1060) (by decide +kernel)) rfl, tb_in (List.mem_of_getElem? (i := 1059) (by decide +kernel)) rfl, tb_in (List.mem_of_getElem? (i := 47) (by decide +kernel)) rfl, by decide +kernel, by decide +kernel, by decide +kernel⟩
theorem mv_X9_says : MV yX9_says cX9_says 6 (some .int) 2 := ⟨tb_in (List.mem_of_getElem? (i := 1049) (by decide +kernel)) rfl, tb_in (List.mem_of_getElem? (i := 1048) (by decide +kernel)) rfl, tb_in (List.mem_of_getElem? (i := 31) (by decide +kernel)) rfl, tb_in (List.mem_of_getElem? (i := 47) (by decide +kernel)) rfl, by decide +kernel, by decide +kernel, by decide +kernel⟩
theorem mv_X9_isGift : MV yX9_isGift cX9_isGift 2 (some .boolean) 1 := ⟨tb_in (List.mem_of_getElem? (i := 1068) (by decide +kernel)) rfl, tb_in (List.mem_of_getElem? (i := 1067) (by decide +kernel)) rfl, tb_in (List.mem_of_getElem? (i := 34) (by decide +kernel)) rfl, tb_in (List.mem_of_getElem? (i := 47) (by decide +kernel)) rfl, by decide +kernel, by decide +kernel, by decide +kernel⟩
theorem mv_X9_gift : MV yX9_gift cX9_gift 4 (some .int) 1 := ⟨tb_in (List.mem_of_getElem? (i := 1016) (by decide +kernel)) rfl, tb_in (List.mem_of_getElem? (i := 1014) (by decide +kernel)) rfl, tb_in (List.mem_of_getElem? (i := 1015) (by decide +kernel)) rfl, tb_in (List.mem_of_getElem? (i := 47) (by decide +kernel)) rfl, by decide +kernel, by decide +kernel, by decide +kernel⟩
theorem mv_X9_statute : MV yX9_statute cX9_statute 3 (some .int) 1 := ⟨tb_in (List.mem_of_getElem? (i := 1041) (by decide +kernel)) rfl, tb_in (List.mem_of_getElem? (i := 1039) (by decide +kernel)) rfl, tb_in (List.mem_of_getElem? (i := 1040) (by decide +kernel)) rfl, tb_in (List.mem_of_getElem? (i := 47) (by decide +kernel)) rfl, by decide +kernel, by decide +kernel, by decide +kernel⟩
theorem mv_X9_work : MV yX9_work cX9_work 3 (some .int) 0 := ⟨tb_in (List.mem_of_getElem? (i := 1045) (by decide +kernel)) rfl, tb_in (List.mem_of_getElem? (i := 1043) (by decide +kernel)) rfl, tb_in (List.mem_of_getElem? (i := 1044) (by decide +kernel)) rfl, tb_in (List.mem_of_getElem? (i := 47) (by decide +kernel)) rfl, by decide +kernel, by decide +kernel, by decide +kernel⟩
theorem mv_X9_endFor : MV yX9_endFor cX9_endFor 3 (some .int) 2 := ⟨tb_in (List.mem_of_getElem? (i := 1072) (by decide +kernel)) rfl, tb_in (List.mem_of_getElem? (i := 1071) (by decide +kernel)) rfl, tb_in (List.mem_of_getElem? (i := 35) (by decide +kernel)) rfl, tb_in (List.mem_of_getElem? (i := 47) (by decide +kernel)) rfl, by decide +kernel, by decide +kernel, by decide +kernel⟩
theorem mv_X9_end : MV yX9_end cX9_end 3 (some .int) 2 := ⟨tb_in (List.mem_of_getElem? (i := 1064) (by decide +kernel)) rfl, tb_in (List.mem_of_getElem? (i := 1062) (by decide +kernel)) rfl, tb_in (List.mem_of_getElem? (i := 1063) (by decide +kernel)) rfl, tb_in (List.mem_of_getElem? (i := 47) (by decide +kernel)) rfl, by decide +kernel, by decide +kernel, by decide +kernel⟩
theorem mv_X9_hinders : MV yX9_hinders cX9_hinders 5 (some .int) 1 := ⟨tb_in (List.mem_of_getElem? (i := 1081) (by decide +kernel)) rfl, tb_in (List.mem_of_getElem? (i := 1080) (by decide +kernel)) rfl, tb_in (List.mem_of_getElem? (i := 36) (by decide +kernel)) rfl, tb_in (List.mem_of_getElem? (i := 47) (by decide +kernel)) rfl, by decide +kernel, by decide +kernel, by decide +kernel⟩
theorem mv_X9_may : MV yX9_may cX9_may 2 (some .int) 1 := ⟨tb_in (List.mem_of_getElem? (i := 1077) (by decide +kernel)) rfl, tb_in (List.mem_of_getElem? (i := 1075) (by decide +kernel)) rfl, tb_in (List.mem_of_getElem? (i := 1076) (by decide +kernel)) rfl, tb_in (List.mem_of_getElem? (i := 47) (by decide +kernel)) rfl, by decide +kernel, by decide +kernel, by decide +kernel⟩
theorem mv_X9_falls : MV yX9_falls cX9_falls 2 (some .int) 1 := ⟨tb_in (List.mem_of_getElem? (i := 1090) (by decide +kernel)) rfl, tb_in (List.mem_of_getElem? (i := 1088) (by decide +kernel)) rfl, tb_in (List.mem_of_getElem? (i := 1089) (by decide +kernel)) rfl, tb_in (List.mem_of_getElem? (i := 47) (by decide +kernel)) rfl, by decide +kernel, by decide +kernel, by decide +kernel⟩
theorem mv_X9_lay : MV yX9_lay cX9_lay 6 (some .int) 1 := ⟨tb_in (List.mem_of_getElem? (i := 1094) (by decide +kernel)) rfl, tb_in (List.mem_of_getElem? (i := 1092) (by decide +kernel)) rfl, tb_in (List.mem_of_getElem? (i := 1093) (by decide +kernel)) rfl, tb_in (List.mem_of_getElem? (i := 47) (by decide +kernel)) rfl, by decide +kernel, by decide +kernel, by decide +kernel⟩
theorem mv_X9_strike : MV yX9_strike cX9_strike 2 (some .int) 1 := ⟨tb_in (List.mem_of_getElem? (i := 1098) (by decide +kernel)) rfl, tb_in (List.mem_of_getElem? (i := 1096) (by decide +kernel)) rfl, tb_in (List.mem_of_getElem? (i := 1097) (by decide +kernel)) rfl, tb_in (List.mem_of_getElem? (i := 47) (by decide +kernel)) rfl, by decide +kernel, by decide +kernel, by decide +kernel⟩
theorem mv_X9_prop : MV yX9_prop cX9_prop 4 (some .int) 2 := ⟨tb_in (List.mem_of_getElem? (i := 1102) (by decide +kernel)) rfl, tb_in (List.mem_of_getElem? (i := 1100) (by decide +kernel)) rfl, tb_in (List.mem_of_getElem? (i := 1101) (by decide +kernel)) rfl, tb_in (List.mem_of_getElem? (i := 47) (by decide +kernel)) rfl, by decide +kernel, by decide +kernel, by decide +kernel⟩
theorem mv_X9_month : MV yX9_month cX9_month 5 (some .int) 1 := ⟨tb_in (List.mem_of_getElem? (i := 1106) (by decide +kernel)) rfl, tb_in (List.mem_of_getElem? (i := 1104) (by decide +kernel)) rfl, tb_in (List.mem_of_getElem? (i := 1105) (by decide +kernel)) rfl, tb_in (List.mem_of_getElem? (i := 47) (by decide +kernel)) rfl, by decide +kernel, by decide +kernel, by decide +kernel⟩
theorem mv_X9_frost : MV yX9_frost cX9_frost 3 (some .int) 1 := ⟨tb_in (List.mem_of_getElem? (i := 1110) (by decide +kernel)) rfl, tb_in (List.mem_of_getElem? (i := 1108) (by decide +kernel)) rfl, tb_in (List.mem_of_getElem? (i := 1109) (by decide +kernel)) rfl, tb_in (List.mem_of_getElem? (i := 47) (by decide +kernel)) rfl, by decide +kernel, by decide +kernel, by decide +kernel⟩
theorem mv_X9_bitter : MV yX9_bitter cX9_bitter 3 (some .int) 1 := ⟨tb_in (List.mem_of_getElem? (i := 1114) (by decide +kernel)) rfl, tb_in (List.mem_of_getElem? (i := 1112) (by decide +kernel)) rfl, tb_in (List.mem_of_getElem? (i := 1113) (by decide +kernel)) rfl, tb_in (List.mem_of_getElem? (i := 47) (by decide +kernel)) rfl, by decide +kernel, by decide +kernel, by decide +kernel⟩
theorem mv_X9_about : MV yX9_about cX9_about 5 (some .int) 2 := ⟨tb_in (List.mem_of_getElem? (i := 1118) (by decide +kernel)) rfl, tb_in (List.mem_of_getElem? (i := 1116) (by decide +kernel)) rfl, tb_in (List.mem_of_getElem? (i := 1117) (by decide +kernel)) rfl, tb_in (List.mem_of_getElem? (i := 47) (by decide +kernel)) rfl, by decide +kernel, by decide +kernel, by decide +kernel⟩
theorem mv_X9_stands : MV yX9_stands cX9_stands 4 (some .boolean) 2 := ⟨tb_in (List.mem_of_getElem? (i := 1122) (by decide +kernel)) rfl, tb_in (List.mem_of_getElem? (i := 1121) (by decide +kernel)) rfl, tb_in (List.mem_of_getElem? (i := 38) (by decide +kernel)) rfl, tb_in (List.mem_of_getElem? (i := 47) (by decide +kernel)) rfl, by decide +kernel, by decide +kernel, by decide +kernel⟩
theorem mv_X9_support : MV yX9_support cX9_support 3 (some .int) 2 := ⟨tb_in (List.mem_of_getElem? (i := 1126) (by decide +kernel)) rfl, tb_in (List.mem_of_getElem? (i := 1124) (by decide +kernel)) rfl, tb_in (List.mem_of_getElem? (i := 1125) (by decide +kernel)) rfl, tb_in (List.mem_of_getElem? (i := 47) (by decide +kernel)) rfl, by decide +kernel, by decide +kernel, by decide +kernel⟩
theorem mv_X9_left : MV yX9_left cX9_left 3 (some .int) 2 := ⟨tb_in (List.mem_of_getElem? (i := 1130) (by decide +kernel)) rfl, tb_in (List.mem_of_getElem? (i := 1128) (by decide +kernel)) rfl, tb_in (List.mem_of_getElem? (i := 1129) (by decide +kernel)) rfl, tb_in (List.mem_of_getElem? (i := 47) (by decide +kernel)) rfl, by decide +kernel, by decide +kernel, by decide +kernel⟩
theorem mv_X9_as : MV yX9_as cX9_as 3 (some .int) 2 := ⟨tb_in (List.mem_of_getElem? (i := 1134) (by decide +kernel)) rfl, tb_in (List.mem_of_getElem? (i := 1132) (by decide +kernel)) rfl, tb_in (List.mem_of_getElem? (i := 1133) (by decide +kernel)) rfl, tb_in (List.mem_of_getElem? (i := 47) (by decide +kernel)) rfl, by decide +kernel, by decide +kernel, by decide +kernel⟩
theorem mv_X9_down : MV yX9_down cX9_down 4 (some .int) 1 := ⟨tb_in (List.mem_of_getElem? (i := 1138) (by decide +kernel)) rfl, tb_in (List.mem_of_getElem? (i := 1136) (by decide +kernel)) rfl, tb_in (List.mem_of_getElem? (i := 1137) (by decide +kernel)) rfl, tb_in (List.mem_of_getElem? (i := 47) (by decide +kernel)) rfl, by decide +kernel, by decide +kernel, by decide +kernel⟩
theorem mv_X9_needs : MV yX9_needs cX9_needs 5 (some .int) 1 := ⟨tb_in (List.mem_of_getElem? (i := 1142) (by decide +kernel)) rfl, tb_in (List.mem_of_getElem? (i := 1140) (by decide +kernel)) rfl, tb_in (List.mem_of_getElem? (i := 1141) (by decide +kernel)) rfl, tb_in (List.mem_of_getElem? (i := 47) (by decide +kernel)) rfl, by decide +kernel, by decide +kernel, by decide +kernel⟩
theorem mv_X9_count : MV yX9_count cX9_count 4 (some .int) 1 := ⟨tb_in (List.mem_of_getElem? (i := 1146) (by decide +kernel)) rfl, tb_in (List.mem_of_getElem? (i := 1144) (by decide +kernel)) rfl, tb_in (List.mem_of_getElem? (i := 1145) (by decide +kernel)) rfl, tb_in (List.mem_of_getElem? (i := 47) (by decide +kernel)) rfl, by decide +kernel, by decide +kernel, by decide +kernel⟩
theorem ms_J11_isValidCodePoint_9a6ad : MS yJ11_isValidCodePoint_9a6ad cJ11_isValidCodePoint_9a6ad 2 (some .boolean) 1 := ⟨tb_in (List.mem_of_getElem? (i := 529) (by decide +kernel)) rfl, tb_in (List.mem_of_getElem? (i := 528) (by decide +kernel)) rfl, tb_in (List.mem_of_getElem? (i := 54) (by decide +kernel)) rfl, by decide +kernel, by decide +kernel, by decide +kernel⟩
theorem ms_J11_highSurrogate_5068e : MS yJ11_highSurrogate_5068e cJ11_highSurrogate_5068e 1 (some .char) 1 := ⟨tb_in (List.mem_of_getElem? (i := 532) (by decide +kernel)) rfl, tb_in (List.mem_of_getElem? (i := 531) (by decide +kernel)) rfl, tb_in (List.mem_of_getElem? (i := 54) (by decide +kernel)) rfl, by decide +kernel, by decide +kernel, by decide +kernel⟩
theorem ms_J11_lowSurrogate_5068e : MS yJ11_lowSurrogate_5068e cJ11_lowSurrogate_5068e 1 (some .char) 1 := ⟨tb_in (List.mem_of_getElem? (i := 536) (by decide +kernel)) rfl, tb_in (List.mem_of_getElem? (i := 535) (by decide +kernel)) rfl, tb_in (List.mem_of_getElem? (i := 54) (by decide +kernel)) rfl, by decide +kernel, by decide +kernel, by decide +kernel⟩
theorem ms_J9_abs_0f7a4 : MS yJ9_abs_0f7a4 cJ9_abs_0f7a4 1 (some .int) 1 := ⟨tb_in (List.mem_of_getElem? (i := 410) (by decide +kernel)) rfl, tb_in (List.mem_of_getElem? (i := 409) (by decide +kernel)) rfl, tb_in (List.mem_of_getElem? (i := 50) (by decide +kernel)) rfl, by decide +kernel, by decide +kernel, by decide +kernel⟩
theorem ms_J9_max_7cf53 : MS yJ9_max_7cf53 cJ9_max_7cf53 2 (some .int) 2 := ⟨tb_in (List.mem_of_getElem? (i := 482) (by decide +kernel)) rfl, tb_in (List.mem_of_getElem? (i := 481) (by decide +kernel)) rfl, tb_in (List.mem_of_getElem? (i := 50) (by decide +kernel)) rfl, by decide +kernel, by decide +kernel, by decide +kernel⟩
theorem ms_J9_min_7cf53 : MS yJ9_min_7cf53 cJ9_min_7cf53 2 (some .int) 2 := ⟨tb_in (List.mem_of_getElem? (i := 485) (by decide +kernel)) rfl, tb_in (List.mem_of_getElem? (i := 484) (by decide +kernel)) rfl, tb_in (List.mem_of_getElem? (i := 50) (by decide +kernel)) rfl, by decide +kernel, by decide +kernel, by decide +kernel⟩
theorem mv_J0_length_8abf5 : MV yJ0_length_8abf5 cJ0_length_8abf5 1 (some .int) 0 := ⟨tb_in (List.mem_of_getElem? (i := 169) (by decide +kernel)) rfl, tb_in (List.mem_of_getElem? (i := 167) (by decide +kernel)) rfl, tb_in (List.mem_of_getElem? (i := 168) (by decide +kernel)) rfl, tb_in (List.mem_of_getElem? (i := 46) (by decide +kernel)) rfl, by decide +kernel, by decide +kernel, by decide +kernel⟩
theorem mv_J0_indexOf_0f7a4 : MV yJ0_indexOf_0f7a4 cJ0_indexOf_0f7a4 2 (some .int) 1 := ⟨tb_in (List.mem_of_getElem? (i := 464) (by decide +kernel)) rfl, tb_in (List.mem_of_getElem? (i := 462) (by decide +kernel)) rfl, tb_in (List.mem_of_getElem? (i := 463) (by decide +kernel)) rfl, tb_in (List.mem_of_getElem? (i := 46) (by decide +kernel)) rfl, by decide +kernel, by decide +kernel, by decide +kernel⟩
theorem mv_J0_indexOf_7cf53 : MV yJ0_indexOf_7cf53 cJ0_indexOf_7cf53 3 (some .int) 2 := ⟨tb_in (List.mem_of_getElem? (i := 468) (by decide +kernel)) rfl, tb_in (List.mem_of_getElem? (i := 466) (by decide +kernel)) rfl, tb_in (List.mem_of_getElem? (i := 467) (by decide +kernel)) rfl, tb_in (List.mem_of_getElem? (i := 46) (by decide +kernel)) rfl, by decide +kernel, by decide +kernel, by decide +kernel⟩
theorem mv_J0_coder_7d493 : MV yJ0_coder_7d493 cJ0_coder_7d493 1 (some .byte) 0 := ⟨tb_in (List.mem_of_getElem? (i := 173) (by decide +kernel)) rfl, tb_in (List.mem_of_getElem? (i := 171) (by decide +kernel)) rfl, tb_in (List.mem_of_getElem? (i := 172) (by decide +kernel)) rfl, tb_in (List.mem_of_getElem? (i := 46) (by decide +kernel)) rfl, by decide +kernel, by decide +kernel, by decide +kernel⟩
theorem mv_J0_isLatin1_aae02 : MV yJ0_isLatin1_aae02 cJ0_isLatin1_aae02 1 (some .boolean) 0 := ⟨tb_in (List.mem_of_getElem? (i := 472) (by decide +kernel)) rfl, tb_in (List.mem_of_getElem? (i := 470) (by decide +kernel)) rfl, tb_in (List.mem_of_getElem? (i := 471) (by decide +kernel)) rfl, tb_in (List.mem_of_getElem? (i := 46) (by decide +kernel)) rfl, by decide +kernel, by decide +kernel, by decide +kernel⟩
theorem ms_J0_checkBoundsBeginEnd_23922 : MS yJ0_checkBoundsBeginEnd_23922 cJ0_checkBoundsBeginEnd_23922 3 none 3 := ⟨tb_in (List.mem_of_getElem? (i := 506) (by decide +kernel)) rfl, tb_in (List.mem_of_getElem? (i := 505) (by decide +kernel)) rfl, tb_in (List.mem_of_getElem? (i := 46) (by decide +kernel)) rfl, by decide +kernel, by decide +kernel, by decide +kernel⟩
theorem ms_J1_canEncode_9a6ad : MS yJ1_canEncode_9a6ad cJ1_canEncode_9a6ad 1 (some .boolean) 1 := ⟨tb_in (List.mem_of_getElem? (i := 479) (by decide +kernel)) rfl, tb_in (List.mem_of_getElem? (i := 478) (by decide +kernel)) rfl, tb_in (List.mem_of_getElem? (i := 51) (by decide +kernel)) rfl, by decide +kernel, by decide +kernel, by decide +kernel⟩
theorem ms_J1_indexOf_4cfef : MS yJ1_indexOf_4cfef cJ1_indexOf_4cfef 4 (some .int) 4 := ⟨tb_in (List.mem_of_getElem? (i := 476) (by decide +kernel)) rfl, tb_in (List.mem_of_getElem? (i := 475) (by decide +kernel)) rfl, tb_in (List.mem_of_getElem? (i := 51) (by decide +kernel)) rfl, by decide +kernel, by decide +kernel, by decide +kernel⟩
theorem ms_J1_indexOfChar_4cfef : MS yJ1_indexOfChar_4cfef cJ1_indexOfChar_4cfef 6 (some .int) 4 := ⟨tb_in (List.mem_of_getElem? (i := 488) (by decide +kernel)) rfl, tb_in (List.mem_of_getElem? (i := 487) (by decide +kernel)) rfl, tb_in (List.mem_of_getElem? (i := 51) (by decide +kernel)) rfl, by decide +kernel, by decide +kernel, by decide +kernel⟩
theorem ms_J2_getChar_3b067 : MS yJ2_getChar_3b067 cJ2_getChar_3b067 2 (some .char) 2 := ⟨tb_in (List.mem_of_getElem? (i := 517) (by decide +kernel)) rfl, tb_in (List.mem_of_getElem? (i := 516) (by decide +kernel)) rfl, tb_in (List.mem_of_getElem? (i := 52) (by decide +kernel)) rfl, by decide +kernel, by decide +kernel, by decide +kernel⟩
theorem ms_J2_length_9d52b : MS yJ2_length_9d52b cJ2_length_9d52b 1 (some .int) 1 := ⟨tb_in (List.mem_of_getElem? (i := 503) (by decide +kernel)) rfl, tb_in (List.mem_of_getElem? (i := 502) (by decide +kernel)) rfl, tb_in (List.mem_of_getElem? (i := 52) (by decide +kernel)) rfl, by decide +kernel, by decide +kernel, by decide +kernel⟩
theorem ms_J2_indexOf_4cfef : MS yJ2_indexOf_4cfef cJ2_indexOf_4cfef 4 (some .int) 4 := ⟨tb_in (List.mem_of_getElem? (i := 491) (by decide +kernel)) rfl, tb_in (List.mem_of_getElem? (i := 490) (by decide +kernel)) rfl, tb_in (List.mem_of_getElem? (i := 52) (by decide +kernel)) rfl, by decide +kernel, by decide +kernel, by decide +kernel⟩
theorem ms_J2_indexOfChar_4cfef : MS yJ2_indexOfChar_4cfef cJ2_indexOfChar_4cfef 4 (some .int) 4 := ⟨tb_in (List.mem_of_getElem? (i := 497) (by decide +kernel)) rfl, tb_in (List.mem_of_getElem? (i := 496) (by decide +kernel)) rfl, tb_in (List.mem_of_getElem? (i := 52) (by decide +kernel)) rfl, by decide +kernel, by decide +kernel, by decide +kernel⟩
theorem ms_J2_indexOfCharUnsafe_4cfef : MS yJ2_indexOfCharUnsafe_4cfef cJ2_indexOfCharUnsafe_4cfef 5 (some .int) 4 := ⟨tb_in (List.mem_of_getElem? (i := 514) (by decide +kernel)) rfl, tb_in (List.mem_of_getElem? (i := 513) (by decide +kernel)) rfl, tb_in (List.mem_of_getElem? (i := 52) (by decide +kernel)) rfl, by decide +kernel, by decide +kernel, by decide +kernel⟩
theorem ms_J2_indexOfSupplementary_4cfef : MS yJ2_indexOfSupplementary_4cfef cJ2_indexOfSupplementary_4cfef 7 (some .int) 4 := ⟨tb_in (List.mem_of_getElem? (i := 526) (by decide +kernel)) rfl, tb_in (List.mem_of_getElem? (i := 525) (by decide +kernel)) rfl, tb_in (List.mem_of_getElem? (i := 52) (by decide +kernel)) rfl, by decide +kernel, by decide +kernel, by decide +kernel⟩
theorem ms_J2_checkBoundsBeginEnd_d044e : MS yJ2_checkBoundsBeginEnd_d044e cJ2_checkBoundsBeginEnd_d044e 3 none 3 := ⟨tb_in (List.mem_of_getElem? (i := 500) (by decide +kernel)) rfl, tb_in (List.mem_of_getElem? (i := 499) (by decide +kernel)) rfl, tb_in (List.mem_of_getElem? (i := 52) (by decide +kernel)) rfl, by decide +kernel, by decide +kernel, by decide +kernel⟩
theorem ms_J7_fill_53178 : MS yJ7_fill_53178 cJ7_fill_53178 4 none 2 := ⟨tb_in (List.mem_of_getElem? (i := 388) (by decide +kernel)) rfl, tb_in (List.mem_of_getElem? (i := 387) (by decide +kernel)) rfl, tb_in (List.mem_of_getElem? (i := 49) (by decide +kernel)) rfl, by decide +kernel, by decide +kernel, by decide +kernel⟩
theorem ms_J7_copyOf_59c91 : MS yJ7_copyOf_59c91 cJ7_copyOf_59c91 3 (some (.array .int)) 2 := ⟨tb_in (List.mem_of_getElem? (i := 678) (by decide +kernel)) rfl, tb_in (List.mem_of_getElem? (i := 677) (by decide +kernel)) rfl, tb_in (List.mem_of_getElem? (i := 49) (by decide +kernel)) rfl, by decide +kernel, by decide +kernel, by decide +kernel⟩
theorem ms_J3_checkFromToIndex_8c36e : MS yJ3_checkFromToIndex_8c36e cJ3_checkFromToIndex_8c36e 4 (some .int) 4 := ⟨tb_in (List.mem_of_getElem? (i := 511) (by decide +kernel)) rfl, tb_in (List.mem_of_getElem? (i := 510) (by decide +kernel)) rfl, tb_in (List.mem_of_getElem? (i := 53) (by decide +kernel)) rfl, by decide +kernel, by decide +kernel, by decide +kernel⟩
theorem ml_RX0_22 : Cond.methodLink RX0 22 yX0_hasFrost ∈ tb := tb_in (List.mem_of_getElem? (i := 605) (by decide +kernel)) rfl
theorem kc_RX2_9 : Cond.constant RX2 9 (1000000) ∈ tb := tb_in (List.mem_of_getElem? (i := 241) (by decide +kernel)) rfl
theorem ml_RX2_44 : Cond.methodLink RX2 44 yX2_isBegun ∈ tb := tb_in (List.mem_of_getElem? (i := 394) (by decide +kernel)) rfl
theorem ml_RX2_58 : Cond.methodLink RX2 58 yX2_portion ∈ tb := tb_in (List.mem_of_getElem? (i := 773) (by decide +kernel)) rfl
theorem ml_RX3_34 : Cond.methodLink RX3 34 yX3_isSupportFor ∈ tb := tb_in (List.mem_of_getElem? (i := 335) (by decide +kernel)) rfl
theorem ml_RX3_38 : Cond.methodLink RX3 38 yX3_isReadBefore ∈ tb := tb_in (List.mem_of_getElem? (i := 338) (by decide +kernel)) rfl
theorem ml_RX3_42 : Cond.methodLink RX3 42 yX2_standOn ∈ tb := tb_in (List.mem_of_getElem? (i := 350) (by decide +kernel)) rfl
theorem ml_RX3_52 : Cond.methodLink RX3 52 yX3_find ∈ tb := tb_in (List.mem_of_getElem? (i := 367) (by decide +kernel)) rfl
theorem ml_RX3_62 : Cond.methodLink RX3 62 yX2_isWhole ∈ tb := tb_in (List.mem_of_getElem? (i := 427) (by decide +kernel)) rfl
theorem ml_RX3_66 : Cond.methodLink RX3 66 yX2_isOnCentring ∈ tb := tb_in (List.mem_of_getElem? (i := 428) (by decide +kernel)) rfl
theorem ml_RX3_69 : Cond.methodLink RX3 69 yX2_isBegun ∈ tb := tb_in (List.mem_of_getElem? (i := 610) (by decide +kernel)) rfl
theorem ml_RX3_75 : Cond.methodLink RX3 75 yX2_standsOn ∈ tb := tb_in (List.mem_of_getElem? (i := 744) (by decide +kernel)) rfl
theorem ml_RX4_11 : Cond.methodLink RX4 11 yJ0_length_8abf5 ∈ tb := tb_in (List.mem_of_getElem? (i := 166) (by decide +kernel)) rfl
theorem ml_RX4_44 : Cond.methodLink RX4 44 yX4_valueOf ∈ tb := tb_in (List.mem_of_getElem? (i := 565) (by decide +kernel)) rfl
theorem ml_RX4_53 : Cond.methodLink RX4 53 yX4_isSign ∈ tb := tb_in (List.mem_of_getElem? (i := 457) (by decide +kernel)) rfl
theorem ml_RX4_57 : Cond.methodLink RX4 57 yX4_meaningOf ∈ tb := tb_in (List.mem_of_getElem? (i := 538) (by decide +kernel)) rfl
theorem ml_RX4_61 : Cond.methodLink RX4 61 yX4_truth ∈ tb := tb_in (List.mem_of_getElem? (i := 542) (by decide +kernel)) rfl
theorem ml_RX4_65 : Cond.methodLink RX4 65 yX4_join ∈ tb := tb_in (List.mem_of_getElem? (i := 545) (by decide +kernel)) rfl
theorem ml_RX4_71 : Cond.methodLink RX4 71 yJ0_indexOf_0f7a4 ∈ tb := tb_in (List.mem_of_getElem? (i := 461) (by decide +kernel)) rfl
theorem ml_RX5_18 : Cond.methodLink RX5 18 yJ7_fill_53178 ∈ tb := tb_in (List.mem_of_getElem? (i := 386) (by decide +kernel)) rfl
theorem ml_RX5_30 : Cond.methodLink RX5 30 yX3_find ∈ tb := tb_in (List.mem_of_getElem? (i := 389) (by decide +kernel)) rfl
theorem ml_RX5_42 : Cond.methodLink RX5 42 yX2_isOnCentring ∈ tb := tb_in (List.mem_of_getElem? (i := 390) (by decide +kernel)) rfl
theorem ml_RX5_46 : Cond.methodLink RX5 46 yX5_passDown ∈ tb := tb_in (List.mem_of_getElem? (i := 395) (by decide +kernel)) rfl
theorem ml_RX5_50 : Cond.methodLink RX5 50 yX5_pushAside ∈ tb := tb_in (List.mem_of_getElem? (i := 403) (by decide +kernel)) rfl
theorem ml_RX5_59 : Cond.methodLink RX5 59 yX2_portion ∈ tb := tb_in (List.mem_of_getElem? (i := 399) (by decide +kernel)) rfl
theorem ml_RX5_66 : Cond.methodLink RX5 66 yX2_isBegun ∈ tb := tb_in (List.mem_of_getElem? (i := 407) (by decide +kernel)) rfl
theorem ml_RX5_72 : Cond.methodLink RX5 72 yX5_weigh ∈ tb := tb_in (List.mem_of_getElem? (i := 382) (by decide +kernel)) rfl
theorem ml_RX5_76 : Cond.methodLink RX5 76 yJ9_abs_0f7a4 ∈ tb := tb_in (List.mem_of_getElem? (i := 408) (by decide +kernel)) rfl
theorem ml_RX6_30 : Cond.methodLink RX6 30 yJ7_copyOf_59c91 ∈ tb := tb_in (List.mem_of_getElem? (i := 676) (by decide +kernel)) rfl
theorem ml_RX6_36 : Cond.methodLink RX6 36 yX7_init ∈ tb := tb_in (List.mem_of_getElem? (i := 690) (by decide +kernel)) rfl
theorem ml_RX6_44 : Cond.methodLink RX6 44 yJ0_indexOf_0f7a4 ∈ tb := tb_in (List.mem_of_getElem? (i := 645) (by decide +kernel)) rfl
theorem ml_RX6_50 : Cond.methodLink RX6 50 yX6_openSign ∈ tb := tb_in (List.mem_of_getElem? (i := 646) (by decide +kernel)) rfl
theorem ml_RX6_54 : Cond.methodLink RX6 54 yX6_readLeaf ∈ tb := tb_in (List.mem_of_getElem? (i := 654) (by decide +kernel)) rfl
theorem ml_RX6_57 : Cond.methodLink RX6 57 yX6_closeSigns ∈ tb := tb_in (List.mem_of_getElem? (i := 666) (by decide +kernel)) rfl
theorem ml_RX6_61 : Cond.methodLink RX6 61 yX6_keep ∈ tb := tb_in (List.mem_of_getElem? (i := 650) (by decide +kernel)) rfl
theorem ml_RX6_64 : Cond.methodLink RX6 64 yX6_readNumber ∈ tb := tb_in (List.mem_of_getElem? (i := 658) (by decide +kernel)) rfl
theorem ml_RX6_67 : Cond.methodLink RX6 67 yX6_isDigit ∈ tb := tb_in (List.mem_of_getElem? (i := 662) (by decide +kernel)) rfl
theorem ml_RX8_63 : Cond.methodLink RX8 63 yX8_isMeasure ∈ tb := tb_in (List.mem_of_getElem? (i := 232) (by decide +kernel)) rfl
theorem ml_RX8_73 : Cond.methodLink RX8 73 yX2_init ∈ tb := tb_in (List.mem_of_getElem? (i := 237) (by decide +kernel)) rfl
theorem ml_RX8_76 : Cond.methodLink RX8 76 yX3_add ∈ tb := tb_in (List.mem_of_getElem? (i := 311) (by decide +kernel)) rfl
theorem ml_RX8_80 : Cond.methodLink RX8 80 yX3_find ∈ tb := tb_in (List.mem_of_getElem? (i := 319) (by decide +kernel)) rfl
theorem ml_RX8_84 : Cond.methodLink RX8 84 yX2_standOn ∈ tb := tb_in (List.mem_of_getElem? (i := 323) (by decide +kernel)) rfl
theorem ml_RX8_91 : Cond.methodLink RX8 91 yX3_readSupports ∈ tb := tb_in (List.mem_of_getElem? (i := 331) (by decide +kernel)) rfl
theorem ml_RX8_98 : Cond.methodLink RX8 98 yX2_isBegun ∈ tb := tb_in (List.mem_of_getElem? (i := 342) (by decide +kernel)) rfl
theorem ml_RX8_105 : Cond.methodLink RX8 105 yX3_setSupports ∈ tb := tb_in (List.mem_of_getElem? (i := 346) (by decide +kernel)) rfl
theorem ml_RX8_112 : Cond.methodLink RX8 112 yX3_keepEdition ∈ tb := tb_in (List.mem_of_getElem? (i := 351) (by decide +kernel)) rfl
theorem ml_RX8_116 : Cond.methodLink RX8 116 yX3_coursesIn ∈ tb := tb_in (List.mem_of_getElem? (i := 363) (by decide +kernel)) rfl
theorem ml_RX8_125 : Cond.methodLink RX8 125 yX8_stands ∈ tb := tb_in (List.mem_of_getElem? (i := 374) (by decide +kernel)) rfl
theorem ml_RX8_128 : Cond.methodLink RX8 128 yX8_hindranceOfCourse ∈ tb := tb_in (List.mem_of_getElem? (i := 415) (by decide +kernel)) rfl
theorem ml_RX8_132 : Cond.methodLink RX8 132 yX8_payFor ∈ tb := tb_in (List.mem_of_getElem? (i := 570) (by decide +kernel)) rfl
theorem ml_RX8_139 : Cond.methodLink RX8 139 yX2_takeCourse ∈ tb := tb_in (List.mem_of_getElem? (i := 575) (by decide +kernel)) rfl
theorem ml_RX8_149 : Cond.methodLink RX8 149 yX8_fallByCourse ∈ tb := tb_in (List.mem_of_getElem? (i := 566) (by decide +kernel)) rfl
theorem ml_RX8_152 : Cond.methodLink RX8 152 yX2_isOnCentring ∈ tb := tb_in (List.mem_of_getElem? (i := 591) (by decide +kernel)) rfl
theorem ml_RX8_155 : Cond.methodLink RX8 155 yX2_isWhole ∈ tb := tb_in (List.mem_of_getElem? (i := 419) (by decide +kernel)) rfl
theorem kc_RX8_165 : Cond.constant RX8 165 (100000) ∈ tb := tb_in (List.mem_of_getElem? (i := 596) (by decide +kernel)) rfl
theorem ml_RX8_169 : Cond.methodLink RX8 169 yX0_pass ∈ tb := tb_in (List.mem_of_getElem? (i := 601) (by decide +kernel)) rfl
theorem ml_RX8_173 : Cond.methodLink RX8 173 yX3_ageAll ∈ tb := tb_in (List.mem_of_getElem? (i := 606) (by decide +kernel)) rfl
theorem ml_RX8_179 : Cond.methodLink RX8 179 yX0_isAhead ∈ tb := tb_in (List.mem_of_getElem? (i := 619) (by decide +kernel)) rfl
theorem ml_RX8_183 : Cond.methodLink RX8 183 yX0_makeBitter ∈ tb := tb_in (List.mem_of_getElem? (i := 623) (by decide +kernel)) rfl
theorem ml_RX8_189 : Cond.methodLink RX8 189 yX6_take ∈ tb := tb_in (List.mem_of_getElem? (i := 631) (by decide +kernel)) rfl
theorem kc_RX8_193 : Cond.constant RX8 193 (1000000) ∈ tb := tb_in (List.mem_of_getElem? (i := 639) (by decide +kernel)) rfl
theorem ml_RX8_197 : Cond.methodLink RX8 197 yX6_read ∈ tb := tb_in (List.mem_of_getElem? (i := 640) (by decide +kernel)) rfl
theorem ml_RX8_201 : Cond.methodLink RX8 201 yX6_asText ∈ tb := tb_in (List.mem_of_getElem? (i := 670) (by decide +kernel)) rfl
theorem ml_RX8_205 : Cond.methodLink RX8 205 yX1_init ∈ tb := tb_in (List.mem_of_getElem? (i := 700) (by decide +kernel)) rfl
theorem ml_RX8_211 : Cond.methodLink RX8 211 yX8_findGift ∈ tb := tb_in (List.mem_of_getElem? (i := 557) (by decide +kernel)) rfl
theorem kc_RX8_215 : Cond.constant RX8 215 (-2000000000) ∈ tb := tb_in (List.mem_of_getElem? (i := 725) (by decide +kernel)) rfl
theorem ml_RX8_216 : Cond.methodLink RX8 216 yX8_nameMonth ∈ tb := tb_in (List.mem_of_getElem? (i := 437) (by decide +kernel)) rfl
theorem ml_RX8_219 : Cond.methodLink RX8 219 yX4_namePart ∈ tb := tb_in (List.mem_of_getElem? (i := 553) (by decide +kernel)) rfl
theorem ml_RX8_222 : Cond.methodLink RX8 222 yX4_endOf ∈ tb := tb_in (List.mem_of_getElem? (i := 561) (by decide +kernel)) rfl
theorem ml_RX8_226 : Cond.methodLink RX8 226 yX8_loadOf ∈ tb := tb_in (List.mem_of_getElem? (i := 730) (by decide +kernel)) rfl
theorem ml_RX8_229 : Cond.methodLink RX8 229 yX8_pushToRightOn ∈ tb := tb_in (List.mem_of_getElem? (i := 735) (by decide +kernel)) rfl
theorem ml_RX8_232 : Cond.methodLink RX8 232 yJ9_abs_0f7a4 ∈ tb := tb_in (List.mem_of_getElem? (i := 739) (by decide +kernel)) rfl
theorem ml_RX8_237 : Cond.methodLink RX8 237 yX3_countBorneBy ∈ tb := tb_in (List.mem_of_getElem? (i := 740) (by decide +kernel)) rfl
theorem ml_RX8_258 : Cond.methodLink RX8 258 yX8_statuteInForce ∈ tb := tb_in (List.mem_of_getElem? (i := 433) (by decide +kernel)) rfl
theorem ml_RX8_261 : Cond.methodLink RX8 261 yX4_nameNoPart ∈ tb := tb_in (List.mem_of_getElem? (i := 449) (by decide +kernel)) rfl
theorem ml_RX8_264 : Cond.methodLink RX8 264 yX4_valueOf ∈ tb := tb_in (List.mem_of_getElem? (i := 453) (by decide +kernel)) rfl
theorem ml_RX8_268 : Cond.methodLink RX8 268 yJ9_max_7cf53 ∈ tb := tb_in (List.mem_of_getElem? (i := 548) (by decide +kernel)) rfl
theorem ml_RX8_271 : Cond.methodLink RX8 271 yX2_laidTill ∈ tb := tb_in (List.mem_of_getElem? (i := 761) (by decide +kernel)) rfl
theorem ml_RX8_274 : Cond.methodLink RX8 274 yX2_heaviestWay ∈ tb := tb_in (List.mem_of_getElem? (i := 769) (by decide +kernel)) rfl
theorem ml_RX8_277 : Cond.methodLink RX8 277 yJ7_fill_53178 ∈ tb := tb_in (List.mem_of_getElem? (i := 778) (by decide +kernel)) rfl
theorem ml_RX8_283 : Cond.methodLink RX8 283 yX2_markSupports ∈ tb := tb_in (List.mem_of_getElem? (i := 779) (by decide +kernel)) rfl
theorem ml_RX8_287 : Cond.methodLink RX8 287 yX3_countLaid ∈ tb := tb_in (List.mem_of_getElem? (i := 787) (by decide +kernel)) rfl
theorem ml_RX8_290 : Cond.methodLink RX8 290 yX8_coinsRemaining ∈ tb := tb_in (List.mem_of_getElem? (i := 791) (by decide +kernel)) rfl
theorem ml_RX8_296 : Cond.methodLink RX8 296 yX5_leastFalling ∈ tb := tb_in (List.mem_of_getElem? (i := 378) (by decide +kernel)) rfl
theorem ml_RX8_300 : Cond.methodLink RX8 300 yX5_weigh ∈ tb := tb_in (List.mem_of_getElem? (i := 734) (by decide +kernel)) rfl
theorem ml_RX8_310 : Cond.methodLink RX8 310 yX3_isReadyBelow ∈ tb := tb_in (List.mem_of_getElem? (i := 423) (by decide +kernel)) rfl
theorem ml_RX8_314 : Cond.methodLink RX8 314 yX8_work ∈ tb := tb_in (List.mem_of_getElem? (i := 429) (by decide +kernel)) rfl
theorem ml_RX8_317 : Cond.methodLink RX8 317 yX8_coinsFor ∈ tb := tb_in (List.mem_of_getElem? (i := 549) (by decide +kernel)) rfl
theorem ml_RX8_320 : Cond.methodLink RX8 320 yJ9_min_7cf53 ∈ tb := tb_in (List.mem_of_getElem? (i := 574) (by decide +kernel)) rfl
theorem ml_RX8_323 : Cond.methodLink RX8 323 yX0_hasFrost ∈ tb := tb_in (List.mem_of_getElem? (i := 441) (by decide +kernel)) rfl
theorem ml_RX8_326 : Cond.methodLink RX8 326 yX4_nameMonth ∈ tb := tb_in (List.mem_of_getElem? (i := 445) (by decide +kernel)) rfl
theorem kc_RX9_62 : Cond.constant RX9 62 (48040) ∈ tb := tb_in (List.mem_of_getElem? (i := 801) (by decide +kernel)) rfl
theorem ml_RX9_125 : Cond.methodLink RX9 125 yX9_in ∈ tb := tb_in (List.mem_of_getElem? (i := 951) (by decide +kernel)) rfl
theorem kc_RX9_129 : Cond.constant RX9 129 (1000000) ∈ tb := tb_in (List.mem_of_getElem? (i := 958) (by decide +kernel)) rfl
theorem ml_RX9_130 : Cond.methodLink RX9 130 yX9_isPlan ∈ tb := tb_in (List.mem_of_getElem? (i := 948) (by decide +kernel)) rfl
theorem ml_RX9_133 : Cond.methodLink RX9 133 yX9_newPart ∈ tb := tb_in (List.mem_of_getElem? (i := 954) (by decide +kernel)) rfl
theorem ml_RX9_137 : Cond.methodLink RX9 137 yX9_isPart ∈ tb := tb_in (List.mem_of_getElem? (i := 963) (by decide +kernel)) rfl
theorem ml_RX9_141 : Cond.methodLink RX9 141 yX9_support0 ∈ tb := tb_in (List.mem_of_getElem? (i := 967) (by decide +kernel)) rfl
theorem ml_RX9_148 : Cond.methodLink RX9 148 yX9_edition ∈ tb := tb_in (List.mem_of_getElem? (i := 975) (by decide +kernel)) rfl
theorem ml_RX9_151 : Cond.methodLink RX9 151 yX9_goes ∈ tb := tb_in (List.mem_of_getElem? (i := 999) (by decide +kernel)) rfl
theorem kc_RX9_155 : Cond.constantLong RX9 155 (100) ∈ tb := tb_in (List.mem_of_getElem? (i := 1003) (by decide +kernel)) rfl
theorem ml_RX9_157 : Cond.methodLink RX9 157 yX9_weigh ∈ tb := tb_in (List.mem_of_getElem? (i := 995) (by decide +kernel)) rfl
theorem ml_RX9_160 : Cond.methodLink RX9 160 yX9_net ∈ tb := tb_in (List.mem_of_getElem? (i := 1004) (by decide +kernel)) rfl
theorem ml_RX9_164 : Cond.methodLink RX9 164 yX9_falling ∈ tb := tb_in (List.mem_of_getElem? (i := 991) (by decide +kernel)) rfl
theorem kc_RX9_168 : Cond.constant RX9 168 (100000) ∈ tb := tb_in (List.mem_of_getElem? (i := 1008) (by decide +kernel)) rfl
theorem ml_RX9_178 : Cond.methodLink RX9 178 yX9_isSign ∈ tb := tb_in (List.mem_of_getElem? (i := 1021) (by decide +kernel)) rfl
theorem ml_RX9_181 : Cond.methodLink RX9 181 yX9_lay0 ∈ tb := tb_in (List.mem_of_getElem? (i := 1024) (by decide +kernel)) rfl
theorem ml_RX9_185 : Cond.methodLink RX9 185 yX9_isDigit ∈ tb := tb_in (List.mem_of_getElem? (i := 1028) (by decide +kernel)) rfl
theorem ml_RX9_188 : Cond.methodLink RX9 188 yX9_isName ∈ tb := tb_in (List.mem_of_getElem? (i := 1031) (by decide +kernel)) rfl
theorem ml_RX9_197 : Cond.methodLink RX9 197 yX9_isFrost ∈ tb := tb_in (List.mem_of_getElem? (i := 1054) (by decide +kernel)) rfl
theorem ml_RX9_203 : Cond.methodLink RX9 203 yX9_named ∈ tb := tb_in (List.mem_of_getElem? (i := 1050) (by decide +kernel)) rfl
theorem ml_RX9_206 : Cond.methodLink RX9 206 yX9_both ∈ tb := tb_in (List.mem_of_getElem? (i := 1058) (by decide +kernel)) rfl
theorem ml_RX9_213 : Cond.methodLink RX9 213 yX9_read ∈ tb := tb_in (List.mem_of_getElem? (i := 1017) (by decide +kernel)) rfl
theorem ml_RX9_216 : Cond.methodLink RX9 216 yX9_keep ∈ tb := tb_in (List.mem_of_getElem? (i := 1034) (by decide +kernel)) rfl
theorem ml_RX9_222 : Cond.methodLink RX9 222 yX9_says ∈ tb := tb_in (List.mem_of_getElem? (i := 1046) (by decide +kernel)) rfl
theorem ml_RX9_225 : Cond.methodLink RX9 225 yX9_isGift ∈ tb := tb_in (List.mem_of_getElem? (i := 1065) (by decide +kernel)) rfl
theorem ml_RX9_228 : Cond.methodLink RX9 228 yX9_endFor ∈ tb := tb_in (List.mem_of_getElem? (i := 1069) (by decide +kernel)) rfl
theorem kc_RX9_231 : Cond.constant RX9 231 (-2000000000) ∈ tb := tb_in (List.mem_of_getElem? (i := 1073) (by decide +kernel)) rfl
theorem ml_RX9_232 : Cond.methodLink RX9 232 yX9_work ∈ tb := tb_in (List.mem_of_getElem? (i := 1082) (by decide +kernel)) rfl
theorem ml_RX9_235 : Cond.methodLink RX9 235 yX9_fallingBy ∈ tb := tb_in (List.mem_of_getElem? (i := 1083) (by decide +kernel)) rfl
theorem ml_RX9_238 : Cond.methodLink RX9 238 yX9_hinders ∈ tb := tb_in (List.mem_of_getElem? (i := 1078) (by decide +kernel)) rfl
theorem ml_RX9_244 : Cond.methodLink RX9 244 yX9_stands ∈ tb := tb_in (List.mem_of_getElem? (i := 1119) (by decide +kernel)) rfl
theorem kc_RJ11_110 : Cond.constant RJ11 110 (55232) ∈ tb := tb_in (List.mem_of_getElem? (i := 533) (by decide +kernel)) rfl
theorem kc_RJ11_76 : Cond.constant RJ11 76 (56320) ∈ tb := tb_in (List.mem_of_getElem? (i := 537) (by decide +kernel)) rfl
theorem ml_RJ0_335 : Cond.methodLink RJ0 335 yJ0_coder_7d493 ∈ tb := tb_in (List.mem_of_getElem? (i := 170) (by decide +kernel)) rfl
theorem ml_RJ0_633 : Cond.methodLink RJ0 633 yJ0_indexOf_7cf53 ∈ tb := tb_in (List.mem_of_getElem? (i := 465) (by decide +kernel)) rfl
theorem ml_RJ0_492 : Cond.methodLink RJ0 492 yJ0_isLatin1_aae02 ∈ tb := tb_in (List.mem_of_getElem? (i := 469) (by decide +kernel)) rfl
theorem ml_RJ0_505 : Cond.methodLink RJ0 505 yJ0_length_8abf5 ∈ tb := tb_in (List.mem_of_getElem? (i := 473) (by decide +kernel)) rfl
theorem ml_RJ0_637 : Cond.methodLink RJ0 637 yJ1_indexOf_4cfef ∈ tb := tb_in (List.mem_of_getElem? (i := 474) (by decide +kernel)) rfl
theorem ml_RJ0_640 : Cond.methodLink RJ0 640 yJ2_indexOf_4cfef ∈ tb := tb_in (List.mem_of_getElem? (i := 489) (by decide +kernel)) rfl
theorem ml_RJ0_1062 : Cond.methodLink RJ0 1062 yJ3_checkFromToIndex_8c36e ∈ tb := tb_in (List.mem_of_getElem? (i := 509) (by decide +kernel)) rfl
theorem ml_RJ1_88 : Cond.methodLink RJ1 88 yJ1_canEncode_9a6ad ∈ tb := tb_in (List.mem_of_getElem? (i := 477) (by decide +kernel)) rfl
theorem ml_RJ1_92 : Cond.methodLink RJ1 92 yJ9_max_7cf53 ∈ tb := tb_in (List.mem_of_getElem? (i := 480) (by decide +kernel)) rfl
theorem ml_RJ1_38 : Cond.methodLink RJ1 38 yJ9_min_7cf53 ∈ tb := tb_in (List.mem_of_getElem? (i := 483) (by decide +kernel)) rfl
theorem ml_RJ1_95 : Cond.methodLink RJ1 95 yJ1_indexOfChar_4cfef ∈ tb := tb_in (List.mem_of_getElem? (i := 486) (by decide +kernel)) rfl
theorem ml_RJ2_48 : Cond.methodLink RJ2 48 yJ2_length_9d52b ∈ tb := tb_in (List.mem_of_getElem? (i := 501) (by decide +kernel)) rfl
theorem ml_RJ2_224 : Cond.methodLink RJ2 224 yJ9_max_7cf53 ∈ tb := tb_in (List.mem_of_getElem? (i := 492) (by decide +kernel)) rfl
theorem ml_RJ2_183 : Cond.methodLink RJ2 183 yJ9_min_7cf53 ∈ tb := tb_in (List.mem_of_getElem? (i := 493) (by decide +kernel)) rfl
theorem kc_RJ2_227 : Cond.constant RJ2 227 (65536) ∈ tb := tb_in (List.mem_of_getElem? (i := 494) (by decide +kernel)) rfl
theorem ml_RJ2_228 : Cond.methodLink RJ2 228 yJ2_indexOfChar_4cfef ∈ tb := tb_in (List.mem_of_getElem? (i := 495) (by decide +kernel)) rfl
theorem ml_RJ2_232 : Cond.methodLink RJ2 232 yJ2_indexOfSupplementary_4cfef ∈ tb := tb_in (List.mem_of_getElem? (i := 524) (by decide +kernel)) rfl
theorem ml_RJ2_96 : Cond.methodLink RJ2 96 yJ2_checkBoundsBeginEnd_d044e ∈ tb := tb_in (List.mem_of_getElem? (i := 498) (by decide +kernel)) rfl
theorem ml_RJ2_244 : Cond.methodLink RJ2 244 yJ2_indexOfCharUnsafe_4cfef ∈ tb := tb_in (List.mem_of_getElem? (i := 512) (by decide +kernel)) rfl
theorem ml_RJ2_71 : Cond.methodLink RJ2 71 yJ2_getChar_3b067 ∈ tb := tb_in (List.mem_of_getElem? (i := 515) (by decide +kernel)) rfl
theorem ml_RJ2_164 : Cond.methodLink RJ2 164 yJ11_isValidCodePoint_9a6ad ∈ tb := tb_in (List.mem_of_getElem? (i := 527) (by decide +kernel)) rfl
theorem ml_RJ2_157 : Cond.methodLink RJ2 157 yJ11_highSurrogate_5068e ∈ tb := tb_in (List.mem_of_getElem? (i := 530) (by decide +kernel)) rfl
theorem ml_RJ2_161 : Cond.methodLink RJ2 161 yJ11_lowSurrogate_5068e ∈ tb := tb_in (List.mem_of_getElem? (i := 534) (by decide +kernel)) rfl
theorem ml_RJ2_241 : Cond.methodLink RJ2 241 yJ0_checkBoundsBeginEnd_23922 ∈ tb := tb_in (List.mem_of_getElem? (i := 504) (by decide +kernel)) rfl
theorem ml_RJ7_304 : Cond.methodLink RJ7 304 yJ9_min_7cf53 ∈ tb := tb_in (List.mem_of_getElem? (i := 686) (by decide +kernel)) rfl
theorem ml_RL_9 : Cond.methodLink RL 9 yX8_init ∈ tb := tb_in (List.mem_of_getElem? (i := 60) (by decide +kernel)) rfl
theorem ml_RL_12 : Cond.methodLink RL 12 yX9_init ∈ tb := tb_in (List.mem_of_getElem? (i := 797) (by decide +kernel)) rfl
theorem ml_RL_13 : Cond.methodLink RL 13 yX8_part ∈ tb := tb_in (List.mem_of_getElem? (i := 228) (by decide +kernel)) rfl
theorem ml_RL_17 : Cond.methodLink RL 17 yX9_part ∈ tb := tb_in (List.mem_of_getElem? (i := 944) (by decide +kernel)) rfl
theorem ml_RL_18 : Cond.methodLink RL 18 yX8_arch ∈ tb := tb_in (List.mem_of_getElem? (i := 315) (by decide +kernel)) rfl
theorem ml_RL_22 : Cond.methodLink RL 22 yX9_arch ∈ tb := tb_in (List.mem_of_getElem? (i := 959) (by decide +kernel)) rfl
theorem ml_RL_23 : Cond.methodLink RL 23 yX8_bear ∈ tb := tb_in (List.mem_of_getElem? (i := 327) (by decide +kernel)) rfl
theorem ml_RL_26 : Cond.methodLink RL 26 yX9_bear ∈ tb := tb_in (List.mem_of_getElem? (i := 971) (by decide +kernel)) rfl
theorem ml_RL_27 : Cond.methodLink RL 27 yX8_edit ∈ tb := tb_in (List.mem_of_getElem? (i := 355) (by decide +kernel)) rfl
theorem ml_RL_31 : Cond.methodLink RL 31 yX9_edit ∈ tb := tb_in (List.mem_of_getElem? (i := 979) (by decide +kernel)) rfl
theorem ml_RL_32 : Cond.methodLink RL 32 yX8_wanted ∈ tb := tb_in (List.mem_of_getElem? (i := 359) (by decide +kernel)) rfl
theorem ml_RL_35 : Cond.methodLink RL 35 yX9_wanted ∈ tb := tb_in (List.mem_of_getElem? (i := 983) (by decide +kernel)) rfl
theorem ml_RL_36 : Cond.methodLink RL 36 yX8_tell ∈ tb := tb_in (List.mem_of_getElem? (i := 368) (by decide +kernel)) rfl
theorem ml_RL_39 : Cond.methodLink RL 39 yX9_tell ∈ tb := tb_in (List.mem_of_getElem? (i := 987) (by decide +kernel)) rfl
theorem ml_RL_40 : Cond.methodLink RL 40 yX8_lay ∈ tb := tb_in (List.mem_of_getElem? (i := 411) (by decide +kernel)) rfl
theorem ml_RL_44 : Cond.methodLink RL 44 yX9_lay ∈ tb := tb_in (List.mem_of_getElem? (i := 1091) (by decide +kernel)) rfl
theorem ml_RL_45 : Cond.methodLink RL 45 yX8_may ∈ tb := tb_in (List.mem_of_getElem? (i := 579) (by decide +kernel)) rfl
theorem ml_RL_48 : Cond.methodLink RL 48 yX9_may ∈ tb := tb_in (List.mem_of_getElem? (i := 1074) (by decide +kernel)) rfl
theorem ml_RL_49 : Cond.methodLink RL 49 yX8_falls ∈ tb := tb_in (List.mem_of_getElem? (i := 583) (by decide +kernel)) rfl
theorem ml_RL_52 : Cond.methodLink RL 52 yX9_falls ∈ tb := tb_in (List.mem_of_getElem? (i := 1087) (by decide +kernel)) rfl
theorem ml_RL_53 : Cond.methodLink RL 53 yX8_strike ∈ tb := tb_in (List.mem_of_getElem? (i := 587) (by decide +kernel)) rfl
theorem ml_RL_56 : Cond.methodLink RL 56 yX9_strike ∈ tb := tb_in (List.mem_of_getElem? (i := 1095) (by decide +kernel)) rfl
theorem ml_RL_57 : Cond.methodLink RL 57 yX8_prop ∈ tb := tb_in (List.mem_of_getElem? (i := 592) (by decide +kernel)) rfl
theorem ml_RL_60 : Cond.methodLink RL 60 yX9_prop ∈ tb := tb_in (List.mem_of_getElem? (i := 1099) (by decide +kernel)) rfl
theorem ml_RL_61 : Cond.methodLink RL 61 yX8_month ∈ tb := tb_in (List.mem_of_getElem? (i := 597) (by decide +kernel)) rfl
theorem ml_RL_64 : Cond.methodLink RL 64 yX9_month ∈ tb := tb_in (List.mem_of_getElem? (i := 1103) (by decide +kernel)) rfl
theorem ml_RL_65 : Cond.methodLink RL 65 yX8_frost ∈ tb := tb_in (List.mem_of_getElem? (i := 611) (by decide +kernel)) rfl
theorem ml_RL_68 : Cond.methodLink RL 68 yX9_frost ∈ tb := tb_in (List.mem_of_getElem? (i := 1107) (by decide +kernel)) rfl
theorem ml_RL_69 : Cond.methodLink RL 69 yX8_bitter ∈ tb := tb_in (List.mem_of_getElem? (i := 615) (by decide +kernel)) rfl
theorem ml_RL_72 : Cond.methodLink RL 72 yX9_bitter ∈ tb := tb_in (List.mem_of_getElem? (i := 1111) (by decide +kernel)) rfl
theorem ml_RL_73 : Cond.methodLink RL 73 yX8_feed ∈ tb := tb_in (List.mem_of_getElem? (i := 627) (by decide +kernel)) rfl
theorem ml_RL_76 : Cond.methodLink RL 76 yX9_feed ∈ tb := tb_in (List.mem_of_getElem? (i := 1009) (by decide +kernel)) rfl
theorem ml_RL_77 : Cond.methodLink RL 77 yX8_gift ∈ tb := tb_in (List.mem_of_getElem? (i := 635) (by decide +kernel)) rfl
theorem ml_RL_80 : Cond.methodLink RL 80 yX9_gift ∈ tb := tb_in (List.mem_of_getElem? (i := 1013) (by decide +kernel)) rfl
theorem ml_RL_81 : Cond.methodLink RL 81 yX8_statute ∈ tb := tb_in (List.mem_of_getElem? (i := 717) (by decide +kernel)) rfl
theorem ml_RL_84 : Cond.methodLink RL 84 yX9_statute ∈ tb := tb_in (List.mem_of_getElem? (i := 1038) (by decide +kernel)) rfl
theorem ml_RL_85 : Cond.methodLink RL 85 yX8_end ∈ tb := tb_in (List.mem_of_getElem? (i := 721) (by decide +kernel)) rfl
theorem ml_RL_88 : Cond.methodLink RL 88 yX9_end ∈ tb := tb_in (List.mem_of_getElem? (i := 1061) (by decide +kernel)) rfl
theorem ml_RL_89 : Cond.methodLink RL 89 yX8_about ∈ tb := tb_in (List.mem_of_getElem? (i := 726) (by decide +kernel)) rfl
theorem ml_RL_92 : Cond.methodLink RL 92 yX9_about ∈ tb := tb_in (List.mem_of_getElem? (i := 1115) (by decide +kernel)) rfl
theorem ml_RL_93 : Cond.methodLink RL 93 yX8_support ∈ tb := tb_in (List.mem_of_getElem? (i := 748) (by decide +kernel)) rfl
theorem ml_RL_96 : Cond.methodLink RL 96 yX9_support ∈ tb := tb_in (List.mem_of_getElem? (i := 1123) (by decide +kernel)) rfl
theorem ml_RL_97 : Cond.methodLink RL 97 yX8_left ∈ tb := tb_in (List.mem_of_getElem? (i := 752) (by decide +kernel)) rfl
theorem ml_RL_100 : Cond.methodLink RL 100 yX9_left ∈ tb := tb_in (List.mem_of_getElem? (i := 1127) (by decide +kernel)) rfl
theorem ml_RL_101 : Cond.methodLink RL 101 yX8_work ∈ tb := tb_in (List.mem_of_getElem? (i := 756) (by decide +kernel)) rfl
theorem ml_RL_105 : Cond.methodLink RL 105 yX9_work ∈ tb := tb_in (List.mem_of_getElem? (i := 1042) (by decide +kernel)) rfl
theorem ml_RL_106 : Cond.methodLink RL 106 yX8_as ∈ tb := tb_in (List.mem_of_getElem? (i := 757) (by decide +kernel)) rfl
theorem ml_RL_109 : Cond.methodLink RL 109 yX9_as ∈ tb := tb_in (List.mem_of_getElem? (i := 1131) (by decide +kernel)) rfl
theorem ml_RL_110 : Cond.methodLink RL 110 yX8_down ∈ tb := tb_in (List.mem_of_getElem? (i := 765) (by decide +kernel)) rfl
theorem ml_RL_113 : Cond.methodLink RL 113 yX9_down ∈ tb := tb_in (List.mem_of_getElem? (i := 1135) (by decide +kernel)) rfl
theorem ml_RL_114 : Cond.methodLink RL 114 yX8_needs ∈ tb := tb_in (List.mem_of_getElem? (i := 774) (by decide +kernel)) rfl
theorem ml_RL_117 : Cond.methodLink RL 117 yX9_needs ∈ tb := tb_in (List.mem_of_getElem? (i := 1139) (by decide +kernel)) rfl
theorem ml_RL_118 : Cond.methodLink RL 118 yX8_count ∈ tb := tb_in (List.mem_of_getElem? (i := 783) (by decide +kernel)) rfl
theorem ml_RL_121 : Cond.methodLink RL 121 yX9_count ∈ tb := tb_in (List.mem_of_getElem? (i := 1143) (by decide +kernel)) rfl
def alen (f : Nat) : Nat := match f with
  | 100 => 101
  | 304 => 4
  | 305 => 4
  | 306 => 4
  | 307 => 30
  | 400 => 40
  | 401 => 61
  | 402 => 61
  | 403 => 61
  | 404 => 4
  | 500 => 8
  | 501 => 100
  | 600 => 40
  | 601 => 40
  | 700 => 100
  | 701 => 100
  | 702 => 20
  | 905 => 30
  | 906 => 20
  | 907 => 20
  | 908 => 40
  | 1002 => 40
  | 1003 => 40
  | 1004 => 40
  | 1005 => 40
  | 1006 => 40
  | 1007 => 40
  | 1008 => 40
  | 1009 => 40
  | 1010 => 40
  | 1011 => 40
  | 1012 => 40
  | 1013 => 40
  | 1014 => 40
  | 1015 => 40
  | 1016 => 160
  | 1017 => 160
  | 1022 => 1201
  | 1023 => 48040
  | 1025 => 61
  | 1026 => 2440
  | 1027 => 4
  | 1028 => 40
  | 1029 => 40
  | 1030 => 100
  | 1033 => 51
  | 1034 => 5100
  | 1036 => 21
  | 1037 => 100
  | 1039 => 30
  | 1040 => 30
  | 1041 => 30
  | 1043 => 20
  | 1044 => 20
  | 1045 => 30
  | 1046 => 40
  | _ => 0
/-- the objects that are always there, and the lengths of their rows -/
def Sg (E : Et) : Prop := (∀ c, c ∈ ([0, 3, 4, 5, 6, 8, 9] : List Nat) → eL E c 0) ∧ ∀ f i, f ≠ 800 → eN E f i = alen f
theorem ix {E : Et} {f i n : Nat} {x : Int32} (h : Sg E) (hf : f ≠ 800) (hn : alen f = n) (hx : vp_in x n) : vp_in x (eN E f i) := by
  rw [h.2 f i hf, hn]
  exact hx
section Calls0
variable {l : Launch} {G : Gt} {own : String} {cc : ByteArray} {nL : Nat} {ret : Option FieldType} {rm : Room} {E : Et} {V : Vt} {pc : Nat} {ll : List (Nat × Value)} {st : List Value} {Q : Option Value → Et → Vt → Prop}
/-- the ends of methods that make nothing: an int (or a boolean), nothing, a cell of class c or null -/
def Qi (E : Et) (K : Int32 → Vt → Prop) : Option Value → Et → Vt → Prop := fun r E' V' => E = E' ∧ ∃ x, r = some (.int x) ∧ K x V'
def Qv (E : Et) (K : Vt → Prop) : Option Value → Et → Vt → Prop := fun r E' V' => E = E' ∧ r = none ∧ K V'
def Qr (c : Nat) (E : Et) (K : Option Nat → Vt → Prop) : Option Value → Et → Vt → Prop := fun r E' V' => E = E' ∧ ∃ o : Option Nat, r = some (va_rf (o.map (eA E c))) ∧ K o V'

theorem r_cVi {idx ci i na nY : Nat} {y : MethodName} {cy : ByteArray} {ry : Option FieldType} {rY : Room} {As rest : List Value} {K : Int32 → Vt → Prop} (hd : decode cc pc = .ok (.invokevirtual idx, 3)) (hm : MV y cy nY ry na) (hlink : Cond.methodLink own idx y ∈ tb) (hcl : ∃ T N, cls[ci]? = some (y.cls, T, N)) (hlv : eL E ci i) (hrm : rY.frames + 1 ≤ rm.frames ∧ 8 + (nY + 11) + rY.locals ≤ rm.locals) (h0 : rY.cells = 0 ∧ rY.slots = 0) (hna : As.length = na) (hst : st = As.reverse ++ .ref (eA E ci i) :: rest) (hcat : (rest.map fun v => v.category).sum ≤ 8) (hC : Cl l G y cy nY ry rY E V (.ref (eA E ci i) :: As) (Qi E K)) (kk : ∀ x V', K x V' → Ev l G own cc nL ret rm E 0 0 V' (pc + 3) ll (.int x :: rest) Q) : Ev l G own cc nL ret rm E 0 0 V pc ll st Q := by
  have hcs : 0 + rY.cells ≤ rm.cells ∧ 0 + rY.slots ≤ rm.slots := by rw [h0.1, h0.2]; exact ⟨Nat.zero_le _, Nat.zero_le _⟩
  refine r_callV hd hm hlink hcl hlv hrm hcs hna hst hcat hC (fun r E' V' hq => ?_)
  obtain ⟨rfl, x, rfl, hk⟩ := hq
  rw [h0.1, h0.2]
  exact kk x V' hk
theorem r_cSi {idx na nY : Nat} {y : MethodName} {cy : ByteArray} {ry : Option FieldType} {rY : Room} {As rest : List Value} {K : Int32 → Vt → Prop} (hd : decode cc pc = .ok (.invokestatic idx, 3)) (hm : MS y cy nY ry na) (hlink : Cond.methodLink own idx y ∈ tb) (hrm : rY.frames + 1 ≤ rm.frames ∧ 8 + (nY + 11) + rY.locals ≤ rm.locals) (h0 : rY.cells = 0 ∧ rY.slots = 0) (hna : As.length = na) (hst : st = As.reverse ++ rest) (hcat : (rest.map fun v => v.category).sum ≤ 8) (hC : Cl l G y cy nY ry rY E V As (Qi E K)) (kk : ∀ x V', K x V' → Ev l G own cc nL ret rm E 0 0 V' (pc + 3) ll (.int x :: rest) Q) : Ev l G own cc nL ret rm E 0 0 V pc ll st Q := by
  have hcs : 0 + rY.cells ≤ rm.cells ∧ 0 + rY.slots ≤ rm.slots := by rw [h0.1, h0.2]; exact ⟨Nat.zero_le _, Nat.zero_le _⟩
  refine r_callS hd hm hlink hrm hcs hna hst hcat hC (fun r E' V' hq => ?_)
  obtain ⟨rfl, x, rfl, hk⟩ := hq
  rw [h0.1, h0.2]
  exact kk x V' hk
theorem r_cVv {idx ci i na nY : Nat} {y : MethodName} {cy : ByteArray} {ry : Option FieldType} {rY : Room} {As rest : List Value} {K : Vt → Prop} (hd : decode cc pc = .ok (.invokevirtual idx, 3)) (hm : MV y cy nY ry na) (hlink : Cond.methodLink own idx y ∈ tb) (hcl : ∃ T N, cls[ci]? = some (y.cls, T, N)) (hlv : eL E ci i) (hrm : rY.frames + 1 ≤ rm.frames ∧ 8 + (nY + 11) + rY.locals ≤ rm.locals) (h0 : rY.cells = 0 ∧ rY.slots = 0) (hna : As.length = na) (hst : st = As.reverse ++ .ref (eA E ci i) :: rest) (hcat : (rest.map fun v => v.category).sum ≤ 8) (hC : Cl l G y cy nY ry rY E V (.ref (eA E ci i) :: As) (Qv E K)) (kk : ∀ V', K V' → Ev l G own cc nL ret rm E 0 0 V' (pc + 3) ll rest Q) : Ev l G own cc nL ret rm E 0 0 V pc ll st Q := by
  have hcs : 0 + rY.cells ≤ rm.cells ∧ 0 + rY.slots ≤ rm.slots := by rw [h0.1, h0.2]; exact ⟨Nat.zero_le _, Nat.zero_le _⟩
  refine r_callV hd hm hlink hcl hlv hrm hcs hna hst hcat hC (fun r E' V' hq => ?_)
  obtain ⟨rfl, rfl, hk⟩ := hq
  rw [h0.1, h0.2]
  exact kk V' hk
theorem r_cSv {idx na nY : Nat} {y : MethodName} {cy : ByteArray} {ry : Option FieldType} {rY : Room} {As rest : List Value} {K : Vt → Prop} (hd : decode cc pc = .ok (.invokestatic idx, 3)) (hm : MS y cy nY ry na) (hlink : Cond.methodLink own idx y ∈ tb) (hrm : rY.frames + 1 ≤ rm.frames ∧ 8 + (nY + 11) + rY.locals ≤ rm.locals) (h0 : rY.cells = 0 ∧ rY.slots = 0) (hna : As.length = na) (hst : st = As.reverse ++ rest) (hcat : (rest.map fun v => v.category).sum ≤ 8) (hC : Cl l G y cy nY ry rY E V As (Qv E K)) (kk : ∀ V', K V' → Ev l G own cc nL ret rm E 0 0 V' (pc + 3) ll rest Q) : Ev l G own cc nL ret rm E 0 0 V pc ll st Q := by
  have hcs : 0 + rY.cells ≤ rm.cells ∧ 0 + rY.slots ≤ rm.slots := by rw [h0.1, h0.2]; exact ⟨Nat.zero_le _, Nat.zero_le _⟩
  refine r_callS hd hm hlink hrm hcs hna hst hcat hC (fun r E' V' hq => ?_)
  obtain ⟨rfl, rfl, hk⟩ := hq
  rw [h0.1, h0.2]
  exact kk V' hk
theorem r_cVr {idx ci i na nY : Nat} {y : MethodName} {cy : ByteArray} {ry : Option FieldType} {rY : Room} {As rest : List Value} {K : Option Nat → Vt → Prop} {cr : Nat} (hd : decode cc pc = .ok (.invokevirtual idx, 3)) (hm : MV y cy nY ry na) (hlink : Cond.methodLink own idx y ∈ tb) (hcl : ∃ T N, cls[ci]? = some (y.cls, T, N)) (hlv : eL E ci i) (hrm : rY.frames + 1 ≤ rm.frames ∧ 8 + (nY + 11) + rY.locals ≤ rm.locals) (h0 : rY.cells = 0 ∧ rY.slots = 0) (hna : As.length = na) (hst : st = As.reverse ++ .ref (eA E ci i) :: rest) (hcat : (rest.map fun v => v.category).sum ≤ 8) (hC : Cl l G y cy nY ry rY E V (.ref (eA E ci i) :: As) (Qr cr E K)) (kk : ∀ o V', K o V' → Ev l G own cc nL ret rm E 0 0 V' (pc + 3) ll (va_rf (o.map (eA E cr)) :: rest) Q) : Ev l G own cc nL ret rm E 0 0 V pc ll st Q := by
  have hcs : 0 + rY.cells ≤ rm.cells ∧ 0 + rY.slots ≤ rm.slots := by rw [h0.1, h0.2]; exact ⟨Nat.zero_le _, Nat.zero_le _⟩
  refine r_callV hd hm hlink hcl hlv hrm hcs hna hst hcat hC (fun r E' V' hq => ?_)
  obtain ⟨rfl, o, rfl, hk⟩ := hq
  rw [h0.1, h0.2]
  exact kk o V' hk
theorem r_cSr {idx na nY : Nat} {y : MethodName} {cy : ByteArray} {ry : Option FieldType} {rY : Room} {As rest : List Value} {K : Option Nat → Vt → Prop} {cr : Nat} (hd : decode cc pc = .ok (.invokestatic idx, 3)) (hm : MS y cy nY ry na) (hlink : Cond.methodLink own idx y ∈ tb) (hrm : rY.frames + 1 ≤ rm.frames ∧ 8 + (nY + 11) + rY.locals ≤ rm.locals) (h0 : rY.cells = 0 ∧ rY.slots = 0) (hna : As.length = na) (hst : st = As.reverse ++ rest) (hcat : (rest.map fun v => v.category).sum ≤ 8) (hC : Cl l G y cy nY ry rY E V As (Qr cr E K)) (kk : ∀ o V', K o V' → Ev l G own cc nL ret rm E 0 0 V' (pc + 3) ll (va_rf (o.map (eA E cr)) :: rest) Q) : Ev l G own cc nL ret rm E 0 0 V pc ll st Q := by
  have hcs : 0 + rY.cells ≤ rm.cells ∧ 0 + rY.slots ≤ rm.slots := by rw [h0.1, h0.2]; exact ⟨Nat.zero_le _, Nat.zero_le _⟩
  refine r_callS hd hm hlink hrm hcs hna hst hcat hC (fun r E' V' hq => ?_)
  obtain ⟨rfl, o, rfl, hk⟩ := hq
  rw [h0.1, h0.2]
  exact kk o V' hk
end Calls0
end
section
theorem dX0_init_0 : decode cX0_init 0 = .ok (.aload_n 0, 1) := by decide +kernel
theorem dX0_init_1 : decode cX0_init 1 = .ok (.invokespecial 3, 3) := by decide +kernel
theorem dX0_init_4 : decode cX0_init 4 = .ok (.aload_n 0, 1) := by decide +kernel
theorem dX0_init_5 : decode cX0_init 5 = .ok (.bipush 101, 2) := by decide +kernel
theorem dX0_init_7 : decode cX0_init 7 = .ok (.newarray .int, 2) := by decide +kernel
theorem dX0_init_9 : decode cX0_init 9 = .ok (.putfield 9, 3) := by decide +kernel
theorem dX0_init_12 : decode cX0_init 12 = .ok (.return_, 1) := by decide +kernel
theorem dX0_isAhead_0 : decode cX0_isAhead 0 = .ok (.iload_n 1, 1) := by decide +kernel
theorem dX0_isAhead_1 : decode cX0_isAhead 1 = .ok (.aload_n 0, 1) := by decide +kernel
theorem dX0_isAhead_2 : decode cX0_isAhead 2 = .ok (.getfield 15, 3) := by decide +kernel
theorem dX0_isAhead_5 : decode cX0_isAhead 5 = .ok (.if_icmp .lt 14, 3) := by decide +kernel
theorem dX0_isAhead_8 : decode cX0_isAhead 8 = .ok (.iload_n 1, 1) := by decide +kernel
theorem dX0_isAhead_9 : decode cX0_isAhead 9 = .ok (.sipush 1200, 3) := by decide +kernel
theorem dX0_isAhead_12 : decode cX0_isAhead 12 = .ok (.if_icmp .gt 7, 3) := by decide +kernel
theorem dX0_isAhead_15 : decode cX0_isAhead 15 = .ok (.iconst 1, 1) := by decide +kernel
theorem dX0_isAhead_16 : decode cX0_isAhead 16 = .ok (.goto 4, 3) := by decide +kernel
theorem dX0_isAhead_19 : decode cX0_isAhead 19 = .ok (.iconst 0, 1) := by decide +kernel
theorem dX0_isAhead_20 : decode cX0_isAhead 20 = .ok (.ireturn, 1) := by decide +kernel
theorem dX0_hasFrost_0 : decode cX0_hasFrost 0 = .ok (.aload_n 0, 1) := by decide +kernel
theorem dX0_hasFrost_1 : decode cX0_hasFrost 1 = .ok (.getfield 19, 3) := by decide +kernel
theorem dX0_hasFrost_4 : decode cX0_hasFrost 4 = .ok (.aload_n 0, 1) := by decide +kernel
theorem dX0_hasFrost_5 : decode cX0_hasFrost 5 = .ok (.getfield 9, 3) := by decide +kernel
theorem dX0_hasFrost_8 : decode cX0_hasFrost 8 = .ok (.iload_n 1, 1) := by decide +kernel
theorem dX0_hasFrost_9 : decode cX0_hasFrost 9 = .ok (.bipush 12, 2) := by decide +kernel
theorem dX0_hasFrost_11 : decode cX0_hasFrost 11 = .ok (.idiv, 1) := by decide +kernel
theorem dX0_hasFrost_12 : decode cX0_hasFrost 12 = .ok (.iaload, 1) := by decide +kernel
theorem dX0_hasFrost_13 : decode cX0_hasFrost 13 = .ok (.ior, 1) := by decide +kernel
theorem dX0_hasFrost_14 : decode cX0_hasFrost 14 = .ok (.iconst 1, 1) := by decide +kernel
theorem dX0_hasFrost_15 : decode cX0_hasFrost 15 = .ok (.iload_n 1, 1) := by decide +kernel
theorem dX0_hasFrost_16 : decode cX0_hasFrost 16 = .ok (.bipush 12, 2) := by decide +kernel
theorem dX0_hasFrost_18 : decode cX0_hasFrost 18 = .ok (.irem, 1) := by decide +kernel
theorem dX0_hasFrost_19 : decode cX0_hasFrost 19 = .ok (.ishl, 1) := by decide +kernel
theorem dX0_hasFrost_20 : decode cX0_hasFrost 20 = .ok (.iand, 1) := by decide +kernel
theorem dX0_hasFrost_21 : decode cX0_hasFrost 21 = .ok (.ifCond .eq 7, 3) := by decide +kernel
theorem dX0_hasFrost_24 : decode cX0_hasFrost 24 = .ok (.iconst 1, 1) := by decide +kernel
theorem dX0_hasFrost_25 : decode cX0_hasFrost 25 = .ok (.goto 4, 3) := by decide +kernel
theorem dX0_hasFrost_28 : decode cX0_hasFrost 28 = .ok (.iconst 0, 1) := by decide +kernel
theorem dX0_hasFrost_29 : decode cX0_hasFrost 29 = .ok (.ireturn, 1) := by decide +kernel
theorem dX0_makeBitter_0 : decode cX0_makeBitter 0 = .ok (.iconst 1, 1) := by decide +kernel
theorem dX0_makeBitter_1 : decode cX0_makeBitter 1 = .ok (.iload_n 1, 1) := by decide +kernel
theorem dX0_makeBitter_2 : decode cX0_makeBitter 2 = .ok (.bipush 12, 2) := by decide +kernel
theorem dX0_makeBitter_4 : decode cX0_makeBitter 4 = .ok (.irem, 1) := by decide +kernel
theorem dX0_makeBitter_5 : decode cX0_makeBitter 5 = .ok (.ishl, 1) := by decide +kernel
theorem dX0_makeBitter_6 : decode cX0_makeBitter 6 = .ok (.istore_n 2, 1) := by decide +kernel
theorem dX0_makeBitter_7 : decode cX0_makeBitter 7 = .ok (.aload_n 0, 1) := by decide +kernel
theorem dX0_makeBitter_8 : decode cX0_makeBitter 8 = .ok (.getfield 9, 3) := by decide +kernel
theorem dX0_makeBitter_11 : decode cX0_makeBitter 11 = .ok (.iload_n 1, 1) := by decide +kernel
theorem dX0_makeBitter_12 : decode cX0_makeBitter 12 = .ok (.bipush 12, 2) := by decide +kernel
theorem dX0_makeBitter_14 : decode cX0_makeBitter 14 = .ok (.idiv, 1) := by decide +kernel
theorem dX0_makeBitter_15 : decode cX0_makeBitter 15 = .ok (.iaload, 1) := by decide +kernel
theorem dX0_makeBitter_16 : decode cX0_makeBitter 16 = .ok (.iload_n 2, 1) := by decide +kernel
theorem dX0_makeBitter_17 : decode cX0_makeBitter 17 = .ok (.iand, 1) := by decide +kernel
theorem dX0_makeBitter_18 : decode cX0_makeBitter 18 = .ok (.ifCond .eq 7, 3) := by decide +kernel
theorem dX0_makeBitter_21 : decode cX0_makeBitter 21 = .ok (.iconst 1, 1) := by decide +kernel
theorem dX0_makeBitter_22 : decode cX0_makeBitter 22 = .ok (.goto 4, 3) := by decide +kernel
theorem dX0_makeBitter_25 : decode cX0_makeBitter 25 = .ok (.iconst 0, 1) := by decide +kernel
theorem dX0_makeBitter_26 : decode cX0_makeBitter 26 = .ok (.istore_n 3, 1) := by decide +kernel
theorem dX0_makeBitter_27 : decode cX0_makeBitter 27 = .ok (.aload_n 0, 1) := by decide +kernel
theorem dX0_makeBitter_28 : decode cX0_makeBitter 28 = .ok (.getfield 9, 3) := by decide +kernel
theorem dX0_makeBitter_31 : decode cX0_makeBitter 31 = .ok (.iload_n 1, 1) := by decide +kernel
theorem dX0_makeBitter_32 : decode cX0_makeBitter 32 = .ok (.bipush 12, 2) := by decide +kernel
theorem dX0_makeBitter_34 : decode cX0_makeBitter 34 = .ok (.idiv, 1) := by decide +kernel
theorem dX0_makeBitter_35 : decode cX0_makeBitter 35 = .ok (.dup2, 1) := by decide +kernel
theorem dX0_makeBitter_36 : decode cX0_makeBitter 36 = .ok (.iaload, 1) := by decide +kernel
theorem dX0_makeBitter_37 : decode cX0_makeBitter 37 = .ok (.iload_n 2, 1) := by decide +kernel
theorem dX0_makeBitter_38 : decode cX0_makeBitter 38 = .ok (.ior, 1) := by decide +kernel
theorem dX0_makeBitter_39 : decode cX0_makeBitter 39 = .ok (.iastore, 1) := by decide +kernel
theorem dX0_makeBitter_40 : decode cX0_makeBitter 40 = .ok (.iload_n 3, 1) := by decide +kernel
theorem dX0_makeBitter_41 : decode cX0_makeBitter 41 = .ok (.ifCond .ne 7, 3) := by decide +kernel
theorem dX0_makeBitter_44 : decode cX0_makeBitter 44 = .ok (.iconst 1, 1) := by decide +kernel
theorem dX0_makeBitter_45 : decode cX0_makeBitter 45 = .ok (.goto 4, 3) := by decide +kernel
theorem dX0_makeBitter_48 : decode cX0_makeBitter 48 = .ok (.iconst 0, 1) := by decide +kernel
theorem dX0_makeBitter_49 : decode cX0_makeBitter 49 = .ok (.ireturn, 1) := by decide +kernel
theorem dX0_pass_0 : decode cX0_pass 0 = .ok (.iconst 0, 1) := by decide +kernel
theorem dX0_pass_1 : decode cX0_pass 1 = .ok (.istore_n 2, 1) := by decide +kernel
theorem dX0_pass_2 : decode cX0_pass 2 = .ok (.iconst 0, 1) := by decide +kernel
theorem dX0_pass_3 : decode cX0_pass 3 = .ok (.istore_n 3, 1) := by decide +kernel
theorem dX0_pass_4 : decode cX0_pass 4 = .ok (.iload_n 3, 1) := by decide +kernel
theorem dX0_pass_5 : decode cX0_pass 5 = .ok (.iload_n 1, 1) := by decide +kernel
theorem dX0_pass_6 : decode cX0_pass 6 = .ok (.if_icmp .ge 33, 3) := by decide +kernel
theorem dX0_pass_9 : decode cX0_pass 9 = .ok (.aload_n 0, 1) := by decide +kernel
theorem dX0_pass_10 : decode cX0_pass 10 = .ok (.aload_n 0, 1) := by decide +kernel
theorem dX0_pass_11 : decode cX0_pass 11 = .ok (.getfield 15, 3) := by decide +kernel
theorem dX0_pass_14 : decode cX0_pass 14 = .ok (.invokevirtual 22, 3) := by decide +kernel
theorem dX0_pass_17 : decode cX0_pass 17 = .ok (.ifCond .ne 6, 3) := by decide +kernel
theorem dX0_pass_20 : decode cX0_pass 20 = .ok (.iinc 2 1, 3) := by decide +kernel
theorem dX0_pass_23 : decode cX0_pass 23 = .ok (.aload_n 0, 1) := by decide +kernel
theorem dX0_pass_24 : decode cX0_pass 24 = .ok (.dup, 1) := by decide +kernel
theorem dX0_pass_25 : decode cX0_pass 25 = .ok (.getfield 15, 3) := by decide +kernel
theorem dX0_pass_28 : decode cX0_pass 28 = .ok (.iconst 1, 1) := by decide +kernel
theorem dX0_pass_29 : decode cX0_pass 29 = .ok (.iadd, 1) := by decide +kernel
theorem dX0_pass_30 : decode cX0_pass 30 = .ok (.putfield 15, 3) := by decide +kernel
theorem dX0_pass_33 : decode cX0_pass 33 = .ok (.iinc 3 1, 3) := by decide +kernel
theorem dX0_pass_36 : decode cX0_pass 36 = .ok (.goto (-32), 3) := by decide +kernel
theorem dX0_pass_39 : decode cX0_pass 39 = .ok (.iload_n 2, 1) := by decide +kernel
theorem dX0_pass_40 : decode cX0_pass 40 = .ok (.ireturn, 1) := by decide +kernel
theorem dX1_init_0 : decode cX1_init 0 = .ok (.aload_n 0, 1) := by decide +kernel
theorem dX1_init_1 : decode cX1_init 1 = .ok (.invokespecial 1, 3) := by decide +kernel
theorem dX1_init_4 : decode cX1_init 4 = .ok (.aload_n 0, 1) := by decide +kernel
theorem dX1_init_5 : decode cX1_init 5 = .ok (.iload_n 1, 1) := by decide +kernel
theorem dX1_init_6 : decode cX1_init 6 = .ok (.putfield 7, 3) := by decide +kernel
theorem dX1_init_9 : decode cX1_init 9 = .ok (.aload_n 0, 1) := by decide +kernel
theorem dX1_init_10 : decode cX1_init 10 = .ok (.aload_n 2, 1) := by decide +kernel
theorem dX1_init_11 : decode cX1_init 11 = .ok (.putfield 13, 3) := by decide +kernel
theorem dX1_init_14 : decode cX1_init 14 = .ok (.aload_n 0, 1) := by decide +kernel
theorem dX1_init_15 : decode cX1_init 15 = .ok (.iload_n 1, 1) := by decide +kernel
theorem dX1_init_16 : decode cX1_init 16 = .ok (.putfield 17, 3) := by decide +kernel
theorem dX1_init_19 : decode cX1_init 19 = .ok (.return_, 1) := by decide +kernel
theorem dX2_init_0 : decode cX2_init 0 = .ok (.aload_n 0, 1) := by decide +kernel
theorem dX2_init_1 : decode cX2_init 1 = .ok (.invokespecial 3, 3) := by decide +kernel
theorem dX2_init_4 : decode cX2_init 4 = .ok (.aload_n 0, 1) := by decide +kernel
theorem dX2_init_5 : decode cX2_init 5 = .ok (.iconst 4, 1) := by decide +kernel
theorem dX2_init_6 : decode cX2_init 6 = .ok (.newarray .int, 2) := by decide +kernel
theorem dX2_init_8 : decode cX2_init 8 = .ok (.dup, 1) := by decide +kernel
theorem dX2_init_9 : decode cX2_init 9 = .ok (.iconst 0, 1) := by decide +kernel
theorem dX2_init_10 : decode cX2_init 10 = .ok (.ldc 9, 2) := by decide +kernel
theorem dX2_init_12 : decode cX2_init 12 = .ok (.iastore, 1) := by decide +kernel
theorem dX2_init_13 : decode cX2_init 13 = .ok (.dup, 1) := by decide +kernel
theorem dX2_init_14 : decode cX2_init 14 = .ok (.iconst 1, 1) := by decide +kernel
theorem dX2_init_15 : decode cX2_init 15 = .ok (.iconst 0, 1) := by decide +kernel
theorem dX2_init_16 : decode cX2_init 16 = .ok (.iastore, 1) := by decide +kernel
theorem dX2_init_17 : decode cX2_init 17 = .ok (.dup, 1) := by decide +kernel
theorem dX2_init_18 : decode cX2_init 18 = .ok (.iconst 2, 1) := by decide +kernel
theorem dX2_init_19 : decode cX2_init 19 = .ok (.bipush 50, 2) := by decide +kernel
theorem dX2_init_21 : decode cX2_init 21 = .ok (.iastore, 1) := by decide +kernel
theorem dX2_init_22 : decode cX2_init 22 = .ok (.dup, 1) := by decide +kernel
theorem dX2_init_23 : decode cX2_init 23 = .ok (.iconst 3, 1) := by decide +kernel
theorem dX2_init_24 : decode cX2_init 24 = .ok (.iconst 3, 1) := by decide +kernel
theorem dX2_init_25 : decode cX2_init 25 = .ok (.iastore, 1) := by decide +kernel
theorem dX2_init_26 : decode cX2_init 26 = .ok (.putfield 10, 3) := by decide +kernel
theorem dX2_init_29 : decode cX2_init 29 = .ok (.aload_n 0, 1) := by decide +kernel
theorem dX2_init_30 : decode cX2_init 30 = .ok (.iconst 4, 1) := by decide +kernel
theorem dX2_init_31 : decode cX2_init 31 = .ok (.newarray .int, 2) := by decide +kernel
theorem dX2_init_33 : decode cX2_init 33 = .ok (.putfield 16, 3) := by decide +kernel
theorem dX2_init_36 : decode cX2_init 36 = .ok (.aload_n 0, 1) := by decide +kernel
theorem dX2_init_37 : decode cX2_init 37 = .ok (.iconst 4, 1) := by decide +kernel
theorem dX2_init_38 : decode cX2_init 38 = .ok (.newarray .int, 2) := by decide +kernel
theorem dX2_init_40 : decode cX2_init 40 = .ok (.putfield 19, 3) := by decide +kernel
theorem dX2_init_43 : decode cX2_init 43 = .ok (.aload_n 0, 1) := by decide +kernel
theorem dX2_init_44 : decode cX2_init 44 = .ok (.bipush 30, 2) := by decide +kernel
theorem dX2_init_46 : decode cX2_init 46 = .ok (.newarray .int, 2) := by decide +kernel
theorem dX2_init_48 : decode cX2_init 48 = .ok (.putfield 22, 3) := by decide +kernel
theorem dX2_init_51 : decode cX2_init 51 = .ok (.aload_n 0, 1) := by decide +kernel
theorem dX2_init_52 : decode cX2_init 52 = .ok (.iload_n 1, 1) := by decide +kernel
theorem dX2_init_53 : decode cX2_init 53 = .ok (.putfield 25, 3) := by decide +kernel
theorem dX2_init_56 : decode cX2_init 56 = .ok (.aload_n 0, 1) := by decide +kernel
theorem dX2_init_57 : decode cX2_init 57 = .ok (.iload_n 2, 1) := by decide +kernel
theorem dX2_init_58 : decode cX2_init 58 = .ok (.putfield 29, 3) := by decide +kernel
theorem dX2_init_61 : decode cX2_init 61 = .ok (.aload_n 0, 1) := by decide +kernel
theorem dX2_init_62 : decode cX2_init 62 = .ok (.iload_n 2, 1) := by decide +kernel
theorem dX2_init_63 : decode cX2_init 63 = .ok (.putfield 32, 3) := by decide +kernel
theorem dX2_init_66 : decode cX2_init 66 = .ok (.aload_n 0, 1) := by decide +kernel
theorem dX2_init_67 : decode cX2_init 67 = .ok (.iload_n 3, 1) := by decide +kernel
theorem dX2_init_68 : decode cX2_init 68 = .ok (.putfield 35, 3) := by decide +kernel
theorem dX2_init_71 : decode cX2_init 71 = .ok (.aload_n 0, 1) := by decide +kernel
theorem dX2_init_72 : decode cX2_init 72 = .ok (.iload 4, 2) := by decide +kernel
theorem dX2_init_74 : decode cX2_init 74 = .ok (.putfield 38, 3) := by decide +kernel
theorem dX2_init_77 : decode cX2_init 77 = .ok (.return_, 1) := by decide +kernel
theorem dX2_isBegun_0 : decode cX2_isBegun 0 = .ok (.aload_n 0, 1) := by decide +kernel
theorem dX2_isBegun_1 : decode cX2_isBegun 1 = .ok (.getfield 41, 3) := by decide +kernel
theorem dX2_isBegun_4 : decode cX2_isBegun 4 = .ok (.ifCond .le 7, 3) := by decide +kernel
theorem dX2_isBegun_7 : decode cX2_isBegun 7 = .ok (.iconst 1, 1) := by decide +kernel
theorem dX2_isBegun_8 : decode cX2_isBegun 8 = .ok (.goto 4, 3) := by decide +kernel
theorem dX2_isBegun_11 : decode cX2_isBegun 11 = .ok (.iconst 0, 1) := by decide +kernel
theorem dX2_isBegun_12 : decode cX2_isBegun 12 = .ok (.ireturn, 1) := by decide +kernel
theorem dX2_isWhole_0 : decode cX2_isWhole 0 = .ok (.aload_n 0, 1) := by decide +kernel
theorem dX2_isWhole_1 : decode cX2_isWhole 1 = .ok (.getfield 41, 3) := by decide +kernel
theorem dX2_isWhole_4 : decode cX2_isWhole 4 = .ok (.aload_n 0, 1) := by decide +kernel
theorem dX2_isWhole_5 : decode cX2_isWhole 5 = .ok (.getfield 32, 3) := by decide +kernel
theorem dX2_isWhole_8 : decode cX2_isWhole 8 = .ok (.if_icmp .lt 7, 3) := by decide +kernel
theorem dX2_isWhole_11 : decode cX2_isWhole 11 = .ok (.iconst 1, 1) := by decide +kernel
theorem dX2_isWhole_12 : decode cX2_isWhole 12 = .ok (.goto 4, 3) := by decide +kernel
theorem dX2_isWhole_15 : decode cX2_isWhole 15 = .ok (.iconst 0, 1) := by decide +kernel
theorem dX2_isWhole_16 : decode cX2_isWhole 16 = .ok (.ireturn, 1) := by decide +kernel
theorem dX2_isOnCentring_0 : decode cX2_isOnCentring 0 = .ok (.aload_n 0, 1) := by decide +kernel
theorem dX2_isOnCentring_1 : decode cX2_isOnCentring 1 = .ok (.getfield 25, 3) := by decide +kernel
theorem dX2_isOnCentring_4 : decode cX2_isOnCentring 4 = .ok (.iconst 1, 1) := by decide +kernel
theorem dX2_isOnCentring_5 : decode cX2_isOnCentring 5 = .ok (.if_icmp .ne 21, 3) := by decide +kernel
theorem dX2_isOnCentring_8 : decode cX2_isOnCentring 8 = .ok (.aload_n 0, 1) := by decide +kernel
theorem dX2_isOnCentring_9 : decode cX2_isOnCentring 9 = .ok (.invokevirtual 44, 3) := by decide +kernel
theorem dX2_isOnCentring_12 : decode cX2_isOnCentring 12 = .ok (.ifCond .eq 14, 3) := by decide +kernel
theorem dX2_isOnCentring_15 : decode cX2_isOnCentring 15 = .ok (.aload_n 0, 1) := by decide +kernel
theorem dX2_isOnCentring_16 : decode cX2_isOnCentring 16 = .ok (.getfield 48, 3) := by decide +kernel
theorem dX2_isOnCentring_19 : decode cX2_isOnCentring 19 = .ok (.ifCond .ne 7, 3) := by decide +kernel
theorem dX2_isOnCentring_22 : decode cX2_isOnCentring 22 = .ok (.iconst 1, 1) := by decide +kernel
theorem dX2_isOnCentring_23 : decode cX2_isOnCentring 23 = .ok (.goto 4, 3) := by decide +kernel
theorem dX2_isOnCentring_26 : decode cX2_isOnCentring 26 = .ok (.iconst 0, 1) := by decide +kernel
theorem dX2_isOnCentring_27 : decode cX2_isOnCentring 27 = .ok (.ireturn, 1) := by decide +kernel
theorem dX2_standOn_0 : decode cX2_standOn 0 = .ok (.aload_n 0, 1) := by decide +kernel
theorem dX2_standOn_1 : decode cX2_standOn 1 = .ok (.getfield 16, 3) := by decide +kernel
theorem dX2_standOn_4 : decode cX2_standOn 4 = .ok (.iload_n 1, 1) := by decide +kernel
theorem dX2_standOn_5 : decode cX2_standOn 5 = .ok (.iload_n 2, 1) := by decide +kernel
theorem dX2_standOn_6 : decode cX2_standOn 6 = .ok (.iastore, 1) := by decide +kernel
theorem dX2_standOn_7 : decode cX2_standOn 7 = .ok (.aload_n 0, 1) := by decide +kernel
theorem dX2_standOn_8 : decode cX2_standOn 8 = .ok (.getfield 19, 3) := by decide +kernel
theorem dX2_standOn_11 : decode cX2_standOn 11 = .ok (.iload_n 1, 1) := by decide +kernel
theorem dX2_standOn_12 : decode cX2_standOn 12 = .ok (.iload_n 3, 1) := by decide +kernel
theorem dX2_standOn_13 : decode cX2_standOn 13 = .ok (.iastore, 1) := by decide +kernel
theorem dX2_standOn_14 : decode cX2_standOn 14 = .ok (.return_, 1) := by decide +kernel
theorem dX2_takeCourse_0 : decode cX2_takeCourse 0 = .ok (.aload_n 0, 1) := by decide +kernel
theorem dX2_takeCourse_1 : decode cX2_takeCourse 1 = .ok (.getfield 41, 3) := by decide +kernel
theorem dX2_takeCourse_4 : decode cX2_takeCourse 4 = .ok (.bipush 30, 2) := by decide +kernel
theorem dX2_takeCourse_6 : decode cX2_takeCourse 6 = .ok (.if_icmp .ge 28, 3) := by decide +kernel
theorem dX2_takeCourse_9 : decode cX2_takeCourse 9 = .ok (.aload_n 0, 1) := by decide +kernel
theorem dX2_takeCourse_10 : decode cX2_takeCourse 10 = .ok (.getfield 22, 3) := by decide +kernel
theorem dX2_takeCourse_13 : decode cX2_takeCourse 13 = .ok (.aload_n 0, 1) := by decide +kernel
theorem dX2_takeCourse_14 : decode cX2_takeCourse 14 = .ok (.getfield 41, 3) := by decide +kernel
theorem dX2_takeCourse_17 : decode cX2_takeCourse 17 = .ok (.iload_n 1, 1) := by decide +kernel
theorem dX2_takeCourse_18 : decode cX2_takeCourse 18 = .ok (.iastore, 1) := by decide +kernel
theorem dX2_takeCourse_19 : decode cX2_takeCourse 19 = .ok (.aload_n 0, 1) := by decide +kernel
theorem dX2_takeCourse_20 : decode cX2_takeCourse 20 = .ok (.dup, 1) := by decide +kernel
theorem dX2_takeCourse_21 : decode cX2_takeCourse 21 = .ok (.getfield 41, 3) := by decide +kernel
theorem dX2_takeCourse_24 : decode cX2_takeCourse 24 = .ok (.iconst 1, 1) := by decide +kernel
theorem dX2_takeCourse_25 : decode cX2_takeCourse 25 = .ok (.iadd, 1) := by decide +kernel
theorem dX2_takeCourse_26 : decode cX2_takeCourse 26 = .ok (.putfield 41, 3) := by decide +kernel
theorem dX2_takeCourse_29 : decode cX2_takeCourse 29 = .ok (.aload_n 0, 1) := by decide +kernel
theorem dX2_takeCourse_30 : decode cX2_takeCourse 30 = .ok (.iconst 0, 1) := by decide +kernel
theorem dX2_takeCourse_31 : decode cX2_takeCourse 31 = .ok (.putfield 52, 3) := by decide +kernel
theorem dX2_takeCourse_34 : decode cX2_takeCourse 34 = .ok (.return_, 1) := by decide +kernel
theorem dX2_laidTill_0 : decode cX2_laidTill 0 = .ok (.iconst 0, 1) := by decide +kernel
theorem dX2_laidTill_1 : decode cX2_laidTill 1 = .ok (.istore_n 2, 1) := by decide +kernel
theorem dX2_laidTill_2 : decode cX2_laidTill 2 = .ok (.iconst 0, 1) := by decide +kernel
theorem dX2_laidTill_3 : decode cX2_laidTill 3 = .ok (.istore_n 3, 1) := by decide +kernel
theorem dX2_laidTill_4 : decode cX2_laidTill 4 = .ok (.iload_n 3, 1) := by decide +kernel
theorem dX2_laidTill_5 : decode cX2_laidTill 5 = .ok (.aload_n 0, 1) := by decide +kernel
theorem dX2_laidTill_6 : decode cX2_laidTill 6 = .ok (.getfield 41, 3) := by decide +kernel
theorem dX2_laidTill_9 : decode cX2_laidTill 9 = .ok (.if_icmp .ge 28, 3) := by decide +kernel
theorem dX2_laidTill_12 : decode cX2_laidTill 12 = .ok (.iload_n 3, 1) := by decide +kernel
theorem dX2_laidTill_13 : decode cX2_laidTill 13 = .ok (.bipush 30, 2) := by decide +kernel
theorem dX2_laidTill_15 : decode cX2_laidTill 15 = .ok (.if_icmp .ge 22, 3) := by decide +kernel
theorem dX2_laidTill_18 : decode cX2_laidTill 18 = .ok (.aload_n 0, 1) := by decide +kernel
theorem dX2_laidTill_19 : decode cX2_laidTill 19 = .ok (.getfield 22, 3) := by decide +kernel
theorem dX2_laidTill_22 : decode cX2_laidTill 22 = .ok (.iload_n 3, 1) := by decide +kernel
theorem dX2_laidTill_23 : decode cX2_laidTill 23 = .ok (.iaload, 1) := by decide +kernel
theorem dX2_laidTill_24 : decode cX2_laidTill 24 = .ok (.iload_n 1, 1) := by decide +kernel
theorem dX2_laidTill_25 : decode cX2_laidTill 25 = .ok (.if_icmp .gt 6, 3) := by decide +kernel
theorem dX2_laidTill_28 : decode cX2_laidTill 28 = .ok (.iinc 2 1, 3) := by decide +kernel
theorem dX2_laidTill_31 : decode cX2_laidTill 31 = .ok (.iinc 3 1, 3) := by decide +kernel
theorem dX2_laidTill_34 : decode cX2_laidTill 34 = .ok (.goto (-30), 3) := by decide +kernel
theorem dX2_laidTill_37 : decode cX2_laidTill 37 = .ok (.iload_n 2, 1) := by decide +kernel
theorem dX2_laidTill_38 : decode cX2_laidTill 38 = .ok (.ireturn, 1) := by decide +kernel
theorem dX2_portion_0 : decode cX2_portion 0 = .ok (.iload_n 2, 1) := by decide +kernel
theorem dX2_portion_1 : decode cX2_portion 1 = .ok (.ifCond .le 15, 3) := by decide +kernel
theorem dX2_portion_4 : decode cX2_portion 4 = .ok (.iload_n 1, 1) := by decide +kernel
theorem dX2_portion_5 : decode cX2_portion 5 = .ok (.aload_n 0, 1) := by decide +kernel
theorem dX2_portion_6 : decode cX2_portion 6 = .ok (.getfield 19, 3) := by decide +kernel
theorem dX2_portion_9 : decode cX2_portion 9 = .ok (.iload_n 2, 1) := by decide +kernel
theorem dX2_portion_10 : decode cX2_portion 10 = .ok (.iaload, 1) := by decide +kernel
theorem dX2_portion_11 : decode cX2_portion 11 = .ok (.imul, 1) := by decide +kernel
theorem dX2_portion_12 : decode cX2_portion 12 = .ok (.bipush 12, 2) := by decide +kernel
theorem dX2_portion_14 : decode cX2_portion 14 = .ok (.idiv, 1) := by decide +kernel
theorem dX2_portion_15 : decode cX2_portion 15 = .ok (.ireturn, 1) := by decide +kernel
theorem dX2_portion_16 : decode cX2_portion 16 = .ok (.iload_n 1, 1) := by decide +kernel
theorem dX2_portion_17 : decode cX2_portion 17 = .ok (.istore_n 3, 1) := by decide +kernel
theorem dX2_portion_18 : decode cX2_portion 18 = .ok (.iconst 1, 1) := by decide +kernel
theorem dX2_portion_19 : decode cX2_portion 19 = .ok (.istore 4, 2) := by decide +kernel
theorem dX2_portion_21 : decode cX2_portion 21 = .ok (.iload 4, 2) := by decide +kernel
theorem dX2_portion_23 : decode cX2_portion 23 = .ok (.aload_n 0, 1) := by decide +kernel
theorem dX2_portion_24 : decode cX2_portion 24 = .ok (.getfield 55, 3) := by decide +kernel
theorem dX2_portion_27 : decode cX2_portion 27 = .ok (.if_icmp .ge 24, 3) := by decide +kernel
theorem dX2_portion_30 : decode cX2_portion 30 = .ok (.iload_n 3, 1) := by decide +kernel
theorem dX2_portion_31 : decode cX2_portion 31 = .ok (.iload_n 1, 1) := by decide +kernel
theorem dX2_portion_32 : decode cX2_portion 32 = .ok (.aload_n 0, 1) := by decide +kernel
theorem dX2_portion_33 : decode cX2_portion 33 = .ok (.getfield 19, 3) := by decide +kernel
theorem dX2_portion_36 : decode cX2_portion 36 = .ok (.iload 4, 2) := by decide +kernel
theorem dX2_portion_38 : decode cX2_portion 38 = .ok (.iaload, 1) := by decide +kernel
theorem dX2_portion_39 : decode cX2_portion 39 = .ok (.imul, 1) := by decide +kernel
theorem dX2_portion_40 : decode cX2_portion 40 = .ok (.bipush 12, 2) := by decide +kernel
theorem dX2_portion_42 : decode cX2_portion 42 = .ok (.idiv, 1) := by decide +kernel
theorem dX2_portion_43 : decode cX2_portion 43 = .ok (.isub, 1) := by decide +kernel
theorem dX2_portion_44 : decode cX2_portion 44 = .ok (.istore_n 3, 1) := by decide +kernel
theorem dX2_portion_45 : decode cX2_portion 45 = .ok (.iinc 4 1, 3) := by decide +kernel
theorem dX2_portion_48 : decode cX2_portion 48 = .ok (.goto (-27), 3) := by decide +kernel
theorem dX2_portion_51 : decode cX2_portion 51 = .ok (.iload_n 3, 1) := by decide +kernel
theorem dX2_portion_52 : decode cX2_portion 52 = .ok (.ireturn, 1) := by decide +kernel
theorem dX2_heaviestWay_0 : decode cX2_heaviestWay 0 = .ok (.iconst 0, 1) := by decide +kernel
theorem dX2_heaviestWay_1 : decode cX2_heaviestWay 1 = .ok (.istore_n 2, 1) := by decide +kernel
theorem dX2_heaviestWay_2 : decode cX2_heaviestWay 2 = .ok (.iconst 1, 1) := by decide +kernel
theorem dX2_heaviestWay_3 : decode cX2_heaviestWay 3 = .ok (.istore_n 3, 1) := by decide +kernel
theorem dX2_heaviestWay_4 : decode cX2_heaviestWay 4 = .ok (.iload_n 3, 1) := by decide +kernel
theorem dX2_heaviestWay_5 : decode cX2_heaviestWay 5 = .ok (.aload_n 0, 1) := by decide +kernel
theorem dX2_heaviestWay_6 : decode cX2_heaviestWay 6 = .ok (.getfield 55, 3) := by decide +kernel
theorem dX2_heaviestWay_9 : decode cX2_heaviestWay 9 = .ok (.if_icmp .ge 26, 3) := by decide +kernel
theorem dX2_heaviestWay_12 : decode cX2_heaviestWay 12 = .ok (.aload_n 0, 1) := by decide +kernel
theorem dX2_heaviestWay_13 : decode cX2_heaviestWay 13 = .ok (.iload_n 1, 1) := by decide +kernel
theorem dX2_heaviestWay_14 : decode cX2_heaviestWay 14 = .ok (.iload_n 3, 1) := by decide +kernel
theorem dX2_heaviestWay_15 : decode cX2_heaviestWay 15 = .ok (.invokevirtual 58, 3) := by decide +kernel
theorem dX2_heaviestWay_18 : decode cX2_heaviestWay 18 = .ok (.aload_n 0, 1) := by decide +kernel
theorem dX2_heaviestWay_19 : decode cX2_heaviestWay 19 = .ok (.iload_n 1, 1) := by decide +kernel
theorem dX2_heaviestWay_20 : decode cX2_heaviestWay 20 = .ok (.iload_n 2, 1) := by decide +kernel
theorem dX2_heaviestWay_21 : decode cX2_heaviestWay 21 = .ok (.invokevirtual 58, 3) := by decide +kernel
theorem dX2_heaviestWay_24 : decode cX2_heaviestWay 24 = .ok (.if_icmp .le 5, 3) := by decide +kernel
theorem dX2_heaviestWay_27 : decode cX2_heaviestWay 27 = .ok (.iload_n 3, 1) := by decide +kernel
theorem dX2_heaviestWay_28 : decode cX2_heaviestWay 28 = .ok (.istore_n 2, 1) := by decide +kernel
theorem dX2_heaviestWay_29 : decode cX2_heaviestWay 29 = .ok (.iinc 3 1, 3) := by decide +kernel
theorem dX2_heaviestWay_32 : decode cX2_heaviestWay 32 = .ok (.goto (-28), 3) := by decide +kernel
theorem dX2_heaviestWay_35 : decode cX2_heaviestWay 35 = .ok (.iload_n 2, 1) := by decide +kernel
theorem dX2_heaviestWay_36 : decode cX2_heaviestWay 36 = .ok (.ireturn, 1) := by decide +kernel
theorem dX2_markSupports_0 : decode cX2_markSupports 0 = .ok (.iconst 0, 1) := by decide +kernel
theorem dX2_markSupports_1 : decode cX2_markSupports 1 = .ok (.istore_n 2, 1) := by decide +kernel
theorem dX2_markSupports_2 : decode cX2_markSupports 2 = .ok (.iload_n 2, 1) := by decide +kernel
theorem dX2_markSupports_3 : decode cX2_markSupports 3 = .ok (.aload_n 0, 1) := by decide +kernel
theorem dX2_markSupports_4 : decode cX2_markSupports 4 = .ok (.getfield 55, 3) := by decide +kernel
theorem dX2_markSupports_7 : decode cX2_markSupports 7 = .ok (.if_icmp .ge 18, 3) := by decide +kernel
theorem dX2_markSupports_10 : decode cX2_markSupports 10 = .ok (.aload_n 1, 1) := by decide +kernel
theorem dX2_markSupports_11 : decode cX2_markSupports 11 = .ok (.aload_n 0, 1) := by decide +kernel
theorem dX2_markSupports_12 : decode cX2_markSupports 12 = .ok (.getfield 16, 3) := by decide +kernel
theorem dX2_markSupports_15 : decode cX2_markSupports 15 = .ok (.iload_n 2, 1) := by decide +kernel
theorem dX2_markSupports_16 : decode cX2_markSupports 16 = .ok (.iaload, 1) := by decide +kernel
theorem dX2_markSupports_17 : decode cX2_markSupports 17 = .ok (.iconst 1, 1) := by decide +kernel
theorem dX2_markSupports_18 : decode cX2_markSupports 18 = .ok (.iastore, 1) := by decide +kernel
theorem dX2_markSupports_19 : decode cX2_markSupports 19 = .ok (.iinc 2 1, 3) := by decide +kernel
theorem dX2_markSupports_22 : decode cX2_markSupports 22 = .ok (.goto (-20), 3) := by decide +kernel
theorem dX2_markSupports_25 : decode cX2_markSupports 25 = .ok (.return_, 1) := by decide +kernel
theorem dX2_standsOn_0 : decode cX2_standsOn 0 = .ok (.iconst 0, 1) := by decide +kernel
theorem dX2_standsOn_1 : decode cX2_standsOn 1 = .ok (.istore_n 2, 1) := by decide +kernel
theorem dX2_standsOn_2 : decode cX2_standsOn 2 = .ok (.iload_n 2, 1) := by decide +kernel
theorem dX2_standsOn_3 : decode cX2_standsOn 3 = .ok (.aload_n 0, 1) := by decide +kernel
theorem dX2_standsOn_4 : decode cX2_standsOn 4 = .ok (.getfield 55, 3) := by decide +kernel
theorem dX2_standsOn_7 : decode cX2_standsOn 7 = .ok (.if_icmp .ge 21, 3) := by decide +kernel
theorem dX2_standsOn_10 : decode cX2_standsOn 10 = .ok (.aload_n 0, 1) := by decide +kernel
theorem dX2_standsOn_11 : decode cX2_standsOn 11 = .ok (.getfield 16, 3) := by decide +kernel
theorem dX2_standsOn_14 : decode cX2_standsOn 14 = .ok (.iload_n 2, 1) := by decide +kernel
theorem dX2_standsOn_15 : decode cX2_standsOn 15 = .ok (.iaload, 1) := by decide +kernel
theorem dX2_standsOn_16 : decode cX2_standsOn 16 = .ok (.iload_n 1, 1) := by decide +kernel
theorem dX2_standsOn_17 : decode cX2_standsOn 17 = .ok (.if_icmp .ne 5, 3) := by decide +kernel
theorem dX2_standsOn_20 : decode cX2_standsOn 20 = .ok (.iconst 1, 1) := by decide +kernel
theorem dX2_standsOn_21 : decode cX2_standsOn 21 = .ok (.ireturn, 1) := by decide +kernel
theorem dX2_standsOn_22 : decode cX2_standsOn 22 = .ok (.iinc 2 1, 3) := by decide +kernel
theorem dX2_standsOn_25 : decode cX2_standsOn 25 = .ok (.goto (-23), 3) := by decide +kernel
theorem dX2_standsOn_28 : decode cX2_standsOn 28 = .ok (.iconst 0, 1) := by decide +kernel
theorem dX2_standsOn_29 : decode cX2_standsOn 29 = .ok (.ireturn, 1) := by decide +kernel
theorem dX3_init_0 : decode cX3_init 0 = .ok (.aload_n 0, 1) := by decide +kernel
theorem dX3_init_1 : decode cX3_init 1 = .ok (.invokespecial 3, 3) := by decide +kernel
theorem dX3_init_4 : decode cX3_init 4 = .ok (.aload_n 0, 1) := by decide +kernel
theorem dX3_init_5 : decode cX3_init 5 = .ok (.bipush 40, 2) := by decide +kernel
theorem dX3_init_7 : decode cX3_init 7 = .ok (.anewarray 9, 3) := by decide +kernel
theorem dX3_init_10 : decode cX3_init 10 = .ok (.putfield 11, 3) := by decide +kernel
theorem dX3_init_13 : decode cX3_init 13 = .ok (.aload_n 0, 1) := by decide +kernel
theorem dX3_init_14 : decode cX3_init 14 = .ok (.bipush 61, 2) := by decide +kernel
theorem dX3_init_16 : decode cX3_init 16 = .ok (.newarray .int, 2) := by decide +kernel
theorem dX3_init_18 : decode cX3_init 18 = .ok (.putfield 17, 3) := by decide +kernel
theorem dX3_init_21 : decode cX3_init 21 = .ok (.aload_n 0, 1) := by decide +kernel
theorem dX3_init_22 : decode cX3_init 22 = .ok (.bipush 61, 2) := by decide +kernel
theorem dX3_init_24 : decode cX3_init 24 = .ok (.newarray .int, 2) := by decide +kernel
theorem dX3_init_26 : decode cX3_init 26 = .ok (.putfield 21, 3) := by decide +kernel
theorem dX3_init_29 : decode cX3_init 29 = .ok (.aload_n 0, 1) := by decide +kernel
theorem dX3_init_30 : decode cX3_init 30 = .ok (.bipush 61, 2) := by decide +kernel
theorem dX3_init_32 : decode cX3_init 32 = .ok (.newarray .int, 2) := by decide +kernel
theorem dX3_init_34 : decode cX3_init 34 = .ok (.putfield 24, 3) := by decide +kernel
theorem dX3_init_37 : decode cX3_init 37 = .ok (.aload_n 0, 1) := by decide +kernel
theorem dX3_init_38 : decode cX3_init 38 = .ok (.iconst 4, 1) := by decide +kernel
theorem dX3_init_39 : decode cX3_init 39 = .ok (.newarray .int, 2) := by decide +kernel
theorem dX3_init_41 : decode cX3_init 41 = .ok (.putfield 27, 3) := by decide +kernel
theorem dX3_init_44 : decode cX3_init 44 = .ok (.return_, 1) := by decide +kernel
theorem dX3_find_0 : decode cX3_find 0 = .ok (.iload_n 1, 1) := by decide +kernel
theorem dX3_find_1 : decode cX3_find 1 = .ok (.ifCond .lt 20, 3) := by decide +kernel
theorem dX3_find_4 : decode cX3_find 4 = .ok (.iload_n 1, 1) := by decide +kernel
theorem dX3_find_5 : decode cX3_find 5 = .ok (.aload_n 0, 1) := by decide +kernel
theorem dX3_find_6 : decode cX3_find 6 = .ok (.getfield 30, 3) := by decide +kernel
theorem dX3_find_9 : decode cX3_find 9 = .ok (.if_icmp .ge 12, 3) := by decide +kernel
theorem dX3_find_12 : decode cX3_find 12 = .ok (.aload_n 0, 1) := by decide +kernel
theorem dX3_find_13 : decode cX3_find 13 = .ok (.getfield 11, 3) := by decide +kernel
theorem dX3_find_16 : decode cX3_find 16 = .ok (.iload_n 1, 1) := by decide +kernel
theorem dX3_find_17 : decode cX3_find 17 = .ok (.aaload, 1) := by decide +kernel
theorem dX3_find_18 : decode cX3_find 18 = .ok (.goto 4, 3) := by decide +kernel
theorem dX3_find_21 : decode cX3_find 21 = .ok (.aconst_null, 1) := by decide +kernel
theorem dX3_find_22 : decode cX3_find 22 = .ok (.areturn, 1) := by decide +kernel
theorem dX3_add_0 : decode cX3_add 0 = .ok (.aload_n 0, 1) := by decide +kernel
theorem dX3_add_1 : decode cX3_add 1 = .ok (.getfield 30, 3) := by decide +kernel
theorem dX3_add_4 : decode cX3_add 4 = .ok (.bipush 40, 2) := by decide +kernel
theorem dX3_add_6 : decode cX3_add 6 = .ok (.if_icmp .lt 6, 3) := by decide +kernel
theorem dX3_add_9 : decode cX3_add 9 = .ok (.bipush (-3), 2) := by decide +kernel
theorem dX3_add_11 : decode cX3_add 11 = .ok (.ireturn, 1) := by decide +kernel
theorem dX3_add_12 : decode cX3_add 12 = .ok (.aload_n 0, 1) := by decide +kernel
theorem dX3_add_13 : decode cX3_add 13 = .ok (.getfield 11, 3) := by decide +kernel
theorem dX3_add_16 : decode cX3_add 16 = .ok (.aload_n 0, 1) := by decide +kernel
theorem dX3_add_17 : decode cX3_add 17 = .ok (.getfield 30, 3) := by decide +kernel
theorem dX3_add_20 : decode cX3_add 20 = .ok (.aload_n 1, 1) := by decide +kernel
theorem dX3_add_21 : decode cX3_add 21 = .ok (.aastore, 1) := by decide +kernel
theorem dX3_add_22 : decode cX3_add 22 = .ok (.aload_n 0, 1) := by decide +kernel
theorem dX3_add_23 : decode cX3_add 23 = .ok (.dup, 1) := by decide +kernel
theorem dX3_add_24 : decode cX3_add 24 = .ok (.getfield 30, 3) := by decide +kernel
theorem dX3_add_27 : decode cX3_add 27 = .ok (.iconst 1, 1) := by decide +kernel
theorem dX3_add_28 : decode cX3_add 28 = .ok (.iadd, 1) := by decide +kernel
theorem dX3_add_29 : decode cX3_add 29 = .ok (.putfield 30, 3) := by decide +kernel
theorem dX3_add_32 : decode cX3_add 32 = .ok (.aload_n 0, 1) := by decide +kernel
theorem dX3_add_33 : decode cX3_add 33 = .ok (.getfield 30, 3) := by decide +kernel
theorem dX3_add_36 : decode cX3_add 36 = .ok (.iconst 1, 1) := by decide +kernel
theorem dX3_add_37 : decode cX3_add 37 = .ok (.isub, 1) := by decide +kernel
theorem dX3_add_38 : decode cX3_add 38 = .ok (.ireturn, 1) := by decide +kernel
theorem dX3_readSupports_0 : decode cX3_readSupports 0 = .ok (.aload_n 0, 1) := by decide +kernel
theorem dX3_readSupports_1 : decode cX3_readSupports 1 = .ok (.getfield 27, 3) := by decide +kernel
theorem dX3_readSupports_4 : decode cX3_readSupports 4 = .ok (.iconst 0, 1) := by decide +kernel
theorem dX3_readSupports_5 : decode cX3_readSupports 5 = .ok (.iload_n 2, 1) := by decide +kernel
theorem dX3_readSupports_6 : decode cX3_readSupports 6 = .ok (.iastore, 1) := by decide +kernel
theorem dX3_readSupports_7 : decode cX3_readSupports 7 = .ok (.aload_n 0, 1) := by decide +kernel
theorem dX3_readSupports_8 : decode cX3_readSupports 8 = .ok (.getfield 27, 3) := by decide +kernel
theorem dX3_readSupports_11 : decode cX3_readSupports 11 = .ok (.iconst 1, 1) := by decide +kernel
theorem dX3_readSupports_12 : decode cX3_readSupports 12 = .ok (.iload_n 3, 1) := by decide +kernel
theorem dX3_readSupports_13 : decode cX3_readSupports 13 = .ok (.iastore, 1) := by decide +kernel
theorem dX3_readSupports_14 : decode cX3_readSupports 14 = .ok (.aload_n 0, 1) := by decide +kernel
theorem dX3_readSupports_15 : decode cX3_readSupports 15 = .ok (.getfield 27, 3) := by decide +kernel
theorem dX3_readSupports_18 : decode cX3_readSupports 18 = .ok (.iconst 2, 1) := by decide +kernel
theorem dX3_readSupports_19 : decode cX3_readSupports 19 = .ok (.iload 4, 2) := by decide +kernel
theorem dX3_readSupports_21 : decode cX3_readSupports 21 = .ok (.iastore, 1) := by decide +kernel
theorem dX3_readSupports_22 : decode cX3_readSupports 22 = .ok (.aload_n 0, 1) := by decide +kernel
theorem dX3_readSupports_23 : decode cX3_readSupports 23 = .ok (.getfield 27, 3) := by decide +kernel
theorem dX3_readSupports_26 : decode cX3_readSupports 26 = .ok (.iconst 3, 1) := by decide +kernel
theorem dX3_readSupports_27 : decode cX3_readSupports 27 = .ok (.iload 5, 2) := by decide +kernel
theorem dX3_readSupports_29 : decode cX3_readSupports 29 = .ok (.iastore, 1) := by decide +kernel
theorem dX3_readSupports_30 : decode cX3_readSupports 30 = .ok (.iconst 0, 1) := by decide +kernel
theorem dX3_readSupports_31 : decode cX3_readSupports 31 = .ok (.istore 6, 2) := by decide +kernel
theorem dX3_readSupports_33 : decode cX3_readSupports 33 = .ok (.iload 6, 2) := by decide +kernel
theorem dX3_readSupports_35 : decode cX3_readSupports 35 = .ok (.iconst 4, 1) := by decide +kernel
theorem dX3_readSupports_36 : decode cX3_readSupports 36 = .ok (.if_icmp .ge 20, 3) := by decide +kernel
theorem dX3_readSupports_39 : decode cX3_readSupports 39 = .ok (.aload_n 0, 1) := by decide +kernel
theorem dX3_readSupports_40 : decode cX3_readSupports 40 = .ok (.getfield 27, 3) := by decide +kernel
theorem dX3_readSupports_43 : decode cX3_readSupports 43 = .ok (.iload 6, 2) := by decide +kernel
theorem dX3_readSupports_45 : decode cX3_readSupports 45 = .ok (.iaload, 1) := by decide +kernel
theorem dX3_readSupports_46 : decode cX3_readSupports 46 = .ok (.iconst (-1), 1) := by decide +kernel
theorem dX3_readSupports_47 : decode cX3_readSupports 47 = .ok (.if_icmp .eq 9, 3) := by decide +kernel
theorem dX3_readSupports_50 : decode cX3_readSupports 50 = .ok (.iinc 6 1, 3) := by decide +kernel
theorem dX3_readSupports_53 : decode cX3_readSupports 53 = .ok (.goto (-20), 3) := by decide +kernel
theorem dX3_readSupports_56 : decode cX3_readSupports 56 = .ok (.iload 6, 2) := by decide +kernel
theorem dX3_readSupports_58 : decode cX3_readSupports 58 = .ok (.istore 7, 2) := by decide +kernel
theorem dX3_readSupports_60 : decode cX3_readSupports 60 = .ok (.iload 7, 2) := by decide +kernel
theorem dX3_readSupports_62 : decode cX3_readSupports 62 = .ok (.iconst 4, 1) := by decide +kernel
theorem dX3_readSupports_63 : decode cX3_readSupports 63 = .ok (.if_icmp .ge 22, 3) := by decide +kernel
theorem dX3_readSupports_66 : decode cX3_readSupports 66 = .ok (.aload_n 0, 1) := by decide +kernel
theorem dX3_readSupports_67 : decode cX3_readSupports 67 = .ok (.getfield 27, 3) := by decide +kernel
theorem dX3_readSupports_70 : decode cX3_readSupports 70 = .ok (.iload 7, 2) := by decide +kernel
theorem dX3_readSupports_72 : decode cX3_readSupports 72 = .ok (.iaload, 1) := by decide +kernel
theorem dX3_readSupports_73 : decode cX3_readSupports 73 = .ok (.iconst (-1), 1) := by decide +kernel
theorem dX3_readSupports_74 : decode cX3_readSupports 74 = .ok (.if_icmp .eq 5, 3) := by decide +kernel
theorem dX3_readSupports_77 : decode cX3_readSupports 77 = .ok (.iconst (-1), 1) := by decide +kernel
theorem dX3_readSupports_78 : decode cX3_readSupports 78 = .ok (.ireturn, 1) := by decide +kernel
theorem dX3_readSupports_79 : decode cX3_readSupports 79 = .ok (.iinc 7 1, 3) := by decide +kernel
theorem dX3_readSupports_82 : decode cX3_readSupports 82 = .ok (.goto (-22), 3) := by decide +kernel
theorem dX3_readSupports_85 : decode cX3_readSupports 85 = .ok (.iconst 0, 1) := by decide +kernel
theorem dX3_readSupports_86 : decode cX3_readSupports 86 = .ok (.istore 7, 2) := by decide +kernel
theorem dX3_readSupports_88 : decode cX3_readSupports 88 = .ok (.iconst 0, 1) := by decide +kernel
theorem dX3_readSupports_89 : decode cX3_readSupports 89 = .ok (.istore 8, 2) := by decide +kernel
theorem dX3_readSupports_91 : decode cX3_readSupports 91 = .ok (.iload 8, 2) := by decide +kernel
theorem dX3_readSupports_93 : decode cX3_readSupports 93 = .ok (.iload 6, 2) := by decide +kernel
theorem dX3_readSupports_95 : decode cX3_readSupports 95 = .ok (.if_icmp .ge 49, 3) := by decide +kernel
theorem dX3_readSupports_98 : decode cX3_readSupports 98 = .ok (.iload_n 1, 1) := by decide +kernel
theorem dX3_readSupports_99 : decode cX3_readSupports 99 = .ok (.aload_n 0, 1) := by decide +kernel
theorem dX3_readSupports_100 : decode cX3_readSupports 100 = .ok (.getfield 27, 3) := by decide +kernel
theorem dX3_readSupports_103 : decode cX3_readSupports 103 = .ok (.iload 8, 2) := by decide +kernel
theorem dX3_readSupports_105 : decode cX3_readSupports 105 = .ok (.iaload, 1) := by decide +kernel
theorem dX3_readSupports_106 : decode cX3_readSupports 106 = .ok (.invokestatic 34, 3) := by decide +kernel
theorem dX3_readSupports_109 : decode cX3_readSupports 109 = .ok (.ifCond .eq 12, 3) := by decide +kernel
theorem dX3_readSupports_112 : decode cX3_readSupports 112 = .ok (.aload_n 0, 1) := by decide +kernel
theorem dX3_readSupports_113 : decode cX3_readSupports 113 = .ok (.iload 8, 2) := by decide +kernel
theorem dX3_readSupports_115 : decode cX3_readSupports 115 = .ok (.invokevirtual 38, 3) := by decide +kernel
theorem dX3_readSupports_118 : decode cX3_readSupports 118 = .ok (.ifCond .eq 5, 3) := by decide +kernel
theorem dX3_readSupports_121 : decode cX3_readSupports 121 = .ok (.iconst (-1), 1) := by decide +kernel
theorem dX3_readSupports_122 : decode cX3_readSupports 122 = .ok (.ireturn, 1) := by decide +kernel
theorem dX3_readSupports_123 : decode cX3_readSupports 123 = .ok (.iload 7, 2) := by decide +kernel
theorem dX3_readSupports_125 : decode cX3_readSupports 125 = .ok (.aload_n 0, 1) := by decide +kernel
theorem dX3_readSupports_126 : decode cX3_readSupports 126 = .ok (.getfield 27, 3) := by decide +kernel
theorem dX3_readSupports_129 : decode cX3_readSupports 129 = .ok (.iload 8, 2) := by decide +kernel
theorem dX3_readSupports_131 : decode cX3_readSupports 131 = .ok (.iaload, 1) := by decide +kernel
theorem dX3_readSupports_132 : decode cX3_readSupports 132 = .ok (.bipush 100, 2) := by decide +kernel
theorem dX3_readSupports_134 : decode cX3_readSupports 134 = .ok (.irem, 1) := by decide +kernel
theorem dX3_readSupports_135 : decode cX3_readSupports 135 = .ok (.iadd, 1) := by decide +kernel
theorem dX3_readSupports_136 : decode cX3_readSupports 136 = .ok (.istore 7, 2) := by decide +kernel
theorem dX3_readSupports_138 : decode cX3_readSupports 138 = .ok (.iinc 8 1, 3) := by decide +kernel
theorem dX3_readSupports_141 : decode cX3_readSupports 141 = .ok (.goto (-50), 3) := by decide +kernel
theorem dX3_readSupports_144 : decode cX3_readSupports 144 = .ok (.iload 6, 2) := by decide +kernel
theorem dX3_readSupports_146 : decode cX3_readSupports 146 = .ok (.ifCond .eq 10, 3) := by decide +kernel
theorem dX3_readSupports_149 : decode cX3_readSupports 149 = .ok (.iload 7, 2) := by decide +kernel
theorem dX3_readSupports_151 : decode cX3_readSupports 151 = .ok (.bipush 12, 2) := by decide +kernel
theorem dX3_readSupports_153 : decode cX3_readSupports 153 = .ok (.if_icmp .ne 8, 3) := by decide +kernel
theorem dX3_readSupports_156 : decode cX3_readSupports 156 = .ok (.iload 6, 2) := by decide +kernel
theorem dX3_readSupports_158 : decode cX3_readSupports 158 = .ok (.goto 4, 3) := by decide +kernel
theorem dX3_readSupports_161 : decode cX3_readSupports 161 = .ok (.iconst (-1), 1) := by decide +kernel
theorem dX3_readSupports_162 : decode cX3_readSupports 162 = .ok (.ireturn, 1) := by decide +kernel
theorem dX3_isSupportFor_0 : decode cX3_isSupportFor 0 = .ok (.iload_n 1, 1) := by decide +kernel
theorem dX3_isSupportFor_1 : decode cX3_isSupportFor 1 = .ok (.bipush 100, 2) := by decide +kernel
theorem dX3_isSupportFor_3 : decode cX3_isSupportFor 3 = .ok (.irem, 1) := by decide +kernel
theorem dX3_isSupportFor_4 : decode cX3_isSupportFor 4 = .ok (.istore_n 2, 1) := by decide +kernel
theorem dX3_isSupportFor_5 : decode cX3_isSupportFor 5 = .ok (.iload_n 1, 1) := by decide +kernel
theorem dX3_isSupportFor_6 : decode cX3_isSupportFor 6 = .ok (.ifCond .lt 26, 3) := by decide +kernel
theorem dX3_isSupportFor_9 : decode cX3_isSupportFor 9 = .ok (.iload_n 1, 1) := by decide +kernel
theorem dX3_isSupportFor_10 : decode cX3_isSupportFor 10 = .ok (.bipush 100, 2) := by decide +kernel
theorem dX3_isSupportFor_12 : decode cX3_isSupportFor 12 = .ok (.idiv, 1) := by decide +kernel
theorem dX3_isSupportFor_13 : decode cX3_isSupportFor 13 = .ok (.iload_n 0, 1) := by decide +kernel
theorem dX3_isSupportFor_14 : decode cX3_isSupportFor 14 = .ok (.if_icmp .ge 18, 3) := by decide +kernel
theorem dX3_isSupportFor_17 : decode cX3_isSupportFor 17 = .ok (.iload_n 2, 1) := by decide +kernel
theorem dX3_isSupportFor_18 : decode cX3_isSupportFor 18 = .ok (.iconst 1, 1) := by decide +kernel
theorem dX3_isSupportFor_19 : decode cX3_isSupportFor 19 = .ok (.if_icmp .lt 13, 3) := by decide +kernel
theorem dX3_isSupportFor_22 : decode cX3_isSupportFor 22 = .ok (.iload_n 2, 1) := by decide +kernel
theorem dX3_isSupportFor_23 : decode cX3_isSupportFor 23 = .ok (.bipush 12, 2) := by decide +kernel
theorem dX3_isSupportFor_25 : decode cX3_isSupportFor 25 = .ok (.if_icmp .gt 7, 3) := by decide +kernel
theorem dX3_isSupportFor_28 : decode cX3_isSupportFor 28 = .ok (.iconst 1, 1) := by decide +kernel
theorem dX3_isSupportFor_29 : decode cX3_isSupportFor 29 = .ok (.goto 4, 3) := by decide +kernel
theorem dX3_isSupportFor_32 : decode cX3_isSupportFor 32 = .ok (.iconst 0, 1) := by decide +kernel
theorem dX3_isSupportFor_33 : decode cX3_isSupportFor 33 = .ok (.ireturn, 1) := by decide +kernel
theorem dX3_isReadBefore_0 : decode cX3_isReadBefore 0 = .ok (.iconst 0, 1) := by decide +kernel
theorem dX3_isReadBefore_1 : decode cX3_isReadBefore 1 = .ok (.istore_n 2, 1) := by decide +kernel
theorem dX3_isReadBefore_2 : decode cX3_isReadBefore 2 = .ok (.iload_n 2, 1) := by decide +kernel
theorem dX3_isReadBefore_3 : decode cX3_isReadBefore 3 = .ok (.iload_n 1, 1) := by decide +kernel
theorem dX3_isReadBefore_4 : decode cX3_isReadBefore 4 = .ok (.if_icmp .ge 32, 3) := by decide +kernel
theorem dX3_isReadBefore_7 : decode cX3_isReadBefore 7 = .ok (.aload_n 0, 1) := by decide +kernel
theorem dX3_isReadBefore_8 : decode cX3_isReadBefore 8 = .ok (.getfield 27, 3) := by decide +kernel
theorem dX3_isReadBefore_11 : decode cX3_isReadBefore 11 = .ok (.iload_n 2, 1) := by decide +kernel
theorem dX3_isReadBefore_12 : decode cX3_isReadBefore 12 = .ok (.iaload, 1) := by decide +kernel
theorem dX3_isReadBefore_13 : decode cX3_isReadBefore 13 = .ok (.bipush 100, 2) := by decide +kernel
theorem dX3_isReadBefore_15 : decode cX3_isReadBefore 15 = .ok (.idiv, 1) := by decide +kernel
theorem dX3_isReadBefore_16 : decode cX3_isReadBefore 16 = .ok (.aload_n 0, 1) := by decide +kernel
theorem dX3_isReadBefore_17 : decode cX3_isReadBefore 17 = .ok (.getfield 27, 3) := by decide +kernel
theorem dX3_isReadBefore_20 : decode cX3_isReadBefore 20 = .ok (.iload_n 1, 1) := by decide +kernel
theorem dX3_isReadBefore_21 : decode cX3_isReadBefore 21 = .ok (.iaload, 1) := by decide +kernel
theorem dX3_isReadBefore_22 : decode cX3_isReadBefore 22 = .ok (.bipush 100, 2) := by decide +kernel
theorem dX3_isReadBefore_24 : decode cX3_isReadBefore 24 = .ok (.idiv, 1) := by decide +kernel
theorem dX3_isReadBefore_25 : decode cX3_isReadBefore 25 = .ok (.if_icmp .ne 5, 3) := by decide +kernel
theorem dX3_isReadBefore_28 : decode cX3_isReadBefore 28 = .ok (.iconst 1, 1) := by decide +kernel
theorem dX3_isReadBefore_29 : decode cX3_isReadBefore 29 = .ok (.ireturn, 1) := by decide +kernel
theorem dX3_isReadBefore_30 : decode cX3_isReadBefore 30 = .ok (.iinc 2 1, 3) := by decide +kernel
theorem dX3_isReadBefore_33 : decode cX3_isReadBefore 33 = .ok (.goto (-31), 3) := by decide +kernel
theorem dX3_isReadBefore_36 : decode cX3_isReadBefore 36 = .ok (.iconst 0, 1) := by decide +kernel
theorem dX3_isReadBefore_37 : decode cX3_isReadBefore 37 = .ok (.ireturn, 1) := by decide +kernel
theorem dX3_setSupports_0 : decode cX3_setSupports 0 = .ok (.iconst 0, 1) := by decide +kernel
theorem dX3_setSupports_1 : decode cX3_setSupports 1 = .ok (.istore_n 3, 1) := by decide +kernel
theorem dX3_setSupports_2 : decode cX3_setSupports 2 = .ok (.iload_n 3, 1) := by decide +kernel
theorem dX3_setSupports_3 : decode cX3_setSupports 3 = .ok (.iload_n 2, 1) := by decide +kernel
theorem dX3_setSupports_4 : decode cX3_setSupports 4 = .ok (.if_icmp .ge 37, 3) := by decide +kernel
theorem dX3_setSupports_7 : decode cX3_setSupports 7 = .ok (.iload_n 3, 1) := by decide +kernel
theorem dX3_setSupports_8 : decode cX3_setSupports 8 = .ok (.iconst 4, 1) := by decide +kernel
theorem dX3_setSupports_9 : decode cX3_setSupports 9 = .ok (.if_icmp .ge 32, 3) := by decide +kernel
theorem dX3_setSupports_12 : decode cX3_setSupports 12 = .ok (.aload_n 1, 1) := by decide +kernel
theorem dX3_setSupports_13 : decode cX3_setSupports 13 = .ok (.iload_n 3, 1) := by decide +kernel
theorem dX3_setSupports_14 : decode cX3_setSupports 14 = .ok (.aload_n 0, 1) := by decide +kernel
theorem dX3_setSupports_15 : decode cX3_setSupports 15 = .ok (.getfield 27, 3) := by decide +kernel
theorem dX3_setSupports_18 : decode cX3_setSupports 18 = .ok (.iload_n 3, 1) := by decide +kernel
theorem dX3_setSupports_19 : decode cX3_setSupports 19 = .ok (.iaload, 1) := by decide +kernel
theorem dX3_setSupports_20 : decode cX3_setSupports 20 = .ok (.bipush 100, 2) := by decide +kernel
theorem dX3_setSupports_22 : decode cX3_setSupports 22 = .ok (.idiv, 1) := by decide +kernel
theorem dX3_setSupports_23 : decode cX3_setSupports 23 = .ok (.aload_n 0, 1) := by decide +kernel
theorem dX3_setSupports_24 : decode cX3_setSupports 24 = .ok (.getfield 27, 3) := by decide +kernel
theorem dX3_setSupports_27 : decode cX3_setSupports 27 = .ok (.iload_n 3, 1) := by decide +kernel
theorem dX3_setSupports_28 : decode cX3_setSupports 28 = .ok (.iaload, 1) := by decide +kernel
theorem dX3_setSupports_29 : decode cX3_setSupports 29 = .ok (.bipush 100, 2) := by decide +kernel
theorem dX3_setSupports_31 : decode cX3_setSupports 31 = .ok (.irem, 1) := by decide +kernel
theorem dX3_setSupports_32 : decode cX3_setSupports 32 = .ok (.invokevirtual 42, 3) := by decide +kernel
theorem dX3_setSupports_35 : decode cX3_setSupports 35 = .ok (.iinc 3 1, 3) := by decide +kernel
theorem dX3_setSupports_38 : decode cX3_setSupports 38 = .ok (.goto (-36), 3) := by decide +kernel
theorem dX3_setSupports_41 : decode cX3_setSupports 41 = .ok (.aload_n 1, 1) := by decide +kernel
theorem dX3_setSupports_42 : decode cX3_setSupports 42 = .ok (.iload_n 2, 1) := by decide +kernel
theorem dX3_setSupports_43 : decode cX3_setSupports 43 = .ok (.putfield 46, 3) := by decide +kernel
theorem dX3_setSupports_46 : decode cX3_setSupports 46 = .ok (.return_, 1) := by decide +kernel
theorem dX3_keepEdition_0 : decode cX3_keepEdition 0 = .ok (.aload_n 0, 1) := by decide +kernel
theorem dX3_keepEdition_1 : decode cX3_keepEdition 1 = .ok (.getfield 49, 3) := by decide +kernel
theorem dX3_keepEdition_4 : decode cX3_keepEdition 4 = .ok (.bipush 60, 2) := by decide +kernel
theorem dX3_keepEdition_6 : decode cX3_keepEdition 6 = .ok (.if_icmp .lt 6, 3) := by decide +kernel
theorem dX3_keepEdition_9 : decode cX3_keepEdition 9 = .ok (.bipush (-3), 2) := by decide +kernel
theorem dX3_keepEdition_11 : decode cX3_keepEdition 11 = .ok (.ireturn, 1) := by decide +kernel
theorem dX3_keepEdition_12 : decode cX3_keepEdition 12 = .ok (.aload_n 0, 1) := by decide +kernel
theorem dX3_keepEdition_13 : decode cX3_keepEdition 13 = .ok (.dup, 1) := by decide +kernel
theorem dX3_keepEdition_14 : decode cX3_keepEdition 14 = .ok (.getfield 49, 3) := by decide +kernel
theorem dX3_keepEdition_17 : decode cX3_keepEdition 17 = .ok (.iconst 1, 1) := by decide +kernel
theorem dX3_keepEdition_18 : decode cX3_keepEdition 18 = .ok (.iadd, 1) := by decide +kernel
theorem dX3_keepEdition_19 : decode cX3_keepEdition 19 = .ok (.putfield 49, 3) := by decide +kernel
theorem dX3_keepEdition_22 : decode cX3_keepEdition 22 = .ok (.aload_n 0, 1) := by decide +kernel
theorem dX3_keepEdition_23 : decode cX3_keepEdition 23 = .ok (.getfield 17, 3) := by decide +kernel
theorem dX3_keepEdition_26 : decode cX3_keepEdition 26 = .ok (.aload_n 0, 1) := by decide +kernel
theorem dX3_keepEdition_27 : decode cX3_keepEdition 27 = .ok (.getfield 49, 3) := by decide +kernel
theorem dX3_keepEdition_30 : decode cX3_keepEdition 30 = .ok (.iload_n 1, 1) := by decide +kernel
theorem dX3_keepEdition_31 : decode cX3_keepEdition 31 = .ok (.iastore, 1) := by decide +kernel
theorem dX3_keepEdition_32 : decode cX3_keepEdition 32 = .ok (.aload_n 0, 1) := by decide +kernel
theorem dX3_keepEdition_33 : decode cX3_keepEdition 33 = .ok (.getfield 21, 3) := by decide +kernel
theorem dX3_keepEdition_36 : decode cX3_keepEdition 36 = .ok (.aload_n 0, 1) := by decide +kernel
theorem dX3_keepEdition_37 : decode cX3_keepEdition 37 = .ok (.getfield 49, 3) := by decide +kernel
theorem dX3_keepEdition_40 : decode cX3_keepEdition 40 = .ok (.iload_n 2, 1) := by decide +kernel
theorem dX3_keepEdition_41 : decode cX3_keepEdition 41 = .ok (.iastore, 1) := by decide +kernel
theorem dX3_keepEdition_42 : decode cX3_keepEdition 42 = .ok (.aload_n 0, 1) := by decide +kernel
theorem dX3_keepEdition_43 : decode cX3_keepEdition 43 = .ok (.getfield 24, 3) := by decide +kernel
theorem dX3_keepEdition_46 : decode cX3_keepEdition 46 = .ok (.aload_n 0, 1) := by decide +kernel
theorem dX3_keepEdition_47 : decode cX3_keepEdition 47 = .ok (.getfield 49, 3) := by decide +kernel
theorem dX3_keepEdition_50 : decode cX3_keepEdition 50 = .ok (.aload_n 0, 1) := by decide +kernel
theorem dX3_keepEdition_51 : decode cX3_keepEdition 51 = .ok (.getfield 30, 3) := by decide +kernel
theorem dX3_keepEdition_54 : decode cX3_keepEdition 54 = .ok (.iastore, 1) := by decide +kernel
theorem dX3_keepEdition_55 : decode cX3_keepEdition 55 = .ok (.aload_n 0, 1) := by decide +kernel
theorem dX3_keepEdition_56 : decode cX3_keepEdition 56 = .ok (.getfield 49, 3) := by decide +kernel
theorem dX3_keepEdition_59 : decode cX3_keepEdition 59 = .ok (.ireturn, 1) := by decide +kernel
theorem dX3_coursesIn_0 : decode cX3_coursesIn 0 = .ok (.aload_n 0, 1) := by decide +kernel
theorem dX3_coursesIn_1 : decode cX3_coursesIn 1 = .ok (.iload_n 2, 1) := by decide +kernel
theorem dX3_coursesIn_2 : decode cX3_coursesIn 2 = .ok (.invokevirtual 52, 3) := by decide +kernel
theorem dX3_coursesIn_5 : decode cX3_coursesIn 5 = .ok (.astore_n 3, 1) := by decide +kernel
theorem dX3_coursesIn_6 : decode cX3_coursesIn 6 = .ok (.aload_n 3, 1) := by decide +kernel
theorem dX3_coursesIn_7 : decode cX3_coursesIn 7 = .ok (.ifnull 15, 3) := by decide +kernel
theorem dX3_coursesIn_10 : decode cX3_coursesIn 10 = .ok (.iload_n 1, 1) := by decide +kernel
theorem dX3_coursesIn_11 : decode cX3_coursesIn 11 = .ok (.ifCond .lt 11, 3) := by decide +kernel
theorem dX3_coursesIn_14 : decode cX3_coursesIn 14 = .ok (.iload_n 1, 1) := by decide +kernel
theorem dX3_coursesIn_15 : decode cX3_coursesIn 15 = .ok (.aload_n 0, 1) := by decide +kernel
theorem dX3_coursesIn_16 : decode cX3_coursesIn 16 = .ok (.getfield 49, 3) := by decide +kernel
theorem dX3_coursesIn_19 : decode cX3_coursesIn 19 = .ok (.if_icmp .le 5, 3) := by decide +kernel
theorem dX3_coursesIn_22 : decode cX3_coursesIn 22 = .ok (.iconst (-1), 1) := by decide +kernel
theorem dX3_coursesIn_23 : decode cX3_coursesIn 23 = .ok (.ireturn, 1) := by decide +kernel
theorem dX3_coursesIn_24 : decode cX3_coursesIn 24 = .ok (.iload_n 1, 1) := by decide +kernel
theorem dX3_coursesIn_25 : decode cX3_coursesIn 25 = .ok (.ifCond .le 15, 3) := by decide +kernel
theorem dX3_coursesIn_28 : decode cX3_coursesIn 28 = .ok (.iload_n 2, 1) := by decide +kernel
theorem dX3_coursesIn_29 : decode cX3_coursesIn 29 = .ok (.aload_n 0, 1) := by decide +kernel
theorem dX3_coursesIn_30 : decode cX3_coursesIn 30 = .ok (.getfield 24, 3) := by decide +kernel
theorem dX3_coursesIn_33 : decode cX3_coursesIn 33 = .ok (.iload_n 1, 1) := by decide +kernel
theorem dX3_coursesIn_34 : decode cX3_coursesIn 34 = .ok (.iaload, 1) := by decide +kernel
theorem dX3_coursesIn_35 : decode cX3_coursesIn 35 = .ok (.if_icmp .lt 5, 3) := by decide +kernel
theorem dX3_coursesIn_38 : decode cX3_coursesIn 38 = .ok (.iconst (-1), 1) := by decide +kernel
theorem dX3_coursesIn_39 : decode cX3_coursesIn 39 = .ok (.ireturn, 1) := by decide +kernel
theorem dX3_coursesIn_40 : decode cX3_coursesIn 40 = .ok (.iload_n 1, 1) := by decide +kernel
theorem dX3_coursesIn_41 : decode cX3_coursesIn 41 = .ok (.istore 4, 2) := by decide +kernel
theorem dX3_coursesIn_43 : decode cX3_coursesIn 43 = .ok (.iload 4, 2) := by decide +kernel
theorem dX3_coursesIn_45 : decode cX3_coursesIn 45 = .ok (.ifCond .le 28, 3) := by decide +kernel
theorem dX3_coursesIn_48 : decode cX3_coursesIn 48 = .ok (.aload_n 0, 1) := by decide +kernel
theorem dX3_coursesIn_49 : decode cX3_coursesIn 49 = .ok (.getfield 17, 3) := by decide +kernel
theorem dX3_coursesIn_52 : decode cX3_coursesIn 52 = .ok (.iload 4, 2) := by decide +kernel
theorem dX3_coursesIn_54 : decode cX3_coursesIn 54 = .ok (.iaload, 1) := by decide +kernel
theorem dX3_coursesIn_55 : decode cX3_coursesIn 55 = .ok (.iload_n 2, 1) := by decide +kernel
theorem dX3_coursesIn_56 : decode cX3_coursesIn 56 = .ok (.if_icmp .ne 11, 3) := by decide +kernel
theorem dX3_coursesIn_59 : decode cX3_coursesIn 59 = .ok (.aload_n 0, 1) := by decide +kernel
theorem dX3_coursesIn_60 : decode cX3_coursesIn 60 = .ok (.getfield 21, 3) := by decide +kernel
theorem dX3_coursesIn_63 : decode cX3_coursesIn 63 = .ok (.iload 4, 2) := by decide +kernel
theorem dX3_coursesIn_65 : decode cX3_coursesIn 65 = .ok (.iaload, 1) := by decide +kernel
theorem dX3_coursesIn_66 : decode cX3_coursesIn 66 = .ok (.ireturn, 1) := by decide +kernel
theorem dX3_coursesIn_67 : decode cX3_coursesIn 67 = .ok (.iinc 4 (-1), 3) := by decide +kernel
theorem dX3_coursesIn_70 : decode cX3_coursesIn 70 = .ok (.goto (-27), 3) := by decide +kernel
theorem dX3_coursesIn_73 : decode cX3_coursesIn 73 = .ok (.aload_n 3, 1) := by decide +kernel
theorem dX3_coursesIn_74 : decode cX3_coursesIn 74 = .ok (.getfield 56, 3) := by decide +kernel
theorem dX3_coursesIn_77 : decode cX3_coursesIn 77 = .ok (.ireturn, 1) := by decide +kernel
theorem dX3_isReadyBelow_0 : decode cX3_isReadyBelow 0 = .ok (.iconst 0, 1) := by decide +kernel
theorem dX3_isReadyBelow_1 : decode cX3_isReadyBelow 1 = .ok (.istore_n 2, 1) := by decide +kernel
theorem dX3_isReadyBelow_2 : decode cX3_isReadyBelow 2 = .ok (.iload_n 2, 1) := by decide +kernel
theorem dX3_isReadyBelow_3 : decode cX3_isReadyBelow 3 = .ok (.aload_n 1, 1) := by decide +kernel
theorem dX3_isReadyBelow_4 : decode cX3_isReadyBelow 4 = .ok (.getfield 46, 3) := by decide +kernel
theorem dX3_isReadyBelow_7 : decode cX3_isReadyBelow 7 = .ok (.if_icmp .ge 40, 3) := by decide +kernel
theorem dX3_isReadyBelow_10 : decode cX3_isReadyBelow 10 = .ok (.aload_n 0, 1) := by decide +kernel
theorem dX3_isReadyBelow_11 : decode cX3_isReadyBelow 11 = .ok (.aload_n 1, 1) := by decide +kernel
theorem dX3_isReadyBelow_12 : decode cX3_isReadyBelow 12 = .ok (.getfield 59, 3) := by decide +kernel
theorem dX3_isReadyBelow_15 : decode cX3_isReadyBelow 15 = .ok (.iload_n 2, 1) := by decide +kernel
theorem dX3_isReadyBelow_16 : decode cX3_isReadyBelow 16 = .ok (.iaload, 1) := by decide +kernel
theorem dX3_isReadyBelow_17 : decode cX3_isReadyBelow 17 = .ok (.invokevirtual 52, 3) := by decide +kernel
theorem dX3_isReadyBelow_20 : decode cX3_isReadyBelow 20 = .ok (.astore_n 3, 1) := by decide +kernel
theorem dX3_isReadyBelow_21 : decode cX3_isReadyBelow 21 = .ok (.aload_n 3, 1) := by decide +kernel
theorem dX3_isReadyBelow_22 : decode cX3_isReadyBelow 22 = .ok (.ifnull 17, 3) := by decide +kernel
theorem dX3_isReadyBelow_25 : decode cX3_isReadyBelow 25 = .ok (.aload_n 3, 1) := by decide +kernel
theorem dX3_isReadyBelow_26 : decode cX3_isReadyBelow 26 = .ok (.invokevirtual 62, 3) := by decide +kernel
theorem dX3_isReadyBelow_29 : decode cX3_isReadyBelow 29 = .ok (.ifCond .eq 10, 3) := by decide +kernel
theorem dX3_isReadyBelow_32 : decode cX3_isReadyBelow 32 = .ok (.aload_n 3, 1) := by decide +kernel
theorem dX3_isReadyBelow_33 : decode cX3_isReadyBelow 33 = .ok (.invokevirtual 66, 3) := by decide +kernel
theorem dX3_isReadyBelow_36 : decode cX3_isReadyBelow 36 = .ok (.ifCond .eq 5, 3) := by decide +kernel
theorem dX3_isReadyBelow_39 : decode cX3_isReadyBelow 39 = .ok (.iconst 0, 1) := by decide +kernel
theorem dX3_isReadyBelow_40 : decode cX3_isReadyBelow 40 = .ok (.ireturn, 1) := by decide +kernel
theorem dX3_isReadyBelow_41 : decode cX3_isReadyBelow 41 = .ok (.iinc 2 1, 3) := by decide +kernel
theorem dX3_isReadyBelow_44 : decode cX3_isReadyBelow 44 = .ok (.goto (-42), 3) := by decide +kernel
theorem dX3_isReadyBelow_47 : decode cX3_isReadyBelow 47 = .ok (.iconst 1, 1) := by decide +kernel
theorem dX3_isReadyBelow_48 : decode cX3_isReadyBelow 48 = .ok (.ireturn, 1) := by decide +kernel
theorem dX3_ageAll_0 : decode cX3_ageAll 0 = .ok (.iconst 0, 1) := by decide +kernel
theorem dX3_ageAll_1 : decode cX3_ageAll 1 = .ok (.istore_n 2, 1) := by decide +kernel
theorem dX3_ageAll_2 : decode cX3_ageAll 2 = .ok (.iload_n 2, 1) := by decide +kernel
theorem dX3_ageAll_3 : decode cX3_ageAll 3 = .ok (.aload_n 0, 1) := by decide +kernel
theorem dX3_ageAll_4 : decode cX3_ageAll 4 = .ok (.getfield 30, 3) := by decide +kernel
theorem dX3_ageAll_7 : decode cX3_ageAll 7 = .ok (.if_icmp .ge 36, 3) := by decide +kernel
theorem dX3_ageAll_10 : decode cX3_ageAll 10 = .ok (.aload_n 0, 1) := by decide +kernel
theorem dX3_ageAll_11 : decode cX3_ageAll 11 = .ok (.iload_n 2, 1) := by decide +kernel
theorem dX3_ageAll_12 : decode cX3_ageAll 12 = .ok (.invokevirtual 52, 3) := by decide +kernel
theorem dX3_ageAll_15 : decode cX3_ageAll 15 = .ok (.astore_n 3, 1) := by decide +kernel
theorem dX3_ageAll_16 : decode cX3_ageAll 16 = .ok (.aload_n 3, 1) := by decide +kernel
theorem dX3_ageAll_17 : decode cX3_ageAll 17 = .ok (.ifnull 20, 3) := by decide +kernel
theorem dX3_ageAll_20 : decode cX3_ageAll 20 = .ok (.aload_n 3, 1) := by decide +kernel
theorem dX3_ageAll_21 : decode cX3_ageAll 21 = .ok (.invokevirtual 69, 3) := by decide +kernel
theorem dX3_ageAll_24 : decode cX3_ageAll 24 = .ok (.ifCond .eq 13, 3) := by decide +kernel
theorem dX3_ageAll_27 : decode cX3_ageAll 27 = .ok (.aload_n 3, 1) := by decide +kernel
theorem dX3_ageAll_28 : decode cX3_ageAll 28 = .ok (.dup, 1) := by decide +kernel
theorem dX3_ageAll_29 : decode cX3_ageAll 29 = .ok (.getfield 72, 3) := by decide +kernel
theorem dX3_ageAll_32 : decode cX3_ageAll 32 = .ok (.iload_n 1, 1) := by decide +kernel
theorem dX3_ageAll_33 : decode cX3_ageAll 33 = .ok (.iadd, 1) := by decide +kernel
theorem dX3_ageAll_34 : decode cX3_ageAll 34 = .ok (.putfield 72, 3) := by decide +kernel
theorem dX3_ageAll_37 : decode cX3_ageAll 37 = .ok (.iinc 2 1, 3) := by decide +kernel
theorem dX3_ageAll_40 : decode cX3_ageAll 40 = .ok (.goto (-38), 3) := by decide +kernel
theorem dX3_ageAll_43 : decode cX3_ageAll 43 = .ok (.return_, 1) := by decide +kernel
theorem dX3_countBorneBy_0 : decode cX3_countBorneBy 0 = .ok (.iconst 0, 1) := by decide +kernel
theorem dX3_countBorneBy_1 : decode cX3_countBorneBy 1 = .ok (.istore_n 2, 1) := by decide +kernel
theorem dX3_countBorneBy_2 : decode cX3_countBorneBy 2 = .ok (.iconst 0, 1) := by decide +kernel
theorem dX3_countBorneBy_3 : decode cX3_countBorneBy 3 = .ok (.istore_n 3, 1) := by decide +kernel
theorem dX3_countBorneBy_4 : decode cX3_countBorneBy 4 = .ok (.iload_n 3, 1) := by decide +kernel
theorem dX3_countBorneBy_5 : decode cX3_countBorneBy 5 = .ok (.aload_n 0, 1) := by decide +kernel
theorem dX3_countBorneBy_6 : decode cX3_countBorneBy 6 = .ok (.getfield 30, 3) := by decide +kernel
theorem dX3_countBorneBy_9 : decode cX3_countBorneBy 9 = .ok (.if_icmp .ge 33, 3) := by decide +kernel
theorem dX3_countBorneBy_12 : decode cX3_countBorneBy 12 = .ok (.aload_n 0, 1) := by decide +kernel
theorem dX3_countBorneBy_13 : decode cX3_countBorneBy 13 = .ok (.iload_n 3, 1) := by decide +kernel
theorem dX3_countBorneBy_14 : decode cX3_countBorneBy 14 = .ok (.invokevirtual 52, 3) := by decide +kernel
theorem dX3_countBorneBy_17 : decode cX3_countBorneBy 17 = .ok (.astore 4, 2) := by decide +kernel
theorem dX3_countBorneBy_19 : decode cX3_countBorneBy 19 = .ok (.aload 4, 2) := by decide +kernel
theorem dX3_countBorneBy_21 : decode cX3_countBorneBy 21 = .ok (.ifnull 15, 3) := by decide +kernel
theorem dX3_countBorneBy_24 : decode cX3_countBorneBy 24 = .ok (.aload 4, 2) := by decide +kernel
theorem dX3_countBorneBy_26 : decode cX3_countBorneBy 26 = .ok (.iload_n 1, 1) := by decide +kernel
theorem dX3_countBorneBy_27 : decode cX3_countBorneBy 27 = .ok (.invokevirtual 75, 3) := by decide +kernel
theorem dX3_countBorneBy_30 : decode cX3_countBorneBy 30 = .ok (.ifCond .eq 6, 3) := by decide +kernel
theorem dX3_countBorneBy_33 : decode cX3_countBorneBy 33 = .ok (.iinc 2 1, 3) := by decide +kernel
theorem dX3_countBorneBy_36 : decode cX3_countBorneBy 36 = .ok (.iinc 3 1, 3) := by decide +kernel
theorem dX3_countBorneBy_39 : decode cX3_countBorneBy 39 = .ok (.goto (-35), 3) := by decide +kernel
theorem dX3_countBorneBy_42 : decode cX3_countBorneBy 42 = .ok (.iload_n 2, 1) := by decide +kernel
theorem dX3_countBorneBy_43 : decode cX3_countBorneBy 43 = .ok (.ireturn, 1) := by decide +kernel
theorem dX3_countLaid_0 : decode cX3_countLaid 0 = .ok (.iconst 0, 1) := by decide +kernel
theorem dX3_countLaid_1 : decode cX3_countLaid 1 = .ok (.istore_n 1, 1) := by decide +kernel
theorem dX3_countLaid_2 : decode cX3_countLaid 2 = .ok (.iconst 0, 1) := by decide +kernel
theorem dX3_countLaid_3 : decode cX3_countLaid 3 = .ok (.istore_n 2, 1) := by decide +kernel
theorem dX3_countLaid_4 : decode cX3_countLaid 4 = .ok (.iload_n 2, 1) := by decide +kernel
theorem dX3_countLaid_5 : decode cX3_countLaid 5 = .ok (.aload_n 0, 1) := by decide +kernel
theorem dX3_countLaid_6 : decode cX3_countLaid 6 = .ok (.getfield 30, 3) := by decide +kernel
theorem dX3_countLaid_9 : decode cX3_countLaid 9 = .ok (.if_icmp .ge 26, 3) := by decide +kernel
theorem dX3_countLaid_12 : decode cX3_countLaid 12 = .ok (.aload_n 0, 1) := by decide +kernel
theorem dX3_countLaid_13 : decode cX3_countLaid 13 = .ok (.iload_n 2, 1) := by decide +kernel
theorem dX3_countLaid_14 : decode cX3_countLaid 14 = .ok (.invokevirtual 52, 3) := by decide +kernel
theorem dX3_countLaid_17 : decode cX3_countLaid 17 = .ok (.astore_n 3, 1) := by decide +kernel
theorem dX3_countLaid_18 : decode cX3_countLaid 18 = .ok (.aload_n 3, 1) := by decide +kernel
theorem dX3_countLaid_19 : decode cX3_countLaid 19 = .ok (.ifnull 10, 3) := by decide +kernel
theorem dX3_countLaid_22 : decode cX3_countLaid 22 = .ok (.iload_n 1, 1) := by decide +kernel
theorem dX3_countLaid_23 : decode cX3_countLaid 23 = .ok (.aload_n 3, 1) := by decide +kernel
theorem dX3_countLaid_24 : decode cX3_countLaid 24 = .ok (.getfield 78, 3) := by decide +kernel
theorem dX3_countLaid_27 : decode cX3_countLaid 27 = .ok (.iadd, 1) := by decide +kernel
theorem dX3_countLaid_28 : decode cX3_countLaid 28 = .ok (.istore_n 1, 1) := by decide +kernel
theorem dX3_countLaid_29 : decode cX3_countLaid 29 = .ok (.iinc 2 1, 3) := by decide +kernel
theorem dX3_countLaid_32 : decode cX3_countLaid 32 = .ok (.goto (-28), 3) := by decide +kernel
theorem dX3_countLaid_35 : decode cX3_countLaid 35 = .ok (.iload_n 1, 1) := by decide +kernel
theorem dX3_countLaid_36 : decode cX3_countLaid 36 = .ok (.ireturn, 1) := by decide +kernel
theorem dX4_init_0 : decode cX4_init 0 = .ok (.aload_n 0, 1) := by decide +kernel
theorem dX4_init_1 : decode cX4_init 1 = .ok (.invokespecial 3, 3) := by decide +kernel
theorem dX4_init_4 : decode cX4_init 4 = .ok (.aload_n 0, 1) := by decide +kernel
theorem dX4_init_5 : decode cX4_init 5 = .ok (.ldc 9, 2) := by decide +kernel
theorem dX4_init_7 : decode cX4_init 7 = .ok (.invokevirtual 11, 3) := by decide +kernel
theorem dX4_init_10 : decode cX4_init 10 = .ok (.newarray .int, 2) := by decide +kernel
theorem dX4_init_12 : decode cX4_init 12 = .ok (.putfield 17, 3) := by decide +kernel
theorem dX4_init_15 : decode cX4_init 15 = .ok (.aload_n 0, 1) := by decide +kernel
theorem dX4_init_16 : decode cX4_init 16 = .ok (.bipush 100, 2) := by decide +kernel
theorem dX4_init_18 : decode cX4_init 18 = .ok (.newarray .int, 2) := by decide +kernel
theorem dX4_init_20 : decode cX4_init 20 = .ok (.putfield 23, 3) := by decide +kernel
theorem dX4_init_23 : decode cX4_init 23 = .ok (.return_, 1) := by decide +kernel
theorem dX4_nameNoPart_0 : decode cX4_nameNoPart 0 = .ok (.aload_n 0, 1) := by decide +kernel
theorem dX4_nameNoPart_1 : decode cX4_nameNoPart 1 = .ok (.getfield 17, 3) := by decide +kernel
theorem dX4_nameNoPart_4 : decode cX4_nameNoPart 4 = .ok (.iconst 0, 1) := by decide +kernel
theorem dX4_nameNoPart_5 : decode cX4_nameNoPart 5 = .ok (.iconst 0, 1) := by decide +kernel
theorem dX4_nameNoPart_6 : decode cX4_nameNoPart 6 = .ok (.iastore, 1) := by decide +kernel
theorem dX4_nameNoPart_7 : decode cX4_nameNoPart 7 = .ok (.aload_n 0, 1) := by decide +kernel
theorem dX4_nameNoPart_8 : decode cX4_nameNoPart 8 = .ok (.getfield 17, 3) := by decide +kernel
theorem dX4_nameNoPart_11 : decode cX4_nameNoPart 11 = .ok (.iconst 1, 1) := by decide +kernel
theorem dX4_nameNoPart_12 : decode cX4_nameNoPart 12 = .ok (.iconst 0, 1) := by decide +kernel
theorem dX4_nameNoPart_13 : decode cX4_nameNoPart 13 = .ok (.iastore, 1) := by decide +kernel
theorem dX4_nameNoPart_14 : decode cX4_nameNoPart 14 = .ok (.aload_n 0, 1) := by decide +kernel
theorem dX4_nameNoPart_15 : decode cX4_nameNoPart 15 = .ok (.getfield 17, 3) := by decide +kernel
theorem dX4_nameNoPart_18 : decode cX4_nameNoPart 18 = .ok (.iconst 2, 1) := by decide +kernel
theorem dX4_nameNoPart_19 : decode cX4_nameNoPart 19 = .ok (.iconst 0, 1) := by decide +kernel
theorem dX4_nameNoPart_20 : decode cX4_nameNoPart 20 = .ok (.iastore, 1) := by decide +kernel
theorem dX4_nameNoPart_21 : decode cX4_nameNoPart 21 = .ok (.aload_n 0, 1) := by decide +kernel
theorem dX4_nameNoPart_22 : decode cX4_nameNoPart 22 = .ok (.getfield 17, 3) := by decide +kernel
theorem dX4_nameNoPart_25 : decode cX4_nameNoPart 25 = .ok (.iconst 3, 1) := by decide +kernel
theorem dX4_nameNoPart_26 : decode cX4_nameNoPart 26 = .ok (.iconst 0, 1) := by decide +kernel
theorem dX4_nameNoPart_27 : decode cX4_nameNoPart 27 = .ok (.iastore, 1) := by decide +kernel
theorem dX4_nameNoPart_28 : decode cX4_nameNoPart 28 = .ok (.return_, 1) := by decide +kernel
theorem dX4_namePart_0 : decode cX4_namePart 0 = .ok (.aload_n 0, 1) := by decide +kernel
theorem dX4_namePart_1 : decode cX4_namePart 1 = .ok (.getfield 17, 3) := by decide +kernel
theorem dX4_namePart_4 : decode cX4_namePart 4 = .ok (.iconst 0, 1) := by decide +kernel
theorem dX4_namePart_5 : decode cX4_namePart 5 = .ok (.iload_n 1, 1) := by decide +kernel
theorem dX4_namePart_6 : decode cX4_namePart 6 = .ok (.iastore, 1) := by decide +kernel
theorem dX4_namePart_7 : decode cX4_namePart 7 = .ok (.aload_n 0, 1) := by decide +kernel
theorem dX4_namePart_8 : decode cX4_namePart 8 = .ok (.getfield 17, 3) := by decide +kernel
theorem dX4_namePart_11 : decode cX4_namePart 11 = .ok (.iconst 1, 1) := by decide +kernel
theorem dX4_namePart_12 : decode cX4_namePart 12 = .ok (.aload_n 2, 1) := by decide +kernel
theorem dX4_namePart_13 : decode cX4_namePart 13 = .ok (.getfield 26, 3) := by decide +kernel
theorem dX4_namePart_16 : decode cX4_namePart 16 = .ok (.iastore, 1) := by decide +kernel
theorem dX4_namePart_17 : decode cX4_namePart 17 = .ok (.aload_n 0, 1) := by decide +kernel
theorem dX4_namePart_18 : decode cX4_namePart 18 = .ok (.getfield 17, 3) := by decide +kernel
theorem dX4_namePart_21 : decode cX4_namePart 21 = .ok (.iconst 2, 1) := by decide +kernel
theorem dX4_namePart_22 : decode cX4_namePart 22 = .ok (.aload_n 2, 1) := by decide +kernel
theorem dX4_namePart_23 : decode cX4_namePart 23 = .ok (.getfield 32, 3) := by decide +kernel
theorem dX4_namePart_26 : decode cX4_namePart 26 = .ok (.iastore, 1) := by decide +kernel
theorem dX4_namePart_27 : decode cX4_namePart 27 = .ok (.aload_n 0, 1) := by decide +kernel
theorem dX4_namePart_28 : decode cX4_namePart 28 = .ok (.getfield 17, 3) := by decide +kernel
theorem dX4_namePart_31 : decode cX4_namePart 31 = .ok (.iconst 3, 1) := by decide +kernel
theorem dX4_namePart_32 : decode cX4_namePart 32 = .ok (.aload_n 2, 1) := by decide +kernel
theorem dX4_namePart_33 : decode cX4_namePart 33 = .ok (.getfield 35, 3) := by decide +kernel
theorem dX4_namePart_36 : decode cX4_namePart 36 = .ok (.iastore, 1) := by decide +kernel
theorem dX4_namePart_37 : decode cX4_namePart 37 = .ok (.return_, 1) := by decide +kernel
theorem dX4_nameMonth_0 : decode cX4_nameMonth 0 = .ok (.aload_n 0, 1) := by decide +kernel
theorem dX4_nameMonth_1 : decode cX4_nameMonth 1 = .ok (.getfield 17, 3) := by decide +kernel
theorem dX4_nameMonth_4 : decode cX4_nameMonth 4 = .ok (.iconst 4, 1) := by decide +kernel
theorem dX4_nameMonth_5 : decode cX4_nameMonth 5 = .ok (.iload_n 1, 1) := by decide +kernel
theorem dX4_nameMonth_6 : decode cX4_nameMonth 6 = .ok (.bipush 12, 2) := by decide +kernel
theorem dX4_nameMonth_8 : decode cX4_nameMonth 8 = .ok (.irem, 1) := by decide +kernel
theorem dX4_nameMonth_9 : decode cX4_nameMonth 9 = .ok (.iastore, 1) := by decide +kernel
theorem dX4_nameMonth_10 : decode cX4_nameMonth 10 = .ok (.aload_n 0, 1) := by decide +kernel
theorem dX4_nameMonth_11 : decode cX4_nameMonth 11 = .ok (.getfield 17, 3) := by decide +kernel
theorem dX4_nameMonth_14 : decode cX4_nameMonth 14 = .ok (.iconst 5, 1) := by decide +kernel
theorem dX4_nameMonth_15 : decode cX4_nameMonth 15 = .ok (.iload_n 1, 1) := by decide +kernel
theorem dX4_nameMonth_16 : decode cX4_nameMonth 16 = .ok (.bipush 12, 2) := by decide +kernel
theorem dX4_nameMonth_18 : decode cX4_nameMonth 18 = .ok (.idiv, 1) := by decide +kernel
theorem dX4_nameMonth_19 : decode cX4_nameMonth 19 = .ok (.iastore, 1) := by decide +kernel
theorem dX4_nameMonth_20 : decode cX4_nameMonth 20 = .ok (.aload_n 0, 1) := by decide +kernel
theorem dX4_nameMonth_21 : decode cX4_nameMonth 21 = .ok (.getfield 17, 3) := by decide +kernel
theorem dX4_nameMonth_24 : decode cX4_nameMonth 24 = .ok (.bipush 6, 2) := by decide +kernel
theorem dX4_nameMonth_26 : decode cX4_nameMonth 26 = .ok (.iload_n 2, 1) := by decide +kernel
theorem dX4_nameMonth_27 : decode cX4_nameMonth 27 = .ok (.ifCond .eq 7, 3) := by decide +kernel
theorem dX4_nameMonth_30 : decode cX4_nameMonth 30 = .ok (.iconst 1, 1) := by decide +kernel
theorem dX4_nameMonth_31 : decode cX4_nameMonth 31 = .ok (.goto 4, 3) := by decide +kernel
theorem dX4_nameMonth_34 : decode cX4_nameMonth 34 = .ok (.iconst 0, 1) := by decide +kernel
theorem dX4_nameMonth_35 : decode cX4_nameMonth 35 = .ok (.iastore, 1) := by decide +kernel
theorem dX4_nameMonth_36 : decode cX4_nameMonth 36 = .ok (.aload_n 0, 1) := by decide +kernel
theorem dX4_nameMonth_37 : decode cX4_nameMonth 37 = .ok (.getfield 17, 3) := by decide +kernel
theorem dX4_nameMonth_40 : decode cX4_nameMonth 40 = .ok (.bipush 7, 2) := by decide +kernel
theorem dX4_nameMonth_42 : decode cX4_nameMonth 42 = .ok (.iload_n 3, 1) := by decide +kernel
theorem dX4_nameMonth_43 : decode cX4_nameMonth 43 = .ok (.iastore, 1) := by decide +kernel
theorem dX4_nameMonth_44 : decode cX4_nameMonth 44 = .ok (.return_, 1) := by decide +kernel
theorem dX4_endOf_0 : decode cX4_endOf 0 = .ok (.aload_n 1, 1) := by decide +kernel
theorem dX4_endOf_1 : decode cX4_endOf 1 = .ok (.getfield 38, 3) := by decide +kernel
theorem dX4_endOf_4 : decode cX4_endOf 4 = .ok (.ifnonnull 7, 3) := by decide +kernel
theorem dX4_endOf_7 : decode cX4_endOf 7 = .ok (.iconst 1, 1) := by decide +kernel
theorem dX4_endOf_8 : decode cX4_endOf 8 = .ok (.goto 11, 3) := by decide +kernel
theorem dX4_endOf_11 : decode cX4_endOf 11 = .ok (.aload_n 0, 1) := by decide +kernel
theorem dX4_endOf_12 : decode cX4_endOf 12 = .ok (.aload_n 1, 1) := by decide +kernel
theorem dX4_endOf_13 : decode cX4_endOf 13 = .ok (.getfield 38, 3) := by decide +kernel
theorem dX4_endOf_16 : decode cX4_endOf 16 = .ok (.invokevirtual 44, 3) := by decide +kernel
theorem dX4_endOf_19 : decode cX4_endOf 19 = .ok (.ireturn, 1) := by decide +kernel
theorem dX4_valueOf_0 : decode cX4_valueOf 0 = .ok (.aload_n 1, 1) := by decide +kernel
theorem dX4_valueOf_1 : decode cX4_valueOf 1 = .ok (.ifnonnull 5, 3) := by decide +kernel
theorem dX4_valueOf_4 : decode cX4_valueOf 4 = .ok (.iconst 0, 1) := by decide +kernel
theorem dX4_valueOf_5 : decode cX4_valueOf 5 = .ok (.ireturn, 1) := by decide +kernel
theorem dX4_valueOf_6 : decode cX4_valueOf 6 = .ok (.iconst 0, 1) := by decide +kernel
theorem dX4_valueOf_7 : decode cX4_valueOf 7 = .ok (.istore_n 2, 1) := by decide +kernel
theorem dX4_valueOf_8 : decode cX4_valueOf 8 = .ok (.aload_n 1, 1) := by decide +kernel
theorem dX4_valueOf_9 : decode cX4_valueOf 9 = .ok (.getfield 48, 3) := by decide +kernel
theorem dX4_valueOf_12 : decode cX4_valueOf 12 = .ok (.arraylength, 1) := by decide +kernel
theorem dX4_valueOf_13 : decode cX4_valueOf 13 = .ok (.iconst 1, 1) := by decide +kernel
theorem dX4_valueOf_14 : decode cX4_valueOf 14 = .ok (.isub, 1) := by decide +kernel
theorem dX4_valueOf_15 : decode cX4_valueOf 15 = .ok (.istore_n 3, 1) := by decide +kernel
theorem dX4_valueOf_16 : decode cX4_valueOf 16 = .ok (.iload_n 3, 1) := by decide +kernel
theorem dX4_valueOf_17 : decode cX4_valueOf 17 = .ok (.ifCond .lt 127, 3) := by decide +kernel
theorem dX4_valueOf_20 : decode cX4_valueOf 20 = .ok (.aload_n 1, 1) := by decide +kernel
theorem dX4_valueOf_21 : decode cX4_valueOf 21 = .ok (.getfield 48, 3) := by decide +kernel
theorem dX4_valueOf_24 : decode cX4_valueOf 24 = .ok (.iload_n 3, 1) := by decide +kernel
theorem dX4_valueOf_25 : decode cX4_valueOf 25 = .ok (.iaload, 1) := by decide +kernel
theorem dX4_valueOf_26 : decode cX4_valueOf 26 = .ok (.istore 4, 2) := by decide +kernel
theorem dX4_valueOf_28 : decode cX4_valueOf 28 = .ok (.iload 4, 2) := by decide +kernel
theorem dX4_valueOf_30 : decode cX4_valueOf 30 = .ok (.invokestatic 53, 3) := by decide +kernel
theorem dX4_valueOf_33 : decode cX4_valueOf 33 = .ok (.ifCond .ne 27, 3) := by decide +kernel
theorem dX4_valueOf_36 : decode cX4_valueOf 36 = .ok (.iload_n 2, 1) := by decide +kernel
theorem dX4_valueOf_37 : decode cX4_valueOf 37 = .ok (.bipush 100, 2) := by decide +kernel
theorem dX4_valueOf_39 : decode cX4_valueOf 39 = .ok (.if_icmp .ge 99, 3) := by decide +kernel
theorem dX4_valueOf_42 : decode cX4_valueOf 42 = .ok (.aload_n 0, 1) := by decide +kernel
theorem dX4_valueOf_43 : decode cX4_valueOf 43 = .ok (.getfield 23, 3) := by decide +kernel
theorem dX4_valueOf_46 : decode cX4_valueOf 46 = .ok (.iload_n 2, 1) := by decide +kernel
theorem dX4_valueOf_47 : decode cX4_valueOf 47 = .ok (.aload_n 0, 1) := by decide +kernel
theorem dX4_valueOf_48 : decode cX4_valueOf 48 = .ok (.iload 4, 2) := by decide +kernel
theorem dX4_valueOf_50 : decode cX4_valueOf 50 = .ok (.invokevirtual 57, 3) := by decide +kernel
theorem dX4_valueOf_53 : decode cX4_valueOf 53 = .ok (.iastore, 1) := by decide +kernel
theorem dX4_valueOf_54 : decode cX4_valueOf 54 = .ok (.iinc 2 1, 3) := by decide +kernel
theorem dX4_valueOf_57 : decode cX4_valueOf 57 = .ok (.goto 81, 3) := by decide +kernel
theorem dX4_valueOf_60 : decode cX4_valueOf 60 = .ok (.iload 4, 2) := by decide +kernel
theorem dX4_valueOf_62 : decode cX4_valueOf 62 = .ok (.bipush (-33), 2) := by decide +kernel
theorem dX4_valueOf_64 : decode cX4_valueOf 64 = .ok (.if_icmp .ne 38, 3) := by decide +kernel
theorem dX4_valueOf_67 : decode cX4_valueOf 67 = .ok (.iload_n 2, 1) := by decide +kernel
theorem dX4_valueOf_68 : decode cX4_valueOf 68 = .ok (.iconst 1, 1) := by decide +kernel
theorem dX4_valueOf_69 : decode cX4_valueOf 69 = .ok (.if_icmp .lt 69, 3) := by decide +kernel
theorem dX4_valueOf_72 : decode cX4_valueOf 72 = .ok (.aload_n 0, 1) := by decide +kernel
theorem dX4_valueOf_73 : decode cX4_valueOf 73 = .ok (.getfield 23, 3) := by decide +kernel
theorem dX4_valueOf_76 : decode cX4_valueOf 76 = .ok (.iload_n 2, 1) := by decide +kernel
theorem dX4_valueOf_77 : decode cX4_valueOf 77 = .ok (.iconst 1, 1) := by decide +kernel
theorem dX4_valueOf_78 : decode cX4_valueOf 78 = .ok (.isub, 1) := by decide +kernel
theorem dX4_valueOf_79 : decode cX4_valueOf 79 = .ok (.aload_n 0, 1) := by decide +kernel
theorem dX4_valueOf_80 : decode cX4_valueOf 80 = .ok (.getfield 23, 3) := by decide +kernel
theorem dX4_valueOf_83 : decode cX4_valueOf 83 = .ok (.iload_n 2, 1) := by decide +kernel
theorem dX4_valueOf_84 : decode cX4_valueOf 84 = .ok (.iconst 1, 1) := by decide +kernel
theorem dX4_valueOf_85 : decode cX4_valueOf 85 = .ok (.isub, 1) := by decide +kernel
theorem dX4_valueOf_86 : decode cX4_valueOf 86 = .ok (.iaload, 1) := by decide +kernel
theorem dX4_valueOf_87 : decode cX4_valueOf 87 = .ok (.ifCond .ne 7, 3) := by decide +kernel
theorem dX4_valueOf_90 : decode cX4_valueOf 90 = .ok (.iconst 1, 1) := by decide +kernel
theorem dX4_valueOf_91 : decode cX4_valueOf 91 = .ok (.goto 4, 3) := by decide +kernel
theorem dX4_valueOf_94 : decode cX4_valueOf 94 = .ok (.iconst 0, 1) := by decide +kernel
theorem dX4_valueOf_95 : decode cX4_valueOf 95 = .ok (.invokestatic 61, 3) := by decide +kernel
theorem dX4_valueOf_98 : decode cX4_valueOf 98 = .ok (.iastore, 1) := by decide +kernel
theorem dX4_valueOf_99 : decode cX4_valueOf 99 = .ok (.goto 39, 3) := by decide +kernel
theorem dX4_valueOf_102 : decode cX4_valueOf 102 = .ok (.iload_n 2, 1) := by decide +kernel
theorem dX4_valueOf_103 : decode cX4_valueOf 103 = .ok (.iconst 2, 1) := by decide +kernel
theorem dX4_valueOf_104 : decode cX4_valueOf 104 = .ok (.if_icmp .lt 34, 3) := by decide +kernel
theorem dX4_valueOf_107 : decode cX4_valueOf 107 = .ok (.iinc 2 (-1), 3) := by decide +kernel
theorem dX4_valueOf_110 : decode cX4_valueOf 110 = .ok (.aload_n 0, 1) := by decide +kernel
theorem dX4_valueOf_111 : decode cX4_valueOf 111 = .ok (.getfield 23, 3) := by decide +kernel
theorem dX4_valueOf_114 : decode cX4_valueOf 114 = .ok (.iload_n 2, 1) := by decide +kernel
theorem dX4_valueOf_115 : decode cX4_valueOf 115 = .ok (.iconst 1, 1) := by decide +kernel
theorem dX4_valueOf_116 : decode cX4_valueOf 116 = .ok (.isub, 1) := by decide +kernel
theorem dX4_valueOf_117 : decode cX4_valueOf 117 = .ok (.iload 4, 2) := by decide +kernel
theorem dX4_valueOf_119 : decode cX4_valueOf 119 = .ok (.ineg, 1) := by decide +kernel
theorem dX4_valueOf_120 : decode cX4_valueOf 120 = .ok (.aload_n 0, 1) := by decide +kernel
theorem dX4_valueOf_121 : decode cX4_valueOf 121 = .ok (.getfield 23, 3) := by decide +kernel
theorem dX4_valueOf_124 : decode cX4_valueOf 124 = .ok (.iload_n 2, 1) := by decide +kernel
theorem dX4_valueOf_125 : decode cX4_valueOf 125 = .ok (.iaload, 1) := by decide +kernel
theorem dX4_valueOf_126 : decode cX4_valueOf 126 = .ok (.aload_n 0, 1) := by decide +kernel
theorem dX4_valueOf_127 : decode cX4_valueOf 127 = .ok (.getfield 23, 3) := by decide +kernel
theorem dX4_valueOf_130 : decode cX4_valueOf 130 = .ok (.iload_n 2, 1) := by decide +kernel
theorem dX4_valueOf_131 : decode cX4_valueOf 131 = .ok (.iconst 1, 1) := by decide +kernel
theorem dX4_valueOf_132 : decode cX4_valueOf 132 = .ok (.isub, 1) := by decide +kernel
theorem dX4_valueOf_133 : decode cX4_valueOf 133 = .ok (.iaload, 1) := by decide +kernel
theorem dX4_valueOf_134 : decode cX4_valueOf 134 = .ok (.invokestatic 65, 3) := by decide +kernel
theorem dX4_valueOf_137 : decode cX4_valueOf 137 = .ok (.iastore, 1) := by decide +kernel
theorem dX4_valueOf_138 : decode cX4_valueOf 138 = .ok (.iinc 3 (-1), 3) := by decide +kernel
theorem dX4_valueOf_141 : decode cX4_valueOf 141 = .ok (.goto (-125), 3) := by decide +kernel
theorem dX4_valueOf_144 : decode cX4_valueOf 144 = .ok (.iload_n 2, 1) := by decide +kernel
theorem dX4_valueOf_145 : decode cX4_valueOf 145 = .ok (.ifCond .le 14, 3) := by decide +kernel
theorem dX4_valueOf_148 : decode cX4_valueOf 148 = .ok (.aload_n 0, 1) := by decide +kernel
theorem dX4_valueOf_149 : decode cX4_valueOf 149 = .ok (.getfield 23, 3) := by decide +kernel
theorem dX4_valueOf_152 : decode cX4_valueOf 152 = .ok (.iload_n 2, 1) := by decide +kernel
theorem dX4_valueOf_153 : decode cX4_valueOf 153 = .ok (.iconst 1, 1) := by decide +kernel
theorem dX4_valueOf_154 : decode cX4_valueOf 154 = .ok (.isub, 1) := by decide +kernel
theorem dX4_valueOf_155 : decode cX4_valueOf 155 = .ok (.iaload, 1) := by decide +kernel
theorem dX4_valueOf_156 : decode cX4_valueOf 156 = .ok (.goto 4, 3) := by decide +kernel
theorem dX4_valueOf_159 : decode cX4_valueOf 159 = .ok (.iconst 0, 1) := by decide +kernel
theorem dX4_valueOf_160 : decode cX4_valueOf 160 = .ok (.ireturn, 1) := by decide +kernel
theorem dX4_isSign_0 : decode cX4_isSign 0 = .ok (.iload_n 0, 1) := by decide +kernel
theorem dX4_isSign_1 : decode cX4_isSign 1 = .ok (.ifCond .ge 18, 3) := by decide +kernel
theorem dX4_isSign_4 : decode cX4_isSign 4 = .ok (.ldc 69, 2) := by decide +kernel
theorem dX4_isSign_6 : decode cX4_isSign 6 = .ok (.iload_n 0, 1) := by decide +kernel
theorem dX4_isSign_7 : decode cX4_isSign 7 = .ok (.ineg, 1) := by decide +kernel
theorem dX4_isSign_8 : decode cX4_isSign 8 = .ok (.i2c, 1) := by decide +kernel
theorem dX4_isSign_9 : decode cX4_isSign 9 = .ok (.invokevirtual 71, 3) := by decide +kernel
theorem dX4_isSign_12 : decode cX4_isSign 12 = .ok (.ifCond .lt 7, 3) := by decide +kernel
theorem dX4_isSign_15 : decode cX4_isSign 15 = .ok (.iconst 1, 1) := by decide +kernel
theorem dX4_isSign_16 : decode cX4_isSign 16 = .ok (.goto 4, 3) := by decide +kernel
theorem dX4_isSign_19 : decode cX4_isSign 19 = .ok (.iconst 0, 1) := by decide +kernel
theorem dX4_isSign_20 : decode cX4_isSign 20 = .ok (.ireturn, 1) := by decide +kernel
theorem dX4_meaningOf_0 : decode cX4_meaningOf 0 = .ok (.iload_n 1, 1) := by decide +kernel
theorem dX4_meaningOf_1 : decode cX4_meaningOf 1 = .ok (.ifCond .lt 5, 3) := by decide +kernel
theorem dX4_meaningOf_4 : decode cX4_meaningOf 4 = .ok (.iload_n 1, 1) := by decide +kernel
theorem dX4_meaningOf_5 : decode cX4_meaningOf 5 = .ok (.ireturn, 1) := by decide +kernel
theorem dX4_meaningOf_6 : decode cX4_meaningOf 6 = .ok (.ldc 9, 2) := by decide +kernel
theorem dX4_meaningOf_8 : decode cX4_meaningOf 8 = .ok (.iload_n 1, 1) := by decide +kernel
theorem dX4_meaningOf_9 : decode cX4_meaningOf 9 = .ok (.ineg, 1) := by decide +kernel
theorem dX4_meaningOf_10 : decode cX4_meaningOf 10 = .ok (.i2c, 1) := by decide +kernel
theorem dX4_meaningOf_11 : decode cX4_meaningOf 11 = .ok (.invokevirtual 71, 3) := by decide +kernel
theorem dX4_meaningOf_14 : decode cX4_meaningOf 14 = .ok (.istore_n 2, 1) := by decide +kernel
theorem dX4_meaningOf_15 : decode cX4_meaningOf 15 = .ok (.iload_n 2, 1) := by decide +kernel
theorem dX4_meaningOf_16 : decode cX4_meaningOf 16 = .ok (.ifCond .ge 7, 3) := by decide +kernel
theorem dX4_meaningOf_19 : decode cX4_meaningOf 19 = .ok (.iconst 0, 1) := by decide +kernel
theorem dX4_meaningOf_20 : decode cX4_meaningOf 20 = .ok (.goto 9, 3) := by decide +kernel
theorem dX4_meaningOf_23 : decode cX4_meaningOf 23 = .ok (.aload_n 0, 1) := by decide +kernel
theorem dX4_meaningOf_24 : decode cX4_meaningOf 24 = .ok (.getfield 17, 3) := by decide +kernel
theorem dX4_meaningOf_27 : decode cX4_meaningOf 27 = .ok (.iload_n 2, 1) := by decide +kernel
theorem dX4_meaningOf_28 : decode cX4_meaningOf 28 = .ok (.iaload, 1) := by decide +kernel
theorem dX4_meaningOf_29 : decode cX4_meaningOf 29 = .ok (.ireturn, 1) := by decide +kernel
theorem dX4_truth_0 : decode cX4_truth 0 = .ok (.iload_n 0, 1) := by decide +kernel
theorem dX4_truth_1 : decode cX4_truth 1 = .ok (.ifCond .eq 7, 3) := by decide +kernel
theorem dX4_truth_4 : decode cX4_truth 4 = .ok (.iconst 1, 1) := by decide +kernel
theorem dX4_truth_5 : decode cX4_truth 5 = .ok (.goto 4, 3) := by decide +kernel
theorem dX4_truth_8 : decode cX4_truth 8 = .ok (.iconst 0, 1) := by decide +kernel
theorem dX4_truth_9 : decode cX4_truth 9 = .ok (.ireturn, 1) := by decide +kernel
theorem dX4_join_0 : decode cX4_join 0 = .ok (.iload_n 0, 1) := by decide +kernel
theorem dX4_join_1 : decode cX4_join 1 = .ok (.lookupswitch 163 #[(38, 129), (42, 83), (43, 75), (45, 79), (60, 87), (61, 101), (62, 115), (124, 146)], 75) := by decide +kernel
theorem dX4_join_76 : decode cX4_join 76 = .ok (.iload_n 1, 1) := by decide +kernel
theorem dX4_join_77 : decode cX4_join 77 = .ok (.iload_n 2, 1) := by decide +kernel
theorem dX4_join_78 : decode cX4_join 78 = .ok (.iadd, 1) := by decide +kernel
theorem dX4_join_79 : decode cX4_join 79 = .ok (.ireturn, 1) := by decide +kernel
theorem dX4_join_80 : decode cX4_join 80 = .ok (.iload_n 1, 1) := by decide +kernel
theorem dX4_join_81 : decode cX4_join 81 = .ok (.iload_n 2, 1) := by decide +kernel
theorem dX4_join_82 : decode cX4_join 82 = .ok (.isub, 1) := by decide +kernel
theorem dX4_join_83 : decode cX4_join 83 = .ok (.ireturn, 1) := by decide +kernel
theorem dX4_join_84 : decode cX4_join 84 = .ok (.iload_n 1, 1) := by decide +kernel
theorem dX4_join_85 : decode cX4_join 85 = .ok (.iload_n 2, 1) := by decide +kernel
theorem dX4_join_86 : decode cX4_join 86 = .ok (.imul, 1) := by decide +kernel
theorem dX4_join_87 : decode cX4_join 87 = .ok (.ireturn, 1) := by decide +kernel
theorem dX4_join_88 : decode cX4_join 88 = .ok (.iload_n 1, 1) := by decide +kernel
theorem dX4_join_89 : decode cX4_join 89 = .ok (.iload_n 2, 1) := by decide +kernel
theorem dX4_join_90 : decode cX4_join 90 = .ok (.if_icmp .ge 7, 3) := by decide +kernel
theorem dX4_join_93 : decode cX4_join 93 = .ok (.iconst 1, 1) := by decide +kernel
theorem dX4_join_94 : decode cX4_join 94 = .ok (.goto 4, 3) := by decide +kernel
theorem dX4_join_97 : decode cX4_join 97 = .ok (.iconst 0, 1) := by decide +kernel
theorem dX4_join_98 : decode cX4_join 98 = .ok (.invokestatic 61, 3) := by decide +kernel
theorem dX4_join_101 : decode cX4_join 101 = .ok (.ireturn, 1) := by decide +kernel
theorem dX4_join_102 : decode cX4_join 102 = .ok (.iload_n 1, 1) := by decide +kernel
theorem dX4_join_103 : decode cX4_join 103 = .ok (.iload_n 2, 1) := by decide +kernel
theorem dX4_join_104 : decode cX4_join 104 = .ok (.if_icmp .ne 7, 3) := by decide +kernel
theorem dX4_join_107 : decode cX4_join 107 = .ok (.iconst 1, 1) := by decide +kernel
theorem dX4_join_108 : decode cX4_join 108 = .ok (.goto 4, 3) := by decide +kernel
theorem dX4_join_111 : decode cX4_join 111 = .ok (.iconst 0, 1) := by decide +kernel
theorem dX4_join_112 : decode cX4_join 112 = .ok (.invokestatic 61, 3) := by decide +kernel
theorem dX4_join_115 : decode cX4_join 115 = .ok (.ireturn, 1) := by decide +kernel
theorem dX4_join_116 : decode cX4_join 116 = .ok (.iload_n 1, 1) := by decide +kernel
theorem dX4_join_117 : decode cX4_join 117 = .ok (.iload_n 2, 1) := by decide +kernel
theorem dX4_join_118 : decode cX4_join 118 = .ok (.if_icmp .le 7, 3) := by decide +kernel
theorem dX4_join_121 : decode cX4_join 121 = .ok (.iconst 1, 1) := by decide +kernel
theorem dX4_join_122 : decode cX4_join 122 = .ok (.goto 4, 3) := by decide +kernel
theorem dX4_join_125 : decode cX4_join 125 = .ok (.iconst 0, 1) := by decide +kernel
theorem dX4_join_126 : decode cX4_join 126 = .ok (.invokestatic 61, 3) := by decide +kernel
theorem dX4_join_129 : decode cX4_join 129 = .ok (.ireturn, 1) := by decide +kernel
theorem dX4_join_130 : decode cX4_join 130 = .ok (.iload_n 1, 1) := by decide +kernel
theorem dX4_join_131 : decode cX4_join 131 = .ok (.ifCond .eq 11, 3) := by decide +kernel
theorem dX4_join_134 : decode cX4_join 134 = .ok (.iload_n 2, 1) := by decide +kernel
theorem dX4_join_135 : decode cX4_join 135 = .ok (.ifCond .eq 7, 3) := by decide +kernel
theorem dX4_join_138 : decode cX4_join 138 = .ok (.iconst 1, 1) := by decide +kernel
theorem dX4_join_139 : decode cX4_join 139 = .ok (.goto 4, 3) := by decide +kernel
theorem dX4_join_142 : decode cX4_join 142 = .ok (.iconst 0, 1) := by decide +kernel
theorem dX4_join_143 : decode cX4_join 143 = .ok (.invokestatic 61, 3) := by decide +kernel
theorem dX4_join_146 : decode cX4_join 146 = .ok (.ireturn, 1) := by decide +kernel
theorem dX4_join_147 : decode cX4_join 147 = .ok (.iload_n 1, 1) := by decide +kernel
theorem dX4_join_148 : decode cX4_join 148 = .ok (.ifCond .ne 7, 3) := by decide +kernel
theorem dX4_join_151 : decode cX4_join 151 = .ok (.iload_n 2, 1) := by decide +kernel
theorem dX4_join_152 : decode cX4_join 152 = .ok (.ifCond .eq 7, 3) := by decide +kernel
theorem dX4_join_155 : decode cX4_join 155 = .ok (.iconst 1, 1) := by decide +kernel
theorem dX4_join_156 : decode cX4_join 156 = .ok (.goto 4, 3) := by decide +kernel
theorem dX4_join_159 : decode cX4_join 159 = .ok (.iconst 0, 1) := by decide +kernel
theorem dX4_join_160 : decode cX4_join 160 = .ok (.invokestatic 61, 3) := by decide +kernel
theorem dX4_join_163 : decode cX4_join 163 = .ok (.ireturn, 1) := by decide +kernel
theorem dX4_join_164 : decode cX4_join 164 = .ok (.iconst 0, 1) := by decide +kernel
theorem dX4_join_165 : decode cX4_join 165 = .ok (.ireturn, 1) := by decide +kernel
theorem dX5_init_0 : decode cX5_init 0 = .ok (.aload_n 0, 1) := by decide +kernel
theorem dX5_init_1 : decode cX5_init 1 = .ok (.invokespecial 3, 3) := by decide +kernel
theorem dX5_init_4 : decode cX5_init 4 = .ok (.aload_n 0, 1) := by decide +kernel
theorem dX5_init_5 : decode cX5_init 5 = .ok (.bipush 40, 2) := by decide +kernel
theorem dX5_init_7 : decode cX5_init 7 = .ok (.newarray .int, 2) := by decide +kernel
theorem dX5_init_9 : decode cX5_init 9 = .ok (.putfield 9, 3) := by decide +kernel
theorem dX5_init_12 : decode cX5_init 12 = .ok (.aload_n 0, 1) := by decide +kernel
theorem dX5_init_13 : decode cX5_init 13 = .ok (.bipush 40, 2) := by decide +kernel
theorem dX5_init_15 : decode cX5_init 15 = .ok (.newarray .int, 2) := by decide +kernel
theorem dX5_init_17 : decode cX5_init 17 = .ok (.putfield 15, 3) := by decide +kernel
theorem dX5_init_20 : decode cX5_init 20 = .ok (.return_, 1) := by decide +kernel
theorem dX5_weigh_0 : decode cX5_weigh 0 = .ok (.aload_n 0, 1) := by decide +kernel
theorem dX5_weigh_1 : decode cX5_weigh 1 = .ok (.getfield 9, 3) := by decide +kernel
theorem dX5_weigh_4 : decode cX5_weigh 4 = .ok (.iconst 0, 1) := by decide +kernel
theorem dX5_weigh_5 : decode cX5_weigh 5 = .ok (.invokestatic 18, 3) := by decide +kernel
theorem dX5_weigh_8 : decode cX5_weigh 8 = .ok (.aload_n 0, 1) := by decide +kernel
theorem dX5_weigh_9 : decode cX5_weigh 9 = .ok (.getfield 15, 3) := by decide +kernel
theorem dX5_weigh_12 : decode cX5_weigh 12 = .ok (.iconst 0, 1) := by decide +kernel
theorem dX5_weigh_13 : decode cX5_weigh 13 = .ok (.invokestatic 18, 3) := by decide +kernel
theorem dX5_weigh_16 : decode cX5_weigh 16 = .ok (.aload_n 1, 1) := by decide +kernel
theorem dX5_weigh_17 : decode cX5_weigh 17 = .ok (.getfield 24, 3) := by decide +kernel
theorem dX5_weigh_20 : decode cX5_weigh 20 = .ok (.iconst 1, 1) := by decide +kernel
theorem dX5_weigh_21 : decode cX5_weigh 21 = .ok (.isub, 1) := by decide +kernel
theorem dX5_weigh_22 : decode cX5_weigh 22 = .ok (.istore_n 2, 1) := by decide +kernel
theorem dX5_weigh_23 : decode cX5_weigh 23 = .ok (.iload_n 2, 1) := by decide +kernel
theorem dX5_weigh_24 : decode cX5_weigh 24 = .ok (.ifCond .lt 66, 3) := by decide +kernel
theorem dX5_weigh_27 : decode cX5_weigh 27 = .ok (.aload_n 1, 1) := by decide +kernel
theorem dX5_weigh_28 : decode cX5_weigh 28 = .ok (.iload_n 2, 1) := by decide +kernel
theorem dX5_weigh_29 : decode cX5_weigh 29 = .ok (.invokevirtual 30, 3) := by decide +kernel
theorem dX5_weigh_32 : decode cX5_weigh 32 = .ok (.astore_n 3, 1) := by decide +kernel
theorem dX5_weigh_33 : decode cX5_weigh 33 = .ok (.aload_n 3, 1) := by decide +kernel
theorem dX5_weigh_34 : decode cX5_weigh 34 = .ok (.ifnull 50, 3) := by decide +kernel
theorem dX5_weigh_37 : decode cX5_weigh 37 = .ok (.aload_n 0, 1) := by decide +kernel
theorem dX5_weigh_38 : decode cX5_weigh 38 = .ok (.getfield 9, 3) := by decide +kernel
theorem dX5_weigh_41 : decode cX5_weigh 41 = .ok (.iload_n 2, 1) := by decide +kernel
theorem dX5_weigh_42 : decode cX5_weigh 42 = .ok (.dup2, 1) := by decide +kernel
theorem dX5_weigh_43 : decode cX5_weigh 43 = .ok (.iaload, 1) := by decide +kernel
theorem dX5_weigh_44 : decode cX5_weigh 44 = .ok (.aload_n 3, 1) := by decide +kernel
theorem dX5_weigh_45 : decode cX5_weigh 45 = .ok (.getfield 34, 3) := by decide +kernel
theorem dX5_weigh_48 : decode cX5_weigh 48 = .ok (.aload_n 3, 1) := by decide +kernel
theorem dX5_weigh_49 : decode cX5_weigh 49 = .ok (.getfield 39, 3) := by decide +kernel
theorem dX5_weigh_52 : decode cX5_weigh 52 = .ok (.imul, 1) := by decide +kernel
theorem dX5_weigh_53 : decode cX5_weigh 53 = .ok (.iadd, 1) := by decide +kernel
theorem dX5_weigh_54 : decode cX5_weigh 54 = .ok (.iastore, 1) := by decide +kernel
theorem dX5_weigh_55 : decode cX5_weigh 55 = .ok (.aload_n 3, 1) := by decide +kernel
theorem dX5_weigh_56 : decode cX5_weigh 56 = .ok (.invokevirtual 42, 3) := by decide +kernel
theorem dX5_weigh_59 : decode cX5_weigh 59 = .ok (.ifCond .ne 25, 3) := by decide +kernel
theorem dX5_weigh_62 : decode cX5_weigh 62 = .ok (.aload_n 0, 1) := by decide +kernel
theorem dX5_weigh_63 : decode cX5_weigh 63 = .ok (.aload_n 3, 1) := by decide +kernel
theorem dX5_weigh_64 : decode cX5_weigh 64 = .ok (.aload_n 0, 1) := by decide +kernel
theorem dX5_weigh_65 : decode cX5_weigh 65 = .ok (.getfield 9, 3) := by decide +kernel
theorem dX5_weigh_68 : decode cX5_weigh 68 = .ok (.iload_n 2, 1) := by decide +kernel
theorem dX5_weigh_69 : decode cX5_weigh 69 = .ok (.iaload, 1) := by decide +kernel
theorem dX5_weigh_70 : decode cX5_weigh 70 = .ok (.invokevirtual 46, 3) := by decide +kernel
theorem dX5_weigh_73 : decode cX5_weigh 73 = .ok (.aload_n 0, 1) := by decide +kernel
theorem dX5_weigh_74 : decode cX5_weigh 74 = .ok (.aload_n 3, 1) := by decide +kernel
theorem dX5_weigh_75 : decode cX5_weigh 75 = .ok (.aload_n 0, 1) := by decide +kernel
theorem dX5_weigh_76 : decode cX5_weigh 76 = .ok (.getfield 9, 3) := by decide +kernel
theorem dX5_weigh_79 : decode cX5_weigh 79 = .ok (.iload_n 2, 1) := by decide +kernel
theorem dX5_weigh_80 : decode cX5_weigh 80 = .ok (.iaload, 1) := by decide +kernel
theorem dX5_weigh_81 : decode cX5_weigh 81 = .ok (.invokevirtual 50, 3) := by decide +kernel
theorem dX5_weigh_84 : decode cX5_weigh 84 = .ok (.iinc 2 (-1), 3) := by decide +kernel
theorem dX5_weigh_87 : decode cX5_weigh 87 = .ok (.goto (-64), 3) := by decide +kernel
theorem dX5_weigh_90 : decode cX5_weigh 90 = .ok (.return_, 1) := by decide +kernel
theorem dX5_passDown_0 : decode cX5_passDown 0 = .ok (.iconst 0, 1) := by decide +kernel
theorem dX5_passDown_1 : decode cX5_passDown 1 = .ok (.istore_n 3, 1) := by decide +kernel
theorem dX5_passDown_2 : decode cX5_passDown 2 = .ok (.iload_n 3, 1) := by decide +kernel
theorem dX5_passDown_3 : decode cX5_passDown 3 = .ok (.aload_n 1, 1) := by decide +kernel
theorem dX5_passDown_4 : decode cX5_passDown 4 = .ok (.getfield 53, 3) := by decide +kernel
theorem dX5_passDown_7 : decode cX5_passDown 7 = .ok (.if_icmp .ge 29, 3) := by decide +kernel
theorem dX5_passDown_10 : decode cX5_passDown 10 = .ok (.aload_n 0, 1) := by decide +kernel
theorem dX5_passDown_11 : decode cX5_passDown 11 = .ok (.getfield 9, 3) := by decide +kernel
theorem dX5_passDown_14 : decode cX5_passDown 14 = .ok (.aload_n 1, 1) := by decide +kernel
theorem dX5_passDown_15 : decode cX5_passDown 15 = .ok (.getfield 56, 3) := by decide +kernel
theorem dX5_passDown_18 : decode cX5_passDown 18 = .ok (.iload_n 3, 1) := by decide +kernel
theorem dX5_passDown_19 : decode cX5_passDown 19 = .ok (.iaload, 1) := by decide +kernel
theorem dX5_passDown_20 : decode cX5_passDown 20 = .ok (.dup2, 1) := by decide +kernel
theorem dX5_passDown_21 : decode cX5_passDown 21 = .ok (.iaload, 1) := by decide +kernel
theorem dX5_passDown_22 : decode cX5_passDown 22 = .ok (.aload_n 1, 1) := by decide +kernel
theorem dX5_passDown_23 : decode cX5_passDown 23 = .ok (.iload_n 2, 1) := by decide +kernel
theorem dX5_passDown_24 : decode cX5_passDown 24 = .ok (.iload_n 3, 1) := by decide +kernel
theorem dX5_passDown_25 : decode cX5_passDown 25 = .ok (.invokevirtual 59, 3) := by decide +kernel
theorem dX5_passDown_28 : decode cX5_passDown 28 = .ok (.iadd, 1) := by decide +kernel
theorem dX5_passDown_29 : decode cX5_passDown 29 = .ok (.iastore, 1) := by decide +kernel
theorem dX5_passDown_30 : decode cX5_passDown 30 = .ok (.iinc 3 1, 3) := by decide +kernel
theorem dX5_passDown_33 : decode cX5_passDown 33 = .ok (.goto (-31), 3) := by decide +kernel
theorem dX5_passDown_36 : decode cX5_passDown 36 = .ok (.return_, 1) := by decide +kernel
theorem dX5_pushAside_0 : decode cX5_pushAside 0 = .ok (.aload_n 1, 1) := by decide +kernel
theorem dX5_pushAside_1 : decode cX5_pushAside 1 = .ok (.getfield 63, 3) := by decide +kernel
theorem dX5_pushAside_4 : decode cX5_pushAside 4 = .ok (.iconst 1, 1) := by decide +kernel
theorem dX5_pushAside_5 : decode cX5_pushAside 5 = .ok (.if_icmp .ne 60, 3) := by decide +kernel
theorem dX5_pushAside_8 : decode cX5_pushAside 8 = .ok (.aload_n 1, 1) := by decide +kernel
theorem dX5_pushAside_9 : decode cX5_pushAside 9 = .ok (.invokevirtual 66, 3) := by decide +kernel
theorem dX5_pushAside_12 : decode cX5_pushAside 12 = .ok (.ifCond .eq 53, 3) := by decide +kernel
theorem dX5_pushAside_15 : decode cX5_pushAside 15 = .ok (.aload_n 1, 1) := by decide +kernel
theorem dX5_pushAside_16 : decode cX5_pushAside 16 = .ok (.getfield 53, 3) := by decide +kernel
theorem dX5_pushAside_19 : decode cX5_pushAside 19 = .ok (.iconst 2, 1) := by decide +kernel
theorem dX5_pushAside_20 : decode cX5_pushAside 20 = .ok (.if_icmp .lt 45, 3) := by decide +kernel
theorem dX5_pushAside_23 : decode cX5_pushAside 23 = .ok (.iload_n 2, 1) := by decide +kernel
theorem dX5_pushAside_24 : decode cX5_pushAside 24 = .ok (.aload_n 1, 1) := by decide +kernel
theorem dX5_pushAside_25 : decode cX5_pushAside 25 = .ok (.getfield 69, 3) := by decide +kernel
theorem dX5_pushAside_28 : decode cX5_pushAside 28 = .ok (.iconst 2, 1) := by decide +kernel
theorem dX5_pushAside_29 : decode cX5_pushAside 29 = .ok (.iaload, 1) := by decide +kernel
theorem dX5_pushAside_30 : decode cX5_pushAside 30 = .ok (.imul, 1) := by decide +kernel
theorem dX5_pushAside_31 : decode cX5_pushAside 31 = .ok (.bipush 100, 2) := by decide +kernel
theorem dX5_pushAside_33 : decode cX5_pushAside 33 = .ok (.idiv, 1) := by decide +kernel
theorem dX5_pushAside_34 : decode cX5_pushAside 34 = .ok (.istore_n 3, 1) := by decide +kernel
theorem dX5_pushAside_35 : decode cX5_pushAside 35 = .ok (.aload_n 0, 1) := by decide +kernel
theorem dX5_pushAside_36 : decode cX5_pushAside 36 = .ok (.getfield 15, 3) := by decide +kernel
theorem dX5_pushAside_39 : decode cX5_pushAside 39 = .ok (.aload_n 1, 1) := by decide +kernel
theorem dX5_pushAside_40 : decode cX5_pushAside 40 = .ok (.getfield 56, 3) := by decide +kernel
theorem dX5_pushAside_43 : decode cX5_pushAside 43 = .ok (.iconst 0, 1) := by decide +kernel
theorem dX5_pushAside_44 : decode cX5_pushAside 44 = .ok (.iaload, 1) := by decide +kernel
theorem dX5_pushAside_45 : decode cX5_pushAside 45 = .ok (.dup2, 1) := by decide +kernel
theorem dX5_pushAside_46 : decode cX5_pushAside 46 = .ok (.iaload, 1) := by decide +kernel
theorem dX5_pushAside_47 : decode cX5_pushAside 47 = .ok (.iload_n 3, 1) := by decide +kernel
theorem dX5_pushAside_48 : decode cX5_pushAside 48 = .ok (.isub, 1) := by decide +kernel
theorem dX5_pushAside_49 : decode cX5_pushAside 49 = .ok (.iastore, 1) := by decide +kernel
theorem dX5_pushAside_50 : decode cX5_pushAside 50 = .ok (.aload_n 0, 1) := by decide +kernel
theorem dX5_pushAside_51 : decode cX5_pushAside 51 = .ok (.getfield 15, 3) := by decide +kernel
theorem dX5_pushAside_54 : decode cX5_pushAside 54 = .ok (.aload_n 1, 1) := by decide +kernel
theorem dX5_pushAside_55 : decode cX5_pushAside 55 = .ok (.getfield 56, 3) := by decide +kernel
theorem dX5_pushAside_58 : decode cX5_pushAside 58 = .ok (.iconst 1, 1) := by decide +kernel
theorem dX5_pushAside_59 : decode cX5_pushAside 59 = .ok (.iaload, 1) := by decide +kernel
theorem dX5_pushAside_60 : decode cX5_pushAside 60 = .ok (.dup2, 1) := by decide +kernel
theorem dX5_pushAside_61 : decode cX5_pushAside 61 = .ok (.iaload, 1) := by decide +kernel
theorem dX5_pushAside_62 : decode cX5_pushAside 62 = .ok (.iload_n 3, 1) := by decide +kernel
theorem dX5_pushAside_63 : decode cX5_pushAside 63 = .ok (.iadd, 1) := by decide +kernel
theorem dX5_pushAside_64 : decode cX5_pushAside 64 = .ok (.iastore, 1) := by decide +kernel
theorem dX5_pushAside_65 : decode cX5_pushAside 65 = .ok (.return_, 1) := by decide +kernel
theorem dX5_leastFalling_0 : decode cX5_leastFalling 0 = .ok (.aload_n 0, 1) := by decide +kernel
theorem dX5_leastFalling_1 : decode cX5_leastFalling 1 = .ok (.aload_n 1, 1) := by decide +kernel
theorem dX5_leastFalling_2 : decode cX5_leastFalling 2 = .ok (.invokevirtual 72, 3) := by decide +kernel
theorem dX5_leastFalling_5 : decode cX5_leastFalling 5 = .ok (.iconst 0, 1) := by decide +kernel
theorem dX5_leastFalling_6 : decode cX5_leastFalling 6 = .ok (.istore_n 2, 1) := by decide +kernel
theorem dX5_leastFalling_7 : decode cX5_leastFalling 7 = .ok (.iload_n 2, 1) := by decide +kernel
theorem dX5_leastFalling_8 : decode cX5_leastFalling 8 = .ok (.aload_n 1, 1) := by decide +kernel
theorem dX5_leastFalling_9 : decode cX5_leastFalling 9 = .ok (.getfield 24, 3) := by decide +kernel
theorem dX5_leastFalling_12 : decode cX5_leastFalling 12 = .ok (.if_icmp .ge 87, 3) := by decide +kernel
theorem dX5_leastFalling_15 : decode cX5_leastFalling 15 = .ok (.aload_n 1, 1) := by decide +kernel
theorem dX5_leastFalling_16 : decode cX5_leastFalling 16 = .ok (.iload_n 2, 1) := by decide +kernel
theorem dX5_leastFalling_17 : decode cX5_leastFalling 17 = .ok (.invokevirtual 30, 3) := by decide +kernel
theorem dX5_leastFalling_20 : decode cX5_leastFalling 20 = .ok (.astore_n 3, 1) := by decide +kernel
theorem dX5_leastFalling_21 : decode cX5_leastFalling 21 = .ok (.aload_n 3, 1) := by decide +kernel
theorem dX5_leastFalling_22 : decode cX5_leastFalling 22 = .ok (.ifnull 71, 3) := by decide +kernel
theorem dX5_leastFalling_25 : decode cX5_leastFalling 25 = .ok (.aload_n 3, 1) := by decide +kernel
theorem dX5_leastFalling_26 : decode cX5_leastFalling 26 = .ok (.invokevirtual 66, 3) := by decide +kernel
theorem dX5_leastFalling_29 : decode cX5_leastFalling 29 = .ok (.ifCond .eq 64, 3) := by decide +kernel
theorem dX5_leastFalling_32 : decode cX5_leastFalling 32 = .ok (.aload_n 3, 1) := by decide +kernel
theorem dX5_leastFalling_33 : decode cX5_leastFalling 33 = .ok (.invokevirtual 42, 3) := by decide +kernel
theorem dX5_leastFalling_36 : decode cX5_leastFalling 36 = .ok (.ifCond .ne 57, 3) := by decide +kernel
theorem dX5_leastFalling_39 : decode cX5_leastFalling 39 = .ok (.aload_n 0, 1) := by decide +kernel
theorem dX5_leastFalling_40 : decode cX5_leastFalling 40 = .ok (.getfield 9, 3) := by decide +kernel
theorem dX5_leastFalling_43 : decode cX5_leastFalling 43 = .ok (.iload_n 2, 1) := by decide +kernel
theorem dX5_leastFalling_44 : decode cX5_leastFalling 44 = .ok (.iaload, 1) := by decide +kernel
theorem dX5_leastFalling_45 : decode cX5_leastFalling 45 = .ok (.aload_n 3, 1) := by decide +kernel
theorem dX5_leastFalling_46 : decode cX5_leastFalling 46 = .ok (.getfield 69, 3) := by decide +kernel
theorem dX5_leastFalling_49 : decode cX5_leastFalling 49 = .ok (.iconst 0, 1) := by decide +kernel
theorem dX5_leastFalling_50 : decode cX5_leastFalling 50 = .ok (.iaload, 1) := by decide +kernel
theorem dX5_leastFalling_51 : decode cX5_leastFalling 51 = .ok (.if_icmp .le 5, 3) := by decide +kernel
theorem dX5_leastFalling_54 : decode cX5_leastFalling 54 = .ok (.iload_n 2, 1) := by decide +kernel
theorem dX5_leastFalling_55 : decode cX5_leastFalling 55 = .ok (.ireturn, 1) := by decide +kernel
theorem dX5_leastFalling_56 : decode cX5_leastFalling 56 = .ok (.aload_n 0, 1) := by decide +kernel
theorem dX5_leastFalling_57 : decode cX5_leastFalling 57 = .ok (.getfield 15, 3) := by decide +kernel
theorem dX5_leastFalling_60 : decode cX5_leastFalling 60 = .ok (.iload_n 2, 1) := by decide +kernel
theorem dX5_leastFalling_61 : decode cX5_leastFalling 61 = .ok (.iaload, 1) := by decide +kernel
theorem dX5_leastFalling_62 : decode cX5_leastFalling 62 = .ok (.invokestatic 76, 3) := by decide +kernel
theorem dX5_leastFalling_65 : decode cX5_leastFalling 65 = .ok (.aload_n 3, 1) := by decide +kernel
theorem dX5_leastFalling_66 : decode cX5_leastFalling 66 = .ok (.getfield 69, 3) := by decide +kernel
theorem dX5_leastFalling_69 : decode cX5_leastFalling 69 = .ok (.iconst 1, 1) := by decide +kernel
theorem dX5_leastFalling_70 : decode cX5_leastFalling 70 = .ok (.iaload, 1) := by decide +kernel
theorem dX5_leastFalling_71 : decode cX5_leastFalling 71 = .ok (.aload_n 3, 1) := by decide +kernel
theorem dX5_leastFalling_72 : decode cX5_leastFalling 72 = .ok (.getfield 82, 3) := by decide +kernel
theorem dX5_leastFalling_75 : decode cX5_leastFalling 75 = .ok (.iadd, 1) := by decide +kernel
theorem dX5_leastFalling_76 : decode cX5_leastFalling 76 = .ok (.aload_n 0, 1) := by decide +kernel
theorem dX5_leastFalling_77 : decode cX5_leastFalling 77 = .ok (.getfield 9, 3) := by decide +kernel
theorem dX5_leastFalling_80 : decode cX5_leastFalling 80 = .ok (.iload_n 2, 1) := by decide +kernel
theorem dX5_leastFalling_81 : decode cX5_leastFalling 81 = .ok (.iaload, 1) := by decide +kernel
theorem dX5_leastFalling_82 : decode cX5_leastFalling 82 = .ok (.iconst 4, 1) := by decide +kernel
theorem dX5_leastFalling_83 : decode cX5_leastFalling 83 = .ok (.idiv, 1) := by decide +kernel
theorem dX5_leastFalling_84 : decode cX5_leastFalling 84 = .ok (.iadd, 1) := by decide +kernel
theorem dX5_leastFalling_85 : decode cX5_leastFalling 85 = .ok (.if_icmp .le 8, 3) := by decide +kernel
theorem dX5_leastFalling_88 : decode cX5_leastFalling 88 = .ok (.iload_n 2, 1) := by decide +kernel
theorem dX5_leastFalling_89 : decode cX5_leastFalling 89 = .ok (.bipush 100, 2) := by decide +kernel
theorem dX5_leastFalling_91 : decode cX5_leastFalling 91 = .ok (.iadd, 1) := by decide +kernel
theorem dX5_leastFalling_92 : decode cX5_leastFalling 92 = .ok (.ireturn, 1) := by decide +kernel
theorem dX5_leastFalling_93 : decode cX5_leastFalling 93 = .ok (.iinc 2 1, 3) := by decide +kernel
theorem dX5_leastFalling_96 : decode cX5_leastFalling 96 = .ok (.goto (-89), 3) := by decide +kernel
theorem dX5_leastFalling_99 : decode cX5_leastFalling 99 = .ok (.bipush (-5), 2) := by decide +kernel
theorem dX5_leastFalling_101 : decode cX5_leastFalling 101 = .ok (.ireturn, 1) := by decide +kernel
theorem dX6_init_0 : decode cX6_init 0 = .ok (.aload_n 0, 1) := by decide +kernel
theorem dX6_init_1 : decode cX6_init 1 = .ok (.invokespecial 3, 3) := by decide +kernel
theorem dX6_init_4 : decode cX6_init 4 = .ok (.aload_n 0, 1) := by decide +kernel
theorem dX6_init_5 : decode cX6_init 5 = .ok (.bipush 100, 2) := by decide +kernel
theorem dX6_init_7 : decode cX6_init 7 = .ok (.newarray .int, 2) := by decide +kernel
theorem dX6_init_9 : decode cX6_init 9 = .ok (.putfield 9, 3) := by decide +kernel
theorem dX6_init_12 : decode cX6_init 12 = .ok (.aload_n 0, 1) := by decide +kernel
theorem dX6_init_13 : decode cX6_init 13 = .ok (.bipush 100, 2) := by decide +kernel
theorem dX6_init_15 : decode cX6_init 15 = .ok (.newarray .int, 2) := by decide +kernel
theorem dX6_init_17 : decode cX6_init 17 = .ok (.putfield 15, 3) := by decide +kernel
theorem dX6_init_20 : decode cX6_init 20 = .ok (.aload_n 0, 1) := by decide +kernel
theorem dX6_init_21 : decode cX6_init 21 = .ok (.bipush 20, 2) := by decide +kernel
theorem dX6_init_23 : decode cX6_init 23 = .ok (.newarray .int, 2) := by decide +kernel
theorem dX6_init_25 : decode cX6_init 25 = .ok (.putfield 18, 3) := by decide +kernel
theorem dX6_init_28 : decode cX6_init 28 = .ok (.return_, 1) := by decide +kernel
theorem dX6_take_0 : decode cX6_take 0 = .ok (.iconst 0, 1) := by decide +kernel
theorem dX6_take_1 : decode cX6_take 1 = .ok (.istore_n 3, 1) := by decide +kernel
theorem dX6_take_2 : decode cX6_take 2 = .ok (.iload_n 3, 1) := by decide +kernel
theorem dX6_take_3 : decode cX6_take 3 = .ok (.iload_n 1, 1) := by decide +kernel
theorem dX6_take_4 : decode cX6_take 4 = .ok (.if_icmp .ge 47, 3) := by decide +kernel
theorem dX6_take_7 : decode cX6_take 7 = .ok (.aload_n 0, 1) := by decide +kernel
theorem dX6_take_8 : decode cX6_take 8 = .ok (.getfield 21, 3) := by decide +kernel
theorem dX6_take_11 : decode cX6_take 11 = .ok (.bipush 100, 2) := by decide +kernel
theorem dX6_take_13 : decode cX6_take 13 = .ok (.if_icmp .ge 38, 3) := by decide +kernel
theorem dX6_take_16 : decode cX6_take 16 = .ok (.aload_n 0, 1) := by decide +kernel
theorem dX6_take_17 : decode cX6_take 17 = .ok (.getfield 9, 3) := by decide +kernel
theorem dX6_take_20 : decode cX6_take 20 = .ok (.aload_n 0, 1) := by decide +kernel
theorem dX6_take_21 : decode cX6_take 21 = .ok (.getfield 21, 3) := by decide +kernel
theorem dX6_take_24 : decode cX6_take 24 = .ok (.iload_n 2, 1) := by decide +kernel
theorem dX6_take_25 : decode cX6_take 25 = .ok (.bipush 8, 2) := by decide +kernel
theorem dX6_take_27 : decode cX6_take 27 = .ok (.iload_n 3, 1) := by decide +kernel
theorem dX6_take_28 : decode cX6_take 28 = .ok (.imul, 1) := by decide +kernel
theorem dX6_take_29 : decode cX6_take 29 = .ok (.ishr, 1) := by decide +kernel
theorem dX6_take_30 : decode cX6_take 30 = .ok (.sipush 255, 3) := by decide +kernel
theorem dX6_take_33 : decode cX6_take 33 = .ok (.iand, 1) := by decide +kernel
theorem dX6_take_34 : decode cX6_take 34 = .ok (.iastore, 1) := by decide +kernel
theorem dX6_take_35 : decode cX6_take 35 = .ok (.aload_n 0, 1) := by decide +kernel
theorem dX6_take_36 : decode cX6_take 36 = .ok (.dup, 1) := by decide +kernel
theorem dX6_take_37 : decode cX6_take 37 = .ok (.getfield 21, 3) := by decide +kernel
theorem dX6_take_40 : decode cX6_take 40 = .ok (.iconst 1, 1) := by decide +kernel
theorem dX6_take_41 : decode cX6_take 41 = .ok (.iadd, 1) := by decide +kernel
theorem dX6_take_42 : decode cX6_take 42 = .ok (.putfield 21, 3) := by decide +kernel
theorem dX6_take_45 : decode cX6_take 45 = .ok (.iinc 3 1, 3) := by decide +kernel
theorem dX6_take_48 : decode cX6_take 48 = .ok (.goto (-46), 3) := by decide +kernel
theorem dX6_take_51 : decode cX6_take 51 = .ok (.return_, 1) := by decide +kernel
theorem dX6_asText_0 : decode cX6_asText 0 = .ok (.new 25, 3) := by decide +kernel
theorem dX6_asText_3 : decode cX6_asText 3 = .ok (.dup, 1) := by decide +kernel
theorem dX6_asText_4 : decode cX6_asText 4 = .ok (.aload_n 0, 1) := by decide +kernel
theorem dX6_asText_5 : decode cX6_asText 5 = .ok (.getfield 15, 3) := by decide +kernel
theorem dX6_asText_8 : decode cX6_asText 8 = .ok (.aload_n 0, 1) := by decide +kernel
theorem dX6_asText_9 : decode cX6_asText 9 = .ok (.getfield 27, 3) := by decide +kernel
theorem dX6_asText_12 : decode cX6_asText 12 = .ok (.invokestatic 30, 3) := by decide +kernel
theorem dX6_asText_15 : decode cX6_asText 15 = .ok (.invokespecial 36, 3) := by decide +kernel
theorem dX6_asText_18 : decode cX6_asText 18 = .ok (.areturn, 1) := by decide +kernel
theorem dX6_read_0 : decode cX6_read 0 = .ok (.aload_n 0, 1) := by decide +kernel
theorem dX6_read_1 : decode cX6_read 1 = .ok (.iconst 0, 1) := by decide +kernel
theorem dX6_read_2 : decode cX6_read 2 = .ok (.putfield 27, 3) := by decide +kernel
theorem dX6_read_5 : decode cX6_read 5 = .ok (.aload_n 0, 1) := by decide +kernel
theorem dX6_read_6 : decode cX6_read 6 = .ok (.iconst 0, 1) := by decide +kernel
theorem dX6_read_7 : decode cX6_read 7 = .ok (.putfield 39, 3) := by decide +kernel
theorem dX6_read_10 : decode cX6_read 10 = .ok (.iconst 0, 1) := by decide +kernel
theorem dX6_read_11 : decode cX6_read 11 = .ok (.istore_n 1, 1) := by decide +kernel
theorem dX6_read_12 : decode cX6_read 12 = .ok (.iconst 0, 1) := by decide +kernel
theorem dX6_read_13 : decode cX6_read 13 = .ok (.istore_n 2, 1) := by decide +kernel
theorem dX6_read_14 : decode cX6_read 14 = .ok (.iconst 0, 1) := by decide +kernel
theorem dX6_read_15 : decode cX6_read 15 = .ok (.istore_n 3, 1) := by decide +kernel
theorem dX6_read_16 : decode cX6_read 16 = .ok (.iload_n 3, 1) := by decide +kernel
theorem dX6_read_17 : decode cX6_read 17 = .ok (.bipush 100, 2) := by decide +kernel
theorem dX6_read_19 : decode cX6_read 19 = .ok (.if_icmp .ge 90, 3) := by decide +kernel
theorem dX6_read_22 : decode cX6_read 22 = .ok (.iload_n 2, 1) := by decide +kernel
theorem dX6_read_23 : decode cX6_read 23 = .ok (.aload_n 0, 1) := by decide +kernel
theorem dX6_read_24 : decode cX6_read 24 = .ok (.getfield 21, 3) := by decide +kernel
theorem dX6_read_27 : decode cX6_read 27 = .ok (.if_icmp .ge 82, 3) := by decide +kernel
theorem dX6_read_30 : decode cX6_read 30 = .ok (.iload_n 1, 1) := by decide +kernel
theorem dX6_read_31 : decode cX6_read 31 = .ok (.ifCond .eq 5, 3) := by decide +kernel
theorem dX6_read_34 : decode cX6_read 34 = .ok (.iload_n 2, 1) := by decide +kernel
theorem dX6_read_35 : decode cX6_read 35 = .ok (.ireturn, 1) := by decide +kernel
theorem dX6_read_36 : decode cX6_read 36 = .ok (.ldc 42, 2) := by decide +kernel
theorem dX6_read_38 : decode cX6_read 38 = .ok (.aload_n 0, 1) := by decide +kernel
theorem dX6_read_39 : decode cX6_read 39 = .ok (.getfield 9, 3) := by decide +kernel
theorem dX6_read_42 : decode cX6_read 42 = .ok (.iload_n 2, 1) := by decide +kernel
theorem dX6_read_43 : decode cX6_read 43 = .ok (.iaload, 1) := by decide +kernel
theorem dX6_read_44 : decode cX6_read 44 = .ok (.i2c, 1) := by decide +kernel
theorem dX6_read_45 : decode cX6_read 45 = .ok (.invokevirtual 44, 3) := by decide +kernel
theorem dX6_read_48 : decode cX6_read 48 = .ok (.ifCond .lt 30, 3) := by decide +kernel
theorem dX6_read_51 : decode cX6_read 51 = .ok (.aload_n 0, 1) := by decide +kernel
theorem dX6_read_52 : decode cX6_read 52 = .ok (.getfield 39, 3) := by decide +kernel
theorem dX6_read_55 : decode cX6_read 55 = .ok (.bipush 20, 2) := by decide +kernel
theorem dX6_read_57 : decode cX6_read 57 = .ok (.if_icmp .lt 5, 3) := by decide +kernel
theorem dX6_read_60 : decode cX6_read 60 = .ok (.iload_n 2, 1) := by decide +kernel
theorem dX6_read_61 : decode cX6_read 61 = .ok (.ireturn, 1) := by decide +kernel
theorem dX6_read_62 : decode cX6_read 62 = .ok (.aload_n 0, 1) := by decide +kernel
theorem dX6_read_63 : decode cX6_read 63 = .ok (.aload_n 0, 1) := by decide +kernel
theorem dX6_read_64 : decode cX6_read 64 = .ok (.getfield 9, 3) := by decide +kernel
theorem dX6_read_67 : decode cX6_read 67 = .ok (.iload_n 2, 1) := by decide +kernel
theorem dX6_read_68 : decode cX6_read 68 = .ok (.iaload, 1) := by decide +kernel
theorem dX6_read_69 : decode cX6_read 69 = .ok (.invokevirtual 50, 3) := by decide +kernel
theorem dX6_read_72 : decode cX6_read 72 = .ok (.iinc 2 1, 3) := by decide +kernel
theorem dX6_read_75 : decode cX6_read 75 = .ok (.goto 28, 3) := by decide +kernel
theorem dX6_read_78 : decode cX6_read 78 = .ok (.aload_n 0, 1) := by decide +kernel
theorem dX6_read_79 : decode cX6_read 79 = .ok (.iload_n 2, 1) := by decide +kernel
theorem dX6_read_80 : decode cX6_read 80 = .ok (.invokevirtual 54, 3) := by decide +kernel
theorem dX6_read_83 : decode cX6_read 83 = .ok (.istore 4, 2) := by decide +kernel
theorem dX6_read_85 : decode cX6_read 85 = .ok (.iload 4, 2) := by decide +kernel
theorem dX6_read_87 : decode cX6_read 87 = .ok (.ifCond .ge 8, 3) := by decide +kernel
theorem dX6_read_90 : decode cX6_read 90 = .ok (.iconst (-1), 1) := by decide +kernel
theorem dX6_read_91 : decode cX6_read 91 = .ok (.iload 4, 2) := by decide +kernel
theorem dX6_read_93 : decode cX6_read 93 = .ok (.isub, 1) := by decide +kernel
theorem dX6_read_94 : decode cX6_read 94 = .ok (.ireturn, 1) := by decide +kernel
theorem dX6_read_95 : decode cX6_read 95 = .ok (.aload_n 0, 1) := by decide +kernel
theorem dX6_read_96 : decode cX6_read 96 = .ok (.invokevirtual 57, 3) := by decide +kernel
theorem dX6_read_99 : decode cX6_read 99 = .ok (.istore_n 1, 1) := by decide +kernel
theorem dX6_read_100 : decode cX6_read 100 = .ok (.iload 4, 2) := by decide +kernel
theorem dX6_read_102 : decode cX6_read 102 = .ok (.istore_n 2, 1) := by decide +kernel
theorem dX6_read_103 : decode cX6_read 103 = .ok (.iinc 3 1, 3) := by decide +kernel
theorem dX6_read_106 : decode cX6_read 106 = .ok (.goto (-90), 3) := by decide +kernel
theorem dX6_read_109 : decode cX6_read 109 = .ok (.iload_n 1, 1) := by decide +kernel
theorem dX6_read_110 : decode cX6_read 110 = .ok (.ifCond .eq 7, 3) := by decide +kernel
theorem dX6_read_113 : decode cX6_read 113 = .ok (.iconst (-1), 1) := by decide +kernel
theorem dX6_read_114 : decode cX6_read 114 = .ok (.goto 7, 3) := by decide +kernel
theorem dX6_read_117 : decode cX6_read 117 = .ok (.aload_n 0, 1) := by decide +kernel
theorem dX6_read_118 : decode cX6_read 118 = .ok (.getfield 21, 3) := by decide +kernel
theorem dX6_read_121 : decode cX6_read 121 = .ok (.ireturn, 1) := by decide +kernel
theorem dX6_openSign_0 : decode cX6_openSign 0 = .ok (.aload_n 0, 1) := by decide +kernel
theorem dX6_openSign_1 : decode cX6_openSign 1 = .ok (.getfield 18, 3) := by decide +kernel
theorem dX6_openSign_4 : decode cX6_openSign 4 = .ok (.aload_n 0, 1) := by decide +kernel
theorem dX6_openSign_5 : decode cX6_openSign 5 = .ok (.getfield 39, 3) := by decide +kernel
theorem dX6_openSign_8 : decode cX6_openSign 8 = .ok (.iload_n 1, 1) := by decide +kernel
theorem dX6_openSign_9 : decode cX6_openSign 9 = .ok (.bipush 33, 2) := by decide +kernel
theorem dX6_openSign_11 : decode cX6_openSign 11 = .ok (.if_icmp .ne 7, 3) := by decide +kernel
theorem dX6_openSign_14 : decode cX6_openSign 14 = .ok (.iconst 1, 1) := by decide +kernel
theorem dX6_openSign_15 : decode cX6_openSign 15 = .ok (.goto 4, 3) := by decide +kernel
theorem dX6_openSign_18 : decode cX6_openSign 18 = .ok (.iconst 2, 1) := by decide +kernel
theorem dX6_openSign_19 : decode cX6_openSign 19 = .ok (.iastore, 1) := by decide +kernel
theorem dX6_openSign_20 : decode cX6_openSign 20 = .ok (.aload_n 0, 1) := by decide +kernel
theorem dX6_openSign_21 : decode cX6_openSign 21 = .ok (.dup, 1) := by decide +kernel
theorem dX6_openSign_22 : decode cX6_openSign 22 = .ok (.getfield 39, 3) := by decide +kernel
theorem dX6_openSign_25 : decode cX6_openSign 25 = .ok (.iconst 1, 1) := by decide +kernel
theorem dX6_openSign_26 : decode cX6_openSign 26 = .ok (.iadd, 1) := by decide +kernel
theorem dX6_openSign_27 : decode cX6_openSign 27 = .ok (.putfield 39, 3) := by decide +kernel
theorem dX6_openSign_30 : decode cX6_openSign 30 = .ok (.aload_n 0, 1) := by decide +kernel
theorem dX6_openSign_31 : decode cX6_openSign 31 = .ok (.iload_n 1, 1) := by decide +kernel
theorem dX6_openSign_32 : decode cX6_openSign 32 = .ok (.ineg, 1) := by decide +kernel
theorem dX6_openSign_33 : decode cX6_openSign 33 = .ok (.invokevirtual 61, 3) := by decide +kernel
theorem dX6_openSign_36 : decode cX6_openSign 36 = .ok (.return_, 1) := by decide +kernel
theorem dX6_closeSigns_0 : decode cX6_closeSigns 0 = .ok (.aload_n 0, 1) := by decide +kernel
theorem dX6_closeSigns_1 : decode cX6_closeSigns 1 = .ok (.getfield 39, 3) := by decide +kernel
theorem dX6_closeSigns_4 : decode cX6_closeSigns 4 = .ok (.ifCond .le 47, 3) := by decide +kernel
theorem dX6_closeSigns_7 : decode cX6_closeSigns 7 = .ok (.aload_n 0, 1) := by decide +kernel
theorem dX6_closeSigns_8 : decode cX6_closeSigns 8 = .ok (.getfield 18, 3) := by decide +kernel
theorem dX6_closeSigns_11 : decode cX6_closeSigns 11 = .ok (.aload_n 0, 1) := by decide +kernel
theorem dX6_closeSigns_12 : decode cX6_closeSigns 12 = .ok (.getfield 39, 3) := by decide +kernel
theorem dX6_closeSigns_15 : decode cX6_closeSigns 15 = .ok (.iconst 1, 1) := by decide +kernel
theorem dX6_closeSigns_16 : decode cX6_closeSigns 16 = .ok (.isub, 1) := by decide +kernel
theorem dX6_closeSigns_17 : decode cX6_closeSigns 17 = .ok (.dup2, 1) := by decide +kernel
theorem dX6_closeSigns_18 : decode cX6_closeSigns 18 = .ok (.iaload, 1) := by decide +kernel
theorem dX6_closeSigns_19 : decode cX6_closeSigns 19 = .ok (.iconst 1, 1) := by decide +kernel
theorem dX6_closeSigns_20 : decode cX6_closeSigns 20 = .ok (.isub, 1) := by decide +kernel
theorem dX6_closeSigns_21 : decode cX6_closeSigns 21 = .ok (.iastore, 1) := by decide +kernel
theorem dX6_closeSigns_22 : decode cX6_closeSigns 22 = .ok (.aload_n 0, 1) := by decide +kernel
theorem dX6_closeSigns_23 : decode cX6_closeSigns 23 = .ok (.getfield 18, 3) := by decide +kernel
theorem dX6_closeSigns_26 : decode cX6_closeSigns 26 = .ok (.aload_n 0, 1) := by decide +kernel
theorem dX6_closeSigns_27 : decode cX6_closeSigns 27 = .ok (.getfield 39, 3) := by decide +kernel
theorem dX6_closeSigns_30 : decode cX6_closeSigns 30 = .ok (.iconst 1, 1) := by decide +kernel
theorem dX6_closeSigns_31 : decode cX6_closeSigns 31 = .ok (.isub, 1) := by decide +kernel
theorem dX6_closeSigns_32 : decode cX6_closeSigns 32 = .ok (.iaload, 1) := by decide +kernel
theorem dX6_closeSigns_33 : decode cX6_closeSigns 33 = .ok (.ifCond .le 5, 3) := by decide +kernel
theorem dX6_closeSigns_36 : decode cX6_closeSigns 36 = .ok (.iconst 0, 1) := by decide +kernel
theorem dX6_closeSigns_37 : decode cX6_closeSigns 37 = .ok (.ireturn, 1) := by decide +kernel
theorem dX6_closeSigns_38 : decode cX6_closeSigns 38 = .ok (.aload_n 0, 1) := by decide +kernel
theorem dX6_closeSigns_39 : decode cX6_closeSigns 39 = .ok (.dup, 1) := by decide +kernel
theorem dX6_closeSigns_40 : decode cX6_closeSigns 40 = .ok (.getfield 39, 3) := by decide +kernel
theorem dX6_closeSigns_43 : decode cX6_closeSigns 43 = .ok (.iconst 1, 1) := by decide +kernel
theorem dX6_closeSigns_44 : decode cX6_closeSigns 44 = .ok (.isub, 1) := by decide +kernel
theorem dX6_closeSigns_45 : decode cX6_closeSigns 45 = .ok (.putfield 39, 3) := by decide +kernel
theorem dX6_closeSigns_48 : decode cX6_closeSigns 48 = .ok (.goto (-48), 3) := by decide +kernel
theorem dX6_closeSigns_51 : decode cX6_closeSigns 51 = .ok (.iconst 1, 1) := by decide +kernel
theorem dX6_closeSigns_52 : decode cX6_closeSigns 52 = .ok (.ireturn, 1) := by decide +kernel
theorem dX6_readLeaf_0 : decode cX6_readLeaf 0 = .ok (.aload_n 0, 1) := by decide +kernel
theorem dX6_readLeaf_1 : decode cX6_readLeaf 1 = .ok (.getfield 9, 3) := by decide +kernel
theorem dX6_readLeaf_4 : decode cX6_readLeaf 4 = .ok (.iload_n 1, 1) := by decide +kernel
theorem dX6_readLeaf_5 : decode cX6_readLeaf 5 = .ok (.iaload, 1) := by decide +kernel
theorem dX6_readLeaf_6 : decode cX6_readLeaf 6 = .ok (.istore_n 2, 1) := by decide +kernel
theorem dX6_readLeaf_7 : decode cX6_readLeaf 7 = .ok (.iload_n 2, 1) := by decide +kernel
theorem dX6_readLeaf_8 : decode cX6_readLeaf 8 = .ok (.bipush 35, 2) := by decide +kernel
theorem dX6_readLeaf_10 : decode cX6_readLeaf 10 = .ok (.if_icmp .ne 11, 3) := by decide +kernel
theorem dX6_readLeaf_13 : decode cX6_readLeaf 13 = .ok (.aload_n 0, 1) := by decide +kernel
theorem dX6_readLeaf_14 : decode cX6_readLeaf 14 = .ok (.iload_n 1, 1) := by decide +kernel
theorem dX6_readLeaf_15 : decode cX6_readLeaf 15 = .ok (.iconst 1, 1) := by decide +kernel
theorem dX6_readLeaf_16 : decode cX6_readLeaf 16 = .ok (.iadd, 1) := by decide +kernel
theorem dX6_readLeaf_17 : decode cX6_readLeaf 17 = .ok (.invokevirtual 64, 3) := by decide +kernel
theorem dX6_readLeaf_20 : decode cX6_readLeaf 20 = .ok (.ireturn, 1) := by decide +kernel
theorem dX6_readLeaf_21 : decode cX6_readLeaf 21 = .ok (.iload_n 2, 1) := by decide +kernel
theorem dX6_readLeaf_22 : decode cX6_readLeaf 22 = .ok (.invokestatic 67, 3) := by decide +kernel
theorem dX6_readLeaf_25 : decode cX6_readLeaf 25 = .ok (.ifCond .eq 15, 3) := by decide +kernel
theorem dX6_readLeaf_28 : decode cX6_readLeaf 28 = .ok (.aload_n 0, 1) := by decide +kernel
theorem dX6_readLeaf_29 : decode cX6_readLeaf 29 = .ok (.iload_n 2, 1) := by decide +kernel
theorem dX6_readLeaf_30 : decode cX6_readLeaf 30 = .ok (.bipush 48, 2) := by decide +kernel
theorem dX6_readLeaf_32 : decode cX6_readLeaf 32 = .ok (.isub, 1) := by decide +kernel
theorem dX6_readLeaf_33 : decode cX6_readLeaf 33 = .ok (.invokevirtual 61, 3) := by decide +kernel
theorem dX6_readLeaf_36 : decode cX6_readLeaf 36 = .ok (.iload_n 1, 1) := by decide +kernel
theorem dX6_readLeaf_37 : decode cX6_readLeaf 37 = .ok (.iconst 1, 1) := by decide +kernel
theorem dX6_readLeaf_38 : decode cX6_readLeaf 38 = .ok (.iadd, 1) := by decide +kernel
theorem dX6_readLeaf_39 : decode cX6_readLeaf 39 = .ok (.ireturn, 1) := by decide +kernel
theorem dX6_readLeaf_40 : decode cX6_readLeaf 40 = .ok (.ldc 71, 2) := by decide +kernel
theorem dX6_readLeaf_42 : decode cX6_readLeaf 42 = .ok (.iload_n 2, 1) := by decide +kernel
theorem dX6_readLeaf_43 : decode cX6_readLeaf 43 = .ok (.i2c, 1) := by decide +kernel
theorem dX6_readLeaf_44 : decode cX6_readLeaf 44 = .ok (.invokevirtual 44, 3) := by decide +kernel
theorem dX6_readLeaf_47 : decode cX6_readLeaf 47 = .ok (.ifCond .lt 13, 3) := by decide +kernel
theorem dX6_readLeaf_50 : decode cX6_readLeaf 50 = .ok (.aload_n 0, 1) := by decide +kernel
theorem dX6_readLeaf_51 : decode cX6_readLeaf 51 = .ok (.iload_n 2, 1) := by decide +kernel
theorem dX6_readLeaf_52 : decode cX6_readLeaf 52 = .ok (.ineg, 1) := by decide +kernel
theorem dX6_readLeaf_53 : decode cX6_readLeaf 53 = .ok (.invokevirtual 61, 3) := by decide +kernel
theorem dX6_readLeaf_56 : decode cX6_readLeaf 56 = .ok (.iload_n 1, 1) := by decide +kernel
theorem dX6_readLeaf_57 : decode cX6_readLeaf 57 = .ok (.iconst 1, 1) := by decide +kernel
theorem dX6_readLeaf_58 : decode cX6_readLeaf 58 = .ok (.iadd, 1) := by decide +kernel
theorem dX6_readLeaf_59 : decode cX6_readLeaf 59 = .ok (.ireturn, 1) := by decide +kernel
theorem dX6_readLeaf_60 : decode cX6_readLeaf 60 = .ok (.iconst (-1), 1) := by decide +kernel
theorem dX6_readLeaf_61 : decode cX6_readLeaf 61 = .ok (.iload_n 1, 1) := by decide +kernel
theorem dX6_readLeaf_62 : decode cX6_readLeaf 62 = .ok (.isub, 1) := by decide +kernel
theorem dX6_readLeaf_63 : decode cX6_readLeaf 63 = .ok (.ireturn, 1) := by decide +kernel
theorem dX6_readNumber_0 : decode cX6_readNumber 0 = .ok (.iconst 0, 1) := by decide +kernel
theorem dX6_readNumber_1 : decode cX6_readNumber 1 = .ok (.istore_n 2, 1) := by decide +kernel
theorem dX6_readNumber_2 : decode cX6_readNumber 2 = .ok (.iload_n 1, 1) := by decide +kernel
theorem dX6_readNumber_3 : decode cX6_readNumber 3 = .ok (.istore_n 3, 1) := by decide +kernel
theorem dX6_readNumber_4 : decode cX6_readNumber 4 = .ok (.iload_n 3, 1) := by decide +kernel
theorem dX6_readNumber_5 : decode cX6_readNumber 5 = .ok (.aload_n 0, 1) := by decide +kernel
theorem dX6_readNumber_6 : decode cX6_readNumber 6 = .ok (.getfield 21, 3) := by decide +kernel
theorem dX6_readNumber_9 : decode cX6_readNumber 9 = .ok (.if_icmp .ge 43, 3) := by decide +kernel
theorem dX6_readNumber_12 : decode cX6_readNumber 12 = .ok (.iload_n 3, 1) := by decide +kernel
theorem dX6_readNumber_13 : decode cX6_readNumber 13 = .ok (.iload_n 1, 1) := by decide +kernel
theorem dX6_readNumber_14 : decode cX6_readNumber 14 = .ok (.iconst 5, 1) := by decide +kernel
theorem dX6_readNumber_15 : decode cX6_readNumber 15 = .ok (.iadd, 1) := by decide +kernel
theorem dX6_readNumber_16 : decode cX6_readNumber 16 = .ok (.if_icmp .ge 36, 3) := by decide +kernel
theorem dX6_readNumber_19 : decode cX6_readNumber 19 = .ok (.aload_n 0, 1) := by decide +kernel
theorem dX6_readNumber_20 : decode cX6_readNumber 20 = .ok (.getfield 9, 3) := by decide +kernel
theorem dX6_readNumber_23 : decode cX6_readNumber 23 = .ok (.iload_n 3, 1) := by decide +kernel
theorem dX6_readNumber_24 : decode cX6_readNumber 24 = .ok (.iaload, 1) := by decide +kernel
theorem dX6_readNumber_25 : decode cX6_readNumber 25 = .ok (.invokestatic 67, 3) := by decide +kernel
theorem dX6_readNumber_28 : decode cX6_readNumber 28 = .ok (.ifCond .eq 24, 3) := by decide +kernel
theorem dX6_readNumber_31 : decode cX6_readNumber 31 = .ok (.bipush 10, 2) := by decide +kernel
theorem dX6_readNumber_33 : decode cX6_readNumber 33 = .ok (.iload_n 2, 1) := by decide +kernel
theorem dX6_readNumber_34 : decode cX6_readNumber 34 = .ok (.imul, 1) := by decide +kernel
theorem dX6_readNumber_35 : decode cX6_readNumber 35 = .ok (.aload_n 0, 1) := by decide +kernel
theorem dX6_readNumber_36 : decode cX6_readNumber 36 = .ok (.getfield 9, 3) := by decide +kernel
theorem dX6_readNumber_39 : decode cX6_readNumber 39 = .ok (.iload_n 3, 1) := by decide +kernel
theorem dX6_readNumber_40 : decode cX6_readNumber 40 = .ok (.iaload, 1) := by decide +kernel
theorem dX6_readNumber_41 : decode cX6_readNumber 41 = .ok (.iadd, 1) := by decide +kernel
theorem dX6_readNumber_42 : decode cX6_readNumber 42 = .ok (.bipush 48, 2) := by decide +kernel
theorem dX6_readNumber_44 : decode cX6_readNumber 44 = .ok (.isub, 1) := by decide +kernel
theorem dX6_readNumber_45 : decode cX6_readNumber 45 = .ok (.istore_n 2, 1) := by decide +kernel
theorem dX6_readNumber_46 : decode cX6_readNumber 46 = .ok (.iinc 3 1, 3) := by decide +kernel
theorem dX6_readNumber_49 : decode cX6_readNumber 49 = .ok (.goto (-45), 3) := by decide +kernel
theorem dX6_readNumber_52 : decode cX6_readNumber 52 = .ok (.iload_n 3, 1) := by decide +kernel
theorem dX6_readNumber_53 : decode cX6_readNumber 53 = .ok (.aload_n 0, 1) := by decide +kernel
theorem dX6_readNumber_54 : decode cX6_readNumber 54 = .ok (.getfield 21, 3) := by decide +kernel
theorem dX6_readNumber_57 : decode cX6_readNumber 57 = .ok (.if_icmp .ge 21, 3) := by decide +kernel
theorem dX6_readNumber_60 : decode cX6_readNumber 60 = .ok (.iload_n 3, 1) := by decide +kernel
theorem dX6_readNumber_61 : decode cX6_readNumber 61 = .ok (.iload_n 1, 1) := by decide +kernel
theorem dX6_readNumber_62 : decode cX6_readNumber 62 = .ok (.iconst 2, 1) := by decide +kernel
theorem dX6_readNumber_63 : decode cX6_readNumber 63 = .ok (.iadd, 1) := by decide +kernel
theorem dX6_readNumber_64 : decode cX6_readNumber 64 = .ok (.if_icmp .lt 14, 3) := by decide +kernel
theorem dX6_readNumber_67 : decode cX6_readNumber 67 = .ok (.aload_n 0, 1) := by decide +kernel
theorem dX6_readNumber_68 : decode cX6_readNumber 68 = .ok (.getfield 9, 3) := by decide +kernel
theorem dX6_readNumber_71 : decode cX6_readNumber 71 = .ok (.iload_n 3, 1) := by decide +kernel
theorem dX6_readNumber_72 : decode cX6_readNumber 72 = .ok (.iaload, 1) := by decide +kernel
theorem dX6_readNumber_73 : decode cX6_readNumber 73 = .ok (.bipush 32, 2) := by decide +kernel
theorem dX6_readNumber_75 : decode cX6_readNumber 75 = .ok (.if_icmp .eq 7, 3) := by decide +kernel
theorem dX6_readNumber_78 : decode cX6_readNumber 78 = .ok (.iconst (-1), 1) := by decide +kernel
theorem dX6_readNumber_79 : decode cX6_readNumber 79 = .ok (.iload_n 3, 1) := by decide +kernel
theorem dX6_readNumber_80 : decode cX6_readNumber 80 = .ok (.isub, 1) := by decide +kernel
theorem dX6_readNumber_81 : decode cX6_readNumber 81 = .ok (.ireturn, 1) := by decide +kernel
theorem dX6_readNumber_82 : decode cX6_readNumber 82 = .ok (.aload_n 0, 1) := by decide +kernel
theorem dX6_readNumber_83 : decode cX6_readNumber 83 = .ok (.iload_n 2, 1) := by decide +kernel
theorem dX6_readNumber_84 : decode cX6_readNumber 84 = .ok (.invokevirtual 61, 3) := by decide +kernel
theorem dX6_readNumber_87 : decode cX6_readNumber 87 = .ok (.iload_n 3, 1) := by decide +kernel
theorem dX6_readNumber_88 : decode cX6_readNumber 88 = .ok (.iconst 1, 1) := by decide +kernel
theorem dX6_readNumber_89 : decode cX6_readNumber 89 = .ok (.iadd, 1) := by decide +kernel
theorem dX6_readNumber_90 : decode cX6_readNumber 90 = .ok (.ireturn, 1) := by decide +kernel
theorem dX6_keep_0 : decode cX6_keep 0 = .ok (.aload_n 0, 1) := by decide +kernel
theorem dX6_keep_1 : decode cX6_keep 1 = .ok (.getfield 27, 3) := by decide +kernel
theorem dX6_keep_4 : decode cX6_keep 4 = .ok (.bipush 100, 2) := by decide +kernel
theorem dX6_keep_6 : decode cX6_keep 6 = .ok (.if_icmp .ge 23, 3) := by decide +kernel
theorem dX6_keep_9 : decode cX6_keep 9 = .ok (.aload_n 0, 1) := by decide +kernel
theorem dX6_keep_10 : decode cX6_keep 10 = .ok (.getfield 15, 3) := by decide +kernel
theorem dX6_keep_13 : decode cX6_keep 13 = .ok (.aload_n 0, 1) := by decide +kernel
theorem dX6_keep_14 : decode cX6_keep 14 = .ok (.getfield 27, 3) := by decide +kernel
theorem dX6_keep_17 : decode cX6_keep 17 = .ok (.iload_n 1, 1) := by decide +kernel
theorem dX6_keep_18 : decode cX6_keep 18 = .ok (.iastore, 1) := by decide +kernel
theorem dX6_keep_19 : decode cX6_keep 19 = .ok (.aload_n 0, 1) := by decide +kernel
theorem dX6_keep_20 : decode cX6_keep 20 = .ok (.dup, 1) := by decide +kernel
theorem dX6_keep_21 : decode cX6_keep 21 = .ok (.getfield 27, 3) := by decide +kernel
theorem dX6_keep_24 : decode cX6_keep 24 = .ok (.iconst 1, 1) := by decide +kernel
theorem dX6_keep_25 : decode cX6_keep 25 = .ok (.iadd, 1) := by decide +kernel
theorem dX6_keep_26 : decode cX6_keep 26 = .ok (.putfield 27, 3) := by decide +kernel
theorem dX6_keep_29 : decode cX6_keep 29 = .ok (.return_, 1) := by decide +kernel
theorem dX6_isDigit_0 : decode cX6_isDigit 0 = .ok (.iload_n 0, 1) := by decide +kernel
theorem dX6_isDigit_1 : decode cX6_isDigit 1 = .ok (.bipush 48, 2) := by decide +kernel
theorem dX6_isDigit_3 : decode cX6_isDigit 3 = .ok (.if_icmp .lt 13, 3) := by decide +kernel
theorem dX6_isDigit_6 : decode cX6_isDigit 6 = .ok (.iload_n 0, 1) := by decide +kernel
theorem dX6_isDigit_7 : decode cX6_isDigit 7 = .ok (.bipush 57, 2) := by decide +kernel
theorem dX6_isDigit_9 : decode cX6_isDigit 9 = .ok (.if_icmp .gt 7, 3) := by decide +kernel
theorem dX6_isDigit_12 : decode cX6_isDigit 12 = .ok (.iconst 1, 1) := by decide +kernel
theorem dX6_isDigit_13 : decode cX6_isDigit 13 = .ok (.goto 4, 3) := by decide +kernel
theorem dX6_isDigit_16 : decode cX6_isDigit 16 = .ok (.iconst 0, 1) := by decide +kernel
theorem dX6_isDigit_17 : decode cX6_isDigit 17 = .ok (.ireturn, 1) := by decide +kernel
theorem dX7_init_0 : decode cX7_init 0 = .ok (.aload_n 0, 1) := by decide +kernel
theorem dX7_init_1 : decode cX7_init 1 = .ok (.invokespecial 1, 3) := by decide +kernel
theorem dX7_init_4 : decode cX7_init 4 = .ok (.aload_n 0, 1) := by decide +kernel
theorem dX7_init_5 : decode cX7_init 5 = .ok (.aload_n 1, 1) := by decide +kernel
theorem dX7_init_6 : decode cX7_init 6 = .ok (.putfield 7, 3) := by decide +kernel
theorem dX7_init_9 : decode cX7_init 9 = .ok (.return_, 1) := by decide +kernel
theorem dX8_init_0 : decode cX8_init 0 = .ok (.aload_n 0, 1) := by decide +kernel
theorem dX8_init_1 : decode cX8_init 1 = .ok (.invokespecial 1, 3) := by decide +kernel
theorem dX8_init_4 : decode cX8_init 4 = .ok (.aload_n 0, 1) := by decide +kernel
theorem dX8_init_5 : decode cX8_init 5 = .ok (.new 7, 3) := by decide +kernel
theorem dX8_init_8 : decode cX8_init 8 = .ok (.dup, 1) := by decide +kernel
theorem dX8_init_9 : decode cX8_init 9 = .ok (.invokespecial 9, 3) := by decide +kernel
theorem dX8_init_12 : decode cX8_init 12 = .ok (.putfield 10, 3) := by decide +kernel
theorem dX8_init_15 : decode cX8_init 15 = .ok (.aload_n 0, 1) := by decide +kernel
theorem dX8_init_16 : decode cX8_init 16 = .ok (.new 16, 3) := by decide +kernel
theorem dX8_init_19 : decode cX8_init 19 = .ok (.dup, 1) := by decide +kernel
theorem dX8_init_20 : decode cX8_init 20 = .ok (.invokespecial 18, 3) := by decide +kernel
theorem dX8_init_23 : decode cX8_init 23 = .ok (.putfield 19, 3) := by decide +kernel
theorem dX8_init_26 : decode cX8_init 26 = .ok (.aload_n 0, 1) := by decide +kernel
theorem dX8_init_27 : decode cX8_init 27 = .ok (.new 23, 3) := by decide +kernel
theorem dX8_init_30 : decode cX8_init 30 = .ok (.dup, 1) := by decide +kernel
theorem dX8_init_31 : decode cX8_init 31 = .ok (.invokespecial 25, 3) := by decide +kernel
theorem dX8_init_34 : decode cX8_init 34 = .ok (.putfield 26, 3) := by decide +kernel
theorem dX8_init_37 : decode cX8_init 37 = .ok (.aload_n 0, 1) := by decide +kernel
theorem dX8_init_38 : decode cX8_init 38 = .ok (.new 30, 3) := by decide +kernel
theorem dX8_init_41 : decode cX8_init 41 = .ok (.dup, 1) := by decide +kernel
theorem dX8_init_42 : decode cX8_init 42 = .ok (.invokespecial 32, 3) := by decide +kernel
theorem dX8_init_45 : decode cX8_init 45 = .ok (.putfield 33, 3) := by decide +kernel
theorem dX8_init_48 : decode cX8_init 48 = .ok (.aload_n 0, 1) := by decide +kernel
theorem dX8_init_49 : decode cX8_init 49 = .ok (.new 37, 3) := by decide +kernel
theorem dX8_init_52 : decode cX8_init 52 = .ok (.dup, 1) := by decide +kernel
theorem dX8_init_53 : decode cX8_init 53 = .ok (.invokespecial 39, 3) := by decide +kernel
theorem dX8_init_56 : decode cX8_init 56 = .ok (.putfield 40, 3) := by decide +kernel
theorem dX8_init_59 : decode cX8_init 59 = .ok (.aload_n 0, 1) := by decide +kernel
theorem dX8_init_60 : decode cX8_init 60 = .ok (.bipush 30, 2) := by decide +kernel
theorem dX8_init_62 : decode cX8_init 62 = .ok (.anewarray 44, 3) := by decide +kernel
theorem dX8_init_65 : decode cX8_init 65 = .ok (.putfield 46, 3) := by decide +kernel
theorem dX8_init_68 : decode cX8_init 68 = .ok (.aload_n 0, 1) := by decide +kernel
theorem dX8_init_69 : decode cX8_init 69 = .ok (.bipush 20, 2) := by decide +kernel
theorem dX8_init_71 : decode cX8_init 71 = .ok (.anewarray 50, 3) := by decide +kernel
theorem dX8_init_74 : decode cX8_init 74 = .ok (.putfield 52, 3) := by decide +kernel
theorem dX8_init_77 : decode cX8_init 77 = .ok (.aload_n 0, 1) := by decide +kernel
theorem dX8_init_78 : decode cX8_init 78 = .ok (.bipush 20, 2) := by decide +kernel
theorem dX8_init_80 : decode cX8_init 80 = .ok (.newarray .int, 2) := by decide +kernel
theorem dX8_init_82 : decode cX8_init 82 = .ok (.putfield 56, 3) := by decide +kernel
theorem dX8_init_85 : decode cX8_init 85 = .ok (.aload_n 0, 1) := by decide +kernel
theorem dX8_init_86 : decode cX8_init 86 = .ok (.bipush 40, 2) := by decide +kernel
theorem dX8_init_88 : decode cX8_init 88 = .ok (.newarray .int, 2) := by decide +kernel
theorem dX8_init_90 : decode cX8_init 90 = .ok (.putfield 60, 3) := by decide +kernel
theorem dX8_init_93 : decode cX8_init 93 = .ok (.return_, 1) := by decide +kernel
theorem dX8_part_0 : decode cX8_part 0 = .ok (.iload_n 1, 1) := by decide +kernel
theorem dX8_part_1 : decode cX8_part 1 = .ok (.iload_n 2, 1) := by decide +kernel
theorem dX8_part_2 : decode cX8_part 2 = .ok (.iload_n 3, 1) := by decide +kernel
theorem dX8_part_3 : decode cX8_part 3 = .ok (.invokestatic 63, 3) := by decide +kernel
theorem dX8_part_6 : decode cX8_part 6 = .ok (.ifCond .ne 5, 3) := by decide +kernel
theorem dX8_part_9 : decode cX8_part 9 = .ok (.iconst (-1), 1) := by decide +kernel
theorem dX8_part_10 : decode cX8_part 10 = .ok (.ireturn, 1) := by decide +kernel
theorem dX8_part_11 : decode cX8_part 11 = .ok (.aload_n 0, 1) := by decide +kernel
theorem dX8_part_12 : decode cX8_part 12 = .ok (.getfield 10, 3) := by decide +kernel
theorem dX8_part_15 : decode cX8_part 15 = .ok (.getfield 67, 3) := by decide +kernel
theorem dX8_part_18 : decode cX8_part 18 = .ok (.bipush 40, 2) := by decide +kernel
theorem dX8_part_20 : decode cX8_part 20 = .ok (.if_icmp .lt 6, 3) := by decide +kernel
theorem dX8_part_23 : decode cX8_part 23 = .ok (.bipush (-3), 2) := by decide +kernel
theorem dX8_part_25 : decode cX8_part 25 = .ok (.ireturn, 1) := by decide +kernel
theorem dX8_part_26 : decode cX8_part 26 = .ok (.aload_n 0, 1) := by decide +kernel
theorem dX8_part_27 : decode cX8_part 27 = .ok (.getfield 10, 3) := by decide +kernel
theorem dX8_part_30 : decode cX8_part 30 = .ok (.new 71, 3) := by decide +kernel
theorem dX8_part_33 : decode cX8_part 33 = .ok (.dup, 1) := by decide +kernel
theorem dX8_part_34 : decode cX8_part 34 = .ok (.iconst 0, 1) := by decide +kernel
theorem dX8_part_35 : decode cX8_part 35 = .ok (.iload_n 1, 1) := by decide +kernel
theorem dX8_part_36 : decode cX8_part 36 = .ok (.iload_n 2, 1) := by decide +kernel
theorem dX8_part_37 : decode cX8_part 37 = .ok (.iload_n 3, 1) := by decide +kernel
theorem dX8_part_38 : decode cX8_part 38 = .ok (.invokespecial 73, 3) := by decide +kernel
theorem dX8_part_41 : decode cX8_part 41 = .ok (.invokevirtual 76, 3) := by decide +kernel
theorem dX8_part_44 : decode cX8_part 44 = .ok (.ireturn, 1) := by decide +kernel
theorem dX8_arch_0 : decode cX8_arch 0 = .ok (.iload_n 1, 1) := by decide +kernel
theorem dX8_arch_1 : decode cX8_arch 1 = .ok (.iload_n 2, 1) := by decide +kernel
theorem dX8_arch_2 : decode cX8_arch 2 = .ok (.iload_n 3, 1) := by decide +kernel
theorem dX8_arch_3 : decode cX8_arch 3 = .ok (.invokestatic 63, 3) := by decide +kernel
theorem dX8_arch_6 : decode cX8_arch 6 = .ok (.ifCond .eq 34, 3) := by decide +kernel
theorem dX8_arch_9 : decode cX8_arch 9 = .ok (.iload 4, 2) := by decide +kernel
theorem dX8_arch_11 : decode cX8_arch 11 = .ok (.iload 5, 2) := by decide +kernel
theorem dX8_arch_13 : decode cX8_arch 13 = .ok (.if_icmp .eq 27, 3) := by decide +kernel
theorem dX8_arch_16 : decode cX8_arch 16 = .ok (.aload_n 0, 1) := by decide +kernel
theorem dX8_arch_17 : decode cX8_arch 17 = .ok (.getfield 10, 3) := by decide +kernel
theorem dX8_arch_20 : decode cX8_arch 20 = .ok (.iload 4, 2) := by decide +kernel
theorem dX8_arch_22 : decode cX8_arch 22 = .ok (.invokevirtual 80, 3) := by decide +kernel
theorem dX8_arch_25 : decode cX8_arch 25 = .ok (.ifnull 15, 3) := by decide +kernel
theorem dX8_arch_28 : decode cX8_arch 28 = .ok (.aload_n 0, 1) := by decide +kernel
theorem dX8_arch_29 : decode cX8_arch 29 = .ok (.getfield 10, 3) := by decide +kernel
theorem dX8_arch_32 : decode cX8_arch 32 = .ok (.iload 5, 2) := by decide +kernel
theorem dX8_arch_34 : decode cX8_arch 34 = .ok (.invokevirtual 80, 3) := by decide +kernel
theorem dX8_arch_37 : decode cX8_arch 37 = .ok (.ifnonnull 5, 3) := by decide +kernel
theorem dX8_arch_40 : decode cX8_arch 40 = .ok (.iconst (-1), 1) := by decide +kernel
theorem dX8_arch_41 : decode cX8_arch 41 = .ok (.ireturn, 1) := by decide +kernel
theorem dX8_arch_42 : decode cX8_arch 42 = .ok (.aload_n 0, 1) := by decide +kernel
theorem dX8_arch_43 : decode cX8_arch 43 = .ok (.getfield 10, 3) := by decide +kernel
theorem dX8_arch_46 : decode cX8_arch 46 = .ok (.getfield 67, 3) := by decide +kernel
theorem dX8_arch_49 : decode cX8_arch 49 = .ok (.bipush 40, 2) := by decide +kernel
theorem dX8_arch_51 : decode cX8_arch 51 = .ok (.if_icmp .lt 6, 3) := by decide +kernel
theorem dX8_arch_54 : decode cX8_arch 54 = .ok (.bipush (-3), 2) := by decide +kernel
theorem dX8_arch_56 : decode cX8_arch 56 = .ok (.ireturn, 1) := by decide +kernel
theorem dX8_arch_57 : decode cX8_arch 57 = .ok (.new 71, 3) := by decide +kernel
theorem dX8_arch_60 : decode cX8_arch 60 = .ok (.dup, 1) := by decide +kernel
theorem dX8_arch_61 : decode cX8_arch 61 = .ok (.iconst 1, 1) := by decide +kernel
theorem dX8_arch_62 : decode cX8_arch 62 = .ok (.iload_n 1, 1) := by decide +kernel
theorem dX8_arch_63 : decode cX8_arch 63 = .ok (.iload_n 2, 1) := by decide +kernel
theorem dX8_arch_64 : decode cX8_arch 64 = .ok (.iload_n 3, 1) := by decide +kernel
theorem dX8_arch_65 : decode cX8_arch 65 = .ok (.invokespecial 73, 3) := by decide +kernel
theorem dX8_arch_68 : decode cX8_arch 68 = .ok (.astore 6, 2) := by decide +kernel
theorem dX8_arch_70 : decode cX8_arch 70 = .ok (.aload 6, 2) := by decide +kernel
theorem dX8_arch_72 : decode cX8_arch 72 = .ok (.iconst 0, 1) := by decide +kernel
theorem dX8_arch_73 : decode cX8_arch 73 = .ok (.iload 4, 2) := by decide +kernel
theorem dX8_arch_75 : decode cX8_arch 75 = .ok (.bipush 6, 2) := by decide +kernel
theorem dX8_arch_77 : decode cX8_arch 77 = .ok (.invokevirtual 84, 3) := by decide +kernel
theorem dX8_arch_80 : decode cX8_arch 80 = .ok (.aload 6, 2) := by decide +kernel
theorem dX8_arch_82 : decode cX8_arch 82 = .ok (.iconst 1, 1) := by decide +kernel
theorem dX8_arch_83 : decode cX8_arch 83 = .ok (.iload 5, 2) := by decide +kernel
theorem dX8_arch_85 : decode cX8_arch 85 = .ok (.bipush 6, 2) := by decide +kernel
theorem dX8_arch_87 : decode cX8_arch 87 = .ok (.invokevirtual 84, 3) := by decide +kernel
theorem dX8_arch_90 : decode cX8_arch 90 = .ok (.aload 6, 2) := by decide +kernel
theorem dX8_arch_92 : decode cX8_arch 92 = .ok (.iconst 2, 1) := by decide +kernel
theorem dX8_arch_93 : decode cX8_arch 93 = .ok (.putfield 88, 3) := by decide +kernel
theorem dX8_arch_96 : decode cX8_arch 96 = .ok (.aload_n 0, 1) := by decide +kernel
theorem dX8_arch_97 : decode cX8_arch 97 = .ok (.getfield 10, 3) := by decide +kernel
theorem dX8_arch_100 : decode cX8_arch 100 = .ok (.aload 6, 2) := by decide +kernel
theorem dX8_arch_102 : decode cX8_arch 102 = .ok (.invokevirtual 76, 3) := by decide +kernel
theorem dX8_arch_105 : decode cX8_arch 105 = .ok (.ireturn, 1) := by decide +kernel
theorem dX8_bear_0 : decode cX8_bear 0 = .ok (.aload_n 0, 1) := by decide +kernel
theorem dX8_bear_1 : decode cX8_bear 1 = .ok (.getfield 10, 3) := by decide +kernel
theorem dX8_bear_4 : decode cX8_bear 4 = .ok (.iload_n 1, 1) := by decide +kernel
theorem dX8_bear_5 : decode cX8_bear 5 = .ok (.invokevirtual 80, 3) := by decide +kernel
theorem dX8_bear_8 : decode cX8_bear 8 = .ok (.astore 6, 2) := by decide +kernel
theorem dX8_bear_10 : decode cX8_bear 10 = .ok (.aload 6, 2) := by decide +kernel
theorem dX8_bear_12 : decode cX8_bear 12 = .ok (.ifnonnull 5, 3) := by decide +kernel
theorem dX8_bear_15 : decode cX8_bear 15 = .ok (.iconst (-1), 1) := by decide +kernel
theorem dX8_bear_16 : decode cX8_bear 16 = .ok (.ireturn, 1) := by decide +kernel
theorem dX8_bear_17 : decode cX8_bear 17 = .ok (.aload_n 0, 1) := by decide +kernel
theorem dX8_bear_18 : decode cX8_bear 18 = .ok (.getfield 10, 3) := by decide +kernel
theorem dX8_bear_21 : decode cX8_bear 21 = .ok (.iload_n 1, 1) := by decide +kernel
theorem dX8_bear_22 : decode cX8_bear 22 = .ok (.iload_n 2, 1) := by decide +kernel
theorem dX8_bear_23 : decode cX8_bear 23 = .ok (.iload_n 3, 1) := by decide +kernel
theorem dX8_bear_24 : decode cX8_bear 24 = .ok (.iload 4, 2) := by decide +kernel
theorem dX8_bear_26 : decode cX8_bear 26 = .ok (.iload 5, 2) := by decide +kernel
theorem dX8_bear_28 : decode cX8_bear 28 = .ok (.invokevirtual 91, 3) := by decide +kernel
theorem dX8_bear_31 : decode cX8_bear 31 = .ok (.istore 7, 2) := by decide +kernel
theorem dX8_bear_33 : decode cX8_bear 33 = .ok (.iload 7, 2) := by decide +kernel
theorem dX8_bear_35 : decode cX8_bear 35 = .ok (.iconst (-1), 1) := by decide +kernel
theorem dX8_bear_36 : decode cX8_bear 36 = .ok (.if_icmp .eq 18, 3) := by decide +kernel
theorem dX8_bear_39 : decode cX8_bear 39 = .ok (.aload 6, 2) := by decide +kernel
theorem dX8_bear_41 : decode cX8_bear 41 = .ok (.getfield 95, 3) := by decide +kernel
theorem dX8_bear_44 : decode cX8_bear 44 = .ok (.iconst 1, 1) := by decide +kernel
theorem dX8_bear_45 : decode cX8_bear 45 = .ok (.if_icmp .ne 11, 3) := by decide +kernel
theorem dX8_bear_48 : decode cX8_bear 48 = .ok (.iload 7, 2) := by decide +kernel
theorem dX8_bear_50 : decode cX8_bear 50 = .ok (.iconst 2, 1) := by decide +kernel
theorem dX8_bear_51 : decode cX8_bear 51 = .ok (.if_icmp .ge 5, 3) := by decide +kernel
theorem dX8_bear_54 : decode cX8_bear 54 = .ok (.iconst (-1), 1) := by decide +kernel
theorem dX8_bear_55 : decode cX8_bear 55 = .ok (.ireturn, 1) := by decide +kernel
theorem dX8_bear_56 : decode cX8_bear 56 = .ok (.aload 6, 2) := by decide +kernel
theorem dX8_bear_58 : decode cX8_bear 58 = .ok (.invokevirtual 98, 3) := by decide +kernel
theorem dX8_bear_61 : decode cX8_bear 61 = .ok (.ifCond .eq 6, 3) := by decide +kernel
theorem dX8_bear_64 : decode cX8_bear 64 = .ok (.bipush (-2), 2) := by decide +kernel
theorem dX8_bear_66 : decode cX8_bear 66 = .ok (.ireturn, 1) := by decide +kernel
theorem dX8_bear_67 : decode cX8_bear 67 = .ok (.aload_n 0, 1) := by decide +kernel
theorem dX8_bear_68 : decode cX8_bear 68 = .ok (.getfield 10, 3) := by decide +kernel
theorem dX8_bear_71 : decode cX8_bear 71 = .ok (.getfield 102, 3) := by decide +kernel
theorem dX8_bear_74 : decode cX8_bear 74 = .ok (.bipush 60, 2) := by decide +kernel
theorem dX8_bear_76 : decode cX8_bear 76 = .ok (.if_icmp .lt 6, 3) := by decide +kernel
theorem dX8_bear_79 : decode cX8_bear 79 = .ok (.bipush (-3), 2) := by decide +kernel
theorem dX8_bear_81 : decode cX8_bear 81 = .ok (.ireturn, 1) := by decide +kernel
theorem dX8_bear_82 : decode cX8_bear 82 = .ok (.aload_n 0, 1) := by decide +kernel
theorem dX8_bear_83 : decode cX8_bear 83 = .ok (.getfield 10, 3) := by decide +kernel
theorem dX8_bear_86 : decode cX8_bear 86 = .ok (.aload 6, 2) := by decide +kernel
theorem dX8_bear_88 : decode cX8_bear 88 = .ok (.iload 7, 2) := by decide +kernel
theorem dX8_bear_90 : decode cX8_bear 90 = .ok (.invokevirtual 105, 3) := by decide +kernel
theorem dX8_bear_93 : decode cX8_bear 93 = .ok (.aload_n 0, 1) := by decide +kernel
theorem dX8_bear_94 : decode cX8_bear 94 = .ok (.getfield 10, 3) := by decide +kernel
theorem dX8_bear_97 : decode cX8_bear 97 = .ok (.iload_n 1, 1) := by decide +kernel
theorem dX8_bear_98 : decode cX8_bear 98 = .ok (.aload 6, 2) := by decide +kernel
theorem dX8_bear_100 : decode cX8_bear 100 = .ok (.getfield 109, 3) := by decide +kernel
theorem dX8_bear_103 : decode cX8_bear 103 = .ok (.invokevirtual 112, 3) := by decide +kernel
theorem dX8_bear_106 : decode cX8_bear 106 = .ok (.pop, 1) := by decide +kernel
theorem dX8_bear_107 : decode cX8_bear 107 = .ok (.iload 7, 2) := by decide +kernel
theorem dX8_bear_109 : decode cX8_bear 109 = .ok (.ireturn, 1) := by decide +kernel
theorem dX8_edit_0 : decode cX8_edit 0 = .ok (.aload_n 0, 1) := by decide +kernel
theorem dX8_edit_1 : decode cX8_edit 1 = .ok (.getfield 10, 3) := by decide +kernel
theorem dX8_edit_4 : decode cX8_edit 4 = .ok (.iload_n 1, 1) := by decide +kernel
theorem dX8_edit_5 : decode cX8_edit 5 = .ok (.invokevirtual 80, 3) := by decide +kernel
theorem dX8_edit_8 : decode cX8_edit 8 = .ok (.astore_n 3, 1) := by decide +kernel
theorem dX8_edit_9 : decode cX8_edit 9 = .ok (.aload_n 3, 1) := by decide +kernel
theorem dX8_edit_10 : decode cX8_edit 10 = .ok (.ifnull 14, 3) := by decide +kernel
theorem dX8_edit_13 : decode cX8_edit 13 = .ok (.iload_n 2, 1) := by decide +kernel
theorem dX8_edit_14 : decode cX8_edit 14 = .ok (.iconst 1, 1) := by decide +kernel
theorem dX8_edit_15 : decode cX8_edit 15 = .ok (.if_icmp .lt 9, 3) := by decide +kernel
theorem dX8_edit_18 : decode cX8_edit 18 = .ok (.iload_n 2, 1) := by decide +kernel
theorem dX8_edit_19 : decode cX8_edit 19 = .ok (.bipush 30, 2) := by decide +kernel
theorem dX8_edit_21 : decode cX8_edit 21 = .ok (.if_icmp .le 5, 3) := by decide +kernel
theorem dX8_edit_24 : decode cX8_edit 24 = .ok (.iconst (-1), 1) := by decide +kernel
theorem dX8_edit_25 : decode cX8_edit 25 = .ok (.ireturn, 1) := by decide +kernel
theorem dX8_edit_26 : decode cX8_edit 26 = .ok (.aload_n 3, 1) := by decide +kernel
theorem dX8_edit_27 : decode cX8_edit 27 = .ok (.invokevirtual 98, 3) := by decide +kernel
theorem dX8_edit_30 : decode cX8_edit 30 = .ok (.ifCond .eq 6, 3) := by decide +kernel
theorem dX8_edit_33 : decode cX8_edit 33 = .ok (.bipush (-2), 2) := by decide +kernel
theorem dX8_edit_35 : decode cX8_edit 35 = .ok (.ireturn, 1) := by decide +kernel
theorem dX8_edit_36 : decode cX8_edit 36 = .ok (.aload_n 0, 1) := by decide +kernel
theorem dX8_edit_37 : decode cX8_edit 37 = .ok (.getfield 10, 3) := by decide +kernel
theorem dX8_edit_40 : decode cX8_edit 40 = .ok (.getfield 102, 3) := by decide +kernel
theorem dX8_edit_43 : decode cX8_edit 43 = .ok (.bipush 60, 2) := by decide +kernel
theorem dX8_edit_45 : decode cX8_edit 45 = .ok (.if_icmp .lt 6, 3) := by decide +kernel
theorem dX8_edit_48 : decode cX8_edit 48 = .ok (.bipush (-3), 2) := by decide +kernel
theorem dX8_edit_50 : decode cX8_edit 50 = .ok (.ireturn, 1) := by decide +kernel
theorem dX8_edit_51 : decode cX8_edit 51 = .ok (.aload_n 3, 1) := by decide +kernel
theorem dX8_edit_52 : decode cX8_edit 52 = .ok (.iload_n 2, 1) := by decide +kernel
theorem dX8_edit_53 : decode cX8_edit 53 = .ok (.putfield 109, 3) := by decide +kernel
theorem dX8_edit_56 : decode cX8_edit 56 = .ok (.aload_n 0, 1) := by decide +kernel
theorem dX8_edit_57 : decode cX8_edit 57 = .ok (.getfield 10, 3) := by decide +kernel
theorem dX8_edit_60 : decode cX8_edit 60 = .ok (.iload_n 1, 1) := by decide +kernel
theorem dX8_edit_61 : decode cX8_edit 61 = .ok (.iload_n 2, 1) := by decide +kernel
theorem dX8_edit_62 : decode cX8_edit 62 = .ok (.invokevirtual 112, 3) := by decide +kernel
theorem dX8_edit_65 : decode cX8_edit 65 = .ok (.ireturn, 1) := by decide +kernel
theorem dX8_wanted_0 : decode cX8_wanted 0 = .ok (.aload_n 0, 1) := by decide +kernel
theorem dX8_wanted_1 : decode cX8_wanted 1 = .ok (.getfield 10, 3) := by decide +kernel
theorem dX8_wanted_4 : decode cX8_wanted 4 = .ok (.iload_n 1, 1) := by decide +kernel
theorem dX8_wanted_5 : decode cX8_wanted 5 = .ok (.iload_n 2, 1) := by decide +kernel
theorem dX8_wanted_6 : decode cX8_wanted 6 = .ok (.invokevirtual 116, 3) := by decide +kernel
theorem dX8_wanted_9 : decode cX8_wanted 9 = .ok (.ireturn, 1) := by decide +kernel
theorem dX8_tell_0 : decode cX8_tell 0 = .ok (.aload_n 0, 1) := by decide +kernel
theorem dX8_tell_1 : decode cX8_tell 1 = .ok (.getfield 10, 3) := by decide +kernel
theorem dX8_tell_4 : decode cX8_tell 4 = .ok (.iload_n 1, 1) := by decide +kernel
theorem dX8_tell_5 : decode cX8_tell 5 = .ok (.invokevirtual 80, 3) := by decide +kernel
theorem dX8_tell_8 : decode cX8_tell 8 = .ok (.astore 4, 2) := by decide +kernel
theorem dX8_tell_10 : decode cX8_tell 10 = .ok (.aload 4, 2) := by decide +kernel
theorem dX8_tell_12 : decode cX8_tell 12 = .ok (.ifnull 28, 3) := by decide +kernel
theorem dX8_tell_15 : decode cX8_tell 15 = .ok (.iload_n 2, 1) := by decide +kernel
theorem dX8_tell_16 : decode cX8_tell 16 = .ok (.ifCond .lt 24, 3) := by decide +kernel
theorem dX8_tell_19 : decode cX8_tell 19 = .ok (.iload_n 2, 1) := by decide +kernel
theorem dX8_tell_20 : decode cX8_tell 20 = .ok (.getstatic 119, 3) := by decide +kernel
theorem dX8_tell_23 : decode cX8_tell 23 = .ok (.arraylength, 1) := by decide +kernel
theorem dX8_tell_24 : decode cX8_tell 24 = .ok (.if_icmp .ge 16, 3) := by decide +kernel
theorem dX8_tell_27 : decode cX8_tell 27 = .ok (.iload_n 3, 1) := by decide +kernel
theorem dX8_tell_28 : decode cX8_tell 28 = .ok (.ifCond .lt 12, 3) := by decide +kernel
theorem dX8_tell_31 : decode cX8_tell 31 = .ok (.iload_n 3, 1) := by decide +kernel
theorem dX8_tell_32 : decode cX8_tell 32 = .ok (.getstatic 119, 3) := by decide +kernel
theorem dX8_tell_35 : decode cX8_tell 35 = .ok (.iload_n 2, 1) := by decide +kernel
theorem dX8_tell_36 : decode cX8_tell 36 = .ok (.iaload, 1) := by decide +kernel
theorem dX8_tell_37 : decode cX8_tell 37 = .ok (.if_icmp .le 5, 3) := by decide +kernel
theorem dX8_tell_40 : decode cX8_tell 40 = .ok (.iconst (-1), 1) := by decide +kernel
theorem dX8_tell_41 : decode cX8_tell 41 = .ok (.ireturn, 1) := by decide +kernel
theorem dX8_tell_42 : decode cX8_tell 42 = .ok (.aload 4, 2) := by decide +kernel
theorem dX8_tell_44 : decode cX8_tell 44 = .ok (.getfield 122, 3) := by decide +kernel
theorem dX8_tell_47 : decode cX8_tell 47 = .ok (.iload_n 2, 1) := by decide +kernel
theorem dX8_tell_48 : decode cX8_tell 48 = .ok (.iaload, 1) := by decide +kernel
theorem dX8_tell_49 : decode cX8_tell 49 = .ok (.istore 5, 2) := by decide +kernel
theorem dX8_tell_51 : decode cX8_tell 51 = .ok (.aload 4, 2) := by decide +kernel
theorem dX8_tell_53 : decode cX8_tell 53 = .ok (.getfield 122, 3) := by decide +kernel
theorem dX8_tell_56 : decode cX8_tell 56 = .ok (.iload_n 2, 1) := by decide +kernel
theorem dX8_tell_57 : decode cX8_tell 57 = .ok (.iload_n 3, 1) := by decide +kernel
theorem dX8_tell_58 : decode cX8_tell 58 = .ok (.iastore, 1) := by decide +kernel
theorem dX8_tell_59 : decode cX8_tell 59 = .ok (.aload_n 0, 1) := by decide +kernel
theorem dX8_tell_60 : decode cX8_tell 60 = .ok (.invokevirtual 125, 3) := by decide +kernel
theorem dX8_tell_63 : decode cX8_tell 63 = .ok (.ifCond .ne 15, 3) := by decide +kernel
theorem dX8_tell_66 : decode cX8_tell 66 = .ok (.aload 4, 2) := by decide +kernel
theorem dX8_tell_68 : decode cX8_tell 68 = .ok (.getfield 122, 3) := by decide +kernel
theorem dX8_tell_71 : decode cX8_tell 71 = .ok (.iload_n 2, 1) := by decide +kernel
theorem dX8_tell_72 : decode cX8_tell 72 = .ok (.iload 5, 2) := by decide +kernel
theorem dX8_tell_74 : decode cX8_tell 74 = .ok (.iastore, 1) := by decide +kernel
theorem dX8_tell_75 : decode cX8_tell 75 = .ok (.bipush (-15), 2) := by decide +kernel
theorem dX8_tell_77 : decode cX8_tell 77 = .ok (.ireturn, 1) := by decide +kernel
theorem dX8_tell_78 : decode cX8_tell 78 = .ok (.iload 5, 2) := by decide +kernel
theorem dX8_tell_80 : decode cX8_tell 80 = .ok (.ireturn, 1) := by decide +kernel
theorem dX8_lay_0 : decode cX8_lay 0 = .ok (.aload_n 0, 1) := by decide +kernel
theorem dX8_lay_1 : decode cX8_lay 1 = .ok (.getfield 10, 3) := by decide +kernel
theorem dX8_lay_4 : decode cX8_lay 4 = .ok (.iload_n 1, 1) := by decide +kernel
theorem dX8_lay_5 : decode cX8_lay 5 = .ok (.invokevirtual 80, 3) := by decide +kernel
theorem dX8_lay_8 : decode cX8_lay 8 = .ok (.astore_n 2, 1) := by decide +kernel
theorem dX8_lay_9 : decode cX8_lay 9 = .ok (.aload_n 2, 1) := by decide +kernel
theorem dX8_lay_10 : decode cX8_lay 10 = .ok (.ifnonnull 5, 3) := by decide +kernel
theorem dX8_lay_13 : decode cX8_lay 13 = .ok (.iconst (-1), 1) := by decide +kernel
theorem dX8_lay_14 : decode cX8_lay 14 = .ok (.ireturn, 1) := by decide +kernel
theorem dX8_lay_15 : decode cX8_lay 15 = .ok (.aload_n 0, 1) := by decide +kernel
theorem dX8_lay_16 : decode cX8_lay 16 = .ok (.iload_n 1, 1) := by decide +kernel
theorem dX8_lay_17 : decode cX8_lay 17 = .ok (.aload_n 2, 1) := by decide +kernel
theorem dX8_lay_18 : decode cX8_lay 18 = .ok (.invokevirtual 128, 3) := by decide +kernel
theorem dX8_lay_21 : decode cX8_lay 21 = .ok (.istore_n 3, 1) := by decide +kernel
theorem dX8_lay_22 : decode cX8_lay 22 = .ok (.iload_n 3, 1) := by decide +kernel
theorem dX8_lay_23 : decode cX8_lay 23 = .ok (.ifCond .eq 8, 3) := by decide +kernel
theorem dX8_lay_26 : decode cX8_lay 26 = .ok (.bipush (-10), 2) := by decide +kernel
theorem dX8_lay_28 : decode cX8_lay 28 = .ok (.iload_n 3, 1) := by decide +kernel
theorem dX8_lay_29 : decode cX8_lay 29 = .ok (.isub, 1) := by decide +kernel
theorem dX8_lay_30 : decode cX8_lay 30 = .ok (.ireturn, 1) := by decide +kernel
theorem dX8_lay_31 : decode cX8_lay 31 = .ok (.aload_n 0, 1) := by decide +kernel
theorem dX8_lay_32 : decode cX8_lay 32 = .ok (.iload_n 1, 1) := by decide +kernel
theorem dX8_lay_33 : decode cX8_lay 33 = .ok (.aload_n 2, 1) := by decide +kernel
theorem dX8_lay_34 : decode cX8_lay 34 = .ok (.invokevirtual 132, 3) := by decide +kernel
theorem dX8_lay_37 : decode cX8_lay 37 = .ok (.aload_n 2, 1) := by decide +kernel
theorem dX8_lay_38 : decode cX8_lay 38 = .ok (.aload_n 0, 1) := by decide +kernel
theorem dX8_lay_39 : decode cX8_lay 39 = .ok (.getfield 26, 3) := by decide +kernel
theorem dX8_lay_42 : decode cX8_lay 42 = .ok (.getfield 136, 3) := by decide +kernel
theorem dX8_lay_45 : decode cX8_lay 45 = .ok (.invokevirtual 139, 3) := by decide +kernel
theorem dX8_lay_48 : decode cX8_lay 48 = .ok (.aload_n 0, 1) := by decide +kernel
theorem dX8_lay_49 : decode cX8_lay 49 = .ok (.dup, 1) := by decide +kernel
theorem dX8_lay_50 : decode cX8_lay 50 = .ok (.getfield 143, 3) := by decide +kernel
theorem dX8_lay_53 : decode cX8_lay 53 = .ok (.iconst 1, 1) := by decide +kernel
theorem dX8_lay_54 : decode cX8_lay 54 = .ok (.iadd, 1) := by decide +kernel
theorem dX8_lay_55 : decode cX8_lay 55 = .ok (.putfield 143, 3) := by decide +kernel
theorem dX8_lay_58 : decode cX8_lay 58 = .ok (.aload_n 2, 1) := by decide +kernel
theorem dX8_lay_59 : decode cX8_lay 59 = .ok (.getfield 146, 3) := by decide +kernel
theorem dX8_lay_62 : decode cX8_lay 62 = .ok (.ireturn, 1) := by decide +kernel
theorem dX8_may_0 : decode cX8_may 0 = .ok (.aload_n 0, 1) := by decide +kernel
theorem dX8_may_1 : decode cX8_may 1 = .ok (.getfield 10, 3) := by decide +kernel
theorem dX8_may_4 : decode cX8_may 4 = .ok (.iload_n 1, 1) := by decide +kernel
theorem dX8_may_5 : decode cX8_may 5 = .ok (.invokevirtual 80, 3) := by decide +kernel
theorem dX8_may_8 : decode cX8_may 8 = .ok (.astore_n 2, 1) := by decide +kernel
theorem dX8_may_9 : decode cX8_may 9 = .ok (.aload_n 2, 1) := by decide +kernel
theorem dX8_may_10 : decode cX8_may 10 = .ok (.ifnonnull 7, 3) := by decide +kernel
theorem dX8_may_13 : decode cX8_may 13 = .ok (.iconst (-1), 1) := by decide +kernel
theorem dX8_may_14 : decode cX8_may 14 = .ok (.goto 9, 3) := by decide +kernel
theorem dX8_may_17 : decode cX8_may 17 = .ok (.aload_n 0, 1) := by decide +kernel
theorem dX8_may_18 : decode cX8_may 18 = .ok (.iload_n 1, 1) := by decide +kernel
theorem dX8_may_19 : decode cX8_may 19 = .ok (.aload_n 2, 1) := by decide +kernel
theorem dX8_may_20 : decode cX8_may 20 = .ok (.invokevirtual 128, 3) := by decide +kernel
theorem dX8_may_23 : decode cX8_may 23 = .ok (.ireturn, 1) := by decide +kernel
theorem dX8_falls_0 : decode cX8_falls 0 = .ok (.aload_n 0, 1) := by decide +kernel
theorem dX8_falls_1 : decode cX8_falls 1 = .ok (.getfield 10, 3) := by decide +kernel
theorem dX8_falls_4 : decode cX8_falls 4 = .ok (.iload_n 1, 1) := by decide +kernel
theorem dX8_falls_5 : decode cX8_falls 5 = .ok (.invokevirtual 80, 3) := by decide +kernel
theorem dX8_falls_8 : decode cX8_falls 8 = .ok (.astore_n 2, 1) := by decide +kernel
theorem dX8_falls_9 : decode cX8_falls 9 = .ok (.aload_n 2, 1) := by decide +kernel
theorem dX8_falls_10 : decode cX8_falls 10 = .ok (.ifnonnull 7, 3) := by decide +kernel
theorem dX8_falls_13 : decode cX8_falls 13 = .ok (.iconst (-1), 1) := by decide +kernel
theorem dX8_falls_14 : decode cX8_falls 14 = .ok (.goto 8, 3) := by decide +kernel
theorem dX8_falls_17 : decode cX8_falls 17 = .ok (.aload_n 0, 1) := by decide +kernel
theorem dX8_falls_18 : decode cX8_falls 18 = .ok (.aload_n 2, 1) := by decide +kernel
theorem dX8_falls_19 : decode cX8_falls 19 = .ok (.invokevirtual 149, 3) := by decide +kernel
theorem dX8_falls_22 : decode cX8_falls 22 = .ok (.ireturn, 1) := by decide +kernel
theorem dX8_strike_0 : decode cX8_strike 0 = .ok (.aload_n 0, 1) := by decide +kernel
theorem dX8_strike_1 : decode cX8_strike 1 = .ok (.getfield 10, 3) := by decide +kernel
theorem dX8_strike_4 : decode cX8_strike 4 = .ok (.iload_n 1, 1) := by decide +kernel
theorem dX8_strike_5 : decode cX8_strike 5 = .ok (.invokevirtual 80, 3) := by decide +kernel
theorem dX8_strike_8 : decode cX8_strike 8 = .ok (.astore_n 2, 1) := by decide +kernel
theorem dX8_strike_9 : decode cX8_strike 9 = .ok (.aload_n 2, 1) := by decide +kernel
theorem dX8_strike_10 : decode cX8_strike 10 = .ok (.ifnonnull 5, 3) := by decide +kernel
theorem dX8_strike_13 : decode cX8_strike 13 = .ok (.iconst (-1), 1) := by decide +kernel
theorem dX8_strike_14 : decode cX8_strike 14 = .ok (.ireturn, 1) := by decide +kernel
theorem dX8_strike_15 : decode cX8_strike 15 = .ok (.aload_n 2, 1) := by decide +kernel
theorem dX8_strike_16 : decode cX8_strike 16 = .ok (.invokevirtual 152, 3) := by decide +kernel
theorem dX8_strike_19 : decode cX8_strike 19 = .ok (.ifCond .ne 6, 3) := by decide +kernel
theorem dX8_strike_22 : decode cX8_strike 22 = .ok (.bipush (-11), 2) := by decide +kernel
theorem dX8_strike_24 : decode cX8_strike 24 = .ok (.ireturn, 1) := by decide +kernel
theorem dX8_strike_25 : decode cX8_strike 25 = .ok (.aload_n 2, 1) := by decide +kernel
theorem dX8_strike_26 : decode cX8_strike 26 = .ok (.invokevirtual 155, 3) := by decide +kernel
theorem dX8_strike_29 : decode cX8_strike 29 = .ok (.ifCond .ne 6, 3) := by decide +kernel
theorem dX8_strike_32 : decode cX8_strike 32 = .ok (.bipush (-12), 2) := by decide +kernel
theorem dX8_strike_34 : decode cX8_strike 34 = .ok (.ireturn, 1) := by decide +kernel
theorem dX8_strike_35 : decode cX8_strike 35 = .ok (.aload_n 2, 1) := by decide +kernel
theorem dX8_strike_36 : decode cX8_strike 36 = .ok (.getfield 158, 3) := by decide +kernel
theorem dX8_strike_39 : decode cX8_strike 39 = .ok (.aload_n 2, 1) := by decide +kernel
theorem dX8_strike_40 : decode cX8_strike 40 = .ok (.getfield 122, 3) := by decide +kernel
theorem dX8_strike_43 : decode cX8_strike 43 = .ok (.iconst 3, 1) := by decide +kernel
theorem dX8_strike_44 : decode cX8_strike 44 = .ok (.iaload, 1) := by decide +kernel
theorem dX8_strike_45 : decode cX8_strike 45 = .ok (.if_icmp .ge 6, 3) := by decide +kernel
theorem dX8_strike_48 : decode cX8_strike 48 = .ok (.bipush (-13), 2) := by decide +kernel
theorem dX8_strike_50 : decode cX8_strike 50 = .ok (.ireturn, 1) := by decide +kernel
theorem dX8_strike_51 : decode cX8_strike 51 = .ok (.aload_n 2, 1) := by decide +kernel
theorem dX8_strike_52 : decode cX8_strike 52 = .ok (.iconst 1, 1) := by decide +kernel
theorem dX8_strike_53 : decode cX8_strike 53 = .ok (.putfield 161, 3) := by decide +kernel
theorem dX8_strike_56 : decode cX8_strike 56 = .ok (.aload_n 0, 1) := by decide +kernel
theorem dX8_strike_57 : decode cX8_strike 57 = .ok (.invokevirtual 125, 3) := by decide +kernel
theorem dX8_strike_60 : decode cX8_strike 60 = .ok (.ifCond .ne 11, 3) := by decide +kernel
theorem dX8_strike_63 : decode cX8_strike 63 = .ok (.aload_n 2, 1) := by decide +kernel
theorem dX8_strike_64 : decode cX8_strike 64 = .ok (.iconst 0, 1) := by decide +kernel
theorem dX8_strike_65 : decode cX8_strike 65 = .ok (.putfield 161, 3) := by decide +kernel
theorem dX8_strike_68 : decode cX8_strike 68 = .ok (.bipush (-15), 2) := by decide +kernel
theorem dX8_strike_70 : decode cX8_strike 70 = .ok (.ireturn, 1) := by decide +kernel
theorem dX8_strike_71 : decode cX8_strike 71 = .ok (.iconst 1, 1) := by decide +kernel
theorem dX8_strike_72 : decode cX8_strike 72 = .ok (.ireturn, 1) := by decide +kernel
theorem dX8_prop_0 : decode cX8_prop 0 = .ok (.aload_n 0, 1) := by decide +kernel
theorem dX8_prop_1 : decode cX8_prop 1 = .ok (.getfield 10, 3) := by decide +kernel
theorem dX8_prop_4 : decode cX8_prop 4 = .ok (.iload_n 1, 1) := by decide +kernel
theorem dX8_prop_5 : decode cX8_prop 5 = .ok (.invokevirtual 80, 3) := by decide +kernel
theorem dX8_prop_8 : decode cX8_prop 8 = .ok (.astore_n 3, 1) := by decide +kernel
theorem dX8_prop_9 : decode cX8_prop 9 = .ok (.aload_n 3, 1) := by decide +kernel
theorem dX8_prop_10 : decode cX8_prop 10 = .ok (.ifnull 13, 3) := by decide +kernel
theorem dX8_prop_13 : decode cX8_prop 13 = .ok (.iload_n 2, 1) := by decide +kernel
theorem dX8_prop_14 : decode cX8_prop 14 = .ok (.ifCond .lt 9, 3) := by decide +kernel
theorem dX8_prop_17 : decode cX8_prop 17 = .ok (.iload_n 2, 1) := by decide +kernel
theorem dX8_prop_18 : decode cX8_prop 18 = .ok (.ldc 165, 2) := by decide +kernel
theorem dX8_prop_20 : decode cX8_prop 20 = .ok (.if_icmp .le 5, 3) := by decide +kernel
theorem dX8_prop_23 : decode cX8_prop 23 = .ok (.iconst (-1), 1) := by decide +kernel
theorem dX8_prop_24 : decode cX8_prop 24 = .ok (.ireturn, 1) := by decide +kernel
theorem dX8_prop_25 : decode cX8_prop 25 = .ok (.aload_n 3, 1) := by decide +kernel
theorem dX8_prop_26 : decode cX8_prop 26 = .ok (.getfield 166, 3) := by decide +kernel
theorem dX8_prop_29 : decode cX8_prop 29 = .ok (.istore 4, 2) := by decide +kernel
theorem dX8_prop_31 : decode cX8_prop 31 = .ok (.aload_n 3, 1) := by decide +kernel
theorem dX8_prop_32 : decode cX8_prop 32 = .ok (.iload_n 2, 1) := by decide +kernel
theorem dX8_prop_33 : decode cX8_prop 33 = .ok (.putfield 166, 3) := by decide +kernel
theorem dX8_prop_36 : decode cX8_prop 36 = .ok (.aload_n 0, 1) := by decide +kernel
theorem dX8_prop_37 : decode cX8_prop 37 = .ok (.invokevirtual 125, 3) := by decide +kernel
theorem dX8_prop_40 : decode cX8_prop 40 = .ok (.ifCond .ne 12, 3) := by decide +kernel
theorem dX8_prop_43 : decode cX8_prop 43 = .ok (.aload_n 3, 1) := by decide +kernel
theorem dX8_prop_44 : decode cX8_prop 44 = .ok (.iload 4, 2) := by decide +kernel
theorem dX8_prop_46 : decode cX8_prop 46 = .ok (.putfield 166, 3) := by decide +kernel
theorem dX8_prop_49 : decode cX8_prop 49 = .ok (.bipush (-15), 2) := by decide +kernel
theorem dX8_prop_51 : decode cX8_prop 51 = .ok (.ireturn, 1) := by decide +kernel
theorem dX8_prop_52 : decode cX8_prop 52 = .ok (.iload 4, 2) := by decide +kernel
theorem dX8_prop_54 : decode cX8_prop 54 = .ok (.ireturn, 1) := by decide +kernel
theorem dX8_month_0 : decode cX8_month 0 = .ok (.iload_n 1, 1) := by decide +kernel
theorem dX8_month_1 : decode cX8_month 1 = .ok (.iconst 1, 1) := by decide +kernel
theorem dX8_month_2 : decode cX8_month 2 = .ok (.if_icmp .lt 24, 3) := by decide +kernel
theorem dX8_month_5 : decode cX8_month 5 = .ok (.iload_n 1, 1) := by decide +kernel
theorem dX8_month_6 : decode cX8_month 6 = .ok (.bipush 100, 2) := by decide +kernel
theorem dX8_month_8 : decode cX8_month 8 = .ok (.if_icmp .gt 18, 3) := by decide +kernel
theorem dX8_month_11 : decode cX8_month 11 = .ok (.iload_n 1, 1) := by decide +kernel
theorem dX8_month_12 : decode cX8_month 12 = .ok (.sipush 1200, 3) := by decide +kernel
theorem dX8_month_15 : decode cX8_month 15 = .ok (.aload_n 0, 1) := by decide +kernel
theorem dX8_month_16 : decode cX8_month 16 = .ok (.getfield 26, 3) := by decide +kernel
theorem dX8_month_19 : decode cX8_month 19 = .ok (.getfield 136, 3) := by decide +kernel
theorem dX8_month_22 : decode cX8_month 22 = .ok (.isub, 1) := by decide +kernel
theorem dX8_month_23 : decode cX8_month 23 = .ok (.if_icmp .le 5, 3) := by decide +kernel
theorem dX8_month_26 : decode cX8_month 26 = .ok (.iconst (-1), 1) := by decide +kernel
theorem dX8_month_27 : decode cX8_month 27 = .ok (.ireturn, 1) := by decide +kernel
theorem dX8_month_28 : decode cX8_month 28 = .ok (.aload_n 0, 1) := by decide +kernel
theorem dX8_month_29 : decode cX8_month 29 = .ok (.getfield 10, 3) := by decide +kernel
theorem dX8_month_32 : decode cX8_month 32 = .ok (.aload_n 0, 1) := by decide +kernel
theorem dX8_month_33 : decode cX8_month 33 = .ok (.getfield 26, 3) := by decide +kernel
theorem dX8_month_36 : decode cX8_month 36 = .ok (.iload_n 1, 1) := by decide +kernel
theorem dX8_month_37 : decode cX8_month 37 = .ok (.invokevirtual 169, 3) := by decide +kernel
theorem dX8_month_40 : decode cX8_month 40 = .ok (.invokevirtual 173, 3) := by decide +kernel
theorem dX8_month_43 : decode cX8_month 43 = .ok (.aload_n 0, 1) := by decide +kernel
theorem dX8_month_44 : decode cX8_month 44 = .ok (.iconst 0, 1) := by decide +kernel
theorem dX8_month_45 : decode cX8_month 45 = .ok (.putfield 143, 3) := by decide +kernel
theorem dX8_month_48 : decode cX8_month 48 = .ok (.aload_n 0, 1) := by decide +kernel
theorem dX8_month_49 : decode cX8_month 49 = .ok (.getfield 26, 3) := by decide +kernel
theorem dX8_month_52 : decode cX8_month 52 = .ok (.getfield 136, 3) := by decide +kernel
theorem dX8_month_55 : decode cX8_month 55 = .ok (.ireturn, 1) := by decide +kernel
theorem dX8_frost_0 : decode cX8_frost 0 = .ok (.iload_n 1, 1) := by decide +kernel
theorem dX8_frost_1 : decode cX8_frost 1 = .ok (.ifCond .lt 10, 3) := by decide +kernel
theorem dX8_frost_4 : decode cX8_frost 4 = .ok (.iload_n 1, 1) := by decide +kernel
theorem dX8_frost_5 : decode cX8_frost 5 = .ok (.sipush 4096, 3) := by decide +kernel
theorem dX8_frost_8 : decode cX8_frost 8 = .ok (.if_icmp .lt 5, 3) := by decide +kernel
theorem dX8_frost_11 : decode cX8_frost 11 = .ok (.iconst (-1), 1) := by decide +kernel
theorem dX8_frost_12 : decode cX8_frost 12 = .ok (.ireturn, 1) := by decide +kernel
theorem dX8_frost_13 : decode cX8_frost 13 = .ok (.aload_n 0, 1) := by decide +kernel
theorem dX8_frost_14 : decode cX8_frost 14 = .ok (.getfield 26, 3) := by decide +kernel
theorem dX8_frost_17 : decode cX8_frost 17 = .ok (.getfield 176, 3) := by decide +kernel
theorem dX8_frost_20 : decode cX8_frost 20 = .ok (.istore_n 2, 1) := by decide +kernel
theorem dX8_frost_21 : decode cX8_frost 21 = .ok (.aload_n 0, 1) := by decide +kernel
theorem dX8_frost_22 : decode cX8_frost 22 = .ok (.getfield 26, 3) := by decide +kernel
theorem dX8_frost_25 : decode cX8_frost 25 = .ok (.iload_n 1, 1) := by decide +kernel
theorem dX8_frost_26 : decode cX8_frost 26 = .ok (.putfield 176, 3) := by decide +kernel
theorem dX8_frost_29 : decode cX8_frost 29 = .ok (.iload_n 2, 1) := by decide +kernel
theorem dX8_frost_30 : decode cX8_frost 30 = .ok (.ireturn, 1) := by decide +kernel
theorem dX8_bitter_0 : decode cX8_bitter 0 = .ok (.aload_n 0, 1) := by decide +kernel
theorem dX8_bitter_1 : decode cX8_bitter 1 = .ok (.getfield 26, 3) := by decide +kernel
theorem dX8_bitter_4 : decode cX8_bitter 4 = .ok (.iload_n 1, 1) := by decide +kernel
theorem dX8_bitter_5 : decode cX8_bitter 5 = .ok (.invokevirtual 179, 3) := by decide +kernel
theorem dX8_bitter_8 : decode cX8_bitter 8 = .ok (.ifCond .ne 5, 3) := by decide +kernel
theorem dX8_bitter_11 : decode cX8_bitter 11 = .ok (.iconst (-1), 1) := by decide +kernel
theorem dX8_bitter_12 : decode cX8_bitter 12 = .ok (.ireturn, 1) := by decide +kernel
theorem dX8_bitter_13 : decode cX8_bitter 13 = .ok (.aload_n 0, 1) := by decide +kernel
theorem dX8_bitter_14 : decode cX8_bitter 14 = .ok (.getfield 26, 3) := by decide +kernel
theorem dX8_bitter_17 : decode cX8_bitter 17 = .ok (.iload_n 1, 1) := by decide +kernel
theorem dX8_bitter_18 : decode cX8_bitter 18 = .ok (.invokevirtual 183, 3) := by decide +kernel
theorem dX8_bitter_21 : decode cX8_bitter 21 = .ok (.ifCond .eq 7, 3) := by decide +kernel
theorem dX8_bitter_24 : decode cX8_bitter 24 = .ok (.iconst 1, 1) := by decide +kernel
theorem dX8_bitter_25 : decode cX8_bitter 25 = .ok (.goto 4, 3) := by decide +kernel
theorem dX8_bitter_28 : decode cX8_bitter 28 = .ok (.iconst 0, 1) := by decide +kernel
theorem dX8_bitter_29 : decode cX8_bitter 29 = .ok (.ireturn, 1) := by decide +kernel
theorem dX8_feed_0 : decode cX8_feed 0 = .ok (.iload_n 1, 1) := by decide +kernel
theorem dX8_feed_1 : decode cX8_feed 1 = .ok (.iconst 1, 1) := by decide +kernel
theorem dX8_feed_2 : decode cX8_feed 2 = .ok (.if_icmp .lt 8, 3) := by decide +kernel
theorem dX8_feed_5 : decode cX8_feed 5 = .ok (.iload_n 1, 1) := by decide +kernel
theorem dX8_feed_6 : decode cX8_feed 6 = .ok (.iconst 4, 1) := by decide +kernel
theorem dX8_feed_7 : decode cX8_feed 7 = .ok (.if_icmp .le 5, 3) := by decide +kernel
theorem dX8_feed_10 : decode cX8_feed 10 = .ok (.iconst (-1), 1) := by decide +kernel
theorem dX8_feed_11 : decode cX8_feed 11 = .ok (.ireturn, 1) := by decide +kernel
theorem dX8_feed_12 : decode cX8_feed 12 = .ok (.iload_n 1, 1) := by decide +kernel
theorem dX8_feed_13 : decode cX8_feed 13 = .ok (.bipush 100, 2) := by decide +kernel
theorem dX8_feed_15 : decode cX8_feed 15 = .ok (.aload_n 0, 1) := by decide +kernel
theorem dX8_feed_16 : decode cX8_feed 16 = .ok (.getfield 33, 3) := by decide +kernel
theorem dX8_feed_19 : decode cX8_feed 19 = .ok (.getfield 186, 3) := by decide +kernel
theorem dX8_feed_22 : decode cX8_feed 22 = .ok (.isub, 1) := by decide +kernel
theorem dX8_feed_23 : decode cX8_feed 23 = .ok (.if_icmp .le 6, 3) := by decide +kernel
theorem dX8_feed_26 : decode cX8_feed 26 = .ok (.bipush (-3), 2) := by decide +kernel
theorem dX8_feed_28 : decode cX8_feed 28 = .ok (.ireturn, 1) := by decide +kernel
theorem dX8_feed_29 : decode cX8_feed 29 = .ok (.aload_n 0, 1) := by decide +kernel
theorem dX8_feed_30 : decode cX8_feed 30 = .ok (.getfield 33, 3) := by decide +kernel
theorem dX8_feed_33 : decode cX8_feed 33 = .ok (.iload_n 1, 1) := by decide +kernel
theorem dX8_feed_34 : decode cX8_feed 34 = .ok (.iload_n 2, 1) := by decide +kernel
theorem dX8_feed_35 : decode cX8_feed 35 = .ok (.invokevirtual 189, 3) := by decide +kernel
theorem dX8_feed_38 : decode cX8_feed 38 = .ok (.aload_n 0, 1) := by decide +kernel
theorem dX8_feed_39 : decode cX8_feed 39 = .ok (.getfield 33, 3) := by decide +kernel
theorem dX8_feed_42 : decode cX8_feed 42 = .ok (.getfield 186, 3) := by decide +kernel
theorem dX8_feed_45 : decode cX8_feed 45 = .ok (.ireturn, 1) := by decide +kernel
theorem dX8_gift_0 : decode cX8_gift 0 = .ok (.iload_n 1, 1) := by decide +kernel
theorem dX8_gift_1 : decode cX8_gift 1 = .ok (.iconst 1, 1) := by decide +kernel
theorem dX8_gift_2 : decode cX8_gift 2 = .ok (.if_icmp .lt 9, 3) := by decide +kernel
theorem dX8_gift_5 : decode cX8_gift 5 = .ok (.iload_n 1, 1) := by decide +kernel
theorem dX8_gift_6 : decode cX8_gift 6 = .ok (.ldc 193, 2) := by decide +kernel
theorem dX8_gift_8 : decode cX8_gift 8 = .ok (.if_icmp .le 5, 3) := by decide +kernel
theorem dX8_gift_11 : decode cX8_gift 11 = .ok (.iconst (-1), 1) := by decide +kernel
theorem dX8_gift_12 : decode cX8_gift 12 = .ok (.ireturn, 1) := by decide +kernel
theorem dX8_gift_13 : decode cX8_gift 13 = .ok (.aload_n 0, 1) := by decide +kernel
theorem dX8_gift_14 : decode cX8_gift 14 = .ok (.getfield 194, 3) := by decide +kernel
theorem dX8_gift_17 : decode cX8_gift 17 = .ok (.bipush 30, 2) := by decide +kernel
theorem dX8_gift_19 : decode cX8_gift 19 = .ok (.if_icmp .lt 6, 3) := by decide +kernel
theorem dX8_gift_22 : decode cX8_gift 22 = .ok (.bipush (-3), 2) := by decide +kernel
theorem dX8_gift_24 : decode cX8_gift 24 = .ok (.ireturn, 1) := by decide +kernel
theorem dX8_gift_25 : decode cX8_gift 25 = .ok (.aconst_null, 1) := by decide +kernel
theorem dX8_gift_26 : decode cX8_gift 26 = .ok (.astore_n 2, 1) := by decide +kernel
theorem dX8_gift_27 : decode cX8_gift 27 = .ok (.aload_n 0, 1) := by decide +kernel
theorem dX8_gift_28 : decode cX8_gift 28 = .ok (.getfield 33, 3) := by decide +kernel
theorem dX8_gift_31 : decode cX8_gift 31 = .ok (.getfield 186, 3) := by decide +kernel
theorem dX8_gift_34 : decode cX8_gift 34 = .ok (.ifCond .le 37, 3) := by decide +kernel
theorem dX8_gift_37 : decode cX8_gift 37 = .ok (.aload_n 0, 1) := by decide +kernel
theorem dX8_gift_38 : decode cX8_gift 38 = .ok (.getfield 33, 3) := by decide +kernel
theorem dX8_gift_41 : decode cX8_gift 41 = .ok (.invokevirtual 197, 3) := by decide +kernel
theorem dX8_gift_44 : decode cX8_gift 44 = .ok (.istore_n 3, 1) := by decide +kernel
theorem dX8_gift_45 : decode cX8_gift 45 = .ok (.aload_n 0, 1) := by decide +kernel
theorem dX8_gift_46 : decode cX8_gift 46 = .ok (.getfield 33, 3) := by decide +kernel
theorem dX8_gift_49 : decode cX8_gift 49 = .ok (.iconst 0, 1) := by decide +kernel
theorem dX8_gift_50 : decode cX8_gift 50 = .ok (.putfield 186, 3) := by decide +kernel
theorem dX8_gift_53 : decode cX8_gift 53 = .ok (.iload_n 3, 1) := by decide +kernel
theorem dX8_gift_54 : decode cX8_gift 54 = .ok (.iconst (-1), 1) := by decide +kernel
theorem dX8_gift_55 : decode cX8_gift 55 = .ok (.if_icmp .eq 8, 3) := by decide +kernel
theorem dX8_gift_58 : decode cX8_gift 58 = .ok (.bipush (-100), 2) := by decide +kernel
theorem dX8_gift_60 : decode cX8_gift 60 = .ok (.iload_n 3, 1) := by decide +kernel
theorem dX8_gift_61 : decode cX8_gift 61 = .ok (.isub, 1) := by decide +kernel
theorem dX8_gift_62 : decode cX8_gift 62 = .ok (.ireturn, 1) := by decide +kernel
theorem dX8_gift_63 : decode cX8_gift 63 = .ok (.aload_n 0, 1) := by decide +kernel
theorem dX8_gift_64 : decode cX8_gift 64 = .ok (.getfield 33, 3) := by decide +kernel
theorem dX8_gift_67 : decode cX8_gift 67 = .ok (.invokevirtual 201, 3) := by decide +kernel
theorem dX8_gift_70 : decode cX8_gift 70 = .ok (.astore_n 2, 1) := by decide +kernel
theorem dX8_gift_71 : decode cX8_gift 71 = .ok (.aload_n 0, 1) := by decide +kernel
theorem dX8_gift_72 : decode cX8_gift 72 = .ok (.getfield 46, 3) := by decide +kernel
theorem dX8_gift_75 : decode cX8_gift 75 = .ok (.aload_n 0, 1) := by decide +kernel
theorem dX8_gift_76 : decode cX8_gift 76 = .ok (.getfield 194, 3) := by decide +kernel
theorem dX8_gift_79 : decode cX8_gift 79 = .ok (.new 44, 3) := by decide +kernel
theorem dX8_gift_82 : decode cX8_gift 82 = .ok (.dup, 1) := by decide +kernel
theorem dX8_gift_83 : decode cX8_gift 83 = .ok (.iload_n 1, 1) := by decide +kernel
theorem dX8_gift_84 : decode cX8_gift 84 = .ok (.aload_n 2, 1) := by decide +kernel
theorem dX8_gift_85 : decode cX8_gift 85 = .ok (.invokespecial 205, 3) := by decide +kernel
theorem dX8_gift_88 : decode cX8_gift 88 = .ok (.aastore, 1) := by decide +kernel
theorem dX8_gift_89 : decode cX8_gift 89 = .ok (.aload_n 0, 1) := by decide +kernel
theorem dX8_gift_90 : decode cX8_gift 90 = .ok (.dup, 1) := by decide +kernel
theorem dX8_gift_91 : decode cX8_gift 91 = .ok (.getfield 194, 3) := by decide +kernel
theorem dX8_gift_94 : decode cX8_gift 94 = .ok (.iconst 1, 1) := by decide +kernel
theorem dX8_gift_95 : decode cX8_gift 95 = .ok (.iadd, 1) := by decide +kernel
theorem dX8_gift_96 : decode cX8_gift 96 = .ok (.putfield 194, 3) := by decide +kernel
theorem dX8_gift_99 : decode cX8_gift 99 = .ok (.aload_n 0, 1) := by decide +kernel
theorem dX8_gift_100 : decode cX8_gift 100 = .ok (.getfield 194, 3) := by decide +kernel
theorem dX8_gift_103 : decode cX8_gift 103 = .ok (.iconst 1, 1) := by decide +kernel
theorem dX8_gift_104 : decode cX8_gift 104 = .ok (.isub, 1) := by decide +kernel
theorem dX8_gift_105 : decode cX8_gift 105 = .ok (.ireturn, 1) := by decide +kernel
theorem dX8_statute_0 : decode cX8_statute 0 = .ok (.aload_n 0, 1) := by decide +kernel
theorem dX8_statute_1 : decode cX8_statute 1 = .ok (.getfield 26, 3) := by decide +kernel
theorem dX8_statute_4 : decode cX8_statute 4 = .ok (.iload_n 1, 1) := by decide +kernel
theorem dX8_statute_5 : decode cX8_statute 5 = .ok (.invokevirtual 179, 3) := by decide +kernel
theorem dX8_statute_8 : decode cX8_statute 8 = .ok (.ifCond .ne 5, 3) := by decide +kernel
theorem dX8_statute_11 : decode cX8_statute 11 = .ok (.iconst (-1), 1) := by decide +kernel
theorem dX8_statute_12 : decode cX8_statute 12 = .ok (.ireturn, 1) := by decide +kernel
theorem dX8_statute_13 : decode cX8_statute 13 = .ok (.aload_n 0, 1) := by decide +kernel
theorem dX8_statute_14 : decode cX8_statute 14 = .ok (.getfield 208, 3) := by decide +kernel
theorem dX8_statute_17 : decode cX8_statute 17 = .ok (.bipush 20, 2) := by decide +kernel
theorem dX8_statute_19 : decode cX8_statute 19 = .ok (.if_icmp .lt 6, 3) := by decide +kernel
theorem dX8_statute_22 : decode cX8_statute 22 = .ok (.bipush (-3), 2) := by decide +kernel
theorem dX8_statute_24 : decode cX8_statute 24 = .ok (.ireturn, 1) := by decide +kernel
theorem dX8_statute_25 : decode cX8_statute 25 = .ok (.aload_n 0, 1) := by decide +kernel
theorem dX8_statute_26 : decode cX8_statute 26 = .ok (.getfield 33, 3) := by decide +kernel
theorem dX8_statute_29 : decode cX8_statute 29 = .ok (.invokevirtual 197, 3) := by decide +kernel
theorem dX8_statute_32 : decode cX8_statute 32 = .ok (.istore_n 2, 1) := by decide +kernel
theorem dX8_statute_33 : decode cX8_statute 33 = .ok (.aload_n 0, 1) := by decide +kernel
theorem dX8_statute_34 : decode cX8_statute 34 = .ok (.getfield 33, 3) := by decide +kernel
theorem dX8_statute_37 : decode cX8_statute 37 = .ok (.iconst 0, 1) := by decide +kernel
theorem dX8_statute_38 : decode cX8_statute 38 = .ok (.putfield 186, 3) := by decide +kernel
theorem dX8_statute_41 : decode cX8_statute 41 = .ok (.iload_n 2, 1) := by decide +kernel
theorem dX8_statute_42 : decode cX8_statute 42 = .ok (.iconst (-1), 1) := by decide +kernel
theorem dX8_statute_43 : decode cX8_statute 43 = .ok (.if_icmp .eq 8, 3) := by decide +kernel
theorem dX8_statute_46 : decode cX8_statute 46 = .ok (.bipush (-100), 2) := by decide +kernel
theorem dX8_statute_48 : decode cX8_statute 48 = .ok (.iload_n 2, 1) := by decide +kernel
theorem dX8_statute_49 : decode cX8_statute 49 = .ok (.isub, 1) := by decide +kernel
theorem dX8_statute_50 : decode cX8_statute 50 = .ok (.ireturn, 1) := by decide +kernel
theorem dX8_statute_51 : decode cX8_statute 51 = .ok (.aload_n 0, 1) := by decide +kernel
theorem dX8_statute_52 : decode cX8_statute 52 = .ok (.getfield 52, 3) := by decide +kernel
theorem dX8_statute_55 : decode cX8_statute 55 = .ok (.aload_n 0, 1) := by decide +kernel
theorem dX8_statute_56 : decode cX8_statute 56 = .ok (.getfield 208, 3) := by decide +kernel
theorem dX8_statute_59 : decode cX8_statute 59 = .ok (.aload_n 0, 1) := by decide +kernel
theorem dX8_statute_60 : decode cX8_statute 60 = .ok (.getfield 33, 3) := by decide +kernel
theorem dX8_statute_63 : decode cX8_statute 63 = .ok (.invokevirtual 201, 3) := by decide +kernel
theorem dX8_statute_66 : decode cX8_statute 66 = .ok (.aastore, 1) := by decide +kernel
theorem dX8_statute_67 : decode cX8_statute 67 = .ok (.aload_n 0, 1) := by decide +kernel
theorem dX8_statute_68 : decode cX8_statute 68 = .ok (.getfield 56, 3) := by decide +kernel
theorem dX8_statute_71 : decode cX8_statute 71 = .ok (.aload_n 0, 1) := by decide +kernel
theorem dX8_statute_72 : decode cX8_statute 72 = .ok (.getfield 208, 3) := by decide +kernel
theorem dX8_statute_75 : decode cX8_statute 75 = .ok (.iload_n 1, 1) := by decide +kernel
theorem dX8_statute_76 : decode cX8_statute 76 = .ok (.iastore, 1) := by decide +kernel
theorem dX8_statute_77 : decode cX8_statute 77 = .ok (.aload_n 0, 1) := by decide +kernel
theorem dX8_statute_78 : decode cX8_statute 78 = .ok (.dup, 1) := by decide +kernel
theorem dX8_statute_79 : decode cX8_statute 79 = .ok (.getfield 208, 3) := by decide +kernel
theorem dX8_statute_82 : decode cX8_statute 82 = .ok (.iconst 1, 1) := by decide +kernel
theorem dX8_statute_83 : decode cX8_statute 83 = .ok (.iadd, 1) := by decide +kernel
theorem dX8_statute_84 : decode cX8_statute 84 = .ok (.putfield 208, 3) := by decide +kernel
theorem dX8_statute_87 : decode cX8_statute 87 = .ok (.aload_n 0, 1) := by decide +kernel
theorem dX8_statute_88 : decode cX8_statute 88 = .ok (.getfield 208, 3) := by decide +kernel
theorem dX8_statute_91 : decode cX8_statute 91 = .ok (.ireturn, 1) := by decide +kernel
theorem dX8_end_0 : decode cX8_end 0 = .ok (.aload_n 0, 1) := by decide +kernel
theorem dX8_end_1 : decode cX8_end 1 = .ok (.iload_n 1, 1) := by decide +kernel
theorem dX8_end_2 : decode cX8_end 2 = .ok (.invokevirtual 211, 3) := by decide +kernel
theorem dX8_end_5 : decode cX8_end 5 = .ok (.astore_n 3, 1) := by decide +kernel
theorem dX8_end_6 : decode cX8_end 6 = .ok (.aload_n 0, 1) := by decide +kernel
theorem dX8_end_7 : decode cX8_end 7 = .ok (.getfield 10, 3) := by decide +kernel
theorem dX8_end_10 : decode cX8_end 10 = .ok (.iload_n 2, 1) := by decide +kernel
theorem dX8_end_11 : decode cX8_end 11 = .ok (.invokevirtual 80, 3) := by decide +kernel
theorem dX8_end_14 : decode cX8_end 14 = .ok (.astore 4, 2) := by decide +kernel
theorem dX8_end_16 : decode cX8_end 16 = .ok (.aload_n 3, 1) := by decide +kernel
theorem dX8_end_17 : decode cX8_end 17 = .ok (.ifnull 8, 3) := by decide +kernel
theorem dX8_end_20 : decode cX8_end 20 = .ok (.aload 4, 2) := by decide +kernel
theorem dX8_end_22 : decode cX8_end 22 = .ok (.ifnonnull 6, 3) := by decide +kernel
theorem dX8_end_25 : decode cX8_end 25 = .ok (.ldc 215, 2) := by decide +kernel
theorem dX8_end_27 : decode cX8_end 27 = .ok (.ireturn, 1) := by decide +kernel
theorem dX8_end_28 : decode cX8_end 28 = .ok (.aload_n 0, 1) := by decide +kernel
theorem dX8_end_29 : decode cX8_end 29 = .ok (.invokevirtual 216, 3) := by decide +kernel
theorem dX8_end_32 : decode cX8_end 32 = .ok (.aload_n 0, 1) := by decide +kernel
theorem dX8_end_33 : decode cX8_end 33 = .ok (.getfield 40, 3) := by decide +kernel
theorem dX8_end_36 : decode cX8_end 36 = .ok (.iload_n 2, 1) := by decide +kernel
theorem dX8_end_37 : decode cX8_end 37 = .ok (.aload 4, 2) := by decide +kernel
theorem dX8_end_39 : decode cX8_end 39 = .ok (.invokevirtual 219, 3) := by decide +kernel
theorem dX8_end_42 : decode cX8_end 42 = .ok (.aload_n 0, 1) := by decide +kernel
theorem dX8_end_43 : decode cX8_end 43 = .ok (.getfield 40, 3) := by decide +kernel
theorem dX8_end_46 : decode cX8_end 46 = .ok (.aload_n 3, 1) := by decide +kernel
theorem dX8_end_47 : decode cX8_end 47 = .ok (.invokevirtual 222, 3) := by decide +kernel
theorem dX8_end_50 : decode cX8_end 50 = .ok (.ireturn, 1) := by decide +kernel
theorem dX8_about_0 : decode cX8_about 0 = .ok (.aload_n 0, 1) := by decide +kernel
theorem dX8_about_1 : decode cX8_about 1 = .ok (.getfield 10, 3) := by decide +kernel
theorem dX8_about_4 : decode cX8_about 4 = .ok (.iload_n 1, 1) := by decide +kernel
theorem dX8_about_5 : decode cX8_about 5 = .ok (.invokevirtual 80, 3) := by decide +kernel
theorem dX8_about_8 : decode cX8_about 8 = .ok (.astore_n 3, 1) := by decide +kernel
theorem dX8_about_9 : decode cX8_about 9 = .ok (.aload_n 3, 1) := by decide +kernel
theorem dX8_about_10 : decode cX8_about 10 = .ok (.ifnonnull 5, 3) := by decide +kernel
theorem dX8_about_13 : decode cX8_about 13 = .ok (.iconst (-1), 1) := by decide +kernel
theorem dX8_about_14 : decode cX8_about 14 = .ok (.ireturn, 1) := by decide +kernel
theorem dX8_about_15 : decode cX8_about 15 = .ok (.iload_n 2, 1) := by decide +kernel
theorem dX8_about_16 : decode cX8_about 16 = .ok (.tableswitch 159 0 12 #[68, 73, 78, 83, 89, 94, 107, 116, 130, 135, 140, 149, 154], 68) := by decide +kernel
theorem dX8_about_84 : decode cX8_about 84 = .ok (.aload_n 3, 1) := by decide +kernel
theorem dX8_about_85 : decode cX8_about 85 = .ok (.getfield 95, 3) := by decide +kernel
theorem dX8_about_88 : decode cX8_about 88 = .ok (.ireturn, 1) := by decide +kernel
theorem dX8_about_89 : decode cX8_about 89 = .ok (.aload_n 3, 1) := by decide +kernel
theorem dX8_about_90 : decode cX8_about 90 = .ok (.getfield 109, 3) := by decide +kernel
theorem dX8_about_93 : decode cX8_about 93 = .ok (.ireturn, 1) := by decide +kernel
theorem dX8_about_94 : decode cX8_about 94 = .ok (.aload_n 3, 1) := by decide +kernel
theorem dX8_about_95 : decode cX8_about 95 = .ok (.getfield 146, 3) := by decide +kernel
theorem dX8_about_98 : decode cX8_about 98 = .ok (.ireturn, 1) := by decide +kernel
theorem dX8_about_99 : decode cX8_about 99 = .ok (.aload_n 0, 1) := by decide +kernel
theorem dX8_about_100 : decode cX8_about 100 = .ok (.iload_n 1, 1) := by decide +kernel
theorem dX8_about_101 : decode cX8_about 101 = .ok (.invokevirtual 226, 3) := by decide +kernel
theorem dX8_about_104 : decode cX8_about 104 = .ok (.ireturn, 1) := by decide +kernel
theorem dX8_about_105 : decode cX8_about 105 = .ok (.aload_n 3, 1) := by decide +kernel
theorem dX8_about_106 : decode cX8_about 106 = .ok (.getfield 158, 3) := by decide +kernel
theorem dX8_about_109 : decode cX8_about 109 = .ok (.ireturn, 1) := by decide +kernel
theorem dX8_about_110 : decode cX8_about 110 = .ok (.aload_n 3, 1) := by decide +kernel
theorem dX8_about_111 : decode cX8_about 111 = .ok (.invokevirtual 152, 3) := by decide +kernel
theorem dX8_about_114 : decode cX8_about 114 = .ok (.ifCond .eq 7, 3) := by decide +kernel
theorem dX8_about_117 : decode cX8_about 117 = .ok (.iconst 1, 1) := by decide +kernel
theorem dX8_about_118 : decode cX8_about 118 = .ok (.goto 4, 3) := by decide +kernel
theorem dX8_about_121 : decode cX8_about 121 = .ok (.iconst 0, 1) := by decide +kernel
theorem dX8_about_122 : decode cX8_about 122 = .ok (.ireturn, 1) := by decide +kernel
theorem dX8_about_123 : decode cX8_about 123 = .ok (.aload_n 0, 1) := by decide +kernel
theorem dX8_about_124 : decode cX8_about 124 = .ok (.iload_n 1, 1) := by decide +kernel
theorem dX8_about_125 : decode cX8_about 125 = .ok (.invokevirtual 229, 3) := by decide +kernel
theorem dX8_about_128 : decode cX8_about 128 = .ok (.invokestatic 232, 3) := by decide +kernel
theorem dX8_about_131 : decode cX8_about 131 = .ok (.ireturn, 1) := by decide +kernel
theorem dX8_about_132 : decode cX8_about 132 = .ok (.aload_n 0, 1) := by decide +kernel
theorem dX8_about_133 : decode cX8_about 133 = .ok (.iload_n 1, 1) := by decide +kernel
theorem dX8_about_134 : decode cX8_about 134 = .ok (.invokevirtual 229, 3) := by decide +kernel
theorem dX8_about_137 : decode cX8_about 137 = .ok (.ifCond .le 7, 3) := by decide +kernel
theorem dX8_about_140 : decode cX8_about 140 = .ok (.iconst 1, 1) := by decide +kernel
theorem dX8_about_141 : decode cX8_about 141 = .ok (.goto 4, 3) := by decide +kernel
theorem dX8_about_144 : decode cX8_about 144 = .ok (.iconst 0, 1) := by decide +kernel
theorem dX8_about_145 : decode cX8_about 145 = .ok (.ireturn, 1) := by decide +kernel
theorem dX8_about_146 : decode cX8_about 146 = .ok (.aload_n 3, 1) := by decide +kernel
theorem dX8_about_147 : decode cX8_about 147 = .ok (.getfield 166, 3) := by decide +kernel
theorem dX8_about_150 : decode cX8_about 150 = .ok (.ireturn, 1) := by decide +kernel
theorem dX8_about_151 : decode cX8_about 151 = .ok (.aload_n 3, 1) := by decide +kernel
theorem dX8_about_152 : decode cX8_about 152 = .ok (.getfield 88, 3) := by decide +kernel
theorem dX8_about_155 : decode cX8_about 155 = .ok (.ireturn, 1) := by decide +kernel
theorem dX8_about_156 : decode cX8_about 156 = .ok (.aload_n 0, 1) := by decide +kernel
theorem dX8_about_157 : decode cX8_about 157 = .ok (.getfield 10, 3) := by decide +kernel
theorem dX8_about_160 : decode cX8_about 160 = .ok (.iload_n 1, 1) := by decide +kernel
theorem dX8_about_161 : decode cX8_about 161 = .ok (.invokevirtual 237, 3) := by decide +kernel
theorem dX8_about_164 : decode cX8_about 164 = .ok (.ireturn, 1) := by decide +kernel
theorem dX8_about_165 : decode cX8_about 165 = .ok (.aload_n 3, 1) := by decide +kernel
theorem dX8_about_166 : decode cX8_about 166 = .ok (.getfield 240, 3) := by decide +kernel
theorem dX8_about_169 : decode cX8_about 169 = .ok (.ireturn, 1) := by decide +kernel
theorem dX8_about_170 : decode cX8_about 170 = .ok (.aload_n 3, 1) := by decide +kernel
theorem dX8_about_171 : decode cX8_about 171 = .ok (.getfield 243, 3) := by decide +kernel
theorem dX8_about_174 : decode cX8_about 174 = .ok (.ireturn, 1) := by decide +kernel
theorem dX8_about_175 : decode cX8_about 175 = .ok (.iconst (-1), 1) := by decide +kernel
theorem dX8_about_176 : decode cX8_about 176 = .ok (.ireturn, 1) := by decide +kernel
theorem dX8_support_0 : decode cX8_support 0 = .ok (.aload_n 0, 1) := by decide +kernel
theorem dX8_support_1 : decode cX8_support 1 = .ok (.getfield 10, 3) := by decide +kernel
theorem dX8_support_4 : decode cX8_support 4 = .ok (.iload_n 1, 1) := by decide +kernel
theorem dX8_support_5 : decode cX8_support 5 = .ok (.invokevirtual 80, 3) := by decide +kernel
theorem dX8_support_8 : decode cX8_support 8 = .ok (.astore_n 3, 1) := by decide +kernel
theorem dX8_support_9 : decode cX8_support 9 = .ok (.aload_n 3, 1) := by decide +kernel
theorem dX8_support_10 : decode cX8_support 10 = .ok (.ifnull 15, 3) := by decide +kernel
theorem dX8_support_13 : decode cX8_support 13 = .ok (.iload_n 2, 1) := by decide +kernel
theorem dX8_support_14 : decode cX8_support 14 = .ok (.ifCond .lt 11, 3) := by decide +kernel
theorem dX8_support_17 : decode cX8_support 17 = .ok (.iload_n 2, 1) := by decide +kernel
theorem dX8_support_18 : decode cX8_support 18 = .ok (.aload_n 3, 1) := by decide +kernel
theorem dX8_support_19 : decode cX8_support 19 = .ok (.getfield 88, 3) := by decide +kernel
theorem dX8_support_22 : decode cX8_support 22 = .ok (.if_icmp .lt 5, 3) := by decide +kernel
theorem dX8_support_25 : decode cX8_support 25 = .ok (.iconst (-1), 1) := by decide +kernel
theorem dX8_support_26 : decode cX8_support 26 = .ok (.ireturn, 1) := by decide +kernel
theorem dX8_support_27 : decode cX8_support 27 = .ok (.bipush 100, 2) := by decide +kernel
theorem dX8_support_29 : decode cX8_support 29 = .ok (.aload_n 3, 1) := by decide +kernel
theorem dX8_support_30 : decode cX8_support 30 = .ok (.getfield 246, 3) := by decide +kernel
theorem dX8_support_33 : decode cX8_support 33 = .ok (.iload_n 2, 1) := by decide +kernel
theorem dX8_support_34 : decode cX8_support 34 = .ok (.iaload, 1) := by decide +kernel
theorem dX8_support_35 : decode cX8_support 35 = .ok (.imul, 1) := by decide +kernel
theorem dX8_support_36 : decode cX8_support 36 = .ok (.aload_n 3, 1) := by decide +kernel
theorem dX8_support_37 : decode cX8_support 37 = .ok (.getfield 249, 3) := by decide +kernel
theorem dX8_support_40 : decode cX8_support 40 = .ok (.iload_n 2, 1) := by decide +kernel
theorem dX8_support_41 : decode cX8_support 41 = .ok (.iaload, 1) := by decide +kernel
theorem dX8_support_42 : decode cX8_support 42 = .ok (.iadd, 1) := by decide +kernel
theorem dX8_support_43 : decode cX8_support 43 = .ok (.ireturn, 1) := by decide +kernel
theorem dX8_left_0 : decode cX8_left 0 = .ok (.aload_n 0, 1) := by decide +kernel
theorem dX8_left_1 : decode cX8_left 1 = .ok (.iload_n 1, 1) := by decide +kernel
theorem dX8_left_2 : decode cX8_left 2 = .ok (.invokevirtual 211, 3) := by decide +kernel
theorem dX8_left_5 : decode cX8_left 5 = .ok (.astore_n 3, 1) := by decide +kernel
theorem dX8_left_6 : decode cX8_left 6 = .ok (.aload_n 3, 1) := by decide +kernel
theorem dX8_left_7 : decode cX8_left 7 = .ok (.ifnull 12, 3) := by decide +kernel
theorem dX8_left_10 : decode cX8_left 10 = .ok (.iload_n 2, 1) := by decide +kernel
theorem dX8_left_11 : decode cX8_left 11 = .ok (.ifCond .lt 8, 3) := by decide +kernel
theorem dX8_left_14 : decode cX8_left 14 = .ok (.iload_n 2, 1) := by decide +kernel
theorem dX8_left_15 : decode cX8_left 15 = .ok (.iconst 1, 1) := by decide +kernel
theorem dX8_left_16 : decode cX8_left 16 = .ok (.if_icmp .le 5, 3) := by decide +kernel
theorem dX8_left_19 : decode cX8_left 19 = .ok (.iconst (-1), 1) := by decide +kernel
theorem dX8_left_20 : decode cX8_left 20 = .ok (.ireturn, 1) := by decide +kernel
theorem dX8_left_21 : decode cX8_left 21 = .ok (.iload_n 2, 1) := by decide +kernel
theorem dX8_left_22 : decode cX8_left 22 = .ok (.ifCond .ne 10, 3) := by decide +kernel
theorem dX8_left_25 : decode cX8_left 25 = .ok (.aload_n 3, 1) := by decide +kernel
theorem dX8_left_26 : decode cX8_left 26 = .ok (.getfield 252, 3) := by decide +kernel
theorem dX8_left_29 : decode cX8_left 29 = .ok (.goto 7, 3) := by decide +kernel
theorem dX8_left_32 : decode cX8_left 32 = .ok (.aload_n 3, 1) := by decide +kernel
theorem dX8_left_33 : decode cX8_left 33 = .ok (.getfield 255, 3) := by decide +kernel
theorem dX8_left_36 : decode cX8_left 36 = .ok (.ireturn, 1) := by decide +kernel
theorem dX8_work_0 : decode cX8_work 0 = .ok (.aload_n 0, 1) := by decide +kernel
theorem dX8_work_1 : decode cX8_work 1 = .ok (.invokevirtual 258, 3) := by decide +kernel
theorem dX8_work_4 : decode cX8_work 4 = .ok (.istore_n 1, 1) := by decide +kernel
theorem dX8_work_5 : decode cX8_work 5 = .ok (.iload_n 1, 1) := by decide +kernel
theorem dX8_work_6 : decode cX8_work 6 = .ok (.ifCond .ge 6, 3) := by decide +kernel
theorem dX8_work_9 : decode cX8_work 9 = .ok (.bipush 10, 2) := by decide +kernel
theorem dX8_work_11 : decode cX8_work 11 = .ok (.ireturn, 1) := by decide +kernel
theorem dX8_work_12 : decode cX8_work 12 = .ok (.aload_n 0, 1) := by decide +kernel
theorem dX8_work_13 : decode cX8_work 13 = .ok (.invokevirtual 216, 3) := by decide +kernel
theorem dX8_work_16 : decode cX8_work 16 = .ok (.aload_n 0, 1) := by decide +kernel
theorem dX8_work_17 : decode cX8_work 17 = .ok (.getfield 40, 3) := by decide +kernel
theorem dX8_work_20 : decode cX8_work 20 = .ok (.invokevirtual 261, 3) := by decide +kernel
theorem dX8_work_23 : decode cX8_work 23 = .ok (.iconst 0, 1) := by decide +kernel
theorem dX8_work_24 : decode cX8_work 24 = .ok (.aload_n 0, 1) := by decide +kernel
theorem dX8_work_25 : decode cX8_work 25 = .ok (.getfield 40, 3) := by decide +kernel
theorem dX8_work_28 : decode cX8_work 28 = .ok (.aload_n 0, 1) := by decide +kernel
theorem dX8_work_29 : decode cX8_work 29 = .ok (.getfield 52, 3) := by decide +kernel
theorem dX8_work_32 : decode cX8_work 32 = .ok (.iload_n 1, 1) := by decide +kernel
theorem dX8_work_33 : decode cX8_work 33 = .ok (.aaload, 1) := by decide +kernel
theorem dX8_work_34 : decode cX8_work 34 = .ok (.invokevirtual 264, 3) := by decide +kernel
theorem dX8_work_37 : decode cX8_work 37 = .ok (.invokestatic 268, 3) := by decide +kernel
theorem dX8_work_40 : decode cX8_work 40 = .ok (.ireturn, 1) := by decide +kernel
theorem dX8_as_0 : decode cX8_as 0 = .ok (.aload_n 0, 1) := by decide +kernel
theorem dX8_as_1 : decode cX8_as 1 = .ok (.getfield 10, 3) := by decide +kernel
theorem dX8_as_4 : decode cX8_as 4 = .ok (.iload_n 1, 1) := by decide +kernel
theorem dX8_as_5 : decode cX8_as 5 = .ok (.invokevirtual 80, 3) := by decide +kernel
theorem dX8_as_8 : decode cX8_as 8 = .ok (.astore_n 3, 1) := by decide +kernel
theorem dX8_as_9 : decode cX8_as 9 = .ok (.aload_n 3, 1) := by decide +kernel
theorem dX8_as_10 : decode cX8_as 10 = .ok (.ifnull 18, 3) := by decide +kernel
theorem dX8_as_13 : decode cX8_as 13 = .ok (.iload_n 2, 1) := by decide +kernel
theorem dX8_as_14 : decode cX8_as 14 = .ok (.ifCond .lt 14, 3) := by decide +kernel
theorem dX8_as_17 : decode cX8_as 17 = .ok (.iload_n 2, 1) := by decide +kernel
theorem dX8_as_18 : decode cX8_as 18 = .ok (.aload_n 0, 1) := by decide +kernel
theorem dX8_as_19 : decode cX8_as 19 = .ok (.getfield 26, 3) := by decide +kernel
theorem dX8_as_22 : decode cX8_as 22 = .ok (.getfield 136, 3) := by decide +kernel
theorem dX8_as_25 : decode cX8_as 25 = .ok (.if_icmp .le 5, 3) := by decide +kernel
theorem dX8_as_28 : decode cX8_as 28 = .ok (.iconst (-1), 1) := by decide +kernel
theorem dX8_as_29 : decode cX8_as 29 = .ok (.ireturn, 1) := by decide +kernel
theorem dX8_as_30 : decode cX8_as 30 = .ok (.aload_n 3, 1) := by decide +kernel
theorem dX8_as_31 : decode cX8_as 31 = .ok (.iload_n 2, 1) := by decide +kernel
theorem dX8_as_32 : decode cX8_as 32 = .ok (.invokevirtual 271, 3) := by decide +kernel
theorem dX8_as_35 : decode cX8_as 35 = .ok (.ireturn, 1) := by decide +kernel
theorem dX8_down_0 : decode cX8_down 0 = .ok (.aload_n 0, 1) := by decide +kernel
theorem dX8_down_1 : decode cX8_down 1 = .ok (.getfield 10, 3) := by decide +kernel
theorem dX8_down_4 : decode cX8_down 4 = .ok (.iload_n 1, 1) := by decide +kernel
theorem dX8_down_5 : decode cX8_down 5 = .ok (.invokevirtual 80, 3) := by decide +kernel
theorem dX8_down_8 : decode cX8_down 8 = .ok (.astore_n 2, 1) := by decide +kernel
theorem dX8_down_9 : decode cX8_down 9 = .ok (.aload_n 2, 1) := by decide +kernel
theorem dX8_down_10 : decode cX8_down 10 = .ok (.ifnonnull 5, 3) := by decide +kernel
theorem dX8_down_13 : decode cX8_down 13 = .ok (.iconst (-1), 1) := by decide +kernel
theorem dX8_down_14 : decode cX8_down 14 = .ok (.ireturn, 1) := by decide +kernel
theorem dX8_down_15 : decode cX8_down 15 = .ok (.aload_n 2, 1) := by decide +kernel
theorem dX8_down_16 : decode cX8_down 16 = .ok (.getfield 88, 3) := by decide +kernel
theorem dX8_down_19 : decode cX8_down 19 = .ok (.ifCond .eq 10, 3) := by decide +kernel
theorem dX8_down_22 : decode cX8_down 22 = .ok (.aload_n 2, 1) := by decide +kernel
theorem dX8_down_23 : decode cX8_down 23 = .ok (.invokevirtual 152, 3) := by decide +kernel
theorem dX8_down_26 : decode cX8_down 26 = .ok (.ifCond .eq 6, 3) := by decide +kernel
theorem dX8_down_29 : decode cX8_down 29 = .ok (.bipush (-5), 2) := by decide +kernel
theorem dX8_down_31 : decode cX8_down 31 = .ok (.ireturn, 1) := by decide +kernel
theorem dX8_down_32 : decode cX8_down 32 = .ok (.aload_n 2, 1) := by decide +kernel
theorem dX8_down_33 : decode cX8_down 33 = .ok (.getfield 246, 3) := by decide +kernel
theorem dX8_down_36 : decode cX8_down 36 = .ok (.aload_n 2, 1) := by decide +kernel
theorem dX8_down_37 : decode cX8_down 37 = .ok (.aload_n 0, 1) := by decide +kernel
theorem dX8_down_38 : decode cX8_down 38 = .ok (.iload_n 1, 1) := by decide +kernel
theorem dX8_down_39 : decode cX8_down 39 = .ok (.invokevirtual 226, 3) := by decide +kernel
theorem dX8_down_42 : decode cX8_down 42 = .ok (.invokevirtual 274, 3) := by decide +kernel
theorem dX8_down_45 : decode cX8_down 45 = .ok (.iaload, 1) := by decide +kernel
theorem dX8_down_46 : decode cX8_down 46 = .ok (.ireturn, 1) := by decide +kernel
theorem dX8_needs_0 : decode cX8_needs 0 = .ok (.aload_n 0, 1) := by decide +kernel
theorem dX8_needs_1 : decode cX8_needs 1 = .ok (.getfield 10, 3) := by decide +kernel
theorem dX8_needs_4 : decode cX8_needs 4 = .ok (.iload_n 1, 1) := by decide +kernel
theorem dX8_needs_5 : decode cX8_needs 5 = .ok (.invokevirtual 80, 3) := by decide +kernel
theorem dX8_needs_8 : decode cX8_needs 8 = .ok (.ifnonnull 5, 3) := by decide +kernel
theorem dX8_needs_11 : decode cX8_needs 11 = .ok (.iconst (-1), 1) := by decide +kernel
theorem dX8_needs_12 : decode cX8_needs 12 = .ok (.ireturn, 1) := by decide +kernel
theorem dX8_needs_13 : decode cX8_needs 13 = .ok (.aload_n 0, 1) := by decide +kernel
theorem dX8_needs_14 : decode cX8_needs 14 = .ok (.getfield 60, 3) := by decide +kernel
theorem dX8_needs_17 : decode cX8_needs 17 = .ok (.iconst 0, 1) := by decide +kernel
theorem dX8_needs_18 : decode cX8_needs 18 = .ok (.invokestatic 277, 3) := by decide +kernel
theorem dX8_needs_21 : decode cX8_needs 21 = .ok (.aload_n 0, 1) := by decide +kernel
theorem dX8_needs_22 : decode cX8_needs 22 = .ok (.getfield 60, 3) := by decide +kernel
theorem dX8_needs_25 : decode cX8_needs 25 = .ok (.iload_n 1, 1) := by decide +kernel
theorem dX8_needs_26 : decode cX8_needs 26 = .ok (.iconst 1, 1) := by decide +kernel
theorem dX8_needs_27 : decode cX8_needs 27 = .ok (.iastore, 1) := by decide +kernel
theorem dX8_needs_28 : decode cX8_needs 28 = .ok (.iconst 0, 1) := by decide +kernel
theorem dX8_needs_29 : decode cX8_needs 29 = .ok (.istore_n 2, 1) := by decide +kernel
theorem dX8_needs_30 : decode cX8_needs 30 = .ok (.iload_n 1, 1) := by decide +kernel
theorem dX8_needs_31 : decode cX8_needs 31 = .ok (.istore_n 3, 1) := by decide +kernel
theorem dX8_needs_32 : decode cX8_needs 32 = .ok (.iload_n 3, 1) := by decide +kernel
theorem dX8_needs_33 : decode cX8_needs 33 = .ok (.ifCond .lt 57, 3) := by decide +kernel
theorem dX8_needs_36 : decode cX8_needs 36 = .ok (.aload_n 0, 1) := by decide +kernel
theorem dX8_needs_37 : decode cX8_needs 37 = .ok (.getfield 10, 3) := by decide +kernel
theorem dX8_needs_40 : decode cX8_needs 40 = .ok (.iload_n 3, 1) := by decide +kernel
theorem dX8_needs_41 : decode cX8_needs 41 = .ok (.invokevirtual 80, 3) := by decide +kernel
theorem dX8_needs_44 : decode cX8_needs 44 = .ok (.astore 4, 2) := by decide +kernel
theorem dX8_needs_46 : decode cX8_needs 46 = .ok (.aload 4, 2) := by decide +kernel
theorem dX8_needs_48 : decode cX8_needs 48 = .ok (.ifnull 36, 3) := by decide +kernel
theorem dX8_needs_51 : decode cX8_needs 51 = .ok (.aload_n 0, 1) := by decide +kernel
theorem dX8_needs_52 : decode cX8_needs 52 = .ok (.getfield 60, 3) := by decide +kernel
theorem dX8_needs_55 : decode cX8_needs 55 = .ok (.iload_n 3, 1) := by decide +kernel
theorem dX8_needs_56 : decode cX8_needs 56 = .ok (.iaload, 1) := by decide +kernel
theorem dX8_needs_57 : decode cX8_needs 57 = .ok (.iconst 1, 1) := by decide +kernel
theorem dX8_needs_58 : decode cX8_needs 58 = .ok (.if_icmp .ne 26, 3) := by decide +kernel
theorem dX8_needs_61 : decode cX8_needs 61 = .ok (.iload_n 2, 1) := by decide +kernel
theorem dX8_needs_62 : decode cX8_needs 62 = .ok (.aload 4, 2) := by decide +kernel
theorem dX8_needs_64 : decode cX8_needs 64 = .ok (.getfield 109, 3) := by decide +kernel
theorem dX8_needs_67 : decode cX8_needs 67 = .ok (.aload 4, 2) := by decide +kernel
theorem dX8_needs_69 : decode cX8_needs 69 = .ok (.getfield 146, 3) := by decide +kernel
theorem dX8_needs_72 : decode cX8_needs 72 = .ok (.isub, 1) := by decide +kernel
theorem dX8_needs_73 : decode cX8_needs 73 = .ok (.iadd, 1) := by decide +kernel
theorem dX8_needs_74 : decode cX8_needs 74 = .ok (.istore_n 2, 1) := by decide +kernel
theorem dX8_needs_75 : decode cX8_needs 75 = .ok (.aload 4, 2) := by decide +kernel
theorem dX8_needs_77 : decode cX8_needs 77 = .ok (.aload_n 0, 1) := by decide +kernel
theorem dX8_needs_78 : decode cX8_needs 78 = .ok (.getfield 60, 3) := by decide +kernel
theorem dX8_needs_81 : decode cX8_needs 81 = .ok (.invokevirtual 283, 3) := by decide +kernel
theorem dX8_needs_84 : decode cX8_needs 84 = .ok (.iinc 3 (-1), 3) := by decide +kernel
theorem dX8_needs_87 : decode cX8_needs 87 = .ok (.goto (-55), 3) := by decide +kernel
theorem dX8_needs_90 : decode cX8_needs 90 = .ok (.iload_n 2, 1) := by decide +kernel
theorem dX8_needs_91 : decode cX8_needs 91 = .ok (.ireturn, 1) := by decide +kernel
theorem dX8_count_0 : decode cX8_count 0 = .ok (.iload_n 1, 1) := by decide +kernel
theorem dX8_count_1 : decode cX8_count 1 = .ok (.tableswitch 120 0 9 #[55, 63, 68, 76, 84, 89, 97, 102, 107, 112], 55) := by decide +kernel
theorem dX8_count_56 : decode cX8_count 56 = .ok (.aload_n 0, 1) := by decide +kernel
theorem dX8_count_57 : decode cX8_count 57 = .ok (.getfield 10, 3) := by decide +kernel
theorem dX8_count_60 : decode cX8_count 60 = .ok (.getfield 67, 3) := by decide +kernel
theorem dX8_count_63 : decode cX8_count 63 = .ok (.ireturn, 1) := by decide +kernel
theorem dX8_count_64 : decode cX8_count 64 = .ok (.aload_n 0, 1) := by decide +kernel
theorem dX8_count_65 : decode cX8_count 65 = .ok (.getfield 194, 3) := by decide +kernel
theorem dX8_count_68 : decode cX8_count 68 = .ok (.ireturn, 1) := by decide +kernel
theorem dX8_count_69 : decode cX8_count 69 = .ok (.aload_n 0, 1) := by decide +kernel
theorem dX8_count_70 : decode cX8_count 70 = .ok (.getfield 26, 3) := by decide +kernel
theorem dX8_count_73 : decode cX8_count 73 = .ok (.getfield 136, 3) := by decide +kernel
theorem dX8_count_76 : decode cX8_count 76 = .ok (.ireturn, 1) := by decide +kernel
theorem dX8_count_77 : decode cX8_count 77 = .ok (.aload_n 0, 1) := by decide +kernel
theorem dX8_count_78 : decode cX8_count 78 = .ok (.getfield 10, 3) := by decide +kernel
theorem dX8_count_81 : decode cX8_count 81 = .ok (.getfield 102, 3) := by decide +kernel
theorem dX8_count_84 : decode cX8_count 84 = .ok (.ireturn, 1) := by decide +kernel
theorem dX8_count_85 : decode cX8_count 85 = .ok (.aload_n 0, 1) := by decide +kernel
theorem dX8_count_86 : decode cX8_count 86 = .ok (.getfield 143, 3) := by decide +kernel
theorem dX8_count_89 : decode cX8_count 89 = .ok (.ireturn, 1) := by decide +kernel
theorem dX8_count_90 : decode cX8_count 90 = .ok (.aload_n 0, 1) := by decide +kernel
theorem dX8_count_91 : decode cX8_count 91 = .ok (.getfield 10, 3) := by decide +kernel
theorem dX8_count_94 : decode cX8_count 94 = .ok (.invokevirtual 287, 3) := by decide +kernel
theorem dX8_count_97 : decode cX8_count 97 = .ok (.ireturn, 1) := by decide +kernel
theorem dX8_count_98 : decode cX8_count 98 = .ok (.aload_n 0, 1) := by decide +kernel
theorem dX8_count_99 : decode cX8_count 99 = .ok (.invokevirtual 290, 3) := by decide +kernel
theorem dX8_count_102 : decode cX8_count 102 = .ok (.ireturn, 1) := by decide +kernel
theorem dX8_count_103 : decode cX8_count 103 = .ok (.aload_n 0, 1) := by decide +kernel
theorem dX8_count_104 : decode cX8_count 104 = .ok (.getfield 293, 3) := by decide +kernel
theorem dX8_count_107 : decode cX8_count 107 = .ok (.ireturn, 1) := by decide +kernel
theorem dX8_count_108 : decode cX8_count 108 = .ok (.aload_n 0, 1) := by decide +kernel
theorem dX8_count_109 : decode cX8_count 109 = .ok (.getfield 208, 3) := by decide +kernel
theorem dX8_count_112 : decode cX8_count 112 = .ok (.ireturn, 1) := by decide +kernel
theorem dX8_count_113 : decode cX8_count 113 = .ok (.aload_n 0, 1) := by decide +kernel
theorem dX8_count_114 : decode cX8_count 114 = .ok (.getfield 33, 3) := by decide +kernel
theorem dX8_count_117 : decode cX8_count 117 = .ok (.getfield 186, 3) := by decide +kernel
theorem dX8_count_120 : decode cX8_count 120 = .ok (.ireturn, 1) := by decide +kernel
theorem dX8_count_121 : decode cX8_count 121 = .ok (.iconst (-1), 1) := by decide +kernel
theorem dX8_count_122 : decode cX8_count 122 = .ok (.ireturn, 1) := by decide +kernel
theorem dX8_isMeasure_0 : decode cX8_isMeasure 0 = .ok (.iload_n 0, 1) := by decide +kernel
theorem dX8_isMeasure_1 : decode cX8_isMeasure 1 = .ok (.iconst 1, 1) := by decide +kernel
theorem dX8_isMeasure_2 : decode cX8_isMeasure 2 = .ok (.if_icmp .lt 36, 3) := by decide +kernel
theorem dX8_isMeasure_5 : decode cX8_isMeasure 5 = .ok (.iload_n 0, 1) := by decide +kernel
theorem dX8_isMeasure_6 : decode cX8_isMeasure 6 = .ok (.bipush 30, 2) := by decide +kernel
theorem dX8_isMeasure_8 : decode cX8_isMeasure 8 = .ok (.if_icmp .gt 30, 3) := by decide +kernel
theorem dX8_isMeasure_11 : decode cX8_isMeasure 11 = .ok (.iload_n 1, 1) := by decide +kernel
theorem dX8_isMeasure_12 : decode cX8_isMeasure 12 = .ok (.iconst 1, 1) := by decide +kernel
theorem dX8_isMeasure_13 : decode cX8_isMeasure 13 = .ok (.if_icmp .lt 25, 3) := by decide +kernel
theorem dX8_isMeasure_16 : decode cX8_isMeasure 16 = .ok (.iload_n 1, 1) := by decide +kernel
theorem dX8_isMeasure_17 : decode cX8_isMeasure 17 = .ok (.sipush 999, 3) := by decide +kernel
theorem dX8_isMeasure_20 : decode cX8_isMeasure 20 = .ok (.if_icmp .gt 18, 3) := by decide +kernel
theorem dX8_isMeasure_23 : decode cX8_isMeasure 23 = .ok (.iload_n 2, 1) := by decide +kernel
theorem dX8_isMeasure_24 : decode cX8_isMeasure 24 = .ok (.ifCond .lt 14, 3) := by decide +kernel
theorem dX8_isMeasure_27 : decode cX8_isMeasure 27 = .ok (.iload_n 2, 1) := by decide +kernel
theorem dX8_isMeasure_28 : decode cX8_isMeasure 28 = .ok (.sipush 999, 3) := by decide +kernel
theorem dX8_isMeasure_31 : decode cX8_isMeasure 31 = .ok (.if_icmp .gt 7, 3) := by decide +kernel
theorem dX8_isMeasure_34 : decode cX8_isMeasure 34 = .ok (.iconst 1, 1) := by decide +kernel
theorem dX8_isMeasure_35 : decode cX8_isMeasure 35 = .ok (.goto 4, 3) := by decide +kernel
theorem dX8_isMeasure_38 : decode cX8_isMeasure 38 = .ok (.iconst 0, 1) := by decide +kernel
theorem dX8_isMeasure_39 : decode cX8_isMeasure 39 = .ok (.ireturn, 1) := by decide +kernel
theorem dX8_stands_0 : decode cX8_stands 0 = .ok (.aload_n 0, 1) := by decide +kernel
theorem dX8_stands_1 : decode cX8_stands 1 = .ok (.getfield 19, 3) := by decide +kernel
theorem dX8_stands_4 : decode cX8_stands 4 = .ok (.aload_n 0, 1) := by decide +kernel
theorem dX8_stands_5 : decode cX8_stands 5 = .ok (.getfield 10, 3) := by decide +kernel
theorem dX8_stands_8 : decode cX8_stands 8 = .ok (.invokevirtual 296, 3) := by decide +kernel
theorem dX8_stands_11 : decode cX8_stands 11 = .ok (.bipush (-5), 2) := by decide +kernel
theorem dX8_stands_13 : decode cX8_stands 13 = .ok (.if_icmp .ne 7, 3) := by decide +kernel
theorem dX8_stands_16 : decode cX8_stands 16 = .ok (.iconst 1, 1) := by decide +kernel
theorem dX8_stands_17 : decode cX8_stands 17 = .ok (.goto 4, 3) := by decide +kernel
theorem dX8_stands_20 : decode cX8_stands 20 = .ok (.iconst 0, 1) := by decide +kernel
theorem dX8_stands_21 : decode cX8_stands 21 = .ok (.ireturn, 1) := by decide +kernel
theorem dX8_loadOf_0 : decode cX8_loadOf 0 = .ok (.aload_n 0, 1) := by decide +kernel
theorem dX8_loadOf_1 : decode cX8_loadOf 1 = .ok (.getfield 19, 3) := by decide +kernel
theorem dX8_loadOf_4 : decode cX8_loadOf 4 = .ok (.aload_n 0, 1) := by decide +kernel
theorem dX8_loadOf_5 : decode cX8_loadOf 5 = .ok (.getfield 10, 3) := by decide +kernel
theorem dX8_loadOf_8 : decode cX8_loadOf 8 = .ok (.invokevirtual 300, 3) := by decide +kernel
theorem dX8_loadOf_11 : decode cX8_loadOf 11 = .ok (.aload_n 0, 1) := by decide +kernel
theorem dX8_loadOf_12 : decode cX8_loadOf 12 = .ok (.getfield 19, 3) := by decide +kernel
theorem dX8_loadOf_15 : decode cX8_loadOf 15 = .ok (.getfield 304, 3) := by decide +kernel
theorem dX8_loadOf_18 : decode cX8_loadOf 18 = .ok (.iload_n 1, 1) := by decide +kernel
theorem dX8_loadOf_19 : decode cX8_loadOf 19 = .ok (.iaload, 1) := by decide +kernel
theorem dX8_loadOf_20 : decode cX8_loadOf 20 = .ok (.ireturn, 1) := by decide +kernel
theorem dX8_pushToRightOn_0 : decode cX8_pushToRightOn 0 = .ok (.aload_n 0, 1) := by decide +kernel
theorem dX8_pushToRightOn_1 : decode cX8_pushToRightOn 1 = .ok (.getfield 19, 3) := by decide +kernel
theorem dX8_pushToRightOn_4 : decode cX8_pushToRightOn 4 = .ok (.aload_n 0, 1) := by decide +kernel
theorem dX8_pushToRightOn_5 : decode cX8_pushToRightOn 5 = .ok (.getfield 10, 3) := by decide +kernel
theorem dX8_pushToRightOn_8 : decode cX8_pushToRightOn 8 = .ok (.invokevirtual 300, 3) := by decide +kernel
theorem dX8_pushToRightOn_11 : decode cX8_pushToRightOn 11 = .ok (.aload_n 0, 1) := by decide +kernel
theorem dX8_pushToRightOn_12 : decode cX8_pushToRightOn 12 = .ok (.getfield 19, 3) := by decide +kernel
theorem dX8_pushToRightOn_15 : decode cX8_pushToRightOn 15 = .ok (.getfield 307, 3) := by decide +kernel
theorem dX8_pushToRightOn_18 : decode cX8_pushToRightOn 18 = .ok (.iload_n 1, 1) := by decide +kernel
theorem dX8_pushToRightOn_19 : decode cX8_pushToRightOn 19 = .ok (.iaload, 1) := by decide +kernel
theorem dX8_pushToRightOn_20 : decode cX8_pushToRightOn 20 = .ok (.ireturn, 1) := by decide +kernel
theorem dX8_fallByCourse_0 : decode cX8_fallByCourse 0 = .ok (.aload_n 1, 1) := by decide +kernel
theorem dX8_fallByCourse_1 : decode cX8_fallByCourse 1 = .ok (.dup, 1) := by decide +kernel
theorem dX8_fallByCourse_2 : decode cX8_fallByCourse 2 = .ok (.getfield 146, 3) := by decide +kernel
theorem dX8_fallByCourse_5 : decode cX8_fallByCourse 5 = .ok (.iconst 1, 1) := by decide +kernel
theorem dX8_fallByCourse_6 : decode cX8_fallByCourse 6 = .ok (.iadd, 1) := by decide +kernel
theorem dX8_fallByCourse_7 : decode cX8_fallByCourse 7 = .ok (.putfield 146, 3) := by decide +kernel
theorem dX8_fallByCourse_10 : decode cX8_fallByCourse 10 = .ok (.aload_n 0, 1) := by decide +kernel
theorem dX8_fallByCourse_11 : decode cX8_fallByCourse 11 = .ok (.getfield 19, 3) := by decide +kernel
theorem dX8_fallByCourse_14 : decode cX8_fallByCourse 14 = .ok (.aload_n 0, 1) := by decide +kernel
theorem dX8_fallByCourse_15 : decode cX8_fallByCourse 15 = .ok (.getfield 10, 3) := by decide +kernel
theorem dX8_fallByCourse_18 : decode cX8_fallByCourse 18 = .ok (.invokevirtual 296, 3) := by decide +kernel
theorem dX8_fallByCourse_21 : decode cX8_fallByCourse 21 = .ok (.istore_n 2, 1) := by decide +kernel
theorem dX8_fallByCourse_22 : decode cX8_fallByCourse 22 = .ok (.aload_n 1, 1) := by decide +kernel
theorem dX8_fallByCourse_23 : decode cX8_fallByCourse 23 = .ok (.dup, 1) := by decide +kernel
theorem dX8_fallByCourse_24 : decode cX8_fallByCourse 24 = .ok (.getfield 146, 3) := by decide +kernel
theorem dX8_fallByCourse_27 : decode cX8_fallByCourse 27 = .ok (.iconst 1, 1) := by decide +kernel
theorem dX8_fallByCourse_28 : decode cX8_fallByCourse 28 = .ok (.isub, 1) := by decide +kernel
theorem dX8_fallByCourse_29 : decode cX8_fallByCourse 29 = .ok (.putfield 146, 3) := by decide +kernel
theorem dX8_fallByCourse_32 : decode cX8_fallByCourse 32 = .ok (.iload_n 2, 1) := by decide +kernel
theorem dX8_fallByCourse_33 : decode cX8_fallByCourse 33 = .ok (.ireturn, 1) := by decide +kernel
theorem dX8_hindranceOfCourse_0 : decode cX8_hindranceOfCourse 0 = .ok (.aload_n 2, 1) := by decide +kernel
theorem dX8_hindranceOfCourse_1 : decode cX8_hindranceOfCourse 1 = .ok (.invokevirtual 155, 3) := by decide +kernel
theorem dX8_hindranceOfCourse_4 : decode cX8_hindranceOfCourse 4 = .ok (.ifCond .eq 5, 3) := by decide +kernel
theorem dX8_hindranceOfCourse_7 : decode cX8_hindranceOfCourse 7 = .ok (.iconst 1, 1) := by decide +kernel
theorem dX8_hindranceOfCourse_8 : decode cX8_hindranceOfCourse 8 = .ok (.ireturn, 1) := by decide +kernel
theorem dX8_hindranceOfCourse_9 : decode cX8_hindranceOfCourse 9 = .ok (.aload_n 0, 1) := by decide +kernel
theorem dX8_hindranceOfCourse_10 : decode cX8_hindranceOfCourse 10 = .ok (.getfield 10, 3) := by decide +kernel
theorem dX8_hindranceOfCourse_13 : decode cX8_hindranceOfCourse 13 = .ok (.aload_n 2, 1) := by decide +kernel
theorem dX8_hindranceOfCourse_14 : decode cX8_hindranceOfCourse 14 = .ok (.invokevirtual 310, 3) := by decide +kernel
theorem dX8_hindranceOfCourse_17 : decode cX8_hindranceOfCourse 17 = .ok (.ifCond .ne 5, 3) := by decide +kernel
theorem dX8_hindranceOfCourse_20 : decode cX8_hindranceOfCourse 20 = .ok (.iconst 2, 1) := by decide +kernel
theorem dX8_hindranceOfCourse_21 : decode cX8_hindranceOfCourse 21 = .ok (.ireturn, 1) := by decide +kernel
theorem dX8_hindranceOfCourse_22 : decode cX8_hindranceOfCourse 22 = .ok (.aload_n 0, 1) := by decide +kernel
theorem dX8_hindranceOfCourse_23 : decode cX8_hindranceOfCourse 23 = .ok (.getfield 143, 3) := by decide +kernel
theorem dX8_hindranceOfCourse_26 : decode cX8_hindranceOfCourse 26 = .ok (.aload_n 0, 1) := by decide +kernel
theorem dX8_hindranceOfCourse_27 : decode cX8_hindranceOfCourse 27 = .ok (.invokevirtual 314, 3) := by decide +kernel
theorem dX8_hindranceOfCourse_30 : decode cX8_hindranceOfCourse 30 = .ok (.if_icmp .lt 5, 3) := by decide +kernel
theorem dX8_hindranceOfCourse_33 : decode cX8_hindranceOfCourse 33 = .ok (.iconst 3, 1) := by decide +kernel
theorem dX8_hindranceOfCourse_34 : decode cX8_hindranceOfCourse 34 = .ok (.ireturn, 1) := by decide +kernel
theorem dX8_hindranceOfCourse_35 : decode cX8_hindranceOfCourse 35 = .ok (.aload_n 0, 1) := by decide +kernel
theorem dX8_hindranceOfCourse_36 : decode cX8_hindranceOfCourse 36 = .ok (.iload_n 1, 1) := by decide +kernel
theorem dX8_hindranceOfCourse_37 : decode cX8_hindranceOfCourse 37 = .ok (.aload_n 2, 1) := by decide +kernel
theorem dX8_hindranceOfCourse_38 : decode cX8_hindranceOfCourse 38 = .ok (.invokevirtual 317, 3) := by decide +kernel
theorem dX8_hindranceOfCourse_41 : decode cX8_hindranceOfCourse 41 = .ok (.aload_n 2, 1) := by decide +kernel
theorem dX8_hindranceOfCourse_42 : decode cX8_hindranceOfCourse 42 = .ok (.getfield 243, 3) := by decide +kernel
theorem dX8_hindranceOfCourse_45 : decode cX8_hindranceOfCourse 45 = .ok (.if_icmp .ge 5, 3) := by decide +kernel
theorem dX8_hindranceOfCourse_48 : decode cX8_hindranceOfCourse 48 = .ok (.iconst 4, 1) := by decide +kernel
theorem dX8_hindranceOfCourse_49 : decode cX8_hindranceOfCourse 49 = .ok (.ireturn, 1) := by decide +kernel
theorem dX8_hindranceOfCourse_50 : decode cX8_hindranceOfCourse 50 = .ok (.aload_n 0, 1) := by decide +kernel
theorem dX8_hindranceOfCourse_51 : decode cX8_hindranceOfCourse 51 = .ok (.aload_n 2, 1) := by decide +kernel
theorem dX8_hindranceOfCourse_52 : decode cX8_hindranceOfCourse 52 = .ok (.invokevirtual 149, 3) := by decide +kernel
theorem dX8_hindranceOfCourse_55 : decode cX8_hindranceOfCourse 55 = .ok (.bipush (-5), 2) := by decide +kernel
theorem dX8_hindranceOfCourse_57 : decode cX8_hindranceOfCourse 57 = .ok (.if_icmp .ne 7, 3) := by decide +kernel
theorem dX8_hindranceOfCourse_60 : decode cX8_hindranceOfCourse 60 = .ok (.iconst 0, 1) := by decide +kernel
theorem dX8_hindranceOfCourse_61 : decode cX8_hindranceOfCourse 61 = .ok (.goto 4, 3) := by decide +kernel
theorem dX8_hindranceOfCourse_64 : decode cX8_hindranceOfCourse 64 = .ok (.iconst 5, 1) := by decide +kernel
theorem dX8_hindranceOfCourse_65 : decode cX8_hindranceOfCourse 65 = .ok (.ireturn, 1) := by decide +kernel
theorem dX8_findGift_0 : decode cX8_findGift 0 = .ok (.iload_n 1, 1) := by decide +kernel
theorem dX8_findGift_1 : decode cX8_findGift 1 = .ok (.ifCond .lt 20, 3) := by decide +kernel
theorem dX8_findGift_4 : decode cX8_findGift 4 = .ok (.iload_n 1, 1) := by decide +kernel
theorem dX8_findGift_5 : decode cX8_findGift 5 = .ok (.aload_n 0, 1) := by decide +kernel
theorem dX8_findGift_6 : decode cX8_findGift 6 = .ok (.getfield 194, 3) := by decide +kernel
theorem dX8_findGift_9 : decode cX8_findGift 9 = .ok (.if_icmp .ge 12, 3) := by decide +kernel
theorem dX8_findGift_12 : decode cX8_findGift 12 = .ok (.aload_n 0, 1) := by decide +kernel
theorem dX8_findGift_13 : decode cX8_findGift 13 = .ok (.getfield 46, 3) := by decide +kernel
theorem dX8_findGift_16 : decode cX8_findGift 16 = .ok (.iload_n 1, 1) := by decide +kernel
theorem dX8_findGift_17 : decode cX8_findGift 17 = .ok (.aaload, 1) := by decide +kernel
theorem dX8_findGift_18 : decode cX8_findGift 18 = .ok (.goto 4, 3) := by decide +kernel
theorem dX8_findGift_21 : decode cX8_findGift 21 = .ok (.aconst_null, 1) := by decide +kernel
theorem dX8_findGift_22 : decode cX8_findGift 22 = .ok (.areturn, 1) := by decide +kernel
theorem dX8_coinsRemaining_0 : decode cX8_coinsRemaining 0 = .ok (.iconst 0, 1) := by decide +kernel
theorem dX8_coinsRemaining_1 : decode cX8_coinsRemaining 1 = .ok (.istore_n 1, 1) := by decide +kernel
theorem dX8_coinsRemaining_2 : decode cX8_coinsRemaining 2 = .ok (.iconst 0, 1) := by decide +kernel
theorem dX8_coinsRemaining_3 : decode cX8_coinsRemaining 3 = .ok (.istore_n 2, 1) := by decide +kernel
theorem dX8_coinsRemaining_4 : decode cX8_coinsRemaining 4 = .ok (.iload_n 2, 1) := by decide +kernel
theorem dX8_coinsRemaining_5 : decode cX8_coinsRemaining 5 = .ok (.aload_n 0, 1) := by decide +kernel
theorem dX8_coinsRemaining_6 : decode cX8_coinsRemaining 6 = .ok (.getfield 194, 3) := by decide +kernel
theorem dX8_coinsRemaining_9 : decode cX8_coinsRemaining 9 = .ok (.if_icmp .ge 26, 3) := by decide +kernel
theorem dX8_coinsRemaining_12 : decode cX8_coinsRemaining 12 = .ok (.aload_n 0, 1) := by decide +kernel
theorem dX8_coinsRemaining_13 : decode cX8_coinsRemaining 13 = .ok (.iload_n 2, 1) := by decide +kernel
theorem dX8_coinsRemaining_14 : decode cX8_coinsRemaining 14 = .ok (.invokevirtual 211, 3) := by decide +kernel
theorem dX8_coinsRemaining_17 : decode cX8_coinsRemaining 17 = .ok (.astore_n 3, 1) := by decide +kernel
theorem dX8_coinsRemaining_18 : decode cX8_coinsRemaining 18 = .ok (.aload_n 3, 1) := by decide +kernel
theorem dX8_coinsRemaining_19 : decode cX8_coinsRemaining 19 = .ok (.ifnull 10, 3) := by decide +kernel
theorem dX8_coinsRemaining_22 : decode cX8_coinsRemaining 22 = .ok (.iload_n 1, 1) := by decide +kernel
theorem dX8_coinsRemaining_23 : decode cX8_coinsRemaining 23 = .ok (.aload_n 3, 1) := by decide +kernel
theorem dX8_coinsRemaining_24 : decode cX8_coinsRemaining 24 = .ok (.getfield 252, 3) := by decide +kernel
theorem dX8_coinsRemaining_27 : decode cX8_coinsRemaining 27 = .ok (.iadd, 1) := by decide +kernel
theorem dX8_coinsRemaining_28 : decode cX8_coinsRemaining 28 = .ok (.istore_n 1, 1) := by decide +kernel
theorem dX8_coinsRemaining_29 : decode cX8_coinsRemaining 29 = .ok (.iinc 2 1, 3) := by decide +kernel
theorem dX8_coinsRemaining_32 : decode cX8_coinsRemaining 32 = .ok (.goto (-28), 3) := by decide +kernel
theorem dX8_coinsRemaining_35 : decode cX8_coinsRemaining 35 = .ok (.iload_n 1, 1) := by decide +kernel
theorem dX8_coinsRemaining_36 : decode cX8_coinsRemaining 36 = .ok (.ireturn, 1) := by decide +kernel
theorem dX8_coinsFor_0 : decode cX8_coinsFor 0 = .ok (.aload_n 0, 1) := by decide +kernel
theorem dX8_coinsFor_1 : decode cX8_coinsFor 1 = .ok (.invokevirtual 216, 3) := by decide +kernel
theorem dX8_coinsFor_4 : decode cX8_coinsFor 4 = .ok (.aload_n 0, 1) := by decide +kernel
theorem dX8_coinsFor_5 : decode cX8_coinsFor 5 = .ok (.getfield 40, 3) := by decide +kernel
theorem dX8_coinsFor_8 : decode cX8_coinsFor 8 = .ok (.iload_n 1, 1) := by decide +kernel
theorem dX8_coinsFor_9 : decode cX8_coinsFor 9 = .ok (.aload_n 2, 1) := by decide +kernel
theorem dX8_coinsFor_10 : decode cX8_coinsFor 10 = .ok (.invokevirtual 219, 3) := by decide +kernel
theorem dX8_coinsFor_13 : decode cX8_coinsFor 13 = .ok (.iconst 0, 1) := by decide +kernel
theorem dX8_coinsFor_14 : decode cX8_coinsFor 14 = .ok (.istore_n 3, 1) := by decide +kernel
theorem dX8_coinsFor_15 : decode cX8_coinsFor 15 = .ok (.iconst 0, 1) := by decide +kernel
theorem dX8_coinsFor_16 : decode cX8_coinsFor 16 = .ok (.istore 4, 2) := by decide +kernel
theorem dX8_coinsFor_18 : decode cX8_coinsFor 18 = .ok (.iload 4, 2) := by decide +kernel
theorem dX8_coinsFor_20 : decode cX8_coinsFor 20 = .ok (.aload_n 0, 1) := by decide +kernel
theorem dX8_coinsFor_21 : decode cX8_coinsFor 21 = .ok (.getfield 194, 3) := by decide +kernel
theorem dX8_coinsFor_24 : decode cX8_coinsFor 24 = .ok (.if_icmp .ge 42, 3) := by decide +kernel
theorem dX8_coinsFor_27 : decode cX8_coinsFor 27 = .ok (.aload_n 0, 1) := by decide +kernel
theorem dX8_coinsFor_28 : decode cX8_coinsFor 28 = .ok (.iload 4, 2) := by decide +kernel
theorem dX8_coinsFor_30 : decode cX8_coinsFor 30 = .ok (.invokevirtual 211, 3) := by decide +kernel
theorem dX8_coinsFor_33 : decode cX8_coinsFor 33 = .ok (.astore 5, 2) := by decide +kernel
theorem dX8_coinsFor_35 : decode cX8_coinsFor 35 = .ok (.aload 5, 2) := by decide +kernel
theorem dX8_coinsFor_37 : decode cX8_coinsFor 37 = .ok (.ifnull 23, 3) := by decide +kernel
theorem dX8_coinsFor_40 : decode cX8_coinsFor 40 = .ok (.aload_n 0, 1) := by decide +kernel
theorem dX8_coinsFor_41 : decode cX8_coinsFor 41 = .ok (.getfield 40, 3) := by decide +kernel
theorem dX8_coinsFor_44 : decode cX8_coinsFor 44 = .ok (.aload 5, 2) := by decide +kernel
theorem dX8_coinsFor_46 : decode cX8_coinsFor 46 = .ok (.invokevirtual 222, 3) := by decide +kernel
theorem dX8_coinsFor_49 : decode cX8_coinsFor 49 = .ok (.ifCond .eq 11, 3) := by decide +kernel
theorem dX8_coinsFor_52 : decode cX8_coinsFor 52 = .ok (.iload_n 3, 1) := by decide +kernel
theorem dX8_coinsFor_53 : decode cX8_coinsFor 53 = .ok (.aload 5, 2) := by decide +kernel
theorem dX8_coinsFor_55 : decode cX8_coinsFor 55 = .ok (.getfield 252, 3) := by decide +kernel
theorem dX8_coinsFor_58 : decode cX8_coinsFor 58 = .ok (.iadd, 1) := by decide +kernel
theorem dX8_coinsFor_59 : decode cX8_coinsFor 59 = .ok (.istore_n 3, 1) := by decide +kernel
theorem dX8_coinsFor_60 : decode cX8_coinsFor 60 = .ok (.iinc 4 1, 3) := by decide +kernel
theorem dX8_coinsFor_63 : decode cX8_coinsFor 63 = .ok (.goto (-45), 3) := by decide +kernel
theorem dX8_coinsFor_66 : decode cX8_coinsFor 66 = .ok (.iload_n 3, 1) := by decide +kernel
theorem dX8_coinsFor_67 : decode cX8_coinsFor 67 = .ok (.ireturn, 1) := by decide +kernel
theorem dX8_payFor_0 : decode cX8_payFor 0 = .ok (.aload_n 0, 1) := by decide +kernel
theorem dX8_payFor_1 : decode cX8_payFor 1 = .ok (.invokevirtual 216, 3) := by decide +kernel
theorem dX8_payFor_4 : decode cX8_payFor 4 = .ok (.aload_n 0, 1) := by decide +kernel
theorem dX8_payFor_5 : decode cX8_payFor 5 = .ok (.getfield 40, 3) := by decide +kernel
theorem dX8_payFor_8 : decode cX8_payFor 8 = .ok (.iload_n 1, 1) := by decide +kernel
theorem dX8_payFor_9 : decode cX8_payFor 9 = .ok (.aload_n 2, 1) := by decide +kernel
theorem dX8_payFor_10 : decode cX8_payFor 10 = .ok (.invokevirtual 219, 3) := by decide +kernel
theorem dX8_payFor_13 : decode cX8_payFor 13 = .ok (.aload_n 2, 1) := by decide +kernel
theorem dX8_payFor_14 : decode cX8_payFor 14 = .ok (.getfield 243, 3) := by decide +kernel
theorem dX8_payFor_17 : decode cX8_payFor 17 = .ok (.istore_n 3, 1) := by decide +kernel
theorem dX8_payFor_18 : decode cX8_payFor 18 = .ok (.iconst 0, 1) := by decide +kernel
theorem dX8_payFor_19 : decode cX8_payFor 19 = .ok (.istore 4, 2) := by decide +kernel
theorem dX8_payFor_21 : decode cX8_payFor 21 = .ok (.iload 4, 2) := by decide +kernel
theorem dX8_payFor_23 : decode cX8_payFor 23 = .ok (.aload_n 0, 1) := by decide +kernel
theorem dX8_payFor_24 : decode cX8_payFor 24 = .ok (.getfield 194, 3) := by decide +kernel
theorem dX8_payFor_27 : decode cX8_payFor 27 = .ok (.if_icmp .ge 66, 3) := by decide +kernel
theorem dX8_payFor_30 : decode cX8_payFor 30 = .ok (.iload_n 3, 1) := by decide +kernel
theorem dX8_payFor_31 : decode cX8_payFor 31 = .ok (.ifCond .le 62, 3) := by decide +kernel
theorem dX8_payFor_34 : decode cX8_payFor 34 = .ok (.aload_n 0, 1) := by decide +kernel
theorem dX8_payFor_35 : decode cX8_payFor 35 = .ok (.iload 4, 2) := by decide +kernel
theorem dX8_payFor_37 : decode cX8_payFor 37 = .ok (.invokevirtual 211, 3) := by decide +kernel
theorem dX8_payFor_40 : decode cX8_payFor 40 = .ok (.astore 5, 2) := by decide +kernel
theorem dX8_payFor_42 : decode cX8_payFor 42 = .ok (.aload 5, 2) := by decide +kernel
theorem dX8_payFor_44 : decode cX8_payFor 44 = .ok (.ifnull 43, 3) := by decide +kernel
theorem dX8_payFor_47 : decode cX8_payFor 47 = .ok (.aload_n 0, 1) := by decide +kernel
theorem dX8_payFor_48 : decode cX8_payFor 48 = .ok (.getfield 40, 3) := by decide +kernel
theorem dX8_payFor_51 : decode cX8_payFor 51 = .ok (.aload 5, 2) := by decide +kernel
theorem dX8_payFor_53 : decode cX8_payFor 53 = .ok (.invokevirtual 222, 3) := by decide +kernel
theorem dX8_payFor_56 : decode cX8_payFor 56 = .ok (.ifCond .eq 31, 3) := by decide +kernel
theorem dX8_payFor_59 : decode cX8_payFor 59 = .ok (.iload_n 3, 1) := by decide +kernel
theorem dX8_payFor_60 : decode cX8_payFor 60 = .ok (.aload 5, 2) := by decide +kernel
theorem dX8_payFor_62 : decode cX8_payFor 62 = .ok (.getfield 252, 3) := by decide +kernel
theorem dX8_payFor_65 : decode cX8_payFor 65 = .ok (.invokestatic 320, 3) := by decide +kernel
theorem dX8_payFor_68 : decode cX8_payFor 68 = .ok (.istore 6, 2) := by decide +kernel
theorem dX8_payFor_70 : decode cX8_payFor 70 = .ok (.aload 5, 2) := by decide +kernel
theorem dX8_payFor_72 : decode cX8_payFor 72 = .ok (.dup, 1) := by decide +kernel
theorem dX8_payFor_73 : decode cX8_payFor 73 = .ok (.getfield 252, 3) := by decide +kernel
theorem dX8_payFor_76 : decode cX8_payFor 76 = .ok (.iload 6, 2) := by decide +kernel
theorem dX8_payFor_78 : decode cX8_payFor 78 = .ok (.isub, 1) := by decide +kernel
theorem dX8_payFor_79 : decode cX8_payFor 79 = .ok (.putfield 252, 3) := by decide +kernel
theorem dX8_payFor_82 : decode cX8_payFor 82 = .ok (.iload_n 3, 1) := by decide +kernel
theorem dX8_payFor_83 : decode cX8_payFor 83 = .ok (.iload 6, 2) := by decide +kernel
theorem dX8_payFor_85 : decode cX8_payFor 85 = .ok (.isub, 1) := by decide +kernel
theorem dX8_payFor_86 : decode cX8_payFor 86 = .ok (.istore_n 3, 1) := by decide +kernel
theorem dX8_payFor_87 : decode cX8_payFor 87 = .ok (.iinc 4 1, 3) := by decide +kernel
theorem dX8_payFor_90 : decode cX8_payFor 90 = .ok (.goto (-69), 3) := by decide +kernel
theorem dX8_payFor_93 : decode cX8_payFor 93 = .ok (.aload_n 0, 1) := by decide +kernel
theorem dX8_payFor_94 : decode cX8_payFor 94 = .ok (.dup, 1) := by decide +kernel
theorem dX8_payFor_95 : decode cX8_payFor 95 = .ok (.getfield 293, 3) := by decide +kernel
theorem dX8_payFor_98 : decode cX8_payFor 98 = .ok (.aload_n 2, 1) := by decide +kernel
theorem dX8_payFor_99 : decode cX8_payFor 99 = .ok (.getfield 243, 3) := by decide +kernel
theorem dX8_payFor_102 : decode cX8_payFor 102 = .ok (.iadd, 1) := by decide +kernel
theorem dX8_payFor_103 : decode cX8_payFor 103 = .ok (.putfield 293, 3) := by decide +kernel
theorem dX8_payFor_106 : decode cX8_payFor 106 = .ok (.return_, 1) := by decide +kernel
theorem dX8_nameMonth_0 : decode cX8_nameMonth 0 = .ok (.aload_n 0, 1) := by decide +kernel
theorem dX8_nameMonth_1 : decode cX8_nameMonth 1 = .ok (.getfield 40, 3) := by decide +kernel
theorem dX8_nameMonth_4 : decode cX8_nameMonth 4 = .ok (.aload_n 0, 1) := by decide +kernel
theorem dX8_nameMonth_5 : decode cX8_nameMonth 5 = .ok (.getfield 26, 3) := by decide +kernel
theorem dX8_nameMonth_8 : decode cX8_nameMonth 8 = .ok (.getfield 136, 3) := by decide +kernel
theorem dX8_nameMonth_11 : decode cX8_nameMonth 11 = .ok (.aload_n 0, 1) := by decide +kernel
theorem dX8_nameMonth_12 : decode cX8_nameMonth 12 = .ok (.getfield 26, 3) := by decide +kernel
theorem dX8_nameMonth_15 : decode cX8_nameMonth 15 = .ok (.aload_n 0, 1) := by decide +kernel
theorem dX8_nameMonth_16 : decode cX8_nameMonth 16 = .ok (.getfield 26, 3) := by decide +kernel
theorem dX8_nameMonth_19 : decode cX8_nameMonth 19 = .ok (.getfield 136, 3) := by decide +kernel
theorem dX8_nameMonth_22 : decode cX8_nameMonth 22 = .ok (.invokevirtual 323, 3) := by decide +kernel
theorem dX8_nameMonth_25 : decode cX8_nameMonth 25 = .ok (.aload_n 0, 1) := by decide +kernel
theorem dX8_nameMonth_26 : decode cX8_nameMonth 26 = .ok (.getfield 143, 3) := by decide +kernel
theorem dX8_nameMonth_29 : decode cX8_nameMonth 29 = .ok (.invokevirtual 326, 3) := by decide +kernel
theorem dX8_nameMonth_32 : decode cX8_nameMonth 32 = .ok (.return_, 1) := by decide +kernel
theorem dX8_statuteInForce_0 : decode cX8_statuteInForce 0 = .ok (.aload_n 0, 1) := by decide +kernel
theorem dX8_statuteInForce_1 : decode cX8_statuteInForce 1 = .ok (.getfield 208, 3) := by decide +kernel
theorem dX8_statuteInForce_4 : decode cX8_statuteInForce 4 = .ok (.iconst 1, 1) := by decide +kernel
theorem dX8_statuteInForce_5 : decode cX8_statuteInForce 5 = .ok (.isub, 1) := by decide +kernel
theorem dX8_statuteInForce_6 : decode cX8_statuteInForce 6 = .ok (.istore_n 1, 1) := by decide +kernel
theorem dX8_statuteInForce_7 : decode cX8_statuteInForce 7 = .ok (.iload_n 1, 1) := by decide +kernel
theorem dX8_statuteInForce_8 : decode cX8_statuteInForce 8 = .ok (.ifCond .lt 27, 3) := by decide +kernel
theorem dX8_statuteInForce_11 : decode cX8_statuteInForce 11 = .ok (.aload_n 0, 1) := by decide +kernel
theorem dX8_statuteInForce_12 : decode cX8_statuteInForce 12 = .ok (.getfield 56, 3) := by decide +kernel
theorem dX8_statuteInForce_15 : decode cX8_statuteInForce 15 = .ok (.iload_n 1, 1) := by decide +kernel
theorem dX8_statuteInForce_16 : decode cX8_statuteInForce 16 = .ok (.iaload, 1) := by decide +kernel
theorem dX8_statuteInForce_17 : decode cX8_statuteInForce 17 = .ok (.aload_n 0, 1) := by decide +kernel
theorem dX8_statuteInForce_18 : decode cX8_statuteInForce 18 = .ok (.getfield 26, 3) := by decide +kernel
theorem dX8_statuteInForce_21 : decode cX8_statuteInForce 21 = .ok (.getfield 136, 3) := by decide +kernel
theorem dX8_statuteInForce_24 : decode cX8_statuteInForce 24 = .ok (.if_icmp .gt 5, 3) := by decide +kernel
theorem dX8_statuteInForce_27 : decode cX8_statuteInForce 27 = .ok (.iload_n 1, 1) := by decide +kernel
theorem dX8_statuteInForce_28 : decode cX8_statuteInForce 28 = .ok (.ireturn, 1) := by decide +kernel
theorem dX8_statuteInForce_29 : decode cX8_statuteInForce 29 = .ok (.iinc 1 (-1), 3) := by decide +kernel
theorem dX8_statuteInForce_32 : decode cX8_statuteInForce 32 = .ok (.goto (-25), 3) := by decide +kernel
theorem dX8_statuteInForce_35 : decode cX8_statuteInForce 35 = .ok (.iconst (-1), 1) := by decide +kernel
theorem dX8_statuteInForce_36 : decode cX8_statuteInForce 36 = .ok (.ireturn, 1) := by decide +kernel
end
section
theorem dX9_init_0 : decode cX9_init 0 = .ok (.aload_n 0, 1) := by decide +kernel
theorem dX9_init_1 : decode cX9_init 1 = .ok (.invokespecial 1, 3) := by decide +kernel
theorem dX9_init_4 : decode cX9_init 4 = .ok (.aload_n 0, 1) := by decide +kernel
theorem dX9_init_5 : decode cX9_init 5 = .ok (.bipush 40, 2) := by decide +kernel
theorem dX9_init_7 : decode cX9_init 7 = .ok (.newarray .int, 2) := by decide +kernel
theorem dX9_init_9 : decode cX9_init 9 = .ok (.putfield 7, 3) := by decide +kernel
theorem dX9_init_12 : decode cX9_init 12 = .ok (.aload_n 0, 1) := by decide +kernel
theorem dX9_init_13 : decode cX9_init 13 = .ok (.bipush 40, 2) := by decide +kernel
theorem dX9_init_15 : decode cX9_init 15 = .ok (.newarray .int, 2) := by decide +kernel
theorem dX9_init_17 : decode cX9_init 17 = .ok (.putfield 13, 3) := by decide +kernel
theorem dX9_init_20 : decode cX9_init 20 = .ok (.aload_n 0, 1) := by decide +kernel
theorem dX9_init_21 : decode cX9_init 21 = .ok (.bipush 40, 2) := by decide +kernel
theorem dX9_init_23 : decode cX9_init 23 = .ok (.newarray .int, 2) := by decide +kernel
theorem dX9_init_25 : decode cX9_init 25 = .ok (.putfield 16, 3) := by decide +kernel
theorem dX9_init_28 : decode cX9_init 28 = .ok (.aload_n 0, 1) := by decide +kernel
theorem dX9_init_29 : decode cX9_init 29 = .ok (.bipush 40, 2) := by decide +kernel
theorem dX9_init_31 : decode cX9_init 31 = .ok (.newarray .int, 2) := by decide +kernel
theorem dX9_init_33 : decode cX9_init 33 = .ok (.putfield 19, 3) := by decide +kernel
theorem dX9_init_36 : decode cX9_init 36 = .ok (.aload_n 0, 1) := by decide +kernel
theorem dX9_init_37 : decode cX9_init 37 = .ok (.bipush 40, 2) := by decide +kernel
theorem dX9_init_39 : decode cX9_init 39 = .ok (.newarray .int, 2) := by decide +kernel
theorem dX9_init_41 : decode cX9_init 41 = .ok (.putfield 22, 3) := by decide +kernel
theorem dX9_init_44 : decode cX9_init 44 = .ok (.aload_n 0, 1) := by decide +kernel
theorem dX9_init_45 : decode cX9_init 45 = .ok (.bipush 40, 2) := by decide +kernel
theorem dX9_init_47 : decode cX9_init 47 = .ok (.newarray .int, 2) := by decide +kernel
theorem dX9_init_49 : decode cX9_init 49 = .ok (.putfield 25, 3) := by decide +kernel
theorem dX9_init_52 : decode cX9_init 52 = .ok (.aload_n 0, 1) := by decide +kernel
theorem dX9_init_53 : decode cX9_init 53 = .ok (.bipush 40, 2) := by decide +kernel
theorem dX9_init_55 : decode cX9_init 55 = .ok (.newarray .int, 2) := by decide +kernel
theorem dX9_init_57 : decode cX9_init 57 = .ok (.putfield 28, 3) := by decide +kernel
theorem dX9_init_60 : decode cX9_init 60 = .ok (.aload_n 0, 1) := by decide +kernel
theorem dX9_init_61 : decode cX9_init 61 = .ok (.bipush 40, 2) := by decide +kernel
theorem dX9_init_63 : decode cX9_init 63 = .ok (.newarray .int, 2) := by decide +kernel
theorem dX9_init_65 : decode cX9_init 65 = .ok (.putfield 31, 3) := by decide +kernel
theorem dX9_init_68 : decode cX9_init 68 = .ok (.aload_n 0, 1) := by decide +kernel
theorem dX9_init_69 : decode cX9_init 69 = .ok (.bipush 40, 2) := by decide +kernel
theorem dX9_init_71 : decode cX9_init 71 = .ok (.newarray .int, 2) := by decide +kernel
theorem dX9_init_73 : decode cX9_init 73 = .ok (.putfield 34, 3) := by decide +kernel
theorem dX9_init_76 : decode cX9_init 76 = .ok (.aload_n 0, 1) := by decide +kernel
theorem dX9_init_77 : decode cX9_init 77 = .ok (.bipush 40, 2) := by decide +kernel
theorem dX9_init_79 : decode cX9_init 79 = .ok (.newarray .int, 2) := by decide +kernel
theorem dX9_init_81 : decode cX9_init 81 = .ok (.putfield 37, 3) := by decide +kernel
theorem dX9_init_84 : decode cX9_init 84 = .ok (.aload_n 0, 1) := by decide +kernel
theorem dX9_init_85 : decode cX9_init 85 = .ok (.bipush 40, 2) := by decide +kernel
theorem dX9_init_87 : decode cX9_init 87 = .ok (.newarray .int, 2) := by decide +kernel
theorem dX9_init_89 : decode cX9_init 89 = .ok (.putfield 40, 3) := by decide +kernel
theorem dX9_init_92 : decode cX9_init 92 = .ok (.aload_n 0, 1) := by decide +kernel
theorem dX9_init_93 : decode cX9_init 93 = .ok (.bipush 40, 2) := by decide +kernel
theorem dX9_init_95 : decode cX9_init 95 = .ok (.newarray .int, 2) := by decide +kernel
theorem dX9_init_97 : decode cX9_init 97 = .ok (.putfield 43, 3) := by decide +kernel
theorem dX9_init_100 : decode cX9_init 100 = .ok (.aload_n 0, 1) := by decide +kernel
theorem dX9_init_101 : decode cX9_init 101 = .ok (.bipush 40, 2) := by decide +kernel
theorem dX9_init_103 : decode cX9_init 103 = .ok (.newarray .boolean, 2) := by decide +kernel
theorem dX9_init_105 : decode cX9_init 105 = .ok (.putfield 46, 3) := by decide +kernel
theorem dX9_init_108 : decode cX9_init 108 = .ok (.aload_n 0, 1) := by decide +kernel
theorem dX9_init_109 : decode cX9_init 109 = .ok (.bipush 40, 2) := by decide +kernel
theorem dX9_init_111 : decode cX9_init 111 = .ok (.newarray .int, 2) := by decide +kernel
theorem dX9_init_113 : decode cX9_init 113 = .ok (.putfield 50, 3) := by decide +kernel
theorem dX9_init_116 : decode cX9_init 116 = .ok (.aload_n 0, 1) := by decide +kernel
theorem dX9_init_117 : decode cX9_init 117 = .ok (.sipush 160, 3) := by decide +kernel
theorem dX9_init_120 : decode cX9_init 120 = .ok (.newarray .int, 2) := by decide +kernel
theorem dX9_init_122 : decode cX9_init 122 = .ok (.putfield 53, 3) := by decide +kernel
theorem dX9_init_125 : decode cX9_init 125 = .ok (.aload_n 0, 1) := by decide +kernel
theorem dX9_init_126 : decode cX9_init 126 = .ok (.sipush 160, 3) := by decide +kernel
theorem dX9_init_129 : decode cX9_init 129 = .ok (.newarray .int, 2) := by decide +kernel
theorem dX9_init_131 : decode cX9_init 131 = .ok (.putfield 56, 3) := by decide +kernel
theorem dX9_init_134 : decode cX9_init 134 = .ok (.aload_n 0, 1) := by decide +kernel
theorem dX9_init_135 : decode cX9_init 135 = .ok (.sipush 1201, 3) := by decide +kernel
theorem dX9_init_138 : decode cX9_init 138 = .ok (.newarray .boolean, 2) := by decide +kernel
theorem dX9_init_140 : decode cX9_init 140 = .ok (.putfield 59, 3) := by decide +kernel
theorem dX9_init_143 : decode cX9_init 143 = .ok (.aload_n 0, 1) := by decide +kernel
theorem dX9_init_144 : decode cX9_init 144 = .ok (.ldc 62, 2) := by decide +kernel
theorem dX9_init_146 : decode cX9_init 146 = .ok (.newarray .int, 2) := by decide +kernel
theorem dX9_init_148 : decode cX9_init 148 = .ok (.putfield 63, 3) := by decide +kernel
theorem dX9_init_151 : decode cX9_init 151 = .ok (.aload_n 0, 1) := by decide +kernel
theorem dX9_init_152 : decode cX9_init 152 = .ok (.bipush 61, 2) := by decide +kernel
theorem dX9_init_154 : decode cX9_init 154 = .ok (.newarray .int, 2) := by decide +kernel
theorem dX9_init_156 : decode cX9_init 156 = .ok (.putfield 66, 3) := by decide +kernel
theorem dX9_init_159 : decode cX9_init 159 = .ok (.aload_n 0, 1) := by decide +kernel
theorem dX9_init_160 : decode cX9_init 160 = .ok (.sipush 2440, 3) := by decide +kernel
theorem dX9_init_163 : decode cX9_init 163 = .ok (.newarray .int, 2) := by decide +kernel
theorem dX9_init_165 : decode cX9_init 165 = .ok (.putfield 69, 3) := by decide +kernel
theorem dX9_init_168 : decode cX9_init 168 = .ok (.aload_n 0, 1) := by decide +kernel
theorem dX9_init_169 : decode cX9_init 169 = .ok (.iconst 4, 1) := by decide +kernel
theorem dX9_init_170 : decode cX9_init 170 = .ok (.newarray .int, 2) := by decide +kernel
theorem dX9_init_172 : decode cX9_init 172 = .ok (.putfield 72, 3) := by decide +kernel
theorem dX9_init_175 : decode cX9_init 175 = .ok (.aload_n 0, 1) := by decide +kernel
theorem dX9_init_176 : decode cX9_init 176 = .ok (.bipush 40, 2) := by decide +kernel
theorem dX9_init_178 : decode cX9_init 178 = .ok (.newarray .int, 2) := by decide +kernel
theorem dX9_init_180 : decode cX9_init 180 = .ok (.putfield 75, 3) := by decide +kernel
theorem dX9_init_183 : decode cX9_init 183 = .ok (.aload_n 0, 1) := by decide +kernel
theorem dX9_init_184 : decode cX9_init 184 = .ok (.bipush 40, 2) := by decide +kernel
theorem dX9_init_186 : decode cX9_init 186 = .ok (.newarray .int, 2) := by decide +kernel
theorem dX9_init_188 : decode cX9_init 188 = .ok (.putfield 78, 3) := by decide +kernel
theorem dX9_init_191 : decode cX9_init 191 = .ok (.aload_n 0, 1) := by decide +kernel
theorem dX9_init_192 : decode cX9_init 192 = .ok (.bipush 100, 2) := by decide +kernel
theorem dX9_init_194 : decode cX9_init 194 = .ok (.newarray .byte, 2) := by decide +kernel
theorem dX9_init_196 : decode cX9_init 196 = .ok (.putfield 81, 3) := by decide +kernel
theorem dX9_init_199 : decode cX9_init 199 = .ok (.aload_n 0, 1) := by decide +kernel
theorem dX9_init_200 : decode cX9_init 200 = .ok (.bipush 51, 2) := by decide +kernel
theorem dX9_init_202 : decode cX9_init 202 = .ok (.newarray .int, 2) := by decide +kernel
theorem dX9_init_204 : decode cX9_init 204 = .ok (.putfield 85, 3) := by decide +kernel
theorem dX9_init_207 : decode cX9_init 207 = .ok (.aload_n 0, 1) := by decide +kernel
theorem dX9_init_208 : decode cX9_init 208 = .ok (.sipush 5100, 3) := by decide +kernel
theorem dX9_init_211 : decode cX9_init 211 = .ok (.newarray .int, 2) := by decide +kernel
theorem dX9_init_213 : decode cX9_init 213 = .ok (.putfield 88, 3) := by decide +kernel
theorem dX9_init_216 : decode cX9_init 216 = .ok (.aload_n 0, 1) := by decide +kernel
theorem dX9_init_217 : decode cX9_init 217 = .ok (.bipush 21, 2) := by decide +kernel
theorem dX9_init_219 : decode cX9_init 219 = .ok (.newarray .int, 2) := by decide +kernel
theorem dX9_init_221 : decode cX9_init 221 = .ok (.putfield 91, 3) := by decide +kernel
theorem dX9_init_224 : decode cX9_init 224 = .ok (.aload_n 0, 1) := by decide +kernel
theorem dX9_init_225 : decode cX9_init 225 = .ok (.bipush 100, 2) := by decide +kernel
theorem dX9_init_227 : decode cX9_init 227 = .ok (.newarray .int, 2) := by decide +kernel
theorem dX9_init_229 : decode cX9_init 229 = .ok (.putfield 94, 3) := by decide +kernel
theorem dX9_init_232 : decode cX9_init 232 = .ok (.aload_n 0, 1) := by decide +kernel
theorem dX9_init_233 : decode cX9_init 233 = .ok (.bipush 30, 2) := by decide +kernel
theorem dX9_init_235 : decode cX9_init 235 = .ok (.newarray .int, 2) := by decide +kernel
theorem dX9_init_237 : decode cX9_init 237 = .ok (.putfield 97, 3) := by decide +kernel
theorem dX9_init_240 : decode cX9_init 240 = .ok (.aload_n 0, 1) := by decide +kernel
theorem dX9_init_241 : decode cX9_init 241 = .ok (.bipush 30, 2) := by decide +kernel
theorem dX9_init_243 : decode cX9_init 243 = .ok (.newarray .int, 2) := by decide +kernel
theorem dX9_init_245 : decode cX9_init 245 = .ok (.putfield 100, 3) := by decide +kernel
theorem dX9_init_248 : decode cX9_init 248 = .ok (.aload_n 0, 1) := by decide +kernel
theorem dX9_init_249 : decode cX9_init 249 = .ok (.bipush 30, 2) := by decide +kernel
theorem dX9_init_251 : decode cX9_init 251 = .ok (.newarray .int, 2) := by decide +kernel
theorem dX9_init_253 : decode cX9_init 253 = .ok (.putfield 103, 3) := by decide +kernel
theorem dX9_init_256 : decode cX9_init 256 = .ok (.aload_n 0, 1) := by decide +kernel
theorem dX9_init_257 : decode cX9_init 257 = .ok (.bipush 20, 2) := by decide +kernel
theorem dX9_init_259 : decode cX9_init 259 = .ok (.newarray .int, 2) := by decide +kernel
theorem dX9_init_261 : decode cX9_init 261 = .ok (.putfield 106, 3) := by decide +kernel
theorem dX9_init_264 : decode cX9_init 264 = .ok (.aload_n 0, 1) := by decide +kernel
theorem dX9_init_265 : decode cX9_init 265 = .ok (.bipush 20, 2) := by decide +kernel
theorem dX9_init_267 : decode cX9_init 267 = .ok (.newarray .int, 2) := by decide +kernel
theorem dX9_init_269 : decode cX9_init 269 = .ok (.putfield 109, 3) := by decide +kernel
theorem dX9_init_272 : decode cX9_init 272 = .ok (.aload_n 0, 1) := by decide +kernel
theorem dX9_init_273 : decode cX9_init 273 = .ok (.bipush 30, 2) := by decide +kernel
theorem dX9_init_275 : decode cX9_init 275 = .ok (.newarray .boolean, 2) := by decide +kernel
theorem dX9_init_277 : decode cX9_init 277 = .ok (.putfield 112, 3) := by decide +kernel
theorem dX9_init_280 : decode cX9_init 280 = .ok (.aload_n 0, 1) := by decide +kernel
theorem dX9_init_281 : decode cX9_init 281 = .ok (.bipush 40, 2) := by decide +kernel
theorem dX9_init_283 : decode cX9_init 283 = .ok (.newarray .boolean, 2) := by decide +kernel
theorem dX9_init_285 : decode cX9_init 285 = .ok (.putfield 115, 3) := by decide +kernel
theorem dX9_init_288 : decode cX9_init 288 = .ok (.return_, 1) := by decide +kernel
theorem dX9_in_0 : decode cX9_in 0 = .ok (.iload_n 0, 1) := by decide +kernel
theorem dX9_in_1 : decode cX9_in 1 = .ok (.iload_n 1, 1) := by decide +kernel
theorem dX9_in_2 : decode cX9_in 2 = .ok (.if_icmp .lt 12, 3) := by decide +kernel
theorem dX9_in_5 : decode cX9_in 5 = .ok (.iload_n 0, 1) := by decide +kernel
theorem dX9_in_6 : decode cX9_in 6 = .ok (.iload_n 2, 1) := by decide +kernel
theorem dX9_in_7 : decode cX9_in 7 = .ok (.if_icmp .gt 7, 3) := by decide +kernel
theorem dX9_in_10 : decode cX9_in 10 = .ok (.iconst 1, 1) := by decide +kernel
theorem dX9_in_11 : decode cX9_in 11 = .ok (.goto 4, 3) := by decide +kernel
theorem dX9_in_14 : decode cX9_in 14 = .ok (.iconst 0, 1) := by decide +kernel
theorem dX9_in_15 : decode cX9_in 15 = .ok (.ireturn, 1) := by decide +kernel
theorem dX9_isPart_0 : decode cX9_isPart 0 = .ok (.iload_n 1, 1) := by decide +kernel
theorem dX9_isPart_1 : decode cX9_isPart 1 = .ok (.iconst 0, 1) := by decide +kernel
theorem dX9_isPart_2 : decode cX9_isPart 2 = .ok (.aload_n 0, 1) := by decide +kernel
theorem dX9_isPart_3 : decode cX9_isPart 3 = .ok (.getfield 122, 3) := by decide +kernel
theorem dX9_isPart_6 : decode cX9_isPart 6 = .ok (.iconst 1, 1) := by decide +kernel
theorem dX9_isPart_7 : decode cX9_isPart 7 = .ok (.isub, 1) := by decide +kernel
theorem dX9_isPart_8 : decode cX9_isPart 8 = .ok (.invokestatic 125, 3) := by decide +kernel
theorem dX9_isPart_11 : decode cX9_isPart 11 = .ok (.ireturn, 1) := by decide +kernel
theorem dX9_newPart_0 : decode cX9_newPart 0 = .ok (.aload_n 0, 1) := by decide +kernel
theorem dX9_newPart_1 : decode cX9_newPart 1 = .ok (.getfield 122, 3) := by decide +kernel
theorem dX9_newPart_4 : decode cX9_newPart 4 = .ok (.istore 5, 2) := by decide +kernel
theorem dX9_newPart_6 : decode cX9_newPart 6 = .ok (.aload_n 0, 1) := by decide +kernel
theorem dX9_newPart_7 : decode cX9_newPart 7 = .ok (.getfield 7, 3) := by decide +kernel
theorem dX9_newPart_10 : decode cX9_newPart 10 = .ok (.iload 5, 2) := by decide +kernel
theorem dX9_newPart_12 : decode cX9_newPart 12 = .ok (.iload_n 1, 1) := by decide +kernel
theorem dX9_newPart_13 : decode cX9_newPart 13 = .ok (.iastore, 1) := by decide +kernel
theorem dX9_newPart_14 : decode cX9_newPart 14 = .ok (.aload_n 0, 1) := by decide +kernel
theorem dX9_newPart_15 : decode cX9_newPart 15 = .ok (.getfield 13, 3) := by decide +kernel
theorem dX9_newPart_18 : decode cX9_newPart 18 = .ok (.iload 5, 2) := by decide +kernel
theorem dX9_newPart_20 : decode cX9_newPart 20 = .ok (.iload_n 2, 1) := by decide +kernel
theorem dX9_newPart_21 : decode cX9_newPart 21 = .ok (.iastore, 1) := by decide +kernel
theorem dX9_newPart_22 : decode cX9_newPart 22 = .ok (.aload_n 0, 1) := by decide +kernel
theorem dX9_newPart_23 : decode cX9_newPart 23 = .ok (.getfield 16, 3) := by decide +kernel
theorem dX9_newPart_26 : decode cX9_newPart 26 = .ok (.iload 5, 2) := by decide +kernel
theorem dX9_newPart_28 : decode cX9_newPart 28 = .ok (.iload_n 2, 1) := by decide +kernel
theorem dX9_newPart_29 : decode cX9_newPart 29 = .ok (.iastore, 1) := by decide +kernel
theorem dX9_newPart_30 : decode cX9_newPart 30 = .ok (.aload_n 0, 1) := by decide +kernel
theorem dX9_newPart_31 : decode cX9_newPart 31 = .ok (.getfield 19, 3) := by decide +kernel
theorem dX9_newPart_34 : decode cX9_newPart 34 = .ok (.iload 5, 2) := by decide +kernel
theorem dX9_newPart_36 : decode cX9_newPart 36 = .ok (.iload_n 3, 1) := by decide +kernel
theorem dX9_newPart_37 : decode cX9_newPart 37 = .ok (.iastore, 1) := by decide +kernel
theorem dX9_newPart_38 : decode cX9_newPart 38 = .ok (.aload_n 0, 1) := by decide +kernel
theorem dX9_newPart_39 : decode cX9_newPart 39 = .ok (.getfield 22, 3) := by decide +kernel
theorem dX9_newPart_42 : decode cX9_newPart 42 = .ok (.iload 5, 2) := by decide +kernel
theorem dX9_newPart_44 : decode cX9_newPart 44 = .ok (.iload 4, 2) := by decide +kernel
theorem dX9_newPart_46 : decode cX9_newPart 46 = .ok (.iastore, 1) := by decide +kernel
theorem dX9_newPart_47 : decode cX9_newPart 47 = .ok (.aload_n 0, 1) := by decide +kernel
theorem dX9_newPart_48 : decode cX9_newPart 48 = .ok (.getfield 25, 3) := by decide +kernel
theorem dX9_newPart_51 : decode cX9_newPart 51 = .ok (.iload 5, 2) := by decide +kernel
theorem dX9_newPart_53 : decode cX9_newPart 53 = .ok (.ldc 129, 2) := by decide +kernel
theorem dX9_newPart_55 : decode cX9_newPart 55 = .ok (.iastore, 1) := by decide +kernel
theorem dX9_newPart_56 : decode cX9_newPart 56 = .ok (.aload_n 0, 1) := by decide +kernel
theorem dX9_newPart_57 : decode cX9_newPart 57 = .ok (.getfield 28, 3) := by decide +kernel
theorem dX9_newPart_60 : decode cX9_newPart 60 = .ok (.iload 5, 2) := by decide +kernel
theorem dX9_newPart_62 : decode cX9_newPart 62 = .ok (.iconst 0, 1) := by decide +kernel
theorem dX9_newPart_63 : decode cX9_newPart 63 = .ok (.iastore, 1) := by decide +kernel
theorem dX9_newPart_64 : decode cX9_newPart 64 = .ok (.aload_n 0, 1) := by decide +kernel
theorem dX9_newPart_65 : decode cX9_newPart 65 = .ok (.getfield 31, 3) := by decide +kernel
theorem dX9_newPart_68 : decode cX9_newPart 68 = .ok (.iload 5, 2) := by decide +kernel
theorem dX9_newPart_70 : decode cX9_newPart 70 = .ok (.bipush 50, 2) := by decide +kernel
theorem dX9_newPart_72 : decode cX9_newPart 72 = .ok (.iastore, 1) := by decide +kernel
theorem dX9_newPart_73 : decode cX9_newPart 73 = .ok (.aload_n 0, 1) := by decide +kernel
theorem dX9_newPart_74 : decode cX9_newPart 74 = .ok (.getfield 34, 3) := by decide +kernel
theorem dX9_newPart_77 : decode cX9_newPart 77 = .ok (.iload 5, 2) := by decide +kernel
theorem dX9_newPart_79 : decode cX9_newPart 79 = .ok (.iconst 3, 1) := by decide +kernel
theorem dX9_newPart_80 : decode cX9_newPart 80 = .ok (.iastore, 1) := by decide +kernel
theorem dX9_newPart_81 : decode cX9_newPart 81 = .ok (.aload_n 0, 1) := by decide +kernel
theorem dX9_newPart_82 : decode cX9_newPart 82 = .ok (.getfield 37, 3) := by decide +kernel
theorem dX9_newPart_85 : decode cX9_newPart 85 = .ok (.iload 5, 2) := by decide +kernel
theorem dX9_newPart_87 : decode cX9_newPart 87 = .ok (.iconst 0, 1) := by decide +kernel
theorem dX9_newPart_88 : decode cX9_newPart 88 = .ok (.iastore, 1) := by decide +kernel
theorem dX9_newPart_89 : decode cX9_newPart 89 = .ok (.aload_n 0, 1) := by decide +kernel
theorem dX9_newPart_90 : decode cX9_newPart 90 = .ok (.getfield 40, 3) := by decide +kernel
theorem dX9_newPart_93 : decode cX9_newPart 93 = .ok (.iload 5, 2) := by decide +kernel
theorem dX9_newPart_95 : decode cX9_newPart 95 = .ok (.iconst 0, 1) := by decide +kernel
theorem dX9_newPart_96 : decode cX9_newPart 96 = .ok (.iastore, 1) := by decide +kernel
theorem dX9_newPart_97 : decode cX9_newPart 97 = .ok (.aload_n 0, 1) := by decide +kernel
theorem dX9_newPart_98 : decode cX9_newPart 98 = .ok (.getfield 43, 3) := by decide +kernel
theorem dX9_newPart_101 : decode cX9_newPart 101 = .ok (.iload 5, 2) := by decide +kernel
theorem dX9_newPart_103 : decode cX9_newPart 103 = .ok (.iconst 0, 1) := by decide +kernel
theorem dX9_newPart_104 : decode cX9_newPart 104 = .ok (.iastore, 1) := by decide +kernel
theorem dX9_newPart_105 : decode cX9_newPart 105 = .ok (.aload_n 0, 1) := by decide +kernel
theorem dX9_newPart_106 : decode cX9_newPart 106 = .ok (.getfield 46, 3) := by decide +kernel
theorem dX9_newPart_109 : decode cX9_newPart 109 = .ok (.iload 5, 2) := by decide +kernel
theorem dX9_newPart_111 : decode cX9_newPart 111 = .ok (.iconst 0, 1) := by decide +kernel
theorem dX9_newPart_112 : decode cX9_newPart 112 = .ok (.bastore, 1) := by decide +kernel
theorem dX9_newPart_113 : decode cX9_newPart 113 = .ok (.aload_n 0, 1) := by decide +kernel
theorem dX9_newPart_114 : decode cX9_newPart 114 = .ok (.getfield 50, 3) := by decide +kernel
theorem dX9_newPart_117 : decode cX9_newPart 117 = .ok (.iload 5, 2) := by decide +kernel
theorem dX9_newPart_119 : decode cX9_newPart 119 = .ok (.iconst 0, 1) := by decide +kernel
theorem dX9_newPart_120 : decode cX9_newPart 120 = .ok (.iastore, 1) := by decide +kernel
theorem dX9_newPart_121 : decode cX9_newPart 121 = .ok (.aload_n 0, 1) := by decide +kernel
theorem dX9_newPart_122 : decode cX9_newPart 122 = .ok (.dup, 1) := by decide +kernel
theorem dX9_newPart_123 : decode cX9_newPart 123 = .ok (.getfield 122, 3) := by decide +kernel
theorem dX9_newPart_126 : decode cX9_newPart 126 = .ok (.iconst 1, 1) := by decide +kernel
theorem dX9_newPart_127 : decode cX9_newPart 127 = .ok (.iadd, 1) := by decide +kernel
theorem dX9_newPart_128 : decode cX9_newPart 128 = .ok (.putfield 122, 3) := by decide +kernel
theorem dX9_newPart_131 : decode cX9_newPart 131 = .ok (.iload 5, 2) := by decide +kernel
theorem dX9_newPart_133 : decode cX9_newPart 133 = .ok (.ireturn, 1) := by decide +kernel
theorem dX9_isPlan_0 : decode cX9_isPlan 0 = .ok (.iload_n 0, 1) := by decide +kernel
theorem dX9_isPlan_1 : decode cX9_isPlan 1 = .ok (.iconst 1, 1) := by decide +kernel
theorem dX9_isPlan_2 : decode cX9_isPlan 2 = .ok (.bipush 30, 2) := by decide +kernel
theorem dX9_isPlan_4 : decode cX9_isPlan 4 = .ok (.invokestatic 125, 3) := by decide +kernel
theorem dX9_isPlan_7 : decode cX9_isPlan 7 = .ok (.ifCond .eq 29, 3) := by decide +kernel
theorem dX9_isPlan_10 : decode cX9_isPlan 10 = .ok (.iload_n 1, 1) := by decide +kernel
theorem dX9_isPlan_11 : decode cX9_isPlan 11 = .ok (.iconst 1, 1) := by decide +kernel
theorem dX9_isPlan_12 : decode cX9_isPlan 12 = .ok (.sipush 999, 3) := by decide +kernel
theorem dX9_isPlan_15 : decode cX9_isPlan 15 = .ok (.invokestatic 125, 3) := by decide +kernel
theorem dX9_isPlan_18 : decode cX9_isPlan 18 = .ok (.ifCond .eq 18, 3) := by decide +kernel
theorem dX9_isPlan_21 : decode cX9_isPlan 21 = .ok (.iload_n 2, 1) := by decide +kernel
theorem dX9_isPlan_22 : decode cX9_isPlan 22 = .ok (.iconst 0, 1) := by decide +kernel
theorem dX9_isPlan_23 : decode cX9_isPlan 23 = .ok (.sipush 999, 3) := by decide +kernel
theorem dX9_isPlan_26 : decode cX9_isPlan 26 = .ok (.invokestatic 125, 3) := by decide +kernel
theorem dX9_isPlan_29 : decode cX9_isPlan 29 = .ok (.ifCond .eq 7, 3) := by decide +kernel
theorem dX9_isPlan_32 : decode cX9_isPlan 32 = .ok (.iconst 1, 1) := by decide +kernel
theorem dX9_isPlan_33 : decode cX9_isPlan 33 = .ok (.goto 4, 3) := by decide +kernel
theorem dX9_isPlan_36 : decode cX9_isPlan 36 = .ok (.iconst 0, 1) := by decide +kernel
theorem dX9_isPlan_37 : decode cX9_isPlan 37 = .ok (.ireturn, 1) := by decide +kernel
theorem dX9_part_0 : decode cX9_part 0 = .ok (.iload_n 1, 1) := by decide +kernel
theorem dX9_part_1 : decode cX9_part 1 = .ok (.iload_n 2, 1) := by decide +kernel
theorem dX9_part_2 : decode cX9_part 2 = .ok (.iload_n 3, 1) := by decide +kernel
theorem dX9_part_3 : decode cX9_part 3 = .ok (.invokestatic 130, 3) := by decide +kernel
theorem dX9_part_6 : decode cX9_part 6 = .ok (.ifCond .ne 5, 3) := by decide +kernel
theorem dX9_part_9 : decode cX9_part 9 = .ok (.iconst (-1), 1) := by decide +kernel
theorem dX9_part_10 : decode cX9_part 10 = .ok (.ireturn, 1) := by decide +kernel
theorem dX9_part_11 : decode cX9_part 11 = .ok (.aload_n 0, 1) := by decide +kernel
theorem dX9_part_12 : decode cX9_part 12 = .ok (.getfield 122, 3) := by decide +kernel
theorem dX9_part_15 : decode cX9_part 15 = .ok (.bipush 40, 2) := by decide +kernel
theorem dX9_part_17 : decode cX9_part 17 = .ok (.if_icmp .ne 8, 3) := by decide +kernel
theorem dX9_part_20 : decode cX9_part 20 = .ok (.bipush (-3), 2) := by decide +kernel
theorem dX9_part_22 : decode cX9_part 22 = .ok (.goto 11, 3) := by decide +kernel
theorem dX9_part_25 : decode cX9_part 25 = .ok (.aload_n 0, 1) := by decide +kernel
theorem dX9_part_26 : decode cX9_part 26 = .ok (.iconst 0, 1) := by decide +kernel
theorem dX9_part_27 : decode cX9_part 27 = .ok (.iload_n 1, 1) := by decide +kernel
theorem dX9_part_28 : decode cX9_part 28 = .ok (.iload_n 2, 1) := by decide +kernel
theorem dX9_part_29 : decode cX9_part 29 = .ok (.iload_n 3, 1) := by decide +kernel
theorem dX9_part_30 : decode cX9_part 30 = .ok (.invokevirtual 133, 3) := by decide +kernel
theorem dX9_part_33 : decode cX9_part 33 = .ok (.ireturn, 1) := by decide +kernel
theorem dX9_support0_0 : decode cX9_support0 0 = .ok (.aload_n 0, 1) := by decide +kernel
theorem dX9_support0_1 : decode cX9_support0 1 = .ok (.getfield 53, 3) := by decide +kernel
theorem dX9_support0_4 : decode cX9_support0 4 = .ok (.iconst 4, 1) := by decide +kernel
theorem dX9_support0_5 : decode cX9_support0 5 = .ok (.iload_n 1, 1) := by decide +kernel
theorem dX9_support0_6 : decode cX9_support0 6 = .ok (.imul, 1) := by decide +kernel
theorem dX9_support0_7 : decode cX9_support0 7 = .ok (.iload_n 2, 1) := by decide +kernel
theorem dX9_support0_8 : decode cX9_support0 8 = .ok (.iadd, 1) := by decide +kernel
theorem dX9_support0_9 : decode cX9_support0 9 = .ok (.iload_n 3, 1) := by decide +kernel
theorem dX9_support0_10 : decode cX9_support0 10 = .ok (.iastore, 1) := by decide +kernel
theorem dX9_support0_11 : decode cX9_support0 11 = .ok (.aload_n 0, 1) := by decide +kernel
theorem dX9_support0_12 : decode cX9_support0 12 = .ok (.getfield 56, 3) := by decide +kernel
theorem dX9_support0_15 : decode cX9_support0 15 = .ok (.iconst 4, 1) := by decide +kernel
theorem dX9_support0_16 : decode cX9_support0 16 = .ok (.iload_n 1, 1) := by decide +kernel
theorem dX9_support0_17 : decode cX9_support0 17 = .ok (.imul, 1) := by decide +kernel
theorem dX9_support0_18 : decode cX9_support0 18 = .ok (.iload_n 2, 1) := by decide +kernel
theorem dX9_support0_19 : decode cX9_support0 19 = .ok (.iadd, 1) := by decide +kernel
theorem dX9_support0_20 : decode cX9_support0 20 = .ok (.iload 4, 2) := by decide +kernel
theorem dX9_support0_22 : decode cX9_support0 22 = .ok (.iastore, 1) := by decide +kernel
theorem dX9_support0_23 : decode cX9_support0 23 = .ok (.aload_n 0, 1) := by decide +kernel
theorem dX9_support0_24 : decode cX9_support0 24 = .ok (.getfield 50, 3) := by decide +kernel
theorem dX9_support0_27 : decode cX9_support0 27 = .ok (.iload_n 1, 1) := by decide +kernel
theorem dX9_support0_28 : decode cX9_support0 28 = .ok (.iload_n 2, 1) := by decide +kernel
theorem dX9_support0_29 : decode cX9_support0 29 = .ok (.iconst 1, 1) := by decide +kernel
theorem dX9_support0_30 : decode cX9_support0 30 = .ok (.iadd, 1) := by decide +kernel
theorem dX9_support0_31 : decode cX9_support0 31 = .ok (.iastore, 1) := by decide +kernel
theorem dX9_support0_32 : decode cX9_support0 32 = .ok (.return_, 1) := by decide +kernel
theorem dX9_arch_0 : decode cX9_arch 0 = .ok (.iload_n 1, 1) := by decide +kernel
theorem dX9_arch_1 : decode cX9_arch 1 = .ok (.iload_n 2, 1) := by decide +kernel
theorem dX9_arch_2 : decode cX9_arch 2 = .ok (.iload_n 3, 1) := by decide +kernel
theorem dX9_arch_3 : decode cX9_arch 3 = .ok (.invokestatic 130, 3) := by decide +kernel
theorem dX9_arch_6 : decode cX9_arch 6 = .ok (.ifCond .eq 28, 3) := by decide +kernel
theorem dX9_arch_9 : decode cX9_arch 9 = .ok (.aload_n 0, 1) := by decide +kernel
theorem dX9_arch_10 : decode cX9_arch 10 = .ok (.iload 4, 2) := by decide +kernel
theorem dX9_arch_12 : decode cX9_arch 12 = .ok (.invokevirtual 137, 3) := by decide +kernel
theorem dX9_arch_15 : decode cX9_arch 15 = .ok (.ifCond .eq 19, 3) := by decide +kernel
theorem dX9_arch_18 : decode cX9_arch 18 = .ok (.aload_n 0, 1) := by decide +kernel
theorem dX9_arch_19 : decode cX9_arch 19 = .ok (.iload 5, 2) := by decide +kernel
theorem dX9_arch_21 : decode cX9_arch 21 = .ok (.invokevirtual 137, 3) := by decide +kernel
theorem dX9_arch_24 : decode cX9_arch 24 = .ok (.ifCond .eq 10, 3) := by decide +kernel
theorem dX9_arch_27 : decode cX9_arch 27 = .ok (.iload 4, 2) := by decide +kernel
theorem dX9_arch_29 : decode cX9_arch 29 = .ok (.iload 5, 2) := by decide +kernel
theorem dX9_arch_31 : decode cX9_arch 31 = .ok (.if_icmp .ne 5, 3) := by decide +kernel
theorem dX9_arch_34 : decode cX9_arch 34 = .ok (.iconst (-1), 1) := by decide +kernel
theorem dX9_arch_35 : decode cX9_arch 35 = .ok (.ireturn, 1) := by decide +kernel
theorem dX9_arch_36 : decode cX9_arch 36 = .ok (.aload_n 0, 1) := by decide +kernel
theorem dX9_arch_37 : decode cX9_arch 37 = .ok (.getfield 122, 3) := by decide +kernel
theorem dX9_arch_40 : decode cX9_arch 40 = .ok (.bipush 40, 2) := by decide +kernel
theorem dX9_arch_42 : decode cX9_arch 42 = .ok (.if_icmp .ne 6, 3) := by decide +kernel
theorem dX9_arch_45 : decode cX9_arch 45 = .ok (.bipush (-3), 2) := by decide +kernel
theorem dX9_arch_47 : decode cX9_arch 47 = .ok (.ireturn, 1) := by decide +kernel
theorem dX9_arch_48 : decode cX9_arch 48 = .ok (.aload_n 0, 1) := by decide +kernel
theorem dX9_arch_49 : decode cX9_arch 49 = .ok (.iconst 1, 1) := by decide +kernel
theorem dX9_arch_50 : decode cX9_arch 50 = .ok (.iload_n 1, 1) := by decide +kernel
theorem dX9_arch_51 : decode cX9_arch 51 = .ok (.iload_n 2, 1) := by decide +kernel
theorem dX9_arch_52 : decode cX9_arch 52 = .ok (.iload_n 3, 1) := by decide +kernel
theorem dX9_arch_53 : decode cX9_arch 53 = .ok (.invokevirtual 133, 3) := by decide +kernel
theorem dX9_arch_56 : decode cX9_arch 56 = .ok (.istore 6, 2) := by decide +kernel
theorem dX9_arch_58 : decode cX9_arch 58 = .ok (.aload_n 0, 1) := by decide +kernel
theorem dX9_arch_59 : decode cX9_arch 59 = .ok (.iload 6, 2) := by decide +kernel
theorem dX9_arch_61 : decode cX9_arch 61 = .ok (.iconst 0, 1) := by decide +kernel
theorem dX9_arch_62 : decode cX9_arch 62 = .ok (.iload 4, 2) := by decide +kernel
theorem dX9_arch_64 : decode cX9_arch 64 = .ok (.bipush 6, 2) := by decide +kernel
theorem dX9_arch_66 : decode cX9_arch 66 = .ok (.invokevirtual 141, 3) := by decide +kernel
theorem dX9_arch_69 : decode cX9_arch 69 = .ok (.aload_n 0, 1) := by decide +kernel
theorem dX9_arch_70 : decode cX9_arch 70 = .ok (.iload 6, 2) := by decide +kernel
theorem dX9_arch_72 : decode cX9_arch 72 = .ok (.iconst 1, 1) := by decide +kernel
theorem dX9_arch_73 : decode cX9_arch 73 = .ok (.iload 5, 2) := by decide +kernel
theorem dX9_arch_75 : decode cX9_arch 75 = .ok (.bipush 6, 2) := by decide +kernel
theorem dX9_arch_77 : decode cX9_arch 77 = .ok (.invokevirtual 141, 3) := by decide +kernel
theorem dX9_arch_80 : decode cX9_arch 80 = .ok (.iload 6, 2) := by decide +kernel
theorem dX9_arch_82 : decode cX9_arch 82 = .ok (.ireturn, 1) := by decide +kernel
theorem dX9_edition_0 : decode cX9_edition 0 = .ok (.aload_n 0, 1) := by decide +kernel
theorem dX9_edition_1 : decode cX9_edition 1 = .ok (.dup, 1) := by decide +kernel
theorem dX9_edition_2 : decode cX9_edition 2 = .ok (.getfield 145, 3) := by decide +kernel
theorem dX9_edition_5 : decode cX9_edition 5 = .ok (.iconst 1, 1) := by decide +kernel
theorem dX9_edition_6 : decode cX9_edition 6 = .ok (.iadd, 1) := by decide +kernel
theorem dX9_edition_7 : decode cX9_edition 7 = .ok (.putfield 145, 3) := by decide +kernel
theorem dX9_edition_10 : decode cX9_edition 10 = .ok (.aload_n 0, 1) := by decide +kernel
theorem dX9_edition_11 : decode cX9_edition 11 = .ok (.getfield 66, 3) := by decide +kernel
theorem dX9_edition_14 : decode cX9_edition 14 = .ok (.aload_n 0, 1) := by decide +kernel
theorem dX9_edition_15 : decode cX9_edition 15 = .ok (.getfield 145, 3) := by decide +kernel
theorem dX9_edition_18 : decode cX9_edition 18 = .ok (.aload_n 0, 1) := by decide +kernel
theorem dX9_edition_19 : decode cX9_edition 19 = .ok (.getfield 122, 3) := by decide +kernel
theorem dX9_edition_22 : decode cX9_edition 22 = .ok (.iastore, 1) := by decide +kernel
theorem dX9_edition_23 : decode cX9_edition 23 = .ok (.iconst 0, 1) := by decide +kernel
theorem dX9_edition_24 : decode cX9_edition 24 = .ok (.istore_n 1, 1) := by decide +kernel
theorem dX9_edition_25 : decode cX9_edition 25 = .ok (.iload_n 1, 1) := by decide +kernel
theorem dX9_edition_26 : decode cX9_edition 26 = .ok (.aload_n 0, 1) := by decide +kernel
theorem dX9_edition_27 : decode cX9_edition 27 = .ok (.getfield 122, 3) := by decide +kernel
theorem dX9_edition_30 : decode cX9_edition 30 = .ok (.if_icmp .ge 29, 3) := by decide +kernel
theorem dX9_edition_33 : decode cX9_edition 33 = .ok (.aload_n 0, 1) := by decide +kernel
theorem dX9_edition_34 : decode cX9_edition 34 = .ok (.getfield 69, 3) := by decide +kernel
theorem dX9_edition_37 : decode cX9_edition 37 = .ok (.bipush 40, 2) := by decide +kernel
theorem dX9_edition_39 : decode cX9_edition 39 = .ok (.aload_n 0, 1) := by decide +kernel
theorem dX9_edition_40 : decode cX9_edition 40 = .ok (.getfield 145, 3) := by decide +kernel
theorem dX9_edition_43 : decode cX9_edition 43 = .ok (.imul, 1) := by decide +kernel
theorem dX9_edition_44 : decode cX9_edition 44 = .ok (.iload_n 1, 1) := by decide +kernel
theorem dX9_edition_45 : decode cX9_edition 45 = .ok (.iadd, 1) := by decide +kernel
theorem dX9_edition_46 : decode cX9_edition 46 = .ok (.aload_n 0, 1) := by decide +kernel
theorem dX9_edition_47 : decode cX9_edition 47 = .ok (.getfield 13, 3) := by decide +kernel
theorem dX9_edition_50 : decode cX9_edition 50 = .ok (.iload_n 1, 1) := by decide +kernel
theorem dX9_edition_51 : decode cX9_edition 51 = .ok (.iaload, 1) := by decide +kernel
theorem dX9_edition_52 : decode cX9_edition 52 = .ok (.iastore, 1) := by decide +kernel
theorem dX9_edition_53 : decode cX9_edition 53 = .ok (.iinc 1 1, 3) := by decide +kernel
theorem dX9_edition_56 : decode cX9_edition 56 = .ok (.goto (-31), 3) := by decide +kernel
theorem dX9_edition_59 : decode cX9_edition 59 = .ok (.return_, 1) := by decide +kernel
theorem dX9_bear_0 : decode cX9_bear 0 = .ok (.aload_n 0, 1) := by decide +kernel
theorem dX9_bear_1 : decode cX9_bear 1 = .ok (.iload_n 1, 1) := by decide +kernel
theorem dX9_bear_2 : decode cX9_bear 2 = .ok (.invokevirtual 137, 3) := by decide +kernel
theorem dX9_bear_5 : decode cX9_bear 5 = .ok (.ifCond .ne 5, 3) := by decide +kernel
theorem dX9_bear_8 : decode cX9_bear 8 = .ok (.iconst (-1), 1) := by decide +kernel
theorem dX9_bear_9 : decode cX9_bear 9 = .ok (.ireturn, 1) := by decide +kernel
theorem dX9_bear_10 : decode cX9_bear 10 = .ok (.aload_n 0, 1) := by decide +kernel
theorem dX9_bear_11 : decode cX9_bear 11 = .ok (.getfield 72, 3) := by decide +kernel
theorem dX9_bear_14 : decode cX9_bear 14 = .ok (.iconst 0, 1) := by decide +kernel
theorem dX9_bear_15 : decode cX9_bear 15 = .ok (.iload_n 2, 1) := by decide +kernel
theorem dX9_bear_16 : decode cX9_bear 16 = .ok (.iastore, 1) := by decide +kernel
theorem dX9_bear_17 : decode cX9_bear 17 = .ok (.aload_n 0, 1) := by decide +kernel
theorem dX9_bear_18 : decode cX9_bear 18 = .ok (.getfield 72, 3) := by decide +kernel
theorem dX9_bear_21 : decode cX9_bear 21 = .ok (.iconst 1, 1) := by decide +kernel
theorem dX9_bear_22 : decode cX9_bear 22 = .ok (.iload_n 3, 1) := by decide +kernel
theorem dX9_bear_23 : decode cX9_bear 23 = .ok (.iastore, 1) := by decide +kernel
theorem dX9_bear_24 : decode cX9_bear 24 = .ok (.aload_n 0, 1) := by decide +kernel
theorem dX9_bear_25 : decode cX9_bear 25 = .ok (.getfield 72, 3) := by decide +kernel
theorem dX9_bear_28 : decode cX9_bear 28 = .ok (.iconst 2, 1) := by decide +kernel
theorem dX9_bear_29 : decode cX9_bear 29 = .ok (.iload 4, 2) := by decide +kernel
theorem dX9_bear_31 : decode cX9_bear 31 = .ok (.iastore, 1) := by decide +kernel
theorem dX9_bear_32 : decode cX9_bear 32 = .ok (.aload_n 0, 1) := by decide +kernel
theorem dX9_bear_33 : decode cX9_bear 33 = .ok (.getfield 72, 3) := by decide +kernel
theorem dX9_bear_36 : decode cX9_bear 36 = .ok (.iconst 3, 1) := by decide +kernel
theorem dX9_bear_37 : decode cX9_bear 37 = .ok (.iload 5, 2) := by decide +kernel
theorem dX9_bear_39 : decode cX9_bear 39 = .ok (.iastore, 1) := by decide +kernel
theorem dX9_bear_40 : decode cX9_bear 40 = .ok (.iconst 0, 1) := by decide +kernel
theorem dX9_bear_41 : decode cX9_bear 41 = .ok (.istore 6, 2) := by decide +kernel
theorem dX9_bear_43 : decode cX9_bear 43 = .ok (.iload 6, 2) := by decide +kernel
theorem dX9_bear_45 : decode cX9_bear 45 = .ok (.iconst 4, 1) := by decide +kernel
theorem dX9_bear_46 : decode cX9_bear 46 = .ok (.if_icmp .ge 20, 3) := by decide +kernel
theorem dX9_bear_49 : decode cX9_bear 49 = .ok (.aload_n 0, 1) := by decide +kernel
theorem dX9_bear_50 : decode cX9_bear 50 = .ok (.getfield 72, 3) := by decide +kernel
theorem dX9_bear_53 : decode cX9_bear 53 = .ok (.iload 6, 2) := by decide +kernel
theorem dX9_bear_55 : decode cX9_bear 55 = .ok (.iaload, 1) := by decide +kernel
theorem dX9_bear_56 : decode cX9_bear 56 = .ok (.iconst (-1), 1) := by decide +kernel
theorem dX9_bear_57 : decode cX9_bear 57 = .ok (.if_icmp .eq 9, 3) := by decide +kernel
theorem dX9_bear_60 : decode cX9_bear 60 = .ok (.iinc 6 1, 3) := by decide +kernel
theorem dX9_bear_63 : decode cX9_bear 63 = .ok (.goto (-20), 3) := by decide +kernel
theorem dX9_bear_66 : decode cX9_bear 66 = .ok (.iconst 0, 1) := by decide +kernel
theorem dX9_bear_67 : decode cX9_bear 67 = .ok (.istore 7, 2) := by decide +kernel
theorem dX9_bear_69 : decode cX9_bear 69 = .ok (.iconst 0, 1) := by decide +kernel
theorem dX9_bear_70 : decode cX9_bear 70 = .ok (.istore 8, 2) := by decide +kernel
theorem dX9_bear_72 : decode cX9_bear 72 = .ok (.iload 8, 2) := by decide +kernel
theorem dX9_bear_74 : decode cX9_bear 74 = .ok (.iconst 4, 1) := by decide +kernel
theorem dX9_bear_75 : decode cX9_bear 75 = .ok (.if_icmp .ge 130, 3) := by decide +kernel
theorem dX9_bear_78 : decode cX9_bear 78 = .ok (.iload 8, 2) := by decide +kernel
theorem dX9_bear_80 : decode cX9_bear 80 = .ok (.iload 6, 2) := by decide +kernel
theorem dX9_bear_82 : decode cX9_bear 82 = .ok (.if_icmp .lt 16, 3) := by decide +kernel
theorem dX9_bear_85 : decode cX9_bear 85 = .ok (.aload_n 0, 1) := by decide +kernel
theorem dX9_bear_86 : decode cX9_bear 86 = .ok (.getfield 72, 3) := by decide +kernel
theorem dX9_bear_89 : decode cX9_bear 89 = .ok (.iload 8, 2) := by decide +kernel
theorem dX9_bear_91 : decode cX9_bear 91 = .ok (.iaload, 1) := by decide +kernel
theorem dX9_bear_92 : decode cX9_bear 92 = .ok (.iconst (-1), 1) := by decide +kernel
theorem dX9_bear_93 : decode cX9_bear 93 = .ok (.if_icmp .eq 106, 3) := by decide +kernel
theorem dX9_bear_96 : decode cX9_bear 96 = .ok (.iconst (-1), 1) := by decide +kernel
theorem dX9_bear_97 : decode cX9_bear 97 = .ok (.ireturn, 1) := by decide +kernel
theorem dX9_bear_98 : decode cX9_bear 98 = .ok (.aload_n 0, 1) := by decide +kernel
theorem dX9_bear_99 : decode cX9_bear 99 = .ok (.getfield 72, 3) := by decide +kernel
theorem dX9_bear_102 : decode cX9_bear 102 = .ok (.iload 8, 2) := by decide +kernel
theorem dX9_bear_104 : decode cX9_bear 104 = .ok (.iaload, 1) := by decide +kernel
theorem dX9_bear_105 : decode cX9_bear 105 = .ok (.ifCond .lt 36, 3) := by decide +kernel
theorem dX9_bear_108 : decode cX9_bear 108 = .ok (.aload_n 0, 1) := by decide +kernel
theorem dX9_bear_109 : decode cX9_bear 109 = .ok (.getfield 72, 3) := by decide +kernel
theorem dX9_bear_112 : decode cX9_bear 112 = .ok (.iload 8, 2) := by decide +kernel
theorem dX9_bear_114 : decode cX9_bear 114 = .ok (.iaload, 1) := by decide +kernel
theorem dX9_bear_115 : decode cX9_bear 115 = .ok (.bipush 100, 2) := by decide +kernel
theorem dX9_bear_117 : decode cX9_bear 117 = .ok (.idiv, 1) := by decide +kernel
theorem dX9_bear_118 : decode cX9_bear 118 = .ok (.iload_n 1, 1) := by decide +kernel
theorem dX9_bear_119 : decode cX9_bear 119 = .ok (.if_icmp .ge 22, 3) := by decide +kernel
theorem dX9_bear_122 : decode cX9_bear 122 = .ok (.aload_n 0, 1) := by decide +kernel
theorem dX9_bear_123 : decode cX9_bear 123 = .ok (.getfield 72, 3) := by decide +kernel
theorem dX9_bear_126 : decode cX9_bear 126 = .ok (.iload 8, 2) := by decide +kernel
theorem dX9_bear_128 : decode cX9_bear 128 = .ok (.iaload, 1) := by decide +kernel
theorem dX9_bear_129 : decode cX9_bear 129 = .ok (.bipush 100, 2) := by decide +kernel
theorem dX9_bear_131 : decode cX9_bear 131 = .ok (.irem, 1) := by decide +kernel
theorem dX9_bear_132 : decode cX9_bear 132 = .ok (.iconst 1, 1) := by decide +kernel
theorem dX9_bear_133 : decode cX9_bear 133 = .ok (.bipush 12, 2) := by decide +kernel
theorem dX9_bear_135 : decode cX9_bear 135 = .ok (.invokestatic 125, 3) := by decide +kernel
theorem dX9_bear_138 : decode cX9_bear 138 = .ok (.ifCond .ne 5, 3) := by decide +kernel
theorem dX9_bear_141 : decode cX9_bear 141 = .ok (.iconst (-1), 1) := by decide +kernel
theorem dX9_bear_142 : decode cX9_bear 142 = .ok (.ireturn, 1) := by decide +kernel
theorem dX9_bear_143 : decode cX9_bear 143 = .ok (.iload 7, 2) := by decide +kernel
theorem dX9_bear_145 : decode cX9_bear 145 = .ok (.aload_n 0, 1) := by decide +kernel
theorem dX9_bear_146 : decode cX9_bear 146 = .ok (.getfield 72, 3) := by decide +kernel
theorem dX9_bear_149 : decode cX9_bear 149 = .ok (.iload 8, 2) := by decide +kernel
theorem dX9_bear_151 : decode cX9_bear 151 = .ok (.iaload, 1) := by decide +kernel
theorem dX9_bear_152 : decode cX9_bear 152 = .ok (.bipush 100, 2) := by decide +kernel
theorem dX9_bear_154 : decode cX9_bear 154 = .ok (.irem, 1) := by decide +kernel
theorem dX9_bear_155 : decode cX9_bear 155 = .ok (.iadd, 1) := by decide +kernel
theorem dX9_bear_156 : decode cX9_bear 156 = .ok (.istore 7, 2) := by decide +kernel
theorem dX9_bear_158 : decode cX9_bear 158 = .ok (.iconst 0, 1) := by decide +kernel
theorem dX9_bear_159 : decode cX9_bear 159 = .ok (.istore 9, 2) := by decide +kernel
theorem dX9_bear_161 : decode cX9_bear 161 = .ok (.iload 9, 2) := by decide +kernel
theorem dX9_bear_163 : decode cX9_bear 163 = .ok (.iload 8, 2) := by decide +kernel
theorem dX9_bear_165 : decode cX9_bear 165 = .ok (.if_icmp .ge 34, 3) := by decide +kernel
theorem dX9_bear_168 : decode cX9_bear 168 = .ok (.aload_n 0, 1) := by decide +kernel
theorem dX9_bear_169 : decode cX9_bear 169 = .ok (.getfield 72, 3) := by decide +kernel
theorem dX9_bear_172 : decode cX9_bear 172 = .ok (.iload 9, 2) := by decide +kernel
theorem dX9_bear_174 : decode cX9_bear 174 = .ok (.iaload, 1) := by decide +kernel
theorem dX9_bear_175 : decode cX9_bear 175 = .ok (.bipush 100, 2) := by decide +kernel
theorem dX9_bear_177 : decode cX9_bear 177 = .ok (.idiv, 1) := by decide +kernel
theorem dX9_bear_178 : decode cX9_bear 178 = .ok (.aload_n 0, 1) := by decide +kernel
theorem dX9_bear_179 : decode cX9_bear 179 = .ok (.getfield 72, 3) := by decide +kernel
theorem dX9_bear_182 : decode cX9_bear 182 = .ok (.iload 8, 2) := by decide +kernel
theorem dX9_bear_184 : decode cX9_bear 184 = .ok (.iaload, 1) := by decide +kernel
theorem dX9_bear_185 : decode cX9_bear 185 = .ok (.bipush 100, 2) := by decide +kernel
theorem dX9_bear_187 : decode cX9_bear 187 = .ok (.idiv, 1) := by decide +kernel
theorem dX9_bear_188 : decode cX9_bear 188 = .ok (.if_icmp .ne 5, 3) := by decide +kernel
theorem dX9_bear_191 : decode cX9_bear 191 = .ok (.iconst (-1), 1) := by decide +kernel
theorem dX9_bear_192 : decode cX9_bear 192 = .ok (.ireturn, 1) := by decide +kernel
theorem dX9_bear_193 : decode cX9_bear 193 = .ok (.iinc 9 1, 3) := by decide +kernel
theorem dX9_bear_196 : decode cX9_bear 196 = .ok (.goto (-35), 3) := by decide +kernel
theorem dX9_bear_199 : decode cX9_bear 199 = .ok (.iinc 8 1, 3) := by decide +kernel
theorem dX9_bear_202 : decode cX9_bear 202 = .ok (.goto (-130), 3) := by decide +kernel
theorem dX9_bear_205 : decode cX9_bear 205 = .ok (.iload 6, 2) := by decide +kernel
theorem dX9_bear_207 : decode cX9_bear 207 = .ok (.ifCond .ne 16, 3) := by decide +kernel
theorem dX9_bear_210 : decode cX9_bear 210 = .ok (.aload_n 0, 1) := by decide +kernel
theorem dX9_bear_211 : decode cX9_bear 211 = .ok (.getfield 7, 3) := by decide +kernel
theorem dX9_bear_214 : decode cX9_bear 214 = .ok (.iload_n 1, 1) := by decide +kernel
theorem dX9_bear_215 : decode cX9_bear 215 = .ok (.iaload, 1) := by decide +kernel
theorem dX9_bear_216 : decode cX9_bear 216 = .ok (.iconst 1, 1) := by decide +kernel
theorem dX9_bear_217 : decode cX9_bear 217 = .ok (.if_icmp .ne 31, 3) := by decide +kernel
theorem dX9_bear_220 : decode cX9_bear 220 = .ok (.goto 26, 3) := by decide +kernel
theorem dX9_bear_223 : decode cX9_bear 223 = .ok (.iload 7, 2) := by decide +kernel
theorem dX9_bear_225 : decode cX9_bear 225 = .ok (.bipush 12, 2) := by decide +kernel
theorem dX9_bear_227 : decode cX9_bear 227 = .ok (.if_icmp .ne 19, 3) := by decide +kernel
theorem dX9_bear_230 : decode cX9_bear 230 = .ok (.aload_n 0, 1) := by decide +kernel
theorem dX9_bear_231 : decode cX9_bear 231 = .ok (.getfield 7, 3) := by decide +kernel
theorem dX9_bear_234 : decode cX9_bear 234 = .ok (.iload_n 1, 1) := by decide +kernel
theorem dX9_bear_235 : decode cX9_bear 235 = .ok (.iaload, 1) := by decide +kernel
theorem dX9_bear_236 : decode cX9_bear 236 = .ok (.iconst 1, 1) := by decide +kernel
theorem dX9_bear_237 : decode cX9_bear 237 = .ok (.if_icmp .ne 11, 3) := by decide +kernel
theorem dX9_bear_240 : decode cX9_bear 240 = .ok (.iload 6, 2) := by decide +kernel
theorem dX9_bear_242 : decode cX9_bear 242 = .ok (.iconst 2, 1) := by decide +kernel
theorem dX9_bear_243 : decode cX9_bear 243 = .ok (.if_icmp .ge 5, 3) := by decide +kernel
theorem dX9_bear_246 : decode cX9_bear 246 = .ok (.iconst (-1), 1) := by decide +kernel
theorem dX9_bear_247 : decode cX9_bear 247 = .ok (.ireturn, 1) := by decide +kernel
theorem dX9_bear_248 : decode cX9_bear 248 = .ok (.aload_n 0, 1) := by decide +kernel
theorem dX9_bear_249 : decode cX9_bear 249 = .ok (.getfield 40, 3) := by decide +kernel
theorem dX9_bear_252 : decode cX9_bear 252 = .ok (.iload_n 1, 1) := by decide +kernel
theorem dX9_bear_253 : decode cX9_bear 253 = .ok (.iaload, 1) := by decide +kernel
theorem dX9_bear_254 : decode cX9_bear 254 = .ok (.ifCond .le 6, 3) := by decide +kernel
theorem dX9_bear_257 : decode cX9_bear 257 = .ok (.bipush (-2), 2) := by decide +kernel
theorem dX9_bear_259 : decode cX9_bear 259 = .ok (.ireturn, 1) := by decide +kernel
theorem dX9_bear_260 : decode cX9_bear 260 = .ok (.aload_n 0, 1) := by decide +kernel
theorem dX9_bear_261 : decode cX9_bear 261 = .ok (.getfield 145, 3) := by decide +kernel
theorem dX9_bear_264 : decode cX9_bear 264 = .ok (.bipush 60, 2) := by decide +kernel
theorem dX9_bear_266 : decode cX9_bear 266 = .ok (.if_icmp .ne 6, 3) := by decide +kernel
theorem dX9_bear_269 : decode cX9_bear 269 = .ok (.bipush (-3), 2) := by decide +kernel
theorem dX9_bear_271 : decode cX9_bear 271 = .ok (.ireturn, 1) := by decide +kernel
theorem dX9_bear_272 : decode cX9_bear 272 = .ok (.aload_n 0, 1) := by decide +kernel
theorem dX9_bear_273 : decode cX9_bear 273 = .ok (.getfield 50, 3) := by decide +kernel
theorem dX9_bear_276 : decode cX9_bear 276 = .ok (.iload_n 1, 1) := by decide +kernel
theorem dX9_bear_277 : decode cX9_bear 277 = .ok (.iconst 0, 1) := by decide +kernel
theorem dX9_bear_278 : decode cX9_bear 278 = .ok (.iastore, 1) := by decide +kernel
theorem dX9_bear_279 : decode cX9_bear 279 = .ok (.iconst 0, 1) := by decide +kernel
theorem dX9_bear_280 : decode cX9_bear 280 = .ok (.istore 8, 2) := by decide +kernel
theorem dX9_bear_282 : decode cX9_bear 282 = .ok (.iload 8, 2) := by decide +kernel
theorem dX9_bear_284 : decode cX9_bear 284 = .ok (.iload 6, 2) := by decide +kernel
theorem dX9_bear_286 : decode cX9_bear 286 = .ok (.if_icmp .ge 36, 3) := by decide +kernel
theorem dX9_bear_289 : decode cX9_bear 289 = .ok (.aload_n 0, 1) := by decide +kernel
theorem dX9_bear_290 : decode cX9_bear 290 = .ok (.iload_n 1, 1) := by decide +kernel
theorem dX9_bear_291 : decode cX9_bear 291 = .ok (.iload 8, 2) := by decide +kernel
theorem dX9_bear_293 : decode cX9_bear 293 = .ok (.aload_n 0, 1) := by decide +kernel
theorem dX9_bear_294 : decode cX9_bear 294 = .ok (.getfield 72, 3) := by decide +kernel
theorem dX9_bear_297 : decode cX9_bear 297 = .ok (.iload 8, 2) := by decide +kernel
theorem dX9_bear_299 : decode cX9_bear 299 = .ok (.iaload, 1) := by decide +kernel
theorem dX9_bear_300 : decode cX9_bear 300 = .ok (.bipush 100, 2) := by decide +kernel
theorem dX9_bear_302 : decode cX9_bear 302 = .ok (.idiv, 1) := by decide +kernel
theorem dX9_bear_303 : decode cX9_bear 303 = .ok (.aload_n 0, 1) := by decide +kernel
theorem dX9_bear_304 : decode cX9_bear 304 = .ok (.getfield 72, 3) := by decide +kernel
theorem dX9_bear_307 : decode cX9_bear 307 = .ok (.iload 8, 2) := by decide +kernel
theorem dX9_bear_309 : decode cX9_bear 309 = .ok (.iaload, 1) := by decide +kernel
theorem dX9_bear_310 : decode cX9_bear 310 = .ok (.bipush 100, 2) := by decide +kernel
theorem dX9_bear_312 : decode cX9_bear 312 = .ok (.irem, 1) := by decide +kernel
theorem dX9_bear_313 : decode cX9_bear 313 = .ok (.invokevirtual 141, 3) := by decide +kernel
theorem dX9_bear_316 : decode cX9_bear 316 = .ok (.iinc 8 1, 3) := by decide +kernel
theorem dX9_bear_319 : decode cX9_bear 319 = .ok (.goto (-37), 3) := by decide +kernel
theorem dX9_bear_322 : decode cX9_bear 322 = .ok (.aload_n 0, 1) := by decide +kernel
theorem dX9_bear_323 : decode cX9_bear 323 = .ok (.invokevirtual 148, 3) := by decide +kernel
theorem dX9_bear_326 : decode cX9_bear 326 = .ok (.iload 6, 2) := by decide +kernel
theorem dX9_bear_328 : decode cX9_bear 328 = .ok (.ireturn, 1) := by decide +kernel
theorem dX9_edit_0 : decode cX9_edit 0 = .ok (.aload_n 0, 1) := by decide +kernel
theorem dX9_edit_1 : decode cX9_edit 1 = .ok (.iload_n 1, 1) := by decide +kernel
theorem dX9_edit_2 : decode cX9_edit 2 = .ok (.invokevirtual 137, 3) := by decide +kernel
theorem dX9_edit_5 : decode cX9_edit 5 = .ok (.ifCond .eq 13, 3) := by decide +kernel
theorem dX9_edit_8 : decode cX9_edit 8 = .ok (.iload_n 2, 1) := by decide +kernel
theorem dX9_edit_9 : decode cX9_edit 9 = .ok (.iconst 1, 1) := by decide +kernel
theorem dX9_edit_10 : decode cX9_edit 10 = .ok (.bipush 30, 2) := by decide +kernel
theorem dX9_edit_12 : decode cX9_edit 12 = .ok (.invokestatic 125, 3) := by decide +kernel
theorem dX9_edit_15 : decode cX9_edit 15 = .ok (.ifCond .ne 5, 3) := by decide +kernel
theorem dX9_edit_18 : decode cX9_edit 18 = .ok (.iconst (-1), 1) := by decide +kernel
theorem dX9_edit_19 : decode cX9_edit 19 = .ok (.ireturn, 1) := by decide +kernel
theorem dX9_edit_20 : decode cX9_edit 20 = .ok (.aload_n 0, 1) := by decide +kernel
theorem dX9_edit_21 : decode cX9_edit 21 = .ok (.getfield 40, 3) := by decide +kernel
theorem dX9_edit_24 : decode cX9_edit 24 = .ok (.iload_n 1, 1) := by decide +kernel
theorem dX9_edit_25 : decode cX9_edit 25 = .ok (.iaload, 1) := by decide +kernel
theorem dX9_edit_26 : decode cX9_edit 26 = .ok (.ifCond .le 6, 3) := by decide +kernel
theorem dX9_edit_29 : decode cX9_edit 29 = .ok (.bipush (-2), 2) := by decide +kernel
theorem dX9_edit_31 : decode cX9_edit 31 = .ok (.ireturn, 1) := by decide +kernel
theorem dX9_edit_32 : decode cX9_edit 32 = .ok (.aload_n 0, 1) := by decide +kernel
theorem dX9_edit_33 : decode cX9_edit 33 = .ok (.getfield 145, 3) := by decide +kernel
theorem dX9_edit_36 : decode cX9_edit 36 = .ok (.bipush 60, 2) := by decide +kernel
theorem dX9_edit_38 : decode cX9_edit 38 = .ok (.if_icmp .ne 6, 3) := by decide +kernel
theorem dX9_edit_41 : decode cX9_edit 41 = .ok (.bipush (-3), 2) := by decide +kernel
theorem dX9_edit_43 : decode cX9_edit 43 = .ok (.ireturn, 1) := by decide +kernel
theorem dX9_edit_44 : decode cX9_edit 44 = .ok (.aload_n 0, 1) := by decide +kernel
theorem dX9_edit_45 : decode cX9_edit 45 = .ok (.getfield 13, 3) := by decide +kernel
theorem dX9_edit_48 : decode cX9_edit 48 = .ok (.iload_n 1, 1) := by decide +kernel
theorem dX9_edit_49 : decode cX9_edit 49 = .ok (.iload_n 2, 1) := by decide +kernel
theorem dX9_edit_50 : decode cX9_edit 50 = .ok (.iastore, 1) := by decide +kernel
theorem dX9_edit_51 : decode cX9_edit 51 = .ok (.aload_n 0, 1) := by decide +kernel
theorem dX9_edit_52 : decode cX9_edit 52 = .ok (.invokevirtual 148, 3) := by decide +kernel
theorem dX9_edit_55 : decode cX9_edit 55 = .ok (.aload_n 0, 1) := by decide +kernel
theorem dX9_edit_56 : decode cX9_edit 56 = .ok (.getfield 145, 3) := by decide +kernel
theorem dX9_edit_59 : decode cX9_edit 59 = .ok (.ireturn, 1) := by decide +kernel
theorem dX9_wanted_0 : decode cX9_wanted 0 = .ok (.iload_n 1, 1) := by decide +kernel
theorem dX9_wanted_1 : decode cX9_wanted 1 = .ok (.iconst 0, 1) := by decide +kernel
theorem dX9_wanted_2 : decode cX9_wanted 2 = .ok (.aload_n 0, 1) := by decide +kernel
theorem dX9_wanted_3 : decode cX9_wanted 3 = .ok (.getfield 145, 3) := by decide +kernel
theorem dX9_wanted_6 : decode cX9_wanted 6 = .ok (.invokestatic 125, 3) := by decide +kernel
theorem dX9_wanted_9 : decode cX9_wanted 9 = .ok (.ifCond .eq 11, 3) := by decide +kernel
theorem dX9_wanted_12 : decode cX9_wanted 12 = .ok (.aload_n 0, 1) := by decide +kernel
theorem dX9_wanted_13 : decode cX9_wanted 13 = .ok (.iload_n 2, 1) := by decide +kernel
theorem dX9_wanted_14 : decode cX9_wanted 14 = .ok (.invokevirtual 137, 3) := by decide +kernel
theorem dX9_wanted_17 : decode cX9_wanted 17 = .ok (.ifCond .ne 5, 3) := by decide +kernel
theorem dX9_wanted_20 : decode cX9_wanted 20 = .ok (.iconst (-1), 1) := by decide +kernel
theorem dX9_wanted_21 : decode cX9_wanted 21 = .ok (.ireturn, 1) := by decide +kernel
theorem dX9_wanted_22 : decode cX9_wanted 22 = .ok (.iload_n 1, 1) := by decide +kernel
theorem dX9_wanted_23 : decode cX9_wanted 23 = .ok (.ifCond .ne 10, 3) := by decide +kernel
theorem dX9_wanted_26 : decode cX9_wanted 26 = .ok (.aload_n 0, 1) := by decide +kernel
theorem dX9_wanted_27 : decode cX9_wanted 27 = .ok (.getfield 16, 3) := by decide +kernel
theorem dX9_wanted_30 : decode cX9_wanted 30 = .ok (.iload_n 2, 1) := by decide +kernel
theorem dX9_wanted_31 : decode cX9_wanted 31 = .ok (.iaload, 1) := by decide +kernel
theorem dX9_wanted_32 : decode cX9_wanted 32 = .ok (.ireturn, 1) := by decide +kernel
theorem dX9_wanted_33 : decode cX9_wanted 33 = .ok (.iload_n 2, 1) := by decide +kernel
theorem dX9_wanted_34 : decode cX9_wanted 34 = .ok (.aload_n 0, 1) := by decide +kernel
theorem dX9_wanted_35 : decode cX9_wanted 35 = .ok (.getfield 66, 3) := by decide +kernel
theorem dX9_wanted_38 : decode cX9_wanted 38 = .ok (.iload_n 1, 1) := by decide +kernel
theorem dX9_wanted_39 : decode cX9_wanted 39 = .ok (.iaload, 1) := by decide +kernel
theorem dX9_wanted_40 : decode cX9_wanted 40 = .ok (.if_icmp .ge 17, 3) := by decide +kernel
theorem dX9_wanted_43 : decode cX9_wanted 43 = .ok (.aload_n 0, 1) := by decide +kernel
theorem dX9_wanted_44 : decode cX9_wanted 44 = .ok (.getfield 69, 3) := by decide +kernel
theorem dX9_wanted_47 : decode cX9_wanted 47 = .ok (.bipush 40, 2) := by decide +kernel
theorem dX9_wanted_49 : decode cX9_wanted 49 = .ok (.iload_n 1, 1) := by decide +kernel
theorem dX9_wanted_50 : decode cX9_wanted 50 = .ok (.imul, 1) := by decide +kernel
theorem dX9_wanted_51 : decode cX9_wanted 51 = .ok (.iload_n 2, 1) := by decide +kernel
theorem dX9_wanted_52 : decode cX9_wanted 52 = .ok (.iadd, 1) := by decide +kernel
theorem dX9_wanted_53 : decode cX9_wanted 53 = .ok (.iaload, 1) := by decide +kernel
theorem dX9_wanted_54 : decode cX9_wanted 54 = .ok (.goto 4, 3) := by decide +kernel
theorem dX9_wanted_57 : decode cX9_wanted 57 = .ok (.iconst (-1), 1) := by decide +kernel
theorem dX9_wanted_58 : decode cX9_wanted 58 = .ok (.ireturn, 1) := by decide +kernel
theorem dX9_goes_0 : decode cX9_goes 0 = .ok (.iload_n 2, 1) := by decide +kernel
theorem dX9_goes_1 : decode cX9_goes 1 = .ok (.ifCond .le 24, 3) := by decide +kernel
theorem dX9_goes_4 : decode cX9_goes 4 = .ok (.aload_n 0, 1) := by decide +kernel
theorem dX9_goes_5 : decode cX9_goes 5 = .ok (.getfield 75, 3) := by decide +kernel
theorem dX9_goes_8 : decode cX9_goes 8 = .ok (.iload_n 1, 1) := by decide +kernel
theorem dX9_goes_9 : decode cX9_goes 9 = .ok (.iaload, 1) := by decide +kernel
theorem dX9_goes_10 : decode cX9_goes 10 = .ok (.aload_n 0, 1) := by decide +kernel
theorem dX9_goes_11 : decode cX9_goes 11 = .ok (.getfield 56, 3) := by decide +kernel
theorem dX9_goes_14 : decode cX9_goes 14 = .ok (.iconst 4, 1) := by decide +kernel
theorem dX9_goes_15 : decode cX9_goes 15 = .ok (.iload_n 1, 1) := by decide +kernel
theorem dX9_goes_16 : decode cX9_goes 16 = .ok (.imul, 1) := by decide +kernel
theorem dX9_goes_17 : decode cX9_goes 17 = .ok (.iload_n 2, 1) := by decide +kernel
theorem dX9_goes_18 : decode cX9_goes 18 = .ok (.iadd, 1) := by decide +kernel
theorem dX9_goes_19 : decode cX9_goes 19 = .ok (.iaload, 1) := by decide +kernel
theorem dX9_goes_20 : decode cX9_goes 20 = .ok (.imul, 1) := by decide +kernel
theorem dX9_goes_21 : decode cX9_goes 21 = .ok (.bipush 12, 2) := by decide +kernel
theorem dX9_goes_23 : decode cX9_goes 23 = .ok (.idiv, 1) := by decide +kernel
theorem dX9_goes_24 : decode cX9_goes 24 = .ok (.ireturn, 1) := by decide +kernel
theorem dX9_goes_25 : decode cX9_goes 25 = .ok (.aload_n 0, 1) := by decide +kernel
theorem dX9_goes_26 : decode cX9_goes 26 = .ok (.getfield 75, 3) := by decide +kernel
theorem dX9_goes_29 : decode cX9_goes 29 = .ok (.iload_n 1, 1) := by decide +kernel
theorem dX9_goes_30 : decode cX9_goes 30 = .ok (.iaload, 1) := by decide +kernel
theorem dX9_goes_31 : decode cX9_goes 31 = .ok (.istore_n 3, 1) := by decide +kernel
theorem dX9_goes_32 : decode cX9_goes 32 = .ok (.iconst 1, 1) := by decide +kernel
theorem dX9_goes_33 : decode cX9_goes 33 = .ok (.istore 4, 2) := by decide +kernel
theorem dX9_goes_35 : decode cX9_goes 35 = .ok (.iload 4, 2) := by decide +kernel
theorem dX9_goes_37 : decode cX9_goes 37 = .ok (.aload_n 0, 1) := by decide +kernel
theorem dX9_goes_38 : decode cX9_goes 38 = .ok (.getfield 50, 3) := by decide +kernel
theorem dX9_goes_41 : decode cX9_goes 41 = .ok (.iload_n 1, 1) := by decide +kernel
theorem dX9_goes_42 : decode cX9_goes 42 = .ok (.iaload, 1) := by decide +kernel
theorem dX9_goes_43 : decode cX9_goes 43 = .ok (.if_icmp .ge 33, 3) := by decide +kernel
theorem dX9_goes_46 : decode cX9_goes 46 = .ok (.iload_n 3, 1) := by decide +kernel
theorem dX9_goes_47 : decode cX9_goes 47 = .ok (.aload_n 0, 1) := by decide +kernel
theorem dX9_goes_48 : decode cX9_goes 48 = .ok (.getfield 75, 3) := by decide +kernel
theorem dX9_goes_51 : decode cX9_goes 51 = .ok (.iload_n 1, 1) := by decide +kernel
theorem dX9_goes_52 : decode cX9_goes 52 = .ok (.iaload, 1) := by decide +kernel
theorem dX9_goes_53 : decode cX9_goes 53 = .ok (.aload_n 0, 1) := by decide +kernel
theorem dX9_goes_54 : decode cX9_goes 54 = .ok (.getfield 56, 3) := by decide +kernel
theorem dX9_goes_57 : decode cX9_goes 57 = .ok (.iconst 4, 1) := by decide +kernel
theorem dX9_goes_58 : decode cX9_goes 58 = .ok (.iload_n 1, 1) := by decide +kernel
theorem dX9_goes_59 : decode cX9_goes 59 = .ok (.imul, 1) := by decide +kernel
theorem dX9_goes_60 : decode cX9_goes 60 = .ok (.iload 4, 2) := by decide +kernel
theorem dX9_goes_62 : decode cX9_goes 62 = .ok (.iadd, 1) := by decide +kernel
theorem dX9_goes_63 : decode cX9_goes 63 = .ok (.iaload, 1) := by decide +kernel
theorem dX9_goes_64 : decode cX9_goes 64 = .ok (.imul, 1) := by decide +kernel
theorem dX9_goes_65 : decode cX9_goes 65 = .ok (.bipush 12, 2) := by decide +kernel
theorem dX9_goes_67 : decode cX9_goes 67 = .ok (.idiv, 1) := by decide +kernel
theorem dX9_goes_68 : decode cX9_goes 68 = .ok (.isub, 1) := by decide +kernel
theorem dX9_goes_69 : decode cX9_goes 69 = .ok (.istore_n 3, 1) := by decide +kernel
theorem dX9_goes_70 : decode cX9_goes 70 = .ok (.iinc 4 1, 3) := by decide +kernel
theorem dX9_goes_73 : decode cX9_goes 73 = .ok (.goto (-38), 3) := by decide +kernel
theorem dX9_goes_76 : decode cX9_goes 76 = .ok (.iload_n 3, 1) := by decide +kernel
theorem dX9_goes_77 : decode cX9_goes 77 = .ok (.ireturn, 1) := by decide +kernel
theorem dX9_weigh_0 : decode cX9_weigh 0 = .ok (.iconst 0, 1) := by decide +kernel
theorem dX9_weigh_1 : decode cX9_weigh 1 = .ok (.istore_n 1, 1) := by decide +kernel
theorem dX9_weigh_2 : decode cX9_weigh 2 = .ok (.iload_n 1, 1) := by decide +kernel
theorem dX9_weigh_3 : decode cX9_weigh 3 = .ok (.aload_n 0, 1) := by decide +kernel
theorem dX9_weigh_4 : decode cX9_weigh 4 = .ok (.getfield 122, 3) := by decide +kernel
theorem dX9_weigh_7 : decode cX9_weigh 7 = .ok (.if_icmp .ge 35, 3) := by decide +kernel
theorem dX9_weigh_10 : decode cX9_weigh 10 = .ok (.aload_n 0, 1) := by decide +kernel
theorem dX9_weigh_11 : decode cX9_weigh 11 = .ok (.getfield 75, 3) := by decide +kernel
theorem dX9_weigh_14 : decode cX9_weigh 14 = .ok (.iload_n 1, 1) := by decide +kernel
theorem dX9_weigh_15 : decode cX9_weigh 15 = .ok (.aload_n 0, 1) := by decide +kernel
theorem dX9_weigh_16 : decode cX9_weigh 16 = .ok (.getfield 40, 3) := by decide +kernel
theorem dX9_weigh_19 : decode cX9_weigh 19 = .ok (.iload_n 1, 1) := by decide +kernel
theorem dX9_weigh_20 : decode cX9_weigh 20 = .ok (.iaload, 1) := by decide +kernel
theorem dX9_weigh_21 : decode cX9_weigh 21 = .ok (.aload_n 0, 1) := by decide +kernel
theorem dX9_weigh_22 : decode cX9_weigh 22 = .ok (.getfield 19, 3) := by decide +kernel
theorem dX9_weigh_25 : decode cX9_weigh 25 = .ok (.iload_n 1, 1) := by decide +kernel
theorem dX9_weigh_26 : decode cX9_weigh 26 = .ok (.iaload, 1) := by decide +kernel
theorem dX9_weigh_27 : decode cX9_weigh 27 = .ok (.imul, 1) := by decide +kernel
theorem dX9_weigh_28 : decode cX9_weigh 28 = .ok (.iastore, 1) := by decide +kernel
theorem dX9_weigh_29 : decode cX9_weigh 29 = .ok (.aload_n 0, 1) := by decide +kernel
theorem dX9_weigh_30 : decode cX9_weigh 30 = .ok (.getfield 78, 3) := by decide +kernel
theorem dX9_weigh_33 : decode cX9_weigh 33 = .ok (.iload_n 1, 1) := by decide +kernel
theorem dX9_weigh_34 : decode cX9_weigh 34 = .ok (.iconst 0, 1) := by decide +kernel
theorem dX9_weigh_35 : decode cX9_weigh 35 = .ok (.iastore, 1) := by decide +kernel
theorem dX9_weigh_36 : decode cX9_weigh 36 = .ok (.iinc 1 1, 3) := by decide +kernel
theorem dX9_weigh_39 : decode cX9_weigh 39 = .ok (.goto (-37), 3) := by decide +kernel
theorem dX9_weigh_42 : decode cX9_weigh 42 = .ok (.aload_n 0, 1) := by decide +kernel
theorem dX9_weigh_43 : decode cX9_weigh 43 = .ok (.getfield 122, 3) := by decide +kernel
theorem dX9_weigh_46 : decode cX9_weigh 46 = .ok (.iconst 1, 1) := by decide +kernel
theorem dX9_weigh_47 : decode cX9_weigh 47 = .ok (.isub, 1) := by decide +kernel
theorem dX9_weigh_48 : decode cX9_weigh 48 = .ok (.istore_n 1, 1) := by decide +kernel
theorem dX9_weigh_49 : decode cX9_weigh 49 = .ok (.iload_n 1, 1) := by decide +kernel
theorem dX9_weigh_50 : decode cX9_weigh 50 = .ok (.ifCond .lt 141, 3) := by decide +kernel
theorem dX9_weigh_53 : decode cX9_weigh 53 = .ok (.aload_n 0, 1) := by decide +kernel
theorem dX9_weigh_54 : decode cX9_weigh 54 = .ok (.getfield 46, 3) := by decide +kernel
theorem dX9_weigh_57 : decode cX9_weigh 57 = .ok (.iload_n 1, 1) := by decide +kernel
theorem dX9_weigh_58 : decode cX9_weigh 58 = .ok (.baload, 1) := by decide +kernel
theorem dX9_weigh_59 : decode cX9_weigh 59 = .ok (.ifCond .eq 6, 3) := by decide +kernel
theorem dX9_weigh_62 : decode cX9_weigh 62 = .ok (.goto 123, 3) := by decide +kernel
theorem dX9_weigh_65 : decode cX9_weigh 65 = .ok (.iconst 0, 1) := by decide +kernel
theorem dX9_weigh_66 : decode cX9_weigh 66 = .ok (.istore_n 2, 1) := by decide +kernel
theorem dX9_weigh_67 : decode cX9_weigh 67 = .ok (.iload_n 2, 1) := by decide +kernel
theorem dX9_weigh_68 : decode cX9_weigh 68 = .ok (.aload_n 0, 1) := by decide +kernel
theorem dX9_weigh_69 : decode cX9_weigh 69 = .ok (.getfield 50, 3) := by decide +kernel
theorem dX9_weigh_72 : decode cX9_weigh 72 = .ok (.iload_n 1, 1) := by decide +kernel
theorem dX9_weigh_73 : decode cX9_weigh 73 = .ok (.iaload, 1) := by decide +kernel
theorem dX9_weigh_74 : decode cX9_weigh 74 = .ok (.if_icmp .ge 33, 3) := by decide +kernel
theorem dX9_weigh_77 : decode cX9_weigh 77 = .ok (.aload_n 0, 1) := by decide +kernel
theorem dX9_weigh_78 : decode cX9_weigh 78 = .ok (.getfield 75, 3) := by decide +kernel
theorem dX9_weigh_81 : decode cX9_weigh 81 = .ok (.aload_n 0, 1) := by decide +kernel
theorem dX9_weigh_82 : decode cX9_weigh 82 = .ok (.getfield 53, 3) := by decide +kernel
theorem dX9_weigh_85 : decode cX9_weigh 85 = .ok (.iconst 4, 1) := by decide +kernel
theorem dX9_weigh_86 : decode cX9_weigh 86 = .ok (.iload_n 1, 1) := by decide +kernel
theorem dX9_weigh_87 : decode cX9_weigh 87 = .ok (.imul, 1) := by decide +kernel
theorem dX9_weigh_88 : decode cX9_weigh 88 = .ok (.iload_n 2, 1) := by decide +kernel
theorem dX9_weigh_89 : decode cX9_weigh 89 = .ok (.iadd, 1) := by decide +kernel
theorem dX9_weigh_90 : decode cX9_weigh 90 = .ok (.iaload, 1) := by decide +kernel
theorem dX9_weigh_91 : decode cX9_weigh 91 = .ok (.dup2, 1) := by decide +kernel
theorem dX9_weigh_92 : decode cX9_weigh 92 = .ok (.iaload, 1) := by decide +kernel
theorem dX9_weigh_93 : decode cX9_weigh 93 = .ok (.aload_n 0, 1) := by decide +kernel
theorem dX9_weigh_94 : decode cX9_weigh 94 = .ok (.iload_n 1, 1) := by decide +kernel
theorem dX9_weigh_95 : decode cX9_weigh 95 = .ok (.iload_n 2, 1) := by decide +kernel
theorem dX9_weigh_96 : decode cX9_weigh 96 = .ok (.invokevirtual 151, 3) := by decide +kernel
theorem dX9_weigh_99 : decode cX9_weigh 99 = .ok (.iadd, 1) := by decide +kernel
theorem dX9_weigh_100 : decode cX9_weigh 100 = .ok (.iastore, 1) := by decide +kernel
theorem dX9_weigh_101 : decode cX9_weigh 101 = .ok (.iinc 2 1, 3) := by decide +kernel
theorem dX9_weigh_104 : decode cX9_weigh 104 = .ok (.goto (-37), 3) := by decide +kernel
theorem dX9_weigh_107 : decode cX9_weigh 107 = .ok (.aload_n 0, 1) := by decide +kernel
theorem dX9_weigh_108 : decode cX9_weigh 108 = .ok (.getfield 7, 3) := by decide +kernel
theorem dX9_weigh_111 : decode cX9_weigh 111 = .ok (.iload_n 1, 1) := by decide +kernel
theorem dX9_weigh_112 : decode cX9_weigh 112 = .ok (.iaload, 1) := by decide +kernel
theorem dX9_weigh_113 : decode cX9_weigh 113 = .ok (.ifCond .eq 72, 3) := by decide +kernel
theorem dX9_weigh_116 : decode cX9_weigh 116 = .ok (.aload_n 0, 1) := by decide +kernel
theorem dX9_weigh_117 : decode cX9_weigh 117 = .ok (.getfield 40, 3) := by decide +kernel
theorem dX9_weigh_120 : decode cX9_weigh 120 = .ok (.iload_n 1, 1) := by decide +kernel
theorem dX9_weigh_121 : decode cX9_weigh 121 = .ok (.iaload, 1) := by decide +kernel
theorem dX9_weigh_122 : decode cX9_weigh 122 = .ok (.ifCond .ne 6, 3) := by decide +kernel
theorem dX9_weigh_125 : decode cX9_weigh 125 = .ok (.goto 60, 3) := by decide +kernel
theorem dX9_weigh_128 : decode cX9_weigh 128 = .ok (.aload_n 0, 1) := by decide +kernel
theorem dX9_weigh_129 : decode cX9_weigh 129 = .ok (.getfield 75, 3) := by decide +kernel
theorem dX9_weigh_132 : decode cX9_weigh 132 = .ok (.iload_n 1, 1) := by decide +kernel
theorem dX9_weigh_133 : decode cX9_weigh 133 = .ok (.iaload, 1) := by decide +kernel
theorem dX9_weigh_134 : decode cX9_weigh 134 = .ok (.i2l, 1) := by decide +kernel
theorem dX9_weigh_135 : decode cX9_weigh 135 = .ok (.aload_n 0, 1) := by decide +kernel
theorem dX9_weigh_136 : decode cX9_weigh 136 = .ok (.getfield 31, 3) := by decide +kernel
theorem dX9_weigh_139 : decode cX9_weigh 139 = .ok (.iload_n 1, 1) := by decide +kernel
theorem dX9_weigh_140 : decode cX9_weigh 140 = .ok (.iaload, 1) := by decide +kernel
theorem dX9_weigh_141 : decode cX9_weigh 141 = .ok (.i2l, 1) := by decide +kernel
theorem dX9_weigh_142 : decode cX9_weigh 142 = .ok (.lmul, 1) := by decide +kernel
theorem dX9_weigh_143 : decode cX9_weigh 143 = .ok (.ldc2_w 155, 3) := by decide +kernel
theorem dX9_weigh_146 : decode cX9_weigh 146 = .ok (.ldiv, 1) := by decide +kernel
theorem dX9_weigh_147 : decode cX9_weigh 147 = .ok (.l2i, 1) := by decide +kernel
theorem dX9_weigh_148 : decode cX9_weigh 148 = .ok (.istore_n 2, 1) := by decide +kernel
theorem dX9_weigh_149 : decode cX9_weigh 149 = .ok (.aload_n 0, 1) := by decide +kernel
theorem dX9_weigh_150 : decode cX9_weigh 150 = .ok (.getfield 78, 3) := by decide +kernel
theorem dX9_weigh_153 : decode cX9_weigh 153 = .ok (.aload_n 0, 1) := by decide +kernel
theorem dX9_weigh_154 : decode cX9_weigh 154 = .ok (.getfield 53, 3) := by decide +kernel
theorem dX9_weigh_157 : decode cX9_weigh 157 = .ok (.iconst 4, 1) := by decide +kernel
theorem dX9_weigh_158 : decode cX9_weigh 158 = .ok (.iload_n 1, 1) := by decide +kernel
theorem dX9_weigh_159 : decode cX9_weigh 159 = .ok (.imul, 1) := by decide +kernel
theorem dX9_weigh_160 : decode cX9_weigh 160 = .ok (.iaload, 1) := by decide +kernel
theorem dX9_weigh_161 : decode cX9_weigh 161 = .ok (.dup2, 1) := by decide +kernel
theorem dX9_weigh_162 : decode cX9_weigh 162 = .ok (.iaload, 1) := by decide +kernel
theorem dX9_weigh_163 : decode cX9_weigh 163 = .ok (.iload_n 2, 1) := by decide +kernel
theorem dX9_weigh_164 : decode cX9_weigh 164 = .ok (.isub, 1) := by decide +kernel
theorem dX9_weigh_165 : decode cX9_weigh 165 = .ok (.iastore, 1) := by decide +kernel
theorem dX9_weigh_166 : decode cX9_weigh 166 = .ok (.aload_n 0, 1) := by decide +kernel
theorem dX9_weigh_167 : decode cX9_weigh 167 = .ok (.getfield 78, 3) := by decide +kernel
theorem dX9_weigh_170 : decode cX9_weigh 170 = .ok (.aload_n 0, 1) := by decide +kernel
theorem dX9_weigh_171 : decode cX9_weigh 171 = .ok (.getfield 53, 3) := by decide +kernel
theorem dX9_weigh_174 : decode cX9_weigh 174 = .ok (.iconst 4, 1) := by decide +kernel
theorem dX9_weigh_175 : decode cX9_weigh 175 = .ok (.iload_n 1, 1) := by decide +kernel
theorem dX9_weigh_176 : decode cX9_weigh 176 = .ok (.imul, 1) := by decide +kernel
theorem dX9_weigh_177 : decode cX9_weigh 177 = .ok (.iconst 1, 1) := by decide +kernel
theorem dX9_weigh_178 : decode cX9_weigh 178 = .ok (.iadd, 1) := by decide +kernel
theorem dX9_weigh_179 : decode cX9_weigh 179 = .ok (.iaload, 1) := by decide +kernel
theorem dX9_weigh_180 : decode cX9_weigh 180 = .ok (.dup2, 1) := by decide +kernel
theorem dX9_weigh_181 : decode cX9_weigh 181 = .ok (.iaload, 1) := by decide +kernel
theorem dX9_weigh_182 : decode cX9_weigh 182 = .ok (.iload_n 2, 1) := by decide +kernel
theorem dX9_weigh_183 : decode cX9_weigh 183 = .ok (.iadd, 1) := by decide +kernel
theorem dX9_weigh_184 : decode cX9_weigh 184 = .ok (.iastore, 1) := by decide +kernel
theorem dX9_weigh_185 : decode cX9_weigh 185 = .ok (.iinc 1 (-1), 3) := by decide +kernel
theorem dX9_weigh_188 : decode cX9_weigh 188 = .ok (.goto (-139), 3) := by decide +kernel
theorem dX9_weigh_191 : decode cX9_weigh 191 = .ok (.return_, 1) := by decide +kernel
theorem dX9_net_0 : decode cX9_net 0 = .ok (.aload_n 0, 1) := by decide +kernel
theorem dX9_net_1 : decode cX9_net 1 = .ok (.getfield 78, 3) := by decide +kernel
theorem dX9_net_4 : decode cX9_net 4 = .ok (.iload_n 1, 1) := by decide +kernel
theorem dX9_net_5 : decode cX9_net 5 = .ok (.iaload, 1) := by decide +kernel
theorem dX9_net_6 : decode cX9_net 6 = .ok (.ifCond .ge 13, 3) := by decide +kernel
theorem dX9_net_9 : decode cX9_net 9 = .ok (.aload_n 0, 1) := by decide +kernel
theorem dX9_net_10 : decode cX9_net 10 = .ok (.getfield 78, 3) := by decide +kernel
theorem dX9_net_13 : decode cX9_net 13 = .ok (.iload_n 1, 1) := by decide +kernel
theorem dX9_net_14 : decode cX9_net 14 = .ok (.iaload, 1) := by decide +kernel
theorem dX9_net_15 : decode cX9_net 15 = .ok (.ineg, 1) := by decide +kernel
theorem dX9_net_16 : decode cX9_net 16 = .ok (.goto 9, 3) := by decide +kernel
theorem dX9_net_19 : decode cX9_net 19 = .ok (.aload_n 0, 1) := by decide +kernel
theorem dX9_net_20 : decode cX9_net 20 = .ok (.getfield 78, 3) := by decide +kernel
theorem dX9_net_23 : decode cX9_net 23 = .ok (.iload_n 1, 1) := by decide +kernel
theorem dX9_net_24 : decode cX9_net 24 = .ok (.iaload, 1) := by decide +kernel
theorem dX9_net_25 : decode cX9_net 25 = .ok (.ireturn, 1) := by decide +kernel
theorem dX9_falling_0 : decode cX9_falling 0 = .ok (.aload_n 0, 1) := by decide +kernel
theorem dX9_falling_1 : decode cX9_falling 1 = .ok (.invokevirtual 157, 3) := by decide +kernel
theorem dX9_falling_4 : decode cX9_falling 4 = .ok (.iconst 0, 1) := by decide +kernel
theorem dX9_falling_5 : decode cX9_falling 5 = .ok (.istore_n 1, 1) := by decide +kernel
theorem dX9_falling_6 : decode cX9_falling 6 = .ok (.iload_n 1, 1) := by decide +kernel
theorem dX9_falling_7 : decode cX9_falling 7 = .ok (.aload_n 0, 1) := by decide +kernel
theorem dX9_falling_8 : decode cX9_falling 8 = .ok (.getfield 122, 3) := by decide +kernel
theorem dX9_falling_11 : decode cX9_falling 11 = .ok (.if_icmp .ge 82, 3) := by decide +kernel
theorem dX9_falling_14 : decode cX9_falling 14 = .ok (.aload_n 0, 1) := by decide +kernel
theorem dX9_falling_15 : decode cX9_falling 15 = .ok (.getfield 40, 3) := by decide +kernel
theorem dX9_falling_18 : decode cX9_falling 18 = .ok (.iload_n 1, 1) := by decide +kernel
theorem dX9_falling_19 : decode cX9_falling 19 = .ok (.iaload, 1) := by decide +kernel
theorem dX9_falling_20 : decode cX9_falling 20 = .ok (.ifCond .eq 67, 3) := by decide +kernel
theorem dX9_falling_23 : decode cX9_falling 23 = .ok (.aload_n 0, 1) := by decide +kernel
theorem dX9_falling_24 : decode cX9_falling 24 = .ok (.getfield 46, 3) := by decide +kernel
theorem dX9_falling_27 : decode cX9_falling 27 = .ok (.iload_n 1, 1) := by decide +kernel
theorem dX9_falling_28 : decode cX9_falling 28 = .ok (.baload, 1) := by decide +kernel
theorem dX9_falling_29 : decode cX9_falling 29 = .ok (.ifCond .eq 6, 3) := by decide +kernel
theorem dX9_falling_32 : decode cX9_falling 32 = .ok (.goto 55, 3) := by decide +kernel
theorem dX9_falling_35 : decode cX9_falling 35 = .ok (.aload_n 0, 1) := by decide +kernel
theorem dX9_falling_36 : decode cX9_falling 36 = .ok (.getfield 75, 3) := by decide +kernel
theorem dX9_falling_39 : decode cX9_falling 39 = .ok (.iload_n 1, 1) := by decide +kernel
theorem dX9_falling_40 : decode cX9_falling 40 = .ok (.iaload, 1) := by decide +kernel
theorem dX9_falling_41 : decode cX9_falling 41 = .ok (.aload_n 0, 1) := by decide +kernel
theorem dX9_falling_42 : decode cX9_falling 42 = .ok (.getfield 25, 3) := by decide +kernel
theorem dX9_falling_45 : decode cX9_falling 45 = .ok (.iload_n 1, 1) := by decide +kernel
theorem dX9_falling_46 : decode cX9_falling 46 = .ok (.iaload, 1) := by decide +kernel
theorem dX9_falling_47 : decode cX9_falling 47 = .ok (.if_icmp .le 5, 3) := by decide +kernel
theorem dX9_falling_50 : decode cX9_falling 50 = .ok (.iload_n 1, 1) := by decide +kernel
theorem dX9_falling_51 : decode cX9_falling 51 = .ok (.ireturn, 1) := by decide +kernel
theorem dX9_falling_52 : decode cX9_falling 52 = .ok (.aload_n 0, 1) := by decide +kernel
theorem dX9_falling_53 : decode cX9_falling 53 = .ok (.iload_n 1, 1) := by decide +kernel
theorem dX9_falling_54 : decode cX9_falling 54 = .ok (.invokevirtual 160, 3) := by decide +kernel
theorem dX9_falling_57 : decode cX9_falling 57 = .ok (.aload_n 0, 1) := by decide +kernel
theorem dX9_falling_58 : decode cX9_falling 58 = .ok (.getfield 28, 3) := by decide +kernel
theorem dX9_falling_61 : decode cX9_falling 61 = .ok (.iload_n 1, 1) := by decide +kernel
theorem dX9_falling_62 : decode cX9_falling 62 = .ok (.iaload, 1) := by decide +kernel
theorem dX9_falling_63 : decode cX9_falling 63 = .ok (.aload_n 0, 1) := by decide +kernel
theorem dX9_falling_64 : decode cX9_falling 64 = .ok (.getfield 37, 3) := by decide +kernel
theorem dX9_falling_67 : decode cX9_falling 67 = .ok (.iload_n 1, 1) := by decide +kernel
theorem dX9_falling_68 : decode cX9_falling 68 = .ok (.iaload, 1) := by decide +kernel
theorem dX9_falling_69 : decode cX9_falling 69 = .ok (.iadd, 1) := by decide +kernel
theorem dX9_falling_70 : decode cX9_falling 70 = .ok (.aload_n 0, 1) := by decide +kernel
theorem dX9_falling_71 : decode cX9_falling 71 = .ok (.getfield 75, 3) := by decide +kernel
theorem dX9_falling_74 : decode cX9_falling 74 = .ok (.iload_n 1, 1) := by decide +kernel
theorem dX9_falling_75 : decode cX9_falling 75 = .ok (.iaload, 1) := by decide +kernel
theorem dX9_falling_76 : decode cX9_falling 76 = .ok (.iconst 4, 1) := by decide +kernel
theorem dX9_falling_77 : decode cX9_falling 77 = .ok (.idiv, 1) := by decide +kernel
theorem dX9_falling_78 : decode cX9_falling 78 = .ok (.iadd, 1) := by decide +kernel
theorem dX9_falling_79 : decode cX9_falling 79 = .ok (.if_icmp .le 8, 3) := by decide +kernel
theorem dX9_falling_82 : decode cX9_falling 82 = .ok (.bipush 100, 2) := by decide +kernel
theorem dX9_falling_84 : decode cX9_falling 84 = .ok (.iload_n 1, 1) := by decide +kernel
theorem dX9_falling_85 : decode cX9_falling 85 = .ok (.iadd, 1) := by decide +kernel
theorem dX9_falling_86 : decode cX9_falling 86 = .ok (.ireturn, 1) := by decide +kernel
theorem dX9_falling_87 : decode cX9_falling 87 = .ok (.iinc 1 1, 3) := by decide +kernel
theorem dX9_falling_90 : decode cX9_falling 90 = .ok (.goto (-84), 3) := by decide +kernel
theorem dX9_falling_93 : decode cX9_falling 93 = .ok (.bipush (-5), 2) := by decide +kernel
theorem dX9_falling_95 : decode cX9_falling 95 = .ok (.ireturn, 1) := by decide +kernel
theorem dX9_fallingBy_0 : decode cX9_fallingBy 0 = .ok (.aload_n 0, 1) := by decide +kernel
theorem dX9_fallingBy_1 : decode cX9_fallingBy 1 = .ok (.getfield 46, 3) := by decide +kernel
theorem dX9_fallingBy_4 : decode cX9_fallingBy 4 = .ok (.iload_n 1, 1) := by decide +kernel
theorem dX9_fallingBy_5 : decode cX9_fallingBy 5 = .ok (.baload, 1) := by decide +kernel
theorem dX9_fallingBy_6 : decode cX9_fallingBy 6 = .ok (.istore_n 2, 1) := by decide +kernel
theorem dX9_fallingBy_7 : decode cX9_fallingBy 7 = .ok (.aload_n 0, 1) := by decide +kernel
theorem dX9_fallingBy_8 : decode cX9_fallingBy 8 = .ok (.getfield 46, 3) := by decide +kernel
theorem dX9_fallingBy_11 : decode cX9_fallingBy 11 = .ok (.iload_n 1, 1) := by decide +kernel
theorem dX9_fallingBy_12 : decode cX9_fallingBy 12 = .ok (.iload_n 2, 1) := by decide +kernel
theorem dX9_fallingBy_13 : decode cX9_fallingBy 13 = .ok (.ifCond .ne 22, 3) := by decide +kernel
theorem dX9_fallingBy_16 : decode cX9_fallingBy 16 = .ok (.aload_n 0, 1) := by decide +kernel
theorem dX9_fallingBy_17 : decode cX9_fallingBy 17 = .ok (.getfield 7, 3) := by decide +kernel
theorem dX9_fallingBy_20 : decode cX9_fallingBy 20 = .ok (.iload_n 1, 1) := by decide +kernel
theorem dX9_fallingBy_21 : decode cX9_fallingBy 21 = .ok (.iaload, 1) := by decide +kernel
theorem dX9_fallingBy_22 : decode cX9_fallingBy 22 = .ok (.iconst 1, 1) := by decide +kernel
theorem dX9_fallingBy_23 : decode cX9_fallingBy 23 = .ok (.if_icmp .ne 16, 3) := by decide +kernel
theorem dX9_fallingBy_26 : decode cX9_fallingBy 26 = .ok (.aload_n 0, 1) := by decide +kernel
theorem dX9_fallingBy_27 : decode cX9_fallingBy 27 = .ok (.getfield 40, 3) := by decide +kernel
theorem dX9_fallingBy_30 : decode cX9_fallingBy 30 = .ok (.iload_n 1, 1) := by decide +kernel
theorem dX9_fallingBy_31 : decode cX9_fallingBy 31 = .ok (.iaload, 1) := by decide +kernel
theorem dX9_fallingBy_32 : decode cX9_fallingBy 32 = .ok (.ifCond .ne 7, 3) := by decide +kernel
theorem dX9_fallingBy_35 : decode cX9_fallingBy 35 = .ok (.iconst 1, 1) := by decide +kernel
theorem dX9_fallingBy_36 : decode cX9_fallingBy 36 = .ok (.goto 4, 3) := by decide +kernel
theorem dX9_fallingBy_39 : decode cX9_fallingBy 39 = .ok (.iconst 0, 1) := by decide +kernel
theorem dX9_fallingBy_40 : decode cX9_fallingBy 40 = .ok (.bastore, 1) := by decide +kernel
theorem dX9_fallingBy_41 : decode cX9_fallingBy 41 = .ok (.aload_n 0, 1) := by decide +kernel
theorem dX9_fallingBy_42 : decode cX9_fallingBy 42 = .ok (.getfield 40, 3) := by decide +kernel
theorem dX9_fallingBy_45 : decode cX9_fallingBy 45 = .ok (.iload_n 1, 1) := by decide +kernel
theorem dX9_fallingBy_46 : decode cX9_fallingBy 46 = .ok (.dup2, 1) := by decide +kernel
theorem dX9_fallingBy_47 : decode cX9_fallingBy 47 = .ok (.iaload, 1) := by decide +kernel
theorem dX9_fallingBy_48 : decode cX9_fallingBy 48 = .ok (.iconst 1, 1) := by decide +kernel
theorem dX9_fallingBy_49 : decode cX9_fallingBy 49 = .ok (.iadd, 1) := by decide +kernel
theorem dX9_fallingBy_50 : decode cX9_fallingBy 50 = .ok (.iastore, 1) := by decide +kernel
theorem dX9_fallingBy_51 : decode cX9_fallingBy 51 = .ok (.aload_n 0, 1) := by decide +kernel
theorem dX9_fallingBy_52 : decode cX9_fallingBy 52 = .ok (.invokevirtual 164, 3) := by decide +kernel
theorem dX9_fallingBy_55 : decode cX9_fallingBy 55 = .ok (.istore_n 3, 1) := by decide +kernel
theorem dX9_fallingBy_56 : decode cX9_fallingBy 56 = .ok (.aload_n 0, 1) := by decide +kernel
theorem dX9_fallingBy_57 : decode cX9_fallingBy 57 = .ok (.getfield 40, 3) := by decide +kernel
theorem dX9_fallingBy_60 : decode cX9_fallingBy 60 = .ok (.iload_n 1, 1) := by decide +kernel
theorem dX9_fallingBy_61 : decode cX9_fallingBy 61 = .ok (.dup2, 1) := by decide +kernel
theorem dX9_fallingBy_62 : decode cX9_fallingBy 62 = .ok (.iaload, 1) := by decide +kernel
theorem dX9_fallingBy_63 : decode cX9_fallingBy 63 = .ok (.iconst 1, 1) := by decide +kernel
theorem dX9_fallingBy_64 : decode cX9_fallingBy 64 = .ok (.isub, 1) := by decide +kernel
theorem dX9_fallingBy_65 : decode cX9_fallingBy 65 = .ok (.iastore, 1) := by decide +kernel
theorem dX9_fallingBy_66 : decode cX9_fallingBy 66 = .ok (.aload_n 0, 1) := by decide +kernel
theorem dX9_fallingBy_67 : decode cX9_fallingBy 67 = .ok (.getfield 46, 3) := by decide +kernel
theorem dX9_fallingBy_70 : decode cX9_fallingBy 70 = .ok (.iload_n 1, 1) := by decide +kernel
theorem dX9_fallingBy_71 : decode cX9_fallingBy 71 = .ok (.iload_n 2, 1) := by decide +kernel
theorem dX9_fallingBy_72 : decode cX9_fallingBy 72 = .ok (.bastore, 1) := by decide +kernel
theorem dX9_fallingBy_73 : decode cX9_fallingBy 73 = .ok (.iload_n 3, 1) := by decide +kernel
theorem dX9_fallingBy_74 : decode cX9_fallingBy 74 = .ok (.ireturn, 1) := by decide +kernel
theorem dX9_tell_0 : decode cX9_tell 0 = .ok (.aload_n 0, 1) := by decide +kernel
theorem dX9_tell_1 : decode cX9_tell 1 = .ok (.iload_n 1, 1) := by decide +kernel
theorem dX9_tell_2 : decode cX9_tell 2 = .ok (.invokevirtual 137, 3) := by decide +kernel
theorem dX9_tell_5 : decode cX9_tell 5 = .ok (.ifCond .ne 5, 3) := by decide +kernel
theorem dX9_tell_8 : decode cX9_tell 8 = .ok (.iconst (-1), 1) := by decide +kernel
theorem dX9_tell_9 : decode cX9_tell 9 = .ok (.ireturn, 1) := by decide +kernel
theorem dX9_tell_10 : decode cX9_tell 10 = .ok (.iload_n 2, 1) := by decide +kernel
theorem dX9_tell_11 : decode cX9_tell 11 = .ok (.tableswitch 209 0 3 #[29, 79, 129, 179], 29) := by decide +kernel
theorem dX9_tell_40 : decode cX9_tell 40 = .ok (.iload_n 3, 1) := by decide +kernel
theorem dX9_tell_41 : decode cX9_tell 41 = .ok (.iconst 0, 1) := by decide +kernel
theorem dX9_tell_42 : decode cX9_tell 42 = .ok (.ldc 129, 2) := by decide +kernel
theorem dX9_tell_44 : decode cX9_tell 44 = .ok (.invokestatic 125, 3) := by decide +kernel
theorem dX9_tell_47 : decode cX9_tell 47 = .ok (.ifCond .ne 5, 3) := by decide +kernel
theorem dX9_tell_50 : decode cX9_tell 50 = .ok (.iconst (-1), 1) := by decide +kernel
theorem dX9_tell_51 : decode cX9_tell 51 = .ok (.ireturn, 1) := by decide +kernel
theorem dX9_tell_52 : decode cX9_tell 52 = .ok (.aload_n 0, 1) := by decide +kernel
theorem dX9_tell_53 : decode cX9_tell 53 = .ok (.getfield 25, 3) := by decide +kernel
theorem dX9_tell_56 : decode cX9_tell 56 = .ok (.iload_n 1, 1) := by decide +kernel
theorem dX9_tell_57 : decode cX9_tell 57 = .ok (.iaload, 1) := by decide +kernel
theorem dX9_tell_58 : decode cX9_tell 58 = .ok (.istore 4, 2) := by decide +kernel
theorem dX9_tell_60 : decode cX9_tell 60 = .ok (.aload_n 0, 1) := by decide +kernel
theorem dX9_tell_61 : decode cX9_tell 61 = .ok (.getfield 25, 3) := by decide +kernel
theorem dX9_tell_64 : decode cX9_tell 64 = .ok (.iload_n 1, 1) := by decide +kernel
theorem dX9_tell_65 : decode cX9_tell 65 = .ok (.iload_n 3, 1) := by decide +kernel
theorem dX9_tell_66 : decode cX9_tell 66 = .ok (.iastore, 1) := by decide +kernel
theorem dX9_tell_67 : decode cX9_tell 67 = .ok (.aload_n 0, 1) := by decide +kernel
theorem dX9_tell_68 : decode cX9_tell 68 = .ok (.invokevirtual 164, 3) := by decide +kernel
theorem dX9_tell_71 : decode cX9_tell 71 = .ok (.bipush (-5), 2) := by decide +kernel
theorem dX9_tell_73 : decode cX9_tell 73 = .ok (.if_icmp .ne 6, 3) := by decide +kernel
theorem dX9_tell_76 : decode cX9_tell 76 = .ok (.iload 4, 2) := by decide +kernel
theorem dX9_tell_78 : decode cX9_tell 78 = .ok (.ireturn, 1) := by decide +kernel
theorem dX9_tell_79 : decode cX9_tell 79 = .ok (.aload_n 0, 1) := by decide +kernel
theorem dX9_tell_80 : decode cX9_tell 80 = .ok (.getfield 25, 3) := by decide +kernel
theorem dX9_tell_83 : decode cX9_tell 83 = .ok (.iload_n 1, 1) := by decide +kernel
theorem dX9_tell_84 : decode cX9_tell 84 = .ok (.iload 4, 2) := by decide +kernel
theorem dX9_tell_86 : decode cX9_tell 86 = .ok (.iastore, 1) := by decide +kernel
theorem dX9_tell_87 : decode cX9_tell 87 = .ok (.bipush (-15), 2) := by decide +kernel
theorem dX9_tell_89 : decode cX9_tell 89 = .ok (.ireturn, 1) := by decide +kernel
theorem dX9_tell_90 : decode cX9_tell 90 = .ok (.iload_n 3, 1) := by decide +kernel
theorem dX9_tell_91 : decode cX9_tell 91 = .ok (.iconst 0, 1) := by decide +kernel
theorem dX9_tell_92 : decode cX9_tell 92 = .ok (.ldc 168, 2) := by decide +kernel
theorem dX9_tell_94 : decode cX9_tell 94 = .ok (.invokestatic 125, 3) := by decide +kernel
theorem dX9_tell_97 : decode cX9_tell 97 = .ok (.ifCond .ne 5, 3) := by decide +kernel
theorem dX9_tell_100 : decode cX9_tell 100 = .ok (.iconst (-1), 1) := by decide +kernel
theorem dX9_tell_101 : decode cX9_tell 101 = .ok (.ireturn, 1) := by decide +kernel
theorem dX9_tell_102 : decode cX9_tell 102 = .ok (.aload_n 0, 1) := by decide +kernel
theorem dX9_tell_103 : decode cX9_tell 103 = .ok (.getfield 28, 3) := by decide +kernel
theorem dX9_tell_106 : decode cX9_tell 106 = .ok (.iload_n 1, 1) := by decide +kernel
theorem dX9_tell_107 : decode cX9_tell 107 = .ok (.iaload, 1) := by decide +kernel
theorem dX9_tell_108 : decode cX9_tell 108 = .ok (.istore 4, 2) := by decide +kernel
theorem dX9_tell_110 : decode cX9_tell 110 = .ok (.aload_n 0, 1) := by decide +kernel
theorem dX9_tell_111 : decode cX9_tell 111 = .ok (.getfield 28, 3) := by decide +kernel
theorem dX9_tell_114 : decode cX9_tell 114 = .ok (.iload_n 1, 1) := by decide +kernel
theorem dX9_tell_115 : decode cX9_tell 115 = .ok (.iload_n 3, 1) := by decide +kernel
theorem dX9_tell_116 : decode cX9_tell 116 = .ok (.iastore, 1) := by decide +kernel
theorem dX9_tell_117 : decode cX9_tell 117 = .ok (.aload_n 0, 1) := by decide +kernel
theorem dX9_tell_118 : decode cX9_tell 118 = .ok (.invokevirtual 164, 3) := by decide +kernel
theorem dX9_tell_121 : decode cX9_tell 121 = .ok (.bipush (-5), 2) := by decide +kernel
theorem dX9_tell_123 : decode cX9_tell 123 = .ok (.if_icmp .ne 6, 3) := by decide +kernel
theorem dX9_tell_126 : decode cX9_tell 126 = .ok (.iload 4, 2) := by decide +kernel
theorem dX9_tell_128 : decode cX9_tell 128 = .ok (.ireturn, 1) := by decide +kernel
theorem dX9_tell_129 : decode cX9_tell 129 = .ok (.aload_n 0, 1) := by decide +kernel
theorem dX9_tell_130 : decode cX9_tell 130 = .ok (.getfield 28, 3) := by decide +kernel
theorem dX9_tell_133 : decode cX9_tell 133 = .ok (.iload_n 1, 1) := by decide +kernel
theorem dX9_tell_134 : decode cX9_tell 134 = .ok (.iload 4, 2) := by decide +kernel
theorem dX9_tell_136 : decode cX9_tell 136 = .ok (.iastore, 1) := by decide +kernel
theorem dX9_tell_137 : decode cX9_tell 137 = .ok (.bipush (-15), 2) := by decide +kernel
theorem dX9_tell_139 : decode cX9_tell 139 = .ok (.ireturn, 1) := by decide +kernel
theorem dX9_tell_140 : decode cX9_tell 140 = .ok (.iload_n 3, 1) := by decide +kernel
theorem dX9_tell_141 : decode cX9_tell 141 = .ok (.iconst 0, 1) := by decide +kernel
theorem dX9_tell_142 : decode cX9_tell 142 = .ok (.bipush 100, 2) := by decide +kernel
theorem dX9_tell_144 : decode cX9_tell 144 = .ok (.invokestatic 125, 3) := by decide +kernel
theorem dX9_tell_147 : decode cX9_tell 147 = .ok (.ifCond .ne 5, 3) := by decide +kernel
theorem dX9_tell_150 : decode cX9_tell 150 = .ok (.iconst (-1), 1) := by decide +kernel
theorem dX9_tell_151 : decode cX9_tell 151 = .ok (.ireturn, 1) := by decide +kernel
theorem dX9_tell_152 : decode cX9_tell 152 = .ok (.aload_n 0, 1) := by decide +kernel
theorem dX9_tell_153 : decode cX9_tell 153 = .ok (.getfield 31, 3) := by decide +kernel
theorem dX9_tell_156 : decode cX9_tell 156 = .ok (.iload_n 1, 1) := by decide +kernel
theorem dX9_tell_157 : decode cX9_tell 157 = .ok (.iaload, 1) := by decide +kernel
theorem dX9_tell_158 : decode cX9_tell 158 = .ok (.istore 4, 2) := by decide +kernel
theorem dX9_tell_160 : decode cX9_tell 160 = .ok (.aload_n 0, 1) := by decide +kernel
theorem dX9_tell_161 : decode cX9_tell 161 = .ok (.getfield 31, 3) := by decide +kernel
theorem dX9_tell_164 : decode cX9_tell 164 = .ok (.iload_n 1, 1) := by decide +kernel
theorem dX9_tell_165 : decode cX9_tell 165 = .ok (.iload_n 3, 1) := by decide +kernel
theorem dX9_tell_166 : decode cX9_tell 166 = .ok (.iastore, 1) := by decide +kernel
theorem dX9_tell_167 : decode cX9_tell 167 = .ok (.aload_n 0, 1) := by decide +kernel
theorem dX9_tell_168 : decode cX9_tell 168 = .ok (.invokevirtual 164, 3) := by decide +kernel
theorem dX9_tell_171 : decode cX9_tell 171 = .ok (.bipush (-5), 2) := by decide +kernel
theorem dX9_tell_173 : decode cX9_tell 173 = .ok (.if_icmp .ne 6, 3) := by decide +kernel
theorem dX9_tell_176 : decode cX9_tell 176 = .ok (.iload 4, 2) := by decide +kernel
theorem dX9_tell_178 : decode cX9_tell 178 = .ok (.ireturn, 1) := by decide +kernel
theorem dX9_tell_179 : decode cX9_tell 179 = .ok (.aload_n 0, 1) := by decide +kernel
theorem dX9_tell_180 : decode cX9_tell 180 = .ok (.getfield 31, 3) := by decide +kernel
theorem dX9_tell_183 : decode cX9_tell 183 = .ok (.iload_n 1, 1) := by decide +kernel
theorem dX9_tell_184 : decode cX9_tell 184 = .ok (.iload 4, 2) := by decide +kernel
theorem dX9_tell_186 : decode cX9_tell 186 = .ok (.iastore, 1) := by decide +kernel
theorem dX9_tell_187 : decode cX9_tell 187 = .ok (.bipush (-15), 2) := by decide +kernel
theorem dX9_tell_189 : decode cX9_tell 189 = .ok (.ireturn, 1) := by decide +kernel
theorem dX9_tell_190 : decode cX9_tell 190 = .ok (.iload_n 3, 1) := by decide +kernel
theorem dX9_tell_191 : decode cX9_tell 191 = .ok (.iconst 0, 1) := by decide +kernel
theorem dX9_tell_192 : decode cX9_tell 192 = .ok (.bipush 24, 2) := by decide +kernel
theorem dX9_tell_194 : decode cX9_tell 194 = .ok (.invokestatic 125, 3) := by decide +kernel
theorem dX9_tell_197 : decode cX9_tell 197 = .ok (.ifCond .ne 5, 3) := by decide +kernel
theorem dX9_tell_200 : decode cX9_tell 200 = .ok (.iconst (-1), 1) := by decide +kernel
theorem dX9_tell_201 : decode cX9_tell 201 = .ok (.ireturn, 1) := by decide +kernel
theorem dX9_tell_202 : decode cX9_tell 202 = .ok (.aload_n 0, 1) := by decide +kernel
theorem dX9_tell_203 : decode cX9_tell 203 = .ok (.getfield 34, 3) := by decide +kernel
theorem dX9_tell_206 : decode cX9_tell 206 = .ok (.iload_n 1, 1) := by decide +kernel
theorem dX9_tell_207 : decode cX9_tell 207 = .ok (.iaload, 1) := by decide +kernel
theorem dX9_tell_208 : decode cX9_tell 208 = .ok (.istore 4, 2) := by decide +kernel
theorem dX9_tell_210 : decode cX9_tell 210 = .ok (.aload_n 0, 1) := by decide +kernel
theorem dX9_tell_211 : decode cX9_tell 211 = .ok (.getfield 34, 3) := by decide +kernel
theorem dX9_tell_214 : decode cX9_tell 214 = .ok (.iload_n 1, 1) := by decide +kernel
theorem dX9_tell_215 : decode cX9_tell 215 = .ok (.iload_n 3, 1) := by decide +kernel
theorem dX9_tell_216 : decode cX9_tell 216 = .ok (.iastore, 1) := by decide +kernel
theorem dX9_tell_217 : decode cX9_tell 217 = .ok (.iload 4, 2) := by decide +kernel
theorem dX9_tell_219 : decode cX9_tell 219 = .ok (.ireturn, 1) := by decide +kernel
theorem dX9_tell_220 : decode cX9_tell 220 = .ok (.iconst (-1), 1) := by decide +kernel
theorem dX9_tell_221 : decode cX9_tell 221 = .ok (.ireturn, 1) := by decide +kernel
theorem dX9_feed_0 : decode cX9_feed 0 = .ok (.iload_n 1, 1) := by decide +kernel
theorem dX9_feed_1 : decode cX9_feed 1 = .ok (.iconst 1, 1) := by decide +kernel
theorem dX9_feed_2 : decode cX9_feed 2 = .ok (.iconst 4, 1) := by decide +kernel
theorem dX9_feed_3 : decode cX9_feed 3 = .ok (.invokestatic 125, 3) := by decide +kernel
theorem dX9_feed_6 : decode cX9_feed 6 = .ok (.ifCond .ne 5, 3) := by decide +kernel
theorem dX9_feed_9 : decode cX9_feed 9 = .ok (.iconst (-1), 1) := by decide +kernel
theorem dX9_feed_10 : decode cX9_feed 10 = .ok (.ireturn, 1) := by decide +kernel
theorem dX9_feed_11 : decode cX9_feed 11 = .ok (.aload_n 0, 1) := by decide +kernel
theorem dX9_feed_12 : decode cX9_feed 12 = .ok (.getfield 169, 3) := by decide +kernel
theorem dX9_feed_15 : decode cX9_feed 15 = .ok (.iload_n 1, 1) := by decide +kernel
theorem dX9_feed_16 : decode cX9_feed 16 = .ok (.iadd, 1) := by decide +kernel
theorem dX9_feed_17 : decode cX9_feed 17 = .ok (.bipush 100, 2) := by decide +kernel
theorem dX9_feed_19 : decode cX9_feed 19 = .ok (.if_icmp .le 6, 3) := by decide +kernel
theorem dX9_feed_22 : decode cX9_feed 22 = .ok (.bipush (-3), 2) := by decide +kernel
theorem dX9_feed_24 : decode cX9_feed 24 = .ok (.ireturn, 1) := by decide +kernel
theorem dX9_feed_25 : decode cX9_feed 25 = .ok (.iconst 0, 1) := by decide +kernel
theorem dX9_feed_26 : decode cX9_feed 26 = .ok (.istore_n 3, 1) := by decide +kernel
theorem dX9_feed_27 : decode cX9_feed 27 = .ok (.iload_n 3, 1) := by decide +kernel
theorem dX9_feed_28 : decode cX9_feed 28 = .ok (.iload_n 1, 1) := by decide +kernel
theorem dX9_feed_29 : decode cX9_feed 29 = .ok (.if_icmp .ge 35, 3) := by decide +kernel
theorem dX9_feed_32 : decode cX9_feed 32 = .ok (.aload_n 0, 1) := by decide +kernel
theorem dX9_feed_33 : decode cX9_feed 33 = .ok (.getfield 81, 3) := by decide +kernel
theorem dX9_feed_36 : decode cX9_feed 36 = .ok (.aload_n 0, 1) := by decide +kernel
theorem dX9_feed_37 : decode cX9_feed 37 = .ok (.getfield 169, 3) := by decide +kernel
theorem dX9_feed_40 : decode cX9_feed 40 = .ok (.iload_n 2, 1) := by decide +kernel
theorem dX9_feed_41 : decode cX9_feed 41 = .ok (.bipush 8, 2) := by decide +kernel
theorem dX9_feed_43 : decode cX9_feed 43 = .ok (.iload_n 3, 1) := by decide +kernel
theorem dX9_feed_44 : decode cX9_feed 44 = .ok (.imul, 1) := by decide +kernel
theorem dX9_feed_45 : decode cX9_feed 45 = .ok (.ishr, 1) := by decide +kernel
theorem dX9_feed_46 : decode cX9_feed 46 = .ok (.i2b, 1) := by decide +kernel
theorem dX9_feed_47 : decode cX9_feed 47 = .ok (.bastore, 1) := by decide +kernel
theorem dX9_feed_48 : decode cX9_feed 48 = .ok (.aload_n 0, 1) := by decide +kernel
theorem dX9_feed_49 : decode cX9_feed 49 = .ok (.dup, 1) := by decide +kernel
theorem dX9_feed_50 : decode cX9_feed 50 = .ok (.getfield 169, 3) := by decide +kernel
theorem dX9_feed_53 : decode cX9_feed 53 = .ok (.iconst 1, 1) := by decide +kernel
theorem dX9_feed_54 : decode cX9_feed 54 = .ok (.iadd, 1) := by decide +kernel
theorem dX9_feed_55 : decode cX9_feed 55 = .ok (.putfield 169, 3) := by decide +kernel
theorem dX9_feed_58 : decode cX9_feed 58 = .ok (.iinc 3 1, 3) := by decide +kernel
theorem dX9_feed_61 : decode cX9_feed 61 = .ok (.goto (-34), 3) := by decide +kernel
theorem dX9_feed_64 : decode cX9_feed 64 = .ok (.aload_n 0, 1) := by decide +kernel
theorem dX9_feed_65 : decode cX9_feed 65 = .ok (.getfield 169, 3) := by decide +kernel
theorem dX9_feed_68 : decode cX9_feed 68 = .ok (.ireturn, 1) := by decide +kernel
theorem dX9_isDigit_0 : decode cX9_isDigit 0 = .ok (.iload_n 0, 1) := by decide +kernel
theorem dX9_isDigit_1 : decode cX9_isDigit 1 = .ok (.bipush 48, 2) := by decide +kernel
theorem dX9_isDigit_3 : decode cX9_isDigit 3 = .ok (.if_icmp .lt 13, 3) := by decide +kernel
theorem dX9_isDigit_6 : decode cX9_isDigit 6 = .ok (.iload_n 0, 1) := by decide +kernel
theorem dX9_isDigit_7 : decode cX9_isDigit 7 = .ok (.bipush 57, 2) := by decide +kernel
theorem dX9_isDigit_9 : decode cX9_isDigit 9 = .ok (.if_icmp .gt 7, 3) := by decide +kernel
theorem dX9_isDigit_12 : decode cX9_isDigit 12 = .ok (.iconst 1, 1) := by decide +kernel
theorem dX9_isDigit_13 : decode cX9_isDigit 13 = .ok (.goto 4, 3) := by decide +kernel
theorem dX9_isDigit_16 : decode cX9_isDigit 16 = .ok (.iconst 0, 1) := by decide +kernel
theorem dX9_isDigit_17 : decode cX9_isDigit 17 = .ok (.ireturn, 1) := by decide +kernel
theorem dX9_isName_0 : decode cX9_isName 0 = .ok (.iload_n 0, 1) := by decide +kernel
theorem dX9_isName_1 : decode cX9_isName 1 = .ok (.bipush 112, 2) := by decide +kernel
theorem dX9_isName_3 : decode cX9_isName 3 = .ok (.if_icmp .eq 45, 3) := by decide +kernel
theorem dX9_isName_6 : decode cX9_isName 6 = .ok (.iload_n 0, 1) := by decide +kernel
theorem dX9_isName_7 : decode cX9_isName 7 = .ok (.bipush 107, 2) := by decide +kernel
theorem dX9_isName_9 : decode cX9_isName 9 = .ok (.if_icmp .eq 39, 3) := by decide +kernel
theorem dX9_isName_12 : decode cX9_isName 12 = .ok (.iload_n 0, 1) := by decide +kernel
theorem dX9_isName_13 : decode cX9_isName 13 = .ok (.bipush 110, 2) := by decide +kernel
theorem dX9_isName_15 : decode cX9_isName 15 = .ok (.if_icmp .eq 33, 3) := by decide +kernel
theorem dX9_isName_18 : decode cX9_isName 18 = .ok (.iload_n 0, 1) := by decide +kernel
theorem dX9_isName_19 : decode cX9_isName 19 = .ok (.bipush 119, 2) := by decide +kernel
theorem dX9_isName_21 : decode cX9_isName 21 = .ok (.if_icmp .eq 27, 3) := by decide +kernel
theorem dX9_isName_24 : decode cX9_isName 24 = .ok (.iload_n 0, 1) := by decide +kernel
theorem dX9_isName_25 : decode cX9_isName 25 = .ok (.bipush 109, 2) := by decide +kernel
theorem dX9_isName_27 : decode cX9_isName 27 = .ok (.if_icmp .eq 21, 3) := by decide +kernel
theorem dX9_isName_30 : decode cX9_isName 30 = .ok (.iload_n 0, 1) := by decide +kernel
theorem dX9_isName_31 : decode cX9_isName 31 = .ok (.bipush 121, 2) := by decide +kernel
theorem dX9_isName_33 : decode cX9_isName 33 = .ok (.if_icmp .eq 15, 3) := by decide +kernel
theorem dX9_isName_36 : decode cX9_isName 36 = .ok (.iload_n 0, 1) := by decide +kernel
theorem dX9_isName_37 : decode cX9_isName 37 = .ok (.bipush 102, 2) := by decide +kernel
theorem dX9_isName_39 : decode cX9_isName 39 = .ok (.if_icmp .eq 9, 3) := by decide +kernel
theorem dX9_isName_42 : decode cX9_isName 42 = .ok (.iload_n 0, 1) := by decide +kernel
theorem dX9_isName_43 : decode cX9_isName 43 = .ok (.bipush 100, 2) := by decide +kernel
theorem dX9_isName_45 : decode cX9_isName 45 = .ok (.if_icmp .ne 7, 3) := by decide +kernel
theorem dX9_isName_48 : decode cX9_isName 48 = .ok (.iconst 1, 1) := by decide +kernel
theorem dX9_isName_49 : decode cX9_isName 49 = .ok (.goto 4, 3) := by decide +kernel
theorem dX9_isName_52 : decode cX9_isName 52 = .ok (.iconst 0, 1) := by decide +kernel
theorem dX9_isName_53 : decode cX9_isName 53 = .ok (.ireturn, 1) := by decide +kernel
theorem dX9_isSign_0 : decode cX9_isSign 0 = .ok (.iload_n 0, 1) := by decide +kernel
theorem dX9_isSign_1 : decode cX9_isSign 1 = .ok (.bipush 43, 2) := by decide +kernel
theorem dX9_isSign_3 : decode cX9_isSign 3 = .ok (.if_icmp .eq 45, 3) := by decide +kernel
theorem dX9_isSign_6 : decode cX9_isSign 6 = .ok (.iload_n 0, 1) := by decide +kernel
theorem dX9_isSign_7 : decode cX9_isSign 7 = .ok (.bipush 45, 2) := by decide +kernel
theorem dX9_isSign_9 : decode cX9_isSign 9 = .ok (.if_icmp .eq 39, 3) := by decide +kernel
theorem dX9_isSign_12 : decode cX9_isSign 12 = .ok (.iload_n 0, 1) := by decide +kernel
theorem dX9_isSign_13 : decode cX9_isSign 13 = .ok (.bipush 42, 2) := by decide +kernel
theorem dX9_isSign_15 : decode cX9_isSign 15 = .ok (.if_icmp .eq 33, 3) := by decide +kernel
theorem dX9_isSign_18 : decode cX9_isSign 18 = .ok (.iload_n 0, 1) := by decide +kernel
theorem dX9_isSign_19 : decode cX9_isSign 19 = .ok (.bipush 60, 2) := by decide +kernel
theorem dX9_isSign_21 : decode cX9_isSign 21 = .ok (.if_icmp .eq 27, 3) := by decide +kernel
theorem dX9_isSign_24 : decode cX9_isSign 24 = .ok (.iload_n 0, 1) := by decide +kernel
theorem dX9_isSign_25 : decode cX9_isSign 25 = .ok (.bipush 61, 2) := by decide +kernel
theorem dX9_isSign_27 : decode cX9_isSign 27 = .ok (.if_icmp .eq 21, 3) := by decide +kernel
theorem dX9_isSign_30 : decode cX9_isSign 30 = .ok (.iload_n 0, 1) := by decide +kernel
theorem dX9_isSign_31 : decode cX9_isSign 31 = .ok (.bipush 62, 2) := by decide +kernel
theorem dX9_isSign_33 : decode cX9_isSign 33 = .ok (.if_icmp .eq 15, 3) := by decide +kernel
theorem dX9_isSign_36 : decode cX9_isSign 36 = .ok (.iload_n 0, 1) := by decide +kernel
theorem dX9_isSign_37 : decode cX9_isSign 37 = .ok (.bipush 38, 2) := by decide +kernel
theorem dX9_isSign_39 : decode cX9_isSign 39 = .ok (.if_icmp .eq 9, 3) := by decide +kernel
theorem dX9_isSign_42 : decode cX9_isSign 42 = .ok (.iload_n 0, 1) := by decide +kernel
theorem dX9_isSign_43 : decode cX9_isSign 43 = .ok (.bipush 124, 2) := by decide +kernel
theorem dX9_isSign_45 : decode cX9_isSign 45 = .ok (.if_icmp .ne 7, 3) := by decide +kernel
theorem dX9_isSign_48 : decode cX9_isSign 48 = .ok (.iconst 1, 1) := by decide +kernel
theorem dX9_isSign_49 : decode cX9_isSign 49 = .ok (.goto 4, 3) := by decide +kernel
theorem dX9_isSign_52 : decode cX9_isSign 52 = .ok (.iconst 0, 1) := by decide +kernel
theorem dX9_isSign_53 : decode cX9_isSign 53 = .ok (.ireturn, 1) := by decide +kernel
theorem dX9_lay0_0 : decode cX9_lay0 0 = .ok (.aload_n 0, 1) := by decide +kernel
theorem dX9_lay0_1 : decode cX9_lay0 1 = .ok (.getfield 88, 3) := by decide +kernel
theorem dX9_lay0_4 : decode cX9_lay0 4 = .ok (.aload_n 0, 1) := by decide +kernel
theorem dX9_lay0_5 : decode cX9_lay0 5 = .ok (.getfield 172, 3) := by decide +kernel
theorem dX9_lay0_8 : decode cX9_lay0 8 = .ok (.iload_n 1, 1) := by decide +kernel
theorem dX9_lay0_9 : decode cX9_lay0 9 = .ok (.iastore, 1) := by decide +kernel
theorem dX9_lay0_10 : decode cX9_lay0 10 = .ok (.aload_n 0, 1) := by decide +kernel
theorem dX9_lay0_11 : decode cX9_lay0 11 = .ok (.dup, 1) := by decide +kernel
theorem dX9_lay0_12 : decode cX9_lay0 12 = .ok (.getfield 172, 3) := by decide +kernel
theorem dX9_lay0_15 : decode cX9_lay0 15 = .ok (.iconst 1, 1) := by decide +kernel
theorem dX9_lay0_16 : decode cX9_lay0 16 = .ok (.iadd, 1) := by decide +kernel
theorem dX9_lay0_17 : decode cX9_lay0 17 = .ok (.putfield 172, 3) := by decide +kernel
theorem dX9_lay0_20 : decode cX9_lay0 20 = .ok (.return_, 1) := by decide +kernel
theorem dX9_read_0 : decode cX9_read 0 = .ok (.aload_n 0, 1) := by decide +kernel
theorem dX9_read_1 : decode cX9_read 1 = .ok (.aload_n 0, 1) := by decide +kernel
theorem dX9_read_2 : decode cX9_read 2 = .ok (.getfield 85, 3) := by decide +kernel
theorem dX9_read_5 : decode cX9_read 5 = .ok (.aload_n 0, 1) := by decide +kernel
theorem dX9_read_6 : decode cX9_read 6 = .ok (.getfield 175, 3) := by decide +kernel
theorem dX9_read_9 : decode cX9_read 9 = .ok (.iaload, 1) := by decide +kernel
theorem dX9_read_10 : decode cX9_read 10 = .ok (.putfield 172, 3) := by decide +kernel
theorem dX9_read_13 : decode cX9_read 13 = .ok (.iconst 0, 1) := by decide +kernel
theorem dX9_read_14 : decode cX9_read 14 = .ok (.istore_n 1, 1) := by decide +kernel
theorem dX9_read_15 : decode cX9_read 15 = .ok (.iconst 0, 1) := by decide +kernel
theorem dX9_read_16 : decode cX9_read 16 = .ok (.istore_n 2, 1) := by decide +kernel
theorem dX9_read_17 : decode cX9_read 17 = .ok (.iload_n 2, 1) := by decide +kernel
theorem dX9_read_18 : decode cX9_read 18 = .ok (.aload_n 0, 1) := by decide +kernel
theorem dX9_read_19 : decode cX9_read 19 = .ok (.getfield 169, 3) := by decide +kernel
theorem dX9_read_22 : decode cX9_read 22 = .ok (.if_icmp .ge 308, 3) := by decide +kernel
theorem dX9_read_25 : decode cX9_read 25 = .ok (.aload_n 0, 1) := by decide +kernel
theorem dX9_read_26 : decode cX9_read 26 = .ok (.getfield 81, 3) := by decide +kernel
theorem dX9_read_29 : decode cX9_read 29 = .ok (.iload_n 2, 1) := by decide +kernel
theorem dX9_read_30 : decode cX9_read 30 = .ok (.baload, 1) := by decide +kernel
theorem dX9_read_31 : decode cX9_read 31 = .ok (.istore_n 3, 1) := by decide +kernel
theorem dX9_read_32 : decode cX9_read 32 = .ok (.iload_n 3, 1) := by decide +kernel
theorem dX9_read_33 : decode cX9_read 33 = .ok (.invokestatic 178, 3) := by decide +kernel
theorem dX9_read_36 : decode cX9_read 36 = .ok (.ifCond .ne 9, 3) := by decide +kernel
theorem dX9_read_39 : decode cX9_read 39 = .ok (.iload_n 3, 1) := by decide +kernel
theorem dX9_read_40 : decode cX9_read 40 = .ok (.bipush 33, 2) := by decide +kernel
theorem dX9_read_42 : decode cX9_read 42 = .ok (.if_icmp .ne 42, 3) := by decide +kernel
theorem dX9_read_45 : decode cX9_read 45 = .ok (.iload_n 1, 1) := by decide +kernel
theorem dX9_read_46 : decode cX9_read 46 = .ok (.bipush 20, 2) := by decide +kernel
theorem dX9_read_48 : decode cX9_read 48 = .ok (.if_icmp .ne 5, 3) := by decide +kernel
theorem dX9_read_51 : decode cX9_read 51 = .ok (.iload_n 2, 1) := by decide +kernel
theorem dX9_read_52 : decode cX9_read 52 = .ok (.ireturn, 1) := by decide +kernel
theorem dX9_read_53 : decode cX9_read 53 = .ok (.aload_n 0, 1) := by decide +kernel
theorem dX9_read_54 : decode cX9_read 54 = .ok (.getfield 91, 3) := by decide +kernel
theorem dX9_read_57 : decode cX9_read 57 = .ok (.iload_n 1, 1) := by decide +kernel
theorem dX9_read_58 : decode cX9_read 58 = .ok (.iload_n 3, 1) := by decide +kernel
theorem dX9_read_59 : decode cX9_read 59 = .ok (.bipush 33, 2) := by decide +kernel
theorem dX9_read_61 : decode cX9_read 61 = .ok (.if_icmp .ne 7, 3) := by decide +kernel
theorem dX9_read_64 : decode cX9_read 64 = .ok (.iconst 1, 1) := by decide +kernel
theorem dX9_read_65 : decode cX9_read 65 = .ok (.goto 4, 3) := by decide +kernel
theorem dX9_read_68 : decode cX9_read 68 = .ok (.iconst 2, 1) := by decide +kernel
theorem dX9_read_69 : decode cX9_read 69 = .ok (.iastore, 1) := by decide +kernel
theorem dX9_read_70 : decode cX9_read 70 = .ok (.iinc 1 1, 3) := by decide +kernel
theorem dX9_read_73 : decode cX9_read 73 = .ok (.aload_n 0, 1) := by decide +kernel
theorem dX9_read_74 : decode cX9_read 74 = .ok (.iload_n 3, 1) := by decide +kernel
theorem dX9_read_75 : decode cX9_read 75 = .ok (.invokevirtual 181, 3) := by decide +kernel
theorem dX9_read_78 : decode cX9_read 78 = .ok (.iinc 2 1, 3) := by decide +kernel
theorem dX9_read_81 : decode cX9_read 81 = .ok (.goto (-64), 3) := by decide +kernel
theorem dX9_read_84 : decode cX9_read 84 = .ok (.iload_n 3, 1) := by decide +kernel
theorem dX9_read_85 : decode cX9_read 85 = .ok (.bipush 35, 2) := by decide +kernel
theorem dX9_read_87 : decode cX9_read 87 = .ok (.if_icmp .ne 104, 3) := by decide +kernel
theorem dX9_read_90 : decode cX9_read 90 = .ok (.iconst 0, 1) := by decide +kernel
theorem dX9_read_91 : decode cX9_read 91 = .ok (.istore 4, 2) := by decide +kernel
theorem dX9_read_93 : decode cX9_read 93 = .ok (.iconst 0, 1) := by decide +kernel
theorem dX9_read_94 : decode cX9_read 94 = .ok (.istore 5, 2) := by decide +kernel
theorem dX9_read_96 : decode cX9_read 96 = .ok (.iinc 2 1, 3) := by decide +kernel
theorem dX9_read_99 : decode cX9_read 99 = .ok (.iload_n 2, 1) := by decide +kernel
theorem dX9_read_100 : decode cX9_read 100 = .ok (.aload_n 0, 1) := by decide +kernel
theorem dX9_read_101 : decode cX9_read 101 = .ok (.getfield 169, 3) := by decide +kernel
theorem dX9_read_104 : decode cX9_read 104 = .ok (.if_icmp .ge 49, 3) := by decide +kernel
theorem dX9_read_107 : decode cX9_read 107 = .ok (.aload_n 0, 1) := by decide +kernel
theorem dX9_read_108 : decode cX9_read 108 = .ok (.getfield 81, 3) := by decide +kernel
theorem dX9_read_111 : decode cX9_read 111 = .ok (.iload_n 2, 1) := by decide +kernel
theorem dX9_read_112 : decode cX9_read 112 = .ok (.baload, 1) := by decide +kernel
theorem dX9_read_113 : decode cX9_read 113 = .ok (.invokestatic 185, 3) := by decide +kernel
theorem dX9_read_116 : decode cX9_read 116 = .ok (.ifCond .eq 37, 3) := by decide +kernel
theorem dX9_read_119 : decode cX9_read 119 = .ok (.iload 4, 2) := by decide +kernel
theorem dX9_read_121 : decode cX9_read 121 = .ok (.iconst 5, 1) := by decide +kernel
theorem dX9_read_122 : decode cX9_read 122 = .ok (.if_icmp .ne 5, 3) := by decide +kernel
theorem dX9_read_125 : decode cX9_read 125 = .ok (.iload_n 2, 1) := by decide +kernel
theorem dX9_read_126 : decode cX9_read 126 = .ok (.ireturn, 1) := by decide +kernel
theorem dX9_read_127 : decode cX9_read 127 = .ok (.bipush 10, 2) := by decide +kernel
theorem dX9_read_129 : decode cX9_read 129 = .ok (.iload 5, 2) := by decide +kernel
theorem dX9_read_131 : decode cX9_read 131 = .ok (.imul, 1) := by decide +kernel
theorem dX9_read_132 : decode cX9_read 132 = .ok (.aload_n 0, 1) := by decide +kernel
theorem dX9_read_133 : decode cX9_read 133 = .ok (.getfield 81, 3) := by decide +kernel
theorem dX9_read_136 : decode cX9_read 136 = .ok (.iload_n 2, 1) := by decide +kernel
theorem dX9_read_137 : decode cX9_read 137 = .ok (.baload, 1) := by decide +kernel
theorem dX9_read_138 : decode cX9_read 138 = .ok (.iadd, 1) := by decide +kernel
theorem dX9_read_139 : decode cX9_read 139 = .ok (.bipush 48, 2) := by decide +kernel
theorem dX9_read_141 : decode cX9_read 141 = .ok (.isub, 1) := by decide +kernel
theorem dX9_read_142 : decode cX9_read 142 = .ok (.istore 5, 2) := by decide +kernel
theorem dX9_read_144 : decode cX9_read 144 = .ok (.iinc 4 1, 3) := by decide +kernel
theorem dX9_read_147 : decode cX9_read 147 = .ok (.iinc 2 1, 3) := by decide +kernel
theorem dX9_read_150 : decode cX9_read 150 = .ok (.goto (-51), 3) := by decide +kernel
theorem dX9_read_153 : decode cX9_read 153 = .ok (.iload_n 2, 1) := by decide +kernel
theorem dX9_read_154 : decode cX9_read 154 = .ok (.aload_n 0, 1) := by decide +kernel
theorem dX9_read_155 : decode cX9_read 155 = .ok (.getfield 169, 3) := by decide +kernel
theorem dX9_read_158 : decode cX9_read 158 = .ok (.if_icmp .eq 20, 3) := by decide +kernel
theorem dX9_read_161 : decode cX9_read 161 = .ok (.iload 4, 2) := by decide +kernel
theorem dX9_read_163 : decode cX9_read 163 = .ok (.iconst 2, 1) := by decide +kernel
theorem dX9_read_164 : decode cX9_read 164 = .ok (.if_icmp .lt 14, 3) := by decide +kernel
theorem dX9_read_167 : decode cX9_read 167 = .ok (.aload_n 0, 1) := by decide +kernel
theorem dX9_read_168 : decode cX9_read 168 = .ok (.getfield 81, 3) := by decide +kernel
theorem dX9_read_171 : decode cX9_read 171 = .ok (.iload_n 2, 1) := by decide +kernel
theorem dX9_read_172 : decode cX9_read 172 = .ok (.baload, 1) := by decide +kernel
theorem dX9_read_173 : decode cX9_read 173 = .ok (.bipush 32, 2) := by decide +kernel
theorem dX9_read_175 : decode cX9_read 175 = .ok (.if_icmp .eq 5, 3) := by decide +kernel
theorem dX9_read_178 : decode cX9_read 178 = .ok (.iload_n 2, 1) := by decide +kernel
theorem dX9_read_179 : decode cX9_read 179 = .ok (.ireturn, 1) := by decide +kernel
theorem dX9_read_180 : decode cX9_read 180 = .ok (.aload_n 0, 1) := by decide +kernel
theorem dX9_read_181 : decode cX9_read 181 = .ok (.iconst (-1), 1) := by decide +kernel
theorem dX9_read_182 : decode cX9_read 182 = .ok (.iload 5, 2) := by decide +kernel
theorem dX9_read_184 : decode cX9_read 184 = .ok (.isub, 1) := by decide +kernel
theorem dX9_read_185 : decode cX9_read 185 = .ok (.invokevirtual 181, 3) := by decide +kernel
theorem dX9_read_188 : decode cX9_read 188 = .ok (.goto 40, 3) := by decide +kernel
theorem dX9_read_191 : decode cX9_read 191 = .ok (.iload_n 3, 1) := by decide +kernel
theorem dX9_read_192 : decode cX9_read 192 = .ok (.invokestatic 185, 3) := by decide +kernel
theorem dX9_read_195 : decode cX9_read 195 = .ok (.ifCond .eq 16, 3) := by decide +kernel
theorem dX9_read_198 : decode cX9_read 198 = .ok (.aload_n 0, 1) := by decide +kernel
theorem dX9_read_199 : decode cX9_read 199 = .ok (.iconst (-1), 1) := by decide +kernel
theorem dX9_read_200 : decode cX9_read 200 = .ok (.iload_n 3, 1) := by decide +kernel
theorem dX9_read_201 : decode cX9_read 201 = .ok (.bipush 48, 2) := by decide +kernel
theorem dX9_read_203 : decode cX9_read 203 = .ok (.isub, 1) := by decide +kernel
theorem dX9_read_204 : decode cX9_read 204 = .ok (.isub, 1) := by decide +kernel
theorem dX9_read_205 : decode cX9_read 205 = .ok (.invokevirtual 181, 3) := by decide +kernel
theorem dX9_read_208 : decode cX9_read 208 = .ok (.goto 20, 3) := by decide +kernel
theorem dX9_read_211 : decode cX9_read 211 = .ok (.iload_n 3, 1) := by decide +kernel
theorem dX9_read_212 : decode cX9_read 212 = .ok (.invokestatic 188, 3) := by decide +kernel
theorem dX9_read_215 : decode cX9_read 215 = .ok (.ifCond .eq 11, 3) := by decide +kernel
theorem dX9_read_218 : decode cX9_read 218 = .ok (.aload_n 0, 1) := by decide +kernel
theorem dX9_read_219 : decode cX9_read 219 = .ok (.iload_n 3, 1) := by decide +kernel
theorem dX9_read_220 : decode cX9_read 220 = .ok (.invokevirtual 181, 3) := by decide +kernel
theorem dX9_read_223 : decode cX9_read 223 = .ok (.goto 5, 3) := by decide +kernel
theorem dX9_read_226 : decode cX9_read 226 = .ok (.iload_n 2, 1) := by decide +kernel
theorem dX9_read_227 : decode cX9_read 227 = .ok (.ireturn, 1) := by decide +kernel
theorem dX9_read_228 : decode cX9_read 228 = .ok (.iinc 2 1, 3) := by decide +kernel
theorem dX9_read_231 : decode cX9_read 231 = .ok (.iload_n 1, 1) := by decide +kernel
theorem dX9_read_232 : decode cX9_read 232 = .ok (.ifCond .le 7, 3) := by decide +kernel
theorem dX9_read_235 : decode cX9_read 235 = .ok (.iconst 1, 1) := by decide +kernel
theorem dX9_read_236 : decode cX9_read 236 = .ok (.goto 4, 3) := by decide +kernel
theorem dX9_read_239 : decode cX9_read 239 = .ok (.iconst 0, 1) := by decide +kernel
theorem dX9_read_240 : decode cX9_read 240 = .ok (.istore 4, 2) := by decide +kernel
theorem dX9_read_242 : decode cX9_read 242 = .ok (.iload 4, 2) := by decide +kernel
theorem dX9_read_244 : decode cX9_read 244 = .ok (.ifCond .eq 65, 3) := by decide +kernel
theorem dX9_read_247 : decode cX9_read 247 = .ok (.aload_n 0, 1) := by decide +kernel
theorem dX9_read_248 : decode cX9_read 248 = .ok (.getfield 91, 3) := by decide +kernel
theorem dX9_read_251 : decode cX9_read 251 = .ok (.iload_n 1, 1) := by decide +kernel
theorem dX9_read_252 : decode cX9_read 252 = .ok (.iconst 1, 1) := by decide +kernel
theorem dX9_read_253 : decode cX9_read 253 = .ok (.isub, 1) := by decide +kernel
theorem dX9_read_254 : decode cX9_read 254 = .ok (.dup2, 1) := by decide +kernel
theorem dX9_read_255 : decode cX9_read 255 = .ok (.iaload, 1) := by decide +kernel
theorem dX9_read_256 : decode cX9_read 256 = .ok (.iconst 1, 1) := by decide +kernel
theorem dX9_read_257 : decode cX9_read 257 = .ok (.isub, 1) := by decide +kernel
theorem dX9_read_258 : decode cX9_read 258 = .ok (.iastore, 1) := by decide +kernel
theorem dX9_read_259 : decode cX9_read 259 = .ok (.aload_n 0, 1) := by decide +kernel
theorem dX9_read_260 : decode cX9_read 260 = .ok (.getfield 91, 3) := by decide +kernel
theorem dX9_read_263 : decode cX9_read 263 = .ok (.iload_n 1, 1) := by decide +kernel
theorem dX9_read_264 : decode cX9_read 264 = .ok (.iconst 1, 1) := by decide +kernel
theorem dX9_read_265 : decode cX9_read 265 = .ok (.isub, 1) := by decide +kernel
theorem dX9_read_266 : decode cX9_read 266 = .ok (.iaload, 1) := by decide +kernel
theorem dX9_read_267 : decode cX9_read 267 = .ok (.ifCond .ne 7, 3) := by decide +kernel
theorem dX9_read_270 : decode cX9_read 270 = .ok (.iconst 1, 1) := by decide +kernel
theorem dX9_read_271 : decode cX9_read 271 = .ok (.goto 4, 3) := by decide +kernel
theorem dX9_read_274 : decode cX9_read 274 = .ok (.iconst 0, 1) := by decide +kernel
theorem dX9_read_275 : decode cX9_read 275 = .ok (.istore 4, 2) := by decide +kernel
theorem dX9_read_277 : decode cX9_read 277 = .ok (.iload_n 1, 1) := by decide +kernel
theorem dX9_read_278 : decode cX9_read 278 = .ok (.iload 4, 2) := by decide +kernel
theorem dX9_read_280 : decode cX9_read 280 = .ok (.ifCond .eq 7, 3) := by decide +kernel
theorem dX9_read_283 : decode cX9_read 283 = .ok (.iconst 1, 1) := by decide +kernel
theorem dX9_read_284 : decode cX9_read 284 = .ok (.goto 4, 3) := by decide +kernel
theorem dX9_read_287 : decode cX9_read 287 = .ok (.iconst 0, 1) := by decide +kernel
theorem dX9_read_288 : decode cX9_read 288 = .ok (.isub, 1) := by decide +kernel
theorem dX9_read_289 : decode cX9_read 289 = .ok (.istore_n 1, 1) := by decide +kernel
theorem dX9_read_290 : decode cX9_read 290 = .ok (.iload 4, 2) := by decide +kernel
theorem dX9_read_292 : decode cX9_read 292 = .ok (.ifCond .eq 11, 3) := by decide +kernel
theorem dX9_read_295 : decode cX9_read 295 = .ok (.iload_n 1, 1) := by decide +kernel
theorem dX9_read_296 : decode cX9_read 296 = .ok (.ifCond .le 7, 3) := by decide +kernel
theorem dX9_read_299 : decode cX9_read 299 = .ok (.iconst 1, 1) := by decide +kernel
theorem dX9_read_300 : decode cX9_read 300 = .ok (.goto 4, 3) := by decide +kernel
theorem dX9_read_303 : decode cX9_read 303 = .ok (.iconst 0, 1) := by decide +kernel
theorem dX9_read_304 : decode cX9_read 304 = .ok (.istore 4, 2) := by decide +kernel
theorem dX9_read_306 : decode cX9_read 306 = .ok (.goto (-64), 3) := by decide +kernel
theorem dX9_read_309 : decode cX9_read 309 = .ok (.iload_n 1, 1) := by decide +kernel
theorem dX9_read_310 : decode cX9_read 310 = .ok (.ifCond .ne 17, 3) := by decide +kernel
theorem dX9_read_313 : decode cX9_read 313 = .ok (.iload_n 2, 1) := by decide +kernel
theorem dX9_read_314 : decode cX9_read 314 = .ok (.aload_n 0, 1) := by decide +kernel
theorem dX9_read_315 : decode cX9_read 315 = .ok (.getfield 169, 3) := by decide +kernel
theorem dX9_read_318 : decode cX9_read 318 = .ok (.if_icmp .ne 7, 3) := by decide +kernel
theorem dX9_read_321 : decode cX9_read 321 = .ok (.iconst (-1), 1) := by decide +kernel
theorem dX9_read_322 : decode cX9_read 322 = .ok (.goto 4, 3) := by decide +kernel
theorem dX9_read_325 : decode cX9_read 325 = .ok (.iload_n 2, 1) := by decide +kernel
theorem dX9_read_326 : decode cX9_read 326 = .ok (.ireturn, 1) := by decide +kernel
theorem dX9_read_327 : decode cX9_read 327 = .ok (.goto (-310), 3) := by decide +kernel
theorem dX9_read_330 : decode cX9_read 330 = .ok (.aload_n 0, 1) := by decide +kernel
theorem dX9_read_331 : decode cX9_read 331 = .ok (.getfield 169, 3) := by decide +kernel
theorem dX9_read_334 : decode cX9_read 334 = .ok (.ireturn, 1) := by decide +kernel
theorem dX9_keep_0 : decode cX9_keep 0 = .ok (.aload_n 0, 1) := by decide +kernel
theorem dX9_keep_1 : decode cX9_keep 1 = .ok (.dup, 1) := by decide +kernel
theorem dX9_keep_2 : decode cX9_keep 2 = .ok (.getfield 175, 3) := by decide +kernel
theorem dX9_keep_5 : decode cX9_keep 5 = .ok (.iconst 1, 1) := by decide +kernel
theorem dX9_keep_6 : decode cX9_keep 6 = .ok (.iadd, 1) := by decide +kernel
theorem dX9_keep_7 : decode cX9_keep 7 = .ok (.putfield 175, 3) := by decide +kernel
theorem dX9_keep_10 : decode cX9_keep 10 = .ok (.aload_n 0, 1) := by decide +kernel
theorem dX9_keep_11 : decode cX9_keep 11 = .ok (.getfield 85, 3) := by decide +kernel
theorem dX9_keep_14 : decode cX9_keep 14 = .ok (.aload_n 0, 1) := by decide +kernel
theorem dX9_keep_15 : decode cX9_keep 15 = .ok (.getfield 175, 3) := by decide +kernel
theorem dX9_keep_18 : decode cX9_keep 18 = .ok (.aload_n 0, 1) := by decide +kernel
theorem dX9_keep_19 : decode cX9_keep 19 = .ok (.getfield 172, 3) := by decide +kernel
theorem dX9_keep_22 : decode cX9_keep 22 = .ok (.iastore, 1) := by decide +kernel
theorem dX9_keep_23 : decode cX9_keep 23 = .ok (.aload_n 0, 1) := by decide +kernel
theorem dX9_keep_24 : decode cX9_keep 24 = .ok (.iconst 0, 1) := by decide +kernel
theorem dX9_keep_25 : decode cX9_keep 25 = .ok (.putfield 169, 3) := by decide +kernel
theorem dX9_keep_28 : decode cX9_keep 28 = .ok (.aload_n 0, 1) := by decide +kernel
theorem dX9_keep_29 : decode cX9_keep 29 = .ok (.getfield 175, 3) := by decide +kernel
theorem dX9_keep_32 : decode cX9_keep 32 = .ok (.iconst 1, 1) := by decide +kernel
theorem dX9_keep_33 : decode cX9_keep 33 = .ok (.isub, 1) := by decide +kernel
theorem dX9_keep_34 : decode cX9_keep 34 = .ok (.ireturn, 1) := by decide +kernel
theorem dX9_isFrost_0 : decode cX9_isFrost 0 = .ok (.aload_n 0, 1) := by decide +kernel
theorem dX9_isFrost_1 : decode cX9_isFrost 1 = .ok (.getfield 191, 3) := by decide +kernel
theorem dX9_isFrost_4 : decode cX9_isFrost 4 = .ok (.iload_n 1, 1) := by decide +kernel
theorem dX9_isFrost_5 : decode cX9_isFrost 5 = .ok (.bipush 12, 2) := by decide +kernel
theorem dX9_isFrost_7 : decode cX9_isFrost 7 = .ok (.irem, 1) := by decide +kernel
theorem dX9_isFrost_8 : decode cX9_isFrost 8 = .ok (.ishr, 1) := by decide +kernel
theorem dX9_isFrost_9 : decode cX9_isFrost 9 = .ok (.iconst 1, 1) := by decide +kernel
theorem dX9_isFrost_10 : decode cX9_isFrost 10 = .ok (.iand, 1) := by decide +kernel
theorem dX9_isFrost_11 : decode cX9_isFrost 11 = .ok (.iconst 1, 1) := by decide +kernel
theorem dX9_isFrost_12 : decode cX9_isFrost 12 = .ok (.if_icmp .eq 12, 3) := by decide +kernel
theorem dX9_isFrost_15 : decode cX9_isFrost 15 = .ok (.aload_n 0, 1) := by decide +kernel
theorem dX9_isFrost_16 : decode cX9_isFrost 16 = .ok (.getfield 59, 3) := by decide +kernel
theorem dX9_isFrost_19 : decode cX9_isFrost 19 = .ok (.iload_n 1, 1) := by decide +kernel
theorem dX9_isFrost_20 : decode cX9_isFrost 20 = .ok (.baload, 1) := by decide +kernel
theorem dX9_isFrost_21 : decode cX9_isFrost 21 = .ok (.ifCond .eq 7, 3) := by decide +kernel
theorem dX9_isFrost_24 : decode cX9_isFrost 24 = .ok (.iconst 1, 1) := by decide +kernel
theorem dX9_isFrost_25 : decode cX9_isFrost 25 = .ok (.goto 4, 3) := by decide +kernel
theorem dX9_isFrost_28 : decode cX9_isFrost 28 = .ok (.iconst 0, 1) := by decide +kernel
theorem dX9_isFrost_29 : decode cX9_isFrost 29 = .ok (.ireturn, 1) := by decide +kernel
theorem dX9_named_0 : decode cX9_named 0 = .ok (.iload_n 1, 1) := by decide +kernel
theorem dX9_named_1 : decode cX9_named 1 = .ok (.tableswitch 183 102 121 #[166, 183, 183, 183, 183, 105, 183, 150, 120, 183, 95, 183, 183, 183, 183, 183, 183, 135, 183, 158], 95) := by decide +kernel
theorem dX9_named_96 : decode cX9_named 96 = .ok (.iload_n 2, 1) := by decide +kernel
theorem dX9_named_97 : decode cX9_named 97 = .ok (.ifCond .ge 7, 3) := by decide +kernel
theorem dX9_named_100 : decode cX9_named 100 = .ok (.iconst 0, 1) := by decide +kernel
theorem dX9_named_101 : decode cX9_named 101 = .ok (.goto 4, 3) := by decide +kernel
theorem dX9_named_104 : decode cX9_named 104 = .ok (.iload_n 2, 1) := by decide +kernel
theorem dX9_named_105 : decode cX9_named 105 = .ok (.ireturn, 1) := by decide +kernel
theorem dX9_named_106 : decode cX9_named 106 = .ok (.iload_n 2, 1) := by decide +kernel
theorem dX9_named_107 : decode cX9_named 107 = .ok (.ifCond .ge 7, 3) := by decide +kernel
theorem dX9_named_110 : decode cX9_named 110 = .ok (.iconst 0, 1) := by decide +kernel
theorem dX9_named_111 : decode cX9_named 111 = .ok (.goto 9, 3) := by decide +kernel
theorem dX9_named_114 : decode cX9_named 114 = .ok (.aload_n 0, 1) := by decide +kernel
theorem dX9_named_115 : decode cX9_named 115 = .ok (.getfield 7, 3) := by decide +kernel
theorem dX9_named_118 : decode cX9_named 118 = .ok (.iload_n 2, 1) := by decide +kernel
theorem dX9_named_119 : decode cX9_named 119 = .ok (.iaload, 1) := by decide +kernel
theorem dX9_named_120 : decode cX9_named 120 = .ok (.ireturn, 1) := by decide +kernel
theorem dX9_named_121 : decode cX9_named 121 = .ok (.iload_n 2, 1) := by decide +kernel
theorem dX9_named_122 : decode cX9_named 122 = .ok (.ifCond .ge 7, 3) := by decide +kernel
theorem dX9_named_125 : decode cX9_named 125 = .ok (.iconst 0, 1) := by decide +kernel
theorem dX9_named_126 : decode cX9_named 126 = .ok (.goto 9, 3) := by decide +kernel
theorem dX9_named_129 : decode cX9_named 129 = .ok (.aload_n 0, 1) := by decide +kernel
theorem dX9_named_130 : decode cX9_named 130 = .ok (.getfield 40, 3) := by decide +kernel
theorem dX9_named_133 : decode cX9_named 133 = .ok (.iload_n 2, 1) := by decide +kernel
theorem dX9_named_134 : decode cX9_named 134 = .ok (.iaload, 1) := by decide +kernel
theorem dX9_named_135 : decode cX9_named 135 = .ok (.ireturn, 1) := by decide +kernel
theorem dX9_named_136 : decode cX9_named 136 = .ok (.iload_n 2, 1) := by decide +kernel
theorem dX9_named_137 : decode cX9_named 137 = .ok (.ifCond .ge 7, 3) := by decide +kernel
theorem dX9_named_140 : decode cX9_named 140 = .ok (.iconst 0, 1) := by decide +kernel
theorem dX9_named_141 : decode cX9_named 141 = .ok (.goto 9, 3) := by decide +kernel
theorem dX9_named_144 : decode cX9_named 144 = .ok (.aload_n 0, 1) := by decide +kernel
theorem dX9_named_145 : decode cX9_named 145 = .ok (.getfield 13, 3) := by decide +kernel
theorem dX9_named_148 : decode cX9_named 148 = .ok (.iload_n 2, 1) := by decide +kernel
theorem dX9_named_149 : decode cX9_named 149 = .ok (.iaload, 1) := by decide +kernel
theorem dX9_named_150 : decode cX9_named 150 = .ok (.ireturn, 1) := by decide +kernel
theorem dX9_named_151 : decode cX9_named 151 = .ok (.aload_n 0, 1) := by decide +kernel
theorem dX9_named_152 : decode cX9_named 152 = .ok (.getfield 194, 3) := by decide +kernel
theorem dX9_named_155 : decode cX9_named 155 = .ok (.bipush 12, 2) := by decide +kernel
theorem dX9_named_157 : decode cX9_named 157 = .ok (.irem, 1) := by decide +kernel
theorem dX9_named_158 : decode cX9_named 158 = .ok (.ireturn, 1) := by decide +kernel
theorem dX9_named_159 : decode cX9_named 159 = .ok (.aload_n 0, 1) := by decide +kernel
theorem dX9_named_160 : decode cX9_named 160 = .ok (.getfield 194, 3) := by decide +kernel
theorem dX9_named_163 : decode cX9_named 163 = .ok (.bipush 12, 2) := by decide +kernel
theorem dX9_named_165 : decode cX9_named 165 = .ok (.idiv, 1) := by decide +kernel
theorem dX9_named_166 : decode cX9_named 166 = .ok (.ireturn, 1) := by decide +kernel
theorem dX9_named_167 : decode cX9_named 167 = .ok (.aload_n 0, 1) := by decide +kernel
theorem dX9_named_168 : decode cX9_named 168 = .ok (.aload_n 0, 1) := by decide +kernel
theorem dX9_named_169 : decode cX9_named 169 = .ok (.getfield 194, 3) := by decide +kernel
theorem dX9_named_172 : decode cX9_named 172 = .ok (.invokevirtual 197, 3) := by decide +kernel
theorem dX9_named_175 : decode cX9_named 175 = .ok (.ifCond .eq 7, 3) := by decide +kernel
theorem dX9_named_178 : decode cX9_named 178 = .ok (.iconst 1, 1) := by decide +kernel
theorem dX9_named_179 : decode cX9_named 179 = .ok (.goto 4, 3) := by decide +kernel
theorem dX9_named_182 : decode cX9_named 182 = .ok (.iconst 0, 1) := by decide +kernel
theorem dX9_named_183 : decode cX9_named 183 = .ok (.ireturn, 1) := by decide +kernel
theorem dX9_named_184 : decode cX9_named 184 = .ok (.aload_n 0, 1) := by decide +kernel
theorem dX9_named_185 : decode cX9_named 185 = .ok (.getfield 200, 3) := by decide +kernel
theorem dX9_named_188 : decode cX9_named 188 = .ok (.ireturn, 1) := by decide +kernel
theorem dX9_both_0 : decode cX9_both 0 = .ok (.iload_n 0, 1) := by decide +kernel
theorem dX9_both_1 : decode cX9_both 1 = .ok (.tableswitch 174 38 62 #[160, 174, 174, 174, 123, 115, 174, 119, 174, 174, 174, 174, 174, 174, 174, 174, 174, 174, 174, 174, 174, 174, 127, 138, 149], 115) := by decide +kernel
theorem dX9_both_116 : decode cX9_both 116 = .ok (.iload_n 1, 1) := by decide +kernel
theorem dX9_both_117 : decode cX9_both 117 = .ok (.iload_n 2, 1) := by decide +kernel
theorem dX9_both_118 : decode cX9_both 118 = .ok (.iadd, 1) := by decide +kernel
theorem dX9_both_119 : decode cX9_both 119 = .ok (.ireturn, 1) := by decide +kernel
theorem dX9_both_120 : decode cX9_both 120 = .ok (.iload_n 1, 1) := by decide +kernel
theorem dX9_both_121 : decode cX9_both 121 = .ok (.iload_n 2, 1) := by decide +kernel
theorem dX9_both_122 : decode cX9_both 122 = .ok (.isub, 1) := by decide +kernel
theorem dX9_both_123 : decode cX9_both 123 = .ok (.ireturn, 1) := by decide +kernel
theorem dX9_both_124 : decode cX9_both 124 = .ok (.iload_n 1, 1) := by decide +kernel
theorem dX9_both_125 : decode cX9_both 125 = .ok (.iload_n 2, 1) := by decide +kernel
theorem dX9_both_126 : decode cX9_both 126 = .ok (.imul, 1) := by decide +kernel
theorem dX9_both_127 : decode cX9_both 127 = .ok (.ireturn, 1) := by decide +kernel
theorem dX9_both_128 : decode cX9_both 128 = .ok (.iload_n 1, 1) := by decide +kernel
theorem dX9_both_129 : decode cX9_both 129 = .ok (.iload_n 2, 1) := by decide +kernel
theorem dX9_both_130 : decode cX9_both 130 = .ok (.if_icmp .ge 7, 3) := by decide +kernel
theorem dX9_both_133 : decode cX9_both 133 = .ok (.iconst 1, 1) := by decide +kernel
theorem dX9_both_134 : decode cX9_both 134 = .ok (.goto 4, 3) := by decide +kernel
theorem dX9_both_137 : decode cX9_both 137 = .ok (.iconst 0, 1) := by decide +kernel
theorem dX9_both_138 : decode cX9_both 138 = .ok (.ireturn, 1) := by decide +kernel
theorem dX9_both_139 : decode cX9_both 139 = .ok (.iload_n 1, 1) := by decide +kernel
theorem dX9_both_140 : decode cX9_both 140 = .ok (.iload_n 2, 1) := by decide +kernel
theorem dX9_both_141 : decode cX9_both 141 = .ok (.if_icmp .ne 7, 3) := by decide +kernel
theorem dX9_both_144 : decode cX9_both 144 = .ok (.iconst 1, 1) := by decide +kernel
theorem dX9_both_145 : decode cX9_both 145 = .ok (.goto 4, 3) := by decide +kernel
theorem dX9_both_148 : decode cX9_both 148 = .ok (.iconst 0, 1) := by decide +kernel
theorem dX9_both_149 : decode cX9_both 149 = .ok (.ireturn, 1) := by decide +kernel
theorem dX9_both_150 : decode cX9_both 150 = .ok (.iload_n 1, 1) := by decide +kernel
theorem dX9_both_151 : decode cX9_both 151 = .ok (.iload_n 2, 1) := by decide +kernel
theorem dX9_both_152 : decode cX9_both 152 = .ok (.if_icmp .le 7, 3) := by decide +kernel
theorem dX9_both_155 : decode cX9_both 155 = .ok (.iconst 1, 1) := by decide +kernel
theorem dX9_both_156 : decode cX9_both 156 = .ok (.goto 4, 3) := by decide +kernel
theorem dX9_both_159 : decode cX9_both 159 = .ok (.iconst 0, 1) := by decide +kernel
theorem dX9_both_160 : decode cX9_both 160 = .ok (.ireturn, 1) := by decide +kernel
theorem dX9_both_161 : decode cX9_both 161 = .ok (.iload_n 1, 1) := by decide +kernel
theorem dX9_both_162 : decode cX9_both 162 = .ok (.ifCond .eq 11, 3) := by decide +kernel
theorem dX9_both_165 : decode cX9_both 165 = .ok (.iload_n 2, 1) := by decide +kernel
theorem dX9_both_166 : decode cX9_both 166 = .ok (.ifCond .eq 7, 3) := by decide +kernel
theorem dX9_both_169 : decode cX9_both 169 = .ok (.iconst 1, 1) := by decide +kernel
theorem dX9_both_170 : decode cX9_both 170 = .ok (.goto 4, 3) := by decide +kernel
theorem dX9_both_173 : decode cX9_both 173 = .ok (.iconst 0, 1) := by decide +kernel
theorem dX9_both_174 : decode cX9_both 174 = .ok (.ireturn, 1) := by decide +kernel
theorem dX9_both_175 : decode cX9_both 175 = .ok (.iload_n 1, 1) := by decide +kernel
theorem dX9_both_176 : decode cX9_both 176 = .ok (.ifCond .ne 7, 3) := by decide +kernel
theorem dX9_both_179 : decode cX9_both 179 = .ok (.iload_n 2, 1) := by decide +kernel
theorem dX9_both_180 : decode cX9_both 180 = .ok (.ifCond .eq 7, 3) := by decide +kernel
theorem dX9_both_183 : decode cX9_both 183 = .ok (.iconst 1, 1) := by decide +kernel
theorem dX9_both_184 : decode cX9_both 184 = .ok (.goto 4, 3) := by decide +kernel
theorem dX9_both_187 : decode cX9_both 187 = .ok (.iconst 0, 1) := by decide +kernel
theorem dX9_both_188 : decode cX9_both 188 = .ok (.ireturn, 1) := by decide +kernel
theorem dX9_says_0 : decode cX9_says 0 = .ok (.iconst 0, 1) := by decide +kernel
theorem dX9_says_1 : decode cX9_says 1 = .ok (.istore_n 3, 1) := by decide +kernel
theorem dX9_says_2 : decode cX9_says 2 = .ok (.aload_n 0, 1) := by decide +kernel
theorem dX9_says_3 : decode cX9_says 3 = .ok (.getfield 85, 3) := by decide +kernel
theorem dX9_says_6 : decode cX9_says 6 = .ok (.iload_n 1, 1) := by decide +kernel
theorem dX9_says_7 : decode cX9_says 7 = .ok (.iconst 1, 1) := by decide +kernel
theorem dX9_says_8 : decode cX9_says 8 = .ok (.iadd, 1) := by decide +kernel
theorem dX9_says_9 : decode cX9_says 9 = .ok (.iaload, 1) := by decide +kernel
theorem dX9_says_10 : decode cX9_says 10 = .ok (.iconst 1, 1) := by decide +kernel
theorem dX9_says_11 : decode cX9_says 11 = .ok (.isub, 1) := by decide +kernel
theorem dX9_says_12 : decode cX9_says 12 = .ok (.istore 4, 2) := by decide +kernel
theorem dX9_says_14 : decode cX9_says 14 = .ok (.iload 4, 2) := by decide +kernel
theorem dX9_says_16 : decode cX9_says 16 = .ok (.aload_n 0, 1) := by decide +kernel
theorem dX9_says_17 : decode cX9_says 17 = .ok (.getfield 85, 3) := by decide +kernel
theorem dX9_says_20 : decode cX9_says 20 = .ok (.iload_n 1, 1) := by decide +kernel
theorem dX9_says_21 : decode cX9_says 21 = .ok (.iaload, 1) := by decide +kernel
theorem dX9_says_22 : decode cX9_says 22 = .ok (.if_icmp .lt 126, 3) := by decide +kernel
theorem dX9_says_25 : decode cX9_says 25 = .ok (.aload_n 0, 1) := by decide +kernel
theorem dX9_says_26 : decode cX9_says 26 = .ok (.getfield 88, 3) := by decide +kernel
theorem dX9_says_29 : decode cX9_says 29 = .ok (.iload 4, 2) := by decide +kernel
theorem dX9_says_31 : decode cX9_says 31 = .ok (.iaload, 1) := by decide +kernel
theorem dX9_says_32 : decode cX9_says 32 = .ok (.istore 5, 2) := by decide +kernel
theorem dX9_says_34 : decode cX9_says 34 = .ok (.iload 5, 2) := by decide +kernel
theorem dX9_says_36 : decode cX9_says 36 = .ok (.ifCond .lt 11, 3) := by decide +kernel
theorem dX9_says_39 : decode cX9_says 39 = .ok (.iload 5, 2) := by decide +kernel
theorem dX9_says_41 : decode cX9_says 41 = .ok (.invokestatic 188, 3) := by decide +kernel
theorem dX9_says_44 : decode cX9_says 44 = .ok (.ifCond .eq 34, 3) := by decide +kernel
theorem dX9_says_47 : decode cX9_says 47 = .ok (.aload_n 0, 1) := by decide +kernel
theorem dX9_says_48 : decode cX9_says 48 = .ok (.getfield 94, 3) := by decide +kernel
theorem dX9_says_51 : decode cX9_says 51 = .ok (.iload_n 3, 1) := by decide +kernel
theorem dX9_says_52 : decode cX9_says 52 = .ok (.iload 5, 2) := by decide +kernel
theorem dX9_says_54 : decode cX9_says 54 = .ok (.ifCond .ge 10, 3) := by decide +kernel
theorem dX9_says_57 : decode cX9_says 57 = .ok (.iconst (-1), 1) := by decide +kernel
theorem dX9_says_58 : decode cX9_says 58 = .ok (.iload 5, 2) := by decide +kernel
theorem dX9_says_60 : decode cX9_says 60 = .ok (.isub, 1) := by decide +kernel
theorem dX9_says_61 : decode cX9_says 61 = .ok (.goto 10, 3) := by decide +kernel
theorem dX9_says_64 : decode cX9_says 64 = .ok (.aload_n 0, 1) := by decide +kernel
theorem dX9_says_65 : decode cX9_says 65 = .ok (.iload 5, 2) := by decide +kernel
theorem dX9_says_67 : decode cX9_says 67 = .ok (.iload_n 2, 1) := by decide +kernel
theorem dX9_says_68 : decode cX9_says 68 = .ok (.invokevirtual 203, 3) := by decide +kernel
theorem dX9_says_71 : decode cX9_says 71 = .ok (.iastore, 1) := by decide +kernel
theorem dX9_says_72 : decode cX9_says 72 = .ok (.iinc 3 1, 3) := by decide +kernel
theorem dX9_says_75 : decode cX9_says 75 = .ok (.goto 67, 3) := by decide +kernel
theorem dX9_says_78 : decode cX9_says 78 = .ok (.iload 5, 2) := by decide +kernel
theorem dX9_says_80 : decode cX9_says 80 = .ok (.bipush 33, 2) := by decide +kernel
theorem dX9_says_82 : decode cX9_says 82 = .ok (.if_icmp .ne 30, 3) := by decide +kernel
theorem dX9_says_85 : decode cX9_says 85 = .ok (.aload_n 0, 1) := by decide +kernel
theorem dX9_says_86 : decode cX9_says 86 = .ok (.getfield 94, 3) := by decide +kernel
theorem dX9_says_89 : decode cX9_says 89 = .ok (.iload_n 3, 1) := by decide +kernel
theorem dX9_says_90 : decode cX9_says 90 = .ok (.iconst 1, 1) := by decide +kernel
theorem dX9_says_91 : decode cX9_says 91 = .ok (.isub, 1) := by decide +kernel
theorem dX9_says_92 : decode cX9_says 92 = .ok (.aload_n 0, 1) := by decide +kernel
theorem dX9_says_93 : decode cX9_says 93 = .ok (.getfield 94, 3) := by decide +kernel
theorem dX9_says_96 : decode cX9_says 96 = .ok (.iload_n 3, 1) := by decide +kernel
theorem dX9_says_97 : decode cX9_says 97 = .ok (.iconst 1, 1) := by decide +kernel
theorem dX9_says_98 : decode cX9_says 98 = .ok (.isub, 1) := by decide +kernel
theorem dX9_says_99 : decode cX9_says 99 = .ok (.iaload, 1) := by decide +kernel
theorem dX9_says_100 : decode cX9_says 100 = .ok (.ifCond .ne 7, 3) := by decide +kernel
theorem dX9_says_103 : decode cX9_says 103 = .ok (.iconst 1, 1) := by decide +kernel
theorem dX9_says_104 : decode cX9_says 104 = .ok (.goto 4, 3) := by decide +kernel
theorem dX9_says_107 : decode cX9_says 107 = .ok (.iconst 0, 1) := by decide +kernel
theorem dX9_says_108 : decode cX9_says 108 = .ok (.iastore, 1) := by decide +kernel
theorem dX9_says_109 : decode cX9_says 109 = .ok (.goto 33, 3) := by decide +kernel
theorem dX9_says_112 : decode cX9_says 112 = .ok (.iinc 3 (-1), 3) := by decide +kernel
theorem dX9_says_115 : decode cX9_says 115 = .ok (.aload_n 0, 1) := by decide +kernel
theorem dX9_says_116 : decode cX9_says 116 = .ok (.getfield 94, 3) := by decide +kernel
theorem dX9_says_119 : decode cX9_says 119 = .ok (.iload_n 3, 1) := by decide +kernel
theorem dX9_says_120 : decode cX9_says 120 = .ok (.iconst 1, 1) := by decide +kernel
theorem dX9_says_121 : decode cX9_says 121 = .ok (.isub, 1) := by decide +kernel
theorem dX9_says_122 : decode cX9_says 122 = .ok (.iload 5, 2) := by decide +kernel
theorem dX9_says_124 : decode cX9_says 124 = .ok (.aload_n 0, 1) := by decide +kernel
theorem dX9_says_125 : decode cX9_says 125 = .ok (.getfield 94, 3) := by decide +kernel
theorem dX9_says_128 : decode cX9_says 128 = .ok (.iload_n 3, 1) := by decide +kernel
theorem dX9_says_129 : decode cX9_says 129 = .ok (.iaload, 1) := by decide +kernel
theorem dX9_says_130 : decode cX9_says 130 = .ok (.aload_n 0, 1) := by decide +kernel
theorem dX9_says_131 : decode cX9_says 131 = .ok (.getfield 94, 3) := by decide +kernel
theorem dX9_says_134 : decode cX9_says 134 = .ok (.iload_n 3, 1) := by decide +kernel
theorem dX9_says_135 : decode cX9_says 135 = .ok (.iconst 1, 1) := by decide +kernel
theorem dX9_says_136 : decode cX9_says 136 = .ok (.isub, 1) := by decide +kernel
theorem dX9_says_137 : decode cX9_says 137 = .ok (.iaload, 1) := by decide +kernel
theorem dX9_says_138 : decode cX9_says 138 = .ok (.invokestatic 206, 3) := by decide +kernel
theorem dX9_says_141 : decode cX9_says 141 = .ok (.iastore, 1) := by decide +kernel
theorem dX9_says_142 : decode cX9_says 142 = .ok (.iinc 4 (-1), 3) := by decide +kernel
theorem dX9_says_145 : decode cX9_says 145 = .ok (.goto (-131), 3) := by decide +kernel
theorem dX9_says_148 : decode cX9_says 148 = .ok (.aload_n 0, 1) := by decide +kernel
theorem dX9_says_149 : decode cX9_says 149 = .ok (.getfield 94, 3) := by decide +kernel
theorem dX9_says_152 : decode cX9_says 152 = .ok (.iconst 0, 1) := by decide +kernel
theorem dX9_says_153 : decode cX9_says 153 = .ok (.iaload, 1) := by decide +kernel
theorem dX9_says_154 : decode cX9_says 154 = .ok (.ireturn, 1) := by decide +kernel
theorem dX9_isGift_0 : decode cX9_isGift 0 = .ok (.iload_n 1, 1) := by decide +kernel
theorem dX9_isGift_1 : decode cX9_isGift 1 = .ok (.iconst 0, 1) := by decide +kernel
theorem dX9_isGift_2 : decode cX9_isGift 2 = .ok (.aload_n 0, 1) := by decide +kernel
theorem dX9_isGift_3 : decode cX9_isGift 3 = .ok (.getfield 210, 3) := by decide +kernel
theorem dX9_isGift_6 : decode cX9_isGift 6 = .ok (.iconst 1, 1) := by decide +kernel
theorem dX9_isGift_7 : decode cX9_isGift 7 = .ok (.isub, 1) := by decide +kernel
theorem dX9_isGift_8 : decode cX9_isGift 8 = .ok (.invokestatic 125, 3) := by decide +kernel
theorem dX9_isGift_11 : decode cX9_isGift 11 = .ok (.ireturn, 1) := by decide +kernel
theorem dX9_gift_0 : decode cX9_gift 0 = .ok (.iload_n 1, 1) := by decide +kernel
theorem dX9_gift_1 : decode cX9_gift 1 = .ok (.iconst 1, 1) := by decide +kernel
theorem dX9_gift_2 : decode cX9_gift 2 = .ok (.ldc 129, 2) := by decide +kernel
theorem dX9_gift_4 : decode cX9_gift 4 = .ok (.invokestatic 125, 3) := by decide +kernel
theorem dX9_gift_7 : decode cX9_gift 7 = .ok (.ifCond .ne 5, 3) := by decide +kernel
theorem dX9_gift_10 : decode cX9_gift 10 = .ok (.iconst (-1), 1) := by decide +kernel
theorem dX9_gift_11 : decode cX9_gift 11 = .ok (.ireturn, 1) := by decide +kernel
theorem dX9_gift_12 : decode cX9_gift 12 = .ok (.aload_n 0, 1) := by decide +kernel
theorem dX9_gift_13 : decode cX9_gift 13 = .ok (.getfield 210, 3) := by decide +kernel
theorem dX9_gift_16 : decode cX9_gift 16 = .ok (.bipush 30, 2) := by decide +kernel
theorem dX9_gift_18 : decode cX9_gift 18 = .ok (.if_icmp .ne 6, 3) := by decide +kernel
theorem dX9_gift_21 : decode cX9_gift 21 = .ok (.bipush (-3), 2) := by decide +kernel
theorem dX9_gift_23 : decode cX9_gift 23 = .ok (.ireturn, 1) := by decide +kernel
theorem dX9_gift_24 : decode cX9_gift 24 = .ok (.iconst (-1), 1) := by decide +kernel
theorem dX9_gift_25 : decode cX9_gift 25 = .ok (.istore_n 2, 1) := by decide +kernel
theorem dX9_gift_26 : decode cX9_gift 26 = .ok (.aload_n 0, 1) := by decide +kernel
theorem dX9_gift_27 : decode cX9_gift 27 = .ok (.getfield 169, 3) := by decide +kernel
theorem dX9_gift_30 : decode cX9_gift 30 = .ok (.ifCond .le 27, 3) := by decide +kernel
theorem dX9_gift_33 : decode cX9_gift 33 = .ok (.aload_n 0, 1) := by decide +kernel
theorem dX9_gift_34 : decode cX9_gift 34 = .ok (.invokevirtual 213, 3) := by decide +kernel
theorem dX9_gift_37 : decode cX9_gift 37 = .ok (.istore_n 3, 1) := by decide +kernel
theorem dX9_gift_38 : decode cX9_gift 38 = .ok (.iload_n 3, 1) := by decide +kernel
theorem dX9_gift_39 : decode cX9_gift 39 = .ok (.ifCond .lt 13, 3) := by decide +kernel
theorem dX9_gift_42 : decode cX9_gift 42 = .ok (.aload_n 0, 1) := by decide +kernel
theorem dX9_gift_43 : decode cX9_gift 43 = .ok (.iconst 0, 1) := by decide +kernel
theorem dX9_gift_44 : decode cX9_gift 44 = .ok (.putfield 169, 3) := by decide +kernel
theorem dX9_gift_47 : decode cX9_gift 47 = .ok (.bipush (-100), 2) := by decide +kernel
theorem dX9_gift_49 : decode cX9_gift 49 = .ok (.iload_n 3, 1) := by decide +kernel
theorem dX9_gift_50 : decode cX9_gift 50 = .ok (.isub, 1) := by decide +kernel
theorem dX9_gift_51 : decode cX9_gift 51 = .ok (.ireturn, 1) := by decide +kernel
theorem dX9_gift_52 : decode cX9_gift 52 = .ok (.aload_n 0, 1) := by decide +kernel
theorem dX9_gift_53 : decode cX9_gift 53 = .ok (.invokevirtual 216, 3) := by decide +kernel
theorem dX9_gift_56 : decode cX9_gift 56 = .ok (.istore_n 2, 1) := by decide +kernel
theorem dX9_gift_57 : decode cX9_gift 57 = .ok (.aload_n 0, 1) := by decide +kernel
theorem dX9_gift_58 : decode cX9_gift 58 = .ok (.getfield 97, 3) := by decide +kernel
theorem dX9_gift_61 : decode cX9_gift 61 = .ok (.aload_n 0, 1) := by decide +kernel
theorem dX9_gift_62 : decode cX9_gift 62 = .ok (.getfield 210, 3) := by decide +kernel
theorem dX9_gift_65 : decode cX9_gift 65 = .ok (.iload_n 1, 1) := by decide +kernel
theorem dX9_gift_66 : decode cX9_gift 66 = .ok (.iastore, 1) := by decide +kernel
theorem dX9_gift_67 : decode cX9_gift 67 = .ok (.aload_n 0, 1) := by decide +kernel
theorem dX9_gift_68 : decode cX9_gift 68 = .ok (.getfield 100, 3) := by decide +kernel
theorem dX9_gift_71 : decode cX9_gift 71 = .ok (.aload_n 0, 1) := by decide +kernel
theorem dX9_gift_72 : decode cX9_gift 72 = .ok (.getfield 210, 3) := by decide +kernel
theorem dX9_gift_75 : decode cX9_gift 75 = .ok (.iload_n 1, 1) := by decide +kernel
theorem dX9_gift_76 : decode cX9_gift 76 = .ok (.iastore, 1) := by decide +kernel
theorem dX9_gift_77 : decode cX9_gift 77 = .ok (.aload_n 0, 1) := by decide +kernel
theorem dX9_gift_78 : decode cX9_gift 78 = .ok (.getfield 103, 3) := by decide +kernel
theorem dX9_gift_81 : decode cX9_gift 81 = .ok (.aload_n 0, 1) := by decide +kernel
theorem dX9_gift_82 : decode cX9_gift 82 = .ok (.getfield 210, 3) := by decide +kernel
theorem dX9_gift_85 : decode cX9_gift 85 = .ok (.iload_n 2, 1) := by decide +kernel
theorem dX9_gift_86 : decode cX9_gift 86 = .ok (.iastore, 1) := by decide +kernel
theorem dX9_gift_87 : decode cX9_gift 87 = .ok (.aload_n 0, 1) := by decide +kernel
theorem dX9_gift_88 : decode cX9_gift 88 = .ok (.dup, 1) := by decide +kernel
theorem dX9_gift_89 : decode cX9_gift 89 = .ok (.getfield 210, 3) := by decide +kernel
theorem dX9_gift_92 : decode cX9_gift 92 = .ok (.iconst 1, 1) := by decide +kernel
theorem dX9_gift_93 : decode cX9_gift 93 = .ok (.iadd, 1) := by decide +kernel
theorem dX9_gift_94 : decode cX9_gift 94 = .ok (.putfield 210, 3) := by decide +kernel
theorem dX9_gift_97 : decode cX9_gift 97 = .ok (.aload_n 0, 1) := by decide +kernel
theorem dX9_gift_98 : decode cX9_gift 98 = .ok (.getfield 210, 3) := by decide +kernel
theorem dX9_gift_101 : decode cX9_gift 101 = .ok (.iconst 1, 1) := by decide +kernel
theorem dX9_gift_102 : decode cX9_gift 102 = .ok (.isub, 1) := by decide +kernel
theorem dX9_gift_103 : decode cX9_gift 103 = .ok (.ireturn, 1) := by decide +kernel
theorem dX9_statute_0 : decode cX9_statute 0 = .ok (.iload_n 1, 1) := by decide +kernel
theorem dX9_statute_1 : decode cX9_statute 1 = .ok (.aload_n 0, 1) := by decide +kernel
theorem dX9_statute_2 : decode cX9_statute 2 = .ok (.getfield 194, 3) := by decide +kernel
theorem dX9_statute_5 : decode cX9_statute 5 = .ok (.sipush 1200, 3) := by decide +kernel
theorem dX9_statute_8 : decode cX9_statute 8 = .ok (.invokestatic 125, 3) := by decide +kernel
theorem dX9_statute_11 : decode cX9_statute 11 = .ok (.ifCond .ne 5, 3) := by decide +kernel
theorem dX9_statute_14 : decode cX9_statute 14 = .ok (.iconst (-1), 1) := by decide +kernel
theorem dX9_statute_15 : decode cX9_statute 15 = .ok (.ireturn, 1) := by decide +kernel
theorem dX9_statute_16 : decode cX9_statute 16 = .ok (.aload_n 0, 1) := by decide +kernel
theorem dX9_statute_17 : decode cX9_statute 17 = .ok (.getfield 219, 3) := by decide +kernel
theorem dX9_statute_20 : decode cX9_statute 20 = .ok (.bipush 20, 2) := by decide +kernel
theorem dX9_statute_22 : decode cX9_statute 22 = .ok (.if_icmp .ne 6, 3) := by decide +kernel
theorem dX9_statute_25 : decode cX9_statute 25 = .ok (.bipush (-3), 2) := by decide +kernel
theorem dX9_statute_27 : decode cX9_statute 27 = .ok (.ireturn, 1) := by decide +kernel
theorem dX9_statute_28 : decode cX9_statute 28 = .ok (.aload_n 0, 1) := by decide +kernel
theorem dX9_statute_29 : decode cX9_statute 29 = .ok (.invokevirtual 213, 3) := by decide +kernel
theorem dX9_statute_32 : decode cX9_statute 32 = .ok (.istore_n 2, 1) := by decide +kernel
theorem dX9_statute_33 : decode cX9_statute 33 = .ok (.iload_n 2, 1) := by decide +kernel
theorem dX9_statute_34 : decode cX9_statute 34 = .ok (.ifCond .lt 13, 3) := by decide +kernel
theorem dX9_statute_37 : decode cX9_statute 37 = .ok (.aload_n 0, 1) := by decide +kernel
theorem dX9_statute_38 : decode cX9_statute 38 = .ok (.iconst 0, 1) := by decide +kernel
theorem dX9_statute_39 : decode cX9_statute 39 = .ok (.putfield 169, 3) := by decide +kernel
theorem dX9_statute_42 : decode cX9_statute 42 = .ok (.bipush (-100), 2) := by decide +kernel
theorem dX9_statute_44 : decode cX9_statute 44 = .ok (.iload_n 2, 1) := by decide +kernel
theorem dX9_statute_45 : decode cX9_statute 45 = .ok (.isub, 1) := by decide +kernel
theorem dX9_statute_46 : decode cX9_statute 46 = .ok (.ireturn, 1) := by decide +kernel
theorem dX9_statute_47 : decode cX9_statute 47 = .ok (.aload_n 0, 1) := by decide +kernel
theorem dX9_statute_48 : decode cX9_statute 48 = .ok (.getfield 106, 3) := by decide +kernel
theorem dX9_statute_51 : decode cX9_statute 51 = .ok (.aload_n 0, 1) := by decide +kernel
theorem dX9_statute_52 : decode cX9_statute 52 = .ok (.getfield 219, 3) := by decide +kernel
theorem dX9_statute_55 : decode cX9_statute 55 = .ok (.aload_n 0, 1) := by decide +kernel
theorem dX9_statute_56 : decode cX9_statute 56 = .ok (.invokevirtual 216, 3) := by decide +kernel
theorem dX9_statute_59 : decode cX9_statute 59 = .ok (.iastore, 1) := by decide +kernel
theorem dX9_statute_60 : decode cX9_statute 60 = .ok (.aload_n 0, 1) := by decide +kernel
theorem dX9_statute_61 : decode cX9_statute 61 = .ok (.getfield 109, 3) := by decide +kernel
theorem dX9_statute_64 : decode cX9_statute 64 = .ok (.aload_n 0, 1) := by decide +kernel
theorem dX9_statute_65 : decode cX9_statute 65 = .ok (.getfield 219, 3) := by decide +kernel
theorem dX9_statute_68 : decode cX9_statute 68 = .ok (.iload_n 1, 1) := by decide +kernel
theorem dX9_statute_69 : decode cX9_statute 69 = .ok (.iastore, 1) := by decide +kernel
theorem dX9_statute_70 : decode cX9_statute 70 = .ok (.aload_n 0, 1) := by decide +kernel
theorem dX9_statute_71 : decode cX9_statute 71 = .ok (.dup, 1) := by decide +kernel
theorem dX9_statute_72 : decode cX9_statute 72 = .ok (.getfield 219, 3) := by decide +kernel
theorem dX9_statute_75 : decode cX9_statute 75 = .ok (.iconst 1, 1) := by decide +kernel
theorem dX9_statute_76 : decode cX9_statute 76 = .ok (.iadd, 1) := by decide +kernel
theorem dX9_statute_77 : decode cX9_statute 77 = .ok (.putfield 219, 3) := by decide +kernel
theorem dX9_statute_80 : decode cX9_statute 80 = .ok (.aload_n 0, 1) := by decide +kernel
theorem dX9_statute_81 : decode cX9_statute 81 = .ok (.getfield 219, 3) := by decide +kernel
theorem dX9_statute_84 : decode cX9_statute 84 = .ok (.ireturn, 1) := by decide +kernel
theorem dX9_work_0 : decode cX9_work 0 = .ok (.aload_n 0, 1) := by decide +kernel
theorem dX9_work_1 : decode cX9_work 1 = .ok (.getfield 219, 3) := by decide +kernel
theorem dX9_work_4 : decode cX9_work 4 = .ok (.iconst 1, 1) := by decide +kernel
theorem dX9_work_5 : decode cX9_work 5 = .ok (.isub, 1) := by decide +kernel
theorem dX9_work_6 : decode cX9_work 6 = .ok (.istore_n 1, 1) := by decide +kernel
theorem dX9_work_7 : decode cX9_work 7 = .ok (.iload_n 1, 1) := by decide +kernel
theorem dX9_work_8 : decode cX9_work 8 = .ok (.ifCond .lt 47, 3) := by decide +kernel
theorem dX9_work_11 : decode cX9_work 11 = .ok (.aload_n 0, 1) := by decide +kernel
theorem dX9_work_12 : decode cX9_work 12 = .ok (.getfield 109, 3) := by decide +kernel
theorem dX9_work_15 : decode cX9_work 15 = .ok (.iload_n 1, 1) := by decide +kernel
theorem dX9_work_16 : decode cX9_work 16 = .ok (.iaload, 1) := by decide +kernel
theorem dX9_work_17 : decode cX9_work 17 = .ok (.aload_n 0, 1) := by decide +kernel
theorem dX9_work_18 : decode cX9_work 18 = .ok (.getfield 194, 3) := by decide +kernel
theorem dX9_work_21 : decode cX9_work 21 = .ok (.if_icmp .le 6, 3) := by decide +kernel
theorem dX9_work_24 : decode cX9_work 24 = .ok (.goto 25, 3) := by decide +kernel
theorem dX9_work_27 : decode cX9_work 27 = .ok (.aload_n 0, 1) := by decide +kernel
theorem dX9_work_28 : decode cX9_work 28 = .ok (.aload_n 0, 1) := by decide +kernel
theorem dX9_work_29 : decode cX9_work 29 = .ok (.getfield 106, 3) := by decide +kernel
theorem dX9_work_32 : decode cX9_work 32 = .ok (.iload_n 1, 1) := by decide +kernel
theorem dX9_work_33 : decode cX9_work 33 = .ok (.iaload, 1) := by decide +kernel
theorem dX9_work_34 : decode cX9_work 34 = .ok (.iconst (-1), 1) := by decide +kernel
theorem dX9_work_35 : decode cX9_work 35 = .ok (.invokevirtual 222, 3) := by decide +kernel
theorem dX9_work_38 : decode cX9_work 38 = .ok (.istore_n 2, 1) := by decide +kernel
theorem dX9_work_39 : decode cX9_work 39 = .ok (.iload_n 2, 1) := by decide +kernel
theorem dX9_work_40 : decode cX9_work 40 = .ok (.ifCond .ge 7, 3) := by decide +kernel
theorem dX9_work_43 : decode cX9_work 43 = .ok (.iconst 0, 1) := by decide +kernel
theorem dX9_work_44 : decode cX9_work 44 = .ok (.goto 4, 3) := by decide +kernel
theorem dX9_work_47 : decode cX9_work 47 = .ok (.iload_n 2, 1) := by decide +kernel
theorem dX9_work_48 : decode cX9_work 48 = .ok (.ireturn, 1) := by decide +kernel
theorem dX9_work_49 : decode cX9_work 49 = .ok (.iinc 1 (-1), 3) := by decide +kernel
theorem dX9_work_52 : decode cX9_work 52 = .ok (.goto (-45), 3) := by decide +kernel
theorem dX9_work_55 : decode cX9_work 55 = .ok (.bipush 10, 2) := by decide +kernel
theorem dX9_work_57 : decode cX9_work 57 = .ok (.ireturn, 1) := by decide +kernel
theorem dX9_endFor_0 : decode cX9_endFor 0 = .ok (.aload_n 0, 1) := by decide +kernel
theorem dX9_endFor_1 : decode cX9_endFor 1 = .ok (.getfield 103, 3) := by decide +kernel
theorem dX9_endFor_4 : decode cX9_endFor 4 = .ok (.iload_n 1, 1) := by decide +kernel
theorem dX9_endFor_5 : decode cX9_endFor 5 = .ok (.iaload, 1) := by decide +kernel
theorem dX9_endFor_6 : decode cX9_endFor 6 = .ok (.ifCond .ge 7, 3) := by decide +kernel
theorem dX9_endFor_9 : decode cX9_endFor 9 = .ok (.iconst 1, 1) := by decide +kernel
theorem dX9_endFor_10 : decode cX9_endFor 10 = .ok (.goto 14, 3) := by decide +kernel
theorem dX9_endFor_13 : decode cX9_endFor 13 = .ok (.aload_n 0, 1) := by decide +kernel
theorem dX9_endFor_14 : decode cX9_endFor 14 = .ok (.aload_n 0, 1) := by decide +kernel
theorem dX9_endFor_15 : decode cX9_endFor 15 = .ok (.getfield 103, 3) := by decide +kernel
theorem dX9_endFor_18 : decode cX9_endFor 18 = .ok (.iload_n 1, 1) := by decide +kernel
theorem dX9_endFor_19 : decode cX9_endFor 19 = .ok (.iaload, 1) := by decide +kernel
theorem dX9_endFor_20 : decode cX9_endFor 20 = .ok (.iload_n 2, 1) := by decide +kernel
theorem dX9_endFor_21 : decode cX9_endFor 21 = .ok (.invokevirtual 222, 3) := by decide +kernel
theorem dX9_endFor_24 : decode cX9_endFor 24 = .ok (.ireturn, 1) := by decide +kernel
theorem dX9_end_0 : decode cX9_end 0 = .ok (.aload_n 0, 1) := by decide +kernel
theorem dX9_end_1 : decode cX9_end 1 = .ok (.iload_n 1, 1) := by decide +kernel
theorem dX9_end_2 : decode cX9_end 2 = .ok (.invokevirtual 225, 3) := by decide +kernel
theorem dX9_end_5 : decode cX9_end 5 = .ok (.ifCond .eq 20, 3) := by decide +kernel
theorem dX9_end_8 : decode cX9_end 8 = .ok (.aload_n 0, 1) := by decide +kernel
theorem dX9_end_9 : decode cX9_end 9 = .ok (.iload_n 2, 1) := by decide +kernel
theorem dX9_end_10 : decode cX9_end 10 = .ok (.invokevirtual 137, 3) := by decide +kernel
theorem dX9_end_13 : decode cX9_end 13 = .ok (.ifCond .eq 12, 3) := by decide +kernel
theorem dX9_end_16 : decode cX9_end 16 = .ok (.aload_n 0, 1) := by decide +kernel
theorem dX9_end_17 : decode cX9_end 17 = .ok (.iload_n 1, 1) := by decide +kernel
theorem dX9_end_18 : decode cX9_end 18 = .ok (.iload_n 2, 1) := by decide +kernel
theorem dX9_end_19 : decode cX9_end 19 = .ok (.invokevirtual 228, 3) := by decide +kernel
theorem dX9_end_22 : decode cX9_end 22 = .ok (.goto 5, 3) := by decide +kernel
theorem dX9_end_25 : decode cX9_end 25 = .ok (.ldc 231, 2) := by decide +kernel
theorem dX9_end_27 : decode cX9_end 27 = .ok (.ireturn, 1) := by decide +kernel
theorem dX9_hinders_0 : decode cX9_hinders 0 = .ok (.aload_n 0, 1) := by decide +kernel
theorem dX9_hinders_1 : decode cX9_hinders 1 = .ok (.getfield 40, 3) := by decide +kernel
theorem dX9_hinders_4 : decode cX9_hinders 4 = .ok (.iload_n 1, 1) := by decide +kernel
theorem dX9_hinders_5 : decode cX9_hinders 5 = .ok (.iaload, 1) := by decide +kernel
theorem dX9_hinders_6 : decode cX9_hinders 6 = .ok (.aload_n 0, 1) := by decide +kernel
theorem dX9_hinders_7 : decode cX9_hinders 7 = .ok (.getfield 13, 3) := by decide +kernel
theorem dX9_hinders_10 : decode cX9_hinders 10 = .ok (.iload_n 1, 1) := by decide +kernel
theorem dX9_hinders_11 : decode cX9_hinders 11 = .ok (.iaload, 1) := by decide +kernel
theorem dX9_hinders_12 : decode cX9_hinders 12 = .ok (.if_icmp .ne 5, 3) := by decide +kernel
theorem dX9_hinders_15 : decode cX9_hinders 15 = .ok (.iconst 1, 1) := by decide +kernel
theorem dX9_hinders_16 : decode cX9_hinders 16 = .ok (.ireturn, 1) := by decide +kernel
theorem dX9_hinders_17 : decode cX9_hinders 17 = .ok (.iconst 0, 1) := by decide +kernel
theorem dX9_hinders_18 : decode cX9_hinders 18 = .ok (.istore_n 2, 1) := by decide +kernel
theorem dX9_hinders_19 : decode cX9_hinders 19 = .ok (.iload_n 2, 1) := by decide +kernel
theorem dX9_hinders_20 : decode cX9_hinders 20 = .ok (.aload_n 0, 1) := by decide +kernel
theorem dX9_hinders_21 : decode cX9_hinders 21 = .ok (.getfield 50, 3) := by decide +kernel
theorem dX9_hinders_24 : decode cX9_hinders 24 = .ok (.iload_n 1, 1) := by decide +kernel
theorem dX9_hinders_25 : decode cX9_hinders 25 = .ok (.iaload, 1) := by decide +kernel
theorem dX9_hinders_26 : decode cX9_hinders 26 = .ok (.if_icmp .ge 46, 3) := by decide +kernel
theorem dX9_hinders_29 : decode cX9_hinders 29 = .ok (.aload_n 0, 1) := by decide +kernel
theorem dX9_hinders_30 : decode cX9_hinders 30 = .ok (.getfield 53, 3) := by decide +kernel
theorem dX9_hinders_33 : decode cX9_hinders 33 = .ok (.iconst 4, 1) := by decide +kernel
theorem dX9_hinders_34 : decode cX9_hinders 34 = .ok (.iload_n 1, 1) := by decide +kernel
theorem dX9_hinders_35 : decode cX9_hinders 35 = .ok (.imul, 1) := by decide +kernel
theorem dX9_hinders_36 : decode cX9_hinders 36 = .ok (.iload_n 2, 1) := by decide +kernel
theorem dX9_hinders_37 : decode cX9_hinders 37 = .ok (.iadd, 1) := by decide +kernel
theorem dX9_hinders_38 : decode cX9_hinders 38 = .ok (.iaload, 1) := by decide +kernel
theorem dX9_hinders_39 : decode cX9_hinders 39 = .ok (.istore_n 3, 1) := by decide +kernel
theorem dX9_hinders_40 : decode cX9_hinders 40 = .ok (.aload_n 0, 1) := by decide +kernel
theorem dX9_hinders_41 : decode cX9_hinders 41 = .ok (.getfield 40, 3) := by decide +kernel
theorem dX9_hinders_44 : decode cX9_hinders 44 = .ok (.iload_n 3, 1) := by decide +kernel
theorem dX9_hinders_45 : decode cX9_hinders 45 = .ok (.iaload, 1) := by decide +kernel
theorem dX9_hinders_46 : decode cX9_hinders 46 = .ok (.aload_n 0, 1) := by decide +kernel
theorem dX9_hinders_47 : decode cX9_hinders 47 = .ok (.getfield 13, 3) := by decide +kernel
theorem dX9_hinders_50 : decode cX9_hinders 50 = .ok (.iload_n 3, 1) := by decide +kernel
theorem dX9_hinders_51 : decode cX9_hinders 51 = .ok (.iaload, 1) := by decide +kernel
theorem dX9_hinders_52 : decode cX9_hinders 52 = .ok (.if_icmp .lt 12, 3) := by decide +kernel
theorem dX9_hinders_55 : decode cX9_hinders 55 = .ok (.aload_n 0, 1) := by decide +kernel
theorem dX9_hinders_56 : decode cX9_hinders 56 = .ok (.getfield 46, 3) := by decide +kernel
theorem dX9_hinders_59 : decode cX9_hinders 59 = .ok (.iload_n 3, 1) := by decide +kernel
theorem dX9_hinders_60 : decode cX9_hinders 60 = .ok (.baload, 1) := by decide +kernel
theorem dX9_hinders_61 : decode cX9_hinders 61 = .ok (.ifCond .eq 5, 3) := by decide +kernel
theorem dX9_hinders_64 : decode cX9_hinders 64 = .ok (.iconst 2, 1) := by decide +kernel
theorem dX9_hinders_65 : decode cX9_hinders 65 = .ok (.ireturn, 1) := by decide +kernel
theorem dX9_hinders_66 : decode cX9_hinders 66 = .ok (.iinc 2 1, 3) := by decide +kernel
theorem dX9_hinders_69 : decode cX9_hinders 69 = .ok (.goto (-50), 3) := by decide +kernel
theorem dX9_hinders_72 : decode cX9_hinders 72 = .ok (.aload_n 0, 1) := by decide +kernel
theorem dX9_hinders_73 : decode cX9_hinders 73 = .ok (.getfield 200, 3) := by decide +kernel
theorem dX9_hinders_76 : decode cX9_hinders 76 = .ok (.aload_n 0, 1) := by decide +kernel
theorem dX9_hinders_77 : decode cX9_hinders 77 = .ok (.invokevirtual 232, 3) := by decide +kernel
theorem dX9_hinders_80 : decode cX9_hinders 80 = .ok (.if_icmp .lt 5, 3) := by decide +kernel
theorem dX9_hinders_83 : decode cX9_hinders 83 = .ok (.iconst 3, 1) := by decide +kernel
theorem dX9_hinders_84 : decode cX9_hinders 84 = .ok (.ireturn, 1) := by decide +kernel
theorem dX9_hinders_85 : decode cX9_hinders 85 = .ok (.lconst 0, 1) := by decide +kernel
theorem dX9_hinders_86 : decode cX9_hinders 86 = .ok (.lstore_n 2, 1) := by decide +kernel
theorem dX9_hinders_87 : decode cX9_hinders 87 = .ok (.iconst 0, 1) := by decide +kernel
theorem dX9_hinders_88 : decode cX9_hinders 88 = .ok (.istore 4, 2) := by decide +kernel
theorem dX9_hinders_90 : decode cX9_hinders 90 = .ok (.iload 4, 2) := by decide +kernel
theorem dX9_hinders_92 : decode cX9_hinders 92 = .ok (.aload_n 0, 1) := by decide +kernel
theorem dX9_hinders_93 : decode cX9_hinders 93 = .ok (.getfield 210, 3) := by decide +kernel
theorem dX9_hinders_96 : decode cX9_hinders 96 = .ok (.if_icmp .ge 44, 3) := by decide +kernel
theorem dX9_hinders_99 : decode cX9_hinders 99 = .ok (.lload_n 2, 1) := by decide +kernel
theorem dX9_hinders_100 : decode cX9_hinders 100 = .ok (.aload_n 0, 1) := by decide +kernel
theorem dX9_hinders_101 : decode cX9_hinders 101 = .ok (.getfield 100, 3) := by decide +kernel
theorem dX9_hinders_104 : decode cX9_hinders 104 = .ok (.iload 4, 2) := by decide +kernel
theorem dX9_hinders_106 : decode cX9_hinders 106 = .ok (.iaload, 1) := by decide +kernel
theorem dX9_hinders_107 : decode cX9_hinders 107 = .ok (.ifCond .le 24, 3) := by decide +kernel
theorem dX9_hinders_110 : decode cX9_hinders 110 = .ok (.aload_n 0, 1) := by decide +kernel
theorem dX9_hinders_111 : decode cX9_hinders 111 = .ok (.iload 4, 2) := by decide +kernel
theorem dX9_hinders_113 : decode cX9_hinders 113 = .ok (.iload_n 1, 1) := by decide +kernel
theorem dX9_hinders_114 : decode cX9_hinders 114 = .ok (.invokevirtual 228, 3) := by decide +kernel
theorem dX9_hinders_117 : decode cX9_hinders 117 = .ok (.ifCond .eq 14, 3) := by decide +kernel
theorem dX9_hinders_120 : decode cX9_hinders 120 = .ok (.aload_n 0, 1) := by decide +kernel
theorem dX9_hinders_121 : decode cX9_hinders 121 = .ok (.getfield 100, 3) := by decide +kernel
theorem dX9_hinders_124 : decode cX9_hinders 124 = .ok (.iload 4, 2) := by decide +kernel
theorem dX9_hinders_126 : decode cX9_hinders 126 = .ok (.iaload, 1) := by decide +kernel
theorem dX9_hinders_127 : decode cX9_hinders 127 = .ok (.i2l, 1) := by decide +kernel
theorem dX9_hinders_128 : decode cX9_hinders 128 = .ok (.goto 4, 3) := by decide +kernel
theorem dX9_hinders_131 : decode cX9_hinders 131 = .ok (.lconst 0, 1) := by decide +kernel
theorem dX9_hinders_132 : decode cX9_hinders 132 = .ok (.ladd, 1) := by decide +kernel
theorem dX9_hinders_133 : decode cX9_hinders 133 = .ok (.lstore_n 2, 1) := by decide +kernel
theorem dX9_hinders_134 : decode cX9_hinders 134 = .ok (.iinc 4 1, 3) := by decide +kernel
theorem dX9_hinders_137 : decode cX9_hinders 137 = .ok (.goto (-47), 3) := by decide +kernel
theorem dX9_hinders_140 : decode cX9_hinders 140 = .ok (.lload_n 2, 1) := by decide +kernel
theorem dX9_hinders_141 : decode cX9_hinders 141 = .ok (.aload_n 0, 1) := by decide +kernel
theorem dX9_hinders_142 : decode cX9_hinders 142 = .ok (.getfield 22, 3) := by decide +kernel
theorem dX9_hinders_145 : decode cX9_hinders 145 = .ok (.iload_n 1, 1) := by decide +kernel
theorem dX9_hinders_146 : decode cX9_hinders 146 = .ok (.iaload, 1) := by decide +kernel
theorem dX9_hinders_147 : decode cX9_hinders 147 = .ok (.i2l, 1) := by decide +kernel
theorem dX9_hinders_148 : decode cX9_hinders 148 = .ok (.lcmp, 1) := by decide +kernel
theorem dX9_hinders_149 : decode cX9_hinders 149 = .ok (.ifCond .ge 5, 3) := by decide +kernel
theorem dX9_hinders_152 : decode cX9_hinders 152 = .ok (.iconst 4, 1) := by decide +kernel
theorem dX9_hinders_153 : decode cX9_hinders 153 = .ok (.ireturn, 1) := by decide +kernel
theorem dX9_hinders_154 : decode cX9_hinders 154 = .ok (.aload_n 0, 1) := by decide +kernel
theorem dX9_hinders_155 : decode cX9_hinders 155 = .ok (.iload_n 1, 1) := by decide +kernel
theorem dX9_hinders_156 : decode cX9_hinders 156 = .ok (.invokevirtual 235, 3) := by decide +kernel
theorem dX9_hinders_159 : decode cX9_hinders 159 = .ok (.bipush (-5), 2) := by decide +kernel
theorem dX9_hinders_161 : decode cX9_hinders 161 = .ok (.if_icmp .ne 7, 3) := by decide +kernel
theorem dX9_hinders_164 : decode cX9_hinders 164 = .ok (.iconst 0, 1) := by decide +kernel
theorem dX9_hinders_165 : decode cX9_hinders 165 = .ok (.goto 4, 3) := by decide +kernel
theorem dX9_hinders_168 : decode cX9_hinders 168 = .ok (.iconst 5, 1) := by decide +kernel
theorem dX9_hinders_169 : decode cX9_hinders 169 = .ok (.ireturn, 1) := by decide +kernel
theorem dX9_may_0 : decode cX9_may 0 = .ok (.aload_n 0, 1) := by decide +kernel
theorem dX9_may_1 : decode cX9_may 1 = .ok (.iload_n 1, 1) := by decide +kernel
theorem dX9_may_2 : decode cX9_may 2 = .ok (.invokevirtual 137, 3) := by decide +kernel
theorem dX9_may_5 : decode cX9_may 5 = .ok (.ifCond .eq 11, 3) := by decide +kernel
theorem dX9_may_8 : decode cX9_may 8 = .ok (.aload_n 0, 1) := by decide +kernel
theorem dX9_may_9 : decode cX9_may 9 = .ok (.iload_n 1, 1) := by decide +kernel
theorem dX9_may_10 : decode cX9_may 10 = .ok (.invokevirtual 238, 3) := by decide +kernel
theorem dX9_may_13 : decode cX9_may 13 = .ok (.goto 4, 3) := by decide +kernel
theorem dX9_may_16 : decode cX9_may 16 = .ok (.iconst (-1), 1) := by decide +kernel
theorem dX9_may_17 : decode cX9_may 17 = .ok (.ireturn, 1) := by decide +kernel
theorem dX9_falls_0 : decode cX9_falls 0 = .ok (.aload_n 0, 1) := by decide +kernel
theorem dX9_falls_1 : decode cX9_falls 1 = .ok (.iload_n 1, 1) := by decide +kernel
theorem dX9_falls_2 : decode cX9_falls 2 = .ok (.invokevirtual 137, 3) := by decide +kernel
theorem dX9_falls_5 : decode cX9_falls 5 = .ok (.ifCond .eq 11, 3) := by decide +kernel
theorem dX9_falls_8 : decode cX9_falls 8 = .ok (.aload_n 0, 1) := by decide +kernel
theorem dX9_falls_9 : decode cX9_falls 9 = .ok (.iload_n 1, 1) := by decide +kernel
theorem dX9_falls_10 : decode cX9_falls 10 = .ok (.invokevirtual 235, 3) := by decide +kernel
theorem dX9_falls_13 : decode cX9_falls 13 = .ok (.goto 4, 3) := by decide +kernel
theorem dX9_falls_16 : decode cX9_falls 16 = .ok (.iconst (-1), 1) := by decide +kernel
theorem dX9_falls_17 : decode cX9_falls 17 = .ok (.ireturn, 1) := by decide +kernel
theorem dX9_lay_0 : decode cX9_lay 0 = .ok (.aload_n 0, 1) := by decide +kernel
theorem dX9_lay_1 : decode cX9_lay 1 = .ok (.iload_n 1, 1) := by decide +kernel
theorem dX9_lay_2 : decode cX9_lay 2 = .ok (.invokevirtual 137, 3) := by decide +kernel
theorem dX9_lay_5 : decode cX9_lay 5 = .ok (.ifCond .ne 5, 3) := by decide +kernel
theorem dX9_lay_8 : decode cX9_lay 8 = .ok (.iconst (-1), 1) := by decide +kernel
theorem dX9_lay_9 : decode cX9_lay 9 = .ok (.ireturn, 1) := by decide +kernel
theorem dX9_lay_10 : decode cX9_lay 10 = .ok (.aload_n 0, 1) := by decide +kernel
theorem dX9_lay_11 : decode cX9_lay 11 = .ok (.iload_n 1, 1) := by decide +kernel
theorem dX9_lay_12 : decode cX9_lay 12 = .ok (.invokevirtual 238, 3) := by decide +kernel
theorem dX9_lay_15 : decode cX9_lay 15 = .ok (.istore_n 2, 1) := by decide +kernel
theorem dX9_lay_16 : decode cX9_lay 16 = .ok (.iload_n 2, 1) := by decide +kernel
theorem dX9_lay_17 : decode cX9_lay 17 = .ok (.ifCond .le 8, 3) := by decide +kernel
theorem dX9_lay_20 : decode cX9_lay 20 = .ok (.bipush (-10), 2) := by decide +kernel
theorem dX9_lay_22 : decode cX9_lay 22 = .ok (.iload_n 2, 1) := by decide +kernel
theorem dX9_lay_23 : decode cX9_lay 23 = .ok (.isub, 1) := by decide +kernel
theorem dX9_lay_24 : decode cX9_lay 24 = .ok (.ireturn, 1) := by decide +kernel
theorem dX9_lay_25 : decode cX9_lay 25 = .ok (.aload_n 0, 1) := by decide +kernel
theorem dX9_lay_26 : decode cX9_lay 26 = .ok (.getfield 22, 3) := by decide +kernel
theorem dX9_lay_29 : decode cX9_lay 29 = .ok (.iload_n 1, 1) := by decide +kernel
theorem dX9_lay_30 : decode cX9_lay 30 = .ok (.iaload, 1) := by decide +kernel
theorem dX9_lay_31 : decode cX9_lay 31 = .ok (.istore_n 3, 1) := by decide +kernel
theorem dX9_lay_32 : decode cX9_lay 32 = .ok (.iconst 0, 1) := by decide +kernel
theorem dX9_lay_33 : decode cX9_lay 33 = .ok (.istore 4, 2) := by decide +kernel
theorem dX9_lay_35 : decode cX9_lay 35 = .ok (.iload 4, 2) := by decide +kernel
theorem dX9_lay_37 : decode cX9_lay 37 = .ok (.aload_n 0, 1) := by decide +kernel
theorem dX9_lay_38 : decode cX9_lay 38 = .ok (.getfield 210, 3) := by decide +kernel
theorem dX9_lay_41 : decode cX9_lay 41 = .ok (.if_icmp .ge 31, 3) := by decide +kernel
theorem dX9_lay_44 : decode cX9_lay 44 = .ok (.aload_n 0, 1) := by decide +kernel
theorem dX9_lay_45 : decode cX9_lay 45 = .ok (.getfield 112, 3) := by decide +kernel
theorem dX9_lay_48 : decode cX9_lay 48 = .ok (.iload 4, 2) := by decide +kernel
theorem dX9_lay_50 : decode cX9_lay 50 = .ok (.aload_n 0, 1) := by decide +kernel
theorem dX9_lay_51 : decode cX9_lay 51 = .ok (.iload 4, 2) := by decide +kernel
theorem dX9_lay_53 : decode cX9_lay 53 = .ok (.iload_n 1, 1) := by decide +kernel
theorem dX9_lay_54 : decode cX9_lay 54 = .ok (.invokevirtual 228, 3) := by decide +kernel
theorem dX9_lay_57 : decode cX9_lay 57 = .ok (.ifCond .eq 7, 3) := by decide +kernel
theorem dX9_lay_60 : decode cX9_lay 60 = .ok (.iconst 1, 1) := by decide +kernel
theorem dX9_lay_61 : decode cX9_lay 61 = .ok (.goto 4, 3) := by decide +kernel
theorem dX9_lay_64 : decode cX9_lay 64 = .ok (.iconst 0, 1) := by decide +kernel
theorem dX9_lay_65 : decode cX9_lay 65 = .ok (.bastore, 1) := by decide +kernel
theorem dX9_lay_66 : decode cX9_lay 66 = .ok (.iinc 4 1, 3) := by decide +kernel
theorem dX9_lay_69 : decode cX9_lay 69 = .ok (.goto (-34), 3) := by decide +kernel
theorem dX9_lay_72 : decode cX9_lay 72 = .ok (.iconst 0, 1) := by decide +kernel
theorem dX9_lay_73 : decode cX9_lay 73 = .ok (.istore 4, 2) := by decide +kernel
theorem dX9_lay_75 : decode cX9_lay 75 = .ok (.iload 4, 2) := by decide +kernel
theorem dX9_lay_77 : decode cX9_lay 77 = .ok (.aload_n 0, 1) := by decide +kernel
theorem dX9_lay_78 : decode cX9_lay 78 = .ok (.getfield 210, 3) := by decide +kernel
theorem dX9_lay_81 : decode cX9_lay 81 = .ok (.if_icmp .ge 63, 3) := by decide +kernel
theorem dX9_lay_84 : decode cX9_lay 84 = .ok (.aload_n 0, 1) := by decide +kernel
theorem dX9_lay_85 : decode cX9_lay 85 = .ok (.getfield 112, 3) := by decide +kernel
theorem dX9_lay_88 : decode cX9_lay 88 = .ok (.iload 4, 2) := by decide +kernel
theorem dX9_lay_90 : decode cX9_lay 90 = .ok (.baload, 1) := by decide +kernel
theorem dX9_lay_91 : decode cX9_lay 91 = .ok (.ifCond .ne 6, 3) := by decide +kernel
theorem dX9_lay_94 : decode cX9_lay 94 = .ok (.goto 44, 3) := by decide +kernel
theorem dX9_lay_97 : decode cX9_lay 97 = .ok (.aload_n 0, 1) := by decide +kernel
theorem dX9_lay_98 : decode cX9_lay 98 = .ok (.getfield 100, 3) := by decide +kernel
theorem dX9_lay_101 : decode cX9_lay 101 = .ok (.iload 4, 2) := by decide +kernel
theorem dX9_lay_103 : decode cX9_lay 103 = .ok (.iaload, 1) := by decide +kernel
theorem dX9_lay_104 : decode cX9_lay 104 = .ok (.iload_n 3, 1) := by decide +kernel
theorem dX9_lay_105 : decode cX9_lay 105 = .ok (.if_icmp .ge 13, 3) := by decide +kernel
theorem dX9_lay_108 : decode cX9_lay 108 = .ok (.aload_n 0, 1) := by decide +kernel
theorem dX9_lay_109 : decode cX9_lay 109 = .ok (.getfield 100, 3) := by decide +kernel
theorem dX9_lay_112 : decode cX9_lay 112 = .ok (.iload 4, 2) := by decide +kernel
theorem dX9_lay_114 : decode cX9_lay 114 = .ok (.iaload, 1) := by decide +kernel
theorem dX9_lay_115 : decode cX9_lay 115 = .ok (.goto 4, 3) := by decide +kernel
theorem dX9_lay_118 : decode cX9_lay 118 = .ok (.iload_n 3, 1) := by decide +kernel
theorem dX9_lay_119 : decode cX9_lay 119 = .ok (.istore 5, 2) := by decide +kernel
theorem dX9_lay_121 : decode cX9_lay 121 = .ok (.aload_n 0, 1) := by decide +kernel
theorem dX9_lay_122 : decode cX9_lay 122 = .ok (.getfield 100, 3) := by decide +kernel
theorem dX9_lay_125 : decode cX9_lay 125 = .ok (.iload 4, 2) := by decide +kernel
theorem dX9_lay_127 : decode cX9_lay 127 = .ok (.dup2, 1) := by decide +kernel
theorem dX9_lay_128 : decode cX9_lay 128 = .ok (.iaload, 1) := by decide +kernel
theorem dX9_lay_129 : decode cX9_lay 129 = .ok (.iload 5, 2) := by decide +kernel
theorem dX9_lay_131 : decode cX9_lay 131 = .ok (.isub, 1) := by decide +kernel
theorem dX9_lay_132 : decode cX9_lay 132 = .ok (.iastore, 1) := by decide +kernel
theorem dX9_lay_133 : decode cX9_lay 133 = .ok (.iload_n 3, 1) := by decide +kernel
theorem dX9_lay_134 : decode cX9_lay 134 = .ok (.iload 5, 2) := by decide +kernel
theorem dX9_lay_136 : decode cX9_lay 136 = .ok (.isub, 1) := by decide +kernel
theorem dX9_lay_137 : decode cX9_lay 137 = .ok (.istore_n 3, 1) := by decide +kernel
theorem dX9_lay_138 : decode cX9_lay 138 = .ok (.iinc 4 1, 3) := by decide +kernel
theorem dX9_lay_141 : decode cX9_lay 141 = .ok (.goto (-66), 3) := by decide +kernel
theorem dX9_lay_144 : decode cX9_lay 144 = .ok (.aload_n 0, 1) := by decide +kernel
theorem dX9_lay_145 : decode cX9_lay 145 = .ok (.dup, 1) := by decide +kernel
theorem dX9_lay_146 : decode cX9_lay 146 = .ok (.getfield 241, 3) := by decide +kernel
theorem dX9_lay_149 : decode cX9_lay 149 = .ok (.aload_n 0, 1) := by decide +kernel
theorem dX9_lay_150 : decode cX9_lay 150 = .ok (.getfield 22, 3) := by decide +kernel
theorem dX9_lay_153 : decode cX9_lay 153 = .ok (.iload_n 1, 1) := by decide +kernel
theorem dX9_lay_154 : decode cX9_lay 154 = .ok (.iaload, 1) := by decide +kernel
theorem dX9_lay_155 : decode cX9_lay 155 = .ok (.iadd, 1) := by decide +kernel
theorem dX9_lay_156 : decode cX9_lay 156 = .ok (.putfield 241, 3) := by decide +kernel
theorem dX9_lay_159 : decode cX9_lay 159 = .ok (.aload_n 0, 1) := by decide +kernel
theorem dX9_lay_160 : decode cX9_lay 160 = .ok (.getfield 46, 3) := by decide +kernel
theorem dX9_lay_163 : decode cX9_lay 163 = .ok (.iload_n 1, 1) := by decide +kernel
theorem dX9_lay_164 : decode cX9_lay 164 = .ok (.aload_n 0, 1) := by decide +kernel
theorem dX9_lay_165 : decode cX9_lay 165 = .ok (.getfield 46, 3) := by decide +kernel
theorem dX9_lay_168 : decode cX9_lay 168 = .ok (.iload_n 1, 1) := by decide +kernel
theorem dX9_lay_169 : decode cX9_lay 169 = .ok (.baload, 1) := by decide +kernel
theorem dX9_lay_170 : decode cX9_lay 170 = .ok (.ifCond .ne 22, 3) := by decide +kernel
theorem dX9_lay_173 : decode cX9_lay 173 = .ok (.aload_n 0, 1) := by decide +kernel
theorem dX9_lay_174 : decode cX9_lay 174 = .ok (.getfield 7, 3) := by decide +kernel
theorem dX9_lay_177 : decode cX9_lay 177 = .ok (.iload_n 1, 1) := by decide +kernel
theorem dX9_lay_178 : decode cX9_lay 178 = .ok (.iaload, 1) := by decide +kernel
theorem dX9_lay_179 : decode cX9_lay 179 = .ok (.iconst 1, 1) := by decide +kernel
theorem dX9_lay_180 : decode cX9_lay 180 = .ok (.if_icmp .ne 16, 3) := by decide +kernel
theorem dX9_lay_183 : decode cX9_lay 183 = .ok (.aload_n 0, 1) := by decide +kernel
theorem dX9_lay_184 : decode cX9_lay 184 = .ok (.getfield 40, 3) := by decide +kernel
theorem dX9_lay_187 : decode cX9_lay 187 = .ok (.iload_n 1, 1) := by decide +kernel
theorem dX9_lay_188 : decode cX9_lay 188 = .ok (.iaload, 1) := by decide +kernel
theorem dX9_lay_189 : decode cX9_lay 189 = .ok (.ifCond .ne 7, 3) := by decide +kernel
theorem dX9_lay_192 : decode cX9_lay 192 = .ok (.iconst 1, 1) := by decide +kernel
theorem dX9_lay_193 : decode cX9_lay 193 = .ok (.goto 4, 3) := by decide +kernel
theorem dX9_lay_196 : decode cX9_lay 196 = .ok (.iconst 0, 1) := by decide +kernel
theorem dX9_lay_197 : decode cX9_lay 197 = .ok (.bastore, 1) := by decide +kernel
theorem dX9_lay_198 : decode cX9_lay 198 = .ok (.aload_n 0, 1) := by decide +kernel
theorem dX9_lay_199 : decode cX9_lay 199 = .ok (.getfield 40, 3) := by decide +kernel
theorem dX9_lay_202 : decode cX9_lay 202 = .ok (.iload_n 1, 1) := by decide +kernel
theorem dX9_lay_203 : decode cX9_lay 203 = .ok (.dup2, 1) := by decide +kernel
theorem dX9_lay_204 : decode cX9_lay 204 = .ok (.iaload, 1) := by decide +kernel
theorem dX9_lay_205 : decode cX9_lay 205 = .ok (.iconst 1, 1) := by decide +kernel
theorem dX9_lay_206 : decode cX9_lay 206 = .ok (.iadd, 1) := by decide +kernel
theorem dX9_lay_207 : decode cX9_lay 207 = .ok (.iastore, 1) := by decide +kernel
theorem dX9_lay_208 : decode cX9_lay 208 = .ok (.aload_n 0, 1) := by decide +kernel
theorem dX9_lay_209 : decode cX9_lay 209 = .ok (.getfield 43, 3) := by decide +kernel
theorem dX9_lay_212 : decode cX9_lay 212 = .ok (.iload_n 1, 1) := by decide +kernel
theorem dX9_lay_213 : decode cX9_lay 213 = .ok (.iconst 0, 1) := by decide +kernel
theorem dX9_lay_214 : decode cX9_lay 214 = .ok (.iastore, 1) := by decide +kernel
theorem dX9_lay_215 : decode cX9_lay 215 = .ok (.aload_n 0, 1) := by decide +kernel
theorem dX9_lay_216 : decode cX9_lay 216 = .ok (.dup, 1) := by decide +kernel
theorem dX9_lay_217 : decode cX9_lay 217 = .ok (.getfield 200, 3) := by decide +kernel
theorem dX9_lay_220 : decode cX9_lay 220 = .ok (.iconst 1, 1) := by decide +kernel
theorem dX9_lay_221 : decode cX9_lay 221 = .ok (.iadd, 1) := by decide +kernel
theorem dX9_lay_222 : decode cX9_lay 222 = .ok (.putfield 200, 3) := by decide +kernel
theorem dX9_lay_225 : decode cX9_lay 225 = .ok (.aload_n 0, 1) := by decide +kernel
theorem dX9_lay_226 : decode cX9_lay 226 = .ok (.getfield 40, 3) := by decide +kernel
theorem dX9_lay_229 : decode cX9_lay 229 = .ok (.iload_n 1, 1) := by decide +kernel
theorem dX9_lay_230 : decode cX9_lay 230 = .ok (.iaload, 1) := by decide +kernel
theorem dX9_lay_231 : decode cX9_lay 231 = .ok (.ireturn, 1) := by decide +kernel
theorem dX9_strike_0 : decode cX9_strike 0 = .ok (.aload_n 0, 1) := by decide +kernel
theorem dX9_strike_1 : decode cX9_strike 1 = .ok (.iload_n 1, 1) := by decide +kernel
theorem dX9_strike_2 : decode cX9_strike 2 = .ok (.invokevirtual 137, 3) := by decide +kernel
theorem dX9_strike_5 : decode cX9_strike 5 = .ok (.ifCond .ne 5, 3) := by decide +kernel
theorem dX9_strike_8 : decode cX9_strike 8 = .ok (.iconst (-1), 1) := by decide +kernel
theorem dX9_strike_9 : decode cX9_strike 9 = .ok (.ireturn, 1) := by decide +kernel
theorem dX9_strike_10 : decode cX9_strike 10 = .ok (.aload_n 0, 1) := by decide +kernel
theorem dX9_strike_11 : decode cX9_strike 11 = .ok (.getfield 46, 3) := by decide +kernel
theorem dX9_strike_14 : decode cX9_strike 14 = .ok (.iload_n 1, 1) := by decide +kernel
theorem dX9_strike_15 : decode cX9_strike 15 = .ok (.baload, 1) := by decide +kernel
theorem dX9_strike_16 : decode cX9_strike 16 = .ok (.ifCond .ne 6, 3) := by decide +kernel
theorem dX9_strike_19 : decode cX9_strike 19 = .ok (.bipush (-11), 2) := by decide +kernel
theorem dX9_strike_21 : decode cX9_strike 21 = .ok (.ireturn, 1) := by decide +kernel
theorem dX9_strike_22 : decode cX9_strike 22 = .ok (.aload_n 0, 1) := by decide +kernel
theorem dX9_strike_23 : decode cX9_strike 23 = .ok (.getfield 40, 3) := by decide +kernel
theorem dX9_strike_26 : decode cX9_strike 26 = .ok (.iload_n 1, 1) := by decide +kernel
theorem dX9_strike_27 : decode cX9_strike 27 = .ok (.iaload, 1) := by decide +kernel
theorem dX9_strike_28 : decode cX9_strike 28 = .ok (.aload_n 0, 1) := by decide +kernel
theorem dX9_strike_29 : decode cX9_strike 29 = .ok (.getfield 13, 3) := by decide +kernel
theorem dX9_strike_32 : decode cX9_strike 32 = .ok (.iload_n 1, 1) := by decide +kernel
theorem dX9_strike_33 : decode cX9_strike 33 = .ok (.iaload, 1) := by decide +kernel
theorem dX9_strike_34 : decode cX9_strike 34 = .ok (.if_icmp .ge 6, 3) := by decide +kernel
theorem dX9_strike_37 : decode cX9_strike 37 = .ok (.bipush (-12), 2) := by decide +kernel
theorem dX9_strike_39 : decode cX9_strike 39 = .ok (.ireturn, 1) := by decide +kernel
theorem dX9_strike_40 : decode cX9_strike 40 = .ok (.aload_n 0, 1) := by decide +kernel
theorem dX9_strike_41 : decode cX9_strike 41 = .ok (.getfield 43, 3) := by decide +kernel
theorem dX9_strike_44 : decode cX9_strike 44 = .ok (.iload_n 1, 1) := by decide +kernel
theorem dX9_strike_45 : decode cX9_strike 45 = .ok (.iaload, 1) := by decide +kernel
theorem dX9_strike_46 : decode cX9_strike 46 = .ok (.aload_n 0, 1) := by decide +kernel
theorem dX9_strike_47 : decode cX9_strike 47 = .ok (.getfield 34, 3) := by decide +kernel
theorem dX9_strike_50 : decode cX9_strike 50 = .ok (.iload_n 1, 1) := by decide +kernel
theorem dX9_strike_51 : decode cX9_strike 51 = .ok (.iaload, 1) := by decide +kernel
theorem dX9_strike_52 : decode cX9_strike 52 = .ok (.if_icmp .ge 6, 3) := by decide +kernel
theorem dX9_strike_55 : decode cX9_strike 55 = .ok (.bipush (-13), 2) := by decide +kernel
theorem dX9_strike_57 : decode cX9_strike 57 = .ok (.ireturn, 1) := by decide +kernel
theorem dX9_strike_58 : decode cX9_strike 58 = .ok (.aload_n 0, 1) := by decide +kernel
theorem dX9_strike_59 : decode cX9_strike 59 = .ok (.getfield 46, 3) := by decide +kernel
theorem dX9_strike_62 : decode cX9_strike 62 = .ok (.iload_n 1, 1) := by decide +kernel
theorem dX9_strike_63 : decode cX9_strike 63 = .ok (.iconst 0, 1) := by decide +kernel
theorem dX9_strike_64 : decode cX9_strike 64 = .ok (.bastore, 1) := by decide +kernel
theorem dX9_strike_65 : decode cX9_strike 65 = .ok (.aload_n 0, 1) := by decide +kernel
theorem dX9_strike_66 : decode cX9_strike 66 = .ok (.invokevirtual 164, 3) := by decide +kernel
theorem dX9_strike_69 : decode cX9_strike 69 = .ok (.bipush (-5), 2) := by decide +kernel
theorem dX9_strike_71 : decode cX9_strike 71 = .ok (.if_icmp .ne 5, 3) := by decide +kernel
theorem dX9_strike_74 : decode cX9_strike 74 = .ok (.iconst 1, 1) := by decide +kernel
theorem dX9_strike_75 : decode cX9_strike 75 = .ok (.ireturn, 1) := by decide +kernel
theorem dX9_strike_76 : decode cX9_strike 76 = .ok (.aload_n 0, 1) := by decide +kernel
theorem dX9_strike_77 : decode cX9_strike 77 = .ok (.getfield 46, 3) := by decide +kernel
theorem dX9_strike_80 : decode cX9_strike 80 = .ok (.iload_n 1, 1) := by decide +kernel
theorem dX9_strike_81 : decode cX9_strike 81 = .ok (.iconst 1, 1) := by decide +kernel
theorem dX9_strike_82 : decode cX9_strike 82 = .ok (.bastore, 1) := by decide +kernel
theorem dX9_strike_83 : decode cX9_strike 83 = .ok (.bipush (-15), 2) := by decide +kernel
theorem dX9_strike_85 : decode cX9_strike 85 = .ok (.ireturn, 1) := by decide +kernel
theorem dX9_prop_0 : decode cX9_prop 0 = .ok (.aload_n 0, 1) := by decide +kernel
theorem dX9_prop_1 : decode cX9_prop 1 = .ok (.iload_n 1, 1) := by decide +kernel
theorem dX9_prop_2 : decode cX9_prop 2 = .ok (.invokevirtual 137, 3) := by decide +kernel
theorem dX9_prop_5 : decode cX9_prop 5 = .ok (.ifCond .eq 13, 3) := by decide +kernel
theorem dX9_prop_8 : decode cX9_prop 8 = .ok (.iload_n 2, 1) := by decide +kernel
theorem dX9_prop_9 : decode cX9_prop 9 = .ok (.iconst 0, 1) := by decide +kernel
theorem dX9_prop_10 : decode cX9_prop 10 = .ok (.ldc 168, 2) := by decide +kernel
theorem dX9_prop_12 : decode cX9_prop 12 = .ok (.invokestatic 125, 3) := by decide +kernel
theorem dX9_prop_15 : decode cX9_prop 15 = .ok (.ifCond .ne 5, 3) := by decide +kernel
theorem dX9_prop_18 : decode cX9_prop 18 = .ok (.iconst (-1), 1) := by decide +kernel
theorem dX9_prop_19 : decode cX9_prop 19 = .ok (.ireturn, 1) := by decide +kernel
theorem dX9_prop_20 : decode cX9_prop 20 = .ok (.aload_n 0, 1) := by decide +kernel
theorem dX9_prop_21 : decode cX9_prop 21 = .ok (.getfield 37, 3) := by decide +kernel
theorem dX9_prop_24 : decode cX9_prop 24 = .ok (.iload_n 1, 1) := by decide +kernel
theorem dX9_prop_25 : decode cX9_prop 25 = .ok (.iaload, 1) := by decide +kernel
theorem dX9_prop_26 : decode cX9_prop 26 = .ok (.istore_n 3, 1) := by decide +kernel
theorem dX9_prop_27 : decode cX9_prop 27 = .ok (.aload_n 0, 1) := by decide +kernel
theorem dX9_prop_28 : decode cX9_prop 28 = .ok (.getfield 37, 3) := by decide +kernel
theorem dX9_prop_31 : decode cX9_prop 31 = .ok (.iload_n 1, 1) := by decide +kernel
theorem dX9_prop_32 : decode cX9_prop 32 = .ok (.iload_n 2, 1) := by decide +kernel
theorem dX9_prop_33 : decode cX9_prop 33 = .ok (.iastore, 1) := by decide +kernel
theorem dX9_prop_34 : decode cX9_prop 34 = .ok (.iload_n 2, 1) := by decide +kernel
theorem dX9_prop_35 : decode cX9_prop 35 = .ok (.iload_n 3, 1) := by decide +kernel
theorem dX9_prop_36 : decode cX9_prop 36 = .ok (.if_icmp .ge 12, 3) := by decide +kernel
theorem dX9_prop_39 : decode cX9_prop 39 = .ok (.aload_n 0, 1) := by decide +kernel
theorem dX9_prop_40 : decode cX9_prop 40 = .ok (.invokevirtual 164, 3) := by decide +kernel
theorem dX9_prop_43 : decode cX9_prop 43 = .ok (.bipush (-5), 2) := by decide +kernel
theorem dX9_prop_45 : decode cX9_prop 45 = .ok (.if_icmp .ne 5, 3) := by decide +kernel
theorem dX9_prop_48 : decode cX9_prop 48 = .ok (.iload_n 3, 1) := by decide +kernel
theorem dX9_prop_49 : decode cX9_prop 49 = .ok (.ireturn, 1) := by decide +kernel
theorem dX9_prop_50 : decode cX9_prop 50 = .ok (.aload_n 0, 1) := by decide +kernel
theorem dX9_prop_51 : decode cX9_prop 51 = .ok (.getfield 37, 3) := by decide +kernel
theorem dX9_prop_54 : decode cX9_prop 54 = .ok (.iload_n 1, 1) := by decide +kernel
theorem dX9_prop_55 : decode cX9_prop 55 = .ok (.iload_n 3, 1) := by decide +kernel
theorem dX9_prop_56 : decode cX9_prop 56 = .ok (.iastore, 1) := by decide +kernel
theorem dX9_prop_57 : decode cX9_prop 57 = .ok (.bipush (-15), 2) := by decide +kernel
theorem dX9_prop_59 : decode cX9_prop 59 = .ok (.ireturn, 1) := by decide +kernel
theorem dX9_month_0 : decode cX9_month 0 = .ok (.iload_n 1, 1) := by decide +kernel
theorem dX9_month_1 : decode cX9_month 1 = .ok (.iconst 1, 1) := by decide +kernel
theorem dX9_month_2 : decode cX9_month 2 = .ok (.bipush 100, 2) := by decide +kernel
theorem dX9_month_4 : decode cX9_month 4 = .ok (.invokestatic 125, 3) := by decide +kernel
theorem dX9_month_7 : decode cX9_month 7 = .ok (.ifCond .eq 15, 3) := by decide +kernel
theorem dX9_month_10 : decode cX9_month 10 = .ok (.aload_n 0, 1) := by decide +kernel
theorem dX9_month_11 : decode cX9_month 11 = .ok (.getfield 194, 3) := by decide +kernel
theorem dX9_month_14 : decode cX9_month 14 = .ok (.iload_n 1, 1) := by decide +kernel
theorem dX9_month_15 : decode cX9_month 15 = .ok (.iadd, 1) := by decide +kernel
theorem dX9_month_16 : decode cX9_month 16 = .ok (.sipush 1200, 3) := by decide +kernel
theorem dX9_month_19 : decode cX9_month 19 = .ok (.if_icmp .le 5, 3) := by decide +kernel
theorem dX9_month_22 : decode cX9_month 22 = .ok (.iconst (-1), 1) := by decide +kernel
theorem dX9_month_23 : decode cX9_month 23 = .ok (.ireturn, 1) := by decide +kernel
theorem dX9_month_24 : decode cX9_month 24 = .ok (.iconst 0, 1) := by decide +kernel
theorem dX9_month_25 : decode cX9_month 25 = .ok (.istore_n 2, 1) := by decide +kernel
theorem dX9_month_26 : decode cX9_month 26 = .ok (.iload_n 2, 1) := by decide +kernel
theorem dX9_month_27 : decode cX9_month 27 = .ok (.iload_n 1, 1) := by decide +kernel
theorem dX9_month_28 : decode cX9_month 28 = .ok (.if_icmp .ge 103, 3) := by decide +kernel
theorem dX9_month_31 : decode cX9_month 31 = .ok (.aload_n 0, 1) := by decide +kernel
theorem dX9_month_32 : decode cX9_month 32 = .ok (.aload_n 0, 1) := by decide +kernel
theorem dX9_month_33 : decode cX9_month 33 = .ok (.getfield 194, 3) := by decide +kernel
theorem dX9_month_36 : decode cX9_month 36 = .ok (.invokevirtual 197, 3) := by decide +kernel
theorem dX9_month_39 : decode cX9_month 39 = .ok (.istore_n 3, 1) := by decide +kernel
theorem dX9_month_40 : decode cX9_month 40 = .ok (.iconst 0, 1) := by decide +kernel
theorem dX9_month_41 : decode cX9_month 41 = .ok (.istore 4, 2) := by decide +kernel
theorem dX9_month_43 : decode cX9_month 43 = .ok (.iload 4, 2) := by decide +kernel
theorem dX9_month_45 : decode cX9_month 45 = .ok (.aload_n 0, 1) := by decide +kernel
theorem dX9_month_46 : decode cX9_month 46 = .ok (.getfield 122, 3) := by decide +kernel
theorem dX9_month_49 : decode cX9_month 49 = .ok (.if_icmp .ge 61, 3) := by decide +kernel
theorem dX9_month_52 : decode cX9_month 52 = .ok (.aload_n 0, 1) := by decide +kernel
theorem dX9_month_53 : decode cX9_month 53 = .ok (.getfield 63, 3) := by decide +kernel
theorem dX9_month_56 : decode cX9_month 56 = .ok (.sipush 1201, 3) := by decide +kernel
theorem dX9_month_59 : decode cX9_month 59 = .ok (.iload 4, 2) := by decide +kernel
theorem dX9_month_61 : decode cX9_month 61 = .ok (.imul, 1) := by decide +kernel
theorem dX9_month_62 : decode cX9_month 62 = .ok (.aload_n 0, 1) := by decide +kernel
theorem dX9_month_63 : decode cX9_month 63 = .ok (.getfield 194, 3) := by decide +kernel
theorem dX9_month_66 : decode cX9_month 66 = .ok (.iadd, 1) := by decide +kernel
theorem dX9_month_67 : decode cX9_month 67 = .ok (.aload_n 0, 1) := by decide +kernel
theorem dX9_month_68 : decode cX9_month 68 = .ok (.getfield 40, 3) := by decide +kernel
theorem dX9_month_71 : decode cX9_month 71 = .ok (.iload 4, 2) := by decide +kernel
theorem dX9_month_73 : decode cX9_month 73 = .ok (.iaload, 1) := by decide +kernel
theorem dX9_month_74 : decode cX9_month 74 = .ok (.iastore, 1) := by decide +kernel
theorem dX9_month_75 : decode cX9_month 75 = .ok (.aload_n 0, 1) := by decide +kernel
theorem dX9_month_76 : decode cX9_month 76 = .ok (.getfield 43, 3) := by decide +kernel
theorem dX9_month_79 : decode cX9_month 79 = .ok (.iload 4, 2) := by decide +kernel
theorem dX9_month_81 : decode cX9_month 81 = .ok (.dup2, 1) := by decide +kernel
theorem dX9_month_82 : decode cX9_month 82 = .ok (.iaload, 1) := by decide +kernel
theorem dX9_month_83 : decode cX9_month 83 = .ok (.aload_n 0, 1) := by decide +kernel
theorem dX9_month_84 : decode cX9_month 84 = .ok (.getfield 40, 3) := by decide +kernel
theorem dX9_month_87 : decode cX9_month 87 = .ok (.iload 4, 2) := by decide +kernel
theorem dX9_month_89 : decode cX9_month 89 = .ok (.iaload, 1) := by decide +kernel
theorem dX9_month_90 : decode cX9_month 90 = .ok (.ifCond .le 11, 3) := by decide +kernel
theorem dX9_month_93 : decode cX9_month 93 = .ok (.iload_n 3, 1) := by decide +kernel
theorem dX9_month_94 : decode cX9_month 94 = .ok (.ifCond .ne 7, 3) := by decide +kernel
theorem dX9_month_97 : decode cX9_month 97 = .ok (.iconst 1, 1) := by decide +kernel
theorem dX9_month_98 : decode cX9_month 98 = .ok (.goto 4, 3) := by decide +kernel
theorem dX9_month_101 : decode cX9_month 101 = .ok (.iconst 0, 1) := by decide +kernel
theorem dX9_month_102 : decode cX9_month 102 = .ok (.iadd, 1) := by decide +kernel
theorem dX9_month_103 : decode cX9_month 103 = .ok (.iastore, 1) := by decide +kernel
theorem dX9_month_104 : decode cX9_month 104 = .ok (.iinc 4 1, 3) := by decide +kernel
theorem dX9_month_107 : decode cX9_month 107 = .ok (.goto (-64), 3) := by decide +kernel
theorem dX9_month_110 : decode cX9_month 110 = .ok (.aload_n 0, 1) := by decide +kernel
theorem dX9_month_111 : decode cX9_month 111 = .ok (.dup, 1) := by decide +kernel
theorem dX9_month_112 : decode cX9_month 112 = .ok (.getfield 194, 3) := by decide +kernel
theorem dX9_month_115 : decode cX9_month 115 = .ok (.iconst 1, 1) := by decide +kernel
theorem dX9_month_116 : decode cX9_month 116 = .ok (.iadd, 1) := by decide +kernel
theorem dX9_month_117 : decode cX9_month 117 = .ok (.putfield 194, 3) := by decide +kernel
theorem dX9_month_120 : decode cX9_month 120 = .ok (.aload_n 0, 1) := by decide +kernel
theorem dX9_month_121 : decode cX9_month 121 = .ok (.iconst 0, 1) := by decide +kernel
theorem dX9_month_122 : decode cX9_month 122 = .ok (.putfield 200, 3) := by decide +kernel
theorem dX9_month_125 : decode cX9_month 125 = .ok (.iinc 2 1, 3) := by decide +kernel
theorem dX9_month_128 : decode cX9_month 128 = .ok (.goto (-102), 3) := by decide +kernel
theorem dX9_month_131 : decode cX9_month 131 = .ok (.aload_n 0, 1) := by decide +kernel
theorem dX9_month_132 : decode cX9_month 132 = .ok (.getfield 194, 3) := by decide +kernel
theorem dX9_month_135 : decode cX9_month 135 = .ok (.ireturn, 1) := by decide +kernel
theorem dX9_frost_0 : decode cX9_frost 0 = .ok (.iload_n 1, 1) := by decide +kernel
theorem dX9_frost_1 : decode cX9_frost 1 = .ok (.iconst 0, 1) := by decide +kernel
theorem dX9_frost_2 : decode cX9_frost 2 = .ok (.sipush 4095, 3) := by decide +kernel
theorem dX9_frost_5 : decode cX9_frost 5 = .ok (.invokestatic 125, 3) := by decide +kernel
theorem dX9_frost_8 : decode cX9_frost 8 = .ok (.ifCond .ne 5, 3) := by decide +kernel
theorem dX9_frost_11 : decode cX9_frost 11 = .ok (.iconst (-1), 1) := by decide +kernel
theorem dX9_frost_12 : decode cX9_frost 12 = .ok (.ireturn, 1) := by decide +kernel
theorem dX9_frost_13 : decode cX9_frost 13 = .ok (.aload_n 0, 1) := by decide +kernel
theorem dX9_frost_14 : decode cX9_frost 14 = .ok (.getfield 191, 3) := by decide +kernel
theorem dX9_frost_17 : decode cX9_frost 17 = .ok (.istore_n 2, 1) := by decide +kernel
theorem dX9_frost_18 : decode cX9_frost 18 = .ok (.aload_n 0, 1) := by decide +kernel
theorem dX9_frost_19 : decode cX9_frost 19 = .ok (.iload_n 1, 1) := by decide +kernel
theorem dX9_frost_20 : decode cX9_frost 20 = .ok (.putfield 191, 3) := by decide +kernel
theorem dX9_frost_23 : decode cX9_frost 23 = .ok (.iload_n 2, 1) := by decide +kernel
theorem dX9_frost_24 : decode cX9_frost 24 = .ok (.ireturn, 1) := by decide +kernel
theorem dX9_bitter_0 : decode cX9_bitter 0 = .ok (.iload_n 1, 1) := by decide +kernel
theorem dX9_bitter_1 : decode cX9_bitter 1 = .ok (.aload_n 0, 1) := by decide +kernel
theorem dX9_bitter_2 : decode cX9_bitter 2 = .ok (.getfield 194, 3) := by decide +kernel
theorem dX9_bitter_5 : decode cX9_bitter 5 = .ok (.sipush 1200, 3) := by decide +kernel
theorem dX9_bitter_8 : decode cX9_bitter 8 = .ok (.invokestatic 125, 3) := by decide +kernel
theorem dX9_bitter_11 : decode cX9_bitter 11 = .ok (.ifCond .ne 5, 3) := by decide +kernel
theorem dX9_bitter_14 : decode cX9_bitter 14 = .ok (.iconst (-1), 1) := by decide +kernel
theorem dX9_bitter_15 : decode cX9_bitter 15 = .ok (.ireturn, 1) := by decide +kernel
theorem dX9_bitter_16 : decode cX9_bitter 16 = .ok (.aload_n 0, 1) := by decide +kernel
theorem dX9_bitter_17 : decode cX9_bitter 17 = .ok (.getfield 59, 3) := by decide +kernel
theorem dX9_bitter_20 : decode cX9_bitter 20 = .ok (.iload_n 1, 1) := by decide +kernel
theorem dX9_bitter_21 : decode cX9_bitter 21 = .ok (.baload, 1) := by decide +kernel
theorem dX9_bitter_22 : decode cX9_bitter 22 = .ok (.ifCond .eq 7, 3) := by decide +kernel
theorem dX9_bitter_25 : decode cX9_bitter 25 = .ok (.iconst 0, 1) := by decide +kernel
theorem dX9_bitter_26 : decode cX9_bitter 26 = .ok (.goto 4, 3) := by decide +kernel
theorem dX9_bitter_29 : decode cX9_bitter 29 = .ok (.iconst 1, 1) := by decide +kernel
theorem dX9_bitter_30 : decode cX9_bitter 30 = .ok (.istore_n 2, 1) := by decide +kernel
theorem dX9_bitter_31 : decode cX9_bitter 31 = .ok (.aload_n 0, 1) := by decide +kernel
theorem dX9_bitter_32 : decode cX9_bitter 32 = .ok (.getfield 59, 3) := by decide +kernel
theorem dX9_bitter_35 : decode cX9_bitter 35 = .ok (.iload_n 1, 1) := by decide +kernel
theorem dX9_bitter_36 : decode cX9_bitter 36 = .ok (.iconst 1, 1) := by decide +kernel
theorem dX9_bitter_37 : decode cX9_bitter 37 = .ok (.bastore, 1) := by decide +kernel
theorem dX9_bitter_38 : decode cX9_bitter 38 = .ok (.iload_n 2, 1) := by decide +kernel
theorem dX9_bitter_39 : decode cX9_bitter 39 = .ok (.ireturn, 1) := by decide +kernel
theorem dX9_about_0 : decode cX9_about 0 = .ok (.aload_n 0, 1) := by decide +kernel
theorem dX9_about_1 : decode cX9_about 1 = .ok (.iload_n 1, 1) := by decide +kernel
theorem dX9_about_2 : decode cX9_about 2 = .ok (.invokevirtual 137, 3) := by decide +kernel
theorem dX9_about_5 : decode cX9_about 5 = .ok (.ifCond .ne 5, 3) := by decide +kernel
theorem dX9_about_8 : decode cX9_about 8 = .ok (.iconst (-1), 1) := by decide +kernel
theorem dX9_about_9 : decode cX9_about 9 = .ok (.ireturn, 1) := by decide +kernel
theorem dX9_about_10 : decode cX9_about 10 = .ok (.iconst 0, 1) := by decide +kernel
theorem dX9_about_11 : decode cX9_about 11 = .ok (.istore_n 3, 1) := by decide +kernel
theorem dX9_about_12 : decode cX9_about 12 = .ok (.iload_n 2, 1) := by decide +kernel
theorem dX9_about_13 : decode cX9_about 13 = .ok (.tableswitch 216 0 12 #[67, 74, 81, 88, 99, 106, 121, 131, 150, 157, 164, 202, 209], 67) := by decide +kernel
theorem dX9_about_80 : decode cX9_about 80 = .ok (.aload_n 0, 1) := by decide +kernel
theorem dX9_about_81 : decode cX9_about 81 = .ok (.getfield 7, 3) := by decide +kernel
theorem dX9_about_84 : decode cX9_about 84 = .ok (.iload_n 1, 1) := by decide +kernel
theorem dX9_about_85 : decode cX9_about 85 = .ok (.iaload, 1) := by decide +kernel
theorem dX9_about_86 : decode cX9_about 86 = .ok (.ireturn, 1) := by decide +kernel
theorem dX9_about_87 : decode cX9_about 87 = .ok (.aload_n 0, 1) := by decide +kernel
theorem dX9_about_88 : decode cX9_about 88 = .ok (.getfield 13, 3) := by decide +kernel
theorem dX9_about_91 : decode cX9_about 91 = .ok (.iload_n 1, 1) := by decide +kernel
theorem dX9_about_92 : decode cX9_about 92 = .ok (.iaload, 1) := by decide +kernel
theorem dX9_about_93 : decode cX9_about 93 = .ok (.ireturn, 1) := by decide +kernel
theorem dX9_about_94 : decode cX9_about 94 = .ok (.aload_n 0, 1) := by decide +kernel
theorem dX9_about_95 : decode cX9_about 95 = .ok (.getfield 40, 3) := by decide +kernel
theorem dX9_about_98 : decode cX9_about 98 = .ok (.iload_n 1, 1) := by decide +kernel
theorem dX9_about_99 : decode cX9_about 99 = .ok (.iaload, 1) := by decide +kernel
theorem dX9_about_100 : decode cX9_about 100 = .ok (.ireturn, 1) := by decide +kernel
theorem dX9_about_101 : decode cX9_about 101 = .ok (.aload_n 0, 1) := by decide +kernel
theorem dX9_about_102 : decode cX9_about 102 = .ok (.invokevirtual 157, 3) := by decide +kernel
theorem dX9_about_105 : decode cX9_about 105 = .ok (.aload_n 0, 1) := by decide +kernel
theorem dX9_about_106 : decode cX9_about 106 = .ok (.getfield 75, 3) := by decide +kernel
theorem dX9_about_109 : decode cX9_about 109 = .ok (.iload_n 1, 1) := by decide +kernel
theorem dX9_about_110 : decode cX9_about 110 = .ok (.iaload, 1) := by decide +kernel
theorem dX9_about_111 : decode cX9_about 111 = .ok (.ireturn, 1) := by decide +kernel
theorem dX9_about_112 : decode cX9_about 112 = .ok (.aload_n 0, 1) := by decide +kernel
theorem dX9_about_113 : decode cX9_about 113 = .ok (.getfield 43, 3) := by decide +kernel
theorem dX9_about_116 : decode cX9_about 116 = .ok (.iload_n 1, 1) := by decide +kernel
theorem dX9_about_117 : decode cX9_about 117 = .ok (.iaload, 1) := by decide +kernel
theorem dX9_about_118 : decode cX9_about 118 = .ok (.ireturn, 1) := by decide +kernel
theorem dX9_about_119 : decode cX9_about 119 = .ok (.aload_n 0, 1) := by decide +kernel
theorem dX9_about_120 : decode cX9_about 120 = .ok (.getfield 46, 3) := by decide +kernel
theorem dX9_about_123 : decode cX9_about 123 = .ok (.iload_n 1, 1) := by decide +kernel
theorem dX9_about_124 : decode cX9_about 124 = .ok (.baload, 1) := by decide +kernel
theorem dX9_about_125 : decode cX9_about 125 = .ok (.ifCond .eq 7, 3) := by decide +kernel
theorem dX9_about_128 : decode cX9_about 128 = .ok (.iconst 1, 1) := by decide +kernel
theorem dX9_about_129 : decode cX9_about 129 = .ok (.goto 4, 3) := by decide +kernel
theorem dX9_about_132 : decode cX9_about 132 = .ok (.iconst 0, 1) := by decide +kernel
theorem dX9_about_133 : decode cX9_about 133 = .ok (.ireturn, 1) := by decide +kernel
theorem dX9_about_134 : decode cX9_about 134 = .ok (.aload_n 0, 1) := by decide +kernel
theorem dX9_about_135 : decode cX9_about 135 = .ok (.invokevirtual 157, 3) := by decide +kernel
theorem dX9_about_138 : decode cX9_about 138 = .ok (.aload_n 0, 1) := by decide +kernel
theorem dX9_about_139 : decode cX9_about 139 = .ok (.iload_n 1, 1) := by decide +kernel
theorem dX9_about_140 : decode cX9_about 140 = .ok (.invokevirtual 160, 3) := by decide +kernel
theorem dX9_about_143 : decode cX9_about 143 = .ok (.ireturn, 1) := by decide +kernel
theorem dX9_about_144 : decode cX9_about 144 = .ok (.aload_n 0, 1) := by decide +kernel
theorem dX9_about_145 : decode cX9_about 145 = .ok (.invokevirtual 157, 3) := by decide +kernel
theorem dX9_about_148 : decode cX9_about 148 = .ok (.aload_n 0, 1) := by decide +kernel
theorem dX9_about_149 : decode cX9_about 149 = .ok (.getfield 78, 3) := by decide +kernel
theorem dX9_about_152 : decode cX9_about 152 = .ok (.iload_n 1, 1) := by decide +kernel
theorem dX9_about_153 : decode cX9_about 153 = .ok (.iaload, 1) := by decide +kernel
theorem dX9_about_154 : decode cX9_about 154 = .ok (.ifCond .le 7, 3) := by decide +kernel
theorem dX9_about_157 : decode cX9_about 157 = .ok (.iconst 1, 1) := by decide +kernel
theorem dX9_about_158 : decode cX9_about 158 = .ok (.goto 4, 3) := by decide +kernel
theorem dX9_about_161 : decode cX9_about 161 = .ok (.iconst 0, 1) := by decide +kernel
theorem dX9_about_162 : decode cX9_about 162 = .ok (.ireturn, 1) := by decide +kernel
theorem dX9_about_163 : decode cX9_about 163 = .ok (.aload_n 0, 1) := by decide +kernel
theorem dX9_about_164 : decode cX9_about 164 = .ok (.getfield 37, 3) := by decide +kernel
theorem dX9_about_167 : decode cX9_about 167 = .ok (.iload_n 1, 1) := by decide +kernel
theorem dX9_about_168 : decode cX9_about 168 = .ok (.iaload, 1) := by decide +kernel
theorem dX9_about_169 : decode cX9_about 169 = .ok (.ireturn, 1) := by decide +kernel
theorem dX9_about_170 : decode cX9_about 170 = .ok (.aload_n 0, 1) := by decide +kernel
theorem dX9_about_171 : decode cX9_about 171 = .ok (.getfield 50, 3) := by decide +kernel
theorem dX9_about_174 : decode cX9_about 174 = .ok (.iload_n 1, 1) := by decide +kernel
theorem dX9_about_175 : decode cX9_about 175 = .ok (.iaload, 1) := by decide +kernel
theorem dX9_about_176 : decode cX9_about 176 = .ok (.ireturn, 1) := by decide +kernel
theorem dX9_about_177 : decode cX9_about 177 = .ok (.iconst 0, 1) := by decide +kernel
theorem dX9_about_178 : decode cX9_about 178 = .ok (.istore 4, 2) := by decide +kernel
theorem dX9_about_180 : decode cX9_about 180 = .ok (.iload 4, 2) := by decide +kernel
theorem dX9_about_182 : decode cX9_about 182 = .ok (.aload_n 0, 1) := by decide +kernel
theorem dX9_about_183 : decode cX9_about 183 = .ok (.getfield 122, 3) := by decide +kernel
theorem dX9_about_186 : decode cX9_about 186 = .ok (.if_icmp .ge 27, 3) := by decide +kernel
theorem dX9_about_189 : decode cX9_about 189 = .ok (.iload_n 3, 1) := by decide +kernel
theorem dX9_about_190 : decode cX9_about 190 = .ok (.aload_n 0, 1) := by decide +kernel
theorem dX9_about_191 : decode cX9_about 191 = .ok (.iload 4, 2) := by decide +kernel
theorem dX9_about_193 : decode cX9_about 193 = .ok (.iload_n 1, 1) := by decide +kernel
theorem dX9_about_194 : decode cX9_about 194 = .ok (.invokevirtual 244, 3) := by decide +kernel
theorem dX9_about_197 : decode cX9_about 197 = .ok (.ifCond .eq 7, 3) := by decide +kernel
theorem dX9_about_200 : decode cX9_about 200 = .ok (.iconst 1, 1) := by decide +kernel
theorem dX9_about_201 : decode cX9_about 201 = .ok (.goto 4, 3) := by decide +kernel
theorem dX9_about_204 : decode cX9_about 204 = .ok (.iconst 0, 1) := by decide +kernel
theorem dX9_about_205 : decode cX9_about 205 = .ok (.iadd, 1) := by decide +kernel
theorem dX9_about_206 : decode cX9_about 206 = .ok (.istore_n 3, 1) := by decide +kernel
theorem dX9_about_207 : decode cX9_about 207 = .ok (.iinc 4 1, 3) := by decide +kernel
theorem dX9_about_210 : decode cX9_about 210 = .ok (.goto (-30), 3) := by decide +kernel
theorem dX9_about_213 : decode cX9_about 213 = .ok (.iload_n 3, 1) := by decide +kernel
theorem dX9_about_214 : decode cX9_about 214 = .ok (.ireturn, 1) := by decide +kernel
theorem dX9_about_215 : decode cX9_about 215 = .ok (.aload_n 0, 1) := by decide +kernel
theorem dX9_about_216 : decode cX9_about 216 = .ok (.getfield 19, 3) := by decide +kernel
theorem dX9_about_219 : decode cX9_about 219 = .ok (.iload_n 1, 1) := by decide +kernel
theorem dX9_about_220 : decode cX9_about 220 = .ok (.iaload, 1) := by decide +kernel
theorem dX9_about_221 : decode cX9_about 221 = .ok (.ireturn, 1) := by decide +kernel
theorem dX9_about_222 : decode cX9_about 222 = .ok (.aload_n 0, 1) := by decide +kernel
theorem dX9_about_223 : decode cX9_about 223 = .ok (.getfield 22, 3) := by decide +kernel
theorem dX9_about_226 : decode cX9_about 226 = .ok (.iload_n 1, 1) := by decide +kernel
theorem dX9_about_227 : decode cX9_about 227 = .ok (.iaload, 1) := by decide +kernel
theorem dX9_about_228 : decode cX9_about 228 = .ok (.ireturn, 1) := by decide +kernel
theorem dX9_about_229 : decode cX9_about 229 = .ok (.iconst (-1), 1) := by decide +kernel
theorem dX9_about_230 : decode cX9_about 230 = .ok (.ireturn, 1) := by decide +kernel
theorem dX9_stands_0 : decode cX9_stands 0 = .ok (.iconst 0, 1) := by decide +kernel
theorem dX9_stands_1 : decode cX9_stands 1 = .ok (.istore_n 3, 1) := by decide +kernel
theorem dX9_stands_2 : decode cX9_stands 2 = .ok (.iload_n 3, 1) := by decide +kernel
theorem dX9_stands_3 : decode cX9_stands 3 = .ok (.aload_n 0, 1) := by decide +kernel
theorem dX9_stands_4 : decode cX9_stands 4 = .ok (.getfield 50, 3) := by decide +kernel
theorem dX9_stands_7 : decode cX9_stands 7 = .ok (.iload_n 1, 1) := by decide +kernel
theorem dX9_stands_8 : decode cX9_stands 8 = .ok (.iaload, 1) := by decide +kernel
theorem dX9_stands_9 : decode cX9_stands 9 = .ok (.if_icmp .ge 25, 3) := by decide +kernel
theorem dX9_stands_12 : decode cX9_stands 12 = .ok (.aload_n 0, 1) := by decide +kernel
theorem dX9_stands_13 : decode cX9_stands 13 = .ok (.getfield 53, 3) := by decide +kernel
theorem dX9_stands_16 : decode cX9_stands 16 = .ok (.iconst 4, 1) := by decide +kernel
theorem dX9_stands_17 : decode cX9_stands 17 = .ok (.iload_n 1, 1) := by decide +kernel
theorem dX9_stands_18 : decode cX9_stands 18 = .ok (.imul, 1) := by decide +kernel
theorem dX9_stands_19 : decode cX9_stands 19 = .ok (.iload_n 3, 1) := by decide +kernel
theorem dX9_stands_20 : decode cX9_stands 20 = .ok (.iadd, 1) := by decide +kernel
theorem dX9_stands_21 : decode cX9_stands 21 = .ok (.iaload, 1) := by decide +kernel
theorem dX9_stands_22 : decode cX9_stands 22 = .ok (.iload_n 2, 1) := by decide +kernel
theorem dX9_stands_23 : decode cX9_stands 23 = .ok (.if_icmp .ne 5, 3) := by decide +kernel
theorem dX9_stands_26 : decode cX9_stands 26 = .ok (.iconst 1, 1) := by decide +kernel
theorem dX9_stands_27 : decode cX9_stands 27 = .ok (.ireturn, 1) := by decide +kernel
theorem dX9_stands_28 : decode cX9_stands 28 = .ok (.iinc 3 1, 3) := by decide +kernel
theorem dX9_stands_31 : decode cX9_stands 31 = .ok (.goto (-29), 3) := by decide +kernel
theorem dX9_stands_34 : decode cX9_stands 34 = .ok (.iconst 0, 1) := by decide +kernel
theorem dX9_stands_35 : decode cX9_stands 35 = .ok (.ireturn, 1) := by decide +kernel
theorem dX9_support_0 : decode cX9_support 0 = .ok (.aload_n 0, 1) := by decide +kernel
theorem dX9_support_1 : decode cX9_support 1 = .ok (.iload_n 1, 1) := by decide +kernel
theorem dX9_support_2 : decode cX9_support 2 = .ok (.invokevirtual 137, 3) := by decide +kernel
theorem dX9_support_5 : decode cX9_support 5 = .ok (.ifCond .eq 46, 3) := by decide +kernel
theorem dX9_support_8 : decode cX9_support 8 = .ok (.iload_n 2, 1) := by decide +kernel
theorem dX9_support_9 : decode cX9_support 9 = .ok (.iconst 0, 1) := by decide +kernel
theorem dX9_support_10 : decode cX9_support 10 = .ok (.aload_n 0, 1) := by decide +kernel
theorem dX9_support_11 : decode cX9_support 11 = .ok (.getfield 50, 3) := by decide +kernel
theorem dX9_support_14 : decode cX9_support 14 = .ok (.iload_n 1, 1) := by decide +kernel
theorem dX9_support_15 : decode cX9_support 15 = .ok (.iaload, 1) := by decide +kernel
theorem dX9_support_16 : decode cX9_support 16 = .ok (.iconst 1, 1) := by decide +kernel
theorem dX9_support_17 : decode cX9_support 17 = .ok (.isub, 1) := by decide +kernel
theorem dX9_support_18 : decode cX9_support 18 = .ok (.invokestatic 125, 3) := by decide +kernel
theorem dX9_support_21 : decode cX9_support 21 = .ok (.ifCond .eq 30, 3) := by decide +kernel
theorem dX9_support_24 : decode cX9_support 24 = .ok (.bipush 100, 2) := by decide +kernel
theorem dX9_support_26 : decode cX9_support 26 = .ok (.aload_n 0, 1) := by decide +kernel
theorem dX9_support_27 : decode cX9_support 27 = .ok (.getfield 53, 3) := by decide +kernel
theorem dX9_support_30 : decode cX9_support 30 = .ok (.iconst 4, 1) := by decide +kernel
theorem dX9_support_31 : decode cX9_support 31 = .ok (.iload_n 1, 1) := by decide +kernel
theorem dX9_support_32 : decode cX9_support 32 = .ok (.imul, 1) := by decide +kernel
theorem dX9_support_33 : decode cX9_support 33 = .ok (.iload_n 2, 1) := by decide +kernel
theorem dX9_support_34 : decode cX9_support 34 = .ok (.iadd, 1) := by decide +kernel
theorem dX9_support_35 : decode cX9_support 35 = .ok (.iaload, 1) := by decide +kernel
theorem dX9_support_36 : decode cX9_support 36 = .ok (.imul, 1) := by decide +kernel
theorem dX9_support_37 : decode cX9_support 37 = .ok (.aload_n 0, 1) := by decide +kernel
theorem dX9_support_38 : decode cX9_support 38 = .ok (.getfield 56, 3) := by decide +kernel
theorem dX9_support_41 : decode cX9_support 41 = .ok (.iconst 4, 1) := by decide +kernel
theorem dX9_support_42 : decode cX9_support 42 = .ok (.iload_n 1, 1) := by decide +kernel
theorem dX9_support_43 : decode cX9_support 43 = .ok (.imul, 1) := by decide +kernel
theorem dX9_support_44 : decode cX9_support 44 = .ok (.iload_n 2, 1) := by decide +kernel
theorem dX9_support_45 : decode cX9_support 45 = .ok (.iadd, 1) := by decide +kernel
theorem dX9_support_46 : decode cX9_support 46 = .ok (.iaload, 1) := by decide +kernel
theorem dX9_support_47 : decode cX9_support 47 = .ok (.iadd, 1) := by decide +kernel
theorem dX9_support_48 : decode cX9_support 48 = .ok (.goto 4, 3) := by decide +kernel
theorem dX9_support_51 : decode cX9_support 51 = .ok (.iconst (-1), 1) := by decide +kernel
theorem dX9_support_52 : decode cX9_support 52 = .ok (.ireturn, 1) := by decide +kernel
theorem dX9_left_0 : decode cX9_left 0 = .ok (.aload_n 0, 1) := by decide +kernel
theorem dX9_left_1 : decode cX9_left 1 = .ok (.iload_n 1, 1) := by decide +kernel
theorem dX9_left_2 : decode cX9_left 2 = .ok (.invokevirtual 225, 3) := by decide +kernel
theorem dX9_left_5 : decode cX9_left 5 = .ok (.ifCond .eq 12, 3) := by decide +kernel
theorem dX9_left_8 : decode cX9_left 8 = .ok (.iload_n 2, 1) := by decide +kernel
theorem dX9_left_9 : decode cX9_left 9 = .ok (.iconst 0, 1) := by decide +kernel
theorem dX9_left_10 : decode cX9_left 10 = .ok (.iconst 1, 1) := by decide +kernel
theorem dX9_left_11 : decode cX9_left 11 = .ok (.invokestatic 125, 3) := by decide +kernel
theorem dX9_left_14 : decode cX9_left 14 = .ok (.ifCond .ne 7, 3) := by decide +kernel
theorem dX9_left_17 : decode cX9_left 17 = .ok (.iconst (-1), 1) := by decide +kernel
theorem dX9_left_18 : decode cX9_left 18 = .ok (.goto 22, 3) := by decide +kernel
theorem dX9_left_21 : decode cX9_left 21 = .ok (.iload_n 2, 1) := by decide +kernel
theorem dX9_left_22 : decode cX9_left 22 = .ok (.ifCond .ne 12, 3) := by decide +kernel
theorem dX9_left_25 : decode cX9_left 25 = .ok (.aload_n 0, 1) := by decide +kernel
theorem dX9_left_26 : decode cX9_left 26 = .ok (.getfield 100, 3) := by decide +kernel
theorem dX9_left_29 : decode cX9_left 29 = .ok (.iload_n 1, 1) := by decide +kernel
theorem dX9_left_30 : decode cX9_left 30 = .ok (.iaload, 1) := by decide +kernel
theorem dX9_left_31 : decode cX9_left 31 = .ok (.goto 9, 3) := by decide +kernel
theorem dX9_left_34 : decode cX9_left 34 = .ok (.aload_n 0, 1) := by decide +kernel
theorem dX9_left_35 : decode cX9_left 35 = .ok (.getfield 97, 3) := by decide +kernel
theorem dX9_left_38 : decode cX9_left 38 = .ok (.iload_n 1, 1) := by decide +kernel
theorem dX9_left_39 : decode cX9_left 39 = .ok (.iaload, 1) := by decide +kernel
theorem dX9_left_40 : decode cX9_left 40 = .ok (.ireturn, 1) := by decide +kernel
theorem dX9_as_0 : decode cX9_as 0 = .ok (.aload_n 0, 1) := by decide +kernel
theorem dX9_as_1 : decode cX9_as 1 = .ok (.iload_n 1, 1) := by decide +kernel
theorem dX9_as_2 : decode cX9_as 2 = .ok (.invokevirtual 137, 3) := by decide +kernel
theorem dX9_as_5 : decode cX9_as 5 = .ok (.ifCond .eq 15, 3) := by decide +kernel
theorem dX9_as_8 : decode cX9_as 8 = .ok (.iload_n 2, 1) := by decide +kernel
theorem dX9_as_9 : decode cX9_as 9 = .ok (.iconst 0, 1) := by decide +kernel
theorem dX9_as_10 : decode cX9_as 10 = .ok (.aload_n 0, 1) := by decide +kernel
theorem dX9_as_11 : decode cX9_as 11 = .ok (.getfield 194, 3) := by decide +kernel
theorem dX9_as_14 : decode cX9_as 14 = .ok (.invokestatic 125, 3) := by decide +kernel
theorem dX9_as_17 : decode cX9_as 17 = .ok (.ifCond .ne 7, 3) := by decide +kernel
theorem dX9_as_20 : decode cX9_as 20 = .ok (.iconst (-1), 1) := by decide +kernel
theorem dX9_as_21 : decode cX9_as 21 = .ok (.goto 32, 3) := by decide +kernel
theorem dX9_as_24 : decode cX9_as 24 = .ok (.iload_n 2, 1) := by decide +kernel
theorem dX9_as_25 : decode cX9_as 25 = .ok (.aload_n 0, 1) := by decide +kernel
theorem dX9_as_26 : decode cX9_as 26 = .ok (.getfield 194, 3) := by decide +kernel
theorem dX9_as_29 : decode cX9_as 29 = .ok (.if_icmp .ne 12, 3) := by decide +kernel
theorem dX9_as_32 : decode cX9_as 32 = .ok (.aload_n 0, 1) := by decide +kernel
theorem dX9_as_33 : decode cX9_as 33 = .ok (.getfield 40, 3) := by decide +kernel
theorem dX9_as_36 : decode cX9_as 36 = .ok (.iload_n 1, 1) := by decide +kernel
theorem dX9_as_37 : decode cX9_as 37 = .ok (.iaload, 1) := by decide +kernel
theorem dX9_as_38 : decode cX9_as 38 = .ok (.goto 15, 3) := by decide +kernel
theorem dX9_as_41 : decode cX9_as 41 = .ok (.aload_n 0, 1) := by decide +kernel
theorem dX9_as_42 : decode cX9_as 42 = .ok (.getfield 63, 3) := by decide +kernel
theorem dX9_as_45 : decode cX9_as 45 = .ok (.sipush 1201, 3) := by decide +kernel
theorem dX9_as_48 : decode cX9_as 48 = .ok (.iload_n 1, 1) := by decide +kernel
theorem dX9_as_49 : decode cX9_as 49 = .ok (.imul, 1) := by decide +kernel
theorem dX9_as_50 : decode cX9_as 50 = .ok (.iload_n 2, 1) := by decide +kernel
theorem dX9_as_51 : decode cX9_as 51 = .ok (.iadd, 1) := by decide +kernel
theorem dX9_as_52 : decode cX9_as 52 = .ok (.iaload, 1) := by decide +kernel
theorem dX9_as_53 : decode cX9_as 53 = .ok (.ireturn, 1) := by decide +kernel
theorem dX9_down_0 : decode cX9_down 0 = .ok (.aload_n 0, 1) := by decide +kernel
theorem dX9_down_1 : decode cX9_down 1 = .ok (.iload_n 1, 1) := by decide +kernel
theorem dX9_down_2 : decode cX9_down 2 = .ok (.invokevirtual 137, 3) := by decide +kernel
theorem dX9_down_5 : decode cX9_down 5 = .ok (.ifCond .ne 5, 3) := by decide +kernel
theorem dX9_down_8 : decode cX9_down 8 = .ok (.iconst (-1), 1) := by decide +kernel
theorem dX9_down_9 : decode cX9_down 9 = .ok (.ireturn, 1) := by decide +kernel
theorem dX9_down_10 : decode cX9_down 10 = .ok (.aload_n 0, 1) := by decide +kernel
theorem dX9_down_11 : decode cX9_down 11 = .ok (.getfield 50, 3) := by decide +kernel
theorem dX9_down_14 : decode cX9_down 14 = .ok (.iload_n 1, 1) := by decide +kernel
theorem dX9_down_15 : decode cX9_down 15 = .ok (.iaload, 1) := by decide +kernel
theorem dX9_down_16 : decode cX9_down 16 = .ok (.ifCond .eq 12, 3) := by decide +kernel
theorem dX9_down_19 : decode cX9_down 19 = .ok (.aload_n 0, 1) := by decide +kernel
theorem dX9_down_20 : decode cX9_down 20 = .ok (.getfield 46, 3) := by decide +kernel
theorem dX9_down_23 : decode cX9_down 23 = .ok (.iload_n 1, 1) := by decide +kernel
theorem dX9_down_24 : decode cX9_down 24 = .ok (.baload, 1) := by decide +kernel
theorem dX9_down_25 : decode cX9_down 25 = .ok (.ifCond .eq 6, 3) := by decide +kernel
theorem dX9_down_28 : decode cX9_down 28 = .ok (.bipush (-5), 2) := by decide +kernel
theorem dX9_down_30 : decode cX9_down 30 = .ok (.ireturn, 1) := by decide +kernel
theorem dX9_down_31 : decode cX9_down 31 = .ok (.aload_n 0, 1) := by decide +kernel
theorem dX9_down_32 : decode cX9_down 32 = .ok (.invokevirtual 157, 3) := by decide +kernel
theorem dX9_down_35 : decode cX9_down 35 = .ok (.iconst 0, 1) := by decide +kernel
theorem dX9_down_36 : decode cX9_down 36 = .ok (.istore_n 2, 1) := by decide +kernel
theorem dX9_down_37 : decode cX9_down 37 = .ok (.iconst 1, 1) := by decide +kernel
theorem dX9_down_38 : decode cX9_down 38 = .ok (.istore_n 3, 1) := by decide +kernel
theorem dX9_down_39 : decode cX9_down 39 = .ok (.iload_n 3, 1) := by decide +kernel
theorem dX9_down_40 : decode cX9_down 40 = .ok (.aload_n 0, 1) := by decide +kernel
theorem dX9_down_41 : decode cX9_down 41 = .ok (.getfield 50, 3) := by decide +kernel
theorem dX9_down_44 : decode cX9_down 44 = .ok (.iload_n 1, 1) := by decide +kernel
theorem dX9_down_45 : decode cX9_down 45 = .ok (.iaload, 1) := by decide +kernel
theorem dX9_down_46 : decode cX9_down 46 = .ok (.if_icmp .ge 26, 3) := by decide +kernel
theorem dX9_down_49 : decode cX9_down 49 = .ok (.aload_n 0, 1) := by decide +kernel
theorem dX9_down_50 : decode cX9_down 50 = .ok (.iload_n 1, 1) := by decide +kernel
theorem dX9_down_51 : decode cX9_down 51 = .ok (.iload_n 3, 1) := by decide +kernel
theorem dX9_down_52 : decode cX9_down 52 = .ok (.invokevirtual 151, 3) := by decide +kernel
theorem dX9_down_55 : decode cX9_down 55 = .ok (.aload_n 0, 1) := by decide +kernel
theorem dX9_down_56 : decode cX9_down 56 = .ok (.iload_n 1, 1) := by decide +kernel
theorem dX9_down_57 : decode cX9_down 57 = .ok (.iload_n 2, 1) := by decide +kernel
theorem dX9_down_58 : decode cX9_down 58 = .ok (.invokevirtual 151, 3) := by decide +kernel
theorem dX9_down_61 : decode cX9_down 61 = .ok (.if_icmp .le 5, 3) := by decide +kernel
theorem dX9_down_64 : decode cX9_down 64 = .ok (.iload_n 3, 1) := by decide +kernel
theorem dX9_down_65 : decode cX9_down 65 = .ok (.istore_n 2, 1) := by decide +kernel
theorem dX9_down_66 : decode cX9_down 66 = .ok (.iinc 3 1, 3) := by decide +kernel
theorem dX9_down_69 : decode cX9_down 69 = .ok (.goto (-30), 3) := by decide +kernel
theorem dX9_down_72 : decode cX9_down 72 = .ok (.aload_n 0, 1) := by decide +kernel
theorem dX9_down_73 : decode cX9_down 73 = .ok (.getfield 53, 3) := by decide +kernel
theorem dX9_down_76 : decode cX9_down 76 = .ok (.iconst 4, 1) := by decide +kernel
theorem dX9_down_77 : decode cX9_down 77 = .ok (.iload_n 1, 1) := by decide +kernel
theorem dX9_down_78 : decode cX9_down 78 = .ok (.imul, 1) := by decide +kernel
theorem dX9_down_79 : decode cX9_down 79 = .ok (.iload_n 2, 1) := by decide +kernel
theorem dX9_down_80 : decode cX9_down 80 = .ok (.iadd, 1) := by decide +kernel
theorem dX9_down_81 : decode cX9_down 81 = .ok (.iaload, 1) := by decide +kernel
theorem dX9_down_82 : decode cX9_down 82 = .ok (.ireturn, 1) := by decide +kernel
theorem dX9_needs_0 : decode cX9_needs 0 = .ok (.aload_n 0, 1) := by decide +kernel
theorem dX9_needs_1 : decode cX9_needs 1 = .ok (.iload_n 1, 1) := by decide +kernel
theorem dX9_needs_2 : decode cX9_needs 2 = .ok (.invokevirtual 137, 3) := by decide +kernel
theorem dX9_needs_5 : decode cX9_needs 5 = .ok (.ifCond .ne 5, 3) := by decide +kernel
theorem dX9_needs_8 : decode cX9_needs 8 = .ok (.iconst (-1), 1) := by decide +kernel
theorem dX9_needs_9 : decode cX9_needs 9 = .ok (.ireturn, 1) := by decide +kernel
theorem dX9_needs_10 : decode cX9_needs 10 = .ok (.iconst 0, 1) := by decide +kernel
theorem dX9_needs_11 : decode cX9_needs 11 = .ok (.istore_n 2, 1) := by decide +kernel
theorem dX9_needs_12 : decode cX9_needs 12 = .ok (.iload_n 2, 1) := by decide +kernel
theorem dX9_needs_13 : decode cX9_needs 13 = .ok (.aload_n 0, 1) := by decide +kernel
theorem dX9_needs_14 : decode cX9_needs 14 = .ok (.getfield 122, 3) := by decide +kernel
theorem dX9_needs_17 : decode cX9_needs 17 = .ok (.if_icmp .ge 25, 3) := by decide +kernel
theorem dX9_needs_20 : decode cX9_needs 20 = .ok (.aload_n 0, 1) := by decide +kernel
theorem dX9_needs_21 : decode cX9_needs 21 = .ok (.getfield 115, 3) := by decide +kernel
theorem dX9_needs_24 : decode cX9_needs 24 = .ok (.iload_n 2, 1) := by decide +kernel
theorem dX9_needs_25 : decode cX9_needs 25 = .ok (.iload_n 2, 1) := by decide +kernel
theorem dX9_needs_26 : decode cX9_needs 26 = .ok (.iload_n 1, 1) := by decide +kernel
theorem dX9_needs_27 : decode cX9_needs 27 = .ok (.if_icmp .ne 7, 3) := by decide +kernel
theorem dX9_needs_30 : decode cX9_needs 30 = .ok (.iconst 1, 1) := by decide +kernel
theorem dX9_needs_31 : decode cX9_needs 31 = .ok (.goto 4, 3) := by decide +kernel
theorem dX9_needs_34 : decode cX9_needs 34 = .ok (.iconst 0, 1) := by decide +kernel
theorem dX9_needs_35 : decode cX9_needs 35 = .ok (.bastore, 1) := by decide +kernel
theorem dX9_needs_36 : decode cX9_needs 36 = .ok (.iinc 2 1, 3) := by decide +kernel
theorem dX9_needs_39 : decode cX9_needs 39 = .ok (.goto (-27), 3) := by decide +kernel
theorem dX9_needs_42 : decode cX9_needs 42 = .ok (.iconst 0, 1) := by decide +kernel
theorem dX9_needs_43 : decode cX9_needs 43 = .ok (.istore_n 2, 1) := by decide +kernel
theorem dX9_needs_44 : decode cX9_needs 44 = .ok (.iload_n 1, 1) := by decide +kernel
theorem dX9_needs_45 : decode cX9_needs 45 = .ok (.istore_n 3, 1) := by decide +kernel
theorem dX9_needs_46 : decode cX9_needs 46 = .ok (.iload_n 3, 1) := by decide +kernel
theorem dX9_needs_47 : decode cX9_needs 47 = .ok (.ifCond .lt 74, 3) := by decide +kernel
theorem dX9_needs_50 : decode cX9_needs 50 = .ok (.aload_n 0, 1) := by decide +kernel
theorem dX9_needs_51 : decode cX9_needs 51 = .ok (.getfield 115, 3) := by decide +kernel
theorem dX9_needs_54 : decode cX9_needs 54 = .ok (.iload_n 3, 1) := by decide +kernel
theorem dX9_needs_55 : decode cX9_needs 55 = .ok (.baload, 1) := by decide +kernel
theorem dX9_needs_56 : decode cX9_needs 56 = .ok (.ifCond .ne 6, 3) := by decide +kernel
theorem dX9_needs_59 : decode cX9_needs 59 = .ok (.goto 56, 3) := by decide +kernel
theorem dX9_needs_62 : decode cX9_needs 62 = .ok (.iload_n 2, 1) := by decide +kernel
theorem dX9_needs_63 : decode cX9_needs 63 = .ok (.aload_n 0, 1) := by decide +kernel
theorem dX9_needs_64 : decode cX9_needs 64 = .ok (.getfield 13, 3) := by decide +kernel
theorem dX9_needs_67 : decode cX9_needs 67 = .ok (.iload_n 3, 1) := by decide +kernel
theorem dX9_needs_68 : decode cX9_needs 68 = .ok (.iaload, 1) := by decide +kernel
theorem dX9_needs_69 : decode cX9_needs 69 = .ok (.aload_n 0, 1) := by decide +kernel
theorem dX9_needs_70 : decode cX9_needs 70 = .ok (.getfield 40, 3) := by decide +kernel
theorem dX9_needs_73 : decode cX9_needs 73 = .ok (.iload_n 3, 1) := by decide +kernel
theorem dX9_needs_74 : decode cX9_needs 74 = .ok (.iaload, 1) := by decide +kernel
theorem dX9_needs_75 : decode cX9_needs 75 = .ok (.isub, 1) := by decide +kernel
theorem dX9_needs_76 : decode cX9_needs 76 = .ok (.iadd, 1) := by decide +kernel
theorem dX9_needs_77 : decode cX9_needs 77 = .ok (.istore_n 2, 1) := by decide +kernel
theorem dX9_needs_78 : decode cX9_needs 78 = .ok (.iconst 0, 1) := by decide +kernel
theorem dX9_needs_79 : decode cX9_needs 79 = .ok (.istore 4, 2) := by decide +kernel
theorem dX9_needs_81 : decode cX9_needs 81 = .ok (.iload 4, 2) := by decide +kernel
theorem dX9_needs_83 : decode cX9_needs 83 = .ok (.aload_n 0, 1) := by decide +kernel
theorem dX9_needs_84 : decode cX9_needs 84 = .ok (.getfield 50, 3) := by decide +kernel
theorem dX9_needs_87 : decode cX9_needs 87 = .ok (.iload_n 3, 1) := by decide +kernel
theorem dX9_needs_88 : decode cX9_needs 88 = .ok (.iaload, 1) := by decide +kernel
theorem dX9_needs_89 : decode cX9_needs 89 = .ok (.if_icmp .ge 26, 3) := by decide +kernel
theorem dX9_needs_92 : decode cX9_needs 92 = .ok (.aload_n 0, 1) := by decide +kernel
theorem dX9_needs_93 : decode cX9_needs 93 = .ok (.getfield 115, 3) := by decide +kernel
theorem dX9_needs_96 : decode cX9_needs 96 = .ok (.aload_n 0, 1) := by decide +kernel
theorem dX9_needs_97 : decode cX9_needs 97 = .ok (.getfield 53, 3) := by decide +kernel
theorem dX9_needs_100 : decode cX9_needs 100 = .ok (.iconst 4, 1) := by decide +kernel
theorem dX9_needs_101 : decode cX9_needs 101 = .ok (.iload_n 3, 1) := by decide +kernel
theorem dX9_needs_102 : decode cX9_needs 102 = .ok (.imul, 1) := by decide +kernel
theorem dX9_needs_103 : decode cX9_needs 103 = .ok (.iload 4, 2) := by decide +kernel
theorem dX9_needs_105 : decode cX9_needs 105 = .ok (.iadd, 1) := by decide +kernel
theorem dX9_needs_106 : decode cX9_needs 106 = .ok (.iaload, 1) := by decide +kernel
theorem dX9_needs_107 : decode cX9_needs 107 = .ok (.iconst 1, 1) := by decide +kernel
theorem dX9_needs_108 : decode cX9_needs 108 = .ok (.bastore, 1) := by decide +kernel
theorem dX9_needs_109 : decode cX9_needs 109 = .ok (.iinc 4 1, 3) := by decide +kernel
theorem dX9_needs_112 : decode cX9_needs 112 = .ok (.goto (-31), 3) := by decide +kernel
theorem dX9_needs_115 : decode cX9_needs 115 = .ok (.iinc 3 (-1), 3) := by decide +kernel
theorem dX9_needs_118 : decode cX9_needs 118 = .ok (.goto (-72), 3) := by decide +kernel
theorem dX9_needs_121 : decode cX9_needs 121 = .ok (.iload_n 2, 1) := by decide +kernel
theorem dX9_needs_122 : decode cX9_needs 122 = .ok (.ireturn, 1) := by decide +kernel
theorem dX9_count_0 : decode cX9_count 0 = .ok (.iconst 0, 1) := by decide +kernel
theorem dX9_count_1 : decode cX9_count 1 = .ok (.istore_n 2, 1) := by decide +kernel
theorem dX9_count_2 : decode cX9_count 2 = .ok (.iload_n 1, 1) := by decide +kernel
theorem dX9_count_3 : decode cX9_count 3 = .ok (.tableswitch 147 0 9 #[53, 58, 63, 68, 73, 78, 105, 132, 137, 142], 53) := by decide +kernel
theorem dX9_count_56 : decode cX9_count 56 = .ok (.aload_n 0, 1) := by decide +kernel
theorem dX9_count_57 : decode cX9_count 57 = .ok (.getfield 122, 3) := by decide +kernel
theorem dX9_count_60 : decode cX9_count 60 = .ok (.ireturn, 1) := by decide +kernel
theorem dX9_count_61 : decode cX9_count 61 = .ok (.aload_n 0, 1) := by decide +kernel
theorem dX9_count_62 : decode cX9_count 62 = .ok (.getfield 210, 3) := by decide +kernel
theorem dX9_count_65 : decode cX9_count 65 = .ok (.ireturn, 1) := by decide +kernel
theorem dX9_count_66 : decode cX9_count 66 = .ok (.aload_n 0, 1) := by decide +kernel
theorem dX9_count_67 : decode cX9_count 67 = .ok (.getfield 194, 3) := by decide +kernel
theorem dX9_count_70 : decode cX9_count 70 = .ok (.ireturn, 1) := by decide +kernel
theorem dX9_count_71 : decode cX9_count 71 = .ok (.aload_n 0, 1) := by decide +kernel
theorem dX9_count_72 : decode cX9_count 72 = .ok (.getfield 145, 3) := by decide +kernel
theorem dX9_count_75 : decode cX9_count 75 = .ok (.ireturn, 1) := by decide +kernel
theorem dX9_count_76 : decode cX9_count 76 = .ok (.aload_n 0, 1) := by decide +kernel
theorem dX9_count_77 : decode cX9_count 77 = .ok (.getfield 200, 3) := by decide +kernel
theorem dX9_count_80 : decode cX9_count 80 = .ok (.ireturn, 1) := by decide +kernel
theorem dX9_count_81 : decode cX9_count 81 = .ok (.iconst 0, 1) := by decide +kernel
theorem dX9_count_82 : decode cX9_count 82 = .ok (.istore_n 3, 1) := by decide +kernel
theorem dX9_count_83 : decode cX9_count 83 = .ok (.iload_n 3, 1) := by decide +kernel
theorem dX9_count_84 : decode cX9_count 84 = .ok (.aload_n 0, 1) := by decide +kernel
theorem dX9_count_85 : decode cX9_count 85 = .ok (.getfield 122, 3) := by decide +kernel
theorem dX9_count_88 : decode cX9_count 88 = .ok (.if_icmp .ge 18, 3) := by decide +kernel
theorem dX9_count_91 : decode cX9_count 91 = .ok (.iload_n 2, 1) := by decide +kernel
theorem dX9_count_92 : decode cX9_count 92 = .ok (.aload_n 0, 1) := by decide +kernel
theorem dX9_count_93 : decode cX9_count 93 = .ok (.getfield 40, 3) := by decide +kernel
theorem dX9_count_96 : decode cX9_count 96 = .ok (.iload_n 3, 1) := by decide +kernel
theorem dX9_count_97 : decode cX9_count 97 = .ok (.iaload, 1) := by decide +kernel
theorem dX9_count_98 : decode cX9_count 98 = .ok (.iadd, 1) := by decide +kernel
theorem dX9_count_99 : decode cX9_count 99 = .ok (.istore_n 2, 1) := by decide +kernel
theorem dX9_count_100 : decode cX9_count 100 = .ok (.iinc 3 1, 3) := by decide +kernel
theorem dX9_count_103 : decode cX9_count 103 = .ok (.goto (-20), 3) := by decide +kernel
theorem dX9_count_106 : decode cX9_count 106 = .ok (.iload_n 2, 1) := by decide +kernel
theorem dX9_count_107 : decode cX9_count 107 = .ok (.ireturn, 1) := by decide +kernel
theorem dX9_count_108 : decode cX9_count 108 = .ok (.iconst 0, 1) := by decide +kernel
theorem dX9_count_109 : decode cX9_count 109 = .ok (.istore_n 3, 1) := by decide +kernel
theorem dX9_count_110 : decode cX9_count 110 = .ok (.iload_n 3, 1) := by decide +kernel
theorem dX9_count_111 : decode cX9_count 111 = .ok (.aload_n 0, 1) := by decide +kernel
theorem dX9_count_112 : decode cX9_count 112 = .ok (.getfield 210, 3) := by decide +kernel
theorem dX9_count_115 : decode cX9_count 115 = .ok (.if_icmp .ge 18, 3) := by decide +kernel
theorem dX9_count_118 : decode cX9_count 118 = .ok (.iload_n 2, 1) := by decide +kernel
theorem dX9_count_119 : decode cX9_count 119 = .ok (.aload_n 0, 1) := by decide +kernel
theorem dX9_count_120 : decode cX9_count 120 = .ok (.getfield 100, 3) := by decide +kernel
theorem dX9_count_123 : decode cX9_count 123 = .ok (.iload_n 3, 1) := by decide +kernel
theorem dX9_count_124 : decode cX9_count 124 = .ok (.iaload, 1) := by decide +kernel
theorem dX9_count_125 : decode cX9_count 125 = .ok (.iadd, 1) := by decide +kernel
theorem dX9_count_126 : decode cX9_count 126 = .ok (.istore_n 2, 1) := by decide +kernel
theorem dX9_count_127 : decode cX9_count 127 = .ok (.iinc 3 1, 3) := by decide +kernel
theorem dX9_count_130 : decode cX9_count 130 = .ok (.goto (-20), 3) := by decide +kernel
theorem dX9_count_133 : decode cX9_count 133 = .ok (.iload_n 2, 1) := by decide +kernel
theorem dX9_count_134 : decode cX9_count 134 = .ok (.ireturn, 1) := by decide +kernel
theorem dX9_count_135 : decode cX9_count 135 = .ok (.aload_n 0, 1) := by decide +kernel
theorem dX9_count_136 : decode cX9_count 136 = .ok (.getfield 241, 3) := by decide +kernel
theorem dX9_count_139 : decode cX9_count 139 = .ok (.ireturn, 1) := by decide +kernel
theorem dX9_count_140 : decode cX9_count 140 = .ok (.aload_n 0, 1) := by decide +kernel
theorem dX9_count_141 : decode cX9_count 141 = .ok (.getfield 219, 3) := by decide +kernel
theorem dX9_count_144 : decode cX9_count 144 = .ok (.ireturn, 1) := by decide +kernel
theorem dX9_count_145 : decode cX9_count 145 = .ok (.aload_n 0, 1) := by decide +kernel
theorem dX9_count_146 : decode cX9_count 146 = .ok (.getfield 169, 3) := by decide +kernel
theorem dX9_count_149 : decode cX9_count 149 = .ok (.ireturn, 1) := by decide +kernel
theorem dX9_count_150 : decode cX9_count 150 = .ok (.iconst (-1), 1) := by decide +kernel
theorem dX9_count_151 : decode cX9_count 151 = .ok (.ireturn, 1) := by decide +kernel
end
section
theorem dJ11_isValidCodePoint_9a6ad_0 : decode cJ11_isValidCodePoint_9a6ad 0 = .ok (.iload_n 0, 1) := by decide +kernel
theorem dJ11_isValidCodePoint_9a6ad_1 : decode cJ11_isValidCodePoint_9a6ad 1 = .ok (.bipush 16, 2) := by decide +kernel
theorem dJ11_isValidCodePoint_9a6ad_3 : decode cJ11_isValidCodePoint_9a6ad 3 = .ok (.iushr, 1) := by decide +kernel
theorem dJ11_isValidCodePoint_9a6ad_4 : decode cJ11_isValidCodePoint_9a6ad 4 = .ok (.istore_n 1, 1) := by decide +kernel
theorem dJ11_isValidCodePoint_9a6ad_5 : decode cJ11_isValidCodePoint_9a6ad 5 = .ok (.iload_n 1, 1) := by decide +kernel
theorem dJ11_isValidCodePoint_9a6ad_6 : decode cJ11_isValidCodePoint_9a6ad 6 = .ok (.bipush 17, 2) := by decide +kernel
theorem dJ11_isValidCodePoint_9a6ad_8 : decode cJ11_isValidCodePoint_9a6ad 8 = .ok (.if_icmp .ge 7, 3) := by decide +kernel
theorem dJ11_isValidCodePoint_9a6ad_11 : decode cJ11_isValidCodePoint_9a6ad 11 = .ok (.iconst 1, 1) := by decide +kernel
theorem dJ11_isValidCodePoint_9a6ad_12 : decode cJ11_isValidCodePoint_9a6ad 12 = .ok (.goto 4, 3) := by decide +kernel
theorem dJ11_isValidCodePoint_9a6ad_15 : decode cJ11_isValidCodePoint_9a6ad 15 = .ok (.iconst 0, 1) := by decide +kernel
theorem dJ11_isValidCodePoint_9a6ad_16 : decode cJ11_isValidCodePoint_9a6ad 16 = .ok (.ireturn, 1) := by decide +kernel
theorem dJ11_highSurrogate_5068e_0 : decode cJ11_highSurrogate_5068e 0 = .ok (.iload_n 0, 1) := by decide +kernel
theorem dJ11_highSurrogate_5068e_1 : decode cJ11_highSurrogate_5068e 1 = .ok (.bipush 10, 2) := by decide +kernel
theorem dJ11_highSurrogate_5068e_3 : decode cJ11_highSurrogate_5068e 3 = .ok (.iushr, 1) := by decide +kernel
theorem dJ11_highSurrogate_5068e_4 : decode cJ11_highSurrogate_5068e 4 = .ok (.ldc 110, 2) := by decide +kernel
theorem dJ11_highSurrogate_5068e_6 : decode cJ11_highSurrogate_5068e 6 = .ok (.iadd, 1) := by decide +kernel
theorem dJ11_highSurrogate_5068e_7 : decode cJ11_highSurrogate_5068e 7 = .ok (.i2c, 1) := by decide +kernel
theorem dJ11_highSurrogate_5068e_8 : decode cJ11_highSurrogate_5068e 8 = .ok (.ireturn, 1) := by decide +kernel
theorem dJ11_lowSurrogate_5068e_0 : decode cJ11_lowSurrogate_5068e 0 = .ok (.iload_n 0, 1) := by decide +kernel
theorem dJ11_lowSurrogate_5068e_1 : decode cJ11_lowSurrogate_5068e 1 = .ok (.sipush 1023, 3) := by decide +kernel
theorem dJ11_lowSurrogate_5068e_4 : decode cJ11_lowSurrogate_5068e 4 = .ok (.iand, 1) := by decide +kernel
theorem dJ11_lowSurrogate_5068e_5 : decode cJ11_lowSurrogate_5068e 5 = .ok (.ldc 76, 2) := by decide +kernel
theorem dJ11_lowSurrogate_5068e_7 : decode cJ11_lowSurrogate_5068e 7 = .ok (.iadd, 1) := by decide +kernel
theorem dJ11_lowSurrogate_5068e_8 : decode cJ11_lowSurrogate_5068e 8 = .ok (.i2c, 1) := by decide +kernel
theorem dJ11_lowSurrogate_5068e_9 : decode cJ11_lowSurrogate_5068e 9 = .ok (.ireturn, 1) := by decide +kernel
theorem dJ9_abs_0f7a4_0 : decode cJ9_abs_0f7a4 0 = .ok (.iload_n 0, 1) := by decide +kernel
theorem dJ9_abs_0f7a4_1 : decode cJ9_abs_0f7a4 1 = .ok (.ifCond .ge 8, 3) := by decide +kernel
theorem dJ9_abs_0f7a4_4 : decode cJ9_abs_0f7a4 4 = .ok (.iload_n 0, 1) := by decide +kernel
theorem dJ9_abs_0f7a4_5 : decode cJ9_abs_0f7a4 5 = .ok (.ineg, 1) := by decide +kernel
theorem dJ9_abs_0f7a4_6 : decode cJ9_abs_0f7a4 6 = .ok (.goto 4, 3) := by decide +kernel
theorem dJ9_abs_0f7a4_9 : decode cJ9_abs_0f7a4 9 = .ok (.iload_n 0, 1) := by decide +kernel
theorem dJ9_abs_0f7a4_10 : decode cJ9_abs_0f7a4 10 = .ok (.ireturn, 1) := by decide +kernel
theorem dJ9_max_7cf53_0 : decode cJ9_max_7cf53 0 = .ok (.iload_n 0, 1) := by decide +kernel
theorem dJ9_max_7cf53_1 : decode cJ9_max_7cf53 1 = .ok (.iload_n 1, 1) := by decide +kernel
theorem dJ9_max_7cf53_2 : decode cJ9_max_7cf53 2 = .ok (.if_icmp .lt 7, 3) := by decide +kernel
theorem dJ9_max_7cf53_5 : decode cJ9_max_7cf53 5 = .ok (.iload_n 0, 1) := by decide +kernel
theorem dJ9_max_7cf53_6 : decode cJ9_max_7cf53 6 = .ok (.goto 4, 3) := by decide +kernel
theorem dJ9_max_7cf53_9 : decode cJ9_max_7cf53 9 = .ok (.iload_n 1, 1) := by decide +kernel
theorem dJ9_max_7cf53_10 : decode cJ9_max_7cf53 10 = .ok (.ireturn, 1) := by decide +kernel
theorem dJ9_min_7cf53_0 : decode cJ9_min_7cf53 0 = .ok (.iload_n 0, 1) := by decide +kernel
theorem dJ9_min_7cf53_1 : decode cJ9_min_7cf53 1 = .ok (.iload_n 1, 1) := by decide +kernel
theorem dJ9_min_7cf53_2 : decode cJ9_min_7cf53 2 = .ok (.if_icmp .gt 7, 3) := by decide +kernel
theorem dJ9_min_7cf53_5 : decode cJ9_min_7cf53 5 = .ok (.iload_n 0, 1) := by decide +kernel
theorem dJ9_min_7cf53_6 : decode cJ9_min_7cf53 6 = .ok (.goto 4, 3) := by decide +kernel
theorem dJ9_min_7cf53_9 : decode cJ9_min_7cf53 9 = .ok (.iload_n 1, 1) := by decide +kernel
theorem dJ9_min_7cf53_10 : decode cJ9_min_7cf53 10 = .ok (.ireturn, 1) := by decide +kernel
theorem dJ0_length_8abf5_0 : decode cJ0_length_8abf5 0 = .ok (.aload_n 0, 1) := by decide +kernel
theorem dJ0_length_8abf5_1 : decode cJ0_length_8abf5 1 = .ok (.getfield 9, 3) := by decide +kernel
theorem dJ0_length_8abf5_4 : decode cJ0_length_8abf5 4 = .ok (.arraylength, 1) := by decide +kernel
theorem dJ0_length_8abf5_5 : decode cJ0_length_8abf5 5 = .ok (.aload_n 0, 1) := by decide +kernel
theorem dJ0_length_8abf5_6 : decode cJ0_length_8abf5 6 = .ok (.invokevirtual 335, 3) := by decide +kernel
theorem dJ0_length_8abf5_9 : decode cJ0_length_8abf5 9 = .ok (.ishr, 1) := by decide +kernel
theorem dJ0_length_8abf5_10 : decode cJ0_length_8abf5 10 = .ok (.ireturn, 1) := by decide +kernel
theorem dJ0_indexOf_0f7a4_0 : decode cJ0_indexOf_0f7a4 0 = .ok (.aload_n 0, 1) := by decide +kernel
theorem dJ0_indexOf_0f7a4_1 : decode cJ0_indexOf_0f7a4 1 = .ok (.iload_n 1, 1) := by decide +kernel
theorem dJ0_indexOf_0f7a4_2 : decode cJ0_indexOf_0f7a4 2 = .ok (.iconst 0, 1) := by decide +kernel
theorem dJ0_indexOf_0f7a4_3 : decode cJ0_indexOf_0f7a4 3 = .ok (.invokevirtual 633, 3) := by decide +kernel
theorem dJ0_indexOf_0f7a4_6 : decode cJ0_indexOf_0f7a4 6 = .ok (.ireturn, 1) := by decide +kernel
theorem dJ0_indexOf_7cf53_0 : decode cJ0_indexOf_7cf53 0 = .ok (.aload_n 0, 1) := by decide +kernel
theorem dJ0_indexOf_7cf53_1 : decode cJ0_indexOf_7cf53 1 = .ok (.invokevirtual 492, 3) := by decide +kernel
theorem dJ0_indexOf_7cf53_4 : decode cJ0_indexOf_7cf53 4 = .ok (.ifCond .eq 19, 3) := by decide +kernel
theorem dJ0_indexOf_7cf53_7 : decode cJ0_indexOf_7cf53 7 = .ok (.aload_n 0, 1) := by decide +kernel
theorem dJ0_indexOf_7cf53_8 : decode cJ0_indexOf_7cf53 8 = .ok (.getfield 9, 3) := by decide +kernel
theorem dJ0_indexOf_7cf53_11 : decode cJ0_indexOf_7cf53 11 = .ok (.iload_n 1, 1) := by decide +kernel
theorem dJ0_indexOf_7cf53_12 : decode cJ0_indexOf_7cf53 12 = .ok (.iload_n 2, 1) := by decide +kernel
theorem dJ0_indexOf_7cf53_13 : decode cJ0_indexOf_7cf53 13 = .ok (.aload_n 0, 1) := by decide +kernel
theorem dJ0_indexOf_7cf53_14 : decode cJ0_indexOf_7cf53 14 = .ok (.invokevirtual 505, 3) := by decide +kernel
theorem dJ0_indexOf_7cf53_17 : decode cJ0_indexOf_7cf53 17 = .ok (.invokestatic 637, 3) := by decide +kernel
theorem dJ0_indexOf_7cf53_20 : decode cJ0_indexOf_7cf53 20 = .ok (.goto 16, 3) := by decide +kernel
theorem dJ0_indexOf_7cf53_23 : decode cJ0_indexOf_7cf53 23 = .ok (.aload_n 0, 1) := by decide +kernel
theorem dJ0_indexOf_7cf53_24 : decode cJ0_indexOf_7cf53 24 = .ok (.getfield 9, 3) := by decide +kernel
theorem dJ0_indexOf_7cf53_27 : decode cJ0_indexOf_7cf53 27 = .ok (.iload_n 1, 1) := by decide +kernel
theorem dJ0_indexOf_7cf53_28 : decode cJ0_indexOf_7cf53 28 = .ok (.iload_n 2, 1) := by decide +kernel
theorem dJ0_indexOf_7cf53_29 : decode cJ0_indexOf_7cf53 29 = .ok (.aload_n 0, 1) := by decide +kernel
theorem dJ0_indexOf_7cf53_30 : decode cJ0_indexOf_7cf53 30 = .ok (.invokevirtual 505, 3) := by decide +kernel
theorem dJ0_indexOf_7cf53_33 : decode cJ0_indexOf_7cf53 33 = .ok (.invokestatic 640, 3) := by decide +kernel
theorem dJ0_indexOf_7cf53_36 : decode cJ0_indexOf_7cf53 36 = .ok (.ireturn, 1) := by decide +kernel
theorem dJ0_coder_7d493_0 : decode cJ0_coder_7d493 0 = .ok (.getstatic 38, 3) := by decide +kernel
theorem dJ0_coder_7d493_3 : decode cJ0_coder_7d493 3 = .ok (.ifCond .eq 10, 3) := by decide +kernel
theorem dJ0_coder_7d493_6 : decode cJ0_coder_7d493 6 = .ok (.aload_n 0, 1) := by decide +kernel
theorem dJ0_coder_7d493_7 : decode cJ0_coder_7d493 7 = .ok (.getfield 15, 3) := by decide +kernel
theorem dJ0_coder_7d493_10 : decode cJ0_coder_7d493 10 = .ok (.goto 4, 3) := by decide +kernel
theorem dJ0_coder_7d493_13 : decode cJ0_coder_7d493 13 = .ok (.iconst 1, 1) := by decide +kernel
theorem dJ0_coder_7d493_14 : decode cJ0_coder_7d493 14 = .ok (.ireturn, 1) := by decide +kernel
theorem dJ0_isLatin1_aae02_0 : decode cJ0_isLatin1_aae02 0 = .ok (.getstatic 38, 3) := by decide +kernel
theorem dJ0_isLatin1_aae02_3 : decode cJ0_isLatin1_aae02 3 = .ok (.ifCond .eq 14, 3) := by decide +kernel
theorem dJ0_isLatin1_aae02_6 : decode cJ0_isLatin1_aae02 6 = .ok (.aload_n 0, 1) := by decide +kernel
theorem dJ0_isLatin1_aae02_7 : decode cJ0_isLatin1_aae02 7 = .ok (.getfield 15, 3) := by decide +kernel
theorem dJ0_isLatin1_aae02_10 : decode cJ0_isLatin1_aae02 10 = .ok (.ifCond .ne 7, 3) := by decide +kernel
theorem dJ0_isLatin1_aae02_13 : decode cJ0_isLatin1_aae02 13 = .ok (.iconst 1, 1) := by decide +kernel
theorem dJ0_isLatin1_aae02_14 : decode cJ0_isLatin1_aae02 14 = .ok (.goto 4, 3) := by decide +kernel
theorem dJ0_isLatin1_aae02_17 : decode cJ0_isLatin1_aae02 17 = .ok (.iconst 0, 1) := by decide +kernel
theorem dJ0_isLatin1_aae02_18 : decode cJ0_isLatin1_aae02 18 = .ok (.ireturn, 1) := by decide +kernel
theorem dJ0_checkBoundsBeginEnd_23922_0 : decode cJ0_checkBoundsBeginEnd_23922 0 = .ok (.iload_n 0, 1) := by decide +kernel
theorem dJ0_checkBoundsBeginEnd_23922_1 : decode cJ0_checkBoundsBeginEnd_23922 1 = .ok (.iload_n 1, 1) := by decide +kernel
theorem dJ0_checkBoundsBeginEnd_23922_2 : decode cJ0_checkBoundsBeginEnd_23922 2 = .ok (.iload_n 2, 1) := by decide +kernel
theorem dJ0_checkBoundsBeginEnd_23922_3 : decode cJ0_checkBoundsBeginEnd_23922 3 = .ok (.getstatic 1053, 3) := by decide +kernel
theorem dJ0_checkBoundsBeginEnd_23922_6 : decode cJ0_checkBoundsBeginEnd_23922 6 = .ok (.invokestatic 1062, 3) := by decide +kernel
theorem dJ0_checkBoundsBeginEnd_23922_9 : decode cJ0_checkBoundsBeginEnd_23922 9 = .ok (.pop, 1) := by decide +kernel
theorem dJ0_checkBoundsBeginEnd_23922_10 : decode cJ0_checkBoundsBeginEnd_23922 10 = .ok (.return_, 1) := by decide +kernel
theorem dJ1_canEncode_9a6ad_0 : decode cJ1_canEncode_9a6ad 0 = .ok (.iload_n 0, 1) := by decide +kernel
theorem dJ1_canEncode_9a6ad_1 : decode cJ1_canEncode_9a6ad 1 = .ok (.ifCond .lt 14, 3) := by decide +kernel
theorem dJ1_canEncode_9a6ad_4 : decode cJ1_canEncode_9a6ad 4 = .ok (.iload_n 0, 1) := by decide +kernel
theorem dJ1_canEncode_9a6ad_5 : decode cJ1_canEncode_9a6ad 5 = .ok (.sipush 255, 3) := by decide +kernel
theorem dJ1_canEncode_9a6ad_8 : decode cJ1_canEncode_9a6ad 8 = .ok (.if_icmp .gt 7, 3) := by decide +kernel
theorem dJ1_canEncode_9a6ad_11 : decode cJ1_canEncode_9a6ad 11 = .ok (.iconst 1, 1) := by decide +kernel
theorem dJ1_canEncode_9a6ad_12 : decode cJ1_canEncode_9a6ad 12 = .ok (.goto 4, 3) := by decide +kernel
theorem dJ1_canEncode_9a6ad_15 : decode cJ1_canEncode_9a6ad 15 = .ok (.iconst 0, 1) := by decide +kernel
theorem dJ1_canEncode_9a6ad_16 : decode cJ1_canEncode_9a6ad 16 = .ok (.ireturn, 1) := by decide +kernel
theorem dJ1_indexOf_4cfef_0 : decode cJ1_indexOf_4cfef 0 = .ok (.iload_n 1, 1) := by decide +kernel
theorem dJ1_indexOf_4cfef_1 : decode cJ1_indexOf_4cfef 1 = .ok (.invokestatic 88, 3) := by decide +kernel
theorem dJ1_indexOf_4cfef_4 : decode cJ1_indexOf_4cfef 4 = .ok (.ifCond .ne 5, 3) := by decide +kernel
theorem dJ1_indexOf_4cfef_7 : decode cJ1_indexOf_4cfef 7 = .ok (.iconst (-1), 1) := by decide +kernel
theorem dJ1_indexOf_4cfef_8 : decode cJ1_indexOf_4cfef 8 = .ok (.ireturn, 1) := by decide +kernel
theorem dJ1_indexOf_4cfef_9 : decode cJ1_indexOf_4cfef 9 = .ok (.iload_n 2, 1) := by decide +kernel
theorem dJ1_indexOf_4cfef_10 : decode cJ1_indexOf_4cfef 10 = .ok (.iconst 0, 1) := by decide +kernel
theorem dJ1_indexOf_4cfef_11 : decode cJ1_indexOf_4cfef 11 = .ok (.invokestatic 92, 3) := by decide +kernel
theorem dJ1_indexOf_4cfef_14 : decode cJ1_indexOf_4cfef 14 = .ok (.istore_n 2, 1) := by decide +kernel
theorem dJ1_indexOf_4cfef_15 : decode cJ1_indexOf_4cfef 15 = .ok (.iload_n 3, 1) := by decide +kernel
theorem dJ1_indexOf_4cfef_16 : decode cJ1_indexOf_4cfef 16 = .ok (.aload_n 0, 1) := by decide +kernel
theorem dJ1_indexOf_4cfef_17 : decode cJ1_indexOf_4cfef 17 = .ok (.arraylength, 1) := by decide +kernel
theorem dJ1_indexOf_4cfef_18 : decode cJ1_indexOf_4cfef 18 = .ok (.invokestatic 38, 3) := by decide +kernel
theorem dJ1_indexOf_4cfef_21 : decode cJ1_indexOf_4cfef 21 = .ok (.istore_n 3, 1) := by decide +kernel
theorem dJ1_indexOf_4cfef_22 : decode cJ1_indexOf_4cfef 22 = .ok (.iload_n 2, 1) := by decide +kernel
theorem dJ1_indexOf_4cfef_23 : decode cJ1_indexOf_4cfef 23 = .ok (.iload_n 3, 1) := by decide +kernel
theorem dJ1_indexOf_4cfef_24 : decode cJ1_indexOf_4cfef 24 = .ok (.if_icmp .lt 5, 3) := by decide +kernel
theorem dJ1_indexOf_4cfef_27 : decode cJ1_indexOf_4cfef 27 = .ok (.iconst (-1), 1) := by decide +kernel
theorem dJ1_indexOf_4cfef_28 : decode cJ1_indexOf_4cfef 28 = .ok (.ireturn, 1) := by decide +kernel
theorem dJ1_indexOf_4cfef_29 : decode cJ1_indexOf_4cfef 29 = .ok (.aload_n 0, 1) := by decide +kernel
theorem dJ1_indexOf_4cfef_30 : decode cJ1_indexOf_4cfef 30 = .ok (.iload_n 1, 1) := by decide +kernel
theorem dJ1_indexOf_4cfef_31 : decode cJ1_indexOf_4cfef 31 = .ok (.iload_n 2, 1) := by decide +kernel
theorem dJ1_indexOf_4cfef_32 : decode cJ1_indexOf_4cfef 32 = .ok (.iload_n 3, 1) := by decide +kernel
theorem dJ1_indexOf_4cfef_33 : decode cJ1_indexOf_4cfef 33 = .ok (.invokestatic 95, 3) := by decide +kernel
theorem dJ1_indexOf_4cfef_36 : decode cJ1_indexOf_4cfef 36 = .ok (.ireturn, 1) := by decide +kernel
theorem dJ1_indexOfChar_4cfef_0 : decode cJ1_indexOfChar_4cfef 0 = .ok (.iload_n 1, 1) := by decide +kernel
theorem dJ1_indexOfChar_4cfef_1 : decode cJ1_indexOfChar_4cfef 1 = .ok (.i2b, 1) := by decide +kernel
theorem dJ1_indexOfChar_4cfef_2 : decode cJ1_indexOfChar_4cfef 2 = .ok (.istore 4, 2) := by decide +kernel
theorem dJ1_indexOfChar_4cfef_4 : decode cJ1_indexOfChar_4cfef 4 = .ok (.iload_n 2, 1) := by decide +kernel
theorem dJ1_indexOfChar_4cfef_5 : decode cJ1_indexOfChar_4cfef 5 = .ok (.istore 5, 2) := by decide +kernel
theorem dJ1_indexOfChar_4cfef_7 : decode cJ1_indexOfChar_4cfef 7 = .ok (.iload 5, 2) := by decide +kernel
theorem dJ1_indexOfChar_4cfef_9 : decode cJ1_indexOfChar_4cfef 9 = .ok (.iload_n 3, 1) := by decide +kernel
theorem dJ1_indexOfChar_4cfef_10 : decode cJ1_indexOfChar_4cfef 10 = .ok (.if_icmp .ge 21, 3) := by decide +kernel
theorem dJ1_indexOfChar_4cfef_13 : decode cJ1_indexOfChar_4cfef 13 = .ok (.aload_n 0, 1) := by decide +kernel
theorem dJ1_indexOfChar_4cfef_14 : decode cJ1_indexOfChar_4cfef 14 = .ok (.iload 5, 2) := by decide +kernel
theorem dJ1_indexOfChar_4cfef_16 : decode cJ1_indexOfChar_4cfef 16 = .ok (.baload, 1) := by decide +kernel
theorem dJ1_indexOfChar_4cfef_17 : decode cJ1_indexOfChar_4cfef 17 = .ok (.iload 4, 2) := by decide +kernel
theorem dJ1_indexOfChar_4cfef_19 : decode cJ1_indexOfChar_4cfef 19 = .ok (.if_icmp .ne 6, 3) := by decide +kernel
theorem dJ1_indexOfChar_4cfef_22 : decode cJ1_indexOfChar_4cfef 22 = .ok (.iload 5, 2) := by decide +kernel
theorem dJ1_indexOfChar_4cfef_24 : decode cJ1_indexOfChar_4cfef 24 = .ok (.ireturn, 1) := by decide +kernel
theorem dJ1_indexOfChar_4cfef_25 : decode cJ1_indexOfChar_4cfef 25 = .ok (.iinc 5 1, 3) := by decide +kernel
theorem dJ1_indexOfChar_4cfef_28 : decode cJ1_indexOfChar_4cfef 28 = .ok (.goto (-21), 3) := by decide +kernel
theorem dJ1_indexOfChar_4cfef_31 : decode cJ1_indexOfChar_4cfef 31 = .ok (.iconst (-1), 1) := by decide +kernel
theorem dJ1_indexOfChar_4cfef_32 : decode cJ1_indexOfChar_4cfef 32 = .ok (.ireturn, 1) := by decide +kernel
theorem dJ2_getChar_3b067_0 : decode cJ2_getChar_3b067 0 = .ok (.getstatic 44, 3) := by decide +kernel
theorem dJ2_getChar_3b067_3 : decode cJ2_getChar_3b067 3 = .ok (.ifCond .ne 25, 3) := by decide +kernel
theorem dJ2_getChar_3b067_6 : decode cJ2_getChar_3b067 6 = .ok (.iload_n 1, 1) := by decide +kernel
theorem dJ2_getChar_3b067_7 : decode cJ2_getChar_3b067 7 = .ok (.ifCond .lt 11, 3) := by decide +kernel
theorem dJ2_getChar_3b067_10 : decode cJ2_getChar_3b067 10 = .ok (.iload_n 1, 1) := by decide +kernel
theorem dJ2_getChar_3b067_11 : decode cJ2_getChar_3b067 11 = .ok (.aload_n 0, 1) := by decide +kernel
theorem dJ2_getChar_3b067_12 : decode cJ2_getChar_3b067 12 = .ok (.invokestatic 48, 3) := by decide +kernel
theorem dJ2_getChar_3b067_15 : decode cJ2_getChar_3b067 15 = .ok (.if_icmp .lt 13, 3) := by decide +kernel
theorem dJ2_getChar_3b067_18 : decode cJ2_getChar_3b067 18 = .ok (.new 52, 3) := by decide +kernel
theorem dJ2_getChar_3b067_21 : decode cJ2_getChar_3b067 21 = .ok (.dup, 1) := by decide +kernel
theorem dJ2_getChar_3b067_22 : decode cJ2_getChar_3b067 22 = .ok (.ldc 54, 2) := by decide +kernel
theorem dJ2_getChar_3b067_24 : decode cJ2_getChar_3b067 24 = .ok (.invokespecial 56, 3) := by decide +kernel
theorem dJ2_getChar_3b067_27 : decode cJ2_getChar_3b067 27 = .ok (.athrow, 1) := by decide +kernel
theorem dJ2_getChar_3b067_28 : decode cJ2_getChar_3b067 28 = .ok (.iload_n 1, 1) := by decide +kernel
theorem dJ2_getChar_3b067_29 : decode cJ2_getChar_3b067 29 = .ok (.iconst 1, 1) := by decide +kernel
theorem dJ2_getChar_3b067_30 : decode cJ2_getChar_3b067 30 = .ok (.ishl, 1) := by decide +kernel
theorem dJ2_getChar_3b067_31 : decode cJ2_getChar_3b067 31 = .ok (.istore_n 1, 1) := by decide +kernel
theorem dJ2_getChar_3b067_32 : decode cJ2_getChar_3b067 32 = .ok (.aload_n 0, 1) := by decide +kernel
theorem dJ2_getChar_3b067_33 : decode cJ2_getChar_3b067 33 = .ok (.iload_n 1, 1) := by decide +kernel
theorem dJ2_getChar_3b067_34 : decode cJ2_getChar_3b067 34 = .ok (.iinc 1 1, 3) := by decide +kernel
theorem dJ2_getChar_3b067_37 : decode cJ2_getChar_3b067 37 = .ok (.baload, 1) := by decide +kernel
theorem dJ2_getChar_3b067_38 : decode cJ2_getChar_3b067 38 = .ok (.sipush 255, 3) := by decide +kernel
theorem dJ2_getChar_3b067_41 : decode cJ2_getChar_3b067 41 = .ok (.iand, 1) := by decide +kernel
theorem dJ2_getChar_3b067_42 : decode cJ2_getChar_3b067 42 = .ok (.getstatic 59, 3) := by decide +kernel
theorem dJ2_getChar_3b067_45 : decode cJ2_getChar_3b067 45 = .ok (.ishl, 1) := by decide +kernel
theorem dJ2_getChar_3b067_46 : decode cJ2_getChar_3b067 46 = .ok (.aload_n 0, 1) := by decide +kernel
theorem dJ2_getChar_3b067_47 : decode cJ2_getChar_3b067 47 = .ok (.iload_n 1, 1) := by decide +kernel
theorem dJ2_getChar_3b067_48 : decode cJ2_getChar_3b067 48 = .ok (.baload, 1) := by decide +kernel
theorem dJ2_getChar_3b067_49 : decode cJ2_getChar_3b067 49 = .ok (.sipush 255, 3) := by decide +kernel
theorem dJ2_getChar_3b067_52 : decode cJ2_getChar_3b067 52 = .ok (.iand, 1) := by decide +kernel
theorem dJ2_getChar_3b067_53 : decode cJ2_getChar_3b067 53 = .ok (.getstatic 63, 3) := by decide +kernel
theorem dJ2_getChar_3b067_56 : decode cJ2_getChar_3b067 56 = .ok (.ishl, 1) := by decide +kernel
theorem dJ2_getChar_3b067_57 : decode cJ2_getChar_3b067 57 = .ok (.ior, 1) := by decide +kernel
theorem dJ2_getChar_3b067_58 : decode cJ2_getChar_3b067 58 = .ok (.i2c, 1) := by decide +kernel
theorem dJ2_getChar_3b067_59 : decode cJ2_getChar_3b067 59 = .ok (.ireturn, 1) := by decide +kernel
theorem dJ2_length_9d52b_0 : decode cJ2_length_9d52b 0 = .ok (.aload_n 0, 1) := by decide +kernel
theorem dJ2_length_9d52b_1 : decode cJ2_length_9d52b 1 = .ok (.arraylength, 1) := by decide +kernel
theorem dJ2_length_9d52b_2 : decode cJ2_length_9d52b 2 = .ok (.iconst 1, 1) := by decide +kernel
theorem dJ2_length_9d52b_3 : decode cJ2_length_9d52b 3 = .ok (.ishr, 1) := by decide +kernel
theorem dJ2_length_9d52b_4 : decode cJ2_length_9d52b 4 = .ok (.ireturn, 1) := by decide +kernel
theorem dJ2_indexOf_4cfef_0 : decode cJ2_indexOf_4cfef 0 = .ok (.iload_n 2, 1) := by decide +kernel
theorem dJ2_indexOf_4cfef_1 : decode cJ2_indexOf_4cfef 1 = .ok (.iconst 0, 1) := by decide +kernel
theorem dJ2_indexOf_4cfef_2 : decode cJ2_indexOf_4cfef 2 = .ok (.invokestatic 224, 3) := by decide +kernel
theorem dJ2_indexOf_4cfef_5 : decode cJ2_indexOf_4cfef 5 = .ok (.istore_n 2, 1) := by decide +kernel
theorem dJ2_indexOf_4cfef_6 : decode cJ2_indexOf_4cfef 6 = .ok (.iload_n 3, 1) := by decide +kernel
theorem dJ2_indexOf_4cfef_7 : decode cJ2_indexOf_4cfef 7 = .ok (.aload_n 0, 1) := by decide +kernel
theorem dJ2_indexOf_4cfef_8 : decode cJ2_indexOf_4cfef 8 = .ok (.arraylength, 1) := by decide +kernel
theorem dJ2_indexOf_4cfef_9 : decode cJ2_indexOf_4cfef 9 = .ok (.iconst 1, 1) := by decide +kernel
theorem dJ2_indexOf_4cfef_10 : decode cJ2_indexOf_4cfef 10 = .ok (.ishr, 1) := by decide +kernel
theorem dJ2_indexOf_4cfef_11 : decode cJ2_indexOf_4cfef 11 = .ok (.invokestatic 183, 3) := by decide +kernel
theorem dJ2_indexOf_4cfef_14 : decode cJ2_indexOf_4cfef 14 = .ok (.istore_n 3, 1) := by decide +kernel
theorem dJ2_indexOf_4cfef_15 : decode cJ2_indexOf_4cfef 15 = .ok (.iload_n 2, 1) := by decide +kernel
theorem dJ2_indexOf_4cfef_16 : decode cJ2_indexOf_4cfef 16 = .ok (.iload_n 3, 1) := by decide +kernel
theorem dJ2_indexOf_4cfef_17 : decode cJ2_indexOf_4cfef 17 = .ok (.if_icmp .lt 5, 3) := by decide +kernel
theorem dJ2_indexOf_4cfef_20 : decode cJ2_indexOf_4cfef 20 = .ok (.iconst (-1), 1) := by decide +kernel
theorem dJ2_indexOf_4cfef_21 : decode cJ2_indexOf_4cfef 21 = .ok (.ireturn, 1) := by decide +kernel
theorem dJ2_indexOf_4cfef_22 : decode cJ2_indexOf_4cfef 22 = .ok (.iload_n 1, 1) := by decide +kernel
theorem dJ2_indexOf_4cfef_23 : decode cJ2_indexOf_4cfef 23 = .ok (.ldc 227, 2) := by decide +kernel
theorem dJ2_indexOf_4cfef_25 : decode cJ2_indexOf_4cfef 25 = .ok (.if_icmp .ge 11, 3) := by decide +kernel
theorem dJ2_indexOf_4cfef_28 : decode cJ2_indexOf_4cfef 28 = .ok (.aload_n 0, 1) := by decide +kernel
theorem dJ2_indexOf_4cfef_29 : decode cJ2_indexOf_4cfef 29 = .ok (.iload_n 1, 1) := by decide +kernel
theorem dJ2_indexOf_4cfef_30 : decode cJ2_indexOf_4cfef 30 = .ok (.iload_n 2, 1) := by decide +kernel
theorem dJ2_indexOf_4cfef_31 : decode cJ2_indexOf_4cfef 31 = .ok (.iload_n 3, 1) := by decide +kernel
theorem dJ2_indexOf_4cfef_32 : decode cJ2_indexOf_4cfef 32 = .ok (.invokestatic 228, 3) := by decide +kernel
theorem dJ2_indexOf_4cfef_35 : decode cJ2_indexOf_4cfef 35 = .ok (.ireturn, 1) := by decide +kernel
theorem dJ2_indexOf_4cfef_36 : decode cJ2_indexOf_4cfef 36 = .ok (.aload_n 0, 1) := by decide +kernel
theorem dJ2_indexOf_4cfef_37 : decode cJ2_indexOf_4cfef 37 = .ok (.iload_n 1, 1) := by decide +kernel
theorem dJ2_indexOf_4cfef_38 : decode cJ2_indexOf_4cfef 38 = .ok (.iload_n 2, 1) := by decide +kernel
theorem dJ2_indexOf_4cfef_39 : decode cJ2_indexOf_4cfef 39 = .ok (.iload_n 3, 1) := by decide +kernel
theorem dJ2_indexOf_4cfef_40 : decode cJ2_indexOf_4cfef 40 = .ok (.invokestatic 232, 3) := by decide +kernel
theorem dJ2_indexOf_4cfef_43 : decode cJ2_indexOf_4cfef 43 = .ok (.ireturn, 1) := by decide +kernel
theorem dJ2_indexOfChar_4cfef_0 : decode cJ2_indexOfChar_4cfef 0 = .ok (.iload_n 2, 1) := by decide +kernel
theorem dJ2_indexOfChar_4cfef_1 : decode cJ2_indexOfChar_4cfef 1 = .ok (.iload_n 3, 1) := by decide +kernel
theorem dJ2_indexOfChar_4cfef_2 : decode cJ2_indexOfChar_4cfef 2 = .ok (.aload_n 0, 1) := by decide +kernel
theorem dJ2_indexOfChar_4cfef_3 : decode cJ2_indexOfChar_4cfef 3 = .ok (.invokestatic 96, 3) := by decide +kernel
theorem dJ2_indexOfChar_4cfef_6 : decode cJ2_indexOfChar_4cfef 6 = .ok (.aload_n 0, 1) := by decide +kernel
theorem dJ2_indexOfChar_4cfef_7 : decode cJ2_indexOfChar_4cfef 7 = .ok (.iload_n 1, 1) := by decide +kernel
theorem dJ2_indexOfChar_4cfef_8 : decode cJ2_indexOfChar_4cfef 8 = .ok (.iload_n 2, 1) := by decide +kernel
theorem dJ2_indexOfChar_4cfef_9 : decode cJ2_indexOfChar_4cfef 9 = .ok (.iload_n 3, 1) := by decide +kernel
theorem dJ2_indexOfChar_4cfef_10 : decode cJ2_indexOfChar_4cfef 10 = .ok (.invokestatic 244, 3) := by decide +kernel
theorem dJ2_indexOfChar_4cfef_13 : decode cJ2_indexOfChar_4cfef 13 = .ok (.ireturn, 1) := by decide +kernel
theorem dJ2_indexOfCharUnsafe_4cfef_0 : decode cJ2_indexOfCharUnsafe_4cfef 0 = .ok (.iload_n 2, 1) := by decide +kernel
theorem dJ2_indexOfCharUnsafe_4cfef_1 : decode cJ2_indexOfCharUnsafe_4cfef 1 = .ok (.istore 4, 2) := by decide +kernel
theorem dJ2_indexOfCharUnsafe_4cfef_3 : decode cJ2_indexOfCharUnsafe_4cfef 3 = .ok (.iload 4, 2) := by decide +kernel
theorem dJ2_indexOfCharUnsafe_4cfef_5 : decode cJ2_indexOfCharUnsafe_4cfef 5 = .ok (.iload_n 3, 1) := by decide +kernel
theorem dJ2_indexOfCharUnsafe_4cfef_6 : decode cJ2_indexOfCharUnsafe_4cfef 6 = .ok (.if_icmp .ge 22, 3) := by decide +kernel
theorem dJ2_indexOfCharUnsafe_4cfef_9 : decode cJ2_indexOfCharUnsafe_4cfef 9 = .ok (.aload_n 0, 1) := by decide +kernel
theorem dJ2_indexOfCharUnsafe_4cfef_10 : decode cJ2_indexOfCharUnsafe_4cfef 10 = .ok (.iload 4, 2) := by decide +kernel
theorem dJ2_indexOfCharUnsafe_4cfef_12 : decode cJ2_indexOfCharUnsafe_4cfef 12 = .ok (.invokestatic 71, 3) := by decide +kernel
theorem dJ2_indexOfCharUnsafe_4cfef_15 : decode cJ2_indexOfCharUnsafe_4cfef 15 = .ok (.iload_n 1, 1) := by decide +kernel
theorem dJ2_indexOfCharUnsafe_4cfef_16 : decode cJ2_indexOfCharUnsafe_4cfef 16 = .ok (.if_icmp .ne 6, 3) := by decide +kernel
theorem dJ2_indexOfCharUnsafe_4cfef_19 : decode cJ2_indexOfCharUnsafe_4cfef 19 = .ok (.iload 4, 2) := by decide +kernel
theorem dJ2_indexOfCharUnsafe_4cfef_21 : decode cJ2_indexOfCharUnsafe_4cfef 21 = .ok (.ireturn, 1) := by decide +kernel
theorem dJ2_indexOfCharUnsafe_4cfef_22 : decode cJ2_indexOfCharUnsafe_4cfef 22 = .ok (.iinc 4 1, 3) := by decide +kernel
theorem dJ2_indexOfCharUnsafe_4cfef_25 : decode cJ2_indexOfCharUnsafe_4cfef 25 = .ok (.goto (-22), 3) := by decide +kernel
theorem dJ2_indexOfCharUnsafe_4cfef_28 : decode cJ2_indexOfCharUnsafe_4cfef 28 = .ok (.iconst (-1), 1) := by decide +kernel
theorem dJ2_indexOfCharUnsafe_4cfef_29 : decode cJ2_indexOfCharUnsafe_4cfef 29 = .ok (.ireturn, 1) := by decide +kernel
theorem dJ2_indexOfSupplementary_4cfef_0 : decode cJ2_indexOfSupplementary_4cfef 0 = .ok (.iload_n 1, 1) := by decide +kernel
theorem dJ2_indexOfSupplementary_4cfef_1 : decode cJ2_indexOfSupplementary_4cfef 1 = .ok (.invokestatic 164, 3) := by decide +kernel
theorem dJ2_indexOfSupplementary_4cfef_4 : decode cJ2_indexOfSupplementary_4cfef 4 = .ok (.ifCond .eq 65, 3) := by decide +kernel
theorem dJ2_indexOfSupplementary_4cfef_7 : decode cJ2_indexOfSupplementary_4cfef 7 = .ok (.iload_n 1, 1) := by decide +kernel
theorem dJ2_indexOfSupplementary_4cfef_8 : decode cJ2_indexOfSupplementary_4cfef 8 = .ok (.invokestatic 157, 3) := by decide +kernel
theorem dJ2_indexOfSupplementary_4cfef_11 : decode cJ2_indexOfSupplementary_4cfef 11 = .ok (.istore 4, 2) := by decide +kernel
theorem dJ2_indexOfSupplementary_4cfef_13 : decode cJ2_indexOfSupplementary_4cfef 13 = .ok (.iload_n 1, 1) := by decide +kernel
theorem dJ2_indexOfSupplementary_4cfef_14 : decode cJ2_indexOfSupplementary_4cfef 14 = .ok (.invokestatic 161, 3) := by decide +kernel
theorem dJ2_indexOfSupplementary_4cfef_17 : decode cJ2_indexOfSupplementary_4cfef 17 = .ok (.istore 5, 2) := by decide +kernel
theorem dJ2_indexOfSupplementary_4cfef_19 : decode cJ2_indexOfSupplementary_4cfef 19 = .ok (.iload_n 2, 1) := by decide +kernel
theorem dJ2_indexOfSupplementary_4cfef_20 : decode cJ2_indexOfSupplementary_4cfef 20 = .ok (.iload_n 3, 1) := by decide +kernel
theorem dJ2_indexOfSupplementary_4cfef_21 : decode cJ2_indexOfSupplementary_4cfef 21 = .ok (.aload_n 0, 1) := by decide +kernel
theorem dJ2_indexOfSupplementary_4cfef_22 : decode cJ2_indexOfSupplementary_4cfef 22 = .ok (.invokestatic 96, 3) := by decide +kernel
theorem dJ2_indexOfSupplementary_4cfef_25 : decode cJ2_indexOfSupplementary_4cfef 25 = .ok (.iload_n 2, 1) := by decide +kernel
theorem dJ2_indexOfSupplementary_4cfef_26 : decode cJ2_indexOfSupplementary_4cfef 26 = .ok (.istore 6, 2) := by decide +kernel
theorem dJ2_indexOfSupplementary_4cfef_28 : decode cJ2_indexOfSupplementary_4cfef 28 = .ok (.iload 6, 2) := by decide +kernel
theorem dJ2_indexOfSupplementary_4cfef_30 : decode cJ2_indexOfSupplementary_4cfef 30 = .ok (.iload_n 3, 1) := by decide +kernel
theorem dJ2_indexOfSupplementary_4cfef_31 : decode cJ2_indexOfSupplementary_4cfef 31 = .ok (.iconst 1, 1) := by decide +kernel
theorem dJ2_indexOfSupplementary_4cfef_32 : decode cJ2_indexOfSupplementary_4cfef 32 = .ok (.isub, 1) := by decide +kernel
theorem dJ2_indexOfSupplementary_4cfef_33 : decode cJ2_indexOfSupplementary_4cfef 33 = .ok (.if_icmp .ge 36, 3) := by decide +kernel
theorem dJ2_indexOfSupplementary_4cfef_36 : decode cJ2_indexOfSupplementary_4cfef 36 = .ok (.aload_n 0, 1) := by decide +kernel
theorem dJ2_indexOfSupplementary_4cfef_37 : decode cJ2_indexOfSupplementary_4cfef 37 = .ok (.iload 6, 2) := by decide +kernel
theorem dJ2_indexOfSupplementary_4cfef_39 : decode cJ2_indexOfSupplementary_4cfef 39 = .ok (.invokestatic 71, 3) := by decide +kernel
theorem dJ2_indexOfSupplementary_4cfef_42 : decode cJ2_indexOfSupplementary_4cfef 42 = .ok (.iload 4, 2) := by decide +kernel
theorem dJ2_indexOfSupplementary_4cfef_44 : decode cJ2_indexOfSupplementary_4cfef 44 = .ok (.if_icmp .ne 19, 3) := by decide +kernel
theorem dJ2_indexOfSupplementary_4cfef_47 : decode cJ2_indexOfSupplementary_4cfef 47 = .ok (.aload_n 0, 1) := by decide +kernel
theorem dJ2_indexOfSupplementary_4cfef_48 : decode cJ2_indexOfSupplementary_4cfef 48 = .ok (.iload 6, 2) := by decide +kernel
theorem dJ2_indexOfSupplementary_4cfef_50 : decode cJ2_indexOfSupplementary_4cfef 50 = .ok (.iconst 1, 1) := by decide +kernel
theorem dJ2_indexOfSupplementary_4cfef_51 : decode cJ2_indexOfSupplementary_4cfef 51 = .ok (.iadd, 1) := by decide +kernel
theorem dJ2_indexOfSupplementary_4cfef_52 : decode cJ2_indexOfSupplementary_4cfef 52 = .ok (.invokestatic 71, 3) := by decide +kernel
theorem dJ2_indexOfSupplementary_4cfef_55 : decode cJ2_indexOfSupplementary_4cfef 55 = .ok (.iload 5, 2) := by decide +kernel
theorem dJ2_indexOfSupplementary_4cfef_57 : decode cJ2_indexOfSupplementary_4cfef 57 = .ok (.if_icmp .ne 6, 3) := by decide +kernel
theorem dJ2_indexOfSupplementary_4cfef_60 : decode cJ2_indexOfSupplementary_4cfef 60 = .ok (.iload 6, 2) := by decide +kernel
theorem dJ2_indexOfSupplementary_4cfef_62 : decode cJ2_indexOfSupplementary_4cfef 62 = .ok (.ireturn, 1) := by decide +kernel
theorem dJ2_indexOfSupplementary_4cfef_63 : decode cJ2_indexOfSupplementary_4cfef 63 = .ok (.iinc 6 1, 3) := by decide +kernel
theorem dJ2_indexOfSupplementary_4cfef_66 : decode cJ2_indexOfSupplementary_4cfef 66 = .ok (.goto (-38), 3) := by decide +kernel
theorem dJ2_indexOfSupplementary_4cfef_69 : decode cJ2_indexOfSupplementary_4cfef 69 = .ok (.iconst (-1), 1) := by decide +kernel
theorem dJ2_indexOfSupplementary_4cfef_70 : decode cJ2_indexOfSupplementary_4cfef 70 = .ok (.ireturn, 1) := by decide +kernel
theorem dJ2_checkBoundsBeginEnd_d044e_0 : decode cJ2_checkBoundsBeginEnd_d044e 0 = .ok (.iload_n 0, 1) := by decide +kernel
theorem dJ2_checkBoundsBeginEnd_d044e_1 : decode cJ2_checkBoundsBeginEnd_d044e 1 = .ok (.iload_n 1, 1) := by decide +kernel
theorem dJ2_checkBoundsBeginEnd_d044e_2 : decode cJ2_checkBoundsBeginEnd_d044e 2 = .ok (.aload_n 2, 1) := by decide +kernel
theorem dJ2_checkBoundsBeginEnd_d044e_3 : decode cJ2_checkBoundsBeginEnd_d044e 3 = .ok (.invokestatic 48, 3) := by decide +kernel
theorem dJ2_checkBoundsBeginEnd_d044e_6 : decode cJ2_checkBoundsBeginEnd_d044e 6 = .ok (.invokestatic 241, 3) := by decide +kernel
theorem dJ2_checkBoundsBeginEnd_d044e_9 : decode cJ2_checkBoundsBeginEnd_d044e 9 = .ok (.return_, 1) := by decide +kernel
theorem dJ7_fill_53178_0 : decode cJ7_fill_53178 0 = .ok (.iconst 0, 1) := by decide +kernel
theorem dJ7_fill_53178_1 : decode cJ7_fill_53178 1 = .ok (.istore_n 2, 1) := by decide +kernel
theorem dJ7_fill_53178_2 : decode cJ7_fill_53178 2 = .ok (.aload_n 0, 1) := by decide +kernel
theorem dJ7_fill_53178_3 : decode cJ7_fill_53178 3 = .ok (.arraylength, 1) := by decide +kernel
theorem dJ7_fill_53178_4 : decode cJ7_fill_53178 4 = .ok (.istore_n 3, 1) := by decide +kernel
theorem dJ7_fill_53178_5 : decode cJ7_fill_53178 5 = .ok (.iload_n 2, 1) := by decide +kernel
theorem dJ7_fill_53178_6 : decode cJ7_fill_53178 6 = .ok (.iload_n 3, 1) := by decide +kernel
theorem dJ7_fill_53178_7 : decode cJ7_fill_53178 7 = .ok (.if_icmp .ge 13, 3) := by decide +kernel
theorem dJ7_fill_53178_10 : decode cJ7_fill_53178 10 = .ok (.aload_n 0, 1) := by decide +kernel
theorem dJ7_fill_53178_11 : decode cJ7_fill_53178 11 = .ok (.iload_n 2, 1) := by decide +kernel
theorem dJ7_fill_53178_12 : decode cJ7_fill_53178 12 = .ok (.iload_n 1, 1) := by decide +kernel
theorem dJ7_fill_53178_13 : decode cJ7_fill_53178 13 = .ok (.iastore, 1) := by decide +kernel
theorem dJ7_fill_53178_14 : decode cJ7_fill_53178 14 = .ok (.iinc 2 1, 3) := by decide +kernel
theorem dJ7_fill_53178_17 : decode cJ7_fill_53178 17 = .ok (.goto (-12), 3) := by decide +kernel
theorem dJ7_fill_53178_20 : decode cJ7_fill_53178 20 = .ok (.return_, 1) := by decide +kernel
theorem dJ7_copyOf_59c91_0 : decode cJ7_copyOf_59c91 0 = .ok (.iload_n 1, 1) := by decide +kernel
theorem dJ7_copyOf_59c91_1 : decode cJ7_copyOf_59c91 1 = .ok (.aload_n 0, 1) := by decide +kernel
theorem dJ7_copyOf_59c91_2 : decode cJ7_copyOf_59c91 2 = .ok (.arraylength, 1) := by decide +kernel
theorem dJ7_copyOf_59c91_3 : decode cJ7_copyOf_59c91 3 = .ok (.if_icmp .ne 11, 3) := by decide +kernel
theorem dJ7_copyOf_59c91_6 : decode cJ7_copyOf_59c91 6 = .ok (.aload_n 0, 1) := by decide +kernel
theorem dJ7_copyOf_59c91_7 : decode cJ7_copyOf_59c91 7 = .ok (.invokevirtual 316, 3) := by decide +kernel
theorem dJ7_copyOf_59c91_10 : decode cJ7_copyOf_59c91 10 = .ok (.checkcast 317, 3) := by decide +kernel
theorem dJ7_copyOf_59c91_13 : decode cJ7_copyOf_59c91 13 = .ok (.areturn, 1) := by decide +kernel
theorem dJ7_copyOf_59c91_14 : decode cJ7_copyOf_59c91 14 = .ok (.iload_n 1, 1) := by decide +kernel
theorem dJ7_copyOf_59c91_15 : decode cJ7_copyOf_59c91 15 = .ok (.newarray .int, 2) := by decide +kernel
theorem dJ7_copyOf_59c91_17 : decode cJ7_copyOf_59c91 17 = .ok (.astore_n 2, 1) := by decide +kernel
theorem dJ7_copyOf_59c91_18 : decode cJ7_copyOf_59c91 18 = .ok (.aload_n 0, 1) := by decide +kernel
theorem dJ7_copyOf_59c91_19 : decode cJ7_copyOf_59c91 19 = .ok (.iconst 0, 1) := by decide +kernel
theorem dJ7_copyOf_59c91_20 : decode cJ7_copyOf_59c91 20 = .ok (.aload_n 2, 1) := by decide +kernel
theorem dJ7_copyOf_59c91_21 : decode cJ7_copyOf_59c91 21 = .ok (.iconst 0, 1) := by decide +kernel
theorem dJ7_copyOf_59c91_22 : decode cJ7_copyOf_59c91 22 = .ok (.aload_n 0, 1) := by decide +kernel
theorem dJ7_copyOf_59c91_23 : decode cJ7_copyOf_59c91 23 = .ok (.arraylength, 1) := by decide +kernel
theorem dJ7_copyOf_59c91_24 : decode cJ7_copyOf_59c91 24 = .ok (.iload_n 1, 1) := by decide +kernel
theorem dJ7_copyOf_59c91_25 : decode cJ7_copyOf_59c91 25 = .ok (.invokestatic 304, 3) := by decide +kernel
theorem dJ7_copyOf_59c91_28 : decode cJ7_copyOf_59c91 28 = .ok (.invokestatic 150, 3) := by decide +kernel
theorem dJ7_copyOf_59c91_31 : decode cJ7_copyOf_59c91 31 = .ok (.aload_n 2, 1) := by decide +kernel
theorem dJ7_copyOf_59c91_32 : decode cJ7_copyOf_59c91 32 = .ok (.areturn, 1) := by decide +kernel
theorem dJ3_checkFromToIndex_8c36e_0 : decode cJ3_checkFromToIndex_8c36e 0 = .ok (.iload_n 0, 1) := by decide +kernel
theorem dJ3_checkFromToIndex_8c36e_1 : decode cJ3_checkFromToIndex_8c36e 1 = .ok (.ifCond .lt 13, 3) := by decide +kernel
theorem dJ3_checkFromToIndex_8c36e_4 : decode cJ3_checkFromToIndex_8c36e 4 = .ok (.iload_n 0, 1) := by decide +kernel
theorem dJ3_checkFromToIndex_8c36e_5 : decode cJ3_checkFromToIndex_8c36e 5 = .ok (.iload_n 1, 1) := by decide +kernel
theorem dJ3_checkFromToIndex_8c36e_6 : decode cJ3_checkFromToIndex_8c36e 6 = .ok (.if_icmp .gt 8, 3) := by decide +kernel
theorem dJ3_checkFromToIndex_8c36e_9 : decode cJ3_checkFromToIndex_8c36e 9 = .ok (.iload_n 1, 1) := by decide +kernel
theorem dJ3_checkFromToIndex_8c36e_10 : decode cJ3_checkFromToIndex_8c36e 10 = .ok (.iload_n 2, 1) := by decide +kernel
theorem dJ3_checkFromToIndex_8c36e_11 : decode cJ3_checkFromToIndex_8c36e 11 = .ok (.if_icmp .le 11, 3) := by decide +kernel
theorem dJ3_checkFromToIndex_8c36e_14 : decode cJ3_checkFromToIndex_8c36e 14 = .ok (.aload_n 3, 1) := by decide +kernel
theorem dJ3_checkFromToIndex_8c36e_15 : decode cJ3_checkFromToIndex_8c36e 15 = .ok (.iload_n 0, 1) := by decide +kernel
theorem dJ3_checkFromToIndex_8c36e_16 : decode cJ3_checkFromToIndex_8c36e 16 = .ok (.iload_n 1, 1) := by decide +kernel
theorem dJ3_checkFromToIndex_8c36e_17 : decode cJ3_checkFromToIndex_8c36e 17 = .ok (.iload_n 2, 1) := by decide +kernel
theorem dJ3_checkFromToIndex_8c36e_18 : decode cJ3_checkFromToIndex_8c36e 18 = .ok (.invokestatic 99, 3) := by decide +kernel
theorem dJ3_checkFromToIndex_8c36e_21 : decode cJ3_checkFromToIndex_8c36e 21 = .ok (.athrow, 1) := by decide +kernel
theorem dJ3_checkFromToIndex_8c36e_22 : decode cJ3_checkFromToIndex_8c36e 22 = .ok (.iload_n 0, 1) := by decide +kernel
theorem dJ3_checkFromToIndex_8c36e_23 : decode cJ3_checkFromToIndex_8c36e 23 = .ok (.ireturn, 1) := by decide +kernel
theorem dL_law_0 : decode cL_law 0 = .ok (.new 7, 3) := by decide +kernel
theorem dL_law_3 : decode cL_law 3 = .ok (.dup, 1) := by decide +kernel
theorem dL_law_4 : decode cL_law 4 = .ok (.invokespecial 9, 3) := by decide +kernel
theorem dL_law_7 : decode cL_law 7 = .ok (.astore_n 1, 1) := by decide +kernel
theorem dL_law_8 : decode cL_law 8 = .ok (.new 10, 3) := by decide +kernel
theorem dL_law_11 : decode cL_law 11 = .ok (.dup, 1) := by decide +kernel
theorem dL_law_12 : decode cL_law 12 = .ok (.invokespecial 12, 3) := by decide +kernel
theorem dL_law_15 : decode cL_law 15 = .ok (.astore_n 2, 1) := by decide +kernel
theorem dL_law_16 : decode cL_law 16 = .ok (.iconst 0, 1) := by decide +kernel
theorem dL_law_17 : decode cL_law 17 = .ok (.istore_n 3, 1) := by decide +kernel
theorem dL_law_18 : decode cL_law 18 = .ok (.iload_n 3, 1) := by decide +kernel
theorem dL_law_19 : decode cL_law 19 = .ok (.aload_n 0, 1) := by decide +kernel
theorem dL_law_20 : decode cL_law 20 = .ok (.arraylength, 1) := by decide +kernel
theorem dL_law_21 : decode cL_law 21 = .ok (.bipush 6, 2) := by decide +kernel
theorem dL_law_23 : decode cL_law 23 = .ok (.isub, 1) := by decide +kernel
theorem dL_law_24 : decode cL_law 24 = .ok (.if_icmp .gt 932, 3) := by decide +kernel
theorem dL_law_27 : decode cL_law 27 = .ok (.aload_n 0, 1) := by decide +kernel
theorem dL_law_28 : decode cL_law 28 = .ok (.iload_n 3, 1) := by decide +kernel
theorem dL_law_29 : decode cL_law 29 = .ok (.iaload, 1) := by decide +kernel
theorem dL_law_30 : decode cL_law 30 = .ok (.bipush 31, 2) := by decide +kernel
theorem dL_law_32 : decode cL_law 32 = .ok (.iand, 1) := by decide +kernel
theorem dL_law_33 : decode cL_law 33 = .ok (.tableswitch 917 0 25 #[119, 162, 225, 288, 321, 354, 397, 420, 443, 466, 489, 522, 545, 568, 591, 624, 647, 670, 703, 736, 769, 802, 815, 848, 871, 894], 119) := by decide +kernel
theorem dL_law_152 : decode cL_law 152 = .ok (.aload_n 1, 1) := by decide +kernel
theorem dL_law_153 : decode cL_law 153 = .ok (.aload_n 0, 1) := by decide +kernel
theorem dL_law_154 : decode cL_law 154 = .ok (.iload_n 3, 1) := by decide +kernel
theorem dL_law_155 : decode cL_law 155 = .ok (.iconst 1, 1) := by decide +kernel
theorem dL_law_156 : decode cL_law 156 = .ok (.iadd, 1) := by decide +kernel
theorem dL_law_157 : decode cL_law 157 = .ok (.iaload, 1) := by decide +kernel
theorem dL_law_158 : decode cL_law 158 = .ok (.aload_n 0, 1) := by decide +kernel
theorem dL_law_159 : decode cL_law 159 = .ok (.iload_n 3, 1) := by decide +kernel
theorem dL_law_160 : decode cL_law 160 = .ok (.iconst 2, 1) := by decide +kernel
theorem dL_law_161 : decode cL_law 161 = .ok (.iadd, 1) := by decide +kernel
theorem dL_law_162 : decode cL_law 162 = .ok (.iaload, 1) := by decide +kernel
theorem dL_law_163 : decode cL_law 163 = .ok (.aload_n 0, 1) := by decide +kernel
theorem dL_law_164 : decode cL_law 164 = .ok (.iload_n 3, 1) := by decide +kernel
theorem dL_law_165 : decode cL_law 165 = .ok (.iconst 3, 1) := by decide +kernel
theorem dL_law_166 : decode cL_law 166 = .ok (.iadd, 1) := by decide +kernel
theorem dL_law_167 : decode cL_law 167 = .ok (.iaload, 1) := by decide +kernel
theorem dL_law_168 : decode cL_law 168 = .ok (.invokevirtual 13, 3) := by decide +kernel
theorem dL_law_171 : decode cL_law 171 = .ok (.aload_n 2, 1) := by decide +kernel
theorem dL_law_172 : decode cL_law 172 = .ok (.aload_n 0, 1) := by decide +kernel
theorem dL_law_173 : decode cL_law 173 = .ok (.iload_n 3, 1) := by decide +kernel
theorem dL_law_174 : decode cL_law 174 = .ok (.iconst 1, 1) := by decide +kernel
theorem dL_law_175 : decode cL_law 175 = .ok (.iadd, 1) := by decide +kernel
theorem dL_law_176 : decode cL_law 176 = .ok (.iaload, 1) := by decide +kernel
theorem dL_law_177 : decode cL_law 177 = .ok (.aload_n 0, 1) := by decide +kernel
theorem dL_law_178 : decode cL_law 178 = .ok (.iload_n 3, 1) := by decide +kernel
theorem dL_law_179 : decode cL_law 179 = .ok (.iconst 2, 1) := by decide +kernel
theorem dL_law_180 : decode cL_law 180 = .ok (.iadd, 1) := by decide +kernel
theorem dL_law_181 : decode cL_law 181 = .ok (.iaload, 1) := by decide +kernel
theorem dL_law_182 : decode cL_law 182 = .ok (.aload_n 0, 1) := by decide +kernel
theorem dL_law_183 : decode cL_law 183 = .ok (.iload_n 3, 1) := by decide +kernel
theorem dL_law_184 : decode cL_law 184 = .ok (.iconst 3, 1) := by decide +kernel
theorem dL_law_185 : decode cL_law 185 = .ok (.iadd, 1) := by decide +kernel
theorem dL_law_186 : decode cL_law 186 = .ok (.iaload, 1) := by decide +kernel
theorem dL_law_187 : decode cL_law 187 = .ok (.invokevirtual 17, 3) := by decide +kernel
theorem dL_law_190 : decode cL_law 190 = .ok (.if_icmp .eq 760, 3) := by decide +kernel
theorem dL_law_193 : decode cL_law 193 = .ok (.iconst 0, 1) := by decide +kernel
theorem dL_law_194 : decode cL_law 194 = .ok (.ireturn, 1) := by decide +kernel
theorem dL_law_195 : decode cL_law 195 = .ok (.aload_n 1, 1) := by decide +kernel
theorem dL_law_196 : decode cL_law 196 = .ok (.aload_n 0, 1) := by decide +kernel
theorem dL_law_197 : decode cL_law 197 = .ok (.iload_n 3, 1) := by decide +kernel
theorem dL_law_198 : decode cL_law 198 = .ok (.iconst 1, 1) := by decide +kernel
theorem dL_law_199 : decode cL_law 199 = .ok (.iadd, 1) := by decide +kernel
theorem dL_law_200 : decode cL_law 200 = .ok (.iaload, 1) := by decide +kernel
theorem dL_law_201 : decode cL_law 201 = .ok (.aload_n 0, 1) := by decide +kernel
theorem dL_law_202 : decode cL_law 202 = .ok (.iload_n 3, 1) := by decide +kernel
theorem dL_law_203 : decode cL_law 203 = .ok (.iconst 2, 1) := by decide +kernel
theorem dL_law_204 : decode cL_law 204 = .ok (.iadd, 1) := by decide +kernel
theorem dL_law_205 : decode cL_law 205 = .ok (.iaload, 1) := by decide +kernel
theorem dL_law_206 : decode cL_law 206 = .ok (.aload_n 0, 1) := by decide +kernel
theorem dL_law_207 : decode cL_law 207 = .ok (.iload_n 3, 1) := by decide +kernel
theorem dL_law_208 : decode cL_law 208 = .ok (.iconst 3, 1) := by decide +kernel
theorem dL_law_209 : decode cL_law 209 = .ok (.iadd, 1) := by decide +kernel
theorem dL_law_210 : decode cL_law 210 = .ok (.iaload, 1) := by decide +kernel
theorem dL_law_211 : decode cL_law 211 = .ok (.aload_n 0, 1) := by decide +kernel
theorem dL_law_212 : decode cL_law 212 = .ok (.iload_n 3, 1) := by decide +kernel
theorem dL_law_213 : decode cL_law 213 = .ok (.iconst 4, 1) := by decide +kernel
theorem dL_law_214 : decode cL_law 214 = .ok (.iadd, 1) := by decide +kernel
theorem dL_law_215 : decode cL_law 215 = .ok (.iaload, 1) := by decide +kernel
theorem dL_law_216 : decode cL_law 216 = .ok (.aload_n 0, 1) := by decide +kernel
theorem dL_law_217 : decode cL_law 217 = .ok (.iload_n 3, 1) := by decide +kernel
theorem dL_law_218 : decode cL_law 218 = .ok (.iconst 5, 1) := by decide +kernel
theorem dL_law_219 : decode cL_law 219 = .ok (.iadd, 1) := by decide +kernel
theorem dL_law_220 : decode cL_law 220 = .ok (.iaload, 1) := by decide +kernel
theorem dL_law_221 : decode cL_law 221 = .ok (.invokevirtual 18, 3) := by decide +kernel
theorem dL_law_224 : decode cL_law 224 = .ok (.aload_n 2, 1) := by decide +kernel
theorem dL_law_225 : decode cL_law 225 = .ok (.aload_n 0, 1) := by decide +kernel
theorem dL_law_226 : decode cL_law 226 = .ok (.iload_n 3, 1) := by decide +kernel
theorem dL_law_227 : decode cL_law 227 = .ok (.iconst 1, 1) := by decide +kernel
theorem dL_law_228 : decode cL_law 228 = .ok (.iadd, 1) := by decide +kernel
theorem dL_law_229 : decode cL_law 229 = .ok (.iaload, 1) := by decide +kernel
theorem dL_law_230 : decode cL_law 230 = .ok (.aload_n 0, 1) := by decide +kernel
theorem dL_law_231 : decode cL_law 231 = .ok (.iload_n 3, 1) := by decide +kernel
theorem dL_law_232 : decode cL_law 232 = .ok (.iconst 2, 1) := by decide +kernel
theorem dL_law_233 : decode cL_law 233 = .ok (.iadd, 1) := by decide +kernel
theorem dL_law_234 : decode cL_law 234 = .ok (.iaload, 1) := by decide +kernel
theorem dL_law_235 : decode cL_law 235 = .ok (.aload_n 0, 1) := by decide +kernel
theorem dL_law_236 : decode cL_law 236 = .ok (.iload_n 3, 1) := by decide +kernel
theorem dL_law_237 : decode cL_law 237 = .ok (.iconst 3, 1) := by decide +kernel
theorem dL_law_238 : decode cL_law 238 = .ok (.iadd, 1) := by decide +kernel
theorem dL_law_239 : decode cL_law 239 = .ok (.iaload, 1) := by decide +kernel
theorem dL_law_240 : decode cL_law 240 = .ok (.aload_n 0, 1) := by decide +kernel
theorem dL_law_241 : decode cL_law 241 = .ok (.iload_n 3, 1) := by decide +kernel
theorem dL_law_242 : decode cL_law 242 = .ok (.iconst 4, 1) := by decide +kernel
theorem dL_law_243 : decode cL_law 243 = .ok (.iadd, 1) := by decide +kernel
theorem dL_law_244 : decode cL_law 244 = .ok (.iaload, 1) := by decide +kernel
theorem dL_law_245 : decode cL_law 245 = .ok (.aload_n 0, 1) := by decide +kernel
theorem dL_law_246 : decode cL_law 246 = .ok (.iload_n 3, 1) := by decide +kernel
theorem dL_law_247 : decode cL_law 247 = .ok (.iconst 5, 1) := by decide +kernel
theorem dL_law_248 : decode cL_law 248 = .ok (.iadd, 1) := by decide +kernel
theorem dL_law_249 : decode cL_law 249 = .ok (.iaload, 1) := by decide +kernel
theorem dL_law_250 : decode cL_law 250 = .ok (.invokevirtual 22, 3) := by decide +kernel
theorem dL_law_253 : decode cL_law 253 = .ok (.if_icmp .eq 697, 3) := by decide +kernel
theorem dL_law_256 : decode cL_law 256 = .ok (.iconst 0, 1) := by decide +kernel
theorem dL_law_257 : decode cL_law 257 = .ok (.ireturn, 1) := by decide +kernel
theorem dL_law_258 : decode cL_law 258 = .ok (.aload_n 1, 1) := by decide +kernel
theorem dL_law_259 : decode cL_law 259 = .ok (.aload_n 0, 1) := by decide +kernel
theorem dL_law_260 : decode cL_law 260 = .ok (.iload_n 3, 1) := by decide +kernel
theorem dL_law_261 : decode cL_law 261 = .ok (.iconst 1, 1) := by decide +kernel
theorem dL_law_262 : decode cL_law 262 = .ok (.iadd, 1) := by decide +kernel
theorem dL_law_263 : decode cL_law 263 = .ok (.iaload, 1) := by decide +kernel
theorem dL_law_264 : decode cL_law 264 = .ok (.aload_n 0, 1) := by decide +kernel
theorem dL_law_265 : decode cL_law 265 = .ok (.iload_n 3, 1) := by decide +kernel
theorem dL_law_266 : decode cL_law 266 = .ok (.iconst 2, 1) := by decide +kernel
theorem dL_law_267 : decode cL_law 267 = .ok (.iadd, 1) := by decide +kernel
theorem dL_law_268 : decode cL_law 268 = .ok (.iaload, 1) := by decide +kernel
theorem dL_law_269 : decode cL_law 269 = .ok (.aload_n 0, 1) := by decide +kernel
theorem dL_law_270 : decode cL_law 270 = .ok (.iload_n 3, 1) := by decide +kernel
theorem dL_law_271 : decode cL_law 271 = .ok (.iconst 3, 1) := by decide +kernel
theorem dL_law_272 : decode cL_law 272 = .ok (.iadd, 1) := by decide +kernel
theorem dL_law_273 : decode cL_law 273 = .ok (.iaload, 1) := by decide +kernel
theorem dL_law_274 : decode cL_law 274 = .ok (.aload_n 0, 1) := by decide +kernel
theorem dL_law_275 : decode cL_law 275 = .ok (.iload_n 3, 1) := by decide +kernel
theorem dL_law_276 : decode cL_law 276 = .ok (.iconst 4, 1) := by decide +kernel
theorem dL_law_277 : decode cL_law 277 = .ok (.iadd, 1) := by decide +kernel
theorem dL_law_278 : decode cL_law 278 = .ok (.iaload, 1) := by decide +kernel
theorem dL_law_279 : decode cL_law 279 = .ok (.aload_n 0, 1) := by decide +kernel
theorem dL_law_280 : decode cL_law 280 = .ok (.iload_n 3, 1) := by decide +kernel
theorem dL_law_281 : decode cL_law 281 = .ok (.iconst 5, 1) := by decide +kernel
theorem dL_law_282 : decode cL_law 282 = .ok (.iadd, 1) := by decide +kernel
theorem dL_law_283 : decode cL_law 283 = .ok (.iaload, 1) := by decide +kernel
theorem dL_law_284 : decode cL_law 284 = .ok (.invokevirtual 23, 3) := by decide +kernel
theorem dL_law_287 : decode cL_law 287 = .ok (.aload_n 2, 1) := by decide +kernel
theorem dL_law_288 : decode cL_law 288 = .ok (.aload_n 0, 1) := by decide +kernel
theorem dL_law_289 : decode cL_law 289 = .ok (.iload_n 3, 1) := by decide +kernel
theorem dL_law_290 : decode cL_law 290 = .ok (.iconst 1, 1) := by decide +kernel
theorem dL_law_291 : decode cL_law 291 = .ok (.iadd, 1) := by decide +kernel
theorem dL_law_292 : decode cL_law 292 = .ok (.iaload, 1) := by decide +kernel
theorem dL_law_293 : decode cL_law 293 = .ok (.aload_n 0, 1) := by decide +kernel
theorem dL_law_294 : decode cL_law 294 = .ok (.iload_n 3, 1) := by decide +kernel
theorem dL_law_295 : decode cL_law 295 = .ok (.iconst 2, 1) := by decide +kernel
theorem dL_law_296 : decode cL_law 296 = .ok (.iadd, 1) := by decide +kernel
theorem dL_law_297 : decode cL_law 297 = .ok (.iaload, 1) := by decide +kernel
theorem dL_law_298 : decode cL_law 298 = .ok (.aload_n 0, 1) := by decide +kernel
theorem dL_law_299 : decode cL_law 299 = .ok (.iload_n 3, 1) := by decide +kernel
theorem dL_law_300 : decode cL_law 300 = .ok (.iconst 3, 1) := by decide +kernel
theorem dL_law_301 : decode cL_law 301 = .ok (.iadd, 1) := by decide +kernel
theorem dL_law_302 : decode cL_law 302 = .ok (.iaload, 1) := by decide +kernel
theorem dL_law_303 : decode cL_law 303 = .ok (.aload_n 0, 1) := by decide +kernel
theorem dL_law_304 : decode cL_law 304 = .ok (.iload_n 3, 1) := by decide +kernel
theorem dL_law_305 : decode cL_law 305 = .ok (.iconst 4, 1) := by decide +kernel
theorem dL_law_306 : decode cL_law 306 = .ok (.iadd, 1) := by decide +kernel
theorem dL_law_307 : decode cL_law 307 = .ok (.iaload, 1) := by decide +kernel
theorem dL_law_308 : decode cL_law 308 = .ok (.aload_n 0, 1) := by decide +kernel
theorem dL_law_309 : decode cL_law 309 = .ok (.iload_n 3, 1) := by decide +kernel
theorem dL_law_310 : decode cL_law 310 = .ok (.iconst 5, 1) := by decide +kernel
theorem dL_law_311 : decode cL_law 311 = .ok (.iadd, 1) := by decide +kernel
theorem dL_law_312 : decode cL_law 312 = .ok (.iaload, 1) := by decide +kernel
theorem dL_law_313 : decode cL_law 313 = .ok (.invokevirtual 26, 3) := by decide +kernel
theorem dL_law_316 : decode cL_law 316 = .ok (.if_icmp .eq 634, 3) := by decide +kernel
theorem dL_law_319 : decode cL_law 319 = .ok (.iconst 0, 1) := by decide +kernel
theorem dL_law_320 : decode cL_law 320 = .ok (.ireturn, 1) := by decide +kernel
theorem dL_law_321 : decode cL_law 321 = .ok (.aload_n 1, 1) := by decide +kernel
theorem dL_law_322 : decode cL_law 322 = .ok (.aload_n 0, 1) := by decide +kernel
theorem dL_law_323 : decode cL_law 323 = .ok (.iload_n 3, 1) := by decide +kernel
theorem dL_law_324 : decode cL_law 324 = .ok (.iconst 1, 1) := by decide +kernel
theorem dL_law_325 : decode cL_law 325 = .ok (.iadd, 1) := by decide +kernel
theorem dL_law_326 : decode cL_law 326 = .ok (.iaload, 1) := by decide +kernel
theorem dL_law_327 : decode cL_law 327 = .ok (.aload_n 0, 1) := by decide +kernel
theorem dL_law_328 : decode cL_law 328 = .ok (.iload_n 3, 1) := by decide +kernel
theorem dL_law_329 : decode cL_law 329 = .ok (.iconst 2, 1) := by decide +kernel
theorem dL_law_330 : decode cL_law 330 = .ok (.iadd, 1) := by decide +kernel
theorem dL_law_331 : decode cL_law 331 = .ok (.iaload, 1) := by decide +kernel
theorem dL_law_332 : decode cL_law 332 = .ok (.invokevirtual 27, 3) := by decide +kernel
theorem dL_law_335 : decode cL_law 335 = .ok (.aload_n 2, 1) := by decide +kernel
theorem dL_law_336 : decode cL_law 336 = .ok (.aload_n 0, 1) := by decide +kernel
theorem dL_law_337 : decode cL_law 337 = .ok (.iload_n 3, 1) := by decide +kernel
theorem dL_law_338 : decode cL_law 338 = .ok (.iconst 1, 1) := by decide +kernel
theorem dL_law_339 : decode cL_law 339 = .ok (.iadd, 1) := by decide +kernel
theorem dL_law_340 : decode cL_law 340 = .ok (.iaload, 1) := by decide +kernel
theorem dL_law_341 : decode cL_law 341 = .ok (.aload_n 0, 1) := by decide +kernel
theorem dL_law_342 : decode cL_law 342 = .ok (.iload_n 3, 1) := by decide +kernel
theorem dL_law_343 : decode cL_law 343 = .ok (.iconst 2, 1) := by decide +kernel
theorem dL_law_344 : decode cL_law 344 = .ok (.iadd, 1) := by decide +kernel
theorem dL_law_345 : decode cL_law 345 = .ok (.iaload, 1) := by decide +kernel
theorem dL_law_346 : decode cL_law 346 = .ok (.invokevirtual 31, 3) := by decide +kernel
theorem dL_law_349 : decode cL_law 349 = .ok (.if_icmp .eq 601, 3) := by decide +kernel
theorem dL_law_352 : decode cL_law 352 = .ok (.iconst 0, 1) := by decide +kernel
theorem dL_law_353 : decode cL_law 353 = .ok (.ireturn, 1) := by decide +kernel
theorem dL_law_354 : decode cL_law 354 = .ok (.aload_n 1, 1) := by decide +kernel
theorem dL_law_355 : decode cL_law 355 = .ok (.aload_n 0, 1) := by decide +kernel
theorem dL_law_356 : decode cL_law 356 = .ok (.iload_n 3, 1) := by decide +kernel
theorem dL_law_357 : decode cL_law 357 = .ok (.iconst 1, 1) := by decide +kernel
theorem dL_law_358 : decode cL_law 358 = .ok (.iadd, 1) := by decide +kernel
theorem dL_law_359 : decode cL_law 359 = .ok (.iaload, 1) := by decide +kernel
theorem dL_law_360 : decode cL_law 360 = .ok (.aload_n 0, 1) := by decide +kernel
theorem dL_law_361 : decode cL_law 361 = .ok (.iload_n 3, 1) := by decide +kernel
theorem dL_law_362 : decode cL_law 362 = .ok (.iconst 2, 1) := by decide +kernel
theorem dL_law_363 : decode cL_law 363 = .ok (.iadd, 1) := by decide +kernel
theorem dL_law_364 : decode cL_law 364 = .ok (.iaload, 1) := by decide +kernel
theorem dL_law_365 : decode cL_law 365 = .ok (.invokevirtual 32, 3) := by decide +kernel
theorem dL_law_368 : decode cL_law 368 = .ok (.aload_n 2, 1) := by decide +kernel
theorem dL_law_369 : decode cL_law 369 = .ok (.aload_n 0, 1) := by decide +kernel
theorem dL_law_370 : decode cL_law 370 = .ok (.iload_n 3, 1) := by decide +kernel
theorem dL_law_371 : decode cL_law 371 = .ok (.iconst 1, 1) := by decide +kernel
theorem dL_law_372 : decode cL_law 372 = .ok (.iadd, 1) := by decide +kernel
theorem dL_law_373 : decode cL_law 373 = .ok (.iaload, 1) := by decide +kernel
theorem dL_law_374 : decode cL_law 374 = .ok (.aload_n 0, 1) := by decide +kernel
theorem dL_law_375 : decode cL_law 375 = .ok (.iload_n 3, 1) := by decide +kernel
theorem dL_law_376 : decode cL_law 376 = .ok (.iconst 2, 1) := by decide +kernel
theorem dL_law_377 : decode cL_law 377 = .ok (.iadd, 1) := by decide +kernel
theorem dL_law_378 : decode cL_law 378 = .ok (.iaload, 1) := by decide +kernel
theorem dL_law_379 : decode cL_law 379 = .ok (.invokevirtual 35, 3) := by decide +kernel
theorem dL_law_382 : decode cL_law 382 = .ok (.if_icmp .eq 568, 3) := by decide +kernel
theorem dL_law_385 : decode cL_law 385 = .ok (.iconst 0, 1) := by decide +kernel
theorem dL_law_386 : decode cL_law 386 = .ok (.ireturn, 1) := by decide +kernel
theorem dL_law_387 : decode cL_law 387 = .ok (.aload_n 1, 1) := by decide +kernel
theorem dL_law_388 : decode cL_law 388 = .ok (.aload_n 0, 1) := by decide +kernel
theorem dL_law_389 : decode cL_law 389 = .ok (.iload_n 3, 1) := by decide +kernel
theorem dL_law_390 : decode cL_law 390 = .ok (.iconst 1, 1) := by decide +kernel
theorem dL_law_391 : decode cL_law 391 = .ok (.iadd, 1) := by decide +kernel
theorem dL_law_392 : decode cL_law 392 = .ok (.iaload, 1) := by decide +kernel
theorem dL_law_393 : decode cL_law 393 = .ok (.aload_n 0, 1) := by decide +kernel
theorem dL_law_394 : decode cL_law 394 = .ok (.iload_n 3, 1) := by decide +kernel
theorem dL_law_395 : decode cL_law 395 = .ok (.iconst 2, 1) := by decide +kernel
theorem dL_law_396 : decode cL_law 396 = .ok (.iadd, 1) := by decide +kernel
theorem dL_law_397 : decode cL_law 397 = .ok (.iaload, 1) := by decide +kernel
theorem dL_law_398 : decode cL_law 398 = .ok (.aload_n 0, 1) := by decide +kernel
theorem dL_law_399 : decode cL_law 399 = .ok (.iload_n 3, 1) := by decide +kernel
theorem dL_law_400 : decode cL_law 400 = .ok (.iconst 3, 1) := by decide +kernel
theorem dL_law_401 : decode cL_law 401 = .ok (.iadd, 1) := by decide +kernel
theorem dL_law_402 : decode cL_law 402 = .ok (.iaload, 1) := by decide +kernel
theorem dL_law_403 : decode cL_law 403 = .ok (.invokevirtual 36, 3) := by decide +kernel
theorem dL_law_406 : decode cL_law 406 = .ok (.aload_n 2, 1) := by decide +kernel
theorem dL_law_407 : decode cL_law 407 = .ok (.aload_n 0, 1) := by decide +kernel
theorem dL_law_408 : decode cL_law 408 = .ok (.iload_n 3, 1) := by decide +kernel
theorem dL_law_409 : decode cL_law 409 = .ok (.iconst 1, 1) := by decide +kernel
theorem dL_law_410 : decode cL_law 410 = .ok (.iadd, 1) := by decide +kernel
theorem dL_law_411 : decode cL_law 411 = .ok (.iaload, 1) := by decide +kernel
theorem dL_law_412 : decode cL_law 412 = .ok (.aload_n 0, 1) := by decide +kernel
theorem dL_law_413 : decode cL_law 413 = .ok (.iload_n 3, 1) := by decide +kernel
theorem dL_law_414 : decode cL_law 414 = .ok (.iconst 2, 1) := by decide +kernel
theorem dL_law_415 : decode cL_law 415 = .ok (.iadd, 1) := by decide +kernel
theorem dL_law_416 : decode cL_law 416 = .ok (.iaload, 1) := by decide +kernel
theorem dL_law_417 : decode cL_law 417 = .ok (.aload_n 0, 1) := by decide +kernel
theorem dL_law_418 : decode cL_law 418 = .ok (.iload_n 3, 1) := by decide +kernel
theorem dL_law_419 : decode cL_law 419 = .ok (.iconst 3, 1) := by decide +kernel
theorem dL_law_420 : decode cL_law 420 = .ok (.iadd, 1) := by decide +kernel
theorem dL_law_421 : decode cL_law 421 = .ok (.iaload, 1) := by decide +kernel
theorem dL_law_422 : decode cL_law 422 = .ok (.invokevirtual 39, 3) := by decide +kernel
theorem dL_law_425 : decode cL_law 425 = .ok (.if_icmp .eq 525, 3) := by decide +kernel
theorem dL_law_428 : decode cL_law 428 = .ok (.iconst 0, 1) := by decide +kernel
theorem dL_law_429 : decode cL_law 429 = .ok (.ireturn, 1) := by decide +kernel
theorem dL_law_430 : decode cL_law 430 = .ok (.aload_n 1, 1) := by decide +kernel
theorem dL_law_431 : decode cL_law 431 = .ok (.aload_n 0, 1) := by decide +kernel
theorem dL_law_432 : decode cL_law 432 = .ok (.iload_n 3, 1) := by decide +kernel
theorem dL_law_433 : decode cL_law 433 = .ok (.iconst 1, 1) := by decide +kernel
theorem dL_law_434 : decode cL_law 434 = .ok (.iadd, 1) := by decide +kernel
theorem dL_law_435 : decode cL_law 435 = .ok (.iaload, 1) := by decide +kernel
theorem dL_law_436 : decode cL_law 436 = .ok (.invokevirtual 40, 3) := by decide +kernel
theorem dL_law_439 : decode cL_law 439 = .ok (.aload_n 2, 1) := by decide +kernel
theorem dL_law_440 : decode cL_law 440 = .ok (.aload_n 0, 1) := by decide +kernel
theorem dL_law_441 : decode cL_law 441 = .ok (.iload_n 3, 1) := by decide +kernel
theorem dL_law_442 : decode cL_law 442 = .ok (.iconst 1, 1) := by decide +kernel
theorem dL_law_443 : decode cL_law 443 = .ok (.iadd, 1) := by decide +kernel
theorem dL_law_444 : decode cL_law 444 = .ok (.iaload, 1) := by decide +kernel
theorem dL_law_445 : decode cL_law 445 = .ok (.invokevirtual 44, 3) := by decide +kernel
theorem dL_law_448 : decode cL_law 448 = .ok (.if_icmp .eq 502, 3) := by decide +kernel
theorem dL_law_451 : decode cL_law 451 = .ok (.iconst 0, 1) := by decide +kernel
theorem dL_law_452 : decode cL_law 452 = .ok (.ireturn, 1) := by decide +kernel
theorem dL_law_453 : decode cL_law 453 = .ok (.aload_n 1, 1) := by decide +kernel
theorem dL_law_454 : decode cL_law 454 = .ok (.aload_n 0, 1) := by decide +kernel
theorem dL_law_455 : decode cL_law 455 = .ok (.iload_n 3, 1) := by decide +kernel
theorem dL_law_456 : decode cL_law 456 = .ok (.iconst 1, 1) := by decide +kernel
theorem dL_law_457 : decode cL_law 457 = .ok (.iadd, 1) := by decide +kernel
theorem dL_law_458 : decode cL_law 458 = .ok (.iaload, 1) := by decide +kernel
theorem dL_law_459 : decode cL_law 459 = .ok (.invokevirtual 45, 3) := by decide +kernel
theorem dL_law_462 : decode cL_law 462 = .ok (.aload_n 2, 1) := by decide +kernel
theorem dL_law_463 : decode cL_law 463 = .ok (.aload_n 0, 1) := by decide +kernel
theorem dL_law_464 : decode cL_law 464 = .ok (.iload_n 3, 1) := by decide +kernel
theorem dL_law_465 : decode cL_law 465 = .ok (.iconst 1, 1) := by decide +kernel
theorem dL_law_466 : decode cL_law 466 = .ok (.iadd, 1) := by decide +kernel
theorem dL_law_467 : decode cL_law 467 = .ok (.iaload, 1) := by decide +kernel
theorem dL_law_468 : decode cL_law 468 = .ok (.invokevirtual 48, 3) := by decide +kernel
theorem dL_law_471 : decode cL_law 471 = .ok (.if_icmp .eq 479, 3) := by decide +kernel
theorem dL_law_474 : decode cL_law 474 = .ok (.iconst 0, 1) := by decide +kernel
theorem dL_law_475 : decode cL_law 475 = .ok (.ireturn, 1) := by decide +kernel
theorem dL_law_476 : decode cL_law 476 = .ok (.aload_n 1, 1) := by decide +kernel
theorem dL_law_477 : decode cL_law 477 = .ok (.aload_n 0, 1) := by decide +kernel
theorem dL_law_478 : decode cL_law 478 = .ok (.iload_n 3, 1) := by decide +kernel
theorem dL_law_479 : decode cL_law 479 = .ok (.iconst 1, 1) := by decide +kernel
theorem dL_law_480 : decode cL_law 480 = .ok (.iadd, 1) := by decide +kernel
theorem dL_law_481 : decode cL_law 481 = .ok (.iaload, 1) := by decide +kernel
theorem dL_law_482 : decode cL_law 482 = .ok (.invokevirtual 49, 3) := by decide +kernel
theorem dL_law_485 : decode cL_law 485 = .ok (.aload_n 2, 1) := by decide +kernel
theorem dL_law_486 : decode cL_law 486 = .ok (.aload_n 0, 1) := by decide +kernel
theorem dL_law_487 : decode cL_law 487 = .ok (.iload_n 3, 1) := by decide +kernel
theorem dL_law_488 : decode cL_law 488 = .ok (.iconst 1, 1) := by decide +kernel
theorem dL_law_489 : decode cL_law 489 = .ok (.iadd, 1) := by decide +kernel
theorem dL_law_490 : decode cL_law 490 = .ok (.iaload, 1) := by decide +kernel
theorem dL_law_491 : decode cL_law 491 = .ok (.invokevirtual 52, 3) := by decide +kernel
theorem dL_law_494 : decode cL_law 494 = .ok (.if_icmp .eq 456, 3) := by decide +kernel
theorem dL_law_497 : decode cL_law 497 = .ok (.iconst 0, 1) := by decide +kernel
theorem dL_law_498 : decode cL_law 498 = .ok (.ireturn, 1) := by decide +kernel
theorem dL_law_499 : decode cL_law 499 = .ok (.aload_n 1, 1) := by decide +kernel
theorem dL_law_500 : decode cL_law 500 = .ok (.aload_n 0, 1) := by decide +kernel
theorem dL_law_501 : decode cL_law 501 = .ok (.iload_n 3, 1) := by decide +kernel
theorem dL_law_502 : decode cL_law 502 = .ok (.iconst 1, 1) := by decide +kernel
theorem dL_law_503 : decode cL_law 503 = .ok (.iadd, 1) := by decide +kernel
theorem dL_law_504 : decode cL_law 504 = .ok (.iaload, 1) := by decide +kernel
theorem dL_law_505 : decode cL_law 505 = .ok (.invokevirtual 53, 3) := by decide +kernel
theorem dL_law_508 : decode cL_law 508 = .ok (.aload_n 2, 1) := by decide +kernel
theorem dL_law_509 : decode cL_law 509 = .ok (.aload_n 0, 1) := by decide +kernel
theorem dL_law_510 : decode cL_law 510 = .ok (.iload_n 3, 1) := by decide +kernel
theorem dL_law_511 : decode cL_law 511 = .ok (.iconst 1, 1) := by decide +kernel
theorem dL_law_512 : decode cL_law 512 = .ok (.iadd, 1) := by decide +kernel
theorem dL_law_513 : decode cL_law 513 = .ok (.iaload, 1) := by decide +kernel
theorem dL_law_514 : decode cL_law 514 = .ok (.invokevirtual 56, 3) := by decide +kernel
theorem dL_law_517 : decode cL_law 517 = .ok (.if_icmp .eq 433, 3) := by decide +kernel
theorem dL_law_520 : decode cL_law 520 = .ok (.iconst 0, 1) := by decide +kernel
theorem dL_law_521 : decode cL_law 521 = .ok (.ireturn, 1) := by decide +kernel
theorem dL_law_522 : decode cL_law 522 = .ok (.aload_n 1, 1) := by decide +kernel
theorem dL_law_523 : decode cL_law 523 = .ok (.aload_n 0, 1) := by decide +kernel
theorem dL_law_524 : decode cL_law 524 = .ok (.iload_n 3, 1) := by decide +kernel
theorem dL_law_525 : decode cL_law 525 = .ok (.iconst 1, 1) := by decide +kernel
theorem dL_law_526 : decode cL_law 526 = .ok (.iadd, 1) := by decide +kernel
theorem dL_law_527 : decode cL_law 527 = .ok (.iaload, 1) := by decide +kernel
theorem dL_law_528 : decode cL_law 528 = .ok (.aload_n 0, 1) := by decide +kernel
theorem dL_law_529 : decode cL_law 529 = .ok (.iload_n 3, 1) := by decide +kernel
theorem dL_law_530 : decode cL_law 530 = .ok (.iconst 2, 1) := by decide +kernel
theorem dL_law_531 : decode cL_law 531 = .ok (.iadd, 1) := by decide +kernel
theorem dL_law_532 : decode cL_law 532 = .ok (.iaload, 1) := by decide +kernel
theorem dL_law_533 : decode cL_law 533 = .ok (.invokevirtual 57, 3) := by decide +kernel
theorem dL_law_536 : decode cL_law 536 = .ok (.aload_n 2, 1) := by decide +kernel
theorem dL_law_537 : decode cL_law 537 = .ok (.aload_n 0, 1) := by decide +kernel
theorem dL_law_538 : decode cL_law 538 = .ok (.iload_n 3, 1) := by decide +kernel
theorem dL_law_539 : decode cL_law 539 = .ok (.iconst 1, 1) := by decide +kernel
theorem dL_law_540 : decode cL_law 540 = .ok (.iadd, 1) := by decide +kernel
theorem dL_law_541 : decode cL_law 541 = .ok (.iaload, 1) := by decide +kernel
theorem dL_law_542 : decode cL_law 542 = .ok (.aload_n 0, 1) := by decide +kernel
theorem dL_law_543 : decode cL_law 543 = .ok (.iload_n 3, 1) := by decide +kernel
theorem dL_law_544 : decode cL_law 544 = .ok (.iconst 2, 1) := by decide +kernel
theorem dL_law_545 : decode cL_law 545 = .ok (.iadd, 1) := by decide +kernel
theorem dL_law_546 : decode cL_law 546 = .ok (.iaload, 1) := by decide +kernel
theorem dL_law_547 : decode cL_law 547 = .ok (.invokevirtual 60, 3) := by decide +kernel
theorem dL_law_550 : decode cL_law 550 = .ok (.if_icmp .eq 400, 3) := by decide +kernel
theorem dL_law_553 : decode cL_law 553 = .ok (.iconst 0, 1) := by decide +kernel
theorem dL_law_554 : decode cL_law 554 = .ok (.ireturn, 1) := by decide +kernel
theorem dL_law_555 : decode cL_law 555 = .ok (.aload_n 1, 1) := by decide +kernel
theorem dL_law_556 : decode cL_law 556 = .ok (.aload_n 0, 1) := by decide +kernel
theorem dL_law_557 : decode cL_law 557 = .ok (.iload_n 3, 1) := by decide +kernel
theorem dL_law_558 : decode cL_law 558 = .ok (.iconst 1, 1) := by decide +kernel
theorem dL_law_559 : decode cL_law 559 = .ok (.iadd, 1) := by decide +kernel
theorem dL_law_560 : decode cL_law 560 = .ok (.iaload, 1) := by decide +kernel
theorem dL_law_561 : decode cL_law 561 = .ok (.invokevirtual 61, 3) := by decide +kernel
theorem dL_law_564 : decode cL_law 564 = .ok (.aload_n 2, 1) := by decide +kernel
theorem dL_law_565 : decode cL_law 565 = .ok (.aload_n 0, 1) := by decide +kernel
theorem dL_law_566 : decode cL_law 566 = .ok (.iload_n 3, 1) := by decide +kernel
theorem dL_law_567 : decode cL_law 567 = .ok (.iconst 1, 1) := by decide +kernel
theorem dL_law_568 : decode cL_law 568 = .ok (.iadd, 1) := by decide +kernel
theorem dL_law_569 : decode cL_law 569 = .ok (.iaload, 1) := by decide +kernel
theorem dL_law_570 : decode cL_law 570 = .ok (.invokevirtual 64, 3) := by decide +kernel
theorem dL_law_573 : decode cL_law 573 = .ok (.if_icmp .eq 377, 3) := by decide +kernel
theorem dL_law_576 : decode cL_law 576 = .ok (.iconst 0, 1) := by decide +kernel
theorem dL_law_577 : decode cL_law 577 = .ok (.ireturn, 1) := by decide +kernel
theorem dL_law_578 : decode cL_law 578 = .ok (.aload_n 1, 1) := by decide +kernel
theorem dL_law_579 : decode cL_law 579 = .ok (.aload_n 0, 1) := by decide +kernel
theorem dL_law_580 : decode cL_law 580 = .ok (.iload_n 3, 1) := by decide +kernel
theorem dL_law_581 : decode cL_law 581 = .ok (.iconst 1, 1) := by decide +kernel
theorem dL_law_582 : decode cL_law 582 = .ok (.iadd, 1) := by decide +kernel
theorem dL_law_583 : decode cL_law 583 = .ok (.iaload, 1) := by decide +kernel
theorem dL_law_584 : decode cL_law 584 = .ok (.invokevirtual 65, 3) := by decide +kernel
theorem dL_law_587 : decode cL_law 587 = .ok (.aload_n 2, 1) := by decide +kernel
theorem dL_law_588 : decode cL_law 588 = .ok (.aload_n 0, 1) := by decide +kernel
theorem dL_law_589 : decode cL_law 589 = .ok (.iload_n 3, 1) := by decide +kernel
theorem dL_law_590 : decode cL_law 590 = .ok (.iconst 1, 1) := by decide +kernel
theorem dL_law_591 : decode cL_law 591 = .ok (.iadd, 1) := by decide +kernel
theorem dL_law_592 : decode cL_law 592 = .ok (.iaload, 1) := by decide +kernel
theorem dL_law_593 : decode cL_law 593 = .ok (.invokevirtual 68, 3) := by decide +kernel
theorem dL_law_596 : decode cL_law 596 = .ok (.if_icmp .eq 354, 3) := by decide +kernel
theorem dL_law_599 : decode cL_law 599 = .ok (.iconst 0, 1) := by decide +kernel
theorem dL_law_600 : decode cL_law 600 = .ok (.ireturn, 1) := by decide +kernel
theorem dL_law_601 : decode cL_law 601 = .ok (.aload_n 1, 1) := by decide +kernel
theorem dL_law_602 : decode cL_law 602 = .ok (.aload_n 0, 1) := by decide +kernel
theorem dL_law_603 : decode cL_law 603 = .ok (.iload_n 3, 1) := by decide +kernel
theorem dL_law_604 : decode cL_law 604 = .ok (.iconst 1, 1) := by decide +kernel
theorem dL_law_605 : decode cL_law 605 = .ok (.iadd, 1) := by decide +kernel
theorem dL_law_606 : decode cL_law 606 = .ok (.iaload, 1) := by decide +kernel
theorem dL_law_607 : decode cL_law 607 = .ok (.invokevirtual 69, 3) := by decide +kernel
theorem dL_law_610 : decode cL_law 610 = .ok (.aload_n 2, 1) := by decide +kernel
theorem dL_law_611 : decode cL_law 611 = .ok (.aload_n 0, 1) := by decide +kernel
theorem dL_law_612 : decode cL_law 612 = .ok (.iload_n 3, 1) := by decide +kernel
theorem dL_law_613 : decode cL_law 613 = .ok (.iconst 1, 1) := by decide +kernel
theorem dL_law_614 : decode cL_law 614 = .ok (.iadd, 1) := by decide +kernel
theorem dL_law_615 : decode cL_law 615 = .ok (.iaload, 1) := by decide +kernel
theorem dL_law_616 : decode cL_law 616 = .ok (.invokevirtual 72, 3) := by decide +kernel
theorem dL_law_619 : decode cL_law 619 = .ok (.if_icmp .eq 331, 3) := by decide +kernel
theorem dL_law_622 : decode cL_law 622 = .ok (.iconst 0, 1) := by decide +kernel
theorem dL_law_623 : decode cL_law 623 = .ok (.ireturn, 1) := by decide +kernel
theorem dL_law_624 : decode cL_law 624 = .ok (.aload_n 1, 1) := by decide +kernel
theorem dL_law_625 : decode cL_law 625 = .ok (.aload_n 0, 1) := by decide +kernel
theorem dL_law_626 : decode cL_law 626 = .ok (.iload_n 3, 1) := by decide +kernel
theorem dL_law_627 : decode cL_law 627 = .ok (.iconst 1, 1) := by decide +kernel
theorem dL_law_628 : decode cL_law 628 = .ok (.iadd, 1) := by decide +kernel
theorem dL_law_629 : decode cL_law 629 = .ok (.iaload, 1) := by decide +kernel
theorem dL_law_630 : decode cL_law 630 = .ok (.aload_n 0, 1) := by decide +kernel
theorem dL_law_631 : decode cL_law 631 = .ok (.iload_n 3, 1) := by decide +kernel
theorem dL_law_632 : decode cL_law 632 = .ok (.iconst 2, 1) := by decide +kernel
theorem dL_law_633 : decode cL_law 633 = .ok (.iadd, 1) := by decide +kernel
theorem dL_law_634 : decode cL_law 634 = .ok (.iaload, 1) := by decide +kernel
theorem dL_law_635 : decode cL_law 635 = .ok (.invokevirtual 73, 3) := by decide +kernel
theorem dL_law_638 : decode cL_law 638 = .ok (.aload_n 2, 1) := by decide +kernel
theorem dL_law_639 : decode cL_law 639 = .ok (.aload_n 0, 1) := by decide +kernel
theorem dL_law_640 : decode cL_law 640 = .ok (.iload_n 3, 1) := by decide +kernel
theorem dL_law_641 : decode cL_law 641 = .ok (.iconst 1, 1) := by decide +kernel
theorem dL_law_642 : decode cL_law 642 = .ok (.iadd, 1) := by decide +kernel
theorem dL_law_643 : decode cL_law 643 = .ok (.iaload, 1) := by decide +kernel
theorem dL_law_644 : decode cL_law 644 = .ok (.aload_n 0, 1) := by decide +kernel
theorem dL_law_645 : decode cL_law 645 = .ok (.iload_n 3, 1) := by decide +kernel
theorem dL_law_646 : decode cL_law 646 = .ok (.iconst 2, 1) := by decide +kernel
theorem dL_law_647 : decode cL_law 647 = .ok (.iadd, 1) := by decide +kernel
theorem dL_law_648 : decode cL_law 648 = .ok (.iaload, 1) := by decide +kernel
theorem dL_law_649 : decode cL_law 649 = .ok (.invokevirtual 76, 3) := by decide +kernel
theorem dL_law_652 : decode cL_law 652 = .ok (.if_icmp .eq 298, 3) := by decide +kernel
theorem dL_law_655 : decode cL_law 655 = .ok (.iconst 0, 1) := by decide +kernel
theorem dL_law_656 : decode cL_law 656 = .ok (.ireturn, 1) := by decide +kernel
theorem dL_law_657 : decode cL_law 657 = .ok (.aload_n 1, 1) := by decide +kernel
theorem dL_law_658 : decode cL_law 658 = .ok (.aload_n 0, 1) := by decide +kernel
theorem dL_law_659 : decode cL_law 659 = .ok (.iload_n 3, 1) := by decide +kernel
theorem dL_law_660 : decode cL_law 660 = .ok (.iconst 1, 1) := by decide +kernel
theorem dL_law_661 : decode cL_law 661 = .ok (.iadd, 1) := by decide +kernel
theorem dL_law_662 : decode cL_law 662 = .ok (.iaload, 1) := by decide +kernel
theorem dL_law_663 : decode cL_law 663 = .ok (.invokevirtual 77, 3) := by decide +kernel
theorem dL_law_666 : decode cL_law 666 = .ok (.aload_n 2, 1) := by decide +kernel
theorem dL_law_667 : decode cL_law 667 = .ok (.aload_n 0, 1) := by decide +kernel
theorem dL_law_668 : decode cL_law 668 = .ok (.iload_n 3, 1) := by decide +kernel
theorem dL_law_669 : decode cL_law 669 = .ok (.iconst 1, 1) := by decide +kernel
theorem dL_law_670 : decode cL_law 670 = .ok (.iadd, 1) := by decide +kernel
theorem dL_law_671 : decode cL_law 671 = .ok (.iaload, 1) := by decide +kernel
theorem dL_law_672 : decode cL_law 672 = .ok (.invokevirtual 80, 3) := by decide +kernel
theorem dL_law_675 : decode cL_law 675 = .ok (.if_icmp .eq 275, 3) := by decide +kernel
theorem dL_law_678 : decode cL_law 678 = .ok (.iconst 0, 1) := by decide +kernel
theorem dL_law_679 : decode cL_law 679 = .ok (.ireturn, 1) := by decide +kernel
theorem dL_law_680 : decode cL_law 680 = .ok (.aload_n 1, 1) := by decide +kernel
theorem dL_law_681 : decode cL_law 681 = .ok (.aload_n 0, 1) := by decide +kernel
theorem dL_law_682 : decode cL_law 682 = .ok (.iload_n 3, 1) := by decide +kernel
theorem dL_law_683 : decode cL_law 683 = .ok (.iconst 1, 1) := by decide +kernel
theorem dL_law_684 : decode cL_law 684 = .ok (.iadd, 1) := by decide +kernel
theorem dL_law_685 : decode cL_law 685 = .ok (.iaload, 1) := by decide +kernel
theorem dL_law_686 : decode cL_law 686 = .ok (.invokevirtual 81, 3) := by decide +kernel
theorem dL_law_689 : decode cL_law 689 = .ok (.aload_n 2, 1) := by decide +kernel
theorem dL_law_690 : decode cL_law 690 = .ok (.aload_n 0, 1) := by decide +kernel
theorem dL_law_691 : decode cL_law 691 = .ok (.iload_n 3, 1) := by decide +kernel
theorem dL_law_692 : decode cL_law 692 = .ok (.iconst 1, 1) := by decide +kernel
theorem dL_law_693 : decode cL_law 693 = .ok (.iadd, 1) := by decide +kernel
theorem dL_law_694 : decode cL_law 694 = .ok (.iaload, 1) := by decide +kernel
theorem dL_law_695 : decode cL_law 695 = .ok (.invokevirtual 84, 3) := by decide +kernel
theorem dL_law_698 : decode cL_law 698 = .ok (.if_icmp .eq 252, 3) := by decide +kernel
theorem dL_law_701 : decode cL_law 701 = .ok (.iconst 0, 1) := by decide +kernel
theorem dL_law_702 : decode cL_law 702 = .ok (.ireturn, 1) := by decide +kernel
theorem dL_law_703 : decode cL_law 703 = .ok (.aload_n 1, 1) := by decide +kernel
theorem dL_law_704 : decode cL_law 704 = .ok (.aload_n 0, 1) := by decide +kernel
theorem dL_law_705 : decode cL_law 705 = .ok (.iload_n 3, 1) := by decide +kernel
theorem dL_law_706 : decode cL_law 706 = .ok (.iconst 1, 1) := by decide +kernel
theorem dL_law_707 : decode cL_law 707 = .ok (.iadd, 1) := by decide +kernel
theorem dL_law_708 : decode cL_law 708 = .ok (.iaload, 1) := by decide +kernel
theorem dL_law_709 : decode cL_law 709 = .ok (.aload_n 0, 1) := by decide +kernel
theorem dL_law_710 : decode cL_law 710 = .ok (.iload_n 3, 1) := by decide +kernel
theorem dL_law_711 : decode cL_law 711 = .ok (.iconst 2, 1) := by decide +kernel
theorem dL_law_712 : decode cL_law 712 = .ok (.iadd, 1) := by decide +kernel
theorem dL_law_713 : decode cL_law 713 = .ok (.iaload, 1) := by decide +kernel
theorem dL_law_714 : decode cL_law 714 = .ok (.invokevirtual 85, 3) := by decide +kernel
theorem dL_law_717 : decode cL_law 717 = .ok (.aload_n 2, 1) := by decide +kernel
theorem dL_law_718 : decode cL_law 718 = .ok (.aload_n 0, 1) := by decide +kernel
theorem dL_law_719 : decode cL_law 719 = .ok (.iload_n 3, 1) := by decide +kernel
theorem dL_law_720 : decode cL_law 720 = .ok (.iconst 1, 1) := by decide +kernel
theorem dL_law_721 : decode cL_law 721 = .ok (.iadd, 1) := by decide +kernel
theorem dL_law_722 : decode cL_law 722 = .ok (.iaload, 1) := by decide +kernel
theorem dL_law_723 : decode cL_law 723 = .ok (.aload_n 0, 1) := by decide +kernel
theorem dL_law_724 : decode cL_law 724 = .ok (.iload_n 3, 1) := by decide +kernel
theorem dL_law_725 : decode cL_law 725 = .ok (.iconst 2, 1) := by decide +kernel
theorem dL_law_726 : decode cL_law 726 = .ok (.iadd, 1) := by decide +kernel
theorem dL_law_727 : decode cL_law 727 = .ok (.iaload, 1) := by decide +kernel
theorem dL_law_728 : decode cL_law 728 = .ok (.invokevirtual 88, 3) := by decide +kernel
theorem dL_law_731 : decode cL_law 731 = .ok (.if_icmp .eq 219, 3) := by decide +kernel
theorem dL_law_734 : decode cL_law 734 = .ok (.iconst 0, 1) := by decide +kernel
theorem dL_law_735 : decode cL_law 735 = .ok (.ireturn, 1) := by decide +kernel
theorem dL_law_736 : decode cL_law 736 = .ok (.aload_n 1, 1) := by decide +kernel
theorem dL_law_737 : decode cL_law 737 = .ok (.aload_n 0, 1) := by decide +kernel
theorem dL_law_738 : decode cL_law 738 = .ok (.iload_n 3, 1) := by decide +kernel
theorem dL_law_739 : decode cL_law 739 = .ok (.iconst 1, 1) := by decide +kernel
theorem dL_law_740 : decode cL_law 740 = .ok (.iadd, 1) := by decide +kernel
theorem dL_law_741 : decode cL_law 741 = .ok (.iaload, 1) := by decide +kernel
theorem dL_law_742 : decode cL_law 742 = .ok (.aload_n 0, 1) := by decide +kernel
theorem dL_law_743 : decode cL_law 743 = .ok (.iload_n 3, 1) := by decide +kernel
theorem dL_law_744 : decode cL_law 744 = .ok (.iconst 2, 1) := by decide +kernel
theorem dL_law_745 : decode cL_law 745 = .ok (.iadd, 1) := by decide +kernel
theorem dL_law_746 : decode cL_law 746 = .ok (.iaload, 1) := by decide +kernel
theorem dL_law_747 : decode cL_law 747 = .ok (.invokevirtual 89, 3) := by decide +kernel
theorem dL_law_750 : decode cL_law 750 = .ok (.aload_n 2, 1) := by decide +kernel
theorem dL_law_751 : decode cL_law 751 = .ok (.aload_n 0, 1) := by decide +kernel
theorem dL_law_752 : decode cL_law 752 = .ok (.iload_n 3, 1) := by decide +kernel
theorem dL_law_753 : decode cL_law 753 = .ok (.iconst 1, 1) := by decide +kernel
theorem dL_law_754 : decode cL_law 754 = .ok (.iadd, 1) := by decide +kernel
theorem dL_law_755 : decode cL_law 755 = .ok (.iaload, 1) := by decide +kernel
theorem dL_law_756 : decode cL_law 756 = .ok (.aload_n 0, 1) := by decide +kernel
theorem dL_law_757 : decode cL_law 757 = .ok (.iload_n 3, 1) := by decide +kernel
theorem dL_law_758 : decode cL_law 758 = .ok (.iconst 2, 1) := by decide +kernel
theorem dL_law_759 : decode cL_law 759 = .ok (.iadd, 1) := by decide +kernel
theorem dL_law_760 : decode cL_law 760 = .ok (.iaload, 1) := by decide +kernel
theorem dL_law_761 : decode cL_law 761 = .ok (.invokevirtual 92, 3) := by decide +kernel
theorem dL_law_764 : decode cL_law 764 = .ok (.if_icmp .eq 186, 3) := by decide +kernel
theorem dL_law_767 : decode cL_law 767 = .ok (.iconst 0, 1) := by decide +kernel
theorem dL_law_768 : decode cL_law 768 = .ok (.ireturn, 1) := by decide +kernel
theorem dL_law_769 : decode cL_law 769 = .ok (.aload_n 1, 1) := by decide +kernel
theorem dL_law_770 : decode cL_law 770 = .ok (.aload_n 0, 1) := by decide +kernel
theorem dL_law_771 : decode cL_law 771 = .ok (.iload_n 3, 1) := by decide +kernel
theorem dL_law_772 : decode cL_law 772 = .ok (.iconst 1, 1) := by decide +kernel
theorem dL_law_773 : decode cL_law 773 = .ok (.iadd, 1) := by decide +kernel
theorem dL_law_774 : decode cL_law 774 = .ok (.iaload, 1) := by decide +kernel
theorem dL_law_775 : decode cL_law 775 = .ok (.aload_n 0, 1) := by decide +kernel
theorem dL_law_776 : decode cL_law 776 = .ok (.iload_n 3, 1) := by decide +kernel
theorem dL_law_777 : decode cL_law 777 = .ok (.iconst 2, 1) := by decide +kernel
theorem dL_law_778 : decode cL_law 778 = .ok (.iadd, 1) := by decide +kernel
theorem dL_law_779 : decode cL_law 779 = .ok (.iaload, 1) := by decide +kernel
theorem dL_law_780 : decode cL_law 780 = .ok (.invokevirtual 93, 3) := by decide +kernel
theorem dL_law_783 : decode cL_law 783 = .ok (.aload_n 2, 1) := by decide +kernel
theorem dL_law_784 : decode cL_law 784 = .ok (.aload_n 0, 1) := by decide +kernel
theorem dL_law_785 : decode cL_law 785 = .ok (.iload_n 3, 1) := by decide +kernel
theorem dL_law_786 : decode cL_law 786 = .ok (.iconst 1, 1) := by decide +kernel
theorem dL_law_787 : decode cL_law 787 = .ok (.iadd, 1) := by decide +kernel
theorem dL_law_788 : decode cL_law 788 = .ok (.iaload, 1) := by decide +kernel
theorem dL_law_789 : decode cL_law 789 = .ok (.aload_n 0, 1) := by decide +kernel
theorem dL_law_790 : decode cL_law 790 = .ok (.iload_n 3, 1) := by decide +kernel
theorem dL_law_791 : decode cL_law 791 = .ok (.iconst 2, 1) := by decide +kernel
theorem dL_law_792 : decode cL_law 792 = .ok (.iadd, 1) := by decide +kernel
theorem dL_law_793 : decode cL_law 793 = .ok (.iaload, 1) := by decide +kernel
theorem dL_law_794 : decode cL_law 794 = .ok (.invokevirtual 96, 3) := by decide +kernel
theorem dL_law_797 : decode cL_law 797 = .ok (.if_icmp .eq 153, 3) := by decide +kernel
theorem dL_law_800 : decode cL_law 800 = .ok (.iconst 0, 1) := by decide +kernel
theorem dL_law_801 : decode cL_law 801 = .ok (.ireturn, 1) := by decide +kernel
theorem dL_law_802 : decode cL_law 802 = .ok (.aload_n 1, 1) := by decide +kernel
theorem dL_law_803 : decode cL_law 803 = .ok (.aload_n 0, 1) := by decide +kernel
theorem dL_law_804 : decode cL_law 804 = .ok (.iload_n 3, 1) := by decide +kernel
theorem dL_law_805 : decode cL_law 805 = .ok (.iconst 1, 1) := by decide +kernel
theorem dL_law_806 : decode cL_law 806 = .ok (.iadd, 1) := by decide +kernel
theorem dL_law_807 : decode cL_law 807 = .ok (.iaload, 1) := by decide +kernel
theorem dL_law_808 : decode cL_law 808 = .ok (.aload_n 0, 1) := by decide +kernel
theorem dL_law_809 : decode cL_law 809 = .ok (.iload_n 3, 1) := by decide +kernel
theorem dL_law_810 : decode cL_law 810 = .ok (.iconst 2, 1) := by decide +kernel
theorem dL_law_811 : decode cL_law 811 = .ok (.iadd, 1) := by decide +kernel
theorem dL_law_812 : decode cL_law 812 = .ok (.iaload, 1) := by decide +kernel
theorem dL_law_813 : decode cL_law 813 = .ok (.invokevirtual 97, 3) := by decide +kernel
theorem dL_law_816 : decode cL_law 816 = .ok (.aload_n 2, 1) := by decide +kernel
theorem dL_law_817 : decode cL_law 817 = .ok (.aload_n 0, 1) := by decide +kernel
theorem dL_law_818 : decode cL_law 818 = .ok (.iload_n 3, 1) := by decide +kernel
theorem dL_law_819 : decode cL_law 819 = .ok (.iconst 1, 1) := by decide +kernel
theorem dL_law_820 : decode cL_law 820 = .ok (.iadd, 1) := by decide +kernel
theorem dL_law_821 : decode cL_law 821 = .ok (.iaload, 1) := by decide +kernel
theorem dL_law_822 : decode cL_law 822 = .ok (.aload_n 0, 1) := by decide +kernel
theorem dL_law_823 : decode cL_law 823 = .ok (.iload_n 3, 1) := by decide +kernel
theorem dL_law_824 : decode cL_law 824 = .ok (.iconst 2, 1) := by decide +kernel
theorem dL_law_825 : decode cL_law 825 = .ok (.iadd, 1) := by decide +kernel
theorem dL_law_826 : decode cL_law 826 = .ok (.iaload, 1) := by decide +kernel
theorem dL_law_827 : decode cL_law 827 = .ok (.invokevirtual 100, 3) := by decide +kernel
theorem dL_law_830 : decode cL_law 830 = .ok (.if_icmp .eq 120, 3) := by decide +kernel
theorem dL_law_833 : decode cL_law 833 = .ok (.iconst 0, 1) := by decide +kernel
theorem dL_law_834 : decode cL_law 834 = .ok (.ireturn, 1) := by decide +kernel
theorem dL_law_835 : decode cL_law 835 = .ok (.aload_n 1, 1) := by decide +kernel
theorem dL_law_836 : decode cL_law 836 = .ok (.invokevirtual 101, 3) := by decide +kernel
theorem dL_law_839 : decode cL_law 839 = .ok (.aload_n 2, 1) := by decide +kernel
theorem dL_law_840 : decode cL_law 840 = .ok (.invokevirtual 105, 3) := by decide +kernel
theorem dL_law_843 : decode cL_law 843 = .ok (.if_icmp .eq 107, 3) := by decide +kernel
theorem dL_law_846 : decode cL_law 846 = .ok (.iconst 0, 1) := by decide +kernel
theorem dL_law_847 : decode cL_law 847 = .ok (.ireturn, 1) := by decide +kernel
theorem dL_law_848 : decode cL_law 848 = .ok (.aload_n 1, 1) := by decide +kernel
theorem dL_law_849 : decode cL_law 849 = .ok (.aload_n 0, 1) := by decide +kernel
theorem dL_law_850 : decode cL_law 850 = .ok (.iload_n 3, 1) := by decide +kernel
theorem dL_law_851 : decode cL_law 851 = .ok (.iconst 1, 1) := by decide +kernel
theorem dL_law_852 : decode cL_law 852 = .ok (.iadd, 1) := by decide +kernel
theorem dL_law_853 : decode cL_law 853 = .ok (.iaload, 1) := by decide +kernel
theorem dL_law_854 : decode cL_law 854 = .ok (.aload_n 0, 1) := by decide +kernel
theorem dL_law_855 : decode cL_law 855 = .ok (.iload_n 3, 1) := by decide +kernel
theorem dL_law_856 : decode cL_law 856 = .ok (.iconst 2, 1) := by decide +kernel
theorem dL_law_857 : decode cL_law 857 = .ok (.iadd, 1) := by decide +kernel
theorem dL_law_858 : decode cL_law 858 = .ok (.iaload, 1) := by decide +kernel
theorem dL_law_859 : decode cL_law 859 = .ok (.invokevirtual 106, 3) := by decide +kernel
theorem dL_law_862 : decode cL_law 862 = .ok (.aload_n 2, 1) := by decide +kernel
theorem dL_law_863 : decode cL_law 863 = .ok (.aload_n 0, 1) := by decide +kernel
theorem dL_law_864 : decode cL_law 864 = .ok (.iload_n 3, 1) := by decide +kernel
theorem dL_law_865 : decode cL_law 865 = .ok (.iconst 1, 1) := by decide +kernel
theorem dL_law_866 : decode cL_law 866 = .ok (.iadd, 1) := by decide +kernel
theorem dL_law_867 : decode cL_law 867 = .ok (.iaload, 1) := by decide +kernel
theorem dL_law_868 : decode cL_law 868 = .ok (.aload_n 0, 1) := by decide +kernel
theorem dL_law_869 : decode cL_law 869 = .ok (.iload_n 3, 1) := by decide +kernel
theorem dL_law_870 : decode cL_law 870 = .ok (.iconst 2, 1) := by decide +kernel
theorem dL_law_871 : decode cL_law 871 = .ok (.iadd, 1) := by decide +kernel
theorem dL_law_872 : decode cL_law 872 = .ok (.iaload, 1) := by decide +kernel
theorem dL_law_873 : decode cL_law 873 = .ok (.invokevirtual 109, 3) := by decide +kernel
theorem dL_law_876 : decode cL_law 876 = .ok (.if_icmp .eq 74, 3) := by decide +kernel
theorem dL_law_879 : decode cL_law 879 = .ok (.iconst 0, 1) := by decide +kernel
theorem dL_law_880 : decode cL_law 880 = .ok (.ireturn, 1) := by decide +kernel
theorem dL_law_881 : decode cL_law 881 = .ok (.aload_n 1, 1) := by decide +kernel
theorem dL_law_882 : decode cL_law 882 = .ok (.aload_n 0, 1) := by decide +kernel
theorem dL_law_883 : decode cL_law 883 = .ok (.iload_n 3, 1) := by decide +kernel
theorem dL_law_884 : decode cL_law 884 = .ok (.iconst 1, 1) := by decide +kernel
theorem dL_law_885 : decode cL_law 885 = .ok (.iadd, 1) := by decide +kernel
theorem dL_law_886 : decode cL_law 886 = .ok (.iaload, 1) := by decide +kernel
theorem dL_law_887 : decode cL_law 887 = .ok (.invokevirtual 110, 3) := by decide +kernel
theorem dL_law_890 : decode cL_law 890 = .ok (.aload_n 2, 1) := by decide +kernel
theorem dL_law_891 : decode cL_law 891 = .ok (.aload_n 0, 1) := by decide +kernel
theorem dL_law_892 : decode cL_law 892 = .ok (.iload_n 3, 1) := by decide +kernel
theorem dL_law_893 : decode cL_law 893 = .ok (.iconst 1, 1) := by decide +kernel
theorem dL_law_894 : decode cL_law 894 = .ok (.iadd, 1) := by decide +kernel
theorem dL_law_895 : decode cL_law 895 = .ok (.iaload, 1) := by decide +kernel
theorem dL_law_896 : decode cL_law 896 = .ok (.invokevirtual 113, 3) := by decide +kernel
theorem dL_law_899 : decode cL_law 899 = .ok (.if_icmp .eq 51, 3) := by decide +kernel
theorem dL_law_902 : decode cL_law 902 = .ok (.iconst 0, 1) := by decide +kernel
theorem dL_law_903 : decode cL_law 903 = .ok (.ireturn, 1) := by decide +kernel
theorem dL_law_904 : decode cL_law 904 = .ok (.aload_n 1, 1) := by decide +kernel
theorem dL_law_905 : decode cL_law 905 = .ok (.aload_n 0, 1) := by decide +kernel
theorem dL_law_906 : decode cL_law 906 = .ok (.iload_n 3, 1) := by decide +kernel
theorem dL_law_907 : decode cL_law 907 = .ok (.iconst 1, 1) := by decide +kernel
theorem dL_law_908 : decode cL_law 908 = .ok (.iadd, 1) := by decide +kernel
theorem dL_law_909 : decode cL_law 909 = .ok (.iaload, 1) := by decide +kernel
theorem dL_law_910 : decode cL_law 910 = .ok (.invokevirtual 114, 3) := by decide +kernel
theorem dL_law_913 : decode cL_law 913 = .ok (.aload_n 2, 1) := by decide +kernel
theorem dL_law_914 : decode cL_law 914 = .ok (.aload_n 0, 1) := by decide +kernel
theorem dL_law_915 : decode cL_law 915 = .ok (.iload_n 3, 1) := by decide +kernel
theorem dL_law_916 : decode cL_law 916 = .ok (.iconst 1, 1) := by decide +kernel
theorem dL_law_917 : decode cL_law 917 = .ok (.iadd, 1) := by decide +kernel
theorem dL_law_918 : decode cL_law 918 = .ok (.iaload, 1) := by decide +kernel
theorem dL_law_919 : decode cL_law 919 = .ok (.invokevirtual 117, 3) := by decide +kernel
theorem dL_law_922 : decode cL_law 922 = .ok (.if_icmp .eq 28, 3) := by decide +kernel
theorem dL_law_925 : decode cL_law 925 = .ok (.iconst 0, 1) := by decide +kernel
theorem dL_law_926 : decode cL_law 926 = .ok (.ireturn, 1) := by decide +kernel
theorem dL_law_927 : decode cL_law 927 = .ok (.aload_n 1, 1) := by decide +kernel
theorem dL_law_928 : decode cL_law 928 = .ok (.aload_n 0, 1) := by decide +kernel
theorem dL_law_929 : decode cL_law 929 = .ok (.iload_n 3, 1) := by decide +kernel
theorem dL_law_930 : decode cL_law 930 = .ok (.iconst 1, 1) := by decide +kernel
theorem dL_law_931 : decode cL_law 931 = .ok (.iadd, 1) := by decide +kernel
theorem dL_law_932 : decode cL_law 932 = .ok (.iaload, 1) := by decide +kernel
theorem dL_law_933 : decode cL_law 933 = .ok (.invokevirtual 118, 3) := by decide +kernel
theorem dL_law_936 : decode cL_law 936 = .ok (.aload_n 2, 1) := by decide +kernel
theorem dL_law_937 : decode cL_law 937 = .ok (.aload_n 0, 1) := by decide +kernel
theorem dL_law_938 : decode cL_law 938 = .ok (.iload_n 3, 1) := by decide +kernel
theorem dL_law_939 : decode cL_law 939 = .ok (.iconst 1, 1) := by decide +kernel
theorem dL_law_940 : decode cL_law 940 = .ok (.iadd, 1) := by decide +kernel
theorem dL_law_941 : decode cL_law 941 = .ok (.iaload, 1) := by decide +kernel
theorem dL_law_942 : decode cL_law 942 = .ok (.invokevirtual 121, 3) := by decide +kernel
theorem dL_law_945 : decode cL_law 945 = .ok (.if_icmp .eq 5, 3) := by decide +kernel
theorem dL_law_948 : decode cL_law 948 = .ok (.iconst 0, 1) := by decide +kernel
theorem dL_law_949 : decode cL_law 949 = .ok (.ireturn, 1) := by decide +kernel
theorem dL_law_950 : decode cL_law 950 = .ok (.iinc 3 6, 3) := by decide +kernel
theorem dL_law_953 : decode cL_law 953 = .ok (.goto (-935), 3) := by decide +kernel
theorem dL_law_956 : decode cL_law 956 = .ok (.iconst 1, 1) := by decide +kernel
theorem dL_law_957 : decode cL_law 957 = .ok (.ireturn, 1) := by decide +kernel
end
section
theorem kt_RX8_119 : Cond.fieldLink RX8 119 RX8 "MOST_TOLD" "[I" ∈ tb := tb_in (List.mem_of_getElem? (i := 372) (by decide +kernel)) rfl
/-! the JDK's members that the class calls: Arrays.fill on a row of ints, a constant String's own methods -/
abbrev rm_J7_fill_53178 : Room := { frames := 0, cells := 0, slots := 0, locals := 0 }
def C_J7_fill_53178 (l : Launch) (G : Gt) (E : Et) (V : Vt) (f : Nat) (x : Int32) (K : Vt → Prop) : Prop := Cl l G yJ7_fill_53178 cJ7_fill_53178 4 none rm_J7_fill_53178 E V [.ref (eA E f 0), .int x] (Qv E K)
def fillV (V : Vt) (f a b : Nat) (x : Int32) : Vt := fun f' i' j' => if f' = f ∧ i' = 0 ∧ a ≤ j' ∧ j' < b then x else V f' i' j'
theorem fillV_step (V : Vt) (f a b : Nat) (x : Int32) (h : a < b) : fillV (up3 V f 0 a x) f (a + 1) b x = fillV V f a b x := by
  funext f' i' j'
  unfold fillV up3
  by_cases h1 : f' = f ∧ i' = 0 ∧ a + 1 ≤ j' ∧ j' < b
  · rw [if_pos h1, if_pos ⟨h1.1, h1.2.1, by omega, h1.2.2.2⟩]
  · rw [if_neg h1]
    by_cases h2 : f' = f ∧ i' = 0 ∧ j' = a
    · rw [if_pos h2, if_pos ⟨h2.1, h2.2.1, by omega, by omega⟩]
    · rw [if_neg h2, if_neg (fun q => by
        rcases Nat.lt_or_ge a j' with z | z
        · exact h1 ⟨q.1, q.2.1, z, q.2.2.2⟩
        · exact h2 ⟨q.1, q.2.1, by omega⟩)]
theorem fillV_nil (V : Vt) (f a : Nat) (x : Int32) : fillV V f a a x = V := by
  funext f' i' j'
  unfold fillV
  rw [if_neg (fun q => by omega)]
theorem fill_loop {l : Launch} {G : Gt} {E : Et} {f : Nat} {x : Int32} {K : Vt → Prop} (hf : kdo f = 1) (hid : 100 ≤ f) (hlv : eL E (f / 100 - 1) 0) {n : Nat} (hN : eN E f 0 = n) (hn : n < 2 ^ 31) :
    ∀ (m j : Nat) (V : Vt), j + m = n → K (fillV V f j n x) → Ev l G "java/util/Arrays" cJ7_fill_53178 4 none rm_J7_fill_53178 E 0 0 V 5 [(0, .ref (eA E f 0)), (1, .int x), (2, .int (nI j)), (3, .int (nI n))] [] (Qv E K) := by
  intro m
  induction m with
  | zero =>
    intro j V hj h
    have hj : j = n := by omega
    subst hj
    rw [fillV_nil] at h
    refine r_iload_n (x := nI j) dJ7_fill_53178_5 rfl ?_
    refine r_iload_n (x := nI j) dJ7_fill_53178_6 rfl ?_
    refine r_icmp_ge 20 dJ7_fill_53178_7 (by decide) (fun q => ?_) (fun q => ?_)
    · exact r_vret dJ7_fill_53178_20 rfl ⟨Nat.le_of_ble_eq_true rfl, Nat.le_of_ble_eq_true rfl⟩ ⟨rfl, rfl, h⟩
    · exact absurd (nI_le (Nat.le_refl j) hn) q
  | succ m ih =>
    intro j V hj h
    refine r_iload_n (x := nI j) dJ7_fill_53178_5 rfl ?_
    refine r_iload_n (x := nI n) dJ7_fill_53178_6 rfl ?_
    refine r_icmp_ge 20 dJ7_fill_53178_7 (by decide) (fun q => ?_) (fun q => ?_)
    · exact absurd q (nI_ge (by omega) hn)
    · refine r_aload_n (v := .ref (eA E f 0)) dJ7_fill_53178_10 rfl (rl_ref _) ?_
      refine r_iload_n (x := nI j) dJ7_fill_53178_11 rfl ?_
      refine r_iload_n (x := x) dJ7_fill_53178_12 rfl ?_
      refine r_iast dJ7_fill_53178_13 hf hid hlv (by rw [hN]; exact vp_in_nI (by omega) hn) ?_
      refine r_iinc (x := nI j) (v := (1 : Int32)) dJ7_fill_53178_14 rfl (by decide) (by decide) ?_
      refine r_goto 5 dJ7_fill_53178_17 (by decide) ?_
      rw [nI_clamp (by omega), nI_1]
      exact Ev.loc [0, 1, 2, 3] rfl (ih (j + 1) (up3 V f 0 j x) (by omega) (by rw [fillV_step _ _ _ _ _ (by omega)]; exact h))
theorem fill_spec {l : Launch} {G : Gt} {E : Et} {V : Vt} {f : Nat} {x : Int32} {K : Vt → Prop} (hf : kdo f = 1) (hid : 100 ≤ f) (hlv : eL E (f / 100 - 1) 0) {n : Nat} (hN : eN E f 0 = n) (hn : n < 2 ^ 31) (h : K (fillV V f 0 n x)) : C_J7_fill_53178 l G E V f x K := by
  refine Cl.of (by decide +kernel) (Nat.le_of_ble_eq_true rfl) (show Ev l G "java/util/Arrays" cJ7_fill_53178 4 none rm_J7_fill_53178 E 0 0 V 0 [(0, .ref (eA E f 0)), (1, .int x)] [] (Qv E K) from ?_)
  refine r_iconst (v := (0 : Int32)) dJ7_fill_53178_0 (by decide) ?_
  refine r_istore_n dJ7_fill_53178_1 (by decide) ?_
  refine r_aload_n (v := .ref (eA E f 0)) dJ7_fill_53178_2 rfl (rl_ref _) ?_
  refine r_alenI dJ7_fill_53178_3 hf hid hlv ?_
  refine r_istore_n dJ7_fill_53178_4 (by decide) ?_
  rw [hN]
  exact Ev.loc [0, 1, 2, 3] rfl (fill_loop hf hid hlv hN hn n 0 V (by omega) h)
section CallStr
variable {l : Launch} {G : Gt} {own : String} {cc : ByteArray} {nL : Nat} {ret : Option FieldType} {rm : Room} {E : Et} {V : Vt} {pc : Nat} {ll : List (Nat × Value)} {st : List Value} {Q : Option Value → Et → Vt → Prop}
theorem r_cStr {idx w na nY : Nat} {y : MethodName} {cy : ByteArray} {ry : Option FieldType} {rY : Room} {As rest : List Value} {K : Int32 → Vt → Prop} (hd : decode cc pc = .ok (.invokevirtual idx, 3)) (hm : MV y cy nY ry na) (hlink : Cond.methodLink own idx y ∈ tb) (hy : y.cls = "java/lang/String") (hw : w < 2) (hrm : rY.frames + 1 ≤ rm.frames ∧ 8 + (nY + 11) + rY.locals ≤ rm.locals) (h0 : rY.cells = 0 ∧ rY.slots = 0) (hna : As.length = na) (hst : st = As.reverse ++ .ref (gK G w) :: rest) (hcat : (rest.map fun v => v.category).sum ≤ 8)
    (hC : Cl l G y cy nY ry rY E V (.ref (gK G w) :: As) (Qi E K)) (kk : ∀ x V', K x V' → Ev l G own cc nL ret rm E 0 0 V' (pc + 3) ll (.int x :: rest) Q) : Ev l G own cc nL ret rm E 0 0 V pc ll st Q := by
  have hcs : 0 + rY.cells ≤ rm.cells ∧ 0 + rY.slots ≤ rm.slots := by rw [h0.1, h0.2]; exact ⟨Nat.zero_le _, Nat.zero_le _⟩
  intro p e s m args below meth c H locs ls C hR hL hl
  obtain ⟨hx, hb, hr, hml, ho, hts, hlk, hK⟩ := And.intro True.intro C |>.2
  obtain ⟨m1, m2, m3, m4, m5, m6, m7⟩ := hm
  subst hst
  have hrecv : ∃ cellB : Cell, H[gK G w]? = some cellB ∧ cellB.vm.isStatics = false ∧ s.vm.findClass y.cls = some cellB.cls := by
    obtain ⟨cell, g1, g2, g3, -⟩ := (hK.2.2.2.2.2.1.1 w hw).1
    exact ⟨cell, by rw [hR.1 _ (Array.getElem?_eq_some_iff.mp g1).1]; exact g1, g2, by rw [hy]; exact g3⟩
  have hcb : CallB rm s args own idx y cy nY ry (Cond.code y cy nY ry :: tb) rY rY.cells rY.slots na := callB_of na hts (tb_GoodIn m1) rfl rfl rfl (hts _ m4) (hts _ hlink) ⟨m5, m6, m7⟩ hrm
  have hrun := va_runV (e := e) (below := below) (meth := meth) (locs := locs) (g := F0 m pc ls (As.reverse ++ .ref (gK G w) :: rest)) (rest := rest) ⟨hx, hb, hml, ho, hts⟩ hC ⟨hcb, hts _ m2, hts _ m3⟩ ⟨blind _, hrecv, fun U hU hW => ⟨rfl, hK.warm hW, by rw [hU]; exact hR⟩⟩ rfl hna hl.1 rfl (lv_room hcat) hd hcs
  intro T0 hT0 X
  obtain ⟨v, st₀, t, T', L, z0, X', zL, z1, z2, ⟨r, E', V', w1, w2, w3⟩, z3⟩ := hrun T0 hT0 X
  cases w1
  obtain ⟨rfl, x, rfl, hk⟩ := w2
  rw [h0.1, h0.2] at X'
  obtain ⟨t2, a1, b1⟩ := kk x V' hk p e s m args below meth c T'.heap (locs ++ L) ls C (by rw [z1]; exact w3) (fun q hq' => by
    rcases List.mem_append.mp hq' with h | h
    · exact hL q h
    · exact zL q h) hl T' rfl X'
  exact ⟨t2, z3 t2 a1, b1⟩
end CallStr
section MathRows
variable {l : Launch} {G : Gt} {own : String} {cc : ByteArray} {nL : Nat} {ret : Option FieldType} {rm : Room} {E : Et} {V : Vt} {pc : Nat} {ll : List (Nat × Value)} {st : List Value} {Q : Option Value → Et → Vt → Prop}
theorem r_mabs {idx : Nat} {x : Int32} (hd : decode cc pc = .ok (.invokestatic idx, 3)) (hlink : Cond.methodLink own idx yJ9_abs_0f7a4 ∈ tb) (hf : 1 ≤ rm.frames) (hlo : (st.map fun v => v.category).sum + 13 ≤ rm.locals) (kk : Ev l G own cc nL ret rm E 0 0 V (pc + 3) ll (.int (if 0 ≤ x then x else 0 - x) :: st) Q) : Ev l G own cc nL ret rm E 0 0 V pc ll (.int x :: st) Q := by
  intro p e s m args below meth c H locs ls C hR hL hl
  obtain ⟨hx, hb, hr, hml, ho, hts, hlk, hK⟩ := And.intro True.intro C |>.2
  exact va_mabs hx hb (by rw [hml]; exact hl.1.symm) ho (hts _ hlink) (hts _ ms_J9_abs_0f7a4.2.1) (hts _ ms_J9_abs_0f7a4.2.2.1) (hts _ ms_J9_abs_0f7a4.1) hf hlo (Nat.zero_le _) (Nat.zero_le _) hd (kk p e s m args below meth c H locs ls C hR hL hl)
theorem r_mmax {idx : Nat} {x y : Int32} (hd : decode cc pc = .ok (.invokestatic idx, 3)) (hlink : Cond.methodLink own idx yJ9_max_7cf53 ∈ tb) (hf : 1 ≤ rm.frames) (hlo : (st.map fun v => v.category).sum + 13 ≤ rm.locals) (kk : Ev l G own cc nL ret rm E 0 0 V (pc + 3) ll (.int (if x < y then y else x) :: st) Q) : Ev l G own cc nL ret rm E 0 0 V pc ll (.int y :: .int x :: st) Q := by
  intro p e s m args below meth c H locs ls C hR hL hl
  obtain ⟨hx, hb, hr, hml, ho, hts, hlk, hK⟩ := And.intro True.intro C |>.2
  exact va_mmax hx hb (by rw [hml]; exact hl.1.symm) ho (hts _ hlink) (hts _ ms_J9_max_7cf53.2.1) (hts _ ms_J9_max_7cf53.2.2.1) (hts _ ms_J9_max_7cf53.1) hf hlo (Nat.zero_le _) (Nat.zero_le _) hd (kk p e s m args below meth c H locs ls C hR hL hl)
theorem r_mmin {idx : Nat} {x y : Int32} (hd : decode cc pc = .ok (.invokestatic idx, 3)) (hlink : Cond.methodLink own idx yJ9_min_7cf53 ∈ tb) (hf : 1 ≤ rm.frames) (hlo : (st.map fun v => v.category).sum + 13 ≤ rm.locals) (kk : Ev l G own cc nL ret rm E 0 0 V (pc + 3) ll (.int (if y < x then y else x) :: st) Q) : Ev l G own cc nL ret rm E 0 0 V pc ll (.int y :: .int x :: st) Q := by
  intro p e s m args below meth c H locs ls C hR hL hl
  obtain ⟨hx, hb, hr, hml, ho, hts, hlk, hK⟩ := And.intro True.intro C |>.2
  exact va_mmin hx hb (by rw [hml]; exact hl.1.symm) ho (hts _ hlink) (hts _ ms_J9_min_7cf53.2.1) (hts _ ms_J9_min_7cf53.2.2.1) (hts _ ms_J9_min_7cf53.1) hf hlo (Nat.zero_le _) (Nat.zero_le _) hd (kk p e s m args below meth c H locs ls C hR hL hl)
end MathRows
abbrev rm_J0_indexOf_0f7a4 : Room := { frames := 6, cells := 0, slots := 0, locals := 138 }
def C_J0_indexOf_0f7a4 (l : Launch) (G : Gt) (E : Et) (V : Vt) (w : Nat) (x : Int32) (K : Int32 → Vt → Prop) : Prop := Cl l G yJ0_indexOf_0f7a4 cJ0_indexOf_0f7a4 2 (some .int) rm_J0_indexOf_0f7a4 E V [.ref (gK G w), .int x] (Qi E K)
end
section
abbrev rm_X0_isAhead : Room := { frames := 0, cells := 0, slots := 0, locals := 0 }
def C_X0_isAhead (l : Launch) (G : Gt) (E : Et) (V : Vt) (x1 : Int32) (K : Int32 → Vt → Prop) : Prop := Cl l G yX0_isAhead cX0_isAhead 2 (some .boolean) rm_X0_isAhead E V [.ref (eA E 0 0), .int x1] (Qi E K)
def vc_X0_isAhead (l : Launch) (G : Gt) (E : Et) (V : Vt) (x1 : Int32) (K : Int32 → Vt → Prop) : Prop := ((x1 < (V 101 0 0) → K (0 : Int32) V) ∧ (¬ x1 < (V 101 0 0) → (((1200 : Int32) < x1 → K (0 : Int32) V) ∧ (¬ (1200 : Int32) < x1 → K (1 : Int32) V))))
theorem ok_X0_isAhead {l : Launch} {G : Gt} {E : Et} {V : Vt} {x1 : Int32} {K : Int32 → Vt → Prop} (hE : Sg E)  (h : vc_X0_isAhead l G E V x1 K) : C_X0_isAhead l G E V x1 K := by
  unfold vc_X0_isAhead at h
  refine Cl.of (by decide +kernel) (Nat.le_of_ble_eq_true rfl) (show Ev l G RX0 cX0_isAhead 2 (some .boolean) rm_X0_isAhead E 0 0 V 0 [(0, .ref (eA E 0 0)), (1, .int x1)] [] (Qi E K) from ?_)
  refine r_iload_n (x := x1) dX0_isAhead_0 rfl ?_
  refine r_aload_n (v := .ref (eA E 0 0)) dX0_isAhead_1 rfl (rl_ref _) ?_
  refine r_get (v := .int (V 101 0 0)) dX0_isAhead_2 fl_RX0_15 (hE.1 0 (by decide)) rfl ?_
  refine r_icmp_lt 19 dX0_isAhead_5 (by decide) (fun q => ?_) (fun q => ?_)
  · have h := h.1 q
    refine r_iconst (v := (0 : Int32)) dX0_isAhead_19 (by decide) ?_
    exact r_zret dX0_isAhead_20 rfl rfl ⟨Nat.le_of_ble_eq_true rfl, Nat.le_of_ble_eq_true rfl⟩ ⟨rfl, _, rfl, h⟩
  · have h := h.2 q
    refine r_iload_n (x := x1) dX0_isAhead_8 rfl ?_
    refine r_sipush (v := (1200 : Int32)) dX0_isAhead_9 (by decide) ?_
    refine r_icmp_gt 19 dX0_isAhead_12 (by decide) (fun q => ?_) (fun q => ?_)
    · have h := h.1 q
      refine r_iconst (v := (0 : Int32)) dX0_isAhead_19 (by decide) ?_
      exact r_zret dX0_isAhead_20 rfl rfl ⟨Nat.le_of_ble_eq_true rfl, Nat.le_of_ble_eq_true rfl⟩ ⟨rfl, _, rfl, h⟩
    · have h := h.2 q
      refine r_iconst (v := (1 : Int32)) dX0_isAhead_15 (by decide) ?_
      refine r_goto 20 dX0_isAhead_16 (by decide) ?_
      exact r_zret dX0_isAhead_20 rfl rfl ⟨Nat.le_of_ble_eq_true rfl, Nat.le_of_ble_eq_true rfl⟩ ⟨rfl, _, rfl, h⟩
abbrev rm_X0_hasFrost : Room := { frames := 0, cells := 0, slots := 0, locals := 0 }
def C_X0_hasFrost (l : Launch) (G : Gt) (E : Et) (V : Vt) (x1 : Int32) (K : Int32 → Vt → Prop) : Prop := Cl l G yX0_hasFrost cX0_hasFrost 2 (some .boolean) rm_X0_hasFrost E V [.ref (eA E 0 0), .int x1] (Qi E K)
def vc_X0_hasFrost (l : Launch) (G : Gt) (E : Et) (V : Vt) (x1 : Int32) (K : Int32 → Vt → Prop) : Prop := (vp_in (x1 / (12 : Int32)) 101) ∧ (((((V 102 0 0) ||| (V 100 0 ((x1 / (12 : Int32))).toNatClampNeg)) &&& ((1 : Int32) <<< ((x1 - x1 / (12 : Int32) * (12 : Int32)) &&& 31))) = (0 : Int32) → K (0 : Int32) V) ∧ (¬ (((V 102 0 0) ||| (V 100 0 ((x1 / (12 : Int32))).toNatClampNeg)) &&& ((1 : Int32) <<< ((x1 - x1 / (12 : Int32) * (12 : Int32)) &&& 31))) = (0 : Int32) → K (1 : Int32) V))
theorem ok_X0_hasFrost {l : Launch} {G : Gt} {E : Et} {V : Vt} {x1 : Int32} {K : Int32 → Vt → Prop} (hE : Sg E)  (h : vc_X0_hasFrost l G E V x1 K) : C_X0_hasFrost l G E V x1 K := by
  unfold vc_X0_hasFrost at h
  refine Cl.of (by decide +kernel) (Nat.le_of_ble_eq_true rfl) (show Ev l G RX0 cX0_hasFrost 2 (some .boolean) rm_X0_hasFrost E 0 0 V 0 [(0, .ref (eA E 0 0)), (1, .int x1)] [] (Qi E K) from ?_)
  refine r_aload_n (v := .ref (eA E 0 0)) dX0_hasFrost_0 rfl (rl_ref _) ?_
  refine r_get (v := .int (V 102 0 0)) dX0_hasFrost_1 fl_RX0_19 (hE.1 0 (by decide)) rfl ?_
  refine r_aload_n (v := .ref (eA E 0 0)) dX0_hasFrost_4 rfl (rl_ref _) ?_
  refine r_get (v := .ref (eA E 100 0)) dX0_hasFrost_5 fl_RX0_9 (hE.1 0 (by decide)) rfl ?_
  refine r_iload_n (x := x1) dX0_hasFrost_8 rfl ?_
  refine r_bipush (v := (12 : Int32)) dX0_hasFrost_9 (by decide) ?_
  refine r_idiv dX0_hasFrost_11 (by decide) ?_
  obtain ⟨hb, h⟩ := h
  refine r_iald dX0_hasFrost_12 rfl (by decide) (hE.1 0 (by decide)) (ix hE (by decide) rfl hb) ?_
  refine r_ior dX0_hasFrost_13 ?_
  refine r_iconst (v := (1 : Int32)) dX0_hasFrost_14 (by decide) ?_
  refine r_iload_n (x := x1) dX0_hasFrost_15 rfl ?_
  refine r_bipush (v := (12 : Int32)) dX0_hasFrost_16 (by decide) ?_
  refine r_irem dX0_hasFrost_18 (by decide) ?_
  refine r_ishl dX0_hasFrost_19 ?_
  refine r_iand dX0_hasFrost_20 ?_
  refine r_if_eq 28 dX0_hasFrost_21 (by decide) (fun q => ?_) (fun q => ?_)
  · have h := h.1 q
    refine r_iconst (v := (0 : Int32)) dX0_hasFrost_28 (by decide) ?_
    exact r_zret dX0_hasFrost_29 rfl rfl ⟨Nat.le_of_ble_eq_true rfl, Nat.le_of_ble_eq_true rfl⟩ ⟨rfl, _, rfl, h⟩
  · have h := h.2 q
    refine r_iconst (v := (1 : Int32)) dX0_hasFrost_24 (by decide) ?_
    refine r_goto 29 dX0_hasFrost_25 (by decide) ?_
    exact r_zret dX0_hasFrost_29 rfl rfl ⟨Nat.le_of_ble_eq_true rfl, Nat.le_of_ble_eq_true rfl⟩ ⟨rfl, _, rfl, h⟩
abbrev rm_X0_makeBitter : Room := { frames := 0, cells := 0, slots := 0, locals := 0 }
def C_X0_makeBitter (l : Launch) (G : Gt) (E : Et) (V : Vt) (x1 : Int32) (K : Int32 → Vt → Prop) : Prop := Cl l G yX0_makeBitter cX0_makeBitter 4 (some .boolean) rm_X0_makeBitter E V [.ref (eA E 0 0), .int x1] (Qi E K)
def vc_X0_makeBitter (l : Launch) (G : Gt) (E : Et) (V : Vt) (x1 : Int32) (K : Int32 → Vt → Prop) : Prop := (vp_in (x1 / (12 : Int32)) 101) ∧ ((((V 100 0 ((x1 / (12 : Int32))).toNatClampNeg) &&& ((1 : Int32) <<< ((x1 - x1 / (12 : Int32) * (12 : Int32)) &&& 31))) = (0 : Int32) → (vp_in (x1 / (12 : Int32)) 101) ∧ (vp_in (x1 / (12 : Int32)) 101) ∧ ((¬ (0 : Int32) = (0 : Int32) → K (0 : Int32) (up3 V 100 0 ((x1 / (12 : Int32))).toNatClampNeg ((V 100 0 ((x1 / (12 : Int32))).toNatClampNeg) ||| ((1 : Int32) <<< ((x1 - x1 / (12 : Int32) * (12 : Int32)) &&& 31))))) ∧ ((0 : Int32) = (0 : Int32) → K (1 : Int32) (up3 V 100 0 ((x1 / (12 : Int32))).toNatClampNeg ((V 100 0 ((x1 / (12 : Int32))).toNatClampNeg) ||| ((1 : Int32) <<< ((x1 - x1 / (12 : Int32) * (12 : Int32)) &&& 31))))))) ∧ (¬ ((V 100 0 ((x1 / (12 : Int32))).toNatClampNeg) &&& ((1 : Int32) <<< ((x1 - x1 / (12 : Int32) * (12 : Int32)) &&& 31))) = (0 : Int32) → (vp_in (x1 / (12 : Int32)) 101) ∧ (vp_in (x1 / (12 : Int32)) 101) ∧ ((¬ (1 : Int32) = (0 : Int32) → K (0 : Int32) (up3 V 100 0 ((x1 / (12 : Int32))).toNatClampNeg ((V 100 0 ((x1 / (12 : Int32))).toNatClampNeg) ||| ((1 : Int32) <<< ((x1 - x1 / (12 : Int32) * (12 : Int32)) &&& 31))))) ∧ ((1 : Int32) = (0 : Int32) → K (1 : Int32) (up3 V 100 0 ((x1 / (12 : Int32))).toNatClampNeg ((V 100 0 ((x1 / (12 : Int32))).toNatClampNeg) ||| ((1 : Int32) <<< ((x1 - x1 / (12 : Int32) * (12 : Int32)) &&& 31))))))))
theorem ok_X0_makeBitter {l : Launch} {G : Gt} {E : Et} {V : Vt} {x1 : Int32} {K : Int32 → Vt → Prop} (hE : Sg E)  (h : vc_X0_makeBitter l G E V x1 K) : C_X0_makeBitter l G E V x1 K := by
  unfold vc_X0_makeBitter at h
  refine Cl.of (by decide +kernel) (Nat.le_of_ble_eq_true rfl) (show Ev l G RX0 cX0_makeBitter 4 (some .boolean) rm_X0_makeBitter E 0 0 V 0 [(0, .ref (eA E 0 0)), (1, .int x1)] [] (Qi E K) from ?_)
  refine r_iconst (v := (1 : Int32)) dX0_makeBitter_0 (by decide) ?_
  refine r_iload_n (x := x1) dX0_makeBitter_1 rfl ?_
  refine r_bipush (v := (12 : Int32)) dX0_makeBitter_2 (by decide) ?_
  refine r_irem dX0_makeBitter_4 (by decide) ?_
  refine r_ishl dX0_makeBitter_5 ?_
  refine r_istore_n dX0_makeBitter_6 (by decide) ?_
  refine r_aload_n (v := .ref (eA E 0 0)) dX0_makeBitter_7 rfl (rl_ref _) ?_
  refine r_get (v := .ref (eA E 100 0)) dX0_makeBitter_8 fl_RX0_9 (hE.1 0 (by decide)) rfl ?_
  refine r_iload_n (x := x1) dX0_makeBitter_11 rfl ?_
  refine r_bipush (v := (12 : Int32)) dX0_makeBitter_12 (by decide) ?_
  refine r_idiv dX0_makeBitter_14 (by decide) ?_
  obtain ⟨hb, h⟩ := h
  refine r_iald dX0_makeBitter_15 rfl (by decide) (hE.1 0 (by decide)) (ix hE (by decide) rfl hb) ?_
  refine r_iload_n (x := ((1 : Int32) <<< ((x1 - x1 / (12 : Int32) * (12 : Int32)) &&& 31))) dX0_makeBitter_16 rfl ?_
  refine r_iand dX0_makeBitter_17 ?_
  refine r_if_eq 25 dX0_makeBitter_18 (by decide) (fun q => ?_) (fun q => ?_)
  · have h := h.1 q
    refine r_iconst (v := (0 : Int32)) dX0_makeBitter_25 (by decide) ?_
    refine r_istore_n dX0_makeBitter_26 (by decide) ?_
    refine r_aload_n (v := .ref (eA E 0 0)) dX0_makeBitter_27 rfl (rl_ref _) ?_
    refine r_get (v := .ref (eA E 100 0)) dX0_makeBitter_28 fl_RX0_9 (hE.1 0 (by decide)) rfl ?_
    refine r_iload_n (x := x1) dX0_makeBitter_31 rfl ?_
    refine r_bipush (v := (12 : Int32)) dX0_makeBitter_32 (by decide) ?_
    refine r_idiv dX0_makeBitter_34 (by decide) ?_
    refine r_dup2 dX0_makeBitter_35 rfl rfl ?_
    obtain ⟨hb, h⟩ := h
    refine r_iald dX0_makeBitter_36 rfl (by decide) (hE.1 0 (by decide)) (ix hE (by decide) rfl hb) ?_
    refine r_iload_n (x := ((1 : Int32) <<< ((x1 - x1 / (12 : Int32) * (12 : Int32)) &&& 31))) dX0_makeBitter_37 rfl ?_
    refine r_ior dX0_makeBitter_38 ?_
    obtain ⟨hb, h⟩ := h
    refine r_iast dX0_makeBitter_39 rfl (by decide) (hE.1 0 (by decide)) (ix hE (by decide) rfl hb) ?_
    refine r_iload_n (x := (0 : Int32)) dX0_makeBitter_40 rfl ?_
    refine r_if_ne 48 dX0_makeBitter_41 (by decide) (fun q => ?_) (fun q => ?_)
    · have h := h.1 q
      refine r_iconst (v := (0 : Int32)) dX0_makeBitter_48 (by decide) ?_
      exact r_zret dX0_makeBitter_49 rfl rfl ⟨Nat.le_of_ble_eq_true rfl, Nat.le_of_ble_eq_true rfl⟩ ⟨rfl, _, rfl, h⟩
    · have h := h.2 q
      refine r_iconst (v := (1 : Int32)) dX0_makeBitter_44 (by decide) ?_
      refine r_goto 49 dX0_makeBitter_45 (by decide) ?_
      exact r_zret dX0_makeBitter_49 rfl rfl ⟨Nat.le_of_ble_eq_true rfl, Nat.le_of_ble_eq_true rfl⟩ ⟨rfl, _, rfl, h⟩
  · have h := h.2 q
    refine r_iconst (v := (1 : Int32)) dX0_makeBitter_21 (by decide) ?_
    refine r_goto 26 dX0_makeBitter_22 (by decide) ?_
    refine r_istore_n dX0_makeBitter_26 (by decide) ?_
    refine r_aload_n (v := .ref (eA E 0 0)) dX0_makeBitter_27 rfl (rl_ref _) ?_
    refine r_get (v := .ref (eA E 100 0)) dX0_makeBitter_28 fl_RX0_9 (hE.1 0 (by decide)) rfl ?_
    refine r_iload_n (x := x1) dX0_makeBitter_31 rfl ?_
    refine r_bipush (v := (12 : Int32)) dX0_makeBitter_32 (by decide) ?_
    refine r_idiv dX0_makeBitter_34 (by decide) ?_
    refine r_dup2 dX0_makeBitter_35 rfl rfl ?_
    obtain ⟨hb, h⟩ := h
    refine r_iald dX0_makeBitter_36 rfl (by decide) (hE.1 0 (by decide)) (ix hE (by decide) rfl hb) ?_
    refine r_iload_n (x := ((1 : Int32) <<< ((x1 - x1 / (12 : Int32) * (12 : Int32)) &&& 31))) dX0_makeBitter_37 rfl ?_
    refine r_ior dX0_makeBitter_38 ?_
    obtain ⟨hb, h⟩ := h
    refine r_iast dX0_makeBitter_39 rfl (by decide) (hE.1 0 (by decide)) (ix hE (by decide) rfl hb) ?_
    refine r_iload_n (x := (1 : Int32)) dX0_makeBitter_40 rfl ?_
    refine r_if_ne 48 dX0_makeBitter_41 (by decide) (fun q => ?_) (fun q => ?_)
    · have h := h.1 q
      refine r_iconst (v := (0 : Int32)) dX0_makeBitter_48 (by decide) ?_
      exact r_zret dX0_makeBitter_49 rfl rfl ⟨Nat.le_of_ble_eq_true rfl, Nat.le_of_ble_eq_true rfl⟩ ⟨rfl, _, rfl, h⟩
    · have h := h.2 q
      refine r_iconst (v := (1 : Int32)) dX0_makeBitter_44 (by decide) ?_
      refine r_goto 49 dX0_makeBitter_45 (by decide) ?_
      exact r_zret dX0_makeBitter_49 rfl rfl ⟨Nat.le_of_ble_eq_true rfl, Nat.le_of_ble_eq_true rfl⟩ ⟨rfl, _, rfl, h⟩
abbrev rm_X0_pass : Room := { frames := 1, cells := 0, slots := 0, locals := 21 }
def C_X0_pass (l : Launch) (G : Gt) (E : Et) (V : Vt) (x1 : Int32) (K : Int32 → Vt → Prop) : Prop := Cl l G yX0_pass cX0_pass 4 (some .int) rm_X0_pass E V [.ref (eA E 0 0), .int x1] (Qi E K)
def A_X0_pass_4 (l : Launch) (G : Gt) (E : Et) (V : Vt) (x1 : Int32) (x2 : Int32) (x3 : Int32) (K : Int32 → Vt → Prop) : Prop := Ev l G RX0 cX0_pass 4 (some .int) rm_X0_pass E 0 0 V 4 [(0, .ref (eA E 0 0)), (1, .int x1), (2, .int x2), (3, .int x3)] [] (Qi E K)
def vc_X0_pass (l : Launch) (G : Gt) (E : Et) (V : Vt) (x1 : Int32) (K : Int32 → Vt → Prop) : Prop := A_X0_pass_4 l G E V x1 (0 : Int32) (0 : Int32) K
def vc_X0_pass_4 (l : Launch) (G : Gt) (E : Et) (V : Vt) (x1 : Int32) (x2 : Int32) (x3 : Int32) (K : Int32 → Vt → Prop) : Prop := ((x1 ≤ x3 → K x2 V) ∧ (¬ x1 ≤ x3 → (C_X0_hasFrost l G E V (V 101 0 0) (fun x22 V21 => ((¬ x22 = (0 : Int32) → A_X0_pass_4 l G E (up3 V21 101 0 0 ((V21 101 0 0) + (1 : Int32))) x1 x2 (x3 + (1 : Int32)) K) ∧ (x22 = (0 : Int32) → A_X0_pass_4 l G E (up3 V21 101 0 0 ((V21 101 0 0) + (1 : Int32))) x1 (x2 + (1 : Int32)) (x3 + (1 : Int32)) K))))))
theorem ok_X0_pass {l : Launch} {G : Gt} {E : Et} {V : Vt} {x1 : Int32} {K : Int32 → Vt → Prop} (hE : Sg E)  (h : vc_X0_pass l G E V x1 K) : C_X0_pass l G E V x1 K := by
  unfold vc_X0_pass at h
  refine Cl.of (by decide +kernel) (Nat.le_of_ble_eq_true rfl) (show Ev l G RX0 cX0_pass 4 (some .int) rm_X0_pass E 0 0 V 0 [(0, .ref (eA E 0 0)), (1, .int x1)] [] (Qi E K) from ?_)
  refine r_iconst (v := (0 : Int32)) dX0_pass_0 (by decide) ?_
  refine r_istore_n dX0_pass_1 (by decide) ?_
  refine r_iconst (v := (0 : Int32)) dX0_pass_2 (by decide) ?_
  refine r_istore_n dX0_pass_3 (by decide) ?_
  exact Ev.loc [0, 1, 2, 3] rfl h
theorem ok_X0_pass_4 {l : Launch} {G : Gt} {E : Et} {V : Vt} {x1 : Int32} {x2 : Int32} {x3 : Int32} {K : Int32 → Vt → Prop} (hE : Sg E)  (h : vc_X0_pass_4 l G E V x1 x2 x3 K) : A_X0_pass_4 l G E V x1 x2 x3 K := by
  unfold vc_X0_pass_4 at h
  unfold A_X0_pass_4
  refine r_iload_n (x := x3) dX0_pass_4 rfl ?_
  refine r_iload_n (x := x1) dX0_pass_5 rfl ?_
  refine r_icmp_ge 39 dX0_pass_6 (by decide) (fun q => ?_) (fun q => ?_)
  · have h := h.1 q
    refine r_iload_n (x := x2) dX0_pass_39 rfl ?_
    exact r_iret dX0_pass_40 rfl ⟨Nat.le_of_ble_eq_true rfl, Nat.le_of_ble_eq_true rfl⟩ ⟨rfl, _, rfl, h⟩
  · have h := h.2 q
    refine r_aload_n (v := .ref (eA E 0 0)) dX0_pass_9 rfl (rl_ref _) ?_
    refine r_aload_n (v := .ref (eA E 0 0)) dX0_pass_10 rfl (rl_ref _) ?_
    refine r_get (v := .int (V 101 0 0)) dX0_pass_11 fl_RX0_15 (hE.1 0 (by decide)) rfl ?_
    refine r_cVi (As := [.int (V 101 0 0)]) (rest := []) dX0_pass_14 mv_X0_hasFrost ml_RX0_22 ⟨_, _, rfl⟩ (hE.1 0 (by decide)) ⟨Nat.le_of_ble_eq_true rfl, Nat.le_of_ble_eq_true rfl⟩ ⟨rfl, rfl⟩ rfl rfl (Nat.le_of_ble_eq_true rfl) h (fun x22 V21 h => ?_)
    refine r_if_ne 23 dX0_pass_17 (by decide) (fun q => ?_) (fun q => ?_)
    · have h := h.1 q
      refine r_aload_n (v := .ref (eA E 0 0)) dX0_pass_23 rfl (rl_ref _) ?_
      refine r_dup dX0_pass_24 rfl ?_
      refine r_get (v := .int (V21 101 0 0)) dX0_pass_25 fl_RX0_15 (hE.1 0 (by decide)) rfl ?_
      refine r_iconst (v := (1 : Int32)) dX0_pass_28 (by decide) ?_
      refine r_iadd dX0_pass_29 ?_
      refine r_put dX0_pass_30 fp_RX0_15 rfl (hE.1 0 (by decide)) rfl rfl ?_
      refine r_iinc (x := x3) (v := (1 : Int32)) dX0_pass_33 rfl (by decide) (by decide) ?_
      refine r_goto 4 dX0_pass_36 (by decide) ?_
      exact Ev.loc [0, 1, 2, 3] rfl h
    · have h := h.2 q
      refine r_iinc (x := x2) (v := (1 : Int32)) dX0_pass_20 rfl (by decide) (by decide) ?_
      refine r_aload_n (v := .ref (eA E 0 0)) dX0_pass_23 rfl (rl_ref _) ?_
      refine r_dup dX0_pass_24 rfl ?_
      refine r_get (v := .int (V21 101 0 0)) dX0_pass_25 fl_RX0_15 (hE.1 0 (by decide)) rfl ?_
      refine r_iconst (v := (1 : Int32)) dX0_pass_28 (by decide) ?_
      refine r_iadd dX0_pass_29 ?_
      refine r_put dX0_pass_30 fp_RX0_15 rfl (hE.1 0 (by decide)) rfl rfl ?_
      refine r_iinc (x := x3) (v := (1 : Int32)) dX0_pass_33 rfl (by decide) (by decide) ?_
      refine r_goto 4 dX0_pass_36 (by decide) ?_
      exact Ev.loc [0, 1, 2, 3] rfl h
abbrev rm_X2_isBegun : Room := { frames := 0, cells := 0, slots := 0, locals := 0 }
def C_X2_isBegun (l : Launch) (G : Gt) (E : Et) (V : Vt) (o0 : Nat) (K : Int32 → Vt → Prop) : Prop := Cl l G yX2_isBegun cX2_isBegun 1 (some .boolean) rm_X2_isBegun E V [.ref (eA E 2 o0)] (Qi E K)
def vc_X2_isBegun (l : Launch) (G : Gt) (E : Et) (V : Vt) (o0 : Nat) (K : Int32 → Vt → Prop) : Prop := (((V 310 o0 0) ≤ (0 : Int32) → K (0 : Int32) V) ∧ (¬ (V 310 o0 0) ≤ (0 : Int32) → K (1 : Int32) V))
theorem ok_X2_isBegun {l : Launch} {G : Gt} {E : Et} {V : Vt} {o0 : Nat} {K : Int32 → Vt → Prop} (hE : Sg E) (hl_o0 : eL E 2 o0) (h : vc_X2_isBegun l G E V o0 K) : C_X2_isBegun l G E V o0 K := by
  unfold vc_X2_isBegun at h
  refine Cl.of (by decide +kernel) (Nat.le_of_ble_eq_true rfl) (show Ev l G RX2 cX2_isBegun 1 (some .boolean) rm_X2_isBegun E 0 0 V 0 [(0, .ref (eA E 2 o0))] [] (Qi E K) from ?_)
  refine r_aload_n (v := .ref (eA E 2 o0)) dX2_isBegun_0 rfl (rl_ref _) ?_
  refine r_get (v := .int (V 310 o0 0)) dX2_isBegun_1 fl_RX2_41 hl_o0 rfl ?_
  refine r_if_le 11 dX2_isBegun_4 (by decide) (fun q => ?_) (fun q => ?_)
  · have h := h.1 q
    refine r_iconst (v := (0 : Int32)) dX2_isBegun_11 (by decide) ?_
    exact r_zret dX2_isBegun_12 rfl rfl ⟨Nat.le_of_ble_eq_true rfl, Nat.le_of_ble_eq_true rfl⟩ ⟨rfl, _, rfl, h⟩
  · have h := h.2 q
    refine r_iconst (v := (1 : Int32)) dX2_isBegun_7 (by decide) ?_
    refine r_goto 12 dX2_isBegun_8 (by decide) ?_
    exact r_zret dX2_isBegun_12 rfl rfl ⟨Nat.le_of_ble_eq_true rfl, Nat.le_of_ble_eq_true rfl⟩ ⟨rfl, _, rfl, h⟩
abbrev rm_X2_isWhole : Room := { frames := 0, cells := 0, slots := 0, locals := 0 }
def C_X2_isWhole (l : Launch) (G : Gt) (E : Et) (V : Vt) (o0 : Nat) (K : Int32 → Vt → Prop) : Prop := Cl l G yX2_isWhole cX2_isWhole 1 (some .boolean) rm_X2_isWhole E V [.ref (eA E 2 o0)] (Qi E K)
def vc_X2_isWhole (l : Launch) (G : Gt) (E : Et) (V : Vt) (o0 : Nat) (K : Int32 → Vt → Prop) : Prop := (((V 310 o0 0) < (V 309 o0 0) → K (0 : Int32) V) ∧ (¬ (V 310 o0 0) < (V 309 o0 0) → K (1 : Int32) V))
theorem ok_X2_isWhole {l : Launch} {G : Gt} {E : Et} {V : Vt} {o0 : Nat} {K : Int32 → Vt → Prop} (hE : Sg E) (hl_o0 : eL E 2 o0) (h : vc_X2_isWhole l G E V o0 K) : C_X2_isWhole l G E V o0 K := by
  unfold vc_X2_isWhole at h
  refine Cl.of (by decide +kernel) (Nat.le_of_ble_eq_true rfl) (show Ev l G RX2 cX2_isWhole 1 (some .boolean) rm_X2_isWhole E 0 0 V 0 [(0, .ref (eA E 2 o0))] [] (Qi E K) from ?_)
  refine r_aload_n (v := .ref (eA E 2 o0)) dX2_isWhole_0 rfl (rl_ref _) ?_
  refine r_get (v := .int (V 310 o0 0)) dX2_isWhole_1 fl_RX2_41 hl_o0 rfl ?_
  refine r_aload_n (v := .ref (eA E 2 o0)) dX2_isWhole_4 rfl (rl_ref _) ?_
  refine r_get (v := .int (V 309 o0 0)) dX2_isWhole_5 fl_RX2_32 hl_o0 rfl ?_
  refine r_icmp_lt 15 dX2_isWhole_8 (by decide) (fun q => ?_) (fun q => ?_)
  · have h := h.1 q
    refine r_iconst (v := (0 : Int32)) dX2_isWhole_15 (by decide) ?_
    exact r_zret dX2_isWhole_16 rfl rfl ⟨Nat.le_of_ble_eq_true rfl, Nat.le_of_ble_eq_true rfl⟩ ⟨rfl, _, rfl, h⟩
  · have h := h.2 q
    refine r_iconst (v := (1 : Int32)) dX2_isWhole_11 (by decide) ?_
    refine r_goto 16 dX2_isWhole_12 (by decide) ?_
    exact r_zret dX2_isWhole_16 rfl rfl ⟨Nat.le_of_ble_eq_true rfl, Nat.le_of_ble_eq_true rfl⟩ ⟨rfl, _, rfl, h⟩
abbrev rm_X2_isOnCentring : Room := { frames := 1, cells := 0, slots := 0, locals := 20 }
def C_X2_isOnCentring (l : Launch) (G : Gt) (E : Et) (V : Vt) (o0 : Nat) (K : Int32 → Vt → Prop) : Prop := Cl l G yX2_isOnCentring cX2_isOnCentring 1 (some .boolean) rm_X2_isOnCentring E V [.ref (eA E 2 o0)] (Qi E K)
def vc_X2_isOnCentring (l : Launch) (G : Gt) (E : Et) (V : Vt) (o0 : Nat) (K : Int32 → Vt → Prop) : Prop := ((¬ (V 300 o0 0) = (1 : Int32) → K (0 : Int32) V) ∧ ((V 300 o0 0) = (1 : Int32) → (C_X2_isBegun l G E V o0 (fun x22 V21 => ((x22 = (0 : Int32) → K (0 : Int32) V21) ∧ (¬ x22 = (0 : Int32) → ((¬ (V21 313 o0 0) = (0 : Int32) → K (0 : Int32) V21) ∧ ((V21 313 o0 0) = (0 : Int32) → K (1 : Int32) V21))))))))
theorem ok_X2_isOnCentring {l : Launch} {G : Gt} {E : Et} {V : Vt} {o0 : Nat} {K : Int32 → Vt → Prop} (hE : Sg E) (hl_o0 : eL E 2 o0) (h : vc_X2_isOnCentring l G E V o0 K) : C_X2_isOnCentring l G E V o0 K := by
  unfold vc_X2_isOnCentring at h
  refine Cl.of (by decide +kernel) (Nat.le_of_ble_eq_true rfl) (show Ev l G RX2 cX2_isOnCentring 1 (some .boolean) rm_X2_isOnCentring E 0 0 V 0 [(0, .ref (eA E 2 o0))] [] (Qi E K) from ?_)
  refine r_aload_n (v := .ref (eA E 2 o0)) dX2_isOnCentring_0 rfl (rl_ref _) ?_
  refine r_get (v := .int (V 300 o0 0)) dX2_isOnCentring_1 fl_RX2_25 hl_o0 rfl ?_
  refine r_iconst (v := (1 : Int32)) dX2_isOnCentring_4 (by decide) ?_
  refine r_icmp_ne 26 dX2_isOnCentring_5 (by decide) (fun q => ?_) (fun q => ?_)
  · have h := h.1 q
    refine r_iconst (v := (0 : Int32)) dX2_isOnCentring_26 (by decide) ?_
    exact r_zret dX2_isOnCentring_27 rfl rfl ⟨Nat.le_of_ble_eq_true rfl, Nat.le_of_ble_eq_true rfl⟩ ⟨rfl, _, rfl, h⟩
  · have h := h.2 q
    refine r_aload_n (v := .ref (eA E 2 o0)) dX2_isOnCentring_8 rfl (rl_ref _) ?_
    refine r_cVi (As := []) (rest := []) dX2_isOnCentring_9 mv_X2_isBegun ml_RX2_44 ⟨_, _, rfl⟩ hl_o0 ⟨Nat.le_of_ble_eq_true rfl, Nat.le_of_ble_eq_true rfl⟩ ⟨rfl, rfl⟩ rfl rfl (Nat.le_of_ble_eq_true rfl) h (fun x22 V21 h => ?_)
    refine r_if_eq 26 dX2_isOnCentring_12 (by decide) (fun q => ?_) (fun q => ?_)
    · have h := h.1 q
      refine r_iconst (v := (0 : Int32)) dX2_isOnCentring_26 (by decide) ?_
      exact r_zret dX2_isOnCentring_27 rfl rfl ⟨Nat.le_of_ble_eq_true rfl, Nat.le_of_ble_eq_true rfl⟩ ⟨rfl, _, rfl, h⟩
    · have h := h.2 q
      refine r_aload_n (v := .ref (eA E 2 o0)) dX2_isOnCentring_15 rfl (rl_ref _) ?_
      refine r_get (v := .int (V21 313 o0 0)) dX2_isOnCentring_16 fl_RX2_48 hl_o0 rfl ?_
      refine r_if_ne 26 dX2_isOnCentring_19 (by decide) (fun q => ?_) (fun q => ?_)
      · have h := h.1 q
        refine r_iconst (v := (0 : Int32)) dX2_isOnCentring_26 (by decide) ?_
        exact r_zret dX2_isOnCentring_27 rfl rfl ⟨Nat.le_of_ble_eq_true rfl, Nat.le_of_ble_eq_true rfl⟩ ⟨rfl, _, rfl, h⟩
      · have h := h.2 q
        refine r_iconst (v := (1 : Int32)) dX2_isOnCentring_22 (by decide) ?_
        refine r_goto 27 dX2_isOnCentring_23 (by decide) ?_
        exact r_zret dX2_isOnCentring_27 rfl rfl ⟨Nat.le_of_ble_eq_true rfl, Nat.le_of_ble_eq_true rfl⟩ ⟨rfl, _, rfl, h⟩
abbrev rm_X2_standOn : Room := { frames := 0, cells := 0, slots := 0, locals := 0 }
def C_X2_standOn (l : Launch) (G : Gt) (E : Et) (V : Vt) (o0 : Nat) (x1 : Int32) (x2 : Int32) (x3 : Int32) (K : Vt → Prop) : Prop := Cl l G yX2_standOn cX2_standOn 4 none rm_X2_standOn E V [.ref (eA E 2 o0), .int x1, .int x2, .int x3] (Qv E K)
def vc_X2_standOn (l : Launch) (G : Gt) (E : Et) (V : Vt) (o0 : Nat) (x1 : Int32) (x2 : Int32) (x3 : Int32) (K : Vt → Prop) : Prop := (vp_in x1 4) ∧ (vp_in x1 4) ∧ K (up3 (up3 V 305 o0 (x1).toNatClampNeg x2) 306 o0 (x1).toNatClampNeg x3)
theorem ok_X2_standOn {l : Launch} {G : Gt} {E : Et} {V : Vt} {o0 : Nat} {x1 : Int32} {x2 : Int32} {x3 : Int32} {K : Vt → Prop} (hE : Sg E) (hl_o0 : eL E 2 o0) (h : vc_X2_standOn l G E V o0 x1 x2 x3 K) : C_X2_standOn l G E V o0 x1 x2 x3 K := by
  unfold vc_X2_standOn at h
  refine Cl.of (by decide +kernel) (Nat.le_of_ble_eq_true rfl) (show Ev l G RX2 cX2_standOn 4 none rm_X2_standOn E 0 0 V 0 [(0, .ref (eA E 2 o0)), (1, .int x1), (2, .int x2), (3, .int x3)] [] (Qv E K) from ?_)
  refine r_aload_n (v := .ref (eA E 2 o0)) dX2_standOn_0 rfl (rl_ref _) ?_
  refine r_get (v := .ref (eA E 305 o0)) dX2_standOn_1 fl_RX2_16 hl_o0 rfl ?_
  refine r_iload_n (x := x1) dX2_standOn_4 rfl ?_
  refine r_iload_n (x := x2) dX2_standOn_5 rfl ?_
  obtain ⟨hb, h⟩ := h
  refine r_iast dX2_standOn_6 rfl (by decide) hl_o0 (ix hE (by decide) rfl hb) ?_
  refine r_aload_n (v := .ref (eA E 2 o0)) dX2_standOn_7 rfl (rl_ref _) ?_
  refine r_get (v := .ref (eA E 306 o0)) dX2_standOn_8 fl_RX2_19 hl_o0 rfl ?_
  refine r_iload_n (x := x1) dX2_standOn_11 rfl ?_
  refine r_iload_n (x := x3) dX2_standOn_12 rfl ?_
  obtain ⟨hb, h⟩ := h
  refine r_iast dX2_standOn_13 rfl (by decide) hl_o0 (ix hE (by decide) rfl hb) ?_
  exact r_vret dX2_standOn_14 rfl ⟨Nat.le_of_ble_eq_true rfl, Nat.le_of_ble_eq_true rfl⟩ ⟨rfl, rfl, h⟩
abbrev rm_X2_takeCourse : Room := { frames := 0, cells := 0, slots := 0, locals := 0 }
def C_X2_takeCourse (l : Launch) (G : Gt) (E : Et) (V : Vt) (o0 : Nat) (x1 : Int32) (K : Vt → Prop) : Prop := Cl l G yX2_takeCourse cX2_takeCourse 2 none rm_X2_takeCourse E V [.ref (eA E 2 o0), .int x1] (Qv E K)
def vc_X2_takeCourse (l : Launch) (G : Gt) (E : Et) (V : Vt) (o0 : Nat) (x1 : Int32) (K : Vt → Prop) : Prop := (((30 : Int32) ≤ (V 310 o0 0) → K V) ∧ (¬ (30 : Int32) ≤ (V 310 o0 0) → (vp_in (V 310 o0 0) 30) ∧ K (up3 (up3 (up3 V 307 o0 ((V 310 o0 0)).toNatClampNeg x1) 310 o0 0 (((up3 V 307 o0 ((V 310 o0 0)).toNatClampNeg x1) 310 o0 0) + (1 : Int32))) 311 o0 0 (0 : Int32))))
theorem ok_X2_takeCourse {l : Launch} {G : Gt} {E : Et} {V : Vt} {o0 : Nat} {x1 : Int32} {K : Vt → Prop} (hE : Sg E) (hl_o0 : eL E 2 o0) (h : vc_X2_takeCourse l G E V o0 x1 K) : C_X2_takeCourse l G E V o0 x1 K := by
  unfold vc_X2_takeCourse at h
  refine Cl.of (by decide +kernel) (Nat.le_of_ble_eq_true rfl) (show Ev l G RX2 cX2_takeCourse 2 none rm_X2_takeCourse E 0 0 V 0 [(0, .ref (eA E 2 o0)), (1, .int x1)] [] (Qv E K) from ?_)
  refine r_aload_n (v := .ref (eA E 2 o0)) dX2_takeCourse_0 rfl (rl_ref _) ?_
  refine r_get (v := .int (V 310 o0 0)) dX2_takeCourse_1 fl_RX2_41 hl_o0 rfl ?_
  refine r_bipush (v := (30 : Int32)) dX2_takeCourse_4 (by decide) ?_
  refine r_icmp_ge 34 dX2_takeCourse_6 (by decide) (fun q => ?_) (fun q => ?_)
  · have h := h.1 q
    exact r_vret dX2_takeCourse_34 rfl ⟨Nat.le_of_ble_eq_true rfl, Nat.le_of_ble_eq_true rfl⟩ ⟨rfl, rfl, h⟩
  · have h := h.2 q
    refine r_aload_n (v := .ref (eA E 2 o0)) dX2_takeCourse_9 rfl (rl_ref _) ?_
    refine r_get (v := .ref (eA E 307 o0)) dX2_takeCourse_10 fl_RX2_22 hl_o0 rfl ?_
    refine r_aload_n (v := .ref (eA E 2 o0)) dX2_takeCourse_13 rfl (rl_ref _) ?_
    refine r_get (v := .int (V 310 o0 0)) dX2_takeCourse_14 fl_RX2_41 hl_o0 rfl ?_
    refine r_iload_n (x := x1) dX2_takeCourse_17 rfl ?_
    obtain ⟨hb, h⟩ := h
    refine r_iast dX2_takeCourse_18 rfl (by decide) hl_o0 (ix hE (by decide) rfl hb) ?_
    refine r_aload_n (v := .ref (eA E 2 o0)) dX2_takeCourse_19 rfl (rl_ref _) ?_
    refine r_dup dX2_takeCourse_20 rfl ?_
    refine r_get (v := .int ((up3 V 307 o0 ((V 310 o0 0)).toNatClampNeg x1) 310 o0 0)) dX2_takeCourse_21 fl_RX2_41 hl_o0 rfl ?_
    refine r_iconst (v := (1 : Int32)) dX2_takeCourse_24 (by decide) ?_
    refine r_iadd dX2_takeCourse_25 ?_
    refine r_put dX2_takeCourse_26 fp_RX2_41 rfl hl_o0 rfl rfl ?_
    refine r_aload_n (v := .ref (eA E 2 o0)) dX2_takeCourse_29 rfl (rl_ref _) ?_
    refine r_iconst (v := (0 : Int32)) dX2_takeCourse_30 (by decide) ?_
    refine r_put dX2_takeCourse_31 fp_RX2_52 rfl hl_o0 rfl rfl ?_
    exact r_vret dX2_takeCourse_34 rfl ⟨Nat.le_of_ble_eq_true rfl, Nat.le_of_ble_eq_true rfl⟩ ⟨rfl, rfl, h⟩
abbrev rm_X2_laidTill : Room := { frames := 0, cells := 0, slots := 0, locals := 0 }
def C_X2_laidTill (l : Launch) (G : Gt) (E : Et) (V : Vt) (o0 : Nat) (x1 : Int32) (K : Int32 → Vt → Prop) : Prop := Cl l G yX2_laidTill cX2_laidTill 4 (some .int) rm_X2_laidTill E V [.ref (eA E 2 o0), .int x1] (Qi E K)
def A_X2_laidTill_4 (l : Launch) (G : Gt) (E : Et) (V : Vt) (o0 : Nat) (x1 : Int32) (x2 : Int32) (x3 : Int32) (K : Int32 → Vt → Prop) : Prop := Ev l G RX2 cX2_laidTill 4 (some .int) rm_X2_laidTill E 0 0 V 4 [(0, .ref (eA E 2 o0)), (1, .int x1), (2, .int x2), (3, .int x3)] [] (Qi E K)
def vc_X2_laidTill (l : Launch) (G : Gt) (E : Et) (V : Vt) (o0 : Nat) (x1 : Int32) (K : Int32 → Vt → Prop) : Prop := A_X2_laidTill_4 l G E V o0 x1 (0 : Int32) (0 : Int32) K
def vc_X2_laidTill_4 (l : Launch) (G : Gt) (E : Et) (V : Vt) (o0 : Nat) (x1 : Int32) (x2 : Int32) (x3 : Int32) (K : Int32 → Vt → Prop) : Prop := (((V 310 o0 0) ≤ x3 → K x2 V) ∧ (¬ (V 310 o0 0) ≤ x3 → (((30 : Int32) ≤ x3 → K x2 V) ∧ (¬ (30 : Int32) ≤ x3 → (vp_in x3 30) ∧ ((x1 < (V 307 o0 (x3).toNatClampNeg) → A_X2_laidTill_4 l G E V o0 x1 x2 (x3 + (1 : Int32)) K) ∧ (¬ x1 < (V 307 o0 (x3).toNatClampNeg) → A_X2_laidTill_4 l G E V o0 x1 (x2 + (1 : Int32)) (x3 + (1 : Int32)) K))))))
theorem ok_X2_laidTill {l : Launch} {G : Gt} {E : Et} {V : Vt} {o0 : Nat} {x1 : Int32} {K : Int32 → Vt → Prop} (hE : Sg E) (hl_o0 : eL E 2 o0) (h : vc_X2_laidTill l G E V o0 x1 K) : C_X2_laidTill l G E V o0 x1 K := by
  unfold vc_X2_laidTill at h
  refine Cl.of (by decide +kernel) (Nat.le_of_ble_eq_true rfl) (show Ev l G RX2 cX2_laidTill 4 (some .int) rm_X2_laidTill E 0 0 V 0 [(0, .ref (eA E 2 o0)), (1, .int x1)] [] (Qi E K) from ?_)
  refine r_iconst (v := (0 : Int32)) dX2_laidTill_0 (by decide) ?_
  refine r_istore_n dX2_laidTill_1 (by decide) ?_
  refine r_iconst (v := (0 : Int32)) dX2_laidTill_2 (by decide) ?_
  refine r_istore_n dX2_laidTill_3 (by decide) ?_
  exact Ev.loc [0, 1, 2, 3] rfl h
theorem ok_X2_laidTill_4 {l : Launch} {G : Gt} {E : Et} {V : Vt} {o0 : Nat} {x1 : Int32} {x2 : Int32} {x3 : Int32} {K : Int32 → Vt → Prop} (hE : Sg E) (hl_o0 : eL E 2 o0) (h : vc_X2_laidTill_4 l G E V o0 x1 x2 x3 K) : A_X2_laidTill_4 l G E V o0 x1 x2 x3 K := by
  unfold vc_X2_laidTill_4 at h
  unfold A_X2_laidTill_4
  refine r_iload_n (x := x3) dX2_laidTill_4 rfl ?_
  refine r_aload_n (v := .ref (eA E 2 o0)) dX2_laidTill_5 rfl (rl_ref _) ?_
  refine r_get (v := .int (V 310 o0 0)) dX2_laidTill_6 fl_RX2_41 hl_o0 rfl ?_
  refine r_icmp_ge 37 dX2_laidTill_9 (by decide) (fun q => ?_) (fun q => ?_)
  · have h := h.1 q
    refine r_iload_n (x := x2) dX2_laidTill_37 rfl ?_
    exact r_iret dX2_laidTill_38 rfl ⟨Nat.le_of_ble_eq_true rfl, Nat.le_of_ble_eq_true rfl⟩ ⟨rfl, _, rfl, h⟩
  · have h := h.2 q
    refine r_iload_n (x := x3) dX2_laidTill_12 rfl ?_
    refine r_bipush (v := (30 : Int32)) dX2_laidTill_13 (by decide) ?_
    refine r_icmp_ge 37 dX2_laidTill_15 (by decide) (fun q => ?_) (fun q => ?_)
    · have h := h.1 q
      refine r_iload_n (x := x2) dX2_laidTill_37 rfl ?_
      exact r_iret dX2_laidTill_38 rfl ⟨Nat.le_of_ble_eq_true rfl, Nat.le_of_ble_eq_true rfl⟩ ⟨rfl, _, rfl, h⟩
    · have h := h.2 q
      refine r_aload_n (v := .ref (eA E 2 o0)) dX2_laidTill_18 rfl (rl_ref _) ?_
      refine r_get (v := .ref (eA E 307 o0)) dX2_laidTill_19 fl_RX2_22 hl_o0 rfl ?_
      refine r_iload_n (x := x3) dX2_laidTill_22 rfl ?_
      obtain ⟨hb, h⟩ := h
      refine r_iald dX2_laidTill_23 rfl (by decide) hl_o0 (ix hE (by decide) rfl hb) ?_
      refine r_iload_n (x := x1) dX2_laidTill_24 rfl ?_
      refine r_icmp_gt 31 dX2_laidTill_25 (by decide) (fun q => ?_) (fun q => ?_)
      · have h := h.1 q
        refine r_iinc (x := x3) (v := (1 : Int32)) dX2_laidTill_31 rfl (by decide) (by decide) ?_
        refine r_goto 4 dX2_laidTill_34 (by decide) ?_
        exact Ev.loc [0, 1, 2, 3] rfl h
      · have h := h.2 q
        refine r_iinc (x := x2) (v := (1 : Int32)) dX2_laidTill_28 rfl (by decide) (by decide) ?_
        refine r_iinc (x := x3) (v := (1 : Int32)) dX2_laidTill_31 rfl (by decide) (by decide) ?_
        refine r_goto 4 dX2_laidTill_34 (by decide) ?_
        exact Ev.loc [0, 1, 2, 3] rfl h
abbrev rm_X2_portion : Room := { frames := 0, cells := 0, slots := 0, locals := 0 }
def C_X2_portion (l : Launch) (G : Gt) (E : Et) (V : Vt) (o0 : Nat) (x1 : Int32) (x2 : Int32) (K : Int32 → Vt → Prop) : Prop := Cl l G yX2_portion cX2_portion 5 (some .int) rm_X2_portion E V [.ref (eA E 2 o0), .int x1, .int x2] (Qi E K)
def A_X2_portion_21 (l : Launch) (G : Gt) (E : Et) (V : Vt) (o0 : Nat) (x1 : Int32) (x3 : Int32) (x4 : Int32) (K : Int32 → Vt → Prop) : Prop := Ev l G RX2 cX2_portion 5 (some .int) rm_X2_portion E 0 0 V 21 [(0, .ref (eA E 2 o0)), (1, .int x1), (3, .int x3), (4, .int x4)] [] (Qi E K)
def vc_X2_portion (l : Launch) (G : Gt) (E : Et) (V : Vt) (o0 : Nat) (x1 : Int32) (x2 : Int32) (K : Int32 → Vt → Prop) : Prop := ((x2 ≤ (0 : Int32) → A_X2_portion_21 l G E V o0 x1 x1 (1 : Int32) K) ∧ (¬ x2 ≤ (0 : Int32) → (vp_in x2 4) ∧ K ((x1 * (V 306 o0 (x2).toNatClampNeg)) / (12 : Int32)) V))
def vc_X2_portion_21 (l : Launch) (G : Gt) (E : Et) (V : Vt) (o0 : Nat) (x1 : Int32) (x3 : Int32) (x4 : Int32) (K : Int32 → Vt → Prop) : Prop := (((V 308 o0 0) ≤ x4 → K x3 V) ∧ (¬ (V 308 o0 0) ≤ x4 → (vp_in x4 4) ∧ A_X2_portion_21 l G E V o0 x1 (x3 - ((x1 * (V 306 o0 (x4).toNatClampNeg)) / (12 : Int32))) (x4 + (1 : Int32)) K))
theorem ok_X2_portion {l : Launch} {G : Gt} {E : Et} {V : Vt} {o0 : Nat} {x1 : Int32} {x2 : Int32} {K : Int32 → Vt → Prop} (hE : Sg E) (hl_o0 : eL E 2 o0) (h : vc_X2_portion l G E V o0 x1 x2 K) : C_X2_portion l G E V o0 x1 x2 K := by
  unfold vc_X2_portion at h
  refine Cl.of (by decide +kernel) (Nat.le_of_ble_eq_true rfl) (show Ev l G RX2 cX2_portion 5 (some .int) rm_X2_portion E 0 0 V 0 [(0, .ref (eA E 2 o0)), (1, .int x1), (2, .int x2)] [] (Qi E K) from ?_)
  refine r_iload_n (x := x2) dX2_portion_0 rfl ?_
  refine r_if_le 16 dX2_portion_1 (by decide) (fun q => ?_) (fun q => ?_)
  · have h := h.1 q
    refine r_iload_n (x := x1) dX2_portion_16 rfl ?_
    refine r_istore_n dX2_portion_17 (by decide) ?_
    refine r_iconst (v := (1 : Int32)) dX2_portion_18 (by decide) ?_
    refine r_istore dX2_portion_19 (by decide) ?_
    exact Ev.loc [0, 1, 3, 4] rfl h
  · have h := h.2 q
    refine r_iload_n (x := x1) dX2_portion_4 rfl ?_
    refine r_aload_n (v := .ref (eA E 2 o0)) dX2_portion_5 rfl (rl_ref _) ?_
    refine r_get (v := .ref (eA E 306 o0)) dX2_portion_6 fl_RX2_19 hl_o0 rfl ?_
    refine r_iload_n (x := x2) dX2_portion_9 rfl ?_
    obtain ⟨hb, h⟩ := h
    refine r_iald dX2_portion_10 rfl (by decide) hl_o0 (ix hE (by decide) rfl hb) ?_
    refine r_imul dX2_portion_11 ?_
    refine r_bipush (v := (12 : Int32)) dX2_portion_12 (by decide) ?_
    refine r_idiv dX2_portion_14 (by decide) ?_
    exact r_iret dX2_portion_15 rfl ⟨Nat.le_of_ble_eq_true rfl, Nat.le_of_ble_eq_true rfl⟩ ⟨rfl, _, rfl, h⟩
theorem ok_X2_portion_21 {l : Launch} {G : Gt} {E : Et} {V : Vt} {o0 : Nat} {x1 : Int32} {x3 : Int32} {x4 : Int32} {K : Int32 → Vt → Prop} (hE : Sg E) (hl_o0 : eL E 2 o0) (h : vc_X2_portion_21 l G E V o0 x1 x3 x4 K) : A_X2_portion_21 l G E V o0 x1 x3 x4 K := by
  unfold vc_X2_portion_21 at h
  unfold A_X2_portion_21
  refine r_iload (x := x4) dX2_portion_21 rfl ?_
  refine r_aload_n (v := .ref (eA E 2 o0)) dX2_portion_23 rfl (rl_ref _) ?_
  refine r_get (v := .int (V 308 o0 0)) dX2_portion_24 fl_RX2_55 hl_o0 rfl ?_
  refine r_icmp_ge 51 dX2_portion_27 (by decide) (fun q => ?_) (fun q => ?_)
  · have h := h.1 q
    refine r_iload_n (x := x3) dX2_portion_51 rfl ?_
    exact r_iret dX2_portion_52 rfl ⟨Nat.le_of_ble_eq_true rfl, Nat.le_of_ble_eq_true rfl⟩ ⟨rfl, _, rfl, h⟩
  · have h := h.2 q
    refine r_iload_n (x := x3) dX2_portion_30 rfl ?_
    refine r_iload_n (x := x1) dX2_portion_31 rfl ?_
    refine r_aload_n (v := .ref (eA E 2 o0)) dX2_portion_32 rfl (rl_ref _) ?_
    refine r_get (v := .ref (eA E 306 o0)) dX2_portion_33 fl_RX2_19 hl_o0 rfl ?_
    refine r_iload (x := x4) dX2_portion_36 rfl ?_
    obtain ⟨hb, h⟩ := h
    refine r_iald dX2_portion_38 rfl (by decide) hl_o0 (ix hE (by decide) rfl hb) ?_
    refine r_imul dX2_portion_39 ?_
    refine r_bipush (v := (12 : Int32)) dX2_portion_40 (by decide) ?_
    refine r_idiv dX2_portion_42 (by decide) ?_
    refine r_isub dX2_portion_43 ?_
    refine r_istore_n dX2_portion_44 (by decide) ?_
    refine r_iinc (x := x4) (v := (1 : Int32)) dX2_portion_45 rfl (by decide) (by decide) ?_
    refine r_goto 21 dX2_portion_48 (by decide) ?_
    exact Ev.loc [0, 1, 2, 3] rfl h
abbrev rm_X2_heaviestWay : Room := { frames := 1, cells := 0, slots := 0, locals := 24 }
def C_X2_heaviestWay (l : Launch) (G : Gt) (E : Et) (V : Vt) (o0 : Nat) (x1 : Int32) (K : Int32 → Vt → Prop) : Prop := Cl l G yX2_heaviestWay cX2_heaviestWay 4 (some .int) rm_X2_heaviestWay E V [.ref (eA E 2 o0), .int x1] (Qi E K)
def A_X2_heaviestWay_4 (l : Launch) (G : Gt) (E : Et) (V : Vt) (o0 : Nat) (x1 : Int32) (x2 : Int32) (x3 : Int32) (K : Int32 → Vt → Prop) : Prop := Ev l G RX2 cX2_heaviestWay 4 (some .int) rm_X2_heaviestWay E 0 0 V 4 [(0, .ref (eA E 2 o0)), (1, .int x1), (2, .int x2), (3, .int x3)] [] (Qi E K)
def vc_X2_heaviestWay (l : Launch) (G : Gt) (E : Et) (V : Vt) (o0 : Nat) (x1 : Int32) (K : Int32 → Vt → Prop) : Prop := A_X2_heaviestWay_4 l G E V o0 x1 (0 : Int32) (1 : Int32) K
def vc_X2_heaviestWay_4 (l : Launch) (G : Gt) (E : Et) (V : Vt) (o0 : Nat) (x1 : Int32) (x2 : Int32) (x3 : Int32) (K : Int32 → Vt → Prop) : Prop := (((V 308 o0 0) ≤ x3 → K x2 V) ∧ (¬ (V 308 o0 0) ≤ x3 → (C_X2_portion l G E V o0 x1 x3 (fun x22 V21 => (C_X2_portion l G E V21 o0 x1 x2 (fun x24 V23 => ((x22 ≤ x24 → A_X2_heaviestWay_4 l G E V23 o0 x1 x2 (x3 + (1 : Int32)) K) ∧ (¬ x22 ≤ x24 → A_X2_heaviestWay_4 l G E V23 o0 x1 x3 (x3 + (1 : Int32)) K))))))))
theorem ok_X2_heaviestWay {l : Launch} {G : Gt} {E : Et} {V : Vt} {o0 : Nat} {x1 : Int32} {K : Int32 → Vt → Prop} (hE : Sg E) (hl_o0 : eL E 2 o0) (h : vc_X2_heaviestWay l G E V o0 x1 K) : C_X2_heaviestWay l G E V o0 x1 K := by
  unfold vc_X2_heaviestWay at h
  refine Cl.of (by decide +kernel) (Nat.le_of_ble_eq_true rfl) (show Ev l G RX2 cX2_heaviestWay 4 (some .int) rm_X2_heaviestWay E 0 0 V 0 [(0, .ref (eA E 2 o0)), (1, .int x1)] [] (Qi E K) from ?_)
  refine r_iconst (v := (0 : Int32)) dX2_heaviestWay_0 (by decide) ?_
  refine r_istore_n dX2_heaviestWay_1 (by decide) ?_
  refine r_iconst (v := (1 : Int32)) dX2_heaviestWay_2 (by decide) ?_
  refine r_istore_n dX2_heaviestWay_3 (by decide) ?_
  exact Ev.loc [0, 1, 2, 3] rfl h
theorem ok_X2_heaviestWay_4 {l : Launch} {G : Gt} {E : Et} {V : Vt} {o0 : Nat} {x1 : Int32} {x2 : Int32} {x3 : Int32} {K : Int32 → Vt → Prop} (hE : Sg E) (hl_o0 : eL E 2 o0) (h : vc_X2_heaviestWay_4 l G E V o0 x1 x2 x3 K) : A_X2_heaviestWay_4 l G E V o0 x1 x2 x3 K := by
  unfold vc_X2_heaviestWay_4 at h
  unfold A_X2_heaviestWay_4
  refine r_iload_n (x := x3) dX2_heaviestWay_4 rfl ?_
  refine r_aload_n (v := .ref (eA E 2 o0)) dX2_heaviestWay_5 rfl (rl_ref _) ?_
  refine r_get (v := .int (V 308 o0 0)) dX2_heaviestWay_6 fl_RX2_55 hl_o0 rfl ?_
  refine r_icmp_ge 35 dX2_heaviestWay_9 (by decide) (fun q => ?_) (fun q => ?_)
  · have h := h.1 q
    refine r_iload_n (x := x2) dX2_heaviestWay_35 rfl ?_
    exact r_iret dX2_heaviestWay_36 rfl ⟨Nat.le_of_ble_eq_true rfl, Nat.le_of_ble_eq_true rfl⟩ ⟨rfl, _, rfl, h⟩
  · have h := h.2 q
    refine r_aload_n (v := .ref (eA E 2 o0)) dX2_heaviestWay_12 rfl (rl_ref _) ?_
    refine r_iload_n (x := x1) dX2_heaviestWay_13 rfl ?_
    refine r_iload_n (x := x3) dX2_heaviestWay_14 rfl ?_
    refine r_cVi (As := [.int x1, .int x3]) (rest := []) dX2_heaviestWay_15 mv_X2_portion ml_RX2_58 ⟨_, _, rfl⟩ hl_o0 ⟨Nat.le_of_ble_eq_true rfl, Nat.le_of_ble_eq_true rfl⟩ ⟨rfl, rfl⟩ rfl rfl (Nat.le_of_ble_eq_true rfl) h (fun x22 V21 h => ?_)
    refine r_aload_n (v := .ref (eA E 2 o0)) dX2_heaviestWay_18 rfl (rl_ref _) ?_
    refine r_iload_n (x := x1) dX2_heaviestWay_19 rfl ?_
    refine r_iload_n (x := x2) dX2_heaviestWay_20 rfl ?_
    refine r_cVi (As := [.int x1, .int x2]) (rest := [.int x22]) dX2_heaviestWay_21 mv_X2_portion ml_RX2_58 ⟨_, _, rfl⟩ hl_o0 ⟨Nat.le_of_ble_eq_true rfl, Nat.le_of_ble_eq_true rfl⟩ ⟨rfl, rfl⟩ rfl rfl (Nat.le_of_ble_eq_true rfl) h (fun x24 V23 h => ?_)
    refine r_icmp_le 29 dX2_heaviestWay_24 (by decide) (fun q => ?_) (fun q => ?_)
    · have h := h.1 q
      refine r_iinc (x := x3) (v := (1 : Int32)) dX2_heaviestWay_29 rfl (by decide) (by decide) ?_
      refine r_goto 4 dX2_heaviestWay_32 (by decide) ?_
      exact Ev.loc [0, 1, 2, 3] rfl h
    · have h := h.2 q
      refine r_iload_n (x := x3) dX2_heaviestWay_27 rfl ?_
      refine r_istore_n dX2_heaviestWay_28 (by decide) ?_
      refine r_iinc (x := x3) (v := (1 : Int32)) dX2_heaviestWay_29 rfl (by decide) (by decide) ?_
      refine r_goto 4 dX2_heaviestWay_32 (by decide) ?_
      exact Ev.loc [0, 1, 2, 3] rfl h
abbrev rm_X2_markSupports : Room := { frames := 0, cells := 0, slots := 0, locals := 0 }
def C_X2_markSupports (l : Launch) (G : Gt) (E : Et) (V : Vt) (o0 : Nat) (K : Vt → Prop) : Prop := Cl l G yX2_markSupports cX2_markSupports 3 none rm_X2_markSupports E V [.ref (eA E 2 o0), .ref (eA E 908 0)] (Qv E K)
def A_X2_markSupports_2 (l : Launch) (G : Gt) (E : Et) (V : Vt) (o0 : Nat) (x2 : Int32) (K : Vt → Prop) : Prop := Ev l G RX2 cX2_markSupports 3 none rm_X2_markSupports E 0 0 V 2 [(0, .ref (eA E 2 o0)), (1, .ref (eA E 908 0)), (2, .int x2)] [] (Qv E K)
def vc_X2_markSupports (l : Launch) (G : Gt) (E : Et) (V : Vt) (o0 : Nat) (K : Vt → Prop) : Prop := A_X2_markSupports_2 l G E V o0 (0 : Int32) K
def vc_X2_markSupports_2 (l : Launch) (G : Gt) (E : Et) (V : Vt) (o0 : Nat) (x2 : Int32) (K : Vt → Prop) : Prop := (((V 308 o0 0) ≤ x2 → K V) ∧ (¬ (V 308 o0 0) ≤ x2 → (vp_in x2 4) ∧ (vp_in (V 305 o0 (x2).toNatClampNeg) 40) ∧ A_X2_markSupports_2 l G E (up3 V 908 0 ((V 305 o0 (x2).toNatClampNeg)).toNatClampNeg (1 : Int32)) o0 (x2 + (1 : Int32)) K))
theorem ok_X2_markSupports {l : Launch} {G : Gt} {E : Et} {V : Vt} {o0 : Nat} {K : Vt → Prop} (hE : Sg E) (hl_o0 : eL E 2 o0) (h : vc_X2_markSupports l G E V o0 K) : C_X2_markSupports l G E V o0 K := by
  unfold vc_X2_markSupports at h
  refine Cl.of (by decide +kernel) (Nat.le_of_ble_eq_true rfl) (show Ev l G RX2 cX2_markSupports 3 none rm_X2_markSupports E 0 0 V 0 [(0, .ref (eA E 2 o0)), (1, .ref (eA E 908 0))] [] (Qv E K) from ?_)
  refine r_iconst (v := (0 : Int32)) dX2_markSupports_0 (by decide) ?_
  refine r_istore_n dX2_markSupports_1 (by decide) ?_
  exact Ev.loc [0, 1, 2] rfl h
theorem ok_X2_markSupports_2 {l : Launch} {G : Gt} {E : Et} {V : Vt} {o0 : Nat} {x2 : Int32} {K : Vt → Prop} (hE : Sg E) (hl_o0 : eL E 2 o0) (h : vc_X2_markSupports_2 l G E V o0 x2 K) : A_X2_markSupports_2 l G E V o0 x2 K := by
  unfold vc_X2_markSupports_2 at h
  unfold A_X2_markSupports_2
  refine r_iload_n (x := x2) dX2_markSupports_2 rfl ?_
  refine r_aload_n (v := .ref (eA E 2 o0)) dX2_markSupports_3 rfl (rl_ref _) ?_
  refine r_get (v := .int (V 308 o0 0)) dX2_markSupports_4 fl_RX2_55 hl_o0 rfl ?_
  refine r_icmp_ge 25 dX2_markSupports_7 (by decide) (fun q => ?_) (fun q => ?_)
  · have h := h.1 q
    exact r_vret dX2_markSupports_25 rfl ⟨Nat.le_of_ble_eq_true rfl, Nat.le_of_ble_eq_true rfl⟩ ⟨rfl, rfl, h⟩
  · have h := h.2 q
    refine r_aload_n (v := .ref (eA E 908 0)) dX2_markSupports_10 rfl (rl_ref _) ?_
    refine r_aload_n (v := .ref (eA E 2 o0)) dX2_markSupports_11 rfl (rl_ref _) ?_
    refine r_get (v := .ref (eA E 305 o0)) dX2_markSupports_12 fl_RX2_16 hl_o0 rfl ?_
    refine r_iload_n (x := x2) dX2_markSupports_15 rfl ?_
    obtain ⟨hb, h⟩ := h
    refine r_iald dX2_markSupports_16 rfl (by decide) hl_o0 (ix hE (by decide) rfl hb) ?_
    refine r_iconst (v := (1 : Int32)) dX2_markSupports_17 (by decide) ?_
    obtain ⟨hb, h⟩ := h
    refine r_iast dX2_markSupports_18 rfl (by decide) (hE.1 8 (by decide)) (ix hE (by decide) rfl hb) ?_
    refine r_iinc (x := x2) (v := (1 : Int32)) dX2_markSupports_19 rfl (by decide) (by decide) ?_
    refine r_goto 2 dX2_markSupports_22 (by decide) ?_
    exact Ev.loc [0, 1, 2] rfl h
abbrev rm_X2_standsOn : Room := { frames := 0, cells := 0, slots := 0, locals := 0 }
def C_X2_standsOn (l : Launch) (G : Gt) (E : Et) (V : Vt) (o0 : Nat) (x1 : Int32) (K : Int32 → Vt → Prop) : Prop := Cl l G yX2_standsOn cX2_standsOn 3 (some .boolean) rm_X2_standsOn E V [.ref (eA E 2 o0), .int x1] (Qi E K)
def A_X2_standsOn_2 (l : Launch) (G : Gt) (E : Et) (V : Vt) (o0 : Nat) (x1 : Int32) (x2 : Int32) (K : Int32 → Vt → Prop) : Prop := Ev l G RX2 cX2_standsOn 3 (some .boolean) rm_X2_standsOn E 0 0 V 2 [(0, .ref (eA E 2 o0)), (1, .int x1), (2, .int x2)] [] (Qi E K)
def vc_X2_standsOn (l : Launch) (G : Gt) (E : Et) (V : Vt) (o0 : Nat) (x1 : Int32) (K : Int32 → Vt → Prop) : Prop := A_X2_standsOn_2 l G E V o0 x1 (0 : Int32) K
def vc_X2_standsOn_2 (l : Launch) (G : Gt) (E : Et) (V : Vt) (o0 : Nat) (x1 : Int32) (x2 : Int32) (K : Int32 → Vt → Prop) : Prop := (((V 308 o0 0) ≤ x2 → K (0 : Int32) V) ∧ (¬ (V 308 o0 0) ≤ x2 → (vp_in x2 4) ∧ ((¬ (V 305 o0 (x2).toNatClampNeg) = x1 → A_X2_standsOn_2 l G E V o0 x1 (x2 + (1 : Int32)) K) ∧ ((V 305 o0 (x2).toNatClampNeg) = x1 → K (1 : Int32) V))))
theorem ok_X2_standsOn {l : Launch} {G : Gt} {E : Et} {V : Vt} {o0 : Nat} {x1 : Int32} {K : Int32 → Vt → Prop} (hE : Sg E) (hl_o0 : eL E 2 o0) (h : vc_X2_standsOn l G E V o0 x1 K) : C_X2_standsOn l G E V o0 x1 K := by
  unfold vc_X2_standsOn at h
  refine Cl.of (by decide +kernel) (Nat.le_of_ble_eq_true rfl) (show Ev l G RX2 cX2_standsOn 3 (some .boolean) rm_X2_standsOn E 0 0 V 0 [(0, .ref (eA E 2 o0)), (1, .int x1)] [] (Qi E K) from ?_)
  refine r_iconst (v := (0 : Int32)) dX2_standsOn_0 (by decide) ?_
  refine r_istore_n dX2_standsOn_1 (by decide) ?_
  exact Ev.loc [0, 1, 2] rfl h
theorem ok_X2_standsOn_2 {l : Launch} {G : Gt} {E : Et} {V : Vt} {o0 : Nat} {x1 : Int32} {x2 : Int32} {K : Int32 → Vt → Prop} (hE : Sg E) (hl_o0 : eL E 2 o0) (h : vc_X2_standsOn_2 l G E V o0 x1 x2 K) : A_X2_standsOn_2 l G E V o0 x1 x2 K := by
  unfold vc_X2_standsOn_2 at h
  unfold A_X2_standsOn_2
  refine r_iload_n (x := x2) dX2_standsOn_2 rfl ?_
  refine r_aload_n (v := .ref (eA E 2 o0)) dX2_standsOn_3 rfl (rl_ref _) ?_
  refine r_get (v := .int (V 308 o0 0)) dX2_standsOn_4 fl_RX2_55 hl_o0 rfl ?_
  refine r_icmp_ge 28 dX2_standsOn_7 (by decide) (fun q => ?_) (fun q => ?_)
  · have h := h.1 q
    refine r_iconst (v := (0 : Int32)) dX2_standsOn_28 (by decide) ?_
    exact r_zret dX2_standsOn_29 rfl rfl ⟨Nat.le_of_ble_eq_true rfl, Nat.le_of_ble_eq_true rfl⟩ ⟨rfl, _, rfl, h⟩
  · have h := h.2 q
    refine r_aload_n (v := .ref (eA E 2 o0)) dX2_standsOn_10 rfl (rl_ref _) ?_
    refine r_get (v := .ref (eA E 305 o0)) dX2_standsOn_11 fl_RX2_16 hl_o0 rfl ?_
    refine r_iload_n (x := x2) dX2_standsOn_14 rfl ?_
    obtain ⟨hb, h⟩ := h
    refine r_iald dX2_standsOn_15 rfl (by decide) hl_o0 (ix hE (by decide) rfl hb) ?_
    refine r_iload_n (x := x1) dX2_standsOn_16 rfl ?_
    refine r_icmp_ne 22 dX2_standsOn_17 (by decide) (fun q => ?_) (fun q => ?_)
    · have h := h.1 q
      refine r_iinc (x := x2) (v := (1 : Int32)) dX2_standsOn_22 rfl (by decide) (by decide) ?_
      refine r_goto 2 dX2_standsOn_25 (by decide) ?_
      exact Ev.loc [0, 1, 2] rfl h
    · have h := h.2 q
      refine r_iconst (v := (1 : Int32)) dX2_standsOn_20 (by decide) ?_
      exact r_zret dX2_standsOn_21 rfl rfl ⟨Nat.le_of_ble_eq_true rfl, Nat.le_of_ble_eq_true rfl⟩ ⟨rfl, _, rfl, h⟩
end
section
abbrev rm_X3_find : Room := { frames := 0, cells := 0, slots := 0, locals := 0 }
def C_X3_find (l : Launch) (G : Gt) (E : Et) (V : Vt) (x1 : Int32) (K : Option Nat → Vt → Prop) : Prop := Cl l G yX3_find cX3_find 2 (some (.object "ChurchLodge$Part")) rm_X3_find E V [.ref (eA E 3 0), .int x1] (Qr 2 E K)
def vc_X3_find (l : Launch) (G : Gt) (E : Et) (V : Vt) (x1 : Int32) (K : Option Nat → Vt → Prop) : Prop := ((x1 < (0 : Int32) → K none V) ∧ (¬ x1 < (0 : Int32) → (((V 405 0 0) ≤ x1 → K none V) ∧ (¬ (V 405 0 0) ≤ x1 → (vp_in x1 40) ∧ K (eR E 400 (x1).toNatClampNeg) V))))
theorem ok_X3_find {l : Launch} {G : Gt} {E : Et} {V : Vt} {x1 : Int32} {K : Option Nat → Vt → Prop} (hE : Sg E)  (h : vc_X3_find l G E V x1 K) : C_X3_find l G E V x1 K := by
  unfold vc_X3_find at h
  refine Cl.of (by decide +kernel) (Nat.le_of_ble_eq_true rfl) (show Ev l G RX3 cX3_find 2 (some (.object "ChurchLodge$Part")) rm_X3_find E 0 0 V 0 [(0, .ref (eA E 3 0)), (1, .int x1)] [] (Qr 2 E K) from ?_)
  refine r_iload_n (x := x1) dX3_find_0 rfl ?_
  refine r_if_lt 21 dX3_find_1 (by decide) (fun q => ?_) (fun q => ?_)
  · have h := h.1 q
    refine r_null dX3_find_21 ?_
    exact r_aret dX3_find_22 rfl (Or.inl ⟨_, rfl⟩) (Or.inl rfl) ⟨Nat.le_of_ble_eq_true rfl, Nat.le_of_ble_eq_true rfl⟩ ⟨rfl, none, rfl, h⟩
  · have h := h.2 q
    refine r_iload_n (x := x1) dX3_find_4 rfl ?_
    refine r_aload_n (v := .ref (eA E 3 0)) dX3_find_5 rfl (rl_ref _) ?_
    refine r_get (v := .int (V 405 0 0)) dX3_find_6 fl_RX3_30 (hE.1 3 (by decide)) rfl ?_
    refine r_icmp_ge 21 dX3_find_9 (by decide) (fun q => ?_) (fun q => ?_)
    · have h := h.1 q
      refine r_null dX3_find_21 ?_
      exact r_aret dX3_find_22 rfl (Or.inl ⟨_, rfl⟩) (Or.inl rfl) ⟨Nat.le_of_ble_eq_true rfl, Nat.le_of_ble_eq_true rfl⟩ ⟨rfl, none, rfl, h⟩
    · have h := h.2 q
      refine r_aload_n (v := .ref (eA E 3 0)) dX3_find_12 rfl (rl_ref _) ?_
      refine r_get (v := .ref (eA E 400 0)) dX3_find_13 fl_RX3_11 (hE.1 3 (by decide)) rfl ?_
      refine r_iload_n (x := x1) dX3_find_16 rfl ?_
      obtain ⟨hb, h⟩ := h
      refine r_aaldP dX3_find_17 rfl (by decide) (hE.1 3 (by decide)) (ix hE (by decide) rfl hb) ?_
      refine r_goto 22 dX3_find_18 (by decide) ?_
      exact r_aret dX3_find_22 rfl (Or.inl ⟨_, rfl⟩) (rl_rf _) ⟨Nat.le_of_ble_eq_true rfl, Nat.le_of_ble_eq_true rfl⟩ ⟨rfl, (eR E 400 (x1).toNatClampNeg), rfl, h⟩
abbrev rm_X3_isSupportFor : Room := { frames := 0, cells := 0, slots := 0, locals := 0 }
def C_X3_isSupportFor (l : Launch) (G : Gt) (E : Et) (V : Vt) (x1 : Int32) (x2 : Int32) (K : Int32 → Vt → Prop) : Prop := Cl l G yX3_isSupportFor cX3_isSupportFor 3 (some .boolean) rm_X3_isSupportFor E V [.int x1, .int x2] (Qi E K)
def vc_X3_isSupportFor (l : Launch) (G : Gt) (E : Et) (V : Vt) (x1 : Int32) (x2 : Int32) (K : Int32 → Vt → Prop) : Prop := ((x2 < (0 : Int32) → K (0 : Int32) V) ∧ (¬ x2 < (0 : Int32) → ((x1 ≤ (x2 / (100 : Int32)) → K (0 : Int32) V) ∧ (¬ x1 ≤ (x2 / (100 : Int32)) → (((x2 - x2 / (100 : Int32) * (100 : Int32)) < (1 : Int32) → K (0 : Int32) V) ∧ (¬ (x2 - x2 / (100 : Int32) * (100 : Int32)) < (1 : Int32) → (((12 : Int32) < (x2 - x2 / (100 : Int32) * (100 : Int32)) → K (0 : Int32) V) ∧ (¬ (12 : Int32) < (x2 - x2 / (100 : Int32) * (100 : Int32)) → K (1 : Int32) V))))))))
theorem ok_X3_isSupportFor {l : Launch} {G : Gt} {E : Et} {V : Vt} {x1 : Int32} {x2 : Int32} {K : Int32 → Vt → Prop} (hE : Sg E)  (h : vc_X3_isSupportFor l G E V x1 x2 K) : C_X3_isSupportFor l G E V x1 x2 K := by
  unfold vc_X3_isSupportFor at h
  refine Cl.of (by decide +kernel) (Nat.le_of_ble_eq_true rfl) (show Ev l G RX3 cX3_isSupportFor 3 (some .boolean) rm_X3_isSupportFor E 0 0 V 0 [(0, .int x1), (1, .int x2)] [] (Qi E K) from ?_)
  refine r_iload_n (x := x2) dX3_isSupportFor_0 rfl ?_
  refine r_bipush (v := (100 : Int32)) dX3_isSupportFor_1 (by decide) ?_
  refine r_irem dX3_isSupportFor_3 (by decide) ?_
  refine r_istore_n dX3_isSupportFor_4 (by decide) ?_
  refine r_iload_n (x := x2) dX3_isSupportFor_5 rfl ?_
  refine r_if_lt 32 dX3_isSupportFor_6 (by decide) (fun q => ?_) (fun q => ?_)
  · have h := h.1 q
    refine r_iconst (v := (0 : Int32)) dX3_isSupportFor_32 (by decide) ?_
    exact r_zret dX3_isSupportFor_33 rfl rfl ⟨Nat.le_of_ble_eq_true rfl, Nat.le_of_ble_eq_true rfl⟩ ⟨rfl, _, rfl, h⟩
  · have h := h.2 q
    refine r_iload_n (x := x2) dX3_isSupportFor_9 rfl ?_
    refine r_bipush (v := (100 : Int32)) dX3_isSupportFor_10 (by decide) ?_
    refine r_idiv dX3_isSupportFor_12 (by decide) ?_
    refine r_iload_n (x := x1) dX3_isSupportFor_13 rfl ?_
    refine r_icmp_ge 32 dX3_isSupportFor_14 (by decide) (fun q => ?_) (fun q => ?_)
    · have h := h.1 q
      refine r_iconst (v := (0 : Int32)) dX3_isSupportFor_32 (by decide) ?_
      exact r_zret dX3_isSupportFor_33 rfl rfl ⟨Nat.le_of_ble_eq_true rfl, Nat.le_of_ble_eq_true rfl⟩ ⟨rfl, _, rfl, h⟩
    · have h := h.2 q
      refine r_iload_n (x := (x2 - x2 / (100 : Int32) * (100 : Int32))) dX3_isSupportFor_17 rfl ?_
      refine r_iconst (v := (1 : Int32)) dX3_isSupportFor_18 (by decide) ?_
      refine r_icmp_lt 32 dX3_isSupportFor_19 (by decide) (fun q => ?_) (fun q => ?_)
      · have h := h.1 q
        refine r_iconst (v := (0 : Int32)) dX3_isSupportFor_32 (by decide) ?_
        exact r_zret dX3_isSupportFor_33 rfl rfl ⟨Nat.le_of_ble_eq_true rfl, Nat.le_of_ble_eq_true rfl⟩ ⟨rfl, _, rfl, h⟩
      · have h := h.2 q
        refine r_iload_n (x := (x2 - x2 / (100 : Int32) * (100 : Int32))) dX3_isSupportFor_22 rfl ?_
        refine r_bipush (v := (12 : Int32)) dX3_isSupportFor_23 (by decide) ?_
        refine r_icmp_gt 32 dX3_isSupportFor_25 (by decide) (fun q => ?_) (fun q => ?_)
        · have h := h.1 q
          refine r_iconst (v := (0 : Int32)) dX3_isSupportFor_32 (by decide) ?_
          exact r_zret dX3_isSupportFor_33 rfl rfl ⟨Nat.le_of_ble_eq_true rfl, Nat.le_of_ble_eq_true rfl⟩ ⟨rfl, _, rfl, h⟩
        · have h := h.2 q
          refine r_iconst (v := (1 : Int32)) dX3_isSupportFor_28 (by decide) ?_
          refine r_goto 33 dX3_isSupportFor_29 (by decide) ?_
          exact r_zret dX3_isSupportFor_33 rfl rfl ⟨Nat.le_of_ble_eq_true rfl, Nat.le_of_ble_eq_true rfl⟩ ⟨rfl, _, rfl, h⟩
abbrev rm_X3_isReadBefore : Room := { frames := 0, cells := 0, slots := 0, locals := 0 }
def C_X3_isReadBefore (l : Launch) (G : Gt) (E : Et) (V : Vt) (x1 : Int32) (K : Int32 → Vt → Prop) : Prop := Cl l G yX3_isReadBefore cX3_isReadBefore 3 (some .boolean) rm_X3_isReadBefore E V [.ref (eA E 3 0), .int x1] (Qi E K)
def A_X3_isReadBefore_2 (l : Launch) (G : Gt) (E : Et) (V : Vt) (x1 : Int32) (x2 : Int32) (K : Int32 → Vt → Prop) : Prop := Ev l G RX3 cX3_isReadBefore 3 (some .boolean) rm_X3_isReadBefore E 0 0 V 2 [(0, .ref (eA E 3 0)), (1, .int x1), (2, .int x2)] [] (Qi E K)
def vc_X3_isReadBefore (l : Launch) (G : Gt) (E : Et) (V : Vt) (x1 : Int32) (K : Int32 → Vt → Prop) : Prop := A_X3_isReadBefore_2 l G E V x1 (0 : Int32) K
def vc_X3_isReadBefore_2 (l : Launch) (G : Gt) (E : Et) (V : Vt) (x1 : Int32) (x2 : Int32) (K : Int32 → Vt → Prop) : Prop := ((x1 ≤ x2 → K (0 : Int32) V) ∧ (¬ x1 ≤ x2 → (vp_in x2 4) ∧ (vp_in x1 4) ∧ ((¬ ((V 404 0 (x2).toNatClampNeg) / (100 : Int32)) = ((V 404 0 (x1).toNatClampNeg) / (100 : Int32)) → A_X3_isReadBefore_2 l G E V x1 (x2 + (1 : Int32)) K) ∧ (((V 404 0 (x2).toNatClampNeg) / (100 : Int32)) = ((V 404 0 (x1).toNatClampNeg) / (100 : Int32)) → K (1 : Int32) V))))
theorem ok_X3_isReadBefore {l : Launch} {G : Gt} {E : Et} {V : Vt} {x1 : Int32} {K : Int32 → Vt → Prop} (hE : Sg E)  (h : vc_X3_isReadBefore l G E V x1 K) : C_X3_isReadBefore l G E V x1 K := by
  unfold vc_X3_isReadBefore at h
  refine Cl.of (by decide +kernel) (Nat.le_of_ble_eq_true rfl) (show Ev l G RX3 cX3_isReadBefore 3 (some .boolean) rm_X3_isReadBefore E 0 0 V 0 [(0, .ref (eA E 3 0)), (1, .int x1)] [] (Qi E K) from ?_)
  refine r_iconst (v := (0 : Int32)) dX3_isReadBefore_0 (by decide) ?_
  refine r_istore_n dX3_isReadBefore_1 (by decide) ?_
  exact Ev.loc [0, 1, 2] rfl h
theorem ok_X3_isReadBefore_2 {l : Launch} {G : Gt} {E : Et} {V : Vt} {x1 : Int32} {x2 : Int32} {K : Int32 → Vt → Prop} (hE : Sg E)  (h : vc_X3_isReadBefore_2 l G E V x1 x2 K) : A_X3_isReadBefore_2 l G E V x1 x2 K := by
  unfold vc_X3_isReadBefore_2 at h
  unfold A_X3_isReadBefore_2
  refine r_iload_n (x := x2) dX3_isReadBefore_2 rfl ?_
  refine r_iload_n (x := x1) dX3_isReadBefore_3 rfl ?_
  refine r_icmp_ge 36 dX3_isReadBefore_4 (by decide) (fun q => ?_) (fun q => ?_)
  · have h := h.1 q
    refine r_iconst (v := (0 : Int32)) dX3_isReadBefore_36 (by decide) ?_
    exact r_zret dX3_isReadBefore_37 rfl rfl ⟨Nat.le_of_ble_eq_true rfl, Nat.le_of_ble_eq_true rfl⟩ ⟨rfl, _, rfl, h⟩
  · have h := h.2 q
    refine r_aload_n (v := .ref (eA E 3 0)) dX3_isReadBefore_7 rfl (rl_ref _) ?_
    refine r_get (v := .ref (eA E 404 0)) dX3_isReadBefore_8 fl_RX3_27 (hE.1 3 (by decide)) rfl ?_
    refine r_iload_n (x := x2) dX3_isReadBefore_11 rfl ?_
    obtain ⟨hb, h⟩ := h
    refine r_iald dX3_isReadBefore_12 rfl (by decide) (hE.1 3 (by decide)) (ix hE (by decide) rfl hb) ?_
    refine r_bipush (v := (100 : Int32)) dX3_isReadBefore_13 (by decide) ?_
    refine r_idiv dX3_isReadBefore_15 (by decide) ?_
    refine r_aload_n (v := .ref (eA E 3 0)) dX3_isReadBefore_16 rfl (rl_ref _) ?_
    refine r_get (v := .ref (eA E 404 0)) dX3_isReadBefore_17 fl_RX3_27 (hE.1 3 (by decide)) rfl ?_
    refine r_iload_n (x := x1) dX3_isReadBefore_20 rfl ?_
    obtain ⟨hb, h⟩ := h
    refine r_iald dX3_isReadBefore_21 rfl (by decide) (hE.1 3 (by decide)) (ix hE (by decide) rfl hb) ?_
    refine r_bipush (v := (100 : Int32)) dX3_isReadBefore_22 (by decide) ?_
    refine r_idiv dX3_isReadBefore_24 (by decide) ?_
    refine r_icmp_ne 30 dX3_isReadBefore_25 (by decide) (fun q => ?_) (fun q => ?_)
    · have h := h.1 q
      refine r_iinc (x := x2) (v := (1 : Int32)) dX3_isReadBefore_30 rfl (by decide) (by decide) ?_
      refine r_goto 2 dX3_isReadBefore_33 (by decide) ?_
      exact Ev.loc [0, 1, 2] rfl h
    · have h := h.2 q
      refine r_iconst (v := (1 : Int32)) dX3_isReadBefore_28 (by decide) ?_
      exact r_zret dX3_isReadBefore_29 rfl rfl ⟨Nat.le_of_ble_eq_true rfl, Nat.le_of_ble_eq_true rfl⟩ ⟨rfl, _, rfl, h⟩
abbrev rm_X3_readSupports : Room := { frames := 1, cells := 0, slots := 0, locals := 22 }
def C_X3_readSupports (l : Launch) (G : Gt) (E : Et) (V : Vt) (x1 : Int32) (x2 : Int32) (x3 : Int32) (x4 : Int32) (x5 : Int32) (K : Int32 → Vt → Prop) : Prop := Cl l G yX3_readSupports cX3_readSupports 9 (some .int) rm_X3_readSupports E V [.ref (eA E 3 0), .int x1, .int x2, .int x3, .int x4, .int x5] (Qi E K)
def A_X3_readSupports_33 (l : Launch) (G : Gt) (E : Et) (V : Vt) (x1 : Int32) (x6 : Int32) (K : Int32 → Vt → Prop) : Prop := Ev l G RX3 cX3_readSupports 9 (some .int) rm_X3_readSupports E 0 0 V 33 [(0, .ref (eA E 3 0)), (1, .int x1), (6, .int x6)] [] (Qi E K)
def A_X3_readSupports_60 (l : Launch) (G : Gt) (E : Et) (V : Vt) (x1 : Int32) (x6 : Int32) (x7 : Int32) (K : Int32 → Vt → Prop) : Prop := Ev l G RX3 cX3_readSupports 9 (some .int) rm_X3_readSupports E 0 0 V 60 [(0, .ref (eA E 3 0)), (1, .int x1), (6, .int x6), (7, .int x7)] [] (Qi E K)
def A_X3_readSupports_91 (l : Launch) (G : Gt) (E : Et) (V : Vt) (x1 : Int32) (x6 : Int32) (x7 : Int32) (x8 : Int32) (K : Int32 → Vt → Prop) : Prop := Ev l G RX3 cX3_readSupports 9 (some .int) rm_X3_readSupports E 0 0 V 91 [(0, .ref (eA E 3 0)), (1, .int x1), (6, .int x6), (7, .int x7), (8, .int x8)] [] (Qi E K)
def vc_X3_readSupports (l : Launch) (G : Gt) (E : Et) (V : Vt) (x1 : Int32) (x2 : Int32) (x3 : Int32) (x4 : Int32) (x5 : Int32) (K : Int32 → Vt → Prop) : Prop := (vp_in (0 : Int32) 4) ∧ (vp_in (1 : Int32) 4) ∧ (vp_in (2 : Int32) 4) ∧ (vp_in (3 : Int32) 4) ∧ A_X3_readSupports_33 l G E (up3 (up3 (up3 (up3 V 404 0 ((0 : Int32)).toNatClampNeg x2) 404 0 ((1 : Int32)).toNatClampNeg x3) 404 0 ((2 : Int32)).toNatClampNeg x4) 404 0 ((3 : Int32)).toNatClampNeg x5) x1 (0 : Int32) K
def vc_X3_readSupports_33 (l : Launch) (G : Gt) (E : Et) (V : Vt) (x1 : Int32) (x6 : Int32) (K : Int32 → Vt → Prop) : Prop := (((4 : Int32) ≤ x6 → A_X3_readSupports_60 l G E V x1 x6 x6 K) ∧ (¬ (4 : Int32) ≤ x6 → (vp_in x6 4) ∧ (((V 404 0 (x6).toNatClampNeg) = (-1 : Int32) → A_X3_readSupports_60 l G E V x1 x6 x6 K) ∧ (¬ (V 404 0 (x6).toNatClampNeg) = (-1 : Int32) → A_X3_readSupports_33 l G E V x1 (x6 + (1 : Int32)) K))))
def vc_X3_readSupports_60 (l : Launch) (G : Gt) (E : Et) (V : Vt) (x1 : Int32) (x6 : Int32) (x7 : Int32) (K : Int32 → Vt → Prop) : Prop := (((4 : Int32) ≤ x7 → A_X3_readSupports_91 l G E V x1 x6 (0 : Int32) (0 : Int32) K) ∧ (¬ (4 : Int32) ≤ x7 → (vp_in x7 4) ∧ (((V 404 0 (x7).toNatClampNeg) = (-1 : Int32) → A_X3_readSupports_60 l G E V x1 x6 (x7 + (1 : Int32)) K) ∧ (¬ (V 404 0 (x7).toNatClampNeg) = (-1 : Int32) → K (-1 : Int32) V))))
def vc_X3_readSupports_91 (l : Launch) (G : Gt) (E : Et) (V : Vt) (x1 : Int32) (x6 : Int32) (x7 : Int32) (x8 : Int32) (K : Int32 → Vt → Prop) : Prop := ((x6 ≤ x8 → ((x6 = (0 : Int32) → K x6 V) ∧ (¬ x6 = (0 : Int32) → ((¬ x7 = (12 : Int32) → K (-1 : Int32) V) ∧ (x7 = (12 : Int32) → K x6 V))))) ∧ (¬ x6 ≤ x8 → (vp_in x8 4) ∧ (C_X3_isSupportFor l G E V x1 (V 404 0 (x8).toNatClampNeg) (fun x22 V21 => ((x22 = (0 : Int32) → K (-1 : Int32) V21) ∧ (¬ x22 = (0 : Int32) → (C_X3_isReadBefore l G E V21 x8 (fun x24 V23 => ((x24 = (0 : Int32) → (vp_in x8 4) ∧ A_X3_readSupports_91 l G E V23 x1 x6 (x7 + ((V23 404 0 (x8).toNatClampNeg) - (V23 404 0 (x8).toNatClampNeg) / (100 : Int32) * (100 : Int32))) (x8 + (1 : Int32)) K) ∧ (¬ x24 = (0 : Int32) → K (-1 : Int32) V23))))))))))
theorem ok_X3_readSupports {l : Launch} {G : Gt} {E : Et} {V : Vt} {x1 : Int32} {x2 : Int32} {x3 : Int32} {x4 : Int32} {x5 : Int32} {K : Int32 → Vt → Prop} (hE : Sg E)  (h : vc_X3_readSupports l G E V x1 x2 x3 x4 x5 K) : C_X3_readSupports l G E V x1 x2 x3 x4 x5 K := by
  unfold vc_X3_readSupports at h
  refine Cl.of (by decide +kernel) (Nat.le_of_ble_eq_true rfl) (show Ev l G RX3 cX3_readSupports 9 (some .int) rm_X3_readSupports E 0 0 V 0 [(0, .ref (eA E 3 0)), (1, .int x1), (2, .int x2), (3, .int x3), (4, .int x4), (5, .int x5)] [] (Qi E K) from ?_)
  refine r_aload_n (v := .ref (eA E 3 0)) dX3_readSupports_0 rfl (rl_ref _) ?_
  refine r_get (v := .ref (eA E 404 0)) dX3_readSupports_1 fl_RX3_27 (hE.1 3 (by decide)) rfl ?_
  refine r_iconst (v := (0 : Int32)) dX3_readSupports_4 (by decide) ?_
  refine r_iload_n (x := x2) dX3_readSupports_5 rfl ?_
  obtain ⟨hb, h⟩ := h
  refine r_iast dX3_readSupports_6 rfl (by decide) (hE.1 3 (by decide)) (ix hE (by decide) rfl hb) ?_
  refine r_aload_n (v := .ref (eA E 3 0)) dX3_readSupports_7 rfl (rl_ref _) ?_
  refine r_get (v := .ref (eA E 404 0)) dX3_readSupports_8 fl_RX3_27 (hE.1 3 (by decide)) rfl ?_
  refine r_iconst (v := (1 : Int32)) dX3_readSupports_11 (by decide) ?_
  refine r_iload_n (x := x3) dX3_readSupports_12 rfl ?_
  obtain ⟨hb, h⟩ := h
  refine r_iast dX3_readSupports_13 rfl (by decide) (hE.1 3 (by decide)) (ix hE (by decide) rfl hb) ?_
  refine r_aload_n (v := .ref (eA E 3 0)) dX3_readSupports_14 rfl (rl_ref _) ?_
  refine r_get (v := .ref (eA E 404 0)) dX3_readSupports_15 fl_RX3_27 (hE.1 3 (by decide)) rfl ?_
  refine r_iconst (v := (2 : Int32)) dX3_readSupports_18 (by decide) ?_
  refine r_iload (x := x4) dX3_readSupports_19 rfl ?_
  obtain ⟨hb, h⟩ := h
  refine r_iast dX3_readSupports_21 rfl (by decide) (hE.1 3 (by decide)) (ix hE (by decide) rfl hb) ?_
  refine r_aload_n (v := .ref (eA E 3 0)) dX3_readSupports_22 rfl (rl_ref _) ?_
  refine r_get (v := .ref (eA E 404 0)) dX3_readSupports_23 fl_RX3_27 (hE.1 3 (by decide)) rfl ?_
  refine r_iconst (v := (3 : Int32)) dX3_readSupports_26 (by decide) ?_
  refine r_iload (x := x5) dX3_readSupports_27 rfl ?_
  obtain ⟨hb, h⟩ := h
  refine r_iast dX3_readSupports_29 rfl (by decide) (hE.1 3 (by decide)) (ix hE (by decide) rfl hb) ?_
  refine r_iconst (v := (0 : Int32)) dX3_readSupports_30 (by decide) ?_
  refine r_istore dX3_readSupports_31 (by decide) ?_
  exact Ev.loc [0, 1, 6] rfl h
theorem ok_X3_readSupports_33 {l : Launch} {G : Gt} {E : Et} {V : Vt} {x1 : Int32} {x6 : Int32} {K : Int32 → Vt → Prop} (hE : Sg E)  (h : vc_X3_readSupports_33 l G E V x1 x6 K) : A_X3_readSupports_33 l G E V x1 x6 K := by
  unfold vc_X3_readSupports_33 at h
  unfold A_X3_readSupports_33
  refine r_iload (x := x6) dX3_readSupports_33 rfl ?_
  refine r_iconst (v := (4 : Int32)) dX3_readSupports_35 (by decide) ?_
  refine r_icmp_ge 56 dX3_readSupports_36 (by decide) (fun q => ?_) (fun q => ?_)
  · have h := h.1 q
    refine r_iload (x := x6) dX3_readSupports_56 rfl ?_
    refine r_istore dX3_readSupports_58 (by decide) ?_
    exact Ev.loc [0, 1, 2, 3] rfl h
  · have h := h.2 q
    refine r_aload_n (v := .ref (eA E 3 0)) dX3_readSupports_39 rfl (rl_ref _) ?_
    refine r_get (v := .ref (eA E 404 0)) dX3_readSupports_40 fl_RX3_27 (hE.1 3 (by decide)) rfl ?_
    refine r_iload (x := x6) dX3_readSupports_43 rfl ?_
    obtain ⟨hb, h⟩ := h
    refine r_iald dX3_readSupports_45 rfl (by decide) (hE.1 3 (by decide)) (ix hE (by decide) rfl hb) ?_
    refine r_iconst (v := (-1 : Int32)) dX3_readSupports_46 (by decide) ?_
    refine r_icmp_eq 56 dX3_readSupports_47 (by decide) (fun q => ?_) (fun q => ?_)
    · have h := h.1 q
      refine r_iload (x := x6) dX3_readSupports_56 rfl ?_
      refine r_istore dX3_readSupports_58 (by decide) ?_
      exact Ev.loc [0, 1, 2, 3] rfl h
    · have h := h.2 q
      refine r_iinc (x := x6) (v := (1 : Int32)) dX3_readSupports_50 rfl (by decide) (by decide) ?_
      refine r_goto 33 dX3_readSupports_53 (by decide) ?_
      exact Ev.loc [0, 1, 2] rfl h
theorem ok_X3_readSupports_60 {l : Launch} {G : Gt} {E : Et} {V : Vt} {x1 : Int32} {x6 : Int32} {x7 : Int32} {K : Int32 → Vt → Prop} (hE : Sg E)  (h : vc_X3_readSupports_60 l G E V x1 x6 x7 K) : A_X3_readSupports_60 l G E V x1 x6 x7 K := by
  unfold vc_X3_readSupports_60 at h
  unfold A_X3_readSupports_60
  refine r_iload (x := x7) dX3_readSupports_60 rfl ?_
  refine r_iconst (v := (4 : Int32)) dX3_readSupports_62 (by decide) ?_
  refine r_icmp_ge 85 dX3_readSupports_63 (by decide) (fun q => ?_) (fun q => ?_)
  · have h := h.1 q
    refine r_iconst (v := (0 : Int32)) dX3_readSupports_85 (by decide) ?_
    refine r_istore dX3_readSupports_86 (by decide) ?_
    refine r_iconst (v := (0 : Int32)) dX3_readSupports_88 (by decide) ?_
    refine r_istore dX3_readSupports_89 (by decide) ?_
    exact Ev.loc [0, 1, 2, 3, 4] rfl h
  · have h := h.2 q
    refine r_aload_n (v := .ref (eA E 3 0)) dX3_readSupports_66 rfl (rl_ref _) ?_
    refine r_get (v := .ref (eA E 404 0)) dX3_readSupports_67 fl_RX3_27 (hE.1 3 (by decide)) rfl ?_
    refine r_iload (x := x7) dX3_readSupports_70 rfl ?_
    obtain ⟨hb, h⟩ := h
    refine r_iald dX3_readSupports_72 rfl (by decide) (hE.1 3 (by decide)) (ix hE (by decide) rfl hb) ?_
    refine r_iconst (v := (-1 : Int32)) dX3_readSupports_73 (by decide) ?_
    refine r_icmp_eq 79 dX3_readSupports_74 (by decide) (fun q => ?_) (fun q => ?_)
    · have h := h.1 q
      refine r_iinc (x := x7) (v := (1 : Int32)) dX3_readSupports_79 rfl (by decide) (by decide) ?_
      refine r_goto 60 dX3_readSupports_82 (by decide) ?_
      exact Ev.loc [0, 1, 2, 3] rfl h
    · have h := h.2 q
      refine r_iconst (v := (-1 : Int32)) dX3_readSupports_77 (by decide) ?_
      exact r_iret dX3_readSupports_78 rfl ⟨Nat.le_of_ble_eq_true rfl, Nat.le_of_ble_eq_true rfl⟩ ⟨rfl, _, rfl, h⟩
theorem ok_X3_readSupports_91 {l : Launch} {G : Gt} {E : Et} {V : Vt} {x1 : Int32} {x6 : Int32} {x7 : Int32} {x8 : Int32} {K : Int32 → Vt → Prop} (hE : Sg E)  (h : vc_X3_readSupports_91 l G E V x1 x6 x7 x8 K) : A_X3_readSupports_91 l G E V x1 x6 x7 x8 K := by
  unfold vc_X3_readSupports_91 at h
  unfold A_X3_readSupports_91
  refine r_iload (x := x8) dX3_readSupports_91 rfl ?_
  refine r_iload (x := x6) dX3_readSupports_93 rfl ?_
  refine r_icmp_ge 144 dX3_readSupports_95 (by decide) (fun q => ?_) (fun q => ?_)
  · have h := h.1 q
    refine r_iload (x := x6) dX3_readSupports_144 rfl ?_
    refine r_if_eq 156 dX3_readSupports_146 (by decide) (fun q => ?_) (fun q => ?_)
    · have h := h.1 q
      refine r_iload (x := x6) dX3_readSupports_156 rfl ?_
      refine r_goto 162 dX3_readSupports_158 (by decide) ?_
      exact r_iret dX3_readSupports_162 rfl ⟨Nat.le_of_ble_eq_true rfl, Nat.le_of_ble_eq_true rfl⟩ ⟨rfl, _, rfl, h⟩
    · have h := h.2 q
      refine r_iload (x := x7) dX3_readSupports_149 rfl ?_
      refine r_bipush (v := (12 : Int32)) dX3_readSupports_151 (by decide) ?_
      refine r_icmp_ne 161 dX3_readSupports_153 (by decide) (fun q => ?_) (fun q => ?_)
      · have h := h.1 q
        refine r_iconst (v := (-1 : Int32)) dX3_readSupports_161 (by decide) ?_
        exact r_iret dX3_readSupports_162 rfl ⟨Nat.le_of_ble_eq_true rfl, Nat.le_of_ble_eq_true rfl⟩ ⟨rfl, _, rfl, h⟩
      · have h := h.2 q
        refine r_iload (x := x6) dX3_readSupports_156 rfl ?_
        refine r_goto 162 dX3_readSupports_158 (by decide) ?_
        exact r_iret dX3_readSupports_162 rfl ⟨Nat.le_of_ble_eq_true rfl, Nat.le_of_ble_eq_true rfl⟩ ⟨rfl, _, rfl, h⟩
  · have h := h.2 q
    refine r_iload_n (x := x1) dX3_readSupports_98 rfl ?_
    refine r_aload_n (v := .ref (eA E 3 0)) dX3_readSupports_99 rfl (rl_ref _) ?_
    refine r_get (v := .ref (eA E 404 0)) dX3_readSupports_100 fl_RX3_27 (hE.1 3 (by decide)) rfl ?_
    refine r_iload (x := x8) dX3_readSupports_103 rfl ?_
    obtain ⟨hb, h⟩ := h
    refine r_iald dX3_readSupports_105 rfl (by decide) (hE.1 3 (by decide)) (ix hE (by decide) rfl hb) ?_
    refine r_cSi (As := [.int x1, .int (V 404 0 (x8).toNatClampNeg)]) (rest := []) dX3_readSupports_106 ms_X3_isSupportFor ml_RX3_34 ⟨Nat.le_of_ble_eq_true rfl, Nat.le_of_ble_eq_true rfl⟩ ⟨rfl, rfl⟩ rfl rfl (Nat.le_of_ble_eq_true rfl) h (fun x22 V21 h => ?_)
    refine r_if_eq 121 dX3_readSupports_109 (by decide) (fun q => ?_) (fun q => ?_)
    · have h := h.1 q
      refine r_iconst (v := (-1 : Int32)) dX3_readSupports_121 (by decide) ?_
      exact r_iret dX3_readSupports_122 rfl ⟨Nat.le_of_ble_eq_true rfl, Nat.le_of_ble_eq_true rfl⟩ ⟨rfl, _, rfl, h⟩
    · have h := h.2 q
      refine r_aload_n (v := .ref (eA E 3 0)) dX3_readSupports_112 rfl (rl_ref _) ?_
      refine r_iload (x := x8) dX3_readSupports_113 rfl ?_
      refine r_cVi (As := [.int x8]) (rest := []) dX3_readSupports_115 mv_X3_isReadBefore ml_RX3_38 ⟨_, _, rfl⟩ (hE.1 3 (by decide)) ⟨Nat.le_of_ble_eq_true rfl, Nat.le_of_ble_eq_true rfl⟩ ⟨rfl, rfl⟩ rfl rfl (Nat.le_of_ble_eq_true rfl) h (fun x24 V23 h => ?_)
      refine r_if_eq 123 dX3_readSupports_118 (by decide) (fun q => ?_) (fun q => ?_)
      · have h := h.1 q
        refine r_iload (x := x7) dX3_readSupports_123 rfl ?_
        refine r_aload_n (v := .ref (eA E 3 0)) dX3_readSupports_125 rfl (rl_ref _) ?_
        refine r_get (v := .ref (eA E 404 0)) dX3_readSupports_126 fl_RX3_27 (hE.1 3 (by decide)) rfl ?_
        refine r_iload (x := x8) dX3_readSupports_129 rfl ?_
        obtain ⟨hb, h⟩ := h
        refine r_iald dX3_readSupports_131 rfl (by decide) (hE.1 3 (by decide)) (ix hE (by decide) rfl hb) ?_
        refine r_bipush (v := (100 : Int32)) dX3_readSupports_132 (by decide) ?_
        refine r_irem dX3_readSupports_134 (by decide) ?_
        refine r_iadd dX3_readSupports_135 ?_
        refine r_istore dX3_readSupports_136 (by decide) ?_
        refine r_iinc (x := x8) (v := (1 : Int32)) dX3_readSupports_138 rfl (by decide) (by decide) ?_
        refine r_goto 91 dX3_readSupports_141 (by decide) ?_
        exact Ev.loc [0, 1, 2, 3, 4] rfl h
      · have h := h.2 q
        refine r_iconst (v := (-1 : Int32)) dX3_readSupports_121 (by decide) ?_
        exact r_iret dX3_readSupports_122 rfl ⟨Nat.le_of_ble_eq_true rfl, Nat.le_of_ble_eq_true rfl⟩ ⟨rfl, _, rfl, h⟩
abbrev rm_X3_setSupports : Room := { frames := 1, cells := 0, slots := 0, locals := 23 }
def C_X3_setSupports (l : Launch) (G : Gt) (E : Et) (V : Vt) (o1 : Nat) (x2 : Int32) (K : Vt → Prop) : Prop := Cl l G yX3_setSupports cX3_setSupports 4 none rm_X3_setSupports E V [.ref (eA E 3 0), .ref (eA E 2 o1), .int x2] (Qv E K)
def A_X3_setSupports_2 (l : Launch) (G : Gt) (E : Et) (V : Vt) (o1 : Nat) (x2 : Int32) (x3 : Int32) (K : Vt → Prop) : Prop := Ev l G RX3 cX3_setSupports 4 none rm_X3_setSupports E 0 0 V 2 [(0, .ref (eA E 3 0)), (1, .ref (eA E 2 o1)), (2, .int x2), (3, .int x3)] [] (Qv E K)
def vc_X3_setSupports (l : Launch) (G : Gt) (E : Et) (V : Vt) (o1 : Nat) (x2 : Int32) (K : Vt → Prop) : Prop := A_X3_setSupports_2 l G E V o1 x2 (0 : Int32) K
def vc_X3_setSupports_2 (l : Launch) (G : Gt) (E : Et) (V : Vt) (o1 : Nat) (x2 : Int32) (x3 : Int32) (K : Vt → Prop) : Prop := ((x2 ≤ x3 → K (up3 V 308 o1 0 x2)) ∧ (¬ x2 ≤ x3 → (((4 : Int32) ≤ x3 → K (up3 V 308 o1 0 x2)) ∧ (¬ (4 : Int32) ≤ x3 → (vp_in x3 4) ∧ (vp_in x3 4) ∧ (C_X2_standOn l G E V o1 x3 ((V 404 0 (x3).toNatClampNeg) / (100 : Int32)) ((V 404 0 (x3).toNatClampNeg) - (V 404 0 (x3).toNatClampNeg) / (100 : Int32) * (100 : Int32)) (fun V21 => A_X3_setSupports_2 l G E V21 o1 x2 (x3 + (1 : Int32)) K))))))
theorem ok_X3_setSupports {l : Launch} {G : Gt} {E : Et} {V : Vt} {o1 : Nat} {x2 : Int32} {K : Vt → Prop} (hE : Sg E) (hl_o1 : eL E 2 o1) (h : vc_X3_setSupports l G E V o1 x2 K) : C_X3_setSupports l G E V o1 x2 K := by
  unfold vc_X3_setSupports at h
  refine Cl.of (by decide +kernel) (Nat.le_of_ble_eq_true rfl) (show Ev l G RX3 cX3_setSupports 4 none rm_X3_setSupports E 0 0 V 0 [(0, .ref (eA E 3 0)), (1, .ref (eA E 2 o1)), (2, .int x2)] [] (Qv E K) from ?_)
  refine r_iconst (v := (0 : Int32)) dX3_setSupports_0 (by decide) ?_
  refine r_istore_n dX3_setSupports_1 (by decide) ?_
  exact Ev.loc [0, 1, 2, 3] rfl h
theorem ok_X3_setSupports_2 {l : Launch} {G : Gt} {E : Et} {V : Vt} {o1 : Nat} {x2 : Int32} {x3 : Int32} {K : Vt → Prop} (hE : Sg E) (hl_o1 : eL E 2 o1) (h : vc_X3_setSupports_2 l G E V o1 x2 x3 K) : A_X3_setSupports_2 l G E V o1 x2 x3 K := by
  unfold vc_X3_setSupports_2 at h
  unfold A_X3_setSupports_2
  refine r_iload_n (x := x3) dX3_setSupports_2 rfl ?_
  refine r_iload_n (x := x2) dX3_setSupports_3 rfl ?_
  refine r_icmp_ge 41 dX3_setSupports_4 (by decide) (fun q => ?_) (fun q => ?_)
  · have h := h.1 q
    refine r_aload_n (v := .ref (eA E 2 o1)) dX3_setSupports_41 rfl (rl_ref _) ?_
    refine r_iload_n (x := x2) dX3_setSupports_42 rfl ?_
    refine r_put dX3_setSupports_43 fp_RX3_46 rfl hl_o1 rfl rfl ?_
    exact r_vret dX3_setSupports_46 rfl ⟨Nat.le_of_ble_eq_true rfl, Nat.le_of_ble_eq_true rfl⟩ ⟨rfl, rfl, h⟩
  · have h := h.2 q
    refine r_iload_n (x := x3) dX3_setSupports_7 rfl ?_
    refine r_iconst (v := (4 : Int32)) dX3_setSupports_8 (by decide) ?_
    refine r_icmp_ge 41 dX3_setSupports_9 (by decide) (fun q => ?_) (fun q => ?_)
    · have h := h.1 q
      refine r_aload_n (v := .ref (eA E 2 o1)) dX3_setSupports_41 rfl (rl_ref _) ?_
      refine r_iload_n (x := x2) dX3_setSupports_42 rfl ?_
      refine r_put dX3_setSupports_43 fp_RX3_46 rfl hl_o1 rfl rfl ?_
      exact r_vret dX3_setSupports_46 rfl ⟨Nat.le_of_ble_eq_true rfl, Nat.le_of_ble_eq_true rfl⟩ ⟨rfl, rfl, h⟩
    · have h := h.2 q
      refine r_aload_n (v := .ref (eA E 2 o1)) dX3_setSupports_12 rfl (rl_ref _) ?_
      refine r_iload_n (x := x3) dX3_setSupports_13 rfl ?_
      refine r_aload_n (v := .ref (eA E 3 0)) dX3_setSupports_14 rfl (rl_ref _) ?_
      refine r_get (v := .ref (eA E 404 0)) dX3_setSupports_15 fl_RX3_27 (hE.1 3 (by decide)) rfl ?_
      refine r_iload_n (x := x3) dX3_setSupports_18 rfl ?_
      obtain ⟨hb, h⟩ := h
      refine r_iald dX3_setSupports_19 rfl (by decide) (hE.1 3 (by decide)) (ix hE (by decide) rfl hb) ?_
      refine r_bipush (v := (100 : Int32)) dX3_setSupports_20 (by decide) ?_
      refine r_idiv dX3_setSupports_22 (by decide) ?_
      refine r_aload_n (v := .ref (eA E 3 0)) dX3_setSupports_23 rfl (rl_ref _) ?_
      refine r_get (v := .ref (eA E 404 0)) dX3_setSupports_24 fl_RX3_27 (hE.1 3 (by decide)) rfl ?_
      refine r_iload_n (x := x3) dX3_setSupports_27 rfl ?_
      obtain ⟨hb, h⟩ := h
      refine r_iald dX3_setSupports_28 rfl (by decide) (hE.1 3 (by decide)) (ix hE (by decide) rfl hb) ?_
      refine r_bipush (v := (100 : Int32)) dX3_setSupports_29 (by decide) ?_
      refine r_irem dX3_setSupports_31 (by decide) ?_
      refine r_cVv (As := [.int x3, .int ((V 404 0 (x3).toNatClampNeg) / (100 : Int32)), .int ((V 404 0 (x3).toNatClampNeg) - (V 404 0 (x3).toNatClampNeg) / (100 : Int32) * (100 : Int32))]) (rest := []) dX3_setSupports_32 mv_X2_standOn ml_RX3_42 ⟨_, _, rfl⟩ hl_o1 ⟨Nat.le_of_ble_eq_true rfl, Nat.le_of_ble_eq_true rfl⟩ ⟨rfl, rfl⟩ rfl rfl (Nat.le_of_ble_eq_true rfl) h (fun V21 h => ?_)
      refine r_iinc (x := x3) (v := (1 : Int32)) dX3_setSupports_35 rfl (by decide) (by decide) ?_
      refine r_goto 2 dX3_setSupports_38 (by decide) ?_
      exact Ev.loc [0, 1, 2, 3] rfl h
abbrev rm_X3_keepEdition : Room := { frames := 0, cells := 0, slots := 0, locals := 0 }
def C_X3_keepEdition (l : Launch) (G : Gt) (E : Et) (V : Vt) (x1 : Int32) (x2 : Int32) (K : Int32 → Vt → Prop) : Prop := Cl l G yX3_keepEdition cX3_keepEdition 3 (some .int) rm_X3_keepEdition E V [.ref (eA E 3 0), .int x1, .int x2] (Qi E K)
def vc_X3_keepEdition (l : Launch) (G : Gt) (E : Et) (V : Vt) (x1 : Int32) (x2 : Int32) (K : Int32 → Vt → Prop) : Prop := (((V 406 0 0) < (60 : Int32) → (vp_in ((up3 V 406 0 0 ((V 406 0 0) + (1 : Int32))) 406 0 0) 61) ∧ (vp_in ((up3 (up3 V 406 0 0 ((V 406 0 0) + (1 : Int32))) 401 0 (((up3 V 406 0 0 ((V 406 0 0) + (1 : Int32))) 406 0 0)).toNatClampNeg x1) 406 0 0) 61) ∧ (vp_in ((up3 (up3 (up3 V 406 0 0 ((V 406 0 0) + (1 : Int32))) 401 0 (((up3 V 406 0 0 ((V 406 0 0) + (1 : Int32))) 406 0 0)).toNatClampNeg x1) 402 0 (((up3 (up3 V 406 0 0 ((V 406 0 0) + (1 : Int32))) 401 0 (((up3 V 406 0 0 ((V 406 0 0) + (1 : Int32))) 406 0 0)).toNatClampNeg x1) 406 0 0)).toNatClampNeg x2) 406 0 0) 61) ∧ K ((up3 (up3 (up3 (up3 V 406 0 0 ((V 406 0 0) + (1 : Int32))) 401 0 (((up3 V 406 0 0 ((V 406 0 0) + (1 : Int32))) 406 0 0)).toNatClampNeg x1) 402 0 (((up3 (up3 V 406 0 0 ((V 406 0 0) + (1 : Int32))) 401 0 (((up3 V 406 0 0 ((V 406 0 0) + (1 : Int32))) 406 0 0)).toNatClampNeg x1) 406 0 0)).toNatClampNeg x2) 403 0 (((up3 (up3 (up3 V 406 0 0 ((V 406 0 0) + (1 : Int32))) 401 0 (((up3 V 406 0 0 ((V 406 0 0) + (1 : Int32))) 406 0 0)).toNatClampNeg x1) 402 0 (((up3 (up3 V 406 0 0 ((V 406 0 0) + (1 : Int32))) 401 0 (((up3 V 406 0 0 ((V 406 0 0) + (1 : Int32))) 406 0 0)).toNatClampNeg x1) 406 0 0)).toNatClampNeg x2) 406 0 0)).toNatClampNeg ((up3 (up3 (up3 V 406 0 0 ((V 406 0 0) + (1 : Int32))) 401 0 (((up3 V 406 0 0 ((V 406 0 0) + (1 : Int32))) 406 0 0)).toNatClampNeg x1) 402 0 (((up3 (up3 V 406 0 0 ((V 406 0 0) + (1 : Int32))) 401 0 (((up3 V 406 0 0 ((V 406 0 0) + (1 : Int32))) 406 0 0)).toNatClampNeg x1) 406 0 0)).toNatClampNeg x2) 405 0 0)) 406 0 0) (up3 (up3 (up3 (up3 V 406 0 0 ((V 406 0 0) + (1 : Int32))) 401 0 (((up3 V 406 0 0 ((V 406 0 0) + (1 : Int32))) 406 0 0)).toNatClampNeg x1) 402 0 (((up3 (up3 V 406 0 0 ((V 406 0 0) + (1 : Int32))) 401 0 (((up3 V 406 0 0 ((V 406 0 0) + (1 : Int32))) 406 0 0)).toNatClampNeg x1) 406 0 0)).toNatClampNeg x2) 403 0 (((up3 (up3 (up3 V 406 0 0 ((V 406 0 0) + (1 : Int32))) 401 0 (((up3 V 406 0 0 ((V 406 0 0) + (1 : Int32))) 406 0 0)).toNatClampNeg x1) 402 0 (((up3 (up3 V 406 0 0 ((V 406 0 0) + (1 : Int32))) 401 0 (((up3 V 406 0 0 ((V 406 0 0) + (1 : Int32))) 406 0 0)).toNatClampNeg x1) 406 0 0)).toNatClampNeg x2) 406 0 0)).toNatClampNeg ((up3 (up3 (up3 V 406 0 0 ((V 406 0 0) + (1 : Int32))) 401 0 (((up3 V 406 0 0 ((V 406 0 0) + (1 : Int32))) 406 0 0)).toNatClampNeg x1) 402 0 (((up3 (up3 V 406 0 0 ((V 406 0 0) + (1 : Int32))) 401 0 (((up3 V 406 0 0 ((V 406 0 0) + (1 : Int32))) 406 0 0)).toNatClampNeg x1) 406 0 0)).toNatClampNeg x2) 405 0 0))) ∧ (¬ (V 406 0 0) < (60 : Int32) → K (-3 : Int32) V))
theorem ok_X3_keepEdition {l : Launch} {G : Gt} {E : Et} {V : Vt} {x1 : Int32} {x2 : Int32} {K : Int32 → Vt → Prop} (hE : Sg E)  (h : vc_X3_keepEdition l G E V x1 x2 K) : C_X3_keepEdition l G E V x1 x2 K := by
  unfold vc_X3_keepEdition at h
  refine Cl.of (by decide +kernel) (Nat.le_of_ble_eq_true rfl) (show Ev l G RX3 cX3_keepEdition 3 (some .int) rm_X3_keepEdition E 0 0 V 0 [(0, .ref (eA E 3 0)), (1, .int x1), (2, .int x2)] [] (Qi E K) from ?_)
  refine r_aload_n (v := .ref (eA E 3 0)) dX3_keepEdition_0 rfl (rl_ref _) ?_
  refine r_get (v := .int (V 406 0 0)) dX3_keepEdition_1 fl_RX3_49 (hE.1 3 (by decide)) rfl ?_
  refine r_bipush (v := (60 : Int32)) dX3_keepEdition_4 (by decide) ?_
  refine r_icmp_lt 12 dX3_keepEdition_6 (by decide) (fun q => ?_) (fun q => ?_)
  · have h := h.1 q
    refine r_aload_n (v := .ref (eA E 3 0)) dX3_keepEdition_12 rfl (rl_ref _) ?_
    refine r_dup dX3_keepEdition_13 rfl ?_
    refine r_get (v := .int (V 406 0 0)) dX3_keepEdition_14 fl_RX3_49 (hE.1 3 (by decide)) rfl ?_
    refine r_iconst (v := (1 : Int32)) dX3_keepEdition_17 (by decide) ?_
    refine r_iadd dX3_keepEdition_18 ?_
    refine r_put dX3_keepEdition_19 fp_RX3_49 rfl (hE.1 3 (by decide)) rfl rfl ?_
    refine r_aload_n (v := .ref (eA E 3 0)) dX3_keepEdition_22 rfl (rl_ref _) ?_
    refine r_get (v := .ref (eA E 401 0)) dX3_keepEdition_23 fl_RX3_17 (hE.1 3 (by decide)) rfl ?_
    refine r_aload_n (v := .ref (eA E 3 0)) dX3_keepEdition_26 rfl (rl_ref _) ?_
    refine r_get (v := .int ((up3 V 406 0 0 ((V 406 0 0) + (1 : Int32))) 406 0 0)) dX3_keepEdition_27 fl_RX3_49 (hE.1 3 (by decide)) rfl ?_
    refine r_iload_n (x := x1) dX3_keepEdition_30 rfl ?_
    obtain ⟨hb, h⟩ := h
    refine r_iast dX3_keepEdition_31 rfl (by decide) (hE.1 3 (by decide)) (ix hE (by decide) rfl hb) ?_
    refine r_aload_n (v := .ref (eA E 3 0)) dX3_keepEdition_32 rfl (rl_ref _) ?_
    refine r_get (v := .ref (eA E 402 0)) dX3_keepEdition_33 fl_RX3_21 (hE.1 3 (by decide)) rfl ?_
    refine r_aload_n (v := .ref (eA E 3 0)) dX3_keepEdition_36 rfl (rl_ref _) ?_
    refine r_get (v := .int ((up3 (up3 V 406 0 0 ((V 406 0 0) + (1 : Int32))) 401 0 (((up3 V 406 0 0 ((V 406 0 0) + (1 : Int32))) 406 0 0)).toNatClampNeg x1) 406 0 0)) dX3_keepEdition_37 fl_RX3_49 (hE.1 3 (by decide)) rfl ?_
    refine r_iload_n (x := x2) dX3_keepEdition_40 rfl ?_
    obtain ⟨hb, h⟩ := h
    refine r_iast dX3_keepEdition_41 rfl (by decide) (hE.1 3 (by decide)) (ix hE (by decide) rfl hb) ?_
    refine r_aload_n (v := .ref (eA E 3 0)) dX3_keepEdition_42 rfl (rl_ref _) ?_
    refine r_get (v := .ref (eA E 403 0)) dX3_keepEdition_43 fl_RX3_24 (hE.1 3 (by decide)) rfl ?_
    refine r_aload_n (v := .ref (eA E 3 0)) dX3_keepEdition_46 rfl (rl_ref _) ?_
    refine r_get (v := .int ((up3 (up3 (up3 V 406 0 0 ((V 406 0 0) + (1 : Int32))) 401 0 (((up3 V 406 0 0 ((V 406 0 0) + (1 : Int32))) 406 0 0)).toNatClampNeg x1) 402 0 (((up3 (up3 V 406 0 0 ((V 406 0 0) + (1 : Int32))) 401 0 (((up3 V 406 0 0 ((V 406 0 0) + (1 : Int32))) 406 0 0)).toNatClampNeg x1) 406 0 0)).toNatClampNeg x2) 406 0 0)) dX3_keepEdition_47 fl_RX3_49 (hE.1 3 (by decide)) rfl ?_
    refine r_aload_n (v := .ref (eA E 3 0)) dX3_keepEdition_50 rfl (rl_ref _) ?_
    refine r_get (v := .int ((up3 (up3 (up3 V 406 0 0 ((V 406 0 0) + (1 : Int32))) 401 0 (((up3 V 406 0 0 ((V 406 0 0) + (1 : Int32))) 406 0 0)).toNatClampNeg x1) 402 0 (((up3 (up3 V 406 0 0 ((V 406 0 0) + (1 : Int32))) 401 0 (((up3 V 406 0 0 ((V 406 0 0) + (1 : Int32))) 406 0 0)).toNatClampNeg x1) 406 0 0)).toNatClampNeg x2) 405 0 0)) dX3_keepEdition_51 fl_RX3_30 (hE.1 3 (by decide)) rfl ?_
    obtain ⟨hb, h⟩ := h
    refine r_iast dX3_keepEdition_54 rfl (by decide) (hE.1 3 (by decide)) (ix hE (by decide) rfl hb) ?_
    refine r_aload_n (v := .ref (eA E 3 0)) dX3_keepEdition_55 rfl (rl_ref _) ?_
    refine r_get (v := .int ((up3 (up3 (up3 (up3 V 406 0 0 ((V 406 0 0) + (1 : Int32))) 401 0 (((up3 V 406 0 0 ((V 406 0 0) + (1 : Int32))) 406 0 0)).toNatClampNeg x1) 402 0 (((up3 (up3 V 406 0 0 ((V 406 0 0) + (1 : Int32))) 401 0 (((up3 V 406 0 0 ((V 406 0 0) + (1 : Int32))) 406 0 0)).toNatClampNeg x1) 406 0 0)).toNatClampNeg x2) 403 0 (((up3 (up3 (up3 V 406 0 0 ((V 406 0 0) + (1 : Int32))) 401 0 (((up3 V 406 0 0 ((V 406 0 0) + (1 : Int32))) 406 0 0)).toNatClampNeg x1) 402 0 (((up3 (up3 V 406 0 0 ((V 406 0 0) + (1 : Int32))) 401 0 (((up3 V 406 0 0 ((V 406 0 0) + (1 : Int32))) 406 0 0)).toNatClampNeg x1) 406 0 0)).toNatClampNeg x2) 406 0 0)).toNatClampNeg ((up3 (up3 (up3 V 406 0 0 ((V 406 0 0) + (1 : Int32))) 401 0 (((up3 V 406 0 0 ((V 406 0 0) + (1 : Int32))) 406 0 0)).toNatClampNeg x1) 402 0 (((up3 (up3 V 406 0 0 ((V 406 0 0) + (1 : Int32))) 401 0 (((up3 V 406 0 0 ((V 406 0 0) + (1 : Int32))) 406 0 0)).toNatClampNeg x1) 406 0 0)).toNatClampNeg x2) 405 0 0)) 406 0 0)) dX3_keepEdition_56 fl_RX3_49 (hE.1 3 (by decide)) rfl ?_
    exact r_iret dX3_keepEdition_59 rfl ⟨Nat.le_of_ble_eq_true rfl, Nat.le_of_ble_eq_true rfl⟩ ⟨rfl, _, rfl, h⟩
  · have h := h.2 q
    refine r_bipush (v := (-3 : Int32)) dX3_keepEdition_9 (by decide) ?_
    exact r_iret dX3_keepEdition_11 rfl ⟨Nat.le_of_ble_eq_true rfl, Nat.le_of_ble_eq_true rfl⟩ ⟨rfl, _, rfl, h⟩
abbrev rm_X3_coursesIn : Room := { frames := 1, cells := 0, slots := 0, locals := 21 }
def C_X3_coursesIn (l : Launch) (G : Gt) (E : Et) (V : Vt) (x1 : Int32) (x2 : Int32) (K : Int32 → Vt → Prop) : Prop := Cl l G yX3_coursesIn cX3_coursesIn 5 (some .int) rm_X3_coursesIn E V [.ref (eA E 3 0), .int x1, .int x2] (Qi E K)
def A_X3_coursesIn_43 (l : Launch) (G : Gt) (E : Et) (V : Vt) (x2 : Int32) (o3 : Nat) (x4 : Int32) (K : Int32 → Vt → Prop) : Prop := Ev l G RX3 cX3_coursesIn 5 (some .int) rm_X3_coursesIn E 0 0 V 43 [(0, .ref (eA E 3 0)), (2, .int x2), (3, .ref (eA E 2 o3)), (4, .int x4)] [] (Qi E K)
def vc_X3_coursesIn (l : Launch) (G : Gt) (E : Et) (V : Vt) (x1 : Int32) (x2 : Int32) (K : Int32 → Vt → Prop) : Prop := (C_X3_find l G E V x2 (fun o22 V21 => ((o22 = none → K (-1 : Int32) V21) ∧ (∀ t23, o22 = some t23 → eL E 2 t23 ∧ ((x1 < (0 : Int32) → K (-1 : Int32) V21) ∧ (¬ x1 < (0 : Int32) → ((x1 ≤ (V21 406 0 0) → ((x1 ≤ (0 : Int32) → A_X3_coursesIn_43 l G E V21 x2 t23 x1 K) ∧ (¬ x1 ≤ (0 : Int32) → (vp_in x1 61) ∧ ((x2 < (V21 403 0 (x1).toNatClampNeg) → A_X3_coursesIn_43 l G E V21 x2 t23 x1 K) ∧ (¬ x2 < (V21 403 0 (x1).toNatClampNeg) → K (-1 : Int32) V21))))) ∧ (¬ x1 ≤ (V21 406 0 0) → K (-1 : Int32) V21))))))))
def vc_X3_coursesIn_43 (l : Launch) (G : Gt) (E : Et) (V : Vt) (x2 : Int32) (o3 : Nat) (x4 : Int32) (K : Int32 → Vt → Prop) : Prop := ((x4 ≤ (0 : Int32) → K (V 301 o3 0) V) ∧ (¬ x4 ≤ (0 : Int32) → (vp_in x4 61) ∧ ((¬ (V 401 0 (x4).toNatClampNeg) = x2 → A_X3_coursesIn_43 l G E V x2 o3 (x4 + (-1 : Int32)) K) ∧ ((V 401 0 (x4).toNatClampNeg) = x2 → (vp_in x4 61) ∧ K (V 402 0 (x4).toNatClampNeg) V))))
theorem ok_X3_coursesIn {l : Launch} {G : Gt} {E : Et} {V : Vt} {x1 : Int32} {x2 : Int32} {K : Int32 → Vt → Prop} (hE : Sg E)  (h : vc_X3_coursesIn l G E V x1 x2 K) : C_X3_coursesIn l G E V x1 x2 K := by
  unfold vc_X3_coursesIn at h
  refine Cl.of (by decide +kernel) (Nat.le_of_ble_eq_true rfl) (show Ev l G RX3 cX3_coursesIn 5 (some .int) rm_X3_coursesIn E 0 0 V 0 [(0, .ref (eA E 3 0)), (1, .int x1), (2, .int x2)] [] (Qi E K) from ?_)
  refine r_aload_n (v := .ref (eA E 3 0)) dX3_coursesIn_0 rfl (rl_ref _) ?_
  refine r_iload_n (x := x2) dX3_coursesIn_1 rfl ?_
  refine r_cVr (As := [.int x2]) (rest := []) dX3_coursesIn_2 mv_X3_find ml_RX3_52 ⟨_, _, rfl⟩ (hE.1 3 (by decide)) ⟨Nat.le_of_ble_eq_true rfl, Nat.le_of_ble_eq_true rfl⟩ ⟨rfl, rfl⟩ rfl rfl (Nat.le_of_ble_eq_true rfl) h (fun o22 V21 h => ?_)
  refine r_astore_n dX3_coursesIn_5 (by decide) (rl_rf _) ?_
  refine r_aload_n (v := va_rf (Option.map (eA E 2) o22)) dX3_coursesIn_6 rfl (rl_rf _) ?_
  cases hot23 : o22 with
  | none =>
    have h := h.1 hot23
    refine r_ifnull (o := none) 22 dX3_coursesIn_7 (by decide) (fun _ => ?_) (fun a q => by cases q)
    refine r_iconst (v := (-1 : Int32)) dX3_coursesIn_22 (by decide) ?_
    exact r_iret dX3_coursesIn_23 rfl ⟨Nat.le_of_ble_eq_true rfl, Nat.le_of_ble_eq_true rfl⟩ ⟨rfl, _, rfl, h⟩
  | some t23 =>
    obtain ⟨hl_t23, h⟩ := h.2 t23 hot23
    refine r_ifnull (o := some (eA E 2 t23)) 22 dX3_coursesIn_7 (by decide) (fun q => by cases q) (fun _ _ => ?_)
    refine r_iload_n (x := x1) dX3_coursesIn_10 rfl ?_
    refine r_if_lt 22 dX3_coursesIn_11 (by decide) (fun q => ?_) (fun q => ?_)
    · have h := h.1 q
      refine r_iconst (v := (-1 : Int32)) dX3_coursesIn_22 (by decide) ?_
      exact r_iret dX3_coursesIn_23 rfl ⟨Nat.le_of_ble_eq_true rfl, Nat.le_of_ble_eq_true rfl⟩ ⟨rfl, _, rfl, h⟩
    · have h := h.2 q
      refine r_iload_n (x := x1) dX3_coursesIn_14 rfl ?_
      refine r_aload_n (v := .ref (eA E 3 0)) dX3_coursesIn_15 rfl (rl_ref _) ?_
      refine r_get (v := .int (V21 406 0 0)) dX3_coursesIn_16 fl_RX3_49 (hE.1 3 (by decide)) rfl ?_
      refine r_icmp_le 24 dX3_coursesIn_19 (by decide) (fun q => ?_) (fun q => ?_)
      · have h := h.1 q
        refine r_iload_n (x := x1) dX3_coursesIn_24 rfl ?_
        refine r_if_le 40 dX3_coursesIn_25 (by decide) (fun q => ?_) (fun q => ?_)
        · have h := h.1 q
          refine r_iload_n (x := x1) dX3_coursesIn_40 rfl ?_
          refine r_istore dX3_coursesIn_41 (by decide) ?_
          exact Ev.loc [0, 2, 3, 4] rfl h
        · have h := h.2 q
          refine r_iload_n (x := x2) dX3_coursesIn_28 rfl ?_
          refine r_aload_n (v := .ref (eA E 3 0)) dX3_coursesIn_29 rfl (rl_ref _) ?_
          refine r_get (v := .ref (eA E 403 0)) dX3_coursesIn_30 fl_RX3_24 (hE.1 3 (by decide)) rfl ?_
          refine r_iload_n (x := x1) dX3_coursesIn_33 rfl ?_
          obtain ⟨hb, h⟩ := h
          refine r_iald dX3_coursesIn_34 rfl (by decide) (hE.1 3 (by decide)) (ix hE (by decide) rfl hb) ?_
          refine r_icmp_lt 40 dX3_coursesIn_35 (by decide) (fun q => ?_) (fun q => ?_)
          · have h := h.1 q
            refine r_iload_n (x := x1) dX3_coursesIn_40 rfl ?_
            refine r_istore dX3_coursesIn_41 (by decide) ?_
            exact Ev.loc [0, 2, 3, 4] rfl h
          · have h := h.2 q
            refine r_iconst (v := (-1 : Int32)) dX3_coursesIn_38 (by decide) ?_
            exact r_iret dX3_coursesIn_39 rfl ⟨Nat.le_of_ble_eq_true rfl, Nat.le_of_ble_eq_true rfl⟩ ⟨rfl, _, rfl, h⟩
      · have h := h.2 q
        refine r_iconst (v := (-1 : Int32)) dX3_coursesIn_22 (by decide) ?_
        exact r_iret dX3_coursesIn_23 rfl ⟨Nat.le_of_ble_eq_true rfl, Nat.le_of_ble_eq_true rfl⟩ ⟨rfl, _, rfl, h⟩
theorem ok_X3_coursesIn_43 {l : Launch} {G : Gt} {E : Et} {V : Vt} {x2 : Int32} {o3 : Nat} {x4 : Int32} {K : Int32 → Vt → Prop} (hE : Sg E) (hl_o3 : eL E 2 o3) (h : vc_X3_coursesIn_43 l G E V x2 o3 x4 K) : A_X3_coursesIn_43 l G E V x2 o3 x4 K := by
  unfold vc_X3_coursesIn_43 at h
  unfold A_X3_coursesIn_43
  refine r_iload (x := x4) dX3_coursesIn_43 rfl ?_
  refine r_if_le 73 dX3_coursesIn_45 (by decide) (fun q => ?_) (fun q => ?_)
  · have h := h.1 q
    refine r_aload_n (v := .ref (eA E 2 o3)) dX3_coursesIn_73 rfl (rl_ref _) ?_
    refine r_get (v := .int (V 301 o3 0)) dX3_coursesIn_74 fl_RX3_56 hl_o3 rfl ?_
    exact r_iret dX3_coursesIn_77 rfl ⟨Nat.le_of_ble_eq_true rfl, Nat.le_of_ble_eq_true rfl⟩ ⟨rfl, _, rfl, h⟩
  · have h := h.2 q
    refine r_aload_n (v := .ref (eA E 3 0)) dX3_coursesIn_48 rfl (rl_ref _) ?_
    refine r_get (v := .ref (eA E 401 0)) dX3_coursesIn_49 fl_RX3_17 (hE.1 3 (by decide)) rfl ?_
    refine r_iload (x := x4) dX3_coursesIn_52 rfl ?_
    obtain ⟨hb, h⟩ := h
    refine r_iald dX3_coursesIn_54 rfl (by decide) (hE.1 3 (by decide)) (ix hE (by decide) rfl hb) ?_
    refine r_iload_n (x := x2) dX3_coursesIn_55 rfl ?_
    refine r_icmp_ne 67 dX3_coursesIn_56 (by decide) (fun q => ?_) (fun q => ?_)
    · have h := h.1 q
      refine r_iinc (x := x4) (v := (-1 : Int32)) dX3_coursesIn_67 rfl (by decide) (by decide) ?_
      refine r_goto 43 dX3_coursesIn_70 (by decide) ?_
      exact Ev.loc [0, 1, 2, 3] rfl h
    · have h := h.2 q
      refine r_aload_n (v := .ref (eA E 3 0)) dX3_coursesIn_59 rfl (rl_ref _) ?_
      refine r_get (v := .ref (eA E 402 0)) dX3_coursesIn_60 fl_RX3_21 (hE.1 3 (by decide)) rfl ?_
      refine r_iload (x := x4) dX3_coursesIn_63 rfl ?_
      obtain ⟨hb, h⟩ := h
      refine r_iald dX3_coursesIn_65 rfl (by decide) (hE.1 3 (by decide)) (ix hE (by decide) rfl hb) ?_
      exact r_iret dX3_coursesIn_66 rfl ⟨Nat.le_of_ble_eq_true rfl, Nat.le_of_ble_eq_true rfl⟩ ⟨rfl, _, rfl, h⟩
abbrev rm_X3_isReadyBelow : Room := { frames := 2, cells := 0, slots := 0, locals := 40 }
def C_X3_isReadyBelow (l : Launch) (G : Gt) (E : Et) (V : Vt) (o1 : Nat) (K : Int32 → Vt → Prop) : Prop := Cl l G yX3_isReadyBelow cX3_isReadyBelow 4 (some .boolean) rm_X3_isReadyBelow E V [.ref (eA E 3 0), .ref (eA E 2 o1)] (Qi E K)
def A_X3_isReadyBelow_2 (l : Launch) (G : Gt) (E : Et) (V : Vt) (o1 : Nat) (x2 : Int32) (K : Int32 → Vt → Prop) : Prop := Ev l G RX3 cX3_isReadyBelow 4 (some .boolean) rm_X3_isReadyBelow E 0 0 V 2 [(0, .ref (eA E 3 0)), (1, .ref (eA E 2 o1)), (2, .int x2)] [] (Qi E K)
def vc_X3_isReadyBelow (l : Launch) (G : Gt) (E : Et) (V : Vt) (o1 : Nat) (K : Int32 → Vt → Prop) : Prop := A_X3_isReadyBelow_2 l G E V o1 (0 : Int32) K
def vc_X3_isReadyBelow_2 (l : Launch) (G : Gt) (E : Et) (V : Vt) (o1 : Nat) (x2 : Int32) (K : Int32 → Vt → Prop) : Prop := (((V 308 o1 0) ≤ x2 → K (1 : Int32) V) ∧ (¬ (V 308 o1 0) ≤ x2 → (vp_in x2 4) ∧ (C_X3_find l G E V (V 305 o1 (x2).toNatClampNeg) (fun o22 V21 => ((o22 = none → K (0 : Int32) V21) ∧ (∀ t23, o22 = some t23 → eL E 2 t23 ∧ (C_X2_isWhole l G E V21 t23 (fun x25 V24 => ((x25 = (0 : Int32) → K (0 : Int32) V24) ∧ (¬ x25 = (0 : Int32) → (C_X2_isOnCentring l G E V24 t23 (fun x27 V26 => ((x27 = (0 : Int32) → A_X3_isReadyBelow_2 l G E V26 o1 (x2 + (1 : Int32)) K) ∧ (¬ x27 = (0 : Int32) → K (0 : Int32) V26))))))))))))))
theorem ok_X3_isReadyBelow {l : Launch} {G : Gt} {E : Et} {V : Vt} {o1 : Nat} {K : Int32 → Vt → Prop} (hE : Sg E) (hl_o1 : eL E 2 o1) (h : vc_X3_isReadyBelow l G E V o1 K) : C_X3_isReadyBelow l G E V o1 K := by
  unfold vc_X3_isReadyBelow at h
  refine Cl.of (by decide +kernel) (Nat.le_of_ble_eq_true rfl) (show Ev l G RX3 cX3_isReadyBelow 4 (some .boolean) rm_X3_isReadyBelow E 0 0 V 0 [(0, .ref (eA E 3 0)), (1, .ref (eA E 2 o1))] [] (Qi E K) from ?_)
  refine r_iconst (v := (0 : Int32)) dX3_isReadyBelow_0 (by decide) ?_
  refine r_istore_n dX3_isReadyBelow_1 (by decide) ?_
  exact Ev.loc [0, 1, 2] rfl h
theorem ok_X3_isReadyBelow_2 {l : Launch} {G : Gt} {E : Et} {V : Vt} {o1 : Nat} {x2 : Int32} {K : Int32 → Vt → Prop} (hE : Sg E) (hl_o1 : eL E 2 o1) (h : vc_X3_isReadyBelow_2 l G E V o1 x2 K) : A_X3_isReadyBelow_2 l G E V o1 x2 K := by
  unfold vc_X3_isReadyBelow_2 at h
  unfold A_X3_isReadyBelow_2
  refine r_iload_n (x := x2) dX3_isReadyBelow_2 rfl ?_
  refine r_aload_n (v := .ref (eA E 2 o1)) dX3_isReadyBelow_3 rfl (rl_ref _) ?_
  refine r_get (v := .int (V 308 o1 0)) dX3_isReadyBelow_4 fl_RX3_46 hl_o1 rfl ?_
  refine r_icmp_ge 47 dX3_isReadyBelow_7 (by decide) (fun q => ?_) (fun q => ?_)
  · have h := h.1 q
    refine r_iconst (v := (1 : Int32)) dX3_isReadyBelow_47 (by decide) ?_
    exact r_zret dX3_isReadyBelow_48 rfl rfl ⟨Nat.le_of_ble_eq_true rfl, Nat.le_of_ble_eq_true rfl⟩ ⟨rfl, _, rfl, h⟩
  · have h := h.2 q
    refine r_aload_n (v := .ref (eA E 3 0)) dX3_isReadyBelow_10 rfl (rl_ref _) ?_
    refine r_aload_n (v := .ref (eA E 2 o1)) dX3_isReadyBelow_11 rfl (rl_ref _) ?_
    refine r_get (v := .ref (eA E 305 o1)) dX3_isReadyBelow_12 fl_RX3_59 hl_o1 rfl ?_
    refine r_iload_n (x := x2) dX3_isReadyBelow_15 rfl ?_
    obtain ⟨hb, h⟩ := h
    refine r_iald dX3_isReadyBelow_16 rfl (by decide) hl_o1 (ix hE (by decide) rfl hb) ?_
    refine r_cVr (As := [.int (V 305 o1 (x2).toNatClampNeg)]) (rest := []) dX3_isReadyBelow_17 mv_X3_find ml_RX3_52 ⟨_, _, rfl⟩ (hE.1 3 (by decide)) ⟨Nat.le_of_ble_eq_true rfl, Nat.le_of_ble_eq_true rfl⟩ ⟨rfl, rfl⟩ rfl rfl (Nat.le_of_ble_eq_true rfl) h (fun o22 V21 h => ?_)
    refine r_astore_n dX3_isReadyBelow_20 (by decide) (rl_rf _) ?_
    refine r_aload_n (v := va_rf (Option.map (eA E 2) o22)) dX3_isReadyBelow_21 rfl (rl_rf _) ?_
    cases hot23 : o22 with
    | none =>
      have h := h.1 hot23
      refine r_ifnull (o := none) 39 dX3_isReadyBelow_22 (by decide) (fun _ => ?_) (fun a q => by cases q)
      refine r_iconst (v := (0 : Int32)) dX3_isReadyBelow_39 (by decide) ?_
      exact r_zret dX3_isReadyBelow_40 rfl rfl ⟨Nat.le_of_ble_eq_true rfl, Nat.le_of_ble_eq_true rfl⟩ ⟨rfl, _, rfl, h⟩
    | some t23 =>
      obtain ⟨hl_t23, h⟩ := h.2 t23 hot23
      refine r_ifnull (o := some (eA E 2 t23)) 39 dX3_isReadyBelow_22 (by decide) (fun q => by cases q) (fun _ _ => ?_)
      refine r_aload_n (v := .ref (eA E 2 t23)) dX3_isReadyBelow_25 rfl (rl_ref _) ?_
      refine r_cVi (As := []) (rest := []) dX3_isReadyBelow_26 mv_X2_isWhole ml_RX3_62 ⟨_, _, rfl⟩ hl_t23 ⟨Nat.le_of_ble_eq_true rfl, Nat.le_of_ble_eq_true rfl⟩ ⟨rfl, rfl⟩ rfl rfl (Nat.le_of_ble_eq_true rfl) h (fun x25 V24 h => ?_)
      refine r_if_eq 39 dX3_isReadyBelow_29 (by decide) (fun q => ?_) (fun q => ?_)
      · have h := h.1 q
        refine r_iconst (v := (0 : Int32)) dX3_isReadyBelow_39 (by decide) ?_
        exact r_zret dX3_isReadyBelow_40 rfl rfl ⟨Nat.le_of_ble_eq_true rfl, Nat.le_of_ble_eq_true rfl⟩ ⟨rfl, _, rfl, h⟩
      · have h := h.2 q
        refine r_aload_n (v := .ref (eA E 2 t23)) dX3_isReadyBelow_32 rfl (rl_ref _) ?_
        refine r_cVi (As := []) (rest := []) dX3_isReadyBelow_33 mv_X2_isOnCentring ml_RX3_66 ⟨_, _, rfl⟩ hl_t23 ⟨Nat.le_of_ble_eq_true rfl, Nat.le_of_ble_eq_true rfl⟩ ⟨rfl, rfl⟩ rfl rfl (Nat.le_of_ble_eq_true rfl) h (fun x27 V26 h => ?_)
        refine r_if_eq 41 dX3_isReadyBelow_36 (by decide) (fun q => ?_) (fun q => ?_)
        · have h := h.1 q
          refine r_iinc (x := x2) (v := (1 : Int32)) dX3_isReadyBelow_41 rfl (by decide) (by decide) ?_
          refine r_goto 2 dX3_isReadyBelow_44 (by decide) ?_
          exact Ev.loc [0, 1, 2] rfl h
        · have h := h.2 q
          refine r_iconst (v := (0 : Int32)) dX3_isReadyBelow_39 (by decide) ?_
          exact r_zret dX3_isReadyBelow_40 rfl rfl ⟨Nat.le_of_ble_eq_true rfl, Nat.le_of_ble_eq_true rfl⟩ ⟨rfl, _, rfl, h⟩
abbrev rm_X3_ageAll : Room := { frames := 1, cells := 0, slots := 0, locals := 21 }
def C_X3_ageAll (l : Launch) (G : Gt) (E : Et) (V : Vt) (x1 : Int32) (K : Vt → Prop) : Prop := Cl l G yX3_ageAll cX3_ageAll 4 none rm_X3_ageAll E V [.ref (eA E 3 0), .int x1] (Qv E K)
def A_X3_ageAll_2 (l : Launch) (G : Gt) (E : Et) (V : Vt) (x1 : Int32) (x2 : Int32) (K : Vt → Prop) : Prop := Ev l G RX3 cX3_ageAll 4 none rm_X3_ageAll E 0 0 V 2 [(0, .ref (eA E 3 0)), (1, .int x1), (2, .int x2)] [] (Qv E K)
def vc_X3_ageAll (l : Launch) (G : Gt) (E : Et) (V : Vt) (x1 : Int32) (K : Vt → Prop) : Prop := A_X3_ageAll_2 l G E V x1 (0 : Int32) K
def vc_X3_ageAll_2 (l : Launch) (G : Gt) (E : Et) (V : Vt) (x1 : Int32) (x2 : Int32) (K : Vt → Prop) : Prop := (((V 405 0 0) ≤ x2 → K V) ∧ (¬ (V 405 0 0) ≤ x2 → (C_X3_find l G E V x2 (fun o22 V21 => ((o22 = none → A_X3_ageAll_2 l G E V21 x1 (x2 + (1 : Int32)) K) ∧ (∀ t23, o22 = some t23 → eL E 2 t23 ∧ (C_X2_isBegun l G E V21 t23 (fun x25 V24 => ((x25 = (0 : Int32) → A_X3_ageAll_2 l G E V24 x1 (x2 + (1 : Int32)) K) ∧ (¬ x25 = (0 : Int32) → A_X3_ageAll_2 l G E (up3 V24 311 t23 0 ((V24 311 t23 0) + x1)) x1 (x2 + (1 : Int32)) K))))))))))
theorem ok_X3_ageAll {l : Launch} {G : Gt} {E : Et} {V : Vt} {x1 : Int32} {K : Vt → Prop} (hE : Sg E)  (h : vc_X3_ageAll l G E V x1 K) : C_X3_ageAll l G E V x1 K := by
  unfold vc_X3_ageAll at h
  refine Cl.of (by decide +kernel) (Nat.le_of_ble_eq_true rfl) (show Ev l G RX3 cX3_ageAll 4 none rm_X3_ageAll E 0 0 V 0 [(0, .ref (eA E 3 0)), (1, .int x1)] [] (Qv E K) from ?_)
  refine r_iconst (v := (0 : Int32)) dX3_ageAll_0 (by decide) ?_
  refine r_istore_n dX3_ageAll_1 (by decide) ?_
  exact Ev.loc [0, 1, 2] rfl h
theorem ok_X3_ageAll_2 {l : Launch} {G : Gt} {E : Et} {V : Vt} {x1 : Int32} {x2 : Int32} {K : Vt → Prop} (hE : Sg E)  (h : vc_X3_ageAll_2 l G E V x1 x2 K) : A_X3_ageAll_2 l G E V x1 x2 K := by
  unfold vc_X3_ageAll_2 at h
  unfold A_X3_ageAll_2
  refine r_iload_n (x := x2) dX3_ageAll_2 rfl ?_
  refine r_aload_n (v := .ref (eA E 3 0)) dX3_ageAll_3 rfl (rl_ref _) ?_
  refine r_get (v := .int (V 405 0 0)) dX3_ageAll_4 fl_RX3_30 (hE.1 3 (by decide)) rfl ?_
  refine r_icmp_ge 43 dX3_ageAll_7 (by decide) (fun q => ?_) (fun q => ?_)
  · have h := h.1 q
    exact r_vret dX3_ageAll_43 rfl ⟨Nat.le_of_ble_eq_true rfl, Nat.le_of_ble_eq_true rfl⟩ ⟨rfl, rfl, h⟩
  · have h := h.2 q
    refine r_aload_n (v := .ref (eA E 3 0)) dX3_ageAll_10 rfl (rl_ref _) ?_
    refine r_iload_n (x := x2) dX3_ageAll_11 rfl ?_
    refine r_cVr (As := [.int x2]) (rest := []) dX3_ageAll_12 mv_X3_find ml_RX3_52 ⟨_, _, rfl⟩ (hE.1 3 (by decide)) ⟨Nat.le_of_ble_eq_true rfl, Nat.le_of_ble_eq_true rfl⟩ ⟨rfl, rfl⟩ rfl rfl (Nat.le_of_ble_eq_true rfl) h (fun o22 V21 h => ?_)
    refine r_astore_n dX3_ageAll_15 (by decide) (rl_rf _) ?_
    refine r_aload_n (v := va_rf (Option.map (eA E 2) o22)) dX3_ageAll_16 rfl (rl_rf _) ?_
    cases hot23 : o22 with
    | none =>
      have h := h.1 hot23
      refine r_ifnull (o := none) 37 dX3_ageAll_17 (by decide) (fun _ => ?_) (fun a q => by cases q)
      refine r_iinc (x := x2) (v := (1 : Int32)) dX3_ageAll_37 rfl (by decide) (by decide) ?_
      refine r_goto 2 dX3_ageAll_40 (by decide) ?_
      exact Ev.loc [0, 1, 2] rfl h
    | some t23 =>
      obtain ⟨hl_t23, h⟩ := h.2 t23 hot23
      refine r_ifnull (o := some (eA E 2 t23)) 37 dX3_ageAll_17 (by decide) (fun q => by cases q) (fun _ _ => ?_)
      refine r_aload_n (v := .ref (eA E 2 t23)) dX3_ageAll_20 rfl (rl_ref _) ?_
      refine r_cVi (As := []) (rest := []) dX3_ageAll_21 mv_X2_isBegun ml_RX3_69 ⟨_, _, rfl⟩ hl_t23 ⟨Nat.le_of_ble_eq_true rfl, Nat.le_of_ble_eq_true rfl⟩ ⟨rfl, rfl⟩ rfl rfl (Nat.le_of_ble_eq_true rfl) h (fun x25 V24 h => ?_)
      refine r_if_eq 37 dX3_ageAll_24 (by decide) (fun q => ?_) (fun q => ?_)
      · have h := h.1 q
        refine r_iinc (x := x2) (v := (1 : Int32)) dX3_ageAll_37 rfl (by decide) (by decide) ?_
        refine r_goto 2 dX3_ageAll_40 (by decide) ?_
        exact Ev.loc [0, 1, 2] rfl h
      · have h := h.2 q
        refine r_aload_n (v := .ref (eA E 2 t23)) dX3_ageAll_27 rfl (rl_ref _) ?_
        refine r_dup dX3_ageAll_28 rfl ?_
        refine r_get (v := .int (V24 311 t23 0)) dX3_ageAll_29 fl_RX3_72 hl_t23 rfl ?_
        refine r_iload_n (x := x1) dX3_ageAll_32 rfl ?_
        refine r_iadd dX3_ageAll_33 ?_
        refine r_put dX3_ageAll_34 fp_RX3_72 rfl hl_t23 rfl rfl ?_
        refine r_iinc (x := x2) (v := (1 : Int32)) dX3_ageAll_37 rfl (by decide) (by decide) ?_
        refine r_goto 2 dX3_ageAll_40 (by decide) ?_
        exact Ev.loc [0, 1, 2] rfl h
abbrev rm_X3_countBorneBy : Room := { frames := 1, cells := 0, slots := 0, locals := 22 }
def C_X3_countBorneBy (l : Launch) (G : Gt) (E : Et) (V : Vt) (x1 : Int32) (K : Int32 → Vt → Prop) : Prop := Cl l G yX3_countBorneBy cX3_countBorneBy 5 (some .int) rm_X3_countBorneBy E V [.ref (eA E 3 0), .int x1] (Qi E K)
def A_X3_countBorneBy_4 (l : Launch) (G : Gt) (E : Et) (V : Vt) (x1 : Int32) (x2 : Int32) (x3 : Int32) (K : Int32 → Vt → Prop) : Prop := Ev l G RX3 cX3_countBorneBy 5 (some .int) rm_X3_countBorneBy E 0 0 V 4 [(0, .ref (eA E 3 0)), (1, .int x1), (2, .int x2), (3, .int x3)] [] (Qi E K)
def vc_X3_countBorneBy (l : Launch) (G : Gt) (E : Et) (V : Vt) (x1 : Int32) (K : Int32 → Vt → Prop) : Prop := A_X3_countBorneBy_4 l G E V x1 (0 : Int32) (0 : Int32) K
def vc_X3_countBorneBy_4 (l : Launch) (G : Gt) (E : Et) (V : Vt) (x1 : Int32) (x2 : Int32) (x3 : Int32) (K : Int32 → Vt → Prop) : Prop := (((V 405 0 0) ≤ x3 → K x2 V) ∧ (¬ (V 405 0 0) ≤ x3 → (C_X3_find l G E V x3 (fun o22 V21 => ((o22 = none → A_X3_countBorneBy_4 l G E V21 x1 x2 (x3 + (1 : Int32)) K) ∧ (∀ t23, o22 = some t23 → eL E 2 t23 ∧ (C_X2_standsOn l G E V21 t23 x1 (fun x25 V24 => ((x25 = (0 : Int32) → A_X3_countBorneBy_4 l G E V24 x1 x2 (x3 + (1 : Int32)) K) ∧ (¬ x25 = (0 : Int32) → A_X3_countBorneBy_4 l G E V24 x1 (x2 + (1 : Int32)) (x3 + (1 : Int32)) K))))))))))
theorem ok_X3_countBorneBy {l : Launch} {G : Gt} {E : Et} {V : Vt} {x1 : Int32} {K : Int32 → Vt → Prop} (hE : Sg E)  (h : vc_X3_countBorneBy l G E V x1 K) : C_X3_countBorneBy l G E V x1 K := by
  unfold vc_X3_countBorneBy at h
  refine Cl.of (by decide +kernel) (Nat.le_of_ble_eq_true rfl) (show Ev l G RX3 cX3_countBorneBy 5 (some .int) rm_X3_countBorneBy E 0 0 V 0 [(0, .ref (eA E 3 0)), (1, .int x1)] [] (Qi E K) from ?_)
  refine r_iconst (v := (0 : Int32)) dX3_countBorneBy_0 (by decide) ?_
  refine r_istore_n dX3_countBorneBy_1 (by decide) ?_
  refine r_iconst (v := (0 : Int32)) dX3_countBorneBy_2 (by decide) ?_
  refine r_istore_n dX3_countBorneBy_3 (by decide) ?_
  exact Ev.loc [0, 1, 2, 3] rfl h
theorem ok_X3_countBorneBy_4 {l : Launch} {G : Gt} {E : Et} {V : Vt} {x1 : Int32} {x2 : Int32} {x3 : Int32} {K : Int32 → Vt → Prop} (hE : Sg E)  (h : vc_X3_countBorneBy_4 l G E V x1 x2 x3 K) : A_X3_countBorneBy_4 l G E V x1 x2 x3 K := by
  unfold vc_X3_countBorneBy_4 at h
  unfold A_X3_countBorneBy_4
  refine r_iload_n (x := x3) dX3_countBorneBy_4 rfl ?_
  refine r_aload_n (v := .ref (eA E 3 0)) dX3_countBorneBy_5 rfl (rl_ref _) ?_
  refine r_get (v := .int (V 405 0 0)) dX3_countBorneBy_6 fl_RX3_30 (hE.1 3 (by decide)) rfl ?_
  refine r_icmp_ge 42 dX3_countBorneBy_9 (by decide) (fun q => ?_) (fun q => ?_)
  · have h := h.1 q
    refine r_iload_n (x := x2) dX3_countBorneBy_42 rfl ?_
    exact r_iret dX3_countBorneBy_43 rfl ⟨Nat.le_of_ble_eq_true rfl, Nat.le_of_ble_eq_true rfl⟩ ⟨rfl, _, rfl, h⟩
  · have h := h.2 q
    refine r_aload_n (v := .ref (eA E 3 0)) dX3_countBorneBy_12 rfl (rl_ref _) ?_
    refine r_iload_n (x := x3) dX3_countBorneBy_13 rfl ?_
    refine r_cVr (As := [.int x3]) (rest := []) dX3_countBorneBy_14 mv_X3_find ml_RX3_52 ⟨_, _, rfl⟩ (hE.1 3 (by decide)) ⟨Nat.le_of_ble_eq_true rfl, Nat.le_of_ble_eq_true rfl⟩ ⟨rfl, rfl⟩ rfl rfl (Nat.le_of_ble_eq_true rfl) h (fun o22 V21 h => ?_)
    refine r_astore dX3_countBorneBy_17 (by decide) (rl_rf _) ?_
    refine r_aload (v := va_rf (Option.map (eA E 2) o22)) dX3_countBorneBy_19 rfl (rl_rf _) ?_
    cases hot23 : o22 with
    | none =>
      have h := h.1 hot23
      refine r_ifnull (o := none) 36 dX3_countBorneBy_21 (by decide) (fun _ => ?_) (fun a q => by cases q)
      refine r_iinc (x := x3) (v := (1 : Int32)) dX3_countBorneBy_36 rfl (by decide) (by decide) ?_
      refine r_goto 4 dX3_countBorneBy_39 (by decide) ?_
      exact Ev.loc [0, 1, 2, 3] rfl h
    | some t23 =>
      obtain ⟨hl_t23, h⟩ := h.2 t23 hot23
      refine r_ifnull (o := some (eA E 2 t23)) 36 dX3_countBorneBy_21 (by decide) (fun q => by cases q) (fun _ _ => ?_)
      refine r_aload (v := .ref (eA E 2 t23)) dX3_countBorneBy_24 rfl (rl_ref _) ?_
      refine r_iload_n (x := x1) dX3_countBorneBy_26 rfl ?_
      refine r_cVi (As := [.int x1]) (rest := []) dX3_countBorneBy_27 mv_X2_standsOn ml_RX3_75 ⟨_, _, rfl⟩ hl_t23 ⟨Nat.le_of_ble_eq_true rfl, Nat.le_of_ble_eq_true rfl⟩ ⟨rfl, rfl⟩ rfl rfl (Nat.le_of_ble_eq_true rfl) h (fun x25 V24 h => ?_)
      refine r_if_eq 36 dX3_countBorneBy_30 (by decide) (fun q => ?_) (fun q => ?_)
      · have h := h.1 q
        refine r_iinc (x := x3) (v := (1 : Int32)) dX3_countBorneBy_36 rfl (by decide) (by decide) ?_
        refine r_goto 4 dX3_countBorneBy_39 (by decide) ?_
        exact Ev.loc [0, 1, 2, 3] rfl h
      · have h := h.2 q
        refine r_iinc (x := x2) (v := (1 : Int32)) dX3_countBorneBy_33 rfl (by decide) (by decide) ?_
        refine r_iinc (x := x3) (v := (1 : Int32)) dX3_countBorneBy_36 rfl (by decide) (by decide) ?_
        refine r_goto 4 dX3_countBorneBy_39 (by decide) ?_
        exact Ev.loc [0, 1, 2, 3] rfl h
abbrev rm_X3_countLaid : Room := { frames := 1, cells := 0, slots := 0, locals := 21 }
def C_X3_countLaid (l : Launch) (G : Gt) (E : Et) (V : Vt)  (K : Int32 → Vt → Prop) : Prop := Cl l G yX3_countLaid cX3_countLaid 4 (some .int) rm_X3_countLaid E V [.ref (eA E 3 0)] (Qi E K)
def A_X3_countLaid_4 (l : Launch) (G : Gt) (E : Et) (V : Vt) (x1 : Int32) (x2 : Int32) (K : Int32 → Vt → Prop) : Prop := Ev l G RX3 cX3_countLaid 4 (some .int) rm_X3_countLaid E 0 0 V 4 [(0, .ref (eA E 3 0)), (1, .int x1), (2, .int x2)] [] (Qi E K)
def vc_X3_countLaid (l : Launch) (G : Gt) (E : Et) (V : Vt)  (K : Int32 → Vt → Prop) : Prop := A_X3_countLaid_4 l G E V (0 : Int32) (0 : Int32) K
def vc_X3_countLaid_4 (l : Launch) (G : Gt) (E : Et) (V : Vt) (x1 : Int32) (x2 : Int32) (K : Int32 → Vt → Prop) : Prop := (((V 405 0 0) ≤ x2 → K x1 V) ∧ (¬ (V 405 0 0) ≤ x2 → (C_X3_find l G E V x2 (fun o22 V21 => ((o22 = none → A_X3_countLaid_4 l G E V21 x1 (x2 + (1 : Int32)) K) ∧ (∀ t23, o22 = some t23 → eL E 2 t23 ∧ A_X3_countLaid_4 l G E V21 (x1 + (V21 310 t23 0)) (x2 + (1 : Int32)) K))))))
theorem ok_X3_countLaid {l : Launch} {G : Gt} {E : Et} {V : Vt}  {K : Int32 → Vt → Prop} (hE : Sg E)  (h : vc_X3_countLaid l G E V  K) : C_X3_countLaid l G E V  K := by
  unfold vc_X3_countLaid at h
  refine Cl.of (by decide +kernel) (Nat.le_of_ble_eq_true rfl) (show Ev l G RX3 cX3_countLaid 4 (some .int) rm_X3_countLaid E 0 0 V 0 [(0, .ref (eA E 3 0))] [] (Qi E K) from ?_)
  refine r_iconst (v := (0 : Int32)) dX3_countLaid_0 (by decide) ?_
  refine r_istore_n dX3_countLaid_1 (by decide) ?_
  refine r_iconst (v := (0 : Int32)) dX3_countLaid_2 (by decide) ?_
  refine r_istore_n dX3_countLaid_3 (by decide) ?_
  exact Ev.loc [0, 1, 2] rfl h
theorem ok_X3_countLaid_4 {l : Launch} {G : Gt} {E : Et} {V : Vt} {x1 : Int32} {x2 : Int32} {K : Int32 → Vt → Prop} (hE : Sg E)  (h : vc_X3_countLaid_4 l G E V x1 x2 K) : A_X3_countLaid_4 l G E V x1 x2 K := by
  unfold vc_X3_countLaid_4 at h
  unfold A_X3_countLaid_4
  refine r_iload_n (x := x2) dX3_countLaid_4 rfl ?_
  refine r_aload_n (v := .ref (eA E 3 0)) dX3_countLaid_5 rfl (rl_ref _) ?_
  refine r_get (v := .int (V 405 0 0)) dX3_countLaid_6 fl_RX3_30 (hE.1 3 (by decide)) rfl ?_
  refine r_icmp_ge 35 dX3_countLaid_9 (by decide) (fun q => ?_) (fun q => ?_)
  · have h := h.1 q
    refine r_iload_n (x := x1) dX3_countLaid_35 rfl ?_
    exact r_iret dX3_countLaid_36 rfl ⟨Nat.le_of_ble_eq_true rfl, Nat.le_of_ble_eq_true rfl⟩ ⟨rfl, _, rfl, h⟩
  · have h := h.2 q
    refine r_aload_n (v := .ref (eA E 3 0)) dX3_countLaid_12 rfl (rl_ref _) ?_
    refine r_iload_n (x := x2) dX3_countLaid_13 rfl ?_
    refine r_cVr (As := [.int x2]) (rest := []) dX3_countLaid_14 mv_X3_find ml_RX3_52 ⟨_, _, rfl⟩ (hE.1 3 (by decide)) ⟨Nat.le_of_ble_eq_true rfl, Nat.le_of_ble_eq_true rfl⟩ ⟨rfl, rfl⟩ rfl rfl (Nat.le_of_ble_eq_true rfl) h (fun o22 V21 h => ?_)
    refine r_astore_n dX3_countLaid_17 (by decide) (rl_rf _) ?_
    refine r_aload_n (v := va_rf (Option.map (eA E 2) o22)) dX3_countLaid_18 rfl (rl_rf _) ?_
    cases hot23 : o22 with
    | none =>
      have h := h.1 hot23
      refine r_ifnull (o := none) 29 dX3_countLaid_19 (by decide) (fun _ => ?_) (fun a q => by cases q)
      refine r_iinc (x := x2) (v := (1 : Int32)) dX3_countLaid_29 rfl (by decide) (by decide) ?_
      refine r_goto 4 dX3_countLaid_32 (by decide) ?_
      exact Ev.loc [0, 1, 2] rfl h
    | some t23 =>
      obtain ⟨hl_t23, h⟩ := h.2 t23 hot23
      refine r_ifnull (o := some (eA E 2 t23)) 29 dX3_countLaid_19 (by decide) (fun q => by cases q) (fun _ _ => ?_)
      refine r_iload_n (x := x1) dX3_countLaid_22 rfl ?_
      refine r_aload_n (v := .ref (eA E 2 t23)) dX3_countLaid_23 rfl (rl_ref _) ?_
      refine r_get (v := .int (V21 310 t23 0)) dX3_countLaid_24 fl_RX3_78 hl_t23 rfl ?_
      refine r_iadd dX3_countLaid_27 ?_
      refine r_istore_n dX3_countLaid_28 (by decide) ?_
      refine r_iinc (x := x2) (v := (1 : Int32)) dX3_countLaid_29 rfl (by decide) (by decide) ?_
      refine r_goto 4 dX3_countLaid_32 (by decide) ?_
      exact Ev.loc [0, 1, 2] rfl h
abbrev rm_X5_passDown : Room := { frames := 1, cells := 0, slots := 0, locals := 24 }
def C_X5_passDown (l : Launch) (G : Gt) (E : Et) (V : Vt) (o1 : Nat) (x2 : Int32) (K : Vt → Prop) : Prop := Cl l G yX5_passDown cX5_passDown 4 none rm_X5_passDown E V [.ref (eA E 5 0), .ref (eA E 2 o1), .int x2] (Qv E K)
def A_X5_passDown_2 (l : Launch) (G : Gt) (E : Et) (V : Vt) (o1 : Nat) (x2 : Int32) (x3 : Int32) (K : Vt → Prop) : Prop := Ev l G RX5 cX5_passDown 4 none rm_X5_passDown E 0 0 V 2 [(0, .ref (eA E 5 0)), (1, .ref (eA E 2 o1)), (2, .int x2), (3, .int x3)] [] (Qv E K)
def vc_X5_passDown (l : Launch) (G : Gt) (E : Et) (V : Vt) (o1 : Nat) (x2 : Int32) (K : Vt → Prop) : Prop := A_X5_passDown_2 l G E V o1 x2 (0 : Int32) K
def vc_X5_passDown_2 (l : Launch) (G : Gt) (E : Et) (V : Vt) (o1 : Nat) (x2 : Int32) (x3 : Int32) (K : Vt → Prop) : Prop := (((V 308 o1 0) ≤ x3 → K V) ∧ (¬ (V 308 o1 0) ≤ x3 → (vp_in x3 4) ∧ (vp_in (V 305 o1 (x3).toNatClampNeg) 40) ∧ (C_X2_portion l G E V o1 x2 x3 (fun x22 V21 => (vp_in (V 305 o1 (x3).toNatClampNeg) 40) ∧ A_X5_passDown_2 l G E (up3 V21 600 0 ((V 305 o1 (x3).toNatClampNeg)).toNatClampNeg ((V 600 0 ((V 305 o1 (x3).toNatClampNeg)).toNatClampNeg) + x22)) o1 x2 (x3 + (1 : Int32)) K))))
theorem ok_X5_passDown {l : Launch} {G : Gt} {E : Et} {V : Vt} {o1 : Nat} {x2 : Int32} {K : Vt → Prop} (hE : Sg E) (hl_o1 : eL E 2 o1) (h : vc_X5_passDown l G E V o1 x2 K) : C_X5_passDown l G E V o1 x2 K := by
  unfold vc_X5_passDown at h
  refine Cl.of (by decide +kernel) (Nat.le_of_ble_eq_true rfl) (show Ev l G RX5 cX5_passDown 4 none rm_X5_passDown E 0 0 V 0 [(0, .ref (eA E 5 0)), (1, .ref (eA E 2 o1)), (2, .int x2)] [] (Qv E K) from ?_)
  refine r_iconst (v := (0 : Int32)) dX5_passDown_0 (by decide) ?_
  refine r_istore_n dX5_passDown_1 (by decide) ?_
  exact Ev.loc [0, 1, 2, 3] rfl h
theorem ok_X5_passDown_2 {l : Launch} {G : Gt} {E : Et} {V : Vt} {o1 : Nat} {x2 : Int32} {x3 : Int32} {K : Vt → Prop} (hE : Sg E) (hl_o1 : eL E 2 o1) (h : vc_X5_passDown_2 l G E V o1 x2 x3 K) : A_X5_passDown_2 l G E V o1 x2 x3 K := by
  unfold vc_X5_passDown_2 at h
  unfold A_X5_passDown_2
  refine r_iload_n (x := x3) dX5_passDown_2 rfl ?_
  refine r_aload_n (v := .ref (eA E 2 o1)) dX5_passDown_3 rfl (rl_ref _) ?_
  refine r_get (v := .int (V 308 o1 0)) dX5_passDown_4 fl_RX5_53 hl_o1 rfl ?_
  refine r_icmp_ge 36 dX5_passDown_7 (by decide) (fun q => ?_) (fun q => ?_)
  · have h := h.1 q
    exact r_vret dX5_passDown_36 rfl ⟨Nat.le_of_ble_eq_true rfl, Nat.le_of_ble_eq_true rfl⟩ ⟨rfl, rfl, h⟩
  · have h := h.2 q
    refine r_aload_n (v := .ref (eA E 5 0)) dX5_passDown_10 rfl (rl_ref _) ?_
    refine r_get (v := .ref (eA E 600 0)) dX5_passDown_11 fl_RX5_9 (hE.1 5 (by decide)) rfl ?_
    refine r_aload_n (v := .ref (eA E 2 o1)) dX5_passDown_14 rfl (rl_ref _) ?_
    refine r_get (v := .ref (eA E 305 o1)) dX5_passDown_15 fl_RX5_56 hl_o1 rfl ?_
    refine r_iload_n (x := x3) dX5_passDown_18 rfl ?_
    obtain ⟨hb, h⟩ := h
    refine r_iald dX5_passDown_19 rfl (by decide) hl_o1 (ix hE (by decide) rfl hb) ?_
    refine r_dup2 dX5_passDown_20 rfl rfl ?_
    obtain ⟨hb, h⟩ := h
    refine r_iald dX5_passDown_21 rfl (by decide) (hE.1 5 (by decide)) (ix hE (by decide) rfl hb) ?_
    refine r_aload_n (v := .ref (eA E 2 o1)) dX5_passDown_22 rfl (rl_ref _) ?_
    refine r_iload_n (x := x2) dX5_passDown_23 rfl ?_
    refine r_iload_n (x := x3) dX5_passDown_24 rfl ?_
    refine r_cVi (As := [.int x2, .int x3]) (rest := [.int (V 600 0 ((V 305 o1 (x3).toNatClampNeg)).toNatClampNeg), .int (V 305 o1 (x3).toNatClampNeg), .ref (eA E 600 0)]) dX5_passDown_25 mv_X2_portion ml_RX5_59 ⟨_, _, rfl⟩ hl_o1 ⟨Nat.le_of_ble_eq_true rfl, Nat.le_of_ble_eq_true rfl⟩ ⟨rfl, rfl⟩ rfl rfl (Nat.le_of_ble_eq_true rfl) h (fun x22 V21 h => ?_)
    refine r_iadd dX5_passDown_28 ?_
    obtain ⟨hb, h⟩ := h
    refine r_iast dX5_passDown_29 rfl (by decide) (hE.1 5 (by decide)) (ix hE (by decide) rfl hb) ?_
    refine r_iinc (x := x3) (v := (1 : Int32)) dX5_passDown_30 rfl (by decide) (by decide) ?_
    refine r_goto 2 dX5_passDown_33 (by decide) ?_
    exact Ev.loc [0, 1, 2, 3] rfl h
abbrev rm_X5_pushAside : Room := { frames := 1, cells := 0, slots := 0, locals := 20 }
def C_X5_pushAside (l : Launch) (G : Gt) (E : Et) (V : Vt) (o1 : Nat) (x2 : Int32) (K : Vt → Prop) : Prop := Cl l G yX5_pushAside cX5_pushAside 4 none rm_X5_pushAside E V [.ref (eA E 5 0), .ref (eA E 2 o1), .int x2] (Qv E K)
def vc_X5_pushAside (l : Launch) (G : Gt) (E : Et) (V : Vt) (o1 : Nat) (x2 : Int32) (K : Vt → Prop) : Prop := ((¬ (V 300 o1 0) = (1 : Int32) → K V) ∧ ((V 300 o1 0) = (1 : Int32) → (C_X2_isBegun l G E V o1 (fun x22 V21 => ((x22 = (0 : Int32) → K V21) ∧ (¬ x22 = (0 : Int32) → (((V21 308 o1 0) < (2 : Int32) → K V21) ∧ (¬ (V21 308 o1 0) < (2 : Int32) → (vp_in (2 : Int32) 4) ∧ (vp_in (0 : Int32) 4) ∧ (vp_in (V21 305 o1 ((0 : Int32)).toNatClampNeg) 40) ∧ (vp_in (V21 305 o1 ((0 : Int32)).toNatClampNeg) 40) ∧ (vp_in (1 : Int32) 4) ∧ (vp_in ((up3 V21 601 0 ((V21 305 o1 ((0 : Int32)).toNatClampNeg)).toNatClampNeg ((V21 601 0 ((V21 305 o1 ((0 : Int32)).toNatClampNeg)).toNatClampNeg) - ((x2 * (V21 304 o1 ((2 : Int32)).toNatClampNeg)) / (100 : Int32)))) 305 o1 ((1 : Int32)).toNatClampNeg) 40) ∧ (vp_in ((up3 V21 601 0 ((V21 305 o1 ((0 : Int32)).toNatClampNeg)).toNatClampNeg ((V21 601 0 ((V21 305 o1 ((0 : Int32)).toNatClampNeg)).toNatClampNeg) - ((x2 * (V21 304 o1 ((2 : Int32)).toNatClampNeg)) / (100 : Int32)))) 305 o1 ((1 : Int32)).toNatClampNeg) 40) ∧ K (up3 (up3 V21 601 0 ((V21 305 o1 ((0 : Int32)).toNatClampNeg)).toNatClampNeg ((V21 601 0 ((V21 305 o1 ((0 : Int32)).toNatClampNeg)).toNatClampNeg) - ((x2 * (V21 304 o1 ((2 : Int32)).toNatClampNeg)) / (100 : Int32)))) 601 0 (((up3 V21 601 0 ((V21 305 o1 ((0 : Int32)).toNatClampNeg)).toNatClampNeg ((V21 601 0 ((V21 305 o1 ((0 : Int32)).toNatClampNeg)).toNatClampNeg) - ((x2 * (V21 304 o1 ((2 : Int32)).toNatClampNeg)) / (100 : Int32)))) 305 o1 ((1 : Int32)).toNatClampNeg)).toNatClampNeg (((up3 V21 601 0 ((V21 305 o1 ((0 : Int32)).toNatClampNeg)).toNatClampNeg ((V21 601 0 ((V21 305 o1 ((0 : Int32)).toNatClampNeg)).toNatClampNeg) - ((x2 * (V21 304 o1 ((2 : Int32)).toNatClampNeg)) / (100 : Int32)))) 601 0 (((up3 V21 601 0 ((V21 305 o1 ((0 : Int32)).toNatClampNeg)).toNatClampNeg ((V21 601 0 ((V21 305 o1 ((0 : Int32)).toNatClampNeg)).toNatClampNeg) - ((x2 * (V21 304 o1 ((2 : Int32)).toNatClampNeg)) / (100 : Int32)))) 305 o1 ((1 : Int32)).toNatClampNeg)).toNatClampNeg) + ((x2 * (V21 304 o1 ((2 : Int32)).toNatClampNeg)) / (100 : Int32))))))))))))
theorem ok_X5_pushAside {l : Launch} {G : Gt} {E : Et} {V : Vt} {o1 : Nat} {x2 : Int32} {K : Vt → Prop} (hE : Sg E) (hl_o1 : eL E 2 o1) (h : vc_X5_pushAside l G E V o1 x2 K) : C_X5_pushAside l G E V o1 x2 K := by
  unfold vc_X5_pushAside at h
  refine Cl.of (by decide +kernel) (Nat.le_of_ble_eq_true rfl) (show Ev l G RX5 cX5_pushAside 4 none rm_X5_pushAside E 0 0 V 0 [(0, .ref (eA E 5 0)), (1, .ref (eA E 2 o1)), (2, .int x2)] [] (Qv E K) from ?_)
  refine r_aload_n (v := .ref (eA E 2 o1)) dX5_pushAside_0 rfl (rl_ref _) ?_
  refine r_get (v := .int (V 300 o1 0)) dX5_pushAside_1 fl_RX5_63 hl_o1 rfl ?_
  refine r_iconst (v := (1 : Int32)) dX5_pushAside_4 (by decide) ?_
  refine r_icmp_ne 65 dX5_pushAside_5 (by decide) (fun q => ?_) (fun q => ?_)
  · have h := h.1 q
    exact r_vret dX5_pushAside_65 rfl ⟨Nat.le_of_ble_eq_true rfl, Nat.le_of_ble_eq_true rfl⟩ ⟨rfl, rfl, h⟩
  · have h := h.2 q
    refine r_aload_n (v := .ref (eA E 2 o1)) dX5_pushAside_8 rfl (rl_ref _) ?_
    refine r_cVi (As := []) (rest := []) dX5_pushAside_9 mv_X2_isBegun ml_RX5_66 ⟨_, _, rfl⟩ hl_o1 ⟨Nat.le_of_ble_eq_true rfl, Nat.le_of_ble_eq_true rfl⟩ ⟨rfl, rfl⟩ rfl rfl (Nat.le_of_ble_eq_true rfl) h (fun x22 V21 h => ?_)
    refine r_if_eq 65 dX5_pushAside_12 (by decide) (fun q => ?_) (fun q => ?_)
    · have h := h.1 q
      exact r_vret dX5_pushAside_65 rfl ⟨Nat.le_of_ble_eq_true rfl, Nat.le_of_ble_eq_true rfl⟩ ⟨rfl, rfl, h⟩
    · have h := h.2 q
      refine r_aload_n (v := .ref (eA E 2 o1)) dX5_pushAside_15 rfl (rl_ref _) ?_
      refine r_get (v := .int (V21 308 o1 0)) dX5_pushAside_16 fl_RX5_53 hl_o1 rfl ?_
      refine r_iconst (v := (2 : Int32)) dX5_pushAside_19 (by decide) ?_
      refine r_icmp_lt 65 dX5_pushAside_20 (by decide) (fun q => ?_) (fun q => ?_)
      · have h := h.1 q
        exact r_vret dX5_pushAside_65 rfl ⟨Nat.le_of_ble_eq_true rfl, Nat.le_of_ble_eq_true rfl⟩ ⟨rfl, rfl, h⟩
      · have h := h.2 q
        refine r_iload_n (x := x2) dX5_pushAside_23 rfl ?_
        refine r_aload_n (v := .ref (eA E 2 o1)) dX5_pushAside_24 rfl (rl_ref _) ?_
        refine r_get (v := .ref (eA E 304 o1)) dX5_pushAside_25 fl_RX5_69 hl_o1 rfl ?_
        refine r_iconst (v := (2 : Int32)) dX5_pushAside_28 (by decide) ?_
        obtain ⟨hb, h⟩ := h
        refine r_iald dX5_pushAside_29 rfl (by decide) hl_o1 (ix hE (by decide) rfl hb) ?_
        refine r_imul dX5_pushAside_30 ?_
        refine r_bipush (v := (100 : Int32)) dX5_pushAside_31 (by decide) ?_
        refine r_idiv dX5_pushAside_33 (by decide) ?_
        refine r_istore_n dX5_pushAside_34 (by decide) ?_
        refine r_aload_n (v := .ref (eA E 5 0)) dX5_pushAside_35 rfl (rl_ref _) ?_
        refine r_get (v := .ref (eA E 601 0)) dX5_pushAside_36 fl_RX5_15 (hE.1 5 (by decide)) rfl ?_
        refine r_aload_n (v := .ref (eA E 2 o1)) dX5_pushAside_39 rfl (rl_ref _) ?_
        refine r_get (v := .ref (eA E 305 o1)) dX5_pushAside_40 fl_RX5_56 hl_o1 rfl ?_
        refine r_iconst (v := (0 : Int32)) dX5_pushAside_43 (by decide) ?_
        obtain ⟨hb, h⟩ := h
        refine r_iald dX5_pushAside_44 rfl (by decide) hl_o1 (ix hE (by decide) rfl hb) ?_
        refine r_dup2 dX5_pushAside_45 rfl rfl ?_
        obtain ⟨hb, h⟩ := h
        refine r_iald dX5_pushAside_46 rfl (by decide) (hE.1 5 (by decide)) (ix hE (by decide) rfl hb) ?_
        refine r_iload_n (x := ((x2 * (V21 304 o1 ((2 : Int32)).toNatClampNeg)) / (100 : Int32))) dX5_pushAside_47 rfl ?_
        refine r_isub dX5_pushAside_48 ?_
        obtain ⟨hb, h⟩ := h
        refine r_iast dX5_pushAside_49 rfl (by decide) (hE.1 5 (by decide)) (ix hE (by decide) rfl hb) ?_
        refine r_aload_n (v := .ref (eA E 5 0)) dX5_pushAside_50 rfl (rl_ref _) ?_
        refine r_get (v := .ref (eA E 601 0)) dX5_pushAside_51 fl_RX5_15 (hE.1 5 (by decide)) rfl ?_
        refine r_aload_n (v := .ref (eA E 2 o1)) dX5_pushAside_54 rfl (rl_ref _) ?_
        refine r_get (v := .ref (eA E 305 o1)) dX5_pushAside_55 fl_RX5_56 hl_o1 rfl ?_
        refine r_iconst (v := (1 : Int32)) dX5_pushAside_58 (by decide) ?_
        obtain ⟨hb, h⟩ := h
        refine r_iald dX5_pushAside_59 rfl (by decide) hl_o1 (ix hE (by decide) rfl hb) ?_
        refine r_dup2 dX5_pushAside_60 rfl rfl ?_
        obtain ⟨hb, h⟩ := h
        refine r_iald dX5_pushAside_61 rfl (by decide) (hE.1 5 (by decide)) (ix hE (by decide) rfl hb) ?_
        refine r_iload_n (x := ((x2 * (V21 304 o1 ((2 : Int32)).toNatClampNeg)) / (100 : Int32))) dX5_pushAside_62 rfl ?_
        refine r_iadd dX5_pushAside_63 ?_
        obtain ⟨hb, h⟩ := h
        refine r_iast dX5_pushAside_64 rfl (by decide) (hE.1 5 (by decide)) (ix hE (by decide) rfl hb) ?_
        exact r_vret dX5_pushAside_65 rfl ⟨Nat.le_of_ble_eq_true rfl, Nat.le_of_ble_eq_true rfl⟩ ⟨rfl, rfl, h⟩
abbrev rm_X5_weigh : Room := { frames := 2, cells := 0, slots := 0, locals := 47 }
def C_X5_weigh (l : Launch) (G : Gt) (E : Et) (V : Vt)  (K : Vt → Prop) : Prop := Cl l G yX5_weigh cX5_weigh 4 none rm_X5_weigh E V [.ref (eA E 5 0), .ref (eA E 3 0)] (Qv E K)
def A_X5_weigh_23 (l : Launch) (G : Gt) (E : Et) (V : Vt) (x2 : Int32) (K : Vt → Prop) : Prop := Ev l G RX5 cX5_weigh 4 none rm_X5_weigh E 0 0 V 23 [(0, .ref (eA E 5 0)), (1, .ref (eA E 3 0)), (2, .int x2)] [] (Qv E K)
def vc_X5_weigh (l : Launch) (G : Gt) (E : Et) (V : Vt)  (K : Vt → Prop) : Prop := (C_J7_fill_53178 l G E V 600 (0 : Int32) (fun V21 => (C_J7_fill_53178 l G E V21 601 (0 : Int32) (fun V22 => A_X5_weigh_23 l G E V22 ((V22 405 0 0) - (1 : Int32)) K))))
def vc_X5_weigh_23 (l : Launch) (G : Gt) (E : Et) (V : Vt) (x2 : Int32) (K : Vt → Prop) : Prop := ((x2 < (0 : Int32) → K V) ∧ (¬ x2 < (0 : Int32) → (C_X3_find l G E V x2 (fun o24 V23 => ((o24 = none → A_X5_weigh_23 l G E V23 (x2 + (-1 : Int32)) K) ∧ (∀ t25, o24 = some t25 → eL E 2 t25 ∧ (vp_in x2 40) ∧ (vp_in x2 40) ∧ (C_X2_isOnCentring l G E (up3 V23 600 0 (x2).toNatClampNeg ((V23 600 0 (x2).toNatClampNeg) + ((V23 310 t25 0) * (V23 302 t25 0)))) t25 (fun x27 V26 => ((¬ x27 = (0 : Int32) → A_X5_weigh_23 l G E V26 (x2 + (-1 : Int32)) K) ∧ (x27 = (0 : Int32) → (vp_in x2 40) ∧ (C_X5_passDown l G E V26 t25 (V26 600 0 (x2).toNatClampNeg) (fun V28 => (vp_in x2 40) ∧ (C_X5_pushAside l G E V28 t25 (V28 600 0 (x2).toNatClampNeg) (fun V29 => A_X5_weigh_23 l G E V29 (x2 + (-1 : Int32)) K))))))))))))))
theorem ok_X5_weigh {l : Launch} {G : Gt} {E : Et} {V : Vt}  {K : Vt → Prop} (hE : Sg E)  (h : vc_X5_weigh l G E V  K) : C_X5_weigh l G E V  K := by
  unfold vc_X5_weigh at h
  refine Cl.of (by decide +kernel) (Nat.le_of_ble_eq_true rfl) (show Ev l G RX5 cX5_weigh 4 none rm_X5_weigh E 0 0 V 0 [(0, .ref (eA E 5 0)), (1, .ref (eA E 3 0))] [] (Qv E K) from ?_)
  refine r_aload_n (v := .ref (eA E 5 0)) dX5_weigh_0 rfl (rl_ref _) ?_
  refine r_get (v := .ref (eA E 600 0)) dX5_weigh_1 fl_RX5_9 (hE.1 5 (by decide)) rfl ?_
  refine r_iconst (v := (0 : Int32)) dX5_weigh_4 (by decide) ?_
  refine r_cSv (As := [.ref (eA E 600 0), .int (0 : Int32)]) (rest := []) dX5_weigh_5 ms_J7_fill_53178 ml_RX5_18 ⟨Nat.le_of_ble_eq_true rfl, Nat.le_of_ble_eq_true rfl⟩ ⟨rfl, rfl⟩ rfl rfl (Nat.le_of_ble_eq_true rfl) h (fun V21 h => ?_)
  refine r_aload_n (v := .ref (eA E 5 0)) dX5_weigh_8 rfl (rl_ref _) ?_
  refine r_get (v := .ref (eA E 601 0)) dX5_weigh_9 fl_RX5_15 (hE.1 5 (by decide)) rfl ?_
  refine r_iconst (v := (0 : Int32)) dX5_weigh_12 (by decide) ?_
  refine r_cSv (As := [.ref (eA E 601 0), .int (0 : Int32)]) (rest := []) dX5_weigh_13 ms_J7_fill_53178 ml_RX5_18 ⟨Nat.le_of_ble_eq_true rfl, Nat.le_of_ble_eq_true rfl⟩ ⟨rfl, rfl⟩ rfl rfl (Nat.le_of_ble_eq_true rfl) h (fun V22 h => ?_)
  refine r_aload_n (v := .ref (eA E 3 0)) dX5_weigh_16 rfl (rl_ref _) ?_
  refine r_get (v := .int (V22 405 0 0)) dX5_weigh_17 fl_RX5_24 (hE.1 3 (by decide)) rfl ?_
  refine r_iconst (v := (1 : Int32)) dX5_weigh_20 (by decide) ?_
  refine r_isub dX5_weigh_21 ?_
  refine r_istore_n dX5_weigh_22 (by decide) ?_
  exact Ev.loc [0, 1, 2] rfl h
theorem ok_X5_weigh_23 {l : Launch} {G : Gt} {E : Et} {V : Vt} {x2 : Int32} {K : Vt → Prop} (hE : Sg E)  (h : vc_X5_weigh_23 l G E V x2 K) : A_X5_weigh_23 l G E V x2 K := by
  unfold vc_X5_weigh_23 at h
  unfold A_X5_weigh_23
  refine r_iload_n (x := x2) dX5_weigh_23 rfl ?_
  refine r_if_lt 90 dX5_weigh_24 (by decide) (fun q => ?_) (fun q => ?_)
  · have h := h.1 q
    exact r_vret dX5_weigh_90 rfl ⟨Nat.le_of_ble_eq_true rfl, Nat.le_of_ble_eq_true rfl⟩ ⟨rfl, rfl, h⟩
  · have h := h.2 q
    refine r_aload_n (v := .ref (eA E 3 0)) dX5_weigh_27 rfl (rl_ref _) ?_
    refine r_iload_n (x := x2) dX5_weigh_28 rfl ?_
    refine r_cVr (As := [.int x2]) (rest := []) dX5_weigh_29 mv_X3_find ml_RX5_30 ⟨_, _, rfl⟩ (hE.1 3 (by decide)) ⟨Nat.le_of_ble_eq_true rfl, Nat.le_of_ble_eq_true rfl⟩ ⟨rfl, rfl⟩ rfl rfl (Nat.le_of_ble_eq_true rfl) h (fun o24 V23 h => ?_)
    refine r_astore_n dX5_weigh_32 (by decide) (rl_rf _) ?_
    refine r_aload_n (v := va_rf (Option.map (eA E 2) o24)) dX5_weigh_33 rfl (rl_rf _) ?_
    cases hot25 : o24 with
    | none =>
      have h := h.1 hot25
      refine r_ifnull (o := none) 84 dX5_weigh_34 (by decide) (fun _ => ?_) (fun a q => by cases q)
      refine r_iinc (x := x2) (v := (-1 : Int32)) dX5_weigh_84 rfl (by decide) (by decide) ?_
      refine r_goto 23 dX5_weigh_87 (by decide) ?_
      exact Ev.loc [0, 1, 2] rfl h
    | some t25 =>
      obtain ⟨hl_t25, h⟩ := h.2 t25 hot25
      refine r_ifnull (o := some (eA E 2 t25)) 84 dX5_weigh_34 (by decide) (fun q => by cases q) (fun _ _ => ?_)
      refine r_aload_n (v := .ref (eA E 5 0)) dX5_weigh_37 rfl (rl_ref _) ?_
      refine r_get (v := .ref (eA E 600 0)) dX5_weigh_38 fl_RX5_9 (hE.1 5 (by decide)) rfl ?_
      refine r_iload_n (x := x2) dX5_weigh_41 rfl ?_
      refine r_dup2 dX5_weigh_42 rfl rfl ?_
      obtain ⟨hb, h⟩ := h
      refine r_iald dX5_weigh_43 rfl (by decide) (hE.1 5 (by decide)) (ix hE (by decide) rfl hb) ?_
      refine r_aload_n (v := .ref (eA E 2 t25)) dX5_weigh_44 rfl (rl_ref _) ?_
      refine r_get (v := .int (V23 310 t25 0)) dX5_weigh_45 fl_RX5_34 hl_t25 rfl ?_
      refine r_aload_n (v := .ref (eA E 2 t25)) dX5_weigh_48 rfl (rl_ref _) ?_
      refine r_get (v := .int (V23 302 t25 0)) dX5_weigh_49 fl_RX5_39 hl_t25 rfl ?_
      refine r_imul dX5_weigh_52 ?_
      refine r_iadd dX5_weigh_53 ?_
      obtain ⟨hb, h⟩ := h
      refine r_iast dX5_weigh_54 rfl (by decide) (hE.1 5 (by decide)) (ix hE (by decide) rfl hb) ?_
      refine r_aload_n (v := .ref (eA E 2 t25)) dX5_weigh_55 rfl (rl_ref _) ?_
      refine r_cVi (As := []) (rest := []) dX5_weigh_56 mv_X2_isOnCentring ml_RX5_42 ⟨_, _, rfl⟩ hl_t25 ⟨Nat.le_of_ble_eq_true rfl, Nat.le_of_ble_eq_true rfl⟩ ⟨rfl, rfl⟩ rfl rfl (Nat.le_of_ble_eq_true rfl) h (fun x27 V26 h => ?_)
      refine r_if_ne 84 dX5_weigh_59 (by decide) (fun q => ?_) (fun q => ?_)
      · have h := h.1 q
        refine r_iinc (x := x2) (v := (-1 : Int32)) dX5_weigh_84 rfl (by decide) (by decide) ?_
        refine r_goto 23 dX5_weigh_87 (by decide) ?_
        exact Ev.loc [0, 1, 2] rfl h
      · have h := h.2 q
        refine r_aload_n (v := .ref (eA E 5 0)) dX5_weigh_62 rfl (rl_ref _) ?_
        refine r_aload_n (v := .ref (eA E 2 t25)) dX5_weigh_63 rfl (rl_ref _) ?_
        refine r_aload_n (v := .ref (eA E 5 0)) dX5_weigh_64 rfl (rl_ref _) ?_
        refine r_get (v := .ref (eA E 600 0)) dX5_weigh_65 fl_RX5_9 (hE.1 5 (by decide)) rfl ?_
        refine r_iload_n (x := x2) dX5_weigh_68 rfl ?_
        obtain ⟨hb, h⟩ := h
        refine r_iald dX5_weigh_69 rfl (by decide) (hE.1 5 (by decide)) (ix hE (by decide) rfl hb) ?_
        refine r_cVv (As := [.ref (eA E 2 t25), .int (V26 600 0 (x2).toNatClampNeg)]) (rest := []) dX5_weigh_70 mv_X5_passDown ml_RX5_46 ⟨_, _, rfl⟩ (hE.1 5 (by decide)) ⟨Nat.le_of_ble_eq_true rfl, Nat.le_of_ble_eq_true rfl⟩ ⟨rfl, rfl⟩ rfl rfl (Nat.le_of_ble_eq_true rfl) h (fun V28 h => ?_)
        refine r_aload_n (v := .ref (eA E 5 0)) dX5_weigh_73 rfl (rl_ref _) ?_
        refine r_aload_n (v := .ref (eA E 2 t25)) dX5_weigh_74 rfl (rl_ref _) ?_
        refine r_aload_n (v := .ref (eA E 5 0)) dX5_weigh_75 rfl (rl_ref _) ?_
        refine r_get (v := .ref (eA E 600 0)) dX5_weigh_76 fl_RX5_9 (hE.1 5 (by decide)) rfl ?_
        refine r_iload_n (x := x2) dX5_weigh_79 rfl ?_
        obtain ⟨hb, h⟩ := h
        refine r_iald dX5_weigh_80 rfl (by decide) (hE.1 5 (by decide)) (ix hE (by decide) rfl hb) ?_
        refine r_cVv (As := [.ref (eA E 2 t25), .int (V28 600 0 (x2).toNatClampNeg)]) (rest := []) dX5_weigh_81 mv_X5_pushAside ml_RX5_50 ⟨_, _, rfl⟩ (hE.1 5 (by decide)) ⟨Nat.le_of_ble_eq_true rfl, Nat.le_of_ble_eq_true rfl⟩ ⟨rfl, rfl⟩ rfl rfl (Nat.le_of_ble_eq_true rfl) h (fun V29 h => ?_)
        refine r_iinc (x := x2) (v := (-1 : Int32)) dX5_weigh_84 rfl (by decide) (by decide) ?_
        refine r_goto 23 dX5_weigh_87 (by decide) ?_
        exact Ev.loc [0, 1, 2] rfl h
abbrev rm_X5_leastFalling : Room := { frames := 3, cells := 0, slots := 0, locals := 70 }
def C_X5_leastFalling (l : Launch) (G : Gt) (E : Et) (V : Vt)  (K : Int32 → Vt → Prop) : Prop := Cl l G yX5_leastFalling cX5_leastFalling 4 (some .int) rm_X5_leastFalling E V [.ref (eA E 5 0), .ref (eA E 3 0)] (Qi E K)
def A_X5_leastFalling_7 (l : Launch) (G : Gt) (E : Et) (V : Vt) (x2 : Int32) (K : Int32 → Vt → Prop) : Prop := Ev l G RX5 cX5_leastFalling 4 (some .int) rm_X5_leastFalling E 0 0 V 7 [(0, .ref (eA E 5 0)), (1, .ref (eA E 3 0)), (2, .int x2)] [] (Qi E K)
def vc_X5_leastFalling (l : Launch) (G : Gt) (E : Et) (V : Vt)  (K : Int32 → Vt → Prop) : Prop := (C_X5_weigh l G E V (fun V21 => A_X5_leastFalling_7 l G E V21 (0 : Int32) K))
def vc_X5_leastFalling_7 (l : Launch) (G : Gt) (E : Et) (V : Vt) (x2 : Int32) (K : Int32 → Vt → Prop) : Prop := (((V 405 0 0) ≤ x2 → K (-5 : Int32) V) ∧ (¬ (V 405 0 0) ≤ x2 → (C_X3_find l G E V x2 (fun o23 V22 => ((o23 = none → A_X5_leastFalling_7 l G E V22 (x2 + (1 : Int32)) K) ∧ (∀ t24, o23 = some t24 → eL E 2 t24 ∧ (C_X2_isBegun l G E V22 t24 (fun x26 V25 => ((x26 = (0 : Int32) → A_X5_leastFalling_7 l G E V25 (x2 + (1 : Int32)) K) ∧ (¬ x26 = (0 : Int32) → (C_X2_isOnCentring l G E V25 t24 (fun x28 V27 => ((¬ x28 = (0 : Int32) → A_X5_leastFalling_7 l G E V27 (x2 + (1 : Int32)) K) ∧ (x28 = (0 : Int32) → (vp_in x2 40) ∧ (vp_in (0 : Int32) 4) ∧ (((V27 600 0 (x2).toNatClampNeg) ≤ (V27 304 t24 ((0 : Int32)).toNatClampNeg) → (vp_in x2 40) ∧ (vp_in (1 : Int32) 4) ∧ (vp_in x2 40) ∧ (((if (0 : Int32) ≤ (V27 601 0 (x2).toNatClampNeg) then (V27 601 0 (x2).toNatClampNeg) else (0 : Int32) - (V27 601 0 (x2).toNatClampNeg)) ≤ (((V27 304 t24 ((1 : Int32)).toNatClampNeg) + (V27 312 t24 0)) + ((V27 600 0 (x2).toNatClampNeg) / (4 : Int32))) → A_X5_leastFalling_7 l G E V27 (x2 + (1 : Int32)) K) ∧ (¬ (if (0 : Int32) ≤ (V27 601 0 (x2).toNatClampNeg) then (V27 601 0 (x2).toNatClampNeg) else (0 : Int32) - (V27 601 0 (x2).toNatClampNeg)) ≤ (((V27 304 t24 ((1 : Int32)).toNatClampNeg) + (V27 312 t24 0)) + ((V27 600 0 (x2).toNatClampNeg) / (4 : Int32))) → K (x2 + (100 : Int32)) V27))) ∧ (¬ (V27 600 0 (x2).toNatClampNeg) ≤ (V27 304 t24 ((0 : Int32)).toNatClampNeg) → K x2 V27))))))))))))))))
theorem ok_X5_leastFalling {l : Launch} {G : Gt} {E : Et} {V : Vt}  {K : Int32 → Vt → Prop} (hE : Sg E)  (h : vc_X5_leastFalling l G E V  K) : C_X5_leastFalling l G E V  K := by
  unfold vc_X5_leastFalling at h
  refine Cl.of (by decide +kernel) (Nat.le_of_ble_eq_true rfl) (show Ev l G RX5 cX5_leastFalling 4 (some .int) rm_X5_leastFalling E 0 0 V 0 [(0, .ref (eA E 5 0)), (1, .ref (eA E 3 0))] [] (Qi E K) from ?_)
  refine r_aload_n (v := .ref (eA E 5 0)) dX5_leastFalling_0 rfl (rl_ref _) ?_
  refine r_aload_n (v := .ref (eA E 3 0)) dX5_leastFalling_1 rfl (rl_ref _) ?_
  refine r_cVv (As := [.ref (eA E 3 0)]) (rest := []) dX5_leastFalling_2 mv_X5_weigh ml_RX5_72 ⟨_, _, rfl⟩ (hE.1 5 (by decide)) ⟨Nat.le_of_ble_eq_true rfl, Nat.le_of_ble_eq_true rfl⟩ ⟨rfl, rfl⟩ rfl rfl (Nat.le_of_ble_eq_true rfl) h (fun V21 h => ?_)
  refine r_iconst (v := (0 : Int32)) dX5_leastFalling_5 (by decide) ?_
  refine r_istore_n dX5_leastFalling_6 (by decide) ?_
  exact Ev.loc [0, 1, 2] rfl h
theorem ok_X5_leastFalling_7 {l : Launch} {G : Gt} {E : Et} {V : Vt} {x2 : Int32} {K : Int32 → Vt → Prop} (hE : Sg E)  (h : vc_X5_leastFalling_7 l G E V x2 K) : A_X5_leastFalling_7 l G E V x2 K := by
  unfold vc_X5_leastFalling_7 at h
  unfold A_X5_leastFalling_7
  refine r_iload_n (x := x2) dX5_leastFalling_7 rfl ?_
  refine r_aload_n (v := .ref (eA E 3 0)) dX5_leastFalling_8 rfl (rl_ref _) ?_
  refine r_get (v := .int (V 405 0 0)) dX5_leastFalling_9 fl_RX5_24 (hE.1 3 (by decide)) rfl ?_
  refine r_icmp_ge 99 dX5_leastFalling_12 (by decide) (fun q => ?_) (fun q => ?_)
  · have h := h.1 q
    refine r_bipush (v := (-5 : Int32)) dX5_leastFalling_99 (by decide) ?_
    exact r_iret dX5_leastFalling_101 rfl ⟨Nat.le_of_ble_eq_true rfl, Nat.le_of_ble_eq_true rfl⟩ ⟨rfl, _, rfl, h⟩
  · have h := h.2 q
    refine r_aload_n (v := .ref (eA E 3 0)) dX5_leastFalling_15 rfl (rl_ref _) ?_
    refine r_iload_n (x := x2) dX5_leastFalling_16 rfl ?_
    refine r_cVr (As := [.int x2]) (rest := []) dX5_leastFalling_17 mv_X3_find ml_RX5_30 ⟨_, _, rfl⟩ (hE.1 3 (by decide)) ⟨Nat.le_of_ble_eq_true rfl, Nat.le_of_ble_eq_true rfl⟩ ⟨rfl, rfl⟩ rfl rfl (Nat.le_of_ble_eq_true rfl) h (fun o23 V22 h => ?_)
    refine r_astore_n dX5_leastFalling_20 (by decide) (rl_rf _) ?_
    refine r_aload_n (v := va_rf (Option.map (eA E 2) o23)) dX5_leastFalling_21 rfl (rl_rf _) ?_
    cases hot24 : o23 with
    | none =>
      have h := h.1 hot24
      refine r_ifnull (o := none) 93 dX5_leastFalling_22 (by decide) (fun _ => ?_) (fun a q => by cases q)
      refine r_iinc (x := x2) (v := (1 : Int32)) dX5_leastFalling_93 rfl (by decide) (by decide) ?_
      refine r_goto 7 dX5_leastFalling_96 (by decide) ?_
      exact Ev.loc [0, 1, 2] rfl h
    | some t24 =>
      obtain ⟨hl_t24, h⟩ := h.2 t24 hot24
      refine r_ifnull (o := some (eA E 2 t24)) 93 dX5_leastFalling_22 (by decide) (fun q => by cases q) (fun _ _ => ?_)
      refine r_aload_n (v := .ref (eA E 2 t24)) dX5_leastFalling_25 rfl (rl_ref _) ?_
      refine r_cVi (As := []) (rest := []) dX5_leastFalling_26 mv_X2_isBegun ml_RX5_66 ⟨_, _, rfl⟩ hl_t24 ⟨Nat.le_of_ble_eq_true rfl, Nat.le_of_ble_eq_true rfl⟩ ⟨rfl, rfl⟩ rfl rfl (Nat.le_of_ble_eq_true rfl) h (fun x26 V25 h => ?_)
      refine r_if_eq 93 dX5_leastFalling_29 (by decide) (fun q => ?_) (fun q => ?_)
      · have h := h.1 q
        refine r_iinc (x := x2) (v := (1 : Int32)) dX5_leastFalling_93 rfl (by decide) (by decide) ?_
        refine r_goto 7 dX5_leastFalling_96 (by decide) ?_
        exact Ev.loc [0, 1, 2] rfl h
      · have h := h.2 q
        refine r_aload_n (v := .ref (eA E 2 t24)) dX5_leastFalling_32 rfl (rl_ref _) ?_
        refine r_cVi (As := []) (rest := []) dX5_leastFalling_33 mv_X2_isOnCentring ml_RX5_42 ⟨_, _, rfl⟩ hl_t24 ⟨Nat.le_of_ble_eq_true rfl, Nat.le_of_ble_eq_true rfl⟩ ⟨rfl, rfl⟩ rfl rfl (Nat.le_of_ble_eq_true rfl) h (fun x28 V27 h => ?_)
        refine r_if_ne 93 dX5_leastFalling_36 (by decide) (fun q => ?_) (fun q => ?_)
        · have h := h.1 q
          refine r_iinc (x := x2) (v := (1 : Int32)) dX5_leastFalling_93 rfl (by decide) (by decide) ?_
          refine r_goto 7 dX5_leastFalling_96 (by decide) ?_
          exact Ev.loc [0, 1, 2] rfl h
        · have h := h.2 q
          refine r_aload_n (v := .ref (eA E 5 0)) dX5_leastFalling_39 rfl (rl_ref _) ?_
          refine r_get (v := .ref (eA E 600 0)) dX5_leastFalling_40 fl_RX5_9 (hE.1 5 (by decide)) rfl ?_
          refine r_iload_n (x := x2) dX5_leastFalling_43 rfl ?_
          obtain ⟨hb, h⟩ := h
          refine r_iald dX5_leastFalling_44 rfl (by decide) (hE.1 5 (by decide)) (ix hE (by decide) rfl hb) ?_
          refine r_aload_n (v := .ref (eA E 2 t24)) dX5_leastFalling_45 rfl (rl_ref _) ?_
          refine r_get (v := .ref (eA E 304 t24)) dX5_leastFalling_46 fl_RX5_69 hl_t24 rfl ?_
          refine r_iconst (v := (0 : Int32)) dX5_leastFalling_49 (by decide) ?_
          obtain ⟨hb, h⟩ := h
          refine r_iald dX5_leastFalling_50 rfl (by decide) hl_t24 (ix hE (by decide) rfl hb) ?_
          refine r_icmp_le 56 dX5_leastFalling_51 (by decide) (fun q => ?_) (fun q => ?_)
          · have h := h.1 q
            refine r_aload_n (v := .ref (eA E 5 0)) dX5_leastFalling_56 rfl (rl_ref _) ?_
            refine r_get (v := .ref (eA E 601 0)) dX5_leastFalling_57 fl_RX5_15 (hE.1 5 (by decide)) rfl ?_
            refine r_iload_n (x := x2) dX5_leastFalling_60 rfl ?_
            obtain ⟨hb, h⟩ := h
            refine r_iald dX5_leastFalling_61 rfl (by decide) (hE.1 5 (by decide)) (ix hE (by decide) rfl hb) ?_
            refine r_mabs dX5_leastFalling_62 ml_RX5_76 (Nat.le_of_ble_eq_true rfl) (Nat.le_of_ble_eq_true rfl) ?_
            refine r_aload_n (v := .ref (eA E 2 t24)) dX5_leastFalling_65 rfl (rl_ref _) ?_
            refine r_get (v := .ref (eA E 304 t24)) dX5_leastFalling_66 fl_RX5_69 hl_t24 rfl ?_
            refine r_iconst (v := (1 : Int32)) dX5_leastFalling_69 (by decide) ?_
            obtain ⟨hb, h⟩ := h
            refine r_iald dX5_leastFalling_70 rfl (by decide) hl_t24 (ix hE (by decide) rfl hb) ?_
            refine r_aload_n (v := .ref (eA E 2 t24)) dX5_leastFalling_71 rfl (rl_ref _) ?_
            refine r_get (v := .int (V27 312 t24 0)) dX5_leastFalling_72 fl_RX5_82 hl_t24 rfl ?_
            refine r_iadd dX5_leastFalling_75 ?_
            refine r_aload_n (v := .ref (eA E 5 0)) dX5_leastFalling_76 rfl (rl_ref _) ?_
            refine r_get (v := .ref (eA E 600 0)) dX5_leastFalling_77 fl_RX5_9 (hE.1 5 (by decide)) rfl ?_
            refine r_iload_n (x := x2) dX5_leastFalling_80 rfl ?_
            obtain ⟨hb, h⟩ := h
            refine r_iald dX5_leastFalling_81 rfl (by decide) (hE.1 5 (by decide)) (ix hE (by decide) rfl hb) ?_
            refine r_iconst (v := (4 : Int32)) dX5_leastFalling_82 (by decide) ?_
            refine r_idiv dX5_leastFalling_83 (by decide) ?_
            refine r_iadd dX5_leastFalling_84 ?_
            refine r_icmp_le 93 dX5_leastFalling_85 (by decide) (fun q => ?_) (fun q => ?_)
            · have h := h.1 q
              refine r_iinc (x := x2) (v := (1 : Int32)) dX5_leastFalling_93 rfl (by decide) (by decide) ?_
              refine r_goto 7 dX5_leastFalling_96 (by decide) ?_
              exact Ev.loc [0, 1, 2] rfl h
            · have h := h.2 q
              refine r_iload_n (x := x2) dX5_leastFalling_88 rfl ?_
              refine r_bipush (v := (100 : Int32)) dX5_leastFalling_89 (by decide) ?_
              refine r_iadd dX5_leastFalling_91 ?_
              exact r_iret dX5_leastFalling_92 rfl ⟨Nat.le_of_ble_eq_true rfl, Nat.le_of_ble_eq_true rfl⟩ ⟨rfl, _, rfl, h⟩
          · have h := h.2 q
            refine r_iload_n (x := x2) dX5_leastFalling_54 rfl ?_
            exact r_iret dX5_leastFalling_55 rfl ⟨Nat.le_of_ble_eq_true rfl, Nat.le_of_ble_eq_true rfl⟩ ⟨rfl, _, rfl, h⟩
end

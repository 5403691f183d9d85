section
-- ===== PART A: goes FIRST, ahead of the names: the tables' words, and 'selects' of the private methods out of them =====
/-- a private method of a class that the tables say can be made, by its rows of tables_1 -/
def lw_okq (q : MethodName × Nat) : Prop := (q.1.cls ≠ "java/lang/invoke/MethodHandle" ∧ q.1.cls ≠ "java/lang/invoke/VarHandle") ∧ Cond.instantiable q.1.cls q.2 ∈ tables_1 ∧ Cond.privateMethod q.1 ∈ tables_1 ∧ Cond.instanceMethod q.1 ∈ tables_1
theorem lw_p0 : lw_okq (⟨"ChurchLodge$Plan", "isReadBefore", "(I)Z"⟩, 7) := ⟨⟨by decide +kernel, by decide +kernel⟩, List.mem_of_getElem? (i := 28) (by decide +kernel), List.mem_of_getElem? (i := 300) (by decide +kernel), List.mem_of_getElem? (i := 301) (by decide +kernel)⟩
theorem lw_p1 : lw_okq (⟨"ChurchLodge", "stands", "()Z"⟩, 13) := ⟨⟨by decide +kernel, by decide +kernel⟩, List.mem_of_getElem? (i := 20) (by decide +kernel), List.mem_of_getElem? (i := 336) (by decide +kernel), List.mem_of_getElem? (i := 337) (by decide +kernel)⟩
theorem lw_p2 : lw_okq (⟨"ChurchLodge$Stress", "passDown", "(LChurchLodge$Part;I)V"⟩, 2) := ⟨⟨by decide +kernel, by decide +kernel⟩, List.mem_of_getElem? (i := 62) (by decide +kernel), List.mem_of_getElem? (i := 357) (by decide +kernel), List.mem_of_getElem? (i := 358) (by decide +kernel)⟩
theorem lw_p3 : lw_okq (⟨"ChurchLodge$Stress", "pushAside", "(LChurchLodge$Part;I)V"⟩, 2) := ⟨⟨by decide +kernel, by decide +kernel⟩, List.mem_of_getElem? (i := 62) (by decide +kernel), List.mem_of_getElem? (i := 365) (by decide +kernel), List.mem_of_getElem? (i := 366) (by decide +kernel)⟩
theorem lw_p4 : lw_okq (⟨"ChurchLodge", "hindranceOfCourse", "(ILChurchLodge$Part;)I"⟩, 13) := ⟨⟨by decide +kernel, by decide +kernel⟩, List.mem_of_getElem? (i := 20) (by decide +kernel), List.mem_of_getElem? (i := 377) (by decide +kernel), List.mem_of_getElem? (i := 378) (by decide +kernel)⟩
theorem lw_p5 : lw_okq (⟨"ChurchLodge", "statuteInForce", "()I"⟩, 13) := ⟨⟨by decide +kernel, by decide +kernel⟩, List.mem_of_getElem? (i := 20) (by decide +kernel), List.mem_of_getElem? (i := 395) (by decide +kernel), List.mem_of_getElem? (i := 396) (by decide +kernel)⟩
theorem lw_p6 : lw_okq (⟨"ChurchLodge", "nameMonth", "()V"⟩, 13) := ⟨⟨by decide +kernel, by decide +kernel⟩, List.mem_of_getElem? (i := 20) (by decide +kernel), List.mem_of_getElem? (i := 399) (by decide +kernel), List.mem_of_getElem? (i := 400) (by decide +kernel)⟩
theorem lw_p7 : lw_okq (⟨"ChurchLodge$Reckoner", "meaningOf", "(I)I"⟩, 2) := ⟨⟨by decide +kernel, by decide +kernel⟩, List.mem_of_getElem? (i := 121) (by decide +kernel), List.mem_of_getElem? (i := 500) (by decide +kernel), List.mem_of_getElem? (i := 501) (by decide +kernel)⟩
theorem lw_p8 : lw_okq (⟨"ChurchLodge", "coinsFor", "(ILChurchLodge$Part;)I"⟩, 13) := ⟨⟨by decide +kernel, by decide +kernel⟩, List.mem_of_getElem? (i := 20) (by decide +kernel), List.mem_of_getElem? (i := 511) (by decide +kernel), List.mem_of_getElem? (i := 512) (by decide +kernel)⟩
theorem lw_p9 : lw_okq (⟨"ChurchLodge", "findGift", "(I)LChurchLodge$Gift;"⟩, 13) := ⟨⟨by decide +kernel, by decide +kernel⟩, List.mem_of_getElem? (i := 20) (by decide +kernel), List.mem_of_getElem? (i := 519) (by decide +kernel), List.mem_of_getElem? (i := 520) (by decide +kernel)⟩
theorem lw_p10 : lw_okq (⟨"ChurchLodge", "fallByCourse", "(LChurchLodge$Part;)I"⟩, 13) := ⟨⟨by decide +kernel, by decide +kernel⟩, List.mem_of_getElem? (i := 20) (by decide +kernel), List.mem_of_getElem? (i := 528) (by decide +kernel), List.mem_of_getElem? (i := 529) (by decide +kernel)⟩
theorem lw_p11 : lw_okq (⟨"ChurchLodge", "payFor", "(ILChurchLodge$Part;)V"⟩, 13) := ⟨⟨by decide +kernel, by decide +kernel⟩, List.mem_of_getElem? (i := 20) (by decide +kernel), List.mem_of_getElem? (i := 532) (by decide +kernel), List.mem_of_getElem? (i := 533) (by decide +kernel)⟩
theorem lw_p12 : lw_okq (⟨"ChurchLodge$Tape", "openSign", "(I)V"⟩, 6) := ⟨⟨by decide +kernel, by decide +kernel⟩, List.mem_of_getElem? (i := 95) (by decide +kernel), List.mem_of_getElem? (i := 608) (by decide +kernel), List.mem_of_getElem? (i := 609) (by decide +kernel)⟩
theorem lw_p13 : lw_okq (⟨"ChurchLodge$Tape", "keep", "(I)V"⟩, 6) := ⟨⟨by decide +kernel, by decide +kernel⟩, List.mem_of_getElem? (i := 95) (by decide +kernel), List.mem_of_getElem? (i := 612) (by decide +kernel), List.mem_of_getElem? (i := 613) (by decide +kernel)⟩
theorem lw_p14 : lw_okq (⟨"ChurchLodge$Tape", "readLeaf", "(I)I"⟩, 6) := ⟨⟨by decide +kernel, by decide +kernel⟩, List.mem_of_getElem? (i := 95) (by decide +kernel), List.mem_of_getElem? (i := 616) (by decide +kernel), List.mem_of_getElem? (i := 617) (by decide +kernel)⟩
theorem lw_p15 : lw_okq (⟨"ChurchLodge$Tape", "readNumber", "(I)I"⟩, 6) := ⟨⟨by decide +kernel, by decide +kernel⟩, List.mem_of_getElem? (i := 95) (by decide +kernel), List.mem_of_getElem? (i := 620) (by decide +kernel), List.mem_of_getElem? (i := 621) (by decide +kernel)⟩
def lw_privs_1 : List (MethodName × Nat) := [(⟨"ChurchLodge$Plan", "isReadBefore", "(I)Z"⟩, 7), (⟨"ChurchLodge", "stands", "()Z"⟩, 13), (⟨"ChurchLodge$Stress", "passDown", "(LChurchLodge$Part;I)V"⟩, 2), (⟨"ChurchLodge$Stress", "pushAside", "(LChurchLodge$Part;I)V"⟩, 2), (⟨"ChurchLodge", "hindranceOfCourse", "(ILChurchLodge$Part;)I"⟩, 13), (⟨"ChurchLodge", "statuteInForce", "()I"⟩, 13), (⟨"ChurchLodge", "nameMonth", "()V"⟩, 13), (⟨"ChurchLodge$Reckoner", "meaningOf", "(I)I"⟩, 2), (⟨"ChurchLodge", "coinsFor", "(ILChurchLodge$Part;)I"⟩, 13), (⟨"ChurchLodge", "findGift", "(I)LChurchLodge$Gift;"⟩, 13), (⟨"ChurchLodge", "fallByCourse", "(LChurchLodge$Part;)I"⟩, 13), (⟨"ChurchLodge", "payFor", "(ILChurchLodge$Part;)V"⟩, 13), (⟨"ChurchLodge$Tape", "openSign", "(I)V"⟩, 6), (⟨"ChurchLodge$Tape", "keep", "(I)V"⟩, 6), (⟨"ChurchLodge$Tape", "readLeaf", "(I)I"⟩, 6), (⟨"ChurchLodge$Tape", "readNumber", "(I)I"⟩, 6)]
theorem lw_r1 : ∀ q ∈ lw_privs_1, lw_okq q := List.forall_mem_cons.mpr ⟨lw_p0, List.forall_mem_cons.mpr ⟨lw_p1, List.forall_mem_cons.mpr ⟨lw_p2, List.forall_mem_cons.mpr ⟨lw_p3, List.forall_mem_cons.mpr ⟨lw_p4, List.forall_mem_cons.mpr ⟨lw_p5, List.forall_mem_cons.mpr ⟨lw_p6, List.forall_mem_cons.mpr ⟨lw_p7, List.forall_mem_cons.mpr ⟨lw_p8, List.forall_mem_cons.mpr ⟨lw_p9, List.forall_mem_cons.mpr ⟨lw_p10, List.forall_mem_cons.mpr ⟨lw_p11, List.forall_mem_cons.mpr ⟨lw_p12, List.forall_mem_cons.mpr ⟨lw_p13, List.forall_mem_cons.mpr ⟨lw_p14, List.forall_mem_cons.mpr ⟨lw_p15, fun _ h => absurd h List.not_mem_nil⟩⟩⟩⟩⟩⟩⟩⟩⟩⟩⟩⟩⟩⟩⟩⟩
theorem lw_p16 : lw_okq (⟨"ChurchLodge$Tape", "closeSigns", "()Z"⟩, 6) := ⟨⟨by decide +kernel, by decide +kernel⟩, List.mem_of_getElem? (i := 95) (by decide +kernel), List.mem_of_getElem? (i := 628) (by decide +kernel), List.mem_of_getElem? (i := 629) (by decide +kernel)⟩
theorem lw_p17 : lw_okq (⟨"ChurchLodge", "loadOf", "(I)I"⟩, 13) := ⟨⟨by decide +kernel, by decide +kernel⟩, List.mem_of_getElem? (i := 20) (by decide +kernel), List.mem_of_getElem? (i := 692) (by decide +kernel), List.mem_of_getElem? (i := 693) (by decide +kernel)⟩
theorem lw_p18 : lw_okq (⟨"ChurchLodge", "pushToRightOn", "(I)I"⟩, 13) := ⟨⟨by decide +kernel, by decide +kernel⟩, List.mem_of_getElem? (i := 20) (by decide +kernel), List.mem_of_getElem? (i := 697) (by decide +kernel), List.mem_of_getElem? (i := 698) (by decide +kernel)⟩
theorem lw_p19 : lw_okq (⟨"ChurchLodge", "coinsRemaining", "()I"⟩, 13) := ⟨⟨by decide +kernel, by decide +kernel⟩, List.mem_of_getElem? (i := 20) (by decide +kernel), List.mem_of_getElem? (i := 753) (by decide +kernel), List.mem_of_getElem? (i := 754) (by decide +kernel)⟩
theorem lw_p20 : lw_okq (⟨"ChurchLodgeModel", "newPart", "(IIII)I"⟩, 47) := ⟨⟨by decide +kernel, by decide +kernel⟩, List.mem_of_getElem? (i := 757) (by decide +kernel), List.mem_of_getElem? (i := 916) (by decide +kernel), List.mem_of_getElem? (i := 917) (by decide +kernel)⟩
theorem lw_p21 : lw_okq (⟨"ChurchLodgeModel", "isPart", "(I)Z"⟩, 47) := ⟨⟨by decide +kernel, by decide +kernel⟩, List.mem_of_getElem? (i := 757) (by decide +kernel), List.mem_of_getElem? (i := 925) (by decide +kernel), List.mem_of_getElem? (i := 926) (by decide +kernel)⟩
theorem lw_p22 : lw_okq (⟨"ChurchLodgeModel", "support0", "(IIII)V"⟩, 47) := ⟨⟨by decide +kernel, by decide +kernel⟩, List.mem_of_getElem? (i := 757) (by decide +kernel), List.mem_of_getElem? (i := 929) (by decide +kernel), List.mem_of_getElem? (i := 930) (by decide +kernel)⟩
theorem lw_p23 : lw_okq (⟨"ChurchLodgeModel", "edition", "()V"⟩, 47) := ⟨⟨by decide +kernel, by decide +kernel⟩, List.mem_of_getElem? (i := 757) (by decide +kernel), List.mem_of_getElem? (i := 937) (by decide +kernel), List.mem_of_getElem? (i := 938) (by decide +kernel)⟩
theorem lw_p24 : lw_okq (⟨"ChurchLodgeModel", "falling", "()I"⟩, 47) := ⟨⟨by decide +kernel, by decide +kernel⟩, List.mem_of_getElem? (i := 757) (by decide +kernel), List.mem_of_getElem? (i := 953) (by decide +kernel), List.mem_of_getElem? (i := 954) (by decide +kernel)⟩
theorem lw_p25 : lw_okq (⟨"ChurchLodgeModel", "weigh", "()V"⟩, 47) := ⟨⟨by decide +kernel, by decide +kernel⟩, List.mem_of_getElem? (i := 757) (by decide +kernel), List.mem_of_getElem? (i := 957) (by decide +kernel), List.mem_of_getElem? (i := 958) (by decide +kernel)⟩
theorem lw_p26 : lw_okq (⟨"ChurchLodgeModel", "goes", "(II)I"⟩, 47) := ⟨⟨by decide +kernel, by decide +kernel⟩, List.mem_of_getElem? (i := 757) (by decide +kernel), List.mem_of_getElem? (i := 961) (by decide +kernel), List.mem_of_getElem? (i := 962) (by decide +kernel)⟩
theorem lw_p27 : lw_okq (⟨"ChurchLodgeModel", "net", "(I)I"⟩, 47) := ⟨⟨by decide +kernel, by decide +kernel⟩, List.mem_of_getElem? (i := 757) (by decide +kernel), List.mem_of_getElem? (i := 966) (by decide +kernel), List.mem_of_getElem? (i := 967) (by decide +kernel)⟩
theorem lw_p28 : lw_okq (⟨"ChurchLodgeModel", "read", "()I"⟩, 47) := ⟨⟨by decide +kernel, by decide +kernel⟩, List.mem_of_getElem? (i := 757) (by decide +kernel), List.mem_of_getElem? (i := 979) (by decide +kernel), List.mem_of_getElem? (i := 980) (by decide +kernel)⟩
theorem lw_p29 : lw_okq (⟨"ChurchLodgeModel", "lay0", "(I)V"⟩, 47) := ⟨⟨by decide +kernel, by decide +kernel⟩, List.mem_of_getElem? (i := 757) (by decide +kernel), List.mem_of_getElem? (i := 986) (by decide +kernel), List.mem_of_getElem? (i := 987) (by decide +kernel)⟩
theorem lw_p30 : lw_okq (⟨"ChurchLodgeModel", "keep", "()I"⟩, 47) := ⟨⟨by decide +kernel, by decide +kernel⟩, List.mem_of_getElem? (i := 757) (by decide +kernel), List.mem_of_getElem? (i := 996) (by decide +kernel), List.mem_of_getElem? (i := 997) (by decide +kernel)⟩
theorem lw_p31 : lw_okq (⟨"ChurchLodgeModel", "says", "(II)I"⟩, 47) := ⟨⟨by decide +kernel, by decide +kernel⟩, List.mem_of_getElem? (i := 757) (by decide +kernel), List.mem_of_getElem? (i := 1008) (by decide +kernel), List.mem_of_getElem? (i := 1009) (by decide +kernel)⟩
def lw_privs_2 : List (MethodName × Nat) := [(⟨"ChurchLodge$Tape", "closeSigns", "()Z"⟩, 6), (⟨"ChurchLodge", "loadOf", "(I)I"⟩, 13), (⟨"ChurchLodge", "pushToRightOn", "(I)I"⟩, 13), (⟨"ChurchLodge", "coinsRemaining", "()I"⟩, 13), (⟨"ChurchLodgeModel", "newPart", "(IIII)I"⟩, 47), (⟨"ChurchLodgeModel", "isPart", "(I)Z"⟩, 47), (⟨"ChurchLodgeModel", "support0", "(IIII)V"⟩, 47), (⟨"ChurchLodgeModel", "edition", "()V"⟩, 47), (⟨"ChurchLodgeModel", "falling", "()I"⟩, 47), (⟨"ChurchLodgeModel", "weigh", "()V"⟩, 47), (⟨"ChurchLodgeModel", "goes", "(II)I"⟩, 47), (⟨"ChurchLodgeModel", "net", "(I)I"⟩, 47), (⟨"ChurchLodgeModel", "read", "()I"⟩, 47), (⟨"ChurchLodgeModel", "lay0", "(I)V"⟩, 47), (⟨"ChurchLodgeModel", "keep", "()I"⟩, 47), (⟨"ChurchLodgeModel", "says", "(II)I"⟩, 47)]
theorem lw_r2 : ∀ q ∈ lw_privs_2, lw_okq q := List.forall_mem_cons.mpr ⟨lw_p16, List.forall_mem_cons.mpr ⟨lw_p17, List.forall_mem_cons.mpr ⟨lw_p18, List.forall_mem_cons.mpr ⟨lw_p19, List.forall_mem_cons.mpr ⟨lw_p20, List.forall_mem_cons.mpr ⟨lw_p21, List.forall_mem_cons.mpr ⟨lw_p22, List.forall_mem_cons.mpr ⟨lw_p23, List.forall_mem_cons.mpr ⟨lw_p24, List.forall_mem_cons.mpr ⟨lw_p25, List.forall_mem_cons.mpr ⟨lw_p26, List.forall_mem_cons.mpr ⟨lw_p27, List.forall_mem_cons.mpr ⟨lw_p28, List.forall_mem_cons.mpr ⟨lw_p29, List.forall_mem_cons.mpr ⟨lw_p30, List.forall_mem_cons.mpr ⟨lw_p31, fun _ h => absurd h List.not_mem_nil⟩⟩⟩⟩⟩⟩⟩⟩⟩⟩⟩⟩⟩⟩⟩⟩
theorem lw_p32 : lw_okq (⟨"ChurchLodgeModel", "named", "(II)I"⟩, 47) := ⟨⟨by decide +kernel, by decide +kernel⟩, List.mem_of_getElem? (i := 757) (by decide +kernel), List.mem_of_getElem? (i := 1012) (by decide +kernel), List.mem_of_getElem? (i := 1013) (by decide +kernel)⟩
theorem lw_p33 : lw_okq (⟨"ChurchLodgeModel", "isFrost", "(I)Z"⟩, 47) := ⟨⟨by decide +kernel, by decide +kernel⟩, List.mem_of_getElem? (i := 757) (by decide +kernel), List.mem_of_getElem? (i := 1016) (by decide +kernel), List.mem_of_getElem? (i := 1017) (by decide +kernel)⟩
theorem lw_p34 : lw_okq (⟨"ChurchLodgeModel", "isGift", "(I)Z"⟩, 47) := ⟨⟨by decide +kernel, by decide +kernel⟩, List.mem_of_getElem? (i := 757) (by decide +kernel), List.mem_of_getElem? (i := 1027) (by decide +kernel), List.mem_of_getElem? (i := 1028) (by decide +kernel)⟩
theorem lw_p35 : lw_okq (⟨"ChurchLodgeModel", "endFor", "(II)I"⟩, 47) := ⟨⟨by decide +kernel, by decide +kernel⟩, List.mem_of_getElem? (i := 757) (by decide +kernel), List.mem_of_getElem? (i := 1031) (by decide +kernel), List.mem_of_getElem? (i := 1032) (by decide +kernel)⟩
theorem lw_p36 : lw_okq (⟨"ChurchLodgeModel", "hinders", "(I)I"⟩, 47) := ⟨⟨by decide +kernel, by decide +kernel⟩, List.mem_of_getElem? (i := 757) (by decide +kernel), List.mem_of_getElem? (i := 1040) (by decide +kernel), List.mem_of_getElem? (i := 1041) (by decide +kernel)⟩
theorem lw_p37 : lw_okq (⟨"ChurchLodgeModel", "fallingBy", "(I)I"⟩, 47) := ⟨⟨by decide +kernel, by decide +kernel⟩, List.mem_of_getElem? (i := 757) (by decide +kernel), List.mem_of_getElem? (i := 1045) (by decide +kernel), List.mem_of_getElem? (i := 1046) (by decide +kernel)⟩
theorem lw_p38 : lw_okq (⟨"ChurchLodgeModel", "stands", "(II)Z"⟩, 47) := ⟨⟨by decide +kernel, by decide +kernel⟩, List.mem_of_getElem? (i := 757) (by decide +kernel), List.mem_of_getElem? (i := 1081) (by decide +kernel), List.mem_of_getElem? (i := 1082) (by decide +kernel)⟩
def lw_privs_3 : List (MethodName × Nat) := [(⟨"ChurchLodgeModel", "named", "(II)I"⟩, 47), (⟨"ChurchLodgeModel", "isFrost", "(I)Z"⟩, 47), (⟨"ChurchLodgeModel", "isGift", "(I)Z"⟩, 47), (⟨"ChurchLodgeModel", "endFor", "(II)I"⟩, 47), (⟨"ChurchLodgeModel", "hinders", "(I)I"⟩, 47), (⟨"ChurchLodgeModel", "fallingBy", "(I)I"⟩, 47), (⟨"ChurchLodgeModel", "stands", "(II)Z"⟩, 47)]
theorem lw_r3 : ∀ q ∈ lw_privs_3, lw_okq q := List.forall_mem_cons.mpr ⟨lw_p32, List.forall_mem_cons.mpr ⟨lw_p33, List.forall_mem_cons.mpr ⟨lw_p34, List.forall_mem_cons.mpr ⟨lw_p35, List.forall_mem_cons.mpr ⟨lw_p36, List.forall_mem_cons.mpr ⟨lw_p37, List.forall_mem_cons.mpr ⟨lw_p38, fun _ h => absurd h List.not_mem_nil⟩⟩⟩⟩⟩⟩⟩
def lw_privs : List (MethodName × Nat) := lw_privs_1 ++ (lw_privs_2 ++ (lw_privs_3))
def lw_tbl : List Cond := k2_sels lw_privs ++ tables_1
theorem lw_privs_ok : ∀ q ∈ lw_privs, lw_okq q := by
  show ∀ q ∈ lw_privs_1 ++ (lw_privs_2 ++ (lw_privs_3)), lw_okq q
  exact List.forall_mem_append.mpr ⟨lw_r1, List.forall_mem_append.mpr ⟨lw_r2, lw_r3⟩⟩
-- ===== end of PART A; then your names; then what follows =====
end
section
def RX0 : String := "ChurchLodge$Calendar"
def TX0 : u_T := fun k => match k with
  | 0 => ("ChurchLodge$Calendar", "bitterOfYear", "[I", true)
  | 1 => ("ChurchLodge$Calendar", "now", "I", false)
  | _ => ("ChurchLodge$Calendar", "frostOfYears", "I", false)
def tyX0 : Nat → FieldType := fun k => match k with
  | 0 => .array .int
  | 1 => .int
  | _ => .int
theorem nmX0 : ∀ a, a < 3 → ∀ b, b < 3 → a ≠ b → (TX0 a).2.1 ≠ (TX0 b).2.1 := by decide +kernel
theorem tyX0_ok : ∀ k, k < 3 → parseFieldDescriptor (TX0 k).2.2.1 = some (tyX0 k) := by decide +kernel
abbrev cX0_init : ByteArray := prog_2_method_1_code
def yX0_init : MethodName := ⟨RX0, "<init>", "()V"⟩
abbrev cX0_isAhead : ByteArray := prog_2_method_2_code
def yX0_isAhead : MethodName := ⟨RX0, "isAhead", "(I)Z"⟩
abbrev cX0_hasFrost : ByteArray := prog_2_method_3_code
def yX0_hasFrost : MethodName := ⟨RX0, "hasFrost", "(I)Z"⟩
abbrev cX0_makeBitter : ByteArray := prog_2_method_4_code
def yX0_makeBitter : MethodName := ⟨RX0, "makeBitter", "(I)Z"⟩
abbrev cX0_pass : ByteArray := prog_2_method_5_code
def yX0_pass : MethodName := ⟨RX0, "pass", "(I)I"⟩
def RX1 : String := "ChurchLodge$Gift"
def TX1 : u_T := fun k => match k with
  | 0 => ("ChurchLodge$Gift", "coins", "I", true)
  | 1 => ("ChurchLodge$Gift", "purpose", "LChurchLodge$Text;", true)
  | _ => ("ChurchLodge$Gift", "remaining", "I", false)
def tyX1 : Nat → FieldType := fun k => match k with
  | 0 => .int
  | 1 => .object "ChurchLodge$Text"
  | _ => .int
theorem nmX1 : ∀ a, a < 3 → ∀ b, b < 3 → a ≠ b → (TX1 a).2.1 ≠ (TX1 b).2.1 := by decide +kernel
theorem tyX1_ok : ∀ k, k < 3 → parseFieldDescriptor (TX1 k).2.2.1 = some (tyX1 k) := by decide +kernel
abbrev cX1_init : ByteArray := prog_3_method_1_code
def yX1_init : MethodName := ⟨RX1, "<init>", "(ILChurchLodge$Text;)V"⟩
def RX2 : String := "ChurchLodge$Part"
def TX2 : u_T := fun k => match k with
  | 0 => ("ChurchLodge$Part", "kind", "I", true)
  | 1 => ("ChurchLodge$Part", "coursesMade", "I", true)
  | 2 => ("ChurchLodge$Part", "weight", "I", true)
  | 3 => ("ChurchLodge$Part", "price", "I", true)
  | 4 => ("ChurchLodge$Part", "told", "[I", true)
  | 5 => ("ChurchLodge$Part", "supports", "[I", true)
  | 6 => ("ChurchLodge$Part", "shares", "[I", true)
  | 7 => ("ChurchLodge$Part", "laidIn", "[I", true)
  | 8 => ("ChurchLodge$Part", "supportCount", "I", false)
  | 9 => ("ChurchLodge$Part", "courses", "I", false)
  | 10 => ("ChurchLodge$Part", "laid", "I", false)
  | 11 => ("ChurchLodge$Part", "age", "I", false)
  | 12 => ("ChurchLodge$Part", "prop", "I", false)
  | _ => ("ChurchLodge$Part", "struck", "Z", false)
def tyX2 : Nat → FieldType := fun k => match k with
  | 0 => .int
  | 1 => .int
  | 2 => .int
  | 3 => .int
  | 4 => .array .int
  | 5 => .array .int
  | 6 => .array .int
  | 7 => .array .int
  | 8 => .int
  | 9 => .int
  | 10 => .int
  | 11 => .int
  | 12 => .int
  | _ => .boolean
theorem nmX2 : ∀ a, a < 14 → ∀ b, b < 14 → a ≠ b → (TX2 a).2.1 ≠ (TX2 b).2.1 := by decide +kernel
theorem tyX2_ok : ∀ k, k < 14 → parseFieldDescriptor (TX2 k).2.2.1 = some (tyX2 k) := by decide +kernel
abbrev cX2_init : ByteArray := prog_4_method_1_code
def yX2_init : MethodName := ⟨RX2, "<init>", "(IIII)V"⟩
abbrev cX2_isBegun : ByteArray := prog_4_method_2_code
def yX2_isBegun : MethodName := ⟨RX2, "isBegun", "()Z"⟩
abbrev cX2_isWhole : ByteArray := prog_4_method_3_code
def yX2_isWhole : MethodName := ⟨RX2, "isWhole", "()Z"⟩
abbrev cX2_isOnCentring : ByteArray := prog_4_method_4_code
def yX2_isOnCentring : MethodName := ⟨RX2, "isOnCentring", "()Z"⟩
abbrev cX2_standOn : ByteArray := prog_4_method_5_code
def yX2_standOn : MethodName := ⟨RX2, "standOn", "(III)V"⟩
abbrev cX2_takeCourse : ByteArray := prog_4_method_6_code
def yX2_takeCourse : MethodName := ⟨RX2, "takeCourse", "(I)V"⟩
abbrev cX2_laidTill : ByteArray := prog_4_method_7_code
def yX2_laidTill : MethodName := ⟨RX2, "laidTill", "(I)I"⟩
abbrev cX2_portion : ByteArray := prog_4_method_8_code
def yX2_portion : MethodName := ⟨RX2, "portion", "(II)I"⟩
abbrev cX2_heaviestWay : ByteArray := prog_4_method_9_code
def yX2_heaviestWay : MethodName := ⟨RX2, "heaviestWay", "(I)I"⟩
abbrev cX2_markSupports : ByteArray := prog_4_method_10_code
def yX2_markSupports : MethodName := ⟨RX2, "markSupports", "([I)V"⟩
abbrev cX2_standsOn : ByteArray := prog_4_method_11_code
def yX2_standsOn : MethodName := ⟨RX2, "standsOn", "(I)Z"⟩
def RX3 : String := "ChurchLodge$Plan"
def TX3 : u_T := fun k => match k with
  | 0 => ("ChurchLodge$Plan", "parts", "[LChurchLodge$Part;", true)
  | 1 => ("ChurchLodge$Plan", "editionPart", "[I", true)
  | 2 => ("ChurchLodge$Plan", "editionCourses", "[I", true)
  | 3 => ("ChurchLodge$Plan", "editionSize", "[I", true)
  | 4 => ("ChurchLodge$Plan", "supportsRead", "[I", true)
  | 5 => ("ChurchLodge$Plan", "partCount", "I", false)
  | _ => ("ChurchLodge$Plan", "editionCount", "I", false)
def tyX3 : Nat → FieldType := fun k => match k with
  | 0 => .array (.object "ChurchLodge$Part")
  | 1 => .array .int
  | 2 => .array .int
  | 3 => .array .int
  | 4 => .array .int
  | 5 => .int
  | _ => .int
theorem nmX3 : ∀ a, a < 7 → ∀ b, b < 7 → a ≠ b → (TX3 a).2.1 ≠ (TX3 b).2.1 := by decide +kernel
theorem tyX3_ok : ∀ k, k < 7 → parseFieldDescriptor (TX3 k).2.2.1 = some (tyX3 k) := by decide +kernel
abbrev cX3_init : ByteArray := prog_5_method_1_code
def yX3_init : MethodName := ⟨RX3, "<init>", "()V"⟩
abbrev cX3_find : ByteArray := prog_5_method_2_code
def yX3_find : MethodName := ⟨RX3, "find", "(I)LChurchLodge$Part;"⟩
abbrev cX3_add : ByteArray := prog_5_method_3_code
def yX3_add : MethodName := ⟨RX3, "add", "(LChurchLodge$Part;)I"⟩
abbrev cX3_readSupports : ByteArray := prog_5_method_4_code
def yX3_readSupports : MethodName := ⟨RX3, "readSupports", "(IIIII)I"⟩
abbrev cX3_isSupportFor : ByteArray := prog_5_method_5_code
def yX3_isSupportFor : MethodName := ⟨RX3, "isSupportFor", "(II)Z"⟩
abbrev cX3_isReadBefore : ByteArray := prog_5_method_6_code
def yX3_isReadBefore : MethodName := ⟨RX3, "isReadBefore", "(I)Z"⟩
abbrev cX3_setSupports : ByteArray := prog_5_method_7_code
def yX3_setSupports : MethodName := ⟨RX3, "setSupports", "(LChurchLodge$Part;I)V"⟩
abbrev cX3_keepEdition : ByteArray := prog_5_method_8_code
def yX3_keepEdition : MethodName := ⟨RX3, "keepEdition", "(II)I"⟩
abbrev cX3_coursesIn : ByteArray := prog_5_method_9_code
def yX3_coursesIn : MethodName := ⟨RX3, "coursesIn", "(II)I"⟩
abbrev cX3_isReadyBelow : ByteArray := prog_5_method_10_code
def yX3_isReadyBelow : MethodName := ⟨RX3, "isReadyBelow", "(LChurchLodge$Part;)Z"⟩
abbrev cX3_ageAll : ByteArray := prog_5_method_11_code
def yX3_ageAll : MethodName := ⟨RX3, "ageAll", "(I)V"⟩
abbrev cX3_countBorneBy : ByteArray := prog_5_method_12_code
def yX3_countBorneBy : MethodName := ⟨RX3, "countBorneBy", "(I)I"⟩
abbrev cX3_countLaid : ByteArray := prog_5_method_13_code
def yX3_countLaid : MethodName := ⟨RX3, "countLaid", "()I"⟩
def RX4 : String := "ChurchLodge$Reckoner"
def TX4 : u_T := fun k => match k with
  | 0 => ("ChurchLodge$Reckoner", "meanings", "[I", true)
  | _ => ("ChurchLodge$Reckoner", "stack", "[I", true)
def tyX4 : Nat → FieldType := fun k => match k with
  | 0 => .array .int
  | _ => .array .int
theorem nmX4 : ∀ a, a < 2 → ∀ b, b < 2 → a ≠ b → (TX4 a).2.1 ≠ (TX4 b).2.1 := by decide +kernel
theorem tyX4_ok : ∀ k, k < 2 → parseFieldDescriptor (TX4 k).2.2.1 = some (tyX4 k) := by decide +kernel
abbrev cX4_init : ByteArray := prog_6_method_1_code
def yX4_init : MethodName := ⟨RX4, "<init>", "()V"⟩
abbrev cX4_nameNoPart : ByteArray := prog_6_method_2_code
def yX4_nameNoPart : MethodName := ⟨RX4, "nameNoPart", "()V"⟩
abbrev cX4_namePart : ByteArray := prog_6_method_3_code
def yX4_namePart : MethodName := ⟨RX4, "namePart", "(ILChurchLodge$Part;)V"⟩
abbrev cX4_nameMonth : ByteArray := prog_6_method_4_code
def yX4_nameMonth : MethodName := ⟨RX4, "nameMonth", "(IZI)V"⟩
abbrev cX4_endOf : ByteArray := prog_6_method_5_code
def yX4_endOf : MethodName := ⟨RX4, "endOf", "(LChurchLodge$Gift;)I"⟩
abbrev cX4_valueOf : ByteArray := prog_6_method_6_code
def yX4_valueOf : MethodName := ⟨RX4, "valueOf", "(LChurchLodge$Text;)I"⟩
abbrev cX4_isSign : ByteArray := prog_6_method_7_code
def yX4_isSign : MethodName := ⟨RX4, "isSign", "(I)Z"⟩
abbrev cX4_meaningOf : ByteArray := prog_6_method_8_code
def yX4_meaningOf : MethodName := ⟨RX4, "meaningOf", "(I)I"⟩
abbrev cX4_truth : ByteArray := prog_6_method_9_code
def yX4_truth : MethodName := ⟨RX4, "truth", "(Z)I"⟩
abbrev cX4_join : ByteArray := prog_6_method_10_code
def yX4_join : MethodName := ⟨RX4, "join", "(III)I"⟩
def RX5 : String := "ChurchLodge$Stress"
def TX5 : u_T := fun k => match k with
  | 0 => ("ChurchLodge$Stress", "loads", "[I", true)
  | _ => ("ChurchLodge$Stress", "pushes", "[I", true)
def tyX5 : Nat → FieldType := fun k => match k with
  | 0 => .array .int
  | _ => .array .int
theorem nmX5 : ∀ a, a < 2 → ∀ b, b < 2 → a ≠ b → (TX5 a).2.1 ≠ (TX5 b).2.1 := by decide +kernel
theorem tyX5_ok : ∀ k, k < 2 → parseFieldDescriptor (TX5 k).2.2.1 = some (tyX5 k) := by decide +kernel
abbrev cX5_init : ByteArray := prog_7_method_1_code
def yX5_init : MethodName := ⟨RX5, "<init>", "()V"⟩
abbrev cX5_weigh : ByteArray := prog_7_method_2_code
def yX5_weigh : MethodName := ⟨RX5, "weigh", "(LChurchLodge$Plan;)V"⟩
abbrev cX5_passDown : ByteArray := prog_7_method_3_code
def yX5_passDown : MethodName := ⟨RX5, "passDown", "(LChurchLodge$Part;I)V"⟩
abbrev cX5_pushAside : ByteArray := prog_7_method_4_code
def yX5_pushAside : MethodName := ⟨RX5, "pushAside", "(LChurchLodge$Part;I)V"⟩
abbrev cX5_leastFalling : ByteArray := prog_7_method_5_code
def yX5_leastFalling : MethodName := ⟨RX5, "leastFalling", "(LChurchLodge$Plan;)I"⟩
def RX6 : String := "ChurchLodge$Tape"
def TX6 : u_T := fun k => match k with
  | 0 => ("ChurchLodge$Tape", "bytes", "[I", true)
  | 1 => ("ChurchLodge$Tape", "items", "[I", true)
  | 2 => ("ChurchLodge$Tape", "wants", "[I", true)
  | 3 => ("ChurchLodge$Tape", "length", "I", false)
  | 4 => ("ChurchLodge$Tape", "itemCount", "I", false)
  | _ => ("ChurchLodge$Tape", "open", "I", false)
def tyX6 : Nat → FieldType := fun k => match k with
  | 0 => .array .int
  | 1 => .array .int
  | 2 => .array .int
  | 3 => .int
  | 4 => .int
  | _ => .int
theorem nmX6 : ∀ a, a < 6 → ∀ b, b < 6 → a ≠ b → (TX6 a).2.1 ≠ (TX6 b).2.1 := by decide +kernel
theorem tyX6_ok : ∀ k, k < 6 → parseFieldDescriptor (TX6 k).2.2.1 = some (tyX6 k) := by decide +kernel
abbrev cX6_init : ByteArray := prog_8_method_1_code
def yX6_init : MethodName := ⟨RX6, "<init>", "()V"⟩
abbrev cX6_take : ByteArray := prog_8_method_2_code
def yX6_take : MethodName := ⟨RX6, "take", "(II)V"⟩
abbrev cX6_asText : ByteArray := prog_8_method_3_code
def yX6_asText : MethodName := ⟨RX6, "asText", "()LChurchLodge$Text;"⟩
abbrev cX6_read : ByteArray := prog_8_method_4_code
def yX6_read : MethodName := ⟨RX6, "read", "()I"⟩
abbrev cX6_openSign : ByteArray := prog_8_method_5_code
def yX6_openSign : MethodName := ⟨RX6, "openSign", "(I)V"⟩
abbrev cX6_closeSigns : ByteArray := prog_8_method_6_code
def yX6_closeSigns : MethodName := ⟨RX6, "closeSigns", "()Z"⟩
abbrev cX6_readLeaf : ByteArray := prog_8_method_7_code
def yX6_readLeaf : MethodName := ⟨RX6, "readLeaf", "(I)I"⟩
abbrev cX6_readNumber : ByteArray := prog_8_method_8_code
def yX6_readNumber : MethodName := ⟨RX6, "readNumber", "(I)I"⟩
abbrev cX6_keep : ByteArray := prog_8_method_9_code
def yX6_keep : MethodName := ⟨RX6, "keep", "(I)V"⟩
abbrev cX6_isDigit : ByteArray := prog_8_method_10_code
def yX6_isDigit : MethodName := ⟨RX6, "isDigit", "(I)Z"⟩
def RX7 : String := "ChurchLodge$Text"
def TX7 : u_T := fun k => match k with
  | _ => ("ChurchLodge$Text", "items", "[I", true)
def tyX7 : Nat → FieldType := fun k => match k with
  | _ => .array .int
theorem nmX7 : ∀ a, a < 1 → ∀ b, b < 1 → a ≠ b → (TX7 a).2.1 ≠ (TX7 b).2.1 := by decide +kernel
theorem tyX7_ok : ∀ k, k < 1 → parseFieldDescriptor (TX7 k).2.2.1 = some (tyX7 k) := by decide +kernel
abbrev cX7_init : ByteArray := prog_9_method_1_code
def yX7_init : MethodName := ⟨RX7, "<init>", "([I)V"⟩
def RX8 : String := "ChurchLodge"
def TX8 : u_T := fun k => match k with
  | 0 => ("ChurchLodge", "plan", "LChurchLodge$Plan;", true)
  | 1 => ("ChurchLodge", "stress", "LChurchLodge$Stress;", true)
  | 2 => ("ChurchLodge", "calendar", "LChurchLodge$Calendar;", true)
  | 3 => ("ChurchLodge", "tape", "LChurchLodge$Tape;", true)
  | 4 => ("ChurchLodge", "reckoner", "LChurchLodge$Reckoner;", true)
  | 5 => ("ChurchLodge", "gifts", "[LChurchLodge$Gift;", true)
  | 6 => ("ChurchLodge", "statutes", "[LChurchLodge$Text;", true)
  | 7 => ("ChurchLodge", "statuteFrom", "[I", true)
  | 8 => ("ChurchLodge", "marked", "[I", true)
  | 9 => ("ChurchLodge", "giftCount", "I", false)
  | 10 => ("ChurchLodge", "statuteCount", "I", false)
  | 11 => ("ChurchLodge", "workDone", "I", false)
  | _ => ("ChurchLodge", "paid", "I", false)
def tyX8 : Nat → FieldType := fun k => match k with
  | 0 => .object "ChurchLodge$Plan"
  | 1 => .object "ChurchLodge$Stress"
  | 2 => .object "ChurchLodge$Calendar"
  | 3 => .object "ChurchLodge$Tape"
  | 4 => .object "ChurchLodge$Reckoner"
  | 5 => .array (.object "ChurchLodge$Gift")
  | 6 => .array (.object "ChurchLodge$Text")
  | 7 => .array .int
  | 8 => .array .int
  | 9 => .int
  | 10 => .int
  | 11 => .int
  | _ => .int
theorem nmX8 : ∀ a, a < 13 → ∀ b, b < 13 → a ≠ b → (TX8 a).2.1 ≠ (TX8 b).2.1 := by decide +kernel
theorem tyX8_ok : ∀ k, k < 13 → parseFieldDescriptor (TX8 k).2.2.1 = some (tyX8 k) := by decide +kernel
abbrev cX8_init : ByteArray := prog_1_method_1_code
def yX8_init : MethodName := ⟨RX8, "<init>", "()V"⟩
abbrev cX8_part : ByteArray := prog_1_method_2_code
def yX8_part : MethodName := ⟨RX8, "part", "(III)I"⟩
abbrev cX8_arch : ByteArray := prog_1_method_3_code
def yX8_arch : MethodName := ⟨RX8, "arch", "(IIIII)I"⟩
abbrev cX8_bear : ByteArray := prog_1_method_4_code
def yX8_bear : MethodName := ⟨RX8, "bear", "(IIIII)I"⟩
abbrev cX8_edit : ByteArray := prog_1_method_5_code
def yX8_edit : MethodName := ⟨RX8, "edit", "(II)I"⟩
abbrev cX8_wanted : ByteArray := prog_1_method_6_code
def yX8_wanted : MethodName := ⟨RX8, "wanted", "(II)I"⟩
abbrev cX8_tell : ByteArray := prog_1_method_7_code
def yX8_tell : MethodName := ⟨RX8, "tell", "(III)I"⟩
abbrev cX8_lay : ByteArray := prog_1_method_8_code
def yX8_lay : MethodName := ⟨RX8, "lay", "(I)I"⟩
abbrev cX8_may : ByteArray := prog_1_method_9_code
def yX8_may : MethodName := ⟨RX8, "may", "(I)I"⟩
abbrev cX8_falls : ByteArray := prog_1_method_10_code
def yX8_falls : MethodName := ⟨RX8, "falls", "(I)I"⟩
abbrev cX8_strike : ByteArray := prog_1_method_11_code
def yX8_strike : MethodName := ⟨RX8, "strike", "(I)I"⟩
abbrev cX8_prop : ByteArray := prog_1_method_12_code
def yX8_prop : MethodName := ⟨RX8, "prop", "(II)I"⟩
abbrev cX8_month : ByteArray := prog_1_method_13_code
def yX8_month : MethodName := ⟨RX8, "month", "(I)I"⟩
abbrev cX8_frost : ByteArray := prog_1_method_14_code
def yX8_frost : MethodName := ⟨RX8, "frost", "(I)I"⟩
abbrev cX8_bitter : ByteArray := prog_1_method_15_code
def yX8_bitter : MethodName := ⟨RX8, "bitter", "(I)I"⟩
abbrev cX8_feed : ByteArray := prog_1_method_16_code
def yX8_feed : MethodName := ⟨RX8, "feed", "(II)I"⟩
abbrev cX8_gift : ByteArray := prog_1_method_17_code
def yX8_gift : MethodName := ⟨RX8, "gift", "(I)I"⟩
abbrev cX8_statute : ByteArray := prog_1_method_18_code
def yX8_statute : MethodName := ⟨RX8, "statute", "(I)I"⟩
abbrev cX8_end : ByteArray := prog_1_method_19_code
def yX8_end : MethodName := ⟨RX8, "end", "(II)I"⟩
abbrev cX8_about : ByteArray := prog_1_method_20_code
def yX8_about : MethodName := ⟨RX8, "about", "(II)I"⟩
abbrev cX8_support : ByteArray := prog_1_method_21_code
def yX8_support : MethodName := ⟨RX8, "support", "(II)I"⟩
abbrev cX8_left : ByteArray := prog_1_method_22_code
def yX8_left : MethodName := ⟨RX8, "left", "(II)I"⟩
abbrev cX8_work : ByteArray := prog_1_method_23_code
def yX8_work : MethodName := ⟨RX8, "work", "()I"⟩
abbrev cX8_as : ByteArray := prog_1_method_24_code
def yX8_as : MethodName := ⟨RX8, "as", "(II)I"⟩
abbrev cX8_down : ByteArray := prog_1_method_25_code
def yX8_down : MethodName := ⟨RX8, "down", "(I)I"⟩
abbrev cX8_needs : ByteArray := prog_1_method_26_code
def yX8_needs : MethodName := ⟨RX8, "needs", "(I)I"⟩
abbrev cX8_count : ByteArray := prog_1_method_27_code
def yX8_count : MethodName := ⟨RX8, "count", "(I)I"⟩
abbrev cX8_isMeasure : ByteArray := prog_1_method_28_code
def yX8_isMeasure : MethodName := ⟨RX8, "isMeasure", "(III)Z"⟩
abbrev cX8_stands : ByteArray := prog_1_method_29_code
def yX8_stands : MethodName := ⟨RX8, "stands", "()Z"⟩
abbrev cX8_loadOf : ByteArray := prog_1_method_30_code
def yX8_loadOf : MethodName := ⟨RX8, "loadOf", "(I)I"⟩
abbrev cX8_pushToRightOn : ByteArray := prog_1_method_31_code
def yX8_pushToRightOn : MethodName := ⟨RX8, "pushToRightOn", "(I)I"⟩
abbrev cX8_fallByCourse : ByteArray := prog_1_method_32_code
def yX8_fallByCourse : MethodName := ⟨RX8, "fallByCourse", "(LChurchLodge$Part;)I"⟩
abbrev cX8_hindranceOfCourse : ByteArray := prog_1_method_33_code
def yX8_hindranceOfCourse : MethodName := ⟨RX8, "hindranceOfCourse", "(ILChurchLodge$Part;)I"⟩
abbrev cX8_findGift : ByteArray := prog_1_method_34_code
def yX8_findGift : MethodName := ⟨RX8, "findGift", "(I)LChurchLodge$Gift;"⟩
abbrev cX8_coinsRemaining : ByteArray := prog_1_method_35_code
def yX8_coinsRemaining : MethodName := ⟨RX8, "coinsRemaining", "()I"⟩
abbrev cX8_coinsFor : ByteArray := prog_1_method_36_code
def yX8_coinsFor : MethodName := ⟨RX8, "coinsFor", "(ILChurchLodge$Part;)I"⟩
abbrev cX8_payFor : ByteArray := prog_1_method_37_code
def yX8_payFor : MethodName := ⟨RX8, "payFor", "(ILChurchLodge$Part;)V"⟩
abbrev cX8_nameMonth : ByteArray := prog_1_method_38_code
def yX8_nameMonth : MethodName := ⟨RX8, "nameMonth", "()V"⟩
abbrev cX8_statuteInForce : ByteArray := prog_1_method_39_code
def yX8_statuteInForce : MethodName := ⟨RX8, "statuteInForce", "()I"⟩
def RX9 : String := "ChurchLodgeModel"
def TX9 : u_T := fun k => match k with
  | 0 => ("ChurchLodgeModel", "code", "I", false)
  | 1 => ("ChurchLodgeModel", "parts", "I", false)
  | 2 => ("ChurchLodgeModel", "kind", "[I", true)
  | 3 => ("ChurchLodgeModel", "wants", "[I", true)
  | 4 => ("ChurchLodgeModel", "firstWant", "[I", true)
  | 5 => ("ChurchLodgeModel", "weight", "[I", true)
  | 6 => ("ChurchLodgeModel", "price", "[I", true)
  | 7 => ("ChurchLodgeModel", "bears", "[I", true)
  | 8 => ("ChurchLodgeModel", "holds", "[I", true)
  | 9 => ("ChurchLodgeModel", "thrust", "[I", true)
  | 10 => ("ChurchLodgeModel", "hard", "[I", true)
  | 11 => ("ChurchLodgeModel", "props", "[I", true)
  | 12 => ("ChurchLodgeModel", "laid", "[I", true)
  | 13 => ("ChurchLodgeModel", "age", "[I", true)
  | 14 => ("ChurchLodgeModel", "centred", "[Z", true)
  | 15 => ("ChurchLodgeModel", "supports", "[I", true)
  | 16 => ("ChurchLodgeModel", "onto", "[I", true)
  | 17 => ("ChurchLodgeModel", "share", "[I", true)
  | 18 => ("ChurchLodgeModel", "month", "I", false)
  | 19 => ("ChurchLodgeModel", "done", "I", false)
  | 20 => ("ChurchLodgeModel", "paid", "I", false)
  | 21 => ("ChurchLodgeModel", "frosts", "I", false)
  | 22 => ("ChurchLodgeModel", "bitters", "[Z", true)
  | 23 => ("ChurchLodgeModel", "laidAt", "[I", true)
  | 24 => ("ChurchLodgeModel", "editions", "I", false)
  | 25 => ("ChurchLodgeModel", "partsAt", "[I", true)
  | 26 => ("ChurchLodgeModel", "wantedAt", "[I", true)
  | 27 => ("ChurchLodgeModel", "asked", "[I", true)
  | 28 => ("ChurchLodgeModel", "load", "[I", true)
  | 29 => ("ChurchLodgeModel", "push", "[I", true)
  | 30 => ("ChurchLodgeModel", "tape", "[B", true)
  | 31 => ("ChurchLodgeModel", "taped", "I", false)
  | 32 => ("ChurchLodgeModel", "texts", "I", false)
  | 33 => ("ChurchLodgeModel", "textFrom", "[I", true)
  | 34 => ("ChurchLodgeModel", "step", "[I", true)
  | 35 => ("ChurchLodgeModel", "laidSteps", "I", false)
  | 36 => ("ChurchLodgeModel", "wanting", "[I", true)
  | 37 => ("ChurchLodgeModel", "pile", "[I", true)
  | 38 => ("ChurchLodgeModel", "gifts", "I", false)
  | 39 => ("ChurchLodgeModel", "brought", "[I", true)
  | 40 => ("ChurchLodgeModel", "left", "[I", true)
  | 41 => ("ChurchLodgeModel", "endOf", "[I", true)
  | 42 => ("ChurchLodgeModel", "statutes", "I", false)
  | 43 => ("ChurchLodgeModel", "statuteText", "[I", true)
  | 44 => ("ChurchLodgeModel", "statuteFrom", "[I", true)
  | 45 => ("ChurchLodgeModel", "pays", "[Z", true)
  | _ => ("ChurchLodgeModel", "under", "[Z", true)
def tyX9 : Nat → FieldType := fun k => match k with
  | 0 => .int
  | 1 => .int
  | 2 => .array .int
  | 3 => .array .int
  | 4 => .array .int
  | 5 => .array .int
  | 6 => .array .int
  | 7 => .array .int
  | 8 => .array .int
  | 9 => .array .int
  | 10 => .array .int
  | 11 => .array .int
  | 12 => .array .int
  | 13 => .array .int
  | 14 => .array .boolean
  | 15 => .array .int
  | 16 => .array .int
  | 17 => .array .int
  | 18 => .int
  | 19 => .int
  | 20 => .int
  | 21 => .int
  | 22 => .array .boolean
  | 23 => .array .int
  | 24 => .int
  | 25 => .array .int
  | 26 => .array .int
  | 27 => .array .int
  | 28 => .array .int
  | 29 => .array .int
  | 30 => .array .byte
  | 31 => .int
  | 32 => .int
  | 33 => .array .int
  | 34 => .array .int
  | 35 => .int
  | 36 => .array .int
  | 37 => .array .int
  | 38 => .int
  | 39 => .array .int
  | 40 => .array .int
  | 41 => .array .int
  | 42 => .int
  | 43 => .array .int
  | 44 => .array .int
  | 45 => .array .boolean
  | _ => .array .boolean
theorem nmX9 : ∀ a, a < 47 → ∀ b, b < 47 → a ≠ b → (TX9 a).2.1 ≠ (TX9 b).2.1 := by decide +kernel
theorem tyX9_ok : ∀ k, k < 47 → parseFieldDescriptor (TX9 k).2.2.1 = some (tyX9 k) := by decide +kernel
abbrev cX9_init : ByteArray := prog_11_method_1_code
def yX9_init : MethodName := ⟨RX9, "<init>", "()V"⟩
abbrev cX9_in : ByteArray := prog_11_method_3_code
def yX9_in : MethodName := ⟨RX9, "in", "(III)Z"⟩
abbrev cX9_isPart : ByteArray := prog_11_method_4_code
def yX9_isPart : MethodName := ⟨RX9, "isPart", "(I)Z"⟩
abbrev cX9_newPart : ByteArray := prog_11_method_5_code
def yX9_newPart : MethodName := ⟨RX9, "newPart", "(IIII)I"⟩
abbrev cX9_isPlan : ByteArray := prog_11_method_6_code
def yX9_isPlan : MethodName := ⟨RX9, "isPlan", "(III)Z"⟩
abbrev cX9_part : ByteArray := prog_11_method_7_code
def yX9_part : MethodName := ⟨RX9, "part", "(III)I"⟩
abbrev cX9_support0 : ByteArray := prog_11_method_8_code
def yX9_support0 : MethodName := ⟨RX9, "support0", "(IIII)V"⟩
abbrev cX9_arch : ByteArray := prog_11_method_9_code
def yX9_arch : MethodName := ⟨RX9, "arch", "(IIIII)I"⟩
abbrev cX9_edition : ByteArray := prog_11_method_10_code
def yX9_edition : MethodName := ⟨RX9, "edition", "()V"⟩
abbrev cX9_bear : ByteArray := prog_11_method_11_code
def yX9_bear : MethodName := ⟨RX9, "bear", "(IIIII)I"⟩
abbrev cX9_edit : ByteArray := prog_11_method_12_code
def yX9_edit : MethodName := ⟨RX9, "edit", "(II)I"⟩
abbrev cX9_wanted : ByteArray := prog_11_method_13_code
def yX9_wanted : MethodName := ⟨RX9, "wanted", "(II)I"⟩
abbrev cX9_goes : ByteArray := prog_11_method_14_code
def yX9_goes : MethodName := ⟨RX9, "goes", "(II)I"⟩
abbrev cX9_weigh : ByteArray := prog_11_method_15_code
def yX9_weigh : MethodName := ⟨RX9, "weigh", "()V"⟩
abbrev cX9_net : ByteArray := prog_11_method_16_code
def yX9_net : MethodName := ⟨RX9, "net", "(I)I"⟩
abbrev cX9_falling : ByteArray := prog_11_method_17_code
def yX9_falling : MethodName := ⟨RX9, "falling", "()I"⟩
abbrev cX9_fallingBy : ByteArray := prog_11_method_18_code
def yX9_fallingBy : MethodName := ⟨RX9, "fallingBy", "(I)I"⟩
abbrev cX9_tell : ByteArray := prog_11_method_19_code
def yX9_tell : MethodName := ⟨RX9, "tell", "(III)I"⟩
abbrev cX9_feed : ByteArray := prog_11_method_20_code
def yX9_feed : MethodName := ⟨RX9, "feed", "(II)I"⟩
abbrev cX9_isDigit : ByteArray := prog_11_method_21_code
def yX9_isDigit : MethodName := ⟨RX9, "isDigit", "(I)Z"⟩
abbrev cX9_isName : ByteArray := prog_11_method_22_code
def yX9_isName : MethodName := ⟨RX9, "isName", "(I)Z"⟩
abbrev cX9_isSign : ByteArray := prog_11_method_23_code
def yX9_isSign : MethodName := ⟨RX9, "isSign", "(I)Z"⟩
abbrev cX9_lay0 : ByteArray := prog_11_method_24_code
def yX9_lay0 : MethodName := ⟨RX9, "lay0", "(I)V"⟩
abbrev cX9_read : ByteArray := prog_11_method_25_code
def yX9_read : MethodName := ⟨RX9, "read", "()I"⟩
abbrev cX9_keep : ByteArray := prog_11_method_26_code
def yX9_keep : MethodName := ⟨RX9, "keep", "()I"⟩
abbrev cX9_isFrost : ByteArray := prog_11_method_27_code
def yX9_isFrost : MethodName := ⟨RX9, "isFrost", "(I)Z"⟩
abbrev cX9_named : ByteArray := prog_11_method_28_code
def yX9_named : MethodName := ⟨RX9, "named", "(II)I"⟩
abbrev cX9_both : ByteArray := prog_11_method_29_code
def yX9_both : MethodName := ⟨RX9, "both", "(III)I"⟩
abbrev cX9_says : ByteArray := prog_11_method_30_code
def yX9_says : MethodName := ⟨RX9, "says", "(II)I"⟩
abbrev cX9_isGift : ByteArray := prog_11_method_31_code
def yX9_isGift : MethodName := ⟨RX9, "isGift", "(I)Z"⟩
abbrev cX9_gift : ByteArray := prog_11_method_32_code
def yX9_gift : MethodName := ⟨RX9, "gift", "(I)I"⟩
abbrev cX9_statute : ByteArray := prog_11_method_33_code
def yX9_statute : MethodName := ⟨RX9, "statute", "(I)I"⟩
abbrev cX9_work : ByteArray := prog_11_method_34_code
def yX9_work : MethodName := ⟨RX9, "work", "()I"⟩
abbrev cX9_endFor : ByteArray := prog_11_method_35_code
def yX9_endFor : MethodName := ⟨RX9, "endFor", "(II)I"⟩
abbrev cX9_end : ByteArray := prog_11_method_36_code
def yX9_end : MethodName := ⟨RX9, "end", "(II)I"⟩
abbrev cX9_hinders : ByteArray := prog_11_method_37_code
def yX9_hinders : MethodName := ⟨RX9, "hinders", "(I)I"⟩
abbrev cX9_may : ByteArray := prog_11_method_38_code
def yX9_may : MethodName := ⟨RX9, "may", "(I)I"⟩
abbrev cX9_falls : ByteArray := prog_11_method_39_code
def yX9_falls : MethodName := ⟨RX9, "falls", "(I)I"⟩
abbrev cX9_lay : ByteArray := prog_11_method_40_code
def yX9_lay : MethodName := ⟨RX9, "lay", "(I)I"⟩
abbrev cX9_strike : ByteArray := prog_11_method_41_code
def yX9_strike : MethodName := ⟨RX9, "strike", "(I)I"⟩
abbrev cX9_prop : ByteArray := prog_11_method_42_code
def yX9_prop : MethodName := ⟨RX9, "prop", "(II)I"⟩
abbrev cX9_month : ByteArray := prog_11_method_43_code
def yX9_month : MethodName := ⟨RX9, "month", "(I)I"⟩
abbrev cX9_frost : ByteArray := prog_11_method_44_code
def yX9_frost : MethodName := ⟨RX9, "frost", "(I)I"⟩
abbrev cX9_bitter : ByteArray := prog_11_method_45_code
def yX9_bitter : MethodName := ⟨RX9, "bitter", "(I)I"⟩
abbrev cX9_about : ByteArray := prog_11_method_46_code
def yX9_about : MethodName := ⟨RX9, "about", "(II)I"⟩
abbrev cX9_stands : ByteArray := prog_11_method_47_code
def yX9_stands : MethodName := ⟨RX9, "stands", "(II)Z"⟩
abbrev cX9_support : ByteArray := prog_11_method_48_code
def yX9_support : MethodName := ⟨RX9, "support", "(II)I"⟩
abbrev cX9_left : ByteArray := prog_11_method_49_code
def yX9_left : MethodName := ⟨RX9, "left", "(II)I"⟩
abbrev cX9_as : ByteArray := prog_11_method_50_code
def yX9_as : MethodName := ⟨RX9, "as", "(II)I"⟩
abbrev cX9_down : ByteArray := prog_11_method_51_code
def yX9_down : MethodName := ⟨RX9, "down", "(I)I"⟩
abbrev cX9_needs : ByteArray := prog_11_method_52_code
def yX9_needs : MethodName := ⟨RX9, "needs", "(I)I"⟩
abbrev cX9_count : ByteArray := prog_11_method_53_code
def yX9_count : MethodName := ⟨RX9, "count", "(I)I"⟩
def RJ11 : String := "java/lang/Character"
def TJ11 : u_T := fun k => match k with
  | _ => ("", "", "", false)
def tyJ11 : Nat → FieldType := fun k => match k with
  | _ => .int
theorem nmJ11 : ∀ a, a < 0 → ∀ b, b < 0 → a ≠ b → (TJ11 a).2.1 ≠ (TJ11 b).2.1 := by decide +kernel
theorem tyJ11_ok : ∀ k, k < 0 → parseFieldDescriptor (TJ11 k).2.2.1 = some (tyJ11 k) := by decide +kernel
abbrev cJ11_isValidCodePoint_9a6ad : ByteArray := prog_12_method_11_code
def yJ11_isValidCodePoint_9a6ad : MethodName := ⟨RJ11, "isValidCodePoint", "(I)Z"⟩
abbrev cJ11_highSurrogate_5068e : ByteArray := prog_12_method_28_code
def yJ11_highSurrogate_5068e : MethodName := ⟨RJ11, "highSurrogate", "(I)C"⟩
abbrev cJ11_lowSurrogate_5068e : ByteArray := prog_12_method_29_code
def yJ11_lowSurrogate_5068e : MethodName := ⟨RJ11, "lowSurrogate", "(I)C"⟩
def RJx8e188 : String := "java/lang/Cloneable"
def TJx8e188 : u_T := fun k => match k with
  | _ => ("", "", "", false)
def tyJx8e188 : Nat → FieldType := fun k => match k with
  | _ => .int
theorem nmJx8e188 : ∀ a, a < 0 → ∀ b, b < 0 → a ≠ b → (TJx8e188 a).2.1 ≠ (TJx8e188 b).2.1 := by decide +kernel
theorem tyJx8e188_ok : ∀ k, k < 0 → parseFieldDescriptor (TJx8e188 k).2.2.1 = some (tyJx8e188 k) := by decide +kernel
def RJ9 : String := "java/lang/Math"
def TJ9 : u_T := fun k => match k with
  | _ => ("", "", "", false)
def tyJ9 : Nat → FieldType := fun k => match k with
  | _ => .int
theorem nmJ9 : ∀ a, a < 0 → ∀ b, b < 0 → a ≠ b → (TJ9 a).2.1 ≠ (TJ9 b).2.1 := by decide +kernel
theorem tyJ9_ok : ∀ k, k < 0 → parseFieldDescriptor (TJ9 k).2.2.1 = some (tyJ9 k) := by decide +kernel
abbrev cJ9_abs_0f7a4 : ByteArray := prog_14_method_59_code
def yJ9_abs_0f7a4 : MethodName := ⟨RJ9, "abs", "(I)I"⟩
abbrev cJ9_max_7cf53 : ByteArray := prog_14_method_65_code
def yJ9_max_7cf53 : MethodName := ⟨RJ9, "max", "(II)I"⟩
abbrev cJ9_min_7cf53 : ByteArray := prog_14_method_69_code
def yJ9_min_7cf53 : MethodName := ⟨RJ9, "min", "(II)I"⟩
def RJ0 : String := "java/lang/String"
def TJ0 : u_T := fun k => match k with
  | _ => ("", "", "", false)
def tyJ0 : Nat → FieldType := fun k => match k with
  | _ => .int
theorem nmJ0 : ∀ a, a < 0 → ∀ b, b < 0 → a ≠ b → (TJ0 a).2.1 ≠ (TJ0 b).2.1 := by decide +kernel
theorem tyJ0_ok : ∀ k, k < 0 → parseFieldDescriptor (TJ0 k).2.2.1 = some (tyJ0 k) := by decide +kernel
abbrev cJ0_length_8abf5 : ByteArray := prog_15_method_54_code
def yJ0_length_8abf5 : MethodName := ⟨RJ0, "length", "()I"⟩
abbrev cJ0_indexOf_0f7a4 : ByteArray := prog_15_method_79_code
def yJ0_indexOf_0f7a4 : MethodName := ⟨RJ0, "indexOf", "(I)I"⟩
abbrev cJ0_indexOf_7cf53 : ByteArray := prog_15_method_80_code
def yJ0_indexOf_7cf53 : MethodName := ⟨RJ0, "indexOf", "(II)I"⟩
abbrev cJ0_coder_7d493 : ByteArray := prog_15_method_152_code
def yJ0_coder_7d493 : MethodName := ⟨RJ0, "coder", "()B"⟩
abbrev cJ0_isLatin1_aae02 : ByteArray := prog_15_method_154_code
def yJ0_isLatin1_aae02 : MethodName := ⟨RJ0, "isLatin1", "()Z"⟩
abbrev cJ0_checkBoundsBeginEnd_23922 : ByteArray := prog_15_method_158_code
def yJ0_checkBoundsBeginEnd_23922 : MethodName := ⟨RJ0, "checkBoundsBeginEnd", "(III)V"⟩
def RJ1 : String := "java/lang/StringLatin1"
def TJ1 : u_T := fun k => match k with
  | _ => ("", "", "", false)
def tyJ1 : Nat → FieldType := fun k => match k with
  | _ => .int
theorem nmJ1 : ∀ a, a < 0 → ∀ b, b < 0 → a ≠ b → (TJ1 a).2.1 ≠ (TJ1 b).2.1 := by decide +kernel
theorem tyJ1_ok : ∀ k, k < 0 → parseFieldDescriptor (TJ1 k).2.2.1 = some (tyJ1 k) := by decide +kernel
abbrev cJ1_canEncode_9a6ad : ByteArray := prog_16_method_4_code
def yJ1_canEncode_9a6ad : MethodName := ⟨RJ1, "canEncode", "(I)Z"⟩
abbrev cJ1_indexOf_4cfef : ByteArray := prog_16_method_22_code
def yJ1_indexOf_4cfef : MethodName := ⟨RJ1, "indexOf", "([BIII)I"⟩
abbrev cJ1_indexOfChar_4cfef : ByteArray := prog_16_method_23_code
def yJ1_indexOfChar_4cfef : MethodName := ⟨RJ1, "indexOfChar", "([BIII)I"⟩
def RJ2 : String := "java/lang/StringUTF16"
def TJ2 : u_T := fun k => match k with
  | _ => ("", "", "", false)
def tyJ2 : Nat → FieldType := fun k => match k with
  | _ => .int
theorem nmJ2 : ∀ a, a < 0 → ∀ b, b < 0 → a ≠ b → (TJ2 a).2.1 ≠ (TJ2 b).2.1 := by decide +kernel
theorem tyJ2_ok : ∀ k, k < 0 → parseFieldDescriptor (TJ2 k).2.2.1 = some (tyJ2 k) := by decide +kernel
abbrev cJ2_getChar_3b067 : ByteArray := prog_17_method_5_code
def yJ2_getChar_3b067 : MethodName := ⟨RJ2, "getChar", "([BI)C"⟩
abbrev cJ2_length_9d52b : ByteArray := prog_17_method_6_code
def yJ2_length_9d52b : MethodName := ⟨RJ2, "length", "([B)I"⟩
abbrev cJ2_indexOf_4cfef : ByteArray := prog_17_method_40_code
def yJ2_indexOf_4cfef : MethodName := ⟨RJ2, "indexOf", "([BIII)I"⟩
abbrev cJ2_indexOfChar_4cfef : ByteArray := prog_17_method_47_code
def yJ2_indexOfChar_4cfef : MethodName := ⟨RJ2, "indexOfChar", "([BIII)I"⟩
abbrev cJ2_indexOfCharUnsafe_4cfef : ByteArray := prog_17_method_48_code
def yJ2_indexOfCharUnsafe_4cfef : MethodName := ⟨RJ2, "indexOfCharUnsafe", "([BIII)I"⟩
abbrev cJ2_indexOfSupplementary_4cfef : ByteArray := prog_17_method_49_code
def yJ2_indexOfSupplementary_4cfef : MethodName := ⟨RJ2, "indexOfSupplementary", "([BIII)I"⟩
abbrev cJ2_checkBoundsBeginEnd_d044e : ByteArray := prog_17_method_93_code
def yJ2_checkBoundsBeginEnd_d044e : MethodName := ⟨RJ2, "checkBoundsBeginEnd", "(II[B)V"⟩
def RJ10 : String := "java/lang/System"
def TJ10 : u_T := fun k => match k with
  | _ => ("", "", "", false)
def tyJ10 : Nat → FieldType := fun k => match k with
  | _ => .int
theorem nmJ10 : ∀ a, a < 0 → ∀ b, b < 0 → a ≠ b → (TJ10 a).2.1 ≠ (TJ10 b).2.1 := by decide +kernel
theorem tyJ10_ok : ∀ k, k < 0 → parseFieldDescriptor (TJ10 k).2.2.1 = some (tyJ10 k) := by decide +kernel
def RJ7 : String := "java/util/Arrays"
def TJ7 : u_T := fun k => match k with
  | _ => ("", "", "", false)
def tyJ7 : Nat → FieldType := fun k => match k with
  | _ => .int
theorem nmJ7 : ∀ a, a < 0 → ∀ b, b < 0 → a ≠ b → (TJ7 a).2.1 ≠ (TJ7 b).2.1 := by decide +kernel
theorem tyJ7_ok : ∀ k, k < 0 → parseFieldDescriptor (TJ7 k).2.2.1 = some (tyJ7 k) := by decide +kernel
abbrev cJ7_fill_53178 : ByteArray := prog_19_method_103_code
def yJ7_fill_53178 : MethodName := ⟨RJ7, "fill", "([II)V"⟩
abbrev cJ7_copyOf_59c91 : ByteArray := prog_19_method_123_code
def yJ7_copyOf_59c91 : MethodName := ⟨RJ7, "copyOf", "([II)[I"⟩
def RJ3 : String := "jdk/internal/util/Preconditions"
def TJ3 : u_T := fun k => match k with
  | _ => ("", "", "", false)
def tyJ3 : Nat → FieldType := fun k => match k with
  | _ => .int
theorem nmJ3 : ∀ a, a < 0 → ∀ b, b < 0 → a ≠ b → (TJ3 a).2.1 ≠ (TJ3 b).2.1 := by decide +kernel
theorem tyJ3_ok : ∀ k, k < 0 → parseFieldDescriptor (TJ3 k).2.2.1 = some (tyJ3 k) := by decide +kernel
abbrev cJ3_checkFromToIndex_8c36e : ByteArray := prog_20_method_12_code
def yJ3_checkFromToIndex_8c36e : MethodName := ⟨RJ3, "checkFromToIndex", "(IIILjava/util/function/BiFunction;)I"⟩
def RL : String := "ChurchLodgeLaw"
abbrev cL_law : ByteArray := code
def yL_law : MethodName := ⟨RL, "law", "([I)Z"⟩
end
section
/-! THE WORLD BY NAMES. A cell's name is (id, i): id < 100: the i-th object of class id (cls); id = 100 * (c + 1) + k: the array in field k of the i-th object of class c. V id i j: the int there (of a scalar field: V (its id) i 0). -/
abbrev Vt : Type := Nat → Nat → Nat → Int32
/-- what never changes in a run: class numbers, array classes, the heap at the law's entry, String constants' cells and rows, MOST_TOLD's row -/
abbrev Gt : Type := va_G × (Nat → ClassId) × Heap × (Nat → Nat) × (Nat → Nat) × Nat
/-- what only makings change: addresses, which objects there are, lengths of arrays, references -/
abbrev Et : Type := (Nat → Nat → Nat) × (Nat → Nat → Prop) × (Nat → Nat → Nat) × (Nat → Nat → Option Nat)
abbrev gD (G : Gt) : va_G := G.1
abbrev gT (G : Gt) : Nat → ClassId := G.2.1
abbrev gB (G : Gt) : Heap := G.2.2.1
abbrev gK (G : Gt) : Nat → Nat := G.2.2.2.1
abbrev gV (G : Gt) : Nat → Nat := G.2.2.2.2.1
abbrev gM (G : Gt) : Nat := G.2.2.2.2.2
abbrev eA (E : Et) : Nat → Nat → Nat := E.1
abbrev eL (E : Et) : Nat → Nat → Prop := E.2.1
abbrev eN (E : Et) : Nat → Nat → Nat := E.2.2.1
abbrev eR (E : Et) : Nat → Nat → Option Nat := E.2.2.2
def cls : List vw_C := [(RX0, TX0, 3), (RX1, TX1, 3), (RX2, TX2, 14), (RX3, TX3, 7), (RX4, TX4, 2), (RX5, TX5, 2), (RX6, TX6, 6), (RX7, TX7, 1), (RX8, TX8, 13), (RX9, TX9, 47)]
/-- kinds of fields: 0 an int; 1, 2, 3 a row of ints, bytes, booleans; 4, 5, 6 a row of Parts, Gifts, Texts; 8 a Text or null; 10 + c the one object of class c -/
def fkl (c : Nat) : List Nat := match c with
  | 0 => [1, 0, 0]
  | 1 => [0, 8, 0]
  | 2 => [0, 0, 0, 0, 1, 1, 1, 1, 0, 0, 0, 0, 0, 0]
  | 3 => [4, 1, 1, 1, 1, 0, 0]
  | 4 => [1, 1]
  | 5 => [1, 1]
  | 6 => [1, 1, 1, 0, 0, 0]
  | 7 => [1]
  | 8 => [13, 15, 10, 16, 14, 5, 6, 1, 1, 0, 0, 0, 0]
  | 9 => [0, 0, 1, 1, 1, 1, 1, 1, 1, 1, 1, 1, 1, 1, 3, 1, 1, 1, 0, 0, 0, 0, 3, 1, 0, 1, 1, 1, 1, 1, 2, 0, 0, 1, 1, 0, 1, 1, 0, 1, 1, 1, 0, 1, 1, 3, 3]
  | _ => []
def kdo (id : Nat) : Nat := (fkl (id / 100 - 1)).getD (id % 100) 0
def fval (E : Et) (V : Vt) (c i k kd : Nat) : Value := match kd with
  | 0 => .int (V (100 * (c + 1) + k) i 0)
  | 8 => va_rf ((eR E (100 * (c + 1) + k) i).map (eA E 7))
  | 1 => .ref (eA E (100 * (c + 1) + k) i)
  | 2 => .ref (eA E (100 * (c + 1) + k) i)
  | 3 => .ref (eA E (100 * (c + 1) + k) i)
  | 4 => .ref (eA E (100 * (c + 1) + k) i)
  | 5 => .ref (eA E (100 * (c + 1) + k) i)
  | 6 => .ref (eA E (100 * (c + 1) + k) i)
  | n => .ref (eA E (n - 10) 0)
def fvs (E : Et) (V : Vt) (c i : Nat) : Nat → List Nat → List Value
  | _, [] => []
  | k, kd :: t => fval E V c i k kd :: fvs E V c i (k + 1) t
def obF (E : Et) (V : Vt) (c i : Nat) : List Value := fvs E V c i 0 (fkl c)
def arC (G : Gt) (E : Et) (V : Vt) (id i kd : Nat) : va_E := match kd with
  | 1 => .inl (gT G 0, eN E id i, .inl (V id i))
  | 2 => .inl (gT G 1, eN E id i, .inl (V id i))
  | 3 => .inl (gT G 2, eN E id i, .inl (V id i))
  | 4 => .inl (gT G 3, eN E id i, .inr (.inr (.inr (.inr (fun j => (eR E id j).map (eA E 2))))))
  | 5 => .inl (gT G 4, eN E id i, .inr (.inr (.inr (.inr (fun j => (eR E id j).map (eA E 1))))))
  | _ => .inl (gT G 5, eN E id i, .inr (.inr (.inr (.inr (fun j => (eR E id j).map (eA E 7))))))
def cellOf (G : Gt) (E : Et) (V : Vt) (id i : Nat) : va_E := if id < 100 then .inr (id, obF E V id i) else arC G E V id i (kdo id)
def Lv (E : Et) (id i : Nat) : Prop := if id < 100 then eL E id i else 1 ≤ kdo id ∧ kdo id ≤ 6 ∧ eL E (id / 100 - 1) i
def RepH (G : Gt) (E : Et) (V : Vt) (H : Heap) : Prop :=
  (∀ q, q < (gB G).size → H[q]? = (gB G)[q]?) ∧ (∀ id i, Lv E id i → (gB G).size ≤ eA E id i ∧ va_at (gD G) cls (eA E id i, cellOf G E V id i) H) ∧ ∀ id i id' i', Lv E id i → Lv E id' i' → eA E id i = eA E id' i' → id = id' ∧ i = i'
def up3 (V : Vt) (f i j : Nat) (v : Int32) : Vt := fun f' i' j' => if f' = f ∧ i' = i ∧ j' = j then v else V f' i' j'
theorem up3_s (V : Vt) (f i j : Nat) (v : Int32) : up3 V f i j v f i j = v := by simp [up3]
theorem up3_f {V : Vt} {f i j f' i' j' : Nat} {v : Int32} (h : f' ≠ f) : up3 V f i j v f' i' j' = V f' i' j' := by simp [up3, h]
theorem up3_i {V : Vt} {f i j f' i' j' : Nat} {v : Int32} (h : i' ≠ i) : up3 V f i j v f' i' j' = V f' i' j' := by simp [up3, h]
theorem up3_j {V : Vt} {f i j f' i' j' : Nat} {v : Int32} (h : j' ≠ j) : up3 V f i j v f' i' j' = V f' i' j' := by simp [up3, h]
theorem up3_row (V : Vt) (f i j : Nat) (v : Int32) : up3 V f i j v f i = upd (V f i) j v := by
  funext x
  simp only [up3, upd, true_and]
theorem fvs_get (E : Et) (V : Vt) (c i : Nat) : ∀ (l : List Nat) (k0 k : Nat), (fvs E V c i k0 l)[k]? = (l[k]?).map (fval E V c i (k0 + k))
  | [], k0, k => by simp [fvs]
  | kd :: t, k0, 0 => by simp [fvs]
  | kd :: t, k0, k + 1 => by
    simp only [fvs, List.getElem?_cons_succ]
    rw [fvs_get E V c i t (k0 + 1) k, show k0 + 1 + k = k0 + (k + 1) by omega]
theorem obF_get (E : Et) (V : Vt) (c i k : Nat) : (obF E V c i)[k]? = ((fkl c)[k]?).map (fval E V c i k) := by
  unfold obF
  rw [fvs_get, Nat.zero_add]
theorem fkl_len (c : Nat) : (fkl c).length ≤ 60 := by
  unfold fkl
  split <;> simp
theorem fkl_lt {c k kd : Nat} (h : (fkl c)[k]? = some kd) : k < 60 := Nat.lt_of_lt_of_le (List.getElem?_eq_some_iff.mp h).1 (fkl_len c)
theorem kdo_at {c k kd : Nat} (h : (fkl c)[k]? = some kd) : kdo (100 * (c + 1) + k) = kd := by
  have hk := fkl_lt h
  unfold kdo
  rw [show (100 * (c + 1) + k) / 100 - 1 = c by omega, show (100 * (c + 1) + k) % 100 = k by omega]
  simp [List.getD, h]
/-- a row's write changes no object's fields -/
theorem obF_row {E : Et} {V : Vt} {f i0 j c i : Nat} {v : Int32} (hf : kdo f ≠ 0) : obF E (up3 V f i0 j v) c i = obF E V c i := by
  apply List.ext_getElem?
  intro k
  rw [obF_get, obF_get]
  cases h : (fkl c)[k]? with
  | none => rfl
  | some kd =>
    simp only [Option.map_some]
    congr 1
    unfold fval
    split <;> first | rfl | skip
    rw [up3_f (fun e => hf (by rw [← e]; exact kdo_at h))]
/-- a scalar's write changes no row -/
theorem arC_other {G : Gt} {E : Et} {V : Vt} {f i0 j id i : Nat} {v : Int32} (h : ¬ (id = f ∧ i = i0)) (kd : Nat) : arC G E (up3 V f i0 j v) id i kd = arC G E V id i kd := by
  have e : up3 V f i0 j v id i = V id i := by
    funext x
    by_cases h1 : id = f
    · exact up3_i (fun q => h ⟨h1, q⟩)
    · exact up3_f h1
  unfold arC
  split <;> first | rw [e] | rfl
theorem obF_put {E : Et} {V : Vt} {c i k : Nat} {v : Int32} (hk : (fkl c)[k]? = some 0) : obF E (up3 V (100 * (c + 1) + k) i 0 v) c i = (obF E V c i).set k (.int v) := by
  apply List.ext_getElem?
  intro x
  have hk60 := fkl_lt hk
  rw [List.getElem?_set, obF_get, obF_get]
  by_cases hx : k = x
  · subst hx
    have hl : k < (obF E V c i).length := by
      have : (obF E V c i)[k]? = some (fval E V c i k 0) := by rw [obF_get, hk]; rfl
      exact (List.getElem?_eq_some_iff.mp this).1
    rw [if_pos rfl, if_pos hl, hk]
    simp only [Option.map_some, fval, up3_s]
  · rw [if_neg hx]
    cases h : (fkl c)[x]? with
    | none => rfl
    | some kd =>
      simp only [Option.map_some]
      congr 1
      unfold fval
      split <;> first | rfl | skip
      rw [up3_f (by omega)]
theorem obF_other {E : Et} {V : Vt} {c i k c' i' : Nat} {v : Int32} (hk : (fkl c)[k]? = some 0) (h : ¬ (c' = c ∧ i' = i)) : obF E (up3 V (100 * (c + 1) + k) i 0 v) c' i' = obF E V c' i' := by
  apply List.ext_getElem?
  intro x
  have hk60 := fkl_lt hk
  rw [obF_get, obF_get]
  cases hx : (fkl c')[x]? with
  | none => rfl
  | some kd =>
    have hx60 := fkl_lt hx
    simp only [Option.map_some]
    congr 1
    unfold fval
    split <;> first | rfl | skip
    by_cases hi : i' = i
    · rw [up3_f (fun e => h ⟨by omega, hi⟩)]
    · rw [up3_i hi]
/-- the heap behind a write to one named cell -/
theorem RepH.wr {G : Gt} {E : Et} {V V' : Vt} {H H1 : Heap} {id i : Nat} (h : RepH G E V H) (hl : Lv E id i) (hz : H1.size = H.size) (ho : ∀ q, q ≠ eA E id i → H1[q]? = H[q]?) (hs : va_at (gD G) cls (eA E id i, cellOf G E V' id i) H1) (hv : ∀ id' i', ¬ (id' = id ∧ i' = i) → cellOf G E V' id' i' = cellOf G E V id' i') : RepH G E V' H1 := by
  obtain ⟨h1, h2, h3⟩ := h
  refine ⟨fun q hq => ?_, fun id' i' hl' => ?_, h3⟩
  · have := (h2 id i hl).1
    rw [ho q (by omega)]
    exact h1 q hq
  · refine ⟨(h2 id' i' hl').1, ?_⟩
    by_cases he : id' = id ∧ i' = i
    · obtain ⟨rfl, rfl⟩ := he
      exact hs
    · rw [hv id' i' he]
      exact (h2 id' i' hl').2.kept (ho _ (fun e => he (h3 id' i' id i hl' hl e)))
def tb : List Cond := lw_tbl.filter goodWord
theorem tb_in {w : Cond} (h : w ∈ lw_tbl) (hg : goodWord w = true) : w ∈ tb := List.mem_filter.mpr ⟨h, hg⟩
theorem tb_good {w : Cond} (h : w ∈ tb) : goodWord w = true := (List.mem_filter.mp h).2
theorem tb_GoodIn {y : MethodName} {cc : ByteArray} {n : Nat} {ret : Option FieldType} (h : Cond.code y cc n ret ∈ tb) : GoodIn tb (Cond.code y cc n ret :: tb) := fun w hw => by
  rcases List.mem_cons.mp hw with rfl | h1
  · exact ⟨h, good_of_word (tb_good h)⟩
  · exact ⟨h1, good_of_word (tb_good h1)⟩
def tyL (G : Gt) : List (ClassId × FieldType) := [(gT G 0, .int), (gT G 1, .byte), (gT G 2, .boolean), (gT G 3, .object RX2), (gT G 4, .object RX1), (gT G 5, .object RX7)]
abbrev gA (G : Gt) : Nat → Prop := fun a => (gB G).size ≤ a
def sLen : List Nat := [8, 9]
def sByt : List (List Int32) := [[112, 107, 110, 119, 109, 121, 102, 100], [33, 43, 45, 42, 60, 61, 62, 38, 124]]
def mTold : List Int32 := [1000000, 100000, 100, 24]
def BF (G : Gt) (U : State) : Prop :=
  vk_R RX4 9 "pknwmyfd" (gK G 0) U ∧ vk_R RX4 69 "!+-*<=>&|" (gK G 1) U ∧ vk_R RX6 42 "!+-*<=>&|" (gK G 1) U ∧ vk_R RX6 71 "pknwmyfd" (gK G 0) U ∧
  vk_S 2 sLen sByt (gK G) (gV G) (gA G) U (gB G) ∧ va_Z RX8 "MOST_TOLD" "[I" (.ref (gM G)) (gA G) U (gB G) ∧ va_T .int (gM G) 4 (fun j => .int (mTold.getD j 0)) (gA G) U (gB G) ∧ va_Z "java/lang/String" "COMPACT_STRINGS" "Z" (.int 1) (gA G) U (gB G)
theorem BF.warm {G : Gt} {s U : State} (hW : s.WarmedH U.vm) (h : BF G s) : BF G U := by
  obtain ⟨a, b, c, d, e, f, g, i⟩ := h
  exact ⟨a.warm hW, b.warm hW, c.warm hW, d.warm hW, e.moved hW.alike, f.moved hW.alike, g.moved hW.alike, i.moved hW.alike⟩
theorem BF.same {G : Gt} {s U : State} (hv : U.vm = s.vm) (h : BF G s) : BF G U := by
  obtain ⟨a, b, c, d, e, f, g, i⟩ := h
  have hal : s.vm.Alike U.vm := by rw [hv]; exact Vm.Alike.refl _
  exact ⟨a.same hv, b.same hv, c.same hv, d.same hv, e.moved hal, f.moved hal, g.moved hal, i.moved hal⟩
def KU (G : Gt) (U : State) : Prop := va_K (gD G) cls (tyL G) U ∧ BF G U
theorem KU.warm {G : Gt} {s U : State} (hW : s.WarmedH U.vm) (h : KU G s) : KU G U := ⟨va_K.moved hW.alike h.1, h.2.warm hW⟩
theorem KU.same {G : Gt} {s U : State} (hv : U.vm = s.vm) (h : KU G s) : KU G U := ⟨va_K.moved (by rw [hv]; exact Vm.Alike.refl _) h.1, h.2.same hv⟩
def Qo (G : Gt) (Q : Option Value → Et → Vt → Prop) : Array Value → State → Outcome → State → Prop := fun _ _ oc t => ∃ r E V, oc = .returned r ∧ Q r E V ∧ RepH G E V t.heap
def Cx (G : Gt) (own : String) (cc : ByteArray) (nL : Nat) (ret : Option FieldType) (p : Program) (s : State) (m : MethodId) (args : Array Value) (meth : Method) (c : Code) : Prop :=
  p.tables.exec = Jvm.exec ∧ c.code = cc ∧ meth.sig.returnType = ret ∧ c.maxLocals = nL ∧ s.vm.findClass own = some m.cls ∧ (∀ w ∈ tb, w.before args s = true) ∧ meth.locks = false ∧ KU G s
/-- the method own.., at pc, with the locals ll, the operands st, the world E, V, k cells and n slots made: it comes to its end, with Q -/
def Ev (l : Launch) (G : Gt) (own : String) (cc : ByteArray) (nL : Nat) (ret : Option FieldType) (rm : Room) (E : Et) (k n : Nat) (V : Vt) (pc : Nat) (ll : List (Nat × Value)) (st : List Value) (Q : Option Value → Et → Vt → Prop) : Prop :=
  ∀ (p : Program) (e : Env) (s : State) (m : MethodId) (args : Array Value) (below : List Frame) (meth : Method) (c : Code) (H : Heap) (locs : List Loc) (ls : Array Slot),
    Cx G own cc nL ret p s m args meth c → RepH G E V H → (∀ q ∈ locs, gA G q.base) → lv_has ls nL ll →
    W p l e rm s m args below meth c H locs k n (MQ below (Qo G Q) args s rm.cells rm.slots (gA G)) (F0 m pc ls st)
/-- a call of y with the arguments as in the world E, V: it returns, with Q -/
def Cl (l : Launch) (G : Gt) (y : MethodName) (cc : ByteArray) (nL : Nat) (ret : Option FieldType) (rm : Room) (E : Et) (V : Vt) (as : List Value) (Q : Option Value → Et → Vt → Prop) : Prop :=
  Met l y (Cond.code y cc nL ret :: tb) rm (va_Pc as (fun U => KU G U ∧ RepH G E V U.heap)) (Qo G Q) rm.cells rm.slots (gA G)
theorem Cl.of {l : Launch} {G : Gt} {y : MethodName} {cc : ByteArray} {nL : Nat} {ret : Option FieldType} {rm : Room} {E : Et} {V : Vt} {as : List Value} {Q : Option Value → Et → Vt → Prop} (hy : plainName y.cls = true) (hn : (lg_sl as).length ≤ nL)
    (h : Ev l G y.cls cc nL ret rm E 0 0 V 0 (lv_args 0 as) [] Q) : Cl l G y cc nL ret rm E V as Q := by
  refine Met.ofW (cc := cc) (maxL := nL) (ret := ret) hy rfl ?_
  intro p e s m args below meth c s₁ B hml hv
  obtain ⟨rfl, hK, hR⟩ := hv
  have hts := atoms_spec (ws := Cond.code y cc nL ret :: tb) B.pre
  have hl := lv_entry as (n := nL) hn
  rw [lg_entry_eq]
  exact h p e s m _ below meth c s.heap [] _ ⟨B.exec, B.bytes, B.returns, hml, findClass_of_methodNamed B.named, fun w hw => hts w (List.mem_cons_of_mem _ hw), B.notSynchronized, hK⟩ hR (fun q h => by cases h) hl
end
section
/-! A ROW AN INSTRUCTION, over Ev -/
def lk : List (Nat × Value) → Nat → Option Value
  | [], _ => none
  | q :: t, i => match Nat.beq q.1 i with
    | true => some q.2
    | false => lk t i
theorem lk_mem : ∀ (l : List (Nat × Value)) {i : Nat} {v : Value}, lk l i = some v → (i, v) ∈ l
  | [], i, v, h => by simp [lk] at h
  | (j, w) :: t, i, v, h => by
    unfold lk at h
    split at h
    · rename_i hb
      have hj : j = i := Nat.eq_of_beq_eq_true hb
      subst hj
      cases h
      exact List.mem_cons_self
    · exact List.mem_cons_of_mem _ (lk_mem t h)
theorem lk_at {ls : Array Slot} {nL : Nat} {l : List (Nat × Value)} (h : lv_has ls nL l) {i : Nat} {v : Value} (hk : lk l i = some v) : ls[i]? = some (.val v) := h.2.2 (i, v) (lk_mem l hk)
def fst1 (i : Nat) (q : Nat × Value) : Bool := !(q.1 == i) && !(q.1 + 1 == i && q.2.category == 2)
/-- the locals behind a store of a value of one word: its place stays where it was -/
def sto (i : Nat) (v : Value) : List (Nat × Value) → List (Nat × Value)
  | [] => [(i, v)]
  | q :: t => match Nat.beq q.1 i with
    | true => (i, v) :: t.filter (fst1 i)
    | false => match fst1 i q with
      | true => q :: sto i v t
      | false => sto i v t
theorem sto_mem (i : Nat) (v : Value) : ∀ (l : List (Nat × Value)) (q : Nat × Value), q ∈ sto i v l → q ∈ (i, v) :: l.filter (fst1 i)
  | [], q, h => by simpa [sto] using h
  | r :: t, q, h => by
    unfold sto at h
    split at h
    · rcases List.mem_cons.mp h with h | h
      · exact List.mem_cons.mpr (Or.inl h)
      · refine List.mem_cons.mpr (Or.inr ?_)
        rw [List.filter_cons]
        split
        · exact List.mem_cons_of_mem _ h
        · exact h
    · split at h
      · rename_i hf
        rcases List.mem_cons.mp h with h | h
        · subst h
          refine List.mem_cons.mpr (Or.inr ?_)
          rw [List.filter_cons, hf]
          exact List.mem_cons_self
        · rcases List.mem_cons.mp (sto_mem i v t q h) with h | h
          · exact List.mem_cons.mpr (Or.inl h)
          · refine List.mem_cons.mpr (Or.inr ?_)
            rw [List.filter_cons, hf]
            exact List.mem_cons_of_mem _ h
      · rename_i hf
        rcases List.mem_cons.mp (sto_mem i v t q h) with h | h
        · exact List.mem_cons.mpr (Or.inl h)
        · refine List.mem_cons.mpr (Or.inr ?_)
          rw [List.filter_cons, hf]
          exact h
theorem sto_has {ls : Array Slot} {nL i : Nat} {v : Value} {l : List (Nat × Value)} (h : lv_has ls nL ((i, v) :: l.filter (fst1 i))) : lv_has ls nL (sto i v l) := ⟨h.1, h.2.1, fun q hq => h.2.2 q (sto_mem i v l q hq)⟩
def rl (v : Value) : Prop := v = .null ∨ ∃ a, v = .ref a
theorem rl_ref (a : Nat) : rl (.ref a) := Or.inr ⟨a, rfl⟩
theorem rl_rf (o : Option Nat) : rl (va_rf o) := by
  cases o with
  | none => exact Or.inl rfl
  | some a => exact Or.inr ⟨a, rfl⟩
section Rows
variable {l : Launch} {G : Gt} {own : String} {cc : ByteArray} {nL : Nat} {ret : Option FieldType} {rm : Room} {E : Et} {k n : Nat} {V : Vt} {pc : Nat} {ll : List (Nat × Value)} {st : List Value} {Q : Option Value → Et → Vt → Prop}
theorem Ev.loc {ll' : List (Nat × Value)} (ks : List Nat) (h : lv_pick ll ks = ll') (kk : Ev l G own cc nL ret rm E k n V pc ll' st Q) : Ev l G own cc nL ret rm E k n V pc ll st Q :=
  fun p e s m args below meth c H locs ls C hR hL hl => kk p e s m args below meth c H locs ls C hR hL (lv_sub hl ks h)
theorem Ev.mono {Q' : Option Value → Et → Vt → Prop} (hq : ∀ r E' V', Q r E' V' → Q' r E' V') (kk : Ev l G own cc nL ret rm E k n V pc ll st Q) : Ev l G own cc nL ret rm E k n V pc ll st Q' := by
  intro p e s m args below meth c H locs ls C hR hL hl T hT X
  obtain ⟨t, a, o, b1, b2, ⟨r, E', V', c1, c2, c3⟩, b4⟩ := kk p e s m args below meth c H locs ls C hR hL hl T hT X
  exact ⟨t, a, o, b1, b2, ⟨r, E', V', c1, hq _ _ _ c2, c3⟩, b4⟩
theorem r_iconst {z : Int} {v : Int32} (hd : decode cc pc = .ok (.iconst z, 1)) (hv : Int32.ofInt z = v) (kk : Ev l G own cc nL ret rm E k n V (pc + 1) ll (.int v :: st) Q) : Ev l G own cc nL ret rm E k n V pc ll st Q := by
  intro p e s m args below meth c H locs ls C hR hL hl
  obtain ⟨hx, hb, hr, hml, ho, hts, hlk, hK⟩ := And.intro True.intro C |>.2
  exact lv_iconst hx hb hd hv (kk p e s m args below meth c H locs ls C hR hL hl)
theorem r_bipush {z : Int} {v : Int32} (hd : decode cc pc = .ok (.bipush z, 2)) (hv : (Int8.ofInt z).toInt32 = v) (kk : Ev l G own cc nL ret rm E k n V (pc + 2) ll (.int v :: st) Q) : Ev l G own cc nL ret rm E k n V pc ll st Q := by
  intro p e s m args below meth c H locs ls C hR hL hl
  obtain ⟨hx, hb, hr, hml, ho, hts, hlk, hK⟩ := And.intro True.intro C |>.2
  exact lv_bipush hx hb hd hv (kk p e s m args below meth c H locs ls C hR hL hl)
theorem r_sipush {z : Int} {v : Int32} (hd : decode cc pc = .ok (.sipush z, 3)) (hv : (Int16.ofInt z).toInt32 = v) (kk : Ev l G own cc nL ret rm E k n V (pc + 3) ll (.int v :: st) Q) : Ev l G own cc nL ret rm E k n V pc ll st Q := by
  intro p e s m args below meth c H locs ls C hR hL hl
  obtain ⟨hx, hb, hr, hml, ho, hts, hlk, hK⟩ := And.intro True.intro C |>.2
  exact lv_sipush hx hb hd hv (kk p e s m args below meth c H locs ls C hR hL hl)
theorem r_lconst {z : Fin 2} {v : Int64} (hd : decode cc pc = .ok (.lconst z, 1)) (hv : Int64.ofNat (z : Nat) = v) (kk : Ev l G own cc nL ret rm E k n V (pc + 1) ll (.long v :: st) Q) : Ev l G own cc nL ret rm E k n V pc ll st Q := by
  intro p e s m args below meth c H locs ls C hR hL hl
  obtain ⟨hx, hb, hr, hml, ho, hts, hlk, hK⟩ := And.intro True.intro C |>.2
  exact lv_lconst hx hb hd hv (kk p e s m args below meth c H locs ls C hR hL hl)
theorem r_ldc {idx : Nat} {v : Int32} (hd : decode cc pc = .ok (.ldc idx, 2)) (hw : Cond.constant own idx v ∈ tb) (kk : Ev l G own cc nL ret rm E k n V (pc + 2) ll (.int v :: st) Q) : Ev l G own cc nL ret rm E k n V pc ll st Q := by
  intro p e s m args below meth c H locs ls C hR hL hl
  obtain ⟨hx, hb, hr, hml, ho, hts, hlk, hK⟩ := And.intro True.intro C |>.2
  exact lv_ldc hx hb ho (hts _ hw) hd (kk p e s m args below meth c H locs ls C hR hL hl)
theorem r_ldc2 {idx : Nat} {v : Int64} (hd : decode cc pc = .ok (.ldc2_w idx, 3)) (hw : Cond.constantLong own idx v ∈ tb) (kk : Ev l G own cc nL ret rm E k n V (pc + 3) ll (.long v :: st) Q) : Ev l G own cc nL ret rm E k n V pc ll st Q := by
  intro p e s m args below meth c H locs ls C hR hL hl
  obtain ⟨hx, hb, hr, hml, ho, hts, hlk, hK⟩ := And.intro True.intro C |>.2
  exact lv_ldc2 hx hb ho (hts _ hw) hd (kk p e s m args below meth c H locs ls C hR hL hl)
theorem r_null  (hd : decode cc pc = .ok (.aconst_null, 1)) (kk : Ev l G own cc nL ret rm E k n V (pc + 1) ll (.null :: st) Q) : Ev l G own cc nL ret rm E k n V pc ll st Q := by
  intro p e s m args below meth c H locs ls C hR hL hl
  obtain ⟨hx, hb, hr, hml, ho, hts, hlk, hK⟩ := And.intro True.intro C |>.2
  exact lv_null hx hb hd (kk p e s m args below meth c H locs ls C hR hL hl)
theorem r_iload_n {j : Fin 4} {x : Int32} (hd : decode cc pc = .ok (.iload_n j, 1)) (hv : lk ll j.val = some (.int x)) (kk : Ev l G own cc nL ret rm E k n V (pc + 1) ll (.int x :: st) Q) : Ev l G own cc nL ret rm E k n V pc ll st Q := by
  intro p e s m args below meth c H locs ls C hR hL hl
  obtain ⟨hx, hb, hr, hml, ho, hts, hlk, hK⟩ := And.intro True.intro C |>.2
  exact lv_iload_n hx hb hd rfl (lk_at hl hv) (kk p e s m args below meth c H locs ls C hR hL hl)
theorem r_iload {j : Nat} {x : Int32} (hd : decode cc pc = .ok (.iload j, 2)) (hv : lk ll j = some (.int x)) (kk : Ev l G own cc nL ret rm E k n V (pc + 2) ll (.int x :: st) Q) : Ev l G own cc nL ret rm E k n V pc ll st Q := by
  intro p e s m args below meth c H locs ls C hR hL hl
  obtain ⟨hx, hb, hr, hml, ho, hts, hlk, hK⟩ := And.intro True.intro C |>.2
  exact lv_iload hx hb hd (lk_at hl hv) (kk p e s m args below meth c H locs ls C hR hL hl)
theorem r_lload_n {j : Fin 4} {x : Int64} (hd : decode cc pc = .ok (.lload_n j, 1)) (hv : lk ll j.val = some (.long x)) (kk : Ev l G own cc nL ret rm E k n V (pc + 1) ll (.long x :: st) Q) : Ev l G own cc nL ret rm E k n V pc ll st Q := by
  intro p e s m args below meth c H locs ls C hR hL hl
  obtain ⟨hx, hb, hr, hml, ho, hts, hlk, hK⟩ := And.intro True.intro C |>.2
  exact lv_lload_n hx hb hd rfl (lk_at hl hv) (kk p e s m args below meth c H locs ls C hR hL hl)
theorem r_aload_n {j : Fin 4} {v : Value} (hd : decode cc pc = .ok (.aload_n j, 1)) (hv : lk ll j.val = some v) (hr : rl v) (kk : Ev l G own cc nL ret rm E k n V (pc + 1) ll (v :: st) Q) : Ev l G own cc nL ret rm E k n V pc ll st Q := by
  intro p e s m args below meth c H locs ls C hR hL hl
  obtain ⟨hx, hb, -, hml, ho, hts, hlk, hK⟩ := And.intro True.intro C |>.2
  rcases hr with rfl | ⟨a, rfl⟩
  · exact lv_aload_nN hx hb hd rfl (lk_at hl hv) (kk p e s m args below meth c H locs ls C hR hL hl)
  · exact lv_aload_n hx hb hd rfl (lk_at hl hv) (kk p e s m args below meth c H locs ls C hR hL hl)
theorem r_aload {j : Nat} {v : Value} (hd : decode cc pc = .ok (.aload j, 2)) (hv : lk ll j = some v) (hr : rl v) (kk : Ev l G own cc nL ret rm E k n V (pc + 2) ll (v :: st) Q) : Ev l G own cc nL ret rm E k n V pc ll st Q := by
  intro p e s m args below meth c H locs ls C hR hL hl
  obtain ⟨hx, hb, -, hml, ho, hts, hlk, hK⟩ := And.intro True.intro C |>.2
  rcases hr with rfl | ⟨a, rfl⟩
  · exact lv_aloadN hx hb hd (lk_at hl hv) (kk p e s m args below meth c H locs ls C hR hL hl)
  · exact lv_aload hx hb hd (lk_at hl hv) (kk p e s m args below meth c H locs ls C hR hL hl)
theorem r_istore_n {j : Fin 4} {x : Int32} (hd : decode cc pc = .ok (.istore_n j, 1)) (hj : j.val < nL) (kk : Ev l G own cc nL ret rm E k n V (pc + 1) (sto j.val (Value.int x) ll) st Q) : Ev l G own cc nL ret rm E k n V pc ll (Value.int x :: st) Q := by
  intro p e s m args below meth c H locs ls C hR hL hl
  obtain ⟨hx, hb, hr, hml, ho, hts, hlk, hK⟩ := And.intro True.intro C |>.2
  exact lv_istore_n (lv' := (j.val, Value.int x) :: ll.filter (fst1 j.val)) hx hb hd rfl hl hj rfl (fun ls' hl' => kk p e s m args below meth c H locs ls' C hR hL (sto_has hl'))
theorem r_istore {j : Nat} {x : Int32} (hd : decode cc pc = .ok (.istore j, 2)) (hj : j < nL) (kk : Ev l G own cc nL ret rm E k n V (pc + 2) (sto j (Value.int x) ll) st Q) : Ev l G own cc nL ret rm E k n V pc ll (Value.int x :: st) Q := by
  intro p e s m args below meth c H locs ls C hR hL hl
  obtain ⟨hx, hb, hr, hml, ho, hts, hlk, hK⟩ := And.intro True.intro C |>.2
  exact lv_istore (lv' := (j, Value.int x) :: ll.filter (fst1 j)) hx hb hd hl hj rfl (fun ls' hl' => kk p e s m args below meth c H locs ls' C hR hL (sto_has hl'))
theorem r_astore_n {j : Fin 4} {v : Value} (hd : decode cc pc = .ok (.astore_n j, 1)) (hj : j.val < nL) (hr : rl v) (kk : Ev l G own cc nL ret rm E k n V (pc + 1) (sto j.val v ll) st Q) : Ev l G own cc nL ret rm E k n V pc ll (v :: st) Q := by
  intro p e s m args below meth c H locs ls C hR hL hl
  obtain ⟨hx, hb, -, hml, ho, hts, hlk, hK⟩ := And.intro True.intro C |>.2
  rcases hr with rfl | ⟨a, rfl⟩
  · exact lv_astore_nN (lv' := (j.val, Value.null) :: ll.filter (fst1 j.val)) hx hb hd rfl hl hj rfl (fun ls' hl' => kk p e s m args below meth c H locs ls' C hR hL (sto_has hl'))
  · exact lv_astore_n (lv' := (j.val, Value.ref a) :: ll.filter (fst1 j.val)) hx hb hd rfl hl hj rfl (fun ls' hl' => kk p e s m args below meth c H locs ls' C hR hL (sto_has hl'))
theorem r_astore {j : Nat} {v : Value} (hd : decode cc pc = .ok (.astore j, 2)) (hj : j < nL) (hr : rl v) (kk : Ev l G own cc nL ret rm E k n V (pc + 2) (sto j v ll) st Q) : Ev l G own cc nL ret rm E k n V pc ll (v :: st) Q := by
  intro p e s m args below meth c H locs ls C hR hL hl
  obtain ⟨hx, hb, -, hml, ho, hts, hlk, hK⟩ := And.intro True.intro C |>.2
  rcases hr with rfl | ⟨a, rfl⟩
  · exact lv_astoreN (lv' := (j, Value.null) :: ll.filter (fst1 j)) hx hb hd hl hj rfl (fun ls' hl' => kk p e s m args below meth c H locs ls' C hR hL (sto_has hl'))
  · exact lv_astore (lv' := (j, Value.ref a) :: ll.filter (fst1 j)) hx hb hd hl hj rfl (fun ls' hl' => kk p e s m args below meth c H locs ls' C hR hL (sto_has hl'))
def fst2 (i : Nat) (q : Nat × Value) : Bool := !(q.1 == i) && (!(q.1 == i + 1) && !(q.1 + 1 == i && q.2.category == 2))
theorem r_lstore_n {j : Fin 4} {x : Int64} (hd : decode cc pc = .ok (.lstore_n j, 1)) (hj : j.val + 1 < nL) (kk : Ev l G own cc nL ret rm E k n V (pc + 1) ((j.val, Value.long x) :: ll.filter (fst2 j.val)) st Q) : Ev l G own cc nL ret rm E k n V pc ll (Value.long x :: st) Q := by
  intro p e s m args below meth c H locs ls C hR hL hl
  obtain ⟨hx, hb, hr, hml, ho, hts, hlk, hK⟩ := And.intro True.intro C |>.2
  exact lv_lstore_n (lv' := (j.val, Value.long x) :: ll.filter (fst2 j.val)) hx hb hd rfl hl hj rfl (fun ls' hl' => kk p e s m args below meth c H locs ls' C hR hL hl')
theorem r_iinc {j : Nat} {z : Int} {x v : Int32} (hd : decode cc pc = .ok (.iinc j z, 3)) (hv : lk ll j = some (.int x)) (hz : Int32.ofInt z = v) (hj : j < nL) (kk : Ev l G own cc nL ret rm E k n V (pc + 3) (sto j (.int (x + v)) ll) st Q) : Ev l G own cc nL ret rm E k n V pc ll st Q := by
  intro p e s m args below meth c H locs ls C hR hL hl
  obtain ⟨hx, hb, hr, hml, ho, hts, hlk, hK⟩ := And.intro True.intro C |>.2
  subst hz
  obtain ⟨kq, hkq⟩ := List.getElem?_of_mem (lk_mem ll hv)
  exact lv_iinc (lv' := (j, Value.int (x + Int32.ofInt z)) :: ll.filter (fst1 j)) hx hb hd hl (k := kq) hkq rfl hj rfl (fun ls' hl' => kk p e s m args below meth c H locs ls' C hR hL (sto_has hl'))
theorem r_iadd {x y : Int32} (hd : decode cc pc = .ok (.iadd, 1)) (kk : Ev l G own cc nL ret rm E k n V (pc + 1) ll (.int (x + y) :: st) Q) : Ev l G own cc nL ret rm E k n V pc ll (.int y :: .int x :: st) Q := by
  intro p e s m args below meth c H locs ls C hR hL hl
  obtain ⟨hx, hb, hr, hml, ho, hts, hlk, hK⟩ := And.intro True.intro C |>.2
  exact lv_iadd hx hb hd (kk p e s m args below meth c H locs ls C hR hL hl)
theorem r_isub {x y : Int32} (hd : decode cc pc = .ok (.isub, 1)) (kk : Ev l G own cc nL ret rm E k n V (pc + 1) ll (.int (x - y) :: st) Q) : Ev l G own cc nL ret rm E k n V pc ll (.int y :: .int x :: st) Q := by
  intro p e s m args below meth c H locs ls C hR hL hl
  obtain ⟨hx, hb, hr, hml, ho, hts, hlk, hK⟩ := And.intro True.intro C |>.2
  exact lv_isub hx hb hd (kk p e s m args below meth c H locs ls C hR hL hl)
theorem r_imul {x y : Int32} (hd : decode cc pc = .ok (.imul, 1)) (kk : Ev l G own cc nL ret rm E k n V (pc + 1) ll (.int (x * y) :: st) Q) : Ev l G own cc nL ret rm E k n V pc ll (.int y :: .int x :: st) Q := by
  intro p e s m args below meth c H locs ls C hR hL hl
  obtain ⟨hx, hb, hr, hml, ho, hts, hlk, hK⟩ := And.intro True.intro C |>.2
  exact lv_imul hx hb hd (kk p e s m args below meth c H locs ls C hR hL hl)
theorem r_iand {x y : Int32} (hd : decode cc pc = .ok (.iand, 1)) (kk : Ev l G own cc nL ret rm E k n V (pc + 1) ll (.int (x &&& y) :: st) Q) : Ev l G own cc nL ret rm E k n V pc ll (.int y :: .int x :: st) Q := by
  intro p e s m args below meth c H locs ls C hR hL hl
  obtain ⟨hx, hb, hr, hml, ho, hts, hlk, hK⟩ := And.intro True.intro C |>.2
  exact lv_iand hx hb hd (kk p e s m args below meth c H locs ls C hR hL hl)
theorem r_ior {x y : Int32} (hd : decode cc pc = .ok (.ior, 1)) (kk : Ev l G own cc nL ret rm E k n V (pc + 1) ll (.int (x ||| y) :: st) Q) : Ev l G own cc nL ret rm E k n V pc ll (.int y :: .int x :: st) Q := by
  intro p e s m args below meth c H locs ls C hR hL hl
  obtain ⟨hx, hb, hr, hml, ho, hts, hlk, hK⟩ := And.intro True.intro C |>.2
  exact lv_ior hx hb hd (kk p e s m args below meth c H locs ls C hR hL hl)
theorem r_ishl {x y : Int32} (hd : decode cc pc = .ok (.ishl, 1)) (kk : Ev l G own cc nL ret rm E k n V (pc + 1) ll (.int (x <<< (y &&& 31)) :: st) Q) : Ev l G own cc nL ret rm E k n V pc ll (.int y :: .int x :: st) Q := by
  intro p e s m args below meth c H locs ls C hR hL hl
  obtain ⟨hx, hb, hr, hml, ho, hts, hlk, hK⟩ := And.intro True.intro C |>.2
  exact lv_ishl hx hb hd (kk p e s m args below meth c H locs ls C hR hL hl)
theorem r_ishr {x y : Int32} (hd : decode cc pc = .ok (.ishr, 1)) (kk : Ev l G own cc nL ret rm E k n V (pc + 1) ll (.int (x >>> (y &&& 31)) :: st) Q) : Ev l G own cc nL ret rm E k n V pc ll (.int y :: .int x :: st) Q := by
  intro p e s m args below meth c H locs ls C hR hL hl
  obtain ⟨hx, hb, hr, hml, ho, hts, hlk, hK⟩ := And.intro True.intro C |>.2
  exact lv_ishr hx hb hd (kk p e s m args below meth c H locs ls C hR hL hl)
theorem r_idiv {x y : Int32} (hd : decode cc pc = .ok (.idiv, 1)) (hne : ¬ y = 0) (kk : Ev l G own cc nL ret rm E k n V (pc + 1) ll (.int (x / y) :: st) Q) : Ev l G own cc nL ret rm E k n V pc ll (.int y :: .int x :: st) Q := by
  intro p e s m args below meth c H locs ls C hR hL hl
  obtain ⟨hx, hb, hr, hml, ho, hts, hlk, hK⟩ := And.intro True.intro C |>.2
  exact lv_idiv hx hb hd hne (kk p e s m args below meth c H locs ls C hR hL hl)
theorem r_irem {x y : Int32} (hd : decode cc pc = .ok (.irem, 1)) (hne : ¬ y = 0) (kk : Ev l G own cc nL ret rm E k n V (pc + 1) ll (.int (x - x / y * y) :: st) Q) : Ev l G own cc nL ret rm E k n V pc ll (.int y :: .int x :: st) Q := by
  intro p e s m args below meth c H locs ls C hR hL hl
  obtain ⟨hx, hb, hr, hml, ho, hts, hlk, hK⟩ := And.intro True.intro C |>.2
  exact lv_irem hx hb hd hne (kk p e s m args below meth c H locs ls C hR hL hl)
theorem r_ineg {x : Int32} (hd : decode cc pc = .ok (.ineg, 1)) (kk : Ev l G own cc nL ret rm E k n V (pc + 1) ll (.int (-x) :: st) Q) : Ev l G own cc nL ret rm E k n V pc ll (.int x :: st) Q := by
  intro p e s m args below meth c H locs ls C hR hL hl
  obtain ⟨hx, hb, hr, hml, ho, hts, hlk, hK⟩ := And.intro True.intro C |>.2
  exact lv_ineg hx hb hd (kk p e s m args below meth c H locs ls C hR hL hl)
theorem r_ladd {x y : Int64} (hd : decode cc pc = .ok (.ladd, 1)) (kk : Ev l G own cc nL ret rm E k n V (pc + 1) ll (.long (x + y) :: st) Q) : Ev l G own cc nL ret rm E k n V pc ll (.long y :: .long x :: st) Q := by
  intro p e s m args below meth c H locs ls C hR hL hl
  obtain ⟨hx, hb, hr, hml, ho, hts, hlk, hK⟩ := And.intro True.intro C |>.2
  exact lv_ladd hx hb hd (kk p e s m args below meth c H locs ls C hR hL hl)
theorem r_lmul {x y : Int64} (hd : decode cc pc = .ok (.lmul, 1)) (kk : Ev l G own cc nL ret rm E k n V (pc + 1) ll (.long (x * y) :: st) Q) : Ev l G own cc nL ret rm E k n V pc ll (.long y :: .long x :: st) Q := by
  intro p e s m args below meth c H locs ls C hR hL hl
  obtain ⟨hx, hb, hr, hml, ho, hts, hlk, hK⟩ := And.intro True.intro C |>.2
  exact lv_lmul hx hb hd (kk p e s m args below meth c H locs ls C hR hL hl)
theorem r_ldiv {x y : Int64} (hd : decode cc pc = .ok (.ldiv, 1)) (hne : ¬ y = 0) (kk : Ev l G own cc nL ret rm E k n V (pc + 1) ll (.long (x / y) :: st) Q) : Ev l G own cc nL ret rm E k n V pc ll (.long y :: .long x :: st) Q := by
  intro p e s m args below meth c H locs ls C hR hL hl
  obtain ⟨hx, hb, hr, hml, ho, hts, hlk, hK⟩ := And.intro True.intro C |>.2
  exact lv_ldiv hx hb hd hne (kk p e s m args below meth c H locs ls C hR hL hl)
theorem r_lcmp {x y : Int64} (hd : decode cc pc = .ok (.lcmp, 1)) (kk : Ev l G own cc nL ret rm E k n V (pc + 1) ll (.int (lg_cmp x y) :: st) Q) : Ev l G own cc nL ret rm E k n V pc ll (.long y :: .long x :: st) Q := by
  intro p e s m args below meth c H locs ls C hR hL hl
  obtain ⟨hx, hb, hr, hml, ho, hts, hlk, hK⟩ := And.intro True.intro C |>.2
  exact W.lcmp hx hb hd (kk p e s m args below meth c H locs ls C hR hL hl)
theorem r_i2l {x : Int32} (hd : decode cc pc = .ok (.i2l, 1)) (kk : Ev l G own cc nL ret rm E k n V (pc + 1) ll (.long x.toInt64 :: st) Q) : Ev l G own cc nL ret rm E k n V pc ll (.int x :: st) Q := by
  intro p e s m args below meth c H locs ls C hR hL hl
  obtain ⟨hx, hb, hr, hml, ho, hts, hlk, hK⟩ := And.intro True.intro C |>.2
  exact lv_i2l hx hb hd rfl (kk p e s m args below meth c H locs ls C hR hL hl)
theorem r_l2i {x : Int64} (hd : decode cc pc = .ok (.l2i, 1)) (kk : Ev l G own cc nL ret rm E k n V (pc + 1) ll (.int x.toInt32 :: st) Q) : Ev l G own cc nL ret rm E k n V pc ll (.long x :: st) Q := by
  intro p e s m args below meth c H locs ls C hR hL hl
  obtain ⟨hx, hb, hr, hml, ho, hts, hlk, hK⟩ := And.intro True.intro C |>.2
  exact lv_l2i hx hb hd rfl (kk p e s m args below meth c H locs ls C hR hL hl)
theorem r_i2b {x : Int32} (hd : decode cc pc = .ok (.i2b, 1)) (kk : Ev l G own cc nL ret rm E k n V (pc + 1) ll (.int x.toInt8.toInt32 :: st) Q) : Ev l G own cc nL ret rm E k n V pc ll (.int x :: st) Q := by
  intro p e s m args below meth c H locs ls C hR hL hl
  obtain ⟨hx, hb, hr, hml, ho, hts, hlk, hK⟩ := And.intro True.intro C |>.2
  exact lv_i2b hx hb hd rfl (kk p e s m args below meth c H locs ls C hR hL hl)
theorem r_i2c {x : Int32} (hd : decode cc pc = .ok (.i2c, 1)) (kk : Ev l G own cc nL ret rm E k n V (pc + 1) ll (.int (x.toUInt32 % 65536).toInt32 :: st) Q) : Ev l G own cc nL ret rm E k n V pc ll (.int x :: st) Q := by
  intro p e s m args below meth c H locs ls C hR hL hl
  obtain ⟨hx, hb, hr, hml, ho, hts, hlk, hK⟩ := And.intro True.intro C |>.2
  exact lv_i2c hx hb hd rfl (kk p e s m args below meth c H locs ls C hR hL hl)
theorem r_iushr {x y : Int32} (hd : decode cc pc = .ok (.iushr, 1)) (kk : Ev l G own cc nL ret rm E k n V (pc + 1) ll (.int (x.toUInt32 >>> (y.toUInt32 &&& Int32.toUInt32 31)).toInt32 :: st) Q) : Ev l G own cc nL ret rm E k n V pc ll (.int y :: .int x :: st) Q := by
  intro p e s m args below meth c H locs ls C hR hL hl
  obtain ⟨hx, hb, hr, hml, ho, hts, hlk, hK⟩ := And.intro True.intro C |>.2
  exact lv_iushr hx hb hd rfl (kk p e s m args below meth c H locs ls C hR hL hl)
theorem r_dup {v : Value} (hd : decode cc pc = .ok (.dup, 1)) (hc : v.category = 1) (kk : Ev l G own cc nL ret rm E k n V (pc + 1) ll (v :: v :: st) Q) : Ev l G own cc nL ret rm E k n V pc ll (v :: st) Q := by
  intro p e s m args below meth c H locs ls C hR hL hl
  obtain ⟨hx, hb, hr, hml, ho, hts, hlk, hK⟩ := And.intro True.intro C |>.2
  exact lv_dup hx hb hd hc (kk p e s m args below meth c H locs ls C hR hL hl)
theorem r_pop {v : Value} (hd : decode cc pc = .ok (.pop, 1)) (hc : v.category = 1) (kk : Ev l G own cc nL ret rm E k n V (pc + 1) ll st Q) : Ev l G own cc nL ret rm E k n V pc ll (v :: st) Q := by
  intro p e s m args below meth c H locs ls C hR hL hl
  obtain ⟨hx, hb, hr, hml, ho, hts, hlk, hK⟩ := And.intro True.intro C |>.2
  exact lv_pop hx hb hd hc (kk p e s m args below meth c H locs ls C hR hL hl)
theorem r_dup_x1 {v w : Value} (hd : decode cc pc = .ok (.dup_x1, 1)) (hc : v.category = 1) (hc2 : w.category = 1) (kk : Ev l G own cc nL ret rm E k n V (pc + 1) ll (v :: w :: v :: st) Q) : Ev l G own cc nL ret rm E k n V pc ll (v :: w :: st) Q := by
  intro p e s m args below meth c H locs ls C hR hL hl
  obtain ⟨hx, hb, hr, hml, ho, hts, hlk, hK⟩ := And.intro True.intro C |>.2
  exact lv_dup_x1 hx hb hd hc hc2 (kk p e s m args below meth c H locs ls C hR hL hl)
theorem r_dup2 {v w : Value} (hd : decode cc pc = .ok (.dup2, 1)) (hc : v.category = 1) (hc2 : w.category = 1) (kk : Ev l G own cc nL ret rm E k n V (pc + 1) ll (v :: w :: v :: w :: st) Q) : Ev l G own cc nL ret rm E k n V pc ll (v :: w :: st) Q := by
  intro p e s m args below meth c H locs ls C hR hL hl
  obtain ⟨hx, hb, hr, hml, ho, hts, hlk, hK⟩ := And.intro True.intro C |>.2
  exact lv_dup2_11 hx hb hd hc hc2 (kk p e s m args below meth c H locs ls C hR hL hl)
theorem r_if_eq {x : Int32} {off : Int} (tgt : Nat) (hd : decode cc pc = .ok (.ifCond .eq off, 3)) (ht : (pc : Int) + off = (tgt : Int)) (kt : x = 0 → Ev l G own cc nL ret rm E k n V tgt ll st Q) (kf : ¬ x = 0 → Ev l G own cc nL ret rm E k n V (pc + 3) ll st Q) : Ev l G own cc nL ret rm E k n V pc ll (.int x :: st) Q := by
  intro p e s m args below meth c H locs ls C hR hL hl
  obtain ⟨hx, hb, hr, hml, ho, hts, hlk, hK⟩ := And.intro True.intro C |>.2
  exact lv_if_eq hx hb hd ht (fun q => kt q p e s m args below meth c H locs ls C hR hL hl) (fun q => kf q p e s m args below meth c H locs ls C hR hL hl)
theorem r_icmp_eq {x y : Int32} {off : Int} (tgt : Nat) (hd : decode cc pc = .ok (.if_icmp .eq off, 3)) (ht : (pc : Int) + off = (tgt : Int)) (kt : x = y → Ev l G own cc nL ret rm E k n V tgt ll st Q) (kf : ¬ x = y → Ev l G own cc nL ret rm E k n V (pc + 3) ll st Q) : Ev l G own cc nL ret rm E k n V pc ll (.int y :: .int x :: st) Q := by
  intro p e s m args below meth c H locs ls C hR hL hl
  obtain ⟨hx, hb, hr, hml, ho, hts, hlk, hK⟩ := And.intro True.intro C |>.2
  exact lv_icmp_eq hx hb hd ht (fun q => kt q p e s m args below meth c H locs ls C hR hL hl) (fun q => kf q p e s m args below meth c H locs ls C hR hL hl)
theorem r_if_ne {x : Int32} {off : Int} (tgt : Nat) (hd : decode cc pc = .ok (.ifCond .ne off, 3)) (ht : (pc : Int) + off = (tgt : Int)) (kt : ¬ x = 0 → Ev l G own cc nL ret rm E k n V tgt ll st Q) (kf : x = 0 → Ev l G own cc nL ret rm E k n V (pc + 3) ll st Q) : Ev l G own cc nL ret rm E k n V pc ll (.int x :: st) Q := by
  intro p e s m args below meth c H locs ls C hR hL hl
  obtain ⟨hx, hb, hr, hml, ho, hts, hlk, hK⟩ := And.intro True.intro C |>.2
  exact lv_if_ne hx hb hd ht (fun q => kt q p e s m args below meth c H locs ls C hR hL hl) (fun q => kf q p e s m args below meth c H locs ls C hR hL hl)
theorem r_icmp_ne {x y : Int32} {off : Int} (tgt : Nat) (hd : decode cc pc = .ok (.if_icmp .ne off, 3)) (ht : (pc : Int) + off = (tgt : Int)) (kt : ¬ x = y → Ev l G own cc nL ret rm E k n V tgt ll st Q) (kf : x = y → Ev l G own cc nL ret rm E k n V (pc + 3) ll st Q) : Ev l G own cc nL ret rm E k n V pc ll (.int y :: .int x :: st) Q := by
  intro p e s m args below meth c H locs ls C hR hL hl
  obtain ⟨hx, hb, hr, hml, ho, hts, hlk, hK⟩ := And.intro True.intro C |>.2
  exact lv_icmp_ne hx hb hd ht (fun q => kt q p e s m args below meth c H locs ls C hR hL hl) (fun q => kf q p e s m args below meth c H locs ls C hR hL hl)
theorem r_if_lt {x : Int32} {off : Int} (tgt : Nat) (hd : decode cc pc = .ok (.ifCond .lt off, 3)) (ht : (pc : Int) + off = (tgt : Int)) (kt : x < 0 → Ev l G own cc nL ret rm E k n V tgt ll st Q) (kf : ¬ x < 0 → Ev l G own cc nL ret rm E k n V (pc + 3) ll st Q) : Ev l G own cc nL ret rm E k n V pc ll (.int x :: st) Q := by
  intro p e s m args below meth c H locs ls C hR hL hl
  obtain ⟨hx, hb, hr, hml, ho, hts, hlk, hK⟩ := And.intro True.intro C |>.2
  exact lv_if_lt hx hb hd ht (fun q => kt q p e s m args below meth c H locs ls C hR hL hl) (fun q => kf q p e s m args below meth c H locs ls C hR hL hl)
theorem r_icmp_lt {x y : Int32} {off : Int} (tgt : Nat) (hd : decode cc pc = .ok (.if_icmp .lt off, 3)) (ht : (pc : Int) + off = (tgt : Int)) (kt : x < y → Ev l G own cc nL ret rm E k n V tgt ll st Q) (kf : ¬ x < y → Ev l G own cc nL ret rm E k n V (pc + 3) ll st Q) : Ev l G own cc nL ret rm E k n V pc ll (.int y :: .int x :: st) Q := by
  intro p e s m args below meth c H locs ls C hR hL hl
  obtain ⟨hx, hb, hr, hml, ho, hts, hlk, hK⟩ := And.intro True.intro C |>.2
  exact lv_icmp_lt hx hb hd ht (fun q => kt q p e s m args below meth c H locs ls C hR hL hl) (fun q => kf q p e s m args below meth c H locs ls C hR hL hl)
theorem r_if_ge {x : Int32} {off : Int} (tgt : Nat) (hd : decode cc pc = .ok (.ifCond .ge off, 3)) (ht : (pc : Int) + off = (tgt : Int)) (kt : 0 ≤ x → Ev l G own cc nL ret rm E k n V tgt ll st Q) (kf : ¬ 0 ≤ x → Ev l G own cc nL ret rm E k n V (pc + 3) ll st Q) : Ev l G own cc nL ret rm E k n V pc ll (.int x :: st) Q := by
  intro p e s m args below meth c H locs ls C hR hL hl
  obtain ⟨hx, hb, hr, hml, ho, hts, hlk, hK⟩ := And.intro True.intro C |>.2
  exact lv_if_ge hx hb hd ht (fun q => kt q p e s m args below meth c H locs ls C hR hL hl) (fun q => kf q p e s m args below meth c H locs ls C hR hL hl)
theorem r_icmp_ge {x y : Int32} {off : Int} (tgt : Nat) (hd : decode cc pc = .ok (.if_icmp .ge off, 3)) (ht : (pc : Int) + off = (tgt : Int)) (kt : y ≤ x → Ev l G own cc nL ret rm E k n V tgt ll st Q) (kf : ¬ y ≤ x → Ev l G own cc nL ret rm E k n V (pc + 3) ll st Q) : Ev l G own cc nL ret rm E k n V pc ll (.int y :: .int x :: st) Q := by
  intro p e s m args below meth c H locs ls C hR hL hl
  obtain ⟨hx, hb, hr, hml, ho, hts, hlk, hK⟩ := And.intro True.intro C |>.2
  exact lv_icmp_ge hx hb hd ht (fun q => kt q p e s m args below meth c H locs ls C hR hL hl) (fun q => kf q p e s m args below meth c H locs ls C hR hL hl)
theorem r_if_gt {x : Int32} {off : Int} (tgt : Nat) (hd : decode cc pc = .ok (.ifCond .gt off, 3)) (ht : (pc : Int) + off = (tgt : Int)) (kt : 0 < x → Ev l G own cc nL ret rm E k n V tgt ll st Q) (kf : ¬ 0 < x → Ev l G own cc nL ret rm E k n V (pc + 3) ll st Q) : Ev l G own cc nL ret rm E k n V pc ll (.int x :: st) Q := by
  intro p e s m args below meth c H locs ls C hR hL hl
  obtain ⟨hx, hb, hr, hml, ho, hts, hlk, hK⟩ := And.intro True.intro C |>.2
  exact lv_if_gt hx hb hd ht (fun q => kt q p e s m args below meth c H locs ls C hR hL hl) (fun q => kf q p e s m args below meth c H locs ls C hR hL hl)
theorem r_icmp_gt {x y : Int32} {off : Int} (tgt : Nat) (hd : decode cc pc = .ok (.if_icmp .gt off, 3)) (ht : (pc : Int) + off = (tgt : Int)) (kt : y < x → Ev l G own cc nL ret rm E k n V tgt ll st Q) (kf : ¬ y < x → Ev l G own cc nL ret rm E k n V (pc + 3) ll st Q) : Ev l G own cc nL ret rm E k n V pc ll (.int y :: .int x :: st) Q := by
  intro p e s m args below meth c H locs ls C hR hL hl
  obtain ⟨hx, hb, hr, hml, ho, hts, hlk, hK⟩ := And.intro True.intro C |>.2
  exact lv_icmp_gt hx hb hd ht (fun q => kt q p e s m args below meth c H locs ls C hR hL hl) (fun q => kf q p e s m args below meth c H locs ls C hR hL hl)
theorem r_if_le {x : Int32} {off : Int} (tgt : Nat) (hd : decode cc pc = .ok (.ifCond .le off, 3)) (ht : (pc : Int) + off = (tgt : Int)) (kt : x ≤ 0 → Ev l G own cc nL ret rm E k n V tgt ll st Q) (kf : ¬ x ≤ 0 → Ev l G own cc nL ret rm E k n V (pc + 3) ll st Q) : Ev l G own cc nL ret rm E k n V pc ll (.int x :: st) Q := by
  intro p e s m args below meth c H locs ls C hR hL hl
  obtain ⟨hx, hb, hr, hml, ho, hts, hlk, hK⟩ := And.intro True.intro C |>.2
  exact lv_if_le hx hb hd ht (fun q => kt q p e s m args below meth c H locs ls C hR hL hl) (fun q => kf q p e s m args below meth c H locs ls C hR hL hl)
theorem r_icmp_le {x y : Int32} {off : Int} (tgt : Nat) (hd : decode cc pc = .ok (.if_icmp .le off, 3)) (ht : (pc : Int) + off = (tgt : Int)) (kt : x ≤ y → Ev l G own cc nL ret rm E k n V tgt ll st Q) (kf : ¬ x ≤ y → Ev l G own cc nL ret rm E k n V (pc + 3) ll st Q) : Ev l G own cc nL ret rm E k n V pc ll (.int y :: .int x :: st) Q := by
  intro p e s m args below meth c H locs ls C hR hL hl
  obtain ⟨hx, hb, hr, hml, ho, hts, hlk, hK⟩ := And.intro True.intro C |>.2
  exact lv_icmp_le hx hb hd ht (fun q => kt q p e s m args below meth c H locs ls C hR hL hl) (fun q => kf q p e s m args below meth c H locs ls C hR hL hl)
theorem r_goto {off : Int} (tgt : Nat) (hd : decode cc pc = .ok (.goto off, 3)) (ht : (pc : Int) + off = (tgt : Int)) (kk : Ev l G own cc nL ret rm E k n V tgt ll st Q) : Ev l G own cc nL ret rm E k n V pc ll st Q := by
  intro p e s m args below meth c H locs ls C hR hL hl
  obtain ⟨hx, hb, hr, hml, ho, hts, hlk, hK⟩ := And.intro True.intro C |>.2
  exact lv_goto hx hb hd ht (kk p e s m args below meth c H locs ls C hR hL hl)
theorem r_ifnull {off : Int} {o : Option Nat} (tgt : Nat) (hd : decode cc pc = .ok (.ifnull off, 3)) (ht : (pc : Int) + off = (tgt : Int)) (kt : o = none → Ev l G own cc nL ret rm E k n V tgt ll st Q) (kf : ∀ a, o = some a → Ev l G own cc nL ret rm E k n V (pc + 3) ll st Q) : Ev l G own cc nL ret rm E k n V pc ll (va_rf o :: st) Q := by
  intro p e s m args below meth c H locs ls C hR hL hl
  obtain ⟨hx, hb, hr, hml, ho, hts, hlk, hK⟩ := And.intro True.intro C |>.2
  cases o with
  | none => exact lv_ifnullN hx hb hd ht (kt rfl p e s m args below meth c H locs ls C hR hL hl)
  | some a => exact lv_ifnull hx hb hd (kf a rfl p e s m args below meth c H locs ls C hR hL hl)
theorem r_ifnonnull {off : Int} {o : Option Nat} (tgt : Nat) (hd : decode cc pc = .ok (.ifnonnull off, 3)) (ht : (pc : Int) + off = (tgt : Int)) (kt : ∀ a, o = some a → Ev l G own cc nL ret rm E k n V tgt ll st Q) (kf : o = none → Ev l G own cc nL ret rm E k n V (pc + 3) ll st Q) : Ev l G own cc nL ret rm E k n V pc ll (va_rf o :: st) Q := by
  intro p e s m args below meth c H locs ls C hR hL hl
  obtain ⟨hx, hb, hr, hml, ho, hts, hlk, hK⟩ := And.intro True.intro C |>.2
  cases o with
  | none => exact lv_ifnonnullN hx hb hd (kf rfl p e s m args below meth c H locs ls C hR hL hl)
  | some a => exact lv_ifnonnull hx hb hd ht (kt a rfl p e s m args below meth c H locs ls C hR hL hl)
theorem r_tIn {dflt lo hi : Int} {offs : Array Int} {len : Nat} {x xv : Int32} {off : Int} (tgt : Nat) (hd : decode cc pc = .ok (.tableswitch dflt lo hi offs, len)) (he : x = xv) (h1 : ¬ xv.toInt < lo) (h2 : ¬ hi < xv.toInt) (hof : offs[(xv.toInt - lo).toNat]? = some off) (ht : (pc : Int) + off = (tgt : Int)) (kk : Ev l G own cc nL ret rm E k n V tgt ll st Q) : Ev l G own cc nL ret rm E k n V pc ll (.int x :: st) Q := by
  intro p e s m args below meth c H locs ls C hR hL hl
  obtain ⟨hx, hb, hr, hml, ho, hts, hlk, hK⟩ := And.intro True.intro C |>.2
  subst he
  exact lv_tableIn hx hb hd h1 h2 hof ht (kk p e s m args below meth c H locs ls C hR hL hl)
theorem r_tOut {dflt lo hi : Int} {offs : Array Int} {len : Nat} {x : Int32} (tgt : Nat) (hd : decode cc pc = .ok (.tableswitch dflt lo hi offs, len)) (h : x.toInt < lo ∨ hi < x.toInt) (ht : (pc : Int) + dflt = (tgt : Int)) (kk : Ev l G own cc nL ret rm E k n V tgt ll st Q) : Ev l G own cc nL ret rm E k n V pc ll (.int x :: st) Q := by
  intro p e s m args below meth c H locs ls C hR hL hl
  obtain ⟨hx, hb, hr, hml, ho, hts, hlk, hK⟩ := And.intro True.intro C |>.2
  exact lv_tableOut hx hb hd h ht (kk p e s m args below meth c H locs ls C hR hL hl)
theorem r_look {dflt : Int} {ps : Array (Int × Int)} {len : Nat} {x : Int32} {off : Int} (tgt : Nat) (hd : decode cc pc = .ok (.lookupswitch dflt ps, len)) (hp : (ps.toList.zip (ps.toList.drop 1)).all (fun (a, next) => a.1 < next.1) = true) (hof : Op.lookupswitch.offset ps.toList dflt x.toInt = off) (ht : (pc : Int) + off = (tgt : Int)) (kk : Ev l G own cc nL ret rm E k n V tgt ll st Q) : Ev l G own cc nL ret rm E k n V pc ll (.int x :: st) Q := by
  intro p e s m args below meth c H locs ls C hR hL hl
  obtain ⟨hx, hb, hr, hml, ho, hts, hlk, hK⟩ := And.intro True.intro C |>.2
  exact lv_lookup hx hb hd hp hof ht (kk p e s m args below meth c H locs ls C hR hL hl)
/-- the pool's entry idx of own is field k of class c -/
def FL (own : String) (idx c k : Nat) : Prop := ∃ (q : vw_C), cls[c]? = some q ∧ k < q.2.2 ∧ Cond.fieldLink own idx (q.2.1 k).1 (q.2.1 k).2.1 (q.2.1 k).2.2.1 ∈ tb ∧ ∀ w ∈ u_ws q.1 q.2.1 q.2.2, w ∈ tb
/-- .. and may be written, as a value of type ty -/
def FP (own : String) (idx c k : Nat) (ty : FieldType) : Prop := ∃ (q : vw_C) (ty0 : Nat → FieldType), cls[c]? = some q ∧ k < q.2.2 ∧ Cond.fieldLink own idx (q.2.1 k).1 (q.2.1 k).2.1 (q.2.1 k).2.2.1 ∈ tb ∧ (∀ w ∈ u_ws q.1 q.2.1 q.2.2, w ∈ tb) ∧ (q.2.1 k).2.2.2 = false ∧ parseFieldDescriptor (q.2.1 k).2.2.1 = some ty ∧ (∀ j, j < q.2.2 → parseFieldDescriptor (q.2.1 j).2.2.1 = some (ty0 j)) ∧ ∀ a, a < q.2.2 → ∀ b, b < q.2.2 → a ≠ b → (q.2.1 a).2.1 ≠ (q.2.1 b).2.1
theorem RepH.ob {H : Heap} {c i : Nat} (h : RepH G E V H) (hc : c < 100) (hl : eL E c i) : va_at (gD G) cls (eA E c i, .inr (c, obF E V c i)) H := by
  have h1 := (h.2.1 c i (by unfold Lv; rw [if_pos hc]; exact hl)).2
  unfold cellOf at h1
  rw [if_pos hc] at h1
  exact h1
theorem r_get {idx ci i kf : Nat} {v : Value} (hd : decode cc pc = .ok (.getfield idx, 3)) (hf : FL own idx ci kf) (hlv : eL E ci i) (hv : (obF E V ci i)[kf]? = some v) (kk : Ev l G own cc nL ret rm E k n V (pc + 3) ll (v :: st) Q) : Ev l G own cc nL ret rm E k n V pc ll (.ref (eA E ci i) :: st) Q := by
  intro p e s m args below meth c H locs ls C hR hL hl
  obtain ⟨hx, hb, hr, hml, ho, hts, hlk, hK⟩ := And.intro True.intro C |>.2
  obtain ⟨q, hq, hkq, hlink, hin⟩ := hf
  have hc : ci < 100 := Nat.lt_of_lt_of_le (List.getElem?_eq_some_iff.mp hq).1 (by decide)
  have hP : va_P (gD G) cls [(eA E ci i, .inr (ci, obF E V ci i))] H := fun j x hj => by
    cases j with
    | zero => cases hj; exact hR.ob hc hlv
    | succ j => simp at hj
  exact va_get (D := gD G) (cl := cls) (ci := ci) (C := q.1) (T := q.2.1) (N := q.2.2) (ref := (q.2.1 kf).1) hx hb hts hin ho hK.1 hP 0 rfl hq kf hkq (hts _ hlink) (fun _ h9 => h9) hv hd (kk p e s m args below meth c H locs ls C hR hL hl)
theorem r_put {idx ci i kf : Nat} {x : Int32} {ty : FieldType} (hd : decode cc pc = .ok (.putfield idx, 3)) (hf : FP own idx ci kf ty) (h0 : (fkl ci)[kf]? = some 0) (hlv : eL E ci i) (hn : narrow ty (.int x) = .int x) (hfit : fits ty (.int x) = true) (kk : Ev l G own cc nL ret rm E k n (up3 V (100 * (ci + 1) + kf) i 0 x) (pc + 3) ll st Q) : Ev l G own cc nL ret rm E k n V pc ll (.int x :: .ref (eA E ci i) :: st) Q := by
  intro p e s m args below meth c H locs ls C hR hL hl
  obtain ⟨hx, hb, hr, hml, ho, hts, hlk, hK⟩ := And.intro True.intro C |>.2
  obtain ⟨q, ty0, hq, hkq, hlink, hin, hfin, hty, hty0, hnm⟩ := hf
  have hc : ci < 100 := Nat.lt_of_lt_of_le (List.getElem?_eq_some_iff.mp hq).1 (by decide)
  have hob := hR.ob hc hlv
  have hap := va_apart (own := own) hts hin ty0 hty0 hnm hK.1 hq
  obtain ⟨r, h1, cell, q1, q2, q3, q4⟩ := hob
  have hr1 : r = q := Option.some.inj (h1.symm.trans hq)
  subst hr1
  obtain ⟨hS, hfc, kC, hkC, hkind⟩ := hK.1.1 ci _ hq
  obtain ⟨cf, kff, fi, f, hi, hsl⟩ := hS kf hkq
  have hlay := hts _ (hin _ (u_in_lay hkq))
  unfold u_lay at hlay
  rw [if_neg (by rw [hfin]; decide)] at hlay
  have hst := (u_facts hfc hkC (u_lays hts hin hkq) hi).1
  have h6 := u_store hfc hkC hkind hlay hi hty hn hfit
  have hLv : Lv E ci i := by unfold Lv; rw [if_pos hc]; exact hlv
  have hkl : kf < (obF E V ci i).length := by
    have : (obF E V ci i)[kf]? = some (fval E V ci i kf 0) := by rw [obF_get, h0]; rfl
    exact (List.getElem?_eq_some_iff.mp this).1
  refine W.putK hx hb (f := f) ⟨ho, hts _ hlink, ⟨_, _, _, hi⟩, hst⟩ (by rw [q2]; exact h6) q1 q3 (by rw [hsl]; exact k2_hasslot (q4 kf hkq)) rfl rfl hd fun H' e1 e2 e3 => ?_
  rw [hsl] at e1 ⊢
  refine kk p e s m args below meth c H' _ ls C (hR.wr hLv e2 e3 ?_ ?_) ?_ hl
  · unfold cellOf
    rw [if_pos hc, obF_put h0]
    exact ⟨_, hq, t_OB.to (V := updV (vp_V (obF E V ci i)) kf (.int x)) ⟨_, e1, q2, q3, t_set q4 hap hkq (.int x)⟩ (fun j _ => vp_updV_set hkl (.int x) j)⟩
  · intro id' i' hne
    unfold cellOf
    split
    · rw [obF_other h0 hne]
    · rename_i hid
      by_cases hf2 : id' = 100 * (ci + 1) + kf ∧ i' = i
      · obtain ⟨rfl, rfl⟩ := hf2
        rw [kdo_at h0]
        rfl
      · exact arC_other hf2 _
  · intro z hz
    rcases List.mem_append.mp hz with h | h
    · exact hL z h
    · rw [List.mem_singleton.mp h]
      exact (hR.2.1 ci i hLv).1
theorem RepH.ar {H : Heap} {id i : Nat} (h : RepH G E V H) (hk : 1 ≤ kdo id ∧ kdo id ≤ 6) (hid : 100 ≤ id) (hl : eL E (id / 100 - 1) i) : va_at (gD G) cls (eA E id i, arC G E V id i (kdo id)) H := by
  have h1 := (h.2.1 id i (by unfold Lv; rw [if_neg (by omega)]; exact ⟨hk.1, hk.2, hl⟩)).2
  unfold cellOf at h1
  rw [if_neg (by omega)] at h1
  exact h1
theorem Lv_ar {id i : Nat} (hk : 1 ≤ kdo id ∧ kdo id ≤ 6) (hid : 100 ≤ id) (hl : eL E (id / 100 - 1) i) : Lv E id i := by
  unfold Lv
  rw [if_neg (by omega)]
  exact ⟨hk.1, hk.2, hl⟩
theorem RepH.wrA {H H1 : Heap} {id i j : Nat} {x : Int32} {kd t : Nat} (h : RepH G E V H) (hkd : kdo id = kd) (h3 : kd = t + 1) (ht : t ≤ 2) (hid : 100 ≤ id) (hl : eL E (id / 100 - 1) i) (hz : H1.size = H.size) (ho : ∀ q, q ≠ eA E id i → H1[q]? = H[q]?) (hs : H1[eA E id i]? = some (vp_cell (gT G t) (eN E id i, .inl (upd (V id i) j x)))) : RepH G E (up3 V id i j x) H1 := by
  have hk : 1 ≤ kdo id ∧ kdo id ≤ 6 := by omega
  refine h.wr (Lv_ar hk hid hl) hz ho ?_ ?_
  · unfold cellOf
    rw [if_neg (by omega), hkd, h3]
    have e : t = 0 ∨ t = 1 ∨ t = 2 := by omega
    rcases e with rfl | rfl | rfl <;> (show H1[eA E id i]? = some (vp_cell _ (eN E id i, .inl (up3 V id i j x id i))); rw [up3_row]; exact hs)
  · intro id' i' hne
    unfold cellOf
    split
    · rw [obF_row (by omega)]
    · exact arC_other hne _
theorem r_iald {id i : Nat} {x : Int32} (hd : decode cc pc = .ok (.iaload, 1)) (hkd : kdo id = 1) (hid : 100 ≤ id) (hlv : eL E (id / 100 - 1) i) (hin : vp_in x (eN E id i)) (kk : Ev l G own cc nL ret rm E k n V (pc + 1) ll (.int (V id i x.toNatClampNeg) :: st) Q) : Ev l G own cc nL ret rm E k n V pc ll (.int x :: .ref (eA E id i) :: st) Q := by
  intro p e s m args below meth c H locs ls C hR hL hl
  obtain ⟨hx, hb, hr, hml, ho, hts, hlk, hK⟩ := And.intro True.intro C |>.2
  have hP : va_P (gD G) cls [(eA E id i, .inl (gT G 0, eN E id i, .inl (V id i)))] H := fun j x hj => by
    cases j with
    | zero =>
      cases hj
      have h1 := hR.ar (by omega) hid hlv
      rw [hkd] at h1
      exact h1
    | succ j => simp at hj
  exact va_iald (D := gD G) (cl := cls) hx hb hK.1 hP 0 0 rfl rfl hin hd (kk p e s m args below meth c H locs ls C hR hL hl)
theorem r_bald {id i : Nat} {x : Int32} (hd : decode cc pc = .ok (.baload, 1)) (hkd : kdo id = 2) (hid : 100 ≤ id) (hlv : eL E (id / 100 - 1) i) (hin : vp_in x (eN E id i)) (kk : Ev l G own cc nL ret rm E k n V (pc + 1) ll (.int (V id i x.toNatClampNeg) :: st) Q) : Ev l G own cc nL ret rm E k n V pc ll (.int x :: .ref (eA E id i) :: st) Q := by
  intro p e s m args below meth c H locs ls C hR hL hl
  obtain ⟨hx, hb, hr, hml, ho, hts, hlk, hK⟩ := And.intro True.intro C |>.2
  have hP : va_P (gD G) cls [(eA E id i, .inl (gT G 1, eN E id i, .inl (V id i)))] H := fun j x hj => by
    cases j with
    | zero =>
      cases hj
      have h1 := hR.ar (by omega) hid hlv
      rw [hkd] at h1
      exact h1
    | succ j => simp at hj
  exact va_bald (D := gD G) (cl := cls) hx hb hK.1 hP 0 1 rfl rfl hin hd (kk p e s m args below meth c H locs ls C hR hL hl)
theorem r_zald {id i : Nat} {x : Int32} (hd : decode cc pc = .ok (.baload, 1)) (hkd : kdo id = 3) (hid : 100 ≤ id) (hlv : eL E (id / 100 - 1) i) (hin : vp_in x (eN E id i)) (kk : Ev l G own cc nL ret rm E k n V (pc + 1) ll (.int (V id i x.toNatClampNeg) :: st) Q) : Ev l G own cc nL ret rm E k n V pc ll (.int x :: .ref (eA E id i) :: st) Q := by
  intro p e s m args below meth c H locs ls C hR hL hl
  obtain ⟨hx, hb, hr, hml, ho, hts, hlk, hK⟩ := And.intro True.intro C |>.2
  have hP : va_P (gD G) cls [(eA E id i, .inl (gT G 2, eN E id i, .inl (V id i)))] H := fun j x hj => by
    cases j with
    | zero =>
      cases hj
      have h1 := hR.ar (by omega) hid hlv
      rw [hkd] at h1
      exact h1
    | succ j => simp at hj
  exact va_zald (D := gD G) (cl := cls) hx hb hK.1 hP 0 2 rfl rfl hin hd (kk p e s m args below meth c H locs ls C hR hL hl)
theorem r_iast {id i : Nat} {x y : Int32} (hd : decode cc pc = .ok (.iastore, 1)) (hkd : kdo id = 1) (hid : 100 ≤ id) (hlv : eL E (id / 100 - 1) i) (hin : vp_in y (eN E id i)) (kk : Ev l G own cc nL ret rm E k n (up3 V id i y.toNatClampNeg (x)) (pc + 1) ll st Q) : Ev l G own cc nL ret rm E k n V pc ll (.int x :: .int y :: .ref (eA E id i) :: st) Q := by
  intro p e s m args below meth c H locs ls C hR hL hl
  obtain ⟨hx, hb, hr, hml, ho, hts, hlk, hK⟩ := And.intro True.intro C |>.2
  have h1 := hR.ar (by omega) hid hlv
  rw [hkd] at h1
  have h2 : H[eA E id i]? = some (vp_cell (gT G 0) (eN E id i, .inl (V id i))) := h1
  refine W.iast hx hb h2 ((hK.1.2 0 _ rfl).1 (eN E id i) (fun j => .int (V id i j))) (fun q => by cases q) (by show ¬ (y < 0 ∨ (arrV _ _ _).slots.size ≤ _); rw [arrV_size]; exact hin) rfl rfl hd fun H1 e9 z oq => ?_
  refine kk p e s m args below meth c H1 _ ls C (hR.wrA hkd rfl (by omega) hid hlv z oq ?_) ?_ hl
  · rw [e9, vp_cell_i, vp_cell_i, arrV_store]
    congr 2
    funext q
    by_cases hq : q = y.toNatClampNeg
    · subst hq
      simp [updV, upd]
    · simp [updV, upd, hq]
  · intro z hz
    rcases List.mem_append.mp hz with h | h
    · exact hL z h
    · rw [List.mem_singleton.mp h]
      exact (hR.2.1 id i (Lv_ar (by omega) hid hlv)).1
theorem r_bast {id i : Nat} {x y : Int32} (hd : decode cc pc = .ok (.bastore, 1)) (hkd : kdo id = 2) (hid : 100 ≤ id) (hlv : eL E (id / 100 - 1) i) (hin : vp_in y (eN E id i)) (kk : Ev l G own cc nL ret rm E k n (up3 V id i y.toNatClampNeg (vp_nar .byte x)) (pc + 1) ll st Q) : Ev l G own cc nL ret rm E k n V pc ll (.int x :: .int y :: .ref (eA E id i) :: st) Q := by
  intro p e s m args below meth c H locs ls C hR hL hl
  obtain ⟨hx, hb, hr, hml, ho, hts, hlk, hK⟩ := And.intro True.intro C |>.2
  have h1 := hR.ar (by omega) hid hlv
  rw [hkd] at h1
  have h2 : H[eA E id i]? = some (vp_cell (gT G 1) (eN E id i, .inl (V id i))) := h1
  refine W.bast hx hb h2 ((hK.1.2 1 _ rfl).1 (eN E id i) (fun j => .int (V id i j))) (fun q => by cases q) (by show ¬ (y < 0 ∨ (arrV _ _ _).slots.size ≤ _); rw [arrV_size]; exact hin) rfl rfl hd fun H1 e9 z oq => ?_
  refine kk p e s m args below meth c H1 _ ls C (hR.wrA hkd rfl (by omega) hid hlv z oq ?_) ?_ hl
  · rw [e9, vp_cell_i, vp_cell_i, arrV_store]
    congr 2
    funext q
    by_cases hq : q = y.toNatClampNeg
    · subst hq
      simp [updV, upd, vp_nar, narrow]
    · simp [updV, upd, hq]
  · intro z hz
    rcases List.mem_append.mp hz with h | h
    · exact hL z h
    · rw [List.mem_singleton.mp h]
      exact (hR.2.1 id i (Lv_ar (by omega) hid hlv)).1
theorem r_zast {id i : Nat} {x y : Int32} (hd : decode cc pc = .ok (.bastore, 1)) (hkd : kdo id = 3) (hid : 100 ≤ id) (hlv : eL E (id / 100 - 1) i) (hin : vp_in y (eN E id i)) (kk : Ev l G own cc nL ret rm E k n (up3 V id i y.toNatClampNeg (vp_nar .boolean x)) (pc + 1) ll st Q) : Ev l G own cc nL ret rm E k n V pc ll (.int x :: .int y :: .ref (eA E id i) :: st) Q := by
  intro p e s m args below meth c H locs ls C hR hL hl
  obtain ⟨hx, hb, hr, hml, ho, hts, hlk, hK⟩ := And.intro True.intro C |>.2
  have h1 := hR.ar (by omega) hid hlv
  rw [hkd] at h1
  have h2 : H[eA E id i]? = some (vp_cell (gT G 2) (eN E id i, .inl (V id i))) := h1
  refine W.zast hx hb h2 ((hK.1.2 2 _ rfl).1 (eN E id i) (fun j => .int (V id i j))) (fun q => by cases q) (by show ¬ (y < 0 ∨ (arrV _ _ _).slots.size ≤ _); rw [arrV_size]; exact hin) rfl rfl hd fun H1 e9 z oq => ?_
  refine kk p e s m args below meth c H1 _ ls C (hR.wrA hkd rfl (by omega) hid hlv z oq ?_) ?_ hl
  · rw [e9, vp_cell_i, vp_cell_i, arrV_store]
    congr 2
    funext q
    by_cases hq : q = y.toNatClampNeg
    · subst hq
      simp [updV, upd, vp_nar, narrow]
    · simp [updV, upd, hq]
  · intro z hz
    rcases List.mem_append.mp hz with h | h
    · exact hL z h
    · rw [List.mem_singleton.mp h]
      exact (hR.2.1 id i (Lv_ar (by omega) hid hlv)).1
theorem r_aaldP {id i : Nat} {x : Int32} (hd : decode cc pc = .ok (.aaload, 1)) (hkd : kdo id = 4) (hid : 100 ≤ id) (hlv : eL E (id / 100 - 1) i) (hin : vp_in x (eN E id i)) (kk : Ev l G own cc nL ret rm E k n V (pc + 1) ll (va_rf ((eR E id x.toNatClampNeg).map (eA E 2)) :: st) Q) : Ev l G own cc nL ret rm E k n V pc ll (.int x :: .ref (eA E id i) :: st) Q := by
  intro p e s m args below meth c H locs ls C hR hL hl
  obtain ⟨hx, hb, hr, hml, ho, hts, hlk, hK⟩ := And.intro True.intro C |>.2
  have hP : va_P (gD G) cls [(eA E id i, .inl (gT G 3, eN E id i, .inr (.inr (.inr (.inr (fun j => (eR E id j).map (eA E 2)))))))] H := fun j x hj => by
    cases j with
    | zero =>
      cases hj
      have h1 := hR.ar (by omega) hid hlv
      rw [hkd] at h1
      exact h1
    | succ j => simp at hj
  exact va_aldq (D := gD G) (cl := cls) (C := RX2) hx hb hK.1 hP 0 3 rfl rfl hin hd (kk p e s m args below meth c H locs ls C hR hL hl)
theorem r_aaldG {id i : Nat} {x : Int32} (hd : decode cc pc = .ok (.aaload, 1)) (hkd : kdo id = 5) (hid : 100 ≤ id) (hlv : eL E (id / 100 - 1) i) (hin : vp_in x (eN E id i)) (kk : Ev l G own cc nL ret rm E k n V (pc + 1) ll (va_rf ((eR E id x.toNatClampNeg).map (eA E 1)) :: st) Q) : Ev l G own cc nL ret rm E k n V pc ll (.int x :: .ref (eA E id i) :: st) Q := by
  intro p e s m args below meth c H locs ls C hR hL hl
  obtain ⟨hx, hb, hr, hml, ho, hts, hlk, hK⟩ := And.intro True.intro C |>.2
  have hP : va_P (gD G) cls [(eA E id i, .inl (gT G 4, eN E id i, .inr (.inr (.inr (.inr (fun j => (eR E id j).map (eA E 1)))))))] H := fun j x hj => by
    cases j with
    | zero =>
      cases hj
      have h1 := hR.ar (by omega) hid hlv
      rw [hkd] at h1
      exact h1
    | succ j => simp at hj
  exact va_aldq (D := gD G) (cl := cls) (C := RX1) hx hb hK.1 hP 0 4 rfl rfl hin hd (kk p e s m args below meth c H locs ls C hR hL hl)
theorem r_aaldT {id i : Nat} {x : Int32} (hd : decode cc pc = .ok (.aaload, 1)) (hkd : kdo id = 6) (hid : 100 ≤ id) (hlv : eL E (id / 100 - 1) i) (hin : vp_in x (eN E id i)) (kk : Ev l G own cc nL ret rm E k n V (pc + 1) ll (va_rf ((eR E id x.toNatClampNeg).map (eA E 7)) :: st) Q) : Ev l G own cc nL ret rm E k n V pc ll (.int x :: .ref (eA E id i) :: st) Q := by
  intro p e s m args below meth c H locs ls C hR hL hl
  obtain ⟨hx, hb, hr, hml, ho, hts, hlk, hK⟩ := And.intro True.intro C |>.2
  have hP : va_P (gD G) cls [(eA E id i, .inl (gT G 5, eN E id i, .inr (.inr (.inr (.inr (fun j => (eR E id j).map (eA E 7)))))))] H := fun j x hj => by
    cases j with
    | zero =>
      cases hj
      have h1 := hR.ar (by omega) hid hlv
      rw [hkd] at h1
      exact h1
    | succ j => simp at hj
  exact va_aldq (D := gD G) (cl := cls) (C := RX7) hx hb hK.1 hP 0 5 rfl rfl hin hd (kk p e s m args below meth c H locs ls C hR hL hl)
theorem r_alenI {id i : Nat} (hd : decode cc pc = .ok (.arraylength, 1)) (hkd : kdo id = 1) (hid : 100 ≤ id) (hlv : eL E (id / 100 - 1) i) (kk : Ev l G own cc nL ret rm E k n V (pc + 1) ll (.int (Int32.ofNat (eN E id i)) :: st) Q) : Ev l G own cc nL ret rm E k n V pc ll (.ref (eA E id i) :: st) Q := by
  intro p e s m args below meth c H locs ls C hR hL hl
  obtain ⟨hx, hb, hr, hml, ho, hts, hlk, hK⟩ := And.intro True.intro C |>.2
  have hP : va_P (gD G) cls [(eA E id i, .inl (gT G 0, eN E id i, .inl (V id i)))] H := fun j x hj => by
    cases j with
    | zero =>
      cases hj
      have h1 := hR.ar (by omega) hid hlv
      rw [hkd] at h1
      exact h1
    | succ j => simp at hj
  exact va_alen (D := gD G) (cl := cls) hx hb hK.1 hP 0 0 rfl (ty := .int) rfl rfl hd (kk p e s m args below meth c H locs ls C hR hL hl)
/-- the static row MOST_TOLD -/
theorem r_told {idx : Nat} (hd : decode cc pc = .ok (.getstatic idx, 3)) (hw : Cond.fieldLink own idx RX8 "MOST_TOLD" "[I" ∈ tb) (kk : Ev l G own cc nL ret rm E k n V (pc + 3) ll (.ref (gM G) :: st) Q) : Ev l G own cc nL ret rm E k n V pc ll st Q := by
  intro p e s m args below meth c H locs ls C hR hL hl
  obtain ⟨hx, hb, hr, hml, ho, hts, hlk, hK⟩ := And.intro True.intro C |>.2
  obtain ⟨cf, kf, fi, f, a, cell, h1, h2, h3, h4, h5, h6, h7, h8⟩ := hK.2.2.2.2.2.2.1
  exact W.gets hx hb ho (hts _ hw) h1 h2 h3 h4 (by rw [hR.1 a (Array.getElem?_eq_some_iff.mp h5).1]; exact h5) (fun e => by rw [e] at h6; cases h6) h7 rfl hd (kk p e s m args below meth c H locs ls C hR hL hl)
theorem r_toldlen (hd : decode cc pc = .ok (.arraylength, 1)) (kk : Ev l G own cc nL ret rm E k n V (pc + 1) ll (.int 4 :: st) Q) : Ev l G own cc nL ret rm E k n V pc ll (.ref (gM G) :: st) Q := by
  intro p e s m args below meth c H locs ls C hR hL hl
  obtain ⟨hx, hb, hr, hml, ho, hts, hlk, hK⟩ := And.intro True.intro C |>.2
  obtain ⟨cell, h1, h2, h3, h4, h5, h6, h7⟩ := hK.2.2.2.2.2.2.2.1
  exact W.alen (n := 4) hx hb (by rw [hR.1 _ (Array.getElem?_eq_some_iff.mp h1).1]; exact h1) h2 h5 rfl rfl hd (kk p e s m args below meth c H locs ls C hR hL hl)
theorem r_toldat {x : Int32} (hd : decode cc pc = .ok (.iaload, 1)) (hin : vp_in x 4) (kk : Ev l G own cc nL ret rm E k n V (pc + 1) ll (.int (mTold.getD x.toNatClampNeg 0) :: st) Q) : Ev l G own cc nL ret rm E k n V pc ll (.int x :: .ref (gM G) :: st) Q := by
  intro p e s m args below meth c H locs ls C hR hL hl
  obtain ⟨hx, hb, hr, hml, ho, hts, hlk, hK⟩ := And.intro True.intro C |>.2
  obtain ⟨cell, h1, h2, h3, h4, h5, h6, h7⟩ := hK.2.2.2.2.2.2.2.1
  have hlt : x.toNatClampNeg < 4 := Nat.not_le.mp fun q => hin (Or.inr q)
  exact W.iald hx hb (by rw [hR.1 _ (Array.getElem?_eq_some_iff.mp h1).1]; exact h1) h2 h3 (fun q => hin (q.imp id (fun z => Nat.le_trans h4 z))) (h6 _ hlt) rfl rfl hd (kk p e s m args below meth c H locs ls C hR hL hl)
theorem r_ldcS {idx : Nat} {tx : String} {a : Nat} (hd : decode cc pc = .ok (.ldc idx, 2)) (hz : ∀ U, BF G U → vk_R own idx tx a U) (kk : Ev l G own cc nL ret rm E k n V (pc + 2) ll (.ref a :: st) Q) : Ev l G own cc nL ret rm E k n V pc ll st Q := by
  intro p e s m args below meth c H locs ls C hR hL hl
  obtain ⟨hx, hb, hr, hml, ho, hts, hlk, hK⟩ := And.intro True.intro C |>.2
  exact va_ldcS hx hb ho (hz s hK.2) hd (kk p e s m args below meth c H locs ls C hR hL hl)
theorem r_iret {v : Int32} (hd : decode cc pc = .ok (.ireturn, 1)) (hrt : ret = some .int) (hkn : k ≤ rm.cells ∧ n ≤ rm.slots) (hq : Q (some (.int v)) E V) : Ev l G own cc nL ret rm E k n V pc ll [.int v] Q := by
  intro p e s m args below meth c H locs ls C hR hL hl
  obtain ⟨hx, hb, hr, hml, ho, hts, hlk, hK⟩ := And.intro True.intro C |>.2
  subst hrt
  exact W.widen hkn.1 hkn.2 (W.iret hx hb hr (fun t ht hW => ⟨_, _, _, rfl, hq, by rw [ht]; exact hR⟩) hL hd)
theorem r_zret {v : Int32} {ty : FieldType} (hd : decode cc pc = .ok (.ireturn, 1)) (hrt : ret = some ty) (hn : narrow ty (.int v) = .int v) (hkn : k ≤ rm.cells ∧ n ≤ rm.slots) (hq : Q (some (.int v)) E V) : Ev l G own cc nL ret rm E k n V pc ll [.int v] Q := by
  intro p e s m args below meth c H locs ls C hR hL hl
  obtain ⟨hx, hb, hr, hml, ho, hts, hlk, hK⟩ := And.intro True.intro C |>.2
  subst hrt
  exact W.widen hkn.1 hkn.2 (W.zret hx hb hr hn (fun t ht hW => ⟨_, _, _, rfl, hq, by rw [ht]; exact hR⟩) hL hd)
theorem r_vret (hd : decode cc pc = .ok (.return_, 1)) (hrt : ret = none) (hkn : k ≤ rm.cells ∧ n ≤ rm.slots) (hq : Q none E V) : Ev l G own cc nL ret rm E k n V pc ll [] Q := by
  intro p e s m args below meth c H locs ls C hR hL hl
  obtain ⟨hx, hb, hr, hml, ho, hts, hlk, hK⟩ := And.intro True.intro C |>.2
  subst hrt
  exact W.widen hkn.1 hkn.2 (W.vret hx hb hr (fun t ht hW => ⟨_, _, _, rfl, hq, by rw [ht]; exact hR⟩) hL hd)
theorem r_aret {v : Value} {rt : FieldType} (hd : decode cc pc = .ok (.areturn, 1)) (hrt : ret = some rt) (hrt2 : (∃ n, rt = .object n) ∨ ∃ t, rt = .array t) (hv : rl v) (hkn : k ≤ rm.cells ∧ n ≤ rm.slots) (hq : Q (some v) E V) : Ev l G own cc nL ret rm E k n V pc ll [v] Q := by
  intro p e s m args below meth c H locs ls C hR hL hl
  obtain ⟨hx, hb, hr, hml, ho, hts, hlk, hK⟩ := And.intro True.intro C |>.2
  subst hrt
  exact W.widen hkn.1 hkn.2 (W.aret hx hb hr hrt2 hv (fun t ht hW => ⟨_, _, _, rfl, hq, by rw [ht]; exact hR⟩) hL hd)
/-- what the tables say of an instance method that is called, of a static one -/
def MV (y : MethodName) (cy : ByteArray) (nY : Nat) (ry : Option FieldType) (na : Nat) : Prop := Cond.code y cy nY ry ∈ tb ∧ Cond.instanceMethod y ∈ tb ∧ Cond.selects y.cls y y ∈ tb ∧ Cond.initialized y.cls ∈ tb ∧ y.cls ≠ "java/lang/invoke/MethodHandle" ∧ y.cls ≠ "java/lang/invoke/VarHandle" ∧ (parseMethodDescriptor y.desc).map (fun d => d.parameters.length) = some na
def MS (y : MethodName) (cy : ByteArray) (nY : Nat) (ry : Option FieldType) (na : Nat) : Prop := Cond.code y cy nY ry ∈ tb ∧ Cond.static y ∈ tb ∧ Cond.initialized y.cls ∈ tb ∧ y.cls ≠ "java/lang/invoke/MethodHandle" ∧ y.cls ≠ "java/lang/invoke/VarHandle" ∧ (parseMethodDescriptor y.desc).map (fun d => d.parameters.length) = some na
theorem blind (as : List Value) : FrameBlind (va_Pc as (fun U => KU G U ∧ RepH G E V U.heap)) := fun a U g mk h => ⟨h.1, h.2.1.same (s := U) rfl, h.2.2⟩
theorem r_callV {idx ci i na nY : Nat} {y : MethodName} {cy : ByteArray} {ry : Option FieldType} {rY : Room} {As rest : List Value} {Qc : Option Value → Et → Vt → Prop} (hd : decode cc pc = .ok (.invokevirtual idx, 3)) (hm : MV y cy nY ry na) (hlink : Cond.methodLink own idx y ∈ tb) (hcl : ∃ T N, cls[ci]? = some (y.cls, T, N)) (hlv : eL E ci i) (hrm : rY.frames + 1 ≤ rm.frames ∧ 8 + (nY + 11) + rY.locals ≤ rm.locals) (hcs : k + rY.cells ≤ rm.cells ∧ n + rY.slots ≤ rm.slots) (hna : As.length = na) (hst : st = As.reverse ++ .ref (eA E ci i) :: rest) (hcat : (rest.map fun v => v.category).sum ≤ 8)
    (hC : Cl l G y cy nY ry rY E V (.ref (eA E ci i) :: As) Qc) (kk : ∀ r E' V', Qc r E' V' → Ev l G own cc nL ret rm E' (k + rY.cells) (n + rY.slots) V' (pc + 3) ll (r.toList ++ rest) Q) : Ev l G own cc nL ret rm E k n V pc ll st Q := by
  intro p e s m args below meth c H locs ls C hR hL hl
  obtain ⟨hx, hb, hr, hml, ho, hts, hlk, hK⟩ := And.intro True.intro C |>.2
  obtain ⟨m1, m2, m3, m4, m5, m6, m7⟩ := hm
  obtain ⟨T, N, hq⟩ := hcl
  have hc : ci < 100 := Nat.lt_of_lt_of_le (List.getElem?_eq_some_iff.mp hq).1 (by decide)
  subst hst
  have hrecv : ∃ cellB : Cell, H[eA E ci i]? = some cellB ∧ cellB.vm.isStatics = false ∧ s.vm.findClass y.cls = some cellB.cls := by
    obtain ⟨q', h1, cell, g1, g2, g3, -⟩ := hR.ob hc hlv
    exact ⟨cell, g1, by rw [g3]; rfl, by rw [g2]; exact (hK.1.1 ci _ hq).2.1⟩
  have hcb : CallB rm s args own idx y cy nY ry (Cond.code y cy nY ry :: tb) rY rY.cells rY.slots na := callB_of na hts (tb_GoodIn m1) rfl rfl rfl (hts _ m4) (hts _ hlink) ⟨m5, m6, m7⟩ hrm
  have hrun := va_runV (e := e) (below := below) (meth := meth) (locs := locs) (g := F0 m pc ls (As.reverse ++ .ref (eA E ci i) :: rest)) (rest := rest) ⟨hx, hb, hml, ho, hts⟩ hC ⟨hcb, hts _ m2, hts _ m3⟩ ⟨blind _, hrecv, fun U hU hW => ⟨rfl, hK.warm hW, by rw [hU]; exact hR⟩⟩ rfl hna hl.1 rfl (lv_room hcat) hd hcs
  intro T0 hT0 X
  obtain ⟨v, st₀, t, T', L, z0, X', zL, z1, z2, ⟨r, E', V', w1, w2, w3⟩, z3⟩ := hrun T0 hT0 X
  cases w1
  obtain ⟨t2, a1, b1⟩ := kk v E' V' w2 p e s m args below meth c T'.heap (locs ++ L) ls C (by rw [z1]; exact w3) (fun q hq' => by
    rcases List.mem_append.mp hq' with h | h
    · exact hL q h
    · exact zL q h) hl T' rfl X'
  exact ⟨t2, z3 t2 a1, b1⟩
theorem r_callS {idx na nY : Nat} {y : MethodName} {cy : ByteArray} {ry : Option FieldType} {rY : Room} {As rest : List Value} {Qc : Option Value → Et → Vt → Prop} (hd : decode cc pc = .ok (.invokestatic idx, 3)) (hm : MS y cy nY ry na) (hlink : Cond.methodLink own idx y ∈ tb) (hrm : rY.frames + 1 ≤ rm.frames ∧ 8 + (nY + 11) + rY.locals ≤ rm.locals) (hcs : k + rY.cells ≤ rm.cells ∧ n + rY.slots ≤ rm.slots) (hna : As.length = na) (hst : st = As.reverse ++ rest) (hcat : (rest.map fun v => v.category).sum ≤ 8)
    (hC : Cl l G y cy nY ry rY E V As Qc) (kk : ∀ r E' V', Qc r E' V' → Ev l G own cc nL ret rm E' (k + rY.cells) (n + rY.slots) V' (pc + 3) ll (r.toList ++ rest) Q) : Ev l G own cc nL ret rm E k n V pc ll st Q := by
  intro p e s m args below meth c H locs ls C hR hL hl
  obtain ⟨hx, hb, hr, hml, ho, hts, hlk, hK⟩ := And.intro True.intro C |>.2
  obtain ⟨m1, m2, m4, m5, m6, m7⟩ := hm
  subst hst
  have hcb : CallB rm s args own idx y cy nY ry (Cond.code y cy nY ry :: tb) rY rY.cells rY.slots na := callB_of na hts (tb_GoodIn m1) rfl rfl rfl (hts _ m4) (hts _ hlink) ⟨m5, m6, m7⟩ hrm
  have hrun := va_runS (e := e) (below := below) (meth := meth) (locs := locs) (g := F0 m pc ls (As.reverse ++ rest)) (rest := rest) ⟨hx, hb, hml, ho, hts⟩ hC ⟨hcb, hts _ m2⟩ ⟨blind _, fun U hU hW => ⟨rfl, hK.warm hW, by rw [hU]; exact hR⟩⟩ rfl hna hl.1 rfl (lv_room hcat) hd hcs
  intro T0 hT0 X
  obtain ⟨v, st₀, t, T', L, z0, X', zL, z1, z2, ⟨r, E', V', w1, w2, w3⟩, z3⟩ := hrun T0 hT0 X
  cases w1
  obtain ⟨t2, a1, b1⟩ := kk v E' V' w2 p e s m args below meth c T'.heap (locs ++ L) ls C (by rw [z1]; exact w3) (fun q hq' => by
    rcases List.mem_append.mp hq' with h | h
    · exact hL q h
    · exact zL q h) hl T' rfl X'
  exact ⟨t2, z3 t2 a1, b1⟩
end Rows
end
section
set_option maxRecDepth 20000 in
theorem uw_X0 : ∀ w ∈ u_ws RX0 TX0 3, w ∈ tb := fun w h => tb_in ((show ∀ w ∈ u_ws RX0 TX0 3, w ∈ lw_tbl by decide +kernel) w h) ((show ∀ w ∈ u_ws RX0 TX0 3, goodWord w = true by decide +kernel) w h)
set_option maxRecDepth 20000 in
theorem uw_X1 : ∀ w ∈ u_ws RX1 TX1 3, w ∈ tb := fun w h => tb_in ((show ∀ w ∈ u_ws RX1 TX1 3, w ∈ lw_tbl by decide +kernel) w h) ((show ∀ w ∈ u_ws RX1 TX1 3, goodWord w = true by decide +kernel) w h)
set_option maxRecDepth 20000 in
theorem uw_X2 : ∀ w ∈ u_ws RX2 TX2 14, w ∈ tb := fun w h => tb_in ((show ∀ w ∈ u_ws RX2 TX2 14, w ∈ lw_tbl by decide +kernel) w h) ((show ∀ w ∈ u_ws RX2 TX2 14, goodWord w = true by decide +kernel) w h)
set_option maxRecDepth 20000 in
theorem uw_X3 : ∀ w ∈ u_ws RX3 TX3 7, w ∈ tb := fun w h => tb_in ((show ∀ w ∈ u_ws RX3 TX3 7, w ∈ lw_tbl by decide +kernel) w h) ((show ∀ w ∈ u_ws RX3 TX3 7, goodWord w = true by decide +kernel) w h)
set_option maxRecDepth 20000 in
theorem uw_X4 : ∀ w ∈ u_ws RX4 TX4 2, w ∈ tb := fun w h => tb_in ((show ∀ w ∈ u_ws RX4 TX4 2, w ∈ lw_tbl by decide +kernel) w h) ((show ∀ w ∈ u_ws RX4 TX4 2, goodWord w = true by decide +kernel) w h)
set_option maxRecDepth 20000 in
theorem uw_X5 : ∀ w ∈ u_ws RX5 TX5 2, w ∈ tb := fun w h => tb_in ((show ∀ w ∈ u_ws RX5 TX5 2, w ∈ lw_tbl by decide +kernel) w h) ((show ∀ w ∈ u_ws RX5 TX5 2, goodWord w = true by decide +kernel) w h)
set_option maxRecDepth 20000 in
theorem uw_X6 : ∀ w ∈ u_ws RX6 TX6 6, w ∈ tb := fun w h => tb_in ((show ∀ w ∈ u_ws RX6 TX6 6, w ∈ lw_tbl by decide +kernel) w h) ((show ∀ w ∈ u_ws RX6 TX6 6, goodWord w = true by decide +kernel) w h)
set_option maxRecDepth 20000 in
theorem uw_X7 : ∀ w ∈ u_ws RX7 TX7 1, w ∈ tb := fun w h => tb_in ((show ∀ w ∈ u_ws RX7 TX7 1, w ∈ lw_tbl by decide +kernel) w h) ((show ∀ w ∈ u_ws RX7 TX7 1, goodWord w = true by decide +kernel) w h)
set_option maxRecDepth 20000 in
theorem uw_X8 : ∀ w ∈ u_ws RX8 TX8 13, w ∈ tb := fun w h => tb_in ((show ∀ w ∈ u_ws RX8 TX8 13, w ∈ lw_tbl by decide +kernel) w h) ((show ∀ w ∈ u_ws RX8 TX8 13, goodWord w = true by decide +kernel) w h)
set_option maxRecDepth 20000 in
theorem uw_X9 : ∀ w ∈ u_ws RX9 TX9 47, w ∈ tb := fun w h => tb_in ((show ∀ w ∈ u_ws RX9 TX9 47, w ∈ lw_tbl by decide +kernel) w h) ((show ∀ w ∈ u_ws RX9 TX9 47, goodWord w = true by decide +kernel) w h)
theorem fl_RX0_9 : FL RX0 9 0 0 := ⟨(RX0, TX0, 3), rfl, by decide, tb_in (List.mem_of_getElem? (i := 121) (by decide +kernel)) rfl, uw_X0⟩
theorem fl_RX0_15 : FL RX0 15 0 1 := ⟨(RX0, TX0, 3), rfl, by decide, tb_in (List.mem_of_getElem? (i := 122) (by decide +kernel)) rfl, uw_X0⟩
theorem fp_RX0_15 : FP RX0 15 0 1 .int := ⟨(RX0, TX0, 3), tyX0, rfl, by decide, tb_in (List.mem_of_getElem? (i := 122) (by decide +kernel)) rfl, uw_X0, rfl, by decide +kernel, tyX0_ok, nmX0⟩
theorem fl_RX0_19 : FL RX0 19 0 2 := ⟨(RX0, TX0, 3), rfl, by decide, tb_in (List.mem_of_getElem? (i := 124) (by decide +kernel)) rfl, uw_X0⟩
theorem fl_RX1_7 : FL RX1 7 1 0 := ⟨(RX1, TX1, 3), rfl, by decide, tb_in (List.mem_of_getElem? (i := 704) (by decide +kernel)) rfl, uw_X1⟩
theorem fl_RX1_13 : FL RX1 13 1 1 := ⟨(RX1, TX1, 3), rfl, by decide, tb_in (List.mem_of_getElem? (i := 706) (by decide +kernel)) rfl, uw_X1⟩
theorem fl_RX1_17 : FL RX1 17 1 2 := ⟨(RX1, TX1, 3), rfl, by decide, tb_in (List.mem_of_getElem? (i := 708) (by decide +kernel)) rfl, uw_X1⟩
theorem fp_RX1_17 : FP RX1 17 1 2 .int := ⟨(RX1, TX1, 3), tyX1, rfl, by decide, tb_in (List.mem_of_getElem? (i := 708) (by decide +kernel)) rfl, uw_X1, rfl, by decide +kernel, tyX1_ok, nmX1⟩
theorem fl_RX2_10 : FL RX2 10 2 4 := ⟨(RX2, TX2, 14), rfl, by decide, tb_in (List.mem_of_getElem? (i := 253) (by decide +kernel)) rfl, uw_X2⟩
theorem fl_RX2_16 : FL RX2 16 2 5 := ⟨(RX2, TX2, 14), rfl, by decide, tb_in (List.mem_of_getElem? (i := 256) (by decide +kernel)) rfl, uw_X2⟩
theorem fl_RX2_19 : FL RX2 19 2 6 := ⟨(RX2, TX2, 14), rfl, by decide, tb_in (List.mem_of_getElem? (i := 260) (by decide +kernel)) rfl, uw_X2⟩
theorem fl_RX2_22 : FL RX2 22 2 7 := ⟨(RX2, TX2, 14), rfl, by decide, tb_in (List.mem_of_getElem? (i := 262) (by decide +kernel)) rfl, uw_X2⟩
theorem fl_RX2_25 : FL RX2 25 2 0 := ⟨(RX2, TX2, 14), rfl, by decide, tb_in (List.mem_of_getElem? (i := 242) (by decide +kernel)) rfl, uw_X2⟩
theorem fl_RX2_29 : FL RX2 29 2 1 := ⟨(RX2, TX2, 14), rfl, by decide, tb_in (List.mem_of_getElem? (i := 246) (by decide +kernel)) rfl, uw_X2⟩
theorem fl_RX2_32 : FL RX2 32 2 9 := ⟨(RX2, TX2, 14), rfl, by decide, tb_in (List.mem_of_getElem? (i := 267) (by decide +kernel)) rfl, uw_X2⟩
theorem fp_RX2_32 : FP RX2 32 2 9 .int := ⟨(RX2, TX2, 14), tyX2, rfl, by decide, tb_in (List.mem_of_getElem? (i := 267) (by decide +kernel)) rfl, uw_X2, rfl, by decide +kernel, tyX2_ok, nmX2⟩
theorem fl_RX2_35 : FL RX2 35 2 2 := ⟨(RX2, TX2, 14), rfl, by decide, tb_in (List.mem_of_getElem? (i := 248) (by decide +kernel)) rfl, uw_X2⟩
theorem fl_RX2_38 : FL RX2 38 2 3 := ⟨(RX2, TX2, 14), rfl, by decide, tb_in (List.mem_of_getElem? (i := 251) (by decide +kernel)) rfl, uw_X2⟩
theorem fl_RX2_41 : FL RX2 41 2 10 := ⟨(RX2, TX2, 14), rfl, by decide, tb_in (List.mem_of_getElem? (i := 270) (by decide +kernel)) rfl, uw_X2⟩
theorem fp_RX2_41 : FP RX2 41 2 10 .int := ⟨(RX2, TX2, 14), tyX2, rfl, by decide, tb_in (List.mem_of_getElem? (i := 270) (by decide +kernel)) rfl, uw_X2, rfl, by decide +kernel, tyX2_ok, nmX2⟩
theorem fl_RX2_48 : FL RX2 48 2 13 := ⟨(RX2, TX2, 14), rfl, by decide, tb_in (List.mem_of_getElem? (i := 280) (by decide +kernel)) rfl, uw_X2⟩
theorem fl_RX2_52 : FL RX2 52 2 11 := ⟨(RX2, TX2, 14), rfl, by decide, tb_in (List.mem_of_getElem? (i := 275) (by decide +kernel)) rfl, uw_X2⟩
theorem fp_RX2_52 : FP RX2 52 2 11 .int := ⟨(RX2, TX2, 14), tyX2, rfl, by decide, tb_in (List.mem_of_getElem? (i := 275) (by decide +kernel)) rfl, uw_X2, rfl, by decide +kernel, tyX2_ok, nmX2⟩
theorem fl_RX2_55 : FL RX2 55 2 8 := ⟨(RX2, TX2, 14), rfl, by decide, tb_in (List.mem_of_getElem? (i := 266) (by decide +kernel)) rfl, uw_X2⟩
theorem fl_RX3_11 : FL RX3 11 3 0 := ⟨(RX3, TX3, 7), rfl, by decide, tb_in (List.mem_of_getElem? (i := 74) (by decide +kernel)) rfl, uw_X3⟩
theorem fl_RX3_17 : FL RX3 17 3 1 := ⟨(RX3, TX3, 7), rfl, by decide, tb_in (List.mem_of_getElem? (i := 75) (by decide +kernel)) rfl, uw_X3⟩
theorem fl_RX3_21 : FL RX3 21 3 2 := ⟨(RX3, TX3, 7), rfl, by decide, tb_in (List.mem_of_getElem? (i := 76) (by decide +kernel)) rfl, uw_X3⟩
theorem fl_RX3_24 : FL RX3 24 3 3 := ⟨(RX3, TX3, 7), rfl, by decide, tb_in (List.mem_of_getElem? (i := 77) (by decide +kernel)) rfl, uw_X3⟩
theorem fl_RX3_27 : FL RX3 27 3 4 := ⟨(RX3, TX3, 7), rfl, by decide, tb_in (List.mem_of_getElem? (i := 78) (by decide +kernel)) rfl, uw_X3⟩
theorem fl_RX3_30 : FL RX3 30 3 5 := ⟨(RX3, TX3, 7), rfl, by decide, tb_in (List.mem_of_getElem? (i := 79) (by decide +kernel)) rfl, uw_X3⟩
theorem fp_RX3_30 : FP RX3 30 3 5 .int := ⟨(RX3, TX3, 7), tyX3, rfl, by decide, tb_in (List.mem_of_getElem? (i := 79) (by decide +kernel)) rfl, uw_X3, rfl, by decide +kernel, tyX3_ok, nmX3⟩
theorem fl_RX3_46 : FL RX3 46 2 8 := ⟨(RX2, TX2, 14), rfl, by decide, tb_in (List.mem_of_getElem? (i := 265) (by decide +kernel)) rfl, uw_X2⟩
theorem fp_RX3_46 : FP RX3 46 2 8 .int := ⟨(RX2, TX2, 14), tyX2, rfl, by decide, tb_in (List.mem_of_getElem? (i := 265) (by decide +kernel)) rfl, uw_X2, rfl, by decide +kernel, tyX2_ok, nmX2⟩
theorem fl_RX3_49 : FL RX3 49 3 6 := ⟨(RX3, TX3, 7), rfl, by decide, tb_in (List.mem_of_getElem? (i := 83) (by decide +kernel)) rfl, uw_X3⟩
theorem fp_RX3_49 : FP RX3 49 3 6 .int := ⟨(RX3, TX3, 7), tyX3, rfl, by decide, tb_in (List.mem_of_getElem? (i := 83) (by decide +kernel)) rfl, uw_X3, rfl, by decide +kernel, tyX3_ok, nmX3⟩
theorem fl_RX3_56 : FL RX3 56 2 1 := ⟨(RX2, TX2, 14), rfl, by decide, tb_in (List.mem_of_getElem? (i := 247) (by decide +kernel)) rfl, uw_X2⟩
theorem fl_RX3_59 : FL RX3 59 2 5 := ⟨(RX2, TX2, 14), rfl, by decide, tb_in (List.mem_of_getElem? (i := 258) (by decide +kernel)) rfl, uw_X2⟩
theorem fl_RX3_72 : FL RX3 72 2 11 := ⟨(RX2, TX2, 14), rfl, by decide, tb_in (List.mem_of_getElem? (i := 276) (by decide +kernel)) rfl, uw_X2⟩
theorem fp_RX3_72 : FP RX3 72 2 11 .int := ⟨(RX2, TX2, 14), tyX2, rfl, by decide, tb_in (List.mem_of_getElem? (i := 276) (by decide +kernel)) rfl, uw_X2, rfl, by decide +kernel, tyX2_ok, nmX2⟩
theorem fl_RX3_78 : FL RX3 78 2 10 := ⟨(RX2, TX2, 14), rfl, by decide, tb_in (List.mem_of_getElem? (i := 274) (by decide +kernel)) rfl, uw_X2⟩
theorem fl_RX4_17 : FL RX4 17 4 0 := ⟨(RX4, TX4, 2), rfl, by decide, tb_in (List.mem_of_getElem? (i := 176) (by decide +kernel)) rfl, uw_X4⟩
theorem fl_RX4_23 : FL RX4 23 4 1 := ⟨(RX4, TX4, 2), rfl, by decide, tb_in (List.mem_of_getElem? (i := 177) (by decide +kernel)) rfl, uw_X4⟩
theorem fl_RX4_26 : FL RX4 26 2 0 := ⟨(RX2, TX2, 14), rfl, by decide, tb_in (List.mem_of_getElem? (i := 243) (by decide +kernel)) rfl, uw_X2⟩
theorem fl_RX4_32 : FL RX4 32 2 10 := ⟨(RX2, TX2, 14), rfl, by decide, tb_in (List.mem_of_getElem? (i := 272) (by decide +kernel)) rfl, uw_X2⟩
theorem fl_RX4_35 : FL RX4 35 2 9 := ⟨(RX2, TX2, 14), rfl, by decide, tb_in (List.mem_of_getElem? (i := 268) (by decide +kernel)) rfl, uw_X2⟩
theorem fl_RX4_38 : FL RX4 38 1 1 := ⟨(RX1, TX1, 3), rfl, by decide, tb_in (List.mem_of_getElem? (i := 707) (by decide +kernel)) rfl, uw_X1⟩
theorem fl_RX4_48 : FL RX4 48 7 0 := ⟨(RX7, TX7, 1), rfl, by decide, tb_in (List.mem_of_getElem? (i := 695) (by decide +kernel)) rfl, uw_X7⟩
theorem fl_RX5_9 : FL RX5 9 5 0 := ⟨(RX5, TX5, 2), rfl, by decide, tb_in (List.mem_of_getElem? (i := 106) (by decide +kernel)) rfl, uw_X5⟩
theorem fl_RX5_15 : FL RX5 15 5 1 := ⟨(RX5, TX5, 2), rfl, by decide, tb_in (List.mem_of_getElem? (i := 108) (by decide +kernel)) rfl, uw_X5⟩
theorem fl_RX5_24 : FL RX5 24 3 5 := ⟨(RX3, TX3, 7), rfl, by decide, tb_in (List.mem_of_getElem? (i := 81) (by decide +kernel)) rfl, uw_X3⟩
theorem fl_RX5_34 : FL RX5 34 2 10 := ⟨(RX2, TX2, 14), rfl, by decide, tb_in (List.mem_of_getElem? (i := 271) (by decide +kernel)) rfl, uw_X2⟩
theorem fl_RX5_39 : FL RX5 39 2 2 := ⟨(RX2, TX2, 14), rfl, by decide, tb_in (List.mem_of_getElem? (i := 249) (by decide +kernel)) rfl, uw_X2⟩
theorem fl_RX5_53 : FL RX5 53 2 8 := ⟨(RX2, TX2, 14), rfl, by decide, tb_in (List.mem_of_getElem? (i := 263) (by decide +kernel)) rfl, uw_X2⟩
theorem fl_RX5_56 : FL RX5 56 2 5 := ⟨(RX2, TX2, 14), rfl, by decide, tb_in (List.mem_of_getElem? (i := 257) (by decide +kernel)) rfl, uw_X2⟩
theorem fl_RX5_63 : FL RX5 63 2 0 := ⟨(RX2, TX2, 14), rfl, by decide, tb_in (List.mem_of_getElem? (i := 244) (by decide +kernel)) rfl, uw_X2⟩
theorem fl_RX5_69 : FL RX5 69 2 4 := ⟨(RX2, TX2, 14), rfl, by decide, tb_in (List.mem_of_getElem? (i := 254) (by decide +kernel)) rfl, uw_X2⟩
theorem fl_RX5_82 : FL RX5 82 2 12 := ⟨(RX2, TX2, 14), rfl, by decide, tb_in (List.mem_of_getElem? (i := 278) (by decide +kernel)) rfl, uw_X2⟩
theorem fl_RX6_9 : FL RX6 9 6 0 := ⟨(RX6, TX6, 6), rfl, by decide, tb_in (List.mem_of_getElem? (i := 139) (by decide +kernel)) rfl, uw_X6⟩
theorem fl_RX6_15 : FL RX6 15 6 1 := ⟨(RX6, TX6, 6), rfl, by decide, tb_in (List.mem_of_getElem? (i := 140) (by decide +kernel)) rfl, uw_X6⟩
theorem fl_RX6_18 : FL RX6 18 6 2 := ⟨(RX6, TX6, 6), rfl, by decide, tb_in (List.mem_of_getElem? (i := 141) (by decide +kernel)) rfl, uw_X6⟩
theorem fl_RX6_21 : FL RX6 21 6 3 := ⟨(RX6, TX6, 6), rfl, by decide, tb_in (List.mem_of_getElem? (i := 142) (by decide +kernel)) rfl, uw_X6⟩
theorem fp_RX6_21 : FP RX6 21 6 3 .int := ⟨(RX6, TX6, 6), tyX6, rfl, by decide, tb_in (List.mem_of_getElem? (i := 142) (by decide +kernel)) rfl, uw_X6, rfl, by decide +kernel, tyX6_ok, nmX6⟩
theorem fl_RX6_27 : FL RX6 27 6 4 := ⟨(RX6, TX6, 6), rfl, by decide, tb_in (List.mem_of_getElem? (i := 144) (by decide +kernel)) rfl, uw_X6⟩
theorem fp_RX6_27 : FP RX6 27 6 4 .int := ⟨(RX6, TX6, 6), tyX6, rfl, by decide, tb_in (List.mem_of_getElem? (i := 144) (by decide +kernel)) rfl, uw_X6, rfl, by decide +kernel, tyX6_ok, nmX6⟩
theorem fl_RX6_39 : FL RX6 39 6 5 := ⟨(RX6, TX6, 6), rfl, by decide, tb_in (List.mem_of_getElem? (i := 145) (by decide +kernel)) rfl, uw_X6⟩
theorem fp_RX6_39 : FP RX6 39 6 5 .int := ⟨(RX6, TX6, 6), tyX6, rfl, by decide, tb_in (List.mem_of_getElem? (i := 145) (by decide +kernel)) rfl, uw_X6, rfl, by decide +kernel, tyX6_ok, nmX6⟩
theorem fl_RX7_7 : FL RX7 7 7 0 := ⟨(RX7, TX7, 1), rfl, by decide, tb_in (List.mem_of_getElem? (i := 694) (by decide +kernel)) rfl, uw_X7⟩
theorem fl_RX8_10 : FL RX8 10 8 0 := ⟨(RX8, TX8, 13), rfl, by decide, tb_in (List.mem_of_getElem? (i := 188) (by decide +kernel)) rfl, uw_X8⟩
theorem fl_RX8_19 : FL RX8 19 8 1 := ⟨(RX8, TX8, 13), rfl, by decide, tb_in (List.mem_of_getElem? (i := 189) (by decide +kernel)) rfl, uw_X8⟩
theorem fl_RX8_26 : FL RX8 26 8 2 := ⟨(RX8, TX8, 13), rfl, by decide, tb_in (List.mem_of_getElem? (i := 190) (by decide +kernel)) rfl, uw_X8⟩
theorem fl_RX8_33 : FL RX8 33 8 3 := ⟨(RX8, TX8, 13), rfl, by decide, tb_in (List.mem_of_getElem? (i := 191) (by decide +kernel)) rfl, uw_X8⟩
theorem fl_RX8_40 : FL RX8 40 8 4 := ⟨(RX8, TX8, 13), rfl, by decide, tb_in (List.mem_of_getElem? (i := 192) (by decide +kernel)) rfl, uw_X8⟩
theorem fl_RX8_46 : FL RX8 46 8 5 := ⟨(RX8, TX8, 13), rfl, by decide, tb_in (List.mem_of_getElem? (i := 193) (by decide +kernel)) rfl, uw_X8⟩
theorem fl_RX8_52 : FL RX8 52 8 6 := ⟨(RX8, TX8, 13), rfl, by decide, tb_in (List.mem_of_getElem? (i := 194) (by decide +kernel)) rfl, uw_X8⟩
theorem fl_RX8_56 : FL RX8 56 8 7 := ⟨(RX8, TX8, 13), rfl, by decide, tb_in (List.mem_of_getElem? (i := 195) (by decide +kernel)) rfl, uw_X8⟩
theorem fl_RX8_60 : FL RX8 60 8 8 := ⟨(RX8, TX8, 13), rfl, by decide, tb_in (List.mem_of_getElem? (i := 196) (by decide +kernel)) rfl, uw_X8⟩
theorem fl_RX8_67 : FL RX8 67 3 5 := ⟨(RX3, TX3, 7), rfl, by decide, tb_in (List.mem_of_getElem? (i := 80) (by decide +kernel)) rfl, uw_X3⟩
theorem fl_RX8_88 : FL RX8 88 2 8 := ⟨(RX2, TX2, 14), rfl, by decide, tb_in (List.mem_of_getElem? (i := 264) (by decide +kernel)) rfl, uw_X2⟩
theorem fp_RX8_88 : FP RX8 88 2 8 .int := ⟨(RX2, TX2, 14), tyX2, rfl, by decide, tb_in (List.mem_of_getElem? (i := 264) (by decide +kernel)) rfl, uw_X2, rfl, by decide +kernel, tyX2_ok, nmX2⟩
theorem fl_RX8_95 : FL RX8 95 2 0 := ⟨(RX2, TX2, 14), rfl, by decide, tb_in (List.mem_of_getElem? (i := 245) (by decide +kernel)) rfl, uw_X2⟩
theorem fl_RX8_102 : FL RX8 102 3 6 := ⟨(RX3, TX3, 7), rfl, by decide, tb_in (List.mem_of_getElem? (i := 82) (by decide +kernel)) rfl, uw_X3⟩
theorem fl_RX8_109 : FL RX8 109 2 9 := ⟨(RX2, TX2, 14), rfl, by decide, tb_in (List.mem_of_getElem? (i := 269) (by decide +kernel)) rfl, uw_X2⟩
theorem fp_RX8_109 : FP RX8 109 2 9 .int := ⟨(RX2, TX2, 14), tyX2, rfl, by decide, tb_in (List.mem_of_getElem? (i := 269) (by decide +kernel)) rfl, uw_X2, rfl, by decide +kernel, tyX2_ok, nmX2⟩
theorem fl_RX8_122 : FL RX8 122 2 4 := ⟨(RX2, TX2, 14), rfl, by decide, tb_in (List.mem_of_getElem? (i := 255) (by decide +kernel)) rfl, uw_X2⟩
theorem fl_RX8_136 : FL RX8 136 0 1 := ⟨(RX0, TX0, 3), rfl, by decide, tb_in (List.mem_of_getElem? (i := 123) (by decide +kernel)) rfl, uw_X0⟩
theorem fl_RX8_143 : FL RX8 143 8 11 := ⟨(RX8, TX8, 13), rfl, by decide, tb_in (List.mem_of_getElem? (i := 199) (by decide +kernel)) rfl, uw_X8⟩
theorem fp_RX8_143 : FP RX8 143 8 11 .int := ⟨(RX8, TX8, 13), tyX8, rfl, by decide, tb_in (List.mem_of_getElem? (i := 199) (by decide +kernel)) rfl, uw_X8, rfl, by decide +kernel, tyX8_ok, nmX8⟩
theorem fl_RX8_146 : FL RX8 146 2 10 := ⟨(RX2, TX2, 14), rfl, by decide, tb_in (List.mem_of_getElem? (i := 273) (by decide +kernel)) rfl, uw_X2⟩
theorem fp_RX8_146 : FP RX8 146 2 10 .int := ⟨(RX2, TX2, 14), tyX2, rfl, by decide, tb_in (List.mem_of_getElem? (i := 273) (by decide +kernel)) rfl, uw_X2, rfl, by decide +kernel, tyX2_ok, nmX2⟩
theorem fl_RX8_158 : FL RX8 158 2 11 := ⟨(RX2, TX2, 14), rfl, by decide, tb_in (List.mem_of_getElem? (i := 277) (by decide +kernel)) rfl, uw_X2⟩
theorem fl_RX8_161 : FL RX8 161 2 13 := ⟨(RX2, TX2, 14), rfl, by decide, tb_in (List.mem_of_getElem? (i := 281) (by decide +kernel)) rfl, uw_X2⟩
theorem fp_RX8_161 : FP RX8 161 2 13 .boolean := ⟨(RX2, TX2, 14), tyX2, rfl, by decide, tb_in (List.mem_of_getElem? (i := 281) (by decide +kernel)) rfl, uw_X2, rfl, by decide +kernel, tyX2_ok, nmX2⟩
theorem fl_RX8_166 : FL RX8 166 2 12 := ⟨(RX2, TX2, 14), rfl, by decide, tb_in (List.mem_of_getElem? (i := 279) (by decide +kernel)) rfl, uw_X2⟩
theorem fp_RX8_166 : FP RX8 166 2 12 .int := ⟨(RX2, TX2, 14), tyX2, rfl, by decide, tb_in (List.mem_of_getElem? (i := 279) (by decide +kernel)) rfl, uw_X2, rfl, by decide +kernel, tyX2_ok, nmX2⟩
theorem fl_RX8_176 : FL RX8 176 0 2 := ⟨(RX0, TX0, 3), rfl, by decide, tb_in (List.mem_of_getElem? (i := 125) (by decide +kernel)) rfl, uw_X0⟩
theorem fp_RX8_176 : FP RX8 176 0 2 .int := ⟨(RX0, TX0, 3), tyX0, rfl, by decide, tb_in (List.mem_of_getElem? (i := 125) (by decide +kernel)) rfl, uw_X0, rfl, by decide +kernel, tyX0_ok, nmX0⟩
theorem fl_RX8_186 : FL RX8 186 6 3 := ⟨(RX6, TX6, 6), rfl, by decide, tb_in (List.mem_of_getElem? (i := 143) (by decide +kernel)) rfl, uw_X6⟩
theorem fp_RX8_186 : FP RX8 186 6 3 .int := ⟨(RX6, TX6, 6), tyX6, rfl, by decide, tb_in (List.mem_of_getElem? (i := 143) (by decide +kernel)) rfl, uw_X6, rfl, by decide +kernel, tyX6_ok, nmX6⟩
theorem fl_RX8_194 : FL RX8 194 8 9 := ⟨(RX8, TX8, 13), rfl, by decide, tb_in (List.mem_of_getElem? (i := 197) (by decide +kernel)) rfl, uw_X8⟩
theorem fp_RX8_194 : FP RX8 194 8 9 .int := ⟨(RX8, TX8, 13), tyX8, rfl, by decide, tb_in (List.mem_of_getElem? (i := 197) (by decide +kernel)) rfl, uw_X8, rfl, by decide +kernel, tyX8_ok, nmX8⟩
theorem fl_RX8_208 : FL RX8 208 8 10 := ⟨(RX8, TX8, 13), rfl, by decide, tb_in (List.mem_of_getElem? (i := 198) (by decide +kernel)) rfl, uw_X8⟩
theorem fp_RX8_208 : FP RX8 208 8 10 .int := ⟨(RX8, TX8, 13), tyX8, rfl, by decide, tb_in (List.mem_of_getElem? (i := 198) (by decide +kernel)) rfl, uw_X8, rfl, by decide +kernel, tyX8_ok, nmX8⟩
theorem fl_RX8_240 : FL RX8 240 2 2 := ⟨(RX2, TX2, 14), rfl, by decide, tb_in (List.mem_of_getElem? (i := 250) (by decide +kernel)) rfl, uw_X2⟩
theorem fl_RX8_243 : FL RX8 243 2 3 := ⟨(RX2, TX2, 14), rfl, by decide, tb_in (List.mem_of_getElem? (i := 252) (by decide +kernel)) rfl, uw_X2⟩
theorem fl_RX8_246 : FL RX8 246 2 5 := ⟨(RX2, TX2, 14), rfl, by decide, tb_in (List.mem_of_getElem? (i := 259) (by decide +kernel)) rfl, uw_X2⟩
theorem fl_RX8_249 : FL RX8 249 2 6 := ⟨(RX2, TX2, 14), rfl, by decide, tb_in (List.mem_of_getElem? (i := 261) (by decide +kernel)) rfl, uw_X2⟩
theorem fl_RX8_252 : FL RX8 252 1 2 := ⟨(RX1, TX1, 3), rfl, by decide, tb_in (List.mem_of_getElem? (i := 709) (by decide +kernel)) rfl, uw_X1⟩
theorem fp_RX8_252 : FP RX8 252 1 2 .int := ⟨(RX1, TX1, 3), tyX1, rfl, by decide, tb_in (List.mem_of_getElem? (i := 709) (by decide +kernel)) rfl, uw_X1, rfl, by decide +kernel, tyX1_ok, nmX1⟩
theorem fl_RX8_255 : FL RX8 255 1 0 := ⟨(RX1, TX1, 3), rfl, by decide, tb_in (List.mem_of_getElem? (i := 705) (by decide +kernel)) rfl, uw_X1⟩
theorem fl_RX8_293 : FL RX8 293 8 12 := ⟨(RX8, TX8, 13), rfl, by decide, tb_in (List.mem_of_getElem? (i := 200) (by decide +kernel)) rfl, uw_X8⟩
theorem fp_RX8_293 : FP RX8 293 8 12 .int := ⟨(RX8, TX8, 13), tyX8, rfl, by decide, tb_in (List.mem_of_getElem? (i := 200) (by decide +kernel)) rfl, uw_X8, rfl, by decide +kernel, tyX8_ok, nmX8⟩
theorem fl_RX8_304 : FL RX8 304 5 0 := ⟨(RX5, TX5, 2), rfl, by decide, tb_in (List.mem_of_getElem? (i := 107) (by decide +kernel)) rfl, uw_X5⟩
theorem fl_RX8_307 : FL RX8 307 5 1 := ⟨(RX5, TX5, 2), rfl, by decide, tb_in (List.mem_of_getElem? (i := 109) (by decide +kernel)) rfl, uw_X5⟩
theorem fl_RX9_7 : FL RX9 7 9 2 := ⟨(RX9, TX9, 47), rfl, by decide, tb_in (List.mem_of_getElem? (i := 803) (by decide +kernel)) rfl, uw_X9⟩
theorem fl_RX9_13 : FL RX9 13 9 3 := ⟨(RX9, TX9, 47), rfl, by decide, tb_in (List.mem_of_getElem? (i := 804) (by decide +kernel)) rfl, uw_X9⟩
theorem fl_RX9_16 : FL RX9 16 9 4 := ⟨(RX9, TX9, 47), rfl, by decide, tb_in (List.mem_of_getElem? (i := 805) (by decide +kernel)) rfl, uw_X9⟩
theorem fl_RX9_19 : FL RX9 19 9 5 := ⟨(RX9, TX9, 47), rfl, by decide, tb_in (List.mem_of_getElem? (i := 806) (by decide +kernel)) rfl, uw_X9⟩
theorem fl_RX9_22 : FL RX9 22 9 6 := ⟨(RX9, TX9, 47), rfl, by decide, tb_in (List.mem_of_getElem? (i := 807) (by decide +kernel)) rfl, uw_X9⟩
theorem fl_RX9_25 : FL RX9 25 9 7 := ⟨(RX9, TX9, 47), rfl, by decide, tb_in (List.mem_of_getElem? (i := 808) (by decide +kernel)) rfl, uw_X9⟩
theorem fl_RX9_28 : FL RX9 28 9 8 := ⟨(RX9, TX9, 47), rfl, by decide, tb_in (List.mem_of_getElem? (i := 809) (by decide +kernel)) rfl, uw_X9⟩
theorem fl_RX9_31 : FL RX9 31 9 9 := ⟨(RX9, TX9, 47), rfl, by decide, tb_in (List.mem_of_getElem? (i := 810) (by decide +kernel)) rfl, uw_X9⟩
theorem fl_RX9_34 : FL RX9 34 9 10 := ⟨(RX9, TX9, 47), rfl, by decide, tb_in (List.mem_of_getElem? (i := 811) (by decide +kernel)) rfl, uw_X9⟩
theorem fl_RX9_37 : FL RX9 37 9 11 := ⟨(RX9, TX9, 47), rfl, by decide, tb_in (List.mem_of_getElem? (i := 812) (by decide +kernel)) rfl, uw_X9⟩
theorem fl_RX9_40 : FL RX9 40 9 12 := ⟨(RX9, TX9, 47), rfl, by decide, tb_in (List.mem_of_getElem? (i := 813) (by decide +kernel)) rfl, uw_X9⟩
theorem fl_RX9_43 : FL RX9 43 9 13 := ⟨(RX9, TX9, 47), rfl, by decide, tb_in (List.mem_of_getElem? (i := 814) (by decide +kernel)) rfl, uw_X9⟩
theorem fl_RX9_46 : FL RX9 46 9 14 := ⟨(RX9, TX9, 47), rfl, by decide, tb_in (List.mem_of_getElem? (i := 815) (by decide +kernel)) rfl, uw_X9⟩
theorem fl_RX9_50 : FL RX9 50 9 15 := ⟨(RX9, TX9, 47), rfl, by decide, tb_in (List.mem_of_getElem? (i := 816) (by decide +kernel)) rfl, uw_X9⟩
theorem fl_RX9_53 : FL RX9 53 9 16 := ⟨(RX9, TX9, 47), rfl, by decide, tb_in (List.mem_of_getElem? (i := 817) (by decide +kernel)) rfl, uw_X9⟩
theorem fl_RX9_56 : FL RX9 56 9 17 := ⟨(RX9, TX9, 47), rfl, by decide, tb_in (List.mem_of_getElem? (i := 818) (by decide +kernel)) rfl, uw_X9⟩
theorem fl_RX9_59 : FL RX9 59 9 22 := ⟨(RX9, TX9, 47), rfl, by decide, tb_in (List.mem_of_getElem? (i := 823) (by decide +kernel)) rfl, uw_X9⟩
theorem fl_RX9_63 : FL RX9 63 9 23 := ⟨(RX9, TX9, 47), rfl, by decide, tb_in (List.mem_of_getElem? (i := 824) (by decide +kernel)) rfl, uw_X9⟩
theorem fl_RX9_66 : FL RX9 66 9 25 := ⟨(RX9, TX9, 47), rfl, by decide, tb_in (List.mem_of_getElem? (i := 826) (by decide +kernel)) rfl, uw_X9⟩
theorem fl_RX9_69 : FL RX9 69 9 26 := ⟨(RX9, TX9, 47), rfl, by decide, tb_in (List.mem_of_getElem? (i := 827) (by decide +kernel)) rfl, uw_X9⟩
theorem fl_RX9_72 : FL RX9 72 9 27 := ⟨(RX9, TX9, 47), rfl, by decide, tb_in (List.mem_of_getElem? (i := 828) (by decide +kernel)) rfl, uw_X9⟩
theorem fl_RX9_75 : FL RX9 75 9 28 := ⟨(RX9, TX9, 47), rfl, by decide, tb_in (List.mem_of_getElem? (i := 829) (by decide +kernel)) rfl, uw_X9⟩
theorem fl_RX9_78 : FL RX9 78 9 29 := ⟨(RX9, TX9, 47), rfl, by decide, tb_in (List.mem_of_getElem? (i := 830) (by decide +kernel)) rfl, uw_X9⟩
theorem fl_RX9_81 : FL RX9 81 9 30 := ⟨(RX9, TX9, 47), rfl, by decide, tb_in (List.mem_of_getElem? (i := 831) (by decide +kernel)) rfl, uw_X9⟩
theorem fl_RX9_85 : FL RX9 85 9 33 := ⟨(RX9, TX9, 47), rfl, by decide, tb_in (List.mem_of_getElem? (i := 834) (by decide +kernel)) rfl, uw_X9⟩
theorem fl_RX9_88 : FL RX9 88 9 34 := ⟨(RX9, TX9, 47), rfl, by decide, tb_in (List.mem_of_getElem? (i := 835) (by decide +kernel)) rfl, uw_X9⟩
theorem fl_RX9_91 : FL RX9 91 9 36 := ⟨(RX9, TX9, 47), rfl, by decide, tb_in (List.mem_of_getElem? (i := 837) (by decide +kernel)) rfl, uw_X9⟩
theorem fl_RX9_94 : FL RX9 94 9 37 := ⟨(RX9, TX9, 47), rfl, by decide, tb_in (List.mem_of_getElem? (i := 838) (by decide +kernel)) rfl, uw_X9⟩
theorem fl_RX9_97 : FL RX9 97 9 39 := ⟨(RX9, TX9, 47), rfl, by decide, tb_in (List.mem_of_getElem? (i := 840) (by decide +kernel)) rfl, uw_X9⟩
theorem fl_RX9_100 : FL RX9 100 9 40 := ⟨(RX9, TX9, 47), rfl, by decide, tb_in (List.mem_of_getElem? (i := 841) (by decide +kernel)) rfl, uw_X9⟩
theorem fl_RX9_103 : FL RX9 103 9 41 := ⟨(RX9, TX9, 47), rfl, by decide, tb_in (List.mem_of_getElem? (i := 842) (by decide +kernel)) rfl, uw_X9⟩
theorem fl_RX9_106 : FL RX9 106 9 43 := ⟨(RX9, TX9, 47), rfl, by decide, tb_in (List.mem_of_getElem? (i := 844) (by decide +kernel)) rfl, uw_X9⟩
theorem fl_RX9_109 : FL RX9 109 9 44 := ⟨(RX9, TX9, 47), rfl, by decide, tb_in (List.mem_of_getElem? (i := 845) (by decide +kernel)) rfl, uw_X9⟩
theorem fl_RX9_112 : FL RX9 112 9 45 := ⟨(RX9, TX9, 47), rfl, by decide, tb_in (List.mem_of_getElem? (i := 846) (by decide +kernel)) rfl, uw_X9⟩
theorem fl_RX9_115 : FL RX9 115 9 46 := ⟨(RX9, TX9, 47), rfl, by decide, tb_in (List.mem_of_getElem? (i := 847) (by decide +kernel)) rfl, uw_X9⟩
theorem fl_RX9_122 : FL RX9 122 9 1 := ⟨(RX9, TX9, 47), rfl, by decide, tb_in (List.mem_of_getElem? (i := 802) (by decide +kernel)) rfl, uw_X9⟩
theorem fp_RX9_122 : FP RX9 122 9 1 .int := ⟨(RX9, TX9, 47), tyX9, rfl, by decide, tb_in (List.mem_of_getElem? (i := 802) (by decide +kernel)) rfl, uw_X9, rfl, by decide +kernel, tyX9_ok, nmX9⟩
theorem fl_RX9_145 : FL RX9 145 9 24 := ⟨(RX9, TX9, 47), rfl, by decide, tb_in (List.mem_of_getElem? (i := 825) (by decide +kernel)) rfl, uw_X9⟩
theorem fp_RX9_145 : FP RX9 145 9 24 .int := ⟨(RX9, TX9, 47), tyX9, rfl, by decide, tb_in (List.mem_of_getElem? (i := 825) (by decide +kernel)) rfl, uw_X9, rfl, by decide +kernel, tyX9_ok, nmX9⟩
theorem fl_RX9_169 : FL RX9 169 9 31 := ⟨(RX9, TX9, 47), rfl, by decide, tb_in (List.mem_of_getElem? (i := 832) (by decide +kernel)) rfl, uw_X9⟩
theorem fp_RX9_169 : FP RX9 169 9 31 .int := ⟨(RX9, TX9, 47), tyX9, rfl, by decide, tb_in (List.mem_of_getElem? (i := 832) (by decide +kernel)) rfl, uw_X9, rfl, by decide +kernel, tyX9_ok, nmX9⟩
theorem fl_RX9_172 : FL RX9 172 9 35 := ⟨(RX9, TX9, 47), rfl, by decide, tb_in (List.mem_of_getElem? (i := 836) (by decide +kernel)) rfl, uw_X9⟩
theorem fp_RX9_172 : FP RX9 172 9 35 .int := ⟨(RX9, TX9, 47), tyX9, rfl, by decide, tb_in (List.mem_of_getElem? (i := 836) (by decide +kernel)) rfl, uw_X9, rfl, by decide +kernel, tyX9_ok, nmX9⟩
theorem fl_RX9_175 : FL RX9 175 9 32 := ⟨(RX9, TX9, 47), rfl, by decide, tb_in (List.mem_of_getElem? (i := 833) (by decide +kernel)) rfl, uw_X9⟩
theorem fp_RX9_175 : FP RX9 175 9 32 .int := ⟨(RX9, TX9, 47), tyX9, rfl, by decide, tb_in (List.mem_of_getElem? (i := 833) (by decide +kernel)) rfl, uw_X9, rfl, by decide +kernel, tyX9_ok, nmX9⟩
theorem fl_RX9_191 : FL RX9 191 9 21 := ⟨(RX9, TX9, 47), rfl, by decide, tb_in (List.mem_of_getElem? (i := 822) (by decide +kernel)) rfl, uw_X9⟩
theorem fp_RX9_191 : FP RX9 191 9 21 .int := ⟨(RX9, TX9, 47), tyX9, rfl, by decide, tb_in (List.mem_of_getElem? (i := 822) (by decide +kernel)) rfl, uw_X9, rfl, by decide +kernel, tyX9_ok, nmX9⟩
theorem fl_RX9_194 : FL RX9 194 9 18 := ⟨(RX9, TX9, 47), rfl, by decide, tb_in (List.mem_of_getElem? (i := 819) (by decide +kernel)) rfl, uw_X9⟩
theorem fp_RX9_194 : FP RX9 194 9 18 .int := ⟨(RX9, TX9, 47), tyX9, rfl, by decide, tb_in (List.mem_of_getElem? (i := 819) (by decide +kernel)) rfl, uw_X9, rfl, by decide +kernel, tyX9_ok, nmX9⟩
theorem fl_RX9_200 : FL RX9 200 9 19 := ⟨(RX9, TX9, 47), rfl, by decide, tb_in (List.mem_of_getElem? (i := 820) (by decide +kernel)) rfl, uw_X9⟩
theorem fp_RX9_200 : FP RX9 200 9 19 .int := ⟨(RX9, TX9, 47), tyX9, rfl, by decide, tb_in (List.mem_of_getElem? (i := 820) (by decide +kernel)) rfl, uw_X9, rfl, by decide +kernel, tyX9_ok, nmX9⟩
theorem fl_RX9_210 : FL RX9 210 9 38 := ⟨(RX9, TX9, 47), rfl, by decide, tb_in (List.mem_of_getElem? (i := 839) (by decide +kernel)) rfl, uw_X9⟩
theorem fp_RX9_210 : FP RX9 210 9 38 .int := ⟨(RX9, TX9, 47), tyX9, rfl, by decide, tb_in (List.mem_of_getElem? (i := 839) (by decide +kernel)) rfl, uw_X9, rfl, by decide +kernel, tyX9_ok, nmX9⟩
theorem fl_RX9_219 : FL RX9 219 9 42 := ⟨(RX9, TX9, 47), rfl, by decide, tb_in (List.mem_of_getElem? (i := 843) (by decide +kernel)) rfl, uw_X9⟩
theorem fp_RX9_219 : FP RX9 219 9 42 .int := ⟨(RX9, TX9, 47), tyX9, rfl, by decide, tb_in (List.mem_of_getElem? (i := 843) (by decide +kernel)) rfl, uw_X9, rfl, by decide +kernel, tyX9_ok, nmX9⟩
theorem fl_RX9_241 : FL RX9 241 9 20 := ⟨(RX9, TX9, 47), rfl, by decide, tb_in (List.mem_of_getElem? (i := 821) (by decide +kernel)) rfl, uw_X9⟩
theorem fp_RX9_241 : FP RX9 241 9 20 .int := ⟨(RX9, TX9, 47), tyX9, rfl, by decide, tb_in (List.mem_of_getElem? (i := 821) (by decide +kernel)) rfl, uw_X9, rfl, by decide +kernel, tyX9_ok, nmX9⟩
theorem mv_X0_isAhead : MV yX0_isAhead cX0_isAhead 2 (some .boolean) 1 := ⟨tb_in (List.mem_of_getElem? (i := 622) (by decide +kernel)) rfl, tb_in (List.mem_of_getElem? (i := 620) (by decide +kernel)) rfl, tb_in (List.mem_of_getElem? (i := 621) (by decide +kernel)) rfl, tb_in (List.mem_of_getElem? (i := 43) (by decide +kernel)) rfl, by decide +kernel, by decide +kernel, by decide +kernel⟩
theorem mv_X0_hasFrost : MV yX0_hasFrost cX0_hasFrost 2 (some .boolean) 1 := ⟨tb_in (List.mem_of_getElem? (i := 444) (by decide +kernel)) rfl, tb_in (List.mem_of_getElem? (i := 442) (by decide +kernel)) rfl, tb_in (List.mem_of_getElem? (i := 443) (by decide +kernel)) rfl, tb_in (List.mem_of_getElem? (i := 43) (by decide +kernel)) rfl, by decide +kernel, by decide +kernel, by decide +kernel⟩
theorem mv_X0_makeBitter : MV yX0_makeBitter cX0_makeBitter 4 (some .boolean) 1 := ⟨tb_in (List.mem_of_getElem? (i := 626) (by decide +kernel)) rfl, tb_in (List.mem_of_getElem? (i := 624) (by decide +kernel)) rfl, tb_in (List.mem_of_getElem? (i := 625) (by decide +kernel)) rfl, tb_in (List.mem_of_getElem? (i := 43) (by decide +kernel)) rfl, by decide +kernel, by decide +kernel, by decide +kernel⟩
theorem mv_X0_pass : MV yX0_pass cX0_pass 4 (some .int) 1 := ⟨tb_in (List.mem_of_getElem? (i := 604) (by decide +kernel)) rfl, tb_in (List.mem_of_getElem? (i := 602) (by decide +kernel)) rfl, tb_in (List.mem_of_getElem? (i := 603) (by decide +kernel)) rfl, tb_in (List.mem_of_getElem? (i := 43) (by decide +kernel)) rfl, by decide +kernel, by decide +kernel, by decide +kernel⟩
theorem mv_X2_isBegun : MV yX2_isBegun cX2_isBegun 1 (some .boolean) 0 := ⟨tb_in (List.mem_of_getElem? (i := 345) (by decide +kernel)) rfl, tb_in (List.mem_of_getElem? (i := 343) (by decide +kernel)) rfl, tb_in (List.mem_of_getElem? (i := 344) (by decide +kernel)) rfl, tb_in (List.mem_of_getElem? (i := 48) (by decide +kernel)) rfl, by decide +kernel, by decide +kernel, by decide +kernel⟩
theorem mv_X2_isWhole : MV yX2_isWhole cX2_isWhole 1 (some .boolean) 0 := ⟨tb_in (List.mem_of_getElem? (i := 422) (by decide +kernel)) rfl, tb_in (List.mem_of_getElem? (i := 420) (by decide +kernel)) rfl, tb_in (List.mem_of_getElem? (i := 421) (by decide +kernel)) rfl, tb_in (List.mem_of_getElem? (i := 48) (by decide +kernel)) rfl, by decide +kernel, by decide +kernel, by decide +kernel⟩
theorem mv_X2_isOnCentring : MV yX2_isOnCentring cX2_isOnCentring 1 (some .boolean) 0 := ⟨tb_in (List.mem_of_getElem? (i := 393) (by decide +kernel)) rfl, tb_in (List.mem_of_getElem? (i := 391) (by decide +kernel)) rfl, tb_in (List.mem_of_getElem? (i := 392) (by decide +kernel)) rfl, tb_in (List.mem_of_getElem? (i := 48) (by decide +kernel)) rfl, by decide +kernel, by decide +kernel, by decide +kernel⟩
theorem mv_X2_standOn : MV yX2_standOn cX2_standOn 4 none 3 := ⟨tb_in (List.mem_of_getElem? (i := 326) (by decide +kernel)) rfl, tb_in (List.mem_of_getElem? (i := 324) (by decide +kernel)) rfl, tb_in (List.mem_of_getElem? (i := 325) (by decide +kernel)) rfl, tb_in (List.mem_of_getElem? (i := 48) (by decide +kernel)) rfl, by decide +kernel, by decide +kernel, by decide +kernel⟩
theorem mv_X2_takeCourse : MV yX2_takeCourse cX2_takeCourse 2 none 1 := ⟨tb_in (List.mem_of_getElem? (i := 578) (by decide +kernel)) rfl, tb_in (List.mem_of_getElem? (i := 576) (by decide +kernel)) rfl, tb_in (List.mem_of_getElem? (i := 577) (by decide +kernel)) rfl, tb_in (List.mem_of_getElem? (i := 48) (by decide +kernel)) rfl, by decide +kernel, by decide +kernel, by decide +kernel⟩
theorem mv_X2_laidTill : MV yX2_laidTill cX2_laidTill 4 (some .int) 1 := ⟨tb_in (List.mem_of_getElem? (i := 764) (by decide +kernel)) rfl, tb_in (List.mem_of_getElem? (i := 762) (by decide +kernel)) rfl, tb_in (List.mem_of_getElem? (i := 763) (by decide +kernel)) rfl, tb_in (List.mem_of_getElem? (i := 48) (by decide +kernel)) rfl, by decide +kernel, by decide +kernel, by decide +kernel⟩
theorem mv_X2_portion : MV yX2_portion cX2_portion 5 (some .int) 2 := ⟨tb_in (List.mem_of_getElem? (i := 402) (by decide +kernel)) rfl, tb_in (List.mem_of_getElem? (i := 400) (by decide +kernel)) rfl, tb_in (List.mem_of_getElem? (i := 401) (by decide +kernel)) rfl, tb_in (List.mem_of_getElem? (i := 48) (by decide +kernel)) rfl, by decide +kernel, by decide +kernel, by decide +kernel⟩
theorem mv_X2_heaviestWay : MV yX2_heaviestWay cX2_heaviestWay 4 (some .int) 1 := ⟨tb_in (List.mem_of_getElem? (i := 772) (by decide +kernel)) rfl, tb_in (List.mem_of_getElem? (i := 770) (by decide +kernel)) rfl, tb_in (List.mem_of_getElem? (i := 771) (by decide +kernel)) rfl, tb_in (List.mem_of_getElem? (i := 48) (by decide +kernel)) rfl, by decide +kernel, by decide +kernel, by decide +kernel⟩
theorem mv_X2_markSupports : MV yX2_markSupports cX2_markSupports 3 none 1 := ⟨tb_in (List.mem_of_getElem? (i := 782) (by decide +kernel)) rfl, tb_in (List.mem_of_getElem? (i := 780) (by decide +kernel)) rfl, tb_in (List.mem_of_getElem? (i := 781) (by decide +kernel)) rfl, tb_in (List.mem_of_getElem? (i := 48) (by decide +kernel)) rfl, by decide +kernel, by decide +kernel, by decide +kernel⟩
theorem mv_X2_standsOn : MV yX2_standsOn cX2_standsOn 3 (some .boolean) 1 := ⟨tb_in (List.mem_of_getElem? (i := 747) (by decide +kernel)) rfl, tb_in (List.mem_of_getElem? (i := 745) (by decide +kernel)) rfl, tb_in (List.mem_of_getElem? (i := 746) (by decide +kernel)) rfl, tb_in (List.mem_of_getElem? (i := 48) (by decide +kernel)) rfl, by decide +kernel, by decide +kernel, by decide +kernel⟩
theorem mv_X3_find : MV yX3_find cX3_find 2 (some (.object "ChurchLodge$Part")) 1 := ⟨tb_in (List.mem_of_getElem? (i := 322) (by decide +kernel)) rfl, tb_in (List.mem_of_getElem? (i := 320) (by decide +kernel)) rfl, tb_in (List.mem_of_getElem? (i := 321) (by decide +kernel)) rfl, tb_in (List.mem_of_getElem? (i := 41) (by decide +kernel)) rfl, by decide +kernel, by decide +kernel, by decide +kernel⟩
theorem mv_X3_add : MV yX3_add cX3_add 2 (some .int) 1 := ⟨tb_in (List.mem_of_getElem? (i := 314) (by decide +kernel)) rfl, tb_in (List.mem_of_getElem? (i := 312) (by decide +kernel)) rfl, tb_in (List.mem_of_getElem? (i := 313) (by decide +kernel)) rfl, tb_in (List.mem_of_getElem? (i := 41) (by decide +kernel)) rfl, by decide +kernel, by decide +kernel, by decide +kernel⟩
theorem mv_X3_readSupports : MV yX3_readSupports cX3_readSupports 9 (some .int) 5 := ⟨tb_in (List.mem_of_getElem? (i := 334) (by decide +kernel)) rfl, tb_in (List.mem_of_getElem? (i := 332) (by decide +kernel)) rfl, tb_in (List.mem_of_getElem? (i := 333) (by decide +kernel)) rfl, tb_in (List.mem_of_getElem? (i := 41) (by decide +kernel)) rfl, by decide +kernel, by decide +kernel, by decide +kernel⟩
theorem ms_X3_isSupportFor : MS yX3_isSupportFor cX3_isSupportFor 3 (some .boolean) 2 := ⟨tb_in (List.mem_of_getElem? (i := 337) (by decide +kernel)) rfl, tb_in (List.mem_of_getElem? (i := 336) (by decide +kernel)) rfl, tb_in (List.mem_of_getElem? (i := 41) (by decide +kernel)) rfl, by decide +kernel, by decide +kernel, by decide +kernel⟩
theorem mv_X3_isReadBefore : MV yX3_isReadBefore cX3_isReadBefore 3 (some .boolean) 1 := ⟨tb_in (List.mem_of_getElem? (i := 341) (by decide +kernel)) rfl, tb_in (List.mem_of_getElem? (i := 340) (by decide +kernel)) rfl, tb_in (List.mem_of_getElem? (i := 0) (by decide +kernel)) rfl, tb_in (List.mem_of_getElem? (i := 41) (by decide +kernel)) rfl, by decide +kernel, by decide +kernel, by decide +kernel⟩
theorem mv_X3_setSupports : MV yX3_setSupports cX3_setSupports 4 none 2 := ⟨tb_in (List.mem_of_getElem? (i := 349) (by decide +kernel)) rfl, tb_in (List.mem_of_getElem? (i := 347) (by decide +kernel)) rfl, tb_in (List.mem_of_getElem? (i := 348) (by decide +kernel)) rfl, tb_in (List.mem_of_getElem? (i := 41) (by decide +kernel)) rfl, by decide +kernel, by decide +kernel, by decide +kernel⟩
theorem mv_X3_keepEdition : MV yX3_keepEdition cX3_keepEdition 3 (some .int) 2 := ⟨tb_in (List.mem_of_getElem? (i := 354) (by decide +kernel)) rfl, tb_in (List.mem_of_getElem? (i := 352) (by decide +kernel)) rfl, tb_in (List.mem_of_getElem? (i := 353) (by decide +kernel)) rfl, tb_in (List.mem_of_getElem? (i := 41) (by decide +kernel)) rfl, by decide +kernel, by decide +kernel, by decide +kernel⟩
theorem mv_X3_coursesIn : MV yX3_coursesIn cX3_coursesIn 5 (some .int) 2 := ⟨tb_in (List.mem_of_getElem? (i := 366) (by decide +kernel)) rfl, tb_in (List.mem_of_getElem? (i := 364) (by decide +kernel)) rfl, tb_in (List.mem_of_getElem? (i := 365) (by decide +kernel)) rfl, tb_in (List.mem_of_getElem? (i := 41) (by decide +kernel)) rfl, by decide +kernel, by decide +kernel, by decide +kernel⟩
theorem mv_X3_isReadyBelow : MV yX3_isReadyBelow cX3_isReadyBelow 4 (some .boolean) 1 := ⟨tb_in (List.mem_of_getElem? (i := 426) (by decide +kernel)) rfl, tb_in (List.mem_of_getElem? (i := 424) (by decide +kernel)) rfl, tb_in (List.mem_of_getElem? (i := 425) (by decide +kernel)) rfl, tb_in (List.mem_of_getElem? (i := 41) (by decide +kernel)) rfl, by decide +kernel, by decide +kernel, by decide +kernel⟩
theorem mv_X3_ageAll : MV yX3_ageAll cX3_ageAll 4 none 1 := ⟨tb_in (List.mem_of_getElem? (i := 609) (by decide +kernel)) rfl, tb_in (List.mem_of_getElem? (i := 607) (by decide +kernel)) rfl, tb_in (List.mem_of_getElem? (i := 608) (by decide +kernel)) rfl, tb_in (List.mem_of_getElem? (i := 41) (by decide +kernel)) rfl, by decide +kernel, by decide +kernel, by decide +kernel⟩
theorem mv_X3_countBorneBy : MV yX3_countBorneBy cX3_countBorneBy 5 (some .int) 1 := ⟨tb_in (List.mem_of_getElem? (i := 743) (by decide +kernel)) rfl, tb_in (List.mem_of_getElem? (i := 741) (by decide +kernel)) rfl, tb_in (List.mem_of_getElem? (i := 742) (by decide +kernel)) rfl, tb_in (List.mem_of_getElem? (i := 41) (by decide +kernel)) rfl, by decide +kernel, by decide +kernel, by decide +kernel⟩
theorem mv_X3_countLaid : MV yX3_countLaid cX3_countLaid 4 (some .int) 0 := ⟨tb_in (List.mem_of_getElem? (i := 790) (by decide +kernel)) rfl, tb_in (List.mem_of_getElem? (i := 788) (by decide +kernel)) rfl, tb_in (List.mem_of_getElem? (i := 789) (by decide +kernel)) rfl, tb_in (List.mem_of_getElem? (i := 41) (by decide +kernel)) rfl, by decide +kernel, by decide +kernel, by decide +kernel⟩
theorem mv_X4_nameNoPart : MV yX4_nameNoPart cX4_nameNoPart 1 none 0 := ⟨tb_in (List.mem_of_getElem? (i := 452) (by decide +kernel)) rfl, tb_in (List.mem_of_getElem? (i := 450) (by decide +kernel)) rfl, tb_in (List.mem_of_getElem? (i := 451) (by decide +kernel)) rfl, tb_in (List.mem_of_getElem? (i := 45) (by decide +kernel)) rfl, by decide +kernel, by decide +kernel, by decide +kernel⟩
theorem mv_X4_namePart : MV yX4_namePart cX4_namePart 3 none 2 := ⟨tb_in (List.mem_of_getElem? (i := 556) (by decide +kernel)) rfl, tb_in (List.mem_of_getElem? (i := 554) (by decide +kernel)) rfl, tb_in (List.mem_of_getElem? (i := 555) (by decide +kernel)) rfl, tb_in (List.mem_of_getElem? (i := 45) (by decide +kernel)) rfl, by decide +kernel, by decide +kernel, by decide +kernel⟩
theorem mv_X4_nameMonth : MV yX4_nameMonth cX4_nameMonth 4 none 3 := ⟨tb_in (List.mem_of_getElem? (i := 448) (by decide +kernel)) rfl, tb_in (List.mem_of_getElem? (i := 446) (by decide +kernel)) rfl, tb_in (List.mem_of_getElem? (i := 447) (by decide +kernel)) rfl, tb_in (List.mem_of_getElem? (i := 45) (by decide +kernel)) rfl, by decide +kernel, by decide +kernel, by decide +kernel⟩
theorem mv_X4_endOf : MV yX4_endOf cX4_endOf 2 (some .int) 1 := ⟨tb_in (List.mem_of_getElem? (i := 564) (by decide +kernel)) rfl, tb_in (List.mem_of_getElem? (i := 562) (by decide +kernel)) rfl, tb_in (List.mem_of_getElem? (i := 563) (by decide +kernel)) rfl, tb_in (List.mem_of_getElem? (i := 45) (by decide +kernel)) rfl, by decide +kernel, by decide +kernel, by decide +kernel⟩
theorem mv_X4_valueOf : MV yX4_valueOf cX4_valueOf 5 (some .int) 1 := ⟨tb_in (List.mem_of_getElem? (i := 456) (by decide +kernel)) rfl, tb_in (List.mem_of_getElem? (i := 454) (by decide +kernel)) rfl, tb_in (List.mem_of_getElem? (i := 455) (by decide +kernel)) rfl, tb_in (List.mem_of_getElem? (i := 45) (by decide +kernel)) rfl, by decide +kernel, by decide +kernel, by decide +kernel⟩
theorem ms_X4_isSign : MS yX4_isSign cX4_isSign 1 (some .boolean) 1 := ⟨tb_in (List.mem_of_getElem? (i := 459) (by decide +kernel)) rfl, tb_in (List.mem_of_getElem? (i := 458) (by decide +kernel)) rfl, tb_in (List.mem_of_getElem? (i := 45) (by decide +kernel)) rfl, by decide +kernel, by decide +kernel, by decide +kernel⟩
theorem mv_X4_meaningOf : MV yX4_meaningOf cX4_meaningOf 3 (some .int) 1 := ⟨tb_in (List.mem_of_getElem? (i := 541) (by decide +kernel)) rfl, tb_in (List.mem_of_getElem? (i := 540) (by decide +kernel)) rfl, tb_in (List.mem_of_getElem? (i := 7) (by decide +kernel)) rfl, tb_in (List.mem_of_getElem? (i := 45) (by decide +kernel)) rfl, by decide +kernel, by decide +kernel, by decide +kernel⟩
theorem ms_X4_truth : MS yX4_truth cX4_truth 1 (some .int) 1 := ⟨tb_in (List.mem_of_getElem? (i := 544) (by decide +kernel)) rfl, tb_in (List.mem_of_getElem? (i := 543) (by decide +kernel)) rfl, tb_in (List.mem_of_getElem? (i := 45) (by decide +kernel)) rfl, by decide +kernel, by decide +kernel, by decide +kernel⟩
theorem ms_X4_join : MS yX4_join cX4_join 3 (some .int) 3 := ⟨tb_in (List.mem_of_getElem? (i := 547) (by decide +kernel)) rfl, tb_in (List.mem_of_getElem? (i := 546) (by decide +kernel)) rfl, tb_in (List.mem_of_getElem? (i := 45) (by decide +kernel)) rfl, by decide +kernel, by decide +kernel, by decide +kernel⟩
theorem mv_X5_weigh : MV yX5_weigh cX5_weigh 4 none 1 := ⟨tb_in (List.mem_of_getElem? (i := 385) (by decide +kernel)) rfl, tb_in (List.mem_of_getElem? (i := 383) (by decide +kernel)) rfl, tb_in (List.mem_of_getElem? (i := 384) (by decide +kernel)) rfl, tb_in (List.mem_of_getElem? (i := 42) (by decide +kernel)) rfl, by decide +kernel, by decide +kernel, by decide +kernel⟩
theorem mv_X5_passDown : MV yX5_passDown cX5_passDown 4 none 2 := ⟨tb_in (List.mem_of_getElem? (i := 398) (by decide +kernel)) rfl, tb_in (List.mem_of_getElem? (i := 397) (by decide +kernel)) rfl, tb_in (List.mem_of_getElem? (i := 2) (by decide +kernel)) rfl, tb_in (List.mem_of_getElem? (i := 42) (by decide +kernel)) rfl, by decide +kernel, by decide +kernel, by decide +kernel⟩
theorem mv_X5_pushAside : MV yX5_pushAside cX5_pushAside 4 none 2 := ⟨tb_in (List.mem_of_getElem? (i := 406) (by decide +kernel)) rfl, tb_in (List.mem_of_getElem? (i := 405) (by decide +kernel)) rfl, tb_in (List.mem_of_getElem? (i := 3) (by decide +kernel)) rfl, tb_in (List.mem_of_getElem? (i := 42) (by decide +kernel)) rfl, by decide +kernel, by decide +kernel, by decide +kernel⟩
theorem mv_X5_leastFalling : MV yX5_leastFalling cX5_leastFalling 4 (some .int) 1 := ⟨tb_in (List.mem_of_getElem? (i := 381) (by decide +kernel)) rfl, tb_in (List.mem_of_getElem? (i := 379) (by decide +kernel)) rfl, tb_in (List.mem_of_getElem? (i := 380) (by decide +kernel)) rfl, tb_in (List.mem_of_getElem? (i := 42) (by decide +kernel)) rfl, by decide +kernel, by decide +kernel, by decide +kernel⟩
theorem mv_X6_take : MV yX6_take cX6_take 4 none 2 := ⟨tb_in (List.mem_of_getElem? (i := 634) (by decide +kernel)) rfl, tb_in (List.mem_of_getElem? (i := 632) (by decide +kernel)) rfl, tb_in (List.mem_of_getElem? (i := 633) (by decide +kernel)) rfl, tb_in (List.mem_of_getElem? (i := 44) (by decide +kernel)) rfl, by decide +kernel, by decide +kernel, by decide +kernel⟩
theorem mv_X6_asText : MV yX6_asText cX6_asText 1 (some (.object "ChurchLodge$Text")) 0 := ⟨tb_in (List.mem_of_getElem? (i := 673) (by decide +kernel)) rfl, tb_in (List.mem_of_getElem? (i := 671) (by decide +kernel)) rfl, tb_in (List.mem_of_getElem? (i := 672) (by decide +kernel)) rfl, tb_in (List.mem_of_getElem? (i := 44) (by decide +kernel)) rfl, by decide +kernel, by decide +kernel, by decide +kernel⟩
theorem mv_X6_read : MV yX6_read cX6_read 5 (some .int) 0 := ⟨tb_in (List.mem_of_getElem? (i := 643) (by decide +kernel)) rfl, tb_in (List.mem_of_getElem? (i := 641) (by decide +kernel)) rfl, tb_in (List.mem_of_getElem? (i := 642) (by decide +kernel)) rfl, tb_in (List.mem_of_getElem? (i := 44) (by decide +kernel)) rfl, by decide +kernel, by decide +kernel, by decide +kernel⟩
theorem mv_X6_openSign : MV yX6_openSign cX6_openSign 2 none 1 := ⟨tb_in (List.mem_of_getElem? (i := 649) (by decide +kernel)) rfl, tb_in (List.mem_of_getElem? (i := 648) (by decide +kernel)) rfl, tb_in (List.mem_of_getElem? (i := 12) (by decide +kernel)) rfl, tb_in (List.mem_of_getElem? (i := 44) (by decide +kernel)) rfl, by decide +kernel, by decide +kernel, by decide +kernel⟩
theorem mv_X6_closeSigns : MV yX6_closeSigns cX6_closeSigns 1 (some .boolean) 0 := ⟨tb_in (List.mem_of_getElem? (i := 669) (by decide +kernel)) rfl, tb_in (List.mem_of_getElem? (i := 668) (by decide +kernel)) rfl, tb_in (List.mem_of_getElem? (i := 16) (by decide +kernel)) rfl, tb_in (List.mem_of_getElem? (i := 44) (by decide +kernel)) rfl, by decide +kernel, by decide +kernel, by decide +kernel⟩
theorem mv_X6_readLeaf : MV yX6_readLeaf cX6_readLeaf 3 (some .int) 1 := ⟨tb_in (List.mem_of_getElem? (i := 657) (by decide +kernel)) rfl, tb_in (List.mem_of_getElem? (i := 656) (by decide +kernel)) rfl, tb_in (List.mem_of_getElem? (i := 14) (by decide +kernel)) rfl, tb_in (List.mem_of_getElem? (i := 44) (by decide +kernel)) rfl, by decide +kernel, by decide +kernel, by decide +kernel⟩
theorem mv_X6_readNumber : MV yX6_readNumber cX6_readNumber 4 (some .int) 1 := ⟨tb_in (List.mem_of_getElem? (i := 661) (by decide +kernel)) rfl, tb_in (List.mem_of_getElem? (i := 660) (by decide +kernel)) rfl, tb_in (List.mem_of_getElem? (i := 15) (by decide +kernel)) rfl, tb_in (List.mem_of_getElem? (i := 44) (by decide +kernel)) rfl, by decide +kernel, by decide +kernel, by decide +kernel⟩
theorem mv_X6_keep : MV yX6_keep cX6_keep 2 none 1 := ⟨tb_in (List.mem_of_getElem? (i := 653) (by decide +kernel)) rfl, tb_in (List.mem_of_getElem? (i := 652) (by decide +kernel)) rfl, tb_in (List.mem_of_getElem? (i := 13) (by decide +kernel)) rfl, tb_in (List.mem_of_getElem? (i := 44) (by decide +kernel)) rfl, by decide +kernel, by decide +kernel, by decide +kernel⟩
theorem ms_X6_isDigit : MS yX6_isDigit cX6_isDigit 1 (some .boolean) 1 := ⟨tb_in (List.mem_of_getElem? (i := 664) (by decide +kernel)) rfl, tb_in (List.mem_of_getElem? (i := 663) (by decide +kernel)) rfl, tb_in (List.mem_of_getElem? (i := 44) (by decide +kernel)) rfl, by decide +kernel, by decide +kernel, by decide +kernel⟩
theorem mv_X8_part : MV yX8_part cX8_part 4 (some .int) 3 := ⟨tb_in (List.mem_of_getElem? (i := 231) (by decide +kernel)) rfl, tb_in (List.mem_of_getElem? (i := 229) (by decide +kernel)) rfl, tb_in (List.mem_of_getElem? (i := 230) (by decide +kernel)) rfl, tb_in (List.mem_of_getElem? (i := 40) (by decide +kernel)) rfl, by decide +kernel, by decide +kernel, by decide +kernel⟩
theorem mv_X8_arch : MV yX8_arch cX8_arch 7 (some .int) 5 := ⟨tb_in (List.mem_of_getElem? (i := 318) (by decide +kernel)) rfl, tb_in (List.mem_of_getElem? (i := 316) (by decide +kernel)) rfl, tb_in (List.mem_of_getElem? (i := 317) (by decide +kernel)) rfl, tb_in (List.mem_of_getElem? (i := 40) (by decide +kernel)) rfl, by decide +kernel, by decide +kernel, by decide +kernel⟩
theorem mv_X8_bear : MV yX8_bear cX8_bear 8 (some .int) 5 := ⟨tb_in (List.mem_of_getElem? (i := 330) (by decide +kernel)) rfl, tb_in (List.mem_of_getElem? (i := 328) (by decide +kernel)) rfl, tb_in (List.mem_of_getElem? (i := 329) (by decide +kernel)) rfl, tb_in (List.mem_of_getElem? (i := 40) (by decide +kernel)) rfl, by decide +kernel, by decide +kernel, by decide +kernel⟩
theorem mv_X8_edit : MV yX8_edit cX8_edit 4 (some .int) 2 := ⟨tb_in (List.mem_of_getElem? (i := 358) (by decide +kernel)) rfl, tb_in (List.mem_of_getElem? (i := 356) (by decide +kernel)) rfl, tb_in (List.mem_of_getElem? (i := 357) (by decide +kernel)) rfl, tb_in (List.mem_of_getElem? (i := 40) (by decide +kernel)) rfl, by decide +kernel, by decide +kernel, by decide +kernel⟩
theorem mv_X8_wanted : MV yX8_wanted cX8_wanted 3 (some .int) 2 := ⟨tb_in (List.mem_of_getElem? (i := 362) (by decide +kernel)) rfl, tb_in (List.mem_of_getElem? (i := 360) (by decide +kernel)) rfl, tb_in (List.mem_of_getElem? (i := 361) (by decide +kernel)) rfl, tb_in (List.mem_of_getElem? (i := 40) (by decide +kernel)) rfl, by decide +kernel, by decide +kernel, by decide +kernel⟩
theorem mv_X8_tell : MV yX8_tell cX8_tell 6 (some .int) 3 := ⟨tb_in (List.mem_of_getElem? (i := 371) (by decide +kernel)) rfl, tb_in (List.mem_of_getElem? (i := 369) (by decide +kernel)) rfl, tb_in (List.mem_of_getElem? (i := 370) (by decide +kernel)) rfl, tb_in (List.mem_of_getElem? (i := 40) (by decide +kernel)) rfl, by decide +kernel, by decide +kernel, by decide +kernel⟩
theorem mv_X8_lay : MV yX8_lay cX8_lay 4 (some .int) 1 := ⟨tb_in (List.mem_of_getElem? (i := 414) (by decide +kernel)) rfl, tb_in (List.mem_of_getElem? (i := 412) (by decide +kernel)) rfl, tb_in (List.mem_of_getElem? (i := 413) (by decide +kernel)) rfl, tb_in (List.mem_of_getElem? (i := 40) (by decide +kernel)) rfl, by decide +kernel, by decide +kernel, by decide +kernel⟩
theorem mv_X8_may : MV yX8_may cX8_may 3 (some .int) 1 := ⟨tb_in (List.mem_of_getElem? (i := 582) (by decide +kernel)) rfl, tb_in (List.mem_of_getElem? (i := 580) (by decide +kernel)) rfl, tb_in (List.mem_of_getElem? (i := 581) (by decide +kernel)) rfl, tb_in (List.mem_of_getElem? (i := 40) (by decide +kernel)) rfl, by decide +kernel, by decide +kernel, by decide +kernel⟩
theorem mv_X8_falls : MV yX8_falls cX8_falls 3 (some .int) 1 := ⟨tb_in (List.mem_of_getElem? (i := 586) (by decide +kernel)) rfl, tb_in (List.mem_of_getElem? (i := 584) (by decide +kernel)) rfl, tb_in (List.mem_of_getElem? (i := 585) (by decide +kernel)) rfl, tb_in (List.mem_of_getElem? (i := 40) (by decide +kernel)) rfl, by decide +kernel, by decide +kernel, by decide +kernel⟩
theorem mv_X8_strike : MV yX8_strike cX8_strike 3 (some .int) 1 := ⟨tb_in (List.mem_of_getElem? (i := 590) (by decide +kernel)) rfl, tb_in (List.mem_of_getElem? (i := 588) (by decide +kernel)) rfl, tb_in (List.mem_of_getElem? (i := 589) (by decide +kernel)) rfl, tb_in (List.mem_of_getElem? (i := 40) (by decide +kernel)) rfl, by decide +kernel, by decide +kernel, by decide +kernel⟩
theorem mv_X8_prop : MV yX8_prop cX8_prop 5 (some .int) 2 := ⟨tb_in (List.mem_of_getElem? (i := 595) (by decide +kernel)) rfl, tb_in (List.mem_of_getElem? (i := 593) (by decide +kernel)) rfl, tb_in (List.mem_of_getElem? (i := 594) (by decide +kernel)) rfl, tb_in (List.mem_of_getElem? (i := 40) (by decide +kernel)) rfl, by decide +kernel, by decide +kernel, by decide +kernel⟩
theorem mv_X8_month : MV yX8_month cX8_month 2 (some .int) 1 := ⟨tb_in (List.mem_of_getElem? (i := 600) (by decide +kernel)) rfl, tb_in (List.mem_of_getElem? (i := 598) (by decide +kernel)) rfl, tb_in (List.mem_of_getElem? (i := 599) (by decide +kernel)) rfl, tb_in (List.mem_of_getElem? (i := 40) (by decide +kernel)) rfl, by decide +kernel, by decide +kernel, by decide +kernel⟩
theorem mv_X8_frost : MV yX8_frost cX8_frost 3 (some .int) 1 := ⟨tb_in (List.mem_of_getElem? (i := 614) (by decide +kernel)) rfl, tb_in (List.mem_of_getElem? (i := 612) (by decide +kernel)) rfl, tb_in (List.mem_of_getElem? (i := 613) (by decide +kernel)) rfl, tb_in (List.mem_of_getElem? (i := 40) (by decide +kernel)) rfl, by decide +kernel, by decide +kernel, by decide +kernel⟩
theorem mv_X8_bitter : MV yX8_bitter cX8_bitter 2 (some .int) 1 := ⟨tb_in (List.mem_of_getElem? (i := 618) (by decide +kernel)) rfl, tb_in (List.mem_of_getElem? (i := 616) (by decide +kernel)) rfl, tb_in (List.mem_of_getElem? (i := 617) (by decide +kernel)) rfl, tb_in (List.mem_of_getElem? (i := 40) (by decide +kernel)) rfl, by decide +kernel, by decide +kernel, by decide +kernel⟩
theorem mv_X8_feed : MV yX8_feed cX8_feed 3 (some .int) 2 := ⟨tb_in (List.mem_of_getElem? (i := 630) (by decide +kernel)) rfl, tb_in (List.mem_of_getElem? (i := 628) (by decide +kernel)) rfl, tb_in (List.mem_of_getElem? (i := 629) (by decide +kernel)) rfl, tb_in (List.mem_of_getElem? (i := 40) (by decide +kernel)) rfl, by decide +kernel, by decide +kernel, by decide +kernel⟩
theorem mv_X8_gift : MV yX8_gift cX8_gift 4 (some .int) 1 := ⟨tb_in (List.mem_of_getElem? (i := 638) (by decide +kernel)) rfl, tb_in (List.mem_of_getElem? (i := 636) (by decide +kernel)) rfl, tb_in (List.mem_of_getElem? (i := 637) (by decide +kernel)) rfl, tb_in (List.mem_of_getElem? (i := 40) (by decide +kernel)) rfl, by decide +kernel, by decide +kernel, by decide +kernel⟩
theorem mv_X8_statute : MV yX8_statute cX8_statute 3 (some .int) 1 := ⟨tb_in (List.mem_of_getElem? (i := 720) (by decide +kernel)) rfl, tb_in (List.mem_of_getElem? (i := 718) (by decide +kernel)) rfl, tb_in (List.mem_of_getElem? (i := 719) (by decide +kernel)) rfl, tb_in (List.mem_of_getElem? (i := 40) (by decide +kernel)) rfl, by decide +kernel, by decide +kernel, by decide +kernel⟩
theorem mv_X8_end : MV yX8_end cX8_end 5 (some .int) 2 := ⟨tb_in (List.mem_of_getElem? (i := 724) (by decide +kernel)) rfl, tb_in (List.mem_of_getElem? (i := 722) (by decide +kernel)) rfl, tb_in (List.mem_of_getElem? (i := 723) (by decide +kernel)) rfl, tb_in (List.mem_of_getElem? (i := 40) (by decide +kernel)) rfl, by decide +kernel, by decide +kernel, by decide +kernel⟩
theorem mv_X8_about : MV yX8_about cX8_about 4 (some .int) 2 := ⟨tb_in (List.mem_of_getElem? (i := 729) (by decide +kernel)) rfl, tb_in (List.mem_of_getElem? (i := 727) (by decide +kernel)) rfl, tb_in (List.mem_of_getElem? (i := 728) (by decide +kernel)) rfl, tb_in (List.mem_of_getElem? (i := 40) (by decide +kernel)) rfl, by decide +kernel, by decide +kernel, by decide +kernel⟩
theorem mv_X8_support : MV yX8_support cX8_support 4 (some .int) 2 := ⟨tb_in (List.mem_of_getElem? (i := 751) (by decide +kernel)) rfl, tb_in (List.mem_of_getElem? (i := 749) (by decide +kernel)) rfl, tb_in (List.mem_of_getElem? (i := 750) (by decide +kernel)) rfl, tb_in (List.mem_of_getElem? (i := 40) (by decide +kernel)) rfl, by decide +kernel, by decide +kernel, by decide +kernel⟩
theorem mv_X8_left : MV yX8_left cX8_left 4 (some .int) 2 := ⟨tb_in (List.mem_of_getElem? (i := 755) (by decide +kernel)) rfl, tb_in (List.mem_of_getElem? (i := 753) (by decide +kernel)) rfl, tb_in (List.mem_of_getElem? (i := 754) (by decide +kernel)) rfl, tb_in (List.mem_of_getElem? (i := 40) (by decide +kernel)) rfl, by decide +kernel, by decide +kernel, by decide +kernel⟩
theorem mv_X8_work : MV yX8_work cX8_work 2 (some .int) 0 := ⟨tb_in (List.mem_of_getElem? (i := 432) (by decide +kernel)) rfl, tb_in (List.mem_of_getElem? (i := 430) (by decide +kernel)) rfl, tb_in (List.mem_of_getElem? (i := 431) (by decide +kernel)) rfl, tb_in (List.mem_of_getElem? (i := 40) (by decide +kernel)) rfl, by decide +kernel, by decide +kernel, by decide +kernel⟩
theorem mv_X8_as : MV yX8_as cX8_as 4 (some .int) 2 := ⟨tb_in (List.mem_of_getElem? (i := 760) (by decide +kernel)) rfl, tb_in (List.mem_of_getElem? (i := 758) (by decide +kernel)) rfl, tb_in (List.mem_of_getElem? (i := 759) (by decide +kernel)) rfl, tb_in (List.mem_of_getElem? (i := 40) (by decide +kernel)) rfl, by decide +kernel, by decide +kernel, by decide +kernel⟩
theorem mv_X8_down : MV yX8_down cX8_down 3 (some .int) 1 := ⟨tb_in (List.mem_of_getElem? (i := 768) (by decide +kernel)) rfl, tb_in (List.mem_of_getElem? (i := 766) (by decide +kernel)) rfl, tb_in (List.mem_of_getElem? (i := 767) (by decide +kernel)) rfl, tb_in (List.mem_of_getElem? (i := 40) (by decide +kernel)) rfl, by decide +kernel, by decide +kernel, by decide +kernel⟩
theorem mv_X8_needs : MV yX8_needs cX8_needs 5 (some .int) 1 := ⟨tb_in (List.mem_of_getElem? (i := 777) (by decide +kernel)) rfl, tb_in (List.mem_of_getElem? (i := 775) (by decide +kernel)) rfl, tb_in (List.mem_of_getElem? (i := 776) (by decide +kernel)) rfl, tb_in (List.mem_of_getElem? (i := 40) (by decide +kernel)) rfl, by decide +kernel, by decide +kernel, by decide +kernel⟩
theorem mv_X8_count : MV yX8_count cX8_count 2 (some .int) 1 := ⟨tb_in (List.mem_of_getElem? (i := 786) (by decide +kernel)) rfl, tb_in (List.mem_of_getElem? (i := 784) (by decide +kernel)) rfl, tb_in (List.mem_of_getElem? (i := 785) (by decide +kernel)) rfl, tb_in (List.mem_of_getElem? (i := 40) (by decide +kernel)) rfl, by decide +kernel, by decide +kernel, by decide +kernel⟩
theorem ms_X8_isMeasure : MS yX8_isMeasure cX8_isMeasure 3 (some .boolean) 3 := ⟨tb_in (List.mem_of_getElem? (i := 234) (by decide +kernel)) rfl, tb_in (List.mem_of_getElem? (i := 233) (by decide +kernel)) rfl, tb_in (List.mem_of_getElem? (i := 40) (by decide +kernel)) rfl, by decide +kernel, by decide +kernel, by decide +kernel⟩
theorem mv_X8_stands : MV yX8_stands cX8_stands 1 (some .boolean) 0 := ⟨tb_in (List.mem_of_getElem? (i := 377) (by decide +kernel)) rfl, tb_in (List.mem_of_getElem? (i := 376) (by decide +kernel)) rfl, tb_in (List.mem_of_getElem? (i := 1) (by decide +kernel)) rfl, tb_in (List.mem_of_getElem? (i := 40) (by decide +kernel)) rfl, by decide +kernel, by decide +kernel, by decide +kernel⟩
theorem mv_X8_loadOf : MV yX8_loadOf cX8_loadOf 2 (some .int) 1 := ⟨tb_in (List.mem_of_getElem? (i := 733) (by decide +kernel)) rfl, tb_in (List.mem_of_getElem? (i := 732) (by decide +kernel)) rfl, tb_in (List.mem_of_getElem? (i := 17) (by decide +kernel)) rfl, tb_in (List.mem_of_getElem? (i := 40) (by decide +kernel)) rfl, by decide +kernel, by decide +kernel, by decide +kernel⟩
theorem mv_X8_pushToRightOn : MV yX8_pushToRightOn cX8_pushToRightOn 2 (some .int) 1 := ⟨tb_in (List.mem_of_getElem? (i := 738) (by decide +kernel)) rfl, tb_in (List.mem_of_getElem? (i := 737) (by decide +kernel)) rfl, tb_in (List.mem_of_getElem? (i := 18) (by decide +kernel)) rfl, tb_in (List.mem_of_getElem? (i := 40) (by decide +kernel)) rfl, by decide +kernel, by decide +kernel, by decide +kernel⟩
theorem mv_X8_fallByCourse : MV yX8_fallByCourse cX8_fallByCourse 3 (some .int) 1 := ⟨tb_in (List.mem_of_getElem? (i := 569) (by decide +kernel)) rfl, tb_in (List.mem_of_getElem? (i := 568) (by decide +kernel)) rfl, tb_in (List.mem_of_getElem? (i := 10) (by decide +kernel)) rfl, tb_in (List.mem_of_getElem? (i := 40) (by decide +kernel)) rfl, by decide +kernel, by decide +kernel, by decide +kernel⟩
theorem mv_X8_hindranceOfCourse : MV yX8_hindranceOfCourse cX8_hindranceOfCourse 3 (some .int) 2 := ⟨tb_in (List.mem_of_getElem? (i := 418) (by decide +kernel)) rfl, tb_in (List.mem_of_getElem? (i := 417) (by decide +kernel)) rfl, tb_in (List.mem_of_getElem? (i := 4) (by decide +kernel)) rfl, tb_in (List.mem_of_getElem? (i := 40) (by decide +kernel)) rfl, by decide +kernel, by decide +kernel, by decide +kernel⟩
theorem mv_X8_findGift : MV yX8_findGift cX8_findGift 2 (some (.object "ChurchLodge$Gift")) 1 := ⟨tb_in (List.mem_of_getElem? (i := 560) (by decide +kernel)) rfl, tb_in (List.mem_of_getElem? (i := 559) (by decide +kernel)) rfl, tb_in (List.mem_of_getElem? (i := 9) (by decide +kernel)) rfl, tb_in (List.mem_of_getElem? (i := 40) (by decide +kernel)) rfl, by decide +kernel, by decide +kernel, by decide +kernel⟩
theorem mv_X8_coinsRemaining : MV yX8_coinsRemaining cX8_coinsRemaining 4 (some .int) 0 := ⟨tb_in (List.mem_of_getElem? (i := 794) (by decide +kernel)) rfl, tb_in (List.mem_of_getElem? (i := 793) (by decide +kernel)) rfl, tb_in (List.mem_of_getElem? (i := 19) (by decide +kernel)) rfl, tb_in (List.mem_of_getElem? (i := 40) (by decide +kernel)) rfl, by decide +kernel, by decide +kernel, by decide +kernel⟩
theorem mv_X8_coinsFor : MV yX8_coinsFor cX8_coinsFor 6 (some .int) 2 := ⟨tb_in (List.mem_of_getElem? (i := 552) (by decide +kernel)) rfl, tb_in (List.mem_of_getElem? (i := 551) (by decide +kernel)) rfl, tb_in (List.mem_of_getElem? (i := 8) (by decide +kernel)) rfl, tb_in (List.mem_of_getElem? (i := 40) (by decide +kernel)) rfl, by decide +kernel, by decide +kernel, by decide +kernel⟩
theorem mv_X8_payFor : MV yX8_payFor cX8_payFor 7 none 2 := ⟨tb_in (List.mem_of_getElem? (i := 573) (by decide +kernel)) rfl, tb_in (List.mem_of_getElem? (i := 572) (by decide +kernel)) rfl, tb_in (List.mem_of_getElem? (i := 11) (by decide +kernel)) rfl, tb_in (List.mem_of_getElem? (i := 40) (by decide +kernel)) rfl, by decide +kernel, by decide +kernel, by decide +kernel⟩
theorem mv_X8_nameMonth : MV yX8_nameMonth cX8_nameMonth 1 none 0 := ⟨tb_in (List.mem_of_getElem? (i := 440) (by decide +kernel)) rfl, tb_in (List.mem_of_getElem? (i := 439) (by decide +kernel)) rfl, tb_in (List.mem_of_getElem? (i := 6) (by decide +kernel)) rfl, tb_in (List.mem_of_getElem? (i := 40) (by decide +kernel)) rfl, by decide +kernel, by decide +kernel, by decide +kernel⟩
theorem mv_X8_statuteInForce : MV yX8_statuteInForce cX8_statuteInForce 2 (some .int) 0 := ⟨tb_in (List.mem_of_getElem? (i := 436) (by decide +kernel)) rfl, tb_in (List.mem_of_getElem? (i := 435) (by decide +kernel)) rfl, tb_in (List.mem_of_getElem? (i := 5) (by decide +kernel)) rfl, tb_in (List.mem_of_getElem? (i := 40) (by decide +kernel)) rfl, by decide +kernel, by decide +kernel, by decide +kernel⟩
theorem ms_X9_in : MS yX9_in cX9_in 3 (some .boolean) 3 := ⟨tb_in (List.mem_of_getElem? (i := 953) (by decide +kernel)) rfl, tb_in (List.mem_of_getElem? (i := 952) (by decide +kernel)) rfl, tb_in (List.mem_of_getElem? (i := 47) (by decide +kernel)) rfl, by decide +kernel, by decide +kernel, by decide +kernel⟩
theorem mv_X9_isPart : MV yX9_isPart cX9_isPart 2 (some .boolean) 1 := ⟨tb_in (List.mem_of_getElem? (i := 966) (by decide +kernel)) rfl, tb_in (List.mem_of_getElem? (i := 965) (by decide +kernel)) rfl, tb_in (List.mem_of_getElem? (i := 21) (by decide +kernel)) rfl, tb_in (List.mem_of_getElem? (i := 47) (by decide +kernel)) rfl, by decide +kernel, by decide +kernel, by decide +kernel⟩
theorem mv_X9_newPart : MV yX9_newPart cX9_newPart 6 (some .int) 4 := ⟨tb_in (List.mem_of_getElem? (i := 957) (by decide +kernel)) rfl, tb_in (List.mem_of_getElem? (i := 956) (by decide +kernel)) rfl, tb_in (List.mem_of_getElem? (i := 20) (by decide +kernel)) rfl, tb_in (List.mem_of_getElem? (i := 47) (by decide +kernel)) rfl, by decide +kernel, by decide +kernel, by decide +kernel⟩
theorem ms_X9_isPlan : MS yX9_isPlan cX9_isPlan 3 (some .boolean) 3 := ⟨tb_in (List.mem_of_getElem? (i := 950) (by decide +kernel)) rfl, tb_in (List.mem_of_getElem? (i := 949) (by decide +kernel)) rfl, tb_in (List.mem_of_getElem? (i := 47) (by decide +kernel)) rfl, by decide +kernel, by decide +kernel, by decide +kernel⟩
theorem mv_X9_part : MV yX9_part cX9_part 4 (some .int) 3 := ⟨tb_in (List.mem_of_getElem? (i := 947) (by decide +kernel)) rfl, tb_in (List.mem_of_getElem? (i := 945) (by decide +kernel)) rfl, tb_in (List.mem_of_getElem? (i := 946) (by decide +kernel)) rfl, tb_in (List.mem_of_getElem? (i := 47) (by decide +kernel)) rfl, by decide +kernel, by decide +kernel, by decide +kernel⟩
theorem mv_X9_support0 : MV yX9_support0 cX9_support0 5 none 4 := ⟨tb_in (List.mem_of_getElem? (i := 970) (by decide +kernel)) rfl, tb_in (List.mem_of_getElem? (i := 969) (by decide +kernel)) rfl, tb_in (List.mem_of_getElem? (i := 22) (by decide +kernel)) rfl, tb_in (List.mem_of_getElem? (i := 47) (by decide +kernel)) rfl, by decide +kernel, by decide +kernel, by decide +kernel⟩
theorem mv_X9_arch : MV yX9_arch cX9_arch 7 (some .int) 5 := ⟨tb_in (List.mem_of_getElem? (i := 962) (by decide +kernel)) rfl, tb_in (List.mem_of_getElem? (i := 960) (by decide +kernel)) rfl, tb_in (List.mem_of_getElem? (i := 961) (by decide +kernel)) rfl, tb_in (List.mem_of_getElem? (i := 47) (by decide +kernel)) rfl, by decide +kernel, by decide +kernel, by decide +kernel⟩
theorem mv_X9_edition : MV yX9_edition cX9_edition 2 none 0 := ⟨tb_in (List.mem_of_getElem? (i := 978) (by decide +kernel)) rfl, tb_in (List.mem_of_getElem? (i := 977) (by decide +kernel)) rfl, tb_in (List.mem_of_getElem? (i := 23) (by decide +kernel)) rfl, tb_in (List.mem_of_getElem? (i := 47) (by decide +kernel)) rfl, by decide +kernel, by decide +kernel, by decide +kernel⟩
theorem mv_X9_bear : MV yX9_bear cX9_bear 10 (some .int) 5 := ⟨tb_in (List.mem_of_getElem? (i := 974) (by decide +kernel)) rfl, tb_in (List.mem_of_getElem? (i := 972) (by decide +kernel)) rfl, tb_in (List.mem_of_getElem? (i := 973) (by decide +kernel)) rfl, tb_in (List.mem_of_getElem? (i := 47) (by decide +kernel)) rfl, by decide +kernel, by decide +kernel, by decide +kernel⟩
theorem mv_X9_edit : MV yX9_edit cX9_edit 3 (some .int) 2 := ⟨tb_in (List.mem_of_getElem? (i := 982) (by decide +kernel)) rfl, tb_in (List.mem_of_getElem? (i := 980) (by decide +kernel)) rfl, tb_in (List.mem_of_getElem? (i := 981) (by decide +kernel)) rfl, tb_in (List.mem_of_getElem? (i := 47) (by decide +kernel)) rfl, by decide +kernel, by decide +kernel, by decide +kernel⟩
theorem mv_X9_wanted : MV yX9_wanted cX9_wanted 3 (some .int) 2 := ⟨tb_in (List.mem_of_getElem? (i := 986) (by decide +kernel)) rfl, tb_in (List.mem_of_getElem? (i := 984) (by decide +kernel)) rfl, tb_in (List.mem_of_getElem? (i := 985) (by decide +kernel)) rfl, tb_in (List.mem_of_getElem? (i := 47) (by decide +kernel)) rfl, by decide +kernel, by decide +kernel, by decide +kernel⟩
theorem mv_X9_goes : MV yX9_goes cX9_goes 5 (some .int) 2 := ⟨tb_in (List.mem_of_getElem? (i := 1002) (by decide +kernel)) rfl, tb_in (List.mem_of_getElem? (i := 1001) (by decide +kernel)) rfl, tb_in (List.mem_of_getElem? (i := 26) (by decide +kernel)) rfl, tb_in (List.mem_of_getElem? (i := 47) (by decide +kernel)) rfl, by decide +kernel, by decide +kernel, by decide +kernel⟩
theorem mv_X9_weigh : MV yX9_weigh cX9_weigh 3 none 0 := ⟨tb_in (List.mem_of_getElem? (i := 998) (by decide +kernel)) rfl, tb_in (List.mem_of_getElem? (i := 997) (by decide +kernel)) rfl, tb_in (List.mem_of_getElem? (i := 25) (by decide +kernel)) rfl, tb_in (List.mem_of_getElem? (i := 47) (by decide +kernel)) rfl, by decide +kernel, by decide +kernel, by decide +kernel⟩
theorem mv_X9_net : MV yX9_net cX9_net 2 (some .int) 1 := ⟨tb_in (List.mem_of_getElem? (i := 1007) (by decide +kernel)) rfl, tb_in (List.mem_of_getElem? (i := 1006) (by decide +kernel)) rfl, tb_in (List.mem_of_getElem? (i := 27) (by decide +kernel)) rfl, tb_in (List.mem_of_getElem? (i := 47) (by decide +kernel)) rfl, by decide +kernel, by decide +kernel, by decide +kernel⟩
theorem mv_X9_falling : MV yX9_falling cX9_falling 2 (some .int) 0 := ⟨tb_in (List.mem_of_getElem? (i := 994) (by decide +kernel)) rfl, tb_in (List.mem_of_getElem? (i := 993) (by decide +kernel)) rfl, tb_in (List.mem_of_getElem? (i := 24) (by decide +kernel)) rfl, tb_in (List.mem_of_getElem? (i := 47) (by decide +kernel)) rfl, by decide +kernel, by decide +kernel, by decide +kernel⟩
theorem mv_X9_fallingBy : MV yX9_fallingBy cX9_fallingBy 4 (some .int) 1 := ⟨tb_in (List.mem_of_getElem? (i := 1086) (by decide +kernel)) rfl, tb_in (List.mem_of_getElem? (i := 1085) (by decide +kernel)) rfl, tb_in (List.mem_of_getElem? (i := 37) (by decide +kernel)) rfl, tb_in (List.mem_of_getElem? (i := 47) (by decide +kernel)) rfl, by decide +kernel, by decide +kernel, by decide +kernel⟩
theorem mv_X9_tell : MV yX9_tell cX9_tell 5 (some .int) 3 := ⟨tb_in (List.mem_of_getElem? (i := 990) (by decide +kernel)) rfl, tb_in (List.mem_of_getElem? (i := 988) (by decide +kernel)) rfl, tb_in (List.mem_of_getElem? (i := 989) (by decide +kernel)) rfl, tb_in (List.mem_of_getElem? (i := 47) (by decide +kernel)) rfl, by decide +kernel, by decide +kernel, by decide +kernel⟩
theorem mv_X9_feed : MV yX9_feed cX9_feed 4 (some .int) 2 := ⟨tb_in (List.mem_of_getElem? (i := 1012) (by decide +kernel)) rfl, tb_in (List.mem_of_getElem? (i := 1010) (by decide +kernel)) rfl, tb_in (List.mem_of_getElem? (i := 1011) (by decide +kernel)) rfl, tb_in (List.mem_of_getElem? (i := 47) (by decide +kernel)) rfl, by decide +kernel, by decide +kernel, by decide +kernel⟩
theorem ms_X9_isDigit : MS yX9_isDigit cX9_isDigit 1 (some .boolean) 1 := ⟨tb_in (List.mem_of_getElem? (i := 1030) (by decide +kernel)) rfl, tb_in (List.mem_of_getElem? (i := 1029) (by decide +kernel)) rfl, tb_in (List.mem_of_getElem? (i := 47) (by decide +kernel)) rfl, by decide +kernel, by decide +kernel, by decide +kernel⟩
theorem ms_X9_isName : MS yX9_isName cX9_isName 1 (some .boolean) 1 := ⟨tb_in (List.mem_of_getElem? (i := 1033) (by decide +kernel)) rfl, tb_in (List.mem_of_getElem? (i := 1032) (by decide +kernel)) rfl, tb_in (List.mem_of_getElem? (i := 47) (by decide +kernel)) rfl, by decide +kernel, by decide +kernel, by decide +kernel⟩
theorem ms_X9_isSign : MS yX9_isSign cX9_isSign 1 (some .boolean) 1 := ⟨tb_in (List.mem_of_getElem? (i := 1023) (by decide +kernel)) rfl, tb_in (List.mem_of_getElem? (i := 1022) (by decide +kernel)) rfl, tb_in (List.mem_of_getElem? (i := 47) (by decide +kernel)) rfl, by decide +kernel, by decide +kernel, by decide +kernel⟩
theorem mv_X9_lay0 : MV yX9_lay0 cX9_lay0 2 none 1 := ⟨tb_in (List.mem_of_getElem? (i := 1027) (by decide +kernel)) rfl, tb_in (List.mem_of_getElem? (i := 1026) (by decide +kernel)) rfl, tb_in (List.mem_of_getElem? (i := 29) (by decide +kernel)) rfl, tb_in (List.mem_of_getElem? (i := 47) (by decide +kernel)) rfl, by decide +kernel, by decide +kernel, by decide +kernel⟩
theorem mv_X9_read : MV yX9_read cX9_read 6 (some .int) 0 := ⟨tb_in (List.mem_of_getElem? (i := 1020) (by decide +kernel)) rfl, tb_in (List.mem_of_getElem? (i := 1019) (by decide +kernel)) rfl, tb_in (List.mem_of_getElem? (i := 28) (by decide +kernel)) rfl, tb_in (List.mem_of_getElem? (i := 47) (by decide +kernel)) rfl, by decide +kernel, by decide +kernel, by decide +kernel⟩
theorem mv_X9_keep : MV yX9_keep cX9_keep 1 (some .int) 0 := ⟨tb_in (List.mem_of_getElem? (i := 1037) (by decide +kernel)) rfl, tb_in (List.mem_of_getElem? (i := 1036) (by decide +kernel)) rfl, tb_in (List.mem_of_getElem? (i := 30) (by decide +kernel)) rfl, tb_in (List.mem_of_getElem? (i := 47) (by decide +kernel)) rfl, by decide +kernel, by decide +kernel, by decide +kernel⟩
theorem mv_X9_isFrost : MV yX9_isFrost cX9_isFrost 2 (some .boolean) 1 := ⟨tb_in (List.mem_of_getElem? (i := 1057) (by decide +kernel)) rfl, tb_in (List.mem_of_getElem? (i := 1056) (by decide +kernel)) rfl, tb_in (List.mem_of_getElem? (i := 33) (by decide +kernel)) rfl, tb_in (List.mem_of_getElem? (i := 47) (by decide +kernel)) rfl, by decide +kernel, by decide +kernel, by decide +kernel⟩
theorem mv_X9_named : MV yX9_named cX9_named 3 (some .int) 2 := ⟨tb_in (List.mem_of_getElem? (i := 1053) (by decide +kernel)) rfl, tb_in (List.mem_of_getElem? (i := 1052) (by decide +kernel)) rfl, tb_in (List.mem_of_getElem? (i := 32) (by decide +kernel)) rfl, tb_in (List.mem_of_getElem? (i := 47) (by decide +kernel)) rfl, by decide +kernel, by decide +kernel, by decide +kernel⟩
theorem ms_X9_both : MS yX9_both cX9_both 3 (some .int) 3 := ⟨tb_in (List.mem_of_getElem? (i := 1060) (by decide +kernel)) rfl, tb_in (List.mem_of_getElem? (i := 1059) (by decide +kernel)) rfl, tb_in (List.mem_of_getElem? (i := 47) (by decide +kernel)) rfl, by decide +kernel, by decide +kernel, by decide +kernel⟩
theorem mv_X9_says : MV yX9_says cX9_says 6 (some .int) 2 := ⟨tb_in (List.mem_of_getElem? (i := 1049) (by decide +kernel)) rfl, tb_in (List.mem_of_getElem? (i := 1048) (by decide +kernel)) rfl, tb_in (List.mem_of_getElem? (i := 31) (by decide +kernel)) rfl, tb_in (List.mem_of_getElem? (i := 47) (by decide +kernel)) rfl, by decide +kernel, by decide +kernel, by decide +kernel⟩
theorem mv_X9_isGift : MV yX9_isGift cX9_isGift 2 (some .boolean) 1 := ⟨tb_in (List.mem_of_getElem? (i := 1068) (by decide +kernel)) rfl, tb_in (List.mem_of_getElem? (i := 1067) (by decide +kernel)) rfl, tb_in (List.mem_of_getElem? (i := 34) (by decide +kernel)) rfl, tb_in (List.mem_of_getElem? (i := 47) (by decide +kernel)) rfl, by decide +kernel, by decide +kernel, by decide +kernel⟩
theorem mv_X9_gift : MV yX9_gift cX9_gift 4 (some .int) 1 := ⟨tb_in (List.mem_of_getElem? (i := 1016) (by decide +kernel)) rfl, tb_in (List.mem_of_getElem? (i := 1014) (by decide +kernel)) rfl, tb_in (List.mem_of_getElem? (i := 1015) (by decide +kernel)) rfl, tb_in (List.mem_of_getElem? (i := 47) (by decide +kernel)) rfl, by decide +kernel, by decide +kernel, by decide +kernel⟩
theorem mv_X9_statute : MV yX9_statute cX9_statute 3 (some .int) 1 := ⟨tb_in (List.mem_of_getElem? (i := 1041) (by decide +kernel)) rfl, tb_in (List.mem_of_getElem? (i := 1039) (by decide +kernel)) rfl, tb_in (List.mem_of_getElem? (i := 1040) (by decide +kernel)) rfl, tb_in (List.mem_of_getElem? (i := 47) (by decide +kernel)) rfl, by decide +kernel, by decide +kernel, by decide +kernel⟩
theorem mv_X9_work : MV yX9_work cX9_work 3 (some .int) 0 := ⟨tb_in (List.mem_of_getElem? (i := 1045) (by decide +kernel)) rfl, tb_in (List.mem_of_getElem? (i := 1043) (by decide +kernel)) rfl, tb_in (List.mem_of_getElem? (i := 1044) (by decide +kernel)) rfl, tb_in (List.mem_of_getElem? (i := 47) (by decide +kernel)) rfl, by decide +kernel, by decide +kernel, by decide +kernel⟩
theorem mv_X9_endFor : MV yX9_endFor cX9_endFor 3 (some .int) 2 := ⟨tb_in (List.mem_of_getElem? (i := 1072) (by decide +kernel)) rfl, tb_in (List.mem_of_getElem? (i := 1071) (by decide +kernel)) rfl, tb_in (List.mem_of_getElem? (i := 35) (by decide +kernel)) rfl, tb_in (List.mem_of_getElem? (i := 47) (by decide +kernel)) rfl, by decide +kernel, by decide +kernel, by decide +kernel⟩
theorem mv_X9_end : MV yX9_end cX9_end 3 (some .int) 2 := ⟨tb_in (List.mem_of_getElem? (i := 1064) (by decide +kernel)) rfl, tb_in (List.mem_of_getElem? (i := 1062) (by decide +kernel)) rfl, tb_in (List.mem_of_getElem? (i := 1063) (by decide +kernel)) rfl, tb_in (List.mem_of_getElem? (i := 47) (by decide +kernel)) rfl, by decide +kernel, by decide +kernel, by decide +kernel⟩
theorem mv_X9_hinders : MV yX9_hinders cX9_hinders 5 (some .int) 1 := ⟨tb_in (List.mem_of_getElem? (i := 1081) (by decide +kernel)) rfl, tb_in (List.mem_of_getElem? (i := 1080) (by decide +kernel)) rfl, tb_in (List.mem_of_getElem? (i := 36) (by decide +kernel)) rfl, tb_in (List.mem_of_getElem? (i := 47) (by decide +kernel)) rfl, by decide +kernel, by decide +kernel, by decide +kernel⟩
theorem mv_X9_may : MV yX9_may cX9_may 2 (some .int) 1 := ⟨tb_in (List.mem_of_getElem? (i := 1077) (by decide +kernel)) rfl, tb_in (List.mem_of_getElem? (i := 1075) (by decide +kernel)) rfl, tb_in (List.mem_of_getElem? (i := 1076) (by decide +kernel)) rfl, tb_in (List.mem_of_getElem? (i := 47) (by decide +kernel)) rfl, by decide +kernel, by decide +kernel, by decide +kernel⟩
theorem mv_X9_falls : MV yX9_falls cX9_falls 2 (some .int) 1 := ⟨tb_in (List.mem_of_getElem? (i := 1090) (by decide +kernel)) rfl, tb_in (List.mem_of_getElem? (i := 1088) (by decide +kernel)) rfl, tb_in (List.mem_of_getElem? (i := 1089) (by decide +kernel)) rfl, tb_in (List.mem_of_getElem? (i := 47) (by decide +kernel)) rfl, by decide +kernel, by decide +kernel, by decide +kernel⟩
theorem mv_X9_lay : MV yX9_lay cX9_lay 6 (some .int) 1 := ⟨tb_in (List.mem_of_getElem? (i := 1094) (by decide +kernel)) rfl, tb_in (List.mem_of_getElem? (i := 1092) (by decide +kernel)) rfl, tb_in (List.mem_of_getElem? (i := 1093) (by decide +kernel)) rfl, tb_in (List.mem_of_getElem? (i := 47) (by decide +kernel)) rfl, by decide +kernel, by decide +kernel, by decide +kernel⟩
theorem mv_X9_strike : MV yX9_strike cX9_strike 2 (some .int) 1 := ⟨tb_in (List.mem_of_getElem? (i := 1098) (by decide +kernel)) rfl, tb_in (List.mem_of_getElem? (i := 1096) (by decide +kernel)) rfl, tb_in (List.mem_of_getElem? (i := 1097) (by decide +kernel)) rfl, tb_in (List.mem_of_getElem? (i := 47) (by decide +kernel)) rfl, by decide +kernel, by decide +kernel, by decide +kernel⟩
theorem mv_X9_prop : MV yX9_prop cX9_prop 4 (some .int) 2 := ⟨tb_in (List.mem_of_getElem? (i := 1102) (by decide +kernel)) rfl, tb_in (List.mem_of_getElem? (i := 1100) (by decide +kernel)) rfl, tb_in (List.mem_of_getElem? (i := 1101) (by decide +kernel)) rfl, tb_in (List.mem_of_getElem? (i := 47) (by decide +kernel)) rfl, by decide +kernel, by decide +kernel, by decide +kernel⟩
theorem mv_X9_month : MV yX9_month cX9_month 5 (some .int) 1 := ⟨tb_in (List.mem_of_getElem? (i := 1106) (by decide +kernel)) rfl, tb_in (List.mem_of_getElem? (i := 1104) (by decide +kernel)) rfl, tb_in (List.mem_of_getElem? (i := 1105) (by decide +kernel)) rfl, tb_in (List.mem_of_getElem? (i := 47) (by decide +kernel)) rfl, by decide +kernel, by decide +kernel, by decide +kernel⟩
theorem mv_X9_frost : MV yX9_frost cX9_frost 3 (some .int) 1 := ⟨tb_in (List.mem_of_getElem? (i := 1110) (by decide +kernel)) rfl, tb_in (List.mem_of_getElem? (i := 1108) (by decide +kernel)) rfl, tb_in (List.mem_of_getElem? (i := 1109) (by decide +kernel)) rfl, tb_in (List.mem_of_getElem? (i := 47) (by decide +kernel)) rfl, by decide +kernel, by decide +kernel, by decide +kernel⟩
theorem mv_X9_bitter : MV yX9_bitter cX9_bitter 3 (some .int) 1 := ⟨tb_in (List.mem_of_getElem? (i := 1114) (by decide +kernel)) rfl, tb_in (List.mem_of_getElem? (i := 1112) (by decide +kernel)) rfl, tb_in (List.mem_of_getElem? (i := 1113) (by decide +kernel)) rfl, tb_in (List.mem_of_getElem? (i := 47) (by decide +kernel)) rfl, by decide +kernel, by decide +kernel, by decide +kernel⟩
theorem mv_X9_about : MV yX9_about cX9_about 5 (some .int) 2 := ⟨tb_in (List.mem_of_getElem? (i := 1118) (by decide +kernel)) rfl, tb_in (List.mem_of_getElem? (i := 1116) (by decide +kernel)) rfl, tb_in (List.mem_of_getElem? (i := 1117) (by decide +kernel)) rfl, tb_in (List.mem_of_getElem? (i := 47) (by decide +kernel)) rfl, by decide +kernel, by decide +kernel, by decide +kernel⟩
theorem mv_X9_stands : MV yX9_stands cX9_stands 4 (some .boolean) 2 := ⟨tb_in (List.mem_of_getElem? (i := 1122) (by decide +kernel)) rfl, tb_in (List.mem_of_getElem? (i := 1121) (by decide +kernel)) rfl, tb_in (List.mem_of_getElem? (i := 38) (by decide +kernel)) rfl, tb_in (List.mem_of_getElem? (i := 47) (by decide +kernel)) rfl, by decide +kernel, by decide +kernel, by decide +kernel⟩
theorem mv_X9_support : MV yX9_support cX9_support 3 (some .int) 2 := ⟨tb_in (List.mem_of_getElem? (i := 1126) (by decide +kernel)) rfl, tb_in (List.mem_of_getElem? (i := 1124) (by decide +kernel)) rfl, tb_in (List.mem_of_getElem? (i := 1125) (by decide +kernel)) rfl, tb_in (List.mem_of_getElem? (i := 47) (by decide +kernel)) rfl, by decide +kernel, by decide +kernel, by decide +kernel⟩
theorem mv_X9_left : MV yX9_left cX9_left 3 (some .int) 2 := ⟨tb_in (List.mem_of_getElem? (i := 1130) (by decide +kernel)) rfl, tb_in (List.mem_of_getElem? (i := 1128) (by decide +kernel)) rfl, tb_in (List.mem_of_getElem? (i := 1129) (by decide +kernel)) rfl, tb_in (List.mem_of_getElem? (i := 47) (by decide +kernel)) rfl, by decide +kernel, by decide +kernel, by decide +kernel⟩
theorem mv_X9_as : MV yX9_as cX9_as 3 (some .int) 2 := ⟨tb_in (List.mem_of_getElem? (i := 1134) (by decide +kernel)) rfl, tb_in (List.mem_of_getElem? (i := 1132) (by decide +kernel)) rfl, tb_in (List.mem_of_getElem? (i := 1133) (by decide +kernel)) rfl, tb_in (List.mem_of_getElem? (i := 47) (by decide +kernel)) rfl, by decide +kernel, by decide +kernel, by decide +kernel⟩
theorem mv_X9_down : MV yX9_down cX9_down 4 (some .int) 1 := ⟨tb_in (List.mem_of_getElem? (i := 1138) (by decide +kernel)) rfl, tb_in (List.mem_of_getElem? (i := 1136) (by decide +kernel)) rfl, tb_in (List.mem_of_getElem? (i := 1137) (by decide +kernel)) rfl, tb_in (List.mem_of_getElem? (i := 47) (by decide +kernel)) rfl, by decide +kernel, by decide +kernel, by decide +kernel⟩
theorem mv_X9_needs : MV yX9_needs cX9_needs 5 (some .int) 1 := ⟨tb_in (List.mem_of_getElem? (i := 1142) (by decide +kernel)) rfl, tb_in (List.mem_of_getElem? (i := 1140) (by decide +kernel)) rfl, tb_in (List.mem_of_getElem? (i := 1141) (by decide +kernel)) rfl, tb_in (List.mem_of_getElem? (i := 47) (by decide +kernel)) rfl, by decide +kernel, by decide +kernel, by decide +kernel⟩
theorem mv_X9_count : MV yX9_count cX9_count 4 (some .int) 1 := ⟨tb_in (List.mem_of_getElem? (i := 1146) (by decide +kernel)) rfl, tb_in (List.mem_of_getElem? (i := 1144) (by decide +kernel)) rfl, tb_in (List.mem_of_getElem? (i := 1145) (by decide +kernel)) rfl, tb_in (List.mem_of_getElem? (i := 47) (by decide +kernel)) rfl, by decide +kernel, by decide +kernel, by decide +kernel⟩
theorem ms_J11_isValidCodePoint_9a6ad : MS yJ11_isValidCodePoint_9a6ad cJ11_isValidCodePoint_9a6ad 2 (some .boolean) 1 := ⟨tb_in (List.mem_of_getElem? (i := 529) (by decide +kernel)) rfl, tb_in (List.mem_of_getElem? (i := 528) (by decide +kernel)) rfl, tb_in (List.mem_of_getElem? (i := 54) (by decide +kernel)) rfl, by decide +kernel, by decide +kernel, by decide +kernel⟩
theorem ms_J11_highSurrogate_5068e : MS yJ11_highSurrogate_5068e cJ11_highSurrogate_5068e 1 (some .char) 1 := ⟨tb_in (List.mem_of_getElem? (i := 532) (by decide +kernel)) rfl, tb_in (List.mem_of_getElem? (i := 531) (by decide +kernel)) rfl, tb_in (List.mem_of_getElem? (i := 54) (by decide +kernel)) rfl, by decide +kernel, by decide +kernel, by decide +kernel⟩
theorem ms_J11_lowSurrogate_5068e : MS yJ11_lowSurrogate_5068e cJ11_lowSurrogate_5068e 1 (some .char) 1 := ⟨tb_in (List.mem_of_getElem? (i := 536) (by decide +kernel)) rfl, tb_in (List.mem_of_getElem? (i := 535) (by decide +kernel)) rfl, tb_in (List.mem_of_getElem? (i := 54) (by decide +kernel)) rfl, by decide +kernel, by decide +kernel, by decide +kernel⟩
theorem ms_J9_abs_0f7a4 : MS yJ9_abs_0f7a4 cJ9_abs_0f7a4 1 (some .int) 1 := ⟨tb_in (List.mem_of_getElem? (i := 410) (by decide +kernel)) rfl, tb_in (List.mem_of_getElem? (i := 409) (by decide +kernel)) rfl, tb_in (List.mem_of_getElem? (i := 50) (by decide +kernel)) rfl, by decide +kernel, by decide +kernel, by decide +kernel⟩
theorem ms_J9_max_7cf53 : MS yJ9_max_7cf53 cJ9_max_7cf53 2 (some .int) 2 := ⟨tb_in (List.mem_of_getElem? (i := 482) (by decide +kernel)) rfl, tb_in (List.mem_of_getElem? (i := 481) (by decide +kernel)) rfl, tb_in (List.mem_of_getElem? (i := 50) (by decide +kernel)) rfl, by decide +kernel, by decide +kernel, by decide +kernel⟩
theorem ms_J9_min_7cf53 : MS yJ9_min_7cf53 cJ9_min_7cf53 2 (some .int) 2 := ⟨tb_in (List.mem_of_getElem? (i := 485) (by decide +kernel)) rfl, tb_in (List.mem_of_getElem? (i := 484) (by decide +kernel)) rfl, tb_in (List.mem_of_getElem? (i := 50) (by decide +kernel)) rfl, by decide +kernel, by decide +kernel, by decide +kernel⟩
theorem mv_J0_length_8abf5 : MV yJ0_length_8abf5 cJ0_length_8abf5 1 (some .int) 0 := ⟨tb_in (List.mem_of_getElem? (i := 169) (by decide +kernel)) rfl, tb_in (List.mem_of_getElem? (i := 167) (by decide +kernel)) rfl, tb_in (List.mem_of_getElem? (i := 168) (by decide +kernel)) rfl, tb_in (List.mem_of_getElem? (i := 46) (by decide +kernel)) rfl, by decide +kernel, by decide +kernel, by decide +kernel⟩
theorem mv_J0_indexOf_0f7a4 : MV yJ0_indexOf_0f7a4 cJ0_indexOf_0f7a4 2 (some .int) 1 := ⟨tb_in (List.mem_of_getElem? (i := 464) (by decide +kernel)) rfl, tb_in (List.mem_of_getElem? (i := 462) (by decide +kernel)) rfl, tb_in (List.mem_of_getElem? (i := 463) (by decide +kernel)) rfl, tb_in (List.mem_of_getElem? (i := 46) (by decide +kernel)) rfl, by decide +kernel, by decide +kernel, by decide +kernel⟩
theorem mv_J0_indexOf_7cf53 : MV yJ0_indexOf_7cf53 cJ0_indexOf_7cf53 3 (some .int) 2 := ⟨tb_in (List.mem_of_getElem? (i := 468) (by decide +kernel)) rfl, tb_in (List.mem_of_getElem? (i := 466) (by decide +kernel)) rfl, tb_in (List.mem_of_getElem? (i := 467) (by decide +kernel)) rfl, tb_in (List.mem_of_getElem? (i := 46) (by decide +kernel)) rfl, by decide +kernel, by decide +kernel, by decide +kernel⟩
theorem mv_J0_coder_7d493 : MV yJ0_coder_7d493 cJ0_coder_7d493 1 (some .byte) 0 := ⟨tb_in (List.mem_of_getElem? (i := 173) (by decide +kernel)) rfl, tb_in (List.mem_of_getElem? (i := 171) (by decide +kernel)) rfl, tb_in (List.mem_of_getElem? (i := 172) (by decide +kernel)) rfl, tb_in (List.mem_of_getElem? (i := 46) (by decide +kernel)) rfl, by decide +kernel, by decide +kernel, by decide +kernel⟩
theorem mv_J0_isLatin1_aae02 : MV yJ0_isLatin1_aae02 cJ0_isLatin1_aae02 1 (some .boolean) 0 := ⟨tb_in (List.mem_of_getElem? (i := 472) (by decide +kernel)) rfl, tb_in (List.mem_of_getElem? (i := 470) (by decide +kernel)) rfl, tb_in (List.mem_of_getElem? (i := 471) (by decide +kernel)) rfl, tb_in (List.mem_of_getElem? (i := 46) (by decide +kernel)) rfl, by decide +kernel, by decide +kernel, by decide +kernel⟩
theorem ms_J0_checkBoundsBeginEnd_23922 : MS yJ0_checkBoundsBeginEnd_23922 cJ0_checkBoundsBeginEnd_23922 3 none 3 := ⟨tb_in (List.mem_of_getElem? (i := 506) (by decide +kernel)) rfl, tb_in (List.mem_of_getElem? (i := 505) (by decide +kernel)) rfl, tb_in (List.mem_of_getElem? (i := 46) (by decide +kernel)) rfl, by decide +kernel, by decide +kernel, by decide +kernel⟩
theorem ms_J1_canEncode_9a6ad : MS yJ1_canEncode_9a6ad cJ1_canEncode_9a6ad 1 (some .boolean) 1 := ⟨tb_in (List.mem_of_getElem? (i := 479) (by decide +kernel)) rfl, tb_in (List.mem_of_getElem? (i := 478) (by decide +kernel)) rfl, tb_in (List.mem_of_getElem? (i := 51) (by decide +kernel)) rfl, by decide +kernel, by decide +kernel, by decide +kernel⟩
theorem ms_J1_indexOf_4cfef : MS yJ1_indexOf_4cfef cJ1_indexOf_4cfef 4 (some .int) 4 := ⟨tb_in (List.mem_of_getElem? (i := 476) (by decide +kernel)) rfl, tb_in (List.mem_of_getElem? (i := 475) (by decide +kernel)) rfl, tb_in (List.mem_of_getElem? (i := 51) (by decide +kernel)) rfl, by decide +kernel, by decide +kernel, by decide +kernel⟩
theorem ms_J1_indexOfChar_4cfef : MS yJ1_indexOfChar_4cfef cJ1_indexOfChar_4cfef 6 (some .int) 4 := ⟨tb_in (List.mem_of_getElem? (i := 488) (by decide +kernel)) rfl, tb_in (List.mem_of_getElem? (i := 487) (by decide +kernel)) rfl, tb_in (List.mem_of_getElem? (i := 51) (by decide +kernel)) rfl, by decide +kernel, by decide +kernel, by decide +kernel⟩
theorem ms_J2_getChar_3b067 : MS yJ2_getChar_3b067 cJ2_getChar_3b067 2 (some .char) 2 := ⟨tb_in (List.mem_of_getElem? (i := 517) (by decide +kernel)) rfl, tb_in (List.mem_of_getElem? (i := 516) (by decide +kernel)) rfl, tb_in (List.mem_of_getElem? (i := 52) (by decide +kernel)) rfl, by decide +kernel, by decide +kernel, by decide +kernel⟩
theorem ms_J2_length_9d52b : MS yJ2_length_9d52b cJ2_length_9d52b 1 (some .int) 1 := ⟨tb_in (List.mem_of_getElem? (i := 503) (by decide +kernel)) rfl, tb_in (List.mem_of_getElem? (i := 502) (by decide +kernel)) rfl, tb_in (List.mem_of_getElem? (i := 52) (by decide +kernel)) rfl, by decide +kernel, by decide +kernel, by decide +kernel⟩
theorem ms_J2_indexOf_4cfef : MS yJ2_indexOf_4cfef cJ2_indexOf_4cfef 4 (some .int) 4 := ⟨tb_in (List.mem_of_getElem? (i := 491) (by decide +kernel)) rfl, tb_in (List.mem_of_getElem? (i := 490) (by decide +kernel)) rfl, tb_in (List.mem_of_getElem? (i := 52) (by decide +kernel)) rfl, by decide +kernel, by decide +kernel, by decide +kernel⟩
theorem ms_J2_indexOfChar_4cfef : MS yJ2_indexOfChar_4cfef cJ2_indexOfChar_4cfef 4 (some .int) 4 := ⟨tb_in (List.mem_of_getElem? (i := 497) (by decide +kernel)) rfl, tb_in (List.mem_of_getElem? (i := 496) (by decide +kernel)) rfl, tb_in (List.mem_of_getElem? (i := 52) (by decide +kernel)) rfl, by decide +kernel, by decide +kernel, by decide +kernel⟩
theorem ms_J2_indexOfCharUnsafe_4cfef : MS yJ2_indexOfCharUnsafe_4cfef cJ2_indexOfCharUnsafe_4cfef 5 (some .int) 4 := ⟨tb_in (List.mem_of_getElem? (i := 514) (by decide +kernel)) rfl, tb_in (List.mem_of_getElem? (i := 513) (by decide +kernel)) rfl, tb_in (List.mem_of_getElem? (i := 52) (by decide +kernel)) rfl, by decide +kernel, by decide +kernel, by decide +kernel⟩
theorem ms_J2_indexOfSupplementary_4cfef : MS yJ2_indexOfSupplementary_4cfef cJ2_indexOfSupplementary_4cfef 7 (some .int) 4 := ⟨tb_in (List.mem_of_getElem? (i := 526) (by decide +kernel)) rfl, tb_in (List.mem_of_getElem? (i := 525) (by decide +kernel)) rfl, tb_in (List.mem_of_getElem? (i := 52) (by decide +kernel)) rfl, by decide +kernel, by decide +kernel, by decide +kernel⟩
theorem ms_J2_checkBoundsBeginEnd_d044e : MS yJ2_checkBoundsBeginEnd_d044e cJ2_checkBoundsBeginEnd_d044e 3 none 3 := ⟨tb_in (List.mem_of_getElem? (i := 500) (by decide +kernel)) rfl, tb_in (List.mem_of_getElem? (i := 499) (by decide +kernel)) rfl, tb_in (List.mem_of_getElem? (i := 52) (by decide +kernel)) rfl, by decide +kernel, by decide +kernel, by decide +kernel⟩
theorem ms_J7_fill_53178 : MS yJ7_fill_53178 cJ7_fill_53178 4 none 2 := ⟨tb_in (List.mem_of_getElem? (i := 388) (by decide +kernel)) rfl, tb_in (List.mem_of_getElem? (i := 387) (by decide +kernel)) rfl, tb_in (List.mem_of_getElem? (i := 49) (by decide +kernel)) rfl, by decide +kernel, by decide +kernel, by decide +kernel⟩
theorem ms_J7_copyOf_59c91 : MS yJ7_copyOf_59c91 cJ7_copyOf_59c91 3 (some (.array .int)) 2 := ⟨tb_in (List.mem_of_getElem? (i := 678) (by decide +kernel)) rfl, tb_in (List.mem_of_getElem? (i := 677) (by decide +kernel)) rfl, tb_in (List.mem_of_getElem? (i := 49) (by decide +kernel)) rfl, by decide +kernel, by decide +kernel, by decide +kernel⟩
theorem ms_J3_checkFromToIndex_8c36e : MS yJ3_checkFromToIndex_8c36e cJ3_checkFromToIndex_8c36e 4 (some .int) 4 := ⟨tb_in (List.mem_of_getElem? (i := 511) (by decide +kernel)) rfl, tb_in (List.mem_of_getElem? (i := 510) (by decide +kernel)) rfl, tb_in (List.mem_of_getElem? (i := 53) (by decide +kernel)) rfl, by decide +kernel, by decide +kernel, by decide +kernel⟩
theorem ml_RX0_22 : Cond.methodLink RX0 22 yX0_hasFrost ∈ tb := tb_in (List.mem_of_getElem? (i := 605) (by decide +kernel)) rfl
theorem kc_RX2_9 : Cond.constant RX2 9 (1000000) ∈ tb := tb_in (List.mem_of_getElem? (i := 241) (by decide +kernel)) rfl
theorem ml_RX2_44 : Cond.methodLink RX2 44 yX2_isBegun ∈ tb := tb_in (List.mem_of_getElem? (i := 394) (by decide +kernel)) rfl
theorem ml_RX2_58 : Cond.methodLink RX2 58 yX2_portion ∈ tb := tb_in (List.mem_of_getElem? (i := 773) (by decide +kernel)) rfl
theorem ml_RX3_34 : Cond.methodLink RX3 34 yX3_isSupportFor ∈ tb := tb_in (List.mem_of_getElem? (i := 335) (by decide +kernel)) rfl
theorem ml_RX3_38 : Cond.methodLink RX3 38 yX3_isReadBefore ∈ tb := tb_in (List.mem_of_getElem? (i := 338) (by decide +kernel)) rfl
theorem ml_RX3_42 : Cond.methodLink RX3 42 yX2_standOn ∈ tb := tb_in (List.mem_of_getElem? (i := 350) (by decide +kernel)) rfl
theorem ml_RX3_52 : Cond.methodLink RX3 52 yX3_find ∈ tb := tb_in (List.mem_of_getElem? (i := 367) (by decide +kernel)) rfl
theorem ml_RX3_62 : Cond.methodLink RX3 62 yX2_isWhole ∈ tb := tb_in (List.mem_of_getElem? (i := 427) (by decide +kernel)) rfl
theorem ml_RX3_66 : Cond.methodLink RX3 66 yX2_isOnCentring ∈ tb := tb_in (List.mem_of_getElem? (i := 428) (by decide +kernel)) rfl
theorem ml_RX3_69 : Cond.methodLink RX3 69 yX2_isBegun ∈ tb := tb_in (List.mem_of_getElem? (i := 610) (by decide +kernel)) rfl
theorem ml_RX3_75 : Cond.methodLink RX3 75 yX2_standsOn ∈ tb := tb_in (List.mem_of_getElem? (i := 744) (by decide +kernel)) rfl
theorem ml_RX4_11 : Cond.methodLink RX4 11 yJ0_length_8abf5 ∈ tb := tb_in (List.mem_of_getElem? (i := 166) (by decide +kernel)) rfl
theorem ml_RX4_44 : Cond.methodLink RX4 44 yX4_valueOf ∈ tb := tb_in (List.mem_of_getElem? (i := 565) (by decide +kernel)) rfl
theorem ml_RX4_53 : Cond.methodLink RX4 53 yX4_isSign ∈ tb := tb_in (List.mem_of_getElem? (i := 457) (by decide +kernel)) rfl
theorem ml_RX4_57 : Cond.methodLink RX4 57 yX4_meaningOf ∈ tb := tb_in (List.mem_of_getElem? (i := 538) (by decide +kernel)) rfl
theorem ml_RX4_61 : Cond.methodLink RX4 61 yX4_truth ∈ tb := tb_in (List.mem_of_getElem? (i := 542) (by decide +kernel)) rfl
theorem ml_RX4_65 : Cond.methodLink RX4 65 yX4_join ∈ tb := tb_in (List.mem_of_getElem? (i := 545) (by decide +kernel)) rfl
theorem ml_RX4_71 : Cond.methodLink RX4 71 yJ0_indexOf_0f7a4 ∈ tb := tb_in (List.mem_of_getElem? (i := 461) (by decide +kernel)) rfl
theorem ml_RX5_18 : Cond.methodLink RX5 18 yJ7_fill_53178 ∈ tb := tb_in (List.mem_of_getElem? (i := 386) (by decide +kernel)) rfl
theorem ml_RX5_30 : Cond.methodLink RX5 30 yX3_find ∈ tb := tb_in (List.mem_of_getElem? (i := 389) (by decide +kernel)) rfl
theorem ml_RX5_42 : Cond.methodLink RX5 42 yX2_isOnCentring ∈ tb := tb_in (List.mem_of_getElem? (i := 390) (by decide +kernel)) rfl
theorem ml_RX5_46 : Cond.methodLink RX5 46 yX5_passDown ∈ tb := tb_in (List.mem_of_getElem? (i := 395) (by decide +kernel)) rfl
theorem ml_RX5_50 : Cond.methodLink RX5 50 yX5_pushAside ∈ tb := tb_in (List.mem_of_getElem? (i := 403) (by decide +kernel)) rfl
theorem ml_RX5_59 : Cond.methodLink RX5 59 yX2_portion ∈ tb := tb_in (List.mem_of_getElem? (i := 399) (by decide +kernel)) rfl
theorem ml_RX5_66 : Cond.methodLink RX5 66 yX2_isBegun ∈ tb := tb_in (List.mem_of_getElem? (i := 407) (by decide +kernel)) rfl
theorem ml_RX5_72 : Cond.methodLink RX5 72 yX5_weigh ∈ tb := tb_in (List.mem_of_getElem? (i := 382) (by decide +kernel)) rfl
theorem ml_RX5_76 : Cond.methodLink RX5 76 yJ9_abs_0f7a4 ∈ tb := tb_in (List.mem_of_getElem? (i := 408) (by decide +kernel)) rfl
theorem ml_RX6_30 : Cond.methodLink RX6 30 yJ7_copyOf_59c91 ∈ tb := tb_in (List.mem_of_getElem? (i := 676) (by decide +kernel)) rfl
theorem ml_RX6_36 : Cond.methodLink RX6 36 yX7_init ∈ tb := tb_in (List.mem_of_getElem? (i := 690) (by decide +kernel)) rfl
theorem ml_RX6_44 : Cond.methodLink RX6 44 yJ0_indexOf_0f7a4 ∈ tb := tb_in (List.mem_of_getElem? (i := 645) (by decide +kernel)) rfl
theorem ml_RX6_50 : Cond.methodLink RX6 50 yX6_openSign ∈ tb := tb_in (List.mem_of_getElem? (i := 646) (by decide +kernel)) rfl
theorem ml_RX6_54 : Cond.methodLink RX6 54 yX6_readLeaf ∈ tb := tb_in (List.mem_of_getElem? (i := 654) (by decide +kernel)) rfl
theorem ml_RX6_57 : Cond.methodLink RX6 57 yX6_closeSigns ∈ tb := tb_in (List.mem_of_getElem? (i := 666) (by decide +kernel)) rfl
theorem ml_RX6_61 : Cond.methodLink RX6 61 yX6_keep ∈ tb := tb_in (List.mem_of_getElem? (i := 650) (by decide +kernel)) rfl
theorem ml_RX6_64 : Cond.methodLink RX6 64 yX6_readNumber ∈ tb := tb_in (List.mem_of_getElem? (i := 658) (by decide +kernel)) rfl
theorem ml_RX6_67 : Cond.methodLink RX6 67 yX6_isDigit ∈ tb := tb_in (List.mem_of_getElem? (i := 662) (by decide +kernel)) rfl
theorem ml_RX8_63 : Cond.methodLink RX8 63 yX8_isMeasure ∈ tb := tb_in (List.mem_of_getElem? (i := 232) (by decide +kernel)) rfl
theorem ml_RX8_73 : Cond.methodLink RX8 73 yX2_init ∈ tb := tb_in (List.mem_of_getElem? (i := 237) (by decide +kernel)) rfl
theorem ml_RX8_76 : Cond.methodLink RX8 76 yX3_add ∈ tb := tb_in (List.mem_of_getElem? (i := 311) (by decide +kernel)) rfl
theorem ml_RX8_80 : Cond.methodLink RX8 80 yX3_find ∈ tb := tb_in (List.mem_of_getElem? (i := 319) (by decide +kernel)) rfl
theorem ml_RX8_84 : Cond.methodLink RX8 84 yX2_standOn ∈ tb := tb_in (List.mem_of_getElem? (i := 323) (by decide +kernel)) rfl
theorem ml_RX8_91 : Cond.methodLink RX8 91 yX3_readSupports ∈ tb := tb_in (List.mem_of_getElem? (i := 331) (by decide +kernel)) rfl
theorem ml_RX8_98 : Cond.methodLink RX8 98 yX2_isBegun ∈ tb := tb_in (List.mem_of_getElem? (i := 342) (by decide +kernel)) rfl
theorem ml_RX8_105 : Cond.methodLink RX8 105 yX3_setSupports ∈ tb := tb_in (List.mem_of_getElem? (i := 346) (by decide +kernel)) rfl
theorem ml_RX8_112 : Cond.methodLink RX8 112 yX3_keepEdition ∈ tb := tb_in (List.mem_of_getElem? (i := 351) (by decide +kernel)) rfl
theorem ml_RX8_116 : Cond.methodLink RX8 116 yX3_coursesIn ∈ tb := tb_in (List.mem_of_getElem? (i := 363) (by decide +kernel)) rfl
theorem ml_RX8_125 : Cond.methodLink RX8 125 yX8_stands ∈ tb := tb_in (List.mem_of_getElem? (i := 374) (by decide +kernel)) rfl
theorem ml_RX8_128 : Cond.methodLink RX8 128 yX8_hindranceOfCourse ∈ tb := tb_in (List.mem_of_getElem? (i := 415) (by decide +kernel)) rfl
theorem ml_RX8_132 : Cond.methodLink RX8 132 yX8_payFor ∈ tb := tb_in (List.mem_of_getElem? (i := 570) (by decide +kernel)) rfl
theorem ml_RX8_139 : Cond.methodLink RX8 139 yX2_takeCourse ∈ tb := tb_in (List.mem_of_getElem? (i := 575) (by decide +kernel)) rfl
theorem ml_RX8_149 : Cond.methodLink RX8 149 yX8_fallByCourse ∈ tb := tb_in (List.mem_of_getElem? (i := 566) (by decide +kernel)) rfl
theorem ml_RX8_152 : Cond.methodLink RX8 152 yX2_isOnCentring ∈ tb := tb_in (List.mem_of_getElem? (i := 591) (by decide +kernel)) rfl
theorem ml_RX8_155 : Cond.methodLink RX8 155 yX2_isWhole ∈ tb := tb_in (List.mem_of_getElem? (i := 419) (by decide +kernel)) rfl
theorem kc_RX8_165 : Cond.constant RX8 165 (100000) ∈ tb := tb_in (List.mem_of_getElem? (i := 596) (by decide +kernel)) rfl
theorem ml_RX8_169 : Cond.methodLink RX8 169 yX0_pass ∈ tb := tb_in (List.mem_of_getElem? (i := 601) (by decide +kernel)) rfl
theorem ml_RX8_173 : Cond.methodLink RX8 173 yX3_ageAll ∈ tb := tb_in (List.mem_of_getElem? (i := 606) (by decide +kernel)) rfl
theorem ml_RX8_179 : Cond.methodLink RX8 179 yX0_isAhead ∈ tb := tb_in (List.mem_of_getElem? (i := 619) (by decide +kernel)) rfl
theorem ml_RX8_183 : Cond.methodLink RX8 183 yX0_makeBitter ∈ tb := tb_in (List.mem_of_getElem? (i := 623) (by decide +kernel)) rfl
theorem ml_RX8_189 : Cond.methodLink RX8 189 yX6_take ∈ tb := tb_in (List.mem_of_getElem? (i := 631) (by decide +kernel)) rfl
theorem kc_RX8_193 : Cond.constant RX8 193 (1000000) ∈ tb := tb_in (List.mem_of_getElem? (i := 639) (by decide +kernel)) rfl
theorem ml_RX8_197 : Cond.methodLink RX8 197 yX6_read ∈ tb := tb_in (List.mem_of_getElem? (i := 640) (by decide +kernel)) rfl
theorem ml_RX8_201 : Cond.methodLink RX8 201 yX6_asText ∈ tb := tb_in (List.mem_of_getElem? (i := 670) (by decide +kernel)) rfl
theorem ml_RX8_205 : Cond.methodLink RX8 205 yX1_init ∈ tb := tb_in (List.mem_of_getElem? (i := 700) (by decide +kernel)) rfl
theorem ml_RX8_211 : Cond.methodLink RX8 211 yX8_findGift ∈ tb := tb_in (List.mem_of_getElem? (i := 557) (by decide +kernel)) rfl
theorem kc_RX8_215 : Cond.constant RX8 215 (-2000000000) ∈ tb := tb_in (List.mem_of_getElem? (i := 725) (by decide +kernel)) rfl
theorem ml_RX8_216 : Cond.methodLink RX8 216 yX8_nameMonth ∈ tb := tb_in (List.mem_of_getElem? (i := 437) (by decide +kernel)) rfl
theorem ml_RX8_219 : Cond.methodLink RX8 219 yX4_namePart ∈ tb := tb_in (List.mem_of_getElem? (i := 553) (by decide +kernel)) rfl
theorem ml_RX8_222 : Cond.methodLink RX8 222 yX4_endOf ∈ tb := tb_in (List.mem_of_getElem? (i := 561) (by decide +kernel)) rfl
theorem ml_RX8_226 : Cond.methodLink RX8 226 yX8_loadOf ∈ tb := tb_in (List.mem_of_getElem? (i := 730) (by decide +kernel)) rfl
theorem ml_RX8_229 : Cond.methodLink RX8 229 yX8_pushToRightOn ∈ tb := tb_in (List.mem_of_getElem? (i := 735) (by decide +kernel)) rfl
theorem ml_RX8_232 : Cond.methodLink RX8 232 yJ9_abs_0f7a4 ∈ tb := tb_in (List.mem_of_getElem? (i := 739) (by decide +kernel)) rfl
theorem ml_RX8_237 : Cond.methodLink RX8 237 yX3_countBorneBy ∈ tb := tb_in (List.mem_of_getElem? (i := 740) (by decide +kernel)) rfl
theorem ml_RX8_258 : Cond.methodLink RX8 258 yX8_statuteInForce ∈ tb := tb_in (List.mem_of_getElem? (i := 433) (by decide +kernel)) rfl
theorem ml_RX8_261 : Cond.methodLink RX8 261 yX4_nameNoPart ∈ tb := tb_in (List.mem_of_getElem? (i := 449) (by decide +kernel)) rfl
theorem ml_RX8_264 : Cond.methodLink RX8 264 yX4_valueOf ∈ tb := tb_in (List.mem_of_getElem? (i := 453) (by decide +kernel)) rfl
theorem ml_RX8_268 : Cond.methodLink RX8 268 yJ9_max_7cf53 ∈ tb := tb_in (List.mem_of_getElem? (i := 548) (by decide +kernel)) rfl
theorem ml_RX8_271 : Cond.methodLink RX8 271 yX2_laidTill ∈ tb := tb_in (List.mem_of_getElem? (i := 761) (by decide +kernel)) rfl
theorem ml_RX8_274 : Cond.methodLink RX8 274 yX2_heaviestWay ∈ tb := tb_in (List.mem_of_getElem? (i := 769) (by decide +kernel)) rfl
theorem ml_RX8_277 : Cond.methodLink RX8 277 yJ7_fill_53178 ∈ tb := tb_in (List.mem_of_getElem? (i := 778) (by decide +kernel)) rfl
theorem ml_RX8_283 : Cond.methodLink RX8 283 yX2_markSupports ∈ tb := tb_in (List.mem_of_getElem? (i := 779) (by decide +kernel)) rfl
theorem ml_RX8_287 : Cond.methodLink RX8 287 yX3_countLaid ∈ tb := tb_in (List.mem_of_getElem? (i := 787) (by decide +kernel)) rfl
theorem ml_RX8_290 : Cond.methodLink RX8 290 yX8_coinsRemaining ∈ tb := tb_in (List.mem_of_getElem? (i := 791) (by decide +kernel)) rfl
theorem ml_RX8_296 : Cond.methodLink RX8 296 yX5_leastFalling ∈ tb := tb_in (List.mem_of_getElem? (i := 378) (by decide +kernel)) rfl
theorem ml_RX8_300 : Cond.methodLink RX8 300 yX5_weigh ∈ tb := tb_in (List.mem_of_getElem? (i := 734) (by decide +kernel)) rfl
theorem ml_RX8_310 : Cond.methodLink RX8 310 yX3_isReadyBelow ∈ tb := tb_in (List.mem_of_getElem? (i := 423) (by decide +kernel)) rfl
theorem ml_RX8_314 : Cond.methodLink RX8 314 yX8_work ∈ tb := tb_in (List.mem_of_getElem? (i := 429) (by decide +kernel)) rfl
theorem ml_RX8_317 : Cond.methodLink RX8 317 yX8_coinsFor ∈ tb := tb_in (List.mem_of_getElem? (i := 549) (by decide +kernel)) rfl
theorem ml_RX8_320 : Cond.methodLink RX8 320 yJ9_min_7cf53 ∈ tb := tb_in (List.mem_of_getElem? (i := 574) (by decide +kernel)) rfl
theorem ml_RX8_323 : Cond.methodLink RX8 323 yX0_hasFrost ∈ tb := tb_in (List.mem_of_getElem? (i := 441) (by decide +kernel)) rfl
theorem ml_RX8_326 : Cond.methodLink RX8 326 yX4_nameMonth ∈ tb := tb_in (List.mem_of_getElem? (i := 445) (by decide +kernel)) rfl
theorem kc_RX9_62 : Cond.constant RX9 62 (48040) ∈ tb := tb_in (List.mem_of_getElem? (i := 801) (by decide +kernel)) rfl
theorem ml_RX9_125 : Cond.methodLink RX9 125 yX9_in ∈ tb := tb_in (List.mem_of_getElem? (i := 951) (by decide +kernel)) rfl
theorem kc_RX9_129 : Cond.constant RX9 129 (1000000) ∈ tb := tb_in (List.mem_of_getElem? (i := 958) (by decide +kernel)) rfl
theorem ml_RX9_130 : Cond.methodLink RX9 130 yX9_isPlan ∈ tb := tb_in (List.mem_of_getElem? (i := 948) (by decide +kernel)) rfl
theorem ml_RX9_133 : Cond.methodLink RX9 133 yX9_newPart ∈ tb := tb_in (List.mem_of_getElem? (i := 954) (by decide +kernel)) rfl
theorem ml_RX9_137 : Cond.methodLink RX9 137 yX9_isPart ∈ tb := tb_in (List.mem_of_getElem? (i := 963) (by decide +kernel)) rfl
theorem ml_RX9_141 : Cond.methodLink RX9 141 yX9_support0 ∈ tb := tb_in (List.mem_of_getElem? (i := 967) (by decide +kernel)) rfl
theorem ml_RX9_148 : Cond.methodLink RX9 148 yX9_edition ∈ tb := tb_in (List.mem_of_getElem? (i := 975) (by decide +kernel)) rfl
theorem ml_RX9_151 : Cond.methodLink RX9 151 yX9_goes ∈ tb := tb_in (List.mem_of_getElem? (i := 999) (by decide +kernel)) rfl
theorem kc_RX9_155 : Cond.constantLong RX9 155 (100) ∈ tb := tb_in (List.mem_of_getElem? (i := 1003) (by decide +kernel)) rfl
theorem ml_RX9_157 : Cond.methodLink RX9 157 yX9_weigh ∈ tb := tb_in (List.mem_of_getElem? (i := 995) (by decide +kernel)) rfl
theorem ml_RX9_160 : Cond.methodLink RX9 160 yX9_net ∈ tb := tb_in (List.mem_of_getElem? (i := 1004) (by decide +kernel)) rfl
theorem ml_RX9_164 : Cond.methodLink RX9 164 yX9_falling ∈ tb := tb_in (List.mem_of_getElem? (i := 991) (by decide +kernel)) rfl
theorem kc_RX9_168 : Cond.constant RX9 168 (100000) ∈ tb := tb_in (List.mem_of_getElem? (i := 1008) (by decide +kernel)) rfl
theorem ml_RX9_178 : Cond.methodLink RX9 178 yX9_isSign ∈ tb := tb_in (List.mem_of_getElem? (i := 1021) (by decide +kernel)) rfl
theorem ml_RX9_181 : Cond.methodLink RX9 181 yX9_lay0 ∈ tb := tb_in (List.mem_of_getElem? (i := 1024) (by decide +kernel)) rfl
theorem ml_RX9_185 : Cond.methodLink RX9 185 yX9_isDigit ∈ tb := tb_in (List.mem_of_getElem? (i := 1028) (by decide +kernel)) rfl
theorem ml_RX9_188 : Cond.methodLink RX9 188 yX9_isName ∈ tb := tb_in (List.mem_of_getElem? (i := 1031) (by decide +kernel)) rfl
theorem ml_RX9_197 : Cond.methodLink RX9 197 yX9_isFrost ∈ tb := tb_in (List.mem_of_getElem? (i := 1054) (by decide +kernel)) rfl
theorem ml_RX9_203 : Cond.methodLink RX9 203 yX9_named ∈ tb := tb_in (List.mem_of_getElem? (i := 1050) (by decide +kernel)) rfl
theorem ml_RX9_206 : Cond.methodLink RX9 206 yX9_both ∈ tb := tb_in (List.mem_of_getElem? (i := 1058) (by decide +kernel)) rfl
theorem ml_RX9_213 : Cond.methodLink RX9 213 yX9_read ∈ tb := tb_in (List.mem_of_getElem? (i := 1017) (by decide +kernel)) rfl
theorem ml_RX9_216 : Cond.methodLink RX9 216 yX9_keep ∈ tb := tb_in (List.mem_of_getElem? (i := 1034) (by decide +kernel)) rfl
theorem ml_RX9_222 : Cond.methodLink RX9 222 yX9_says ∈ tb := tb_in (List.mem_of_getElem? (i := 1046) (by decide +kernel)) rfl
theorem ml_RX9_225 : Cond.methodLink RX9 225 yX9_isGift ∈ tb := tb_in (List.mem_of_getElem? (i := 1065) (by decide +kernel)) rfl
theorem ml_RX9_228 : Cond.methodLink RX9 228 yX9_endFor ∈ tb := tb_in (List.mem_of_getElem? (i := 1069) (by decide +kernel)) rfl
theorem kc_RX9_231 : Cond.constant RX9 231 (-2000000000) ∈ tb := tb_in (List.mem_of_getElem? (i := 1073) (by decide +kernel)) rfl
theorem ml_RX9_232 : Cond.methodLink RX9 232 yX9_work ∈ tb := tb_in (List.mem_of_getElem? (i := 1082) (by decide +kernel)) rfl
theorem ml_RX9_235 : Cond.methodLink RX9 235 yX9_fallingBy ∈ tb := tb_in (List.mem_of_getElem? (i := 1083) (by decide +kernel)) rfl
theorem ml_RX9_238 : Cond.methodLink RX9 238 yX9_hinders ∈ tb := tb_in (List.mem_of_getElem? (i := 1078) (by decide +kernel)) rfl
theorem ml_RX9_244 : Cond.methodLink RX9 244 yX9_stands ∈ tb := tb_in (List.mem_of_getElem? (i := 1119) (by decide +kernel)) rfl
theorem kc_RJ11_110 : Cond.constant RJ11 110 (55232) ∈ tb := tb_in (List.mem_of_getElem? (i := 533) (by decide +kernel)) rfl
theorem kc_RJ11_76 : Cond.constant RJ11 76 (56320) ∈ tb := tb_in (List.mem_of_getElem? (i := 537) (by decide +kernel)) rfl
theorem ml_RJ0_335 : Cond.methodLink RJ0 335 yJ0_coder_7d493 ∈ tb := tb_in (List.mem_of_getElem? (i := 170) (by decide +kernel)) rfl
theorem ml_RJ0_633 : Cond.methodLink RJ0 633 yJ0_indexOf_7cf53 ∈ tb := tb_in (List.mem_of_getElem? (i := 465) (by decide +kernel)) rfl
theorem ml_RJ0_492 : Cond.methodLink RJ0 492 yJ0_isLatin1_aae02 ∈ tb := tb_in (List.mem_of_getElem? (i := 469) (by decide +kernel)) rfl
theorem ml_RJ0_505 : Cond.methodLink RJ0 505 yJ0_length_8abf5 ∈ tb := tb_in (List.mem_of_getElem? (i := 473) (by decide +kernel)) rfl
theorem ml_RJ0_637 : Cond.methodLink RJ0 637 yJ1_indexOf_4cfef ∈ tb := tb_in (List.mem_of_getElem? (i := 474) (by decide +kernel)) rfl
theorem ml_RJ0_640 : Cond.methodLink RJ0 640 yJ2_indexOf_4cfef ∈ tb := tb_in (List.mem_of_getElem? (i := 489) (by decide +kernel)) rfl
theorem ml_RJ0_1062 : Cond.methodLink RJ0 1062 yJ3_checkFromToIndex_8c36e ∈ tb := tb_in (List.mem_of_getElem? (i := 509) (by decide +kernel)) rfl
theorem ml_RJ1_88 : Cond.methodLink RJ1 88 yJ1_canEncode_9a6ad ∈ tb := tb_in (List.mem_of_getElem? (i := 477) (by decide +kernel)) rfl
theorem ml_RJ1_92 : Cond.methodLink RJ1 92 yJ9_max_7cf53 ∈ tb := tb_in (List.mem_of_getElem? (i := 480) (by decide +kernel)) rfl
theorem ml_RJ1_38 : Cond.methodLink RJ1 38 yJ9_min_7cf53 ∈ tb := tb_in (List.mem_of_getElem? (i := 483) (by decide +kernel)) rfl
theorem ml_RJ1_95 : Cond.methodLink RJ1 95 yJ1_indexOfChar_4cfef ∈ tb := tb_in (List.mem_of_getElem? (i := 486) (by decide +kernel)) rfl
theorem ml_RJ2_48 : Cond.methodLink RJ2 48 yJ2_length_9d52b ∈ tb := tb_in (List.mem_of_getElem? (i := 501) (by decide +kernel)) rfl
theorem ml_RJ2_224 : Cond.methodLink RJ2 224 yJ9_max_7cf53 ∈ tb := tb_in (List.mem_of_getElem? (i := 492) (by decide +kernel)) rfl
theorem ml_RJ2_183 : Cond.methodLink RJ2 183 yJ9_min_7cf53 ∈ tb := tb_in (List.mem_of_getElem? (i := 493) (by decide +kernel)) rfl
theorem kc_RJ2_227 : Cond.constant RJ2 227 (65536) ∈ tb := tb_in (List.mem_of_getElem? (i := 494) (by decide +kernel)) rfl
theorem ml_RJ2_228 : Cond.methodLink RJ2 228 yJ2_indexOfChar_4cfef ∈ tb := tb_in (List.mem_of_getElem? (i := 495) (by decide +kernel)) rfl
theorem ml_RJ2_232 : Cond.methodLink RJ2 232 yJ2_indexOfSupplementary_4cfef ∈ tb := tb_in (List.mem_of_getElem? (i := 524) (by decide +kernel)) rfl
theorem ml_RJ2_96 : Cond.methodLink RJ2 96 yJ2_checkBoundsBeginEnd_d044e ∈ tb := tb_in (List.mem_of_getElem? (i := 498) (by decide +kernel)) rfl
theorem ml_RJ2_244 : Cond.methodLink RJ2 244 yJ2_indexOfCharUnsafe_4cfef ∈ tb := tb_in (List.mem_of_getElem? (i := 512) (by decide +kernel)) rfl
theorem ml_RJ2_71 : Cond.methodLink RJ2 71 yJ2_getChar_3b067 ∈ tb := tb_in (List.mem_of_getElem? (i := 515) (by decide +kernel)) rfl
theorem ml_RJ2_164 : Cond.methodLink RJ2 164 yJ11_isValidCodePoint_9a6ad ∈ tb := tb_in (List.mem_of_getElem? (i := 527) (by decide +kernel)) rfl
theorem ml_RJ2_157 : Cond.methodLink RJ2 157 yJ11_highSurrogate_5068e ∈ tb := tb_in (List.mem_of_getElem? (i := 530) (by decide +kernel)) rfl
theorem ml_RJ2_161 : Cond.methodLink RJ2 161 yJ11_lowSurrogate_5068e ∈ tb := tb_in (List.mem_of_getElem? (i := 534) (by decide +kernel)) rfl
theorem ml_RJ2_241 : Cond.methodLink RJ2 241 yJ0_checkBoundsBeginEnd_23922 ∈ tb := tb_in (List.mem_of_getElem? (i := 504) (by decide +kernel)) rfl
theorem ml_RJ7_304 : Cond.methodLink RJ7 304 yJ9_min_7cf53 ∈ tb := tb_in (List.mem_of_getElem? (i := 686) (by decide +kernel)) rfl
theorem ml_RL_9 : Cond.methodLink RL 9 yX8_init ∈ tb := tb_in (List.mem_of_getElem? (i := 60) (by decide +kernel)) rfl
theorem ml_RL_12 : Cond.methodLink RL 12 yX9_init ∈ tb := tb_in (List.mem_of_getElem? (i := 797) (by decide +kernel)) rfl
theorem ml_RL_13 : Cond.methodLink RL 13 yX8_part ∈ tb := tb_in (List.mem_of_getElem? (i := 228) (by decide +kernel)) rfl
theorem ml_RL_17 : Cond.methodLink RL 17 yX9_part ∈ tb := tb_in (List.mem_of_getElem? (i := 944) (by decide +kernel)) rfl
theorem ml_RL_18 : Cond.methodLink RL 18 yX8_arch ∈ tb := tb_in (List.mem_of_getElem? (i := 315) (by decide +kernel)) rfl
theorem ml_RL_22 : Cond.methodLink RL 22 yX9_arch ∈ tb := tb_in (List.mem_of_getElem? (i := 959) (by decide +kernel)) rfl
theorem ml_RL_23 : Cond.methodLink RL 23 yX8_bear ∈ tb := tb_in (List.mem_of_getElem? (i := 327) (by decide +kernel)) rfl
theorem ml_RL_26 : Cond.methodLink RL 26 yX9_bear ∈ tb := tb_in (List.mem_of_getElem? (i := 971) (by decide +kernel)) rfl
theorem ml_RL_27 : Cond.methodLink RL 27 yX8_edit ∈ tb := tb_in (List.mem_of_getElem? (i := 355) (by decide +kernel)) rfl
theorem ml_RL_31 : Cond.methodLink RL 31 yX9_edit ∈ tb := tb_in (List.mem_of_getElem? (i := 979) (by decide +kernel)) rfl
theorem ml_RL_32 : Cond.methodLink RL 32 yX8_wanted ∈ tb := tb_in (List.mem_of_getElem? (i := 359) (by decide +kernel)) rfl
theorem ml_RL_35 : Cond.methodLink RL 35 yX9_wanted ∈ tb := tb_in (List.mem_of_getElem? (i := 983) (by decide +kernel)) rfl
theorem ml_RL_36 : Cond.methodLink RL 36 yX8_tell ∈ tb := tb_in (List.mem_of_getElem? (i := 368) (by decide +kernel)) rfl
theorem ml_RL_39 : Cond.methodLink RL 39 yX9_tell ∈ tb := tb_in (List.mem_of_getElem? (i := 987) (by decide +kernel)) rfl
theorem ml_RL_40 : Cond.methodLink RL 40 yX8_lay ∈ tb := tb_in (List.mem_of_getElem? (i := 411) (by decide +kernel)) rfl
theorem ml_RL_44 : Cond.methodLink RL 44 yX9_lay ∈ tb := tb_in (List.mem_of_getElem? (i := 1091) (by decide +kernel)) rfl
theorem ml_RL_45 : Cond.methodLink RL 45 yX8_may ∈ tb := tb_in (List.mem_of_getElem? (i := 579) (by decide +kernel)) rfl
theorem ml_RL_48 : Cond.methodLink RL 48 yX9_may ∈ tb := tb_in (List.mem_of_getElem? (i := 1074) (by decide +kernel)) rfl
theorem ml_RL_49 : Cond.methodLink RL 49 yX8_falls ∈ tb := tb_in (List.mem_of_getElem? (i := 583) (by decide +kernel)) rfl
theorem ml_RL_52 : Cond.methodLink RL 52 yX9_falls ∈ tb := tb_in (List.mem_of_getElem? (i := 1087) (by decide +kernel)) rfl
theorem ml_RL_53 : Cond.methodLink RL 53 yX8_strike ∈ tb := tb_in (List.mem_of_getElem? (i := 587) (by decide +kernel)) rfl
theorem ml_RL_56 : Cond.methodLink RL 56 yX9_strike ∈ tb := tb_in (List.mem_of_getElem? (i := 1095) (by decide +kernel)) rfl
theorem ml_RL_57 : Cond.methodLink RL 57 yX8_prop ∈ tb := tb_in (List.mem_of_getElem? (i := 592) (by decide +kernel)) rfl
theorem ml_RL_60 : Cond.methodLink RL 60 yX9_prop ∈ tb := tb_in (List.mem_of_getElem? (i := 1099) (by decide +kernel)) rfl
theorem ml_RL_61 : Cond.methodLink RL 61 yX8_month ∈ tb := tb_in (List.mem_of_getElem? (i := 597) (by decide +kernel)) rfl
theorem ml_RL_64 : Cond.methodLink RL 64 yX9_month ∈ tb := tb_in (List.mem_of_getElem? (i := 1103) (by decide +kernel)) rfl
theorem ml_RL_65 : Cond.methodLink RL 65 yX8_frost ∈ tb := tb_in (List.mem_of_getElem? (i := 611) (by decide +kernel)) rfl
theorem ml_RL_68 : Cond.methodLink RL 68 yX9_frost ∈ tb := tb_in (List.mem_of_getElem? (i := 1107) (by decide +kernel)) rfl
theorem ml_RL_69 : Cond.methodLink RL 69 yX8_bitter ∈ tb := tb_in (List.mem_of_getElem? (i := 615) (by decide +kernel)) rfl
theorem ml_RL_72 : Cond.methodLink RL 72 yX9_bitter ∈ tb := tb_in (List.mem_of_getElem? (i := 1111) (by decide +kernel)) rfl
theorem ml_RL_73 : Cond.methodLink RL 73 yX8_feed ∈ tb := tb_in (List.mem_of_getElem? (i := 627) (by decide +kernel)) rfl
theorem ml_RL_76 : Cond.methodLink RL 76 yX9_feed ∈ tb := tb_in (List.mem_of_getElem? (i := 1009) (by decide +kernel)) rfl
theorem ml_RL_77 : Cond.methodLink RL 77 yX8_gift ∈ tb := tb_in (List.mem_of_getElem? (i := 635) (by decide +kernel)) rfl
theorem ml_RL_80 : Cond.methodLink RL 80 yX9_gift ∈ tb := tb_in (List.mem_of_getElem? (i := 1013) (by decide +kernel)) rfl
theorem ml_RL_81 : Cond.methodLink RL 81 yX8_statute ∈ tb := tb_in (List.mem_of_getElem? (i := 717) (by decide +kernel)) rfl
theorem ml_RL_84 : Cond.methodLink RL 84 yX9_statute ∈ tb := tb_in (List.mem_of_getElem? (i := 1038) (by decide +kernel)) rfl
theorem ml_RL_85 : Cond.methodLink RL 85 yX8_end ∈ tb := tb_in (List.mem_of_getElem? (i := 721) (by decide +kernel)) rfl
theorem ml_RL_88 : Cond.methodLink RL 88 yX9_end ∈ tb := tb_in (List.mem_of_getElem? (i := 1061) (by decide +kernel)) rfl
theorem ml_RL_89 : Cond.methodLink RL 89 yX8_about ∈ tb := tb_in (List.mem_of_getElem? (i := 726) (by decide +kernel)) rfl
theorem ml_RL_92 : Cond.methodLink RL 92 yX9_about ∈ tb := tb_in (List.mem_of_getElem? (i := 1115) (by decide +kernel)) rfl
theorem ml_RL_93 : Cond.methodLink RL 93 yX8_support ∈ tb := tb_in (List.mem_of_getElem? (i := 748) (by decide +kernel)) rfl
theorem ml_RL_96 : Cond.methodLink RL 96 yX9_support ∈ tb := tb_in (List.mem_of_getElem? (i := 1123) (by decide +kernel)) rfl
theorem ml_RL_97 : Cond.methodLink RL 97 yX8_left ∈ tb := tb_in (List.mem_of_getElem? (i := 752) (by decide +kernel)) rfl
theorem ml_RL_100 : Cond.methodLink RL 100 yX9_left ∈ tb := tb_in (List.mem_of_getElem? (i := 1127) (by decide +kernel)) rfl
theorem ml_RL_101 : Cond.methodLink RL 101 yX8_work ∈ tb := tb_in (List.mem_of_getElem? (i := 756) (by decide +kernel)) rfl
theorem ml_RL_105 : Cond.methodLink RL 105 yX9_work ∈ tb := tb_in (List.mem_of_getElem? (i := 1042) (by decide +kernel)) rfl
theorem ml_RL_106 : Cond.methodLink RL 106 yX8_as ∈ tb := tb_in (List.mem_of_getElem? (i := 757) (by decide +kernel)) rfl
theorem ml_RL_109 : Cond.methodLink RL 109 yX9_as ∈ tb := tb_in (List.mem_of_getElem? (i := 1131) (by decide +kernel)) rfl
theorem ml_RL_110 : Cond.methodLink RL 110 yX8_down ∈ tb := tb_in (List.mem_of_getElem? (i := 765) (by decide +kernel)) rfl
theorem ml_RL_113 : Cond.methodLink RL 113 yX9_down ∈ tb := tb_in (List.mem_of_getElem? (i := 1135) (by decide +kernel)) rfl
theorem ml_RL_114 : Cond.methodLink RL 114 yX8_needs ∈ tb := tb_in (List.mem_of_getElem? (i := 774) (by decide +kernel)) rfl
theorem ml_RL_117 : Cond.methodLink RL 117 yX9_needs ∈ tb := tb_in (List.mem_of_getElem? (i := 1139) (by decide +kernel)) rfl
theorem ml_RL_118 : Cond.methodLink RL 118 yX8_count ∈ tb := tb_in (List.mem_of_getElem? (i := 783) (by decide +kernel)) rfl
theorem ml_RL_121 : Cond.methodLink RL 121 yX9_count ∈ tb := tb_in (List.mem_of_getElem? (i := 1143) (by decide +kernel)) rfl
def alen (f : Nat) : Nat := match f with
  | 100 => 101
  | 304 => 4
  | 305 => 4
  | 306 => 4
  | 307 => 30
  | 400 => 40
  | 401 => 61
  | 402 => 61
  | 403 => 61
  | 404 => 4
  | 500 => 8
  | 501 => 100
  | 600 => 40
  | 601 => 40
  | 700 => 100
  | 701 => 100
  | 702 => 20
  | 905 => 30
  | 906 => 20
  | 907 => 20
  | 908 => 40
  | 1002 => 40
  | 1003 => 40
  | 1004 => 40
  | 1005 => 40
  | 1006 => 40
  | 1007 => 40
  | 1008 => 40
  | 1009 => 40
  | 1010 => 40
  | 1011 => 40
  | 1012 => 40
  | 1013 => 40
  | 1014 => 40
  | 1015 => 40
  | 1016 => 160
  | 1017 => 160
  | 1022 => 1201
  | 1023 => 48040
  | 1025 => 61
  | 1026 => 2440
  | 1027 => 4
  | 1028 => 40
  | 1029 => 40
  | 1030 => 100
  | 1033 => 51
  | 1034 => 5100
  | 1036 => 21
  | 1037 => 100
  | 1039 => 30
  | 1040 => 30
  | 1041 => 30
  | 1043 => 20
  | 1044 => 20
  | 1045 => 30
  | 1046 => 40
  | _ => 0
/-- the objects that are always there, and the lengths of their rows -/
def Sg (E : Et) : Prop := (∀ c, c ∈ ([0, 3, 4, 5, 6, 8, 9] : List Nat) → eL E c 0) ∧ ∀ f i, f ≠ 800 → eN E f i = alen f
theorem ix {E : Et} {f i n : Nat} {x : Int32} (h : Sg E) (hf : f ≠ 800) (hn : alen f = n) (hx : vp_in x n) : vp_in x (eN E f i) := by
  rw [h.2 f i hf, hn]
  exact hx
section Calls0
variable {l : Launch} {G : Gt} {own : String} {cc : ByteArray} {nL : Nat} {ret : Option FieldType} {rm : Room} {E : Et} {V : Vt} {pc : Nat} {ll : List (Nat × Value)} {st : List Value} {Q : Option Value → Et → Vt → Prop}
/-- the ends of methods that make nothing: an int (or a boolean), nothing, a cell of class c or null -/
def Qi (E : Et) (K : Int32 → Vt → Prop) : Option Value → Et → Vt → Prop := fun r E' V' => E = E' ∧ ∃ x, r = some (.int x) ∧ K x V'
def Qv (E : Et) (K : Vt → Prop) : Option Value → Et → Vt → Prop := fun r E' V' => E = E' ∧ r = none ∧ K V'
def Qr (c : Nat) (E : Et) (K : Option Nat → Vt → Prop) : Option Value → Et → Vt → Prop := fun r E' V' => E = E' ∧ ∃ o : Option Nat, r = some (va_rf (o.map (eA E c))) ∧ K o V'

theorem r_cVi {idx ci i na nY : Nat} {y : MethodName} {cy : ByteArray} {ry : Option FieldType} {rY : Room} {As rest : List Value} {K : Int32 → Vt → Prop} (hd : decode cc pc = .ok (.invokevirtual idx, 3)) (hm : MV y cy nY ry na) (hlink : Cond.methodLink own idx y ∈ tb) (hcl : ∃ T N, cls[ci]? = some (y.cls, T, N)) (hlv : eL E ci i) (hrm : rY.frames + 1 ≤ rm.frames ∧ 8 + (nY + 11) + rY.locals ≤ rm.locals) (h0 : rY.cells = 0 ∧ rY.slots = 0) (hna : As.length = na) (hst : st = As.reverse ++ .ref (eA E ci i) :: rest) (hcat : (rest.map fun v => v.category).sum ≤ 8) (hC : Cl l G y cy nY ry rY E V (.ref (eA E ci i) :: As) (Qi E K)) (kk : ∀ x V', K x V' → Ev l G own cc nL ret rm E 0 0 V' (pc + 3) ll (.int x :: rest) Q) : Ev l G own cc nL ret rm E 0 0 V pc ll st Q := by
  have hcs : 0 + rY.cells ≤ rm.cells ∧ 0 + rY.slots ≤ rm.slots := by rw [h0.1, h0.2]; exact ⟨Nat.zero_le _, Nat.zero_le _⟩
  refine r_callV hd hm hlink hcl hlv hrm hcs hna hst hcat hC (fun r E' V' hq => ?_)
  obtain ⟨rfl, x, rfl, hk⟩ := hq
  rw [h0.1, h0.2]
  exact kk x V' hk
theorem r_cSi {idx na nY : Nat} {y : MethodName} {cy : ByteArray} {ry : Option FieldType} {rY : Room} {As rest : List Value} {K : Int32 → Vt → Prop} (hd : decode cc pc = .ok (.invokestatic idx, 3)) (hm : MS y cy nY ry na) (hlink : Cond.methodLink own idx y ∈ tb) (hrm : rY.frames + 1 ≤ rm.frames ∧ 8 + (nY + 11) + rY.locals ≤ rm.locals) (h0 : rY.cells = 0 ∧ rY.slots = 0) (hna : As.length = na) (hst : st = As.reverse ++ rest) (hcat : (rest.map fun v => v.category).sum ≤ 8) (hC : Cl l G y cy nY ry rY E V As (Qi E K)) (kk : ∀ x V', K x V' → Ev l G own cc nL ret rm E 0 0 V' (pc + 3) ll (.int x :: rest) Q) : Ev l G own cc nL ret rm E 0 0 V pc ll st Q := by
  have hcs : 0 + rY.cells ≤ rm.cells ∧ 0 + rY.slots ≤ rm.slots := by rw [h0.1, h0.2]; exact ⟨Nat.zero_le _, Nat.zero_le _⟩
  refine r_callS hd hm hlink hrm hcs hna hst hcat hC (fun r E' V' hq => ?_)
  obtain ⟨rfl, x, rfl, hk⟩ := hq
  rw [h0.1, h0.2]
  exact kk x V' hk
theorem r_cVv {idx ci i na nY : Nat} {y : MethodName} {cy : ByteArray} {ry : Option FieldType} {rY : Room} {As rest : List Value} {K : Vt → Prop} (hd : decode cc pc = .ok (.invokevirtual idx, 3)) (hm : MV y cy nY ry na) (hlink : Cond.methodLink own idx y ∈ tb) (hcl : ∃ T N, cls[ci]? = some (y.cls, T, N)) (hlv : eL E ci i) (hrm : rY.frames + 1 ≤ rm.frames ∧ 8 + (nY + 11) + rY.locals ≤ rm.locals) (h0 : rY.cells = 0 ∧ rY.slots = 0) (hna : As.length = na) (hst : st = As.reverse ++ .ref (eA E ci i) :: rest) (hcat : (rest.map fun v => v.category).sum ≤ 8) (hC : Cl l G y cy nY ry rY E V (.ref (eA E ci i) :: As) (Qv E K)) (kk : ∀ V', K V' → Ev l G own cc nL ret rm E 0 0 V' (pc + 3) ll rest Q) : Ev l G own cc nL ret rm E 0 0 V pc ll st Q := by
  have hcs : 0 + rY.cells ≤ rm.cells ∧ 0 + rY.slots ≤ rm.slots := by rw [h0.1, h0.2]; exact ⟨Nat.zero_le _, Nat.zero_le _⟩
  refine r_callV hd hm hlink hcl hlv hrm hcs hna hst hcat hC (fun r E' V' hq => ?_)
  obtain ⟨rfl, rfl, hk⟩ := hq
  rw [h0.1, h0.2]
  exact kk V' hk
theorem r_cSv {idx na nY : Nat} {y : MethodName} {cy : ByteArray} {ry : Option FieldType} {rY : Room} {As rest : List Value} {K : Vt → Prop} (hd : decode cc pc = .ok (.invokestatic idx, 3)) (hm : MS y cy nY ry na) (hlink : Cond.methodLink own idx y ∈ tb) (hrm : rY.frames + 1 ≤ rm.frames ∧ 8 + (nY + 11) + rY.locals ≤ rm.locals) (h0 : rY.cells = 0 ∧ rY.slots = 0) (hna : As.length = na) (hst : st = As.reverse ++ rest) (hcat : (rest.map fun v => v.category).sum ≤ 8) (hC : Cl l G y cy nY ry rY E V As (Qv E K)) (kk : ∀ V', K V' → Ev l G own cc nL ret rm E 0 0 V' (pc + 3) ll rest Q) : Ev l G own cc nL ret rm E 0 0 V pc ll st Q := by
  have hcs : 0 + rY.cells ≤ rm.cells ∧ 0 + rY.slots ≤ rm.slots := by rw [h0.1, h0.2]; exact ⟨Nat.zero_le _, Nat.zero_le _⟩
  refine r_callS hd hm hlink hrm hcs hna hst hcat hC (fun r E' V' hq => ?_)
  obtain ⟨rfl, rfl, hk⟩ := hq
  rw [h0.1, h0.2]
  exact kk V' hk
theorem r_cVr {idx ci i na nY : Nat} {y : MethodName} {cy : ByteArray} {ry : Option FieldType} {rY : Room} {As rest : List Value} {K : Option Nat → Vt → Prop} {cr : Nat} (hd : decode cc pc = .ok (.invokevirtual idx, 3)) (hm : MV y cy nY ry na) (hlink : Cond.methodLink own idx y ∈ tb) (hcl : ∃ T N, cls[ci]? = some (y.cls, T, N)) (hlv : eL E ci i) (hrm : rY.frames + 1 ≤ rm.frames ∧ 8 + (nY + 11) + rY.locals ≤ rm.locals) (h0 : rY.cells = 0 ∧ rY.slots = 0) (hna : As.length = na) (hst : st = As.reverse ++ .ref (eA E ci i) :: rest) (hcat : (rest.map fun v => v.category).sum ≤ 8) (hC : Cl l G y cy nY ry rY E V (.ref (eA E ci i) :: As) (Qr cr E K)) (kk : ∀ o V', K o V' → Ev l G own cc nL ret rm E 0 0 V' (pc + 3) ll (va_rf (o.map (eA E cr)) :: rest) Q) : Ev l G own cc nL ret rm E 0 0 V pc ll st Q := by
  have hcs : 0 + rY.cells ≤ rm.cells ∧ 0 + rY.slots ≤ rm.slots := by rw [h0.1, h0.2]; exact ⟨Nat.zero_le _, Nat.zero_le _⟩
  refine r_callV hd hm hlink hcl hlv hrm hcs hna hst hcat hC (fun r E' V' hq => ?_)
  obtain ⟨rfl, o, rfl, hk⟩ := hq
  rw [h0.1, h0.2]
  exact kk o V' hk
theorem r_cSr {idx na nY : Nat} {y : MethodName} {cy : ByteArray} {ry : Option FieldType} {rY : Room} {As rest : List Value} {K : Option Nat → Vt → Prop} {cr : Nat} (hd : decode cc pc = .ok (.invokestatic idx, 3)) (hm : MS y cy nY ry na) (hlink : Cond.methodLink own idx y ∈ tb) (hrm : rY.frames + 1 ≤ rm.frames ∧ 8 + (nY + 11) + rY.locals ≤ rm.locals) (h0 : rY.cells = 0 ∧ rY.slots = 0) (hna : As.length = na) (hst : st = As.reverse ++ rest) (hcat : (rest.map fun v => v.category).sum ≤ 8) (hC : Cl l G y cy nY ry rY E V As (Qr cr E K)) (kk : ∀ o V', K o V' → Ev l G own cc nL ret rm E 0 0 V' (pc + 3) ll (va_rf (o.map (eA E cr)) :: rest) Q) : Ev l G own cc nL ret rm E 0 0 V pc ll st Q := by
  have hcs : 0 + rY.cells ≤ rm.cells ∧ 0 + rY.slots ≤ rm.slots := by rw [h0.1, h0.2]; exact ⟨Nat.zero_le _, Nat.zero_le _⟩
  refine r_callS hd hm hlink hrm hcs hna hst hcat hC (fun r E' V' hq => ?_)
  obtain ⟨rfl, o, rfl, hk⟩ := hq
  rw [h0.1, h0.2]
  exact kk o V' hk
end Calls0
end

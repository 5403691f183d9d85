abbrev rm_X9_in : Room := { frames := 0, cells := 0, slots := 0, locals := 0 }
def C_X9_in (l : Launch) (G : Gt) (E : Et) (V : Vt) (x1 : Int32) (x2 : Int32) (x3 : Int32) (K : Int32 → Vt → Prop) : Prop := Cl l G yX9_in cX9_in 3 (some .boolean) rm_X9_in E V [.int x1, .int x2, .int x3] (Qi E K)
def vc_X9_in (l : Launch) (G : Gt) (E : Et) (V : Vt) (x1 : Int32) (x2 : Int32) (x3 : Int32) (K : Int32 → Vt → Prop) : Prop := ((x1 < x2 → K (0 : Int32) V) ∧ (¬ x1 < x2 → ((x3 < x1 → K (0 : Int32) V) ∧ (¬ x3 < x1 → K (1 : Int32) V))))
theorem ok_X9_in {l : Launch} {G : Gt} {E : Et} {V : Vt} {x1 : Int32} {x2 : Int32} {x3 : Int32} {K : Int32 → Vt → Prop} (hE : Sg E)  (h : vc_X9_in l G E V x1 x2 x3 K) : C_X9_in l G E V x1 x2 x3 K := by
  unfold vc_X9_in at h
  refine Cl.of (by decide +kernel) (Nat.le_of_ble_eq_true rfl) (show Ev l G RX9 cX9_in 3 (some .boolean) rm_X9_in E 0 0 V 0 [(0, .int x1), (1, .int x2), (2, .int x3)] [] (Qi E K) from ?_)
  refine r_iload_n (x := x1) dX9_in_0 rfl ?_
  refine r_iload_n (x := x2) dX9_in_1 rfl ?_
  refine r_icmp_lt 14 dX9_in_2 (by decide) (fun q => ?_) (fun q => ?_)
  · have h := h.1 q
    refine r_iconst (v := (0 : Int32)) dX9_in_14 (by decide) ?_
    exact r_zret dX9_in_15 rfl rfl ⟨Nat.le_of_ble_eq_true rfl, Nat.le_of_ble_eq_true rfl⟩ ⟨rfl, _, rfl, h⟩
  · have h := h.2 q
    refine r_iload_n (x := x1) dX9_in_5 rfl ?_
    refine r_iload_n (x := x3) dX9_in_6 rfl ?_
    refine r_icmp_gt 14 dX9_in_7 (by decide) (fun q => ?_) (fun q => ?_)
    · have h := h.1 q
      refine r_iconst (v := (0 : Int32)) dX9_in_14 (by decide) ?_
      exact r_zret dX9_in_15 rfl rfl ⟨Nat.le_of_ble_eq_true rfl, Nat.le_of_ble_eq_true rfl⟩ ⟨rfl, _, rfl, h⟩
    · have h := h.2 q
      refine r_iconst (v := (1 : Int32)) dX9_in_10 (by decide) ?_
      refine r_goto 15 dX9_in_11 (by decide) ?_
      exact r_zret dX9_in_15 rfl rfl ⟨Nat.le_of_ble_eq_true rfl, Nat.le_of_ble_eq_true rfl⟩ ⟨rfl, _, rfl, h⟩
abbrev rm_X9_isPart : Room := { frames := 1, cells := 0, slots := 0, locals := 22 }
def C_X9_isPart (l : Launch) (G : Gt) (E : Et) (V : Vt) (x1 : Int32) (K : Int32 → Vt → Prop) : Prop := Cl l G yX9_isPart cX9_isPart 2 (some .boolean) rm_X9_isPart E V [.ref (eA E 9 0), .int x1] (Qi E K)
def vc_X9_isPart (l : Launch) (G : Gt) (E : Et) (V : Vt) (x1 : Int32) (K : Int32 → Vt → Prop) : Prop := (C_X9_in l G E V x1 (0 : Int32) ((V 1001 0 0) - (1 : Int32)) (fun x22 V21 => (x22 = (0 : Int32) ∨ x22 = (1 : Int32)) ∧ K x22 V21))
theorem ok_X9_isPart {l : Launch} {G : Gt} {E : Et} {V : Vt} {x1 : Int32} {K : Int32 → Vt → Prop} (hE : Sg E)  (h : vc_X9_isPart l G E V x1 K) : C_X9_isPart l G E V x1 K := by
  unfold vc_X9_isPart at h
  refine Cl.of (by decide +kernel) (Nat.le_of_ble_eq_true rfl) (show Ev l G RX9 cX9_isPart 2 (some .boolean) rm_X9_isPart E 0 0 V 0 [(0, .ref (eA E 9 0)), (1, .int x1)] [] (Qi E K) from ?_)
  refine r_iload_n (x := x1) dX9_isPart_0 rfl ?_
  refine r_iconst (v := (0 : Int32)) dX9_isPart_1 (by decide) ?_
  refine r_aload_n (v := .ref (eA E 9 0)) dX9_isPart_2 rfl (rl_ref _) ?_
  refine r_get (v := .int (V 1001 0 0)) dX9_isPart_3 fl_RX9_122 (hE.1 9 (by decide)) rfl ?_
  refine r_iconst (v := (1 : Int32)) dX9_isPart_6 (by decide) ?_
  refine r_isub dX9_isPart_7 ?_
  refine r_cSi (As := [.int x1, .int (0 : Int32), .int ((V 1001 0 0) - (1 : Int32))]) (rest := []) dX9_isPart_8 ms_X9_in ml_RX9_125 ⟨Nat.le_of_ble_eq_true rfl, Nat.le_of_ble_eq_true rfl⟩ ⟨rfl, rfl⟩ rfl rfl (Nat.le_of_ble_eq_true rfl) h (fun x22 V21 h => ?_)
  obtain ⟨hz, h⟩ := h
  exact r_zret dX9_isPart_11 rfl (nbz hz) ⟨Nat.le_of_ble_eq_true rfl, Nat.le_of_ble_eq_true rfl⟩ ⟨rfl, _, rfl, h⟩
abbrev rm_X9_newPart : Room := { frames := 0, cells := 0, slots := 0, locals := 0 }
def C_X9_newPart (l : Launch) (G : Gt) (E : Et) (V : Vt) (x1 : Int32) (x2 : Int32) (x3 : Int32) (x4 : Int32) (K : Int32 → Vt → Prop) : Prop := Cl l G yX9_newPart cX9_newPart 6 (some .int) rm_X9_newPart E V [.ref (eA E 9 0), .int x1, .int x2, .int x3, .int x4] (Qi E K)
def vc_X9_newPart (l : Launch) (G : Gt) (E : Et) (V : Vt) (x1 : Int32) (x2 : Int32) (x3 : Int32) (x4 : Int32) (K : Int32 → Vt → Prop) : Prop := (vp_in (V 1001 0 0) 40) ∧ (vp_in (V 1001 0 0) 40) ∧ (vp_in (V 1001 0 0) 40) ∧ (vp_in (V 1001 0 0) 40) ∧ (vp_in (V 1001 0 0) 40) ∧ (vp_in (V 1001 0 0) 40) ∧ (vp_in (V 1001 0 0) 40) ∧ (vp_in (V 1001 0 0) 40) ∧ (vp_in (V 1001 0 0) 40) ∧ (vp_in (V 1001 0 0) 40) ∧ (vp_in (V 1001 0 0) 40) ∧ (vp_in (V 1001 0 0) 40) ∧ (vp_in (V 1001 0 0) 40) ∧ (vp_in (V 1001 0 0) 40) ∧ K (V 1001 0 0) (up3 (up3 (up3 (up3 (up3 (up3 (up3 (up3 (up3 (up3 (up3 (up3 (up3 (up3 (up3 V 1002 0 ((V 1001 0 0)).toNatClampNeg x1) 1003 0 ((V 1001 0 0)).toNatClampNeg x2) 1004 0 ((V 1001 0 0)).toNatClampNeg x2) 1005 0 ((V 1001 0 0)).toNatClampNeg x3) 1006 0 ((V 1001 0 0)).toNatClampNeg x4) 1007 0 ((V 1001 0 0)).toNatClampNeg (1000000 : Int32)) 1008 0 ((V 1001 0 0)).toNatClampNeg (0 : Int32)) 1009 0 ((V 1001 0 0)).toNatClampNeg (50 : Int32)) 1010 0 ((V 1001 0 0)).toNatClampNeg (3 : Int32)) 1011 0 ((V 1001 0 0)).toNatClampNeg (0 : Int32)) 1012 0 ((V 1001 0 0)).toNatClampNeg (0 : Int32)) 1013 0 ((V 1001 0 0)).toNatClampNeg (0 : Int32)) 1014 0 ((V 1001 0 0)).toNatClampNeg (vp_nar .boolean (0 : Int32))) 1015 0 ((V 1001 0 0)).toNatClampNeg (0 : Int32)) 1001 0 0 (((up3 (up3 (up3 (up3 (up3 (up3 (up3 (up3 (up3 (up3 (up3 (up3 (up3 (up3 V 1002 0 ((V 1001 0 0)).toNatClampNeg x1) 1003 0 ((V 1001 0 0)).toNatClampNeg x2) 1004 0 ((V 1001 0 0)).toNatClampNeg x2) 1005 0 ((V 1001 0 0)).toNatClampNeg x3) 1006 0 ((V 1001 0 0)).toNatClampNeg x4) 1007 0 ((V 1001 0 0)).toNatClampNeg (1000000 : Int32)) 1008 0 ((V 1001 0 0)).toNatClampNeg (0 : Int32)) 1009 0 ((V 1001 0 0)).toNatClampNeg (50 : Int32)) 1010 0 ((V 1001 0 0)).toNatClampNeg (3 : Int32)) 1011 0 ((V 1001 0 0)).toNatClampNeg (0 : Int32)) 1012 0 ((V 1001 0 0)).toNatClampNeg (0 : Int32)) 1013 0 ((V 1001 0 0)).toNatClampNeg (0 : Int32)) 1014 0 ((V 1001 0 0)).toNatClampNeg (vp_nar .boolean (0 : Int32))) 1015 0 ((V 1001 0 0)).toNatClampNeg (0 : Int32)) 1001 0 0) + (1 : Int32)))
theorem ok_X9_newPart {l : Launch} {G : Gt} {E : Et} {V : Vt} {x1 : Int32} {x2 : Int32} {x3 : Int32} {x4 : Int32} {K : Int32 → Vt → Prop} (hE : Sg E)  (h : vc_X9_newPart l G E V x1 x2 x3 x4 K) : C_X9_newPart l G E V x1 x2 x3 x4 K := by
  unfold vc_X9_newPart at h
  refine Cl.of (by decide +kernel) (Nat.le_of_ble_eq_true rfl) (show Ev l G RX9 cX9_newPart 6 (some .int) rm_X9_newPart E 0 0 V 0 [(0, .ref (eA E 9 0)), (1, .int x1), (2, .int x2), (3, .int x3), (4, .int x4)] [] (Qi E K) from ?_)
  refine r_aload_n (v := .ref (eA E 9 0)) dX9_newPart_0 rfl (rl_ref _) ?_
  refine r_get (v := .int (V 1001 0 0)) dX9_newPart_1 fl_RX9_122 (hE.1 9 (by decide)) rfl ?_
  refine r_istore dX9_newPart_4 (by decide) ?_
  refine r_aload_n (v := .ref (eA E 9 0)) dX9_newPart_6 rfl (rl_ref _) ?_
  refine r_get (v := .ref (eA E 1002 0)) dX9_newPart_7 fl_RX9_7 (hE.1 9 (by decide)) rfl ?_
  refine r_iload (x := (V 1001 0 0)) dX9_newPart_10 rfl ?_
  refine r_iload_n (x := x1) dX9_newPart_12 rfl ?_
  obtain ⟨hb, h⟩ := h
  refine r_iast dX9_newPart_13 rfl (by decide) (hE.1 9 (by decide)) (ix hE (by decide) rfl hb) ?_
  refine r_aload_n (v := .ref (eA E 9 0)) dX9_newPart_14 rfl (rl_ref _) ?_
  refine r_get (v := .ref (eA E 1003 0)) dX9_newPart_15 fl_RX9_13 (hE.1 9 (by decide)) rfl ?_
  refine r_iload (x := (V 1001 0 0)) dX9_newPart_18 rfl ?_
  refine r_iload_n (x := x2) dX9_newPart_20 rfl ?_
  obtain ⟨hb, h⟩ := h
  refine r_iast dX9_newPart_21 rfl (by decide) (hE.1 9 (by decide)) (ix hE (by decide) rfl hb) ?_
  refine r_aload_n (v := .ref (eA E 9 0)) dX9_newPart_22 rfl (rl_ref _) ?_
  refine r_get (v := .ref (eA E 1004 0)) dX9_newPart_23 fl_RX9_16 (hE.1 9 (by decide)) rfl ?_
  refine r_iload (x := (V 1001 0 0)) dX9_newPart_26 rfl ?_
  refine r_iload_n (x := x2) dX9_newPart_28 rfl ?_
  obtain ⟨hb, h⟩ := h
  refine r_iast dX9_newPart_29 rfl (by decide) (hE.1 9 (by decide)) (ix hE (by decide) rfl hb) ?_
  refine r_aload_n (v := .ref (eA E 9 0)) dX9_newPart_30 rfl (rl_ref _) ?_
  refine r_get (v := .ref (eA E 1005 0)) dX9_newPart_31 fl_RX9_19 (hE.1 9 (by decide)) rfl ?_
  refine r_iload (x := (V 1001 0 0)) dX9_newPart_34 rfl ?_
  refine r_iload_n (x := x3) dX9_newPart_36 rfl ?_
  obtain ⟨hb, h⟩ := h
  refine r_iast dX9_newPart_37 rfl (by decide) (hE.1 9 (by decide)) (ix hE (by decide) rfl hb) ?_
  refine r_aload_n (v := .ref (eA E 9 0)) dX9_newPart_38 rfl (rl_ref _) ?_
  refine r_get (v := .ref (eA E 1006 0)) dX9_newPart_39 fl_RX9_22 (hE.1 9 (by decide)) rfl ?_
  refine r_iload (x := (V 1001 0 0)) dX9_newPart_42 rfl ?_
  refine r_iload (x := x4) dX9_newPart_44 rfl ?_
  obtain ⟨hb, h⟩ := h
  refine r_iast dX9_newPart_46 rfl (by decide) (hE.1 9 (by decide)) (ix hE (by decide) rfl hb) ?_
  refine r_aload_n (v := .ref (eA E 9 0)) dX9_newPart_47 rfl (rl_ref _) ?_
  refine r_get (v := .ref (eA E 1007 0)) dX9_newPart_48 fl_RX9_25 (hE.1 9 (by decide)) rfl ?_
  refine r_iload (x := (V 1001 0 0)) dX9_newPart_51 rfl ?_
  refine r_ldc dX9_newPart_53 kc_RX9_129 ?_
  obtain ⟨hb, h⟩ := h
  refine r_iast dX9_newPart_55 rfl (by decide) (hE.1 9 (by decide)) (ix hE (by decide) rfl hb) ?_
  refine r_aload_n (v := .ref (eA E 9 0)) dX9_newPart_56 rfl (rl_ref _) ?_
  refine r_get (v := .ref (eA E 1008 0)) dX9_newPart_57 fl_RX9_28 (hE.1 9 (by decide)) rfl ?_
  refine r_iload (x := (V 1001 0 0)) dX9_newPart_60 rfl ?_
  refine r_iconst (v := (0 : Int32)) dX9_newPart_62 (by decide) ?_
  obtain ⟨hb, h⟩ := h
  refine r_iast dX9_newPart_63 rfl (by decide) (hE.1 9 (by decide)) (ix hE (by decide) rfl hb) ?_
  refine r_aload_n (v := .ref (eA E 9 0)) dX9_newPart_64 rfl (rl_ref _) ?_
  refine r_get (v := .ref (eA E 1009 0)) dX9_newPart_65 fl_RX9_31 (hE.1 9 (by decide)) rfl ?_
  refine r_iload (x := (V 1001 0 0)) dX9_newPart_68 rfl ?_
  refine r_bipush (v := (50 : Int32)) dX9_newPart_70 (by decide) ?_
  obtain ⟨hb, h⟩ := h
  refine r_iast dX9_newPart_72 rfl (by decide) (hE.1 9 (by decide)) (ix hE (by decide) rfl hb) ?_
  refine r_aload_n (v := .ref (eA E 9 0)) dX9_newPart_73 rfl (rl_ref _) ?_
  refine r_get (v := .ref (eA E 1010 0)) dX9_newPart_74 fl_RX9_34 (hE.1 9 (by decide)) rfl ?_
  refine r_iload (x := (V 1001 0 0)) dX9_newPart_77 rfl ?_
  refine r_iconst (v := (3 : Int32)) dX9_newPart_79 (by decide) ?_
  obtain ⟨hb, h⟩ := h
  refine r_iast dX9_newPart_80 rfl (by decide) (hE.1 9 (by decide)) (ix hE (by decide) rfl hb) ?_
  refine r_aload_n (v := .ref (eA E 9 0)) dX9_newPart_81 rfl (rl_ref _) ?_
  refine r_get (v := .ref (eA E 1011 0)) dX9_newPart_82 fl_RX9_37 (hE.1 9 (by decide)) rfl ?_
  refine r_iload (x := (V 1001 0 0)) dX9_newPart_85 rfl ?_
  refine r_iconst (v := (0 : Int32)) dX9_newPart_87 (by decide) ?_
  obtain ⟨hb, h⟩ := h
  refine r_iast dX9_newPart_88 rfl (by decide) (hE.1 9 (by decide)) (ix hE (by decide) rfl hb) ?_
  refine r_aload_n (v := .ref (eA E 9 0)) dX9_newPart_89 rfl (rl_ref _) ?_
  refine r_get (v := .ref (eA E 1012 0)) dX9_newPart_90 fl_RX9_40 (hE.1 9 (by decide)) rfl ?_
  refine r_iload (x := (V 1001 0 0)) dX9_newPart_93 rfl ?_
  refine r_iconst (v := (0 : Int32)) dX9_newPart_95 (by decide) ?_
  obtain ⟨hb, h⟩ := h
  refine r_iast dX9_newPart_96 rfl (by decide) (hE.1 9 (by decide)) (ix hE (by decide) rfl hb) ?_
  refine r_aload_n (v := .ref (eA E 9 0)) dX9_newPart_97 rfl (rl_ref _) ?_
  refine r_get (v := .ref (eA E 1013 0)) dX9_newPart_98 fl_RX9_43 (hE.1 9 (by decide)) rfl ?_
  refine r_iload (x := (V 1001 0 0)) dX9_newPart_101 rfl ?_
  refine r_iconst (v := (0 : Int32)) dX9_newPart_103 (by decide) ?_
  obtain ⟨hb, h⟩ := h
  refine r_iast dX9_newPart_104 rfl (by decide) (hE.1 9 (by decide)) (ix hE (by decide) rfl hb) ?_
  refine r_aload_n (v := .ref (eA E 9 0)) dX9_newPart_105 rfl (rl_ref _) ?_
  refine r_get (v := .ref (eA E 1014 0)) dX9_newPart_106 fl_RX9_46 (hE.1 9 (by decide)) rfl ?_
  refine r_iload (x := (V 1001 0 0)) dX9_newPart_109 rfl ?_
  refine r_iconst (v := (0 : Int32)) dX9_newPart_111 (by decide) ?_
  obtain ⟨hb, h⟩ := h
  refine r_zast dX9_newPart_112 rfl (by decide) (hE.1 9 (by decide)) (ix hE (by decide) rfl hb) ?_
  refine r_aload_n (v := .ref (eA E 9 0)) dX9_newPart_113 rfl (rl_ref _) ?_
  refine r_get (v := .ref (eA E 1015 0)) dX9_newPart_114 fl_RX9_50 (hE.1 9 (by decide)) rfl ?_
  refine r_iload (x := (V 1001 0 0)) dX9_newPart_117 rfl ?_
  refine r_iconst (v := (0 : Int32)) dX9_newPart_119 (by decide) ?_
  obtain ⟨hb, h⟩ := h
  refine r_iast dX9_newPart_120 rfl (by decide) (hE.1 9 (by decide)) (ix hE (by decide) rfl hb) ?_
  refine r_aload_n (v := .ref (eA E 9 0)) dX9_newPart_121 rfl (rl_ref _) ?_
  refine r_dup dX9_newPart_122 rfl ?_
  refine r_get (v := .int ((up3 (up3 (up3 (up3 (up3 (up3 (up3 (up3 (up3 (up3 (up3 (up3 (up3 (up3 V 1002 0 ((V 1001 0 0)).toNatClampNeg x1) 1003 0 ((V 1001 0 0)).toNatClampNeg x2) 1004 0 ((V 1001 0 0)).toNatClampNeg x2) 1005 0 ((V 1001 0 0)).toNatClampNeg x3) 1006 0 ((V 1001 0 0)).toNatClampNeg x4) 1007 0 ((V 1001 0 0)).toNatClampNeg (1000000 : Int32)) 1008 0 ((V 1001 0 0)).toNatClampNeg (0 : Int32)) 1009 0 ((V 1001 0 0)).toNatClampNeg (50 : Int32)) 1010 0 ((V 1001 0 0)).toNatClampNeg (3 : Int32)) 1011 0 ((V 1001 0 0)).toNatClampNeg (0 : Int32)) 1012 0 ((V 1001 0 0)).toNatClampNeg (0 : Int32)) 1013 0 ((V 1001 0 0)).toNatClampNeg (0 : Int32)) 1014 0 ((V 1001 0 0)).toNatClampNeg (vp_nar .boolean (0 : Int32))) 1015 0 ((V 1001 0 0)).toNatClampNeg (0 : Int32)) 1001 0 0)) dX9_newPart_123 fl_RX9_122 (hE.1 9 (by decide)) rfl ?_
  refine r_iconst (v := (1 : Int32)) dX9_newPart_126 (by decide) ?_
  refine r_iadd dX9_newPart_127 ?_
  refine r_put dX9_newPart_128 fp_RX9_122 rfl (hE.1 9 (by decide)) rfl rfl ?_
  refine r_iload (x := (V 1001 0 0)) dX9_newPart_131 rfl ?_
  exact r_iret dX9_newPart_133 rfl ⟨Nat.le_of_ble_eq_true rfl, Nat.le_of_ble_eq_true rfl⟩ ⟨rfl, _, rfl, h⟩
abbrev rm_X9_isPlan : Room := { frames := 1, cells := 0, slots := 0, locals := 22 }
def C_X9_isPlan (l : Launch) (G : Gt) (E : Et) (V : Vt) (x1 : Int32) (x2 : Int32) (x3 : Int32) (K : Int32 → Vt → Prop) : Prop := Cl l G yX9_isPlan cX9_isPlan 3 (some .boolean) rm_X9_isPlan E V [.int x1, .int x2, .int x3] (Qi E K)
def vc_X9_isPlan (l : Launch) (G : Gt) (E : Et) (V : Vt) (x1 : Int32) (x2 : Int32) (x3 : Int32) (K : Int32 → Vt → Prop) : Prop := (C_X9_in l G E V x1 (1 : Int32) (30 : Int32) (fun x22 V21 => ((x22 = (0 : Int32) → K (0 : Int32) V21) ∧ (¬ x22 = (0 : Int32) → (C_X9_in l G E V21 x2 (1 : Int32) (999 : Int32) (fun x24 V23 => ((x24 = (0 : Int32) → K (0 : Int32) V23) ∧ (¬ x24 = (0 : Int32) → (C_X9_in l G E V23 x3 (0 : Int32) (999 : Int32) (fun x26 V25 => ((x26 = (0 : Int32) → K (0 : Int32) V25) ∧ (¬ x26 = (0 : Int32) → K (1 : Int32) V25))))))))))))
theorem ok_X9_isPlan {l : Launch} {G : Gt} {E : Et} {V : Vt} {x1 : Int32} {x2 : Int32} {x3 : Int32} {K : Int32 → Vt → Prop} (hE : Sg E)  (h : vc_X9_isPlan l G E V x1 x2 x3 K) : C_X9_isPlan l G E V x1 x2 x3 K := by
  unfold vc_X9_isPlan at h
  refine Cl.of (by decide +kernel) (Nat.le_of_ble_eq_true rfl) (show Ev l G RX9 cX9_isPlan 3 (some .boolean) rm_X9_isPlan E 0 0 V 0 [(0, .int x1), (1, .int x2), (2, .int x3)] [] (Qi E K) from ?_)
  refine r_iload_n (x := x1) dX9_isPlan_0 rfl ?_
  refine r_iconst (v := (1 : Int32)) dX9_isPlan_1 (by decide) ?_
  refine r_bipush (v := (30 : Int32)) dX9_isPlan_2 (by decide) ?_
  refine r_cSi (As := [.int x1, .int (1 : Int32), .int (30 : Int32)]) (rest := []) dX9_isPlan_4 ms_X9_in ml_RX9_125 ⟨Nat.le_of_ble_eq_true rfl, Nat.le_of_ble_eq_true rfl⟩ ⟨rfl, rfl⟩ rfl rfl (Nat.le_of_ble_eq_true rfl) h (fun x22 V21 h => ?_)
  refine r_if_eq 36 dX9_isPlan_7 (by decide) (fun q => ?_) (fun q => ?_)
  · have h := h.1 q
    refine r_iconst (v := (0 : Int32)) dX9_isPlan_36 (by decide) ?_
    exact r_zret dX9_isPlan_37 rfl rfl ⟨Nat.le_of_ble_eq_true rfl, Nat.le_of_ble_eq_true rfl⟩ ⟨rfl, _, rfl, h⟩
  · have h := h.2 q
    refine r_iload_n (x := x2) dX9_isPlan_10 rfl ?_
    refine r_iconst (v := (1 : Int32)) dX9_isPlan_11 (by decide) ?_
    refine r_sipush (v := (999 : Int32)) dX9_isPlan_12 (by decide) ?_
    refine r_cSi (As := [.int x2, .int (1 : Int32), .int (999 : Int32)]) (rest := []) dX9_isPlan_15 ms_X9_in ml_RX9_125 ⟨Nat.le_of_ble_eq_true rfl, Nat.le_of_ble_eq_true rfl⟩ ⟨rfl, rfl⟩ rfl rfl (Nat.le_of_ble_eq_true rfl) h (fun x24 V23 h => ?_)
    refine r_if_eq 36 dX9_isPlan_18 (by decide) (fun q => ?_) (fun q => ?_)
    · have h := h.1 q
      refine r_iconst (v := (0 : Int32)) dX9_isPlan_36 (by decide) ?_
      exact r_zret dX9_isPlan_37 rfl rfl ⟨Nat.le_of_ble_eq_true rfl, Nat.le_of_ble_eq_true rfl⟩ ⟨rfl, _, rfl, h⟩
    · have h := h.2 q
      refine r_iload_n (x := x3) dX9_isPlan_21 rfl ?_
      refine r_iconst (v := (0 : Int32)) dX9_isPlan_22 (by decide) ?_
      refine r_sipush (v := (999 : Int32)) dX9_isPlan_23 (by decide) ?_
      refine r_cSi (As := [.int x3, .int (0 : Int32), .int (999 : Int32)]) (rest := []) dX9_isPlan_26 ms_X9_in ml_RX9_125 ⟨Nat.le_of_ble_eq_true rfl, Nat.le_of_ble_eq_true rfl⟩ ⟨rfl, rfl⟩ rfl rfl (Nat.le_of_ble_eq_true rfl) h (fun x26 V25 h => ?_)
      refine r_if_eq 36 dX9_isPlan_29 (by decide) (fun q => ?_) (fun q => ?_)
      · have h := h.1 q
        refine r_iconst (v := (0 : Int32)) dX9_isPlan_36 (by decide) ?_
        exact r_zret dX9_isPlan_37 rfl rfl ⟨Nat.le_of_ble_eq_true rfl, Nat.le_of_ble_eq_true rfl⟩ ⟨rfl, _, rfl, h⟩
      · have h := h.2 q
        refine r_iconst (v := (1 : Int32)) dX9_isPlan_32 (by decide) ?_
        refine r_goto 37 dX9_isPlan_33 (by decide) ?_
        exact r_zret dX9_isPlan_37 rfl rfl ⟨Nat.le_of_ble_eq_true rfl, Nat.le_of_ble_eq_true rfl⟩ ⟨rfl, _, rfl, h⟩
abbrev rm_X9_part : Room := { frames := 2, cells := 0, slots := 0, locals := 44 }
def C_X9_part (l : Launch) (G : Gt) (E : Et) (V : Vt) (x1 : Int32) (x2 : Int32) (x3 : Int32) (K : Int32 → Vt → Prop) : Prop := Cl l G yX9_part cX9_part 4 (some .int) rm_X9_part E V [.ref (eA E 9 0), .int x1, .int x2, .int x3] (Qi E K)
def vc_X9_part (l : Launch) (G : Gt) (E : Et) (V : Vt) (x1 : Int32) (x2 : Int32) (x3 : Int32) (K : Int32 → Vt → Prop) : Prop := (C_X9_isPlan l G E V x1 x2 x3 (fun x22 V21 => ((¬ x22 = (0 : Int32) → ((¬ (V21 1001 0 0) = (40 : Int32) → (C_X9_newPart l G E V21 (0 : Int32) x1 x2 x3 (fun x24 V23 => K x24 V23))) ∧ ((V21 1001 0 0) = (40 : Int32) → K (-3 : Int32) V21))) ∧ (x22 = (0 : Int32) → K (-1 : Int32) V21))))
theorem ok_X9_part {l : Launch} {G : Gt} {E : Et} {V : Vt} {x1 : Int32} {x2 : Int32} {x3 : Int32} {K : Int32 → Vt → Prop} (hE : Sg E)  (h : vc_X9_part l G E V x1 x2 x3 K) : C_X9_part l G E V x1 x2 x3 K := by
  unfold vc_X9_part at h
  refine Cl.of (by decide +kernel) (Nat.le_of_ble_eq_true rfl) (show Ev l G RX9 cX9_part 4 (some .int) rm_X9_part E 0 0 V 0 [(0, .ref (eA E 9 0)), (1, .int x1), (2, .int x2), (3, .int x3)] [] (Qi E K) from ?_)
  refine r_iload_n (x := x1) dX9_part_0 rfl ?_
  refine r_iload_n (x := x2) dX9_part_1 rfl ?_
  refine r_iload_n (x := x3) dX9_part_2 rfl ?_
  refine r_cSi (As := [.int x1, .int x2, .int x3]) (rest := []) dX9_part_3 ms_X9_isPlan ml_RX9_130 ⟨Nat.le_of_ble_eq_true rfl, Nat.le_of_ble_eq_true rfl⟩ ⟨rfl, rfl⟩ rfl rfl (Nat.le_of_ble_eq_true rfl) h (fun x22 V21 h => ?_)
  refine r_if_ne 11 dX9_part_6 (by decide) (fun q => ?_) (fun q => ?_)
  · have h := h.1 q
    refine r_aload_n (v := .ref (eA E 9 0)) dX9_part_11 rfl (rl_ref _) ?_
    refine r_get (v := .int (V21 1001 0 0)) dX9_part_12 fl_RX9_122 (hE.1 9 (by decide)) rfl ?_
    refine r_bipush (v := (40 : Int32)) dX9_part_15 (by decide) ?_
    refine r_icmp_ne 25 dX9_part_17 (by decide) (fun q => ?_) (fun q => ?_)
    · have h := h.1 q
      refine r_aload_n (v := .ref (eA E 9 0)) dX9_part_25 rfl (rl_ref _) ?_
      refine r_iconst (v := (0 : Int32)) dX9_part_26 (by decide) ?_
      refine r_iload_n (x := x1) dX9_part_27 rfl ?_
      refine r_iload_n (x := x2) dX9_part_28 rfl ?_
      refine r_iload_n (x := x3) dX9_part_29 rfl ?_
      refine r_cVi (As := [.int (0 : Int32), .int x1, .int x2, .int x3]) (rest := []) dX9_part_30 mv_X9_newPart ml_RX9_133 ⟨_, _, rfl⟩ (hE.1 9 (by decide)) ⟨Nat.le_of_ble_eq_true rfl, Nat.le_of_ble_eq_true rfl⟩ ⟨rfl, rfl⟩ rfl rfl (Nat.le_of_ble_eq_true rfl) h (fun x24 V23 h => ?_)
      exact r_iret dX9_part_33 rfl ⟨Nat.le_of_ble_eq_true rfl, Nat.le_of_ble_eq_true rfl⟩ ⟨rfl, _, rfl, h⟩
    · have h := h.2 q
      refine r_bipush (v := (-3 : Int32)) dX9_part_20 (by decide) ?_
      refine r_goto 33 dX9_part_22 (by decide) ?_
      exact r_iret dX9_part_33 rfl ⟨Nat.le_of_ble_eq_true rfl, Nat.le_of_ble_eq_true rfl⟩ ⟨rfl, _, rfl, h⟩
  · have h := h.2 q
    refine r_iconst (v := (-1 : Int32)) dX9_part_9 (by decide) ?_
    exact r_iret dX9_part_10 rfl ⟨Nat.le_of_ble_eq_true rfl, Nat.le_of_ble_eq_true rfl⟩ ⟨rfl, _, rfl, h⟩
abbrev rm_X9_support0 : Room := { frames := 0, cells := 0, slots := 0, locals := 0 }
def C_X9_support0 (l : Launch) (G : Gt) (E : Et) (V : Vt) (x1 : Int32) (x2 : Int32) (x3 : Int32) (x4 : Int32) (K : Vt → Prop) : Prop := Cl l G yX9_support0 cX9_support0 5 none rm_X9_support0 E V [.ref (eA E 9 0), .int x1, .int x2, .int x3, .int x4] (Qv E K)
def vc_X9_support0 (l : Launch) (G : Gt) (E : Et) (V : Vt) (x1 : Int32) (x2 : Int32) (x3 : Int32) (x4 : Int32) (K : Vt → Prop) : Prop := (vp_in (((4 : Int32) * x1) + x2) 160) ∧ (vp_in (((4 : Int32) * x1) + x2) 160) ∧ (vp_in x1 40) ∧ K (up3 (up3 (up3 V 1016 0 ((((4 : Int32) * x1) + x2)).toNatClampNeg x3) 1017 0 ((((4 : Int32) * x1) + x2)).toNatClampNeg x4) 1015 0 (x1).toNatClampNeg (x2 + (1 : Int32)))
theorem ok_X9_support0 {l : Launch} {G : Gt} {E : Et} {V : Vt} {x1 : Int32} {x2 : Int32} {x3 : Int32} {x4 : Int32} {K : Vt → Prop} (hE : Sg E)  (h : vc_X9_support0 l G E V x1 x2 x3 x4 K) : C_X9_support0 l G E V x1 x2 x3 x4 K := by
  unfold vc_X9_support0 at h
  refine Cl.of (by decide +kernel) (Nat.le_of_ble_eq_true rfl) (show Ev l G RX9 cX9_support0 5 none rm_X9_support0 E 0 0 V 0 [(0, .ref (eA E 9 0)), (1, .int x1), (2, .int x2), (3, .int x3), (4, .int x4)] [] (Qv E K) from ?_)
  refine r_aload_n (v := .ref (eA E 9 0)) dX9_support0_0 rfl (rl_ref _) ?_
  refine r_get (v := .ref (eA E 1016 0)) dX9_support0_1 fl_RX9_53 (hE.1 9 (by decide)) rfl ?_
  refine r_iconst (v := (4 : Int32)) dX9_support0_4 (by decide) ?_
  refine r_iload_n (x := x1) dX9_support0_5 rfl ?_
  refine r_imul dX9_support0_6 ?_
  refine r_iload_n (x := x2) dX9_support0_7 rfl ?_
  refine r_iadd dX9_support0_8 ?_
  refine r_iload_n (x := x3) dX9_support0_9 rfl ?_
  obtain ⟨hb, h⟩ := h
  refine r_iast dX9_support0_10 rfl (by decide) (hE.1 9 (by decide)) (ix hE (by decide) rfl hb) ?_
  refine r_aload_n (v := .ref (eA E 9 0)) dX9_support0_11 rfl (rl_ref _) ?_
  refine r_get (v := .ref (eA E 1017 0)) dX9_support0_12 fl_RX9_56 (hE.1 9 (by decide)) rfl ?_
  refine r_iconst (v := (4 : Int32)) dX9_support0_15 (by decide) ?_
  refine r_iload_n (x := x1) dX9_support0_16 rfl ?_
  refine r_imul dX9_support0_17 ?_
  refine r_iload_n (x := x2) dX9_support0_18 rfl ?_
  refine r_iadd dX9_support0_19 ?_
  refine r_iload (x := x4) dX9_support0_20 rfl ?_
  obtain ⟨hb, h⟩ := h
  refine r_iast dX9_support0_22 rfl (by decide) (hE.1 9 (by decide)) (ix hE (by decide) rfl hb) ?_
  refine r_aload_n (v := .ref (eA E 9 0)) dX9_support0_23 rfl (rl_ref _) ?_
  refine r_get (v := .ref (eA E 1015 0)) dX9_support0_24 fl_RX9_50 (hE.1 9 (by decide)) rfl ?_
  refine r_iload_n (x := x1) dX9_support0_27 rfl ?_
  refine r_iload_n (x := x2) dX9_support0_28 rfl ?_
  refine r_iconst (v := (1 : Int32)) dX9_support0_29 (by decide) ?_
  refine r_iadd dX9_support0_30 ?_
  obtain ⟨hb, h⟩ := h
  refine r_iast dX9_support0_31 rfl (by decide) (hE.1 9 (by decide)) (ix hE (by decide) rfl hb) ?_
  exact r_vret dX9_support0_32 rfl ⟨Nat.le_of_ble_eq_true rfl, Nat.le_of_ble_eq_true rfl⟩ ⟨rfl, rfl, h⟩
abbrev rm_X9_arch : Room := { frames := 2, cells := 0, slots := 0, locals := 44 }
def C_X9_arch (l : Launch) (G : Gt) (E : Et) (V : Vt) (x1 : Int32) (x2 : Int32) (x3 : Int32) (x4 : Int32) (x5 : Int32) (K : Int32 → Vt → Prop) : Prop := Cl l G yX9_arch cX9_arch 7 (some .int) rm_X9_arch E V [.ref (eA E 9 0), .int x1, .int x2, .int x3, .int x4, .int x5] (Qi E K)
def vc_X9_arch (l : Launch) (G : Gt) (E : Et) (V : Vt) (x1 : Int32) (x2 : Int32) (x3 : Int32) (x4 : Int32) (x5 : Int32) (K : Int32 → Vt → Prop) : Prop := (C_X9_isPlan l G E V x1 x2 x3 (fun x22 V21 => ((x22 = (0 : Int32) → K (-1 : Int32) V21) ∧ (¬ x22 = (0 : Int32) → (C_X9_isPart l G E V21 x4 (fun x24 V23 => ((x24 = (0 : Int32) → K (-1 : Int32) V23) ∧ (¬ x24 = (0 : Int32) → (C_X9_isPart l G E V23 x5 (fun x26 V25 => ((x26 = (0 : Int32) → K (-1 : Int32) V25) ∧ (¬ x26 = (0 : Int32) → ((¬ x4 = x5 → ((¬ (V25 1001 0 0) = (40 : Int32) → (C_X9_newPart l G E V25 (1 : Int32) x1 x2 x3 (fun x28 V27 => (C_X9_support0 l G E V27 x28 (0 : Int32) x4 (6 : Int32) (fun V29 => (C_X9_support0 l G E V29 x28 (1 : Int32) x5 (6 : Int32) (fun V30 => K x28 V30))))))) ∧ ((V25 1001 0 0) = (40 : Int32) → K (-3 : Int32) V25))) ∧ (x4 = x5 → K (-1 : Int32) V25))))))))))))))
theorem ok_X9_arch {l : Launch} {G : Gt} {E : Et} {V : Vt} {x1 : Int32} {x2 : Int32} {x3 : Int32} {x4 : Int32} {x5 : Int32} {K : Int32 → Vt → Prop} (hE : Sg E)  (h : vc_X9_arch l G E V x1 x2 x3 x4 x5 K) : C_X9_arch l G E V x1 x2 x3 x4 x5 K := by
  unfold vc_X9_arch at h
  refine Cl.of (by decide +kernel) (Nat.le_of_ble_eq_true rfl) (show Ev l G RX9 cX9_arch 7 (some .int) rm_X9_arch E 0 0 V 0 [(0, .ref (eA E 9 0)), (1, .int x1), (2, .int x2), (3, .int x3), (4, .int x4), (5, .int x5)] [] (Qi E K) from ?_)
  refine r_iload_n (x := x1) dX9_arch_0 rfl ?_
  refine r_iload_n (x := x2) dX9_arch_1 rfl ?_
  refine r_iload_n (x := x3) dX9_arch_2 rfl ?_
  refine r_cSi (As := [.int x1, .int x2, .int x3]) (rest := []) dX9_arch_3 ms_X9_isPlan ml_RX9_130 ⟨Nat.le_of_ble_eq_true rfl, Nat.le_of_ble_eq_true rfl⟩ ⟨rfl, rfl⟩ rfl rfl (Nat.le_of_ble_eq_true rfl) h (fun x22 V21 h => ?_)
  refine r_if_eq 34 dX9_arch_6 (by decide) (fun q => ?_) (fun q => ?_)
  · have h := h.1 q
    refine r_iconst (v := (-1 : Int32)) dX9_arch_34 (by decide) ?_
    exact r_iret dX9_arch_35 rfl ⟨Nat.le_of_ble_eq_true rfl, Nat.le_of_ble_eq_true rfl⟩ ⟨rfl, _, rfl, h⟩
  · have h := h.2 q
    refine r_aload_n (v := .ref (eA E 9 0)) dX9_arch_9 rfl (rl_ref _) ?_
    refine r_iload (x := x4) dX9_arch_10 rfl ?_
    refine r_cVi (As := [.int x4]) (rest := []) dX9_arch_12 mv_X9_isPart ml_RX9_137 ⟨_, _, rfl⟩ (hE.1 9 (by decide)) ⟨Nat.le_of_ble_eq_true rfl, Nat.le_of_ble_eq_true rfl⟩ ⟨rfl, rfl⟩ rfl rfl (Nat.le_of_ble_eq_true rfl) h (fun x24 V23 h => ?_)
    refine r_if_eq 34 dX9_arch_15 (by decide) (fun q => ?_) (fun q => ?_)
    · have h := h.1 q
      refine r_iconst (v := (-1 : Int32)) dX9_arch_34 (by decide) ?_
      exact r_iret dX9_arch_35 rfl ⟨Nat.le_of_ble_eq_true rfl, Nat.le_of_ble_eq_true rfl⟩ ⟨rfl, _, rfl, h⟩
    · have h := h.2 q
      refine r_aload_n (v := .ref (eA E 9 0)) dX9_arch_18 rfl (rl_ref _) ?_
      refine r_iload (x := x5) dX9_arch_19 rfl ?_
      refine r_cVi (As := [.int x5]) (rest := []) dX9_arch_21 mv_X9_isPart ml_RX9_137 ⟨_, _, rfl⟩ (hE.1 9 (by decide)) ⟨Nat.le_of_ble_eq_true rfl, Nat.le_of_ble_eq_true rfl⟩ ⟨rfl, rfl⟩ rfl rfl (Nat.le_of_ble_eq_true rfl) h (fun x26 V25 h => ?_)
      refine r_if_eq 34 dX9_arch_24 (by decide) (fun q => ?_) (fun q => ?_)
      · have h := h.1 q
        refine r_iconst (v := (-1 : Int32)) dX9_arch_34 (by decide) ?_
        exact r_iret dX9_arch_35 rfl ⟨Nat.le_of_ble_eq_true rfl, Nat.le_of_ble_eq_true rfl⟩ ⟨rfl, _, rfl, h⟩
      · have h := h.2 q
        refine r_iload (x := x4) dX9_arch_27 rfl ?_
        refine r_iload (x := x5) dX9_arch_29 rfl ?_
        refine r_icmp_ne 36 dX9_arch_31 (by decide) (fun q => ?_) (fun q => ?_)
        · have h := h.1 q
          refine r_aload_n (v := .ref (eA E 9 0)) dX9_arch_36 rfl (rl_ref _) ?_
          refine r_get (v := .int (V25 1001 0 0)) dX9_arch_37 fl_RX9_122 (hE.1 9 (by decide)) rfl ?_
          refine r_bipush (v := (40 : Int32)) dX9_arch_40 (by decide) ?_
          refine r_icmp_ne 48 dX9_arch_42 (by decide) (fun q => ?_) (fun q => ?_)
          · have h := h.1 q
            refine r_aload_n (v := .ref (eA E 9 0)) dX9_arch_48 rfl (rl_ref _) ?_
            refine r_iconst (v := (1 : Int32)) dX9_arch_49 (by decide) ?_
            refine r_iload_n (x := x1) dX9_arch_50 rfl ?_
            refine r_iload_n (x := x2) dX9_arch_51 rfl ?_
            refine r_iload_n (x := x3) dX9_arch_52 rfl ?_
            refine r_cVi (As := [.int (1 : Int32), .int x1, .int x2, .int x3]) (rest := []) dX9_arch_53 mv_X9_newPart ml_RX9_133 ⟨_, _, rfl⟩ (hE.1 9 (by decide)) ⟨Nat.le_of_ble_eq_true rfl, Nat.le_of_ble_eq_true rfl⟩ ⟨rfl, rfl⟩ rfl rfl (Nat.le_of_ble_eq_true rfl) h (fun x28 V27 h => ?_)
            refine r_istore dX9_arch_56 (by decide) ?_
            refine r_aload_n (v := .ref (eA E 9 0)) dX9_arch_58 rfl (rl_ref _) ?_
            refine r_iload (x := x28) dX9_arch_59 rfl ?_
            refine r_iconst (v := (0 : Int32)) dX9_arch_61 (by decide) ?_
            refine r_iload (x := x4) dX9_arch_62 rfl ?_
            refine r_bipush (v := (6 : Int32)) dX9_arch_64 (by decide) ?_
            refine r_cVv (As := [.int x28, .int (0 : Int32), .int x4, .int (6 : Int32)]) (rest := []) dX9_arch_66 mv_X9_support0 ml_RX9_141 ⟨_, _, rfl⟩ (hE.1 9 (by decide)) ⟨Nat.le_of_ble_eq_true rfl, Nat.le_of_ble_eq_true rfl⟩ ⟨rfl, rfl⟩ rfl rfl (Nat.le_of_ble_eq_true rfl) h (fun V29 h => ?_)
            refine r_aload_n (v := .ref (eA E 9 0)) dX9_arch_69 rfl (rl_ref _) ?_
            refine r_iload (x := x28) dX9_arch_70 rfl ?_
            refine r_iconst (v := (1 : Int32)) dX9_arch_72 (by decide) ?_
            refine r_iload (x := x5) dX9_arch_73 rfl ?_
            refine r_bipush (v := (6 : Int32)) dX9_arch_75 (by decide) ?_
            refine r_cVv (As := [.int x28, .int (1 : Int32), .int x5, .int (6 : Int32)]) (rest := []) dX9_arch_77 mv_X9_support0 ml_RX9_141 ⟨_, _, rfl⟩ (hE.1 9 (by decide)) ⟨Nat.le_of_ble_eq_true rfl, Nat.le_of_ble_eq_true rfl⟩ ⟨rfl, rfl⟩ rfl rfl (Nat.le_of_ble_eq_true rfl) h (fun V30 h => ?_)
            refine r_iload (x := x28) dX9_arch_80 rfl ?_
            exact r_iret dX9_arch_82 rfl ⟨Nat.le_of_ble_eq_true rfl, Nat.le_of_ble_eq_true rfl⟩ ⟨rfl, _, rfl, h⟩
          · have h := h.2 q
            refine r_bipush (v := (-3 : Int32)) dX9_arch_45 (by decide) ?_
            exact r_iret dX9_arch_47 rfl ⟨Nat.le_of_ble_eq_true rfl, Nat.le_of_ble_eq_true rfl⟩ ⟨rfl, _, rfl, h⟩
        · have h := h.2 q
          refine r_iconst (v := (-1 : Int32)) dX9_arch_34 (by decide) ?_
          exact r_iret dX9_arch_35 rfl ⟨Nat.le_of_ble_eq_true rfl, Nat.le_of_ble_eq_true rfl⟩ ⟨rfl, _, rfl, h⟩
abbrev rm_X9_edition : Room := { frames := 0, cells := 0, slots := 0, locals := 0 }
def C_X9_edition (l : Launch) (G : Gt) (E : Et) (V : Vt)  (K : Vt → Prop) : Prop := Cl l G yX9_edition cX9_edition 2 none rm_X9_edition E V [.ref (eA E 9 0)] (Qv E K)
def A_X9_edition_25 (l : Launch) (G : Gt) (E : Et) (V : Vt) (x1 : Int32) (K : Vt → Prop) : Prop := Ev l G RX9 cX9_edition 2 none rm_X9_edition E 0 0 V 25 [(0, .ref (eA E 9 0)), (1, .int x1)] [] (Qv E K)
def vc_X9_edition (l : Launch) (G : Gt) (E : Et) (V : Vt)  (K : Vt → Prop) : Prop := (vp_in ((up3 V 1024 0 0 ((V 1024 0 0) + (1 : Int32))) 1024 0 0) 61) ∧ A_X9_edition_25 l G E (up3 (up3 V 1024 0 0 ((V 1024 0 0) + (1 : Int32))) 1025 0 (((up3 V 1024 0 0 ((V 1024 0 0) + (1 : Int32))) 1024 0 0)).toNatClampNeg ((up3 V 1024 0 0 ((V 1024 0 0) + (1 : Int32))) 1001 0 0)) (0 : Int32) K
def vc_X9_edition_25 (l : Launch) (G : Gt) (E : Et) (V : Vt) (x1 : Int32) (K : Vt → Prop) : Prop := (((V 1001 0 0) ≤ x1 → K V) ∧ (¬ (V 1001 0 0) ≤ x1 → (vp_in x1 40) ∧ (vp_in (((40 : Int32) * (V 1024 0 0)) + x1) 2440) ∧ A_X9_edition_25 l G E (up3 V 1026 0 ((((40 : Int32) * (V 1024 0 0)) + x1)).toNatClampNeg (V 1003 0 (x1).toNatClampNeg)) (x1 + (1 : Int32)) K))
theorem ok_X9_edition {l : Launch} {G : Gt} {E : Et} {V : Vt}  {K : Vt → Prop} (hE : Sg E)  (h : vc_X9_edition l G E V  K) : C_X9_edition l G E V  K := by
  unfold vc_X9_edition at h
  refine Cl.of (by decide +kernel) (Nat.le_of_ble_eq_true rfl) (show Ev l G RX9 cX9_edition 2 none rm_X9_edition E 0 0 V 0 [(0, .ref (eA E 9 0))] [] (Qv E K) from ?_)
  refine r_aload_n (v := .ref (eA E 9 0)) dX9_edition_0 rfl (rl_ref _) ?_
  refine r_dup dX9_edition_1 rfl ?_
  refine r_get (v := .int (V 1024 0 0)) dX9_edition_2 fl_RX9_145 (hE.1 9 (by decide)) rfl ?_
  refine r_iconst (v := (1 : Int32)) dX9_edition_5 (by decide) ?_
  refine r_iadd dX9_edition_6 ?_
  refine r_put dX9_edition_7 fp_RX9_145 rfl (hE.1 9 (by decide)) rfl rfl ?_
  refine r_aload_n (v := .ref (eA E 9 0)) dX9_edition_10 rfl (rl_ref _) ?_
  refine r_get (v := .ref (eA E 1025 0)) dX9_edition_11 fl_RX9_66 (hE.1 9 (by decide)) rfl ?_
  refine r_aload_n (v := .ref (eA E 9 0)) dX9_edition_14 rfl (rl_ref _) ?_
  refine r_get (v := .int ((up3 V 1024 0 0 ((V 1024 0 0) + (1 : Int32))) 1024 0 0)) dX9_edition_15 fl_RX9_145 (hE.1 9 (by decide)) rfl ?_
  refine r_aload_n (v := .ref (eA E 9 0)) dX9_edition_18 rfl (rl_ref _) ?_
  refine r_get (v := .int ((up3 V 1024 0 0 ((V 1024 0 0) + (1 : Int32))) 1001 0 0)) dX9_edition_19 fl_RX9_122 (hE.1 9 (by decide)) rfl ?_
  obtain ⟨hb, h⟩ := h
  refine r_iast dX9_edition_22 rfl (by decide) (hE.1 9 (by decide)) (ix hE (by decide) rfl hb) ?_
  refine r_iconst (v := (0 : Int32)) dX9_edition_23 (by decide) ?_
  refine r_istore_n dX9_edition_24 (by decide) ?_
  exact Ev.loc [0, 1] rfl h
theorem ok_X9_edition_25 {l : Launch} {G : Gt} {E : Et} {V : Vt} {x1 : Int32} {K : Vt → Prop} (hE : Sg E)  (h : vc_X9_edition_25 l G E V x1 K) : A_X9_edition_25 l G E V x1 K := by
  unfold vc_X9_edition_25 at h
  unfold A_X9_edition_25
  refine r_iload_n (x := x1) dX9_edition_25 rfl ?_
  refine r_aload_n (v := .ref (eA E 9 0)) dX9_edition_26 rfl (rl_ref _) ?_
  refine r_get (v := .int (V 1001 0 0)) dX9_edition_27 fl_RX9_122 (hE.1 9 (by decide)) rfl ?_
  refine r_icmp_ge 59 dX9_edition_30 (by decide) (fun q => ?_) (fun q => ?_)
  · have h := h.1 q
    exact r_vret dX9_edition_59 rfl ⟨Nat.le_of_ble_eq_true rfl, Nat.le_of_ble_eq_true rfl⟩ ⟨rfl, rfl, h⟩
  · have h := h.2 q
    refine r_aload_n (v := .ref (eA E 9 0)) dX9_edition_33 rfl (rl_ref _) ?_
    refine r_get (v := .ref (eA E 1026 0)) dX9_edition_34 fl_RX9_69 (hE.1 9 (by decide)) rfl ?_
    refine r_bipush (v := (40 : Int32)) dX9_edition_37 (by decide) ?_
    refine r_aload_n (v := .ref (eA E 9 0)) dX9_edition_39 rfl (rl_ref _) ?_
    refine r_get (v := .int (V 1024 0 0)) dX9_edition_40 fl_RX9_145 (hE.1 9 (by decide)) rfl ?_
    refine r_imul dX9_edition_43 ?_
    refine r_iload_n (x := x1) dX9_edition_44 rfl ?_
    refine r_iadd dX9_edition_45 ?_
    refine r_aload_n (v := .ref (eA E 9 0)) dX9_edition_46 rfl (rl_ref _) ?_
    refine r_get (v := .ref (eA E 1003 0)) dX9_edition_47 fl_RX9_13 (hE.1 9 (by decide)) rfl ?_
    refine r_iload_n (x := x1) dX9_edition_50 rfl ?_
    obtain ⟨hb, h⟩ := h
    refine r_iald dX9_edition_51 rfl (by decide) (hE.1 9 (by decide)) (ix hE (by decide) rfl hb) ?_
    obtain ⟨hb, h⟩ := h
    refine r_iast dX9_edition_52 rfl (by decide) (hE.1 9 (by decide)) (ix hE (by decide) rfl hb) ?_
    refine r_iinc (x := x1) (v := (1 : Int32)) dX9_edition_53 rfl (by decide) (by decide) ?_
    refine r_goto 25 dX9_edition_56 (by decide) ?_
    exact Ev.loc [0, 1] rfl h
abbrev rm_X9_bear : Room := { frames := 2, cells := 0, slots := 0, locals := 43 }
def C_X9_bear (l : Launch) (G : Gt) (E : Et) (V : Vt) (x1 : Int32) (x2 : Int32) (x3 : Int32) (x4 : Int32) (x5 : Int32) (K : Int32 → Vt → Prop) : Prop := Cl l G yX9_bear cX9_bear 10 (some .int) rm_X9_bear E V [.ref (eA E 9 0), .int x1, .int x2, .int x3, .int x4, .int x5] (Qi E K)
def A_X9_bear_43 (l : Launch) (G : Gt) (E : Et) (V : Vt) (x1 : Int32) (x6 : Int32) (K : Int32 → Vt → Prop) : Prop := Ev l G RX9 cX9_bear 10 (some .int) rm_X9_bear E 0 0 V 43 [(0, .ref (eA E 9 0)), (1, .int x1), (6, .int x6)] [] (Qi E K)
def A_X9_bear_72 (l : Launch) (G : Gt) (E : Et) (V : Vt) (x1 : Int32) (x6 : Int32) (x7 : Int32) (x8 : Int32) (K : Int32 → Vt → Prop) : Prop := Ev l G RX9 cX9_bear 10 (some .int) rm_X9_bear E 0 0 V 72 [(0, .ref (eA E 9 0)), (1, .int x1), (6, .int x6), (7, .int x7), (8, .int x8)] [] (Qi E K)
def A_X9_bear_282 (l : Launch) (G : Gt) (E : Et) (V : Vt) (x1 : Int32) (x6 : Int32) (x8 : Int32) (K : Int32 → Vt → Prop) : Prop := Ev l G RX9 cX9_bear 10 (some .int) rm_X9_bear E 0 0 V 282 [(0, .ref (eA E 9 0)), (1, .int x1), (6, .int x6), (8, .int x8)] [] (Qi E K)
def A_X9_bear_161 (l : Launch) (G : Gt) (E : Et) (V : Vt) (x1 : Int32) (x6 : Int32) (x7 : Int32) (x8 : Int32) (x9 : Int32) (K : Int32 → Vt → Prop) : Prop := Ev l G RX9 cX9_bear 10 (some .int) rm_X9_bear E 0 0 V 161 [(0, .ref (eA E 9 0)), (1, .int x1), (6, .int x6), (7, .int x7), (8, .int x8), (9, .int x9)] [] (Qi E K)
def vc_X9_bear (l : Launch) (G : Gt) (E : Et) (V : Vt) (x1 : Int32) (x2 : Int32) (x3 : Int32) (x4 : Int32) (x5 : Int32) (K : Int32 → Vt → Prop) : Prop := (C_X9_isPart l G E V x1 (fun x22 V21 => ((¬ x22 = (0 : Int32) → (vp_in (0 : Int32) 4) ∧ (vp_in (1 : Int32) 4) ∧ (vp_in (2 : Int32) 4) ∧ (vp_in (3 : Int32) 4) ∧ A_X9_bear_43 l G E (up3 (up3 (up3 (up3 V21 1027 0 ((0 : Int32)).toNatClampNeg x2) 1027 0 ((1 : Int32)).toNatClampNeg x3) 1027 0 ((2 : Int32)).toNatClampNeg x4) 1027 0 ((3 : Int32)).toNatClampNeg x5) x1 (0 : Int32) K) ∧ (x22 = (0 : Int32) → K (-1 : Int32) V21))))
def vc_X9_bear_43 (l : Launch) (G : Gt) (E : Et) (V : Vt) (x1 : Int32) (x6 : Int32) (K : Int32 → Vt → Prop) : Prop := (((4 : Int32) ≤ x6 → A_X9_bear_72 l G E V x1 x6 (0 : Int32) (0 : Int32) K) ∧ (¬ (4 : Int32) ≤ x6 → (vp_in x6 4) ∧ (((V 1027 0 (x6).toNatClampNeg) = (-1 : Int32) → A_X9_bear_72 l G E V x1 x6 (0 : Int32) (0 : Int32) K) ∧ (¬ (V 1027 0 (x6).toNatClampNeg) = (-1 : Int32) → A_X9_bear_43 l G E V x1 (x6 + (1 : Int32)) K))))
def vc_X9_bear_72 (l : Launch) (G : Gt) (E : Et) (V : Vt) (x1 : Int32) (x6 : Int32) (x7 : Int32) (x8 : Int32) (K : Int32 → Vt → Prop) : Prop := (((4 : Int32) ≤ x8 → ((¬ x6 = (0 : Int32) → ((¬ x7 = (12 : Int32) → K (-1 : Int32) V) ∧ (x7 = (12 : Int32) → (vp_in x1 40) ∧ ((¬ (V 1002 0 (x1).toNatClampNeg) = (1 : Int32) → (vp_in x1 40) ∧ (((V 1012 0 (x1).toNatClampNeg) ≤ (0 : Int32) → ((¬ (V 1024 0 0) = (60 : Int32) → (vp_in x1 40) ∧ A_X9_bear_282 l G E (up3 V 1015 0 (x1).toNatClampNeg (0 : Int32)) x1 x6 (0 : Int32) K) ∧ ((V 1024 0 0) = (60 : Int32) → K (-3 : Int32) V))) ∧ (¬ (V 1012 0 (x1).toNatClampNeg) ≤ (0 : Int32) → K (-2 : Int32) V))) ∧ ((V 1002 0 (x1).toNatClampNeg) = (1 : Int32) → (((2 : Int32) ≤ x6 → (vp_in x1 40) ∧ (((V 1012 0 (x1).toNatClampNeg) ≤ (0 : Int32) → ((¬ (V 1024 0 0) = (60 : Int32) → (vp_in x1 40) ∧ A_X9_bear_282 l G E (up3 V 1015 0 (x1).toNatClampNeg (0 : Int32)) x1 x6 (0 : Int32) K) ∧ ((V 1024 0 0) = (60 : Int32) → K (-3 : Int32) V))) ∧ (¬ (V 1012 0 (x1).toNatClampNeg) ≤ (0 : Int32) → K (-2 : Int32) V))) ∧ (¬ (2 : Int32) ≤ x6 → K (-1 : Int32) V))))))) ∧ (x6 = (0 : Int32) → (vp_in x1 40) ∧ ((¬ (V 1002 0 (x1).toNatClampNeg) = (1 : Int32) → (vp_in x1 40) ∧ (((V 1012 0 (x1).toNatClampNeg) ≤ (0 : Int32) → ((¬ (V 1024 0 0) = (60 : Int32) → (vp_in x1 40) ∧ A_X9_bear_282 l G E (up3 V 1015 0 (x1).toNatClampNeg (0 : Int32)) x1 x6 (0 : Int32) K) ∧ ((V 1024 0 0) = (60 : Int32) → K (-3 : Int32) V))) ∧ (¬ (V 1012 0 (x1).toNatClampNeg) ≤ (0 : Int32) → K (-2 : Int32) V))) ∧ ((V 1002 0 (x1).toNatClampNeg) = (1 : Int32) → K (-1 : Int32) V))))) ∧ (¬ (4 : Int32) ≤ x8 → ((x8 < x6 → (vp_in x8 4) ∧ (((V 1027 0 (x8).toNatClampNeg) < (0 : Int32) → K (-1 : Int32) V) ∧ (¬ (V 1027 0 (x8).toNatClampNeg) < (0 : Int32) → (vp_in x8 4) ∧ ((x1 ≤ ((V 1027 0 (x8).toNatClampNeg) / (100 : Int32)) → K (-1 : Int32) V) ∧ (¬ x1 ≤ ((V 1027 0 (x8).toNatClampNeg) / (100 : Int32)) → (vp_in x8 4) ∧ (C_X9_in l G E V ((V 1027 0 (x8).toNatClampNeg) - (V 1027 0 (x8).toNatClampNeg) / (100 : Int32) * (100 : Int32)) (1 : Int32) (12 : Int32) (fun x24 V23 => ((¬ x24 = (0 : Int32) → (vp_in x8 4) ∧ A_X9_bear_161 l G E V23 x1 x6 (x7 + ((V23 1027 0 (x8).toNatClampNeg) - (V23 1027 0 (x8).toNatClampNeg) / (100 : Int32) * (100 : Int32))) x8 (0 : Int32) K) ∧ (x24 = (0 : Int32) → K (-1 : Int32) V23))))))))) ∧ (¬ x8 < x6 → (vp_in x8 4) ∧ (((V 1027 0 (x8).toNatClampNeg) = (-1 : Int32) → A_X9_bear_72 l G E V x1 x6 x7 (x8 + (1 : Int32)) K) ∧ (¬ (V 1027 0 (x8).toNatClampNeg) = (-1 : Int32) → K (-1 : Int32) V))))))
def vc_X9_bear_282 (l : Launch) (G : Gt) (E : Et) (V : Vt) (x1 : Int32) (x6 : Int32) (x8 : Int32) (K : Int32 → Vt → Prop) : Prop := ((x6 ≤ x8 → (C_X9_edition l G E V (fun V25 => K x6 V25))) ∧ (¬ x6 ≤ x8 → (vp_in x8 4) ∧ (vp_in x8 4) ∧ (C_X9_support0 l G E V x1 x8 ((V 1027 0 (x8).toNatClampNeg) / (100 : Int32)) ((V 1027 0 (x8).toNatClampNeg) - (V 1027 0 (x8).toNatClampNeg) / (100 : Int32) * (100 : Int32)) (fun V26 => A_X9_bear_282 l G E V26 x1 x6 (x8 + (1 : Int32)) K))))
def vc_X9_bear_161 (l : Launch) (G : Gt) (E : Et) (V : Vt) (x1 : Int32) (x6 : Int32) (x7 : Int32) (x8 : Int32) (x9 : Int32) (K : Int32 → Vt → Prop) : Prop := ((x8 ≤ x9 → A_X9_bear_72 l G E V x1 x6 x7 (x8 + (1 : Int32)) K) ∧ (¬ x8 ≤ x9 → (vp_in x9 4) ∧ (vp_in x8 4) ∧ ((¬ ((V 1027 0 (x9).toNatClampNeg) / (100 : Int32)) = ((V 1027 0 (x8).toNatClampNeg) / (100 : Int32)) → A_X9_bear_161 l G E V x1 x6 x7 x8 (x9 + (1 : Int32)) K) ∧ (((V 1027 0 (x9).toNatClampNeg) / (100 : Int32)) = ((V 1027 0 (x8).toNatClampNeg) / (100 : Int32)) → K (-1 : Int32) V))))
theorem ok_X9_bear {l : Launch} {G : Gt} {E : Et} {V : Vt} {x1 : Int32} {x2 : Int32} {x3 : Int32} {x4 : Int32} {x5 : Int32} {K : Int32 → Vt → Prop} (hE : Sg E)  (h : vc_X9_bear l G E V x1 x2 x3 x4 x5 K) : C_X9_bear l G E V x1 x2 x3 x4 x5 K := by
  unfold vc_X9_bear at h
  refine Cl.of (by decide +kernel) (Nat.le_of_ble_eq_true rfl) (show Ev l G RX9 cX9_bear 10 (some .int) rm_X9_bear E 0 0 V 0 [(0, .ref (eA E 9 0)), (1, .int x1), (2, .int x2), (3, .int x3), (4, .int x4), (5, .int x5)] [] (Qi E K) from ?_)
  refine r_aload_n (v := .ref (eA E 9 0)) dX9_bear_0 rfl (rl_ref _) ?_
  refine r_iload_n (x := x1) dX9_bear_1 rfl ?_
  refine r_cVi (As := [.int x1]) (rest := []) dX9_bear_2 mv_X9_isPart ml_RX9_137 ⟨_, _, rfl⟩ (hE.1 9 (by decide)) ⟨Nat.le_of_ble_eq_true rfl, Nat.le_of_ble_eq_true rfl⟩ ⟨rfl, rfl⟩ rfl rfl (Nat.le_of_ble_eq_true rfl) h (fun x22 V21 h => ?_)
  refine r_if_ne 10 dX9_bear_5 (by decide) (fun q => ?_) (fun q => ?_)
  · have h := h.1 q
    refine r_aload_n (v := .ref (eA E 9 0)) dX9_bear_10 rfl (rl_ref _) ?_
    refine r_get (v := .ref (eA E 1027 0)) dX9_bear_11 fl_RX9_72 (hE.1 9 (by decide)) rfl ?_
    refine r_iconst (v := (0 : Int32)) dX9_bear_14 (by decide) ?_
    refine r_iload_n (x := x2) dX9_bear_15 rfl ?_
    obtain ⟨hb, h⟩ := h
    refine r_iast dX9_bear_16 rfl (by decide) (hE.1 9 (by decide)) (ix hE (by decide) rfl hb) ?_
    refine r_aload_n (v := .ref (eA E 9 0)) dX9_bear_17 rfl (rl_ref _) ?_
    refine r_get (v := .ref (eA E 1027 0)) dX9_bear_18 fl_RX9_72 (hE.1 9 (by decide)) rfl ?_
    refine r_iconst (v := (1 : Int32)) dX9_bear_21 (by decide) ?_
    refine r_iload_n (x := x3) dX9_bear_22 rfl ?_
    obtain ⟨hb, h⟩ := h
    refine r_iast dX9_bear_23 rfl (by decide) (hE.1 9 (by decide)) (ix hE (by decide) rfl hb) ?_
    refine r_aload_n (v := .ref (eA E 9 0)) dX9_bear_24 rfl (rl_ref _) ?_
    refine r_get (v := .ref (eA E 1027 0)) dX9_bear_25 fl_RX9_72 (hE.1 9 (by decide)) rfl ?_
    refine r_iconst (v := (2 : Int32)) dX9_bear_28 (by decide) ?_
    refine r_iload (x := x4) dX9_bear_29 rfl ?_
    obtain ⟨hb, h⟩ := h
    refine r_iast dX9_bear_31 rfl (by decide) (hE.1 9 (by decide)) (ix hE (by decide) rfl hb) ?_
    refine r_aload_n (v := .ref (eA E 9 0)) dX9_bear_32 rfl (rl_ref _) ?_
    refine r_get (v := .ref (eA E 1027 0)) dX9_bear_33 fl_RX9_72 (hE.1 9 (by decide)) rfl ?_
    refine r_iconst (v := (3 : Int32)) dX9_bear_36 (by decide) ?_
    refine r_iload (x := x5) dX9_bear_37 rfl ?_
    obtain ⟨hb, h⟩ := h
    refine r_iast dX9_bear_39 rfl (by decide) (hE.1 9 (by decide)) (ix hE (by decide) rfl hb) ?_
    refine r_iconst (v := (0 : Int32)) dX9_bear_40 (by decide) ?_
    refine r_istore dX9_bear_41 (by decide) ?_
    exact Ev.loc [0, 1, 6] rfl h
  · have h := h.2 q
    refine r_iconst (v := (-1 : Int32)) dX9_bear_8 (by decide) ?_
    exact r_iret dX9_bear_9 rfl ⟨Nat.le_of_ble_eq_true rfl, Nat.le_of_ble_eq_true rfl⟩ ⟨rfl, _, rfl, h⟩
theorem ok_X9_bear_43 {l : Launch} {G : Gt} {E : Et} {V : Vt} {x1 : Int32} {x6 : Int32} {K : Int32 → Vt → Prop} (hE : Sg E)  (h : vc_X9_bear_43 l G E V x1 x6 K) : A_X9_bear_43 l G E V x1 x6 K := by
  unfold vc_X9_bear_43 at h
  unfold A_X9_bear_43
  refine r_iload (x := x6) dX9_bear_43 rfl ?_
  refine r_iconst (v := (4 : Int32)) dX9_bear_45 (by decide) ?_
  refine r_icmp_ge 66 dX9_bear_46 (by decide) (fun q => ?_) (fun q => ?_)
  · have h := h.1 q
    refine r_iconst (v := (0 : Int32)) dX9_bear_66 (by decide) ?_
    refine r_istore dX9_bear_67 (by decide) ?_
    refine r_iconst (v := (0 : Int32)) dX9_bear_69 (by decide) ?_
    refine r_istore dX9_bear_70 (by decide) ?_
    exact Ev.loc [0, 1, 2, 3, 4] rfl h
  · have h := h.2 q
    refine r_aload_n (v := .ref (eA E 9 0)) dX9_bear_49 rfl (rl_ref _) ?_
    refine r_get (v := .ref (eA E 1027 0)) dX9_bear_50 fl_RX9_72 (hE.1 9 (by decide)) rfl ?_
    refine r_iload (x := x6) dX9_bear_53 rfl ?_
    obtain ⟨hb, h⟩ := h
    refine r_iald dX9_bear_55 rfl (by decide) (hE.1 9 (by decide)) (ix hE (by decide) rfl hb) ?_
    refine r_iconst (v := (-1 : Int32)) dX9_bear_56 (by decide) ?_
    refine r_icmp_eq 66 dX9_bear_57 (by decide) (fun q => ?_) (fun q => ?_)
    · have h := h.1 q
      refine r_iconst (v := (0 : Int32)) dX9_bear_66 (by decide) ?_
      refine r_istore dX9_bear_67 (by decide) ?_
      refine r_iconst (v := (0 : Int32)) dX9_bear_69 (by decide) ?_
      refine r_istore dX9_bear_70 (by decide) ?_
      exact Ev.loc [0, 1, 2, 3, 4] rfl h
    · have h := h.2 q
      refine r_iinc (x := x6) (v := (1 : Int32)) dX9_bear_60 rfl (by decide) (by decide) ?_
      refine r_goto 43 dX9_bear_63 (by decide) ?_
      exact Ev.loc [0, 1, 2] rfl h
theorem ok_X9_bear_72 {l : Launch} {G : Gt} {E : Et} {V : Vt} {x1 : Int32} {x6 : Int32} {x7 : Int32} {x8 : Int32} {K : Int32 → Vt → Prop} (hE : Sg E)  (h : vc_X9_bear_72 l G E V x1 x6 x7 x8 K) : A_X9_bear_72 l G E V x1 x6 x7 x8 K := by
  unfold vc_X9_bear_72 at h
  unfold A_X9_bear_72
  refine r_iload (x := x8) dX9_bear_72 rfl ?_
  refine r_iconst (v := (4 : Int32)) dX9_bear_74 (by decide) ?_
  refine r_icmp_ge 205 dX9_bear_75 (by decide) (fun q => ?_) (fun q => ?_)
  · have h := h.1 q
    refine r_iload (x := x6) dX9_bear_205 rfl ?_
    refine r_if_ne 223 dX9_bear_207 (by decide) (fun q => ?_) (fun q => ?_)
    · have h := h.1 q
      refine r_iload (x := x7) dX9_bear_223 rfl ?_
      refine r_bipush (v := (12 : Int32)) dX9_bear_225 (by decide) ?_
      refine r_icmp_ne 246 dX9_bear_227 (by decide) (fun q => ?_) (fun q => ?_)
      · have h := h.1 q
        refine r_iconst (v := (-1 : Int32)) dX9_bear_246 (by decide) ?_
        exact r_iret dX9_bear_247 rfl ⟨Nat.le_of_ble_eq_true rfl, Nat.le_of_ble_eq_true rfl⟩ ⟨rfl, _, rfl, h⟩
      · have h := h.2 q
        refine r_aload_n (v := .ref (eA E 9 0)) dX9_bear_230 rfl (rl_ref _) ?_
        refine r_get (v := .ref (eA E 1002 0)) dX9_bear_231 fl_RX9_7 (hE.1 9 (by decide)) rfl ?_
        refine r_iload_n (x := x1) dX9_bear_234 rfl ?_
        obtain ⟨hb, h⟩ := h
        refine r_iald dX9_bear_235 rfl (by decide) (hE.1 9 (by decide)) (ix hE (by decide) rfl hb) ?_
        refine r_iconst (v := (1 : Int32)) dX9_bear_236 (by decide) ?_
        refine r_icmp_ne 248 dX9_bear_237 (by decide) (fun q => ?_) (fun q => ?_)
        · have h := h.1 q
          refine r_aload_n (v := .ref (eA E 9 0)) dX9_bear_248 rfl (rl_ref _) ?_
          refine r_get (v := .ref (eA E 1012 0)) dX9_bear_249 fl_RX9_40 (hE.1 9 (by decide)) rfl ?_
          refine r_iload_n (x := x1) dX9_bear_252 rfl ?_
          obtain ⟨hb, h⟩ := h
          refine r_iald dX9_bear_253 rfl (by decide) (hE.1 9 (by decide)) (ix hE (by decide) rfl hb) ?_
          refine r_if_le 260 dX9_bear_254 (by decide) (fun q => ?_) (fun q => ?_)
          · have h := h.1 q
            refine r_aload_n (v := .ref (eA E 9 0)) dX9_bear_260 rfl (rl_ref _) ?_
            refine r_get (v := .int (V 1024 0 0)) dX9_bear_261 fl_RX9_145 (hE.1 9 (by decide)) rfl ?_
            refine r_bipush (v := (60 : Int32)) dX9_bear_264 (by decide) ?_
            refine r_icmp_ne 272 dX9_bear_266 (by decide) (fun q => ?_) (fun q => ?_)
            · have h := h.1 q
              refine r_aload_n (v := .ref (eA E 9 0)) dX9_bear_272 rfl (rl_ref _) ?_
              refine r_get (v := .ref (eA E 1015 0)) dX9_bear_273 fl_RX9_50 (hE.1 9 (by decide)) rfl ?_
              refine r_iload_n (x := x1) dX9_bear_276 rfl ?_
              refine r_iconst (v := (0 : Int32)) dX9_bear_277 (by decide) ?_
              obtain ⟨hb, h⟩ := h
              refine r_iast dX9_bear_278 rfl (by decide) (hE.1 9 (by decide)) (ix hE (by decide) rfl hb) ?_
              refine r_iconst (v := (0 : Int32)) dX9_bear_279 (by decide) ?_
              refine r_istore dX9_bear_280 (by decide) ?_
              exact Ev.loc [0, 1, 2, 4] rfl h
            · have h := h.2 q
              refine r_bipush (v := (-3 : Int32)) dX9_bear_269 (by decide) ?_
              exact r_iret dX9_bear_271 rfl ⟨Nat.le_of_ble_eq_true rfl, Nat.le_of_ble_eq_true rfl⟩ ⟨rfl, _, rfl, h⟩
          · have h := h.2 q
            refine r_bipush (v := (-2 : Int32)) dX9_bear_257 (by decide) ?_
            exact r_iret dX9_bear_259 rfl ⟨Nat.le_of_ble_eq_true rfl, Nat.le_of_ble_eq_true rfl⟩ ⟨rfl, _, rfl, h⟩
        · have h := h.2 q
          refine r_iload (x := x6) dX9_bear_240 rfl ?_
          refine r_iconst (v := (2 : Int32)) dX9_bear_242 (by decide) ?_
          refine r_icmp_ge 248 dX9_bear_243 (by decide) (fun q => ?_) (fun q => ?_)
          · have h := h.1 q
            refine r_aload_n (v := .ref (eA E 9 0)) dX9_bear_248 rfl (rl_ref _) ?_
            refine r_get (v := .ref (eA E 1012 0)) dX9_bear_249 fl_RX9_40 (hE.1 9 (by decide)) rfl ?_
            refine r_iload_n (x := x1) dX9_bear_252 rfl ?_
            obtain ⟨hb, h⟩ := h
            refine r_iald dX9_bear_253 rfl (by decide) (hE.1 9 (by decide)) (ix hE (by decide) rfl hb) ?_
            refine r_if_le 260 dX9_bear_254 (by decide) (fun q => ?_) (fun q => ?_)
            · have h := h.1 q
              refine r_aload_n (v := .ref (eA E 9 0)) dX9_bear_260 rfl (rl_ref _) ?_
              refine r_get (v := .int (V 1024 0 0)) dX9_bear_261 fl_RX9_145 (hE.1 9 (by decide)) rfl ?_
              refine r_bipush (v := (60 : Int32)) dX9_bear_264 (by decide) ?_
              refine r_icmp_ne 272 dX9_bear_266 (by decide) (fun q => ?_) (fun q => ?_)
              · have h := h.1 q
                refine r_aload_n (v := .ref (eA E 9 0)) dX9_bear_272 rfl (rl_ref _) ?_
                refine r_get (v := .ref (eA E 1015 0)) dX9_bear_273 fl_RX9_50 (hE.1 9 (by decide)) rfl ?_
                refine r_iload_n (x := x1) dX9_bear_276 rfl ?_
                refine r_iconst (v := (0 : Int32)) dX9_bear_277 (by decide) ?_
                obtain ⟨hb, h⟩ := h
                refine r_iast dX9_bear_278 rfl (by decide) (hE.1 9 (by decide)) (ix hE (by decide) rfl hb) ?_
                refine r_iconst (v := (0 : Int32)) dX9_bear_279 (by decide) ?_
                refine r_istore dX9_bear_280 (by decide) ?_
                exact Ev.loc [0, 1, 2, 4] rfl h
              · have h := h.2 q
                refine r_bipush (v := (-3 : Int32)) dX9_bear_269 (by decide) ?_
                exact r_iret dX9_bear_271 rfl ⟨Nat.le_of_ble_eq_true rfl, Nat.le_of_ble_eq_true rfl⟩ ⟨rfl, _, rfl, h⟩
            · have h := h.2 q
              refine r_bipush (v := (-2 : Int32)) dX9_bear_257 (by decide) ?_
              exact r_iret dX9_bear_259 rfl ⟨Nat.le_of_ble_eq_true rfl, Nat.le_of_ble_eq_true rfl⟩ ⟨rfl, _, rfl, h⟩
          · have h := h.2 q
            refine r_iconst (v := (-1 : Int32)) dX9_bear_246 (by decide) ?_
            exact r_iret dX9_bear_247 rfl ⟨Nat.le_of_ble_eq_true rfl, Nat.le_of_ble_eq_true rfl⟩ ⟨rfl, _, rfl, h⟩
    · have h := h.2 q
      refine r_aload_n (v := .ref (eA E 9 0)) dX9_bear_210 rfl (rl_ref _) ?_
      refine r_get (v := .ref (eA E 1002 0)) dX9_bear_211 fl_RX9_7 (hE.1 9 (by decide)) rfl ?_
      refine r_iload_n (x := x1) dX9_bear_214 rfl ?_
      obtain ⟨hb, h⟩ := h
      refine r_iald dX9_bear_215 rfl (by decide) (hE.1 9 (by decide)) (ix hE (by decide) rfl hb) ?_
      refine r_iconst (v := (1 : Int32)) dX9_bear_216 (by decide) ?_
      refine r_icmp_ne 248 dX9_bear_217 (by decide) (fun q => ?_) (fun q => ?_)
      · have h := h.1 q
        refine r_aload_n (v := .ref (eA E 9 0)) dX9_bear_248 rfl (rl_ref _) ?_
        refine r_get (v := .ref (eA E 1012 0)) dX9_bear_249 fl_RX9_40 (hE.1 9 (by decide)) rfl ?_
        refine r_iload_n (x := x1) dX9_bear_252 rfl ?_
        obtain ⟨hb, h⟩ := h
        refine r_iald dX9_bear_253 rfl (by decide) (hE.1 9 (by decide)) (ix hE (by decide) rfl hb) ?_
        refine r_if_le 260 dX9_bear_254 (by decide) (fun q => ?_) (fun q => ?_)
        · have h := h.1 q
          refine r_aload_n (v := .ref (eA E 9 0)) dX9_bear_260 rfl (rl_ref _) ?_
          refine r_get (v := .int (V 1024 0 0)) dX9_bear_261 fl_RX9_145 (hE.1 9 (by decide)) rfl ?_
          refine r_bipush (v := (60 : Int32)) dX9_bear_264 (by decide) ?_
          refine r_icmp_ne 272 dX9_bear_266 (by decide) (fun q => ?_) (fun q => ?_)
          · have h := h.1 q
            refine r_aload_n (v := .ref (eA E 9 0)) dX9_bear_272 rfl (rl_ref _) ?_
            refine r_get (v := .ref (eA E 1015 0)) dX9_bear_273 fl_RX9_50 (hE.1 9 (by decide)) rfl ?_
            refine r_iload_n (x := x1) dX9_bear_276 rfl ?_
            refine r_iconst (v := (0 : Int32)) dX9_bear_277 (by decide) ?_
            obtain ⟨hb, h⟩ := h
            refine r_iast dX9_bear_278 rfl (by decide) (hE.1 9 (by decide)) (ix hE (by decide) rfl hb) ?_
            refine r_iconst (v := (0 : Int32)) dX9_bear_279 (by decide) ?_
            refine r_istore dX9_bear_280 (by decide) ?_
            exact Ev.loc [0, 1, 2, 4] rfl h
          · have h := h.2 q
            refine r_bipush (v := (-3 : Int32)) dX9_bear_269 (by decide) ?_
            exact r_iret dX9_bear_271 rfl ⟨Nat.le_of_ble_eq_true rfl, Nat.le_of_ble_eq_true rfl⟩ ⟨rfl, _, rfl, h⟩
        · have h := h.2 q
          refine r_bipush (v := (-2 : Int32)) dX9_bear_257 (by decide) ?_
          exact r_iret dX9_bear_259 rfl ⟨Nat.le_of_ble_eq_true rfl, Nat.le_of_ble_eq_true rfl⟩ ⟨rfl, _, rfl, h⟩
      · have h := h.2 q
        refine r_goto 246 dX9_bear_220 (by decide) ?_
        refine r_iconst (v := (-1 : Int32)) dX9_bear_246 (by decide) ?_
        exact r_iret dX9_bear_247 rfl ⟨Nat.le_of_ble_eq_true rfl, Nat.le_of_ble_eq_true rfl⟩ ⟨rfl, _, rfl, h⟩
  · have h := h.2 q
    refine r_iload (x := x8) dX9_bear_78 rfl ?_
    refine r_iload (x := x6) dX9_bear_80 rfl ?_
    refine r_icmp_lt 98 dX9_bear_82 (by decide) (fun q => ?_) (fun q => ?_)
    · have h := h.1 q
      refine r_aload_n (v := .ref (eA E 9 0)) dX9_bear_98 rfl (rl_ref _) ?_
      refine r_get (v := .ref (eA E 1027 0)) dX9_bear_99 fl_RX9_72 (hE.1 9 (by decide)) rfl ?_
      refine r_iload (x := x8) dX9_bear_102 rfl ?_
      obtain ⟨hb, h⟩ := h
      refine r_iald dX9_bear_104 rfl (by decide) (hE.1 9 (by decide)) (ix hE (by decide) rfl hb) ?_
      refine r_if_lt 141 dX9_bear_105 (by decide) (fun q => ?_) (fun q => ?_)
      · have h := h.1 q
        refine r_iconst (v := (-1 : Int32)) dX9_bear_141 (by decide) ?_
        exact r_iret dX9_bear_142 rfl ⟨Nat.le_of_ble_eq_true rfl, Nat.le_of_ble_eq_true rfl⟩ ⟨rfl, _, rfl, h⟩
      · have h := h.2 q
        refine r_aload_n (v := .ref (eA E 9 0)) dX9_bear_108 rfl (rl_ref _) ?_
        refine r_get (v := .ref (eA E 1027 0)) dX9_bear_109 fl_RX9_72 (hE.1 9 (by decide)) rfl ?_
        refine r_iload (x := x8) dX9_bear_112 rfl ?_
        obtain ⟨hb, h⟩ := h
        refine r_iald dX9_bear_114 rfl (by decide) (hE.1 9 (by decide)) (ix hE (by decide) rfl hb) ?_
        refine r_bipush (v := (100 : Int32)) dX9_bear_115 (by decide) ?_
        refine r_idiv dX9_bear_117 (by decide) ?_
        refine r_iload_n (x := x1) dX9_bear_118 rfl ?_
        refine r_icmp_ge 141 dX9_bear_119 (by decide) (fun q => ?_) (fun q => ?_)
        · have h := h.1 q
          refine r_iconst (v := (-1 : Int32)) dX9_bear_141 (by decide) ?_
          exact r_iret dX9_bear_142 rfl ⟨Nat.le_of_ble_eq_true rfl, Nat.le_of_ble_eq_true rfl⟩ ⟨rfl, _, rfl, h⟩
        · have h := h.2 q
          refine r_aload_n (v := .ref (eA E 9 0)) dX9_bear_122 rfl (rl_ref _) ?_
          refine r_get (v := .ref (eA E 1027 0)) dX9_bear_123 fl_RX9_72 (hE.1 9 (by decide)) rfl ?_
          refine r_iload (x := x8) dX9_bear_126 rfl ?_
          obtain ⟨hb, h⟩ := h
          refine r_iald dX9_bear_128 rfl (by decide) (hE.1 9 (by decide)) (ix hE (by decide) rfl hb) ?_
          refine r_bipush (v := (100 : Int32)) dX9_bear_129 (by decide) ?_
          refine r_irem dX9_bear_131 (by decide) ?_
          refine r_iconst (v := (1 : Int32)) dX9_bear_132 (by decide) ?_
          refine r_bipush (v := (12 : Int32)) dX9_bear_133 (by decide) ?_
          refine r_cSi (As := [.int ((V 1027 0 (x8).toNatClampNeg) - (V 1027 0 (x8).toNatClampNeg) / (100 : Int32) * (100 : Int32)), .int (1 : Int32), .int (12 : Int32)]) (rest := []) dX9_bear_135 ms_X9_in ml_RX9_125 ⟨Nat.le_of_ble_eq_true rfl, Nat.le_of_ble_eq_true rfl⟩ ⟨rfl, rfl⟩ rfl rfl (Nat.le_of_ble_eq_true rfl) h (fun x24 V23 h => ?_)
          refine r_if_ne 143 dX9_bear_138 (by decide) (fun q => ?_) (fun q => ?_)
          · have h := h.1 q
            refine r_iload (x := x7) dX9_bear_143 rfl ?_
            refine r_aload_n (v := .ref (eA E 9 0)) dX9_bear_145 rfl (rl_ref _) ?_
            refine r_get (v := .ref (eA E 1027 0)) dX9_bear_146 fl_RX9_72 (hE.1 9 (by decide)) rfl ?_
            refine r_iload (x := x8) dX9_bear_149 rfl ?_
            obtain ⟨hb, h⟩ := h
            refine r_iald dX9_bear_151 rfl (by decide) (hE.1 9 (by decide)) (ix hE (by decide) rfl hb) ?_
            refine r_bipush (v := (100 : Int32)) dX9_bear_152 (by decide) ?_
            refine r_irem dX9_bear_154 (by decide) ?_
            refine r_iadd dX9_bear_155 ?_
            refine r_istore dX9_bear_156 (by decide) ?_
            refine r_iconst (v := (0 : Int32)) dX9_bear_158 (by decide) ?_
            refine r_istore dX9_bear_159 (by decide) ?_
            exact Ev.loc [0, 1, 2, 3, 4, 5] rfl h
          · have h := h.2 q
            refine r_iconst (v := (-1 : Int32)) dX9_bear_141 (by decide) ?_
            exact r_iret dX9_bear_142 rfl ⟨Nat.le_of_ble_eq_true rfl, Nat.le_of_ble_eq_true rfl⟩ ⟨rfl, _, rfl, h⟩
    · have h := h.2 q
      refine r_aload_n (v := .ref (eA E 9 0)) dX9_bear_85 rfl (rl_ref _) ?_
      refine r_get (v := .ref (eA E 1027 0)) dX9_bear_86 fl_RX9_72 (hE.1 9 (by decide)) rfl ?_
      refine r_iload (x := x8) dX9_bear_89 rfl ?_
      obtain ⟨hb, h⟩ := h
      refine r_iald dX9_bear_91 rfl (by decide) (hE.1 9 (by decide)) (ix hE (by decide) rfl hb) ?_
      refine r_iconst (v := (-1 : Int32)) dX9_bear_92 (by decide) ?_
      refine r_icmp_eq 199 dX9_bear_93 (by decide) (fun q => ?_) (fun q => ?_)
      · have h := h.1 q
        refine r_iinc (x := x8) (v := (1 : Int32)) dX9_bear_199 rfl (by decide) (by decide) ?_
        refine r_goto 72 dX9_bear_202 (by decide) ?_
        exact Ev.loc [0, 1, 2, 3, 4] rfl h
      · have h := h.2 q
        refine r_iconst (v := (-1 : Int32)) dX9_bear_96 (by decide) ?_
        exact r_iret dX9_bear_97 rfl ⟨Nat.le_of_ble_eq_true rfl, Nat.le_of_ble_eq_true rfl⟩ ⟨rfl, _, rfl, h⟩
theorem ok_X9_bear_282 {l : Launch} {G : Gt} {E : Et} {V : Vt} {x1 : Int32} {x6 : Int32} {x8 : Int32} {K : Int32 → Vt → Prop} (hE : Sg E)  (h : vc_X9_bear_282 l G E V x1 x6 x8 K) : A_X9_bear_282 l G E V x1 x6 x8 K := by
  unfold vc_X9_bear_282 at h
  unfold A_X9_bear_282
  refine r_iload (x := x8) dX9_bear_282 rfl ?_
  refine r_iload (x := x6) dX9_bear_284 rfl ?_
  refine r_icmp_ge 322 dX9_bear_286 (by decide) (fun q => ?_) (fun q => ?_)
  · have h := h.1 q
    refine r_aload_n (v := .ref (eA E 9 0)) dX9_bear_322 rfl (rl_ref _) ?_
    refine r_cVv (As := []) (rest := []) dX9_bear_323 mv_X9_edition ml_RX9_148 ⟨_, _, rfl⟩ (hE.1 9 (by decide)) ⟨Nat.le_of_ble_eq_true rfl, Nat.le_of_ble_eq_true rfl⟩ ⟨rfl, rfl⟩ rfl rfl (Nat.le_of_ble_eq_true rfl) h (fun V25 h => ?_)
    refine r_iload (x := x6) dX9_bear_326 rfl ?_
    exact r_iret dX9_bear_328 rfl ⟨Nat.le_of_ble_eq_true rfl, Nat.le_of_ble_eq_true rfl⟩ ⟨rfl, _, rfl, h⟩
  · have h := h.2 q
    refine r_aload_n (v := .ref (eA E 9 0)) dX9_bear_289 rfl (rl_ref _) ?_
    refine r_iload_n (x := x1) dX9_bear_290 rfl ?_
    refine r_iload (x := x8) dX9_bear_291 rfl ?_
    refine r_aload_n (v := .ref (eA E 9 0)) dX9_bear_293 rfl (rl_ref _) ?_
    refine r_get (v := .ref (eA E 1027 0)) dX9_bear_294 fl_RX9_72 (hE.1 9 (by decide)) rfl ?_
    refine r_iload (x := x8) dX9_bear_297 rfl ?_
    obtain ⟨hb, h⟩ := h
    refine r_iald dX9_bear_299 rfl (by decide) (hE.1 9 (by decide)) (ix hE (by decide) rfl hb) ?_
    refine r_bipush (v := (100 : Int32)) dX9_bear_300 (by decide) ?_
    refine r_idiv dX9_bear_302 (by decide) ?_
    refine r_aload_n (v := .ref (eA E 9 0)) dX9_bear_303 rfl (rl_ref _) ?_
    refine r_get (v := .ref (eA E 1027 0)) dX9_bear_304 fl_RX9_72 (hE.1 9 (by decide)) rfl ?_
    refine r_iload (x := x8) dX9_bear_307 rfl ?_
    obtain ⟨hb, h⟩ := h
    refine r_iald dX9_bear_309 rfl (by decide) (hE.1 9 (by decide)) (ix hE (by decide) rfl hb) ?_
    refine r_bipush (v := (100 : Int32)) dX9_bear_310 (by decide) ?_
    refine r_irem dX9_bear_312 (by decide) ?_
    refine r_cVv (As := [.int x1, .int x8, .int ((V 1027 0 (x8).toNatClampNeg) / (100 : Int32)), .int ((V 1027 0 (x8).toNatClampNeg) - (V 1027 0 (x8).toNatClampNeg) / (100 : Int32) * (100 : Int32))]) (rest := []) dX9_bear_313 mv_X9_support0 ml_RX9_141 ⟨_, _, rfl⟩ (hE.1 9 (by decide)) ⟨Nat.le_of_ble_eq_true rfl, Nat.le_of_ble_eq_true rfl⟩ ⟨rfl, rfl⟩ rfl rfl (Nat.le_of_ble_eq_true rfl) h (fun V26 h => ?_)
    refine r_iinc (x := x8) (v := (1 : Int32)) dX9_bear_316 rfl (by decide) (by decide) ?_
    refine r_goto 282 dX9_bear_319 (by decide) ?_
    exact Ev.loc [0, 1, 2, 3] rfl h
theorem ok_X9_bear_161 {l : Launch} {G : Gt} {E : Et} {V : Vt} {x1 : Int32} {x6 : Int32} {x7 : Int32} {x8 : Int32} {x9 : Int32} {K : Int32 → Vt → Prop} (hE : Sg E)  (h : vc_X9_bear_161 l G E V x1 x6 x7 x8 x9 K) : A_X9_bear_161 l G E V x1 x6 x7 x8 x9 K := by
  unfold vc_X9_bear_161 at h
  unfold A_X9_bear_161
  refine r_iload (x := x9) dX9_bear_161 rfl ?_
  refine r_iload (x := x8) dX9_bear_163 rfl ?_
  refine r_icmp_ge 199 dX9_bear_165 (by decide) (fun q => ?_) (fun q => ?_)
  · have h := h.1 q
    refine r_iinc (x := x8) (v := (1 : Int32)) dX9_bear_199 rfl (by decide) (by decide) ?_
    refine r_goto 72 dX9_bear_202 (by decide) ?_
    exact Ev.loc [0, 1, 2, 3, 4] rfl h
  · have h := h.2 q
    refine r_aload_n (v := .ref (eA E 9 0)) dX9_bear_168 rfl (rl_ref _) ?_
    refine r_get (v := .ref (eA E 1027 0)) dX9_bear_169 fl_RX9_72 (hE.1 9 (by decide)) rfl ?_
    refine r_iload (x := x9) dX9_bear_172 rfl ?_
    obtain ⟨hb, h⟩ := h
    refine r_iald dX9_bear_174 rfl (by decide) (hE.1 9 (by decide)) (ix hE (by decide) rfl hb) ?_
    refine r_bipush (v := (100 : Int32)) dX9_bear_175 (by decide) ?_
    refine r_idiv dX9_bear_177 (by decide) ?_
    refine r_aload_n (v := .ref (eA E 9 0)) dX9_bear_178 rfl (rl_ref _) ?_
    refine r_get (v := .ref (eA E 1027 0)) dX9_bear_179 fl_RX9_72 (hE.1 9 (by decide)) rfl ?_
    refine r_iload (x := x8) dX9_bear_182 rfl ?_
    obtain ⟨hb, h⟩ := h
    refine r_iald dX9_bear_184 rfl (by decide) (hE.1 9 (by decide)) (ix hE (by decide) rfl hb) ?_
    refine r_bipush (v := (100 : Int32)) dX9_bear_185 (by decide) ?_
    refine r_idiv dX9_bear_187 (by decide) ?_
    refine r_icmp_ne 193 dX9_bear_188 (by decide) (fun q => ?_) (fun q => ?_)
    · have h := h.1 q
      refine r_iinc (x := x9) (v := (1 : Int32)) dX9_bear_193 rfl (by decide) (by decide) ?_
      refine r_goto 161 dX9_bear_196 (by decide) ?_
      exact Ev.loc [0, 1, 2, 3, 4, 5] rfl h
    · have h := h.2 q
      refine r_iconst (v := (-1 : Int32)) dX9_bear_191 (by decide) ?_
      exact r_iret dX9_bear_192 rfl ⟨Nat.le_of_ble_eq_true rfl, Nat.le_of_ble_eq_true rfl⟩ ⟨rfl, _, rfl, h⟩
abbrev rm_X9_edit : Room := { frames := 2, cells := 0, slots := 0, locals := 43 }
def C_X9_edit (l : Launch) (G : Gt) (E : Et) (V : Vt) (x1 : Int32) (x2 : Int32) (K : Int32 → Vt → Prop) : Prop := Cl l G yX9_edit cX9_edit 3 (some .int) rm_X9_edit E V [.ref (eA E 9 0), .int x1, .int x2] (Qi E K)
def vc_X9_edit (l : Launch) (G : Gt) (E : Et) (V : Vt) (x1 : Int32) (x2 : Int32) (K : Int32 → Vt → Prop) : Prop := (C_X9_isPart l G E V x1 (fun x22 V21 => ((x22 = (0 : Int32) → K (-1 : Int32) V21) ∧ (¬ x22 = (0 : Int32) → (C_X9_in l G E V21 x2 (1 : Int32) (30 : Int32) (fun x24 V23 => ((¬ x24 = (0 : Int32) → (vp_in x1 40) ∧ (((V23 1012 0 (x1).toNatClampNeg) ≤ (0 : Int32) → ((¬ (V23 1024 0 0) = (60 : Int32) → (vp_in x1 40) ∧ (C_X9_edition l G E (up3 V23 1003 0 (x1).toNatClampNeg x2) (fun V25 => K (V25 1024 0 0) V25))) ∧ ((V23 1024 0 0) = (60 : Int32) → K (-3 : Int32) V23))) ∧ (¬ (V23 1012 0 (x1).toNatClampNeg) ≤ (0 : Int32) → K (-2 : Int32) V23))) ∧ (x24 = (0 : Int32) → K (-1 : Int32) V23))))))))
theorem ok_X9_edit {l : Launch} {G : Gt} {E : Et} {V : Vt} {x1 : Int32} {x2 : Int32} {K : Int32 → Vt → Prop} (hE : Sg E)  (h : vc_X9_edit l G E V x1 x2 K) : C_X9_edit l G E V x1 x2 K := by
  unfold vc_X9_edit at h
  refine Cl.of (by decide +kernel) (Nat.le_of_ble_eq_true rfl) (show Ev l G RX9 cX9_edit 3 (some .int) rm_X9_edit E 0 0 V 0 [(0, .ref (eA E 9 0)), (1, .int x1), (2, .int x2)] [] (Qi E K) from ?_)
  refine r_aload_n (v := .ref (eA E 9 0)) dX9_edit_0 rfl (rl_ref _) ?_
  refine r_iload_n (x := x1) dX9_edit_1 rfl ?_
  refine r_cVi (As := [.int x1]) (rest := []) dX9_edit_2 mv_X9_isPart ml_RX9_137 ⟨_, _, rfl⟩ (hE.1 9 (by decide)) ⟨Nat.le_of_ble_eq_true rfl, Nat.le_of_ble_eq_true rfl⟩ ⟨rfl, rfl⟩ rfl rfl (Nat.le_of_ble_eq_true rfl) h (fun x22 V21 h => ?_)
  refine r_if_eq 18 dX9_edit_5 (by decide) (fun q => ?_) (fun q => ?_)
  · have h := h.1 q
    refine r_iconst (v := (-1 : Int32)) dX9_edit_18 (by decide) ?_
    exact r_iret dX9_edit_19 rfl ⟨Nat.le_of_ble_eq_true rfl, Nat.le_of_ble_eq_true rfl⟩ ⟨rfl, _, rfl, h⟩
  · have h := h.2 q
    refine r_iload_n (x := x2) dX9_edit_8 rfl ?_
    refine r_iconst (v := (1 : Int32)) dX9_edit_9 (by decide) ?_
    refine r_bipush (v := (30 : Int32)) dX9_edit_10 (by decide) ?_
    refine r_cSi (As := [.int x2, .int (1 : Int32), .int (30 : Int32)]) (rest := []) dX9_edit_12 ms_X9_in ml_RX9_125 ⟨Nat.le_of_ble_eq_true rfl, Nat.le_of_ble_eq_true rfl⟩ ⟨rfl, rfl⟩ rfl rfl (Nat.le_of_ble_eq_true rfl) h (fun x24 V23 h => ?_)
    refine r_if_ne 20 dX9_edit_15 (by decide) (fun q => ?_) (fun q => ?_)
    · have h := h.1 q
      refine r_aload_n (v := .ref (eA E 9 0)) dX9_edit_20 rfl (rl_ref _) ?_
      refine r_get (v := .ref (eA E 1012 0)) dX9_edit_21 fl_RX9_40 (hE.1 9 (by decide)) rfl ?_
      refine r_iload_n (x := x1) dX9_edit_24 rfl ?_
      obtain ⟨hb, h⟩ := h
      refine r_iald dX9_edit_25 rfl (by decide) (hE.1 9 (by decide)) (ix hE (by decide) rfl hb) ?_
      refine r_if_le 32 dX9_edit_26 (by decide) (fun q => ?_) (fun q => ?_)
      · have h := h.1 q
        refine r_aload_n (v := .ref (eA E 9 0)) dX9_edit_32 rfl (rl_ref _) ?_
        refine r_get (v := .int (V23 1024 0 0)) dX9_edit_33 fl_RX9_145 (hE.1 9 (by decide)) rfl ?_
        refine r_bipush (v := (60 : Int32)) dX9_edit_36 (by decide) ?_
        refine r_icmp_ne 44 dX9_edit_38 (by decide) (fun q => ?_) (fun q => ?_)
        · have h := h.1 q
          refine r_aload_n (v := .ref (eA E 9 0)) dX9_edit_44 rfl (rl_ref _) ?_
          refine r_get (v := .ref (eA E 1003 0)) dX9_edit_45 fl_RX9_13 (hE.1 9 (by decide)) rfl ?_
          refine r_iload_n (x := x1) dX9_edit_48 rfl ?_
          refine r_iload_n (x := x2) dX9_edit_49 rfl ?_
          obtain ⟨hb, h⟩ := h
          refine r_iast dX9_edit_50 rfl (by decide) (hE.1 9 (by decide)) (ix hE (by decide) rfl hb) ?_
          refine r_aload_n (v := .ref (eA E 9 0)) dX9_edit_51 rfl (rl_ref _) ?_
          refine r_cVv (As := []) (rest := []) dX9_edit_52 mv_X9_edition ml_RX9_148 ⟨_, _, rfl⟩ (hE.1 9 (by decide)) ⟨Nat.le_of_ble_eq_true rfl, Nat.le_of_ble_eq_true rfl⟩ ⟨rfl, rfl⟩ rfl rfl (Nat.le_of_ble_eq_true rfl) h (fun V25 h => ?_)
          refine r_aload_n (v := .ref (eA E 9 0)) dX9_edit_55 rfl (rl_ref _) ?_
          refine r_get (v := .int (V25 1024 0 0)) dX9_edit_56 fl_RX9_145 (hE.1 9 (by decide)) rfl ?_
          exact r_iret dX9_edit_59 rfl ⟨Nat.le_of_ble_eq_true rfl, Nat.le_of_ble_eq_true rfl⟩ ⟨rfl, _, rfl, h⟩
        · have h := h.2 q
          refine r_bipush (v := (-3 : Int32)) dX9_edit_41 (by decide) ?_
          exact r_iret dX9_edit_43 rfl ⟨Nat.le_of_ble_eq_true rfl, Nat.le_of_ble_eq_true rfl⟩ ⟨rfl, _, rfl, h⟩
      · have h := h.2 q
        refine r_bipush (v := (-2 : Int32)) dX9_edit_29 (by decide) ?_
        exact r_iret dX9_edit_31 rfl ⟨Nat.le_of_ble_eq_true rfl, Nat.le_of_ble_eq_true rfl⟩ ⟨rfl, _, rfl, h⟩
    · have h := h.2 q
      refine r_iconst (v := (-1 : Int32)) dX9_edit_18 (by decide) ?_
      exact r_iret dX9_edit_19 rfl ⟨Nat.le_of_ble_eq_true rfl, Nat.le_of_ble_eq_true rfl⟩ ⟨rfl, _, rfl, h⟩
abbrev rm_X9_wanted : Room := { frames := 2, cells := 0, slots := 0, locals := 43 }
def C_X9_wanted (l : Launch) (G : Gt) (E : Et) (V : Vt) (x1 : Int32) (x2 : Int32) (K : Int32 → Vt → Prop) : Prop := Cl l G yX9_wanted cX9_wanted 3 (some .int) rm_X9_wanted E V [.ref (eA E 9 0), .int x1, .int x2] (Qi E K)
def vc_X9_wanted (l : Launch) (G : Gt) (E : Et) (V : Vt) (x1 : Int32) (x2 : Int32) (K : Int32 → Vt → Prop) : Prop := (C_X9_in l G E V x1 (0 : Int32) (V 1024 0 0) (fun x22 V21 => ((x22 = (0 : Int32) → K (-1 : Int32) V21) ∧ (¬ x22 = (0 : Int32) → (C_X9_isPart l G E V21 x2 (fun x24 V23 => ((¬ x24 = (0 : Int32) → ((¬ x1 = (0 : Int32) → (vp_in x1 61) ∧ (((V23 1025 0 (x1).toNatClampNeg) ≤ x2 → K (-1 : Int32) V23) ∧ (¬ (V23 1025 0 (x1).toNatClampNeg) ≤ x2 → (vp_in (((40 : Int32) * x1) + x2) 2440) ∧ K (V23 1026 0 ((((40 : Int32) * x1) + x2)).toNatClampNeg) V23))) ∧ (x1 = (0 : Int32) → (vp_in x2 40) ∧ K (V23 1004 0 (x2).toNatClampNeg) V23))) ∧ (x24 = (0 : Int32) → K (-1 : Int32) V23))))))))
theorem ok_X9_wanted {l : Launch} {G : Gt} {E : Et} {V : Vt} {x1 : Int32} {x2 : Int32} {K : Int32 → Vt → Prop} (hE : Sg E)  (h : vc_X9_wanted l G E V x1 x2 K) : C_X9_wanted l G E V x1 x2 K := by
  unfold vc_X9_wanted at h
  refine Cl.of (by decide +kernel) (Nat.le_of_ble_eq_true rfl) (show Ev l G RX9 cX9_wanted 3 (some .int) rm_X9_wanted E 0 0 V 0 [(0, .ref (eA E 9 0)), (1, .int x1), (2, .int x2)] [] (Qi E K) from ?_)
  refine r_iload_n (x := x1) dX9_wanted_0 rfl ?_
  refine r_iconst (v := (0 : Int32)) dX9_wanted_1 (by decide) ?_
  refine r_aload_n (v := .ref (eA E 9 0)) dX9_wanted_2 rfl (rl_ref _) ?_
  refine r_get (v := .int (V 1024 0 0)) dX9_wanted_3 fl_RX9_145 (hE.1 9 (by decide)) rfl ?_
  refine r_cSi (As := [.int x1, .int (0 : Int32), .int (V 1024 0 0)]) (rest := []) dX9_wanted_6 ms_X9_in ml_RX9_125 ⟨Nat.le_of_ble_eq_true rfl, Nat.le_of_ble_eq_true rfl⟩ ⟨rfl, rfl⟩ rfl rfl (Nat.le_of_ble_eq_true rfl) h (fun x22 V21 h => ?_)
  refine r_if_eq 20 dX9_wanted_9 (by decide) (fun q => ?_) (fun q => ?_)
  · have h := h.1 q
    refine r_iconst (v := (-1 : Int32)) dX9_wanted_20 (by decide) ?_
    exact r_iret dX9_wanted_21 rfl ⟨Nat.le_of_ble_eq_true rfl, Nat.le_of_ble_eq_true rfl⟩ ⟨rfl, _, rfl, h⟩
  · have h := h.2 q
    refine r_aload_n (v := .ref (eA E 9 0)) dX9_wanted_12 rfl (rl_ref _) ?_
    refine r_iload_n (x := x2) dX9_wanted_13 rfl ?_
    refine r_cVi (As := [.int x2]) (rest := []) dX9_wanted_14 mv_X9_isPart ml_RX9_137 ⟨_, _, rfl⟩ (hE.1 9 (by decide)) ⟨Nat.le_of_ble_eq_true rfl, Nat.le_of_ble_eq_true rfl⟩ ⟨rfl, rfl⟩ rfl rfl (Nat.le_of_ble_eq_true rfl) h (fun x24 V23 h => ?_)
    refine r_if_ne 22 dX9_wanted_17 (by decide) (fun q => ?_) (fun q => ?_)
    · have h := h.1 q
      refine r_iload_n (x := x1) dX9_wanted_22 rfl ?_
      refine r_if_ne 33 dX9_wanted_23 (by decide) (fun q => ?_) (fun q => ?_)
      · have h := h.1 q
        refine r_iload_n (x := x2) dX9_wanted_33 rfl ?_
        refine r_aload_n (v := .ref (eA E 9 0)) dX9_wanted_34 rfl (rl_ref _) ?_
        refine r_get (v := .ref (eA E 1025 0)) dX9_wanted_35 fl_RX9_66 (hE.1 9 (by decide)) rfl ?_
        refine r_iload_n (x := x1) dX9_wanted_38 rfl ?_
        obtain ⟨hb, h⟩ := h
        refine r_iald dX9_wanted_39 rfl (by decide) (hE.1 9 (by decide)) (ix hE (by decide) rfl hb) ?_
        refine r_icmp_ge 57 dX9_wanted_40 (by decide) (fun q => ?_) (fun q => ?_)
        · have h := h.1 q
          refine r_iconst (v := (-1 : Int32)) dX9_wanted_57 (by decide) ?_
          exact r_iret dX9_wanted_58 rfl ⟨Nat.le_of_ble_eq_true rfl, Nat.le_of_ble_eq_true rfl⟩ ⟨rfl, _, rfl, h⟩
        · have h := h.2 q
          refine r_aload_n (v := .ref (eA E 9 0)) dX9_wanted_43 rfl (rl_ref _) ?_
          refine r_get (v := .ref (eA E 1026 0)) dX9_wanted_44 fl_RX9_69 (hE.1 9 (by decide)) rfl ?_
          refine r_bipush (v := (40 : Int32)) dX9_wanted_47 (by decide) ?_
          refine r_iload_n (x := x1) dX9_wanted_49 rfl ?_
          refine r_imul dX9_wanted_50 ?_
          refine r_iload_n (x := x2) dX9_wanted_51 rfl ?_
          refine r_iadd dX9_wanted_52 ?_
          obtain ⟨hb, h⟩ := h
          refine r_iald dX9_wanted_53 rfl (by decide) (hE.1 9 (by decide)) (ix hE (by decide) rfl hb) ?_
          refine r_goto 58 dX9_wanted_54 (by decide) ?_
          exact r_iret dX9_wanted_58 rfl ⟨Nat.le_of_ble_eq_true rfl, Nat.le_of_ble_eq_true rfl⟩ ⟨rfl, _, rfl, h⟩
      · have h := h.2 q
        refine r_aload_n (v := .ref (eA E 9 0)) dX9_wanted_26 rfl (rl_ref _) ?_
        refine r_get (v := .ref (eA E 1004 0)) dX9_wanted_27 fl_RX9_16 (hE.1 9 (by decide)) rfl ?_
        refine r_iload_n (x := x2) dX9_wanted_30 rfl ?_
        obtain ⟨hb, h⟩ := h
        refine r_iald dX9_wanted_31 rfl (by decide) (hE.1 9 (by decide)) (ix hE (by decide) rfl hb) ?_
        exact r_iret dX9_wanted_32 rfl ⟨Nat.le_of_ble_eq_true rfl, Nat.le_of_ble_eq_true rfl⟩ ⟨rfl, _, rfl, h⟩
    · have h := h.2 q
      refine r_iconst (v := (-1 : Int32)) dX9_wanted_20 (by decide) ?_
      exact r_iret dX9_wanted_21 rfl ⟨Nat.le_of_ble_eq_true rfl, Nat.le_of_ble_eq_true rfl⟩ ⟨rfl, _, rfl, h⟩
abbrev rm_X9_goes : Room := { frames := 0, cells := 0, slots := 0, locals := 0 }
def C_X9_goes (l : Launch) (G : Gt) (E : Et) (V : Vt) (x1 : Int32) (x2 : Int32) (K : Int32 → Vt → Prop) : Prop := Cl l G yX9_goes cX9_goes 5 (some .int) rm_X9_goes E V [.ref (eA E 9 0), .int x1, .int x2] (Qi E K)
def A_X9_goes_35 (l : Launch) (G : Gt) (E : Et) (V : Vt) (x1 : Int32) (x3 : Int32) (x4 : Int32) (K : Int32 → Vt → Prop) : Prop := Ev l G RX9 cX9_goes 5 (some .int) rm_X9_goes E 0 0 V 35 [(0, .ref (eA E 9 0)), (1, .int x1), (3, .int x3), (4, .int x4)] [] (Qi E K)
def vc_X9_goes (l : Launch) (G : Gt) (E : Et) (V : Vt) (x1 : Int32) (x2 : Int32) (K : Int32 → Vt → Prop) : Prop := ((x2 ≤ (0 : Int32) → (vp_in x1 40) ∧ A_X9_goes_35 l G E V x1 (V 1028 0 (x1).toNatClampNeg) (1 : Int32) K) ∧ (¬ x2 ≤ (0 : Int32) → (vp_in x1 40) ∧ (vp_in (((4 : Int32) * x1) + x2) 160) ∧ K (((V 1028 0 (x1).toNatClampNeg) * (V 1017 0 ((((4 : Int32) * x1) + x2)).toNatClampNeg)) / (12 : Int32)) V))
def vc_X9_goes_35 (l : Launch) (G : Gt) (E : Et) (V : Vt) (x1 : Int32) (x3 : Int32) (x4 : Int32) (K : Int32 → Vt → Prop) : Prop := (vp_in x1 40) ∧ (((V 1015 0 (x1).toNatClampNeg) ≤ x4 → K x3 V) ∧ (¬ (V 1015 0 (x1).toNatClampNeg) ≤ x4 → (vp_in x1 40) ∧ (vp_in (((4 : Int32) * x1) + x4) 160) ∧ A_X9_goes_35 l G E V x1 (x3 - (((V 1028 0 (x1).toNatClampNeg) * (V 1017 0 ((((4 : Int32) * x1) + x4)).toNatClampNeg)) / (12 : Int32))) (x4 + (1 : Int32)) K))
theorem ok_X9_goes {l : Launch} {G : Gt} {E : Et} {V : Vt} {x1 : Int32} {x2 : Int32} {K : Int32 → Vt → Prop} (hE : Sg E)  (h : vc_X9_goes l G E V x1 x2 K) : C_X9_goes l G E V x1 x2 K := by
  unfold vc_X9_goes at h
  refine Cl.of (by decide +kernel) (Nat.le_of_ble_eq_true rfl) (show Ev l G RX9 cX9_goes 5 (some .int) rm_X9_goes E 0 0 V 0 [(0, .ref (eA E 9 0)), (1, .int x1), (2, .int x2)] [] (Qi E K) from ?_)
  refine r_iload_n (x := x2) dX9_goes_0 rfl ?_
  refine r_if_le 25 dX9_goes_1 (by decide) (fun q => ?_) (fun q => ?_)
  · have h := h.1 q
    refine r_aload_n (v := .ref (eA E 9 0)) dX9_goes_25 rfl (rl_ref _) ?_
    refine r_get (v := .ref (eA E 1028 0)) dX9_goes_26 fl_RX9_75 (hE.1 9 (by decide)) rfl ?_
    refine r_iload_n (x := x1) dX9_goes_29 rfl ?_
    obtain ⟨hb, h⟩ := h
    refine r_iald dX9_goes_30 rfl (by decide) (hE.1 9 (by decide)) (ix hE (by decide) rfl hb) ?_
    refine r_istore_n dX9_goes_31 (by decide) ?_
    refine r_iconst (v := (1 : Int32)) dX9_goes_32 (by decide) ?_
    refine r_istore dX9_goes_33 (by decide) ?_
    exact Ev.loc [0, 1, 3, 4] rfl h
  · have h := h.2 q
    refine r_aload_n (v := .ref (eA E 9 0)) dX9_goes_4 rfl (rl_ref _) ?_
    refine r_get (v := .ref (eA E 1028 0)) dX9_goes_5 fl_RX9_75 (hE.1 9 (by decide)) rfl ?_
    refine r_iload_n (x := x1) dX9_goes_8 rfl ?_
    obtain ⟨hb, h⟩ := h
    refine r_iald dX9_goes_9 rfl (by decide) (hE.1 9 (by decide)) (ix hE (by decide) rfl hb) ?_
    refine r_aload_n (v := .ref (eA E 9 0)) dX9_goes_10 rfl (rl_ref _) ?_
    refine r_get (v := .ref (eA E 1017 0)) dX9_goes_11 fl_RX9_56 (hE.1 9 (by decide)) rfl ?_
    refine r_iconst (v := (4 : Int32)) dX9_goes_14 (by decide) ?_
    refine r_iload_n (x := x1) dX9_goes_15 rfl ?_
    refine r_imul dX9_goes_16 ?_
    refine r_iload_n (x := x2) dX9_goes_17 rfl ?_
    refine r_iadd dX9_goes_18 ?_
    obtain ⟨hb, h⟩ := h
    refine r_iald dX9_goes_19 rfl (by decide) (hE.1 9 (by decide)) (ix hE (by decide) rfl hb) ?_
    refine r_imul dX9_goes_20 ?_
    refine r_bipush (v := (12 : Int32)) dX9_goes_21 (by decide) ?_
    refine r_idiv dX9_goes_23 (by decide) ?_
    exact r_iret dX9_goes_24 rfl ⟨Nat.le_of_ble_eq_true rfl, Nat.le_of_ble_eq_true rfl⟩ ⟨rfl, _, rfl, h⟩
theorem ok_X9_goes_35 {l : Launch} {G : Gt} {E : Et} {V : Vt} {x1 : Int32} {x3 : Int32} {x4 : Int32} {K : Int32 → Vt → Prop} (hE : Sg E)  (h : vc_X9_goes_35 l G E V x1 x3 x4 K) : A_X9_goes_35 l G E V x1 x3 x4 K := by
  unfold vc_X9_goes_35 at h
  unfold A_X9_goes_35
  refine r_iload (x := x4) dX9_goes_35 rfl ?_
  refine r_aload_n (v := .ref (eA E 9 0)) dX9_goes_37 rfl (rl_ref _) ?_
  refine r_get (v := .ref (eA E 1015 0)) dX9_goes_38 fl_RX9_50 (hE.1 9 (by decide)) rfl ?_
  refine r_iload_n (x := x1) dX9_goes_41 rfl ?_
  obtain ⟨hb, h⟩ := h
  refine r_iald dX9_goes_42 rfl (by decide) (hE.1 9 (by decide)) (ix hE (by decide) rfl hb) ?_
  refine r_icmp_ge 76 dX9_goes_43 (by decide) (fun q => ?_) (fun q => ?_)
  · have h := h.1 q
    refine r_iload_n (x := x3) dX9_goes_76 rfl ?_
    exact r_iret dX9_goes_77 rfl ⟨Nat.le_of_ble_eq_true rfl, Nat.le_of_ble_eq_true rfl⟩ ⟨rfl, _, rfl, h⟩
  · have h := h.2 q
    refine r_iload_n (x := x3) dX9_goes_46 rfl ?_
    refine r_aload_n (v := .ref (eA E 9 0)) dX9_goes_47 rfl (rl_ref _) ?_
    refine r_get (v := .ref (eA E 1028 0)) dX9_goes_48 fl_RX9_75 (hE.1 9 (by decide)) rfl ?_
    refine r_iload_n (x := x1) dX9_goes_51 rfl ?_
    obtain ⟨hb, h⟩ := h
    refine r_iald dX9_goes_52 rfl (by decide) (hE.1 9 (by decide)) (ix hE (by decide) rfl hb) ?_
    refine r_aload_n (v := .ref (eA E 9 0)) dX9_goes_53 rfl (rl_ref _) ?_
    refine r_get (v := .ref (eA E 1017 0)) dX9_goes_54 fl_RX9_56 (hE.1 9 (by decide)) rfl ?_
    refine r_iconst (v := (4 : Int32)) dX9_goes_57 (by decide) ?_
    refine r_iload_n (x := x1) dX9_goes_58 rfl ?_
    refine r_imul dX9_goes_59 ?_
    refine r_iload (x := x4) dX9_goes_60 rfl ?_
    refine r_iadd dX9_goes_62 ?_
    obtain ⟨hb, h⟩ := h
    refine r_iald dX9_goes_63 rfl (by decide) (hE.1 9 (by decide)) (ix hE (by decide) rfl hb) ?_
    refine r_imul dX9_goes_64 ?_
    refine r_bipush (v := (12 : Int32)) dX9_goes_65 (by decide) ?_
    refine r_idiv dX9_goes_67 (by decide) ?_
    refine r_isub dX9_goes_68 ?_
    refine r_istore_n dX9_goes_69 (by decide) ?_
    refine r_iinc (x := x4) (v := (1 : Int32)) dX9_goes_70 rfl (by decide) (by decide) ?_
    refine r_goto 35 dX9_goes_73 (by decide) ?_
    exact Ev.loc [0, 1, 2, 3] rfl h
abbrev rm_X9_weigh : Room := { frames := 1, cells := 0, slots := 0, locals := 24 }
def C_X9_weigh (l : Launch) (G : Gt) (E : Et) (V : Vt)  (K : Vt → Prop) : Prop := Cl l G yX9_weigh cX9_weigh 3 none rm_X9_weigh E V [.ref (eA E 9 0)] (Qv E K)
def A_X9_weigh_2 (l : Launch) (G : Gt) (E : Et) (V : Vt) (x1 : Int32) (K : Vt → Prop) : Prop := Ev l G RX9 cX9_weigh 3 none rm_X9_weigh E 0 0 V 2 [(0, .ref (eA E 9 0)), (1, .int x1)] [] (Qv E K)
def A_X9_weigh_49 (l : Launch) (G : Gt) (E : Et) (V : Vt) (x1 : Int32) (K : Vt → Prop) : Prop := Ev l G RX9 cX9_weigh 3 none rm_X9_weigh E 0 0 V 49 [(0, .ref (eA E 9 0)), (1, .int x1)] [] (Qv E K)
def A_X9_weigh_67 (l : Launch) (G : Gt) (E : Et) (V : Vt) (x1 : Int32) (x2 : Int32) (K : Vt → Prop) : Prop := Ev l G RX9 cX9_weigh 3 none rm_X9_weigh E 0 0 V 67 [(0, .ref (eA E 9 0)), (1, .int x1), (2, .int x2)] [] (Qv E K)
def vc_X9_weigh (l : Launch) (G : Gt) (E : Et) (V : Vt)  (K : Vt → Prop) : Prop := A_X9_weigh_2 l G E V (0 : Int32) K
def vc_X9_weigh_2 (l : Launch) (G : Gt) (E : Et) (V : Vt) (x1 : Int32) (K : Vt → Prop) : Prop := (((V 1001 0 0) ≤ x1 → A_X9_weigh_49 l G E V ((V 1001 0 0) - (1 : Int32)) K) ∧ (¬ (V 1001 0 0) ≤ x1 → (vp_in x1 40) ∧ (vp_in x1 40) ∧ (vp_in x1 40) ∧ (vp_in x1 40) ∧ A_X9_weigh_2 l G E (up3 (up3 V 1028 0 (x1).toNatClampNeg ((V 1012 0 (x1).toNatClampNeg) * (V 1005 0 (x1).toNatClampNeg))) 1029 0 (x1).toNatClampNeg (0 : Int32)) (x1 + (1 : Int32)) K))
def vc_X9_weigh_49 (l : Launch) (G : Gt) (E : Et) (V : Vt) (x1 : Int32) (K : Vt → Prop) : Prop := ((x1 < (0 : Int32) → K V) ∧ (¬ x1 < (0 : Int32) → (vp_in x1 40) ∧ (((V 1014 0 (x1).toNatClampNeg) = (0 : Int32) → A_X9_weigh_67 l G E V x1 (0 : Int32) K) ∧ (¬ (V 1014 0 (x1).toNatClampNeg) = (0 : Int32) → A_X9_weigh_49 l G E V (x1 + (-1 : Int32)) K))))
def vc_X9_weigh_67 (l : Launch) (G : Gt) (E : Et) (V : Vt) (x1 : Int32) (x2 : Int32) (K : Vt → Prop) : Prop := (vp_in x1 40) ∧ (((V 1015 0 (x1).toNatClampNeg) ≤ x2 → (vp_in x1 40) ∧ (((V 1002 0 (x1).toNatClampNeg) = (0 : Int32) → A_X9_weigh_49 l G E V (x1 + (-1 : Int32)) K) ∧ (¬ (V 1002 0 (x1).toNatClampNeg) = (0 : Int32) → (vp_in x1 40) ∧ ((¬ (V 1012 0 (x1).toNatClampNeg) = (0 : Int32) → (vp_in x1 40) ∧ (vp_in x1 40) ∧ (vp_in ((4 : Int32) * x1) 160) ∧ (vp_in (V 1016 0 (((4 : Int32) * x1)).toNatClampNeg) 40) ∧ (vp_in (V 1016 0 (((4 : Int32) * x1)).toNatClampNeg) 40) ∧ (vp_in (((4 : Int32) * x1) + (1 : Int32)) 160) ∧ (vp_in ((up3 V 1029 0 ((V 1016 0 (((4 : Int32) * x1)).toNatClampNeg)).toNatClampNeg ((V 1029 0 ((V 1016 0 (((4 : Int32) * x1)).toNatClampNeg)).toNatClampNeg) - (((((V 1028 0 (x1).toNatClampNeg)).toInt64 * ((V 1009 0 (x1).toNatClampNeg)).toInt64) / (100 : Int64))).toInt32)) 1016 0 ((((4 : Int32) * x1) + (1 : Int32))).toNatClampNeg) 40) ∧ (vp_in ((up3 V 1029 0 ((V 1016 0 (((4 : Int32) * x1)).toNatClampNeg)).toNatClampNeg ((V 1029 0 ((V 1016 0 (((4 : Int32) * x1)).toNatClampNeg)).toNatClampNeg) - (((((V 1028 0 (x1).toNatClampNeg)).toInt64 * ((V 1009 0 (x1).toNatClampNeg)).toInt64) / (100 : Int64))).toInt32)) 1016 0 ((((4 : Int32) * x1) + (1 : Int32))).toNatClampNeg) 40) ∧ A_X9_weigh_49 l G E (up3 (up3 V 1029 0 ((V 1016 0 (((4 : Int32) * x1)).toNatClampNeg)).toNatClampNeg ((V 1029 0 ((V 1016 0 (((4 : Int32) * x1)).toNatClampNeg)).toNatClampNeg) - (((((V 1028 0 (x1).toNatClampNeg)).toInt64 * ((V 1009 0 (x1).toNatClampNeg)).toInt64) / (100 : Int64))).toInt32)) 1029 0 (((up3 V 1029 0 ((V 1016 0 (((4 : Int32) * x1)).toNatClampNeg)).toNatClampNeg ((V 1029 0 ((V 1016 0 (((4 : Int32) * x1)).toNatClampNeg)).toNatClampNeg) - (((((V 1028 0 (x1).toNatClampNeg)).toInt64 * ((V 1009 0 (x1).toNatClampNeg)).toInt64) / (100 : Int64))).toInt32)) 1016 0 ((((4 : Int32) * x1) + (1 : Int32))).toNatClampNeg)).toNatClampNeg (((up3 V 1029 0 ((V 1016 0 (((4 : Int32) * x1)).toNatClampNeg)).toNatClampNeg ((V 1029 0 ((V 1016 0 (((4 : Int32) * x1)).toNatClampNeg)).toNatClampNeg) - (((((V 1028 0 (x1).toNatClampNeg)).toInt64 * ((V 1009 0 (x1).toNatClampNeg)).toInt64) / (100 : Int64))).toInt32)) 1029 0 (((up3 V 1029 0 ((V 1016 0 (((4 : Int32) * x1)).toNatClampNeg)).toNatClampNeg ((V 1029 0 ((V 1016 0 (((4 : Int32) * x1)).toNatClampNeg)).toNatClampNeg) - (((((V 1028 0 (x1).toNatClampNeg)).toInt64 * ((V 1009 0 (x1).toNatClampNeg)).toInt64) / (100 : Int64))).toInt32)) 1016 0 ((((4 : Int32) * x1) + (1 : Int32))).toNatClampNeg)).toNatClampNeg) + (((((V 1028 0 (x1).toNatClampNeg)).toInt64 * ((V 1009 0 (x1).toNatClampNeg)).toInt64) / (100 : Int64))).toInt32)) (x1 + (-1 : Int32)) K) ∧ ((V 1012 0 (x1).toNatClampNeg) = (0 : Int32) → A_X9_weigh_49 l G E V (x1 + (-1 : Int32)) K))))) ∧ (¬ (V 1015 0 (x1).toNatClampNeg) ≤ x2 → (vp_in (((4 : Int32) * x1) + x2) 160) ∧ (vp_in (V 1016 0 ((((4 : Int32) * x1) + x2)).toNatClampNeg) 40) ∧ (C_X9_goes l G E V x1 x2 (fun x22 V21 => (vp_in (V 1016 0 ((((4 : Int32) * x1) + x2)).toNatClampNeg) 40) ∧ A_X9_weigh_67 l G E (up3 V21 1028 0 ((V 1016 0 ((((4 : Int32) * x1) + x2)).toNatClampNeg)).toNatClampNeg ((V 1028 0 ((V 1016 0 ((((4 : Int32) * x1) + x2)).toNatClampNeg)).toNatClampNeg) + x22)) x1 (x2 + (1 : Int32)) K))))
theorem ok_X9_weigh {l : Launch} {G : Gt} {E : Et} {V : Vt}  {K : Vt → Prop} (hE : Sg E)  (h : vc_X9_weigh l G E V  K) : C_X9_weigh l G E V  K := by
  unfold vc_X9_weigh at h
  refine Cl.of (by decide +kernel) (Nat.le_of_ble_eq_true rfl) (show Ev l G RX9 cX9_weigh 3 none rm_X9_weigh E 0 0 V 0 [(0, .ref (eA E 9 0))] [] (Qv E K) from ?_)
  refine r_iconst (v := (0 : Int32)) dX9_weigh_0 (by decide) ?_
  refine r_istore_n dX9_weigh_1 (by decide) ?_
  exact Ev.loc [0, 1] rfl h
theorem ok_X9_weigh_2 {l : Launch} {G : Gt} {E : Et} {V : Vt} {x1 : Int32} {K : Vt → Prop} (hE : Sg E)  (h : vc_X9_weigh_2 l G E V x1 K) : A_X9_weigh_2 l G E V x1 K := by
  unfold vc_X9_weigh_2 at h
  unfold A_X9_weigh_2
  refine r_iload_n (x := x1) dX9_weigh_2 rfl ?_
  refine r_aload_n (v := .ref (eA E 9 0)) dX9_weigh_3 rfl (rl_ref _) ?_
  refine r_get (v := .int (V 1001 0 0)) dX9_weigh_4 fl_RX9_122 (hE.1 9 (by decide)) rfl ?_
  refine r_icmp_ge 42 dX9_weigh_7 (by decide) (fun q => ?_) (fun q => ?_)
  · have h := h.1 q
    refine r_aload_n (v := .ref (eA E 9 0)) dX9_weigh_42 rfl (rl_ref _) ?_
    refine r_get (v := .int (V 1001 0 0)) dX9_weigh_43 fl_RX9_122 (hE.1 9 (by decide)) rfl ?_
    refine r_iconst (v := (1 : Int32)) dX9_weigh_46 (by decide) ?_
    refine r_isub dX9_weigh_47 ?_
    refine r_istore_n dX9_weigh_48 (by decide) ?_
    exact Ev.loc [0, 1] rfl h
  · have h := h.2 q
    refine r_aload_n (v := .ref (eA E 9 0)) dX9_weigh_10 rfl (rl_ref _) ?_
    refine r_get (v := .ref (eA E 1028 0)) dX9_weigh_11 fl_RX9_75 (hE.1 9 (by decide)) rfl ?_
    refine r_iload_n (x := x1) dX9_weigh_14 rfl ?_
    refine r_aload_n (v := .ref (eA E 9 0)) dX9_weigh_15 rfl (rl_ref _) ?_
    refine r_get (v := .ref (eA E 1012 0)) dX9_weigh_16 fl_RX9_40 (hE.1 9 (by decide)) rfl ?_
    refine r_iload_n (x := x1) dX9_weigh_19 rfl ?_
    obtain ⟨hb, h⟩ := h
    refine r_iald dX9_weigh_20 rfl (by decide) (hE.1 9 (by decide)) (ix hE (by decide) rfl hb) ?_
    refine r_aload_n (v := .ref (eA E 9 0)) dX9_weigh_21 rfl (rl_ref _) ?_
    refine r_get (v := .ref (eA E 1005 0)) dX9_weigh_22 fl_RX9_19 (hE.1 9 (by decide)) rfl ?_
    refine r_iload_n (x := x1) dX9_weigh_25 rfl ?_
    obtain ⟨hb, h⟩ := h
    refine r_iald dX9_weigh_26 rfl (by decide) (hE.1 9 (by decide)) (ix hE (by decide) rfl hb) ?_
    refine r_imul dX9_weigh_27 ?_
    obtain ⟨hb, h⟩ := h
    refine r_iast dX9_weigh_28 rfl (by decide) (hE.1 9 (by decide)) (ix hE (by decide) rfl hb) ?_
    refine r_aload_n (v := .ref (eA E 9 0)) dX9_weigh_29 rfl (rl_ref _) ?_
    refine r_get (v := .ref (eA E 1029 0)) dX9_weigh_30 fl_RX9_78 (hE.1 9 (by decide)) rfl ?_
    refine r_iload_n (x := x1) dX9_weigh_33 rfl ?_
    refine r_iconst (v := (0 : Int32)) dX9_weigh_34 (by decide) ?_
    obtain ⟨hb, h⟩ := h
    refine r_iast dX9_weigh_35 rfl (by decide) (hE.1 9 (by decide)) (ix hE (by decide) rfl hb) ?_
    refine r_iinc (x := x1) (v := (1 : Int32)) dX9_weigh_36 rfl (by decide) (by decide) ?_
    refine r_goto 2 dX9_weigh_39 (by decide) ?_
    exact Ev.loc [0, 1] rfl h
theorem ok_X9_weigh_49 {l : Launch} {G : Gt} {E : Et} {V : Vt} {x1 : Int32} {K : Vt → Prop} (hE : Sg E)  (h : vc_X9_weigh_49 l G E V x1 K) : A_X9_weigh_49 l G E V x1 K := by
  unfold vc_X9_weigh_49 at h
  unfold A_X9_weigh_49
  refine r_iload_n (x := x1) dX9_weigh_49 rfl ?_
  refine r_if_lt 191 dX9_weigh_50 (by decide) (fun q => ?_) (fun q => ?_)
  · have h := h.1 q
    exact r_vret dX9_weigh_191 rfl ⟨Nat.le_of_ble_eq_true rfl, Nat.le_of_ble_eq_true rfl⟩ ⟨rfl, rfl, h⟩
  · have h := h.2 q
    refine r_aload_n (v := .ref (eA E 9 0)) dX9_weigh_53 rfl (rl_ref _) ?_
    refine r_get (v := .ref (eA E 1014 0)) dX9_weigh_54 fl_RX9_46 (hE.1 9 (by decide)) rfl ?_
    refine r_iload_n (x := x1) dX9_weigh_57 rfl ?_
    obtain ⟨hb, h⟩ := h
    refine r_zald dX9_weigh_58 rfl (by decide) (hE.1 9 (by decide)) (ix hE (by decide) rfl hb) ?_
    refine r_if_eq 65 dX9_weigh_59 (by decide) (fun q => ?_) (fun q => ?_)
    · have h := h.1 q
      refine r_iconst (v := (0 : Int32)) dX9_weigh_65 (by decide) ?_
      refine r_istore_n dX9_weigh_66 (by decide) ?_
      exact Ev.loc [0, 1, 2] rfl h
    · have h := h.2 q
      refine r_goto 185 dX9_weigh_62 (by decide) ?_
      refine r_iinc (x := x1) (v := (-1 : Int32)) dX9_weigh_185 rfl (by decide) (by decide) ?_
      refine r_goto 49 dX9_weigh_188 (by decide) ?_
      exact Ev.loc [0, 1] rfl h
theorem ok_X9_weigh_67 {l : Launch} {G : Gt} {E : Et} {V : Vt} {x1 : Int32} {x2 : Int32} {K : Vt → Prop} (hE : Sg E)  (h : vc_X9_weigh_67 l G E V x1 x2 K) : A_X9_weigh_67 l G E V x1 x2 K := by
  unfold vc_X9_weigh_67 at h
  unfold A_X9_weigh_67
  refine r_iload_n (x := x2) dX9_weigh_67 rfl ?_
  refine r_aload_n (v := .ref (eA E 9 0)) dX9_weigh_68 rfl (rl_ref _) ?_
  refine r_get (v := .ref (eA E 1015 0)) dX9_weigh_69 fl_RX9_50 (hE.1 9 (by decide)) rfl ?_
  refine r_iload_n (x := x1) dX9_weigh_72 rfl ?_
  obtain ⟨hb, h⟩ := h
  refine r_iald dX9_weigh_73 rfl (by decide) (hE.1 9 (by decide)) (ix hE (by decide) rfl hb) ?_
  refine r_icmp_ge 107 dX9_weigh_74 (by decide) (fun q => ?_) (fun q => ?_)
  · have h := h.1 q
    refine r_aload_n (v := .ref (eA E 9 0)) dX9_weigh_107 rfl (rl_ref _) ?_
    refine r_get (v := .ref (eA E 1002 0)) dX9_weigh_108 fl_RX9_7 (hE.1 9 (by decide)) rfl ?_
    refine r_iload_n (x := x1) dX9_weigh_111 rfl ?_
    obtain ⟨hb, h⟩ := h
    refine r_iald dX9_weigh_112 rfl (by decide) (hE.1 9 (by decide)) (ix hE (by decide) rfl hb) ?_
    refine r_if_eq 185 dX9_weigh_113 (by decide) (fun q => ?_) (fun q => ?_)
    · have h := h.1 q
      refine r_iinc (x := x1) (v := (-1 : Int32)) dX9_weigh_185 rfl (by decide) (by decide) ?_
      refine r_goto 49 dX9_weigh_188 (by decide) ?_
      exact Ev.loc [0, 1] rfl h
    · have h := h.2 q
      refine r_aload_n (v := .ref (eA E 9 0)) dX9_weigh_116 rfl (rl_ref _) ?_
      refine r_get (v := .ref (eA E 1012 0)) dX9_weigh_117 fl_RX9_40 (hE.1 9 (by decide)) rfl ?_
      refine r_iload_n (x := x1) dX9_weigh_120 rfl ?_
      obtain ⟨hb, h⟩ := h
      refine r_iald dX9_weigh_121 rfl (by decide) (hE.1 9 (by decide)) (ix hE (by decide) rfl hb) ?_
      refine r_if_ne 128 dX9_weigh_122 (by decide) (fun q => ?_) (fun q => ?_)
      · have h := h.1 q
        refine r_aload_n (v := .ref (eA E 9 0)) dX9_weigh_128 rfl (rl_ref _) ?_
        refine r_get (v := .ref (eA E 1028 0)) dX9_weigh_129 fl_RX9_75 (hE.1 9 (by decide)) rfl ?_
        refine r_iload_n (x := x1) dX9_weigh_132 rfl ?_
        obtain ⟨hb, h⟩ := h
        refine r_iald dX9_weigh_133 rfl (by decide) (hE.1 9 (by decide)) (ix hE (by decide) rfl hb) ?_
        refine r_i2l dX9_weigh_134 ?_
        refine r_aload_n (v := .ref (eA E 9 0)) dX9_weigh_135 rfl (rl_ref _) ?_
        refine r_get (v := .ref (eA E 1009 0)) dX9_weigh_136 fl_RX9_31 (hE.1 9 (by decide)) rfl ?_
        refine r_iload_n (x := x1) dX9_weigh_139 rfl ?_
        obtain ⟨hb, h⟩ := h
        refine r_iald dX9_weigh_140 rfl (by decide) (hE.1 9 (by decide)) (ix hE (by decide) rfl hb) ?_
        refine r_i2l dX9_weigh_141 ?_
        refine r_lmul dX9_weigh_142 ?_
        refine r_ldc2 dX9_weigh_143 kc_RX9_155 ?_
        refine r_ldiv dX9_weigh_146 (by decide) ?_
        refine r_l2i dX9_weigh_147 ?_
        refine r_istore_n dX9_weigh_148 (by decide) ?_
        refine r_aload_n (v := .ref (eA E 9 0)) dX9_weigh_149 rfl (rl_ref _) ?_
        refine r_get (v := .ref (eA E 1029 0)) dX9_weigh_150 fl_RX9_78 (hE.1 9 (by decide)) rfl ?_
        refine r_aload_n (v := .ref (eA E 9 0)) dX9_weigh_153 rfl (rl_ref _) ?_
        refine r_get (v := .ref (eA E 1016 0)) dX9_weigh_154 fl_RX9_53 (hE.1 9 (by decide)) rfl ?_
        refine r_iconst (v := (4 : Int32)) dX9_weigh_157 (by decide) ?_
        refine r_iload_n (x := x1) dX9_weigh_158 rfl ?_
        refine r_imul dX9_weigh_159 ?_
        obtain ⟨hb, h⟩ := h
        refine r_iald dX9_weigh_160 rfl (by decide) (hE.1 9 (by decide)) (ix hE (by decide) rfl hb) ?_
        refine r_dup2 dX9_weigh_161 rfl rfl ?_
        obtain ⟨hb, h⟩ := h
        refine r_iald dX9_weigh_162 rfl (by decide) (hE.1 9 (by decide)) (ix hE (by decide) rfl hb) ?_
        refine r_iload_n (x := (((((V 1028 0 (x1).toNatClampNeg)).toInt64 * ((V 1009 0 (x1).toNatClampNeg)).toInt64) / (100 : Int64))).toInt32) dX9_weigh_163 rfl ?_
        refine r_isub dX9_weigh_164 ?_
        obtain ⟨hb, h⟩ := h
        refine r_iast dX9_weigh_165 rfl (by decide) (hE.1 9 (by decide)) (ix hE (by decide) rfl hb) ?_
        refine r_aload_n (v := .ref (eA E 9 0)) dX9_weigh_166 rfl (rl_ref _) ?_
        refine r_get (v := .ref (eA E 1029 0)) dX9_weigh_167 fl_RX9_78 (hE.1 9 (by decide)) rfl ?_
        refine r_aload_n (v := .ref (eA E 9 0)) dX9_weigh_170 rfl (rl_ref _) ?_
        refine r_get (v := .ref (eA E 1016 0)) dX9_weigh_171 fl_RX9_53 (hE.1 9 (by decide)) rfl ?_
        refine r_iconst (v := (4 : Int32)) dX9_weigh_174 (by decide) ?_
        refine r_iload_n (x := x1) dX9_weigh_175 rfl ?_
        refine r_imul dX9_weigh_176 ?_
        refine r_iconst (v := (1 : Int32)) dX9_weigh_177 (by decide) ?_
        refine r_iadd dX9_weigh_178 ?_
        obtain ⟨hb, h⟩ := h
        refine r_iald dX9_weigh_179 rfl (by decide) (hE.1 9 (by decide)) (ix hE (by decide) rfl hb) ?_
        refine r_dup2 dX9_weigh_180 rfl rfl ?_
        obtain ⟨hb, h⟩ := h
        refine r_iald dX9_weigh_181 rfl (by decide) (hE.1 9 (by decide)) (ix hE (by decide) rfl hb) ?_
        refine r_iload_n (x := (((((V 1028 0 (x1).toNatClampNeg)).toInt64 * ((V 1009 0 (x1).toNatClampNeg)).toInt64) / (100 : Int64))).toInt32) dX9_weigh_182 rfl ?_
        refine r_iadd dX9_weigh_183 ?_
        obtain ⟨hb, h⟩ := h
        refine r_iast dX9_weigh_184 rfl (by decide) (hE.1 9 (by decide)) (ix hE (by decide) rfl hb) ?_
        refine r_iinc (x := x1) (v := (-1 : Int32)) dX9_weigh_185 rfl (by decide) (by decide) ?_
        refine r_goto 49 dX9_weigh_188 (by decide) ?_
        exact Ev.loc [0, 1] rfl h
      · have h := h.2 q
        refine r_goto 185 dX9_weigh_125 (by decide) ?_
        refine r_iinc (x := x1) (v := (-1 : Int32)) dX9_weigh_185 rfl (by decide) (by decide) ?_
        refine r_goto 49 dX9_weigh_188 (by decide) ?_
        exact Ev.loc [0, 1] rfl h
  · have h := h.2 q
    refine r_aload_n (v := .ref (eA E 9 0)) dX9_weigh_77 rfl (rl_ref _) ?_
    refine r_get (v := .ref (eA E 1028 0)) dX9_weigh_78 fl_RX9_75 (hE.1 9 (by decide)) rfl ?_
    refine r_aload_n (v := .ref (eA E 9 0)) dX9_weigh_81 rfl (rl_ref _) ?_
    refine r_get (v := .ref (eA E 1016 0)) dX9_weigh_82 fl_RX9_53 (hE.1 9 (by decide)) rfl ?_
    refine r_iconst (v := (4 : Int32)) dX9_weigh_85 (by decide) ?_
    refine r_iload_n (x := x1) dX9_weigh_86 rfl ?_
    refine r_imul dX9_weigh_87 ?_
    refine r_iload_n (x := x2) dX9_weigh_88 rfl ?_
    refine r_iadd dX9_weigh_89 ?_
    obtain ⟨hb, h⟩ := h
    refine r_iald dX9_weigh_90 rfl (by decide) (hE.1 9 (by decide)) (ix hE (by decide) rfl hb) ?_
    refine r_dup2 dX9_weigh_91 rfl rfl ?_
    obtain ⟨hb, h⟩ := h
    refine r_iald dX9_weigh_92 rfl (by decide) (hE.1 9 (by decide)) (ix hE (by decide) rfl hb) ?_
    refine r_aload_n (v := .ref (eA E 9 0)) dX9_weigh_93 rfl (rl_ref _) ?_
    refine r_iload_n (x := x1) dX9_weigh_94 rfl ?_
    refine r_iload_n (x := x2) dX9_weigh_95 rfl ?_
    refine r_cVi (As := [.int x1, .int x2]) (rest := [.int (V 1028 0 ((V 1016 0 ((((4 : Int32) * x1) + x2)).toNatClampNeg)).toNatClampNeg), .int (V 1016 0 ((((4 : Int32) * x1) + x2)).toNatClampNeg), .ref (eA E 1028 0)]) dX9_weigh_96 mv_X9_goes ml_RX9_151 ⟨_, _, rfl⟩ (hE.1 9 (by decide)) ⟨Nat.le_of_ble_eq_true rfl, Nat.le_of_ble_eq_true rfl⟩ ⟨rfl, rfl⟩ rfl rfl (Nat.le_of_ble_eq_true rfl) h (fun x22 V21 h => ?_)
    refine r_iadd dX9_weigh_99 ?_
    obtain ⟨hb, h⟩ := h
    refine r_iast dX9_weigh_100 rfl (by decide) (hE.1 9 (by decide)) (ix hE (by decide) rfl hb) ?_
    refine r_iinc (x := x2) (v := (1 : Int32)) dX9_weigh_101 rfl (by decide) (by decide) ?_
    refine r_goto 67 dX9_weigh_104 (by decide) ?_
    exact Ev.loc [0, 1, 2] rfl h
abbrev rm_X9_net : Room := { frames := 0, cells := 0, slots := 0, locals := 0 }
def C_X9_net (l : Launch) (G : Gt) (E : Et) (V : Vt) (x1 : Int32) (K : Int32 → Vt → Prop) : Prop := Cl l G yX9_net cX9_net 2 (some .int) rm_X9_net E V [.ref (eA E 9 0), .int x1] (Qi E K)
def vc_X9_net (l : Launch) (G : Gt) (E : Et) (V : Vt) (x1 : Int32) (K : Int32 → Vt → Prop) : Prop := (vp_in x1 40) ∧ (((0 : Int32) ≤ (V 1029 0 (x1).toNatClampNeg) → (vp_in x1 40) ∧ K (V 1029 0 (x1).toNatClampNeg) V) ∧ (¬ (0 : Int32) ≤ (V 1029 0 (x1).toNatClampNeg) → (vp_in x1 40) ∧ K (-(V 1029 0 (x1).toNatClampNeg)) V))
theorem ok_X9_net {l : Launch} {G : Gt} {E : Et} {V : Vt} {x1 : Int32} {K : Int32 → Vt → Prop} (hE : Sg E)  (h : vc_X9_net l G E V x1 K) : C_X9_net l G E V x1 K := by
  unfold vc_X9_net at h
  refine Cl.of (by decide +kernel) (Nat.le_of_ble_eq_true rfl) (show Ev l G RX9 cX9_net 2 (some .int) rm_X9_net E 0 0 V 0 [(0, .ref (eA E 9 0)), (1, .int x1)] [] (Qi E K) from ?_)
  refine r_aload_n (v := .ref (eA E 9 0)) dX9_net_0 rfl (rl_ref _) ?_
  refine r_get (v := .ref (eA E 1029 0)) dX9_net_1 fl_RX9_78 (hE.1 9 (by decide)) rfl ?_
  refine r_iload_n (x := x1) dX9_net_4 rfl ?_
  obtain ⟨hb, h⟩ := h
  refine r_iald dX9_net_5 rfl (by decide) (hE.1 9 (by decide)) (ix hE (by decide) rfl hb) ?_
  refine r_if_ge 19 dX9_net_6 (by decide) (fun q => ?_) (fun q => ?_)
  · have h := h.1 q
    refine r_aload_n (v := .ref (eA E 9 0)) dX9_net_19 rfl (rl_ref _) ?_
    refine r_get (v := .ref (eA E 1029 0)) dX9_net_20 fl_RX9_78 (hE.1 9 (by decide)) rfl ?_
    refine r_iload_n (x := x1) dX9_net_23 rfl ?_
    obtain ⟨hb, h⟩ := h
    refine r_iald dX9_net_24 rfl (by decide) (hE.1 9 (by decide)) (ix hE (by decide) rfl hb) ?_
    exact r_iret dX9_net_25 rfl ⟨Nat.le_of_ble_eq_true rfl, Nat.le_of_ble_eq_true rfl⟩ ⟨rfl, _, rfl, h⟩
  · have h := h.2 q
    refine r_aload_n (v := .ref (eA E 9 0)) dX9_net_9 rfl (rl_ref _) ?_
    refine r_get (v := .ref (eA E 1029 0)) dX9_net_10 fl_RX9_78 (hE.1 9 (by decide)) rfl ?_
    refine r_iload_n (x := x1) dX9_net_13 rfl ?_
    obtain ⟨hb, h⟩ := h
    refine r_iald dX9_net_14 rfl (by decide) (hE.1 9 (by decide)) (ix hE (by decide) rfl hb) ?_
    refine r_ineg dX9_net_15 ?_
    refine r_goto 25 dX9_net_16 (by decide) ?_
    exact r_iret dX9_net_25 rfl ⟨Nat.le_of_ble_eq_true rfl, Nat.le_of_ble_eq_true rfl⟩ ⟨rfl, _, rfl, h⟩
abbrev rm_X9_falling : Room := { frames := 2, cells := 0, slots := 0, locals := 46 }
def C_X9_falling (l : Launch) (G : Gt) (E : Et) (V : Vt)  (K : Int32 → Vt → Prop) : Prop := Cl l G yX9_falling cX9_falling 2 (some .int) rm_X9_falling E V [.ref (eA E 9 0)] (Qi E K)
def A_X9_falling_6 (l : Launch) (G : Gt) (E : Et) (V : Vt) (x1 : Int32) (K : Int32 → Vt → Prop) : Prop := Ev l G RX9 cX9_falling 2 (some .int) rm_X9_falling E 0 0 V 6 [(0, .ref (eA E 9 0)), (1, .int x1)] [] (Qi E K)
def vc_X9_falling (l : Launch) (G : Gt) (E : Et) (V : Vt)  (K : Int32 → Vt → Prop) : Prop := (C_X9_weigh l G E V (fun V21 => A_X9_falling_6 l G E V21 (0 : Int32) K))
def vc_X9_falling_6 (l : Launch) (G : Gt) (E : Et) (V : Vt) (x1 : Int32) (K : Int32 → Vt → Prop) : Prop := (((V 1001 0 0) ≤ x1 → K (-5 : Int32) V) ∧ (¬ (V 1001 0 0) ≤ x1 → (vp_in x1 40) ∧ (((V 1012 0 (x1).toNatClampNeg) = (0 : Int32) → A_X9_falling_6 l G E V (x1 + (1 : Int32)) K) ∧ (¬ (V 1012 0 (x1).toNatClampNeg) = (0 : Int32) → (vp_in x1 40) ∧ (((V 1014 0 (x1).toNatClampNeg) = (0 : Int32) → (vp_in x1 40) ∧ (vp_in x1 40) ∧ (((V 1028 0 (x1).toNatClampNeg) ≤ (V 1007 0 (x1).toNatClampNeg) → (C_X9_net l G E V x1 (fun x23 V22 => (vp_in x1 40) ∧ (vp_in x1 40) ∧ (vp_in x1 40) ∧ ((x23 ≤ (((V22 1008 0 (x1).toNatClampNeg) + (V22 1011 0 (x1).toNatClampNeg)) + ((V22 1028 0 (x1).toNatClampNeg) / (4 : Int32))) → A_X9_falling_6 l G E V22 (x1 + (1 : Int32)) K) ∧ (¬ x23 ≤ (((V22 1008 0 (x1).toNatClampNeg) + (V22 1011 0 (x1).toNatClampNeg)) + ((V22 1028 0 (x1).toNatClampNeg) / (4 : Int32))) → K ((100 : Int32) + x1) V22))))) ∧ (¬ (V 1028 0 (x1).toNatClampNeg) ≤ (V 1007 0 (x1).toNatClampNeg) → K x1 V))) ∧ (¬ (V 1014 0 (x1).toNatClampNeg) = (0 : Int32) → A_X9_falling_6 l G E V (x1 + (1 : Int32)) K))))))
theorem ok_X9_falling {l : Launch} {G : Gt} {E : Et} {V : Vt}  {K : Int32 → Vt → Prop} (hE : Sg E)  (h : vc_X9_falling l G E V  K) : C_X9_falling l G E V  K := by
  unfold vc_X9_falling at h
  refine Cl.of (by decide +kernel) (Nat.le_of_ble_eq_true rfl) (show Ev l G RX9 cX9_falling 2 (some .int) rm_X9_falling E 0 0 V 0 [(0, .ref (eA E 9 0))] [] (Qi E K) from ?_)
  refine r_aload_n (v := .ref (eA E 9 0)) dX9_falling_0 rfl (rl_ref _) ?_
  refine r_cVv (As := []) (rest := []) dX9_falling_1 mv_X9_weigh ml_RX9_157 ⟨_, _, rfl⟩ (hE.1 9 (by decide)) ⟨Nat.le_of_ble_eq_true rfl, Nat.le_of_ble_eq_true rfl⟩ ⟨rfl, rfl⟩ rfl rfl (Nat.le_of_ble_eq_true rfl) h (fun V21 h => ?_)
  refine r_iconst (v := (0 : Int32)) dX9_falling_4 (by decide) ?_
  refine r_istore_n dX9_falling_5 (by decide) ?_
  exact Ev.loc [0, 1] rfl h
theorem ok_X9_falling_6 {l : Launch} {G : Gt} {E : Et} {V : Vt} {x1 : Int32} {K : Int32 → Vt → Prop} (hE : Sg E)  (h : vc_X9_falling_6 l G E V x1 K) : A_X9_falling_6 l G E V x1 K := by
  unfold vc_X9_falling_6 at h
  unfold A_X9_falling_6
  refine r_iload_n (x := x1) dX9_falling_6 rfl ?_
  refine r_aload_n (v := .ref (eA E 9 0)) dX9_falling_7 rfl (rl_ref _) ?_
  refine r_get (v := .int (V 1001 0 0)) dX9_falling_8 fl_RX9_122 (hE.1 9 (by decide)) rfl ?_
  refine r_icmp_ge 93 dX9_falling_11 (by decide) (fun q => ?_) (fun q => ?_)
  · have h := h.1 q
    refine r_bipush (v := (-5 : Int32)) dX9_falling_93 (by decide) ?_
    exact r_iret dX9_falling_95 rfl ⟨Nat.le_of_ble_eq_true rfl, Nat.le_of_ble_eq_true rfl⟩ ⟨rfl, _, rfl, h⟩
  · have h := h.2 q
    refine r_aload_n (v := .ref (eA E 9 0)) dX9_falling_14 rfl (rl_ref _) ?_
    refine r_get (v := .ref (eA E 1012 0)) dX9_falling_15 fl_RX9_40 (hE.1 9 (by decide)) rfl ?_
    refine r_iload_n (x := x1) dX9_falling_18 rfl ?_
    obtain ⟨hb, h⟩ := h
    refine r_iald dX9_falling_19 rfl (by decide) (hE.1 9 (by decide)) (ix hE (by decide) rfl hb) ?_
    refine r_if_eq 87 dX9_falling_20 (by decide) (fun q => ?_) (fun q => ?_)
    · have h := h.1 q
      refine r_iinc (x := x1) (v := (1 : Int32)) dX9_falling_87 rfl (by decide) (by decide) ?_
      refine r_goto 6 dX9_falling_90 (by decide) ?_
      exact Ev.loc [0, 1] rfl h
    · have h := h.2 q
      refine r_aload_n (v := .ref (eA E 9 0)) dX9_falling_23 rfl (rl_ref _) ?_
      refine r_get (v := .ref (eA E 1014 0)) dX9_falling_24 fl_RX9_46 (hE.1 9 (by decide)) rfl ?_
      refine r_iload_n (x := x1) dX9_falling_27 rfl ?_
      obtain ⟨hb, h⟩ := h
      refine r_zald dX9_falling_28 rfl (by decide) (hE.1 9 (by decide)) (ix hE (by decide) rfl hb) ?_
      refine r_if_eq 35 dX9_falling_29 (by decide) (fun q => ?_) (fun q => ?_)
      · have h := h.1 q
        refine r_aload_n (v := .ref (eA E 9 0)) dX9_falling_35 rfl (rl_ref _) ?_
        refine r_get (v := .ref (eA E 1028 0)) dX9_falling_36 fl_RX9_75 (hE.1 9 (by decide)) rfl ?_
        refine r_iload_n (x := x1) dX9_falling_39 rfl ?_
        obtain ⟨hb, h⟩ := h
        refine r_iald dX9_falling_40 rfl (by decide) (hE.1 9 (by decide)) (ix hE (by decide) rfl hb) ?_
        refine r_aload_n (v := .ref (eA E 9 0)) dX9_falling_41 rfl (rl_ref _) ?_
        refine r_get (v := .ref (eA E 1007 0)) dX9_falling_42 fl_RX9_25 (hE.1 9 (by decide)) rfl ?_
        refine r_iload_n (x := x1) dX9_falling_45 rfl ?_
        obtain ⟨hb, h⟩ := h
        refine r_iald dX9_falling_46 rfl (by decide) (hE.1 9 (by decide)) (ix hE (by decide) rfl hb) ?_
        refine r_icmp_le 52 dX9_falling_47 (by decide) (fun q => ?_) (fun q => ?_)
        · have h := h.1 q
          refine r_aload_n (v := .ref (eA E 9 0)) dX9_falling_52 rfl (rl_ref _) ?_
          refine r_iload_n (x := x1) dX9_falling_53 rfl ?_
          refine r_cVi (As := [.int x1]) (rest := []) dX9_falling_54 mv_X9_net ml_RX9_160 ⟨_, _, rfl⟩ (hE.1 9 (by decide)) ⟨Nat.le_of_ble_eq_true rfl, Nat.le_of_ble_eq_true rfl⟩ ⟨rfl, rfl⟩ rfl rfl (Nat.le_of_ble_eq_true rfl) h (fun x23 V22 h => ?_)
          refine r_aload_n (v := .ref (eA E 9 0)) dX9_falling_57 rfl (rl_ref _) ?_
          refine r_get (v := .ref (eA E 1008 0)) dX9_falling_58 fl_RX9_28 (hE.1 9 (by decide)) rfl ?_
          refine r_iload_n (x := x1) dX9_falling_61 rfl ?_
          obtain ⟨hb, h⟩ := h
          refine r_iald dX9_falling_62 rfl (by decide) (hE.1 9 (by decide)) (ix hE (by decide) rfl hb) ?_
          refine r_aload_n (v := .ref (eA E 9 0)) dX9_falling_63 rfl (rl_ref _) ?_
          refine r_get (v := .ref (eA E 1011 0)) dX9_falling_64 fl_RX9_37 (hE.1 9 (by decide)) rfl ?_
          refine r_iload_n (x := x1) dX9_falling_67 rfl ?_
          obtain ⟨hb, h⟩ := h
          refine r_iald dX9_falling_68 rfl (by decide) (hE.1 9 (by decide)) (ix hE (by decide) rfl hb) ?_
          refine r_iadd dX9_falling_69 ?_
          refine r_aload_n (v := .ref (eA E 9 0)) dX9_falling_70 rfl (rl_ref _) ?_
          refine r_get (v := .ref (eA E 1028 0)) dX9_falling_71 fl_RX9_75 (hE.1 9 (by decide)) rfl ?_
          refine r_iload_n (x := x1) dX9_falling_74 rfl ?_
          obtain ⟨hb, h⟩ := h
          refine r_iald dX9_falling_75 rfl (by decide) (hE.1 9 (by decide)) (ix hE (by decide) rfl hb) ?_
          refine r_iconst (v := (4 : Int32)) dX9_falling_76 (by decide) ?_
          refine r_idiv dX9_falling_77 (by decide) ?_
          refine r_iadd dX9_falling_78 ?_
          refine r_icmp_le 87 dX9_falling_79 (by decide) (fun q => ?_) (fun q => ?_)
          · have h := h.1 q
            refine r_iinc (x := x1) (v := (1 : Int32)) dX9_falling_87 rfl (by decide) (by decide) ?_
            refine r_goto 6 dX9_falling_90 (by decide) ?_
            exact Ev.loc [0, 1] rfl h
          · have h := h.2 q
            refine r_bipush (v := (100 : Int32)) dX9_falling_82 (by decide) ?_
            refine r_iload_n (x := x1) dX9_falling_84 rfl ?_
            refine r_iadd dX9_falling_85 ?_
            exact r_iret dX9_falling_86 rfl ⟨Nat.le_of_ble_eq_true rfl, Nat.le_of_ble_eq_true rfl⟩ ⟨rfl, _, rfl, h⟩
        · have h := h.2 q
          refine r_iload_n (x := x1) dX9_falling_50 rfl ?_
          exact r_iret dX9_falling_51 rfl ⟨Nat.le_of_ble_eq_true rfl, Nat.le_of_ble_eq_true rfl⟩ ⟨rfl, _, rfl, h⟩
      · have h := h.2 q
        refine r_goto 87 dX9_falling_32 (by decide) ?_
        refine r_iinc (x := x1) (v := (1 : Int32)) dX9_falling_87 rfl (by decide) (by decide) ?_
        refine r_goto 6 dX9_falling_90 (by decide) ?_
        exact Ev.loc [0, 1] rfl h
abbrev rm_X9_fallingBy : Room := { frames := 3, cells := 0, slots := 0, locals := 67 }
def C_X9_fallingBy (l : Launch) (G : Gt) (E : Et) (V : Vt) (x1 : Int32) (K : Int32 → Vt → Prop) : Prop := Cl l G yX9_fallingBy cX9_fallingBy 4 (some .int) rm_X9_fallingBy E V [.ref (eA E 9 0), .int x1] (Qi E K)
def vc_X9_fallingBy (l : Launch) (G : Gt) (E : Et) (V : Vt) (x1 : Int32) (K : Int32 → Vt → Prop) : Prop := (vp_in x1 40) ∧ ((¬ (V 1014 0 (x1).toNatClampNeg) = (0 : Int32) → (vp_in x1 40) ∧ (vp_in x1 40) ∧ (vp_in x1 40) ∧ (C_X9_falling l G E (up3 (up3 V 1014 0 (x1).toNatClampNeg (vp_nar .boolean (1 : Int32))) 1012 0 (x1).toNatClampNeg (((up3 V 1014 0 (x1).toNatClampNeg (vp_nar .boolean (1 : Int32))) 1012 0 (x1).toNatClampNeg) + (1 : Int32))) (fun x22 V21 => (vp_in x1 40) ∧ (vp_in x1 40) ∧ (vp_in x1 40) ∧ K x22 (up3 (up3 V21 1012 0 (x1).toNatClampNeg ((V21 1012 0 (x1).toNatClampNeg) - (1 : Int32))) 1014 0 (x1).toNatClampNeg (vp_nar .boolean (V 1014 0 (x1).toNatClampNeg)))))) ∧ ((V 1014 0 (x1).toNatClampNeg) = (0 : Int32) → (vp_in x1 40) ∧ ((¬ (V 1002 0 (x1).toNatClampNeg) = (1 : Int32) → (vp_in x1 40) ∧ (vp_in x1 40) ∧ (vp_in x1 40) ∧ (C_X9_falling l G E (up3 (up3 V 1014 0 (x1).toNatClampNeg (vp_nar .boolean (0 : Int32))) 1012 0 (x1).toNatClampNeg (((up3 V 1014 0 (x1).toNatClampNeg (vp_nar .boolean (0 : Int32))) 1012 0 (x1).toNatClampNeg) + (1 : Int32))) (fun x24 V23 => (vp_in x1 40) ∧ (vp_in x1 40) ∧ (vp_in x1 40) ∧ K x24 (up3 (up3 V23 1012 0 (x1).toNatClampNeg ((V23 1012 0 (x1).toNatClampNeg) - (1 : Int32))) 1014 0 (x1).toNatClampNeg (vp_nar .boolean (V 1014 0 (x1).toNatClampNeg)))))) ∧ ((V 1002 0 (x1).toNatClampNeg) = (1 : Int32) → (vp_in x1 40) ∧ ((¬ (V 1012 0 (x1).toNatClampNeg) = (0 : Int32) → (vp_in x1 40) ∧ (vp_in x1 40) ∧ (vp_in x1 40) ∧ (C_X9_falling l G E (up3 (up3 V 1014 0 (x1).toNatClampNeg (vp_nar .boolean (0 : Int32))) 1012 0 (x1).toNatClampNeg (((up3 V 1014 0 (x1).toNatClampNeg (vp_nar .boolean (0 : Int32))) 1012 0 (x1).toNatClampNeg) + (1 : Int32))) (fun x26 V25 => (vp_in x1 40) ∧ (vp_in x1 40) ∧ (vp_in x1 40) ∧ K x26 (up3 (up3 V25 1012 0 (x1).toNatClampNeg ((V25 1012 0 (x1).toNatClampNeg) - (1 : Int32))) 1014 0 (x1).toNatClampNeg (vp_nar .boolean (V 1014 0 (x1).toNatClampNeg)))))) ∧ ((V 1012 0 (x1).toNatClampNeg) = (0 : Int32) → (vp_in x1 40) ∧ (vp_in x1 40) ∧ (vp_in x1 40) ∧ (C_X9_falling l G E (up3 (up3 V 1014 0 (x1).toNatClampNeg (vp_nar .boolean (1 : Int32))) 1012 0 (x1).toNatClampNeg (((up3 V 1014 0 (x1).toNatClampNeg (vp_nar .boolean (1 : Int32))) 1012 0 (x1).toNatClampNeg) + (1 : Int32))) (fun x28 V27 => (vp_in x1 40) ∧ (vp_in x1 40) ∧ (vp_in x1 40) ∧ K x28 (up3 (up3 V27 1012 0 (x1).toNatClampNeg ((V27 1012 0 (x1).toNatClampNeg) - (1 : Int32))) 1014 0 (x1).toNatClampNeg (vp_nar .boolean (V 1014 0 (x1).toNatClampNeg)))))))))))
theorem ok_X9_fallingBy {l : Launch} {G : Gt} {E : Et} {V : Vt} {x1 : Int32} {K : Int32 → Vt → Prop} (hE : Sg E)  (h : vc_X9_fallingBy l G E V x1 K) : C_X9_fallingBy l G E V x1 K := by
  unfold vc_X9_fallingBy at h
  refine Cl.of (by decide +kernel) (Nat.le_of_ble_eq_true rfl) (show Ev l G RX9 cX9_fallingBy 4 (some .int) rm_X9_fallingBy E 0 0 V 0 [(0, .ref (eA E 9 0)), (1, .int x1)] [] (Qi E K) from ?_)
  refine r_aload_n (v := .ref (eA E 9 0)) dX9_fallingBy_0 rfl (rl_ref _) ?_
  refine r_get (v := .ref (eA E 1014 0)) dX9_fallingBy_1 fl_RX9_46 (hE.1 9 (by decide)) rfl ?_
  refine r_iload_n (x := x1) dX9_fallingBy_4 rfl ?_
  obtain ⟨hb, h⟩ := h
  refine r_zald dX9_fallingBy_5 rfl (by decide) (hE.1 9 (by decide)) (ix hE (by decide) rfl hb) ?_
  refine r_istore_n dX9_fallingBy_6 (by decide) ?_
  refine r_aload_n (v := .ref (eA E 9 0)) dX9_fallingBy_7 rfl (rl_ref _) ?_
  refine r_get (v := .ref (eA E 1014 0)) dX9_fallingBy_8 fl_RX9_46 (hE.1 9 (by decide)) rfl ?_
  refine r_iload_n (x := x1) dX9_fallingBy_11 rfl ?_
  refine r_iload_n (x := (V 1014 0 (x1).toNatClampNeg)) dX9_fallingBy_12 rfl ?_
  refine r_if_ne 35 dX9_fallingBy_13 (by decide) (fun q => ?_) (fun q => ?_)
  · have h := h.1 q
    refine r_iconst (v := (1 : Int32)) dX9_fallingBy_35 (by decide) ?_
    refine r_goto 40 dX9_fallingBy_36 (by decide) ?_
    obtain ⟨hb, h⟩ := h
    refine r_zast dX9_fallingBy_40 rfl (by decide) (hE.1 9 (by decide)) (ix hE (by decide) rfl hb) ?_
    refine r_aload_n (v := .ref (eA E 9 0)) dX9_fallingBy_41 rfl (rl_ref _) ?_
    refine r_get (v := .ref (eA E 1012 0)) dX9_fallingBy_42 fl_RX9_40 (hE.1 9 (by decide)) rfl ?_
    refine r_iload_n (x := x1) dX9_fallingBy_45 rfl ?_
    refine r_dup2 dX9_fallingBy_46 rfl rfl ?_
    obtain ⟨hb, h⟩ := h
    refine r_iald dX9_fallingBy_47 rfl (by decide) (hE.1 9 (by decide)) (ix hE (by decide) rfl hb) ?_
    refine r_iconst (v := (1 : Int32)) dX9_fallingBy_48 (by decide) ?_
    refine r_iadd dX9_fallingBy_49 ?_
    obtain ⟨hb, h⟩ := h
    refine r_iast dX9_fallingBy_50 rfl (by decide) (hE.1 9 (by decide)) (ix hE (by decide) rfl hb) ?_
    refine r_aload_n (v := .ref (eA E 9 0)) dX9_fallingBy_51 rfl (rl_ref _) ?_
    refine r_cVi (As := []) (rest := []) dX9_fallingBy_52 mv_X9_falling ml_RX9_164 ⟨_, _, rfl⟩ (hE.1 9 (by decide)) ⟨Nat.le_of_ble_eq_true rfl, Nat.le_of_ble_eq_true rfl⟩ ⟨rfl, rfl⟩ rfl rfl (Nat.le_of_ble_eq_true rfl) h (fun x22 V21 h => ?_)
    refine r_istore_n dX9_fallingBy_55 (by decide) ?_
    refine r_aload_n (v := .ref (eA E 9 0)) dX9_fallingBy_56 rfl (rl_ref _) ?_
    refine r_get (v := .ref (eA E 1012 0)) dX9_fallingBy_57 fl_RX9_40 (hE.1 9 (by decide)) rfl ?_
    refine r_iload_n (x := x1) dX9_fallingBy_60 rfl ?_
    refine r_dup2 dX9_fallingBy_61 rfl rfl ?_
    obtain ⟨hb, h⟩ := h
    refine r_iald dX9_fallingBy_62 rfl (by decide) (hE.1 9 (by decide)) (ix hE (by decide) rfl hb) ?_
    refine r_iconst (v := (1 : Int32)) dX9_fallingBy_63 (by decide) ?_
    refine r_isub dX9_fallingBy_64 ?_
    obtain ⟨hb, h⟩ := h
    refine r_iast dX9_fallingBy_65 rfl (by decide) (hE.1 9 (by decide)) (ix hE (by decide) rfl hb) ?_
    refine r_aload_n (v := .ref (eA E 9 0)) dX9_fallingBy_66 rfl (rl_ref _) ?_
    refine r_get (v := .ref (eA E 1014 0)) dX9_fallingBy_67 fl_RX9_46 (hE.1 9 (by decide)) rfl ?_
    refine r_iload_n (x := x1) dX9_fallingBy_70 rfl ?_
    refine r_iload_n (x := (V 1014 0 (x1).toNatClampNeg)) dX9_fallingBy_71 rfl ?_
    obtain ⟨hb, h⟩ := h
    refine r_zast dX9_fallingBy_72 rfl (by decide) (hE.1 9 (by decide)) (ix hE (by decide) rfl hb) ?_
    refine r_iload_n (x := x22) dX9_fallingBy_73 rfl ?_
    exact r_iret dX9_fallingBy_74 rfl ⟨Nat.le_of_ble_eq_true rfl, Nat.le_of_ble_eq_true rfl⟩ ⟨rfl, _, rfl, h⟩
  · have h := h.2 q
    refine r_aload_n (v := .ref (eA E 9 0)) dX9_fallingBy_16 rfl (rl_ref _) ?_
    refine r_get (v := .ref (eA E 1002 0)) dX9_fallingBy_17 fl_RX9_7 (hE.1 9 (by decide)) rfl ?_
    refine r_iload_n (x := x1) dX9_fallingBy_20 rfl ?_
    obtain ⟨hb, h⟩ := h
    refine r_iald dX9_fallingBy_21 rfl (by decide) (hE.1 9 (by decide)) (ix hE (by decide) rfl hb) ?_
    refine r_iconst (v := (1 : Int32)) dX9_fallingBy_22 (by decide) ?_
    refine r_icmp_ne 39 dX9_fallingBy_23 (by decide) (fun q => ?_) (fun q => ?_)
    · have h := h.1 q
      refine r_iconst (v := (0 : Int32)) dX9_fallingBy_39 (by decide) ?_
      obtain ⟨hb, h⟩ := h
      refine r_zast dX9_fallingBy_40 rfl (by decide) (hE.1 9 (by decide)) (ix hE (by decide) rfl hb) ?_
      refine r_aload_n (v := .ref (eA E 9 0)) dX9_fallingBy_41 rfl (rl_ref _) ?_
      refine r_get (v := .ref (eA E 1012 0)) dX9_fallingBy_42 fl_RX9_40 (hE.1 9 (by decide)) rfl ?_
      refine r_iload_n (x := x1) dX9_fallingBy_45 rfl ?_
      refine r_dup2 dX9_fallingBy_46 rfl rfl ?_
      obtain ⟨hb, h⟩ := h
      refine r_iald dX9_fallingBy_47 rfl (by decide) (hE.1 9 (by decide)) (ix hE (by decide) rfl hb) ?_
      refine r_iconst (v := (1 : Int32)) dX9_fallingBy_48 (by decide) ?_
      refine r_iadd dX9_fallingBy_49 ?_
      obtain ⟨hb, h⟩ := h
      refine r_iast dX9_fallingBy_50 rfl (by decide) (hE.1 9 (by decide)) (ix hE (by decide) rfl hb) ?_
      refine r_aload_n (v := .ref (eA E 9 0)) dX9_fallingBy_51 rfl (rl_ref _) ?_
      refine r_cVi (As := []) (rest := []) dX9_fallingBy_52 mv_X9_falling ml_RX9_164 ⟨_, _, rfl⟩ (hE.1 9 (by decide)) ⟨Nat.le_of_ble_eq_true rfl, Nat.le_of_ble_eq_true rfl⟩ ⟨rfl, rfl⟩ rfl rfl (Nat.le_of_ble_eq_true rfl) h (fun x24 V23 h => ?_)
      refine r_istore_n dX9_fallingBy_55 (by decide) ?_
      refine r_aload_n (v := .ref (eA E 9 0)) dX9_fallingBy_56 rfl (rl_ref _) ?_
      refine r_get (v := .ref (eA E 1012 0)) dX9_fallingBy_57 fl_RX9_40 (hE.1 9 (by decide)) rfl ?_
      refine r_iload_n (x := x1) dX9_fallingBy_60 rfl ?_
      refine r_dup2 dX9_fallingBy_61 rfl rfl ?_
      obtain ⟨hb, h⟩ := h
      refine r_iald dX9_fallingBy_62 rfl (by decide) (hE.1 9 (by decide)) (ix hE (by decide) rfl hb) ?_
      refine r_iconst (v := (1 : Int32)) dX9_fallingBy_63 (by decide) ?_
      refine r_isub dX9_fallingBy_64 ?_
      obtain ⟨hb, h⟩ := h
      refine r_iast dX9_fallingBy_65 rfl (by decide) (hE.1 9 (by decide)) (ix hE (by decide) rfl hb) ?_
      refine r_aload_n (v := .ref (eA E 9 0)) dX9_fallingBy_66 rfl (rl_ref _) ?_
      refine r_get (v := .ref (eA E 1014 0)) dX9_fallingBy_67 fl_RX9_46 (hE.1 9 (by decide)) rfl ?_
      refine r_iload_n (x := x1) dX9_fallingBy_70 rfl ?_
      refine r_iload_n (x := (V 1014 0 (x1).toNatClampNeg)) dX9_fallingBy_71 rfl ?_
      obtain ⟨hb, h⟩ := h
      refine r_zast dX9_fallingBy_72 rfl (by decide) (hE.1 9 (by decide)) (ix hE (by decide) rfl hb) ?_
      refine r_iload_n (x := x24) dX9_fallingBy_73 rfl ?_
      exact r_iret dX9_fallingBy_74 rfl ⟨Nat.le_of_ble_eq_true rfl, Nat.le_of_ble_eq_true rfl⟩ ⟨rfl, _, rfl, h⟩
    · have h := h.2 q
      refine r_aload_n (v := .ref (eA E 9 0)) dX9_fallingBy_26 rfl (rl_ref _) ?_
      refine r_get (v := .ref (eA E 1012 0)) dX9_fallingBy_27 fl_RX9_40 (hE.1 9 (by decide)) rfl ?_
      refine r_iload_n (x := x1) dX9_fallingBy_30 rfl ?_
      obtain ⟨hb, h⟩ := h
      refine r_iald dX9_fallingBy_31 rfl (by decide) (hE.1 9 (by decide)) (ix hE (by decide) rfl hb) ?_
      refine r_if_ne 39 dX9_fallingBy_32 (by decide) (fun q => ?_) (fun q => ?_)
      · have h := h.1 q
        refine r_iconst (v := (0 : Int32)) dX9_fallingBy_39 (by decide) ?_
        obtain ⟨hb, h⟩ := h
        refine r_zast dX9_fallingBy_40 rfl (by decide) (hE.1 9 (by decide)) (ix hE (by decide) rfl hb) ?_
        refine r_aload_n (v := .ref (eA E 9 0)) dX9_fallingBy_41 rfl (rl_ref _) ?_
        refine r_get (v := .ref (eA E 1012 0)) dX9_fallingBy_42 fl_RX9_40 (hE.1 9 (by decide)) rfl ?_
        refine r_iload_n (x := x1) dX9_fallingBy_45 rfl ?_
        refine r_dup2 dX9_fallingBy_46 rfl rfl ?_
        obtain ⟨hb, h⟩ := h
        refine r_iald dX9_fallingBy_47 rfl (by decide) (hE.1 9 (by decide)) (ix hE (by decide) rfl hb) ?_
        refine r_iconst (v := (1 : Int32)) dX9_fallingBy_48 (by decide) ?_
        refine r_iadd dX9_fallingBy_49 ?_
        obtain ⟨hb, h⟩ := h
        refine r_iast dX9_fallingBy_50 rfl (by decide) (hE.1 9 (by decide)) (ix hE (by decide) rfl hb) ?_
        refine r_aload_n (v := .ref (eA E 9 0)) dX9_fallingBy_51 rfl (rl_ref _) ?_
        refine r_cVi (As := []) (rest := []) dX9_fallingBy_52 mv_X9_falling ml_RX9_164 ⟨_, _, rfl⟩ (hE.1 9 (by decide)) ⟨Nat.le_of_ble_eq_true rfl, Nat.le_of_ble_eq_true rfl⟩ ⟨rfl, rfl⟩ rfl rfl (Nat.le_of_ble_eq_true rfl) h (fun x26 V25 h => ?_)
        refine r_istore_n dX9_fallingBy_55 (by decide) ?_
        refine r_aload_n (v := .ref (eA E 9 0)) dX9_fallingBy_56 rfl (rl_ref _) ?_
        refine r_get (v := .ref (eA E 1012 0)) dX9_fallingBy_57 fl_RX9_40 (hE.1 9 (by decide)) rfl ?_
        refine r_iload_n (x := x1) dX9_fallingBy_60 rfl ?_
        refine r_dup2 dX9_fallingBy_61 rfl rfl ?_
        obtain ⟨hb, h⟩ := h
        refine r_iald dX9_fallingBy_62 rfl (by decide) (hE.1 9 (by decide)) (ix hE (by decide) rfl hb) ?_
        refine r_iconst (v := (1 : Int32)) dX9_fallingBy_63 (by decide) ?_
        refine r_isub dX9_fallingBy_64 ?_
        obtain ⟨hb, h⟩ := h
        refine r_iast dX9_fallingBy_65 rfl (by decide) (hE.1 9 (by decide)) (ix hE (by decide) rfl hb) ?_
        refine r_aload_n (v := .ref (eA E 9 0)) dX9_fallingBy_66 rfl (rl_ref _) ?_
        refine r_get (v := .ref (eA E 1014 0)) dX9_fallingBy_67 fl_RX9_46 (hE.1 9 (by decide)) rfl ?_
        refine r_iload_n (x := x1) dX9_fallingBy_70 rfl ?_
        refine r_iload_n (x := (V 1014 0 (x1).toNatClampNeg)) dX9_fallingBy_71 rfl ?_
        obtain ⟨hb, h⟩ := h
        refine r_zast dX9_fallingBy_72 rfl (by decide) (hE.1 9 (by decide)) (ix hE (by decide) rfl hb) ?_
        refine r_iload_n (x := x26) dX9_fallingBy_73 rfl ?_
        exact r_iret dX9_fallingBy_74 rfl ⟨Nat.le_of_ble_eq_true rfl, Nat.le_of_ble_eq_true rfl⟩ ⟨rfl, _, rfl, h⟩
      · have h := h.2 q
        refine r_iconst (v := (1 : Int32)) dX9_fallingBy_35 (by decide) ?_
        refine r_goto 40 dX9_fallingBy_36 (by decide) ?_
        obtain ⟨hb, h⟩ := h
        refine r_zast dX9_fallingBy_40 rfl (by decide) (hE.1 9 (by decide)) (ix hE (by decide) rfl hb) ?_
        refine r_aload_n (v := .ref (eA E 9 0)) dX9_fallingBy_41 rfl (rl_ref _) ?_
        refine r_get (v := .ref (eA E 1012 0)) dX9_fallingBy_42 fl_RX9_40 (hE.1 9 (by decide)) rfl ?_
        refine r_iload_n (x := x1) dX9_fallingBy_45 rfl ?_
        refine r_dup2 dX9_fallingBy_46 rfl rfl ?_
        obtain ⟨hb, h⟩ := h
        refine r_iald dX9_fallingBy_47 rfl (by decide) (hE.1 9 (by decide)) (ix hE (by decide) rfl hb) ?_
        refine r_iconst (v := (1 : Int32)) dX9_fallingBy_48 (by decide) ?_
        refine r_iadd dX9_fallingBy_49 ?_
        obtain ⟨hb, h⟩ := h
        refine r_iast dX9_fallingBy_50 rfl (by decide) (hE.1 9 (by decide)) (ix hE (by decide) rfl hb) ?_
        refine r_aload_n (v := .ref (eA E 9 0)) dX9_fallingBy_51 rfl (rl_ref _) ?_
        refine r_cVi (As := []) (rest := []) dX9_fallingBy_52 mv_X9_falling ml_RX9_164 ⟨_, _, rfl⟩ (hE.1 9 (by decide)) ⟨Nat.le_of_ble_eq_true rfl, Nat.le_of_ble_eq_true rfl⟩ ⟨rfl, rfl⟩ rfl rfl (Nat.le_of_ble_eq_true rfl) h (fun x28 V27 h => ?_)
        refine r_istore_n dX9_fallingBy_55 (by decide) ?_
        refine r_aload_n (v := .ref (eA E 9 0)) dX9_fallingBy_56 rfl (rl_ref _) ?_
        refine r_get (v := .ref (eA E 1012 0)) dX9_fallingBy_57 fl_RX9_40 (hE.1 9 (by decide)) rfl ?_
        refine r_iload_n (x := x1) dX9_fallingBy_60 rfl ?_
        refine r_dup2 dX9_fallingBy_61 rfl rfl ?_
        obtain ⟨hb, h⟩ := h
        refine r_iald dX9_fallingBy_62 rfl (by decide) (hE.1 9 (by decide)) (ix hE (by decide) rfl hb) ?_
        refine r_iconst (v := (1 : Int32)) dX9_fallingBy_63 (by decide) ?_
        refine r_isub dX9_fallingBy_64 ?_
        obtain ⟨hb, h⟩ := h
        refine r_iast dX9_fallingBy_65 rfl (by decide) (hE.1 9 (by decide)) (ix hE (by decide) rfl hb) ?_
        refine r_aload_n (v := .ref (eA E 9 0)) dX9_fallingBy_66 rfl (rl_ref _) ?_
        refine r_get (v := .ref (eA E 1014 0)) dX9_fallingBy_67 fl_RX9_46 (hE.1 9 (by decide)) rfl ?_
        refine r_iload_n (x := x1) dX9_fallingBy_70 rfl ?_
        refine r_iload_n (x := (V 1014 0 (x1).toNatClampNeg)) dX9_fallingBy_71 rfl ?_
        obtain ⟨hb, h⟩ := h
        refine r_zast dX9_fallingBy_72 rfl (by decide) (hE.1 9 (by decide)) (ix hE (by decide) rfl hb) ?_
        refine r_iload_n (x := x28) dX9_fallingBy_73 rfl ?_
        exact r_iret dX9_fallingBy_74 rfl ⟨Nat.le_of_ble_eq_true rfl, Nat.le_of_ble_eq_true rfl⟩ ⟨rfl, _, rfl, h⟩
abbrev rm_X9_tell : Room := { frames := 3, cells := 0, slots := 0, locals := 67 }
def C_X9_tell (l : Launch) (G : Gt) (E : Et) (V : Vt) (x1 : Int32) (x2 : Int32) (x3 : Int32) (K : Int32 → Vt → Prop) : Prop := Cl l G yX9_tell cX9_tell 5 (some .int) rm_X9_tell E V [.ref (eA E 9 0), .int x1, .int x2, .int x3] (Qi E K)
def vc_X9_tell (l : Launch) (G : Gt) (E : Et) (V : Vt) (x1 : Int32) (x2 : Int32) (x3 : Int32) (K : Int32 → Vt → Prop) : Prop := (C_X9_isPart l G E V x1 (fun x22 V21 => ((¬ x22 = (0 : Int32) → ((x2 = (0 : Int32) → (C_X9_in l G E V21 x3 (0 : Int32) (1000000 : Int32) (fun x24 V23 => ((¬ x24 = (0 : Int32) → (vp_in x1 40) ∧ (vp_in x1 40) ∧ (C_X9_falling l G E (up3 V23 1007 0 (x1).toNatClampNeg x3) (fun x26 V25 => ((¬ x26 = (-5 : Int32) → (vp_in x1 40) ∧ K (-15 : Int32) (up3 V25 1007 0 (x1).toNatClampNeg (V23 1007 0 (x1).toNatClampNeg))) ∧ (x26 = (-5 : Int32) → K (V23 1007 0 (x1).toNatClampNeg) V25))))) ∧ (x24 = (0 : Int32) → K (-1 : Int32) V23))))) ∧ (x2 = (1 : Int32) → (C_X9_in l G E V21 x3 (0 : Int32) (100000 : Int32) (fun x28 V27 => ((¬ x28 = (0 : Int32) → (vp_in x1 40) ∧ (vp_in x1 40) ∧ (C_X9_falling l G E (up3 V27 1008 0 (x1).toNatClampNeg x3) (fun x30 V29 => ((¬ x30 = (-5 : Int32) → (vp_in x1 40) ∧ K (-15 : Int32) (up3 V29 1008 0 (x1).toNatClampNeg (V27 1008 0 (x1).toNatClampNeg))) ∧ (x30 = (-5 : Int32) → K (V27 1008 0 (x1).toNatClampNeg) V29))))) ∧ (x28 = (0 : Int32) → K (-1 : Int32) V27))))) ∧ (x2 = (2 : Int32) → (C_X9_in l G E V21 x3 (0 : Int32) (100 : Int32) (fun x32 V31 => ((¬ x32 = (0 : Int32) → (vp_in x1 40) ∧ (vp_in x1 40) ∧ (C_X9_falling l G E (up3 V31 1009 0 (x1).toNatClampNeg x3) (fun x34 V33 => ((¬ x34 = (-5 : Int32) → (vp_in x1 40) ∧ K (-15 : Int32) (up3 V33 1009 0 (x1).toNatClampNeg (V31 1009 0 (x1).toNatClampNeg))) ∧ (x34 = (-5 : Int32) → K (V31 1009 0 (x1).toNatClampNeg) V33))))) ∧ (x32 = (0 : Int32) → K (-1 : Int32) V31))))) ∧ (x2 = (3 : Int32) → (C_X9_in l G E V21 x3 (0 : Int32) (24 : Int32) (fun x36 V35 => ((¬ x36 = (0 : Int32) → (vp_in x1 40) ∧ (vp_in x1 40) ∧ K (V35 1010 0 (x1).toNatClampNeg) (up3 V35 1010 0 (x1).toNatClampNeg x3)) ∧ (x36 = (0 : Int32) → K (-1 : Int32) V35))))) ∧ (¬ x2 = (0 : Int32) ∧ ¬ x2 = (1 : Int32) ∧ ¬ x2 = (2 : Int32) ∧ ¬ x2 = (3 : Int32) → K (-1 : Int32) V21))) ∧ (x22 = (0 : Int32) → K (-1 : Int32) V21))))
theorem ok_X9_tell {l : Launch} {G : Gt} {E : Et} {V : Vt} {x1 : Int32} {x2 : Int32} {x3 : Int32} {K : Int32 → Vt → Prop} (hE : Sg E)  (h : vc_X9_tell l G E V x1 x2 x3 K) : C_X9_tell l G E V x1 x2 x3 K := by
  unfold vc_X9_tell at h
  refine Cl.of (by decide +kernel) (Nat.le_of_ble_eq_true rfl) (show Ev l G RX9 cX9_tell 5 (some .int) rm_X9_tell E 0 0 V 0 [(0, .ref (eA E 9 0)), (1, .int x1), (2, .int x2), (3, .int x3)] [] (Qi E K) from ?_)
  refine r_aload_n (v := .ref (eA E 9 0)) dX9_tell_0 rfl (rl_ref _) ?_
  refine r_iload_n (x := x1) dX9_tell_1 rfl ?_
  refine r_cVi (As := [.int x1]) (rest := []) dX9_tell_2 mv_X9_isPart ml_RX9_137 ⟨_, _, rfl⟩ (hE.1 9 (by decide)) ⟨Nat.le_of_ble_eq_true rfl, Nat.le_of_ble_eq_true rfl⟩ ⟨rfl, rfl⟩ rfl rfl (Nat.le_of_ble_eq_true rfl) h (fun x22 V21 h => ?_)
  refine r_if_ne 10 dX9_tell_5 (by decide) (fun q => ?_) (fun q => ?_)
  · have h := h.1 q
    refine r_iload_n (x := x2) dX9_tell_10 rfl ?_
    by_cases q0 : x2 = (0 : Int32)
    · have h := h.1 q0
      refine r_tIn (xv := (0 : Int32)) 40 dX9_tell_11 q0 (by decide) (by decide) rfl (by decide) ?_
      refine r_iload_n (x := x3) dX9_tell_40 rfl ?_
      refine r_iconst (v := (0 : Int32)) dX9_tell_41 (by decide) ?_
      refine r_ldc dX9_tell_42 kc_RX9_129 ?_
      refine r_cSi (As := [.int x3, .int (0 : Int32), .int (1000000 : Int32)]) (rest := []) dX9_tell_44 ms_X9_in ml_RX9_125 ⟨Nat.le_of_ble_eq_true rfl, Nat.le_of_ble_eq_true rfl⟩ ⟨rfl, rfl⟩ rfl rfl (Nat.le_of_ble_eq_true rfl) h (fun x24 V23 h => ?_)
      refine r_if_ne 52 dX9_tell_47 (by decide) (fun q => ?_) (fun q => ?_)
      · have h := h.1 q
        refine r_aload_n (v := .ref (eA E 9 0)) dX9_tell_52 rfl (rl_ref _) ?_
        refine r_get (v := .ref (eA E 1007 0)) dX9_tell_53 fl_RX9_25 (hE.1 9 (by decide)) rfl ?_
        refine r_iload_n (x := x1) dX9_tell_56 rfl ?_
        obtain ⟨hb, h⟩ := h
        refine r_iald dX9_tell_57 rfl (by decide) (hE.1 9 (by decide)) (ix hE (by decide) rfl hb) ?_
        refine r_istore dX9_tell_58 (by decide) ?_
        refine r_aload_n (v := .ref (eA E 9 0)) dX9_tell_60 rfl (rl_ref _) ?_
        refine r_get (v := .ref (eA E 1007 0)) dX9_tell_61 fl_RX9_25 (hE.1 9 (by decide)) rfl ?_
        refine r_iload_n (x := x1) dX9_tell_64 rfl ?_
        refine r_iload_n (x := x3) dX9_tell_65 rfl ?_
        obtain ⟨hb, h⟩ := h
        refine r_iast dX9_tell_66 rfl (by decide) (hE.1 9 (by decide)) (ix hE (by decide) rfl hb) ?_
        refine r_aload_n (v := .ref (eA E 9 0)) dX9_tell_67 rfl (rl_ref _) ?_
        refine r_cVi (As := []) (rest := []) dX9_tell_68 mv_X9_falling ml_RX9_164 ⟨_, _, rfl⟩ (hE.1 9 (by decide)) ⟨Nat.le_of_ble_eq_true rfl, Nat.le_of_ble_eq_true rfl⟩ ⟨rfl, rfl⟩ rfl rfl (Nat.le_of_ble_eq_true rfl) h (fun x26 V25 h => ?_)
        refine r_bipush (v := (-5 : Int32)) dX9_tell_71 (by decide) ?_
        refine r_icmp_ne 79 dX9_tell_73 (by decide) (fun q => ?_) (fun q => ?_)
        · have h := h.1 q
          refine r_aload_n (v := .ref (eA E 9 0)) dX9_tell_79 rfl (rl_ref _) ?_
          refine r_get (v := .ref (eA E 1007 0)) dX9_tell_80 fl_RX9_25 (hE.1 9 (by decide)) rfl ?_
          refine r_iload_n (x := x1) dX9_tell_83 rfl ?_
          refine r_iload (x := (V23 1007 0 (x1).toNatClampNeg)) dX9_tell_84 rfl ?_
          obtain ⟨hb, h⟩ := h
          refine r_iast dX9_tell_86 rfl (by decide) (hE.1 9 (by decide)) (ix hE (by decide) rfl hb) ?_
          refine r_bipush (v := (-15 : Int32)) dX9_tell_87 (by decide) ?_
          exact r_iret dX9_tell_89 rfl ⟨Nat.le_of_ble_eq_true rfl, Nat.le_of_ble_eq_true rfl⟩ ⟨rfl, _, rfl, h⟩
        · have h := h.2 q
          refine r_iload (x := (V23 1007 0 (x1).toNatClampNeg)) dX9_tell_76 rfl ?_
          exact r_iret dX9_tell_78 rfl ⟨Nat.le_of_ble_eq_true rfl, Nat.le_of_ble_eq_true rfl⟩ ⟨rfl, _, rfl, h⟩
      · have h := h.2 q
        refine r_iconst (v := (-1 : Int32)) dX9_tell_50 (by decide) ?_
        exact r_iret dX9_tell_51 rfl ⟨Nat.le_of_ble_eq_true rfl, Nat.le_of_ble_eq_true rfl⟩ ⟨rfl, _, rfl, h⟩
    by_cases q1 : x2 = (1 : Int32)
    · have h := h.2.1 q1
      refine r_tIn (xv := (1 : Int32)) 90 dX9_tell_11 q1 (by decide) (by decide) rfl (by decide) ?_
      refine r_iload_n (x := x3) dX9_tell_90 rfl ?_
      refine r_iconst (v := (0 : Int32)) dX9_tell_91 (by decide) ?_
      refine r_ldc dX9_tell_92 kc_RX9_168 ?_
      refine r_cSi (As := [.int x3, .int (0 : Int32), .int (100000 : Int32)]) (rest := []) dX9_tell_94 ms_X9_in ml_RX9_125 ⟨Nat.le_of_ble_eq_true rfl, Nat.le_of_ble_eq_true rfl⟩ ⟨rfl, rfl⟩ rfl rfl (Nat.le_of_ble_eq_true rfl) h (fun x28 V27 h => ?_)
      refine r_if_ne 102 dX9_tell_97 (by decide) (fun q => ?_) (fun q => ?_)
      · have h := h.1 q
        refine r_aload_n (v := .ref (eA E 9 0)) dX9_tell_102 rfl (rl_ref _) ?_
        refine r_get (v := .ref (eA E 1008 0)) dX9_tell_103 fl_RX9_28 (hE.1 9 (by decide)) rfl ?_
        refine r_iload_n (x := x1) dX9_tell_106 rfl ?_
        obtain ⟨hb, h⟩ := h
        refine r_iald dX9_tell_107 rfl (by decide) (hE.1 9 (by decide)) (ix hE (by decide) rfl hb) ?_
        refine r_istore dX9_tell_108 (by decide) ?_
        refine r_aload_n (v := .ref (eA E 9 0)) dX9_tell_110 rfl (rl_ref _) ?_
        refine r_get (v := .ref (eA E 1008 0)) dX9_tell_111 fl_RX9_28 (hE.1 9 (by decide)) rfl ?_
        refine r_iload_n (x := x1) dX9_tell_114 rfl ?_
        refine r_iload_n (x := x3) dX9_tell_115 rfl ?_
        obtain ⟨hb, h⟩ := h
        refine r_iast dX9_tell_116 rfl (by decide) (hE.1 9 (by decide)) (ix hE (by decide) rfl hb) ?_
        refine r_aload_n (v := .ref (eA E 9 0)) dX9_tell_117 rfl (rl_ref _) ?_
        refine r_cVi (As := []) (rest := []) dX9_tell_118 mv_X9_falling ml_RX9_164 ⟨_, _, rfl⟩ (hE.1 9 (by decide)) ⟨Nat.le_of_ble_eq_true rfl, Nat.le_of_ble_eq_true rfl⟩ ⟨rfl, rfl⟩ rfl rfl (Nat.le_of_ble_eq_true rfl) h (fun x30 V29 h => ?_)
        refine r_bipush (v := (-5 : Int32)) dX9_tell_121 (by decide) ?_
        refine r_icmp_ne 129 dX9_tell_123 (by decide) (fun q => ?_) (fun q => ?_)
        · have h := h.1 q
          refine r_aload_n (v := .ref (eA E 9 0)) dX9_tell_129 rfl (rl_ref _) ?_
          refine r_get (v := .ref (eA E 1008 0)) dX9_tell_130 fl_RX9_28 (hE.1 9 (by decide)) rfl ?_
          refine r_iload_n (x := x1) dX9_tell_133 rfl ?_
          refine r_iload (x := (V27 1008 0 (x1).toNatClampNeg)) dX9_tell_134 rfl ?_
          obtain ⟨hb, h⟩ := h
          refine r_iast dX9_tell_136 rfl (by decide) (hE.1 9 (by decide)) (ix hE (by decide) rfl hb) ?_
          refine r_bipush (v := (-15 : Int32)) dX9_tell_137 (by decide) ?_
          exact r_iret dX9_tell_139 rfl ⟨Nat.le_of_ble_eq_true rfl, Nat.le_of_ble_eq_true rfl⟩ ⟨rfl, _, rfl, h⟩
        · have h := h.2 q
          refine r_iload (x := (V27 1008 0 (x1).toNatClampNeg)) dX9_tell_126 rfl ?_
          exact r_iret dX9_tell_128 rfl ⟨Nat.le_of_ble_eq_true rfl, Nat.le_of_ble_eq_true rfl⟩ ⟨rfl, _, rfl, h⟩
      · have h := h.2 q
        refine r_iconst (v := (-1 : Int32)) dX9_tell_100 (by decide) ?_
        exact r_iret dX9_tell_101 rfl ⟨Nat.le_of_ble_eq_true rfl, Nat.le_of_ble_eq_true rfl⟩ ⟨rfl, _, rfl, h⟩
    by_cases q2 : x2 = (2 : Int32)
    · have h := h.2.2.1 q2
      refine r_tIn (xv := (2 : Int32)) 140 dX9_tell_11 q2 (by decide) (by decide) rfl (by decide) ?_
      refine r_iload_n (x := x3) dX9_tell_140 rfl ?_
      refine r_iconst (v := (0 : Int32)) dX9_tell_141 (by decide) ?_
      refine r_bipush (v := (100 : Int32)) dX9_tell_142 (by decide) ?_
      refine r_cSi (As := [.int x3, .int (0 : Int32), .int (100 : Int32)]) (rest := []) dX9_tell_144 ms_X9_in ml_RX9_125 ⟨Nat.le_of_ble_eq_true rfl, Nat.le_of_ble_eq_true rfl⟩ ⟨rfl, rfl⟩ rfl rfl (Nat.le_of_ble_eq_true rfl) h (fun x32 V31 h => ?_)
      refine r_if_ne 152 dX9_tell_147 (by decide) (fun q => ?_) (fun q => ?_)
      · have h := h.1 q
        refine r_aload_n (v := .ref (eA E 9 0)) dX9_tell_152 rfl (rl_ref _) ?_
        refine r_get (v := .ref (eA E 1009 0)) dX9_tell_153 fl_RX9_31 (hE.1 9 (by decide)) rfl ?_
        refine r_iload_n (x := x1) dX9_tell_156 rfl ?_
        obtain ⟨hb, h⟩ := h
        refine r_iald dX9_tell_157 rfl (by decide) (hE.1 9 (by decide)) (ix hE (by decide) rfl hb) ?_
        refine r_istore dX9_tell_158 (by decide) ?_
        refine r_aload_n (v := .ref (eA E 9 0)) dX9_tell_160 rfl (rl_ref _) ?_
        refine r_get (v := .ref (eA E 1009 0)) dX9_tell_161 fl_RX9_31 (hE.1 9 (by decide)) rfl ?_
        refine r_iload_n (x := x1) dX9_tell_164 rfl ?_
        refine r_iload_n (x := x3) dX9_tell_165 rfl ?_
        obtain ⟨hb, h⟩ := h
        refine r_iast dX9_tell_166 rfl (by decide) (hE.1 9 (by decide)) (ix hE (by decide) rfl hb) ?_
        refine r_aload_n (v := .ref (eA E 9 0)) dX9_tell_167 rfl (rl_ref _) ?_
        refine r_cVi (As := []) (rest := []) dX9_tell_168 mv_X9_falling ml_RX9_164 ⟨_, _, rfl⟩ (hE.1 9 (by decide)) ⟨Nat.le_of_ble_eq_true rfl, Nat.le_of_ble_eq_true rfl⟩ ⟨rfl, rfl⟩ rfl rfl (Nat.le_of_ble_eq_true rfl) h (fun x34 V33 h => ?_)
        refine r_bipush (v := (-5 : Int32)) dX9_tell_171 (by decide) ?_
        refine r_icmp_ne 179 dX9_tell_173 (by decide) (fun q => ?_) (fun q => ?_)
        · have h := h.1 q
          refine r_aload_n (v := .ref (eA E 9 0)) dX9_tell_179 rfl (rl_ref _) ?_
          refine r_get (v := .ref (eA E 1009 0)) dX9_tell_180 fl_RX9_31 (hE.1 9 (by decide)) rfl ?_
          refine r_iload_n (x := x1) dX9_tell_183 rfl ?_
          refine r_iload (x := (V31 1009 0 (x1).toNatClampNeg)) dX9_tell_184 rfl ?_
          obtain ⟨hb, h⟩ := h
          refine r_iast dX9_tell_186 rfl (by decide) (hE.1 9 (by decide)) (ix hE (by decide) rfl hb) ?_
          refine r_bipush (v := (-15 : Int32)) dX9_tell_187 (by decide) ?_
          exact r_iret dX9_tell_189 rfl ⟨Nat.le_of_ble_eq_true rfl, Nat.le_of_ble_eq_true rfl⟩ ⟨rfl, _, rfl, h⟩
        · have h := h.2 q
          refine r_iload (x := (V31 1009 0 (x1).toNatClampNeg)) dX9_tell_176 rfl ?_
          exact r_iret dX9_tell_178 rfl ⟨Nat.le_of_ble_eq_true rfl, Nat.le_of_ble_eq_true rfl⟩ ⟨rfl, _, rfl, h⟩
      · have h := h.2 q
        refine r_iconst (v := (-1 : Int32)) dX9_tell_150 (by decide) ?_
        exact r_iret dX9_tell_151 rfl ⟨Nat.le_of_ble_eq_true rfl, Nat.le_of_ble_eq_true rfl⟩ ⟨rfl, _, rfl, h⟩
    by_cases q3 : x2 = (3 : Int32)
    · have h := h.2.2.2.1 q3
      refine r_tIn (xv := (3 : Int32)) 190 dX9_tell_11 q3 (by decide) (by decide) rfl (by decide) ?_
      refine r_iload_n (x := x3) dX9_tell_190 rfl ?_
      refine r_iconst (v := (0 : Int32)) dX9_tell_191 (by decide) ?_
      refine r_bipush (v := (24 : Int32)) dX9_tell_192 (by decide) ?_
      refine r_cSi (As := [.int x3, .int (0 : Int32), .int (24 : Int32)]) (rest := []) dX9_tell_194 ms_X9_in ml_RX9_125 ⟨Nat.le_of_ble_eq_true rfl, Nat.le_of_ble_eq_true rfl⟩ ⟨rfl, rfl⟩ rfl rfl (Nat.le_of_ble_eq_true rfl) h (fun x36 V35 h => ?_)
      refine r_if_ne 202 dX9_tell_197 (by decide) (fun q => ?_) (fun q => ?_)
      · have h := h.1 q
        refine r_aload_n (v := .ref (eA E 9 0)) dX9_tell_202 rfl (rl_ref _) ?_
        refine r_get (v := .ref (eA E 1010 0)) dX9_tell_203 fl_RX9_34 (hE.1 9 (by decide)) rfl ?_
        refine r_iload_n (x := x1) dX9_tell_206 rfl ?_
        obtain ⟨hb, h⟩ := h
        refine r_iald dX9_tell_207 rfl (by decide) (hE.1 9 (by decide)) (ix hE (by decide) rfl hb) ?_
        refine r_istore dX9_tell_208 (by decide) ?_
        refine r_aload_n (v := .ref (eA E 9 0)) dX9_tell_210 rfl (rl_ref _) ?_
        refine r_get (v := .ref (eA E 1010 0)) dX9_tell_211 fl_RX9_34 (hE.1 9 (by decide)) rfl ?_
        refine r_iload_n (x := x1) dX9_tell_214 rfl ?_
        refine r_iload_n (x := x3) dX9_tell_215 rfl ?_
        obtain ⟨hb, h⟩ := h
        refine r_iast dX9_tell_216 rfl (by decide) (hE.1 9 (by decide)) (ix hE (by decide) rfl hb) ?_
        refine r_iload (x := (V35 1010 0 (x1).toNatClampNeg)) dX9_tell_217 rfl ?_
        exact r_iret dX9_tell_219 rfl ⟨Nat.le_of_ble_eq_true rfl, Nat.le_of_ble_eq_true rfl⟩ ⟨rfl, _, rfl, h⟩
      · have h := h.2 q
        refine r_iconst (v := (-1 : Int32)) dX9_tell_200 (by decide) ?_
        exact r_iret dX9_tell_201 rfl ⟨Nat.le_of_ble_eq_true rfl, Nat.le_of_ble_eq_true rfl⟩ ⟨rfl, _, rfl, h⟩
    · have h := h.2.2.2.2 ⟨q0, q1, q2, q3⟩
      refine r_tOut 220 dX9_tell_11 (by have a0 := lv_neT q0 (a := 0) rfl; have a1 := lv_neT q1 (a := 1) rfl; have a2 := lv_neT q2 (a := 2) rfl; have a3 := lv_neT q3 (a := 3) rfl; omega) (by decide) ?_
      refine r_iconst (v := (-1 : Int32)) dX9_tell_220 (by decide) ?_
      exact r_iret dX9_tell_221 rfl ⟨Nat.le_of_ble_eq_true rfl, Nat.le_of_ble_eq_true rfl⟩ ⟨rfl, _, rfl, h⟩
  · have h := h.2 q
    refine r_iconst (v := (-1 : Int32)) dX9_tell_8 (by decide) ?_
    exact r_iret dX9_tell_9 rfl ⟨Nat.le_of_ble_eq_true rfl, Nat.le_of_ble_eq_true rfl⟩ ⟨rfl, _, rfl, h⟩
abbrev rm_X9_feed : Room := { frames := 1, cells := 0, slots := 0, locals := 22 }
def C_X9_feed (l : Launch) (G : Gt) (E : Et) (V : Vt) (x1 : Int32) (x2 : Int32) (K : Int32 → Vt → Prop) : Prop := Cl l G yX9_feed cX9_feed 4 (some .int) rm_X9_feed E V [.ref (eA E 9 0), .int x1, .int x2] (Qi E K)
def A_X9_feed_27 (l : Launch) (G : Gt) (E : Et) (V : Vt) (x1 : Int32) (x2 : Int32) (x3 : Int32) (K : Int32 → Vt → Prop) : Prop := Ev l G RX9 cX9_feed 4 (some .int) rm_X9_feed E 0 0 V 27 [(0, .ref (eA E 9 0)), (1, .int x1), (2, .int x2), (3, .int x3)] [] (Qi E K)
def vc_X9_feed (l : Launch) (G : Gt) (E : Et) (V : Vt) (x1 : Int32) (x2 : Int32) (K : Int32 → Vt → Prop) : Prop := (C_X9_in l G E V x1 (1 : Int32) (4 : Int32) (fun x22 V21 => ((¬ x22 = (0 : Int32) → ((((V21 1031 0 0) + x1) ≤ (100 : Int32) → A_X9_feed_27 l G E V21 x1 x2 (0 : Int32) K) ∧ (¬ ((V21 1031 0 0) + x1) ≤ (100 : Int32) → K (-3 : Int32) V21))) ∧ (x22 = (0 : Int32) → K (-1 : Int32) V21))))
def vc_X9_feed_27 (l : Launch) (G : Gt) (E : Et) (V : Vt) (x1 : Int32) (x2 : Int32) (x3 : Int32) (K : Int32 → Vt → Prop) : Prop := ((x1 ≤ x3 → K (V 1031 0 0) V) ∧ (¬ x1 ≤ x3 → (vp_in (V 1031 0 0) 100) ∧ A_X9_feed_27 l G E (up3 (up3 V 1030 0 ((V 1031 0 0)).toNatClampNeg (vp_nar .byte ((x2 >>> (((8 : Int32) * x3) &&& 31))).toInt8.toInt32)) 1031 0 0 (((up3 V 1030 0 ((V 1031 0 0)).toNatClampNeg (vp_nar .byte ((x2 >>> (((8 : Int32) * x3) &&& 31))).toInt8.toInt32)) 1031 0 0) + (1 : Int32))) x1 x2 (x3 + (1 : Int32)) K))
theorem ok_X9_feed {l : Launch} {G : Gt} {E : Et} {V : Vt} {x1 : Int32} {x2 : Int32} {K : Int32 → Vt → Prop} (hE : Sg E)  (h : vc_X9_feed l G E V x1 x2 K) : C_X9_feed l G E V x1 x2 K := by
  unfold vc_X9_feed at h
  refine Cl.of (by decide +kernel) (Nat.le_of_ble_eq_true rfl) (show Ev l G RX9 cX9_feed 4 (some .int) rm_X9_feed E 0 0 V 0 [(0, .ref (eA E 9 0)), (1, .int x1), (2, .int x2)] [] (Qi E K) from ?_)
  refine r_iload_n (x := x1) dX9_feed_0 rfl ?_
  refine r_iconst (v := (1 : Int32)) dX9_feed_1 (by decide) ?_
  refine r_iconst (v := (4 : Int32)) dX9_feed_2 (by decide) ?_
  refine r_cSi (As := [.int x1, .int (1 : Int32), .int (4 : Int32)]) (rest := []) dX9_feed_3 ms_X9_in ml_RX9_125 ⟨Nat.le_of_ble_eq_true rfl, Nat.le_of_ble_eq_true rfl⟩ ⟨rfl, rfl⟩ rfl rfl (Nat.le_of_ble_eq_true rfl) h (fun x22 V21 h => ?_)
  refine r_if_ne 11 dX9_feed_6 (by decide) (fun q => ?_) (fun q => ?_)
  · have h := h.1 q
    refine r_aload_n (v := .ref (eA E 9 0)) dX9_feed_11 rfl (rl_ref _) ?_
    refine r_get (v := .int (V21 1031 0 0)) dX9_feed_12 fl_RX9_169 (hE.1 9 (by decide)) rfl ?_
    refine r_iload_n (x := x1) dX9_feed_15 rfl ?_
    refine r_iadd dX9_feed_16 ?_
    refine r_bipush (v := (100 : Int32)) dX9_feed_17 (by decide) ?_
    refine r_icmp_le 25 dX9_feed_19 (by decide) (fun q => ?_) (fun q => ?_)
    · have h := h.1 q
      refine r_iconst (v := (0 : Int32)) dX9_feed_25 (by decide) ?_
      refine r_istore_n dX9_feed_26 (by decide) ?_
      exact Ev.loc [0, 1, 2, 3] rfl h
    · have h := h.2 q
      refine r_bipush (v := (-3 : Int32)) dX9_feed_22 (by decide) ?_
      exact r_iret dX9_feed_24 rfl ⟨Nat.le_of_ble_eq_true rfl, Nat.le_of_ble_eq_true rfl⟩ ⟨rfl, _, rfl, h⟩
  · have h := h.2 q
    refine r_iconst (v := (-1 : Int32)) dX9_feed_9 (by decide) ?_
    exact r_iret dX9_feed_10 rfl ⟨Nat.le_of_ble_eq_true rfl, Nat.le_of_ble_eq_true rfl⟩ ⟨rfl, _, rfl, h⟩
theorem ok_X9_feed_27 {l : Launch} {G : Gt} {E : Et} {V : Vt} {x1 : Int32} {x2 : Int32} {x3 : Int32} {K : Int32 → Vt → Prop} (hE : Sg E)  (h : vc_X9_feed_27 l G E V x1 x2 x3 K) : A_X9_feed_27 l G E V x1 x2 x3 K := by
  unfold vc_X9_feed_27 at h
  unfold A_X9_feed_27
  refine r_iload_n (x := x3) dX9_feed_27 rfl ?_
  refine r_iload_n (x := x1) dX9_feed_28 rfl ?_
  refine r_icmp_ge 64 dX9_feed_29 (by decide) (fun q => ?_) (fun q => ?_)
  · have h := h.1 q
    refine r_aload_n (v := .ref (eA E 9 0)) dX9_feed_64 rfl (rl_ref _) ?_
    refine r_get (v := .int (V 1031 0 0)) dX9_feed_65 fl_RX9_169 (hE.1 9 (by decide)) rfl ?_
    exact r_iret dX9_feed_68 rfl ⟨Nat.le_of_ble_eq_true rfl, Nat.le_of_ble_eq_true rfl⟩ ⟨rfl, _, rfl, h⟩
  · have h := h.2 q
    refine r_aload_n (v := .ref (eA E 9 0)) dX9_feed_32 rfl (rl_ref _) ?_
    refine r_get (v := .ref (eA E 1030 0)) dX9_feed_33 fl_RX9_81 (hE.1 9 (by decide)) rfl ?_
    refine r_aload_n (v := .ref (eA E 9 0)) dX9_feed_36 rfl (rl_ref _) ?_
    refine r_get (v := .int (V 1031 0 0)) dX9_feed_37 fl_RX9_169 (hE.1 9 (by decide)) rfl ?_
    refine r_iload_n (x := x2) dX9_feed_40 rfl ?_
    refine r_bipush (v := (8 : Int32)) dX9_feed_41 (by decide) ?_
    refine r_iload_n (x := x3) dX9_feed_43 rfl ?_
    refine r_imul dX9_feed_44 ?_
    refine r_ishr dX9_feed_45 ?_
    refine r_i2b dX9_feed_46 ?_
    obtain ⟨hb, h⟩ := h
    refine r_bast dX9_feed_47 rfl (by decide) (hE.1 9 (by decide)) (ix hE (by decide) rfl hb) ?_
    refine r_aload_n (v := .ref (eA E 9 0)) dX9_feed_48 rfl (rl_ref _) ?_
    refine r_dup dX9_feed_49 rfl ?_
    refine r_get (v := .int ((up3 V 1030 0 ((V 1031 0 0)).toNatClampNeg (vp_nar .byte ((x2 >>> (((8 : Int32) * x3) &&& 31))).toInt8.toInt32)) 1031 0 0)) dX9_feed_50 fl_RX9_169 (hE.1 9 (by decide)) rfl ?_
    refine r_iconst (v := (1 : Int32)) dX9_feed_53 (by decide) ?_
    refine r_iadd dX9_feed_54 ?_
    refine r_put dX9_feed_55 fp_RX9_169 rfl (hE.1 9 (by decide)) rfl rfl ?_
    refine r_iinc (x := x3) (v := (1 : Int32)) dX9_feed_58 rfl (by decide) (by decide) ?_
    refine r_goto 27 dX9_feed_61 (by decide) ?_
    exact Ev.loc [0, 1, 2, 3] rfl h
abbrev rm_X9_isDigit : Room := { frames := 0, cells := 0, slots := 0, locals := 0 }
def C_X9_isDigit (l : Launch) (G : Gt) (E : Et) (V : Vt) (x1 : Int32) (K : Int32 → Vt → Prop) : Prop := Cl l G yX9_isDigit cX9_isDigit 1 (some .boolean) rm_X9_isDigit E V [.int x1] (Qi E K)
def vc_X9_isDigit (l : Launch) (G : Gt) (E : Et) (V : Vt) (x1 : Int32) (K : Int32 → Vt → Prop) : Prop := ((x1 < (48 : Int32) → K (0 : Int32) V) ∧ (¬ x1 < (48 : Int32) → (((57 : Int32) < x1 → K (0 : Int32) V) ∧ (¬ (57 : Int32) < x1 → K (1 : Int32) V))))
theorem ok_X9_isDigit {l : Launch} {G : Gt} {E : Et} {V : Vt} {x1 : Int32} {K : Int32 → Vt → Prop} (hE : Sg E)  (h : vc_X9_isDigit l G E V x1 K) : C_X9_isDigit l G E V x1 K := by
  unfold vc_X9_isDigit at h
  refine Cl.of (by decide +kernel) (Nat.le_of_ble_eq_true rfl) (show Ev l G RX9 cX9_isDigit 1 (some .boolean) rm_X9_isDigit E 0 0 V 0 [(0, .int x1)] [] (Qi E K) from ?_)
  refine r_iload_n (x := x1) dX9_isDigit_0 rfl ?_
  refine r_bipush (v := (48 : Int32)) dX9_isDigit_1 (by decide) ?_
  refine r_icmp_lt 16 dX9_isDigit_3 (by decide) (fun q => ?_) (fun q => ?_)
  · have h := h.1 q
    refine r_iconst (v := (0 : Int32)) dX9_isDigit_16 (by decide) ?_
    exact r_zret dX9_isDigit_17 rfl rfl ⟨Nat.le_of_ble_eq_true rfl, Nat.le_of_ble_eq_true rfl⟩ ⟨rfl, _, rfl, h⟩
  · have h := h.2 q
    refine r_iload_n (x := x1) dX9_isDigit_6 rfl ?_
    refine r_bipush (v := (57 : Int32)) dX9_isDigit_7 (by decide) ?_
    refine r_icmp_gt 16 dX9_isDigit_9 (by decide) (fun q => ?_) (fun q => ?_)
    · have h := h.1 q
      refine r_iconst (v := (0 : Int32)) dX9_isDigit_16 (by decide) ?_
      exact r_zret dX9_isDigit_17 rfl rfl ⟨Nat.le_of_ble_eq_true rfl, Nat.le_of_ble_eq_true rfl⟩ ⟨rfl, _, rfl, h⟩
    · have h := h.2 q
      refine r_iconst (v := (1 : Int32)) dX9_isDigit_12 (by decide) ?_
      refine r_goto 17 dX9_isDigit_13 (by decide) ?_
      exact r_zret dX9_isDigit_17 rfl rfl ⟨Nat.le_of_ble_eq_true rfl, Nat.le_of_ble_eq_true rfl⟩ ⟨rfl, _, rfl, h⟩
abbrev rm_X9_isName : Room := { frames := 0, cells := 0, slots := 0, locals := 0 }
def C_X9_isName (l : Launch) (G : Gt) (E : Et) (V : Vt) (x1 : Int32) (K : Int32 → Vt → Prop) : Prop := Cl l G yX9_isName cX9_isName 1 (some .boolean) rm_X9_isName E V [.int x1] (Qi E K)
def vc_X9_isName (l : Launch) (G : Gt) (E : Et) (V : Vt) (x1 : Int32) (K : Int32 → Vt → Prop) : Prop := ((x1 = (112 : Int32) → K (1 : Int32) V) ∧ (¬ x1 = (112 : Int32) → ((x1 = (107 : Int32) → K (1 : Int32) V) ∧ (¬ x1 = (107 : Int32) → ((x1 = (110 : Int32) → K (1 : Int32) V) ∧ (¬ x1 = (110 : Int32) → ((x1 = (119 : Int32) → K (1 : Int32) V) ∧ (¬ x1 = (119 : Int32) → ((x1 = (109 : Int32) → K (1 : Int32) V) ∧ (¬ x1 = (109 : Int32) → ((x1 = (121 : Int32) → K (1 : Int32) V) ∧ (¬ x1 = (121 : Int32) → ((x1 = (102 : Int32) → K (1 : Int32) V) ∧ (¬ x1 = (102 : Int32) → ((¬ x1 = (100 : Int32) → K (0 : Int32) V) ∧ (x1 = (100 : Int32) → K (1 : Int32) V))))))))))))))))
theorem ok_X9_isName {l : Launch} {G : Gt} {E : Et} {V : Vt} {x1 : Int32} {K : Int32 → Vt → Prop} (hE : Sg E)  (h : vc_X9_isName l G E V x1 K) : C_X9_isName l G E V x1 K := by
  unfold vc_X9_isName at h
  refine Cl.of (by decide +kernel) (Nat.le_of_ble_eq_true rfl) (show Ev l G RX9 cX9_isName 1 (some .boolean) rm_X9_isName E 0 0 V 0 [(0, .int x1)] [] (Qi E K) from ?_)
  refine r_iload_n (x := x1) dX9_isName_0 rfl ?_
  refine r_bipush (v := (112 : Int32)) dX9_isName_1 (by decide) ?_
  refine r_icmp_eq 48 dX9_isName_3 (by decide) (fun q => ?_) (fun q => ?_)
  · have h := h.1 q
    refine r_iconst (v := (1 : Int32)) dX9_isName_48 (by decide) ?_
    refine r_goto 53 dX9_isName_49 (by decide) ?_
    exact r_zret dX9_isName_53 rfl rfl ⟨Nat.le_of_ble_eq_true rfl, Nat.le_of_ble_eq_true rfl⟩ ⟨rfl, _, rfl, h⟩
  · have h := h.2 q
    refine r_iload_n (x := x1) dX9_isName_6 rfl ?_
    refine r_bipush (v := (107 : Int32)) dX9_isName_7 (by decide) ?_
    refine r_icmp_eq 48 dX9_isName_9 (by decide) (fun q => ?_) (fun q => ?_)
    · have h := h.1 q
      refine r_iconst (v := (1 : Int32)) dX9_isName_48 (by decide) ?_
      refine r_goto 53 dX9_isName_49 (by decide) ?_
      exact r_zret dX9_isName_53 rfl rfl ⟨Nat.le_of_ble_eq_true rfl, Nat.le_of_ble_eq_true rfl⟩ ⟨rfl, _, rfl, h⟩
    · have h := h.2 q
      refine r_iload_n (x := x1) dX9_isName_12 rfl ?_
      refine r_bipush (v := (110 : Int32)) dX9_isName_13 (by decide) ?_
      refine r_icmp_eq 48 dX9_isName_15 (by decide) (fun q => ?_) (fun q => ?_)
      · have h := h.1 q
        refine r_iconst (v := (1 : Int32)) dX9_isName_48 (by decide) ?_
        refine r_goto 53 dX9_isName_49 (by decide) ?_
        exact r_zret dX9_isName_53 rfl rfl ⟨Nat.le_of_ble_eq_true rfl, Nat.le_of_ble_eq_true rfl⟩ ⟨rfl, _, rfl, h⟩
      · have h := h.2 q
        refine r_iload_n (x := x1) dX9_isName_18 rfl ?_
        refine r_bipush (v := (119 : Int32)) dX9_isName_19 (by decide) ?_
        refine r_icmp_eq 48 dX9_isName_21 (by decide) (fun q => ?_) (fun q => ?_)
        · have h := h.1 q
          refine r_iconst (v := (1 : Int32)) dX9_isName_48 (by decide) ?_
          refine r_goto 53 dX9_isName_49 (by decide) ?_
          exact r_zret dX9_isName_53 rfl rfl ⟨Nat.le_of_ble_eq_true rfl, Nat.le_of_ble_eq_true rfl⟩ ⟨rfl, _, rfl, h⟩
        · have h := h.2 q
          refine r_iload_n (x := x1) dX9_isName_24 rfl ?_
          refine r_bipush (v := (109 : Int32)) dX9_isName_25 (by decide) ?_
          refine r_icmp_eq 48 dX9_isName_27 (by decide) (fun q => ?_) (fun q => ?_)
          · have h := h.1 q
            refine r_iconst (v := (1 : Int32)) dX9_isName_48 (by decide) ?_
            refine r_goto 53 dX9_isName_49 (by decide) ?_
            exact r_zret dX9_isName_53 rfl rfl ⟨Nat.le_of_ble_eq_true rfl, Nat.le_of_ble_eq_true rfl⟩ ⟨rfl, _, rfl, h⟩
          · have h := h.2 q
            refine r_iload_n (x := x1) dX9_isName_30 rfl ?_
            refine r_bipush (v := (121 : Int32)) dX9_isName_31 (by decide) ?_
            refine r_icmp_eq 48 dX9_isName_33 (by decide) (fun q => ?_) (fun q => ?_)
            · have h := h.1 q
              refine r_iconst (v := (1 : Int32)) dX9_isName_48 (by decide) ?_
              refine r_goto 53 dX9_isName_49 (by decide) ?_
              exact r_zret dX9_isName_53 rfl rfl ⟨Nat.le_of_ble_eq_true rfl, Nat.le_of_ble_eq_true rfl⟩ ⟨rfl, _, rfl, h⟩
            · have h := h.2 q
              refine r_iload_n (x := x1) dX9_isName_36 rfl ?_
              refine r_bipush (v := (102 : Int32)) dX9_isName_37 (by decide) ?_
              refine r_icmp_eq 48 dX9_isName_39 (by decide) (fun q => ?_) (fun q => ?_)
              · have h := h.1 q
                refine r_iconst (v := (1 : Int32)) dX9_isName_48 (by decide) ?_
                refine r_goto 53 dX9_isName_49 (by decide) ?_
                exact r_zret dX9_isName_53 rfl rfl ⟨Nat.le_of_ble_eq_true rfl, Nat.le_of_ble_eq_true rfl⟩ ⟨rfl, _, rfl, h⟩
              · have h := h.2 q
                refine r_iload_n (x := x1) dX9_isName_42 rfl ?_
                refine r_bipush (v := (100 : Int32)) dX9_isName_43 (by decide) ?_
                refine r_icmp_ne 52 dX9_isName_45 (by decide) (fun q => ?_) (fun q => ?_)
                · have h := h.1 q
                  refine r_iconst (v := (0 : Int32)) dX9_isName_52 (by decide) ?_
                  exact r_zret dX9_isName_53 rfl rfl ⟨Nat.le_of_ble_eq_true rfl, Nat.le_of_ble_eq_true rfl⟩ ⟨rfl, _, rfl, h⟩
                · have h := h.2 q
                  refine r_iconst (v := (1 : Int32)) dX9_isName_48 (by decide) ?_
                  refine r_goto 53 dX9_isName_49 (by decide) ?_
                  exact r_zret dX9_isName_53 rfl rfl ⟨Nat.le_of_ble_eq_true rfl, Nat.le_of_ble_eq_true rfl⟩ ⟨rfl, _, rfl, h⟩
abbrev rm_X9_isSign : Room := { frames := 0, cells := 0, slots := 0, locals := 0 }
def C_X9_isSign (l : Launch) (G : Gt) (E : Et) (V : Vt) (x1 : Int32) (K : Int32 → Vt → Prop) : Prop := Cl l G yX9_isSign cX9_isSign 1 (some .boolean) rm_X9_isSign E V [.int x1] (Qi E K)
def vc_X9_isSign (l : Launch) (G : Gt) (E : Et) (V : Vt) (x1 : Int32) (K : Int32 → Vt → Prop) : Prop := ((x1 = (43 : Int32) → K (1 : Int32) V) ∧ (¬ x1 = (43 : Int32) → ((x1 = (45 : Int32) → K (1 : Int32) V) ∧ (¬ x1 = (45 : Int32) → ((x1 = (42 : Int32) → K (1 : Int32) V) ∧ (¬ x1 = (42 : Int32) → ((x1 = (60 : Int32) → K (1 : Int32) V) ∧ (¬ x1 = (60 : Int32) → ((x1 = (61 : Int32) → K (1 : Int32) V) ∧ (¬ x1 = (61 : Int32) → ((x1 = (62 : Int32) → K (1 : Int32) V) ∧ (¬ x1 = (62 : Int32) → ((x1 = (38 : Int32) → K (1 : Int32) V) ∧ (¬ x1 = (38 : Int32) → ((¬ x1 = (124 : Int32) → K (0 : Int32) V) ∧ (x1 = (124 : Int32) → K (1 : Int32) V))))))))))))))))
theorem ok_X9_isSign {l : Launch} {G : Gt} {E : Et} {V : Vt} {x1 : Int32} {K : Int32 → Vt → Prop} (hE : Sg E)  (h : vc_X9_isSign l G E V x1 K) : C_X9_isSign l G E V x1 K := by
  unfold vc_X9_isSign at h
  refine Cl.of (by decide +kernel) (Nat.le_of_ble_eq_true rfl) (show Ev l G RX9 cX9_isSign 1 (some .boolean) rm_X9_isSign E 0 0 V 0 [(0, .int x1)] [] (Qi E K) from ?_)
  refine r_iload_n (x := x1) dX9_isSign_0 rfl ?_
  refine r_bipush (v := (43 : Int32)) dX9_isSign_1 (by decide) ?_
  refine r_icmp_eq 48 dX9_isSign_3 (by decide) (fun q => ?_) (fun q => ?_)
  · have h := h.1 q
    refine r_iconst (v := (1 : Int32)) dX9_isSign_48 (by decide) ?_
    refine r_goto 53 dX9_isSign_49 (by decide) ?_
    exact r_zret dX9_isSign_53 rfl rfl ⟨Nat.le_of_ble_eq_true rfl, Nat.le_of_ble_eq_true rfl⟩ ⟨rfl, _, rfl, h⟩
  · have h := h.2 q
    refine r_iload_n (x := x1) dX9_isSign_6 rfl ?_
    refine r_bipush (v := (45 : Int32)) dX9_isSign_7 (by decide) ?_
    refine r_icmp_eq 48 dX9_isSign_9 (by decide) (fun q => ?_) (fun q => ?_)
    · have h := h.1 q
      refine r_iconst (v := (1 : Int32)) dX9_isSign_48 (by decide) ?_
      refine r_goto 53 dX9_isSign_49 (by decide) ?_
      exact r_zret dX9_isSign_53 rfl rfl ⟨Nat.le_of_ble_eq_true rfl, Nat.le_of_ble_eq_true rfl⟩ ⟨rfl, _, rfl, h⟩
    · have h := h.2 q
      refine r_iload_n (x := x1) dX9_isSign_12 rfl ?_
      refine r_bipush (v := (42 : Int32)) dX9_isSign_13 (by decide) ?_
      refine r_icmp_eq 48 dX9_isSign_15 (by decide) (fun q => ?_) (fun q => ?_)
      · have h := h.1 q
        refine r_iconst (v := (1 : Int32)) dX9_isSign_48 (by decide) ?_
        refine r_goto 53 dX9_isSign_49 (by decide) ?_
        exact r_zret dX9_isSign_53 rfl rfl ⟨Nat.le_of_ble_eq_true rfl, Nat.le_of_ble_eq_true rfl⟩ ⟨rfl, _, rfl, h⟩
      · have h := h.2 q
        refine r_iload_n (x := x1) dX9_isSign_18 rfl ?_
        refine r_bipush (v := (60 : Int32)) dX9_isSign_19 (by decide) ?_
        refine r_icmp_eq 48 dX9_isSign_21 (by decide) (fun q => ?_) (fun q => ?_)
        · have h := h.1 q
          refine r_iconst (v := (1 : Int32)) dX9_isSign_48 (by decide) ?_
          refine r_goto 53 dX9_isSign_49 (by decide) ?_
          exact r_zret dX9_isSign_53 rfl rfl ⟨Nat.le_of_ble_eq_true rfl, Nat.le_of_ble_eq_true rfl⟩ ⟨rfl, _, rfl, h⟩
        · have h := h.2 q
          refine r_iload_n (x := x1) dX9_isSign_24 rfl ?_
          refine r_bipush (v := (61 : Int32)) dX9_isSign_25 (by decide) ?_
          refine r_icmp_eq 48 dX9_isSign_27 (by decide) (fun q => ?_) (fun q => ?_)
          · have h := h.1 q
            refine r_iconst (v := (1 : Int32)) dX9_isSign_48 (by decide) ?_
            refine r_goto 53 dX9_isSign_49 (by decide) ?_
            exact r_zret dX9_isSign_53 rfl rfl ⟨Nat.le_of_ble_eq_true rfl, Nat.le_of_ble_eq_true rfl⟩ ⟨rfl, _, rfl, h⟩
          · have h := h.2 q
            refine r_iload_n (x := x1) dX9_isSign_30 rfl ?_
            refine r_bipush (v := (62 : Int32)) dX9_isSign_31 (by decide) ?_
            refine r_icmp_eq 48 dX9_isSign_33 (by decide) (fun q => ?_) (fun q => ?_)
            · have h := h.1 q
              refine r_iconst (v := (1 : Int32)) dX9_isSign_48 (by decide) ?_
              refine r_goto 53 dX9_isSign_49 (by decide) ?_
              exact r_zret dX9_isSign_53 rfl rfl ⟨Nat.le_of_ble_eq_true rfl, Nat.le_of_ble_eq_true rfl⟩ ⟨rfl, _, rfl, h⟩
            · have h := h.2 q
              refine r_iload_n (x := x1) dX9_isSign_36 rfl ?_
              refine r_bipush (v := (38 : Int32)) dX9_isSign_37 (by decide) ?_
              refine r_icmp_eq 48 dX9_isSign_39 (by decide) (fun q => ?_) (fun q => ?_)
              · have h := h.1 q
                refine r_iconst (v := (1 : Int32)) dX9_isSign_48 (by decide) ?_
                refine r_goto 53 dX9_isSign_49 (by decide) ?_
                exact r_zret dX9_isSign_53 rfl rfl ⟨Nat.le_of_ble_eq_true rfl, Nat.le_of_ble_eq_true rfl⟩ ⟨rfl, _, rfl, h⟩
              · have h := h.2 q
                refine r_iload_n (x := x1) dX9_isSign_42 rfl ?_
                refine r_bipush (v := (124 : Int32)) dX9_isSign_43 (by decide) ?_
                refine r_icmp_ne 52 dX9_isSign_45 (by decide) (fun q => ?_) (fun q => ?_)
                · have h := h.1 q
                  refine r_iconst (v := (0 : Int32)) dX9_isSign_52 (by decide) ?_
                  exact r_zret dX9_isSign_53 rfl rfl ⟨Nat.le_of_ble_eq_true rfl, Nat.le_of_ble_eq_true rfl⟩ ⟨rfl, _, rfl, h⟩
                · have h := h.2 q
                  refine r_iconst (v := (1 : Int32)) dX9_isSign_48 (by decide) ?_
                  refine r_goto 53 dX9_isSign_49 (by decide) ?_
                  exact r_zret dX9_isSign_53 rfl rfl ⟨Nat.le_of_ble_eq_true rfl, Nat.le_of_ble_eq_true rfl⟩ ⟨rfl, _, rfl, h⟩
abbrev rm_X9_lay0 : Room := { frames := 0, cells := 0, slots := 0, locals := 0 }
def C_X9_lay0 (l : Launch) (G : Gt) (E : Et) (V : Vt) (x1 : Int32) (K : Vt → Prop) : Prop := Cl l G yX9_lay0 cX9_lay0 2 none rm_X9_lay0 E V [.ref (eA E 9 0), .int x1] (Qv E K)
def vc_X9_lay0 (l : Launch) (G : Gt) (E : Et) (V : Vt) (x1 : Int32) (K : Vt → Prop) : Prop := (vp_in (V 1035 0 0) 5100) ∧ K (up3 (up3 V 1034 0 ((V 1035 0 0)).toNatClampNeg x1) 1035 0 0 (((up3 V 1034 0 ((V 1035 0 0)).toNatClampNeg x1) 1035 0 0) + (1 : Int32)))
theorem ok_X9_lay0 {l : Launch} {G : Gt} {E : Et} {V : Vt} {x1 : Int32} {K : Vt → Prop} (hE : Sg E)  (h : vc_X9_lay0 l G E V x1 K) : C_X9_lay0 l G E V x1 K := by
  unfold vc_X9_lay0 at h
  refine Cl.of (by decide +kernel) (Nat.le_of_ble_eq_true rfl) (show Ev l G RX9 cX9_lay0 2 none rm_X9_lay0 E 0 0 V 0 [(0, .ref (eA E 9 0)), (1, .int x1)] [] (Qv E K) from ?_)
  refine r_aload_n (v := .ref (eA E 9 0)) dX9_lay0_0 rfl (rl_ref _) ?_
  refine r_get (v := .ref (eA E 1034 0)) dX9_lay0_1 fl_RX9_88 (hE.1 9 (by decide)) rfl ?_
  refine r_aload_n (v := .ref (eA E 9 0)) dX9_lay0_4 rfl (rl_ref _) ?_
  refine r_get (v := .int (V 1035 0 0)) dX9_lay0_5 fl_RX9_172 (hE.1 9 (by decide)) rfl ?_
  refine r_iload_n (x := x1) dX9_lay0_8 rfl ?_
  obtain ⟨hb, h⟩ := h
  refine r_iast dX9_lay0_9 rfl (by decide) (hE.1 9 (by decide)) (ix hE (by decide) rfl hb) ?_
  refine r_aload_n (v := .ref (eA E 9 0)) dX9_lay0_10 rfl (rl_ref _) ?_
  refine r_dup dX9_lay0_11 rfl ?_
  refine r_get (v := .int ((up3 V 1034 0 ((V 1035 0 0)).toNatClampNeg x1) 1035 0 0)) dX9_lay0_12 fl_RX9_172 (hE.1 9 (by decide)) rfl ?_
  refine r_iconst (v := (1 : Int32)) dX9_lay0_15 (by decide) ?_
  refine r_iadd dX9_lay0_16 ?_
  refine r_put dX9_lay0_17 fp_RX9_172 rfl (hE.1 9 (by decide)) rfl rfl ?_
  exact r_vret dX9_lay0_20 rfl ⟨Nat.le_of_ble_eq_true rfl, Nat.le_of_ble_eq_true rfl⟩ ⟨rfl, rfl, h⟩
abbrev rm_X9_read : Room := { frames := 1, cells := 0, slots := 0, locals := 21 }
def C_X9_read (l : Launch) (G : Gt) (E : Et) (V : Vt)  (K : Int32 → Vt → Prop) : Prop := Cl l G yX9_read cX9_read 6 (some .int) rm_X9_read E V [.ref (eA E 9 0)] (Qi E K)
def A_X9_read_17 (l : Launch) (G : Gt) (E : Et) (V : Vt) (x1 : Int32) (x2 : Int32) (K : Int32 → Vt → Prop) : Prop := Ev l G RX9 cX9_read 6 (some .int) rm_X9_read E 0 0 V 17 [(0, .ref (eA E 9 0)), (1, .int x1), (2, .int x2)] [] (Qi E K)
def A_X9_read_242 (l : Launch) (G : Gt) (E : Et) (V : Vt) (x1 : Int32) (x2 : Int32) (x4 : Int32) (K : Int32 → Vt → Prop) : Prop := Ev l G RX9 cX9_read 6 (some .int) rm_X9_read E 0 0 V 242 [(0, .ref (eA E 9 0)), (1, .int x1), (2, .int x2), (4, .int x4)] [] (Qi E K)
def A_X9_read_99 (l : Launch) (G : Gt) (E : Et) (V : Vt) (x1 : Int32) (x2 : Int32) (x4 : Int32) (x5 : Int32) (K : Int32 → Vt → Prop) : Prop := Ev l G RX9 cX9_read 6 (some .int) rm_X9_read E 0 0 V 99 [(0, .ref (eA E 9 0)), (1, .int x1), (2, .int x2), (4, .int x4), (5, .int x5)] [] (Qi E K)
def vc_X9_read (l : Launch) (G : Gt) (E : Et) (V : Vt)  (K : Int32 → Vt → Prop) : Prop := (vp_in (V 1032 0 0) 51) ∧ A_X9_read_17 l G E (up3 V 1035 0 0 (V 1033 0 ((V 1032 0 0)).toNatClampNeg)) (0 : Int32) (0 : Int32) K
def vc_X9_read_17 (l : Launch) (G : Gt) (E : Et) (V : Vt) (x1 : Int32) (x2 : Int32) (K : Int32 → Vt → Prop) : Prop := (((V 1031 0 0) ≤ x2 → K (V 1031 0 0) V) ∧ (¬ (V 1031 0 0) ≤ x2 → (vp_in x2 100) ∧ (C_X9_isSign l G E V (V 1030 0 (x2).toNatClampNeg) (fun x22 V21 => ((¬ x22 = (0 : Int32) → ((¬ x1 = (20 : Int32) → ((¬ (V 1030 0 (x2).toNatClampNeg) = (33 : Int32) → (vp_in x1 21) ∧ (C_X9_lay0 l G E (up3 V21 1036 0 (x1).toNatClampNeg (2 : Int32)) (V 1030 0 (x2).toNatClampNeg) (fun V23 => A_X9_read_17 l G E V23 (x1 + (1 : Int32)) (x2 + (1 : Int32)) K))) ∧ ((V 1030 0 (x2).toNatClampNeg) = (33 : Int32) → (vp_in x1 21) ∧ (C_X9_lay0 l G E (up3 V21 1036 0 (x1).toNatClampNeg (1 : Int32)) (V 1030 0 (x2).toNatClampNeg) (fun V24 => A_X9_read_17 l G E V24 (x1 + (1 : Int32)) (x2 + (1 : Int32)) K))))) ∧ (x1 = (20 : Int32) → K x2 V21))) ∧ (x22 = (0 : Int32) → ((¬ (V 1030 0 (x2).toNatClampNeg) = (33 : Int32) → ((¬ (V 1030 0 (x2).toNatClampNeg) = (35 : Int32) → (C_X9_isDigit l G E V21 (V 1030 0 (x2).toNatClampNeg) (fun x26 V25 => ((x26 = (0 : Int32) → (C_X9_isName l G E V25 (V 1030 0 (x2).toNatClampNeg) (fun x28 V27 => ((x28 = (0 : Int32) → K x2 V27) ∧ (¬ x28 = (0 : Int32) → (C_X9_lay0 l G E V27 (V 1030 0 (x2).toNatClampNeg) (fun V29 => ((x1 ≤ (0 : Int32) → A_X9_read_242 l G E V29 x1 (x2 + (1 : Int32)) (0 : Int32) K) ∧ (¬ x1 ≤ (0 : Int32) → A_X9_read_242 l G E V29 x1 (x2 + (1 : Int32)) (1 : Int32) K))))))))) ∧ (¬ x26 = (0 : Int32) → (C_X9_lay0 l G E V25 ((-1 : Int32) - ((V 1030 0 (x2).toNatClampNeg) - (48 : Int32))) (fun V30 => ((x1 ≤ (0 : Int32) → A_X9_read_242 l G E V30 x1 (x2 + (1 : Int32)) (0 : Int32) K) ∧ (¬ x1 ≤ (0 : Int32) → A_X9_read_242 l G E V30 x1 (x2 + (1 : Int32)) (1 : Int32) K))))))))) ∧ ((V 1030 0 (x2).toNatClampNeg) = (35 : Int32) → A_X9_read_99 l G E V21 x1 (x2 + (1 : Int32)) (0 : Int32) (0 : Int32) K))) ∧ ((V 1030 0 (x2).toNatClampNeg) = (33 : Int32) → ((¬ x1 = (20 : Int32) → ((¬ (V 1030 0 (x2).toNatClampNeg) = (33 : Int32) → (vp_in x1 21) ∧ (C_X9_lay0 l G E (up3 V21 1036 0 (x1).toNatClampNeg (2 : Int32)) (V 1030 0 (x2).toNatClampNeg) (fun V31 => A_X9_read_17 l G E V31 (x1 + (1 : Int32)) (x2 + (1 : Int32)) K))) ∧ ((V 1030 0 (x2).toNatClampNeg) = (33 : Int32) → (vp_in x1 21) ∧ (C_X9_lay0 l G E (up3 V21 1036 0 (x1).toNatClampNeg (1 : Int32)) (V 1030 0 (x2).toNatClampNeg) (fun V32 => A_X9_read_17 l G E V32 (x1 + (1 : Int32)) (x2 + (1 : Int32)) K))))) ∧ (x1 = (20 : Int32) → K x2 V21))))))))))
def vc_X9_read_242 (l : Launch) (G : Gt) (E : Et) (V : Vt) (x1 : Int32) (x2 : Int32) (x4 : Int32) (K : Int32 → Vt → Prop) : Prop := ((x4 = (0 : Int32) → ((¬ x1 = (0 : Int32) → A_X9_read_17 l G E V x1 x2 K) ∧ (x1 = (0 : Int32) → ((¬ x2 = (V 1031 0 0) → K x2 V) ∧ (x2 = (V 1031 0 0) → K (-1 : Int32) V))))) ∧ (¬ x4 = (0 : Int32) → (vp_in (x1 - (1 : Int32)) 21) ∧ (vp_in (x1 - (1 : Int32)) 21) ∧ (vp_in (x1 - (1 : Int32)) 21) ∧ ((¬ ((up3 V 1036 0 ((x1 - (1 : Int32))).toNatClampNeg ((V 1036 0 ((x1 - (1 : Int32))).toNatClampNeg) - (1 : Int32))) 1036 0 ((x1 - (1 : Int32))).toNatClampNeg) = (0 : Int32) → (((0 : Int32) = (0 : Int32) → (((0 : Int32) = (0 : Int32) → A_X9_read_242 l G E (up3 V 1036 0 ((x1 - (1 : Int32))).toNatClampNeg ((V 1036 0 ((x1 - (1 : Int32))).toNatClampNeg) - (1 : Int32))) (x1 - (0 : Int32)) x2 (0 : Int32) K) ∧ (¬ (0 : Int32) = (0 : Int32) → (((x1 - (0 : Int32)) ≤ (0 : Int32) → A_X9_read_242 l G E (up3 V 1036 0 ((x1 - (1 : Int32))).toNatClampNeg ((V 1036 0 ((x1 - (1 : Int32))).toNatClampNeg) - (1 : Int32))) (x1 - (0 : Int32)) x2 (0 : Int32) K) ∧ (¬ (x1 - (0 : Int32)) ≤ (0 : Int32) → A_X9_read_242 l G E (up3 V 1036 0 ((x1 - (1 : Int32))).toNatClampNeg ((V 1036 0 ((x1 - (1 : Int32))).toNatClampNeg) - (1 : Int32))) (x1 - (0 : Int32)) x2 (1 : Int32) K))))) ∧ (¬ (0 : Int32) = (0 : Int32) → (((0 : Int32) = (0 : Int32) → A_X9_read_242 l G E (up3 V 1036 0 ((x1 - (1 : Int32))).toNatClampNeg ((V 1036 0 ((x1 - (1 : Int32))).toNatClampNeg) - (1 : Int32))) (x1 - (1 : Int32)) x2 (0 : Int32) K) ∧ (¬ (0 : Int32) = (0 : Int32) → (((x1 - (1 : Int32)) ≤ (0 : Int32) → A_X9_read_242 l G E (up3 V 1036 0 ((x1 - (1 : Int32))).toNatClampNeg ((V 1036 0 ((x1 - (1 : Int32))).toNatClampNeg) - (1 : Int32))) (x1 - (1 : Int32)) x2 (0 : Int32) K) ∧ (¬ (x1 - (1 : Int32)) ≤ (0 : Int32) → A_X9_read_242 l G E (up3 V 1036 0 ((x1 - (1 : Int32))).toNatClampNeg ((V 1036 0 ((x1 - (1 : Int32))).toNatClampNeg) - (1 : Int32))) (x1 - (1 : Int32)) x2 (1 : Int32) K))))))) ∧ (((up3 V 1036 0 ((x1 - (1 : Int32))).toNatClampNeg ((V 1036 0 ((x1 - (1 : Int32))).toNatClampNeg) - (1 : Int32))) 1036 0 ((x1 - (1 : Int32))).toNatClampNeg) = (0 : Int32) → (((1 : Int32) = (0 : Int32) → (((1 : Int32) = (0 : Int32) → A_X9_read_242 l G E (up3 V 1036 0 ((x1 - (1 : Int32))).toNatClampNeg ((V 1036 0 ((x1 - (1 : Int32))).toNatClampNeg) - (1 : Int32))) (x1 - (0 : Int32)) x2 (0 : Int32) K) ∧ (¬ (1 : Int32) = (0 : Int32) → (((x1 - (0 : Int32)) ≤ (0 : Int32) → A_X9_read_242 l G E (up3 V 1036 0 ((x1 - (1 : Int32))).toNatClampNeg ((V 1036 0 ((x1 - (1 : Int32))).toNatClampNeg) - (1 : Int32))) (x1 - (0 : Int32)) x2 (0 : Int32) K) ∧ (¬ (x1 - (0 : Int32)) ≤ (0 : Int32) → A_X9_read_242 l G E (up3 V 1036 0 ((x1 - (1 : Int32))).toNatClampNeg ((V 1036 0 ((x1 - (1 : Int32))).toNatClampNeg) - (1 : Int32))) (x1 - (0 : Int32)) x2 (1 : Int32) K))))) ∧ (¬ (1 : Int32) = (0 : Int32) → (((1 : Int32) = (0 : Int32) → A_X9_read_242 l G E (up3 V 1036 0 ((x1 - (1 : Int32))).toNatClampNeg ((V 1036 0 ((x1 - (1 : Int32))).toNatClampNeg) - (1 : Int32))) (x1 - (1 : Int32)) x2 (0 : Int32) K) ∧ (¬ (1 : Int32) = (0 : Int32) → (((x1 - (1 : Int32)) ≤ (0 : Int32) → A_X9_read_242 l G E (up3 V 1036 0 ((x1 - (1 : Int32))).toNatClampNeg ((V 1036 0 ((x1 - (1 : Int32))).toNatClampNeg) - (1 : Int32))) (x1 - (1 : Int32)) x2 (0 : Int32) K) ∧ (¬ (x1 - (1 : Int32)) ≤ (0 : Int32) → A_X9_read_242 l G E (up3 V 1036 0 ((x1 - (1 : Int32))).toNatClampNeg ((V 1036 0 ((x1 - (1 : Int32))).toNatClampNeg) - (1 : Int32))) (x1 - (1 : Int32)) x2 (1 : Int32) K))))))))))
def vc_X9_read_99 (l : Launch) (G : Gt) (E : Et) (V : Vt) (x1 : Int32) (x2 : Int32) (x4 : Int32) (x5 : Int32) (K : Int32 → Vt → Prop) : Prop := (((V 1031 0 0) ≤ x2 → ((x2 = (V 1031 0 0) → K x2 V) ∧ (¬ x2 = (V 1031 0 0) → ((x4 < (2 : Int32) → K x2 V) ∧ (¬ x4 < (2 : Int32) → (vp_in x2 100) ∧ (((V 1030 0 (x2).toNatClampNeg) = (32 : Int32) → (C_X9_lay0 l G E V ((-1 : Int32) - x5) (fun V33 => ((x1 ≤ (0 : Int32) → A_X9_read_242 l G E V33 x1 (x2 + (1 : Int32)) (0 : Int32) K) ∧ (¬ x1 ≤ (0 : Int32) → A_X9_read_242 l G E V33 x1 (x2 + (1 : Int32)) (1 : Int32) K))))) ∧ (¬ (V 1030 0 (x2).toNatClampNeg) = (32 : Int32) → K x2 V))))))) ∧ (¬ (V 1031 0 0) ≤ x2 → (vp_in x2 100) ∧ (C_X9_isDigit l G E V (V 1030 0 (x2).toNatClampNeg) (fun x35 V34 => ((x35 = (0 : Int32) → ((x2 = (V34 1031 0 0) → K x2 V34) ∧ (¬ x2 = (V34 1031 0 0) → ((x4 < (2 : Int32) → K x2 V34) ∧ (¬ x4 < (2 : Int32) → (vp_in x2 100) ∧ (((V34 1030 0 (x2).toNatClampNeg) = (32 : Int32) → (C_X9_lay0 l G E V34 ((-1 : Int32) - x5) (fun V36 => ((x1 ≤ (0 : Int32) → A_X9_read_242 l G E V36 x1 (x2 + (1 : Int32)) (0 : Int32) K) ∧ (¬ x1 ≤ (0 : Int32) → A_X9_read_242 l G E V36 x1 (x2 + (1 : Int32)) (1 : Int32) K))))) ∧ (¬ (V34 1030 0 (x2).toNatClampNeg) = (32 : Int32) → K x2 V34))))))) ∧ (¬ x35 = (0 : Int32) → ((¬ x4 = (5 : Int32) → (vp_in x2 100) ∧ A_X9_read_99 l G E V34 x1 (x2 + (1 : Int32)) (x4 + (1 : Int32)) ((((10 : Int32) * x5) + (V34 1030 0 (x2).toNatClampNeg)) - (48 : Int32)) K) ∧ (x4 = (5 : Int32) → K x2 V34))))))))
theorem ok_X9_read {l : Launch} {G : Gt} {E : Et} {V : Vt}  {K : Int32 → Vt → Prop} (hE : Sg E)  (h : vc_X9_read l G E V  K) : C_X9_read l G E V  K := by
  unfold vc_X9_read at h
  refine Cl.of (by decide +kernel) (Nat.le_of_ble_eq_true rfl) (show Ev l G RX9 cX9_read 6 (some .int) rm_X9_read E 0 0 V 0 [(0, .ref (eA E 9 0))] [] (Qi E K) from ?_)
  refine r_aload_n (v := .ref (eA E 9 0)) dX9_read_0 rfl (rl_ref _) ?_
  refine r_aload_n (v := .ref (eA E 9 0)) dX9_read_1 rfl (rl_ref _) ?_
  refine r_get (v := .ref (eA E 1033 0)) dX9_read_2 fl_RX9_85 (hE.1 9 (by decide)) rfl ?_
  refine r_aload_n (v := .ref (eA E 9 0)) dX9_read_5 rfl (rl_ref _) ?_
  refine r_get (v := .int (V 1032 0 0)) dX9_read_6 fl_RX9_175 (hE.1 9 (by decide)) rfl ?_
  obtain ⟨hb, h⟩ := h
  refine r_iald dX9_read_9 rfl (by decide) (hE.1 9 (by decide)) (ix hE (by decide) rfl hb) ?_
  refine r_put dX9_read_10 fp_RX9_172 rfl (hE.1 9 (by decide)) rfl rfl ?_
  refine r_iconst (v := (0 : Int32)) dX9_read_13 (by decide) ?_
  refine r_istore_n dX9_read_14 (by decide) ?_
  refine r_iconst (v := (0 : Int32)) dX9_read_15 (by decide) ?_
  refine r_istore_n dX9_read_16 (by decide) ?_
  exact Ev.loc [0, 1, 2] rfl h
theorem ok_X9_read_17 {l : Launch} {G : Gt} {E : Et} {V : Vt} {x1 : Int32} {x2 : Int32} {K : Int32 → Vt → Prop} (hE : Sg E)  (h : vc_X9_read_17 l G E V x1 x2 K) : A_X9_read_17 l G E V x1 x2 K := by
  unfold vc_X9_read_17 at h
  unfold A_X9_read_17
  refine r_iload_n (x := x2) dX9_read_17 rfl ?_
  refine r_aload_n (v := .ref (eA E 9 0)) dX9_read_18 rfl (rl_ref _) ?_
  refine r_get (v := .int (V 1031 0 0)) dX9_read_19 fl_RX9_169 (hE.1 9 (by decide)) rfl ?_
  refine r_icmp_ge 330 dX9_read_22 (by decide) (fun q => ?_) (fun q => ?_)
  · have h := h.1 q
    refine r_aload_n (v := .ref (eA E 9 0)) dX9_read_330 rfl (rl_ref _) ?_
    refine r_get (v := .int (V 1031 0 0)) dX9_read_331 fl_RX9_169 (hE.1 9 (by decide)) rfl ?_
    exact r_iret dX9_read_334 rfl ⟨Nat.le_of_ble_eq_true rfl, Nat.le_of_ble_eq_true rfl⟩ ⟨rfl, _, rfl, h⟩
  · have h := h.2 q
    refine r_aload_n (v := .ref (eA E 9 0)) dX9_read_25 rfl (rl_ref _) ?_
    refine r_get (v := .ref (eA E 1030 0)) dX9_read_26 fl_RX9_81 (hE.1 9 (by decide)) rfl ?_
    refine r_iload_n (x := x2) dX9_read_29 rfl ?_
    obtain ⟨hb, h⟩ := h
    refine r_bald dX9_read_30 rfl (by decide) (hE.1 9 (by decide)) (ix hE (by decide) rfl hb) ?_
    refine r_istore_n dX9_read_31 (by decide) ?_
    refine r_iload_n (x := (V 1030 0 (x2).toNatClampNeg)) dX9_read_32 rfl ?_
    refine r_cSi (As := [.int (V 1030 0 (x2).toNatClampNeg)]) (rest := []) dX9_read_33 ms_X9_isSign ml_RX9_178 ⟨Nat.le_of_ble_eq_true rfl, Nat.le_of_ble_eq_true rfl⟩ ⟨rfl, rfl⟩ rfl rfl (Nat.le_of_ble_eq_true rfl) h (fun x22 V21 h => ?_)
    refine r_if_ne 45 dX9_read_36 (by decide) (fun q => ?_) (fun q => ?_)
    · have h := h.1 q
      refine r_iload_n (x := x1) dX9_read_45 rfl ?_
      refine r_bipush (v := (20 : Int32)) dX9_read_46 (by decide) ?_
      refine r_icmp_ne 53 dX9_read_48 (by decide) (fun q => ?_) (fun q => ?_)
      · have h := h.1 q
        refine r_aload_n (v := .ref (eA E 9 0)) dX9_read_53 rfl (rl_ref _) ?_
        refine r_get (v := .ref (eA E 1036 0)) dX9_read_54 fl_RX9_91 (hE.1 9 (by decide)) rfl ?_
        refine r_iload_n (x := x1) dX9_read_57 rfl ?_
        refine r_iload_n (x := (V 1030 0 (x2).toNatClampNeg)) dX9_read_58 rfl ?_
        refine r_bipush (v := (33 : Int32)) dX9_read_59 (by decide) ?_
        refine r_icmp_ne 68 dX9_read_61 (by decide) (fun q => ?_) (fun q => ?_)
        · have h := h.1 q
          refine r_iconst (v := (2 : Int32)) dX9_read_68 (by decide) ?_
          obtain ⟨hb, h⟩ := h
          refine r_iast dX9_read_69 rfl (by decide) (hE.1 9 (by decide)) (ix hE (by decide) rfl hb) ?_
          refine r_iinc (x := x1) (v := (1 : Int32)) dX9_read_70 rfl (by decide) (by decide) ?_
          refine r_aload_n (v := .ref (eA E 9 0)) dX9_read_73 rfl (rl_ref _) ?_
          refine r_iload_n (x := (V 1030 0 (x2).toNatClampNeg)) dX9_read_74 rfl ?_
          refine r_cVv (As := [.int (V 1030 0 (x2).toNatClampNeg)]) (rest := []) dX9_read_75 mv_X9_lay0 ml_RX9_181 ⟨_, _, rfl⟩ (hE.1 9 (by decide)) ⟨Nat.le_of_ble_eq_true rfl, Nat.le_of_ble_eq_true rfl⟩ ⟨rfl, rfl⟩ rfl rfl (Nat.le_of_ble_eq_true rfl) h (fun V23 h => ?_)
          refine r_iinc (x := x2) (v := (1 : Int32)) dX9_read_78 rfl (by decide) (by decide) ?_
          refine r_goto 17 dX9_read_81 (by decide) ?_
          exact Ev.loc [0, 1, 2] rfl h
        · have h := h.2 q
          refine r_iconst (v := (1 : Int32)) dX9_read_64 (by decide) ?_
          refine r_goto 69 dX9_read_65 (by decide) ?_
          obtain ⟨hb, h⟩ := h
          refine r_iast dX9_read_69 rfl (by decide) (hE.1 9 (by decide)) (ix hE (by decide) rfl hb) ?_
          refine r_iinc (x := x1) (v := (1 : Int32)) dX9_read_70 rfl (by decide) (by decide) ?_
          refine r_aload_n (v := .ref (eA E 9 0)) dX9_read_73 rfl (rl_ref _) ?_
          refine r_iload_n (x := (V 1030 0 (x2).toNatClampNeg)) dX9_read_74 rfl ?_
          refine r_cVv (As := [.int (V 1030 0 (x2).toNatClampNeg)]) (rest := []) dX9_read_75 mv_X9_lay0 ml_RX9_181 ⟨_, _, rfl⟩ (hE.1 9 (by decide)) ⟨Nat.le_of_ble_eq_true rfl, Nat.le_of_ble_eq_true rfl⟩ ⟨rfl, rfl⟩ rfl rfl (Nat.le_of_ble_eq_true rfl) h (fun V24 h => ?_)
          refine r_iinc (x := x2) (v := (1 : Int32)) dX9_read_78 rfl (by decide) (by decide) ?_
          refine r_goto 17 dX9_read_81 (by decide) ?_
          exact Ev.loc [0, 1, 2] rfl h
      · have h := h.2 q
        refine r_iload_n (x := x2) dX9_read_51 rfl ?_
        exact r_iret dX9_read_52 rfl ⟨Nat.le_of_ble_eq_true rfl, Nat.le_of_ble_eq_true rfl⟩ ⟨rfl, _, rfl, h⟩
    · have h := h.2 q
      refine r_iload_n (x := (V 1030 0 (x2).toNatClampNeg)) dX9_read_39 rfl ?_
      refine r_bipush (v := (33 : Int32)) dX9_read_40 (by decide) ?_
      refine r_icmp_ne 84 dX9_read_42 (by decide) (fun q => ?_) (fun q => ?_)
      · have h := h.1 q
        refine r_iload_n (x := (V 1030 0 (x2).toNatClampNeg)) dX9_read_84 rfl ?_
        refine r_bipush (v := (35 : Int32)) dX9_read_85 (by decide) ?_
        refine r_icmp_ne 191 dX9_read_87 (by decide) (fun q => ?_) (fun q => ?_)
        · have h := h.1 q
          refine r_iload_n (x := (V 1030 0 (x2).toNatClampNeg)) dX9_read_191 rfl ?_
          refine r_cSi (As := [.int (V 1030 0 (x2).toNatClampNeg)]) (rest := []) dX9_read_192 ms_X9_isDigit ml_RX9_185 ⟨Nat.le_of_ble_eq_true rfl, Nat.le_of_ble_eq_true rfl⟩ ⟨rfl, rfl⟩ rfl rfl (Nat.le_of_ble_eq_true rfl) h (fun x26 V25 h => ?_)
          refine r_if_eq 211 dX9_read_195 (by decide) (fun q => ?_) (fun q => ?_)
          · have h := h.1 q
            refine r_iload_n (x := (V 1030 0 (x2).toNatClampNeg)) dX9_read_211 rfl ?_
            refine r_cSi (As := [.int (V 1030 0 (x2).toNatClampNeg)]) (rest := []) dX9_read_212 ms_X9_isName ml_RX9_188 ⟨Nat.le_of_ble_eq_true rfl, Nat.le_of_ble_eq_true rfl⟩ ⟨rfl, rfl⟩ rfl rfl (Nat.le_of_ble_eq_true rfl) h (fun x28 V27 h => ?_)
            refine r_if_eq 226 dX9_read_215 (by decide) (fun q => ?_) (fun q => ?_)
            · have h := h.1 q
              refine r_iload_n (x := x2) dX9_read_226 rfl ?_
              exact r_iret dX9_read_227 rfl ⟨Nat.le_of_ble_eq_true rfl, Nat.le_of_ble_eq_true rfl⟩ ⟨rfl, _, rfl, h⟩
            · have h := h.2 q
              refine r_aload_n (v := .ref (eA E 9 0)) dX9_read_218 rfl (rl_ref _) ?_
              refine r_iload_n (x := (V 1030 0 (x2).toNatClampNeg)) dX9_read_219 rfl ?_
              refine r_cVv (As := [.int (V 1030 0 (x2).toNatClampNeg)]) (rest := []) dX9_read_220 mv_X9_lay0 ml_RX9_181 ⟨_, _, rfl⟩ (hE.1 9 (by decide)) ⟨Nat.le_of_ble_eq_true rfl, Nat.le_of_ble_eq_true rfl⟩ ⟨rfl, rfl⟩ rfl rfl (Nat.le_of_ble_eq_true rfl) h (fun V29 h => ?_)
              refine r_goto 228 dX9_read_223 (by decide) ?_
              refine r_iinc (x := x2) (v := (1 : Int32)) dX9_read_228 rfl (by decide) (by decide) ?_
              refine r_iload_n (x := x1) dX9_read_231 rfl ?_
              refine r_if_le 239 dX9_read_232 (by decide) (fun q => ?_) (fun q => ?_)
              · have h := h.1 q
                refine r_iconst (v := (0 : Int32)) dX9_read_239 (by decide) ?_
                refine r_istore dX9_read_240 (by decide) ?_
                exact Ev.loc [0, 1, 2, 4] rfl h
              · have h := h.2 q
                refine r_iconst (v := (1 : Int32)) dX9_read_235 (by decide) ?_
                refine r_goto 240 dX9_read_236 (by decide) ?_
                refine r_istore dX9_read_240 (by decide) ?_
                exact Ev.loc [0, 1, 2, 4] rfl h
          · have h := h.2 q
            refine r_aload_n (v := .ref (eA E 9 0)) dX9_read_198 rfl (rl_ref _) ?_
            refine r_iconst (v := (-1 : Int32)) dX9_read_199 (by decide) ?_
            refine r_iload_n (x := (V 1030 0 (x2).toNatClampNeg)) dX9_read_200 rfl ?_
            refine r_bipush (v := (48 : Int32)) dX9_read_201 (by decide) ?_
            refine r_isub dX9_read_203 ?_
            refine r_isub dX9_read_204 ?_
            refine r_cVv (As := [.int ((-1 : Int32) - ((V 1030 0 (x2).toNatClampNeg) - (48 : Int32)))]) (rest := []) dX9_read_205 mv_X9_lay0 ml_RX9_181 ⟨_, _, rfl⟩ (hE.1 9 (by decide)) ⟨Nat.le_of_ble_eq_true rfl, Nat.le_of_ble_eq_true rfl⟩ ⟨rfl, rfl⟩ rfl rfl (Nat.le_of_ble_eq_true rfl) h (fun V30 h => ?_)
            refine r_goto 228 dX9_read_208 (by decide) ?_
            refine r_iinc (x := x2) (v := (1 : Int32)) dX9_read_228 rfl (by decide) (by decide) ?_
            refine r_iload_n (x := x1) dX9_read_231 rfl ?_
            refine r_if_le 239 dX9_read_232 (by decide) (fun q => ?_) (fun q => ?_)
            · have h := h.1 q
              refine r_iconst (v := (0 : Int32)) dX9_read_239 (by decide) ?_
              refine r_istore dX9_read_240 (by decide) ?_
              exact Ev.loc [0, 1, 2, 4] rfl h
            · have h := h.2 q
              refine r_iconst (v := (1 : Int32)) dX9_read_235 (by decide) ?_
              refine r_goto 240 dX9_read_236 (by decide) ?_
              refine r_istore dX9_read_240 (by decide) ?_
              exact Ev.loc [0, 1, 2, 4] rfl h
        · have h := h.2 q
          refine r_iconst (v := (0 : Int32)) dX9_read_90 (by decide) ?_
          refine r_istore dX9_read_91 (by decide) ?_
          refine r_iconst (v := (0 : Int32)) dX9_read_93 (by decide) ?_
          refine r_istore dX9_read_94 (by decide) ?_
          refine r_iinc (x := x2) (v := (1 : Int32)) dX9_read_96 rfl (by decide) (by decide) ?_
          exact Ev.loc [0, 1, 2, 4, 5] rfl h
      · have h := h.2 q
        refine r_iload_n (x := x1) dX9_read_45 rfl ?_
        refine r_bipush (v := (20 : Int32)) dX9_read_46 (by decide) ?_
        refine r_icmp_ne 53 dX9_read_48 (by decide) (fun q => ?_) (fun q => ?_)
        · have h := h.1 q
          refine r_aload_n (v := .ref (eA E 9 0)) dX9_read_53 rfl (rl_ref _) ?_
          refine r_get (v := .ref (eA E 1036 0)) dX9_read_54 fl_RX9_91 (hE.1 9 (by decide)) rfl ?_
          refine r_iload_n (x := x1) dX9_read_57 rfl ?_
          refine r_iload_n (x := (V 1030 0 (x2).toNatClampNeg)) dX9_read_58 rfl ?_
          refine r_bipush (v := (33 : Int32)) dX9_read_59 (by decide) ?_
          refine r_icmp_ne 68 dX9_read_61 (by decide) (fun q => ?_) (fun q => ?_)
          · have h := h.1 q
            refine r_iconst (v := (2 : Int32)) dX9_read_68 (by decide) ?_
            obtain ⟨hb, h⟩ := h
            refine r_iast dX9_read_69 rfl (by decide) (hE.1 9 (by decide)) (ix hE (by decide) rfl hb) ?_
            refine r_iinc (x := x1) (v := (1 : Int32)) dX9_read_70 rfl (by decide) (by decide) ?_
            refine r_aload_n (v := .ref (eA E 9 0)) dX9_read_73 rfl (rl_ref _) ?_
            refine r_iload_n (x := (V 1030 0 (x2).toNatClampNeg)) dX9_read_74 rfl ?_
            refine r_cVv (As := [.int (V 1030 0 (x2).toNatClampNeg)]) (rest := []) dX9_read_75 mv_X9_lay0 ml_RX9_181 ⟨_, _, rfl⟩ (hE.1 9 (by decide)) ⟨Nat.le_of_ble_eq_true rfl, Nat.le_of_ble_eq_true rfl⟩ ⟨rfl, rfl⟩ rfl rfl (Nat.le_of_ble_eq_true rfl) h (fun V31 h => ?_)
            refine r_iinc (x := x2) (v := (1 : Int32)) dX9_read_78 rfl (by decide) (by decide) ?_
            refine r_goto 17 dX9_read_81 (by decide) ?_
            exact Ev.loc [0, 1, 2] rfl h
          · have h := h.2 q
            refine r_iconst (v := (1 : Int32)) dX9_read_64 (by decide) ?_
            refine r_goto 69 dX9_read_65 (by decide) ?_
            obtain ⟨hb, h⟩ := h
            refine r_iast dX9_read_69 rfl (by decide) (hE.1 9 (by decide)) (ix hE (by decide) rfl hb) ?_
            refine r_iinc (x := x1) (v := (1 : Int32)) dX9_read_70 rfl (by decide) (by decide) ?_
            refine r_aload_n (v := .ref (eA E 9 0)) dX9_read_73 rfl (rl_ref _) ?_
            refine r_iload_n (x := (V 1030 0 (x2).toNatClampNeg)) dX9_read_74 rfl ?_
            refine r_cVv (As := [.int (V 1030 0 (x2).toNatClampNeg)]) (rest := []) dX9_read_75 mv_X9_lay0 ml_RX9_181 ⟨_, _, rfl⟩ (hE.1 9 (by decide)) ⟨Nat.le_of_ble_eq_true rfl, Nat.le_of_ble_eq_true rfl⟩ ⟨rfl, rfl⟩ rfl rfl (Nat.le_of_ble_eq_true rfl) h (fun V32 h => ?_)
            refine r_iinc (x := x2) (v := (1 : Int32)) dX9_read_78 rfl (by decide) (by decide) ?_
            refine r_goto 17 dX9_read_81 (by decide) ?_
            exact Ev.loc [0, 1, 2] rfl h
        · have h := h.2 q
          refine r_iload_n (x := x2) dX9_read_51 rfl ?_
          exact r_iret dX9_read_52 rfl ⟨Nat.le_of_ble_eq_true rfl, Nat.le_of_ble_eq_true rfl⟩ ⟨rfl, _, rfl, h⟩
theorem ok_X9_read_242 {l : Launch} {G : Gt} {E : Et} {V : Vt} {x1 : Int32} {x2 : Int32} {x4 : Int32} {K : Int32 → Vt → Prop} (hE : Sg E)  (h : vc_X9_read_242 l G E V x1 x2 x4 K) : A_X9_read_242 l G E V x1 x2 x4 K := by
  unfold vc_X9_read_242 at h
  unfold A_X9_read_242
  refine r_iload (x := x4) dX9_read_242 rfl ?_
  refine r_if_eq 309 dX9_read_244 (by decide) (fun q => ?_) (fun q => ?_)
  · have h := h.1 q
    refine r_iload_n (x := x1) dX9_read_309 rfl ?_
    refine r_if_ne 327 dX9_read_310 (by decide) (fun q => ?_) (fun q => ?_)
    · have h := h.1 q
      refine r_goto 17 dX9_read_327 (by decide) ?_
      exact Ev.loc [0, 1, 2] rfl h
    · have h := h.2 q
      refine r_iload_n (x := x2) dX9_read_313 rfl ?_
      refine r_aload_n (v := .ref (eA E 9 0)) dX9_read_314 rfl (rl_ref _) ?_
      refine r_get (v := .int (V 1031 0 0)) dX9_read_315 fl_RX9_169 (hE.1 9 (by decide)) rfl ?_
      refine r_icmp_ne 325 dX9_read_318 (by decide) (fun q => ?_) (fun q => ?_)
      · have h := h.1 q
        refine r_iload_n (x := x2) dX9_read_325 rfl ?_
        exact r_iret dX9_read_326 rfl ⟨Nat.le_of_ble_eq_true rfl, Nat.le_of_ble_eq_true rfl⟩ ⟨rfl, _, rfl, h⟩
      · have h := h.2 q
        refine r_iconst (v := (-1 : Int32)) dX9_read_321 (by decide) ?_
        refine r_goto 326 dX9_read_322 (by decide) ?_
        exact r_iret dX9_read_326 rfl ⟨Nat.le_of_ble_eq_true rfl, Nat.le_of_ble_eq_true rfl⟩ ⟨rfl, _, rfl, h⟩
  · have h := h.2 q
    refine r_aload_n (v := .ref (eA E 9 0)) dX9_read_247 rfl (rl_ref _) ?_
    refine r_get (v := .ref (eA E 1036 0)) dX9_read_248 fl_RX9_91 (hE.1 9 (by decide)) rfl ?_
    refine r_iload_n (x := x1) dX9_read_251 rfl ?_
    refine r_iconst (v := (1 : Int32)) dX9_read_252 (by decide) ?_
    refine r_isub dX9_read_253 ?_
    refine r_dup2 dX9_read_254 rfl rfl ?_
    obtain ⟨hb, h⟩ := h
    refine r_iald dX9_read_255 rfl (by decide) (hE.1 9 (by decide)) (ix hE (by decide) rfl hb) ?_
    refine r_iconst (v := (1 : Int32)) dX9_read_256 (by decide) ?_
    refine r_isub dX9_read_257 ?_
    obtain ⟨hb, h⟩ := h
    refine r_iast dX9_read_258 rfl (by decide) (hE.1 9 (by decide)) (ix hE (by decide) rfl hb) ?_
    refine r_aload_n (v := .ref (eA E 9 0)) dX9_read_259 rfl (rl_ref _) ?_
    refine r_get (v := .ref (eA E 1036 0)) dX9_read_260 fl_RX9_91 (hE.1 9 (by decide)) rfl ?_
    refine r_iload_n (x := x1) dX9_read_263 rfl ?_
    refine r_iconst (v := (1 : Int32)) dX9_read_264 (by decide) ?_
    refine r_isub dX9_read_265 ?_
    obtain ⟨hb, h⟩ := h
    refine r_iald dX9_read_266 rfl (by decide) (hE.1 9 (by decide)) (ix hE (by decide) rfl hb) ?_
    refine r_if_ne 274 dX9_read_267 (by decide) (fun q => ?_) (fun q => ?_)
    · have h := h.1 q
      refine r_iconst (v := (0 : Int32)) dX9_read_274 (by decide) ?_
      refine r_istore dX9_read_275 (by decide) ?_
      refine r_iload_n (x := x1) dX9_read_277 rfl ?_
      refine r_iload (x := (0 : Int32)) dX9_read_278 rfl ?_
      refine r_if_eq 287 dX9_read_280 (by decide) (fun q => ?_) (fun q => ?_)
      · have h := h.1 q
        refine r_iconst (v := (0 : Int32)) dX9_read_287 (by decide) ?_
        refine r_isub dX9_read_288 ?_
        refine r_istore_n dX9_read_289 (by decide) ?_
        refine r_iload (x := (0 : Int32)) dX9_read_290 rfl ?_
        refine r_if_eq 303 dX9_read_292 (by decide) (fun q => ?_) (fun q => ?_)
        · have h := h.1 q
          refine r_iconst (v := (0 : Int32)) dX9_read_303 (by decide) ?_
          refine r_istore dX9_read_304 (by decide) ?_
          refine r_goto 242 dX9_read_306 (by decide) ?_
          exact Ev.loc [0, 1, 2, 3] rfl h
        · have h := h.2 q
          refine r_iload_n (x := (x1 - (0 : Int32))) dX9_read_295 rfl ?_
          refine r_if_le 303 dX9_read_296 (by decide) (fun q => ?_) (fun q => ?_)
          · have h := h.1 q
            refine r_iconst (v := (0 : Int32)) dX9_read_303 (by decide) ?_
            refine r_istore dX9_read_304 (by decide) ?_
            refine r_goto 242 dX9_read_306 (by decide) ?_
            exact Ev.loc [0, 1, 2, 3] rfl h
          · have h := h.2 q
            refine r_iconst (v := (1 : Int32)) dX9_read_299 (by decide) ?_
            refine r_goto 304 dX9_read_300 (by decide) ?_
            refine r_istore dX9_read_304 (by decide) ?_
            refine r_goto 242 dX9_read_306 (by decide) ?_
            exact Ev.loc [0, 1, 2, 3] rfl h
      · have h := h.2 q
        refine r_iconst (v := (1 : Int32)) dX9_read_283 (by decide) ?_
        refine r_goto 288 dX9_read_284 (by decide) ?_
        refine r_isub dX9_read_288 ?_
        refine r_istore_n dX9_read_289 (by decide) ?_
        refine r_iload (x := (0 : Int32)) dX9_read_290 rfl ?_
        refine r_if_eq 303 dX9_read_292 (by decide) (fun q => ?_) (fun q => ?_)
        · have h := h.1 q
          refine r_iconst (v := (0 : Int32)) dX9_read_303 (by decide) ?_
          refine r_istore dX9_read_304 (by decide) ?_
          refine r_goto 242 dX9_read_306 (by decide) ?_
          exact Ev.loc [0, 1, 2, 3] rfl h
        · have h := h.2 q
          refine r_iload_n (x := (x1 - (1 : Int32))) dX9_read_295 rfl ?_
          refine r_if_le 303 dX9_read_296 (by decide) (fun q => ?_) (fun q => ?_)
          · have h := h.1 q
            refine r_iconst (v := (0 : Int32)) dX9_read_303 (by decide) ?_
            refine r_istore dX9_read_304 (by decide) ?_
            refine r_goto 242 dX9_read_306 (by decide) ?_
            exact Ev.loc [0, 1, 2, 3] rfl h
          · have h := h.2 q
            refine r_iconst (v := (1 : Int32)) dX9_read_299 (by decide) ?_
            refine r_goto 304 dX9_read_300 (by decide) ?_
            refine r_istore dX9_read_304 (by decide) ?_
            refine r_goto 242 dX9_read_306 (by decide) ?_
            exact Ev.loc [0, 1, 2, 3] rfl h
    · have h := h.2 q
      refine r_iconst (v := (1 : Int32)) dX9_read_270 (by decide) ?_
      refine r_goto 275 dX9_read_271 (by decide) ?_
      refine r_istore dX9_read_275 (by decide) ?_
      refine r_iload_n (x := x1) dX9_read_277 rfl ?_
      refine r_iload (x := (1 : Int32)) dX9_read_278 rfl ?_
      refine r_if_eq 287 dX9_read_280 (by decide) (fun q => ?_) (fun q => ?_)
      · have h := h.1 q
        refine r_iconst (v := (0 : Int32)) dX9_read_287 (by decide) ?_
        refine r_isub dX9_read_288 ?_
        refine r_istore_n dX9_read_289 (by decide) ?_
        refine r_iload (x := (1 : Int32)) dX9_read_290 rfl ?_
        refine r_if_eq 303 dX9_read_292 (by decide) (fun q => ?_) (fun q => ?_)
        · have h := h.1 q
          refine r_iconst (v := (0 : Int32)) dX9_read_303 (by decide) ?_
          refine r_istore dX9_read_304 (by decide) ?_
          refine r_goto 242 dX9_read_306 (by decide) ?_
          exact Ev.loc [0, 1, 2, 3] rfl h
        · have h := h.2 q
          refine r_iload_n (x := (x1 - (0 : Int32))) dX9_read_295 rfl ?_
          refine r_if_le 303 dX9_read_296 (by decide) (fun q => ?_) (fun q => ?_)
          · have h := h.1 q
            refine r_iconst (v := (0 : Int32)) dX9_read_303 (by decide) ?_
            refine r_istore dX9_read_304 (by decide) ?_
            refine r_goto 242 dX9_read_306 (by decide) ?_
            exact Ev.loc [0, 1, 2, 3] rfl h
          · have h := h.2 q
            refine r_iconst (v := (1 : Int32)) dX9_read_299 (by decide) ?_
            refine r_goto 304 dX9_read_300 (by decide) ?_
            refine r_istore dX9_read_304 (by decide) ?_
            refine r_goto 242 dX9_read_306 (by decide) ?_
            exact Ev.loc [0, 1, 2, 3] rfl h
      · have h := h.2 q
        refine r_iconst (v := (1 : Int32)) dX9_read_283 (by decide) ?_
        refine r_goto 288 dX9_read_284 (by decide) ?_
        refine r_isub dX9_read_288 ?_
        refine r_istore_n dX9_read_289 (by decide) ?_
        refine r_iload (x := (1 : Int32)) dX9_read_290 rfl ?_
        refine r_if_eq 303 dX9_read_292 (by decide) (fun q => ?_) (fun q => ?_)
        · have h := h.1 q
          refine r_iconst (v := (0 : Int32)) dX9_read_303 (by decide) ?_
          refine r_istore dX9_read_304 (by decide) ?_
          refine r_goto 242 dX9_read_306 (by decide) ?_
          exact Ev.loc [0, 1, 2, 3] rfl h
        · have h := h.2 q
          refine r_iload_n (x := (x1 - (1 : Int32))) dX9_read_295 rfl ?_
          refine r_if_le 303 dX9_read_296 (by decide) (fun q => ?_) (fun q => ?_)
          · have h := h.1 q
            refine r_iconst (v := (0 : Int32)) dX9_read_303 (by decide) ?_
            refine r_istore dX9_read_304 (by decide) ?_
            refine r_goto 242 dX9_read_306 (by decide) ?_
            exact Ev.loc [0, 1, 2, 3] rfl h
          · have h := h.2 q
            refine r_iconst (v := (1 : Int32)) dX9_read_299 (by decide) ?_
            refine r_goto 304 dX9_read_300 (by decide) ?_
            refine r_istore dX9_read_304 (by decide) ?_
            refine r_goto 242 dX9_read_306 (by decide) ?_
            exact Ev.loc [0, 1, 2, 3] rfl h
theorem ok_X9_read_99 {l : Launch} {G : Gt} {E : Et} {V : Vt} {x1 : Int32} {x2 : Int32} {x4 : Int32} {x5 : Int32} {K : Int32 → Vt → Prop} (hE : Sg E)  (h : vc_X9_read_99 l G E V x1 x2 x4 x5 K) : A_X9_read_99 l G E V x1 x2 x4 x5 K := by
  unfold vc_X9_read_99 at h
  unfold A_X9_read_99
  refine r_iload_n (x := x2) dX9_read_99 rfl ?_
  refine r_aload_n (v := .ref (eA E 9 0)) dX9_read_100 rfl (rl_ref _) ?_
  refine r_get (v := .int (V 1031 0 0)) dX9_read_101 fl_RX9_169 (hE.1 9 (by decide)) rfl ?_
  refine r_icmp_ge 153 dX9_read_104 (by decide) (fun q => ?_) (fun q => ?_)
  · have h := h.1 q
    refine r_iload_n (x := x2) dX9_read_153 rfl ?_
    refine r_aload_n (v := .ref (eA E 9 0)) dX9_read_154 rfl (rl_ref _) ?_
    refine r_get (v := .int (V 1031 0 0)) dX9_read_155 fl_RX9_169 (hE.1 9 (by decide)) rfl ?_
    refine r_icmp_eq 178 dX9_read_158 (by decide) (fun q => ?_) (fun q => ?_)
    · have h := h.1 q
      refine r_iload_n (x := x2) dX9_read_178 rfl ?_
      exact r_iret dX9_read_179 rfl ⟨Nat.le_of_ble_eq_true rfl, Nat.le_of_ble_eq_true rfl⟩ ⟨rfl, _, rfl, h⟩
    · have h := h.2 q
      refine r_iload (x := x4) dX9_read_161 rfl ?_
      refine r_iconst (v := (2 : Int32)) dX9_read_163 (by decide) ?_
      refine r_icmp_lt 178 dX9_read_164 (by decide) (fun q => ?_) (fun q => ?_)
      · have h := h.1 q
        refine r_iload_n (x := x2) dX9_read_178 rfl ?_
        exact r_iret dX9_read_179 rfl ⟨Nat.le_of_ble_eq_true rfl, Nat.le_of_ble_eq_true rfl⟩ ⟨rfl, _, rfl, h⟩
      · have h := h.2 q
        refine r_aload_n (v := .ref (eA E 9 0)) dX9_read_167 rfl (rl_ref _) ?_
        refine r_get (v := .ref (eA E 1030 0)) dX9_read_168 fl_RX9_81 (hE.1 9 (by decide)) rfl ?_
        refine r_iload_n (x := x2) dX9_read_171 rfl ?_
        obtain ⟨hb, h⟩ := h
        refine r_bald dX9_read_172 rfl (by decide) (hE.1 9 (by decide)) (ix hE (by decide) rfl hb) ?_
        refine r_bipush (v := (32 : Int32)) dX9_read_173 (by decide) ?_
        refine r_icmp_eq 180 dX9_read_175 (by decide) (fun q => ?_) (fun q => ?_)
        · have h := h.1 q
          refine r_aload_n (v := .ref (eA E 9 0)) dX9_read_180 rfl (rl_ref _) ?_
          refine r_iconst (v := (-1 : Int32)) dX9_read_181 (by decide) ?_
          refine r_iload (x := x5) dX9_read_182 rfl ?_
          refine r_isub dX9_read_184 ?_
          refine r_cVv (As := [.int ((-1 : Int32) - x5)]) (rest := []) dX9_read_185 mv_X9_lay0 ml_RX9_181 ⟨_, _, rfl⟩ (hE.1 9 (by decide)) ⟨Nat.le_of_ble_eq_true rfl, Nat.le_of_ble_eq_true rfl⟩ ⟨rfl, rfl⟩ rfl rfl (Nat.le_of_ble_eq_true rfl) h (fun V33 h => ?_)
          refine r_goto 228 dX9_read_188 (by decide) ?_
          refine r_iinc (x := x2) (v := (1 : Int32)) dX9_read_228 rfl (by decide) (by decide) ?_
          refine r_iload_n (x := x1) dX9_read_231 rfl ?_
          refine r_if_le 239 dX9_read_232 (by decide) (fun q => ?_) (fun q => ?_)
          · have h := h.1 q
            refine r_iconst (v := (0 : Int32)) dX9_read_239 (by decide) ?_
            refine r_istore dX9_read_240 (by decide) ?_
            exact Ev.loc [0, 1, 2, 3] rfl h
          · have h := h.2 q
            refine r_iconst (v := (1 : Int32)) dX9_read_235 (by decide) ?_
            refine r_goto 240 dX9_read_236 (by decide) ?_
            refine r_istore dX9_read_240 (by decide) ?_
            exact Ev.loc [0, 1, 2, 3] rfl h
        · have h := h.2 q
          refine r_iload_n (x := x2) dX9_read_178 rfl ?_
          exact r_iret dX9_read_179 rfl ⟨Nat.le_of_ble_eq_true rfl, Nat.le_of_ble_eq_true rfl⟩ ⟨rfl, _, rfl, h⟩
  · have h := h.2 q
    refine r_aload_n (v := .ref (eA E 9 0)) dX9_read_107 rfl (rl_ref _) ?_
    refine r_get (v := .ref (eA E 1030 0)) dX9_read_108 fl_RX9_81 (hE.1 9 (by decide)) rfl ?_
    refine r_iload_n (x := x2) dX9_read_111 rfl ?_
    obtain ⟨hb, h⟩ := h
    refine r_bald dX9_read_112 rfl (by decide) (hE.1 9 (by decide)) (ix hE (by decide) rfl hb) ?_
    refine r_cSi (As := [.int (V 1030 0 (x2).toNatClampNeg)]) (rest := []) dX9_read_113 ms_X9_isDigit ml_RX9_185 ⟨Nat.le_of_ble_eq_true rfl, Nat.le_of_ble_eq_true rfl⟩ ⟨rfl, rfl⟩ rfl rfl (Nat.le_of_ble_eq_true rfl) h (fun x35 V34 h => ?_)
    refine r_if_eq 153 dX9_read_116 (by decide) (fun q => ?_) (fun q => ?_)
    · have h := h.1 q
      refine r_iload_n (x := x2) dX9_read_153 rfl ?_
      refine r_aload_n (v := .ref (eA E 9 0)) dX9_read_154 rfl (rl_ref _) ?_
      refine r_get (v := .int (V34 1031 0 0)) dX9_read_155 fl_RX9_169 (hE.1 9 (by decide)) rfl ?_
      refine r_icmp_eq 178 dX9_read_158 (by decide) (fun q => ?_) (fun q => ?_)
      · have h := h.1 q
        refine r_iload_n (x := x2) dX9_read_178 rfl ?_
        exact r_iret dX9_read_179 rfl ⟨Nat.le_of_ble_eq_true rfl, Nat.le_of_ble_eq_true rfl⟩ ⟨rfl, _, rfl, h⟩
      · have h := h.2 q
        refine r_iload (x := x4) dX9_read_161 rfl ?_
        refine r_iconst (v := (2 : Int32)) dX9_read_163 (by decide) ?_
        refine r_icmp_lt 178 dX9_read_164 (by decide) (fun q => ?_) (fun q => ?_)
        · have h := h.1 q
          refine r_iload_n (x := x2) dX9_read_178 rfl ?_
          exact r_iret dX9_read_179 rfl ⟨Nat.le_of_ble_eq_true rfl, Nat.le_of_ble_eq_true rfl⟩ ⟨rfl, _, rfl, h⟩
        · have h := h.2 q
          refine r_aload_n (v := .ref (eA E 9 0)) dX9_read_167 rfl (rl_ref _) ?_
          refine r_get (v := .ref (eA E 1030 0)) dX9_read_168 fl_RX9_81 (hE.1 9 (by decide)) rfl ?_
          refine r_iload_n (x := x2) dX9_read_171 rfl ?_
          obtain ⟨hb, h⟩ := h
          refine r_bald dX9_read_172 rfl (by decide) (hE.1 9 (by decide)) (ix hE (by decide) rfl hb) ?_
          refine r_bipush (v := (32 : Int32)) dX9_read_173 (by decide) ?_
          refine r_icmp_eq 180 dX9_read_175 (by decide) (fun q => ?_) (fun q => ?_)
          · have h := h.1 q
            refine r_aload_n (v := .ref (eA E 9 0)) dX9_read_180 rfl (rl_ref _) ?_
            refine r_iconst (v := (-1 : Int32)) dX9_read_181 (by decide) ?_
            refine r_iload (x := x5) dX9_read_182 rfl ?_
            refine r_isub dX9_read_184 ?_
            refine r_cVv (As := [.int ((-1 : Int32) - x5)]) (rest := []) dX9_read_185 mv_X9_lay0 ml_RX9_181 ⟨_, _, rfl⟩ (hE.1 9 (by decide)) ⟨Nat.le_of_ble_eq_true rfl, Nat.le_of_ble_eq_true rfl⟩ ⟨rfl, rfl⟩ rfl rfl (Nat.le_of_ble_eq_true rfl) h (fun V36 h => ?_)
            refine r_goto 228 dX9_read_188 (by decide) ?_
            refine r_iinc (x := x2) (v := (1 : Int32)) dX9_read_228 rfl (by decide) (by decide) ?_
            refine r_iload_n (x := x1) dX9_read_231 rfl ?_
            refine r_if_le 239 dX9_read_232 (by decide) (fun q => ?_) (fun q => ?_)
            · have h := h.1 q
              refine r_iconst (v := (0 : Int32)) dX9_read_239 (by decide) ?_
              refine r_istore dX9_read_240 (by decide) ?_
              exact Ev.loc [0, 1, 2, 3] rfl h
            · have h := h.2 q
              refine r_iconst (v := (1 : Int32)) dX9_read_235 (by decide) ?_
              refine r_goto 240 dX9_read_236 (by decide) ?_
              refine r_istore dX9_read_240 (by decide) ?_
              exact Ev.loc [0, 1, 2, 3] rfl h
          · have h := h.2 q
            refine r_iload_n (x := x2) dX9_read_178 rfl ?_
            exact r_iret dX9_read_179 rfl ⟨Nat.le_of_ble_eq_true rfl, Nat.le_of_ble_eq_true rfl⟩ ⟨rfl, _, rfl, h⟩
    · have h := h.2 q
      refine r_iload (x := x4) dX9_read_119 rfl ?_
      refine r_iconst (v := (5 : Int32)) dX9_read_121 (by decide) ?_
      refine r_icmp_ne 127 dX9_read_122 (by decide) (fun q => ?_) (fun q => ?_)
      · have h := h.1 q
        refine r_bipush (v := (10 : Int32)) dX9_read_127 (by decide) ?_
        refine r_iload (x := x5) dX9_read_129 rfl ?_
        refine r_imul dX9_read_131 ?_
        refine r_aload_n (v := .ref (eA E 9 0)) dX9_read_132 rfl (rl_ref _) ?_
        refine r_get (v := .ref (eA E 1030 0)) dX9_read_133 fl_RX9_81 (hE.1 9 (by decide)) rfl ?_
        refine r_iload_n (x := x2) dX9_read_136 rfl ?_
        obtain ⟨hb, h⟩ := h
        refine r_bald dX9_read_137 rfl (by decide) (hE.1 9 (by decide)) (ix hE (by decide) rfl hb) ?_
        refine r_iadd dX9_read_138 ?_
        refine r_bipush (v := (48 : Int32)) dX9_read_139 (by decide) ?_
        refine r_isub dX9_read_141 ?_
        refine r_istore dX9_read_142 (by decide) ?_
        refine r_iinc (x := x4) (v := (1 : Int32)) dX9_read_144 rfl (by decide) (by decide) ?_
        refine r_iinc (x := x2) (v := (1 : Int32)) dX9_read_147 rfl (by decide) (by decide) ?_
        refine r_goto 99 dX9_read_150 (by decide) ?_
        exact Ev.loc [0, 1, 2, 3, 4] rfl h
      · have h := h.2 q
        refine r_iload_n (x := x2) dX9_read_125 rfl ?_
        exact r_iret dX9_read_126 rfl ⟨Nat.le_of_ble_eq_true rfl, Nat.le_of_ble_eq_true rfl⟩ ⟨rfl, _, rfl, h⟩
abbrev rm_X9_keep : Room := { frames := 0, cells := 0, slots := 0, locals := 0 }
def C_X9_keep (l : Launch) (G : Gt) (E : Et) (V : Vt)  (K : Int32 → Vt → Prop) : Prop := Cl l G yX9_keep cX9_keep 1 (some .int) rm_X9_keep E V [.ref (eA E 9 0)] (Qi E K)
def vc_X9_keep (l : Launch) (G : Gt) (E : Et) (V : Vt)  (K : Int32 → Vt → Prop) : Prop := (vp_in ((up3 V 1032 0 0 ((V 1032 0 0) + (1 : Int32))) 1032 0 0) 51) ∧ K (((up3 (up3 (up3 V 1032 0 0 ((V 1032 0 0) + (1 : Int32))) 1033 0 (((up3 V 1032 0 0 ((V 1032 0 0) + (1 : Int32))) 1032 0 0)).toNatClampNeg ((up3 V 1032 0 0 ((V 1032 0 0) + (1 : Int32))) 1035 0 0)) 1031 0 0 (0 : Int32)) 1032 0 0) - (1 : Int32)) (up3 (up3 (up3 V 1032 0 0 ((V 1032 0 0) + (1 : Int32))) 1033 0 (((up3 V 1032 0 0 ((V 1032 0 0) + (1 : Int32))) 1032 0 0)).toNatClampNeg ((up3 V 1032 0 0 ((V 1032 0 0) + (1 : Int32))) 1035 0 0)) 1031 0 0 (0 : Int32))
theorem ok_X9_keep {l : Launch} {G : Gt} {E : Et} {V : Vt}  {K : Int32 → Vt → Prop} (hE : Sg E)  (h : vc_X9_keep l G E V  K) : C_X9_keep l G E V  K := by
  unfold vc_X9_keep at h
  refine Cl.of (by decide +kernel) (Nat.le_of_ble_eq_true rfl) (show Ev l G RX9 cX9_keep 1 (some .int) rm_X9_keep E 0 0 V 0 [(0, .ref (eA E 9 0))] [] (Qi E K) from ?_)
  refine r_aload_n (v := .ref (eA E 9 0)) dX9_keep_0 rfl (rl_ref _) ?_
  refine r_dup dX9_keep_1 rfl ?_
  refine r_get (v := .int (V 1032 0 0)) dX9_keep_2 fl_RX9_175 (hE.1 9 (by decide)) rfl ?_
  refine r_iconst (v := (1 : Int32)) dX9_keep_5 (by decide) ?_
  refine r_iadd dX9_keep_6 ?_
  refine r_put dX9_keep_7 fp_RX9_175 rfl (hE.1 9 (by decide)) rfl rfl ?_
  refine r_aload_n (v := .ref (eA E 9 0)) dX9_keep_10 rfl (rl_ref _) ?_
  refine r_get (v := .ref (eA E 1033 0)) dX9_keep_11 fl_RX9_85 (hE.1 9 (by decide)) rfl ?_
  refine r_aload_n (v := .ref (eA E 9 0)) dX9_keep_14 rfl (rl_ref _) ?_
  refine r_get (v := .int ((up3 V 1032 0 0 ((V 1032 0 0) + (1 : Int32))) 1032 0 0)) dX9_keep_15 fl_RX9_175 (hE.1 9 (by decide)) rfl ?_
  refine r_aload_n (v := .ref (eA E 9 0)) dX9_keep_18 rfl (rl_ref _) ?_
  refine r_get (v := .int ((up3 V 1032 0 0 ((V 1032 0 0) + (1 : Int32))) 1035 0 0)) dX9_keep_19 fl_RX9_172 (hE.1 9 (by decide)) rfl ?_
  obtain ⟨hb, h⟩ := h
  refine r_iast dX9_keep_22 rfl (by decide) (hE.1 9 (by decide)) (ix hE (by decide) rfl hb) ?_
  refine r_aload_n (v := .ref (eA E 9 0)) dX9_keep_23 rfl (rl_ref _) ?_
  refine r_iconst (v := (0 : Int32)) dX9_keep_24 (by decide) ?_
  refine r_put dX9_keep_25 fp_RX9_169 rfl (hE.1 9 (by decide)) rfl rfl ?_
  refine r_aload_n (v := .ref (eA E 9 0)) dX9_keep_28 rfl (rl_ref _) ?_
  refine r_get (v := .int ((up3 (up3 (up3 V 1032 0 0 ((V 1032 0 0) + (1 : Int32))) 1033 0 (((up3 V 1032 0 0 ((V 1032 0 0) + (1 : Int32))) 1032 0 0)).toNatClampNeg ((up3 V 1032 0 0 ((V 1032 0 0) + (1 : Int32))) 1035 0 0)) 1031 0 0 (0 : Int32)) 1032 0 0)) dX9_keep_29 fl_RX9_175 (hE.1 9 (by decide)) rfl ?_
  refine r_iconst (v := (1 : Int32)) dX9_keep_32 (by decide) ?_
  refine r_isub dX9_keep_33 ?_
  exact r_iret dX9_keep_34 rfl ⟨Nat.le_of_ble_eq_true rfl, Nat.le_of_ble_eq_true rfl⟩ ⟨rfl, _, rfl, h⟩
abbrev rm_X9_isFrost : Room := { frames := 0, cells := 0, slots := 0, locals := 0 }
def C_X9_isFrost (l : Launch) (G : Gt) (E : Et) (V : Vt) (x1 : Int32) (K : Int32 → Vt → Prop) : Prop := Cl l G yX9_isFrost cX9_isFrost 2 (some .boolean) rm_X9_isFrost E V [.ref (eA E 9 0), .int x1] (Qi E K)
def vc_X9_isFrost (l : Launch) (G : Gt) (E : Et) (V : Vt) (x1 : Int32) (K : Int32 → Vt → Prop) : Prop := (((((V 1021 0 0) >>> ((x1 - x1 / (12 : Int32) * (12 : Int32)) &&& 31)) &&& (1 : Int32)) = (1 : Int32) → K (1 : Int32) V) ∧ (¬ (((V 1021 0 0) >>> ((x1 - x1 / (12 : Int32) * (12 : Int32)) &&& 31)) &&& (1 : Int32)) = (1 : Int32) → (vp_in x1 1201) ∧ (((V 1022 0 (x1).toNatClampNeg) = (0 : Int32) → K (0 : Int32) V) ∧ (¬ (V 1022 0 (x1).toNatClampNeg) = (0 : Int32) → K (1 : Int32) V))))
theorem ok_X9_isFrost {l : Launch} {G : Gt} {E : Et} {V : Vt} {x1 : Int32} {K : Int32 → Vt → Prop} (hE : Sg E)  (h : vc_X9_isFrost l G E V x1 K) : C_X9_isFrost l G E V x1 K := by
  unfold vc_X9_isFrost at h
  refine Cl.of (by decide +kernel) (Nat.le_of_ble_eq_true rfl) (show Ev l G RX9 cX9_isFrost 2 (some .boolean) rm_X9_isFrost E 0 0 V 0 [(0, .ref (eA E 9 0)), (1, .int x1)] [] (Qi E K) from ?_)
  refine r_aload_n (v := .ref (eA E 9 0)) dX9_isFrost_0 rfl (rl_ref _) ?_
  refine r_get (v := .int (V 1021 0 0)) dX9_isFrost_1 fl_RX9_191 (hE.1 9 (by decide)) rfl ?_
  refine r_iload_n (x := x1) dX9_isFrost_4 rfl ?_
  refine r_bipush (v := (12 : Int32)) dX9_isFrost_5 (by decide) ?_
  refine r_irem dX9_isFrost_7 (by decide) ?_
  refine r_ishr dX9_isFrost_8 ?_
  refine r_iconst (v := (1 : Int32)) dX9_isFrost_9 (by decide) ?_
  refine r_iand dX9_isFrost_10 ?_
  refine r_iconst (v := (1 : Int32)) dX9_isFrost_11 (by decide) ?_
  refine r_icmp_eq 24 dX9_isFrost_12 (by decide) (fun q => ?_) (fun q => ?_)
  · have h := h.1 q
    refine r_iconst (v := (1 : Int32)) dX9_isFrost_24 (by decide) ?_
    refine r_goto 29 dX9_isFrost_25 (by decide) ?_
    exact r_zret dX9_isFrost_29 rfl rfl ⟨Nat.le_of_ble_eq_true rfl, Nat.le_of_ble_eq_true rfl⟩ ⟨rfl, _, rfl, h⟩
  · have h := h.2 q
    refine r_aload_n (v := .ref (eA E 9 0)) dX9_isFrost_15 rfl (rl_ref _) ?_
    refine r_get (v := .ref (eA E 1022 0)) dX9_isFrost_16 fl_RX9_59 (hE.1 9 (by decide)) rfl ?_
    refine r_iload_n (x := x1) dX9_isFrost_19 rfl ?_
    obtain ⟨hb, h⟩ := h
    refine r_zald dX9_isFrost_20 rfl (by decide) (hE.1 9 (by decide)) (ix hE (by decide) rfl hb) ?_
    refine r_if_eq 28 dX9_isFrost_21 (by decide) (fun q => ?_) (fun q => ?_)
    · have h := h.1 q
      refine r_iconst (v := (0 : Int32)) dX9_isFrost_28 (by decide) ?_
      exact r_zret dX9_isFrost_29 rfl rfl ⟨Nat.le_of_ble_eq_true rfl, Nat.le_of_ble_eq_true rfl⟩ ⟨rfl, _, rfl, h⟩
    · have h := h.2 q
      refine r_iconst (v := (1 : Int32)) dX9_isFrost_24 (by decide) ?_
      refine r_goto 29 dX9_isFrost_25 (by decide) ?_
      exact r_zret dX9_isFrost_29 rfl rfl ⟨Nat.le_of_ble_eq_true rfl, Nat.le_of_ble_eq_true rfl⟩ ⟨rfl, _, rfl, h⟩
abbrev rm_X9_named : Room := { frames := 1, cells := 0, slots := 0, locals := 21 }
def C_X9_named (l : Launch) (G : Gt) (E : Et) (V : Vt) (x1 : Int32) (x2 : Int32) (K : Int32 → Vt → Prop) : Prop := Cl l G yX9_named cX9_named 3 (some .int) rm_X9_named E V [.ref (eA E 9 0), .int x1, .int x2] (Qi E K)
def vc_X9_named (l : Launch) (G : Gt) (E : Et) (V : Vt) (x1 : Int32) (x2 : Int32) (K : Int32 → Vt → Prop) : Prop := ((x1 = (102 : Int32) → (C_X9_isFrost l G E V (V 1018 0 0) (fun x22 V21 => ((x22 = (0 : Int32) → K (0 : Int32) V21) ∧ (¬ x22 = (0 : Int32) → K (1 : Int32) V21))))) ∧ (x1 = (107 : Int32) → (((0 : Int32) ≤ x2 → (vp_in x2 40) ∧ K (V 1002 0 (x2).toNatClampNeg) V) ∧ (¬ (0 : Int32) ≤ x2 → K (0 : Int32) V))) ∧ (x1 = (109 : Int32) → K ((V 1018 0 0) - (V 1018 0 0) / (12 : Int32) * (12 : Int32)) V) ∧ (x1 = (110 : Int32) → (((0 : Int32) ≤ x2 → (vp_in x2 40) ∧ K (V 1012 0 (x2).toNatClampNeg) V) ∧ (¬ (0 : Int32) ≤ x2 → K (0 : Int32) V))) ∧ (x1 = (112 : Int32) → (((0 : Int32) ≤ x2 → K x2 V) ∧ (¬ (0 : Int32) ≤ x2 → K (0 : Int32) V))) ∧ (x1 = (119 : Int32) → (((0 : Int32) ≤ x2 → (vp_in x2 40) ∧ K (V 1003 0 (x2).toNatClampNeg) V) ∧ (¬ (0 : Int32) ≤ x2 → K (0 : Int32) V))) ∧ (x1 = (121 : Int32) → K ((V 1018 0 0) / (12 : Int32)) V) ∧ (¬ x1 = (102 : Int32) ∧ ¬ x1 = (107 : Int32) ∧ ¬ x1 = (109 : Int32) ∧ ¬ x1 = (110 : Int32) ∧ ¬ x1 = (112 : Int32) ∧ ¬ x1 = (119 : Int32) ∧ ¬ x1 = (121 : Int32) → K (V 1019 0 0) V))
theorem ok_X9_named {l : Launch} {G : Gt} {E : Et} {V : Vt} {x1 : Int32} {x2 : Int32} {K : Int32 → Vt → Prop} (hE : Sg E)  (h : vc_X9_named l G E V x1 x2 K) : C_X9_named l G E V x1 x2 K := by
  unfold vc_X9_named at h
  refine Cl.of (by decide +kernel) (Nat.le_of_ble_eq_true rfl) (show Ev l G RX9 cX9_named 3 (some .int) rm_X9_named E 0 0 V 0 [(0, .ref (eA E 9 0)), (1, .int x1), (2, .int x2)] [] (Qi E K) from ?_)
  refine r_iload_n (x := x1) dX9_named_0 rfl ?_
  by_cases q102 : x1 = (102 : Int32)
  · have h := h.1 q102
    refine r_tIn (xv := (102 : Int32)) 167 dX9_named_1 q102 (by decide) (by decide) rfl (by decide) ?_
    refine r_aload_n (v := .ref (eA E 9 0)) dX9_named_167 rfl (rl_ref _) ?_
    refine r_aload_n (v := .ref (eA E 9 0)) dX9_named_168 rfl (rl_ref _) ?_
    refine r_get (v := .int (V 1018 0 0)) dX9_named_169 fl_RX9_194 (hE.1 9 (by decide)) rfl ?_
    refine r_cVi (As := [.int (V 1018 0 0)]) (rest := []) dX9_named_172 mv_X9_isFrost ml_RX9_197 ⟨_, _, rfl⟩ (hE.1 9 (by decide)) ⟨Nat.le_of_ble_eq_true rfl, Nat.le_of_ble_eq_true rfl⟩ ⟨rfl, rfl⟩ rfl rfl (Nat.le_of_ble_eq_true rfl) h (fun x22 V21 h => ?_)
    refine r_if_eq 182 dX9_named_175 (by decide) (fun q => ?_) (fun q => ?_)
    · have h := h.1 q
      refine r_iconst (v := (0 : Int32)) dX9_named_182 (by decide) ?_
      exact r_iret dX9_named_183 rfl ⟨Nat.le_of_ble_eq_true rfl, Nat.le_of_ble_eq_true rfl⟩ ⟨rfl, _, rfl, h⟩
    · have h := h.2 q
      refine r_iconst (v := (1 : Int32)) dX9_named_178 (by decide) ?_
      refine r_goto 183 dX9_named_179 (by decide) ?_
      exact r_iret dX9_named_183 rfl ⟨Nat.le_of_ble_eq_true rfl, Nat.le_of_ble_eq_true rfl⟩ ⟨rfl, _, rfl, h⟩
  by_cases q107 : x1 = (107 : Int32)
  · have h := h.2.1 q107
    refine r_tIn (xv := (107 : Int32)) 106 dX9_named_1 q107 (by decide) (by decide) rfl (by decide) ?_
    refine r_iload_n (x := x2) dX9_named_106 rfl ?_
    refine r_if_ge 114 dX9_named_107 (by decide) (fun q => ?_) (fun q => ?_)
    · have h := h.1 q
      refine r_aload_n (v := .ref (eA E 9 0)) dX9_named_114 rfl (rl_ref _) ?_
      refine r_get (v := .ref (eA E 1002 0)) dX9_named_115 fl_RX9_7 (hE.1 9 (by decide)) rfl ?_
      refine r_iload_n (x := x2) dX9_named_118 rfl ?_
      obtain ⟨hb, h⟩ := h
      refine r_iald dX9_named_119 rfl (by decide) (hE.1 9 (by decide)) (ix hE (by decide) rfl hb) ?_
      exact r_iret dX9_named_120 rfl ⟨Nat.le_of_ble_eq_true rfl, Nat.le_of_ble_eq_true rfl⟩ ⟨rfl, _, rfl, h⟩
    · have h := h.2 q
      refine r_iconst (v := (0 : Int32)) dX9_named_110 (by decide) ?_
      refine r_goto 120 dX9_named_111 (by decide) ?_
      exact r_iret dX9_named_120 rfl ⟨Nat.le_of_ble_eq_true rfl, Nat.le_of_ble_eq_true rfl⟩ ⟨rfl, _, rfl, h⟩
  by_cases q109 : x1 = (109 : Int32)
  · have h := h.2.2.1 q109
    refine r_tIn (xv := (109 : Int32)) 151 dX9_named_1 q109 (by decide) (by decide) rfl (by decide) ?_
    refine r_aload_n (v := .ref (eA E 9 0)) dX9_named_151 rfl (rl_ref _) ?_
    refine r_get (v := .int (V 1018 0 0)) dX9_named_152 fl_RX9_194 (hE.1 9 (by decide)) rfl ?_
    refine r_bipush (v := (12 : Int32)) dX9_named_155 (by decide) ?_
    refine r_irem dX9_named_157 (by decide) ?_
    exact r_iret dX9_named_158 rfl ⟨Nat.le_of_ble_eq_true rfl, Nat.le_of_ble_eq_true rfl⟩ ⟨rfl, _, rfl, h⟩
  by_cases q110 : x1 = (110 : Int32)
  · have h := h.2.2.2.1 q110
    refine r_tIn (xv := (110 : Int32)) 121 dX9_named_1 q110 (by decide) (by decide) rfl (by decide) ?_
    refine r_iload_n (x := x2) dX9_named_121 rfl ?_
    refine r_if_ge 129 dX9_named_122 (by decide) (fun q => ?_) (fun q => ?_)
    · have h := h.1 q
      refine r_aload_n (v := .ref (eA E 9 0)) dX9_named_129 rfl (rl_ref _) ?_
      refine r_get (v := .ref (eA E 1012 0)) dX9_named_130 fl_RX9_40 (hE.1 9 (by decide)) rfl ?_
      refine r_iload_n (x := x2) dX9_named_133 rfl ?_
      obtain ⟨hb, h⟩ := h
      refine r_iald dX9_named_134 rfl (by decide) (hE.1 9 (by decide)) (ix hE (by decide) rfl hb) ?_
      exact r_iret dX9_named_135 rfl ⟨Nat.le_of_ble_eq_true rfl, Nat.le_of_ble_eq_true rfl⟩ ⟨rfl, _, rfl, h⟩
    · have h := h.2 q
      refine r_iconst (v := (0 : Int32)) dX9_named_125 (by decide) ?_
      refine r_goto 135 dX9_named_126 (by decide) ?_
      exact r_iret dX9_named_135 rfl ⟨Nat.le_of_ble_eq_true rfl, Nat.le_of_ble_eq_true rfl⟩ ⟨rfl, _, rfl, h⟩
  by_cases q112 : x1 = (112 : Int32)
  · have h := h.2.2.2.2.1 q112
    refine r_tIn (xv := (112 : Int32)) 96 dX9_named_1 q112 (by decide) (by decide) rfl (by decide) ?_
    refine r_iload_n (x := x2) dX9_named_96 rfl ?_
    refine r_if_ge 104 dX9_named_97 (by decide) (fun q => ?_) (fun q => ?_)
    · have h := h.1 q
      refine r_iload_n (x := x2) dX9_named_104 rfl ?_
      exact r_iret dX9_named_105 rfl ⟨Nat.le_of_ble_eq_true rfl, Nat.le_of_ble_eq_true rfl⟩ ⟨rfl, _, rfl, h⟩
    · have h := h.2 q
      refine r_iconst (v := (0 : Int32)) dX9_named_100 (by decide) ?_
      refine r_goto 105 dX9_named_101 (by decide) ?_
      exact r_iret dX9_named_105 rfl ⟨Nat.le_of_ble_eq_true rfl, Nat.le_of_ble_eq_true rfl⟩ ⟨rfl, _, rfl, h⟩
  by_cases q119 : x1 = (119 : Int32)
  · have h := h.2.2.2.2.2.1 q119
    refine r_tIn (xv := (119 : Int32)) 136 dX9_named_1 q119 (by decide) (by decide) rfl (by decide) ?_
    refine r_iload_n (x := x2) dX9_named_136 rfl ?_
    refine r_if_ge 144 dX9_named_137 (by decide) (fun q => ?_) (fun q => ?_)
    · have h := h.1 q
      refine r_aload_n (v := .ref (eA E 9 0)) dX9_named_144 rfl (rl_ref _) ?_
      refine r_get (v := .ref (eA E 1003 0)) dX9_named_145 fl_RX9_13 (hE.1 9 (by decide)) rfl ?_
      refine r_iload_n (x := x2) dX9_named_148 rfl ?_
      obtain ⟨hb, h⟩ := h
      refine r_iald dX9_named_149 rfl (by decide) (hE.1 9 (by decide)) (ix hE (by decide) rfl hb) ?_
      exact r_iret dX9_named_150 rfl ⟨Nat.le_of_ble_eq_true rfl, Nat.le_of_ble_eq_true rfl⟩ ⟨rfl, _, rfl, h⟩
    · have h := h.2 q
      refine r_iconst (v := (0 : Int32)) dX9_named_140 (by decide) ?_
      refine r_goto 150 dX9_named_141 (by decide) ?_
      exact r_iret dX9_named_150 rfl ⟨Nat.le_of_ble_eq_true rfl, Nat.le_of_ble_eq_true rfl⟩ ⟨rfl, _, rfl, h⟩
  by_cases q121 : x1 = (121 : Int32)
  · have h := h.2.2.2.2.2.2.1 q121
    refine r_tIn (xv := (121 : Int32)) 159 dX9_named_1 q121 (by decide) (by decide) rfl (by decide) ?_
    refine r_aload_n (v := .ref (eA E 9 0)) dX9_named_159 rfl (rl_ref _) ?_
    refine r_get (v := .int (V 1018 0 0)) dX9_named_160 fl_RX9_194 (hE.1 9 (by decide)) rfl ?_
    refine r_bipush (v := (12 : Int32)) dX9_named_163 (by decide) ?_
    refine r_idiv dX9_named_165 (by decide) ?_
    exact r_iret dX9_named_166 rfl ⟨Nat.le_of_ble_eq_true rfl, Nat.le_of_ble_eq_true rfl⟩ ⟨rfl, _, rfl, h⟩
  by_cases q103 : x1 = (103 : Int32)
  · have h := h.2.2.2.2.2.2.2 ⟨by rw [q103]; decide, by rw [q103]; decide, by rw [q103]; decide, by rw [q103]; decide, by rw [q103]; decide, by rw [q103]; decide, by rw [q103]; decide⟩
    refine r_tIn (xv := (103 : Int32)) 184 dX9_named_1 q103 (by decide) (by decide) rfl (by decide) ?_
    refine r_aload_n (v := .ref (eA E 9 0)) dX9_named_184 rfl (rl_ref _) ?_
    refine r_get (v := .int (V 1019 0 0)) dX9_named_185 fl_RX9_200 (hE.1 9 (by decide)) rfl ?_
    exact r_iret dX9_named_188 rfl ⟨Nat.le_of_ble_eq_true rfl, Nat.le_of_ble_eq_true rfl⟩ ⟨rfl, _, rfl, h⟩
  by_cases q104 : x1 = (104 : Int32)
  · have h := h.2.2.2.2.2.2.2 ⟨by rw [q104]; decide, by rw [q104]; decide, by rw [q104]; decide, by rw [q104]; decide, by rw [q104]; decide, by rw [q104]; decide, by rw [q104]; decide⟩
    refine r_tIn (xv := (104 : Int32)) 184 dX9_named_1 q104 (by decide) (by decide) rfl (by decide) ?_
    refine r_aload_n (v := .ref (eA E 9 0)) dX9_named_184 rfl (rl_ref _) ?_
    refine r_get (v := .int (V 1019 0 0)) dX9_named_185 fl_RX9_200 (hE.1 9 (by decide)) rfl ?_
    exact r_iret dX9_named_188 rfl ⟨Nat.le_of_ble_eq_true rfl, Nat.le_of_ble_eq_true rfl⟩ ⟨rfl, _, rfl, h⟩
  by_cases q105 : x1 = (105 : Int32)
  · have h := h.2.2.2.2.2.2.2 ⟨by rw [q105]; decide, by rw [q105]; decide, by rw [q105]; decide, by rw [q105]; decide, by rw [q105]; decide, by rw [q105]; decide, by rw [q105]; decide⟩
    refine r_tIn (xv := (105 : Int32)) 184 dX9_named_1 q105 (by decide) (by decide) rfl (by decide) ?_
    refine r_aload_n (v := .ref (eA E 9 0)) dX9_named_184 rfl (rl_ref _) ?_
    refine r_get (v := .int (V 1019 0 0)) dX9_named_185 fl_RX9_200 (hE.1 9 (by decide)) rfl ?_
    exact r_iret dX9_named_188 rfl ⟨Nat.le_of_ble_eq_true rfl, Nat.le_of_ble_eq_true rfl⟩ ⟨rfl, _, rfl, h⟩
  by_cases q106 : x1 = (106 : Int32)
  · have h := h.2.2.2.2.2.2.2 ⟨by rw [q106]; decide, by rw [q106]; decide, by rw [q106]; decide, by rw [q106]; decide, by rw [q106]; decide, by rw [q106]; decide, by rw [q106]; decide⟩
    refine r_tIn (xv := (106 : Int32)) 184 dX9_named_1 q106 (by decide) (by decide) rfl (by decide) ?_
    refine r_aload_n (v := .ref (eA E 9 0)) dX9_named_184 rfl (rl_ref _) ?_
    refine r_get (v := .int (V 1019 0 0)) dX9_named_185 fl_RX9_200 (hE.1 9 (by decide)) rfl ?_
    exact r_iret dX9_named_188 rfl ⟨Nat.le_of_ble_eq_true rfl, Nat.le_of_ble_eq_true rfl⟩ ⟨rfl, _, rfl, h⟩
  by_cases q108 : x1 = (108 : Int32)
  · have h := h.2.2.2.2.2.2.2 ⟨by rw [q108]; decide, by rw [q108]; decide, by rw [q108]; decide, by rw [q108]; decide, by rw [q108]; decide, by rw [q108]; decide, by rw [q108]; decide⟩
    refine r_tIn (xv := (108 : Int32)) 184 dX9_named_1 q108 (by decide) (by decide) rfl (by decide) ?_
    refine r_aload_n (v := .ref (eA E 9 0)) dX9_named_184 rfl (rl_ref _) ?_
    refine r_get (v := .int (V 1019 0 0)) dX9_named_185 fl_RX9_200 (hE.1 9 (by decide)) rfl ?_
    exact r_iret dX9_named_188 rfl ⟨Nat.le_of_ble_eq_true rfl, Nat.le_of_ble_eq_true rfl⟩ ⟨rfl, _, rfl, h⟩
  by_cases q111 : x1 = (111 : Int32)
  · have h := h.2.2.2.2.2.2.2 ⟨by rw [q111]; decide, by rw [q111]; decide, by rw [q111]; decide, by rw [q111]; decide, by rw [q111]; decide, by rw [q111]; decide, by rw [q111]; decide⟩
    refine r_tIn (xv := (111 : Int32)) 184 dX9_named_1 q111 (by decide) (by decide) rfl (by decide) ?_
    refine r_aload_n (v := .ref (eA E 9 0)) dX9_named_184 rfl (rl_ref _) ?_
    refine r_get (v := .int (V 1019 0 0)) dX9_named_185 fl_RX9_200 (hE.1 9 (by decide)) rfl ?_
    exact r_iret dX9_named_188 rfl ⟨Nat.le_of_ble_eq_true rfl, Nat.le_of_ble_eq_true rfl⟩ ⟨rfl, _, rfl, h⟩
  by_cases q113 : x1 = (113 : Int32)
  · have h := h.2.2.2.2.2.2.2 ⟨by rw [q113]; decide, by rw [q113]; decide, by rw [q113]; decide, by rw [q113]; decide, by rw [q113]; decide, by rw [q113]; decide, by rw [q113]; decide⟩
    refine r_tIn (xv := (113 : Int32)) 184 dX9_named_1 q113 (by decide) (by decide) rfl (by decide) ?_
    refine r_aload_n (v := .ref (eA E 9 0)) dX9_named_184 rfl (rl_ref _) ?_
    refine r_get (v := .int (V 1019 0 0)) dX9_named_185 fl_RX9_200 (hE.1 9 (by decide)) rfl ?_
    exact r_iret dX9_named_188 rfl ⟨Nat.le_of_ble_eq_true rfl, Nat.le_of_ble_eq_true rfl⟩ ⟨rfl, _, rfl, h⟩
  by_cases q114 : x1 = (114 : Int32)
  · have h := h.2.2.2.2.2.2.2 ⟨by rw [q114]; decide, by rw [q114]; decide, by rw [q114]; decide, by rw [q114]; decide, by rw [q114]; decide, by rw [q114]; decide, by rw [q114]; decide⟩
    refine r_tIn (xv := (114 : Int32)) 184 dX9_named_1 q114 (by decide) (by decide) rfl (by decide) ?_
    refine r_aload_n (v := .ref (eA E 9 0)) dX9_named_184 rfl (rl_ref _) ?_
    refine r_get (v := .int (V 1019 0 0)) dX9_named_185 fl_RX9_200 (hE.1 9 (by decide)) rfl ?_
    exact r_iret dX9_named_188 rfl ⟨Nat.le_of_ble_eq_true rfl, Nat.le_of_ble_eq_true rfl⟩ ⟨rfl, _, rfl, h⟩
  by_cases q115 : x1 = (115 : Int32)
  · have h := h.2.2.2.2.2.2.2 ⟨by rw [q115]; decide, by rw [q115]; decide, by rw [q115]; decide, by rw [q115]; decide, by rw [q115]; decide, by rw [q115]; decide, by rw [q115]; decide⟩
    refine r_tIn (xv := (115 : Int32)) 184 dX9_named_1 q115 (by decide) (by decide) rfl (by decide) ?_
    refine r_aload_n (v := .ref (eA E 9 0)) dX9_named_184 rfl (rl_ref _) ?_
    refine r_get (v := .int (V 1019 0 0)) dX9_named_185 fl_RX9_200 (hE.1 9 (by decide)) rfl ?_
    exact r_iret dX9_named_188 rfl ⟨Nat.le_of_ble_eq_true rfl, Nat.le_of_ble_eq_true rfl⟩ ⟨rfl, _, rfl, h⟩
  by_cases q116 : x1 = (116 : Int32)
  · have h := h.2.2.2.2.2.2.2 ⟨by rw [q116]; decide, by rw [q116]; decide, by rw [q116]; decide, by rw [q116]; decide, by rw [q116]; decide, by rw [q116]; decide, by rw [q116]; decide⟩
    refine r_tIn (xv := (116 : Int32)) 184 dX9_named_1 q116 (by decide) (by decide) rfl (by decide) ?_
    refine r_aload_n (v := .ref (eA E 9 0)) dX9_named_184 rfl (rl_ref _) ?_
    refine r_get (v := .int (V 1019 0 0)) dX9_named_185 fl_RX9_200 (hE.1 9 (by decide)) rfl ?_
    exact r_iret dX9_named_188 rfl ⟨Nat.le_of_ble_eq_true rfl, Nat.le_of_ble_eq_true rfl⟩ ⟨rfl, _, rfl, h⟩
  by_cases q117 : x1 = (117 : Int32)
  · have h := h.2.2.2.2.2.2.2 ⟨by rw [q117]; decide, by rw [q117]; decide, by rw [q117]; decide, by rw [q117]; decide, by rw [q117]; decide, by rw [q117]; decide, by rw [q117]; decide⟩
    refine r_tIn (xv := (117 : Int32)) 184 dX9_named_1 q117 (by decide) (by decide) rfl (by decide) ?_
    refine r_aload_n (v := .ref (eA E 9 0)) dX9_named_184 rfl (rl_ref _) ?_
    refine r_get (v := .int (V 1019 0 0)) dX9_named_185 fl_RX9_200 (hE.1 9 (by decide)) rfl ?_
    exact r_iret dX9_named_188 rfl ⟨Nat.le_of_ble_eq_true rfl, Nat.le_of_ble_eq_true rfl⟩ ⟨rfl, _, rfl, h⟩
  by_cases q118 : x1 = (118 : Int32)
  · have h := h.2.2.2.2.2.2.2 ⟨by rw [q118]; decide, by rw [q118]; decide, by rw [q118]; decide, by rw [q118]; decide, by rw [q118]; decide, by rw [q118]; decide, by rw [q118]; decide⟩
    refine r_tIn (xv := (118 : Int32)) 184 dX9_named_1 q118 (by decide) (by decide) rfl (by decide) ?_
    refine r_aload_n (v := .ref (eA E 9 0)) dX9_named_184 rfl (rl_ref _) ?_
    refine r_get (v := .int (V 1019 0 0)) dX9_named_185 fl_RX9_200 (hE.1 9 (by decide)) rfl ?_
    exact r_iret dX9_named_188 rfl ⟨Nat.le_of_ble_eq_true rfl, Nat.le_of_ble_eq_true rfl⟩ ⟨rfl, _, rfl, h⟩
  by_cases q120 : x1 = (120 : Int32)
  · have h := h.2.2.2.2.2.2.2 ⟨by rw [q120]; decide, by rw [q120]; decide, by rw [q120]; decide, by rw [q120]; decide, by rw [q120]; decide, by rw [q120]; decide, by rw [q120]; decide⟩
    refine r_tIn (xv := (120 : Int32)) 184 dX9_named_1 q120 (by decide) (by decide) rfl (by decide) ?_
    refine r_aload_n (v := .ref (eA E 9 0)) dX9_named_184 rfl (rl_ref _) ?_
    refine r_get (v := .int (V 1019 0 0)) dX9_named_185 fl_RX9_200 (hE.1 9 (by decide)) rfl ?_
    exact r_iret dX9_named_188 rfl ⟨Nat.le_of_ble_eq_true rfl, Nat.le_of_ble_eq_true rfl⟩ ⟨rfl, _, rfl, h⟩
  · have h := h.2.2.2.2.2.2.2 ⟨q102, q107, q109, q110, q112, q119, q121⟩
    refine r_tOut 184 dX9_named_1 (by have a102 := lv_neT q102 (a := 102) rfl; have a103 := lv_neT q103 (a := 103) rfl; have a104 := lv_neT q104 (a := 104) rfl; have a105 := lv_neT q105 (a := 105) rfl; have a106 := lv_neT q106 (a := 106) rfl; have a107 := lv_neT q107 (a := 107) rfl; have a108 := lv_neT q108 (a := 108) rfl; have a109 := lv_neT q109 (a := 109) rfl; have a110 := lv_neT q110 (a := 110) rfl; have a111 := lv_neT q111 (a := 111) rfl; have a112 := lv_neT q112 (a := 112) rfl; have a113 := lv_neT q113 (a := 113) rfl; have a114 := lv_neT q114 (a := 114) rfl; have a115 := lv_neT q115 (a := 115) rfl; have a116 := lv_neT q116 (a := 116) rfl; have a117 := lv_neT q117 (a := 117) rfl; have a118 := lv_neT q118 (a := 118) rfl; have a119 := lv_neT q119 (a := 119) rfl; have a120 := lv_neT q120 (a := 120) rfl; have a121 := lv_neT q121 (a := 121) rfl; omega) (by decide) ?_
    refine r_aload_n (v := .ref (eA E 9 0)) dX9_named_184 rfl (rl_ref _) ?_
    refine r_get (v := .int (V 1019 0 0)) dX9_named_185 fl_RX9_200 (hE.1 9 (by decide)) rfl ?_
    exact r_iret dX9_named_188 rfl ⟨Nat.le_of_ble_eq_true rfl, Nat.le_of_ble_eq_true rfl⟩ ⟨rfl, _, rfl, h⟩

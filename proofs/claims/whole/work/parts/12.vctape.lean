abbrev rm_X4_nameNoPart : Room := { frames := 0, cells := 0, slots := 0, locals := 0 }
def C_X4_nameNoPart (l : Launch) (G : Gt) (E : Et) (V : Vt)  (K : Vt → Prop) : Prop := Cl l G yX4_nameNoPart cX4_nameNoPart 1 none rm_X4_nameNoPart E V [.ref (eA E 4 0)] (Qv E K)
def vc_X4_nameNoPart (l : Launch) (G : Gt) (E : Et) (V : Vt)  (K : Vt → Prop) : Prop := (vp_in (0 : Int32) 8) ∧ (vp_in (1 : Int32) 8) ∧ (vp_in (2 : Int32) 8) ∧ (vp_in (3 : Int32) 8) ∧ K (up3 (up3 (up3 (up3 V 500 0 ((0 : Int32)).toNatClampNeg (0 : Int32)) 500 0 ((1 : Int32)).toNatClampNeg (0 : Int32)) 500 0 ((2 : Int32)).toNatClampNeg (0 : Int32)) 500 0 ((3 : Int32)).toNatClampNeg (0 : Int32))
theorem ok_X4_nameNoPart {l : Launch} {G : Gt} {E : Et} {V : Vt}  {K : Vt → Prop} (hE : Sg E)  (h : vc_X4_nameNoPart l G E V  K) : C_X4_nameNoPart l G E V  K := by
  unfold vc_X4_nameNoPart at h
  refine Cl.of (by decide +kernel) (Nat.le_of_ble_eq_true rfl) (show Ev l G RX4 cX4_nameNoPart 1 none rm_X4_nameNoPart E 0 0 V 0 [(0, .ref (eA E 4 0))] [] (Qv E K) from ?_)
  refine r_aload_n (v := .ref (eA E 4 0)) dX4_nameNoPart_0 rfl (rl_ref _) ?_
  refine r_get (v := .ref (eA E 500 0)) dX4_nameNoPart_1 fl_RX4_17 (hE.1 4 (by decide)) rfl ?_
  refine r_iconst (v := (0 : Int32)) dX4_nameNoPart_4 (by decide) ?_
  refine r_iconst (v := (0 : Int32)) dX4_nameNoPart_5 (by decide) ?_
  obtain ⟨hb, h⟩ := h
  refine r_iast dX4_nameNoPart_6 rfl (by decide) (hE.1 4 (by decide)) (ix hE (by decide) rfl hb) ?_
  refine r_aload_n (v := .ref (eA E 4 0)) dX4_nameNoPart_7 rfl (rl_ref _) ?_
  refine r_get (v := .ref (eA E 500 0)) dX4_nameNoPart_8 fl_RX4_17 (hE.1 4 (by decide)) rfl ?_
  refine r_iconst (v := (1 : Int32)) dX4_nameNoPart_11 (by decide) ?_
  refine r_iconst (v := (0 : Int32)) dX4_nameNoPart_12 (by decide) ?_
  obtain ⟨hb, h⟩ := h
  refine r_iast dX4_nameNoPart_13 rfl (by decide) (hE.1 4 (by decide)) (ix hE (by decide) rfl hb) ?_
  refine r_aload_n (v := .ref (eA E 4 0)) dX4_nameNoPart_14 rfl (rl_ref _) ?_
  refine r_get (v := .ref (eA E 500 0)) dX4_nameNoPart_15 fl_RX4_17 (hE.1 4 (by decide)) rfl ?_
  refine r_iconst (v := (2 : Int32)) dX4_nameNoPart_18 (by decide) ?_
  refine r_iconst (v := (0 : Int32)) dX4_nameNoPart_19 (by decide) ?_
  obtain ⟨hb, h⟩ := h
  refine r_iast dX4_nameNoPart_20 rfl (by decide) (hE.1 4 (by decide)) (ix hE (by decide) rfl hb) ?_
  refine r_aload_n (v := .ref (eA E 4 0)) dX4_nameNoPart_21 rfl (rl_ref _) ?_
  refine r_get (v := .ref (eA E 500 0)) dX4_nameNoPart_22 fl_RX4_17 (hE.1 4 (by decide)) rfl ?_
  refine r_iconst (v := (3 : Int32)) dX4_nameNoPart_25 (by decide) ?_
  refine r_iconst (v := (0 : Int32)) dX4_nameNoPart_26 (by decide) ?_
  obtain ⟨hb, h⟩ := h
  refine r_iast dX4_nameNoPart_27 rfl (by decide) (hE.1 4 (by decide)) (ix hE (by decide) rfl hb) ?_
  exact r_vret dX4_nameNoPart_28 rfl ⟨Nat.le_of_ble_eq_true rfl, Nat.le_of_ble_eq_true rfl⟩ ⟨rfl, rfl, h⟩
abbrev rm_X4_namePart : Room := { frames := 0, cells := 0, slots := 0, locals := 0 }
def C_X4_namePart (l : Launch) (G : Gt) (E : Et) (V : Vt) (x1 : Int32) (o2 : Nat) (K : Vt → Prop) : Prop := Cl l G yX4_namePart cX4_namePart 3 none rm_X4_namePart E V [.ref (eA E 4 0), .int x1, .ref (eA E 2 o2)] (Qv E K)
def vc_X4_namePart (l : Launch) (G : Gt) (E : Et) (V : Vt) (x1 : Int32) (o2 : Nat) (K : Vt → Prop) : Prop := (vp_in (0 : Int32) 8) ∧ (vp_in (1 : Int32) 8) ∧ (vp_in (2 : Int32) 8) ∧ (vp_in (3 : Int32) 8) ∧ K (up3 (up3 (up3 (up3 V 500 0 ((0 : Int32)).toNatClampNeg x1) 500 0 ((1 : Int32)).toNatClampNeg ((up3 V 500 0 ((0 : Int32)).toNatClampNeg x1) 300 o2 0)) 500 0 ((2 : Int32)).toNatClampNeg ((up3 (up3 V 500 0 ((0 : Int32)).toNatClampNeg x1) 500 0 ((1 : Int32)).toNatClampNeg ((up3 V 500 0 ((0 : Int32)).toNatClampNeg x1) 300 o2 0)) 310 o2 0)) 500 0 ((3 : Int32)).toNatClampNeg ((up3 (up3 (up3 V 500 0 ((0 : Int32)).toNatClampNeg x1) 500 0 ((1 : Int32)).toNatClampNeg ((up3 V 500 0 ((0 : Int32)).toNatClampNeg x1) 300 o2 0)) 500 0 ((2 : Int32)).toNatClampNeg ((up3 (up3 V 500 0 ((0 : Int32)).toNatClampNeg x1) 500 0 ((1 : Int32)).toNatClampNeg ((up3 V 500 0 ((0 : Int32)).toNatClampNeg x1) 300 o2 0)) 310 o2 0)) 309 o2 0))
theorem ok_X4_namePart {l : Launch} {G : Gt} {E : Et} {V : Vt} {x1 : Int32} {o2 : Nat} {K : Vt → Prop} (hE : Sg E) (hl_o2 : eL E 2 o2) (h : vc_X4_namePart l G E V x1 o2 K) : C_X4_namePart l G E V x1 o2 K := by
  unfold vc_X4_namePart at h
  refine Cl.of (by decide +kernel) (Nat.le_of_ble_eq_true rfl) (show Ev l G RX4 cX4_namePart 3 none rm_X4_namePart E 0 0 V 0 [(0, .ref (eA E 4 0)), (1, .int x1), (2, .ref (eA E 2 o2))] [] (Qv E K) from ?_)
  refine r_aload_n (v := .ref (eA E 4 0)) dX4_namePart_0 rfl (rl_ref _) ?_
  refine r_get (v := .ref (eA E 500 0)) dX4_namePart_1 fl_RX4_17 (hE.1 4 (by decide)) rfl ?_
  refine r_iconst (v := (0 : Int32)) dX4_namePart_4 (by decide) ?_
  refine r_iload_n (x := x1) dX4_namePart_5 rfl ?_
  obtain ⟨hb, h⟩ := h
  refine r_iast dX4_namePart_6 rfl (by decide) (hE.1 4 (by decide)) (ix hE (by decide) rfl hb) ?_
  refine r_aload_n (v := .ref (eA E 4 0)) dX4_namePart_7 rfl (rl_ref _) ?_
  refine r_get (v := .ref (eA E 500 0)) dX4_namePart_8 fl_RX4_17 (hE.1 4 (by decide)) rfl ?_
  refine r_iconst (v := (1 : Int32)) dX4_namePart_11 (by decide) ?_
  refine r_aload_n (v := .ref (eA E 2 o2)) dX4_namePart_12 rfl (rl_ref _) ?_
  refine r_get (v := .int ((up3 V 500 0 ((0 : Int32)).toNatClampNeg x1) 300 o2 0)) dX4_namePart_13 fl_RX4_26 hl_o2 rfl ?_
  obtain ⟨hb, h⟩ := h
  refine r_iast dX4_namePart_16 rfl (by decide) (hE.1 4 (by decide)) (ix hE (by decide) rfl hb) ?_
  refine r_aload_n (v := .ref (eA E 4 0)) dX4_namePart_17 rfl (rl_ref _) ?_
  refine r_get (v := .ref (eA E 500 0)) dX4_namePart_18 fl_RX4_17 (hE.1 4 (by decide)) rfl ?_
  refine r_iconst (v := (2 : Int32)) dX4_namePart_21 (by decide) ?_
  refine r_aload_n (v := .ref (eA E 2 o2)) dX4_namePart_22 rfl (rl_ref _) ?_
  refine r_get (v := .int ((up3 (up3 V 500 0 ((0 : Int32)).toNatClampNeg x1) 500 0 ((1 : Int32)).toNatClampNeg ((up3 V 500 0 ((0 : Int32)).toNatClampNeg x1) 300 o2 0)) 310 o2 0)) dX4_namePart_23 fl_RX4_32 hl_o2 rfl ?_
  obtain ⟨hb, h⟩ := h
  refine r_iast dX4_namePart_26 rfl (by decide) (hE.1 4 (by decide)) (ix hE (by decide) rfl hb) ?_
  refine r_aload_n (v := .ref (eA E 4 0)) dX4_namePart_27 rfl (rl_ref _) ?_
  refine r_get (v := .ref (eA E 500 0)) dX4_namePart_28 fl_RX4_17 (hE.1 4 (by decide)) rfl ?_
  refine r_iconst (v := (3 : Int32)) dX4_namePart_31 (by decide) ?_
  refine r_aload_n (v := .ref (eA E 2 o2)) dX4_namePart_32 rfl (rl_ref _) ?_
  refine r_get (v := .int ((up3 (up3 (up3 V 500 0 ((0 : Int32)).toNatClampNeg x1) 500 0 ((1 : Int32)).toNatClampNeg ((up3 V 500 0 ((0 : Int32)).toNatClampNeg x1) 300 o2 0)) 500 0 ((2 : Int32)).toNatClampNeg ((up3 (up3 V 500 0 ((0 : Int32)).toNatClampNeg x1) 500 0 ((1 : Int32)).toNatClampNeg ((up3 V 500 0 ((0 : Int32)).toNatClampNeg x1) 300 o2 0)) 310 o2 0)) 309 o2 0)) dX4_namePart_33 fl_RX4_35 hl_o2 rfl ?_
  obtain ⟨hb, h⟩ := h
  refine r_iast dX4_namePart_36 rfl (by decide) (hE.1 4 (by decide)) (ix hE (by decide) rfl hb) ?_
  exact r_vret dX4_namePart_37 rfl ⟨Nat.le_of_ble_eq_true rfl, Nat.le_of_ble_eq_true rfl⟩ ⟨rfl, rfl, h⟩
abbrev rm_X4_nameMonth : Room := { frames := 0, cells := 0, slots := 0, locals := 0 }
def C_X4_nameMonth (l : Launch) (G : Gt) (E : Et) (V : Vt) (x1 : Int32) (x2 : Int32) (x3 : Int32) (K : Vt → Prop) : Prop := Cl l G yX4_nameMonth cX4_nameMonth 4 none rm_X4_nameMonth E V [.ref (eA E 4 0), .int x1, .int x2, .int x3] (Qv E K)
def vc_X4_nameMonth (l : Launch) (G : Gt) (E : Et) (V : Vt) (x1 : Int32) (x2 : Int32) (x3 : Int32) (K : Vt → Prop) : Prop := (vp_in (4 : Int32) 8) ∧ (vp_in (5 : Int32) 8) ∧ ((x2 = (0 : Int32) → (vp_in (6 : Int32) 8) ∧ (vp_in (7 : Int32) 8) ∧ K (up3 (up3 (up3 (up3 V 500 0 ((4 : Int32)).toNatClampNeg (x1 - x1 / (12 : Int32) * (12 : Int32))) 500 0 ((5 : Int32)).toNatClampNeg (x1 / (12 : Int32))) 500 0 ((6 : Int32)).toNatClampNeg (0 : Int32)) 500 0 ((7 : Int32)).toNatClampNeg x3)) ∧ (¬ x2 = (0 : Int32) → (vp_in (6 : Int32) 8) ∧ (vp_in (7 : Int32) 8) ∧ K (up3 (up3 (up3 (up3 V 500 0 ((4 : Int32)).toNatClampNeg (x1 - x1 / (12 : Int32) * (12 : Int32))) 500 0 ((5 : Int32)).toNatClampNeg (x1 / (12 : Int32))) 500 0 ((6 : Int32)).toNatClampNeg (1 : Int32)) 500 0 ((7 : Int32)).toNatClampNeg x3)))
theorem ok_X4_nameMonth {l : Launch} {G : Gt} {E : Et} {V : Vt} {x1 : Int32} {x2 : Int32} {x3 : Int32} {K : Vt → Prop} (hE : Sg E)  (h : vc_X4_nameMonth l G E V x1 x2 x3 K) : C_X4_nameMonth l G E V x1 x2 x3 K := by
  unfold vc_X4_nameMonth at h
  refine Cl.of (by decide +kernel) (Nat.le_of_ble_eq_true rfl) (show Ev l G RX4 cX4_nameMonth 4 none rm_X4_nameMonth E 0 0 V 0 [(0, .ref (eA E 4 0)), (1, .int x1), (2, .int x2), (3, .int x3)] [] (Qv E K) from ?_)
  refine r_aload_n (v := .ref (eA E 4 0)) dX4_nameMonth_0 rfl (rl_ref _) ?_
  refine r_get (v := .ref (eA E 500 0)) dX4_nameMonth_1 fl_RX4_17 (hE.1 4 (by decide)) rfl ?_
  refine r_iconst (v := (4 : Int32)) dX4_nameMonth_4 (by decide) ?_
  refine r_iload_n (x := x1) dX4_nameMonth_5 rfl ?_
  refine r_bipush (v := (12 : Int32)) dX4_nameMonth_6 (by decide) ?_
  refine r_irem dX4_nameMonth_8 (by decide) ?_
  obtain ⟨hb, h⟩ := h
  refine r_iast dX4_nameMonth_9 rfl (by decide) (hE.1 4 (by decide)) (ix hE (by decide) rfl hb) ?_
  refine r_aload_n (v := .ref (eA E 4 0)) dX4_nameMonth_10 rfl (rl_ref _) ?_
  refine r_get (v := .ref (eA E 500 0)) dX4_nameMonth_11 fl_RX4_17 (hE.1 4 (by decide)) rfl ?_
  refine r_iconst (v := (5 : Int32)) dX4_nameMonth_14 (by decide) ?_
  refine r_iload_n (x := x1) dX4_nameMonth_15 rfl ?_
  refine r_bipush (v := (12 : Int32)) dX4_nameMonth_16 (by decide) ?_
  refine r_idiv dX4_nameMonth_18 (by decide) ?_
  obtain ⟨hb, h⟩ := h
  refine r_iast dX4_nameMonth_19 rfl (by decide) (hE.1 4 (by decide)) (ix hE (by decide) rfl hb) ?_
  refine r_aload_n (v := .ref (eA E 4 0)) dX4_nameMonth_20 rfl (rl_ref _) ?_
  refine r_get (v := .ref (eA E 500 0)) dX4_nameMonth_21 fl_RX4_17 (hE.1 4 (by decide)) rfl ?_
  refine r_bipush (v := (6 : Int32)) dX4_nameMonth_24 (by decide) ?_
  refine r_iload_n (x := x2) dX4_nameMonth_26 rfl ?_
  refine r_if_eq 34 dX4_nameMonth_27 (by decide) (fun q => ?_) (fun q => ?_)
  · have h := h.1 q
    refine r_iconst (v := (0 : Int32)) dX4_nameMonth_34 (by decide) ?_
    obtain ⟨hb, h⟩ := h
    refine r_iast dX4_nameMonth_35 rfl (by decide) (hE.1 4 (by decide)) (ix hE (by decide) rfl hb) ?_
    refine r_aload_n (v := .ref (eA E 4 0)) dX4_nameMonth_36 rfl (rl_ref _) ?_
    refine r_get (v := .ref (eA E 500 0)) dX4_nameMonth_37 fl_RX4_17 (hE.1 4 (by decide)) rfl ?_
    refine r_bipush (v := (7 : Int32)) dX4_nameMonth_40 (by decide) ?_
    refine r_iload_n (x := x3) dX4_nameMonth_42 rfl ?_
    obtain ⟨hb, h⟩ := h
    refine r_iast dX4_nameMonth_43 rfl (by decide) (hE.1 4 (by decide)) (ix hE (by decide) rfl hb) ?_
    exact r_vret dX4_nameMonth_44 rfl ⟨Nat.le_of_ble_eq_true rfl, Nat.le_of_ble_eq_true rfl⟩ ⟨rfl, rfl, h⟩
  · have h := h.2 q
    refine r_iconst (v := (1 : Int32)) dX4_nameMonth_30 (by decide) ?_
    refine r_goto 35 dX4_nameMonth_31 (by decide) ?_
    obtain ⟨hb, h⟩ := h
    refine r_iast dX4_nameMonth_35 rfl (by decide) (hE.1 4 (by decide)) (ix hE (by decide) rfl hb) ?_
    refine r_aload_n (v := .ref (eA E 4 0)) dX4_nameMonth_36 rfl (rl_ref _) ?_
    refine r_get (v := .ref (eA E 500 0)) dX4_nameMonth_37 fl_RX4_17 (hE.1 4 (by decide)) rfl ?_
    refine r_bipush (v := (7 : Int32)) dX4_nameMonth_40 (by decide) ?_
    refine r_iload_n (x := x3) dX4_nameMonth_42 rfl ?_
    obtain ⟨hb, h⟩ := h
    refine r_iast dX4_nameMonth_43 rfl (by decide) (hE.1 4 (by decide)) (ix hE (by decide) rfl hb) ?_
    exact r_vret dX4_nameMonth_44 rfl ⟨Nat.le_of_ble_eq_true rfl, Nat.le_of_ble_eq_true rfl⟩ ⟨rfl, rfl, h⟩
abbrev rm_X4_isSign : Room := { frames := 7, cells := 0, slots := 0, locals := 159 }
def C_X4_isSign (l : Launch) (G : Gt) (E : Et) (V : Vt) (x1 : Int32) (K : Int32 → Vt → Prop) : Prop := Cl l G yX4_isSign cX4_isSign 1 (some .boolean) rm_X4_isSign E V [.int x1] (Qi E K)
def vc_X4_isSign (l : Launch) (G : Gt) (E : Et) (V : Vt) (x1 : Int32) (K : Int32 → Vt → Prop) : Prop := (((0 : Int32) ≤ x1 → K (0 : Int32) V) ∧ (¬ (0 : Int32) ≤ x1 → (C_J0_indexOf_0f7a4 l G E V 1 (((-x1)).toUInt32 % 65536).toInt32 (fun x22 V21 => ((x22 < (0 : Int32) → K (0 : Int32) V21) ∧ (¬ x22 < (0 : Int32) → K (1 : Int32) V21))))))
theorem ok_X4_isSign {l : Launch} {G : Gt} {E : Et} {V : Vt} {x1 : Int32} {K : Int32 → Vt → Prop} (hE : Sg E)  (h : vc_X4_isSign l G E V x1 K) : C_X4_isSign l G E V x1 K := by
  unfold vc_X4_isSign at h
  refine Cl.of (by decide +kernel) (Nat.le_of_ble_eq_true rfl) (show Ev l G RX4 cX4_isSign 1 (some .boolean) rm_X4_isSign E 0 0 V 0 [(0, .int x1)] [] (Qi E K) from ?_)
  refine r_iload_n (x := x1) dX4_isSign_0 rfl ?_
  refine r_if_ge 19 dX4_isSign_1 (by decide) (fun q => ?_) (fun q => ?_)
  · have h := h.1 q
    refine r_iconst (v := (0 : Int32)) dX4_isSign_19 (by decide) ?_
    exact r_zret dX4_isSign_20 rfl rfl ⟨Nat.le_of_ble_eq_true rfl, Nat.le_of_ble_eq_true rfl⟩ ⟨rfl, _, rfl, h⟩
  · have h := h.2 q
    refine r_ldcS (tx := "!+-*<=>&|") (a := gK G 1) dX4_isSign_4 (fun U hb => hb.2.1) ?_
    refine r_iload_n (x := x1) dX4_isSign_6 rfl ?_
    refine r_ineg dX4_isSign_7 ?_
    refine r_i2c dX4_isSign_8 ?_
    refine r_cStr (w := 1) (As := [.int (((-x1)).toUInt32 % 65536).toInt32]) (rest := []) dX4_isSign_9 mv_J0_indexOf_0f7a4 ml_RX4_71 rfl (by decide) ⟨Nat.le_of_ble_eq_true rfl, Nat.le_of_ble_eq_true rfl⟩ ⟨rfl, rfl⟩ rfl rfl (Nat.le_of_ble_eq_true rfl) h (fun x22 V21 h => ?_)
    refine r_if_lt 19 dX4_isSign_12 (by decide) (fun q => ?_) (fun q => ?_)
    · have h := h.1 q
      refine r_iconst (v := (0 : Int32)) dX4_isSign_19 (by decide) ?_
      exact r_zret dX4_isSign_20 rfl rfl ⟨Nat.le_of_ble_eq_true rfl, Nat.le_of_ble_eq_true rfl⟩ ⟨rfl, _, rfl, h⟩
    · have h := h.2 q
      refine r_iconst (v := (1 : Int32)) dX4_isSign_15 (by decide) ?_
      refine r_goto 20 dX4_isSign_16 (by decide) ?_
      exact r_zret dX4_isSign_20 rfl rfl ⟨Nat.le_of_ble_eq_true rfl, Nat.le_of_ble_eq_true rfl⟩ ⟨rfl, _, rfl, h⟩
abbrev rm_X4_meaningOf : Room := { frames := 7, cells := 0, slots := 0, locals := 159 }
def C_X4_meaningOf (l : Launch) (G : Gt) (E : Et) (V : Vt) (x1 : Int32) (K : Int32 → Vt → Prop) : Prop := Cl l G yX4_meaningOf cX4_meaningOf 3 (some .int) rm_X4_meaningOf E V [.ref (eA E 4 0), .int x1] (Qi E K)
def vc_X4_meaningOf (l : Launch) (G : Gt) (E : Et) (V : Vt) (x1 : Int32) (K : Int32 → Vt → Prop) : Prop := ((x1 < (0 : Int32) → (C_J0_indexOf_0f7a4 l G E V 0 (((-x1)).toUInt32 % 65536).toInt32 (fun x22 V21 => (((0 : Int32) ≤ x22 → (vp_in x22 8) ∧ K (V21 500 0 (x22).toNatClampNeg) V21) ∧ (¬ (0 : Int32) ≤ x22 → K (0 : Int32) V21))))) ∧ (¬ x1 < (0 : Int32) → K x1 V))
theorem ok_X4_meaningOf {l : Launch} {G : Gt} {E : Et} {V : Vt} {x1 : Int32} {K : Int32 → Vt → Prop} (hE : Sg E)  (h : vc_X4_meaningOf l G E V x1 K) : C_X4_meaningOf l G E V x1 K := by
  unfold vc_X4_meaningOf at h
  refine Cl.of (by decide +kernel) (Nat.le_of_ble_eq_true rfl) (show Ev l G RX4 cX4_meaningOf 3 (some .int) rm_X4_meaningOf E 0 0 V 0 [(0, .ref (eA E 4 0)), (1, .int x1)] [] (Qi E K) from ?_)
  refine r_iload_n (x := x1) dX4_meaningOf_0 rfl ?_
  refine r_if_lt 6 dX4_meaningOf_1 (by decide) (fun q => ?_) (fun q => ?_)
  · have h := h.1 q
    refine r_ldcS (tx := "pknwmyfd") (a := gK G 0) dX4_meaningOf_6 (fun U hb => hb.1) ?_
    refine r_iload_n (x := x1) dX4_meaningOf_8 rfl ?_
    refine r_ineg dX4_meaningOf_9 ?_
    refine r_i2c dX4_meaningOf_10 ?_
    refine r_cStr (w := 0) (As := [.int (((-x1)).toUInt32 % 65536).toInt32]) (rest := []) dX4_meaningOf_11 mv_J0_indexOf_0f7a4 ml_RX4_71 rfl (by decide) ⟨Nat.le_of_ble_eq_true rfl, Nat.le_of_ble_eq_true rfl⟩ ⟨rfl, rfl⟩ rfl rfl (Nat.le_of_ble_eq_true rfl) h (fun x22 V21 h => ?_)
    refine r_istore_n dX4_meaningOf_14 (by decide) ?_
    refine r_iload_n (x := x22) dX4_meaningOf_15 rfl ?_
    refine r_if_ge 23 dX4_meaningOf_16 (by decide) (fun q => ?_) (fun q => ?_)
    · have h := h.1 q
      refine r_aload_n (v := .ref (eA E 4 0)) dX4_meaningOf_23 rfl (rl_ref _) ?_
      refine r_get (v := .ref (eA E 500 0)) dX4_meaningOf_24 fl_RX4_17 (hE.1 4 (by decide)) rfl ?_
      refine r_iload_n (x := x22) dX4_meaningOf_27 rfl ?_
      obtain ⟨hb, h⟩ := h
      refine r_iald dX4_meaningOf_28 rfl (by decide) (hE.1 4 (by decide)) (ix hE (by decide) rfl hb) ?_
      exact r_iret dX4_meaningOf_29 rfl ⟨Nat.le_of_ble_eq_true rfl, Nat.le_of_ble_eq_true rfl⟩ ⟨rfl, _, rfl, h⟩
    · have h := h.2 q
      refine r_iconst (v := (0 : Int32)) dX4_meaningOf_19 (by decide) ?_
      refine r_goto 29 dX4_meaningOf_20 (by decide) ?_
      exact r_iret dX4_meaningOf_29 rfl ⟨Nat.le_of_ble_eq_true rfl, Nat.le_of_ble_eq_true rfl⟩ ⟨rfl, _, rfl, h⟩
  · have h := h.2 q
    refine r_iload_n (x := x1) dX4_meaningOf_4 rfl ?_
    exact r_iret dX4_meaningOf_5 rfl ⟨Nat.le_of_ble_eq_true rfl, Nat.le_of_ble_eq_true rfl⟩ ⟨rfl, _, rfl, h⟩
abbrev rm_X4_truth : Room := { frames := 0, cells := 0, slots := 0, locals := 0 }
def C_X4_truth (l : Launch) (G : Gt) (E : Et) (V : Vt) (x1 : Int32) (K : Int32 → Vt → Prop) : Prop := Cl l G yX4_truth cX4_truth 1 (some .int) rm_X4_truth E V [.int x1] (Qi E K)
def vc_X4_truth (l : Launch) (G : Gt) (E : Et) (V : Vt) (x1 : Int32) (K : Int32 → Vt → Prop) : Prop := ((x1 = (0 : Int32) → K (0 : Int32) V) ∧ (¬ x1 = (0 : Int32) → K (1 : Int32) V))
theorem ok_X4_truth {l : Launch} {G : Gt} {E : Et} {V : Vt} {x1 : Int32} {K : Int32 → Vt → Prop} (hE : Sg E)  (h : vc_X4_truth l G E V x1 K) : C_X4_truth l G E V x1 K := by
  unfold vc_X4_truth at h
  refine Cl.of (by decide +kernel) (Nat.le_of_ble_eq_true rfl) (show Ev l G RX4 cX4_truth 1 (some .int) rm_X4_truth E 0 0 V 0 [(0, .int x1)] [] (Qi E K) from ?_)
  refine r_iload_n (x := x1) dX4_truth_0 rfl ?_
  refine r_if_eq 8 dX4_truth_1 (by decide) (fun q => ?_) (fun q => ?_)
  · have h := h.1 q
    refine r_iconst (v := (0 : Int32)) dX4_truth_8 (by decide) ?_
    exact r_iret dX4_truth_9 rfl ⟨Nat.le_of_ble_eq_true rfl, Nat.le_of_ble_eq_true rfl⟩ ⟨rfl, _, rfl, h⟩
  · have h := h.2 q
    refine r_iconst (v := (1 : Int32)) dX4_truth_4 (by decide) ?_
    refine r_goto 9 dX4_truth_5 (by decide) ?_
    exact r_iret dX4_truth_9 rfl ⟨Nat.le_of_ble_eq_true rfl, Nat.le_of_ble_eq_true rfl⟩ ⟨rfl, _, rfl, h⟩
abbrev rm_X4_join : Room := { frames := 1, cells := 0, slots := 0, locals := 20 }
def C_X4_join (l : Launch) (G : Gt) (E : Et) (V : Vt) (x1 : Int32) (x2 : Int32) (x3 : Int32) (K : Int32 → Vt → Prop) : Prop := Cl l G yX4_join cX4_join 3 (some .int) rm_X4_join E V [.int x1, .int x2, .int x3] (Qi E K)
def vc_X4_join (l : Launch) (G : Gt) (E : Et) (V : Vt) (x1 : Int32) (x2 : Int32) (x3 : Int32) (K : Int32 → Vt → Prop) : Prop := ((x1 = (38 : Int32) → ((x2 = (0 : Int32) → (C_X4_truth l G E V (0 : Int32) (fun x22 V21 => K x22 V21))) ∧ (¬ x2 = (0 : Int32) → ((x3 = (0 : Int32) → (C_X4_truth l G E V (0 : Int32) (fun x24 V23 => K x24 V23))) ∧ (¬ x3 = (0 : Int32) → (C_X4_truth l G E V (1 : Int32) (fun x26 V25 => K x26 V25))))))) ∧ (x1 = (42 : Int32) → K (x2 * x3) V) ∧ (x1 = (43 : Int32) → K (x2 + x3) V) ∧ (x1 = (45 : Int32) → K (x2 - x3) V) ∧ (x1 = (60 : Int32) → ((x3 ≤ x2 → (C_X4_truth l G E V (0 : Int32) (fun x28 V27 => K x28 V27))) ∧ (¬ x3 ≤ x2 → (C_X4_truth l G E V (1 : Int32) (fun x30 V29 => K x30 V29))))) ∧ (x1 = (61 : Int32) → ((¬ x2 = x3 → (C_X4_truth l G E V (0 : Int32) (fun x32 V31 => K x32 V31))) ∧ (x2 = x3 → (C_X4_truth l G E V (1 : Int32) (fun x34 V33 => K x34 V33))))) ∧ (x1 = (62 : Int32) → ((x2 ≤ x3 → (C_X4_truth l G E V (0 : Int32) (fun x36 V35 => K x36 V35))) ∧ (¬ x2 ≤ x3 → (C_X4_truth l G E V (1 : Int32) (fun x38 V37 => K x38 V37))))) ∧ (x1 = (124 : Int32) → ((¬ x2 = (0 : Int32) → (C_X4_truth l G E V (1 : Int32) (fun x40 V39 => K x40 V39))) ∧ (x2 = (0 : Int32) → ((x3 = (0 : Int32) → (C_X4_truth l G E V (0 : Int32) (fun x42 V41 => K x42 V41))) ∧ (¬ x3 = (0 : Int32) → (C_X4_truth l G E V (1 : Int32) (fun x44 V43 => K x44 V43))))))) ∧ (¬ x1 = (38 : Int32) ∧ ¬ x1 = (42 : Int32) ∧ ¬ x1 = (43 : Int32) ∧ ¬ x1 = (45 : Int32) ∧ ¬ x1 = (60 : Int32) ∧ ¬ x1 = (61 : Int32) ∧ ¬ x1 = (62 : Int32) ∧ ¬ x1 = (124 : Int32) → K (0 : Int32) V))
theorem ok_X4_join {l : Launch} {G : Gt} {E : Et} {V : Vt} {x1 : Int32} {x2 : Int32} {x3 : Int32} {K : Int32 → Vt → Prop} (hE : Sg E)  (h : vc_X4_join l G E V x1 x2 x3 K) : C_X4_join l G E V x1 x2 x3 K := by
  unfold vc_X4_join at h
  refine Cl.of (by decide +kernel) (Nat.le_of_ble_eq_true rfl) (show Ev l G RX4 cX4_join 3 (some .int) rm_X4_join E 0 0 V 0 [(0, .int x1), (1, .int x2), (2, .int x3)] [] (Qi E K) from ?_)
  refine r_iload_n (x := x1) dX4_join_0 rfl ?_
  by_cases q38 : x1 = (38 : Int32)
  · have h := h.1 q38
    refine r_look (off := 129) 130 dX4_join_1 (by decide) (by subst q38; decide) (by decide) ?_
    refine r_iload_n (x := x2) dX4_join_130 rfl ?_
    refine r_if_eq 142 dX4_join_131 (by decide) (fun q => ?_) (fun q => ?_)
    · have h := h.1 q
      refine r_iconst (v := (0 : Int32)) dX4_join_142 (by decide) ?_
      refine r_cSi (As := [.int (0 : Int32)]) (rest := []) dX4_join_143 ms_X4_truth ml_RX4_61 ⟨Nat.le_of_ble_eq_true rfl, Nat.le_of_ble_eq_true rfl⟩ ⟨rfl, rfl⟩ rfl rfl (Nat.le_of_ble_eq_true rfl) h (fun x22 V21 h => ?_)
      exact r_iret dX4_join_146 rfl ⟨Nat.le_of_ble_eq_true rfl, Nat.le_of_ble_eq_true rfl⟩ ⟨rfl, _, rfl, h⟩
    · have h := h.2 q
      refine r_iload_n (x := x3) dX4_join_134 rfl ?_
      refine r_if_eq 142 dX4_join_135 (by decide) (fun q => ?_) (fun q => ?_)
      · have h := h.1 q
        refine r_iconst (v := (0 : Int32)) dX4_join_142 (by decide) ?_
        refine r_cSi (As := [.int (0 : Int32)]) (rest := []) dX4_join_143 ms_X4_truth ml_RX4_61 ⟨Nat.le_of_ble_eq_true rfl, Nat.le_of_ble_eq_true rfl⟩ ⟨rfl, rfl⟩ rfl rfl (Nat.le_of_ble_eq_true rfl) h (fun x24 V23 h => ?_)
        exact r_iret dX4_join_146 rfl ⟨Nat.le_of_ble_eq_true rfl, Nat.le_of_ble_eq_true rfl⟩ ⟨rfl, _, rfl, h⟩
      · have h := h.2 q
        refine r_iconst (v := (1 : Int32)) dX4_join_138 (by decide) ?_
        refine r_goto 143 dX4_join_139 (by decide) ?_
        refine r_cSi (As := [.int (1 : Int32)]) (rest := []) dX4_join_143 ms_X4_truth ml_RX4_61 ⟨Nat.le_of_ble_eq_true rfl, Nat.le_of_ble_eq_true rfl⟩ ⟨rfl, rfl⟩ rfl rfl (Nat.le_of_ble_eq_true rfl) h (fun x26 V25 h => ?_)
        exact r_iret dX4_join_146 rfl ⟨Nat.le_of_ble_eq_true rfl, Nat.le_of_ble_eq_true rfl⟩ ⟨rfl, _, rfl, h⟩
  by_cases q42 : x1 = (42 : Int32)
  · have h := h.2.1 q42
    refine r_look (off := 83) 84 dX4_join_1 (by decide) (by subst q42; decide) (by decide) ?_
    refine r_iload_n (x := x2) dX4_join_84 rfl ?_
    refine r_iload_n (x := x3) dX4_join_85 rfl ?_
    refine r_imul dX4_join_86 ?_
    exact r_iret dX4_join_87 rfl ⟨Nat.le_of_ble_eq_true rfl, Nat.le_of_ble_eq_true rfl⟩ ⟨rfl, _, rfl, h⟩
  by_cases q43 : x1 = (43 : Int32)
  · have h := h.2.2.1 q43
    refine r_look (off := 75) 76 dX4_join_1 (by decide) (by subst q43; decide) (by decide) ?_
    refine r_iload_n (x := x2) dX4_join_76 rfl ?_
    refine r_iload_n (x := x3) dX4_join_77 rfl ?_
    refine r_iadd dX4_join_78 ?_
    exact r_iret dX4_join_79 rfl ⟨Nat.le_of_ble_eq_true rfl, Nat.le_of_ble_eq_true rfl⟩ ⟨rfl, _, rfl, h⟩
  by_cases q45 : x1 = (45 : Int32)
  · have h := h.2.2.2.1 q45
    refine r_look (off := 79) 80 dX4_join_1 (by decide) (by subst q45; decide) (by decide) ?_
    refine r_iload_n (x := x2) dX4_join_80 rfl ?_
    refine r_iload_n (x := x3) dX4_join_81 rfl ?_
    refine r_isub dX4_join_82 ?_
    exact r_iret dX4_join_83 rfl ⟨Nat.le_of_ble_eq_true rfl, Nat.le_of_ble_eq_true rfl⟩ ⟨rfl, _, rfl, h⟩
  by_cases q60 : x1 = (60 : Int32)
  · have h := h.2.2.2.2.1 q60
    refine r_look (off := 87) 88 dX4_join_1 (by decide) (by subst q60; decide) (by decide) ?_
    refine r_iload_n (x := x2) dX4_join_88 rfl ?_
    refine r_iload_n (x := x3) dX4_join_89 rfl ?_
    refine r_icmp_ge 97 dX4_join_90 (by decide) (fun q => ?_) (fun q => ?_)
    · have h := h.1 q
      refine r_iconst (v := (0 : Int32)) dX4_join_97 (by decide) ?_
      refine r_cSi (As := [.int (0 : Int32)]) (rest := []) dX4_join_98 ms_X4_truth ml_RX4_61 ⟨Nat.le_of_ble_eq_true rfl, Nat.le_of_ble_eq_true rfl⟩ ⟨rfl, rfl⟩ rfl rfl (Nat.le_of_ble_eq_true rfl) h (fun x28 V27 h => ?_)
      exact r_iret dX4_join_101 rfl ⟨Nat.le_of_ble_eq_true rfl, Nat.le_of_ble_eq_true rfl⟩ ⟨rfl, _, rfl, h⟩
    · have h := h.2 q
      refine r_iconst (v := (1 : Int32)) dX4_join_93 (by decide) ?_
      refine r_goto 98 dX4_join_94 (by decide) ?_
      refine r_cSi (As := [.int (1 : Int32)]) (rest := []) dX4_join_98 ms_X4_truth ml_RX4_61 ⟨Nat.le_of_ble_eq_true rfl, Nat.le_of_ble_eq_true rfl⟩ ⟨rfl, rfl⟩ rfl rfl (Nat.le_of_ble_eq_true rfl) h (fun x30 V29 h => ?_)
      exact r_iret dX4_join_101 rfl ⟨Nat.le_of_ble_eq_true rfl, Nat.le_of_ble_eq_true rfl⟩ ⟨rfl, _, rfl, h⟩
  by_cases q61 : x1 = (61 : Int32)
  · have h := h.2.2.2.2.2.1 q61
    refine r_look (off := 101) 102 dX4_join_1 (by decide) (by subst q61; decide) (by decide) ?_
    refine r_iload_n (x := x2) dX4_join_102 rfl ?_
    refine r_iload_n (x := x3) dX4_join_103 rfl ?_
    refine r_icmp_ne 111 dX4_join_104 (by decide) (fun q => ?_) (fun q => ?_)
    · have h := h.1 q
      refine r_iconst (v := (0 : Int32)) dX4_join_111 (by decide) ?_
      refine r_cSi (As := [.int (0 : Int32)]) (rest := []) dX4_join_112 ms_X4_truth ml_RX4_61 ⟨Nat.le_of_ble_eq_true rfl, Nat.le_of_ble_eq_true rfl⟩ ⟨rfl, rfl⟩ rfl rfl (Nat.le_of_ble_eq_true rfl) h (fun x32 V31 h => ?_)
      exact r_iret dX4_join_115 rfl ⟨Nat.le_of_ble_eq_true rfl, Nat.le_of_ble_eq_true rfl⟩ ⟨rfl, _, rfl, h⟩
    · have h := h.2 q
      refine r_iconst (v := (1 : Int32)) dX4_join_107 (by decide) ?_
      refine r_goto 112 dX4_join_108 (by decide) ?_
      refine r_cSi (As := [.int (1 : Int32)]) (rest := []) dX4_join_112 ms_X4_truth ml_RX4_61 ⟨Nat.le_of_ble_eq_true rfl, Nat.le_of_ble_eq_true rfl⟩ ⟨rfl, rfl⟩ rfl rfl (Nat.le_of_ble_eq_true rfl) h (fun x34 V33 h => ?_)
      exact r_iret dX4_join_115 rfl ⟨Nat.le_of_ble_eq_true rfl, Nat.le_of_ble_eq_true rfl⟩ ⟨rfl, _, rfl, h⟩
  by_cases q62 : x1 = (62 : Int32)
  · have h := h.2.2.2.2.2.2.1 q62
    refine r_look (off := 115) 116 dX4_join_1 (by decide) (by subst q62; decide) (by decide) ?_
    refine r_iload_n (x := x2) dX4_join_116 rfl ?_
    refine r_iload_n (x := x3) dX4_join_117 rfl ?_
    refine r_icmp_le 125 dX4_join_118 (by decide) (fun q => ?_) (fun q => ?_)
    · have h := h.1 q
      refine r_iconst (v := (0 : Int32)) dX4_join_125 (by decide) ?_
      refine r_cSi (As := [.int (0 : Int32)]) (rest := []) dX4_join_126 ms_X4_truth ml_RX4_61 ⟨Nat.le_of_ble_eq_true rfl, Nat.le_of_ble_eq_true rfl⟩ ⟨rfl, rfl⟩ rfl rfl (Nat.le_of_ble_eq_true rfl) h (fun x36 V35 h => ?_)
      exact r_iret dX4_join_129 rfl ⟨Nat.le_of_ble_eq_true rfl, Nat.le_of_ble_eq_true rfl⟩ ⟨rfl, _, rfl, h⟩
    · have h := h.2 q
      refine r_iconst (v := (1 : Int32)) dX4_join_121 (by decide) ?_
      refine r_goto 126 dX4_join_122 (by decide) ?_
      refine r_cSi (As := [.int (1 : Int32)]) (rest := []) dX4_join_126 ms_X4_truth ml_RX4_61 ⟨Nat.le_of_ble_eq_true rfl, Nat.le_of_ble_eq_true rfl⟩ ⟨rfl, rfl⟩ rfl rfl (Nat.le_of_ble_eq_true rfl) h (fun x38 V37 h => ?_)
      exact r_iret dX4_join_129 rfl ⟨Nat.le_of_ble_eq_true rfl, Nat.le_of_ble_eq_true rfl⟩ ⟨rfl, _, rfl, h⟩
  by_cases q124 : x1 = (124 : Int32)
  · have h := h.2.2.2.2.2.2.2.1 q124
    refine r_look (off := 146) 147 dX4_join_1 (by decide) (by subst q124; decide) (by decide) ?_
    refine r_iload_n (x := x2) dX4_join_147 rfl ?_
    refine r_if_ne 155 dX4_join_148 (by decide) (fun q => ?_) (fun q => ?_)
    · have h := h.1 q
      refine r_iconst (v := (1 : Int32)) dX4_join_155 (by decide) ?_
      refine r_goto 160 dX4_join_156 (by decide) ?_
      refine r_cSi (As := [.int (1 : Int32)]) (rest := []) dX4_join_160 ms_X4_truth ml_RX4_61 ⟨Nat.le_of_ble_eq_true rfl, Nat.le_of_ble_eq_true rfl⟩ ⟨rfl, rfl⟩ rfl rfl (Nat.le_of_ble_eq_true rfl) h (fun x40 V39 h => ?_)
      exact r_iret dX4_join_163 rfl ⟨Nat.le_of_ble_eq_true rfl, Nat.le_of_ble_eq_true rfl⟩ ⟨rfl, _, rfl, h⟩
    · have h := h.2 q
      refine r_iload_n (x := x3) dX4_join_151 rfl ?_
      refine r_if_eq 159 dX4_join_152 (by decide) (fun q => ?_) (fun q => ?_)
      · have h := h.1 q
        refine r_iconst (v := (0 : Int32)) dX4_join_159 (by decide) ?_
        refine r_cSi (As := [.int (0 : Int32)]) (rest := []) dX4_join_160 ms_X4_truth ml_RX4_61 ⟨Nat.le_of_ble_eq_true rfl, Nat.le_of_ble_eq_true rfl⟩ ⟨rfl, rfl⟩ rfl rfl (Nat.le_of_ble_eq_true rfl) h (fun x42 V41 h => ?_)
        exact r_iret dX4_join_163 rfl ⟨Nat.le_of_ble_eq_true rfl, Nat.le_of_ble_eq_true rfl⟩ ⟨rfl, _, rfl, h⟩
      · have h := h.2 q
        refine r_iconst (v := (1 : Int32)) dX4_join_155 (by decide) ?_
        refine r_goto 160 dX4_join_156 (by decide) ?_
        refine r_cSi (As := [.int (1 : Int32)]) (rest := []) dX4_join_160 ms_X4_truth ml_RX4_61 ⟨Nat.le_of_ble_eq_true rfl, Nat.le_of_ble_eq_true rfl⟩ ⟨rfl, rfl⟩ rfl rfl (Nat.le_of_ble_eq_true rfl) h (fun x44 V43 h => ?_)
        exact r_iret dX4_join_163 rfl ⟨Nat.le_of_ble_eq_true rfl, Nat.le_of_ble_eq_true rfl⟩ ⟨rfl, _, rfl, h⟩
  · have h := h.2.2.2.2.2.2.2.2 ⟨q38, q42, q43, q45, q60, q61, q62, q124⟩
    refine r_look 164 dX4_join_1 (by decide) (by show Op.lookupswitch.offset [(38, 129), (42, 83), (43, 75), (45, 79), (60, 87), (61, 101), (62, 115), (124, 146)] 163 (x1).toInt = 163; rw [lv_osw (a := 38) q38 rfl, lv_osw (a := 42) q42 rfl, lv_osw (a := 43) q43 rfl, lv_osw (a := 45) q45 rfl, lv_osw (a := 60) q60 rfl, lv_osw (a := 61) q61 rfl, lv_osw (a := 62) q62 rfl, lv_osw (a := 124) q124 rfl]; rfl) (by decide) ?_
    refine r_iconst (v := (0 : Int32)) dX4_join_164 (by decide) ?_
    exact r_iret dX4_join_165 rfl ⟨Nat.le_of_ble_eq_true rfl, Nat.le_of_ble_eq_true rfl⟩ ⟨rfl, _, rfl, h⟩
abbrev rm_X4_valueOf : Room := { frames := 8, cells := 0, slots := 0, locals := 181 }
def C_X4_valueOf (l : Launch) (G : Gt) (E : Et) (V : Vt) (o1 : Option Nat) (K : Int32 → Vt → Prop) : Prop := Cl l G yX4_valueOf cX4_valueOf 5 (some .int) rm_X4_valueOf E V [.ref (eA E 4 0), va_rf (Option.map (eA E 7) o1)] (Qi E K)
def A_X4_valueOf_16 (l : Launch) (G : Gt) (E : Et) (V : Vt) (o1 : Nat) (x2 : Int32) (x3 : Int32) (K : Int32 → Vt → Prop) : Prop := Ev l G RX4 cX4_valueOf 5 (some .int) rm_X4_valueOf E 0 0 V 16 [(0, .ref (eA E 4 0)), (1, .ref (eA E 7 o1)), (2, .int x2), (3, .int x3)] [] (Qi E K)
def vc_X4_valueOf (l : Launch) (G : Gt) (E : Et) (V : Vt) (o1 : Option Nat) (K : Int32 → Vt → Prop) : Prop := ((o1 = none → K (0 : Int32) V) ∧ (∀ t21, o1 = some t21 → eL E 7 t21 ∧ A_X4_valueOf_16 l G E V t21 (0 : Int32) ((Int32.ofNat (eN E 800 t21)) - (1 : Int32)) K))
def vc_X4_valueOf_16 (l : Launch) (G : Gt) (E : Et) (V : Vt) (o1 : Nat) (x2 : Int32) (x3 : Int32) (K : Int32 → Vt → Prop) : Prop := ((x3 < (0 : Int32) → ((x2 ≤ (0 : Int32) → K (0 : Int32) V) ∧ (¬ x2 ≤ (0 : Int32) → (vp_in (x2 - (1 : Int32)) 100) ∧ K (V 501 0 ((x2 - (1 : Int32))).toNatClampNeg) V))) ∧ (¬ x3 < (0 : Int32) → (vp_in x3 (eN E 800 o1)) ∧ (C_X4_isSign l G E V (V 800 o1 (x3).toNatClampNeg) (fun x23 V22 => ((¬ x23 = (0 : Int32) → ((¬ (V 800 o1 (x3).toNatClampNeg) = (-33 : Int32) → ((x2 < (2 : Int32) → A_X4_valueOf_16 l G E V22 o1 x2 (x3 + (-1 : Int32)) K) ∧ (¬ x2 < (2 : Int32) → (vp_in (x2 + (-1 : Int32)) 100) ∧ (vp_in ((x2 + (-1 : Int32)) - (1 : Int32)) 100) ∧ (C_X4_join l G E V22 (-(V 800 o1 (x3).toNatClampNeg)) (V22 501 0 ((x2 + (-1 : Int32))).toNatClampNeg) (V22 501 0 (((x2 + (-1 : Int32)) - (1 : Int32))).toNatClampNeg) (fun x25 V24 => (vp_in ((x2 + (-1 : Int32)) - (1 : Int32)) 100) ∧ A_X4_valueOf_16 l G E (up3 V24 501 0 (((x2 + (-1 : Int32)) - (1 : Int32))).toNatClampNeg x25) o1 (x2 + (-1 : Int32)) (x3 + (-1 : Int32)) K))))) ∧ ((V 800 o1 (x3).toNatClampNeg) = (-33 : Int32) → ((x2 < (1 : Int32) → A_X4_valueOf_16 l G E V22 o1 x2 (x3 + (-1 : Int32)) K) ∧ (¬ x2 < (1 : Int32) → (vp_in (x2 - (1 : Int32)) 100) ∧ ((¬ (V22 501 0 ((x2 - (1 : Int32))).toNatClampNeg) = (0 : Int32) → (C_X4_truth l G E V22 (0 : Int32) (fun x27 V26 => (vp_in (x2 - (1 : Int32)) 100) ∧ A_X4_valueOf_16 l G E (up3 V26 501 0 ((x2 - (1 : Int32))).toNatClampNeg x27) o1 x2 (x3 + (-1 : Int32)) K))) ∧ ((V22 501 0 ((x2 - (1 : Int32))).toNatClampNeg) = (0 : Int32) → (C_X4_truth l G E V22 (1 : Int32) (fun x29 V28 => (vp_in (x2 - (1 : Int32)) 100) ∧ A_X4_valueOf_16 l G E (up3 V28 501 0 ((x2 - (1 : Int32))).toNatClampNeg x29) o1 x2 (x3 + (-1 : Int32)) K))))))))) ∧ (x23 = (0 : Int32) → (((100 : Int32) ≤ x2 → A_X4_valueOf_16 l G E V22 o1 x2 (x3 + (-1 : Int32)) K) ∧ (¬ (100 : Int32) ≤ x2 → (C_X4_meaningOf l G E V22 (V 800 o1 (x3).toNatClampNeg) (fun x31 V30 => (vp_in x2 100) ∧ A_X4_valueOf_16 l G E (up3 V30 501 0 (x2).toNatClampNeg x31) o1 (x2 + (1 : Int32)) (x3 + (-1 : Int32)) K))))))))))
theorem ok_X4_valueOf {l : Launch} {G : Gt} {E : Et} {V : Vt} {o1 : Option Nat} {K : Int32 → Vt → Prop} (hE : Sg E)  (h : vc_X4_valueOf l G E V o1 K) : C_X4_valueOf l G E V o1 K := by
  unfold vc_X4_valueOf at h
  refine Cl.of (by decide +kernel) (by cases o1 <;> exact Nat.le_of_ble_eq_true rfl) (show Ev l G RX4 cX4_valueOf 5 (some .int) rm_X4_valueOf E 0 0 V 0 [(0, .ref (eA E 4 0)), (1, va_rf (Option.map (eA E 7) o1))] [] (Qi E K) from ?_)
  refine r_aload_n (v := va_rf (Option.map (eA E 7) o1)) dX4_valueOf_0 rfl (rl_rf _) ?_
  cases hot21 : o1 with
  | none =>
    have h := h.1 hot21
    refine r_ifnonnull (o := none) 6 dX4_valueOf_1 (by decide) (fun a q => by cases q) (fun _ => ?_)
    refine r_iconst (v := (0 : Int32)) dX4_valueOf_4 (by decide) ?_
    exact r_iret dX4_valueOf_5 rfl ⟨Nat.le_of_ble_eq_true rfl, Nat.le_of_ble_eq_true rfl⟩ ⟨rfl, _, rfl, h⟩
  | some t21 =>
    obtain ⟨hl_t21, h⟩ := h.2 t21 hot21
    refine r_ifnonnull (o := some (eA E 7 t21)) 6 dX4_valueOf_1 (by decide) (fun _ _ => ?_) (fun q => by cases q)
    refine r_iconst (v := (0 : Int32)) dX4_valueOf_6 (by decide) ?_
    refine r_istore_n dX4_valueOf_7 (by decide) ?_
    refine r_aload_n (v := .ref (eA E 7 t21)) dX4_valueOf_8 rfl (rl_ref _) ?_
    refine r_get (v := .ref (eA E 800 t21)) dX4_valueOf_9 fl_RX4_48 hl_t21 rfl ?_
    refine r_alenI dX4_valueOf_12 rfl (by decide) hl_t21 ?_
    refine r_iconst (v := (1 : Int32)) dX4_valueOf_13 (by decide) ?_
    refine r_isub dX4_valueOf_14 ?_
    refine r_istore_n dX4_valueOf_15 (by decide) ?_
    exact Ev.loc [0, 1, 2, 3] rfl h
theorem ok_X4_valueOf_16 {l : Launch} {G : Gt} {E : Et} {V : Vt} {o1 : Nat} {x2 : Int32} {x3 : Int32} {K : Int32 → Vt → Prop} (hE : Sg E) (hl_o1 : eL E 7 o1) (h : vc_X4_valueOf_16 l G E V o1 x2 x3 K) : A_X4_valueOf_16 l G E V o1 x2 x3 K := by
  unfold vc_X4_valueOf_16 at h
  unfold A_X4_valueOf_16
  refine r_iload_n (x := x3) dX4_valueOf_16 rfl ?_
  refine r_if_lt 144 dX4_valueOf_17 (by decide) (fun q => ?_) (fun q => ?_)
  · have h := h.1 q
    refine r_iload_n (x := x2) dX4_valueOf_144 rfl ?_
    refine r_if_le 159 dX4_valueOf_145 (by decide) (fun q => ?_) (fun q => ?_)
    · have h := h.1 q
      refine r_iconst (v := (0 : Int32)) dX4_valueOf_159 (by decide) ?_
      exact r_iret dX4_valueOf_160 rfl ⟨Nat.le_of_ble_eq_true rfl, Nat.le_of_ble_eq_true rfl⟩ ⟨rfl, _, rfl, h⟩
    · have h := h.2 q
      refine r_aload_n (v := .ref (eA E 4 0)) dX4_valueOf_148 rfl (rl_ref _) ?_
      refine r_get (v := .ref (eA E 501 0)) dX4_valueOf_149 fl_RX4_23 (hE.1 4 (by decide)) rfl ?_
      refine r_iload_n (x := x2) dX4_valueOf_152 rfl ?_
      refine r_iconst (v := (1 : Int32)) dX4_valueOf_153 (by decide) ?_
      refine r_isub dX4_valueOf_154 ?_
      obtain ⟨hb, h⟩ := h
      refine r_iald dX4_valueOf_155 rfl (by decide) (hE.1 4 (by decide)) (ix hE (by decide) rfl hb) ?_
      refine r_goto 160 dX4_valueOf_156 (by decide) ?_
      exact r_iret dX4_valueOf_160 rfl ⟨Nat.le_of_ble_eq_true rfl, Nat.le_of_ble_eq_true rfl⟩ ⟨rfl, _, rfl, h⟩
  · have h := h.2 q
    refine r_aload_n (v := .ref (eA E 7 o1)) dX4_valueOf_20 rfl (rl_ref _) ?_
    refine r_get (v := .ref (eA E 800 o1)) dX4_valueOf_21 fl_RX4_48 hl_o1 rfl ?_
    refine r_iload_n (x := x3) dX4_valueOf_24 rfl ?_
    obtain ⟨hb, h⟩ := h
    refine r_iald dX4_valueOf_25 rfl (by decide) hl_o1 hb ?_
    refine r_istore dX4_valueOf_26 (by decide) ?_
    refine r_iload (x := (V 800 o1 (x3).toNatClampNeg)) dX4_valueOf_28 rfl ?_
    refine r_cSi (As := [.int (V 800 o1 (x3).toNatClampNeg)]) (rest := []) dX4_valueOf_30 ms_X4_isSign ml_RX4_53 ⟨Nat.le_of_ble_eq_true rfl, Nat.le_of_ble_eq_true rfl⟩ ⟨rfl, rfl⟩ rfl rfl (Nat.le_of_ble_eq_true rfl) h (fun x23 V22 h => ?_)
    refine r_if_ne 60 dX4_valueOf_33 (by decide) (fun q => ?_) (fun q => ?_)
    · have h := h.1 q
      refine r_iload (x := (V 800 o1 (x3).toNatClampNeg)) dX4_valueOf_60 rfl ?_
      refine r_bipush (v := (-33 : Int32)) dX4_valueOf_62 (by decide) ?_
      refine r_icmp_ne 102 dX4_valueOf_64 (by decide) (fun q => ?_) (fun q => ?_)
      · have h := h.1 q
        refine r_iload_n (x := x2) dX4_valueOf_102 rfl ?_
        refine r_iconst (v := (2 : Int32)) dX4_valueOf_103 (by decide) ?_
        refine r_icmp_lt 138 dX4_valueOf_104 (by decide) (fun q => ?_) (fun q => ?_)
        · have h := h.1 q
          refine r_iinc (x := x3) (v := (-1 : Int32)) dX4_valueOf_138 rfl (by decide) (by decide) ?_
          refine r_goto 16 dX4_valueOf_141 (by decide) ?_
          exact Ev.loc [0, 1, 2, 3] rfl h
        · have h := h.2 q
          refine r_iinc (x := x2) (v := (-1 : Int32)) dX4_valueOf_107 rfl (by decide) (by decide) ?_
          refine r_aload_n (v := .ref (eA E 4 0)) dX4_valueOf_110 rfl (rl_ref _) ?_
          refine r_get (v := .ref (eA E 501 0)) dX4_valueOf_111 fl_RX4_23 (hE.1 4 (by decide)) rfl ?_
          refine r_iload_n (x := (x2 + (-1 : Int32))) dX4_valueOf_114 rfl ?_
          refine r_iconst (v := (1 : Int32)) dX4_valueOf_115 (by decide) ?_
          refine r_isub dX4_valueOf_116 ?_
          refine r_iload (x := (V 800 o1 (x3).toNatClampNeg)) dX4_valueOf_117 rfl ?_
          refine r_ineg dX4_valueOf_119 ?_
          refine r_aload_n (v := .ref (eA E 4 0)) dX4_valueOf_120 rfl (rl_ref _) ?_
          refine r_get (v := .ref (eA E 501 0)) dX4_valueOf_121 fl_RX4_23 (hE.1 4 (by decide)) rfl ?_
          refine r_iload_n (x := (x2 + (-1 : Int32))) dX4_valueOf_124 rfl ?_
          obtain ⟨hb, h⟩ := h
          refine r_iald dX4_valueOf_125 rfl (by decide) (hE.1 4 (by decide)) (ix hE (by decide) rfl hb) ?_
          refine r_aload_n (v := .ref (eA E 4 0)) dX4_valueOf_126 rfl (rl_ref _) ?_
          refine r_get (v := .ref (eA E 501 0)) dX4_valueOf_127 fl_RX4_23 (hE.1 4 (by decide)) rfl ?_
          refine r_iload_n (x := (x2 + (-1 : Int32))) dX4_valueOf_130 rfl ?_
          refine r_iconst (v := (1 : Int32)) dX4_valueOf_131 (by decide) ?_
          refine r_isub dX4_valueOf_132 ?_
          obtain ⟨hb, h⟩ := h
          refine r_iald dX4_valueOf_133 rfl (by decide) (hE.1 4 (by decide)) (ix hE (by decide) rfl hb) ?_
          refine r_cSi (As := [.int (-(V 800 o1 (x3).toNatClampNeg)), .int (V22 501 0 ((x2 + (-1 : Int32))).toNatClampNeg), .int (V22 501 0 (((x2 + (-1 : Int32)) - (1 : Int32))).toNatClampNeg)]) (rest := [.int ((x2 + (-1 : Int32)) - (1 : Int32)), .ref (eA E 501 0)]) dX4_valueOf_134 ms_X4_join ml_RX4_65 ⟨Nat.le_of_ble_eq_true rfl, Nat.le_of_ble_eq_true rfl⟩ ⟨rfl, rfl⟩ rfl rfl (Nat.le_of_ble_eq_true rfl) h (fun x25 V24 h => ?_)
          obtain ⟨hb, h⟩ := h
          refine r_iast dX4_valueOf_137 rfl (by decide) (hE.1 4 (by decide)) (ix hE (by decide) rfl hb) ?_
          refine r_iinc (x := x3) (v := (-1 : Int32)) dX4_valueOf_138 rfl (by decide) (by decide) ?_
          refine r_goto 16 dX4_valueOf_141 (by decide) ?_
          exact Ev.loc [0, 1, 2, 3] rfl h
      · have h := h.2 q
        refine r_iload_n (x := x2) dX4_valueOf_67 rfl ?_
        refine r_iconst (v := (1 : Int32)) dX4_valueOf_68 (by decide) ?_
        refine r_icmp_lt 138 dX4_valueOf_69 (by decide) (fun q => ?_) (fun q => ?_)
        · have h := h.1 q
          refine r_iinc (x := x3) (v := (-1 : Int32)) dX4_valueOf_138 rfl (by decide) (by decide) ?_
          refine r_goto 16 dX4_valueOf_141 (by decide) ?_
          exact Ev.loc [0, 1, 2, 3] rfl h
        · have h := h.2 q
          refine r_aload_n (v := .ref (eA E 4 0)) dX4_valueOf_72 rfl (rl_ref _) ?_
          refine r_get (v := .ref (eA E 501 0)) dX4_valueOf_73 fl_RX4_23 (hE.1 4 (by decide)) rfl ?_
          refine r_iload_n (x := x2) dX4_valueOf_76 rfl ?_
          refine r_iconst (v := (1 : Int32)) dX4_valueOf_77 (by decide) ?_
          refine r_isub dX4_valueOf_78 ?_
          refine r_aload_n (v := .ref (eA E 4 0)) dX4_valueOf_79 rfl (rl_ref _) ?_
          refine r_get (v := .ref (eA E 501 0)) dX4_valueOf_80 fl_RX4_23 (hE.1 4 (by decide)) rfl ?_
          refine r_iload_n (x := x2) dX4_valueOf_83 rfl ?_
          refine r_iconst (v := (1 : Int32)) dX4_valueOf_84 (by decide) ?_
          refine r_isub dX4_valueOf_85 ?_
          obtain ⟨hb, h⟩ := h
          refine r_iald dX4_valueOf_86 rfl (by decide) (hE.1 4 (by decide)) (ix hE (by decide) rfl hb) ?_
          refine r_if_ne 94 dX4_valueOf_87 (by decide) (fun q => ?_) (fun q => ?_)
          · have h := h.1 q
            refine r_iconst (v := (0 : Int32)) dX4_valueOf_94 (by decide) ?_
            refine r_cSi (As := [.int (0 : Int32)]) (rest := [.int (x2 - (1 : Int32)), .ref (eA E 501 0)]) dX4_valueOf_95 ms_X4_truth ml_RX4_61 ⟨Nat.le_of_ble_eq_true rfl, Nat.le_of_ble_eq_true rfl⟩ ⟨rfl, rfl⟩ rfl rfl (Nat.le_of_ble_eq_true rfl) h (fun x27 V26 h => ?_)
            obtain ⟨hb, h⟩ := h
            refine r_iast dX4_valueOf_98 rfl (by decide) (hE.1 4 (by decide)) (ix hE (by decide) rfl hb) ?_
            refine r_goto 138 dX4_valueOf_99 (by decide) ?_
            refine r_iinc (x := x3) (v := (-1 : Int32)) dX4_valueOf_138 rfl (by decide) (by decide) ?_
            refine r_goto 16 dX4_valueOf_141 (by decide) ?_
            exact Ev.loc [0, 1, 2, 3] rfl h
          · have h := h.2 q
            refine r_iconst (v := (1 : Int32)) dX4_valueOf_90 (by decide) ?_
            refine r_goto 95 dX4_valueOf_91 (by decide) ?_
            refine r_cSi (As := [.int (1 : Int32)]) (rest := [.int (x2 - (1 : Int32)), .ref (eA E 501 0)]) dX4_valueOf_95 ms_X4_truth ml_RX4_61 ⟨Nat.le_of_ble_eq_true rfl, Nat.le_of_ble_eq_true rfl⟩ ⟨rfl, rfl⟩ rfl rfl (Nat.le_of_ble_eq_true rfl) h (fun x29 V28 h => ?_)
            obtain ⟨hb, h⟩ := h
            refine r_iast dX4_valueOf_98 rfl (by decide) (hE.1 4 (by decide)) (ix hE (by decide) rfl hb) ?_
            refine r_goto 138 dX4_valueOf_99 (by decide) ?_
            refine r_iinc (x := x3) (v := (-1 : Int32)) dX4_valueOf_138 rfl (by decide) (by decide) ?_
            refine r_goto 16 dX4_valueOf_141 (by decide) ?_
            exact Ev.loc [0, 1, 2, 3] rfl h
    · have h := h.2 q
      refine r_iload_n (x := x2) dX4_valueOf_36 rfl ?_
      refine r_bipush (v := (100 : Int32)) dX4_valueOf_37 (by decide) ?_
      refine r_icmp_ge 138 dX4_valueOf_39 (by decide) (fun q => ?_) (fun q => ?_)
      · have h := h.1 q
        refine r_iinc (x := x3) (v := (-1 : Int32)) dX4_valueOf_138 rfl (by decide) (by decide) ?_
        refine r_goto 16 dX4_valueOf_141 (by decide) ?_
        exact Ev.loc [0, 1, 2, 3] rfl h
      · have h := h.2 q
        refine r_aload_n (v := .ref (eA E 4 0)) dX4_valueOf_42 rfl (rl_ref _) ?_
        refine r_get (v := .ref (eA E 501 0)) dX4_valueOf_43 fl_RX4_23 (hE.1 4 (by decide)) rfl ?_
        refine r_iload_n (x := x2) dX4_valueOf_46 rfl ?_
        refine r_aload_n (v := .ref (eA E 4 0)) dX4_valueOf_47 rfl (rl_ref _) ?_
        refine r_iload (x := (V 800 o1 (x3).toNatClampNeg)) dX4_valueOf_48 rfl ?_
        refine r_cVi (As := [.int (V 800 o1 (x3).toNatClampNeg)]) (rest := [.int x2, .ref (eA E 501 0)]) dX4_valueOf_50 mv_X4_meaningOf ml_RX4_57 ⟨_, _, rfl⟩ (hE.1 4 (by decide)) ⟨Nat.le_of_ble_eq_true rfl, Nat.le_of_ble_eq_true rfl⟩ ⟨rfl, rfl⟩ rfl rfl (Nat.le_of_ble_eq_true rfl) h (fun x31 V30 h => ?_)
        obtain ⟨hb, h⟩ := h
        refine r_iast dX4_valueOf_53 rfl (by decide) (hE.1 4 (by decide)) (ix hE (by decide) rfl hb) ?_
        refine r_iinc (x := x2) (v := (1 : Int32)) dX4_valueOf_54 rfl (by decide) (by decide) ?_
        refine r_goto 138 dX4_valueOf_57 (by decide) ?_
        refine r_iinc (x := x3) (v := (-1 : Int32)) dX4_valueOf_138 rfl (by decide) (by decide) ?_
        refine r_goto 16 dX4_valueOf_141 (by decide) ?_
        exact Ev.loc [0, 1, 2, 3] rfl h
abbrev rm_X4_endOf : Room := { frames := 9, cells := 0, slots := 0, locals := 205 }
def C_X4_endOf (l : Launch) (G : Gt) (E : Et) (V : Vt) (o1 : Nat) (K : Int32 → Vt → Prop) : Prop := Cl l G yX4_endOf cX4_endOf 2 (some .int) rm_X4_endOf E V [.ref (eA E 4 0), .ref (eA E 1 o1)] (Qi E K)
def vc_X4_endOf (l : Launch) (G : Gt) (E : Et) (V : Vt) (o1 : Nat) (K : Int32 → Vt → Prop) : Prop := (((eR E 201 o1) = none → K (1 : Int32) V) ∧ (∀ t21, (eR E 201 o1) = some t21 → eL E 7 t21 ∧ (C_X4_valueOf l G E V (eR E 201 o1) (fun x23 V22 => K x23 V22))))
theorem ok_X4_endOf {l : Launch} {G : Gt} {E : Et} {V : Vt} {o1 : Nat} {K : Int32 → Vt → Prop} (hE : Sg E) (hl_o1 : eL E 1 o1) (h : vc_X4_endOf l G E V o1 K) : C_X4_endOf l G E V o1 K := by
  unfold vc_X4_endOf at h
  refine Cl.of (by decide +kernel) (Nat.le_of_ble_eq_true rfl) (show Ev l G RX4 cX4_endOf 2 (some .int) rm_X4_endOf E 0 0 V 0 [(0, .ref (eA E 4 0)), (1, .ref (eA E 1 o1))] [] (Qi E K) from ?_)
  refine r_aload_n (v := .ref (eA E 1 o1)) dX4_endOf_0 rfl (rl_ref _) ?_
  refine r_get (v := va_rf (Option.map (eA E 7) (eR E 201 o1))) dX4_endOf_1 fl_RX4_38 hl_o1 rfl ?_
  cases hot21 : (eR E 201 o1) with
  | none =>
    have h := h.1 hot21
    refine r_ifnonnull (o := none) 11 dX4_endOf_4 (by decide) (fun a q => by cases q) (fun _ => ?_)
    refine r_iconst (v := (1 : Int32)) dX4_endOf_7 (by decide) ?_
    refine r_goto 19 dX4_endOf_8 (by decide) ?_
    exact r_iret dX4_endOf_19 rfl ⟨Nat.le_of_ble_eq_true rfl, Nat.le_of_ble_eq_true rfl⟩ ⟨rfl, _, rfl, h⟩
  | some t21 =>
    obtain ⟨hl_t21, h⟩ := h.2 t21 hot21
    refine r_ifnonnull (o := some (eA E 7 t21)) 11 dX4_endOf_4 (by decide) (fun _ _ => ?_) (fun q => by cases q)
    refine r_aload_n (v := .ref (eA E 4 0)) dX4_endOf_11 rfl (rl_ref _) ?_
    refine r_aload_n (v := .ref (eA E 1 o1)) dX4_endOf_12 rfl (rl_ref _) ?_
    refine r_get (v := va_rf (Option.map (eA E 7) (eR E 201 o1))) dX4_endOf_13 fl_RX4_38 hl_o1 rfl ?_
    refine r_cVi (As := [va_rf (Option.map (eA E 7) (eR E 201 o1))]) (rest := []) dX4_endOf_16 mv_X4_valueOf ml_RX4_44 ⟨_, _, rfl⟩ (hE.1 4 (by decide)) ⟨Nat.le_of_ble_eq_true rfl, Nat.le_of_ble_eq_true rfl⟩ ⟨rfl, rfl⟩ rfl rfl (Nat.le_of_ble_eq_true rfl) h (fun x23 V22 h => ?_)
    exact r_iret dX4_endOf_19 rfl ⟨Nat.le_of_ble_eq_true rfl, Nat.le_of_ble_eq_true rfl⟩ ⟨rfl, _, rfl, h⟩
abbrev rm_X6_take : Room := { frames := 0, cells := 0, slots := 0, locals := 0 }
def C_X6_take (l : Launch) (G : Gt) (E : Et) (V : Vt) (x1 : Int32) (x2 : Int32) (K : Vt → Prop) : Prop := Cl l G yX6_take cX6_take 4 none rm_X6_take E V [.ref (eA E 6 0), .int x1, .int x2] (Qv E K)
def A_X6_take_2 (l : Launch) (G : Gt) (E : Et) (V : Vt) (x1 : Int32) (x2 : Int32) (x3 : Int32) (K : Vt → Prop) : Prop := Ev l G RX6 cX6_take 4 none rm_X6_take E 0 0 V 2 [(0, .ref (eA E 6 0)), (1, .int x1), (2, .int x2), (3, .int x3)] [] (Qv E K)
def vc_X6_take (l : Launch) (G : Gt) (E : Et) (V : Vt) (x1 : Int32) (x2 : Int32) (K : Vt → Prop) : Prop := A_X6_take_2 l G E V x1 x2 (0 : Int32) K
def vc_X6_take_2 (l : Launch) (G : Gt) (E : Et) (V : Vt) (x1 : Int32) (x2 : Int32) (x3 : Int32) (K : Vt → Prop) : Prop := ((x1 ≤ x3 → K V) ∧ (¬ x1 ≤ x3 → (((100 : Int32) ≤ (V 703 0 0) → K V) ∧ (¬ (100 : Int32) ≤ (V 703 0 0) → (vp_in (V 703 0 0) 100) ∧ A_X6_take_2 l G E (up3 (up3 V 700 0 ((V 703 0 0)).toNatClampNeg ((x2 >>> (((8 : Int32) * x3) &&& 31)) &&& (255 : Int32))) 703 0 0 (((up3 V 700 0 ((V 703 0 0)).toNatClampNeg ((x2 >>> (((8 : Int32) * x3) &&& 31)) &&& (255 : Int32))) 703 0 0) + (1 : Int32))) x1 x2 (x3 + (1 : Int32)) K))))
theorem ok_X6_take {l : Launch} {G : Gt} {E : Et} {V : Vt} {x1 : Int32} {x2 : Int32} {K : Vt → Prop} (hE : Sg E)  (h : vc_X6_take l G E V x1 x2 K) : C_X6_take l G E V x1 x2 K := by
  unfold vc_X6_take at h
  refine Cl.of (by decide +kernel) (Nat.le_of_ble_eq_true rfl) (show Ev l G RX6 cX6_take 4 none rm_X6_take E 0 0 V 0 [(0, .ref (eA E 6 0)), (1, .int x1), (2, .int x2)] [] (Qv E K) from ?_)
  refine r_iconst (v := (0 : Int32)) dX6_take_0 (by decide) ?_
  refine r_istore_n dX6_take_1 (by decide) ?_
  exact Ev.loc [0, 1, 2, 3] rfl h
theorem ok_X6_take_2 {l : Launch} {G : Gt} {E : Et} {V : Vt} {x1 : Int32} {x2 : Int32} {x3 : Int32} {K : Vt → Prop} (hE : Sg E)  (h : vc_X6_take_2 l G E V x1 x2 x3 K) : A_X6_take_2 l G E V x1 x2 x3 K := by
  unfold vc_X6_take_2 at h
  unfold A_X6_take_2
  refine r_iload_n (x := x3) dX6_take_2 rfl ?_
  refine r_iload_n (x := x1) dX6_take_3 rfl ?_
  refine r_icmp_ge 51 dX6_take_4 (by decide) (fun q => ?_) (fun q => ?_)
  · have h := h.1 q
    exact r_vret dX6_take_51 rfl ⟨Nat.le_of_ble_eq_true rfl, Nat.le_of_ble_eq_true rfl⟩ ⟨rfl, rfl, h⟩
  · have h := h.2 q
    refine r_aload_n (v := .ref (eA E 6 0)) dX6_take_7 rfl (rl_ref _) ?_
    refine r_get (v := .int (V 703 0 0)) dX6_take_8 fl_RX6_21 (hE.1 6 (by decide)) rfl ?_
    refine r_bipush (v := (100 : Int32)) dX6_take_11 (by decide) ?_
    refine r_icmp_ge 51 dX6_take_13 (by decide) (fun q => ?_) (fun q => ?_)
    · have h := h.1 q
      exact r_vret dX6_take_51 rfl ⟨Nat.le_of_ble_eq_true rfl, Nat.le_of_ble_eq_true rfl⟩ ⟨rfl, rfl, h⟩
    · have h := h.2 q
      refine r_aload_n (v := .ref (eA E 6 0)) dX6_take_16 rfl (rl_ref _) ?_
      refine r_get (v := .ref (eA E 700 0)) dX6_take_17 fl_RX6_9 (hE.1 6 (by decide)) rfl ?_
      refine r_aload_n (v := .ref (eA E 6 0)) dX6_take_20 rfl (rl_ref _) ?_
      refine r_get (v := .int (V 703 0 0)) dX6_take_21 fl_RX6_21 (hE.1 6 (by decide)) rfl ?_
      refine r_iload_n (x := x2) dX6_take_24 rfl ?_
      refine r_bipush (v := (8 : Int32)) dX6_take_25 (by decide) ?_
      refine r_iload_n (x := x3) dX6_take_27 rfl ?_
      refine r_imul dX6_take_28 ?_
      refine r_ishr dX6_take_29 ?_
      refine r_sipush (v := (255 : Int32)) dX6_take_30 (by decide) ?_
      refine r_iand dX6_take_33 ?_
      obtain ⟨hb, h⟩ := h
      refine r_iast dX6_take_34 rfl (by decide) (hE.1 6 (by decide)) (ix hE (by decide) rfl hb) ?_
      refine r_aload_n (v := .ref (eA E 6 0)) dX6_take_35 rfl (rl_ref _) ?_
      refine r_dup dX6_take_36 rfl ?_
      refine r_get (v := .int ((up3 V 700 0 ((V 703 0 0)).toNatClampNeg ((x2 >>> (((8 : Int32) * x3) &&& 31)) &&& (255 : Int32))) 703 0 0)) dX6_take_37 fl_RX6_21 (hE.1 6 (by decide)) rfl ?_
      refine r_iconst (v := (1 : Int32)) dX6_take_40 (by decide) ?_
      refine r_iadd dX6_take_41 ?_
      refine r_put dX6_take_42 fp_RX6_21 rfl (hE.1 6 (by decide)) rfl rfl ?_
      refine r_iinc (x := x3) (v := (1 : Int32)) dX6_take_45 rfl (by decide) (by decide) ?_
      refine r_goto 2 dX6_take_48 (by decide) ?_
      exact Ev.loc [0, 1, 2, 3] rfl h
abbrev rm_X6_keep : Room := { frames := 0, cells := 0, slots := 0, locals := 0 }
def C_X6_keep (l : Launch) (G : Gt) (E : Et) (V : Vt) (x1 : Int32) (K : Vt → Prop) : Prop := Cl l G yX6_keep cX6_keep 2 none rm_X6_keep E V [.ref (eA E 6 0), .int x1] (Qv E K)
def vc_X6_keep (l : Launch) (G : Gt) (E : Et) (V : Vt) (x1 : Int32) (K : Vt → Prop) : Prop := (((100 : Int32) ≤ (V 704 0 0) → K V) ∧ (¬ (100 : Int32) ≤ (V 704 0 0) → (vp_in (V 704 0 0) 100) ∧ K (up3 (up3 V 701 0 ((V 704 0 0)).toNatClampNeg x1) 704 0 0 (((up3 V 701 0 ((V 704 0 0)).toNatClampNeg x1) 704 0 0) + (1 : Int32)))))
theorem ok_X6_keep {l : Launch} {G : Gt} {E : Et} {V : Vt} {x1 : Int32} {K : Vt → Prop} (hE : Sg E)  (h : vc_X6_keep l G E V x1 K) : C_X6_keep l G E V x1 K := by
  unfold vc_X6_keep at h
  refine Cl.of (by decide +kernel) (Nat.le_of_ble_eq_true rfl) (show Ev l G RX6 cX6_keep 2 none rm_X6_keep E 0 0 V 0 [(0, .ref (eA E 6 0)), (1, .int x1)] [] (Qv E K) from ?_)
  refine r_aload_n (v := .ref (eA E 6 0)) dX6_keep_0 rfl (rl_ref _) ?_
  refine r_get (v := .int (V 704 0 0)) dX6_keep_1 fl_RX6_27 (hE.1 6 (by decide)) rfl ?_
  refine r_bipush (v := (100 : Int32)) dX6_keep_4 (by decide) ?_
  refine r_icmp_ge 29 dX6_keep_6 (by decide) (fun q => ?_) (fun q => ?_)
  · have h := h.1 q
    exact r_vret dX6_keep_29 rfl ⟨Nat.le_of_ble_eq_true rfl, Nat.le_of_ble_eq_true rfl⟩ ⟨rfl, rfl, h⟩
  · have h := h.2 q
    refine r_aload_n (v := .ref (eA E 6 0)) dX6_keep_9 rfl (rl_ref _) ?_
    refine r_get (v := .ref (eA E 701 0)) dX6_keep_10 fl_RX6_15 (hE.1 6 (by decide)) rfl ?_
    refine r_aload_n (v := .ref (eA E 6 0)) dX6_keep_13 rfl (rl_ref _) ?_
    refine r_get (v := .int (V 704 0 0)) dX6_keep_14 fl_RX6_27 (hE.1 6 (by decide)) rfl ?_
    refine r_iload_n (x := x1) dX6_keep_17 rfl ?_
    obtain ⟨hb, h⟩ := h
    refine r_iast dX6_keep_18 rfl (by decide) (hE.1 6 (by decide)) (ix hE (by decide) rfl hb) ?_
    refine r_aload_n (v := .ref (eA E 6 0)) dX6_keep_19 rfl (rl_ref _) ?_
    refine r_dup dX6_keep_20 rfl ?_
    refine r_get (v := .int ((up3 V 701 0 ((V 704 0 0)).toNatClampNeg x1) 704 0 0)) dX6_keep_21 fl_RX6_27 (hE.1 6 (by decide)) rfl ?_
    refine r_iconst (v := (1 : Int32)) dX6_keep_24 (by decide) ?_
    refine r_iadd dX6_keep_25 ?_
    refine r_put dX6_keep_26 fp_RX6_27 rfl (hE.1 6 (by decide)) rfl rfl ?_
    exact r_vret dX6_keep_29 rfl ⟨Nat.le_of_ble_eq_true rfl, Nat.le_of_ble_eq_true rfl⟩ ⟨rfl, rfl, h⟩
abbrev rm_X6_openSign : Room := { frames := 1, cells := 0, slots := 0, locals := 21 }
def C_X6_openSign (l : Launch) (G : Gt) (E : Et) (V : Vt) (x1 : Int32) (K : Vt → Prop) : Prop := Cl l G yX6_openSign cX6_openSign 2 none rm_X6_openSign E V [.ref (eA E 6 0), .int x1] (Qv E K)
def vc_X6_openSign (l : Launch) (G : Gt) (E : Et) (V : Vt) (x1 : Int32) (K : Vt → Prop) : Prop := ((¬ x1 = (33 : Int32) → (vp_in (V 705 0 0) 20) ∧ (C_X6_keep l G E (up3 (up3 V 702 0 ((V 705 0 0)).toNatClampNeg (2 : Int32)) 705 0 0 (((up3 V 702 0 ((V 705 0 0)).toNatClampNeg (2 : Int32)) 705 0 0) + (1 : Int32))) (-x1) (fun V21 => K V21))) ∧ (x1 = (33 : Int32) → (vp_in (V 705 0 0) 20) ∧ (C_X6_keep l G E (up3 (up3 V 702 0 ((V 705 0 0)).toNatClampNeg (1 : Int32)) 705 0 0 (((up3 V 702 0 ((V 705 0 0)).toNatClampNeg (1 : Int32)) 705 0 0) + (1 : Int32))) (-x1) (fun V22 => K V22))))
theorem ok_X6_openSign {l : Launch} {G : Gt} {E : Et} {V : Vt} {x1 : Int32} {K : Vt → Prop} (hE : Sg E)  (h : vc_X6_openSign l G E V x1 K) : C_X6_openSign l G E V x1 K := by
  unfold vc_X6_openSign at h
  refine Cl.of (by decide +kernel) (Nat.le_of_ble_eq_true rfl) (show Ev l G RX6 cX6_openSign 2 none rm_X6_openSign E 0 0 V 0 [(0, .ref (eA E 6 0)), (1, .int x1)] [] (Qv E K) from ?_)
  refine r_aload_n (v := .ref (eA E 6 0)) dX6_openSign_0 rfl (rl_ref _) ?_
  refine r_get (v := .ref (eA E 702 0)) dX6_openSign_1 fl_RX6_18 (hE.1 6 (by decide)) rfl ?_
  refine r_aload_n (v := .ref (eA E 6 0)) dX6_openSign_4 rfl (rl_ref _) ?_
  refine r_get (v := .int (V 705 0 0)) dX6_openSign_5 fl_RX6_39 (hE.1 6 (by decide)) rfl ?_
  refine r_iload_n (x := x1) dX6_openSign_8 rfl ?_
  refine r_bipush (v := (33 : Int32)) dX6_openSign_9 (by decide) ?_
  refine r_icmp_ne 18 dX6_openSign_11 (by decide) (fun q => ?_) (fun q => ?_)
  · have h := h.1 q
    refine r_iconst (v := (2 : Int32)) dX6_openSign_18 (by decide) ?_
    obtain ⟨hb, h⟩ := h
    refine r_iast dX6_openSign_19 rfl (by decide) (hE.1 6 (by decide)) (ix hE (by decide) rfl hb) ?_
    refine r_aload_n (v := .ref (eA E 6 0)) dX6_openSign_20 rfl (rl_ref _) ?_
    refine r_dup dX6_openSign_21 rfl ?_
    refine r_get (v := .int ((up3 V 702 0 ((V 705 0 0)).toNatClampNeg (2 : Int32)) 705 0 0)) dX6_openSign_22 fl_RX6_39 (hE.1 6 (by decide)) rfl ?_
    refine r_iconst (v := (1 : Int32)) dX6_openSign_25 (by decide) ?_
    refine r_iadd dX6_openSign_26 ?_
    refine r_put dX6_openSign_27 fp_RX6_39 rfl (hE.1 6 (by decide)) rfl rfl ?_
    refine r_aload_n (v := .ref (eA E 6 0)) dX6_openSign_30 rfl (rl_ref _) ?_
    refine r_iload_n (x := x1) dX6_openSign_31 rfl ?_
    refine r_ineg dX6_openSign_32 ?_
    refine r_cVv (As := [.int (-x1)]) (rest := []) dX6_openSign_33 mv_X6_keep ml_RX6_61 ⟨_, _, rfl⟩ (hE.1 6 (by decide)) ⟨Nat.le_of_ble_eq_true rfl, Nat.le_of_ble_eq_true rfl⟩ ⟨rfl, rfl⟩ rfl rfl (Nat.le_of_ble_eq_true rfl) h (fun V21 h => ?_)
    exact r_vret dX6_openSign_36 rfl ⟨Nat.le_of_ble_eq_true rfl, Nat.le_of_ble_eq_true rfl⟩ ⟨rfl, rfl, h⟩
  · have h := h.2 q
    refine r_iconst (v := (1 : Int32)) dX6_openSign_14 (by decide) ?_
    refine r_goto 19 dX6_openSign_15 (by decide) ?_
    obtain ⟨hb, h⟩ := h
    refine r_iast dX6_openSign_19 rfl (by decide) (hE.1 6 (by decide)) (ix hE (by decide) rfl hb) ?_
    refine r_aload_n (v := .ref (eA E 6 0)) dX6_openSign_20 rfl (rl_ref _) ?_
    refine r_dup dX6_openSign_21 rfl ?_
    refine r_get (v := .int ((up3 V 702 0 ((V 705 0 0)).toNatClampNeg (1 : Int32)) 705 0 0)) dX6_openSign_22 fl_RX6_39 (hE.1 6 (by decide)) rfl ?_
    refine r_iconst (v := (1 : Int32)) dX6_openSign_25 (by decide) ?_
    refine r_iadd dX6_openSign_26 ?_
    refine r_put dX6_openSign_27 fp_RX6_39 rfl (hE.1 6 (by decide)) rfl rfl ?_
    refine r_aload_n (v := .ref (eA E 6 0)) dX6_openSign_30 rfl (rl_ref _) ?_
    refine r_iload_n (x := x1) dX6_openSign_31 rfl ?_
    refine r_ineg dX6_openSign_32 ?_
    refine r_cVv (As := [.int (-x1)]) (rest := []) dX6_openSign_33 mv_X6_keep ml_RX6_61 ⟨_, _, rfl⟩ (hE.1 6 (by decide)) ⟨Nat.le_of_ble_eq_true rfl, Nat.le_of_ble_eq_true rfl⟩ ⟨rfl, rfl⟩ rfl rfl (Nat.le_of_ble_eq_true rfl) h (fun V22 h => ?_)
    exact r_vret dX6_openSign_36 rfl ⟨Nat.le_of_ble_eq_true rfl, Nat.le_of_ble_eq_true rfl⟩ ⟨rfl, rfl, h⟩
abbrev rm_X6_isDigit : Room := { frames := 0, cells := 0, slots := 0, locals := 0 }
def C_X6_isDigit (l : Launch) (G : Gt) (E : Et) (V : Vt) (x1 : Int32) (K : Int32 → Vt → Prop) : Prop := Cl l G yX6_isDigit cX6_isDigit 1 (some .boolean) rm_X6_isDigit E V [.int x1] (Qi E K)
def vc_X6_isDigit (l : Launch) (G : Gt) (E : Et) (V : Vt) (x1 : Int32) (K : Int32 → Vt → Prop) : Prop := ((x1 < (48 : Int32) → K (0 : Int32) V) ∧ (¬ x1 < (48 : Int32) → (((57 : Int32) < x1 → K (0 : Int32) V) ∧ (¬ (57 : Int32) < x1 → K (1 : Int32) V))))
theorem ok_X6_isDigit {l : Launch} {G : Gt} {E : Et} {V : Vt} {x1 : Int32} {K : Int32 → Vt → Prop} (hE : Sg E)  (h : vc_X6_isDigit l G E V x1 K) : C_X6_isDigit l G E V x1 K := by
  unfold vc_X6_isDigit at h
  refine Cl.of (by decide +kernel) (Nat.le_of_ble_eq_true rfl) (show Ev l G RX6 cX6_isDigit 1 (some .boolean) rm_X6_isDigit E 0 0 V 0 [(0, .int x1)] [] (Qi E K) from ?_)
  refine r_iload_n (x := x1) dX6_isDigit_0 rfl ?_
  refine r_bipush (v := (48 : Int32)) dX6_isDigit_1 (by decide) ?_
  refine r_icmp_lt 16 dX6_isDigit_3 (by decide) (fun q => ?_) (fun q => ?_)
  · have h := h.1 q
    refine r_iconst (v := (0 : Int32)) dX6_isDigit_16 (by decide) ?_
    exact r_zret dX6_isDigit_17 rfl rfl ⟨Nat.le_of_ble_eq_true rfl, Nat.le_of_ble_eq_true rfl⟩ ⟨rfl, _, rfl, h⟩
  · have h := h.2 q
    refine r_iload_n (x := x1) dX6_isDigit_6 rfl ?_
    refine r_bipush (v := (57 : Int32)) dX6_isDigit_7 (by decide) ?_
    refine r_icmp_gt 16 dX6_isDigit_9 (by decide) (fun q => ?_) (fun q => ?_)
    · have h := h.1 q
      refine r_iconst (v := (0 : Int32)) dX6_isDigit_16 (by decide) ?_
      exact r_zret dX6_isDigit_17 rfl rfl ⟨Nat.le_of_ble_eq_true rfl, Nat.le_of_ble_eq_true rfl⟩ ⟨rfl, _, rfl, h⟩
    · have h := h.2 q
      refine r_iconst (v := (1 : Int32)) dX6_isDigit_12 (by decide) ?_
      refine r_goto 17 dX6_isDigit_13 (by decide) ?_
      exact r_zret dX6_isDigit_17 rfl rfl ⟨Nat.le_of_ble_eq_true rfl, Nat.le_of_ble_eq_true rfl⟩ ⟨rfl, _, rfl, h⟩
abbrev rm_X6_readNumber : Room := { frames := 1, cells := 0, slots := 0, locals := 21 }
def C_X6_readNumber (l : Launch) (G : Gt) (E : Et) (V : Vt) (x1 : Int32) (K : Int32 → Vt → Prop) : Prop := Cl l G yX6_readNumber cX6_readNumber 4 (some .int) rm_X6_readNumber E V [.ref (eA E 6 0), .int x1] (Qi E K)
def A_X6_readNumber_4 (l : Launch) (G : Gt) (E : Et) (V : Vt) (x1 : Int32) (x2 : Int32) (x3 : Int32) (K : Int32 → Vt → Prop) : Prop := Ev l G RX6 cX6_readNumber 4 (some .int) rm_X6_readNumber E 0 0 V 4 [(0, .ref (eA E 6 0)), (1, .int x1), (2, .int x2), (3, .int x3)] [] (Qi E K)
def vc_X6_readNumber (l : Launch) (G : Gt) (E : Et) (V : Vt) (x1 : Int32) (K : Int32 → Vt → Prop) : Prop := A_X6_readNumber_4 l G E V x1 (0 : Int32) x1 K
def vc_X6_readNumber_4 (l : Launch) (G : Gt) (E : Et) (V : Vt) (x1 : Int32) (x2 : Int32) (x3 : Int32) (K : Int32 → Vt → Prop) : Prop := (((V 703 0 0) ≤ x3 → (((V 703 0 0) ≤ x3 → K ((-1 : Int32) - x3) V) ∧ (¬ (V 703 0 0) ≤ x3 → ((x3 < (x1 + (2 : Int32)) → K ((-1 : Int32) - x3) V) ∧ (¬ x3 < (x1 + (2 : Int32)) → (vp_in x3 100) ∧ (((V 700 0 (x3).toNatClampNeg) = (32 : Int32) → (C_X6_keep l G E V x2 (fun V21 => K (x3 + (1 : Int32)) V21))) ∧ (¬ (V 700 0 (x3).toNatClampNeg) = (32 : Int32) → K ((-1 : Int32) - x3) V))))))) ∧ (¬ (V 703 0 0) ≤ x3 → (((x1 + (5 : Int32)) ≤ x3 → (((V 703 0 0) ≤ x3 → K ((-1 : Int32) - x3) V) ∧ (¬ (V 703 0 0) ≤ x3 → ((x3 < (x1 + (2 : Int32)) → K ((-1 : Int32) - x3) V) ∧ (¬ x3 < (x1 + (2 : Int32)) → (vp_in x3 100) ∧ (((V 700 0 (x3).toNatClampNeg) = (32 : Int32) → (C_X6_keep l G E V x2 (fun V22 => K (x3 + (1 : Int32)) V22))) ∧ (¬ (V 700 0 (x3).toNatClampNeg) = (32 : Int32) → K ((-1 : Int32) - x3) V))))))) ∧ (¬ (x1 + (5 : Int32)) ≤ x3 → (vp_in x3 100) ∧ (C_X6_isDigit l G E V (V 700 0 (x3).toNatClampNeg) (fun x24 V23 => ((x24 = (0 : Int32) → (((V23 703 0 0) ≤ x3 → K ((-1 : Int32) - x3) V23) ∧ (¬ (V23 703 0 0) ≤ x3 → ((x3 < (x1 + (2 : Int32)) → K ((-1 : Int32) - x3) V23) ∧ (¬ x3 < (x1 + (2 : Int32)) → (vp_in x3 100) ∧ (((V23 700 0 (x3).toNatClampNeg) = (32 : Int32) → (C_X6_keep l G E V23 x2 (fun V25 => K (x3 + (1 : Int32)) V25))) ∧ (¬ (V23 700 0 (x3).toNatClampNeg) = (32 : Int32) → K ((-1 : Int32) - x3) V23))))))) ∧ (¬ x24 = (0 : Int32) → (vp_in x3 100) ∧ A_X6_readNumber_4 l G E V23 x1 ((((10 : Int32) * x2) + (V23 700 0 (x3).toNatClampNeg)) - (48 : Int32)) (x3 + (1 : Int32)) K))))))))
theorem ok_X6_readNumber {l : Launch} {G : Gt} {E : Et} {V : Vt} {x1 : Int32} {K : Int32 → Vt → Prop} (hE : Sg E)  (h : vc_X6_readNumber l G E V x1 K) : C_X6_readNumber l G E V x1 K := by
  unfold vc_X6_readNumber at h
  refine Cl.of (by decide +kernel) (Nat.le_of_ble_eq_true rfl) (show Ev l G RX6 cX6_readNumber 4 (some .int) rm_X6_readNumber E 0 0 V 0 [(0, .ref (eA E 6 0)), (1, .int x1)] [] (Qi E K) from ?_)
  refine r_iconst (v := (0 : Int32)) dX6_readNumber_0 (by decide) ?_
  refine r_istore_n dX6_readNumber_1 (by decide) ?_
  refine r_iload_n (x := x1) dX6_readNumber_2 rfl ?_
  refine r_istore_n dX6_readNumber_3 (by decide) ?_
  exact Ev.loc [0, 1, 2, 3] rfl h
theorem ok_X6_readNumber_4 {l : Launch} {G : Gt} {E : Et} {V : Vt} {x1 : Int32} {x2 : Int32} {x3 : Int32} {K : Int32 → Vt → Prop} (hE : Sg E)  (h : vc_X6_readNumber_4 l G E V x1 x2 x3 K) : A_X6_readNumber_4 l G E V x1 x2 x3 K := by
  unfold vc_X6_readNumber_4 at h
  unfold A_X6_readNumber_4
  refine r_iload_n (x := x3) dX6_readNumber_4 rfl ?_
  refine r_aload_n (v := .ref (eA E 6 0)) dX6_readNumber_5 rfl (rl_ref _) ?_
  refine r_get (v := .int (V 703 0 0)) dX6_readNumber_6 fl_RX6_21 (hE.1 6 (by decide)) rfl ?_
  refine r_icmp_ge 52 dX6_readNumber_9 (by decide) (fun q => ?_) (fun q => ?_)
  · have h := h.1 q
    refine r_iload_n (x := x3) dX6_readNumber_52 rfl ?_
    refine r_aload_n (v := .ref (eA E 6 0)) dX6_readNumber_53 rfl (rl_ref _) ?_
    refine r_get (v := .int (V 703 0 0)) dX6_readNumber_54 fl_RX6_21 (hE.1 6 (by decide)) rfl ?_
    refine r_icmp_ge 78 dX6_readNumber_57 (by decide) (fun q => ?_) (fun q => ?_)
    · have h := h.1 q
      refine r_iconst (v := (-1 : Int32)) dX6_readNumber_78 (by decide) ?_
      refine r_iload_n (x := x3) dX6_readNumber_79 rfl ?_
      refine r_isub dX6_readNumber_80 ?_
      exact r_iret dX6_readNumber_81 rfl ⟨Nat.le_of_ble_eq_true rfl, Nat.le_of_ble_eq_true rfl⟩ ⟨rfl, _, rfl, h⟩
    · have h := h.2 q
      refine r_iload_n (x := x3) dX6_readNumber_60 rfl ?_
      refine r_iload_n (x := x1) dX6_readNumber_61 rfl ?_
      refine r_iconst (v := (2 : Int32)) dX6_readNumber_62 (by decide) ?_
      refine r_iadd dX6_readNumber_63 ?_
      refine r_icmp_lt 78 dX6_readNumber_64 (by decide) (fun q => ?_) (fun q => ?_)
      · have h := h.1 q
        refine r_iconst (v := (-1 : Int32)) dX6_readNumber_78 (by decide) ?_
        refine r_iload_n (x := x3) dX6_readNumber_79 rfl ?_
        refine r_isub dX6_readNumber_80 ?_
        exact r_iret dX6_readNumber_81 rfl ⟨Nat.le_of_ble_eq_true rfl, Nat.le_of_ble_eq_true rfl⟩ ⟨rfl, _, rfl, h⟩
      · have h := h.2 q
        refine r_aload_n (v := .ref (eA E 6 0)) dX6_readNumber_67 rfl (rl_ref _) ?_
        refine r_get (v := .ref (eA E 700 0)) dX6_readNumber_68 fl_RX6_9 (hE.1 6 (by decide)) rfl ?_
        refine r_iload_n (x := x3) dX6_readNumber_71 rfl ?_
        obtain ⟨hb, h⟩ := h
        refine r_iald dX6_readNumber_72 rfl (by decide) (hE.1 6 (by decide)) (ix hE (by decide) rfl hb) ?_
        refine r_bipush (v := (32 : Int32)) dX6_readNumber_73 (by decide) ?_
        refine r_icmp_eq 82 dX6_readNumber_75 (by decide) (fun q => ?_) (fun q => ?_)
        · have h := h.1 q
          refine r_aload_n (v := .ref (eA E 6 0)) dX6_readNumber_82 rfl (rl_ref _) ?_
          refine r_iload_n (x := x2) dX6_readNumber_83 rfl ?_
          refine r_cVv (As := [.int x2]) (rest := []) dX6_readNumber_84 mv_X6_keep ml_RX6_61 ⟨_, _, rfl⟩ (hE.1 6 (by decide)) ⟨Nat.le_of_ble_eq_true rfl, Nat.le_of_ble_eq_true rfl⟩ ⟨rfl, rfl⟩ rfl rfl (Nat.le_of_ble_eq_true rfl) h (fun V21 h => ?_)
          refine r_iload_n (x := x3) dX6_readNumber_87 rfl ?_
          refine r_iconst (v := (1 : Int32)) dX6_readNumber_88 (by decide) ?_
          refine r_iadd dX6_readNumber_89 ?_
          exact r_iret dX6_readNumber_90 rfl ⟨Nat.le_of_ble_eq_true rfl, Nat.le_of_ble_eq_true rfl⟩ ⟨rfl, _, rfl, h⟩
        · have h := h.2 q
          refine r_iconst (v := (-1 : Int32)) dX6_readNumber_78 (by decide) ?_
          refine r_iload_n (x := x3) dX6_readNumber_79 rfl ?_
          refine r_isub dX6_readNumber_80 ?_
          exact r_iret dX6_readNumber_81 rfl ⟨Nat.le_of_ble_eq_true rfl, Nat.le_of_ble_eq_true rfl⟩ ⟨rfl, _, rfl, h⟩
  · have h := h.2 q
    refine r_iload_n (x := x3) dX6_readNumber_12 rfl ?_
    refine r_iload_n (x := x1) dX6_readNumber_13 rfl ?_
    refine r_iconst (v := (5 : Int32)) dX6_readNumber_14 (by decide) ?_
    refine r_iadd dX6_readNumber_15 ?_
    refine r_icmp_ge 52 dX6_readNumber_16 (by decide) (fun q => ?_) (fun q => ?_)
    · have h := h.1 q
      refine r_iload_n (x := x3) dX6_readNumber_52 rfl ?_
      refine r_aload_n (v := .ref (eA E 6 0)) dX6_readNumber_53 rfl (rl_ref _) ?_
      refine r_get (v := .int (V 703 0 0)) dX6_readNumber_54 fl_RX6_21 (hE.1 6 (by decide)) rfl ?_
      refine r_icmp_ge 78 dX6_readNumber_57 (by decide) (fun q => ?_) (fun q => ?_)
      · have h := h.1 q
        refine r_iconst (v := (-1 : Int32)) dX6_readNumber_78 (by decide) ?_
        refine r_iload_n (x := x3) dX6_readNumber_79 rfl ?_
        refine r_isub dX6_readNumber_80 ?_
        exact r_iret dX6_readNumber_81 rfl ⟨Nat.le_of_ble_eq_true rfl, Nat.le_of_ble_eq_true rfl⟩ ⟨rfl, _, rfl, h⟩
      · have h := h.2 q
        refine r_iload_n (x := x3) dX6_readNumber_60 rfl ?_
        refine r_iload_n (x := x1) dX6_readNumber_61 rfl ?_
        refine r_iconst (v := (2 : Int32)) dX6_readNumber_62 (by decide) ?_
        refine r_iadd dX6_readNumber_63 ?_
        refine r_icmp_lt 78 dX6_readNumber_64 (by decide) (fun q => ?_) (fun q => ?_)
        · have h := h.1 q
          refine r_iconst (v := (-1 : Int32)) dX6_readNumber_78 (by decide) ?_
          refine r_iload_n (x := x3) dX6_readNumber_79 rfl ?_
          refine r_isub dX6_readNumber_80 ?_
          exact r_iret dX6_readNumber_81 rfl ⟨Nat.le_of_ble_eq_true rfl, Nat.le_of_ble_eq_true rfl⟩ ⟨rfl, _, rfl, h⟩
        · have h := h.2 q
          refine r_aload_n (v := .ref (eA E 6 0)) dX6_readNumber_67 rfl (rl_ref _) ?_
          refine r_get (v := .ref (eA E 700 0)) dX6_readNumber_68 fl_RX6_9 (hE.1 6 (by decide)) rfl ?_
          refine r_iload_n (x := x3) dX6_readNumber_71 rfl ?_
          obtain ⟨hb, h⟩ := h
          refine r_iald dX6_readNumber_72 rfl (by decide) (hE.1 6 (by decide)) (ix hE (by decide) rfl hb) ?_
          refine r_bipush (v := (32 : Int32)) dX6_readNumber_73 (by decide) ?_
          refine r_icmp_eq 82 dX6_readNumber_75 (by decide) (fun q => ?_) (fun q => ?_)
          · have h := h.1 q
            refine r_aload_n (v := .ref (eA E 6 0)) dX6_readNumber_82 rfl (rl_ref _) ?_
            refine r_iload_n (x := x2) dX6_readNumber_83 rfl ?_
            refine r_cVv (As := [.int x2]) (rest := []) dX6_readNumber_84 mv_X6_keep ml_RX6_61 ⟨_, _, rfl⟩ (hE.1 6 (by decide)) ⟨Nat.le_of_ble_eq_true rfl, Nat.le_of_ble_eq_true rfl⟩ ⟨rfl, rfl⟩ rfl rfl (Nat.le_of_ble_eq_true rfl) h (fun V22 h => ?_)
            refine r_iload_n (x := x3) dX6_readNumber_87 rfl ?_
            refine r_iconst (v := (1 : Int32)) dX6_readNumber_88 (by decide) ?_
            refine r_iadd dX6_readNumber_89 ?_
            exact r_iret dX6_readNumber_90 rfl ⟨Nat.le_of_ble_eq_true rfl, Nat.le_of_ble_eq_true rfl⟩ ⟨rfl, _, rfl, h⟩
          · have h := h.2 q
            refine r_iconst (v := (-1 : Int32)) dX6_readNumber_78 (by decide) ?_
            refine r_iload_n (x := x3) dX6_readNumber_79 rfl ?_
            refine r_isub dX6_readNumber_80 ?_
            exact r_iret dX6_readNumber_81 rfl ⟨Nat.le_of_ble_eq_true rfl, Nat.le_of_ble_eq_true rfl⟩ ⟨rfl, _, rfl, h⟩
    · have h := h.2 q
      refine r_aload_n (v := .ref (eA E 6 0)) dX6_readNumber_19 rfl (rl_ref _) ?_
      refine r_get (v := .ref (eA E 700 0)) dX6_readNumber_20 fl_RX6_9 (hE.1 6 (by decide)) rfl ?_
      refine r_iload_n (x := x3) dX6_readNumber_23 rfl ?_
      obtain ⟨hb, h⟩ := h
      refine r_iald dX6_readNumber_24 rfl (by decide) (hE.1 6 (by decide)) (ix hE (by decide) rfl hb) ?_
      refine r_cSi (As := [.int (V 700 0 (x3).toNatClampNeg)]) (rest := []) dX6_readNumber_25 ms_X6_isDigit ml_RX6_67 ⟨Nat.le_of_ble_eq_true rfl, Nat.le_of_ble_eq_true rfl⟩ ⟨rfl, rfl⟩ rfl rfl (Nat.le_of_ble_eq_true rfl) h (fun x24 V23 h => ?_)
      refine r_if_eq 52 dX6_readNumber_28 (by decide) (fun q => ?_) (fun q => ?_)
      · have h := h.1 q
        refine r_iload_n (x := x3) dX6_readNumber_52 rfl ?_
        refine r_aload_n (v := .ref (eA E 6 0)) dX6_readNumber_53 rfl (rl_ref _) ?_
        refine r_get (v := .int (V23 703 0 0)) dX6_readNumber_54 fl_RX6_21 (hE.1 6 (by decide)) rfl ?_
        refine r_icmp_ge 78 dX6_readNumber_57 (by decide) (fun q => ?_) (fun q => ?_)
        · have h := h.1 q
          refine r_iconst (v := (-1 : Int32)) dX6_readNumber_78 (by decide) ?_
          refine r_iload_n (x := x3) dX6_readNumber_79 rfl ?_
          refine r_isub dX6_readNumber_80 ?_
          exact r_iret dX6_readNumber_81 rfl ⟨Nat.le_of_ble_eq_true rfl, Nat.le_of_ble_eq_true rfl⟩ ⟨rfl, _, rfl, h⟩
        · have h := h.2 q
          refine r_iload_n (x := x3) dX6_readNumber_60 rfl ?_
          refine r_iload_n (x := x1) dX6_readNumber_61 rfl ?_
          refine r_iconst (v := (2 : Int32)) dX6_readNumber_62 (by decide) ?_
          refine r_iadd dX6_readNumber_63 ?_
          refine r_icmp_lt 78 dX6_readNumber_64 (by decide) (fun q => ?_) (fun q => ?_)
          · have h := h.1 q
            refine r_iconst (v := (-1 : Int32)) dX6_readNumber_78 (by decide) ?_
            refine r_iload_n (x := x3) dX6_readNumber_79 rfl ?_
            refine r_isub dX6_readNumber_80 ?_
            exact r_iret dX6_readNumber_81 rfl ⟨Nat.le_of_ble_eq_true rfl, Nat.le_of_ble_eq_true rfl⟩ ⟨rfl, _, rfl, h⟩
          · have h := h.2 q
            refine r_aload_n (v := .ref (eA E 6 0)) dX6_readNumber_67 rfl (rl_ref _) ?_
            refine r_get (v := .ref (eA E 700 0)) dX6_readNumber_68 fl_RX6_9 (hE.1 6 (by decide)) rfl ?_
            refine r_iload_n (x := x3) dX6_readNumber_71 rfl ?_
            obtain ⟨hb, h⟩ := h
            refine r_iald dX6_readNumber_72 rfl (by decide) (hE.1 6 (by decide)) (ix hE (by decide) rfl hb) ?_
            refine r_bipush (v := (32 : Int32)) dX6_readNumber_73 (by decide) ?_
            refine r_icmp_eq 82 dX6_readNumber_75 (by decide) (fun q => ?_) (fun q => ?_)
            · have h := h.1 q
              refine r_aload_n (v := .ref (eA E 6 0)) dX6_readNumber_82 rfl (rl_ref _) ?_
              refine r_iload_n (x := x2) dX6_readNumber_83 rfl ?_
              refine r_cVv (As := [.int x2]) (rest := []) dX6_readNumber_84 mv_X6_keep ml_RX6_61 ⟨_, _, rfl⟩ (hE.1 6 (by decide)) ⟨Nat.le_of_ble_eq_true rfl, Nat.le_of_ble_eq_true rfl⟩ ⟨rfl, rfl⟩ rfl rfl (Nat.le_of_ble_eq_true rfl) h (fun V25 h => ?_)
              refine r_iload_n (x := x3) dX6_readNumber_87 rfl ?_
              refine r_iconst (v := (1 : Int32)) dX6_readNumber_88 (by decide) ?_
              refine r_iadd dX6_readNumber_89 ?_
              exact r_iret dX6_readNumber_90 rfl ⟨Nat.le_of_ble_eq_true rfl, Nat.le_of_ble_eq_true rfl⟩ ⟨rfl, _, rfl, h⟩
            · have h := h.2 q
              refine r_iconst (v := (-1 : Int32)) dX6_readNumber_78 (by decide) ?_
              refine r_iload_n (x := x3) dX6_readNumber_79 rfl ?_
              refine r_isub dX6_readNumber_80 ?_
              exact r_iret dX6_readNumber_81 rfl ⟨Nat.le_of_ble_eq_true rfl, Nat.le_of_ble_eq_true rfl⟩ ⟨rfl, _, rfl, h⟩
      · have h := h.2 q
        refine r_bipush (v := (10 : Int32)) dX6_readNumber_31 (by decide) ?_
        refine r_iload_n (x := x2) dX6_readNumber_33 rfl ?_
        refine r_imul dX6_readNumber_34 ?_
        refine r_aload_n (v := .ref (eA E 6 0)) dX6_readNumber_35 rfl (rl_ref _) ?_
        refine r_get (v := .ref (eA E 700 0)) dX6_readNumber_36 fl_RX6_9 (hE.1 6 (by decide)) rfl ?_
        refine r_iload_n (x := x3) dX6_readNumber_39 rfl ?_
        obtain ⟨hb, h⟩ := h
        refine r_iald dX6_readNumber_40 rfl (by decide) (hE.1 6 (by decide)) (ix hE (by decide) rfl hb) ?_
        refine r_iadd dX6_readNumber_41 ?_
        refine r_bipush (v := (48 : Int32)) dX6_readNumber_42 (by decide) ?_
        refine r_isub dX6_readNumber_44 ?_
        refine r_istore_n dX6_readNumber_45 (by decide) ?_
        refine r_iinc (x := x3) (v := (1 : Int32)) dX6_readNumber_46 rfl (by decide) (by decide) ?_
        refine r_goto 4 dX6_readNumber_49 (by decide) ?_
        exact Ev.loc [0, 1, 2, 3] rfl h
abbrev rm_X6_readLeaf : Room := { frames := 7, cells := 0, slots := 0, locals := 159 }
def C_X6_readLeaf (l : Launch) (G : Gt) (E : Et) (V : Vt) (x1 : Int32) (K : Int32 → Vt → Prop) : Prop := Cl l G yX6_readLeaf cX6_readLeaf 3 (some .int) rm_X6_readLeaf E V [.ref (eA E 6 0), .int x1] (Qi E K)
def vc_X6_readLeaf (l : Launch) (G : Gt) (E : Et) (V : Vt) (x1 : Int32) (K : Int32 → Vt → Prop) : Prop := (vp_in x1 100) ∧ ((¬ (V 700 0 (x1).toNatClampNeg) = (35 : Int32) → (C_X6_isDigit l G E V (V 700 0 (x1).toNatClampNeg) (fun x22 V21 => ((x22 = (0 : Int32) → (C_J0_indexOf_0f7a4 l G E V21 0 (((V 700 0 (x1).toNatClampNeg)).toUInt32 % 65536).toInt32 (fun x24 V23 => ((x24 < (0 : Int32) → K ((-1 : Int32) - x1) V23) ∧ (¬ x24 < (0 : Int32) → (C_X6_keep l G E V23 (-(V 700 0 (x1).toNatClampNeg)) (fun V25 => K (x1 + (1 : Int32)) V25))))))) ∧ (¬ x22 = (0 : Int32) → (C_X6_keep l G E V21 ((V 700 0 (x1).toNatClampNeg) - (48 : Int32)) (fun V26 => K (x1 + (1 : Int32)) V26))))))) ∧ ((V 700 0 (x1).toNatClampNeg) = (35 : Int32) → (C_X6_readNumber l G E V (x1 + (1 : Int32)) (fun x28 V27 => K x28 V27))))
theorem ok_X6_readLeaf {l : Launch} {G : Gt} {E : Et} {V : Vt} {x1 : Int32} {K : Int32 → Vt → Prop} (hE : Sg E)  (h : vc_X6_readLeaf l G E V x1 K) : C_X6_readLeaf l G E V x1 K := by
  unfold vc_X6_readLeaf at h
  refine Cl.of (by decide +kernel) (Nat.le_of_ble_eq_true rfl) (show Ev l G RX6 cX6_readLeaf 3 (some .int) rm_X6_readLeaf E 0 0 V 0 [(0, .ref (eA E 6 0)), (1, .int x1)] [] (Qi E K) from ?_)
  refine r_aload_n (v := .ref (eA E 6 0)) dX6_readLeaf_0 rfl (rl_ref _) ?_
  refine r_get (v := .ref (eA E 700 0)) dX6_readLeaf_1 fl_RX6_9 (hE.1 6 (by decide)) rfl ?_
  refine r_iload_n (x := x1) dX6_readLeaf_4 rfl ?_
  obtain ⟨hb, h⟩ := h
  refine r_iald dX6_readLeaf_5 rfl (by decide) (hE.1 6 (by decide)) (ix hE (by decide) rfl hb) ?_
  refine r_istore_n dX6_readLeaf_6 (by decide) ?_
  refine r_iload_n (x := (V 700 0 (x1).toNatClampNeg)) dX6_readLeaf_7 rfl ?_
  refine r_bipush (v := (35 : Int32)) dX6_readLeaf_8 (by decide) ?_
  refine r_icmp_ne 21 dX6_readLeaf_10 (by decide) (fun q => ?_) (fun q => ?_)
  · have h := h.1 q
    refine r_iload_n (x := (V 700 0 (x1).toNatClampNeg)) dX6_readLeaf_21 rfl ?_
    refine r_cSi (As := [.int (V 700 0 (x1).toNatClampNeg)]) (rest := []) dX6_readLeaf_22 ms_X6_isDigit ml_RX6_67 ⟨Nat.le_of_ble_eq_true rfl, Nat.le_of_ble_eq_true rfl⟩ ⟨rfl, rfl⟩ rfl rfl (Nat.le_of_ble_eq_true rfl) h (fun x22 V21 h => ?_)
    refine r_if_eq 40 dX6_readLeaf_25 (by decide) (fun q => ?_) (fun q => ?_)
    · have h := h.1 q
      refine r_ldcS (tx := "pknwmyfd") (a := gK G 0) dX6_readLeaf_40 (fun U hb => hb.2.2.2.1) ?_
      refine r_iload_n (x := (V 700 0 (x1).toNatClampNeg)) dX6_readLeaf_42 rfl ?_
      refine r_i2c dX6_readLeaf_43 ?_
      refine r_cStr (w := 0) (As := [.int (((V 700 0 (x1).toNatClampNeg)).toUInt32 % 65536).toInt32]) (rest := []) dX6_readLeaf_44 mv_J0_indexOf_0f7a4 ml_RX6_44 rfl (by decide) ⟨Nat.le_of_ble_eq_true rfl, Nat.le_of_ble_eq_true rfl⟩ ⟨rfl, rfl⟩ rfl rfl (Nat.le_of_ble_eq_true rfl) h (fun x24 V23 h => ?_)
      refine r_if_lt 60 dX6_readLeaf_47 (by decide) (fun q => ?_) (fun q => ?_)
      · have h := h.1 q
        refine r_iconst (v := (-1 : Int32)) dX6_readLeaf_60 (by decide) ?_
        refine r_iload_n (x := x1) dX6_readLeaf_61 rfl ?_
        refine r_isub dX6_readLeaf_62 ?_
        exact r_iret dX6_readLeaf_63 rfl ⟨Nat.le_of_ble_eq_true rfl, Nat.le_of_ble_eq_true rfl⟩ ⟨rfl, _, rfl, h⟩
      · have h := h.2 q
        refine r_aload_n (v := .ref (eA E 6 0)) dX6_readLeaf_50 rfl (rl_ref _) ?_
        refine r_iload_n (x := (V 700 0 (x1).toNatClampNeg)) dX6_readLeaf_51 rfl ?_
        refine r_ineg dX6_readLeaf_52 ?_
        refine r_cVv (As := [.int (-(V 700 0 (x1).toNatClampNeg))]) (rest := []) dX6_readLeaf_53 mv_X6_keep ml_RX6_61 ⟨_, _, rfl⟩ (hE.1 6 (by decide)) ⟨Nat.le_of_ble_eq_true rfl, Nat.le_of_ble_eq_true rfl⟩ ⟨rfl, rfl⟩ rfl rfl (Nat.le_of_ble_eq_true rfl) h (fun V25 h => ?_)
        refine r_iload_n (x := x1) dX6_readLeaf_56 rfl ?_
        refine r_iconst (v := (1 : Int32)) dX6_readLeaf_57 (by decide) ?_
        refine r_iadd dX6_readLeaf_58 ?_
        exact r_iret dX6_readLeaf_59 rfl ⟨Nat.le_of_ble_eq_true rfl, Nat.le_of_ble_eq_true rfl⟩ ⟨rfl, _, rfl, h⟩
    · have h := h.2 q
      refine r_aload_n (v := .ref (eA E 6 0)) dX6_readLeaf_28 rfl (rl_ref _) ?_
      refine r_iload_n (x := (V 700 0 (x1).toNatClampNeg)) dX6_readLeaf_29 rfl ?_
      refine r_bipush (v := (48 : Int32)) dX6_readLeaf_30 (by decide) ?_
      refine r_isub dX6_readLeaf_32 ?_
      refine r_cVv (As := [.int ((V 700 0 (x1).toNatClampNeg) - (48 : Int32))]) (rest := []) dX6_readLeaf_33 mv_X6_keep ml_RX6_61 ⟨_, _, rfl⟩ (hE.1 6 (by decide)) ⟨Nat.le_of_ble_eq_true rfl, Nat.le_of_ble_eq_true rfl⟩ ⟨rfl, rfl⟩ rfl rfl (Nat.le_of_ble_eq_true rfl) h (fun V26 h => ?_)
      refine r_iload_n (x := x1) dX6_readLeaf_36 rfl ?_
      refine r_iconst (v := (1 : Int32)) dX6_readLeaf_37 (by decide) ?_
      refine r_iadd dX6_readLeaf_38 ?_
      exact r_iret dX6_readLeaf_39 rfl ⟨Nat.le_of_ble_eq_true rfl, Nat.le_of_ble_eq_true rfl⟩ ⟨rfl, _, rfl, h⟩
  · have h := h.2 q
    refine r_aload_n (v := .ref (eA E 6 0)) dX6_readLeaf_13 rfl (rl_ref _) ?_
    refine r_iload_n (x := x1) dX6_readLeaf_14 rfl ?_
    refine r_iconst (v := (1 : Int32)) dX6_readLeaf_15 (by decide) ?_
    refine r_iadd dX6_readLeaf_16 ?_
    refine r_cVi (As := [.int (x1 + (1 : Int32))]) (rest := []) dX6_readLeaf_17 mv_X6_readNumber ml_RX6_64 ⟨_, _, rfl⟩ (hE.1 6 (by decide)) ⟨Nat.le_of_ble_eq_true rfl, Nat.le_of_ble_eq_true rfl⟩ ⟨rfl, rfl⟩ rfl rfl (Nat.le_of_ble_eq_true rfl) h (fun x28 V27 h => ?_)
    exact r_iret dX6_readLeaf_20 rfl ⟨Nat.le_of_ble_eq_true rfl, Nat.le_of_ble_eq_true rfl⟩ ⟨rfl, _, rfl, h⟩
abbrev rm_X6_closeSigns : Room := { frames := 0, cells := 0, slots := 0, locals := 0 }
def C_X6_closeSigns (l : Launch) (G : Gt) (E : Et) (V : Vt)  (K : Int32 → Vt → Prop) : Prop := Cl l G yX6_closeSigns cX6_closeSigns 1 (some .boolean) rm_X6_closeSigns E V [.ref (eA E 6 0)] (Qi E K)
def A_X6_closeSigns_0 (l : Launch) (G : Gt) (E : Et) (V : Vt)  (K : Int32 → Vt → Prop) : Prop := Ev l G RX6 cX6_closeSigns 1 (some .boolean) rm_X6_closeSigns E 0 0 V 0 [(0, .ref (eA E 6 0))] [] (Qi E K)
def vc_X6_closeSigns (l : Launch) (G : Gt) (E : Et) (V : Vt)  (K : Int32 → Vt → Prop) : Prop := A_X6_closeSigns_0 l G E V K
def vc_X6_closeSigns_0 (l : Launch) (G : Gt) (E : Et) (V : Vt)  (K : Int32 → Vt → Prop) : Prop := (((V 705 0 0) ≤ (0 : Int32) → K (1 : Int32) V) ∧ (¬ (V 705 0 0) ≤ (0 : Int32) → (vp_in ((V 705 0 0) - (1 : Int32)) 20) ∧ (vp_in ((V 705 0 0) - (1 : Int32)) 20) ∧ (vp_in (((up3 V 702 0 (((V 705 0 0) - (1 : Int32))).toNatClampNeg ((V 702 0 (((V 705 0 0) - (1 : Int32))).toNatClampNeg) - (1 : Int32))) 705 0 0) - (1 : Int32)) 20) ∧ ((((up3 V 702 0 (((V 705 0 0) - (1 : Int32))).toNatClampNeg ((V 702 0 (((V 705 0 0) - (1 : Int32))).toNatClampNeg) - (1 : Int32))) 702 0 ((((up3 V 702 0 (((V 705 0 0) - (1 : Int32))).toNatClampNeg ((V 702 0 (((V 705 0 0) - (1 : Int32))).toNatClampNeg) - (1 : Int32))) 705 0 0) - (1 : Int32))).toNatClampNeg) ≤ (0 : Int32) → A_X6_closeSigns_0 l G E (up3 (up3 V 702 0 (((V 705 0 0) - (1 : Int32))).toNatClampNeg ((V 702 0 (((V 705 0 0) - (1 : Int32))).toNatClampNeg) - (1 : Int32))) 705 0 0 (((up3 V 702 0 (((V 705 0 0) - (1 : Int32))).toNatClampNeg ((V 702 0 (((V 705 0 0) - (1 : Int32))).toNatClampNeg) - (1 : Int32))) 705 0 0) - (1 : Int32))) K) ∧ (¬ ((up3 V 702 0 (((V 705 0 0) - (1 : Int32))).toNatClampNeg ((V 702 0 (((V 705 0 0) - (1 : Int32))).toNatClampNeg) - (1 : Int32))) 702 0 ((((up3 V 702 0 (((V 705 0 0) - (1 : Int32))).toNatClampNeg ((V 702 0 (((V 705 0 0) - (1 : Int32))).toNatClampNeg) - (1 : Int32))) 705 0 0) - (1 : Int32))).toNatClampNeg) ≤ (0 : Int32) → K (0 : Int32) (up3 V 702 0 (((V 705 0 0) - (1 : Int32))).toNatClampNeg ((V 702 0 (((V 705 0 0) - (1 : Int32))).toNatClampNeg) - (1 : Int32)))))))
theorem ok_X6_closeSigns {l : Launch} {G : Gt} {E : Et} {V : Vt}  {K : Int32 → Vt → Prop} (hE : Sg E)  (h : vc_X6_closeSigns l G E V  K) : C_X6_closeSigns l G E V  K := by
  unfold vc_X6_closeSigns at h
  refine Cl.of (by decide +kernel) (Nat.le_of_ble_eq_true rfl) (show Ev l G RX6 cX6_closeSigns 1 (some .boolean) rm_X6_closeSigns E 0 0 V 0 [(0, .ref (eA E 6 0))] [] (Qi E K) from ?_)
  exact Ev.loc [0] rfl h
theorem ok_X6_closeSigns_0 {l : Launch} {G : Gt} {E : Et} {V : Vt}  {K : Int32 → Vt → Prop} (hE : Sg E)  (h : vc_X6_closeSigns_0 l G E V  K) : A_X6_closeSigns_0 l G E V  K := by
  unfold vc_X6_closeSigns_0 at h
  unfold A_X6_closeSigns_0
  refine r_aload_n (v := .ref (eA E 6 0)) dX6_closeSigns_0 rfl (rl_ref _) ?_
  refine r_get (v := .int (V 705 0 0)) dX6_closeSigns_1 fl_RX6_39 (hE.1 6 (by decide)) rfl ?_
  refine r_if_le 51 dX6_closeSigns_4 (by decide) (fun q => ?_) (fun q => ?_)
  · have h := h.1 q
    refine r_iconst (v := (1 : Int32)) dX6_closeSigns_51 (by decide) ?_
    exact r_zret dX6_closeSigns_52 rfl rfl ⟨Nat.le_of_ble_eq_true rfl, Nat.le_of_ble_eq_true rfl⟩ ⟨rfl, _, rfl, h⟩
  · have h := h.2 q
    refine r_aload_n (v := .ref (eA E 6 0)) dX6_closeSigns_7 rfl (rl_ref _) ?_
    refine r_get (v := .ref (eA E 702 0)) dX6_closeSigns_8 fl_RX6_18 (hE.1 6 (by decide)) rfl ?_
    refine r_aload_n (v := .ref (eA E 6 0)) dX6_closeSigns_11 rfl (rl_ref _) ?_
    refine r_get (v := .int (V 705 0 0)) dX6_closeSigns_12 fl_RX6_39 (hE.1 6 (by decide)) rfl ?_
    refine r_iconst (v := (1 : Int32)) dX6_closeSigns_15 (by decide) ?_
    refine r_isub dX6_closeSigns_16 ?_
    refine r_dup2 dX6_closeSigns_17 rfl rfl ?_
    obtain ⟨hb, h⟩ := h
    refine r_iald dX6_closeSigns_18 rfl (by decide) (hE.1 6 (by decide)) (ix hE (by decide) rfl hb) ?_
    refine r_iconst (v := (1 : Int32)) dX6_closeSigns_19 (by decide) ?_
    refine r_isub dX6_closeSigns_20 ?_
    obtain ⟨hb, h⟩ := h
    refine r_iast dX6_closeSigns_21 rfl (by decide) (hE.1 6 (by decide)) (ix hE (by decide) rfl hb) ?_
    refine r_aload_n (v := .ref (eA E 6 0)) dX6_closeSigns_22 rfl (rl_ref _) ?_
    refine r_get (v := .ref (eA E 702 0)) dX6_closeSigns_23 fl_RX6_18 (hE.1 6 (by decide)) rfl ?_
    refine r_aload_n (v := .ref (eA E 6 0)) dX6_closeSigns_26 rfl (rl_ref _) ?_
    refine r_get (v := .int ((up3 V 702 0 (((V 705 0 0) - (1 : Int32))).toNatClampNeg ((V 702 0 (((V 705 0 0) - (1 : Int32))).toNatClampNeg) - (1 : Int32))) 705 0 0)) dX6_closeSigns_27 fl_RX6_39 (hE.1 6 (by decide)) rfl ?_
    refine r_iconst (v := (1 : Int32)) dX6_closeSigns_30 (by decide) ?_
    refine r_isub dX6_closeSigns_31 ?_
    obtain ⟨hb, h⟩ := h
    refine r_iald dX6_closeSigns_32 rfl (by decide) (hE.1 6 (by decide)) (ix hE (by decide) rfl hb) ?_
    refine r_if_le 38 dX6_closeSigns_33 (by decide) (fun q => ?_) (fun q => ?_)
    · have h := h.1 q
      refine r_aload_n (v := .ref (eA E 6 0)) dX6_closeSigns_38 rfl (rl_ref _) ?_
      refine r_dup dX6_closeSigns_39 rfl ?_
      refine r_get (v := .int ((up3 V 702 0 (((V 705 0 0) - (1 : Int32))).toNatClampNeg ((V 702 0 (((V 705 0 0) - (1 : Int32))).toNatClampNeg) - (1 : Int32))) 705 0 0)) dX6_closeSigns_40 fl_RX6_39 (hE.1 6 (by decide)) rfl ?_
      refine r_iconst (v := (1 : Int32)) dX6_closeSigns_43 (by decide) ?_
      refine r_isub dX6_closeSigns_44 ?_
      refine r_put dX6_closeSigns_45 fp_RX6_39 rfl (hE.1 6 (by decide)) rfl rfl ?_
      refine r_goto 0 dX6_closeSigns_48 (by decide) ?_
      exact Ev.loc [0] rfl h
    · have h := h.2 q
      refine r_iconst (v := (0 : Int32)) dX6_closeSigns_36 (by decide) ?_
      exact r_zret dX6_closeSigns_37 rfl rfl ⟨Nat.le_of_ble_eq_true rfl, Nat.le_of_ble_eq_true rfl⟩ ⟨rfl, _, rfl, h⟩
abbrev rm_X6_read : Room := { frames := 8, cells := 0, slots := 0, locals := 181 }
def C_X6_read (l : Launch) (G : Gt) (E : Et) (V : Vt)  (K : Int32 → Vt → Prop) : Prop := Cl l G yX6_read cX6_read 5 (some .int) rm_X6_read E V [.ref (eA E 6 0)] (Qi E K)
def A_X6_read_16 (l : Launch) (G : Gt) (E : Et) (V : Vt) (x1 : Int32) (x2 : Int32) (x3 : Int32) (K : Int32 → Vt → Prop) : Prop := Ev l G RX6 cX6_read 5 (some .int) rm_X6_read E 0 0 V 16 [(0, .ref (eA E 6 0)), (1, .int x1), (2, .int x2), (3, .int x3)] [] (Qi E K)
def vc_X6_read (l : Launch) (G : Gt) (E : Et) (V : Vt)  (K : Int32 → Vt → Prop) : Prop := A_X6_read_16 l G E (up3 (up3 V 704 0 0 (0 : Int32)) 705 0 0 (0 : Int32)) (0 : Int32) (0 : Int32) (0 : Int32) K
def vc_X6_read_16 (l : Launch) (G : Gt) (E : Et) (V : Vt) (x1 : Int32) (x2 : Int32) (x3 : Int32) (K : Int32 → Vt → Prop) : Prop := (((100 : Int32) ≤ x3 → ((x1 = (0 : Int32) → K (V 703 0 0) V) ∧ (¬ x1 = (0 : Int32) → K (-1 : Int32) V))) ∧ (¬ (100 : Int32) ≤ x3 → (((V 703 0 0) ≤ x2 → ((x1 = (0 : Int32) → K (V 703 0 0) V) ∧ (¬ x1 = (0 : Int32) → K (-1 : Int32) V))) ∧ (¬ (V 703 0 0) ≤ x2 → ((x1 = (0 : Int32) → (vp_in x2 100) ∧ (C_J0_indexOf_0f7a4 l G E V 1 (((V 700 0 (x2).toNatClampNeg)).toUInt32 % 65536).toInt32 (fun x22 V21 => ((x22 < (0 : Int32) → (C_X6_readLeaf l G E V21 x2 (fun x24 V23 => (((0 : Int32) ≤ x24 → (C_X6_closeSigns l G E V23 (fun x26 V25 => A_X6_read_16 l G E V25 x26 x24 (x3 + (1 : Int32)) K))) ∧ (¬ (0 : Int32) ≤ x24 → K ((-1 : Int32) - x24) V23))))) ∧ (¬ x22 < (0 : Int32) → (((V21 705 0 0) < (20 : Int32) → (vp_in x2 100) ∧ (C_X6_openSign l G E V21 (V21 700 0 (x2).toNatClampNeg) (fun V27 => A_X6_read_16 l G E V27 x1 (x2 + (1 : Int32)) (x3 + (1 : Int32)) K))) ∧ (¬ (V21 705 0 0) < (20 : Int32) → K x2 V21))))))) ∧ (¬ x1 = (0 : Int32) → K x2 V))))))
theorem ok_X6_read {l : Launch} {G : Gt} {E : Et} {V : Vt}  {K : Int32 → Vt → Prop} (hE : Sg E)  (h : vc_X6_read l G E V  K) : C_X6_read l G E V  K := by
  unfold vc_X6_read at h
  refine Cl.of (by decide +kernel) (Nat.le_of_ble_eq_true rfl) (show Ev l G RX6 cX6_read 5 (some .int) rm_X6_read E 0 0 V 0 [(0, .ref (eA E 6 0))] [] (Qi E K) from ?_)
  refine r_aload_n (v := .ref (eA E 6 0)) dX6_read_0 rfl (rl_ref _) ?_
  refine r_iconst (v := (0 : Int32)) dX6_read_1 (by decide) ?_
  refine r_put dX6_read_2 fp_RX6_27 rfl (hE.1 6 (by decide)) rfl rfl ?_
  refine r_aload_n (v := .ref (eA E 6 0)) dX6_read_5 rfl (rl_ref _) ?_
  refine r_iconst (v := (0 : Int32)) dX6_read_6 (by decide) ?_
  refine r_put dX6_read_7 fp_RX6_39 rfl (hE.1 6 (by decide)) rfl rfl ?_
  refine r_iconst (v := (0 : Int32)) dX6_read_10 (by decide) ?_
  refine r_istore_n dX6_read_11 (by decide) ?_
  refine r_iconst (v := (0 : Int32)) dX6_read_12 (by decide) ?_
  refine r_istore_n dX6_read_13 (by decide) ?_
  refine r_iconst (v := (0 : Int32)) dX6_read_14 (by decide) ?_
  refine r_istore_n dX6_read_15 (by decide) ?_
  exact Ev.loc [0, 1, 2, 3] rfl h
theorem ok_X6_read_16 {l : Launch} {G : Gt} {E : Et} {V : Vt} {x1 : Int32} {x2 : Int32} {x3 : Int32} {K : Int32 → Vt → Prop} (hE : Sg E)  (h : vc_X6_read_16 l G E V x1 x2 x3 K) : A_X6_read_16 l G E V x1 x2 x3 K := by
  unfold vc_X6_read_16 at h
  unfold A_X6_read_16
  refine r_iload_n (x := x3) dX6_read_16 rfl ?_
  refine r_bipush (v := (100 : Int32)) dX6_read_17 (by decide) ?_
  refine r_icmp_ge 109 dX6_read_19 (by decide) (fun q => ?_) (fun q => ?_)
  · have h := h.1 q
    refine r_iload_n (x := x1) dX6_read_109 rfl ?_
    refine r_if_eq 117 dX6_read_110 (by decide) (fun q => ?_) (fun q => ?_)
    · have h := h.1 q
      refine r_aload_n (v := .ref (eA E 6 0)) dX6_read_117 rfl (rl_ref _) ?_
      refine r_get (v := .int (V 703 0 0)) dX6_read_118 fl_RX6_21 (hE.1 6 (by decide)) rfl ?_
      exact r_iret dX6_read_121 rfl ⟨Nat.le_of_ble_eq_true rfl, Nat.le_of_ble_eq_true rfl⟩ ⟨rfl, _, rfl, h⟩
    · have h := h.2 q
      refine r_iconst (v := (-1 : Int32)) dX6_read_113 (by decide) ?_
      refine r_goto 121 dX6_read_114 (by decide) ?_
      exact r_iret dX6_read_121 rfl ⟨Nat.le_of_ble_eq_true rfl, Nat.le_of_ble_eq_true rfl⟩ ⟨rfl, _, rfl, h⟩
  · have h := h.2 q
    refine r_iload_n (x := x2) dX6_read_22 rfl ?_
    refine r_aload_n (v := .ref (eA E 6 0)) dX6_read_23 rfl (rl_ref _) ?_
    refine r_get (v := .int (V 703 0 0)) dX6_read_24 fl_RX6_21 (hE.1 6 (by decide)) rfl ?_
    refine r_icmp_ge 109 dX6_read_27 (by decide) (fun q => ?_) (fun q => ?_)
    · have h := h.1 q
      refine r_iload_n (x := x1) dX6_read_109 rfl ?_
      refine r_if_eq 117 dX6_read_110 (by decide) (fun q => ?_) (fun q => ?_)
      · have h := h.1 q
        refine r_aload_n (v := .ref (eA E 6 0)) dX6_read_117 rfl (rl_ref _) ?_
        refine r_get (v := .int (V 703 0 0)) dX6_read_118 fl_RX6_21 (hE.1 6 (by decide)) rfl ?_
        exact r_iret dX6_read_121 rfl ⟨Nat.le_of_ble_eq_true rfl, Nat.le_of_ble_eq_true rfl⟩ ⟨rfl, _, rfl, h⟩
      · have h := h.2 q
        refine r_iconst (v := (-1 : Int32)) dX6_read_113 (by decide) ?_
        refine r_goto 121 dX6_read_114 (by decide) ?_
        exact r_iret dX6_read_121 rfl ⟨Nat.le_of_ble_eq_true rfl, Nat.le_of_ble_eq_true rfl⟩ ⟨rfl, _, rfl, h⟩
    · have h := h.2 q
      refine r_iload_n (x := x1) dX6_read_30 rfl ?_
      refine r_if_eq 36 dX6_read_31 (by decide) (fun q => ?_) (fun q => ?_)
      · have h := h.1 q
        refine r_ldcS (tx := "!+-*<=>&|") (a := gK G 1) dX6_read_36 (fun U hb => hb.2.2.1) ?_
        refine r_aload_n (v := .ref (eA E 6 0)) dX6_read_38 rfl (rl_ref _) ?_
        refine r_get (v := .ref (eA E 700 0)) dX6_read_39 fl_RX6_9 (hE.1 6 (by decide)) rfl ?_
        refine r_iload_n (x := x2) dX6_read_42 rfl ?_
        obtain ⟨hb, h⟩ := h
        refine r_iald dX6_read_43 rfl (by decide) (hE.1 6 (by decide)) (ix hE (by decide) rfl hb) ?_
        refine r_i2c dX6_read_44 ?_
        refine r_cStr (w := 1) (As := [.int (((V 700 0 (x2).toNatClampNeg)).toUInt32 % 65536).toInt32]) (rest := []) dX6_read_45 mv_J0_indexOf_0f7a4 ml_RX6_44 rfl (by decide) ⟨Nat.le_of_ble_eq_true rfl, Nat.le_of_ble_eq_true rfl⟩ ⟨rfl, rfl⟩ rfl rfl (Nat.le_of_ble_eq_true rfl) h (fun x22 V21 h => ?_)
        refine r_if_lt 78 dX6_read_48 (by decide) (fun q => ?_) (fun q => ?_)
        · have h := h.1 q
          refine r_aload_n (v := .ref (eA E 6 0)) dX6_read_78 rfl (rl_ref _) ?_
          refine r_iload_n (x := x2) dX6_read_79 rfl ?_
          refine r_cVi (As := [.int x2]) (rest := []) dX6_read_80 mv_X6_readLeaf ml_RX6_54 ⟨_, _, rfl⟩ (hE.1 6 (by decide)) ⟨Nat.le_of_ble_eq_true rfl, Nat.le_of_ble_eq_true rfl⟩ ⟨rfl, rfl⟩ rfl rfl (Nat.le_of_ble_eq_true rfl) h (fun x24 V23 h => ?_)
          refine r_istore dX6_read_83 (by decide) ?_
          refine r_iload (x := x24) dX6_read_85 rfl ?_
          refine r_if_ge 95 dX6_read_87 (by decide) (fun q => ?_) (fun q => ?_)
          · have h := h.1 q
            refine r_aload_n (v := .ref (eA E 6 0)) dX6_read_95 rfl (rl_ref _) ?_
            refine r_cVi (As := []) (rest := []) dX6_read_96 mv_X6_closeSigns ml_RX6_57 ⟨_, _, rfl⟩ (hE.1 6 (by decide)) ⟨Nat.le_of_ble_eq_true rfl, Nat.le_of_ble_eq_true rfl⟩ ⟨rfl, rfl⟩ rfl rfl (Nat.le_of_ble_eq_true rfl) h (fun x26 V25 h => ?_)
            refine r_istore_n dX6_read_99 (by decide) ?_
            refine r_iload (x := x24) dX6_read_100 rfl ?_
            refine r_istore_n dX6_read_102 (by decide) ?_
            refine r_iinc (x := x3) (v := (1 : Int32)) dX6_read_103 rfl (by decide) (by decide) ?_
            refine r_goto 16 dX6_read_106 (by decide) ?_
            exact Ev.loc [0, 1, 2, 3] rfl h
          · have h := h.2 q
            refine r_iconst (v := (-1 : Int32)) dX6_read_90 (by decide) ?_
            refine r_iload (x := x24) dX6_read_91 rfl ?_
            refine r_isub dX6_read_93 ?_
            exact r_iret dX6_read_94 rfl ⟨Nat.le_of_ble_eq_true rfl, Nat.le_of_ble_eq_true rfl⟩ ⟨rfl, _, rfl, h⟩
        · have h := h.2 q
          refine r_aload_n (v := .ref (eA E 6 0)) dX6_read_51 rfl (rl_ref _) ?_
          refine r_get (v := .int (V21 705 0 0)) dX6_read_52 fl_RX6_39 (hE.1 6 (by decide)) rfl ?_
          refine r_bipush (v := (20 : Int32)) dX6_read_55 (by decide) ?_
          refine r_icmp_lt 62 dX6_read_57 (by decide) (fun q => ?_) (fun q => ?_)
          · have h := h.1 q
            refine r_aload_n (v := .ref (eA E 6 0)) dX6_read_62 rfl (rl_ref _) ?_
            refine r_aload_n (v := .ref (eA E 6 0)) dX6_read_63 rfl (rl_ref _) ?_
            refine r_get (v := .ref (eA E 700 0)) dX6_read_64 fl_RX6_9 (hE.1 6 (by decide)) rfl ?_
            refine r_iload_n (x := x2) dX6_read_67 rfl ?_
            obtain ⟨hb, h⟩ := h
            refine r_iald dX6_read_68 rfl (by decide) (hE.1 6 (by decide)) (ix hE (by decide) rfl hb) ?_
            refine r_cVv (As := [.int (V21 700 0 (x2).toNatClampNeg)]) (rest := []) dX6_read_69 mv_X6_openSign ml_RX6_50 ⟨_, _, rfl⟩ (hE.1 6 (by decide)) ⟨Nat.le_of_ble_eq_true rfl, Nat.le_of_ble_eq_true rfl⟩ ⟨rfl, rfl⟩ rfl rfl (Nat.le_of_ble_eq_true rfl) h (fun V27 h => ?_)
            refine r_iinc (x := x2) (v := (1 : Int32)) dX6_read_72 rfl (by decide) (by decide) ?_
            refine r_goto 103 dX6_read_75 (by decide) ?_
            refine r_iinc (x := x3) (v := (1 : Int32)) dX6_read_103 rfl (by decide) (by decide) ?_
            refine r_goto 16 dX6_read_106 (by decide) ?_
            exact Ev.loc [0, 1, 2, 3] rfl h
          · have h := h.2 q
            refine r_iload_n (x := x2) dX6_read_60 rfl ?_
            exact r_iret dX6_read_61 rfl ⟨Nat.le_of_ble_eq_true rfl, Nat.le_of_ble_eq_true rfl⟩ ⟨rfl, _, rfl, h⟩
      · have h := h.2 q
        refine r_iload_n (x := x2) dX6_read_34 rfl ?_
        exact r_iret dX6_read_35 rfl ⟨Nat.le_of_ble_eq_true rfl, Nat.le_of_ble_eq_true rfl⟩ ⟨rfl, _, rfl, h⟩

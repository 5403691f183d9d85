abbrev rm_X8_bear : Room := { frames := 2, cells := 0, slots := 0, locals := 50 }
def C_X8_bear (l : Launch) (G : Gt) (E : Et) (V : Vt) (x1 : Int32) (x2 : Int32) (x3 : Int32) (x4 : Int32) (x5 : Int32) (K : Int32 → Vt → Prop) : Prop := Cl l G yX8_bear cX8_bear 8 (some .int) rm_X8_bear E V [.ref (eA E 8 0), .int x1, .int x2, .int x3, .int x4, .int x5] (Qi E K)
def vc_X8_bear (l : Launch) (G : Gt) (E : Et) (V : Vt) (x1 : Int32) (x2 : Int32) (x3 : Int32) (x4 : Int32) (x5 : Int32) (K : Int32 → Vt → Prop) : Prop := (C_X3_find l G E V x1 (fun o22 V21 => ((o22 = none → K (-1 : Int32) V21) ∧ (∀ t23, o22 = some t23 → eL E 2 t23 ∧ (C_X3_readSupports l G E V21 x1 x2 x3 x4 x5 (fun x25 V24 => ((x25 = (-1 : Int32) → K (-1 : Int32) V24) ∧ (¬ x25 = (-1 : Int32) → ((¬ (V24 300 t23 0) = (1 : Int32) → (C_X2_isBegun l G E V24 t23 (fun x27 V26 => ((x27 = (0 : Int32) → (((V26 406 0 0) < (60 : Int32) → (C_X3_setSupports l G E V26 t23 x25 (fun V28 => (C_X3_keepEdition l G E V28 x1 (V28 309 t23 0) (fun x30 V29 => K x25 V29))))) ∧ (¬ (V26 406 0 0) < (60 : Int32) → K (-3 : Int32) V26))) ∧ (¬ x27 = (0 : Int32) → K (-2 : Int32) V26))))) ∧ ((V24 300 t23 0) = (1 : Int32) → (((2 : Int32) ≤ x25 → (C_X2_isBegun l G E V24 t23 (fun x32 V31 => ((x32 = (0 : Int32) → (((V31 406 0 0) < (60 : Int32) → (C_X3_setSupports l G E V31 t23 x25 (fun V33 => (C_X3_keepEdition l G E V33 x1 (V33 309 t23 0) (fun x35 V34 => K x25 V34))))) ∧ (¬ (V31 406 0 0) < (60 : Int32) → K (-3 : Int32) V31))) ∧ (¬ x32 = (0 : Int32) → K (-2 : Int32) V31))))) ∧ (¬ (2 : Int32) ≤ x25 → K (-1 : Int32) V24))))))))))))
theorem ok_X8_bear {l : Launch} {G : Gt} {E : Et} {V : Vt} {x1 : Int32} {x2 : Int32} {x3 : Int32} {x4 : Int32} {x5 : Int32} {K : Int32 → Vt → Prop} (hE : Sg E)  (h : vc_X8_bear l G E V x1 x2 x3 x4 x5 K) : C_X8_bear l G E V x1 x2 x3 x4 x5 K := by
  unfold vc_X8_bear at h
  refine Cl.of (by decide +kernel) (Nat.le_of_ble_eq_true rfl) (show Ev l G RX8 cX8_bear 8 (some .int) rm_X8_bear E 0 0 V 0 [(0, .ref (eA E 8 0)), (1, .int x1), (2, .int x2), (3, .int x3), (4, .int x4), (5, .int x5)] [] (Qi E K) from ?_)
  refine r_aload_n (v := .ref (eA E 8 0)) dX8_bear_0 rfl (rl_ref _) ?_
  refine r_get (v := .ref (eA E 3 0)) dX8_bear_1 fl_RX8_10 (hE.1 8 (by decide)) rfl ?_
  refine r_iload_n (x := x1) dX8_bear_4 rfl ?_
  refine r_cVr (As := [.int x1]) (rest := []) dX8_bear_5 mv_X3_find ml_RX8_80 ⟨_, _, rfl⟩ (hE.1 3 (by decide)) ⟨Nat.le_of_ble_eq_true rfl, Nat.le_of_ble_eq_true rfl⟩ ⟨rfl, rfl⟩ rfl rfl (Nat.le_of_ble_eq_true rfl) h (fun o22 V21 h => ?_)
  refine r_astore dX8_bear_8 (by decide) (rl_rf _) ?_
  refine r_aload (v := va_rf (Option.map (eA E 2) o22)) dX8_bear_10 rfl (rl_rf _) ?_
  cases hot23 : o22 with
  | none =>
    have h := h.1 hot23
    refine r_ifnonnull (o := none) 17 dX8_bear_12 (by decide) (fun a q => by cases q) (fun _ => ?_)
    refine r_iconst (v := (-1 : Int32)) dX8_bear_15 (by decide) ?_
    exact r_iret dX8_bear_16 rfl ⟨Nat.le_of_ble_eq_true rfl, Nat.le_of_ble_eq_true rfl⟩ ⟨rfl, _, rfl, h⟩
  | some t23 =>
    obtain ⟨hl_t23, h⟩ := h.2 t23 hot23
    refine r_ifnonnull (o := some (eA E 2 t23)) 17 dX8_bear_12 (by decide) (fun _ _ => ?_) (fun q => by cases q)
    refine r_aload_n (v := .ref (eA E 8 0)) dX8_bear_17 rfl (rl_ref _) ?_
    refine r_get (v := .ref (eA E 3 0)) dX8_bear_18 fl_RX8_10 (hE.1 8 (by decide)) rfl ?_
    refine r_iload_n (x := x1) dX8_bear_21 rfl ?_
    refine r_iload_n (x := x2) dX8_bear_22 rfl ?_
    refine r_iload_n (x := x3) dX8_bear_23 rfl ?_
    refine r_iload (x := x4) dX8_bear_24 rfl ?_
    refine r_iload (x := x5) dX8_bear_26 rfl ?_
    refine r_cVi (As := [.int x1, .int x2, .int x3, .int x4, .int x5]) (rest := []) dX8_bear_28 mv_X3_readSupports ml_RX8_91 ⟨_, _, rfl⟩ (hE.1 3 (by decide)) ⟨Nat.le_of_ble_eq_true rfl, Nat.le_of_ble_eq_true rfl⟩ ⟨rfl, rfl⟩ rfl rfl (Nat.le_of_ble_eq_true rfl) h (fun x25 V24 h => ?_)
    refine r_istore dX8_bear_31 (by decide) ?_
    refine r_iload (x := x25) dX8_bear_33 rfl ?_
    refine r_iconst (v := (-1 : Int32)) dX8_bear_35 (by decide) ?_
    refine r_icmp_eq 54 dX8_bear_36 (by decide) (fun q => ?_) (fun q => ?_)
    · have h := h.1 q
      refine r_iconst (v := (-1 : Int32)) dX8_bear_54 (by decide) ?_
      exact r_iret dX8_bear_55 rfl ⟨Nat.le_of_ble_eq_true rfl, Nat.le_of_ble_eq_true rfl⟩ ⟨rfl, _, rfl, h⟩
    · have h := h.2 q
      refine r_aload (v := .ref (eA E 2 t23)) dX8_bear_39 rfl (rl_ref _) ?_
      refine r_get (v := .int (V24 300 t23 0)) dX8_bear_41 fl_RX8_95 hl_t23 rfl ?_
      refine r_iconst (v := (1 : Int32)) dX8_bear_44 (by decide) ?_
      refine r_icmp_ne 56 dX8_bear_45 (by decide) (fun q => ?_) (fun q => ?_)
      · have h := h.1 q
        refine r_aload (v := .ref (eA E 2 t23)) dX8_bear_56 rfl (rl_ref _) ?_
        refine r_cVi (As := []) (rest := []) dX8_bear_58 mv_X2_isBegun ml_RX8_98 ⟨_, _, rfl⟩ hl_t23 ⟨Nat.le_of_ble_eq_true rfl, Nat.le_of_ble_eq_true rfl⟩ ⟨rfl, rfl⟩ rfl rfl (Nat.le_of_ble_eq_true rfl) h (fun x27 V26 h => ?_)
        refine r_if_eq 67 dX8_bear_61 (by decide) (fun q => ?_) (fun q => ?_)
        · have h := h.1 q
          refine r_aload_n (v := .ref (eA E 8 0)) dX8_bear_67 rfl (rl_ref _) ?_
          refine r_get (v := .ref (eA E 3 0)) dX8_bear_68 fl_RX8_10 (hE.1 8 (by decide)) rfl ?_
          refine r_get (v := .int (V26 406 0 0)) dX8_bear_71 fl_RX8_102 (hE.1 3 (by decide)) rfl ?_
          refine r_bipush (v := (60 : Int32)) dX8_bear_74 (by decide) ?_
          refine r_icmp_lt 82 dX8_bear_76 (by decide) (fun q => ?_) (fun q => ?_)
          · have h := h.1 q
            refine r_aload_n (v := .ref (eA E 8 0)) dX8_bear_82 rfl (rl_ref _) ?_
            refine r_get (v := .ref (eA E 3 0)) dX8_bear_83 fl_RX8_10 (hE.1 8 (by decide)) rfl ?_
            refine r_aload (v := .ref (eA E 2 t23)) dX8_bear_86 rfl (rl_ref _) ?_
            refine r_iload (x := x25) dX8_bear_88 rfl ?_
            refine r_cVv (As := [.ref (eA E 2 t23), .int x25]) (rest := []) dX8_bear_90 mv_X3_setSupports ml_RX8_105 ⟨_, _, rfl⟩ (hE.1 3 (by decide)) ⟨Nat.le_of_ble_eq_true rfl, Nat.le_of_ble_eq_true rfl⟩ ⟨rfl, rfl⟩ rfl rfl (Nat.le_of_ble_eq_true rfl) h (fun V28 h => ?_)
            refine r_aload_n (v := .ref (eA E 8 0)) dX8_bear_93 rfl (rl_ref _) ?_
            refine r_get (v := .ref (eA E 3 0)) dX8_bear_94 fl_RX8_10 (hE.1 8 (by decide)) rfl ?_
            refine r_iload_n (x := x1) dX8_bear_97 rfl ?_
            refine r_aload (v := .ref (eA E 2 t23)) dX8_bear_98 rfl (rl_ref _) ?_
            refine r_get (v := .int (V28 309 t23 0)) dX8_bear_100 fl_RX8_109 hl_t23 rfl ?_
            refine r_cVi (As := [.int x1, .int (V28 309 t23 0)]) (rest := []) dX8_bear_103 mv_X3_keepEdition ml_RX8_112 ⟨_, _, rfl⟩ (hE.1 3 (by decide)) ⟨Nat.le_of_ble_eq_true rfl, Nat.le_of_ble_eq_true rfl⟩ ⟨rfl, rfl⟩ rfl rfl (Nat.le_of_ble_eq_true rfl) h (fun x30 V29 h => ?_)
            refine r_pop dX8_bear_106 rfl ?_
            refine r_iload (x := x25) dX8_bear_107 rfl ?_
            exact r_iret dX8_bear_109 rfl ⟨Nat.le_of_ble_eq_true rfl, Nat.le_of_ble_eq_true rfl⟩ ⟨rfl, _, rfl, h⟩
          · have h := h.2 q
            refine r_bipush (v := (-3 : Int32)) dX8_bear_79 (by decide) ?_
            exact r_iret dX8_bear_81 rfl ⟨Nat.le_of_ble_eq_true rfl, Nat.le_of_ble_eq_true rfl⟩ ⟨rfl, _, rfl, h⟩
        · have h := h.2 q
          refine r_bipush (v := (-2 : Int32)) dX8_bear_64 (by decide) ?_
          exact r_iret dX8_bear_66 rfl ⟨Nat.le_of_ble_eq_true rfl, Nat.le_of_ble_eq_true rfl⟩ ⟨rfl, _, rfl, h⟩
      · have h := h.2 q
        refine r_iload (x := x25) dX8_bear_48 rfl ?_
        refine r_iconst (v := (2 : Int32)) dX8_bear_50 (by decide) ?_
        refine r_icmp_ge 56 dX8_bear_51 (by decide) (fun q => ?_) (fun q => ?_)
        · have h := h.1 q
          refine r_aload (v := .ref (eA E 2 t23)) dX8_bear_56 rfl (rl_ref _) ?_
          refine r_cVi (As := []) (rest := []) dX8_bear_58 mv_X2_isBegun ml_RX8_98 ⟨_, _, rfl⟩ hl_t23 ⟨Nat.le_of_ble_eq_true rfl, Nat.le_of_ble_eq_true rfl⟩ ⟨rfl, rfl⟩ rfl rfl (Nat.le_of_ble_eq_true rfl) h (fun x32 V31 h => ?_)
          refine r_if_eq 67 dX8_bear_61 (by decide) (fun q => ?_) (fun q => ?_)
          · have h := h.1 q
            refine r_aload_n (v := .ref (eA E 8 0)) dX8_bear_67 rfl (rl_ref _) ?_
            refine r_get (v := .ref (eA E 3 0)) dX8_bear_68 fl_RX8_10 (hE.1 8 (by decide)) rfl ?_
            refine r_get (v := .int (V31 406 0 0)) dX8_bear_71 fl_RX8_102 (hE.1 3 (by decide)) rfl ?_
            refine r_bipush (v := (60 : Int32)) dX8_bear_74 (by decide) ?_
            refine r_icmp_lt 82 dX8_bear_76 (by decide) (fun q => ?_) (fun q => ?_)
            · have h := h.1 q
              refine r_aload_n (v := .ref (eA E 8 0)) dX8_bear_82 rfl (rl_ref _) ?_
              refine r_get (v := .ref (eA E 3 0)) dX8_bear_83 fl_RX8_10 (hE.1 8 (by decide)) rfl ?_
              refine r_aload (v := .ref (eA E 2 t23)) dX8_bear_86 rfl (rl_ref _) ?_
              refine r_iload (x := x25) dX8_bear_88 rfl ?_
              refine r_cVv (As := [.ref (eA E 2 t23), .int x25]) (rest := []) dX8_bear_90 mv_X3_setSupports ml_RX8_105 ⟨_, _, rfl⟩ (hE.1 3 (by decide)) ⟨Nat.le_of_ble_eq_true rfl, Nat.le_of_ble_eq_true rfl⟩ ⟨rfl, rfl⟩ rfl rfl (Nat.le_of_ble_eq_true rfl) h (fun V33 h => ?_)
              refine r_aload_n (v := .ref (eA E 8 0)) dX8_bear_93 rfl (rl_ref _) ?_
              refine r_get (v := .ref (eA E 3 0)) dX8_bear_94 fl_RX8_10 (hE.1 8 (by decide)) rfl ?_
              refine r_iload_n (x := x1) dX8_bear_97 rfl ?_
              refine r_aload (v := .ref (eA E 2 t23)) dX8_bear_98 rfl (rl_ref _) ?_
              refine r_get (v := .int (V33 309 t23 0)) dX8_bear_100 fl_RX8_109 hl_t23 rfl ?_
              refine r_cVi (As := [.int x1, .int (V33 309 t23 0)]) (rest := []) dX8_bear_103 mv_X3_keepEdition ml_RX8_112 ⟨_, _, rfl⟩ (hE.1 3 (by decide)) ⟨Nat.le_of_ble_eq_true rfl, Nat.le_of_ble_eq_true rfl⟩ ⟨rfl, rfl⟩ rfl rfl (Nat.le_of_ble_eq_true rfl) h (fun x35 V34 h => ?_)
              refine r_pop dX8_bear_106 rfl ?_
              refine r_iload (x := x25) dX8_bear_107 rfl ?_
              exact r_iret dX8_bear_109 rfl ⟨Nat.le_of_ble_eq_true rfl, Nat.le_of_ble_eq_true rfl⟩ ⟨rfl, _, rfl, h⟩
            · have h := h.2 q
              refine r_bipush (v := (-3 : Int32)) dX8_bear_79 (by decide) ?_
              exact r_iret dX8_bear_81 rfl ⟨Nat.le_of_ble_eq_true rfl, Nat.le_of_ble_eq_true rfl⟩ ⟨rfl, _, rfl, h⟩
          · have h := h.2 q
            refine r_bipush (v := (-2 : Int32)) dX8_bear_64 (by decide) ?_
            exact r_iret dX8_bear_66 rfl ⟨Nat.le_of_ble_eq_true rfl, Nat.le_of_ble_eq_true rfl⟩ ⟨rfl, _, rfl, h⟩
        · have h := h.2 q
          refine r_iconst (v := (-1 : Int32)) dX8_bear_54 (by decide) ?_
          exact r_iret dX8_bear_55 rfl ⟨Nat.le_of_ble_eq_true rfl, Nat.le_of_ble_eq_true rfl⟩ ⟨rfl, _, rfl, h⟩
abbrev rm_X8_edit : Room := { frames := 1, cells := 0, slots := 0, locals := 22 }
def C_X8_edit (l : Launch) (G : Gt) (E : Et) (V : Vt) (x1 : Int32) (x2 : Int32) (K : Int32 → Vt → Prop) : Prop := Cl l G yX8_edit cX8_edit 4 (some .int) rm_X8_edit E V [.ref (eA E 8 0), .int x1, .int x2] (Qi E K)
def vc_X8_edit (l : Launch) (G : Gt) (E : Et) (V : Vt) (x1 : Int32) (x2 : Int32) (K : Int32 → Vt → Prop) : Prop := (C_X3_find l G E V x1 (fun o22 V21 => ((o22 = none → K (-1 : Int32) V21) ∧ (∀ t23, o22 = some t23 → eL E 2 t23 ∧ ((x2 < (1 : Int32) → K (-1 : Int32) V21) ∧ (¬ x2 < (1 : Int32) → ((x2 ≤ (30 : Int32) → (C_X2_isBegun l G E V21 t23 (fun x25 V24 => ((x25 = (0 : Int32) → (((V24 406 0 0) < (60 : Int32) → (C_X3_keepEdition l G E (up3 V24 309 t23 0 x2) x1 x2 (fun x27 V26 => K x27 V26))) ∧ (¬ (V24 406 0 0) < (60 : Int32) → K (-3 : Int32) V24))) ∧ (¬ x25 = (0 : Int32) → K (-2 : Int32) V24))))) ∧ (¬ x2 ≤ (30 : Int32) → K (-1 : Int32) V21))))))))
theorem ok_X8_edit {l : Launch} {G : Gt} {E : Et} {V : Vt} {x1 : Int32} {x2 : Int32} {K : Int32 → Vt → Prop} (hE : Sg E)  (h : vc_X8_edit l G E V x1 x2 K) : C_X8_edit l G E V x1 x2 K := by
  unfold vc_X8_edit at h
  refine Cl.of (by decide +kernel) (Nat.le_of_ble_eq_true rfl) (show Ev l G RX8 cX8_edit 4 (some .int) rm_X8_edit E 0 0 V 0 [(0, .ref (eA E 8 0)), (1, .int x1), (2, .int x2)] [] (Qi E K) from ?_)
  refine r_aload_n (v := .ref (eA E 8 0)) dX8_edit_0 rfl (rl_ref _) ?_
  refine r_get (v := .ref (eA E 3 0)) dX8_edit_1 fl_RX8_10 (hE.1 8 (by decide)) rfl ?_
  refine r_iload_n (x := x1) dX8_edit_4 rfl ?_
  refine r_cVr (As := [.int x1]) (rest := []) dX8_edit_5 mv_X3_find ml_RX8_80 ⟨_, _, rfl⟩ (hE.1 3 (by decide)) ⟨Nat.le_of_ble_eq_true rfl, Nat.le_of_ble_eq_true rfl⟩ ⟨rfl, rfl⟩ rfl rfl (Nat.le_of_ble_eq_true rfl) h (fun o22 V21 h => ?_)
  refine r_astore_n dX8_edit_8 (by decide) (rl_rf _) ?_
  refine r_aload_n (v := va_rf (Option.map (eA E 2) o22)) dX8_edit_9 rfl (rl_rf _) ?_
  cases hot23 : o22 with
  | none =>
    have h := h.1 hot23
    refine r_ifnull (o := none) 24 dX8_edit_10 (by decide) (fun _ => ?_) (fun a q => by cases q)
    refine r_iconst (v := (-1 : Int32)) dX8_edit_24 (by decide) ?_
    exact r_iret dX8_edit_25 rfl ⟨Nat.le_of_ble_eq_true rfl, Nat.le_of_ble_eq_true rfl⟩ ⟨rfl, _, rfl, h⟩
  | some t23 =>
    obtain ⟨hl_t23, h⟩ := h.2 t23 hot23
    refine r_ifnull (o := some (eA E 2 t23)) 24 dX8_edit_10 (by decide) (fun q => by cases q) (fun _ _ => ?_)
    refine r_iload_n (x := x2) dX8_edit_13 rfl ?_
    refine r_iconst (v := (1 : Int32)) dX8_edit_14 (by decide) ?_
    refine r_icmp_lt 24 dX8_edit_15 (by decide) (fun q => ?_) (fun q => ?_)
    · have h := h.1 q
      refine r_iconst (v := (-1 : Int32)) dX8_edit_24 (by decide) ?_
      exact r_iret dX8_edit_25 rfl ⟨Nat.le_of_ble_eq_true rfl, Nat.le_of_ble_eq_true rfl⟩ ⟨rfl, _, rfl, h⟩
    · have h := h.2 q
      refine r_iload_n (x := x2) dX8_edit_18 rfl ?_
      refine r_bipush (v := (30 : Int32)) dX8_edit_19 (by decide) ?_
      refine r_icmp_le 26 dX8_edit_21 (by decide) (fun q => ?_) (fun q => ?_)
      · have h := h.1 q
        refine r_aload_n (v := .ref (eA E 2 t23)) dX8_edit_26 rfl (rl_ref _) ?_
        refine r_cVi (As := []) (rest := []) dX8_edit_27 mv_X2_isBegun ml_RX8_98 ⟨_, _, rfl⟩ hl_t23 ⟨Nat.le_of_ble_eq_true rfl, Nat.le_of_ble_eq_true rfl⟩ ⟨rfl, rfl⟩ rfl rfl (Nat.le_of_ble_eq_true rfl) h (fun x25 V24 h => ?_)
        refine r_if_eq 36 dX8_edit_30 (by decide) (fun q => ?_) (fun q => ?_)
        · have h := h.1 q
          refine r_aload_n (v := .ref (eA E 8 0)) dX8_edit_36 rfl (rl_ref _) ?_
          refine r_get (v := .ref (eA E 3 0)) dX8_edit_37 fl_RX8_10 (hE.1 8 (by decide)) rfl ?_
          refine r_get (v := .int (V24 406 0 0)) dX8_edit_40 fl_RX8_102 (hE.1 3 (by decide)) rfl ?_
          refine r_bipush (v := (60 : Int32)) dX8_edit_43 (by decide) ?_
          refine r_icmp_lt 51 dX8_edit_45 (by decide) (fun q => ?_) (fun q => ?_)
          · have h := h.1 q
            refine r_aload_n (v := .ref (eA E 2 t23)) dX8_edit_51 rfl (rl_ref _) ?_
            refine r_iload_n (x := x2) dX8_edit_52 rfl ?_
            refine r_put dX8_edit_53 fp_RX8_109 rfl hl_t23 rfl rfl ?_
            refine r_aload_n (v := .ref (eA E 8 0)) dX8_edit_56 rfl (rl_ref _) ?_
            refine r_get (v := .ref (eA E 3 0)) dX8_edit_57 fl_RX8_10 (hE.1 8 (by decide)) rfl ?_
            refine r_iload_n (x := x1) dX8_edit_60 rfl ?_
            refine r_iload_n (x := x2) dX8_edit_61 rfl ?_
            refine r_cVi (As := [.int x1, .int x2]) (rest := []) dX8_edit_62 mv_X3_keepEdition ml_RX8_112 ⟨_, _, rfl⟩ (hE.1 3 (by decide)) ⟨Nat.le_of_ble_eq_true rfl, Nat.le_of_ble_eq_true rfl⟩ ⟨rfl, rfl⟩ rfl rfl (Nat.le_of_ble_eq_true rfl) h (fun x27 V26 h => ?_)
            exact r_iret dX8_edit_65 rfl ⟨Nat.le_of_ble_eq_true rfl, Nat.le_of_ble_eq_true rfl⟩ ⟨rfl, _, rfl, h⟩
          · have h := h.2 q
            refine r_bipush (v := (-3 : Int32)) dX8_edit_48 (by decide) ?_
            exact r_iret dX8_edit_50 rfl ⟨Nat.le_of_ble_eq_true rfl, Nat.le_of_ble_eq_true rfl⟩ ⟨rfl, _, rfl, h⟩
        · have h := h.2 q
          refine r_bipush (v := (-2 : Int32)) dX8_edit_33 (by decide) ?_
          exact r_iret dX8_edit_35 rfl ⟨Nat.le_of_ble_eq_true rfl, Nat.le_of_ble_eq_true rfl⟩ ⟨rfl, _, rfl, h⟩
      · have h := h.2 q
        refine r_iconst (v := (-1 : Int32)) dX8_edit_24 (by decide) ?_
        exact r_iret dX8_edit_25 rfl ⟨Nat.le_of_ble_eq_true rfl, Nat.le_of_ble_eq_true rfl⟩ ⟨rfl, _, rfl, h⟩
abbrev rm_X8_wanted : Room := { frames := 2, cells := 0, slots := 0, locals := 45 }
def C_X8_wanted (l : Launch) (G : Gt) (E : Et) (V : Vt) (x1 : Int32) (x2 : Int32) (K : Int32 → Vt → Prop) : Prop := Cl l G yX8_wanted cX8_wanted 3 (some .int) rm_X8_wanted E V [.ref (eA E 8 0), .int x1, .int x2] (Qi E K)
def vc_X8_wanted (l : Launch) (G : Gt) (E : Et) (V : Vt) (x1 : Int32) (x2 : Int32) (K : Int32 → Vt → Prop) : Prop := (C_X3_coursesIn l G E V x1 x2 (fun x22 V21 => K x22 V21))
theorem ok_X8_wanted {l : Launch} {G : Gt} {E : Et} {V : Vt} {x1 : Int32} {x2 : Int32} {K : Int32 → Vt → Prop} (hE : Sg E)  (h : vc_X8_wanted l G E V x1 x2 K) : C_X8_wanted l G E V x1 x2 K := by
  unfold vc_X8_wanted at h
  refine Cl.of (by decide +kernel) (Nat.le_of_ble_eq_true rfl) (show Ev l G RX8 cX8_wanted 3 (some .int) rm_X8_wanted E 0 0 V 0 [(0, .ref (eA E 8 0)), (1, .int x1), (2, .int x2)] [] (Qi E K) from ?_)
  refine r_aload_n (v := .ref (eA E 8 0)) dX8_wanted_0 rfl (rl_ref _) ?_
  refine r_get (v := .ref (eA E 3 0)) dX8_wanted_1 fl_RX8_10 (hE.1 8 (by decide)) rfl ?_
  refine r_iload_n (x := x1) dX8_wanted_4 rfl ?_
  refine r_iload_n (x := x2) dX8_wanted_5 rfl ?_
  refine r_cVi (As := [.int x1, .int x2]) (rest := []) dX8_wanted_6 mv_X3_coursesIn ml_RX8_116 ⟨_, _, rfl⟩ (hE.1 3 (by decide)) ⟨Nat.le_of_ble_eq_true rfl, Nat.le_of_ble_eq_true rfl⟩ ⟨rfl, rfl⟩ rfl rfl (Nat.le_of_ble_eq_true rfl) h (fun x22 V21 h => ?_)
  exact r_iret dX8_wanted_9 rfl ⟨Nat.le_of_ble_eq_true rfl, Nat.le_of_ble_eq_true rfl⟩ ⟨rfl, _, rfl, h⟩
abbrev rm_X8_stands : Room := { frames := 4, cells := 0, slots := 0, locals := 93 }
def C_X8_stands (l : Launch) (G : Gt) (E : Et) (V : Vt)  (K : Int32 → Vt → Prop) : Prop := Cl l G yX8_stands cX8_stands 1 (some .boolean) rm_X8_stands E V [.ref (eA E 8 0)] (Qi E K)
def vc_X8_stands (l : Launch) (G : Gt) (E : Et) (V : Vt)  (K : Int32 → Vt → Prop) : Prop := (C_X5_leastFalling l G E V (fun x22 V21 => ((¬ x22 = (-5 : Int32) → K (0 : Int32) V21) ∧ (x22 = (-5 : Int32) → K (1 : Int32) V21))))
theorem ok_X8_stands {l : Launch} {G : Gt} {E : Et} {V : Vt}  {K : Int32 → Vt → Prop} (hE : Sg E)  (h : vc_X8_stands l G E V  K) : C_X8_stands l G E V  K := by
  unfold vc_X8_stands at h
  refine Cl.of (by decide +kernel) (Nat.le_of_ble_eq_true rfl) (show Ev l G RX8 cX8_stands 1 (some .boolean) rm_X8_stands E 0 0 V 0 [(0, .ref (eA E 8 0))] [] (Qi E K) from ?_)
  refine r_aload_n (v := .ref (eA E 8 0)) dX8_stands_0 rfl (rl_ref _) ?_
  refine r_get (v := .ref (eA E 5 0)) dX8_stands_1 fl_RX8_19 (hE.1 8 (by decide)) rfl ?_
  refine r_aload_n (v := .ref (eA E 8 0)) dX8_stands_4 rfl (rl_ref _) ?_
  refine r_get (v := .ref (eA E 3 0)) dX8_stands_5 fl_RX8_10 (hE.1 8 (by decide)) rfl ?_
  refine r_cVi (As := [.ref (eA E 3 0)]) (rest := []) dX8_stands_8 mv_X5_leastFalling ml_RX8_296 ⟨_, _, rfl⟩ (hE.1 5 (by decide)) ⟨Nat.le_of_ble_eq_true rfl, Nat.le_of_ble_eq_true rfl⟩ ⟨rfl, rfl⟩ rfl rfl (Nat.le_of_ble_eq_true rfl) h (fun x22 V21 h => ?_)
  refine r_bipush (v := (-5 : Int32)) dX8_stands_11 (by decide) ?_
  refine r_icmp_ne 20 dX8_stands_13 (by decide) (fun q => ?_) (fun q => ?_)
  · have h := h.1 q
    refine r_iconst (v := (0 : Int32)) dX8_stands_20 (by decide) ?_
    exact r_zret dX8_stands_21 rfl rfl ⟨Nat.le_of_ble_eq_true rfl, Nat.le_of_ble_eq_true rfl⟩ ⟨rfl, _, rfl, h⟩
  · have h := h.2 q
    refine r_iconst (v := (1 : Int32)) dX8_stands_16 (by decide) ?_
    refine r_goto 21 dX8_stands_17 (by decide) ?_
    exact r_zret dX8_stands_21 rfl rfl ⟨Nat.le_of_ble_eq_true rfl, Nat.le_of_ble_eq_true rfl⟩ ⟨rfl, _, rfl, h⟩
abbrev rm_X8_tell : Room := { frames := 5, cells := 0, slots := 0, locals := 113 }
def C_X8_tell (l : Launch) (G : Gt) (E : Et) (V : Vt) (x1 : Int32) (x2 : Int32) (x3 : Int32) (K : Int32 → Vt → Prop) : Prop := Cl l G yX8_tell cX8_tell 6 (some .int) rm_X8_tell E V [.ref (eA E 8 0), .int x1, .int x2, .int x3] (Qi E K)
def vc_X8_tell (l : Launch) (G : Gt) (E : Et) (V : Vt) (x1 : Int32) (x2 : Int32) (x3 : Int32) (K : Int32 → Vt → Prop) : Prop := (C_X3_find l G E V x1 (fun o22 V21 => ((o22 = none → K (-1 : Int32) V21) ∧ (∀ t23, o22 = some t23 → eL E 2 t23 ∧ ((x2 < (0 : Int32) → K (-1 : Int32) V21) ∧ (¬ x2 < (0 : Int32) → (((4 : Int32) ≤ x2 → K (-1 : Int32) V21) ∧ (¬ (4 : Int32) ≤ x2 → ((x3 < (0 : Int32) → K (-1 : Int32) V21) ∧ (¬ x3 < (0 : Int32) → (vp_in x2 4) ∧ ((x3 ≤ (mTold.getD (x2).toNatClampNeg 0) → (vp_in x2 4) ∧ (vp_in x2 4) ∧ (C_X8_stands l G E (up3 V21 304 t23 (x2).toNatClampNeg x3) (fun x25 V24 => ((¬ x25 = (0 : Int32) → K (V21 304 t23 (x2).toNatClampNeg) V24) ∧ (x25 = (0 : Int32) → (vp_in x2 4) ∧ K (-15 : Int32) (up3 V24 304 t23 (x2).toNatClampNeg (V21 304 t23 (x2).toNatClampNeg))))))) ∧ (¬ x3 ≤ (mTold.getD (x2).toNatClampNeg 0) → K (-1 : Int32) V21))))))))))))
theorem ok_X8_tell {l : Launch} {G : Gt} {E : Et} {V : Vt} {x1 : Int32} {x2 : Int32} {x3 : Int32} {K : Int32 → Vt → Prop} (hE : Sg E)  (h : vc_X8_tell l G E V x1 x2 x3 K) : C_X8_tell l G E V x1 x2 x3 K := by
  unfold vc_X8_tell at h
  refine Cl.of (by decide +kernel) (Nat.le_of_ble_eq_true rfl) (show Ev l G RX8 cX8_tell 6 (some .int) rm_X8_tell E 0 0 V 0 [(0, .ref (eA E 8 0)), (1, .int x1), (2, .int x2), (3, .int x3)] [] (Qi E K) from ?_)
  refine r_aload_n (v := .ref (eA E 8 0)) dX8_tell_0 rfl (rl_ref _) ?_
  refine r_get (v := .ref (eA E 3 0)) dX8_tell_1 fl_RX8_10 (hE.1 8 (by decide)) rfl ?_
  refine r_iload_n (x := x1) dX8_tell_4 rfl ?_
  refine r_cVr (As := [.int x1]) (rest := []) dX8_tell_5 mv_X3_find ml_RX8_80 ⟨_, _, rfl⟩ (hE.1 3 (by decide)) ⟨Nat.le_of_ble_eq_true rfl, Nat.le_of_ble_eq_true rfl⟩ ⟨rfl, rfl⟩ rfl rfl (Nat.le_of_ble_eq_true rfl) h (fun o22 V21 h => ?_)
  refine r_astore dX8_tell_8 (by decide) (rl_rf _) ?_
  refine r_aload (v := va_rf (Option.map (eA E 2) o22)) dX8_tell_10 rfl (rl_rf _) ?_
  cases hot23 : o22 with
  | none =>
    have h := h.1 hot23
    refine r_ifnull (o := none) 40 dX8_tell_12 (by decide) (fun _ => ?_) (fun a q => by cases q)
    refine r_iconst (v := (-1 : Int32)) dX8_tell_40 (by decide) ?_
    exact r_iret dX8_tell_41 rfl ⟨Nat.le_of_ble_eq_true rfl, Nat.le_of_ble_eq_true rfl⟩ ⟨rfl, _, rfl, h⟩
  | some t23 =>
    obtain ⟨hl_t23, h⟩ := h.2 t23 hot23
    refine r_ifnull (o := some (eA E 2 t23)) 40 dX8_tell_12 (by decide) (fun q => by cases q) (fun _ _ => ?_)
    refine r_iload_n (x := x2) dX8_tell_15 rfl ?_
    refine r_if_lt 40 dX8_tell_16 (by decide) (fun q => ?_) (fun q => ?_)
    · have h := h.1 q
      refine r_iconst (v := (-1 : Int32)) dX8_tell_40 (by decide) ?_
      exact r_iret dX8_tell_41 rfl ⟨Nat.le_of_ble_eq_true rfl, Nat.le_of_ble_eq_true rfl⟩ ⟨rfl, _, rfl, h⟩
    · have h := h.2 q
      refine r_iload_n (x := x2) dX8_tell_19 rfl ?_
      refine r_told dX8_tell_20 kt_RX8_119 ?_
      refine r_toldlen dX8_tell_23 ?_
      refine r_icmp_ge 40 dX8_tell_24 (by decide) (fun q => ?_) (fun q => ?_)
      · have h := h.1 q
        refine r_iconst (v := (-1 : Int32)) dX8_tell_40 (by decide) ?_
        exact r_iret dX8_tell_41 rfl ⟨Nat.le_of_ble_eq_true rfl, Nat.le_of_ble_eq_true rfl⟩ ⟨rfl, _, rfl, h⟩
      · have h := h.2 q
        refine r_iload_n (x := x3) dX8_tell_27 rfl ?_
        refine r_if_lt 40 dX8_tell_28 (by decide) (fun q => ?_) (fun q => ?_)
        · have h := h.1 q
          refine r_iconst (v := (-1 : Int32)) dX8_tell_40 (by decide) ?_
          exact r_iret dX8_tell_41 rfl ⟨Nat.le_of_ble_eq_true rfl, Nat.le_of_ble_eq_true rfl⟩ ⟨rfl, _, rfl, h⟩
        · have h := h.2 q
          refine r_iload_n (x := x3) dX8_tell_31 rfl ?_
          refine r_told dX8_tell_32 kt_RX8_119 ?_
          refine r_iload_n (x := x2) dX8_tell_35 rfl ?_
          obtain ⟨hb, h⟩ := h
          refine r_toldat dX8_tell_36 hb ?_
          refine r_icmp_le 42 dX8_tell_37 (by decide) (fun q => ?_) (fun q => ?_)
          · have h := h.1 q
            refine r_aload (v := .ref (eA E 2 t23)) dX8_tell_42 rfl (rl_ref _) ?_
            refine r_get (v := .ref (eA E 304 t23)) dX8_tell_44 fl_RX8_122 hl_t23 rfl ?_
            refine r_iload_n (x := x2) dX8_tell_47 rfl ?_
            obtain ⟨hb, h⟩ := h
            refine r_iald dX8_tell_48 rfl (by decide) hl_t23 (ix hE (by decide) rfl hb) ?_
            refine r_istore dX8_tell_49 (by decide) ?_
            refine r_aload (v := .ref (eA E 2 t23)) dX8_tell_51 rfl (rl_ref _) ?_
            refine r_get (v := .ref (eA E 304 t23)) dX8_tell_53 fl_RX8_122 hl_t23 rfl ?_
            refine r_iload_n (x := x2) dX8_tell_56 rfl ?_
            refine r_iload_n (x := x3) dX8_tell_57 rfl ?_
            obtain ⟨hb, h⟩ := h
            refine r_iast dX8_tell_58 rfl (by decide) hl_t23 (ix hE (by decide) rfl hb) ?_
            refine r_aload_n (v := .ref (eA E 8 0)) dX8_tell_59 rfl (rl_ref _) ?_
            refine r_cVi (As := []) (rest := []) dX8_tell_60 mv_X8_stands ml_RX8_125 ⟨_, _, rfl⟩ (hE.1 8 (by decide)) ⟨Nat.le_of_ble_eq_true rfl, Nat.le_of_ble_eq_true rfl⟩ ⟨rfl, rfl⟩ rfl rfl (Nat.le_of_ble_eq_true rfl) h (fun x25 V24 h => ?_)
            refine r_if_ne 78 dX8_tell_63 (by decide) (fun q => ?_) (fun q => ?_)
            · have h := h.1 q
              refine r_iload (x := (V21 304 t23 (x2).toNatClampNeg)) dX8_tell_78 rfl ?_
              exact r_iret dX8_tell_80 rfl ⟨Nat.le_of_ble_eq_true rfl, Nat.le_of_ble_eq_true rfl⟩ ⟨rfl, _, rfl, h⟩
            · have h := h.2 q
              refine r_aload (v := .ref (eA E 2 t23)) dX8_tell_66 rfl (rl_ref _) ?_
              refine r_get (v := .ref (eA E 304 t23)) dX8_tell_68 fl_RX8_122 hl_t23 rfl ?_
              refine r_iload_n (x := x2) dX8_tell_71 rfl ?_
              refine r_iload (x := (V21 304 t23 (x2).toNatClampNeg)) dX8_tell_72 rfl ?_
              obtain ⟨hb, h⟩ := h
              refine r_iast dX8_tell_74 rfl (by decide) hl_t23 (ix hE (by decide) rfl hb) ?_
              refine r_bipush (v := (-15 : Int32)) dX8_tell_75 (by decide) ?_
              exact r_iret dX8_tell_77 rfl ⟨Nat.le_of_ble_eq_true rfl, Nat.le_of_ble_eq_true rfl⟩ ⟨rfl, _, rfl, h⟩
          · have h := h.2 q
            refine r_iconst (v := (-1 : Int32)) dX8_tell_40 (by decide) ?_
            exact r_iret dX8_tell_41 rfl ⟨Nat.le_of_ble_eq_true rfl, Nat.le_of_ble_eq_true rfl⟩ ⟨rfl, _, rfl, h⟩
abbrev rm_X8_statuteInForce : Room := { frames := 0, cells := 0, slots := 0, locals := 0 }
def C_X8_statuteInForce (l : Launch) (G : Gt) (E : Et) (V : Vt)  (K : Int32 → Vt → Prop) : Prop := Cl l G yX8_statuteInForce cX8_statuteInForce 2 (some .int) rm_X8_statuteInForce E V [.ref (eA E 8 0)] (Qi E K)
def A_X8_statuteInForce_7 (l : Launch) (G : Gt) (E : Et) (V : Vt) (x1 : Int32) (K : Int32 → Vt → Prop) : Prop := Ev l G RX8 cX8_statuteInForce 2 (some .int) rm_X8_statuteInForce E 0 0 V 7 [(0, .ref (eA E 8 0)), (1, .int x1)] [] (Qi E K)
def vc_X8_statuteInForce (l : Launch) (G : Gt) (E : Et) (V : Vt)  (K : Int32 → Vt → Prop) : Prop := A_X8_statuteInForce_7 l G E V ((V 910 0 0) - (1 : Int32)) K
def vc_X8_statuteInForce_7 (l : Launch) (G : Gt) (E : Et) (V : Vt) (x1 : Int32) (K : Int32 → Vt → Prop) : Prop := ((x1 < (0 : Int32) → K (-1 : Int32) V) ∧ (¬ x1 < (0 : Int32) → (vp_in x1 20) ∧ (((V 101 0 0) < (V 907 0 (x1).toNatClampNeg) → A_X8_statuteInForce_7 l G E V (x1 + (-1 : Int32)) K) ∧ (¬ (V 101 0 0) < (V 907 0 (x1).toNatClampNeg) → K x1 V))))
theorem ok_X8_statuteInForce {l : Launch} {G : Gt} {E : Et} {V : Vt}  {K : Int32 → Vt → Prop} (hE : Sg E)  (h : vc_X8_statuteInForce l G E V  K) : C_X8_statuteInForce l G E V  K := by
  unfold vc_X8_statuteInForce at h
  refine Cl.of (by decide +kernel) (Nat.le_of_ble_eq_true rfl) (show Ev l G RX8 cX8_statuteInForce 2 (some .int) rm_X8_statuteInForce E 0 0 V 0 [(0, .ref (eA E 8 0))] [] (Qi E K) from ?_)
  refine r_aload_n (v := .ref (eA E 8 0)) dX8_statuteInForce_0 rfl (rl_ref _) ?_
  refine r_get (v := .int (V 910 0 0)) dX8_statuteInForce_1 fl_RX8_208 (hE.1 8 (by decide)) rfl ?_
  refine r_iconst (v := (1 : Int32)) dX8_statuteInForce_4 (by decide) ?_
  refine r_isub dX8_statuteInForce_5 ?_
  refine r_istore_n dX8_statuteInForce_6 (by decide) ?_
  exact Ev.loc [0, 1] rfl h
theorem ok_X8_statuteInForce_7 {l : Launch} {G : Gt} {E : Et} {V : Vt} {x1 : Int32} {K : Int32 → Vt → Prop} (hE : Sg E)  (h : vc_X8_statuteInForce_7 l G E V x1 K) : A_X8_statuteInForce_7 l G E V x1 K := by
  unfold vc_X8_statuteInForce_7 at h
  unfold A_X8_statuteInForce_7
  refine r_iload_n (x := x1) dX8_statuteInForce_7 rfl ?_
  refine r_if_lt 35 dX8_statuteInForce_8 (by decide) (fun q => ?_) (fun q => ?_)
  · have h := h.1 q
    refine r_iconst (v := (-1 : Int32)) dX8_statuteInForce_35 (by decide) ?_
    exact r_iret dX8_statuteInForce_36 rfl ⟨Nat.le_of_ble_eq_true rfl, Nat.le_of_ble_eq_true rfl⟩ ⟨rfl, _, rfl, h⟩
  · have h := h.2 q
    refine r_aload_n (v := .ref (eA E 8 0)) dX8_statuteInForce_11 rfl (rl_ref _) ?_
    refine r_get (v := .ref (eA E 907 0)) dX8_statuteInForce_12 fl_RX8_56 (hE.1 8 (by decide)) rfl ?_
    refine r_iload_n (x := x1) dX8_statuteInForce_15 rfl ?_
    obtain ⟨hb, h⟩ := h
    refine r_iald dX8_statuteInForce_16 rfl (by decide) (hE.1 8 (by decide)) (ix hE (by decide) rfl hb) ?_
    refine r_aload_n (v := .ref (eA E 8 0)) dX8_statuteInForce_17 rfl (rl_ref _) ?_
    refine r_get (v := .ref (eA E 0 0)) dX8_statuteInForce_18 fl_RX8_26 (hE.1 8 (by decide)) rfl ?_
    refine r_get (v := .int (V 101 0 0)) dX8_statuteInForce_21 fl_RX8_136 (hE.1 0 (by decide)) rfl ?_
    refine r_icmp_gt 29 dX8_statuteInForce_24 (by decide) (fun q => ?_) (fun q => ?_)
    · have h := h.1 q
      refine r_iinc (x := x1) (v := (-1 : Int32)) dX8_statuteInForce_29 rfl (by decide) (by decide) ?_
      refine r_goto 7 dX8_statuteInForce_32 (by decide) ?_
      exact Ev.loc [0, 1] rfl h
    · have h := h.2 q
      refine r_iload_n (x := x1) dX8_statuteInForce_27 rfl ?_
      exact r_iret dX8_statuteInForce_28 rfl ⟨Nat.le_of_ble_eq_true rfl, Nat.le_of_ble_eq_true rfl⟩ ⟨rfl, _, rfl, h⟩
abbrev rm_X8_nameMonth : Room := { frames := 1, cells := 0, slots := 0, locals := 23 }
def C_X8_nameMonth (l : Launch) (G : Gt) (E : Et) (V : Vt)  (K : Vt → Prop) : Prop := Cl l G yX8_nameMonth cX8_nameMonth 1 none rm_X8_nameMonth E V [.ref (eA E 8 0)] (Qv E K)
def vc_X8_nameMonth (l : Launch) (G : Gt) (E : Et) (V : Vt)  (K : Vt → Prop) : Prop := (C_X0_hasFrost l G E V (V 101 0 0) (fun x22 V21 => (C_X4_nameMonth l G E V21 (V 101 0 0) x22 (V21 911 0 0) (fun V23 => K V23))))
theorem ok_X8_nameMonth {l : Launch} {G : Gt} {E : Et} {V : Vt}  {K : Vt → Prop} (hE : Sg E)  (h : vc_X8_nameMonth l G E V  K) : C_X8_nameMonth l G E V  K := by
  unfold vc_X8_nameMonth at h
  refine Cl.of (by decide +kernel) (Nat.le_of_ble_eq_true rfl) (show Ev l G RX8 cX8_nameMonth 1 none rm_X8_nameMonth E 0 0 V 0 [(0, .ref (eA E 8 0))] [] (Qv E K) from ?_)
  refine r_aload_n (v := .ref (eA E 8 0)) dX8_nameMonth_0 rfl (rl_ref _) ?_
  refine r_get (v := .ref (eA E 4 0)) dX8_nameMonth_1 fl_RX8_40 (hE.1 8 (by decide)) rfl ?_
  refine r_aload_n (v := .ref (eA E 8 0)) dX8_nameMonth_4 rfl (rl_ref _) ?_
  refine r_get (v := .ref (eA E 0 0)) dX8_nameMonth_5 fl_RX8_26 (hE.1 8 (by decide)) rfl ?_
  refine r_get (v := .int (V 101 0 0)) dX8_nameMonth_8 fl_RX8_136 (hE.1 0 (by decide)) rfl ?_
  refine r_aload_n (v := .ref (eA E 8 0)) dX8_nameMonth_11 rfl (rl_ref _) ?_
  refine r_get (v := .ref (eA E 0 0)) dX8_nameMonth_12 fl_RX8_26 (hE.1 8 (by decide)) rfl ?_
  refine r_aload_n (v := .ref (eA E 8 0)) dX8_nameMonth_15 rfl (rl_ref _) ?_
  refine r_get (v := .ref (eA E 0 0)) dX8_nameMonth_16 fl_RX8_26 (hE.1 8 (by decide)) rfl ?_
  refine r_get (v := .int (V 101 0 0)) dX8_nameMonth_19 fl_RX8_136 (hE.1 0 (by decide)) rfl ?_
  refine r_cVi (As := [.int (V 101 0 0)]) (rest := [.int (V 101 0 0), .ref (eA E 4 0)]) dX8_nameMonth_22 mv_X0_hasFrost ml_RX8_323 ⟨_, _, rfl⟩ (hE.1 0 (by decide)) ⟨Nat.le_of_ble_eq_true rfl, Nat.le_of_ble_eq_true rfl⟩ ⟨rfl, rfl⟩ rfl rfl (Nat.le_of_ble_eq_true rfl) h (fun x22 V21 h => ?_)
  refine r_aload_n (v := .ref (eA E 8 0)) dX8_nameMonth_25 rfl (rl_ref _) ?_
  refine r_get (v := .int (V21 911 0 0)) dX8_nameMonth_26 fl_RX8_143 (hE.1 8 (by decide)) rfl ?_
  refine r_cVv (As := [.int (V 101 0 0), .int x22, .int (V21 911 0 0)]) (rest := []) dX8_nameMonth_29 mv_X4_nameMonth ml_RX8_326 ⟨_, _, rfl⟩ (hE.1 4 (by decide)) ⟨Nat.le_of_ble_eq_true rfl, Nat.le_of_ble_eq_true rfl⟩ ⟨rfl, rfl⟩ rfl rfl (Nat.le_of_ble_eq_true rfl) h (fun V23 h => ?_)
  exact r_vret dX8_nameMonth_32 rfl ⟨Nat.le_of_ble_eq_true rfl, Nat.le_of_ble_eq_true rfl⟩ ⟨rfl, rfl, h⟩
abbrev rm_X8_work : Room := { frames := 9, cells := 0, slots := 0, locals := 205 }
def C_X8_work (l : Launch) (G : Gt) (E : Et) (V : Vt)  (K : Int32 → Vt → Prop) : Prop := Cl l G yX8_work cX8_work 2 (some .int) rm_X8_work E V [.ref (eA E 8 0)] (Qi E K)
def vc_X8_work (l : Launch) (G : Gt) (E : Et) (V : Vt)  (K : Int32 → Vt → Prop) : Prop := (C_X8_statuteInForce l G E V (fun x22 V21 => (((0 : Int32) ≤ x22 → (C_X8_nameMonth l G E V21 (fun V23 => (C_X4_nameNoPart l G E V23 (fun V24 => (vp_in x22 20) ∧ (C_X4_valueOf l G E V24 (eR E 906 (x22).toNatClampNeg) (fun x26 V25 => K (if (0 : Int32) < x26 then x26 else (0 : Int32)) V25))))))) ∧ (¬ (0 : Int32) ≤ x22 → K (10 : Int32) V21))))
theorem ok_X8_work {l : Launch} {G : Gt} {E : Et} {V : Vt}  {K : Int32 → Vt → Prop} (hE : Sg E)  (h : vc_X8_work l G E V  K) : C_X8_work l G E V  K := by
  unfold vc_X8_work at h
  refine Cl.of (by decide +kernel) (Nat.le_of_ble_eq_true rfl) (show Ev l G RX8 cX8_work 2 (some .int) rm_X8_work E 0 0 V 0 [(0, .ref (eA E 8 0))] [] (Qi E K) from ?_)
  refine r_aload_n (v := .ref (eA E 8 0)) dX8_work_0 rfl (rl_ref _) ?_
  refine r_cVi (As := []) (rest := []) dX8_work_1 mv_X8_statuteInForce ml_RX8_258 ⟨_, _, rfl⟩ (hE.1 8 (by decide)) ⟨Nat.le_of_ble_eq_true rfl, Nat.le_of_ble_eq_true rfl⟩ ⟨rfl, rfl⟩ rfl rfl (Nat.le_of_ble_eq_true rfl) h (fun x22 V21 h => ?_)
  refine r_istore_n dX8_work_4 (by decide) ?_
  refine r_iload_n (x := x22) dX8_work_5 rfl ?_
  refine r_if_ge 12 dX8_work_6 (by decide) (fun q => ?_) (fun q => ?_)
  · have h := h.1 q
    refine r_aload_n (v := .ref (eA E 8 0)) dX8_work_12 rfl (rl_ref _) ?_
    refine r_cVv (As := []) (rest := []) dX8_work_13 mv_X8_nameMonth ml_RX8_216 ⟨_, _, rfl⟩ (hE.1 8 (by decide)) ⟨Nat.le_of_ble_eq_true rfl, Nat.le_of_ble_eq_true rfl⟩ ⟨rfl, rfl⟩ rfl rfl (Nat.le_of_ble_eq_true rfl) h (fun V23 h => ?_)
    refine r_aload_n (v := .ref (eA E 8 0)) dX8_work_16 rfl (rl_ref _) ?_
    refine r_get (v := .ref (eA E 4 0)) dX8_work_17 fl_RX8_40 (hE.1 8 (by decide)) rfl ?_
    refine r_cVv (As := []) (rest := []) dX8_work_20 mv_X4_nameNoPart ml_RX8_261 ⟨_, _, rfl⟩ (hE.1 4 (by decide)) ⟨Nat.le_of_ble_eq_true rfl, Nat.le_of_ble_eq_true rfl⟩ ⟨rfl, rfl⟩ rfl rfl (Nat.le_of_ble_eq_true rfl) h (fun V24 h => ?_)
    refine r_iconst (v := (0 : Int32)) dX8_work_23 (by decide) ?_
    refine r_aload_n (v := .ref (eA E 8 0)) dX8_work_24 rfl (rl_ref _) ?_
    refine r_get (v := .ref (eA E 4 0)) dX8_work_25 fl_RX8_40 (hE.1 8 (by decide)) rfl ?_
    refine r_aload_n (v := .ref (eA E 8 0)) dX8_work_28 rfl (rl_ref _) ?_
    refine r_get (v := .ref (eA E 906 0)) dX8_work_29 fl_RX8_52 (hE.1 8 (by decide)) rfl ?_
    refine r_iload_n (x := x22) dX8_work_32 rfl ?_
    obtain ⟨hb, h⟩ := h
    refine r_aaldT dX8_work_33 rfl (by decide) (hE.1 8 (by decide)) (ix hE (by decide) rfl hb) ?_
    refine r_cVi (As := [va_rf (Option.map (eA E 7) (eR E 906 (x22).toNatClampNeg))]) (rest := [.int (0 : Int32)]) dX8_work_34 mv_X4_valueOf ml_RX8_264 ⟨_, _, rfl⟩ (hE.1 4 (by decide)) ⟨Nat.le_of_ble_eq_true rfl, Nat.le_of_ble_eq_true rfl⟩ ⟨rfl, rfl⟩ rfl rfl (Nat.le_of_ble_eq_true rfl) h (fun x26 V25 h => ?_)
    refine r_mmax dX8_work_37 ml_RX8_268 (Nat.le_of_ble_eq_true rfl) (Nat.le_of_ble_eq_true rfl) ?_
    exact r_iret dX8_work_40 rfl ⟨Nat.le_of_ble_eq_true rfl, Nat.le_of_ble_eq_true rfl⟩ ⟨rfl, _, rfl, h⟩
  · have h := h.2 q
    refine r_bipush (v := (10 : Int32)) dX8_work_9 (by decide) ?_
    exact r_iret dX8_work_11 rfl ⟨Nat.le_of_ble_eq_true rfl, Nat.le_of_ble_eq_true rfl⟩ ⟨rfl, _, rfl, h⟩
abbrev rm_X8_findGift : Room := { frames := 0, cells := 0, slots := 0, locals := 0 }
def C_X8_findGift (l : Launch) (G : Gt) (E : Et) (V : Vt) (x1 : Int32) (K : Option Nat → Vt → Prop) : Prop := Cl l G yX8_findGift cX8_findGift 2 (some (.object "ChurchLodge$Gift")) rm_X8_findGift E V [.ref (eA E 8 0), .int x1] (Qr 1 E K)
def vc_X8_findGift (l : Launch) (G : Gt) (E : Et) (V : Vt) (x1 : Int32) (K : Option Nat → Vt → Prop) : Prop := ((x1 < (0 : Int32) → K none V) ∧ (¬ x1 < (0 : Int32) → (((V 909 0 0) ≤ x1 → K none V) ∧ (¬ (V 909 0 0) ≤ x1 → (vp_in x1 30) ∧ K (eR E 905 (x1).toNatClampNeg) V))))
theorem ok_X8_findGift {l : Launch} {G : Gt} {E : Et} {V : Vt} {x1 : Int32} {K : Option Nat → Vt → Prop} (hE : Sg E)  (h : vc_X8_findGift l G E V x1 K) : C_X8_findGift l G E V x1 K := by
  unfold vc_X8_findGift at h
  refine Cl.of (by decide +kernel) (Nat.le_of_ble_eq_true rfl) (show Ev l G RX8 cX8_findGift 2 (some (.object "ChurchLodge$Gift")) rm_X8_findGift E 0 0 V 0 [(0, .ref (eA E 8 0)), (1, .int x1)] [] (Qr 1 E K) from ?_)
  refine r_iload_n (x := x1) dX8_findGift_0 rfl ?_
  refine r_if_lt 21 dX8_findGift_1 (by decide) (fun q => ?_) (fun q => ?_)
  · have h := h.1 q
    refine r_null dX8_findGift_21 ?_
    exact r_aret dX8_findGift_22 rfl (Or.inl ⟨_, rfl⟩) (Or.inl rfl) ⟨Nat.le_of_ble_eq_true rfl, Nat.le_of_ble_eq_true rfl⟩ ⟨rfl, none, rfl, h⟩
  · have h := h.2 q
    refine r_iload_n (x := x1) dX8_findGift_4 rfl ?_
    refine r_aload_n (v := .ref (eA E 8 0)) dX8_findGift_5 rfl (rl_ref _) ?_
    refine r_get (v := .int (V 909 0 0)) dX8_findGift_6 fl_RX8_194 (hE.1 8 (by decide)) rfl ?_
    refine r_icmp_ge 21 dX8_findGift_9 (by decide) (fun q => ?_) (fun q => ?_)
    · have h := h.1 q
      refine r_null dX8_findGift_21 ?_
      exact r_aret dX8_findGift_22 rfl (Or.inl ⟨_, rfl⟩) (Or.inl rfl) ⟨Nat.le_of_ble_eq_true rfl, Nat.le_of_ble_eq_true rfl⟩ ⟨rfl, none, rfl, h⟩
    · have h := h.2 q
      refine r_aload_n (v := .ref (eA E 8 0)) dX8_findGift_12 rfl (rl_ref _) ?_
      refine r_get (v := .ref (eA E 905 0)) dX8_findGift_13 fl_RX8_46 (hE.1 8 (by decide)) rfl ?_
      refine r_iload_n (x := x1) dX8_findGift_16 rfl ?_
      obtain ⟨hb, h⟩ := h
      refine r_aaldG dX8_findGift_17 rfl (by decide) (hE.1 8 (by decide)) (ix hE (by decide) rfl hb) ?_
      refine r_goto 22 dX8_findGift_18 (by decide) ?_
      exact r_aret dX8_findGift_22 rfl (Or.inl ⟨_, rfl⟩) (rl_rf _) ⟨Nat.le_of_ble_eq_true rfl, Nat.le_of_ble_eq_true rfl⟩ ⟨rfl, (eR E 905 (x1).toNatClampNeg), rfl, h⟩
abbrev rm_X8_coinsFor : Room := { frames := 10, cells := 0, slots := 0, locals := 226 }
def C_X8_coinsFor (l : Launch) (G : Gt) (E : Et) (V : Vt) (x1 : Int32) (o2 : Nat) (K : Int32 → Vt → Prop) : Prop := Cl l G yX8_coinsFor cX8_coinsFor 6 (some .int) rm_X8_coinsFor E V [.ref (eA E 8 0), .int x1, .ref (eA E 2 o2)] (Qi E K)
def A_X8_coinsFor_18 (l : Launch) (G : Gt) (E : Et) (V : Vt) (x3 : Int32) (x4 : Int32) (K : Int32 → Vt → Prop) : Prop := Ev l G RX8 cX8_coinsFor 6 (some .int) rm_X8_coinsFor E 0 0 V 18 [(0, .ref (eA E 8 0)), (3, .int x3), (4, .int x4)] [] (Qi E K)
def vc_X8_coinsFor (l : Launch) (G : Gt) (E : Et) (V : Vt) (x1 : Int32) (o2 : Nat) (K : Int32 → Vt → Prop) : Prop := (C_X8_nameMonth l G E V (fun V21 => (C_X4_namePart l G E V21 x1 o2 (fun V22 => A_X8_coinsFor_18 l G E V22 (0 : Int32) (0 : Int32) K))))
def vc_X8_coinsFor_18 (l : Launch) (G : Gt) (E : Et) (V : Vt) (x3 : Int32) (x4 : Int32) (K : Int32 → Vt → Prop) : Prop := (((V 909 0 0) ≤ x4 → K x3 V) ∧ (¬ (V 909 0 0) ≤ x4 → (C_X8_findGift l G E V x4 (fun o24 V23 => ((o24 = none → A_X8_coinsFor_18 l G E V23 x3 (x4 + (1 : Int32)) K) ∧ (∀ t25, o24 = some t25 → eL E 1 t25 ∧ (C_X4_endOf l G E V23 t25 (fun x27 V26 => ((x27 = (0 : Int32) → A_X8_coinsFor_18 l G E V26 x3 (x4 + (1 : Int32)) K) ∧ (¬ x27 = (0 : Int32) → A_X8_coinsFor_18 l G E V26 (x3 + (V26 202 t25 0)) (x4 + (1 : Int32)) K))))))))))
theorem ok_X8_coinsFor {l : Launch} {G : Gt} {E : Et} {V : Vt} {x1 : Int32} {o2 : Nat} {K : Int32 → Vt → Prop} (hE : Sg E) (hl_o2 : eL E 2 o2) (h : vc_X8_coinsFor l G E V x1 o2 K) : C_X8_coinsFor l G E V x1 o2 K := by
  unfold vc_X8_coinsFor at h
  refine Cl.of (by decide +kernel) (Nat.le_of_ble_eq_true rfl) (show Ev l G RX8 cX8_coinsFor 6 (some .int) rm_X8_coinsFor E 0 0 V 0 [(0, .ref (eA E 8 0)), (1, .int x1), (2, .ref (eA E 2 o2))] [] (Qi E K) from ?_)
  refine r_aload_n (v := .ref (eA E 8 0)) dX8_coinsFor_0 rfl (rl_ref _) ?_
  refine r_cVv (As := []) (rest := []) dX8_coinsFor_1 mv_X8_nameMonth ml_RX8_216 ⟨_, _, rfl⟩ (hE.1 8 (by decide)) ⟨Nat.le_of_ble_eq_true rfl, Nat.le_of_ble_eq_true rfl⟩ ⟨rfl, rfl⟩ rfl rfl (Nat.le_of_ble_eq_true rfl) h (fun V21 h => ?_)
  refine r_aload_n (v := .ref (eA E 8 0)) dX8_coinsFor_4 rfl (rl_ref _) ?_
  refine r_get (v := .ref (eA E 4 0)) dX8_coinsFor_5 fl_RX8_40 (hE.1 8 (by decide)) rfl ?_
  refine r_iload_n (x := x1) dX8_coinsFor_8 rfl ?_
  refine r_aload_n (v := .ref (eA E 2 o2)) dX8_coinsFor_9 rfl (rl_ref _) ?_
  refine r_cVv (As := [.int x1, .ref (eA E 2 o2)]) (rest := []) dX8_coinsFor_10 mv_X4_namePart ml_RX8_219 ⟨_, _, rfl⟩ (hE.1 4 (by decide)) ⟨Nat.le_of_ble_eq_true rfl, Nat.le_of_ble_eq_true rfl⟩ ⟨rfl, rfl⟩ rfl rfl (Nat.le_of_ble_eq_true rfl) h (fun V22 h => ?_)
  refine r_iconst (v := (0 : Int32)) dX8_coinsFor_13 (by decide) ?_
  refine r_istore_n dX8_coinsFor_14 (by decide) ?_
  refine r_iconst (v := (0 : Int32)) dX8_coinsFor_15 (by decide) ?_
  refine r_istore dX8_coinsFor_16 (by decide) ?_
  exact Ev.loc [0, 3, 4] rfl h
theorem ok_X8_coinsFor_18 {l : Launch} {G : Gt} {E : Et} {V : Vt} {x3 : Int32} {x4 : Int32} {K : Int32 → Vt → Prop} (hE : Sg E)  (h : vc_X8_coinsFor_18 l G E V x3 x4 K) : A_X8_coinsFor_18 l G E V x3 x4 K := by
  unfold vc_X8_coinsFor_18 at h
  unfold A_X8_coinsFor_18
  refine r_iload (x := x4) dX8_coinsFor_18 rfl ?_
  refine r_aload_n (v := .ref (eA E 8 0)) dX8_coinsFor_20 rfl (rl_ref _) ?_
  refine r_get (v := .int (V 909 0 0)) dX8_coinsFor_21 fl_RX8_194 (hE.1 8 (by decide)) rfl ?_
  refine r_icmp_ge 66 dX8_coinsFor_24 (by decide) (fun q => ?_) (fun q => ?_)
  · have h := h.1 q
    refine r_iload_n (x := x3) dX8_coinsFor_66 rfl ?_
    exact r_iret dX8_coinsFor_67 rfl ⟨Nat.le_of_ble_eq_true rfl, Nat.le_of_ble_eq_true rfl⟩ ⟨rfl, _, rfl, h⟩
  · have h := h.2 q
    refine r_aload_n (v := .ref (eA E 8 0)) dX8_coinsFor_27 rfl (rl_ref _) ?_
    refine r_iload (x := x4) dX8_coinsFor_28 rfl ?_
    refine r_cVr (As := [.int x4]) (rest := []) dX8_coinsFor_30 mv_X8_findGift ml_RX8_211 ⟨_, _, rfl⟩ (hE.1 8 (by decide)) ⟨Nat.le_of_ble_eq_true rfl, Nat.le_of_ble_eq_true rfl⟩ ⟨rfl, rfl⟩ rfl rfl (Nat.le_of_ble_eq_true rfl) h (fun o24 V23 h => ?_)
    refine r_astore dX8_coinsFor_33 (by decide) (rl_rf _) ?_
    refine r_aload (v := va_rf (Option.map (eA E 1) o24)) dX8_coinsFor_35 rfl (rl_rf _) ?_
    cases hot25 : o24 with
    | none =>
      have h := h.1 hot25
      refine r_ifnull (o := none) 60 dX8_coinsFor_37 (by decide) (fun _ => ?_) (fun a q => by cases q)
      refine r_iinc (x := x4) (v := (1 : Int32)) dX8_coinsFor_60 rfl (by decide) (by decide) ?_
      refine r_goto 18 dX8_coinsFor_63 (by decide) ?_
      exact Ev.loc [0, 1, 2] rfl h
    | some t25 =>
      obtain ⟨hl_t25, h⟩ := h.2 t25 hot25
      refine r_ifnull (o := some (eA E 1 t25)) 60 dX8_coinsFor_37 (by decide) (fun q => by cases q) (fun _ _ => ?_)
      refine r_aload_n (v := .ref (eA E 8 0)) dX8_coinsFor_40 rfl (rl_ref _) ?_
      refine r_get (v := .ref (eA E 4 0)) dX8_coinsFor_41 fl_RX8_40 (hE.1 8 (by decide)) rfl ?_
      refine r_aload (v := .ref (eA E 1 t25)) dX8_coinsFor_44 rfl (rl_ref _) ?_
      refine r_cVi (As := [.ref (eA E 1 t25)]) (rest := []) dX8_coinsFor_46 mv_X4_endOf ml_RX8_222 ⟨_, _, rfl⟩ (hE.1 4 (by decide)) ⟨Nat.le_of_ble_eq_true rfl, Nat.le_of_ble_eq_true rfl⟩ ⟨rfl, rfl⟩ rfl rfl (Nat.le_of_ble_eq_true rfl) h (fun x27 V26 h => ?_)
      refine r_if_eq 60 dX8_coinsFor_49 (by decide) (fun q => ?_) (fun q => ?_)
      · have h := h.1 q
        refine r_iinc (x := x4) (v := (1 : Int32)) dX8_coinsFor_60 rfl (by decide) (by decide) ?_
        refine r_goto 18 dX8_coinsFor_63 (by decide) ?_
        exact Ev.loc [0, 1, 2] rfl h
      · have h := h.2 q
        refine r_iload_n (x := x3) dX8_coinsFor_52 rfl ?_
        refine r_aload (v := .ref (eA E 1 t25)) dX8_coinsFor_53 rfl (rl_ref _) ?_
        refine r_get (v := .int (V26 202 t25 0)) dX8_coinsFor_55 fl_RX8_252 hl_t25 rfl ?_
        refine r_iadd dX8_coinsFor_58 ?_
        refine r_istore_n dX8_coinsFor_59 (by decide) ?_
        refine r_iinc (x := x4) (v := (1 : Int32)) dX8_coinsFor_60 rfl (by decide) (by decide) ?_
        refine r_goto 18 dX8_coinsFor_63 (by decide) ?_
        exact Ev.loc [0, 1, 2] rfl h
abbrev rm_X8_fallByCourse : Room := { frames := 4, cells := 0, slots := 0, locals := 93 }
def C_X8_fallByCourse (l : Launch) (G : Gt) (E : Et) (V : Vt) (o1 : Nat) (K : Int32 → Vt → Prop) : Prop := Cl l G yX8_fallByCourse cX8_fallByCourse 3 (some .int) rm_X8_fallByCourse E V [.ref (eA E 8 0), .ref (eA E 2 o1)] (Qi E K)
def vc_X8_fallByCourse (l : Launch) (G : Gt) (E : Et) (V : Vt) (o1 : Nat) (K : Int32 → Vt → Prop) : Prop := (C_X5_leastFalling l G E (up3 V 310 o1 0 ((V 310 o1 0) + (1 : Int32))) (fun x22 V21 => K x22 (up3 V21 310 o1 0 ((V21 310 o1 0) - (1 : Int32)))))
theorem ok_X8_fallByCourse {l : Launch} {G : Gt} {E : Et} {V : Vt} {o1 : Nat} {K : Int32 → Vt → Prop} (hE : Sg E) (hl_o1 : eL E 2 o1) (h : vc_X8_fallByCourse l G E V o1 K) : C_X8_fallByCourse l G E V o1 K := by
  unfold vc_X8_fallByCourse at h
  refine Cl.of (by decide +kernel) (Nat.le_of_ble_eq_true rfl) (show Ev l G RX8 cX8_fallByCourse 3 (some .int) rm_X8_fallByCourse E 0 0 V 0 [(0, .ref (eA E 8 0)), (1, .ref (eA E 2 o1))] [] (Qi E K) from ?_)
  refine r_aload_n (v := .ref (eA E 2 o1)) dX8_fallByCourse_0 rfl (rl_ref _) ?_
  refine r_dup dX8_fallByCourse_1 rfl ?_
  refine r_get (v := .int (V 310 o1 0)) dX8_fallByCourse_2 fl_RX8_146 hl_o1 rfl ?_
  refine r_iconst (v := (1 : Int32)) dX8_fallByCourse_5 (by decide) ?_
  refine r_iadd dX8_fallByCourse_6 ?_
  refine r_put dX8_fallByCourse_7 fp_RX8_146 rfl hl_o1 rfl rfl ?_
  refine r_aload_n (v := .ref (eA E 8 0)) dX8_fallByCourse_10 rfl (rl_ref _) ?_
  refine r_get (v := .ref (eA E 5 0)) dX8_fallByCourse_11 fl_RX8_19 (hE.1 8 (by decide)) rfl ?_
  refine r_aload_n (v := .ref (eA E 8 0)) dX8_fallByCourse_14 rfl (rl_ref _) ?_
  refine r_get (v := .ref (eA E 3 0)) dX8_fallByCourse_15 fl_RX8_10 (hE.1 8 (by decide)) rfl ?_
  refine r_cVi (As := [.ref (eA E 3 0)]) (rest := []) dX8_fallByCourse_18 mv_X5_leastFalling ml_RX8_296 ⟨_, _, rfl⟩ (hE.1 5 (by decide)) ⟨Nat.le_of_ble_eq_true rfl, Nat.le_of_ble_eq_true rfl⟩ ⟨rfl, rfl⟩ rfl rfl (Nat.le_of_ble_eq_true rfl) h (fun x22 V21 h => ?_)
  refine r_istore_n dX8_fallByCourse_21 (by decide) ?_
  refine r_aload_n (v := .ref (eA E 2 o1)) dX8_fallByCourse_22 rfl (rl_ref _) ?_
  refine r_dup dX8_fallByCourse_23 rfl ?_
  refine r_get (v := .int (V21 310 o1 0)) dX8_fallByCourse_24 fl_RX8_146 hl_o1 rfl ?_
  refine r_iconst (v := (1 : Int32)) dX8_fallByCourse_27 (by decide) ?_
  refine r_isub dX8_fallByCourse_28 ?_
  refine r_put dX8_fallByCourse_29 fp_RX8_146 rfl hl_o1 rfl rfl ?_
  refine r_iload_n (x := x22) dX8_fallByCourse_32 rfl ?_
  exact r_iret dX8_fallByCourse_33 rfl ⟨Nat.le_of_ble_eq_true rfl, Nat.le_of_ble_eq_true rfl⟩ ⟨rfl, _, rfl, h⟩
abbrev rm_X8_hindranceOfCourse : Room := { frames := 11, cells := 0, slots := 0, locals := 251 }
def C_X8_hindranceOfCourse (l : Launch) (G : Gt) (E : Et) (V : Vt) (x1 : Int32) (o2 : Nat) (K : Int32 → Vt → Prop) : Prop := Cl l G yX8_hindranceOfCourse cX8_hindranceOfCourse 3 (some .int) rm_X8_hindranceOfCourse E V [.ref (eA E 8 0), .int x1, .ref (eA E 2 o2)] (Qi E K)
def vc_X8_hindranceOfCourse (l : Launch) (G : Gt) (E : Et) (V : Vt) (x1 : Int32) (o2 : Nat) (K : Int32 → Vt → Prop) : Prop := (C_X2_isWhole l G E V o2 (fun x22 V21 => ((x22 = (0 : Int32) → (C_X3_isReadyBelow l G E V21 o2 (fun x24 V23 => ((¬ x24 = (0 : Int32) → (C_X8_work l G E V23 (fun x26 V25 => (((V23 911 0 0) < x26 → (C_X8_coinsFor l G E V25 x1 o2 (fun x28 V27 => (((V27 303 o2 0) ≤ x28 → (C_X8_fallByCourse l G E V27 o2 (fun x30 V29 => ((¬ x30 = (-5 : Int32) → K (5 : Int32) V29) ∧ (x30 = (-5 : Int32) → K (0 : Int32) V29))))) ∧ (¬ (V27 303 o2 0) ≤ x28 → K (4 : Int32) V27))))) ∧ (¬ (V23 911 0 0) < x26 → K (3 : Int32) V25))))) ∧ (x24 = (0 : Int32) → K (2 : Int32) V23))))) ∧ (¬ x22 = (0 : Int32) → K (1 : Int32) V21))))
theorem ok_X8_hindranceOfCourse {l : Launch} {G : Gt} {E : Et} {V : Vt} {x1 : Int32} {o2 : Nat} {K : Int32 → Vt → Prop} (hE : Sg E) (hl_o2 : eL E 2 o2) (h : vc_X8_hindranceOfCourse l G E V x1 o2 K) : C_X8_hindranceOfCourse l G E V x1 o2 K := by
  unfold vc_X8_hindranceOfCourse at h
  refine Cl.of (by decide +kernel) (Nat.le_of_ble_eq_true rfl) (show Ev l G RX8 cX8_hindranceOfCourse 3 (some .int) rm_X8_hindranceOfCourse E 0 0 V 0 [(0, .ref (eA E 8 0)), (1, .int x1), (2, .ref (eA E 2 o2))] [] (Qi E K) from ?_)
  refine r_aload_n (v := .ref (eA E 2 o2)) dX8_hindranceOfCourse_0 rfl (rl_ref _) ?_
  refine r_cVi (As := []) (rest := []) dX8_hindranceOfCourse_1 mv_X2_isWhole ml_RX8_155 ⟨_, _, rfl⟩ hl_o2 ⟨Nat.le_of_ble_eq_true rfl, Nat.le_of_ble_eq_true rfl⟩ ⟨rfl, rfl⟩ rfl rfl (Nat.le_of_ble_eq_true rfl) h (fun x22 V21 h => ?_)
  refine r_if_eq 9 dX8_hindranceOfCourse_4 (by decide) (fun q => ?_) (fun q => ?_)
  · have h := h.1 q
    refine r_aload_n (v := .ref (eA E 8 0)) dX8_hindranceOfCourse_9 rfl (rl_ref _) ?_
    refine r_get (v := .ref (eA E 3 0)) dX8_hindranceOfCourse_10 fl_RX8_10 (hE.1 8 (by decide)) rfl ?_
    refine r_aload_n (v := .ref (eA E 2 o2)) dX8_hindranceOfCourse_13 rfl (rl_ref _) ?_
    refine r_cVi (As := [.ref (eA E 2 o2)]) (rest := []) dX8_hindranceOfCourse_14 mv_X3_isReadyBelow ml_RX8_310 ⟨_, _, rfl⟩ (hE.1 3 (by decide)) ⟨Nat.le_of_ble_eq_true rfl, Nat.le_of_ble_eq_true rfl⟩ ⟨rfl, rfl⟩ rfl rfl (Nat.le_of_ble_eq_true rfl) h (fun x24 V23 h => ?_)
    refine r_if_ne 22 dX8_hindranceOfCourse_17 (by decide) (fun q => ?_) (fun q => ?_)
    · have h := h.1 q
      refine r_aload_n (v := .ref (eA E 8 0)) dX8_hindranceOfCourse_22 rfl (rl_ref _) ?_
      refine r_get (v := .int (V23 911 0 0)) dX8_hindranceOfCourse_23 fl_RX8_143 (hE.1 8 (by decide)) rfl ?_
      refine r_aload_n (v := .ref (eA E 8 0)) dX8_hindranceOfCourse_26 rfl (rl_ref _) ?_
      refine r_cVi (As := []) (rest := [.int (V23 911 0 0)]) dX8_hindranceOfCourse_27 mv_X8_work ml_RX8_314 ⟨_, _, rfl⟩ (hE.1 8 (by decide)) ⟨Nat.le_of_ble_eq_true rfl, Nat.le_of_ble_eq_true rfl⟩ ⟨rfl, rfl⟩ rfl rfl (Nat.le_of_ble_eq_true rfl) h (fun x26 V25 h => ?_)
      refine r_icmp_lt 35 dX8_hindranceOfCourse_30 (by decide) (fun q => ?_) (fun q => ?_)
      · have h := h.1 q
        refine r_aload_n (v := .ref (eA E 8 0)) dX8_hindranceOfCourse_35 rfl (rl_ref _) ?_
        refine r_iload_n (x := x1) dX8_hindranceOfCourse_36 rfl ?_
        refine r_aload_n (v := .ref (eA E 2 o2)) dX8_hindranceOfCourse_37 rfl (rl_ref _) ?_
        refine r_cVi (As := [.int x1, .ref (eA E 2 o2)]) (rest := []) dX8_hindranceOfCourse_38 mv_X8_coinsFor ml_RX8_317 ⟨_, _, rfl⟩ (hE.1 8 (by decide)) ⟨Nat.le_of_ble_eq_true rfl, Nat.le_of_ble_eq_true rfl⟩ ⟨rfl, rfl⟩ rfl rfl (Nat.le_of_ble_eq_true rfl) h (fun x28 V27 h => ?_)
        refine r_aload_n (v := .ref (eA E 2 o2)) dX8_hindranceOfCourse_41 rfl (rl_ref _) ?_
        refine r_get (v := .int (V27 303 o2 0)) dX8_hindranceOfCourse_42 fl_RX8_243 hl_o2 rfl ?_
        refine r_icmp_ge 50 dX8_hindranceOfCourse_45 (by decide) (fun q => ?_) (fun q => ?_)
        · have h := h.1 q
          refine r_aload_n (v := .ref (eA E 8 0)) dX8_hindranceOfCourse_50 rfl (rl_ref _) ?_
          refine r_aload_n (v := .ref (eA E 2 o2)) dX8_hindranceOfCourse_51 rfl (rl_ref _) ?_
          refine r_cVi (As := [.ref (eA E 2 o2)]) (rest := []) dX8_hindranceOfCourse_52 mv_X8_fallByCourse ml_RX8_149 ⟨_, _, rfl⟩ (hE.1 8 (by decide)) ⟨Nat.le_of_ble_eq_true rfl, Nat.le_of_ble_eq_true rfl⟩ ⟨rfl, rfl⟩ rfl rfl (Nat.le_of_ble_eq_true rfl) h (fun x30 V29 h => ?_)
          refine r_bipush (v := (-5 : Int32)) dX8_hindranceOfCourse_55 (by decide) ?_
          refine r_icmp_ne 64 dX8_hindranceOfCourse_57 (by decide) (fun q => ?_) (fun q => ?_)
          · have h := h.1 q
            refine r_iconst (v := (5 : Int32)) dX8_hindranceOfCourse_64 (by decide) ?_
            exact r_iret dX8_hindranceOfCourse_65 rfl ⟨Nat.le_of_ble_eq_true rfl, Nat.le_of_ble_eq_true rfl⟩ ⟨rfl, _, rfl, h⟩
          · have h := h.2 q
            refine r_iconst (v := (0 : Int32)) dX8_hindranceOfCourse_60 (by decide) ?_
            refine r_goto 65 dX8_hindranceOfCourse_61 (by decide) ?_
            exact r_iret dX8_hindranceOfCourse_65 rfl ⟨Nat.le_of_ble_eq_true rfl, Nat.le_of_ble_eq_true rfl⟩ ⟨rfl, _, rfl, h⟩
        · have h := h.2 q
          refine r_iconst (v := (4 : Int32)) dX8_hindranceOfCourse_48 (by decide) ?_
          exact r_iret dX8_hindranceOfCourse_49 rfl ⟨Nat.le_of_ble_eq_true rfl, Nat.le_of_ble_eq_true rfl⟩ ⟨rfl, _, rfl, h⟩
      · have h := h.2 q
        refine r_iconst (v := (3 : Int32)) dX8_hindranceOfCourse_33 (by decide) ?_
        exact r_iret dX8_hindranceOfCourse_34 rfl ⟨Nat.le_of_ble_eq_true rfl, Nat.le_of_ble_eq_true rfl⟩ ⟨rfl, _, rfl, h⟩
    · have h := h.2 q
      refine r_iconst (v := (2 : Int32)) dX8_hindranceOfCourse_20 (by decide) ?_
      exact r_iret dX8_hindranceOfCourse_21 rfl ⟨Nat.le_of_ble_eq_true rfl, Nat.le_of_ble_eq_true rfl⟩ ⟨rfl, _, rfl, h⟩
  · have h := h.2 q
    refine r_iconst (v := (1 : Int32)) dX8_hindranceOfCourse_7 (by decide) ?_
    exact r_iret dX8_hindranceOfCourse_8 rfl ⟨Nat.le_of_ble_eq_true rfl, Nat.le_of_ble_eq_true rfl⟩ ⟨rfl, _, rfl, h⟩
abbrev rm_X8_payFor : Room := { frames := 10, cells := 0, slots := 0, locals := 226 }
def C_X8_payFor (l : Launch) (G : Gt) (E : Et) (V : Vt) (x1 : Int32) (o2 : Nat) (K : Vt → Prop) : Prop := Cl l G yX8_payFor cX8_payFor 7 none rm_X8_payFor E V [.ref (eA E 8 0), .int x1, .ref (eA E 2 o2)] (Qv E K)
def A_X8_payFor_21 (l : Launch) (G : Gt) (E : Et) (V : Vt) (o2 : Nat) (x3 : Int32) (x4 : Int32) (K : Vt → Prop) : Prop := Ev l G RX8 cX8_payFor 7 none rm_X8_payFor E 0 0 V 21 [(0, .ref (eA E 8 0)), (2, .ref (eA E 2 o2)), (3, .int x3), (4, .int x4)] [] (Qv E K)
def vc_X8_payFor (l : Launch) (G : Gt) (E : Et) (V : Vt) (x1 : Int32) (o2 : Nat) (K : Vt → Prop) : Prop := (C_X8_nameMonth l G E V (fun V21 => (C_X4_namePart l G E V21 x1 o2 (fun V22 => A_X8_payFor_21 l G E V22 o2 (V22 303 o2 0) (0 : Int32) K))))
def vc_X8_payFor_21 (l : Launch) (G : Gt) (E : Et) (V : Vt) (o2 : Nat) (x3 : Int32) (x4 : Int32) (K : Vt → Prop) : Prop := (((V 909 0 0) ≤ x4 → K (up3 V 912 0 0 ((V 912 0 0) + (V 303 o2 0)))) ∧ (¬ (V 909 0 0) ≤ x4 → ((x3 ≤ (0 : Int32) → K (up3 V 912 0 0 ((V 912 0 0) + (V 303 o2 0)))) ∧ (¬ x3 ≤ (0 : Int32) → (C_X8_findGift l G E V x4 (fun o24 V23 => ((o24 = none → A_X8_payFor_21 l G E V23 o2 x3 (x4 + (1 : Int32)) K) ∧ (∀ t25, o24 = some t25 → eL E 1 t25 ∧ (C_X4_endOf l G E V23 t25 (fun x27 V26 => ((x27 = (0 : Int32) → A_X8_payFor_21 l G E V26 o2 x3 (x4 + (1 : Int32)) K) ∧ (¬ x27 = (0 : Int32) → A_X8_payFor_21 l G E (up3 V26 202 t25 0 ((V26 202 t25 0) - (if (V26 202 t25 0) < x3 then (V26 202 t25 0) else x3))) o2 (x3 - (if (V26 202 t25 0) < x3 then (V26 202 t25 0) else x3)) (x4 + (1 : Int32)) K))))))))))))
theorem ok_X8_payFor {l : Launch} {G : Gt} {E : Et} {V : Vt} {x1 : Int32} {o2 : Nat} {K : Vt → Prop} (hE : Sg E) (hl_o2 : eL E 2 o2) (h : vc_X8_payFor l G E V x1 o2 K) : C_X8_payFor l G E V x1 o2 K := by
  unfold vc_X8_payFor at h
  refine Cl.of (by decide +kernel) (Nat.le_of_ble_eq_true rfl) (show Ev l G RX8 cX8_payFor 7 none rm_X8_payFor E 0 0 V 0 [(0, .ref (eA E 8 0)), (1, .int x1), (2, .ref (eA E 2 o2))] [] (Qv E K) from ?_)
  refine r_aload_n (v := .ref (eA E 8 0)) dX8_payFor_0 rfl (rl_ref _) ?_
  refine r_cVv (As := []) (rest := []) dX8_payFor_1 mv_X8_nameMonth ml_RX8_216 ⟨_, _, rfl⟩ (hE.1 8 (by decide)) ⟨Nat.le_of_ble_eq_true rfl, Nat.le_of_ble_eq_true rfl⟩ ⟨rfl, rfl⟩ rfl rfl (Nat.le_of_ble_eq_true rfl) h (fun V21 h => ?_)
  refine r_aload_n (v := .ref (eA E 8 0)) dX8_payFor_4 rfl (rl_ref _) ?_
  refine r_get (v := .ref (eA E 4 0)) dX8_payFor_5 fl_RX8_40 (hE.1 8 (by decide)) rfl ?_
  refine r_iload_n (x := x1) dX8_payFor_8 rfl ?_
  refine r_aload_n (v := .ref (eA E 2 o2)) dX8_payFor_9 rfl (rl_ref _) ?_
  refine r_cVv (As := [.int x1, .ref (eA E 2 o2)]) (rest := []) dX8_payFor_10 mv_X4_namePart ml_RX8_219 ⟨_, _, rfl⟩ (hE.1 4 (by decide)) ⟨Nat.le_of_ble_eq_true rfl, Nat.le_of_ble_eq_true rfl⟩ ⟨rfl, rfl⟩ rfl rfl (Nat.le_of_ble_eq_true rfl) h (fun V22 h => ?_)
  refine r_aload_n (v := .ref (eA E 2 o2)) dX8_payFor_13 rfl (rl_ref _) ?_
  refine r_get (v := .int (V22 303 o2 0)) dX8_payFor_14 fl_RX8_243 hl_o2 rfl ?_
  refine r_istore_n dX8_payFor_17 (by decide) ?_
  refine r_iconst (v := (0 : Int32)) dX8_payFor_18 (by decide) ?_
  refine r_istore dX8_payFor_19 (by decide) ?_
  exact Ev.loc [0, 2, 3, 4] rfl h
theorem ok_X8_payFor_21 {l : Launch} {G : Gt} {E : Et} {V : Vt} {o2 : Nat} {x3 : Int32} {x4 : Int32} {K : Vt → Prop} (hE : Sg E) (hl_o2 : eL E 2 o2) (h : vc_X8_payFor_21 l G E V o2 x3 x4 K) : A_X8_payFor_21 l G E V o2 x3 x4 K := by
  unfold vc_X8_payFor_21 at h
  unfold A_X8_payFor_21
  refine r_iload (x := x4) dX8_payFor_21 rfl ?_
  refine r_aload_n (v := .ref (eA E 8 0)) dX8_payFor_23 rfl (rl_ref _) ?_
  refine r_get (v := .int (V 909 0 0)) dX8_payFor_24 fl_RX8_194 (hE.1 8 (by decide)) rfl ?_
  refine r_icmp_ge 93 dX8_payFor_27 (by decide) (fun q => ?_) (fun q => ?_)
  · have h := h.1 q
    refine r_aload_n (v := .ref (eA E 8 0)) dX8_payFor_93 rfl (rl_ref _) ?_
    refine r_dup dX8_payFor_94 rfl ?_
    refine r_get (v := .int (V 912 0 0)) dX8_payFor_95 fl_RX8_293 (hE.1 8 (by decide)) rfl ?_
    refine r_aload_n (v := .ref (eA E 2 o2)) dX8_payFor_98 rfl (rl_ref _) ?_
    refine r_get (v := .int (V 303 o2 0)) dX8_payFor_99 fl_RX8_243 hl_o2 rfl ?_
    refine r_iadd dX8_payFor_102 ?_
    refine r_put dX8_payFor_103 fp_RX8_293 rfl (hE.1 8 (by decide)) rfl rfl ?_
    exact r_vret dX8_payFor_106 rfl ⟨Nat.le_of_ble_eq_true rfl, Nat.le_of_ble_eq_true rfl⟩ ⟨rfl, rfl, h⟩
  · have h := h.2 q
    refine r_iload_n (x := x3) dX8_payFor_30 rfl ?_
    refine r_if_le 93 dX8_payFor_31 (by decide) (fun q => ?_) (fun q => ?_)
    · have h := h.1 q
      refine r_aload_n (v := .ref (eA E 8 0)) dX8_payFor_93 rfl (rl_ref _) ?_
      refine r_dup dX8_payFor_94 rfl ?_
      refine r_get (v := .int (V 912 0 0)) dX8_payFor_95 fl_RX8_293 (hE.1 8 (by decide)) rfl ?_
      refine r_aload_n (v := .ref (eA E 2 o2)) dX8_payFor_98 rfl (rl_ref _) ?_
      refine r_get (v := .int (V 303 o2 0)) dX8_payFor_99 fl_RX8_243 hl_o2 rfl ?_
      refine r_iadd dX8_payFor_102 ?_
      refine r_put dX8_payFor_103 fp_RX8_293 rfl (hE.1 8 (by decide)) rfl rfl ?_
      exact r_vret dX8_payFor_106 rfl ⟨Nat.le_of_ble_eq_true rfl, Nat.le_of_ble_eq_true rfl⟩ ⟨rfl, rfl, h⟩
    · have h := h.2 q
      refine r_aload_n (v := .ref (eA E 8 0)) dX8_payFor_34 rfl (rl_ref _) ?_
      refine r_iload (x := x4) dX8_payFor_35 rfl ?_
      refine r_cVr (As := [.int x4]) (rest := []) dX8_payFor_37 mv_X8_findGift ml_RX8_211 ⟨_, _, rfl⟩ (hE.1 8 (by decide)) ⟨Nat.le_of_ble_eq_true rfl, Nat.le_of_ble_eq_true rfl⟩ ⟨rfl, rfl⟩ rfl rfl (Nat.le_of_ble_eq_true rfl) h (fun o24 V23 h => ?_)
      refine r_astore dX8_payFor_40 (by decide) (rl_rf _) ?_
      refine r_aload (v := va_rf (Option.map (eA E 1) o24)) dX8_payFor_42 rfl (rl_rf _) ?_
      cases hot25 : o24 with
      | none =>
        have h := h.1 hot25
        refine r_ifnull (o := none) 87 dX8_payFor_44 (by decide) (fun _ => ?_) (fun a q => by cases q)
        refine r_iinc (x := x4) (v := (1 : Int32)) dX8_payFor_87 rfl (by decide) (by decide) ?_
        refine r_goto 21 dX8_payFor_90 (by decide) ?_
        exact Ev.loc [0, 1, 2, 3] rfl h
      | some t25 =>
        obtain ⟨hl_t25, h⟩ := h.2 t25 hot25
        refine r_ifnull (o := some (eA E 1 t25)) 87 dX8_payFor_44 (by decide) (fun q => by cases q) (fun _ _ => ?_)
        refine r_aload_n (v := .ref (eA E 8 0)) dX8_payFor_47 rfl (rl_ref _) ?_
        refine r_get (v := .ref (eA E 4 0)) dX8_payFor_48 fl_RX8_40 (hE.1 8 (by decide)) rfl ?_
        refine r_aload (v := .ref (eA E 1 t25)) dX8_payFor_51 rfl (rl_ref _) ?_
        refine r_cVi (As := [.ref (eA E 1 t25)]) (rest := []) dX8_payFor_53 mv_X4_endOf ml_RX8_222 ⟨_, _, rfl⟩ (hE.1 4 (by decide)) ⟨Nat.le_of_ble_eq_true rfl, Nat.le_of_ble_eq_true rfl⟩ ⟨rfl, rfl⟩ rfl rfl (Nat.le_of_ble_eq_true rfl) h (fun x27 V26 h => ?_)
        refine r_if_eq 87 dX8_payFor_56 (by decide) (fun q => ?_) (fun q => ?_)
        · have h := h.1 q
          refine r_iinc (x := x4) (v := (1 : Int32)) dX8_payFor_87 rfl (by decide) (by decide) ?_
          refine r_goto 21 dX8_payFor_90 (by decide) ?_
          exact Ev.loc [0, 1, 2, 3] rfl h
        · have h := h.2 q
          refine r_iload_n (x := x3) dX8_payFor_59 rfl ?_
          refine r_aload (v := .ref (eA E 1 t25)) dX8_payFor_60 rfl (rl_ref _) ?_
          refine r_get (v := .int (V26 202 t25 0)) dX8_payFor_62 fl_RX8_252 hl_t25 rfl ?_
          refine r_mmin dX8_payFor_65 ml_RX8_320 (Nat.le_of_ble_eq_true rfl) (Nat.le_of_ble_eq_true rfl) ?_
          refine r_istore dX8_payFor_68 (by decide) ?_
          refine r_aload (v := .ref (eA E 1 t25)) dX8_payFor_70 rfl (rl_ref _) ?_
          refine r_dup dX8_payFor_72 rfl ?_
          refine r_get (v := .int (V26 202 t25 0)) dX8_payFor_73 fl_RX8_252 hl_t25 rfl ?_
          refine r_iload (x := (if (V26 202 t25 0) < x3 then (V26 202 t25 0) else x3)) dX8_payFor_76 rfl ?_
          refine r_isub dX8_payFor_78 ?_
          refine r_put dX8_payFor_79 fp_RX8_252 rfl hl_t25 rfl rfl ?_
          refine r_iload_n (x := x3) dX8_payFor_82 rfl ?_
          refine r_iload (x := (if (V26 202 t25 0) < x3 then (V26 202 t25 0) else x3)) dX8_payFor_83 rfl ?_
          refine r_isub dX8_payFor_85 ?_
          refine r_istore_n dX8_payFor_86 (by decide) ?_
          refine r_iinc (x := x4) (v := (1 : Int32)) dX8_payFor_87 rfl (by decide) (by decide) ?_
          refine r_goto 21 dX8_payFor_90 (by decide) ?_
          exact Ev.loc [0, 1, 2, 3] rfl h
abbrev rm_X8_lay : Room := { frames := 12, cells := 0, slots := 0, locals := 273 }
def C_X8_lay (l : Launch) (G : Gt) (E : Et) (V : Vt) (x1 : Int32) (K : Int32 → Vt → Prop) : Prop := Cl l G yX8_lay cX8_lay 4 (some .int) rm_X8_lay E V [.ref (eA E 8 0), .int x1] (Qi E K)
def vc_X8_lay (l : Launch) (G : Gt) (E : Et) (V : Vt) (x1 : Int32) (K : Int32 → Vt → Prop) : Prop := (C_X3_find l G E V x1 (fun o22 V21 => ((o22 = none → K (-1 : Int32) V21) ∧ (∀ t23, o22 = some t23 → eL E 2 t23 ∧ (C_X8_hindranceOfCourse l G E V21 x1 t23 (fun x25 V24 => ((x25 = (0 : Int32) → (C_X8_payFor l G E V24 x1 t23 (fun V26 => (C_X2_takeCourse l G E V26 t23 (V26 101 0 0) (fun V27 => K ((up3 V27 911 0 0 ((V27 911 0 0) + (1 : Int32))) 310 t23 0) (up3 V27 911 0 0 ((V27 911 0 0) + (1 : Int32)))))))) ∧ (¬ x25 = (0 : Int32) → K ((-10 : Int32) - x25) V24))))))))
theorem ok_X8_lay {l : Launch} {G : Gt} {E : Et} {V : Vt} {x1 : Int32} {K : Int32 → Vt → Prop} (hE : Sg E)  (h : vc_X8_lay l G E V x1 K) : C_X8_lay l G E V x1 K := by
  unfold vc_X8_lay at h
  refine Cl.of (by decide +kernel) (Nat.le_of_ble_eq_true rfl) (show Ev l G RX8 cX8_lay 4 (some .int) rm_X8_lay E 0 0 V 0 [(0, .ref (eA E 8 0)), (1, .int x1)] [] (Qi E K) from ?_)
  refine r_aload_n (v := .ref (eA E 8 0)) dX8_lay_0 rfl (rl_ref _) ?_
  refine r_get (v := .ref (eA E 3 0)) dX8_lay_1 fl_RX8_10 (hE.1 8 (by decide)) rfl ?_
  refine r_iload_n (x := x1) dX8_lay_4 rfl ?_
  refine r_cVr (As := [.int x1]) (rest := []) dX8_lay_5 mv_X3_find ml_RX8_80 ⟨_, _, rfl⟩ (hE.1 3 (by decide)) ⟨Nat.le_of_ble_eq_true rfl, Nat.le_of_ble_eq_true rfl⟩ ⟨rfl, rfl⟩ rfl rfl (Nat.le_of_ble_eq_true rfl) h (fun o22 V21 h => ?_)
  refine r_astore_n dX8_lay_8 (by decide) (rl_rf _) ?_
  refine r_aload_n (v := va_rf (Option.map (eA E 2) o22)) dX8_lay_9 rfl (rl_rf _) ?_
  cases hot23 : o22 with
  | none =>
    have h := h.1 hot23
    refine r_ifnonnull (o := none) 15 dX8_lay_10 (by decide) (fun a q => by cases q) (fun _ => ?_)
    refine r_iconst (v := (-1 : Int32)) dX8_lay_13 (by decide) ?_
    exact r_iret dX8_lay_14 rfl ⟨Nat.le_of_ble_eq_true rfl, Nat.le_of_ble_eq_true rfl⟩ ⟨rfl, _, rfl, h⟩
  | some t23 =>
    obtain ⟨hl_t23, h⟩ := h.2 t23 hot23
    refine r_ifnonnull (o := some (eA E 2 t23)) 15 dX8_lay_10 (by decide) (fun _ _ => ?_) (fun q => by cases q)
    refine r_aload_n (v := .ref (eA E 8 0)) dX8_lay_15 rfl (rl_ref _) ?_
    refine r_iload_n (x := x1) dX8_lay_16 rfl ?_
    refine r_aload_n (v := .ref (eA E 2 t23)) dX8_lay_17 rfl (rl_ref _) ?_
    refine r_cVi (As := [.int x1, .ref (eA E 2 t23)]) (rest := []) dX8_lay_18 mv_X8_hindranceOfCourse ml_RX8_128 ⟨_, _, rfl⟩ (hE.1 8 (by decide)) ⟨Nat.le_of_ble_eq_true rfl, Nat.le_of_ble_eq_true rfl⟩ ⟨rfl, rfl⟩ rfl rfl (Nat.le_of_ble_eq_true rfl) h (fun x25 V24 h => ?_)
    refine r_istore_n dX8_lay_21 (by decide) ?_
    refine r_iload_n (x := x25) dX8_lay_22 rfl ?_
    refine r_if_eq 31 dX8_lay_23 (by decide) (fun q => ?_) (fun q => ?_)
    · have h := h.1 q
      refine r_aload_n (v := .ref (eA E 8 0)) dX8_lay_31 rfl (rl_ref _) ?_
      refine r_iload_n (x := x1) dX8_lay_32 rfl ?_
      refine r_aload_n (v := .ref (eA E 2 t23)) dX8_lay_33 rfl (rl_ref _) ?_
      refine r_cVv (As := [.int x1, .ref (eA E 2 t23)]) (rest := []) dX8_lay_34 mv_X8_payFor ml_RX8_132 ⟨_, _, rfl⟩ (hE.1 8 (by decide)) ⟨Nat.le_of_ble_eq_true rfl, Nat.le_of_ble_eq_true rfl⟩ ⟨rfl, rfl⟩ rfl rfl (Nat.le_of_ble_eq_true rfl) h (fun V26 h => ?_)
      refine r_aload_n (v := .ref (eA E 2 t23)) dX8_lay_37 rfl (rl_ref _) ?_
      refine r_aload_n (v := .ref (eA E 8 0)) dX8_lay_38 rfl (rl_ref _) ?_
      refine r_get (v := .ref (eA E 0 0)) dX8_lay_39 fl_RX8_26 (hE.1 8 (by decide)) rfl ?_
      refine r_get (v := .int (V26 101 0 0)) dX8_lay_42 fl_RX8_136 (hE.1 0 (by decide)) rfl ?_
      refine r_cVv (As := [.int (V26 101 0 0)]) (rest := []) dX8_lay_45 mv_X2_takeCourse ml_RX8_139 ⟨_, _, rfl⟩ hl_t23 ⟨Nat.le_of_ble_eq_true rfl, Nat.le_of_ble_eq_true rfl⟩ ⟨rfl, rfl⟩ rfl rfl (Nat.le_of_ble_eq_true rfl) h (fun V27 h => ?_)
      refine r_aload_n (v := .ref (eA E 8 0)) dX8_lay_48 rfl (rl_ref _) ?_
      refine r_dup dX8_lay_49 rfl ?_
      refine r_get (v := .int (V27 911 0 0)) dX8_lay_50 fl_RX8_143 (hE.1 8 (by decide)) rfl ?_
      refine r_iconst (v := (1 : Int32)) dX8_lay_53 (by decide) ?_
      refine r_iadd dX8_lay_54 ?_
      refine r_put dX8_lay_55 fp_RX8_143 rfl (hE.1 8 (by decide)) rfl rfl ?_
      refine r_aload_n (v := .ref (eA E 2 t23)) dX8_lay_58 rfl (rl_ref _) ?_
      refine r_get (v := .int ((up3 V27 911 0 0 ((V27 911 0 0) + (1 : Int32))) 310 t23 0)) dX8_lay_59 fl_RX8_146 hl_t23 rfl ?_
      exact r_iret dX8_lay_62 rfl ⟨Nat.le_of_ble_eq_true rfl, Nat.le_of_ble_eq_true rfl⟩ ⟨rfl, _, rfl, h⟩
    · have h := h.2 q
      refine r_bipush (v := (-10 : Int32)) dX8_lay_26 (by decide) ?_
      refine r_iload_n (x := x25) dX8_lay_28 rfl ?_
      refine r_isub dX8_lay_29 ?_
      exact r_iret dX8_lay_30 rfl ⟨Nat.le_of_ble_eq_true rfl, Nat.le_of_ble_eq_true rfl⟩ ⟨rfl, _, rfl, h⟩
abbrev rm_X8_may : Room := { frames := 12, cells := 0, slots := 0, locals := 273 }
def C_X8_may (l : Launch) (G : Gt) (E : Et) (V : Vt) (x1 : Int32) (K : Int32 → Vt → Prop) : Prop := Cl l G yX8_may cX8_may 3 (some .int) rm_X8_may E V [.ref (eA E 8 0), .int x1] (Qi E K)
def vc_X8_may (l : Launch) (G : Gt) (E : Et) (V : Vt) (x1 : Int32) (K : Int32 → Vt → Prop) : Prop := (C_X3_find l G E V x1 (fun o22 V21 => ((o22 = none → K (-1 : Int32) V21) ∧ (∀ t23, o22 = some t23 → eL E 2 t23 ∧ (C_X8_hindranceOfCourse l G E V21 x1 t23 (fun x25 V24 => K x25 V24))))))
theorem ok_X8_may {l : Launch} {G : Gt} {E : Et} {V : Vt} {x1 : Int32} {K : Int32 → Vt → Prop} (hE : Sg E)  (h : vc_X8_may l G E V x1 K) : C_X8_may l G E V x1 K := by
  unfold vc_X8_may at h
  refine Cl.of (by decide +kernel) (Nat.le_of_ble_eq_true rfl) (show Ev l G RX8 cX8_may 3 (some .int) rm_X8_may E 0 0 V 0 [(0, .ref (eA E 8 0)), (1, .int x1)] [] (Qi E K) from ?_)
  refine r_aload_n (v := .ref (eA E 8 0)) dX8_may_0 rfl (rl_ref _) ?_
  refine r_get (v := .ref (eA E 3 0)) dX8_may_1 fl_RX8_10 (hE.1 8 (by decide)) rfl ?_
  refine r_iload_n (x := x1) dX8_may_4 rfl ?_
  refine r_cVr (As := [.int x1]) (rest := []) dX8_may_5 mv_X3_find ml_RX8_80 ⟨_, _, rfl⟩ (hE.1 3 (by decide)) ⟨Nat.le_of_ble_eq_true rfl, Nat.le_of_ble_eq_true rfl⟩ ⟨rfl, rfl⟩ rfl rfl (Nat.le_of_ble_eq_true rfl) h (fun o22 V21 h => ?_)
  refine r_astore_n dX8_may_8 (by decide) (rl_rf _) ?_
  refine r_aload_n (v := va_rf (Option.map (eA E 2) o22)) dX8_may_9 rfl (rl_rf _) ?_
  cases hot23 : o22 with
  | none =>
    have h := h.1 hot23
    refine r_ifnonnull (o := none) 17 dX8_may_10 (by decide) (fun a q => by cases q) (fun _ => ?_)
    refine r_iconst (v := (-1 : Int32)) dX8_may_13 (by decide) ?_
    refine r_goto 23 dX8_may_14 (by decide) ?_
    exact r_iret dX8_may_23 rfl ⟨Nat.le_of_ble_eq_true rfl, Nat.le_of_ble_eq_true rfl⟩ ⟨rfl, _, rfl, h⟩
  | some t23 =>
    obtain ⟨hl_t23, h⟩ := h.2 t23 hot23
    refine r_ifnonnull (o := some (eA E 2 t23)) 17 dX8_may_10 (by decide) (fun _ _ => ?_) (fun q => by cases q)
    refine r_aload_n (v := .ref (eA E 8 0)) dX8_may_17 rfl (rl_ref _) ?_
    refine r_iload_n (x := x1) dX8_may_18 rfl ?_
    refine r_aload_n (v := .ref (eA E 2 t23)) dX8_may_19 rfl (rl_ref _) ?_
    refine r_cVi (As := [.int x1, .ref (eA E 2 t23)]) (rest := []) dX8_may_20 mv_X8_hindranceOfCourse ml_RX8_128 ⟨_, _, rfl⟩ (hE.1 8 (by decide)) ⟨Nat.le_of_ble_eq_true rfl, Nat.le_of_ble_eq_true rfl⟩ ⟨rfl, rfl⟩ rfl rfl (Nat.le_of_ble_eq_true rfl) h (fun x25 V24 h => ?_)
    exact r_iret dX8_may_23 rfl ⟨Nat.le_of_ble_eq_true rfl, Nat.le_of_ble_eq_true rfl⟩ ⟨rfl, _, rfl, h⟩
abbrev rm_X8_falls : Room := { frames := 5, cells := 0, slots := 0, locals := 115 }
def C_X8_falls (l : Launch) (G : Gt) (E : Et) (V : Vt) (x1 : Int32) (K : Int32 → Vt → Prop) : Prop := Cl l G yX8_falls cX8_falls 3 (some .int) rm_X8_falls E V [.ref (eA E 8 0), .int x1] (Qi E K)
def vc_X8_falls (l : Launch) (G : Gt) (E : Et) (V : Vt) (x1 : Int32) (K : Int32 → Vt → Prop) : Prop := (C_X3_find l G E V x1 (fun o22 V21 => ((o22 = none → K (-1 : Int32) V21) ∧ (∀ t23, o22 = some t23 → eL E 2 t23 ∧ (C_X8_fallByCourse l G E V21 t23 (fun x25 V24 => K x25 V24))))))
theorem ok_X8_falls {l : Launch} {G : Gt} {E : Et} {V : Vt} {x1 : Int32} {K : Int32 → Vt → Prop} (hE : Sg E)  (h : vc_X8_falls l G E V x1 K) : C_X8_falls l G E V x1 K := by
  unfold vc_X8_falls at h
  refine Cl.of (by decide +kernel) (Nat.le_of_ble_eq_true rfl) (show Ev l G RX8 cX8_falls 3 (some .int) rm_X8_falls E 0 0 V 0 [(0, .ref (eA E 8 0)), (1, .int x1)] [] (Qi E K) from ?_)
  refine r_aload_n (v := .ref (eA E 8 0)) dX8_falls_0 rfl (rl_ref _) ?_
  refine r_get (v := .ref (eA E 3 0)) dX8_falls_1 fl_RX8_10 (hE.1 8 (by decide)) rfl ?_
  refine r_iload_n (x := x1) dX8_falls_4 rfl ?_
  refine r_cVr (As := [.int x1]) (rest := []) dX8_falls_5 mv_X3_find ml_RX8_80 ⟨_, _, rfl⟩ (hE.1 3 (by decide)) ⟨Nat.le_of_ble_eq_true rfl, Nat.le_of_ble_eq_true rfl⟩ ⟨rfl, rfl⟩ rfl rfl (Nat.le_of_ble_eq_true rfl) h (fun o22 V21 h => ?_)
  refine r_astore_n dX8_falls_8 (by decide) (rl_rf _) ?_
  refine r_aload_n (v := va_rf (Option.map (eA E 2) o22)) dX8_falls_9 rfl (rl_rf _) ?_
  cases hot23 : o22 with
  | none =>
    have h := h.1 hot23
    refine r_ifnonnull (o := none) 17 dX8_falls_10 (by decide) (fun a q => by cases q) (fun _ => ?_)
    refine r_iconst (v := (-1 : Int32)) dX8_falls_13 (by decide) ?_
    refine r_goto 22 dX8_falls_14 (by decide) ?_
    exact r_iret dX8_falls_22 rfl ⟨Nat.le_of_ble_eq_true rfl, Nat.le_of_ble_eq_true rfl⟩ ⟨rfl, _, rfl, h⟩
  | some t23 =>
    obtain ⟨hl_t23, h⟩ := h.2 t23 hot23
    refine r_ifnonnull (o := some (eA E 2 t23)) 17 dX8_falls_10 (by decide) (fun _ _ => ?_) (fun q => by cases q)
    refine r_aload_n (v := .ref (eA E 8 0)) dX8_falls_17 rfl (rl_ref _) ?_
    refine r_aload_n (v := .ref (eA E 2 t23)) dX8_falls_18 rfl (rl_ref _) ?_
    refine r_cVi (As := [.ref (eA E 2 t23)]) (rest := []) dX8_falls_19 mv_X8_fallByCourse ml_RX8_149 ⟨_, _, rfl⟩ (hE.1 8 (by decide)) ⟨Nat.le_of_ble_eq_true rfl, Nat.le_of_ble_eq_true rfl⟩ ⟨rfl, rfl⟩ rfl rfl (Nat.le_of_ble_eq_true rfl) h (fun x25 V24 h => ?_)
    exact r_iret dX8_falls_22 rfl ⟨Nat.le_of_ble_eq_true rfl, Nat.le_of_ble_eq_true rfl⟩ ⟨rfl, _, rfl, h⟩
abbrev rm_X8_strike : Room := { frames := 5, cells := 0, slots := 0, locals := 113 }
def C_X8_strike (l : Launch) (G : Gt) (E : Et) (V : Vt) (x1 : Int32) (K : Int32 → Vt → Prop) : Prop := Cl l G yX8_strike cX8_strike 3 (some .int) rm_X8_strike E V [.ref (eA E 8 0), .int x1] (Qi E K)
def vc_X8_strike (l : Launch) (G : Gt) (E : Et) (V : Vt) (x1 : Int32) (K : Int32 → Vt → Prop) : Prop := (C_X3_find l G E V x1 (fun o22 V21 => ((o22 = none → K (-1 : Int32) V21) ∧ (∀ t23, o22 = some t23 → eL E 2 t23 ∧ (C_X2_isOnCentring l G E V21 t23 (fun x25 V24 => ((¬ x25 = (0 : Int32) → (C_X2_isWhole l G E V24 t23 (fun x27 V26 => ((¬ x27 = (0 : Int32) → (vp_in (3 : Int32) 4) ∧ (((V26 304 t23 ((3 : Int32)).toNatClampNeg) ≤ (V26 311 t23 0) → (C_X8_stands l G E (up3 V26 313 t23 0 (1 : Int32)) (fun x29 V28 => ((¬ x29 = (0 : Int32) → K (1 : Int32) V28) ∧ (x29 = (0 : Int32) → K (-15 : Int32) (up3 V28 313 t23 0 (0 : Int32))))))) ∧ (¬ (V26 304 t23 ((3 : Int32)).toNatClampNeg) ≤ (V26 311 t23 0) → K (-13 : Int32) V26))) ∧ (x27 = (0 : Int32) → K (-12 : Int32) V26))))) ∧ (x25 = (0 : Int32) → K (-11 : Int32) V24))))))))
theorem ok_X8_strike {l : Launch} {G : Gt} {E : Et} {V : Vt} {x1 : Int32} {K : Int32 → Vt → Prop} (hE : Sg E)  (h : vc_X8_strike l G E V x1 K) : C_X8_strike l G E V x1 K := by
  unfold vc_X8_strike at h
  refine Cl.of (by decide +kernel) (Nat.le_of_ble_eq_true rfl) (show Ev l G RX8 cX8_strike 3 (some .int) rm_X8_strike E 0 0 V 0 [(0, .ref (eA E 8 0)), (1, .int x1)] [] (Qi E K) from ?_)
  refine r_aload_n (v := .ref (eA E 8 0)) dX8_strike_0 rfl (rl_ref _) ?_
  refine r_get (v := .ref (eA E 3 0)) dX8_strike_1 fl_RX8_10 (hE.1 8 (by decide)) rfl ?_
  refine r_iload_n (x := x1) dX8_strike_4 rfl ?_
  refine r_cVr (As := [.int x1]) (rest := []) dX8_strike_5 mv_X3_find ml_RX8_80 ⟨_, _, rfl⟩ (hE.1 3 (by decide)) ⟨Nat.le_of_ble_eq_true rfl, Nat.le_of_ble_eq_true rfl⟩ ⟨rfl, rfl⟩ rfl rfl (Nat.le_of_ble_eq_true rfl) h (fun o22 V21 h => ?_)
  refine r_astore_n dX8_strike_8 (by decide) (rl_rf _) ?_
  refine r_aload_n (v := va_rf (Option.map (eA E 2) o22)) dX8_strike_9 rfl (rl_rf _) ?_
  cases hot23 : o22 with
  | none =>
    have h := h.1 hot23
    refine r_ifnonnull (o := none) 15 dX8_strike_10 (by decide) (fun a q => by cases q) (fun _ => ?_)
    refine r_iconst (v := (-1 : Int32)) dX8_strike_13 (by decide) ?_
    exact r_iret dX8_strike_14 rfl ⟨Nat.le_of_ble_eq_true rfl, Nat.le_of_ble_eq_true rfl⟩ ⟨rfl, _, rfl, h⟩
  | some t23 =>
    obtain ⟨hl_t23, h⟩ := h.2 t23 hot23
    refine r_ifnonnull (o := some (eA E 2 t23)) 15 dX8_strike_10 (by decide) (fun _ _ => ?_) (fun q => by cases q)
    refine r_aload_n (v := .ref (eA E 2 t23)) dX8_strike_15 rfl (rl_ref _) ?_
    refine r_cVi (As := []) (rest := []) dX8_strike_16 mv_X2_isOnCentring ml_RX8_152 ⟨_, _, rfl⟩ hl_t23 ⟨Nat.le_of_ble_eq_true rfl, Nat.le_of_ble_eq_true rfl⟩ ⟨rfl, rfl⟩ rfl rfl (Nat.le_of_ble_eq_true rfl) h (fun x25 V24 h => ?_)
    refine r_if_ne 25 dX8_strike_19 (by decide) (fun q => ?_) (fun q => ?_)
    · have h := h.1 q
      refine r_aload_n (v := .ref (eA E 2 t23)) dX8_strike_25 rfl (rl_ref _) ?_
      refine r_cVi (As := []) (rest := []) dX8_strike_26 mv_X2_isWhole ml_RX8_155 ⟨_, _, rfl⟩ hl_t23 ⟨Nat.le_of_ble_eq_true rfl, Nat.le_of_ble_eq_true rfl⟩ ⟨rfl, rfl⟩ rfl rfl (Nat.le_of_ble_eq_true rfl) h (fun x27 V26 h => ?_)
      refine r_if_ne 35 dX8_strike_29 (by decide) (fun q => ?_) (fun q => ?_)
      · have h := h.1 q
        refine r_aload_n (v := .ref (eA E 2 t23)) dX8_strike_35 rfl (rl_ref _) ?_
        refine r_get (v := .int (V26 311 t23 0)) dX8_strike_36 fl_RX8_158 hl_t23 rfl ?_
        refine r_aload_n (v := .ref (eA E 2 t23)) dX8_strike_39 rfl (rl_ref _) ?_
        refine r_get (v := .ref (eA E 304 t23)) dX8_strike_40 fl_RX8_122 hl_t23 rfl ?_
        refine r_iconst (v := (3 : Int32)) dX8_strike_43 (by decide) ?_
        obtain ⟨hb, h⟩ := h
        refine r_iald dX8_strike_44 rfl (by decide) hl_t23 (ix hE (by decide) rfl hb) ?_
        refine r_icmp_ge 51 dX8_strike_45 (by decide) (fun q => ?_) (fun q => ?_)
        · have h := h.1 q
          refine r_aload_n (v := .ref (eA E 2 t23)) dX8_strike_51 rfl (rl_ref _) ?_
          refine r_iconst (v := (1 : Int32)) dX8_strike_52 (by decide) ?_
          refine r_put dX8_strike_53 fp_RX8_161 rfl hl_t23 rfl rfl ?_
          refine r_aload_n (v := .ref (eA E 8 0)) dX8_strike_56 rfl (rl_ref _) ?_
          refine r_cVi (As := []) (rest := []) dX8_strike_57 mv_X8_stands ml_RX8_125 ⟨_, _, rfl⟩ (hE.1 8 (by decide)) ⟨Nat.le_of_ble_eq_true rfl, Nat.le_of_ble_eq_true rfl⟩ ⟨rfl, rfl⟩ rfl rfl (Nat.le_of_ble_eq_true rfl) h (fun x29 V28 h => ?_)
          refine r_if_ne 71 dX8_strike_60 (by decide) (fun q => ?_) (fun q => ?_)
          · have h := h.1 q
            refine r_iconst (v := (1 : Int32)) dX8_strike_71 (by decide) ?_
            exact r_iret dX8_strike_72 rfl ⟨Nat.le_of_ble_eq_true rfl, Nat.le_of_ble_eq_true rfl⟩ ⟨rfl, _, rfl, h⟩
          · have h := h.2 q
            refine r_aload_n (v := .ref (eA E 2 t23)) dX8_strike_63 rfl (rl_ref _) ?_
            refine r_iconst (v := (0 : Int32)) dX8_strike_64 (by decide) ?_
            refine r_put dX8_strike_65 fp_RX8_161 rfl hl_t23 rfl rfl ?_
            refine r_bipush (v := (-15 : Int32)) dX8_strike_68 (by decide) ?_
            exact r_iret dX8_strike_70 rfl ⟨Nat.le_of_ble_eq_true rfl, Nat.le_of_ble_eq_true rfl⟩ ⟨rfl, _, rfl, h⟩
        · have h := h.2 q
          refine r_bipush (v := (-13 : Int32)) dX8_strike_48 (by decide) ?_
          exact r_iret dX8_strike_50 rfl ⟨Nat.le_of_ble_eq_true rfl, Nat.le_of_ble_eq_true rfl⟩ ⟨rfl, _, rfl, h⟩
      · have h := h.2 q
        refine r_bipush (v := (-12 : Int32)) dX8_strike_32 (by decide) ?_
        exact r_iret dX8_strike_34 rfl ⟨Nat.le_of_ble_eq_true rfl, Nat.le_of_ble_eq_true rfl⟩ ⟨rfl, _, rfl, h⟩
    · have h := h.2 q
      refine r_bipush (v := (-11 : Int32)) dX8_strike_22 (by decide) ?_
      exact r_iret dX8_strike_24 rfl ⟨Nat.le_of_ble_eq_true rfl, Nat.le_of_ble_eq_true rfl⟩ ⟨rfl, _, rfl, h⟩
abbrev rm_X8_prop : Room := { frames := 5, cells := 0, slots := 0, locals := 113 }
def C_X8_prop (l : Launch) (G : Gt) (E : Et) (V : Vt) (x1 : Int32) (x2 : Int32) (K : Int32 → Vt → Prop) : Prop := Cl l G yX8_prop cX8_prop 5 (some .int) rm_X8_prop E V [.ref (eA E 8 0), .int x1, .int x2] (Qi E K)
def vc_X8_prop (l : Launch) (G : Gt) (E : Et) (V : Vt) (x1 : Int32) (x2 : Int32) (K : Int32 → Vt → Prop) : Prop := (C_X3_find l G E V x1 (fun o22 V21 => ((o22 = none → K (-1 : Int32) V21) ∧ (∀ t23, o22 = some t23 → eL E 2 t23 ∧ ((x2 < (0 : Int32) → K (-1 : Int32) V21) ∧ (¬ x2 < (0 : Int32) → ((x2 ≤ (100000 : Int32) → (C_X8_stands l G E (up3 V21 312 t23 0 x2) (fun x25 V24 => ((¬ x25 = (0 : Int32) → K (V21 312 t23 0) V24) ∧ (x25 = (0 : Int32) → K (-15 : Int32) (up3 V24 312 t23 0 (V21 312 t23 0))))))) ∧ (¬ x2 ≤ (100000 : Int32) → K (-1 : Int32) V21))))))))
theorem ok_X8_prop {l : Launch} {G : Gt} {E : Et} {V : Vt} {x1 : Int32} {x2 : Int32} {K : Int32 → Vt → Prop} (hE : Sg E)  (h : vc_X8_prop l G E V x1 x2 K) : C_X8_prop l G E V x1 x2 K := by
  unfold vc_X8_prop at h
  refine Cl.of (by decide +kernel) (Nat.le_of_ble_eq_true rfl) (show Ev l G RX8 cX8_prop 5 (some .int) rm_X8_prop E 0 0 V 0 [(0, .ref (eA E 8 0)), (1, .int x1), (2, .int x2)] [] (Qi E K) from ?_)
  refine r_aload_n (v := .ref (eA E 8 0)) dX8_prop_0 rfl (rl_ref _) ?_
  refine r_get (v := .ref (eA E 3 0)) dX8_prop_1 fl_RX8_10 (hE.1 8 (by decide)) rfl ?_
  refine r_iload_n (x := x1) dX8_prop_4 rfl ?_
  refine r_cVr (As := [.int x1]) (rest := []) dX8_prop_5 mv_X3_find ml_RX8_80 ⟨_, _, rfl⟩ (hE.1 3 (by decide)) ⟨Nat.le_of_ble_eq_true rfl, Nat.le_of_ble_eq_true rfl⟩ ⟨rfl, rfl⟩ rfl rfl (Nat.le_of_ble_eq_true rfl) h (fun o22 V21 h => ?_)
  refine r_astore_n dX8_prop_8 (by decide) (rl_rf _) ?_
  refine r_aload_n (v := va_rf (Option.map (eA E 2) o22)) dX8_prop_9 rfl (rl_rf _) ?_
  cases hot23 : o22 with
  | none =>
    have h := h.1 hot23
    refine r_ifnull (o := none) 23 dX8_prop_10 (by decide) (fun _ => ?_) (fun a q => by cases q)
    refine r_iconst (v := (-1 : Int32)) dX8_prop_23 (by decide) ?_
    exact r_iret dX8_prop_24 rfl ⟨Nat.le_of_ble_eq_true rfl, Nat.le_of_ble_eq_true rfl⟩ ⟨rfl, _, rfl, h⟩
  | some t23 =>
    obtain ⟨hl_t23, h⟩ := h.2 t23 hot23
    refine r_ifnull (o := some (eA E 2 t23)) 23 dX8_prop_10 (by decide) (fun q => by cases q) (fun _ _ => ?_)
    refine r_iload_n (x := x2) dX8_prop_13 rfl ?_
    refine r_if_lt 23 dX8_prop_14 (by decide) (fun q => ?_) (fun q => ?_)
    · have h := h.1 q
      refine r_iconst (v := (-1 : Int32)) dX8_prop_23 (by decide) ?_
      exact r_iret dX8_prop_24 rfl ⟨Nat.le_of_ble_eq_true rfl, Nat.le_of_ble_eq_true rfl⟩ ⟨rfl, _, rfl, h⟩
    · have h := h.2 q
      refine r_iload_n (x := x2) dX8_prop_17 rfl ?_
      refine r_ldc dX8_prop_18 kc_RX8_165 ?_
      refine r_icmp_le 25 dX8_prop_20 (by decide) (fun q => ?_) (fun q => ?_)
      · have h := h.1 q
        refine r_aload_n (v := .ref (eA E 2 t23)) dX8_prop_25 rfl (rl_ref _) ?_
        refine r_get (v := .int (V21 312 t23 0)) dX8_prop_26 fl_RX8_166 hl_t23 rfl ?_
        refine r_istore dX8_prop_29 (by decide) ?_
        refine r_aload_n (v := .ref (eA E 2 t23)) dX8_prop_31 rfl (rl_ref _) ?_
        refine r_iload_n (x := x2) dX8_prop_32 rfl ?_
        refine r_put dX8_prop_33 fp_RX8_166 rfl hl_t23 rfl rfl ?_
        refine r_aload_n (v := .ref (eA E 8 0)) dX8_prop_36 rfl (rl_ref _) ?_
        refine r_cVi (As := []) (rest := []) dX8_prop_37 mv_X8_stands ml_RX8_125 ⟨_, _, rfl⟩ (hE.1 8 (by decide)) ⟨Nat.le_of_ble_eq_true rfl, Nat.le_of_ble_eq_true rfl⟩ ⟨rfl, rfl⟩ rfl rfl (Nat.le_of_ble_eq_true rfl) h (fun x25 V24 h => ?_)
        refine r_if_ne 52 dX8_prop_40 (by decide) (fun q => ?_) (fun q => ?_)
        · have h := h.1 q
          refine r_iload (x := (V21 312 t23 0)) dX8_prop_52 rfl ?_
          exact r_iret dX8_prop_54 rfl ⟨Nat.le_of_ble_eq_true rfl, Nat.le_of_ble_eq_true rfl⟩ ⟨rfl, _, rfl, h⟩
        · have h := h.2 q
          refine r_aload_n (v := .ref (eA E 2 t23)) dX8_prop_43 rfl (rl_ref _) ?_
          refine r_iload (x := (V21 312 t23 0)) dX8_prop_44 rfl ?_
          refine r_put dX8_prop_46 fp_RX8_166 rfl hl_t23 rfl rfl ?_
          refine r_bipush (v := (-15 : Int32)) dX8_prop_49 (by decide) ?_
          exact r_iret dX8_prop_51 rfl ⟨Nat.le_of_ble_eq_true rfl, Nat.le_of_ble_eq_true rfl⟩ ⟨rfl, _, rfl, h⟩
      · have h := h.2 q
        refine r_iconst (v := (-1 : Int32)) dX8_prop_23 (by decide) ?_
        exact r_iret dX8_prop_24 rfl ⟨Nat.le_of_ble_eq_true rfl, Nat.le_of_ble_eq_true rfl⟩ ⟨rfl, _, rfl, h⟩
abbrev rm_X8_month : Room := { frames := 2, cells := 0, slots := 0, locals := 44 }
def C_X8_month (l : Launch) (G : Gt) (E : Et) (V : Vt) (x1 : Int32) (K : Int32 → Vt → Prop) : Prop := Cl l G yX8_month cX8_month 2 (some .int) rm_X8_month E V [.ref (eA E 8 0), .int x1] (Qi E K)
def vc_X8_month (l : Launch) (G : Gt) (E : Et) (V : Vt) (x1 : Int32) (K : Int32 → Vt → Prop) : Prop := ((x1 < (1 : Int32) → K (-1 : Int32) V) ∧ (¬ x1 < (1 : Int32) → (((100 : Int32) < x1 → K (-1 : Int32) V) ∧ (¬ (100 : Int32) < x1 → ((x1 ≤ ((1200 : Int32) - (V 101 0 0)) → (C_X0_pass l G E V x1 (fun x22 V21 => (C_X3_ageAll l G E V21 x22 (fun V23 => K ((up3 V23 911 0 0 (0 : Int32)) 101 0 0) (up3 V23 911 0 0 (0 : Int32))))))) ∧ (¬ x1 ≤ ((1200 : Int32) - (V 101 0 0)) → K (-1 : Int32) V))))))
theorem ok_X8_month {l : Launch} {G : Gt} {E : Et} {V : Vt} {x1 : Int32} {K : Int32 → Vt → Prop} (hE : Sg E)  (h : vc_X8_month l G E V x1 K) : C_X8_month l G E V x1 K := by
  unfold vc_X8_month at h
  refine Cl.of (by decide +kernel) (Nat.le_of_ble_eq_true rfl) (show Ev l G RX8 cX8_month 2 (some .int) rm_X8_month E 0 0 V 0 [(0, .ref (eA E 8 0)), (1, .int x1)] [] (Qi E K) from ?_)
  refine r_iload_n (x := x1) dX8_month_0 rfl ?_
  refine r_iconst (v := (1 : Int32)) dX8_month_1 (by decide) ?_
  refine r_icmp_lt 26 dX8_month_2 (by decide) (fun q => ?_) (fun q => ?_)
  · have h := h.1 q
    refine r_iconst (v := (-1 : Int32)) dX8_month_26 (by decide) ?_
    exact r_iret dX8_month_27 rfl ⟨Nat.le_of_ble_eq_true rfl, Nat.le_of_ble_eq_true rfl⟩ ⟨rfl, _, rfl, h⟩
  · have h := h.2 q
    refine r_iload_n (x := x1) dX8_month_5 rfl ?_
    refine r_bipush (v := (100 : Int32)) dX8_month_6 (by decide) ?_
    refine r_icmp_gt 26 dX8_month_8 (by decide) (fun q => ?_) (fun q => ?_)
    · have h := h.1 q
      refine r_iconst (v := (-1 : Int32)) dX8_month_26 (by decide) ?_
      exact r_iret dX8_month_27 rfl ⟨Nat.le_of_ble_eq_true rfl, Nat.le_of_ble_eq_true rfl⟩ ⟨rfl, _, rfl, h⟩
    · have h := h.2 q
      refine r_iload_n (x := x1) dX8_month_11 rfl ?_
      refine r_sipush (v := (1200 : Int32)) dX8_month_12 (by decide) ?_
      refine r_aload_n (v := .ref (eA E 8 0)) dX8_month_15 rfl (rl_ref _) ?_
      refine r_get (v := .ref (eA E 0 0)) dX8_month_16 fl_RX8_26 (hE.1 8 (by decide)) rfl ?_
      refine r_get (v := .int (V 101 0 0)) dX8_month_19 fl_RX8_136 (hE.1 0 (by decide)) rfl ?_
      refine r_isub dX8_month_22 ?_
      refine r_icmp_le 28 dX8_month_23 (by decide) (fun q => ?_) (fun q => ?_)
      · have h := h.1 q
        refine r_aload_n (v := .ref (eA E 8 0)) dX8_month_28 rfl (rl_ref _) ?_
        refine r_get (v := .ref (eA E 3 0)) dX8_month_29 fl_RX8_10 (hE.1 8 (by decide)) rfl ?_
        refine r_aload_n (v := .ref (eA E 8 0)) dX8_month_32 rfl (rl_ref _) ?_
        refine r_get (v := .ref (eA E 0 0)) dX8_month_33 fl_RX8_26 (hE.1 8 (by decide)) rfl ?_
        refine r_iload_n (x := x1) dX8_month_36 rfl ?_
        refine r_cVi (As := [.int x1]) (rest := [.ref (eA E 3 0)]) dX8_month_37 mv_X0_pass ml_RX8_169 ⟨_, _, rfl⟩ (hE.1 0 (by decide)) ⟨Nat.le_of_ble_eq_true rfl, Nat.le_of_ble_eq_true rfl⟩ ⟨rfl, rfl⟩ rfl rfl (Nat.le_of_ble_eq_true rfl) h (fun x22 V21 h => ?_)
        refine r_cVv (As := [.int x22]) (rest := []) dX8_month_40 mv_X3_ageAll ml_RX8_173 ⟨_, _, rfl⟩ (hE.1 3 (by decide)) ⟨Nat.le_of_ble_eq_true rfl, Nat.le_of_ble_eq_true rfl⟩ ⟨rfl, rfl⟩ rfl rfl (Nat.le_of_ble_eq_true rfl) h (fun V23 h => ?_)
        refine r_aload_n (v := .ref (eA E 8 0)) dX8_month_43 rfl (rl_ref _) ?_
        refine r_iconst (v := (0 : Int32)) dX8_month_44 (by decide) ?_
        refine r_put dX8_month_45 fp_RX8_143 rfl (hE.1 8 (by decide)) rfl rfl ?_
        refine r_aload_n (v := .ref (eA E 8 0)) dX8_month_48 rfl (rl_ref _) ?_
        refine r_get (v := .ref (eA E 0 0)) dX8_month_49 fl_RX8_26 (hE.1 8 (by decide)) rfl ?_
        refine r_get (v := .int ((up3 V23 911 0 0 (0 : Int32)) 101 0 0)) dX8_month_52 fl_RX8_136 (hE.1 0 (by decide)) rfl ?_
        exact r_iret dX8_month_55 rfl ⟨Nat.le_of_ble_eq_true rfl, Nat.le_of_ble_eq_true rfl⟩ ⟨rfl, _, rfl, h⟩
      · have h := h.2 q
        refine r_iconst (v := (-1 : Int32)) dX8_month_26 (by decide) ?_
        exact r_iret dX8_month_27 rfl ⟨Nat.le_of_ble_eq_true rfl, Nat.le_of_ble_eq_true rfl⟩ ⟨rfl, _, rfl, h⟩
abbrev rm_X8_frost : Room := { frames := 0, cells := 0, slots := 0, locals := 0 }
def C_X8_frost (l : Launch) (G : Gt) (E : Et) (V : Vt) (x1 : Int32) (K : Int32 → Vt → Prop) : Prop := Cl l G yX8_frost cX8_frost 3 (some .int) rm_X8_frost E V [.ref (eA E 8 0), .int x1] (Qi E K)
def vc_X8_frost (l : Launch) (G : Gt) (E : Et) (V : Vt) (x1 : Int32) (K : Int32 → Vt → Prop) : Prop := ((x1 < (0 : Int32) → K (-1 : Int32) V) ∧ (¬ x1 < (0 : Int32) → ((x1 < (4096 : Int32) → K (V 102 0 0) (up3 V 102 0 0 x1)) ∧ (¬ x1 < (4096 : Int32) → K (-1 : Int32) V))))
theorem ok_X8_frost {l : Launch} {G : Gt} {E : Et} {V : Vt} {x1 : Int32} {K : Int32 → Vt → Prop} (hE : Sg E)  (h : vc_X8_frost l G E V x1 K) : C_X8_frost l G E V x1 K := by
  unfold vc_X8_frost at h
  refine Cl.of (by decide +kernel) (Nat.le_of_ble_eq_true rfl) (show Ev l G RX8 cX8_frost 3 (some .int) rm_X8_frost E 0 0 V 0 [(0, .ref (eA E 8 0)), (1, .int x1)] [] (Qi E K) from ?_)
  refine r_iload_n (x := x1) dX8_frost_0 rfl ?_
  refine r_if_lt 11 dX8_frost_1 (by decide) (fun q => ?_) (fun q => ?_)
  · have h := h.1 q
    refine r_iconst (v := (-1 : Int32)) dX8_frost_11 (by decide) ?_
    exact r_iret dX8_frost_12 rfl ⟨Nat.le_of_ble_eq_true rfl, Nat.le_of_ble_eq_true rfl⟩ ⟨rfl, _, rfl, h⟩
  · have h := h.2 q
    refine r_iload_n (x := x1) dX8_frost_4 rfl ?_
    refine r_sipush (v := (4096 : Int32)) dX8_frost_5 (by decide) ?_
    refine r_icmp_lt 13 dX8_frost_8 (by decide) (fun q => ?_) (fun q => ?_)
    · have h := h.1 q
      refine r_aload_n (v := .ref (eA E 8 0)) dX8_frost_13 rfl (rl_ref _) ?_
      refine r_get (v := .ref (eA E 0 0)) dX8_frost_14 fl_RX8_26 (hE.1 8 (by decide)) rfl ?_
      refine r_get (v := .int (V 102 0 0)) dX8_frost_17 fl_RX8_176 (hE.1 0 (by decide)) rfl ?_
      refine r_istore_n dX8_frost_20 (by decide) ?_
      refine r_aload_n (v := .ref (eA E 8 0)) dX8_frost_21 rfl (rl_ref _) ?_
      refine r_get (v := .ref (eA E 0 0)) dX8_frost_22 fl_RX8_26 (hE.1 8 (by decide)) rfl ?_
      refine r_iload_n (x := x1) dX8_frost_25 rfl ?_
      refine r_put dX8_frost_26 fp_RX8_176 rfl (hE.1 0 (by decide)) rfl rfl ?_
      refine r_iload_n (x := (V 102 0 0)) dX8_frost_29 rfl ?_
      exact r_iret dX8_frost_30 rfl ⟨Nat.le_of_ble_eq_true rfl, Nat.le_of_ble_eq_true rfl⟩ ⟨rfl, _, rfl, h⟩
    · have h := h.2 q
      refine r_iconst (v := (-1 : Int32)) dX8_frost_11 (by decide) ?_
      exact r_iret dX8_frost_12 rfl ⟨Nat.le_of_ble_eq_true rfl, Nat.le_of_ble_eq_true rfl⟩ ⟨rfl, _, rfl, h⟩
abbrev rm_X8_bitter : Room := { frames := 1, cells := 0, slots := 0, locals := 23 }
def C_X8_bitter (l : Launch) (G : Gt) (E : Et) (V : Vt) (x1 : Int32) (K : Int32 → Vt → Prop) : Prop := Cl l G yX8_bitter cX8_bitter 2 (some .int) rm_X8_bitter E V [.ref (eA E 8 0), .int x1] (Qi E K)
def vc_X8_bitter (l : Launch) (G : Gt) (E : Et) (V : Vt) (x1 : Int32) (K : Int32 → Vt → Prop) : Prop := (C_X0_isAhead l G E V x1 (fun x22 V21 => ((¬ x22 = (0 : Int32) → (C_X0_makeBitter l G E V21 x1 (fun x24 V23 => ((x24 = (0 : Int32) → K (0 : Int32) V23) ∧ (¬ x24 = (0 : Int32) → K (1 : Int32) V23))))) ∧ (x22 = (0 : Int32) → K (-1 : Int32) V21))))
theorem ok_X8_bitter {l : Launch} {G : Gt} {E : Et} {V : Vt} {x1 : Int32} {K : Int32 → Vt → Prop} (hE : Sg E)  (h : vc_X8_bitter l G E V x1 K) : C_X8_bitter l G E V x1 K := by
  unfold vc_X8_bitter at h
  refine Cl.of (by decide +kernel) (Nat.le_of_ble_eq_true rfl) (show Ev l G RX8 cX8_bitter 2 (some .int) rm_X8_bitter E 0 0 V 0 [(0, .ref (eA E 8 0)), (1, .int x1)] [] (Qi E K) from ?_)
  refine r_aload_n (v := .ref (eA E 8 0)) dX8_bitter_0 rfl (rl_ref _) ?_
  refine r_get (v := .ref (eA E 0 0)) dX8_bitter_1 fl_RX8_26 (hE.1 8 (by decide)) rfl ?_
  refine r_iload_n (x := x1) dX8_bitter_4 rfl ?_
  refine r_cVi (As := [.int x1]) (rest := []) dX8_bitter_5 mv_X0_isAhead ml_RX8_179 ⟨_, _, rfl⟩ (hE.1 0 (by decide)) ⟨Nat.le_of_ble_eq_true rfl, Nat.le_of_ble_eq_true rfl⟩ ⟨rfl, rfl⟩ rfl rfl (Nat.le_of_ble_eq_true rfl) h (fun x22 V21 h => ?_)
  refine r_if_ne 13 dX8_bitter_8 (by decide) (fun q => ?_) (fun q => ?_)
  · have h := h.1 q
    refine r_aload_n (v := .ref (eA E 8 0)) dX8_bitter_13 rfl (rl_ref _) ?_
    refine r_get (v := .ref (eA E 0 0)) dX8_bitter_14 fl_RX8_26 (hE.1 8 (by decide)) rfl ?_
    refine r_iload_n (x := x1) dX8_bitter_17 rfl ?_
    refine r_cVi (As := [.int x1]) (rest := []) dX8_bitter_18 mv_X0_makeBitter ml_RX8_183 ⟨_, _, rfl⟩ (hE.1 0 (by decide)) ⟨Nat.le_of_ble_eq_true rfl, Nat.le_of_ble_eq_true rfl⟩ ⟨rfl, rfl⟩ rfl rfl (Nat.le_of_ble_eq_true rfl) h (fun x24 V23 h => ?_)
    refine r_if_eq 28 dX8_bitter_21 (by decide) (fun q => ?_) (fun q => ?_)
    · have h := h.1 q
      refine r_iconst (v := (0 : Int32)) dX8_bitter_28 (by decide) ?_
      exact r_iret dX8_bitter_29 rfl ⟨Nat.le_of_ble_eq_true rfl, Nat.le_of_ble_eq_true rfl⟩ ⟨rfl, _, rfl, h⟩
    · have h := h.2 q
      refine r_iconst (v := (1 : Int32)) dX8_bitter_24 (by decide) ?_
      refine r_goto 29 dX8_bitter_25 (by decide) ?_
      exact r_iret dX8_bitter_29 rfl ⟨Nat.le_of_ble_eq_true rfl, Nat.le_of_ble_eq_true rfl⟩ ⟨rfl, _, rfl, h⟩
  · have h := h.2 q
    refine r_iconst (v := (-1 : Int32)) dX8_bitter_11 (by decide) ?_
    exact r_iret dX8_bitter_12 rfl ⟨Nat.le_of_ble_eq_true rfl, Nat.le_of_ble_eq_true rfl⟩ ⟨rfl, _, rfl, h⟩
abbrev rm_X8_feed : Room := { frames := 1, cells := 0, slots := 0, locals := 23 }
def C_X8_feed (l : Launch) (G : Gt) (E : Et) (V : Vt) (x1 : Int32) (x2 : Int32) (K : Int32 → Vt → Prop) : Prop := Cl l G yX8_feed cX8_feed 3 (some .int) rm_X8_feed E V [.ref (eA E 8 0), .int x1, .int x2] (Qi E K)
def vc_X8_feed (l : Launch) (G : Gt) (E : Et) (V : Vt) (x1 : Int32) (x2 : Int32) (K : Int32 → Vt → Prop) : Prop := ((x1 < (1 : Int32) → K (-1 : Int32) V) ∧ (¬ x1 < (1 : Int32) → ((x1 ≤ (4 : Int32) → ((x1 ≤ ((100 : Int32) - (V 703 0 0)) → (C_X6_take l G E V x1 x2 (fun V21 => K (V21 703 0 0) V21))) ∧ (¬ x1 ≤ ((100 : Int32) - (V 703 0 0)) → K (-3 : Int32) V))) ∧ (¬ x1 ≤ (4 : Int32) → K (-1 : Int32) V))))
theorem ok_X8_feed {l : Launch} {G : Gt} {E : Et} {V : Vt} {x1 : Int32} {x2 : Int32} {K : Int32 → Vt → Prop} (hE : Sg E)  (h : vc_X8_feed l G E V x1 x2 K) : C_X8_feed l G E V x1 x2 K := by
  unfold vc_X8_feed at h
  refine Cl.of (by decide +kernel) (Nat.le_of_ble_eq_true rfl) (show Ev l G RX8 cX8_feed 3 (some .int) rm_X8_feed E 0 0 V 0 [(0, .ref (eA E 8 0)), (1, .int x1), (2, .int x2)] [] (Qi E K) from ?_)
  refine r_iload_n (x := x1) dX8_feed_0 rfl ?_
  refine r_iconst (v := (1 : Int32)) dX8_feed_1 (by decide) ?_
  refine r_icmp_lt 10 dX8_feed_2 (by decide) (fun q => ?_) (fun q => ?_)
  · have h := h.1 q
    refine r_iconst (v := (-1 : Int32)) dX8_feed_10 (by decide) ?_
    exact r_iret dX8_feed_11 rfl ⟨Nat.le_of_ble_eq_true rfl, Nat.le_of_ble_eq_true rfl⟩ ⟨rfl, _, rfl, h⟩
  · have h := h.2 q
    refine r_iload_n (x := x1) dX8_feed_5 rfl ?_
    refine r_iconst (v := (4 : Int32)) dX8_feed_6 (by decide) ?_
    refine r_icmp_le 12 dX8_feed_7 (by decide) (fun q => ?_) (fun q => ?_)
    · have h := h.1 q
      refine r_iload_n (x := x1) dX8_feed_12 rfl ?_
      refine r_bipush (v := (100 : Int32)) dX8_feed_13 (by decide) ?_
      refine r_aload_n (v := .ref (eA E 8 0)) dX8_feed_15 rfl (rl_ref _) ?_
      refine r_get (v := .ref (eA E 6 0)) dX8_feed_16 fl_RX8_33 (hE.1 8 (by decide)) rfl ?_
      refine r_get (v := .int (V 703 0 0)) dX8_feed_19 fl_RX8_186 (hE.1 6 (by decide)) rfl ?_
      refine r_isub dX8_feed_22 ?_
      refine r_icmp_le 29 dX8_feed_23 (by decide) (fun q => ?_) (fun q => ?_)
      · have h := h.1 q
        refine r_aload_n (v := .ref (eA E 8 0)) dX8_feed_29 rfl (rl_ref _) ?_
        refine r_get (v := .ref (eA E 6 0)) dX8_feed_30 fl_RX8_33 (hE.1 8 (by decide)) rfl ?_
        refine r_iload_n (x := x1) dX8_feed_33 rfl ?_
        refine r_iload_n (x := x2) dX8_feed_34 rfl ?_
        refine r_cVv (As := [.int x1, .int x2]) (rest := []) dX8_feed_35 mv_X6_take ml_RX8_189 ⟨_, _, rfl⟩ (hE.1 6 (by decide)) ⟨Nat.le_of_ble_eq_true rfl, Nat.le_of_ble_eq_true rfl⟩ ⟨rfl, rfl⟩ rfl rfl (Nat.le_of_ble_eq_true rfl) h (fun V21 h => ?_)
        refine r_aload_n (v := .ref (eA E 8 0)) dX8_feed_38 rfl (rl_ref _) ?_
        refine r_get (v := .ref (eA E 6 0)) dX8_feed_39 fl_RX8_33 (hE.1 8 (by decide)) rfl ?_
        refine r_get (v := .int (V21 703 0 0)) dX8_feed_42 fl_RX8_186 (hE.1 6 (by decide)) rfl ?_
        exact r_iret dX8_feed_45 rfl ⟨Nat.le_of_ble_eq_true rfl, Nat.le_of_ble_eq_true rfl⟩ ⟨rfl, _, rfl, h⟩
      · have h := h.2 q
        refine r_bipush (v := (-3 : Int32)) dX8_feed_26 (by decide) ?_
        exact r_iret dX8_feed_28 rfl ⟨Nat.le_of_ble_eq_true rfl, Nat.le_of_ble_eq_true rfl⟩ ⟨rfl, _, rfl, h⟩
    · have h := h.2 q
      refine r_iconst (v := (-1 : Int32)) dX8_feed_10 (by decide) ?_
      exact r_iret dX8_feed_11 rfl ⟨Nat.le_of_ble_eq_true rfl, Nat.le_of_ble_eq_true rfl⟩ ⟨rfl, _, rfl, h⟩
abbrev rm_X8_end : Room := { frames := 10, cells := 0, slots := 0, locals := 226 }
def C_X8_end (l : Launch) (G : Gt) (E : Et) (V : Vt) (x1 : Int32) (x2 : Int32) (K : Int32 → Vt → Prop) : Prop := Cl l G yX8_end cX8_end 5 (some .int) rm_X8_end E V [.ref (eA E 8 0), .int x1, .int x2] (Qi E K)
def vc_X8_end (l : Launch) (G : Gt) (E : Et) (V : Vt) (x1 : Int32) (x2 : Int32) (K : Int32 → Vt → Prop) : Prop := (C_X8_findGift l G E V x1 (fun o22 V21 => (C_X3_find l G E V21 x2 (fun o24 V23 => ((o22 = none → K (-2000000000 : Int32) V23) ∧ (∀ t25, o22 = some t25 → eL E 1 t25 ∧ ((o24 = none → K (-2000000000 : Int32) V23) ∧ (∀ t26, o24 = some t26 → eL E 2 t26 ∧ (C_X8_nameMonth l G E V23 (fun V27 => (C_X4_namePart l G E V27 x2 t26 (fun V28 => (C_X4_endOf l G E V28 t25 (fun x30 V29 => K x30 V29))))))))))))))
theorem ok_X8_end {l : Launch} {G : Gt} {E : Et} {V : Vt} {x1 : Int32} {x2 : Int32} {K : Int32 → Vt → Prop} (hE : Sg E)  (h : vc_X8_end l G E V x1 x2 K) : C_X8_end l G E V x1 x2 K := by
  unfold vc_X8_end at h
  refine Cl.of (by decide +kernel) (Nat.le_of_ble_eq_true rfl) (show Ev l G RX8 cX8_end 5 (some .int) rm_X8_end E 0 0 V 0 [(0, .ref (eA E 8 0)), (1, .int x1), (2, .int x2)] [] (Qi E K) from ?_)
  refine r_aload_n (v := .ref (eA E 8 0)) dX8_end_0 rfl (rl_ref _) ?_
  refine r_iload_n (x := x1) dX8_end_1 rfl ?_
  refine r_cVr (As := [.int x1]) (rest := []) dX8_end_2 mv_X8_findGift ml_RX8_211 ⟨_, _, rfl⟩ (hE.1 8 (by decide)) ⟨Nat.le_of_ble_eq_true rfl, Nat.le_of_ble_eq_true rfl⟩ ⟨rfl, rfl⟩ rfl rfl (Nat.le_of_ble_eq_true rfl) h (fun o22 V21 h => ?_)
  refine r_astore_n dX8_end_5 (by decide) (rl_rf _) ?_
  refine r_aload_n (v := .ref (eA E 8 0)) dX8_end_6 rfl (rl_ref _) ?_
  refine r_get (v := .ref (eA E 3 0)) dX8_end_7 fl_RX8_10 (hE.1 8 (by decide)) rfl ?_
  refine r_iload_n (x := x2) dX8_end_10 rfl ?_
  refine r_cVr (As := [.int x2]) (rest := []) dX8_end_11 mv_X3_find ml_RX8_80 ⟨_, _, rfl⟩ (hE.1 3 (by decide)) ⟨Nat.le_of_ble_eq_true rfl, Nat.le_of_ble_eq_true rfl⟩ ⟨rfl, rfl⟩ rfl rfl (Nat.le_of_ble_eq_true rfl) h (fun o24 V23 h => ?_)
  refine r_astore dX8_end_14 (by decide) (rl_rf _) ?_
  refine r_aload_n (v := va_rf (Option.map (eA E 1) o22)) dX8_end_16 (by cases o22 <;> cases o24 <;> rfl) (rl_rf _) ?_
  cases hot25 : o22 with
  | none =>
    have h := h.1 hot25
    refine r_ifnull (o := none) 25 dX8_end_17 (by decide) (fun _ => ?_) (fun a q => by cases q)
    refine r_ldc dX8_end_25 kc_RX8_215 ?_
    exact r_iret dX8_end_27 rfl ⟨Nat.le_of_ble_eq_true rfl, Nat.le_of_ble_eq_true rfl⟩ ⟨rfl, _, rfl, h⟩
  | some t25 =>
    obtain ⟨hl_t25, h⟩ := h.2 t25 hot25
    refine r_ifnull (o := some (eA E 1 t25)) 25 dX8_end_17 (by decide) (fun q => by cases q) (fun _ _ => ?_)
    refine r_aload (v := va_rf (Option.map (eA E 2) o24)) dX8_end_20 rfl (rl_rf _) ?_
    cases hot26 : o24 with
    | none =>
      have h := h.1 hot26
      refine r_ifnonnull (o := none) 28 dX8_end_22 (by decide) (fun a q => by cases q) (fun _ => ?_)
      refine r_ldc dX8_end_25 kc_RX8_215 ?_
      exact r_iret dX8_end_27 rfl ⟨Nat.le_of_ble_eq_true rfl, Nat.le_of_ble_eq_true rfl⟩ ⟨rfl, _, rfl, h⟩
    | some t26 =>
      obtain ⟨hl_t26, h⟩ := h.2 t26 hot26
      refine r_ifnonnull (o := some (eA E 2 t26)) 28 dX8_end_22 (by decide) (fun _ _ => ?_) (fun q => by cases q)
      refine r_aload_n (v := .ref (eA E 8 0)) dX8_end_28 rfl (rl_ref _) ?_
      refine r_cVv (As := []) (rest := []) dX8_end_29 mv_X8_nameMonth ml_RX8_216 ⟨_, _, rfl⟩ (hE.1 8 (by decide)) ⟨Nat.le_of_ble_eq_true rfl, Nat.le_of_ble_eq_true rfl⟩ ⟨rfl, rfl⟩ rfl rfl (Nat.le_of_ble_eq_true rfl) h (fun V27 h => ?_)
      refine r_aload_n (v := .ref (eA E 8 0)) dX8_end_32 rfl (rl_ref _) ?_
      refine r_get (v := .ref (eA E 4 0)) dX8_end_33 fl_RX8_40 (hE.1 8 (by decide)) rfl ?_
      refine r_iload_n (x := x2) dX8_end_36 rfl ?_
      refine r_aload (v := .ref (eA E 2 t26)) dX8_end_37 rfl (rl_ref _) ?_
      refine r_cVv (As := [.int x2, .ref (eA E 2 t26)]) (rest := []) dX8_end_39 mv_X4_namePart ml_RX8_219 ⟨_, _, rfl⟩ (hE.1 4 (by decide)) ⟨Nat.le_of_ble_eq_true rfl, Nat.le_of_ble_eq_true rfl⟩ ⟨rfl, rfl⟩ rfl rfl (Nat.le_of_ble_eq_true rfl) h (fun V28 h => ?_)
      refine r_aload_n (v := .ref (eA E 8 0)) dX8_end_42 rfl (rl_ref _) ?_
      refine r_get (v := .ref (eA E 4 0)) dX8_end_43 fl_RX8_40 (hE.1 8 (by decide)) rfl ?_
      refine r_aload_n (v := .ref (eA E 1 t25)) dX8_end_46 rfl (rl_ref _) ?_
      refine r_cVi (As := [.ref (eA E 1 t25)]) (rest := []) dX8_end_47 mv_X4_endOf ml_RX8_222 ⟨_, _, rfl⟩ (hE.1 4 (by decide)) ⟨Nat.le_of_ble_eq_true rfl, Nat.le_of_ble_eq_true rfl⟩ ⟨rfl, rfl⟩ rfl rfl (Nat.le_of_ble_eq_true rfl) h (fun x30 V29 h => ?_)
      exact r_iret dX8_end_50 rfl ⟨Nat.le_of_ble_eq_true rfl, Nat.le_of_ble_eq_true rfl⟩ ⟨rfl, _, rfl, h⟩
abbrev rm_X8_loadOf : Room := { frames := 3, cells := 0, slots := 0, locals := 70 }
def C_X8_loadOf (l : Launch) (G : Gt) (E : Et) (V : Vt) (x1 : Int32) (K : Int32 → Vt → Prop) : Prop := Cl l G yX8_loadOf cX8_loadOf 2 (some .int) rm_X8_loadOf E V [.ref (eA E 8 0), .int x1] (Qi E K)
def vc_X8_loadOf (l : Launch) (G : Gt) (E : Et) (V : Vt) (x1 : Int32) (K : Int32 → Vt → Prop) : Prop := (C_X5_weigh l G E V (fun V21 => (vp_in x1 40) ∧ K (V21 600 0 (x1).toNatClampNeg) V21))
theorem ok_X8_loadOf {l : Launch} {G : Gt} {E : Et} {V : Vt} {x1 : Int32} {K : Int32 → Vt → Prop} (hE : Sg E)  (h : vc_X8_loadOf l G E V x1 K) : C_X8_loadOf l G E V x1 K := by
  unfold vc_X8_loadOf at h
  refine Cl.of (by decide +kernel) (Nat.le_of_ble_eq_true rfl) (show Ev l G RX8 cX8_loadOf 2 (some .int) rm_X8_loadOf E 0 0 V 0 [(0, .ref (eA E 8 0)), (1, .int x1)] [] (Qi E K) from ?_)
  refine r_aload_n (v := .ref (eA E 8 0)) dX8_loadOf_0 rfl (rl_ref _) ?_
  refine r_get (v := .ref (eA E 5 0)) dX8_loadOf_1 fl_RX8_19 (hE.1 8 (by decide)) rfl ?_
  refine r_aload_n (v := .ref (eA E 8 0)) dX8_loadOf_4 rfl (rl_ref _) ?_
  refine r_get (v := .ref (eA E 3 0)) dX8_loadOf_5 fl_RX8_10 (hE.1 8 (by decide)) rfl ?_
  refine r_cVv (As := [.ref (eA E 3 0)]) (rest := []) dX8_loadOf_8 mv_X5_weigh ml_RX8_300 ⟨_, _, rfl⟩ (hE.1 5 (by decide)) ⟨Nat.le_of_ble_eq_true rfl, Nat.le_of_ble_eq_true rfl⟩ ⟨rfl, rfl⟩ rfl rfl (Nat.le_of_ble_eq_true rfl) h (fun V21 h => ?_)
  refine r_aload_n (v := .ref (eA E 8 0)) dX8_loadOf_11 rfl (rl_ref _) ?_
  refine r_get (v := .ref (eA E 5 0)) dX8_loadOf_12 fl_RX8_19 (hE.1 8 (by decide)) rfl ?_
  refine r_get (v := .ref (eA E 600 0)) dX8_loadOf_15 fl_RX8_304 (hE.1 5 (by decide)) rfl ?_
  refine r_iload_n (x := x1) dX8_loadOf_18 rfl ?_
  obtain ⟨hb, h⟩ := h
  refine r_iald dX8_loadOf_19 rfl (by decide) (hE.1 5 (by decide)) (ix hE (by decide) rfl hb) ?_
  exact r_iret dX8_loadOf_20 rfl ⟨Nat.le_of_ble_eq_true rfl, Nat.le_of_ble_eq_true rfl⟩ ⟨rfl, _, rfl, h⟩
abbrev rm_X8_pushToRightOn : Room := { frames := 3, cells := 0, slots := 0, locals := 70 }
def C_X8_pushToRightOn (l : Launch) (G : Gt) (E : Et) (V : Vt) (x1 : Int32) (K : Int32 → Vt → Prop) : Prop := Cl l G yX8_pushToRightOn cX8_pushToRightOn 2 (some .int) rm_X8_pushToRightOn E V [.ref (eA E 8 0), .int x1] (Qi E K)
def vc_X8_pushToRightOn (l : Launch) (G : Gt) (E : Et) (V : Vt) (x1 : Int32) (K : Int32 → Vt → Prop) : Prop := (C_X5_weigh l G E V (fun V21 => (vp_in x1 40) ∧ K (V21 601 0 (x1).toNatClampNeg) V21))
theorem ok_X8_pushToRightOn {l : Launch} {G : Gt} {E : Et} {V : Vt} {x1 : Int32} {K : Int32 → Vt → Prop} (hE : Sg E)  (h : vc_X8_pushToRightOn l G E V x1 K) : C_X8_pushToRightOn l G E V x1 K := by
  unfold vc_X8_pushToRightOn at h
  refine Cl.of (by decide +kernel) (Nat.le_of_ble_eq_true rfl) (show Ev l G RX8 cX8_pushToRightOn 2 (some .int) rm_X8_pushToRightOn E 0 0 V 0 [(0, .ref (eA E 8 0)), (1, .int x1)] [] (Qi E K) from ?_)
  refine r_aload_n (v := .ref (eA E 8 0)) dX8_pushToRightOn_0 rfl (rl_ref _) ?_
  refine r_get (v := .ref (eA E 5 0)) dX8_pushToRightOn_1 fl_RX8_19 (hE.1 8 (by decide)) rfl ?_
  refine r_aload_n (v := .ref (eA E 8 0)) dX8_pushToRightOn_4 rfl (rl_ref _) ?_
  refine r_get (v := .ref (eA E 3 0)) dX8_pushToRightOn_5 fl_RX8_10 (hE.1 8 (by decide)) rfl ?_
  refine r_cVv (As := [.ref (eA E 3 0)]) (rest := []) dX8_pushToRightOn_8 mv_X5_weigh ml_RX8_300 ⟨_, _, rfl⟩ (hE.1 5 (by decide)) ⟨Nat.le_of_ble_eq_true rfl, Nat.le_of_ble_eq_true rfl⟩ ⟨rfl, rfl⟩ rfl rfl (Nat.le_of_ble_eq_true rfl) h (fun V21 h => ?_)
  refine r_aload_n (v := .ref (eA E 8 0)) dX8_pushToRightOn_11 rfl (rl_ref _) ?_
  refine r_get (v := .ref (eA E 5 0)) dX8_pushToRightOn_12 fl_RX8_19 (hE.1 8 (by decide)) rfl ?_
  refine r_get (v := .ref (eA E 601 0)) dX8_pushToRightOn_15 fl_RX8_307 (hE.1 5 (by decide)) rfl ?_
  refine r_iload_n (x := x1) dX8_pushToRightOn_18 rfl ?_
  obtain ⟨hb, h⟩ := h
  refine r_iald dX8_pushToRightOn_19 rfl (by decide) (hE.1 5 (by decide)) (ix hE (by decide) rfl hb) ?_
  exact r_iret dX8_pushToRightOn_20 rfl ⟨Nat.le_of_ble_eq_true rfl, Nat.le_of_ble_eq_true rfl⟩ ⟨rfl, _, rfl, h⟩
abbrev rm_X8_about : Room := { frames := 4, cells := 0, slots := 0, locals := 91 }
def C_X8_about (l : Launch) (G : Gt) (E : Et) (V : Vt) (x1 : Int32) (x2 : Int32) (K : Int32 → Vt → Prop) : Prop := Cl l G yX8_about cX8_about 4 (some .int) rm_X8_about E V [.ref (eA E 8 0), .int x1, .int x2] (Qi E K)
def vc_X8_about (l : Launch) (G : Gt) (E : Et) (V : Vt) (x1 : Int32) (x2 : Int32) (K : Int32 → Vt → Prop) : Prop := (C_X3_find l G E V x1 (fun o22 V21 => ((o22 = none → K (-1 : Int32) V21) ∧ (∀ t23, o22 = some t23 → eL E 2 t23 ∧ ((x2 = (0 : Int32) → K (V21 300 t23 0) V21) ∧ (x2 = (1 : Int32) → K (V21 309 t23 0) V21) ∧ (x2 = (2 : Int32) → K (V21 310 t23 0) V21) ∧ (x2 = (3 : Int32) → (C_X8_loadOf l G E V21 x1 (fun x25 V24 => K x25 V24))) ∧ (x2 = (4 : Int32) → K (V21 311 t23 0) V21) ∧ (x2 = (5 : Int32) → (C_X2_isOnCentring l G E V21 t23 (fun x27 V26 => ((x27 = (0 : Int32) → K (0 : Int32) V26) ∧ (¬ x27 = (0 : Int32) → K (1 : Int32) V26))))) ∧ (x2 = (6 : Int32) → (C_X8_pushToRightOn l G E V21 x1 (fun x29 V28 => K (if (0 : Int32) ≤ x29 then x29 else (0 : Int32) - x29) V28))) ∧ (x2 = (7 : Int32) → (C_X8_pushToRightOn l G E V21 x1 (fun x31 V30 => ((x31 ≤ (0 : Int32) → K (0 : Int32) V30) ∧ (¬ x31 ≤ (0 : Int32) → K (1 : Int32) V30))))) ∧ (x2 = (8 : Int32) → K (V21 312 t23 0) V21) ∧ (x2 = (9 : Int32) → K (V21 308 t23 0) V21) ∧ (x2 = (10 : Int32) → (C_X3_countBorneBy l G E V21 x1 (fun x33 V32 => K x33 V32))) ∧ (x2 = (11 : Int32) → K (V21 302 t23 0) V21) ∧ (x2 = (12 : Int32) → K (V21 303 t23 0) V21) ∧ (¬ x2 = (0 : Int32) ∧ ¬ x2 = (1 : Int32) ∧ ¬ x2 = (2 : Int32) ∧ ¬ x2 = (3 : Int32) ∧ ¬ x2 = (4 : Int32) ∧ ¬ x2 = (5 : Int32) ∧ ¬ x2 = (6 : Int32) ∧ ¬ x2 = (7 : Int32) ∧ ¬ x2 = (8 : Int32) ∧ ¬ x2 = (9 : Int32) ∧ ¬ x2 = (10 : Int32) ∧ ¬ x2 = (11 : Int32) ∧ ¬ x2 = (12 : Int32) → K (-1 : Int32) V21))))))
theorem ok_X8_about {l : Launch} {G : Gt} {E : Et} {V : Vt} {x1 : Int32} {x2 : Int32} {K : Int32 → Vt → Prop} (hE : Sg E)  (h : vc_X8_about l G E V x1 x2 K) : C_X8_about l G E V x1 x2 K := by
  unfold vc_X8_about at h
  refine Cl.of (by decide +kernel) (Nat.le_of_ble_eq_true rfl) (show Ev l G RX8 cX8_about 4 (some .int) rm_X8_about E 0 0 V 0 [(0, .ref (eA E 8 0)), (1, .int x1), (2, .int x2)] [] (Qi E K) from ?_)
  refine r_aload_n (v := .ref (eA E 8 0)) dX8_about_0 rfl (rl_ref _) ?_
  refine r_get (v := .ref (eA E 3 0)) dX8_about_1 fl_RX8_10 (hE.1 8 (by decide)) rfl ?_
  refine r_iload_n (x := x1) dX8_about_4 rfl ?_
  refine r_cVr (As := [.int x1]) (rest := []) dX8_about_5 mv_X3_find ml_RX8_80 ⟨_, _, rfl⟩ (hE.1 3 (by decide)) ⟨Nat.le_of_ble_eq_true rfl, Nat.le_of_ble_eq_true rfl⟩ ⟨rfl, rfl⟩ rfl rfl (Nat.le_of_ble_eq_true rfl) h (fun o22 V21 h => ?_)
  refine r_astore_n dX8_about_8 (by decide) (rl_rf _) ?_
  refine r_aload_n (v := va_rf (Option.map (eA E 2) o22)) dX8_about_9 rfl (rl_rf _) ?_
  cases hot23 : o22 with
  | none =>
    have h := h.1 hot23
    refine r_ifnonnull (o := none) 15 dX8_about_10 (by decide) (fun a q => by cases q) (fun _ => ?_)
    refine r_iconst (v := (-1 : Int32)) dX8_about_13 (by decide) ?_
    exact r_iret dX8_about_14 rfl ⟨Nat.le_of_ble_eq_true rfl, Nat.le_of_ble_eq_true rfl⟩ ⟨rfl, _, rfl, h⟩
  | some t23 =>
    obtain ⟨hl_t23, h⟩ := h.2 t23 hot23
    refine r_ifnonnull (o := some (eA E 2 t23)) 15 dX8_about_10 (by decide) (fun _ _ => ?_) (fun q => by cases q)
    refine r_iload_n (x := x2) dX8_about_15 rfl ?_
    by_cases q0 : x2 = (0 : Int32)
    · have h := h.1 q0
      refine r_tIn (xv := (0 : Int32)) 84 dX8_about_16 q0 (by decide) (by decide) rfl (by decide) ?_
      refine r_aload_n (v := .ref (eA E 2 t23)) dX8_about_84 rfl (rl_ref _) ?_
      refine r_get (v := .int (V21 300 t23 0)) dX8_about_85 fl_RX8_95 hl_t23 rfl ?_
      exact r_iret dX8_about_88 rfl ⟨Nat.le_of_ble_eq_true rfl, Nat.le_of_ble_eq_true rfl⟩ ⟨rfl, _, rfl, h⟩
    by_cases q1 : x2 = (1 : Int32)
    · have h := h.2.1 q1
      refine r_tIn (xv := (1 : Int32)) 89 dX8_about_16 q1 (by decide) (by decide) rfl (by decide) ?_
      refine r_aload_n (v := .ref (eA E 2 t23)) dX8_about_89 rfl (rl_ref _) ?_
      refine r_get (v := .int (V21 309 t23 0)) dX8_about_90 fl_RX8_109 hl_t23 rfl ?_
      exact r_iret dX8_about_93 rfl ⟨Nat.le_of_ble_eq_true rfl, Nat.le_of_ble_eq_true rfl⟩ ⟨rfl, _, rfl, h⟩
    by_cases q2 : x2 = (2 : Int32)
    · have h := h.2.2.1 q2
      refine r_tIn (xv := (2 : Int32)) 94 dX8_about_16 q2 (by decide) (by decide) rfl (by decide) ?_
      refine r_aload_n (v := .ref (eA E 2 t23)) dX8_about_94 rfl (rl_ref _) ?_
      refine r_get (v := .int (V21 310 t23 0)) dX8_about_95 fl_RX8_146 hl_t23 rfl ?_
      exact r_iret dX8_about_98 rfl ⟨Nat.le_of_ble_eq_true rfl, Nat.le_of_ble_eq_true rfl⟩ ⟨rfl, _, rfl, h⟩
    by_cases q3 : x2 = (3 : Int32)
    · have h := h.2.2.2.1 q3
      refine r_tIn (xv := (3 : Int32)) 99 dX8_about_16 q3 (by decide) (by decide) rfl (by decide) ?_
      refine r_aload_n (v := .ref (eA E 8 0)) dX8_about_99 rfl (rl_ref _) ?_
      refine r_iload_n (x := x1) dX8_about_100 rfl ?_
      refine r_cVi (As := [.int x1]) (rest := []) dX8_about_101 mv_X8_loadOf ml_RX8_226 ⟨_, _, rfl⟩ (hE.1 8 (by decide)) ⟨Nat.le_of_ble_eq_true rfl, Nat.le_of_ble_eq_true rfl⟩ ⟨rfl, rfl⟩ rfl rfl (Nat.le_of_ble_eq_true rfl) h (fun x25 V24 h => ?_)
      exact r_iret dX8_about_104 rfl ⟨Nat.le_of_ble_eq_true rfl, Nat.le_of_ble_eq_true rfl⟩ ⟨rfl, _, rfl, h⟩
    by_cases q4 : x2 = (4 : Int32)
    · have h := h.2.2.2.2.1 q4
      refine r_tIn (xv := (4 : Int32)) 105 dX8_about_16 q4 (by decide) (by decide) rfl (by decide) ?_
      refine r_aload_n (v := .ref (eA E 2 t23)) dX8_about_105 rfl (rl_ref _) ?_
      refine r_get (v := .int (V21 311 t23 0)) dX8_about_106 fl_RX8_158 hl_t23 rfl ?_
      exact r_iret dX8_about_109 rfl ⟨Nat.le_of_ble_eq_true rfl, Nat.le_of_ble_eq_true rfl⟩ ⟨rfl, _, rfl, h⟩
    by_cases q5 : x2 = (5 : Int32)
    · have h := h.2.2.2.2.2.1 q5
      refine r_tIn (xv := (5 : Int32)) 110 dX8_about_16 q5 (by decide) (by decide) rfl (by decide) ?_
      refine r_aload_n (v := .ref (eA E 2 t23)) dX8_about_110 rfl (rl_ref _) ?_
      refine r_cVi (As := []) (rest := []) dX8_about_111 mv_X2_isOnCentring ml_RX8_152 ⟨_, _, rfl⟩ hl_t23 ⟨Nat.le_of_ble_eq_true rfl, Nat.le_of_ble_eq_true rfl⟩ ⟨rfl, rfl⟩ rfl rfl (Nat.le_of_ble_eq_true rfl) h (fun x27 V26 h => ?_)
      refine r_if_eq 121 dX8_about_114 (by decide) (fun q => ?_) (fun q => ?_)
      · have h := h.1 q
        refine r_iconst (v := (0 : Int32)) dX8_about_121 (by decide) ?_
        exact r_iret dX8_about_122 rfl ⟨Nat.le_of_ble_eq_true rfl, Nat.le_of_ble_eq_true rfl⟩ ⟨rfl, _, rfl, h⟩
      · have h := h.2 q
        refine r_iconst (v := (1 : Int32)) dX8_about_117 (by decide) ?_
        refine r_goto 122 dX8_about_118 (by decide) ?_
        exact r_iret dX8_about_122 rfl ⟨Nat.le_of_ble_eq_true rfl, Nat.le_of_ble_eq_true rfl⟩ ⟨rfl, _, rfl, h⟩
    by_cases q6 : x2 = (6 : Int32)
    · have h := h.2.2.2.2.2.2.1 q6
      refine r_tIn (xv := (6 : Int32)) 123 dX8_about_16 q6 (by decide) (by decide) rfl (by decide) ?_
      refine r_aload_n (v := .ref (eA E 8 0)) dX8_about_123 rfl (rl_ref _) ?_
      refine r_iload_n (x := x1) dX8_about_124 rfl ?_
      refine r_cVi (As := [.int x1]) (rest := []) dX8_about_125 mv_X8_pushToRightOn ml_RX8_229 ⟨_, _, rfl⟩ (hE.1 8 (by decide)) ⟨Nat.le_of_ble_eq_true rfl, Nat.le_of_ble_eq_true rfl⟩ ⟨rfl, rfl⟩ rfl rfl (Nat.le_of_ble_eq_true rfl) h (fun x29 V28 h => ?_)
      refine r_mabs dX8_about_128 ml_RX8_232 (Nat.le_of_ble_eq_true rfl) (Nat.le_of_ble_eq_true rfl) ?_
      exact r_iret dX8_about_131 rfl ⟨Nat.le_of_ble_eq_true rfl, Nat.le_of_ble_eq_true rfl⟩ ⟨rfl, _, rfl, h⟩
    by_cases q7 : x2 = (7 : Int32)
    · have h := h.2.2.2.2.2.2.2.1 q7
      refine r_tIn (xv := (7 : Int32)) 132 dX8_about_16 q7 (by decide) (by decide) rfl (by decide) ?_
      refine r_aload_n (v := .ref (eA E 8 0)) dX8_about_132 rfl (rl_ref _) ?_
      refine r_iload_n (x := x1) dX8_about_133 rfl ?_
      refine r_cVi (As := [.int x1]) (rest := []) dX8_about_134 mv_X8_pushToRightOn ml_RX8_229 ⟨_, _, rfl⟩ (hE.1 8 (by decide)) ⟨Nat.le_of_ble_eq_true rfl, Nat.le_of_ble_eq_true rfl⟩ ⟨rfl, rfl⟩ rfl rfl (Nat.le_of_ble_eq_true rfl) h (fun x31 V30 h => ?_)
      refine r_if_le 144 dX8_about_137 (by decide) (fun q => ?_) (fun q => ?_)
      · have h := h.1 q
        refine r_iconst (v := (0 : Int32)) dX8_about_144 (by decide) ?_
        exact r_iret dX8_about_145 rfl ⟨Nat.le_of_ble_eq_true rfl, Nat.le_of_ble_eq_true rfl⟩ ⟨rfl, _, rfl, h⟩
      · have h := h.2 q
        refine r_iconst (v := (1 : Int32)) dX8_about_140 (by decide) ?_
        refine r_goto 145 dX8_about_141 (by decide) ?_
        exact r_iret dX8_about_145 rfl ⟨Nat.le_of_ble_eq_true rfl, Nat.le_of_ble_eq_true rfl⟩ ⟨rfl, _, rfl, h⟩
    by_cases q8 : x2 = (8 : Int32)
    · have h := h.2.2.2.2.2.2.2.2.1 q8
      refine r_tIn (xv := (8 : Int32)) 146 dX8_about_16 q8 (by decide) (by decide) rfl (by decide) ?_
      refine r_aload_n (v := .ref (eA E 2 t23)) dX8_about_146 rfl (rl_ref _) ?_
      refine r_get (v := .int (V21 312 t23 0)) dX8_about_147 fl_RX8_166 hl_t23 rfl ?_
      exact r_iret dX8_about_150 rfl ⟨Nat.le_of_ble_eq_true rfl, Nat.le_of_ble_eq_true rfl⟩ ⟨rfl, _, rfl, h⟩
    by_cases q9 : x2 = (9 : Int32)
    · have h := h.2.2.2.2.2.2.2.2.2.1 q9
      refine r_tIn (xv := (9 : Int32)) 151 dX8_about_16 q9 (by decide) (by decide) rfl (by decide) ?_
      refine r_aload_n (v := .ref (eA E 2 t23)) dX8_about_151 rfl (rl_ref _) ?_
      refine r_get (v := .int (V21 308 t23 0)) dX8_about_152 fl_RX8_88 hl_t23 rfl ?_
      exact r_iret dX8_about_155 rfl ⟨Nat.le_of_ble_eq_true rfl, Nat.le_of_ble_eq_true rfl⟩ ⟨rfl, _, rfl, h⟩
    by_cases q10 : x2 = (10 : Int32)
    · have h := h.2.2.2.2.2.2.2.2.2.2.1 q10
      refine r_tIn (xv := (10 : Int32)) 156 dX8_about_16 q10 (by decide) (by decide) rfl (by decide) ?_
      refine r_aload_n (v := .ref (eA E 8 0)) dX8_about_156 rfl (rl_ref _) ?_
      refine r_get (v := .ref (eA E 3 0)) dX8_about_157 fl_RX8_10 (hE.1 8 (by decide)) rfl ?_
      refine r_iload_n (x := x1) dX8_about_160 rfl ?_
      refine r_cVi (As := [.int x1]) (rest := []) dX8_about_161 mv_X3_countBorneBy ml_RX8_237 ⟨_, _, rfl⟩ (hE.1 3 (by decide)) ⟨Nat.le_of_ble_eq_true rfl, Nat.le_of_ble_eq_true rfl⟩ ⟨rfl, rfl⟩ rfl rfl (Nat.le_of_ble_eq_true rfl) h (fun x33 V32 h => ?_)
      exact r_iret dX8_about_164 rfl ⟨Nat.le_of_ble_eq_true rfl, Nat.le_of_ble_eq_true rfl⟩ ⟨rfl, _, rfl, h⟩
    by_cases q11 : x2 = (11 : Int32)
    · have h := h.2.2.2.2.2.2.2.2.2.2.2.1 q11
      refine r_tIn (xv := (11 : Int32)) 165 dX8_about_16 q11 (by decide) (by decide) rfl (by decide) ?_
      refine r_aload_n (v := .ref (eA E 2 t23)) dX8_about_165 rfl (rl_ref _) ?_
      refine r_get (v := .int (V21 302 t23 0)) dX8_about_166 fl_RX8_240 hl_t23 rfl ?_
      exact r_iret dX8_about_169 rfl ⟨Nat.le_of_ble_eq_true rfl, Nat.le_of_ble_eq_true rfl⟩ ⟨rfl, _, rfl, h⟩
    by_cases q12 : x2 = (12 : Int32)
    · have h := h.2.2.2.2.2.2.2.2.2.2.2.2.1 q12
      refine r_tIn (xv := (12 : Int32)) 170 dX8_about_16 q12 (by decide) (by decide) rfl (by decide) ?_
      refine r_aload_n (v := .ref (eA E 2 t23)) dX8_about_170 rfl (rl_ref _) ?_
      refine r_get (v := .int (V21 303 t23 0)) dX8_about_171 fl_RX8_243 hl_t23 rfl ?_
      exact r_iret dX8_about_174 rfl ⟨Nat.le_of_ble_eq_true rfl, Nat.le_of_ble_eq_true rfl⟩ ⟨rfl, _, rfl, h⟩
    · have h := h.2.2.2.2.2.2.2.2.2.2.2.2.2 ⟨q0, q1, q2, q3, q4, q5, q6, q7, q8, q9, q10, q11, q12⟩
      refine r_tOut 175 dX8_about_16 (by have a0 := lv_neT q0 (a := 0) rfl; have a1 := lv_neT q1 (a := 1) rfl; have a2 := lv_neT q2 (a := 2) rfl; have a3 := lv_neT q3 (a := 3) rfl; have a4 := lv_neT q4 (a := 4) rfl; have a5 := lv_neT q5 (a := 5) rfl; have a6 := lv_neT q6 (a := 6) rfl; have a7 := lv_neT q7 (a := 7) rfl; have a8 := lv_neT q8 (a := 8) rfl; have a9 := lv_neT q9 (a := 9) rfl; have a10 := lv_neT q10 (a := 10) rfl; have a11 := lv_neT q11 (a := 11) rfl; have a12 := lv_neT q12 (a := 12) rfl; omega) (by decide) ?_
      refine r_iconst (v := (-1 : Int32)) dX8_about_175 (by decide) ?_
      exact r_iret dX8_about_176 rfl ⟨Nat.le_of_ble_eq_true rfl, Nat.le_of_ble_eq_true rfl⟩ ⟨rfl, _, rfl, h⟩
abbrev rm_X8_support : Room := { frames := 1, cells := 0, slots := 0, locals := 21 }
def C_X8_support (l : Launch) (G : Gt) (E : Et) (V : Vt) (x1 : Int32) (x2 : Int32) (K : Int32 → Vt → Prop) : Prop := Cl l G yX8_support cX8_support 4 (some .int) rm_X8_support E V [.ref (eA E 8 0), .int x1, .int x2] (Qi E K)
def vc_X8_support (l : Launch) (G : Gt) (E : Et) (V : Vt) (x1 : Int32) (x2 : Int32) (K : Int32 → Vt → Prop) : Prop := (C_X3_find l G E V x1 (fun o22 V21 => ((o22 = none → K (-1 : Int32) V21) ∧ (∀ t23, o22 = some t23 → eL E 2 t23 ∧ ((x2 < (0 : Int32) → K (-1 : Int32) V21) ∧ (¬ x2 < (0 : Int32) → ((x2 < (V21 308 t23 0) → (vp_in x2 4) ∧ (vp_in x2 4) ∧ K (((100 : Int32) * (V21 305 t23 (x2).toNatClampNeg)) + (V21 306 t23 (x2).toNatClampNeg)) V21) ∧ (¬ x2 < (V21 308 t23 0) → K (-1 : Int32) V21))))))))
theorem ok_X8_support {l : Launch} {G : Gt} {E : Et} {V : Vt} {x1 : Int32} {x2 : Int32} {K : Int32 → Vt → Prop} (hE : Sg E)  (h : vc_X8_support l G E V x1 x2 K) : C_X8_support l G E V x1 x2 K := by
  unfold vc_X8_support at h
  refine Cl.of (by decide +kernel) (Nat.le_of_ble_eq_true rfl) (show Ev l G RX8 cX8_support 4 (some .int) rm_X8_support E 0 0 V 0 [(0, .ref (eA E 8 0)), (1, .int x1), (2, .int x2)] [] (Qi E K) from ?_)
  refine r_aload_n (v := .ref (eA E 8 0)) dX8_support_0 rfl (rl_ref _) ?_
  refine r_get (v := .ref (eA E 3 0)) dX8_support_1 fl_RX8_10 (hE.1 8 (by decide)) rfl ?_
  refine r_iload_n (x := x1) dX8_support_4 rfl ?_
  refine r_cVr (As := [.int x1]) (rest := []) dX8_support_5 mv_X3_find ml_RX8_80 ⟨_, _, rfl⟩ (hE.1 3 (by decide)) ⟨Nat.le_of_ble_eq_true rfl, Nat.le_of_ble_eq_true rfl⟩ ⟨rfl, rfl⟩ rfl rfl (Nat.le_of_ble_eq_true rfl) h (fun o22 V21 h => ?_)
  refine r_astore_n dX8_support_8 (by decide) (rl_rf _) ?_
  refine r_aload_n (v := va_rf (Option.map (eA E 2) o22)) dX8_support_9 rfl (rl_rf _) ?_
  cases hot23 : o22 with
  | none =>
    have h := h.1 hot23
    refine r_ifnull (o := none) 25 dX8_support_10 (by decide) (fun _ => ?_) (fun a q => by cases q)
    refine r_iconst (v := (-1 : Int32)) dX8_support_25 (by decide) ?_
    exact r_iret dX8_support_26 rfl ⟨Nat.le_of_ble_eq_true rfl, Nat.le_of_ble_eq_true rfl⟩ ⟨rfl, _, rfl, h⟩
  | some t23 =>
    obtain ⟨hl_t23, h⟩ := h.2 t23 hot23
    refine r_ifnull (o := some (eA E 2 t23)) 25 dX8_support_10 (by decide) (fun q => by cases q) (fun _ _ => ?_)
    refine r_iload_n (x := x2) dX8_support_13 rfl ?_
    refine r_if_lt 25 dX8_support_14 (by decide) (fun q => ?_) (fun q => ?_)
    · have h := h.1 q
      refine r_iconst (v := (-1 : Int32)) dX8_support_25 (by decide) ?_
      exact r_iret dX8_support_26 rfl ⟨Nat.le_of_ble_eq_true rfl, Nat.le_of_ble_eq_true rfl⟩ ⟨rfl, _, rfl, h⟩
    · have h := h.2 q
      refine r_iload_n (x := x2) dX8_support_17 rfl ?_
      refine r_aload_n (v := .ref (eA E 2 t23)) dX8_support_18 rfl (rl_ref _) ?_
      refine r_get (v := .int (V21 308 t23 0)) dX8_support_19 fl_RX8_88 hl_t23 rfl ?_
      refine r_icmp_lt 27 dX8_support_22 (by decide) (fun q => ?_) (fun q => ?_)
      · have h := h.1 q
        refine r_bipush (v := (100 : Int32)) dX8_support_27 (by decide) ?_
        refine r_aload_n (v := .ref (eA E 2 t23)) dX8_support_29 rfl (rl_ref _) ?_
        refine r_get (v := .ref (eA E 305 t23)) dX8_support_30 fl_RX8_246 hl_t23 rfl ?_
        refine r_iload_n (x := x2) dX8_support_33 rfl ?_
        obtain ⟨hb, h⟩ := h
        refine r_iald dX8_support_34 rfl (by decide) hl_t23 (ix hE (by decide) rfl hb) ?_
        refine r_imul dX8_support_35 ?_
        refine r_aload_n (v := .ref (eA E 2 t23)) dX8_support_36 rfl (rl_ref _) ?_
        refine r_get (v := .ref (eA E 306 t23)) dX8_support_37 fl_RX8_249 hl_t23 rfl ?_
        refine r_iload_n (x := x2) dX8_support_40 rfl ?_
        obtain ⟨hb, h⟩ := h
        refine r_iald dX8_support_41 rfl (by decide) hl_t23 (ix hE (by decide) rfl hb) ?_
        refine r_iadd dX8_support_42 ?_
        exact r_iret dX8_support_43 rfl ⟨Nat.le_of_ble_eq_true rfl, Nat.le_of_ble_eq_true rfl⟩ ⟨rfl, _, rfl, h⟩
      · have h := h.2 q
        refine r_iconst (v := (-1 : Int32)) dX8_support_25 (by decide) ?_
        exact r_iret dX8_support_26 rfl ⟨Nat.le_of_ble_eq_true rfl, Nat.le_of_ble_eq_true rfl⟩ ⟨rfl, _, rfl, h⟩
abbrev rm_X8_left : Room := { frames := 1, cells := 0, slots := 0, locals := 21 }
def C_X8_left (l : Launch) (G : Gt) (E : Et) (V : Vt) (x1 : Int32) (x2 : Int32) (K : Int32 → Vt → Prop) : Prop := Cl l G yX8_left cX8_left 4 (some .int) rm_X8_left E V [.ref (eA E 8 0), .int x1, .int x2] (Qi E K)
def vc_X8_left (l : Launch) (G : Gt) (E : Et) (V : Vt) (x1 : Int32) (x2 : Int32) (K : Int32 → Vt → Prop) : Prop := (C_X8_findGift l G E V x1 (fun o22 V21 => ((o22 = none → K (-1 : Int32) V21) ∧ (∀ t23, o22 = some t23 → eL E 1 t23 ∧ ((x2 < (0 : Int32) → K (-1 : Int32) V21) ∧ (¬ x2 < (0 : Int32) → ((x2 ≤ (1 : Int32) → ((¬ x2 = (0 : Int32) → K (V21 200 t23 0) V21) ∧ (x2 = (0 : Int32) → K (V21 202 t23 0) V21))) ∧ (¬ x2 ≤ (1 : Int32) → K (-1 : Int32) V21))))))))
theorem ok_X8_left {l : Launch} {G : Gt} {E : Et} {V : Vt} {x1 : Int32} {x2 : Int32} {K : Int32 → Vt → Prop} (hE : Sg E)  (h : vc_X8_left l G E V x1 x2 K) : C_X8_left l G E V x1 x2 K := by
  unfold vc_X8_left at h
  refine Cl.of (by decide +kernel) (Nat.le_of_ble_eq_true rfl) (show Ev l G RX8 cX8_left 4 (some .int) rm_X8_left E 0 0 V 0 [(0, .ref (eA E 8 0)), (1, .int x1), (2, .int x2)] [] (Qi E K) from ?_)
  refine r_aload_n (v := .ref (eA E 8 0)) dX8_left_0 rfl (rl_ref _) ?_
  refine r_iload_n (x := x1) dX8_left_1 rfl ?_
  refine r_cVr (As := [.int x1]) (rest := []) dX8_left_2 mv_X8_findGift ml_RX8_211 ⟨_, _, rfl⟩ (hE.1 8 (by decide)) ⟨Nat.le_of_ble_eq_true rfl, Nat.le_of_ble_eq_true rfl⟩ ⟨rfl, rfl⟩ rfl rfl (Nat.le_of_ble_eq_true rfl) h (fun o22 V21 h => ?_)
  refine r_astore_n dX8_left_5 (by decide) (rl_rf _) ?_
  refine r_aload_n (v := va_rf (Option.map (eA E 1) o22)) dX8_left_6 rfl (rl_rf _) ?_
  cases hot23 : o22 with
  | none =>
    have h := h.1 hot23
    refine r_ifnull (o := none) 19 dX8_left_7 (by decide) (fun _ => ?_) (fun a q => by cases q)
    refine r_iconst (v := (-1 : Int32)) dX8_left_19 (by decide) ?_
    exact r_iret dX8_left_20 rfl ⟨Nat.le_of_ble_eq_true rfl, Nat.le_of_ble_eq_true rfl⟩ ⟨rfl, _, rfl, h⟩
  | some t23 =>
    obtain ⟨hl_t23, h⟩ := h.2 t23 hot23
    refine r_ifnull (o := some (eA E 1 t23)) 19 dX8_left_7 (by decide) (fun q => by cases q) (fun _ _ => ?_)
    refine r_iload_n (x := x2) dX8_left_10 rfl ?_
    refine r_if_lt 19 dX8_left_11 (by decide) (fun q => ?_) (fun q => ?_)
    · have h := h.1 q
      refine r_iconst (v := (-1 : Int32)) dX8_left_19 (by decide) ?_
      exact r_iret dX8_left_20 rfl ⟨Nat.le_of_ble_eq_true rfl, Nat.le_of_ble_eq_true rfl⟩ ⟨rfl, _, rfl, h⟩
    · have h := h.2 q
      refine r_iload_n (x := x2) dX8_left_14 rfl ?_
      refine r_iconst (v := (1 : Int32)) dX8_left_15 (by decide) ?_
      refine r_icmp_le 21 dX8_left_16 (by decide) (fun q => ?_) (fun q => ?_)
      · have h := h.1 q
        refine r_iload_n (x := x2) dX8_left_21 rfl ?_
        refine r_if_ne 32 dX8_left_22 (by decide) (fun q => ?_) (fun q => ?_)
        · have h := h.1 q
          refine r_aload_n (v := .ref (eA E 1 t23)) dX8_left_32 rfl (rl_ref _) ?_
          refine r_get (v := .int (V21 200 t23 0)) dX8_left_33 fl_RX8_255 hl_t23 rfl ?_
          exact r_iret dX8_left_36 rfl ⟨Nat.le_of_ble_eq_true rfl, Nat.le_of_ble_eq_true rfl⟩ ⟨rfl, _, rfl, h⟩
        · have h := h.2 q
          refine r_aload_n (v := .ref (eA E 1 t23)) dX8_left_25 rfl (rl_ref _) ?_
          refine r_get (v := .int (V21 202 t23 0)) dX8_left_26 fl_RX8_252 hl_t23 rfl ?_
          refine r_goto 36 dX8_left_29 (by decide) ?_
          exact r_iret dX8_left_36 rfl ⟨Nat.le_of_ble_eq_true rfl, Nat.le_of_ble_eq_true rfl⟩ ⟨rfl, _, rfl, h⟩
      · have h := h.2 q
        refine r_iconst (v := (-1 : Int32)) dX8_left_19 (by decide) ?_
        exact r_iret dX8_left_20 rfl ⟨Nat.le_of_ble_eq_true rfl, Nat.le_of_ble_eq_true rfl⟩ ⟨rfl, _, rfl, h⟩
abbrev rm_X8_as : Room := { frames := 1, cells := 0, slots := 0, locals := 23 }
def C_X8_as (l : Launch) (G : Gt) (E : Et) (V : Vt) (x1 : Int32) (x2 : Int32) (K : Int32 → Vt → Prop) : Prop := Cl l G yX8_as cX8_as 4 (some .int) rm_X8_as E V [.ref (eA E 8 0), .int x1, .int x2] (Qi E K)
def vc_X8_as (l : Launch) (G : Gt) (E : Et) (V : Vt) (x1 : Int32) (x2 : Int32) (K : Int32 → Vt → Prop) : Prop := (C_X3_find l G E V x1 (fun o22 V21 => ((o22 = none → K (-1 : Int32) V21) ∧ (∀ t23, o22 = some t23 → eL E 2 t23 ∧ ((x2 < (0 : Int32) → K (-1 : Int32) V21) ∧ (¬ x2 < (0 : Int32) → ((x2 ≤ (V21 101 0 0) → (C_X2_laidTill l G E V21 t23 x2 (fun x25 V24 => K x25 V24))) ∧ (¬ x2 ≤ (V21 101 0 0) → K (-1 : Int32) V21))))))))
theorem ok_X8_as {l : Launch} {G : Gt} {E : Et} {V : Vt} {x1 : Int32} {x2 : Int32} {K : Int32 → Vt → Prop} (hE : Sg E)  (h : vc_X8_as l G E V x1 x2 K) : C_X8_as l G E V x1 x2 K := by
  unfold vc_X8_as at h
  refine Cl.of (by decide +kernel) (Nat.le_of_ble_eq_true rfl) (show Ev l G RX8 cX8_as 4 (some .int) rm_X8_as E 0 0 V 0 [(0, .ref (eA E 8 0)), (1, .int x1), (2, .int x2)] [] (Qi E K) from ?_)
  refine r_aload_n (v := .ref (eA E 8 0)) dX8_as_0 rfl (rl_ref _) ?_
  refine r_get (v := .ref (eA E 3 0)) dX8_as_1 fl_RX8_10 (hE.1 8 (by decide)) rfl ?_
  refine r_iload_n (x := x1) dX8_as_4 rfl ?_
  refine r_cVr (As := [.int x1]) (rest := []) dX8_as_5 mv_X3_find ml_RX8_80 ⟨_, _, rfl⟩ (hE.1 3 (by decide)) ⟨Nat.le_of_ble_eq_true rfl, Nat.le_of_ble_eq_true rfl⟩ ⟨rfl, rfl⟩ rfl rfl (Nat.le_of_ble_eq_true rfl) h (fun o22 V21 h => ?_)
  refine r_astore_n dX8_as_8 (by decide) (rl_rf _) ?_
  refine r_aload_n (v := va_rf (Option.map (eA E 2) o22)) dX8_as_9 rfl (rl_rf _) ?_
  cases hot23 : o22 with
  | none =>
    have h := h.1 hot23
    refine r_ifnull (o := none) 28 dX8_as_10 (by decide) (fun _ => ?_) (fun a q => by cases q)
    refine r_iconst (v := (-1 : Int32)) dX8_as_28 (by decide) ?_
    exact r_iret dX8_as_29 rfl ⟨Nat.le_of_ble_eq_true rfl, Nat.le_of_ble_eq_true rfl⟩ ⟨rfl, _, rfl, h⟩
  | some t23 =>
    obtain ⟨hl_t23, h⟩ := h.2 t23 hot23
    refine r_ifnull (o := some (eA E 2 t23)) 28 dX8_as_10 (by decide) (fun q => by cases q) (fun _ _ => ?_)
    refine r_iload_n (x := x2) dX8_as_13 rfl ?_
    refine r_if_lt 28 dX8_as_14 (by decide) (fun q => ?_) (fun q => ?_)
    · have h := h.1 q
      refine r_iconst (v := (-1 : Int32)) dX8_as_28 (by decide) ?_
      exact r_iret dX8_as_29 rfl ⟨Nat.le_of_ble_eq_true rfl, Nat.le_of_ble_eq_true rfl⟩ ⟨rfl, _, rfl, h⟩
    · have h := h.2 q
      refine r_iload_n (x := x2) dX8_as_17 rfl ?_
      refine r_aload_n (v := .ref (eA E 8 0)) dX8_as_18 rfl (rl_ref _) ?_
      refine r_get (v := .ref (eA E 0 0)) dX8_as_19 fl_RX8_26 (hE.1 8 (by decide)) rfl ?_
      refine r_get (v := .int (V21 101 0 0)) dX8_as_22 fl_RX8_136 (hE.1 0 (by decide)) rfl ?_
      refine r_icmp_le 30 dX8_as_25 (by decide) (fun q => ?_) (fun q => ?_)
      · have h := h.1 q
        refine r_aload_n (v := .ref (eA E 2 t23)) dX8_as_30 rfl (rl_ref _) ?_
        refine r_iload_n (x := x2) dX8_as_31 rfl ?_
        refine r_cVi (As := [.int x2]) (rest := []) dX8_as_32 mv_X2_laidTill ml_RX8_271 ⟨_, _, rfl⟩ hl_t23 ⟨Nat.le_of_ble_eq_true rfl, Nat.le_of_ble_eq_true rfl⟩ ⟨rfl, rfl⟩ rfl rfl (Nat.le_of_ble_eq_true rfl) h (fun x25 V24 h => ?_)
        exact r_iret dX8_as_35 rfl ⟨Nat.le_of_ble_eq_true rfl, Nat.le_of_ble_eq_true rfl⟩ ⟨rfl, _, rfl, h⟩
      · have h := h.2 q
        refine r_iconst (v := (-1 : Int32)) dX8_as_28 (by decide) ?_
        exact r_iret dX8_as_29 rfl ⟨Nat.le_of_ble_eq_true rfl, Nat.le_of_ble_eq_true rfl⟩ ⟨rfl, _, rfl, h⟩
abbrev rm_X8_down : Room := { frames := 4, cells := 0, slots := 0, locals := 91 }
def C_X8_down (l : Launch) (G : Gt) (E : Et) (V : Vt) (x1 : Int32) (K : Int32 → Vt → Prop) : Prop := Cl l G yX8_down cX8_down 3 (some .int) rm_X8_down E V [.ref (eA E 8 0), .int x1] (Qi E K)
def vc_X8_down (l : Launch) (G : Gt) (E : Et) (V : Vt) (x1 : Int32) (K : Int32 → Vt → Prop) : Prop := (C_X3_find l G E V x1 (fun o22 V21 => ((o22 = none → K (-1 : Int32) V21) ∧ (∀ t23, o22 = some t23 → eL E 2 t23 ∧ (((V21 308 t23 0) = (0 : Int32) → K (-5 : Int32) V21) ∧ (¬ (V21 308 t23 0) = (0 : Int32) → (C_X2_isOnCentring l G E V21 t23 (fun x25 V24 => ((x25 = (0 : Int32) → (C_X8_loadOf l G E V24 x1 (fun x27 V26 => (C_X2_heaviestWay l G E V26 t23 x27 (fun x29 V28 => (vp_in x29 4) ∧ K (V28 305 t23 (x29).toNatClampNeg) V28))))) ∧ (¬ x25 = (0 : Int32) → K (-5 : Int32) V24))))))))))
theorem ok_X8_down {l : Launch} {G : Gt} {E : Et} {V : Vt} {x1 : Int32} {K : Int32 → Vt → Prop} (hE : Sg E)  (h : vc_X8_down l G E V x1 K) : C_X8_down l G E V x1 K := by
  unfold vc_X8_down at h
  refine Cl.of (by decide +kernel) (Nat.le_of_ble_eq_true rfl) (show Ev l G RX8 cX8_down 3 (some .int) rm_X8_down E 0 0 V 0 [(0, .ref (eA E 8 0)), (1, .int x1)] [] (Qi E K) from ?_)
  refine r_aload_n (v := .ref (eA E 8 0)) dX8_down_0 rfl (rl_ref _) ?_
  refine r_get (v := .ref (eA E 3 0)) dX8_down_1 fl_RX8_10 (hE.1 8 (by decide)) rfl ?_
  refine r_iload_n (x := x1) dX8_down_4 rfl ?_
  refine r_cVr (As := [.int x1]) (rest := []) dX8_down_5 mv_X3_find ml_RX8_80 ⟨_, _, rfl⟩ (hE.1 3 (by decide)) ⟨Nat.le_of_ble_eq_true rfl, Nat.le_of_ble_eq_true rfl⟩ ⟨rfl, rfl⟩ rfl rfl (Nat.le_of_ble_eq_true rfl) h (fun o22 V21 h => ?_)
  refine r_astore_n dX8_down_8 (by decide) (rl_rf _) ?_
  refine r_aload_n (v := va_rf (Option.map (eA E 2) o22)) dX8_down_9 rfl (rl_rf _) ?_
  cases hot23 : o22 with
  | none =>
    have h := h.1 hot23
    refine r_ifnonnull (o := none) 15 dX8_down_10 (by decide) (fun a q => by cases q) (fun _ => ?_)
    refine r_iconst (v := (-1 : Int32)) dX8_down_13 (by decide) ?_
    exact r_iret dX8_down_14 rfl ⟨Nat.le_of_ble_eq_true rfl, Nat.le_of_ble_eq_true rfl⟩ ⟨rfl, _, rfl, h⟩
  | some t23 =>
    obtain ⟨hl_t23, h⟩ := h.2 t23 hot23
    refine r_ifnonnull (o := some (eA E 2 t23)) 15 dX8_down_10 (by decide) (fun _ _ => ?_) (fun q => by cases q)
    refine r_aload_n (v := .ref (eA E 2 t23)) dX8_down_15 rfl (rl_ref _) ?_
    refine r_get (v := .int (V21 308 t23 0)) dX8_down_16 fl_RX8_88 hl_t23 rfl ?_
    refine r_if_eq 29 dX8_down_19 (by decide) (fun q => ?_) (fun q => ?_)
    · have h := h.1 q
      refine r_bipush (v := (-5 : Int32)) dX8_down_29 (by decide) ?_
      exact r_iret dX8_down_31 rfl ⟨Nat.le_of_ble_eq_true rfl, Nat.le_of_ble_eq_true rfl⟩ ⟨rfl, _, rfl, h⟩
    · have h := h.2 q
      refine r_aload_n (v := .ref (eA E 2 t23)) dX8_down_22 rfl (rl_ref _) ?_
      refine r_cVi (As := []) (rest := []) dX8_down_23 mv_X2_isOnCentring ml_RX8_152 ⟨_, _, rfl⟩ hl_t23 ⟨Nat.le_of_ble_eq_true rfl, Nat.le_of_ble_eq_true rfl⟩ ⟨rfl, rfl⟩ rfl rfl (Nat.le_of_ble_eq_true rfl) h (fun x25 V24 h => ?_)
      refine r_if_eq 32 dX8_down_26 (by decide) (fun q => ?_) (fun q => ?_)
      · have h := h.1 q
        refine r_aload_n (v := .ref (eA E 2 t23)) dX8_down_32 rfl (rl_ref _) ?_
        refine r_get (v := .ref (eA E 305 t23)) dX8_down_33 fl_RX8_246 hl_t23 rfl ?_
        refine r_aload_n (v := .ref (eA E 2 t23)) dX8_down_36 rfl (rl_ref _) ?_
        refine r_aload_n (v := .ref (eA E 8 0)) dX8_down_37 rfl (rl_ref _) ?_
        refine r_iload_n (x := x1) dX8_down_38 rfl ?_
        refine r_cVi (As := [.int x1]) (rest := [.ref (eA E 2 t23), .ref (eA E 305 t23)]) dX8_down_39 mv_X8_loadOf ml_RX8_226 ⟨_, _, rfl⟩ (hE.1 8 (by decide)) ⟨Nat.le_of_ble_eq_true rfl, Nat.le_of_ble_eq_true rfl⟩ ⟨rfl, rfl⟩ rfl rfl (Nat.le_of_ble_eq_true rfl) h (fun x27 V26 h => ?_)
        refine r_cVi (As := [.int x27]) (rest := [.ref (eA E 305 t23)]) dX8_down_42 mv_X2_heaviestWay ml_RX8_274 ⟨_, _, rfl⟩ hl_t23 ⟨Nat.le_of_ble_eq_true rfl, Nat.le_of_ble_eq_true rfl⟩ ⟨rfl, rfl⟩ rfl rfl (Nat.le_of_ble_eq_true rfl) h (fun x29 V28 h => ?_)
        obtain ⟨hb, h⟩ := h
        refine r_iald dX8_down_45 rfl (by decide) hl_t23 (ix hE (by decide) rfl hb) ?_
        exact r_iret dX8_down_46 rfl ⟨Nat.le_of_ble_eq_true rfl, Nat.le_of_ble_eq_true rfl⟩ ⟨rfl, _, rfl, h⟩
      · have h := h.2 q
        refine r_bipush (v := (-5 : Int32)) dX8_down_29 (by decide) ?_
        exact r_iret dX8_down_31 rfl ⟨Nat.le_of_ble_eq_true rfl, Nat.le_of_ble_eq_true rfl⟩ ⟨rfl, _, rfl, h⟩
abbrev rm_X8_needs : Room := { frames := 1, cells := 0, slots := 0, locals := 23 }
def C_X8_needs (l : Launch) (G : Gt) (E : Et) (V : Vt) (x1 : Int32) (K : Int32 → Vt → Prop) : Prop := Cl l G yX8_needs cX8_needs 5 (some .int) rm_X8_needs E V [.ref (eA E 8 0), .int x1] (Qi E K)
def A_X8_needs_32 (l : Launch) (G : Gt) (E : Et) (V : Vt) (x2 : Int32) (x3 : Int32) (K : Int32 → Vt → Prop) : Prop := Ev l G RX8 cX8_needs 5 (some .int) rm_X8_needs E 0 0 V 32 [(0, .ref (eA E 8 0)), (2, .int x2), (3, .int x3)] [] (Qi E K)
def vc_X8_needs (l : Launch) (G : Gt) (E : Et) (V : Vt) (x1 : Int32) (K : Int32 → Vt → Prop) : Prop := (C_X3_find l G E V x1 (fun o22 V21 => ((o22 = none → K (-1 : Int32) V21) ∧ (∀ t23, o22 = some t23 → eL E 2 t23 ∧ (C_J7_fill_53178 l G E V21 908 (0 : Int32) (fun V24 => (vp_in x1 40) ∧ A_X8_needs_32 l G E (up3 V24 908 0 (x1).toNatClampNeg (1 : Int32)) (0 : Int32) x1 K))))))
def vc_X8_needs_32 (l : Launch) (G : Gt) (E : Et) (V : Vt) (x2 : Int32) (x3 : Int32) (K : Int32 → Vt → Prop) : Prop := ((x3 < (0 : Int32) → K x2 V) ∧ (¬ x3 < (0 : Int32) → (C_X3_find l G E V x3 (fun o26 V25 => ((o26 = none → A_X8_needs_32 l G E V25 x2 (x3 + (-1 : Int32)) K) ∧ (∀ t27, o26 = some t27 → eL E 2 t27 ∧ (vp_in x3 40) ∧ ((¬ (V25 908 0 (x3).toNatClampNeg) = (1 : Int32) → A_X8_needs_32 l G E V25 x2 (x3 + (-1 : Int32)) K) ∧ ((V25 908 0 (x3).toNatClampNeg) = (1 : Int32) → (C_X2_markSupports l G E V25 t27 (fun V28 => A_X8_needs_32 l G E V28 (x2 + ((V25 309 t27 0) - (V25 310 t27 0))) (x3 + (-1 : Int32)) K))))))))))
theorem ok_X8_needs {l : Launch} {G : Gt} {E : Et} {V : Vt} {x1 : Int32} {K : Int32 → Vt → Prop} (hE : Sg E)  (h : vc_X8_needs l G E V x1 K) : C_X8_needs l G E V x1 K := by
  unfold vc_X8_needs at h
  refine Cl.of (by decide +kernel) (Nat.le_of_ble_eq_true rfl) (show Ev l G RX8 cX8_needs 5 (some .int) rm_X8_needs E 0 0 V 0 [(0, .ref (eA E 8 0)), (1, .int x1)] [] (Qi E K) from ?_)
  refine r_aload_n (v := .ref (eA E 8 0)) dX8_needs_0 rfl (rl_ref _) ?_
  refine r_get (v := .ref (eA E 3 0)) dX8_needs_1 fl_RX8_10 (hE.1 8 (by decide)) rfl ?_
  refine r_iload_n (x := x1) dX8_needs_4 rfl ?_
  refine r_cVr (As := [.int x1]) (rest := []) dX8_needs_5 mv_X3_find ml_RX8_80 ⟨_, _, rfl⟩ (hE.1 3 (by decide)) ⟨Nat.le_of_ble_eq_true rfl, Nat.le_of_ble_eq_true rfl⟩ ⟨rfl, rfl⟩ rfl rfl (Nat.le_of_ble_eq_true rfl) h (fun o22 V21 h => ?_)
  cases hot23 : o22 with
  | none =>
    have h := h.1 hot23
    refine r_ifnonnull (o := none) 13 dX8_needs_8 (by decide) (fun a q => by cases q) (fun _ => ?_)
    refine r_iconst (v := (-1 : Int32)) dX8_needs_11 (by decide) ?_
    exact r_iret dX8_needs_12 rfl ⟨Nat.le_of_ble_eq_true rfl, Nat.le_of_ble_eq_true rfl⟩ ⟨rfl, _, rfl, h⟩
  | some t23 =>
    obtain ⟨hl_t23, h⟩ := h.2 t23 hot23
    refine r_ifnonnull (o := some (eA E 2 t23)) 13 dX8_needs_8 (by decide) (fun _ _ => ?_) (fun q => by cases q)
    refine r_aload_n (v := .ref (eA E 8 0)) dX8_needs_13 rfl (rl_ref _) ?_
    refine r_get (v := .ref (eA E 908 0)) dX8_needs_14 fl_RX8_60 (hE.1 8 (by decide)) rfl ?_
    refine r_iconst (v := (0 : Int32)) dX8_needs_17 (by decide) ?_
    refine r_cSv (As := [.ref (eA E 908 0), .int (0 : Int32)]) (rest := []) dX8_needs_18 ms_J7_fill_53178 ml_RX8_277 ⟨Nat.le_of_ble_eq_true rfl, Nat.le_of_ble_eq_true rfl⟩ ⟨rfl, rfl⟩ rfl rfl (Nat.le_of_ble_eq_true rfl) h (fun V24 h => ?_)
    refine r_aload_n (v := .ref (eA E 8 0)) dX8_needs_21 rfl (rl_ref _) ?_
    refine r_get (v := .ref (eA E 908 0)) dX8_needs_22 fl_RX8_60 (hE.1 8 (by decide)) rfl ?_
    refine r_iload_n (x := x1) dX8_needs_25 rfl ?_
    refine r_iconst (v := (1 : Int32)) dX8_needs_26 (by decide) ?_
    obtain ⟨hb, h⟩ := h
    refine r_iast dX8_needs_27 rfl (by decide) (hE.1 8 (by decide)) (ix hE (by decide) rfl hb) ?_
    refine r_iconst (v := (0 : Int32)) dX8_needs_28 (by decide) ?_
    refine r_istore_n dX8_needs_29 (by decide) ?_
    refine r_iload_n (x := x1) dX8_needs_30 rfl ?_
    refine r_istore_n dX8_needs_31 (by decide) ?_
    exact Ev.loc [0, 2, 3] rfl h
theorem ok_X8_needs_32 {l : Launch} {G : Gt} {E : Et} {V : Vt} {x2 : Int32} {x3 : Int32} {K : Int32 → Vt → Prop} (hE : Sg E)  (h : vc_X8_needs_32 l G E V x2 x3 K) : A_X8_needs_32 l G E V x2 x3 K := by
  unfold vc_X8_needs_32 at h
  unfold A_X8_needs_32
  refine r_iload_n (x := x3) dX8_needs_32 rfl ?_
  refine r_if_lt 90 dX8_needs_33 (by decide) (fun q => ?_) (fun q => ?_)
  · have h := h.1 q
    refine r_iload_n (x := x2) dX8_needs_90 rfl ?_
    exact r_iret dX8_needs_91 rfl ⟨Nat.le_of_ble_eq_true rfl, Nat.le_of_ble_eq_true rfl⟩ ⟨rfl, _, rfl, h⟩
  · have h := h.2 q
    refine r_aload_n (v := .ref (eA E 8 0)) dX8_needs_36 rfl (rl_ref _) ?_
    refine r_get (v := .ref (eA E 3 0)) dX8_needs_37 fl_RX8_10 (hE.1 8 (by decide)) rfl ?_
    refine r_iload_n (x := x3) dX8_needs_40 rfl ?_
    refine r_cVr (As := [.int x3]) (rest := []) dX8_needs_41 mv_X3_find ml_RX8_80 ⟨_, _, rfl⟩ (hE.1 3 (by decide)) ⟨Nat.le_of_ble_eq_true rfl, Nat.le_of_ble_eq_true rfl⟩ ⟨rfl, rfl⟩ rfl rfl (Nat.le_of_ble_eq_true rfl) h (fun o26 V25 h => ?_)
    refine r_astore dX8_needs_44 (by decide) (rl_rf _) ?_
    refine r_aload (v := va_rf (Option.map (eA E 2) o26)) dX8_needs_46 rfl (rl_rf _) ?_
    cases hot27 : o26 with
    | none =>
      have h := h.1 hot27
      refine r_ifnull (o := none) 84 dX8_needs_48 (by decide) (fun _ => ?_) (fun a q => by cases q)
      refine r_iinc (x := x3) (v := (-1 : Int32)) dX8_needs_84 rfl (by decide) (by decide) ?_
      refine r_goto 32 dX8_needs_87 (by decide) ?_
      exact Ev.loc [0, 1, 2] rfl h
    | some t27 =>
      obtain ⟨hl_t27, h⟩ := h.2 t27 hot27
      refine r_ifnull (o := some (eA E 2 t27)) 84 dX8_needs_48 (by decide) (fun q => by cases q) (fun _ _ => ?_)
      refine r_aload_n (v := .ref (eA E 8 0)) dX8_needs_51 rfl (rl_ref _) ?_
      refine r_get (v := .ref (eA E 908 0)) dX8_needs_52 fl_RX8_60 (hE.1 8 (by decide)) rfl ?_
      refine r_iload_n (x := x3) dX8_needs_55 rfl ?_
      obtain ⟨hb, h⟩ := h
      refine r_iald dX8_needs_56 rfl (by decide) (hE.1 8 (by decide)) (ix hE (by decide) rfl hb) ?_
      refine r_iconst (v := (1 : Int32)) dX8_needs_57 (by decide) ?_
      refine r_icmp_ne 84 dX8_needs_58 (by decide) (fun q => ?_) (fun q => ?_)
      · have h := h.1 q
        refine r_iinc (x := x3) (v := (-1 : Int32)) dX8_needs_84 rfl (by decide) (by decide) ?_
        refine r_goto 32 dX8_needs_87 (by decide) ?_
        exact Ev.loc [0, 1, 2] rfl h
      · have h := h.2 q
        refine r_iload_n (x := x2) dX8_needs_61 rfl ?_
        refine r_aload (v := .ref (eA E 2 t27)) dX8_needs_62 rfl (rl_ref _) ?_
        refine r_get (v := .int (V25 309 t27 0)) dX8_needs_64 fl_RX8_109 hl_t27 rfl ?_
        refine r_aload (v := .ref (eA E 2 t27)) dX8_needs_67 rfl (rl_ref _) ?_
        refine r_get (v := .int (V25 310 t27 0)) dX8_needs_69 fl_RX8_146 hl_t27 rfl ?_
        refine r_isub dX8_needs_72 ?_
        refine r_iadd dX8_needs_73 ?_
        refine r_istore_n dX8_needs_74 (by decide) ?_
        refine r_aload (v := .ref (eA E 2 t27)) dX8_needs_75 rfl (rl_ref _) ?_
        refine r_aload_n (v := .ref (eA E 8 0)) dX8_needs_77 rfl (rl_ref _) ?_
        refine r_get (v := .ref (eA E 908 0)) dX8_needs_78 fl_RX8_60 (hE.1 8 (by decide)) rfl ?_
        refine r_cVv (As := [.ref (eA E 908 0)]) (rest := []) dX8_needs_81 mv_X2_markSupports ml_RX8_283 ⟨_, _, rfl⟩ hl_t27 ⟨Nat.le_of_ble_eq_true rfl, Nat.le_of_ble_eq_true rfl⟩ ⟨rfl, rfl⟩ rfl rfl (Nat.le_of_ble_eq_true rfl) h (fun V28 h => ?_)
        refine r_iinc (x := x3) (v := (-1 : Int32)) dX8_needs_84 rfl (by decide) (by decide) ?_
        refine r_goto 32 dX8_needs_87 (by decide) ?_
        exact Ev.loc [0, 1, 2] rfl h
abbrev rm_X8_coinsRemaining : Room := { frames := 1, cells := 0, slots := 0, locals := 21 }
def C_X8_coinsRemaining (l : Launch) (G : Gt) (E : Et) (V : Vt)  (K : Int32 → Vt → Prop) : Prop := Cl l G yX8_coinsRemaining cX8_coinsRemaining 4 (some .int) rm_X8_coinsRemaining E V [.ref (eA E 8 0)] (Qi E K)
def A_X8_coinsRemaining_4 (l : Launch) (G : Gt) (E : Et) (V : Vt) (x1 : Int32) (x2 : Int32) (K : Int32 → Vt → Prop) : Prop := Ev l G RX8 cX8_coinsRemaining 4 (some .int) rm_X8_coinsRemaining E 0 0 V 4 [(0, .ref (eA E 8 0)), (1, .int x1), (2, .int x2)] [] (Qi E K)
def vc_X8_coinsRemaining (l : Launch) (G : Gt) (E : Et) (V : Vt)  (K : Int32 → Vt → Prop) : Prop := A_X8_coinsRemaining_4 l G E V (0 : Int32) (0 : Int32) K
def vc_X8_coinsRemaining_4 (l : Launch) (G : Gt) (E : Et) (V : Vt) (x1 : Int32) (x2 : Int32) (K : Int32 → Vt → Prop) : Prop := (((V 909 0 0) ≤ x2 → K x1 V) ∧ (¬ (V 909 0 0) ≤ x2 → (C_X8_findGift l G E V x2 (fun o22 V21 => ((o22 = none → A_X8_coinsRemaining_4 l G E V21 x1 (x2 + (1 : Int32)) K) ∧ (∀ t23, o22 = some t23 → eL E 1 t23 ∧ A_X8_coinsRemaining_4 l G E V21 (x1 + (V21 202 t23 0)) (x2 + (1 : Int32)) K))))))
theorem ok_X8_coinsRemaining {l : Launch} {G : Gt} {E : Et} {V : Vt}  {K : Int32 → Vt → Prop} (hE : Sg E)  (h : vc_X8_coinsRemaining l G E V  K) : C_X8_coinsRemaining l G E V  K := by
  unfold vc_X8_coinsRemaining at h
  refine Cl.of (by decide +kernel) (Nat.le_of_ble_eq_true rfl) (show Ev l G RX8 cX8_coinsRemaining 4 (some .int) rm_X8_coinsRemaining E 0 0 V 0 [(0, .ref (eA E 8 0))] [] (Qi E K) from ?_)
  refine r_iconst (v := (0 : Int32)) dX8_coinsRemaining_0 (by decide) ?_
  refine r_istore_n dX8_coinsRemaining_1 (by decide) ?_
  refine r_iconst (v := (0 : Int32)) dX8_coinsRemaining_2 (by decide) ?_
  refine r_istore_n dX8_coinsRemaining_3 (by decide) ?_
  exact Ev.loc [0, 1, 2] rfl h
theorem ok_X8_coinsRemaining_4 {l : Launch} {G : Gt} {E : Et} {V : Vt} {x1 : Int32} {x2 : Int32} {K : Int32 → Vt → Prop} (hE : Sg E)  (h : vc_X8_coinsRemaining_4 l G E V x1 x2 K) : A_X8_coinsRemaining_4 l G E V x1 x2 K := by
  unfold vc_X8_coinsRemaining_4 at h
  unfold A_X8_coinsRemaining_4
  refine r_iload_n (x := x2) dX8_coinsRemaining_4 rfl ?_
  refine r_aload_n (v := .ref (eA E 8 0)) dX8_coinsRemaining_5 rfl (rl_ref _) ?_
  refine r_get (v := .int (V 909 0 0)) dX8_coinsRemaining_6 fl_RX8_194 (hE.1 8 (by decide)) rfl ?_
  refine r_icmp_ge 35 dX8_coinsRemaining_9 (by decide) (fun q => ?_) (fun q => ?_)
  · have h := h.1 q
    refine r_iload_n (x := x1) dX8_coinsRemaining_35 rfl ?_
    exact r_iret dX8_coinsRemaining_36 rfl ⟨Nat.le_of_ble_eq_true rfl, Nat.le_of_ble_eq_true rfl⟩ ⟨rfl, _, rfl, h⟩
  · have h := h.2 q
    refine r_aload_n (v := .ref (eA E 8 0)) dX8_coinsRemaining_12 rfl (rl_ref _) ?_
    refine r_iload_n (x := x2) dX8_coinsRemaining_13 rfl ?_
    refine r_cVr (As := [.int x2]) (rest := []) dX8_coinsRemaining_14 mv_X8_findGift ml_RX8_211 ⟨_, _, rfl⟩ (hE.1 8 (by decide)) ⟨Nat.le_of_ble_eq_true rfl, Nat.le_of_ble_eq_true rfl⟩ ⟨rfl, rfl⟩ rfl rfl (Nat.le_of_ble_eq_true rfl) h (fun o22 V21 h => ?_)
    refine r_astore_n dX8_coinsRemaining_17 (by decide) (rl_rf _) ?_
    refine r_aload_n (v := va_rf (Option.map (eA E 1) o22)) dX8_coinsRemaining_18 rfl (rl_rf _) ?_
    cases hot23 : o22 with
    | none =>
      have h := h.1 hot23
      refine r_ifnull (o := none) 29 dX8_coinsRemaining_19 (by decide) (fun _ => ?_) (fun a q => by cases q)
      refine r_iinc (x := x2) (v := (1 : Int32)) dX8_coinsRemaining_29 rfl (by decide) (by decide) ?_
      refine r_goto 4 dX8_coinsRemaining_32 (by decide) ?_
      exact Ev.loc [0, 1, 2] rfl h
    | some t23 =>
      obtain ⟨hl_t23, h⟩ := h.2 t23 hot23
      refine r_ifnull (o := some (eA E 1 t23)) 29 dX8_coinsRemaining_19 (by decide) (fun q => by cases q) (fun _ _ => ?_)
      refine r_iload_n (x := x1) dX8_coinsRemaining_22 rfl ?_
      refine r_aload_n (v := .ref (eA E 1 t23)) dX8_coinsRemaining_23 rfl (rl_ref _) ?_
      refine r_get (v := .int (V21 202 t23 0)) dX8_coinsRemaining_24 fl_RX8_252 hl_t23 rfl ?_
      refine r_iadd dX8_coinsRemaining_27 ?_
      refine r_istore_n dX8_coinsRemaining_28 (by decide) ?_
      refine r_iinc (x := x2) (v := (1 : Int32)) dX8_coinsRemaining_29 rfl (by decide) (by decide) ?_
      refine r_goto 4 dX8_coinsRemaining_32 (by decide) ?_
      exact Ev.loc [0, 1, 2] rfl h
abbrev rm_X8_count : Room := { frames := 2, cells := 0, slots := 0, locals := 44 }
def C_X8_count (l : Launch) (G : Gt) (E : Et) (V : Vt) (x1 : Int32) (K : Int32 → Vt → Prop) : Prop := Cl l G yX8_count cX8_count 2 (some .int) rm_X8_count E V [.ref (eA E 8 0), .int x1] (Qi E K)
def vc_X8_count (l : Launch) (G : Gt) (E : Et) (V : Vt) (x1 : Int32) (K : Int32 → Vt → Prop) : Prop := ((x1 = (0 : Int32) → K (V 405 0 0) V) ∧ (x1 = (1 : Int32) → K (V 909 0 0) V) ∧ (x1 = (2 : Int32) → K (V 101 0 0) V) ∧ (x1 = (3 : Int32) → K (V 406 0 0) V) ∧ (x1 = (4 : Int32) → K (V 911 0 0) V) ∧ (x1 = (5 : Int32) → (C_X3_countLaid l G E V (fun x22 V21 => K x22 V21))) ∧ (x1 = (6 : Int32) → (C_X8_coinsRemaining l G E V (fun x24 V23 => K x24 V23))) ∧ (x1 = (7 : Int32) → K (V 912 0 0) V) ∧ (x1 = (8 : Int32) → K (V 910 0 0) V) ∧ (x1 = (9 : Int32) → K (V 703 0 0) V) ∧ (¬ x1 = (0 : Int32) ∧ ¬ x1 = (1 : Int32) ∧ ¬ x1 = (2 : Int32) ∧ ¬ x1 = (3 : Int32) ∧ ¬ x1 = (4 : Int32) ∧ ¬ x1 = (5 : Int32) ∧ ¬ x1 = (6 : Int32) ∧ ¬ x1 = (7 : Int32) ∧ ¬ x1 = (8 : Int32) ∧ ¬ x1 = (9 : Int32) → K (-1 : Int32) V))
theorem ok_X8_count {l : Launch} {G : Gt} {E : Et} {V : Vt} {x1 : Int32} {K : Int32 → Vt → Prop} (hE : Sg E)  (h : vc_X8_count l G E V x1 K) : C_X8_count l G E V x1 K := by
  unfold vc_X8_count at h
  refine Cl.of (by decide +kernel) (Nat.le_of_ble_eq_true rfl) (show Ev l G RX8 cX8_count 2 (some .int) rm_X8_count E 0 0 V 0 [(0, .ref (eA E 8 0)), (1, .int x1)] [] (Qi E K) from ?_)
  refine r_iload_n (x := x1) dX8_count_0 rfl ?_
  by_cases q0 : x1 = (0 : Int32)
  · have h := h.1 q0
    refine r_tIn (xv := (0 : Int32)) 56 dX8_count_1 q0 (by decide) (by decide) rfl (by decide) ?_
    refine r_aload_n (v := .ref (eA E 8 0)) dX8_count_56 rfl (rl_ref _) ?_
    refine r_get (v := .ref (eA E 3 0)) dX8_count_57 fl_RX8_10 (hE.1 8 (by decide)) rfl ?_
    refine r_get (v := .int (V 405 0 0)) dX8_count_60 fl_RX8_67 (hE.1 3 (by decide)) rfl ?_
    exact r_iret dX8_count_63 rfl ⟨Nat.le_of_ble_eq_true rfl, Nat.le_of_ble_eq_true rfl⟩ ⟨rfl, _, rfl, h⟩
  by_cases q1 : x1 = (1 : Int32)
  · have h := h.2.1 q1
    refine r_tIn (xv := (1 : Int32)) 64 dX8_count_1 q1 (by decide) (by decide) rfl (by decide) ?_
    refine r_aload_n (v := .ref (eA E 8 0)) dX8_count_64 rfl (rl_ref _) ?_
    refine r_get (v := .int (V 909 0 0)) dX8_count_65 fl_RX8_194 (hE.1 8 (by decide)) rfl ?_
    exact r_iret dX8_count_68 rfl ⟨Nat.le_of_ble_eq_true rfl, Nat.le_of_ble_eq_true rfl⟩ ⟨rfl, _, rfl, h⟩
  by_cases q2 : x1 = (2 : Int32)
  · have h := h.2.2.1 q2
    refine r_tIn (xv := (2 : Int32)) 69 dX8_count_1 q2 (by decide) (by decide) rfl (by decide) ?_
    refine r_aload_n (v := .ref (eA E 8 0)) dX8_count_69 rfl (rl_ref _) ?_
    refine r_get (v := .ref (eA E 0 0)) dX8_count_70 fl_RX8_26 (hE.1 8 (by decide)) rfl ?_
    refine r_get (v := .int (V 101 0 0)) dX8_count_73 fl_RX8_136 (hE.1 0 (by decide)) rfl ?_
    exact r_iret dX8_count_76 rfl ⟨Nat.le_of_ble_eq_true rfl, Nat.le_of_ble_eq_true rfl⟩ ⟨rfl, _, rfl, h⟩
  by_cases q3 : x1 = (3 : Int32)
  · have h := h.2.2.2.1 q3
    refine r_tIn (xv := (3 : Int32)) 77 dX8_count_1 q3 (by decide) (by decide) rfl (by decide) ?_
    refine r_aload_n (v := .ref (eA E 8 0)) dX8_count_77 rfl (rl_ref _) ?_
    refine r_get (v := .ref (eA E 3 0)) dX8_count_78 fl_RX8_10 (hE.1 8 (by decide)) rfl ?_
    refine r_get (v := .int (V 406 0 0)) dX8_count_81 fl_RX8_102 (hE.1 3 (by decide)) rfl ?_
    exact r_iret dX8_count_84 rfl ⟨Nat.le_of_ble_eq_true rfl, Nat.le_of_ble_eq_true rfl⟩ ⟨rfl, _, rfl, h⟩
  by_cases q4 : x1 = (4 : Int32)
  · have h := h.2.2.2.2.1 q4
    refine r_tIn (xv := (4 : Int32)) 85 dX8_count_1 q4 (by decide) (by decide) rfl (by decide) ?_
    refine r_aload_n (v := .ref (eA E 8 0)) dX8_count_85 rfl (rl_ref _) ?_
    refine r_get (v := .int (V 911 0 0)) dX8_count_86 fl_RX8_143 (hE.1 8 (by decide)) rfl ?_
    exact r_iret dX8_count_89 rfl ⟨Nat.le_of_ble_eq_true rfl, Nat.le_of_ble_eq_true rfl⟩ ⟨rfl, _, rfl, h⟩
  by_cases q5 : x1 = (5 : Int32)
  · have h := h.2.2.2.2.2.1 q5
    refine r_tIn (xv := (5 : Int32)) 90 dX8_count_1 q5 (by decide) (by decide) rfl (by decide) ?_
    refine r_aload_n (v := .ref (eA E 8 0)) dX8_count_90 rfl (rl_ref _) ?_
    refine r_get (v := .ref (eA E 3 0)) dX8_count_91 fl_RX8_10 (hE.1 8 (by decide)) rfl ?_
    refine r_cVi (As := []) (rest := []) dX8_count_94 mv_X3_countLaid ml_RX8_287 ⟨_, _, rfl⟩ (hE.1 3 (by decide)) ⟨Nat.le_of_ble_eq_true rfl, Nat.le_of_ble_eq_true rfl⟩ ⟨rfl, rfl⟩ rfl rfl (Nat.le_of_ble_eq_true rfl) h (fun x22 V21 h => ?_)
    exact r_iret dX8_count_97 rfl ⟨Nat.le_of_ble_eq_true rfl, Nat.le_of_ble_eq_true rfl⟩ ⟨rfl, _, rfl, h⟩
  by_cases q6 : x1 = (6 : Int32)
  · have h := h.2.2.2.2.2.2.1 q6
    refine r_tIn (xv := (6 : Int32)) 98 dX8_count_1 q6 (by decide) (by decide) rfl (by decide) ?_
    refine r_aload_n (v := .ref (eA E 8 0)) dX8_count_98 rfl (rl_ref _) ?_
    refine r_cVi (As := []) (rest := []) dX8_count_99 mv_X8_coinsRemaining ml_RX8_290 ⟨_, _, rfl⟩ (hE.1 8 (by decide)) ⟨Nat.le_of_ble_eq_true rfl, Nat.le_of_ble_eq_true rfl⟩ ⟨rfl, rfl⟩ rfl rfl (Nat.le_of_ble_eq_true rfl) h (fun x24 V23 h => ?_)
    exact r_iret dX8_count_102 rfl ⟨Nat.le_of_ble_eq_true rfl, Nat.le_of_ble_eq_true rfl⟩ ⟨rfl, _, rfl, h⟩
  by_cases q7 : x1 = (7 : Int32)
  · have h := h.2.2.2.2.2.2.2.1 q7
    refine r_tIn (xv := (7 : Int32)) 103 dX8_count_1 q7 (by decide) (by decide) rfl (by decide) ?_
    refine r_aload_n (v := .ref (eA E 8 0)) dX8_count_103 rfl (rl_ref _) ?_
    refine r_get (v := .int (V 912 0 0)) dX8_count_104 fl_RX8_293 (hE.1 8 (by decide)) rfl ?_
    exact r_iret dX8_count_107 rfl ⟨Nat.le_of_ble_eq_true rfl, Nat.le_of_ble_eq_true rfl⟩ ⟨rfl, _, rfl, h⟩
  by_cases q8 : x1 = (8 : Int32)
  · have h := h.2.2.2.2.2.2.2.2.1 q8
    refine r_tIn (xv := (8 : Int32)) 108 dX8_count_1 q8 (by decide) (by decide) rfl (by decide) ?_
    refine r_aload_n (v := .ref (eA E 8 0)) dX8_count_108 rfl (rl_ref _) ?_
    refine r_get (v := .int (V 910 0 0)) dX8_count_109 fl_RX8_208 (hE.1 8 (by decide)) rfl ?_
    exact r_iret dX8_count_112 rfl ⟨Nat.le_of_ble_eq_true rfl, Nat.le_of_ble_eq_true rfl⟩ ⟨rfl, _, rfl, h⟩
  by_cases q9 : x1 = (9 : Int32)
  · have h := h.2.2.2.2.2.2.2.2.2.1 q9
    refine r_tIn (xv := (9 : Int32)) 113 dX8_count_1 q9 (by decide) (by decide) rfl (by decide) ?_
    refine r_aload_n (v := .ref (eA E 8 0)) dX8_count_113 rfl (rl_ref _) ?_
    refine r_get (v := .ref (eA E 6 0)) dX8_count_114 fl_RX8_33 (hE.1 8 (by decide)) rfl ?_
    refine r_get (v := .int (V 703 0 0)) dX8_count_117 fl_RX8_186 (hE.1 6 (by decide)) rfl ?_
    exact r_iret dX8_count_120 rfl ⟨Nat.le_of_ble_eq_true rfl, Nat.le_of_ble_eq_true rfl⟩ ⟨rfl, _, rfl, h⟩
  · have h := h.2.2.2.2.2.2.2.2.2.2 ⟨q0, q1, q2, q3, q4, q5, q6, q7, q8, q9⟩
    refine r_tOut 121 dX8_count_1 (by have a0 := lv_neT q0 (a := 0) rfl; have a1 := lv_neT q1 (a := 1) rfl; have a2 := lv_neT q2 (a := 2) rfl; have a3 := lv_neT q3 (a := 3) rfl; have a4 := lv_neT q4 (a := 4) rfl; have a5 := lv_neT q5 (a := 5) rfl; have a6 := lv_neT q6 (a := 6) rfl; have a7 := lv_neT q7 (a := 7) rfl; have a8 := lv_neT q8 (a := 8) rfl; have a9 := lv_neT q9 (a := 9) rfl; omega) (by decide) ?_
    refine r_iconst (v := (-1 : Int32)) dX8_count_121 (by decide) ?_
    exact r_iret dX8_count_122 rfl ⟨Nat.le_of_ble_eq_true rfl, Nat.le_of_ble_eq_true rfl⟩ ⟨rfl, _, rfl, h⟩
abbrev rm_X8_isMeasure : Room := { frames := 0, cells := 0, slots := 0, locals := 0 }
def C_X8_isMeasure (l : Launch) (G : Gt) (E : Et) (V : Vt) (x1 : Int32) (x2 : Int32) (x3 : Int32) (K : Int32 → Vt → Prop) : Prop := Cl l G yX8_isMeasure cX8_isMeasure 3 (some .boolean) rm_X8_isMeasure E V [.int x1, .int x2, .int x3] (Qi E K)
def vc_X8_isMeasure (l : Launch) (G : Gt) (E : Et) (V : Vt) (x1 : Int32) (x2 : Int32) (x3 : Int32) (K : Int32 → Vt → Prop) : Prop := ((x1 < (1 : Int32) → K (0 : Int32) V) ∧ (¬ x1 < (1 : Int32) → (((30 : Int32) < x1 → K (0 : Int32) V) ∧ (¬ (30 : Int32) < x1 → ((x2 < (1 : Int32) → K (0 : Int32) V) ∧ (¬ x2 < (1 : Int32) → (((999 : Int32) < x2 → K (0 : Int32) V) ∧ (¬ (999 : Int32) < x2 → ((x3 < (0 : Int32) → K (0 : Int32) V) ∧ (¬ x3 < (0 : Int32) → (((999 : Int32) < x3 → K (0 : Int32) V) ∧ (¬ (999 : Int32) < x3 → K (1 : Int32) V))))))))))))
theorem ok_X8_isMeasure {l : Launch} {G : Gt} {E : Et} {V : Vt} {x1 : Int32} {x2 : Int32} {x3 : Int32} {K : Int32 → Vt → Prop} (hE : Sg E)  (h : vc_X8_isMeasure l G E V x1 x2 x3 K) : C_X8_isMeasure l G E V x1 x2 x3 K := by
  unfold vc_X8_isMeasure at h
  refine Cl.of (by decide +kernel) (Nat.le_of_ble_eq_true rfl) (show Ev l G RX8 cX8_isMeasure 3 (some .boolean) rm_X8_isMeasure E 0 0 V 0 [(0, .int x1), (1, .int x2), (2, .int x3)] [] (Qi E K) from ?_)
  refine r_iload_n (x := x1) dX8_isMeasure_0 rfl ?_
  refine r_iconst (v := (1 : Int32)) dX8_isMeasure_1 (by decide) ?_
  refine r_icmp_lt 38 dX8_isMeasure_2 (by decide) (fun q => ?_) (fun q => ?_)
  · have h := h.1 q
    refine r_iconst (v := (0 : Int32)) dX8_isMeasure_38 (by decide) ?_
    exact r_zret dX8_isMeasure_39 rfl rfl ⟨Nat.le_of_ble_eq_true rfl, Nat.le_of_ble_eq_true rfl⟩ ⟨rfl, _, rfl, h⟩
  · have h := h.2 q
    refine r_iload_n (x := x1) dX8_isMeasure_5 rfl ?_
    refine r_bipush (v := (30 : Int32)) dX8_isMeasure_6 (by decide) ?_
    refine r_icmp_gt 38 dX8_isMeasure_8 (by decide) (fun q => ?_) (fun q => ?_)
    · have h := h.1 q
      refine r_iconst (v := (0 : Int32)) dX8_isMeasure_38 (by decide) ?_
      exact r_zret dX8_isMeasure_39 rfl rfl ⟨Nat.le_of_ble_eq_true rfl, Nat.le_of_ble_eq_true rfl⟩ ⟨rfl, _, rfl, h⟩
    · have h := h.2 q
      refine r_iload_n (x := x2) dX8_isMeasure_11 rfl ?_
      refine r_iconst (v := (1 : Int32)) dX8_isMeasure_12 (by decide) ?_
      refine r_icmp_lt 38 dX8_isMeasure_13 (by decide) (fun q => ?_) (fun q => ?_)
      · have h := h.1 q
        refine r_iconst (v := (0 : Int32)) dX8_isMeasure_38 (by decide) ?_
        exact r_zret dX8_isMeasure_39 rfl rfl ⟨Nat.le_of_ble_eq_true rfl, Nat.le_of_ble_eq_true rfl⟩ ⟨rfl, _, rfl, h⟩
      · have h := h.2 q
        refine r_iload_n (x := x2) dX8_isMeasure_16 rfl ?_
        refine r_sipush (v := (999 : Int32)) dX8_isMeasure_17 (by decide) ?_
        refine r_icmp_gt 38 dX8_isMeasure_20 (by decide) (fun q => ?_) (fun q => ?_)
        · have h := h.1 q
          refine r_iconst (v := (0 : Int32)) dX8_isMeasure_38 (by decide) ?_
          exact r_zret dX8_isMeasure_39 rfl rfl ⟨Nat.le_of_ble_eq_true rfl, Nat.le_of_ble_eq_true rfl⟩ ⟨rfl, _, rfl, h⟩
        · have h := h.2 q
          refine r_iload_n (x := x3) dX8_isMeasure_23 rfl ?_
          refine r_if_lt 38 dX8_isMeasure_24 (by decide) (fun q => ?_) (fun q => ?_)
          · have h := h.1 q
            refine r_iconst (v := (0 : Int32)) dX8_isMeasure_38 (by decide) ?_
            exact r_zret dX8_isMeasure_39 rfl rfl ⟨Nat.le_of_ble_eq_true rfl, Nat.le_of_ble_eq_true rfl⟩ ⟨rfl, _, rfl, h⟩
          · have h := h.2 q
            refine r_iload_n (x := x3) dX8_isMeasure_27 rfl ?_
            refine r_sipush (v := (999 : Int32)) dX8_isMeasure_28 (by decide) ?_
            refine r_icmp_gt 38 dX8_isMeasure_31 (by decide) (fun q => ?_) (fun q => ?_)
            · have h := h.1 q
              refine r_iconst (v := (0 : Int32)) dX8_isMeasure_38 (by decide) ?_
              exact r_zret dX8_isMeasure_39 rfl rfl ⟨Nat.le_of_ble_eq_true rfl, Nat.le_of_ble_eq_true rfl⟩ ⟨rfl, _, rfl, h⟩
            · have h := h.2 q
              refine r_iconst (v := (1 : Int32)) dX8_isMeasure_34 (by decide) ?_
              refine r_goto 39 dX8_isMeasure_35 (by decide) ?_
              exact r_zret dX8_isMeasure_39 rfl rfl ⟨Nat.le_of_ble_eq_true rfl, Nat.le_of_ble_eq_true rfl⟩ ⟨rfl, _, rfl, h⟩

abbrev rm_X3_find : Room := { frames := 0, cells := 0, slots := 0, locals := 0 }
def C_X3_find (l : Launch) (G : Gt) (E : Et) (V : Vt) (x1 : Int32) (K : Option Nat → Vt → Prop) : Prop := Cl l G yX3_find cX3_find 2 (some (.object "ChurchLodge$Part")) rm_X3_find E V [.ref (eA E 3 0), .int x1] (Qr 2 E K)
def vc_X3_find (l : Launch) (G : Gt) (E : Et) (V : Vt) (x1 : Int32) (K : Option Nat → Vt → Prop) : Prop := ((x1 < (0 : Int32) → K none V) ∧ (¬ x1 < (0 : Int32) → (((V 405 0 0) ≤ x1 → K none V) ∧ (¬ (V 405 0 0) ≤ x1 → (vp_in x1 40) ∧ K (eR E 400 (x1).toNatClampNeg) V))))
theorem ok_X3_find {l : Launch} {G : Gt} {E : Et} {V : Vt} {x1 : Int32} {K : Option Nat → Vt → Prop} (hE : Sg E)  (h : vc_X3_find l G E V x1 K) : C_X3_find l G E V x1 K := by
  unfold vc_X3_find at h
  refine Cl.of (by decide +kernel) (Nat.le_of_ble_eq_true rfl) (show Ev l G RX3 cX3_find 2 (some (.object "ChurchLodge$Part")) rm_X3_find E 0 0 V 0 [(0, .ref (eA E 3 0)), (1, .int x1)] [] (Qr 2 E K) from ?_)
  refine r_iload_n (x := x1) dX3_find_0 rfl ?_
  refine r_if_lt 21 dX3_find_1 (by decide) (fun q => ?_) (fun q => ?_)
  · have h := h.1 q
    refine r_null dX3_find_21 ?_
    exact r_aret dX3_find_22 rfl (Or.inl ⟨_, rfl⟩) (Or.inl rfl) ⟨Nat.le_of_ble_eq_true rfl, Nat.le_of_ble_eq_true rfl⟩ ⟨rfl, none, rfl, h⟩
  · have h := h.2 q
    refine r_iload_n (x := x1) dX3_find_4 rfl ?_
    refine r_aload_n (v := .ref (eA E 3 0)) dX3_find_5 rfl (rl_ref _) ?_
    refine r_get (v := .int (V 405 0 0)) dX3_find_6 fl_RX3_30 (hE.1 3 (by decide)) rfl ?_
    refine r_icmp_ge 21 dX3_find_9 (by decide) (fun q => ?_) (fun q => ?_)
    · have h := h.1 q
      refine r_null dX3_find_21 ?_
      exact r_aret dX3_find_22 rfl (Or.inl ⟨_, rfl⟩) (Or.inl rfl) ⟨Nat.le_of_ble_eq_true rfl, Nat.le_of_ble_eq_true rfl⟩ ⟨rfl, none, rfl, h⟩
    · have h := h.2 q
      refine r_aload_n (v := .ref (eA E 3 0)) dX3_find_12 rfl (rl_ref _) ?_
      refine r_get (v := .ref (eA E 400 0)) dX3_find_13 fl_RX3_11 (hE.1 3 (by decide)) rfl ?_
      refine r_iload_n (x := x1) dX3_find_16 rfl ?_
      obtain ⟨hb, h⟩ := h
      refine r_aaldP dX3_find_17 rfl (by decide) (hE.1 3 (by decide)) (ix hE (by decide) rfl hb) ?_
      refine r_goto 22 dX3_find_18 (by decide) ?_
      exact r_aret dX3_find_22 rfl (Or.inl ⟨_, rfl⟩) (rl_rf _) ⟨Nat.le_of_ble_eq_true rfl, Nat.le_of_ble_eq_true rfl⟩ ⟨rfl, (eR E 400 (x1).toNatClampNeg), rfl, h⟩
abbrev rm_X3_isSupportFor : Room := { frames := 0, cells := 0, slots := 0, locals := 0 }
def C_X3_isSupportFor (l : Launch) (G : Gt) (E : Et) (V : Vt) (x1 : Int32) (x2 : Int32) (K : Int32 → Vt → Prop) : Prop := Cl l G yX3_isSupportFor cX3_isSupportFor 3 (some .boolean) rm_X3_isSupportFor E V [.int x1, .int x2] (Qi E K)
def vc_X3_isSupportFor (l : Launch) (G : Gt) (E : Et) (V : Vt) (x1 : Int32) (x2 : Int32) (K : Int32 → Vt → Prop) : Prop := ((x2 < (0 : Int32) → K (0 : Int32) V) ∧ (¬ x2 < (0 : Int32) → ((x1 ≤ (x2 / (100 : Int32)) → K (0 : Int32) V) ∧ (¬ x1 ≤ (x2 / (100 : Int32)) → (((x2 - x2 / (100 : Int32) * (100 : Int32)) < (1 : Int32) → K (0 : Int32) V) ∧ (¬ (x2 - x2 / (100 : Int32) * (100 : Int32)) < (1 : Int32) → (((12 : Int32) < (x2 - x2 / (100 : Int32) * (100 : Int32)) → K (0 : Int32) V) ∧ (¬ (12 : Int32) < (x2 - x2 / (100 : Int32) * (100 : Int32)) → K (1 : Int32) V))))))))
theorem ok_X3_isSupportFor {l : Launch} {G : Gt} {E : Et} {V : Vt} {x1 : Int32} {x2 : Int32} {K : Int32 → Vt → Prop} (hE : Sg E)  (h : vc_X3_isSupportFor l G E V x1 x2 K) : C_X3_isSupportFor l G E V x1 x2 K := by
  unfold vc_X3_isSupportFor at h
  refine Cl.of (by decide +kernel) (Nat.le_of_ble_eq_true rfl) (show Ev l G RX3 cX3_isSupportFor 3 (some .boolean) rm_X3_isSupportFor E 0 0 V 0 [(0, .int x1), (1, .int x2)] [] (Qi E K) from ?_)
  refine r_iload_n (x := x2) dX3_isSupportFor_0 rfl ?_
  refine r_bipush (v := (100 : Int32)) dX3_isSupportFor_1 (by decide) ?_
  refine r_irem dX3_isSupportFor_3 (by decide) ?_
  refine r_istore_n dX3_isSupportFor_4 (by decide) ?_
  refine r_iload_n (x := x2) dX3_isSupportFor_5 rfl ?_
  refine r_if_lt 32 dX3_isSupportFor_6 (by decide) (fun q => ?_) (fun q => ?_)
  · have h := h.1 q
    refine r_iconst (v := (0 : Int32)) dX3_isSupportFor_32 (by decide) ?_
    exact r_zret dX3_isSupportFor_33 rfl rfl ⟨Nat.le_of_ble_eq_true rfl, Nat.le_of_ble_eq_true rfl⟩ ⟨rfl, _, rfl, h⟩
  · have h := h.2 q
    refine r_iload_n (x := x2) dX3_isSupportFor_9 rfl ?_
    refine r_bipush (v := (100 : Int32)) dX3_isSupportFor_10 (by decide) ?_
    refine r_idiv dX3_isSupportFor_12 (by decide) ?_
    refine r_iload_n (x := x1) dX3_isSupportFor_13 rfl ?_
    refine r_icmp_ge 32 dX3_isSupportFor_14 (by decide) (fun q => ?_) (fun q => ?_)
    · have h := h.1 q
      refine r_iconst (v := (0 : Int32)) dX3_isSupportFor_32 (by decide) ?_
      exact r_zret dX3_isSupportFor_33 rfl rfl ⟨Nat.le_of_ble_eq_true rfl, Nat.le_of_ble_eq_true rfl⟩ ⟨rfl, _, rfl, h⟩
    · have h := h.2 q
      refine r_iload_n (x := (x2 - x2 / (100 : Int32) * (100 : Int32))) dX3_isSupportFor_17 rfl ?_
      refine r_iconst (v := (1 : Int32)) dX3_isSupportFor_18 (by decide) ?_
      refine r_icmp_lt 32 dX3_isSupportFor_19 (by decide) (fun q => ?_) (fun q => ?_)
      · have h := h.1 q
        refine r_iconst (v := (0 : Int32)) dX3_isSupportFor_32 (by decide) ?_
        exact r_zret dX3_isSupportFor_33 rfl rfl ⟨Nat.le_of_ble_eq_true rfl, Nat.le_of_ble_eq_true rfl⟩ ⟨rfl, _, rfl, h⟩
      · have h := h.2 q
        refine r_iload_n (x := (x2 - x2 / (100 : Int32) * (100 : Int32))) dX3_isSupportFor_22 rfl ?_
        refine r_bipush (v := (12 : Int32)) dX3_isSupportFor_23 (by decide) ?_
        refine r_icmp_gt 32 dX3_isSupportFor_25 (by decide) (fun q => ?_) (fun q => ?_)
        · have h := h.1 q
          refine r_iconst (v := (0 : Int32)) dX3_isSupportFor_32 (by decide) ?_
          exact r_zret dX3_isSupportFor_33 rfl rfl ⟨Nat.le_of_ble_eq_true rfl, Nat.le_of_ble_eq_true rfl⟩ ⟨rfl, _, rfl, h⟩
        · have h := h.2 q
          refine r_iconst (v := (1 : Int32)) dX3_isSupportFor_28 (by decide) ?_
          refine r_goto 33 dX3_isSupportFor_29 (by decide) ?_
          exact r_zret dX3_isSupportFor_33 rfl rfl ⟨Nat.le_of_ble_eq_true rfl, Nat.le_of_ble_eq_true rfl⟩ ⟨rfl, _, rfl, h⟩
abbrev rm_X3_isReadBefore : Room := { frames := 0, cells := 0, slots := 0, locals := 0 }
def C_X3_isReadBefore (l : Launch) (G : Gt) (E : Et) (V : Vt) (x1 : Int32) (K : Int32 → Vt → Prop) : Prop := Cl l G yX3_isReadBefore cX3_isReadBefore 3 (some .boolean) rm_X3_isReadBefore E V [.ref (eA E 3 0), .int x1] (Qi E K)
def A_X3_isReadBefore_2 (l : Launch) (G : Gt) (E : Et) (V : Vt) (x1 : Int32) (x2 : Int32) (K : Int32 → Vt → Prop) : Prop := Ev l G RX3 cX3_isReadBefore 3 (some .boolean) rm_X3_isReadBefore E 0 0 V 2 [(0, .ref (eA E 3 0)), (1, .int x1), (2, .int x2)] [] (Qi E K)
def vc_X3_isReadBefore (l : Launch) (G : Gt) (E : Et) (V : Vt) (x1 : Int32) (K : Int32 → Vt → Prop) : Prop := A_X3_isReadBefore_2 l G E V x1 (0 : Int32) K
def vc_X3_isReadBefore_2 (l : Launch) (G : Gt) (E : Et) (V : Vt) (x1 : Int32) (x2 : Int32) (K : Int32 → Vt → Prop) : Prop := ((x1 ≤ x2 → K (0 : Int32) V) ∧ (¬ x1 ≤ x2 → (vp_in x2 4) ∧ (vp_in x1 4) ∧ ((¬ ((V 404 0 (x2).toNatClampNeg) / (100 : Int32)) = ((V 404 0 (x1).toNatClampNeg) / (100 : Int32)) → A_X3_isReadBefore_2 l G E V x1 (x2 + (1 : Int32)) K) ∧ (((V 404 0 (x2).toNatClampNeg) / (100 : Int32)) = ((V 404 0 (x1).toNatClampNeg) / (100 : Int32)) → K (1 : Int32) V))))
theorem ok_X3_isReadBefore {l : Launch} {G : Gt} {E : Et} {V : Vt} {x1 : Int32} {K : Int32 → Vt → Prop} (hE : Sg E)  (h : vc_X3_isReadBefore l G E V x1 K) : C_X3_isReadBefore l G E V x1 K := by
  unfold vc_X3_isReadBefore at h
  refine Cl.of (by decide +kernel) (Nat.le_of_ble_eq_true rfl) (show Ev l G RX3 cX3_isReadBefore 3 (some .boolean) rm_X3_isReadBefore E 0 0 V 0 [(0, .ref (eA E 3 0)), (1, .int x1)] [] (Qi E K) from ?_)
  refine r_iconst (v := (0 : Int32)) dX3_isReadBefore_0 (by decide) ?_
  refine r_istore_n dX3_isReadBefore_1 (by decide) ?_
  exact Ev.loc [0, 1, 2] rfl h
theorem ok_X3_isReadBefore_2 {l : Launch} {G : Gt} {E : Et} {V : Vt} {x1 : Int32} {x2 : Int32} {K : Int32 → Vt → Prop} (hE : Sg E)  (h : vc_X3_isReadBefore_2 l G E V x1 x2 K) : A_X3_isReadBefore_2 l G E V x1 x2 K := by
  unfold vc_X3_isReadBefore_2 at h
  unfold A_X3_isReadBefore_2
  refine r_iload_n (x := x2) dX3_isReadBefore_2 rfl ?_
  refine r_iload_n (x := x1) dX3_isReadBefore_3 rfl ?_
  refine r_icmp_ge 36 dX3_isReadBefore_4 (by decide) (fun q => ?_) (fun q => ?_)
  · have h := h.1 q
    refine r_iconst (v := (0 : Int32)) dX3_isReadBefore_36 (by decide) ?_
    exact r_zret dX3_isReadBefore_37 rfl rfl ⟨Nat.le_of_ble_eq_true rfl, Nat.le_of_ble_eq_true rfl⟩ ⟨rfl, _, rfl, h⟩
  · have h := h.2 q
    refine r_aload_n (v := .ref (eA E 3 0)) dX3_isReadBefore_7 rfl (rl_ref _) ?_
    refine r_get (v := .ref (eA E 404 0)) dX3_isReadBefore_8 fl_RX3_27 (hE.1 3 (by decide)) rfl ?_
    refine r_iload_n (x := x2) dX3_isReadBefore_11 rfl ?_
    obtain ⟨hb, h⟩ := h
    refine r_iald dX3_isReadBefore_12 rfl (by decide) (hE.1 3 (by decide)) (ix hE (by decide) rfl hb) ?_
    refine r_bipush (v := (100 : Int32)) dX3_isReadBefore_13 (by decide) ?_
    refine r_idiv dX3_isReadBefore_15 (by decide) ?_
    refine r_aload_n (v := .ref (eA E 3 0)) dX3_isReadBefore_16 rfl (rl_ref _) ?_
    refine r_get (v := .ref (eA E 404 0)) dX3_isReadBefore_17 fl_RX3_27 (hE.1 3 (by decide)) rfl ?_
    refine r_iload_n (x := x1) dX3_isReadBefore_20 rfl ?_
    obtain ⟨hb, h⟩ := h
    refine r_iald dX3_isReadBefore_21 rfl (by decide) (hE.1 3 (by decide)) (ix hE (by decide) rfl hb) ?_
    refine r_bipush (v := (100 : Int32)) dX3_isReadBefore_22 (by decide) ?_
    refine r_idiv dX3_isReadBefore_24 (by decide) ?_
    refine r_icmp_ne 30 dX3_isReadBefore_25 (by decide) (fun q => ?_) (fun q => ?_)
    · have h := h.1 q
      refine r_iinc (x := x2) (v := (1 : Int32)) dX3_isReadBefore_30 rfl (by decide) (by decide) ?_
      refine r_goto 2 dX3_isReadBefore_33 (by decide) ?_
      exact Ev.loc [0, 1, 2] rfl h
    · have h := h.2 q
      refine r_iconst (v := (1 : Int32)) dX3_isReadBefore_28 (by decide) ?_
      exact r_zret dX3_isReadBefore_29 rfl rfl ⟨Nat.le_of_ble_eq_true rfl, Nat.le_of_ble_eq_true rfl⟩ ⟨rfl, _, rfl, h⟩
abbrev rm_X3_readSupports : Room := { frames := 1, cells := 0, slots := 0, locals := 22 }
def C_X3_readSupports (l : Launch) (G : Gt) (E : Et) (V : Vt) (x1 : Int32) (x2 : Int32) (x3 : Int32) (x4 : Int32) (x5 : Int32) (K : Int32 → Vt → Prop) : Prop := Cl l G yX3_readSupports cX3_readSupports 9 (some .int) rm_X3_readSupports E V [.ref (eA E 3 0), .int x1, .int x2, .int x3, .int x4, .int x5] (Qi E K)
def A_X3_readSupports_33 (l : Launch) (G : Gt) (E : Et) (V : Vt) (x1 : Int32) (x6 : Int32) (K : Int32 → Vt → Prop) : Prop := Ev l G RX3 cX3_readSupports 9 (some .int) rm_X3_readSupports E 0 0 V 33 [(0, .ref (eA E 3 0)), (1, .int x1), (6, .int x6)] [] (Qi E K)
def A_X3_readSupports_60 (l : Launch) (G : Gt) (E : Et) (V : Vt) (x1 : Int32) (x6 : Int32) (x7 : Int32) (K : Int32 → Vt → Prop) : Prop := Ev l G RX3 cX3_readSupports 9 (some .int) rm_X3_readSupports E 0 0 V 60 [(0, .ref (eA E 3 0)), (1, .int x1), (6, .int x6), (7, .int x7)] [] (Qi E K)
def A_X3_readSupports_91 (l : Launch) (G : Gt) (E : Et) (V : Vt) (x1 : Int32) (x6 : Int32) (x7 : Int32) (x8 : Int32) (K : Int32 → Vt → Prop) : Prop := Ev l G RX3 cX3_readSupports 9 (some .int) rm_X3_readSupports E 0 0 V 91 [(0, .ref (eA E 3 0)), (1, .int x1), (6, .int x6), (7, .int x7), (8, .int x8)] [] (Qi E K)
def vc_X3_readSupports (l : Launch) (G : Gt) (E : Et) (V : Vt) (x1 : Int32) (x2 : Int32) (x3 : Int32) (x4 : Int32) (x5 : Int32) (K : Int32 → Vt → Prop) : Prop := (vp_in (0 : Int32) 4) ∧ (vp_in (1 : Int32) 4) ∧ (vp_in (2 : Int32) 4) ∧ (vp_in (3 : Int32) 4) ∧ A_X3_readSupports_33 l G E (up3 (up3 (up3 (up3 V 404 0 ((0 : Int32)).toNatClampNeg x2) 404 0 ((1 : Int32)).toNatClampNeg x3) 404 0 ((2 : Int32)).toNatClampNeg x4) 404 0 ((3 : Int32)).toNatClampNeg x5) x1 (0 : Int32) K
def vc_X3_readSupports_33 (l : Launch) (G : Gt) (E : Et) (V : Vt) (x1 : Int32) (x6 : Int32) (K : Int32 → Vt → Prop) : Prop := (((4 : Int32) ≤ x6 → A_X3_readSupports_60 l G E V x1 x6 x6 K) ∧ (¬ (4 : Int32) ≤ x6 → (vp_in x6 4) ∧ (((V 404 0 (x6).toNatClampNeg) = (-1 : Int32) → A_X3_readSupports_60 l G E V x1 x6 x6 K) ∧ (¬ (V 404 0 (x6).toNatClampNeg) = (-1 : Int32) → A_X3_readSupports_33 l G E V x1 (x6 + (1 : Int32)) K))))
def vc_X3_readSupports_60 (l : Launch) (G : Gt) (E : Et) (V : Vt) (x1 : Int32) (x6 : Int32) (x7 : Int32) (K : Int32 → Vt → Prop) : Prop := (((4 : Int32) ≤ x7 → A_X3_readSupports_91 l G E V x1 x6 (0 : Int32) (0 : Int32) K) ∧ (¬ (4 : Int32) ≤ x7 → (vp_in x7 4) ∧ (((V 404 0 (x7).toNatClampNeg) = (-1 : Int32) → A_X3_readSupports_60 l G E V x1 x6 (x7 + (1 : Int32)) K) ∧ (¬ (V 404 0 (x7).toNatClampNeg) = (-1 : Int32) → K (-1 : Int32) V))))
def vc_X3_readSupports_91 (l : Launch) (G : Gt) (E : Et) (V : Vt) (x1 : Int32) (x6 : Int32) (x7 : Int32) (x8 : Int32) (K : Int32 → Vt → Prop) : Prop := ((x6 ≤ x8 → ((x6 = (0 : Int32) → K x6 V) ∧ (¬ x6 = (0 : Int32) → ((¬ x7 = (12 : Int32) → K (-1 : Int32) V) ∧ (x7 = (12 : Int32) → K x6 V))))) ∧ (¬ x6 ≤ x8 → (vp_in x8 4) ∧ (C_X3_isSupportFor l G E V x1 (V 404 0 (x8).toNatClampNeg) (fun x22 V21 => ((x22 = (0 : Int32) → K (-1 : Int32) V21) ∧ (¬ x22 = (0 : Int32) → (C_X3_isReadBefore l G E V21 x8 (fun x24 V23 => ((x24 = (0 : Int32) → (vp_in x8 4) ∧ A_X3_readSupports_91 l G E V23 x1 x6 (x7 + ((V23 404 0 (x8).toNatClampNeg) - (V23 404 0 (x8).toNatClampNeg) / (100 : Int32) * (100 : Int32))) (x8 + (1 : Int32)) K) ∧ (¬ x24 = (0 : Int32) → K (-1 : Int32) V23))))))))))
theorem ok_X3_readSupports {l : Launch} {G : Gt} {E : Et} {V : Vt} {x1 : Int32} {x2 : Int32} {x3 : Int32} {x4 : Int32} {x5 : Int32} {K : Int32 → Vt → Prop} (hE : Sg E)  (h : vc_X3_readSupports l G E V x1 x2 x3 x4 x5 K) : C_X3_readSupports l G E V x1 x2 x3 x4 x5 K := by
  unfold vc_X3_readSupports at h
  refine Cl.of (by decide +kernel) (Nat.le_of_ble_eq_true rfl) (show Ev l G RX3 cX3_readSupports 9 (some .int) rm_X3_readSupports E 0 0 V 0 [(0, .ref (eA E 3 0)), (1, .int x1), (2, .int x2), (3, .int x3), (4, .int x4), (5, .int x5)] [] (Qi E K) from ?_)
  refine r_aload_n (v := .ref (eA E 3 0)) dX3_readSupports_0 rfl (rl_ref _) ?_
  refine r_get (v := .ref (eA E 404 0)) dX3_readSupports_1 fl_RX3_27 (hE.1 3 (by decide)) rfl ?_
  refine r_iconst (v := (0 : Int32)) dX3_readSupports_4 (by decide) ?_
  refine r_iload_n (x := x2) dX3_readSupports_5 rfl ?_
  obtain ⟨hb, h⟩ := h
  refine r_iast dX3_readSupports_6 rfl (by decide) (hE.1 3 (by decide)) (ix hE (by decide) rfl hb) ?_
  refine r_aload_n (v := .ref (eA E 3 0)) dX3_readSupports_7 rfl (rl_ref _) ?_
  refine r_get (v := .ref (eA E 404 0)) dX3_readSupports_8 fl_RX3_27 (hE.1 3 (by decide)) rfl ?_
  refine r_iconst (v := (1 : Int32)) dX3_readSupports_11 (by decide) ?_
  refine r_iload_n (x := x3) dX3_readSupports_12 rfl ?_
  obtain ⟨hb, h⟩ := h
  refine r_iast dX3_readSupports_13 rfl (by decide) (hE.1 3 (by decide)) (ix hE (by decide) rfl hb) ?_
  refine r_aload_n (v := .ref (eA E 3 0)) dX3_readSupports_14 rfl (rl_ref _) ?_
  refine r_get (v := .ref (eA E 404 0)) dX3_readSupports_15 fl_RX3_27 (hE.1 3 (by decide)) rfl ?_
  refine r_iconst (v := (2 : Int32)) dX3_readSupports_18 (by decide) ?_
  refine r_iload (x := x4) dX3_readSupports_19 rfl ?_
  obtain ⟨hb, h⟩ := h
  refine r_iast dX3_readSupports_21 rfl (by decide) (hE.1 3 (by decide)) (ix hE (by decide) rfl hb) ?_
  refine r_aload_n (v := .ref (eA E 3 0)) dX3_readSupports_22 rfl (rl_ref _) ?_
  refine r_get (v := .ref (eA E 404 0)) dX3_readSupports_23 fl_RX3_27 (hE.1 3 (by decide)) rfl ?_
  refine r_iconst (v := (3 : Int32)) dX3_readSupports_26 (by decide) ?_
  refine r_iload (x := x5) dX3_readSupports_27 rfl ?_
  obtain ⟨hb, h⟩ := h
  refine r_iast dX3_readSupports_29 rfl (by decide) (hE.1 3 (by decide)) (ix hE (by decide) rfl hb) ?_
  refine r_iconst (v := (0 : Int32)) dX3_readSupports_30 (by decide) ?_
  refine r_istore dX3_readSupports_31 (by decide) ?_
  exact Ev.loc [0, 1, 6] rfl h
theorem ok_X3_readSupports_33 {l : Launch} {G : Gt} {E : Et} {V : Vt} {x1 : Int32} {x6 : Int32} {K : Int32 → Vt → Prop} (hE : Sg E)  (h : vc_X3_readSupports_33 l G E V x1 x6 K) : A_X3_readSupports_33 l G E V x1 x6 K := by
  unfold vc_X3_readSupports_33 at h
  unfold A_X3_readSupports_33
  refine r_iload (x := x6) dX3_readSupports_33 rfl ?_
  refine r_iconst (v := (4 : Int32)) dX3_readSupports_35 (by decide) ?_
  refine r_icmp_ge 56 dX3_readSupports_36 (by decide) (fun q => ?_) (fun q => ?_)
  · have h := h.1 q
    refine r_iload (x := x6) dX3_readSupports_56 rfl ?_
    refine r_istore dX3_readSupports_58 (by decide) ?_
    exact Ev.loc [0, 1, 2, 3] rfl h
  · have h := h.2 q
    refine r_aload_n (v := .ref (eA E 3 0)) dX3_readSupports_39 rfl (rl_ref _) ?_
    refine r_get (v := .ref (eA E 404 0)) dX3_readSupports_40 fl_RX3_27 (hE.1 3 (by decide)) rfl ?_
    refine r_iload (x := x6) dX3_readSupports_43 rfl ?_
    obtain ⟨hb, h⟩ := h
    refine r_iald dX3_readSupports_45 rfl (by decide) (hE.1 3 (by decide)) (ix hE (by decide) rfl hb) ?_
    refine r_iconst (v := (-1 : Int32)) dX3_readSupports_46 (by decide) ?_
    refine r_icmp_eq 56 dX3_readSupports_47 (by decide) (fun q => ?_) (fun q => ?_)
    · have h := h.1 q
      refine r_iload (x := x6) dX3_readSupports_56 rfl ?_
      refine r_istore dX3_readSupports_58 (by decide) ?_
      exact Ev.loc [0, 1, 2, 3] rfl h
    · have h := h.2 q
      refine r_iinc (x := x6) (v := (1 : Int32)) dX3_readSupports_50 rfl (by decide) (by decide) ?_
      refine r_goto 33 dX3_readSupports_53 (by decide) ?_
      exact Ev.loc [0, 1, 2] rfl h
theorem ok_X3_readSupports_60 {l : Launch} {G : Gt} {E : Et} {V : Vt} {x1 : Int32} {x6 : Int32} {x7 : Int32} {K : Int32 → Vt → Prop} (hE : Sg E)  (h : vc_X3_readSupports_60 l G E V x1 x6 x7 K) : A_X3_readSupports_60 l G E V x1 x6 x7 K := by
  unfold vc_X3_readSupports_60 at h
  unfold A_X3_readSupports_60
  refine r_iload (x := x7) dX3_readSupports_60 rfl ?_
  refine r_iconst (v := (4 : Int32)) dX3_readSupports_62 (by decide) ?_
  refine r_icmp_ge 85 dX3_readSupports_63 (by decide) (fun q => ?_) (fun q => ?_)
  · have h := h.1 q
    refine r_iconst (v := (0 : Int32)) dX3_readSupports_85 (by decide) ?_
    refine r_istore dX3_readSupports_86 (by decide) ?_
    refine r_iconst (v := (0 : Int32)) dX3_readSupports_88 (by decide) ?_
    refine r_istore dX3_readSupports_89 (by decide) ?_
    exact Ev.loc [0, 1, 2, 3, 4] rfl h
  · have h := h.2 q
    refine r_aload_n (v := .ref (eA E 3 0)) dX3_readSupports_66 rfl (rl_ref _) ?_
    refine r_get (v := .ref (eA E 404 0)) dX3_readSupports_67 fl_RX3_27 (hE.1 3 (by decide)) rfl ?_
    refine r_iload (x := x7) dX3_readSupports_70 rfl ?_
    obtain ⟨hb, h⟩ := h
    refine r_iald dX3_readSupports_72 rfl (by decide) (hE.1 3 (by decide)) (ix hE (by decide) rfl hb) ?_
    refine r_iconst (v := (-1 : Int32)) dX3_readSupports_73 (by decide) ?_
    refine r_icmp_eq 79 dX3_readSupports_74 (by decide) (fun q => ?_) (fun q => ?_)
    · have h := h.1 q
      refine r_iinc (x := x7) (v := (1 : Int32)) dX3_readSupports_79 rfl (by decide) (by decide) ?_
      refine r_goto 60 dX3_readSupports_82 (by decide) ?_
      exact Ev.loc [0, 1, 2, 3] rfl h
    · have h := h.2 q
      refine r_iconst (v := (-1 : Int32)) dX3_readSupports_77 (by decide) ?_
      exact r_iret dX3_readSupports_78 rfl ⟨Nat.le_of_ble_eq_true rfl, Nat.le_of_ble_eq_true rfl⟩ ⟨rfl, _, rfl, h⟩
theorem ok_X3_readSupports_91 {l : Launch} {G : Gt} {E : Et} {V : Vt} {x1 : Int32} {x6 : Int32} {x7 : Int32} {x8 : Int32} {K : Int32 → Vt → Prop} (hE : Sg E)  (h : vc_X3_readSupports_91 l G E V x1 x6 x7 x8 K) : A_X3_readSupports_91 l G E V x1 x6 x7 x8 K := by
  unfold vc_X3_readSupports_91 at h
  unfold A_X3_readSupports_91
  refine r_iload (x := x8) dX3_readSupports_91 rfl ?_
  refine r_iload (x := x6) dX3_readSupports_93 rfl ?_
  refine r_icmp_ge 144 dX3_readSupports_95 (by decide) (fun q => ?_) (fun q => ?_)
  · have h := h.1 q
    refine r_iload (x := x6) dX3_readSupports_144 rfl ?_
    refine r_if_eq 156 dX3_readSupports_146 (by decide) (fun q => ?_) (fun q => ?_)
    · have h := h.1 q
      refine r_iload (x := x6) dX3_readSupports_156 rfl ?_
      refine r_goto 162 dX3_readSupports_158 (by decide) ?_
      exact r_iret dX3_readSupports_162 rfl ⟨Nat.le_of_ble_eq_true rfl, Nat.le_of_ble_eq_true rfl⟩ ⟨rfl, _, rfl, h⟩
    · have h := h.2 q
      refine r_iload (x := x7) dX3_readSupports_149 rfl ?_
      refine r_bipush (v := (12 : Int32)) dX3_readSupports_151 (by decide) ?_
      refine r_icmp_ne 161 dX3_readSupports_153 (by decide) (fun q => ?_) (fun q => ?_)
      · have h := h.1 q
        refine r_iconst (v := (-1 : Int32)) dX3_readSupports_161 (by decide) ?_
        exact r_iret dX3_readSupports_162 rfl ⟨Nat.le_of_ble_eq_true rfl, Nat.le_of_ble_eq_true rfl⟩ ⟨rfl, _, rfl, h⟩
      · have h := h.2 q
        refine r_iload (x := x6) dX3_readSupports_156 rfl ?_
        refine r_goto 162 dX3_readSupports_158 (by decide) ?_
        exact r_iret dX3_readSupports_162 rfl ⟨Nat.le_of_ble_eq_true rfl, Nat.le_of_ble_eq_true rfl⟩ ⟨rfl, _, rfl, h⟩
  · have h := h.2 q
    refine r_iload_n (x := x1) dX3_readSupports_98 rfl ?_
    refine r_aload_n (v := .ref (eA E 3 0)) dX3_readSupports_99 rfl (rl_ref _) ?_
    refine r_get (v := .ref (eA E 404 0)) dX3_readSupports_100 fl_RX3_27 (hE.1 3 (by decide)) rfl ?_
    refine r_iload (x := x8) dX3_readSupports_103 rfl ?_
    obtain ⟨hb, h⟩ := h
    refine r_iald dX3_readSupports_105 rfl (by decide) (hE.1 3 (by decide)) (ix hE (by decide) rfl hb) ?_
    refine r_cSi (As := [.int x1, .int (V 404 0 (x8).toNatClampNeg)]) (rest := []) dX3_readSupports_106 ms_X3_isSupportFor ml_RX3_34 ⟨Nat.le_of_ble_eq_true rfl, Nat.le_of_ble_eq_true rfl⟩ ⟨rfl, rfl⟩ rfl rfl (Nat.le_of_ble_eq_true rfl) h (fun x22 V21 h => ?_)
    refine r_if_eq 121 dX3_readSupports_109 (by decide) (fun q => ?_) (fun q => ?_)
    · have h := h.1 q
      refine r_iconst (v := (-1 : Int32)) dX3_readSupports_121 (by decide) ?_
      exact r_iret dX3_readSupports_122 rfl ⟨Nat.le_of_ble_eq_true rfl, Nat.le_of_ble_eq_true rfl⟩ ⟨rfl, _, rfl, h⟩
    · have h := h.2 q
      refine r_aload_n (v := .ref (eA E 3 0)) dX3_readSupports_112 rfl (rl_ref _) ?_
      refine r_iload (x := x8) dX3_readSupports_113 rfl ?_
      refine r_cVi (As := [.int x8]) (rest := []) dX3_readSupports_115 mv_X3_isReadBefore ml_RX3_38 ⟨_, _, rfl⟩ (hE.1 3 (by decide)) ⟨Nat.le_of_ble_eq_true rfl, Nat.le_of_ble_eq_true rfl⟩ ⟨rfl, rfl⟩ rfl rfl (Nat.le_of_ble_eq_true rfl) h (fun x24 V23 h => ?_)
      refine r_if_eq 123 dX3_readSupports_118 (by decide) (fun q => ?_) (fun q => ?_)
      · have h := h.1 q
        refine r_iload (x := x7) dX3_readSupports_123 rfl ?_
        refine r_aload_n (v := .ref (eA E 3 0)) dX3_readSupports_125 rfl (rl_ref _) ?_
        refine r_get (v := .ref (eA E 404 0)) dX3_readSupports_126 fl_RX3_27 (hE.1 3 (by decide)) rfl ?_
        refine r_iload (x := x8) dX3_readSupports_129 rfl ?_
        obtain ⟨hb, h⟩ := h
        refine r_iald dX3_readSupports_131 rfl (by decide) (hE.1 3 (by decide)) (ix hE (by decide) rfl hb) ?_
        refine r_bipush (v := (100 : Int32)) dX3_readSupports_132 (by decide) ?_
        refine r_irem dX3_readSupports_134 (by decide) ?_
        refine r_iadd dX3_readSupports_135 ?_
        refine r_istore dX3_readSupports_136 (by decide) ?_
        refine r_iinc (x := x8) (v := (1 : Int32)) dX3_readSupports_138 rfl (by decide) (by decide) ?_
        refine r_goto 91 dX3_readSupports_141 (by decide) ?_
        exact Ev.loc [0, 1, 2, 3, 4] rfl h
      · have h := h.2 q
        refine r_iconst (v := (-1 : Int32)) dX3_readSupports_121 (by decide) ?_
        exact r_iret dX3_readSupports_122 rfl ⟨Nat.le_of_ble_eq_true rfl, Nat.le_of_ble_eq_true rfl⟩ ⟨rfl, _, rfl, h⟩
abbrev rm_X3_setSupports : Room := { frames := 1, cells := 0, slots := 0, locals := 23 }
def C_X3_setSupports (l : Launch) (G : Gt) (E : Et) (V : Vt) (o1 : Nat) (x2 : Int32) (K : Vt → Prop) : Prop := Cl l G yX3_setSupports cX3_setSupports 4 none rm_X3_setSupports E V [.ref (eA E 3 0), .ref (eA E 2 o1), .int x2] (Qv E K)
def A_X3_setSupports_2 (l : Launch) (G : Gt) (E : Et) (V : Vt) (o1 : Nat) (x2 : Int32) (x3 : Int32) (K : Vt → Prop) : Prop := Ev l G RX3 cX3_setSupports 4 none rm_X3_setSupports E 0 0 V 2 [(0, .ref (eA E 3 0)), (1, .ref (eA E 2 o1)), (2, .int x2), (3, .int x3)] [] (Qv E K)
def vc_X3_setSupports (l : Launch) (G : Gt) (E : Et) (V : Vt) (o1 : Nat) (x2 : Int32) (K : Vt → Prop) : Prop := A_X3_setSupports_2 l G E V o1 x2 (0 : Int32) K
def vc_X3_setSupports_2 (l : Launch) (G : Gt) (E : Et) (V : Vt) (o1 : Nat) (x2 : Int32) (x3 : Int32) (K : Vt → Prop) : Prop := ((x2 ≤ x3 → K (up3 V 308 o1 0 x2)) ∧ (¬ x2 ≤ x3 → (((4 : Int32) ≤ x3 → K (up3 V 308 o1 0 x2)) ∧ (¬ (4 : Int32) ≤ x3 → (vp_in x3 4) ∧ (vp_in x3 4) ∧ (C_X2_standOn l G E V o1 x3 ((V 404 0 (x3).toNatClampNeg) / (100 : Int32)) ((V 404 0 (x3).toNatClampNeg) - (V 404 0 (x3).toNatClampNeg) / (100 : Int32) * (100 : Int32)) (fun V21 => A_X3_setSupports_2 l G E V21 o1 x2 (x3 + (1 : Int32)) K))))))
theorem ok_X3_setSupports {l : Launch} {G : Gt} {E : Et} {V : Vt} {o1 : Nat} {x2 : Int32} {K : Vt → Prop} (hE : Sg E) (hl_o1 : eL E 2 o1) (h : vc_X3_setSupports l G E V o1 x2 K) : C_X3_setSupports l G E V o1 x2 K := by
  unfold vc_X3_setSupports at h
  refine Cl.of (by decide +kernel) (Nat.le_of_ble_eq_true rfl) (show Ev l G RX3 cX3_setSupports 4 none rm_X3_setSupports E 0 0 V 0 [(0, .ref (eA E 3 0)), (1, .ref (eA E 2 o1)), (2, .int x2)] [] (Qv E K) from ?_)
  refine r_iconst (v := (0 : Int32)) dX3_setSupports_0 (by decide) ?_
  refine r_istore_n dX3_setSupports_1 (by decide) ?_
  exact Ev.loc [0, 1, 2, 3] rfl h
theorem ok_X3_setSupports_2 {l : Launch} {G : Gt} {E : Et} {V : Vt} {o1 : Nat} {x2 : Int32} {x3 : Int32} {K : Vt → Prop} (hE : Sg E) (hl_o1 : eL E 2 o1) (h : vc_X3_setSupports_2 l G E V o1 x2 x3 K) : A_X3_setSupports_2 l G E V o1 x2 x3 K := by
  unfold vc_X3_setSupports_2 at h
  unfold A_X3_setSupports_2
  refine r_iload_n (x := x3) dX3_setSupports_2 rfl ?_
  refine r_iload_n (x := x2) dX3_setSupports_3 rfl ?_
  refine r_icmp_ge 41 dX3_setSupports_4 (by decide) (fun q => ?_) (fun q => ?_)
  · have h := h.1 q
    refine r_aload_n (v := .ref (eA E 2 o1)) dX3_setSupports_41 rfl (rl_ref _) ?_
    refine r_iload_n (x := x2) dX3_setSupports_42 rfl ?_
    refine r_put dX3_setSupports_43 fp_RX3_46 rfl hl_o1 rfl rfl ?_
    exact r_vret dX3_setSupports_46 rfl ⟨Nat.le_of_ble_eq_true rfl, Nat.le_of_ble_eq_true rfl⟩ ⟨rfl, rfl, h⟩
  · have h := h.2 q
    refine r_iload_n (x := x3) dX3_setSupports_7 rfl ?_
    refine r_iconst (v := (4 : Int32)) dX3_setSupports_8 (by decide) ?_
    refine r_icmp_ge 41 dX3_setSupports_9 (by decide) (fun q => ?_) (fun q => ?_)
    · have h := h.1 q
      refine r_aload_n (v := .ref (eA E 2 o1)) dX3_setSupports_41 rfl (rl_ref _) ?_
      refine r_iload_n (x := x2) dX3_setSupports_42 rfl ?_
      refine r_put dX3_setSupports_43 fp_RX3_46 rfl hl_o1 rfl rfl ?_
      exact r_vret dX3_setSupports_46 rfl ⟨Nat.le_of_ble_eq_true rfl, Nat.le_of_ble_eq_true rfl⟩ ⟨rfl, rfl, h⟩
    · have h := h.2 q
      refine r_aload_n (v := .ref (eA E 2 o1)) dX3_setSupports_12 rfl (rl_ref _) ?_
      refine r_iload_n (x := x3) dX3_setSupports_13 rfl ?_
      refine r_aload_n (v := .ref (eA E 3 0)) dX3_setSupports_14 rfl (rl_ref _) ?_
      refine r_get (v := .ref (eA E 404 0)) dX3_setSupports_15 fl_RX3_27 (hE.1 3 (by decide)) rfl ?_
      refine r_iload_n (x := x3) dX3_setSupports_18 rfl ?_
      obtain ⟨hb, h⟩ := h
      refine r_iald dX3_setSupports_19 rfl (by decide) (hE.1 3 (by decide)) (ix hE (by decide) rfl hb) ?_
      refine r_bipush (v := (100 : Int32)) dX3_setSupports_20 (by decide) ?_
      refine r_idiv dX3_setSupports_22 (by decide) ?_
      refine r_aload_n (v := .ref (eA E 3 0)) dX3_setSupports_23 rfl (rl_ref _) ?_
      refine r_get (v := .ref (eA E 404 0)) dX3_setSupports_24 fl_RX3_27 (hE.1 3 (by decide)) rfl ?_
      refine r_iload_n (x := x3) dX3_setSupports_27 rfl ?_
      obtain ⟨hb, h⟩ := h
      refine r_iald dX3_setSupports_28 rfl (by decide) (hE.1 3 (by decide)) (ix hE (by decide) rfl hb) ?_
      refine r_bipush (v := (100 : Int32)) dX3_setSupports_29 (by decide) ?_
      refine r_irem dX3_setSupports_31 (by decide) ?_
      refine r_cVv (As := [.int x3, .int ((V 404 0 (x3).toNatClampNeg) / (100 : Int32)), .int ((V 404 0 (x3).toNatClampNeg) - (V 404 0 (x3).toNatClampNeg) / (100 : Int32) * (100 : Int32))]) (rest := []) dX3_setSupports_32 mv_X2_standOn ml_RX3_42 ⟨_, _, rfl⟩ hl_o1 ⟨Nat.le_of_ble_eq_true rfl, Nat.le_of_ble_eq_true rfl⟩ ⟨rfl, rfl⟩ rfl rfl (Nat.le_of_ble_eq_true rfl) h (fun V21 h => ?_)
      refine r_iinc (x := x3) (v := (1 : Int32)) dX3_setSupports_35 rfl (by decide) (by decide) ?_
      refine r_goto 2 dX3_setSupports_38 (by decide) ?_
      exact Ev.loc [0, 1, 2, 3] rfl h
abbrev rm_X3_keepEdition : Room := { frames := 0, cells := 0, slots := 0, locals := 0 }
def C_X3_keepEdition (l : Launch) (G : Gt) (E : Et) (V : Vt) (x1 : Int32) (x2 : Int32) (K : Int32 → Vt → Prop) : Prop := Cl l G yX3_keepEdition cX3_keepEdition 3 (some .int) rm_X3_keepEdition E V [.ref (eA E 3 0), .int x1, .int x2] (Qi E K)
def vc_X3_keepEdition (l : Launch) (G : Gt) (E : Et) (V : Vt) (x1 : Int32) (x2 : Int32) (K : Int32 → Vt → Prop) : Prop := (((V 406 0 0) < (60 : Int32) → (vp_in ((up3 V 406 0 0 ((V 406 0 0) + (1 : Int32))) 406 0 0) 61) ∧ (vp_in ((up3 (up3 V 406 0 0 ((V 406 0 0) + (1 : Int32))) 401 0 (((up3 V 406 0 0 ((V 406 0 0) + (1 : Int32))) 406 0 0)).toNatClampNeg x1) 406 0 0) 61) ∧ (vp_in ((up3 (up3 (up3 V 406 0 0 ((V 406 0 0) + (1 : Int32))) 401 0 (((up3 V 406 0 0 ((V 406 0 0) + (1 : Int32))) 406 0 0)).toNatClampNeg x1) 402 0 (((up3 (up3 V 406 0 0 ((V 406 0 0) + (1 : Int32))) 401 0 (((up3 V 406 0 0 ((V 406 0 0) + (1 : Int32))) 406 0 0)).toNatClampNeg x1) 406 0 0)).toNatClampNeg x2) 406 0 0) 61) ∧ K ((up3 (up3 (up3 (up3 V 406 0 0 ((V 406 0 0) + (1 : Int32))) 401 0 (((up3 V 406 0 0 ((V 406 0 0) + (1 : Int32))) 406 0 0)).toNatClampNeg x1) 402 0 (((up3 (up3 V 406 0 0 ((V 406 0 0) + (1 : Int32))) 401 0 (((up3 V 406 0 0 ((V 406 0 0) + (1 : Int32))) 406 0 0)).toNatClampNeg x1) 406 0 0)).toNatClampNeg x2) 403 0 (((up3 (up3 (up3 V 406 0 0 ((V 406 0 0) + (1 : Int32))) 401 0 (((up3 V 406 0 0 ((V 406 0 0) + (1 : Int32))) 406 0 0)).toNatClampNeg x1) 402 0 (((up3 (up3 V 406 0 0 ((V 406 0 0) + (1 : Int32))) 401 0 (((up3 V 406 0 0 ((V 406 0 0) + (1 : Int32))) 406 0 0)).toNatClampNeg x1) 406 0 0)).toNatClampNeg x2) 406 0 0)).toNatClampNeg ((up3 (up3 (up3 V 406 0 0 ((V 406 0 0) + (1 : Int32))) 401 0 (((up3 V 406 0 0 ((V 406 0 0) + (1 : Int32))) 406 0 0)).toNatClampNeg x1) 402 0 (((up3 (up3 V 406 0 0 ((V 406 0 0) + (1 : Int32))) 401 0 (((up3 V 406 0 0 ((V 406 0 0) + (1 : Int32))) 406 0 0)).toNatClampNeg x1) 406 0 0)).toNatClampNeg x2) 405 0 0)) 406 0 0) (up3 (up3 (up3 (up3 V 406 0 0 ((V 406 0 0) + (1 : Int32))) 401 0 (((up3 V 406 0 0 ((V 406 0 0) + (1 : Int32))) 406 0 0)).toNatClampNeg x1) 402 0 (((up3 (up3 V 406 0 0 ((V 406 0 0) + (1 : Int32))) 401 0 (((up3 V 406 0 0 ((V 406 0 0) + (1 : Int32))) 406 0 0)).toNatClampNeg x1) 406 0 0)).toNatClampNeg x2) 403 0 (((up3 (up3 (up3 V 406 0 0 ((V 406 0 0) + (1 : Int32))) 401 0 (((up3 V 406 0 0 ((V 406 0 0) + (1 : Int32))) 406 0 0)).toNatClampNeg x1) 402 0 (((up3 (up3 V 406 0 0 ((V 406 0 0) + (1 : Int32))) 401 0 (((up3 V 406 0 0 ((V 406 0 0) + (1 : Int32))) 406 0 0)).toNatClampNeg x1) 406 0 0)).toNatClampNeg x2) 406 0 0)).toNatClampNeg ((up3 (up3 (up3 V 406 0 0 ((V 406 0 0) + (1 : Int32))) 401 0 (((up3 V 406 0 0 ((V 406 0 0) + (1 : Int32))) 406 0 0)).toNatClampNeg x1) 402 0 (((up3 (up3 V 406 0 0 ((V 406 0 0) + (1 : Int32))) 401 0 (((up3 V 406 0 0 ((V 406 0 0) + (1 : Int32))) 406 0 0)).toNatClampNeg x1) 406 0 0)).toNatClampNeg x2) 405 0 0))) ∧ (¬ (V 406 0 0) < (60 : Int32) → K (-3 : Int32) V))
theorem ok_X3_keepEdition {l : Launch} {G : Gt} {E : Et} {V : Vt} {x1 : Int32} {x2 : Int32} {K : Int32 → Vt → Prop} (hE : Sg E)  (h : vc_X3_keepEdition l G E V x1 x2 K) : C_X3_keepEdition l G E V x1 x2 K := by
  unfold vc_X3_keepEdition at h
  refine Cl.of (by decide +kernel) (Nat.le_of_ble_eq_true rfl) (show Ev l G RX3 cX3_keepEdition 3 (some .int) rm_X3_keepEdition E 0 0 V 0 [(0, .ref (eA E 3 0)), (1, .int x1), (2, .int x2)] [] (Qi E K) from ?_)
  refine r_aload_n (v := .ref (eA E 3 0)) dX3_keepEdition_0 rfl (rl_ref _) ?_
  refine r_get (v := .int (V 406 0 0)) dX3_keepEdition_1 fl_RX3_49 (hE.1 3 (by decide)) rfl ?_
  refine r_bipush (v := (60 : Int32)) dX3_keepEdition_4 (by decide) ?_
  refine r_icmp_lt 12 dX3_keepEdition_6 (by decide) (fun q => ?_) (fun q => ?_)
  · have h := h.1 q
    refine r_aload_n (v := .ref (eA E 3 0)) dX3_keepEdition_12 rfl (rl_ref _) ?_
    refine r_dup dX3_keepEdition_13 rfl ?_
    refine r_get (v := .int (V 406 0 0)) dX3_keepEdition_14 fl_RX3_49 (hE.1 3 (by decide)) rfl ?_
    refine r_iconst (v := (1 : Int32)) dX3_keepEdition_17 (by decide) ?_
    refine r_iadd dX3_keepEdition_18 ?_
    refine r_put dX3_keepEdition_19 fp_RX3_49 rfl (hE.1 3 (by decide)) rfl rfl ?_
    refine r_aload_n (v := .ref (eA E 3 0)) dX3_keepEdition_22 rfl (rl_ref _) ?_
    refine r_get (v := .ref (eA E 401 0)) dX3_keepEdition_23 fl_RX3_17 (hE.1 3 (by decide)) rfl ?_
    refine r_aload_n (v := .ref (eA E 3 0)) dX3_keepEdition_26 rfl (rl_ref _) ?_
    refine r_get (v := .int ((up3 V 406 0 0 ((V 406 0 0) + (1 : Int32))) 406 0 0)) dX3_keepEdition_27 fl_RX3_49 (hE.1 3 (by decide)) rfl ?_
    refine r_iload_n (x := x1) dX3_keepEdition_30 rfl ?_
    obtain ⟨hb, h⟩ := h
    refine r_iast dX3_keepEdition_31 rfl (by decide) (hE.1 3 (by decide)) (ix hE (by decide) rfl hb) ?_
    refine r_aload_n (v := .ref (eA E 3 0)) dX3_keepEdition_32 rfl (rl_ref _) ?_
    refine r_get (v := .ref (eA E 402 0)) dX3_keepEdition_33 fl_RX3_21 (hE.1 3 (by decide)) rfl ?_
    refine r_aload_n (v := .ref (eA E 3 0)) dX3_keepEdition_36 rfl (rl_ref _) ?_
    refine r_get (v := .int ((up3 (up3 V 406 0 0 ((V 406 0 0) + (1 : Int32))) 401 0 (((up3 V 406 0 0 ((V 406 0 0) + (1 : Int32))) 406 0 0)).toNatClampNeg x1) 406 0 0)) dX3_keepEdition_37 fl_RX3_49 (hE.1 3 (by decide)) rfl ?_
    refine r_iload_n (x := x2) dX3_keepEdition_40 rfl ?_
    obtain ⟨hb, h⟩ := h
    refine r_iast dX3_keepEdition_41 rfl (by decide) (hE.1 3 (by decide)) (ix hE (by decide) rfl hb) ?_
    refine r_aload_n (v := .ref (eA E 3 0)) dX3_keepEdition_42 rfl (rl_ref _) ?_
    refine r_get (v := .ref (eA E 403 0)) dX3_keepEdition_43 fl_RX3_24 (hE.1 3 (by decide)) rfl ?_
    refine r_aload_n (v := .ref (eA E 3 0)) dX3_keepEdition_46 rfl (rl_ref _) ?_
    refine r_get (v := .int ((up3 (up3 (up3 V 406 0 0 ((V 406 0 0) + (1 : Int32))) 401 0 (((up3 V 406 0 0 ((V 406 0 0) + (1 : Int32))) 406 0 0)).toNatClampNeg x1) 402 0 (((up3 (up3 V 406 0 0 ((V 406 0 0) + (1 : Int32))) 401 0 (((up3 V 406 0 0 ((V 406 0 0) + (1 : Int32))) 406 0 0)).toNatClampNeg x1) 406 0 0)).toNatClampNeg x2) 406 0 0)) dX3_keepEdition_47 fl_RX3_49 (hE.1 3 (by decide)) rfl ?_
    refine r_aload_n (v := .ref (eA E 3 0)) dX3_keepEdition_50 rfl (rl_ref _) ?_
    refine r_get (v := .int ((up3 (up3 (up3 V 406 0 0 ((V 406 0 0) + (1 : Int32))) 401 0 (((up3 V 406 0 0 ((V 406 0 0) + (1 : Int32))) 406 0 0)).toNatClampNeg x1) 402 0 (((up3 (up3 V 406 0 0 ((V 406 0 0) + (1 : Int32))) 401 0 (((up3 V 406 0 0 ((V 406 0 0) + (1 : Int32))) 406 0 0)).toNatClampNeg x1) 406 0 0)).toNatClampNeg x2) 405 0 0)) dX3_keepEdition_51 fl_RX3_30 (hE.1 3 (by decide)) rfl ?_
    obtain ⟨hb, h⟩ := h
    refine r_iast dX3_keepEdition_54 rfl (by decide) (hE.1 3 (by decide)) (ix hE (by decide) rfl hb) ?_
    refine r_aload_n (v := .ref (eA E 3 0)) dX3_keepEdition_55 rfl (rl_ref _) ?_
    refine r_get (v := .int ((up3 (up3 (up3 (up3 V 406 0 0 ((V 406 0 0) + (1 : Int32))) 401 0 (((up3 V 406 0 0 ((V 406 0 0) + (1 : Int32))) 406 0 0)).toNatClampNeg x1) 402 0 (((up3 (up3 V 406 0 0 ((V 406 0 0) + (1 : Int32))) 401 0 (((up3 V 406 0 0 ((V 406 0 0) + (1 : Int32))) 406 0 0)).toNatClampNeg x1) 406 0 0)).toNatClampNeg x2) 403 0 (((up3 (up3 (up3 V 406 0 0 ((V 406 0 0) + (1 : Int32))) 401 0 (((up3 V 406 0 0 ((V 406 0 0) + (1 : Int32))) 406 0 0)).toNatClampNeg x1) 402 0 (((up3 (up3 V 406 0 0 ((V 406 0 0) + (1 : Int32))) 401 0 (((up3 V 406 0 0 ((V 406 0 0) + (1 : Int32))) 406 0 0)).toNatClampNeg x1) 406 0 0)).toNatClampNeg x2) 406 0 0)).toNatClampNeg ((up3 (up3 (up3 V 406 0 0 ((V 406 0 0) + (1 : Int32))) 401 0 (((up3 V 406 0 0 ((V 406 0 0) + (1 : Int32))) 406 0 0)).toNatClampNeg x1) 402 0 (((up3 (up3 V 406 0 0 ((V 406 0 0) + (1 : Int32))) 401 0 (((up3 V 406 0 0 ((V 406 0 0) + (1 : Int32))) 406 0 0)).toNatClampNeg x1) 406 0 0)).toNatClampNeg x2) 405 0 0)) 406 0 0)) dX3_keepEdition_56 fl_RX3_49 (hE.1 3 (by decide)) rfl ?_
    exact r_iret dX3_keepEdition_59 rfl ⟨Nat.le_of_ble_eq_true rfl, Nat.le_of_ble_eq_true rfl⟩ ⟨rfl, _, rfl, h⟩
  · have h := h.2 q
    refine r_bipush (v := (-3 : Int32)) dX3_keepEdition_9 (by decide) ?_
    exact r_iret dX3_keepEdition_11 rfl ⟨Nat.le_of_ble_eq_true rfl, Nat.le_of_ble_eq_true rfl⟩ ⟨rfl, _, rfl, h⟩
abbrev rm_X3_coursesIn : Room := { frames := 1, cells := 0, slots := 0, locals := 21 }
def C_X3_coursesIn (l : Launch) (G : Gt) (E : Et) (V : Vt) (x1 : Int32) (x2 : Int32) (K : Int32 → Vt → Prop) : Prop := Cl l G yX3_coursesIn cX3_coursesIn 5 (some .int) rm_X3_coursesIn E V [.ref (eA E 3 0), .int x1, .int x2] (Qi E K)
def A_X3_coursesIn_43 (l : Launch) (G : Gt) (E : Et) (V : Vt) (x2 : Int32) (o3 : Nat) (x4 : Int32) (K : Int32 → Vt → Prop) : Prop := Ev l G RX3 cX3_coursesIn 5 (some .int) rm_X3_coursesIn E 0 0 V 43 [(0, .ref (eA E 3 0)), (2, .int x2), (3, .ref (eA E 2 o3)), (4, .int x4)] [] (Qi E K)
def vc_X3_coursesIn (l : Launch) (G : Gt) (E : Et) (V : Vt) (x1 : Int32) (x2 : Int32) (K : Int32 → Vt → Prop) : Prop := (C_X3_find l G E V x2 (fun o22 V21 => ((o22 = none → K (-1 : Int32) V21) ∧ (∀ t23, o22 = some t23 → eL E 2 t23 ∧ ((x1 < (0 : Int32) → K (-1 : Int32) V21) ∧ (¬ x1 < (0 : Int32) → ((x1 ≤ (V21 406 0 0) → ((x1 ≤ (0 : Int32) → A_X3_coursesIn_43 l G E V21 x2 t23 x1 K) ∧ (¬ x1 ≤ (0 : Int32) → (vp_in x1 61) ∧ ((x2 < (V21 403 0 (x1).toNatClampNeg) → A_X3_coursesIn_43 l G E V21 x2 t23 x1 K) ∧ (¬ x2 < (V21 403 0 (x1).toNatClampNeg) → K (-1 : Int32) V21))))) ∧ (¬ x1 ≤ (V21 406 0 0) → K (-1 : Int32) V21))))))))
def vc_X3_coursesIn_43 (l : Launch) (G : Gt) (E : Et) (V : Vt) (x2 : Int32) (o3 : Nat) (x4 : Int32) (K : Int32 → Vt → Prop) : Prop := ((x4 ≤ (0 : Int32) → K (V 301 o3 0) V) ∧ (¬ x4 ≤ (0 : Int32) → (vp_in x4 61) ∧ ((¬ (V 401 0 (x4).toNatClampNeg) = x2 → A_X3_coursesIn_43 l G E V x2 o3 (x4 + (-1 : Int32)) K) ∧ ((V 401 0 (x4).toNatClampNeg) = x2 → (vp_in x4 61) ∧ K (V 402 0 (x4).toNatClampNeg) V))))
theorem ok_X3_coursesIn {l : Launch} {G : Gt} {E : Et} {V : Vt} {x1 : Int32} {x2 : Int32} {K : Int32 → Vt → Prop} (hE : Sg E)  (h : vc_X3_coursesIn l G E V x1 x2 K) : C_X3_coursesIn l G E V x1 x2 K := by
  unfold vc_X3_coursesIn at h
  refine Cl.of (by decide +kernel) (Nat.le_of_ble_eq_true rfl) (show Ev l G RX3 cX3_coursesIn 5 (some .int) rm_X3_coursesIn E 0 0 V 0 [(0, .ref (eA E 3 0)), (1, .int x1), (2, .int x2)] [] (Qi E K) from ?_)
  refine r_aload_n (v := .ref (eA E 3 0)) dX3_coursesIn_0 rfl (rl_ref _) ?_
  refine r_iload_n (x := x2) dX3_coursesIn_1 rfl ?_
  refine r_cVr (As := [.int x2]) (rest := []) dX3_coursesIn_2 mv_X3_find ml_RX3_52 ⟨_, _, rfl⟩ (hE.1 3 (by decide)) ⟨Nat.le_of_ble_eq_true rfl, Nat.le_of_ble_eq_true rfl⟩ ⟨rfl, rfl⟩ rfl rfl (Nat.le_of_ble_eq_true rfl) h (fun o22 V21 h => ?_)
  refine r_astore_n dX3_coursesIn_5 (by decide) (rl_rf _) ?_
  refine r_aload_n (v := va_rf (Option.map (eA E 2) o22)) dX3_coursesIn_6 rfl (rl_rf _) ?_
  cases hot23 : o22 with
  | none =>
    have h := h.1 hot23
    refine r_ifnull (o := none) 22 dX3_coursesIn_7 (by decide) (fun _ => ?_) (fun a q => by cases q)
    refine r_iconst (v := (-1 : Int32)) dX3_coursesIn_22 (by decide) ?_
    exact r_iret dX3_coursesIn_23 rfl ⟨Nat.le_of_ble_eq_true rfl, Nat.le_of_ble_eq_true rfl⟩ ⟨rfl, _, rfl, h⟩
  | some t23 =>
    obtain ⟨hl_t23, h⟩ := h.2 t23 hot23
    refine r_ifnull (o := some (eA E 2 t23)) 22 dX3_coursesIn_7 (by decide) (fun q => by cases q) (fun _ _ => ?_)
    refine r_iload_n (x := x1) dX3_coursesIn_10 rfl ?_
    refine r_if_lt 22 dX3_coursesIn_11 (by decide) (fun q => ?_) (fun q => ?_)
    · have h := h.1 q
      refine r_iconst (v := (-1 : Int32)) dX3_coursesIn_22 (by decide) ?_
      exact r_iret dX3_coursesIn_23 rfl ⟨Nat.le_of_ble_eq_true rfl, Nat.le_of_ble_eq_true rfl⟩ ⟨rfl, _, rfl, h⟩
    · have h := h.2 q
      refine r_iload_n (x := x1) dX3_coursesIn_14 rfl ?_
      refine r_aload_n (v := .ref (eA E 3 0)) dX3_coursesIn_15 rfl (rl_ref _) ?_
      refine r_get (v := .int (V21 406 0 0)) dX3_coursesIn_16 fl_RX3_49 (hE.1 3 (by decide)) rfl ?_
      refine r_icmp_le 24 dX3_coursesIn_19 (by decide) (fun q => ?_) (fun q => ?_)
      · have h := h.1 q
        refine r_iload_n (x := x1) dX3_coursesIn_24 rfl ?_
        refine r_if_le 40 dX3_coursesIn_25 (by decide) (fun q => ?_) (fun q => ?_)
        · have h := h.1 q
          refine r_iload_n (x := x1) dX3_coursesIn_40 rfl ?_
          refine r_istore dX3_coursesIn_41 (by decide) ?_
          exact Ev.loc [0, 2, 3, 4] rfl h
        · have h := h.2 q
          refine r_iload_n (x := x2) dX3_coursesIn_28 rfl ?_
          refine r_aload_n (v := .ref (eA E 3 0)) dX3_coursesIn_29 rfl (rl_ref _) ?_
          refine r_get (v := .ref (eA E 403 0)) dX3_coursesIn_30 fl_RX3_24 (hE.1 3 (by decide)) rfl ?_
          refine r_iload_n (x := x1) dX3_coursesIn_33 rfl ?_
          obtain ⟨hb, h⟩ := h
          refine r_iald dX3_coursesIn_34 rfl (by decide) (hE.1 3 (by decide)) (ix hE (by decide) rfl hb) ?_
          refine r_icmp_lt 40 dX3_coursesIn_35 (by decide) (fun q => ?_) (fun q => ?_)
          · have h := h.1 q
            refine r_iload_n (x := x1) dX3_coursesIn_40 rfl ?_
            refine r_istore dX3_coursesIn_41 (by decide) ?_
            exact Ev.loc [0, 2, 3, 4] rfl h
          · have h := h.2 q
            refine r_iconst (v := (-1 : Int32)) dX3_coursesIn_38 (by decide) ?_
            exact r_iret dX3_coursesIn_39 rfl ⟨Nat.le_of_ble_eq_true rfl, Nat.le_of_ble_eq_true rfl⟩ ⟨rfl, _, rfl, h⟩
      · have h := h.2 q
        refine r_iconst (v := (-1 : Int32)) dX3_coursesIn_22 (by decide) ?_
        exact r_iret dX3_coursesIn_23 rfl ⟨Nat.le_of_ble_eq_true rfl, Nat.le_of_ble_eq_true rfl⟩ ⟨rfl, _, rfl, h⟩
theorem ok_X3_coursesIn_43 {l : Launch} {G : Gt} {E : Et} {V : Vt} {x2 : Int32} {o3 : Nat} {x4 : Int32} {K : Int32 → Vt → Prop} (hE : Sg E) (hl_o3 : eL E 2 o3) (h : vc_X3_coursesIn_43 l G E V x2 o3 x4 K) : A_X3_coursesIn_43 l G E V x2 o3 x4 K := by
  unfold vc_X3_coursesIn_43 at h
  unfold A_X3_coursesIn_43
  refine r_iload (x := x4) dX3_coursesIn_43 rfl ?_
  refine r_if_le 73 dX3_coursesIn_45 (by decide) (fun q => ?_) (fun q => ?_)
  · have h := h.1 q
    refine r_aload_n (v := .ref (eA E 2 o3)) dX3_coursesIn_73 rfl (rl_ref _) ?_
    refine r_get (v := .int (V 301 o3 0)) dX3_coursesIn_74 fl_RX3_56 hl_o3 rfl ?_
    exact r_iret dX3_coursesIn_77 rfl ⟨Nat.le_of_ble_eq_true rfl, Nat.le_of_ble_eq_true rfl⟩ ⟨rfl, _, rfl, h⟩
  · have h := h.2 q
    refine r_aload_n (v := .ref (eA E 3 0)) dX3_coursesIn_48 rfl (rl_ref _) ?_
    refine r_get (v := .ref (eA E 401 0)) dX3_coursesIn_49 fl_RX3_17 (hE.1 3 (by decide)) rfl ?_
    refine r_iload (x := x4) dX3_coursesIn_52 rfl ?_
    obtain ⟨hb, h⟩ := h
    refine r_iald dX3_coursesIn_54 rfl (by decide) (hE.1 3 (by decide)) (ix hE (by decide) rfl hb) ?_
    refine r_iload_n (x := x2) dX3_coursesIn_55 rfl ?_
    refine r_icmp_ne 67 dX3_coursesIn_56 (by decide) (fun q => ?_) (fun q => ?_)
    · have h := h.1 q
      refine r_iinc (x := x4) (v := (-1 : Int32)) dX3_coursesIn_67 rfl (by decide) (by decide) ?_
      refine r_goto 43 dX3_coursesIn_70 (by decide) ?_
      exact Ev.loc [0, 1, 2, 3] rfl h
    · have h := h.2 q
      refine r_aload_n (v := .ref (eA E 3 0)) dX3_coursesIn_59 rfl (rl_ref _) ?_
      refine r_get (v := .ref (eA E 402 0)) dX3_coursesIn_60 fl_RX3_21 (hE.1 3 (by decide)) rfl ?_
      refine r_iload (x := x4) dX3_coursesIn_63 rfl ?_
      obtain ⟨hb, h⟩ := h
      refine r_iald dX3_coursesIn_65 rfl (by decide) (hE.1 3 (by decide)) (ix hE (by decide) rfl hb) ?_
      exact r_iret dX3_coursesIn_66 rfl ⟨Nat.le_of_ble_eq_true rfl, Nat.le_of_ble_eq_true rfl⟩ ⟨rfl, _, rfl, h⟩
abbrev rm_X3_isReadyBelow : Room := { frames := 2, cells := 0, slots := 0, locals := 40 }
def C_X3_isReadyBelow (l : Launch) (G : Gt) (E : Et) (V : Vt) (o1 : Nat) (K : Int32 → Vt → Prop) : Prop := Cl l G yX3_isReadyBelow cX3_isReadyBelow 4 (some .boolean) rm_X3_isReadyBelow E V [.ref (eA E 3 0), .ref (eA E 2 o1)] (Qi E K)
def A_X3_isReadyBelow_2 (l : Launch) (G : Gt) (E : Et) (V : Vt) (o1 : Nat) (x2 : Int32) (K : Int32 → Vt → Prop) : Prop := Ev l G RX3 cX3_isReadyBelow 4 (some .boolean) rm_X3_isReadyBelow E 0 0 V 2 [(0, .ref (eA E 3 0)), (1, .ref (eA E 2 o1)), (2, .int x2)] [] (Qi E K)
def vc_X3_isReadyBelow (l : Launch) (G : Gt) (E : Et) (V : Vt) (o1 : Nat) (K : Int32 → Vt → Prop) : Prop := A_X3_isReadyBelow_2 l G E V o1 (0 : Int32) K
def vc_X3_isReadyBelow_2 (l : Launch) (G : Gt) (E : Et) (V : Vt) (o1 : Nat) (x2 : Int32) (K : Int32 → Vt → Prop) : Prop := (((V 308 o1 0) ≤ x2 → K (1 : Int32) V) ∧ (¬ (V 308 o1 0) ≤ x2 → (vp_in x2 4) ∧ (C_X3_find l G E V (V 305 o1 (x2).toNatClampNeg) (fun o22 V21 => ((o22 = none → K (0 : Int32) V21) ∧ (∀ t23, o22 = some t23 → eL E 2 t23 ∧ (C_X2_isWhole l G E V21 t23 (fun x25 V24 => ((x25 = (0 : Int32) → K (0 : Int32) V24) ∧ (¬ x25 = (0 : Int32) → (C_X2_isOnCentring l G E V24 t23 (fun x27 V26 => ((x27 = (0 : Int32) → A_X3_isReadyBelow_2 l G E V26 o1 (x2 + (1 : Int32)) K) ∧ (¬ x27 = (0 : Int32) → K (0 : Int32) V26))))))))))))))
theorem ok_X3_isReadyBelow {l : Launch} {G : Gt} {E : Et} {V : Vt} {o1 : Nat} {K : Int32 → Vt → Prop} (hE : Sg E) (hl_o1 : eL E 2 o1) (h : vc_X3_isReadyBelow l G E V o1 K) : C_X3_isReadyBelow l G E V o1 K := by
  unfold vc_X3_isReadyBelow at h
  refine Cl.of (by decide +kernel) (Nat.le_of_ble_eq_true rfl) (show Ev l G RX3 cX3_isReadyBelow 4 (some .boolean) rm_X3_isReadyBelow E 0 0 V 0 [(0, .ref (eA E 3 0)), (1, .ref (eA E 2 o1))] [] (Qi E K) from ?_)
  refine r_iconst (v := (0 : Int32)) dX3_isReadyBelow_0 (by decide) ?_
  refine r_istore_n dX3_isReadyBelow_1 (by decide) ?_
  exact Ev.loc [0, 1, 2] rfl h
theorem ok_X3_isReadyBelow_2 {l : Launch} {G : Gt} {E : Et} {V : Vt} {o1 : Nat} {x2 : Int32} {K : Int32 → Vt → Prop} (hE : Sg E) (hl_o1 : eL E 2 o1) (h : vc_X3_isReadyBelow_2 l G E V o1 x2 K) : A_X3_isReadyBelow_2 l G E V o1 x2 K := by
  unfold vc_X3_isReadyBelow_2 at h
  unfold A_X3_isReadyBelow_2
  refine r_iload_n (x := x2) dX3_isReadyBelow_2 rfl ?_
  refine r_aload_n (v := .ref (eA E 2 o1)) dX3_isReadyBelow_3 rfl (rl_ref _) ?_
  refine r_get (v := .int (V 308 o1 0)) dX3_isReadyBelow_4 fl_RX3_46 hl_o1 rfl ?_
  refine r_icmp_ge 47 dX3_isReadyBelow_7 (by decide) (fun q => ?_) (fun q => ?_)
  · have h := h.1 q
    refine r_iconst (v := (1 : Int32)) dX3_isReadyBelow_47 (by decide) ?_
    exact r_zret dX3_isReadyBelow_48 rfl rfl ⟨Nat.le_of_ble_eq_true rfl, Nat.le_of_ble_eq_true rfl⟩ ⟨rfl, _, rfl, h⟩
  · have h := h.2 q
    refine r_aload_n (v := .ref (eA E 3 0)) dX3_isReadyBelow_10 rfl (rl_ref _) ?_
    refine r_aload_n (v := .ref (eA E 2 o1)) dX3_isReadyBelow_11 rfl (rl_ref _) ?_
    refine r_get (v := .ref (eA E 305 o1)) dX3_isReadyBelow_12 fl_RX3_59 hl_o1 rfl ?_
    refine r_iload_n (x := x2) dX3_isReadyBelow_15 rfl ?_
    obtain ⟨hb, h⟩ := h
    refine r_iald dX3_isReadyBelow_16 rfl (by decide) hl_o1 (ix hE (by decide) rfl hb) ?_
    refine r_cVr (As := [.int (V 305 o1 (x2).toNatClampNeg)]) (rest := []) dX3_isReadyBelow_17 mv_X3_find ml_RX3_52 ⟨_, _, rfl⟩ (hE.1 3 (by decide)) ⟨Nat.le_of_ble_eq_true rfl, Nat.le_of_ble_eq_true rfl⟩ ⟨rfl, rfl⟩ rfl rfl (Nat.le_of_ble_eq_true rfl) h (fun o22 V21 h => ?_)
    refine r_astore_n dX3_isReadyBelow_20 (by decide) (rl_rf _) ?_
    refine r_aload_n (v := va_rf (Option.map (eA E 2) o22)) dX3_isReadyBelow_21 rfl (rl_rf _) ?_
    cases hot23 : o22 with
    | none =>
      have h := h.1 hot23
      refine r_ifnull (o := none) 39 dX3_isReadyBelow_22 (by decide) (fun _ => ?_) (fun a q => by cases q)
      refine r_iconst (v := (0 : Int32)) dX3_isReadyBelow_39 (by decide) ?_
      exact r_zret dX3_isReadyBelow_40 rfl rfl ⟨Nat.le_of_ble_eq_true rfl, Nat.le_of_ble_eq_true rfl⟩ ⟨rfl, _, rfl, h⟩
    | some t23 =>
      obtain ⟨hl_t23, h⟩ := h.2 t23 hot23
      refine r_ifnull (o := some (eA E 2 t23)) 39 dX3_isReadyBelow_22 (by decide) (fun q => by cases q) (fun _ _ => ?_)
      refine r_aload_n (v := .ref (eA E 2 t23)) dX3_isReadyBelow_25 rfl (rl_ref _) ?_
      refine r_cVi (As := []) (rest := []) dX3_isReadyBelow_26 mv_X2_isWhole ml_RX3_62 ⟨_, _, rfl⟩ hl_t23 ⟨Nat.le_of_ble_eq_true rfl, Nat.le_of_ble_eq_true rfl⟩ ⟨rfl, rfl⟩ rfl rfl (Nat.le_of_ble_eq_true rfl) h (fun x25 V24 h => ?_)
      refine r_if_eq 39 dX3_isReadyBelow_29 (by decide) (fun q => ?_) (fun q => ?_)
      · have h := h.1 q
        refine r_iconst (v := (0 : Int32)) dX3_isReadyBelow_39 (by decide) ?_
        exact r_zret dX3_isReadyBelow_40 rfl rfl ⟨Nat.le_of_ble_eq_true rfl, Nat.le_of_ble_eq_true rfl⟩ ⟨rfl, _, rfl, h⟩
      · have h := h.2 q
        refine r_aload_n (v := .ref (eA E 2 t23)) dX3_isReadyBelow_32 rfl (rl_ref _) ?_
        refine r_cVi (As := []) (rest := []) dX3_isReadyBelow_33 mv_X2_isOnCentring ml_RX3_66 ⟨_, _, rfl⟩ hl_t23 ⟨Nat.le_of_ble_eq_true rfl, Nat.le_of_ble_eq_true rfl⟩ ⟨rfl, rfl⟩ rfl rfl (Nat.le_of_ble_eq_true rfl) h (fun x27 V26 h => ?_)
        refine r_if_eq 41 dX3_isReadyBelow_36 (by decide) (fun q => ?_) (fun q => ?_)
        · have h := h.1 q
          refine r_iinc (x := x2) (v := (1 : Int32)) dX3_isReadyBelow_41 rfl (by decide) (by decide) ?_
          refine r_goto 2 dX3_isReadyBelow_44 (by decide) ?_
          exact Ev.loc [0, 1, 2] rfl h
        · have h := h.2 q
          refine r_iconst (v := (0 : Int32)) dX3_isReadyBelow_39 (by decide) ?_
          exact r_zret dX3_isReadyBelow_40 rfl rfl ⟨Nat.le_of_ble_eq_true rfl, Nat.le_of_ble_eq_true rfl⟩ ⟨rfl, _, rfl, h⟩
abbrev rm_X3_ageAll : Room := { frames := 1, cells := 0, slots := 0, locals := 21 }
def C_X3_ageAll (l : Launch) (G : Gt) (E : Et) (V : Vt) (x1 : Int32) (K : Vt → Prop) : Prop := Cl l G yX3_ageAll cX3_ageAll 4 none rm_X3_ageAll E V [.ref (eA E 3 0), .int x1] (Qv E K)
def A_X3_ageAll_2 (l : Launch) (G : Gt) (E : Et) (V : Vt) (x1 : Int32) (x2 : Int32) (K : Vt → Prop) : Prop := Ev l G RX3 cX3_ageAll 4 none rm_X3_ageAll E 0 0 V 2 [(0, .ref (eA E 3 0)), (1, .int x1), (2, .int x2)] [] (Qv E K)
def vc_X3_ageAll (l : Launch) (G : Gt) (E : Et) (V : Vt) (x1 : Int32) (K : Vt → Prop) : Prop := A_X3_ageAll_2 l G E V x1 (0 : Int32) K
def vc_X3_ageAll_2 (l : Launch) (G : Gt) (E : Et) (V : Vt) (x1 : Int32) (x2 : Int32) (K : Vt → Prop) : Prop := (((V 405 0 0) ≤ x2 → K V) ∧ (¬ (V 405 0 0) ≤ x2 → (C_X3_find l G E V x2 (fun o22 V21 => ((o22 = none → A_X3_ageAll_2 l G E V21 x1 (x2 + (1 : Int32)) K) ∧ (∀ t23, o22 = some t23 → eL E 2 t23 ∧ (C_X2_isBegun l G E V21 t23 (fun x25 V24 => ((x25 = (0 : Int32) → A_X3_ageAll_2 l G E V24 x1 (x2 + (1 : Int32)) K) ∧ (¬ x25 = (0 : Int32) → A_X3_ageAll_2 l G E (up3 V24 311 t23 0 ((V24 311 t23 0) + x1)) x1 (x2 + (1 : Int32)) K))))))))))
theorem ok_X3_ageAll {l : Launch} {G : Gt} {E : Et} {V : Vt} {x1 : Int32} {K : Vt → Prop} (hE : Sg E)  (h : vc_X3_ageAll l G E V x1 K) : C_X3_ageAll l G E V x1 K := by
  unfold vc_X3_ageAll at h
  refine Cl.of (by decide +kernel) (Nat.le_of_ble_eq_true rfl) (show Ev l G RX3 cX3_ageAll 4 none rm_X3_ageAll E 0 0 V 0 [(0, .ref (eA E 3 0)), (1, .int x1)] [] (Qv E K) from ?_)
  refine r_iconst (v := (0 : Int32)) dX3_ageAll_0 (by decide) ?_
  refine r_istore_n dX3_ageAll_1 (by decide) ?_
  exact Ev.loc [0, 1, 2] rfl h
theorem ok_X3_ageAll_2 {l : Launch} {G : Gt} {E : Et} {V : Vt} {x1 : Int32} {x2 : Int32} {K : Vt → Prop} (hE : Sg E)  (h : vc_X3_ageAll_2 l G E V x1 x2 K) : A_X3_ageAll_2 l G E V x1 x2 K := by
  unfold vc_X3_ageAll_2 at h
  unfold A_X3_ageAll_2
  refine r_iload_n (x := x2) dX3_ageAll_2 rfl ?_
  refine r_aload_n (v := .ref (eA E 3 0)) dX3_ageAll_3 rfl (rl_ref _) ?_
  refine r_get (v := .int (V 405 0 0)) dX3_ageAll_4 fl_RX3_30 (hE.1 3 (by decide)) rfl ?_
  refine r_icmp_ge 43 dX3_ageAll_7 (by decide) (fun q => ?_) (fun q => ?_)
  · have h := h.1 q
    exact r_vret dX3_ageAll_43 rfl ⟨Nat.le_of_ble_eq_true rfl, Nat.le_of_ble_eq_true rfl⟩ ⟨rfl, rfl, h⟩
  · have h := h.2 q
    refine r_aload_n (v := .ref (eA E 3 0)) dX3_ageAll_10 rfl (rl_ref _) ?_
    refine r_iload_n (x := x2) dX3_ageAll_11 rfl ?_
    refine r_cVr (As := [.int x2]) (rest := []) dX3_ageAll_12 mv_X3_find ml_RX3_52 ⟨_, _, rfl⟩ (hE.1 3 (by decide)) ⟨Nat.le_of_ble_eq_true rfl, Nat.le_of_ble_eq_true rfl⟩ ⟨rfl, rfl⟩ rfl rfl (Nat.le_of_ble_eq_true rfl) h (fun o22 V21 h => ?_)
    refine r_astore_n dX3_ageAll_15 (by decide) (rl_rf _) ?_
    refine r_aload_n (v := va_rf (Option.map (eA E 2) o22)) dX3_ageAll_16 rfl (rl_rf _) ?_
    cases hot23 : o22 with
    | none =>
      have h := h.1 hot23
      refine r_ifnull (o := none) 37 dX3_ageAll_17 (by decide) (fun _ => ?_) (fun a q => by cases q)
      refine r_iinc (x := x2) (v := (1 : Int32)) dX3_ageAll_37 rfl (by decide) (by decide) ?_
      refine r_goto 2 dX3_ageAll_40 (by decide) ?_
      exact Ev.loc [0, 1, 2] rfl h
    | some t23 =>
      obtain ⟨hl_t23, h⟩ := h.2 t23 hot23
      refine r_ifnull (o := some (eA E 2 t23)) 37 dX3_ageAll_17 (by decide) (fun q => by cases q) (fun _ _ => ?_)
      refine r_aload_n (v := .ref (eA E 2 t23)) dX3_ageAll_20 rfl (rl_ref _) ?_
      refine r_cVi (As := []) (rest := []) dX3_ageAll_21 mv_X2_isBegun ml_RX3_69 ⟨_, _, rfl⟩ hl_t23 ⟨Nat.le_of_ble_eq_true rfl, Nat.le_of_ble_eq_true rfl⟩ ⟨rfl, rfl⟩ rfl rfl (Nat.le_of_ble_eq_true rfl) h (fun x25 V24 h => ?_)
      refine r_if_eq 37 dX3_ageAll_24 (by decide) (fun q => ?_) (fun q => ?_)
      · have h := h.1 q
        refine r_iinc (x := x2) (v := (1 : Int32)) dX3_ageAll_37 rfl (by decide) (by decide) ?_
        refine r_goto 2 dX3_ageAll_40 (by decide) ?_
        exact Ev.loc [0, 1, 2] rfl h
      · have h := h.2 q
        refine r_aload_n (v := .ref (eA E 2 t23)) dX3_ageAll_27 rfl (rl_ref _) ?_
        refine r_dup dX3_ageAll_28 rfl ?_
        refine r_get (v := .int (V24 311 t23 0)) dX3_ageAll_29 fl_RX3_72 hl_t23 rfl ?_
        refine r_iload_n (x := x1) dX3_ageAll_32 rfl ?_
        refine r_iadd dX3_ageAll_33 ?_
        refine r_put dX3_ageAll_34 fp_RX3_72 rfl hl_t23 rfl rfl ?_
        refine r_iinc (x := x2) (v := (1 : Int32)) dX3_ageAll_37 rfl (by decide) (by decide) ?_
        refine r_goto 2 dX3_ageAll_40 (by decide) ?_
        exact Ev.loc [0, 1, 2] rfl h
abbrev rm_X3_countBorneBy : Room := { frames := 1, cells := 0, slots := 0, locals := 22 }
def C_X3_countBorneBy (l : Launch) (G : Gt) (E : Et) (V : Vt) (x1 : Int32) (K : Int32 → Vt → Prop) : Prop := Cl l G yX3_countBorneBy cX3_countBorneBy 5 (some .int) rm_X3_countBorneBy E V [.ref (eA E 3 0), .int x1] (Qi E K)
def A_X3_countBorneBy_4 (l : Launch) (G : Gt) (E : Et) (V : Vt) (x1 : Int32) (x2 : Int32) (x3 : Int32) (K : Int32 → Vt → Prop) : Prop := Ev l G RX3 cX3_countBorneBy 5 (some .int) rm_X3_countBorneBy E 0 0 V 4 [(0, .ref (eA E 3 0)), (1, .int x1), (2, .int x2), (3, .int x3)] [] (Qi E K)
def vc_X3_countBorneBy (l : Launch) (G : Gt) (E : Et) (V : Vt) (x1 : Int32) (K : Int32 → Vt → Prop) : Prop := A_X3_countBorneBy_4 l G E V x1 (0 : Int32) (0 : Int32) K
def vc_X3_countBorneBy_4 (l : Launch) (G : Gt) (E : Et) (V : Vt) (x1 : Int32) (x2 : Int32) (x3 : Int32) (K : Int32 → Vt → Prop) : Prop := (((V 405 0 0) ≤ x3 → K x2 V) ∧ (¬ (V 405 0 0) ≤ x3 → (C_X3_find l G E V x3 (fun o22 V21 => ((o22 = none → A_X3_countBorneBy_4 l G E V21 x1 x2 (x3 + (1 : Int32)) K) ∧ (∀ t23, o22 = some t23 → eL E 2 t23 ∧ (C_X2_standsOn l G E V21 t23 x1 (fun x25 V24 => ((x25 = (0 : Int32) → A_X3_countBorneBy_4 l G E V24 x1 x2 (x3 + (1 : Int32)) K) ∧ (¬ x25 = (0 : Int32) → A_X3_countBorneBy_4 l G E V24 x1 (x2 + (1 : Int32)) (x3 + (1 : Int32)) K))))))))))
theorem ok_X3_countBorneBy {l : Launch} {G : Gt} {E : Et} {V : Vt} {x1 : Int32} {K : Int32 → Vt → Prop} (hE : Sg E)  (h : vc_X3_countBorneBy l G E V x1 K) : C_X3_countBorneBy l G E V x1 K := by
  unfold vc_X3_countBorneBy at h
  refine Cl.of (by decide +kernel) (Nat.le_of_ble_eq_true rfl) (show Ev l G RX3 cX3_countBorneBy 5 (some .int) rm_X3_countBorneBy E 0 0 V 0 [(0, .ref (eA E 3 0)), (1, .int x1)] [] (Qi E K) from ?_)
  refine r_iconst (v := (0 : Int32)) dX3_countBorneBy_0 (by decide) ?_
  refine r_istore_n dX3_countBorneBy_1 (by decide) ?_
  refine r_iconst (v := (0 : Int32)) dX3_countBorneBy_2 (by decide) ?_
  refine r_istore_n dX3_countBorneBy_3 (by decide) ?_
  exact Ev.loc [0, 1, 2, 3] rfl h
theorem ok_X3_countBorneBy_4 {l : Launch} {G : Gt} {E : Et} {V : Vt} {x1 : Int32} {x2 : Int32} {x3 : Int32} {K : Int32 → Vt → Prop} (hE : Sg E)  (h : vc_X3_countBorneBy_4 l G E V x1 x2 x3 K) : A_X3_countBorneBy_4 l G E V x1 x2 x3 K := by
  unfold vc_X3_countBorneBy_4 at h
  unfold A_X3_countBorneBy_4
  refine r_iload_n (x := x3) dX3_countBorneBy_4 rfl ?_
  refine r_aload_n (v := .ref (eA E 3 0)) dX3_countBorneBy_5 rfl (rl_ref _) ?_
  refine r_get (v := .int (V 405 0 0)) dX3_countBorneBy_6 fl_RX3_30 (hE.1 3 (by decide)) rfl ?_
  refine r_icmp_ge 42 dX3_countBorneBy_9 (by decide) (fun q => ?_) (fun q => ?_)
  · have h := h.1 q
    refine r_iload_n (x := x2) dX3_countBorneBy_42 rfl ?_
    exact r_iret dX3_countBorneBy_43 rfl ⟨Nat.le_of_ble_eq_true rfl, Nat.le_of_ble_eq_true rfl⟩ ⟨rfl, _, rfl, h⟩
  · have h := h.2 q
    refine r_aload_n (v := .ref (eA E 3 0)) dX3_countBorneBy_12 rfl (rl_ref _) ?_
    refine r_iload_n (x := x3) dX3_countBorneBy_13 rfl ?_
    refine r_cVr (As := [.int x3]) (rest := []) dX3_countBorneBy_14 mv_X3_find ml_RX3_52 ⟨_, _, rfl⟩ (hE.1 3 (by decide)) ⟨Nat.le_of_ble_eq_true rfl, Nat.le_of_ble_eq_true rfl⟩ ⟨rfl, rfl⟩ rfl rfl (Nat.le_of_ble_eq_true rfl) h (fun o22 V21 h => ?_)
    refine r_astore dX3_countBorneBy_17 (by decide) (rl_rf _) ?_
    refine r_aload (v := va_rf (Option.map (eA E 2) o22)) dX3_countBorneBy_19 rfl (rl_rf _) ?_
    cases hot23 : o22 with
    | none =>
      have h := h.1 hot23
      refine r_ifnull (o := none) 36 dX3_countBorneBy_21 (by decide) (fun _ => ?_) (fun a q => by cases q)
      refine r_iinc (x := x3) (v := (1 : Int32)) dX3_countBorneBy_36 rfl (by decide) (by decide) ?_
      refine r_goto 4 dX3_countBorneBy_39 (by decide) ?_
      exact Ev.loc [0, 1, 2, 3] rfl h
    | some t23 =>
      obtain ⟨hl_t23, h⟩ := h.2 t23 hot23
      refine r_ifnull (o := some (eA E 2 t23)) 36 dX3_countBorneBy_21 (by decide) (fun q => by cases q) (fun _ _ => ?_)
      refine r_aload (v := .ref (eA E 2 t23)) dX3_countBorneBy_24 rfl (rl_ref _) ?_
      refine r_iload_n (x := x1) dX3_countBorneBy_26 rfl ?_
      refine r_cVi (As := [.int x1]) (rest := []) dX3_countBorneBy_27 mv_X2_standsOn ml_RX3_75 ⟨_, _, rfl⟩ hl_t23 ⟨Nat.le_of_ble_eq_true rfl, Nat.le_of_ble_eq_true rfl⟩ ⟨rfl, rfl⟩ rfl rfl (Nat.le_of_ble_eq_true rfl) h (fun x25 V24 h => ?_)
      refine r_if_eq 36 dX3_countBorneBy_30 (by decide) (fun q => ?_) (fun q => ?_)
      · have h := h.1 q
        refine r_iinc (x := x3) (v := (1 : Int32)) dX3_countBorneBy_36 rfl (by decide) (by decide) ?_
        refine r_goto 4 dX3_countBorneBy_39 (by decide) ?_
        exact Ev.loc [0, 1, 2, 3] rfl h
      · have h := h.2 q
        refine r_iinc (x := x2) (v := (1 : Int32)) dX3_countBorneBy_33 rfl (by decide) (by decide) ?_
        refine r_iinc (x := x3) (v := (1 : Int32)) dX3_countBorneBy_36 rfl (by decide) (by decide) ?_
        refine r_goto 4 dX3_countBorneBy_39 (by decide) ?_
        exact Ev.loc [0, 1, 2, 3] rfl h
abbrev rm_X3_countLaid : Room := { frames := 1, cells := 0, slots := 0, locals := 21 }
def C_X3_countLaid (l : Launch) (G : Gt) (E : Et) (V : Vt)  (K : Int32 → Vt → Prop) : Prop := Cl l G yX3_countLaid cX3_countLaid 4 (some .int) rm_X3_countLaid E V [.ref (eA E 3 0)] (Qi E K)
def A_X3_countLaid_4 (l : Launch) (G : Gt) (E : Et) (V : Vt) (x1 : Int32) (x2 : Int32) (K : Int32 → Vt → Prop) : Prop := Ev l G RX3 cX3_countLaid 4 (some .int) rm_X3_countLaid E 0 0 V 4 [(0, .ref (eA E 3 0)), (1, .int x1), (2, .int x2)] [] (Qi E K)
def vc_X3_countLaid (l : Launch) (G : Gt) (E : Et) (V : Vt)  (K : Int32 → Vt → Prop) : Prop := A_X3_countLaid_4 l G E V (0 : Int32) (0 : Int32) K
def vc_X3_countLaid_4 (l : Launch) (G : Gt) (E : Et) (V : Vt) (x1 : Int32) (x2 : Int32) (K : Int32 → Vt → Prop) : Prop := (((V 405 0 0) ≤ x2 → K x1 V) ∧ (¬ (V 405 0 0) ≤ x2 → (C_X3_find l G E V x2 (fun o22 V21 => ((o22 = none → A_X3_countLaid_4 l G E V21 x1 (x2 + (1 : Int32)) K) ∧ (∀ t23, o22 = some t23 → eL E 2 t23 ∧ A_X3_countLaid_4 l G E V21 (x1 + (V21 310 t23 0)) (x2 + (1 : Int32)) K))))))
theorem ok_X3_countLaid {l : Launch} {G : Gt} {E : Et} {V : Vt}  {K : Int32 → Vt → Prop} (hE : Sg E)  (h : vc_X3_countLaid l G E V  K) : C_X3_countLaid l G E V  K := by
  unfold vc_X3_countLaid at h
  refine Cl.of (by decide +kernel) (Nat.le_of_ble_eq_true rfl) (show Ev l G RX3 cX3_countLaid 4 (some .int) rm_X3_countLaid E 0 0 V 0 [(0, .ref (eA E 3 0))] [] (Qi E K) from ?_)
  refine r_iconst (v := (0 : Int32)) dX3_countLaid_0 (by decide) ?_
  refine r_istore_n dX3_countLaid_1 (by decide) ?_
  refine r_iconst (v := (0 : Int32)) dX3_countLaid_2 (by decide) ?_
  refine r_istore_n dX3_countLaid_3 (by decide) ?_
  exact Ev.loc [0, 1, 2] rfl h
theorem ok_X3_countLaid_4 {l : Launch} {G : Gt} {E : Et} {V : Vt} {x1 : Int32} {x2 : Int32} {K : Int32 → Vt → Prop} (hE : Sg E)  (h : vc_X3_countLaid_4 l G E V x1 x2 K) : A_X3_countLaid_4 l G E V x1 x2 K := by
  unfold vc_X3_countLaid_4 at h
  unfold A_X3_countLaid_4
  refine r_iload_n (x := x2) dX3_countLaid_4 rfl ?_
  refine r_aload_n (v := .ref (eA E 3 0)) dX3_countLaid_5 rfl (rl_ref _) ?_
  refine r_get (v := .int (V 405 0 0)) dX3_countLaid_6 fl_RX3_30 (hE.1 3 (by decide)) rfl ?_
  refine r_icmp_ge 35 dX3_countLaid_9 (by decide) (fun q => ?_) (fun q => ?_)
  · have h := h.1 q
    refine r_iload_n (x := x1) dX3_countLaid_35 rfl ?_
    exact r_iret dX3_countLaid_36 rfl ⟨Nat.le_of_ble_eq_true rfl, Nat.le_of_ble_eq_true rfl⟩ ⟨rfl, _, rfl, h⟩
  · have h := h.2 q
    refine r_aload_n (v := .ref (eA E 3 0)) dX3_countLaid_12 rfl (rl_ref _) ?_
    refine r_iload_n (x := x2) dX3_countLaid_13 rfl ?_
    refine r_cVr (As := [.int x2]) (rest := []) dX3_countLaid_14 mv_X3_find ml_RX3_52 ⟨_, _, rfl⟩ (hE.1 3 (by decide)) ⟨Nat.le_of_ble_eq_true rfl, Nat.le_of_ble_eq_true rfl⟩ ⟨rfl, rfl⟩ rfl rfl (Nat.le_of_ble_eq_true rfl) h (fun o22 V21 h => ?_)
    refine r_astore_n dX3_countLaid_17 (by decide) (rl_rf _) ?_
    refine r_aload_n (v := va_rf (Option.map (eA E 2) o22)) dX3_countLaid_18 rfl (rl_rf _) ?_
    cases hot23 : o22 with
    | none =>
      have h := h.1 hot23
      refine r_ifnull (o := none) 29 dX3_countLaid_19 (by decide) (fun _ => ?_) (fun a q => by cases q)
      refine r_iinc (x := x2) (v := (1 : Int32)) dX3_countLaid_29 rfl (by decide) (by decide) ?_
      refine r_goto 4 dX3_countLaid_32 (by decide) ?_
      exact Ev.loc [0, 1, 2] rfl h
    | some t23 =>
      obtain ⟨hl_t23, h⟩ := h.2 t23 hot23
      refine r_ifnull (o := some (eA E 2 t23)) 29 dX3_countLaid_19 (by decide) (fun q => by cases q) (fun _ _ => ?_)
      refine r_iload_n (x := x1) dX3_countLaid_22 rfl ?_
      refine r_aload_n (v := .ref (eA E 2 t23)) dX3_countLaid_23 rfl (rl_ref _) ?_
      refine r_get (v := .int (V21 310 t23 0)) dX3_countLaid_24 fl_RX3_78 hl_t23 rfl ?_
      refine r_iadd dX3_countLaid_27 ?_
      refine r_istore_n dX3_countLaid_28 (by decide) ?_
      refine r_iinc (x := x2) (v := (1 : Int32)) dX3_countLaid_29 rfl (by decide) (by decide) ?_
      refine r_goto 4 dX3_countLaid_32 (by decide) ?_
      exact Ev.loc [0, 1, 2] rfl h
abbrev rm_X5_passDown : Room := { frames := 1, cells := 0, slots := 0, locals := 24 }
def C_X5_passDown (l : Launch) (G : Gt) (E : Et) (V : Vt) (o1 : Nat) (x2 : Int32) (K : Vt → Prop) : Prop := Cl l G yX5_passDown cX5_passDown 4 none rm_X5_passDown E V [.ref (eA E 5 0), .ref (eA E 2 o1), .int x2] (Qv E K)
def A_X5_passDown_2 (l : Launch) (G : Gt) (E : Et) (V : Vt) (o1 : Nat) (x2 : Int32) (x3 : Int32) (K : Vt → Prop) : Prop := Ev l G RX5 cX5_passDown 4 none rm_X5_passDown E 0 0 V 2 [(0, .ref (eA E 5 0)), (1, .ref (eA E 2 o1)), (2, .int x2), (3, .int x3)] [] (Qv E K)
def vc_X5_passDown (l : Launch) (G : Gt) (E : Et) (V : Vt) (o1 : Nat) (x2 : Int32) (K : Vt → Prop) : Prop := A_X5_passDown_2 l G E V o1 x2 (0 : Int32) K
def vc_X5_passDown_2 (l : Launch) (G : Gt) (E : Et) (V : Vt) (o1 : Nat) (x2 : Int32) (x3 : Int32) (K : Vt → Prop) : Prop := (((V 308 o1 0) ≤ x3 → K V) ∧ (¬ (V 308 o1 0) ≤ x3 → (vp_in x3 4) ∧ (vp_in (V 305 o1 (x3).toNatClampNeg) 40) ∧ (C_X2_portion l G E V o1 x2 x3 (fun x22 V21 => (vp_in (V 305 o1 (x3).toNatClampNeg) 40) ∧ A_X5_passDown_2 l G E (up3 V21 600 0 ((V 305 o1 (x3).toNatClampNeg)).toNatClampNeg ((V 600 0 ((V 305 o1 (x3).toNatClampNeg)).toNatClampNeg) + x22)) o1 x2 (x3 + (1 : Int32)) K))))
theorem ok_X5_passDown {l : Launch} {G : Gt} {E : Et} {V : Vt} {o1 : Nat} {x2 : Int32} {K : Vt → Prop} (hE : Sg E) (hl_o1 : eL E 2 o1) (h : vc_X5_passDown l G E V o1 x2 K) : C_X5_passDown l G E V o1 x2 K := by
  unfold vc_X5_passDown at h
  refine Cl.of (by decide +kernel) (Nat.le_of_ble_eq_true rfl) (show Ev l G RX5 cX5_passDown 4 none rm_X5_passDown E 0 0 V 0 [(0, .ref (eA E 5 0)), (1, .ref (eA E 2 o1)), (2, .int x2)] [] (Qv E K) from ?_)
  refine r_iconst (v := (0 : Int32)) dX5_passDown_0 (by decide) ?_
  refine r_istore_n dX5_passDown_1 (by decide) ?_
  exact Ev.loc [0, 1, 2, 3] rfl h
theorem ok_X5_passDown_2 {l : Launch} {G : Gt} {E : Et} {V : Vt} {o1 : Nat} {x2 : Int32} {x3 : Int32} {K : Vt → Prop} (hE : Sg E) (hl_o1 : eL E 2 o1) (h : vc_X5_passDown_2 l G E V o1 x2 x3 K) : A_X5_passDown_2 l G E V o1 x2 x3 K := by
  unfold vc_X5_passDown_2 at h
  unfold A_X5_passDown_2
  refine r_iload_n (x := x3) dX5_passDown_2 rfl ?_
  refine r_aload_n (v := .ref (eA E 2 o1)) dX5_passDown_3 rfl (rl_ref _) ?_
  refine r_get (v := .int (V 308 o1 0)) dX5_passDown_4 fl_RX5_53 hl_o1 rfl ?_
  refine r_icmp_ge 36 dX5_passDown_7 (by decide) (fun q => ?_) (fun q => ?_)
  · have h := h.1 q
    exact r_vret dX5_passDown_36 rfl ⟨Nat.le_of_ble_eq_true rfl, Nat.le_of_ble_eq_true rfl⟩ ⟨rfl, rfl, h⟩
  · have h := h.2 q
    refine r_aload_n (v := .ref (eA E 5 0)) dX5_passDown_10 rfl (rl_ref _) ?_
    refine r_get (v := .ref (eA E 600 0)) dX5_passDown_11 fl_RX5_9 (hE.1 5 (by decide)) rfl ?_
    refine r_aload_n (v := .ref (eA E 2 o1)) dX5_passDown_14 rfl (rl_ref _) ?_
    refine r_get (v := .ref (eA E 305 o1)) dX5_passDown_15 fl_RX5_56 hl_o1 rfl ?_
    refine r_iload_n (x := x3) dX5_passDown_18 rfl ?_
    obtain ⟨hb, h⟩ := h
    refine r_iald dX5_passDown_19 rfl (by decide) hl_o1 (ix hE (by decide) rfl hb) ?_
    refine r_dup2 dX5_passDown_20 rfl rfl ?_
    obtain ⟨hb, h⟩ := h
    refine r_iald dX5_passDown_21 rfl (by decide) (hE.1 5 (by decide)) (ix hE (by decide) rfl hb) ?_
    refine r_aload_n (v := .ref (eA E 2 o1)) dX5_passDown_22 rfl (rl_ref _) ?_
    refine r_iload_n (x := x2) dX5_passDown_23 rfl ?_
    refine r_iload_n (x := x3) dX5_passDown_24 rfl ?_
    refine r_cVi (As := [.int x2, .int x3]) (rest := [.int (V 600 0 ((V 305 o1 (x3).toNatClampNeg)).toNatClampNeg), .int (V 305 o1 (x3).toNatClampNeg), .ref (eA E 600 0)]) dX5_passDown_25 mv_X2_portion ml_RX5_59 ⟨_, _, rfl⟩ hl_o1 ⟨Nat.le_of_ble_eq_true rfl, Nat.le_of_ble_eq_true rfl⟩ ⟨rfl, rfl⟩ rfl rfl (Nat.le_of_ble_eq_true rfl) h (fun x22 V21 h => ?_)
    refine r_iadd dX5_passDown_28 ?_
    obtain ⟨hb, h⟩ := h
    refine r_iast dX5_passDown_29 rfl (by decide) (hE.1 5 (by decide)) (ix hE (by decide) rfl hb) ?_
    refine r_iinc (x := x3) (v := (1 : Int32)) dX5_passDown_30 rfl (by decide) (by decide) ?_
    refine r_goto 2 dX5_passDown_33 (by decide) ?_
    exact Ev.loc [0, 1, 2, 3] rfl h
abbrev rm_X5_pushAside : Room := { frames := 1, cells := 0, slots := 0, locals := 20 }
def C_X5_pushAside (l : Launch) (G : Gt) (E : Et) (V : Vt) (o1 : Nat) (x2 : Int32) (K : Vt → Prop) : Prop := Cl l G yX5_pushAside cX5_pushAside 4 none rm_X5_pushAside E V [.ref (eA E 5 0), .ref (eA E 2 o1), .int x2] (Qv E K)
def vc_X5_pushAside (l : Launch) (G : Gt) (E : Et) (V : Vt) (o1 : Nat) (x2 : Int32) (K : Vt → Prop) : Prop := ((¬ (V 300 o1 0) = (1 : Int32) → K V) ∧ ((V 300 o1 0) = (1 : Int32) → (C_X2_isBegun l G E V o1 (fun x22 V21 => ((x22 = (0 : Int32) → K V21) ∧ (¬ x22 = (0 : Int32) → (((V21 308 o1 0) < (2 : Int32) → K V21) ∧ (¬ (V21 308 o1 0) < (2 : Int32) → (vp_in (2 : Int32) 4) ∧ (vp_in (0 : Int32) 4) ∧ (vp_in (V21 305 o1 ((0 : Int32)).toNatClampNeg) 40) ∧ (vp_in (V21 305 o1 ((0 : Int32)).toNatClampNeg) 40) ∧ (vp_in (1 : Int32) 4) ∧ (vp_in ((up3 V21 601 0 ((V21 305 o1 ((0 : Int32)).toNatClampNeg)).toNatClampNeg ((V21 601 0 ((V21 305 o1 ((0 : Int32)).toNatClampNeg)).toNatClampNeg) - ((x2 * (V21 304 o1 ((2 : Int32)).toNatClampNeg)) / (100 : Int32)))) 305 o1 ((1 : Int32)).toNatClampNeg) 40) ∧ (vp_in ((up3 V21 601 0 ((V21 305 o1 ((0 : Int32)).toNatClampNeg)).toNatClampNeg ((V21 601 0 ((V21 305 o1 ((0 : Int32)).toNatClampNeg)).toNatClampNeg) - ((x2 * (V21 304 o1 ((2 : Int32)).toNatClampNeg)) / (100 : Int32)))) 305 o1 ((1 : Int32)).toNatClampNeg) 40) ∧ K (up3 (up3 V21 601 0 ((V21 305 o1 ((0 : Int32)).toNatClampNeg)).toNatClampNeg ((V21 601 0 ((V21 305 o1 ((0 : Int32)).toNatClampNeg)).toNatClampNeg) - ((x2 * (V21 304 o1 ((2 : Int32)).toNatClampNeg)) / (100 : Int32)))) 601 0 (((up3 V21 601 0 ((V21 305 o1 ((0 : Int32)).toNatClampNeg)).toNatClampNeg ((V21 601 0 ((V21 305 o1 ((0 : Int32)).toNatClampNeg)).toNatClampNeg) - ((x2 * (V21 304 o1 ((2 : Int32)).toNatClampNeg)) / (100 : Int32)))) 305 o1 ((1 : Int32)).toNatClampNeg)).toNatClampNeg (((up3 V21 601 0 ((V21 305 o1 ((0 : Int32)).toNatClampNeg)).toNatClampNeg ((V21 601 0 ((V21 305 o1 ((0 : Int32)).toNatClampNeg)).toNatClampNeg) - ((x2 * (V21 304 o1 ((2 : Int32)).toNatClampNeg)) / (100 : Int32)))) 601 0 (((up3 V21 601 0 ((V21 305 o1 ((0 : Int32)).toNatClampNeg)).toNatClampNeg ((V21 601 0 ((V21 305 o1 ((0 : Int32)).toNatClampNeg)).toNatClampNeg) - ((x2 * (V21 304 o1 ((2 : Int32)).toNatClampNeg)) / (100 : Int32)))) 305 o1 ((1 : Int32)).toNatClampNeg)).toNatClampNeg) + ((x2 * (V21 304 o1 ((2 : Int32)).toNatClampNeg)) / (100 : Int32))))))))))))
theorem ok_X5_pushAside {l : Launch} {G : Gt} {E : Et} {V : Vt} {o1 : Nat} {x2 : Int32} {K : Vt → Prop} (hE : Sg E) (hl_o1 : eL E 2 o1) (h : vc_X5_pushAside l G E V o1 x2 K) : C_X5_pushAside l G E V o1 x2 K := by
  unfold vc_X5_pushAside at h
  refine Cl.of (by decide +kernel) (Nat.le_of_ble_eq_true rfl) (show Ev l G RX5 cX5_pushAside 4 none rm_X5_pushAside E 0 0 V 0 [(0, .ref (eA E 5 0)), (1, .ref (eA E 2 o1)), (2, .int x2)] [] (Qv E K) from ?_)
  refine r_aload_n (v := .ref (eA E 2 o1)) dX5_pushAside_0 rfl (rl_ref _) ?_
  refine r_get (v := .int (V 300 o1 0)) dX5_pushAside_1 fl_RX5_63 hl_o1 rfl ?_
  refine r_iconst (v := (1 : Int32)) dX5_pushAside_4 (by decide) ?_
  refine r_icmp_ne 65 dX5_pushAside_5 (by decide) (fun q => ?_) (fun q => ?_)
  · have h := h.1 q
    exact r_vret dX5_pushAside_65 rfl ⟨Nat.le_of_ble_eq_true rfl, Nat.le_of_ble_eq_true rfl⟩ ⟨rfl, rfl, h⟩
  · have h := h.2 q
    refine r_aload_n (v := .ref (eA E 2 o1)) dX5_pushAside_8 rfl (rl_ref _) ?_
    refine r_cVi (As := []) (rest := []) dX5_pushAside_9 mv_X2_isBegun ml_RX5_66 ⟨_, _, rfl⟩ hl_o1 ⟨Nat.le_of_ble_eq_true rfl, Nat.le_of_ble_eq_true rfl⟩ ⟨rfl, rfl⟩ rfl rfl (Nat.le_of_ble_eq_true rfl) h (fun x22 V21 h => ?_)
    refine r_if_eq 65 dX5_pushAside_12 (by decide) (fun q => ?_) (fun q => ?_)
    · have h := h.1 q
      exact r_vret dX5_pushAside_65 rfl ⟨Nat.le_of_ble_eq_true rfl, Nat.le_of_ble_eq_true rfl⟩ ⟨rfl, rfl, h⟩
    · have h := h.2 q
      refine r_aload_n (v := .ref (eA E 2 o1)) dX5_pushAside_15 rfl (rl_ref _) ?_
      refine r_get (v := .int (V21 308 o1 0)) dX5_pushAside_16 fl_RX5_53 hl_o1 rfl ?_
      refine r_iconst (v := (2 : Int32)) dX5_pushAside_19 (by decide) ?_
      refine r_icmp_lt 65 dX5_pushAside_20 (by decide) (fun q => ?_) (fun q => ?_)
      · have h := h.1 q
        exact r_vret dX5_pushAside_65 rfl ⟨Nat.le_of_ble_eq_true rfl, Nat.le_of_ble_eq_true rfl⟩ ⟨rfl, rfl, h⟩
      · have h := h.2 q
        refine r_iload_n (x := x2) dX5_pushAside_23 rfl ?_
        refine r_aload_n (v := .ref (eA E 2 o1)) dX5_pushAside_24 rfl (rl_ref _) ?_
        refine r_get (v := .ref (eA E 304 o1)) dX5_pushAside_25 fl_RX5_69 hl_o1 rfl ?_
        refine r_iconst (v := (2 : Int32)) dX5_pushAside_28 (by decide) ?_
        obtain ⟨hb, h⟩ := h
        refine r_iald dX5_pushAside_29 rfl (by decide) hl_o1 (ix hE (by decide) rfl hb) ?_
        refine r_imul dX5_pushAside_30 ?_
        refine r_bipush (v := (100 : Int32)) dX5_pushAside_31 (by decide) ?_
        refine r_idiv dX5_pushAside_33 (by decide) ?_
        refine r_istore_n dX5_pushAside_34 (by decide) ?_
        refine r_aload_n (v := .ref (eA E 5 0)) dX5_pushAside_35 rfl (rl_ref _) ?_
        refine r_get (v := .ref (eA E 601 0)) dX5_pushAside_36 fl_RX5_15 (hE.1 5 (by decide)) rfl ?_
        refine r_aload_n (v := .ref (eA E 2 o1)) dX5_pushAside_39 rfl (rl_ref _) ?_
        refine r_get (v := .ref (eA E 305 o1)) dX5_pushAside_40 fl_RX5_56 hl_o1 rfl ?_
        refine r_iconst (v := (0 : Int32)) dX5_pushAside_43 (by decide) ?_
        obtain ⟨hb, h⟩ := h
        refine r_iald dX5_pushAside_44 rfl (by decide) hl_o1 (ix hE (by decide) rfl hb) ?_
        refine r_dup2 dX5_pushAside_45 rfl rfl ?_
        obtain ⟨hb, h⟩ := h
        refine r_iald dX5_pushAside_46 rfl (by decide) (hE.1 5 (by decide)) (ix hE (by decide) rfl hb) ?_
        refine r_iload_n (x := ((x2 * (V21 304 o1 ((2 : Int32)).toNatClampNeg)) / (100 : Int32))) dX5_pushAside_47 rfl ?_
        refine r_isub dX5_pushAside_48 ?_
        obtain ⟨hb, h⟩ := h
        refine r_iast dX5_pushAside_49 rfl (by decide) (hE.1 5 (by decide)) (ix hE (by decide) rfl hb) ?_
        refine r_aload_n (v := .ref (eA E 5 0)) dX5_pushAside_50 rfl (rl_ref _) ?_
        refine r_get (v := .ref (eA E 601 0)) dX5_pushAside_51 fl_RX5_15 (hE.1 5 (by decide)) rfl ?_
        refine r_aload_n (v := .ref (eA E 2 o1)) dX5_pushAside_54 rfl (rl_ref _) ?_
        refine r_get (v := .ref (eA E 305 o1)) dX5_pushAside_55 fl_RX5_56 hl_o1 rfl ?_
        refine r_iconst (v := (1 : Int32)) dX5_pushAside_58 (by decide) ?_
        obtain ⟨hb, h⟩ := h
        refine r_iald dX5_pushAside_59 rfl (by decide) hl_o1 (ix hE (by decide) rfl hb) ?_
        refine r_dup2 dX5_pushAside_60 rfl rfl ?_
        obtain ⟨hb, h⟩ := h
        refine r_iald dX5_pushAside_61 rfl (by decide) (hE.1 5 (by decide)) (ix hE (by decide) rfl hb) ?_
        refine r_iload_n (x := ((x2 * (V21 304 o1 ((2 : Int32)).toNatClampNeg)) / (100 : Int32))) dX5_pushAside_62 rfl ?_
        refine r_iadd dX5_pushAside_63 ?_
        obtain ⟨hb, h⟩ := h
        refine r_iast dX5_pushAside_64 rfl (by decide) (hE.1 5 (by decide)) (ix hE (by decide) rfl hb) ?_
        exact r_vret dX5_pushAside_65 rfl ⟨Nat.le_of_ble_eq_true rfl, Nat.le_of_ble_eq_true rfl⟩ ⟨rfl, rfl, h⟩
abbrev rm_X5_weigh : Room := { frames := 2, cells := 0, slots := 0, locals := 47 }
def C_X5_weigh (l : Launch) (G : Gt) (E : Et) (V : Vt)  (K : Vt → Prop) : Prop := Cl l G yX5_weigh cX5_weigh 4 none rm_X5_weigh E V [.ref (eA E 5 0), .ref (eA E 3 0)] (Qv E K)
def A_X5_weigh_23 (l : Launch) (G : Gt) (E : Et) (V : Vt) (x2 : Int32) (K : Vt → Prop) : Prop := Ev l G RX5 cX5_weigh 4 none rm_X5_weigh E 0 0 V 23 [(0, .ref (eA E 5 0)), (1, .ref (eA E 3 0)), (2, .int x2)] [] (Qv E K)
def vc_X5_weigh (l : Launch) (G : Gt) (E : Et) (V : Vt)  (K : Vt → Prop) : Prop := (C_J7_fill_53178 l G E V 600 (0 : Int32) (fun V21 => (C_J7_fill_53178 l G E V21 601 (0 : Int32) (fun V22 => A_X5_weigh_23 l G E V22 ((V22 405 0 0) - (1 : Int32)) K))))
def vc_X5_weigh_23 (l : Launch) (G : Gt) (E : Et) (V : Vt) (x2 : Int32) (K : Vt → Prop) : Prop := ((x2 < (0 : Int32) → K V) ∧ (¬ x2 < (0 : Int32) → (C_X3_find l G E V x2 (fun o24 V23 => ((o24 = none → A_X5_weigh_23 l G E V23 (x2 + (-1 : Int32)) K) ∧ (∀ t25, o24 = some t25 → eL E 2 t25 ∧ (vp_in x2 40) ∧ (vp_in x2 40) ∧ (C_X2_isOnCentring l G E (up3 V23 600 0 (x2).toNatClampNeg ((V23 600 0 (x2).toNatClampNeg) + ((V23 310 t25 0) * (V23 302 t25 0)))) t25 (fun x27 V26 => ((¬ x27 = (0 : Int32) → A_X5_weigh_23 l G E V26 (x2 + (-1 : Int32)) K) ∧ (x27 = (0 : Int32) → (vp_in x2 40) ∧ (C_X5_passDown l G E V26 t25 (V26 600 0 (x2).toNatClampNeg) (fun V28 => (vp_in x2 40) ∧ (C_X5_pushAside l G E V28 t25 (V28 600 0 (x2).toNatClampNeg) (fun V29 => A_X5_weigh_23 l G E V29 (x2 + (-1 : Int32)) K))))))))))))))
theorem ok_X5_weigh {l : Launch} {G : Gt} {E : Et} {V : Vt}  {K : Vt → Prop} (hE : Sg E)  (h : vc_X5_weigh l G E V  K) : C_X5_weigh l G E V  K := by
  unfold vc_X5_weigh at h
  refine Cl.of (by decide +kernel) (Nat.le_of_ble_eq_true rfl) (show Ev l G RX5 cX5_weigh 4 none rm_X5_weigh E 0 0 V 0 [(0, .ref (eA E 5 0)), (1, .ref (eA E 3 0))] [] (Qv E K) from ?_)
  refine r_aload_n (v := .ref (eA E 5 0)) dX5_weigh_0 rfl (rl_ref _) ?_
  refine r_get (v := .ref (eA E 600 0)) dX5_weigh_1 fl_RX5_9 (hE.1 5 (by decide)) rfl ?_
  refine r_iconst (v := (0 : Int32)) dX5_weigh_4 (by decide) ?_
  refine r_cSv (As := [.ref (eA E 600 0), .int (0 : Int32)]) (rest := []) dX5_weigh_5 ms_J7_fill_53178 ml_RX5_18 ⟨Nat.le_of_ble_eq_true rfl, Nat.le_of_ble_eq_true rfl⟩ ⟨rfl, rfl⟩ rfl rfl (Nat.le_of_ble_eq_true rfl) h (fun V21 h => ?_)
  refine r_aload_n (v := .ref (eA E 5 0)) dX5_weigh_8 rfl (rl_ref _) ?_
  refine r_get (v := .ref (eA E 601 0)) dX5_weigh_9 fl_RX5_15 (hE.1 5 (by decide)) rfl ?_
  refine r_iconst (v := (0 : Int32)) dX5_weigh_12 (by decide) ?_
  refine r_cSv (As := [.ref (eA E 601 0), .int (0 : Int32)]) (rest := []) dX5_weigh_13 ms_J7_fill_53178 ml_RX5_18 ⟨Nat.le_of_ble_eq_true rfl, Nat.le_of_ble_eq_true rfl⟩ ⟨rfl, rfl⟩ rfl rfl (Nat.le_of_ble_eq_true rfl) h (fun V22 h => ?_)
  refine r_aload_n (v := .ref (eA E 3 0)) dX5_weigh_16 rfl (rl_ref _) ?_
  refine r_get (v := .int (V22 405 0 0)) dX5_weigh_17 fl_RX5_24 (hE.1 3 (by decide)) rfl ?_
  refine r_iconst (v := (1 : Int32)) dX5_weigh_20 (by decide) ?_
  refine r_isub dX5_weigh_21 ?_
  refine r_istore_n dX5_weigh_22 (by decide) ?_
  exact Ev.loc [0, 1, 2] rfl h
theorem ok_X5_weigh_23 {l : Launch} {G : Gt} {E : Et} {V : Vt} {x2 : Int32} {K : Vt → Prop} (hE : Sg E)  (h : vc_X5_weigh_23 l G E V x2 K) : A_X5_weigh_23 l G E V x2 K := by
  unfold vc_X5_weigh_23 at h
  unfold A_X5_weigh_23
  refine r_iload_n (x := x2) dX5_weigh_23 rfl ?_
  refine r_if_lt 90 dX5_weigh_24 (by decide) (fun q => ?_) (fun q => ?_)
  · have h := h.1 q
    exact r_vret dX5_weigh_90 rfl ⟨Nat.le_of_ble_eq_true rfl, Nat.le_of_ble_eq_true rfl⟩ ⟨rfl, rfl, h⟩
  · have h := h.2 q
    refine r_aload_n (v := .ref (eA E 3 0)) dX5_weigh_27 rfl (rl_ref _) ?_
    refine r_iload_n (x := x2) dX5_weigh_28 rfl ?_
    refine r_cVr (As := [.int x2]) (rest := []) dX5_weigh_29 mv_X3_find ml_RX5_30 ⟨_, _, rfl⟩ (hE.1 3 (by decide)) ⟨Nat.le_of_ble_eq_true rfl, Nat.le_of_ble_eq_true rfl⟩ ⟨rfl, rfl⟩ rfl rfl (Nat.le_of_ble_eq_true rfl) h (fun o24 V23 h => ?_)
    refine r_astore_n dX5_weigh_32 (by decide) (rl_rf _) ?_
    refine r_aload_n (v := va_rf (Option.map (eA E 2) o24)) dX5_weigh_33 rfl (rl_rf _) ?_
    cases hot25 : o24 with
    | none =>
      have h := h.1 hot25
      refine r_ifnull (o := none) 84 dX5_weigh_34 (by decide) (fun _ => ?_) (fun a q => by cases q)
      refine r_iinc (x := x2) (v := (-1 : Int32)) dX5_weigh_84 rfl (by decide) (by decide) ?_
      refine r_goto 23 dX5_weigh_87 (by decide) ?_
      exact Ev.loc [0, 1, 2] rfl h
    | some t25 =>
      obtain ⟨hl_t25, h⟩ := h.2 t25 hot25
      refine r_ifnull (o := some (eA E 2 t25)) 84 dX5_weigh_34 (by decide) (fun q => by cases q) (fun _ _ => ?_)
      refine r_aload_n (v := .ref (eA E 5 0)) dX5_weigh_37 rfl (rl_ref _) ?_
      refine r_get (v := .ref (eA E 600 0)) dX5_weigh_38 fl_RX5_9 (hE.1 5 (by decide)) rfl ?_
      refine r_iload_n (x := x2) dX5_weigh_41 rfl ?_
      refine r_dup2 dX5_weigh_42 rfl rfl ?_
      obtain ⟨hb, h⟩ := h
      refine r_iald dX5_weigh_43 rfl (by decide) (hE.1 5 (by decide)) (ix hE (by decide) rfl hb) ?_
      refine r_aload_n (v := .ref (eA E 2 t25)) dX5_weigh_44 rfl (rl_ref _) ?_
      refine r_get (v := .int (V23 310 t25 0)) dX5_weigh_45 fl_RX5_34 hl_t25 rfl ?_
      refine r_aload_n (v := .ref (eA E 2 t25)) dX5_weigh_48 rfl (rl_ref _) ?_
      refine r_get (v := .int (V23 302 t25 0)) dX5_weigh_49 fl_RX5_39 hl_t25 rfl ?_
      refine r_imul dX5_weigh_52 ?_
      refine r_iadd dX5_weigh_53 ?_
      obtain ⟨hb, h⟩ := h
      refine r_iast dX5_weigh_54 rfl (by decide) (hE.1 5 (by decide)) (ix hE (by decide) rfl hb) ?_
      refine r_aload_n (v := .ref (eA E 2 t25)) dX5_weigh_55 rfl (rl_ref _) ?_
      refine r_cVi (As := []) (rest := []) dX5_weigh_56 mv_X2_isOnCentring ml_RX5_42 ⟨_, _, rfl⟩ hl_t25 ⟨Nat.le_of_ble_eq_true rfl, Nat.le_of_ble_eq_true rfl⟩ ⟨rfl, rfl⟩ rfl rfl (Nat.le_of_ble_eq_true rfl) h (fun x27 V26 h => ?_)
      refine r_if_ne 84 dX5_weigh_59 (by decide) (fun q => ?_) (fun q => ?_)
      · have h := h.1 q
        refine r_iinc (x := x2) (v := (-1 : Int32)) dX5_weigh_84 rfl (by decide) (by decide) ?_
        refine r_goto 23 dX5_weigh_87 (by decide) ?_
        exact Ev.loc [0, 1, 2] rfl h
      · have h := h.2 q
        refine r_aload_n (v := .ref (eA E 5 0)) dX5_weigh_62 rfl (rl_ref _) ?_
        refine r_aload_n (v := .ref (eA E 2 t25)) dX5_weigh_63 rfl (rl_ref _) ?_
        refine r_aload_n (v := .ref (eA E 5 0)) dX5_weigh_64 rfl (rl_ref _) ?_
        refine r_get (v := .ref (eA E 600 0)) dX5_weigh_65 fl_RX5_9 (hE.1 5 (by decide)) rfl ?_
        refine r_iload_n (x := x2) dX5_weigh_68 rfl ?_
        obtain ⟨hb, h⟩ := h
        refine r_iald dX5_weigh_69 rfl (by decide) (hE.1 5 (by decide)) (ix hE (by decide) rfl hb) ?_
        refine r_cVv (As := [.ref (eA E 2 t25), .int (V26 600 0 (x2).toNatClampNeg)]) (rest := []) dX5_weigh_70 mv_X5_passDown ml_RX5_46 ⟨_, _, rfl⟩ (hE.1 5 (by decide)) ⟨Nat.le_of_ble_eq_true rfl, Nat.le_of_ble_eq_true rfl⟩ ⟨rfl, rfl⟩ rfl rfl (Nat.le_of_ble_eq_true rfl) h (fun V28 h => ?_)
        refine r_aload_n (v := .ref (eA E 5 0)) dX5_weigh_73 rfl (rl_ref _) ?_
        refine r_aload_n (v := .ref (eA E 2 t25)) dX5_weigh_74 rfl (rl_ref _) ?_
        refine r_aload_n (v := .ref (eA E 5 0)) dX5_weigh_75 rfl (rl_ref _) ?_
        refine r_get (v := .ref (eA E 600 0)) dX5_weigh_76 fl_RX5_9 (hE.1 5 (by decide)) rfl ?_
        refine r_iload_n (x := x2) dX5_weigh_79 rfl ?_
        obtain ⟨hb, h⟩ := h
        refine r_iald dX5_weigh_80 rfl (by decide) (hE.1 5 (by decide)) (ix hE (by decide) rfl hb) ?_
        refine r_cVv (As := [.ref (eA E 2 t25), .int (V28 600 0 (x2).toNatClampNeg)]) (rest := []) dX5_weigh_81 mv_X5_pushAside ml_RX5_50 ⟨_, _, rfl⟩ (hE.1 5 (by decide)) ⟨Nat.le_of_ble_eq_true rfl, Nat.le_of_ble_eq_true rfl⟩ ⟨rfl, rfl⟩ rfl rfl (Nat.le_of_ble_eq_true rfl) h (fun V29 h => ?_)
        refine r_iinc (x := x2) (v := (-1 : Int32)) dX5_weigh_84 rfl (by decide) (by decide) ?_
        refine r_goto 23 dX5_weigh_87 (by decide) ?_
        exact Ev.loc [0, 1, 2] rfl h
abbrev rm_X5_leastFalling : Room := { frames := 3, cells := 0, slots := 0, locals := 70 }
def C_X5_leastFalling (l : Launch) (G : Gt) (E : Et) (V : Vt)  (K : Int32 → Vt → Prop) : Prop := Cl l G yX5_leastFalling cX5_leastFalling 4 (some .int) rm_X5_leastFalling E V [.ref (eA E 5 0), .ref (eA E 3 0)] (Qi E K)
def A_X5_leastFalling_7 (l : Launch) (G : Gt) (E : Et) (V : Vt) (x2 : Int32) (K : Int32 → Vt → Prop) : Prop := Ev l G RX5 cX5_leastFalling 4 (some .int) rm_X5_leastFalling E 0 0 V 7 [(0, .ref (eA E 5 0)), (1, .ref (eA E 3 0)), (2, .int x2)] [] (Qi E K)
def vc_X5_leastFalling (l : Launch) (G : Gt) (E : Et) (V : Vt)  (K : Int32 → Vt → Prop) : Prop := (C_X5_weigh l G E V (fun V21 => A_X5_leastFalling_7 l G E V21 (0 : Int32) K))
def vc_X5_leastFalling_7 (l : Launch) (G : Gt) (E : Et) (V : Vt) (x2 : Int32) (K : Int32 → Vt → Prop) : Prop := (((V 405 0 0) ≤ x2 → K (-5 : Int32) V) ∧ (¬ (V 405 0 0) ≤ x2 → (C_X3_find l G E V x2 (fun o23 V22 => ((o23 = none → A_X5_leastFalling_7 l G E V22 (x2 + (1 : Int32)) K) ∧ (∀ t24, o23 = some t24 → eL E 2 t24 ∧ (C_X2_isBegun l G E V22 t24 (fun x26 V25 => ((x26 = (0 : Int32) → A_X5_leastFalling_7 l G E V25 (x2 + (1 : Int32)) K) ∧ (¬ x26 = (0 : Int32) → (C_X2_isOnCentring l G E V25 t24 (fun x28 V27 => ((¬ x28 = (0 : Int32) → A_X5_leastFalling_7 l G E V27 (x2 + (1 : Int32)) K) ∧ (x28 = (0 : Int32) → (vp_in x2 40) ∧ (vp_in (0 : Int32) 4) ∧ (((V27 600 0 (x2).toNatClampNeg) ≤ (V27 304 t24 ((0 : Int32)).toNatClampNeg) → (vp_in x2 40) ∧ (vp_in (1 : Int32) 4) ∧ (vp_in x2 40) ∧ (((if (0 : Int32) ≤ (V27 601 0 (x2).toNatClampNeg) then (V27 601 0 (x2).toNatClampNeg) else (0 : Int32) - (V27 601 0 (x2).toNatClampNeg)) ≤ (((V27 304 t24 ((1 : Int32)).toNatClampNeg) + (V27 312 t24 0)) + ((V27 600 0 (x2).toNatClampNeg) / (4 : Int32))) → A_X5_leastFalling_7 l G E V27 (x2 + (1 : Int32)) K) ∧ (¬ (if (0 : Int32) ≤ (V27 601 0 (x2).toNatClampNeg) then (V27 601 0 (x2).toNatClampNeg) else (0 : Int32) - (V27 601 0 (x2).toNatClampNeg)) ≤ (((V27 304 t24 ((1 : Int32)).toNatClampNeg) + (V27 312 t24 0)) + ((V27 600 0 (x2).toNatClampNeg) / (4 : Int32))) → K (x2 + (100 : Int32)) V27))) ∧ (¬ (V27 600 0 (x2).toNatClampNeg) ≤ (V27 304 t24 ((0 : Int32)).toNatClampNeg) → K x2 V27))))))))))))))))
theorem ok_X5_leastFalling {l : Launch} {G : Gt} {E : Et} {V : Vt}  {K : Int32 → Vt → Prop} (hE : Sg E)  (h : vc_X5_leastFalling l G E V  K) : C_X5_leastFalling l G E V  K := by
  unfold vc_X5_leastFalling at h
  refine Cl.of (by decide +kernel) (Nat.le_of_ble_eq_true rfl) (show Ev l G RX5 cX5_leastFalling 4 (some .int) rm_X5_leastFalling E 0 0 V 0 [(0, .ref (eA E 5 0)), (1, .ref (eA E 3 0))] [] (Qi E K) from ?_)
  refine r_aload_n (v := .ref (eA E 5 0)) dX5_leastFalling_0 rfl (rl_ref _) ?_
  refine r_aload_n (v := .ref (eA E 3 0)) dX5_leastFalling_1 rfl (rl_ref _) ?_
  refine r_cVv (As := [.ref (eA E 3 0)]) (rest := []) dX5_leastFalling_2 mv_X5_weigh ml_RX5_72 ⟨_, _, rfl⟩ (hE.1 5 (by decide)) ⟨Nat.le_of_ble_eq_true rfl, Nat.le_of_ble_eq_true rfl⟩ ⟨rfl, rfl⟩ rfl rfl (Nat.le_of_ble_eq_true rfl) h (fun V21 h => ?_)
  refine r_iconst (v := (0 : Int32)) dX5_leastFalling_5 (by decide) ?_
  refine r_istore_n dX5_leastFalling_6 (by decide) ?_
  exact Ev.loc [0, 1, 2] rfl h
theorem ok_X5_leastFalling_7 {l : Launch} {G : Gt} {E : Et} {V : Vt} {x2 : Int32} {K : Int32 → Vt → Prop} (hE : Sg E)  (h : vc_X5_leastFalling_7 l G E V x2 K) : A_X5_leastFalling_7 l G E V x2 K := by
  unfold vc_X5_leastFalling_7 at h
  unfold A_X5_leastFalling_7
  refine r_iload_n (x := x2) dX5_leastFalling_7 rfl ?_
  refine r_aload_n (v := .ref (eA E 3 0)) dX5_leastFalling_8 rfl (rl_ref _) ?_
  refine r_get (v := .int (V 405 0 0)) dX5_leastFalling_9 fl_RX5_24 (hE.1 3 (by decide)) rfl ?_
  refine r_icmp_ge 99 dX5_leastFalling_12 (by decide) (fun q => ?_) (fun q => ?_)
  · have h := h.1 q
    refine r_bipush (v := (-5 : Int32)) dX5_leastFalling_99 (by decide) ?_
    exact r_iret dX5_leastFalling_101 rfl ⟨Nat.le_of_ble_eq_true rfl, Nat.le_of_ble_eq_true rfl⟩ ⟨rfl, _, rfl, h⟩
  · have h := h.2 q
    refine r_aload_n (v := .ref (eA E 3 0)) dX5_leastFalling_15 rfl (rl_ref _) ?_
    refine r_iload_n (x := x2) dX5_leastFalling_16 rfl ?_
    refine r_cVr (As := [.int x2]) (rest := []) dX5_leastFalling_17 mv_X3_find ml_RX5_30 ⟨_, _, rfl⟩ (hE.1 3 (by decide)) ⟨Nat.le_of_ble_eq_true rfl, Nat.le_of_ble_eq_true rfl⟩ ⟨rfl, rfl⟩ rfl rfl (Nat.le_of_ble_eq_true rfl) h (fun o23 V22 h => ?_)
    refine r_astore_n dX5_leastFalling_20 (by decide) (rl_rf _) ?_
    refine r_aload_n (v := va_rf (Option.map (eA E 2) o23)) dX5_leastFalling_21 rfl (rl_rf _) ?_
    cases hot24 : o23 with
    | none =>
      have h := h.1 hot24
      refine r_ifnull (o := none) 93 dX5_leastFalling_22 (by decide) (fun _ => ?_) (fun a q => by cases q)
      refine r_iinc (x := x2) (v := (1 : Int32)) dX5_leastFalling_93 rfl (by decide) (by decide) ?_
      refine r_goto 7 dX5_leastFalling_96 (by decide) ?_
      exact Ev.loc [0, 1, 2] rfl h
    | some t24 =>
      obtain ⟨hl_t24, h⟩ := h.2 t24 hot24
      refine r_ifnull (o := some (eA E 2 t24)) 93 dX5_leastFalling_22 (by decide) (fun q => by cases q) (fun _ _ => ?_)
      refine r_aload_n (v := .ref (eA E 2 t24)) dX5_leastFalling_25 rfl (rl_ref _) ?_
      refine r_cVi (As := []) (rest := []) dX5_leastFalling_26 mv_X2_isBegun ml_RX5_66 ⟨_, _, rfl⟩ hl_t24 ⟨Nat.le_of_ble_eq_true rfl, Nat.le_of_ble_eq_true rfl⟩ ⟨rfl, rfl⟩ rfl rfl (Nat.le_of_ble_eq_true rfl) h (fun x26 V25 h => ?_)
      refine r_if_eq 93 dX5_leastFalling_29 (by decide) (fun q => ?_) (fun q => ?_)
      · have h := h.1 q
        refine r_iinc (x := x2) (v := (1 : Int32)) dX5_leastFalling_93 rfl (by decide) (by decide) ?_
        refine r_goto 7 dX5_leastFalling_96 (by decide) ?_
        exact Ev.loc [0, 1, 2] rfl h
      · have h := h.2 q
        refine r_aload_n (v := .ref (eA E 2 t24)) dX5_leastFalling_32 rfl (rl_ref _) ?_
        refine r_cVi (As := []) (rest := []) dX5_leastFalling_33 mv_X2_isOnCentring ml_RX5_42 ⟨_, _, rfl⟩ hl_t24 ⟨Nat.le_of_ble_eq_true rfl, Nat.le_of_ble_eq_true rfl⟩ ⟨rfl, rfl⟩ rfl rfl (Nat.le_of_ble_eq_true rfl) h (fun x28 V27 h => ?_)
        refine r_if_ne 93 dX5_leastFalling_36 (by decide) (fun q => ?_) (fun q => ?_)
        · have h := h.1 q
          refine r_iinc (x := x2) (v := (1 : Int32)) dX5_leastFalling_93 rfl (by decide) (by decide) ?_
          refine r_goto 7 dX5_leastFalling_96 (by decide) ?_
          exact Ev.loc [0, 1, 2] rfl h
        · have h := h.2 q
          refine r_aload_n (v := .ref (eA E 5 0)) dX5_leastFalling_39 rfl (rl_ref _) ?_
          refine r_get (v := .ref (eA E 600 0)) dX5_leastFalling_40 fl_RX5_9 (hE.1 5 (by decide)) rfl ?_
          refine r_iload_n (x := x2) dX5_leastFalling_43 rfl ?_
          obtain ⟨hb, h⟩ := h
          refine r_iald dX5_leastFalling_44 rfl (by decide) (hE.1 5 (by decide)) (ix hE (by decide) rfl hb) ?_
          refine r_aload_n (v := .ref (eA E 2 t24)) dX5_leastFalling_45 rfl (rl_ref _) ?_
          refine r_get (v := .ref (eA E 304 t24)) dX5_leastFalling_46 fl_RX5_69 hl_t24 rfl ?_
          refine r_iconst (v := (0 : Int32)) dX5_leastFalling_49 (by decide) ?_
          obtain ⟨hb, h⟩ := h
          refine r_iald dX5_leastFalling_50 rfl (by decide) hl_t24 (ix hE (by decide) rfl hb) ?_
          refine r_icmp_le 56 dX5_leastFalling_51 (by decide) (fun q => ?_) (fun q => ?_)
          · have h := h.1 q
            refine r_aload_n (v := .ref (eA E 5 0)) dX5_leastFalling_56 rfl (rl_ref _) ?_
            refine r_get (v := .ref (eA E 601 0)) dX5_leastFalling_57 fl_RX5_15 (hE.1 5 (by decide)) rfl ?_
            refine r_iload_n (x := x2) dX5_leastFalling_60 rfl ?_
            obtain ⟨hb, h⟩ := h
            refine r_iald dX5_leastFalling_61 rfl (by decide) (hE.1 5 (by decide)) (ix hE (by decide) rfl hb) ?_
            refine r_mabs dX5_leastFalling_62 ml_RX5_76 (Nat.le_of_ble_eq_true rfl) (Nat.le_of_ble_eq_true rfl) ?_
            refine r_aload_n (v := .ref (eA E 2 t24)) dX5_leastFalling_65 rfl (rl_ref _) ?_
            refine r_get (v := .ref (eA E 304 t24)) dX5_leastFalling_66 fl_RX5_69 hl_t24 rfl ?_
            refine r_iconst (v := (1 : Int32)) dX5_leastFalling_69 (by decide) ?_
            obtain ⟨hb, h⟩ := h
            refine r_iald dX5_leastFalling_70 rfl (by decide) hl_t24 (ix hE (by decide) rfl hb) ?_
            refine r_aload_n (v := .ref (eA E 2 t24)) dX5_leastFalling_71 rfl (rl_ref _) ?_
            refine r_get (v := .int (V27 312 t24 0)) dX5_leastFalling_72 fl_RX5_82 hl_t24 rfl ?_
            refine r_iadd dX5_leastFalling_75 ?_
            refine r_aload_n (v := .ref (eA E 5 0)) dX5_leastFalling_76 rfl (rl_ref _) ?_
            refine r_get (v := .ref (eA E 600 0)) dX5_leastFalling_77 fl_RX5_9 (hE.1 5 (by decide)) rfl ?_
            refine r_iload_n (x := x2) dX5_leastFalling_80 rfl ?_
            obtain ⟨hb, h⟩ := h
            refine r_iald dX5_leastFalling_81 rfl (by decide) (hE.1 5 (by decide)) (ix hE (by decide) rfl hb) ?_
            refine r_iconst (v := (4 : Int32)) dX5_leastFalling_82 (by decide) ?_
            refine r_idiv dX5_leastFalling_83 (by decide) ?_
            refine r_iadd dX5_leastFalling_84 ?_
            refine r_icmp_le 93 dX5_leastFalling_85 (by decide) (fun q => ?_) (fun q => ?_)
            · have h := h.1 q
              refine r_iinc (x := x2) (v := (1 : Int32)) dX5_leastFalling_93 rfl (by decide) (by decide) ?_
              refine r_goto 7 dX5_leastFalling_96 (by decide) ?_
              exact Ev.loc [0, 1, 2] rfl h
            · have h := h.2 q
              refine r_iload_n (x := x2) dX5_leastFalling_88 rfl ?_
              refine r_bipush (v := (100 : Int32)) dX5_leastFalling_89 (by decide) ?_
              refine r_iadd dX5_leastFalling_91 ?_
              exact r_iret dX5_leastFalling_92 rfl ⟨Nat.le_of_ble_eq_true rfl, Nat.le_of_ble_eq_true rfl⟩ ⟨rfl, _, rfl, h⟩
          · have h := h.2 q
            refine r_iload_n (x := x2) dX5_leastFalling_54 rfl ?_
            exact r_iret dX5_leastFalling_55 rfl ⟨Nat.le_of_ble_eq_true rfl, Nat.le_of_ble_eq_true rfl⟩ ⟨rfl, _, rfl, h⟩

abbrev rm_X0_isAhead : Room := { frames := 0, cells := 0, slots := 0, locals := 0 }
def C_X0_isAhead (l : Launch) (G : Gt) (E : Et) (V : Vt) (x1 : Int32) (K : Int32 → Vt → Prop) : Prop := Cl l G yX0_isAhead cX0_isAhead 2 (some .boolean) rm_X0_isAhead E V [.ref (eA E 0 0), .int x1] (Qi E K)
def vc_X0_isAhead (l : Launch) (G : Gt) (E : Et) (V : Vt) (x1 : Int32) (K : Int32 → Vt → Prop) : Prop := ((x1 < (V 101 0 0) → K (0 : Int32) V) ∧ (¬ x1 < (V 101 0 0) → (((1200 : Int32) < x1 → K (0 : Int32) V) ∧ (¬ (1200 : Int32) < x1 → K (1 : Int32) V))))
theorem ok_X0_isAhead {l : Launch} {G : Gt} {E : Et} {V : Vt} {x1 : Int32} {K : Int32 → Vt → Prop} (hE : Sg E)  (h : vc_X0_isAhead l G E V x1 K) : C_X0_isAhead l G E V x1 K := by
  unfold vc_X0_isAhead at h
  refine Cl.of (by decide +kernel) (Nat.le_of_ble_eq_true rfl) (show Ev l G RX0 cX0_isAhead 2 (some .boolean) rm_X0_isAhead E 0 0 V 0 [(0, .ref (eA E 0 0)), (1, .int x1)] [] (Qi E K) from ?_)
  refine r_iload_n (x := x1) dX0_isAhead_0 rfl ?_
  refine r_aload_n (v := .ref (eA E 0 0)) dX0_isAhead_1 rfl (rl_ref _) ?_
  refine r_get (v := .int (V 101 0 0)) dX0_isAhead_2 fl_RX0_15 (hE.1 0 (by decide)) rfl ?_
  refine r_icmp_lt 19 dX0_isAhead_5 (by decide) (fun q => ?_) (fun q => ?_)
  · have h := h.1 q
    refine r_iconst (v := (0 : Int32)) dX0_isAhead_19 (by decide) ?_
    exact r_zret dX0_isAhead_20 rfl rfl ⟨Nat.le_of_ble_eq_true rfl, Nat.le_of_ble_eq_true rfl⟩ ⟨rfl, _, rfl, h⟩
  · have h := h.2 q
    refine r_iload_n (x := x1) dX0_isAhead_8 rfl ?_
    refine r_sipush (v := (1200 : Int32)) dX0_isAhead_9 (by decide) ?_
    refine r_icmp_gt 19 dX0_isAhead_12 (by decide) (fun q => ?_) (fun q => ?_)
    · have h := h.1 q
      refine r_iconst (v := (0 : Int32)) dX0_isAhead_19 (by decide) ?_
      exact r_zret dX0_isAhead_20 rfl rfl ⟨Nat.le_of_ble_eq_true rfl, Nat.le_of_ble_eq_true rfl⟩ ⟨rfl, _, rfl, h⟩
    · have h := h.2 q
      refine r_iconst (v := (1 : Int32)) dX0_isAhead_15 (by decide) ?_
      refine r_goto 20 dX0_isAhead_16 (by decide) ?_
      exact r_zret dX0_isAhead_20 rfl rfl ⟨Nat.le_of_ble_eq_true rfl, Nat.le_of_ble_eq_true rfl⟩ ⟨rfl, _, rfl, h⟩
abbrev rm_X0_hasFrost : Room := { frames := 0, cells := 0, slots := 0, locals := 0 }
def C_X0_hasFrost (l : Launch) (G : Gt) (E : Et) (V : Vt) (x1 : Int32) (K : Int32 → Vt → Prop) : Prop := Cl l G yX0_hasFrost cX0_hasFrost 2 (some .boolean) rm_X0_hasFrost E V [.ref (eA E 0 0), .int x1] (Qi E K)
def vc_X0_hasFrost (l : Launch) (G : Gt) (E : Et) (V : Vt) (x1 : Int32) (K : Int32 → Vt → Prop) : Prop := (vp_in (x1 / (12 : Int32)) 101) ∧ (((((V 102 0 0) ||| (V 100 0 ((x1 / (12 : Int32))).toNatClampNeg)) &&& ((1 : Int32) <<< ((x1 - x1 / (12 : Int32) * (12 : Int32)) &&& 31))) = (0 : Int32) → K (0 : Int32) V) ∧ (¬ (((V 102 0 0) ||| (V 100 0 ((x1 / (12 : Int32))).toNatClampNeg)) &&& ((1 : Int32) <<< ((x1 - x1 / (12 : Int32) * (12 : Int32)) &&& 31))) = (0 : Int32) → K (1 : Int32) V))
theorem ok_X0_hasFrost {l : Launch} {G : Gt} {E : Et} {V : Vt} {x1 : Int32} {K : Int32 → Vt → Prop} (hE : Sg E)  (h : vc_X0_hasFrost l G E V x1 K) : C_X0_hasFrost l G E V x1 K := by
  unfold vc_X0_hasFrost at h
  refine Cl.of (by decide +kernel) (Nat.le_of_ble_eq_true rfl) (show Ev l G RX0 cX0_hasFrost 2 (some .boolean) rm_X0_hasFrost E 0 0 V 0 [(0, .ref (eA E 0 0)), (1, .int x1)] [] (Qi E K) from ?_)
  refine r_aload_n (v := .ref (eA E 0 0)) dX0_hasFrost_0 rfl (rl_ref _) ?_
  refine r_get (v := .int (V 102 0 0)) dX0_hasFrost_1 fl_RX0_19 (hE.1 0 (by decide)) rfl ?_
  refine r_aload_n (v := .ref (eA E 0 0)) dX0_hasFrost_4 rfl (rl_ref _) ?_
  refine r_get (v := .ref (eA E 100 0)) dX0_hasFrost_5 fl_RX0_9 (hE.1 0 (by decide)) rfl ?_
  refine r_iload_n (x := x1) dX0_hasFrost_8 rfl ?_
  refine r_bipush (v := (12 : Int32)) dX0_hasFrost_9 (by decide) ?_
  refine r_idiv dX0_hasFrost_11 (by decide) ?_
  obtain ⟨hb, h⟩ := h
  refine r_iald dX0_hasFrost_12 rfl (by decide) (hE.1 0 (by decide)) (ix hE (by decide) rfl hb) ?_
  refine r_ior dX0_hasFrost_13 ?_
  refine r_iconst (v := (1 : Int32)) dX0_hasFrost_14 (by decide) ?_
  refine r_iload_n (x := x1) dX0_hasFrost_15 rfl ?_
  refine r_bipush (v := (12 : Int32)) dX0_hasFrost_16 (by decide) ?_
  refine r_irem dX0_hasFrost_18 (by decide) ?_
  refine r_ishl dX0_hasFrost_19 ?_
  refine r_iand dX0_hasFrost_20 ?_
  refine r_if_eq 28 dX0_hasFrost_21 (by decide) (fun q => ?_) (fun q => ?_)
  · have h := h.1 q
    refine r_iconst (v := (0 : Int32)) dX0_hasFrost_28 (by decide) ?_
    exact r_zret dX0_hasFrost_29 rfl rfl ⟨Nat.le_of_ble_eq_true rfl, Nat.le_of_ble_eq_true rfl⟩ ⟨rfl, _, rfl, h⟩
  · have h := h.2 q
    refine r_iconst (v := (1 : Int32)) dX0_hasFrost_24 (by decide) ?_
    refine r_goto 29 dX0_hasFrost_25 (by decide) ?_
    exact r_zret dX0_hasFrost_29 rfl rfl ⟨Nat.le_of_ble_eq_true rfl, Nat.le_of_ble_eq_true rfl⟩ ⟨rfl, _, rfl, h⟩
abbrev rm_X0_makeBitter : Room := { frames := 0, cells := 0, slots := 0, locals := 0 }
def C_X0_makeBitter (l : Launch) (G : Gt) (E : Et) (V : Vt) (x1 : Int32) (K : Int32 → Vt → Prop) : Prop := Cl l G yX0_makeBitter cX0_makeBitter 4 (some .boolean) rm_X0_makeBitter E V [.ref (eA E 0 0), .int x1] (Qi E K)
def vc_X0_makeBitter (l : Launch) (G : Gt) (E : Et) (V : Vt) (x1 : Int32) (K : Int32 → Vt → Prop) : Prop := (vp_in (x1 / (12 : Int32)) 101) ∧ ((((V 100 0 ((x1 / (12 : Int32))).toNatClampNeg) &&& ((1 : Int32) <<< ((x1 - x1 / (12 : Int32) * (12 : Int32)) &&& 31))) = (0 : Int32) → (vp_in (x1 / (12 : Int32)) 101) ∧ (vp_in (x1 / (12 : Int32)) 101) ∧ ((¬ (0 : Int32) = (0 : Int32) → K (0 : Int32) (up3 V 100 0 ((x1 / (12 : Int32))).toNatClampNeg ((V 100 0 ((x1 / (12 : Int32))).toNatClampNeg) ||| ((1 : Int32) <<< ((x1 - x1 / (12 : Int32) * (12 : Int32)) &&& 31))))) ∧ ((0 : Int32) = (0 : Int32) → K (1 : Int32) (up3 V 100 0 ((x1 / (12 : Int32))).toNatClampNeg ((V 100 0 ((x1 / (12 : Int32))).toNatClampNeg) ||| ((1 : Int32) <<< ((x1 - x1 / (12 : Int32) * (12 : Int32)) &&& 31))))))) ∧ (¬ ((V 100 0 ((x1 / (12 : Int32))).toNatClampNeg) &&& ((1 : Int32) <<< ((x1 - x1 / (12 : Int32) * (12 : Int32)) &&& 31))) = (0 : Int32) → (vp_in (x1 / (12 : Int32)) 101) ∧ (vp_in (x1 / (12 : Int32)) 101) ∧ ((¬ (1 : Int32) = (0 : Int32) → K (0 : Int32) (up3 V 100 0 ((x1 / (12 : Int32))).toNatClampNeg ((V 100 0 ((x1 / (12 : Int32))).toNatClampNeg) ||| ((1 : Int32) <<< ((x1 - x1 / (12 : Int32) * (12 : Int32)) &&& 31))))) ∧ ((1 : Int32) = (0 : Int32) → K (1 : Int32) (up3 V 100 0 ((x1 / (12 : Int32))).toNatClampNeg ((V 100 0 ((x1 / (12 : Int32))).toNatClampNeg) ||| ((1 : Int32) <<< ((x1 - x1 / (12 : Int32) * (12 : Int32)) &&& 31))))))))
theorem ok_X0_makeBitter {l : Launch} {G : Gt} {E : Et} {V : Vt} {x1 : Int32} {K : Int32 → Vt → Prop} (hE : Sg E)  (h : vc_X0_makeBitter l G E V x1 K) : C_X0_makeBitter l G E V x1 K := by
  unfold vc_X0_makeBitter at h
  refine Cl.of (by decide +kernel) (Nat.le_of_ble_eq_true rfl) (show Ev l G RX0 cX0_makeBitter 4 (some .boolean) rm_X0_makeBitter E 0 0 V 0 [(0, .ref (eA E 0 0)), (1, .int x1)] [] (Qi E K) from ?_)
  refine r_iconst (v := (1 : Int32)) dX0_makeBitter_0 (by decide) ?_
  refine r_iload_n (x := x1) dX0_makeBitter_1 rfl ?_
  refine r_bipush (v := (12 : Int32)) dX0_makeBitter_2 (by decide) ?_
  refine r_irem dX0_makeBitter_4 (by decide) ?_
  refine r_ishl dX0_makeBitter_5 ?_
  refine r_istore_n dX0_makeBitter_6 (by decide) ?_
  refine r_aload_n (v := .ref (eA E 0 0)) dX0_makeBitter_7 rfl (rl_ref _) ?_
  refine r_get (v := .ref (eA E 100 0)) dX0_makeBitter_8 fl_RX0_9 (hE.1 0 (by decide)) rfl ?_
  refine r_iload_n (x := x1) dX0_makeBitter_11 rfl ?_
  refine r_bipush (v := (12 : Int32)) dX0_makeBitter_12 (by decide) ?_
  refine r_idiv dX0_makeBitter_14 (by decide) ?_
  obtain ⟨hb, h⟩ := h
  refine r_iald dX0_makeBitter_15 rfl (by decide) (hE.1 0 (by decide)) (ix hE (by decide) rfl hb) ?_
  refine r_iload_n (x := ((1 : Int32) <<< ((x1 - x1 / (12 : Int32) * (12 : Int32)) &&& 31))) dX0_makeBitter_16 rfl ?_
  refine r_iand dX0_makeBitter_17 ?_
  refine r_if_eq 25 dX0_makeBitter_18 (by decide) (fun q => ?_) (fun q => ?_)
  · have h := h.1 q
    refine r_iconst (v := (0 : Int32)) dX0_makeBitter_25 (by decide) ?_
    refine r_istore_n dX0_makeBitter_26 (by decide) ?_
    refine r_aload_n (v := .ref (eA E 0 0)) dX0_makeBitter_27 rfl (rl_ref _) ?_
    refine r_get (v := .ref (eA E 100 0)) dX0_makeBitter_28 fl_RX0_9 (hE.1 0 (by decide)) rfl ?_
    refine r_iload_n (x := x1) dX0_makeBitter_31 rfl ?_
    refine r_bipush (v := (12 : Int32)) dX0_makeBitter_32 (by decide) ?_
    refine r_idiv dX0_makeBitter_34 (by decide) ?_
    refine r_dup2 dX0_makeBitter_35 rfl rfl ?_
    obtain ⟨hb, h⟩ := h
    refine r_iald dX0_makeBitter_36 rfl (by decide) (hE.1 0 (by decide)) (ix hE (by decide) rfl hb) ?_
    refine r_iload_n (x := ((1 : Int32) <<< ((x1 - x1 / (12 : Int32) * (12 : Int32)) &&& 31))) dX0_makeBitter_37 rfl ?_
    refine r_ior dX0_makeBitter_38 ?_
    obtain ⟨hb, h⟩ := h
    refine r_iast dX0_makeBitter_39 rfl (by decide) (hE.1 0 (by decide)) (ix hE (by decide) rfl hb) ?_
    refine r_iload_n (x := (0 : Int32)) dX0_makeBitter_40 rfl ?_
    refine r_if_ne 48 dX0_makeBitter_41 (by decide) (fun q => ?_) (fun q => ?_)
    · have h := h.1 q
      refine r_iconst (v := (0 : Int32)) dX0_makeBitter_48 (by decide) ?_
      exact r_zret dX0_makeBitter_49 rfl rfl ⟨Nat.le_of_ble_eq_true rfl, Nat.le_of_ble_eq_true rfl⟩ ⟨rfl, _, rfl, h⟩
    · have h := h.2 q
      refine r_iconst (v := (1 : Int32)) dX0_makeBitter_44 (by decide) ?_
      refine r_goto 49 dX0_makeBitter_45 (by decide) ?_
      exact r_zret dX0_makeBitter_49 rfl rfl ⟨Nat.le_of_ble_eq_true rfl, Nat.le_of_ble_eq_true rfl⟩ ⟨rfl, _, rfl, h⟩
  · have h := h.2 q
    refine r_iconst (v := (1 : Int32)) dX0_makeBitter_21 (by decide) ?_
    refine r_goto 26 dX0_makeBitter_22 (by decide) ?_
    refine r_istore_n dX0_makeBitter_26 (by decide) ?_
    refine r_aload_n (v := .ref (eA E 0 0)) dX0_makeBitter_27 rfl (rl_ref _) ?_
    refine r_get (v := .ref (eA E 100 0)) dX0_makeBitter_28 fl_RX0_9 (hE.1 0 (by decide)) rfl ?_
    refine r_iload_n (x := x1) dX0_makeBitter_31 rfl ?_
    refine r_bipush (v := (12 : Int32)) dX0_makeBitter_32 (by decide) ?_
    refine r_idiv dX0_makeBitter_34 (by decide) ?_
    refine r_dup2 dX0_makeBitter_35 rfl rfl ?_
    obtain ⟨hb, h⟩ := h
    refine r_iald dX0_makeBitter_36 rfl (by decide) (hE.1 0 (by decide)) (ix hE (by decide) rfl hb) ?_
    refine r_iload_n (x := ((1 : Int32) <<< ((x1 - x1 / (12 : Int32) * (12 : Int32)) &&& 31))) dX0_makeBitter_37 rfl ?_
    refine r_ior dX0_makeBitter_38 ?_
    obtain ⟨hb, h⟩ := h
    refine r_iast dX0_makeBitter_39 rfl (by decide) (hE.1 0 (by decide)) (ix hE (by decide) rfl hb) ?_
    refine r_iload_n (x := (1 : Int32)) dX0_makeBitter_40 rfl ?_
    refine r_if_ne 48 dX0_makeBitter_41 (by decide) (fun q => ?_) (fun q => ?_)
    · have h := h.1 q
      refine r_iconst (v := (0 : Int32)) dX0_makeBitter_48 (by decide) ?_
      exact r_zret dX0_makeBitter_49 rfl rfl ⟨Nat.le_of_ble_eq_true rfl, Nat.le_of_ble_eq_true rfl⟩ ⟨rfl, _, rfl, h⟩
    · have h := h.2 q
      refine r_iconst (v := (1 : Int32)) dX0_makeBitter_44 (by decide) ?_
      refine r_goto 49 dX0_makeBitter_45 (by decide) ?_
      exact r_zret dX0_makeBitter_49 rfl rfl ⟨Nat.le_of_ble_eq_true rfl, Nat.le_of_ble_eq_true rfl⟩ ⟨rfl, _, rfl, h⟩
abbrev rm_X0_pass : Room := { frames := 1, cells := 0, slots := 0, locals := 21 }
def C_X0_pass (l : Launch) (G : Gt) (E : Et) (V : Vt) (x1 : Int32) (K : Int32 → Vt → Prop) : Prop := Cl l G yX0_pass cX0_pass 4 (some .int) rm_X0_pass E V [.ref (eA E 0 0), .int x1] (Qi E K)
def A_X0_pass_4 (l : Launch) (G : Gt) (E : Et) (V : Vt) (x1 : Int32) (x2 : Int32) (x3 : Int32) (K : Int32 → Vt → Prop) : Prop := Ev l G RX0 cX0_pass 4 (some .int) rm_X0_pass E 0 0 V 4 [(0, .ref (eA E 0 0)), (1, .int x1), (2, .int x2), (3, .int x3)] [] (Qi E K)
def vc_X0_pass (l : Launch) (G : Gt) (E : Et) (V : Vt) (x1 : Int32) (K : Int32 → Vt → Prop) : Prop := A_X0_pass_4 l G E V x1 (0 : Int32) (0 : Int32) K
def vc_X0_pass_4 (l : Launch) (G : Gt) (E : Et) (V : Vt) (x1 : Int32) (x2 : Int32) (x3 : Int32) (K : Int32 → Vt → Prop) : Prop := ((x1 ≤ x3 → K x2 V) ∧ (¬ x1 ≤ x3 → (C_X0_hasFrost l G E V (V 101 0 0) (fun x22 V21 => ((¬ x22 = (0 : Int32) → A_X0_pass_4 l G E (up3 V21 101 0 0 ((V21 101 0 0) + (1 : Int32))) x1 x2 (x3 + (1 : Int32)) K) ∧ (x22 = (0 : Int32) → A_X0_pass_4 l G E (up3 V21 101 0 0 ((V21 101 0 0) + (1 : Int32))) x1 (x2 + (1 : Int32)) (x3 + (1 : Int32)) K))))))
theorem ok_X0_pass {l : Launch} {G : Gt} {E : Et} {V : Vt} {x1 : Int32} {K : Int32 → Vt → Prop} (hE : Sg E)  (h : vc_X0_pass l G E V x1 K) : C_X0_pass l G E V x1 K := by
  unfold vc_X0_pass at h
  refine Cl.of (by decide +kernel) (Nat.le_of_ble_eq_true rfl) (show Ev l G RX0 cX0_pass 4 (some .int) rm_X0_pass E 0 0 V 0 [(0, .ref (eA E 0 0)), (1, .int x1)] [] (Qi E K) from ?_)
  refine r_iconst (v := (0 : Int32)) dX0_pass_0 (by decide) ?_
  refine r_istore_n dX0_pass_1 (by decide) ?_
  refine r_iconst (v := (0 : Int32)) dX0_pass_2 (by decide) ?_
  refine r_istore_n dX0_pass_3 (by decide) ?_
  exact Ev.loc [0, 1, 2, 3] rfl h
theorem ok_X0_pass_4 {l : Launch} {G : Gt} {E : Et} {V : Vt} {x1 : Int32} {x2 : Int32} {x3 : Int32} {K : Int32 → Vt → Prop} (hE : Sg E)  (h : vc_X0_pass_4 l G E V x1 x2 x3 K) : A_X0_pass_4 l G E V x1 x2 x3 K := by
  unfold vc_X0_pass_4 at h
  unfold A_X0_pass_4
  refine r_iload_n (x := x3) dX0_pass_4 rfl ?_
  refine r_iload_n (x := x1) dX0_pass_5 rfl ?_
  refine r_icmp_ge 39 dX0_pass_6 (by decide) (fun q => ?_) (fun q => ?_)
  · have h := h.1 q
    refine r_iload_n (x := x2) dX0_pass_39 rfl ?_
    exact r_iret dX0_pass_40 rfl ⟨Nat.le_of_ble_eq_true rfl, Nat.le_of_ble_eq_true rfl⟩ ⟨rfl, _, rfl, h⟩
  · have h := h.2 q
    refine r_aload_n (v := .ref (eA E 0 0)) dX0_pass_9 rfl (rl_ref _) ?_
    refine r_aload_n (v := .ref (eA E 0 0)) dX0_pass_10 rfl (rl_ref _) ?_
    refine r_get (v := .int (V 101 0 0)) dX0_pass_11 fl_RX0_15 (hE.1 0 (by decide)) rfl ?_
    refine r_cVi (As := [.int (V 101 0 0)]) (rest := []) dX0_pass_14 mv_X0_hasFrost ml_RX0_22 ⟨_, _, rfl⟩ (hE.1 0 (by decide)) ⟨Nat.le_of_ble_eq_true rfl, Nat.le_of_ble_eq_true rfl⟩ ⟨rfl, rfl⟩ rfl rfl (Nat.le_of_ble_eq_true rfl) h (fun x22 V21 h => ?_)
    refine r_if_ne 23 dX0_pass_17 (by decide) (fun q => ?_) (fun q => ?_)
    · have h := h.1 q
      refine r_aload_n (v := .ref (eA E 0 0)) dX0_pass_23 rfl (rl_ref _) ?_
      refine r_dup dX0_pass_24 rfl ?_
      refine r_get (v := .int (V21 101 0 0)) dX0_pass_25 fl_RX0_15 (hE.1 0 (by decide)) rfl ?_
      refine r_iconst (v := (1 : Int32)) dX0_pass_28 (by decide) ?_
      refine r_iadd dX0_pass_29 ?_
      refine r_put dX0_pass_30 fp_RX0_15 rfl (hE.1 0 (by decide)) rfl rfl ?_
      refine r_iinc (x := x3) (v := (1 : Int32)) dX0_pass_33 rfl (by decide) (by decide) ?_
      refine r_goto 4 dX0_pass_36 (by decide) ?_
      exact Ev.loc [0, 1, 2, 3] rfl h
    · have h := h.2 q
      refine r_iinc (x := x2) (v := (1 : Int32)) dX0_pass_20 rfl (by decide) (by decide) ?_
      refine r_aload_n (v := .ref (eA E 0 0)) dX0_pass_23 rfl (rl_ref _) ?_
      refine r_dup dX0_pass_24 rfl ?_
      refine r_get (v := .int (V21 101 0 0)) dX0_pass_25 fl_RX0_15 (hE.1 0 (by decide)) rfl ?_
      refine r_iconst (v := (1 : Int32)) dX0_pass_28 (by decide) ?_
      refine r_iadd dX0_pass_29 ?_
      refine r_put dX0_pass_30 fp_RX0_15 rfl (hE.1 0 (by decide)) rfl rfl ?_
      refine r_iinc (x := x3) (v := (1 : Int32)) dX0_pass_33 rfl (by decide) (by decide) ?_
      refine r_goto 4 dX0_pass_36 (by decide) ?_
      exact Ev.loc [0, 1, 2, 3] rfl h
abbrev rm_X2_isBegun : Room := { frames := 0, cells := 0, slots := 0, locals := 0 }
def C_X2_isBegun (l : Launch) (G : Gt) (E : Et) (V : Vt) (o0 : Nat) (K : Int32 → Vt → Prop) : Prop := Cl l G yX2_isBegun cX2_isBegun 1 (some .boolean) rm_X2_isBegun E V [.ref (eA E 2 o0)] (Qi E K)
def vc_X2_isBegun (l : Launch) (G : Gt) (E : Et) (V : Vt) (o0 : Nat) (K : Int32 → Vt → Prop) : Prop := (((V 310 o0 0) ≤ (0 : Int32) → K (0 : Int32) V) ∧ (¬ (V 310 o0 0) ≤ (0 : Int32) → K (1 : Int32) V))
theorem ok_X2_isBegun {l : Launch} {G : Gt} {E : Et} {V : Vt} {o0 : Nat} {K : Int32 → Vt → Prop} (hE : Sg E) (hl_o0 : eL E 2 o0) (h : vc_X2_isBegun l G E V o0 K) : C_X2_isBegun l G E V o0 K := by
  unfold vc_X2_isBegun at h
  refine Cl.of (by decide +kernel) (Nat.le_of_ble_eq_true rfl) (show Ev l G RX2 cX2_isBegun 1 (some .boolean) rm_X2_isBegun E 0 0 V 0 [(0, .ref (eA E 2 o0))] [] (Qi E K) from ?_)
  refine r_aload_n (v := .ref (eA E 2 o0)) dX2_isBegun_0 rfl (rl_ref _) ?_
  refine r_get (v := .int (V 310 o0 0)) dX2_isBegun_1 fl_RX2_41 hl_o0 rfl ?_
  refine r_if_le 11 dX2_isBegun_4 (by decide) (fun q => ?_) (fun q => ?_)
  · have h := h.1 q
    refine r_iconst (v := (0 : Int32)) dX2_isBegun_11 (by decide) ?_
    exact r_zret dX2_isBegun_12 rfl rfl ⟨Nat.le_of_ble_eq_true rfl, Nat.le_of_ble_eq_true rfl⟩ ⟨rfl, _, rfl, h⟩
  · have h := h.2 q
    refine r_iconst (v := (1 : Int32)) dX2_isBegun_7 (by decide) ?_
    refine r_goto 12 dX2_isBegun_8 (by decide) ?_
    exact r_zret dX2_isBegun_12 rfl rfl ⟨Nat.le_of_ble_eq_true rfl, Nat.le_of_ble_eq_true rfl⟩ ⟨rfl, _, rfl, h⟩
abbrev rm_X2_isWhole : Room := { frames := 0, cells := 0, slots := 0, locals := 0 }
def C_X2_isWhole (l : Launch) (G : Gt) (E : Et) (V : Vt) (o0 : Nat) (K : Int32 → Vt → Prop) : Prop := Cl l G yX2_isWhole cX2_isWhole 1 (some .boolean) rm_X2_isWhole E V [.ref (eA E 2 o0)] (Qi E K)
def vc_X2_isWhole (l : Launch) (G : Gt) (E : Et) (V : Vt) (o0 : Nat) (K : Int32 → Vt → Prop) : Prop := (((V 310 o0 0) < (V 309 o0 0) → K (0 : Int32) V) ∧ (¬ (V 310 o0 0) < (V 309 o0 0) → K (1 : Int32) V))
theorem ok_X2_isWhole {l : Launch} {G : Gt} {E : Et} {V : Vt} {o0 : Nat} {K : Int32 → Vt → Prop} (hE : Sg E) (hl_o0 : eL E 2 o0) (h : vc_X2_isWhole l G E V o0 K) : C_X2_isWhole l G E V o0 K := by
  unfold vc_X2_isWhole at h
  refine Cl.of (by decide +kernel) (Nat.le_of_ble_eq_true rfl) (show Ev l G RX2 cX2_isWhole 1 (some .boolean) rm_X2_isWhole E 0 0 V 0 [(0, .ref (eA E 2 o0))] [] (Qi E K) from ?_)
  refine r_aload_n (v := .ref (eA E 2 o0)) dX2_isWhole_0 rfl (rl_ref _) ?_
  refine r_get (v := .int (V 310 o0 0)) dX2_isWhole_1 fl_RX2_41 hl_o0 rfl ?_
  refine r_aload_n (v := .ref (eA E 2 o0)) dX2_isWhole_4 rfl (rl_ref _) ?_
  refine r_get (v := .int (V 309 o0 0)) dX2_isWhole_5 fl_RX2_32 hl_o0 rfl ?_
  refine r_icmp_lt 15 dX2_isWhole_8 (by decide) (fun q => ?_) (fun q => ?_)
  · have h := h.1 q
    refine r_iconst (v := (0 : Int32)) dX2_isWhole_15 (by decide) ?_
    exact r_zret dX2_isWhole_16 rfl rfl ⟨Nat.le_of_ble_eq_true rfl, Nat.le_of_ble_eq_true rfl⟩ ⟨rfl, _, rfl, h⟩
  · have h := h.2 q
    refine r_iconst (v := (1 : Int32)) dX2_isWhole_11 (by decide) ?_
    refine r_goto 16 dX2_isWhole_12 (by decide) ?_
    exact r_zret dX2_isWhole_16 rfl rfl ⟨Nat.le_of_ble_eq_true rfl, Nat.le_of_ble_eq_true rfl⟩ ⟨rfl, _, rfl, h⟩
abbrev rm_X2_isOnCentring : Room := { frames := 1, cells := 0, slots := 0, locals := 20 }
def C_X2_isOnCentring (l : Launch) (G : Gt) (E : Et) (V : Vt) (o0 : Nat) (K : Int32 → Vt → Prop) : Prop := Cl l G yX2_isOnCentring cX2_isOnCentring 1 (some .boolean) rm_X2_isOnCentring E V [.ref (eA E 2 o0)] (Qi E K)
def vc_X2_isOnCentring (l : Launch) (G : Gt) (E : Et) (V : Vt) (o0 : Nat) (K : Int32 → Vt → Prop) : Prop := ((¬ (V 300 o0 0) = (1 : Int32) → K (0 : Int32) V) ∧ ((V 300 o0 0) = (1 : Int32) → (C_X2_isBegun l G E V o0 (fun x22 V21 => ((x22 = (0 : Int32) → K (0 : Int32) V21) ∧ (¬ x22 = (0 : Int32) → ((¬ (V21 313 o0 0) = (0 : Int32) → K (0 : Int32) V21) ∧ ((V21 313 o0 0) = (0 : Int32) → K (1 : Int32) V21))))))))
theorem ok_X2_isOnCentring {l : Launch} {G : Gt} {E : Et} {V : Vt} {o0 : Nat} {K : Int32 → Vt → Prop} (hE : Sg E) (hl_o0 : eL E 2 o0) (h : vc_X2_isOnCentring l G E V o0 K) : C_X2_isOnCentring l G E V o0 K := by
  unfold vc_X2_isOnCentring at h
  refine Cl.of (by decide +kernel) (Nat.le_of_ble_eq_true rfl) (show Ev l G RX2 cX2_isOnCentring 1 (some .boolean) rm_X2_isOnCentring E 0 0 V 0 [(0, .ref (eA E 2 o0))] [] (Qi E K) from ?_)
  refine r_aload_n (v := .ref (eA E 2 o0)) dX2_isOnCentring_0 rfl (rl_ref _) ?_
  refine r_get (v := .int (V 300 o0 0)) dX2_isOnCentring_1 fl_RX2_25 hl_o0 rfl ?_
  refine r_iconst (v := (1 : Int32)) dX2_isOnCentring_4 (by decide) ?_
  refine r_icmp_ne 26 dX2_isOnCentring_5 (by decide) (fun q => ?_) (fun q => ?_)
  · have h := h.1 q
    refine r_iconst (v := (0 : Int32)) dX2_isOnCentring_26 (by decide) ?_
    exact r_zret dX2_isOnCentring_27 rfl rfl ⟨Nat.le_of_ble_eq_true rfl, Nat.le_of_ble_eq_true rfl⟩ ⟨rfl, _, rfl, h⟩
  · have h := h.2 q
    refine r_aload_n (v := .ref (eA E 2 o0)) dX2_isOnCentring_8 rfl (rl_ref _) ?_
    refine r_cVi (As := []) (rest := []) dX2_isOnCentring_9 mv_X2_isBegun ml_RX2_44 ⟨_, _, rfl⟩ hl_o0 ⟨Nat.le_of_ble_eq_true rfl, Nat.le_of_ble_eq_true rfl⟩ ⟨rfl, rfl⟩ rfl rfl (Nat.le_of_ble_eq_true rfl) h (fun x22 V21 h => ?_)
    refine r_if_eq 26 dX2_isOnCentring_12 (by decide) (fun q => ?_) (fun q => ?_)
    · have h := h.1 q
      refine r_iconst (v := (0 : Int32)) dX2_isOnCentring_26 (by decide) ?_
      exact r_zret dX2_isOnCentring_27 rfl rfl ⟨Nat.le_of_ble_eq_true rfl, Nat.le_of_ble_eq_true rfl⟩ ⟨rfl, _, rfl, h⟩
    · have h := h.2 q
      refine r_aload_n (v := .ref (eA E 2 o0)) dX2_isOnCentring_15 rfl (rl_ref _) ?_
      refine r_get (v := .int (V21 313 o0 0)) dX2_isOnCentring_16 fl_RX2_48 hl_o0 rfl ?_
      refine r_if_ne 26 dX2_isOnCentring_19 (by decide) (fun q => ?_) (fun q => ?_)
      · have h := h.1 q
        refine r_iconst (v := (0 : Int32)) dX2_isOnCentring_26 (by decide) ?_
        exact r_zret dX2_isOnCentring_27 rfl rfl ⟨Nat.le_of_ble_eq_true rfl, Nat.le_of_ble_eq_true rfl⟩ ⟨rfl, _, rfl, h⟩
      · have h := h.2 q
        refine r_iconst (v := (1 : Int32)) dX2_isOnCentring_22 (by decide) ?_
        refine r_goto 27 dX2_isOnCentring_23 (by decide) ?_
        exact r_zret dX2_isOnCentring_27 rfl rfl ⟨Nat.le_of_ble_eq_true rfl, Nat.le_of_ble_eq_true rfl⟩ ⟨rfl, _, rfl, h⟩
abbrev rm_X2_standOn : Room := { frames := 0, cells := 0, slots := 0, locals := 0 }
def C_X2_standOn (l : Launch) (G : Gt) (E : Et) (V : Vt) (o0 : Nat) (x1 : Int32) (x2 : Int32) (x3 : Int32) (K : Vt → Prop) : Prop := Cl l G yX2_standOn cX2_standOn 4 none rm_X2_standOn E V [.ref (eA E 2 o0), .int x1, .int x2, .int x3] (Qv E K)
def vc_X2_standOn (l : Launch) (G : Gt) (E : Et) (V : Vt) (o0 : Nat) (x1 : Int32) (x2 : Int32) (x3 : Int32) (K : Vt → Prop) : Prop := ((x1 < (0 : Int32) → K V) ∧ (¬ x1 < (0 : Int32) → (((4 : Int32) ≤ x1 → K V) ∧ (¬ (4 : Int32) ≤ x1 → ((x2 < (0 : Int32) → K V) ∧ (¬ x2 < (0 : Int32) → (((40 : Int32) ≤ x2 → K V) ∧ (¬ (40 : Int32) ≤ x2 → (vp_in x1 4) ∧ (vp_in x1 4) ∧ K (up3 (up3 V 305 o0 (x1).toNatClampNeg x2) 306 o0 (x1).toNatClampNeg x3)))))))))
theorem ok_X2_standOn {l : Launch} {G : Gt} {E : Et} {V : Vt} {o0 : Nat} {x1 : Int32} {x2 : Int32} {x3 : Int32} {K : Vt → Prop} (hE : Sg E) (hl_o0 : eL E 2 o0) (h : vc_X2_standOn l G E V o0 x1 x2 x3 K) : C_X2_standOn l G E V o0 x1 x2 x3 K := by
  unfold vc_X2_standOn at h
  refine Cl.of (by decide +kernel) (Nat.le_of_ble_eq_true rfl) (show Ev l G RX2 cX2_standOn 4 none rm_X2_standOn E 0 0 V 0 [(0, .ref (eA E 2 o0)), (1, .int x1), (2, .int x2), (3, .int x3)] [] (Qv E K) from ?_)
  refine r_iload_n (x := x1) dX2_standOn_0 rfl ?_
  refine r_if_lt 33 dX2_standOn_1 (by decide) (fun q => ?_) (fun q => ?_)
  · have h := h.1 q
    exact r_vret dX2_standOn_33 rfl ⟨Nat.le_of_ble_eq_true rfl, Nat.le_of_ble_eq_true rfl⟩ ⟨rfl, rfl, h⟩
  · have h := h.2 q
    refine r_iload_n (x := x1) dX2_standOn_4 rfl ?_
    refine r_iconst (v := (4 : Int32)) dX2_standOn_5 (by decide) ?_
    refine r_icmp_ge 33 dX2_standOn_6 (by decide) (fun q => ?_) (fun q => ?_)
    · have h := h.1 q
      exact r_vret dX2_standOn_33 rfl ⟨Nat.le_of_ble_eq_true rfl, Nat.le_of_ble_eq_true rfl⟩ ⟨rfl, rfl, h⟩
    · have h := h.2 q
      refine r_iload_n (x := x2) dX2_standOn_9 rfl ?_
      refine r_if_lt 33 dX2_standOn_10 (by decide) (fun q => ?_) (fun q => ?_)
      · have h := h.1 q
        exact r_vret dX2_standOn_33 rfl ⟨Nat.le_of_ble_eq_true rfl, Nat.le_of_ble_eq_true rfl⟩ ⟨rfl, rfl, h⟩
      · have h := h.2 q
        refine r_iload_n (x := x2) dX2_standOn_13 rfl ?_
        refine r_bipush (v := (40 : Int32)) dX2_standOn_14 (by decide) ?_
        refine r_icmp_ge 33 dX2_standOn_16 (by decide) (fun q => ?_) (fun q => ?_)
        · have h := h.1 q
          exact r_vret dX2_standOn_33 rfl ⟨Nat.le_of_ble_eq_true rfl, Nat.le_of_ble_eq_true rfl⟩ ⟨rfl, rfl, h⟩
        · have h := h.2 q
          refine r_aload_n (v := .ref (eA E 2 o0)) dX2_standOn_19 rfl (rl_ref _) ?_
          refine r_get (v := .ref (eA E 305 o0)) dX2_standOn_20 fl_RX2_16 hl_o0 rfl ?_
          refine r_iload_n (x := x1) dX2_standOn_23 rfl ?_
          refine r_iload_n (x := x2) dX2_standOn_24 rfl ?_
          obtain ⟨hb, h⟩ := h
          refine r_iast dX2_standOn_25 rfl (by decide) hl_o0 (ix hE (by decide) rfl hb) ?_
          refine r_aload_n (v := .ref (eA E 2 o0)) dX2_standOn_26 rfl (rl_ref _) ?_
          refine r_get (v := .ref (eA E 306 o0)) dX2_standOn_27 fl_RX2_19 hl_o0 rfl ?_
          refine r_iload_n (x := x1) dX2_standOn_30 rfl ?_
          refine r_iload_n (x := x3) dX2_standOn_31 rfl ?_
          obtain ⟨hb, h⟩ := h
          refine r_iast dX2_standOn_32 rfl (by decide) hl_o0 (ix hE (by decide) rfl hb) ?_
          exact r_vret dX2_standOn_33 rfl ⟨Nat.le_of_ble_eq_true rfl, Nat.le_of_ble_eq_true rfl⟩ ⟨rfl, rfl, h⟩
abbrev rm_X2_takeCourse : Room := { frames := 0, cells := 0, slots := 0, locals := 0 }
def C_X2_takeCourse (l : Launch) (G : Gt) (E : Et) (V : Vt) (o0 : Nat) (x1 : Int32) (K : Vt → Prop) : Prop := Cl l G yX2_takeCourse cX2_takeCourse 2 none rm_X2_takeCourse E V [.ref (eA E 2 o0), .int x1] (Qv E K)
def vc_X2_takeCourse (l : Launch) (G : Gt) (E : Et) (V : Vt) (o0 : Nat) (x1 : Int32) (K : Vt → Prop) : Prop := (((30 : Int32) ≤ (V 310 o0 0) → K V) ∧ (¬ (30 : Int32) ≤ (V 310 o0 0) → (vp_in (V 310 o0 0) 30) ∧ K (up3 (up3 (up3 V 307 o0 ((V 310 o0 0)).toNatClampNeg x1) 310 o0 0 (((up3 V 307 o0 ((V 310 o0 0)).toNatClampNeg x1) 310 o0 0) + (1 : Int32))) 311 o0 0 (0 : Int32))))
theorem ok_X2_takeCourse {l : Launch} {G : Gt} {E : Et} {V : Vt} {o0 : Nat} {x1 : Int32} {K : Vt → Prop} (hE : Sg E) (hl_o0 : eL E 2 o0) (h : vc_X2_takeCourse l G E V o0 x1 K) : C_X2_takeCourse l G E V o0 x1 K := by
  unfold vc_X2_takeCourse at h
  refine Cl.of (by decide +kernel) (Nat.le_of_ble_eq_true rfl) (show Ev l G RX2 cX2_takeCourse 2 none rm_X2_takeCourse E 0 0 V 0 [(0, .ref (eA E 2 o0)), (1, .int x1)] [] (Qv E K) from ?_)
  refine r_aload_n (v := .ref (eA E 2 o0)) dX2_takeCourse_0 rfl (rl_ref _) ?_
  refine r_get (v := .int (V 310 o0 0)) dX2_takeCourse_1 fl_RX2_41 hl_o0 rfl ?_
  refine r_bipush (v := (30 : Int32)) dX2_takeCourse_4 (by decide) ?_
  refine r_icmp_ge 34 dX2_takeCourse_6 (by decide) (fun q => ?_) (fun q => ?_)
  · have h := h.1 q
    exact r_vret dX2_takeCourse_34 rfl ⟨Nat.le_of_ble_eq_true rfl, Nat.le_of_ble_eq_true rfl⟩ ⟨rfl, rfl, h⟩
  · have h := h.2 q
    refine r_aload_n (v := .ref (eA E 2 o0)) dX2_takeCourse_9 rfl (rl_ref _) ?_
    refine r_get (v := .ref (eA E 307 o0)) dX2_takeCourse_10 fl_RX2_22 hl_o0 rfl ?_
    refine r_aload_n (v := .ref (eA E 2 o0)) dX2_takeCourse_13 rfl (rl_ref _) ?_
    refine r_get (v := .int (V 310 o0 0)) dX2_takeCourse_14 fl_RX2_41 hl_o0 rfl ?_
    refine r_iload_n (x := x1) dX2_takeCourse_17 rfl ?_
    obtain ⟨hb, h⟩ := h
    refine r_iast dX2_takeCourse_18 rfl (by decide) hl_o0 (ix hE (by decide) rfl hb) ?_
    refine r_aload_n (v := .ref (eA E 2 o0)) dX2_takeCourse_19 rfl (rl_ref _) ?_
    refine r_dup dX2_takeCourse_20 rfl ?_
    refine r_get (v := .int ((up3 V 307 o0 ((V 310 o0 0)).toNatClampNeg x1) 310 o0 0)) dX2_takeCourse_21 fl_RX2_41 hl_o0 rfl ?_
    refine r_iconst (v := (1 : Int32)) dX2_takeCourse_24 (by decide) ?_
    refine r_iadd dX2_takeCourse_25 ?_
    refine r_put dX2_takeCourse_26 fp_RX2_41 rfl hl_o0 rfl rfl ?_
    refine r_aload_n (v := .ref (eA E 2 o0)) dX2_takeCourse_29 rfl (rl_ref _) ?_
    refine r_iconst (v := (0 : Int32)) dX2_takeCourse_30 (by decide) ?_
    refine r_put dX2_takeCourse_31 fp_RX2_52 rfl hl_o0 rfl rfl ?_
    exact r_vret dX2_takeCourse_34 rfl ⟨Nat.le_of_ble_eq_true rfl, Nat.le_of_ble_eq_true rfl⟩ ⟨rfl, rfl, h⟩
abbrev rm_X2_laidTill : Room := { frames := 0, cells := 0, slots := 0, locals := 0 }
def C_X2_laidTill (l : Launch) (G : Gt) (E : Et) (V : Vt) (o0 : Nat) (x1 : Int32) (K : Int32 → Vt → Prop) : Prop := Cl l G yX2_laidTill cX2_laidTill 4 (some .int) rm_X2_laidTill E V [.ref (eA E 2 o0), .int x1] (Qi E K)
def A_X2_laidTill_4 (l : Launch) (G : Gt) (E : Et) (V : Vt) (o0 : Nat) (x1 : Int32) (x2 : Int32) (x3 : Int32) (K : Int32 → Vt → Prop) : Prop := Ev l G RX2 cX2_laidTill 4 (some .int) rm_X2_laidTill E 0 0 V 4 [(0, .ref (eA E 2 o0)), (1, .int x1), (2, .int x2), (3, .int x3)] [] (Qi E K)
def vc_X2_laidTill (l : Launch) (G : Gt) (E : Et) (V : Vt) (o0 : Nat) (x1 : Int32) (K : Int32 → Vt → Prop) : Prop := A_X2_laidTill_4 l G E V o0 x1 (0 : Int32) (0 : Int32) K
def vc_X2_laidTill_4 (l : Launch) (G : Gt) (E : Et) (V : Vt) (o0 : Nat) (x1 : Int32) (x2 : Int32) (x3 : Int32) (K : Int32 → Vt → Prop) : Prop := (((V 310 o0 0) ≤ x3 → K x2 V) ∧ (¬ (V 310 o0 0) ≤ x3 → (((30 : Int32) ≤ x3 → K x2 V) ∧ (¬ (30 : Int32) ≤ x3 → (vp_in x3 30) ∧ ((x1 < (V 307 o0 (x3).toNatClampNeg) → A_X2_laidTill_4 l G E V o0 x1 x2 (x3 + (1 : Int32)) K) ∧ (¬ x1 < (V 307 o0 (x3).toNatClampNeg) → A_X2_laidTill_4 l G E V o0 x1 (x2 + (1 : Int32)) (x3 + (1 : Int32)) K))))))
theorem ok_X2_laidTill {l : Launch} {G : Gt} {E : Et} {V : Vt} {o0 : Nat} {x1 : Int32} {K : Int32 → Vt → Prop} (hE : Sg E) (hl_o0 : eL E 2 o0) (h : vc_X2_laidTill l G E V o0 x1 K) : C_X2_laidTill l G E V o0 x1 K := by
  unfold vc_X2_laidTill at h
  refine Cl.of (by decide +kernel) (Nat.le_of_ble_eq_true rfl) (show Ev l G RX2 cX2_laidTill 4 (some .int) rm_X2_laidTill E 0 0 V 0 [(0, .ref (eA E 2 o0)), (1, .int x1)] [] (Qi E K) from ?_)
  refine r_iconst (v := (0 : Int32)) dX2_laidTill_0 (by decide) ?_
  refine r_istore_n dX2_laidTill_1 (by decide) ?_
  refine r_iconst (v := (0 : Int32)) dX2_laidTill_2 (by decide) ?_
  refine r_istore_n dX2_laidTill_3 (by decide) ?_
  exact Ev.loc [0, 1, 2, 3] rfl h
theorem ok_X2_laidTill_4 {l : Launch} {G : Gt} {E : Et} {V : Vt} {o0 : Nat} {x1 : Int32} {x2 : Int32} {x3 : Int32} {K : Int32 → Vt → Prop} (hE : Sg E) (hl_o0 : eL E 2 o0) (h : vc_X2_laidTill_4 l G E V o0 x1 x2 x3 K) : A_X2_laidTill_4 l G E V o0 x1 x2 x3 K := by
  unfold vc_X2_laidTill_4 at h
  unfold A_X2_laidTill_4
  refine r_iload_n (x := x3) dX2_laidTill_4 rfl ?_
  refine r_aload_n (v := .ref (eA E 2 o0)) dX2_laidTill_5 rfl (rl_ref _) ?_
  refine r_get (v := .int (V 310 o0 0)) dX2_laidTill_6 fl_RX2_41 hl_o0 rfl ?_
  refine r_icmp_ge 37 dX2_laidTill_9 (by decide) (fun q => ?_) (fun q => ?_)
  · have h := h.1 q
    refine r_iload_n (x := x2) dX2_laidTill_37 rfl ?_
    exact r_iret dX2_laidTill_38 rfl ⟨Nat.le_of_ble_eq_true rfl, Nat.le_of_ble_eq_true rfl⟩ ⟨rfl, _, rfl, h⟩
  · have h := h.2 q
    refine r_iload_n (x := x3) dX2_laidTill_12 rfl ?_
    refine r_bipush (v := (30 : Int32)) dX2_laidTill_13 (by decide) ?_
    refine r_icmp_ge 37 dX2_laidTill_15 (by decide) (fun q => ?_) (fun q => ?_)
    · have h := h.1 q
      refine r_iload_n (x := x2) dX2_laidTill_37 rfl ?_
      exact r_iret dX2_laidTill_38 rfl ⟨Nat.le_of_ble_eq_true rfl, Nat.le_of_ble_eq_true rfl⟩ ⟨rfl, _, rfl, h⟩
    · have h := h.2 q
      refine r_aload_n (v := .ref (eA E 2 o0)) dX2_laidTill_18 rfl (rl_ref _) ?_
      refine r_get (v := .ref (eA E 307 o0)) dX2_laidTill_19 fl_RX2_22 hl_o0 rfl ?_
      refine r_iload_n (x := x3) dX2_laidTill_22 rfl ?_
      obtain ⟨hb, h⟩ := h
      refine r_iald dX2_laidTill_23 rfl (by decide) hl_o0 (ix hE (by decide) rfl hb) ?_
      refine r_iload_n (x := x1) dX2_laidTill_24 rfl ?_
      refine r_icmp_gt 31 dX2_laidTill_25 (by decide) (fun q => ?_) (fun q => ?_)
      · have h := h.1 q
        refine r_iinc (x := x3) (v := (1 : Int32)) dX2_laidTill_31 rfl (by decide) (by decide) ?_
        refine r_goto 4 dX2_laidTill_34 (by decide) ?_
        exact Ev.loc [0, 1, 2, 3] rfl h
      · have h := h.2 q
        refine r_iinc (x := x2) (v := (1 : Int32)) dX2_laidTill_28 rfl (by decide) (by decide) ?_
        refine r_iinc (x := x3) (v := (1 : Int32)) dX2_laidTill_31 rfl (by decide) (by decide) ?_
        refine r_goto 4 dX2_laidTill_34 (by decide) ?_
        exact Ev.loc [0, 1, 2, 3] rfl h
abbrev rm_X2_portion : Room := { frames := 0, cells := 0, slots := 0, locals := 0 }
def C_X2_portion (l : Launch) (G : Gt) (E : Et) (V : Vt) (o0 : Nat) (x1 : Int32) (x2 : Int32) (K : Int32 → Vt → Prop) : Prop := Cl l G yX2_portion cX2_portion 5 (some .int) rm_X2_portion E V [.ref (eA E 2 o0), .int x1, .int x2] (Qi E K)
def A_X2_portion_21 (l : Launch) (G : Gt) (E : Et) (V : Vt) (o0 : Nat) (x1 : Int32) (x3 : Int32) (x4 : Int32) (K : Int32 → Vt → Prop) : Prop := Ev l G RX2 cX2_portion 5 (some .int) rm_X2_portion E 0 0 V 21 [(0, .ref (eA E 2 o0)), (1, .int x1), (3, .int x3), (4, .int x4)] [] (Qi E K)
def vc_X2_portion (l : Launch) (G : Gt) (E : Et) (V : Vt) (o0 : Nat) (x1 : Int32) (x2 : Int32) (K : Int32 → Vt → Prop) : Prop := ((x2 ≤ (0 : Int32) → A_X2_portion_21 l G E V o0 x1 x1 (1 : Int32) K) ∧ (¬ x2 ≤ (0 : Int32) → (vp_in x2 4) ∧ K ((x1 * (V 306 o0 (x2).toNatClampNeg)) / (12 : Int32)) V))
def vc_X2_portion_21 (l : Launch) (G : Gt) (E : Et) (V : Vt) (o0 : Nat) (x1 : Int32) (x3 : Int32) (x4 : Int32) (K : Int32 → Vt → Prop) : Prop := (((V 308 o0 0) ≤ x4 → K x3 V) ∧ (¬ (V 308 o0 0) ≤ x4 → (vp_in x4 4) ∧ A_X2_portion_21 l G E V o0 x1 (x3 - ((x1 * (V 306 o0 (x4).toNatClampNeg)) / (12 : Int32))) (x4 + (1 : Int32)) K))
theorem ok_X2_portion {l : Launch} {G : Gt} {E : Et} {V : Vt} {o0 : Nat} {x1 : Int32} {x2 : Int32} {K : Int32 → Vt → Prop} (hE : Sg E) (hl_o0 : eL E 2 o0) (h : vc_X2_portion l G E V o0 x1 x2 K) : C_X2_portion l G E V o0 x1 x2 K := by
  unfold vc_X2_portion at h
  refine Cl.of (by decide +kernel) (Nat.le_of_ble_eq_true rfl) (show Ev l G RX2 cX2_portion 5 (some .int) rm_X2_portion E 0 0 V 0 [(0, .ref (eA E 2 o0)), (1, .int x1), (2, .int x2)] [] (Qi E K) from ?_)
  refine r_iload_n (x := x2) dX2_portion_0 rfl ?_
  refine r_if_le 16 dX2_portion_1 (by decide) (fun q => ?_) (fun q => ?_)
  · have h := h.1 q
    refine r_iload_n (x := x1) dX2_portion_16 rfl ?_
    refine r_istore_n dX2_portion_17 (by decide) ?_
    refine r_iconst (v := (1 : Int32)) dX2_portion_18 (by decide) ?_
    refine r_istore dX2_portion_19 (by decide) ?_
    exact Ev.loc [0, 1, 3, 4] rfl h
  · have h := h.2 q
    refine r_iload_n (x := x1) dX2_portion_4 rfl ?_
    refine r_aload_n (v := .ref (eA E 2 o0)) dX2_portion_5 rfl (rl_ref _) ?_
    refine r_get (v := .ref (eA E 306 o0)) dX2_portion_6 fl_RX2_19 hl_o0 rfl ?_
    refine r_iload_n (x := x2) dX2_portion_9 rfl ?_
    obtain ⟨hb, h⟩ := h
    refine r_iald dX2_portion_10 rfl (by decide) hl_o0 (ix hE (by decide) rfl hb) ?_
    refine r_imul dX2_portion_11 ?_
    refine r_bipush (v := (12 : Int32)) dX2_portion_12 (by decide) ?_
    refine r_idiv dX2_portion_14 (by decide) ?_
    exact r_iret dX2_portion_15 rfl ⟨Nat.le_of_ble_eq_true rfl, Nat.le_of_ble_eq_true rfl⟩ ⟨rfl, _, rfl, h⟩
theorem ok_X2_portion_21 {l : Launch} {G : Gt} {E : Et} {V : Vt} {o0 : Nat} {x1 : Int32} {x3 : Int32} {x4 : Int32} {K : Int32 → Vt → Prop} (hE : Sg E) (hl_o0 : eL E 2 o0) (h : vc_X2_portion_21 l G E V o0 x1 x3 x4 K) : A_X2_portion_21 l G E V o0 x1 x3 x4 K := by
  unfold vc_X2_portion_21 at h
  unfold A_X2_portion_21
  refine r_iload (x := x4) dX2_portion_21 rfl ?_
  refine r_aload_n (v := .ref (eA E 2 o0)) dX2_portion_23 rfl (rl_ref _) ?_
  refine r_get (v := .int (V 308 o0 0)) dX2_portion_24 fl_RX2_55 hl_o0 rfl ?_
  refine r_icmp_ge 51 dX2_portion_27 (by decide) (fun q => ?_) (fun q => ?_)
  · have h := h.1 q
    refine r_iload_n (x := x3) dX2_portion_51 rfl ?_
    exact r_iret dX2_portion_52 rfl ⟨Nat.le_of_ble_eq_true rfl, Nat.le_of_ble_eq_true rfl⟩ ⟨rfl, _, rfl, h⟩
  · have h := h.2 q
    refine r_iload_n (x := x3) dX2_portion_30 rfl ?_
    refine r_iload_n (x := x1) dX2_portion_31 rfl ?_
    refine r_aload_n (v := .ref (eA E 2 o0)) dX2_portion_32 rfl (rl_ref _) ?_
    refine r_get (v := .ref (eA E 306 o0)) dX2_portion_33 fl_RX2_19 hl_o0 rfl ?_
    refine r_iload (x := x4) dX2_portion_36 rfl ?_
    obtain ⟨hb, h⟩ := h
    refine r_iald dX2_portion_38 rfl (by decide) hl_o0 (ix hE (by decide) rfl hb) ?_
    refine r_imul dX2_portion_39 ?_
    refine r_bipush (v := (12 : Int32)) dX2_portion_40 (by decide) ?_
    refine r_idiv dX2_portion_42 (by decide) ?_
    refine r_isub dX2_portion_43 ?_
    refine r_istore_n dX2_portion_44 (by decide) ?_
    refine r_iinc (x := x4) (v := (1 : Int32)) dX2_portion_45 rfl (by decide) (by decide) ?_
    refine r_goto 21 dX2_portion_48 (by decide) ?_
    exact Ev.loc [0, 1, 2, 3] rfl h
abbrev rm_X2_heaviestWay : Room := { frames := 1, cells := 0, slots := 0, locals := 24 }
def C_X2_heaviestWay (l : Launch) (G : Gt) (E : Et) (V : Vt) (o0 : Nat) (x1 : Int32) (K : Int32 → Vt → Prop) : Prop := Cl l G yX2_heaviestWay cX2_heaviestWay 4 (some .int) rm_X2_heaviestWay E V [.ref (eA E 2 o0), .int x1] (Qi E K)
def A_X2_heaviestWay_4 (l : Launch) (G : Gt) (E : Et) (V : Vt) (o0 : Nat) (x1 : Int32) (x2 : Int32) (x3 : Int32) (K : Int32 → Vt → Prop) : Prop := Ev l G RX2 cX2_heaviestWay 4 (some .int) rm_X2_heaviestWay E 0 0 V 4 [(0, .ref (eA E 2 o0)), (1, .int x1), (2, .int x2), (3, .int x3)] [] (Qi E K)
def vc_X2_heaviestWay (l : Launch) (G : Gt) (E : Et) (V : Vt) (o0 : Nat) (x1 : Int32) (K : Int32 → Vt → Prop) : Prop := A_X2_heaviestWay_4 l G E V o0 x1 (0 : Int32) (1 : Int32) K
def vc_X2_heaviestWay_4 (l : Launch) (G : Gt) (E : Et) (V : Vt) (o0 : Nat) (x1 : Int32) (x2 : Int32) (x3 : Int32) (K : Int32 → Vt → Prop) : Prop := (((V 308 o0 0) ≤ x3 → K x2 V) ∧ (¬ (V 308 o0 0) ≤ x3 → (C_X2_portion l G E V o0 x1 x3 (fun x22 V21 => (C_X2_portion l G E V21 o0 x1 x2 (fun x24 V23 => ((x22 ≤ x24 → A_X2_heaviestWay_4 l G E V23 o0 x1 x2 (x3 + (1 : Int32)) K) ∧ (¬ x22 ≤ x24 → A_X2_heaviestWay_4 l G E V23 o0 x1 x3 (x3 + (1 : Int32)) K))))))))
theorem ok_X2_heaviestWay {l : Launch} {G : Gt} {E : Et} {V : Vt} {o0 : Nat} {x1 : Int32} {K : Int32 → Vt → Prop} (hE : Sg E) (hl_o0 : eL E 2 o0) (h : vc_X2_heaviestWay l G E V o0 x1 K) : C_X2_heaviestWay l G E V o0 x1 K := by
  unfold vc_X2_heaviestWay at h
  refine Cl.of (by decide +kernel) (Nat.le_of_ble_eq_true rfl) (show Ev l G RX2 cX2_heaviestWay 4 (some .int) rm_X2_heaviestWay E 0 0 V 0 [(0, .ref (eA E 2 o0)), (1, .int x1)] [] (Qi E K) from ?_)
  refine r_iconst (v := (0 : Int32)) dX2_heaviestWay_0 (by decide) ?_
  refine r_istore_n dX2_heaviestWay_1 (by decide) ?_
  refine r_iconst (v := (1 : Int32)) dX2_heaviestWay_2 (by decide) ?_
  refine r_istore_n dX2_heaviestWay_3 (by decide) ?_
  exact Ev.loc [0, 1, 2, 3] rfl h
theorem ok_X2_heaviestWay_4 {l : Launch} {G : Gt} {E : Et} {V : Vt} {o0 : Nat} {x1 : Int32} {x2 : Int32} {x3 : Int32} {K : Int32 → Vt → Prop} (hE : Sg E) (hl_o0 : eL E 2 o0) (h : vc_X2_heaviestWay_4 l G E V o0 x1 x2 x3 K) : A_X2_heaviestWay_4 l G E V o0 x1 x2 x3 K := by
  unfold vc_X2_heaviestWay_4 at h
  unfold A_X2_heaviestWay_4
  refine r_iload_n (x := x3) dX2_heaviestWay_4 rfl ?_
  refine r_aload_n (v := .ref (eA E 2 o0)) dX2_heaviestWay_5 rfl (rl_ref _) ?_
  refine r_get (v := .int (V 308 o0 0)) dX2_heaviestWay_6 fl_RX2_55 hl_o0 rfl ?_
  refine r_icmp_ge 35 dX2_heaviestWay_9 (by decide) (fun q => ?_) (fun q => ?_)
  · have h := h.1 q
    refine r_iload_n (x := x2) dX2_heaviestWay_35 rfl ?_
    exact r_iret dX2_heaviestWay_36 rfl ⟨Nat.le_of_ble_eq_true rfl, Nat.le_of_ble_eq_true rfl⟩ ⟨rfl, _, rfl, h⟩
  · have h := h.2 q
    refine r_aload_n (v := .ref (eA E 2 o0)) dX2_heaviestWay_12 rfl (rl_ref _) ?_
    refine r_iload_n (x := x1) dX2_heaviestWay_13 rfl ?_
    refine r_iload_n (x := x3) dX2_heaviestWay_14 rfl ?_
    refine r_cVi (As := [.int x1, .int x3]) (rest := []) dX2_heaviestWay_15 mv_X2_portion ml_RX2_58 ⟨_, _, rfl⟩ hl_o0 ⟨Nat.le_of_ble_eq_true rfl, Nat.le_of_ble_eq_true rfl⟩ ⟨rfl, rfl⟩ rfl rfl (Nat.le_of_ble_eq_true rfl) h (fun x22 V21 h => ?_)
    refine r_aload_n (v := .ref (eA E 2 o0)) dX2_heaviestWay_18 rfl (rl_ref _) ?_
    refine r_iload_n (x := x1) dX2_heaviestWay_19 rfl ?_
    refine r_iload_n (x := x2) dX2_heaviestWay_20 rfl ?_
    refine r_cVi (As := [.int x1, .int x2]) (rest := [.int x22]) dX2_heaviestWay_21 mv_X2_portion ml_RX2_58 ⟨_, _, rfl⟩ hl_o0 ⟨Nat.le_of_ble_eq_true rfl, Nat.le_of_ble_eq_true rfl⟩ ⟨rfl, rfl⟩ rfl rfl (Nat.le_of_ble_eq_true rfl) h (fun x24 V23 h => ?_)
    refine r_icmp_le 29 dX2_heaviestWay_24 (by decide) (fun q => ?_) (fun q => ?_)
    · have h := h.1 q
      refine r_iinc (x := x3) (v := (1 : Int32)) dX2_heaviestWay_29 rfl (by decide) (by decide) ?_
      refine r_goto 4 dX2_heaviestWay_32 (by decide) ?_
      exact Ev.loc [0, 1, 2, 3] rfl h
    · have h := h.2 q
      refine r_iload_n (x := x3) dX2_heaviestWay_27 rfl ?_
      refine r_istore_n dX2_heaviestWay_28 (by decide) ?_
      refine r_iinc (x := x3) (v := (1 : Int32)) dX2_heaviestWay_29 rfl (by decide) (by decide) ?_
      refine r_goto 4 dX2_heaviestWay_32 (by decide) ?_
      exact Ev.loc [0, 1, 2, 3] rfl h
abbrev rm_X2_markSupports : Room := { frames := 0, cells := 0, slots := 0, locals := 0 }
def C_X2_markSupports (l : Launch) (G : Gt) (E : Et) (V : Vt) (o0 : Nat) (K : Vt → Prop) : Prop := Cl l G yX2_markSupports cX2_markSupports 3 none rm_X2_markSupports E V [.ref (eA E 2 o0), .ref (eA E 908 0)] (Qv E K)
def A_X2_markSupports_2 (l : Launch) (G : Gt) (E : Et) (V : Vt) (o0 : Nat) (x2 : Int32) (K : Vt → Prop) : Prop := Ev l G RX2 cX2_markSupports 3 none rm_X2_markSupports E 0 0 V 2 [(0, .ref (eA E 2 o0)), (1, .ref (eA E 908 0)), (2, .int x2)] [] (Qv E K)
def vc_X2_markSupports (l : Launch) (G : Gt) (E : Et) (V : Vt) (o0 : Nat) (K : Vt → Prop) : Prop := A_X2_markSupports_2 l G E V o0 (0 : Int32) K
def vc_X2_markSupports_2 (l : Launch) (G : Gt) (E : Et) (V : Vt) (o0 : Nat) (x2 : Int32) (K : Vt → Prop) : Prop := (((V 308 o0 0) ≤ x2 → K V) ∧ (¬ (V 308 o0 0) ≤ x2 → (vp_in x2 4) ∧ (vp_in (V 305 o0 (x2).toNatClampNeg) 40) ∧ A_X2_markSupports_2 l G E (up3 V 908 0 ((V 305 o0 (x2).toNatClampNeg)).toNatClampNeg (1 : Int32)) o0 (x2 + (1 : Int32)) K))
theorem ok_X2_markSupports {l : Launch} {G : Gt} {E : Et} {V : Vt} {o0 : Nat} {K : Vt → Prop} (hE : Sg E) (hl_o0 : eL E 2 o0) (h : vc_X2_markSupports l G E V o0 K) : C_X2_markSupports l G E V o0 K := by
  unfold vc_X2_markSupports at h
  refine Cl.of (by decide +kernel) (Nat.le_of_ble_eq_true rfl) (show Ev l G RX2 cX2_markSupports 3 none rm_X2_markSupports E 0 0 V 0 [(0, .ref (eA E 2 o0)), (1, .ref (eA E 908 0))] [] (Qv E K) from ?_)
  refine r_iconst (v := (0 : Int32)) dX2_markSupports_0 (by decide) ?_
  refine r_istore_n dX2_markSupports_1 (by decide) ?_
  exact Ev.loc [0, 1, 2] rfl h
theorem ok_X2_markSupports_2 {l : Launch} {G : Gt} {E : Et} {V : Vt} {o0 : Nat} {x2 : Int32} {K : Vt → Prop} (hE : Sg E) (hl_o0 : eL E 2 o0) (h : vc_X2_markSupports_2 l G E V o0 x2 K) : A_X2_markSupports_2 l G E V o0 x2 K := by
  unfold vc_X2_markSupports_2 at h
  unfold A_X2_markSupports_2
  refine r_iload_n (x := x2) dX2_markSupports_2 rfl ?_
  refine r_aload_n (v := .ref (eA E 2 o0)) dX2_markSupports_3 rfl (rl_ref _) ?_
  refine r_get (v := .int (V 308 o0 0)) dX2_markSupports_4 fl_RX2_55 hl_o0 rfl ?_
  refine r_icmp_ge 25 dX2_markSupports_7 (by decide) (fun q => ?_) (fun q => ?_)
  · have h := h.1 q
    exact r_vret dX2_markSupports_25 rfl ⟨Nat.le_of_ble_eq_true rfl, Nat.le_of_ble_eq_true rfl⟩ ⟨rfl, rfl, h⟩
  · have h := h.2 q
    refine r_aload_n (v := .ref (eA E 908 0)) dX2_markSupports_10 rfl (rl_ref _) ?_
    refine r_aload_n (v := .ref (eA E 2 o0)) dX2_markSupports_11 rfl (rl_ref _) ?_
    refine r_get (v := .ref (eA E 305 o0)) dX2_markSupports_12 fl_RX2_16 hl_o0 rfl ?_
    refine r_iload_n (x := x2) dX2_markSupports_15 rfl ?_
    obtain ⟨hb, h⟩ := h
    refine r_iald dX2_markSupports_16 rfl (by decide) hl_o0 (ix hE (by decide) rfl hb) ?_
    refine r_iconst (v := (1 : Int32)) dX2_markSupports_17 (by decide) ?_
    obtain ⟨hb, h⟩ := h
    refine r_iast dX2_markSupports_18 rfl (by decide) (hE.1 8 (by decide)) (ix hE (by decide) rfl hb) ?_
    refine r_iinc (x := x2) (v := (1 : Int32)) dX2_markSupports_19 rfl (by decide) (by decide) ?_
    refine r_goto 2 dX2_markSupports_22 (by decide) ?_
    exact Ev.loc [0, 1, 2] rfl h
abbrev rm_X2_standsOn : Room := { frames := 0, cells := 0, slots := 0, locals := 0 }
def C_X2_standsOn (l : Launch) (G : Gt) (E : Et) (V : Vt) (o0 : Nat) (x1 : Int32) (K : Int32 → Vt → Prop) : Prop := Cl l G yX2_standsOn cX2_standsOn 3 (some .boolean) rm_X2_standsOn E V [.ref (eA E 2 o0), .int x1] (Qi E K)
def A_X2_standsOn_2 (l : Launch) (G : Gt) (E : Et) (V : Vt) (o0 : Nat) (x1 : Int32) (x2 : Int32) (K : Int32 → Vt → Prop) : Prop := Ev l G RX2 cX2_standsOn 3 (some .boolean) rm_X2_standsOn E 0 0 V 2 [(0, .ref (eA E 2 o0)), (1, .int x1), (2, .int x2)] [] (Qi E K)
def vc_X2_standsOn (l : Launch) (G : Gt) (E : Et) (V : Vt) (o0 : Nat) (x1 : Int32) (K : Int32 → Vt → Prop) : Prop := A_X2_standsOn_2 l G E V o0 x1 (0 : Int32) K
def vc_X2_standsOn_2 (l : Launch) (G : Gt) (E : Et) (V : Vt) (o0 : Nat) (x1 : Int32) (x2 : Int32) (K : Int32 → Vt → Prop) : Prop := (((V 308 o0 0) ≤ x2 → K (0 : Int32) V) ∧ (¬ (V 308 o0 0) ≤ x2 → (vp_in x2 4) ∧ ((¬ (V 305 o0 (x2).toNatClampNeg) = x1 → A_X2_standsOn_2 l G E V o0 x1 (x2 + (1 : Int32)) K) ∧ ((V 305 o0 (x2).toNatClampNeg) = x1 → K (1 : Int32) V))))
theorem ok_X2_standsOn {l : Launch} {G : Gt} {E : Et} {V : Vt} {o0 : Nat} {x1 : Int32} {K : Int32 → Vt → Prop} (hE : Sg E) (hl_o0 : eL E 2 o0) (h : vc_X2_standsOn l G E V o0 x1 K) : C_X2_standsOn l G E V o0 x1 K := by
  unfold vc_X2_standsOn at h
  refine Cl.of (by decide +kernel) (Nat.le_of_ble_eq_true rfl) (show Ev l G RX2 cX2_standsOn 3 (some .boolean) rm_X2_standsOn E 0 0 V 0 [(0, .ref (eA E 2 o0)), (1, .int x1)] [] (Qi E K) from ?_)
  refine r_iconst (v := (0 : Int32)) dX2_standsOn_0 (by decide) ?_
  refine r_istore_n dX2_standsOn_1 (by decide) ?_
  exact Ev.loc [0, 1, 2] rfl h
theorem ok_X2_standsOn_2 {l : Launch} {G : Gt} {E : Et} {V : Vt} {o0 : Nat} {x1 : Int32} {x2 : Int32} {K : Int32 → Vt → Prop} (hE : Sg E) (hl_o0 : eL E 2 o0) (h : vc_X2_standsOn_2 l G E V o0 x1 x2 K) : A_X2_standsOn_2 l G E V o0 x1 x2 K := by
  unfold vc_X2_standsOn_2 at h
  unfold A_X2_standsOn_2
  refine r_iload_n (x := x2) dX2_standsOn_2 rfl ?_
  refine r_aload_n (v := .ref (eA E 2 o0)) dX2_standsOn_3 rfl (rl_ref _) ?_
  refine r_get (v := .int (V 308 o0 0)) dX2_standsOn_4 fl_RX2_55 hl_o0 rfl ?_
  refine r_icmp_ge 28 dX2_standsOn_7 (by decide) (fun q => ?_) (fun q => ?_)
  · have h := h.1 q
    refine r_iconst (v := (0 : Int32)) dX2_standsOn_28 (by decide) ?_
    exact r_zret dX2_standsOn_29 rfl rfl ⟨Nat.le_of_ble_eq_true rfl, Nat.le_of_ble_eq_true rfl⟩ ⟨rfl, _, rfl, h⟩
  · have h := h.2 q
    refine r_aload_n (v := .ref (eA E 2 o0)) dX2_standsOn_10 rfl (rl_ref _) ?_
    refine r_get (v := .ref (eA E 305 o0)) dX2_standsOn_11 fl_RX2_16 hl_o0 rfl ?_
    refine r_iload_n (x := x2) dX2_standsOn_14 rfl ?_
    obtain ⟨hb, h⟩ := h
    refine r_iald dX2_standsOn_15 rfl (by decide) hl_o0 (ix hE (by decide) rfl hb) ?_
    refine r_iload_n (x := x1) dX2_standsOn_16 rfl ?_
    refine r_icmp_ne 22 dX2_standsOn_17 (by decide) (fun q => ?_) (fun q => ?_)
    · have h := h.1 q
      refine r_iinc (x := x2) (v := (1 : Int32)) dX2_standsOn_22 rfl (by decide) (by decide) ?_
      refine r_goto 2 dX2_standsOn_25 (by decide) ?_
      exact Ev.loc [0, 1, 2] rfl h
    · have h := h.2 q
      refine r_iconst (v := (1 : Int32)) dX2_standsOn_20 (by decide) ?_
      exact r_zret dX2_standsOn_21 rfl rfl ⟨Nat.le_of_ble_eq_true rfl, Nat.le_of_ble_eq_true rfl⟩ ⟨rfl, _, rfl, h⟩

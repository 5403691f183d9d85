/-! arch -/
abbrev rm_X8_arch : Room := { frames := 2, cells := 5, slots := 56, locals := 60 }
section Arch
variable {l : Launch} {G : Gt} {E : Et} {V : Vt} {n m fr gc tc sc ec : Nat} {D on sn ti tx : Nat → Nat → Nat} {yb gl tn es : Nat → Nat}
def archV (V : Vt) (n : Nat) (x y z : Int32) (a b : Nat) : Vt := up3 (up3 (up3 (up3 (up3 (addPV V n 1 x y z) 305 n 0 (nI a)) 306 n 0 6) 305 n 1 (nI b)) 306 n 1 6) 308 n 0 2
theorem sp_arch {x y z u v : Int32} {K : Int32 → Et → Vt → Prop} (hE : WE E n gc tc) (hP : PC E V n (D 0) on) (h1 : (¬ msr x y z ∨ u = v ∨ (u < 0 ∨ nI n ≤ u) ∨ (v < 0 ∨ nI n ≤ v)) → K (-1) E V) (h2 : ∀ a b, a < n → b < n → u = nI a → v = nI b → msr x y z → ¬ u = v → n = 40 → K (-3) E V) (h3 : ∀ a b, a < n → b < n → u = nI a → v = nI b → msr x y z → ¬ u = v → n < 40 → ∀ q b4 b5 b6 b7, K (nI n) (setR (addP E n q b4 b5 b6 b7) 400 n n) (up3 (archV V n x y z a b) 405 0 0 (nI (n + 1)))) : Cl l G yX8_arch cX8_arch 7 (some .int) rm_X8_arch E V [.ref (eA E 8 0), .int x, .int y, .int z, .int u, .int v] (Qe K) := by
  obtain ⟨hS, hR, ho, hp, hg, ht⟩ := And.intro True.intro hE |>.2
  have hn2 := hP.2.1
  refine Cl.of (by decide +kernel) (Nat.le_of_ble_eq_true rfl) (show Ev l G RX8 cX8_arch 7 (some .int) rm_X8_arch E 0 0 V 0 [(0, .ref (eA E 8 0)), (1, .int x), (2, .int y), (3, .int z), (4, .int u), (5, .int v)] [] (Qe K) from ?_)
  have bad : ∀ V' : Vt, V' = V → (¬ msr x y z ∨ u = v ∨ (u < 0 ∨ nI n ≤ u) ∨ (v < 0 ∨ nI n ≤ v)) → Ev l G RX8 cX8_arch 7 (some .int) rm_X8_arch E 0 0 V' 40 [(0, .ref (eA E 8 0)), (1, .int x), (2, .int y), (3, .int z), (4, .int u), (5, .int v)] [] (Qe K) := fun V' e hb => by
    subst e
    refine r_iconst (v := (-1 : Int32)) dX8_arch_40 (by decide) ?_
    exact r_iret dX8_arch_41 rfl ⟨by decide, by decide⟩ ⟨_, rfl, h1 hb⟩
  have fnd : ∀ w : Int32, C_X3_find l G E V w (fun o V' => V' = V ∧ ((o = none ∧ (w < 0 ∨ nI n ≤ w)) ∨ ∃ p, p < n ∧ w = nI p ∧ o = some p)) := fun w => sp_find hS hP (fun q => ⟨rfl, Or.inl ⟨rfl, q⟩⟩) (fun p hp e => ⟨rfl, Or.inr ⟨p, hp, e, rfl⟩⟩)
  refine r_iload_n (x := x) dX8_arch_0 rfl ?_
  refine r_iload_n (x := y) dX8_arch_1 rfl ?_
  refine r_iload_n (x := z) dX8_arch_2 rfl ?_
  refine r_cSi (rY := rm_X8_isMeasure) (As := [.int x, .int y, .int z]) (rest := []) (K := fun r V' => V' = V ∧ ((r = 1 ∧ msr x y z) ∨ (r = 0 ∧ ¬ msr x y z))) dX8_arch_3 ms_X8_isMeasure ml_RX8_63 ⟨Nat.le_of_ble_eq_true rfl, Nat.le_of_ble_eq_true rfl⟩ ⟨rfl, rfl⟩ rfl rfl (Nat.le_of_ble_eq_true rfl) (sp_msr hS (fun q => ⟨rfl, Or.inl ⟨rfl, q⟩⟩) (fun q => ⟨rfl, Or.inr ⟨rfl, q⟩⟩)) (fun r V' hr => ?_)
  obtain ⟨rfl, hr⟩ := hr
  refine r_if_eq 40 dX8_arch_6 (by decide) (fun q => bad V' rfl (Or.inl ?_)) (fun q => ?_)
  · rcases hr with w | w
    · exact absurd (w.1.symm.trans q) (by decide)
    · exact w.2
  have hm : msr x y z := by
    rcases hr with w | w
    · exact w.2
    · exact absurd w.1 q
  refine r_iload (x := u) dX8_arch_9 rfl ?_
  refine r_iload (x := v) dX8_arch_11 rfl ?_
  refine r_icmp_eq 40 dX8_arch_13 (by decide) (fun q => bad V' rfl (Or.inr (Or.inl q))) (fun hne => ?_)
  refine r_aload_n (v := .ref (eA E 8 0)) dX8_arch_16 rfl (rl_ref _) ?_
  refine r_get (v := .ref (eA E 3 0)) dX8_arch_17 fl_RX8_10 (hS.1 8 (by decide)) rfl ?_
  refine r_iload (x := u) dX8_arch_20 rfl ?_
  refine r_cVr (As := [.int u]) (rest := []) dX8_arch_22 mv_X3_find ml_RX8_80 ⟨_, _, rfl⟩ (hS.1 3 (by decide)) ⟨Nat.le_of_ble_eq_true rfl, Nat.le_of_ble_eq_true rfl⟩ ⟨rfl, rfl⟩ rfl rfl (Nat.le_of_ble_eq_true rfl) (fnd u) (fun o V1 h => ?_)
  obtain ⟨rfl, h⟩ := h
  rcases h with ⟨rfl, hb⟩ | ⟨a, ha, hua, rfl⟩
  · exact r_ifnull (o := none) 40 dX8_arch_25 (by decide) (fun _ => bad V1 rfl (Or.inr (Or.inr (Or.inl hb)))) (fun a q => by cases q)
  refine r_ifnull (o := some (eA E 2 a)) 40 dX8_arch_25 (by decide) (fun q => by cases q) (fun _ _ => ?_)
  refine r_aload_n (v := .ref (eA E 8 0)) dX8_arch_28 rfl (rl_ref _) ?_
  refine r_get (v := .ref (eA E 3 0)) dX8_arch_29 fl_RX8_10 (hS.1 8 (by decide)) rfl ?_
  refine r_iload (x := v) dX8_arch_32 rfl ?_
  refine r_cVr (As := [.int v]) (rest := []) dX8_arch_34 mv_X3_find ml_RX8_80 ⟨_, _, rfl⟩ (hS.1 3 (by decide)) ⟨Nat.le_of_ble_eq_true rfl, Nat.le_of_ble_eq_true rfl⟩ ⟨rfl, rfl⟩ rfl rfl (Nat.le_of_ble_eq_true rfl) (fnd v) (fun o V2 h => ?_)
  obtain ⟨rfl, h⟩ := h
  rcases h with ⟨rfl, hb⟩ | ⟨b, hbn, hvb, rfl⟩
  · exact r_ifnonnull (o := none) 42 dX8_arch_37 (by decide) (fun a q => by cases q) (fun _ => bad V2 rfl (Or.inr (Or.inr (Or.inr hb))))
  refine r_ifnonnull (o := some (eA E 2 b)) 42 dX8_arch_37 (by decide) (fun _ _ => ?_) (fun q => by cases q)
  refine r_aload_n (v := .ref (eA E 8 0)) dX8_arch_42 rfl (rl_ref _) ?_
  refine r_get (v := .ref (eA E 3 0)) dX8_arch_43 fl_RX8_10 (hS.1 8 (by decide)) rfl ?_
  refine r_get (v := .int (V2 405 0 0)) dX8_arch_46 fl_RX8_67 (hS.1 3 (by decide)) rfl ?_
  refine r_bipush (v := (40 : Int32)) dX8_arch_49 (by decide) ?_
  rw [hP.1]
  refine r_icmp_lt 57 dX8_arch_51 (by decide) (fun q2 => ?_) (fun q2 => ?_)
  · have hlt : n < 40 := (nI_ltI (b := 40) (by omega) (by decide)).mp q2
    refine w_new tyX2 dX8_arch_57 (ci := 2) rfl uw_X2 tyX2_ok kw_RX8_71 ki_X2 mi_X2_init.2.2 (dF rfl) (by decide) (by decide) (fun q0 => ?_)
    refine w_dup dX8_arch_60 rfl ?_
    refine w_iconst (v := (1 : Int32)) dX8_arch_61 (by decide) ?_
    refine w_iload_n (x := x) dX8_arch_62 rfl ?_
    refine w_iload_n (x := y) dX8_arch_63 rfl ?_
    refine w_iload_n (x := z) dX8_arch_64 rfl ?_
    refine w_init (w2 := []) (b := q0) (rY := rm_X2_init) (As := [.int 1, .int x, .int y, .int z]) (rest := [.ref q0]) (na := 4) dX8_arch_65 mi_X2_init rfl (by decide +kernel) ml_RX8_73 ⟨Nat.le_of_ble_eq_true rfl, Nat.le_of_ble_eq_true rfl⟩ ⟨by decide, by decide⟩ rfl rfl (Nat.le_of_ble_eq_true rfl) (fun sz => ct_X2_init) (fun w hw => ?_)
    obtain ⟨b4, b5, b6, b7, rfl⟩ := hw
    refine w_name (E' := addP E n q0 b4 b5 b6 b7) (V' := addPV V2 n 1 x y z) (c := 2) (i := n) (ids := [2, 304, 305, 306, 307]) (addP_off _ _ _ _ _ _ _ _ _ _ _ _) (fun w => absurd ((hp n).mp w) (by omega)) hR (fun c' hc' => hS.1 c' ((show ∀ c' : Nat, c' ∈ ([0, 3, 4, 5, 6] : List Nat) → c' ∈ ([0, 3, 4, 5, 6, 8, 9] : List Nat) by decide) c' hc')) (ptW_eq hS n q0 b4 b5 b6 b7 1 x y z) cov2 ?_
    obtain ⟨E1, hE1⟩ : ∃ E1, E1 = addP E n q0 b4 b5 b6 b7 := ⟨_, rfl⟩
    have hS2 : Sg E1 := by
      rw [hE1]
      exact ⟨fun c hc => Or.inl (hS.1 c hc), hS.2⟩
    have e3 : eA E1 3 0 = eA E 3 0 := by
      rw [hE1]
      show (if 0 = n then _ else _) = _
      split <;> rfl
    have e8 : eA E1 8 0 = eA E 8 0 := by
      rw [hE1]
      show (if 0 = n then _ else _) = _
      split <;> rfl
    have e2 : eA E1 2 n = q0 := by rw [hE1]; exact (addP_a E n q0 b4 b5 b6 b7).1
    have hl2 : eL E1 2 n := by rw [hE1]; exact Or.inr ⟨rfl, rfl⟩
    rw [← hE1, ← e8, ← e2]
    refine r_astore dX8_arch_68 (by decide) (rl_ref _) ?_
    refine r_aload (v := .ref (eA E1 2 n)) dX8_arch_70 rfl (rl_ref _) ?_
    refine r_iconst (v := (0 : Int32)) dX8_arch_72 (by decide) ?_
    refine r_iload (x := u) dX8_arch_73 rfl ?_
    refine r_bipush (v := (6 : Int32)) dX8_arch_75 (by decide) ?_
    refine r_callV (rY := rm_X2_standOn) (ci := 2) (i := n) (As := [.int 0, .int u, .int 6]) (rest := []) (Qc := Qv E1 (fun V' => V' = up3 (up3 (addPV V2 n 1 x y z) 305 n 0 u) 306 n 0 6)) dX8_arch_77 mv_X2_standOn ml_RX8_84 ⟨_, _, rfl⟩ hl2 ⟨Nat.le_of_ble_eq_true rfl, Nat.le_of_ble_eq_true rfl⟩ ⟨by decide, by decide⟩ rfl rfl (Nat.le_of_ble_eq_true rfl) ?_ (fun r E' V3 hr => ?_)
    · exact sp_stand (i := 0) hS2 hl2 (by decide) hua (by omega) rfl
    obtain ⟨rfl, rfl, rfl⟩ := hr
    refine r_aload (v := .ref (eA E1 2 n)) dX8_arch_80 rfl (rl_ref _) ?_
    refine r_iconst (v := (1 : Int32)) dX8_arch_82 (by decide) ?_
    refine r_iload (x := v) dX8_arch_83 rfl ?_
    refine r_bipush (v := (6 : Int32)) dX8_arch_85 (by decide) ?_
    refine r_callV (rY := rm_X2_standOn) (ci := 2) (i := n) (As := [.int 1, .int v, .int 6]) (rest := []) (Qc := Qv E1 (fun V' => V' = up3 (up3 (up3 (up3 (addPV V2 n 1 x y z) 305 n 0 u) 306 n 0 6) 305 n 1 v) 306 n 1 6)) dX8_arch_87 mv_X2_standOn ml_RX8_84 ⟨_, _, rfl⟩ hl2 ⟨Nat.le_of_ble_eq_true rfl, Nat.le_of_ble_eq_true rfl⟩ ⟨by decide, by decide⟩ rfl rfl (Nat.le_of_ble_eq_true rfl) ?_ (fun r E' V3 hr => ?_)
    · exact sp_stand (i := 1) hS2 hl2 (by decide) hvb (by omega) rfl
    obtain ⟨rfl, rfl, rfl⟩ := hr
    refine r_aload (v := .ref (eA E1 2 n)) dX8_arch_90 rfl (rl_ref _) ?_
    refine r_iconst (v := (2 : Int32)) dX8_arch_92 (by decide) ?_
    refine r_put dX8_arch_93 fp_RX8_88 rfl hl2 rfl rfl ?_
    refine r_aload_n (v := .ref (eA E1 8 0)) dX8_arch_96 rfl (rl_ref _) ?_
    refine r_get (v := .ref (eA E1 3 0)) dX8_arch_97 fl_RX8_10 (hS2.1 8 (by decide)) rfl ?_
    refine r_aload (v := .ref (eA E1 2 n)) dX8_arch_100 rfl (rl_ref _) ?_
    refine r_callV (rY := rm_X3_add) (ci := 3) (i := 0) (As := [.ref (eA E1 2 n)]) (rest := []) (Qc := Qe K) dX8_arch_102 mv_X3_add ml_RX8_76 ⟨_, _, rfl⟩ (hS2.1 3 (by decide)) ⟨Nat.le_of_ble_eq_true rfl, Nat.le_of_ble_eq_true rfl⟩ ⟨by decide, by decide⟩ rfl rfl (Nat.le_of_ble_eq_true rfl) ?_ (fun r E' V3 hr => ?_)
    · refine sp_add (n := n) hS2 (fun i hi => ?_) ?_ hlt hl2 ?_
      · rw [hE1] at hi
        rcases hi with hi | hi
        · exact ho 3 (by decide) i hi
        · omega
      · rw [up3_f (by decide), up3_f (by decide), up3_f (by decide), up3_f (by decide), up3_f (by decide), addPV_f (by decide)]
        exact hP.1
      · have := h3 a b ha hbn hua hvb hm hne hlt q0 b4 b5 b6 b7
        rw [← hE1] at this
        unfold archV at this
        rw [← hua, ← hvb] at this
        exact this
    · obtain ⟨w, rfl, hw⟩ := hr
      exact r_iret dX8_arch_105 rfl ⟨by decide, by decide⟩ ⟨_, rfl, hw⟩
  · have e : n = 40 := by
      have : ¬ n < 40 := fun w => q2 (nI_lt (b := 40) w (by decide))
      omega
    refine r_bipush (v := (-3 : Int32)) dX8_arch_54 (by decide) ?_
    exact r_iret dX8_arch_56 rfl ⟨by decide, by decide⟩ ⟨_, rfl, h2 a b ha hbn hua hvb hm hne e⟩
theorem sp_sup0 {p i : Nat} {x y : Int32} {K : Vt → Prop} (hE : Sg E) (hp : p < 40) (hi : i < 4) (h : K (up3 (up3 (up3 V 1016 0 (4 * p + i) x) 1017 0 (4 * p + i) y) 1015 0 p (nI (i + 1)))) : C_X9_support0 l G E V (nI p) (nI i) x y K := by
  refine ok_X9_support0 hE ?_
  unfold vc_X9_support0
  rw [n4, cl (by omega), cl (by omega), nI_1]
  exact ⟨inI (by omega) (by decide), inI (by omega) (by decide), inI hp (by decide), h⟩
theorem bo_arch {x y z u v : Int32} {K : Int32 → Int32 → Et → Vt → Prop} (hW : WE E n gc tc) (hI : IP E V n D on sn) (hS : IS V n D on) (hX : IE V n ec es) (hC : IC V m fr yb) (hL : IL V n m D ti) (hT : IX E V tc tn tx) (hG : IG E V gc tc gl) (hU : IU E V sc tc) (h0 : ∀ r, K r r E V)
    (hK : ∀ r E2 V2 D' on' sn', WE E2 (n + 1) gc tc → IP E2 V2 (n + 1) D' on' sn' → IS V2 (n + 1) D' on' → IE V2 (n + 1) ec es → IL V2 (n + 1) m D' ti → IX E2 V2 tc tn tx → IG E2 V2 gc tc gl → IU E2 V2 sc tc → Of partS V V2 → K r r E2 V2) : Cl l G yX8_arch cX8_arch 7 (some .int) rm_X8_arch E V [.ref (eA E 8 0), .int x, .int y, .int z, .int u, .int v] (Qe (fun r E1 V1 => AE E E1 ∧ C_X9_arch l G E1 V1 x y z u v (fun r' V2 => K r r' E1 V2))) := by
  have hn := hI.1.2.1
  have hE := hW.1
  refine sp_arch hW hI.1 (fun q => ?_) (fun a b ha hb hua hvb hm hne e => ?_) (fun a b ha hb hua hvb hm hne hlt q0 b4 b5 b6 b7 => ?_)
  · refine ⟨by first | exact AE_rf _ | exact AE_part, ?_⟩
    refine ok_X9_arch hE ?_
    unfold vc_X9_arch
    refine sp_mmsr hE (fun w => br_f (by decide) ?_) (fun _ => br_t rfl (h0 _))
    refine sp_isPart hE hI.2.1 (fun _ => br_t rfl (h0 _)) (fun a ha hua => br_f (by decide) ?_)
    refine sp_isPart hE hI.2.1 (fun _ => br_t rfl (h0 _)) (fun b hb hvb => br_f (by decide) ?_)
    refine nb_f ?_ (h0 _)
    rcases q with q | q | (q | q) | (q | q)
    · exact absurd w q
    · exact q
    · rw [hua] at q
      exact absurd q (nI_pos (by omega))
    · rw [hua] at q
      exact absurd ((nI_leI (by omega) (by omega)).mp q) (by omega)
    · rw [hvb] at q
      exact absurd q (nI_pos (by omega))
    · rw [hvb] at q
      exact absurd ((nI_leI (by omega) (by omega)).mp q) (by omega)
  · refine ⟨by first | exact AE_rf _ | exact AE_part, ?_⟩
    subst hua
    subst hvb
    refine ok_X9_arch hE ?_
    unfold vc_X9_arch
    refine sp_mmsr hE (fun w => br_f (by decide) ?_) (fun w => absurd hm w)
    refine sp_isPartp hE hI.2.1 ha (br_f (by decide) (sp_isPartp hE hI.2.1 hb (br_f (by decide) (nb_t hne (nb_f ?_ (h0 _))))))
    rw [hI.2.1.1, e]
    rfl
  · refine ⟨by first | exact AE_rf _ | exact AE_part, ?_⟩
    subst hua
    subst hvb
    have hab : a ≠ b := fun e => hne (by rw [e])
    obtain ⟨⟨q1, q2⟩, ⟨q3, q4⟩, ⟨q5, q6⟩⟩ := And.intro True.intro hm |>.2
    have lo : ∀ (u a : Int32), (0 : Int32) ≤ a → a ≤ u → ¬ u < 0 := fun u a w1 w2 => by
      rw [i_lt]
      rw [i_le] at w1 w2
      omega
    obtain ⟨x', hx', rfl⟩ := nI_of2 (M := 30) (n := 30) (by decide) (lo x 1 (by decide) q1) q2
    obtain ⟨y', hy', rfl⟩ := nI_of2 (M := 999) (n := 999) (by decide) (lo y 1 (by decide) q3) q4
    obtain ⟨z', hz', rfl⟩ := nI_of2 (M := 999) (n := 999) (by decide) (lo z 0 (by decide) q5) q6
    have hx1 : 1 ≤ x' := (nI_leI (a := 1) (by decide) (by omega)).mp q1
    have hW2 := hW.part hlt q0 b4 b5 b6 b7
    have hE2 := hW2.1
    obtain ⟨V1, hV1⟩ : ∃ V1, V1 = up3 (archV V n (nI x') (nI y') (nI z') a b) 405 0 0 (nI (n + 1)) := ⟨_, rfl⟩
    rw [← hV1]
    have hO1 : Of [300, 301, 302, 303, 304, 305, 306, 307, 308, 309, 310, 311, 312, 313, 405] V V1 := by
      rw [hV1]
      have : Of [300, 301, 302, 303, 304, 305, 306, 307, 308, 309, 310, 311, 312, 313, 405] V (addPV V n 1 (nI x') (nI y') (nI z')) := fun f hf => addPV_f (by
        refine Decidable.not_not.mp (fun z => hf ?_)
        have : ∀ k, k < 14 → 300 + k ∈ ([300, 301, 302, 303, 304, 305, 306, 307, 308, 309, 310, 311, 312, 313, 405] : List Nat) := by decide
        have := this (f - 300) (by omega)
        rw [show 300 + (f - 300) = f by omega] at this
        exact this)
      exact (((((this.up (by decide)).up (by decide)).up (by decide)).up (by decide)).up (by decide)).up (by decide)
    have hPM : PM V1 n (D 0) on := hI.2.1.cl hO1 (by decide)
    refine ok_X9_arch hE2 ?_
    unfold vc_X9_arch
    refine sp_mmsr hE2 (fun _ => br_f (by decide) ?_) (fun w => absurd hm w)
    refine sp_isPartp hE2 hPM ha (br_f (by decide) (sp_isPartp hE2 hPM hb (br_f (by decide) (nb_t hne (nb_t ?_ ?_)))))
    · rw [hPM.1, li 40, nI_eq (by omega) (by decide)]
      omega
    · refine sp_newPart hE2 hPM.1 hlt ?_
      refine sp_sup0 (i := 0) hE2 hlt (by decide) (sp_sup0 (i := 1) hE2 hlt (by decide) ?_)
      obtain ⟨V2, hV2⟩ : ∃ V2, V2 = up3 (up3 (up3 (up3 (up3 (up3 (newPV V1 n 1 (nI x') (nI y') (nI z')) 1016 0 (4 * n + 0) (nI a)) 1017 0 (4 * n + 0) 6) 1015 0 n (nI (0 + 1))) 1016 0 (4 * n + 1) (nI b)) 1017 0 (4 * n + 1) 6) 1015 0 n (nI (1 + 1)) := ⟨_, rfl⟩
      rw [← hV2]
      have hO12 : Of partS V1 V2 := by
        rw [hV2]
        exact ((((((newPV_of V1 n 1 (nI x') (nI y') (nI z')).up (by decide)).up (by decide)).up (by decide)).up (by decide)).up (by decide)).up (by decide)
      have hO : Of partS V V2 := (hO1.mono (by decide)).tr hO12
      have cl3 : ∀ f p, f < 1000 → V2 f p = V1 f p := fun f p h1 => by
        rw [hV2]
        unfold newPV
        rw [up3_row0 (by omega), up3_row0 (by omega), up3_row0 (by omega), up3_row0 (by omega), up3_row0 (by omega), up3_row0 (by omega), up3_row0 (by omega), up3_row0 (by omega), up3_row0 (by omega), up3_row0 (by omega), up3_row0 (by omega), up3_row0 (by omega), up3_row0 (by omega), up3_row0 (by omega), up3_row0 (by omega), up3_row0 (by omega), up3_row0 (by omega), up3_row0 (by omega), up3_row0 (by omega), up3_row0 (by omega), up3_row0 (by omega)]
      have nw : ∀ f j, 300 ≤ f → f < 314 → f ≠ 305 → f ≠ 306 → f ≠ 308 → V2 f n j = if f = 300 then 1 else if f = 301 then nI x' else if f = 302 then nI y' else if f = 303 then nI z' else if f = 304 then toldF j else if f = 309 then nI x' else 0 := fun f j h1 h2 h5 h6 h8 => by
        rw [cl3 f n (by omega), hV1]
        unfold archV
        rw [up3_f (by omega), up3_f (by omega), up3_f (by omega), up3_f (by omega), up3_f (by omega), up3_f (by omega), addPV_in ⟨h1, h2⟩]
      have n8 : V2 308 n 0 = nI 2 := by
        rw [cl3 308 n (by decide), hV1, up3_f (by decide)]
        exact up3_s _ _ _ _ _
      have n5 : V2 305 n 0 = nI a ∧ V2 305 n 1 = nI b ∧ V2 306 n 0 = nI 6 ∧ V2 306 n 1 = nI 6 := by
        rw [cl3 305 n (by decide), cl3 306 n (by decide), hV1]
        unfold archV
        simp [up3]
        rfl
      have mo : ∀ f p, f ∈ mrows → p ≠ n → V2 f 0 p = V f 0 p := fun f p hf hp => by
        have h3 : 1000 ≤ f ∧ f ≠ 1001 ∧ f ≠ 1016 ∧ f ≠ 1017 := (show ∀ f, f ∈ mrows → 1000 ≤ f ∧ f ≠ 1001 ∧ f ≠ 1016 ∧ f ≠ 1017 by decide) f hf
        rw [hV2]
        unfold newPV
        rw [up3_j hp, up3_f h3.2.2.2, up3_f h3.2.2.1, up3_j hp, up3_f h3.2.2.2, up3_f h3.2.2.1, up3_f h3.2.1, up3_j hp, up3_j hp, up3_j hp, up3_j hp, up3_j hp, up3_j hp, up3_j hp, up3_j hp, up3_j hp, up3_j hp, up3_j hp, up3_j hp, up3_j hp, up3_j hp, hO1 f (fun w => absurd ((show ∀ f, f ∈ ([300, 301, 302, 303, 304, 305, 306, 307, 308, 309, 310, 311, 312, 313, 405] : List Nat) → f < 1000 by decide) f w) (by omega))]
      have m16 : ∀ f j, f = 1016 ∨ f = 1017 → j < 4 * n → V2 f 0 j = V f 0 j := fun f j hf hj => by
        rw [hV2]
        unfold newPV
        rcases hf with rfl | rfl
        · rw [up3_f (by decide), up3_f (by decide), up3_j (by omega), up3_f (by decide), up3_f (by decide), up3_j (by omega), up3_f (by decide), up3_f (by decide), up3_f (by decide), up3_f (by decide), up3_f (by decide), up3_f (by decide), up3_f (by decide), up3_f (by decide), up3_f (by decide), up3_f (by decide), up3_f (by decide), up3_f (by decide), up3_f (by decide), up3_f (by decide), up3_f (by decide), hO1 1016 (by decide)]
        · rw [up3_f (by decide), up3_j (by omega), up3_f (by decide), up3_f (by decide), up3_j (by omega), up3_f (by decide), up3_f (by decide), up3_f (by decide), up3_f (by decide), up3_f (by decide), up3_f (by decide), up3_f (by decide), up3_f (by decide), up3_f (by decide), up3_f (by decide), up3_f (by decide), up3_f (by decide), up3_f (by decide), up3_f (by decide), up3_f (by decide), up3_f (by decide), hO1 1017 (by decide)]
      have hNS : NS V V2 n := by
        refine ⟨fun f p h1 h2 hp => ?_, mo, m16, ?_, ?_⟩
        · rw [cl3 f p (by omega), hV1]
          unfold archV
          funext j
          rw [up3_f (by omega), up3_i hp, up3_i hp, up3_i hp, up3_i hp, up3_i hp, addPV_q hp]
        · rw [cl3 405 0 (by decide), hV1, up3_s]
        · rw [hV2]
          unfold newPV
          rw [up3_f (by decide), up3_f (by decide), up3_f (by decide), up3_f (by decide), up3_f (by decide), up3_f (by decide), up3_s]
      have k16 : V2 1016 0 (4 * n) = nI a ∧ V2 1016 0 (4 * n + 1) = nI b ∧ V2 1017 0 (4 * n) = nI 6 ∧ V2 1017 0 (4 * n + 1) = nI 6 := by
        rw [hV2]
        refine ⟨?_, ?_, ?_, ?_⟩
        · rw [up3_f (by decide), up3_f (by decide), up3_j (by omega), up3_f (by decide), up3_f (by decide)]
          exact up3_s _ _ _ _ _
        · rw [up3_f (by decide), up3_f (by decide), up3_s]
        · rw [up3_f (by decide), up3_j (by omega), up3_f (by decide), up3_f (by decide)]
          exact up3_s _ _ _ _ _
        · rw [up3_f (by decide), up3_s]
          rfl
      have hNP : NP V2 n 2 x' y' z' 1 (fun i => if i = 0 then a else b) (fun _ => 6) := by
        refine ⟨⟨nw 300 0 (by decide) (by decide) (by decide) (by decide) (by decide), nw 301 0 (by decide) (by decide) (by decide) (by decide) (by decide), nw 302 0 (by decide) (by decide) (by decide) (by decide) (by decide), nw 303 0 (by decide) (by decide) (by decide) (by decide) (by decide), nw 304 0 (by decide) (by decide) (by decide) (by decide) (by decide), nw 304 1 (by decide) (by decide) (by decide) (by decide) (by decide), nw 304 2 (by decide) (by decide) (by decide) (by decide) (by decide), nw 304 3 (by decide) (by decide) (by decide) (by decide) (by decide), n8, nw 309 0 (by decide) (by decide) (by decide) (by decide) (by decide), nw 310 0 (by decide) (by decide) (by decide) (by decide) (by decide), nw 311 0 (by decide) (by decide) (by decide) (by decide) (by decide), nw 312 0 (by decide) (by decide) (by decide) (by decide) (by decide), nw 313 0 (by decide) (by decide) (by decide) (by decide) (by decide)⟩, ?_, fun i hi => ?_⟩
        · rw [hV2]
          unfold newPV
          simp [up3]
          rfl
        · obtain ⟨w1, w2, w3, w4⟩ := n5
          obtain ⟨y1, y2, y3, y4⟩ := k16
          rcases (show i = 0 ∨ i = 1 by omega) with rfl | rfl
          · exact ⟨w1, w3, y1, y3⟩
          · exact ⟨w2, w4, y2, y4⟩
      refine hK _ _ V2 (newD D n 2 x' y' z') (newO on n (fun i => if i = 0 then a else b)) (newO sn n (fun _ => 6)) hW2 (hI.new hlt hNP hNS ⟨hx1, hx'⟩ hy' hz' (Or.inr rfl) (by decide) (fun _ => by decide) (fun i hi => ⟨by show (if i = 0 then a else b) < n; split <;> omega, by decide, by decide⟩) (fun _ => rfl) (fun p hp => ⟨?_, (hW2.2.2.2.1 p).mpr hp⟩)) (hS.new hI hlt hNP hNS) (hX.new hlt hNP hNS (fun f hf => hO f ((show ∀ f, f ∈ ([401, 402, 403, 406, 1024, 1025, 1026] : List Nat) → f ∉ partS by decide) f hf))) (hL.new hlt hC.2.2.1 hNS (hO 1023 (by decide))) ((hT.of hO (by decide)).gr (fun t ht => ⟨Or.inl (hT.2.2.2 t ht).1, rfl⟩)) ((hG.of hO (by decide)).gr (fun g hg => ⟨setR_n (fun w => absurd w.1 (by decide)), Or.inl (hG.2.2.2 g hg).2.1, setR_n (fun w => absurd w.1 (by decide))⟩)) ((hU.of hO (by decide)).gr (fun s hs => setR_n (fun w => absurd w.1 (by decide)))) hO
      by_cases e : p = n
      · subst e
        exact setR_s _ _ _ _
      · rw [setR_n (fun w => e w.2)]
        exact (hI.1.2.2 p (by omega)).1
end Arch

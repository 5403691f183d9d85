/-! the model's reader -/
theorem sg_k : ∀ b, b < 256 → ∀ k, k < 128 → (sgb b = nI k ↔ b = k) := by decide +kernel
theorem sg_d : ∀ b, b < 256 → (((48 : Int32) ≤ sgb b ∧ sgb b ≤ 57) ↔ 48 ≤ b ∧ b ≤ 57) := by decide +kernel
theorem sg_lo {b : Nat} (h : b < 128) : sgb b = nI b := if_pos h
theorem kS_lo : ∀ b, b ∈ kS → b < 128 := by decide
theorem kN_lo : ∀ b, b ∈ kN → b < 128 := by decide
theorem mI_b {b : Nat} (h : b < 256) : mI b = nI b := if_pos h
theorem mI_n (v : Nat) : mI (256 + v) = -1 - nI v := by
  unfold mI
  rw [if_neg (by omega), Nat.add_sub_cancel_left]
def TM (V : Vt) (tl : Nat) (tb : Nat → Nat) : Prop := V 1031 0 0 = nI tl ∧ tl ≤ 100 ∧ ∀ j, j < tl → V 1030 0 j = sgb (tb j) ∧ tb j < 256
theorem TM.of {V V' : Vt} {tl : Nat} {tb : Nat → Nat} {S : List Nat} (h : TM V tl tb) (hO : Of S V V') (h1 : 1030 ∉ S) (h2 : 1031 ∉ S) : TM V' tl tb := by
  unfold TM
  rw [hO 1031 h2, hO 1030 h1]
  exact h
def lyV (V : Vt) (o : Nat) (x : Int32) : Vt := up3 (up3 V 1034 0 o x) 1035 0 0 (nI (o + 1))
section MRead
variable {l : Launch} {G : Gt} {E : Et} {V : Vt} {tl c op o : Nat} {tb st f : Nat → Nat}
theorem sp_lay0 {x : Int32} {K : Vt → Prop} (hE : Sg E) (h1 : V 1035 0 0 = nI o) (hc : o < 5100) (h : K (lyV V o x)) : C_X9_lay0 l G E V x K := by
  refine ok_X9_lay0 hE ?_
  unfold vc_X9_lay0
  rw [h1, up3_f (f' := 1035) (by decide), h1, cl (by omega), nI_1]
  exact ⟨inI hc (by decide), h⟩
theorem sp_mDig {x : Int32} {K : Int32 → Vt → Prop} (hE : Sg E) (h : K (bz ((48 : Int32) ≤ x ∧ x ≤ 57)) V) : C_X9_isDigit l G E V x K := by
  refine ok_X9_isDigit hE ?_
  unfold vc_X9_isDigit
  refine ⟨fun q => ?_, fun q => ⟨fun q2 => ?_, fun q2 => ?_⟩⟩
  · rw [bz_f (fun z => lt_nle q z.1)] at h
    exact h
  · rw [bz_f (fun z => lt_nle q2 z.2)] at h
    exact h
  · rw [bz_t ⟨nlt_le q, nlt_le q2⟩] at h
    exact h
theorem sp_mSign {b : Nat} {x : Int32} {K : Int32 → Vt → Prop} (hE : Sg E) (hx : ∀ k, k < 128 → (x = nI k ↔ b = k)) (h : K (bz (b ∈ kS ∧ b ≠ 33)) V) : C_X9_isSign l G E V x K := by
  refine ok_X9_isSign hE ?_
  unfold vc_X9_isSign
  have t : ∀ k, k < 128 → (k ∈ kS ∧ k ≠ 33) → x = nI k → K 1 V := fun k hk hk2 e => by
    rw [bz_t (by rw [(hx k hk).mp e]; exact hk2)] at h
    exact h
  refine ⟨fun q => t 43 (by decide) (by decide) q, fun q1 => ⟨fun q => t 45 (by decide) (by decide) q, fun q2 => ⟨fun q => t 42 (by decide) (by decide) q, fun q3 => ⟨fun q => t 60 (by decide) (by decide) q, fun q4 => ⟨fun q => t 61 (by decide) (by decide) q, fun q5 => ⟨fun q => t 62 (by decide) (by decide) q, fun q6 => ⟨fun q => t 38 (by decide) (by decide) q, fun q7 => ⟨fun q8 => ?_, fun q => t 124 (by decide) (by decide) q⟩⟩⟩⟩⟩⟩⟩⟩
  rw [bz_f (fun z => ?_)] at h
  · exact h
  · obtain ⟨z1, z2⟩ := z
    have n : ∀ k, k < 128 → ¬ x = nI k → ¬ b = k := fun k hk hn e => hn ((hx k hk).mpr e)
    simp only [kS, List.mem_cons, List.not_mem_nil, or_false] at z1
    have := n 43 (by decide) q1
    have := n 45 (by decide) q2
    have := n 42 (by decide) q3
    have := n 60 (by decide) q4
    have := n 61 (by decide) q5
    have := n 62 (by decide) q6
    have := n 38 (by decide) q7
    have := n 124 (by decide) q8
    omega
theorem sp_mName {b : Nat} {x : Int32} {K : Int32 → Vt → Prop} (hE : Sg E) (hx : ∀ k, k < 128 → (x = nI k ↔ b = k)) (h : K (bz (b ∈ kN)) V) : C_X9_isName l G E V x K := by
  refine ok_X9_isName hE ?_
  unfold vc_X9_isName
  have t : ∀ k, k < 128 → k ∈ kN → x = nI k → K 1 V := fun k hk hk2 e => by
    rw [bz_t (by rw [(hx k hk).mp e]; exact hk2)] at h
    exact h
  refine ⟨fun q => t 112 (by decide) (by decide) q, fun q1 => ⟨fun q => t 107 (by decide) (by decide) q, fun q2 => ⟨fun q => t 110 (by decide) (by decide) q, fun q3 => ⟨fun q => t 119 (by decide) (by decide) q, fun q4 => ⟨fun q => t 109 (by decide) (by decide) q, fun q5 => ⟨fun q => t 121 (by decide) (by decide) q, fun q6 => ⟨fun q => t 102 (by decide) (by decide) q, fun q7 => ⟨fun q8 => ?_, fun q => t 100 (by decide) (by decide) q⟩⟩⟩⟩⟩⟩⟩⟩
  rw [bz_f (fun z => ?_)] at h
  · exact h
  · have n : ∀ k, k < 128 → ¬ x = nI k → ¬ b = k := fun k hk hn e => hn ((hx k hk).mpr e)
    simp only [kN, List.mem_cons, List.not_mem_nil, or_false] at z
    have := n 112 (by decide) q1
    have := n 107 (by decide) q2
    have := n 110 (by decide) q3
    have := n 119 (by decide) q4
    have := n 109 (by decide) q5
    have := n 121 (by decide) q6
    have := n 102 (by decide) q7
    have := n 100 (by decide) q8
    omega
theorem sp_mclose {x2 : Int32} {K : Int32 → Vt → Prop} (hE : Sg E) : ∀ (op : Nat) (V : Vt), op ≤ 20 → (∀ k, k < op → V 1036 0 k = nI (st k) ∧ 1 ≤ st k ∧ st k ≤ 2) → (∀ V', Of [1036] V V' → (∀ k, k < csn st op → V' 1036 0 k = nI (csd st (csn st op) k)) → A_X9_read_242 l G E V' (nI (csn st op)) x2 0 K) → (nI op ≤ 0 → A_X9_read_242 l G E V (nI op) x2 0 K) ∧ (¬ nI op ≤ 0 → A_X9_read_242 l G E V (nI op) x2 1 K) := by
  intro op
  induction op with
  | zero =>
    intro V hop hst h
    refine ⟨fun _ => h V (Of.rf _ _) (fun k hk => by unfold csn at hk; omega), fun z => absurd (by decide) z⟩
  | succ op ih =>
    intro V hop hst h
    obtain ⟨u1, u2, u3⟩ := hst op (by omega)
    refine ⟨fun z => absurd z (nI_nle (by omega) (by omega)), fun _ => ?_⟩
    refine ok_X9_read_242 hE ?_
    unfold vc_X9_read_242
    rw [nI_pred, cl (by omega), up3_s, u1, nI_sub1 (by omega)]
    have ii : vp_in (nI op) 21 := inI (by omega) (by decide)
    unfold csn at h
    refine br_f (by decide) ⟨ii, ii, ii, fun z => ?_, fun z => ?_⟩
    · rw [nI_eq0 (by omega)] at z
      rw [if_neg (by omega)] at h
      refine br_t rfl (br_t rfl ?_)
      rw [Int32.sub_zero]
      refine h _ ((Of.rf _ V).up (by decide)) (fun k hk => ?_)
      unfold csd
      by_cases e : k = op
      · subst e
        rw [up3_s, if_pos rfl]
      · rw [up3_j e, if_neg (by omega)]
        exact (hst k (by omega)).1
    · rw [nI_eq0 (by omega)] at z
      rw [if_pos (by omega)] at h
      refine br_f (by decide) (br_f (by decide) ?_)
      refine ih _ (by omega) (fun k hk => ?_) (fun V' hO e2 => ?_)
      · rw [up3_j (by omega)]
        exact hst k (by omega)
      · exact h V' (((Of.rf _ V).up (by decide)).tr hO) e2
theorem sp_mnum {a : Nat} {x1 : Int32} {K : Int32 → Vt → Prop} (hE : Sg E) (hT : TM V tl tb) (ha : a ≤ tl)
    (hF : ¬ (a + nc tl tb a < tl ∧ 2 ≤ nc tl tb a ∧ tb (a + nc tl tb a) = 32) → K (nI (a + nc tl tb a)) V) (hS : (a + nc tl tb a < tl ∧ 2 ≤ nc tl tb a ∧ tb (a + nc tl tb a) = 32) → C_X9_lay0 l G E V (-1 - nI (nv tb a (nc tl tb a))) (fun V33 => ((x1 ≤ (0 : Int32) → A_X9_read_242 l G E V33 x1 (nI (a + nc tl tb a) + (1 : Int32)) (0 : Int32) K) ∧ (¬ x1 ≤ (0 : Int32) → A_X9_read_242 l G E V33 x1 (nI (a + nc tl tb a) + (1 : Int32)) (1 : Int32) K)))) : A_X9_read_99 l G E V x1 (nI a) 0 0 K := by
  obtain ⟨t1, t2, t3⟩ := And.intro True.intro hT |>.2
  have loop : ∀ (r k : Nat), k + r = 5 → ncr tl tb a k r = nc tl tb a → k ≤ nc tl tb a → a + k ≤ tl → A_X9_read_99 l G E V x1 (nI (a + k)) (nI k) (nI (nv tb a k)) K := by
    intro r
    have tail : ∀ k, k = nc tl tb a → a + k ≤ tl → ((nI (a + k) = nI tl → K (nI (a + k)) V) ∧ (¬ nI (a + k) = nI tl → ((nI k < (2 : Int32) → K (nI (a + k)) V) ∧ (¬ nI k < (2 : Int32) → (vp_in (nI (a + k)) 100) ∧ (((V 1030 0 (nI (a + k)).toNatClampNeg) = (32 : Int32) → (C_X9_lay0 l G E V ((-1 : Int32) - nI (nv tb a k)) (fun V33 => ((x1 ≤ (0 : Int32) → A_X9_read_242 l G E V33 x1 (nI (a + k) + (1 : Int32)) (0 : Int32) K) ∧ (¬ x1 ≤ (0 : Int32) → A_X9_read_242 l G E V33 x1 (nI (a + k) + (1 : Int32)) (1 : Int32) K))))) ∧ (¬ (V 1030 0 (nI (a + k)).toNatClampNeg) = (32 : Int32) → K (nI (a + k)) V)))))) := by
      intro k hk hkl
      rw [← hk] at hF hS
      have hk5 := (nc_le tl tb a).1
      rw [nI_eq (by omega) (by omega), li 2, nI_ltI (by omega) (by decide)]
      refine ⟨fun q => hF (fun z => by omega), fun q => ⟨fun q2 => hF (fun z => by omega), fun q2 => ⟨inI (by omega) (by decide), ?_⟩⟩⟩
      obtain ⟨u1, u2⟩ := t3 (a + k) (by omega)
      rw [cl (by omega), u1, li 32, sg_k _ u2 32 (by decide)]
      exact ⟨fun z => hS ⟨by omega, by omega, z⟩, fun z => hF (fun y => z y.2.2)⟩
    induction r with
    | zero =>
      intro k hk hn hkl hal
      unfold ncr at hn
      refine ok_X9_read_99 hE ?_
      unfold vc_X9_read_99
      rw [t1]
      refine ⟨fun _ => tail k hn hal, fun q => ⟨?_, ?_⟩⟩
      · rw [nI_leI (by omega) (by omega)] at q
        exact inI (by omega) (by decide)
      · rw [nI_leI (by omega) (by omega)] at q
        obtain ⟨u1, u2⟩ := t3 (a + k) (by omega)
        refine sp_mDig hE ?_
        rw [t1]
        refine ⟨fun z => tail k hn hal, fun z => ⟨fun z2 => ?_, fun z2 => ?_⟩⟩
        · exact absurd (by rw [show k = 5 by omega]; rfl) z2
        · rw [bz0, cl (by omega), u1, sg_d _ u2] at z
          have z := Decidable.not_not.mp z
          rw [hn]
          refine hF (fun y => ?_)
          rw [← hn] at y
          omega
    | succ r ih =>
      intro k hk hn hkl hal
      unfold ncr at hn
      refine ok_X9_read_99 hE ?_
      unfold vc_X9_read_99
      rw [t1]
      refine ⟨fun q => ?_, fun q => ⟨?_, ?_⟩⟩
      · have q := (nI_leI (by omega) (by omega)).mp q
        rw [if_neg (fun z => by omega)] at hn
        exact tail k hn hal
      · rw [nI_leI (by omega) (by omega)] at q
        exact inI (by omega) (by decide)
      · rw [nI_leI (by omega) (by omega)] at q
        obtain ⟨u1, u2⟩ := t3 (a + k) (by omega)
        refine sp_mDig hE ?_
        rw [t1]
        refine ⟨fun z => ?_, fun z => ⟨fun z2 => ⟨inI (by omega) (by decide), ?_⟩, fun z2 => ?_⟩⟩
        · rw [bz0, cl (by omega), u1, sg_d _ u2] at z
          rw [if_neg (fun y => z y.2)] at hn
          exact tail k hn hal
        · rw [bz0, cl (by omega), u1, sg_d _ u2] at z
          have z := Decidable.not_not.mp z
          rw [if_pos ⟨by omega, z⟩] at hn
          have hle := (ncr_le tl tb a r (k + 1)).1
          rw [cl (by omega), u1, sg_lo (by omega), li 10, pk_mul, nI_add, li 48, pk_sub (by omega), nI_1, nI_1]
          have e : nv tb a (k + 1) = 10 * nv tb a k + tb (a + k) - 48 := by
            show 10 * nv tb a k + (tb (a + k) - 48) = _
            omega
          rw [← e]
          exact ih (k + 1) (by omega) hn (by omega) (by omega)
        · rw [li 5, nI_eq (by omega) (by decide)] at z2
          omega
  exact loop 5 0 rfl rfl (Nat.zero_le _) ha
def mrS : List Nat := [1034, 1035, 1036]
theorem sp_mread {K : Int32 → Vt → Prop} {R : Option Nat × Nat × (Nat → Nat)} {t : Nat} (hE : Sg E) (hT : TM V tl tb) (h32 : V 1032 0 0 = nI t) (ht : t < 51) (h33 : V 1033 0 t = nI o) (ho : o ≤ 5000) (hR : rd tl tb (tl + 1) 0 0 (fun _ => 0) 0 (fun _ => 0) = R)
    (hF : ∀ x V', R.1 = some x → x ≤ tl → Of mrS V V' → (∀ j, j < o → V' 1034 0 j = V 1034 0 j) → K (nI x) V') (hS : ∀ V', R.1 = none → Of mrS V V' → (∀ j, j < o → V' 1034 0 j = V 1034 0 j) → V' 1035 0 0 = nI (o + R.2.1) → R.2.1 ≤ 100 → (∀ j, j < R.2.1 → V' 1034 0 (o + j) = mI (R.2.2 j)) → K (-1) V') : C_X9_read l G E V K := by
  obtain ⟨t1, t2, t3⟩ := And.intro True.intro hT |>.2
  have loop : ∀ (r a op : Nat) (st : Nat → Nat) (c : Nat) (f : Nat → Nat) (V1 : Vt), tl + 1 ≤ a + r → a ≤ tl → c ≤ a → op ≤ 20 → rd tl tb r a op st c f = R → Of mrS V V1 → (∀ j, j < o → V1 1034 0 j = V 1034 0 j) → V1 1035 0 0 = nI (o + c) → (∀ k, k < op → V1 1036 0 k = nI (st k) ∧ 1 ≤ st k ∧ st k ≤ 2) → (∀ j, j < c → V1 1034 0 (o + j) = mI (f j)) → A_X9_read_17 l G E V1 (nI op) (nI a) K := by
    intro r
    induction r with
    | zero =>
      intro a op st c f V1 hr ha
      omega
    | succ r ih =>
      intro a op st c f V1 hr ha hca hop hRr hO hlo e1 e3 e4
      have hT1 := hT.of hO (by decide) (by decide)
      have t1' : V1 1031 0 0 = nI tl := hT1.1
      unfold rd at hRr
      refine ok_X9_read_17 hE ?_
      unfold vc_X9_read_17
      rw [t1']
      by_cases q : a < tl
      · rw [if_pos q] at hRr
        obtain ⟨u1, u2⟩ := hT1.2.2 a q
        have ii : vp_in (nI a) 100 := inI (by omega) (by decide)
        refine br_f (nI_ge (by omega) (by omega)) ⟨ii, ?_⟩
        rw [cl (by omega), u1]
        have hsg := sg_k (tb a) u2
        -- an item that is a leaf, laid
        have leaf : ∀ y x v, lf tl tb a = (some y, x) → ¬ tb a ∈ kS → v = mI y.2 → C_X9_lay0 l G E V1 v (fun V29 => ((nI op ≤ (0 : Int32) → A_X9_read_242 l G E V29 (nI op) (nI y.1) (0 : Int32) K) ∧ (¬ nI op ≤ (0 : Int32) → A_X9_read_242 l G E V29 (nI op) (nI y.1) (1 : Int32) K))) := by
          intro y x v hx z hv
          obtain ⟨z1, z2, z3, z4⟩ := lf_ok q hx
          rw [if_neg z, hx] at hRr
          replace hRr : (if csn st op = 0 then (if y.1 = tl then ((none : Option Nat), c + 1, updN f c y.2) else (some y.1, c + 1, updN f c y.2)) else rd tl tb r y.1 (csn st op) (csd st (csn st op)) (c + 1) (updN f c y.2)) = R := hRr
          refine sp_lay0 hE e1 (by omega) ?_
          have hOk : Of mrS V (lyV V1 (o + c) v) := (hO.up (by decide)).up (by decide)
          refine sp_mclose (st := st) hE op _ hop (fun k hk => by unfold lyV; rw [up3_f (by decide), up3_f (by decide)]; exact e3 k hk) (fun V2 hO2 w2 => ?_)
          have hO3 : Of mrS V V2 := hOk.tr (hO2.mono (by decide))
          have v1 : V2 1035 0 0 = nI (o + (c + 1)) := by
            rw [hO2 1035 (by decide)]
            exact up3_s _ _ _ _ _
          have v2 : ∀ j, j < c + 1 → V2 1034 0 (o + j) = mI (updN f c y.2 j) := fun j hj => by
            rw [hO2 1034 (by decide)]
            unfold lyV
            rw [up3_f (by decide)]
            by_cases e : j = c
            · subst e
              rw [up3_s, updN_s, hv]
            · rw [up3_j (by omega), updN_n e]
              exact e4 j (by omega)
          have v3 : ∀ j, j < o → V2 1034 0 j = V 1034 0 j := fun j hj => by
            rw [hO2 1034 (by decide)]
            unfold lyV
            rw [up3_f (by decide), up3_j (by omega)]
            exact hlo j hj
          refine ok_X9_read_242 hE ?_
          unfold vc_X9_read_242
          have hle := csn_le st op
          refine br_t rfl ?_
          rw [hO3 1031 (by decide), t1, nI_eq (by omega) (by omega), nI_eq0 (by omega)]
          refine ⟨fun q4 => ?_, fun q4 => ?_⟩
          · rw [if_neg q4] at hRr
            refine ih y.1 (csn st op) (csd st (csn st op)) (c + 1) (updN f c y.2) V2 (by omega) z2 (by omega) (by omega) hRr hO3 v3 v1 (fun k hk => ⟨w2 k hk, ?_⟩) v2
            unfold csd
            split
            · rename_i hk2
              have := csn_top st op k hk2.symm
              have := (e3 k (by omega)).2
              omega
            · exact (e3 k (by omega)).2
          · rw [if_pos q4] at hRr
            refine ⟨fun q5 => ?_, fun q5 => ?_⟩
            · rw [if_neg q5] at hRr
              exact hF y.1 V2 (by rw [← hRr]) z2 hO3 v3
            · rw [if_pos q5] at hRr
              exact hS V2 (by rw [← hRr]) hO3 v3 (by rw [← hRr]; exact v1) (by rw [← hRr]; show c + 1 ≤ 100; omega) (by rw [← hRr]; exact v2)
        -- a sign
        have sign : tb a ∈ kS → ((¬ nI op = (20 : Int32) → ((¬ sgb (tb a) = (33 : Int32) → (vp_in (nI op) 21) ∧ (C_X9_lay0 l G E (up3 V1 1036 0 (nI op).toNatClampNeg (2 : Int32)) (sgb (tb a)) (fun V23 => A_X9_read_17 l G E V23 (nI op + (1 : Int32)) (nI a + (1 : Int32)) K))) ∧ (sgb (tb a) = (33 : Int32) → (vp_in (nI op) 21) ∧ (C_X9_lay0 l G E (up3 V1 1036 0 (nI op).toNatClampNeg (1 : Int32)) (sgb (tb a)) (fun V24 => A_X9_read_17 l G E V24 (nI op + (1 : Int32)) (nI a + (1 : Int32)) K))))) ∧ (nI op = (20 : Int32) → K (nI a) V1)) := by
          intro z
          rw [if_pos z] at hRr
          rw [li 20, nI_eq (by omega) (by decide), cl (by omega), li 33, hsg 33 (by decide), nI_1, nI_1]
          refine ⟨fun y => ?_, fun y => ?_⟩
          · rw [if_neg y] at hRr
            have io : vp_in (nI op) 21 := inI (by omega) (by decide)
            have go : ∀ w, w = (if tb a = 33 then 1 else 2) → C_X9_lay0 l G E (up3 V1 1036 0 op (nI w)) (sgb (tb a)) (fun V21 => A_X9_read_17 l G E V21 (nI (op + 1)) (nI (a + 1)) K) := by
              intro w hw
              refine sp_lay0 (o := o + c) hE (by rw [up3_f (by decide)]; exact e1) (by omega) ?_
              refine ih (a + 1) (op + 1) (updN st op w) (c + 1) (updN f c (tb a)) _ (by omega) (by omega) (by omega) (by omega) (by rw [hw]; exact hRr) (((hO.up (by decide)).up (by decide)).up (by decide)) (fun j hj => ?_) (up3_s _ _ _ _ _) (fun k hk => ?_) (fun j hj => ?_)
              · unfold lyV
                rw [up3_f (by decide), up3_j (by omega), up3_f (by decide)]
                exact hlo j hj
              · unfold lyV
                rw [up3_f (by decide), up3_f (by decide)]
                by_cases e : k = op
                · subst e
                  rw [up3_s, updN_s, hw]
                  refine ⟨rfl, ?_⟩
                  split <;> omega
                · rw [up3_j e, updN_n e]
                  exact e3 k (by omega)
              · unfold lyV
                rw [up3_f (by decide)]
                by_cases e : j = c
                · subst e
                  rw [up3_s, updN_s, sg_lo (kS_lo _ z), mI_b u2]
                · rw [up3_j (by omega), updN_n e, up3_f (by decide)]
                  exact e4 j (by omega)
            exact ⟨fun y2 => ⟨io, go 2 (by rw [if_neg y2])⟩, fun y2 => ⟨io, go 1 (by rw [if_pos y2])⟩⟩
          · rw [if_pos y] at hRr
            exact hF a V1 (by rw [← hRr]) ha hO hlo
        refine sp_mSign (b := tb a) hE hsg ⟨fun z => ?_, fun z => ⟨fun z2 => ?_, fun z2 => ?_⟩⟩
        · rw [bz0] at z
          exact sign (Decidable.not_not.mp z).1
        · rw [li 33, hsg 33 (by decide)] at z2
          rw [bz0] at z
          have nS : ¬ tb a ∈ kS := fun y => z ⟨y, z2⟩
          refine ⟨fun z3 => ?_, fun z3 => ?_⟩
          · rw [li 35, hsg 35 (by decide)] at z3
            refine sp_mDig hE ⟨fun z4 => ?_, fun z4 => ?_⟩
            · rw [bz0, sg_d _ u2] at z4
              refine sp_mName (b := tb a) hE hsg ⟨fun z5 => ?_, fun z5 => ?_⟩
              · rw [bz0] at z5
                have e : lf tl tb a = (none, a) := by
                  unfold lf
                  rw [if_neg z3, if_neg z4, if_neg z5]
                rw [if_neg nS, e] at hRr
                exact hF a V1 (by rw [← hRr]) ha hO hlo
              · rw [bz0] at z5
                have z5 := Decidable.not_not.mp z5
                have e : lf tl tb a = (some (a + 1, tb a), 0) := by
                  unfold lf
                  rw [if_neg z3, if_neg z4, if_pos z5]
                rw [nI_1]
                exact leaf _ _ _ e nS (by rw [sg_lo (kN_lo _ z5)]; exact (mI_b u2).symm)
            · rw [bz0, sg_d _ u2] at z4
              have z4 := Decidable.not_not.mp z4
              have e : lf tl tb a = (some (a + 1, 256 + (tb a - 48)), 0) := by
                unfold lf
                rw [if_neg z3, if_pos z4]
              rw [nI_1]
              refine leaf _ _ _ e nS ?_
              show _ = mI (256 + (tb a - 48))
              rw [sg_lo (by omega), mI_n, li 48, pk_sub (by omega)]
          · rw [li 35, hsg 35 (by decide)] at z3
            rw [nI_1]
            refine sp_mnum hE hT1 (by omega) (fun y => ?_) (fun y => ?_)
            · have e : lf tl tb a = (none, a + 1 + nc tl tb (a + 1)) := by
                unfold lf
                rw [if_pos z3, if_neg y]
              rw [if_neg nS, e] at hRr
              exact hF _ V1 (by rw [← hRr]) ((nc_le tl tb (a + 1)).2 (by omega)) hO hlo
            · have e : lf tl tb a = (some (a + 1 + nc tl tb (a + 1) + 1, 256 + nv tb (a + 1) (nc tl tb (a + 1))), 0) := by
                unfold lf
                rw [if_pos z3, if_pos y]
              rw [nI_1]
              exact leaf _ _ _ e nS (mI_n _).symm
        · rw [li 33, hsg 33 (by decide)] at z2
          refine sign ?_
          rw [z2]
          decide
      · rw [if_neg q] at hRr
        have ha : a = tl := by omega
        subst ha
        exact br_t (nI_le (Nat.le_refl _) (by omega)) (hF a V1 (by rw [← hRr]) (Nat.le_refl _) hO hlo)
  refine ok_X9_read hE ?_
  unfold vc_X9_read
  rw [h32, cl (by omega), h33]
  refine ⟨inI ht (by decide), ?_⟩
  exact loop (tl + 1) 0 0 _ 0 _ _ (by omega) (Nat.zero_le _) (Nat.le_refl _) (Nat.zero_le _) hR ((Of.rf _ V).up (by decide)) (fun j hj => by rw [up3_f (by decide)]) (up3_s _ _ _ _ _) (fun k hk => by omega) (fun k hk => by omega)
end MRead

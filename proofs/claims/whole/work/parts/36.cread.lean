/-! the class's reader -/
theorem i_sss (a b : Int32) : a - (a - b) = b := by
  rw [Int32.sub_eq_add_neg, Int32.neg_sub, Int32.add_comm, Int32.sub_add_cancel]
theorem ch_b : ∀ b, b < 256 → ((nI b).toUInt32 % 65536).toInt32 = nI b := by decide +kernel
theorem ix_S : ∀ b, b < 256 → (ixS 1 (nI b) < 0 ↔ ¬ b ∈ kS) := by decide +kernel
theorem ix_N : ∀ b, b < 256 → (ixS 0 (nI b) < 0 ↔ ¬ b ∈ kN) := by decide +kernel
theorem cI_b {b : Nat} (h : b < 256) : cI b = -nI b := if_pos h
theorem cI_n (v : Nat) : cI (256 + v) = nI v := by
  unfold cI
  rw [if_neg (by omega), Nat.add_sub_cancel_left]
def TC (V : Vt) (tl : Nat) (tb : Nat → Nat) : Prop := V 703 0 0 = nI tl ∧ tl ≤ 100 ∧ ∀ j, j < tl → V 700 0 j = nI (tb j) ∧ tb j < 256
theorem TC.of {V V' : Vt} {tl : Nat} {tb : Nat → Nat} {S : List Nat} (h : TC V tl tb) (hO : Of S V V') (h1 : 700 ∉ S) (h2 : 703 ∉ S) : TC V' tl tb := by
  unfold TC
  rw [hO 703 h2, hO 700 h1]
  exact h
def kpV (V : Vt) (c : Nat) (x : Int32) : Vt := up3 (up3 V 701 0 c x) 704 0 0 (nI (c + 1))
section CRead
variable {l : Launch} {G : Gt} {E : Et} {V : Vt} {tl c op : Nat} {tb st f : Nat → Nat}
theorem sp_keepI {x : Int32} {K : Vt → Prop} (hE : Sg E) (h1 : V 704 0 0 = nI c) (hc : c < 100) (h : K (kpV V c x)) : C_X6_keep l G E V x K := by
  refine ok_X6_keep hE ?_
  unfold vc_X6_keep
  rw [h1, up3_f (f' := 704) (by decide), h1, cl (by omega), nI_1]
  exact br_f (nI_ge (a := c) (b := 100) (by omega) (by decide)) ⟨inI hc (by decide), h⟩
theorem sp_isDig {x : Int32} {K : Int32 → Vt → Prop} (hE : Sg E) (h : K (bz ((48 : Int32) ≤ x ∧ x ≤ 57)) V) : C_X6_isDigit l G E V x K := by
  refine ok_X6_isDigit hE ?_
  unfold vc_X6_isDigit
  refine ⟨fun q => ?_, fun q => ⟨fun q2 => ?_, fun q2 => ?_⟩⟩
  · rw [bz_f (fun z => lt_nle q z.1)] at h
    exact h
  · rw [bz_f (fun z => lt_nle q2 z.2)] at h
    exact h
  · rw [bz_t ⟨nlt_le q, nlt_le q2⟩] at h
    exact h
theorem dig_iff {b : Nat} (hb : b < 256) : ((48 : Int32) ≤ nI b ∧ nI b ≤ 57) ↔ 48 ≤ b ∧ b ≤ 57 := by
  rw [li 48, li 57, nI_leI (by decide) (by omega), nI_leI (by omega) (by decide)]
theorem sp_num {a : Nat} {K : Int32 → Vt → Prop} (hE : Sg E) (hT : TC V tl tb) (ha : a ≤ tl) (h1 : V 704 0 0 = nI c) (hc : c < 100)
    (hF : ¬ (a + nc tl tb a < tl ∧ 2 ≤ nc tl tb a ∧ tb (a + nc tl tb a) = 32) → K (-1 - nI (a + nc tl tb a)) V) (hS : (a + nc tl tb a < tl ∧ 2 ≤ nc tl tb a ∧ tb (a + nc tl tb a) = 32) → K (nI (a + nc tl tb a + 1)) (kpV V c (nI (nv tb a (nc tl tb a))))) : C_X6_readNumber l G E V (nI a) K := by
  obtain ⟨t1, t2, t3⟩ := And.intro True.intro hT |>.2
  have loop : ∀ (r k : Nat), k + r = 5 → ncr tl tb a k r = nc tl tb a → k ≤ nc tl tb a → a + k ≤ tl → A_X6_readNumber_4 l G E V (nI a) (nI (nv tb a k)) (nI (a + k)) K := by
    intro r
    have tail : ∀ k, k = nc tl tb a → a + k ≤ tl → ((nI tl ≤ nI (a + k) → K ((-1 : Int32) - nI (a + k)) V) ∧ (¬ nI tl ≤ nI (a + k) → ((nI (a + k) < (nI a + (2 : Int32)) → K ((-1 : Int32) - nI (a + k)) V) ∧ (¬ nI (a + k) < (nI a + (2 : Int32)) → (vp_in (nI (a + k)) 100) ∧ (((V 700 0 (nI (a + k)).toNatClampNeg) = (32 : Int32) → (C_X6_keep l G E V (nI (nv tb a k)) (fun V21 => K (nI (a + k) + (1 : Int32)) V21))) ∧ (¬ (V 700 0 (nI (a + k)).toNatClampNeg) = (32 : Int32) → K ((-1 : Int32) - nI (a + k)) V)))))) := by
      intro k hk hkl
      rw [← hk] at hF hS
      have hk5 := (nc_le tl tb a).1
      refine ⟨fun q => hF (fun z => ?_), fun q => ⟨fun q2 => hF (fun z => ?_), fun q2 => ?_⟩⟩
      · have := (nI_leI (by omega) (by omega)).mp q
        omega
      · rw [li 2, nI_add, nI_ltI (by omega) (by omega)] at q2
        omega
      · rw [li 2, nI_add, nI_ltI (by omega) (by omega)] at q2
        rw [nI_leI (by omega) (by omega)] at q
        refine ⟨inI (by omega) (by decide), ?_⟩
        obtain ⟨u1, u2⟩ := t3 (a + k) (by omega)
        rw [cl (by omega), u1, li 32, nI_eq (by omega) (by decide)]
        refine ⟨fun z => sp_keepI hE h1 hc ?_, fun z => hF (fun y => z y.2.2)⟩
        rw [nI_1]
        exact hS ⟨by omega, by omega, z⟩
    induction r with
    | zero =>
      intro k hk hn hkl hal
      unfold ncr at hn
      refine ok_X6_readNumber_4 hE ?_
      unfold vc_X6_readNumber_4
      rw [t1]
      refine ⟨fun _ => tail k hn hal, fun q => ⟨fun _ => tail k hn hal, fun q2 => absurd ?_ q2⟩⟩
      rw [li 5, nI_add]
      exact nI_le (by omega) (by omega)
    | succ r ih =>
      intro k hk hn hkl hal
      unfold ncr at hn
      refine ok_X6_readNumber_4 hE ?_
      unfold vc_X6_readNumber_4
      rw [t1]
      refine ⟨fun q => ?_, fun q => ⟨fun q2 => absurd q2 ?_, fun q2 => ⟨?_, ?_⟩⟩⟩
      · have q := (nI_leI (by omega) (by omega)).mp q
        rw [if_neg (fun z => by omega)] at hn
        exact tail k hn hal
      · rw [li 5, nI_add]
        exact nI_ge (by omega) (by omega)
      · rw [nI_leI (by omega) (by omega)] at q
        exact inI (by omega) (by decide)
      · rw [nI_leI (by omega) (by omega)] at q
        obtain ⟨u1, u2⟩ := t3 (a + k) (by omega)
        refine sp_isDig hE ?_
        rw [t1]
        refine ⟨fun z => ?_, fun z => ⟨inI (by omega) (by decide), ?_⟩⟩
        · rw [bz0, cl (by omega), u1, dig_iff u2] at z
          rw [if_neg (fun y => z y.2)] at hn
          exact tail k hn hal
        · rw [bz0, cl (by omega), u1, dig_iff u2] at z
          have z := Decidable.not_not.mp z
          rw [if_pos ⟨by omega, z⟩] at hn
          have hle := (ncr_le tl tb a r (k + 1)).1
          rw [cl (by omega), u1, li 10, pk_mul, nI_add, li 48, pk_sub (by omega), nI_1]
          have e : nv tb a (k + 1) = 10 * nv tb a k + tb (a + k) - 48 := by
            show 10 * nv tb a k + (tb (a + k) - 48) = _
            omega
          rw [← e]
          exact ih (k + 1) (by omega) hn (by omega) (by omega)
  refine ok_X6_readNumber hE ?_
  unfold vc_X6_readNumber
  exact loop 5 0 rfl rfl (Nat.zero_le _) ha
theorem sp_leaf {a : Nat} {K : Int32 → Vt → Prop} (hE : Sg E) (hT : TC V tl tb) (ha : a < tl) (h1 : V 704 0 0 = nI c) (hc : c < 100)
    (hF : ∀ x, lf tl tb a = (none, x) → K (-1 - nI x) V) (hS : ∀ q x, lf tl tb a = (some q, x) → K (nI q.1) (kpV V c (cI q.2))) : C_X6_readLeaf l G E V (nI a) K := by
  obtain ⟨t1, t2, t3⟩ := And.intro True.intro hT |>.2
  obtain ⟨u1, u2⟩ := t3 a ha
  refine ok_X6_readLeaf hE ?_
  unfold vc_X6_readLeaf
  unfold lf at hF hS
  refine ⟨inI (by omega) (by decide), ?_⟩
  rw [cl (by omega), u1, li 35, nI_eq (by omega) (by decide), nI_1]
  refine ⟨fun q => ?_, fun q => ?_⟩
  · rw [if_neg q] at hF hS
    refine sp_isDig hE ⟨fun z => ?_, fun z => ?_⟩
    · rw [bz0, dig_iff u2] at z
      rw [if_neg z] at hF hS
      rw [ch_b _ u2]
      refine sp_ix (by decide) ⟨fun y => ?_, fun y => ?_⟩
      · rw [ix_N _ u2] at y
        rw [if_neg y] at hF
        exact hF _ rfl
      · rw [ix_N _ u2] at y
        have y := Decidable.not_not.mp y
        rw [if_pos y] at hS
        refine sp_keepI hE h1 hc ?_
        have := hS _ _ rfl
        rw [cI_b u2] at this
        exact this
    · rw [bz0, dig_iff u2] at z
      have z := Decidable.not_not.mp z
      rw [if_pos z] at hS
      refine sp_keepI hE h1 hc ?_
      have := hS _ _ rfl
      rw [cI_n] at this
      rw [li 48, pk_sub (by omega)]
      exact this
  · rw [if_pos q] at hF hS
    refine sp_num hE hT (by omega) h1 hc (fun z => ?_) (fun z => ?_)
    · rw [if_neg z] at hF
      exact hF _ rfl
    · rw [if_pos z] at hS
      have := hS _ _ rfl
      rw [cI_n] at this
      exact this
theorem sp_close {K : Int32 → Vt → Prop} (hE : Sg E) : ∀ (op : Nat) (V : Vt), V 705 0 0 = nI op → op ≤ 20 → (∀ k, k < op → V 702 0 k = nI (st k) ∧ 1 ≤ st k ∧ st k ≤ 2) → (∀ V', Of [702, 705] V V' → V' 705 0 0 = nI (csn st op) → (∀ k, k < csn st op → V' 702 0 k = nI (csd st (csn st op) k)) → K (bz (csn st op = 0)) V') → A_X6_closeSigns_0 l G E V K := by
  intro op
  induction op with
  | zero =>
    intro V h1 hop hst h
    refine ok_X6_closeSigns_0 hE ?_
    unfold vc_X6_closeSigns_0
    rw [h1]
    refine br_t (by decide) ?_
    have := h V (Of.rf _ _) h1 (fun k hk => by unfold csn at hk; omega)
    rw [bz_t (show csn st 0 = 0 from rfl)] at this
    exact this
  | succ op ih =>
    intro V h1 hop hst h
    obtain ⟨u1, u2, u3⟩ := hst op (by omega)
    refine ok_X6_closeSigns_0 hE ?_
    unfold vc_X6_closeSigns_0
    rw [h1, nI_pred, cl (by omega), up3_f (f' := 705) (by decide), h1, nI_pred, cl (by omega), up3_s, u1, nI_sub1 (by omega)]
    have ii : vp_in (nI op) 20 := inI (by omega) (by decide)
    unfold csn at h
    refine br_f (nI_nle (by omega) (by omega)) ⟨ii, ii, ii, fun z => ?_, fun z => ?_⟩
    · have z := (nI_leI (b := 0) (by omega) (by decide)).mp z
      rw [if_pos (by omega)] at h
      refine ih _ (up3_s _ _ _ _ _) (by omega) (fun k hk => ?_) (fun V' hO e1 e2 => ?_)
      · rw [up3_f (by decide), up3_j (by omega)]
        exact hst k (by omega)
      · exact h V' ((((Of.rf _ V).up (by decide)).up (by decide)).tr hO) e1 e2
    · have z : ¬ st op - 1 ≤ 0 := fun y => z (nI_le (b := 0) y (by decide))
      rw [if_neg (by omega), bz_f (by omega)] at h
      refine h _ ((Of.rf _ V).up (by decide)) (by rw [up3_f (by decide)]; exact h1) (fun k hk => ?_)
      unfold csd
      by_cases e : k = op
      · subst e
        rw [up3_s, if_pos rfl]
      · rw [up3_j e, if_neg (by omega)]
        exact (hst k (by omega)).1
def crS : List Nat := [701, 702, 704, 705]
theorem sp_read {K : Int32 → Vt → Prop} {R : Option Nat × Nat × (Nat → Nat)} (hE : Sg E) (hT : TC V tl tb) (hR : rd tl tb (tl + 1) 0 0 (fun _ => 0) 0 (fun _ => 0) = R)
    (hF : ∀ x V', R.1 = some x → Of crS V V' → K (nI x) V') (hS : ∀ V', R.1 = none → Of crS V V' → V' 704 0 0 = nI R.2.1 → R.2.1 ≤ 100 → (∀ j, j < R.2.1 → V' 701 0 j = cI (R.2.2 j)) → K (-1) V') : C_X6_read l G E V K := by
  obtain ⟨t1, t2, t3⟩ := And.intro True.intro hT |>.2
  have loop : ∀ (r a op : Nat) (st : Nat → Nat) (c : Nat) (f : Nat → Nat) (s : Nat) (V1 : Vt), tl + 1 ≤ a + r → a ≤ tl → c ≤ a → s ≤ a → op ≤ 20 → rd tl tb r a op st c f = R → Of crS V V1 → V1 704 0 0 = nI c → V1 705 0 0 = nI op → (∀ k, k < op → V1 702 0 k = nI (st k) ∧ 1 ≤ st k ∧ st k ≤ 2) → (∀ j, j < c → V1 701 0 j = cI (f j)) → A_X6_read_16 l G E V1 0 (nI a) (nI s) K := by
    intro r
    induction r with
    | zero =>
      intro a op st c f s V1 hr ha
      omega
    | succ r ih =>
      intro a op st c f s V1 hr ha hca hsa hop hRr hO e1 e2 e3 e4
      have hT1 := hT.of hO (by decide) (by decide)
      have t1' : V1 703 0 0 = nI tl := hT1.1
      unfold rd at hRr
      refine ok_X6_read_16 hE ?_
      unfold vc_X6_read_16
      rw [t1']
      by_cases q : a < tl
      · rw [if_pos q] at hRr
        obtain ⟨u1, u2⟩ := hT1.2.2 a q
        have ii : vp_in (nI a) 100 := inI (by omega) (by decide)
        refine br_f (nI_ge (a := s) (b := 100) (by omega) (by decide)) (br_f (nI_ge (by omega) (by omega)) (br_t rfl ⟨ii, ?_⟩))
        rw [cl (by omega), u1, ch_b _ u2]
        refine sp_ix (by decide) ⟨fun z => ?_, fun z => ?_⟩
        · rw [ix_S _ u2] at z
          rw [if_neg z] at hRr
          refine sp_leaf hE hT1 q e1 (by omega) (fun x hx => ?_) (fun y x hx => ?_)
          · rw [hx] at hRr
            replace hRr : ((some x : Option Nat), c, f) = R := hRr
            have hx2 : x ≤ tl := by
              unfold lf at hx
              have hn := (nc_le tl tb (a + 1)).2 (by omega)
              split at hx
              · split at hx
                · cases hx
                · cases hx
                  exact hn
              · split at hx
                · cases hx
                · split at hx
                  · cases hx
                  · cases hx
                    omega
            refine br_f ?_ ?_
            · rw [i_le, Int32.toInt_sub]
              rw [show ((-1 : Int32).toInt - (nI x).toInt) = -1 - (x : Int) by rw [nI_toInt (by omega)]; rfl]
              have e0 : (0 : Int32).toInt = 0 := by decide
              rw [e0, Int.bmod_eq_of_le (by omega) (by omega)]
              omega
            · rw [i_sss]
              exact hF x V1 (by rw [← hRr]) hO
          · obtain ⟨z1, z2, z3, z4⟩ := lf_ok q hx
            rw [hx] at hRr
            replace hRr : (if csn st op = 0 then (if y.1 = tl then ((none : Option Nat), c + 1, updN f c y.2) else (some y.1, c + 1, updN f c y.2)) else rd tl tb r y.1 (csn st op) (csd st (csn st op)) (c + 1) (updN f c y.2)) = R := hRr
            have hOk : Of crS V (kpV V1 c (cI y.2)) := (hO.up (by decide)).up (by decide)
            refine br_t (nI_pos' (by omega)) ?_
            refine ok_X6_closeSigns hE ?_
            unfold vc_X6_closeSigns
            rw [nI_1]
            refine sp_close (st := st) hE op _ (by unfold kpV; rw [up3_f (by decide), up3_f (by decide)]; exact e2) hop (fun k hk => by unfold kpV; rw [up3_f (by decide), up3_f (by decide)]; exact e3 k hk) (fun V2 hO2 w1 w2 => ?_)
            have hO3 : Of crS V V2 := hOk.tr (hO2.mono (by decide))
            have v1 : V2 704 0 0 = nI (c + 1) := by
              rw [hO2 704 (by decide)]
              exact up3_s _ _ _ _ _
            have v2 : ∀ j, j < c + 1 → V2 701 0 j = cI (updN f c y.2 j) := fun j hj => by
              rw [hO2 701 (by decide)]
              unfold kpV
              rw [up3_f (by decide)]
              by_cases e : j = c
              · subst e
                rw [up3_s, updN_s]
              · rw [up3_j e, updN_n e]
                exact e4 j (by omega)
            by_cases q4 : csn st op = 0
            · rw [if_pos q4] at hRr
              rw [bz_t q4]
              refine ok_X6_read_16 hE ?_
              unfold vc_X6_read_16
              rw [hO3 703 (by decide), t1]
              by_cases q5 : y.1 = tl
              · rw [if_pos q5] at hRr
                rw [q5]
                have fin : K (-1) V2 := hS V2 (by rw [← hRr]) hO3 (by rw [← hRr]; exact v1) (by rw [← hRr]; show c + 1 ≤ 100; omega) (by rw [← hRr]; exact v2)
                refine ⟨fun _ => br_f (by decide) fin, fun _ => br_t (nI_le (Nat.le_refl _) (by omega)) (br_f (by decide) fin)⟩
              · rw [if_neg q5] at hRr
                refine br_f (nI_ge (a := s + 1) (b := 100) (by omega) (by decide)) (br_f (nI_ge (by omega) (by omega)) (br_f (by decide) ?_))
                exact hF y.1 V2 (by rw [← hRr]) hO3
            · rw [if_neg q4] at hRr
              rw [bz_f q4]
              refine ih y.1 (csn st op) (csd st (csn st op)) (c + 1) (updN f c y.2) (s + 1) V2 (by omega) z2 (by omega) (by omega) (Nat.le_trans (csn_le st op) hop) hRr hO3 v1 w1 (fun k hk => ⟨w2 k hk, ?_⟩) v2
              have hle := csn_le st op
              unfold csd
              split
              · rename_i hk2
                have := csn_top st op k hk2.symm
                have := (e3 k (by omega)).2
                omega
              · exact (e3 k (by omega)).2
        · rw [ix_S _ u2] at z
          have z := Decidable.not_not.mp z
          rw [if_pos z] at hRr
          rw [e2, li 20, nI_ltI (by omega) (by decide)]
          refine ⟨fun y => ⟨ii, ?_⟩, fun y => ?_⟩
          · rw [if_neg (by omega)] at hRr
            refine ok_X6_openSign hE ?_
            unfold vc_X6_openSign
            have io : vp_in (nI op) 20 := inI y (by decide)
            rw [u1, e2, up3_f (f' := 705) (by decide), up3_f (f' := 705) (by decide), e2, cl (by omega), nI_1, nI_1, nI_1, ← cI_b u2, li 33, nI_eq (by omega) (by decide)]
            have go : ∀ w, w = (if tb a = 33 then 1 else 2) → C_X6_keep l G E (up3 (up3 V1 702 0 op (nI w)) 705 0 0 (nI (op + 1))) (cI (tb a)) (fun V21 => A_X6_read_16 l G E V21 0 (nI (a + 1)) (nI (s + 1)) K) := by
              intro w hw
              refine sp_keepI (c := c) hE (by rw [up3_f (by decide), up3_f (by decide)]; exact e1) (by omega) ?_
              refine ih (a + 1) (op + 1) (updN st op w) (c + 1) (updN f c (tb a)) (s + 1) _ (by omega) (by omega) (by omega) (by omega) (by omega) (by rw [hw]; exact hRr) ((((hO.up (by decide)).up (by decide)).up (by decide)).up (by decide)) (up3_s _ _ _ _ _) ?_ (fun k hk => ?_) (fun j hj => ?_)
              · unfold kpV
                rw [up3_f (by decide), up3_f (by decide), up3_s]
              · unfold kpV
                rw [up3_f (by decide), up3_f (by decide), up3_f (by decide)]
                by_cases e : k = op
                · subst e
                  rw [up3_s, updN_s, hw]
                  refine ⟨rfl, ?_⟩
                  split <;> omega
                · rw [up3_j e, updN_n e]
                  exact e3 k (by omega)
              · unfold kpV
                rw [up3_f (by decide)]
                by_cases e : j = c
                · subst e
                  rw [up3_s, updN_s]
                · rw [up3_j e, updN_n e, up3_f (by decide), up3_f (by decide)]
                  exact e4 j (by omega)
            refine ⟨fun y2 => ⟨io, go 2 (by rw [if_neg y2])⟩, fun y2 => ⟨io, go 1 (by rw [if_pos y2])⟩⟩
          · rw [if_pos (by omega)] at hRr
            exact hF a V1 (by rw [← hRr]) hO
      · rw [if_neg q] at hRr
        have ha : a = tl := by omega
        subst ha
        have fin : K (nI a) V1 := hF a V1 (by rw [← hRr]) hO
        exact ⟨fun _ => br_t rfl fin, fun _ => br_t (nI_le (Nat.le_refl _) (by omega)) (br_t rfl fin)⟩
  refine ok_X6_read hE ?_
  unfold vc_X6_read
  exact loop (tl + 1) 0 0 _ 0 _ 0 _ (by omega) (Nat.zero_le _) (Nat.le_refl _) (Nat.le_refl _) (Nat.zero_le _) hR (((Of.rf _ V).up (by decide)).up (by decide)) (by rw [up3_f (by decide), up3_s]; rfl) (up3_s _ _ _ _ _) (fun k hk => by omega) (fun k hk => by omega)
end CRead

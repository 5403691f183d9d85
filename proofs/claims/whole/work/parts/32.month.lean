/-! month -/
def mld (fr : Nat) (yb : Nat → Nat) (m : Nat) : Nat → Nat
  | 0 => 0
  | j + 1 => mld fr yb m j + (if frs fr yb (m + j) then 0 else 1)
theorem mld_s (fr : Nat) (yb : Nat → Nat) (m j : Nat) : mld fr yb m (j + 1) = mld fr yb m j + (if frs fr yb (m + j) then 0 else 1) := rfl
theorem mld_le (fr : Nat) (yb : Nat → Nat) (m : Nat) : ∀ j, mld fr yb m j ≤ j
  | 0 => Nat.le_refl 0
  | j + 1 => by
    have := mld_le fr yb m j
    unfold mld
    split <;> omega
section Month
variable {l : Launch} {G : Gt} {E : Et} {V : Vt} {n m fr : Nat} {D on sn ti : Nat → Nat → Nat} {yb : Nat → Nat}
theorem sp_pass0 {x : Nat} {K : Int32 → Vt → Prop} (hE : Sg E) (hF : FRc V fr yb) (h1 : V 101 0 0 = nI m) (hx : m + x ≤ 1200) (h : K (nI (mld fr yb m x)) (up3 V 101 0 0 (nI (m + x)))) : C_X0_pass l G E V (nI x) K := by
  have loop : ∀ (r j : Nat), j + r = x → A_X0_pass_4 l G E (up3 V 101 0 0 (nI (m + j))) (nI x) (nI (mld fr yb m j)) (nI j) K := by
    intro r
    induction r with
    | zero =>
      intro j hj
      have hj : j = x := by omega
      subst hj
      refine ok_X0_pass_4 hE ?_
      unfold vc_X0_pass_4
      exact br_t (nI_le (Nat.le_refl _) (by omega)) h
    | succ r ih =>
      intro j hj
      refine ok_X0_pass_4 hE ?_
      unfold vc_X0_pass_4
      rw [up3_s]
      have hF' : FRc (up3 V 101 0 0 (nI (m + j))) fr yb := by
        unfold FRc
        rw [up3_row0 (by decide), up3_row0 (by decide)]
        exact hF
      refine br_f (nI_ge (by omega) (by omega)) (sp_hasFrost hE hF' (by omega) ?_)
      have := ih (j + 1) (by omega)
      unfold mld at this
      rw [up3_s, nI_1, nI_1, nI_1, up3_up3]
      refine ⟨fun z => ?_, fun z => ?_⟩
      · rw [bz0] at z
        rw [if_pos (Decidable.not_not.mp z)] at this
        exact this
      · rw [bz0] at z
        rw [if_neg z] at this
        exact this
  refine ok_X0_pass hE ?_
  unfold vc_X0_pass
  have := loop x 0 (by omega)
  rw [Nat.add_zero, up3_id h1] at this
  exact this
theorem sp_ageAll {x : Int32} {K : Vt → Prop} (hE : Sg E) (hP : PC E V n (D 0) on) (hd : ∀ p, p < n → V 310 p 0 = nI (D 4 p) ∧ D 4 p ≤ 30) (h : ∀ V', Of [311] V V' → (∀ p, p < n → V' 311 p 0 = if 0 < D 4 p then V 311 p 0 + x else V 311 p 0) → K V') : C_X3_ageAll l G E V x K := by
  have hn := hP.2.1
  have loop : ∀ (r i : Nat) (V1 : Vt), i + r = n → Of [311] V V1 → (∀ p, p < n → V1 311 p 0 = if p < i ∧ 0 < D 4 p then V 311 p 0 + x else V 311 p 0) → A_X3_ageAll_2 l G E V1 x (nI i) K := by
    intro r
    induction r with
    | zero =>
      intro i V1 hi hO w
      have hi : i = n := by omega
      subst hi
      refine ok_X3_ageAll_2 hE ?_
      unfold vc_X3_ageAll_2
      rw [hO 405 (by decide), hP.1]
      refine br_t (nI_le (Nat.le_refl _) (by omega)) (h V1 hO (fun p hp => ?_))
      rw [w p hp]
      simp [hp]
    | succ r ih =>
      intro i V1 hi hO w
      have hP1 := hP.of hO (by decide) (by decide) (by decide) (by decide)
      refine ok_X3_ageAll_2 hE ?_
      unfold vc_X3_ageAll_2
      rw [hO 405 (by decide), hP.1, nI_1]
      refine br_f (nI_ge (by omega) (by omega)) (sp_findp hE hP1 (by omega) ⟨fun z => (by cases z), fun t ht => ?_⟩)
      cases ht
      have hl := (hP.2.2 i (by omega)).2.1
      refine ⟨hl, sp_begun hE hl ⟨fun z => ?_, fun z => ?_⟩⟩
      · rw [bz0, hO 310 (by decide), (hd i (by omega)).1, nI_pos0 (by have := (hd i (by omega)).2; omega)] at z
        refine ih (i + 1) V1 (by omega) hO (fun p hp => ?_)
        rw [w p hp]
        by_cases e : p = i
        · subst e
          simp [z]
        · by_cases e2 : p < i
          · simp [e2, show p < i + 1 by omega]
          · simp [e2, show ¬ p < i + 1 by omega]
      · rw [bz0, hO 310 (by decide), (hd i (by omega)).1, nI_pos0 (by have := (hd i (by omega)).2; omega)] at z
        have z := Decidable.not_not.mp z
        refine ih (i + 1) _ (by omega) (hO.up (by decide)) (fun p hp => ?_)
        by_cases e : p = i
        · subst e
          rw [up3_s, w p hp]
          simp [z]
        · rw [up3_i e, w p hp]
          by_cases e2 : p < i
          · simp [e2, show p < i + 1 by omega]
          · simp [e2, show ¬ p < i + 1 by omega]
  refine ok_X3_ageAll hE ?_
  unfold vc_X3_ageAll
  exact loop n 0 V (by omega) (Of.rf _ _) (fun p hp => by simp)
/-- one month in the model: its rows -/
theorem mmonth_in {c : Nat} {x1 x2 x3 : Int32} {K : Int32 → Vt → Prop} (hE : Sg E) (hP : PM V n (D 0) on) (hd : ∀ p, p < n → V 1012 0 p = nI (D 4 p) ∧ D 4 p ≤ 30) (hc : V 1018 0 0 = nI c) (hc2 : c ≤ 1200) (h : ∀ V', Of [1013, 1023] V V' → (∀ p, p < n → V' 1013 0 p = V 1013 0 p + (if 0 < D 4 p ∧ x3 = 0 then 1 else 0)) → (∀ p, p < n → V' 1023 0 (1201 * p + c) = nI (D 4 p)) → (∀ k, (∀ p, p < n → k ≠ 1201 * p + c) → V' 1023 0 k = V 1023 0 k) → A_X9_month_26 l G E (up3 (up3 V' 1018 0 0 (nI (c + 1))) 1019 0 0 0) x1 (x2 + 1) K) : A_X9_month_43 l G E V x1 x2 x3 0 K := by
  have hn := hP.2.1
  have loop : ∀ (r i : Nat) (V1 : Vt), i + r = n → Of [1013, 1023] V V1 → (∀ p, p < n → V1 1013 0 p = V 1013 0 p + (if p < i ∧ 0 < D 4 p ∧ x3 = 0 then 1 else 0)) → (∀ p, p < i → V1 1023 0 (1201 * p + c) = nI (D 4 p)) → (∀ k, (∀ p, p < i → k ≠ 1201 * p + c) → V1 1023 0 k = V 1023 0 k) → A_X9_month_43 l G E V1 x1 x2 x3 (nI i) K := by
    intro r
    induction r with
    | zero =>
      intro i V1 hi hO w1 w2 w3
      have hi : i = n := by omega
      subst hi
      refine ok_X9_month_43 hE ?_
      unfold vc_X9_month_43
      rw [hO 1001 (by decide), hP.1, hO 1018 (by decide), hc, nI_1]
      refine br_t (nI_le (Nat.le_refl _) (by omega)) (h V1 hO (fun p hp => ?_) w2 w3)
      rw [w1 p hp]
      simp [hp]
    | succ r ih =>
      intro i V1 hi hO w1 w2 w3
      obtain ⟨d1, d2⟩ := hd i (by omega)
      have ii : vp_in (nI i) 40 := inI (by omega) (by decide)
      refine ok_X9_month_43 hE ?_
      unfold vc_X9_month_43
      rw [hO 1001 (by decide), hP.1, hO 1018 (by decide), hc, li 1201, pk_mul, nI_add, cl (by omega), cl (by omega), nI_1, up3_f (f' := 1012) (by decide), up3_f (f' := 1013) (by decide), hO 1012 (by decide), d1]
      have nxt : ∀ v, v = V 1013 0 i + (if 0 < D 4 i ∧ x3 = 0 then 1 else 0) → A_X9_month_43 l G E (up3 (up3 V1 1023 0 (1201 * i + c) (nI (D 4 i))) 1013 0 i v) x1 x2 x3 (nI (i + 1)) K := by
        intro v hv
        refine ih (i + 1) _ (by omega) ((hO.up (by decide)).up (by decide)) (fun p hp => ?_) (fun p hp => ?_) (fun k hk => ?_)
        · by_cases e : p = i
          · subst e
            rw [up3_s, hv]
            simp
          · rw [up3_j e, up3_f (f' := 1013) (by decide), w1 p hp]
            by_cases e2 : p < i
            · simp [e2, show p < i + 1 by omega]
            · simp [e2, show ¬ p < i + 1 by omega]
        · rw [up3_f (f' := 1023) (by decide)]
          by_cases e : p = i
          · subst e
            rw [up3_s]
          · rw [up3_j (by omega)]
            exact w2 p (by omega)
        · rw [up3_f (f' := 1023) (by decide), up3_j (hk i (by omega))]
          exact w3 k (fun p hp => hk p (by omega))
      have e13 : V1 1013 0 i = V 1013 0 i := by
        rw [w1 i (by omega)]
        simp
      rw [e13, nI_1]
      refine br_f (nI_ge (by omega) (by omega)) ⟨ii, inI (by omega) (by decide), ii, ii, fun z => ⟨ii, nxt _ ?_⟩, fun z => ⟨fun z2 => ⟨ii, nxt _ ?_⟩, fun z2 => ⟨ii, nxt _ ?_⟩⟩⟩
      · rw [show (0 : Int32) = nI 0 from rfl, nI_leI (by omega) (by decide)] at z
        rw [if_neg (by omega)]
      · rw [if_neg (fun y => z2 y.2)]
      · have hy : 0 < D 4 i := by
          rcases Nat.eq_zero_or_pos (D 4 i) with y | y
          · rw [y] at z
            exact absurd (by decide) z
          · exact y
        rw [if_pos ⟨hy, z2⟩]
  exact loop n 0 V (by omega) (Of.rf _ _) (fun p hp => by simp) (fun p hp => by omega) (fun k _ => rfl)
def monthS : List Nat := [101, 311, 911, 1013, 1018, 1019, 1023]
theorem bo_month {x : Int32} {K : Int32 → Int32 → Vt → Prop} (hE : Sg E) (hI : IP E V n D on sn) (hC : IC V m fr yb) (hL : IL V n m D ti) (hK : ∀ r V2 m', IP E V2 n D on sn → IC V2 m' fr yb → IL V2 n m' D ti → Of monthS V V2 → K r r V2) : C_X8_month l G E V x (fun r V1 => C_X9_month l G E V1 x (fun r' V2 => K r r' V2)) := by
  have hn := hI.1.2.1
  obtain ⟨c1, c2, c3, c4, c5, c6, c7, c8, c9, c10⟩ := And.intro True.intro hC |>.2
  have hk0 : ∀ r, K r r V := fun r => hK r V m hI hC hL (Of.rf _ _)
  have hd : ∀ p, p < n → V 310 p 0 = nI (D 4 p) ∧ V 1012 0 p = nI (D 4 p) ∧ D 4 p ≤ 30 := fun p hp => by
    obtain ⟨-, a2, -, -, -, -, -, a8, -⟩ := hI.2.2 p hp
    exact ⟨a8.1, a8.2.1, by omega⟩
  have e12 : (1200 : Int32) - nI m = nI (1200 - m) := by rw [li 1200, pk_sub c3]
  have mbad1 : ¬ ((1 : Int32) ≤ x ∧ x ≤ 100) → C_X9_month l G E V x (fun r' V2 => K (-1) r' V2) := by
    intro hb
    refine ok_X9_month hE ?_
    unfold vc_X9_month
    exact sp_in hE (br_t (bz_f hb) (hk0 _))
  refine ok_X8_month hE ?_
  unfold vc_X8_month
  rw [c1, e12]
  refine ⟨fun q => mbad1 (fun z => lt_nle q z.1), fun q => ⟨fun q2 => mbad1 (fun z => lt_nle q2 z.2), fun q2 => ?_⟩⟩
  have hin : ¬ bz ((1 : Int32) ≤ x ∧ x ≤ 100) = 0 := by rw [bz_t ⟨nlt_le q, nlt_le q2⟩]; decide
  obtain ⟨y, hy, rfl⟩ : ∃ y, y ≤ 100 ∧ x = nI y := by
    refine nI_of2 (M := 100) (by decide) (fun z => q ?_) (nlt_le q2)
    rw [i_lt] at z ⊢
    have e0 : (0 : Int32).toInt = 0 := by decide
    have e1 : (1 : Int32).toInt = 1 := by decide
    omega
  refine ⟨fun q3 => ?_, fun q3 => ?_⟩
  · have q3 := (nI_leI (by omega) (by omega)).mp q3
    have hy1 : 1 ≤ y := by
      rcases Nat.eq_zero_or_pos y with z | z
      · subst z
        exact absurd (by decide) q
      · exact z
    refine sp_pass0 hE hC.c c1 (by omega) ?_
    have hOa : Of [101] V (up3 V 101 0 0 (nI (m + y))) := Of.up1 (by decide)
    refine sp_ageAll hE (hI.1.of hOa (by decide) (by decide) (by decide) (by decide)) (fun p hp => by rw [hOa 310 (by decide)]; exact ⟨(hd p hp).1, (hd p hp).2.2⟩) (fun V1 hO1 w1 => ?_)
    obtain ⟨V3, hV3⟩ : ∃ V3, V3 = up3 V1 911 0 0 0 := ⟨_, rfl⟩
    rw [← hV3]
    have hO3 : Of [101, 311, 911] V V3 := by
      rw [hV3]
      exact ((hOa.mono (by decide)).tr (hO1.mono (by decide))).up (by decide)
    have e101 : V3 101 0 0 = nI (m + y) := by rw [hV3, up3_f (by decide), hO1 101 (by decide), up3_s]
    have e311 : ∀ p, p < n → V3 311 p 0 = if 0 < D 4 p then V 311 p 0 + nI (mld fr yb m y) else V 311 p 0 := fun p hp => by
      rw [hV3, up3_f (by decide), w1 p hp, hOa 311 (by decide)]
    rw [e101]
    have hP3 : PM V3 n (D 0) on := hI.2.1.of hO3 (by decide) (by decide) (by decide) (by decide)
    -- the model's months
    have loop : ∀ (r j : Nat) (V4 : Vt), j + r = y → Of [1013, 1018, 1019, 1023] V3 V4 → V4 1018 0 0 = nI (m + j) → (0 < j → V4 1019 0 0 = 0) → (∀ p, p < n → V4 1013 0 p = if 0 < D 4 p then V 1013 0 p + nI (mld fr yb m j) else V 1013 0 p) → (∀ p k, p < n → m ≤ k → k < m + j → V4 1023 0 (1201 * p + k) = nI (D 4 p)) → (∀ k, (∀ p c, p < n → m ≤ c → c < m + j → k ≠ 1201 * p + c) → V4 1023 0 k = V 1023 0 k) → A_X9_month_26 l G E V4 (nI y) (nI j) (fun r' V2 => K (nI (m + y)) r' V2) := by
      intro r
      induction r with
      | zero =>
        intro j V4 hj hO4 u1 u2 u3 u4 u5
        have hj : j = y := by omega
        subst hj
        refine ok_X9_month_26 hE ?_
        unfold vc_X9_month_26
        rw [u1]
        refine br_t (nI_le (Nat.le_refl _) (by omega)) ?_
        have hOf : Of monthS V V4 := (hO3.mono (by decide)).tr (hO4.mono (by decide))
        refine hK _ V4 (m + j) ?_ ?_ ?_ hOf
        · -- parts
          obtain ⟨p1, p2, p3⟩ := hI
          refine ⟨p1.of hOf (by decide) (by decide) (by decide) (by decide), p2.of hOf (by decide) (by decide) (by decide) (by decide), fun p hp => ?_⟩
          obtain ⟨a1, a2, a3, a4, a5, a6, a7, a8, a9, a10, a11, a12, a13⟩ := p3 p hp
          have g : ∀ f, f ∉ monthS → V4 f = V f := hOf
          unfold IPp
          rw [cenB_of hOf (by decide) (by decide) (by decide), g 300 (by decide), g 301 (by decide), g 302 (by decide), g 303 (by decide), g 304 (by decide), g 306 (by decide), g 309 (by decide), g 310 (by decide), g 312 (by decide), g 313 (by decide), g 1002 (by decide), g 1003 (by decide), g 1004 (by decide), g 1005 (by decide), g 1006 (by decide), g 1007 (by decide), g 1008 (by decide), g 1009 (by decide), g 1010 (by decide), g 1011 (by decide), g 1012 (by decide), g 1014 (by decide), g 1017 (by decide)]
          refine ⟨a1, a2, a3, a4, a5, a6, a7, a8, ?_, a10, a11, a12, a13⟩
          rw [hO4 311 (by decide), e311 p hp, u3 p hp, a9]
        · unfold IC
          rw [hOf 100 (by decide), hOf 102 (by decide), hOf 912 (by decide), hOf 1020 (by decide), hOf 1021 (by decide), hOf 1022 (by decide)]
          refine ⟨by rw [hO4 101 (by decide)]; exact e101, u1, by omega, c4, c5, c6, c7, c8, ?_, c10⟩
          rw [u2 (by omega), hO4 911 (by decide), hV3, up3_s]
        · refine ⟨fun p hp => ⟨fun i hi => ?_, fun k hk => ?_⟩, fun p k hp hp2 hk => ?_⟩
          · rw [hOf 307 (by decide)]
            obtain ⟨t1, t2⟩ := (hL.1 p hp).1 i hi
            exact ⟨t1, by omega⟩
          · by_cases e : k < m
            · rw [u5 _ (fun q c hq h1 h2 => by omega)]
              exact (hL.1 p hp).2 k e
            · rw [u4 p k hp (by omega) hk, cn_all _ (fun i hi => by have := ((hL.1 p hp).1 i hi).2; omega)]
          · rw [u5 _ (fun q c hq h1 h2 => by omega)]
            exact hL.2 p k hp hp2 hk
      | succ r ih =>
        intro j V4 hj hO4 u1 u2 u3 u4 u5
        have hP4 : PM V4 n (D 0) on := hP3.of hO4 (by decide) (by decide) (by decide) (by decide)
        have hF4 : FRm V4 fr yb := by
          unfold FRm
          rw [hO4 1021 (by decide), hO4 1022 (by decide), hO3 1021 (by decide), hO3 1022 (by decide)]
          exact hC.m
        refine ok_X9_month_26 hE ?_
        unfold vc_X9_month_26
        rw [u1]
        refine br_f (nI_ge (by omega) (by omega)) (sp_isFrost hE hF4 (by omega) ?_)
        refine mmonth_in (c := m + j) hE hP4 (fun p hp => by rw [hO4 1012 (by decide), hO3 1012 (by decide)]; exact ⟨(hd p hp).2.1, (hd p hp).2.2⟩) u1 (by omega) (fun V5 hO5 v1 v2 v3 => ?_)
        rw [nI_1]
        refine ih (j + 1) _ (by omega) (((hO4.tr (hO5.mono (by decide))).up (by decide)).up (by decide)) (by rw [up3_f (by decide), up3_s]; rfl) (fun _ => up3_s _ _ _ _ _) (fun p hp => ?_) (fun p k hp h1 h2 => ?_) (fun k hk => ?_)
        · rw [up3_f (by decide), up3_f (by decide), v1 p hp, u3 p hp]
          rw [mld_s]
          by_cases e : 0 < D 4 p
          · rw [if_pos e, if_pos e]
            by_cases e2 : frs fr yb (m + j) = true
            · rw [if_pos e2, if_neg (fun y => absurd y.2 (by rw [bz_t e2]; decide)), Nat.add_zero, Int32.add_zero]
            · rw [if_neg e2, if_pos ⟨e, by rw [bz_f e2]⟩, Int32.add_assoc, nI_1]
          · rw [if_neg e, if_neg e, if_neg (fun y => e y.1), Int32.add_zero]
        · rw [up3_f (by decide), up3_f (by decide)]
          by_cases e : k = m + j
          · subst e
            exact v2 p hp
          · rw [v3 _ (fun q hq => by omega)]
            exact u4 p k hp h1 (by omega)
        · rw [up3_f (by decide), up3_f (by decide), v3 _ (fun q hq => hk q (m + j) hq (by omega) (by omega))]
          exact u5 k (fun q c hq h1 h2 => hk q c hq h1 (by omega))
    refine ok_X9_month hE ?_
    unfold vc_X9_month
    refine sp_in hE (br_f hin ?_)
    rw [hO3 1018 (by decide), c2, nI_add]
    refine br_t (nI_le (b := 1200) (by omega) (by decide)) ?_
    exact loop y 0 V3 (by omega) (Of.rf _ _) (by rw [hO3 1018 (by decide), c2]; rfl) (fun z => by omega) (fun p hp => by
      rw [hO3 1013 (by decide)]
      unfold mld
      split
      · rw [show nI 0 = (0 : Int32) from rfl, Int32.add_zero]
      · rfl) (fun p k hp h1 h2 => by omega) (fun k _ => by rw [hO3 1023 (by decide)])
  · refine ok_X9_month hE ?_
    unfold vc_X9_month
    refine sp_in hE (br_f hin ?_)
    rw [c2, nI_add]
    refine br_f (fun z => q3 ?_) (hk0 _)
    have z := (nI_leI (b := 1200) (by omega) (by decide)).mp z
    exact nI_le (by omega) (by omega)
end Month

/-! OPS: support, about, down, needs -/
def sb (sc : Nat → Nat) (on : Nat → Nat → Nat) (p q : Nat) : Bool := (List.range (sc q)).any (fun i => on q i == p)
theorem sb_iff {sc : Nat → Nat} {on : Nat → Nat → Nat} {p q : Nat} : sb sc on p q = true ↔ ∃ i, i < sc q ∧ on q i = p := by
  unfold sb
  simp [List.any_eq_true, List.mem_range]
def cb (sc : Nat → Nat) (on : Nat → Nat → Nat) (p : Nat) : Nat → Nat
  | 0 => 0
  | q + 1 => cb sc on p q + (if sb sc on p q then 1 else 0)
theorem cb_le (sc : Nat → Nat) (on : Nat → Nat → Nat) (p : Nat) : ∀ q, cb sc on p q ≤ q
  | 0 => Nat.le_refl 0
  | q + 1 => by
    have := cb_le sc on p q
    unfold cb
    split <;> omega
/-- the first of the largest -/
def bst (f : Nat → Int32) : Nat → Nat
  | 0 => 0
  | m + 1 => if f (bst f m) < f (m + 1) then m + 1 else bst f m
theorem bst_le (f : Nat → Int32) : ∀ m, bst f m ≤ m
  | 0 => Nat.le_refl 0
  | m + 1 => by
    have := bst_le f m
    unfold bst
    split <;> omega
theorem bst_cong {f g : Nat → Int32} : ∀ m, (∀ i, i ≤ m → f i = g i) → bst f m = bst g m
  | 0, _ => rfl
  | m + 1, h => by
    have h1 := bst_cong m (fun i hi => h i (by omega))
    have h2 := bst_le g m
    unfold bst
    rw [h1, h (bst g m) (by omega), h (m + 1) (Nat.le_refl _)]
section Ops4
variable {l : Launch} {G : Gt} {E : Et} {V : Vt} {n : Nat} {D on sn : Nat → Nat → Nat}
theorem no_part {x : Int32} {p : Nat} (hn : n ≤ 40) (q : x < 0 ∨ nI n ≤ x) (hp : p < n) (e : x = nI p) : False := by
  subst e
  rcases q with q | q
  · exact absurd q (nI_pos (by omega))
  · exact absurd q (nI_ge hp (by omega))
theorem n100 (a : Nat) (b : Int32) : (100 : Int32) * nI a + b = nI (100 * a) + b := by rw [li 100, pk_mul]
theorem bo_support {x y : Int32} {K : Int32 → Int32 → Vt → Prop} (hE : Sg E) (hI : IP E V n D on sn) (hK : ∀ r, K r r V) : C_X8_support l G E V x y (fun r V1 => C_X9_support l G E V1 x y (fun r' V2 => K r r' V2)) := by
  have hn := hI.1.2.1
  refine ok_X8_support hE ?_
  unfold vc_X8_support
  refine sp_find hE hI.1 (fun q => ⟨fun _ => ?_, fun t ht => by cases ht⟩) (fun p hp e => ⟨fun q => (by cases q), fun t ht => ?_⟩)
  · refine ok_X9_support hE ?_
    unfold vc_X9_support
    exact sp_isPart hE hI.2.1 (fun _ => br_t rfl (hK _)) (fun p hp e => (no_part hn q hp e).elim)
  · cases ht
    subst e
    have ip : vp_in (nI p) 40 := inI (by omega) (by omega)
    obtain ⟨-, hl, h4, hs, -, ho⟩ := hI.1.2.2 p hp
    obtain ⟨-, m2, -, -, m5⟩ := hI.2.1.2.2 p hp
    obtain ⟨-, -, -, -, -, -, -, -, -, -, a11, -⟩ := hI.2.2 p hp
    have mbad : ¬ ((0 : Int32) ≤ y ∧ y ≤ nI (D 0 p) - 1) → C_X9_support l G E V (nI p) y (fun r' V2 => K (-1) r' V2) := by
      intro hb
      refine ok_X9_support hE ?_
      unfold vc_X9_support
      refine sp_isPartp hE hI.2.1 hp (br_f (by decide) ⟨ip, ?_⟩)
      rw [cl (by omega), m2]
      exact sp_in hE (br_t (bz_f hb) (hK _))
    rw [hs]
    refine ⟨hl, fun q => mbad (fun z => lt_nle q z.1), fun q => ⟨fun q2 => ?_, fun q2 => mbad (fun z => ?_)⟩⟩
    · obtain ⟨i, hi, rfl⟩ : ∃ i, i < D 0 p ∧ y = nI i := by
        rcases ix3 y (n := D 0 p) (by omega) with z | z
        · rcases z with z | z
          · exact absurd z q
          · exact absurd q2 (le_nlt z)
        · exact z
      have i4 : vp_in (nI i) 4 := inI (by omega) (by decide)
      refine ⟨i4, i4, ?_⟩
      rw [cl (by omega), (ho i hi).2, (a11 i hi).1]
      refine ok_X9_support hE ?_
      unfold vc_X9_support
      refine sp_isPartp hE hI.2.1 hp (br_f (by decide) ⟨ip, ?_⟩)
      rw [cl (by omega), m2]
      refine sp_in hE (br_f (by rw [bz_t ((isP_iff (n := D 0 p) (by omega)).mpr ⟨i, hi, rfl⟩)]; decide) ?_)
      rw [n4, cl (by omega), (m5 i hi).2, (a11 i hi).2.1]
      exact ⟨inI (by omega) (by decide), inI (by omega) (by decide), hK _⟩
    · obtain ⟨i, hi, rfl⟩ := (isP_iff (n := D 0 p) (by omega)).mp z
      exact q2 (nI_lt hi (by omega))
/-! about: what a part bears -/
theorem sp_standsOn {p q : Nat} {K : Int32 → Vt → Prop} (hE : Sg E) (hP : PC E V n (D 0) on) (hq : q < n) (hp : p < n) (h : K (bz (sb (D 0) on p q = true)) V) : C_X2_standsOn l G E V q (nI p) K := by
  have hn := hP.2.1
  obtain ⟨-, hl, h4, hs, -, ho⟩ := hP.2.2 q hq
  have loop : ∀ (m i : Nat), i + m = D 0 q → (∀ k, k < i → on q k ≠ p) → A_X2_standsOn_2 l G E V q (nI p) (nI i) K := by
    intro m
    induction m with
    | zero =>
      intro i hi hb
      refine ok_X2_standsOn_2 hE hl ?_
      unfold vc_X2_standsOn_2
      rw [hs]
      refine br_t (nI_le (by omega) (by omega)) ?_
      rw [bz_f (fun z => by obtain ⟨k, k1, k2⟩ := sb_iff.mp z; exact hb k (by omega) k2)] at h
      exact h
    | succ m ih =>
      intro i hi hb
      refine ok_X2_standsOn_2 hE hl ?_
      unfold vc_X2_standsOn_2
      obtain ⟨o1, o2⟩ := ho i (by omega)
      rw [hs, cl (by omega), o2, nI_1]
      refine br_f (nI_ge (by omega) (by omega)) ⟨inI (by omega) (by decide), fun z => ?_, fun z => ?_⟩
      · refine ih (i + 1) (by omega) (fun k hk => ?_)
        by_cases e : k = i
        · subst e
          exact fun y => z (by rw [y])
        · exact hb k (by omega)
      · rw [bz_t (sb_iff.mpr ⟨i, by omega, (nI_eq (by omega) (by omega)).mp z⟩)] at h
        exact h
  refine ok_X2_standsOn hE hl ?_
  unfold vc_X2_standsOn
  exact loop (D 0 q) 0 (by omega) (fun k hk => by omega)
theorem sp_borne {p : Nat} {K : Int32 → Vt → Prop} (hE : Sg E) (hP : PC E V n (D 0) on) (hp : p < n) (h : K (nI (cb (D 0) on p n)) V) : C_X3_countBorneBy l G E V (nI p) K := by
  have hn := hP.2.1
  have loop : ∀ (m q : Nat), q + m = n → A_X3_countBorneBy_4 l G E V (nI p) (nI (cb (D 0) on p q)) (nI q) K := by
    intro m
    induction m with
    | zero =>
      intro q hq
      have hq : q = n := by omega
      subst hq
      refine ok_X3_countBorneBy_4 hE ?_
      unfold vc_X3_countBorneBy_4
      rw [hP.1]
      exact br_t (nI_le (Nat.le_refl _) (by omega)) h
    | succ m ih =>
      intro q hq
      refine ok_X3_countBorneBy_4 hE ?_
      unfold vc_X3_countBorneBy_4
      rw [hP.1, nI_1, nI_1]
      refine br_f (nI_ge (by omega) (by omega)) (sp_findp hE hP (by omega) ⟨fun z => (by cases z), fun t ht => ?_⟩)
      cases ht
      refine ⟨(hP.2.2 q (by omega)).2.1, sp_standsOn hE hP (by omega) hp ⟨fun z => ?_, fun z => ?_⟩⟩
      · rw [bz0] at z
        have := ih (q + 1) (by omega)
        unfold cb at this
        rw [if_neg z] at this
        exact this
      · rw [bz0] at z
        have := ih (q + 1) (by omega)
        unfold cb at this
        rw [if_pos (Decidable.not_not.mp z)] at this
        exact this
  refine ok_X3_countBorneBy hE ?_
  unfold vc_X3_countBorneBy
  exact loop n 0 (by omega)
theorem sp_mstands {p q : Nat} {K : Int32 → Vt → Prop} (hE : Sg E) (hP : PM V n (D 0) on) (hq : q < n) (hp : p < n) (h : K (bz (sb (D 0) on p q = true)) V) : C_X9_stands l G E V (nI q) (nI p) K := by
  have hn := hP.2.1
  obtain ⟨h4, hs, -, -, ho⟩ := hP.2.2 q hq
  have loop : ∀ (m i : Nat), i + m = D 0 q → (∀ k, k < i → on q k ≠ p) → A_X9_stands_2 l G E V (nI q) (nI p) (nI i) K := by
    intro m
    induction m with
    | zero =>
      intro i hi hb
      refine ok_X9_stands_2 hE ?_
      unfold vc_X9_stands_2
      rw [cl (by omega), hs]
      refine ⟨inI (by omega) (by decide), br_t (nI_le (by omega) (by omega)) ?_⟩
      rw [bz_f (fun z => by obtain ⟨k, k1, k2⟩ := sb_iff.mp z; exact hb k (by omega) k2)] at h
      exact h
    | succ m ih =>
      intro i hi hb
      refine ok_X9_stands_2 hE ?_
      unfold vc_X9_stands_2
      obtain ⟨o1, o2⟩ := ho i (by omega)
      rw [cl (by omega), hs, n4, cl (by omega), o2, nI_1]
      refine ⟨inI (by omega) (by decide), br_f (nI_ge (by omega) (by omega)) ⟨inI (by omega) (by decide), fun z => ?_, fun z => ?_⟩⟩
      · refine ih (i + 1) (by omega) (fun k hk => ?_)
        by_cases e : k = i
        · subst e
          exact fun y => z (by rw [y])
        · exact hb k (by omega)
      · rw [bz_t (sb_iff.mpr ⟨i, by omega, (nI_eq (by omega) (by omega)).mp z⟩)] at h
        exact h
  refine ok_X9_stands hE ?_
  unfold vc_X9_stands
  exact loop (D 0 q) 0 (by omega) (fun k hk => by omega)
theorem mborne {p : Nat} {K : Int32 → Vt → Prop} (hE : Sg E) (hP : PM V n (D 0) on) (hp : p < n) (h : K (nI (cb (D 0) on p n)) V) : A_X9_about_180 l G E V (nI p) 0 0 K := by
  have hn := hP.2.1
  have loop : ∀ (m q : Nat), q + m = n → A_X9_about_180 l G E V (nI p) (nI (cb (D 0) on p q)) (nI q) K := by
    intro m
    induction m with
    | zero =>
      intro q hq
      have hq : q = n := by omega
      subst hq
      refine ok_X9_about_180 hE ?_
      unfold vc_X9_about_180
      rw [hP.1]
      exact br_t (nI_le (Nat.le_refl _) (by omega)) h
    | succ m ih =>
      intro q hq
      refine ok_X9_about_180 hE ?_
      unfold vc_X9_about_180
      rw [hP.1, nI_1, nI_1, Int32.add_zero]
      refine br_f (nI_ge (by omega) (by omega)) (sp_mstands hE hP (by omega) hp ⟨fun z => ?_, fun z => ?_⟩)
      · rw [bz0] at z
        have := ih (q + 1) (by omega)
        unfold cb at this
        rw [if_neg z] at this
        exact this
      · rw [bz0] at z
        have := ih (q + 1) (by omega)
        unfold cb at this
        rw [if_pos (Decidable.not_not.mp z)] at this
        exact this
  exact loop n 0 (by omega)
theorem bo_about {x y : Int32} {K : Int32 → Int32 → Vt → Prop} (hE : Sg E) (hI : IP E V n D on sn) (hK : ∀ r V2, Of scF V V2 → K r r V2) : C_X8_about l G E V x y (fun r V1 => C_X9_about l G E V1 x y (fun r' V2 => K r r' V2)) := by
  have hn := hI.1.2.1
  have hk0 : ∀ r, K r r V := fun r => hK r V (Of.rf _ _)
  refine ok_X8_about hE ?_
  unfold vc_X8_about
  refine sp_find hE hI.1 (fun q => ⟨fun _ => ?_, fun t ht => by cases ht⟩) (fun p hp e => ⟨fun q => (by cases q), fun t ht => ?_⟩)
  · refine ok_X9_about hE ?_
    unfold vc_X9_about
    exact sp_isPart hE hI.2.1 (fun _ => nb_f rfl (hk0 _)) (fun p hp e => (no_part hn q hp e).elim)
  · cases ht
    subst e
    have ip : vp_in (nI p) 40 := inI (by omega) (by omega)
    have hl := (hI.1.2.2 p hp).2.1
    obtain ⟨-, m2, -, -, m5⟩ := hI.2.1.2.2 p hp
    obtain ⟨a1, a2, a3, a4, a5, a6, a7, a8, a9, a10, a11, a12, a13⟩ := hI.2.2 p hp
    have hs := (hI.1.2.2 p hp).2.2.2.1
    have ne : ∀ a b : Int32, a ≠ b → y = a → y = b → False := fun a b h h1 h2 => h (h1.symm.trans h2)
    -- the model's answer in a state that agrees
    have md : ∀ (V1 : Vt) (c : Int32) (r : Int32), y = c → Of scF V V1 → (∀ k, k < 13 → k ≠ 3 → k ≠ 6 → k ≠ 7 → k ≠ 10 → c = nI k → (k = 0 → r = V 1002 0 p) ∧ (k = 1 → r = V 1003 0 p) ∧ (k = 2 → r = V 1012 0 p) ∧ (k = 4 → r = V 1013 0 p) ∧ (k = 5 → r = V 1014 0 p) ∧ (k = 8 → r = V 1011 0 p) ∧ (k = 9 → r = V 1015 0 p) ∧ (k = 11 → r = V 1005 0 p) ∧ (k = 12 → r = V 1006 0 p)) → (c = 3 → r = (cW V (D 0) on n n).1 p) → (c = 6 → r = iabs ((cW V (D 0) on n n).2 p)) → (c = 7 → r = bz (0 < (cW V (D 0) on n n).2 p)) → (c = 10 → r = nI (cb (D 0) on p n)) → (c ≠ 0 ∧ c ≠ 1 ∧ c ≠ 2 ∧ c ≠ 3 ∧ c ≠ 4 ∧ c ≠ 5 ∧ c ≠ 6 ∧ c ≠ 7 ∧ c ≠ 8 ∧ c ≠ 9 ∧ c ≠ 10 ∧ c ≠ 11 ∧ c ≠ 12 → r = -1) → C_X9_about l G E V1 (nI p) y (fun r' V2 => K r r' V2) := by
      intro V1 c r hy hO h h3 h6 h7 h10 hd
      subst hy
      have hI1 := hI.of hO (by decide)
      have hwm : ∀ q, q < n → (mW V1 (D 0) on n n).1 q = (cW V (D 0) on n n).1 q ∧ (mW V1 (D 0) on n n).2 q = (cW V (D 0) on n n).2 q := fun q hq => by
        have := hI1.w.same hn q hq
        rw [cW_of hO (by decide) (by decide) (by decide) (by decide) (by decide) (by decide)] at this
        exact ⟨this.1.symm, this.2.symm⟩
      refine ok_X9_about hE ?_
      unfold vc_X9_about
      rw [cl (by omega)]
      have kk : ∀ r', r = r' → K r r' V1 := fun r' e => by rw [← e]; exact hK r V1 hO
      refine sp_isPartp hE hI1.2.1 hp ?_
      dsimp only
      rw [hO 1002 (by decide), hO 1003 (by decide), hO 1012 (by decide), hO 1013 (by decide), hO 1014 (by decide), hO 1011 (by decide), hO 1015 (by decide), hO 1005 (by decide), hO 1006 (by decide)]
      refine (nb_t (by decide) ⟨fun e => ⟨ip, kk _ ((h 0 (by decide) (by decide) (by decide) (by decide) (by decide) e).1 rfl)⟩, fun e => ⟨ip, kk _ ((h 1 (by decide) (by decide) (by decide) (by decide) (by decide) e).2.1 rfl)⟩, fun e => ⟨ip, kk _ ((h 2 (by decide) (by decide) (by decide) (by decide) (by decide) e).2.2.1 rfl)⟩, fun e => ?_, fun e => ⟨ip, kk _ ((h 4 (by decide) (by decide) (by decide) (by decide) (by decide) e).2.2.2.1 rfl)⟩, fun e => ⟨ip, fun z => kk _ (by rw [(h 5 (by decide) (by decide) (by decide) (by decide) (by decide) e).2.2.2.2.1 rfl]; exact z), fun z => kk _ (by
        rw [(h 5 (by decide) (by decide) (by decide) (by decide) (by decide) e).2.2.2.2.1 rfl]
        rcases IPp01 (hI.2.2 p hp) with y | y
        · exact absurd y z
        · exact y)⟩, fun e => ?_, fun e => ?_, fun e => ⟨ip, kk _ ((h 8 (by decide) (by decide) (by decide) (by decide) (by decide) e).2.2.2.2.2.1 rfl)⟩, fun e => ⟨ip, kk _ ((h 9 (by decide) (by decide) (by decide) (by decide) (by decide) e).2.2.2.2.2.2.1 rfl)⟩, fun e => mborne hE hI1.2.1 hp (kk _ (h10 e)), fun e => ⟨ip, kk _ ((h 11 (by decide) (by decide) (by decide) (by decide) (by decide) e).2.2.2.2.2.2.2.1 rfl)⟩, fun e => ⟨ip, kk _ ((h 12 (by decide) (by decide) (by decide) (by decide) (by decide) e).2.2.2.2.2.2.2.2 rfl)⟩, fun e => kk _ (hd e)⟩)
      · refine sp_mweigh hE hI1.2.1 (fun V2 hO2 hW => ⟨ip, ?_⟩)
        rw [(hW p hp).1, (hwm p hp).1, ← h3 e]
        exact hK _ _ (hO.tr (hO2.mono (by decide)))
      · refine sp_mweigh hE hI1.2.1 (fun V2 hO2 hW => ?_)
        refine ok_X9_net hE ?_
        unfold vc_X9_net
        rw [cl (by omega), (hW p hp).2, (hwm p hp).2]
        have kf : ∀ r', r' = iabs ((cW V (D 0) on n n).2 p) → K r r' V2 := fun r' e9 => by rw [e9, ← h6 e]; exact hK _ _ (hO.tr (hO2.mono (by decide)))
        exact ⟨ip, fun z => ⟨ip, kf _ (by unfold iabs; rw [if_neg (le_nlt z)])⟩, fun z => ⟨ip, kf _ (by unfold iabs; rw [if_pos (nle_lt z)])⟩⟩
      · refine sp_mweigh hE hI1.2.1 (fun V2 hO2 hW => ⟨ip, ?_⟩)
        rw [(hW p hp).2, (hwm p hp).2]
        have kf : ∀ r', r' = bz (0 < (cW V (D 0) on n n).2 p) → K r r' V2 := fun r' e9 => by rw [e9, ← h7 e]; exact hK _ _ (hO.tr (hO2.mono (by decide)))
        exact ⟨fun z => kf _ (bz_f (le_nlt z)).symm, fun z => kf _ (bz_t (nle_lt z)).symm⟩
    have big : ∀ k, 13 ≤ k → k < 13 → False := fun k a b => by omega
    have kne : ∀ (a b : Nat), a < 100 → b < 100 → (nI a : Int32) = nI b → a = b := fun a b ha hb e => (nI_eq (by omega) (by omega)).mp e
    refine ⟨hl, fun e => ?_, fun e => ?_, fun e => ?_, fun e => ?_, fun e => ?_, fun e => ?_, fun e => ?_, fun e => ?_, fun e => ?_, fun e => ?_, fun e => ?_, fun e => ?_, fun e => ?_, fun e => ?_⟩
    · exact md V (nI 0) _ e (Of.rf _ _) (fun k hk _ _ _ _ ek => by have := kne 0 k (by decide) (by omega) ek; subst this; simp [a1]) (fun z => absurd z (by decide)) (fun z => absurd z (by decide)) (fun z => absurd z (by decide)) (fun z => absurd z (by decide)) (fun z => absurd z (by decide))
    · exact md V (nI 1) _ e (Of.rf _ _) (fun k hk _ _ _ _ ek => by have := kne 1 k (by decide) (by omega) ek; subst this; simp [a2.1, a2.2.1]) (fun z => absurd z (by decide)) (fun z => absurd z (by decide)) (fun z => absurd z (by decide)) (fun z => absurd z (by decide)) (fun z => absurd z (by decide))
    · exact md V (nI 2) _ e (Of.rf _ _) (fun k hk _ _ _ _ ek => by have := kne 2 k (by decide) (by omega) ek; subst this; simp [a8.1, a8.2.1]) (fun z => absurd z (by decide)) (fun z => absurd z (by decide)) (fun z => absurd z (by decide)) (fun z => absurd z (by decide)) (fun z => absurd z (by decide))
    · refine ok_X8_loadOf hE ?_
      unfold vc_X8_loadOf
      refine sp_weigh hE hI.1 (fun V1 hO hW => ⟨ip, ?_⟩)
      rw [cl (by omega), (hW p hp).1]
      exact md V1 (nI 3) _ e (hO.mono (by decide)) (fun k hk h3 _ _ _ ek => absurd (kne 3 k (by decide) (by omega) ek).symm h3) (fun _ => rfl) (fun z => absurd z (by decide)) (fun z => absurd z (by decide)) (fun z => absurd z (by decide)) (fun z => absurd z (by decide))
    · exact md V (nI 4) _ e (Of.rf _ _) (fun k hk _ _ _ _ ek => by have := kne 4 k (by decide) (by omega) ek; subst this; simp [a9]) (fun z => absurd z (by decide)) (fun z => absurd z (by decide)) (fun z => absurd z (by decide)) (fun z => absurd z (by decide)) (fun z => absurd z (by decide))
    · have e5 : ∀ r, r = V 1014 0 p → C_X9_about l G E V (nI p) y (fun r' V2 => K r r' V2) := fun r hr => md V (nI 5) _ e (Of.rf _ _) (fun k hk _ _ _ _ ek => by have := kne 5 k (by decide) (by omega) ek; subst this; simp [hr]) (fun z => absurd z (by decide)) (fun z => absurd z (by decide)) (fun z => absurd z (by decide)) (fun z => absurd z (by decide)) (fun z => absurd z (by decide))
      refine sp_cent hE hl ⟨fun z => e5 _ ?_, fun z => e5 _ ?_⟩
      · rw [a10.2]; exact z.symm
      · rw [a10.2]
        rw [bz0] at z
        exact (bz_t (Decidable.not_not.mp z)).symm
    · refine ok_X8_pushToRightOn hE ?_
      unfold vc_X8_pushToRightOn
      refine sp_weigh hE hI.1 (fun V1 hO hW => ⟨ip, ?_⟩)
      rw [cl (by omega), (hW p hp).2]
      dsimp only
      rw [iabs_c]
      exact md V1 (nI 6) _ e (hO.mono (by decide)) (fun k hk _ h6 _ _ ek => absurd (kne 6 k (by decide) (by omega) ek).symm h6) (fun z => absurd z (by decide)) (fun _ => rfl) (fun z => absurd z (by decide)) (fun z => absurd z (by decide)) (fun z => absurd z (by decide))
    · refine ok_X8_pushToRightOn hE ?_
      unfold vc_X8_pushToRightOn
      refine sp_weigh hE hI.1 (fun V1 hO hW => ⟨ip, ?_⟩)
      rw [cl (by omega), (hW p hp).2]
      have e7 : ∀ r, r = bz (0 < (cW V (D 0) on n n).2 p) → C_X9_about l G E V1 (nI p) y (fun r' V2 => K r r' V2) := fun r hr => md V1 (nI 7) _ e (hO.mono (by decide)) (fun k hk _ _ h7 _ ek => absurd (kne 7 k (by decide) (by omega) ek).symm h7) (fun z => absurd z (by decide)) (fun z => absurd z (by decide)) (fun _ => hr) (fun z => absurd z (by decide)) (fun z => absurd z (by decide))
      exact ⟨fun z => e7 _ (bz_f (le_nlt z)).symm, fun z => e7 _ (bz_t (nle_lt z)).symm⟩
    · exact md V (nI 8) _ e (Of.rf _ _) (fun k hk _ _ _ _ ek => by have := kne 8 k (by decide) (by omega) ek; subst this; simp [a7.1, a7.2.1]) (fun z => absurd z (by decide)) (fun z => absurd z (by decide)) (fun z => absurd z (by decide)) (fun z => absurd z (by decide)) (fun z => absurd z (by decide))
    · exact md V (nI 9) _ e (Of.rf _ _) (fun k hk _ _ _ _ ek => by have := kne 9 k (by decide) (by omega) ek; subst this; simp [hs, m2]) (fun z => absurd z (by decide)) (fun z => absurd z (by decide)) (fun z => absurd z (by decide)) (fun z => absurd z (by decide)) (fun z => absurd z (by decide))
    · exact sp_borne hE hI.1 hp (md V (nI 10) _ e (Of.rf _ _) (fun k hk _ _ _ h10 ek => absurd (kne 10 k (by decide) (by omega) ek).symm h10) (fun z => absurd z (by decide)) (fun z => absurd z (by decide)) (fun z => absurd z (by decide)) (fun _ => rfl) (fun z => absurd z (by decide)))
    · exact md V (nI 11) _ e (Of.rf _ _) (fun k hk _ _ _ _ ek => by have := kne 11 k (by decide) (by omega) ek; subst this; simp [a4.1, a4.2.1]) (fun z => absurd z (by decide)) (fun z => absurd z (by decide)) (fun z => absurd z (by decide)) (fun z => absurd z (by decide)) (fun z => absurd z (by decide))
    · exact md V (nI 12) _ e (Of.rf _ _) (fun k hk _ _ _ _ ek => by have := kne 12 k (by decide) (by omega) ek; subst this; simp [a5.1, a5.2.1]) (fun z => absurd z (by decide)) (fun z => absurd z (by decide)) (fun z => absurd z (by decide)) (fun z => absurd z (by decide)) (fun z => absurd z (by decide))
    · obtain ⟨z0, z1, z2, z3, z4, z5, z6, z7, z8, z9, z10, z11, z12⟩ := e
      refine md V y _ rfl (Of.rf _ _) (fun k hk _ _ _ _ ek => ?_) (fun z => absurd z z3) (fun z => absurd z z6) (fun z => absurd z z7) (fun z => absurd z z10) (fun _ => rfl)
      refine ⟨fun z => absurd (by rw [ek, z]; rfl) z0, fun z => absurd (by rw [ek, z]; rfl) z1, fun z => absurd (by rw [ek, z]; rfl) z2, fun z => absurd (by rw [ek, z]; rfl) z4, fun z => absurd (by rw [ek, z]; rfl) z5, fun z => absurd (by rw [ek, z]; rfl) z8, fun z => absurd (by rw [ek, z]; rfl) z9, fun z => absurd (by rw [ek, z]; rfl) z11, fun z => absurd (by rw [ek, z]; rfl) z12⟩
end Ops4

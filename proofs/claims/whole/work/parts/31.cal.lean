/-! ===== bits of a number: 'or', masks, one bit ===== -/
theorem fa_and (a b : Nat) : nI a &&& nI b = nI (a &&& b) := by
  apply Int32.toBitVec_inj.1
  show BitVec.ofNat 32 a &&& BitVec.ofNat 32 b = BitVec.ofNat 32 (a &&& b)
  apply BitVec.eq_of_getLsbD_eq
  intro i hi
  simp [hi]
theorem fa_or (a b : Nat) : nI a ||| nI b = nI (a ||| b) := by
  apply Int32.toBitVec_inj.1
  show BitVec.ofNat 32 a ||| BitVec.ofNat 32 b = BitVec.ofNat 32 (a ||| b)
  apply BitVec.eq_of_getLsbD_eq
  intro i hi
  simp [hi]
/-- a remainder by a power of two, as a mask -/
theorem fa_mask (n k : Nat) : nI n &&& nI (2 ^ k - 1) = nI (n % 2 ^ k) := by rw [fa_and, Nat.and_two_pow_sub_one_eq_mod]
/-- 'or' of a high part and a low one that don't meet is their sum -/
theorem fa_or_sum {a k : Nat} (b : Nat) (h : a < 2 ^ k) : nI (2 ^ k * b) ||| nI a = nI (2 ^ k * b + a) := by rw [fa_or, Nat.two_pow_add_eq_or_of_lt h]
/-- one bit, by 'and' with a power of two -/
theorem fa_bit {n j : Nat} (hj : j < 31) : nI n &&& nI (2 ^ j) = 0 ↔ n.testBit j = false := by
  have h2 : (2 : Nat) ^ j < 2 ^ 31 := Nat.pow_lt_pow_right (by decide) hj
  have hle : n &&& 2 ^ j ≤ 2 ^ j := Nat.and_le_right
  have e : n &&& 2 ^ j = 0 ↔ n.testBit j = false := by
    constructor
    · intro h
      have h1 : (n &&& 2 ^ j).testBit j = false := by rw [h]; simp
      rw [Nat.testBit_and] at h1
      first | simpa using h1 | simpa [Nat.testBit_two_pow_self] using h1 | simpa [Nat.testBit_two_pow] using h1
    · intro h
      apply Nat.eq_of_testBit_eq
      intro i
      rw [Nat.testBit_and]
      by_cases hi : j = i
      · subst hi; simp [h]
      · first | (simp [Nat.testBit_two_pow, hi]; done) | (simp [Nat.testBit_two_pow_of_ne hi]; done)
  rw [fa_and]
  constructor
  · intro h
    apply e.mp
    rcases Nat.eq_zero_or_pos (n &&& 2 ^ j) with z | z
    · exact z
    · exact absurd h (nI_ne0 z (Nat.lt_of_le_of_lt hle h2))
  · intro h
    rw [e.mpr h]; exact nI_0
/-- a remainder by a power of two of a number that isn't negative, as Java divides -/
theorem fa_rem {a k : Nat} (ha : a < 2 ^ 31) (hk : k < 31) : nI a - nI a / nI (2 ^ k) * nI (2 ^ k) = nI (a % 2 ^ k) := pk_rem ha (Nat.two_pow_pos k) (Nat.pow_lt_pow_right (by decide) hk)
theorem fb_bit_set (n j i : Nat) : (n ||| 2 ^ j).testBit i = (n.testBit i || decide (i = j)) := by
  rw [Nat.testBit_or]
  by_cases h : j = i
  · subst h; simp
  · have h2 : ¬ i = j := fun e => h e.symm
    first | (simp [Nat.testBit_two_pow, h, h2]; done) | (simp [Nat.testBit_two_pow_of_ne h, h2]; done)

/-! CALENDAR -/
theorem nfb {b : Bool} (h : ¬ b = false) : b = true := by cases b; exact absurd rfl h; rfl
theorem bz_cong {c d : Prop} [Decidable c] [Decidable d] (h : c ↔ d) : bz c = bz d := by
  by_cases q : c
  · rw [bz_t q, bz_t (h.mp q)]
  · rw [bz_f q, bz_f (fun z => q (h.mpr z))]
theorem sh1 : ∀ r, r < 12 → (1 : Int32) <<< (nI r &&& 31) = nI (2 ^ r) := by decide
theorem shr12 {f : Nat} (hf : f < 4096) : ∀ r, r < 12 → nI f >>> (nI r &&& 31) = nI (f / 2 ^ r) := by
  intro r hr
  have h : ∀ r, r < 12 → ((nI r &&& (31 : Int32)).toBitVec.smod 32).toNat = r := by decide
  exact pk_shrN (by omega) _ r (h r hr)
theorem bit_div (f r : Nat) : (f / 2 ^ r % 2 = 1) ↔ f.testBit r = true := by
  rw [Nat.testBit_eq_decide_div_mod_eq]
  simp
theorem n12 {k : Nat} (hk : k < 2 ^ 31) : nI k / (12 : Int32) = nI (k / 12) := by rw [li 12, pk_div hk (by decide) (by decide)]
theorem r12 {k : Nat} (hk : k < 2 ^ 31) : nI k - nI (k / 12) * (12 : Int32) = nI (k % 12) := by
  have := pk_rem hk (d := 12) (by decide) (by decide)
  rw [pk_div hk (by decide) (by decide)] at this
  rw [li 12]
  exact this
def frs (fr : Nat) (yb : Nat → Nat) (k : Nat) : Bool := fr.testBit (k % 12) || (yb (k / 12)).testBit (k % 12)
/-- calendar: the month, frosts, bitter months by years; work done and coins paid -/
def IC (V : Vt) (m fr : Nat) (yb : Nat → Nat) : Prop := V 101 0 0 = nI m ∧ V 1018 0 0 = nI m ∧ m ≤ 1200 ∧ V 102 0 0 = nI fr ∧ V 1021 0 0 = nI fr ∧ fr < 4096 ∧ (∀ y, y ≤ 100 → V 100 0 y = nI (yb y) ∧ yb y < 4096) ∧ (∀ k, k ≤ 1200 → V 1022 0 k = bz ((yb (k / 12)).testBit (k % 12) = true)) ∧ V 911 0 0 = V 1019 0 0 ∧ V 912 0 0 = V 1020 0 0
def icIds : List Nat := [100, 101, 102, 911, 912, 1018, 1019, 1020, 1021, 1022]
theorem IC.of {V V' : Vt} {m fr : Nat} {yb : Nat → Nat} {S : List Nat} (h : IC V m fr yb) (hO : Of S V V') (hS : ∀ f, f ∈ icIds → f ∉ S) : IC V' m fr yb := by
  unfold IC
  rw [hO 100 (hS _ (by decide)), hO 101 (hS _ (by decide)), hO 102 (hS _ (by decide)), hO 911 (hS _ (by decide)), hO 912 (hS _ (by decide)), hO 1018 (hS _ (by decide)), hO 1019 (hS _ (by decide)), hO 1020 (hS _ (by decide)), hO 1021 (hS _ (by decide)), hO 1022 (hS _ (by decide))]
  exact h
def FRc (V : Vt) (fr : Nat) (yb : Nat → Nat) : Prop := V 102 0 0 = nI fr ∧ fr < 4096 ∧ ∀ y, y ≤ 100 → V 100 0 y = nI (yb y) ∧ yb y < 4096
def FRm (V : Vt) (fr : Nat) (yb : Nat → Nat) : Prop := V 1021 0 0 = nI fr ∧ fr < 4096 ∧ ∀ k, k ≤ 1200 → V 1022 0 k = bz ((yb (k / 12)).testBit (k % 12) = true)
theorem IC.c {V : Vt} {m fr : Nat} {yb : Nat → Nat} (h : IC V m fr yb) : FRc V fr yb := ⟨h.2.2.2.1, h.2.2.2.2.2.1, h.2.2.2.2.2.2.1⟩
theorem IC.m {V : Vt} {m fr : Nat} {yb : Nat → Nat} (h : IC V m fr yb) : FRm V fr yb := ⟨h.2.2.2.2.1, h.2.2.2.2.2.1, h.2.2.2.2.2.2.2.1⟩
section Cal
variable {l : Launch} {G : Gt} {E : Et} {V : Vt} {n m fr : Nat} {D on sn : Nat → Nat → Nat} {yb : Nat → Nat}
theorem sp_hasFrost {k : Nat} {K : Int32 → Vt → Prop} (hE : Sg E) (hC : FRc V fr yb) (hk : k ≤ 1200) (h : K (bz (frs fr yb k = true)) V) : C_X0_hasFrost l G E V (nI k) K := by
  obtain ⟨c4, c6, c7⟩ := hC
  refine ok_X0_hasFrost hE ?_
  unfold vc_X0_hasFrost
  rw [n12 (by omega), cl (by omega), r12 (by omega), sh1 _ (by omega), c4, (c7 (k / 12) (by omega)).1, fa_or]
  have e : frs fr yb k = (fr ||| yb (k / 12)).testBit (k % 12) := by
    unfold frs
    rw [Nat.testBit_or]
  rw [e] at h
  refine ⟨inI (by omega) (by decide), fun q => ?_, fun q => ?_⟩
  · rw [fa_bit (by omega)] at q
    rw [bz_f (by rw [q]; decide)] at h
    exact h
  · rw [fa_bit (by omega)] at q
    rw [bz_t (nfb q)] at h
    exact h
theorem sp_isFrost {k : Nat} {K : Int32 → Vt → Prop} (hE : Sg E) (hC : FRm V fr yb) (hk : k ≤ 1200) (h : K (bz (frs fr yb k = true)) V) : C_X9_isFrost l G E V (nI k) K := by
  obtain ⟨c5, c6, c8⟩ := hC
  refine ok_X9_isFrost hE ?_
  unfold vc_X9_isFrost
  rw [n12 (by omega), cl (by omega), r12 (by omega), c5, shr12 c6 _ (by omega), c8 k hk]
  have hd : fr / 2 ^ (k % 12) ≤ fr := Nat.div_le_self _ _
  have e1 : nI (fr / 2 ^ (k % 12)) &&& (1 : Int32) = nI (fr / 2 ^ (k % 12) % 2) := fa_mask _ 1
  rw [e1]
  have e2 : (nI (fr / 2 ^ (k % 12) % 2) = (1 : Int32)) ↔ fr.testBit (k % 12) = true := by
    rw [show (1 : Int32) = nI 1 from rfl, nI_eq (by omega) (by decide), bit_div]
  rw [e2]
  unfold frs at h
  refine ⟨fun q => ?_, fun q => ⟨inI (by omega) (by decide), fun q2 => ?_, fun q2 => ?_⟩⟩
  · rw [bz_t (by rw [q]; rfl)] at h
    exact h
  · rw [bz0] at q2
    rw [bz_f (by simp [q, q2])] at h
    exact h
  · rw [bz0] at q2
    rw [bz_t (by rw [Decidable.not_not.mp q2]; simp)] at h
    exact h
theorem bo_frost {x : Int32} {K : Int32 → Int32 → Vt → Prop} (hE : Sg E) (hC : IC V m fr yb) (hK : ∀ r V2 fr', IC V2 m fr' yb → Of [102, 1021] V V2 → K r r V2) : C_X8_frost l G E V x (fun r V1 => C_X9_frost l G E V1 x (fun r' V2 => K r r' V2)) := by
  obtain ⟨c1, c2, c3, c4, c5, c6, c7, c8, c9⟩ := And.intro True.intro hC |>.2
  have mbad : ¬ ((0 : Int32) ≤ x ∧ x ≤ 4095) → C_X9_frost l G E V x (fun r' V2 => K (-1) r' V2) := by
    intro hb
    refine ok_X9_frost hE ?_
    unfold vc_X9_frost
    exact sp_in hE (nb_f (bz_f hb) (hK _ _ fr hC (Of.rf _ _)))
  have e4 : (4096 : Int32).toInt = 4096 := by decide
  have e5 : (4095 : Int32).toInt = 4095 := by decide
  refine ok_X8_frost hE ?_
  unfold vc_X8_frost
  refine ⟨fun q => mbad (fun z => lt_nle q z.1), fun q => ⟨fun q2 => ?_, fun q2 => mbad (fun z => q2 ?_)⟩⟩
  · have q3 : x ≤ 4095 := by rw [i_lt] at q2; rw [i_le]; omega
    obtain ⟨f, hf, rfl⟩ : ∃ f, f ≤ 4095 ∧ x = nI f := nI_of2 (M := 4095) (by decide) q q3
    refine ok_X9_frost hE ?_
    unfold vc_X9_frost
    refine sp_in hE (nb_t (by rw [bz_t ⟨nI_pos' (by omega), q3⟩]; decide) ?_)
    rw [up3_f (f' := 1021) (by decide), c4, c5]
    refine hK _ _ f ?_ ((Of.up1 (by decide)).up (by decide))
    have g : ∀ f', f' ∉ [102, 1021] → up3 (up3 V 102 0 0 (nI f)) 1021 0 0 (nI f) f' = V f' := (Of.up1 (by decide)).up (by decide)
    unfold IC
    rw [g 100 (by decide), g 101 (by decide), g 911 (by decide), g 912 (by decide), g 1018 (by decide), g 1019 (by decide), g 1020 (by decide), g 1022 (by decide), up3_f (f' := 102) (by decide), up3_s, up3_s]
    exact ⟨c1, c2, c3, rfl, rfl, by omega, c7, c8, c9⟩
  · have := z.2
    rw [i_le] at this
    rw [i_lt]
    omega
theorem bo_bitter {x : Int32} {K : Int32 → Int32 → Vt → Prop} (hE : Sg E) (hC : IC V m fr yb) (hK : ∀ r V2 yb', IC V2 m fr yb' → Of [100, 1022] V V2 → K r r V2) : C_X8_bitter l G E V x (fun r V1 => C_X9_bitter l G E V1 x (fun r' V2 => K r r' V2)) := by
  obtain ⟨c1, c2, c3, c4, c5, c6, c7, c8, c9⟩ := And.intro True.intro hC |>.2
  have mbad : ¬ (nI m ≤ x ∧ x ≤ 1200) → C_X9_bitter l G E V x (fun r' V2 => K (-1) r' V2) := by
    intro hb
    refine ok_X9_bitter hE ?_
    unfold vc_X9_bitter
    rw [c2]
    exact sp_in hE (nb_f (bz_f hb) (hK _ _ yb hC (Of.rf _ _)))
  refine ok_X8_bitter hE ?_
  unfold vc_X8_bitter
  refine ok_X0_isAhead hE ?_
  unfold vc_X0_isAhead
  rw [c1]
  refine ⟨fun q => nb_f rfl (mbad (fun z => lt_nle q z.1)), fun q => ⟨fun q2 => nb_f rfl (mbad (fun z => lt_nle q2 z.2)), fun q2 => nb_t (by decide) ?_⟩⟩
  obtain ⟨k, hk, rfl⟩ : ∃ k, k ≤ 1200 ∧ x = nI k := by
    refine nI_of2 (M := 1200) (by decide) (fun z => q ?_) (nlt_le q2)
    have := nI_pos' (n := m) (by omega)
    rw [i_le] at this
    rw [i_lt] at z ⊢
    omega
  have hin : ¬ bz (nI m ≤ nI k ∧ nI k ≤ 1200) = 0 := by rw [bz_t ⟨nlt_le q, nlt_le q2⟩]; decide
  obtain ⟨y1, y2⟩ := c7 (k / 12) (by omega)
  have i1 : vp_in (nI (k / 12)) 101 := inI (by omega) (by decide)
  have ik : vp_in (nI k) 1201 := inI (by omega) (by decide)
  -- the state behind both
  have fin : IC (up3 (up3 V 100 0 (k / 12) (nI (yb (k / 12) ||| 2 ^ (k % 12)))) 1022 0 k 1) m fr (fun y => if y = k / 12 then yb (k / 12) ||| 2 ^ (k % 12) else yb y) := by
    have g : ∀ f', f' ∉ [100, 1022] → up3 (up3 V 100 0 (k / 12) (nI (yb (k / 12) ||| 2 ^ (k % 12)))) 1022 0 k 1 f' = V f' := (Of.up1 (by decide)).up (by decide)
    unfold IC
    rw [g 101 (by decide), g 102 (by decide), g 911 (by decide), g 912 (by decide), g 1018 (by decide), g 1019 (by decide), g 1020 (by decide), g 1021 (by decide)]
    refine ⟨c1, c2, c3, c4, c5, c6, fun y hy => ?_, fun j hj => ?_, c9⟩
    · rw [up3_f (f' := 100) (by decide)]
      by_cases e : y = k / 12
      · subst e
        rw [up3_s]
        dsimp only
        rw [if_pos rfl]
        refine ⟨rfl, ?_⟩
        have h2 : 2 ^ (k % 12) < 2 ^ 12 := Nat.pow_lt_pow_right (by decide) (by omega)
        exact Nat.or_lt_two_pow (n := 12) y2 h2
      · rw [up3_j e]
        dsimp only
        rw [if_neg e]
        exact c7 y hy
    · dsimp only
      by_cases e : j = k
      · subst e
        rw [up3_s]
        refine (bz_t ?_).symm
        rw [if_pos rfl, fb_bit_set]
        simp
      · rw [up3_j e, up3_f (f' := 1022) (by decide), c8 j hj]
        by_cases e2 : j / 12 = k / 12
        · have : ¬ j % 12 = k % 12 := fun z => e (by omega)
          refine bz_cong ?_
          rw [if_pos e2, fb_bit_set, e2]
          simp [this]
        · refine bz_cong ?_
          rw [if_neg e2]
  have hOf : Of [100, 1022] V (up3 (up3 V 100 0 (k / 12) (nI (yb (k / 12) ||| 2 ^ (k % 12)))) 1022 0 k 1) := (Of.up1 (by decide)).up (by decide)
  have hb := c8 k hk
  have md : ∀ R, R = bz (¬ (yb (k / 12)).testBit (k % 12) = true) → C_X9_bitter l G E (up3 V 100 0 (k / 12) (nI (yb (k / 12) ||| 2 ^ (k % 12)))) (nI k) (fun r' V2 => K R r' V2) := by
    intro R hR
    refine ok_X9_bitter hE ?_
    unfold vc_X9_bitter
    rw [up3_f (f' := 1018) (by decide), c2, cl (by omega)]
    refine sp_in hE (nb_t hin ⟨ik, ?_⟩)
    rw [up3_f (f' := 1022) (by decide), hb]
    refine ⟨fun z => ⟨ik, ?_⟩, fun z => ⟨ik, ?_⟩⟩
    · rw [bz0] at z
      rw [hR, bz_t z]
      exact hK _ _ _ fin hOf
    · rw [bz0] at z
      rw [hR, bz_f z]
      exact hK _ _ _ fin hOf
  refine ok_X0_makeBitter hE ?_
  unfold vc_X0_makeBitter
  rw [n12 (by omega), cl (by omega), r12 (by omega), sh1 _ (by omega), y1, fa_or]
  refine ⟨i1, fun z => ⟨i1, i1, fun w => absurd rfl w, fun _ => ?_⟩, fun z => ⟨i1, i1, fun _ => ?_, fun w => absurd w (by decide)⟩⟩
  · rw [fa_bit (by omega)] at z
    exact br_f (by decide) (md _ (by rw [bz_t (by rw [z]; decide)]))
  · rw [fa_bit (by omega)] at z
    exact br_t rfl (md _ (by rw [bz_f (by simpa using z)]))
/-! months -/
def cn (t : Nat → Nat) (k : Nat) : Nat → Nat
  | 0 => 0
  | i + 1 => cn t k i + (if t i ≤ k then 1 else 0)
theorem cn_all {t : Nat → Nat} {k : Nat} : ∀ i, (∀ j, j < i → t j ≤ k) → cn t k i = i
  | 0, _ => rfl
  | i + 1, h => by
    unfold cn
    rw [cn_all i (fun j hj => h j (by omega)), if_pos (h i (by omega))]
theorem cn_le (t : Nat → Nat) (k : Nat) : ∀ i, cn t k i ≤ i
  | 0 => Nat.le_refl 0
  | i + 1 => by
    have := cn_le t k i
    unfold cn
    split <;> omega
def IL (V : Vt) (n m : Nat) (D ti : Nat → Nat → Nat) : Prop := (∀ p, p < n → (∀ i, i < D 4 p → V 307 p i = nI (ti p i) ∧ ti p i ≤ m) ∧ ∀ k, k < m → V 1023 0 (1201 * p + k) = nI (cn (ti p) k (D 4 p))) ∧ ∀ p k, n ≤ p → p < 40 → k < 1201 → V 1023 0 (1201 * p + k) = 0
theorem IL.of {V V' : Vt} {n m : Nat} {D D' ti : Nat → Nat → Nat} {S : List Nat} (h : IL V n m D ti) (hO : Of S V V') (h1 : 307 ∉ S) (h2 : 1023 ∉ S) (hD : D' 4 = D 4) : IL V' n m D' ti := by
  unfold IL
  rw [hO 307 h1, hO 1023 h2, hD]
  exact h
theorem bo_as {x y : Int32} {ti : Nat → Nat → Nat} {K : Int32 → Int32 → Vt → Prop} (hE : Sg E) (hI : IP E V n D on sn) (hC : IC V m fr yb) (hL : IL V n m D ti) (hK : ∀ r, K r r V) : C_X8_as l G E V x y (fun r V1 => C_X9_as l G E V1 x y (fun r' V2 => K r r' V2)) := by
  have hn := hI.1.2.1
  obtain ⟨c1, c2, c3, -⟩ := hC
  refine ok_X8_as hE ?_
  unfold vc_X8_as
  refine sp_find hE hI.1 (fun q => ⟨fun _ => ?_, fun t ht => by cases ht⟩) (fun p hp e => ⟨fun q => (by cases q), fun t ht => ?_⟩)
  · refine ok_X9_as hE ?_
    unfold vc_X9_as
    exact sp_isPart hE hI.2.1 (fun _ => br_t rfl (hK _)) (fun p hp e => (no_part hn q hp e).elim)
  · cases ht
    subst e
    have ip : vp_in (nI p) 40 := inI (by omega) (by omega)
    have hl := (hI.1.2.2 p hp).2.1
    obtain ⟨-, a2, -, -, -, -, -, a8, -⟩ := hI.2.2 p hp
    obtain ⟨l1, l2⟩ := hL.1 p hp
    have mbad : ¬ ((0 : Int32) ≤ y ∧ y ≤ nI m) → C_X9_as l G E V (nI p) y (fun r' V2 => K (-1) r' V2) := by
      intro hb
      refine ok_X9_as hE ?_
      unfold vc_X9_as
      exact sp_isPartp hE hI.2.1 hp (br_f (by decide) (by dsimp only; rw [c2]; exact sp_in hE (nb_f (bz_f hb) (hK _))))
    rw [c1]
    refine ⟨hl, fun q => mbad (fun z => lt_nle q z.1), fun q => ⟨fun q2 => ?_, fun q2 => mbad (fun z => q2 z.2)⟩⟩
    obtain ⟨k, hk, rfl⟩ : ∃ k, k ≤ m ∧ y = nI k := nI_of2 (nI_toInt (by omega)) q q2
    have loop : ∀ (j i : Nat), i + j = D 4 p → C_X9_as l G E V (nI p) (nI k) (fun r' V2 => K (nI (cn (ti p) k (D 4 p))) r' V2) → A_X2_laidTill_4 l G E V p (nI k) (nI (cn (ti p) k i)) (nI i) (fun r V1 => C_X9_as l G E V1 (nI p) (nI k) (fun r' V2 => K r r' V2)) := by
      intro j
      induction j with
      | zero =>
        intro i hi hfin
        have hi : i = D 4 p := by omega
        subst hi
        refine ok_X2_laidTill_4 hE hl ?_
        unfold vc_X2_laidTill_4
        rw [a8.1]
        exact br_t (nI_le (Nat.le_refl _) (by omega)) hfin
      | succ j ih =>
        intro i hi hfin
        refine ok_X2_laidTill_4 hE hl ?_
        unfold vc_X2_laidTill_4
        rw [a8.1, cl (by omega), (l1 i (by omega)).1, nI_1, nI_1]
        have ht := (l1 i (by omega)).2
        refine br_f (nI_ge (by omega) (by omega)) (br_f (nI_ge (b := 30) (by omega) (by decide)) ⟨inI (by omega) (by decide), fun z => ?_, fun z => ?_⟩)
        · have z := (nI_ltI (by omega) (by omega)).mp z
          have := ih (i + 1) (by omega) hfin
          unfold cn at this
          rw [if_neg (by omega)] at this
          exact this
        · have z := (nI_leI (by omega) (by omega)).mp (nlt_le z)
          have := ih (i + 1) (by omega) hfin
          unfold cn at this
          rw [if_pos z] at this
          exact this
    refine ok_X2_laidTill hE hl ?_
    unfold vc_X2_laidTill
    refine loop (D 4 p) 0 (by omega) ?_
    refine ok_X9_as hE ?_
    unfold vc_X9_as
    refine sp_isPartp hE hI.2.1 hp (br_f (by decide) ?_)
    dsimp only
    rw [c2]
    refine sp_in hE (nb_t (by rw [bz_t ⟨nI_pos' (by omega), q2⟩]; decide) ?_)
    rw [c2]
    refine ⟨fun z => ?_, fun z => ⟨ip, ?_⟩⟩
    · have hkm : k < m := by
        rcases Nat.lt_or_ge k m with w | w
        · exact w
        · exact absurd (by rw [show k = m by omega]) z
      rw [li 1201, pk_mul, nI_add, cl (by omega), l2 k hkm]
      exact ⟨inI (by omega) (by decide), hK _⟩
    · have z := (nI_eq (by omega) (by omega)).mp z
      subst z
      rw [cl (by omega), a8.2.1, cn_all (D 4 p) (fun j hj => (l1 j hj).2)]
      exact hK _
end Cal

/-! bear -/
theorem rsum_zero (sh : Nat → Int32) : ∀ m, rsum 0 sh m = 0
  | 0 => rfl
  | m + 1 => by
    unfold rsum
    rw [rsum_zero sh m, Int32.zero_mul]
    decide
theorem por_zero (sh : Nat → Int32) (s i : Nat) : por 0 sh s i = 0 := by
  unfold por
  split
  · exact rsum_zero sh _
  · rw [Int32.zero_mul]
    decide
theorem passd_zero (sh : Nat → Int32) (f : Nat → Nat) (s : Nat) (L : Nat → Int32) (q : Nat) : ∀ i, passd 0 sh f s L i q = L q
  | 0 => rfl
  | i + 1 => by
    unfold passd
    have ih : ∀ a, passd 0 sh f s L i a = L a := fun a => passd_zero sh f s L a i
    by_cases e : q = f i
    · subst e
      rw [pk_us, por_zero, Int32.add_zero]
      exact ih _
    · rw [pk_un e]
      exact ih q
/-- what is not begun bears nothing -/
theorem wg_zero {pv : Int32 → Int32 → Int32} {lw : Nat → Int32} {ce ar : Nat → Bool} {sc : Nat → Nat} {on : Nat → Nat → Nat} {sh : Nat → Nat → Int32} {th : Nat → Int32} {n : Nat} {z : Nat → Prop} (h1 : ∀ p, p < n → z p → lw p = 0) (h2 : ∀ p, p < n → ¬ z p → ∀ i, i < sc p → ¬ z (on p i)) :
    ∀ m, m ≤ n → ∀ q, q < n → z q → (wg pv lw ce ar sc on sh th n m).1 q = 0 := by
  intro m
  induction m with
  | zero => exact fun _ q hq hz => h1 q hq hz
  | succ m ih =>
    intro hm q hq hz
    have ih := ih (by omega)
    unfold wg
    dsimp only
    split
    · exact ih q hq hz
    · dsimp only
      by_cases c : z (n - (m + 1))
      · rw [ih _ (by omega) c, passd_zero]
        exact ih q hq hz
      · rw [passd_ne _ (fun k hk e => h2 _ (by omega) c k hk (by rw [e]; exact hz))]
        exact ih q hq hz
/-- other supports of what is not begun change nothing -/
theorem wg_sup {pv : Int32 → Int32 → Int32} {lw : Nat → Int32} {ce ar : Nat → Bool} {sc sc' : Nat → Nat} {on on' : Nat → Nat → Nat} {sh sh' : Nat → Nat → Int32} {th : Nat → Int32} {n p0 : Nat} {z : Nat → Prop} (h1 : ∀ p, p < n → z p → lw p = 0) (h2 : ∀ p, p < n → ¬ z p → ∀ i, i < sc p → ¬ z (on p i)) (h3 : ∀ p, p < n → p ≠ p0 → sc p = sc' p ∧ on p = on' p ∧ sh p = sh' p) (h4 : z p0) (h5 : ar p0 = false) (ho : ∀ p, p < n → (∀ i, i < sc p → on p i < p) ∧ (ar p = true → 2 ≤ sc p)) :
    ∀ m, m ≤ n → ∀ q, q < n → (wg pv lw ce ar sc' on' sh' th n m).1 q = (wg pv lw ce ar sc on sh th n m).1 q ∧ (wg pv lw ce ar sc' on' sh' th n m).2 q = (wg pv lw ce ar sc on sh th n m).2 q := by
  intro m
  induction m with
  | zero => exact fun _ q hq => ⟨rfl, rfl⟩
  | succ m ih =>
    intro hm q hq
    have ih := ih (by omega)
    have hz := wg_zero (pv := pv) (ce := ce) (ar := ar) (sh := sh) (th := th) h1 h2 m (by omega)
    unfold wg
    dsimp only
    by_cases c : ce (n - (m + 1)) = true
    · rw [if_pos c, if_pos c]
      exact ih q hq
    · rw [if_neg c, if_neg c]
      dsimp only
      have ep := (ih (n - (m + 1)) (by omega)).1
      rw [ep]
      by_cases e : n - (m + 1) = p0
      · rw [hz _ (by omega) (by rw [e]; exact h4), passd_zero, passd_zero, e, h5]
        exact ih q hq
      · obtain ⟨s1, s2, s3⟩ := h3 _ (by omega) e
        obtain ⟨o1, o2⟩ := ho (n - (m + 1)) (by omega)
        rw [← s1, ← s2, ← s3]
        constructor
        · exact passd_eqL (r := n) (fun b hb => (ih b hb).1) _ (fun k hk => by have := o1 k hk; omega) q hq
        · by_cases d : ar (n - (m + 1)) = true
          · rw [if_pos d, if_pos d]
            have s2 := o2 d
            have b0 := o1 0 (by omega)
            have b1 := o1 1 (by omega)
            have g0 := (ih (on (n - (m + 1)) 0) (by omega)).2
            have g1 := (ih (on (n - (m + 1)) 1) (by omega)).2
            have gq := (ih q hq).2
            unfold upd
            rw [g0, g1, gq]
          · rw [if_neg d, if_neg d]
            exact (ih q hq).2
def remI (x : Int32) : Int32 := x - x / 100 * 100
def isF (r : Nat → Int32) (f : Nat) : Prop := f ≤ 4 ∧ (∀ k, k < f → ¬ r k = -1) ∧ (f < 4 → r f = -1)
theorem isF_one {r : Nat → Int32} {f g : Nat} (h1 : isF r f) (h2 : isF r g) : f = g := by
  rcases Nat.lt_trichotomy f g with z | z | z
  · exact absurd (h1.2.2 (by have := h2.1; omega)) (h2.2.1 f z)
  · exact z
  · exact absurd (h2.2.2 (by have := h1.1; omega)) (h1.2.1 g z)
def sumr (r : Nat → Int32) : Nat → Int32
  | 0 => 0
  | i + 1 => sumr r i + remI (r i)
def gd (r : Nat → Int32) (p i : Nat) : Prop := ¬ r i < 0 ∧ ¬ nI p ≤ r i / 100 ∧ ¬ remI (r i) < 1 ∧ ¬ 12 < remI (r i)
def okR (r : Nat → Int32) (p f : Nat) : Prop := (∀ k, f ≤ k → k < 4 → r k = -1) ∧ (∀ i, i < f → gd r p i ∧ ∀ k, k < i → ¬ r k / 100 = r i / 100) ∧ (f = 0 ∨ sumr r f = 12)
section Bear
variable {l : Launch} {G : Gt} {E : Et} {V : Vt} {n ec : Nat} {D on sn : Nat → Nat → Nat} {es : Nat → Nat} {r : Nat → Int32}
theorem sp_supFor {p : Nat} {x : Int32} {K : Int32 → Vt → Prop} (hE : Sg E) (h1 : (¬ x < 0 ∧ ¬ nI p ≤ x / 100 ∧ ¬ remI x < 1 ∧ ¬ 12 < remI x) → K 1 V) (h0 : ¬ (¬ x < 0 ∧ ¬ nI p ≤ x / 100 ∧ ¬ remI x < 1 ∧ ¬ 12 < remI x) → K 0 V) : C_X3_isSupportFor l G E V (nI p) x K := by
  refine ok_X3_isSupportFor hE ?_
  unfold vc_X3_isSupportFor
  exact ⟨fun q => h0 (fun z => z.1 q), fun q => ⟨fun q2 => h0 (fun z => z.2.1 q2), fun q2 => ⟨fun q3 => h0 (fun z => z.2.2.1 q3), fun q3 => ⟨fun q4 => h0 (fun z => z.2.2.2 q4), fun q4 => h1 ⟨q, q2, q3, q4⟩⟩⟩⟩⟩
theorem sp_before {i : Nat} {K : Int32 → Vt → Prop} (hE : Sg E) (hi : i < 4) (hr : ∀ k, k < 4 → V 404 0 k = r k) (h0 : (∀ k, k < i → ¬ r k / 100 = r i / 100) → K 0 V) (h1 : ¬ (∀ k, k < i → ¬ r k / 100 = r i / 100) → K 1 V) : C_X3_isReadBefore l G E V (nI i) K := by
  have loop : ∀ (m k : Nat), k + m = i → (∀ j, j < k → ¬ r j / 100 = r i / 100) → A_X3_isReadBefore_2 l G E V (nI i) (nI k) K := by
    intro m
    induction m with
    | zero =>
      intro k hk hb
      have hk : k = i := by omega
      subst hk
      refine ok_X3_isReadBefore_2 hE ?_
      unfold vc_X3_isReadBefore_2
      exact br_t (nI_le (Nat.le_refl _) (by omega)) (h0 hb)
    | succ m ih =>
      intro k hk hb
      refine ok_X3_isReadBefore_2 hE ?_
      unfold vc_X3_isReadBefore_2
      rw [cl (by omega), cl (by omega), hr k (by omega), hr i hi, nI_1]
      refine br_f (nI_ge (by omega) (by omega)) ⟨inI (by omega) (by decide), inI (by omega) (by decide), fun z => ih (k + 1) (by omega) (fun j hj => ?_), fun z => h1 (fun y => y k (by omega) z)⟩
      by_cases e : j = k
      · subst e
        exact z
      · exact hb j (by omega)
  refine ok_X3_isReadBefore hE ?_
  unfold vc_X3_isReadBefore
  exact loop i 0 (by omega) (fun j hj => by omega)
theorem readS {p : Nat} {K : Int32 → Vt → Prop} (hE : Sg E) (hr : ∀ k, k < 4 → V 404 0 k = r k) (h : ∀ f, isF r f → (okR r p f → K (nI f) V) ∧ (¬ okR r p f → K (-1) V)) : A_X3_readSupports_33 l G E V (nI p) 0 K := by
  -- the third loop
  have l3 : ∀ f, isF r f → (∀ k, f ≤ k → k < 4 → r k = -1) → ∀ (m i : Nat), i + m = f → (∀ j, j < i → gd r p j ∧ ∀ k, k < j → ¬ r k / 100 = r j / 100) → A_X3_readSupports_91 l G E V (nI p) (nI f) (sumr r i) (nI i) K := by
    intro f hf htl m
    obtain ⟨k1, k2⟩ := h f hf
    have hf4 := hf.1
    induction m with
    | zero =>
      intro i hi hg
      have hi : i = f := by omega
      subst hi
      refine ok_X3_readSupports_91 hE ?_
      unfold vc_X3_readSupports_91
      refine br_t (nI_le (Nat.le_refl _) (by omega)) ⟨fun z => ?_, fun z => ⟨fun z2 => ?_, fun z2 => ?_⟩⟩
      · exact k1 ⟨htl, hg, Or.inl ((nI_eq0 (by omega)).mp z)⟩
      · exact k2 (fun y => by
          rcases y.2.2 with y | y
          · exact z (by rw [y]; rfl)
          · exact z2 y)
      · exact k1 ⟨htl, hg, Or.inr z2⟩
    | succ m ih =>
      intro i hi hg
      refine ok_X3_readSupports_91 hE ?_
      unfold vc_X3_readSupports_91
      rw [cl (by omega), hr i (by omega)]
      refine br_f (nI_ge (by omega) (by omega)) ⟨inI (by omega) (by decide), ?_⟩
      refine sp_supFor hE (fun g => br_f (by decide) ?_) (fun g => br_t rfl (k2 (fun y => g (y.2.1 i (by omega)).1)))
      refine sp_before hE (by omega) hr (fun b => br_t rfl ⟨inI (by omega) (by decide), ?_⟩) (fun b => br_f (by decide) (k2 (fun y => b (y.2.1 i (by omega)).2)))
      rw [hr i (by omega), nI_1]
      refine ih (i + 1) (by omega) (fun j hj => ?_)
      by_cases e : j = i
      · subst e
        exact ⟨g, b⟩
      · exact hg j (by omega)
  -- the second loop
  have l2 : ∀ f, isF r f → ∀ (m i : Nat), i + m = 4 → f ≤ i → (∀ k, f ≤ k → k < i → r k = -1) → A_X3_readSupports_60 l G E V (nI p) (nI f) (nI i) K := by
    intro f hf m
    have hf4 := hf.1
    induction m with
    | zero =>
      intro i hi hfi hb
      have hi : i = 4 := by omega
      subst hi
      refine ok_X3_readSupports_60 hE ?_
      unfold vc_X3_readSupports_60
      exact br_t (by decide) (l3 f hf hb f 0 (by omega) (fun j hj => by omega))
    | succ m ih =>
      intro i hi hfi hb
      refine ok_X3_readSupports_60 hE ?_
      unfold vc_X3_readSupports_60
      rw [cl (by omega), hr i (by omega), nI_1]
      refine br_f (nI_ge (b := 4) (by omega) (by decide)) ⟨inI (by omega) (by decide), fun z => ih (i + 1) (by omega) (by omega) (fun k a b => ?_), fun z => (h f hf).2 (fun y => z (y.1 i hfi (by omega)))⟩
      by_cases e : k = i
      · subst e
        exact z
      · exact hb k a (by omega)
  -- the first loop
  have l1 : ∀ (m i : Nat), i + m = 4 → (∀ k, k < i → ¬ r k = -1) → A_X3_readSupports_33 l G E V (nI p) (nI i) K := by
    intro m
    induction m with
    | zero =>
      intro i hi hb
      have hi : i = 4 := by omega
      subst hi
      refine ok_X3_readSupports_33 hE ?_
      unfold vc_X3_readSupports_33
      exact br_t (by decide) (l2 4 ⟨Nat.le_refl _, hb, fun z => by omega⟩ 0 4 rfl (Nat.le_refl _) (fun k a b => by omega))
    | succ m ih =>
      intro i hi hb
      refine ok_X3_readSupports_33 hE ?_
      unfold vc_X3_readSupports_33
      rw [cl (by omega), hr i (by omega), nI_1]
      refine br_f (nI_ge (b := 4) (by omega) (by decide)) ⟨inI (by omega) (by decide), fun z => l2 i ⟨by omega, hb, fun _ => z⟩ (4 - i) i (by omega) (Nat.le_refl _) (fun k a b => by omega), fun z => ih (i + 1) (by omega) (fun k hk => ?_)⟩
      by_cases e : k = i
      · subst e
        exact z
      · exact hb k (by omega)
  exact l1 4 0 rfl (fun k hk => by omega)
def r4 (a b c d : Int32) (i : Nat) : Int32 := if i = 0 then a else if i = 1 then b else if i = 2 then c else d
theorem r4_row {f : Nat} {a b c d : Int32} : ∀ k, k < 4 → up3 (up3 (up3 (up3 V f 0 (0 : Int32).toNatClampNeg a) f 0 (1 : Int32).toNatClampNeg b) f 0 (2 : Int32).toNatClampNeg c) f 0 (3 : Int32).toNatClampNeg d f 0 k = r4 a b c d k := by
  intro k hk
  have : k = 0 ∨ k = 1 ∨ k = 2 ∨ k = 3 := by omega
  rw [cl0, cl1, cl2, cl3]
  rcases this with rfl | rfl | rfl | rfl <;> simp [up3, r4]
theorem sp_readS {p : Nat} {a b c d : Int32} {K : Int32 → Vt → Prop} (hE : Sg E) (h : ∀ V' f, Of [404] V V' → (∀ k, k < 4 → V' 404 0 k = r4 a b c d k) → isF (r4 a b c d) f → (okR (r4 a b c d) p f → K (nI f) V') ∧ (¬ okR (r4 a b c d) p f → K (-1) V')) : C_X3_readSupports l G E V (nI p) a b c d K := by
  refine ok_X3_readSupports hE ?_
  unfold vc_X3_readSupports
  refine ⟨inI (n := 0) (by decide) (by decide), inI (n := 1) (by decide) (by decide), inI (n := 2) (by decide) (by decide), inI (n := 3) (by decide) (by decide), readS hE r4_row (fun f hf => h _ f ?_ r4_row hf)⟩
  exact (((Of.up1 (by decide)).up (by decide)).up (by decide)).up (by decide)
/-- the model's reading -/
theorem mread {p : Nat} {K : Int32 → Vt → Prop} (hE : Sg E) (hp : p < 40) (hr : ∀ k, k < 4 → V 1027 0 k = r k) (h : ∀ f, isF r f → ((okR r p f ∧ ¬ (V 1002 0 p = 1 ∧ f < 2)) → ((V 1012 0 p ≤ 0 → ((¬ V 1024 0 0 = 60 → A_X9_bear_282 l G E (up3 V 1015 0 p 0) (nI p) (nI f) 0 K) ∧ (V 1024 0 0 = 60 → K (-3) V))) ∧ (¬ V 1012 0 p ≤ 0 → K (-2) V))) ∧ (¬ (okR r p f ∧ ¬ (V 1002 0 p = 1 ∧ f < 2)) → K (-1) V)) : A_X9_bear_43 l G E V (nI p) 0 K := by
  have ip : vp_in (nI p) 40 := inI hp (by decide)
  have fin : ∀ f, isF r f → (∀ k, f ≤ k → k < 4 → r k = -1) → (∀ i, i < f → gd r p i ∧ ∀ k, k < i → ¬ r k / 100 = r i / 100) → A_X9_bear_72 l G E V (nI p) (nI f) (sumr r f) (nI 4) K := by
    intro f hf htl hg
    obtain ⟨k1, k2⟩ := h f hf
    have hf4 := hf.1
    refine ok_X9_bear_72 hE ?_
    unfold vc_X9_bear_72
    rw [cl (by omega)]
    refine br_t (by decide) ⟨fun z => ⟨fun z2 => ?_, fun z2 => ⟨ip, fun z3 => ?_, fun z3 => ⟨fun z4 => ?_, fun z4 => ?_⟩⟩⟩, fun z => ⟨ip, fun z3 => ?_, fun z3 => ?_⟩⟩
    · exact k2 (fun y => by
        rcases y.1.2.2 with y | y
        · exact z (by rw [y]; rfl)
        · exact z2 y)
    · have kk := k1 ⟨⟨htl, hg, Or.inr z2⟩, fun y => z3 y.1⟩
      exact ⟨ip, fun q => ⟨fun q2 => ⟨ip, (kk.1 q).1 q2⟩, (kk.1 q).2⟩, kk.2⟩
    · have kk := k1 ⟨⟨htl, hg, Or.inr z2⟩, fun y => by
        have := (nI_leI (a := 2) (by decide) (by omega)).mp z4
        omega⟩
      exact ⟨ip, fun q => ⟨fun q2 => ⟨ip, (kk.1 q).1 q2⟩, (kk.1 q).2⟩, kk.2⟩
    · exact k2 (fun y => y.2 ⟨z3, by
        rcases Nat.lt_or_ge f 2 with w | w
        · exact w
        · exact absurd (nI_le (a := 2) w (by omega)) z4⟩)
    · have z := (nI_eq0 (by omega)).mp z
      have kk := k1 ⟨⟨htl, hg, Or.inl z⟩, fun y => z3 y.1⟩
      exact ⟨ip, fun q => ⟨fun q2 => ⟨ip, (kk.1 q).1 q2⟩, (kk.1 q).2⟩, kk.2⟩
    · have z := (nI_eq0 (by omega)).mp z
      exact k2 (fun y => y.2 ⟨z3, by omega⟩)
  have l2 : ∀ f, isF r f → ∀ (m i : Nat), i + m = 4 → (∀ k, f ≤ k → k < i → r k = -1) → (∀ j, j < i → j < f → gd r p j ∧ ∀ k, k < j → ¬ r k / 100 = r j / 100) → A_X9_bear_72 l G E V (nI p) (nI f) (sumr r (if i < f then i else f)) (nI i) K := by
    intro f hf m
    obtain ⟨k1, k2⟩ := h f hf
    have hf4 := hf.1
    induction m with
    | zero =>
      intro i hi hb hg
      have hi : i = 4 := by omega
      subst hi
      rw [if_neg (by omega)]
      exact fin f hf hb (fun j hj => hg j (by omega) hj)
    | succ m ih =>
      intro i hi hb hg
      refine ok_X9_bear_72 hE ?_
      unfold vc_X9_bear_72
      have i4 : vp_in (nI i) 4 := inI (by omega) (by decide)
      rw [cl (by omega), cl (by omega), hr i (by omega)]
      refine br_f (nI_ge (b := 4) (by omega) (by decide)) ⟨fun z => ?_, fun z => ?_⟩
      · have z := (nI_ltI (by omega) (by omega)).mp z
        rw [if_pos z]
        refine ⟨i4, fun q => k2 (fun y => (y.1.2.1 i z).1.1 q), fun q => ⟨i4, fun q2 => k2 (fun y => (y.1.2.1 i z).1.2.1 q2), fun q2 => ⟨i4, ?_⟩⟩⟩
        refine sp_in hE ⟨fun q3 => ?_, fun q3 => ?_⟩
        · rw [bz0] at q3
          have q3 := Decidable.not_not.mp q3
          refine ⟨i4, ?_⟩
          rw [hr i (by omega)]
          have hgi : gd r p i := ⟨q, q2, le_nlt q3.1, le_nlt q3.2⟩
          have l3 : ∀ (m' k : Nat), k + m' = i → (∀ j, j < k → ¬ r j / 100 = r i / 100) → A_X9_bear_161 l G E V (nI p) (nI f) (sumr r (i + 1)) (nI i) (nI k) K := by
            intro m'
            induction m' with
            | zero =>
              intro k hk hd
              have hk : k = i := by omega
              subst hk
              refine ok_X9_bear_161 hE ?_
              unfold vc_X9_bear_161
              rw [nI_1]
              refine br_t (nI_le (Nat.le_refl _) (by omega)) ?_
              have := ih (k + 1) (by omega) (fun a b c => by omega) (fun j h1 h2 => by
                by_cases e : j = k
                · subst e
                  exact ⟨hgi, hd⟩
                · exact hg j (by omega) h2)
              rw [show (if k + 1 < f then k + 1 else f) = k + 1 by split <;> omega] at this
              exact this
            | succ m' ih' =>
              intro k hk hd
              refine ok_X9_bear_161 hE ?_
              unfold vc_X9_bear_161
              rw [cl (by omega), cl (by omega), hr k (by omega), hr i (by omega), nI_1, nI_1]
              refine br_f (nI_ge (by omega) (by omega)) ⟨inI (by omega) (by decide), i4, fun w => ih' (k + 1) (by omega) (fun j hj => ?_), fun w => k2 (fun y => (y.1.2.1 i z).2 k (by omega) w)⟩
              by_cases e : j = k
              · subst e
                exact w
              · exact hd j (by omega)
          exact l3 i 0 (by omega) (fun j hj => by omega)
        · rw [bz0] at q3
          exact k2 (fun y => q3 ⟨nlt_le (y.1.2.1 i z).1.2.2.1, nlt_le (y.1.2.1 i z).1.2.2.2⟩)
      · have z : f ≤ i := by
          rcases Nat.lt_or_ge i f with w | w
          · exact absurd (nI_lt w (by omega)) z
          · exact w
        rw [nI_1]
        refine ⟨i4, fun q => ?_, fun q => k2 (fun y => q (y.1.1 i z (by omega)))⟩
        have := ih (i + 1) (by omega) (fun k a b => by
          by_cases e : k = i
          · subst e
            exact q
          · exact hb k a (by omega)) (fun j h1 h2 => hg j (by omega) h2)
        rw [show (if i + 1 < f then i + 1 else f) = (if i < f then i else f) by split <;> split <;> omega] at this
        exact this
  have l1 : ∀ (m i : Nat), i + m = 4 → (∀ k, k < i → ¬ r k = -1) → A_X9_bear_43 l G E V (nI p) (nI i) K := by
    intro m
    induction m with
    | zero =>
      intro i hi hb
      have hi : i = 4 := by omega
      subst hi
      refine ok_X9_bear_43 hE ?_
      unfold vc_X9_bear_43
      exact br_t (by decide) (l2 4 ⟨Nat.le_refl _, hb, fun z => by omega⟩ 4 0 rfl (fun k a b => by omega) (fun j a b => by omega))
    | succ m ih =>
      intro i hi hb
      refine ok_X9_bear_43 hE ?_
      unfold vc_X9_bear_43
      rw [cl (by omega), hr i (by omega), nI_1]
      refine br_f (nI_ge (b := 4) (by omega) (by decide)) ⟨inI (by omega) (by decide), fun z => ?_, fun z => ih (i + 1) (by omega) (fun k hk => ?_)⟩
      · have := l2 i ⟨by omega, hb, fun _ => z⟩ 4 0 rfl (fun k a b => by omega) (fun j a b => by omega)
        rw [show (if 0 < i then 0 else i) = 0 by split <;> omega] at this
        exact this
      · by_cases e : k = i
        · subst e
          exact z
        · exact hb k (by omega)
  exact l1 4 0 rfl (fun k hk => by omega)
end Bear

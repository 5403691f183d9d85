/-! bear: the new supports -/
section Bear2
variable {l : Launch} {G : Gt} {E : Et} {V : Vt} {n ec : Nat} {D on sn : Nat → Nat → Nat} {es : Nat → Nat} {r : Nat → Int32}
theorem nI_nn {a : Nat} (h : a < 2 ^ 31) : ¬ nI a < (0 : Int32) := by
  rw [show (0 : Int32) = nI 0 from rfl, nI_ltI h (by decide)]
  omega
/-- standOn looks at its numbers; within the bounds it writes -/
theorem sp_stand {p i a : Nat} {x y : Int32} {K : Vt → Prop} (hE : Sg E) (hl : eL E 2 p) (hi : i < 4) (hx : x = nI a) (ha : a < 40) (h : K (up3 (up3 V 305 p i x) 306 p i y)) : C_X2_standOn l G E V p (nI i) x y K := by
  refine ok_X2_standOn hE hl ?_
  unfold vc_X2_standOn
  rw [cl (by omega)]
  have i4 : vp_in (nI i) 4 := inI (by omega) (by decide)
  refine br_f (nI_nn (by omega)) (br_f (nI_ge (b := 4) (by omega) (by decide)) (br_f ?_ (br_f ?_ ⟨i4, i4, h⟩)))
  · rw [hx]
    exact nI_nn (by omega)
  · rw [hx]
    exact nI_ge (b := 40) ha (by decide)
theorem sp_setS {p f : Nat} {K : Vt → Prop} (hE : Sg E) (hl : eL E 2 p) (hf : f ≤ 4) (hr : ∀ k, k < 4 → V 404 0 k = r k) (hd : ∀ k, k < f → ∃ o : Nat, r k / 100 = nI o ∧ o < 40) (h : ∀ V', Of [305, 306, 308] V V' → (∀ i, i < f → V' 305 p i = r i / 100 ∧ V' 306 p i = remI (r i)) → (∀ q i, q ≠ p → V' 305 q i = V 305 q i ∧ V' 306 q i = V 306 q i ∧ V' 308 q i = V 308 q i) → V' 308 p 0 = nI f → K V') : C_X3_setSupports l G E V p (nI f) K := by
  have loop : ∀ (m i : Nat) (V1 : Vt), i + m = f → Of [305, 306, 308] V V1 → (∀ j, j < i → V1 305 p j = r j / 100 ∧ V1 306 p j = remI (r j)) → (∀ q j, q ≠ p → V1 305 q j = V 305 q j ∧ V1 306 q j = V 306 q j ∧ V1 308 q j = V 308 q j) → A_X3_setSupports_2 l G E V1 p (nI f) (nI i) K := by
    intro m
    induction m with
    | zero =>
      intro i V1 hi hO h1 h2
      have hi : i = f := by omega
      subst hi
      refine ok_X3_setSupports_2 hE hl ?_
      unfold vc_X3_setSupports_2
      refine br_t (nI_le (Nat.le_refl _) (by omega)) (h _ (hO.up (by decide)) (fun j hj => ?_) (fun q j hq => ?_) (up3_s _ _ _ _ _))
      · rw [up3_f (by decide), up3_f (by decide)]
        exact h1 j hj
      · rw [up3_f (by decide), up3_f (by decide), up3_i hq]
        exact h2 q j hq
    | succ m ih =>
      intro i V1 hi hO h1 h2
      refine ok_X3_setSupports_2 hE hl ?_
      unfold vc_X3_setSupports_2
      have i4 : vp_in (nI i) 4 := inI (by omega) (by decide)
      rw [cl (by omega), hO 404 (by decide), hr i (by omega), nI_1]
      refine br_f (nI_ge (by omega) (by omega)) (br_f (nI_ge (b := 4) (by omega) (by decide)) ⟨i4, i4, ?_⟩)
      obtain ⟨o, ho, ho4⟩ := hd i (by omega)
      refine sp_stand hE hl (by omega) ho ho4 (ih (i + 1) _ (by omega) ((hO.up (by decide)).up (by decide)) (fun j hj => ?_) (fun q j hq => ?_))
      · by_cases e : j = i
        · subst e
          rw [up3_f (f' := 305) (by decide), up3_s, up3_s]
          exact ⟨rfl, rfl⟩
        · rw [up3_j e, up3_j e, up3_j e, up3_j e]
          exact h1 j (by omega)
      · rw [up3_i hq, up3_i hq, up3_i hq, up3_i hq, up3_i hq, up3_i hq]
        exact h2 q j hq
  refine ok_X3_setSupports hE hl ?_
  unfold vc_X3_setSupports
  exact loop f 0 V (by omega) (Of.rf _ _) (fun j hj => by omega) (fun q j hq => ⟨rfl, rfl, rfl⟩)
theorem mset {p f : Nat} {K : Int32 → Vt → Prop} {V0 : Vt} (hE : Sg E) (hp : p < 40) (hf : f ≤ 4) (hr : ∀ k, k < 4 → V0 1027 0 k = r k) (h : ∀ V', Of [1015, 1016, 1017] V0 V' → (∀ i, i < f → V' 1016 0 (4 * p + i) = r i / 100 ∧ V' 1017 0 (4 * p + i) = remI (r i)) → (∀ k, (k < 4 * p ∨ 4 * p + 4 ≤ k) → V' 1016 0 k = V0 1016 0 k ∧ V' 1017 0 k = V0 1017 0 k) → (∀ q, q ≠ p → V' 1015 0 q = V0 1015 0 q) → V' 1015 0 p = nI f → C_X9_edition l G E V' (fun V2 => K (nI f) V2)) : A_X9_bear_282 l G E (up3 V0 1015 0 p 0) (nI p) (nI f) 0 K := by
  have loop : ∀ (m i : Nat) (V1 : Vt), i + m = f → Of [1015, 1016, 1017] V0 V1 → (∀ j, j < i → V1 1016 0 (4 * p + j) = r j / 100 ∧ V1 1017 0 (4 * p + j) = remI (r j)) → (∀ k, (k < 4 * p ∨ 4 * p + 4 ≤ k) → V1 1016 0 k = V0 1016 0 k ∧ V1 1017 0 k = V0 1017 0 k) → (∀ q, q ≠ p → V1 1015 0 q = V0 1015 0 q) → V1 1015 0 p = nI i → A_X9_bear_282 l G E V1 (nI p) (nI f) (nI i) K := by
    intro m
    induction m with
    | zero =>
      intro i V1 hi hO h1 h2 h3 h4
      have hi : i = f := by omega
      subst hi
      refine ok_X9_bear_282 hE ?_
      unfold vc_X9_bear_282
      exact br_t (nI_le (Nat.le_refl _) (by omega)) (h V1 hO h1 h2 h3 h4)
    | succ m ih =>
      intro i V1 hi hO h1 h2 h3 h4
      refine ok_X9_bear_282 hE ?_
      unfold vc_X9_bear_282
      have i4 : vp_in (nI i) 4 := inI (by omega) (by decide)
      rw [cl (by omega), hO 1027 (by decide), hr i (by omega), nI_1]
      refine br_f (nI_ge (by omega) (by omega)) ⟨i4, i4, ?_⟩
      refine ok_X9_support0 hE ?_
      unfold vc_X9_support0
      rw [n4, cl (by omega), cl (by omega), nI_1]
      refine ⟨inI (by omega) (by decide), inI (by omega) (by decide), inI hp (by decide), ih (i + 1) _ (by omega) (((hO.up (by decide)).up (by decide)).up (by decide)) (fun j hj => ?_) (fun k hk => ?_) (fun q hq => ?_) (up3_s _ _ _ _ _)⟩
      · rw [up3_f (f' := 1016) (by decide), up3_f (f' := 1017) (by decide), up3_f (f' := 1016) (by decide)]
        by_cases e : j = i
        · subst e
          rw [up3_s, up3_s]
          exact ⟨rfl, rfl⟩
        · rw [up3_j (by omega), up3_j (by omega), up3_f (f' := 1017) (by decide)]
          exact h1 j (by omega)
      · rw [up3_f (f' := 1016) (by decide), up3_f (f' := 1017) (by decide), up3_f (f' := 1016) (by decide), up3_j (by omega), up3_j (by omega), up3_f (f' := 1017) (by decide)]
        exact h2 k hk
      · rw [up3_j hq, up3_f (f' := 1015) (by decide), up3_f (f' := 1015) (by decide)]
        exact h3 q hq
  refine loop f 0 _ (by omega) (Of.up1 (by decide)) (fun j hj => by omega) (fun k _ => ?_) (fun q hq => ?_) (up3_s _ _ _ _ _)
  · rw [up3_f (by decide), up3_f (by decide)]
    exact ⟨rfl, rfl⟩
  · rw [up3_j hq]
/-- numbers out of what was read -/
theorem okR_nat {p f : Nat} (hp : p < 40) (hf : f ≤ 4) (h : okR r p f) : ∃ o s : Nat → Nat, (∀ i, i < f → r i / 100 = nI (o i) ∧ remI (r i) = nI (s i) ∧ o i < p ∧ 1 ≤ s i ∧ s i ≤ 12) ∧ (0 < f → sm s f = 12) := by
  have h1 : ∀ i, ∃ k : Nat, i < f → (k < 2 ^ 31 ∧ r i = nI k) := fun i => by
    by_cases c : i < f
    · obtain ⟨k, a, b⟩ := nI_of (h.2.1 i c).1.1
      exact ⟨k, fun _ => ⟨a, b⟩⟩
    · exact ⟨0, fun z => absurd z c⟩
  obtain ⟨k, hk⟩ := Classical.axiomOfChoice h1
  have e1 : ∀ i, i < f → r i / 100 = nI (k i / 100) := fun i hi => by
    rw [(hk i hi).2, li 100, pk_div (hk i hi).1 (by decide) (by decide)]
  have e2 : ∀ i, i < f → remI (r i) = nI (k i % 100) := fun i hi => by
    unfold remI
    rw [(hk i hi).2, li 100, pk_rem (hk i hi).1 (by decide) (by decide)]
  have e3 : ∀ i, i < f → k i / 100 < p ∧ 1 ≤ k i % 100 ∧ k i % 100 ≤ 12 := fun i hi => by
    obtain ⟨⟨g1, g2, g3, g4⟩, -⟩ := h.2.1 i hi
    have hb := (hk i hi).1
    rw [e1 i hi, nI_leI (by omega) (by omega)] at g2
    rw [e2 i hi] at g3 g4
    rw [show (1 : Int32) = nI 1 from rfl, nI_ltI (by omega) (by decide)] at g3
    rw [show (12 : Int32) = nI 12 from rfl, nI_ltI (by decide) (by omega)] at g4
    omega
  refine ⟨fun i => k i / 100, fun i => k i % 100, fun i hi => ⟨e1 i hi, e2 i hi, (e3 i hi).1, (e3 i hi).2.1, (e3 i hi).2.2⟩, fun hf0 => ?_⟩
  have e4 : ∀ i, i ≤ f → sumr r i = nI (sm (fun i => k i % 100) i) := by
    intro i
    induction i with
    | zero => exact fun _ => rfl
    | succ i ih =>
      intro hi
      unfold sumr
      rw [ih (by omega), e2 i (by omega), nI_add]
      rfl
  have e5 := sm_bound (f := fun i => k i % 100) (c := 12) f (fun i hi => (e3 i hi).2.2)
  rcases h.2.2 with z | z
  · omega
  · rw [e4 f (Nat.le_refl f), show (12 : Int32) = nI 12 from rfl] at z
    exact (nI_eq (by have : f * 12 ≤ 4 * 12 := Nat.mul_le_mul_right _ hf; omega) (by decide)).mp z
def upF (g : Nat → Nat → Nat) (p : Nat) (o : Nat → Nat) : Nat → Nat → Nat := fun q => if q = p then o else g q
theorem upF_s (g : Nat → Nat → Nat) (p : Nat) (o : Nat → Nat) : upF g p o p = o := if_pos rfl
theorem upF_n {g : Nat → Nat → Nat} {p q : Nat} {o : Nat → Nat} (h : q ≠ p) : upF g p o q = g q := if_neg h
theorem IP.bear {V' : Vt} {p f : Nat} {o s : Nat → Nat} (h : IP E V n D on sn) (hp : p < n) (hf : f ≤ 4) (h0 : D 4 p = 0) (hk : V 300 p 0 = 1 → 2 ≤ f) (ho : ∀ i, i < f → o i < p ∧ 1 ≤ s i ∧ s i ≤ 12) (h12 : 0 < f → sm s f = 12)
    (hO : ∀ g, g ∈ ipIds → g ≠ 305 → g ≠ 306 → g ≠ 308 → g ≠ 1015 → g ≠ 1016 → g ≠ 1017 → V' g = V g)
    (c1 : ∀ i, i < f → V' 305 p i = nI (o i) ∧ V' 306 p i = nI (s i)) (c2 : ∀ q i, q ≠ p → V' 305 q i = V 305 q i ∧ V' 306 q i = V 306 q i ∧ V' 308 q i = V 308 q i) (c3 : V' 308 p 0 = nI f)
    (m1 : ∀ i, i < f → V' 1016 0 (4 * p + i) = nI (o i) ∧ V' 1017 0 (4 * p + i) = nI (s i)) (m2 : ∀ k, (k < 4 * p ∨ 4 * p + 4 ≤ k) → V' 1016 0 k = V 1016 0 k ∧ V' 1017 0 k = V 1017 0 k) (m3 : ∀ q, q ≠ p → V' 1015 0 q = V 1015 0 q) (m4 : V' 1015 0 p = nI f) : IP E V' n (upD D 0 p f) (upF on p o) (upF sn p s) := by
  obtain ⟨h1, h2, h3⟩ := h
  have g : ∀ f, f ∈ ipIds → f ≠ 305 → f ≠ 306 → f ≠ 308 → f ≠ 1015 → f ≠ 1016 → f ≠ 1017 → V' f = V f := hO
  have hp40 : p < 40 := by have := h1.2.1; omega
  have hcen : ∀ q, cenB V' q = cenB V q := fun q => by
    unfold cenB
    rw [g 300 (by decide) (by decide) (by decide) (by decide) (by decide) (by decide) (by decide), g 310 (by decide) (by decide) (by decide) (by decide) (by decide) (by decide) (by decide), g 313 (by decide) (by decide) (by decide) (by decide) (by decide) (by decide) (by decide)]
  refine ⟨⟨?_, h1.2.1, fun q hq => ?_⟩, ⟨?_, h2.2.1, fun q hq => ?_⟩, fun q hq => ?_⟩
  · rw [g 405 (by decide) (by decide) (by decide) (by decide) (by decide) (by decide) (by decide)]
    exact h1.1
  · obtain ⟨b1, b2, b3, b4, b5, b6⟩ := h1.2.2 q hq
    rw [g 300 (by decide) (by decide) (by decide) (by decide) (by decide) (by decide) (by decide)]
    refine ⟨b1, b2, ?_⟩
    by_cases e : q = p
    · subst e
      rw [upD_s, upF_s]
      exact ⟨hf, c3, hk, fun i hi => ⟨(ho i hi).1, (c1 i hi).1⟩⟩
    · rw [upD_p e, upF_n e, (c2 q 0 e).2.2]
      exact ⟨b3, b4, b5, fun i hi => ⟨(b6 i hi).1, by rw [(c2 q i e).1]; exact (b6 i hi).2⟩⟩
  · rw [g 1001 (by decide) (by decide) (by decide) (by decide) (by decide) (by decide) (by decide)]
    exact h2.1
  · obtain ⟨b1, b2, b3, b4, b5⟩ := h2.2.2 q hq
    rw [g 1002 (by decide) (by decide) (by decide) (by decide) (by decide) (by decide) (by decide)]
    by_cases e : q = p
    · subst e
      rw [upD_s, upF_s]
      exact ⟨hf, m4, b3, fun z => hk (by rw [(h3 q hq).1]; exact z), fun i hi => ⟨(ho i hi).1, (m1 i hi).1⟩⟩
    · rw [upD_p e, upF_n e, m3 q e]
      exact ⟨b1, b2, b3, b4, fun i hi => ⟨(b5 i hi).1, by rw [(m2 (4 * q + i) (by omega)).1]; exact (b5 i hi).2⟩⟩
  · obtain ⟨a1, a2, a3, a4, a5, a6, a7, a8, a9, a10, a11, a12, a13⟩ := h3 q hq
    have gg : ∀ f, f ∈ ([300, 301, 302, 303, 304, 309, 310, 311, 312, 313, 1002, 1003, 1004, 1005, 1006, 1007, 1008, 1009, 1010, 1011, 1012, 1013, 1014] : List Nat) → V' f = V f := fun f hf => by
      have z : ∀ f, f ∈ ([300, 301, 302, 303, 304, 309, 310, 311, 312, 313, 1002, 1003, 1004, 1005, 1006, 1007, 1008, 1009, 1010, 1011, 1012, 1013, 1014] : List Nat) → f ∈ ipIds ∧ f ≠ 305 ∧ f ≠ 306 ∧ f ≠ 308 ∧ f ≠ 1015 ∧ f ≠ 1016 ∧ f ≠ 1017 := by decide
      obtain ⟨z1, z2, z3, z4, z5, z6, z7⟩ := z f hf
      exact g f z1 z2 z3 z4 z5 z6 z7
    unfold IPp
    rw [hcen, gg 300 (by decide), gg 301 (by decide), gg 302 (by decide), gg 303 (by decide), gg 304 (by decide), gg 309 (by decide), gg 310 (by decide), gg 311 (by decide), gg 312 (by decide), gg 313 (by decide), gg 1002 (by decide), gg 1003 (by decide), gg 1004 (by decide), gg 1005 (by decide), gg 1006 (by decide), gg 1007 (by decide), gg 1008 (by decide), gg 1009 (by decide), gg 1010 (by decide), gg 1011 (by decide), gg 1012 (by decide), gg 1013 (by decide), gg 1014 (by decide)]
    rw [upD_k (k' := 1) (by decide), upD_k (k' := 2) (by decide), upD_k (k' := 3) (by decide), upD_k (k' := 4) (by decide), upD_k (k' := 5) (by decide), upD_k (k' := 6) (by decide), upD_k (k' := 7) (by decide)]
    refine ⟨a1, a2, a3, a4, a5, a6, a7, a8, a9, a10, ?_⟩
    by_cases e : q = p
    · subst e
      rw [upD_s, upF_s, upF_s]
      exact ⟨fun i hi => ⟨(c1 i hi).2, (m1 i hi).2, (ho i hi).2⟩, h12, fun z => by omega⟩
    · have h4 := (h1.2.2 q hq).2.2.1
      rw [upD_p e, upF_n e, upF_n e]
      exact ⟨fun i hi => by rw [(c2 q i e).2.1, (m2 (4 * q + i) (by omega)).2]; exact a11 i hi, a12, a13⟩
/-- nothing falls by new supports of what is not begun -/
theorem IS.bear {V' : Vt} {p f : Nat} {o : Nat → Nat} (h : IP E V n D on sn) (hS : IS V n D on) (hp : p < n) (h0 : D 4 p = 0) (c2 : ∀ q i, q ≠ p → V' 306 q i = V 306 q i) (hO : ∀ g, g ∈ ([300, 302, 304, 310, 312, 313] : List Nat) → V' g = V g) : IS V' n (upD D 0 p f) (upF on p o) := by
  have hn := h.1.2.1
  unfold IS at hS ⊢
  rw [← hS]
  have a1 : cLW V' = cLW V := by funext q; unfold cLW; rw [hO 310 (by decide), hO 302 (by decide)]
  have a2 : cenB V' = cenB V := by funext q; unfold cenB; rw [hO 300 (by decide), hO 310 (by decide), hO 313 (by decide)]
  have a3 : arB V' = arB V := by funext q; unfold arB; rw [hO 300 (by decide), hO 310 (by decide)]
  have a4 : bgB V' = bgB V := by funext q; unfold bgB; rw [a2, hO 310 (by decide)]
  have key : ∀ q, q < n → (cW V' (upD D 0 p f 0) (upF on p o) n n).1 q = (cW V (D 0) on n n).1 q ∧ (cW V' (upD D 0 p f 0) (upF on p o) n n).2 q = (cW V (D 0) on n n).2 q := by
    unfold cW
    rw [a1, a2, a3, hO 304 (by decide)]
    refine wg_sup (z := fun q => D 4 q = 0) (p0 := p) (fun q hq hz => ?_) (fun q hq hz i hi => ?_) (fun q hq e => ?_) h0 ?_ (fun q hq => ?_) n (Nat.le_refl n)
    · rw [(h.w.lw hq).1, hz, Nat.zero_mul]
      rfl
    · obtain ⟨-, -, -, -, -, -, -, -, -, -, -, -, a13⟩ := h.2.2 q hq
      have := a13 (by omega) i hi
      omega
    · refine ⟨(upD_p e).symm, (upF_n e).symm, ?_⟩
      funext i
      exact (c2 q i e).symm
    · obtain ⟨-, -, -, -, -, -, -, a8, -⟩ := h.2.2 p hp
      unfold arB
      rw [a8.1, h0]
      simp [nI]
    · obtain ⟨-, -, b3, b4, b5, b6⟩ := h.1.2.2 q hq
      exact ⟨fun i hi => (b6 i hi).1, fun z => b5 (by simp [arB] at z; exact z.1)⟩
  unfold cF
  exact fal_cong (fun q hq => ⟨(key q hq).1, (key q hq).2, by rw [a4], by rw [hO 304 (by decide)], by rw [hO 304 (by decide)], by rw [hO 312 (by decide)]⟩) n (Nat.le_refl n)
def bearS : List Nat := [305, 306, 308, 401, 402, 403, 404, 406, 1015, 1016, 1017, 1024, 1025, 1026, 1027]
theorem bo_bear {x a b c d : Int32} {K : Int32 → Int32 → Vt → Prop} (hE : Sg E) (hI : IP E V n D on sn) (hS : IS V n D on) (hX : IE V n ec es) (hK : ∀ r V2 D' on' sn' ec' es', IP E V2 n D' on' sn' → IS V2 n D' on' → IE V2 n ec' es' → Of bearS V V2 → (∀ k, k ≠ 0 → D' k = D k) → K r r V2) : C_X8_bear l G E V x a b c d (fun r V1 => C_X9_bear l G E V1 x a b c d (fun r' V2 => K r r' V2)) := by
  have hn := hI.1.2.1
  have hk0 : ∀ r V2, Of [404, 1027] V V2 → K r r V2 := fun r V2 hO => hK r V2 D on sn ec es (hI.of hO (by decide)) (hS.of hO (by decide)) (hX.of hO (by decide)) (hO.mono (by decide)) (fun _ _ => rfl)
  refine ok_X8_bear hE ?_
  unfold vc_X8_bear
  refine sp_find hE hI.1 (fun q => ⟨fun _ => ?_, fun t ht => by cases ht⟩) (fun p hp e => ⟨fun q => (by cases q), fun t ht => ?_⟩)
  · refine ok_X9_bear hE ?_
    unfold vc_X9_bear
    exact sp_isPart hE hI.2.1 (fun _ => nb_f rfl (hk0 _ _ (Of.rf _ _))) (fun p hp e => (no_part hn q hp e).elim)
  · cases ht
    subst e
    have ip : vp_in (nI p) 40 := inI (by omega) (by omega)
    have hl := (hI.1.2.2 p hp).2.1
    obtain ⟨a1, a2, a3, a4, a5, a6, a7, a8, a9, a10, a11, a12, a13⟩ := hI.2.2 p hp
    obtain ⟨x1, x2, x3, x4, x5⟩ := And.intro True.intro hX |>.2
    refine ⟨hl, sp_readS hE (fun V1 f hO1 hr1 hf => ?_)⟩
    have hI1 := hI.of hO1 (by decide)
    -- the model from a state whose model rows are as before
    have md : ∀ (V3 : Vt) (R : Int32), (∀ g, 1000 ≤ g → V3 g = V g) → (∀ V4, Of [1027] V3 V4 → (∀ k, k < 4 → V4 1027 0 k = r4 a b c d k) → ((okR (r4 a b c d) p f ∧ ¬ (V 1002 0 p = 1 ∧ f < 2)) → ((V 1012 0 p ≤ 0 → ((¬ V 1024 0 0 = 60 → A_X9_bear_282 l G E (up3 V4 1015 0 p 0) (nI p) (nI f) 0 (fun r' V2 => K R r' V2)) ∧ (V 1024 0 0 = 60 → K R (-3) V4))) ∧ (¬ V 1012 0 p ≤ 0 → K R (-2) V4))) ∧ (¬ (okR (r4 a b c d) p f ∧ ¬ (V 1002 0 p = 1 ∧ f < 2)) → K R (-1) V4)) → C_X9_bear l G E V3 (nI p) a b c d (fun r' V2 => K R r' V2) := by
      intro V3 R h3 h
      have hP3 : PM V3 n (D 0) on := by
        unfold PM
        rw [h3 1001 (by decide), h3 1015 (by decide), h3 1002 (by decide), h3 1016 (by decide)]
        exact hI.2.1
      refine ok_X9_bear hE ?_
      unfold vc_X9_bear
      refine sp_isPartp hE hP3 hp (nb_t (by decide) ⟨inI (n := 0) (by decide) (by decide), inI (n := 1) (by decide) (by decide), inI (n := 2) (by decide) (by decide), inI (n := 3) (by decide) (by decide), mread hE (by omega) r4_row (fun f' hf' => ?_)⟩)
      have := isF_one hf hf'
      subst this
      have hO4 : Of [1027] V3 (up3 (up3 (up3 (up3 V3 1027 0 (0 : Int32).toNatClampNeg a) 1027 0 (1 : Int32).toNatClampNeg b) 1027 0 (2 : Int32).toNatClampNeg c) 1027 0 (3 : Int32).toNatClampNeg d) := (((Of.up1 (by decide)).up (by decide)).up (by decide)).up (by decide)
      rw [hO4 1002 (by decide), hO4 1012 (by decide), hO4 1024 (by decide), h3 1002 (by decide), h3 1012 (by decide), h3 1024 (by decide)]
      exact h _ hO4 r4_row
    have m0 : ∀ g, 1000 ≤ g → V1 g = V g := fun g hg => hO1 g (by simp; omega)
    have same : ∀ V4, Of [1027] V1 V4 → Of [404, 1027] V V4 := fun V4 hO4 => (hO1.mono (by decide)).tr (hO4.mono (by decide))
    have hk1 : V 1002 0 p = V1 300 p 0 := by rw [hO1 300 (by decide), a1]
    refine ⟨fun hok => ⟨fun z => absurd z ?_, fun _ => ?_⟩, fun hok => br_t rfl (md V1 _ m0 (fun V4 hO4 _ => ⟨fun y => absurd y.1 hok, fun _ => hk0 _ _ (same V4 hO4)⟩))⟩
    · intro z
      have z := congrArg Int32.toInt z
      rw [nI_toInt (by have := hf.1; omega)] at z
      have e1 : (-1 : Int32).toInt = -1 := by decide
      omega
    · -- the supports are sound
      have hf4 := hf.1
      have good : ¬ (V 1002 0 p = 1 ∧ f < 2) → C_X2_isBegun l G E V1 p (fun x27 V26 => ((x27 = 0 → ((V26 406 0 0 < 60 → C_X3_setSupports l G E V26 p (nI f) (fun V28 => C_X3_keepEdition l G E V28 (nI p) (V28 309 p 0) (fun x30 V29 => (fun r V1 => C_X9_bear l G E V1 (nI p) a b c d (fun r' V2 => K r r' V2)) (nI f) V29))) ∧ (¬ V26 406 0 0 < 60 → (fun r V1 => C_X9_bear l G E V1 (nI p) a b c d (fun r' V2 => K r r' V2)) (-3) V26))) ∧ (¬ x27 = 0 → (fun r V1 => C_X9_bear l G E V1 (nI p) a b c d (fun r' V2 => K r r' V2)) (-2) V26))) := by
        intro hgood
        refine sp_begun hE hl ⟨fun q3 => ?_, fun q3 => ?_⟩
        · rw [bz0, hO1 310 (by decide), a8.1, nI_pos0 (by omega)] at q3
          have hd4 : D 4 p = 0 := by omega
          have hm0 : V 1012 0 p ≤ 0 := by rw [a8.2.1, hd4]; decide
          rw [hO1 406 (by decide), x1]
          refine ⟨fun q4 => ?_, fun q4 => ?_⟩
          · have hlt : ec < 60 := (nI_ltI (b := 60) (by omega) (by decide)).mp q4
            obtain ⟨o, s, hos, h12⟩ := okR_nat (by omega) hf4 hok
            refine sp_setS hE hl hf4 hr1 (fun k hk => ⟨o k, (hos k hk).1, by have := (hos k hk).2.2.1; omega⟩) (fun V2 hO2 w1 w2 w3 => ?_)
            have hO12 : Of [305, 306, 308, 404] V V2 := (hO1.mono (by decide)).tr (hO2.mono (by decide))
            refine sp_keepE (ec := ec) hE (by rw [hO12 406 (by decide)]; exact x1) hlt ?_
            rw [hO12 405 (by decide), hI.1.1]
            obtain ⟨V3, hV3⟩ : ∃ V3, V3 = kE V2 ec (nI p) (V2 309 p 0) (nI n) := ⟨_, rfl⟩
            rw [← hV3]
            have hO23 : Of [401, 402, 403, 406] V2 V3 := by
              rw [hV3]
              unfold kE
              exact (((Of.up1 (by decide)).up (by decide)).up (by decide)).up (by decide)
            have hO3 : Of [305, 306, 308, 401, 402, 403, 404, 406] V V3 := (hO12.mono (by decide)).tr (hO23.mono (by decide))
            refine md V3 _ (fun g hg => hO3 g (by simp; omega)) (fun V4 hO4 hr4 => ⟨fun _ => ⟨fun _ => ⟨fun _ => ?_, fun z => ?_⟩, fun z => absurd hm0 z⟩, fun z => absurd ⟨hok, hgood⟩ z⟩)
            · refine mset hE (by omega) hf4 hr4 (fun V5 hO5 u1 u2 u3 u4 => ?_)
              have hO45 : Of [1015, 1016, 1017, 1027] V3 V5 := (hO4.mono (by decide)).tr (hO5.mono (by decide))
              have e1024 : V5 1024 0 0 = nI ec := by rw [hO45 1024 (by decide), hO3 1024 (by decide)]; exact x2
              have e305 : V5 305 = V2 305 := by rw [hO45 305 (by decide), hO23 305 (by decide)]
              have e306 : V5 306 = V2 306 := by rw [hO45 306 (by decide), hO23 306 (by decide)]
              have e308 : V5 308 = V2 308 := by rw [hO45 308 (by decide), hO23 308 (by decide)]
              have e16 : ∀ g, g ∈ ([1015, 1016, 1017] : List Nat) → V4 g = V g := fun g hg => by
                have hg' : g = 1015 ∨ g = 1016 ∨ g = 1017 := by simpa using hg
                rw [hO4 g (by simp; omega), hO3 g (by simp; omega)]
              have hI5 : IP E V5 n (upD D 0 p f) (upF on p o) (upF sn p s) := by
                refine hI.bear hp hf4 hd4 (fun z => ?_) (fun i hi => (hos i hi).2.2) h12 (fun g hg n1 n2 n3 n4 n5 n6 => ?_) (fun i hi => ?_) (fun q i hq => ?_) ?_ (fun i hi => ?_) (fun k hk => ?_) (fun q hq => ?_) u4
                · rcases Nat.lt_or_ge f 2 with w | w
                  · exact absurd ⟨by rw [← a1]; exact z, w⟩ hgood
                  · exact w
                · have : ∀ g, g ∈ ipIds → g ≠ 401 ∧ g ≠ 402 ∧ g ≠ 403 ∧ g ≠ 404 ∧ g ≠ 406 ∧ g ≠ 1027 := by decide
                  obtain ⟨t1, t2, t3, t4, t5, t6⟩ := this g hg
                  rw [hO45 g (by simp; omega), hO3 g (by simp; omega)]
                · rw [e305, e306, (w1 i hi).1, (w1 i hi).2]
                  exact ⟨(hos i hi).1, (hos i hi).2.1⟩
                · rw [e305, e306, e308, (w2 q i hq).1, (w2 q i hq).2.1, (w2 q i hq).2.2, hO1 305 (by decide), hO1 306 (by decide), hO1 308 (by decide)]
                  exact ⟨rfl, rfl, rfl⟩
                · rw [e308]
                  exact w3
                · rw [(u1 i hi).1, (u1 i hi).2]
                  exact ⟨(hos i hi).1, (hos i hi).2.1⟩
                · rw [(u2 k hk).1, (u2 k hk).2, e16 1016 (by decide), e16 1017 (by decide)]
                  exact ⟨rfl, rfl⟩
                · rw [u3 q hq, e16 1015 (by decide)]
              have hS5 : IS V5 n (upD D 0 p f) (upF on p o) := by
                refine IS.bear hI hS hp hd4 (fun q i hq => ?_) (fun g hg => ?_)
                · rw [e306, (w2 q i hq).2.1, hO1 306 (by decide)]
                · have : ∀ g, g ∈ ([300, 302, 304, 310, 312, 313] : List Nat) → g ∉ [1015, 1016, 1017, 1027] ∧ g ∉ [305, 306, 308, 401, 402, 403, 404, 406] := by decide
                  rw [hO45 g (this g hg).1, hO3 g (this g hg).2]
              refine sp_edition (D := upD D 0 p f) (on := upF on p o) (ec := ec) hE hI5.2.1 e1024 hlt (fun V6 hO6 y1 y2 y3 y4 y5 => ?_)
              have hOf : Of bearS V V6 := ((hO3.mono (by decide)).tr (hO45.mono (by decide))).tr (hO6.mono (by decide))
              refine hK _ V6 _ _ _ (ec + 1) (fun e => if e = ec + 1 then n else es e) (hI5.of hO6 (by decide)) (hS5.of hO6 (by decide)) ?_ hOf (fun k hk => upD_k hk)
              have k40 : ∀ f, f ∈ [401, 402, 403, 406] → V6 f = kE V2 ec (nI p) (V2 309 p 0) (nI n) f := fun f hf => by
                have : ∀ f, f ∈ [401, 402, 403, 406] → f ∉ [1024, 1025, 1026] ∧ f ∉ [1015, 1016, 1017, 1027] := by decide
                rw [hO6 f (this f hf).1, hO45 f (this f hf).2, hV3]
              have e309 : V2 309 = V 309 := hO12 309 (by decide)
              refine hX.next (y := V 309 p 0) hp hlt rfl ?_ ?_ ?_ ?_ (hOf 301 (by decide)) y1 y2 (fun e he => ?_) (fun q9 hq9 => ?_) (fun k hk => ?_) hn (fun q9 _ => ?_)
              · rw [k40 406 (by decide)]
                unfold kE
                rw [up3_f (by decide), up3_f (by decide), up3_f (by decide), up3_s]
              · rw [k40 401 (by decide)]
                unfold kE
                rw [up3_row0 (by decide), up3_row0 (by decide), up3_row, up3_row0 (by decide), hO12 401 (by decide)]
              · rw [k40 402 (by decide)]
                unfold kE
                rw [up3_row0 (by decide), up3_row, up3_row0 (by decide), up3_row0 (by decide), hO12 402 (by decide), e309]
              · rw [k40 403 (by decide)]
                unfold kE
                rw [up3_row, up3_row0 (by decide), up3_row0 (by decide), up3_row0 (by decide), hO12 403 (by decide)]
              · rw [y3 e he, hO45 1025 (by decide), hO3 1025 (by decide)]
              · obtain ⟨-, b2, -⟩ := hI.2.2 q9 hq9
                rw [y4 q9 hq9, hOf 309 (by decide), hO45 1003 (by decide), hO3 1003 (by decide), b2.1, b2.2.1]
              · rw [y5 k hk, hO45 1026 (by decide), hO3 1026 (by decide)]
              · rw [hOf 309 (by decide)]
                by_cases e : q9 = p
                · rw [if_pos e, e]
                · rw [if_neg e]
            · rw [x2] at z
              have := (nI_eq (b := 60) (by omega) (by decide)).mp z
              omega
          · have he : ec = 60 := by
              have := (nI_leI (a := 60) (by decide) (by omega)).mp (nlt_le q4)
              omega
            exact md V1 _ m0 (fun V4 hO4 _ => ⟨fun _ => ⟨fun _ => ⟨fun z => absurd (by rw [x2, he]; rfl) z, fun _ => hk0 _ _ (same V4 hO4)⟩, fun z => absurd hm0 z⟩, fun z => absurd ⟨hok, hgood⟩ z⟩)
        · rw [bz0, hO1 310 (by decide), a8.1, nI_pos0 (by omega)] at q3
          have hm1 : ¬ V 1012 0 p ≤ 0 := by rw [a8.2.1]; exact nI_nle (by omega) (by omega)
          exact md V1 _ m0 (fun V4 hO4 _ => ⟨fun _ => ⟨fun z => absurd z hm1, fun _ => hk0 _ _ (same V4 hO4)⟩, fun z => absurd ⟨hok, hgood⟩ z⟩)
      refine ⟨fun z => good (fun y => z (by rw [← hk1]; exact y.1)), fun z => ⟨fun z2 => good (fun y => ?_), fun z2 => ?_⟩⟩
      · have := (nI_leI (a := 2) (by decide) (by omega)).mp z2
        omega
      · have hb : V 1002 0 p = 1 ∧ f < 2 := ⟨by rw [hk1]; exact z, by
          rcases Nat.lt_or_ge f 2 with w | w
          · exact w
          · exact absurd (nI_le (a := 2) w (by omega)) z2⟩
        exact md V1 _ m0 (fun V4 hO4 _ => ⟨fun y => absurd hb y.2, fun _ => hk0 _ _ (same V4 hO4)⟩)
end Bear2

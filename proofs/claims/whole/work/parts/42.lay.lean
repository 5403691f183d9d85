/-! paying; a course laid -/
def pst (en : Nat → Int32) (due : Nat) (gl : Nat → Nat) : Nat → Nat × (Nat → Nat)
  | 0 => (due, gl)
  | g + 1 => if en g = 0 then pst en due gl g else ((pst en due gl g).1 - min (pst en due gl g).1 ((pst en due gl g).2 g), updN (pst en due gl g).2 g ((pst en due gl g).2 g - min (pst en due gl g).1 ((pst en due gl g).2 g)))
theorem pst_s (en : Nat → Int32) (due : Nat) (gl : Nat → Nat) (g : Nat) : pst en due gl (g + 1) = if en g = 0 then pst en due gl g else ((pst en due gl g).1 - min (pst en due gl g).1 ((pst en due gl g).2 g), updN (pst en due gl g).2 g ((pst en due gl g).2 g - min (pst en due gl g).1 ((pst en due gl g).2 g))) := rfl
theorem pst_le (en : Nat → Int32) (due : Nat) (gl : Nat → Nat) : ∀ i, (pst en due gl i).1 ≤ due ∧ ∀ g, (pst en due gl i).2 g ≤ gl g
  | 0 => ⟨Nat.le_refl _, fun g => Nat.le_refl _⟩
  | i + 1 => by
    obtain ⟨h1, h2⟩ := pst_le en due gl i
    rw [pst_s]
    split
    · exact ⟨h1, h2⟩
    · refine ⟨Nat.le_trans (Nat.sub_le _ _) h1, fun g => ?_⟩
      show updN _ i _ g ≤ gl g
      by_cases e : g = i
      · subst e
        rw [updN_s]
        exact Nat.le_trans (Nat.sub_le _ _) (h2 g)
      · rw [updN_n e]
        exact h2 g
theorem pst_z (en : Nat → Int32) (due : Nat) (gl : Nat → Nat) {i : Nat} (h : (pst en due gl i).1 = 0) : ∀ r, pst en due gl (i + r) = pst en due gl i
  | 0 => rfl
  | r + 1 => by
    have ih := pst_z en due gl h r
    rw [← Nat.add_assoc, pst_s, ih]
    split
    · rfl
    · rw [h, Nat.zero_min, Nat.sub_zero]
      have e : updN (pst en due gl i).2 (i + r) ((pst en due gl i).2 (i + r)) = (pst en due gl i).2 := by
        funext g
        unfold updN
        split
        · rename_i q
          rw [q]
        · rfl
      rw [Nat.sub_zero, e, ← h]
theorem min_i {a b : Nat} (ha : a < 2 ^ 31) (hb : b < 2 ^ 31) : (if nI b < nI a then nI b else nI a) = nI (min a b) := by
  by_cases h : b < a
  · rw [if_pos (nI_lt h ha), Nat.min_eq_right (by omega)]
  · rw [if_neg (nI_nlt (by omega) hb), Nat.min_eq_left (by omega)]
def lyM (V : Vt) (p : Nat) (c a : Int32) : Vt := up3 (up3 (up3 (up3 (up3 V 1020 0 0 a) 1014 0 p c) 1012 0 p (V 1012 0 p + 1)) 1013 0 p 0) 1019 0 0 (V 1019 0 0 + 1)
theorem lay_nf (V : Vt) (p : Nat) (c a : Int32) : (up3 (up3 (up3 (up3 (up3 V 1020 0 0 a) 1014 0 p c) 1012 0 p (((up3 (up3 V 1020 0 0 a) 1014 0 p c) 1012 0 p) + 1)) 1013 0 p 0) 1019 0 0 (((up3 (up3 (up3 (up3 V 1020 0 0 a) 1014 0 p c) 1012 0 p (((up3 (up3 V 1020 0 0 a) 1014 0 p c) 1012 0 p) + 1)) 1013 0 p 0) 1019 0 0) + 1)) = lyM V p c a := by
  unfold lyM
  rw [up3_f (f' := 1012) (f := 1014) (by decide), up3_f (f' := 1012) (f := 1020) (by decide), up3_f (f' := 1019) (f := 1013) (by decide), up3_f (f' := 1019) (f := 1012) (by decide), up3_f (f' := 1019) (f := 1014) (by decide), up3_f (f' := 1019) (f := 1020) (by decide)]
theorem hvv0 {rd : Bool} {b4 D1 D4 D3 : Nat} {w done f : Int32} (h : hvv rd b4 D1 D4 D3 w done f = 0) : ¬ D1 ≤ D4 ∧ rd = true ∧ D3 ≤ b4 ∧ f = -5 := by
  unfold hvv at h
  by_cases h1 : D1 ≤ D4
  · rw [if_pos h1] at h
    exact absurd h (by decide)
  · rw [if_neg h1] at h
    by_cases h2 : rd = false
    · rw [if_pos h2] at h
      exact absurd h (by decide)
    · rw [if_neg h2] at h
      by_cases h3 : ¬ done < w
      · rw [if_pos h3] at h
        exact absurd h (by decide)
      · rw [if_neg h3] at h
        by_cases h4 : b4 < D3
        · rw [if_pos h4] at h
          exact absurd h (by decide)
        · rw [if_neg h4] at h
          by_cases h5 : f = -5
          · exact ⟨h1, nfb h2, by omega, h5⟩
          · rw [if_neg h5] at h
            exact absurd h (by decide)
theorem hvvp {rd : Bool} {b4 D1 D4 D3 : Nat} {w done f : Int32} (h : ¬ hvv rd b4 D1 D4 D3 w done f = 0) : ¬ hvv rd b4 D1 D4 D3 w done f ≤ 0 := by
  unfold hvv at h ⊢
  split
  · decide
  · split
    · decide
    · split
      · decide
      · split
        · decide
        · split
          · rename_i q1 q2 q3 q4 q5
            rw [if_neg q1, if_neg q2, if_neg q3, if_neg q4, if_pos q5] at h
            exact absurd rfl h
          · decide
section Lay
variable {l : Launch} {G : Gt} {E : Et} {V V' : Vt} {n m fr gc tc sc : Nat} {D on sn tx ti : Nat → Nat → Nat} {yb gl tn : Nat → Nat} {mn : Nat → Int32}
theorem sp_findG {g : Nat} {K : Option Nat → Vt → Prop} (hE : Sg E) (h1 : V 909 0 0 = nI gc) (h3 : gc ≤ 30) (hg : g < gc) (hR : eR E 905 g = some g) (h : K (some g) V) : C_X8_findGift l G E V (nI g) K := by
  refine ok_X8_findGift hE ?_
  unfold vc_X8_findGift
  rw [h1, cl (by omega), hR]
  exact br_f (nI_pos (by omega)) (br_f (nI_ge (by omega) (by omega)) ⟨inI (by omega) (by decide), h⟩)
theorem sp_endC {g : Nat} {K : Int32 → Vt → Prop} (hE : Sg E) (hX : IX E V tc tn tx) (hl : eL E 1 g) (hd : eR E 201 g = none ∨ ∃ t, t < tc ∧ eR E 201 g = some t) (hm : ∀ i, i < 8 → V 500 0 i = mn i) (h : ∀ V', Of [501] V V' → K (txv tx tn mn (eR E 201 g) 1) V') : C_X4_endOf l G E V g K := by
  refine ok_X4_endOf hE hl ?_
  unfold vc_X4_endOf
  rcases hd with b1 | ⟨t, b0, b1⟩
  · rw [b1] at h ⊢
    exact ⟨fun _ => h V (Of.rf _ _), fun t z => (by cases z)⟩
  · rw [b1] at h ⊢
    refine ⟨fun z => (by cases z), fun t' ht => ?_⟩
    cases ht
    exact ⟨(hX.2.2.2 t b0).1, sp_text hE hX b0 hm h⟩
theorem sp_pay {p : Nat} {K : Vt → Prop} (hE : Sg E) (hl : eL E 2 p) (hC : IC V m fr yb) (hX : IX E V tc tn tx) (hG : IG E V gc tc gl) {d : Nat} (hd : V 303 p 0 = nI d) (hd9 : d ≤ 999)
    (h : ∀ V', Of [202, 500, 501, 912] V V' → (∀ g, g < gc → V' 202 g 0 = nI ((pst (enp E V tx tn p m fr yb) d gl gc).2 g)) → V' 912 0 0 = V 912 0 0 + nI d → K V') : C_X8_payFor l G E V (nI p) p K := by
  obtain ⟨g1, g2, g3, g4⟩ := And.intro True.intro hG |>.2
  refine ok_X8_payFor hE hl ?_
  unfold vc_X8_payFor
  refine sp_nm hE hC hl (fun V1 hO1 w1 => ?_)
  have loop : ∀ (r i : Nat) (V2 : Vt), i + r = gc → Of [202, 501] V1 V2 → (∀ g, g < gc → V2 202 g 0 = nI ((pst (enp E V tx tn p m fr yb) d gl i).2 g)) → A_X8_payFor_21 l G E V2 p (nI (pst (enp E V tx tn p m fr yb) d gl i).1) (nI i) K := by
    intro r
    have fin : ∀ (i : Nat) (V2 : Vt), Of [202, 501] V1 V2 → (∀ g, g < gc → V2 202 g 0 = nI ((pst (enp E V tx tn p m fr yb) d gl i).2 g)) → pst (enp E V tx tn p m fr yb) d gl gc = pst (enp E V tx tn p m fr yb) d gl i → K (up3 V2 912 0 0 (V2 912 0 0 + V2 303 p 0)) := by
      intro i V2 hO2 w2 e
      refine h _ ((((hO1.mono (by decide)).tr (hO2.mono (by decide)))).up (by decide)) (fun g hg => ?_) ?_
      · rw [up3_f (by decide), w2 g hg, e]
      · rw [up3_s, hO2 912 (by decide), hO1 912 (by decide), hO2 303 (by decide), hO1 303 (by decide), hd]
    induction r with
    | zero =>
      intro i V2 hi hO2 w2
      have hi : i = gc := by omega
      subst hi
      refine ok_X8_payFor_21 hE hl ?_
      unfold vc_X8_payFor_21
      rw [hO2 909 (by decide), hO1 909 (by decide), g1]
      exact br_t (nI_le (Nat.le_refl _) (by omega)) (fin _ V2 hO2 w2 rfl)
    | succ r ih =>
      intro i V2 hi hO2 w2
      have hO : Of [202, 500, 501] V V2 := (hO1.mono (by decide)).tr (hO2.mono (by decide))
      obtain ⟨a1, a2, a3, a4, a5, a6, a7⟩ := g4 i (by omega)
      obtain ⟨p1, p2⟩ := pst_le (enp E V tx tn p m fr yb) d gl i
      have p3 := p2 i
      refine ok_X8_payFor_21 hE hl ?_
      unfold vc_X8_payFor_21
      rw [hO 909 (by decide), g1, nI_1]
      refine br_f (nI_ge (by omega) (by omega)) ⟨fun q => ?_, fun q => ?_⟩
      · have q : (pst (enp E V tx tn p m fr yb) d gl i).1 = 0 := by
          have := (nI_leI (b := 0) (by omega) (by decide)).mp q
          omega
        have e := pst_z _ _ _ q (r + 1)
        rw [hi] at e
        exact fin i V2 hO2 w2 e
      · refine sp_findG hE (by rw [hO 909 (by decide)]; exact g1) g3 (by omega) a1 ⟨fun z => (by cases z), fun t ht => ?_⟩
        cases ht
        refine ⟨a2, sp_endC (mn := mnp V p m fr yb) hE (hX.of hO (by decide)) a2 ?_ (fun j hj => by rw [hO2 500 (by decide)]; exact w1 j hj) (fun V3 hO3 => ⟨fun z => ?_, fun z => ?_⟩)⟩
        · rcases a7 with b | ⟨t, b0, b1, b2⟩
          · exact Or.inl b.1
          · exact Or.inr ⟨t, b0, b1⟩
        · have := ih (i + 1) V3 (by omega) (hO2.tr (hO3.mono (by decide)))
          rw [pst_s, if_pos (show enp E V tx tn p m fr yb i = 0 from z)] at this
          exact this (fun g hg => by rw [hO3 202 (by decide)]; exact w2 g hg)
        · have := ih (i + 1) (up3 V3 202 i 0 (nI ((pst (enp E V tx tn p m fr yb) d gl i).2 i - min (pst (enp E V tx tn p m fr yb) d gl i).1 ((pst (enp E V tx tn p m fr yb) d gl i).2 i)))) (by omega) ((hO2.tr (hO3.mono (by decide))).up (by decide))
          rw [pst_s, if_neg (show ¬ enp E V tx tn p m fr yb i = 0 from z)] at this
          rw [hO3 202 (by decide), w2 i (by omega), min_i (by omega) (by omega), pk_sub (Nat.min_le_right _ _), pk_sub (Nat.min_le_left _ _)]
          refine this (fun g hg => ?_)
          show _ = nI (updN _ i _ g)
          by_cases e : g = i
          · subst e
            rw [up3_s, updN_s]
          · rw [up3_i e, updN_n e, hO3 202 (by decide)]
            exact w2 g hg
  rw [hO1 303 (by decide), hd]
  exact loop gc 0 V1 (by omega) (Of.rf _ _) (fun g hg => by rw [hO1 202 (by decide)]; exact (g4 g hg).2.2.2.1)
theorem IP.lay (h : IP E V n D on sn) {p : Nat} (hp : p < n) (h4 : D 4 p < D 1 p) (hr : rdb V D on p (D 0 p) = true) (hO : ∀ f, f ∈ ipIds → f ∉ ([310, 311, 1012, 1013, 1014] : List Nat) → V' f = V f)
    (b1 : ∀ q, V' 310 q 0 = if q = p then nI (D 4 p + 1) else V 310 q 0) (b2 : ∀ q, V' 311 q 0 = if q = p then 0 else V 311 q 0) (b3 : ∀ q, V' 1012 0 q = if q = p then nI (D 4 p + 1) else V 1012 0 q) (b4 : ∀ q, V' 1013 0 q = if q = p then 0 else V 1013 0 q) (b5 : ∀ q, q ≠ p → V' 1014 0 q = V 1014 0 q) (b6 : V' 1014 0 p = bz (V 300 p 0 = 1)) : IP E V' n (upD D 4 p (D 4 p + 1)) on sn := by
  obtain ⟨h1, h2, h3⟩ := h
  have g : ∀ f, f ∈ ipIds → f ∉ ([310, 311, 1012, 1013, 1014] : List Nat) → V' f = V f := hO
  refine ⟨?_, ?_, fun q hq => ?_⟩
  · unfold PC
    rw [upD_k (by decide), g 405 (by decide) (by decide), g 308 (by decide) (by decide), g 305 (by decide) (by decide), g 300 (by decide) (by decide)]
    exact h1
  · unfold PM
    rw [upD_k (by decide), g 1001 (by decide) (by decide), g 1015 (by decide) (by decide), g 1016 (by decide) (by decide), g 1002 (by decide) (by decide)]
    exact h2
  · obtain ⟨a1, a2, a3, a4, a5, a6, a7, a8, a9, a10, a11, a12, a13⟩ := h3 q hq
    have up4 : ∀ z, D 4 z ≤ upD D 4 p (D 4 p + 1) 4 z := fun z => by
      by_cases e : z = p
      · subst e
        rw [upD_s]
        omega
      · rw [upD_p e]
        exact Nat.le_refl _
    have gq : ∀ k, k ≠ 4 → upD D 4 p (D 4 p + 1) k = D k := fun k hk => upD_k hk
    unfold IPp
    rw [gq 0 (by decide), gq 1 (by decide), gq 2 (by decide), gq 3 (by decide), gq 5 (by decide), gq 6 (by decide), gq 7 (by decide), g 300 (by decide) (by decide), g 301 (by decide) (by decide), g 302 (by decide) (by decide), g 303 (by decide) (by decide), g 304 (by decide) (by decide), g 306 (by decide) (by decide), g 309 (by decide) (by decide), g 312 (by decide) (by decide), g 313 (by decide) (by decide), g 1002 (by decide) (by decide), g 1003 (by decide) (by decide), g 1004 (by decide) (by decide), g 1005 (by decide) (by decide), g 1006 (by decide) (by decide), g 1007 (by decide) (by decide), g 1008 (by decide) (by decide), g 1009 (by decide) (by decide), g 1010 (by decide) (by decide), g 1011 (by decide) (by decide), g 1017 (by decide) (by decide), b1, b2, b3, b4]
    by_cases e : q = p
    · subst e
      have s0 : V 313 q 0 = 0 := by
        rcases a10.1 with z | z
        · exact z
        · omega
      have hc : cenB V' q = decide (V 300 q 0 = 1) := by
        unfold cenB
        rw [g 300 (by decide) (by decide), g 313 (by decide) (by decide), b1, if_pos rfl, s0]
        have : (0 : Int32) < nI (D 4 q + 1) := (nI_pos0 (by omega)).mpr (by omega)
        simp [this]
      rw [if_pos rfl, if_pos rfl, if_pos rfl, if_pos rfl, upD_s]
      refine ⟨a1, a2, a3, a4, a5, a6, a7, ⟨rfl, rfl, h4⟩, rfl, ⟨Or.inl s0, ?_⟩, a11, a12, fun _ i hi => ?_⟩
      · rw [b6, hc]
        exact bz_cong (by simp)
      · have := ((rdb_iff _).mp hr i hi).1
        have d1 := (h1.2.2 q hp).2.2.2.2.2 i hi
        have := (h3 (on q i) (by omega)).2.1.2.2.1
        exact Nat.lt_of_lt_of_le (by omega) (up4 _)
    · have hc : cenB V' q = cenB V q := by
        unfold cenB
        rw [g 300 (by decide) (by decide), g 313 (by decide) (by decide), b1, if_neg e]
      rw [if_neg e, if_neg e, if_neg e, if_neg e, upD_p e, hc, b5 q e]
      exact ⟨a1, a2, a3, a4, a5, a6, a7, a8, a9, a10, a11, a12, fun z i hi => Nat.lt_of_lt_of_le (a13 z i hi) (up4 _)⟩
theorem cn_cong {t t' : Nat → Nat} {k : Nat} : ∀ i, (∀ j, j < i → t j = t' j) → cn t k i = cn t' k i
  | 0, _ => rfl
  | i + 1, h => by
    unfold cn
    rw [cn_cong i (fun j hj => h j (by omega)), h i (by omega)]
def upT (t : Nat → Nat → Nat) (p i m : Nat) : Nat → Nat → Nat := fun q j => if q = p ∧ j = i then m else t q j
theorem upT_s (t : Nat → Nat → Nat) (p i m : Nat) : upT t p i m p i = m := if_pos ⟨rfl, rfl⟩
theorem upT_i {t : Nat → Nat → Nat} {p i m q j : Nat} (h : j ≠ i) : upT t p i m q j = t q j := if_neg (fun y => h y.2)
theorem upT_q {t : Nat → Nat → Nat} {p i m q j : Nat} (h : q ≠ p) : upT t p i m q j = t q j := if_neg (fun y => h y.1)
theorem IL.lay (h : IL V n m D ti) {p : Nat} (hp : p < n) (b1 : ∀ q i, V' 307 q i = if q = p ∧ i = D 4 p then nI m else V 307 q i) (b2 : V' 1023 = V 1023) : IL V' n m (upD D 4 p (D 4 p + 1)) (upT ti p (D 4 p) m) := by
  obtain ⟨h1, h2⟩ := h
  refine ⟨fun q hq => ?_, fun q k hq1 hq2 hk => by rw [b2]; exact h2 q k hq1 hq2 hk⟩
  obtain ⟨u1, u2⟩ := h1 q hq
  by_cases e : q = p
  · subst e
    rw [upD_s]
    refine ⟨fun i hi => ?_, fun k hk => ?_⟩
    · rw [b1]
      by_cases z : i = D 4 q
      · subst z
        rw [if_pos ⟨rfl, rfl⟩, upT_s]
        exact ⟨rfl, Nat.le_refl _⟩
      · rw [if_neg (fun y => z y.2), upT_i z]
        exact u1 i (by omega)
    · have c1 : cn (upT ti q (D 4 q) m q) k (D 4 q + 1) = cn (ti q) k (D 4 q) := by
        show cn (upT ti q (D 4 q) m q) k (D 4 q) + (if upT ti q (D 4 q) m q (D 4 q) ≤ k then 1 else 0) = _
        rw [upT_s, if_neg (by omega), Nat.add_zero]
        exact cn_cong _ (fun j hj => upT_i (by omega))
      rw [b2, u2 k hk, c1]
  · rw [upD_p e]
    refine ⟨fun i hi => ?_, fun k hk => ?_⟩
    · rw [b1, if_neg (fun y => e y.1), upT_q e]
      exact u1 i hi
    · rw [b2, u2 k hk, cn_cong (t := upT ti p (D 4 p) m q) (t' := ti q) _ (fun j hj => upT_q e)]
def layS : List Nat := [202, 307, 310, 311, 500, 501, 600, 601, 911, 912, 1012, 1013, 1014, 1019, 1020, 1028, 1029, 1037, 1040, 1045]
theorem bo_lay {x : Int32} {K : Int32 → Int32 → Vt → Prop} (hE : Sg E) (hI : IP E V n D on sn) (hS : IS V n D on) (hC : IC V m fr yb) (hL : IL V n m D ti) (hX : IX E V tc tn tx) (hG : IG E V gc tc gl) (hU : IU E V sc tc)
    (hK : ∀ r V2 D' gl' ti', IP E V2 n D' on sn → IS V2 n D' on → IC V2 m fr yb → IL V2 n m D' ti' → IG E V2 gc tc gl' → Of layS V V2 → (∀ k, k ≠ 4 → D' k = D k) → K r r V2) : C_X8_lay l G E V x (fun r V1 => C_X9_lay l G E V1 x (fun r' V2 => K r r' V2)) := by
  have hn := hI.1.2.1
  obtain ⟨g1, g2, g3, g4⟩ := And.intro True.intro hG |>.2
  have hk0 : ∀ r V2, Of mayS V V2 → K r r V2 := fun r V2 hO => hK r V2 D gl ti (hI.of hO (by decide)) (hS.of hO (by decide)) (hC.of hO (by decide)) (hL.of hO (by decide) (by decide) rfl) (hG.of hO (by decide)) (hO.mono (by decide)) (fun _ _ => rfl)
  refine ok_X8_lay hE ?_
  unfold vc_X8_lay
  refine sp_find hE hI.1 (fun q => ⟨fun _ => ?_, fun t z => (by cases z)⟩) (fun p hp e => ⟨fun z => (by cases z), fun t ht => ?_⟩)
  · refine ok_X9_lay hE ?_
    unfold vc_X9_lay
    refine sp_isPart hE hI.2.1 (fun _ => nb_f rfl (hk0 _ _ (Of.rf _ _))) (fun p hp e => ?_)
    subst e
    rcases q with q | q
    · exact absurd q (nI_pos (by omega))
    · exact absurd ((nI_leI (by omega) (by omega)).mp q) (by omega)
  · cases ht
    subst e
    have hl := (hI.1.2.2 p hp).2.1
    obtain ⟨a1, a2, a3, a4, a5, a6, a7, a8, a9, a10, a11, a12, a13⟩ := hI.2.2 p hp
    refine ⟨hl, sp_hind hE hI hC hX hG hU hp (fun V1 hO1 => ⟨fun z => ?_, fun z => ?_⟩)⟩
    · obtain ⟨z1, z2, z3, z4⟩ := hvv0 z
      have h4 : D 4 p < D 1 p := by omega
      have e1 : enp E V1 tx tn p m fr yb = enp E V tx tn p m fr yb := by
        funext g
        unfold enp mnp
        rw [hO1 300 (by decide), hO1 309 (by decide), hO1 310 (by decide), hO1 911 (by decide)]
      refine sp_pay (d := D 3 p) hE hl (hC.of hO1 (by decide)) (hX.of hO1 (by decide)) (hG.of hO1 (by decide)) (by rw [hO1 303 (by decide)]; exact a5.1) a5.2.2 (fun V2 hO2 w2 w3 => ?_)
      rw [e1] at w2
      rw [hO1 912 (by decide)] at w3
      have hO12 : Of [202, 500, 501, 600, 601, 912] V V2 := (hO1.mono (by decide)).tr (hO2.mono (by decide))
      refine ok_X2_takeCourse hE hl ?_
      unfold vc_X2_takeCourse
      rw [hO12 101 (by decide), hC.1, hO12 310 (by decide), a8.1, cl (by omega)]
      refine br_f (nI_ge (a := D 4 p) (b := 30) (by omega) (by decide)) ⟨inI (by omega) (by decide), ?_⟩
      rw [up3_f (f' := 310) (f := 307) (by decide), hO12 310 (by decide), a8.1, nI_1]
      obtain ⟨V4, hV4⟩ : ∃ V4, V4 = up3 (up3 (up3 (up3 V2 307 p (D 4 p) (nI m)) 310 p 0 (nI (D 4 p + 1))) 311 p 0 0) 911 0 0 (V 911 0 0 + 1) := ⟨_, rfl⟩
      rw [up3_f (f' := 911) (f := 311) (by decide), up3_f (f' := 911) (f := 310) (by decide), up3_f (f' := 911) (f := 307) (by decide), hO12 911 (by decide), ← hV4]
      have hO4 : Of [202, 307, 310, 311, 500, 501, 600, 601, 911, 912] V V4 := by
        rw [hV4]
        exact ((((hO12.mono (by decide)).up (by decide)).up (by decide)).up (by decide)).up (by decide)
      have r4 : V4 310 p 0 = nI (D 4 p + 1) := by rw [hV4, up3_f (by decide), up3_f (by decide), up3_s]
      rw [r4]
      have hM : Om V V4 := Om.cl hO4
      refine ok_X9_lay hE ?_
      unfold vc_X9_lay
      refine sp_isPartp hE (hM.pm hI.2.1) hp (nb_t (by decide) ?_)
      refine sp_mhind_o hE hI hC hX hG hU hM hp (fun V5 hO5 => ?_)
      rw [z]
      have hM5 : Om V V5 := hM.tr hO5
      have ip : vp_in (nI p) 40 := inI (by omega) (by decide)
      refine br_t (by decide) ⟨ip, ?_⟩
      rw [cl (by omega), hM5 1006 (by decide) (by decide), a5.2.1]
      -- who pays
      have loop1 : ∀ (r i : Nat) (V6 : Vt), i + r = gc → Of [1037, 1045] V5 V6 → (∀ g, g < i → V6 1045 0 g = bz (¬ enp E V tx tn p m fr yb g = 0)) → (∀ V6, Of [1037, 1045] V5 V6 → (∀ g, g < gc → V6 1045 0 g = bz (¬ enp E V tx tn p m fr yb g = 0)) → A_X9_lay_75 l G E V6 (nI p) (nI (D 3 p)) 0 (fun r' V2 => K (nI (D 4 p + 1)) r' V2)) → A_X9_lay_35 l G E V6 (nI p) (nI (D 3 p)) (nI i) (fun r' V2 => K (nI (D 4 p + 1)) r' V2) := by
        intro r
        induction r with
        | zero =>
          intro i V6 hi hO6 w6 k
          have hi : i = gc := by omega
          subst hi
          refine ok_X9_lay_35 hE ?_
          unfold vc_X9_lay_35
          rw [hO6 1038 (by decide), hM5 1038 (by decide) (by decide), g2]
          exact br_t (nI_le (Nat.le_refl _) (by omega)) (k V6 hO6 w6)
        | succ r ih =>
          intro i V6 hi hO6 w6 k
          have hM6 : Om V V6 := hM5.tr hO6
          have ii : vp_in (nI i) 30 := inI (by omega) (by decide)
          have hN : MNm l G E V6 (nI p) (mnp V p m fr yb) := mn_named_o hE hC hM6 hC.2.2.2.2.2.2.2.2.1 (fun _ => ⟨p, by omega, rfl, rfl, a1, by rw [a8.1, a8.2.1], by rw [a2.1, a2.2.1]⟩) (fun y => absurd (nI_pos' (by omega)) y)
          refine ok_X9_lay_35 hE ?_
          unfold vc_X9_lay_35
          rw [hO6 1038 (by decide), hM5 1038 (by decide) (by decide), g2, nI_1, cl (by omega)]
          have go : ∀ v V7, Of [1037] V6 V7 → v = bz (¬ enp E V tx tn p m fr yb i = 0) → A_X9_lay_35 l G E (up3 V7 1045 0 i v) (nI p) (nI (D 3 p)) (nI (i + 1)) (fun r' V2 => K (nI (D 4 p + 1)) r' V2) := by
            intro v V7 hO7 hv
            refine ih (i + 1) _ (by omega) ((hO6.tr (hO7.mono (by decide))).up (by decide)) (fun g hg => ?_) k
            by_cases e : g = i
            · subst e
              rw [up3_s, hv]
            · rw [up3_j e, hO7 1045 (by decide)]
              exact w6 g (by omega)
          refine br_f (nI_ge (by omega) (by omega)) (sp_endFor_o hE hX hG hM6 (by omega) hN (fun V7 hO7 => ⟨fun y => ⟨ii, go _ V7 hO7 ?_⟩, fun y => ⟨ii, go _ V7 hO7 ?_⟩⟩))
          · rw [bz_f (fun w => w y)]
            rfl
          · rw [bz_t (show ¬ enp E V tx tn p m fr yb i = 0 from y)]
            rfl
      refine loop1 gc 0 V5 (by omega) (Of.rf _ _) (fun g hg => by omega) (fun V6 hO6 w6 => ?_)
      have hM6 : Om V V6 := hM5.tr hO6
      -- they pay
      have loop2 : ∀ (r i : Nat) (V7 : Vt), i + r = gc → Of [1040] V6 V7 → (∀ g, g < gc → V7 1040 0 g = nI ((pst (enp E V tx tn p m fr yb) (D 3 p) gl i).2 g)) → A_X9_lay_75 l G E V7 (nI p) (nI (pst (enp E V tx tn p m fr yb) (D 3 p) gl i).1) (nI i) (fun r' V2 => K (nI (D 4 p + 1)) r' V2) := by
        intro r
        induction r with
        | zero =>
          intro i V7 hi hO7 w7
          have hi : i = gc := by omega
          subst hi
          have m7 : ∀ f, 1000 ≤ f → f ∉ scr → f ≠ 1040 → V7 f = V f := fun f h1 h2 h3 => by
            rw [hO7 f (by simpa using h3)]
            exact hM6 f h1 h2
          refine ok_X9_lay_75 hE ?_
          unfold vc_X9_lay_75
          rw [cl (by omega), lay_nf, lay_nf, up3_f (f' := 1014) (f := 1020) (by decide), up3_f (f' := 1002) (f := 1020) (by decide), up3_f (f' := 1012) (f := 1020) (by decide), m7 1038 (by decide) (by decide) (by decide), g2, m7 1020 (by decide) (by decide) (by decide), m7 1006 (by decide) (by decide) (by decide), a5.2.1, m7 1014 (by decide) (by decide) (by decide), m7 1002 (by decide) (by decide) (by decide), m7 1012 (by decide) (by decide) (by decide), a8.2.1, ← a1]
          have s0 : V 313 p 0 = 0 := by
            rcases a10.1 with y | y
            · exact y
            · omega
          have fin : ∀ c, c = bz (V 300 p 0 = 1) → K (nI (D 4 p + 1)) (lyM V7 p c (V 1020 0 0 + nI (D 3 p)) 1012 0 p) (lyM V7 p c (V 1020 0 0 + nI (D 3 p))) := by
            intro c hc
            have e12 : V7 1012 0 p + 1 = nI (D 4 p + 1) := by rw [m7 1012 (by decide) (by decide) (by decide), a8.2.1, nI_1]
            obtain ⟨V8, hV8⟩ : ∃ V8, V8 = lyM V7 p c (V 1020 0 0 + nI (D 3 p)) := ⟨_, rfl⟩
            rw [← hV8]
            have hO78 : Of [1012, 1013, 1014, 1019, 1020] V7 V8 := by
              rw [hV8]
              exact (((((Of.rf _ V7).up (by decide)).up (by decide)).up (by decide)).up (by decide)).up (by decide)
            have hO48 : Of [1012, 1013, 1014, 1019, 1020, 1028, 1029, 1037, 1040, 1045] V4 V8 := (((hO5.mono (by decide)).tr (hO6.mono (by decide))).tr (hO7.mono (by decide))).tr (hO78.mono (by decide))
            have hO8 : Of layS V V8 := (hO4.mono (by decide)).tr (hO48.mono (by decide))
            have c12 : ∀ q, V8 1012 0 q = if q = p then nI (D 4 p + 1) else V 1012 0 q := fun q => by
              rw [hV8]
              unfold lyM
              rw [up3_f (by decide), up3_f (by decide)]
              by_cases e : q = p
              · subst e
                rw [up3_s, if_pos rfl, e12]
              · rw [up3_j e, if_neg e, up3_f (by decide), up3_f (by decide), m7 1012 (by decide) (by decide) (by decide)]
            have c13 : ∀ q, V8 1013 0 q = if q = p then 0 else V 1013 0 q := fun q => by
              rw [hV8]
              unfold lyM
              rw [up3_f (by decide)]
              by_cases e : q = p
              · subst e
                rw [up3_s, if_pos rfl]
              · rw [up3_j e, if_neg e, up3_f (by decide), up3_f (by decide), up3_f (by decide), m7 1013 (by decide) (by decide) (by decide)]
            have c14 : ∀ q, q ≠ p → V8 1014 0 q = V 1014 0 q := fun q e => by
              rw [hV8]
              unfold lyM
              rw [up3_f (by decide), up3_f (by decide), up3_f (by decide), up3_j e, up3_f (by decide), m7 1014 (by decide) (by decide) (by decide)]
            have c14p : V8 1014 0 p = bz (V 300 p 0 = 1) := by
              rw [hV8]
              unfold lyM
              rw [up3_f (by decide), up3_f (by decide), up3_f (by decide), up3_s, hc]
            have c310 : ∀ q, V8 310 q 0 = if q = p then nI (D 4 p + 1) else V 310 q 0 := fun q => by
              rw [hO48 310 (by decide), hV4, up3_f (by decide), up3_f (by decide)]
              by_cases e : q = p
              · subst e
                rw [up3_s, if_pos rfl]
              · rw [up3_i e, if_neg e, up3_f (by decide), hO12 310 (by decide)]
            have c311 : ∀ q, V8 311 q 0 = if q = p then 0 else V 311 q 0 := fun q => by
              rw [hO48 311 (by decide), hV4, up3_f (by decide)]
              by_cases e : q = p
              · subst e
                rw [up3_s, if_pos rfl]
              · rw [up3_i e, if_neg e, up3_f (by decide), up3_f (by decide), hO12 311 (by decide)]
            have c307 : ∀ q j, V8 307 q j = if q = p ∧ j = D 4 p then nI m else V 307 q j := fun q j => by
              rw [hO48 307 (by decide), hV4, up3_f (by decide), up3_f (by decide), up3_f (by decide)]
              by_cases e : q = p ∧ j = D 4 p
              · rw [if_pos e, e.1, e.2, up3_s]
              · rw [if_neg e]
                unfold up3
                rw [if_neg (fun y => e ⟨y.2.1, y.2.2⟩), hO12 307 (by decide)]
            rw [c12 p, if_pos rfl]
            refine hK _ V8 (upD D 4 p (D 4 p + 1)) (pst (enp E V tx tn p m fr yb) (D 3 p) gl i).2 _ (hI.lay hp h4 z2 (fun f h1 h2 => ?_) c310 c311 c12 c13 c14 c14p) ?_ ?_ (hL.lay hp c307 (hO8 1023 (by decide))) ?_ hO8 (fun k hk => upD_k hk)
            · exact hO8 f ((show ∀ f, f ∈ ipIds → f ∉ ([310, 311, 1012, 1013, 1014] : List Nat) → f ∉ layS by decide) f h1 h2)
            · unfold IS
              rw [upD_k (by decide)]
              have hOc : Of [202, 307, 311, 500, 501, 600, 601, 911, 912, 1012, 1013, 1014, 1019, 1020, 1028, 1029, 1037, 1040, 1045] (up3 V 310 p 0 (V 310 p 0 + 1)) V8 := by
                intro f hf
                by_cases e : f = 310
                · subst e
                  funext q j
                  by_cases e2 : q = p ∧ j = 0
                  · rw [e2.1, e2.2, up3_s, c310 p, if_pos rfl, a8.1, nI_1]
                  · rw [show up3 V 310 p 0 (V 310 p 0 + 1) 310 q j = V 310 q j by unfold up3; rw [if_neg (fun y => e2 ⟨y.2.1, y.2.2⟩)], hO48 310 (by decide), hV4, up3_f (by decide), up3_f (by decide)]
                    unfold up3
                    rw [if_neg (fun y => e2 ⟨y.2.1, y.2.2⟩), if_neg (fun y => by omega), hO12 310 (by decide)]
                · rw [up3_row0 e]
                  refine hO8 f (fun y => hf ?_)
                  simp only [layS, List.mem_cons, List.not_mem_nil, or_false] at y ⊢
                  omega
              rw [cF_of hOc (by decide)]
              exact z4
            · obtain ⟨k1, k2, k3, k4, k5, k6, k7, k8, k9, k10⟩ := And.intro True.intro hC |>.2
              unfold IC
              rw [hO8 101 (by decide), hO8 1018 (by decide), hO8 102 (by decide), hO8 1021 (by decide), hO8 100 (by decide), hO8 1022 (by decide)]
              refine ⟨k1, k2, k3, k4, k5, k6, k7, k8, ?_, ?_⟩
              · rw [hO48 911 (by decide), hV4, up3_s, hV8]
                unfold lyM
                rw [up3_s, m7 1019 (by decide) (by decide) (by decide), k9]
              · rw [hO48 912 (by decide), hV4, up3_f (by decide), up3_f (by decide), up3_f (by decide), up3_f (by decide), w3, hV8]
                unfold lyM
                rw [up3_f (by decide), up3_f (by decide), up3_f (by decide), up3_f (by decide), up3_s, k10]
            · refine ⟨by rw [hO8 909 (by decide)]; exact g1, by rw [hO8 1038 (by decide)]; exact g2, g3, fun g hg => ?_⟩
              obtain ⟨y1, y2, y3, y4, y5, y6, y7⟩ := g4 g hg
              rw [hO8 200 (by decide), hO8 1039 (by decide), hO8 1041 (by decide)]
              refine ⟨y1, y2, y3, ?_, ?_, Nat.le_trans ((pst_le _ _ _ _).2 g) y6, y7⟩
              · rw [hO48 202 (by decide), hV4, up3_f (by decide), up3_f (by decide), up3_f (by decide), up3_f (by decide)]
                exact w2 g hg
              · rw [hO78 1040 (by decide)]
                exact w7 g hg
          refine br_t (nI_le (Nat.le_refl _) (by omega)) ⟨ip, ip, fun y => ⟨ip, ip, ip, ip, ip, fin _ ?_⟩, fun y => ⟨ip, fun y2 => ⟨ip, ip, ip, ip, ip, fin _ ?_⟩, fun y2 => ⟨ip, fun y3 => ⟨ip, ip, ip, ip, ip, fin _ ?_⟩, fun y3 => ⟨ip, ip, ip, ip, ip, fin _ ?_⟩⟩⟩⟩
          · rw [a10.2, bz0] at y
            have y := cenB_iff.mp (Decidable.not_not.mp y)
            rw [bz_t y.1]
            rfl
          · rw [bz_f y2]
            rfl
          · rw [a10.2, bz0] at y
            refine absurd (cenB_iff.mpr ⟨y2, ?_, s0⟩) y
            rw [a8.1]
            refine (nI_pos0 (by omega)).mpr ?_
            rcases Nat.eq_zero_or_pos (D 4 p) with w | w
            · exact absurd (by rw [w]; rfl) y3
            · exact w
          · rw [bz_t y2]
            rfl
        | succ r ih =>
          intro i V7 hi hO7 w7
          obtain ⟨p1, p2⟩ := pst_le (enp E V tx tn p m fr yb) (D 3 p) gl i
          have p3 := p2 i
          have p4 := (g4 i (by omega)).2.2.2.2.2.1
          have ii : vp_in (nI i) 30 := inI (by omega) (by decide)
          refine ok_X9_lay_75 hE ?_
          unfold vc_X9_lay_75
          refine ⟨fun y => absurd y ?_, fun _ => ?_⟩
          · rw [hO7 1038 (by decide), hM6 1038 (by decide) (by decide), g2]
            exact nI_ge (by omega) (by omega)
          · rw [cl (n := i) (by omega), hO7 1045 (by decide), w6 i (by omega), w7 i (by omega), nI_1]
            have step : ¬ enp E V tx tn p m fr yb i = 0 → ∀ a b, a = nI ((pst (enp E V tx tn p m fr yb) (D 3 p) gl i).2 i - min (pst (enp E V tx tn p m fr yb) (D 3 p) gl i).1 ((pst (enp E V tx tn p m fr yb) (D 3 p) gl i).2 i)) → b = nI ((pst (enp E V tx tn p m fr yb) (D 3 p) gl i).1 - min (pst (enp E V tx tn p m fr yb) (D 3 p) gl i).1 ((pst (enp E V tx tn p m fr yb) (D 3 p) gl i).2 i)) → A_X9_lay_75 l G E (up3 V7 1040 0 i a) (nI p) b (nI (i + 1)) (fun r' V2 => K (nI (D 4 p + 1)) r' V2) := by
              intro hne a b ha hb
              have := ih (i + 1) (up3 V7 1040 0 i a) (by omega) (hO7.up (by decide))
              rw [pst_s, if_neg hne] at this
              rw [hb]
              refine this (fun g hg => ?_)
              show _ = nI (updN _ i _ g)
              by_cases e : g = i
              · subst e
                rw [up3_s, updN_s, ha]
              · rw [up3_j e, updN_n e]
                exact w7 g hg
            refine ⟨ii, fun y => ⟨ii, fun y2 => ⟨ii, ii, ?_⟩, fun y2 => ⟨ii, ii, ii, ?_⟩⟩, fun y => ?_⟩
            · rw [bz0] at y
              rw [nI_leI (by omega) (by omega)] at y2
              refine step (Decidable.not_not.mp y) _ _ ?_ ?_
              · rw [Nat.min_eq_left y2, pk_sub y2]
              · rw [Nat.min_eq_left y2, pk_sub (Nat.le_refl _)]
            · rw [bz0] at y
              rw [nI_leI (by omega) (by omega)] at y2
              refine step (Decidable.not_not.mp y) _ _ ?_ ?_
              · rw [Nat.min_eq_right (by omega), pk_sub (Nat.le_refl _)]
              · rw [Nat.min_eq_right (by omega), pk_sub (by omega)]
            · rw [bz0] at y
              have y := Decidable.not_not.mp y
              have := ih (i + 1) V7 (by omega) hO7
              rw [pst_s, if_pos y] at this
              exact this w7
      exact loop2 gc 0 V6 (by omega) (Of.rf _ _) (fun g hg => by rw [hM6 1040 (by decide) (by decide)]; exact (g4 g hg).2.2.2.2.1)
    · refine ok_X9_lay hE ?_
      unfold vc_X9_lay
      have hI1 := hI.of hO1 (by decide)
      refine sp_isPartp hE hI1.2.1 hp (nb_t (by decide) ?_)
      refine sp_mhind hE hI1 (hC.of hO1 (by decide)) (hX.of hO1 (by decide)) (hG.of hO1 (by decide)) (hU.of hO1 (by decide)) hp (fun V2 hO2 => ?_)
      rw [hval_of hO1 (by decide)]
      refine br_f (hvvp z) (hk0 _ _ ((hO1.mono (by decide)).tr (hO2.mono (by decide))))
end Lay

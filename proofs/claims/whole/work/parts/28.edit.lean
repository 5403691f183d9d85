/-! EDITIONS: wanted, edit -/
def clog (V : Vt) : Nat → Nat → Int32
  | 0, p => V 301 p 0
  | e + 1, p => if V 401 0 (e + 1) = nI p then V 402 0 (e + 1) else clog V e p
theorem clog_of {V V' : Vt} {p : Nat} : ∀ e, V' 301 p 0 = V 301 p 0 → (∀ k, 1 ≤ k → k ≤ e → V' 401 0 k = V 401 0 k ∧ V' 402 0 k = V 402 0 k) → clog V' e p = clog V e p
  | 0, h, _ => h
  | e + 1, h, h2 => by
    unfold clog
    rw [(h2 (e + 1) (by omega) (Nat.le_refl _)).1, (h2 (e + 1) (by omega) (Nat.le_refl _)).2, clog_of e h (fun k a b => h2 k a (by omega))]
def IEe (V : Vt) (n : Nat) (es : Nat → Nat) (e : Nat) : Prop := V 403 0 e = nI (es e) ∧ V 1025 0 e = nI (es e) ∧ es e ≤ n ∧ (∃ q, q < n ∧ V 401 0 e = nI q) ∧ ∀ p, p < es e → V 1026 0 (40 * e + p) = clog V e p
def IE (V : Vt) (n ec : Nat) (es : Nat → Nat) : Prop := V 406 0 0 = nI ec ∧ V 1024 0 0 = nI ec ∧ ec ≤ 60 ∧ (∀ e, 1 ≤ e → e ≤ ec → IEe V n es e) ∧ ∀ p, p < n → V 309 p 0 = clog V ec p
def ieIds : List Nat := [301, 309, 401, 402, 403, 406, 1024, 1025, 1026]
theorem IE.of {V V' : Vt} {n ec : Nat} {es : Nat → Nat} {S : List Nat} (h : IE V n ec es) (hO : Of S V V') (hS : ∀ f, f ∈ ieIds → f ∉ S) : IE V' n ec es := by
  have e : ∀ f, f ∈ ieIds → V' f = V f := fun f hf => hO f (hS f hf)
  have hc : ∀ k p, clog V' k p = clog V k p := fun k p => clog_of k (by rw [e 301 (by decide)]) (fun j _ _ => by rw [e 401 (by decide), e 402 (by decide)]; exact ⟨rfl, rfl⟩)
  obtain ⟨h1, h2, h3, h4, h5⟩ := h
  refine ⟨by rw [e 406 (by decide)]; exact h1, by rw [e 1024 (by decide)]; exact h2, h3, fun k a b => ?_, fun p hp => by rw [e 309 (by decide), hc]; exact h5 p hp⟩
  unfold IEe
  rw [e 403 (by decide), e 1025 (by decide), e 401 (by decide), e 1026 (by decide)]
  obtain ⟨g1, g2, g3, g4, g5⟩ := h4 k a b
  exact ⟨g1, g2, g3, g4, fun p hp => by rw [hc]; exact g5 p hp⟩
section Edit
variable {l : Launch} {G : Gt} {E : Et} {V : Vt} {n ec : Nat} {D on sn : Nat → Nat → Nat} {es : Nat → Nat}
theorem clog_loop {p : Nat} {K : Int32 → Vt → Prop} (hE : Sg E) (hl : eL E 2 p) : ∀ e, e ≤ 60 → K (clog V e p) V → A_X3_coursesIn_43 l G E V (nI p) p (nI e) K := by
  intro e
  induction e with
  | zero =>
    intro he h
    refine ok_X3_coursesIn_43 hE hl ?_
    unfold vc_X3_coursesIn_43
    exact br_t (by decide) h
  | succ e ih =>
    intro he h
    refine ok_X3_coursesIn_43 hE hl ?_
    unfold vc_X3_coursesIn_43
    unfold clog at h
    rw [cl (by omega), nI_m1]
    refine br_f (nI_nle (by omega) (by omega)) ⟨inI (by omega) (by decide), fun z => ?_, fun z => ⟨inI (by omega) (by decide), ?_⟩⟩
    · rw [if_neg z] at h
      exact ih (by omega) h
    · rw [if_pos z] at h
      exact h
theorem bo_wanted {x y : Int32} {K : Int32 → Int32 → Vt → Prop} (hE : Sg E) (hI : IP E V n D on sn) (hX : IE V n ec es) (hK : ∀ r, K r r V) : C_X8_wanted l G E V x y (fun r V1 => C_X9_wanted l G E V1 x y (fun r' V2 => K r r' V2)) := by
  have hn := hI.1.2.1
  obtain ⟨h1, h2, h3, h4, h5⟩ := hX
  have mbad : ¬ ((0 : Int32) ≤ x ∧ x ≤ nI ec) → C_X9_wanted l G E V x y (fun r' V2 => K (-1) r' V2) := by
    intro hb
    refine ok_X9_wanted hE ?_
    unfold vc_X9_wanted
    rw [h2]
    exact sp_in hE (br_t (bz_f hb) (hK _))
  refine ok_X8_wanted hE ?_
  unfold vc_X8_wanted
  refine ok_X3_coursesIn hE ?_
  unfold vc_X3_coursesIn
  refine sp_find hE hI.1 (fun q => ⟨fun _ => ?_, fun t ht => by cases ht⟩) (fun p hp e => ⟨fun q => (by cases q), fun t ht => ?_⟩)
  · refine ok_X9_wanted hE ?_
    unfold vc_X9_wanted
    refine sp_in hE ⟨fun _ => hK _, fun _ => sp_isPart hE hI.2.1 (fun _ => nb_f rfl (hK _)) (fun p hp e => (no_part hn q hp e).elim)⟩
  · cases ht
    subst e
    have ip : vp_in (nI p) 40 := inI (by omega) (by omega)
    have hl := (hI.1.2.2 p hp).2.1
    obtain ⟨-, -, a3, -⟩ := hI.2.2 p hp
    rw [h1]
    refine ⟨hl, fun q => mbad (fun z => lt_nle q z.1), fun q => ⟨fun q2 => ?_, fun q2 => mbad (fun z => q2 z.2)⟩⟩
    obtain ⟨e, he, rfl⟩ : ∃ e, e ≤ ec ∧ x = nI e := nI_of2 (nI_toInt (by omega)) q q2
    have hin : ¬ bz ((0 : Int32) ≤ nI e ∧ nI e ≤ nI ec) = 0 := by rw [bz_t ⟨nI_pos' (by omega), q2⟩]; decide
    refine ⟨fun q3 => ?_, fun q3 => ?_⟩
    · have he0 : e = 0 := by
        rw [show (0 : Int32) = nI 0 from rfl, nI_leI (by omega) (by omega)] at q3
        omega
      subst he0
      refine clog_loop hE hl 0 (by omega) ?_
      refine ok_X9_wanted hE ?_
      unfold vc_X9_wanted
      rw [h2, cl (by omega)]
      refine sp_in hE (br_f hin (sp_isPartp hE hI.2.1 hp (nb_t (by decide) ⟨fun z => absurd rfl z, fun _ => ⟨ip, ?_⟩⟩)))
      show K (V 301 p 0) _ V
      rw [a3, cl (by omega)]
      exact hK _
    · have he1 : 1 ≤ e := by
        rcases Nat.eq_zero_or_pos e with z | z
        · subst z
          exact absurd (by decide) q3
        · exact z
      obtain ⟨g1, g2, g3, g4, g5⟩ := h4 e he1 he
      rw [cl (by omega), g1]
      have hne : ¬ nI e = 0 := nI_ne0 (by omega) (by omega)
      refine ⟨inI (by omega) (by decide), fun q4 => ?_, fun q4 => ?_⟩
      · have q4' : p < es e := (nI_ltI (by omega) (by omega)).mp q4
        refine clog_loop hE hl e (by omega) ?_
        refine ok_X9_wanted hE ?_
        unfold vc_X9_wanted
        rw [h2, cl (by omega), li 40, pk_mul, nI_add]
        refine sp_in hE (br_f hin (sp_isPartp hE hI.2.1 hp (nb_t (by decide) (nb_t hne ⟨inI (by omega) (by decide), ?_⟩))))
        rw [g2, cl (by omega), g5 p q4']
        exact br_f (lt_nle q4) ⟨inI (by omega) (by decide), hK _⟩
      · refine ok_X9_wanted hE ?_
        unfold vc_X9_wanted
        rw [h2, cl (by omega)]
        refine sp_in hE (br_f hin (sp_isPartp hE hI.2.1 hp (nb_t (by decide) (nb_t hne ⟨inI (by omega) (by decide), ?_⟩))))
        rw [g2]
        exact br_t (nlt_le q4) (hK _)
/-- a new edition in the class -/
def kE (V : Vt) (ec : Nat) (x y z : Int32) : Vt := up3 (up3 (up3 (up3 V 406 0 0 (nI (ec + 1))) 401 0 (ec + 1) x) 402 0 (ec + 1) y) 403 0 (ec + 1) z
theorem sp_keepE {x y : Int32} {K : Int32 → Vt → Prop} (hE : Sg E) (h1 : V 406 0 0 = nI ec) (h3 : ec < 60) (h : K (nI (ec + 1)) (kE V ec x y (V 405 0 0))) : C_X3_keepEdition l G E V x y K := by
  refine ok_X3_keepEdition hE ?_
  unfold vc_X3_keepEdition
  rw [h1]
  have e1 : up3 V 406 0 0 (nI ec + 1) 406 0 0 = nI (ec + 1) := by rw [up3_s, nI_1]
  refine br_t (nI_lt (b := 60) (by omega) (by decide)) ?_
  simp only [e1, up3_f (f' := 406) (show (406 : Nat) ≠ 401 by decide), up3_f (f' := 406) (show (406 : Nat) ≠ 402 by decide), up3_f (f' := 406) (show (406 : Nat) ≠ 403 by decide), up3_f (f' := 405) (show (405 : Nat) ≠ 406 by decide), up3_f (f' := 405) (show (405 : Nat) ≠ 401 by decide), up3_f (f' := 405) (show (405 : Nat) ≠ 402 by decide), cl (show ec + 1 < 2 ^ 31 by omega)]
  rw [nI_1]
  exact ⟨inI (by omega) (by decide), inI (by omega) (by decide), inI (by omega) (by decide), h⟩
/-- a new edition in the model -/
theorem sp_edition {K : Vt → Prop} (hE : Sg E) (hP : PM V n (D 0) on) (h1 : V 1024 0 0 = nI ec) (h3 : ec < 60) (h : ∀ V', Of [1024, 1025, 1026] V V' → V' 1024 0 0 = nI (ec + 1) → V' 1025 0 (ec + 1) = nI n → (∀ e, e ≠ ec + 1 → V' 1025 0 e = V 1025 0 e) → (∀ p, p < n → V' 1026 0 (40 * (ec + 1) + p) = V 1003 0 p) → (∀ k, (k < 40 * (ec + 1) ∨ 40 * (ec + 1) + n ≤ k) → V' 1026 0 k = V 1026 0 k) → K V') : C_X9_edition l G E V K := by
  have hn := hP.2.1
  refine ok_X9_edition hE ?_
  unfold vc_X9_edition
  rw [h1, up3_s, nI_1, cl (by omega), up3_f (f' := 1001) (by decide), hP.1]
  obtain ⟨V1, hV1⟩ : ∃ V1, V1 = up3 (up3 V 1024 0 0 (nI (ec + 1))) 1025 0 (ec + 1) (nI n) := ⟨_, rfl⟩
  rw [← hV1]
  have hO1 : Of [1024, 1025, 1026] V V1 := by
    rw [hV1]
    exact (Of.up1 (by decide)).up (by decide)
  have k1 : V1 1024 0 0 = nI (ec + 1) := by rw [hV1, up3_f (by decide), up3_s]
  have k2 : V1 1025 0 (ec + 1) = nI n := by rw [hV1, up3_s]
  have k3 : ∀ e, e ≠ ec + 1 → V1 1025 0 e = V 1025 0 e := fun e he => by rw [hV1, up3_j he, up3_f (by decide)]
  have k4 : V1 1026 = V 1026 := by rw [hV1, up3_row0 (by decide), up3_row0 (by decide)]
  refine ⟨inI (by omega) (by decide), ?_⟩
  have loop : ∀ (m i : Nat) (V2 : Vt), i + m = n → Of [1026] V1 V2 → (∀ p, p < i → V2 1026 0 (40 * (ec + 1) + p) = V 1003 0 p) → (∀ k, (k < 40 * (ec + 1) ∨ 40 * (ec + 1) + i ≤ k) → V2 1026 0 k = V 1026 0 k) → A_X9_edition_25 l G E V2 (nI i) K := by
    intro m
    induction m with
    | zero =>
      intro i V2 hi hO2 w1 w2
      have hi : i = n := by omega
      subst hi
      refine ok_X9_edition_25 hE ?_
      unfold vc_X9_edition_25
      rw [hO2 1001 (by decide), hO1 1001 (by decide), hP.1]
      refine br_t (nI_le (Nat.le_refl _) (by omega)) (h V2 (hO1.tr (hO2.mono (by decide))) (by rw [hO2 1024 (by decide)]; exact k1) (by rw [hO2 1025 (by decide)]; exact k2) (fun e he => by rw [hO2 1025 (by decide)]; exact k3 e he) w1 w2)
    | succ m ih =>
      intro i V2 hi hO2 w1 w2
      refine ok_X9_edition_25 hE ?_
      unfold vc_X9_edition_25
      rw [hO2 1001 (by decide), hO1 1001 (by decide), hP.1, hO2 1024 (by decide), k1, li 40, pk_mul, nI_add, cl (by omega), cl (by omega), nI_1, hO2 1003 (by decide), hO1 1003 (by decide)]
      refine br_f (nI_ge (by omega) (by omega)) ⟨inI (by omega) (by decide), inI (by omega) (by decide), ih (i + 1) _ (by omega) (hO2.up (by decide)) (fun p hp => ?_) (fun k hk => ?_)⟩
      · by_cases e : p = i
        · subst e
          rw [up3_s]
        · rw [up3_j (by omega)]
          exact w1 p (by omega)
      · rw [up3_j (by omega)]
        exact w2 k (by omega)
  exact loop n 0 V1 (by omega) (Of.rf _ _) (fun p hp => by omega) (fun k _ => by rw [k4])
/-- both kept an edition of part p -/
theorem IE.next {V' : Vt} {p : Nat} {y : Int32} {es' : Nat → Nat} (h : IE V n ec es) (hp : p < n) (h3 : ec < 60) (hes : es' = fun e => if e = ec + 1 then n else es e) (e1 : V' 406 0 0 = nI (ec + 1)) (e2 : V' 401 0 = upd (V 401 0) (ec + 1) (nI p)) (e3 : V' 402 0 = upd (V 402 0) (ec + 1) y) (e4 : V' 403 0 = upd (V 403 0) (ec + 1) (nI n)) (e5 : V' 301 = V 301)
    (f1 : V' 1024 0 0 = nI (ec + 1)) (f2 : V' 1025 0 (ec + 1) = nI n) (f3 : ∀ e, e ≠ ec + 1 → V' 1025 0 e = V 1025 0 e) (f4 : ∀ q, q < n → V' 1026 0 (40 * (ec + 1) + q) = V' 309 q 0) (f5 : ∀ k, (k < 40 * (ec + 1) ∨ 40 * (ec + 1) + n ≤ k) → V' 1026 0 k = V 1026 0 k) (hn : n ≤ 40) (g : ∀ q, q < n → V' 309 q 0 = if q = p then y else V 309 q 0) : IE V' n (ec + 1) es' := by
  obtain ⟨h1, h2, -, h4, h5⟩ := h
  subst hes
  have cold : ∀ e q, e ≤ ec → clog V' e q = clog V e q := fun e q he => clog_of e (by rw [e5]) (fun k a b => by rw [e2, e3, pk_un (by omega), pk_un (by omega)]; exact ⟨rfl, rfl⟩)
  have cnew : ∀ q, q < n → clog V' (ec + 1) q = V' 309 q 0 := fun q hq => by
    unfold clog
    rw [e2, e3, pk_us, pk_us, g q hq, cold ec q (Nat.le_refl _)]
    by_cases e : q = p
    · subst e
      rw [if_pos rfl, if_pos rfl]
    · rw [if_neg e, if_neg (fun z => e ((nI_eq (by omega) (by omega)).mp z).symm)]
      exact (h5 q hq).symm
  refine ⟨e1, f1, by omega, fun e a b => ?_, fun q hq => (cnew q hq).symm⟩
  unfold IEe
  by_cases he : e = ec + 1
  · subst he
    dsimp only
    rw [if_pos rfl, e4, e2, pk_us, pk_us]
    exact ⟨rfl, f2, Nat.le_refl _, ⟨p, hp, rfl⟩, fun q hq => by rw [cnew q hq]; exact f4 q hq⟩
  · obtain ⟨g1, g2, g3, g4, g5⟩ := h4 e a (by omega)
    dsimp only
    rw [if_neg he, e4, e2, pk_un he, pk_un he, f3 e he]
    exact ⟨g1, g2, g3, g4, fun q hq => by rw [f5 _ (Or.inl (by omega)), cold e q (by omega)]; exact g5 q hq⟩
theorem IP.courses (h : IP E V n D on sn) {p v : Nat} (hp : p < n) (hv : 1 ≤ v) (hv2 : v ≤ 30) (h0 : D 4 p = 0) : IP E (up3 (up3 V 309 p 0 (nI v)) 1003 0 p (nI v)) n (upD D 1 p v) on sn := by
  obtain ⟨h1, h2, h3⟩ := h
  have hO : Of [309, 1003] V (up3 (up3 V 309 p 0 (nI v)) 1003 0 p (nI v)) := (Of.up1 (by simp)).up (by simp)
  have g : ∀ f, f ∉ [309, 1003] → up3 (up3 V 309 p 0 (nI v)) 1003 0 p (nI v) f = V f := hO
  refine ⟨?_, ?_, fun q hq => ?_⟩
  · rw [upD_k (by decide)]
    exact h1.of hO (by decide) (by decide) (by decide) (by decide)
  · rw [upD_k (by decide)]
    exact h2.of hO (by decide) (by decide) (by decide) (by decide)
  · obtain ⟨a1, a2, a3, a4, a5, a6, a7, a8, a9, a10, a11, a12, a13⟩ := h3 q hq
    unfold IPp
    rw [cenB_of hO (by decide) (by decide) (by decide), g 300 (by decide), g 301 (by decide), g 302 (by decide), g 303 (by decide), g 304 (by decide), g 306 (by decide), g 310 (by decide), g 311 (by decide), g 312 (by decide), g 313 (by decide), g 1002 (by decide), g 1004 (by decide), g 1005 (by decide), g 1006 (by decide), g 1007 (by decide), g 1008 (by decide), g 1009 (by decide), g 1010 (by decide), g 1011 (by decide), g 1012 (by decide), g 1013 (by decide), g 1014 (by decide), g 1017 (by decide)]
    rw [upD_k (k' := 0) (by decide), upD_k (k' := 2) (by decide), upD_k (k' := 3) (by decide), upD_k (k' := 4) (by decide), upD_k (k' := 5) (by decide), upD_k (k' := 6) (by decide), upD_k (k' := 7) (by decide)]
    refine ⟨a1, ?_, a3, a4, a5, a6, a7, ⟨a8.1, a8.2.1, ?_⟩, a9, ⟨?_, a10.2⟩, a11, a12, a13⟩
    · by_cases e : q = p
      · subst e
        rw [upD_s, up3_f (f' := 309) (by decide), up3_s, up3_s]
        exact ⟨rfl, rfl, hv, hv2⟩
      · rw [upD_p e, up3_f (f' := 309) (by decide), up3_i e, up3_j e, up3_f (f' := 1003) (by decide)]
        exact a2
    · by_cases e : q = p
      · subst e
        rw [h0]
        exact Nat.zero_le _
      · rw [upD_p e]
        exact a8.2.2
    · rcases a10.1 with z | z
      · exact Or.inl z
      · by_cases e : q = p
        · subst e
          have := z.2.2
          have := a2.2.2.1
          omega
        · rw [upD_p e]
          exact Or.inr z
def editS : List Nat := [309, 401, 402, 403, 406, 1003, 1024, 1025, 1026]
theorem bo_edit {x y : Int32} {K : Int32 → Int32 → Vt → Prop} (hE : Sg E) (hI : IP E V n D on sn) (hS : IS V n D on) (hX : IE V n ec es) (hK : ∀ r V2 D' ec' es', IP E V2 n D' on sn → IS V2 n D' on → IE V2 n ec' es' → Of editS V V2 → (∀ k, k ≠ 1 → D' k = D k) → K r r V2) : C_X8_edit l G E V x y (fun r V1 => C_X9_edit l G E V1 x y (fun r' V2 => K r r' V2)) := by
  have hn := hI.1.2.1
  have hk0 : ∀ r, K r r V := fun r => hK r V D ec es hI hS hX (Of.rf _ _) (fun _ _ => rfl)
  refine ok_X8_edit hE ?_
  unfold vc_X8_edit
  refine sp_find hE hI.1 (fun q => ⟨fun _ => ?_, fun t ht => by cases ht⟩) (fun p hp e => ⟨fun q => (by cases q), fun t ht => ?_⟩)
  · refine ok_X9_edit hE ?_
    unfold vc_X9_edit
    exact sp_isPart hE hI.2.1 (fun _ => br_t rfl (hk0 _)) (fun p hp e => (no_part hn q hp e).elim)
  · cases ht
    subst e
    have ip : vp_in (nI p) 40 := inI (by omega) (by omega)
    have hl := (hI.1.2.2 p hp).2.1
    obtain ⟨a1, a2, a3, a4, a5, a6, a7, a8, a9, a10, a11, a12, a13⟩ := hI.2.2 p hp
    have hX' := hX
    obtain ⟨x1, x2, x3, x4, x5⟩ := hX'
    have mbad : ¬ ((1 : Int32) ≤ y ∧ y ≤ 30) → C_X9_edit l G E V (nI p) y (fun r' V2 => K (-1) r' V2) := by
      intro hb
      refine ok_X9_edit hE ?_
      unfold vc_X9_edit
      exact sp_isPartp hE hI.2.1 hp (br_f (by decide) (sp_in hE (nb_f (bz_f hb) (hk0 _))))
    refine ⟨hl, fun q => mbad (fun z => lt_nle q z.1), fun q => ⟨fun q2 => ?_, fun q2 => mbad (fun z => q2 z.2)⟩⟩
    have hin : ¬ bz ((1 : Int32) ≤ y ∧ y ≤ 30) = 0 := by rw [bz_t ⟨nlt_le q, q2⟩]; decide
    refine sp_begun hE hl ⟨fun q3 => ?_, fun q3 => ?_⟩
    · rw [bz0, a8.1, nI_pos0 (by omega)] at q3
      have hd4 : D 4 p = 0 := by omega
      have hm0 : V 1012 0 p ≤ 0 := by rw [a8.2.1, hd4]; decide
      refine ⟨fun q4 => ?_, fun q4 => ?_⟩
      · rw [x1] at q4
        have hlt : ec < 60 := (nI_ltI (b := 60) (by omega) (by decide)).mp q4
        obtain ⟨v, hv, rfl⟩ : ∃ v, v ≤ 30 ∧ y = nI v := by
          refine nI_of2 (M := 30) (by decide) (fun z => q ?_) q2
          rw [i_lt] at z ⊢
          have e0 : (0 : Int32).toInt = 0 := by decide
          have e1 : (1 : Int32).toInt = 1 := by decide
          omega
        have hv1 : 1 ≤ v := by
          rcases Nat.eq_zero_or_pos v with z | z
          · subst z
            exact absurd (by decide) q
          · exact z
        refine sp_keepE (ec := ec) hE (by rw [up3_f (by decide)]; exact x1) hlt ?_
        rw [up3_f (f' := 405) (by decide), hI.1.1]
        obtain ⟨V1, hV1⟩ : ∃ V1, V1 = kE (up3 V 309 p 0 (nI v)) ec (nI p) (nI v) (nI n) := ⟨_, rfl⟩
        rw [← hV1]
        have hO1 : Of [309, 401, 402, 403, 406] V V1 := by
          rw [hV1]
          unfold kE
          exact ((((Of.up1 (by decide)).up (by decide)).up (by decide)).up (by decide)).up (by decide)
        have hP1 : PM V1 n (D 0) on := hI.2.1.of hO1 (by decide) (by decide) (by decide) (by decide)
        refine ok_X9_edit hE ?_
        unfold vc_X9_edit
        rw [cl (by omega)]
        refine sp_isPartp hE hP1 hp (br_f (by decide) (sp_in hE (nb_t hin ⟨ip, br_t (by rw [hO1 1012 (by decide)]; exact hm0) (nb_t (by rw [hO1 1024 (by decide), x2]; exact fun z => absurd ((nI_eq (b := 60) (by omega) (by decide)).mp z) (by omega)) ⟨ip, ?_⟩)⟩)))
        refine sp_edition (ec := ec) hE (hP1.of (S := [1003]) (Of.up1 (by decide)) (by decide) (by decide) (by decide) (by decide)) (by rw [up3_f (by decide), hO1 1024 (by decide)]; exact x2) hlt (fun V2 hO2 w1 w2 w3 w4 w5 => ?_)
        rw [w1]
        have e309 : ∀ a, V2 309 a 0 = if a = p then nI v else V 309 a 0 := fun a => by
          rw [hO2 309 (by decide), up3_row0 (by decide), hV1]
          unfold kE
          rw [up3_row0 (by decide), up3_row0 (by decide), up3_row0 (by decide), up3_row0 (by decide)]
          unfold up3
          by_cases e : a = p
          · simp [e]
          · simp [e]
        have hOx : Of [401, 402, 403, 406, 1024, 1025, 1026] (up3 (up3 V 309 p 0 (nI v)) 1003 0 p (nI v)) V2 := by
          intro f hf
          have hf' : f ≠ 401 ∧ f ≠ 402 ∧ f ≠ 403 ∧ f ≠ 406 ∧ f ≠ 1024 ∧ f ≠ 1025 ∧ f ≠ 1026 := by simp at hf; exact hf
          rw [hO2 f (by simp; omega)]
          by_cases e : f = 1003
          · subst e
            funext a b
            unfold up3
            rw [hO1 1003 (by decide)]
            simp
          · rw [up3_row0 e, up3_row0 e, hV1]
            unfold kE
            rw [up3_row0 (by omega), up3_row0 (by omega), up3_row0 (by omega), up3_row0 (by omega)]
        have hI2 := (hI.courses hp hv1 hv hd4).of hOx (by decide)
        have hOf : Of editS V V2 := by
          have hz : Of editS V (up3 (up3 V 309 p 0 (nI v)) 1003 0 p (nI v)) := (Of.up1 (by decide)).up (by decide)
          exact hz.tr (hOx.mono (by decide))
        refine hK _ V2 _ (ec + 1) (fun e => if e = ec + 1 then n else es e) hI2 ?_ ?_ hOf (fun k hk => upD_k hk)
        · unfold IS
          rw [upD_k (by decide), cF_of hOf (by decide)]
          exact hS
        · have k40 : ∀ f, f ∈ [401, 402, 403, 406] → V2 f = kE (up3 V 309 p 0 (nI v)) ec (nI p) (nI v) (nI n) f := fun f hf => by
            have hf' : f = 401 ∨ f = 402 ∨ f = 403 ∨ f = 406 := by simpa using hf
            rw [hO2 f (by simp; omega), up3_row0 (by omega), hV1]
          refine hX.next (y := nI v) hp hlt rfl ?_ ?_ ?_ ?_ (hOf 301 (by decide)) w1 w2 (fun e he => ?_) (fun q9 hq9 => ?_) (fun k hk => ?_) hn (fun q9 _ => e309 q9)
          · rw [k40 406 (by decide)]
            unfold kE
            rw [up3_f (by decide), up3_f (by decide), up3_f (by decide), up3_s]
          · rw [k40 401 (by decide)]
            unfold kE
            rw [up3_row0 (by decide), up3_row0 (by decide), up3_row]
            rw [up3_row0 (by decide), up3_row0 (by decide)]
          · rw [k40 402 (by decide)]
            unfold kE
            rw [up3_row0 (by decide), up3_row]
            rw [up3_row0 (by decide), up3_row0 (by decide), up3_row0 (by decide)]
          · rw [k40 403 (by decide)]
            unfold kE
            rw [up3_row]
            rw [up3_row0 (by decide), up3_row0 (by decide), up3_row0 (by decide), up3_row0 (by decide)]
          · rw [w3 e he, up3_f (by decide), hO1 1025 (by decide)]
          · rw [w4 q9 hq9, e309]
            by_cases e : q9 = p
            · subst e
              rw [up3_s, if_pos rfl]
            · obtain ⟨-, b2, -⟩ := hI.2.2 q9 hq9
              rw [up3_j e, if_neg e, hO1 1003 (by decide), b2.1, b2.2.1]
          · rw [w5 k hk, up3_f (by decide), hO1 1026 (by decide)]
      · rw [x1] at q4
        have he : ec = 60 := by
          have := (nI_leI (a := 60) (by decide) (by omega)).mp (nlt_le q4)
          omega
        refine ok_X9_edit hE ?_
        unfold vc_X9_edit
        rw [cl (by omega)]
        exact sp_isPartp hE hI.2.1 hp (br_f (by decide) (sp_in hE (nb_t hin ⟨ip, br_t hm0 (nb_f (by rw [x2, he]; rfl) (hk0 _))⟩)))
    · rw [bz0, a8.1, nI_pos0 (by omega)] at q3
      refine ok_X9_edit hE ?_
      unfold vc_X9_edit
      rw [cl (by omega)]
      exact sp_isPartp hE hI.2.1 hp (br_f (by decide) (sp_in hE (nb_t hin ⟨ip, br_f (by rw [a8.2.1]; exact nI_nle (by omega) (by omega)) (hk0 _)⟩)))
end Edit

/-! OPS: prop, strike -/
section Ops3
variable {l : Launch} {G : Gt} {E : Et} {V : Vt} {n : Nat} {D on sn : Nat → Nat → Nat}
theorem IP.prop (h : IP E V n D on sn) {p v : Nat} (hp : p < n) (hv : v ≤ 100000) : IP E (up3 (up3 V 312 p 0 (nI v)) 1011 0 p (nI v)) n (upD D 7 p v) on sn := by
  obtain ⟨h1, h2, h3⟩ := h
  have hO : Of [312, 1011] V (up3 (up3 V 312 p 0 (nI v)) 1011 0 p (nI v)) := (Of.up1 (by simp)).up (by simp)
  have g : ∀ f, f ∉ [312, 1011] → up3 (up3 V 312 p 0 (nI v)) 1011 0 p (nI v) f = V f := hO
  refine ⟨?_, ?_, fun q hq => ?_⟩
  · rw [upD_k (by decide)]
    exact h1.of hO (by decide) (by decide) (by decide) (by decide)
  · rw [upD_k (by decide)]
    exact h2.of hO (by decide) (by decide) (by decide) (by decide)
  · obtain ⟨a1, a2, a3, a4, a5, a6, a7, a8, a9, a10, a11, a12, a13⟩ := h3 q hq
    unfold IPp
    rw [cenB_of hO (by decide) (by decide) (by decide), g 300 (by decide), g 309 (by decide), g 301 (by decide), g 302 (by decide), g 303 (by decide), g 304 (by decide), g 306 (by decide), g 310 (by decide), g 311 (by decide), g 313 (by decide), g 1002 (by decide), g 1003 (by decide), g 1004 (by decide), g 1005 (by decide), g 1006 (by decide), g 1007 (by decide), g 1008 (by decide), g 1009 (by decide), g 1010 (by decide), g 1012 (by decide), g 1013 (by decide), g 1014 (by decide), g 1017 (by decide)]
    rw [upD_k (k' := 0) (by decide), upD_k (k' := 1) (by decide), upD_k (k' := 2) (by decide), upD_k (k' := 3) (by decide), upD_k (k' := 4) (by decide), upD_k (k' := 5) (by decide), upD_k (k' := 6) (by decide)]
    refine ⟨a1, a2, a3, a4, a5, a6, ?_, a8, a9, a10, a11, a12, a13⟩
    by_cases e : q = p
    · subst e
      rw [upD_s, up3_f (f' := 312) (by decide), up3_s, up3_s]
      exact ⟨rfl, rfl, hv⟩
    · rw [upD_p e, up3_f (f' := 312) (by decide), up3_i e, up3_j e, up3_f (f' := 1011) (by decide)]
      exact a7
theorem up3_swap {V : Vt} {f i j f' i' j' : Nat} {v w : Int32} (h : f ≠ f') : up3 (up3 V f i j v) f' i' j' w = up3 (up3 V f' i' j' w) f i j v := by
  funext a b c
  unfold up3
  by_cases h1 : a = f' ∧ b = i' ∧ c = j'
  · rw [if_pos h1, if_neg (fun q => h (by omega)), if_pos h1]
  · rw [if_neg h1]
    by_cases h2 : a = f ∧ b = i ∧ c = j
    · rw [if_pos h2, if_pos h2]
    · rw [if_neg h2, if_neg h2, if_neg h1]
theorem IP.propF (h : IP E V n D on sn) {p v : Nat} (hp : p < n) (hv : v ≤ 100000) : mF (up3 V 1011 0 p (nI v)) (D 0) on n = cF (up3 V 312 p 0 (nI v)) (D 0) on n := by
  have hW := h.prop hp hv
  have h1 := hW.w.fall h.1.2.1
  rw [upD_k (by decide)] at h1
  have m1 : mF (up3 (up3 V 312 p 0 (nI v)) 1011 0 p (nI v)) (D 0) on n = mF (up3 V 1011 0 p (nI v)) (D 0) on n := by
    rw [up3_swap (by decide)]
    exact mF_of (S := [312]) (Of.up1 (by decide)) (by decide)
  have m2 : cF (up3 (up3 V 312 p 0 (nI v)) 1011 0 p (nI v)) (D 0) on n = cF (up3 V 312 p 0 (nI v)) (D 0) on n := cF_of (S := [1011]) (Of.up1 (by decide)) (by decide)
  rw [← m1, ← m2, h1]
/-- with more of a prop all that stood stands -/
theorem IP.more (h : IP E V n D on sn) (hS : IS V n D on) {p v : Nat} (hp : p < n) (hv : v ≤ 100000) (hm : D 7 p ≤ v) : cF (up3 V 312 p 0 (nI v)) (D 0) on n = -5 := by
  have hn := h.1.2.1
  have hO : Of [312] V (up3 V 312 p 0 (nI v)) := Of.up1 (by decide)
  obtain ⟨M, m1, m2⟩ := h.w.loads hn (m := n) (Nat.le_refl n)
  have hw : cW (up3 V 312 p 0 (nI v)) (D 0) on n = cW V (D 0) on n := cW_of hO (by decide) (by decide) (by decide) (by decide) (by decide) (by decide)
  have hb : bgB (up3 V 312 p 0 (nI v)) = bgB V := by
    funext q
    unfold bgB
    rw [cenB_of hO (by decide) (by decide) (by decide), hO 310 (by decide)]
  unfold IS cF at hS
  rw [fal_iff hn n (Nat.le_refl n)] at hS
  unfold cF
  rw [hw, hb, hO 304 (by decide), fal_iff hn n (Nat.le_refl n)]
  intro q q1 q2 q3
  obtain ⟨s1, s2⟩ := hS q q1 q2 q3
  refine ⟨s1, ?_⟩
  by_cases e : q = p
  · subst e
    obtain ⟨-, -, -, -, -, a6, a7, -⟩ := h.2.2 q q2
    rw [up3_s]
    have hM := m2 q q2
    rw [a6.2.1, a7.1, m1 q q2, li 4, pk_div (by omega) (by decide) (by decide), nI_add, nI_add] at s2
    rw [a6.2.1, m1 q q2, li 4, pk_div (by omega) (by decide) (by decide), nI_add, nI_add]
    have h5 := a6.2.2.2.1
    have h7 := a7.2.2
    have : nI (D 5 q + D 7 q + M q / 4) ≤ nI (D 5 q + v + M q / 4) := nI_le (by omega) (by omega)
    rw [i_le] at s2 this ⊢
    omega
  · rw [up3_i e]
    exact s2
def propS : List Nat := [312, 1011, 600, 601, 1028, 1029]
theorem bo_prop {x y : Int32} {K : Int32 → Int32 → Vt → Prop} (hE : Sg E) (hI : IP E V n D on sn) (hS : IS V n D on) (hK : ∀ r V2 D', IP E V2 n D' on sn → IS V2 n D' on → Of propS V V2 → (∀ k, k ≠ 7 → D' k = D k) → K r r V2) : C_X8_prop l G E V x y (fun r V1 => C_X9_prop l G E V1 x y (fun r' V2 => K r r' V2)) := by
  have hn := hI.1.2.1
  have hbad : K (-1) (-1) V := hK _ V D hI hS (Of.rf _ _) (fun _ _ => rfl)
  refine ok_X8_prop hE ?_
  unfold vc_X8_prop
  refine sp_find hE hI.1 (fun q => ⟨fun _ => ?_, fun t ht => by cases ht⟩) (fun p hp e => ⟨fun q => (by cases q), fun t ht => ?_⟩)
  · refine ok_X9_prop hE ?_
    unfold vc_X9_prop
    exact sp_isPart hE hI.2.1 (fun _ => br_t rfl hbad) (fun p hp e => by
      subst e
      rcases q with q | q
      · exact absurd q (nI_pos (by omega))
      · exact absurd q (nI_ge hp (by omega)))
  · cases ht
    subst e
    have ip : vp_in (nI p) 40 := inI (by omega) (by omega)
    have mbad : ¬ ((0 : Int32) ≤ y ∧ y ≤ 100000) → C_X9_prop l G E V (nI p) y (fun r' V2 => K (-1) r' V2) := by
      intro hb
      refine ok_X9_prop hE ?_
      unfold vc_X9_prop
      exact sp_isPartp hE hI.2.1 hp (br_f (by decide) (sp_in hE (nb_f (bz_f hb) hbad)))
    refine ⟨(hI.1.2.2 p hp).2.1, fun q => mbad (fun z => lt_nle q z.1), fun q => ⟨fun q2 => ?_, fun q2 => mbad (fun z => q2 z.2)⟩⟩
    obtain ⟨v, hv, rfl⟩ : ∃ v, v ≤ 100000 ∧ y = nI v := nI_of2 (M := 100000) (by decide) q q2
    obtain ⟨-, -, -, -, -, -, a7, -⟩ := hI.2.2 p hp
    have hF := hI.propF hp hv
    have hz : bz ((0 : Int32) ≤ nI v ∧ nI v ≤ 100000) ≠ 0 := by rw [bz_t ⟨nI_pos' (by omega), q2⟩]; decide
    refine sp_stands hE (hI.1.of (S := [312]) (Of.up1 (by decide)) (by decide) (by decide) (by decide) (by decide)) (fun V1 hO => ⟨fun q5 => ?_, fun q5 => ?_⟩)
    · rw [bz0] at q5
      have q5 := Decidable.not_not.mp q5
      have hP1 : PM V1 n (D 0) on := (hI.2.1.cl (S := [312]) (Of.up1 (by decide)) (by decide)).cl hO (by decide)
      have hOm : ∀ f, f ∉ [312, 600, 601] → V1 f = V f := fun f hf => by rw [hO f (fun q => hf (by simp at q ⊢; omega)), up3_row0 (fun e => hf (by simp [e]))]
      have fin : ∀ V2, Of [1028, 1029] (up3 V1 1011 0 p (nI v)) V2 → K (V 312 p 0) (V1 1011 0 p) V2 := by
        intro V2 hO2
        have hOx : Of [600, 601, 1028, 1029] (up3 (up3 V 312 p 0 (nI v)) 1011 0 p (nI v)) V2 := by
          intro f hf
          rw [hO2 f (fun q => hf (by simp at q ⊢; omega))]
          by_cases e : f = 1011
          · subst e
            funext a b
            unfold up3
            rw [hOm 1011 (by decide)]
            simp
          · rw [up3_row0 e, up3_row0 e, hO f (fun q => hf (by simp at q ⊢; omega))]
        have hI2 := (hI.prop hp hv).of hOx (by decide)
        rw [hOm 1011 (by decide), a7.1, a7.2.1]
        refine hK _ V2 _ hI2 ?_ ?_ (fun k hk => upD_k hk)
        · unfold IS
          rw [upD_k (by decide), cF_of hOx (by decide), cF_of (V := up3 V 312 p 0 (nI v)) (S := [1011]) (Of.up1 (by decide)) (by decide)]
          exact q5
        · exact (((Of.up1 (f := 312) (by decide)).up (by decide)).tr (hOx.mono (by decide)))
      have mfall : mF (up3 V1 1011 0 p (nI v)) (D 0) on n = -5 := by
        rw [← q5, ← hF]
        refine mF_of (S := [312, 600, 601]) (fun f hf => ?_) (by decide)
        by_cases e : f = 1011
        · subst e
          funext a b
          unfold up3
          rw [hOm 1011 hf]
        · rw [up3_row0 e, up3_row0 e, hOm f hf]
      have hPm : PM (up3 V1 1011 0 p (nI v)) n (D 0) on := hP1.of (S := [1011]) (Of.up1 (by simp)) (by decide) (by decide) (by decide) (by decide)
      refine ok_X9_prop hE ?_
      unfold vc_X9_prop
      rw [cl (by omega)]
      exact sp_isPartp hE hP1 hp (br_f (by decide) (sp_in hE (nb_t hz ⟨ip, ip, fun _ => fin _ (Of.rf _ _), fun _ => sp_mfall hE hPm (fun V2 hO2 => nb_f mfall (fin V2 hO2))⟩)))
    · rw [bz0] at q5
      have hO1 := hO.undo (w := V 312 p 0) (by decide) rfl
      obtain ⟨V3, hV3⟩ : ∃ V3, V3 = up3 V1 312 p 0 (V 312 p 0) := ⟨_, rfl⟩
      rw [← hV3] at hO1 ⊢
      have hI3 := hI.of hO1 (by decide)
      have hlt : ¬ V3 1011 0 p ≤ nI v := by
        rw [hO1 1011 (by decide), a7.2.1]
        intro z
        rw [nI_leI (by omega) (by omega)] at z
        exact q5 (hI.more hS hp hv z)
      have mfall : ¬ mF (up3 V3 1011 0 p (nI v)) (D 0) on n = -5 := by
        rw [hI3.propF hp hv]
        intro z9
        apply q5
        rw [← z9]
        refine (cF_of (S := [600, 601]) (fun f hf => ?_) (by decide)).symm
        by_cases e : f = 312
        · subst e
          funext a b
          unfold up3
          rw [hO1 312 (by decide)]
        · rw [up3_row0 e, up3_row0 e, hO1 f hf]
      have hPm : PM (up3 V3 1011 0 p (nI v)) n (D 0) on := hI3.2.1.of (S := [1011]) (Of.up1 (by simp)) (by decide) (by decide) (by decide) (by decide)
      refine ok_X9_prop hE ?_
      unfold vc_X9_prop
      rw [cl (by omega)]
      refine sp_isPartp hE hI3.2.1 hp (br_f (by decide) (sp_in hE (nb_t hz ⟨ip, ip, fun z => absurd z hlt, fun _ => sp_mfall hE hPm (fun V2 hO2 => nb_t mfall ⟨ip, ?_⟩)⟩)))
      have hO4 := hO2.undo (w := V3 1011 0 p) (by decide) rfl
      have hO5 : Of [600, 601, 1028, 1029] V (up3 V2 1011 0 p (V3 1011 0 p)) := (hO1.mono (by decide)).tr (hO4.mono (by decide))
      exact hK _ _ D (hI.of hO5 (by decide)) (hS.of hO5 (by decide)) (hO5.mono (by decide)) (fun _ _ => rfl)
/-- a struck arch -/
theorem IP.strike (h : IP E V n D on sn) {p : Nat} (hp : p < n) (hc : cenB V p = true) (hw : D 4 p = D 1 p) : IP E (up3 (up3 V 313 p 0 1) 1014 0 p 0) n D on sn := by
  obtain ⟨h1, h2, h3⟩ := h
  have hO : Of [313, 1014] V (up3 (up3 V 313 p 0 1) 1014 0 p 0) := (Of.up1 (by simp)).up (by simp)
  have g : ∀ f, f ∉ [313, 1014] → up3 (up3 V 313 p 0 1) 1014 0 p 0 f = V f := hO
  refine ⟨h1.of hO (by decide) (by decide) (by decide) (by decide), h2.of hO (by decide) (by decide) (by decide) (by decide), fun q hq => ?_⟩
  obtain ⟨a1, a2, a3, a4, a5, a6, a7, a8, a9, a10, a11, a12, a13⟩ := h3 q hq
  unfold IPp
  rw [g 300 (by decide), g 309 (by decide), g 301 (by decide), g 302 (by decide), g 303 (by decide), g 304 (by decide), g 306 (by decide), g 310 (by decide), g 311 (by decide), g 312 (by decide), g 1002 (by decide), g 1003 (by decide), g 1004 (by decide), g 1005 (by decide), g 1006 (by decide), g 1007 (by decide), g 1008 (by decide), g 1009 (by decide), g 1010 (by decide), g 1011 (by decide), g 1012 (by decide), g 1013 (by decide), g 1017 (by decide)]
  refine ⟨a1, a2, a3, a4, a5, a6, a7, a8, a9, ?_, a11, a12, a13⟩
  by_cases e : q = p
  · subst e
    rw [up3_f (f' := 313) (by decide), up3_s, up3_s]
    refine ⟨Or.inr ⟨rfl, (cenB_iff.mp hc).1, hw⟩, ?_⟩
    rw [bz_f]
    intro z
    have := (cenB_iff.mp z).2.2
    rw [up3_f (f' := 313) (by decide), up3_s] at this
    exact absurd this (by decide)
  · have hce : cenB (up3 (up3 V 313 p 0 1) 1014 0 p 0) q = cenB V q := by
      unfold cenB
      rw [g 300 (by decide), g 310 (by decide), up3_f (f' := 313) (by decide), up3_i e]
    rw [hce, up3_f (f' := 313) (by decide), up3_i e, up3_j e, up3_f (f' := 1014) (by decide)]
    exact a10
theorem IP.strikeF (h : IP E V n D on sn) {p : Nat} (hp : p < n) (hc : cenB V p = true) (hw : D 4 p = D 1 p) : mF (up3 V 1014 0 p 0) (D 0) on n = cF (up3 V 313 p 0 1) (D 0) on n := by
  have h1 := (h.strike hp hc hw).w.fall h.1.2.1
  have m1 : mF (up3 (up3 V 313 p 0 1) 1014 0 p 0) (D 0) on n = mF (up3 V 1014 0 p 0) (D 0) on n := by
    rw [up3_swap (by decide)]
    exact mF_of (S := [313]) (Of.up1 (by decide)) (by decide)
  have m2 : cF (up3 (up3 V 313 p 0 1) 1014 0 p 0) (D 0) on n = cF (up3 V 313 p 0 1) (D 0) on n := cF_of (S := [1014]) (Of.up1 (by decide)) (by decide)
  rw [← m1, ← m2, h1]
def strikeS : List Nat := [313, 1014, 600, 601, 1028, 1029]
theorem bo_strike {x : Int32} {K : Int32 → Int32 → Vt → Prop} (hE : Sg E) (hI : IP E V n D on sn) (hS : IS V n D on) (hK : ∀ r V2, IP E V2 n D on sn → IS V2 n D on → Of strikeS V V2 → K r r V2) : C_X8_strike l G E V x (fun r V1 => C_X9_strike l G E V1 x (fun r' V2 => K r r' V2)) := by
  have hn := hI.1.2.1
  have hsame : ∀ r, K r r V := fun r => hK _ V hI hS (Of.rf _ _)
  refine ok_X8_strike hE ?_
  unfold vc_X8_strike
  refine sp_find hE hI.1 (fun q => ⟨fun _ => ?_, fun t ht => by cases ht⟩) (fun p hp e => ⟨fun q => (by cases q), fun t ht => ?_⟩)
  · refine ok_X9_strike hE ?_
    unfold vc_X9_strike
    exact sp_isPart hE hI.2.1 (fun _ => nb_f rfl (hsame _)) (fun p hp e => by
      subst e
      rcases q with q | q
      · exact absurd q (nI_pos (by omega))
      · exact absurd q (nI_ge hp (by omega)))
  · cases ht
    subst e
    have ip : vp_in (nI p) 40 := inI (by omega) (by omega)
    have hl := (hI.1.2.2 p hp).2.1
    obtain ⟨a1, a2, a3, a4, a5, a6, a7, a8, a9, a10, a11, a12, a13⟩ := hI.2.2 p hp
    refine ⟨hl, sp_cent hE hl ⟨fun q => ?_, fun q => ?_⟩⟩
    · rw [bz0] at q
      have q := Decidable.not_not.mp q
      have h14 : ¬ V 1014 0 p = 0 := by rw [a10.2, bz_t q]; decide
      refine sp_whole hE hl ⟨fun q2 => ?_, fun q2 => ?_⟩
      · rw [bz0] at q2
        have q2 := Decidable.not_not.mp q2
        have q2m : V 1003 0 p ≤ V 1012 0 p := by rw [a2.2.1, a8.2.1, ← a2.1, ← a8.1]; exact q2
        have hdw : D 4 p = D 1 p := by
          rw [a2.1, a8.1, nI_leI (by omega) (by omega)] at q2
          have := a8.2.2
          omega
        refine ⟨inI (n := 3) (by decide) (by decide), fun q3 => ?_, fun q3 => ?_⟩
        · rw [cl3] at q3
          have q3m : V 1010 0 p ≤ V 1013 0 p := by rw [← a9, ← a6.2.2.2.2.2.2.2]; exact q3
          have hF := hI.strikeF hp q hdw
          refine sp_stands hE (hI.1.of (S := [313]) (Of.up1 (by decide)) (by decide) (by decide) (by decide) (by decide)) (fun V1 hO => ⟨fun q5 => ?_, fun q5 => ?_⟩)
          · rw [bz0] at q5
            have q5 := Decidable.not_not.mp q5
            have hP1 : PM V1 n (D 0) on := (hI.2.1.cl (S := [313]) (Of.up1 (by decide)) (by decide)).cl hO (by decide)
            have hOm : ∀ f, f ∉ [313, 600, 601] → V1 f = V f := fun f hf => by rw [hO f (fun q => hf (by simp at q ⊢; omega)), up3_row0 (fun e => hf (by simp [e]))]
            have mfall : mF (up3 V1 1014 0 p 0) (D 0) on n = -5 := by
              rw [← q5, ← hF]
              refine mF_of (S := [313, 600, 601]) (fun f hf => ?_) (by decide)
              by_cases e : f = 1014
              · subst e
                funext a b
                unfold up3
                rw [hOm 1014 hf]
              · rw [up3_row0 e, up3_row0 e, hOm f hf]
            have hPm : PM (up3 V1 1014 0 p 0) n (D 0) on := hP1.of (S := [1014]) (Of.up1 (by simp)) (by decide) (by decide) (by decide) (by decide)
            refine ok_X9_strike hE ?_
            unfold vc_X9_strike
            rw [cl (by omega)]
            refine sp_isPartp hE hP1 hp (nb_t (by decide) ⟨ip, nb_t (by rw [hOm 1014 (by decide)]; exact h14) ⟨ip, ip, br_t (by rw [hOm 1003 (by decide), hOm 1012 (by decide)]; exact q2m) ⟨ip, ip, br_t (by rw [hOm 1010 (by decide), hOm 1013 (by decide)]; exact q3m) ⟨ip, sp_mfall hE hPm (fun V2 hO2 => nb_f mfall ?_)⟩⟩⟩⟩)
            have hOx : Of [600, 601, 1028, 1029] (up3 (up3 V 313 p 0 1) 1014 0 p 0) V2 := by
              intro f hf
              rw [hO2 f (fun q => hf (by simp at q ⊢; omega))]
              by_cases e : f = 1014
              · subst e
                funext a b
                unfold up3
                rw [hOm 1014 (by decide)]
                simp
                rfl
              · rw [up3_row0 e, up3_row0 e, hO f (fun q => hf (by simp at q ⊢; omega))]
            refine hK _ V2 ((hI.strike hp q hdw).of hOx (by decide)) ?_ (((Of.up1 (f := 313) (by decide)).up (by decide)).tr (hOx.mono (by decide)))
            unfold IS
            rw [cF_of hOx (by decide), cF_of (V := up3 V 313 p 0 1) (S := [1014]) (Of.up1 (by decide)) (by decide)]
            exact q5
          · rw [bz0] at q5
            have hv0 : V 313 p 0 = 0 := (cenB_iff.mp q).2.2
            have hO1 := hO.undo (w := 0) (by decide) hv0.symm
            obtain ⟨V3, hV3⟩ : ∃ V3, V3 = up3 V1 313 p 0 0 := ⟨_, rfl⟩
            rw [← hV3] at hO1 ⊢
            have hI3 := hI.of hO1 (by decide)
            have hc3 : cenB V3 p = true := by rw [cenB_of hO1 (by decide) (by decide) (by decide)]; exact q
            have mfall : ¬ mF (up3 V3 1014 0 p 0) (D 0) on n = -5 := by
              rw [hI3.strikeF hp hc3 hdw]
              intro z9
              apply q5
              rw [← z9]
              refine (cF_of (S := [600, 601]) (fun f hf => ?_) (by decide)).symm
              by_cases e : f = 313
              · subst e
                funext a b
                unfold up3
                rw [hO1 313 (by decide)]
              · rw [up3_row0 e, up3_row0 e, hO1 f hf]
            have hPm : PM (up3 V3 1014 0 p 0) n (D 0) on := hI3.2.1.of (S := [1014]) (Of.up1 (by simp)) (by decide) (by decide) (by decide) (by decide)
            have h14' : V3 1014 0 p = 1 := by rw [hO1 1014 (by decide), a10.2, bz_t q]
            refine ok_X9_strike hE ?_
            unfold vc_X9_strike
            rw [cl (by omega)]
            refine sp_isPartp hE hI3.2.1 hp (nb_t (by decide) ⟨ip, nb_t (by rw [h14']; decide) ⟨ip, ip, br_t (by rw [hO1 1003 (by decide), hO1 1012 (by decide)]; exact q2m) ⟨ip, ip, br_t (by rw [hO1 1010 (by decide), hO1 1013 (by decide)]; exact q3m) ⟨ip, sp_mfall hE hPm (fun V2 hO2 => nb_t mfall ⟨ip, ?_⟩)⟩⟩⟩⟩)
            have hO4 := hO2.undo (w := vp_nar .boolean 1) (by decide) (by rw [h14']; rfl)
            have hO5 : Of [600, 601, 1028, 1029] V (up3 V2 1014 0 p (vp_nar .boolean 1)) := (hO1.mono (by decide)).tr (hO4.mono (by decide))
            exact hK _ _ (hI.of hO5 (by decide)) (hS.of hO5 (by decide)) (hO5.mono (by decide))
        · rw [cl3] at q3
          refine ok_X9_strike hE ?_
          unfold vc_X9_strike
          rw [cl (by omega)]
          exact sp_isPartp hE hI.2.1 hp (nb_t (by decide) ⟨ip, nb_t h14 ⟨ip, ip, br_t q2m ⟨ip, ip, br_f (by rw [← a9, ← a6.2.2.2.2.2.2.2]; exact q3) (hsame _)⟩⟩⟩)
      · rw [bz0] at q2
        refine ok_X9_strike hE ?_
        unfold vc_X9_strike
        rw [cl (by omega)]
        exact sp_isPartp hE hI.2.1 hp (nb_t (by decide) ⟨ip, nb_t h14 ⟨ip, ip, br_f (by rw [a2.2.1, a8.2.1, ← a2.1, ← a8.1]; exact q2) (hsame _)⟩⟩)
    · rw [bz0] at q
      have h14 : V 1014 0 p = 0 := by rw [a10.2, bz_f q]
      refine ok_X9_strike hE ?_
      unfold vc_X9_strike
      rw [cl (by omega)]
      exact sp_isPartp hE hI.2.1 hp (nb_t (by decide) ⟨ip, nb_f h14 (hsame _)⟩)
end Ops3

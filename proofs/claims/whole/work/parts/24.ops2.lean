/-! OPS: tell, prop, strike -/
def IS (V : Vt) (n : Nat) (D on : Nat → Nat → Nat) : Prop := cF V (D 0) on n = -5
theorem IS.of {V V' : Vt} {n : Nat} {D on : Nat → Nat → Nat} {S : List Nat} (h : IS V n D on) (hO : Of S V V') (hS : ∀ f, f ∈ cfIds → f ∉ S) : IS V' n D on := by
  unfold IS
  rw [cF_of hO hS]
  exact h
def tD (D : Nat → Nat → Nat) (w p v : Nat) : Nat → Nat → Nat := if w = 1 then upD D 5 p v else if w = 2 then upD D 6 p v else D
theorem tD_k {D : Nat → Nat → Nat} {w p v k : Nat} (h5 : k ≠ 5) (h6 : k ≠ 6) : tD D w p v k = D k := by
  unfold tD
  split
  · exact upD_k h5
  · split
    · exact upD_k h6
    · rfl
def tMax (w : Nat) : Nat := if w = 0 then 1000000 else if w = 1 then 100000 else if w = 2 then 100 else 24
section Ops2
variable {l : Launch} {G : Gt} {E : Et} {V : Vt} {n : Nat} {D on sn : Nat → Nat → Nat}
/-- both sides told the same -/
theorem IP.tell (h : IP E V n D on sn) {p w v : Nat} (hp : p < n) (hw : w < 4) (hv : v ≤ tMax w) : IP E (up3 (up3 V 304 p w (nI v)) (1007 + w) 0 p (nI v)) n (tD D w p v) on sn := by
  obtain ⟨h1, h2, h3⟩ := h
  have hO : Of [304, 1007 + w] V (up3 (up3 V 304 p w (nI v)) (1007 + w) 0 p (nI v)) := (Of.up1 (by simp)).up (by simp)
  have g : ∀ f, f ≠ 304 → f ≠ 1007 + w → up3 (up3 V 304 p w (nI v)) (1007 + w) 0 p (nI v) f = V f := fun f a b => hO f (by simp [a, b])
  refine ⟨?_, ?_, fun q hq => ?_⟩
  · rw [tD_k (by decide) (by decide)]
    exact h1.of hO (by simp <;> omega) (by simp <;> omega) (by simp <;> omega) (by simp <;> omega)
  · rw [tD_k (by decide) (by decide)]
    exact h2.of hO (by simp <;> omega) (by simp <;> omega) (by simp <;> omega) (by simp <;> omega)
  · obtain ⟨a1, a2, a3, a4, a5, a6, a7, a8, a9, a10, a11, a12, a13⟩ := h3 q hq
    unfold IPp
    rw [cenB_of hO (by simp <;> omega) (by simp <;> omega) (by simp <;> omega), g 300 (by decide) (by omega), g 309 (by decide) (by omega), g 301 (by decide) (by omega), g 302 (by decide) (by omega), g 303 (by decide) (by omega), g 306 (by decide) (by omega), g 310 (by decide) (by omega), g 311 (by decide) (by omega), g 312 (by decide) (by omega), g 313 (by decide) (by omega), g 1002 (by decide) (by omega), g 1003 (by decide) (by omega), g 1004 (by decide) (by omega), g 1005 (by decide) (by omega), g 1006 (by decide) (by omega), g 1011 (by decide) (by omega), g 1012 (by decide) (by omega), g 1013 (by decide) (by omega), g 1014 (by decide) (by omega), g 1017 (by decide) (by omega)]
    rw [tD_k (k := 0) (by decide) (by decide), tD_k (k := 1) (by decide) (by decide), tD_k (k := 2) (by decide) (by decide), tD_k (k := 3) (by decide) (by decide), tD_k (k := 4) (by decide) (by decide), tD_k (k := 7) (by decide) (by decide)]
    refine ⟨a1, a2, a3, a4, a5, ?_, a7, a8, a9, a10, a11, a12, a13⟩
    have hw4 : w = 0 ∨ w = 1 ∨ w = 2 ∨ w = 3 := by omega
    by_cases e : q = p
    · subst e
      rcases hw4 with rfl | rfl | rfl | rfl
      · show up3 (up3 V 304 q 0 (nI v)) 1007 0 q (nI v) 304 q 0 = _ ∧ _
        simp only [tD, tMax] at hv ⊢
        simp [up3] at hv ⊢
        exact ⟨a6.2.1, a6.2.2.1, a6.2.2.2.1, a6.2.2.2.2.1, a6.2.2.2.2.2.1, a6.2.2.2.2.2.2.1, a6.2.2.2.2.2.2.2⟩
      · simp only [tD, tMax] at hv ⊢
        simp [up3, upD] at hv ⊢
        exact ⟨a6.1, hv, a6.2.2.2.2.1, a6.2.2.2.2.2.1, a6.2.2.2.2.2.2.1, a6.2.2.2.2.2.2.2⟩
      · simp only [tD, tMax] at hv ⊢
        simp [up3, upD] at hv ⊢
        exact ⟨a6.1, a6.2.1, a6.2.2.1, a6.2.2.2.1, hv, a6.2.2.2.2.2.2.2⟩
      · simp only [tD, tMax] at hv ⊢
        simp [up3, upD] at hv ⊢
        exact ⟨a6.1, a6.2.1, a6.2.2.1, a6.2.2.2.1, a6.2.2.2.2.1, a6.2.2.2.2.2.1, a6.2.2.2.2.2.2.1⟩
    · have d5 : tD D w p v 5 q = D 5 q := by
        unfold tD
        split
        · exact upD_p e
        · split
          · exact upD_p e
          · rfl
      have d6 : tD D w p v 6 q = D 6 q := by
        unfold tD
        split
        · exact upD_p e
        · split
          · exact upD_p e
          · rfl
      have k1 : ∀ j, up3 (up3 V 304 p w (nI v)) (1007 + w) 0 p (nI v) 304 q j = V 304 q j := fun j => by rw [up3_f (by omega), up3_i e]
      have k2 : ∀ f, f ≠ 304 → up3 (up3 V 304 p w (nI v)) (1007 + w) 0 p (nI v) f 0 q = V f 0 q := fun f hf => by rw [up3_j e, up3_f hf]
      rw [d5, d6, k1, k1, k1, k1, k2 _ (by decide), k2 _ (by decide), k2 _ (by decide), k2 _ (by decide)]
      exact a6
/-- told the one side, told the other: the same falls -/
theorem IP.tellF (h : IP E V n D on sn) {p w v : Nat} (hp : p < n) (hw : w < 4) (hv : v ≤ tMax w) : mF (up3 V (1007 + w) 0 p (nI v)) (D 0) on n = cF (up3 V 304 p w (nI v)) (D 0) on n := by
  have hW := h.tell hp hw hv
  have h1 := hW.w.fall h.1.2.1
  rw [tD_k (by decide) (by decide)] at h1
  have m1 : mF (up3 (up3 V 304 p w (nI v)) (1007 + w) 0 p (nI v)) (D 0) on n = mF (up3 V (1007 + w) 0 p (nI v)) (D 0) on n := by
    refine mF_of (S := [304]) (fun f hf => ?_) (by decide)
    have hf : f ≠ 304 := fun e => hf (by rw [e]; decide)
    by_cases e : f = 1007 + w
    · subst e
      funext a b
      unfold up3
      simp [show ¬ (1007 + w = 304) by omega]
    · rw [up3_row0 e, up3_row0 hf, up3_row0 e]
  have m2 : cF (up3 (up3 V 304 p w (nI v)) (1007 + w) 0 p (nI v)) (D 0) on n = cF (up3 V 304 p w (nI v)) (D 0) on n := by
    refine cF_of (S := [1007 + w]) (Of.up1 (by simp)) (fun f hf q => ?_)
    have := List.mem_singleton.mp q
    subst this
    have : ∀ f, f ∈ cfIds → f < 1000 := by decide
    have := this _ hf
    omega
  rw [← m1, ← m2, h1]
theorem vn_t : ∀ w, w < 4 → mTold.getD w 0 = nI (tMax w) := by decide
theorem Of.cons {S : List Nat} {V V' : Vt} (a : Nat) (h : Of S V V') : Of (a :: S) V V' := h.mono (fun f hf => List.mem_cons_of_mem _ hf)
def tellS : List Nat := [304, 1007, 1008, 1009, 1010, 600, 601, 1028, 1029]
theorem bo_tell {x y z : Int32} {K : Int32 → Int32 → Vt → Prop} (hE : Sg E) (hI : IP E V n D on sn) (hS : IS V n D on) (hK : ∀ r V2 D', IP E V2 n D' on sn → IS V2 n D' on → Of tellS V V2 → (∀ k, k ≠ 5 → k ≠ 6 → D' k = D k) → K r r V2) : C_X8_tell l G E V x y z (fun r V1 => C_X9_tell l G E V1 x y z (fun r' V2 => K r r' V2)) := by
  have hn := hI.1.2.1
  have hbad : K (-1) (-1) V := hK _ V D hI hS (Of.rf _ _) (fun _ _ _ => rfl)
  refine ok_X8_tell hE ?_
  unfold vc_X8_tell
  refine sp_find hE hI.1 (fun q => ⟨fun _ => ?_, fun t ht => by cases ht⟩) (fun p hp e => ⟨fun q => (by cases q), fun t ht => ?_⟩)
  · refine ok_X9_tell hE ?_
    unfold vc_X9_tell
    exact sp_isPart hE hI.2.1 (fun _ => nb_f rfl hbad) (fun p hp e => by
      subst e
      rcases q with q | q
      · exact absurd q (nI_pos (by omega))
      · exact absurd q (nI_ge hp (by omega)))
  · cases ht
    subst e
    -- what the model does with a bad number
    have mbad : (∀ w, w < 4 → y = nI w → ¬ ((0 : Int32) ≤ z ∧ z ≤ nI (tMax w))) → C_X9_tell l G E V (nI p) y z (fun r' V2 => K (-1) r' V2) := by
      intro hb
      refine ok_X9_tell hE ?_
      unfold vc_X9_tell
      refine sp_isPartp hE hI.2.1 hp (nb_t (by decide) ⟨fun e => ?_, fun e => ?_, fun e => ?_, fun e => ?_, fun e => hbad⟩)
      · exact sp_in hE (nb_f (bz_f (hb 0 (by decide) e)) hbad)
      · exact sp_in hE (nb_f (bz_f (hb 1 (by decide) e)) hbad)
      · exact sp_in hE (nb_f (bz_f (hb 2 (by decide) e)) hbad)
      · exact sp_in hE (nb_f (bz_f (hb 3 (by decide) e)) hbad)
    refine ⟨(hI.1.2.2 p hp).2.1, fun q => ?_, fun q => ⟨fun q2 => ?_, fun q2 => ⟨fun q3 => ?_, fun q3 => ?_⟩⟩⟩
    · exact mbad (fun w hw e => by rw [e] at q; exact absurd q (nI_pos (by omega)))
    · exact mbad (fun w hw e => by rw [e] at q2; exact absurd q2 (nI_ge (b := 4) hw (by decide)))
    · exact mbad (fun w hw e hz => lt_nle q3 hz.1)
    · obtain ⟨w, hw, rfl⟩ : ∃ w, w < 4 ∧ y = nI w := by
        rcases ix3 y (n := 4) (by decide) with z | z
        · rcases z with z | z
          · exact absurd z q
          · exact absurd z q2
        · exact z
      have iw : vp_in (nI w) 4 := inI hw (by decide)
      rw [cl (by omega), vn_t w hw]
      refine ⟨iw, fun q4 => ⟨iw, iw, ?_⟩, fun q4 => mbad (fun w' hw' e hz => by
        have := (nI_eq (by omega) (by omega)).mp e
        subst this
        exact q4 hz.2)⟩
      have hmx : tMax w ≤ 1000000 := by unfold tMax; split <;> (try split) <;> (try split) <;> omega
      obtain ⟨v, hv, rfl⟩ : ∃ v, v ≤ tMax w ∧ z = nI v := nI_of2 (nI_toInt (by omega)) q3 q4
      have hF := hI.tellF hp hw hv
      refine sp_stands hE (hI.1.of (S := [304]) (Of.up1 (by decide)) (by decide) (by decide) (by decide) (by decide)) (fun V1 hO => ⟨fun q5 => ?_, fun q5 => ⟨iw, ?_⟩⟩)
      · -- it stands: the class has changed
        rw [bz0] at q5
        have q5 := Decidable.not_not.mp q5
        have hP1 : PM V1 n (D 0) on := (hI.2.1.cl (S := [304]) (Of.up1 (by decide)) (by decide)).cl hO (by decide)
        have hOm : ∀ f, f ∉ [304, 600, 601] → V1 f = V f := fun f hf => by rw [hO f (fun q => hf (by simp at q ⊢; omega)), up3_row0 (fun e => hf (by simp [e]))]
        have fin : ∀ V2, Of [1028, 1029] (up3 V1 (1007 + w) 0 p (nI v)) V2 → K (V 304 p w) (V 304 p w) V2 := by
          intro V2 hO2
          have hOx : Of [600, 601, 1028, 1029] (up3 (up3 V 304 p w (nI v)) (1007 + w) 0 p (nI v)) V2 := by
            intro f hf
            rw [hO2 f (fun q => hf (by simp at q ⊢; omega))]
            by_cases e : f = 1007 + w
            · subst e
              funext a b
              unfold up3
              rw [hOm (1007 + w) (by simp; omega)]
              simp [show ¬ (1007 + w = 304) by omega]
            · rw [up3_row0 e, up3_row0 e, hO f (fun q => hf (by simp at q ⊢; omega))]
          have hI2 := (hI.tell hp hw hv).of hOx (by decide)
          refine hK _ V2 _ hI2 ?_ ?_ (fun k h5 h6 => tD_k h5 h6)
          · unfold IS
            rw [tD_k (by decide) (by decide), cF_of hOx (by decide), cF_of (V := up3 V 304 p w (nI v)) (S := [1007 + w]) (Of.up1 (by simp)) (fun f hf q => by
              have := List.mem_singleton.mp q
              subst this
              have h0 : ∀ f, f ∈ cfIds → f < 1000 := by decide
              have := h0 _ hf
              omega)]
            exact q5
          · intro f hf
            have hf' : f ≠ 304 ∧ f ≠ 1007 ∧ f ≠ 1008 ∧ f ≠ 1009 ∧ f ≠ 1010 ∧ f ≠ 600 ∧ f ≠ 601 ∧ f ≠ 1028 ∧ f ≠ 1029 := by simp [tellS] at hf; exact hf
            rw [hOx f (by simp; omega), up3_row0 (by omega), up3_row0 (by omega)]
        have mfall : mF (up3 V1 (1007 + w) 0 p (nI v)) (D 0) on n = -5 := by
          rw [← q5, ← hF]
          refine mF_of (S := [304, 600, 601]) (fun f hf => ?_) (by decide)
          by_cases e : f = 1007 + w
          · subst e
            funext a b
            unfold up3
            rw [hOm (1007 + w) hf]
          · rw [up3_row0 e, up3_row0 e, hOm f hf]
        have hPm : PM (up3 V1 (1007 + w) 0 p (nI v)) n (D 0) on := hP1.of (S := [1007 + w]) (Of.up1 (by simp)) (by simp <;> omega) (by simp <;> omega) (by simp <;> omega) (by simp <;> omega)
        have ip : vp_in (nI p) 40 := inI (by omega) (by omega)
        refine ok_X9_tell hE ?_
        unfold vc_X9_tell
        rw [cl (by omega)]
        have hz : ∀ m : Int32, m = nI (tMax w) → bz ((0 : Int32) ≤ nI v ∧ nI v ≤ m) ≠ 0 := fun m hm => by rw [hm, bz_t ⟨nI_pos' (by omega), nI_le hv (by omega)⟩]; decide
        have hold : ∀ f, f = 1007 + w → V1 f 0 p = V 304 p w := fun f hf => by
          subst hf
          rw [hOm (1007 + w) (by simp; omega)]
          obtain ⟨-, -, -, -, -, a6, -⟩ := hI.2.2 p hp
          have hw4 : w = 0 ∨ w = 1 ∨ w = 2 ∨ w = 3 := by omega
          rcases hw4 with rfl | rfl | rfl | rfl
          · exact a6.1.symm
          · rw [a6.2.1]; exact a6.2.2.1
          · rw [a6.2.2.2.2.1]; exact a6.2.2.2.2.2.1
          · exact a6.2.2.2.2.2.2.2.symm
        have hne : ∀ a b, a < 4 → b < 4 → nI a = nI b → a = b := fun a b ha hb e => (nI_eq (by omega) (by omega)).mp e
        refine sp_isPartp hE hP1 hp (nb_t (by decide) ⟨fun e => ?_, fun e => ?_, fun e => ?_, fun e => ?_, fun e => ?_⟩)
        · have e := hne w 0 hw (by decide) e
          subst e
          refine sp_in hE (nb_t (hz _ rfl) ⟨ip, ip, sp_mfall hE hPm (fun V2 hO2 => nb_f mfall ?_)⟩)
          rw [hold 1007 rfl]
          exact fin V2 hO2
        · have e := hne w 1 hw (by decide) e
          subst e
          refine sp_in hE (nb_t (hz _ rfl) ⟨ip, ip, sp_mfall hE hPm (fun V2 hO2 => nb_f mfall ?_)⟩)
          rw [hold 1008 rfl]
          exact fin V2 hO2
        · have e := hne w 2 hw (by decide) e
          subst e
          refine sp_in hE (nb_t (hz _ rfl) ⟨ip, ip, sp_mfall hE hPm (fun V2 hO2 => nb_f mfall ?_)⟩)
          rw [hold 1009 rfl]
          exact fin V2 hO2
        · have e := hne w 3 hw (by decide) e
          subst e
          refine sp_in hE (nb_t (hz _ rfl) ⟨ip, ip, ?_⟩)
          rw [hold 1010 rfl]
          exact fin _ (Of.rf _ _)
        · have hw4 : w = 0 ∨ w = 1 ∨ w = 2 ∨ w = 3 := by omega
          rcases hw4 with rfl | rfl | rfl | rfl
          · exact absurd rfl e.1
          · exact absurd rfl e.2.1
          · exact absurd rfl e.2.2.1
          · exact absurd rfl e.2.2.2
      · -- it would fall: all as it was
        rw [bz0] at q5
        have hO1 := hO.undo (w := V 304 p w) (by decide) rfl
        obtain ⟨V3, hV3⟩ : ∃ V3, V3 = up3 V1 304 p w (V 304 p w) := ⟨_, rfl⟩
        rw [← hV3] at hO1 ⊢
        have hI3 := hI.of hO1 (by decide)
        have hw3 : w ≠ 3 := fun e => by
          subst e
          apply q5
          have : cF (up3 V 304 p 3 (nI v)) (D 0) on n = cF V (D 0) on n := by
            unfold cF cW
            have e1 : cLW (up3 V 304 p 3 (nI v)) = cLW V := by funext a; unfold cLW; rw [up3_row0 (by decide), up3_row0 (by decide)]
            have e2 : cenB (up3 V 304 p 3 (nI v)) = cenB V := by funext a; unfold cenB; rw [up3_row0 (by decide), up3_row0 (by decide), up3_row0 (by decide)]
            have e3 : arB (up3 V 304 p 3 (nI v)) = arB V := by funext a; unfold arB; rw [up3_row0 (by decide), up3_row0 (by decide)]
            have e4 : bgB (up3 V 304 p 3 (nI v)) = bgB V := by funext a; unfold bgB; rw [e2, up3_row0 (by decide)]
            rw [e1, e2, e3, e4, up3_row0 (g := 306) (by decide), up3_row0 (g := 312) (by decide)]
            have e5 : ∀ j, j ≠ 3 → (fun q => up3 V 304 p 3 (nI v) 304 q j) = fun q => V 304 q j := fun j hj => by funext q; exact up3_j hj
            rw [e5 0 (by decide), e5 1 (by decide), e5 2 (by decide)]
          rw [this]
          exact hS
        have ip : vp_in (nI p) 40 := inI (by omega) (by omega)
        have hF3 := hI3.tellF hp hw hv
        have mfall : ¬ mF (up3 V3 (1007 + w) 0 p (nI v)) (D 0) on n = -5 := by
          rw [hF3]
          intro z9
          apply q5
          rw [← z9]
          refine (cF_of (S := [600, 601]) (fun f hf => ?_) (by decide)).symm
          by_cases e : f = 304
          · subst e
            funext a b
            unfold up3
            rw [hO1 304 (by decide)]
          · rw [up3_row0 e, up3_row0 e, hO1 f hf]
        have hPm : PM (up3 V3 (1007 + w) 0 p (nI v)) n (D 0) on := hI3.2.1.of (S := [1007 + w]) (Of.up1 (by simp)) (by simp <;> omega) (by simp <;> omega) (by simp <;> omega) (by simp <;> omega)
        have hz : ∀ m : Int32, m = nI (tMax w) → bz ((0 : Int32) ≤ nI v ∧ nI v ≤ m) ≠ 0 := fun m hm => by rw [hm, bz_t ⟨nI_pos' (by omega), nI_le hv (by omega)⟩]; decide
        have hne : ∀ a b, a < 4 → b < 4 → nI a = nI b → a = b := fun a b ha hb e => (nI_eq (by omega) (by omega)).mp e
        have fin : ∀ V2, Of [1028, 1029] (up3 V3 (1007 + w) 0 p (nI v)) V2 → K (-15) (-15) (up3 V2 (1007 + w) 0 p (V3 (1007 + w) 0 p)) := by
          intro V2 hO2
          have hO4 := hO2.undo (w := V3 (1007 + w) 0 p) (by simp <;> omega) rfl
          have hO5 : Of [600, 601, 1028, 1029] V (up3 V2 (1007 + w) 0 p (V3 (1007 + w) 0 p)) := (hO1.mono (by decide)).tr (hO4.mono (by decide))
          exact hK _ _ D (hI.of hO5 (by decide)) (hS.of hO5 (by decide)) (hO5.mono (by decide)) (fun _ _ _ => rfl)
        refine ok_X9_tell hE ?_
        unfold vc_X9_tell
        rw [cl (by omega)]
        refine sp_isPartp hE hI3.2.1 hp (nb_t (by decide) ⟨fun e => ?_, fun e => ?_, fun e => ?_, fun e => ?_, fun e => ?_⟩)
        · have e := hne w 0 hw (by decide) e
          subst e
          exact sp_in hE (nb_t (hz _ rfl) ⟨ip, ip, sp_mfall hE hPm (fun V2 hO2 => nb_t mfall ⟨ip, fin V2 hO2⟩)⟩)
        · have e := hne w 1 hw (by decide) e
          subst e
          exact sp_in hE (nb_t (hz _ rfl) ⟨ip, ip, sp_mfall hE hPm (fun V2 hO2 => nb_t mfall ⟨ip, fin V2 hO2⟩)⟩)
        · have e := hne w 2 hw (by decide) e
          subst e
          exact sp_in hE (nb_t (hz _ rfl) ⟨ip, ip, sp_mfall hE hPm (fun V2 hO2 => nb_t mfall ⟨ip, fin V2 hO2⟩)⟩)
        · exact absurd (hne w 3 hw (by decide) e) hw3
        · have hw4 : w = 0 ∨ w = 1 ∨ w = 2 ∨ w = 3 := by omega
          rcases hw4 with rfl | rfl | rfl | rfl
          · exact absurd rfl e.1
          · exact absurd rfl e.2.1
          · exact absurd rfl e.2.2.1
          · exact absurd rfl e.2.2.2
end Ops2

/-! OPS: tell, prop, strike, falls -/
theorem up3_row0 {V : Vt} {f i j : Nat} {v : Int32} {g : Nat} (h : g ≠ f) : up3 V f i j v g = V g := by
  funext a b
  exact up3_f h
theorem up3_id {V : Vt} {f i j : Nat} {v : Int32} (h : V f i j = v) : up3 V f i j v = V := by
  funext a b c
  unfold up3
  split
  · rename_i q
    rw [q.1, q.2.1, q.2.2, h]
  · rfl
theorem up3_up3 (V : Vt) (f i j : Nat) (v w : Int32) : up3 (up3 V f i j v) f i j w = up3 V f i j w := by
  funext a b c
  unfold up3
  split <;> rfl
theorem Of.up1 {S : List Nat} {V : Vt} {f i j : Nat} {v : Int32} (hf : f ∈ S) : Of S V (up3 V f i j v) := (Of.rf S V).up hf
/-- a write, then what leaves that row alone, then the old value back -/
theorem Of.undo {S : List Nat} {V V' : Vt} {f i j : Nat} {v w : Int32} (h : Of S (up3 V f i j v) V') (hf : f ∉ S) (hw : w = V f i j) : Of S V (up3 V' f i j w) := by
  intro g hg
  by_cases e : g = f
  · subst e
    funext a b
    unfold up3
    split
    · rename_i q
      rw [hw, q.2.1, q.2.2]
    · rename_i q
      rw [h g hg]
      unfold up3
      rw [if_neg q]
  · rw [up3_row0 e, h g hg, up3_row0 e]
def cfIds : List Nat := [300, 302, 304, 306, 310, 312, 313]
def mfIds : List Nat := [1002, 1005, 1007, 1008, 1009, 1011, 1012, 1014, 1017]
theorem cF_of {S : List Nat} {V V' : Vt} {n : Nat} {sc : Nat → Nat} {on : Nat → Nat → Nat} (hO : Of S V V') (hS : ∀ f, f ∈ cfIds → f ∉ S) : cF V' sc on n = cF V sc on n := by
  have h1 : cW V' sc on n = cW V sc on n := cW_of hO (hS _ (by decide)) (hS _ (by decide)) (hS _ (by decide)) (hS _ (by decide)) (hS _ (by decide)) (hS _ (by decide))
  have h2 : bgB V' = bgB V := by
    funext p
    unfold bgB
    rw [cenB_of hO (hS _ (by decide)) (hS _ (by decide)) (hS _ (by decide)), hO 310 (hS _ (by decide))]
  unfold cF
  rw [h1, h2, hO 304 (hS _ (by decide)), hO 312 (hS _ (by decide))]
theorem mF_of {S : List Nat} {V V' : Vt} {n : Nat} {sc : Nat → Nat} {on : Nat → Nat → Nat} (hO : Of S V V') (hS : ∀ f, f ∈ mfIds → f ∉ S) : mF V' sc on n = mF V sc on n := by
  have e : ∀ f, f ∈ mfIds → V' f = V f := fun f hf => hO f (hS f hf)
  have a1 : mLW V' = mLW V := by funext p; unfold mLW; rw [e 1012 (by decide), e 1005 (by decide)]
  have a2 : mCe V' = mCe V := by funext p; unfold mCe; rw [e 1014 (by decide)]
  have a3 : mAr V' = mAr V := by funext p; unfold mAr; rw [e 1002 (by decide), e 1012 (by decide)]
  have a4 : mSh V' = mSh V := by funext p i; unfold mSh; rw [e 1017 (by decide)]
  have a5 : mBg V' = mBg V := by funext p; unfold mBg; rw [e 1012 (by decide), a2]
  unfold mF mW
  rw [a1, a2, a3, a4, a5, e 1009 (by decide), e 1007 (by decide), e 1008 (by decide), e 1011 (by decide)]
theorem mW_of {S : List Nat} {V V' : Vt} {n : Nat} {sc : Nat → Nat} {on : Nat → Nat → Nat} (hO : Of S V V') (hS : ∀ f, f ∈ mfIds → f ∉ S) : mW V' sc on n = mW V sc on n := by
  have e : ∀ f, f ∈ mfIds → V' f = V f := fun f hf => hO f (hS f hf)
  have a1 : mLW V' = mLW V := by funext p; unfold mLW; rw [e 1012 (by decide), e 1005 (by decide)]
  have a2 : mCe V' = mCe V := by funext p; unfold mCe; rw [e 1014 (by decide)]
  have a3 : mAr V' = mAr V := by funext p; unfold mAr; rw [e 1002 (by decide), e 1012 (by decide)]
  have a4 : mSh V' = mSh V := by funext p i; unfold mSh; rw [e 1017 (by decide)]
  funext m
  unfold mW
  rw [a1, a2, a3, a4, e 1009 (by decide)]
/-- class rows alone, model rows alone -/
theorem PM.cl {S : List Nat} {V V' : Vt} {n : Nat} {sc : Nat → Nat} {on : Nat → Nat → Nat} (h : PM V n sc on) (hO : Of S V V') (hS : ∀ f, f ∈ S → f < 1000) : PM V' n sc on := h.of hO (fun q => by have := hS _ q; omega) (fun q => by have := hS _ q; omega) (fun q => by have := hS _ q; omega) (fun q => by have := hS _ q; omega)
def upD (D : Nat → Nat → Nat) (k p v : Nat) : Nat → Nat → Nat := fun k' p' => if k' = k ∧ p' = p then v else D k' p'
theorem upD_k {D : Nat → Nat → Nat} {k p v k' : Nat} (h : k' ≠ k) : upD D k p v k' = D k' := by
  funext a
  simp [upD, h]
theorem upD_p {D : Nat → Nat → Nat} {k p v k' p' : Nat} (h : p' ≠ p) : upD D k p v k' p' = D k' p' := by simp [upD, h]
theorem upD_s (D : Nat → Nat → Nat) (k p v : Nat) : upD D k p v k p = v := by simp [upD]
section Ops1
variable {l : Launch} {G : Gt} {E : Et} {V : Vt} {n : Nat} {D on sn : Nat → Nat → Nat}
/-- from one find to the other isPart -/
theorem two_find {x : Int32} {K1 : Option Nat → Vt → Prop} (hE : Sg E) (hP : PC E V n (D 0) on) (h1 : x < 0 ∨ nI n ≤ x → K1 none V) (h2 : ∀ p, p < n → x = nI p → K1 (some p) V) : C_X3_find l G E V x K1 := sp_find hE hP h1 h2
theorem sp_fallBy {p : Nat} {K : Int32 → Vt → Prop} (hE : Sg E) (hP : PC E V n (D 0) on) (hp : p < n) (hK : ∀ V', Of [600, 601] V V' → K (cF (up3 V 310 p 0 (V 310 p 0 + 1)) (D 0) on n) V') : C_X8_fallByCourse l G E V p K := by
  refine ok_X8_fallByCourse hE (hP.2.2 p hp).2.1 ?_
  unfold vc_X8_fallByCourse
  refine sp_least hE (hP.of (S := [310]) (Of.up1 (by decide)) (by decide) (by decide) (by decide) (by decide)) (fun V' hO => ?_)
  refine hK _ (hO.undo (by decide) ?_)
  rw [hO 310 (by decide), up3_s]
  rw [Int32.add_sub_cancel]
theorem sp_mfallBy {p : Nat} {K : Int32 → Vt → Prop} (hE : Sg E) (hP : PM V n (D 0) on) (hp : p < n) (h01 : V 1014 0 p = 0 ∨ V 1014 0 p = 1) (hK : ∀ V', Of [1028, 1029] V V' → K (mF (up3 (up3 V 1014 0 p (bz (¬ V 1014 0 p = 0 ∨ (V 1002 0 p = 1 ∧ V 1012 0 p = 0)))) 1012 0 p (V 1012 0 p + 1)) (D 0) on n) V') : C_X9_fallingBy l G E V (nI p) K := by
  have hn := hP.2.1
  have hv : vp_nar .boolean (V 1014 0 p) = V 1014 0 p := by rcases h01 with z | z <;> rw [z] <;> rfl
  have key : ∀ z : Int32, vp_nar .boolean z = bz (¬ V 1014 0 p = 0 ∨ (V 1002 0 p = 1 ∧ V 1012 0 p = 0)) → C_X9_falling l G E (up3 (up3 V 1014 0 p (vp_nar .boolean z)) 1012 0 p (up3 V 1014 0 p (vp_nar .boolean z) 1012 0 p + 1)) (fun x V' => vp_in (nI p) 40 ∧ vp_in (nI p) 40 ∧ vp_in (nI p) 40 ∧ K x (up3 (up3 V' 1012 0 p (V' 1012 0 p - 1)) 1014 0 p (vp_nar .boolean (V 1014 0 p)))) := by
    intro z hz
    rw [hz, up3_f (f' := 1012) (by decide)]
    refine sp_mfall hE (hP.of (S := [1012, 1014]) ((Of.up1 (f := 1014) (by decide)).up (by decide)) (by decide) (by decide) (by decide) (by decide)) (fun V' hO => ⟨inI (by omega) (by omega), inI (by omega) (by omega), inI (by omega) (by omega), ?_⟩)
    rw [hv]
    refine hK _ ?_
    have h1 := hO.undo (w := V' 1012 0 p - 1) (by decide) (by rw [hO 1012 (by decide), up3_s, up3_f (f' := 1012) (by decide), Int32.add_sub_cancel])
    exact h1.undo (by decide) rfl
  refine ok_X9_fallingBy hE ?_
  unfold vc_X9_fallingBy
  rw [cl (by omega)]
  have i1 : vp_in (nI p) 40 := inI (by omega) (by omega)
  refine ⟨i1, fun q => ⟨i1, i1, i1, key 1 ?_⟩, fun q => ⟨i1, fun q2 => ⟨i1, i1, i1, key 0 ?_⟩, fun q2 => ⟨i1, fun q3 => ⟨i1, i1, i1, key 0 ?_⟩, fun q3 => ⟨i1, i1, i1, key 1 ?_⟩⟩⟩⟩
  · rw [bz_t (Or.inl q)]; rfl
  · rw [bz_f (fun z => by rcases z with z | z; exact z q; exact q2 z.1)]; rfl
  · rw [bz_f (fun z => by rcases z with z | z; exact z q; exact q3 z.2)]; rfl
  · rw [bz_t (Or.inr ⟨q2, q3⟩)]; rfl
theorem IPp01 {p : Nat} (h : IPp V D on sn p) : V 1014 0 p = 0 ∨ V 1014 0 p = 1 := by
  obtain ⟨-, -, -, -, -, -, -, -, -, a, -⟩ := h
  rw [a.2]
  exact bz01
/-- a course more: both see the same fall -/
theorem IP.by (h : IP E V n D on sn) {p : Nat} (hp : p < n) : mF (up3 (up3 V 1014 0 p (bz (¬ V 1014 0 p = 0 ∨ (V 1002 0 p = 1 ∧ V 1012 0 p = 0)))) 1012 0 p (V 1012 0 p + 1)) (D 0) on n = cF (up3 V 310 p 0 (V 310 p 0 + 1)) (D 0) on n := by
  have hn := h.1.2.1
  have hw := h.w
  obtain ⟨a1, a2, a3, a4, a5, a6, a7, a8, a9, a10, a11, a12, a13⟩ := h.2.2 p hp
  have e1 : V 310 p 0 + 1 = nI (D 4 p + 1) := by rw [a8.1, nI_1]
  have e2 : V 1012 0 p + 1 = nI (D 4 p + 1) := by rw [a8.2.1, nI_1]
  rw [e1, e2]
  obtain ⟨W, hW⟩ : ∃ W, W = up3 (up3 (up3 V 1014 0 p (bz (¬ V 1014 0 p = 0 ∨ (V 1002 0 p = 1 ∧ V 1012 0 p = 0)))) 1012 0 p (nI (D 4 p + 1))) 310 p 0 (nI (D 4 p + 1)) := ⟨_, rfl⟩
  have m1 : mF W (D 0) on n = mF (up3 (up3 V 1014 0 p (bz (¬ V 1014 0 p = 0 ∨ (V 1002 0 p = 1 ∧ V 1012 0 p = 0)))) 1012 0 p (nI (D 4 p + 1))) (D 0) on n := by
    rw [hW]
    exact mF_of (S := [310]) (Of.up1 (by decide)) (by decide)
  have m2 : cF W (D 0) on n = cF (up3 V 310 p 0 (nI (D 4 p + 1))) (D 0) on n := by
    refine cF_of (S := [1012, 1014]) (fun f hf => ?_) (by decide)
    rw [hW]
    by_cases e : f = 310
    · subst e
      funext a b
      unfold up3
      simp
    · rw [up3_row0 e, up3_row0 e, up3_row0 (by intro q; rw [q] at hf; exact hf (by decide)), up3_row0 (by intro q; rw [q] at hf; exact hf (by decide))]
  rw [← m1, ← m2]
  have hW2 : IW W n (upD D 4 p (D 4 p + 1)) on sn := by
    intro q hq
    obtain ⟨b1, b2, b3, b4, b5, b6, b7, b8, b9, b10, b11⟩ := hw q hq
    have f : ∀ g, g ≠ 310 → g ≠ 1012 → g ≠ 1014 → W g = V g := fun g h1 h2 h3 => by rw [hW, up3_row0 h1, up3_row0 h2, up3_row0 h3]
    rw [f 300 (by decide) (by decide) (by decide), f 302 (by decide) (by decide) (by decide), f 304 (by decide) (by decide) (by decide), f 306 (by decide) (by decide) (by decide), f 312 (by decide) (by decide) (by decide), f 1002 (by decide) (by decide) (by decide), f 1005 (by decide) (by decide) (by decide), f 1007 (by decide) (by decide) (by decide), f 1008 (by decide) (by decide) (by decide), f 1009 (by decide) (by decide) (by decide), f 1011 (by decide) (by decide) (by decide), f 1017 (by decide) (by decide) (by decide), upD_k (k' := 0) (by decide), upD_k (k' := 2) (by decide), upD_k (k' := 6) (by decide)]
    refine ⟨b1, b2, b3, b4, ?_, b6, b7, ?_, b9, b10, b11⟩
    · by_cases e : q = p
      · subst e
        rw [upD_s, hW, up3_s, up3_f (f' := 1012) (by decide), up3_s]
        exact ⟨rfl, rfl, by have := a8.2.2; omega⟩
      · rw [upD_p e, hW, up3_i e, up3_f (f' := 310) (by decide), up3_f (f' := 310) (by decide), up3_f (f' := 1012) (by decide), up3_j e, up3_f (f' := 1012) (by decide)]
        exact b5
    · by_cases e : q = p
      · subst e
        have hc : cenB W q = (decide (V 300 q 0 = 1) && (decide ((0 : Int32) < nI (D 4 q + 1)) && decide (V 313 q 0 = 0))) := by
          unfold cenB
          rw [f 300 (by decide) (by decide) (by decide), f 313 (by decide) (by decide) (by decide), hW, up3_s]
        rw [hc, decide_eq_true ((nI_pos0 (by omega)).mpr (by omega)), Bool.true_and]
        rw [hW, up3_f (f' := 1014) (by decide), up3_f (f' := 1014) (by decide), up3_s]
        have hx : (¬ V 1014 0 q = 0 ∨ (V 1002 0 q = 1 ∧ V 1012 0 q = 0)) ↔ ((decide (V 300 q 0 = 1) && decide (V 313 q 0 = 0)) = true) := by
          rw [a10.2, bz0, ← a1, a8.2.1, nI_eq0 (by omega)]
          simp only [Decidable.not_not, Bool.and_eq_true, decide_eq_true_eq, cenB, a8.1, nI_pos0 (show D 4 q < 2 ^ 31 by omega)]
          constructor
          · rintro (z | z)
            · exact ⟨z.1, z.2.2⟩
            · refine ⟨z.1, ?_⟩
              rcases a10.1 with y | y
              · exact y
              · have := a2.2.2.1
                omega
          · rintro ⟨z1, z2⟩
            by_cases y : D 4 q = 0
            · exact Or.inr ⟨z1, y⟩
            · exact Or.inl ⟨z1, by omega, z2⟩
        by_cases y : (¬ V 1014 0 q = 0 ∨ (V 1002 0 q = 1 ∧ V 1012 0 q = 0))
        · rw [bz_t y, bz_t (hx.mp y)]
        · rw [bz_f y, bz_f (fun z => y (hx.mpr z))]
      · have hc : cenB W q = cenB V q := by
          unfold cenB
          rw [f 300 (by decide) (by decide) (by decide), f 313 (by decide) (by decide) (by decide), hW, up3_i e, up3_f (f' := 310) (by decide), up3_f (f' := 310) (by decide)]
        rw [hc, hW, up3_f (f' := 1014) (by decide), up3_f (f' := 1014) (by decide), up3_j e]
        exact b8
  have := hW2.fall hn
  rw [upD_k (by decide)] at this
  exact this.symm
def scF : List Nat := [600, 601, 1028, 1029]
theorem bo_falls {x : Int32} {K : Int32 → Int32 → Vt → Prop} (hE : Sg E) (hI : IP E V n D on sn) (hK : ∀ r V2, Of scF V V2 → K r r V2) : C_X8_falls l G E V x (fun r V1 => C_X9_falls l G E V1 x (fun r' V2 => K r r' V2)) := by
  have hn := hI.1.2.1
  refine ok_X8_falls hE ?_
  unfold vc_X8_falls
  refine sp_find hE hI.1 (fun q => ⟨fun _ => ?_, fun t ht => by cases ht⟩) (fun p hp e => ⟨fun q => (by cases q), fun t ht => ?_⟩)
  · refine ok_X9_falls hE ?_
    unfold vc_X9_falls
    exact sp_isPart hE hI.2.1 (fun _ => br_t rfl (hK _ _ (Of.rf _ _))) (fun p hp e => by
      subst e
      rcases q with q | q
      · exact absurd q (nI_pos (by omega))
      · exact absurd q (nI_ge hp (by omega)))
  · cases ht
    subst e
    refine ⟨(hI.1.2.2 p hp).2.1, sp_fallBy hE hI.1 hp (fun V1 hO => ?_)⟩
    have hI1 := hI.of hO (by decide)
    refine ok_X9_falls hE ?_
    unfold vc_X9_falls
    refine sp_isPartp hE hI1.2.1 hp (br_f (by decide) (sp_mfallBy hE hI1.2.1 hp (IPp01 (hI1.2.2 p hp)) (fun V2 hO2 => ?_)))
    rw [hI1.by hp, hO 310 (by decide), cF_of (V := up3 V 310 p 0 (V 310 p 0 + 1)) (V' := up3 V1 310 p 0 (V 310 p 0 + 1)) (S := [600, 601]) (fun f hf => by
      by_cases e : f = 310
      · subst e
        funext a b
        unfold up3
        rw [hO 310 (by decide)]
      · rw [up3_row0 e, up3_row0 e, hO f hf]) (by decide)]
    exact hK _ _ ((hO.mono (by decide)).tr (hO2.mono (by decide)))
end Ops1

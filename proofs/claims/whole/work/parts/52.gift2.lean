/-! gift, statute -/
section Gift2
variable {l : Launch} {G : Gt} {E E' : Et} {V V' : Vt} {n m fr gc tc tl sc ec : Nat} {D on sn ti tx : Nat → Nat → Nat} {yb gl tn tb es : Nat → Nat}
theorem smT_le (h : IX E V tc tn tx) : ∀ t, t ≤ tc → sm tn t ≤ 100 * t := by
  intro t ht
  have hb := sm_bound (f := fun k => if k < tc then tn k else 0) (c := 100) t (fun k hk => by
    show (if k < tc then tn k else 0) ≤ 100
    rw [if_pos (by omega)]
    exact (h.2.2.2 k (by omega)).2.2.1.1)
  rw [sm_cong (g := tn) t (fun k hk => if_pos (by omega))] at hb
  omega
theorem smT_lt {t j : Nat} (ht : t < tc) (hj : j < tn t) : sm tn t + j < sm tn tc := by
  have := sm_mono tn (a := t + 1) tc ht
  rw [sm_s] at this
  omega
theorem IX.same (h : IX E V tc tn tx) (e32 : V' 1032 = V 1032) (e33 : V' 1033 = V 1033) (e8 : V' 800 = V 800) (e34 : ∀ j, j < sm tn tc → V' 1034 0 j = V 1034 0 j) : IX E V' tc tn tx := by
  obtain ⟨h1, h2, h3, h4⟩ := h
  refine ⟨by rw [e32]; exact h1, h2, fun t ht => by rw [e33]; exact h3 t ht, fun t ht => ?_⟩
  obtain ⟨a1, a2, a3, a4⟩ := h4 t ht
  refine ⟨a1, a2, a3, fun j hj => ?_⟩
  rw [e8, e34 _ (smT_lt ht hj)]
  exact a4 j hj
def upX (tx : Nat → Nat → Nat) (tc : Nat) (f : Nat → Nat) : Nat → Nat → Nat := fun t => if t = tc then f else tx t
theorem IX.add {N : Nat} {f : Nat → Nat} (h : IX E V tc tn tx) (htc : tc < 50) (hW : Wt f N) (e32 : V' 1032 0 0 = nI (tc + 1)) (e33 : V' 1033 0 (tc + 1) = nI (sm tn tc + N)) (e33' : ∀ t, t ≤ tc → V' 1033 0 t = V 1033 0 t) (e34 : ∀ j, j < sm tn tc → V' 1034 0 j = V 1034 0 j) (e34n : ∀ j, j < N → V' 1034 0 (sm tn tc + j) = mI (f j)) (e8 : ∀ t, t < tc → V' 800 t = V 800 t) (e8n : ∀ j, j < N → V' 800 tc j = cI (f j)) (hE : ∀ t, t < tc → eL E' 7 t ∧ eN E' 800 t = eN E 800 t) (hEn : eL E' 7 tc ∧ eN E' 800 tc = N) : IX E' V' (tc + 1) (updN tn tc N) (upX tx tc f) := by
  obtain ⟨h1, h2, h3, h4⟩ := h
  have s1 : ∀ t, t ≤ tc → sm (updN tn tc N) t = sm tn t := fun t ht => sm_cong t (fun k hk => updN_n (by omega))
  refine ⟨e32, by omega, fun t ht => ?_, fun t ht => ?_⟩
  · by_cases e : t = tc + 1
    · rw [e, e33, sm_s, s1 tc (Nat.le_refl _), updN_s]
    · rw [e33' t (by omega), s1 t (by omega)]
      exact h3 t (by omega)
  · by_cases e : t = tc
    · subst e
      rw [updN_s, s1 t (Nat.le_refl _), show upX tx t f t = f from if_pos rfl]
      exact ⟨hEn.1, hEn.2, hW, fun j hj => ⟨e8n j hj, e34n j hj⟩⟩
    · obtain ⟨a1, a2, a3, a4⟩ := h4 t (by omega)
      rw [updN_n e, s1 t (by omega), show upX tx tc f t = tx t from if_neg e, (hE t (by omega)).2, e8 t (by omega)]
      exact ⟨(hE t (by omega)).1, a2, a3, fun j hj => ⟨(a4 j hj).1, by rw [e34 _ (smT_lt (by omega) hj)]; exact (a4 j hj).2⟩⟩
theorem IG.mono {tc' : Nat} (h : IG E V gc tc gl) (ht : tc ≤ tc') : IG E V gc tc' gl :=
  ⟨h.1, h.2.1, h.2.2.1, fun g hg => by
    obtain ⟨a1, a2, a3, a4, a5, a6, a7⟩ := h.2.2.2 g hg
    refine ⟨a1, a2, a3, a4, a5, a6, ?_⟩
    rcases a7 with a7 | ⟨t, b1, b2, b3⟩
    · exact Or.inl a7
    · exact Or.inr ⟨t, by omega, b2, b3⟩⟩
theorem IU.mono {tc' : Nat} (h : IU E V sc tc) (ht : tc ≤ tc') : IU E V sc tc' :=
  ⟨h.1, h.2.1, h.2.2.1, fun s hs => by
    obtain ⟨a1, t, b1, b2, b3⟩ := h.2.2.2 s hs
    exact ⟨a1, t, by omega, b2, b3⟩⟩
theorem IP.gr (h : IP E V n D on sn) (h1 : ∀ p, p < n → eR E' 400 p = eR E 400 p ∧ eL E' 2 p) : IP E' V n D on sn :=
  ⟨⟨h.1.1, h.1.2.1, fun p hp => by
    obtain ⟨b1, b2, b3⟩ := h.1.2.2 p hp
    rw [(h1 p hp).1]
    exact ⟨b1, (h1 p hp).2, b3⟩⟩, h.2⟩
theorem IG.add {x : Nat} {o : Option Nat} (h : IG E V gc tc gl) (hg : gc < 30) (hx : x ≤ 1000000) (v1 : V' 909 0 0 = nI (gc + 1)) (v2 : V' 1038 0 0 = nI (gc + 1)) (v3 : ∀ f g, f = 200 ∨ f = 202 → g ≠ gc → V' f g 0 = V f g 0) (v4 : ∀ f g, f = 1039 ∨ f = 1040 ∨ f = 1041 → g ≠ gc → V' f 0 g = V f 0 g) (n1 : V' 200 gc 0 = nI x) (n2 : V' 202 gc 0 = nI x) (n3 : V' 1039 0 gc = nI x) (n4 : V' 1040 0 gc = nI x) (n5 : (o = none ∧ V' 1041 0 gc = -1) ∨ ∃ t, t < tc ∧ o = some t ∧ V' 1041 0 gc = nI t)
    (hE : ∀ g, g < gc → eR E' 905 g = eR E 905 g ∧ eL E' 1 g ∧ eR E' 201 g = eR E 201 g) (hEn : eR E' 905 gc = some gc ∧ eL E' 1 gc ∧ eR E' 201 gc = o) : IG E' V' (gc + 1) tc (updN gl gc x) := by
  refine ⟨v1, v2, by omega, fun g hg' => ?_⟩
  by_cases e : g = gc
  · subst e
    rw [hEn.2.2, updN_s, n1, n2, n3, n4]
    exact ⟨hEn.1, hEn.2.1, rfl, rfl, rfl, hx, n5⟩
  · obtain ⟨a1, a2, a3, a4, a5, a6, a7⟩ := h.2.2.2 g (by omega)
    obtain ⟨b1, b2, b3⟩ := hE g (by omega)
    rw [b1, b3, updN_n e, v3 200 g (Or.inl rfl) e, v3 202 g (Or.inr rfl) e, v4 1039 g (Or.inl rfl) e, v4 1040 g (Or.inr (Or.inl rfl)) e, v4 1041 g (Or.inr (Or.inr rfl)) e]
    exact ⟨a1, b2, a3, a4, a5, a6, a7⟩
theorem sp_mkeep {t o : Nat} {K : Int32 → Vt → Prop} (hE : Sg E) (h1 : V 1032 0 0 = nI t) (ht : t < 50) (h2 : V 1035 0 0 = nI o) (h : K (nI t) (up3 (up3 (up3 V 1032 0 0 (nI (t + 1))) 1033 0 (t + 1) (nI o)) 1031 0 0 0)) : C_X9_keep l G E V K := by
  refine ok_X9_keep hE ?_
  unfold vc_X9_keep
  rw [h1, nI_1, up3_s, cl (by omega), up3_f (f' := 1035) (by decide), h2, up3_f (f' := 1032) (f := 1031) (by decide), up3_f (f' := 1032) (f := 1033) (by decide), up3_s, nI_pred]
  exact ⟨inI (by omega) (by decide), h⟩
def gfM (V : Vt) (gc : Nat) (x t : Int32) : Vt := up3 (up3 (up3 (up3 V 1039 0 gc x) 1040 0 gc x) 1041 0 gc t) 1038 0 0 (nI (gc + 1))
def giftS : List Nat := [200, 202, 701, 702, 703, 704, 705, 800, 909, 1031, 1032, 1033, 1034, 1035, 1036, 1038, 1039, 1040, 1041]
theorem AE_gift {E : Et} {i q f j t : Nat} {o : Option Nat} : AE E (setR (addG E i q o) f j t) := by
  refine ⟨?_, ?_, fun h => Or.inl h⟩
  · show (if 8 = 1 ∧ 0 = i then q else eA E 8 0) = _
    rw [if_neg (fun z => absurd z.1 (by decide))]
  · show (if 9 = 1 ∧ 0 = i then q else eA E 9 0) = _
    rw [if_neg (fun z => absurd z.1 (by decide))]
theorem AE_text {E : Et} {i q a N f j t : Nat} : AE E (setR (addT E i q a N) f j t) := by
  refine ⟨?_, ?_, fun h => Or.inl h⟩
  · show (if 0 = i then eA E 8 0 else eA E 8 0) = _
    split <;> rfl
  · show (if 0 = i then eA E 9 0 else eA E 9 0) = _
    split <;> rfl
theorem AE_giftT {E : Et} {i0 q0 a0 N0 i q f j t : Nat} {o : Option Nat} : AE E (setR (addG (addT E i0 q0 a0 N0) i q o) f j t) := by
  refine ⟨?_, ?_, fun h => Or.inl (Or.inl h)⟩
  · show (if 8 = 1 ∧ 0 = i then q else if 0 = i0 then eA E 8 0 else eA E 8 0) = _
    rw [if_neg (fun z => absurd z.1 (by decide))]
    split <;> rfl
  · show (if 9 = 1 ∧ 0 = i then q else if 0 = i0 then eA E 9 0 else eA E 9 0) = _
    rw [if_neg (fun z => absurd z.1 (by decide))]
    split <;> rfl
theorem bo_gift {x : Int32} {K : Int32 → Int32 → Et → Vt → Prop} (hW : WE E n gc tc) (hI : IP E V n D on sn) (hT : IT V tl tb) (hX : IX E V tc tn tx) (hG : IG E V gc tc gl) (hU : IU E V sc tc) (htc : tc ≤ gc + sc)
    (hK : ∀ r E2 V2 gc' tc' gl' tn' tx' tl' tb', WE E2 n gc' tc' → IP E2 V2 n D on sn → Of giftS V V2 → IT V2 tl' tb' → IX E2 V2 tc' tn' tx' → IG E2 V2 gc' tc' gl' → IU E2 V2 sc tc' → tc' ≤ gc' + sc → K r r E2 V2) : Cl l G yX8_gift cX8_gift 4 (some .int) rm_X8_gift E V [.ref (eA E 8 0), .int x] (Qe (fun r E1 V1 => AE E E1 ∧ C_X9_gift l G E1 V1 x (fun r' V2 => K r r' E1 V2))) := by
  have hE := hW.1
  have g3 := hG.2.2.1
  have s3 := hU.2.2.1
  have h0 : ∀ r, K r r E V := fun r => hK r E V gc tc gl tn tx tl tb hW hI (Of.rf _ _) hT hX hG hU htc
  obtain ⟨t1, t2, t3, t4⟩ := And.intro True.intro hT |>.2
  have hTC : TC V tl tb := ⟨t1, t3, fun j hj => ⟨(t4 j hj).1, (t4 j hj).2.2⟩⟩
  have hTM : ∀ V1, V1 1030 = V 1030 → V1 1031 = V 1031 → TM V1 tl tb := fun V1 e1 e2 => ⟨by rw [e2]; exact t2, t3, fun j hj => ⟨by rw [e1]; exact (t4 j hj).2.1, (t4 j hj).2.2⟩⟩
  obtain ⟨R, hR⟩ : ∃ R, rd tl tb (tl + 1) 0 0 (fun _ => 0) 0 (fun _ => 0) = R := ⟨_, rfl⟩
  have hsm := smT_le hX tc (Nat.le_refl _)
  have gfn : ∀ (E1 : Et) (V1 : Vt) (t : Int32) (K' : Int32 → Vt → Prop), V1 1038 0 0 = nI gc → gc < 30 → K' (nI gc) (gfM V1 gc x t) → (vp_in (V1 1038 0 0) 30) ∧ (vp_in ((up3 V1 1039 0 ((V1 1038 0 0)).toNatClampNeg x) 1038 0 0) 30) ∧ (vp_in ((up3 (up3 V1 1039 0 ((V1 1038 0 0)).toNatClampNeg x) 1040 0 (((up3 V1 1039 0 ((V1 1038 0 0)).toNatClampNeg x) 1038 0 0)).toNatClampNeg x) 1038 0 0) 30) ∧ K' (((up3 (up3 (up3 (up3 V1 1039 0 ((V1 1038 0 0)).toNatClampNeg x) 1040 0 (((up3 V1 1039 0 ((V1 1038 0 0)).toNatClampNeg x) 1038 0 0)).toNatClampNeg x) 1041 0 (((up3 (up3 V1 1039 0 ((V1 1038 0 0)).toNatClampNeg x) 1040 0 (((up3 V1 1039 0 ((V1 1038 0 0)).toNatClampNeg x) 1038 0 0)).toNatClampNeg x) 1038 0 0)).toNatClampNeg t) 1038 0 0 (((up3 (up3 (up3 V1 1039 0 ((V1 1038 0 0)).toNatClampNeg x) 1040 0 (((up3 V1 1039 0 ((V1 1038 0 0)).toNatClampNeg x) 1038 0 0)).toNatClampNeg x) 1041 0 (((up3 (up3 V1 1039 0 ((V1 1038 0 0)).toNatClampNeg x) 1040 0 (((up3 V1 1039 0 ((V1 1038 0 0)).toNatClampNeg x) 1038 0 0)).toNatClampNeg x) 1038 0 0)).toNatClampNeg t) 1038 0 0) + (1 : Int32))) 1038 0 0) - (1 : Int32)) (up3 (up3 (up3 (up3 V1 1039 0 ((V1 1038 0 0)).toNatClampNeg x) 1040 0 (((up3 V1 1039 0 ((V1 1038 0 0)).toNatClampNeg x) 1038 0 0)).toNatClampNeg x) 1041 0 (((up3 (up3 V1 1039 0 ((V1 1038 0 0)).toNatClampNeg x) 1040 0 (((up3 V1 1039 0 ((V1 1038 0 0)).toNatClampNeg x) 1038 0 0)).toNatClampNeg x) 1038 0 0)).toNatClampNeg t) 1038 0 0 (((up3 (up3 (up3 V1 1039 0 ((V1 1038 0 0)).toNatClampNeg x) 1040 0 (((up3 V1 1039 0 ((V1 1038 0 0)).toNatClampNeg x) 1038 0 0)).toNatClampNeg x) 1041 0 (((up3 (up3 V1 1039 0 ((V1 1038 0 0)).toNatClampNeg x) 1040 0 (((up3 V1 1039 0 ((V1 1038 0 0)).toNatClampNeg x) 1038 0 0)).toNatClampNeg x) 1038 0 0)).toNatClampNeg t) 1038 0 0) + (1 : Int32))) := by
    intro E1 V1 t K' h38 hlt hk
    have a1 : ∀ (W : Vt) (i j : Nat) (v : Int32) (i' j' : Nat), up3 W 1039 i j v 1038 i' j' = W 1038 i' j' := fun W i j v i' j' => up3_f (by decide)
    have a2 : ∀ (W : Vt) (i j : Nat) (v : Int32) (i' j' : Nat), up3 W 1040 i j v 1038 i' j' = W 1038 i' j' := fun W i j v i' j' => up3_f (by decide)
    have a3 : ∀ (W : Vt) (i j : Nat) (v : Int32) (i' j' : Nat), up3 W 1041 i j v 1038 i' j' = W 1038 i' j' := fun W i j v i' j' => up3_f (by decide)
    have c1 : (nI gc).toNatClampNeg = gc := cl (by omega)
    simp only [a1, a2, a3, h38, c1, up3_s, nI_1, nI_pred]
    exact ⟨inI hlt (by decide), inI hlt (by decide), inI hlt (by decide), hk⟩
  have lo : ((1 : Int32) ≤ x ∧ x ≤ 1000000) → ∃ x', x' ≤ 1000000 ∧ x = nI x' := fun h => nI_of2 (M := 1000000) (n := 1000000) (by decide) (fun z => by
    have h1 := h.1
    rw [i_lt] at z
    rw [i_le] at h1
    have e1 : (1 : Int32).toInt = 1 := by decide
    have e0 : (0 : Int32).toInt = 0 := by decide
    omega) h.2
  refine sp_gift (R := R) hW hTC hR hG.1 g3 (fun hb => ?_) (fun hb e => ?_) (fun hb hlt e q => ?_) (fun hb hlt hp f V1 hf hO => ?_) (fun hb hlt hp hf hN V1 q q2 a g hO hg => ?_)
  · refine ⟨by first | exact AE_rf _ | exact AE_giftT | exact AE_gift | exact AE_text, ?_⟩
    refine ok_X9_gift hE ?_
    unfold vc_X9_gift
    exact sp_in hE (nb_f (bz_f hb) (h0 _))
  · refine ⟨by first | exact AE_rf _ | exact AE_giftT | exact AE_gift | exact AE_text, ?_⟩
    refine ok_X9_gift hE ?_
    unfold vc_X9_gift
    refine sp_in hE (nb_t (by rw [bz_t hb]; decide) (nb_f (by rw [hG.2.1, e]; rfl) (h0 _)))
  · refine ⟨by first | exact AE_rf _ | exact AE_giftT | exact AE_gift | exact AE_text, ?_⟩
    obtain ⟨x', hx', rfl⟩ := lo hb
    have hW2 := hW.gift q none (fun t z => by cases z)
    have hE2 := hW2.1
    obtain ⟨V1, hV1⟩ : ∃ V1, V1 = up3 (addGV V gc (nI x')) 909 0 0 (nI (gc + 1)) := ⟨_, rfl⟩
    rw [← hV1]
    have m1 : ∀ f, f ≠ 200 → f ≠ 202 → f ≠ 909 → V1 f = V f := fun f w1 w2 w3 => by
      rw [hV1, up3_row0 w3, addGV_f ⟨w1, w2⟩]
    refine ok_X9_gift hE2 ?_
    unfold vc_X9_gift
    refine sp_in hE2 (nb_t (by rw [bz_t hb]; decide) (nb_t ?_ (br_t ?_ ?_)))
    · rw [m1 1038 (by decide) (by decide) (by decide), hG.2.1, li 30, nI_eq (by omega) (by decide)]
      omega
    · rw [m1 1031 (by decide) (by decide) (by decide), t2, e]
      decide
    · refine gfn E V1 (-1) (fun r' V2 => K (nI gc) r' (setR (addG E gc q none) 905 gc gc) V2) (by rw [m1 1038 (by decide) (by decide) (by decide)]; exact hG.2.1) hlt ?_
      obtain ⟨V2, hV2⟩ : ∃ V2, V2 = gfM V1 gc (nI x') (-1) := ⟨_, rfl⟩
      rw [← hV2]
      have hO2 : Of giftS V V2 := by
        rw [hV2, hV1]
        have : Of giftS V (addGV V gc (nI x')) := fun f hf => addGV_f ⟨fun e => hf (by rw [e]; decide), fun e => hf (by rw [e]; decide)⟩
        exact ((((this.up (by decide)).up (by decide)).up (by decide)).up (by decide)).up (by decide)
      have m2 : ∀ f, f ∉ ([1038, 1039, 1040, 1041] : List Nat) → V2 f = V1 f := fun f hf => by
        rw [hV2]
        unfold gfM
        rw [up3_row0 (fun e => hf (by rw [e]; decide)), up3_row0 (fun e => hf (by rw [e]; decide)), up3_row0 (fun e => hf (by rw [e]; decide)), up3_row0 (fun e => hf (by rw [e]; decide))]
      refine hK _ _ V2 (gc + 1) tc (updN gl gc x') tn tx tl tb hW2 ((hI.of hO2 (by decide)).gr (fun p hp => ⟨?_, Or.inl (hI.1.2.2 p hp).2.1⟩)) hO2 ?_ ((hX.same ?_ ?_ ?_ ?_).gr (fun t ht => ⟨Or.inl (hX.2.2.2 t ht).1, rfl⟩)) ?_ ((hU.of hO2 (by decide)).gr (fun s hs => ?_)) (by omega)
      · rw [setR_n (fun z => absurd z.1 (by decide))]
        show (if 400 = 201 ∧ p = gc then none else eR E 400 p) = _
        rw [if_neg (fun z => absurd z.1 (by decide))]
      · refine ⟨?_, ?_, t3, fun j hj => ?_⟩
        · rw [m2 703 (by decide), m1 703 (by decide) (by decide) (by decide)]
          exact t1
        · rw [m2 1031 (by decide), m1 1031 (by decide) (by decide) (by decide)]
          exact t2
        · rw [m2 700 (by decide), m1 700 (by decide) (by decide) (by decide), m2 1030 (by decide), m1 1030 (by decide) (by decide) (by decide)]
          exact t4 j hj
      · rw [m2 1032 (by decide), m1 1032 (by decide) (by decide) (by decide)]
      · rw [m2 1033 (by decide), m1 1033 (by decide) (by decide) (by decide)]
      · rw [m2 800 (by decide), m1 800 (by decide) (by decide) (by decide)]
      · intro j hj
        rw [m2 1034 (by decide), m1 1034 (by decide) (by decide) (by decide)]
      · refine hG.add (x := x') (o := none) hlt hx' ?_ ?_ (fun f g hf hg => ?_) (fun f g hf hg => ?_) ?_ ?_ ?_ ?_ (Or.inl ⟨rfl, ?_⟩) (fun g hg => ⟨?_, Or.inl (hG.2.2.2 g hg).2.1, ?_⟩) ⟨setR_s _ _ _ _, Or.inr ⟨rfl, rfl⟩, ?_⟩
        · rw [m2 909 (by decide), hV1, up3_s]
        · rw [hV2]
          exact up3_s _ _ _ _ _
        · rw [m2 f (by rcases hf with rfl | rfl <;> decide), hV1, up3_f (by rcases hf with rfl | rfl <;> decide), addGV_q hg]
        · rw [hV2]
          unfold gfM
          rw [up3_f (by rcases hf with rfl | rfl | rfl <;> decide), up3_j hg, up3_j hg, up3_j hg, m1 f (by omega) (by omega) (by omega)]
        · rw [m2 200 (by decide), hV1, up3_f (by decide)]
          exact if_pos ⟨Or.inl rfl, rfl⟩
        · rw [m2 202 (by decide), hV1, up3_f (by decide)]
          exact if_pos ⟨Or.inr rfl, rfl⟩
        · rw [hV2]
          unfold gfM
          rw [up3_f (by decide), up3_f (by decide), up3_f (by decide), up3_s]
        · rw [hV2]
          unfold gfM
          rw [up3_f (by decide), up3_f (by decide), up3_s]
        · rw [hV2]
          unfold gfM
          rw [up3_f (by decide), up3_s]
        · rw [setR_n (fun z => by omega)]
          show (if 905 = 201 ∧ g = gc then none else eR E 905 g) = _
          rw [if_neg (fun z => absurd z.1 (by decide))]
        · rw [setR_n (fun z => absurd z.1 (by decide))]
          show (if 201 = 201 ∧ g = gc then none else eR E 201 g) = _
          rw [if_neg (fun z => by omega)]
        · rw [setR_n (fun z => absurd z.1 (by decide))]
          exact if_pos ⟨rfl, rfl⟩
      · rw [setR_n (fun z => absurd z.1 (by decide))]
        show (if 906 = 201 ∧ s = gc then none else eR E 906 s) = _
        rw [if_neg (fun z => absurd z.1 (by decide))]
  · refine ⟨by first | exact AE_rf _ | exact AE_giftT | exact AE_gift | exact AE_text, ?_⟩
    obtain ⟨V3, hV3⟩ : ∃ V3, V3 = up3 V1 703 0 0 0 := ⟨_, rfl⟩
    rw [← hV3]
    have hO3 : Of [701, 702, 703, 704, 705] V V3 := by
      rw [hV3]
      exact (hO.mono (by decide)).up (by decide)
    have hX3 : IX E V3 tc tn tx := hX.of hO3 (by decide)
    refine ok_X9_gift hE ?_
    unfold vc_X9_gift
    refine sp_in hE (nb_t (by rw [bz_t hb]; decide) (nb_t ?_ (br_f ?_ ?_)))
    · rw [hO3 1038 (by decide), hG.2.1, li 30, nI_eq (by omega) (by decide)]
      omega
    · rw [hO3 1031 (by decide), t2]
      exact nI_nle hp (by omega)
    · refine sp_mread (o := sm tn tc) (t := tc) hE (hTM V3 (hO3 1030 (by decide)) (hO3 1031 (by decide))) hX3.1 (by omega) (hX3.2.2.1 tc (Nat.le_refl _)) (by have := hX.2.1; omega) hR (fun y V4 hy hyl hO4 w4 => ?_) (fun V4 hy => ?_)
      · rw [hf] at hy
        cases hy
        refine br_f (nI_pos (by omega)) ?_
        obtain ⟨V5, hV5⟩ : ∃ V5, V5 = up3 V4 1031 0 0 0 := ⟨_, rfl⟩
        rw [← hV5]
        have hO5 : Of giftS V V5 := by
          rw [hV5]
          exact ((hO3.mono (by decide)).tr (hO4.mono (by decide))).up (by decide)
        refine hK _ E V5 gc tc gl tn tx 0 tb hW (hI.of hO5 (by decide)) hO5 ⟨?_, ?_, by decide, fun j hj => by omega⟩ (hX.same ?_ ?_ ?_ ?_) ?_ (hU.of hO5 (by decide)) htc
        · rw [hV5, up3_f (by decide), hO4 703 (by decide), hV3, up3_s]
          rfl
        · rw [hV5, up3_s]
          rfl
        · rw [hV5, up3_row0 (by decide), hO4 1032 (by decide), hO3 1032 (by decide)]
        · rw [hV5, up3_row0 (by decide), hO4 1033 (by decide), hO3 1033 (by decide)]
        · rw [hV5, up3_row0 (by decide), hO4 800 (by decide), hO3 800 (by decide)]
        · intro j hj
          rw [hV5, up3_f (by decide), w4 j hj, hO3 1034 (by decide)]
        · have hOg : Of [701, 702, 703, 704, 705, 1031, 1034, 1035, 1036] V V5 := by
            rw [hV5]
            exact ((hO3.mono (by decide)).tr (hO4.mono (by decide))).up (by decide)
          exact hG.of hOg (by decide)
      · rw [hf] at hy
        cases hy
  · refine ⟨by first | exact AE_rf _ | exact AE_giftT | exact AE_gift | exact AE_text, ?_⟩
    obtain ⟨x', hx', rfl⟩ := lo hb
    obtain ⟨N, hNe⟩ : ∃ N, N = R.2.1 := ⟨_, rfl⟩
    rw [← hNe] at hN hg ⊢
    have hWt : Wt R.2.2 N := by
      refine rd_wt (tb := tb) t3 (tl + 1) 0 0 (fun _ => 0) 0 (fun _ => 0) N R.2.2 (Nat.le_refl _) (Nat.zero_le _) ⟨fun k hk => by omega, fun k hk => by omega, rfl⟩ ?_
      rw [hR, hNe, ← hf]
    have hW1 := hW.text q a N
    have hW2 := hW1.gift q2 (some tc) (fun t z => by cases z; omega)
    obtain ⟨E3, hE3⟩ : ∃ E3, E3 = setR (addG (addT E tc q a N) gc q2 (some tc)) 905 gc gc := ⟨_, rfl⟩
    rw [← hE3] at hW2 ⊢
    have hSg3 := hW2.1
    obtain ⟨V3, hV3⟩ : ∃ V3, V3 = up3 (addGV (addTV (up3 V1 703 0 0 0) tc g) gc (nI x')) 909 0 0 (nI (gc + 1)) := ⟨_, rfl⟩
    rw [← hV3]
    have hO3 : Of [200, 202, 701, 702, 703, 704, 705, 800, 909] V V3 := by
      rw [hV3]
      have b1 : Of [200, 202, 701, 702, 703, 704, 705, 800, 909] V (up3 V1 703 0 0 0) := (hO.mono (by decide)).up (by decide)
      have b2 : Of [200, 202, 701, 702, 703, 704, 705, 800, 909] V (addTV (up3 V1 703 0 0 0) tc g) := fun f hf => by
        rw [addTV_f (fun e => hf (by rw [e]; decide))]
        exact b1 f hf
      have b3 : Of [200, 202, 701, 702, 703, 704, 705, 800, 909] V (addGV (addTV (up3 V1 703 0 0 0) tc g) gc (nI x')) := fun f hf => by
        rw [addGV_f ⟨fun e => hf (by rw [e]; decide), fun e => hf (by rw [e]; decide)⟩]
        exact b2 f hf
      exact b3.up (by decide)
    refine ok_X9_gift hSg3 ?_
    unfold vc_X9_gift
    refine sp_in hSg3 (nb_t (by rw [bz_t hb]; decide) (nb_t ?_ (br_f ?_ ?_)))
    · rw [hO3 1038 (by decide), hG.2.1, li 30, nI_eq (by omega) (by decide)]
      omega
    · rw [hO3 1031 (by decide), t2]
      exact nI_nle hp (by omega)
    · refine sp_mread (o := sm tn tc) (t := tc) hSg3 (hTM V3 (hO3 1030 (by decide)) (hO3 1031 (by decide))) (by rw [hO3 1032 (by decide)]; exact hX.1) (by omega) (by rw [hO3 1033 (by decide)]; exact hX.2.2.1 tc (Nat.le_refl _)) (by have := hX.2.1; omega) hR (fun y V4 hy => ?_) (fun V4 hy hO4 w4 w5 w6 w7 => ?_)
      · rw [hf] at hy
        cases hy
      · rw [← hNe] at w5 w7
        refine br_t (by decide) ?_
        refine sp_mkeep (t := tc) (o := sm tn tc + N) hSg3 (by rw [hO4 1032 (by decide), hO3 1032 (by decide)]; exact hX.1) (by omega) w5 ?_
        obtain ⟨V5, hV5⟩ : ∃ V5, V5 = up3 (up3 (up3 V4 1032 0 0 (nI (tc + 1))) 1033 0 (tc + 1) (nI (sm tn tc + N))) 1031 0 0 0 := ⟨_, rfl⟩
        rw [← hV5]
        have m5 : ∀ f, f ∉ ([1031, 1032, 1033, 1034, 1035, 1036] : List Nat) → V5 f = V3 f := fun f hf => by
          rw [hV5, up3_row0 (fun e => hf (by rw [e]; decide)), up3_row0 (fun e => hf (by rw [e]; decide)), up3_row0 (fun e => hf (by rw [e]; decide))]
          refine hO4 f (fun y => hf ?_)
          exact (show ∀ f, f ∈ mrS → f ∈ ([1031, 1032, 1033, 1034, 1035, 1036] : List Nat) by decide) f y
        refine gfn E3 V5 (nI tc) (fun r' V2 => K (nI gc) r' E3 V2) (by rw [m5 1038 (by decide), hO3 1038 (by decide)]; exact hG.2.1) hlt ?_
        obtain ⟨V6, hV6⟩ : ∃ V6, V6 = gfM V5 gc (nI x') (nI tc) := ⟨_, rfl⟩
        rw [← hV6]
        have m6 : ∀ f, f ∉ ([1038, 1039, 1040, 1041] : List Nat) → V6 f = V5 f := fun f hf => by
          rw [hV6]
          unfold gfM
          rw [up3_row0 (fun e => hf (by rw [e]; decide)), up3_row0 (fun e => hf (by rw [e]; decide)), up3_row0 (fun e => hf (by rw [e]; decide)), up3_row0 (fun e => hf (by rw [e]; decide))]
        have hO6 : Of giftS V V6 := by
          intro f hf
          rw [m6 f (fun y => hf ((show ∀ f, f ∈ ([1038, 1039, 1040, 1041] : List Nat) → f ∈ giftS by decide) f y)), m5 f (fun y => hf ((show ∀ f, f ∈ ([1031, 1032, 1033, 1034, 1035, 1036] : List Nat) → f ∈ giftS by decide) f y))]
          exact hO3 f (fun y => hf ((show ∀ f, f ∈ ([200, 202, 701, 702, 703, 704, 705, 800, 909] : List Nat) → f ∈ giftS by decide) f y))
        have eR3 : ∀ f j, f ≠ 905 → f ≠ 201 → eR E3 f j = eR E f j := fun f j h1 h2 => by
          rw [hE3, setR_n (fun z => h1 z.1)]
          show (if f = 201 ∧ j = gc then some tc else eR E f j) = _
          rw [if_neg (fun z => h2 z.1)]
        have eL3 : ∀ c j, eL E c j → eL E3 c j := fun c j h => by
          rw [hE3]
          exact Or.inl (Or.inl h)
        refine hK _ E3 V6 (gc + 1) (tc + 1) (updN gl gc x') (updN tn tc N) (upX tx tc R.2.2) 0 tb hW2 ((hI.of hO6 (by decide)).gr (fun p hp => ⟨eR3 400 p (by decide) (by decide), eL3 _ _ (hI.1.2.2 p hp).2.1⟩)) hO6 ⟨?_, ?_, by decide, fun j hj => by omega⟩ (hX.add (by omega) hWt ?_ ?_ (fun t ht => ?_) (fun j hj => ?_) (fun j hj => ?_) (fun t ht => ?_) (fun j hj => ?_) (fun t ht => ⟨eL3 _ _ (hX.2.2.2 t ht).1, ?_⟩) ⟨?_, ?_⟩) ?_ (((hU.of hO6 (by decide)).mono (by omega)).gr (fun s hs => eR3 906 s (by decide) (by decide))) (by omega)
        · rw [m6 703 (by decide), m5 703 (by decide), hV3, up3_f (by decide), addGV_f (by decide), addTV_f (by decide), up3_s]
          rfl
        · rw [m6 1031 (by decide), hV5, up3_s]
          rfl
        · rw [m6 1032 (by decide), hV5, up3_f (by decide), up3_f (by decide), up3_s]
        · rw [m6 1033 (by decide), hV5, up3_f (by decide), up3_s]
        · rw [m6 1033 (by decide), hV5, up3_f (by decide), up3_j (by omega), up3_f (by decide), hO4 1033 (by decide), hO3 1033 (by decide)]
        · rw [m6 1034 (by decide), hV5, up3_f (by decide), up3_f (by decide), up3_f (by decide), w4 j hj, hO3 1034 (by decide)]
        · rw [m6 1034 (by decide), hV5, up3_f (by decide), up3_f (by decide), up3_f (by decide)]
          exact w7 j hj
        · rw [m6 800 (by decide), m5 800 (by decide), hV3, up3_row0 (by decide), addGV_f (by decide), addTV_q (by omega), up3_row0 (by decide), hO 800 (by decide)]
        · rw [m6 800 (by decide), m5 800 (by decide), hV3, up3_row0 (by decide), addGV_f (by decide), addTV_n]
          exact hg j hj
        · rw [hE3]
          show (if 800 = 800 ∧ t = tc then N else eN E 800 t) = _
          rw [if_neg (fun z => by omega)]
        · rw [hE3]
          exact Or.inl (Or.inr ⟨rfl, rfl⟩)
        · rw [hE3]
          exact if_pos ⟨rfl, rfl⟩
        · refine (hG.mono (by omega)).add (tc := tc + 1) (x := x') (o := some tc) hlt hx' ?_ ?_ (fun f g' hf hg' => ?_) (fun f g' hf hg' => ?_) ?_ ?_ ?_ ?_ (Or.inr ⟨tc, by omega, rfl, ?_⟩) (fun g' hg' => ⟨?_, eL3 _ _ (hG.2.2.2 g' hg').2.1, ?_⟩) ⟨?_, ?_, ?_⟩
          · rw [m6 909 (by decide), m5 909 (by decide), hV3, up3_s]
          · rw [hV6]
            exact up3_s _ _ _ _ _
          · rw [m6 f (by rcases hf with rfl | rfl <;> decide), m5 f (by rcases hf with rfl | rfl <;> decide), hV3, up3_f (by rcases hf with rfl | rfl <;> decide), addGV_q hg', addTV_f (by omega), up3_f (by omega), hO f (by rcases hf with rfl | rfl <;> decide)]
          · rw [hV6]
            unfold gfM
            rw [up3_f (by rcases hf with rfl | rfl | rfl <;> decide), up3_j hg', up3_j hg', up3_j hg', m5 f (by rcases hf with rfl | rfl | rfl <;> decide), hO3 f (by rcases hf with rfl | rfl | rfl <;> decide)]
          · rw [m6 200 (by decide), m5 200 (by decide), hV3, up3_f (by decide)]
            exact if_pos ⟨Or.inl rfl, rfl⟩
          · rw [m6 202 (by decide), m5 202 (by decide), hV3, up3_f (by decide)]
            exact if_pos ⟨Or.inr rfl, rfl⟩
          · rw [hV6]
            unfold gfM
            rw [up3_f (by decide), up3_f (by decide), up3_f (by decide), up3_s]
          · rw [hV6]
            unfold gfM
            rw [up3_f (by decide), up3_f (by decide), up3_s]
          · rw [hV6]
            unfold gfM
            rw [up3_f (by decide), up3_s]
          · rw [hE3, setR_n (fun z => by omega)]
            show (if 905 = 201 ∧ g' = gc then some tc else eR E 905 g') = _
            rw [if_neg (fun z => absurd z.1 (by decide))]
          · rw [hE3, setR_n (fun z => absurd z.1 (by decide))]
            show (if 201 = 201 ∧ g' = gc then some tc else eR E 201 g') = _
            rw [if_neg (fun z => by omega)]
          · rw [hE3]
            exact setR_s _ _ _ _
          · rw [hE3]
            exact Or.inr ⟨rfl, rfl⟩
          · rw [hE3, setR_n (fun z => absurd z.1 (by decide))]
            exact if_pos ⟨rfl, rfl⟩
def stM (V : Vt) (sc : Nat) (t x : Int32) : Vt := up3 (up3 (up3 V 1043 0 sc t) 1044 0 sc x) 1042 0 0 (nI (sc + 1))
def statS : List Nat := [701, 702, 703, 704, 705, 800, 907, 910, 1031, 1032, 1033, 1034, 1035, 1036, 1042, 1043, 1044]
theorem bo_statute {x : Int32} {K : Int32 → Int32 → Et → Vt → Prop} (hW : WE E n gc tc) (hI : IP E V n D on sn) (hC : IC V m fr yb) (hT : IT V tl tb) (hX : IX E V tc tn tx) (hG : IG E V gc tc gl) (hU : IU E V sc tc) (htc : tc ≤ gc + sc)
    (hK : ∀ r E2 V2 sc' tc' tn' tx' tl' tb', WE E2 n gc tc' → IP E2 V2 n D on sn → Of statS V V2 → IT V2 tl' tb' → IX E2 V2 tc' tn' tx' → IG E2 V2 gc tc' gl → IU E2 V2 sc' tc' → tc' ≤ gc + sc' → K r r E2 V2) : Cl l G yX8_statute cX8_statute 3 (some .int) rm_X8_statute E V [.ref (eA E 8 0), .int x] (Qe (fun r E1 V1 => AE E E1 ∧ C_X9_statute l G E1 V1 x (fun r' V2 => K r r' E1 V2))) := by
  have hE := hW.1
  have g3 := hG.2.2.1
  obtain ⟨u1, u2, s3, u4⟩ := And.intro True.intro hU |>.2
  have h0 : ∀ r, K r r E V := fun r => hK r E V sc tc tn tx tl tb hW hI (Of.rf _ _) hT hX hG hU htc
  obtain ⟨t1, t2, t3, t4⟩ := And.intro True.intro hT |>.2
  have hTC : TC V tl tb := ⟨t1, t3, fun j hj => ⟨(t4 j hj).1, (t4 j hj).2.2⟩⟩
  have hTM : ∀ V1, V1 1030 = V 1030 → V1 1031 = V 1031 → TM V1 tl tb := fun V1 e1 e2 => ⟨by rw [e2]; exact t2, t3, fun j hj => ⟨by rw [e1]; exact (t4 j hj).2.1, (t4 j hj).2.2⟩⟩
  obtain ⟨R, hR⟩ : ∃ R, rd tl tb (tl + 1) 0 0 (fun _ => 0) 0 (fun _ => 0) = R := ⟨_, rfl⟩
  have hsm := smT_le hX tc (Nat.le_refl _)
  have e101 : V 101 0 0 = V 1018 0 0 := by rw [hC.1, hC.2.1]
  refine sp_statute (R := R) hW hTC hR u1 s3 (fun hb => ?_) (fun hb e => ?_) (fun hb hlt f V1 hf hO => ?_) (fun hb hlt hf hN V1 q a g hO hg => ?_)
  · refine ⟨by first | exact AE_rf _ | exact AE_giftT | exact AE_gift | exact AE_text, ?_⟩
    rw [e101] at hb
    refine ok_X9_statute hE ?_
    unfold vc_X9_statute
    exact sp_in hE (nb_f (bz_f hb) (h0 _))
  · refine ⟨by first | exact AE_rf _ | exact AE_giftT | exact AE_gift | exact AE_text, ?_⟩
    rw [e101] at hb
    refine ok_X9_statute hE ?_
    unfold vc_X9_statute
    refine sp_in hE (nb_t (by rw [bz_t hb]; decide) (nb_f (by rw [u2, e]; rfl) (h0 _)))
  · refine ⟨by first | exact AE_rf _ | exact AE_giftT | exact AE_gift | exact AE_text, ?_⟩
    rw [e101] at hb
    obtain ⟨V3, hV3⟩ : ∃ V3, V3 = up3 V1 703 0 0 0 := ⟨_, rfl⟩
    rw [← hV3]
    have hO3 : Of [701, 702, 703, 704, 705] V V3 := by
      rw [hV3]
      exact (hO.mono (by decide)).up (by decide)
    have hX3 : IX E V3 tc tn tx := hX.of hO3 (by decide)
    refine ok_X9_statute hE ?_
    unfold vc_X9_statute
    rw [hO3 1018 (by decide)]
    refine sp_in hE (nb_t (by rw [bz_t hb]; decide) (nb_t ?_ ?_))
    · rw [hO3 1042 (by decide), u2, li 20, nI_eq (by omega) (by decide)]
      omega
    · refine sp_mread (o := sm tn tc) (t := tc) hE (hTM V3 (hO3 1030 (by decide)) (hO3 1031 (by decide))) hX3.1 (by omega) (hX3.2.2.1 tc (Nat.le_refl _)) (by have := hX.2.1; omega) hR (fun y V4 hy hyl hO4 w4 => ?_) (fun V4 hy => ?_)
      · rw [hf] at hy
        cases hy
        refine br_f (nI_pos (by omega)) ?_
        obtain ⟨V5, hV5⟩ : ∃ V5, V5 = up3 V4 1031 0 0 0 := ⟨_, rfl⟩
        rw [← hV5]
        have hOg : Of [701, 702, 703, 704, 705, 1031, 1034, 1035, 1036] V V5 := by
          rw [hV5]
          exact ((hO3.mono (by decide)).tr (hO4.mono (by decide))).up (by decide)
        refine hK _ E V5 sc tc tn tx 0 tb hW (hI.of hOg (by decide)) (hOg.mono (by decide)) ⟨?_, ?_, by decide, fun j hj => by omega⟩ (hX.same ?_ ?_ ?_ ?_) (hG.of hOg (by decide)) (hU.of hOg (by decide)) htc
        · rw [hV5, up3_f (by decide), hO4 703 (by decide), hV3, up3_s]
          rfl
        · rw [hV5, up3_s]
          rfl
        · rw [hV5, up3_row0 (by decide), hO4 1032 (by decide), hO3 1032 (by decide)]
        · rw [hV5, up3_row0 (by decide), hO4 1033 (by decide), hO3 1033 (by decide)]
        · rw [hV5, up3_row0 (by decide), hO4 800 (by decide), hO3 800 (by decide)]
        · intro j hj
          rw [hV5, up3_f (by decide), w4 j hj, hO3 1034 (by decide)]
      · rw [hf] at hy
        cases hy
  · refine ⟨by first | exact AE_rf _ | exact AE_giftT | exact AE_gift | exact AE_text, ?_⟩
    rw [e101] at hb
    obtain ⟨N, hNe⟩ : ∃ N, N = R.2.1 := ⟨_, rfl⟩
    rw [← hNe] at hN hg ⊢
    have hWt : Wt R.2.2 N := by
      refine rd_wt (tb := tb) t3 (tl + 1) 0 0 (fun _ => 0) 0 (fun _ => 0) N R.2.2 (Nat.le_refl _) (Nat.zero_le _) ⟨fun k hk => by omega, fun k hk => by omega, rfl⟩ ?_
      rw [hR, hNe, ← hf]
    have hW1 := hW.text q a N
    obtain ⟨E3, hE3⟩ : ∃ E3, E3 = setR (addT E tc q a N) 906 sc tc := ⟨_, rfl⟩
    have hW2 : WE E3 n gc (tc + 1) := by
      obtain ⟨w1, w2, w3, w4, w5, w6⟩ := hW1
      rw [hE3]
      refine ⟨w1, fun id j t hj => ?_, w3, w4, w5, w6⟩
      by_cases e : id = 906 ∧ j = sc
      · obtain ⟨rfl, rfl⟩ := e
        rw [setR_s] at hj
        cases hj
        exact ⟨fun z => absurd z (by decide), fun z => absurd z (by decide), fun _ => Or.inr ⟨rfl, rfl⟩⟩
      · rw [setR_n e] at hj
        exact w2 id j t hj
    rw [← hE3]
    have hSg3 := hW2.1
    obtain ⟨V3, hV3⟩ : ∃ V3, V3 = up3 (up3 (addTV (up3 V1 703 0 0 0) tc g) 907 0 sc x) 910 0 0 (nI (sc + 1)) := ⟨_, rfl⟩
    rw [← hV3]
    have hO3 : Of [701, 702, 703, 704, 705, 800, 907, 910] V V3 := by
      rw [hV3]
      have b1 : Of [701, 702, 703, 704, 705, 800, 907, 910] V (up3 V1 703 0 0 0) := (hO.mono (by decide)).up (by decide)
      have b2 : Of [701, 702, 703, 704, 705, 800, 907, 910] V (addTV (up3 V1 703 0 0 0) tc g) := fun f hf => by
        rw [addTV_f (fun e => hf (by rw [e]; decide))]
        exact b1 f hf
      exact (b2.up (by decide)).up (by decide)
    refine ok_X9_statute hSg3 ?_
    unfold vc_X9_statute
    rw [hO3 1018 (by decide)]
    refine sp_in hSg3 (nb_t (by rw [bz_t hb]; decide) (nb_t ?_ ?_))
    · rw [hO3 1042 (by decide), u2, li 20, nI_eq (by omega) (by decide)]
      omega
    · refine sp_mread (o := sm tn tc) (t := tc) hSg3 (hTM V3 (hO3 1030 (by decide)) (hO3 1031 (by decide))) (by rw [hO3 1032 (by decide)]; exact hX.1) (by omega) (by rw [hO3 1033 (by decide)]; exact hX.2.2.1 tc (Nat.le_refl _)) (by have := hX.2.1; omega) hR (fun y V4 hy => ?_) (fun V4 hy hO4 w4 w5 w6 w7 => ?_)
      · rw [hf] at hy
        cases hy
      · rw [← hNe] at w5 w7
        refine br_t (by decide) ?_
        refine sp_mkeep (t := tc) (o := sm tn tc + N) hSg3 (by rw [hO4 1032 (by decide), hO3 1032 (by decide)]; exact hX.1) (by omega) w5 ?_
        obtain ⟨V5, hV5⟩ : ∃ V5, V5 = up3 (up3 (up3 V4 1032 0 0 (nI (tc + 1))) 1033 0 (tc + 1) (nI (sm tn tc + N))) 1031 0 0 0 := ⟨_, rfl⟩
        rw [← hV5]
        have m5 : ∀ f, f ∉ ([1031, 1032, 1033, 1034, 1035, 1036] : List Nat) → V5 f = V3 f := fun f hf => by
          rw [hV5, up3_row0 (fun e => hf (by rw [e]; decide)), up3_row0 (fun e => hf (by rw [e]; decide)), up3_row0 (fun e => hf (by rw [e]; decide))]
          refine hO4 f (fun y => hf ?_)
          exact (show ∀ f, f ∈ mrS → f ∈ ([1031, 1032, 1033, 1034, 1035, 1036] : List Nat) by decide) f y
        have v42 : V5 1042 0 0 = nI sc := by rw [m5 1042 (by decide), hO3 1042 (by decide)]; exact u2
        have v42' : V4 1042 0 0 = nI sc := by rw [hO4 1042 (by decide), hO3 1042 (by decide)]; exact u2
        have c1 : (nI sc).toNatClampNeg = sc := cl (by omega)
        have ii : vp_in (nI sc) 20 := inI hlt (by decide)
        rw [v42', c1, up3_f (f' := 1042) (f := 1043) (by decide), v42, c1, up3_f (f' := 1042) (f := 1044) (by decide), up3_f (f' := 1042) (f := 1043) (by decide), v42, nI_1, up3_s]
        refine ⟨ii, ii, ?_⟩
        obtain ⟨V6, hV6⟩ : ∃ V6, V6 = stM V5 sc (nI tc) x := ⟨_, rfl⟩
        show K (nI (sc + 1)) (nI (sc + 1)) E3 (stM V5 sc (nI tc) x)
        rw [← hV6]
        have m6 : ∀ f, f ∉ ([1042, 1043, 1044] : List Nat) → V6 f = V5 f := fun f hf => by
          rw [hV6]
          unfold stM
          rw [up3_row0 (fun e => hf (by rw [e]; decide)), up3_row0 (fun e => hf (by rw [e]; decide)), up3_row0 (fun e => hf (by rw [e]; decide))]
        have hO6 : Of statS V V6 := by
          intro f hf
          rw [m6 f (fun y => hf ((show ∀ f, f ∈ ([1042, 1043, 1044] : List Nat) → f ∈ statS by decide) f y)), m5 f (fun y => hf ((show ∀ f, f ∈ ([1031, 1032, 1033, 1034, 1035, 1036] : List Nat) → f ∈ statS by decide) f y))]
          exact hO3 f (fun y => hf ((show ∀ f, f ∈ ([701, 702, 703, 704, 705, 800, 907, 910] : List Nat) → f ∈ statS by decide) f y))
        have eR3 : ∀ f j, f ≠ 906 → eR E3 f j = eR E f j := fun f j h1 => by
          rw [hE3, setR_n (fun z => h1 z.1)]
          rfl
        have eL3 : ∀ c j, eL E c j → eL E3 c j := fun c j h => by
          rw [hE3]
          exact Or.inl h
        refine hK _ E3 V6 (sc + 1) (tc + 1) (updN tn tc N) (upX tx tc R.2.2) 0 tb hW2 ((hI.of hO6 (by decide)).gr (fun p hp => ⟨eR3 400 p (by decide), eL3 _ _ (hI.1.2.2 p hp).2.1⟩)) hO6 ⟨?_, ?_, by decide, fun j hj => by omega⟩ (hX.add (by omega) hWt ?_ ?_ (fun t ht => ?_) (fun j hj => ?_) (fun j hj => ?_) (fun t ht => ?_) (fun j hj => ?_) (fun t ht => ⟨eL3 _ _ (hX.2.2.2 t ht).1, ?_⟩) ⟨?_, ?_⟩) (((hG.of hO6 (by decide)).mono (by omega)).gr (fun g' hg' => ⟨eR3 905 g' (by decide), eL3 _ _ (hG.2.2.2 g' hg').2.1, eR3 201 g' (by decide)⟩)) ⟨?_, ?_, by omega, fun s hs => ?_⟩ (by omega)
        · rw [m6 703 (by decide), m5 703 (by decide), hV3, up3_f (by decide), up3_f (by decide), addTV_f (by decide), up3_s]
          rfl
        · rw [m6 1031 (by decide), hV5, up3_s]
          rfl
        · rw [m6 1032 (by decide), hV5, up3_f (by decide), up3_f (by decide), up3_s]
        · rw [m6 1033 (by decide), hV5, up3_f (by decide), up3_s]
        · rw [m6 1033 (by decide), hV5, up3_f (by decide), up3_j (by omega), up3_f (by decide), hO4 1033 (by decide), hO3 1033 (by decide)]
        · rw [m6 1034 (by decide), hV5, up3_f (by decide), up3_f (by decide), up3_f (by decide), w4 j hj, hO3 1034 (by decide)]
        · rw [m6 1034 (by decide), hV5, up3_f (by decide), up3_f (by decide), up3_f (by decide)]
          exact w7 j hj
        · rw [m6 800 (by decide), m5 800 (by decide), hV3, up3_row0 (by decide), up3_row0 (by decide), addTV_q (by omega), up3_row0 (by decide), hO 800 (by decide)]
        · rw [m6 800 (by decide), m5 800 (by decide), hV3, up3_row0 (by decide), up3_row0 (by decide), addTV_n]
          exact hg j hj
        · rw [hE3]
          show (if 800 = 800 ∧ t = tc then N else eN E 800 t) = _
          rw [if_neg (fun z => by omega)]
        · rw [hE3]
          exact Or.inr ⟨rfl, rfl⟩
        · rw [hE3]
          exact if_pos ⟨rfl, rfl⟩
        · rw [m6 910 (by decide), m5 910 (by decide), hV3, up3_s]
        · rw [hV6]
          exact up3_s _ _ _ _ _
        · by_cases e : s = sc
          · subst e
            refine ⟨?_, tc, by omega, ?_, ?_⟩
            · rw [m6 907 (by decide), m5 907 (by decide), hV3, up3_f (by decide), up3_s, hV6]
              unfold stM
              rw [up3_f (by decide), up3_s]
            · rw [hE3]
              exact setR_s _ _ _ _
            · rw [hV6]
              unfold stM
              rw [up3_f (by decide), up3_f (by decide), up3_s]
          · obtain ⟨y1, t, y2, y3, y4⟩ := u4 s (by omega)
            refine ⟨?_, t, by omega, ?_, ?_⟩
            · rw [m6 907 (by decide), m5 907 (by decide), hV3, up3_f (by decide), up3_j e, addTV_f (by decide), up3_f (by decide), hO 907 (by decide), hV6]
              unfold stM
              rw [up3_f (by decide), up3_j e, up3_f (by decide), m5 1044 (by decide), hO3 1044 (by decide)]
              exact y1
            · rw [hE3, setR_n (fun z => e z.2)]
              exact y3
            · rw [hV6]
              unfold stM
              rw [up3_f (by decide), up3_f (by decide), up3_j e, m5 1043 (by decide), hO3 1043 (by decide)]
              exact y4
end Gift2

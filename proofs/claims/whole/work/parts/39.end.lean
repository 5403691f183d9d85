/-! what names mean; gifts' ends; the statute in force -/
def mnG (a b c d : Int32) (m fr : Nat) (yb : Nat → Nat) (w : Int32) : Nat → Int32 := fun i => if i = 0 then a else if i = 1 then b else if i = 2 then c else if i = 3 then d else if i = 4 then nI (m % 12) else if i = 5 then nI (m / 12) else if i = 6 then bz (frs fr yb m = true) else w
theorem lgc {x y : Int64} : (0 : Int32) ≤ lg_cmp x y ↔ y ≤ x := by
  unfold lg_cmp
  rw [Int64.le_iff_toInt_le]
  by_cases h : x > y
  · rw [if_pos h]
    have h' : y.toInt < x.toInt := Int64.lt_iff_toInt_lt.mp h
    exact ⟨fun _ => by omega, fun _ => by decide⟩
  · rw [if_neg h]
    have h' : ¬ y.toInt < x.toInt := fun z => h (Int64.lt_iff_toInt_lt.mpr z)
    by_cases e : x = y
    · rw [if_pos e, e]
      exact ⟨fun _ => Int.le_refl _, fun _ => by decide⟩
    · rw [if_neg e]
      have e' : ¬ x.toInt = y.toInt := fun z => e (Int64.toInt_inj.mp z)
      exact ⟨fun z => absurd z (by decide), fun z => absurd (by omega) e'⟩
def txv (tx : Nat → Nat → Nat) (tn : Nat → Nat) (mn : Nat → Int32) (o : Option Nat) (d : Int32) : Int32 := match o with
  | none => d
  | some t => ev mn (tx t) (tn t) (tn t) 0
def sifv (f : Nat → Int32) (now : Int32) : Nat → Option Nat
  | 0 => none
  | s + 1 => if f s ≤ now then some s else sifv f now s
theorem sifv_s (f : Nat → Int32) (now : Int32) (s : Nat) : sifv f now (s + 1) = if f s ≤ now then some s else sifv f now s := rfl
theorem sifv_lt {f : Nat → Int32} {now : Int32} : ∀ n s, sifv f now n = some s → s < n
  | 0, s, h => by cases h
  | n + 1, s, h => by
    unfold sifv at h
    split at h
    · cases h
      omega
    · have := sifv_lt n s h
      omega
section Names
variable {l : Launch} {G : Gt} {E : Et} {V : Vt} {n m fr gc tc sc : Nat} {D on sn tx : Nat → Nat → Nat} {yb gl tn : Nat → Nat} {mn : Nat → Int32}
theorem lt8 {i : Nat} (h : i < 8) : i = 0 ∨ i = 1 ∨ i = 2 ∨ i = 3 ∨ i = 4 ∨ i = 5 ∨ i = 6 ∨ i = 7 := by omega
theorem sp_nMonth {K : Vt → Prop} (hE : Sg E) (hC : IC V m fr yb) (h : K (up3 (up3 (up3 (up3 V 500 0 4 (nI (m % 12))) 500 0 5 (nI (m / 12))) 500 0 6 (bz (frs fr yb m = true))) 500 0 7 (V 911 0 0))) : C_X8_nameMonth l G E V K := by
  have hm := hC.2.2.1
  refine ok_X8_nameMonth hE ?_
  unfold vc_X8_nameMonth
  rw [hC.1]
  refine sp_hasFrost hE hC.c hm ?_
  refine ok_X4_nameMonth hE ?_
  unfold vc_X4_nameMonth
  rw [n12 (by omega), r12 (by omega)]
  have i4 : vp_in (4 : Int32) 8 := inI (n := 4) (by decide) (by decide)
  have i5 : vp_in (5 : Int32) 8 := inI (n := 5) (by decide) (by decide)
  have i6 : vp_in (6 : Int32) 8 := inI (n := 6) (by decide) (by decide)
  have i7 : vp_in (7 : Int32) 8 := inI (n := 7) (by decide) (by decide)
  refine ⟨i4, i5, fun z => ⟨i6, i7, ?_⟩, fun z => ⟨i6, i7, ?_⟩⟩
  · rw [bz0] at z
    rw [bz_f z] at h
    exact h
  · rw [bz0] at z
    rw [bz_t (Decidable.not_not.mp z)] at h
    exact h
theorem sp_nm {p : Nat} {K : Vt → Prop} (hE : Sg E) (hC : IC V m fr yb) (hl : eL E 2 p) (h : ∀ V', Of [500] V V' → (∀ i, i < 8 → V' 500 0 i = mnG (nI p) (V 300 p 0) (V 310 p 0) (V 309 p 0) m fr yb (V 911 0 0) i) → K V') : C_X8_nameMonth l G E V (fun V27 => C_X4_namePart l G E V27 (nI p) p K) := by
  refine sp_nMonth hE hC ?_
  refine ok_X4_namePart hE hl ?_
  unfold vc_X4_namePart
  have i0 : vp_in (0 : Int32) 8 := inI (n := 0) (by decide) (by decide)
  have i1 : vp_in (1 : Int32) 8 := inI (n := 1) (by decide) (by decide)
  have i2 : vp_in (2 : Int32) 8 := inI (n := 2) (by decide) (by decide)
  have i3 : vp_in (3 : Int32) 8 := inI (n := 3) (by decide) (by decide)
  refine ⟨i0, i1, i2, i3, h _ ?_ (fun i hi => ?_)⟩
  · exact ((((((((Of.rf _ V).up (by decide)).up (by decide)).up (by decide)).up (by decide)).up (by decide)).up (by decide)).up (by decide)).up (by decide)
  · rw [cl0, cl1, cl2, cl3]
    rcases lt8 hi with rfl | rfl | rfl | rfl | rfl | rfl | rfl | rfl <;> simp [up3, mnG]
theorem sp_nm0 {K : Vt → Prop} (hE : Sg E) (hC : IC V m fr yb) (h : ∀ V', Of [500] V V' → (∀ i, i < 8 → V' 500 0 i = mnG 0 0 0 0 m fr yb (V 911 0 0) i) → K V') : C_X8_nameMonth l G E V (fun V27 => C_X4_nameNoPart l G E V27 K) := by
  refine sp_nMonth hE hC ?_
  refine ok_X4_nameNoPart hE ?_
  unfold vc_X4_nameNoPart
  have i0 : vp_in (0 : Int32) 8 := inI (n := 0) (by decide) (by decide)
  have i1 : vp_in (1 : Int32) 8 := inI (n := 1) (by decide) (by decide)
  have i2 : vp_in (2 : Int32) 8 := inI (n := 2) (by decide) (by decide)
  have i3 : vp_in (3 : Int32) 8 := inI (n := 3) (by decide) (by decide)
  refine ⟨i0, i1, i2, i3, h _ ?_ (fun i hi => ?_)⟩
  · exact ((((((((Of.rf _ V).up (by decide)).up (by decide)).up (by decide)).up (by decide)).up (by decide)).up (by decide)).up (by decide)).up (by decide)
  · rw [cl0, cl1, cl2, cl3]
    rcases lt8 hi with rfl | rfl | rfl | rfl | rfl | rfl | rfl | rfl <;> simp [up3, mnG]
theorem N_eq {x : Nat} (h : x ∈ kN) : x = 112 ∨ x = 107 ∨ x = 110 ∨ x = 119 ∨ x = 109 ∨ x = 121 ∨ x = 102 ∨ x = 100 := by
  simp only [kN, List.mem_cons, List.not_mem_nil, or_false] at h
  omega
theorem mn_named {x2 a b c d w : Int32} (hE : Sg E) (hC : IC V m fr yb) (hw : w = V 1019 0 0) (h1 : ((0 : Int32) ≤ x2 → ∃ p, p < 40 ∧ x2 = nI p ∧ a = nI p ∧ b = V 1002 0 p ∧ c = V 1012 0 p ∧ d = V 1003 0 p)) (h2 : ¬ (0 : Int32) ≤ x2 → a = 0 ∧ b = 0 ∧ c = 0 ∧ d = 0) : MNm l G E V x2 (mnG a b c d m fr yb w) := by
  intro V1 hO k hk K h
  have hm := hC.2.2.1
  have hF1 : FRm V1 fr yb := by
    unfold FRm
    rw [hO 1021 (by decide), hO 1022 (by decide)]
    exact hC.m
  refine ok_X9_named hE ?_
  unfold vc_X9_named
  rw [hO 1018 (by decide), hO 1002 (by decide), hO 1012 (by decide), hO 1003 (by decide), hO 1019 (by decide), hC.2.1, n12 (by omega), r12 (by omega)]
  rcases N_eq hk with rfl | rfl | rfl | rfl | rfl | rfl | rfl | rfl
  · replace h : K a V1 := h
    refine ⟨fun z => absurd z (by decide), fun z => absurd z (by decide), fun z => absurd z (by decide), fun z => absurd z (by decide), fun _ => ⟨fun z => ?_, fun z => ?_⟩, fun z => absurd z (by decide), fun z => absurd z (by decide), fun z => absurd rfl z.2.2.2.2.1⟩
    · obtain ⟨p, hp, e, ea, eb, ec, ed⟩ := h1 z
      rw [e, ← ea]
      exact h
    · rw [← (h2 z).1]
      exact h
  · replace h : K b V1 := h
    refine ⟨fun z => absurd z (by decide), fun _ => ⟨fun z => ?_, fun z => ?_⟩, fun z => absurd z (by decide), fun z => absurd z (by decide), fun z => absurd z (by decide), fun z => absurd z (by decide), fun z => absurd z (by decide), fun z => absurd rfl z.2.1⟩
    · obtain ⟨p, hp, e, ea, eb, ec, ed⟩ := h1 z
      rw [e, cl (by omega), ← eb]
      exact ⟨inI (by omega) (by decide), h⟩
    · rw [← (h2 z).2.1]
      exact h
  · replace h : K c V1 := h
    refine ⟨fun z => absurd z (by decide), fun z => absurd z (by decide), fun z => absurd z (by decide), fun _ => ⟨fun z => ?_, fun z => ?_⟩, fun z => absurd z (by decide), fun z => absurd z (by decide), fun z => absurd z (by decide), fun z => absurd rfl z.2.2.2.1⟩
    · obtain ⟨p, hp, e, ea, eb, ec, ed⟩ := h1 z
      rw [e, cl (by omega), ← ec]
      exact ⟨inI (by omega) (by decide), h⟩
    · rw [← (h2 z).2.2.1]
      exact h
  · replace h : K d V1 := h
    refine ⟨fun z => absurd z (by decide), fun z => absurd z (by decide), fun z => absurd z (by decide), fun z => absurd z (by decide), fun z => absurd z (by decide), fun _ => ⟨fun z => ?_, fun z => ?_⟩, fun z => absurd z (by decide), fun z => absurd rfl z.2.2.2.2.2.1⟩
    · obtain ⟨p, hp, e, ea, eb, ec, ed⟩ := h1 z
      rw [e, cl (by omega), ← ed]
      exact ⟨inI (by omega) (by decide), h⟩
    · rw [← (h2 z).2.2.2]
      exact h
  · replace h : K (nI (m % 12)) V1 := h
    exact ⟨fun z => absurd z (by decide), fun z => absurd z (by decide), fun _ => h, fun z => absurd z (by decide), fun z => absurd z (by decide), fun z => absurd z (by decide), fun z => absurd z (by decide), fun z => absurd rfl z.2.2.1⟩
  · replace h : K (nI (m / 12)) V1 := h
    exact ⟨fun z => absurd z (by decide), fun z => absurd z (by decide), fun z => absurd z (by decide), fun z => absurd z (by decide), fun z => absurd z (by decide), fun z => absurd z (by decide), fun _ => h, fun z => absurd rfl z.2.2.2.2.2.2⟩
  · replace h : K (bz (frs fr yb m = true)) V1 := h
    refine ⟨fun _ => sp_isFrost hE hF1 hm ⟨fun z => ?_, fun z => ?_⟩, fun z => absurd z (by decide), fun z => absurd z (by decide), fun z => absurd z (by decide), fun z => absurd z (by decide), fun z => absurd z (by decide), fun z => absurd z (by decide), fun z => absurd rfl z.1⟩
    · rw [z] at h
      exact h
    · rw [bz0] at z
      rw [bz_t (Decidable.not_not.mp z)] at h
      exact h
  · replace h : K w V1 := h
    rw [hw] at h
    exact ⟨fun z => absurd z (by decide), fun z => absurd z (by decide), fun z => absurd z (by decide), fun z => absurd z (by decide), fun z => absurd z (by decide), fun z => absurd z (by decide), fun z => absurd z (by decide), fun _ => h⟩
theorem sp_text {t : Nat} {K : Int32 → Vt → Prop} (hE : Sg E) (hX : IX E V tc tn tx) (ht : t < tc) (hm : ∀ i, i < 8 → V 500 0 i = mn i) (h : ∀ V', Of [501] V V' → K (ev mn (tx t) (tn t) (tn t) 0) V') : C_X4_valueOf l G E V (some t) K := by
  obtain ⟨x1, x2, x3, x4⟩ := hX.2.2.2 t ht
  exact sp_val hE x3 x1 x2 (fun j hj => (x4 j hj).1) hm h
theorem sp_mtext {t : Nat} {x2 : Int32} {K : Int32 → Vt → Prop} (hE : Sg E) (hX : IX E V tc tn tx) (ht : t < tc) (hm : MNm l G E V x2 mn) (h : ∀ V', Of [1037] V V' → K (ev mn (tx t) (tn t) (tn t) 0) V') : C_X9_says l G E V (nI t) x2 K := by
  obtain ⟨x1, x2, x3, x4⟩ := hX.2.2.2 t ht
  have htc := hX.2.1
  have hb := sm_bound (f := fun k => if k < tc then tn k else 0) (c := 100) (t + 1) (fun k hk => by
    show (if k < tc then tn k else 0) ≤ 100
    rw [if_pos (by omega)]
    exact (hX.2.2.2 k (by omega)).2.2.1.1)
  rw [sm_cong (g := tn) (t + 1) (fun k hk => if_pos (by omega)), sm_s] at hb
  exact sp_says hE x3 (by omega) (hX.2.2.1 t (by omega)) (by rw [hX.2.2.1 (t + 1) (by omega), sm_s]) (by omega) (fun j hj => (x4 j hj).2) hm h
theorem sp_endOf {g : Nat} {K : Int32 → Vt → Prop} (hE : Sg E) (hX : IX E V tc tn tx) (hG : IG E V gc tc gl) (hg : g < gc) (hm : ∀ i, i < 8 → V 500 0 i = mn i) (h : ∀ V', Of [501] V V' → K (txv tx tn mn (eR E 201 g) 1) V') : C_X4_endOf l G E V g K := by
  obtain ⟨a1, a2, a3, a4, a5, a6, a7⟩ := hG.2.2.2 g hg
  refine ok_X4_endOf hE a2 ?_
  unfold vc_X4_endOf
  rcases a7 with ⟨b1, b2⟩ | ⟨t, b0, b1, b2⟩
  · rw [b1] at h ⊢
    exact ⟨fun _ => h V (Of.rf _ _), fun t z => (by cases z)⟩
  · rw [b1] at h ⊢
    refine ⟨fun z => (by cases z), fun t' ht => ?_⟩
    cases ht
    exact ⟨(hX.2.2.2 t b0).1, sp_text hE hX b0 hm h⟩
theorem sp_endFor {g : Nat} {x2 : Int32} {K : Int32 → Vt → Prop} (hE : Sg E) (hX : IX E V tc tn tx) (hG : IG E V gc tc gl) (hg : g < gc) (hm : MNm l G E V x2 mn) (h : ∀ V', Of [1037] V V' → K (txv tx tn mn (eR E 201 g) 1) V') : C_X9_endFor l G E V (nI g) x2 K := by
  obtain ⟨a1, a2, a3, a4, a5, a6, a7⟩ := hG.2.2.2 g hg
  have g3 := hG.2.2.1
  have htc := hX.2.1
  have ii : vp_in (nI g) 30 := inI (by omega) (by decide)
  refine ok_X9_endFor hE ?_
  unfold vc_X9_endFor
  rw [cl (by omega)]
  refine ⟨ii, ?_⟩
  rcases a7 with ⟨b1, b2⟩ | ⟨t, b0, b1, b2⟩
  · rw [b1] at h
    rw [b2]
    exact br_f (by decide) (h V (Of.rf _ _))
  · rw [b1] at h
    rw [b2]
    exact br_t (nI_pos' (by omega)) ⟨ii, sp_mtext hE hX b0 hm h⟩
def nmS : List Nat := [500, 501, 1037]
theorem bo_end {x y : Int32} {K : Int32 → Int32 → Vt → Prop} (hE : Sg E) (hI : IP E V n D on sn) (hC : IC V m fr yb) (hX : IX E V tc tn tx) (hG : IG E V gc tc gl) (hK : ∀ r V2, Of nmS V V2 → K r r V2) : C_X8_end l G E V x y (fun r V1 => C_X9_end l G E V1 x y (fun r' V2 => K r r' V2)) := by
  have hn := hI.1.2.1
  have g3 := hG.2.2.1
  have k0 : ∀ r, K r r V := fun r => hK r V (Of.rf _ _)
  have bad : (x < 0 ∨ nI gc ≤ x) ∨ (y < 0 ∨ nI n ≤ y) → C_X9_end l G E V x y (fun r' V2 => K (-2000000000) r' V2) := by
    intro hb
    refine ok_X9_end hE ?_
    unfold vc_X9_end
    refine sp_isGift hE hG (fun _ => br_t rfl (k0 _)) (fun g hg e => br_f (by decide) ?_)
    refine sp_isPart hE hI.2.1 (fun _ => br_t rfl (k0 _)) (fun p hp e2 => ?_)
    subst e
    subst e2
    rcases hb with (q | q) | (q | q)
    · exact absurd q (nI_pos (by omega))
    · exact absurd ((nI_leI (by omega) (by omega)).mp q) (by omega)
    · exact absurd q (nI_pos (by omega))
    · exact absurd ((nI_leI (by omega) (by omega)).mp q) (by omega)
  refine ok_X8_end hE ?_
  unfold vc_X8_end
  refine sp_findGift hE hG (fun q => ?_) (fun g hg e => ?_)
  · refine sp_find hE hI.1 (fun q2 => ⟨fun _ => bad (Or.inl q), fun t z => (by cases z)⟩) (fun p hp e => ⟨fun _ => bad (Or.inl q), fun t z => (by cases z)⟩)
  · refine sp_find hE hI.1 (fun q2 => ⟨fun z => (by cases z), fun t ht => ?_⟩) (fun p hp e2 => ⟨fun z => (by cases z), fun t ht => ?_⟩)
    · cases ht
      exact ⟨(hG.2.2.2 g hg).2.1, fun _ => bad (Or.inr q2), fun t z => (by cases z)⟩
    · cases ht
      refine ⟨(hG.2.2.2 g hg).2.1, fun z => (by cases z), fun t ht => ?_⟩
      cases ht
      subst e
      subst e2
      have hl := (hI.1.2.2 p hp).2.1
      refine ⟨hl, sp_nm hE hC hl (fun V1 hO1 w1 => ?_)⟩
      refine sp_endOf hE (hX.of hO1 (by decide)) (hG.of hO1 (by decide)) hg w1 (fun V2 hO2 => ?_)
      have hO : Of [500, 501] V V2 := (hO1.mono (by decide)).tr (hO2.mono (by decide))
      refine ok_X9_end hE ?_
      unfold vc_X9_end
      refine sp_isGift hE (hG.of hO (by decide)) (fun q => ?_) (fun g' hg' e => br_f (by decide) ?_)
      · rcases q with q | q
        · exact absurd q (nI_pos (by omega))
        · exact absurd ((nI_leI (by omega) (by omega)).mp q) (by omega)
      · refine sp_isPartp hE (hI.2.1.cl hO (by decide)) hp (br_f (by decide) ?_)
        obtain ⟨a1, a2, a3, a4, a5, a6, a7, a8, a9, a10, a11, a12, a13⟩ := hI.2.2 p hp
        refine sp_endFor hE (hX.of hO (by decide)) (hG.of hO (by decide)) hg (mn_named (a := nI p) (b := V 300 p 0) (c := V 310 p 0) (d := V 309 p 0) (w := V 911 0 0) hE (hC.of hO (by decide)) (by rw [hO 1019 (by decide)]; exact hC.2.2.2.2.2.2.2.2.1) (fun _ => ⟨p, by omega, rfl, rfl, ?_, ?_, ?_⟩) (fun z => absurd (nI_pos' (by omega)) z)) (fun V3 hO3 => ?_)
        · rw [hO 1002 (by decide)]
          exact a1
        · rw [hO 1012 (by decide), a8.1, a8.2.1]
        · rw [hO 1003 (by decide), a2.1, a2.2.1]
        · exact hK _ _ ((hO.mono (by decide)).tr (hO3.mono (by decide)))
/-- the statute in force, its text -/
theorem sp_sif {K : Int32 → Vt → Prop} (hE : Sg E) (hU : IU E V sc tc) (h1 : sifv (V 907 0) (V 101 0 0) sc = none → K (-1) V) (h2 : ∀ s, sifv (V 907 0) (V 101 0 0) sc = some s → s < sc → K (nI s) V) : C_X8_statuteInForce l G E V K := by
  obtain ⟨u1, u2, u3, u4⟩ := hU
  have loop : ∀ s, s ≤ sc → sifv (V 907 0) (V 101 0 0) s = sifv (V 907 0) (V 101 0 0) sc → A_X8_statuteInForce_7 l G E V (nI s - 1) K := by
    intro s
    induction s with
    | zero =>
      intro hs e
      refine ok_X8_statuteInForce_7 hE ?_
      unfold vc_X8_statuteInForce_7
      exact br_t (by decide) (h1 (by rw [← e]; rfl))
    | succ s ih =>
      intro hs e
      rw [sifv_s] at e
      refine ok_X8_statuteInForce_7 hE ?_
      unfold vc_X8_statuteInForce_7
      rw [nI_pred, cl (by omega), i_m1]
      refine br_f (nI_pos (by omega)) ⟨inI (by omega) (by decide), fun z => ?_, fun z => ?_⟩
      · rw [if_neg (lt_nle z)] at e
        exact ih (by omega) e
      · rw [if_pos (nlt_le z)] at e
        exact h2 s e.symm (by omega)
  refine ok_X8_statuteInForce hE ?_
  unfold vc_X8_statuteInForce
  rw [u1]
  exact loop sc (Nat.le_refl _) rfl
def wkv (E : Et) (V : Vt) (sc : Nat) (tx : Nat → Nat → Nat) (tn : Nat → Nat) (mn : Nat → Int32) : Int32 := match sifv (V 907 0) (V 101 0 0) sc with
  | none => 10
  | some s => if (0 : Int32) < txv tx tn mn (eR E 906 s) 0 then txv tx tn mn (eR E 906 s) 0 else 0
theorem sp_work {K : Int32 → Vt → Prop} (hE : Sg E) (hC : IC V m fr yb) (hX : IX E V tc tn tx) (hU : IU E V sc tc) (h : ∀ V', Of [500, 501] V V' → K (wkv E V sc tx tn (mnG 0 0 0 0 m fr yb (V 911 0 0))) V') : C_X8_work l G E V K := by
  have u3 := hU.2.2.1
  refine ok_X8_work hE ?_
  unfold vc_X8_work
  unfold wkv at h
  refine sp_sif hE hU (fun z => br_f (by decide) ?_) (fun s z hs => br_t (nI_pos' (by omega)) ?_)
  · rw [z] at h
    exact h V (Of.rf _ _)
  · rw [z] at h
    obtain ⟨t, t1, t2, t3⟩ := (hU.2.2.2 s hs).2
    refine sp_nm0 hE hC (fun V1 hO1 w1 => ⟨inI (by omega) (by decide), ?_⟩)
    replace h : ∀ V', Of [500, 501] V V' → K (if (0 : Int32) < txv tx tn (mnG 0 0 0 0 m fr yb (V 911 0 0)) (eR E 906 s) 0 then txv tx tn (mnG 0 0 0 0 m fr yb (V 911 0 0)) (eR E 906 s) 0 else 0) V' := h
    rw [cl (by omega)]
    rw [t2] at h ⊢
    exact sp_text hE (hX.of hO1 (by decide)) t1 w1 (fun V2 hO2 => h V2 ((hO1.mono (by decide)).tr (hO2.mono (by decide))))
theorem sp_mwork {K : Int32 → Vt → Prop} (hE : Sg E) (hC : IC V m fr yb) (hX : IX E V tc tn tx) (hU : IU E V sc tc) (h : ∀ V', Of [1037] V V' → K (wkv E V sc tx tn (mnG 0 0 0 0 m fr yb (V 1019 0 0))) V') : C_X9_work l G E V K := by
  obtain ⟨u1, u2, u3, u4⟩ := And.intro True.intro hU |>.2
  have hM : MNm l G E V (-1) (mnG 0 0 0 0 m fr yb (V 1019 0 0)) := mn_named hE hC rfl (fun z => absurd z (by decide)) (fun _ => ⟨rfl, rfl, rfl, rfl⟩)
  unfold wkv at h
  have loop : ∀ s, s ≤ sc → sifv (V 907 0) (V 101 0 0) s = sifv (V 907 0) (V 101 0 0) sc → A_X9_work_7 l G E V (nI s - 1) K := by
    intro s
    induction s with
    | zero =>
      intro hs e
      rw [← e] at h
      refine ok_X9_work_7 hE ?_
      unfold vc_X9_work_7
      exact br_t (by decide) (h V (Of.rf _ _))
    | succ s ih =>
      intro hs e
      rw [sifv_s] at e
      obtain ⟨w1, t, t1, t2, t3⟩ := u4 s (by omega)
      refine ok_X9_work_7 hE ?_
      unfold vc_X9_work_7
      rw [nI_pred, cl (by omega), i_m1, ← w1, hC.2.1, ← hC.1, t3]
      have ii : vp_in (nI s) 20 := inI (by omega) (by decide)
      refine br_f (nI_pos (by omega)) ⟨ii, fun z => ⟨ii, ?_⟩, fun z => ?_⟩
      · rw [if_pos z] at e
        rw [← e] at h
        replace h : ∀ V', Of [1037] V V' → K (if (0 : Int32) < txv tx tn (mnG 0 0 0 0 m fr yb (V 1019 0 0)) (eR E 906 s) 0 then txv tx tn (mnG 0 0 0 0 m fr yb (V 1019 0 0)) (eR E 906 s) 0 else 0) V' := h
        rw [t2] at h
        replace h : ∀ V', Of [1037] V V' → K (if (0 : Int32) < ev (mnG 0 0 0 0 m fr yb (V 1019 0 0)) (tx t) (tn t) (tn t) 0 then ev (mnG 0 0 0 0 m fr yb (V 1019 0 0)) (tx t) (tn t) (tn t) 0 else 0) V' := h
        refine sp_mtext hE hX t1 hM (fun V1 hO1 => ⟨fun y => ?_, fun y => ?_⟩)
        · have := h V1 hO1
          by_cases q : (0 : Int32) < ev (mnG 0 0 0 0 m fr yb (V 1019 0 0)) (tx t) (tn t) (tn t) 0
          · rw [if_pos q] at this
            exact this
          · rw [if_neg q] at this
            have e0 : ev (mnG 0 0 0 0 m fr yb (V 1019 0 0)) (tx t) (tn t) (tn t) 0 = 0 := by
              rw [i_eq]
              rw [i_lt] at q
              rw [i_le] at y
              omega
            rw [e0]
            exact this
        · have := h V1 hO1
          rw [if_neg (fun q => y (by rw [i_le]; rw [i_lt] at q; omega))] at this
          exact this
      · rw [if_neg z] at e
        exact ih (by omega) e
  refine ok_X9_work hE ?_
  unfold vc_X9_work
  rw [u2]
  exact loop sc (Nat.le_refl _) rfl
theorem wkv_of {V V' : Vt} {S : List Nat} (hO : Of S V V') (h1 : 907 ∉ S) (h2 : 101 ∉ S) : wkv E V' sc tx tn mn = wkv E V sc tx tn mn := by
  unfold wkv
  rw [hO 907 h1, hO 101 h2]
theorem bo_work {K : Int32 → Int32 → Vt → Prop} (hE : Sg E) (hC : IC V m fr yb) (hX : IX E V tc tn tx) (hU : IU E V sc tc) (hK : ∀ r V2, Of nmS V V2 → K r r V2) : C_X8_work l G E V (fun r V1 => C_X9_work l G E V1 (fun r' V2 => K r r' V2)) := by
  refine sp_work hE hC hX hU (fun V1 hO1 => ?_)
  refine sp_mwork hE (hC.of hO1 (by decide)) (hX.of hO1 (by decide)) (hU.of hO1 (by decide)) (fun V2 hO2 => ?_)
  rw [wkv_of hO1 (by decide) (by decide), hO1 1019 (by decide), ← hC.2.2.2.2.2.2.2.2.1]
  exact hK _ _ ((hO1.mono (by decide)).tr (hO2.mono (by decide)))
end Names

/-! the model's side over a world whose class rows have gone on -/
def scr : List Nat := [1028, 1029, 1037, 1045]
def Om (V0 V : Vt) : Prop := ∀ f, 1000 ≤ f → f ∉ scr → V f = V0 f
theorem Om.tr {V0 V V' : Vt} {S : List Nat} (h : Om V0 V) (hO : Of S V V') (hS : ∀ f, f ∈ S → f < 1000 ∨ f ∈ scr := by decide) : Om V0 V' := fun f h1 h2 => by
  rw [hO f (fun q => by
    rcases hS f q with z | z
    · omega
    · exact h2 z)]
  exact h f h1 h2
theorem Om.cl {V V' : Vt} {S : List Nat} (hO : Of S V V') (hS : ∀ f, f ∈ S → f < 1000 ∨ f ∈ scr := by decide) : Om V V' := Om.tr (V0 := V) (fun _ _ _ => rfl) hO hS
theorem Om.pm {V0 V : Vt} {n : Nat} {sc : Nat → Nat} {on : Nat → Nat → Nat} (h : Om V0 V) (hP : PM V0 n sc on) : PM V n sc on := by
  unfold PM
  rw [h 1001 (by decide) (by decide), h 1015 (by decide) (by decide), h 1002 (by decide) (by decide), h 1016 (by decide) (by decide)]
  exact hP
theorem mF_om {V0 V : Vt} {n : Nat} {sc : Nat → Nat} {on : Nat → Nat → Nat} (e : ∀ f, f ∈ mfIds → V f = V0 f) : mF V sc on n = mF V0 sc on n := by
  have a1 : mLW V = mLW V0 := by funext p; unfold mLW; rw [e 1012 (by decide), e 1005 (by decide)]
  have a2 : mCe V = mCe V0 := by funext p; unfold mCe; rw [e 1014 (by decide)]
  have a3 : mAr V = mAr V0 := by funext p; unfold mAr; rw [e 1002 (by decide), e 1012 (by decide)]
  have a4 : mSh V = mSh V0 := by funext p i; unfold mSh; rw [e 1017 (by decide)]
  have a5 : mBg V = mBg V0 := by funext p; unfold mBg; rw [e 1012 (by decide), a2]
  unfold mF mW
  rw [a1, a2, a3, a4, a5, e 1009 (by decide), e 1007 (by decide), e 1008 (by decide), e 1011 (by decide)]
theorem Om.mf {V0 V : Vt} {n : Nat} {sc : Nat → Nat} {on : Nat → Nat → Nat} {p : Nat} {v w : Int32} (h : Om V0 V) : mF (up3 (up3 V 1014 0 p v) 1012 0 p w) sc on n = mF (up3 (up3 V0 1014 0 p v) 1012 0 p w) sc on n := by
  refine mF_om (fun f hf => ?_)
  have e : V f = V0 f := h f ((show ∀ f, f ∈ mfIds → 1000 ≤ f by decide) f hf) ((show ∀ f, f ∈ mfIds → f ∉ scr by decide) f hf)
  funext a b
  unfold up3
  rw [e]
section Om
variable {l : Launch} {G : Gt} {E : Et} {V V0 : Vt} {n m fr gc tc sc : Nat} {D on sn tx : Nat → Nat → Nat} {yb gl tn : Nat → Nat} {mn : Nat → Int32}
theorem mn_named_o {x2 a b c d w : Int32} (hE : Sg E) (hC : IC V0 m fr yb) (hM : Om V0 V) (hw : w = V0 1019 0 0) (h1 : ((0 : Int32) ≤ x2 → ∃ p, p < 40 ∧ x2 = nI p ∧ a = nI p ∧ b = V0 1002 0 p ∧ c = V0 1012 0 p ∧ d = V0 1003 0 p)) (h2 : ¬ (0 : Int32) ≤ x2 → a = 0 ∧ b = 0 ∧ c = 0 ∧ d = 0) : MNm l G E V x2 (mnG a b c d m fr yb w) := by
  intro V1 hO k hk K h
  have hm := hC.2.2.1
  have hF1 : FRm V1 fr yb := by
    unfold FRm
    rw [hO 1021 (by decide), hO 1022 (by decide), hM 1021 (by decide) (by decide), hM 1022 (by decide) (by decide)]
    exact hC.m
  refine ok_X9_named hE ?_
  unfold vc_X9_named
  rw [hO 1018 (by decide), hO 1002 (by decide), hO 1012 (by decide), hO 1003 (by decide), hO 1019 (by decide), hM 1018 (by decide) (by decide), hM 1002 (by decide) (by decide), hM 1012 (by decide) (by decide), hM 1003 (by decide) (by decide), hM 1019 (by decide) (by decide), hC.2.1, n12 (by omega), r12 (by omega)]
  rcases N_eq hk with rfl | rfl | rfl | rfl | rfl | rfl | rfl | rfl
  · replace h : K a V1 := h
    refine ⟨fun z => absurd z (by decide), fun z => absurd z (by decide), fun z => absurd z (by decide), fun z => absurd z (by decide), fun _ => ⟨fun z => ?_, fun z => ?_⟩, fun z => absurd z (by decide), fun z => absurd z (by decide), fun z => absurd rfl z.2.2.2.2.1⟩
    · obtain ⟨p, hp, e, ea, eb, ec, ed⟩ := h1 z
      rw [e, ← ea]
      exact h
    · rw [← (h2 z).1]
      exact h
  · replace h : K b V1 := h
    refine ⟨fun z => absurd z (by decide), fun _ => ⟨fun z => ?_, fun z => ?_⟩, fun z => absurd z (by decide), fun z => absurd z (by decide), fun z => absurd z (by decide), fun z => absurd z (by decide), fun z => absurd z (by decide), fun z => absurd rfl z.2.1⟩
    · obtain ⟨p, hp, e, ea, eb, ec, ed⟩ := h1 z
      rw [e, cl (by omega), ← eb]
      exact ⟨inI (by omega) (by decide), h⟩
    · rw [← (h2 z).2.1]
      exact h
  · replace h : K c V1 := h
    refine ⟨fun z => absurd z (by decide), fun z => absurd z (by decide), fun z => absurd z (by decide), fun _ => ⟨fun z => ?_, fun z => ?_⟩, fun z => absurd z (by decide), fun z => absurd z (by decide), fun z => absurd z (by decide), fun z => absurd rfl z.2.2.2.1⟩
    · obtain ⟨p, hp, e, ea, eb, ec, ed⟩ := h1 z
      rw [e, cl (by omega), ← ec]
      exact ⟨inI (by omega) (by decide), h⟩
    · rw [← (h2 z).2.2.1]
      exact h
  · replace h : K d V1 := h
    refine ⟨fun z => absurd z (by decide), fun z => absurd z (by decide), fun z => absurd z (by decide), fun z => absurd z (by decide), fun z => absurd z (by decide), fun _ => ⟨fun z => ?_, fun z => ?_⟩, fun z => absurd z (by decide), fun z => absurd rfl z.2.2.2.2.2.1⟩
    · obtain ⟨p, hp, e, ea, eb, ec, ed⟩ := h1 z
      rw [e, cl (by omega), ← ed]
      exact ⟨inI (by omega) (by decide), h⟩
    · rw [← (h2 z).2.2.2]
      exact h
  · replace h : K (nI (m % 12)) V1 := h
    exact ⟨fun z => absurd z (by decide), fun z => absurd z (by decide), fun _ => h, fun z => absurd z (by decide), fun z => absurd z (by decide), fun z => absurd z (by decide), fun z => absurd z (by decide), fun z => absurd rfl z.2.2.1⟩
  · replace h : K (nI (m / 12)) V1 := h
    exact ⟨fun z => absurd z (by decide), fun z => absurd z (by decide), fun z => absurd z (by decide), fun z => absurd z (by decide), fun z => absurd z (by decide), fun z => absurd z (by decide), fun _ => h, fun z => absurd rfl z.2.2.2.2.2.2⟩
  · replace h : K (bz (frs fr yb m = true)) V1 := h
    refine ⟨fun _ => sp_isFrost hE hF1 hm ⟨fun z => ?_, fun z => ?_⟩, fun z => absurd z (by decide), fun z => absurd z (by decide), fun z => absurd z (by decide), fun z => absurd z (by decide), fun z => absurd z (by decide), fun z => absurd z (by decide), fun z => absurd rfl z.1⟩
    · rw [z] at h
      exact h
    · rw [bz0] at z
      rw [bz_t (Decidable.not_not.mp z)] at h
      exact h
  · replace h : K w V1 := h
    rw [hw] at h
    exact ⟨fun z => absurd z (by decide), fun z => absurd z (by decide), fun z => absurd z (by decide), fun z => absurd z (by decide), fun z => absurd z (by decide), fun z => absurd z (by decide), fun z => absurd z (by decide), fun _ => h⟩
theorem sp_mtext_o {t : Nat} {x2 : Int32} {K : Int32 → Vt → Prop} (hE : Sg E) (hX : IX E V0 tc tn tx) (hM : Om V0 V) (ht : t < tc) (hm : MNm l G E V x2 mn) (h : ∀ V', Of [1037] V V' → K (ev mn (tx t) (tn t) (tn t) 0) V') : C_X9_says l G E V (nI t) x2 K := by
  obtain ⟨x1, x2, x3, x4⟩ := hX.2.2.2 t ht
  have htc := hX.2.1
  have hb := sm_bound (f := fun k => if k < tc then tn k else 0) (c := 100) (t + 1) (fun k hk => by
    show (if k < tc then tn k else 0) ≤ 100
    rw [if_pos (by omega)]
    exact (hX.2.2.2 k (by omega)).2.2.1.1)
  rw [sm_cong (g := tn) (t + 1) (fun k hk => if_pos (by omega)), sm_s] at hb
  exact sp_says hE x3 (by omega) (by rw [hM 1033 (by decide) (by decide)]; exact hX.2.2.1 t (by omega)) (by rw [hM 1033 (by decide) (by decide), hX.2.2.1 (t + 1) (by omega), sm_s]) (by omega) (fun j hj => by rw [hM 1034 (by decide) (by decide)]; exact (x4 j hj).2) hm h
theorem sp_endFor_o {g : Nat} {x2 : Int32} {K : Int32 → Vt → Prop} (hE : Sg E) (hX : IX E V0 tc tn tx) (hG : IG E V0 gc tc gl) (hM : Om V0 V) (hg : g < gc) (hm : MNm l G E V x2 mn) (h : ∀ V', Of [1037] V V' → K (txv tx tn mn (eR E 201 g) 1) V') : C_X9_endFor l G E V (nI g) x2 K := by
  obtain ⟨a1, a2, a3, a4, a5, a6, a7⟩ := hG.2.2.2 g hg
  have g3 := hG.2.2.1
  have htc := hX.2.1
  have ii : vp_in (nI g) 30 := inI (by omega) (by decide)
  refine ok_X9_endFor hE ?_
  unfold vc_X9_endFor
  rw [cl (by omega), hM 1041 (by decide) (by decide)]
  refine ⟨ii, ?_⟩
  rcases a7 with ⟨b1, b2⟩ | ⟨t, b0, b1, b2⟩
  · rw [b1] at h
    rw [b2]
    exact br_f (by decide) (h V (Of.rf _ _))
  · rw [b1] at h
    rw [b2]
    exact br_t (nI_pos' (by omega)) ⟨ii, sp_mtext_o hE hX hM b0 hm h⟩
theorem sp_mwork_o {K : Int32 → Vt → Prop} (hE : Sg E) (hC : IC V0 m fr yb) (hX : IX E V0 tc tn tx) (hU : IU E V0 sc tc) (hM : Om V0 V) (h : ∀ V', Of [1037] V V' → K (wkv E V0 sc tx tn (mnG 0 0 0 0 m fr yb (V0 1019 0 0))) V') : C_X9_work l G E V K := by
  obtain ⟨u1, u2, u3, u4⟩ := And.intro True.intro hU |>.2
  have hN : MNm l G E V (-1) (mnG 0 0 0 0 m fr yb (V0 1019 0 0)) := mn_named_o hE hC hM rfl (fun z => absurd z (by decide)) (fun _ => ⟨rfl, rfl, rfl, rfl⟩)
  unfold wkv at h
  have loop : ∀ s, s ≤ sc → sifv (V0 907 0) (V0 101 0 0) s = sifv (V0 907 0) (V0 101 0 0) sc → A_X9_work_7 l G E V (nI s - 1) K := by
    intro s
    induction s with
    | zero =>
      intro hs e
      rw [← e] at h
      refine ok_X9_work_7 hE ?_
      unfold vc_X9_work_7
      exact br_t (by decide) (h V (Of.rf _ _))
    | succ s ih =>
      intro hs e
      rw [sifv_s] at e
      obtain ⟨w1, t, t1, t2, t3⟩ := u4 s (by omega)
      refine ok_X9_work_7 hE ?_
      unfold vc_X9_work_7
      rw [nI_pred, cl (by omega), i_m1, hM 1044 (by decide) (by decide), hM 1018 (by decide) (by decide), hM 1043 (by decide) (by decide), ← w1, hC.2.1, ← hC.1, t3]
      have ii : vp_in (nI s) 20 := inI (by omega) (by decide)
      refine br_f (nI_pos (by omega)) ⟨ii, fun z => ⟨ii, ?_⟩, fun z => ?_⟩
      · rw [if_pos z] at e
        rw [← e] at h
        replace h : ∀ V', Of [1037] V V' → K (if (0 : Int32) < txv tx tn (mnG 0 0 0 0 m fr yb (V0 1019 0 0)) (eR E 906 s) 0 then txv tx tn (mnG 0 0 0 0 m fr yb (V0 1019 0 0)) (eR E 906 s) 0 else 0) V' := h
        rw [t2] at h
        replace h : ∀ V', Of [1037] V V' → K (if (0 : Int32) < ev (mnG 0 0 0 0 m fr yb (V0 1019 0 0)) (tx t) (tn t) (tn t) 0 then ev (mnG 0 0 0 0 m fr yb (V0 1019 0 0)) (tx t) (tn t) (tn t) 0 else 0) V' := h
        refine sp_mtext_o hE hX hM t1 hN (fun V1 hO1 => ⟨fun y => ?_, fun y => ?_⟩)
        · have := h V1 hO1
          by_cases q : (0 : Int32) < ev (mnG 0 0 0 0 m fr yb (V0 1019 0 0)) (tx t) (tn t) (tn t) 0
          · rw [if_pos q] at this
            exact this
          · rw [if_neg q] at this
            have e0 : ev (mnG 0 0 0 0 m fr yb (V0 1019 0 0)) (tx t) (tn t) (tn t) 0 = 0 := by
              rw [i_eq]
              rw [i_lt] at q
              rw [i_le] at y
              omega
            rw [e0]
            exact this
        · have := h V1 hO1
          rw [if_neg (fun q => y (by rw [i_le]; rw [i_lt] at q; omega))] at this
          exact this
      · rw [if_neg z] at e
        exact ih (by omega) e
  refine ok_X9_work hE ?_
  unfold vc_X9_work
  rw [hM 1042 (by decide) (by decide), u2]
  exact loop sc (Nat.le_refl _) rfl
theorem sp_mhind_o {p : Nat} {K : Int32 → Vt → Prop} (hE : Sg E) (hI : IP E V0 n D on sn) (hC : IC V0 m fr yb) (hX : IX E V0 tc tn tx) (hG : IG E V0 gc tc gl) (hU : IU E V0 sc tc) (hM : Om V0 V) (hp : p < n) (h : ∀ V', Of mhS V V' → K (hval E V0 n D on p sc gc m fr tx tn gl yb) V') : C_X9_hinders l G E V (nI p) K := by
  have hn := hI.1.2.1
  obtain ⟨a1, a2, a3, a4, a5, a6, a7, a8, a9, a10, a11, a12, a13⟩ := hI.2.2 p hp
  obtain ⟨m1, m2, m3, m4, m5⟩ := hI.2.1.2.2 p hp
  obtain ⟨g1, g2, g3, g4⟩ := And.intro True.intro hG |>.2
  have e19 := hC.2.2.2.2.2.2.2.2.1
  have ip : vp_in (nI p) 40 := inI (by omega) (by decide)
  unfold hval hvv at h
  refine ok_X9_hinders hE ?_
  unfold vc_X9_hinders
  rw [cl (by omega), hM 1012 (by decide) (by decide), hM 1003 (by decide) (by decide), a8.2.1, a2.2.1, nI_eq (by omega) (by omega)]
  refine ⟨ip, ip, fun z => ?_, fun z => ?_⟩
  · rw [if_neg (by omega)] at h
    have loop : ∀ (r i : Nat), i + r = D 0 p → rdb V0 D on p i = true → A_X9_hinders_19 l G E V (nI p) (nI i) K := by
      intro r
      induction r with
      | zero =>
        intro i hi hr
        have hi : i = D 0 p := by omega
        rw [← hi, if_neg (by rw [hr]; decide)] at h
        refine ok_X9_hinders_19 hE ?_
        unfold vc_X9_hinders_19
        rw [cl (by omega), hM 1015 (by decide) (by decide), hM 1019 (by decide) (by decide), m2, ← hi]
        refine ⟨ip, br_t (nI_le (Nat.le_refl _) (by omega)) ?_⟩
        rw [e19] at h
        refine sp_mwork_o hE hC hX hU hM (fun V1 hO1 => ⟨fun z3 => ?_, fun z3 => ?_⟩)
        · rw [if_neg (fun y => y z3)] at h
          have loop2 : ∀ (r i : Nat) (V2 : Vt), i + r = gc → Of [1037] V V2 → A_X9_hinders_90 l G E V2 (nI p) (lN (cnN (enp E V0 tx tn p m fr yb) gl i)) (nI i) K := by
            intro r
            induction r with
            | zero =>
              intro i V2 hi hO2
              have hi : i = gc := by omega
              subst hi
              have hb := cnN_le (en := enp E V0 tx tn p m fr yb) hG i (Nat.le_refl _)
              refine ok_X9_hinders_90 hE ?_
              unfold vc_X9_hinders_90
              rw [hO2 1038 (by decide), hM 1038 (by decide) (by decide), g2, hO2 1006 (by decide), hM 1006 (by decide) (by decide), cl (by omega), a5.2.1, lgc, nI_l (by omega), lN_le (by omega) (by omega)]
              refine br_t (nI_le (Nat.le_refl _) (by omega)) ⟨ip, fun z4 => ?_, fun z4 => ?_⟩
              · rw [if_neg (by omega)] at h
                have hM2 : Om V0 V2 := hM.tr hO2
                refine sp_mfallBy hE (hM2.pm hI.2.1) hp (by rw [hM2 1014 (by decide) (by decide)]; exact IPp01 (hI.2.2 p hp)) (fun V3 hO3 => ?_)
                rw [hM2 1014 (by decide) (by decide), hM2 1002 (by decide) (by decide), hM2 1012 (by decide) (by decide), hM2.mf, hI.by hp]
                have h := h V3 ((hO2.mono (by decide)).tr (hO3.mono (by decide)))
                refine ⟨fun z5 => ?_, fun z5 => ?_⟩
                · rw [if_neg z5] at h
                  exact h
                · rw [if_pos z5] at h
                  exact h
              · rw [if_pos (by omega)] at h
                exact h V2 (hO2.mono (by decide))
            | succ r ih =>
              intro i V2 hi hO2
              obtain ⟨b1, b2, b3, b4, b5, b6, b7⟩ := g4 i (by omega)
              have ii : vp_in (nI i) 30 := inI (by omega) (by decide)
              have hN : MNm l G E V2 (nI p) (mnp V0 p m fr yb) := mn_named_o hE hC (hM.tr hO2) e19 (fun _ => ⟨p, by omega, rfl, rfl, a1, by rw [a8.1, a8.2.1], by rw [a2.1, a2.2.1]⟩) (fun y => absurd (nI_pos' (by omega)) y)
              refine ok_X9_hinders_90 hE ?_
              unfold vc_X9_hinders_90
              rw [hO2 1038 (by decide), hM 1038 (by decide) (by decide), g2, nI_1, hO2 1040 (by decide), hM 1040 (by decide) (by decide), cl (n := i) (by omega), b5]
              refine br_f (nI_ge (by omega) (by omega)) ⟨ii, fun y => ?_, fun y => ?_⟩
              · have y : gl i = 0 := by
                  have := (nI_leI (b := 0) (by omega) (by decide)).mp y
                  omega
                have := ih (i + 1) V2 (by omega) hO2
                rw [cnN_s, show (if enp E V0 tx tn p m fr yb i = 0 then 0 else gl i) = 0 by rw [y]; split <;> rfl, Nat.add_zero] at this
                rw [Int64.add_zero]
                exact this
              · refine sp_endFor_o hE hX hG (hM.tr hO2) (by omega) hN (fun V3 hO3 => ⟨fun y2 => ?_, fun y2 => ⟨ii, ?_⟩⟩)
                · have := ih (i + 1) V3 (by omega) (hO2.tr hO3)
                  rw [cnN_s, if_pos (show enp E V0 tx tn p m fr yb i = 0 from y2), Nat.add_zero] at this
                  rw [Int64.add_zero]
                  exact this
                · have := ih (i + 1) V3 (by omega) (hO2.tr hO3)
                  rw [cnN_s, if_neg (show ¬ enp E V0 tx tn p m fr yb i = 0 from y2)] at this
                  rw [hO3 1040 (by decide), hO2 1040 (by decide), hM 1040 (by decide) (by decide), b5, nI_l (by omega), lN_add]
                  exact this
          exact loop2 gc 0 V1 (by omega) hO1
        · rw [if_pos z3] at h
          exact h V1 (hO1.mono (by decide))
      | succ r ih =>
        intro i hi hr
        obtain ⟨d1, d2⟩ := m5 i (by omega)
        obtain ⟨b1, b2, b3, b4, b5, b6, b7, b8, b9, b10, b11, b12, b13⟩ := hI.2.2 (on p i) (by omega)
        have bad : ¬ (D 1 (on p i) ≤ D 4 (on p i) ∧ cenB V0 (on p i) = false) → K 2 V := by
          intro z
          rw [if_pos (nft (fun y => z ((rdb_iff _).mp y i (by omega))))] at h
          exact h V (Of.rf _ _)
        have io : vp_in (nI (on p i)) 40 := inI (by omega) (by decide)
        refine ok_X9_hinders_19 hE ?_
        unfold vc_X9_hinders_19
        rw [cl (by omega), hM 1015 (by decide) (by decide), hM 1016 (by decide) (by decide), hM 1012 (by decide) (by decide), hM 1003 (by decide) (by decide), hM 1014 (by decide) (by decide), m2, n4, cl (by omega), d2, cl (by omega), b8.2.1, b2.2.1, b10.2, nI_1, nI_ltI (by omega) (by omega)]
        refine ⟨ip, br_f (nI_ge (by omega) (by omega)) ⟨inI (by omega) (by decide), io, io, fun y => bad (fun w => by omega), fun y => ⟨io, fun y2 => ?_, fun y2 => ?_⟩⟩⟩
        · rw [bz0] at y2
          refine ih (i + 1) (by omega) ?_
          unfold rdb
          rw [hr, nft y2, decide_eq_true (by omega)]
          rfl
        · rw [bz0] at y2
          exact bad (fun w => y2 (by rw [w.2]; decide))
    exact loop (D 0 p) 0 (by omega) rfl
  · rw [if_pos (by omega)] at h
    exact h V (Of.rf _ _)
end Om

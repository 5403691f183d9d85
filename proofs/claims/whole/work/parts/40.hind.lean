/-! what hinders a course; may -/
theorem Of.up2 {S : List Nat} {V V' : Vt} {f i j : Nat} {v : Int32} (h : Of S V V') : Of S (up3 V f i j v) (up3 V' f i j v) := fun g hg => by
  have e := h g hg
  funext a b
  unfold up3
  rw [e]
def cnN (en : Nat → Int32) (gl : Nat → Nat) : Nat → Nat := sm (fun g => if en g = 0 then 0 else gl g)
theorem cnN_s (en : Nat → Int32) (gl : Nat → Nat) (i : Nat) : cnN en gl (i + 1) = cnN en gl i + (if en i = 0 then 0 else gl i) := rfl
def mnp (V : Vt) (p m fr : Nat) (yb : Nat → Nat) : Nat → Int32 := mnG (nI p) (V 300 p 0) (V 310 p 0) (V 309 p 0) m fr yb (V 911 0 0)
def enp (E : Et) (V : Vt) (tx : Nat → Nat → Nat) (tn : Nat → Nat) (p m fr : Nat) (yb : Nat → Nat) (g : Nat) : Int32 := txv tx tn (mnp V p m fr yb) (eR E 201 g) 1
def RDY (V : Vt) (D on : Nat → Nat → Nat) (p : Nat) : Prop := ∀ i, i < D 0 p → D 1 (on p i) ≤ D 4 (on p i) ∧ cenB V (on p i) = false
def hvv (rd : Bool) (b4 : Nat) (D1 D4 D3 : Nat) (w done f : Int32) : Int32 := if D1 ≤ D4 then 1 else if rd = false then 2 else if ¬ done < w then 3 else if b4 < D3 then 4 else if f = -5 then 0 else 5
def rdb (V : Vt) (D on : Nat → Nat → Nat) (p : Nat) : Nat → Bool
  | 0 => true
  | i + 1 => rdb V D on p i && (decide (D 1 (on p i) ≤ D 4 (on p i)) && !cenB V (on p i))
theorem rdb_iff {V : Vt} {D on : Nat → Nat → Nat} {p : Nat} : ∀ n, rdb V D on p n = true ↔ ∀ i, i < n → D 1 (on p i) ≤ D 4 (on p i) ∧ cenB V (on p i) = false
  | 0 => ⟨fun _ i hi => by omega, fun _ => rfl⟩
  | n + 1 => by
    unfold rdb
    rw [Bool.and_eq_true, rdb_iff n, Bool.and_eq_true, decide_eq_true_eq, Bool.not_eq_true']
    constructor
    · rintro ⟨h1, h2⟩ i hi
      by_cases e : i = n
      · subst e
        exact h2
      · exact h1 i (by omega)
    · intro h
      exact ⟨fun i hi => h i (by omega), h n (by omega)⟩
theorem nft {b : Bool} (h : ¬ b = true) : b = false := by cases b; rfl; exact absurd rfl h
section Hind
variable {l : Launch} {G : Gt} {E : Et} {V : Vt} {n m fr gc tc sc : Nat} {D on sn tx : Nat → Nat → Nat} {yb gl tn : Nat → Nat} {mn : Nat → Int32}
def hval (E : Et) (V : Vt) (n : Nat) (D on : Nat → Nat → Nat) (p sc gc m fr : Nat) (tx : Nat → Nat → Nat) (tn gl yb : Nat → Nat) : Int32 :=
  hvv (rdb V D on p (D 0 p)) (cnN (enp E V tx tn p m fr yb) gl gc) (D 1 p) (D 4 p) (D 3 p) (wkv E V sc tx tn (mnG 0 0 0 0 m fr yb (V 911 0 0))) (V 911 0 0) (cF (up3 V 310 p 0 (V 310 p 0 + 1)) (D 0) on n)
theorem hval_of {V' : Vt} {S : List Nat} {p : Nat} (hO : Of S V V') (hS : ∀ f, f ∈ ([101, 300, 302, 304, 306, 309, 310, 312, 313, 907, 911] : List Nat) → f ∉ S) : hval E V' n D on p sc gc m fr tx tn gl yb = hval E V n D on p sc gc m fr tx tn gl yb := by
  have e : ∀ f, f ∈ ([101, 300, 302, 304, 306, 309, 310, 312, 313, 907, 911] : List Nat) → V' f = V f := fun f hf => hO f (hS f hf)
  have h1 : ∀ k, rdb V' D on p k = rdb V D on p k := by
    intro k
    induction k with
    | zero => rfl
    | succ k ih =>
      unfold rdb
      rw [ih, cenB_of hO (hS _ (by decide)) (hS _ (by decide)) (hS _ (by decide))]
  have h2 : enp E V' tx tn p m fr yb = enp E V tx tn p m fr yb := by
    funext g
    unfold enp mnp
    rw [e 300 (by decide), e 309 (by decide), e 310 (by decide), e 911 (by decide)]
  unfold hval
  rw [h1, h2, wkv_of hO (hS _ (by decide)) (hS _ (by decide)), e 911 (by decide), e 310 (by decide), cF_of (V := up3 V 310 p 0 (V 310 p 0 + 1)) (S := S) hO.up2 (fun f hf => hS f ((show ∀ f, f ∈ cfIds → f ∈ ([101, 300, 302, 304, 306, 309, 310, 312, 313, 907, 911] : List Nat) by decide) f hf))]
theorem sp_ready {p : Nat} {K : Int32 → Vt → Prop} (hE : Sg E) (hI : IP E V n D on sn) (hp : p < n) (h : K (bz (rdb V D on p (D 0 p) = true)) V) : C_X3_isReadyBelow l G E V p K := by
  have hn := hI.1.2.1
  obtain ⟨c1, c2, c3, c4, c5, c6⟩ := hI.1.2.2 p hp
  have loop : ∀ (r i : Nat), i + r = D 0 p → rdb V D on p i = true → A_X3_isReadyBelow_2 l G E V p (nI i) K := by
    intro r
    induction r with
    | zero =>
      intro i hi hr
      have hi : i = D 0 p := by omega
      rw [← hi, bz_t hr] at h
      refine ok_X3_isReadyBelow_2 hE c2 ?_
      unfold vc_X3_isReadyBelow_2
      rw [c4, ← hi]
      exact br_t (nI_le (Nat.le_refl _) (by omega)) h
    | succ r ih =>
      intro i hi hr
      obtain ⟨d1, d2⟩ := c6 i (by omega)
      obtain ⟨a1, a2, a3, a4, a5, a6, a7, a8, a9, a10, a11, a12, a13⟩ := hI.2.2 (on p i) (by omega)
      have hl := (hI.1.2.2 (on p i) (by omega)).2.1
      have bad : ¬ (D 1 (on p i) ≤ D 4 (on p i) ∧ cenB V (on p i) = false) → K 0 V := by
        intro z
        rw [bz_f (fun y => z ((rdb_iff _).mp y i (by omega)))] at h
        exact h
      refine ok_X3_isReadyBelow_2 hE c2 ?_
      unfold vc_X3_isReadyBelow_2
      rw [c4, cl (by omega), d2, nI_1]
      refine br_f (nI_ge (by omega) (by omega)) ⟨inI (by omega) (by decide), sp_findp hE hI.1 (by omega) ⟨fun z => (by cases z), fun t ht => ?_⟩⟩
      cases ht
      refine ⟨hl, sp_whole hE hl ⟨fun z => ?_, fun z => sp_cent hE hl ⟨fun z2 => ?_, fun z2 => ?_⟩⟩⟩
      · rw [bz0, a2.1, a8.1, nI_leI (by omega) (by omega)] at z
        exact bad (fun y => z y.1)
      · rw [bz0, a2.1, a8.1, nI_leI (by omega) (by omega)] at z
        rw [bz0] at z2
        refine ih (i + 1) (by omega) ?_
        unfold rdb
        rw [hr, nft z2, decide_eq_true (Decidable.not_not.mp z)]
        rfl
      · rw [bz0] at z2
        have z2 := Decidable.not_not.mp z2
        exact bad (fun y => by rw [z2] at y; exact absurd y.2 (by decide))
  refine ok_X3_isReadyBelow hE c2 ?_
  unfold vc_X3_isReadyBelow
  exact loop (D 0 p) 0 (by omega) rfl
theorem sp_coins {p : Nat} {K : Int32 → Vt → Prop} (hE : Sg E) (hl : eL E 2 p) (hC : IC V m fr yb) (hX : IX E V tc tn tx) (hG : IG E V gc tc gl) (h : ∀ V', Of [500, 501] V V' → K (nI (cnN (enp E V tx tn p m fr yb) gl gc)) V') : C_X8_coinsFor l G E V (nI p) p K := by
  obtain ⟨g1, g2, g3, g4⟩ := And.intro True.intro hG |>.2
  refine ok_X8_coinsFor hE hl ?_
  unfold vc_X8_coinsFor
  refine sp_nm hE hC hl (fun V1 hO1 w1 => ?_)
  have loop : ∀ (r i : Nat) (V2 : Vt), i + r = gc → Of [501] V1 V2 → A_X8_coinsFor_18 l G E V2 (nI (cnN (enp E V tx tn p m fr yb) gl i)) (nI i) K := by
    intro r
    induction r with
    | zero =>
      intro i V2 hi hO2
      have hi : i = gc := by omega
      subst hi
      refine ok_X8_coinsFor_18 hE ?_
      unfold vc_X8_coinsFor_18
      rw [hO2 909 (by decide), hO1 909 (by decide), g1]
      exact br_t (nI_le (Nat.le_refl _) (by omega)) (h V2 ((hO1.mono (by decide)).tr (hO2.mono (by decide))))
    | succ r ih =>
      intro i V2 hi hO2
      have hO : Of [500, 501] V V2 := (hO1.mono (by decide)).tr (hO2.mono (by decide))
      obtain ⟨a1, a2, a3, a4, a5, a6, a7⟩ := g4 i (by omega)
      refine ok_X8_coinsFor_18 hE ?_
      unfold vc_X8_coinsFor_18
      rw [hO 909 (by decide), g1, nI_1]
      refine br_f (nI_ge (by omega) (by omega)) (sp_findGift hE (hG.of hO (by decide)) (fun q => ?_) (fun g hg e => ⟨fun z => (by cases z), fun t ht => ?_⟩))
      · rcases q with q | q
        · exact absurd q (nI_pos (by omega))
        · exact absurd ((nI_leI (by omega) (by omega)).mp q) (by omega)
      · cases ht
        have e := (nI_eq (by omega) (by omega)).mp e
        subst e
        refine ⟨a2, sp_endOf (mn := mnp V p m fr yb) hE (hX.of hO (by decide)) (hG.of hO (by decide)) hg (fun j hj => by rw [hO2 500 (by decide)]; exact w1 j hj) (fun V3 hO3 => ⟨fun z => ?_, fun z => ?_⟩)⟩
        · have := ih (i + 1) V3 (by omega) (hO2.tr hO3)
          rw [cnN_s, if_pos (show enp E V tx tn p m fr yb i = 0 from z), Nat.add_zero] at this
          exact this
        · have := ih (i + 1) V3 (by omega) (hO2.tr hO3)
          rw [cnN_s, if_neg (show ¬ enp E V tx tn p m fr yb i = 0 from z)] at this
          rw [hO3 202 (by decide), hO 202 (by decide), a4, nI_add]
          exact this
  exact loop gc 0 V1 (by omega) (Of.rf _ _)
def hdS : List Nat := [500, 501, 600, 601]
theorem cnN_le {en : Nat → Int32} (hG : IG E V gc tc gl) : ∀ i, i ≤ gc → cnN en gl i ≤ 30000000 := by
  intro i hi
  have := sm_bound (f := fun g => if en g = 0 then 0 else gl g) (c := 1000000) i (fun k hk => by
    show (if en k = 0 then 0 else gl k) ≤ 1000000
    split
    · omega
    · exact (hG.2.2.2 k (by omega)).2.2.2.2.2.1)
  have g3 := hG.2.2.1
  unfold cnN
  omega
theorem sp_hind {p : Nat} {K : Int32 → Vt → Prop} (hE : Sg E) (hI : IP E V n D on sn) (hC : IC V m fr yb) (hX : IX E V tc tn tx) (hG : IG E V gc tc gl) (hU : IU E V sc tc) (hp : p < n) (h : ∀ V', Of hdS V V' → K (hval E V n D on p sc gc m fr tx tn gl yb) V') : C_X8_hindranceOfCourse l G E V (nI p) p K := by
  have hn := hI.1.2.1
  have hl := (hI.1.2.2 p hp).2.1
  obtain ⟨a1, a2, a3, a4, a5, a6, a7, a8, a9, a10, a11, a12, a13⟩ := hI.2.2 p hp
  unfold hval hvv at h
  refine ok_X8_hindranceOfCourse hE hl ?_
  unfold vc_X8_hindranceOfCourse
  refine sp_whole hE hl ⟨fun z => ?_, fun z => ?_⟩
  · rw [bz0, a2.1, a8.1, nI_leI (by omega) (by omega)] at z
    rw [if_neg z] at h
    refine sp_ready hE hI hp ⟨fun z2 => ?_, fun z2 => ?_⟩
    · rw [bz0] at z2
      rw [if_neg (by rw [Decidable.not_not.mp z2]; decide)] at h
      refine sp_work hE hC hX hU (fun V1 hO1 => ⟨fun z3 => ?_, fun z3 => ?_⟩)
      · rw [if_neg (fun y => y z3)] at h
        have hI1 := hI.of hO1 (by decide)
        refine sp_coins hE hl (hC.of hO1 (by decide)) (hX.of hO1 (by decide)) (hG.of hO1 (by decide)) (fun V2 hO2 => ?_)
        have hO : Of [500, 501] V V2 := hO1.tr hO2
        have e1 : enp E V1 tx tn p m fr yb = enp E V tx tn p m fr yb := by
          funext g
          unfold enp mnp
          rw [hO1 300 (by decide), hO1 309 (by decide), hO1 310 (by decide), hO1 911 (by decide)]
        have hb := cnN_le (en := enp E V tx tn p m fr yb) hG gc (Nat.le_refl _)
        rw [hO 303 (by decide), a5.1, e1, nI_leI (by omega) (by omega)]
        refine ⟨fun z4 => ?_, fun z4 => ?_⟩
        · rw [if_neg (by omega)] at h
          refine sp_fallBy hE (hI.of hO (by decide)).1 hp (fun V3 hO3 => ?_)
          have e2 : cF (up3 V2 310 p 0 (V2 310 p 0 + 1)) (D 0) on n = cF (up3 V 310 p 0 (V 310 p 0 + 1)) (D 0) on n := by
            rw [hO 310 (by decide)]
            exact cF_of hO.up2 (by decide)
          rw [e2]
          have hO4 : Of hdS V V3 := (hO.mono (by decide)).tr (hO3.mono (by decide))
          have h := h V3 hO4
          refine ⟨fun z5 => ?_, fun z5 => ?_⟩
          · rw [if_neg z5] at h
            exact h
          · rw [if_pos z5] at h
            exact h
        · rw [if_pos (by omega)] at h
          exact h V2 (hO.mono (by decide))
      · rw [if_pos z3] at h
        exact h V1 (hO1.mono (by decide))
    · rw [bz0] at z2
      rw [if_pos (nft z2)] at h
      exact h V (Of.rf _ _)
  · rw [bz0, a2.1, a8.1, nI_leI (by omega) (by omega)] at z
    rw [if_pos (Decidable.not_not.mp z)] at h
    exact h V (Of.rf _ _)
def mhS : List Nat := [1028, 1029, 1037]
theorem sp_mhind {p : Nat} {K : Int32 → Vt → Prop} (hE : Sg E) (hI : IP E V n D on sn) (hC : IC V m fr yb) (hX : IX E V tc tn tx) (hG : IG E V gc tc gl) (hU : IU E V sc tc) (hp : p < n) (h : ∀ V', Of mhS V V' → K (hval E V n D on p sc gc m fr tx tn gl yb) V') : C_X9_hinders l G E V (nI p) K := by
  have hn := hI.1.2.1
  obtain ⟨a1, a2, a3, a4, a5, a6, a7, a8, a9, a10, a11, a12, a13⟩ := hI.2.2 p hp
  obtain ⟨m1, m2, m3, m4, m5⟩ := hI.2.1.2.2 p hp
  obtain ⟨g1, g2, g3, g4⟩ := And.intro True.intro hG |>.2
  have e19 := hC.2.2.2.2.2.2.2.2.1
  have ip : vp_in (nI p) 40 := inI (by omega) (by decide)
  unfold hval hvv at h
  refine ok_X9_hinders hE ?_
  unfold vc_X9_hinders
  rw [cl (by omega), a8.2.1, a2.2.1, nI_eq (by omega) (by omega)]
  refine ⟨ip, ip, fun z => ?_, fun z => ?_⟩
  · rw [if_neg (by omega)] at h
    have loop : ∀ (r i : Nat), i + r = D 0 p → rdb V D on p i = true → A_X9_hinders_19 l G E V (nI p) (nI i) K := by
      intro r
      induction r with
      | zero =>
        intro i hi hr
        have hi : i = D 0 p := by omega
        rw [← hi, if_neg (by rw [hr]; decide)] at h
        refine ok_X9_hinders_19 hE ?_
        unfold vc_X9_hinders_19
        rw [cl (by omega), m2, ← hi]
        refine ⟨ip, br_t (nI_le (Nat.le_refl _) (by omega)) ?_⟩
        rw [e19] at h
        refine sp_mwork hE hC hX hU (fun V1 hO1 => ⟨fun z3 => ?_, fun z3 => ?_⟩)
        · rw [if_neg (fun y => y z3)] at h
          have loop2 : ∀ (r i : Nat) (V2 : Vt), i + r = gc → Of [1037] V V2 → A_X9_hinders_90 l G E V2 (nI p) (lN (cnN (enp E V tx tn p m fr yb) gl i)) (nI i) K := by
            intro r
            induction r with
            | zero =>
              intro i V2 hi hO2
              have hi : i = gc := by omega
              subst hi
              have hb := cnN_le (en := enp E V tx tn p m fr yb) hG i (Nat.le_refl _)
              refine ok_X9_hinders_90 hE ?_
              unfold vc_X9_hinders_90
              rw [hO2 1038 (by decide), g2, hO2 1006 (by decide), cl (by omega), a5.2.1, lgc, nI_l (by omega), lN_le (by omega) (by omega)]
              refine br_t (nI_le (Nat.le_refl _) (by omega)) ⟨ip, fun z4 => ?_, fun z4 => ?_⟩
              · rw [if_neg (by omega)] at h
                have hI2 := hI.of hO2 (by decide)
                refine sp_mfallBy hE hI2.2.1 hp (IPp01 (hI2.2.2 p hp)) (fun V3 hO3 => ?_)
                rw [hI2.by hp]
                have e2 : cF (up3 V2 310 p 0 (V2 310 p 0 + 1)) (D 0) on n = cF (up3 V 310 p 0 (V 310 p 0 + 1)) (D 0) on n := by
                  rw [hO2 310 (by decide)]
                  exact cF_of hO2.up2 (by decide)
                rw [e2]
                have h := h V3 ((hO2.mono (by decide)).tr (hO3.mono (by decide)))
                refine ⟨fun z5 => ?_, fun z5 => ?_⟩
                · rw [if_neg z5] at h
                  exact h
                · rw [if_pos z5] at h
                  exact h
              · rw [if_pos (by omega)] at h
                exact h V2 (hO2.mono (by decide))
            | succ r ih =>
              intro i V2 hi hO2
              obtain ⟨b1, b2, b3, b4, b5, b6, b7⟩ := g4 i (by omega)
              have ii : vp_in (nI i) 30 := inI (by omega) (by decide)
              have hM : MNm l G E V2 (nI p) (mnp V p m fr yb) := mn_named hE (hC.of hO2 (by decide)) (by rw [hO2 1019 (by decide)]; exact e19) (fun _ => ⟨p, by omega, rfl, rfl, by rw [hO2 1002 (by decide)]; exact a1, by rw [hO2 1012 (by decide), a8.1, a8.2.1], by rw [hO2 1003 (by decide), a2.1, a2.2.1]⟩) (fun y => absurd (nI_pos' (by omega)) y)
              refine ok_X9_hinders_90 hE ?_
              unfold vc_X9_hinders_90
              rw [hO2 1038 (by decide), g2, nI_1, hO2 1040 (by decide), cl (n := i) (by omega), b5]
              refine br_f (nI_ge (by omega) (by omega)) ⟨ii, fun y => ?_, fun y => ?_⟩
              · have y : gl i = 0 := by
                  have := (nI_leI (b := 0) (by omega) (by decide)).mp y
                  omega
                have := ih (i + 1) V2 (by omega) hO2
                rw [cnN_s, show (if enp E V tx tn p m fr yb i = 0 then 0 else gl i) = 0 by rw [y]; split <;> rfl, Nat.add_zero] at this
                rw [Int64.add_zero]
                exact this
              · refine sp_endFor hE (hX.of hO2 (by decide)) (hG.of hO2 (by decide)) (by omega) hM (fun V3 hO3 => ⟨fun y2 => ?_, fun y2 => ⟨ii, ?_⟩⟩)
                · have := ih (i + 1) V3 (by omega) (hO2.tr hO3)
                  rw [cnN_s, if_pos (show enp E V tx tn p m fr yb i = 0 from y2), Nat.add_zero] at this
                  rw [Int64.add_zero]
                  exact this
                · have := ih (i + 1) V3 (by omega) (hO2.tr hO3)
                  rw [cnN_s, if_neg (show ¬ enp E V tx tn p m fr yb i = 0 from y2)] at this
                  rw [hO3 1040 (by decide), hO2 1040 (by decide), b5, nI_l (by omega), lN_add]
                  exact this
          exact loop2 gc 0 V1 (by omega) hO1
        · rw [if_pos z3] at h
          exact h V1 (hO1.mono (by decide))
      | succ r ih =>
        intro i hi hr
        obtain ⟨d1, d2⟩ := m5 i (by omega)
        obtain ⟨b1, b2, b3, b4, b5, b6, b7, b8, b9, b10, b11, b12, b13⟩ := hI.2.2 (on p i) (by omega)
        have bad : ¬ (D 1 (on p i) ≤ D 4 (on p i) ∧ cenB V (on p i) = false) → K 2 V := by
          intro z
          rw [if_pos (nft (fun y => z ((rdb_iff _).mp y i (by omega))))] at h
          exact h V (Of.rf _ _)
        have io : vp_in (nI (on p i)) 40 := inI (by omega) (by decide)
        refine ok_X9_hinders_19 hE ?_
        unfold vc_X9_hinders_19
        rw [cl (by omega), m2, n4, cl (by omega), d2, cl (by omega), b8.2.1, b2.2.1, b10.2, nI_1, nI_ltI (by omega) (by omega)]
        refine ⟨ip, br_f (nI_ge (by omega) (by omega)) ⟨inI (by omega) (by decide), io, io, fun y => bad (fun w => by omega), fun y => ⟨io, fun y2 => ?_, fun y2 => ?_⟩⟩⟩
        · rw [bz0] at y2
          refine ih (i + 1) (by omega) ?_
          unfold rdb
          rw [hr, nft y2, decide_eq_true (by omega)]
          rfl
        · rw [bz0] at y2
          exact bad (fun w => y2 (by rw [w.2]; decide))
    exact loop (D 0 p) 0 (by omega) rfl
  · rw [if_pos (by omega)] at h
    exact h V (Of.rf _ _)
def mayS : List Nat := [500, 501, 600, 601, 1028, 1029, 1037]
theorem bo_may {x : Int32} {K : Int32 → Int32 → Vt → Prop} (hE : Sg E) (hI : IP E V n D on sn) (hC : IC V m fr yb) (hX : IX E V tc tn tx) (hG : IG E V gc tc gl) (hU : IU E V sc tc) (hK : ∀ r V2, Of mayS V V2 → K r r V2) : C_X8_may l G E V x (fun r V1 => C_X9_may l G E V1 x (fun r' V2 => K r r' V2)) := by
  have hn := hI.1.2.1
  refine ok_X8_may hE ?_
  unfold vc_X8_may
  refine sp_find hE hI.1 (fun q => ⟨fun _ => ?_, fun t z => (by cases z)⟩) (fun p hp e => ⟨fun z => (by cases z), fun t ht => ?_⟩)
  · refine ok_X9_may hE ?_
    unfold vc_X9_may
    refine sp_isPart hE hI.2.1 (fun _ => br_t rfl (hK _ _ (Of.rf _ _))) (fun p hp e => ?_)
    subst e
    rcases q with q | q
    · exact absurd q (nI_pos (by omega))
    · exact absurd ((nI_leI (by omega) (by omega)).mp q) (by omega)
  · cases ht
    subst e
    refine ⟨(hI.1.2.2 p hp).2.1, sp_hind hE hI hC hX hG hU hp (fun V1 hO1 => ?_)⟩
    refine ok_X9_may hE ?_
    unfold vc_X9_may
    have hI1 := hI.of hO1 (by decide)
    refine sp_isPartp hE hI1.2.1 hp (br_f (by decide) ?_)
    refine sp_mhind hE hI1 (hC.of hO1 (by decide)) (hX.of hO1 (by decide)) (hG.of hO1 (by decide)) (hU.of hO1 (by decide)) hp (fun V2 hO2 => ?_)
    rw [hval_of hO1 (by decide)]
    exact hK _ _ ((hO1.mono (by decide)).tr (hO2.mono (by decide)))
end Hind

/-! tape, texts, gifts, statutes: the coupling; feed, left, count -/
def sgb (b : Nat) : Int32 := if b < 128 then nI b else nI b - 256
theorem sgb_all : ∀ b, b < 256 → (Int8.ofNat b).toInt32 = sgb b := by decide +kernel
def IT (V : Vt) (tl : Nat) (tb : Nat → Nat) : Prop := V 703 0 0 = nI tl ∧ V 1031 0 0 = nI tl ∧ tl ≤ 100 ∧ ∀ j, j < tl → V 700 0 j = nI (tb j) ∧ V 1030 0 j = sgb (tb j) ∧ tb j < 256
def cI (k : Nat) : Int32 := if k < 256 then -nI k else nI (k - 256)
def mI (k : Nat) : Int32 := if k < 256 then nI k else -1 - nI (k - 256)
def kS : List Nat := [33, 43, 45, 42, 60, 61, 62, 38, 124]
def kN : List Nat := [112, 107, 110, 119, 109, 121, 102, 100]
def ar (k : Nat) : Nat := if k = 33 then 1 else if k ∈ kS then 2 else 0
def okI (k : Nat) : Prop := k ∈ kS ∨ k ∈ kN ∨ (256 ≤ k ∧ k < 256 + 100000)
def nd (f : Nat → Nat) : Nat → Nat
  | 0 => 1
  | j + 1 => nd f j + ar (f j) - 1
def Wt (f : Nat → Nat) (N : Nat) : Prop := N ≤ 100 ∧ (∀ k, k < N → okI (f k) ∧ 1 ≤ nd f k) ∧ nd f N = 0
def IX (E : Et) (V : Vt) (tc : Nat) (tn : Nat → Nat) (tx : Nat → Nat → Nat) : Prop := V 1032 0 0 = nI tc ∧ tc ≤ 50 ∧ (∀ t, t ≤ tc → V 1033 0 t = nI (sm tn t)) ∧ ∀ t, t < tc → eL E 7 t ∧ eN E 800 t = tn t ∧ Wt (tx t) (tn t) ∧ ∀ j, j < tn t → V 800 t j = cI (tx t j) ∧ V 1034 0 (sm tn t + j) = mI (tx t j)
def IG (E : Et) (V : Vt) (gc tc : Nat) (gl : Nat → Nat) : Prop := V 909 0 0 = nI gc ∧ V 1038 0 0 = nI gc ∧ gc ≤ 30 ∧ ∀ g, g < gc → eR E 905 g = some g ∧ eL E 1 g ∧ V 200 g 0 = V 1039 0 g ∧ V 202 g 0 = nI (gl g) ∧ V 1040 0 g = nI (gl g) ∧ gl g ≤ 1000000 ∧ ((eR E 201 g = none ∧ V 1041 0 g = -1) ∨ ∃ t, t < tc ∧ eR E 201 g = some t ∧ V 1041 0 g = nI t)
def IU (E : Et) (V : Vt) (sc tc : Nat) : Prop := V 910 0 0 = nI sc ∧ V 1042 0 0 = nI sc ∧ sc ≤ 20 ∧ ∀ s, s < sc → V 907 0 s = V 1044 0 s ∧ ∃ t, t < tc ∧ eR E 906 s = some t ∧ V 1043 0 s = nI t
theorem IT.of {V V' : Vt} {tl : Nat} {tb : Nat → Nat} {S : List Nat} (h : IT V tl tb) (hO : Of S V V') (hS : ∀ f, f ∈ ([700, 703, 1030, 1031] : List Nat) → f ∉ S) : IT V' tl tb := by
  unfold IT
  rw [hO 703 (hS _ (by decide)), hO 1031 (hS _ (by decide)), hO 700 (hS _ (by decide)), hO 1030 (hS _ (by decide))]
  exact h
theorem IX.of {E : Et} {V V' : Vt} {tc : Nat} {tn : Nat → Nat} {tx : Nat → Nat → Nat} {S : List Nat} (h : IX E V tc tn tx) (hO : Of S V V') (hS : ∀ f, f ∈ ([800, 1032, 1033, 1034] : List Nat) → f ∉ S) : IX E V' tc tn tx := by
  unfold IX
  rw [hO 800 (hS _ (by decide)), hO 1032 (hS _ (by decide)), hO 1033 (hS _ (by decide)), hO 1034 (hS _ (by decide))]
  exact h
theorem IG.of {E : Et} {V V' : Vt} {gc tc : Nat} {gl : Nat → Nat} {S : List Nat} (h : IG E V gc tc gl) (hO : Of S V V') (hS : ∀ f, f ∈ ([200, 202, 909, 1038, 1039, 1040, 1041] : List Nat) → f ∉ S) : IG E V' gc tc gl := by
  unfold IG
  rw [hO 200 (hS _ (by decide)), hO 202 (hS _ (by decide)), hO 909 (hS _ (by decide)), hO 1038 (hS _ (by decide)), hO 1039 (hS _ (by decide)), hO 1040 (hS _ (by decide)), hO 1041 (hS _ (by decide))]
  exact h
theorem IU.of {E : Et} {V V' : Vt} {sc tc : Nat} {S : List Nat} (h : IU E V sc tc) (hO : Of S V V') (hS : ∀ f, f ∈ ([907, 910, 1042, 1043, 1044] : List Nat) → f ∉ S) : IU E V' sc tc := by
  unfold IU
  rw [hO 907 (hS _ (by decide)), hO 910 (hS _ (by decide)), hO 1042 (hS _ (by decide)), hO 1043 (hS _ (by decide)), hO 1044 (hS _ (by decide))]
  exact h
theorem i_nat (w : Int32) : ∃ n : Nat, w = nI n := ⟨w.toUInt32.toNat, by
  show w = Int32.ofNat w.toUInt32.toNat
  apply Int32.toBitVec_inj.mp
  apply BitVec.eq_of_toNat_eq
  simp [Int32.toBitVec_ofNat']⟩
theorem i8_nat (n : Nat) : (nI n).toInt8 = Int8.ofNat (n % 256) := by
  show (Int32.ofNat n).toInt8 = _
  apply Int8.toBitVec_inj.mp
  apply BitVec.eq_of_toNat_eq
  simp [Int32.toBitVec_ofNat']
theorem byt_eq (w : Int32) : ∃ b : Nat, b < 256 ∧ w &&& 255 = nI b ∧ vp_nar .byte w.toInt8.toInt32 = sgb b := by
  obtain ⟨n, rfl⟩ := i_nat w
  refine ⟨n % 256, Nat.mod_lt _ (by decide), fa_mask n 8, ?_⟩
  rw [i8_nat, sgb_all _ (Nat.mod_lt _ (by decide))]
  have : ∀ b, b < 256 → vp_nar .byte (sgb b) = sgb b := by decide +kernel
  exact this _ (Nat.mod_lt _ (by decide))
def isum (f : Nat → Int32) : Nat → Int32
  | 0 => 0
  | n + 1 => isum f n + f n
theorem isum_cong {f g : Nat → Int32} : ∀ n, (∀ i, i < n → f i = g i) → isum f n = isum g n
  | 0, _ => rfl
  | n + 1, h => by
    unfold isum
    rw [isum_cong n (fun i hi => h i (by omega)), h n (by omega)]
section Small
variable {l : Launch} {G : Gt} {E : Et} {V : Vt} {n m fr gc tc sc tl : Nat} {D on sn ti tx : Nat → Nat → Nat} {yb gl tn tb es : Nat → Nat} {ec : Nat}
theorem bo_feed {x y : Int32} {K : Int32 → Int32 → Vt → Prop} (hE : Sg E) (hT : IT V tl tb) (hK : ∀ r V2 tl' tb', IT V2 tl' tb' → Of [700, 703, 1030, 1031] V V2 → K r r V2) : C_X8_feed l G E V x y (fun r V1 => C_X9_feed l G E V1 x y (fun r' V2 => K r r' V2)) := by
  obtain ⟨t1, t2, t3, t4⟩ := And.intro True.intro hT |>.2
  have hk0 : ∀ r, K r r V := fun r => hK r V tl tb hT (Of.rf _ _)
  have mbad : ¬ ((1 : Int32) ≤ x ∧ x ≤ 4) → C_X9_feed l G E V x y (fun r' V2 => K (-1) r' V2) := by
    intro hb
    refine ok_X9_feed hE ?_
    unfold vc_X9_feed
    exact sp_in hE (nb_f (bz_f hb) (hk0 _))
  refine ok_X8_feed hE ?_
  unfold vc_X8_feed
  refine ⟨fun q => mbad (fun z => lt_nle q z.1), fun q => ⟨fun q2 => ?_, fun q2 => mbad (fun z => q2 z.2)⟩⟩
  have hin : ¬ bz ((1 : Int32) ≤ x ∧ x ≤ 4) = 0 := by rw [bz_t ⟨nlt_le q, q2⟩]; decide
  obtain ⟨c, hc, rfl⟩ : ∃ c, c ≤ 4 ∧ x = nI c := by
    refine nI_of2 (M := 4) (by decide) (fun z => q ?_) q2
    rw [i_lt] at z ⊢
    have e0 : (0 : Int32).toInt = 0 := by decide
    have e1 : (1 : Int32).toInt = 1 := by decide
    omega
  rw [t1, li 100, pk_sub t3, nI_leI (by omega) (by omega)]
  refine ⟨fun q3 => ?_, fun q3 => ?_⟩
  · -- the class's bytes, then the model's
    have loop : ∀ (r k : Nat) (V1 : Vt) (tb1 : Nat → Nat), k + r = c → Of [700, 703] V V1 → V1 703 0 0 = nI (tl + k) → (∀ j, j < tl + k → V1 700 0 j = nI (tb1 j) ∧ tb1 j < 256) → (∀ j, j < tl → tb1 j = tb j) → (∀ j, j < k → vp_nar .byte (y >>> ((8 * nI j) &&& 31)).toInt8.toInt32 = sgb (tb1 (tl + j))) → A_X6_take_2 l G E V1 (nI c) y (nI k) (fun V21 => C_X9_feed l G E V21 (nI c) y (fun r' V2 => K (V21 703 0 0) r' V2)) := by
      intro r
      induction r with
      | zero =>
        intro k V1 tb1 hk hO e1 e2 e3 e4
        have hk : k = c := by omega
        subst hk
        refine ok_X6_take_2 hE ?_
        unfold vc_X6_take_2
        refine br_t (nI_le (Nat.le_refl _) (by omega)) ?_
        have mloop : ∀ (r i : Nat) (V2 : Vt), i + r = k → Of [1030, 1031] V1 V2 → V2 1031 0 0 = nI (tl + i) → (∀ j, j < tl + i → V2 1030 0 j = sgb (tb1 j)) → A_X9_feed_27 l G E V2 (nI k) y (nI i) (fun r' V3 => K (V1 703 0 0) r' V3) := by
          intro r
          induction r with
          | zero =>
            intro i V2 hi hO2 f1 f2
            have hi : i = k := by omega
            subst hi
            refine ok_X9_feed_27 hE ?_
            unfold vc_X9_feed_27
            refine br_t (nI_le (Nat.le_refl _) (by omega)) ?_
            rw [e1, f1]
            refine hK _ V2 (tl + i) tb1 ⟨by rw [hO2 703 (by decide)]; exact e1, f1, by omega, fun j hj => ⟨by rw [hO2 700 (by decide)]; exact (e2 j hj).1, f2 j hj, (e2 j hj).2⟩⟩ ?_
            exact (hO.mono (by decide)).tr (hO2.mono (by decide))
          | succ r ih =>
            intro i V2 hi hO2 f1 f2
            refine ok_X9_feed_27 hE ?_
            unfold vc_X9_feed_27
            rw [f1, cl (by omega), up3_f (f' := 1031) (by decide), f1, nI_1, nI_1]
            refine br_f (nI_ge (by omega) (by omega)) ⟨inI (by omega) (by decide), ?_⟩
            refine ih (i + 1) _ (by omega) ((hO2.up (by decide)).up (by decide)) (by rw [up3_s]; rfl) (fun j hj => ?_)
            rw [up3_f (by decide)]
            by_cases e : j = tl + i
            · subst e
              rw [up3_s]
              exact e4 i (by omega)
            · rw [up3_j e]
              exact f2 j (by omega)
        refine ok_X9_feed hE ?_
        unfold vc_X9_feed
        refine sp_in hE (nb_t hin ?_)
        rw [hO 1031 (by decide), t2, nI_add]
        refine br_t (nI_le (b := 100) (by omega) (by decide)) ?_
        exact mloop k 0 V1 (by omega) (Of.rf _ _) (by rw [hO 1031 (by decide), t2]; rfl) (fun j hj => by rw [hO 1030 (by decide), (t4 j hj).2.1, e3 j hj])
      | succ r ih =>
        intro k V1 tb1 hk hO e1 e2 e3 e4
        obtain ⟨b, hb1, hb2, hb3⟩ := byt_eq (y >>> ((8 * nI k) &&& 31))
        refine ok_X6_take_2 hE ?_
        unfold vc_X6_take_2
        rw [e1, cl (by omega), up3_f (f' := 703) (by decide), e1, nI_1, nI_1, hb2]
        refine br_f (nI_ge (by omega) (by omega)) (br_f (nI_ge (a := tl + k) (b := 100) (by omega) (by decide)) ⟨inI (by omega) (by decide), ?_⟩)
        refine ih (k + 1) _ (fun j => if j = tl + k then b else tb1 j) (by omega) ((hO.up (by decide)).up (by decide)) (by rw [up3_s]; rfl) (fun j hj => ?_) (fun j hj => ?_) (fun j hj => ?_)
        · rw [up3_f (by decide)]
          by_cases e : j = tl + k
          · subst e
            rw [up3_s, if_pos rfl]
            exact ⟨rfl, hb1⟩
          · rw [up3_j e, if_neg e]
            exact e2 j (by omega)
        · show (if j = tl + k then b else tb1 j) = tb j
          rw [if_neg (by omega)]
          exact e3 j hj
        · show _ = sgb (if tl + j = tl + k then b else tb1 (tl + j))
          by_cases e : j = k
          · subst e
            rw [if_pos rfl]
            exact hb3
          · rw [if_neg (by omega)]
            exact e4 j (by omega)
    refine ok_X6_take hE ?_
    unfold vc_X6_take
    exact loop c 0 V tb (by omega) (Of.rf _ _) t1 (fun j hj => ⟨(t4 j hj).1, (t4 j hj).2.2⟩) (fun j hj => rfl) (fun j hj => by omega)
  · refine ok_X9_feed hE ?_
    unfold vc_X9_feed
    refine sp_in hE (nb_t hin ?_)
    rw [t2, nI_add]
    refine br_f (fun z => q3 ?_) (hk0 _)
    have z := (nI_leI (b := 100) (by omega) (by decide)).mp z
    omega
theorem sp_findGift {x : Int32} {K : Option Nat → Vt → Prop} (hE : Sg E) (hG : IG E V gc tc gl) (h1 : x < 0 ∨ nI gc ≤ x → K none V) (h2 : ∀ g, g < gc → x = nI g → K (some g) V) : C_X8_findGift l G E V x K := by
  obtain ⟨g1, g2, g3, g4⟩ := hG
  refine ok_X8_findGift hE ?_
  unfold vc_X8_findGift
  rw [g1]
  refine ⟨fun q => h1 (Or.inl q), fun q => ⟨fun q2 => h1 (Or.inr q2), fun q2 => ?_⟩⟩
  rcases ix3 x (n := gc) (by omega) with (h | h) | ⟨g, hg, rfl⟩
  · exact absurd h q
  · exact absurd h q2
  · rw [cl (by omega), (g4 g hg).1]
    exact ⟨inI (by omega) (by decide), h2 g hg rfl⟩
theorem sp_isGift {x : Int32} {K : Int32 → Vt → Prop} (hE : Sg E) (hG : IG E V gc tc gl) (h1 : x < 0 ∨ nI gc ≤ x → K 0 V) (h2 : ∀ g, g < gc → x = nI g → K 1 V) : C_X9_isGift l G E V x K := by
  obtain ⟨g1, g2, g3, g4⟩ := hG
  refine ok_X9_isGift hE ?_
  unfold vc_X9_isGift
  rw [g2]
  refine sp_in hE ⟨bz01, ?_⟩
  rcases ix3 x (n := gc) (by omega) with h | ⟨g, hg, rfl⟩
  · rw [bz_f (fun z => ?_)]
    · exact h1 h
    · obtain ⟨g, hg, rfl⟩ := (isP_iff (n := gc) (by omega)).mp z
      rcases h with h | h
      · exact absurd h (nI_pos (by omega))
      · exact absurd ((nI_leI (by omega) (by omega)).mp h) (by omega)
  · rw [bz_t ((isP_iff (n := gc) (by omega)).mpr ⟨g, hg, rfl⟩)]
    exact h2 g hg rfl
theorem bo_left {x y : Int32} {K : Int32 → Int32 → Vt → Prop} (hE : Sg E) (hG : IG E V gc tc gl) (hK : ∀ r, K r r V) : C_X8_left l G E V x y (fun r V1 => C_X9_left l G E V1 x y (fun r' V2 => K r r' V2)) := by
  have g3 := hG.2.2.1
  refine ok_X8_left hE ?_
  unfold vc_X8_left
  refine sp_findGift hE hG (fun q => ⟨fun _ => ?_, fun t z => (by cases z)⟩) (fun g hg e => ⟨fun z => (by cases z), fun t ht => ?_⟩)
  · refine ok_X9_left hE ?_
    unfold vc_X9_left
    refine sp_isGift hE hG (fun _ => ⟨fun _ => hK _, fun z => absurd rfl z⟩) (fun g hg e => ?_)
    subst e
    rcases q with q | q
    · exact absurd q (nI_pos (by omega))
    · exact absurd ((nI_leI (by omega) (by omega)).mp q) (by omega)
  · cases ht
    subst e
    obtain ⟨a1, a2, a3, a4, a5, a6, a7⟩ := hG.2.2.2 g hg
    refine ⟨a2, ?_⟩
    have hm : ∀ r, (¬ ((0 : Int32) ≤ y ∧ y ≤ 1) → r = -1) → ((0 : Int32) ≤ y ∧ y ≤ 1 → y = 0 → r = V 202 g 0) → ((0 : Int32) ≤ y ∧ y ≤ 1 → ¬ y = 0 → r = V 200 g 0) → C_X9_left l G E V (nI g) y (fun r' V2 => K r r' V2) := by
      intro r r1 r2 r3
      refine ok_X9_left hE ?_
      unfold vc_X9_left
      refine sp_isGift hE hG (fun q => ?_) (fun g' hg' e => ⟨fun z => absurd z (by decide), fun _ => sp_in hE ⟨fun z => ?_, fun z => ?_⟩⟩)
      · rcases q with q | q
        · exact absurd q (nI_pos (by omega))
        · exact absurd ((nI_leI (by omega) (by omega)).mp q) (by omega)
      · have z : (0 : Int32) ≤ y ∧ y ≤ 1 := by
          rw [bz0] at z
          exact Decidable.not_not.mp z
        rw [cl (by omega), ← a3, a5, ← a4]
        refine ⟨fun w => ⟨inI (by omega) (by decide), ?_⟩, fun w => ⟨inI (by omega) (by decide), ?_⟩⟩
        · rw [r3 z w]
          exact hK _
        · rw [r2 z w]
          exact hK _
      · rw [bz0] at z
        rw [r1 z]
        exact hK _
    refine ⟨fun q => hm _ (fun _ => rfl) (fun z => absurd q (le_nlt z.1)) (fun z => absurd q (le_nlt z.1)), fun q => ⟨fun q2 => ⟨fun q3 => hm _ (fun z => absurd ⟨nlt_le q, q2⟩ z) (fun _ z => absurd z q3) (fun _ _ => rfl), fun q3 => hm _ (fun z => absurd ⟨nlt_le q, q2⟩ z) (fun _ _ => rfl) (fun _ z => absurd q3 z)⟩, fun q2 => hm _ (fun _ => rfl) (fun z => absurd z.2 q2) (fun z => absurd z.2 q2)⟩⟩
theorem sp_countLaid {K : Int32 → Vt → Prop} (hE : Sg E) (hP : PC E V n (D 0) on) (h : K (isum (fun p => V 310 p 0) n) V) : C_X3_countLaid l G E V K := by
  have hn := hP.2.1
  have loop : ∀ (r i : Nat), i + r = n → A_X3_countLaid_4 l G E V (isum (fun p => V 310 p 0) i) (nI i) K := by
    intro r
    induction r with
    | zero =>
      intro i hi
      have hi : i = n := by omega
      subst hi
      refine ok_X3_countLaid_4 hE ?_
      unfold vc_X3_countLaid_4
      rw [hP.1]
      exact br_t (nI_le (Nat.le_refl _) (by omega)) h
    | succ r ih =>
      intro i hi
      refine ok_X3_countLaid_4 hE ?_
      unfold vc_X3_countLaid_4
      rw [hP.1, nI_1]
      refine br_f (nI_ge (by omega) (by omega)) (sp_findp hE hP (by omega) ⟨fun z => (by cases z), fun t ht => ?_⟩)
      cases ht
      exact ⟨(hP.2.2 i (by omega)).2.1, ih (i + 1) (by omega)⟩
  refine ok_X3_countLaid hE ?_
  unfold vc_X3_countLaid
  exact loop n 0 (by omega)
theorem sp_coinsRem {K : Int32 → Vt → Prop} (hE : Sg E) (hG : IG E V gc tc gl) (h : K (isum (fun g => V 202 g 0) gc) V) : C_X8_coinsRemaining l G E V K := by
  obtain ⟨g1, g2, g3, g4⟩ := And.intro True.intro hG |>.2
  have loop : ∀ (r i : Nat), i + r = gc → A_X8_coinsRemaining_4 l G E V (isum (fun g => V 202 g 0) i) (nI i) K := by
    intro r
    induction r with
    | zero =>
      intro i hi
      have hi : i = gc := by omega
      subst hi
      refine ok_X8_coinsRemaining_4 hE ?_
      unfold vc_X8_coinsRemaining_4
      rw [g1]
      exact br_t (nI_le (Nat.le_refl _) (by omega)) h
    | succ r ih =>
      intro i hi
      refine ok_X8_coinsRemaining_4 hE ?_
      unfold vc_X8_coinsRemaining_4
      rw [g1, nI_1]
      refine br_f (nI_ge (by omega) (by omega)) (sp_findGift hE hG (fun q => ?_) (fun g hg e => ⟨fun z => (by cases z), fun t ht => ?_⟩))
      · rcases q with q | q
        · exact absurd q (nI_pos (by omega))
        · exact absurd ((nI_leI (by omega) (by omega)).mp q) (by omega)
      · cases ht
        have e := (nI_eq (by omega) (by omega)).mp e
        subst e
        exact ⟨(g4 i hg).2.1, ih (i + 1) (by omega)⟩
  refine ok_X8_coinsRemaining hE ?_
  unfold vc_X8_coinsRemaining
  exact loop gc 0 (by omega)
theorem bo_count {x : Int32} {K : Int32 → Int32 → Vt → Prop} (hE : Sg E) (hI : IP E V n D on sn) (hX : IE V n ec es) (hC : IC V m fr yb) (hT : IT V tl tb) (hG : IG E V gc tc gl) (hU : IU E V sc tc) (hK : ∀ r, K r r V) : C_X8_count l G E V x (fun r V1 => C_X9_count l G E V1 x (fun r' V2 => K r r' V2)) := by
  have hn := hI.1.2.1
  have g3 := hG.2.2.1
  have fin : ∀ r, (∀ K' : Int32 → Vt → Prop, K' r V → vc_X9_count l G E V x K') → C_X9_count l G E V x (fun r' V2 => K r r' V2) := fun r h => ok_X9_count hE (h _ (hK r))
  have d : ∀ a b : Int32, x = a → ¬ a = b → ¬ x = b := fun a b h1 h2 h3 => h2 (by rw [← h1, h3])
  refine ok_X8_count hE ?_
  unfold vc_X8_count
  have l5 : ∀ K' : Int32 → Vt → Prop, K' (isum (fun p => V 310 p 0) n) V → A_X9_count_83 l G E V 0 0 K' := by
    intro K' hk
    have loop : ∀ (r i : Nat), i + r = n → A_X9_count_83 l G E V (isum (fun p => V 310 p 0) i) (nI i) K' := by
      intro r
      induction r with
      | zero =>
        intro i hi
        have hi : i = n := by omega
        subst hi
        refine ok_X9_count_83 hE ?_
        unfold vc_X9_count_83
        rw [hI.2.1.1]
        exact br_t (nI_le (Nat.le_refl _) (by omega)) hk
      | succ r ih =>
        intro i hi
        refine ok_X9_count_83 hE ?_
        unfold vc_X9_count_83
        obtain ⟨-, -, -, -, -, -, -, a8, -⟩ := hI.2.2 i (by omega)
        rw [hI.2.1.1, nI_1, cl (by omega), a8.2.1, ← a8.1]
        exact br_f (nI_ge (by omega) (by omega)) ⟨inI (by omega) (by decide), ih (i + 1) (by omega)⟩
    exact loop n 0 (by omega)
  have l6 : ∀ K' : Int32 → Vt → Prop, K' (isum (fun g => V 202 g 0) gc) V → A_X9_count_110 l G E V 0 0 K' := by
    intro K' hk
    have loop : ∀ (r i : Nat), i + r = gc → A_X9_count_110 l G E V (isum (fun g => V 202 g 0) i) (nI i) K' := by
      intro r
      induction r with
      | zero =>
        intro i hi
        have hi : i = gc := by omega
        subst hi
        refine ok_X9_count_110 hE ?_
        unfold vc_X9_count_110
        rw [hG.2.1]
        exact br_t (nI_le (Nat.le_refl _) (by omega)) hk
      | succ r ih =>
        intro i hi
        refine ok_X9_count_110 hE ?_
        unfold vc_X9_count_110
        obtain ⟨-, -, -, a4, a5, -⟩ := hG.2.2.2 i (by omega)
        rw [hG.2.1, nI_1, cl (by omega), a5, ← a4]
        exact br_f (nI_ge (by omega) (by omega)) ⟨inI (by omega) (by decide), ih (i + 1) (by omega)⟩
    exact loop gc 0 (by omega)
  refine ⟨fun q => fin _ ?_, fun q => fin _ ?_, fun q => fin _ ?_, fun q => fin _ ?_, fun q => fin _ ?_, fun q => sp_countLaid hE hI.1 (fin _ ?_), fun q => sp_coinsRem hE hG (fin _ ?_), fun q => fin _ ?_, fun q => fin _ ?_, fun q => fin _ ?_, fun q => fin _ ?_⟩
  all_goals
    intro K' hk
    unfold vc_X9_count
    refine ⟨fun w => ?_, fun w => ?_, fun w => ?_, fun w => ?_, fun w => ?_, fun w => ?_, fun w => ?_, fun w => ?_, fun w => ?_, fun w => ?_, fun w => ?_⟩
  all_goals first
    | exact l5 K' hk
    | exact l6 K' hk
    | exact hk
    | (rw [hI.2.1.1, ← hI.1.1]; exact hk)
    | (rw [hG.2.1, ← hG.1]; exact hk)
    | (rw [hC.2.1, ← hC.1]; exact hk)
    | (rw [hX.2.1, ← hX.1]; exact hk)
    | (rw [← hC.2.2.2.2.2.2.2.2.1]; exact hk)
    | (rw [← hC.2.2.2.2.2.2.2.2.2]; exact hk)
    | (rw [hU.2.1, ← hU.1]; exact hk)
    | (rw [hT.2.1, ← hT.1]; exact hk)
    | (rw [q] at w; exact absurd w (by decide))
    | (exact absurd w q.1)
    | (exact absurd w q.2.1)
    | (exact absurd w q.2.2.1)
    | (exact absurd w q.2.2.2.1)
    | (exact absurd w q.2.2.2.2.1)
    | (exact absurd w q.2.2.2.2.2.1)
    | (exact absurd w q.2.2.2.2.2.2.1)
    | (exact absurd w q.2.2.2.2.2.2.2.1)
    | (exact absurd w q.2.2.2.2.2.2.2.2.1)
    | (exact absurd w q.2.2.2.2.2.2.2.2.2)
    | (exact absurd q w.1)
    | (exact absurd q w.2.1)
    | (exact absurd q w.2.2.1)
    | (exact absurd q w.2.2.2.1)
    | (exact absurd q w.2.2.2.2.1)
    | (exact absurd q w.2.2.2.2.2.1)
    | (exact absurd q w.2.2.2.2.2.2.1)
    | (exact absurd q w.2.2.2.2.2.2.2.1)
    | (exact absurd q w.2.2.2.2.2.2.2.2.1)
    | (exact absurd q w.2.2.2.2.2.2.2.2.2)
end Small

/-! MODEL: loads, pushes, what falls -/
def PM (V : Vt) (n : Nat) (sc : Nat → Nat) (on : Nat → Nat → Nat) : Prop :=
  V 1001 0 0 = nI n ∧ n ≤ 40 ∧ ∀ p, p < n → sc p ≤ 4 ∧ V 1015 0 p = nI (sc p) ∧ (V 1002 0 p = 0 ∨ V 1002 0 p = 1) ∧ (V 1002 0 p = 1 → 2 ≤ sc p) ∧ ∀ i, i < sc p → on p i < p ∧ V 1016 0 (4 * p + i) = nI (on p i)
theorem PM.of {S : List Nat} {V V' : Vt} {n : Nat} {sc : Nat → Nat} {on : Nat → Nat → Nat} (h : PM V n sc on) (hO : Of S V V') (h1 : 1001 ∉ S) (h2 : 1015 ∉ S) (h3 : 1016 ∉ S) (h4 : 1002 ∉ S) : PM V' n sc on := by
  unfold PM
  rw [hO 1001 h1, hO 1015 h2, hO 1016 h3, hO 1002 h4]
  exact h
def mLW (V : Vt) (p : Nat) : Int32 := V 1012 0 p * V 1005 0 p
def mCe (V : Vt) (p : Nat) : Bool := !decide (V 1014 0 p = 0)
def mAr (V : Vt) (p : Nat) : Bool := !decide (V 1002 0 p = 0) && !decide (V 1012 0 p = 0)
def mSh (V : Vt) (p i : Nat) : Int32 := V 1017 0 (4 * p + i)
def pvM (x t : Int32) : Int32 := (x.toInt64 * t.toInt64 / (100 : Int64)).toInt32
def mW (V : Vt) (sc : Nat → Nat) (on : Nat → Nat → Nat) (n m : Nat) : (Nat → Int32) × (Nat → Int32) := wg pvM (mLW V) (mCe V) (mAr V) sc on (mSh V) (fun p => V 1009 0 p) n m
def mBg (V : Vt) (p : Nat) : Bool := !decide (V 1012 0 p = 0) && !mCe V p
def mF (V : Vt) (sc : Nat → Nat) (on : Nat → Nat → Nat) (n : Nat) : Int32 := fal (mW V sc on n n).1 (mW V sc on n n).2 (mBg V) (fun p => V 1007 0 p) (fun p => V 1008 0 p) (fun p => V 1011 0 p) n n
theorem n4 (p i : Nat) : (4 : Int32) * nI p + nI i = nI (4 * p + i) := by rw [li 4, pk_mul, nI_add]
theorem n4' (p : Nat) : (4 : Int32) * nI p = nI (4 * p) := by rw [li 4, pk_mul]
theorem n41 (p : Nat) : (4 : Int32) * nI p + 1 = nI (4 * p + 1) := by rw [li 4, pk_mul, nI_1]
theorem passd_eqL {x : Int32} {sh : Nat → Int32} {f : Nat → Nat} {s r : Nat} {L M : Nat → Int32} (hL : ∀ q, q < r → L q = M q) : ∀ i, (∀ k, k < i → f k < r) → ∀ q, q < r → passd x sh f s L i q = passd x sh f s M i q
  | 0, _, q, hq => hL q hq
  | i + 1, h, q, hq => by
    have ih := passd_eqL (x := x) (sh := sh) (s := s) hL i (fun k hk => h k (Nat.lt_succ_of_lt hk))
    unfold passd
    by_cases e : q = f i
    · subst e
      rw [pk_us, pk_us, ih _ hq]
    · rw [pk_un e, pk_un e]
      exact ih q hq
section MPlan
variable {l : Launch} {G : Gt} {E : Et} {V : Vt} {n : Nat} {sc : Nat → Nat} {on : Nat → Nat → Nat}
theorem sp_in {x a b : Int32} {K : Int32 → Vt → Prop} (hE : Sg E) (h : K (bz (a ≤ x ∧ x ≤ b)) V) : C_X9_in l G E V x a b K := by
  refine ok_X9_in hE ?_
  unfold vc_X9_in
  refine ⟨fun q => ?_, fun q => ⟨fun q2 => ?_, fun q2 => ?_⟩⟩
  · rw [bz_f (fun z => lt_nle q z.1)] at h; exact h
  · rw [bz_f (fun z => lt_nle q2 z.2)] at h; exact h
  · rw [bz_t ⟨nlt_le q, nlt_le q2⟩] at h; exact h
theorem isP_iff {x : Int32} (hn : n ≤ 40) : ((0 : Int32) ≤ x ∧ x ≤ nI n - 1) ↔ ∃ p, p < n ∧ x = nI p := by
  constructor
  · intro ⟨h1, h2⟩
    rcases ix3 x (n := n) (by omega) with z | ⟨p, hp, e⟩
    · rcases z with z | z
      · exact absurd h1 (lt_nle z)
      · by_cases h0 : n = 0
        · subst h0
          have e1 : nI 0 - 1 = (-1 : Int32) := by decide
          rw [e1] at h2
          rw [i_le] at h1 h2
          have a1 : (0 : Int32).toInt = 0 := by decide
          have a2 : (-1 : Int32).toInt = -1 := by decide
          omega
        · rw [nI_sub1 (by omega)] at h2
          rw [i_le] at h2 z
          rw [nI_toInt (by omega)] at h2 z
          omega
    · exact ⟨p, hp, e⟩
  · rintro ⟨p, hp, rfl⟩
    refine ⟨nI_pos' (by omega), ?_⟩
    rw [nI_sub1 (by omega)]
    exact nI_le (by omega) (by omega)
theorem sp_isPart {x : Int32} {K : Int32 → Vt → Prop} (hE : Sg E) (hP : PM V n sc on) (h1 : x < 0 ∨ nI n ≤ x → K 0 V) (h2 : ∀ p, p < n → x = nI p → K 1 V) : C_X9_isPart l G E V x K := by
  have hn := hP.2.1
  refine ok_X9_isPart hE ?_
  unfold vc_X9_isPart
  rw [hP.1]
  refine sp_in hE ⟨bz01, ?_⟩
  rcases ix3 x (n := n) (by omega) with z | ⟨p, hp, e⟩
  · rw [bz_f (fun q => by
      obtain ⟨p, hp, rfl⟩ := (isP_iff hn).mp q
      rcases z with z | z
      · exact nI_pos (by omega) z
      · exact nI_ge hp (by omega) z)]
    exact h1 z
  · rw [bz_t ((isP_iff hn).mpr ⟨p, hp, e⟩)]
    exact h2 p hp e
theorem sp_isPartp {p : Nat} {K : Int32 → Vt → Prop} (hE : Sg E) (hP : PM V n sc on) (hp : p < n) (h : K 1 V) : C_X9_isPart l G E V (nI p) K := by
  have hn := hP.2.1
  refine sp_isPart hE hP (fun q => ?_) (fun _ _ _ => h)
  rcases q with q | q
  · exact absurd q (nI_pos (by omega))
  · exact absurd q (nI_ge hp (by omega))
theorem goes_loop {p : Nat} {K : Int32 → Vt → Prop} (hE : Sg E) (hp : p < 40) {s : Nat} (hs : V 1015 0 p = nI s) (hs4 : s ≤ 4) : ∀ (m j : Nat) (y : Int32), j + m = s - 1 → y = rsum (V 1028 0 p) (mSh V p) j → K (rsum (V 1028 0 p) (mSh V p) (s - 1)) V → A_X9_goes_35 l G E V (nI p) y (nI (j + 1)) K := by
  intro m
  induction m with
  | zero =>
    intro j y hj hy h
    refine ok_X9_goes_35 hE ?_
    unfold vc_X9_goes_35
    rw [cl (by omega), hs]
    refine ⟨inI (by omega) (by omega), br_t (nI_le (by omega) (by omega)) ?_⟩
    rw [hy, show j = s - 1 by omega]
    exact h
  | succ m ih =>
    intro j y hj hy h
    refine ok_X9_goes_35 hE ?_
    unfold vc_X9_goes_35
    rw [cl (by omega), hs, n4]
    refine ⟨inI (by omega) (by omega), br_f (nI_ge (by omega) (by omega)) ⟨inI (by omega) (by omega), inI (by omega) (by omega), ?_⟩⟩
    rw [cl (by omega), nI_1]
    exact ih (j + 1) _ (by omega) (by rw [hy]; rfl) h
theorem sp_goes {p i : Nat} {K : Int32 → Vt → Prop} (hE : Sg E) (hp : p < 40) {s : Nat} (hs : V 1015 0 p = nI s) (hs4 : s ≤ 4) (hi : i < s) (h : K (por (V 1028 0 p) (mSh V p) s i) V) : C_X9_goes l G E V (nI p) (nI i) K := by
  refine ok_X9_goes hE ?_
  unfold vc_X9_goes
  unfold por at h
  rw [cl (by omega), n4]
  by_cases h0 : i = 0
  · subst h0
    rw [if_pos rfl] at h
    exact br_t (by decide) ⟨inI (by omega) (by omega), goes_loop hE hp hs hs4 (s - 1) 0 _ (by omega) rfl h⟩
  · rw [if_neg h0] at h
    refine br_f (nI_nle (by omega) (by omega)) ⟨inI (by omega) (by omega), inI (by omega) (by omega), ?_⟩
    rw [cl (by omega)]
    exact h
def psh (P : Nat → Int32) (a b : Nat) (v : Int32) : Nat → Int32 := upd (upd P a (P a - v)) b (upd P a (P a - v) b + v)
/-- the inner loop: what part p hands down, and its pushes -/
theorem mpass_loop {p : Nat} {K : Vt → Prop} {V0 : Vt} {L : Nat → Int32} (hE : Sg E) (hP : PM V0 n sc on) (hp : p < n) (h : A_X9_weigh_49 l G E (sr (sr V0 1028 (passd (L p) (mSh V0 p) (on p) (sc p) L (sc p))) 1029 (if mAr V0 p then psh (V0 1029 0) (on p 0) (on p 1) (pvM (L p) (V0 1009 0 p)) else V0 1029 0)) (nI p + -1) K) : ∀ (m i : Nat), i + m = sc p → A_X9_weigh_67 l G E (sr V0 1028 (passd (L p) (mSh V0 p) (on p) (sc p) L i)) (nI p) (nI i) K := by
  obtain ⟨e1, e2, e3⟩ := hP
  obtain ⟨h4, hs, h01, h2, ho⟩ := e3 p hp
  have hpp : ∀ i, i ≤ sc p → passd (L p) (mSh V0 p) (on p) (sc p) L i p = L p := fun i hi => passd_ne i (fun k hk => Nat.ne_of_lt (ho k (by omega)).1)
  intro m
  induction m with
  | zero =>
    intro i hi
    have hi : i = sc p := by omega
    subst hi
    refine ok_X9_weigh_67 hE ?_
    unfold vc_X9_weigh_67
    rw [cl (by omega), sr_ne (f' := 1015) (by decide), hs]
    refine ⟨inI (by omega) (by omega), br_t (nI_le (by omega) (by omega)) ⟨inI (by omega) (by omega), ?_⟩⟩
    rw [sr_ne (f' := 1002) (by decide), sr_ne (f' := 1012) (by decide)]
    refine ⟨fun q => ?_, fun q => ⟨inI (by omega) (by omega), fun q2 => ?_, fun q2 => ?_⟩⟩
    · rw [if_neg (by simp [mAr, q]), ← sr_ne (V := V0) (f := 1028) (f' := 1029) (g := passd (L p) (mSh V0 p) (on p) (sc p) L (sc p)) (by decide), sr_self] at h
      exact h
    · rw [if_pos (by simp [mAr, q, q2])] at h
      have hk : V0 1002 0 p = 1 := by rcases h01 with z | z; exact absurd z q; exact z
      have hs2 := h2 hk
      obtain ⟨o1, o2⟩ := ho 0 (by omega)
      obtain ⟨o3, o4⟩ := ho 1 (by omega)
      rw [n4', nI_1, cl (by omega), cl (by omega), up3_f (f' := 1016) (by decide), sr_ne (f' := 1016) (by decide), sr_ne (f' := 1009) (by decide), sr_s, hpp _ (Nat.le_refl _)]
      rw [Nat.add_zero] at o2
      rw [o2, o4]
      refine ⟨inI (by omega) (by omega), inI (by omega) (by omega), inI (by omega) (by omega), inI (by omega) (by omega), inI (by omega) (by omega), inI (by omega) (by omega), inI (by omega) (by omega), inI (by omega) (by omega), ?_⟩
      rw [cl (by omega), cl (by omega), up3_sr, up3_sr, sr_sr, sr_s, sr_ne (f' := 1029) (by decide)]
      exact h
    · rw [if_neg (by simp [mAr, q2]), ← sr_ne (V := V0) (f := 1028) (f' := 1029) (g := passd (L p) (mSh V0 p) (on p) (sc p) L (sc p)) (by decide), sr_self] at h
      exact h
  | succ m ih =>
    intro i hi
    refine ok_X9_weigh_67 hE ?_
    unfold vc_X9_weigh_67
    obtain ⟨o1, o2⟩ := ho i (by omega)
    rw [cl (by omega), sr_ne (f' := 1015) (by decide), hs, n4, cl (by omega), sr_ne (f' := 1016) (by decide), o2]
    refine ⟨inI (by omega) (by omega), br_f (nI_ge (by omega) (by omega)) ⟨inI (by omega) (by omega), inI (by omega) (by omega), ?_⟩⟩
    refine sp_goes hE (by omega) (s := sc p) (by rw [sr_ne (by decide)]; exact hs) h4 (by omega) ⟨inI (by omega) (by omega), ?_⟩
    rw [cl (by omega), nI_1, up3_sr, sr_sr, sr_s, hpp i (by omega)]
    have hsh : mSh (sr V0 1028 (passd (L p) (mSh V0 p) (on p) (sc p) L i)) p = mSh V0 p := by
      funext k
      unfold mSh
      rw [sr_ne (by decide)]
    rw [hsh]
    exact ih (i + 1) (by omega)
theorem mweigh_loop {K : Vt → Prop} (hE : Sg E) (hP : PM V n sc on) (hK : ∀ V', Of [1028, 1029] V V' → (∀ q, q < n → V' 1028 0 q = (mW V sc on n n).1 q ∧ V' 1029 0 q = (mW V sc on n n).2 q) → K V') :
    ∀ (r : Nat) (V1 : Vt) (x : Int32), r ≤ n → x = nI r - 1 → Of [1028, 1029] V V1 → (∀ q, q < n → V1 1028 0 q = (mW V sc on n (n - r)).1 q ∧ V1 1029 0 q = (mW V sc on n (n - r)).2 q) → A_X9_weigh_49 l G E V1 x K := by
  have hn := hP.2.1
  intro r
  induction r with
  | zero =>
    intro V1 x hr hx hO h1
    refine ok_X9_weigh_49 hE ?_
    unfold vc_X9_weigh_49
    subst hx
    exact br_t (by decide) (hK V1 hO h1)
  | succ r ih =>
    intro V1 x hr hx hO h1
    have hx : x = nI r := by rw [hx]; exact nI_pred r
    subst hx
    have hP1 := hP.of hO (by decide) (by decide) (by decide) (by decide)
    obtain ⟨h4, hs, h01, h2, ho⟩ := hP.2.2 r (by omega)
    have hst : n - r = (n - (r + 1)) + 1 := by omega
    have hidx : n - ((n - (r + 1)) + 1) = r := by omega
    have hnx : nI r + (-1) = nI r - 1 := by rw [Int32.sub_eq_add_neg]
    refine ok_X9_weigh_49 hE ?_
    unfold vc_X9_weigh_49
    refine br_f (nI_pos (by omega)) ⟨inI (by omega) (by omega), ?_⟩
    rw [cl (by omega), hO 1014 (by decide)]
    refine ⟨fun q => ?_, fun q => ?_⟩
    · have q9 : mCe V r = false := by simp [mCe, q]
      have hw : mW V sc on n (n - r) = (passd ((mW V sc on n (n - (r + 1))).1 r) (mSh V r) (on r) (sc r) (mW V sc on n (n - (r + 1))).1 (sc r), if mAr V r then psh (mW V sc on n (n - (r + 1))).2 (on r 0) (on r 1) (pvM ((mW V sc on n (n - (r + 1))).1 r) (V 1009 0 r)) else (mW V sc on n (n - (r + 1))).2) := by
        rw [hst]
        unfold mW
        rw [wg, hidx]
        simp only [q9, if_false, Bool.false_eq_true]
        rfl
      have hsh : mSh V1 r = mSh V r := by
        funext k
        unfold mSh
        rw [hO 1017 (by decide)]
      have har : mAr V1 r = mAr V r := by
        unfold mAr
        rw [hO 1002 (by decide), hO 1012 (by decide)]
      have g := mpass_loop (l := l) (G := G) (K := K) (L := V1 1028 0) hE hP1 (p := r) (by omega) ?_ (sc r) 0 (by omega)
      · unfold passd at g
        rw [sr_self] at g
        exact g
      · rw [hnx, hsh, har, hO 1009 (by decide), (h1 r (by omega)).1]
        refine ih _ _ (by omega) rfl ((hO.sr (by decide)).sr (by decide)) (fun a ha => ?_)
        rw [hw]
        dsimp only
        constructor
        · rw [sr_ne (f' := 1028) (by decide), sr_s]
          exact passd_eqL (r := n) (fun b hb => (h1 b hb).1) (sc r) (fun k hk => by have := (ho k hk).1; omega) a ha
        · rw [sr_s]
          by_cases hr2 : mAr V r = true
          · rw [if_pos hr2, if_pos hr2]
            have hk : V 1002 0 r = 1 := by
              rcases h01 with z | z
              · simp [mAr, z] at hr2
              · exact z
            have hs2 := h2 hk
            have b0 := (ho 0 (by omega)).1
            have b1 := (ho 1 (by omega)).1
            have g0 := (h1 (on r 0) (by omega)).2
            have g1 := (h1 (on r 1) (by omega)).2
            have ga := (h1 a ha).2
            unfold psh upd
            rw [g0, g1, ga]
          · rw [if_neg hr2, if_neg hr2]
            exact (h1 a ha).2
    · have q9 : mCe V r = true := by simp [mCe, q]
      have hw : mW V sc on n (n - r) = mW V sc on n (n - (r + 1)) := by
        rw [hst]
        unfold mW
        rw [wg, hidx]
        simp only [q9, if_true]
      rw [hnx]
      refine ih V1 _ (by omega) rfl hO (fun a ha => ?_)
      rw [hw]
      exact h1 a ha
theorem mw0_loop {K : Vt → Prop} (hE : Sg E) (hP : PM V n sc on) (hK : ∀ V', Of [1028, 1029] V V' → (∀ q, q < n → V' 1028 0 q = mLW V q ∧ V' 1029 0 q = 0) → A_X9_weigh_49 l G E V' (nI n - 1) K) :
    ∀ (m i : Nat) (V1 : Vt), i + m = n → Of [1028, 1029] V V1 → (∀ q, q < i → V1 1028 0 q = mLW V q ∧ V1 1029 0 q = 0) → A_X9_weigh_2 l G E V1 (nI i) K := by
  have hn := hP.2.1
  intro m
  induction m with
  | zero =>
    intro i V1 hi hO h1
    have hi : i = n := by omega
    subst hi
    refine ok_X9_weigh_2 hE ?_
    unfold vc_X9_weigh_2
    rw [hO 1001 (by decide), hP.1]
    exact br_t (nI_le (Nat.le_refl _) (by omega)) (hK V1 hO h1)
  | succ m ih =>
    intro i V1 hi hO h1
    refine ok_X9_weigh_2 hE ?_
    unfold vc_X9_weigh_2
    rw [hO 1001 (by decide), hP.1]
    refine br_f (nI_ge (by omega) (by omega)) ⟨inI (by omega) (by omega), inI (by omega) (by omega), inI (by omega) (by omega), inI (by omega) (by omega), ?_⟩
    rw [cl (by omega), nI_1, hO 1012 (by decide), hO 1005 (by decide)]
    refine ih (i + 1) _ (by omega) ((hO.up (by decide)).up (by decide)) (fun q hq => ?_)
    by_cases e : q = i
    · subst e
      rw [up3_f (f' := 1028) (by decide), up3_s, up3_s]
      exact ⟨rfl, rfl⟩
    · rw [up3_j e, up3_j e, up3_j e, up3_f (f' := 1029) (by decide)]
      exact h1 q (by omega)
theorem sp_mweigh {K : Vt → Prop} (hE : Sg E) (hP : PM V n sc on) (hK : ∀ V', Of [1028, 1029] V V' → (∀ q, q < n → V' 1028 0 q = (mW V sc on n n).1 q ∧ V' 1029 0 q = (mW V sc on n n).2 q) → K V') : C_X9_weigh l G E V K := by
  refine ok_X9_weigh hE ?_
  unfold vc_X9_weigh
  refine mw0_loop hE hP (fun V' hO h1 => ?_) n 0 V (by omega) (Of.rf _ _) (fun q hq => by omega)
  refine mweigh_loop hE hP hK n V' _ (Nat.le_refl n) rfl hO (fun q hq => ?_)
  rw [Nat.sub_self]
  exact h1 q hq
theorem mfall_loop {K : Int32 → Vt → Prop} (hE : Sg E) (hP : PM V n sc on) : ∀ (r : Nat) (V1 : Vt), r ≤ n → Of [1028, 1029] V V1 → (∀ q, q < n → V1 1028 0 q = (mW V sc on n n).1 q ∧ V1 1029 0 q = (mW V sc on n n).2 q) → K (fal (mW V sc on n n).1 (mW V sc on n n).2 (mBg V) (fun p => V 1007 0 p) (fun p => V 1008 0 p) (fun p => V 1011 0 p) n r) V1 → A_X9_falling_6 l G E V1 (nI (n - r)) K := by
  have hn := hP.2.1
  intro r
  induction r with
  | zero =>
    intro V1 hr hO hW hK
    refine ok_X9_falling_6 hE ?_
    unfold vc_X9_falling_6
    rw [hO 1001 (by decide), hP.1]
    exact br_t (nI_le (by omega) (by omega)) hK
  | succ r ih =>
    intro V1 hr hO hW hK
    obtain ⟨w1, w2⟩ := hW (n - (r + 1)) (by omega)
    refine ok_X9_falling_6 hE ?_
    unfold vc_X9_falling_6
    rw [hO 1001 (by decide), hP.1]
    unfold fal at hK
    dsimp only at hK
    have hnx : nI (n - (r + 1)) + 1 = nI (n - r) := by rw [nI_1]; congr 1; omega
    refine br_f (nI_ge (by omega) (by omega)) ⟨inI (by omega) (by omega), ?_⟩
    rw [cl (by omega), hO 1012 (by decide), hO 1014 (by decide), hO 1007 (by decide), w1]
    refine ⟨fun q => ?_, fun q => ⟨inI (by omega) (by omega), fun q2 => ⟨inI (by omega) (by omega), inI (by omega) (by omega), fun q3 => ?_, fun q3 => ?_⟩, fun q2 => ?_⟩⟩
    · rw [hnx]
      rw [if_neg (by simp [mBg, q])] at hK
      exact ih V1 (by omega) hO hW hK
    · rw [if_pos (by simp [mBg, mCe, q, q2]), if_neg (le_nlt q3)] at hK
      refine ok_X9_net hE ?_
      unfold vc_X9_net
      rw [cl (by omega), w2]
      have key : ∀ y, y = iabs ((mW V sc on n n).2 (n - (r + 1))) → vp_in (nI (n - (r + 1))) 40 ∧ vp_in (nI (n - (r + 1))) 40 ∧ vp_in (nI (n - (r + 1))) 40 ∧ ((y ≤ V1 1008 0 (n - (r + 1)) + V1 1011 0 (n - (r + 1)) + V1 1028 0 (n - (r + 1)) / 4 → A_X9_falling_6 l G E V1 (nI (n - (r + 1)) + 1) K) ∧ (¬ y ≤ V1 1008 0 (n - (r + 1)) + V1 1011 0 (n - (r + 1)) + V1 1028 0 (n - (r + 1)) / 4 → K (100 + nI (n - (r + 1))) V1)) := by
        intro y hy
        subst hy
        refine ⟨inI (by omega) (by omega), inI (by omega) (by omega), inI (by omega) (by omega), fun q4 => ?_, fun q4 => ?_⟩
        · rw [hO 1008 (by decide), hO 1011 (by decide), w1] at q4
          rw [if_neg (le_nlt q4)] at hK
          rw [hnx]
          exact ih V1 (by omega) hO hW hK
        · rw [hO 1008 (by decide), hO 1011 (by decide), w1] at q4
          rw [if_pos (nle_lt q4)] at hK
          rw [li 100, nI_add]
          exact hK
      refine ⟨inI (by omega) (by omega), fun q5 => ⟨inI (by omega) (by omega), key _ (by unfold iabs; rw [if_neg (le_nlt q5)])⟩, fun q5 => ⟨inI (by omega) (by omega), key _ (by unfold iabs; rw [if_pos (nle_lt q5)])⟩⟩
    · rw [if_pos (by simp [mBg, mCe, q, q2]), if_pos (nle_lt q3)] at hK
      exact hK
    · rw [hnx]
      rw [if_neg (by simp [mBg, mCe, q2])] at hK
      exact ih V1 (by omega) hO hW hK
theorem sp_mfall {K : Int32 → Vt → Prop} (hE : Sg E) (hP : PM V n sc on) (hK : ∀ V', Of [1028, 1029] V V' → K (mF V sc on n) V') : C_X9_falling l G E V K := by
  refine ok_X9_falling hE ?_
  unfold vc_X9_falling
  refine sp_mweigh hE hP (fun V' hO hW => ?_)
  have h := mfall_loop (l := l) (G := G) (K := K) hE hP n V' (Nat.le_refl n) hO hW (hK V' hO)
  rw [Nat.sub_self] at h
  exact h
end MPlan

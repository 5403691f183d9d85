/-! PURE: two plans that agree weigh alike; no load is large; what stands -/
theorem rsum_cong {x : Int32} {sh sh' : Nat → Int32} : ∀ m, (∀ i, i ≤ m → sh i = sh' i) → rsum x sh m = rsum x sh' m
  | 0, _ => rfl
  | m + 1, h => by
    unfold rsum
    rw [rsum_cong m (fun i hi => h i (by omega)), h (m + 1) (Nat.le_refl _)]
theorem por_cong {x : Int32} {sh sh' : Nat → Int32} {s i : Nat} (h : ∀ i, i < s → sh i = sh' i) (hi : i < s) : por x sh s i = por x sh' s i := by
  unfold por
  rw [rsum_cong (s - 1) (fun k hk => h k (by omega)), h i hi]
theorem passd_cong2 {x : Int32} {sh sh' : Nat → Int32} {f f' : Nat → Nat} {s : Nat} {L : Nat → Int32} (h : ∀ i, i < s → sh i = sh' i) (hf : ∀ i, i < s → f i = f' i) : ∀ i, i ≤ s → passd x sh f s L i = passd x sh' f' s L i
  | 0, _ => rfl
  | i + 1, hi => by
    unfold passd
    rw [passd_cong2 h hf i (by omega), por_cong h (by omega), hf i (by omega)]
theorem wg_cong {pv pv' : Int32 → Int32 → Int32} {lw lw' : Nat → Int32} {ce ce' ar ar' : Nat → Bool} {sc : Nat → Nat} {on : Nat → Nat → Nat} {sh sh' : Nat → Nat → Int32} {th th' : Nat → Int32} {n : Nat}
    (h1 : ∀ p, p < n → lw p = lw' p ∧ ce p = ce' p ∧ ar p = ar' p ∧ th p = th' p ∧ ∀ i, i < sc p → sh p i = sh' p i) (ho : ∀ p, p < n → (∀ i, i < sc p → on p i < p) ∧ (ar p = true → 2 ≤ sc p))
    (hpv : ∀ m p, m < n → p = n - (m + 1) → ar p = true → ce p = false → pv ((wg pv lw ce ar sc on sh th n m).1 p) (th p) = pv' ((wg pv lw ce ar sc on sh th n m).1 p) (th p)) :
    ∀ m, m ≤ n → ∀ q, q < n → (wg pv lw ce ar sc on sh th n m).1 q = (wg pv' lw' ce' ar' sc on sh' th' n m).1 q ∧ (wg pv lw ce ar sc on sh th n m).2 q = (wg pv' lw' ce' ar' sc on sh' th' n m).2 q := by
  intro m
  induction m with
  | zero =>
    intro hm q hq
    exact ⟨(h1 q hq).1, rfl⟩
  | succ m ih =>
    intro hm q hq
    have ih := ih (by omega)
    obtain ⟨a1, a2, a3, a4, a5⟩ := h1 (n - (m + 1)) (by omega)
    obtain ⟨o1, o2⟩ := ho (n - (m + 1)) (by omega)
    have hp := hpv m (n - (m + 1)) (by omega) rfl
    unfold wg
    dsimp only
    rw [← a2]
    by_cases c : ce (n - (m + 1)) = true
    · rw [if_pos c, if_pos c]
      exact ih q hq
    · rw [if_neg c, if_neg c]
      dsimp only
      rw [← a3, ← a4]
      have ep := (ih (n - (m + 1)) (by omega)).1
      constructor
      · rw [← ep, ← passd_cong2 (x := (wg pv lw ce ar sc on sh th n m).1 (n - (m + 1))) (f := on (n - (m + 1))) (f' := on (n - (m + 1))) (L := (wg pv' lw' ce' ar' sc on sh' th' n m).1) a5 (fun _ _ => rfl) _ (Nat.le_refl _)]
        exact passd_eqL (r := n) (fun b hb => (ih b hb).1) _ (fun k hk => by have := o1 k hk; omega) q hq
      · by_cases d : ar (n - (m + 1)) = true
        · rw [if_pos d, if_pos d, ← ep, ← hp d (by simpa using c)]
          have s2 := o2 d
          have b0 := o1 0 (by omega)
          have b1 := o1 1 (by omega)
          have g0 := (ih (on (n - (m + 1)) 0) (by omega)).2
          have g1 := (ih (on (n - (m + 1)) 1) (by omega)).2
          have gq := (ih q hq).2
          unfold upd
          rw [g0, g1, gq]
        · rw [if_neg d, if_neg d]
          exact (ih q hq).2
theorem fal_cong {L L' P P' : Nat → Int32} {bg bg' : Nat → Bool} {be be' ho ho' pr pr' : Nat → Int32} {n : Nat} (h : ∀ p, p < n → L p = L' p ∧ P p = P' p ∧ bg p = bg' p ∧ be p = be' p ∧ ho p = ho' p ∧ pr p = pr' p) : ∀ m, m ≤ n → fal L P bg be ho pr n m = fal L' P' bg' be' ho' pr' n m
  | 0, _ => rfl
  | m + 1, hm => by
    unfold fal
    obtain ⟨a1, a2, a3, a4, a5, a6⟩ := h (n - (m + 1)) (by omega)
    dsimp only
    rw [a1, a2, a3, a4, a5, a6, fal_cong h m (by omega)]
theorem fal_iff {L P : Nat → Int32} {bg : Nat → Bool} {be ho pr : Nat → Int32} {n : Nat} (hn : n ≤ 40) : ∀ m, m ≤ n → (fal L P bg be ho pr n m = -5 ↔ ∀ p, n - m ≤ p → p < n → bg p = true → L p ≤ be p ∧ iabs (P p) ≤ ho p + pr p + L p / 4)
  | 0, _ => by
    unfold fal
    exact ⟨fun _ p h1 h2 => by omega, fun _ => rfl⟩
  | m + 1, hm => by
    have ih := fal_iff (L := L) (P := P) (bg := bg) (be := be) (ho := ho) (pr := pr) hn m (by omega)
    have ne1 : ∀ k, k < 200 → nI k ≠ -5 := fun k hk e => by
      have e1 := congrArg Int32.toInt e
      rw [nI_toInt (by omega)] at e1
      have e2 : (-5 : Int32).toInt = -5 := by decide
      omega
    unfold fal
    dsimp only
    have split : (∀ p, n - (m + 1) ≤ p → p < n → bg p = true → L p ≤ be p ∧ iabs (P p) ≤ ho p + pr p + L p / 4) ↔ (bg (n - (m + 1)) = true → L (n - (m + 1)) ≤ be (n - (m + 1)) ∧ iabs (P (n - (m + 1))) ≤ ho (n - (m + 1)) + pr (n - (m + 1)) + L (n - (m + 1)) / 4) ∧ ∀ p, n - m ≤ p → p < n → bg p = true → L p ≤ be p ∧ iabs (P p) ≤ ho p + pr p + L p / 4 := by
      constructor
      · intro h
        exact ⟨h _ (Nat.le_refl _) (by omega), fun p h1 h2 => h p (by omega) h2⟩
      · intro ⟨h1, h2⟩ p h3 h4
        by_cases e : p = n - (m + 1)
        · subst e
          exact h1
        · exact h2 p (by omega) h4
    rw [split, ← ih]
    by_cases c : bg (n - (m + 1)) = true
    · rw [if_pos c]
      by_cases d : be (n - (m + 1)) < L (n - (m + 1))
      · rw [if_pos d]
        exact ⟨fun e => absurd e (ne1 _ (by omega)), fun e => absurd (e.1 c).1 (lt_nle d)⟩
      · rw [if_neg d]
        by_cases f : ho (n - (m + 1)) + pr (n - (m + 1)) + L (n - (m + 1)) / 4 < iabs (P (n - (m + 1)))
        · rw [if_pos f]
          exact ⟨fun e => absurd e (ne1 _ (by omega)), fun e => absurd (e.1 c).2 (lt_nle f)⟩
        · rw [if_neg f]
          exact ⟨fun e => ⟨fun _ => ⟨nlt_le d, nlt_le f⟩, e⟩, fun e => e.2⟩
    · rw [if_neg c]
      exact ⟨fun e => ⟨fun q => absurd q c, e⟩, fun e => e.2⟩
/-! sums -/
def sm (f : Nat → Nat) : Nat → Nat
  | 0 => 0
  | n + 1 => sm f n + f n
theorem sm_s (f : Nat → Nat) (n : Nat) : sm f (n + 1) = sm f n + f n := rfl
theorem sm_0 (f : Nat → Nat) : sm f 0 = 0 := rfl
theorem sm_cong {f g : Nat → Nat} : ∀ n, (∀ k, k < n → f k = g k) → sm f n = sm g n
  | 0, _ => rfl
  | n + 1, h => by
    unfold sm
    rw [sm_cong n (fun k hk => h k (by omega)), h n (by omega)]
theorem sm_add (f : Nat → Nat) (i v : Nat) : ∀ n, i < n → sm (fun k => if k = i then f k + v else f k) n = sm f n + v
  | 0, h => absurd h (Nat.not_lt_zero i)
  | n + 1, h => by
    unfold sm
    by_cases e : i = n
    · subst e
      rw [if_pos rfl, sm_cong i (g := f) (fun k hk => if_neg (by omega))]
      omega
    · rw [if_neg (by omega), sm_add f i v n (by omega)]
      omega
theorem sm_le (f : Nat → Nat) {q : Nat} : ∀ n, q < n → f q ≤ sm f n
  | 0, h => absurd h (Nat.not_lt_zero q)
  | n + 1, h => by
    unfold sm
    by_cases e : q = n
    · subst e
      omega
    · have := sm_le f n (q := q) (by omega)
      omega
theorem sm_mono (f : Nat → Nat) {a : Nat} : ∀ b, a ≤ b → sm f a ≤ sm f b
  | 0, h => by rw [show a = 0 by omega]; exact Nat.le_refl _
  | b + 1, h => by
    by_cases e : a = b + 1
    · subst e
      exact Nat.le_refl _
    · have := sm_mono f (a := a) b (by omega)
      rw [sm_s]
      omega
theorem sm_bound {f : Nat → Nat} {c : Nat} : ∀ n, (∀ k, k < n → f k ≤ c) → sm f n ≤ n * c
  | 0, _ => Nat.zero_le _
  | n + 1, h => by
    unfold sm
    have h1 := sm_bound n (fun k hk => h k (by omega))
    have h2 := h n (by omega)
    rw [Nat.succ_mul]
    omega
/-- the rests of the others' shares -/
theorem floors (x : Nat) (f : Nat → Nat) : ∀ m, 12 * sm (fun k => x * f k / 12) m ≤ x * sm f m
  | 0 => by simp [sm]
  | m + 1 => by
    have h := floors x f m
    unfold sm
    rw [Nat.mul_add, Nat.mul_add]
    have := Nat.mul_div_le (x * f m) 12
    omega
theorem rsum_nat {x : Nat} {sh : Nat → Int32} {sn : Nat → Nat} (hx : x ≤ 2000000) {s : Nat} (hs : ∀ i, i < s → sh i = nI (sn i) ∧ sn i ≤ 12) (h12 : sm (fun k => sn (k + 1)) (s - 1) ≤ 12) : ∀ m, m ≤ s - 1 → rsum (nI x) sh m = nI (x - sm (fun k => x * sn (k + 1) / 12) m) ∧ sm (fun k => x * sn (k + 1) / 12) m ≤ x
  | 0, _ => by
    unfold rsum sm
    exact ⟨rfl, Nat.zero_le _⟩
  | m + 1, hm => by
    obtain ⟨e1, e2⟩ := rsum_nat hx hs h12 m (by omega)
    have hfl := floors x (fun k => sn (k + 1)) (m + 1)
    have hmo : sm (fun k => sn (k + 1)) (m + 1) ≤ 12 := Nat.le_trans (sm_mono _ _ hm) h12
    have h3 : x * sm (fun k => sn (k + 1)) (m + 1) ≤ x * 12 := Nat.mul_le_mul_left x hmo
    have h4 : sm (fun k => x * sn (k + 1) / 12) (m + 1) ≤ x := by omega
    refine ⟨?_, h4⟩
    unfold rsum
    obtain ⟨s1, s2⟩ := hs (m + 1) (by omega)
    have hb : x * sn (m + 1) ≤ 2000000 * 12 := Nat.mul_le_mul hx s2
    rw [e1, s1, pk_mul, li 12, pk_div (by omega) (by decide) (by decide)]
    rw [sm_s] at h4 ⊢
    rw [pk_sub (by omega)]
    congr 1
    omega
def npor (x : Nat) (sn : Nat → Nat) (s i : Nat) : Nat := if i = 0 then x - sm (fun k => x * sn (k + 1) / 12) (s - 1) else x * sn i / 12
theorem por_nat {x : Nat} {sh : Nat → Int32} {sn : Nat → Nat} (hx : x ≤ 2000000) {s i : Nat} (hs : ∀ i, i < s → sh i = nI (sn i) ∧ sn i ≤ 12) (h12 : sm (fun k => sn (k + 1)) (s - 1) ≤ 12) (hi : i < s) : por (nI x) sh s i = nI (npor x sn s i) := by
  unfold por npor
  by_cases h0 : i = 0
  · rw [if_pos h0, if_pos h0]
    exact (rsum_nat hx hs h12 (s - 1) (Nat.le_refl _)).1
  · rw [if_neg h0, if_neg h0]
    obtain ⟨s1, s2⟩ := hs i hi
    have hb : x * sn i ≤ 2000000 * 12 := Nat.mul_le_mul hx s2
    rw [s1, pk_mul, li 12, pk_div (by omega) (by decide) (by decide)]
theorem npor_sum {x : Nat} {sn : Nat → Nat} {s : Nat} (hle : sm (fun k => x * sn (k + 1) / 12) (s - 1) ≤ x) : ∀ m, m + 1 ≤ s → sm (npor x sn s) (m + 1) = x - sm (fun k => x * sn (k + 1) / 12) (s - 1) + sm (fun k => x * sn (k + 1) / 12) m
  | 0, _ => by
    rw [sm_s, sm_0, sm_0]
    unfold npor
    rw [if_pos rfl]
    omega
  | m + 1, hm => by
    rw [sm, npor_sum hle m (by omega)]
    conv => rhs; rw [sm]
    unfold npor
    rw [if_neg (by omega)]
    omega
def npass (x : Nat) (sn : Nat → Nat) (f : Nat → Nat) (s : Nat) (L : Nat → Nat) : Nat → Nat → Nat
  | 0 => L
  | i + 1 => fun k => if k = f i then npass x sn f s L i k + npor x sn s i else npass x sn f s L i k
theorem npass_ge {x : Nat} {sn : Nat → Nat} {f : Nat → Nat} {s : Nat} {L : Nat → Nat} {r : Nat} : ∀ i, (∀ k, k < i → f k < r) → ∀ q, r ≤ q → npass x sn f s L i q = L q
  | 0, _, _, _ => rfl
  | i + 1, h, q, hq => by
    unfold npass
    rw [if_neg (by have := h i (Nat.lt_succ_self i); omega)]
    exact npass_ge i (fun k hk => h k (by omega)) q hq
theorem npass_sum {x : Nat} {sn : Nat → Nat} {f : Nat → Nat} {s : Nat} {L : Nat → Nat} {r : Nat} : ∀ i, (∀ k, k < i → f k < r) → sm (npass x sn f s L i) r = sm L r + sm (npor x sn s) i
  | 0, _ => by unfold npass; rw [show sm (npor x sn s) 0 = 0 from rfl]; omega
  | i + 1, h => by
    have ih := npass_sum (x := x) (sn := sn) (s := s) (L := L) i (fun k hk => h k (by omega))
    unfold npass
    rw [sm_add _ _ _ _ (h i (Nat.lt_succ_self i)), ih]
    conv => rhs; rw [sm]
    omega
theorem passd_nat {x : Nat} {sh : Nat → Int32} {sn : Nat → Nat} {f : Nat → Nat} {s n : Nat} {L : Nat → Int32} {M : Nat → Nat} (hp : ∀ i, i < s → por (nI x) sh s i = nI (npor x sn s i)) (hL : ∀ q, q < n → L q = nI (M q)) : ∀ i, i ≤ s → (∀ k, k < i → f k < n) → ∀ q, q < n → passd (nI x) sh f s L i q = nI (npass x sn f s M i q)
  | 0, _, _, q, hq => hL q hq
  | i + 1, hi, hf, q, hq => by
    have ih := passd_nat hp hL i (by omega) (fun k hk => hf k (by omega))
    unfold passd npass
    by_cases e : q = f i
    · subst e
      rw [pk_us, if_pos rfl, ih _ hq, hp i (by omega), nI_add]
    · rw [pk_un e, if_neg e]
      exact ih q hq
/-- no load is more than all that is laid -/
theorem wg_loads {pv : Int32 → Int32 → Int32} {lw : Nat → Int32} {ce ar : Nat → Bool} {sc : Nat → Nat} {on : Nat → Nat → Nat} {sh : Nat → Nat → Int32} {th : Nat → Int32} {n : Nat} {w : Nat → Nat} {sn : Nat → Nat → Nat} (hw : ∀ p, p < n → lw p = nI (w p)) (hT : sm w n ≤ 2000000)
    (hs : ∀ p, p < n → (∀ i, i < sc p → on p i < p ∧ sh p i = nI (sn p i) ∧ sn p i ≤ 12) ∧ sm (fun k => sn p (k + 1)) (sc p - 1) ≤ 12) :
    ∀ m, m ≤ n → ∃ M : Nat → Nat, (∀ q, q < n → (wg pv lw ce ar sc on sh th n m).1 q = nI (M q)) ∧ sm M (n - m) ≤ sm w n ∧ ∀ q, q < n → M q ≤ sm w n := by
  intro m
  induction m with
  | zero =>
    intro hm
    exact ⟨w, hw, Nat.le_refl _, fun q hq => sm_le w n hq⟩
  | succ m ih =>
    intro hm
    obtain ⟨M, h1, h2, h3⟩ := ih (by omega)
    unfold wg
    dsimp only
    have hsp : n - m = (n - (m + 1)) + 1 := by omega
    rw [hsp, sm] at h2
    by_cases c : ce (n - (m + 1)) = true
    · rw [if_pos c]
      exact ⟨M, h1, by omega, h3⟩
    · rw [if_neg c]
      dsimp only
      obtain ⟨a1, a2⟩ := hs (n - (m + 1)) (by omega)
      have hx := h3 (n - (m + 1)) (by omega)
      have hpn : ∀ i, i < sc (n - (m + 1)) → por (nI (M (n - (m + 1)))) (sh (n - (m + 1))) (sc (n - (m + 1))) i = nI (npor (M (n - (m + 1))) (sn (n - (m + 1))) (sc (n - (m + 1))) i) := fun i hi => por_nat (by omega) (fun j hj => (a1 j hj).2) a2 hi
      have hsum : sm (npor (M (n - (m + 1))) (sn (n - (m + 1))) (sc (n - (m + 1)))) (sc (n - (m + 1))) ≤ M (n - (m + 1)) := by
        by_cases z : sc (n - (m + 1)) = 0
        · rw [z]
          exact Nat.zero_le _
        · have hle := (rsum_nat (x := M (n - (m + 1))) (by omega) (fun j hj => (a1 j hj).2) a2 _ (Nat.le_refl _)).2
          have := npor_sum hle (sc (n - (m + 1)) - 1) (by omega)
          rw [show sc (n - (m + 1)) - 1 + 1 = sc (n - (m + 1)) by omega] at this
          omega
      have hsm := npass_sum (x := M (n - (m + 1))) (sn := sn (n - (m + 1))) (s := sc (n - (m + 1))) (L := M) (sc (n - (m + 1))) (fun k hk => (a1 k hk).1)
      refine ⟨npass (M (n - (m + 1))) (sn (n - (m + 1))) (on (n - (m + 1))) (sc (n - (m + 1))) M (sc (n - (m + 1))), ?_, by omega, ?_⟩
      · rw [h1 (n - (m + 1)) (by omega)]
        exact passd_nat hpn h1 _ (Nat.le_refl _) (fun k hk => by have := (a1 k hk).1; omega)
      · intro q hq
        by_cases e : q < n - (m + 1)
        · have := sm_le (npass (M (n - (m + 1))) (sn (n - (m + 1))) (on (n - (m + 1))) (sc (n - (m + 1))) M (sc (n - (m + 1)))) _ e
          omega
        · rw [npass_ge _ (fun k hk => (a1 k hk).1) q (by omega)]
          exact h3 q hq

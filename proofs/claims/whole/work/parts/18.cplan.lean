/-! CLASS: Part, Plan, Stress: what their methods answer -/
def sr (V : Vt) (f : Nat) (g : Nat → Int32) : Vt := fun f' i' j' => if f' = f ∧ i' = 0 then g j' else V f' i' j'
theorem up3_sr (V : Vt) (f j : Nat) (v : Int32) : up3 V f 0 j v = sr V f (upd (V f 0) j v) := by
  funext f' i' j'
  unfold up3 sr upd
  by_cases h : f' = f ∧ i' = 0
  · obtain ⟨rfl, rfl⟩ := h
    simp
  · rw [if_neg (fun q => h ⟨q.1, q.2.1⟩), if_neg h]
theorem sr_s (V : Vt) (f : Nat) (g : Nat → Int32) : sr V f g f 0 = g := by
  funext j
  simp [sr]
theorem sr_ne {V : Vt} {f f' : Nat} {g : Nat → Int32} (h : f' ≠ f) : sr V f g f' = V f' := by
  funext i j
  simp [sr, h]
theorem sr_sr (V : Vt) (f : Nat) (g g' : Nat → Int32) : sr (sr V f g) f g' = sr V f g' := by
  funext f' i' j'
  unfold sr
  by_cases h : f' = f ∧ i' = 0
  · rw [if_pos h, if_pos h]
  · rw [if_neg h, if_neg h, if_neg h]
theorem sr_self (V : Vt) (f : Nat) : sr V f (V f 0) = V := by
  funext f' i' j'
  unfold sr
  split
  · rename_i h
    rw [h.1, h.2]
  · rfl
theorem Of.sr {S : List Nat} {V V' : Vt} {f : Nat} {g : Nat → Int32} (h : Of S V V') (hf : f ∈ S) : Of S V (sr V' f g) := fun a ha => by
  rw [← h a ha]
  exact sr_ne (fun e => ha (by rw [e]; exact hf))
def cen (V : Vt) (p : Nat) : Prop := V 300 p 0 = 1 ∧ 0 < V 310 p 0 ∧ V 313 p 0 = 0
def cenB (V : Vt) (p : Nat) : Bool := decide (V 300 p 0 = 1) && (decide (0 < V 310 p 0) && decide (V 313 p 0 = 0))
theorem cenB_iff {V : Vt} {p : Nat} : cenB V p = true ↔ cen V p := by simp [cenB, cen]
/-- the class's plan: n parts, their supports -/
def PC (E : Et) (V : Vt) (n : Nat) (sc : Nat → Nat) (on : Nat → Nat → Nat) : Prop :=
  V 405 0 0 = nI n ∧ n ≤ 40 ∧ ∀ p, p < n → eR E 400 p = some p ∧ eL E 2 p ∧ sc p ≤ 4 ∧ V 308 p 0 = nI (sc p) ∧ (V 300 p 0 = 1 → 2 ≤ sc p) ∧ ∀ i, i < sc p → on p i < p ∧ V 305 p i = nI (on p i)
theorem PC.of {E : Et} {S : List Nat} {V V' : Vt} {n : Nat} {sc : Nat → Nat} {on : Nat → Nat → Nat} (h : PC E V n sc on) (hO : Of S V V') (h1 : 405 ∉ S) (h2 : 308 ∉ S) (h3 : 305 ∉ S) (h4 : 300 ∉ S) : PC E V' n sc on := by
  unfold PC
  rw [hO 405 h1, hO 308 h2, hO 305 h3, hO 300 h4]
  exact h
section CPlan
variable {l : Launch} {G : Gt} {E : Et} {V : Vt} {n : Nat} {sc : Nat → Nat} {on : Nat → Nat → Nat}
theorem sp_find {x : Int32} {K : Option Nat → Vt → Prop} (hE : Sg E) (hP : PC E V n sc on) (h1 : x < 0 ∨ nI n ≤ x → K none V) (h2 : ∀ p, p < n → x = nI p → K (some p) V) : C_X3_find l G E V x K := by
  refine ok_X3_find hE ?_
  unfold vc_X3_find
  obtain ⟨e1, e2, e3⟩ := hP
  refine br_c (fun q => h1 (Or.inl q)) (fun q => ?_)
  rw [e1]
  refine br_c (fun q2 => h1 (Or.inr q2)) (fun q2 => ?_)
  rcases ix3 x (n := n) (by omega) with z | ⟨p, hp, rfl⟩
  · rcases z with z | z
    · exact absurd z q
    · exact absurd z q2
  · refine ⟨inI (by omega) (by omega), ?_⟩
    rw [cl (by omega), (e3 p hp).1]
    exact h2 p hp rfl
theorem sp_findp {p : Nat} {K : Option Nat → Vt → Prop} (hE : Sg E) (hP : PC E V n sc on) (hp : p < n) (h : K (some p) V) : C_X3_find l G E V (nI p) K := by
  have hn := hP.2.1
  refine sp_find hE hP (fun q => ?_) (fun q hq e => ?_)
  · rcases q with q | q
    · exact absurd q (nI_pos (by omega))
    · exact absurd q (nI_ge hp (by omega))
  · rw [← (nI_eq (by omega) (by omega)).mp e]
    exact h
theorem sp_begun {p : Nat} {K : Int32 → Vt → Prop} (hE : Sg E) (hl : eL E 2 p) (h : K (bz (0 < V 310 p 0)) V) : C_X2_isBegun l G E V p K := by
  refine ok_X2_isBegun hE hl ?_
  unfold vc_X2_isBegun
  refine br_c (fun q => ?_) (fun q => ?_)
  · rw [bz_f (le_nlt q)] at h
    exact h
  · rw [bz_t (nle_lt q)] at h
    exact h
theorem sp_whole {p : Nat} {K : Int32 → Vt → Prop} (hE : Sg E) (hl : eL E 2 p) (h : K (bz (V 309 p 0 ≤ V 310 p 0)) V) : C_X2_isWhole l G E V p K := by
  refine ok_X2_isWhole hE hl ?_
  unfold vc_X2_isWhole
  refine br_c (fun q => ?_) (fun q => ?_)
  · rw [bz_f (lt_nle q)] at h
    exact h
  · rw [bz_t (nlt_le q)] at h
    exact h
theorem sp_cent {p : Nat} {K : Int32 → Vt → Prop} (hE : Sg E) (hl : eL E 2 p) (h : K (bz (cenB V p = true)) V) : C_X2_isOnCentring l G E V p K := by
  refine ok_X2_isOnCentring hE hl ?_
  unfold vc_X2_isOnCentring
  refine ⟨fun q => ?_, fun q => sp_begun hE hl ⟨fun q2 => ?_, fun q2 => ⟨fun q3 => ?_, fun q3 => ?_⟩⟩⟩
  · rw [bz_f (fun z => q (cenB_iff.mp z).1)] at h; exact h
  · rw [bz0] at q2; rw [bz_f (fun z => q2 (cenB_iff.mp z).2.1)] at h; exact h
  · rw [bz_f (fun z => q3 (cenB_iff.mp z).2.2)] at h; exact h
  · rw [bz0] at q2
    rw [bz_t (cenB_iff.mpr ⟨q, Decidable.not_not.mp q2, q3⟩)] at h; exact h
theorem por_loop {p : Nat} {x : Int32} {K : Int32 → Vt → Prop} (hE : Sg E) (hl : eL E 2 p) {s : Nat} (hs : V 308 p 0 = nI s) (hs4 : s ≤ 4) : ∀ (m j : Nat) (y : Int32), j + m = s - 1 → y = rsum x (V 306 p) j → K (rsum x (V 306 p) (s - 1)) V → A_X2_portion_21 l G E V p x y (nI (j + 1)) K := by
  intro m
  induction m with
  | zero =>
    intro j y hj hy h
    refine ok_X2_portion_21 hE hl ?_
    unfold vc_X2_portion_21
    rw [hs]
    refine br_t (nI_le (by omega) (by omega)) ?_
    rw [hy, show j = s - 1 by omega]
    exact h
  | succ m ih =>
    intro j y hj hy h
    refine ok_X2_portion_21 hE hl ?_
    unfold vc_X2_portion_21
    rw [hs]
    refine br_f (nI_ge (by omega) (by omega)) ⟨inI (by omega) (by omega), ?_⟩
    rw [cl (by omega), nI_1]
    exact ih (j + 1) _ (by omega) (by rw [hy]; rfl) h
theorem sp_por {p i : Nat} {x : Int32} {K : Int32 → Vt → Prop} (hE : Sg E) (hl : eL E 2 p) {s : Nat} (hs : V 308 p 0 = nI s) (hs4 : s ≤ 4) (hi : i < s) (h : K (por x (V 306 p) s i) V) : C_X2_portion l G E V p x (nI i) K := by
  refine ok_X2_portion hE hl ?_
  unfold vc_X2_portion
  unfold por at h
  by_cases h0 : i = 0
  · subst h0
    rw [if_pos rfl] at h
    refine br_t (by decide) ?_
    exact por_loop hE hl hs hs4 (s - 1) 0 x (by omega) rfl h
  · rw [if_neg h0] at h
    refine br_f (nI_nle (by omega) (by omega)) ⟨inI (by omega) (by omega), ?_⟩
    rw [cl (by omega)]
    exact h
theorem pass_loop {p : Nat} {x : Int32} {K : Vt → Prop} {V0 : Vt} {L : Nat → Int32} (hE : Sg E) (hP : PC E V0 n sc on) (hp : p < n) : ∀ (m i : Nat), i + m = sc p → K (sr V0 600 (passd x (V0 306 p) (on p) (sc p) L (sc p))) → A_X5_passDown_2 l G E (sr V0 600 (passd x (V0 306 p) (on p) (sc p) L i)) p x (nI i) K := by
  obtain ⟨e1, e2, e3⟩ := hP
  obtain ⟨-, hl, h4, hs, -, ho⟩ := e3 p hp
  intro m
  induction m with
  | zero =>
    intro i hi h
    refine ok_X5_passDown_2 hE hl ?_
    unfold vc_X5_passDown_2
    rw [sr_ne (by decide), hs]
    refine br_t (nI_le (by omega) (by omega)) ?_
    rw [show i = sc p by omega]
    exact h
  | succ m ih =>
    intro i hi h
    refine ok_X5_passDown_2 hE hl ?_
    unfold vc_X5_passDown_2
    rw [sr_ne (f' := 308) (by decide), sr_ne (f' := 305) (by decide), hs]
    refine br_f (nI_ge (by omega) (by omega)) ⟨inI (by omega) (by omega), ?_⟩
    obtain ⟨o1, o2⟩ := ho i (by omega)
    rw [cl (by omega), o2]
    refine ⟨inI (by omega) (by omega), ?_⟩
    refine sp_por hE hl (s := sc p) (by rw [sr_ne (by decide)]; exact hs) h4 (by omega) ⟨inI (by omega) (by omega), ?_⟩
    rw [cl (by omega), nI_1, up3_sr, sr_sr, sr_s, sr_ne (f' := 306) (by decide)]
    exact ih (i + 1) (by omega) h
theorem sp_pass {p : Nat} {x : Int32} {K : Vt → Prop} (hE : Sg E) (hP : PC E V n sc on) (hp : p < n) (h : K (sr V 600 (passd x (V 306 p) (on p) (sc p) (V 600 0) (sc p)))) : C_X5_passDown l G E V p x K := by
  refine ok_X5_passDown hE (hP.2.2 p hp).2.1 ?_
  unfold vc_X5_passDown
  have h2 := pass_loop (l := l) (G := G) (x := x) (L := V 600 0) hE hP hp (sc p) 0 (by omega) h
  unfold passd at h2
  rw [sr_self] at h2
  exact h2
def pvC (x t : Int32) : Int32 := x * t / 100
def arB (V : Vt) (p : Nat) : Bool := decide (V 300 p 0 = 1) && decide (0 < V 310 p 0)
theorem sp_push {p : Nat} {x : Int32} {K : Vt → Prop} (hE : Sg E) (hP : PC E V n sc on) (hp : p < n) (h : K (sr V 601 (if arB V p then upd (upd (V 601 0) (on p 0) (V 601 0 (on p 0) - pvC x (V 304 p 2))) (on p 1) (upd (V 601 0) (on p 0) (V 601 0 (on p 0) - pvC x (V 304 p 2)) (on p 1) + pvC x (V 304 p 2)) else V 601 0))) : C_X5_pushAside l G E V p x K := by
  obtain ⟨e1, e2, e3⟩ := hP
  obtain ⟨-, hl, h4, hs, h2, ho⟩ := e3 p hp
  refine ok_X5_pushAside hE hl ?_
  unfold vc_X5_pushAside
  refine ⟨fun q => ?_, fun q => sp_begun hE hl ⟨fun q2 => ?_, fun q2 => ?_⟩⟩
  · rw [if_neg (by simp [arB, q]), sr_self] at h
    exact h
  · rw [bz0] at q2
    rw [if_neg (by simp [arB, q2]), sr_self] at h
    exact h
  · rw [bz0] at q2
    have q2 := Decidable.not_not.mp q2
    rw [if_pos (by simp [arB, q, q2])] at h
    have hs2 := h2 q
    rw [hs]
    refine br_f (le_nlt (nI_le (a := 2) hs2 (by omega))) ⟨inI (n := 2) (by decide) (by decide), inI (n := 0) (by decide) (by decide), ?_⟩
    obtain ⟨o1, o2⟩ := ho 0 (by omega)
    obtain ⟨o3, o4⟩ := ho 1 (by omega)
    rw [up3_f (f' := 305) (by decide), cl0, cl1, cl2, o2, o4]
    refine ⟨inI (by omega) (by omega), inI (by omega) (by omega), inI (n := 1) (by decide) (by decide), inI (by omega) (by omega), inI (by omega) (by omega), ?_⟩
    rw [cl (by omega), cl (by omega), up3_sr, up3_sr, sr_sr, sr_s]
    exact h
theorem i_swap (a b c : Int32) : a - b + c = a + c - b := by
  rw [Int32.sub_eq_add_neg, Int32.sub_eq_add_neg, Int32.add_assoc, Int32.add_assoc, Int32.add_comm (-b) c]
theorem i_back (a b : Int32) : a - b + b = a := by
  rw [Int32.sub_eq_add_neg, Int32.add_assoc, Int32.add_left_neg, Int32.add_zero]
theorem passd_shift {x : Int32} {sh : Nat → Int32} {f : Nat → Nat} {s r : Nat} {L M d : Nat → Int32} (hL : ∀ q, q < r → L q = M q - d q) : ∀ i, (∀ k, k < i → f k < r) → ∀ q, q < r → passd x sh f s L i q = passd x sh f s M i q - d q
  | 0, _, q, hq => hL q hq
  | i + 1, h, q, hq => by
    have ih := passd_shift (x := x) (sh := sh) (s := s) hL i (fun k hk => h k (Nat.lt_succ_of_lt hk))
    unfold passd
    by_cases e : q = f i
    · subst e
      rw [pk_us, pk_us, ih _ hq, i_swap]
    · rw [pk_un e, pk_un e]
      exact ih q hq
def cLW (V : Vt) (p : Nat) : Int32 := V 310 p 0 * V 302 p 0
/-- loads and pushes of the class's plan behind its last m parts -/
def cW (V : Vt) (sc : Nat → Nat) (on : Nat → Nat → Nat) (n m : Nat) : (Nat → Int32) × (Nat → Int32) := wg pvC (cLW V) (cenB V) (arB V) sc on (fun p => V 306 p) (fun p => V 304 p 2) n m
theorem cW_of {S : List Nat} {V V' : Vt} (h : Of S V V') (h1 : 310 ∉ S) (h2 : 302 ∉ S) (h3 : 300 ∉ S) (h4 : 313 ∉ S) (h5 : 306 ∉ S) (h6 : 304 ∉ S) : cW V' sc on n = cW V sc on n := by
  have a1 : cLW V' = cLW V := by funext p; unfold cLW; rw [h 310 h1, h 302 h2]
  have a2 : cenB V' = cenB V := by funext p; unfold cenB; rw [h 300 h3, h 310 h1, h 313 h4]
  have a3 : arB V' = arB V := by funext p; unfold arB; rw [h 300 h3, h 310 h1]
  funext m
  unfold cW
  rw [a1, a2, a3, h 306 h5, h 304 h6]
theorem weigh_loop {K : Vt → Prop} (hE : Sg E) (hP : PC E V n sc on) (hK : ∀ V', Of [600, 601] V V' → (∀ q, q < n → V' 600 0 q = (cW V sc on n n).1 q ∧ V' 601 0 q = (cW V sc on n n).2 q) → K V') :
    ∀ (r : Nat) (V1 : Vt) (x : Int32), r ≤ n → x = nI r - 1 → Of [600, 601] V V1 → (∀ q, q < r → V1 600 0 q = (cW V sc on n (n - r)).1 q - cLW V q) → (∀ q, r ≤ q → q < n → V1 600 0 q = (cW V sc on n (n - r)).1 q) → (∀ q, q < n → V1 601 0 q = (cW V sc on n (n - r)).2 q) → A_X5_weigh_23 l G E V1 x K := by
  have hn := hP.2.1
  intro r
  induction r with
  | zero =>
    intro V1 x hr hx hO h1 h2 h3
    refine ok_X5_weigh_23 hE ?_
    unfold vc_X5_weigh_23
    subst hx
    refine br_t (by decide) (hK V1 hO (fun q hq => ⟨h2 q (Nat.zero_le _) hq, h3 q hq⟩))
  | succ r ih =>
    intro V1 x hr hx hO h1 h2 h3
    have hx : x = nI r := by rw [hx]; exact nI_pred r
    subst hx
    have hP1 := hP.of hO (by decide) (by decide) (by decide) (by decide)
    obtain ⟨-, hl, h4, hs, -, ho⟩ := hP.2.2 r (by omega)
    refine ok_X5_weigh_23 hE ?_
    unfold vc_X5_weigh_23
    refine br_f (nI_pos (by omega)) (sp_findp hE hP1 (by omega) ?_)
    refine ⟨fun q => (by cases q), fun t ht => ?_⟩
    cases ht
    refine ⟨hl, inI (by omega) (by omega), inI (by omega) (by omega), ?_⟩
    rw [cl (by omega)]
    have e600 : V1 600 0 r + V1 310 r 0 * V1 302 r 0 = (cW V sc on n (n - (r + 1))).1 r := by
      rw [h1 r (by omega), hO 310 (by decide), hO 302 (by decide)]
      exact i_back _ _
    rw [e600]
    have hO2 : Of [600, 601] V (up3 V1 600 0 r ((cW V sc on n (n - (r + 1))).1 r)) := hO.up (by decide)
    have hce : cenB (up3 V1 600 0 r ((cW V sc on n (n - (r + 1))).1 r)) r = cenB V r := by
      unfold cenB
      rw [hO2 300 (by decide), hO2 310 (by decide), hO2 313 (by decide)]
    have hst : n - r = (n - (r + 1)) + 1 := by omega
    have hidx : n - ((n - (r + 1)) + 1) = r := by omega
    refine sp_cent hE hl ?_
    rw [up3_sr] at hO2 hce ⊢
    refine ⟨fun q => ?_, fun q => ?_⟩
    · rw [bz0] at q
      have q : cenB V r = true := by rw [← hce]; exact Decidable.not_not.mp q
      have hw : cW V sc on n (n - r) = cW V sc on n (n - (r + 1)) := by
        rw [hst]
        unfold cW
        rw [wg, hidx]
        simp only [q, if_true]
      rw [show nI r + (-1) = nI r - 1 from by rw [Int32.sub_eq_add_neg]]
      refine ih _ _ (by omega) rfl hO2 ?_ ?_ ?_
      · intro a ha
        rw [sr_s, pk_un (by omega), hw]
        exact h1 a (by omega)
      · intro a ha hb
        rw [sr_s, hw]
        by_cases e : a = r
        · subst e
          rw [pk_us]
        · rw [pk_un e]
          exact h2 a (by omega) hb
      · intro a ha
        rw [sr_ne (f' := 601) (by decide), hw]
        exact h3 a ha
    · rw [bz0] at q
      have q : cenB V r = false := by rw [← hce]; simpa using q
      refine ⟨inI (by omega) (by omega), ?_⟩
      rw [sr_s, pk_us]
      have hP2 := hP.of hO2 (by decide) (by decide) (by decide) (by decide)
      refine sp_pass hE hP2 (by omega) ⟨inI (by omega) (by omega), ?_⟩
      have hO3 := hO2.sr (f := 600) (g := passd ((cW V sc on n (n - (r + 1))).1 r) (sr V1 600 (upd (V1 600 0) r ((cW V sc on n (n - (r + 1))).1 r)) 306 r) (on r) (sc r) (sr V1 600 (upd (V1 600 0) r ((cW V sc on n (n - (r + 1))).1 r)) 600 0) (sc r)) (by decide)
      have hP3 := hP.of hO3 (by decide) (by decide) (by decide) (by decide)
      rw [sr_s, sr_s, sr_sr, sr_ne (f' := 306) (by decide), hO 306 (by decide)]
      rw [sr_s, sr_sr, sr_ne (f' := 306) (by decide), hO 306 (by decide)] at hO3 hP3
      have hne : passd ((cW V sc on n (n - (r + 1))).1 r) (V 306 r) (on r) (sc r) (upd (V1 600 0) r ((cW V sc on n (n - (r + 1))).1 r)) (sc r) r = (cW V sc on n (n - (r + 1))).1 r := by
        rw [passd_ne (sc r) (fun k hk => Nat.ne_of_lt (ho k hk).1), pk_us]
      rw [hne]
      have hw : cW V sc on n (n - r) = (passd ((cW V sc on n (n - (r + 1))).1 r) (V 306 r) (on r) (sc r) (cW V sc on n (n - (r + 1))).1 (sc r), if arB V r then upd (upd (cW V sc on n (n - (r + 1))).2 (on r 0) ((cW V sc on n (n - (r + 1))).2 (on r 0) - pvC ((cW V sc on n (n - (r + 1))).1 r) (V 304 r 2))) (on r 1) (upd (cW V sc on n (n - (r + 1))).2 (on r 0) ((cW V sc on n (n - (r + 1))).2 (on r 0) - pvC ((cW V sc on n (n - (r + 1))).1 r) (V 304 r 2)) (on r 1) + pvC ((cW V sc on n (n - (r + 1))).1 r) (V 304 r 2)) else (cW V sc on n (n - (r + 1))).2) := by
        rw [hst]
        unfold cW
        rw [wg, hidx]
        simp only [q, if_false, Bool.false_eq_true]
      refine sp_push hE hP3 (by omega) ?_
      have har : arB (sr V1 600 (passd ((cW V sc on n (n - (r + 1))).1 r) (V 306 r) (on r) (sc r) (upd (V1 600 0) r ((cW V sc on n (n - (r + 1))).1 r)) (sc r))) r = arB V r := by
        unfold arB
        rw [hO3 300 (by decide), hO3 310 (by decide)]
      rw [har, sr_ne (f' := 601) (by decide), hO3 304 (by decide)]
      rw [show nI r + (-1) = nI r - 1 from by rw [Int32.sub_eq_add_neg]]
      refine ih _ _ (by omega) rfl (hO3.sr (by decide)) ?_ ?_ ?_
      · intro a ha
        rw [sr_ne (f' := 600) (by decide), sr_s, hw]
        refine passd_shift (r := r) (d := cLW V) (fun b hb => ?_) (sc r) (fun k hk => (ho k hk).1) a ha
        rw [pk_un (by omega)]
        exact h1 b (by omega)
      · intro a ha hb
        rw [sr_ne (f' := 600) (by decide), sr_s, hw]
        dsimp only
        rw [passd_ne (sc r) (fun k hk => by have := (ho k hk).1; omega), passd_ne (sc r) (fun k hk => by have := (ho k hk).1; omega)]
        by_cases e : a = r
        · subst e
          rw [pk_us]
        · rw [pk_un e]
          exact h2 a (by omega) hb
      · intro a ha
        rw [sr_s, hw]
        dsimp only
        by_cases hr2 : arB V r = true
        · rw [if_pos hr2, if_pos hr2]
          have hr2' : 2 ≤ sc r := (hP.2.2 r (by omega)).2.2.2.2.1 (by simp [arB] at hr2; exact hr2.1)
          have b0 := (ho 0 (by omega)).1
          have b1 := (ho 1 (by omega)).1
          have g0 := h3 (on r 0) (by omega)
          have g1 := h3 (on r 1) (by omega)
          have ga := h3 a ha
          unfold upd
          rw [g0, g1, ga]
        · rw [if_neg hr2, if_neg hr2]
          exact h3 a ha
theorem sp_weigh {K : Vt → Prop} (hE : Sg E) (hP : PC E V n sc on) (hK : ∀ V', Of [600, 601] V V' → (∀ q, q < n → V' 600 0 q = (cW V sc on n n).1 q ∧ V' 601 0 q = (cW V sc on n n).2 q) → K V') : C_X5_weigh l G E V K := by
  have hn := hP.2.1
  refine ok_X5_weigh hE ?_
  unfold vc_X5_weigh
  refine fill_spec (n := 40) rfl (by decide) (hE.1 5 (by decide)) (hE.2 600 0 (by decide)) (by decide) ?_
  refine fill_spec (n := 40) rfl (by decide) (hE.1 5 (by decide)) (hE.2 601 0 (by decide)) (by decide) ?_
  have hO : Of [600, 601] V (fillV (fillV V 600 0 40 0) 601 0 40 0) := Of.fill (Of.fill (Of.rf _ _) (by decide)) (by decide)
  have hP1 := hP.of hO (by decide) (by decide) (by decide) (by decide)
  rw [hP1.1]
  refine weigh_loop hE hP hK n _ _ (Nat.le_refl n) rfl hO ?_ ?_ ?_
  · intro q hq
    rw [Nat.sub_self]
    show fillV (fillV V 600 0 40 0) 601 0 40 0 600 0 q = cLW V q - cLW V q
    rw [Int32.sub_self]
    unfold fillV
    rw [if_neg (by simp), if_pos (by omega)]
  · intro q h1 h2
    omega
  · intro q hq
    rw [Nat.sub_self]
    show fillV (fillV V 600 0 40 0) 601 0 40 0 601 0 q = 0
    unfold fillV
    rw [if_pos (by omega)]
end CPlan

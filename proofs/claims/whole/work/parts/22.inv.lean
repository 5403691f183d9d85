/-! THE COUPLING, parts: D 0 supports, 1 courses, 2 weight, 3 price, 4 laid, 5 holds, 6 thrust, 7 prop; on, sn: what a part stands on, with which share -/
def IPp (V : Vt) (D on sn : Nat → Nat → Nat) (p : Nat) : Prop :=
  V 300 p 0 = V 1002 0 p ∧
  (V 309 p 0 = nI (D 1 p) ∧ V 1003 0 p = nI (D 1 p) ∧ 1 ≤ D 1 p ∧ D 1 p ≤ 30) ∧
  V 301 p 0 = V 1004 0 p ∧
  (V 302 p 0 = nI (D 2 p) ∧ V 1005 0 p = nI (D 2 p) ∧ D 2 p ≤ 999) ∧
  (V 303 p 0 = nI (D 3 p) ∧ V 1006 0 p = nI (D 3 p) ∧ D 3 p ≤ 999) ∧
  (V 304 p 0 = V 1007 0 p ∧ V 304 p 1 = nI (D 5 p) ∧ V 1008 0 p = nI (D 5 p) ∧ D 5 p ≤ 100000 ∧ V 304 p 2 = nI (D 6 p) ∧ V 1009 0 p = nI (D 6 p) ∧ D 6 p ≤ 100 ∧ V 304 p 3 = V 1010 0 p) ∧
  (V 312 p 0 = nI (D 7 p) ∧ V 1011 0 p = nI (D 7 p) ∧ D 7 p ≤ 100000) ∧
  (V 310 p 0 = nI (D 4 p) ∧ V 1012 0 p = nI (D 4 p) ∧ D 4 p ≤ D 1 p) ∧
  V 311 p 0 = V 1013 0 p ∧
  ((V 313 p 0 = 0 ∨ V 313 p 0 = 1 ∧ V 300 p 0 = 1 ∧ D 4 p = D 1 p) ∧ V 1014 0 p = bz (cenB V p = true)) ∧
  (∀ i, i < D 0 p → V 306 p i = nI (sn p i) ∧ V 1017 0 (4 * p + i) = nI (sn p i) ∧ 1 ≤ sn p i ∧ sn p i ≤ 12) ∧
  (0 < D 0 p → sm (sn p) (D 0 p) = 12) ∧
  (0 < D 4 p → ∀ i, i < D 0 p → 0 < D 4 (on p i))
def IP (E : Et) (V : Vt) (n : Nat) (D on sn : Nat → Nat → Nat) : Prop := PC E V n (D 0) on ∧ PM V n (D 0) on ∧ ∀ p, p < n → IPp V D on sn p
def ipIds : List Nat := [300, 301, 302, 303, 304, 305, 306, 308, 309, 310, 311, 312, 313, 405, 1001, 1002, 1003, 1004, 1005, 1006, 1007, 1008, 1009, 1010, 1011, 1012, 1013, 1014, 1015, 1016, 1017]
theorem cenB_of {S : List Nat} {V V' : Vt} {p : Nat} (hO : Of S V V') (h1 : 300 ∉ S) (h2 : 310 ∉ S) (h3 : 313 ∉ S) : cenB V' p = cenB V p := by
  unfold cenB
  rw [hO 300 h1, hO 310 h2, hO 313 h3]
theorem IP.of {E : Et} {V V' : Vt} {n : Nat} {D on sn : Nat → Nat → Nat} {S : List Nat} (h : IP E V n D on sn) (hO : Of S V V') (hS : ∀ f, f ∈ ipIds → f ∉ S) : IP E V' n D on sn := by
  have e : ∀ f, f ∈ ipIds → V' f = V f := fun f hf => hO f (hS f hf)
  obtain ⟨h1, h2, h3⟩ := h
  refine ⟨h1.of hO (hS _ (by decide)) (hS _ (by decide)) (hS _ (by decide)) (hS _ (by decide)), h2.of hO (hS _ (by decide)) (hS _ (by decide)) (hS _ (by decide)) (hS _ (by decide)), fun p hp => ?_⟩
  unfold IPp
  rw [cenB_of hO (hS _ (by decide)) (hS _ (by decide)) (hS _ (by decide)), e 300 (by decide), e 301 (by decide), e 302 (by decide), e 303 (by decide), e 304 (by decide), e 306 (by decide), e 309 (by decide), e 310 (by decide), e 311 (by decide), e 312 (by decide), e 313 (by decide), e 1002 (by decide), e 1003 (by decide), e 1004 (by decide), e 1005 (by decide), e 1006 (by decide), e 1007 (by decide), e 1008 (by decide), e 1009 (by decide), e 1010 (by decide), e 1011 (by decide), e 1012 (by decide), e 1013 (by decide), e 1014 (by decide), e 1017 (by decide)]
  exact h3 p hp
/-- what both weigh by -/
def IW (V : Vt) (n : Nat) (D on sn : Nat → Nat → Nat) : Prop := ∀ p, p < n → V 300 p 0 = V 1002 0 p ∧ (V 300 p 0 = 0 ∨ V 300 p 0 = 1) ∧ (V 300 p 0 = 1 → 2 ≤ D 0 p) ∧ (V 302 p 0 = nI (D 2 p) ∧ V 1005 0 p = nI (D 2 p) ∧ D 2 p ≤ 999) ∧ (V 310 p 0 = nI (D 4 p) ∧ V 1012 0 p = nI (D 4 p) ∧ D 4 p ≤ 31) ∧
  (V 304 p 0 = V 1007 0 p ∧ V 304 p 1 = V 1008 0 p ∧ V 304 p 2 = nI (D 6 p) ∧ V 1009 0 p = nI (D 6 p) ∧ D 6 p ≤ 100) ∧ V 312 p 0 = V 1011 0 p ∧ V 1014 0 p = bz (cenB V p = true) ∧ (∀ i, i < D 0 p → V 306 p i = nI (sn p i) ∧ V 1017 0 (4 * p + i) = nI (sn p i) ∧ 1 ≤ sn p i ∧ sn p i ≤ 12) ∧ (0 < D 0 p → sm (sn p) (D 0 p) = 12) ∧ ∀ i, i < D 0 p → on p i < p
theorem sm_shift (f : Nat → Nat) : ∀ m, sm f (m + 1) = f 0 + sm (fun k => f (k + 1)) m
  | 0 => by rw [sm_s, sm_0, sm_0]; omega
  | m + 1 => by rw [sm_s, sm_shift f m, sm_s]; omega
theorem nI_pos0 {a : Nat} (h : a < 2 ^ 31) : ((0 : Int32) < nI a) ↔ 0 < a := by
  rw [show (0 : Int32) = nI 0 from rfl, nI_ltI (by decide) h]
theorem nI_eq0 {a : Nat} (h : a < 2 ^ 31) : (nI a = (0 : Int32)) ↔ a = 0 := by
  rw [show (0 : Int32) = nI 0 from rfl, nI_eq h (by decide)]
theorem pv_eq {x t : Nat} (hx : x ≤ 2000000) (ht : t ≤ 100) : pvC (nI x) (nI t) = nI (x * t / 100) ∧ pvM (nI x) (nI t) = nI (x * t / 100) := by
  have hb : x * t ≤ 2000000 * 100 := Nat.mul_le_mul hx ht
  constructor
  · unfold pvC
    rw [pk_mul, li 100, pk_div (by omega) (by decide) (by decide)]
  · unfold pvM
    rw [nI_l (by omega), nI_l (by omega), lN_mul, show (100 : Int64) = lN 100 from rfl, pk_lDiv (by omega) (by decide) (by decide), lN_i]
section Couple
variable {E : Et} {V : Vt} {n : Nat} {D on sn : Nat → Nat → Nat}
theorem IP.w (h : IP E V n D on sn) : IW V n D on sn := by
  intro p hp
  obtain ⟨h1, h2, h3⟩ := h
  obtain ⟨a1, a2, a3, a4, a5, a6, a7, a8, a9, a10, a11, a12, a13⟩ := h3 p hp
  obtain ⟨b1, b2, b3, b4, b5⟩ := h2.2.2 p hp
  refine ⟨a1, by rw [a1]; exact b3, by rw [a1]; exact b4, a4, ⟨a8.1, a8.2.1, by omega⟩, ⟨a6.1, by rw [a6.2.1, a6.2.2.1], a6.2.2.2.2.1, a6.2.2.2.2.2.1, a6.2.2.2.2.2.2.1⟩, by rw [a7.1, a7.2.1], a10.2, a11, a12, fun i hi => (b5 i hi).1⟩
theorem IW.lw (h : IW V n D on sn) {p : Nat} (hp : p < n) : cLW V p = nI (D 4 p * D 2 p) ∧ mLW V p = nI (D 4 p * D 2 p) ∧ D 4 p * D 2 p ≤ 31 * 999 := by
  obtain ⟨-, -, -, b, c, -⟩ := h p hp
  unfold cLW mLW
  rw [b.1, b.2.1, c.1, c.2.1, pk_mul]
  exact ⟨rfl, rfl, Nat.mul_le_mul c.2.2 b.2.2⟩
theorem IW.sh (h : IW V n D on sn) {p : Nat} (hp : p < n) : (∀ i, i < D 0 p → on p i < p ∧ V 306 p i = nI (sn p i) ∧ sn p i ≤ 12) ∧ sm (fun k => sn p (k + 1)) (D 0 p - 1) ≤ 12 := by
  obtain ⟨-, -, -, -, -, -, -, -, f, g, o⟩ := h p hp
  refine ⟨fun i hi => ⟨o i hi, (f i hi).1, (f i hi).2.2.2⟩, ?_⟩
  by_cases z : D 0 p = 0
  · rw [z]
    exact Nat.zero_le _
  · have h1 := g (by omega)
    have h2 := sm_shift (sn p) (D 0 p - 1)
    rw [show D 0 p - 1 + 1 = D 0 p by omega] at h2
    omega
theorem IW.sum (h : IW V n D on sn) (hn : n ≤ 40) : sm (fun p => D 4 p * D 2 p) n ≤ 2000000 := by
  have h1 := sm_bound (f := fun p => D 4 p * D 2 p) (c := 31 * 999) n (fun k hk => (h.lw hk).2.2)
  have h2 : n * (31 * 999) ≤ 40 * (31 * 999) := Nat.mul_le_mul_right _ hn
  omega
/-- the class's loads are numbers -/
theorem IW.loads (h : IW V n D on sn) (hn : n ≤ 40) {m : Nat} (hm : m ≤ n) : ∃ M : Nat → Nat, (∀ q, q < n → (cW V (D 0) on n m).1 q = nI (M q)) ∧ ∀ q, q < n → M q ≤ 2000000 := by
  obtain ⟨M, h1, -, h3⟩ := wg_loads (pv := pvC) (ce := cenB V) (ar := arB V) (th := fun p => V 304 p 2) (w := fun p => D 4 p * D 2 p) (sn := sn) (fun p hp => (h.lw hp).1) (h.sum hn) (fun p hp => h.sh hp) m hm
  exact ⟨M, h1, fun q hq => Nat.le_trans (h3 q hq) (h.sum hn)⟩
theorem IW.eqs (h : IW V n D on sn) {p : Nat} (hp : p < n) : cLW V p = mLW V p ∧ cenB V p = mCe V p ∧ arB V p = mAr V p ∧ V 304 p 2 = V 1009 0 p ∧ ∀ i, i < D 0 p → V 306 p i = mSh V p i := by
  obtain ⟨a, a2, a3, b, c, d, e, f, g, g2, o⟩ := h p hp
  refine ⟨by rw [(h.lw hp).1, (h.lw hp).2.1], ?_, ?_, by rw [d.2.2.1, d.2.2.2.1], fun i hi => by unfold mSh; rw [(g i hi).1, (g i hi).2.1]⟩
  · unfold mCe
    rw [f]
    by_cases z : cenB V p = true
    · rw [bz_t z, z]
      rfl
    · rw [bz_f z]
      simpa using z
  · unfold arB mAr
    rw [← a, c.1, c.2.1]
    rcases a2 with z | z
    · rw [z]
      rfl
    · rw [z]
      have e1 : decide ((0 : Int32) < nI (D 4 p)) = !decide (nI (D 4 p) = 0) := by
        by_cases q : D 4 p = 0
        · rw [q]
          rfl
        · rw [decide_eq_true ((nI_pos0 (by omega)).mpr (by omega)), decide_eq_false (fun z => q ((nI_eq0 (by omega)).mp z))]
          rfl
      rw [e1]
      rfl
theorem IW.same (h : IW V n D on sn) (hn : n ≤ 40) : ∀ q, q < n → (cW V (D 0) on n n).1 q = (mW V (D 0) on n n).1 q ∧ (cW V (D 0) on n n).2 q = (mW V (D 0) on n n).2 q := by
  unfold cW mW
  refine wg_cong (fun p hp => h.eqs hp) (fun p hp => ?_) (fun m p hm hp ha hc => ?_) n (Nat.le_refl n)
  · obtain ⟨a, a2, a3, b, c, d, e, f, g, g2, o⟩ := h p hp
    exact ⟨o, fun z => a3 (by simp [arB] at z; exact z.1)⟩
  · obtain ⟨M, h1, h2⟩ := h.loads hn (m := m) (by omega)
    have hp2 : p < n := by omega
    obtain ⟨-, -, -, -, -, d, -⟩ := h p hp2
    have e1 := h1 p hp2
    unfold cW at e1
    rw [e1, d.2.2.1]
    have := pv_eq (h2 p hp2) d.2.2.2.2
    rw [this.1, this.2]
theorem IW.fall (h : IW V n D on sn) (hn : n ≤ 40) : cF V (D 0) on n = mF V (D 0) on n := by
  unfold cF mF
  refine fal_cong (fun p hp => ?_) n (Nat.le_refl n)
  obtain ⟨s1, s2⟩ := h.same hn p hp
  obtain ⟨a, a2, a3, b, c, d, e, f, g, g2, o⟩ := h p hp
  refine ⟨s1, s2, ?_, d.1, d.2.1, e⟩
  unfold bgB mBg
  rw [(h.eqs hp).2.1, c.1, c.2.1]
  congr 1
  by_cases q : D 4 p = 0
  · rw [q]
    rfl
  · rw [decide_eq_true ((nI_pos0 (by omega)).mpr (by omega)), decide_eq_false (fun z => q ((nI_eq0 (by omega)).mp z))]
    rfl
end Couple

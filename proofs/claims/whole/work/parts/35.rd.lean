/-! reading a text, without state -/
def updN (f : Nat → Nat) (k v : Nat) : Nat → Nat := fun j => if j = k then v else f j
theorem updN_s (f : Nat → Nat) (k v : Nat) : updN f k v k = v := if_pos rfl
theorem updN_n {f : Nat → Nat} {k v j : Nat} (h : j ≠ k) : updN f k v j = f j := if_neg h
def nv (tb : Nat → Nat) (a : Nat) : Nat → Nat
  | 0 => 0
  | k + 1 => 10 * nv tb a k + (tb (a + k) - 48)
def ncr (tl : Nat) (tb : Nat → Nat) (a k : Nat) : Nat → Nat
  | 0 => k
  | r + 1 => if a + k < tl ∧ 48 ≤ tb (a + k) ∧ tb (a + k) ≤ 57 then ncr tl tb a (k + 1) r else k
def nc (tl : Nat) (tb : Nat → Nat) (a : Nat) : Nat := ncr tl tb a 0 5
def lf (tl : Nat) (tb : Nat → Nat) (a : Nat) : Option (Nat × Nat) × Nat :=
  if tb a = 35 then (if a + 1 + nc tl tb (a + 1) < tl ∧ 2 ≤ nc tl tb (a + 1) ∧ tb (a + 1 + nc tl tb (a + 1)) = 32 then (some (a + 1 + nc tl tb (a + 1) + 1, 256 + nv tb (a + 1) (nc tl tb (a + 1))), 0) else (none, a + 1 + nc tl tb (a + 1)))
  else if 48 ≤ tb a ∧ tb a ≤ 57 then (some (a + 1, 256 + (tb a - 48)), 0)
  else if tb a ∈ kN then (some (a + 1, tb a), 0) else (none, a)
def csn (st : Nat → Nat) : Nat → Nat
  | 0 => 0
  | k + 1 => if st k ≤ 1 then csn st k else k + 1
def csd (st : Nat → Nat) (o : Nat) : Nat → Nat := fun k => if k + 1 = o then st k - 1 else st k
def rd (tl : Nat) (tb : Nat → Nat) : Nat → Nat → Nat → (Nat → Nat) → Nat → (Nat → Nat) → Option Nat × Nat × (Nat → Nat)
  | 0, _, _, _, c, f => (some tl, c, f)
  | r + 1, a, op, st, c, f => if a < tl then
      (if tb a ∈ kS then (if op = 20 then (some a, c, f) else rd tl tb r (a + 1) (op + 1) (updN st op (if tb a = 33 then 1 else 2)) (c + 1) (updN f c (tb a)))
       else match lf tl tb a with
        | (none, x) => (some x, c, f)
        | (some q, _) => if csn st op = 0 then (if q.1 = tl then (none, c + 1, updN f c q.2) else (some q.1, c + 1, updN f c q.2)) else rd tl tb r q.1 (csn st op) (csd st (csn st op)) (c + 1) (updN f c q.2))
     else (some tl, c, f)
theorem ncr_le (tl : Nat) (tb : Nat → Nat) (a : Nat) : ∀ r k, k ≤ ncr tl tb a k r ∧ ncr tl tb a k r ≤ k + r ∧ (a + k ≤ tl → a + ncr tl tb a k r ≤ tl)
  | 0, k => by
    unfold ncr
    exact ⟨Nat.le_refl _, by omega, id⟩
  | r + 1, k => by
    unfold ncr
    by_cases h : a + k < tl ∧ 48 ≤ tb (a + k) ∧ tb (a + k) ≤ 57
    · rw [if_pos h]
      obtain ⟨h1, h2, h3⟩ := ncr_le tl tb a r (k + 1)
      exact ⟨by omega, by omega, fun _ => h3 (by omega)⟩
    · rw [if_neg h]
      exact ⟨Nat.le_refl _, by omega, id⟩
theorem nc_le (tl : Nat) (tb : Nat → Nat) (a : Nat) : nc tl tb a ≤ 5 ∧ (a ≤ tl → a + nc tl tb a ≤ tl) := by
  obtain ⟨h1, h2, h3⟩ := ncr_le tl tb a 5 0
  exact ⟨h2, h3⟩
theorem ncr_d (tl : Nat) (tb : Nat → Nat) (a : Nat) : ∀ r k j, k ≤ j → j < ncr tl tb a k r → 48 ≤ tb (a + j) ∧ tb (a + j) ≤ 57
  | 0, k, j, h1, h2 => by
    unfold ncr at h2
    omega
  | r + 1, k, j, h1, h2 => by
    unfold ncr at h2
    by_cases h : a + k < tl ∧ 48 ≤ tb (a + k) ∧ tb (a + k) ≤ 57
    · rw [if_pos h] at h2
      by_cases e : j = k
      · subst e
        exact h.2
      · exact ncr_d tl tb a r (k + 1) j (by omega) h2
    · rw [if_neg h] at h2
      omega
theorem nv_lt {tb : Nat → Nat} {a : Nat} : ∀ k, (∀ j, j < k → 48 ≤ tb (a + j) ∧ tb (a + j) ≤ 57) → nv tb a k < 10 ^ k
  | 0, _ => by
    show 0 < 1
    decide
  | k + 1, h => by
    have h1 := nv_lt (tb := tb) (a := a) k (fun j hj => h j (by omega))
    have h2 := h k (by omega)
    unfold nv
    rw [Nat.pow_succ]
    omega
theorem nv_nc (tl : Nat) (tb : Nat → Nat) (a : Nat) : ∀ k, k ≤ nc tl tb a → nv tb a k < 100000 := by
  intro k hk
  have h1 := nv_lt (tb := tb) (a := a) k (fun j hj => ncr_d tl tb a 5 0 j (Nat.zero_le _) (by unfold nc at hk; omega))
  have h2 : (10 : Nat) ^ k ≤ 10 ^ 5 := Nat.pow_le_pow_right (by decide) (Nat.le_trans hk (nc_le tl tb a).1)
  have h3 : (10 : Nat) ^ 5 = 100000 := by decide
  omega
theorem lf_ok {tl : Nat} {tb : Nat → Nat} {a : Nat} {q : Nat × Nat} {x : Nat} (ha : a < tl) (h : lf tl tb a = (some q, x)) : a < q.1 ∧ q.1 ≤ tl ∧ okI q.2 ∧ ar q.2 = 0 := by
  unfold lf at h
  by_cases h1 : tb a = 35
  · rw [if_pos h1] at h
    by_cases h2 : a + 1 + nc tl tb (a + 1) < tl ∧ 2 ≤ nc tl tb (a + 1) ∧ tb (a + 1 + nc tl tb (a + 1)) = 32
    · rw [if_pos h2] at h
      cases h
      have := nv_nc tl tb (a + 1) _ (Nat.le_refl _)
      refine ⟨by omega, by omega, Or.inr (Or.inr ⟨by omega, by omega⟩), ?_⟩
      have e1 : ∀ v, ar (256 + v) = 0 := fun v => by
        unfold ar kS
        rw [if_neg (by omega), if_neg (by simp; omega)]
      exact e1 _
    · rw [if_neg h2] at h
      cases h
  · rw [if_neg h1] at h
    by_cases h2 : 48 ≤ tb a ∧ tb a ≤ 57
    · rw [if_pos h2] at h
      cases h
      refine ⟨by omega, by omega, Or.inr (Or.inr ⟨by omega, by omega⟩), ?_⟩
      have e1 : ∀ v, ar (256 + v) = 0 := fun v => by
        unfold ar kS
        rw [if_neg (by omega), if_neg (by simp; omega)]
      exact e1 _
    · rw [if_neg h2] at h
      by_cases h3 : tb a ∈ kN
      · rw [if_pos h3] at h
        cases h
        refine ⟨by omega, by omega, Or.inr (Or.inl h3), ?_⟩
        have : ∀ b, b ∈ kN → ar b = 0 := by decide
        exact this _ h3
      · rw [if_neg h3] at h
        cases h
theorem csn_le (st : Nat → Nat) : ∀ k, csn st k ≤ k
  | 0 => Nat.le_refl 0
  | k + 1 => by
    unfold csn
    split
    · exact Nat.le_trans (csn_le st k) (by omega)
    · exact Nat.le_refl _
theorem csn_sm (st : Nat → Nat) : ∀ k, sm (fun j => st j - 1) (csn st k) = sm (fun j => st j - 1) k
  | 0 => rfl
  | k + 1 => by
    unfold csn
    split
    · rename_i h
      rw [csn_sm st k, sm_s]
      show _ = _ + (st k - 1)
      omega
    · rfl
theorem csn_top (st : Nat → Nat) : ∀ k p, csn st k = p + 1 → 2 ≤ st p
  | 0, p, h => by
    unfold csn at h
    omega
  | k + 1, p, h => by
    unfold csn at h
    by_cases e : st k ≤ 1
    · rw [if_pos e] at h
      exact csn_top st k p h
    · rw [if_neg e] at h
      have : k = p := by omega
      subst this
      omega
theorem nd_cong {f g : Nat → Nat} : ∀ k, (∀ j, j < k → f j = g j) → nd f k = nd g k
  | 0, _ => rfl
  | k + 1, h => by
    unfold nd
    rw [nd_cong k (fun j hj => h j (by omega)), h k (by omega)]
theorem nd_s (f : Nat → Nat) (k : Nat) : nd f (k + 1) = nd f k + ar (f k) - 1 := rfl
def Rk (op : Nat) (st : Nat → Nat) (c : Nat) (f : Nat → Nat) : Prop := (∀ k, k < op → 1 ≤ st k ∧ st k ≤ 2) ∧ (∀ k, k < c → okI (f k) ∧ 1 ≤ nd f k) ∧ nd f c = 1 + sm (fun j => st j - 1) op
theorem Rk.it {op : Nat} {st : Nat → Nat} {c : Nat} {f : Nat → Nat} (h : Rk op st c f) {v : Nat} (hv : okI v) : (∀ k, k < c + 1 → okI (updN f c v k) ∧ 1 ≤ nd (updN f c v) k) ∧ nd (updN f c v) (c + 1) = sm (fun j => st j - 1) op + ar v := by
  have e : ∀ k, k ≤ c → nd (updN f c v) k = nd f k := fun k hk => nd_cong k (fun j hj => updN_n (by omega))
  refine ⟨fun k hk => ?_, ?_⟩
  · rw [e k (by omega)]
    by_cases z : k = c
    · subst z
      rw [updN_s, h.2.2]
      exact ⟨hv, by omega⟩
    · rw [updN_n z]
      exact h.2.1 k (by omega)
  · rw [nd_s, e c (Nat.le_refl _), h.2.2, updN_s]
    omega
theorem Rk.push {op : Nat} {st : Nat → Nat} {c : Nat} {f : Nat → Nat} (h : Rk op st c f) {b : Nat} (hb : b ∈ kS) : Rk (op + 1) (updN st op (if b = 33 then 1 else 2)) (c + 1) (updN f c b) := by
  obtain ⟨h1, h2⟩ := h.it (v := b) (Or.inl hb)
  refine ⟨fun k hk => ?_, h1, ?_⟩
  · by_cases z : k = op
    · subst z
      rw [updN_s]
      split <;> omega
    · rw [updN_n z]
      exact h.1 k (by omega)
  · have e2 : ∀ w, sm (fun j => updN st op w j - 1) op = sm (fun j => st j - 1) op := fun w => sm_cong op (fun k hk => by rw [updN_n (by omega)])
    rw [h2, sm_s, e2]
    show _ = 1 + (_ + (updN st op _ op - 1))
    rw [updN_s]
    unfold ar
    by_cases z : b = 33
    · rw [if_pos z, if_pos z]
      omega
    · rw [if_neg z, if_neg z, if_pos hb]
      omega
theorem Rk.leaf {op : Nat} {st : Nat → Nat} {c : Nat} {f : Nat → Nat} (h : Rk op st c f) {v : Nat} (hv : okI v) (ha : ar v = 0) (h0 : csn st op ≠ 0) : Rk (csn st op) (csd st (csn st op)) (c + 1) (updN f c v) := by
  obtain ⟨h1, h2⟩ := h.it hv
  obtain ⟨p, hp⟩ : ∃ p, csn st op = p + 1 := ⟨csn st op - 1, by omega⟩
  have hle := csn_le st op
  have htop := csn_top st op p hp
  have hst := h.1 p (by omega)
  have hsm := csn_sm st op
  rw [hp, sm_s] at hsm
  have hsm : sm (fun j => st j - 1) p + (st p - 1) = sm (fun j => st j - 1) op := hsm
  refine ⟨fun k hk => ?_, h1, ?_⟩
  · unfold csd
    have := h.1 k (by omega)
    split
    · have : k = p := by omega
      subst this
      omega
    · exact this
  · rw [h2, ha, hp, sm_s, sm_cong (g := fun j => st j - 1) p (fun k hk => by show csd st (p + 1) k - 1 = _; unfold csd; rw [if_neg (by omega)])]
    show _ = 1 + (_ + (csd st (p + 1) p - 1))
    unfold csd
    rw [if_pos rfl]
    omega
theorem rd_wt {tl : Nat} {tb : Nat → Nat} (htl : tl ≤ 100) : ∀ (r a op : Nat) (st : Nat → Nat) (c : Nat) (f : Nat → Nat) (c' : Nat) (f' : Nat → Nat), c ≤ a → a ≤ tl → Rk op st c f → rd tl tb r a op st c f = (none, c', f') → Wt f' c' := by
  intro r
  induction r with
  | zero =>
    intro a op st c f c' f' hca hal hR h
    unfold rd at h
    cases h
  | succ r ih =>
    intro a op st c f c' f' hca hal hR h
    unfold rd at h
    by_cases q : a < tl
    · rw [if_pos q] at h
      by_cases q2 : tb a ∈ kS
      · rw [if_pos q2] at h
        by_cases q3 : op = 20
        · rw [if_pos q3] at h
          cases h
        · rw [if_neg q3] at h
          exact ih _ _ _ _ _ _ _ (by omega) (by omega) (hR.push q2) h
      · rw [if_neg q2] at h
        cases e : lf tl tb a with
        | mk o x =>
          rw [e] at h
          cases o with
          | none => cases h
          | some y =>
            obtain ⟨z1, z2, z3, z4⟩ := lf_ok q e
            replace h : (if csn st op = 0 then (if y.1 = tl then ((none : Option Nat), c + 1, updN f c y.2) else (some y.1, c + 1, updN f c y.2)) else rd tl tb r y.1 (csn st op) (csd st (csn st op)) (c + 1) (updN f c y.2)) = (none, c', f') := h
            by_cases q4 : csn st op = 0
            · rw [if_pos q4] at h
              by_cases q5 : y.1 = tl
              · rw [if_pos q5] at h
                cases h
                obtain ⟨h1, h2⟩ := hR.it z3
                refine ⟨by omega, h1, ?_⟩
                have := csn_sm st op
                rw [q4, sm_0] at this
                rw [h2, z4]
                omega
              · rw [if_neg q5] at h
                cases h
            · rw [if_neg q4] at h
              exact ih _ _ _ _ _ _ _ (by omega) z2 (hR.leaf z3 z4 q4) h
    · rw [if_neg q] at h
      cases h

/-! small helps -/
theorem li (n : Nat) : (OfNat.ofNat n : Int32) = nI n := rfl
def bz (c : Prop) [Decidable c] : Int32 := if c then 1 else 0
theorem bz0 {c : Prop} [Decidable c] : bz c = (0 : Int32) ↔ ¬ c := by
  unfold bz
  split
  · simp_all
  · simp_all
theorem bz1 {c : Prop} [Decidable c] : bz c = (1 : Int32) ↔ c := by
  unfold bz
  split
  · simp_all
  · simp_all
theorem bz_t {c : Prop} [Decidable c] (h : c) : bz c = 1 := if_pos h
theorem bz_f {c : Prop} [Decidable c] (h : ¬ c) : bz c = 0 := if_neg h
theorem bz01 {c : Prop} [Decidable c] : bz c = (0 : Int32) ∨ bz c = (1 : Int32) := by
  unfold bz
  split
  · exact Or.inr rfl
  · exact Or.inl rfl
theorem nb_t {c A B : Prop} (h : ¬ c) (a : A) : (¬ c → A) ∧ (c → B) := ⟨fun _ => a, fun q => absurd q h⟩
theorem nb_f {c A B : Prop} (h : c) (b : B) : (¬ c → A) ∧ (c → B) := ⟨fun q => absurd h q, fun _ => b⟩
/-- Int32 by its Int -/
theorem i_lt {a b : Int32} : a < b ↔ a.toInt < b.toInt := Int32.lt_iff_toInt_lt
theorem i_le {a b : Int32} : a ≤ b ↔ a.toInt ≤ b.toInt := Int32.le_iff_toInt_le
theorem i_eq {a b : Int32} : a = b ↔ a.toInt = b.toInt := Int32.toInt_inj.symm
theorem nle_lt {a b : Int32} (h : ¬ a ≤ b) : b < a := by rw [i_le] at h; rw [i_lt]; omega
theorem nlt_le {a b : Int32} (h : ¬ a < b) : b ≤ a := by rw [i_lt] at h; rw [i_le]; omega
theorem lt_nle {a b : Int32} (h : b < a) : ¬ a ≤ b := by rw [i_lt] at h; rw [i_le]; omega
theorem le_nlt {a b : Int32} (h : b ≤ a) : ¬ a < b := by rw [i_le] at h; rw [i_lt]; omega
theorem cl {n : Nat} (h : n < 2 ^ 31) : (nI n).toNatClampNeg = n := nI_clamp h
theorem cl0 : (0 : Int32).toNatClampNeg = 0 := rfl
theorem cl1 : (1 : Int32).toNatClampNeg = 1 := rfl
theorem cl2 : (2 : Int32).toNatClampNeg = 2 := rfl
theorem cl3 : (3 : Int32).toNatClampNeg = 3 := rfl
theorem inI {n N : Nat} (h : n < N) (hN : N < 2 ^ 31) : vp_in (nI n) N := vp_in_nI h hN
theorem nI_sub1 {n : Nat} (h : 0 < n) : nI n - 1 = nI (n - 1) := by
  obtain ⟨k, rfl⟩ : ∃ k, n = k + 1 := ⟨n - 1, by omega⟩
  rw [nI_pred]
  rfl
theorem nI_m1 {n : Nat} : nI (n + 1) + (-1) = nI n := pk_m1 n
/-- where x is among the first n -/
theorem ix3 (x : Int32) {n : Nat} (hn : n < 2 ^ 31) : (x < 0 ∨ nI n ≤ x) ∨ ∃ j, j < n ∧ x = nI j := by
  rcases pk_ix x hn with h | h | h
  · exact Or.inl (Or.inl h)
  · exact Or.inl (Or.inr h)
  · exact Or.inr h
/-! what a world agrees in -/
def Of (S : List Nat) (V V' : Vt) : Prop := ∀ f, f ∉ S → V' f = V f
theorem Of.rf (S : List Nat) (V : Vt) : Of S V V := fun _ _ => rfl
theorem Of.tr {S : List Nat} {V V' V'' : Vt} (h : Of S V V') (h2 : Of S V' V'') : Of S V V'' := fun f hf => (h2 f hf).trans (h f hf)
theorem Of.up {S : List Nat} {V V' : Vt} {f i j : Nat} {v : Int32} (h : Of S V V') (hf : f ∈ S) : Of S V (up3 V' f i j v) := fun g hg => by
  rw [← h g hg]
  funext a b
  exact up3_f (fun e => hg (by rw [e]; exact hf))
theorem Of.fill {S : List Nat} {V V' : Vt} {f a b : Nat} {v : Int32} (h : Of S V V') (hf : f ∈ S) : Of S V (fillV V' f a b v) := fun g hg => by
  rw [← h g hg]
  funext i j
  unfold fillV
  rw [if_neg (fun q => hg (by rw [q.1]; exact hf))]
theorem Of.mono {S S' : List Nat} {V V' : Vt} (h : Of S V V') (hs : ∀ f, f ∈ S → f ∈ S') : Of S' V V' := fun f hf => h f (fun q => hf (hs f q))

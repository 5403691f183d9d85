/-! CLASS: what falls -/
theorem iabs_c (x : Int32) : (if (0 : Int32) ≤ x then x else (0 : Int32) - x) = iabs x := by
  unfold iabs
  by_cases h : (0 : Int32) ≤ x
  · rw [if_pos h, if_neg (le_nlt h)]
  · rw [if_neg h, if_pos (nle_lt h), Int32.zero_sub]
def bgB (V : Vt) (p : Nat) : Bool := decide (0 < V 310 p 0) && !cenB V p
/-- the least part of the class's plan that falls -/
def cF (V : Vt) (sc : Nat → Nat) (on : Nat → Nat → Nat) (n : Nat) : Int32 := fal (cW V sc on n n).1 (cW V sc on n n).2 (bgB V) (fun p => V 304 p 0) (fun p => V 304 p 1) (fun p => V 312 p 0) n n
section CFall
variable {l : Launch} {G : Gt} {E : Et} {V : Vt} {n : Nat} {sc : Nat → Nat} {on : Nat → Nat → Nat}
theorem least_loop {K : Int32 → Vt → Prop} (hE : Sg E) (hP : PC E V n sc on) : ∀ (r : Nat) (V1 : Vt), r ≤ n → Of [600, 601] V V1 → (∀ q, q < n → V1 600 0 q = (cW V sc on n n).1 q ∧ V1 601 0 q = (cW V sc on n n).2 q) → K (fal (cW V sc on n n).1 (cW V sc on n n).2 (bgB V) (fun p => V 304 p 0) (fun p => V 304 p 1) (fun p => V 312 p 0) n r) V1 → A_X5_leastFalling_7 l G E V1 (nI (n - r)) K := by
  have hn := hP.2.1
  intro r
  induction r with
  | zero =>
    intro V1 hr hO hW hK
    refine ok_X5_leastFalling_7 hE ?_
    unfold vc_X5_leastFalling_7
    rw [hO 405 (by decide), hP.1]
    exact br_t (nI_le (by omega) (by omega)) hK
  | succ r ih =>
    intro V1 hr hO hW hK
    have hP1 := hP.of hO (by decide) (by decide) (by decide) (by decide)
    obtain ⟨-, hl, -⟩ := hP.2.2 (n - (r + 1)) (by omega)
    obtain ⟨w1, w2⟩ := hW (n - (r + 1)) (by omega)
    refine ok_X5_leastFalling_7 hE ?_
    unfold vc_X5_leastFalling_7
    rw [hO 405 (by decide), hP.1]
    refine br_f (nI_ge (by omega) (by omega)) (sp_findp hE hP1 (by omega) ⟨fun q => (by cases q), fun t ht => ?_⟩)
    cases ht
    unfold fal at hK
    dsimp only at hK
    have hnx : nI (n - (r + 1)) + 1 = nI (n - r) := by rw [nI_1]; congr 1; omega
    refine ⟨hl, sp_begun hE hl ⟨fun q => ?_, fun q => ?_⟩⟩
    · rw [bz0, hO 310 (by decide)] at q
      rw [hnx]
      rw [if_neg (by simp [bgB, q])] at hK
      exact ih V1 (by omega) hO hW hK
    · rw [bz0, hO 310 (by decide)] at q
      have q := Decidable.not_not.mp q
      have hce : cenB V1 (n - (r + 1)) = cenB V (n - (r + 1)) := by
        unfold cenB
        rw [hO 300 (by decide), hO 310 (by decide), hO 313 (by decide)]
      refine sp_cent hE hl ⟨fun q2 => ?_, fun q2 => ?_⟩
      · rw [bz0, hce] at q2
        have q2 := Decidable.not_not.mp q2
        rw [hnx]
        rw [if_neg (by simp [bgB, q2])] at hK
        exact ih V1 (by omega) hO hW hK
      · rw [bz0, hce] at q2
        rw [if_pos (by simp [bgB, q2, q])] at hK
        refine ⟨inI (by omega) (by omega), inI (n := 0) (by decide) (by decide), ?_⟩
        rw [cl (by omega), cl0, cl1, w1, w2, hO 304 (by decide), hO 312 (by decide), iabs_c]
        refine ⟨fun q3 => ⟨inI (by omega) (by omega), inI (n := 1) (by decide) (by decide), inI (by omega) (by omega), fun q4 => ?_, fun q4 => ?_⟩, fun q3 => ?_⟩
        · rw [if_neg (le_nlt q3), if_neg (le_nlt q4)] at hK
          rw [hnx]
          exact ih V1 (by omega) hO hW hK
        · rw [if_neg (le_nlt q3), if_pos (nle_lt q4)] at hK
          rw [show nI (n - (r + 1)) + (100 : Int32) = nI (100 + (n - (r + 1))) from by rw [li 100, nI_add, Nat.add_comm]]
          exact hK
        · rw [if_pos (nle_lt q3)] at hK
          exact hK
theorem sp_least {K : Int32 → Vt → Prop} (hE : Sg E) (hP : PC E V n sc on) (hK : ∀ V', Of [600, 601] V V' → K (cF V sc on n) V') : C_X5_leastFalling l G E V K := by
  refine ok_X5_leastFalling hE ?_
  unfold vc_X5_leastFalling
  refine sp_weigh hE hP (fun V' hO hW => ?_)
  have h := least_loop (l := l) (G := G) (K := K) hE hP n V' (Nat.le_refl n) hO hW (hK V' hO)
  rw [Nat.sub_self] at h
  exact h
theorem sp_stands {K : Int32 → Vt → Prop} (hE : Sg E) (hP : PC E V n sc on) (hK : ∀ V', Of [600, 601] V V' → K (bz (cF V sc on n = -5)) V') : C_X8_stands l G E V K := by
  refine ok_X8_stands hE ?_
  unfold vc_X8_stands
  refine sp_least hE hP (fun V' hO => ⟨fun q => ?_, fun q => ?_⟩)
  · have h := hK V' hO
    rw [bz_f q] at h
    exact h
  · have h := hK V' hO
    rw [bz_t q] at h
    exact h
end CFall

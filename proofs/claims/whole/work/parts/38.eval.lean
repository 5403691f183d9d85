/-! what a text says -/
def jn (k : Nat) (a b : Int32) : Int32 := if k = 38 then bz (¬ a = 0 ∧ ¬ b = 0) else if k = 42 then a * b else if k = 43 then a + b else if k = 45 then a - b else if k = 60 then bz (a < b) else if k = 61 then bz (a = b) else if k = 62 then bz (b < a) else bz (¬ a = 0 ∨ ¬ b = 0)
def nix (k : Nat) : Nat := if k = 112 then 0 else if k = 107 then 1 else if k = 110 then 2 else if k = 119 then 3 else if k = 109 then 4 else if k = 121 then 5 else if k = 102 then 6 else 7
def vl (mn : Nat → Int32) (k : Nat) : Int32 := if 256 ≤ k then nI (k - 256) else mn (nix k)
def ev (mn : Nat → Int32) (tx : Nat → Nat) (N : Nat) : Nat → Nat → Int32
  | 0 => fun _ => 0
  | j + 1 => if ar (tx (N - 1 - j)) = 0 then upd (ev mn tx N j) (nd tx (N - j)) (vl mn (tx (N - 1 - j)))
    else if tx (N - 1 - j) = 33 then upd (ev mn tx N j) (nd tx (N - j) - 1) (bz (ev mn tx N j (nd tx (N - j) - 1) = 0))
    else upd (ev mn tx N j) (nd tx (N - j) - 2) (jn (tx (N - 1 - j)) (ev mn tx N j (nd tx (N - j) - 1)) (ev mn tx N j (nd tx (N - j) - 2)))
theorem ev_s (mn : Nat → Int32) (tx : Nat → Nat) {N m : Nat} (h : m < N) : ev mn tx N (N - m) = if ar (tx m) = 0 then upd (ev mn tx N (N - (m + 1))) (nd tx (m + 1)) (vl mn (tx m))
    else if tx m = 33 then upd (ev mn tx N (N - (m + 1))) (nd tx (m + 1) - 1) (bz (ev mn tx N (N - (m + 1)) (nd tx (m + 1) - 1) = 0))
    else upd (ev mn tx N (N - (m + 1))) (nd tx (m + 1) - 2) (jn (tx m) (ev mn tx N (N - (m + 1)) (nd tx (m + 1) - 1)) (ev mn tx N (N - (m + 1)) (nd tx (m + 1) - 2))) := by
  obtain ⟨j, hj⟩ : ∃ j, j = N - (m + 1) := ⟨_, rfl⟩
  rw [← hj, show N - m = j + 1 by omega]
  have e1 : N - 1 - j = m := by omega
  have e2 : N - j = m + 1 := by omega
  show (if ar (tx (N - 1 - j)) = 0 then upd (ev mn tx N j) (nd tx (N - j)) (vl mn (tx (N - 1 - j)))
    else if tx (N - 1 - j) = 33 then upd (ev mn tx N j) (nd tx (N - j) - 1) (bz (ev mn tx N j (nd tx (N - j) - 1) = 0))
    else upd (ev mn tx N j) (nd tx (N - j) - 2) (jn (tx (N - 1 - j)) (ev mn tx N j (nd tx (N - j) - 1)) (ev mn tx N j (nd tx (N - j) - 2)))) = _
  rw [e1, e2]
theorem Wt.st {tx : Nat → Nat} {N : Nat} (h : Wt tx N) {m : Nat} (hm : m < N) : nd tx (m + 1) + 1 = nd tx m + ar (tx m) ∧ ar (tx m) ≤ nd tx (m + 1) := by
  have := (h.2.1 m hm).2
  have e := nd_s tx m
  omega
theorem Wt.le {tx : Nat → Nat} {N : Nat} (h : Wt tx N) : ∀ j, j ≤ N → nd tx (N - j) ≤ j
  | 0, _ => by
    rw [Nat.sub_zero, h.2.2]
    exact Nat.le_refl 0
  | j + 1, hj => by
    have h1 := Wt.le h j (by omega)
    have h2 := h.st (m := N - (j + 1)) (by omega)
    rw [show N - (j + 1) + 1 = N - j by omega] at h2
    omega
theorem ar_S : ∀ k, k ∈ kS → (k = 33 → ar k = 1) ∧ (k ≠ 33 → ar k = 2) := by decide
theorem ar_not {k : Nat} (h : ¬ k ∈ kS) : ar k = 0 := by
  unfold ar
  rw [if_neg (fun e => h (by rw [e]; decide)), if_neg h]
theorem ng_k : ∀ k, k < 128 → 0 < k → (¬ (0 : Int32) ≤ -nI k) ∧ (-nI k < 0) ∧ -(-nI k) = nI k ∧ (-nI k = -33 ↔ k = 33) := by decide +kernel
theorem S_pos : ∀ k, k ∈ kS → 0 < k := by decide
theorem N_pos : ∀ k, k ∈ kN → 0 < k := by decide
theorem N_notS : ∀ k, k ∈ kN → ¬ k ∈ kS := by decide
theorem ix_nix : ∀ k, k ∈ kN → ixS 0 (nI k) = nI (nix k) ∧ nix k < 8 := by decide +kernel
theorem S_eq {x : Nat} (h : x ∈ kS) (hx : x ≠ 33) : x = 43 ∨ x = 45 ∨ x = 42 ∨ x = 60 ∨ x = 61 ∨ x = 62 ∨ x = 38 ∨ x = 124 := by
  simp only [kS, List.mem_cons, List.not_mem_nil, or_false] at h
  omega
theorem i_m1 (x : Int32) : x + (-1) = x - 1 := (Int32.sub_eq_add_neg x 1).symm
section Eval
variable {l : Launch} {G : Gt} {E : Et} {V : Vt}
theorem sp_cS {k : Nat} {K : Int32 → Vt → Prop} (hE : Sg E) (hk : okI k) (h : K (bz (k ∈ kS)) V) : C_X4_isSign l G E V (cI k) K := by
  refine ok_X4_isSign hE ?_
  unfold vc_X4_isSign
  by_cases q : 256 ≤ k
  · obtain ⟨v, rfl⟩ : ∃ v, k = 256 + v := ⟨k - 256, by omega⟩
    have hv : v < 100000 := by
      rcases hk with z | z | z
      · exact absurd (kS_lo _ z) (by omega)
      · exact absurd (kN_lo _ z) (by omega)
      · omega
    rw [cI_n]
    rw [bz_f (fun z => absurd (kS_lo _ z) (by omega))] at h
    exact br_t (nI_pos' (by omega)) h
  · have hp : k < 128 ∧ 0 < k := by
      rcases hk with z | z | z
      · exact ⟨kS_lo _ z, S_pos _ z⟩
      · exact ⟨kN_lo _ z, N_pos _ z⟩
      · omega
    obtain ⟨n1, n2, n3, n4⟩ := ng_k k hp.1 hp.2
    rw [cI_b (by omega), n3, ch_b k (by omega)]
    refine br_f n1 (sp_ix (by decide) ⟨fun z => ?_, fun z => ?_⟩)
    · rw [ix_S k (by omega)] at z
      rw [bz_f z] at h
      exact h
    · rw [ix_S k (by omega)] at z
      rw [bz_t (Decidable.not_not.mp z)] at h
      exact h
theorem sp_mean {k : Nat} {mn : Nat → Int32} {K : Int32 → Vt → Prop} (hE : Sg E) (hk : okI k) (hs : ¬ k ∈ kS) (hm : ∀ i, i < 8 → V 500 0 i = mn i) (h : K (vl mn k) V) : C_X4_meaningOf l G E V (cI k) K := by
  refine ok_X4_meaningOf hE ?_
  unfold vc_X4_meaningOf
  unfold vl at h
  by_cases q : 256 ≤ k
  · obtain ⟨v, rfl⟩ : ∃ v, k = 256 + v := ⟨k - 256, by omega⟩
    have hv : v < 100000 := by
      rcases hk with z | z | z
      · exact absurd (kS_lo _ z) (by omega)
      · exact absurd (kN_lo _ z) (by omega)
      · omega
    rw [if_pos q, Nat.add_sub_cancel_left] at h
    rw [cI_n]
    exact br_f (nI_pos (by omega)) h
  · have hN : k ∈ kN := by
      rcases hk with z | z | z
      · exact absurd z hs
      · exact z
      · omega
    rw [if_neg q] at h
    obtain ⟨n1, n2, n3, n4⟩ := ng_k k (kN_lo _ hN) (N_pos _ hN)
    obtain ⟨i1, i2⟩ := ix_nix k hN
    rw [cI_b (by omega), n3, ch_b k (by omega)]
    refine br_t n2 (sp_ix (by decide) ?_)
    rw [i1, cl (by omega), hm _ i2]
    exact br_t (nI_pos' (by omega)) ⟨inI i2 (by decide), h⟩
theorem sp_tr0 {K : Int32 → Vt → Prop} (hE : Sg E) (h : K 0 V) : C_X4_truth l G E V 0 K := by
  refine ok_X4_truth hE ?_
  unfold vc_X4_truth
  exact br_t rfl h
theorem sp_tr1 {K : Int32 → Vt → Prop} (hE : Sg E) (h : K 1 V) : C_X4_truth l G E V 1 K := by
  refine ok_X4_truth hE ?_
  unfold vc_X4_truth
  exact br_f (by decide) h
theorem sp_join {k : Nat} {a b : Int32} {K : Int32 → Vt → Prop} (hE : Sg E) (hk : k ∈ kS) (h33 : k ≠ 33) (h : K (jn k a b) V) : C_X4_join l G E V (nI k) a b K := by
  refine ok_X4_join hE ?_
  unfold vc_X4_join
  have b1 : ∀ {c : Prop} [Decidable c], c → K (bz c) V → K 1 V := fun hc hh => by rw [bz_t hc] at hh; exact hh
  have b0 : ∀ {c : Prop} [Decidable c], ¬ c → K (bz c) V → K 0 V := fun hc hh => by rw [bz_f hc] at hh; exact hh
  rcases S_eq hk h33 with rfl | rfl | rfl | rfl | rfl | rfl | rfl | rfl
  · exact ⟨fun z => absurd z (by decide), fun z => absurd z (by decide), fun _ => h, fun z => absurd z (by decide), fun z => absurd z (by decide), fun z => absurd z (by decide), fun z => absurd z (by decide), fun z => absurd z (by decide), fun z => absurd rfl z.2.2.1⟩
  · exact ⟨fun z => absurd z (by decide), fun z => absurd z (by decide), fun z => absurd z (by decide), fun _ => h, fun z => absurd z (by decide), fun z => absurd z (by decide), fun z => absurd z (by decide), fun z => absurd z (by decide), fun z => absurd rfl z.2.2.2.1⟩
  · exact ⟨fun z => absurd z (by decide), fun _ => h, fun z => absurd z (by decide), fun z => absurd z (by decide), fun z => absurd z (by decide), fun z => absurd z (by decide), fun z => absurd z (by decide), fun z => absurd z (by decide), fun z => absurd rfl z.2.1⟩
  · exact ⟨fun z => absurd z (by decide), fun z => absurd z (by decide), fun z => absurd z (by decide), fun z => absurd z (by decide), fun _ => ⟨fun y => sp_tr0 hE (b0 (le_nlt y) h), fun y => sp_tr1 hE (b1 (nle_lt y) h)⟩, fun z => absurd z (by decide), fun z => absurd z (by decide), fun z => absurd z (by decide), fun z => absurd rfl z.2.2.2.2.1⟩
  · exact ⟨fun z => absurd z (by decide), fun z => absurd z (by decide), fun z => absurd z (by decide), fun z => absurd z (by decide), fun z => absurd z (by decide), fun _ => ⟨fun y => sp_tr0 hE (b0 y h), fun y => sp_tr1 hE (b1 y h)⟩, fun z => absurd z (by decide), fun z => absurd z (by decide), fun z => absurd rfl z.2.2.2.2.2.1⟩
  · exact ⟨fun z => absurd z (by decide), fun z => absurd z (by decide), fun z => absurd z (by decide), fun z => absurd z (by decide), fun z => absurd z (by decide), fun z => absurd z (by decide), fun _ => ⟨fun y => sp_tr0 hE (b0 (le_nlt y) h), fun y => sp_tr1 hE (b1 (nle_lt y) h)⟩, fun z => absurd z (by decide), fun z => absurd rfl z.2.2.2.2.2.2.1⟩
  · exact ⟨fun _ => ⟨fun y => sp_tr0 hE (b0 (fun w => w.1 y) h), fun y => ⟨fun y2 => sp_tr0 hE (b0 (fun w => w.2 y2) h), fun y2 => sp_tr1 hE (b1 ⟨y, y2⟩ h)⟩⟩, fun z => absurd z (by decide), fun z => absurd z (by decide), fun z => absurd z (by decide), fun z => absurd z (by decide), fun z => absurd z (by decide), fun z => absurd z (by decide), fun z => absurd z (by decide), fun z => absurd rfl z.1⟩
  · exact ⟨fun z => absurd z (by decide), fun z => absurd z (by decide), fun z => absurd z (by decide), fun z => absurd z (by decide), fun z => absurd z (by decide), fun z => absurd z (by decide), fun z => absurd z (by decide), fun _ => ⟨fun y => sp_tr1 hE (b1 (Or.inl y) h), fun y => ⟨fun y2 => sp_tr0 hE (b0 (fun w => w.elim (fun p => p y) (fun p => p y2)) h), fun y2 => sp_tr1 hE (b1 (Or.inr y2) h)⟩⟩, fun z => absurd rfl z.2.2.2.2.2.2.2⟩
theorem sp_both {k : Nat} {a b : Int32} {K : Int32 → Vt → Prop} (hE : Sg E) (hk : k ∈ kS) (h33 : k ≠ 33) (h : K (jn k a b) V) : C_X9_both l G E V (nI k) a b K := by
  refine ok_X9_both hE ?_
  unfold vc_X9_both
  have b1 : ∀ {c : Prop} [Decidable c], c → K (bz c) V → K 1 V := fun hc hh => by rw [bz_t hc] at hh; exact hh
  have b0 : ∀ {c : Prop} [Decidable c], ¬ c → K (bz c) V → K 0 V := fun hc hh => by rw [bz_f hc] at hh; exact hh
  rcases S_eq hk h33 with rfl | rfl | rfl | rfl | rfl | rfl | rfl | rfl
  · exact ⟨fun z => absurd z (by decide), fun z => absurd z (by decide), fun _ => h, fun z => absurd z (by decide), fun z => absurd z (by decide), fun z => absurd z (by decide), fun z => absurd z (by decide), fun z => absurd rfl z.2.2.1⟩
  · exact ⟨fun z => absurd z (by decide), fun z => absurd z (by decide), fun z => absurd z (by decide), fun _ => h, fun z => absurd z (by decide), fun z => absurd z (by decide), fun z => absurd z (by decide), fun z => absurd rfl z.2.2.2.1⟩
  · exact ⟨fun z => absurd z (by decide), fun _ => h, fun z => absurd z (by decide), fun z => absurd z (by decide), fun z => absurd z (by decide), fun z => absurd z (by decide), fun z => absurd z (by decide), fun z => absurd rfl z.2.1⟩
  · exact ⟨fun z => absurd z (by decide), fun z => absurd z (by decide), fun z => absurd z (by decide), fun z => absurd z (by decide), fun _ => ⟨fun y => b0 (le_nlt y) h, fun y => b1 (nle_lt y) h⟩, fun z => absurd z (by decide), fun z => absurd z (by decide), fun z => absurd rfl z.2.2.2.2.1⟩
  · exact ⟨fun z => absurd z (by decide), fun z => absurd z (by decide), fun z => absurd z (by decide), fun z => absurd z (by decide), fun z => absurd z (by decide), fun _ => ⟨fun y => b0 y h, fun y => b1 y h⟩, fun z => absurd z (by decide), fun z => absurd rfl z.2.2.2.2.2.1⟩
  · exact ⟨fun z => absurd z (by decide), fun z => absurd z (by decide), fun z => absurd z (by decide), fun z => absurd z (by decide), fun z => absurd z (by decide), fun z => absurd z (by decide), fun _ => ⟨fun y => b0 (le_nlt y) h, fun y => b1 (nle_lt y) h⟩, fun z => absurd rfl z.2.2.2.2.2.2⟩
  · exact ⟨fun _ => ⟨fun y => b0 (fun w => w.1 y) h, fun y => ⟨fun y2 => b0 (fun w => w.2 y2) h, fun y2 => b1 ⟨y, y2⟩ h⟩⟩, fun z => absurd z (by decide), fun z => absurd z (by decide), fun z => absurd z (by decide), fun z => absurd z (by decide), fun z => absurd z (by decide), fun z => absurd z (by decide), fun z => absurd rfl z.1⟩
  · exact ⟨fun z => absurd z (by decide), fun z => absurd z (by decide), fun z => absurd z (by decide), fun z => absurd z (by decide), fun z => absurd z (by decide), fun z => absurd z (by decide), fun z => absurd z (by decide), fun _ => ⟨fun y => b1 (Or.inl y) h, fun y => ⟨fun y2 => b0 (fun w => w.elim (fun p => p y) (fun p => p y2)) h, fun y2 => b1 (Or.inr y2) h⟩⟩⟩
theorem sp_val {t N : Nat} {tx : Nat → Nat} {mn : Nat → Int32} {K : Int32 → Vt → Prop} (hE : Sg E) (hW : Wt tx N) (hL : eL E 7 t) (hN : eN E 800 t = N) (hx : ∀ j, j < N → V 800 t j = cI (tx j)) (hm : ∀ i, i < 8 → V 500 0 i = mn i) (h : ∀ V', Of [501] V V' → K (ev mn tx N N 0) V') : C_X4_valueOf l G E V (some t) K := by
  have hN100 := hW.1
  have loop : ∀ (m : Nat) (V1 : Vt), m ≤ N → Of [501] V V1 → (∀ k, k < nd tx m → V1 501 0 k = ev mn tx N (N - m) k) → A_X4_valueOf_16 l G E V1 t (nI (nd tx m)) (nI m - 1) K := by
    intro m
    induction m with
    | zero =>
      intro V1 hm' hO e
      refine ok_X4_valueOf_16 hE hL ?_
      unfold vc_X4_valueOf_16
      have n0 : nd tx 0 = 1 := rfl
      rw [n0, nI_pred, cl (by decide)]
      refine br_t (by decide) (br_f (by decide) ⟨inI (by decide) (by decide), ?_⟩)
      have e1 := e 0 (show 0 < 1 by decide)
      rw [Nat.sub_zero] at e1
      rw [e1]
      exact h V1 hO
    | succ m ih =>
      intro V1 hm' hO e
      obtain ⟨w1, w2⟩ := hW.st (m := m) (by omega)
      have hk := (hW.2.1 m (by omega)).1
      have hb : nd tx (m + 1) ≤ N - (m + 1) := by
        have := hW.le (N - (m + 1)) (by omega)
        rw [show N - (N - (m + 1)) = m + 1 by omega] at this
        exact this
      have ex := hx m (by omega)
      have hO8 : V1 800 = V 800 := hO 800 (by decide)
      refine ok_X4_valueOf_16 hE hL ?_
      unfold vc_X4_valueOf_16
      rw [nI_pred, cl (by omega), hO8, ex, hN]
      refine br_f (nI_pos (by omega)) ⟨inI (by omega) (by omega), sp_cS hE hk ?_⟩
      rw [i_m1 (nI m)]
      have hev := ev_s mn tx (N := N) (m := m) (by omega)
      refine ⟨fun z => ?_, fun z => ?_⟩
      · rw [bz0] at z
        have z := Decidable.not_not.mp z
        obtain ⟨n1, n2, n3, n4⟩ := ng_k (tx m) (kS_lo _ z) (S_pos _ z)
        obtain ⟨a1, a2⟩ := ar_S _ z
        rw [cI_b (by have := kS_lo _ z; omega), n3, n4]
        refine ⟨fun y => ?_, fun y => ?_⟩
        · have a2 := a2 y
          rw [if_neg (by omega), if_neg y] at hev
          have hnd : nd tx (m + 1) = nd tx m + 1 := by omega
          obtain ⟨d, hd⟩ : ∃ d, nd tx m = d + 1 := ⟨nd tx m - 1, by omega⟩
          rw [hnd, hd] at e hev
          rw [hnd, hd, nI_m1, nI_pred, cl (by omega), cl (by omega), e d (by omega), e (d + 1) (by omega)]
          have i1 : vp_in (nI (d + 1)) 100 := inI (by omega) (by decide)
          have i2 : vp_in (nI d) 100 := inI (by omega) (by decide)
          refine br_f (nI_nlt (a := d + 1 + 1) (b := 2) (by omega) (by omega)) ⟨i1, i2, sp_join hE z y ⟨i2, ?_⟩⟩
          rw [hd] at ih
          refine ih _ (by omega) (hO.up (by decide)) (fun k hk => ?_)
          rw [hev]
          by_cases e2 : k = d
          · subst e2
            rw [up3_s, show k + 1 + 1 - 2 = k by omega, show k + 1 + 1 - 1 = k + 1 by omega]
            exact pk_us.symm
          · rw [up3_j e2, e k (by omega)]
            exact (pk_un (by omega)).symm
        · have a1 := a1 y
          rw [if_neg (by omega), if_pos y] at hev
          obtain ⟨d, hd⟩ : ∃ d, nd tx m = d + 1 := ⟨nd tx m - 1, by have := (hW.2.1 m (by omega)).2; omega⟩
          have hnd : nd tx (m + 1) = d + 1 := by omega
          rw [hnd] at e hev
          rw [hnd, nI_pred, cl (by omega), e d (by omega)]
          have i2 : vp_in (nI d) 100 := inI (by omega) (by decide)
          have go : ∀ v, v = bz (ev mn tx N (N - (m + 1)) d = 0) → A_X4_valueOf_16 l G E (up3 V1 501 0 d v) t (nI (d + 1)) (nI m - 1) K := by
            intro v hv
            rw [hd] at ih
            refine ih _ (by omega) (hO.up (by decide)) (fun k hk => ?_)
            rw [hev]
            by_cases e2 : k = d
            · subst e2
              rw [up3_s, show k + 1 - 1 = k by omega, hv]
              exact pk_us.symm
            · rw [up3_j e2, e k (by omega)]
              exact (pk_un (by omega)).symm
          refine br_f (nI_nlt (a := d + 1) (b := 1) (by omega) (by omega)) ⟨i2, fun y2 => sp_tr0 hE ⟨i2, go _ (bz_f y2).symm⟩, fun y2 => sp_tr1 hE ⟨i2, go _ (bz_t y2).symm⟩⟩
      · rw [bz0] at z
        have a0 := ar_not z
        rw [if_pos a0] at hev
        refine br_f (nI_ge (a := nd tx (m + 1)) (b := 100) (by omega) (by decide)) (sp_mean (mn := mn) hE hk z (fun i hi => by rw [hO 500 (by decide)]; exact hm i hi) ⟨inI (by omega) (by decide), ?_⟩)
        rw [cl (by omega), nI_1, show nd tx (m + 1) + 1 = nd tx m by omega]
        refine ih _ (by omega) (hO.up (by decide)) (fun k hk => ?_)
        rw [hev]
        by_cases e2 : k = nd tx (m + 1)
        · rw [e2, up3_s]
          exact pk_us.symm
        · rw [up3_j e2, e k (by omega)]
          exact (pk_un (by omega)).symm
  refine ok_X4_valueOf hE ?_
  unfold vc_X4_valueOf
  refine ⟨fun z => (by cases z), fun t' ht => ?_⟩
  cases ht
  refine ⟨hL, ?_⟩
  rw [hN]
  have := loop N V (Nat.le_refl _) (Of.rf _ _) (fun k hk => by rw [hW.2.2] at hk; omega)
  rw [hW.2.2] at this
  exact this
def MNm (l : Launch) (G : Gt) (E : Et) (V : Vt) (x2 : Int32) (mn : Nat → Int32) : Prop := ∀ V1, Of [1037] V V1 → ∀ k, k ∈ kN → ∀ K : Int32 → Vt → Prop, K (mn (nix k)) V1 → C_X9_named l G E V1 (nI k) x2 K
theorem sp_says {t N o : Nat} {x2 : Int32} {tx : Nat → Nat} {mn : Nat → Int32} {K : Int32 → Vt → Prop} (hE : Sg E) (hW : Wt tx N) (ht : t < 50) (h0 : V 1033 0 t = nI o) (h1 : V 1033 0 (t + 1) = nI (o + N)) (ho : o + N ≤ 5100) (hx : ∀ j, j < N → V 1034 0 (o + j) = mI (tx j)) (hm : MNm l G E V x2 mn) (h : ∀ V', Of [1037] V V' → K (ev mn tx N N 0) V') : C_X9_says l G E V (nI t) x2 K := by
  have hN100 := hW.1
  have loop : ∀ (m : Nat) (V1 : Vt), m ≤ N → Of [1037] V V1 → (∀ k, k < nd tx m → V1 1037 0 k = ev mn tx N (N - m) k) → A_X9_says_14 l G E V1 (nI t) x2 (nI (nd tx m)) (nI (o + m) - 1) K := by
    intro m
    induction m with
    | zero =>
      intro V1 hm' hO e
      refine ok_X9_says_14 hE ?_
      unfold vc_X9_says_14
      rw [cl (by omega), hO 1033 (by decide), h0]
      refine ⟨inI (by omega) (by decide), br_t ?_ ⟨inI (n := 0) (by decide) (by decide), ?_⟩⟩
      · show nI o - 1 < nI o
        rcases Nat.eq_zero_or_pos o with z | z
        · rw [z]
          decide
        · rw [nI_sub1 z]
          exact nI_lt (by omega) (by omega)
      · have e1 := e 0 (show 0 < 1 by decide)
        rw [Nat.sub_zero] at e1
        rw [cl0, e1]
        exact h V1 hO
    | succ m ih =>
      intro V1 hm' hO e
      obtain ⟨w1, w2⟩ := hW.st (m := m) (by omega)
      have hk := (hW.2.1 m (by omega)).1
      have hb : nd tx (m + 1) ≤ N - (m + 1) := by
        have := hW.le (N - (m + 1)) (by omega)
        rw [show N - (N - (m + 1)) = m + 1 by omega] at this
        exact this
      have ex := hx m (by omega)
      have hO8 : V1 1034 = V 1034 := hO 1034 (by decide)
      have hev := ev_s mn tx (N := N) (m := m) (by omega)
      refine ok_X9_says_14 hE ?_
      unfold vc_X9_says_14
      rw [show nI (o + (m + 1)) - 1 = nI (o + m) from nI_pred _, cl (by omega), hO 1033 (by decide), h0, cl (by omega), hO8, ex, i_m1 (nI (o + m))]
      refine ⟨inI (by omega) (by decide), br_f (nI_nlt (by omega) (by omega)) ⟨inI (by omega) (by decide), ?_⟩⟩
      -- a leaf of value v
      have leaf : ∀ v (V2 : Vt), ¬ tx m ∈ kS → V2 = V1 → v = vl mn (tx m) → A_X9_says_14 l G E (up3 V2 1037 0 (nI (nd tx (m + 1))).toNatClampNeg v) (nI t) x2 (nI (nd tx (m + 1)) + 1) (nI (o + m) - 1) K := by
        intro v V2 z hV2 hv
        subst hV2
        rw [if_pos (ar_not z)] at hev
        have a0 := ar_not z
        rw [cl (by omega), nI_1, show nd tx (m + 1) + 1 = nd tx m by omega]
        refine ih _ (by omega) (hO.up (by decide)) (fun k hk => ?_)
        rw [hev]
        by_cases e2 : k = nd tx (m + 1)
        · rw [e2, up3_s, hv]
          exact pk_us.symm
        · rw [up3_j e2, e k (by omega)]
          exact (pk_un (by omega)).symm
      by_cases q : 256 ≤ tx m
      · obtain ⟨v, hv⟩ : ∃ v, tx m = 256 + v := ⟨tx m - 256, by omega⟩
        have hv1 : v < 100000 := by
          rcases hk with z | z | z
          · exact absurd (kS_lo _ z) (by omega)
          · exact absurd (kN_lo _ z) (by omega)
          · omega
        have nS : ¬ tx m ∈ kS := fun z => absurd (kS_lo _ z) (by omega)
        have hneg : (-1 : Int32) - nI v < 0 := by
          rw [i_lt, Int32.toInt_sub]
          rw [show ((-1 : Int32).toInt - (nI v).toInt) = -1 - (v : Int) by rw [nI_toInt (by omega)]; rfl]
          have e0 : (0 : Int32).toInt = 0 := by decide
          rw [e0, Int.bmod_eq_of_le (by omega) (by omega)]
          omega
        have em : mI (tx m) = -1 - nI v := by rw [hv, mI_n]
        rw [em]
        refine br_t hneg (br_f (lt_nle hneg) ⟨inI (by omega) (by decide), ?_⟩)
        rw [i_sss]
        refine leaf _ _ nS rfl ?_
        unfold vl
        rw [if_pos q, hv, Nat.add_sub_cancel_left]
      · have hp : tx m < 128 := by
          rcases hk with z | z | z
          · exact kS_lo _ z
          · exact kN_lo _ z
          · omega
        rw [mI_b (by omega)]
        refine br_f (nI_pos (by omega)) (sp_mName (b := tx m) hE (fun k hk => nI_eq (by omega) (by omega)) ⟨fun z => ?_, fun z => ?_⟩)
        · rw [bz0] at z
          have zS : tx m ∈ kS := by
            rcases hk with y | y | y
            · exact y
            · exact absurd y z
            · omega
          obtain ⟨a1, a2⟩ := ar_S _ zS
          rw [li 33, nI_eq (by omega) (by decide)]
          refine ⟨fun y => ?_, fun y => ?_⟩
          · have a2 := a2 y
            rw [if_neg (by omega), if_neg y] at hev
            have hnd : nd tx (m + 1) = nd tx m + 1 := by omega
            obtain ⟨d, hd⟩ : ∃ d, nd tx m = d + 1 := ⟨nd tx m - 1, by omega⟩
            rw [hnd, hd] at e hev
            rw [hnd, hd, nI_m1, nI_pred, cl (by omega), cl (by omega), e d (by omega), e (d + 1) (by omega)]
            have i1 : vp_in (nI (d + 1)) 100 := inI (by omega) (by decide)
            have i2 : vp_in (nI d) 100 := inI (by omega) (by decide)
            refine ⟨i1, i2, sp_both hE zS y ⟨i2, ?_⟩⟩
            rw [hd] at ih
            refine ih _ (by omega) (hO.up (by decide)) (fun k hk => ?_)
            rw [hev]
            by_cases e2 : k = d
            · subst e2
              rw [up3_s, show k + 1 + 1 - 2 = k by omega, show k + 1 + 1 - 1 = k + 1 by omega]
              exact pk_us.symm
            · rw [up3_j e2, e k (by omega)]
              exact (pk_un (by omega)).symm
          · have a1 := a1 y
            rw [if_neg (by omega), if_pos y] at hev
            obtain ⟨d, hd⟩ : ∃ d, nd tx m = d + 1 := ⟨nd tx m - 1, by have := (hW.2.1 m (by omega)).2; omega⟩
            have hnd : nd tx (m + 1) = d + 1 := by omega
            rw [hnd] at e hev
            rw [hnd, nI_pred, cl (by omega), e d (by omega)]
            have i2 : vp_in (nI d) 100 := inI (by omega) (by decide)
            have go : ∀ v, v = bz (ev mn tx N (N - (m + 1)) d = 0) → A_X9_says_14 l G E (up3 V1 1037 0 d v) (nI t) x2 (nI (d + 1)) (nI (o + m) - 1) K := by
              intro v hv
              rw [hd] at ih
              refine ih _ (by omega) (hO.up (by decide)) (fun k hk => ?_)
              rw [hev]
              by_cases e2 : k = d
              · subst e2
                rw [up3_s, show k + 1 - 1 = k by omega, hv]
                exact pk_us.symm
              · rw [up3_j e2, e k (by omega)]
                exact (pk_un (by omega)).symm
            exact ⟨i2, fun y2 => ⟨i2, go _ (bz_f y2).symm⟩, fun y2 => ⟨i2, go _ (bz_t y2).symm⟩⟩
        · rw [bz0] at z
          have z := Decidable.not_not.mp z
          refine br_t (nI_pos' (by omega)) (hm V1 hO _ z _ ⟨inI (by omega) (by decide), ?_⟩)
          refine leaf _ _ (N_notS _ z) rfl ?_
          unfold vl
          rw [if_neg q]
  refine ok_X9_says hE ?_
  unfold vc_X9_says
  rw [nI_1, cl (by omega), h1]
  refine ⟨inI (by omega) (by decide), ?_⟩
  have := loop N V (Nat.le_refl _) (Of.rf _ _) (fun k hk => by rw [hW.2.2] at hk; omega)
  rw [hW.2.2] at this
  exact this
end Eval

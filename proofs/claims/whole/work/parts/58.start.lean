/-! the names of the two new objects, and what holds at the loop's start -/
def aIds : List Nat := (8 :: LL8) ++ (9 :: LX9)
def sE (b : Nat → Nat) : Et := (fun id _ => b id, fun c i => c ∈ ([0, 3, 4, 5, 6, 8, 9] : List Nat) ∧ i = 0, fun f _ => alen f, fun _ _ => none)
def sV : Vt := fun _ _ _ => 0
def E00 : Et := (fun _ _ => 0, fun _ _ => False, fun f _ => alen f, fun _ _ => none)
theorem fval_z (b : Nat → Nat) (c k : Nat) : ∀ kd, fval (sE b) sV c 0 k kd = zv b c k kd
  | 0 => rfl
  | 1 => rfl
  | 2 => rfl
  | 3 => rfl
  | 4 => rfl
  | 5 => rfl
  | 6 => rfl
  | 7 => rfl
  | 8 => rfl
  | n + 9 => rfl
theorem fvs_z (b : Nat → Nat) (c : Nat) : ∀ (l : List Nat) (k : Nat), fvs (sE b) sV c 0 k l = zs b c k l
  | [], k => rfl
  | kd :: t, k => by
    show fval (sE b) sV c 0 k kd :: fvs (sE b) sV c 0 (k + 1) t = zv b c k kd :: zs b c (k + 1) t
    rw [fval_z, fvs_z b c t (k + 1)]
theorem arC_z (G : Gt) (b : Nat → Nat) (id : Nat) : arC G (sE b) sV id 0 (kdo id) = zc G id := by
  unfold zc
  generalize kdo id = kd
  match kd with
  | 0 => rfl
  | 1 => rfl
  | 2 => rfl
  | 3 => rfl
  | 4 => rfl
  | 5 => rfl
  | n + 6 => rfl
theorem cell_z (G : Gt) (b : Nat → Nat) (id : Nat) : cellOf G (sE b) sV id 0 = zcell G b id := by
  unfold cellOf zcell obF
  rw [fvs_z, arC_z]
theorem aIds_all : ∀ c, c ∈ ([0, 3, 4, 5, 6, 8, 9] : List Nat) → ∀ k, k < 60 → 1 ≤ (fkl c).getD k 0 → (fkl c).getD k 0 ≤ 6 → 100 * (c + 1) + k ∈ aIds := by decide +kernel
theorem Lv_s {b : Nat → Nat} {id i : Nat} (h : Lv (sE b) id i) : i = 0 ∧ id ∈ aIds := by
  unfold Lv at h
  split at h
  · obtain ⟨h1, h2⟩ : id ∈ ([0, 3, 4, 5, 6, 8, 9] : List Nat) ∧ i = 0 := h
    exact ⟨h2, (show ∀ c, c ∈ ([0, 3, 4, 5, 6, 8, 9] : List Nat) → c ∈ aIds by decide) id h1⟩
  · rename_i hid
    obtain ⟨h1, h2, h3, h4⟩ : 1 ≤ kdo id ∧ kdo id ≤ 6 ∧ (id / 100 - 1) ∈ ([0, 3, 4, 5, 6, 8, 9] : List Nat) ∧ i = 0 := h
    refine ⟨h4, ?_⟩
    have hk : id % 100 < 60 := by
      refine Decidable.byContradiction (fun z => ?_)
      unfold kdo at h1
      have hl := fkl_len (id / 100 - 1)
      rw [List.getD_eq_getElem?_getD, List.getElem?_eq_none (by omega)] at h1
      exact absurd h1 (by decide)
    have := aIds_all _ h3 _ hk h1 h2
    rw [show 100 * (id / 100 - 1 + 1) + id % 100 = id by omega] at this
    exact this
theorem RepH.start {G : Gt} {b : Nat → Nat} {H : Heap} (h : RepH G E00 sV H) (hX : Ex G E00 (aIds.map (fun id => (b id, zcell G b id))) H) : RepH G (sE b) sV H := by
  obtain ⟨x1, x2, x3⟩ := hX
  have key : ∀ id i, Lv (sE b) id i → i = 0 ∧ ∃ k, aIds[k]? = some id ∧ (aIds.map (fun id => (b id, zcell G b id)))[k]? = some (b id, zcell G b id) := fun id i hl => by
    obtain ⟨h1, h2⟩ := Lv_s hl
    obtain ⟨k, hk⟩ := List.getElem?_of_mem h2
    exact ⟨h1, k, hk, by rw [List.getElem?_map, hk]; rfl⟩
  refine ⟨h.1, fun id i hl => ?_, fun id i id' i' h1 h2 e => ?_⟩
  · obtain ⟨rfl, k, k1, k2⟩ := key id i hl
    refine ⟨x2.2 k _ k2, ?_⟩
    rw [cell_z]
    exact x1 k _ k2
  · obtain ⟨rfl, k, k1, k2⟩ := key id i h1
    obtain ⟨rfl, j, j1, j2⟩ := key id' i' h2
    have := x2.1 k j _ _ k2 j2 e
    subst this
    rw [k1] at j1
    exact ⟨Option.some.inj j1, rfl⟩
theorem INV_start (b : Nat → Nat) : INV (sE b) sV := by
  refine ⟨0, 0, 0, 0, 0, 0, 0, 0, fun _ _ => 0, fun _ _ => 0, fun _ _ => 0, fun _ _ => 0, fun _ _ => 0, fun _ => 0, fun _ => 0, fun _ => 0, fun _ => 0, fun _ => 0, ⟨⟨?_, ?_⟩, ?_, ?_, ?_, ?_, ?_⟩, ⟨⟨rfl, by decide, fun p hp => absurd hp (Nat.not_lt_zero _)⟩, ⟨rfl, by decide, fun p hp => absurd hp (Nat.not_lt_zero _)⟩, fun p hp => absurd hp (Nat.not_lt_zero _)⟩, rfl, ⟨rfl, rfl, by decide, fun e h1 h2 => by omega, fun p hp => absurd hp (Nat.not_lt_zero _)⟩, ⟨rfl, rfl, by decide, rfl, rfl, by decide, fun y hy => ⟨rfl, Nat.le_of_ble_eq_true rfl⟩, fun k hk => ?_, rfl, rfl⟩, ⟨fun p hp => absurd hp (Nat.not_lt_zero _), fun p k h1 h2 h3 => rfl⟩, ⟨rfl, rfl, by decide, fun j hj => absurd hj (Nat.not_lt_zero _)⟩, ⟨rfl, by decide, fun t ht => ?_, fun t ht => absurd ht (Nat.not_lt_zero _)⟩, ⟨rfl, rfl, by decide, fun t ht => absurd ht (Nat.not_lt_zero _)⟩, ⟨rfl, rfl, by decide, fun t ht => absurd ht (Nat.not_lt_zero _)⟩, by decide⟩
  · exact fun c hc => ⟨(show ∀ c, c ∈ ([0, 3, 4, 5, 6, 8, 9] : List Nat) → c ∈ ([0, 3, 4, 5, 6, 8, 9] : List Nat) from fun _ h => h) c hc, rfl⟩
  · exact fun f i _ => rfl
  · exact fun id j t h => by cases h
  · exact fun c hc i h => h.2
  · exact fun p => ⟨fun h => absurd h.1 (by decide), fun h => absurd h (Nat.not_lt_zero _)⟩
  · exact fun p => ⟨fun h => absurd h.1 (by decide), fun h => absurd h (Nat.not_lt_zero _)⟩
  · exact fun p => ⟨fun h => absurd h.1 (by decide), fun h => absurd h (Nat.not_lt_zero _)⟩
  · show (0 : Int32) = bz ((0 : Nat).testBit (k % 12) = true)
    rw [bz_f (by simp)]
  · have : t = 0 := by omega
    subst this
    rfl
theorem ws_start (G : Gt) (b1 b2 : Nat → Nat) : ([] ++ (8 :: LL8).map (fun id => (b1 id, zcell G b1 id))) ++ zW G b2 9 LX9 = aIds.map (fun id => ((fun id => if cid id = 9 then b2 id else b1 id) id, zcell G (fun id => if cid id = 9 then b2 id else b1 id) id)) := by
  rfl
section LStart
variable {l : Launch} {G : Gt} {bs Ls : Nat} {xs : Nat → Int32}
theorem law_start (hL : Ls ≤ 3072) : EvX (fun s => va_X bs Ls xs s (gB G) ∧ bs < (gB G).size) l G RL cL_law 4 LR room_1 E00 0 0 sV [] 0 [(0, .ref bs)] [] Qone := by
  refine x_new tyX8 dL_law_0 (ci := 8) rfl uw_X8 tyX8_ok kw_RL_7 ki_X8 mi_X8_init.2.2 (dF rfl) (by decide) (by decide) (fun q8 => ?_)
  refine x_dup dL_law_3 rfl ?_
  refine x_init (w2 := []) (rY := rm_X8_init) (As := []) (rest := [.ref q8]) dL_law_4 mi_X8_init rfl (by decide +kernel) ml_RL_9 (by decide) (by decide) rfl rfl (Nat.le_of_ble_eq_true rfl) (fun sz => ct_X8_init) (fun w hw => ?_)
  obtain ⟨b1, hb1, rfl⟩ := hw
  refine x_astore_n dL_law_7 (by decide) (rl_ref _) ?_
  refine x_new tyX9 dL_law_8 (ci := 9) rfl uw_X9 tyX9_ok kw_RL_10 ki_X9 mi_X9_init.2.2 (dF rfl) (by decide) (by decide) (fun q9 => ?_)
  refine x_dup dL_law_11 rfl ?_
  refine x_init (w2 := [] ++ (8 :: LL8).map (fun id => (b1 id, zcell G b1 id))) (rY := rm_X9_init) (As := []) (rest := [.ref q9]) dL_law_12 mi_X9_init rfl (by decide +kernel) ml_RL_12 (by decide) (by decide) rfl rfl (Nat.le_of_ble_eq_true rfl) (fun sz => ct_X9_init) (fun w hw => ?_)
  obtain ⟨b2, hb2, rfl⟩ := hw
  refine x_astore_n dL_law_15 (by decide) (rl_ref _) ?_
  have go : EvL l G bs Ls xs (sE (fun id => if cid id = 9 then b2 id else b1 id)) (0 + 1 + rm_X8_init.cells + 1 + rm_X9_init.cells) (0 + 13 + rm_X8_init.slots + 47 + rm_X9_init.slots) sV 16 [(0, .ref bs), (1, .ref q8), (2, .ref q9)] [] Qone := by
    refine l_iconst (v := nI (6 * 0)) dL_law_16 (by decide) ?_
    refine l_istore_n dL_law_17 (by decide) ?_
    exact l_widen (k' := 60 + 5 * 0) (n' := 60000 + 104 * 0) (by decide) (by decide) (law_loop (a8 := q8) (a9 := q9) hL 512 0 _ _ (by omega) (by omega) (INV_start _) (show (if cid 8 = 9 then b2 8 else b1 8) = q8 from hb1) (show (if cid 9 = 9 then b2 9 else b1 9) = q9 from hb2))
  intro p e s m args below meth c H locs ls C hPs hR hX hL' hl
  rw [ws_start] at hX
  exact go p e s m args below meth c H locs ls C hPs (hR.start hX) hL' hl
end LStart

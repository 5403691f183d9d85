/-! gift, statute: the class's side -/
def addT (E : Et) (i q a N : Nat) : Et := (fun id j => if j = i then (if id = 7 then q else if id = 800 then a else eA E id j) else eA E id j, fun c j => eL E c j ∨ (c = 7 ∧ j = i), fun id j => if id = 800 ∧ j = i then N else eN E id j, E.2.2.2)
def addTV (V : Vt) (i : Nat) (g : Nat → Int32) : Vt := fun f i' j => if f = 800 ∧ i' = i then g j else V f i' j
theorem addTV_f {V : Vt} {i f : Nat} {g : Nat → Int32} (h : f ≠ 800) : addTV V i g f = V f := by
  funext i' j
  exact if_neg (fun z => h z.1)
theorem addTV_q {V : Vt} {i f i' : Nat} {g : Nat → Int32} (h : i' ≠ i) : addTV V i g f i' = V f i' := by
  funext j
  exact if_neg (fun z => h z.2)
theorem addTV_n {V : Vt} {i : Nat} {g : Nat → Int32} : addTV V i g 800 i = g := by
  funext j
  exact if_pos ⟨rfl, rfl⟩
theorem addT_off (E : Et) (V : Vt) (i q a N : Nat) (g : Nat → Int32) : Off 7 i E (addT E i q a N) V (addTV V i g) := by
  refine ⟨fun id j hn => ⟨?_, ?_, ?_⟩, fun f j _ => rfl, fun c' j => Iff.rfl⟩
  · show (if j = i then _ else _) = _
    by_cases e : j = i
    · have hc : cid id ≠ 7 := fun z => hn ⟨e, z⟩
      rw [if_pos e, if_neg (fun z => hc (by rw [z]; rfl)), if_neg (fun z => hc (by rw [z]; rfl))]
    · rw [if_neg e]
  · show (if id = 800 ∧ j = i then _ else _) = _
    rw [if_neg (fun z => hn ⟨z.2, by rw [z.1]; rfl⟩)]
  · funext y
    show (if id = 800 ∧ j = i then _ else _) = _
    rw [if_neg (fun z => hn ⟨z.2, by rw [z.1]; rfl⟩)]
theorem addT_a (E : Et) (i q a N : Nat) : eA (addT E i q a N) 7 i = q ∧ eA (addT E i q a N) 800 i = a ∧ eN (addT E i q a N) 800 i = N := by
  refine ⟨?_, ?_, if_pos ⟨rfl, rfl⟩⟩ <;> (show (if i = i then _ else _) = _; rw [if_pos rfl]; rfl)
theorem cov7 : ∀ id, cid id = 7 → (id < 100 ∨ (1 ≤ kdo id ∧ kdo id ≤ 6)) → id ∈ ([800, 7] : List Nat) := by
  intro id h1 h2
  unfold cid at h1
  split at h1
  · rw [h1]
    decide
  · rename_i q
    have h2 : 1 ≤ kdo id ∧ kdo id ≤ 6 := h2.resolve_left q
    obtain ⟨k, hk, rfl⟩ : ∃ k, k < 100 ∧ id = 800 + k := ⟨id - 800, by omega, by omega⟩
    have : ∀ k, k < 100 → 1 ≤ kdo (800 + k) → (800 + k) ∈ ([800, 7] : List Nat) := by decide +kernel
    exact this k hk h2.1
theorem txW_eq {G : Gt} {V : Vt} (E : Et) (i q a N : Nat) (g : Nat → Int32) : [(a, (.inl (gT G 0, N, .inl g) : va_E)), (q, .inr (7, [.ref a]))] = [800, 7].map (fun id => (eA (addT E i q a N) id i, cellOf G (addT E i q a N) (addTV V i g) id i)) := by
  obtain ⟨a1, a2, a3⟩ := addT_a E i q a N
  have c1 : cellOf G (addT E i q a N) (addTV V i g) 800 i = .inl (gT G 0, eN (addT E i q a N) 800 i, .inl (addTV V i g 800 i)) := rfl
  have c2 : cellOf G (addT E i q a N) (addTV V i g) 7 i = .inr (7, [.ref (eA (addT E i q a N) 800 i)]) := rfl
  show _ = [(eA (addT E i q a N) 800 i, cellOf G (addT E i q a N) (addTV V i g) 800 i), (eA (addT E i q a N) 7 i, cellOf G (addT E i q a N) (addTV V i g) 7 i)]
  rw [c1, c2, a1, a2, a3, addTV_n]
def addG (E : Et) (i q : Nat) (o : Option Nat) : Et := (fun id j => if id = 1 ∧ j = i then q else eA E id j, fun c j => eL E c j ∨ (c = 1 ∧ j = i), E.2.2.1, fun f j => if f = 201 ∧ j = i then o else eR E f j)
def addGV (V : Vt) (i : Nat) (x : Int32) : Vt := fun f i' j => if (f = 200 ∨ f = 202) ∧ i' = i then x else V f i' j
theorem addGV_f {V : Vt} {i f : Nat} {x : Int32} (h : f ≠ 200 ∧ f ≠ 202) : addGV V i x f = V f := by
  funext i' j
  exact if_neg (fun z => by omega)
theorem addGV_q {V : Vt} {i f i' : Nat} {x : Int32} (h : i' ≠ i) : addGV V i x f i' = V f i' := by
  funext j
  exact if_neg (fun z => h z.2)
theorem addG_off (E : Et) (V : Vt) (i q : Nat) (o : Option Nat) (x : Int32) : Off 1 i E (addG E i q o) V (addGV V i x) := by
  refine ⟨fun id j hn => ⟨?_, rfl, ?_⟩, fun f j h => ?_, fun c' j => Iff.rfl⟩
  · show (if id = 1 ∧ j = i then _ else _) = _
    rw [if_neg (fun z => hn ⟨z.2, by rw [z.1]; rfl⟩)]
  · funext y
    show (if (id = 200 ∨ id = 202) ∧ j = i then _ else _) = _
    rw [if_neg (fun z => hn ⟨z.2, by rcases z.1 with w | w <;> (rw [w]; rfl)⟩)]
  · show (if f = 201 ∧ j = i then _ else _) = _
    rw [if_neg (fun z => by
      rcases h with w | w | w
      · exact w z.1
      · exact w rfl
      · exact w z.2)]
theorem cov1 : ∀ id, cid id = 1 → (id < 100 ∨ (1 ≤ kdo id ∧ kdo id ≤ 6)) → id ∈ ([1] : List Nat) := by
  intro id h1 h2
  unfold cid at h1
  split at h1
  · rw [h1]
    decide
  · rename_i q
    have h2 : 1 ≤ kdo id ∧ kdo id ≤ 6 := h2.resolve_left q
    obtain ⟨k, hk, rfl⟩ : ∃ k, k < 100 ∧ id = 200 + k := ⟨id - 200, by omega, by omega⟩
    have : ∀ k, k < 100 → ¬ (1 ≤ kdo (200 + k) ∧ kdo (200 + k) ≤ 6) := by decide +kernel
    exact absurd h2 (this k hk)
theorem gfW_eq {G : Gt} {V : Vt} {E : Et} (i q : Nat) (o : Option Nat) (x : Int32) (h7 : ∀ t, o = some t → eA (addG E i q o) 7 t = eA E 7 t) : [(q, (.inr (1, [.int x, va_rf (o.map (eA E 7)), .int x]) : va_E))] = [1].map (fun id => (eA (addG E i q o) id i, cellOf G (addG E i q o) (addGV V i x) id i)) := by
  have a1 : eA (addG E i q o) 1 i = q := if_pos ⟨rfl, rfl⟩
  have v1 : addGV V i x 200 i 0 = x := if_pos ⟨Or.inl rfl, rfl⟩
  have v2 : addGV V i x 202 i 0 = x := if_pos ⟨Or.inr rfl, rfl⟩
  have r1 : eR (addG E i q o) 201 i = o := if_pos ⟨rfl, rfl⟩
  have c1 : cellOf G (addG E i q o) (addGV V i x) 1 i = .inr (1, [.int (addGV V i x 200 i 0), va_rf ((eR (addG E i q o) 201 i).map (eA (addG E i q o) 7)), .int (addGV V i x 202 i 0)]) := rfl
  show _ = [(eA (addG E i q o) 1 i, cellOf G (addG E i q o) (addGV V i x) 1 i)]
  rw [c1, a1, v1, v2, r1, map_eq h7]
abbrev rm_X6_asText : Room := { frames := 2, cells := 2, slots := 101, locals := 82 }
abbrev rm_X8_gift : Room := { frames := 9, cells := 3, slots := 104, locals := 205 }
abbrev rm_X8_statute : Room := { frames := 9, cells := 2, slots := 101, locals := 205 }
theorem lf_le {tl : Nat} {tb : Nat → Nat} {a x : Nat} (ha : a < tl) (hx : lf tl tb a = (none, x)) : x ≤ tl := by
  unfold lf at hx
  have hn := (nc_le tl tb (a + 1)).2 (by omega)
  split at hx
  · split at hx
    · cases hx
    · cases hx
      exact hn
  · split at hx
    · cases hx
    · split at hx
      · cases hx
      · cases hx
        omega
theorem rd_le0 {tl : Nat} {tb : Nat → Nat} : ∀ (r a op : Nat) (st : Nat → Nat) (c : Nat) (f : Nat → Nat) (x : Nat), a ≤ tl → (rd tl tb r a op st c f).1 = some x → x ≤ tl := by
  intro r
  induction r with
  | zero =>
    intro a op st c f x ha h
    cases h
    exact Nat.le_refl _
  | succ r ih =>
    intro a op st c f x ha h
    unfold rd at h
    by_cases q : a < tl
    · rw [if_pos q] at h
      by_cases q2 : tb a ∈ kS
      · rw [if_pos q2] at h
        by_cases q3 : op = 20
        · rw [if_pos q3] at h
          cases h
          exact ha
        · rw [if_neg q3] at h
          exact ih _ _ _ _ _ _ (by omega) h
      · rw [if_neg q2] at h
        cases e : lf tl tb a with
        | mk o y =>
          rw [e] at h
          cases o with
          | none =>
            cases h
            exact lf_le q e
          | some z =>
            obtain ⟨z1, z2, z3, z4⟩ := lf_ok q e
            replace h : (if csn st op = 0 then (if z.1 = tl then ((none : Option Nat), c + 1, updN f c z.2) else (some z.1, c + 1, updN f c z.2)) else rd tl tb r z.1 (csn st op) (csd st (csn st op)) (c + 1) (updN f c z.2)).1 = some x := h
            by_cases q4 : csn st op = 0
            · rw [if_pos q4] at h
              by_cases q5 : z.1 = tl
              · rw [if_pos q5] at h
                cases h
              · rw [if_neg q5] at h
                cases h
                exact z2
            · rw [if_neg q4] at h
              exact ih _ _ _ _ _ _ z2 h
    · rw [if_neg q] at h
      cases h
      exact Nat.le_refl _
theorem rd_le {tl : Nat} {tb : Nat → Nat} {R : Option Nat × Nat × (Nat → Nat)} {x : Nat} (hR : rd tl tb (tl + 1) 0 0 (fun _ => 0) 0 (fun _ => 0) = R) (h : R.1 = some x) : x ≤ tl := rd_le0 (tl + 1) 0 0 _ 0 _ x (Nat.zero_le _) (by rw [hR]; exact h)
section Gift
variable {l : Launch} {G : Gt} {E : Et} {V : Vt} {n gc tc tl sc : Nat} {tb : Nat → Nat}
theorem sp_asText {N : Nat} {K : Et → Vt → Prop} (hE : WE E n gc tc) (hN : V 704 0 0 = nI N) (hN2 : N ≤ 100) (h : ∀ q a g, (∀ j, j < N → g j = V 701 0 j) → K (addT E tc q a N) (addTV V tc g)) : Cl l G yX6_asText cX6_asText 1 (some (.object "ChurchLodge$Text")) rm_X6_asText E V [.ref (eA E 6 0)] (fun r E' V' => r = some (.ref (eA E' 7 tc)) ∧ K E' V') := by
  obtain ⟨hS, hR, ho, hp, hg, ht⟩ := hE
  refine Cl.of (by decide +kernel) (Nat.le_of_ble_eq_true rfl) (show Ev l G RX6 cX6_asText 1 (some (.object "ChurchLodge$Text")) rm_X6_asText E 0 0 V 0 [(0, .ref (eA E 6 0))] [] _ from ?_)
  refine w_new tyX7 dX6_asText_0 (ci := 7) rfl uw_X7 tyX7_ok kw_RX6_25 ki_X7 mi_X7_init.2.2 (dF rfl) (by decide) (by decide) (fun b => ?_)
  refine w_dup dX6_asText_3 rfl ?_
  refine w_aload_n (v := .ref (eA E 6 0)) dX6_asText_4 rfl (rl_ref _) ?_
  refine w_get (v := .ref (eA E 701 0)) dX6_asText_5 fl_RX6_15 (hS.1 6 (by decide)) rfl ?_
  refine w_aload_n (v := .ref (eA E 6 0)) dX6_asText_8 rfl (rl_ref _) ?_
  refine w_get (v := .int (V 704 0 0)) dX6_asText_9 fl_RX6_27 (hS.1 6 (by decide)) rfl ?_
  rw [hN]
  refine w_copyOf (rest := [.ref b, .ref b]) dX6_asText_12 ml_RX6_30 hS hN2 ⟨Nat.le_of_ble_eq_true rfl, Nat.le_of_ble_eq_true rfl⟩ ⟨by decide, by decide⟩ (Nat.le_of_ble_eq_true rfl) (fun a g hg' => ?_)
  refine w_init (w2 := [(a, .inl (gT G 0, N, .inl g))]) (b := b) (rY := rm_X7_init) (As := [.ref a]) (rest := [.ref b]) (na := 1) dX6_asText_15 mi_X7_init rfl (by decide +kernel) ml_RX6_36 ⟨Nat.le_of_ble_eq_true rfl, Nat.le_of_ble_eq_true rfl⟩ ⟨by decide, by decide⟩ rfl rfl (Nat.le_of_ble_eq_true rfl) (fun sz => ct_X7_init) (fun w hw => ?_)
  subst hw
  refine w_name (E' := addT E tc b a N) (V' := addTV V tc g) (c := 7) (i := tc) (ids := [800, 7]) (addT_off _ _ _ _ _ _ _) (fun w => absurd ((ht tc).mp w) (by omega)) hR (fun c' hc' => hS.1 c' ((show ∀ c' : Nat, c' ∈ ([0, 3, 4, 5, 6] : List Nat) → c' ∈ ([0, 3, 4, 5, 6, 8, 9] : List Nat) by decide) c' hc')) (txW_eq E tc b a N g) cov7 ?_
  refine r_aret dX6_asText_18 rfl (Or.inl ⟨_, rfl⟩) (rl_ref _) ⟨by decide, by decide⟩ ⟨?_, h b a g hg'⟩
  rw [(addT_a E tc b a N).1]
theorem WE.text (h : WE E n gc tc) (q a N : Nat) : WE (addT E tc q a N) n gc (tc + 1) := by
  obtain ⟨hS, hR, ho, hp, hg, ht⟩ := h
  refine ⟨⟨fun c hc => Or.inl (hS.1 c hc), fun f i hf => ?_⟩, fun id j t hj => ?_, fun c hc i hi => ?_, fun p => ?_, fun g => ?_, fun t => ?_⟩
  · show (if f = 800 ∧ i = tc then _ else _) = _
    rw [if_neg (fun z => hf z.1)]
    exact hS.2 f i hf
  · obtain ⟨r1, r2, r3⟩ := hR id j t hj
    exact ⟨fun z => Or.inl (r1 z), fun z => Or.inl (r2 z), fun z => Or.inl (r3 z)⟩
  · rcases hi with hi | hi
    · exact ho c hc i hi
    · rw [hi.1] at hc
      exact absurd hc (by decide)
  · refine ⟨fun z => ?_, fun z => Or.inl ((hp p).mpr z)⟩
    rcases z with z | z
    · exact (hp p).mp z
    · omega
  · refine ⟨fun z => ?_, fun z => Or.inl ((hg g).mpr z)⟩
    rcases z with z | z
    · exact (hg g).mp z
    · omega
  · refine ⟨fun z => ?_, fun z => ?_⟩
    · rcases z with z | z
      · have := (ht t).mp z
        omega
      · omega
    · by_cases e : t = tc
      · exact Or.inr ⟨rfl, e⟩
      · exact Or.inl ((ht t).mpr (by omega))
theorem WE.gift (h : WE E n gc tc) (q : Nat) (o : Option Nat) (hO : ∀ t, o = some t → t < tc) : WE (setR (addG E gc q o) 905 gc gc) n (gc + 1) tc := by
  obtain ⟨hS, hR, ho, hp, hg, ht⟩ := h
  refine ⟨⟨fun c hc => Or.inl (hS.1 c hc), hS.2⟩, fun id j t hj => ?_, fun c hc i hi => ?_, fun p => ?_, fun g => ?_, fun t => ?_⟩
  · by_cases e : id = 905 ∧ j = gc
    · obtain ⟨rfl, rfl⟩ := e
      rw [setR_s] at hj
      cases hj
      exact ⟨fun z => absurd z (by decide), fun _ => Or.inr ⟨rfl, rfl⟩, fun z => absurd z (by decide)⟩
    · rw [setR_n e] at hj
      have hj : (if id = 201 ∧ j = gc then o else eR E id j) = some t := hj
      by_cases e2 : id = 201 ∧ j = gc
      · rw [if_pos e2] at hj
        rw [e2.1]
        exact ⟨fun z => absurd z (by decide), fun z => absurd z (by decide), fun _ => Or.inl ((ht t).mpr (hO t hj))⟩
      · rw [if_neg e2] at hj
        obtain ⟨r1, r2, r3⟩ := hR id j t hj
        exact ⟨fun z => Or.inl (r1 z), fun z => Or.inl (r2 z), fun z => Or.inl (r3 z)⟩
  · rcases hi with hi | hi
    · exact ho c hc i hi
    · rw [hi.1] at hc
      exact absurd hc (by decide)
  · refine ⟨fun z => ?_, fun z => Or.inl ((hp p).mpr z)⟩
    rcases z with z | z
    · exact (hp p).mp z
    · omega
  · refine ⟨fun z => ?_, fun z => ?_⟩
    · rcases z with z | z
      · have := (hg g).mp z
        omega
      · omega
    · by_cases e : g = gc
      · exact Or.inr ⟨rfl, e⟩
      · exact Or.inl ((hg g).mpr (by omega))
  · refine ⟨fun z => ?_, fun z => Or.inl ((ht t).mpr z)⟩
    rcases z with z | z
    · exact (ht t).mp z
    · omega
/-- from place 71 on: the gift itself -/
theorem gift_end {x y3 : Int32} {o : Option Nat} {k0 n0 : Nat} {K : Int32 → Et → Vt → Prop} (hE : WE E n gc tc) (hO : ∀ t, o = some t → t < tc) (hg1 : V 909 0 0 = nI gc) (hg2 : gc < 30) (hk : k0 ≤ 2 ∧ n0 ≤ 101) (h : ∀ q, K (nI gc) (setR (addG E gc q o) 905 gc gc) (up3 (addGV V gc x) 909 0 0 (nI (gc + 1)))) : Ev l G RX8 cX8_gift 4 (some .int) rm_X8_gift E k0 n0 V 71 [(0, .ref (eA E 8 0)), (1, .int x), (2, va_rf (o.map (eA E 7)))] [] (Qe K) := by
  obtain ⟨hS, hR, ho, hp, hg, ht⟩ := hE
  refine r_aload_n (v := .ref (eA E 8 0)) dX8_gift_71 rfl (rl_ref _) ?_
  refine r_get (v := .ref (eA E 905 0)) dX8_gift_72 fl_RX8_46 (hS.1 8 (by decide)) rfl ?_
  refine r_aload_n (v := .ref (eA E 8 0)) dX8_gift_75 rfl (rl_ref _) ?_
  refine r_get (v := .int (V 909 0 0)) dX8_gift_76 fl_RX8_194 (hS.1 8 (by decide)) rfl ?_
  refine w_new tyX1 dX8_gift_79 (ci := 1) rfl uw_X1 tyX1_ok kl_RX8_44 ki_X1 mi_X1_init.2.2 (dF rfl) (by show k0 + 1 ≤ 3; omega) (by show n0 + 3 ≤ 104; omega) (fun b => ?_)
  refine w_dup dX8_gift_82 rfl ?_
  refine w_iload_n (x := x) dX8_gift_83 rfl ?_
  refine w_aload_n (v := va_rf (o.map (eA E 7))) dX8_gift_84 rfl (rl_rf _) ?_
  refine w_init (w2 := []) (b := b) (rY := rm_X1_init) (As := [.int x, va_rf (o.map (eA E 7))]) (rest := [.ref b, .int (V 909 0 0), .ref (eA E 905 0)]) (na := 2) dX8_gift_85 mi_X1_init rfl (by decide +kernel) ml_RX8_205 ⟨Nat.le_of_ble_eq_true rfl, Nat.le_of_ble_eq_true rfl⟩ ⟨by show k0 + 1 + 0 ≤ 3; omega, by show n0 + 3 + 0 ≤ 104; omega⟩ rfl rfl (Nat.le_of_ble_eq_true rfl) (fun sz => ct_X1_init (rl_rf _)) (fun w hw => ?_)
  subst hw
  have e7 : ∀ t, o = some t → eA (addG E gc b o) 7 t = eA E 7 t := fun t _ => by
    show (if 7 = 1 ∧ t = gc then b else eA E 7 t) = _
    rw [if_neg (fun z => absurd z.1 (by decide))]
  refine w_name (E' := addG E gc b o) (V' := addGV V gc x) (c := 1) (i := gc) (ids := [1]) (addG_off _ _ _ _ _ _) (fun w => absurd ((hg gc).mp w) (by omega)) hR (fun c' hc' => hS.1 c' ((show ∀ c' : Nat, c' ∈ ([0, 3, 4, 5, 6] : List Nat) → c' ∈ ([0, 3, 4, 5, 6, 8, 9] : List Nat) by decide) c' hc')) (gfW_eq gc b o x e7) cov1 ?_
  obtain ⟨E1, hE1⟩ : ∃ E1, E1 = addG E gc b o := ⟨_, rfl⟩
  have hS1 : Sg E1 := by
    rw [hE1]
    exact ⟨fun c hc => Or.inl (hS.1 c hc), hS.2⟩
  have e1 : eA E1 1 gc = b := by rw [hE1]; exact if_pos ⟨rfl, rfl⟩
  have ea : ∀ id, id ≠ 1 → eA E1 id 0 = eA E id 0 := fun id h' => by rw [hE1]; exact if_neg (fun z => h' z.1)
  have l1 : eL E1 1 gc := by rw [hE1]; exact Or.inr ⟨rfl, rfl⟩
  have o8 : ∀ i, eL E1 8 i → i = 0 := fun i hi => by
    rw [hE1] at hi
    rcases hi with hi | hi
    · exact ho 8 (by decide) i hi
    · omega
  rw [← hE1, ← e1, ← ea 905 (by decide), ← ea 8 (by decide), hg1]
  refine r_aast (id := 905) (ct := 1) (t0 := 4) dX8_gift_88 (Or.inr (Or.inl ⟨rfl, rfl, rfl⟩)) (by decide) (hS1.1 8 (by decide)) o8 (by rw [hS1.2 905 0 (by decide)]; exact inI hg2 (by decide)) l1 ?_
  rw [cl (by omega)]
  obtain ⟨E2, hE2⟩ : ∃ E2, E2 = setR E1 905 gc gc := ⟨_, rfl⟩
  have hS2 : Sg E2 := by rw [hE2]; exact hS1
  have e28 : eA E1 8 0 = eA E2 8 0 := by rw [hE2]; rfl
  rw [← hE2, e28]
  refine r_aload_n (v := .ref (eA E2 8 0)) dX8_gift_89 rfl (rl_ref _) ?_
  refine r_dup dX8_gift_90 rfl ?_
  refine r_get (v := .int (addGV V gc x 909 0 0)) dX8_gift_91 fl_RX8_194 (hS2.1 8 (by decide)) rfl ?_
  refine r_iconst (v := (1 : Int32)) dX8_gift_94 (by decide) ?_
  refine r_iadd dX8_gift_95 ?_
  refine r_put dX8_gift_96 fp_RX8_194 rfl (hS2.1 8 (by decide)) rfl rfl ?_
  refine r_aload_n (v := .ref (eA E2 8 0)) dX8_gift_99 rfl (rl_ref _) ?_
  refine r_get (v := .int (up3 (addGV V gc x) 909 0 0 (addGV V gc x 909 0 0 + 1) 909 0 0)) dX8_gift_100 fl_RX8_194 (hS2.1 8 (by decide)) rfl ?_
  refine r_iconst (v := (1 : Int32)) dX8_gift_103 (by decide) ?_
  refine r_isub dX8_gift_104 ?_
  refine r_iret dX8_gift_105 rfl ⟨by show k0 + 1 + 0 ≤ 3; omega, by show n0 + 3 + 0 ≤ 104; omega⟩ ⟨_, rfl, ?_⟩
  show K (up3 (addGV V gc x) 909 0 0 (addGV V gc x 909 0 0 + 1) 909 0 0 - 1) E2 (up3 (addGV V gc x) 909 0 0 (addGV V gc x 909 0 0 + 1))
  rw [up3_s, addGV_f (by decide), hg1, nI_1, nI_pred, hE2, hE1]
  exact h b
theorem sp_gift {x : Int32} {R : Option Nat × Nat × (Nat → Nat)} {K : Int32 → Et → Vt → Prop} (hE : WE E n gc tc) (hT : TC V tl tb) (hR : rd tl tb (tl + 1) 0 0 (fun _ => 0) 0 (fun _ => 0) = R) (hg1 : V 909 0 0 = nI gc) (hg2 : gc ≤ 30)
    (k1 : ¬ ((1 : Int32) ≤ x ∧ x ≤ 1000000) → K (-1) E V) (k2 : ((1 : Int32) ≤ x ∧ x ≤ 1000000) → gc = 30 → K (-3) E V)
    (k3 : ((1 : Int32) ≤ x ∧ x ≤ 1000000) → gc < 30 → tl = 0 → ∀ q, K (nI gc) (setR (addG E gc q none) 905 gc gc) (up3 (addGV V gc x) 909 0 0 (nI (gc + 1))))
    (k4 : ((1 : Int32) ≤ x ∧ x ≤ 1000000) → gc < 30 → 0 < tl → ∀ f V1, R.1 = some f → Of crS V V1 → K (-100 - nI f) E (up3 V1 703 0 0 0))
    (k5 : ((1 : Int32) ≤ x ∧ x ≤ 1000000) → gc < 30 → 0 < tl → R.1 = none → R.2.1 ≤ 100 → ∀ V1 q q2 a g, Of crS V V1 → (∀ j, j < R.2.1 → g j = cI (R.2.2 j)) → K (nI gc) (setR (addG (addT E tc q a R.2.1) gc q2 (some tc)) 905 gc gc) (up3 (addGV (addTV (up3 V1 703 0 0 0) tc g) gc x) 909 0 0 (nI (gc + 1)))) : Cl l G yX8_gift cX8_gift 4 (some .int) rm_X8_gift E V [.ref (eA E 8 0), .int x] (Qe K) := by
  obtain ⟨hS, hRf, ho, hp, hg, ht⟩ := And.intro True.intro hE |>.2
  have htl := hT.2.1
  refine Cl.of (by decide +kernel) (Nat.le_of_ble_eq_true rfl) (show Ev l G RX8 cX8_gift 4 (some .int) rm_X8_gift E 0 0 V 0 [(0, .ref (eA E 8 0)), (1, .int x)] [] (Qe K) from ?_)
  have bad : ¬ ((1 : Int32) ≤ x ∧ x ≤ 1000000) → Ev l G RX8 cX8_gift 4 (some .int) rm_X8_gift E 0 0 V 11 [(0, .ref (eA E 8 0)), (1, .int x)] [] (Qe K) := fun hb => by
    refine r_iconst (v := (-1 : Int32)) dX8_gift_11 (by decide) ?_
    exact r_iret dX8_gift_12 rfl ⟨by decide, by decide⟩ ⟨_, rfl, k1 hb⟩
  refine r_iload_n (x := x) dX8_gift_0 rfl ?_
  refine r_iconst (v := (1 : Int32)) dX8_gift_1 (by decide) ?_
  refine r_icmp_lt 11 dX8_gift_2 (by decide) (fun q => bad (fun w => lt_nle q w.1)) (fun q1 => ?_)
  refine r_iload_n (x := x) dX8_gift_5 rfl ?_
  refine r_ldc (v := (1000000 : Int32)) dX8_gift_6 kc_RX8_193 ?_
  refine r_icmp_le 13 dX8_gift_8 (by decide) (fun q2 => ?_) (fun q => bad (fun w => q w.2))
  have hx : (1 : Int32) ≤ x ∧ x ≤ 1000000 := ⟨nlt_le q1, q2⟩
  refine r_aload_n (v := .ref (eA E 8 0)) dX8_gift_13 rfl (rl_ref _) ?_
  refine r_get (v := .int (V 909 0 0)) dX8_gift_14 fl_RX8_194 (hS.1 8 (by decide)) rfl ?_
  refine r_bipush (v := (30 : Int32)) dX8_gift_17 (by decide) ?_
  rw [hg1]
  refine r_icmp_lt 25 dX8_gift_19 (by decide) (fun q3 => ?_) (fun q3 => ?_)
  · have hlt : gc < 30 := (nI_ltI (b := 30) (by omega) (by decide)).mp q3
    refine r_null dX8_gift_25 ?_
    refine r_astore_n dX8_gift_26 (by decide) (Or.inl rfl) ?_
    refine r_aload_n (v := .ref (eA E 8 0)) dX8_gift_27 rfl (rl_ref _) ?_
    refine r_get (v := .ref (eA E 6 0)) dX8_gift_28 fl_RX8_33 (hS.1 8 (by decide)) rfl ?_
    refine r_get (v := .int (V 703 0 0)) dX8_gift_31 fl_RX8_186 (hS.1 6 (by decide)) rfl ?_
    rw [hT.1]
    refine r_if_le 71 dX8_gift_34 (by decide) (fun q4 => ?_) (fun q4 => ?_)
    · have e : tl = 0 := by
        have := (nI_leI (b := 0) (by omega) (by decide)).mp q4
        omega
      exact gift_end (o := none) (y3 := 0) hE (fun t z => by cases z) hg1 hlt (by decide) (k3 hx hlt e)
    · have hpos : 0 < tl := by
        rcases Nat.eq_zero_or_pos tl with e | e
        · rw [e] at q4
          exact absurd (by decide) q4
        · exact e
      refine r_aload_n (v := .ref (eA E 8 0)) dX8_gift_37 rfl (rl_ref _) ?_
      refine r_get (v := .ref (eA E 6 0)) dX8_gift_38 fl_RX8_33 (hS.1 8 (by decide)) rfl ?_
      refine r_cVi (As := []) (rest := []) (K := fun r V1 => Of crS V V1 ∧ ((∃ f, R.1 = some f ∧ r = nI f) ∨ (R.1 = none ∧ r = -1 ∧ V1 704 0 0 = nI R.2.1 ∧ R.2.1 ≤ 100 ∧ ∀ j, j < R.2.1 → V1 701 0 j = cI (R.2.2 j)))) dX8_gift_41 mv_X6_read ml_RX8_197 ⟨_, _, rfl⟩ (hS.1 6 (by decide)) ⟨Nat.le_of_ble_eq_true rfl, Nat.le_of_ble_eq_true rfl⟩ ⟨rfl, rfl⟩ rfl rfl (Nat.le_of_ble_eq_true rfl) (sp_read hS hT hR (fun f V1 hf hO => ⟨hO, Or.inl ⟨f, hf, rfl⟩⟩) (fun V1 hf hO w1 w2 w3 => ⟨hO, Or.inr ⟨hf, rfl, w1, w2, w3⟩⟩)) (fun r V1 hr => ?_)
      obtain ⟨hO, hr⟩ := hr
      refine r_istore_n dX8_gift_44 (by decide) ?_
      refine r_aload_n (v := .ref (eA E 8 0)) dX8_gift_45 rfl (rl_ref _) ?_
      refine r_get (v := .ref (eA E 6 0)) dX8_gift_46 fl_RX8_33 (hS.1 8 (by decide)) rfl ?_
      refine r_iconst (v := (0 : Int32)) dX8_gift_49 (by decide) ?_
      refine r_put dX8_gift_50 fp_RX8_186 rfl (hS.1 6 (by decide)) rfl rfl ?_
      refine r_iload_n (x := r) dX8_gift_53 rfl ?_
      refine r_iconst (v := (-1 : Int32)) dX8_gift_54 (by decide) ?_
      refine r_icmp_eq 63 dX8_gift_55 (by decide) (fun q5 => ?_) (fun q5 => ?_)
      · have hr : R.1 = none ∧ V1 704 0 0 = nI R.2.1 ∧ R.2.1 ≤ 100 ∧ ∀ j, j < R.2.1 → V1 701 0 j = cI (R.2.2 j) := by
          rcases hr with ⟨f, hf, w⟩ | ⟨w1, w2, w3⟩
          · rw [w] at q5
            exact absurd (by rw [q5]; decide) (nI_pos (n := f) (by have := rd_le hR hf; omega))
          · exact ⟨w1, w3⟩
        obtain ⟨w1, w2, w3, w4⟩ := hr
        refine r_aload_n (v := .ref (eA E 8 0)) dX8_gift_63 rfl (rl_ref _) ?_
        refine r_get (v := .ref (eA E 6 0)) dX8_gift_64 fl_RX8_33 (hS.1 8 (by decide)) rfl ?_
        refine r_callV (rY := rm_X6_asText) (ci := 6) (i := 0) (As := []) (rest := []) (Qc := fun r E' V' => r = some (.ref (eA E' 7 tc)) ∧ ∃ q a g, E' = addT E tc q a R.2.1 ∧ V' = addTV (up3 V1 703 0 0 0) tc g ∧ ∀ j, j < R.2.1 → g j = cI (R.2.2 j)) dX8_gift_67 mv_X6_asText ml_RX8_201 ⟨_, _, rfl⟩ (hS.1 6 (by decide)) ⟨Nat.le_of_ble_eq_true rfl, Nat.le_of_ble_eq_true rfl⟩ ⟨by decide, by decide⟩ rfl rfl (Nat.le_of_ble_eq_true rfl) (sp_asText (N := R.2.1) (K := fun E' V' => ∃ q a g, E' = addT E tc q a R.2.1 ∧ V' = addTV (up3 V1 703 0 0 0) tc g ∧ ∀ j, j < R.2.1 → g j = cI (R.2.2 j)) hE (by rw [up3_f (by decide)]; exact w2) w3 (fun q a g hg' => ⟨q, a, g, rfl, rfl, fun j hj => by rw [hg' j hj, up3_f (by decide)]; exact w4 j hj⟩)) (fun r' E' V' hr' => ?_)
        obtain ⟨rfl, q, a, g, rfl, rfl, hgg⟩ := hr'
        refine r_astore_n dX8_gift_70 (by decide) (rl_ref _) ?_
        have e8 : eA E 8 0 = eA (addT E tc q a R.2.1) 8 0 := by
          show _ = (if 0 = tc then _ else _)
          split <;> rfl
        rw [e8]
        refine Ev.loc (ll' := [(0, .ref (eA (addT E tc q a R.2.1) 8 0)), (1, .int x), (2, va_rf ((some tc).map (eA (addT E tc q a R.2.1) 7)))]) [0, 1, 2] rfl ?_
        exact gift_end (o := some tc) (y3 := 0) (hE.text q a R.2.1) (fun t z => by cases z; omega) (by rw [addTV_f (by decide), up3_f (by decide), hO 909 (by decide)]; exact hg1) hlt (by decide) (fun q2 => k5 hx hlt hpos w1 w3 V1 q q2 a g hO hgg)
      · refine r_bipush (v := (-100 : Int32)) dX8_gift_58 (by decide) ?_
        refine r_iload_n (x := r) dX8_gift_60 rfl ?_
        refine r_isub dX8_gift_61 ?_
        rcases hr with ⟨f, hf, w⟩ | ⟨w1, w2, w3⟩
        · rw [w]
          exact r_iret dX8_gift_62 rfl ⟨by decide, by decide⟩ ⟨_, rfl, k4 hx hlt hpos f V1 hf hO⟩
        · exact absurd w2 q5
  · have e : gc = 30 := by
      have : ¬ gc < 30 := fun w => q3 (nI_lt (b := 30) w (by decide))
      omega
    refine r_bipush (v := (-3 : Int32)) dX8_gift_22 (by decide) ?_
    exact r_iret dX8_gift_24 rfl ⟨by decide, by decide⟩ ⟨_, rfl, k2 hx e⟩
theorem sp_ahead {x : Int32} {K : Int32 → Vt → Prop} (hE : Sg E) (h : K (bz (V 101 0 0 ≤ x ∧ x ≤ 1200)) V) : C_X0_isAhead l G E V x K := by
  refine ok_X0_isAhead hE ?_
  unfold vc_X0_isAhead
  refine ⟨fun q => ?_, fun q => ⟨fun q2 => ?_, fun q2 => ?_⟩⟩
  · rw [bz_f (fun w => lt_nle q w.1)] at h
    exact h
  · rw [bz_f (fun w => lt_nle q2 w.2)] at h
    exact h
  · rw [bz_t ⟨nlt_le q, nlt_le q2⟩] at h
    exact h
theorem sp_statute {x : Int32} {R : Option Nat × Nat × (Nat → Nat)} {K : Int32 → Et → Vt → Prop} (hE : WE E n gc tc) (hT : TC V tl tb) (hR : rd tl tb (tl + 1) 0 0 (fun _ => 0) 0 (fun _ => 0) = R) (hg1 : V 910 0 0 = nI sc) (hg2 : sc ≤ 20)
    (k1 : ¬ (V 101 0 0 ≤ x ∧ x ≤ 1200) → K (-1) E V) (k2 : (V 101 0 0 ≤ x ∧ x ≤ 1200) → sc = 20 → K (-3) E V)
    (k4 : (V 101 0 0 ≤ x ∧ x ≤ 1200) → sc < 20 → ∀ f V1, R.1 = some f → Of crS V V1 → K (-100 - nI f) E (up3 V1 703 0 0 0))
    (k5 : (V 101 0 0 ≤ x ∧ x ≤ 1200) → sc < 20 → R.1 = none → R.2.1 ≤ 100 → ∀ V1 q a g, Of crS V V1 → (∀ j, j < R.2.1 → g j = cI (R.2.2 j)) → K (nI (sc + 1)) (setR (addT E tc q a R.2.1) 906 sc tc) (up3 (up3 (addTV (up3 V1 703 0 0 0) tc g) 907 0 sc x) 910 0 0 (nI (sc + 1)))) : Cl l G yX8_statute cX8_statute 3 (some .int) rm_X8_statute E V [.ref (eA E 8 0), .int x] (Qe K) := by
  obtain ⟨hS, hRf, ho, hp, hg, ht⟩ := And.intro True.intro hE |>.2
  have htl := hT.2.1
  refine Cl.of (by decide +kernel) (Nat.le_of_ble_eq_true rfl) (show Ev l G RX8 cX8_statute 3 (some .int) rm_X8_statute E 0 0 V 0 [(0, .ref (eA E 8 0)), (1, .int x)] [] (Qe K) from ?_)
  refine r_aload_n (v := .ref (eA E 8 0)) dX8_statute_0 rfl (rl_ref _) ?_
  refine r_get (v := .ref (eA E 0 0)) dX8_statute_1 fl_RX8_26 (hS.1 8 (by decide)) rfl ?_
  refine r_iload_n (x := x) dX8_statute_4 rfl ?_
  refine r_cVi (As := [.int x]) (rest := []) (K := fun r V' => V' = V ∧ r = bz (V 101 0 0 ≤ x ∧ x ≤ 1200)) dX8_statute_5 mv_X0_isAhead ml_RX8_179 ⟨_, _, rfl⟩ (hS.1 0 (by decide)) ⟨Nat.le_of_ble_eq_true rfl, Nat.le_of_ble_eq_true rfl⟩ ⟨rfl, rfl⟩ rfl rfl (Nat.le_of_ble_eq_true rfl) (sp_ahead hS ⟨rfl, rfl⟩) (fun r V' hr => ?_)
  obtain ⟨rfl, rfl⟩ := hr
  refine r_if_ne 13 dX8_statute_8 (by decide) (fun q => ?_) (fun q => ?_)
  · rw [bz0] at q
    have hx := Decidable.not_not.mp q
    refine r_aload_n (v := .ref (eA E 8 0)) dX8_statute_13 rfl (rl_ref _) ?_
    refine r_get (v := .int (V' 910 0 0)) dX8_statute_14 fl_RX8_208 (hS.1 8 (by decide)) rfl ?_
    refine r_bipush (v := (20 : Int32)) dX8_statute_17 (by decide) ?_
    rw [hg1]
    refine r_icmp_lt 25 dX8_statute_19 (by decide) (fun q3 => ?_) (fun q3 => ?_)
    · have hlt : sc < 20 := (nI_ltI (b := 20) (by omega) (by decide)).mp q3
      refine r_aload_n (v := .ref (eA E 8 0)) dX8_statute_25 rfl (rl_ref _) ?_
      refine r_get (v := .ref (eA E 6 0)) dX8_statute_26 fl_RX8_33 (hS.1 8 (by decide)) rfl ?_
      refine r_cVi (As := []) (rest := []) (K := fun r V1 => Of crS V' V1 ∧ ((∃ f, R.1 = some f ∧ r = nI f) ∨ (R.1 = none ∧ r = -1 ∧ V1 704 0 0 = nI R.2.1 ∧ R.2.1 ≤ 100 ∧ ∀ j, j < R.2.1 → V1 701 0 j = cI (R.2.2 j)))) dX8_statute_29 mv_X6_read ml_RX8_197 ⟨_, _, rfl⟩ (hS.1 6 (by decide)) ⟨Nat.le_of_ble_eq_true rfl, Nat.le_of_ble_eq_true rfl⟩ ⟨rfl, rfl⟩ rfl rfl (Nat.le_of_ble_eq_true rfl) (sp_read hS hT hR (fun f V1 hf hO => ⟨hO, Or.inl ⟨f, hf, rfl⟩⟩) (fun V1 hf hO w1 w2 w3 => ⟨hO, Or.inr ⟨hf, rfl, w1, w2, w3⟩⟩)) (fun r V1 hr => ?_)
      obtain ⟨hO, hr⟩ := hr
      refine r_istore_n dX8_statute_32 (by decide) ?_
      refine r_aload_n (v := .ref (eA E 8 0)) dX8_statute_33 rfl (rl_ref _) ?_
      refine r_get (v := .ref (eA E 6 0)) dX8_statute_34 fl_RX8_33 (hS.1 8 (by decide)) rfl ?_
      refine r_iconst (v := (0 : Int32)) dX8_statute_37 (by decide) ?_
      refine r_put dX8_statute_38 fp_RX8_186 rfl (hS.1 6 (by decide)) rfl rfl ?_
      refine r_iload_n (x := r) dX8_statute_41 rfl ?_
      refine r_iconst (v := (-1 : Int32)) dX8_statute_42 (by decide) ?_
      refine r_icmp_eq 51 dX8_statute_43 (by decide) (fun q5 => ?_) (fun q5 => ?_)
      · have hr : R.1 = none ∧ V1 704 0 0 = nI R.2.1 ∧ R.2.1 ≤ 100 ∧ ∀ j, j < R.2.1 → V1 701 0 j = cI (R.2.2 j) := by
          rcases hr with ⟨f, hf, w⟩ | ⟨w1, w2, w3⟩
          · rw [w] at q5
            exact absurd (by rw [q5]; decide) (nI_pos (n := f) (by have := rd_le hR hf; omega))
          · exact ⟨w1, w3⟩
        obtain ⟨w1, w2, w3, w4⟩ := hr
        refine r_aload_n (v := .ref (eA E 8 0)) dX8_statute_51 rfl (rl_ref _) ?_
        refine r_get (v := .ref (eA E 906 0)) dX8_statute_52 fl_RX8_52 (hS.1 8 (by decide)) rfl ?_
        refine r_aload_n (v := .ref (eA E 8 0)) dX8_statute_55 rfl (rl_ref _) ?_
        refine r_get (v := .int (up3 V1 703 0 0 0 910 0 0)) dX8_statute_56 fl_RX8_208 (hS.1 8 (by decide)) rfl ?_
        refine r_aload_n (v := .ref (eA E 8 0)) dX8_statute_59 rfl (rl_ref _) ?_
        refine r_get (v := .ref (eA E 6 0)) dX8_statute_60 fl_RX8_33 (hS.1 8 (by decide)) rfl ?_
        refine r_callV (rY := rm_X6_asText) (ci := 6) (i := 0) (As := []) (rest := [.int (up3 V1 703 0 0 0 910 0 0), .ref (eA E 906 0)]) (Qc := fun r E' V' => r = some (.ref (eA E' 7 tc)) ∧ ∃ q a g, E' = addT E tc q a R.2.1 ∧ V' = addTV (up3 V1 703 0 0 0) tc g ∧ ∀ j, j < R.2.1 → g j = cI (R.2.2 j)) dX8_statute_63 mv_X6_asText ml_RX8_201 ⟨_, _, rfl⟩ (hS.1 6 (by decide)) ⟨Nat.le_of_ble_eq_true rfl, Nat.le_of_ble_eq_true rfl⟩ ⟨by decide, by decide⟩ rfl rfl (Nat.le_of_ble_eq_true rfl) (sp_asText (N := R.2.1) (K := fun E' V' => ∃ q a g, E' = addT E tc q a R.2.1 ∧ V' = addTV (up3 V1 703 0 0 0) tc g ∧ ∀ j, j < R.2.1 → g j = cI (R.2.2 j)) hE (by rw [up3_f (by decide)]; exact w2) w3 (fun q a g hg' => ⟨q, a, g, rfl, rfl, fun j hj => by rw [hg' j hj, up3_f (by decide)]; exact w4 j hj⟩)) (fun r' E' V' hr' => ?_)
        obtain ⟨rfl, q, a, g, hE', rfl, hgg⟩ := hr'
        have hW1 := hE.text q a R.2.1
        rw [← hE'] at hW1
        have hS1 := hW1.1
        have e8 : eA E 8 0 = eA E' 8 0 := by
          rw [hE']
          show _ = (if 0 = tc then _ else _)
          split <;> rfl
        have e9 : eA E 906 0 = eA E' 906 0 := by
          rw [hE']
          show _ = (if 0 = tc then _ else _)
          split <;> rfl
        rw [e8, e9, up3_f (f' := 910) (by decide), hO 910 (by decide), hg1]
        refine r_aast (id := 906) (ct := 7) (t0 := 5) dX8_statute_66 (Or.inr (Or.inr ⟨rfl, rfl, rfl⟩)) (by decide) (hS1.1 8 (by decide)) (hW1.2.2.1 8 (by decide)) (by rw [hS1.2 906 0 (by decide)]; exact inI hlt (by decide)) ((hW1.2.2.2.2.2 tc).mpr (by omega)) ?_
        rw [cl (by omega)]
        obtain ⟨E2, hE2⟩ : ∃ E2, E2 = setR E' 906 sc tc := ⟨_, rfl⟩
        have hS2 : Sg E2 := by rw [hE2]; exact hS1
        have e28 : eA E' 8 0 = eA E2 8 0 := by rw [hE2]; rfl
        rw [← hE2, e28]
        obtain ⟨V3, hV3⟩ : ∃ V3, V3 = addTV (up3 V1 703 0 0 0) tc g := ⟨_, rfl⟩
        have v3 : V3 910 0 0 = nI sc := by rw [hV3, addTV_f (by decide), up3_f (by decide), hO 910 (by decide)]; exact hg1
        rw [← hV3]
        refine r_aload_n (v := .ref (eA E2 8 0)) dX8_statute_67 rfl (rl_ref _) ?_
        refine r_get (v := .ref (eA E2 907 0)) dX8_statute_68 fl_RX8_56 (hS2.1 8 (by decide)) rfl ?_
        refine r_aload_n (v := .ref (eA E2 8 0)) dX8_statute_71 rfl (rl_ref _) ?_
        refine r_get (v := .int (V3 910 0 0)) dX8_statute_72 fl_RX8_208 (hS2.1 8 (by decide)) rfl ?_
        refine r_iload_n (x := x) dX8_statute_75 rfl ?_
        rw [v3]
        refine r_iast dX8_statute_76 rfl (by decide) (hS2.1 8 (by decide)) (by rw [hS2.2 907 0 (by decide)]; exact inI hlt (by decide)) ?_
        rw [cl (by omega)]
        refine r_aload_n (v := .ref (eA E2 8 0)) dX8_statute_77 rfl (rl_ref _) ?_
        refine r_dup dX8_statute_78 rfl ?_
        refine r_get (v := .int (up3 V3 907 0 sc x 910 0 0)) dX8_statute_79 fl_RX8_208 (hS2.1 8 (by decide)) rfl ?_
        refine r_iconst (v := (1 : Int32)) dX8_statute_82 (by decide) ?_
        refine r_iadd dX8_statute_83 ?_
        refine r_put dX8_statute_84 fp_RX8_208 rfl (hS2.1 8 (by decide)) rfl rfl ?_
        refine r_aload_n (v := .ref (eA E2 8 0)) dX8_statute_87 rfl (rl_ref _) ?_
        refine r_get (v := .int (up3 (up3 V3 907 0 sc x) 910 0 0 (up3 V3 907 0 sc x 910 0 0 + 1) 910 0 0)) dX8_statute_88 fl_RX8_208 (hS2.1 8 (by decide)) rfl ?_
        refine r_iret dX8_statute_91 rfl ⟨by decide, by decide⟩ ⟨_, rfl, ?_⟩
        show K (up3 (up3 V3 907 0 sc x) 910 0 0 (up3 V3 907 0 sc x 910 0 0 + 1) 910 0 0) E2 (up3 (up3 V3 907 0 sc x) 910 0 0 (up3 V3 907 0 sc x 910 0 0 + 1))
        rw [up3_s, up3_f (f' := 910) (f := 907) (by decide), v3, nI_1, hE2, hE', hV3]
        exact k5 hx hlt w1 w3 V1 q a g hO hgg
      · refine r_bipush (v := (-100 : Int32)) dX8_statute_46 (by decide) ?_
        refine r_iload_n (x := r) dX8_statute_48 rfl ?_
        refine r_isub dX8_statute_49 ?_
        rcases hr with ⟨f, hf, w⟩ | ⟨w1, w2, w3⟩
        · rw [w]
          exact r_iret dX8_statute_50 rfl ⟨by decide, by decide⟩ ⟨_, rfl, k4 hx hlt f V1 hf hO⟩
        · exact absurd w2 q5
    · have e : sc = 20 := by
        have : ¬ sc < 20 := fun w => q3 (nI_lt (b := 20) w (by decide))
        omega
      refine r_bipush (v := (-3 : Int32)) dX8_statute_22 (by decide) ?_
      exact r_iret dX8_statute_24 rfl ⟨by decide, by decide⟩ ⟨_, rfl, k2 hx e⟩
  · rw [bz0] at q
    refine r_iconst (v := (-1 : Int32)) dX8_statute_11 (by decide) ?_
    exact r_iret dX8_statute_12 rfl ⟨by decide, by decide⟩ ⟨_, rfl, k1 q⟩
end Gift

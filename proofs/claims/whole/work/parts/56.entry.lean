/-! THE LAW'S ENTRY: what never changes, out of the tables and the premises -/
theorem e_arr {args : Array Value} {s : State} {ty : FieldType} (h : (Cond.arrayClass ty).before args s = true) : ∃ cA : ClassId, ArrOfT s cA ty ∧ s.vm.findClass ("[" ++ ty.toString) = some cA := by
  obtain ⟨c, k, comp, h1, h2, h3⟩ := Cond.arrayClass_spec h
  exact ⟨c, fun n z => ⟨fun k h => (by cases h), k, h2, comp, h3⟩, h1⟩
theorem e_over {args : Array Value} {s : State} {C : String} (h : (Cond.arrayOver (.object C)).before args s = true) : ∃ cA : ClassId, ArrOfT s cA (.object C) ∧ va_RA s cA (.object C) := by
  obtain ⟨comp, c, k, h1, h2, h3, h4, h5⟩ := Cond.arrayOver_spec h
  exact ⟨c, fun n z => ⟨fun k h => (by cases h), k, h3, comp, h4⟩, k, comp, h3, h4, h1, h5⟩
def tmS (i : Nat) : Term := match i with
  | 0 => .string RX4 9
  | _ => .string RX4 69
theorem e_fl1 : ∀ i, i < 2 → Cond.exactly (tmS i) "java/lang/String" ∈ flatC (Jvm.Cond.and given_1 narrow_1) := by decide +kernel
theorem e_fl2 : ∀ i, i < 2 → Cond.eq (.field (tmS i) "java/lang/String" "coder" "B") (.int 0) ∈ flatC (Jvm.Cond.and given_1 narrow_1) := by decide +kernel
theorem e_fl3 : ∀ i, i < 2 → Cond.arrayOf (.field (tmS i) "java/lang/String" "value" "[B") .byte ∈ flatC (Jvm.Cond.and given_1 narrow_1) := by decide +kernel
theorem e_fl4 : ∀ i, i < 2 → Cond.eq (.length (.field (tmS i) "java/lang/String" "value" "[B")) (.int (Int32.ofNat (sLen.getD i 0))) ∈ flatC (Jvm.Cond.and given_1 narrow_1) := by decide +kernel
theorem e_fl5 : ∀ i, i < 2 → ∀ j, j < sLen.getD i 0 → Cond.eq (.elem (.field (tmS i) "java/lang/String" "value" "[B") (.int (Int32.ofNat j))) (.int ((sByt.getD i []).getD j 0)) ∈ flatC (Jvm.Cond.and given_1 narrow_1) := by decide +kernel
theorem e_fl6 : Cond.not (Cond.eq (tmS 0) (tmS 1)) ∈ flatC (Jvm.Cond.and given_1 narrow_1) := by decide +kernel
theorem e_fl7 : Cond.eq (tmS 1) (.string RX6 42) ∈ flatC (Jvm.Cond.and given_1 narrow_1) := by decide +kernel
theorem e_fl8 : Cond.eq (tmS 0) (.string RX6 71) ∈ flatC (Jvm.Cond.and given_1 narrow_1) := by decide +kernel
theorem e_fl9 : Cond.arrayOf (.static RX8 "MOST_TOLD" "[I") .int ∈ flatC (Jvm.Cond.and given_1 narrow_1) := by decide +kernel
theorem e_fl10 : Cond.eq (.length (.static RX8 "MOST_TOLD" "[I")) (.int (Int32.ofNat 4)) ∈ flatC (Jvm.Cond.and given_1 narrow_1) := by decide +kernel
theorem e_fl11 : ∀ j, j < 4 → Cond.eq (.elem (.static RX8 "MOST_TOLD" "[I") (.int (Int32.ofNat j))) (.int (mTold.getD j 0)) ∈ flatC (Jvm.Cond.and given_1 narrow_1) := by decide +kernel
theorem e_fl12 : Cond.eq (.static "java/lang/String" "COMPACT_STRINGS" "Z") (.int 1) ∈ flatC (Jvm.Cond.and given_1 narrow_1) := by decide +kernel
theorem e_t1 : Cond.stringRef RX4 9 "pknwmyfd" ∈ lw_tbl := by decide +kernel
theorem e_t2 : Cond.stringRef RX4 69 "!+-*<=>&|" ∈ lw_tbl := by decide +kernel
theorem e_t3 : Cond.stringRef RX6 42 "!+-*<=>&|" ∈ lw_tbl := by decide +kernel
theorem e_t4 : Cond.stringRef RX6 71 "pknwmyfd" ∈ lw_tbl := by decide +kernel
theorem e_t5 : Cond.laysStatic RX8 "MOST_TOLD" "[I" ∈ lw_tbl := by decide +kernel
theorem e_t6 : Cond.initialized RX8 ∈ lw_tbl := by decide +kernel
theorem e_t7 : Cond.laysStatic "java/lang/String" "COMPACT_STRINGS" "Z" ∈ lw_tbl := by decide +kernel
theorem e_t8 : Cond.initialized "java/lang/String" ∈ lw_tbl := by decide +kernel
theorem e_t9 : Cond.castable "[I" "java/lang/Cloneable" ∈ lw_tbl := by decide +kernel
theorem e_t10 : Cond.arrayOver (.object RX2) ∈ lw_tbl := by decide +kernel
theorem e_t11 : Cond.arrayOver (.object RX1) ∈ lw_tbl := by decide +kernel
theorem e_t12 : Cond.arrayOver (.object RX7) ∈ lw_tbl := by decide +kernel
theorem e_t13 : Cond.methodLinkNest RX8 9 yX3_init RX8 ∈ lw_tbl := by decide +kernel
theorem e_t14 : Cond.methodLinkNest RX8 18 yX5_init RX8 ∈ lw_tbl := by decide +kernel
theorem e_t15 : Cond.methodLinkNest RX8 25 yX0_init RX8 ∈ lw_tbl := by decide +kernel
theorem e_t16 : Cond.methodLinkNest RX8 32 yX6_init RX8 ∈ lw_tbl := by decide +kernel
theorem e_t17 : Cond.methodLinkNest RX8 39 yX4_init RX8 ∈ lw_tbl := by decide +kernel
theorem e_t18 : Cond.arrayClass .int ∈ lw_tbl := by decide +kernel
theorem e_t19 : Cond.arrayClass .byte ∈ lw_tbl := by decide +kernel
theorem e_t20 : Cond.arrayClass .boolean ∈ lw_tbl := by decide +kernel
theorem e_tb {b : Nat} {s : State} (hts : ∀ w ∈ lw_tbl, w.before #[Value.ref b] s = true) : ∀ w ∈ tb, w.before #[Value.ref b] s = true := fun w hw => hts w (List.mem_filter.mp hw).1
theorem e_cls {b : Nat} {s : State} (hts : ∀ w ∈ tb, w.before #[Value.ref b] s = true) : ∃ D : va_G, ∀ (k : Nat) (q : vw_C), cls[k]? = some q → u_Kn s q.1 q.2.1 q.2.2 (D.1 k) (D.2 k) := by
  have h : ∀ k : Nat, ∃ p : ClassId × (Nat → Nat), ∀ q : vw_C, cls[k]? = some q → u_Kn s q.1 q.2.1 q.2.2 p.1 p.2 := by
    intro k
    have one : ∀ {C : String} {T : u_T} {N : Nat}, (∀ w ∈ u_ws C T N, w ∈ tb) → Cond.instantiable C N ∈ tb → cls[k]? = some (C, T, N) → ∃ p : ClassId × (Nat → Nat), ∀ q : vw_C, cls[k]? = some q → u_Kn s q.1 q.2.1 q.2.2 p.1 p.2 := by
      intro C T N h1 h2 h3
      obtain ⟨c, i, hk⟩ := u_known hts h1 (hts _ h2)
      refine ⟨(c, i), fun q hq => ?_⟩
      rw [h3] at hq
      cases hq
      exact hk
    match k with
    | 0 => exact one uw_X0 ki_X0 rfl
    | 1 => exact one uw_X1 ki_X1 rfl
    | 2 => exact one uw_X2 ki_X2 rfl
    | 3 => exact one uw_X3 ki_X3 rfl
    | 4 => exact one uw_X4 ki_X4 rfl
    | 5 => exact one uw_X5 ki_X5 rfl
    | 6 => exact one uw_X6 ki_X6 rfl
    | 7 => exact one uw_X7 ki_X7 rfl
    | 8 => exact one uw_X8 ki_X8 rfl
    | 9 => exact one uw_X9 ki_X9 rfl
    | k + 10 => exact ⟨(0, fun _ => 0), fun q hq => by simp [cls] at hq⟩
  obtain ⟨f, hf⟩ := Classical.axiomOfChoice h
  exact ⟨(fun k => (f k).1, fun k => (f k).2), hf⟩
theorem e_KU {b : Nat} {s : State} (hts : ∀ w ∈ lw_tbl, w.before #[Value.ref b] s = true) (hgv : (Jvm.Cond.and given_1 narrow_1).before #[Value.ref b] s = true) : ∃ G : Gt, gB G = s.heap ∧ KU G s := by
  have hs := flat_of_before _ hgv
  have hA : ∀ a : Nat, a < s.heap.size → ¬ s.heap.size ≤ a := fun a h => Nat.not_le.mpr h
  obtain ⟨D, hD⟩ := e_cls (e_tb hts)
  obtain ⟨t0, r0, n0⟩ := e_arr (hts _ e_t18)
  obtain ⟨t1, r1, n1⟩ := e_arr (hts _ e_t19)
  obtain ⟨t2, r2, n2⟩ := e_arr (hts _ e_t20)
  obtain ⟨t3, r3, n3⟩ := e_over (hts _ e_t10)
  obtain ⟨t4, r4, n4⟩ := e_over (hts _ e_t11)
  obtain ⟨t5, r5, n5⟩ := e_over (hts _ e_t12)
  obtain ⟨adK, adV, hS, hev⟩ := vk_Sof (args := #[Value.ref b]) (s := s) (N := 2) (tm := tmS) (len := sLen) (byt := sByt) (A := fun a => s.heap.size ≤ a) (by decide) (fun i hi => hs _ (e_fl1 i hi)) (fun i hi => hs _ (e_fl2 i hi)) (fun i hi => hs _ (e_fl3 i hi)) (fun i hi => hs _ (e_fl4 i hi)) (fun i hi j hj => hs _ (e_fl5 i hi j hj)) (fun i j hi hj hne => by
    have : (i = 0 ∧ j = 1) ∨ (i = 1 ∧ j = 0) := by omega
    rcases this with ⟨rfl, rfl⟩ | ⟨rfl, rfl⟩
    · exact Or.inl (hs _ e_fl6)
    · exact Or.inr (hs _ e_fl6)) hA
  obtain ⟨mt, hmt, hT⟩ := va_Tof (args := #[Value.ref b]) (s := s) (tm := .static RX8 "MOST_TOLD" "[I") (ty := .int) (N := 4) (f := fun j => .int (mTold.getD j 0)) (A := fun a => s.heap.size ≤ a) (by decide) (hs _ e_fl9) (va_eqt (hs _ e_fl10)) (fun j hj => va_eqt (hs _ (e_fl11 j hj))) hA
  have v0 := hev 0 (by decide)
  have v1 := hev 1 (by decide)
  refine ⟨(D, fun k => if k = 0 then t0 else if k = 1 then t1 else if k = 2 then t2 else if k = 3 then t3 else if k = 4 then t4 else t5, s.heap, adK, adV, mt), rfl, ⟨hD, fun k q hq => ?_⟩, vk_R.of (hts _ e_t1) v0, vk_R.of (hts _ e_t2) v1, vk_R.of (hts _ e_t3) (va_eqR (hs _ e_fl7) v1), vk_R.of (hts _ e_t4) (va_eqR (hs _ e_fl8) v0), hS, va_Zref (hts _ e_t5) (hts _ e_t6) hmt hA, hT, va_Zof (hts _ e_t7) (hts _ e_t8) (va_eqi (hs _ e_fl12)) hA, va_Nw.of rfl (hts _ e_t9), va_AO.of (hts _ e_t10), va_AO.of (hts _ e_t11), va_AO.of (hts _ e_t12), va_Nw.of rfl (hts _ e_t13), va_Nw.of rfl (hts _ e_t14), va_Nw.of rfl (hts _ e_t15), va_Nw.of rfl (hts _ e_t16), va_Nw.of rfl (hts _ e_t17)⟩
  match k, hq with
  | 0, hq => cases hq; exact ⟨r0, n0⟩
  | 1, hq => cases hq; exact ⟨r1, n1⟩
  | 2, hq => cases hq; exact ⟨r2, n2⟩
  | 3, hq => cases hq; exact ⟨r3, n3⟩
  | 4, hq => cases hq; exact ⟨r4, n4⟩
  | 5, hq => cases hq; exact ⟨r5, n5⟩
  | k + 6, hq => simp [tyL] at hq

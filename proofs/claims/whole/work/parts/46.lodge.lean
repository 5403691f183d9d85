/-! the lodge's own constructor -/
theorem dF {c : Nat} {ty : Nat → FieldType} {N : Nat} (h : ((List.range N).all (fun j => decide (defaultValue (ty j) = vp_V (z0 c) j))) = true) : ∀ j, j < N → defaultValue (ty j) = vp_V (z0 c) j := fun j hj => by
  have := List.all_eq_true.mp h j (List.mem_range.mpr hj)
  exact of_decide_eq_true this
section CRows3
variable {l : Launch} {G : Gt} {own nm : String} {cc : ByteArray} {nL : Nat} {ret : Option FieldType} {rm : Room} {q k n : Nat} {ws : va_W} {pc : Nat} {ll : List (Nat × Value)} {st : List Value} {Post : Option Value → va_W → Prop}
theorem c_new {idx ci N : Nat} {Cn : String} {T : u_T} (ty : Nat → FieldType) (hd : decode cc pc = .ok (.new idx, 3)) (hc : cls[ci]? = some (Cn, T, N)) (hin : ∀ w ∈ u_ws Cn T N, w ∈ tb) (hty : ∀ j, j < N → parseFieldDescriptor (T j).2.2.1 = some (ty j)) (hlink : Cond.classLink own idx Cn ∈ tb) (hinst : Cond.instantiable Cn N ∈ tb) (hini : Cond.initialized Cn ∈ tb) (hfs : ∀ j, j < N → defaultValue (ty j) = vp_V (z0 ci) j) (hcells : k + 1 ≤ rm.cells) (hslots : n + N ≤ rm.slots) (kk : ∀ b : Nat, EvC l G own nm cc nL ret rm q (k + 1) (n + N) (ws ++ [(b, .inr (ci, z0 ci))]) (pc + 3) ll (.ref b :: st) Post) : EvC l G own nm cc nL ret rm q k n ws pc ll st Post := by
  intro p e s m args below meth c H locs ls C hN hB hq hP hD hS hl
  obtain ⟨hx, hb, hr, hml, ho, hts, hlk, hK⟩ := And.intro True.intro C |>.2
  exact va_new hx hb hts hin ty hty ho (hts _ hlink) (hts _ hinst) (hts _ hini) hK.1 hP hD hS (fun z h => Or.inr h) hc hfs hcells hslots hd (fun b H1 hP1 hD1 hS1 => kk b p e s m args below meth c H1 locs ls C hN hB hq hP1 hD1 hS1 hl)
theorem app_l {w1 w2 : va_W} {i : Nat} {x : Nat × va_E} (h : w1[i]? = some x) : (w1 ++ w2)[i]? = some x := by
  rw [List.getElem?_append_left (List.getElem?_eq_some_iff.mp h).1]
  exact h
/-- behind a constructor of the last cell -/
theorem c_after {w1 w : va_W} {b sz : Nat} {e0 : va_E} {D : va_G} {H H1 H0 : Heap} {locs L : List Loc} (hq2 : H0.size = sz) (hP : va_P D cls (w1 ++ [(b, e0)]) H) (hD : va_D (Aq q sz) (w1 ++ [(b, e0)])) (hS : va_S (Aq q sz) H0 H locs) (hP1 : va_P D cls w H1) (hD1 : va_D (Aq b H.size) w) (hz : H.size ≤ H1.size) (hk : ∀ x, x < H.size → x ≠ b → H1[x]? = H[x]?) (hL : ∀ y ∈ L, Aq b H.size y.base) : va_P D cls (w1 ++ w) H1 ∧ va_D (Aq q sz) (w1 ++ w) ∧ va_S (Aq q sz) H0 H1 (locs ++ L) := by
  have hb : Aq q sz b := hD.2 w1.length (b, e0) (by simp)
  have hw1 : ∀ (i : Nat) (x : Nat × va_E), w1[i]? = some x → x.1 < H.size ∧ x.1 ≠ b := fun i x hx => by
    refine ⟨(hP i x (app_l hx)).lt, fun e => ?_⟩
    have := hD.1 i w1.length x (b, e0) (app_l hx) (by simp) e
    have := (List.getElem?_eq_some_iff.mp hx).1
    omega
  have hup : ∀ x, Aq b H.size x → Aq q sz x := fun x h => by
    rcases h with h | h
    · rw [h]
      exact hb
    · exact Or.inr (by have := hS.1; omega)
  refine ⟨va_P.app (fun i x hx => (hP i x (app_l hx)).kept (hk _ (hw1 i x hx).1 (hw1 i x hx).2)) hP1, va_D.app ⟨fun i j x y hx hy e => hD.1 i j x y (app_l hx) (app_l hy) e, fun i x hx => hD.2 i x (app_l hx)⟩ (hD1.weaken (fun _ x _ h => hup _ h)) (fun i j x y hx hy e => ?_), Nat.le_trans hS.1 hz, fun x h1 h2 => ?_, fun y hy => ?_⟩
  · rcases hD1.2 j y hy with h | h
    · exact (hw1 i x hx).2 (e.trans h)
    · have := (hw1 i x hx).1
      omega
  · rw [hk x (Nat.lt_of_lt_of_le h1 hS.1) (fun e => h2 (by rw [e]; exact hb))]
    exact hS.2.1 x h1 h2
  · rcases List.mem_append.mp hy with h | h
    · exact hS.2.2 y h
    · exact hup _ (hL y h)
theorem c_callN {idx b nY : Nat} {y : MethodName} {cy : ByteArray} {rY : Room} {w1 : va_W} {e0 : va_E} {rest : List Value} {Pp : va_W → Prop} (hd : decode cc pc = .ok (.invokespecial idx, 3)) (hm : Cond.code y cy nY none ∈ tb ∧ Cond.instanceMethod y ∈ tb ∧ Cond.initialized y.cls ∈ tb) (hy : y.name = "<init>") (hyd : y.cls ≠ "java/lang/invoke/MethodHandle" ∧ y.cls ≠ "java/lang/invoke/VarHandle" ∧ (parseMethodDescriptor y.desc).map (fun d => d.parameters.length) = some 0) (hl' : ∀ U, NWs U → va_Nw (.methodLinkNest own idx y RX8) U) (hrm : rY.frames + 1 ≤ rm.frames ∧ 8 + (nY + 11) + rY.locals ≤ rm.locals) (hcs : k + rY.cells ≤ rm.cells ∧ n + rY.slots ≤ rm.slots) (hcat : (rest.map fun v => v.category).sum ≤ 8)
    (hC : ∀ sz, Ct l G y cy nY none rY b sz e0 [.ref b] (fun r w => r = none ∧ Pp w)) (kk : ∀ w, Pp w → EvC l G own nm cc nL ret rm q (k + rY.cells) (n + rY.slots) (w1 ++ w) (pc + 3) ll rest Post) : EvC l G own nm cc nL ret rm q k n (w1 ++ [(b, e0)]) pc ll (.ref b :: rest) Post := by
  intro p e s m args below meth c H locs ls C hN hB hq hP hD hS hl
  obtain ⟨hx, hb, hr, hml, ho, hts, hlk, hK⟩ := And.intro True.intro C |>.2
  obtain ⟨m1, m2, m4⟩ := hm
  have hBH : Bz G H := ⟨Nat.le_trans hB.1 hS.1, fun x hx' => by
    rw [hS.2.1 x (Nat.lt_of_lt_of_le hx' hB.1) (fun z => z.elim (fun y => by omega) (fun y => by have := hB.1; omega))]
    exact hB.2 x hx'⟩
  have hqb : (gB G).size ≤ b := by
    rcases hD.2 w1.length (b, e0) (by simp) with h | h
    · have h : b = q := h
      omega
    · have h : s.heap.size ≤ b := h
      have := hB.1
      omega
  have hcn : va_CN rm s args own idx y RX8 cy nY none (Cond.code y cy nY none :: tb) rY rY.cells rY.slots 0 := va_cnB 0 hts (tb_GoodIn m1) rfl rfl rfl (hl' s hK.2.2.2.2.2.2.2.2.2) (hts _ m4) hyd hrm
  have hrun := va_runIN (e := e) (below := below) (meth := meth) (locs := locs) (cells := k) (slots := n) (g := F0 m pc ls (.ref b :: rest)) (As := []) (rest := rest) ⟨hx, hb, hml, ho, hts⟩ (hC H.size) ⟨hcn, hy, hts _ m2⟩ ⟨fun a U g mk h => ⟨h.1, h.2.1.same (s := U) rfl, h.2.2⟩, fun U hU hW => ⟨rfl, hK.warm hW, by rw [hU]; exact ⟨hBH, rfl, hqb, hP w1.length _ (by simp)⟩⟩⟩ rfl rfl hl.1 rfl (lv_room hcat) hd hcs
  intro T0 hT0 X
  obtain ⟨v, st₀, t, T', L, z0, X', zL, z1, z2, ⟨r, w, w1', ⟨w2, w3⟩, w4, w5, w6, w7⟩, z3⟩ := hrun T0 hT0 X
  cases w1'
  subst w2
  rw [z0] at w5 w6 w7
  rw [← z1] at w4 w6 w7
  obtain ⟨f1, f2, f3⟩ := c_after rfl hP hD hS w4 w5 w6 w7 zL
  obtain ⟨t2, a1, c1⟩ := kk w w3 p e s m args below meth c T'.heap (locs ++ L) ls C hN hB hq f1 f2 f3 hl T' rfl X'
  exact ⟨t2, z3 t2 a1, c1⟩
end CRows3
abbrev rm_X8_init : Room := { frames := 3, cells := 22, slots := 1000, locals := 60 }
def lb (q : Nat) (bP bS bC bT bR : Nat → Nat) (a5 a6 a7 a8 : Nat) : Nat → Nat := fun x => match x / 100 with
  | 4 => bP x
  | 6 => bS x
  | 1 => bC x
  | 7 => bT x
  | 5 => bR x
  | 0 => match x with
    | 3 => bP x
    | 5 => bS x
    | 0 => bC x
    | 6 => bT x
    | 4 => bR x
    | _ => q
  | _ => [0, 0, 0, 0, 0, a5, a6, a7, a8].getD (x - 900) 0
def LL8 : List Nat := [3, 400, 401, 402, 403, 404, 5, 600, 601, 0, 100, 6, 700, 701, 702, 4, 500, 501, 905, 906, 907, 908]
def zcell (G : Gt) (b : Nat → Nat) (id : Nat) : va_E := if id < 100 then .inr (id, zs b id 0 (fkl id)) else zc G id
theorem ct_X8_init {l : Launch} {G : Gt} {q sz : Nat} : Ct l G yX8_init cX8_init 1 none rm_X8_init q sz (.inr (8, z0 8)) [.ref q] (fun r w => r = none ∧ ∃ b : Nat → Nat, b 8 = q ∧ w = (8 :: LL8).map (fun id => (b id, zcell G b id))) := by
  refine Ct.of (by decide +kernel) (Nat.le_of_ble_eq_true rfl) (show EvC l G RX8 "<init>" cX8_init 1 none rm_X8_init q 0 0 [(q, .inr (8, z0 8))] 0 [(0, .ref q)] [] _ from ?_)
  refine c_aload_n (v := .ref q) dX8_init_0 rfl (rl_ref _) ?_
  refine c_objInit dX8_init_1 mo_X8_init (by decide) (by decide) ?_
  refine c_aload_n (v := .ref q) dX8_init_4 rfl (rl_ref _) ?_
  refine c_new tyX3 dX8_init_5 (ci := 3) rfl uw_X3 tyX3_ok kw_RX8_7 ki_X3 mi_X3_init.2.2 (dF rfl) (by decide) (by decide) (fun p3 => ?_)
  refine c_dup dX8_init_8 rfl ?_
  refine c_callN (w1 := [(q, .inr (8, z0 8))]) (rY := rm_X3_init) dX8_init_9 mi_X3_init rfl (by decide +kernel) (fun U h => h.2.2.2.2.1) (by decide) (by decide) (Nat.le_of_ble_eq_true rfl) (fun sz => ct_X3_init) (fun w hw => ?_)
  obtain ⟨bP, hp3, rfl⟩ := hw
  refine c_putF (q0 := 0) dX8_init_12 fq_RX8_10 rfl rfl rfl (Nat.le_of_ble_eq_true rfl) rfl ?_
  refine c_aload_n (v := .ref q) dX8_init_15 rfl (rl_ref _) ?_
  refine c_new tyX5 dX8_init_16 (ci := 5) rfl uw_X5 tyX5_ok kw_RX8_16 ki_X5 mi_X5_init.2.2 (dF rfl) (by decide) (by decide) (fun p5 => ?_)
  refine c_dup dX8_init_19 rfl ?_
  refine c_callN (rY := rm_X5_init) dX8_init_20 mi_X5_init rfl (by decide +kernel) (fun U h => h.2.2.2.2.2.1) (by decide) (by decide) (Nat.le_of_ble_eq_true rfl) (fun sz => ct_X5_init) (fun w hw => ?_)
  obtain ⟨bS, hp5, rfl⟩ := hw
  refine c_putF (q0 := 0) dX8_init_23 fq_RX8_19 rfl rfl rfl (Nat.le_of_ble_eq_true rfl) rfl ?_
  refine c_aload_n (v := .ref q) dX8_init_26 rfl (rl_ref _) ?_
  refine c_new tyX0 dX8_init_27 (ci := 0) rfl uw_X0 tyX0_ok kw_RX8_23 ki_X0 mi_X0_init.2.2 (dF rfl) (by decide) (by decide) (fun p0 => ?_)
  refine c_dup dX8_init_30 rfl ?_
  refine c_callN (rY := rm_X0_init) dX8_init_31 mi_X0_init rfl (by decide +kernel) (fun U h => h.2.2.2.2.2.2.1) (by decide) (by decide) (Nat.le_of_ble_eq_true rfl) (fun sz => ct_X0_init) (fun w hw => ?_)
  obtain ⟨bC, hp0, rfl⟩ := hw
  refine c_putF (q0 := 0) dX8_init_34 fq_RX8_26 rfl rfl rfl (Nat.le_of_ble_eq_true rfl) rfl ?_
  refine c_aload_n (v := .ref q) dX8_init_37 rfl (rl_ref _) ?_
  refine c_new tyX6 dX8_init_38 (ci := 6) rfl uw_X6 tyX6_ok kw_RX8_30 ki_X6 mi_X6_init.2.2 (dF rfl) (by decide) (by decide) (fun p6 => ?_)
  refine c_dup dX8_init_41 rfl ?_
  refine c_callN (rY := rm_X6_init) dX8_init_42 mi_X6_init rfl (by decide +kernel) (fun U h => h.2.2.2.2.2.2.2.1) (by decide) (by decide) (Nat.le_of_ble_eq_true rfl) (fun sz => ct_X6_init) (fun w hw => ?_)
  obtain ⟨bT, hp6, rfl⟩ := hw
  refine c_putF (q0 := 0) dX8_init_45 fq_RX8_33 rfl rfl rfl (Nat.le_of_ble_eq_true rfl) rfl ?_
  refine c_aload_n (v := .ref q) dX8_init_48 rfl (rl_ref _) ?_
  refine c_new tyX4 dX8_init_49 (ci := 4) rfl uw_X4 tyX4_ok kw_RX8_37 ki_X4 mi_X4_init.2.2 (dF rfl) (by decide) (by decide) (fun p4 => ?_)
  refine c_dup dX8_init_52 rfl ?_
  refine c_callN (rY := rm_X4_init) dX8_init_53 mi_X4_init rfl (by decide +kernel) (fun U h => h.2.2.2.2.2.2.2.2) (by decide) (by decide) (Nat.le_of_ble_eq_true rfl) (fun sz => ct_X4_init) (fun w hw => ?_)
  obtain ⟨bR, hp4, rfl⟩ := hw
  refine c_putF (q0 := 0) dX8_init_56 fq_RX8_40 rfl rfl rfl (Nat.le_of_ble_eq_true rfl) rfl ?_
  refine c_aload_n (v := .ref q) dX8_init_59 rfl (rl_ref _) ?_
  refine c_bipush (v := (30 : Int32)) dX8_init_60 (by decide) ?_
  refine c_fldQ (N := 30) (t := 4) (L := 13) dX8_init_62 dX8_init_65 kl_RX8_44 (fun _ h => h.2.2.1) rfl (by decide) (by decide) (by decide) (by decide) (by decide) fq_RX8_46 rfl (by decide) (fun _ => rfl) (fun _ => rfl) rfl (fun a5 hL => ?_)
  refine c_aload_n (v := .ref q) dX8_init_68 rfl (rl_ref _) ?_
  refine c_bipush (v := (20 : Int32)) dX8_init_69 (by decide) ?_
  refine c_fldQ (N := 20) (t := 5) (L := 13) dX8_init_71 dX8_init_74 kl_RX8_50 (fun _ h => h.2.2.2.1) rfl (by decide) (by decide) (by decide) (by decide) (by decide) fq_RX8_52 rfl (by decide) (fun _ => rfl) (fun _ => rfl) rfl (fun a6 hL => ?_)
  refine c_aload_n (v := .ref q) dX8_init_77 rfl (rl_ref _) ?_
  refine c_bipush (v := (20 : Int32)) dX8_init_78 (by decide) ?_
  refine c_fldA (N := 20) (t := 0) (L := 13) dX8_init_80 dX8_init_82 ka_int rfl rfl (fun _ => rfl) (by decide) (by decide) (by decide) (by decide) (by decide) fq_RX8_56 rfl (by decide) (fun _ => rfl) (fun _ => rfl) rfl (fun a7 hL => ?_)
  refine c_aload_n (v := .ref q) dX8_init_85 rfl (rl_ref _) ?_
  refine c_bipush (v := (40 : Int32)) dX8_init_86 (by decide) ?_
  refine c_fldA (N := 40) (t := 0) (L := 13) dX8_init_88 dX8_init_90 ka_int rfl rfl (fun _ => rfl) (by decide) (by decide) (by decide) (by decide) (by decide) fq_RX8_60 rfl (by decide) (fun _ => rfl) (fun _ => rfl) rfl (fun a8 hL => ?_)
  subst hp3
  subst hp5
  subst hp0
  subst hp6
  subst hp4
  exact c_vret dX8_init_93 rfl ⟨by decide, by decide⟩ ⟨rfl, lb q bP bS bC bT bR a5 a6 a7 a8, rfl, rfl⟩

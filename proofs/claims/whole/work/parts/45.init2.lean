/-! constructors of Part, Gift, Text; Arrays.copyOf; Reckoner's, with a String's length -/
section CRows2
variable {l : Launch} {G : Gt} {own nm : String} {cc : ByteArray} {nL : Nat} {ret : Option FieldType} {rm : Room} {q k n : Nat} {ws : va_W} {pc : Nat} {ll : List (Nat × Value)} {st : List Value} {Post : Option Value → va_W → Prop}
theorem c_alen {a q0 N : Nat} {f : Nat → Int32} (hd : decode cc pc = .ok (.arraylength, 1)) (he : ws[q0]? = some (a, .inl (gT G 0, N, .inl f))) (kk : EvC l G own nm cc nL ret rm q k n ws (pc + 1) ll (.int (nI N) :: st) Post) : EvC l G own nm cc nL ret rm q k n ws pc ll (.ref a :: st) Post := by
  intro p e s m args below meth c H locs ls C hN hB hq hP hD hS hl
  obtain ⟨hx, hb, hr, hml, ho, hts, hlk, hK⟩ := And.intro True.intro C |>.2
  exact va_alen hx hb hK.1 hP q0 0 he (ty := .int) rfl rfl hd (kk p e s m args below meth c H locs ls C hN hB hq hP hD hS hl)
theorem c_mmin {idx : Nat} {x y : Int32} (hd : decode cc pc = .ok (.invokestatic idx, 3)) (hlink : Cond.methodLink own idx yJ9_min_7cf53 ∈ tb) (hf : 1 ≤ rm.frames) (hlo : (st.map fun v => v.category).sum + 13 ≤ rm.locals) (hc : k ≤ rm.cells ∧ n ≤ rm.slots) (kk : EvC l G own nm cc nL ret rm q k n ws (pc + 3) ll (.int (if y < x then y else x) :: st) Post) : EvC l G own nm cc nL ret rm q k n ws pc ll (.int y :: .int x :: st) Post := by
  intro p e s m args below meth c H locs ls C hN hB hq hP hD hS hl
  obtain ⟨hx, hb, hr, hml, ho, hts, hlk, hK⟩ := And.intro True.intro C |>.2
  exact va_mmin hx hb (by rw [hml]; exact hl.1.symm) ho (hts _ hlink) (hts _ ms_J9_min_7cf53.2.1) (hts _ ms_J9_min_7cf53.2.2.1) (hts _ ms_J9_min_7cf53.1) hf hlo hc.1 hc.2 hd (kk p e s m args below meth c H locs ls C hN hB hq hP hD hS hl)
theorem kcp_1 : Cond.methodLink RJ7 150 arraycopyName ∈ tb := tb_in (List.mem_of_getElem? (i := 687) (by decide +kernel)) rfl
theorem kcp_2 : Cond.static arraycopyName ∈ tb := tb_in (List.mem_of_getElem? (i := 688) (by decide +kernel)) rfl
theorem kcp_3 : Cond.native arraycopyName ∈ tb := tb_in (List.mem_of_getElem? (i := 689) (by decide +kernel)) rfl
theorem kcp_4 : Cond.initialized "java/lang/System" ∈ tb := tb_in (List.mem_of_getElem? (i := 56) (by decide +kernel)) rfl
theorem kcl_1 : Cond.methodLink RJ7 316 ⟨"[I", "clone", "()Ljava/lang/Object;"⟩ ∈ tb := tb_in (List.mem_of_getElem? (i := 679) (by decide +kernel)) rfl
theorem kcl_2 : Cond.sameMethod "[I" "java/lang/Object" "clone" "()Ljava/lang/Object;" ∈ tb := tb_in (List.mem_of_getElem? (i := 680) (by decide +kernel)) rfl
theorem kcl_3 : Cond.native ⟨"java/lang/Object", "clone", "()Ljava/lang/Object;"⟩ ∈ tb := tb_in (List.mem_of_getElem? (i := 681) (by decide +kernel)) rfl
theorem kcl_4 : Cond.instanceMethod ⟨"java/lang/Object", "clone", "()Ljava/lang/Object;"⟩ ∈ tb := tb_in (List.mem_of_getElem? (i := 682) (by decide +kernel)) rfl
theorem kcl_5 : Cond.selects "[I" ⟨"[I", "clone", "()Ljava/lang/Object;"⟩ ⟨"java/lang/Object", "clone", "()Ljava/lang/Object;"⟩ ∈ tb := tb_in (List.mem_of_getElem? (i := 683) (by decide +kernel)) rfl
theorem kcl_6 : Cond.classLink RJ7 317 "[I" ∈ tb := tb_in (List.mem_of_getElem? (i := 685) (by decide +kernel)) rfl
theorem nm_I {s : State} (hK : KU G s) : s.vm.findClass "[I" = some (gT G 0) := by
  have h : s.vm.findClass ("[" ++ FieldType.int.toString) = some (gT G 0) := (hK.1.2 0 _ rfl).2
  rw [show ("[" ++ FieldType.int.toString) = "[I" by decide] at h
  exact h
theorem c_clone {a q0 N : Nat} {f : Nat → Int32} (hown : own = RJ7) (hd : decode cc pc = .ok (.invokevirtual 316, 3)) (he : ws[q0]? = some (a, .inl (gT G 0, N, .inl f))) (hf : 1 ≤ rm.frames) (hlo : (st.map fun v => v.category).sum + 14 ≤ rm.locals) (hcells : k + 1 ≤ rm.cells) (hslots : n + N ≤ rm.slots) (kk : ∀ b : Nat, EvC l G own nm cc nL ret rm q (k + 1) (n + N) (ws ++ [(b, .inl (gT G 0, N, .inl f))]) (pc + 3) ll (.ref b :: st) Post) : EvC l G own nm cc nL ret rm q k n ws pc ll (.ref a :: st) Post := by
  intro p e s m args below meth c H locs ls C hN hB hq hP hD hS hl
  obtain ⟨hx, hb, hr, hml, ho, hts, hlk, hK⟩ := And.intro True.intro C |>.2
  subst hown
  refine va_clone (x := (N, .inl f)) (ad := "[I") hx hb (by rw [hml]; exact hl.1.symm) ho (hts _ kcl_1) (hts _ kcl_2) (hts _ kcl_3) (hts _ kcl_4) (hts _ kcl_5) hK.2.2.2.2.2.2.2.2.2.1 hK.1 hP hD hS (fun z h => Or.inr h) q0 0 he (ty := .int) rfl (nm_I hK) (fun i v hv => ?_) hf hlo hcells hslots hd (fun b H1 hK1 hP1 hD1 hS1 => kk b p e s m args below meth c H1 locs ls C hN hB hq hP1 hD1 hS1 hl)
  have hv : (arrV (gT G 0) N (fun j => Value.int (f j))).slots[i]? = some v := hv
  by_cases hi : i < N
  · rw [arrV_read _ _ hi] at hv
    cases hv
    rfl
  · rw [Array.getElem?_eq_none (by rw [arrV_size]; omega)] at hv
    cases hv
theorem c_cast {b q0 N : Nat} {f : Nat → Int32} (hown : own = RJ7) (hd : decode cc pc = .ok (.checkcast 317, 3)) (he : ws[q0]? = some (b, .inl (gT G 0, N, .inl f))) (kk : EvC l G own nm cc nL ret rm q k n ws (pc + 3) ll (.ref b :: st) Post) : EvC l G own nm cc nL ret rm q k n ws pc ll (.ref b :: st) Post := by
  intro p e s m args below meth c H locs ls C hN hB hq hP hD hS hl
  obtain ⟨hx, hb, hr, hml, ho, hts, hlk, hK⟩ := And.intro True.intro C |>.2
  subst hown
  exact va_castE hx hb ho (hts _ kcl_6) ⟨_, hP q0 _ he, rfl, nm_I hK⟩ hd (kk p e s m args below meth c H locs ls C hN hB hq hP hD hS hl)
theorem c_copy {a b N0 N1 N : Nat} {f g : Nat → Int32} (q0 q1 : Nat) (hown : own = RJ7) (hd : decode cc pc = .ok (.invokestatic 150, 3)) (he0 : ws[q0]? = some (a, .inl (gT G 0, N0, .inl f))) (he1 : ws[q1]? = some (b, .inl (gT G 0, N1, .inl g))) (hN : N < 2 ^ 31) (h4 : N ≤ N0) (h5 : N ≤ N1) (hf : 1 ≤ rm.frames) (hlo : (st.map fun v => v.category).sum + (nativeFrameWords "java/lang/System" "arraycopy" 5 + 11) ≤ rm.locals) (kk : EvC l G own nm cc nL ret rm q k n (ws.set q1 (b, .inl (gT G 0, N1, .inl (va_cpy f g 0 0 N)))) (pc + 3) ll st Post) : EvC l G own nm cc nL ret rm q k n ws pc ll (.int (nI N) :: .int 0 :: .ref b :: .int 0 :: .ref a :: st) Post := by
  intro p e s m args below meth c H locs ls C hNm hB hq hP hD hS hl
  obtain ⟨hx, hb, hr, hml, ho, hts, hlk, hK⟩ := And.intro True.intro C |>.2
  subst hown
  refine va_copyi hx hb (by rw [hml]; exact hl.1.symm) ho (hts _ kcp_1) (hts _ kcp_3) (hts _ kcp_2) (hts _ kcp_4) hK.1 hP hD hS q0 q1 0 0 he0 he1 (ty := .int) rfl rfl rfl (by decide) (by decide) (nI_pos hN) (by rw [cl hN, cl0]; omega) (by rw [cl hN, cl0]; omega) (fun i hi => rfl) hf hlo hd (fun H1 locs1 hP1 hD1 hS1 => ?_)
  rw [cl hN, cl0] at hP1 hD1
  exact kk p e s m args below meth c H1 locs1 ls C hNm hB hq hP1 hD1 hS1 hl
/-- a String's length, all cells kept -/
theorem c_strlen {idx : Nat} (hd : decode cc pc = .ok (.invokevirtual idx, 3)) (hlink : Cond.methodLink own idx yJ0_length_8abf5 ∈ tb) (hrm : rm_Ln.frames + 1 ≤ rm.frames ∧ 8 + (1 + 11) + rm_Ln.locals ≤ rm.locals) (hkn : k + 0 ≤ rm.cells ∧ n + 0 ≤ rm.slots) (hcat : (st.map fun v => v.category).sum ≤ 8) (kk : EvC l G own nm cc nL ret rm q k n ws (pc + 3) ll (.int 8 :: st) Post) : EvC l G own nm cc nL ret rm q k n ws pc ll (.ref (gK G 0) :: st) Post := by
  intro p e s m args below meth c H locs ls C hN hB hq hP hD hS hl
  obtain ⟨hx, hb, hr, hml, ho, hts, hlk, hK⟩ := And.intro True.intro C |>.2
  obtain ⟨m1, m2, m3, m4, m5, m6, m7⟩ := mv_J0_length_8abf5
  have hBH : ∀ x, x < (gB G).size → H[x]? = (gB G)[x]? := fun x hx' => by
    rw [hS.2.1 x (Nat.lt_of_lt_of_le hx' hB.1) (fun z => z.elim (fun y => by omega) (fun y => by have := hB.1; omega))]
    exact hB.2 x hx'
  obtain ⟨G', hG'⟩ : ∃ G' : Gt, G' = (gD G, gT G, H, gK G, gV G, gM G) := ⟨_, rfl⟩
  have hAB : ∀ x, gA G' x → gA G x := fun x h => by
    rw [hG'] at h
    have h : H.size ≤ x := h
    show (gB G).size ≤ x
    have := hB.1
    have := hS.1
    omega
  have hkp : ∀ a : Nat, a < (gB G).size → ¬ gA G a → H[a]? = (gB G)[a]? := fun a h _ => hBH a h
  have hK' : KU G' s := by
    obtain ⟨k1, b1, b2, b3, b4, b5, b6, b7, b8, b9⟩ := hK
    rw [hG'] at hAB ⊢
    exact ⟨k1, b1, b2, b3, b4, (b5.kept hkp).narrow hAB, (b6.kept hkp).narrow hAB, (b7.kept hkp).narrow hAB, (b8.kept hkp).narrow hAB, b9⟩
  obtain ⟨E0, hE0⟩ : ∃ E0 : Et, E0 = (fun _ _ => 0, fun _ _ => False, fun _ _ => 0, fun _ _ => none) := ⟨_, rfl⟩
  have nL0 : ∀ id i, ¬ Lv E0 id i := fun id i h => by
    unfold Lv at h
    rw [hE0] at h
    split at h
    · exact h
    · exact h.2.2
  have hR0 : ∀ Hx : Heap, Hx = H → RepH G' E0 (fun _ _ _ => 0) Hx := fun Hx e => by
    rw [hG', e]
    exact ⟨fun _ _ => rfl, fun id i h => absurd h (nL0 id i), fun id i _ _ h _ _ => absurd h (nL0 id i)⟩
  have hC : Cl l G' yJ0_length_8abf5 cJ0_length_8abf5 1 (some .int) rm_Ln E0 (fun _ _ _ => 0) [.ref (gK G' 0)] (Qi E0 (fun x _ => x = nI 8)) := len_spec (w := 0) (by decide) rfl
  have hgk : gK G' 0 = gK G 0 := by rw [hG']
  rw [hgk] at hC
  have hrecv : ∃ cellB : Cell, H[gK G 0]? = some cellB ∧ cellB.vm.isStatics = false ∧ s.vm.findClass yJ0_length_8abf5.cls = some cellB.cls := by
    obtain ⟨cell, g1, g2, g3, -⟩ := (hK.2.2.2.2.2.1.1 0 (by decide)).1
    exact ⟨cell, by rw [hBH _ (Array.getElem?_eq_some_iff.mp g1).1]; exact g1, g2, g3⟩
  have hcb : CallB rm s args own idx yJ0_length_8abf5 cJ0_length_8abf5 1 (some .int) (Cond.code yJ0_length_8abf5 cJ0_length_8abf5 1 (some .int) :: tb) rm_Ln rm_Ln.cells rm_Ln.slots 0 := callB_of 0 hts (tb_GoodIn m1) rfl rfl rfl (hts _ m4) (hts _ hlink) ⟨m5, m6, m7⟩ hrm
  have hrun := va_runV (e := e) (below := below) (meth := meth) (locs := locs) (cells := k) (slots := n) (g := F0 m pc ls (.ref (gK G 0) :: st)) (As := []) (rest := st) ⟨hx, hb, hml, ho, hts⟩ hC ⟨hcb, hts _ m2, hts _ m3⟩ ⟨blind _, hrecv, fun U hU hW => ⟨rfl, hK'.warm hW, hR0 _ hU⟩⟩ rfl rfl hl.1 rfl (lv_room hcat) hd hkn
  intro T0 hT0 X
  obtain ⟨v, st₀, t, T', L, z0, X', zL, z1, z2, ⟨r, E', V', w1, w2, w3⟩, z3⟩ := hrun T0 hT0 X
  cases w1
  obtain ⟨rfl, x, rfl, rfl⟩ := w2
  have hkeep : ∀ y, y < H.size → T'.heap[y]? = H[y]? := fun y hy => by
    rw [z1]
    have := w3.1 y
    rw [hG'] at this
    exact this hy
  have hsz : H.size ≤ T'.heap.size := by
    refine Nat.not_lt.mp (fun z => ?_)
    have := hkeep _ z
    rw [Array.getElem?_eq_none (Nat.le_refl _), Array.getElem?_eq_getElem z] at this
    cases this
  obtain ⟨t2, a1, c1⟩ := kk p e s m args below meth c T'.heap (locs ++ L) ls C hN hB hq (hP.kept (fun j y hy => hkeep _ (hP j y hy).lt)) hD ⟨Nat.le_trans hS.1 hsz, fun y h1 h2 => by rw [hkeep y (Nat.lt_of_lt_of_le h1 hS.1)]; exact hS.2.1 y h1 h2, fun y hy => by
    rcases List.mem_append.mp hy with h | h
    · exact hS.2.2 y h
    · have z := zL y h
      rw [hG'] at z
      have z : H.size ≤ y.base := z
      exact Or.inr (Nat.le_trans hS.1 z)⟩ hl T' rfl X'
  exact ⟨t2, z3 t2 a1, c1⟩
theorem c_ldcS {idx : Nat} {tx : String} {a : Nat} (hd : decode cc pc = .ok (.ldc idx, 2)) (hz : ∀ U, BF G U → vk_R own idx tx a U) (kk : EvC l G own nm cc nL ret rm q k n ws (pc + 2) ll (.ref a :: st) Post) : EvC l G own nm cc nL ret rm q k n ws pc ll st Post := by
  intro p e s m args below meth c H locs ls C hN hB hq hP hD hS hl
  obtain ⟨hx, hb, hr, hml, ho, hts, hlk, hK⟩ := And.intro True.intro C |>.2
  exact va_ldcS hx hb ho (hz s hK.2) hd (kk p e s m args below meth c H locs ls C hN hB hq hP hD hS hl)
end CRows2
abbrev rm_X4_init : Room := { frames := 2, cells := 2, slots := 108, locals := 40 }
def LX4 : List Nat := [500, 501]
theorem ct_X4_init {l : Launch} {G : Gt} {q sz : Nat} : Ct l G yX4_init cX4_init 1 none rm_X4_init q sz (.inr (4, z0 4)) [.ref q] (fun r w => r = none ∧ ∃ b : Nat → Nat, b 4 = q ∧ w = zW G b 4 LX4) := by
  refine Ct.of (by decide +kernel) (Nat.le_of_ble_eq_true rfl) (show EvC l G RX4 "<init>" cX4_init 1 none rm_X4_init q 0 0 [(q, .inr (4, z0 4))] 0 [(0, .ref q)] [] _ from ?_)
  have hL : (z0 4).length = 2 := rfl
  refine c_aload_n (v := .ref q) dX4_init_0 rfl (rl_ref _) ?_
  refine c_objInit dX4_init_1 mo_X4_init (by decide) (by decide) ?_
  refine c_aload_n (v := .ref q) dX4_init_4 rfl (rl_ref _) ?_
  refine c_ldcS (a := gK G 0) dX4_init_5 (fun U h => h.1) ?_
  refine c_strlen dX4_init_7 ml_RX4_11 (by decide) (by decide) (Nat.le_of_ble_eq_true rfl) ?_
  refine c_fldA (N := 8) dX4_init_10 dX4_init_12 ka_int rfl (t := 0) rfl (fun _ => rfl) (by decide) (by decide) (by decide) (by decide) (by decide) fq_RX4_17 hL (by decide) (fun _ => rfl) (fun _ => rfl) rfl (fun b1 hL => ?_)
  refine c_aload_n (v := .ref q) dX4_init_15 rfl (rl_ref _) ?_
  refine c_bipush (v := (100 : Int32)) dX4_init_16 (by decide) ?_
  refine c_fldA (N := 100) dX4_init_18 dX4_init_20 ka_int rfl (t := 0) rfl (fun _ => rfl) (by decide) (by decide) (by decide) (by decide) (by decide) fq_RX4_23 hL (by decide) (fun _ => rfl) (fun _ => rfl) rfl (fun b2 hL => ?_)
  exact c_vret dX4_init_23 rfl ⟨by decide, by decide⟩ ⟨rfl, asg 4 q [b1, b2], rfl, rfl⟩
abbrev rm_X2_init : Room := { frames := 1, cells := 4, slots := 42, locals := 30 }
def toldF : Nat → Int32 := upd (upd (upd (upd (fun _ => 0) 0 1000000) 1 0) 2 50) 3 3
def ptW (G : Gt) (q b4 b5 b6 b7 : Nat) (kd x w pr : Int32) : va_W := [(q, .inr (2, [.int kd, .int x, .int w, .int pr, .ref b4, .ref b5, .ref b6, .ref b7, .int 0, .int x, .int 0, .int 0, .int 0, .int 0])), (b4, .inl (gT G 0, 4, .inl toldF)), (b5, .inl (gT G 0, 4, .inl (fun _ => 0))), (b6, .inl (gT G 0, 4, .inl (fun _ => 0))), (b7, .inl (gT G 0, 30, .inl (fun _ => 0)))]
theorem ct_X2_init {l : Launch} {G : Gt} {q sz : Nat} {kd x w pr : Int32} : Ct l G yX2_init cX2_init 5 none rm_X2_init q sz (.inr (2, z0 2)) [.ref q, .int kd, .int x, .int w, .int pr] (fun r ws => r = none ∧ ∃ b4 b5 b6 b7, ws = ptW G q b4 b5 b6 b7 kd x w pr) := by
  refine Ct.of (by decide +kernel) (Nat.le_of_ble_eq_true rfl) (show EvC l G RX2 "<init>" cX2_init 5 none rm_X2_init q 0 0 [(q, .inr (2, z0 2))] 0 [(0, .ref q), (1, .int kd), (2, .int x), (3, .int w), (4, .int pr)] [] _ from ?_)
  refine c_aload_n (v := .ref q) dX2_init_0 rfl (rl_ref _) ?_
  refine c_objInit dX2_init_1 mo_X2_init (by decide) (by decide) ?_
  refine c_aload_n (v := .ref q) dX2_init_4 rfl (rl_ref _) ?_
  refine c_iconst (v := (4 : Int32)) dX2_init_5 (by decide) ?_
  refine c_newa (N := 4) dX2_init_6 ka_int rfl (t := 0) rfl (fun _ => rfl) (by decide) (by decide) (by decide) (by decide) (by decide) (fun b4 => ?_)
  refine c_dup dX2_init_8 rfl ?_
  refine c_iconst (v := (0 : Int32)) dX2_init_9 (by decide) ?_
  refine c_ldc (v := (1000000 : Int32)) dX2_init_10 kc_RX2_9 ?_
  refine c_iast (q0 := 1) dX2_init_12 rfl (inI (n := 0) (by decide) (by decide)) ?_
  refine c_dup dX2_init_13 rfl ?_
  refine c_iconst (v := (1 : Int32)) dX2_init_14 (by decide) ?_
  refine c_iconst (v := (0 : Int32)) dX2_init_15 (by decide) ?_
  refine c_iast (q0 := 1) dX2_init_16 rfl (inI (n := 1) (by decide) (by decide)) ?_
  refine c_dup dX2_init_17 rfl ?_
  refine c_iconst (v := (2 : Int32)) dX2_init_18 (by decide) ?_
  refine c_bipush (v := (50 : Int32)) dX2_init_19 (by decide) ?_
  refine c_iast (q0 := 1) dX2_init_21 rfl (inI (n := 2) (by decide) (by decide)) ?_
  refine c_dup dX2_init_22 rfl ?_
  refine c_iconst (v := (3 : Int32)) dX2_init_23 (by decide) ?_
  refine c_iconst (v := (3 : Int32)) dX2_init_24 (by decide) ?_
  refine c_iast (q0 := 1) dX2_init_25 rfl (inI (n := 3) (by decide) (by decide)) ?_
  refine c_putF (q0 := 0) dX2_init_26 fq_RX2_10 rfl rfl rfl (Nat.le_of_ble_eq_true rfl) rfl ?_
  show EvC l G RX2 "<init>" cX2_init 5 none rm_X2_init q 1 4 ((q, .inr (2, [.int 0, .int 0, .int 0, .int 0, .ref b4, .null, .null, .null, .int 0, .int 0, .int 0, .int 0, .int 0, .int 0])) :: [(b4, .inl (gT G 0, 4, .inl toldF))]) 29 [(0, .ref q), (1, .int kd), (2, .int x), (3, .int w), (4, .int pr)] [] _
  refine c_aload_n (v := .ref q) dX2_init_29 rfl (rl_ref _) ?_
  refine c_iconst (v := (4 : Int32)) dX2_init_30 (by decide) ?_
  refine c_fldA (N := 4) (L := 14) dX2_init_31 dX2_init_33 ka_int rfl (t := 0) rfl (fun _ => rfl) (by decide) (by decide) (by decide) (by decide) (by decide) fq_RX2_16 rfl (by decide) (fun _ => rfl) (fun _ => rfl) rfl (fun b5 hL => ?_)
  refine c_aload_n (v := .ref q) dX2_init_36 rfl (rl_ref _) ?_
  refine c_iconst (v := (4 : Int32)) dX2_init_37 (by decide) ?_
  refine c_fldA (N := 4) (L := 14) dX2_init_38 dX2_init_40 ka_int rfl (t := 0) rfl (fun _ => rfl) (by decide) (by decide) (by decide) (by decide) (by decide) fq_RX2_19 rfl (by decide) (fun _ => rfl) (fun _ => rfl) rfl (fun b6 hL => ?_)
  refine c_aload_n (v := .ref q) dX2_init_43 rfl (rl_ref _) ?_
  refine c_bipush (v := (30 : Int32)) dX2_init_44 (by decide) ?_
  refine c_fldA (N := 30) (L := 14) dX2_init_46 dX2_init_48 ka_int rfl (t := 0) rfl (fun _ => rfl) (by decide) (by decide) (by decide) (by decide) (by decide) fq_RX2_22 rfl (by decide) (fun _ => rfl) (fun _ => rfl) rfl (fun b7 hL => ?_)
  refine c_aload_n (v := .ref q) dX2_init_51 rfl (rl_ref _) ?_
  refine c_iload_n (x := kd) dX2_init_52 rfl ?_
  refine c_putF (q0 := 0) dX2_init_53 fq_RX2_25 rfl rfl rfl (Nat.le_of_ble_eq_true rfl) rfl ?_
  refine c_aload_n (v := .ref q) dX2_init_56 rfl (rl_ref _) ?_
  refine c_iload_n (x := x) dX2_init_57 rfl ?_
  refine c_putF (q0 := 0) dX2_init_58 fq_RX2_29 rfl rfl rfl (Nat.le_of_ble_eq_true rfl) rfl ?_
  refine c_aload_n (v := .ref q) dX2_init_61 rfl (rl_ref _) ?_
  refine c_iload_n (x := x) dX2_init_62 rfl ?_
  refine c_put (q0 := 0) dX2_init_63 fq_RX2_32 rfl rfl rfl (Nat.le_of_ble_eq_true rfl) ?_
  refine c_aload_n (v := .ref q) dX2_init_66 rfl (rl_ref _) ?_
  refine c_iload_n (x := w) dX2_init_67 rfl ?_
  refine c_putF (q0 := 0) dX2_init_68 fq_RX2_35 rfl rfl rfl (Nat.le_of_ble_eq_true rfl) rfl ?_
  refine c_aload_n (v := .ref q) dX2_init_71 rfl (rl_ref _) ?_
  refine c_iload (x := pr) dX2_init_72 rfl ?_
  refine c_putF (q0 := 0) dX2_init_74 fq_RX2_38 rfl rfl rfl (Nat.le_of_ble_eq_true rfl) rfl ?_
  exact c_vret dX2_init_77 rfl ⟨by decide, by decide⟩ ⟨rfl, b4, b5, b6, b7, rfl⟩
abbrev rm_X1_init : Room := { frames := 1, cells := 0, slots := 0, locals := 30 }
theorem ct_X1_init {l : Launch} {G : Gt} {q sz : Nat} {x : Int32} {v : Value} (hv : rl v) : Ct l G yX1_init cX1_init 3 none rm_X1_init q sz (.inr (1, z0 1)) [.ref q, .int x, v] (fun r ws => r = none ∧ ws = [(q, .inr (1, [.int x, v, .int x]))]) := by
  have hn : narrow (.object "ChurchLodge$Text") v = v ∧ fits (.object "ChurchLodge$Text") v = true ∧ (lg_sl [.ref q, .int x, v]).length ≤ 3 ∧ lv_args 0 [.ref q, .int x, v] = [(0, .ref q), (1, .int x), (2, v)] := by
    rcases hv with rfl | ⟨a, rfl⟩
    · exact ⟨rfl, rfl, Nat.le_of_ble_eq_true rfl, rfl⟩
    · exact ⟨rfl, rfl, Nat.le_of_ble_eq_true rfl, rfl⟩
  refine Ct.of (by decide +kernel) hn.2.2.1 ?_
  rw [hn.2.2.2]
  show EvC l G RX1 "<init>" cX1_init 3 none rm_X1_init q 0 0 [(q, .inr (1, z0 1))] 0 [(0, .ref q), (1, .int x), (2, v)] [] _
  refine c_aload_n (v := .ref q) dX1_init_0 rfl (rl_ref _) ?_
  refine c_objInit dX1_init_1 mo_X1_init (by decide) (by decide) ?_
  refine c_aload_n (v := .ref q) dX1_init_4 rfl (rl_ref _) ?_
  refine c_iload_n (x := x) dX1_init_5 rfl ?_
  refine c_putF (q0 := 0) dX1_init_6 fq_RX1_7 rfl rfl rfl (Nat.le_of_ble_eq_true rfl) rfl ?_
  refine c_aload_n (v := .ref q) dX1_init_9 rfl (rl_ref _) ?_
  refine c_aload_n (v := v) dX1_init_10 rfl hv ?_
  refine c_putF (q0 := 0) dX1_init_11 fq_RX1_13 rfl hn.1 hn.2.1 (Nat.le_of_ble_eq_true rfl) rfl ?_
  refine c_aload_n (v := .ref q) dX1_init_14 rfl (rl_ref _) ?_
  refine c_iload_n (x := x) dX1_init_15 rfl ?_
  refine c_put (q0 := 0) dX1_init_16 fq_RX1_17 rfl rfl rfl (Nat.le_of_ble_eq_true rfl) ?_
  exact c_vret dX1_init_19 rfl ⟨by decide, by decide⟩ ⟨rfl, rfl⟩
abbrev rm_X7_init : Room := { frames := 1, cells := 0, slots := 0, locals := 30 }
theorem ct_X7_init {l : Launch} {G : Gt} {q sz a : Nat} : Ct l G yX7_init cX7_init 2 none rm_X7_init q sz (.inr (7, z0 7)) [.ref q, .ref a] (fun r ws => r = none ∧ ws = [(q, .inr (7, [.ref a]))]) := by
  refine Ct.of (by decide +kernel) (Nat.le_of_ble_eq_true rfl) (show EvC l G RX7 "<init>" cX7_init 2 none rm_X7_init q 0 0 [(q, .inr (7, z0 7))] 0 [(0, .ref q), (1, .ref a)] [] _ from ?_)
  refine c_aload_n (v := .ref q) dX7_init_0 rfl (rl_ref _) ?_
  refine c_objInit dX7_init_1 mo_X7_init (by decide) (by decide) ?_
  refine c_aload_n (v := .ref q) dX7_init_4 rfl (rl_ref _) ?_
  refine c_aload_n (v := .ref a) dX7_init_5 rfl (rl_ref _) ?_
  refine c_putF (q0 := 0) dX7_init_6 fq_RX7_7 rfl rfl rfl (Nat.le_of_ble_eq_true rfl) rfl ?_
  exact c_vret dX7_init_9 rfl ⟨by decide, by decide⟩ ⟨rfl, rfl⟩
abbrev rm_copyOf : Room := { frames := 1, cells := 1, slots := 100, locals := 60 }
theorem ct_copyOf {l : Launch} {G : Gt} {a sz N : Nat} {f : Nat → Int32} (hN : N ≤ 100) : Ct l G yJ7_copyOf_59c91 cJ7_copyOf_59c91 3 (some (.array .int)) rm_copyOf a sz (.inl (gT G 0, 100, .inl f)) [.ref a, .int (nI N)] (fun r ws => ∃ (b : Nat) (g : Nat → Int32), r = some (.ref b) ∧ (∀ j, j < N → g j = f j) ∧ ws = [(a, .inl (gT G 0, 100, .inl f)), (b, .inl (gT G 0, N, .inl g))]) := by
  refine Ct.of (by decide +kernel) (Nat.le_of_ble_eq_true rfl) (show EvC l G RJ7 "copyOf" cJ7_copyOf_59c91 3 (some (.array .int)) rm_copyOf a 0 0 [(a, .inl (gT G 0, 100, .inl f))] 0 [(0, .ref a), (1, .int (nI N))] [] _ from ?_)
  refine c_iload_n (x := nI N) dJ7_copyOf_59c91_0 rfl ?_
  refine c_aload_n (v := .ref a) dJ7_copyOf_59c91_1 rfl (rl_ref _) ?_
  refine c_alen (q0 := 0) dJ7_copyOf_59c91_2 rfl ?_
  refine c_icmp_ne 14 dJ7_copyOf_59c91_3 (by decide) (fun z => ?_) (fun z => ?_)
  · refine c_iload_n (x := nI N) dJ7_copyOf_59c91_14 rfl ?_
    refine c_newa (N := N) dJ7_copyOf_59c91_15 ka_int rfl (t := 0) rfl (fun _ => rfl) (nI_pos (by omega)) (cl (by omega)) (by show N * 4 ≤ _; omega) (by decide) (by show 0 + N ≤ 100; omega) (fun b => ?_)
    refine c_astore_n dJ7_copyOf_59c91_17 (by decide) ?_
    refine c_aload_n (v := .ref a) dJ7_copyOf_59c91_18 rfl (rl_ref _) ?_
    refine c_iconst (v := (0 : Int32)) dJ7_copyOf_59c91_19 (by decide) ?_
    refine c_aload_n (v := .ref b) dJ7_copyOf_59c91_20 rfl (rl_ref _) ?_
    refine c_iconst (v := (0 : Int32)) dJ7_copyOf_59c91_21 (by decide) ?_
    refine c_aload_n (v := .ref a) dJ7_copyOf_59c91_22 rfl (rl_ref _) ?_
    refine c_alen (q0 := 0) dJ7_copyOf_59c91_23 rfl ?_
    refine c_iload_n (x := nI N) dJ7_copyOf_59c91_24 rfl ?_
    refine c_mmin dJ7_copyOf_59c91_25 ml_RJ7_304 (by decide) (Nat.le_of_ble_eq_true rfl) ⟨by decide, by show 0 + N ≤ 100; omega⟩ ?_
    rw [show (if nI N < nI 100 then nI N else nI 100) = nI N by
      by_cases h : N < 100
      · rw [if_pos (nI_lt h (by decide))]
      · have : N = 100 := by omega
        rw [this]
        split <;> rfl]
    refine c_copy (N := N) 0 1 rfl dJ7_copyOf_59c91_28 rfl rfl (by omega) hN (Nat.le_refl _) (by decide) (by decide) ?_
    refine c_aload_n (v := .ref b) dJ7_copyOf_59c91_31 rfl (rl_ref _) ?_
    refine c_aret dJ7_copyOf_59c91_32 rfl (Or.inr ⟨_, rfl⟩) (rl_ref _) ⟨by decide, by show 0 + N ≤ 100; omega⟩ ⟨b, _, rfl, fun j hj => ?_, rfl⟩
    rw [pk_cpy_in (Nat.zero_le _) (by omega), Nat.zero_add, Nat.sub_zero]
  · have e : N = 100 := (nI_eq (by omega) (by decide)).mp z
    subst e
    refine c_aload_n (v := .ref a) dJ7_copyOf_59c91_6 rfl (rl_ref _) ?_
    refine c_clone (q0 := 0) rfl dJ7_copyOf_59c91_7 rfl (by decide) (by decide) (by decide) (by decide) (fun b => ?_)
    refine c_cast (q0 := 1) rfl dJ7_copyOf_59c91_10 rfl ?_
    exact c_aret dJ7_copyOf_59c91_13 rfl (Or.inr ⟨_, rfl⟩) (rl_ref _) ⟨by decide, by decide⟩ ⟨b, f, rfl, fun j hj => rfl, rfl⟩

theorem kt_RX8_119 : Cond.fieldLink RX8 119 RX8 "MOST_TOLD" "[I" ∈ tb := tb_in (List.mem_of_getElem? (i := 372) (by decide +kernel)) rfl
/-! the JDK's members that the class calls: Arrays.fill on a row of ints, a constant String's own methods -/
abbrev rm_J7_fill_53178 : Room := { frames := 0, cells := 0, slots := 0, locals := 0 }
def C_J7_fill_53178 (l : Launch) (G : Gt) (E : Et) (V : Vt) (f : Nat) (x : Int32) (K : Vt → Prop) : Prop := Cl l G yJ7_fill_53178 cJ7_fill_53178 4 none rm_J7_fill_53178 E V [.ref (eA E f 0), .int x] (Qv E K)
def fillV (V : Vt) (f a b : Nat) (x : Int32) : Vt := fun f' i' j' => if f' = f ∧ i' = 0 ∧ a ≤ j' ∧ j' < b then x else V f' i' j'
theorem fillV_step (V : Vt) (f a b : Nat) (x : Int32) (h : a < b) : fillV (up3 V f 0 a x) f (a + 1) b x = fillV V f a b x := by
  funext f' i' j'
  unfold fillV up3
  by_cases h1 : f' = f ∧ i' = 0 ∧ a + 1 ≤ j' ∧ j' < b
  · rw [if_pos h1, if_pos ⟨h1.1, h1.2.1, by omega, h1.2.2.2⟩]
  · rw [if_neg h1]
    by_cases h2 : f' = f ∧ i' = 0 ∧ j' = a
    · rw [if_pos h2, if_pos ⟨h2.1, h2.2.1, by omega, by omega⟩]
    · rw [if_neg h2, if_neg (fun q => by
        rcases Nat.lt_or_ge a j' with z | z
        · exact h1 ⟨q.1, q.2.1, z, q.2.2.2⟩
        · exact h2 ⟨q.1, q.2.1, by omega⟩)]
theorem fillV_nil (V : Vt) (f a : Nat) (x : Int32) : fillV V f a a x = V := by
  funext f' i' j'
  unfold fillV
  rw [if_neg (fun q => by omega)]
theorem fill_loop {l : Launch} {G : Gt} {E : Et} {f : Nat} {x : Int32} {K : Vt → Prop} (hf : kdo f = 1) (hid : 100 ≤ f) (hlv : eL E (f / 100 - 1) 0) {n : Nat} (hN : eN E f 0 = n) (hn : n < 2 ^ 31) :
    ∀ (m j : Nat) (V : Vt), j + m = n → K (fillV V f j n x) → Ev l G "java/util/Arrays" cJ7_fill_53178 4 none rm_J7_fill_53178 E 0 0 V 5 [(0, .ref (eA E f 0)), (1, .int x), (2, .int (nI j)), (3, .int (nI n))] [] (Qv E K) := by
  intro m
  induction m with
  | zero =>
    intro j V hj h
    have hj : j = n := by omega
    subst hj
    rw [fillV_nil] at h
    refine r_iload_n (x := nI j) dJ7_fill_53178_5 rfl ?_
    refine r_iload_n (x := nI j) dJ7_fill_53178_6 rfl ?_
    refine r_icmp_ge 20 dJ7_fill_53178_7 (by decide) (fun q => ?_) (fun q => ?_)
    · exact r_vret dJ7_fill_53178_20 rfl ⟨Nat.le_of_ble_eq_true rfl, Nat.le_of_ble_eq_true rfl⟩ ⟨rfl, rfl, h⟩
    · exact absurd (nI_le (Nat.le_refl j) hn) q
  | succ m ih =>
    intro j V hj h
    refine r_iload_n (x := nI j) dJ7_fill_53178_5 rfl ?_
    refine r_iload_n (x := nI n) dJ7_fill_53178_6 rfl ?_
    refine r_icmp_ge 20 dJ7_fill_53178_7 (by decide) (fun q => ?_) (fun q => ?_)
    · exact absurd q (nI_ge (by omega) hn)
    · refine r_aload_n (v := .ref (eA E f 0)) dJ7_fill_53178_10 rfl (rl_ref _) ?_
      refine r_iload_n (x := nI j) dJ7_fill_53178_11 rfl ?_
      refine r_iload_n (x := x) dJ7_fill_53178_12 rfl ?_
      refine r_iast dJ7_fill_53178_13 hf hid hlv (by rw [hN]; exact vp_in_nI (by omega) hn) ?_
      refine r_iinc (x := nI j) (v := (1 : Int32)) dJ7_fill_53178_14 rfl (by decide) (by decide) ?_
      refine r_goto 5 dJ7_fill_53178_17 (by decide) ?_
      rw [nI_clamp (by omega), nI_1]
      exact Ev.loc [0, 1, 2, 3] rfl (ih (j + 1) (up3 V f 0 j x) (by omega) (by rw [fillV_step _ _ _ _ _ (by omega)]; exact h))
theorem fill_spec {l : Launch} {G : Gt} {E : Et} {V : Vt} {f : Nat} {x : Int32} {K : Vt → Prop} (hf : kdo f = 1) (hid : 100 ≤ f) (hlv : eL E (f / 100 - 1) 0) {n : Nat} (hN : eN E f 0 = n) (hn : n < 2 ^ 31) (h : K (fillV V f 0 n x)) : C_J7_fill_53178 l G E V f x K := by
  refine Cl.of (by decide +kernel) (Nat.le_of_ble_eq_true rfl) (show Ev l G "java/util/Arrays" cJ7_fill_53178 4 none rm_J7_fill_53178 E 0 0 V 0 [(0, .ref (eA E f 0)), (1, .int x)] [] (Qv E K) from ?_)
  refine r_iconst (v := (0 : Int32)) dJ7_fill_53178_0 (by decide) ?_
  refine r_istore_n dJ7_fill_53178_1 (by decide) ?_
  refine r_aload_n (v := .ref (eA E f 0)) dJ7_fill_53178_2 rfl (rl_ref _) ?_
  refine r_alenI dJ7_fill_53178_3 hf hid hlv ?_
  refine r_istore_n dJ7_fill_53178_4 (by decide) ?_
  rw [hN]
  exact Ev.loc [0, 1, 2, 3] rfl (fill_loop hf hid hlv hN hn n 0 V (by omega) h)
section CallStr
variable {l : Launch} {G : Gt} {own : String} {cc : ByteArray} {nL : Nat} {ret : Option FieldType} {rm : Room} {E : Et} {V : Vt} {pc : Nat} {ll : List (Nat × Value)} {st : List Value} {Q : Option Value → Et → Vt → Prop}
theorem r_cStr {idx w na nY : Nat} {y : MethodName} {cy : ByteArray} {ry : Option FieldType} {rY : Room} {As rest : List Value} {K : Int32 → Vt → Prop} (hd : decode cc pc = .ok (.invokevirtual idx, 3)) (hm : MV y cy nY ry na) (hlink : Cond.methodLink own idx y ∈ tb) (hy : y.cls = "java/lang/String") (hw : w < 2) (hrm : rY.frames + 1 ≤ rm.frames ∧ 8 + (nY + 11) + rY.locals ≤ rm.locals) (h0 : rY.cells = 0 ∧ rY.slots = 0) (hna : As.length = na) (hst : st = As.reverse ++ .ref (gK G w) :: rest) (hcat : (rest.map fun v => v.category).sum ≤ 8)
    (hC : Cl l G y cy nY ry rY E V (.ref (gK G w) :: As) (Qi E K)) (kk : ∀ x V', K x V' → Ev l G own cc nL ret rm E 0 0 V' (pc + 3) ll (.int x :: rest) Q) : Ev l G own cc nL ret rm E 0 0 V pc ll st Q := by
  have hcs : 0 + rY.cells ≤ rm.cells ∧ 0 + rY.slots ≤ rm.slots := by rw [h0.1, h0.2]; exact ⟨Nat.zero_le _, Nat.zero_le _⟩
  intro p e s m args below meth c H locs ls C hR hL hl
  obtain ⟨hx, hb, hr, hml, ho, hts, hlk, hK⟩ := And.intro True.intro C |>.2
  obtain ⟨m1, m2, m3, m4, m5, m6, m7⟩ := hm
  subst hst
  have hrecv : ∃ cellB : Cell, H[gK G w]? = some cellB ∧ cellB.vm.isStatics = false ∧ s.vm.findClass y.cls = some cellB.cls := by
    obtain ⟨cell, g1, g2, g3, -⟩ := (hK.2.2.2.2.2.1.1 w hw).1
    exact ⟨cell, by rw [hR.1 _ (Array.getElem?_eq_some_iff.mp g1).1]; exact g1, g2, by rw [hy]; exact g3⟩
  have hcb : CallB rm s args own idx y cy nY ry (Cond.code y cy nY ry :: tb) rY rY.cells rY.slots na := callB_of na hts (tb_GoodIn m1) rfl rfl rfl (hts _ m4) (hts _ hlink) ⟨m5, m6, m7⟩ hrm
  have hrun := va_runV (e := e) (below := below) (meth := meth) (locs := locs) (g := F0 m pc ls (As.reverse ++ .ref (gK G w) :: rest)) (rest := rest) ⟨hx, hb, hml, ho, hts⟩ hC ⟨hcb, hts _ m2, hts _ m3⟩ ⟨blind _, hrecv, fun U hU hW => ⟨rfl, hK.warm hW, by rw [hU]; exact hR⟩⟩ rfl hna hl.1 rfl (lv_room hcat) hd hcs
  intro T0 hT0 X
  obtain ⟨v, st₀, t, T', L, z0, X', zL, z1, z2, ⟨r, E', V', w1, w2, w3⟩, z3⟩ := hrun T0 hT0 X
  cases w1
  obtain ⟨rfl, x, rfl, hk⟩ := w2
  rw [h0.1, h0.2] at X'
  obtain ⟨t2, a1, b1⟩ := kk x V' hk p e s m args below meth c T'.heap (locs ++ L) ls C (by rw [z1]; exact w3) (fun q hq' => by
    rcases List.mem_append.mp hq' with h | h
    · exact hL q h
    · exact zL q h) hl T' rfl X'
  exact ⟨t2, z3 t2 a1, b1⟩
end CallStr
section MathRows
variable {l : Launch} {G : Gt} {own : String} {cc : ByteArray} {nL : Nat} {ret : Option FieldType} {rm : Room} {E : Et} {V : Vt} {pc : Nat} {ll : List (Nat × Value)} {st : List Value} {Q : Option Value → Et → Vt → Prop}
theorem r_mabs {idx : Nat} {x : Int32} (hd : decode cc pc = .ok (.invokestatic idx, 3)) (hlink : Cond.methodLink own idx yJ9_abs_0f7a4 ∈ tb) (hf : 1 ≤ rm.frames) (hlo : (st.map fun v => v.category).sum + 13 ≤ rm.locals) (kk : Ev l G own cc nL ret rm E 0 0 V (pc + 3) ll (.int (if 0 ≤ x then x else 0 - x) :: st) Q) : Ev l G own cc nL ret rm E 0 0 V pc ll (.int x :: st) Q := by
  intro p e s m args below meth c H locs ls C hR hL hl
  obtain ⟨hx, hb, hr, hml, ho, hts, hlk, hK⟩ := And.intro True.intro C |>.2
  exact va_mabs hx hb (by rw [hml]; exact hl.1.symm) ho (hts _ hlink) (hts _ ms_J9_abs_0f7a4.2.1) (hts _ ms_J9_abs_0f7a4.2.2.1) (hts _ ms_J9_abs_0f7a4.1) hf hlo (Nat.zero_le _) (Nat.zero_le _) hd (kk p e s m args below meth c H locs ls C hR hL hl)
theorem r_mmax {idx : Nat} {x y : Int32} (hd : decode cc pc = .ok (.invokestatic idx, 3)) (hlink : Cond.methodLink own idx yJ9_max_7cf53 ∈ tb) (hf : 1 ≤ rm.frames) (hlo : (st.map fun v => v.category).sum + 13 ≤ rm.locals) (kk : Ev l G own cc nL ret rm E 0 0 V (pc + 3) ll (.int (if x < y then y else x) :: st) Q) : Ev l G own cc nL ret rm E 0 0 V pc ll (.int y :: .int x :: st) Q := by
  intro p e s m args below meth c H locs ls C hR hL hl
  obtain ⟨hx, hb, hr, hml, ho, hts, hlk, hK⟩ := And.intro True.intro C |>.2
  exact va_mmax hx hb (by rw [hml]; exact hl.1.symm) ho (hts _ hlink) (hts _ ms_J9_max_7cf53.2.1) (hts _ ms_J9_max_7cf53.2.2.1) (hts _ ms_J9_max_7cf53.1) hf hlo (Nat.zero_le _) (Nat.zero_le _) hd (kk p e s m args below meth c H locs ls C hR hL hl)
theorem r_mmin {idx : Nat} {x y : Int32} (hd : decode cc pc = .ok (.invokestatic idx, 3)) (hlink : Cond.methodLink own idx yJ9_min_7cf53 ∈ tb) (hf : 1 ≤ rm.frames) (hlo : (st.map fun v => v.category).sum + 13 ≤ rm.locals) (kk : Ev l G own cc nL ret rm E 0 0 V (pc + 3) ll (.int (if y < x then y else x) :: st) Q) : Ev l G own cc nL ret rm E 0 0 V pc ll (.int y :: .int x :: st) Q := by
  intro p e s m args below meth c H locs ls C hR hL hl
  obtain ⟨hx, hb, hr, hml, ho, hts, hlk, hK⟩ := And.intro True.intro C |>.2
  exact va_mmin hx hb (by rw [hml]; exact hl.1.symm) ho (hts _ hlink) (hts _ ms_J9_min_7cf53.2.1) (hts _ ms_J9_min_7cf53.2.2.1) (hts _ ms_J9_min_7cf53.1) hf hlo (Nat.zero_le _) (Nat.zero_le _) hd (kk p e s m args below meth c H locs ls C hR hL hl)
end MathRows
abbrev rm_J0_indexOf_0f7a4 : Room := { frames := 6, cells := 0, slots := 0, locals := 138 }
def C_J0_indexOf_0f7a4 (l : Launch) (G : Gt) (E : Et) (V : Vt) (w : Nat) (x : Int32) (K : Int32 → Vt → Prop) : Prop := Cl l G yJ0_indexOf_0f7a4 cJ0_indexOf_0f7a4 2 (some .int) rm_J0_indexOf_0f7a4 E V [.ref (gK G w), .int x] (Qi E K)
theorem nbz {x : Int32} (h : x = 0 ∨ x = 1) : narrow .boolean (.int x) = .int x := by rcases h with rfl | rfl <;> rfl

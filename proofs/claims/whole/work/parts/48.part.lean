/-! part, arch: the class's side -/
def setR (E : Et) (f j t : Nat) : Et := (E.1, E.2.1, E.2.2.1, fun f' j' => if f' = f ∧ j' = j then some t else E.2.2.2 f' j')
theorem setR_s (E : Et) (f j t : Nat) : eR (setR E f j t) f j = some t := if_pos ⟨rfl, rfl⟩
theorem setR_n {E : Et} {f j t f' j' : Nat} (h : ¬ (f' = f ∧ j' = j)) : eR (setR E f j t) f' j' = eR E f' j' := if_neg h
section AA
variable {l : Launch} {G : Gt} {own : String} {cc : ByteArray} {nL : Nat} {ret : Option FieldType} {rm : Room} {E : Et} {k n : Nat} {V : Vt} {pc : Nat} {ll : List (Nat × Value)} {st : List Value} {Q : Option Value → Et → Vt → Prop}
theorem r_aast {id ct t t0 : Nat} {x : Int32} (hd : decode cc pc = .ok (.aastore, 1)) (hk : (kdo id = 4 ∧ ct = 2 ∧ t0 = 3) ∨ (kdo id = 5 ∧ ct = 1 ∧ t0 = 4) ∨ (kdo id = 6 ∧ ct = 7 ∧ t0 = 5)) (hid : 100 ≤ id) (hlv : eL E (id / 100 - 1) 0) (h1 : ∀ i, eL E (id / 100 - 1) i → i = 0) (hin : vp_in x (eN E id 0)) (hct : eL E ct t) (kk : Ev l G own cc nL ret rm (setR E id x.toNatClampNeg t) k n V (pc + 1) ll st Q) : Ev l G own cc nL ret rm E k n V pc ll (.ref (eA E ct t) :: .int x :: .ref (eA E id 0) :: st) Q := by
  intro p e s m args below meth c H locs ls C hR hL hl
  obtain ⟨hx, hb, hr, hml, ho, hts, hlk, hK⟩ := And.intro True.intro C |>.2
  have hk6 : 1 ≤ kdo id ∧ kdo id ≤ 6 := by omega
  have hLv : Lv E id 0 := Lv_ar hk6 hid hlv
  have hcell : ∀ E' : Et, eA E' = eA E → eN E' = eN E → arC G E' V id 0 (kdo id) = .inl (gT G t0, eN E id 0, .inr (.inr (.inr (.inr (fun j => (eR E' id j).map (eA E ct)))))) := fun E' e1 e2 => by
    rcases hk with ⟨q1, q2, q3⟩ | ⟨q1, q2, q3⟩ | ⟨q1, q2, q3⟩ <;> (rw [q1, q2, q3, ← e1, ← e2]; rfl)
  have harr : H[eA E id 0]? = some (vp_cell (gT G t0) (eN E id 0, .inr (.inr (.inr (.inr (fun j => (eR E id j).map (eA E ct))))))) := by
    have := hR.ar hk6 hid hlv
    rw [hcell E rfl rfl] at this
    exact this
  have hct100 : ct < 100 := by omega
  obtain ⟨r, hr', cellV, g1, g2, g3, -⟩ := hR.ob hct100 hct
  have ht : (tyL G)[t0]? = some (gT G t0, .object r.1) := by
    rcases hk with ⟨q1, q2, q3⟩ | ⟨q1, q2, q3⟩ | ⟨q1, q2, q3⟩ <;> (subst q2; subst q3; cases hr'; rfl)
  have hcls := (hK.1.1 ct r hr').2
  obtain ⟨kA, comp, k1, k2, k3, -⟩ := (hK.1.2 t0 _ ht).2
  have hcomp : comp = (gD G).1 ct := Option.some.inj (k3.symm.trans hcls.1)
  subst hcomp
  obtain ⟨kC, hkC, -⟩ := hcls.2
  have hlt : x.toNatClampNeg < eN E id 0 := Nat.not_le.mp fun q => hin (Or.inr q)
  have h0 : ¬ x < 0 := fun q => hin (Or.inl q)
  refine W.aast hx hb harr (fun q h => by cases h) (fun h => by cases h) k1 k2 rfl hkC ⟨h0, by show _ < (arrV _ _ _).slots.size; rw [arrV_size]; exact hlt⟩ g1 (fun q h => by rw [g3] at h; cases h) (by rw [g2]; exact hkC) (by rw [g2]; exact va_assign hcls) rfl rfl hd fun H1 e1 z oq => ?_
  have hnew : H1[eA E id 0]? = some (vp_cell (gT G t0) (eN E id 0, .inr (.inr (.inr (.inr (fun j => (eR (setR E id x.toNatClampNeg t) id j).map (eA E ct))))))) := by
    rw [e1, vp_cell_q, vp_cell_q, arrV_store]
    congr 2
    funext q
    by_cases hq : q = x.toNatClampNeg
    · subst hq
      rw [setR_s]
      simp [updV, va_rf]
    · rw [setR_n (fun y => hq y.2)]
      simp [updV, hq]
  refine kk p e s m args below meth c H1 _ ls C ⟨fun q hq => ?_, fun id' i' hl' => ⟨(hR.2.1 id' i' hl').1, ?_⟩, hR.2.2⟩ ?_ hl
  · have := (hR.2.1 id 0 hLv).1
    rw [oq q (fun y => by
      have y : q = eA E id 0 := y
      omega)]
    exact hR.1 q hq
  · by_cases he : id' = id
    · subst he
      have hi : i' = 0 := h1 i' (by
        have := Lv.cl hl'
        unfold cid at this
        rw [if_neg (by omega)] at this
        exact this)
      subst hi
      unfold cellOf
      rw [if_neg (by omega), hcell (setR E id' x.toNatClampNeg t) rfl rfl]
      exact hnew
    · have hne : eA E id' i' ≠ eA E id 0 := fun q => he (hR.2.2 id' i' id 0 hl' hLv q).1
      have hsame : cellOf G (setR E id x.toNatClampNeg t) V id' i' = cellOf G E V id' i' := by
        unfold cellOf
        split
        · congr 2
          apply List.ext_getElem?
          intro kf
          rw [obF_get, obF_get]
          cases hkf : (fkl id')[kf]? with
          | none => rfl
          | some kd =>
            simp only [Option.map_some]
            congr 1
            unfold fval
            split <;> first | rfl | skip
            rename_i e8
            rw [setR_n (fun y => by
              have := kdo_at hkf
              rw [y.1] at this
              omega)]
            rfl
        · have er : ∀ j, eR (setR E id x.toNatClampNeg t) id' j = eR E id' j := fun j => setR_n (fun y => he y.1)
          unfold arC
          split <;> first | rfl | skip
          all_goals
            simp only [er]
            rfl
      rw [hsame]
      exact (hR.2.1 id' i' hl').2.kept (oq _ hne)
  · intro y hy
    rcases List.mem_append.mp hy with h | h
    · exact hL y h
    · rw [List.mem_singleton.mp h]
      exact (hR.2.1 id 0 hLv).1
end AA
def Qe (K : Int32 → Et → Vt → Prop) : Option Value → Et → Vt → Prop := fun r E' V' => ∃ x, r = some (.int x) ∧ K x E' V'
def WE (E : Et) (n gc tc : Nat) : Prop := Sg E ∧ REF E ∧ (∀ c, c ∈ ([0, 3, 4, 5, 6, 8, 9] : List Nat) → ∀ i, eL E c i → i = 0) ∧ (∀ p, eL E 2 p ↔ p < n) ∧ (∀ g, eL E 1 g ↔ g < gc) ∧ (∀ t, eL E 7 t ↔ t < tc)
abbrev rm_X3_add : Room := { frames := 0, cells := 0, slots := 0, locals := 0 }
section Part
variable {l : Launch} {G : Gt} {E : Et} {V : Vt} {n gc tc : Nat}
theorem sp_add {t : Nat} {K : Int32 → Et → Vt → Prop} (hE : Sg E) (h1 : ∀ i, eL E 3 i → i = 0) (hn : V 405 0 0 = nI n) (hn2 : n < 40) (ht : eL E 2 t) (h : K (nI n) (setR E 400 n t) (up3 V 405 0 0 (nI (n + 1)))) : Cl l G yX3_add cX3_add 2 (some .int) rm_X3_add E V [.ref (eA E 3 0), .ref (eA E 2 t)] (Qe K) := by
  refine Cl.of (by decide +kernel) (Nat.le_of_ble_eq_true rfl) (show Ev l G RX3 cX3_add 2 (some .int) rm_X3_add E 0 0 V 0 [(0, .ref (eA E 3 0)), (1, .ref (eA E 2 t))] [] (Qe K) from ?_)
  refine r_aload_n (v := .ref (eA E 3 0)) dX3_add_0 rfl (rl_ref _) ?_
  refine r_get (v := .int (V 405 0 0)) dX3_add_1 fl_RX3_30 (hE.1 3 (by decide)) rfl ?_
  refine r_bipush (v := (40 : Int32)) dX3_add_4 (by decide) ?_
  rw [hn]
  refine r_icmp_lt 12 dX3_add_6 (by decide) (fun _ => ?_) (fun q => absurd (nI_lt (b := 40) hn2 (by decide)) q)
  refine r_aload_n (v := .ref (eA E 3 0)) dX3_add_12 rfl (rl_ref _) ?_
  refine r_get (v := .ref (eA E 400 0)) dX3_add_13 fl_RX3_11 (hE.1 3 (by decide)) rfl ?_
  refine r_aload_n (v := .ref (eA E 3 0)) dX3_add_16 rfl (rl_ref _) ?_
  refine r_get (v := .int (V 405 0 0)) dX3_add_17 fl_RX3_30 (hE.1 3 (by decide)) rfl ?_
  refine r_aload_n (v := .ref (eA E 2 t)) dX3_add_20 rfl (rl_ref _) ?_
  rw [hn]
  refine r_aast (id := 400) (ct := 2) (t0 := 3) dX3_add_21 (Or.inl ⟨rfl, rfl, rfl⟩) (by decide) (hE.1 3 (by decide)) h1 (by rw [hE.2 400 0 (by decide)]; exact inI hn2 (by decide)) ht ?_
  rw [cl (by omega)]
  have hE2 : Sg (setR E 400 n t) := hE
  refine r_aload_n (v := .ref (eA (setR E 400 n t) 3 0)) dX3_add_22 rfl (rl_ref _) ?_
  refine r_dup dX3_add_23 rfl ?_
  refine r_get (v := .int (V 405 0 0)) dX3_add_24 fl_RX3_30 (hE2.1 3 (by decide)) rfl ?_
  refine r_iconst (v := (1 : Int32)) dX3_add_27 (by decide) ?_
  refine r_iadd dX3_add_28 ?_
  refine r_put dX3_add_29 fp_RX3_30 rfl (hE2.1 3 (by decide)) rfl rfl ?_
  refine r_aload_n (v := .ref (eA (setR E 400 n t) 3 0)) dX3_add_32 rfl (rl_ref _) ?_
  refine r_get (v := .int (up3 V 405 0 0 (V 405 0 0 + 1) 405 0 0)) dX3_add_33 fl_RX3_30 (hE2.1 3 (by decide)) rfl ?_
  refine r_iconst (v := (1 : Int32)) dX3_add_36 (by decide) ?_
  refine r_isub dX3_add_37 ?_
  refine r_iret dX3_add_38 rfl ⟨Nat.le_refl _, Nat.le_refl _⟩ ⟨_, rfl, ?_⟩
  show K (up3 V 405 0 0 (V 405 0 0 + 1) 405 0 0 - 1) (setR E 400 n t) (up3 V 405 0 0 (V 405 0 0 + 1))
  rw [up3_s, hn, nI_1, nI_pred]
  exact h
def addP (E : Et) (i q b4 b5 b6 b7 : Nat) : Et := (fun id j => if j = i then (if id = 2 then q else if id = 304 then b4 else if id = 305 then b5 else if id = 306 then b6 else if id = 307 then b7 else eA E id j) else eA E id j, fun c j => eL E c j ∨ (c = 2 ∧ j = i), E.2.2.1, E.2.2.2)
def addPV (V : Vt) (i : Nat) (kd x w pr : Int32) : Vt := fun f i' j => if i' = i ∧ 300 ≤ f ∧ f < 314 then (if f = 300 then kd else if f = 301 then x else if f = 302 then w else if f = 303 then pr else if f = 304 then toldF j else if f = 309 then x else 0) else V f i' j
theorem addP_off (E : Et) (V : Vt) (i q b4 b5 b6 b7 : Nat) (kd x w pr : Int32) : Off 2 i E (addP E i q b4 b5 b6 b7) V (addPV V i kd x w pr) := by
  refine ⟨fun id j hn => ⟨?_, rfl, ?_⟩, fun f j _ => rfl, fun c' j => Iff.rfl⟩
  · show (if j = i then _ else _) = _
    by_cases e : j = i
    · have hc : cid id ≠ 2 := fun z => hn ⟨e, z⟩
      rw [if_pos e, if_neg (fun z => hc (by rw [z]; rfl)), if_neg (fun z => hc (by rw [z]; rfl)), if_neg (fun z => hc (by rw [z]; rfl)), if_neg (fun z => hc (by rw [z]; rfl)), if_neg (fun z => hc (by rw [z]; rfl))]
    · rw [if_neg e]
  · funext y
    show (if j = i ∧ 300 ≤ id ∧ id < 314 then _ else _) = _
    rw [if_neg (fun z => hn ⟨z.1, by unfold cid; rw [if_neg (by omega)]; omega⟩)]
theorem addPV_in {V : Vt} {i f j : Nat} {kd x w pr : Int32} (h : 300 ≤ f ∧ f < 314) : addPV V i kd x w pr f i j = if f = 300 then kd else if f = 301 then x else if f = 302 then w else if f = 303 then pr else if f = 304 then toldF j else if f = 309 then x else 0 := if_pos ⟨rfl, h⟩
theorem addPV_q {V : Vt} {i f i' : Nat} {kd x w pr : Int32} (h : i' ≠ i) : addPV V i kd x w pr f i' = V f i' := by
  funext j
  exact if_neg (fun z => h z.1)
theorem addPV_f {V : Vt} {i f : Nat} {kd x w pr : Int32} (h : f < 300 ∨ 314 ≤ f) : addPV V i kd x w pr f = V f := by
  funext i' j
  exact if_neg (fun z => by omega)
theorem addP_a (E : Et) (i q b4 b5 b6 b7 : Nat) : eA (addP E i q b4 b5 b6 b7) 2 i = q ∧ eA (addP E i q b4 b5 b6 b7) 304 i = b4 ∧ eA (addP E i q b4 b5 b6 b7) 305 i = b5 ∧ eA (addP E i q b4 b5 b6 b7) 306 i = b6 ∧ eA (addP E i q b4 b5 b6 b7) 307 i = b7 := by
  refine ⟨?_, ?_, ?_, ?_, ?_⟩ <;> (show (if i = i then _ else _) = _; rw [if_pos rfl]; rfl)
theorem ptW_eq (hE : Sg E) (i q b4 b5 b6 b7 : Nat) (kd x w pr : Int32) : ptW G q b4 b5 b6 b7 kd x w pr = [2, 304, 305, 306, 307].map (fun id => (eA (addP E i q b4 b5 b6 b7) id i, cellOf G (addP E i q b4 b5 b6 b7) (addPV V i kd x w pr) id i)) := by
  obtain ⟨a1, a2, a3, a4, a5⟩ := addP_a E i q b4 b5 b6 b7
  have hob : obF (addP E i q b4 b5 b6 b7) (addPV V i kd x w pr) 2 i = [.int kd, .int x, .int w, .int pr, .ref b4, .ref b5, .ref b6, .ref b7, .int 0, .int x, .int 0, .int 0, .int 0, .int 0] := by
    show [Value.int (addPV V i kd x w pr 300 i 0), .int (addPV V i kd x w pr 301 i 0), .int (addPV V i kd x w pr 302 i 0), .int (addPV V i kd x w pr 303 i 0), .ref (eA (addP E i q b4 b5 b6 b7) 304 i), .ref (eA (addP E i q b4 b5 b6 b7) 305 i), .ref (eA (addP E i q b4 b5 b6 b7) 306 i), .ref (eA (addP E i q b4 b5 b6 b7) 307 i), .int (addPV V i kd x w pr 308 i 0), .int (addPV V i kd x w pr 309 i 0), .int (addPV V i kd x w pr 310 i 0), .int (addPV V i kd x w pr 311 i 0), .int (addPV V i kd x w pr 312 i 0), .int (addPV V i kd x w pr 313 i 0)] = _
    rw [a2, a3, a4, a5, addPV_in (by decide), addPV_in (by decide), addPV_in (by decide), addPV_in (by decide), addPV_in (by decide), addPV_in (by decide), addPV_in (by decide), addPV_in (by decide), addPV_in (by decide), addPV_in (by decide)]
    rfl
  have hr : ∀ f, 300 ≤ f → f < 314 → ∀ g : Nat → Int32, (∀ j, (if f = 300 then kd else if f = 301 then x else if f = 302 then w else if f = 303 then pr else if f = 304 then toldF j else if f = 309 then x else 0) = g j) → addPV V i kd x w pr f i = g := fun f h1 h2 g hg => by
    funext j
    rw [addPV_in ⟨h1, h2⟩]
    exact hg j
  have c2 : cellOf G (addP E i q b4 b5 b6 b7) (addPV V i kd x w pr) 2 i = .inr (2, obF (addP E i q b4 b5 b6 b7) (addPV V i kd x w pr) 2 i) := rfl
  have c4 : ∀ f, kdo f = 1 → 100 ≤ f → cellOf G (addP E i q b4 b5 b6 b7) (addPV V i kd x w pr) f i = .inl (gT G 0, eN E f i, .inl (addPV V i kd x w pr f i)) := fun f h1 h2 => by
    unfold cellOf
    rw [if_neg (by omega), h1]
    rfl
  show _ = [(eA (addP E i q b4 b5 b6 b7) 2 i, cellOf G (addP E i q b4 b5 b6 b7) (addPV V i kd x w pr) 2 i), (eA (addP E i q b4 b5 b6 b7) 304 i, cellOf G (addP E i q b4 b5 b6 b7) (addPV V i kd x w pr) 304 i), (eA (addP E i q b4 b5 b6 b7) 305 i, cellOf G (addP E i q b4 b5 b6 b7) (addPV V i kd x w pr) 305 i), (eA (addP E i q b4 b5 b6 b7) 306 i, cellOf G (addP E i q b4 b5 b6 b7) (addPV V i kd x w pr) 306 i), (eA (addP E i q b4 b5 b6 b7) 307 i, cellOf G (addP E i q b4 b5 b6 b7) (addPV V i kd x w pr) 307 i)]
  rw [a1, a2, a3, a4, a5, c2, hob, c4 304 rfl (by decide), c4 305 rfl (by decide), c4 306 rfl (by decide), c4 307 rfl (by decide), hE.2 304 i (by decide), hE.2 305 i (by decide), hE.2 306 i (by decide), hE.2 307 i (by decide), hr 304 (by decide) (by decide) toldF (fun _ => rfl), hr 305 (by decide) (by decide) (fun _ => 0) (fun _ => rfl), hr 306 (by decide) (by decide) (fun _ => 0) (fun _ => rfl), hr 307 (by decide) (by decide) (fun _ => 0) (fun _ => rfl)]
  rfl
theorem cov2 : ∀ id, cid id = 2 → (id < 100 ∨ (1 ≤ kdo id ∧ kdo id ≤ 6)) → id ∈ ([2, 304, 305, 306, 307] : List Nat) := by
  intro id h1 h2
  unfold cid at h1
  split at h1
  · rw [h1]
    decide
  · rename_i q
    have h2 : 1 ≤ kdo id ∧ kdo id ≤ 6 := h2.resolve_left q
    obtain ⟨k, hk, rfl⟩ : ∃ k, k < 100 ∧ id = 300 + k := ⟨id - 300, by omega, by omega⟩
    have : ∀ k, k < 100 → 1 ≤ kdo (300 + k) → (300 + k) ∈ ([2, 304, 305, 306, 307] : List Nat) := by decide +kernel
    exact this k hk h2.1
def msr (x y z : Int32) : Prop := ((1 : Int32) ≤ x ∧ x ≤ 30) ∧ ((1 : Int32) ≤ y ∧ y ≤ 999) ∧ ((0 : Int32) ≤ z ∧ z ≤ 999)
theorem sp_msr {x y z : Int32} {K : Int32 → Vt → Prop} (hE : Sg E) (h1 : msr x y z → K 1 V) (h0 : ¬ msr x y z → K 0 V) : C_X8_isMeasure l G E V x y z K := by
  refine ok_X8_isMeasure hE ?_
  unfold vc_X8_isMeasure
  refine ⟨fun q => h0 (fun w => lt_nle q w.1.1), fun q1 => ⟨fun q => h0 (fun w => lt_nle q w.1.2), fun q2 => ⟨fun q => h0 (fun w => lt_nle q w.2.1.1), fun q3 => ⟨fun q => h0 (fun w => lt_nle q w.2.1.2), fun q4 => ⟨fun q => h0 (fun w => lt_nle q w.2.2.1), fun q5 => ⟨fun q => h0 (fun w => lt_nle q w.2.2.2), fun q6 => h1 ⟨⟨nlt_le q1, nlt_le q2⟩, ⟨nlt_le q3, nlt_le q4⟩, ⟨nlt_le q5, nlt_le q6⟩⟩⟩⟩⟩⟩⟩⟩
theorem sp_mmsr {x y z : Int32} {K : Int32 → Vt → Prop} (hE : Sg E) (h1 : msr x y z → K 1 V) (h0 : ¬ msr x y z → K 0 V) : C_X9_isPlan l G E V x y z K := by
  refine ok_X9_isPlan hE ?_
  unfold vc_X9_isPlan
  refine sp_in hE ⟨fun q => h0 (fun w => (bz0.mp q) w.1), fun q1 => sp_in hE ⟨fun q => h0 (fun w => (bz0.mp q) w.2.1), fun q2 => sp_in hE ⟨fun q => h0 (fun w => (bz0.mp q) w.2.2), fun q3 => h1 ⟨?_, ?_, ?_⟩⟩⟩⟩
  · rw [bz0] at q1
    exact Decidable.not_not.mp q1
  · rw [bz0] at q2
    exact Decidable.not_not.mp q2
  · rw [bz0] at q3
    exact Decidable.not_not.mp q3
abbrev rm_X8_part : Room := { frames := 2, cells := 5, slots := 56, locals := 60 }
theorem sp_part {x y z : Int32} {K : Int32 → Et → Vt → Prop} (hE : WE E n gc tc) (hn : V 405 0 0 = nI n) (hn2 : n ≤ 40) (h1 : ¬ msr x y z → K (-1) E V) (h2 : msr x y z → n = 40 → K (-3) E V) (h3 : msr x y z → n < 40 → ∀ q b4 b5 b6 b7, K (nI n) (setR (addP E n q b4 b5 b6 b7) 400 n n) (up3 (addPV V n 0 x y z) 405 0 0 (nI (n + 1)))) : Cl l G yX8_part cX8_part 4 (some .int) rm_X8_part E V [.ref (eA E 8 0), .int x, .int y, .int z] (Qe K) := by
  obtain ⟨hS, hR, ho, hp, hg, ht⟩ := hE
  refine Cl.of (by decide +kernel) (Nat.le_of_ble_eq_true rfl) (show Ev l G RX8 cX8_part 4 (some .int) rm_X8_part E 0 0 V 0 [(0, .ref (eA E 8 0)), (1, .int x), (2, .int y), (3, .int z)] [] (Qe K) from ?_)
  refine r_iload_n (x := x) dX8_part_0 rfl ?_
  refine r_iload_n (x := y) dX8_part_1 rfl ?_
  refine r_iload_n (x := z) dX8_part_2 rfl ?_
  refine r_cSi (rY := rm_X8_isMeasure) (As := [.int x, .int y, .int z]) (rest := []) (K := fun r V' => V' = V ∧ ((r = 1 ∧ msr x y z) ∨ (r = 0 ∧ ¬ msr x y z))) dX8_part_3 ms_X8_isMeasure ml_RX8_63 ⟨Nat.le_of_ble_eq_true rfl, Nat.le_of_ble_eq_true rfl⟩ ⟨rfl, rfl⟩ rfl rfl (Nat.le_of_ble_eq_true rfl) (sp_msr hS (fun q => ⟨rfl, Or.inl ⟨rfl, q⟩⟩) (fun q => ⟨rfl, Or.inr ⟨rfl, q⟩⟩)) (fun r V' hr => ?_)
  obtain ⟨rfl, hr⟩ := hr
  refine r_if_ne 11 dX8_part_6 (by decide) (fun q => ?_) (fun q => ?_)
  · have hm : msr x y z := by
      rcases hr with w | w
      · exact w.2
      · exact absurd w.1 q
    refine r_aload_n (v := .ref (eA E 8 0)) dX8_part_11 rfl (rl_ref _) ?_
    refine r_get (v := .ref (eA E 3 0)) dX8_part_12 fl_RX8_10 (hS.1 8 (by decide)) rfl ?_
    refine r_get (v := .int (V' 405 0 0)) dX8_part_15 fl_RX8_67 (hS.1 3 (by decide)) rfl ?_
    refine r_bipush (v := (40 : Int32)) dX8_part_18 (by decide) ?_
    rw [hn]
    refine r_icmp_lt 26 dX8_part_20 (by decide) (fun q2 => ?_) (fun q2 => ?_)
    · have hlt : n < 40 := (nI_ltI (b := 40) (by omega) (by decide)).mp q2
      refine r_aload_n (v := .ref (eA E 8 0)) dX8_part_26 rfl (rl_ref _) ?_
      refine r_get (v := .ref (eA E 3 0)) dX8_part_27 fl_RX8_10 (hS.1 8 (by decide)) rfl ?_
      refine w_new tyX2 dX8_part_30 (ci := 2) rfl uw_X2 tyX2_ok kw_RX8_71 ki_X2 mi_X2_init.2.2 (dF rfl) (by decide) (by decide) (fun b => ?_)
      refine w_dup dX8_part_33 rfl ?_
      refine w_iconst (v := (0 : Int32)) dX8_part_34 (by decide) ?_
      refine w_iload_n (x := x) dX8_part_35 rfl ?_
      refine w_iload_n (x := y) dX8_part_36 rfl ?_
      refine w_iload_n (x := z) dX8_part_37 rfl ?_
      refine w_init (w2 := []) (b := b) (rY := rm_X2_init) (As := [.int 0, .int x, .int y, .int z]) (rest := [.ref b, .ref (eA E 3 0)]) (na := 4) dX8_part_38 mi_X2_init rfl (by decide +kernel) ml_RX8_73 ⟨Nat.le_of_ble_eq_true rfl, Nat.le_of_ble_eq_true rfl⟩ ⟨by decide, by decide⟩ rfl rfl (Nat.le_of_ble_eq_true rfl) (fun sz => ct_X2_init) (fun w hw => ?_)
      obtain ⟨b4, b5, b6, b7, rfl⟩ := hw
      refine w_name (E' := addP E n b b4 b5 b6 b7) (V' := addPV V' n 0 x y z) (c := 2) (i := n) (ids := [2, 304, 305, 306, 307]) (addP_off _ _ _ _ _ _ _ _ _ _ _ _) (fun w => absurd ((hp n).mp w) (by omega)) hR (fun c' hc' => hS.1 c' ((show ∀ c' : Nat, c' ∈ ([0, 3, 4, 5, 6] : List Nat) → c' ∈ ([0, 3, 4, 5, 6, 8, 9] : List Nat) by decide) c' hc')) (ptW_eq hS n b b4 b5 b6 b7 0 x y z) cov2 ?_
      have hS2 : Sg (addP E n b b4 b5 b6 b7) := ⟨fun c hc => Or.inl (hS.1 c hc), hS.2⟩
      have e3 : eA (addP E n b b4 b5 b6 b7) 3 0 = eA E 3 0 := by
        show (if 0 = n then _ else _) = _
        split <;> rfl
      have e2 : eA (addP E n b b4 b5 b6 b7) 2 n = b := (addP_a E n b b4 b5 b6 b7).1
      refine r_callV (rY := rm_X3_add) (ci := 3) (i := 0) (As := [.ref (eA (addP E n b b4 b5 b6 b7) 2 n)]) (rest := []) (Qc := Qe K) dX8_part_41 mv_X3_add ml_RX8_76 ⟨_, _, rfl⟩ (hS2.1 3 (by decide)) ⟨Nat.le_of_ble_eq_true rfl, Nat.le_of_ble_eq_true rfl⟩ ⟨by decide, by decide⟩ rfl (by rw [e2, e3]; rfl) (Nat.le_of_ble_eq_true rfl) ?_ (fun r E' V2 hr => ?_)
      · refine sp_add hS2 (fun i hi => ?_) (by rw [addPV_f (by decide)]; exact hn) hlt (Or.inr ⟨rfl, rfl⟩) (h3 hm hlt b b4 b5 b6 b7)
        rcases hi with hi | hi
        · exact ho 3 (by decide) i hi
        · omega
      · obtain ⟨v, rfl, hv⟩ := hr
        exact r_iret dX8_part_44 rfl ⟨by decide, by decide⟩ ⟨_, rfl, hv⟩
    · have e : n = 40 := by
        have : ¬ n < 40 := fun w => q2 (nI_lt (b := 40) w (by decide))
        omega
      refine r_bipush (v := (-3 : Int32)) dX8_part_23 (by decide) ?_
      exact r_iret dX8_part_25 rfl ⟨by decide, by decide⟩ ⟨_, rfl, h2 hm e⟩
  · have hm : ¬ msr x y z := by
      rcases hr with w | w
      · exact absurd (w.1.symm.trans q) (by decide)
      · exact w.2
    refine r_iconst (v := (-1 : Int32)) dX8_part_9 (by decide) ?_
    exact r_iret dX8_part_10 rfl ⟨by decide, by decide⟩ ⟨_, rfl, h1 hm⟩
end Part

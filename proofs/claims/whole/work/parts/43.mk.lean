/-! MAKERS: bodies that make cells. The object at q is theirs, and what is made; all else stays -/
def Aq (q sz : Nat) : Nat → Prop := fun x => x = q ∨ sz ≤ x
def Bz (G : Gt) (H0 : Heap) : Prop := (gB G).size ≤ H0.size ∧ ∀ x, x < (gB G).size → H0[x]? = (gB G)[x]?
def Qc (G : Gt) (q : Nat) (Post : Option Value → va_W → Prop) : Array Value → State → Outcome → State → Prop := fun _ U oc t => ∃ r ws, oc = .returned r ∧ Post r ws ∧ va_P (gD G) cls ws t.heap ∧ va_D (Aq q U.heap.size) ws ∧ U.heap.size ≤ t.heap.size ∧ ∀ x, x < U.heap.size → x ≠ q → t.heap[x]? = U.heap[x]?
def EvC (l : Launch) (G : Gt) (own nm : String) (cc : ByteArray) (nL : Nat) (ret : Option FieldType) (rm : Room) (q k n : Nat) (ws : va_W) (pc : Nat) (ll : List (Nat × Value)) (st : List Value) (Post : Option Value → va_W → Prop) : Prop :=
  ∀ (p : Program) (e : Env) (s : State) (m : MethodId) (args : Array Value) (below : List Frame) (meth : Method) (c : Code) (H : Heap) (locs : List Loc) (ls : Array Slot),
    Cx G own cc nL ret p s m args meth c → meth.name = nm → Bz G s.heap → (gB G).size ≤ q → va_P (gD G) cls ws H → va_D (Aq q s.heap.size) ws → va_S (Aq q s.heap.size) s.heap H locs → lv_has ls nL ll →
    W p l e rm s m args below meth c H locs k n (MQ below (Qc G q Post) args s rm.cells rm.slots (Aq q s.heap.size)) (F0 m pc ls st)
def Ct (l : Launch) (G : Gt) (y : MethodName) (cc : ByteArray) (nL : Nat) (ret : Option FieldType) (rm : Room) (q sz : Nat) (e0 : va_E) (as : List Value) (Post : Option Value → va_W → Prop) : Prop :=
  Met l y (Cond.code y cc nL ret :: tb) rm (va_Pc as (fun U => KU G U ∧ Bz G U.heap ∧ U.heap.size = sz ∧ (gB G).size ≤ q ∧ va_at (gD G) cls (q, e0) U.heap)) (Qc G q Post) rm.cells rm.slots (Aq q sz)
theorem va_D1 {A : Nat → Prop} {x : Nat × va_E} (h : A x.1) : va_D A [x] := by
  have z : ∀ (k : Nat) (p : Nat × va_E), [x][k]? = some p → k = 0 ∧ p = x := fun k p hk => by
    cases k with
    | zero => cases hk; exact ⟨rfl, rfl⟩
    | succ k => simp at hk
  refine ⟨fun i j p q hi hj _ => ?_, fun k q hk => ?_⟩
  · rw [(z i p hi).1, (z j q hj).1]
  · rw [(z k q hk).2]
    exact h
theorem va_P1 {D : va_G} {x : Nat × va_E} {H : Heap} (h : va_at D cls x H) : va_P D cls [x] H := fun k p hk => by
  cases k with
  | zero => cases hk; exact h
  | succ k => simp at hk
theorem Ct.of {l : Launch} {G : Gt} {y : MethodName} {cc : ByteArray} {nL : Nat} {ret : Option FieldType} {rm : Room} {q sz : Nat} {e0 : va_E} {as : List Value} {Post : Option Value → va_W → Prop} (hy : plainName y.cls = true) (hn : (lg_sl as).length ≤ nL)
    (h : EvC l G y.cls y.name cc nL ret rm q 0 0 [(q, e0)] 0 (lv_args 0 as) [] Post) : Ct l G y cc nL ret rm q sz e0 as Post := by
  refine Met.ofW (cc := cc) (maxL := nL) (ret := ret) hy rfl ?_
  intro p e s m args below meth c s₁ B hml hv
  obtain ⟨rfl, hK, hB, hsz, hq, ha⟩ := hv
  subst hsz
  have hts := atoms_spec (ws := Cond.code y cc nL ret :: tb) B.pre
  have hl := lv_entry as (n := nL) hn
  rw [lg_entry_eq]
  exact h p e s m _ below meth c s.heap [] _ ⟨B.exec, B.bytes, B.returns, hml, findClass_of_methodNamed B.named, fun w hw => hts w (List.mem_cons_of_mem _ hw), B.notSynchronized, hK⟩ (name_of_methodNamed B.named B.method).1 hB hq (va_P1 ha) (va_D1 (Or.inl rfl)) va_S.rf hl
theorem va_RA_inj {U : State} {c1 c2 : ClassId} {ty : FieldType} (h1 : va_RA U c1 ty) (h2 : va_RA U c2 ty) : c1 = c2 := by
  cases ty with
  | object C =>
    obtain ⟨_, _, _, _, _, a⟩ := h1
    obtain ⟨_, _, _, _, _, b⟩ := h2
    exact Option.some.inj (a.symm.trans b)
  | _ => exact Option.some.inj (Eq.symm h1 |>.trans h2)
theorem ko_inst : Cond.instanceMethod objectInit ∈ tb := tb_in (List.mem_of_getElem? (i := 64) (by decide +kernel)) rfl
theorem ko_code : Cond.code objectInit object_method_1_code 1 none ∈ tb := tb_in (List.mem_of_getElem? (i := 65) (by decide +kernel)) rfl
def FQ (own : String) (idx c k : Nat) (ty : FieldType) (fin : Bool) : Prop := ∃ (q : vw_C) (ty0 : Nat → FieldType), cls[c]? = some q ∧ k < q.2.2 ∧ Cond.fieldLink own idx (q.2.1 k).1 (q.2.1 k).2.1 (q.2.1 k).2.2.1 ∈ tb ∧ (∀ w ∈ u_ws q.1 q.2.1 q.2.2, w ∈ tb) ∧ (q.2.1 k).2.2.2 = fin ∧ (q.2.1 k).1 = own ∧ parseFieldDescriptor (q.2.1 k).2.2.1 = some ty ∧ (∀ j, j < q.2.2 → parseFieldDescriptor (q.2.1 j).2.2.1 = some (ty0 j)) ∧ ∀ a, a < q.2.2 → ∀ b, b < q.2.2 → a ≠ b → (q.2.1 a).2.1 ≠ (q.2.1 b).2.1
section CRows
variable {l : Launch} {G : Gt} {own nm : String} {cc : ByteArray} {nL : Nat} {ret : Option FieldType} {rm : Room} {q k n : Nat} {ws : va_W} {pc : Nat} {ll : List (Nat × Value)} {st : List Value} {Post : Option Value → va_W → Prop}
theorem c_iconst {z : Int} {v : Int32} (hd : decode cc pc = .ok (.iconst z, 1)) (hv : Int32.ofInt z = v) (kk : EvC l G own nm cc nL ret rm q k n ws (pc + 1) ll (.int v :: st) Post) : EvC l G own nm cc nL ret rm q k n ws pc ll st Post := by
  intro p e s m args below meth c H locs ls C hN hB hq hP hD hS hl
  obtain ⟨hx, hb, hr, hml, ho, hts, hlk, hK⟩ := And.intro True.intro C |>.2
  exact lv_iconst hx hb hd hv (kk p e s m args below meth c H locs ls C hN hB hq hP hD hS hl)
theorem c_bipush {z : Int} {v : Int32} (hd : decode cc pc = .ok (.bipush z, 2)) (hv : (Int8.ofInt z).toInt32 = v) (kk : EvC l G own nm cc nL ret rm q k n ws (pc + 2) ll (.int v :: st) Post) : EvC l G own nm cc nL ret rm q k n ws pc ll st Post := by
  intro p e s m args below meth c H locs ls C hN hB hq hP hD hS hl
  obtain ⟨hx, hb, hr, hml, ho, hts, hlk, hK⟩ := And.intro True.intro C |>.2
  exact lv_bipush hx hb hd hv (kk p e s m args below meth c H locs ls C hN hB hq hP hD hS hl)
theorem c_sipush {z : Int} {v : Int32} (hd : decode cc pc = .ok (.sipush z, 3)) (hv : (Int16.ofInt z).toInt32 = v) (kk : EvC l G own nm cc nL ret rm q k n ws (pc + 3) ll (.int v :: st) Post) : EvC l G own nm cc nL ret rm q k n ws pc ll st Post := by
  intro p e s m args below meth c H locs ls C hN hB hq hP hD hS hl
  obtain ⟨hx, hb, hr, hml, ho, hts, hlk, hK⟩ := And.intro True.intro C |>.2
  exact lv_sipush hx hb hd hv (kk p e s m args below meth c H locs ls C hN hB hq hP hD hS hl)
theorem c_ldc {idx : Nat} {v : Int32} (hd : decode cc pc = .ok (.ldc idx, 2)) (hw : Cond.constant own idx v ∈ tb) (kk : EvC l G own nm cc nL ret rm q k n ws (pc + 2) ll (.int v :: st) Post) : EvC l G own nm cc nL ret rm q k n ws pc ll st Post := by
  intro p e s m args below meth c H locs ls C hN hB hq hP hD hS hl
  obtain ⟨hx, hb, hr, hml, ho, hts, hlk, hK⟩ := And.intro True.intro C |>.2
  exact lv_ldc hx hb ho (hts _ hw) hd (kk p e s m args below meth c H locs ls C hN hB hq hP hD hS hl)
theorem c_iload_n {j : Fin 4} {x : Int32} (hd : decode cc pc = .ok (.iload_n j, 1)) (hv : lk ll j.val = some (.int x)) (kk : EvC l G own nm cc nL ret rm q k n ws (pc + 1) ll (.int x :: st) Post) : EvC l G own nm cc nL ret rm q k n ws pc ll st Post := by
  intro p e s m args below meth c H locs ls C hN hB hq hP hD hS hl
  obtain ⟨hx, hb, hr, hml, ho, hts, hlk, hK⟩ := And.intro True.intro C |>.2
  exact lv_iload_n hx hb hd rfl (lk_at hl hv) (kk p e s m args below meth c H locs ls C hN hB hq hP hD hS hl)
theorem c_iload {j : Nat} {x : Int32} (hd : decode cc pc = .ok (.iload j, 2)) (hv : lk ll j = some (.int x)) (kk : EvC l G own nm cc nL ret rm q k n ws (pc + 2) ll (.int x :: st) Post) : EvC l G own nm cc nL ret rm q k n ws pc ll st Post := by
  intro p e s m args below meth c H locs ls C hN hB hq hP hD hS hl
  obtain ⟨hx, hb, hr, hml, ho, hts, hlk, hK⟩ := And.intro True.intro C |>.2
  exact lv_iload hx hb hd (lk_at hl hv) (kk p e s m args below meth c H locs ls C hN hB hq hP hD hS hl)
theorem c_aload_n {j : Fin 4} {v : Value} (hd : decode cc pc = .ok (.aload_n j, 1)) (hv : lk ll j.val = some v) (hr : rl v) (kk : EvC l G own nm cc nL ret rm q k n ws (pc + 1) ll (v :: st) Post) : EvC l G own nm cc nL ret rm q k n ws pc ll st Post := by
  intro p e s m args below meth c H locs ls C hN hB hq hP hD hS hl
  obtain ⟨hx, hb, -, hml, ho, hts, hlk, hK⟩ := And.intro True.intro C |>.2
  rcases hr with rfl | ⟨a, rfl⟩
  · exact lv_aload_nN hx hb hd rfl (lk_at hl hv) (kk p e s m args below meth c H locs ls C hN hB hq hP hD hS hl)
  · exact lv_aload_n hx hb hd rfl (lk_at hl hv) (kk p e s m args below meth c H locs ls C hN hB hq hP hD hS hl)
theorem c_astore_n {j : Fin 4} {a : Nat} (hd : decode cc pc = .ok (.astore_n j, 1)) (hj : j.val < nL) (kk : EvC l G own nm cc nL ret rm q k n ws (pc + 1) (sto j.val (.ref a) ll) st Post) : EvC l G own nm cc nL ret rm q k n ws pc ll (.ref a :: st) Post := by
  intro p e s m args below meth c H locs ls C hN hB hq hP hD hS hl
  obtain ⟨hx, hb, hr, hml, ho, hts, hlk, hK⟩ := And.intro True.intro C |>.2
  exact lv_astore_n (lv' := (j.val, Value.ref a) :: ll.filter (fst1 j.val)) hx hb hd rfl hl hj rfl (fun ls' hl' => kk p e s m args below meth c H locs ls' C hN hB hq hP hD hS (sto_has hl'))
theorem c_dup {v : Value} (hd : decode cc pc = .ok (.dup, 1)) (hc : v.category = 1) (kk : EvC l G own nm cc nL ret rm q k n ws (pc + 1) ll (v :: v :: st) Post) : EvC l G own nm cc nL ret rm q k n ws pc ll (v :: st) Post := by
  intro p e s m args below meth c H locs ls C hN hB hq hP hD hS hl
  obtain ⟨hx, hb, hr, hml, ho, hts, hlk, hK⟩ := And.intro True.intro C |>.2
  exact lv_dup hx hb hd hc (kk p e s m args below meth c H locs ls C hN hB hq hP hD hS hl)
theorem c_icmp_ne {x y : Int32} {off : Int} (tgt : Nat) (hd : decode cc pc = .ok (.if_icmp .ne off, 3)) (ht : (pc : Int) + off = (tgt : Int)) (kt : ¬ x = y → EvC l G own nm cc nL ret rm q k n ws tgt ll st Post) (kf : x = y → EvC l G own nm cc nL ret rm q k n ws (pc + 3) ll st Post) : EvC l G own nm cc nL ret rm q k n ws pc ll (.int y :: .int x :: st) Post := by
  intro p e s m args below meth c H locs ls C hN hB hq hP hD hS hl
  obtain ⟨hx, hb, hr, hml, ho, hts, hlk, hK⟩ := And.intro True.intro C |>.2
  exact lv_icmp_ne hx hb hd ht (fun z => kt z p e s m args below meth c H locs ls C hN hB hq hP hD hS hl) (fun z => kf z p e s m args below meth c H locs ls C hN hB hq hP hD hS hl)
theorem c_loc {ll' : List (Nat × Value)} (ks : List Nat) (h : lv_pick ll ks = ll') (kk : EvC l G own nm cc nL ret rm q k n ws pc ll' st Post) : EvC l G own nm cc nL ret rm q k n ws pc ll st Post :=
  fun p e s m args below meth c H locs ls C hN hB hq hP hD hS hl => kk p e s m args below meth c H locs ls C hN hB hq hP hD hS (lv_sub hl ks h)
theorem c_newa {at' : ArrayType} {ty : FieldType} {x : Int32} {N t : Nat} (hd : decode cc pc = .ok (.newarray at', 2)) (harr : Cond.arrayClass (newarray.typeOf at') ∈ tb) (hty : newarray.typeOf at' = ty) (ht : (tyL G)[t]? = some (gT G t, ty)) (ha : ∀ cA : ClassId, vp_cell cA (N, .inl (fun _ => 0)) = arrV cA N (fun _ => defaultValue ty)) (hn : ¬ x < 0) (hN' : x.toNatClampNeg = N) (hbytes : N * componentBytes ty ≤ 536870912) (hcells : k + 1 ≤ rm.cells) (hslots : n + N ≤ rm.slots) (kk : ∀ b, EvC l G own nm cc nL ret rm q (k + 1) (n + N) (ws ++ [(b, .inl (gT G t, N, .inl (fun _ => 0)))]) (pc + 2) ll (.ref b :: st) Post) : EvC l G own nm cc nL ret rm q k n ws pc ll (.int x :: st) Post := by
  intro p e s m args below meth c H locs ls C hN hB hq hP hD hS hl
  obtain ⟨hx, hb, hr, hml, ho, hts, hlk, hK⟩ := And.intro True.intro C |>.2
  refine va_newa (a0 := (N, .inl (fun _ => 0))) hx hb (hts _ harr) hty hK.1 hP hD hS (fun z h => Or.inr h) ha hn hN' hbytes hcells hslots hd (fun b cA H1 hK1 hP1 hD1 hS1 => ?_)
  have e1 := (hK1.2 6 (cA, ty) rfl).2
  have e2 := (hK.1.2 t _ ht).2
  have e3 : cA = gT G t := va_RA_inj e1 e2
  subst e3
  exact kk b p e s m args below meth c H1 locs ls C hN hB hq hP1 hD1 hS1 hl
theorem c_anew {idx : Nat} {Cn : String} {x : Int32} {N t : Nat} (hd : decode cc pc = .ok (.anewarray idx, 3)) (hlink : Cond.classLink own idx Cn ∈ tb) (hov : ∀ U, NWs U → va_AO Cn U) (ht : (tyL G)[t]? = some (gT G t, .object Cn)) (hn : ¬ x < 0) (hN' : x.toNatClampNeg = N) (hbytes : N * 4 ≤ 536870912) (hcells : k + 1 ≤ rm.cells) (hslots : n + N ≤ rm.slots) (kk : ∀ b, EvC l G own nm cc nL ret rm q (k + 1) (n + N) (ws ++ [(b, .inl (gT G t, N, .inr (.inr (.inr (.inr (fun _ => none))))))]) (pc + 3) ll (.ref b :: st) Post) : EvC l G own nm cc nL ret rm q k n ws pc ll (.int x :: st) Post := by
  intro p e s m args below meth c H locs ls C hN hB hq hP hD hS hl
  obtain ⟨hx, hb, hr, hml, ho, hts, hlk, hK⟩ := And.intro True.intro C |>.2
  refine va_newq hx hb ho (hts _ hlink) (hov s hK.2.2.2.2.2.2.2.2.2) hK.1 hP hD hS (fun z h => Or.inr h) hn hN' hbytes hcells hslots hd (fun b cA H1 hK1 hP1 hD1 hS1 => ?_)
  have e1 := (hK1.2 6 (cA, .object Cn) rfl).2
  have e2 := (hK.1.2 t _ ht).2
  have e3 : cA = gT G t := va_RA_inj e1 e2
  subst e3
  exact kk b p e s m args below meth c H1 locs ls C hN hB hq hP1 hD1 hS1 hl
theorem c_putF {idx ci kf a q0 : Nat} {v : Value} {ty : FieldType} {fs : List Value} (hd : decode cc pc = .ok (.putfield idx, 3)) (hf : FQ own idx ci kf ty true) (he : ws[q0]? = some (a, .inr (ci, fs))) (hn : narrow ty v = v) (hfit : fits ty v = true) (hlen : kf < fs.length) (hin : nm = "<init>") (kk : EvC l G own nm cc nL ret rm q k n (ws.set q0 (a, .inr (ci, fs.set kf v))) (pc + 3) ll st Post) : EvC l G own nm cc nL ret rm q k n ws pc ll (v :: .ref a :: st) Post := by
  intro p e s m args below meth c H locs ls C hN hB hq hP hD hS hl
  obtain ⟨hx, hb, hr, hml, ho, hts, hlk, hK⟩ := And.intro True.intro C |>.2
  obtain ⟨⟨Cn, T, N⟩, ty0, hc, hk, hlink, hinw, hfin, hdecl, hty, hty0, hnm⟩ := hf
  exact va_putF hx hb hts hinw ty0 hty0 hnm ho hK.1 hP hD hS q0 he hc kf hk (hts _ hlink) (fun x h => h) hfin (hN.trans hin) hdecl hty hn hfit hlen hd (fun H1 locs1 hP1 hD1 hS1 => kk p e s m args below meth c H1 locs1 ls C hN hB hq hP1 hD1 hS1 hl)
theorem c_put {idx ci kf a q0 : Nat} {v : Value} {ty : FieldType} {fs : List Value} (hd : decode cc pc = .ok (.putfield idx, 3)) (hf : FQ own idx ci kf ty false) (he : ws[q0]? = some (a, .inr (ci, fs))) (hn : narrow ty v = v) (hfit : fits ty v = true) (hlen : kf < fs.length) (kk : EvC l G own nm cc nL ret rm q k n (ws.set q0 (a, .inr (ci, fs.set kf v))) (pc + 3) ll st Post) : EvC l G own nm cc nL ret rm q k n ws pc ll (v :: .ref a :: st) Post := by
  intro p e s m args below meth c H locs ls C hN hB hq hP hD hS hl
  obtain ⟨hx, hb, hr, hml, ho, hts, hlk, hK⟩ := And.intro True.intro C |>.2
  obtain ⟨⟨Cn, T, N⟩, ty0, hc, hk, hlink, hinw, hfin, hdecl, hty, hty0, hnm⟩ := hf
  exact va_put hx hb hts hinw ty0 hty0 hnm ho hK.1 hP hD hS q0 he hc kf hk (hts _ hlink) (fun x h => h) hfin hty hn hfit hlen hd (fun H1 locs1 hP1 hD1 hS1 => kk p e s m args below meth c H1 locs1 ls C hN hB hq hP1 hD1 hS1 hl)
theorem c_iast {a q0 N : Nat} {f : Nat → Int32} {i x : Int32} (hd : decode cc pc = .ok (.iastore, 1)) (he : ws[q0]? = some (a, .inl (gT G 0, N, .inl f))) (hin : vp_in i N) (kk : EvC l G own nm cc nL ret rm q k n (ws.set q0 (a, .inl (gT G 0, N, .inl (upd f i.toNatClampNeg x)))) (pc + 1) ll st Post) : EvC l G own nm cc nL ret rm q k n ws pc ll (.int x :: .int i :: .ref a :: st) Post := by
  intro p e s m args below meth c H locs ls C hN hB hq hP hD hS hl
  obtain ⟨hx, hb, hr, hml, ho, hts, hlk, hK⟩ := And.intro True.intro C |>.2
  exact va_iast hx hb hK.1 hP hD hS q0 0 he rfl hin hd (fun H1 locs1 hP1 hD1 hS1 => kk p e s m args below meth c H1 locs1 ls C hN hB hq hP1 hD1 hS1 hl)
theorem Aq_gA {sz : Nat} {G : Gt} {H0 : Heap} (hB : Bz G H0) (hq : (gB G).size ≤ q) (hz : H0.size = sz) {x : Nat} (h : Aq q sz x) : gA G x := by
  rcases h with h | h
  · rw [h]
    exact hq
  · have := hB.1
    show (gB G).size ≤ x
    omega
theorem c_vret (hd : decode cc pc = .ok (.return_, 1)) (hrt : ret = none) (hkn : k ≤ rm.cells ∧ n ≤ rm.slots) (hpost : Post none ws) : EvC l G own nm cc nL ret rm q k n ws pc ll [] Post := by
  intro p e s m args below meth c H locs ls C hN hB hq hP hD hS hl
  obtain ⟨hx, hb, hr, hml, ho, hts, hlk, hK⟩ := And.intro True.intro C |>.2
  subst hrt
  exact W.widen hkn.1 hkn.2 (W.vret hx hb hr (fun t ht hW => ⟨_, _, rfl, hpost, by rw [ht]; exact hP, hD, by rw [ht]; exact hS.1, fun x h1 h2 => by rw [ht]; exact hS.2.1 x h1 (fun z => z.elim h2 (fun y => by omega))⟩) hS.2.2 hd)
theorem c_aret {v : Value} {rt : FieldType} (hd : decode cc pc = .ok (.areturn, 1)) (hrt : ret = some rt) (hrt2 : (∃ n, rt = .object n) ∨ ∃ t, rt = .array t) (hv : rl v) (hkn : k ≤ rm.cells ∧ n ≤ rm.slots) (hpost : Post (some v) ws) : EvC l G own nm cc nL ret rm q k n ws pc ll [v] Post := by
  intro p e s m args below meth c H locs ls C hN hB hq hP hD hS hl
  obtain ⟨hx, hb, hr, hml, ho, hts, hlk, hK⟩ := And.intro True.intro C |>.2
  subst hrt
  exact W.widen hkn.1 hkn.2 (W.aret hx hb hr hrt2 hv (fun t ht hW => ⟨_, _, rfl, hpost, by rw [ht]; exact hP, hD, by rw [ht]; exact hS.1, fun x h1 h2 => by rw [ht]; exact hS.2.1 x h1 (fun z => z.elim h2 (fun y => by omega))⟩) hS.2.2 hd)
theorem c_objInit {idx : Nat} {a : Nat} (hd : decode cc pc = .ok (.invokespecial idx, 3)) (hlink : Cond.methodLink own idx objectInit ∈ tb) (hf : 1 ≤ rm.frames) (hlo : (st.map fun v => v.category).sum + 12 ≤ rm.locals) (kk : EvC l G own nm cc nL ret rm q k n ws (pc + 3) ll st Post) : EvC l G own nm cc nL ret rm q k n ws pc ll (.ref a :: st) Post := by
  intro p e s m args below meth c H locs ls C hN hB hq hP hD hS hl
  obtain ⟨hx, hb, hr, hml, ho, hts, hlk, hK⟩ := And.intro True.intro C |>.2
  refine W.objInit hx hb ho (hts _ hlink) (hts _ ko_inst) (hts _ ko_code) rfl (by rw [hml]; exact hl.1) rfl hd hf (by show 2 * 0 + _ + 12 ≤ _; omega) ?_
  exact W.eq (g2 := F0 m (pc + 3) ls st) rfl (kk p e s m args below meth c H locs ls C hN hB hq hP hD hS hl)
end CRows

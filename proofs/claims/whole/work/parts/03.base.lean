/-! THE WORLD BY NAMES. A cell's name is (id, i): id < 100: the i-th object of class id (cls); id = 100 * (c + 1) + k: the array in field k of the i-th object of class c. V id i j: the int there (of a scalar field: V (its id) i 0). -/
abbrev Vt : Type := Nat → Nat → Nat → Int32
/-- what never changes in a run: class numbers, array classes, the heap at the law's entry, String constants' cells and rows, MOST_TOLD's row -/
abbrev Gt : Type := va_G × (Nat → ClassId) × Heap × (Nat → Nat) × (Nat → Nat) × Nat
/-- what only makings change: addresses, which objects there are, lengths of arrays, references -/
abbrev Et : Type := (Nat → Nat → Nat) × (Nat → Nat → Prop) × (Nat → Nat → Nat) × (Nat → Nat → Option Nat)
abbrev gD (G : Gt) : va_G := G.1
abbrev gT (G : Gt) : Nat → ClassId := G.2.1
abbrev gB (G : Gt) : Heap := G.2.2.1
abbrev gK (G : Gt) : Nat → Nat := G.2.2.2.1
abbrev gV (G : Gt) : Nat → Nat := G.2.2.2.2.1
abbrev gM (G : Gt) : Nat := G.2.2.2.2.2
abbrev eA (E : Et) : Nat → Nat → Nat := E.1
abbrev eL (E : Et) : Nat → Nat → Prop := E.2.1
abbrev eN (E : Et) : Nat → Nat → Nat := E.2.2.1
abbrev eR (E : Et) : Nat → Nat → Option Nat := E.2.2.2
def cls : List vw_C := [(RX0, TX0, 3), (RX1, TX1, 3), (RX2, TX2, 14), (RX3, TX3, 7), (RX4, TX4, 2), (RX5, TX5, 2), (RX6, TX6, 6), (RX7, TX7, 1), (RX8, TX8, 13), (RX9, TX9, 47)]
/-- kinds of fields: 0 an int; 1, 2, 3 a row of ints, bytes, booleans; 4, 5, 6 a row of Parts, Gifts, Texts; 8 a Text or null; 10 + c the one object of class c -/
def fkl (c : Nat) : List Nat := match c with
  | 0 => [1, 0, 0]
  | 1 => [0, 8, 0]
  | 2 => [0, 0, 0, 0, 1, 1, 1, 1, 0, 0, 0, 0, 0, 0]
  | 3 => [4, 1, 1, 1, 1, 0, 0]
  | 4 => [1, 1]
  | 5 => [1, 1]
  | 6 => [1, 1, 1, 0, 0, 0]
  | 7 => [1]
  | 8 => [13, 15, 10, 16, 14, 5, 6, 1, 1, 0, 0, 0, 0]
  | 9 => [0, 0, 1, 1, 1, 1, 1, 1, 1, 1, 1, 1, 1, 1, 3, 1, 1, 1, 0, 0, 0, 0, 3, 1, 0, 1, 1, 1, 1, 1, 2, 0, 0, 1, 1, 0, 1, 1, 0, 1, 1, 1, 0, 1, 1, 3, 3]
  | _ => []
def kdo (id : Nat) : Nat := (fkl (id / 100 - 1)).getD (id % 100) 0
def fval (E : Et) (V : Vt) (c i k kd : Nat) : Value := match kd with
  | 0 => .int (V (100 * (c + 1) + k) i 0)
  | 8 => va_rf ((eR E (100 * (c + 1) + k) i).map (eA E 7))
  | 1 => .ref (eA E (100 * (c + 1) + k) i)
  | 2 => .ref (eA E (100 * (c + 1) + k) i)
  | 3 => .ref (eA E (100 * (c + 1) + k) i)
  | 4 => .ref (eA E (100 * (c + 1) + k) i)
  | 5 => .ref (eA E (100 * (c + 1) + k) i)
  | 6 => .ref (eA E (100 * (c + 1) + k) i)
  | n => .ref (eA E (n - 10) 0)
def fvs (E : Et) (V : Vt) (c i : Nat) : Nat → List Nat → List Value
  | _, [] => []
  | k, kd :: t => fval E V c i k kd :: fvs E V c i (k + 1) t
def obF (E : Et) (V : Vt) (c i : Nat) : List Value := fvs E V c i 0 (fkl c)
def arC (G : Gt) (E : Et) (V : Vt) (id i kd : Nat) : va_E := match kd with
  | 1 => .inl (gT G 0, eN E id i, .inl (V id i))
  | 2 => .inl (gT G 1, eN E id i, .inl (V id i))
  | 3 => .inl (gT G 2, eN E id i, .inl (V id i))
  | 4 => .inl (gT G 3, eN E id i, .inr (.inr (.inr (.inr (fun j => (eR E id j).map (eA E 2))))))
  | 5 => .inl (gT G 4, eN E id i, .inr (.inr (.inr (.inr (fun j => (eR E id j).map (eA E 1))))))
  | _ => .inl (gT G 5, eN E id i, .inr (.inr (.inr (.inr (fun j => (eR E id j).map (eA E 7))))))
def cellOf (G : Gt) (E : Et) (V : Vt) (id i : Nat) : va_E := if id < 100 then .inr (id, obF E V id i) else arC G E V id i (kdo id)
def Lv (E : Et) (id i : Nat) : Prop := if id < 100 then eL E id i else 1 ≤ kdo id ∧ kdo id ≤ 6 ∧ eL E (id / 100 - 1) i
def RepH (G : Gt) (E : Et) (V : Vt) (H : Heap) : Prop :=
  (∀ q, q < (gB G).size → H[q]? = (gB G)[q]?) ∧ (∀ id i, Lv E id i → (gB G).size ≤ eA E id i ∧ va_at (gD G) cls (eA E id i, cellOf G E V id i) H) ∧ ∀ id i id' i', Lv E id i → Lv E id' i' → eA E id i = eA E id' i' → id = id' ∧ i = i'
def up3 (V : Vt) (f i j : Nat) (v : Int32) : Vt := fun f' i' j' => if f' = f ∧ i' = i ∧ j' = j then v else V f' i' j'
theorem up3_s (V : Vt) (f i j : Nat) (v : Int32) : up3 V f i j v f i j = v := by simp [up3]
theorem up3_f {V : Vt} {f i j f' i' j' : Nat} {v : Int32} (h : f' ≠ f) : up3 V f i j v f' i' j' = V f' i' j' := by simp [up3, h]
theorem up3_i {V : Vt} {f i j f' i' j' : Nat} {v : Int32} (h : i' ≠ i) : up3 V f i j v f' i' j' = V f' i' j' := by simp [up3, h]
theorem up3_j {V : Vt} {f i j f' i' j' : Nat} {v : Int32} (h : j' ≠ j) : up3 V f i j v f' i' j' = V f' i' j' := by simp [up3, h]
theorem up3_row (V : Vt) (f i j : Nat) (v : Int32) : up3 V f i j v f i = upd (V f i) j v := by
  funext x
  simp only [up3, upd, true_and]
theorem fvs_get (E : Et) (V : Vt) (c i : Nat) : ∀ (l : List Nat) (k0 k : Nat), (fvs E V c i k0 l)[k]? = (l[k]?).map (fval E V c i (k0 + k))
  | [], k0, k => by simp [fvs]
  | kd :: t, k0, 0 => by simp [fvs]
  | kd :: t, k0, k + 1 => by
    simp only [fvs, List.getElem?_cons_succ]
    rw [fvs_get E V c i t (k0 + 1) k, show k0 + 1 + k = k0 + (k + 1) by omega]
theorem obF_get (E : Et) (V : Vt) (c i k : Nat) : (obF E V c i)[k]? = ((fkl c)[k]?).map (fval E V c i k) := by
  unfold obF
  rw [fvs_get, Nat.zero_add]
theorem fkl_len (c : Nat) : (fkl c).length ≤ 60 := by
  unfold fkl
  split <;> simp
theorem fkl_lt {c k kd : Nat} (h : (fkl c)[k]? = some kd) : k < 60 := Nat.lt_of_lt_of_le (List.getElem?_eq_some_iff.mp h).1 (fkl_len c)
theorem kdo_at {c k kd : Nat} (h : (fkl c)[k]? = some kd) : kdo (100 * (c + 1) + k) = kd := by
  have hk := fkl_lt h
  unfold kdo
  rw [show (100 * (c + 1) + k) / 100 - 1 = c by omega, show (100 * (c + 1) + k) % 100 = k by omega]
  simp [List.getD, h]
/-- a row's write changes no object's fields -/
theorem obF_row {E : Et} {V : Vt} {f i0 j c i : Nat} {v : Int32} (hf : kdo f ≠ 0) : obF E (up3 V f i0 j v) c i = obF E V c i := by
  apply List.ext_getElem?
  intro k
  rw [obF_get, obF_get]
  cases h : (fkl c)[k]? with
  | none => rfl
  | some kd =>
    simp only [Option.map_some]
    congr 1
    unfold fval
    split <;> first | rfl | skip
    rw [up3_f (fun e => hf (by rw [← e]; exact kdo_at h))]
/-- a scalar's write changes no row -/
theorem arC_other {G : Gt} {E : Et} {V : Vt} {f i0 j id i : Nat} {v : Int32} (h : ¬ (id = f ∧ i = i0)) (kd : Nat) : arC G E (up3 V f i0 j v) id i kd = arC G E V id i kd := by
  have e : up3 V f i0 j v id i = V id i := by
    funext x
    by_cases h1 : id = f
    · exact up3_i (fun q => h ⟨h1, q⟩)
    · exact up3_f h1
  unfold arC
  split <;> first | rw [e] | rfl
theorem obF_put {E : Et} {V : Vt} {c i k : Nat} {v : Int32} (hk : (fkl c)[k]? = some 0) : obF E (up3 V (100 * (c + 1) + k) i 0 v) c i = (obF E V c i).set k (.int v) := by
  apply List.ext_getElem?
  intro x
  have hk60 := fkl_lt hk
  rw [List.getElem?_set, obF_get, obF_get]
  by_cases hx : k = x
  · subst hx
    have hl : k < (obF E V c i).length := by
      have : (obF E V c i)[k]? = some (fval E V c i k 0) := by rw [obF_get, hk]; rfl
      exact (List.getElem?_eq_some_iff.mp this).1
    rw [if_pos rfl, if_pos hl, hk]
    simp only [Option.map_some, fval, up3_s]
  · rw [if_neg hx]
    cases h : (fkl c)[x]? with
    | none => rfl
    | some kd =>
      simp only [Option.map_some]
      congr 1
      unfold fval
      split <;> first | rfl | skip
      rw [up3_f (by omega)]
theorem obF_other {E : Et} {V : Vt} {c i k c' i' : Nat} {v : Int32} (hk : (fkl c)[k]? = some 0) (h : ¬ (c' = c ∧ i' = i)) : obF E (up3 V (100 * (c + 1) + k) i 0 v) c' i' = obF E V c' i' := by
  apply List.ext_getElem?
  intro x
  have hk60 := fkl_lt hk
  rw [obF_get, obF_get]
  cases hx : (fkl c')[x]? with
  | none => rfl
  | some kd =>
    have hx60 := fkl_lt hx
    simp only [Option.map_some]
    congr 1
    unfold fval
    split <;> first | rfl | skip
    by_cases hi : i' = i
    · rw [up3_f (fun e => h ⟨by omega, hi⟩)]
    · rw [up3_i hi]
/-- the heap behind a write to one named cell -/
theorem RepH.wr {G : Gt} {E : Et} {V V' : Vt} {H H1 : Heap} {id i : Nat} (h : RepH G E V H) (hl : Lv E id i) (hz : H1.size = H.size) (ho : ∀ q, q ≠ eA E id i → H1[q]? = H[q]?) (hs : va_at (gD G) cls (eA E id i, cellOf G E V' id i) H1) (hv : ∀ id' i', ¬ (id' = id ∧ i' = i) → cellOf G E V' id' i' = cellOf G E V id' i') : RepH G E V' H1 := by
  obtain ⟨h1, h2, h3⟩ := h
  refine ⟨fun q hq => ?_, fun id' i' hl' => ?_, h3⟩
  · have := (h2 id i hl).1
    rw [ho q (by omega)]
    exact h1 q hq
  · refine ⟨(h2 id' i' hl').1, ?_⟩
    by_cases he : id' = id ∧ i' = i
    · obtain ⟨rfl, rfl⟩ := he
      exact hs
    · rw [hv id' i' he]
      exact (h2 id' i' hl').2.kept (ho _ (fun e => he (h3 id' i' id i hl' hl e)))
def tb : List Cond := lw_tbl.filter goodWord
theorem tb_in {w : Cond} (h : w ∈ lw_tbl) (hg : goodWord w = true) : w ∈ tb := List.mem_filter.mpr ⟨h, hg⟩
theorem tb_good {w : Cond} (h : w ∈ tb) : goodWord w = true := (List.mem_filter.mp h).2
theorem tb_GoodIn {y : MethodName} {cc : ByteArray} {n : Nat} {ret : Option FieldType} (h : Cond.code y cc n ret ∈ tb) : GoodIn tb (Cond.code y cc n ret :: tb) := fun w hw => by
  rcases List.mem_cons.mp hw with rfl | h1
  · exact ⟨h, good_of_word (tb_good h)⟩
  · exact ⟨h1, good_of_word (tb_good h1)⟩
def tyL (G : Gt) : List (ClassId × FieldType) := [(gT G 0, .int), (gT G 1, .byte), (gT G 2, .boolean), (gT G 3, .object RX2), (gT G 4, .object RX1), (gT G 5, .object RX7)]
abbrev gA (G : Gt) : Nat → Prop := fun a => (gB G).size ≤ a
def sLen : List Nat := [8, 9]
def sByt : List (List Int32) := [[112, 107, 110, 119, 109, 121, 102, 100], [33, 43, 45, 42, 60, 61, 62, 38, 124]]
def mTold : List Int32 := [1000000, 100000, 100, 24]
def NWs (U : State) : Prop := va_Nw (.castable "[I" "java/lang/Cloneable") U ∧ va_AO RX2 U ∧ va_AO RX1 U ∧ va_AO RX7 U ∧
  va_Nw (.methodLinkNest RX8 9 yX3_init RX8) U ∧ va_Nw (.methodLinkNest RX8 18 yX5_init RX8) U ∧ va_Nw (.methodLinkNest RX8 25 yX0_init RX8) U ∧ va_Nw (.methodLinkNest RX8 32 yX6_init RX8) U ∧ va_Nw (.methodLinkNest RX8 39 yX4_init RX8) U
theorem NWs.warm {s U : State} (hW : s.WarmedH U.vm) (h : NWs s) : NWs U := by
  obtain ⟨a, b, c, d, e1, e2, e3, e4, e5⟩ := h
  exact ⟨a.warmC hW, b.moved hW.alike, c.moved hW.alike, d.moved hW.alike, e1.warmM hW, e2.warmM hW, e3.warmM hW, e4.warmM hW, e5.warmM hW⟩
theorem NWs.same {s U : State} (hv : U.vm = s.vm) (h : NWs s) : NWs U := by
  obtain ⟨a, b, c, d, e1, e2, e3, e4, e5⟩ := h
  have hal : s.vm.Alike U.vm := by rw [hv]; exact Vm.Alike.refl _
  exact ⟨a.same rfl hv.symm, b.moved hal, c.moved hal, d.moved hal, e1.same rfl hv.symm, e2.same rfl hv.symm, e3.same rfl hv.symm, e4.same rfl hv.symm, e5.same rfl hv.symm⟩
def BF (G : Gt) (U : State) : Prop :=
  vk_R RX4 9 "pknwmyfd" (gK G 0) U ∧ vk_R RX4 69 "!+-*<=>&|" (gK G 1) U ∧ vk_R RX6 42 "!+-*<=>&|" (gK G 1) U ∧ vk_R RX6 71 "pknwmyfd" (gK G 0) U ∧
  vk_S 2 sLen sByt (gK G) (gV G) (gA G) U (gB G) ∧ va_Z RX8 "MOST_TOLD" "[I" (.ref (gM G)) (gA G) U (gB G) ∧ va_T .int (gM G) 4 (fun j => .int (mTold.getD j 0)) (gA G) U (gB G) ∧ va_Z "java/lang/String" "COMPACT_STRINGS" "Z" (.int 1) (gA G) U (gB G) ∧ NWs U
theorem BF.warm {G : Gt} {s U : State} (hW : s.WarmedH U.vm) (h : BF G s) : BF G U := by
  obtain ⟨a, b, c, d, e, f, g, i, j⟩ := h
  exact ⟨a.warm hW, b.warm hW, c.warm hW, d.warm hW, e.moved hW.alike, f.moved hW.alike, g.moved hW.alike, i.moved hW.alike, j.warm hW⟩
theorem BF.same {G : Gt} {s U : State} (hv : U.vm = s.vm) (h : BF G s) : BF G U := by
  obtain ⟨a, b, c, d, e, f, g, i, j⟩ := h
  have hal : s.vm.Alike U.vm := by rw [hv]; exact Vm.Alike.refl _
  exact ⟨a.same hv, b.same hv, c.same hv, d.same hv, e.moved hal, f.moved hal, g.moved hal, i.moved hal, j.same hv⟩
def KU (G : Gt) (U : State) : Prop := va_K (gD G) cls (tyL G) U ∧ BF G U
theorem KU.warm {G : Gt} {s U : State} (hW : s.WarmedH U.vm) (h : KU G s) : KU G U := ⟨va_K.moved hW.alike h.1, h.2.warm hW⟩
theorem KU.same {G : Gt} {s U : State} (hv : U.vm = s.vm) (h : KU G s) : KU G U := ⟨va_K.moved (by rw [hv]; exact Vm.Alike.refl _) h.1, h.2.same hv⟩
def Qo (G : Gt) (Q : Option Value → Et → Vt → Prop) : Array Value → State → Outcome → State → Prop := fun _ _ oc t => ∃ r E V, oc = .returned r ∧ Q r E V ∧ RepH G E V t.heap
def Cx (G : Gt) (own : String) (cc : ByteArray) (nL : Nat) (ret : Option FieldType) (p : Program) (s : State) (m : MethodId) (args : Array Value) (meth : Method) (c : Code) : Prop :=
  p.tables.exec = Jvm.exec ∧ c.code = cc ∧ meth.sig.returnType = ret ∧ c.maxLocals = nL ∧ s.vm.findClass own = some m.cls ∧ (∀ w ∈ tb, w.before args s = true) ∧ meth.locks = false ∧ KU G s
/-- the method own.., at pc, with the locals ll, the operands st, the world E, V, k cells and n slots made: it comes to its end, with Q -/
def Ev (l : Launch) (G : Gt) (own : String) (cc : ByteArray) (nL : Nat) (ret : Option FieldType) (rm : Room) (E : Et) (k n : Nat) (V : Vt) (pc : Nat) (ll : List (Nat × Value)) (st : List Value) (Q : Option Value → Et → Vt → Prop) : Prop :=
  ∀ (p : Program) (e : Env) (s : State) (m : MethodId) (args : Array Value) (below : List Frame) (meth : Method) (c : Code) (H : Heap) (locs : List Loc) (ls : Array Slot),
    Cx G own cc nL ret p s m args meth c → RepH G E V H → (∀ q ∈ locs, gA G q.base) → lv_has ls nL ll →
    W p l e rm s m args below meth c H locs k n (MQ below (Qo G Q) args s rm.cells rm.slots (gA G)) (F0 m pc ls st)
/-- a call of y with the arguments as in the world E, V: it returns, with Q -/
def Cl (l : Launch) (G : Gt) (y : MethodName) (cc : ByteArray) (nL : Nat) (ret : Option FieldType) (rm : Room) (E : Et) (V : Vt) (as : List Value) (Q : Option Value → Et → Vt → Prop) : Prop :=
  Met l y (Cond.code y cc nL ret :: tb) rm (va_Pc as (fun U => KU G U ∧ RepH G E V U.heap)) (Qo G Q) rm.cells rm.slots (gA G)
theorem Cl.of {l : Launch} {G : Gt} {y : MethodName} {cc : ByteArray} {nL : Nat} {ret : Option FieldType} {rm : Room} {E : Et} {V : Vt} {as : List Value} {Q : Option Value → Et → Vt → Prop} (hy : plainName y.cls = true) (hn : (lg_sl as).length ≤ nL)
    (h : Ev l G y.cls cc nL ret rm E 0 0 V 0 (lv_args 0 as) [] Q) : Cl l G y cc nL ret rm E V as Q := by
  refine Met.ofW (cc := cc) (maxL := nL) (ret := ret) hy rfl ?_
  intro p e s m args below meth c s₁ B hml hv
  obtain ⟨rfl, hK, hR⟩ := hv
  have hts := atoms_spec (ws := Cond.code y cc nL ret :: tb) B.pre
  have hl := lv_entry as (n := nL) hn
  rw [lg_entry_eq]
  exact h p e s m _ below meth c s.heap [] _ ⟨B.exec, B.bytes, B.returns, hml, findClass_of_methodNamed B.named, fun w hw => hts w (List.mem_cons_of_mem _ hw), B.notSynchronized, hK⟩ hR (fun q h => by cases h) hl

/-! THE LAW'S START: its two objects are made, and get their names -/
def EvX (Ps : State → Prop) (l : Launch) (G : Gt) (own : String) (cc : ByteArray) (nL : Nat) (ret : Option FieldType) (rm : Room) (E : Et) (k n : Nat) (V : Vt) (ws : va_W) (pc : Nat) (ll : List (Nat × Value)) (st : List Value) (Q : Option Value → Et → Vt → Prop) : Prop :=
  ∀ (p : Program) (e : Env) (s : State) (m : MethodId) (args : Array Value) (below : List Frame) (meth : Method) (c : Code) (H : Heap) (locs : List Loc) (ls : Array Slot),
    Cx G own cc nL ret p s m args meth c → Ps s → RepH G E V H → Ex G E ws H → (∀ q ∈ locs, gA G q.base) → lv_has ls nL ll →
    W p l e rm s m args below meth c H locs k n (MQ below (Qo G Q) args s rm.cells rm.slots (gA G)) (F0 m pc ls st)
section XRows
variable {Ps : State → Prop} {l : Launch} {G : Gt} {own : String} {cc : ByteArray} {nL : Nat} {ret : Option FieldType} {rm : Room} {E : Et} {k n : Nat} {V : Vt} {ws : va_W} {pc : Nat} {ll : List (Nat × Value)} {st : List Value} {Q : Option Value → Et → Vt → Prop}
theorem x_dup {v : Value} (hd : decode cc pc = .ok (.dup, 1)) (hc : v.category = 1) (kk : EvX Ps l G own cc nL ret rm E k n V ws (pc + 1) ll (v :: v :: st) Q) : EvX Ps l G own cc nL ret rm E k n V ws pc ll (v :: st) Q := by
  intro p e s m args below meth c H locs ls C hPs hR hX hL hl
  obtain ⟨hx, hb, hr, hml, ho, hts, hlk, hK⟩ := And.intro True.intro C |>.2
  exact lv_dup hx hb hd hc (kk p e s m args below meth c H locs ls C hPs hR hX hL hl)
theorem x_astore_n {j : Fin 4} {v : Value} (hd : decode cc pc = .ok (.astore_n j, 1)) (hj : j.val < nL) (hr : rl v) (kk : EvX Ps l G own cc nL ret rm E k n V ws (pc + 1) (sto j.val v ll) st Q) : EvX Ps l G own cc nL ret rm E k n V ws pc ll (v :: st) Q := by
  intro p e s m args below meth c H locs ls C hPs hR hX hL hl
  obtain ⟨hx, hb, -, hml, ho, hts, hlk, hK⟩ := And.intro True.intro C |>.2
  rcases hr with rfl | ⟨a, rfl⟩
  · exact lv_astore_nN (lv' := (j.val, Value.null) :: ll.filter (fst1 j.val)) hx hb hd rfl hl hj rfl (fun ls' hl' => kk p e s m args below meth c H locs ls' C hPs hR hX hL (sto_has hl'))
  · exact lv_astore_n (lv' := (j.val, Value.ref a) :: ll.filter (fst1 j.val)) hx hb hd rfl hl hj rfl (fun ls' hl' => kk p e s m args below meth c H locs ls' C hPs hR hX hL (sto_has hl'))
theorem x_new {idx ci N : Nat} {Cn : String} {T : u_T} (ty : Nat → FieldType) (hd : decode cc pc = .ok (.new idx, 3)) (hc : cls[ci]? = some (Cn, T, N)) (hin : ∀ w ∈ u_ws Cn T N, w ∈ tb) (hty : ∀ j, j < N → parseFieldDescriptor (T j).2.2.1 = some (ty j)) (hlink : Cond.classLink own idx Cn ∈ tb) (hinst : Cond.instantiable Cn N ∈ tb) (hini : Cond.initialized Cn ∈ tb) (hfs : ∀ j, j < N → defaultValue (ty j) = vp_V (z0 ci) j) (hcells : k + 1 ≤ rm.cells) (hslots : n + N ≤ rm.slots) (kk : ∀ b : Nat, EvX Ps l G own cc nL ret rm E (k + 1) (n + N) V (ws ++ [(b, .inr (ci, z0 ci))]) (pc + 3) ll (.ref b :: st) Q) : EvX Ps l G own cc nL ret rm E k n V ws pc ll st Q := by
  intro p e s m args below meth c H locs ls C hPs hR hX hL hl
  obtain ⟨hx, hb, hr, hml, ho, hts, hlk, hK⟩ := And.intro True.intro C |>.2
  obtain ⟨x1, x2, x3⟩ := And.intro True.intro hX |>.2
  have hKn := hK.1.1 ci _ hc
  refine W.newcK hx hb ho (hts _ hlink) (hts _ hinst) (hts _ hini) rfl hd hcells hslots hKn.2.1 rfl fun H1 kC hkC e1 z1 o1 => ?_
  refine kk H.size p e s m args below meth c H1 locs ls C hPs (hR.keep o1 hR.bsz) ⟨va_P.app (fun i x hx' => (x1 i x hx').kept (o1 _ (x1 i x hx').lt)) (va_P1 ⟨_, hc, (u_born ty hts hin hKn hkC e1 hty).to hfs⟩), va_D.app x2 (va_D1 hR.bsz) (fun i j x y hx' hy' ee => ?_), fun j x hj id i hl' => ?_⟩ hL hl
  · cases j with
    | zero =>
      cases hy'
      have := (x1 i x hx').lt
      have ee : x.1 = H.size := ee
      omega
    | succ j => simp at hy'
  · rcases List.mem_append.mp (List.mem_of_getElem? hj) with h | h
    · obtain ⟨j', hj'⟩ := List.getElem?_of_mem h
      exact x3 j' x hj' id i hl'
    · cases List.mem_singleton.mp h
      exact Nat.ne_of_lt (hR.2.1 id i hl').2.lt
theorem x_init {idx b na nY : Nat} {y : MethodName} {cy : ByteArray} {rY : Room} {w2 : va_W} {e0 : va_E} {As rest : List Value} {Pp : va_W → Prop} (hd : decode cc pc = .ok (.invokespecial idx, 3)) (hm : Cond.code y cy nY none ∈ tb ∧ Cond.instanceMethod y ∈ tb ∧ Cond.initialized y.cls ∈ tb) (hy : y.name = "<init>") (hyd : y.cls ≠ "java/lang/invoke/MethodHandle" ∧ y.cls ≠ "java/lang/invoke/VarHandle" ∧ (parseMethodDescriptor y.desc).map (fun d => d.parameters.length) = some na) (hlink : Cond.methodLink own idx y ∈ tb) (hrm : rY.frames + 1 ≤ rm.frames ∧ 8 + (nY + 11) + rY.locals ≤ rm.locals) (hcs : k + rY.cells ≤ rm.cells ∧ n + rY.slots ≤ rm.slots) (hna : As.length = na) (hst : st = As.reverse ++ .ref b :: rest) (hcat : (rest.map fun v => v.category).sum ≤ 8)
    (hC : ∀ sz, Ct l G y cy nY none rY b sz e0 (.ref b :: As) (fun r w => r = none ∧ Pp w)) (kk : ∀ w, Pp w → EvX Ps l G own cc nL ret rm E (k + rY.cells) (n + rY.slots) V (w2 ++ w) (pc + 3) ll rest Q) : EvX Ps l G own cc nL ret rm E k n V (w2 ++ [(b, e0)]) pc ll st Q := by
  intro p e s m args below meth c H locs ls C hPs hR hX hL hl
  obtain ⟨hx, hb, hr, hml, ho, hts, hlk, hK⟩ := And.intro True.intro C |>.2
  obtain ⟨m1, m2, m4⟩ := hm
  obtain ⟨x1, x2, x3⟩ := And.intro True.intro hX |>.2
  subst hst
  have hBH : Bz G H := ⟨hR.bsz, hR.1⟩
  have hbi : (w2 ++ [(b, e0)])[w2.length]? = some (b, e0) := by simp
  have hqb : (gB G).size ≤ b := x2.2 _ _ hbi
  have hcb : CallB rm s args own idx y cy nY none (Cond.code y cy nY none :: tb) rY rY.cells rY.slots na := callB_of na hts (tb_GoodIn m1) rfl rfl rfl (hts _ m4) (hts _ hlink) hyd hrm
  have hrun := va_runI (e := e) (below := below) (meth := meth) (locs := locs) (cells := k) (slots := n) (g := F0 m pc ls (As.reverse ++ .ref b :: rest)) (As := As) (rest := rest) ⟨hx, hb, hml, ho, hts⟩ (hC H.size) ⟨hcb, hy, hts _ m2⟩ ⟨fun a U g mk h => ⟨h.1, h.2.1.same (s := U) rfl, h.2.2⟩, fun U hU hW => ⟨rfl, hK.warm hW, by rw [hU]; exact ⟨hBH, rfl, hqb, x1 _ _ hbi⟩⟩⟩ rfl hna hl.1 rfl (lv_room hcat) hd hcs
  intro T0 hT0 X
  obtain ⟨v, st₀, t, T', L, z0, X', zL, z1, z2, ⟨r, w, w1', ⟨w2', w3⟩, w4, w5, w6, w7⟩, z3⟩ := hrun T0 hT0 X
  cases w1'
  subst w2'
  rw [z0] at w5 w6 w7
  rw [← z1] at w4 w6 w7
  have hw2 : ∀ (i : Nat) (x : Nat × va_E), w2[i]? = some x → x.1 < H.size ∧ x.1 ≠ b := fun i x hx' => by
    refine ⟨(x1 i x (app_l hx')).lt, fun e => ?_⟩
    have := x2.1 i w2.length x (b, e0) (app_l hx') hbi e
    have := (List.getElem?_eq_some_iff.mp hx').1
    omega
  have hup : ∀ x, Aq b H.size x → gA G x := fun x h => by
    rcases h with h | h
    · rw [h]
      exact hqb
    · show (gB G).size ≤ x
      have := hR.bsz
      omega
  have hR1 : RepH G E V T'.heap := ⟨fun x hx' => by
      rw [w7 x (Nat.lt_of_lt_of_le hx' hR.bsz) (fun e => by omega)]
      exact hR.1 x hx', fun id i hl' => ⟨(hR.2.1 id i hl').1, (hR.2.1 id i hl').2.kept (w7 _ (hR.2.1 id i hl').2.lt (fun e => x3 _ _ hbi id i hl' e))⟩, hR.2.2⟩
  have hX1 : Ex G E (w2 ++ w) T'.heap := by
    refine ⟨va_P.app (fun i x hx' => (x1 i x (app_l hx')).kept (w7 _ (hw2 i x hx').1 (hw2 i x hx').2)) w4, va_D.app ⟨fun i j x y hx' hy' e => x2.1 i j x y (app_l hx') (app_l hy') e, fun i x hx' => x2.2 i x (app_l hx')⟩ (w5.weaken (fun _ x _ h => hup _ h)) (fun i j x y hx' hy' e => ?_), fun j x hj id i hl' e => ?_⟩
    · rcases w5.2 j y hy' with h | h
      · exact (hw2 i x hx').2 (e.trans h)
      · have := (hw2 i x hx').1
        omega
    · rcases List.mem_append.mp (List.mem_of_getElem? hj) with h | h
      · obtain ⟨j', hj'⟩ := List.getElem?_of_mem h
        exact x3 j' x (app_l hj') id i hl' e
      · obtain ⟨j', hj'⟩ := List.getElem?_of_mem h
        rcases w5.2 j' x hj' with h | h
        · exact x3 _ _ hbi id i hl' (e.trans h)
        · have := (hR.2.1 id i hl').2.lt
          have : eA E id i < H.size := this
          omega
  obtain ⟨t2, a1, c1⟩ := kk w w3 p e s m args below meth c T'.heap (locs ++ L) ls C hPs hR1 hX1 (fun y hy' => by
    rcases List.mem_append.mp hy' with h | h
    · exact hL y h
    · exact hup _ (zL y h)) hl T' rfl X'
  exact ⟨t2, z3 t2 a1, c1⟩
end XRows

/-! A WORLD THAT GROWS: cells that are made but not named yet (ws), and their naming -/
def cid (id : Nat) : Nat := if id < 100 then id else id / 100 - 1
def Ex (G : Gt) (E : Et) (ws : va_W) (H : Heap) : Prop := va_P (gD G) cls ws H ∧ va_D (gA G) ws ∧ ∀ (k : Nat) (x : Nat × va_E), ws[k]? = some x → ∀ id i, Lv E id i → eA E id i ≠ x.1
def EvW (l : Launch) (G : Gt) (own : String) (cc : ByteArray) (nL : Nat) (ret : Option FieldType) (rm : Room) (E : Et) (k n : Nat) (V : Vt) (ws : va_W) (pc : Nat) (ll : List (Nat × Value)) (st : List Value) (Q : Option Value → Et → Vt → Prop) : Prop :=
  ∀ (p : Program) (e : Env) (s : State) (m : MethodId) (args : Array Value) (below : List Frame) (meth : Method) (c : Code) (H : Heap) (locs : List Loc) (ls : Array Slot),
    Cx G own cc nL ret p s m args meth c → RepH G E V H → Ex G E ws H → (∀ q ∈ locs, gA G q.base) → lv_has ls nL ll →
    W p l e rm s m args below meth c H locs k n (MQ below (Qo G Q) args s rm.cells rm.slots (gA G)) (F0 m pc ls st)
/-- references lead to objects that there are -/
def REF (E : Et) : Prop := ∀ id j t, eR E id j = some t → (kdo id = 4 → eL E 2 t) ∧ (kdo id = 5 → eL E 1 t) ∧ (kdo id = 6 ∨ kdo id = 8 → eL E 7 t)
theorem fk_kinds (c : Nat) : ∀ kd ∈ fkl c, kd ∈ ([0, 1, 2, 3, 4, 5, 6, 8, 10, 13, 14, 15, 16] : List Nat) := by
  unfold fkl
  split <;> decide
theorem RepH.keep {G : Gt} {E : Et} {V : Vt} {H H1 : Heap} (h : RepH G E V H) (hk : ∀ x, x < H.size → H1[x]? = H[x]?) (hb : (gB G).size ≤ H.size) : RepH G E V H1 :=
  ⟨fun x hx => by rw [hk x (by omega)]; exact h.1 x hx, fun id i hl => ⟨(h.2.1 id i hl).1, (h.2.1 id i hl).2.kept (hk _ (h.2.1 id i hl).2.lt)⟩, h.2.2⟩
theorem RepH.bsz {G : Gt} {E : Et} {V : Vt} {H : Heap} (h : RepH G E V H) : (gB G).size ≤ H.size := by
  refine Nat.not_lt.mp (fun z => ?_)
  have := h.1 _ z
  rw [Array.getElem?_eq_none (Nat.le_refl _), Array.getElem?_eq_getElem z] at this
  cases this
section Grow
variable {G : Gt} {E E' : Et} {V V' : Vt} {c i : Nat}
theorem cid_f {c k : Nat} (hk : k < 60) : cid (100 * (c + 1) + k) = c := by
  unfold cid
  rw [if_neg (by omega)]
  omega
/-- what is new is the object i of class c, with its rows -/
def Off (c i : Nat) (E E' : Et) (V V' : Vt) : Prop := (∀ id j, ¬ (j = i ∧ cid id = c) → eA E' id j = eA E id j ∧ eN E' id j = eN E id j ∧ V' id j = V id j) ∧ (∀ f j, (f ≠ 201 ∨ c ≠ 1 ∨ j ≠ i) → eR E' f j = eR E f j) ∧ ∀ c' j, eL E' c' j ↔ eL E c' j ∨ (c' = c ∧ j = i)
theorem Lv.cl {id j : Nat} (h : Lv E id j) : eL E (cid id) j := by
  unfold Lv at h
  unfold cid
  split
  · rename_i q
    rw [if_pos q] at h
    exact h
  · rename_i q
    rw [if_neg q] at h
    exact h.2.2
theorem Lv.mk' {id j : Nat} (hk : id < 100 ∨ (1 ≤ kdo id ∧ kdo id ≤ 6)) (h : eL E (cid id) j) : Lv E id j := by
  unfold Lv
  unfold cid at h
  split
  · rename_i q
    rw [if_pos q] at h
    exact h
  · rename_i q
    rw [if_neg q] at h
    rcases hk with z | z
    · exact absurd z q
    · exact ⟨z.1, z.2, h⟩
theorem map_eq {o : Option Nat} {f g : Nat → Nat} (h : ∀ t, o = some t → f t = g t) : o.map f = o.map g := by
  cases o with
  | none => rfl
  | some t => exact congrArg some (h t rfl)
theorem cell_off (hO : Off c i E E' V V') (hn : ¬ eL E c i) (hR : REF E) (hs : ∀ c', c' ∈ ([0, 3, 4, 5, 6] : List Nat) → eL E c' 0) {id j : Nat} (hl : Lv E id j) : eA E' id j = eA E id j ∧ cellOf G E' V' id j = cellOf G E V id j := by
  obtain ⟨o1, o2, o3⟩ := hO
  have hcl := hl.cl
  have ne : ¬ (j = i ∧ cid id = c) := fun z => hn (by rw [← z.1, ← z.2]; exact hcl)
  have nA : ∀ c' t, c' < 100 → eL E c' t → eA E' c' t = eA E c' t := fun c' t h1 h2 => (o1 c' t (fun z => hn (by
    have e : cid c' = c' := if_pos h1
    rw [e] at z
    rw [← z.1, ← z.2]
    exact h2))).1
  refine ⟨(o1 id j ne).1, ?_⟩
  unfold cellOf
  by_cases hid : id < 100
  · rw [if_pos hid, if_pos hid]
    have ec : cid id = id := if_pos hid
    congr 2
    apply List.ext_getElem?
    intro k
    rw [obF_get, obF_get]
    cases hk : (fkl id)[k]? with
    | none => rfl
    | some kd =>
      have hk60 := fkl_lt hk
      have hkk := kdo_at hk
      have hmem := fk_kinds id kd (List.mem_of_getElem? hk)
      have nf : ¬ (j = i ∧ cid (100 * (id + 1) + k) = c) := by
        rw [cid_f hk60]
        rw [ec] at ne
        exact ne
      obtain ⟨f1, f2, f3⟩ := o1 _ j nf
      simp only [Option.map_some]
      congr 1
      unfold fval
      split
      · rw [f3]
      · rename_i e8
        have er : eR E' (100 * (id + 1) + k) j = eR E (100 * (id + 1) + k) j := by
          refine o2 _ j ?_
          by_cases q1 : 100 * (id + 1) + k = 201
          · by_cases q2 : c = 1
            · refine Or.inr (Or.inr (fun q3 => ne ⟨q3, ?_⟩))
              rw [ec, q2]
              omega
            · exact Or.inr (Or.inl q2)
          · exact Or.inl q1
        rw [er]
        congr 1
        exact map_eq (fun t ht => nA 7 t (by decide) ((hR _ j t ht).2.2 (Or.inr (by rw [hkk]))))
      · rw [f1]
      · rw [f1]
      · rw [f1]
      · rw [f1]
      · rw [f1]
      · rw [f1]
      · rename_i n1 n2 n3 n4 n5 n6 n7 n8
        have : kd = 10 ∨ kd = 13 ∨ kd = 14 ∨ kd = 15 ∨ kd = 16 := by
          simp only [List.mem_cons, List.not_mem_nil, or_false] at hmem
          rcases hmem with z | z | z | z | z | z | z | z | z
          · exact absurd z n1
          · exact absurd z n3
          · exact absurd z n4
          · exact absurd z n5
          · exact absurd z n6
          · exact absurd z n7
          · exact absurd z n8
          · exact absurd z n2
          · exact z
        rcases this with z | z | z | z | z <;> (rw [z]; congr 1; exact nA _ 0 (by decide) (hs _ (by decide)))
  · rw [if_neg hid, if_neg hid]
    obtain ⟨f1, f2, f3⟩ := o1 id j ne
    have h6 : 1 ≤ kdo id ∧ kdo id ≤ 6 := by
      unfold Lv at hl
      rw [if_neg hid] at hl
      exact ⟨hl.1, hl.2.1⟩
    have er : ∀ x, eR E' id x = eR E id x := fun x => o2 id x (Or.inl (fun e => by
      rw [e] at h6
      exact absurd h6.2 (by decide)))
    unfold arC
    split
    · rw [f2, f3]
    · rw [f2, f3]
    · rw [f2, f3]
    · rename_i e4
      rw [f2]
      congr 7
      funext x
      rw [er]
      exact map_eq (fun t ht => nA 2 t (by decide) ((hR id x t ht).1 e4))
    · rename_i e5
      rw [f2]
      congr 7
      funext x
      rw [er]
      exact map_eq (fun t ht => nA 1 t (by decide) ((hR id x t ht).2.1 e5))
    · rename_i n1 n2 n3 n4 n5
      have e6 : kdo id = 6 := by
        have : kdo id = 1 ∨ kdo id = 2 ∨ kdo id = 3 ∨ kdo id = 4 ∨ kdo id = 5 ∨ kdo id = 6 := by omega
        rcases this with z | z | z | z | z | z
        · exact absurd z n1
        · exact absurd z n2
        · exact absurd z n3
        · exact absurd z n4
        · exact absurd z n5
        · exact z
      rw [f2]
      congr 7
      funext x
      rw [er]
      exact map_eq (fun t ht => nA 7 t (by decide) ((hR id x t ht).2.2 (Or.inl e6)))
theorem RepH.add {H : Heap} {ws : va_W} {ids : List Nat} (h : RepH G E V H) (hO : Off c i E E' V V') (hn : ¬ eL E c i) (hR : REF E) (hs : ∀ c', c' ∈ ([0, 3, 4, 5, 6] : List Nat) → eL E c' 0) (hX : Ex G E ws H) (hws : ws = ids.map (fun id => (eA E' id i, cellOf G E' V' id i))) (hcov : ∀ id, cid id = c → (id < 100 ∨ (1 ≤ kdo id ∧ kdo id ≤ 6)) → id ∈ ids) : RepH G E' V' H := by
  obtain ⟨x1, x2, x3⟩ := hX
  have key : ∀ id j, Lv E' id j → Lv E id j ∨ (j = i ∧ ∃ k, ids[k]? = some id ∧ ws[k]? = some (eA E' id i, cellOf G E' V' id i)) := fun id j hl => by
    have hk : id < 100 ∨ (1 ≤ kdo id ∧ kdo id ≤ 6) := by
      unfold Lv at hl
      split at hl
      · exact Or.inl ‹_›
      · exact Or.inr ⟨hl.1, hl.2.1⟩
    rcases (hO.2.2 _ _).mp hl.cl with z | z
    · exact Or.inl (Lv.mk' hk z)
    · refine Or.inr ⟨z.2, ?_⟩
      obtain ⟨k, hk⟩ := List.getElem?_of_mem (hcov id z.1 hk)
      exact ⟨k, hk, by rw [hws, List.getElem?_map, hk]; rfl⟩
  refine ⟨h.1, fun id j hl => ?_, fun id j id' j' h1 h2 e => ?_⟩
  · rcases key id j hl with z | ⟨rfl, k, z1, z2⟩
    · obtain ⟨a1, a2⟩ := cell_off (G := G) hO hn hR hs z
      rw [a1, a2]
      exact h.2.1 id j z
    · exact ⟨x2.2 k _ z2, x1 k _ z2⟩
  · rcases key id j h1 with z | ⟨rfl, k, z1, z2⟩
    · rcases key id' j' h2 with z' | ⟨rfl, k', y1, y2⟩
      · rw [(cell_off (G := G) hO hn hR hs z).1, (cell_off (G := G) hO hn hR hs z').1] at e
        exact h.2.2 id j id' j' z z' e
      · rw [(cell_off (G := G) hO hn hR hs z).1] at e
        exact absurd e (x3 k' _ y2 id j z)
    · rcases key id' j' h2 with z' | ⟨rfl, k', y1, y2⟩
      · rw [(cell_off (G := G) hO hn hR hs z').1] at e
        exact absurd e.symm (x3 k _ z2 id' j' z')
      · have := x2.1 k k' _ _ z2 y2 e
        subst this
        rw [z1] at y1
        exact ⟨Option.some.inj y1, rfl⟩
end Grow
section WRows
variable {l : Launch} {G : Gt} {own : String} {cc : ByteArray} {nL : Nat} {ret : Option FieldType} {rm : Room} {E : Et} {k n : Nat} {V : Vt} {ws : va_W} {pc : Nat} {ll : List (Nat × Value)} {st : List Value} {Q : Option Value → Et → Vt → Prop}
theorem w_iconst {z : Int} {v : Int32} (hd : decode cc pc = .ok (.iconst z, 1)) (hv : Int32.ofInt z = v) (kk : EvW l G own cc nL ret rm E k n V ws (pc + 1) ll (.int v :: st) Q) : EvW l G own cc nL ret rm E k n V ws pc ll st Q := by
  intro p e s m args below meth c H locs ls C hR hX hL hl
  obtain ⟨hx, hb, hr, hml, ho, hts, hlk, hK⟩ := And.intro True.intro C |>.2
  exact lv_iconst hx hb hd hv (kk p e s m args below meth c H locs ls C hR hX hL hl)
theorem w_iload_n {j : Fin 4} {x : Int32} (hd : decode cc pc = .ok (.iload_n j, 1)) (hv : lk ll j.val = some (.int x)) (kk : EvW l G own cc nL ret rm E k n V ws (pc + 1) ll (.int x :: st) Q) : EvW l G own cc nL ret rm E k n V ws pc ll st Q := by
  intro p e s m args below meth c H locs ls C hR hX hL hl
  obtain ⟨hx, hb, hr, hml, ho, hts, hlk, hK⟩ := And.intro True.intro C |>.2
  exact lv_iload_n hx hb hd rfl (lk_at hl hv) (kk p e s m args below meth c H locs ls C hR hX hL hl)
theorem w_aload_n {j : Fin 4} {v : Value} (hd : decode cc pc = .ok (.aload_n j, 1)) (hv : lk ll j.val = some v) (hr : rl v) (kk : EvW l G own cc nL ret rm E k n V ws (pc + 1) ll (v :: st) Q) : EvW l G own cc nL ret rm E k n V ws pc ll st Q := by
  intro p e s m args below meth c H locs ls C hR hX hL hl
  obtain ⟨hx, hb, -, hml, ho, hts, hlk, hK⟩ := And.intro True.intro C |>.2
  rcases hr with rfl | ⟨a, rfl⟩
  · exact lv_aload_nN hx hb hd rfl (lk_at hl hv) (kk p e s m args below meth c H locs ls C hR hX hL hl)
  · exact lv_aload_n hx hb hd rfl (lk_at hl hv) (kk p e s m args below meth c H locs ls C hR hX hL hl)
theorem w_dup {v : Value} (hd : decode cc pc = .ok (.dup, 1)) (hc : v.category = 1) (kk : EvW l G own cc nL ret rm E k n V ws (pc + 1) ll (v :: v :: st) Q) : EvW l G own cc nL ret rm E k n V ws pc ll (v :: st) Q := by
  intro p e s m args below meth c H locs ls C hR hX hL hl
  obtain ⟨hx, hb, hr, hml, ho, hts, hlk, hK⟩ := And.intro True.intro C |>.2
  exact lv_dup hx hb hd hc (kk p e s m args below meth c H locs ls C hR hX hL hl)
theorem w_get {idx ci i kf : Nat} {v : Value} (hd : decode cc pc = .ok (.getfield idx, 3)) (hf : FL own idx ci kf) (hlv : eL E ci i) (hv : (obF E V ci i)[kf]? = some v) (kk : EvW l G own cc nL ret rm E k n V ws (pc + 3) ll (v :: st) Q) : EvW l G own cc nL ret rm E k n V ws pc ll (.ref (eA E ci i) :: st) Q := by
  intro p e s m args below meth c H locs ls C hR hX hL hl
  obtain ⟨hx, hb, hr, hml, ho, hts, hlk, hK⟩ := And.intro True.intro C |>.2
  obtain ⟨q, hq, hkq, hlink, hin⟩ := hf
  have hc : ci < 100 := Nat.lt_of_lt_of_le (List.getElem?_eq_some_iff.mp hq).1 (by decide)
  have hP : va_P (gD G) cls [(eA E ci i, .inr (ci, obF E V ci i))] H := va_P1 (hR.ob hc hlv)
  exact va_get (D := gD G) (cl := cls) (ci := ci) (C := q.1) (T := q.2.1) (N := q.2.2) (ref := (q.2.1 kf).1) hx hb hts hin ho hK.1 hP 0 rfl hq kf hkq (hts _ hlink) (fun _ h9 => h9) hv hd (kk p e s m args below meth c H locs ls C hR hX hL hl)
/-- new: the object is made -/
theorem w_new {idx ci N : Nat} {Cn : String} {T : u_T} (ty : Nat → FieldType) (hd : decode cc pc = .ok (.new idx, 3)) (hc : cls[ci]? = some (Cn, T, N)) (hin : ∀ w ∈ u_ws Cn T N, w ∈ tb) (hty : ∀ j, j < N → parseFieldDescriptor (T j).2.2.1 = some (ty j)) (hlink : Cond.classLink own idx Cn ∈ tb) (hinst : Cond.instantiable Cn N ∈ tb) (hini : Cond.initialized Cn ∈ tb) (hfs : ∀ j, j < N → defaultValue (ty j) = vp_V (z0 ci) j) (hcells : k + 1 ≤ rm.cells) (hslots : n + N ≤ rm.slots) (kk : ∀ b : Nat, EvW l G own cc nL ret rm E (k + 1) (n + N) V [(b, .inr (ci, z0 ci))] (pc + 3) ll (.ref b :: st) Q) : Ev l G own cc nL ret rm E k n V pc ll st Q := by
  intro p e s m args below meth c H locs ls C hR hL hl
  obtain ⟨hx, hb, hr, hml, ho, hts, hlk, hK⟩ := And.intro True.intro C |>.2
  have hKn := hK.1.1 ci _ hc
  refine W.newcK hx hb ho (hts _ hlink) (hts _ hinst) (hts _ hini) rfl hd hcells hslots hKn.2.1 rfl fun H1 kC hkC e1 z1 o1 => ?_
  refine kk H.size p e s m args below meth c H1 locs ls C (hR.keep o1 hR.bsz) ⟨va_P1 ⟨_, hc, (u_born ty hts hin hKn hkC e1 hty).to hfs⟩, va_D1 hR.bsz, fun j x hj id i hl' => ?_⟩ hL hl
  cases j with
  | zero =>
    cases hj
    exact Nat.ne_of_lt (hR.2.1 id i hl').2.lt
  | succ j => simp at hj
/-- its constructor -/
theorem w_init {idx b na nY : Nat} {y : MethodName} {cy : ByteArray} {rY : Room} {w2 : va_W} {e0 : va_E} {As rest : List Value} {Pp : va_W → Prop} (hd : decode cc pc = .ok (.invokespecial idx, 3)) (hm : Cond.code y cy nY none ∈ tb ∧ Cond.instanceMethod y ∈ tb ∧ Cond.initialized y.cls ∈ tb) (hy : y.name = "<init>") (hyd : y.cls ≠ "java/lang/invoke/MethodHandle" ∧ y.cls ≠ "java/lang/invoke/VarHandle" ∧ (parseMethodDescriptor y.desc).map (fun d => d.parameters.length) = some na) (hlink : Cond.methodLink own idx y ∈ tb) (hrm : rY.frames + 1 ≤ rm.frames ∧ 8 + (nY + 11) + rY.locals ≤ rm.locals) (hcs : k + rY.cells ≤ rm.cells ∧ n + rY.slots ≤ rm.slots) (hna : As.length = na) (hst : st = As.reverse ++ .ref b :: rest) (hcat : (rest.map fun v => v.category).sum ≤ 8)
    (hC : ∀ sz, Ct l G y cy nY none rY b sz e0 (.ref b :: As) (fun r w => r = none ∧ Pp w)) (kk : ∀ w, Pp w → EvW l G own cc nL ret rm E (k + rY.cells) (n + rY.slots) V (w2 ++ w) (pc + 3) ll rest Q) : EvW l G own cc nL ret rm E k n V (w2 ++ [(b, e0)]) pc ll st Q := by
  intro p e s m args below meth c H locs ls C hR hX hL hl
  obtain ⟨hx, hb, hr, hml, ho, hts, hlk, hK⟩ := And.intro True.intro C |>.2
  obtain ⟨m1, m2, m4⟩ := hm
  obtain ⟨x1, x2, x3⟩ := And.intro True.intro hX |>.2
  subst hst
  have hBH : Bz G H := ⟨hR.bsz, hR.1⟩
  have hbi : (w2 ++ [(b, e0)])[w2.length]? = some (b, e0) := by simp
  have hqb : (gB G).size ≤ b := x2.2 _ _ hbi
  have hcb : CallB rm s args own idx y cy nY none (Cond.code y cy nY none :: tb) rY rY.cells rY.slots na := callB_of na hts (tb_GoodIn m1) rfl rfl rfl (hts _ m4) (hts _ hlink) hyd hrm
  have hrun := va_runI (e := e) (below := below) (meth := meth) (locs := locs) (cells := k) (slots := n) (g := F0 m pc ls (As.reverse ++ .ref b :: rest)) (As := As) (rest := rest) ⟨hx, hb, hml, ho, hts⟩ (hC H.size) ⟨hcb, hy, hts _ m2⟩ ⟨fun a U g mk h => ⟨h.1, h.2.1.same (s := U) rfl, h.2.2⟩, fun U hU hW => ⟨rfl, hK.warm hW, by rw [hU]; exact ⟨hBH, rfl, hqb, x1 _ _ hbi⟩⟩⟩ rfl hna hl.1 rfl (lv_room hcat) hd hcs
  intro T0 hT0 X
  obtain ⟨v, st₀, t, T', L, z0, X', zL, z1, z2, ⟨r, w, w1', ⟨w2', w3⟩, w4, w5, w6, w7⟩, z3⟩ := hrun T0 hT0 X
  cases w1'
  subst w2'
  rw [z0] at w5 w6 w7
  rw [← z1] at w4 w6 w7
  have hw2 : ∀ (i : Nat) (x : Nat × va_E), w2[i]? = some x → x.1 < H.size ∧ x.1 ≠ b := fun i x hx' => by
    refine ⟨(x1 i x (app_l hx')).lt, fun e => ?_⟩
    have := x2.1 i w2.length x (b, e0) (app_l hx') hbi e
    have := (List.getElem?_eq_some_iff.mp hx').1
    omega
  have hup : ∀ x, Aq b H.size x → gA G x := fun x h => by
    rcases h with h | h
    · rw [h]
      exact hqb
    · show (gB G).size ≤ x
      have := hR.bsz
      omega
  have hR1 : RepH G E V T'.heap := ⟨fun x hx' => by
      rw [w7 x (Nat.lt_of_lt_of_le hx' hR.bsz) (fun e => by omega)]
      exact hR.1 x hx', fun id i hl' => ⟨(hR.2.1 id i hl').1, (hR.2.1 id i hl').2.kept (w7 _ (hR.2.1 id i hl').2.lt (fun e => x3 _ _ hbi id i hl' e))⟩, hR.2.2⟩
  have hX1 : Ex G E (w2 ++ w) T'.heap := by
    refine ⟨va_P.app (fun i x hx' => (x1 i x (app_l hx')).kept (w7 _ (hw2 i x hx').1 (hw2 i x hx').2)) w4, va_D.app ⟨fun i j x y hx' hy' e => x2.1 i j x y (app_l hx') (app_l hy') e, fun i x hx' => x2.2 i x (app_l hx')⟩ (w5.weaken (fun _ x _ h => hup _ h)) (fun i j x y hx' hy' e => ?_), fun j x hj id i hl' e => ?_⟩
    · rcases w5.2 j y hy' with h | h
      · exact (hw2 i x hx').2 (e.trans h)
      · have := (hw2 i x hx').1
        omega
    · rcases List.mem_append.mp (List.mem_of_getElem? hj) with h | h
      · obtain ⟨j', hj'⟩ := List.getElem?_of_mem h
        exact x3 j' x (app_l hj') id i hl' e
      · obtain ⟨j', hj'⟩ := List.getElem?_of_mem h
        rcases w5.2 j' x hj' with h | h
        · exact x3 _ _ hbi id i hl' (e.trans h)
        · have := (hR.2.1 id i hl').2.lt
          have : eA E id i < H.size := this
          omega
  obtain ⟨t2, a1, c1⟩ := kk w w3 p e s m args below meth c T'.heap (locs ++ L) ls C hR1 hX1 (fun y hy' => by
    rcases List.mem_append.mp hy' with h | h
    · exact hL y h
    · exact hup _ (zL y h)) hl T' rfl X'
  exact ⟨t2, z3 t2 a1, c1⟩
/-- the new cells get their names -/
theorem w_name {E' : Et} {V' : Vt} {c i : Nat} {ids : List Nat} (hO : Off c i E E' V V') (hn : ¬ eL E c i) (hR : REF E) (hs : ∀ c', c' ∈ ([0, 3, 4, 5, 6] : List Nat) → eL E c' 0) (hws : ws = ids.map (fun id => (eA E' id i, cellOf G E' V' id i))) (hcov : ∀ id, cid id = c → (id < 100 ∨ (1 ≤ kdo id ∧ kdo id ≤ 6)) → id ∈ ids) (kk : Ev l G own cc nL ret rm E' k n V' pc ll st Q) : EvW l G own cc nL ret rm E k n V ws pc ll st Q :=
  fun p e s m args below meth c' H locs ls C hRp hX hL hl => kk p e s m args below meth c' H locs ls C (hRp.add hO hn hR hs hX hws hcov) hL hl
/-- Arrays.copyOf of the tape's items -/
theorem w_copyOf {idx N : Nat} {rest : List Value} (hd : decode cc pc = .ok (.invokestatic idx, 3)) (hlink : Cond.methodLink own idx yJ7_copyOf_59c91 ∈ tb) (hSg : Sg E) (hN : N ≤ 100) (hrm : rm_copyOf.frames + 1 ≤ rm.frames ∧ 8 + (3 + 11) + rm_copyOf.locals ≤ rm.locals) (hcs : k + rm_copyOf.cells ≤ rm.cells ∧ n + rm_copyOf.slots ≤ rm.slots) (hcat : (rest.map fun v => v.category).sum ≤ 8)
    (kk : ∀ (b : Nat) (g : Nat → Int32), (∀ j, j < N → g j = V 701 0 j) → EvW l G own cc nL ret rm E (k + rm_copyOf.cells) (n + rm_copyOf.slots) V ((b, .inl (gT G 0, N, .inl g)) :: ws) (pc + 3) ll (.ref b :: rest) Q) : EvW l G own cc nL ret rm E k n V ws pc ll (.int (nI N) :: .ref (eA E 701 0) :: rest) Q := by
  intro p e s m args below meth c H locs ls C hR hX hL hl
  obtain ⟨hx, hb, hr, hml, ho, hts, hlk, hK⟩ := And.intro True.intro C |>.2
  obtain ⟨m1, m2, m4, m5, m6, m7⟩ := ms_J7_copyOf_59c91
  obtain ⟨x1, x2, x3⟩ := And.intro True.intro hX |>.2
  have hBH : Bz G H := ⟨hR.bsz, hR.1⟩
  have hl6 : eL E 6 0 := hSg.1 6 (by decide)
  have hLv : Lv E 701 0 := Lv_ar (by decide) (by decide) hl6
  have hat : va_at (gD G) cls (eA E 701 0, .inl (gT G 0, 100, .inl (V 701 0))) H := by
    have h1 := hR.ar (id := 701) (i := 0) (by decide) (by decide) hl6
    have h2 : arC G E V 701 0 (kdo 701) = .inl (gT G 0, eN E 701 0, .inl (V 701 0)) := rfl
    rw [h2, hSg.2 701 0 (by decide)] at h1
    exact h1
  have hcb : CallB rm s args own idx yJ7_copyOf_59c91 cJ7_copyOf_59c91 3 (some (.array .int)) (Cond.code yJ7_copyOf_59c91 cJ7_copyOf_59c91 3 (some (.array .int)) :: tb) rm_copyOf rm_copyOf.cells rm_copyOf.slots 2 := callB_of 2 hts (tb_GoodIn m1) rfl rfl rfl (hts _ m4) (hts _ hlink) ⟨m5, m6, m7⟩ hrm
  have hrun := va_runS (e := e) (below := below) (meth := meth) (locs := locs) (cells := k) (slots := n) (g := F0 m pc ls (.int (nI N) :: .ref (eA E 701 0) :: rest)) (As := [.ref (eA E 701 0), .int (nI N)]) (rest := rest) ⟨hx, hb, hml, ho, hts⟩ (ct_copyOf (l := l) (G := G) (a := eA E 701 0) (sz := H.size) (f := V 701 0) hN) ⟨hcb, hts _ m2⟩ ⟨fun a U g mk h => ⟨h.1, h.2.1.same (s := U) rfl, h.2.2⟩, fun U hU hW => ⟨rfl, hK.warm hW, by rw [hU]; exact ⟨hBH, rfl, (hR.2.1 _ _ hLv).1, hat⟩⟩⟩ rfl rfl hl.1 rfl (lv_room hcat) hd hcs
  intro T0 hT0 X
  obtain ⟨v, st₀, t, T', L, z0, X', zL, z1, z2, ⟨r, w, w1', ⟨b, g, w2, w3, hw⟩, w4, w5, w6, w7⟩, z3⟩ := hrun T0 hT0 X
  cases w1'
  subst w2
  subst hw
  rw [z0] at w5 w6 w7
  rw [← z1] at w4 w6 w7
  have hkeep : ∀ x, x < H.size → T'.heap[x]? = H[x]? := fun x hx' => by
    by_cases e : x = eA E 701 0
    · have h1 : T'.heap[eA E 701 0]? = some _ := w4 0 _ rfl
      have h2 : H[eA E 701 0]? = some _ := hat
      rw [e, h1, h2]
    · exact w7 x hx' e
  have hbs : H.size ≤ b := by
    rcases w5.2 1 _ rfl with h | h
    · have h : b = eA E 701 0 := h
      have := w5.1 1 0 _ _ rfl rfl h
      omega
    · exact h
  have hX1 : Ex G E ((b, .inl (gT G 0, N, .inl g)) :: ws) T'.heap := by
    refine ⟨fun j x hj => ?_, va_D.app (w1 := [(b, .inl (gT G 0, N, .inl g))]) (va_D1 (Nat.le_trans hR.bsz hbs)) x2 (fun i j x y hx' hy' e => ?_), fun j x hj id i hl' e => ?_⟩
    · cases j with
      | zero => cases hj; exact w4 1 _ rfl
      | succ j => exact (x1 j x hj).kept (hkeep _ (x1 j x hj).lt)
    · cases i with
      | zero =>
        cases hx'
        have := (x1 j y hy').lt
        have e : b = y.1 := e
        omega
      | succ i => simp at hx'
    · cases j with
      | zero =>
        cases hj
        have := (hR.2.1 id i hl').2.lt
        have : eA E id i < H.size := this
        have e : eA E id i = b := e
        omega
      | succ j => exact x3 j x hj id i hl' e
  obtain ⟨t2, a1, c1⟩ := kk b g w3 p e s m args below meth c T'.heap (locs ++ L) ls C (hR.keep hkeep hR.bsz) hX1 (fun y hy' => by
    rcases List.mem_append.mp hy' with h | h
    · exact hL y h
    · rcases zL y h with h | h
      · rw [h]
        exact (hR.2.1 _ _ hLv).1
      · show (gB G).size ≤ y.base
        have := hR.bsz
        omega) hl T' rfl X'
  exact ⟨t2, z3 t2 a1, c1⟩
end WRows

/-! A ROW AN INSTRUCTION, over Ev -/
def lk : List (Nat × Value) → Nat → Option Value
  | [], _ => none
  | q :: t, i => match Nat.beq q.1 i with
    | true => some q.2
    | false => lk t i
theorem lk_mem : ∀ (l : List (Nat × Value)) {i : Nat} {v : Value}, lk l i = some v → (i, v) ∈ l
  | [], i, v, h => by simp [lk] at h
  | (j, w) :: t, i, v, h => by
    unfold lk at h
    split at h
    · rename_i hb
      have hj : j = i := Nat.eq_of_beq_eq_true hb
      subst hj
      cases h
      exact List.mem_cons_self
    · exact List.mem_cons_of_mem _ (lk_mem t h)
theorem lk_at {ls : Array Slot} {nL : Nat} {l : List (Nat × Value)} (h : lv_has ls nL l) {i : Nat} {v : Value} (hk : lk l i = some v) : ls[i]? = some (.val v) := h.2.2 (i, v) (lk_mem l hk)
def fst1 (i : Nat) (q : Nat × Value) : Bool := !(q.1 == i) && !(q.1 + 1 == i && q.2.category == 2)
/-- the locals behind a store of a value of one word: its place stays where it was -/
def sto (i : Nat) (v : Value) : List (Nat × Value) → List (Nat × Value)
  | [] => [(i, v)]
  | q :: t => match Nat.beq q.1 i with
    | true => (i, v) :: t.filter (fst1 i)
    | false => match fst1 i q with
      | true => q :: sto i v t
      | false => sto i v t
theorem sto_mem (i : Nat) (v : Value) : ∀ (l : List (Nat × Value)) (q : Nat × Value), q ∈ sto i v l → q ∈ (i, v) :: l.filter (fst1 i)
  | [], q, h => by simpa [sto] using h
  | r :: t, q, h => by
    unfold sto at h
    split at h
    · rcases List.mem_cons.mp h with h | h
      · exact List.mem_cons.mpr (Or.inl h)
      · refine List.mem_cons.mpr (Or.inr ?_)
        rw [List.filter_cons]
        split
        · exact List.mem_cons_of_mem _ h
        · exact h
    · split at h
      · rename_i hf
        rcases List.mem_cons.mp h with h | h
        · subst h
          refine List.mem_cons.mpr (Or.inr ?_)
          rw [List.filter_cons, hf]
          exact List.mem_cons_self
        · rcases List.mem_cons.mp (sto_mem i v t q h) with h | h
          · exact List.mem_cons.mpr (Or.inl h)
          · refine List.mem_cons.mpr (Or.inr ?_)
            rw [List.filter_cons, hf]
            exact List.mem_cons_of_mem _ h
      · rename_i hf
        rcases List.mem_cons.mp (sto_mem i v t q h) with h | h
        · exact List.mem_cons.mpr (Or.inl h)
        · refine List.mem_cons.mpr (Or.inr ?_)
          rw [List.filter_cons, hf]
          exact h
theorem sto_has {ls : Array Slot} {nL i : Nat} {v : Value} {l : List (Nat × Value)} (h : lv_has ls nL ((i, v) :: l.filter (fst1 i))) : lv_has ls nL (sto i v l) := ⟨h.1, h.2.1, fun q hq => h.2.2 q (sto_mem i v l q hq)⟩
def rl (v : Value) : Prop := v = .null ∨ ∃ a, v = .ref a
theorem rl_ref (a : Nat) : rl (.ref a) := Or.inr ⟨a, rfl⟩
theorem rl_rf (o : Option Nat) : rl (va_rf o) := by
  cases o with
  | none => exact Or.inl rfl
  | some a => exact Or.inr ⟨a, rfl⟩
section Rows
variable {l : Launch} {G : Gt} {own : String} {cc : ByteArray} {nL : Nat} {ret : Option FieldType} {rm : Room} {E : Et} {k n : Nat} {V : Vt} {pc : Nat} {ll : List (Nat × Value)} {st : List Value} {Q : Option Value → Et → Vt → Prop}
theorem Ev.loc {ll' : List (Nat × Value)} (ks : List Nat) (h : lv_pick ll ks = ll') (kk : Ev l G own cc nL ret rm E k n V pc ll' st Q) : Ev l G own cc nL ret rm E k n V pc ll st Q :=
  fun p e s m args below meth c H locs ls C hR hL hl => kk p e s m args below meth c H locs ls C hR hL (lv_sub hl ks h)
theorem Ev.mono {Q' : Option Value → Et → Vt → Prop} (hq : ∀ r E' V', Q r E' V' → Q' r E' V') (kk : Ev l G own cc nL ret rm E k n V pc ll st Q) : Ev l G own cc nL ret rm E k n V pc ll st Q' := by
  intro p e s m args below meth c H locs ls C hR hL hl T hT X
  obtain ⟨t, a, o, b1, b2, ⟨r, E', V', c1, c2, c3⟩, b4⟩ := kk p e s m args below meth c H locs ls C hR hL hl T hT X
  exact ⟨t, a, o, b1, b2, ⟨r, E', V', c1, hq _ _ _ c2, c3⟩, b4⟩
theorem r_iconst {z : Int} {v : Int32} (hd : decode cc pc = .ok (.iconst z, 1)) (hv : Int32.ofInt z = v) (kk : Ev l G own cc nL ret rm E k n V (pc + 1) ll (.int v :: st) Q) : Ev l G own cc nL ret rm E k n V pc ll st Q := by
  intro p e s m args below meth c H locs ls C hR hL hl
  obtain ⟨hx, hb, hr, hml, ho, hts, hlk, hK⟩ := And.intro True.intro C |>.2
  exact lv_iconst hx hb hd hv (kk p e s m args below meth c H locs ls C hR hL hl)
theorem r_bipush {z : Int} {v : Int32} (hd : decode cc pc = .ok (.bipush z, 2)) (hv : (Int8.ofInt z).toInt32 = v) (kk : Ev l G own cc nL ret rm E k n V (pc + 2) ll (.int v :: st) Q) : Ev l G own cc nL ret rm E k n V pc ll st Q := by
  intro p e s m args below meth c H locs ls C hR hL hl
  obtain ⟨hx, hb, hr, hml, ho, hts, hlk, hK⟩ := And.intro True.intro C |>.2
  exact lv_bipush hx hb hd hv (kk p e s m args below meth c H locs ls C hR hL hl)
theorem r_sipush {z : Int} {v : Int32} (hd : decode cc pc = .ok (.sipush z, 3)) (hv : (Int16.ofInt z).toInt32 = v) (kk : Ev l G own cc nL ret rm E k n V (pc + 3) ll (.int v :: st) Q) : Ev l G own cc nL ret rm E k n V pc ll st Q := by
  intro p e s m args below meth c H locs ls C hR hL hl
  obtain ⟨hx, hb, hr, hml, ho, hts, hlk, hK⟩ := And.intro True.intro C |>.2
  exact lv_sipush hx hb hd hv (kk p e s m args below meth c H locs ls C hR hL hl)
theorem r_lconst {z : Fin 2} {v : Int64} (hd : decode cc pc = .ok (.lconst z, 1)) (hv : Int64.ofNat (z : Nat) = v) (kk : Ev l G own cc nL ret rm E k n V (pc + 1) ll (.long v :: st) Q) : Ev l G own cc nL ret rm E k n V pc ll st Q := by
  intro p e s m args below meth c H locs ls C hR hL hl
  obtain ⟨hx, hb, hr, hml, ho, hts, hlk, hK⟩ := And.intro True.intro C |>.2
  exact lv_lconst hx hb hd hv (kk p e s m args below meth c H locs ls C hR hL hl)
theorem r_ldc {idx : Nat} {v : Int32} (hd : decode cc pc = .ok (.ldc idx, 2)) (hw : Cond.constant own idx v ∈ tb) (kk : Ev l G own cc nL ret rm E k n V (pc + 2) ll (.int v :: st) Q) : Ev l G own cc nL ret rm E k n V pc ll st Q := by
  intro p e s m args below meth c H locs ls C hR hL hl
  obtain ⟨hx, hb, hr, hml, ho, hts, hlk, hK⟩ := And.intro True.intro C |>.2
  exact lv_ldc hx hb ho (hts _ hw) hd (kk p e s m args below meth c H locs ls C hR hL hl)
theorem r_ldc2 {idx : Nat} {v : Int64} (hd : decode cc pc = .ok (.ldc2_w idx, 3)) (hw : Cond.constantLong own idx v ∈ tb) (kk : Ev l G own cc nL ret rm E k n V (pc + 3) ll (.long v :: st) Q) : Ev l G own cc nL ret rm E k n V pc ll st Q := by
  intro p e s m args below meth c H locs ls C hR hL hl
  obtain ⟨hx, hb, hr, hml, ho, hts, hlk, hK⟩ := And.intro True.intro C |>.2
  exact lv_ldc2 hx hb ho (hts _ hw) hd (kk p e s m args below meth c H locs ls C hR hL hl)
theorem r_null  (hd : decode cc pc = .ok (.aconst_null, 1)) (kk : Ev l G own cc nL ret rm E k n V (pc + 1) ll (.null :: st) Q) : Ev l G own cc nL ret rm E k n V pc ll st Q := by
  intro p e s m args below meth c H locs ls C hR hL hl
  obtain ⟨hx, hb, hr, hml, ho, hts, hlk, hK⟩ := And.intro True.intro C |>.2
  exact lv_null hx hb hd (kk p e s m args below meth c H locs ls C hR hL hl)
theorem r_iload_n {j : Fin 4} {x : Int32} (hd : decode cc pc = .ok (.iload_n j, 1)) (hv : lk ll j.val = some (.int x)) (kk : Ev l G own cc nL ret rm E k n V (pc + 1) ll (.int x :: st) Q) : Ev l G own cc nL ret rm E k n V pc ll st Q := by
  intro p e s m args below meth c H locs ls C hR hL hl
  obtain ⟨hx, hb, hr, hml, ho, hts, hlk, hK⟩ := And.intro True.intro C |>.2
  exact lv_iload_n hx hb hd rfl (lk_at hl hv) (kk p e s m args below meth c H locs ls C hR hL hl)
theorem r_iload {j : Nat} {x : Int32} (hd : decode cc pc = .ok (.iload j, 2)) (hv : lk ll j = some (.int x)) (kk : Ev l G own cc nL ret rm E k n V (pc + 2) ll (.int x :: st) Q) : Ev l G own cc nL ret rm E k n V pc ll st Q := by
  intro p e s m args below meth c H locs ls C hR hL hl
  obtain ⟨hx, hb, hr, hml, ho, hts, hlk, hK⟩ := And.intro True.intro C |>.2
  exact lv_iload hx hb hd (lk_at hl hv) (kk p e s m args below meth c H locs ls C hR hL hl)
theorem r_lload_n {j : Fin 4} {x : Int64} (hd : decode cc pc = .ok (.lload_n j, 1)) (hv : lk ll j.val = some (.long x)) (kk : Ev l G own cc nL ret rm E k n V (pc + 1) ll (.long x :: st) Q) : Ev l G own cc nL ret rm E k n V pc ll st Q := by
  intro p e s m args below meth c H locs ls C hR hL hl
  obtain ⟨hx, hb, hr, hml, ho, hts, hlk, hK⟩ := And.intro True.intro C |>.2
  exact lv_lload_n hx hb hd rfl (lk_at hl hv) (kk p e s m args below meth c H locs ls C hR hL hl)
theorem r_aload_n {j : Fin 4} {v : Value} (hd : decode cc pc = .ok (.aload_n j, 1)) (hv : lk ll j.val = some v) (hr : rl v) (kk : Ev l G own cc nL ret rm E k n V (pc + 1) ll (v :: st) Q) : Ev l G own cc nL ret rm E k n V pc ll st Q := by
  intro p e s m args below meth c H locs ls C hR hL hl
  obtain ⟨hx, hb, -, hml, ho, hts, hlk, hK⟩ := And.intro True.intro C |>.2
  rcases hr with rfl | ⟨a, rfl⟩
  · exact lv_aload_nN hx hb hd rfl (lk_at hl hv) (kk p e s m args below meth c H locs ls C hR hL hl)
  · exact lv_aload_n hx hb hd rfl (lk_at hl hv) (kk p e s m args below meth c H locs ls C hR hL hl)
theorem r_aload {j : Nat} {v : Value} (hd : decode cc pc = .ok (.aload j, 2)) (hv : lk ll j = some v) (hr : rl v) (kk : Ev l G own cc nL ret rm E k n V (pc + 2) ll (v :: st) Q) : Ev l G own cc nL ret rm E k n V pc ll st Q := by
  intro p e s m args below meth c H locs ls C hR hL hl
  obtain ⟨hx, hb, -, hml, ho, hts, hlk, hK⟩ := And.intro True.intro C |>.2
  rcases hr with rfl | ⟨a, rfl⟩
  · exact lv_aloadN hx hb hd (lk_at hl hv) (kk p e s m args below meth c H locs ls C hR hL hl)
  · exact lv_aload hx hb hd (lk_at hl hv) (kk p e s m args below meth c H locs ls C hR hL hl)
theorem r_istore_n {j : Fin 4} {x : Int32} (hd : decode cc pc = .ok (.istore_n j, 1)) (hj : j.val < nL) (kk : Ev l G own cc nL ret rm E k n V (pc + 1) (sto j.val (Value.int x) ll) st Q) : Ev l G own cc nL ret rm E k n V pc ll (Value.int x :: st) Q := by
  intro p e s m args below meth c H locs ls C hR hL hl
  obtain ⟨hx, hb, hr, hml, ho, hts, hlk, hK⟩ := And.intro True.intro C |>.2
  exact lv_istore_n (lv' := (j.val, Value.int x) :: ll.filter (fst1 j.val)) hx hb hd rfl hl hj rfl (fun ls' hl' => kk p e s m args below meth c H locs ls' C hR hL (sto_has hl'))
theorem r_istore {j : Nat} {x : Int32} (hd : decode cc pc = .ok (.istore j, 2)) (hj : j < nL) (kk : Ev l G own cc nL ret rm E k n V (pc + 2) (sto j (Value.int x) ll) st Q) : Ev l G own cc nL ret rm E k n V pc ll (Value.int x :: st) Q := by
  intro p e s m args below meth c H locs ls C hR hL hl
  obtain ⟨hx, hb, hr, hml, ho, hts, hlk, hK⟩ := And.intro True.intro C |>.2
  exact lv_istore (lv' := (j, Value.int x) :: ll.filter (fst1 j)) hx hb hd hl hj rfl (fun ls' hl' => kk p e s m args below meth c H locs ls' C hR hL (sto_has hl'))
theorem r_astore_n {j : Fin 4} {v : Value} (hd : decode cc pc = .ok (.astore_n j, 1)) (hj : j.val < nL) (hr : rl v) (kk : Ev l G own cc nL ret rm E k n V (pc + 1) (sto j.val v ll) st Q) : Ev l G own cc nL ret rm E k n V pc ll (v :: st) Q := by
  intro p e s m args below meth c H locs ls C hR hL hl
  obtain ⟨hx, hb, -, hml, ho, hts, hlk, hK⟩ := And.intro True.intro C |>.2
  rcases hr with rfl | ⟨a, rfl⟩
  · exact lv_astore_nN (lv' := (j.val, Value.null) :: ll.filter (fst1 j.val)) hx hb hd rfl hl hj rfl (fun ls' hl' => kk p e s m args below meth c H locs ls' C hR hL (sto_has hl'))
  · exact lv_astore_n (lv' := (j.val, Value.ref a) :: ll.filter (fst1 j.val)) hx hb hd rfl hl hj rfl (fun ls' hl' => kk p e s m args below meth c H locs ls' C hR hL (sto_has hl'))
theorem r_astore {j : Nat} {v : Value} (hd : decode cc pc = .ok (.astore j, 2)) (hj : j < nL) (hr : rl v) (kk : Ev l G own cc nL ret rm E k n V (pc + 2) (sto j v ll) st Q) : Ev l G own cc nL ret rm E k n V pc ll (v :: st) Q := by
  intro p e s m args below meth c H locs ls C hR hL hl
  obtain ⟨hx, hb, -, hml, ho, hts, hlk, hK⟩ := And.intro True.intro C |>.2
  rcases hr with rfl | ⟨a, rfl⟩
  · exact lv_astoreN (lv' := (j, Value.null) :: ll.filter (fst1 j)) hx hb hd hl hj rfl (fun ls' hl' => kk p e s m args below meth c H locs ls' C hR hL (sto_has hl'))
  · exact lv_astore (lv' := (j, Value.ref a) :: ll.filter (fst1 j)) hx hb hd hl hj rfl (fun ls' hl' => kk p e s m args below meth c H locs ls' C hR hL (sto_has hl'))
def fst2 (i : Nat) (q : Nat × Value) : Bool := !(q.1 == i) && (!(q.1 == i + 1) && !(q.1 + 1 == i && q.2.category == 2))
theorem r_lstore_n {j : Fin 4} {x : Int64} (hd : decode cc pc = .ok (.lstore_n j, 1)) (hj : j.val + 1 < nL) (kk : Ev l G own cc nL ret rm E k n V (pc + 1) ((j.val, Value.long x) :: ll.filter (fst2 j.val)) st Q) : Ev l G own cc nL ret rm E k n V pc ll (Value.long x :: st) Q := by
  intro p e s m args below meth c H locs ls C hR hL hl
  obtain ⟨hx, hb, hr, hml, ho, hts, hlk, hK⟩ := And.intro True.intro C |>.2
  exact lv_lstore_n (lv' := (j.val, Value.long x) :: ll.filter (fst2 j.val)) hx hb hd rfl hl hj rfl (fun ls' hl' => kk p e s m args below meth c H locs ls' C hR hL hl')
theorem r_iinc {j : Nat} {z : Int} {x v : Int32} (hd : decode cc pc = .ok (.iinc j z, 3)) (hv : lk ll j = some (.int x)) (hz : Int32.ofInt z = v) (hj : j < nL) (kk : Ev l G own cc nL ret rm E k n V (pc + 3) (sto j (.int (x + v)) ll) st Q) : Ev l G own cc nL ret rm E k n V pc ll st Q := by
  intro p e s m args below meth c H locs ls C hR hL hl
  obtain ⟨hx, hb, hr, hml, ho, hts, hlk, hK⟩ := And.intro True.intro C |>.2
  subst hz
  obtain ⟨kq, hkq⟩ := List.getElem?_of_mem (lk_mem ll hv)
  exact lv_iinc (lv' := (j, Value.int (x + Int32.ofInt z)) :: ll.filter (fst1 j)) hx hb hd hl (k := kq) hkq rfl hj rfl (fun ls' hl' => kk p e s m args below meth c H locs ls' C hR hL (sto_has hl'))
theorem r_iadd {x y : Int32} (hd : decode cc pc = .ok (.iadd, 1)) (kk : Ev l G own cc nL ret rm E k n V (pc + 1) ll (.int (x + y) :: st) Q) : Ev l G own cc nL ret rm E k n V pc ll (.int y :: .int x :: st) Q := by
  intro p e s m args below meth c H locs ls C hR hL hl
  obtain ⟨hx, hb, hr, hml, ho, hts, hlk, hK⟩ := And.intro True.intro C |>.2
  exact lv_iadd hx hb hd (kk p e s m args below meth c H locs ls C hR hL hl)
theorem r_isub {x y : Int32} (hd : decode cc pc = .ok (.isub, 1)) (kk : Ev l G own cc nL ret rm E k n V (pc + 1) ll (.int (x - y) :: st) Q) : Ev l G own cc nL ret rm E k n V pc ll (.int y :: .int x :: st) Q := by
  intro p e s m args below meth c H locs ls C hR hL hl
  obtain ⟨hx, hb, hr, hml, ho, hts, hlk, hK⟩ := And.intro True.intro C |>.2
  exact lv_isub hx hb hd (kk p e s m args below meth c H locs ls C hR hL hl)
theorem r_imul {x y : Int32} (hd : decode cc pc = .ok (.imul, 1)) (kk : Ev l G own cc nL ret rm E k n V (pc + 1) ll (.int (x * y) :: st) Q) : Ev l G own cc nL ret rm E k n V pc ll (.int y :: .int x :: st) Q := by
  intro p e s m args below meth c H locs ls C hR hL hl
  obtain ⟨hx, hb, hr, hml, ho, hts, hlk, hK⟩ := And.intro True.intro C |>.2
  exact lv_imul hx hb hd (kk p e s m args below meth c H locs ls C hR hL hl)
theorem r_iand {x y : Int32} (hd : decode cc pc = .ok (.iand, 1)) (kk : Ev l G own cc nL ret rm E k n V (pc + 1) ll (.int (x &&& y) :: st) Q) : Ev l G own cc nL ret rm E k n V pc ll (.int y :: .int x :: st) Q := by
  intro p e s m args below meth c H locs ls C hR hL hl
  obtain ⟨hx, hb, hr, hml, ho, hts, hlk, hK⟩ := And.intro True.intro C |>.2
  exact lv_iand hx hb hd (kk p e s m args below meth c H locs ls C hR hL hl)
theorem r_ior {x y : Int32} (hd : decode cc pc = .ok (.ior, 1)) (kk : Ev l G own cc nL ret rm E k n V (pc + 1) ll (.int (x ||| y) :: st) Q) : Ev l G own cc nL ret rm E k n V pc ll (.int y :: .int x :: st) Q := by
  intro p e s m args below meth c H locs ls C hR hL hl
  obtain ⟨hx, hb, hr, hml, ho, hts, hlk, hK⟩ := And.intro True.intro C |>.2
  exact lv_ior hx hb hd (kk p e s m args below meth c H locs ls C hR hL hl)
theorem r_ishl {x y : Int32} (hd : decode cc pc = .ok (.ishl, 1)) (kk : Ev l G own cc nL ret rm E k n V (pc + 1) ll (.int (x <<< (y &&& 31)) :: st) Q) : Ev l G own cc nL ret rm E k n V pc ll (.int y :: .int x :: st) Q := by
  intro p e s m args below meth c H locs ls C hR hL hl
  obtain ⟨hx, hb, hr, hml, ho, hts, hlk, hK⟩ := And.intro True.intro C |>.2
  exact lv_ishl hx hb hd (kk p e s m args below meth c H locs ls C hR hL hl)
theorem r_ishr {x y : Int32} (hd : decode cc pc = .ok (.ishr, 1)) (kk : Ev l G own cc nL ret rm E k n V (pc + 1) ll (.int (x >>> (y &&& 31)) :: st) Q) : Ev l G own cc nL ret rm E k n V pc ll (.int y :: .int x :: st) Q := by
  intro p e s m args below meth c H locs ls C hR hL hl
  obtain ⟨hx, hb, hr, hml, ho, hts, hlk, hK⟩ := And.intro True.intro C |>.2
  exact lv_ishr hx hb hd (kk p e s m args below meth c H locs ls C hR hL hl)
theorem r_idiv {x y : Int32} (hd : decode cc pc = .ok (.idiv, 1)) (hne : ¬ y = 0) (kk : Ev l G own cc nL ret rm E k n V (pc + 1) ll (.int (x / y) :: st) Q) : Ev l G own cc nL ret rm E k n V pc ll (.int y :: .int x :: st) Q := by
  intro p e s m args below meth c H locs ls C hR hL hl
  obtain ⟨hx, hb, hr, hml, ho, hts, hlk, hK⟩ := And.intro True.intro C |>.2
  exact lv_idiv hx hb hd hne (kk p e s m args below meth c H locs ls C hR hL hl)
theorem r_irem {x y : Int32} (hd : decode cc pc = .ok (.irem, 1)) (hne : ¬ y = 0) (kk : Ev l G own cc nL ret rm E k n V (pc + 1) ll (.int (x - x / y * y) :: st) Q) : Ev l G own cc nL ret rm E k n V pc ll (.int y :: .int x :: st) Q := by
  intro p e s m args below meth c H locs ls C hR hL hl
  obtain ⟨hx, hb, hr, hml, ho, hts, hlk, hK⟩ := And.intro True.intro C |>.2
  exact lv_irem hx hb hd hne (kk p e s m args below meth c H locs ls C hR hL hl)
theorem r_ineg {x : Int32} (hd : decode cc pc = .ok (.ineg, 1)) (kk : Ev l G own cc nL ret rm E k n V (pc + 1) ll (.int (-x) :: st) Q) : Ev l G own cc nL ret rm E k n V pc ll (.int x :: st) Q := by
  intro p e s m args below meth c H locs ls C hR hL hl
  obtain ⟨hx, hb, hr, hml, ho, hts, hlk, hK⟩ := And.intro True.intro C |>.2
  exact lv_ineg hx hb hd (kk p e s m args below meth c H locs ls C hR hL hl)
theorem r_ladd {x y : Int64} (hd : decode cc pc = .ok (.ladd, 1)) (kk : Ev l G own cc nL ret rm E k n V (pc + 1) ll (.long (x + y) :: st) Q) : Ev l G own cc nL ret rm E k n V pc ll (.long y :: .long x :: st) Q := by
  intro p e s m args below meth c H locs ls C hR hL hl
  obtain ⟨hx, hb, hr, hml, ho, hts, hlk, hK⟩ := And.intro True.intro C |>.2
  exact lv_ladd hx hb hd (kk p e s m args below meth c H locs ls C hR hL hl)
theorem r_lmul {x y : Int64} (hd : decode cc pc = .ok (.lmul, 1)) (kk : Ev l G own cc nL ret rm E k n V (pc + 1) ll (.long (x * y) :: st) Q) : Ev l G own cc nL ret rm E k n V pc ll (.long y :: .long x :: st) Q := by
  intro p e s m args below meth c H locs ls C hR hL hl
  obtain ⟨hx, hb, hr, hml, ho, hts, hlk, hK⟩ := And.intro True.intro C |>.2
  exact lv_lmul hx hb hd (kk p e s m args below meth c H locs ls C hR hL hl)
theorem r_ldiv {x y : Int64} (hd : decode cc pc = .ok (.ldiv, 1)) (hne : ¬ y = 0) (kk : Ev l G own cc nL ret rm E k n V (pc + 1) ll (.long (x / y) :: st) Q) : Ev l G own cc nL ret rm E k n V pc ll (.long y :: .long x :: st) Q := by
  intro p e s m args below meth c H locs ls C hR hL hl
  obtain ⟨hx, hb, hr, hml, ho, hts, hlk, hK⟩ := And.intro True.intro C |>.2
  exact lv_ldiv hx hb hd hne (kk p e s m args below meth c H locs ls C hR hL hl)
theorem r_lcmp {x y : Int64} (hd : decode cc pc = .ok (.lcmp, 1)) (kk : Ev l G own cc nL ret rm E k n V (pc + 1) ll (.int (lg_cmp x y) :: st) Q) : Ev l G own cc nL ret rm E k n V pc ll (.long y :: .long x :: st) Q := by
  intro p e s m args below meth c H locs ls C hR hL hl
  obtain ⟨hx, hb, hr, hml, ho, hts, hlk, hK⟩ := And.intro True.intro C |>.2
  exact W.lcmp hx hb hd (kk p e s m args below meth c H locs ls C hR hL hl)
theorem r_i2l {x : Int32} (hd : decode cc pc = .ok (.i2l, 1)) (kk : Ev l G own cc nL ret rm E k n V (pc + 1) ll (.long x.toInt64 :: st) Q) : Ev l G own cc nL ret rm E k n V pc ll (.int x :: st) Q := by
  intro p e s m args below meth c H locs ls C hR hL hl
  obtain ⟨hx, hb, hr, hml, ho, hts, hlk, hK⟩ := And.intro True.intro C |>.2
  exact lv_i2l hx hb hd rfl (kk p e s m args below meth c H locs ls C hR hL hl)
theorem r_l2i {x : Int64} (hd : decode cc pc = .ok (.l2i, 1)) (kk : Ev l G own cc nL ret rm E k n V (pc + 1) ll (.int x.toInt32 :: st) Q) : Ev l G own cc nL ret rm E k n V pc ll (.long x :: st) Q := by
  intro p e s m args below meth c H locs ls C hR hL hl
  obtain ⟨hx, hb, hr, hml, ho, hts, hlk, hK⟩ := And.intro True.intro C |>.2
  exact lv_l2i hx hb hd rfl (kk p e s m args below meth c H locs ls C hR hL hl)
theorem r_i2b {x : Int32} (hd : decode cc pc = .ok (.i2b, 1)) (kk : Ev l G own cc nL ret rm E k n V (pc + 1) ll (.int x.toInt8.toInt32 :: st) Q) : Ev l G own cc nL ret rm E k n V pc ll (.int x :: st) Q := by
  intro p e s m args below meth c H locs ls C hR hL hl
  obtain ⟨hx, hb, hr, hml, ho, hts, hlk, hK⟩ := And.intro True.intro C |>.2
  exact lv_i2b hx hb hd rfl (kk p e s m args below meth c H locs ls C hR hL hl)
theorem r_i2c {x : Int32} (hd : decode cc pc = .ok (.i2c, 1)) (kk : Ev l G own cc nL ret rm E k n V (pc + 1) ll (.int (x.toUInt32 % 65536).toInt32 :: st) Q) : Ev l G own cc nL ret rm E k n V pc ll (.int x :: st) Q := by
  intro p e s m args below meth c H locs ls C hR hL hl
  obtain ⟨hx, hb, hr, hml, ho, hts, hlk, hK⟩ := And.intro True.intro C |>.2
  exact lv_i2c hx hb hd rfl (kk p e s m args below meth c H locs ls C hR hL hl)
theorem r_iushr {x y : Int32} (hd : decode cc pc = .ok (.iushr, 1)) (kk : Ev l G own cc nL ret rm E k n V (pc + 1) ll (.int (x.toUInt32 >>> (y.toUInt32 &&& Int32.toUInt32 31)).toInt32 :: st) Q) : Ev l G own cc nL ret rm E k n V pc ll (.int y :: .int x :: st) Q := by
  intro p e s m args below meth c H locs ls C hR hL hl
  obtain ⟨hx, hb, hr, hml, ho, hts, hlk, hK⟩ := And.intro True.intro C |>.2
  exact lv_iushr hx hb hd rfl (kk p e s m args below meth c H locs ls C hR hL hl)
theorem r_dup {v : Value} (hd : decode cc pc = .ok (.dup, 1)) (hc : v.category = 1) (kk : Ev l G own cc nL ret rm E k n V (pc + 1) ll (v :: v :: st) Q) : Ev l G own cc nL ret rm E k n V pc ll (v :: st) Q := by
  intro p e s m args below meth c H locs ls C hR hL hl
  obtain ⟨hx, hb, hr, hml, ho, hts, hlk, hK⟩ := And.intro True.intro C |>.2
  exact lv_dup hx hb hd hc (kk p e s m args below meth c H locs ls C hR hL hl)
theorem r_pop {v : Value} (hd : decode cc pc = .ok (.pop, 1)) (hc : v.category = 1) (kk : Ev l G own cc nL ret rm E k n V (pc + 1) ll st Q) : Ev l G own cc nL ret rm E k n V pc ll (v :: st) Q := by
  intro p e s m args below meth c H locs ls C hR hL hl
  obtain ⟨hx, hb, hr, hml, ho, hts, hlk, hK⟩ := And.intro True.intro C |>.2
  exact lv_pop hx hb hd hc (kk p e s m args below meth c H locs ls C hR hL hl)
theorem r_dup_x1 {v w : Value} (hd : decode cc pc = .ok (.dup_x1, 1)) (hc : v.category = 1) (hc2 : w.category = 1) (kk : Ev l G own cc nL ret rm E k n V (pc + 1) ll (v :: w :: v :: st) Q) : Ev l G own cc nL ret rm E k n V pc ll (v :: w :: st) Q := by
  intro p e s m args below meth c H locs ls C hR hL hl
  obtain ⟨hx, hb, hr, hml, ho, hts, hlk, hK⟩ := And.intro True.intro C |>.2
  exact lv_dup_x1 hx hb hd hc hc2 (kk p e s m args below meth c H locs ls C hR hL hl)
theorem r_dup2 {v w : Value} (hd : decode cc pc = .ok (.dup2, 1)) (hc : v.category = 1) (hc2 : w.category = 1) (kk : Ev l G own cc nL ret rm E k n V (pc + 1) ll (v :: w :: v :: w :: st) Q) : Ev l G own cc nL ret rm E k n V pc ll (v :: w :: st) Q := by
  intro p e s m args below meth c H locs ls C hR hL hl
  obtain ⟨hx, hb, hr, hml, ho, hts, hlk, hK⟩ := And.intro True.intro C |>.2
  exact lv_dup2_11 hx hb hd hc hc2 (kk p e s m args below meth c H locs ls C hR hL hl)
theorem r_if_eq {x : Int32} {off : Int} (tgt : Nat) (hd : decode cc pc = .ok (.ifCond .eq off, 3)) (ht : (pc : Int) + off = (tgt : Int)) (kt : x = 0 → Ev l G own cc nL ret rm E k n V tgt ll st Q) (kf : ¬ x = 0 → Ev l G own cc nL ret rm E k n V (pc + 3) ll st Q) : Ev l G own cc nL ret rm E k n V pc ll (.int x :: st) Q := by
  intro p e s m args below meth c H locs ls C hR hL hl
  obtain ⟨hx, hb, hr, hml, ho, hts, hlk, hK⟩ := And.intro True.intro C |>.2
  exact lv_if_eq hx hb hd ht (fun q => kt q p e s m args below meth c H locs ls C hR hL hl) (fun q => kf q p e s m args below meth c H locs ls C hR hL hl)
theorem r_icmp_eq {x y : Int32} {off : Int} (tgt : Nat) (hd : decode cc pc = .ok (.if_icmp .eq off, 3)) (ht : (pc : Int) + off = (tgt : Int)) (kt : x = y → Ev l G own cc nL ret rm E k n V tgt ll st Q) (kf : ¬ x = y → Ev l G own cc nL ret rm E k n V (pc + 3) ll st Q) : Ev l G own cc nL ret rm E k n V pc ll (.int y :: .int x :: st) Q := by
  intro p e s m args below meth c H locs ls C hR hL hl
  obtain ⟨hx, hb, hr, hml, ho, hts, hlk, hK⟩ := And.intro True.intro C |>.2
  exact lv_icmp_eq hx hb hd ht (fun q => kt q p e s m args below meth c H locs ls C hR hL hl) (fun q => kf q p e s m args below meth c H locs ls C hR hL hl)
theorem r_if_ne {x : Int32} {off : Int} (tgt : Nat) (hd : decode cc pc = .ok (.ifCond .ne off, 3)) (ht : (pc : Int) + off = (tgt : Int)) (kt : ¬ x = 0 → Ev l G own cc nL ret rm E k n V tgt ll st Q) (kf : x = 0 → Ev l G own cc nL ret rm E k n V (pc + 3) ll st Q) : Ev l G own cc nL ret rm E k n V pc ll (.int x :: st) Q := by
  intro p e s m args below meth c H locs ls C hR hL hl
  obtain ⟨hx, hb, hr, hml, ho, hts, hlk, hK⟩ := And.intro True.intro C |>.2
  exact lv_if_ne hx hb hd ht (fun q => kt q p e s m args below meth c H locs ls C hR hL hl) (fun q => kf q p e s m args below meth c H locs ls C hR hL hl)
theorem r_icmp_ne {x y : Int32} {off : Int} (tgt : Nat) (hd : decode cc pc = .ok (.if_icmp .ne off, 3)) (ht : (pc : Int) + off = (tgt : Int)) (kt : ¬ x = y → Ev l G own cc nL ret rm E k n V tgt ll st Q) (kf : x = y → Ev l G own cc nL ret rm E k n V (pc + 3) ll st Q) : Ev l G own cc nL ret rm E k n V pc ll (.int y :: .int x :: st) Q := by
  intro p e s m args below meth c H locs ls C hR hL hl
  obtain ⟨hx, hb, hr, hml, ho, hts, hlk, hK⟩ := And.intro True.intro C |>.2
  exact lv_icmp_ne hx hb hd ht (fun q => kt q p e s m args below meth c H locs ls C hR hL hl) (fun q => kf q p e s m args below meth c H locs ls C hR hL hl)
theorem r_if_lt {x : Int32} {off : Int} (tgt : Nat) (hd : decode cc pc = .ok (.ifCond .lt off, 3)) (ht : (pc : Int) + off = (tgt : Int)) (kt : x < 0 → Ev l G own cc nL ret rm E k n V tgt ll st Q) (kf : ¬ x < 0 → Ev l G own cc nL ret rm E k n V (pc + 3) ll st Q) : Ev l G own cc nL ret rm E k n V pc ll (.int x :: st) Q := by
  intro p e s m args below meth c H locs ls C hR hL hl
  obtain ⟨hx, hb, hr, hml, ho, hts, hlk, hK⟩ := And.intro True.intro C |>.2
  exact lv_if_lt hx hb hd ht (fun q => kt q p e s m args below meth c H locs ls C hR hL hl) (fun q => kf q p e s m args below meth c H locs ls C hR hL hl)
theorem r_icmp_lt {x y : Int32} {off : Int} (tgt : Nat) (hd : decode cc pc = .ok (.if_icmp .lt off, 3)) (ht : (pc : Int) + off = (tgt : Int)) (kt : x < y → Ev l G own cc nL ret rm E k n V tgt ll st Q) (kf : ¬ x < y → Ev l G own cc nL ret rm E k n V (pc + 3) ll st Q) : Ev l G own cc nL ret rm E k n V pc ll (.int y :: .int x :: st) Q := by
  intro p e s m args below meth c H locs ls C hR hL hl
  obtain ⟨hx, hb, hr, hml, ho, hts, hlk, hK⟩ := And.intro True.intro C |>.2
  exact lv_icmp_lt hx hb hd ht (fun q => kt q p e s m args below meth c H locs ls C hR hL hl) (fun q => kf q p e s m args below meth c H locs ls C hR hL hl)
theorem r_if_ge {x : Int32} {off : Int} (tgt : Nat) (hd : decode cc pc = .ok (.ifCond .ge off, 3)) (ht : (pc : Int) + off = (tgt : Int)) (kt : 0 ≤ x → Ev l G own cc nL ret rm E k n V tgt ll st Q) (kf : ¬ 0 ≤ x → Ev l G own cc nL ret rm E k n V (pc + 3) ll st Q) : Ev l G own cc nL ret rm E k n V pc ll (.int x :: st) Q := by
  intro p e s m args below meth c H locs ls C hR hL hl
  obtain ⟨hx, hb, hr, hml, ho, hts, hlk, hK⟩ := And.intro True.intro C |>.2
  exact lv_if_ge hx hb hd ht (fun q => kt q p e s m args below meth c H locs ls C hR hL hl) (fun q => kf q p e s m args below meth c H locs ls C hR hL hl)
theorem r_icmp_ge {x y : Int32} {off : Int} (tgt : Nat) (hd : decode cc pc = .ok (.if_icmp .ge off, 3)) (ht : (pc : Int) + off = (tgt : Int)) (kt : y ≤ x → Ev l G own cc nL ret rm E k n V tgt ll st Q) (kf : ¬ y ≤ x → Ev l G own cc nL ret rm E k n V (pc + 3) ll st Q) : Ev l G own cc nL ret rm E k n V pc ll (.int y :: .int x :: st) Q := by
  intro p e s m args below meth c H locs ls C hR hL hl
  obtain ⟨hx, hb, hr, hml, ho, hts, hlk, hK⟩ := And.intro True.intro C |>.2
  exact lv_icmp_ge hx hb hd ht (fun q => kt q p e s m args below meth c H locs ls C hR hL hl) (fun q => kf q p e s m args below meth c H locs ls C hR hL hl)
theorem r_if_gt {x : Int32} {off : Int} (tgt : Nat) (hd : decode cc pc = .ok (.ifCond .gt off, 3)) (ht : (pc : Int) + off = (tgt : Int)) (kt : 0 < x → Ev l G own cc nL ret rm E k n V tgt ll st Q) (kf : ¬ 0 < x → Ev l G own cc nL ret rm E k n V (pc + 3) ll st Q) : Ev l G own cc nL ret rm E k n V pc ll (.int x :: st) Q := by
  intro p e s m args below meth c H locs ls C hR hL hl
  obtain ⟨hx, hb, hr, hml, ho, hts, hlk, hK⟩ := And.intro True.intro C |>.2
  exact lv_if_gt hx hb hd ht (fun q => kt q p e s m args below meth c H locs ls C hR hL hl) (fun q => kf q p e s m args below meth c H locs ls C hR hL hl)
theorem r_icmp_gt {x y : Int32} {off : Int} (tgt : Nat) (hd : decode cc pc = .ok (.if_icmp .gt off, 3)) (ht : (pc : Int) + off = (tgt : Int)) (kt : y < x → Ev l G own cc nL ret rm E k n V tgt ll st Q) (kf : ¬ y < x → Ev l G own cc nL ret rm E k n V (pc + 3) ll st Q) : Ev l G own cc nL ret rm E k n V pc ll (.int y :: .int x :: st) Q := by
  intro p e s m args below meth c H locs ls C hR hL hl
  obtain ⟨hx, hb, hr, hml, ho, hts, hlk, hK⟩ := And.intro True.intro C |>.2
  exact lv_icmp_gt hx hb hd ht (fun q => kt q p e s m args below meth c H locs ls C hR hL hl) (fun q => kf q p e s m args below meth c H locs ls C hR hL hl)
theorem r_if_le {x : Int32} {off : Int} (tgt : Nat) (hd : decode cc pc = .ok (.ifCond .le off, 3)) (ht : (pc : Int) + off = (tgt : Int)) (kt : x ≤ 0 → Ev l G own cc nL ret rm E k n V tgt ll st Q) (kf : ¬ x ≤ 0 → Ev l G own cc nL ret rm E k n V (pc + 3) ll st Q) : Ev l G own cc nL ret rm E k n V pc ll (.int x :: st) Q := by
  intro p e s m args below meth c H locs ls C hR hL hl
  obtain ⟨hx, hb, hr, hml, ho, hts, hlk, hK⟩ := And.intro True.intro C |>.2
  exact lv_if_le hx hb hd ht (fun q => kt q p e s m args below meth c H locs ls C hR hL hl) (fun q => kf q p e s m args below meth c H locs ls C hR hL hl)
theorem r_icmp_le {x y : Int32} {off : Int} (tgt : Nat) (hd : decode cc pc = .ok (.if_icmp .le off, 3)) (ht : (pc : Int) + off = (tgt : Int)) (kt : x ≤ y → Ev l G own cc nL ret rm E k n V tgt ll st Q) (kf : ¬ x ≤ y → Ev l G own cc nL ret rm E k n V (pc + 3) ll st Q) : Ev l G own cc nL ret rm E k n V pc ll (.int y :: .int x :: st) Q := by
  intro p e s m args below meth c H locs ls C hR hL hl
  obtain ⟨hx, hb, hr, hml, ho, hts, hlk, hK⟩ := And.intro True.intro C |>.2
  exact lv_icmp_le hx hb hd ht (fun q => kt q p e s m args below meth c H locs ls C hR hL hl) (fun q => kf q p e s m args below meth c H locs ls C hR hL hl)
theorem r_goto {off : Int} (tgt : Nat) (hd : decode cc pc = .ok (.goto off, 3)) (ht : (pc : Int) + off = (tgt : Int)) (kk : Ev l G own cc nL ret rm E k n V tgt ll st Q) : Ev l G own cc nL ret rm E k n V pc ll st Q := by
  intro p e s m args below meth c H locs ls C hR hL hl
  obtain ⟨hx, hb, hr, hml, ho, hts, hlk, hK⟩ := And.intro True.intro C |>.2
  exact lv_goto hx hb hd ht (kk p e s m args below meth c H locs ls C hR hL hl)
theorem r_ifnull {off : Int} {o : Option Nat} (tgt : Nat) (hd : decode cc pc = .ok (.ifnull off, 3)) (ht : (pc : Int) + off = (tgt : Int)) (kt : o = none → Ev l G own cc nL ret rm E k n V tgt ll st Q) (kf : ∀ a, o = some a → Ev l G own cc nL ret rm E k n V (pc + 3) ll st Q) : Ev l G own cc nL ret rm E k n V pc ll (va_rf o :: st) Q := by
  intro p e s m args below meth c H locs ls C hR hL hl
  obtain ⟨hx, hb, hr, hml, ho, hts, hlk, hK⟩ := And.intro True.intro C |>.2
  cases o with
  | none => exact lv_ifnullN hx hb hd ht (kt rfl p e s m args below meth c H locs ls C hR hL hl)
  | some a => exact lv_ifnull hx hb hd (kf a rfl p e s m args below meth c H locs ls C hR hL hl)
theorem r_ifnonnull {off : Int} {o : Option Nat} (tgt : Nat) (hd : decode cc pc = .ok (.ifnonnull off, 3)) (ht : (pc : Int) + off = (tgt : Int)) (kt : ∀ a, o = some a → Ev l G own cc nL ret rm E k n V tgt ll st Q) (kf : o = none → Ev l G own cc nL ret rm E k n V (pc + 3) ll st Q) : Ev l G own cc nL ret rm E k n V pc ll (va_rf o :: st) Q := by
  intro p e s m args below meth c H locs ls C hR hL hl
  obtain ⟨hx, hb, hr, hml, ho, hts, hlk, hK⟩ := And.intro True.intro C |>.2
  cases o with
  | none => exact lv_ifnonnullN hx hb hd (kf rfl p e s m args below meth c H locs ls C hR hL hl)
  | some a => exact lv_ifnonnull hx hb hd ht (kt a rfl p e s m args below meth c H locs ls C hR hL hl)
theorem r_tIn {dflt lo hi : Int} {offs : Array Int} {len : Nat} {x xv : Int32} {off : Int} (tgt : Nat) (hd : decode cc pc = .ok (.tableswitch dflt lo hi offs, len)) (he : x = xv) (h1 : ¬ xv.toInt < lo) (h2 : ¬ hi < xv.toInt) (hof : offs[(xv.toInt - lo).toNat]? = some off) (ht : (pc : Int) + off = (tgt : Int)) (kk : Ev l G own cc nL ret rm E k n V tgt ll st Q) : Ev l G own cc nL ret rm E k n V pc ll (.int x :: st) Q := by
  intro p e s m args below meth c H locs ls C hR hL hl
  obtain ⟨hx, hb, hr, hml, ho, hts, hlk, hK⟩ := And.intro True.intro C |>.2
  subst he
  exact lv_tableIn hx hb hd h1 h2 hof ht (kk p e s m args below meth c H locs ls C hR hL hl)
theorem r_tOut {dflt lo hi : Int} {offs : Array Int} {len : Nat} {x : Int32} (tgt : Nat) (hd : decode cc pc = .ok (.tableswitch dflt lo hi offs, len)) (h : x.toInt < lo ∨ hi < x.toInt) (ht : (pc : Int) + dflt = (tgt : Int)) (kk : Ev l G own cc nL ret rm E k n V tgt ll st Q) : Ev l G own cc nL ret rm E k n V pc ll (.int x :: st) Q := by
  intro p e s m args below meth c H locs ls C hR hL hl
  obtain ⟨hx, hb, hr, hml, ho, hts, hlk, hK⟩ := And.intro True.intro C |>.2
  exact lv_tableOut hx hb hd h ht (kk p e s m args below meth c H locs ls C hR hL hl)
theorem r_look {dflt : Int} {ps : Array (Int × Int)} {len : Nat} {x : Int32} {off : Int} (tgt : Nat) (hd : decode cc pc = .ok (.lookupswitch dflt ps, len)) (hp : (ps.toList.zip (ps.toList.drop 1)).all (fun (a, next) => a.1 < next.1) = true) (hof : Op.lookupswitch.offset ps.toList dflt x.toInt = off) (ht : (pc : Int) + off = (tgt : Int)) (kk : Ev l G own cc nL ret rm E k n V tgt ll st Q) : Ev l G own cc nL ret rm E k n V pc ll (.int x :: st) Q := by
  intro p e s m args below meth c H locs ls C hR hL hl
  obtain ⟨hx, hb, hr, hml, ho, hts, hlk, hK⟩ := And.intro True.intro C |>.2
  exact lv_lookup hx hb hd hp hof ht (kk p e s m args below meth c H locs ls C hR hL hl)
/-- the pool's entry idx of own is field k of class c -/
def FL (own : String) (idx c k : Nat) : Prop := ∃ (q : vw_C), cls[c]? = some q ∧ k < q.2.2 ∧ Cond.fieldLink own idx (q.2.1 k).1 (q.2.1 k).2.1 (q.2.1 k).2.2.1 ∈ tb ∧ ∀ w ∈ u_ws q.1 q.2.1 q.2.2, w ∈ tb
/-- .. and may be written, as a value of type ty -/
def FP (own : String) (idx c k : Nat) (ty : FieldType) : Prop := ∃ (q : vw_C) (ty0 : Nat → FieldType), cls[c]? = some q ∧ k < q.2.2 ∧ Cond.fieldLink own idx (q.2.1 k).1 (q.2.1 k).2.1 (q.2.1 k).2.2.1 ∈ tb ∧ (∀ w ∈ u_ws q.1 q.2.1 q.2.2, w ∈ tb) ∧ (q.2.1 k).2.2.2 = false ∧ parseFieldDescriptor (q.2.1 k).2.2.1 = some ty ∧ (∀ j, j < q.2.2 → parseFieldDescriptor (q.2.1 j).2.2.1 = some (ty0 j)) ∧ ∀ a, a < q.2.2 → ∀ b, b < q.2.2 → a ≠ b → (q.2.1 a).2.1 ≠ (q.2.1 b).2.1
theorem RepH.ob {H : Heap} {c i : Nat} (h : RepH G E V H) (hc : c < 100) (hl : eL E c i) : va_at (gD G) cls (eA E c i, .inr (c, obF E V c i)) H := by
  have h1 := (h.2.1 c i (by unfold Lv; rw [if_pos hc]; exact hl)).2
  unfold cellOf at h1
  rw [if_pos hc] at h1
  exact h1
theorem r_get {idx ci i kf : Nat} {v : Value} (hd : decode cc pc = .ok (.getfield idx, 3)) (hf : FL own idx ci kf) (hlv : eL E ci i) (hv : (obF E V ci i)[kf]? = some v) (kk : Ev l G own cc nL ret rm E k n V (pc + 3) ll (v :: st) Q) : Ev l G own cc nL ret rm E k n V pc ll (.ref (eA E ci i) :: st) Q := by
  intro p e s m args below meth c H locs ls C hR hL hl
  obtain ⟨hx, hb, hr, hml, ho, hts, hlk, hK⟩ := And.intro True.intro C |>.2
  obtain ⟨q, hq, hkq, hlink, hin⟩ := hf
  have hc : ci < 100 := Nat.lt_of_lt_of_le (List.getElem?_eq_some_iff.mp hq).1 (by decide)
  have hP : va_P (gD G) cls [(eA E ci i, .inr (ci, obF E V ci i))] H := fun j x hj => by
    cases j with
    | zero => cases hj; exact hR.ob hc hlv
    | succ j => simp at hj
  exact va_get (D := gD G) (cl := cls) (ci := ci) (C := q.1) (T := q.2.1) (N := q.2.2) (ref := (q.2.1 kf).1) hx hb hts hin ho hK.1 hP 0 rfl hq kf hkq (hts _ hlink) (fun _ h9 => h9) hv hd (kk p e s m args below meth c H locs ls C hR hL hl)
theorem r_put {idx ci i kf : Nat} {x : Int32} {ty : FieldType} (hd : decode cc pc = .ok (.putfield idx, 3)) (hf : FP own idx ci kf ty) (h0 : (fkl ci)[kf]? = some 0) (hlv : eL E ci i) (hn : narrow ty (.int x) = .int x) (hfit : fits ty (.int x) = true) (kk : Ev l G own cc nL ret rm E k n (up3 V (100 * (ci + 1) + kf) i 0 x) (pc + 3) ll st Q) : Ev l G own cc nL ret rm E k n V pc ll (.int x :: .ref (eA E ci i) :: st) Q := by
  intro p e s m args below meth c H locs ls C hR hL hl
  obtain ⟨hx, hb, hr, hml, ho, hts, hlk, hK⟩ := And.intro True.intro C |>.2
  obtain ⟨q, ty0, hq, hkq, hlink, hin, hfin, hty, hty0, hnm⟩ := hf
  have hc : ci < 100 := Nat.lt_of_lt_of_le (List.getElem?_eq_some_iff.mp hq).1 (by decide)
  have hob := hR.ob hc hlv
  have hap := va_apart (own := own) hts hin ty0 hty0 hnm hK.1 hq
  obtain ⟨r, h1, cell, q1, q2, q3, q4⟩ := hob
  have hr1 : r = q := Option.some.inj (h1.symm.trans hq)
  subst hr1
  obtain ⟨hS, hfc, kC, hkC, hkind⟩ := hK.1.1 ci _ hq
  obtain ⟨cf, kff, fi, f, hi, hsl⟩ := hS kf hkq
  have hlay := hts _ (hin _ (u_in_lay hkq))
  unfold u_lay at hlay
  rw [if_neg (by rw [hfin]; decide)] at hlay
  have hst := (u_facts hfc hkC (u_lays hts hin hkq) hi).1
  have h6 := u_store hfc hkC hkind hlay hi hty hn hfit
  have hLv : Lv E ci i := by unfold Lv; rw [if_pos hc]; exact hlv
  have hkl : kf < (obF E V ci i).length := by
    have : (obF E V ci i)[kf]? = some (fval E V ci i kf 0) := by rw [obF_get, h0]; rfl
    exact (List.getElem?_eq_some_iff.mp this).1
  refine W.putK hx hb (f := f) ⟨ho, hts _ hlink, ⟨_, _, _, hi⟩, hst⟩ (by rw [q2]; exact h6) q1 q3 (by rw [hsl]; exact k2_hasslot (q4 kf hkq)) rfl rfl hd fun H' e1 e2 e3 => ?_
  rw [hsl] at e1 ⊢
  refine kk p e s m args below meth c H' _ ls C (hR.wr hLv e2 e3 ?_ ?_) ?_ hl
  · unfold cellOf
    rw [if_pos hc, obF_put h0]
    exact ⟨_, hq, t_OB.to (V := updV (vp_V (obF E V ci i)) kf (.int x)) ⟨_, e1, q2, q3, t_set q4 hap hkq (.int x)⟩ (fun j _ => vp_updV_set hkl (.int x) j)⟩
  · intro id' i' hne
    unfold cellOf
    split
    · rw [obF_other h0 hne]
    · rename_i hid
      by_cases hf2 : id' = 100 * (ci + 1) + kf ∧ i' = i
      · obtain ⟨rfl, rfl⟩ := hf2
        rw [kdo_at h0]
        rfl
      · exact arC_other hf2 _
  · intro z hz
    rcases List.mem_append.mp hz with h | h
    · exact hL z h
    · rw [List.mem_singleton.mp h]
      exact (hR.2.1 ci i hLv).1
theorem RepH.ar {H : Heap} {id i : Nat} (h : RepH G E V H) (hk : 1 ≤ kdo id ∧ kdo id ≤ 6) (hid : 100 ≤ id) (hl : eL E (id / 100 - 1) i) : va_at (gD G) cls (eA E id i, arC G E V id i (kdo id)) H := by
  have h1 := (h.2.1 id i (by unfold Lv; rw [if_neg (by omega)]; exact ⟨hk.1, hk.2, hl⟩)).2
  unfold cellOf at h1
  rw [if_neg (by omega)] at h1
  exact h1
theorem Lv_ar {id i : Nat} (hk : 1 ≤ kdo id ∧ kdo id ≤ 6) (hid : 100 ≤ id) (hl : eL E (id / 100 - 1) i) : Lv E id i := by
  unfold Lv
  rw [if_neg (by omega)]
  exact ⟨hk.1, hk.2, hl⟩
theorem RepH.wrA {H H1 : Heap} {id i j : Nat} {x : Int32} {kd t : Nat} (h : RepH G E V H) (hkd : kdo id = kd) (h3 : kd = t + 1) (ht : t ≤ 2) (hid : 100 ≤ id) (hl : eL E (id / 100 - 1) i) (hz : H1.size = H.size) (ho : ∀ q, q ≠ eA E id i → H1[q]? = H[q]?) (hs : H1[eA E id i]? = some (vp_cell (gT G t) (eN E id i, .inl (upd (V id i) j x)))) : RepH G E (up3 V id i j x) H1 := by
  have hk : 1 ≤ kdo id ∧ kdo id ≤ 6 := by omega
  refine h.wr (Lv_ar hk hid hl) hz ho ?_ ?_
  · unfold cellOf
    rw [if_neg (by omega), hkd, h3]
    have e : t = 0 ∨ t = 1 ∨ t = 2 := by omega
    rcases e with rfl | rfl | rfl <;> (show H1[eA E id i]? = some (vp_cell _ (eN E id i, .inl (up3 V id i j x id i))); rw [up3_row]; exact hs)
  · intro id' i' hne
    unfold cellOf
    split
    · rw [obF_row (by omega)]
    · exact arC_other hne _
theorem r_iald {id i : Nat} {x : Int32} (hd : decode cc pc = .ok (.iaload, 1)) (hkd : kdo id = 1) (hid : 100 ≤ id) (hlv : eL E (id / 100 - 1) i) (hin : vp_in x (eN E id i)) (kk : Ev l G own cc nL ret rm E k n V (pc + 1) ll (.int (V id i x.toNatClampNeg) :: st) Q) : Ev l G own cc nL ret rm E k n V pc ll (.int x :: .ref (eA E id i) :: st) Q := by
  intro p e s m args below meth c H locs ls C hR hL hl
  obtain ⟨hx, hb, hr, hml, ho, hts, hlk, hK⟩ := And.intro True.intro C |>.2
  have hP : va_P (gD G) cls [(eA E id i, .inl (gT G 0, eN E id i, .inl (V id i)))] H := fun j x hj => by
    cases j with
    | zero =>
      cases hj
      have h1 := hR.ar (by omega) hid hlv
      rw [hkd] at h1
      exact h1
    | succ j => simp at hj
  exact va_iald (D := gD G) (cl := cls) hx hb hK.1 hP 0 0 rfl rfl hin hd (kk p e s m args below meth c H locs ls C hR hL hl)
theorem r_bald {id i : Nat} {x : Int32} (hd : decode cc pc = .ok (.baload, 1)) (hkd : kdo id = 2) (hid : 100 ≤ id) (hlv : eL E (id / 100 - 1) i) (hin : vp_in x (eN E id i)) (kk : Ev l G own cc nL ret rm E k n V (pc + 1) ll (.int (V id i x.toNatClampNeg) :: st) Q) : Ev l G own cc nL ret rm E k n V pc ll (.int x :: .ref (eA E id i) :: st) Q := by
  intro p e s m args below meth c H locs ls C hR hL hl
  obtain ⟨hx, hb, hr, hml, ho, hts, hlk, hK⟩ := And.intro True.intro C |>.2
  have hP : va_P (gD G) cls [(eA E id i, .inl (gT G 1, eN E id i, .inl (V id i)))] H := fun j x hj => by
    cases j with
    | zero =>
      cases hj
      have h1 := hR.ar (by omega) hid hlv
      rw [hkd] at h1
      exact h1
    | succ j => simp at hj
  exact va_bald (D := gD G) (cl := cls) hx hb hK.1 hP 0 1 rfl rfl hin hd (kk p e s m args below meth c H locs ls C hR hL hl)
theorem r_zald {id i : Nat} {x : Int32} (hd : decode cc pc = .ok (.baload, 1)) (hkd : kdo id = 3) (hid : 100 ≤ id) (hlv : eL E (id / 100 - 1) i) (hin : vp_in x (eN E id i)) (kk : Ev l G own cc nL ret rm E k n V (pc + 1) ll (.int (V id i x.toNatClampNeg) :: st) Q) : Ev l G own cc nL ret rm E k n V pc ll (.int x :: .ref (eA E id i) :: st) Q := by
  intro p e s m args below meth c H locs ls C hR hL hl
  obtain ⟨hx, hb, hr, hml, ho, hts, hlk, hK⟩ := And.intro True.intro C |>.2
  have hP : va_P (gD G) cls [(eA E id i, .inl (gT G 2, eN E id i, .inl (V id i)))] H := fun j x hj => by
    cases j with
    | zero =>
      cases hj
      have h1 := hR.ar (by omega) hid hlv
      rw [hkd] at h1
      exact h1
    | succ j => simp at hj
  exact va_zald (D := gD G) (cl := cls) hx hb hK.1 hP 0 2 rfl rfl hin hd (kk p e s m args below meth c H locs ls C hR hL hl)
theorem r_iast {id i : Nat} {x y : Int32} (hd : decode cc pc = .ok (.iastore, 1)) (hkd : kdo id = 1) (hid : 100 ≤ id) (hlv : eL E (id / 100 - 1) i) (hin : vp_in y (eN E id i)) (kk : Ev l G own cc nL ret rm E k n (up3 V id i y.toNatClampNeg (x)) (pc + 1) ll st Q) : Ev l G own cc nL ret rm E k n V pc ll (.int x :: .int y :: .ref (eA E id i) :: st) Q := by
  intro p e s m args below meth c H locs ls C hR hL hl
  obtain ⟨hx, hb, hr, hml, ho, hts, hlk, hK⟩ := And.intro True.intro C |>.2
  have h1 := hR.ar (by omega) hid hlv
  rw [hkd] at h1
  have h2 : H[eA E id i]? = some (vp_cell (gT G 0) (eN E id i, .inl (V id i))) := h1
  refine W.iast hx hb h2 ((hK.1.2 0 _ rfl).1 (eN E id i) (fun j => .int (V id i j))) (fun q => by cases q) (by show ¬ (y < 0 ∨ (arrV _ _ _).slots.size ≤ _); rw [arrV_size]; exact hin) rfl rfl hd fun H1 e9 z oq => ?_
  refine kk p e s m args below meth c H1 _ ls C (hR.wrA hkd rfl (by omega) hid hlv z oq ?_) ?_ hl
  · rw [e9, vp_cell_i, vp_cell_i, arrV_store]
    congr 2
    funext q
    by_cases hq : q = y.toNatClampNeg
    · subst hq
      simp [updV, upd]
    · simp [updV, upd, hq]
  · intro z hz
    rcases List.mem_append.mp hz with h | h
    · exact hL z h
    · rw [List.mem_singleton.mp h]
      exact (hR.2.1 id i (Lv_ar (by omega) hid hlv)).1
theorem r_bast {id i : Nat} {x y : Int32} (hd : decode cc pc = .ok (.bastore, 1)) (hkd : kdo id = 2) (hid : 100 ≤ id) (hlv : eL E (id / 100 - 1) i) (hin : vp_in y (eN E id i)) (kk : Ev l G own cc nL ret rm E k n (up3 V id i y.toNatClampNeg (vp_nar .byte x)) (pc + 1) ll st Q) : Ev l G own cc nL ret rm E k n V pc ll (.int x :: .int y :: .ref (eA E id i) :: st) Q := by
  intro p e s m args below meth c H locs ls C hR hL hl
  obtain ⟨hx, hb, hr, hml, ho, hts, hlk, hK⟩ := And.intro True.intro C |>.2
  have h1 := hR.ar (by omega) hid hlv
  rw [hkd] at h1
  have h2 : H[eA E id i]? = some (vp_cell (gT G 1) (eN E id i, .inl (V id i))) := h1
  refine W.bast hx hb h2 ((hK.1.2 1 _ rfl).1 (eN E id i) (fun j => .int (V id i j))) (fun q => by cases q) (by show ¬ (y < 0 ∨ (arrV _ _ _).slots.size ≤ _); rw [arrV_size]; exact hin) rfl rfl hd fun H1 e9 z oq => ?_
  refine kk p e s m args below meth c H1 _ ls C (hR.wrA hkd rfl (by omega) hid hlv z oq ?_) ?_ hl
  · rw [e9, vp_cell_i, vp_cell_i, arrV_store]
    congr 2
    funext q
    by_cases hq : q = y.toNatClampNeg
    · subst hq
      simp [updV, upd, vp_nar, narrow]
    · simp [updV, upd, hq]
  · intro z hz
    rcases List.mem_append.mp hz with h | h
    · exact hL z h
    · rw [List.mem_singleton.mp h]
      exact (hR.2.1 id i (Lv_ar (by omega) hid hlv)).1
theorem r_zast {id i : Nat} {x y : Int32} (hd : decode cc pc = .ok (.bastore, 1)) (hkd : kdo id = 3) (hid : 100 ≤ id) (hlv : eL E (id / 100 - 1) i) (hin : vp_in y (eN E id i)) (kk : Ev l G own cc nL ret rm E k n (up3 V id i y.toNatClampNeg (vp_nar .boolean x)) (pc + 1) ll st Q) : Ev l G own cc nL ret rm E k n V pc ll (.int x :: .int y :: .ref (eA E id i) :: st) Q := by
  intro p e s m args below meth c H locs ls C hR hL hl
  obtain ⟨hx, hb, hr, hml, ho, hts, hlk, hK⟩ := And.intro True.intro C |>.2
  have h1 := hR.ar (by omega) hid hlv
  rw [hkd] at h1
  have h2 : H[eA E id i]? = some (vp_cell (gT G 2) (eN E id i, .inl (V id i))) := h1
  refine W.zast hx hb h2 ((hK.1.2 2 _ rfl).1 (eN E id i) (fun j => .int (V id i j))) (fun q => by cases q) (by show ¬ (y < 0 ∨ (arrV _ _ _).slots.size ≤ _); rw [arrV_size]; exact hin) rfl rfl hd fun H1 e9 z oq => ?_
  refine kk p e s m args below meth c H1 _ ls C (hR.wrA hkd rfl (by omega) hid hlv z oq ?_) ?_ hl
  · rw [e9, vp_cell_i, vp_cell_i, arrV_store]
    congr 2
    funext q
    by_cases hq : q = y.toNatClampNeg
    · subst hq
      simp [updV, upd, vp_nar, narrow]
    · simp [updV, upd, hq]
  · intro z hz
    rcases List.mem_append.mp hz with h | h
    · exact hL z h
    · rw [List.mem_singleton.mp h]
      exact (hR.2.1 id i (Lv_ar (by omega) hid hlv)).1
theorem r_aaldP {id i : Nat} {x : Int32} (hd : decode cc pc = .ok (.aaload, 1)) (hkd : kdo id = 4) (hid : 100 ≤ id) (hlv : eL E (id / 100 - 1) i) (hin : vp_in x (eN E id i)) (kk : Ev l G own cc nL ret rm E k n V (pc + 1) ll (va_rf ((eR E id x.toNatClampNeg).map (eA E 2)) :: st) Q) : Ev l G own cc nL ret rm E k n V pc ll (.int x :: .ref (eA E id i) :: st) Q := by
  intro p e s m args below meth c H locs ls C hR hL hl
  obtain ⟨hx, hb, hr, hml, ho, hts, hlk, hK⟩ := And.intro True.intro C |>.2
  have hP : va_P (gD G) cls [(eA E id i, .inl (gT G 3, eN E id i, .inr (.inr (.inr (.inr (fun j => (eR E id j).map (eA E 2)))))))] H := fun j x hj => by
    cases j with
    | zero =>
      cases hj
      have h1 := hR.ar (by omega) hid hlv
      rw [hkd] at h1
      exact h1
    | succ j => simp at hj
  exact va_aldq (D := gD G) (cl := cls) (C := RX2) hx hb hK.1 hP 0 3 rfl rfl hin hd (kk p e s m args below meth c H locs ls C hR hL hl)
theorem r_aaldG {id i : Nat} {x : Int32} (hd : decode cc pc = .ok (.aaload, 1)) (hkd : kdo id = 5) (hid : 100 ≤ id) (hlv : eL E (id / 100 - 1) i) (hin : vp_in x (eN E id i)) (kk : Ev l G own cc nL ret rm E k n V (pc + 1) ll (va_rf ((eR E id x.toNatClampNeg).map (eA E 1)) :: st) Q) : Ev l G own cc nL ret rm E k n V pc ll (.int x :: .ref (eA E id i) :: st) Q := by
  intro p e s m args below meth c H locs ls C hR hL hl
  obtain ⟨hx, hb, hr, hml, ho, hts, hlk, hK⟩ := And.intro True.intro C |>.2
  have hP : va_P (gD G) cls [(eA E id i, .inl (gT G 4, eN E id i, .inr (.inr (.inr (.inr (fun j => (eR E id j).map (eA E 1)))))))] H := fun j x hj => by
    cases j with
    | zero =>
      cases hj
      have h1 := hR.ar (by omega) hid hlv
      rw [hkd] at h1
      exact h1
    | succ j => simp at hj
  exact va_aldq (D := gD G) (cl := cls) (C := RX1) hx hb hK.1 hP 0 4 rfl rfl hin hd (kk p e s m args below meth c H locs ls C hR hL hl)
theorem r_aaldT {id i : Nat} {x : Int32} (hd : decode cc pc = .ok (.aaload, 1)) (hkd : kdo id = 6) (hid : 100 ≤ id) (hlv : eL E (id / 100 - 1) i) (hin : vp_in x (eN E id i)) (kk : Ev l G own cc nL ret rm E k n V (pc + 1) ll (va_rf ((eR E id x.toNatClampNeg).map (eA E 7)) :: st) Q) : Ev l G own cc nL ret rm E k n V pc ll (.int x :: .ref (eA E id i) :: st) Q := by
  intro p e s m args below meth c H locs ls C hR hL hl
  obtain ⟨hx, hb, hr, hml, ho, hts, hlk, hK⟩ := And.intro True.intro C |>.2
  have hP : va_P (gD G) cls [(eA E id i, .inl (gT G 5, eN E id i, .inr (.inr (.inr (.inr (fun j => (eR E id j).map (eA E 7)))))))] H := fun j x hj => by
    cases j with
    | zero =>
      cases hj
      have h1 := hR.ar (by omega) hid hlv
      rw [hkd] at h1
      exact h1
    | succ j => simp at hj
  exact va_aldq (D := gD G) (cl := cls) (C := RX7) hx hb hK.1 hP 0 5 rfl rfl hin hd (kk p e s m args below meth c H locs ls C hR hL hl)
theorem r_alenI {id i : Nat} (hd : decode cc pc = .ok (.arraylength, 1)) (hkd : kdo id = 1) (hid : 100 ≤ id) (hlv : eL E (id / 100 - 1) i) (kk : Ev l G own cc nL ret rm E k n V (pc + 1) ll (.int (Int32.ofNat (eN E id i)) :: st) Q) : Ev l G own cc nL ret rm E k n V pc ll (.ref (eA E id i) :: st) Q := by
  intro p e s m args below meth c H locs ls C hR hL hl
  obtain ⟨hx, hb, hr, hml, ho, hts, hlk, hK⟩ := And.intro True.intro C |>.2
  have hP : va_P (gD G) cls [(eA E id i, .inl (gT G 0, eN E id i, .inl (V id i)))] H := fun j x hj => by
    cases j with
    | zero =>
      cases hj
      have h1 := hR.ar (by omega) hid hlv
      rw [hkd] at h1
      exact h1
    | succ j => simp at hj
  exact va_alen (D := gD G) (cl := cls) hx hb hK.1 hP 0 0 rfl (ty := .int) rfl rfl hd (kk p e s m args below meth c H locs ls C hR hL hl)
/-- the static row MOST_TOLD -/
theorem r_told {idx : Nat} (hd : decode cc pc = .ok (.getstatic idx, 3)) (hw : Cond.fieldLink own idx RX8 "MOST_TOLD" "[I" ∈ tb) (kk : Ev l G own cc nL ret rm E k n V (pc + 3) ll (.ref (gM G) :: st) Q) : Ev l G own cc nL ret rm E k n V pc ll st Q := by
  intro p e s m args below meth c H locs ls C hR hL hl
  obtain ⟨hx, hb, hr, hml, ho, hts, hlk, hK⟩ := And.intro True.intro C |>.2
  obtain ⟨cf, kf, fi, f, a, cell, h1, h2, h3, h4, h5, h6, h7, h8⟩ := hK.2.2.2.2.2.2.1
  exact W.gets hx hb ho (hts _ hw) h1 h2 h3 h4 (by rw [hR.1 a (Array.getElem?_eq_some_iff.mp h5).1]; exact h5) (fun e => by rw [e] at h6; cases h6) h7 rfl hd (kk p e s m args below meth c H locs ls C hR hL hl)
theorem r_toldlen (hd : decode cc pc = .ok (.arraylength, 1)) (kk : Ev l G own cc nL ret rm E k n V (pc + 1) ll (.int 4 :: st) Q) : Ev l G own cc nL ret rm E k n V pc ll (.ref (gM G) :: st) Q := by
  intro p e s m args below meth c H locs ls C hR hL hl
  obtain ⟨hx, hb, hr, hml, ho, hts, hlk, hK⟩ := And.intro True.intro C |>.2
  obtain ⟨cell, h1, h2, h3, h4, h5, h6, h7⟩ := hK.2.2.2.2.2.2.2.1
  exact W.alen (n := 4) hx hb (by rw [hR.1 _ (Array.getElem?_eq_some_iff.mp h1).1]; exact h1) h2 h5 rfl rfl hd (kk p e s m args below meth c H locs ls C hR hL hl)
theorem r_toldat {x : Int32} (hd : decode cc pc = .ok (.iaload, 1)) (hin : vp_in x 4) (kk : Ev l G own cc nL ret rm E k n V (pc + 1) ll (.int (mTold.getD x.toNatClampNeg 0) :: st) Q) : Ev l G own cc nL ret rm E k n V pc ll (.int x :: .ref (gM G) :: st) Q := by
  intro p e s m args below meth c H locs ls C hR hL hl
  obtain ⟨hx, hb, hr, hml, ho, hts, hlk, hK⟩ := And.intro True.intro C |>.2
  obtain ⟨cell, h1, h2, h3, h4, h5, h6, h7⟩ := hK.2.2.2.2.2.2.2.1
  have hlt : x.toNatClampNeg < 4 := Nat.not_le.mp fun q => hin (Or.inr q)
  exact W.iald hx hb (by rw [hR.1 _ (Array.getElem?_eq_some_iff.mp h1).1]; exact h1) h2 h3 (fun q => hin (q.imp id (fun z => Nat.le_trans h4 z))) (h6 _ hlt) rfl rfl hd (kk p e s m args below meth c H locs ls C hR hL hl)
theorem r_ldcS {idx : Nat} {tx : String} {a : Nat} (hd : decode cc pc = .ok (.ldc idx, 2)) (hz : ∀ U, BF G U → vk_R own idx tx a U) (kk : Ev l G own cc nL ret rm E k n V (pc + 2) ll (.ref a :: st) Q) : Ev l G own cc nL ret rm E k n V pc ll st Q := by
  intro p e s m args below meth c H locs ls C hR hL hl
  obtain ⟨hx, hb, hr, hml, ho, hts, hlk, hK⟩ := And.intro True.intro C |>.2
  exact va_ldcS hx hb ho (hz s hK.2) hd (kk p e s m args below meth c H locs ls C hR hL hl)
theorem r_iret {v : Int32} (hd : decode cc pc = .ok (.ireturn, 1)) (hrt : ret = some .int) (hkn : k ≤ rm.cells ∧ n ≤ rm.slots) (hq : Q (some (.int v)) E V) : Ev l G own cc nL ret rm E k n V pc ll [.int v] Q := by
  intro p e s m args below meth c H locs ls C hR hL hl
  obtain ⟨hx, hb, hr, hml, ho, hts, hlk, hK⟩ := And.intro True.intro C |>.2
  subst hrt
  exact W.widen hkn.1 hkn.2 (W.iret hx hb hr (fun t ht hW => ⟨_, _, _, rfl, hq, by rw [ht]; exact hR⟩) hL hd)
theorem r_zret {v : Int32} {ty : FieldType} (hd : decode cc pc = .ok (.ireturn, 1)) (hrt : ret = some ty) (hn : narrow ty (.int v) = .int v) (hkn : k ≤ rm.cells ∧ n ≤ rm.slots) (hq : Q (some (.int v)) E V) : Ev l G own cc nL ret rm E k n V pc ll [.int v] Q := by
  intro p e s m args below meth c H locs ls C hR hL hl
  obtain ⟨hx, hb, hr, hml, ho, hts, hlk, hK⟩ := And.intro True.intro C |>.2
  subst hrt
  exact W.widen hkn.1 hkn.2 (W.zret hx hb hr hn (fun t ht hW => ⟨_, _, _, rfl, hq, by rw [ht]; exact hR⟩) hL hd)
theorem r_vret (hd : decode cc pc = .ok (.return_, 1)) (hrt : ret = none) (hkn : k ≤ rm.cells ∧ n ≤ rm.slots) (hq : Q none E V) : Ev l G own cc nL ret rm E k n V pc ll [] Q := by
  intro p e s m args below meth c H locs ls C hR hL hl
  obtain ⟨hx, hb, hr, hml, ho, hts, hlk, hK⟩ := And.intro True.intro C |>.2
  subst hrt
  exact W.widen hkn.1 hkn.2 (W.vret hx hb hr (fun t ht hW => ⟨_, _, _, rfl, hq, by rw [ht]; exact hR⟩) hL hd)
theorem r_aret {v : Value} {rt : FieldType} (hd : decode cc pc = .ok (.areturn, 1)) (hrt : ret = some rt) (hrt2 : (∃ n, rt = .object n) ∨ ∃ t, rt = .array t) (hv : rl v) (hkn : k ≤ rm.cells ∧ n ≤ rm.slots) (hq : Q (some v) E V) : Ev l G own cc nL ret rm E k n V pc ll [v] Q := by
  intro p e s m args below meth c H locs ls C hR hL hl
  obtain ⟨hx, hb, hr, hml, ho, hts, hlk, hK⟩ := And.intro True.intro C |>.2
  subst hrt
  exact W.widen hkn.1 hkn.2 (W.aret hx hb hr hrt2 hv (fun t ht hW => ⟨_, _, _, rfl, hq, by rw [ht]; exact hR⟩) hL hd)
/-- what the tables say of an instance method that is called, of a static one -/
def MV (y : MethodName) (cy : ByteArray) (nY : Nat) (ry : Option FieldType) (na : Nat) : Prop := Cond.code y cy nY ry ∈ tb ∧ Cond.instanceMethod y ∈ tb ∧ Cond.selects y.cls y y ∈ tb ∧ Cond.initialized y.cls ∈ tb ∧ y.cls ≠ "java/lang/invoke/MethodHandle" ∧ y.cls ≠ "java/lang/invoke/VarHandle" ∧ (parseMethodDescriptor y.desc).map (fun d => d.parameters.length) = some na
def MS (y : MethodName) (cy : ByteArray) (nY : Nat) (ry : Option FieldType) (na : Nat) : Prop := Cond.code y cy nY ry ∈ tb ∧ Cond.static y ∈ tb ∧ Cond.initialized y.cls ∈ tb ∧ y.cls ≠ "java/lang/invoke/MethodHandle" ∧ y.cls ≠ "java/lang/invoke/VarHandle" ∧ (parseMethodDescriptor y.desc).map (fun d => d.parameters.length) = some na
theorem blind (as : List Value) : FrameBlind (va_Pc as (fun U => KU G U ∧ RepH G E V U.heap)) := fun a U g mk h => ⟨h.1, h.2.1.same (s := U) rfl, h.2.2⟩
theorem r_callV {idx ci i na nY : Nat} {y : MethodName} {cy : ByteArray} {ry : Option FieldType} {rY : Room} {As rest : List Value} {Qc : Option Value → Et → Vt → Prop} (hd : decode cc pc = .ok (.invokevirtual idx, 3)) (hm : MV y cy nY ry na) (hlink : Cond.methodLink own idx y ∈ tb) (hcl : ∃ T N, cls[ci]? = some (y.cls, T, N)) (hlv : eL E ci i) (hrm : rY.frames + 1 ≤ rm.frames ∧ 8 + (nY + 11) + rY.locals ≤ rm.locals) (hcs : k + rY.cells ≤ rm.cells ∧ n + rY.slots ≤ rm.slots) (hna : As.length = na) (hst : st = As.reverse ++ .ref (eA E ci i) :: rest) (hcat : (rest.map fun v => v.category).sum ≤ 8)
    (hC : Cl l G y cy nY ry rY E V (.ref (eA E ci i) :: As) Qc) (kk : ∀ r E' V', Qc r E' V' → Ev l G own cc nL ret rm E' (k + rY.cells) (n + rY.slots) V' (pc + 3) ll (r.toList ++ rest) Q) : Ev l G own cc nL ret rm E k n V pc ll st Q := by
  intro p e s m args below meth c H locs ls C hR hL hl
  obtain ⟨hx, hb, hr, hml, ho, hts, hlk, hK⟩ := And.intro True.intro C |>.2
  obtain ⟨m1, m2, m3, m4, m5, m6, m7⟩ := hm
  obtain ⟨T, N, hq⟩ := hcl
  have hc : ci < 100 := Nat.lt_of_lt_of_le (List.getElem?_eq_some_iff.mp hq).1 (by decide)
  subst hst
  have hrecv : ∃ cellB : Cell, H[eA E ci i]? = some cellB ∧ cellB.vm.isStatics = false ∧ s.vm.findClass y.cls = some cellB.cls := by
    obtain ⟨q', h1, cell, g1, g2, g3, -⟩ := hR.ob hc hlv
    exact ⟨cell, g1, by rw [g3]; rfl, by rw [g2]; exact (hK.1.1 ci _ hq).2.1⟩
  have hcb : CallB rm s args own idx y cy nY ry (Cond.code y cy nY ry :: tb) rY rY.cells rY.slots na := callB_of na hts (tb_GoodIn m1) rfl rfl rfl (hts _ m4) (hts _ hlink) ⟨m5, m6, m7⟩ hrm
  have hrun := va_runV (e := e) (below := below) (meth := meth) (locs := locs) (g := F0 m pc ls (As.reverse ++ .ref (eA E ci i) :: rest)) (rest := rest) ⟨hx, hb, hml, ho, hts⟩ hC ⟨hcb, hts _ m2, hts _ m3⟩ ⟨blind _, hrecv, fun U hU hW => ⟨rfl, hK.warm hW, by rw [hU]; exact hR⟩⟩ rfl hna hl.1 rfl (lv_room hcat) hd hcs
  intro T0 hT0 X
  obtain ⟨v, st₀, t, T', L, z0, X', zL, z1, z2, ⟨r, E', V', w1, w2, w3⟩, z3⟩ := hrun T0 hT0 X
  cases w1
  obtain ⟨t2, a1, b1⟩ := kk v E' V' w2 p e s m args below meth c T'.heap (locs ++ L) ls C (by rw [z1]; exact w3) (fun q hq' => by
    rcases List.mem_append.mp hq' with h | h
    · exact hL q h
    · exact zL q h) hl T' rfl X'
  exact ⟨t2, z3 t2 a1, b1⟩
theorem r_callS {idx na nY : Nat} {y : MethodName} {cy : ByteArray} {ry : Option FieldType} {rY : Room} {As rest : List Value} {Qc : Option Value → Et → Vt → Prop} (hd : decode cc pc = .ok (.invokestatic idx, 3)) (hm : MS y cy nY ry na) (hlink : Cond.methodLink own idx y ∈ tb) (hrm : rY.frames + 1 ≤ rm.frames ∧ 8 + (nY + 11) + rY.locals ≤ rm.locals) (hcs : k + rY.cells ≤ rm.cells ∧ n + rY.slots ≤ rm.slots) (hna : As.length = na) (hst : st = As.reverse ++ rest) (hcat : (rest.map fun v => v.category).sum ≤ 8)
    (hC : Cl l G y cy nY ry rY E V As Qc) (kk : ∀ r E' V', Qc r E' V' → Ev l G own cc nL ret rm E' (k + rY.cells) (n + rY.slots) V' (pc + 3) ll (r.toList ++ rest) Q) : Ev l G own cc nL ret rm E k n V pc ll st Q := by
  intro p e s m args below meth c H locs ls C hR hL hl
  obtain ⟨hx, hb, hr, hml, ho, hts, hlk, hK⟩ := And.intro True.intro C |>.2
  obtain ⟨m1, m2, m4, m5, m6, m7⟩ := hm
  subst hst
  have hcb : CallB rm s args own idx y cy nY ry (Cond.code y cy nY ry :: tb) rY rY.cells rY.slots na := callB_of na hts (tb_GoodIn m1) rfl rfl rfl (hts _ m4) (hts _ hlink) ⟨m5, m6, m7⟩ hrm
  have hrun := va_runS (e := e) (below := below) (meth := meth) (locs := locs) (g := F0 m pc ls (As.reverse ++ rest)) (rest := rest) ⟨hx, hb, hml, ho, hts⟩ hC ⟨hcb, hts _ m2⟩ ⟨blind _, fun U hU hW => ⟨rfl, hK.warm hW, by rw [hU]; exact hR⟩⟩ rfl hna hl.1 rfl (lv_room hcat) hd hcs
  intro T0 hT0 X
  obtain ⟨v, st₀, t, T', L, z0, X', zL, z1, z2, ⟨r, E', V', w1, w2, w3⟩, z3⟩ := hrun T0 hT0 X
  cases w1
  obtain ⟨t2, a1, b1⟩ := kk v E' V' w2 p e s m args below meth c T'.heap (locs ++ L) ls C (by rw [z1]; exact w3) (fun q hq' => by
    rcases List.mem_append.mp hq' with h | h
    · exact hL q h
    · exact zL q h) hl T' rfl X'
  exact ⟨t2, z3 t2 a1, b1⟩
end Rows

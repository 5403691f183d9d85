/-! THE LAW'S OWN ROWS -/
abbrev LR : Option FieldType := ret
def EvL (l : Launch) (G : Gt) (bs Ls : Nat) (xs : Nat → Int32) (E : Et) (k n : Nat) (V : Vt) (pc : Nat) (ll : List (Nat × Value)) (st : List Value) (Q : Option Value → Et → Vt → Prop) : Prop :=
  ∀ (p : Program) (e : Env) (s : State) (m : MethodId) (args : Array Value) (below : List Frame) (meth : Method) (c : Code) (H : Heap) (locs : List Loc) (ls : Array Slot),
    Cx G RL cL_law 4 LR p s m args meth c → (va_X bs Ls xs s (gB G) ∧ bs < (gB G).size) → RepH G E V H → (∀ q ∈ locs, gA G q.base) → lv_has ls 4 ll →
    W p l e room_1 s m args below meth c H locs k n (MQ below (Qo G Q) args s room_1.cells room_1.slots (gA G)) (F0 m pc ls st)
section LRows
variable {l : Launch} {G : Gt} {bs Ls : Nat} {xs : Nat → Int32} {E : Et} {k n : Nat} {V : Vt} {pc : Nat} {ll : List (Nat × Value)} {st : List Value} {Q : Option Value → Et → Vt → Prop}
theorem l_loc {ll' : List (Nat × Value)} (ks : List Nat) (h : lv_pick ll ks = ll') (kk : EvL l G bs Ls xs E k n V pc ll' st Q) : EvL l G bs Ls xs E k n V pc ll st Q :=
  fun p e s m args below meth c H locs ls C hXs hR hL hl => kk p e s m args below meth c H locs ls C hXs hR hL (lv_sub hl ks h)
theorem l_widen {k' n' : Nat} (hk : k ≤ k') (hn : n ≤ n') (kk : EvL l G bs Ls xs E k' n' V pc ll st Q) : EvL l G bs Ls xs E k n V pc ll st Q :=
  fun p e s m args below meth c H locs ls C hXs hR hL hl => W.widen hk hn (kk p e s m args below meth c H locs ls C hXs hR hL hl)
theorem l_sld {x : Int32} (hd : decode cL_law pc = .ok (.iaload, 1)) (hin : vp_in x Ls) (kk : EvL l G bs Ls xs E k n V (pc + 1) ll (.int (xs x.toNatClampNeg) :: st) Q) : EvL l G bs Ls xs E k n V pc ll (.int x :: .ref bs :: st) Q := by
  intro p e s m args below meth c H locs ls C hXs hR hL hl
  obtain ⟨hx, hb, hr, hml, ho, hts, hlk, hK⟩ := And.intro True.intro C |>.2
  obtain ⟨⟨scr, h1, h2, h3, h4, h5⟩, hbl⟩ := And.intro True.intro hXs |>.2
  have hlt : x.toNatClampNeg < Ls := Nat.not_le.mp fun q => hin (Or.inr q)
  exact W.iald (v := .int (xs x.toNatClampNeg)) hx hb (by rw [hR.1 bs hbl]; exact h1) h2 h3 (by rw [h4]; exact hin) (h5 _ hlt) rfl rfl hd (kk p e s m args below meth c H locs ls C hXs hR hL hl)
theorem l_slen (hd : decode cL_law pc = .ok (.arraylength, 1)) (kk : EvL l G bs Ls xs E k n V (pc + 1) ll (.int (nI Ls) :: st) Q) : EvL l G bs Ls xs E k n V pc ll (.ref bs :: st) Q := by
  intro p e s m args below meth c H locs ls C hXs hR hL hl
  obtain ⟨hx, hb, hr, hml, ho, hts, hlk, hK⟩ := And.intro True.intro C |>.2
  obtain ⟨⟨scr, h1, h2, h3, h4, h5⟩, hbl⟩ := And.intro True.intro hXs |>.2
  exact W.alen (n := nI Ls) hx hb (by rw [hR.1 bs hbl]; exact h1) h2 (by rw [h4] <;> rfl) rfl rfl hd (kk p e s m args below meth c H locs ls C hXs hR hL hl)
theorem l_iconst {z : Int} {v : Int32} (hd : decode cL_law pc = .ok (.iconst z, 1)) (hv : Int32.ofInt z = v) (kk : EvL l G bs Ls xs E k n V (pc + 1) ll (.int v :: st) Q) : EvL l G bs Ls xs E k n V pc ll st Q := by
  intro p e s m args below meth c H locs ls C hXs hR hL hl
  obtain ⟨hx, hb, hr, hml, ho, hts, hlk, hK⟩ := And.intro True.intro C |>.2
  exact lv_iconst hx hb hd hv (kk p e s m args below meth c H locs ls C hXs hR hL hl)
theorem l_bipush {z : Int} {v : Int32} (hd : decode cL_law pc = .ok (.bipush z, 2)) (hv : (Int8.ofInt z).toInt32 = v) (kk : EvL l G bs Ls xs E k n V (pc + 2) ll (.int v :: st) Q) : EvL l G bs Ls xs E k n V pc ll st Q := by
  intro p e s m args below meth c H locs ls C hXs hR hL hl
  obtain ⟨hx, hb, hr, hml, ho, hts, hlk, hK⟩ := And.intro True.intro C |>.2
  exact lv_bipush hx hb hd hv (kk p e s m args below meth c H locs ls C hXs hR hL hl)
theorem l_iload_n {j : Fin 4} {x : Int32} (hd : decode cL_law pc = .ok (.iload_n j, 1)) (hv : lk ll j.val = some (.int x)) (kk : EvL l G bs Ls xs E k n V (pc + 1) ll (.int x :: st) Q) : EvL l G bs Ls xs E k n V pc ll st Q := by
  intro p e s m args below meth c H locs ls C hXs hR hL hl
  obtain ⟨hx, hb, hr, hml, ho, hts, hlk, hK⟩ := And.intro True.intro C |>.2
  exact lv_iload_n hx hb hd rfl (lk_at hl hv) (kk p e s m args below meth c H locs ls C hXs hR hL hl)
theorem l_aload_n {j : Fin 4} {v : Value} (hd : decode cL_law pc = .ok (.aload_n j, 1)) (hv : lk ll j.val = some v) (hr : rl v) (kk : EvL l G bs Ls xs E k n V (pc + 1) ll (v :: st) Q) : EvL l G bs Ls xs E k n V pc ll st Q := by
  intro p e s m args below meth c H locs ls C hXs hR hL hl
  obtain ⟨hx, hb, -, hml, ho, hts, hlk, hK⟩ := And.intro True.intro C |>.2
  rcases hr with rfl | ⟨a, rfl⟩
  · exact lv_aload_nN hx hb hd rfl (lk_at hl hv) (kk p e s m args below meth c H locs ls C hXs hR hL hl)
  · exact lv_aload_n hx hb hd rfl (lk_at hl hv) (kk p e s m args below meth c H locs ls C hXs hR hL hl)
theorem l_istore_n {j : Fin 4} {x : Int32} (hd : decode cL_law pc = .ok (.istore_n j, 1)) (hj : j.val < 4) (kk : EvL l G bs Ls xs E k n V (pc + 1) (sto j.val (Value.int x) ll) st Q) : EvL l G bs Ls xs E k n V pc ll (Value.int x :: st) Q := by
  intro p e s m args below meth c H locs ls C hXs hR hL hl
  obtain ⟨hx, hb, hr, hml, ho, hts, hlk, hK⟩ := And.intro True.intro C |>.2
  exact lv_istore_n (lv' := (j.val, Value.int x) :: ll.filter (fst1 j.val)) hx hb hd rfl hl hj rfl (fun ls' hl' => kk p e s m args below meth c H locs ls' C hXs hR hL (sto_has hl'))
theorem l_iinc {j : Nat} {z : Int} {x v : Int32} (hd : decode cL_law pc = .ok (.iinc j z, 3)) (hv : lk ll j = some (.int x)) (hz : Int32.ofInt z = v) (hj : j < 4) (kk : EvL l G bs Ls xs E k n V (pc + 3) (sto j (.int (x + v)) ll) st Q) : EvL l G bs Ls xs E k n V pc ll st Q := by
  intro p e s m args below meth c H locs ls C hXs hR hL hl
  obtain ⟨hx, hb, hr, hml, ho, hts, hlk, hK⟩ := And.intro True.intro C |>.2
  subst hz
  obtain ⟨kq, hkq⟩ := List.getElem?_of_mem (lk_mem ll hv)
  exact lv_iinc (lv' := (j, Value.int (x + Int32.ofInt z)) :: ll.filter (fst1 j)) hx hb hd hl (k := kq) hkq rfl hj rfl (fun ls' hl' => kk p e s m args below meth c H locs ls' C hXs hR hL (sto_has hl'))
theorem l_iadd {x y : Int32} (hd : decode cL_law pc = .ok (.iadd, 1)) (kk : EvL l G bs Ls xs E k n V (pc + 1) ll (.int (x + y) :: st) Q) : EvL l G bs Ls xs E k n V pc ll (.int y :: .int x :: st) Q := by
  intro p e s m args below meth c H locs ls C hXs hR hL hl
  obtain ⟨hx, hb, hr, hml, ho, hts, hlk, hK⟩ := And.intro True.intro C |>.2
  exact lv_iadd hx hb hd (kk p e s m args below meth c H locs ls C hXs hR hL hl)
theorem l_isub {x y : Int32} (hd : decode cL_law pc = .ok (.isub, 1)) (kk : EvL l G bs Ls xs E k n V (pc + 1) ll (.int (x - y) :: st) Q) : EvL l G bs Ls xs E k n V pc ll (.int y :: .int x :: st) Q := by
  intro p e s m args below meth c H locs ls C hXs hR hL hl
  obtain ⟨hx, hb, hr, hml, ho, hts, hlk, hK⟩ := And.intro True.intro C |>.2
  exact lv_isub hx hb hd (kk p e s m args below meth c H locs ls C hXs hR hL hl)
theorem l_iand {x y : Int32} (hd : decode cL_law pc = .ok (.iand, 1)) (kk : EvL l G bs Ls xs E k n V (pc + 1) ll (.int (x &&& y) :: st) Q) : EvL l G bs Ls xs E k n V pc ll (.int y :: .int x :: st) Q := by
  intro p e s m args below meth c H locs ls C hXs hR hL hl
  obtain ⟨hx, hb, hr, hml, ho, hts, hlk, hK⟩ := And.intro True.intro C |>.2
  exact lv_iand hx hb hd (kk p e s m args below meth c H locs ls C hXs hR hL hl)
theorem l_icmp_eq {x y : Int32} {off : Int} (tgt : Nat) (hd : decode cL_law pc = .ok (.if_icmp .eq off, 3)) (ht : (pc : Int) + off = (tgt : Int)) (kt : x = y → EvL l G bs Ls xs E k n V tgt ll st Q) (kf : ¬ x = y → EvL l G bs Ls xs E k n V (pc + 3) ll st Q) : EvL l G bs Ls xs E k n V pc ll (.int y :: .int x :: st) Q := by
  intro p e s m args below meth c H locs ls C hXs hR hL hl
  obtain ⟨hx, hb, hr, hml, ho, hts, hlk, hK⟩ := And.intro True.intro C |>.2
  exact lv_icmp_eq hx hb hd ht (fun q => kt q p e s m args below meth c H locs ls C hXs hR hL hl) (fun q => kf q p e s m args below meth c H locs ls C hXs hR hL hl)
theorem l_icmp_gt {x y : Int32} {off : Int} (tgt : Nat) (hd : decode cL_law pc = .ok (.if_icmp .gt off, 3)) (ht : (pc : Int) + off = (tgt : Int)) (kt : y < x → EvL l G bs Ls xs E k n V tgt ll st Q) (kf : ¬ y < x → EvL l G bs Ls xs E k n V (pc + 3) ll st Q) : EvL l G bs Ls xs E k n V pc ll (.int y :: .int x :: st) Q := by
  intro p e s m args below meth c H locs ls C hXs hR hL hl
  obtain ⟨hx, hb, hr, hml, ho, hts, hlk, hK⟩ := And.intro True.intro C |>.2
  exact lv_icmp_gt hx hb hd ht (fun q => kt q p e s m args below meth c H locs ls C hXs hR hL hl) (fun q => kf q p e s m args below meth c H locs ls C hXs hR hL hl)
theorem l_goto {off : Int} (tgt : Nat) (hd : decode cL_law pc = .ok (.goto off, 3)) (ht : (pc : Int) + off = (tgt : Int)) (kk : EvL l G bs Ls xs E k n V tgt ll st Q) : EvL l G bs Ls xs E k n V pc ll st Q := by
  intro p e s m args below meth c H locs ls C hXs hR hL hl
  obtain ⟨hx, hb, hr, hml, ho, hts, hlk, hK⟩ := And.intro True.intro C |>.2
  exact lv_goto hx hb hd ht (kk p e s m args below meth c H locs ls C hXs hR hL hl)
theorem l_tIn {dflt lo hi : Int} {offs : Array Int} {len : Nat} {x xv : Int32} {off : Int} (tgt : Nat) (hd : decode cL_law pc = .ok (.tableswitch dflt lo hi offs, len)) (he : x = xv) (h1 : ¬ xv.toInt < lo) (h2 : ¬ hi < xv.toInt) (hof : offs[(xv.toInt - lo).toNat]? = some off) (ht : (pc : Int) + off = (tgt : Int)) (kk : EvL l G bs Ls xs E k n V tgt ll st Q) : EvL l G bs Ls xs E k n V pc ll (.int x :: st) Q := by
  intro p e s m args below meth c H locs ls C hXs hR hL hl
  obtain ⟨hx, hb, hr, hml, ho, hts, hlk, hK⟩ := And.intro True.intro C |>.2
  subst he
  exact lv_tableIn hx hb hd h1 h2 hof ht (kk p e s m args below meth c H locs ls C hXs hR hL hl)
theorem l_tOut {dflt lo hi : Int} {offs : Array Int} {len : Nat} {x : Int32} (tgt : Nat) (hd : decode cL_law pc = .ok (.tableswitch dflt lo hi offs, len)) (h : x.toInt < lo ∨ hi < x.toInt) (ht : (pc : Int) + dflt = (tgt : Int)) (kk : EvL l G bs Ls xs E k n V tgt ll st Q) : EvL l G bs Ls xs E k n V pc ll (.int x :: st) Q := by
  intro p e s m args below meth c H locs ls C hXs hR hL hl
  obtain ⟨hx, hb, hr, hml, ho, hts, hlk, hK⟩ := And.intro True.intro C |>.2
  exact lv_tableOut hx hb hd h ht (kk p e s m args below meth c H locs ls C hXs hR hL hl)
theorem l_zret {v : Int32} {ty : FieldType} (hd : decode cL_law pc = .ok (.ireturn, 1)) (hrt : LR = some ty) (hn : narrow ty (.int v) = .int v) (hkn : k ≤ room_1.cells ∧ n ≤ room_1.slots) (hq : Q (some (.int v)) E V) : EvL l G bs Ls xs E k n V pc ll [.int v] Q := by
  intro p e s m args below meth c H locs ls C hXs hR hL hl
  obtain ⟨hx, hb, hr, hml, ho, hts, hlk, hK⟩ := And.intro True.intro C |>.2
  rw [hrt] at hr
  exact W.widen hkn.1 hkn.2 (W.zret hx hb hr hn (fun t ht hW => ⟨_, _, _, rfl, hq, by rw [ht]; exact hR⟩) hL hd)
theorem l_callV {idx ci i na nY : Nat} {y : MethodName} {cy : ByteArray} {ry : Option FieldType} {rY : Room} {As rest : List Value} {Qc : Option Value → Et → Vt → Prop} (hd : decode cL_law pc = .ok (.invokevirtual idx, 3)) (hm : MV y cy nY ry na) (hlink : Cond.methodLink RL idx y ∈ tb) (hcl : ∃ T N, cls[ci]? = some (y.cls, T, N)) (hlv : eL E ci i) (hrm : rY.frames + 1 ≤ room_1.frames ∧ 8 + (nY + 11) + rY.locals ≤ room_1.locals) (hcs : k + rY.cells ≤ room_1.cells ∧ n + rY.slots ≤ room_1.slots) (hna : As.length = na) (hst : st = As.reverse ++ .ref (eA E ci i) :: rest) (hcat : (rest.map fun v => v.category).sum ≤ 8)
    (hC : Cl l G y cy nY ry rY E V (.ref (eA E ci i) :: As) Qc) (kk : ∀ r E' V', Qc r E' V' → EvL l G bs Ls xs E' (k + rY.cells) (n + rY.slots) V' (pc + 3) ll (r.toList ++ rest) Q) : EvL l G bs Ls xs E k n V pc ll st Q := by
  intro p e s m args below meth c H locs ls C hXs hR hL hl
  obtain ⟨hx, hb, hr, hml, ho, hts, hlk, hK⟩ := And.intro True.intro C |>.2
  obtain ⟨m1, m2, m3, m4, m5, m6, m7⟩ := hm
  obtain ⟨T, N, hq⟩ := hcl
  have hc : ci < 100 := Nat.lt_of_lt_of_le (List.getElem?_eq_some_iff.mp hq).1 (by decide)
  subst hst
  have hrecv : ∃ cellB : Cell, H[eA E ci i]? = some cellB ∧ cellB.vm.isStatics = false ∧ s.vm.findClass y.cls = some cellB.cls := by
    obtain ⟨q', h1, cell, g1, g2, g3, -⟩ := hR.ob hc hlv
    exact ⟨cell, g1, by rw [g3]; rfl, by rw [g2]; exact (hK.1.1 ci _ hq).2.1⟩
  have hcb : CallB room_1 s args RL idx y cy nY ry (Cond.code y cy nY ry :: tb) rY rY.cells rY.slots na := callB_of na hts (tb_GoodIn m1) rfl rfl rfl (hts _ m4) (hts _ hlink) ⟨m5, m6, m7⟩ hrm
  have hrun := va_runV (e := e) (below := below) (meth := meth) (locs := locs) (g := F0 m pc ls (As.reverse ++ .ref (eA E ci i) :: rest)) (rest := rest) ⟨hx, hb, hml, ho, hts⟩ hC ⟨hcb, hts _ m2, hts _ m3⟩ ⟨blind _, hrecv, fun U hU hW => ⟨rfl, hK.warm hW, by rw [hU]; exact hR⟩⟩ rfl hna hl.1 rfl (lv_room hcat) hd hcs
  intro T0 hT0 X
  obtain ⟨v, st₀, t, T', L, z0, X', zL, z1, z2, ⟨r, E', V', w1, w2, w3⟩, z3⟩ := hrun T0 hT0 X
  cases w1
  obtain ⟨t2, a1, b1⟩ := kk v E' V' w2 p e s m args below meth c T'.heap (locs ++ L) ls C hXs (by rw [z1]; exact w3) (fun q hq' => by
    rcases List.mem_append.mp hq' with h | h
    · exact hL q h
    · exact zL q h) hl T' rfl X'
  exact ⟨t2, z3 t2 a1, b1⟩
end LRows

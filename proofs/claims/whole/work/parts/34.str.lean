/-! a constant String's indexOf and length -/
theorem kt_RJ0_38 : Cond.fieldLink RJ0 38 RJ0 "COMPACT_STRINGS" "Z" ∈ tb := tb_in (List.mem_of_getElem? (i := 174) (by decide +kernel)) rfl
theorem kt_RJ0_9 : Cond.fieldLink RJ0 9 RJ0 "value" "[B" ∈ tb := tb_in (List.mem_of_getElem? (i := 1147) (by decide +kernel)) rfl
theorem kt_RJ0_15 : Cond.fieldLink RJ0 15 RJ0 "coder" "B" ∈ tb := tb_in (List.mem_of_getElem? (i := 1148) (by decide +kernel)) rfl
section StrRows
variable {l : Launch} {G : Gt} {own : String} {cc : ByteArray} {nL : Nat} {ret : Option FieldType} {rm : Room} {E : Et} {k n : Nat} {V : Vt} {pc : Nat} {ll : List (Nat × Value)} {st : List Value} {Q : Option Value → Et → Vt → Prop} {w : Nat}
theorem r_compact {idx : Nat} (hd : decode cc pc = .ok (.getstatic idx, 3)) (hw : Cond.fieldLink own idx RJ0 "COMPACT_STRINGS" "Z" ∈ tb) (kk : Ev l G own cc nL ret rm E k n V (pc + 3) ll (.int 1 :: st) Q) : Ev l G own cc nL ret rm E k n V pc ll st Q := by
  intro p e s m args below meth c H locs ls C hR hL hl
  obtain ⟨hx, hb, hr, hml, ho, hts, hlk, hK⟩ := And.intro True.intro C |>.2
  obtain ⟨cf, kf, fi, f, a, cell, h1, h2, h3, h4, h5, h6, h7, h8⟩ := hK.2.2.2.2.2.2.2.2.1
  exact W.gets hx hb ho (hts _ hw) h1 h2 h3 h4 (by rw [hR.1 a (Array.getElem?_eq_some_iff.mp h5).1]; exact h5) (fun e => by rw [e] at h6; cases h6) h7 rfl hd (kk p e s m args below meth c H locs ls C hR hL hl)
theorem r_scoder {idx : Nat} (hw2 : w < 2) (hd : decode cc pc = .ok (.getfield idx, 3)) (hw : Cond.fieldLink own idx RJ0 "coder" "B" ∈ tb) (kk : Ev l G own cc nL ret rm E k n V (pc + 3) ll (.int 0 :: st) Q) : Ev l G own cc nL ret rm E k n V pc ll (.ref (gK G w) :: st) Q := by
  intro p e s m args below meth c H locs ls C hR hL hl
  obtain ⟨hx, hb, hr, hml, ho, hts, hlk, hK⟩ := And.intro True.intro C |>.2
  obtain ⟨cf, kf, fi, f, cell, h1, h2, h3, h4, h5, h6⟩ := (hK.2.2.2.2.2.1.1 w hw2).2.1
  exact W.getf hx hb ho (hts _ hw) h1 h2 (by rw [hR.1 _ (Array.getElem?_eq_some_iff.mp h3).1]; exact h3) h4 (v := .int 0) h5 rfl rfl hd (kk p e s m args below meth c H locs ls C hR hL hl)
theorem r_svalue {idx : Nat} (hw2 : w < 2) (hd : decode cc pc = .ok (.getfield idx, 3)) (hw : Cond.fieldLink own idx RJ0 "value" "[B" ∈ tb) (kk : Ev l G own cc nL ret rm E k n V (pc + 3) ll (.ref (gV G w) :: st) Q) : Ev l G own cc nL ret rm E k n V pc ll (.ref (gK G w) :: st) Q := by
  intro p e s m args below meth c H locs ls C hR hL hl
  obtain ⟨hx, hb, hr, hml, ho, hts, hlk, hK⟩ := And.intro True.intro C |>.2
  obtain ⟨cf, kf, fi, f, cell, h1, h2, h3, h4, h5, h6⟩ := (hK.2.2.2.2.2.1.1 w hw2).2.2.1
  exact W.getf hx hb ho (hts _ hw) h1 h2 (by rw [hR.1 _ (Array.getElem?_eq_some_iff.mp h3).1]; exact h3) h4 (v := .ref (gV G w)) h5 rfl rfl hd (kk p e s m args below meth c H locs ls C hR hL hl)
theorem r_slen (hw2 : w < 2) (hd : decode cc pc = .ok (.arraylength, 1)) (kk : Ev l G own cc nL ret rm E k n V (pc + 1) ll (.int (nI (sLen.getD w 0)) :: st) Q) : Ev l G own cc nL ret rm E k n V pc ll (.ref (gV G w) :: st) Q := by
  intro p e s m args below meth c H locs ls C hR hL hl
  obtain ⟨hx, hb, hr, hml, ho, hts, hlk, hK⟩ := And.intro True.intro C |>.2
  obtain ⟨cell, h1, h2, h3, h4, h5, h6, h7⟩ := (hK.2.2.2.2.2.1.1 w hw2).2.2.2
  exact W.alen (n := nI (sLen.getD w 0)) hx hb (by rw [hR.1 _ (Array.getElem?_eq_some_iff.mp h1).1]; exact h1) h2 h5 rfl rfl hd (kk p e s m args below meth c H locs ls C hR hL hl)
theorem r_sbal {x : Int32} (hw2 : w < 2) (hd : decode cc pc = .ok (.baload, 1)) (hin : vp_in x (sLen.getD w 0)) (kk : Ev l G own cc nL ret rm E k n V (pc + 1) ll (.int ((sByt.getD w []).getD x.toNatClampNeg 0) :: st) Q) : Ev l G own cc nL ret rm E k n V pc ll (.int x :: .ref (gV G w) :: st) Q := by
  intro p e s m args below meth c H locs ls C hR hL hl
  obtain ⟨hx, hb, hr, hml, ho, hts, hlk, hK⟩ := And.intro True.intro C |>.2
  obtain ⟨cell, h1, h2, h3, h4, h5, h6, h7⟩ := (hK.2.2.2.2.2.1.1 w hw2).2.2.2
  have hlt : x.toNatClampNeg < sLen.getD w 0 := Nat.not_le.mp fun q => hin (Or.inr q)
  exact W.bald (v := .int ((sByt.getD w []).getD x.toNatClampNeg 0)) hx hb (by rw [hR.1 _ (Array.getElem?_eq_some_iff.mp h1).1]; exact h1) h2 h3 (fun q => hin (q.imp id (fun z => Nat.le_trans h4 z))) (h6 _ hlt) rfl rfl hd (kk p e s m args below meth c H locs ls C hR hL hl)
end StrRows
def ixF (c : Int32) : List Int32 → Nat → Int32
  | [], _ => -1
  | b :: t, k => if b = c then nI k else ixF c t (k + 1)
def ixS (w : Nat) (x : Int32) : Int32 := if x < 0 then -1 else if (255 : Int32) < x then -1 else ixF x.toInt8.toInt32 (sByt.getD w []) 0
theorem sl_all : ∀ w, w < 2 → sLen.getD w 0 = (sByt.getD w []).length ∧ sLen.getD w 0 < 100 ∧ 0 < sLen.getD w 0 := by decide
section Str
variable {l : Launch} {G : Gt} {E : Et} {V : Vt} {w : Nat}
abbrev rm_0 : Room := { frames := 0, cells := 0, slots := 0, locals := 0 }
abbrev rm_Ix1 : Room := { frames := 1, cells := 0, slots := 0, locals := 25 }
abbrev rm_Ln : Room := { frames := 1, cells := 0, slots := 0, locals := 20 }
abbrev rm_Ix2 : Room := { frames := 2, cells := 0, slots := 0, locals := 48 }
theorem ixc_loop {x c : Int32} {K : Int32 → Vt → Prop} (hw : w < 2) : ∀ (t : List Int32) (j : Nat), j ≤ sLen.getD w 0 → (sByt.getD w []).drop j = t → K (ixF c t j) V → Ev l G RJ1 cJ1_indexOfChar_4cfef 6 (some .int) rm_0 E 0 0 V 7 [(0, .ref (gV G w)), (1, .int x), (2, .int 0), (3, .int (nI (sLen.getD w 0))), (4, .int c), (5, .int (nI j))] [] (Qi E K) := by
  obtain ⟨s1, s2, s3⟩ := sl_all w hw
  intro t
  induction t with
  | nil =>
    intro j hj0 hj h
    have hlen : sLen.getD w 0 ≤ j := by
      rw [s1]
      exact List.drop_eq_nil_iff.mp hj
    have hk : K (-1) V := h
    refine r_iload (x := nI j) dJ1_indexOfChar_4cfef_7 rfl ?_
    refine r_iload_n (x := nI (sLen.getD w 0)) dJ1_indexOfChar_4cfef_9 rfl ?_
    refine r_icmp_ge 31 dJ1_indexOfChar_4cfef_10 (by decide) (fun q => ?_) (fun q => ?_)
    · refine r_iconst (v := (-1 : Int32)) dJ1_indexOfChar_4cfef_31 (by decide) ?_
      exact r_iret dJ1_indexOfChar_4cfef_32 rfl ⟨Nat.le_refl 0, Nat.le_refl 0⟩ ⟨rfl, _, rfl, hk⟩
    · exact absurd (nI_le hlen (by omega)) q
  | cons b t ih =>
    intro j hj0 hj h
    have hlt : j < sLen.getD w 0 := by
      rw [s1]
      refine Nat.not_le.mp (fun q => ?_)
      rw [List.drop_eq_nil_iff.mpr q] at hj
      cases hj
    have hbj : (sByt.getD w []).getD j 0 = b := by
      have e : (sByt.getD w [])[j]? = some b := by
        have e1 : ((sByt.getD w []).drop j)[0]? = some b := by rw [hj]; rfl
        rw [List.getElem?_drop, Nat.add_zero] at e1
        exact e1
      rw [List.getD_eq_getElem?_getD, e]
      rfl
    have hj2 : (sByt.getD w []).drop (j + 1) = t := by
      rw [← List.drop_drop, hj]
      rfl
    unfold ixF at h
    refine r_iload (x := nI j) dJ1_indexOfChar_4cfef_7 rfl ?_
    refine r_iload_n (x := nI (sLen.getD w 0)) dJ1_indexOfChar_4cfef_9 rfl ?_
    refine r_icmp_ge 31 dJ1_indexOfChar_4cfef_10 (by decide) (fun q => ?_) (fun q => ?_)
    · exact absurd q (nI_ge hlt (by omega))
    · refine r_aload_n (v := .ref (gV G w)) dJ1_indexOfChar_4cfef_13 rfl (rl_ref _) ?_
      refine r_iload (x := nI j) dJ1_indexOfChar_4cfef_14 rfl ?_
      refine r_sbal hw dJ1_indexOfChar_4cfef_16 (inI hlt (by omega)) ?_
      rw [cl (by omega), hbj]
      refine r_iload (x := c) dJ1_indexOfChar_4cfef_17 rfl ?_
      refine r_icmp_ne 25 dJ1_indexOfChar_4cfef_19 (by decide) (fun z => ?_) (fun z => ?_)
      · rw [if_neg z] at h
        refine r_iinc (x := nI j) (v := (1 : Int32)) dJ1_indexOfChar_4cfef_25 rfl (by decide) (by decide) ?_
        refine r_goto 7 dJ1_indexOfChar_4cfef_28 (by decide) ?_
        rw [nI_1]
        exact Ev.loc [0, 1, 2, 3, 4, 5] rfl (ih (j + 1) hlt hj2 h)
      · rw [if_pos z] at h
        refine r_iload (x := nI j) dJ1_indexOfChar_4cfef_22 rfl ?_
        exact r_iret dJ1_indexOfChar_4cfef_24 rfl ⟨Nat.le_refl 0, Nat.le_refl 0⟩ ⟨rfl, _, rfl, h⟩
theorem ixc_spec {x : Int32} {K : Int32 → Vt → Prop} (hw : w < 2) (h : K (ixF x.toInt8.toInt32 (sByt.getD w []) 0) V) : Cl l G yJ1_indexOfChar_4cfef cJ1_indexOfChar_4cfef 6 (some .int) rm_0 E V [.ref (gV G w), .int x, .int 0, .int (nI (sLen.getD w 0))] (Qi E K) := by
  refine Cl.of (by decide +kernel) (Nat.le_of_ble_eq_true rfl) (show Ev l G RJ1 cJ1_indexOfChar_4cfef 6 (some .int) rm_0 E 0 0 V 0 [(0, .ref (gV G w)), (1, .int x), (2, .int 0), (3, .int (nI (sLen.getD w 0)))] [] (Qi E K) from ?_)
  refine r_iload_n (x := x) dJ1_indexOfChar_4cfef_0 rfl ?_
  refine r_i2b dJ1_indexOfChar_4cfef_1 ?_
  refine r_istore dJ1_indexOfChar_4cfef_2 (by decide) ?_
  refine r_iload_n (x := 0) dJ1_indexOfChar_4cfef_4 rfl ?_
  refine r_istore dJ1_indexOfChar_4cfef_5 (by decide) ?_
  exact Ev.loc [0, 1, 2, 3, 4, 5] rfl (ixc_loop hw _ 0 (Nat.zero_le _) rfl h)
theorem can_spec {x : Int32} {K : Int32 → Vt → Prop} (h : K (if x < 0 then 0 else if (255 : Int32) < x then 0 else 1) V) : Cl l G yJ1_canEncode_9a6ad cJ1_canEncode_9a6ad 1 (some .boolean) rm_0 E V [.int x] (Qi E K) := by
  refine Cl.of (by decide +kernel) (Nat.le_of_ble_eq_true rfl) (show Ev l G RJ1 cJ1_canEncode_9a6ad 1 (some .boolean) rm_0 E 0 0 V 0 [(0, .int x)] [] (Qi E K) from ?_)
  refine r_iload_n (x := x) dJ1_canEncode_9a6ad_0 rfl ?_
  refine r_if_lt 15 dJ1_canEncode_9a6ad_1 (by decide) (fun q => ?_) (fun q => ?_)
  · rw [if_pos q] at h
    refine r_iconst (v := (0 : Int32)) dJ1_canEncode_9a6ad_15 (by decide) ?_
    exact r_zret dJ1_canEncode_9a6ad_16 rfl rfl ⟨Nat.le_refl 0, Nat.le_refl 0⟩ ⟨rfl, _, rfl, h⟩
  · rw [if_neg q] at h
    refine r_iload_n (x := x) dJ1_canEncode_9a6ad_4 rfl ?_
    refine r_sipush (v := (255 : Int32)) dJ1_canEncode_9a6ad_5 (by decide) ?_
    refine r_icmp_gt 15 dJ1_canEncode_9a6ad_8 (by decide) (fun q2 => ?_) (fun q2 => ?_)
    · rw [if_pos q2] at h
      refine r_iconst (v := (0 : Int32)) dJ1_canEncode_9a6ad_15 (by decide) ?_
      exact r_zret dJ1_canEncode_9a6ad_16 rfl rfl ⟨Nat.le_refl 0, Nat.le_refl 0⟩ ⟨rfl, _, rfl, h⟩
    · rw [if_neg q2] at h
      refine r_iconst (v := (1 : Int32)) dJ1_canEncode_9a6ad_11 (by decide) ?_
      refine r_goto 16 dJ1_canEncode_9a6ad_12 (by decide) ?_
      exact r_zret dJ1_canEncode_9a6ad_16 rfl rfl ⟨Nat.le_refl 0, Nat.le_refl 0⟩ ⟨rfl, _, rfl, h⟩
theorem ix1_spec {x : Int32} {K : Int32 → Vt → Prop} (hw : w < 2) (h : K (ixS w x) V) : Cl l G yJ1_indexOf_4cfef cJ1_indexOf_4cfef 4 (some .int) rm_Ix1 E V [.ref (gV G w), .int x, .int 0, .int (nI (sLen.getD w 0))] (Qi E K) := by
  obtain ⟨s1, s2, s3⟩ := sl_all w hw
  refine Cl.of (by decide +kernel) (Nat.le_of_ble_eq_true rfl) (show Ev l G RJ1 cJ1_indexOf_4cfef 4 (some .int) rm_Ix1 E 0 0 V 0 [(0, .ref (gV G w)), (1, .int x), (2, .int 0), (3, .int (nI (sLen.getD w 0)))] [] (Qi E K) from ?_)
  have hz : (0 : Int32) + 0 = 0 := rfl
  refine r_iload_n (x := x) dJ1_indexOf_4cfef_0 rfl ?_
  refine r_cSi (rY := rm_0) (As := [.int x]) (rest := []) (K := fun y V' => V' = V ∧ y = (if x < 0 then 0 else if (255 : Int32) < x then 0 else 1)) dJ1_indexOf_4cfef_1 ms_J1_canEncode_9a6ad ml_RJ1_88 (by decide) ⟨rfl, rfl⟩ rfl rfl (by decide) (can_spec ⟨rfl, rfl⟩) (fun y V' hy => ?_)
  obtain ⟨rfl, rfl⟩ := hy
  unfold ixS at h
  refine r_if_ne 9 dJ1_indexOf_4cfef_4 (by decide) (fun q => ?_) (fun q => ?_)
  · have q1 : ¬ x < 0 := fun z => q (by rw [if_pos z])
    have q2 : ¬ (255 : Int32) < x := fun z => q (by rw [if_neg q1, if_pos z])
    rw [if_neg q1, if_neg q2] at h
    refine r_iload_n (x := 0) dJ1_indexOf_4cfef_9 rfl ?_
    refine r_iconst (v := (0 : Int32)) dJ1_indexOf_4cfef_10 (by decide) ?_
    refine r_mmax dJ1_indexOf_4cfef_11 ml_RJ1_92 (by decide) (by decide) ?_
    rw [if_neg (by decide)]
    refine r_istore_n dJ1_indexOf_4cfef_14 (by decide) ?_
    refine r_iload_n (x := nI (sLen.getD w 0)) dJ1_indexOf_4cfef_15 rfl ?_
    refine r_aload_n (v := .ref (gV G w)) dJ1_indexOf_4cfef_16 rfl (rl_ref _) ?_
    refine r_slen hw dJ1_indexOf_4cfef_17 ?_
    refine r_mmin dJ1_indexOf_4cfef_18 ml_RJ1_38 (by decide) (by decide) ?_
    rw [if_neg (nI_nlt (Nat.le_refl _) (by omega))]
    refine r_istore_n dJ1_indexOf_4cfef_21 (by decide) ?_
    refine r_iload_n (x := 0) dJ1_indexOf_4cfef_22 rfl ?_
    refine r_iload_n (x := nI (sLen.getD w 0)) dJ1_indexOf_4cfef_23 rfl ?_
    refine r_icmp_lt 29 dJ1_indexOf_4cfef_24 (by decide) (fun z => ?_) (fun z => ?_)
    · refine r_aload_n (v := .ref (gV G w)) dJ1_indexOf_4cfef_29 rfl (rl_ref _) ?_
      refine r_iload_n (x := x) dJ1_indexOf_4cfef_30 rfl ?_
      refine r_iload_n (x := 0) dJ1_indexOf_4cfef_31 rfl ?_
      refine r_iload_n (x := nI (sLen.getD w 0)) dJ1_indexOf_4cfef_32 rfl ?_
      refine r_cSi (rY := rm_0) (As := [.ref (gV G w), .int x, .int 0, .int (nI (sLen.getD w 0))]) (rest := []) (K := K) dJ1_indexOf_4cfef_33 ms_J1_indexOfChar_4cfef ml_RJ1_95 (by decide) ⟨rfl, rfl⟩ rfl rfl (by decide) (ixc_spec hw h) (fun y V' hy => ?_)
      exact r_iret dJ1_indexOf_4cfef_36 rfl ⟨Nat.le_refl 0, Nat.le_refl 0⟩ ⟨rfl, _, rfl, hy⟩
    · exact absurd ((nI_pos0 (by omega)).mpr s3) z
  · refine r_iconst (v := (-1 : Int32)) dJ1_indexOf_4cfef_7 (by decide) ?_
    refine r_iret dJ1_indexOf_4cfef_8 rfl ⟨Nat.le_refl 0, Nat.le_refl 0⟩ ⟨rfl, _, rfl, ?_⟩
    by_cases q1 : x < 0
    · rw [if_pos q1] at h
      exact h
    · rw [if_neg q1] at h q
      by_cases q2 : (255 : Int32) < x
      · rw [if_pos q2] at h
        exact h
      · rw [if_neg q2] at q
        exact absurd q (by decide)
theorem lat_spec {K : Int32 → Vt → Prop} (hw : w < 2) (h : K 1 V) : Cl l G yJ0_isLatin1_aae02 cJ0_isLatin1_aae02 1 (some .boolean) rm_0 E V [.ref (gK G w)] (Qi E K) := by
  refine Cl.of (by decide +kernel) (Nat.le_of_ble_eq_true rfl) (show Ev l G RJ0 cJ0_isLatin1_aae02 1 (some .boolean) rm_0 E 0 0 V 0 [(0, .ref (gK G w))] [] (Qi E K) from ?_)
  refine r_compact dJ0_isLatin1_aae02_0 kt_RJ0_38 ?_
  refine r_if_eq 17 dJ0_isLatin1_aae02_3 (by decide) (fun q => absurd q (by decide)) (fun q => ?_)
  refine r_aload_n (v := .ref (gK G w)) dJ0_isLatin1_aae02_6 rfl (rl_ref _) ?_
  refine r_scoder hw dJ0_isLatin1_aae02_7 kt_RJ0_15 ?_
  refine r_if_ne 17 dJ0_isLatin1_aae02_10 (by decide) (fun q => absurd rfl q) (fun q => ?_)
  refine r_iconst (v := (1 : Int32)) dJ0_isLatin1_aae02_13 (by decide) ?_
  refine r_goto 18 dJ0_isLatin1_aae02_14 (by decide) ?_
  exact r_zret dJ0_isLatin1_aae02_18 rfl rfl ⟨Nat.le_refl 0, Nat.le_refl 0⟩ ⟨rfl, _, rfl, h⟩
theorem cod_spec {K : Int32 → Vt → Prop} (hw : w < 2) (h : K 0 V) : Cl l G yJ0_coder_7d493 cJ0_coder_7d493 1 (some .byte) rm_0 E V [.ref (gK G w)] (Qi E K) := by
  refine Cl.of (by decide +kernel) (Nat.le_of_ble_eq_true rfl) (show Ev l G RJ0 cJ0_coder_7d493 1 (some .byte) rm_0 E 0 0 V 0 [(0, .ref (gK G w))] [] (Qi E K) from ?_)
  refine r_compact dJ0_coder_7d493_0 kt_RJ0_38 ?_
  refine r_if_eq 13 dJ0_coder_7d493_3 (by decide) (fun q => absurd q (by decide)) (fun q => ?_)
  refine r_aload_n (v := .ref (gK G w)) dJ0_coder_7d493_6 rfl (rl_ref _) ?_
  refine r_scoder hw dJ0_coder_7d493_7 kt_RJ0_15 ?_
  refine r_goto 14 dJ0_coder_7d493_10 (by decide) ?_
  exact r_zret dJ0_coder_7d493_14 rfl rfl ⟨Nat.le_refl 0, Nat.le_refl 0⟩ ⟨rfl, _, rfl, h⟩
theorem len_spec {K : Int32 → Vt → Prop} (hw : w < 2) (h : K (nI (sLen.getD w 0)) V) : Cl l G yJ0_length_8abf5 cJ0_length_8abf5 1 (some .int) rm_Ln E V [.ref (gK G w)] (Qi E K) := by
  obtain ⟨s1, s2, s3⟩ := sl_all w hw
  refine Cl.of (by decide +kernel) (Nat.le_of_ble_eq_true rfl) (show Ev l G RJ0 cJ0_length_8abf5 1 (some .int) rm_Ln E 0 0 V 0 [(0, .ref (gK G w))] [] (Qi E K) from ?_)
  refine r_aload_n (v := .ref (gK G w)) dJ0_length_8abf5_0 rfl (rl_ref _) ?_
  refine r_svalue hw dJ0_length_8abf5_1 kt_RJ0_9 ?_
  refine r_slen hw dJ0_length_8abf5_4 ?_
  refine r_aload_n (v := .ref (gK G w)) dJ0_length_8abf5_5 rfl (rl_ref _) ?_
  refine r_cStr (w := w) (rY := rm_0) (As := []) (rest := [.int (nI (sLen.getD w 0))]) (K := fun y V' => V' = V ∧ y = 0) dJ0_length_8abf5_6 mv_J0_coder_7d493 ml_RJ0_335 rfl hw (by decide) ⟨rfl, rfl⟩ rfl rfl (Nat.le_of_ble_eq_true rfl) (cod_spec hw ⟨rfl, rfl⟩) (fun y V' hy => ?_)
  obtain ⟨rfl, rfl⟩ := hy
  refine r_ishr dJ0_length_8abf5_9 ?_
  refine r_iret dJ0_length_8abf5_10 rfl ⟨Nat.le_refl 0, Nat.le_refl 0⟩ ⟨rfl, _, rfl, ?_⟩
  have e : nI (sLen.getD w 0) >>> ((0 : Int32) &&& 31) = nI (sLen.getD w 0) := by
    have : ∀ w, w < 2 → nI (sLen.getD w 0) >>> ((0 : Int32) &&& 31) = nI (sLen.getD w 0) := by decide +kernel
    exact this w hw
  rw [e]
  exact h
theorem ix2_spec {x : Int32} {K : Int32 → Vt → Prop} (hw : w < 2) (h : K (ixS w x) V) : Cl l G yJ0_indexOf_7cf53 cJ0_indexOf_7cf53 3 (some .int) rm_Ix2 E V [.ref (gK G w), .int x, .int 0] (Qi E K) := by
  refine Cl.of (by decide +kernel) (Nat.le_of_ble_eq_true rfl) (show Ev l G RJ0 cJ0_indexOf_7cf53 3 (some .int) rm_Ix2 E 0 0 V 0 [(0, .ref (gK G w)), (1, .int x), (2, .int 0)] [] (Qi E K) from ?_)
  refine r_aload_n (v := .ref (gK G w)) dJ0_indexOf_7cf53_0 rfl (rl_ref _) ?_
  refine r_cStr (w := w) (rY := rm_0) (As := []) (rest := []) (K := fun y V' => V' = V ∧ y = 1) dJ0_indexOf_7cf53_1 mv_J0_isLatin1_aae02 ml_RJ0_492 rfl hw (by decide) ⟨rfl, rfl⟩ rfl rfl (by decide) (lat_spec hw ⟨rfl, rfl⟩) (fun y V' hy => ?_)
  obtain ⟨rfl, rfl⟩ := hy
  refine r_if_eq 23 dJ0_indexOf_7cf53_4 (by decide) (fun q => absurd q (by decide)) (fun q => ?_)
  refine r_aload_n (v := .ref (gK G w)) dJ0_indexOf_7cf53_7 rfl (rl_ref _) ?_
  refine r_svalue hw dJ0_indexOf_7cf53_8 kt_RJ0_9 ?_
  refine r_iload_n (x := x) dJ0_indexOf_7cf53_11 rfl ?_
  refine r_iload_n (x := 0) dJ0_indexOf_7cf53_12 rfl ?_
  refine r_aload_n (v := .ref (gK G w)) dJ0_indexOf_7cf53_13 rfl (rl_ref _) ?_
  refine r_cStr (w := w) (rY := rm_Ln) (As := []) (rest := [.int 0, .int x, .ref (gV G w)]) (K := fun y V1 => V1 = V' ∧ y = nI (sLen.getD w 0)) dJ0_indexOf_7cf53_14 mv_J0_length_8abf5 ml_RJ0_505 rfl hw (by decide) ⟨rfl, rfl⟩ rfl rfl (Nat.le_of_ble_eq_true rfl) (len_spec hw ⟨rfl, rfl⟩) (fun y V1 hy => ?_)
  obtain ⟨rfl, rfl⟩ := hy
  refine r_cSi (rY := rm_Ix1) (As := [.ref (gV G w), .int x, .int 0, .int (nI (sLen.getD w 0))]) (rest := []) (K := K) dJ0_indexOf_7cf53_17 ms_J1_indexOf_4cfef ml_RJ0_637 (by decide) ⟨rfl, rfl⟩ rfl rfl (by decide) (ix1_spec hw h) (fun y V2 hy => ?_)
  refine r_goto 36 dJ0_indexOf_7cf53_20 (by decide) ?_
  exact r_iret dJ0_indexOf_7cf53_36 rfl ⟨Nat.le_refl 0, Nat.le_refl 0⟩ ⟨rfl, _, rfl, hy⟩
theorem sp_ix {x : Int32} {K : Int32 → Vt → Prop} (hw : w < 2) (h : K (ixS w x) V) : C_J0_indexOf_0f7a4 l G E V w x K := by
  refine Cl.of (by decide +kernel) (Nat.le_of_ble_eq_true rfl) (show Ev l G RJ0 cJ0_indexOf_0f7a4 2 (some .int) rm_J0_indexOf_0f7a4 E 0 0 V 0 [(0, .ref (gK G w)), (1, .int x)] [] (Qi E K) from ?_)
  refine r_aload_n (v := .ref (gK G w)) dJ0_indexOf_0f7a4_0 rfl (rl_ref _) ?_
  refine r_iload_n (x := x) dJ0_indexOf_0f7a4_1 rfl ?_
  refine r_iconst (v := (0 : Int32)) dJ0_indexOf_0f7a4_2 (by decide) ?_
  refine r_cStr (w := w) (rY := rm_Ix2) (As := [.int x, .int 0]) (rest := []) (K := K) dJ0_indexOf_0f7a4_3 mv_J0_indexOf_7cf53 ml_RJ0_633 rfl hw (by decide) ⟨rfl, rfl⟩ rfl rfl (by decide) (ix2_spec hw h) (fun y V' hy => ?_)
  exact r_iret dJ0_indexOf_0f7a4_6 rfl ⟨Nat.le_refl 0, Nat.le_refl 0⟩ ⟨rfl, _, rfl, hy⟩
end Str

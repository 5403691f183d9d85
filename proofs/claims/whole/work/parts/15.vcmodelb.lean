abbrev rm_X9_both : Room := { frames := 0, cells := 0, slots := 0, locals := 0 }
def C_X9_both (l : Launch) (G : Gt) (E : Et) (V : Vt) (x1 : Int32) (x2 : Int32) (x3 : Int32) (K : Int32 → Vt → Prop) : Prop := Cl l G yX9_both cX9_both 3 (some .int) rm_X9_both E V [.int x1, .int x2, .int x3] (Qi E K)
def vc_X9_both (l : Launch) (G : Gt) (E : Et) (V : Vt) (x1 : Int32) (x2 : Int32) (x3 : Int32) (K : Int32 → Vt → Prop) : Prop := ((x1 = (38 : Int32) → ((x2 = (0 : Int32) → K (0 : Int32) V) ∧ (¬ x2 = (0 : Int32) → ((x3 = (0 : Int32) → K (0 : Int32) V) ∧ (¬ x3 = (0 : Int32) → K (1 : Int32) V))))) ∧ (x1 = (42 : Int32) → K (x2 * x3) V) ∧ (x1 = (43 : Int32) → K (x2 + x3) V) ∧ (x1 = (45 : Int32) → K (x2 - x3) V) ∧ (x1 = (60 : Int32) → ((x3 ≤ x2 → K (0 : Int32) V) ∧ (¬ x3 ≤ x2 → K (1 : Int32) V))) ∧ (x1 = (61 : Int32) → ((¬ x2 = x3 → K (0 : Int32) V) ∧ (x2 = x3 → K (1 : Int32) V))) ∧ (x1 = (62 : Int32) → ((x2 ≤ x3 → K (0 : Int32) V) ∧ (¬ x2 ≤ x3 → K (1 : Int32) V))) ∧ (¬ x1 = (38 : Int32) ∧ ¬ x1 = (42 : Int32) ∧ ¬ x1 = (43 : Int32) ∧ ¬ x1 = (45 : Int32) ∧ ¬ x1 = (60 : Int32) ∧ ¬ x1 = (61 : Int32) ∧ ¬ x1 = (62 : Int32) → ((¬ x2 = (0 : Int32) → K (1 : Int32) V) ∧ (x2 = (0 : Int32) → ((x3 = (0 : Int32) → K (0 : Int32) V) ∧ (¬ x3 = (0 : Int32) → K (1 : Int32) V))))))
theorem ok_X9_both {l : Launch} {G : Gt} {E : Et} {V : Vt} {x1 : Int32} {x2 : Int32} {x3 : Int32} {K : Int32 → Vt → Prop} (hE : Sg E)  (h : vc_X9_both l G E V x1 x2 x3 K) : C_X9_both l G E V x1 x2 x3 K := by
  unfold vc_X9_both at h
  refine Cl.of (by decide +kernel) (Nat.le_of_ble_eq_true rfl) (show Ev l G RX9 cX9_both 3 (some .int) rm_X9_both E 0 0 V 0 [(0, .int x1), (1, .int x2), (2, .int x3)] [] (Qi E K) from ?_)
  refine r_iload_n (x := x1) dX9_both_0 rfl ?_
  by_cases q38 : x1 = (38 : Int32)
  · have h := h.1 q38
    refine r_tIn (xv := (38 : Int32)) 161 dX9_both_1 q38 (by decide) (by decide) rfl (by decide) ?_
    refine r_iload_n (x := x2) dX9_both_161 rfl ?_
    refine r_if_eq 173 dX9_both_162 (by decide) (fun q => ?_) (fun q => ?_)
    · have h := h.1 q
      refine r_iconst (v := (0 : Int32)) dX9_both_173 (by decide) ?_
      exact r_iret dX9_both_174 rfl ⟨Nat.le_of_ble_eq_true rfl, Nat.le_of_ble_eq_true rfl⟩ ⟨rfl, _, rfl, h⟩
    · have h := h.2 q
      refine r_iload_n (x := x3) dX9_both_165 rfl ?_
      refine r_if_eq 173 dX9_both_166 (by decide) (fun q => ?_) (fun q => ?_)
      · have h := h.1 q
        refine r_iconst (v := (0 : Int32)) dX9_both_173 (by decide) ?_
        exact r_iret dX9_both_174 rfl ⟨Nat.le_of_ble_eq_true rfl, Nat.le_of_ble_eq_true rfl⟩ ⟨rfl, _, rfl, h⟩
      · have h := h.2 q
        refine r_iconst (v := (1 : Int32)) dX9_both_169 (by decide) ?_
        refine r_goto 174 dX9_both_170 (by decide) ?_
        exact r_iret dX9_both_174 rfl ⟨Nat.le_of_ble_eq_true rfl, Nat.le_of_ble_eq_true rfl⟩ ⟨rfl, _, rfl, h⟩
  by_cases q42 : x1 = (42 : Int32)
  · have h := h.2.1 q42
    refine r_tIn (xv := (42 : Int32)) 124 dX9_both_1 q42 (by decide) (by decide) rfl (by decide) ?_
    refine r_iload_n (x := x2) dX9_both_124 rfl ?_
    refine r_iload_n (x := x3) dX9_both_125 rfl ?_
    refine r_imul dX9_both_126 ?_
    exact r_iret dX9_both_127 rfl ⟨Nat.le_of_ble_eq_true rfl, Nat.le_of_ble_eq_true rfl⟩ ⟨rfl, _, rfl, h⟩
  by_cases q43 : x1 = (43 : Int32)
  · have h := h.2.2.1 q43
    refine r_tIn (xv := (43 : Int32)) 116 dX9_both_1 q43 (by decide) (by decide) rfl (by decide) ?_
    refine r_iload_n (x := x2) dX9_both_116 rfl ?_
    refine r_iload_n (x := x3) dX9_both_117 rfl ?_
    refine r_iadd dX9_both_118 ?_
    exact r_iret dX9_both_119 rfl ⟨Nat.le_of_ble_eq_true rfl, Nat.le_of_ble_eq_true rfl⟩ ⟨rfl, _, rfl, h⟩
  by_cases q45 : x1 = (45 : Int32)
  · have h := h.2.2.2.1 q45
    refine r_tIn (xv := (45 : Int32)) 120 dX9_both_1 q45 (by decide) (by decide) rfl (by decide) ?_
    refine r_iload_n (x := x2) dX9_both_120 rfl ?_
    refine r_iload_n (x := x3) dX9_both_121 rfl ?_
    refine r_isub dX9_both_122 ?_
    exact r_iret dX9_both_123 rfl ⟨Nat.le_of_ble_eq_true rfl, Nat.le_of_ble_eq_true rfl⟩ ⟨rfl, _, rfl, h⟩
  by_cases q60 : x1 = (60 : Int32)
  · have h := h.2.2.2.2.1 q60
    refine r_tIn (xv := (60 : Int32)) 128 dX9_both_1 q60 (by decide) (by decide) rfl (by decide) ?_
    refine r_iload_n (x := x2) dX9_both_128 rfl ?_
    refine r_iload_n (x := x3) dX9_both_129 rfl ?_
    refine r_icmp_ge 137 dX9_both_130 (by decide) (fun q => ?_) (fun q => ?_)
    · have h := h.1 q
      refine r_iconst (v := (0 : Int32)) dX9_both_137 (by decide) ?_
      exact r_iret dX9_both_138 rfl ⟨Nat.le_of_ble_eq_true rfl, Nat.le_of_ble_eq_true rfl⟩ ⟨rfl, _, rfl, h⟩
    · have h := h.2 q
      refine r_iconst (v := (1 : Int32)) dX9_both_133 (by decide) ?_
      refine r_goto 138 dX9_both_134 (by decide) ?_
      exact r_iret dX9_both_138 rfl ⟨Nat.le_of_ble_eq_true rfl, Nat.le_of_ble_eq_true rfl⟩ ⟨rfl, _, rfl, h⟩
  by_cases q61 : x1 = (61 : Int32)
  · have h := h.2.2.2.2.2.1 q61
    refine r_tIn (xv := (61 : Int32)) 139 dX9_both_1 q61 (by decide) (by decide) rfl (by decide) ?_
    refine r_iload_n (x := x2) dX9_both_139 rfl ?_
    refine r_iload_n (x := x3) dX9_both_140 rfl ?_
    refine r_icmp_ne 148 dX9_both_141 (by decide) (fun q => ?_) (fun q => ?_)
    · have h := h.1 q
      refine r_iconst (v := (0 : Int32)) dX9_both_148 (by decide) ?_
      exact r_iret dX9_both_149 rfl ⟨Nat.le_of_ble_eq_true rfl, Nat.le_of_ble_eq_true rfl⟩ ⟨rfl, _, rfl, h⟩
    · have h := h.2 q
      refine r_iconst (v := (1 : Int32)) dX9_both_144 (by decide) ?_
      refine r_goto 149 dX9_both_145 (by decide) ?_
      exact r_iret dX9_both_149 rfl ⟨Nat.le_of_ble_eq_true rfl, Nat.le_of_ble_eq_true rfl⟩ ⟨rfl, _, rfl, h⟩
  by_cases q62 : x1 = (62 : Int32)
  · have h := h.2.2.2.2.2.2.1 q62
    refine r_tIn (xv := (62 : Int32)) 150 dX9_both_1 q62 (by decide) (by decide) rfl (by decide) ?_
    refine r_iload_n (x := x2) dX9_both_150 rfl ?_
    refine r_iload_n (x := x3) dX9_both_151 rfl ?_
    refine r_icmp_le 159 dX9_both_152 (by decide) (fun q => ?_) (fun q => ?_)
    · have h := h.1 q
      refine r_iconst (v := (0 : Int32)) dX9_both_159 (by decide) ?_
      exact r_iret dX9_both_160 rfl ⟨Nat.le_of_ble_eq_true rfl, Nat.le_of_ble_eq_true rfl⟩ ⟨rfl, _, rfl, h⟩
    · have h := h.2 q
      refine r_iconst (v := (1 : Int32)) dX9_both_155 (by decide) ?_
      refine r_goto 160 dX9_both_156 (by decide) ?_
      exact r_iret dX9_both_160 rfl ⟨Nat.le_of_ble_eq_true rfl, Nat.le_of_ble_eq_true rfl⟩ ⟨rfl, _, rfl, h⟩
  by_cases q39 : x1 = (39 : Int32)
  · have h := h.2.2.2.2.2.2.2 ⟨by rw [q39]; decide, by rw [q39]; decide, by rw [q39]; decide, by rw [q39]; decide, by rw [q39]; decide, by rw [q39]; decide, by rw [q39]; decide⟩
    refine r_tIn (xv := (39 : Int32)) 175 dX9_both_1 q39 (by decide) (by decide) rfl (by decide) ?_
    refine r_iload_n (x := x2) dX9_both_175 rfl ?_
    refine r_if_ne 183 dX9_both_176 (by decide) (fun q => ?_) (fun q => ?_)
    · have h := h.1 q
      refine r_iconst (v := (1 : Int32)) dX9_both_183 (by decide) ?_
      refine r_goto 188 dX9_both_184 (by decide) ?_
      exact r_iret dX9_both_188 rfl ⟨Nat.le_of_ble_eq_true rfl, Nat.le_of_ble_eq_true rfl⟩ ⟨rfl, _, rfl, h⟩
    · have h := h.2 q
      refine r_iload_n (x := x3) dX9_both_179 rfl ?_
      refine r_if_eq 187 dX9_both_180 (by decide) (fun q => ?_) (fun q => ?_)
      · have h := h.1 q
        refine r_iconst (v := (0 : Int32)) dX9_both_187 (by decide) ?_
        exact r_iret dX9_both_188 rfl ⟨Nat.le_of_ble_eq_true rfl, Nat.le_of_ble_eq_true rfl⟩ ⟨rfl, _, rfl, h⟩
      · have h := h.2 q
        refine r_iconst (v := (1 : Int32)) dX9_both_183 (by decide) ?_
        refine r_goto 188 dX9_both_184 (by decide) ?_
        exact r_iret dX9_both_188 rfl ⟨Nat.le_of_ble_eq_true rfl, Nat.le_of_ble_eq_true rfl⟩ ⟨rfl, _, rfl, h⟩
  by_cases q40 : x1 = (40 : Int32)
  · have h := h.2.2.2.2.2.2.2 ⟨by rw [q40]; decide, by rw [q40]; decide, by rw [q40]; decide, by rw [q40]; decide, by rw [q40]; decide, by rw [q40]; decide, by rw [q40]; decide⟩
    refine r_tIn (xv := (40 : Int32)) 175 dX9_both_1 q40 (by decide) (by decide) rfl (by decide) ?_
    refine r_iload_n (x := x2) dX9_both_175 rfl ?_
    refine r_if_ne 183 dX9_both_176 (by decide) (fun q => ?_) (fun q => ?_)
    · have h := h.1 q
      refine r_iconst (v := (1 : Int32)) dX9_both_183 (by decide) ?_
      refine r_goto 188 dX9_both_184 (by decide) ?_
      exact r_iret dX9_both_188 rfl ⟨Nat.le_of_ble_eq_true rfl, Nat.le_of_ble_eq_true rfl⟩ ⟨rfl, _, rfl, h⟩
    · have h := h.2 q
      refine r_iload_n (x := x3) dX9_both_179 rfl ?_
      refine r_if_eq 187 dX9_both_180 (by decide) (fun q => ?_) (fun q => ?_)
      · have h := h.1 q
        refine r_iconst (v := (0 : Int32)) dX9_both_187 (by decide) ?_
        exact r_iret dX9_both_188 rfl ⟨Nat.le_of_ble_eq_true rfl, Nat.le_of_ble_eq_true rfl⟩ ⟨rfl, _, rfl, h⟩
      · have h := h.2 q
        refine r_iconst (v := (1 : Int32)) dX9_both_183 (by decide) ?_
        refine r_goto 188 dX9_both_184 (by decide) ?_
        exact r_iret dX9_both_188 rfl ⟨Nat.le_of_ble_eq_true rfl, Nat.le_of_ble_eq_true rfl⟩ ⟨rfl, _, rfl, h⟩
  by_cases q41 : x1 = (41 : Int32)
  · have h := h.2.2.2.2.2.2.2 ⟨by rw [q41]; decide, by rw [q41]; decide, by rw [q41]; decide, by rw [q41]; decide, by rw [q41]; decide, by rw [q41]; decide, by rw [q41]; decide⟩
    refine r_tIn (xv := (41 : Int32)) 175 dX9_both_1 q41 (by decide) (by decide) rfl (by decide) ?_
    refine r_iload_n (x := x2) dX9_both_175 rfl ?_
    refine r_if_ne 183 dX9_both_176 (by decide) (fun q => ?_) (fun q => ?_)
    · have h := h.1 q
      refine r_iconst (v := (1 : Int32)) dX9_both_183 (by decide) ?_
      refine r_goto 188 dX9_both_184 (by decide) ?_
      exact r_iret dX9_both_188 rfl ⟨Nat.le_of_ble_eq_true rfl, Nat.le_of_ble_eq_true rfl⟩ ⟨rfl, _, rfl, h⟩
    · have h := h.2 q
      refine r_iload_n (x := x3) dX9_both_179 rfl ?_
      refine r_if_eq 187 dX9_both_180 (by decide) (fun q => ?_) (fun q => ?_)
      · have h := h.1 q
        refine r_iconst (v := (0 : Int32)) dX9_both_187 (by decide) ?_
        exact r_iret dX9_both_188 rfl ⟨Nat.le_of_ble_eq_true rfl, Nat.le_of_ble_eq_true rfl⟩ ⟨rfl, _, rfl, h⟩
      · have h := h.2 q
        refine r_iconst (v := (1 : Int32)) dX9_both_183 (by decide) ?_
        refine r_goto 188 dX9_both_184 (by decide) ?_
        exact r_iret dX9_both_188 rfl ⟨Nat.le_of_ble_eq_true rfl, Nat.le_of_ble_eq_true rfl⟩ ⟨rfl, _, rfl, h⟩
  by_cases q44 : x1 = (44 : Int32)
  · have h := h.2.2.2.2.2.2.2 ⟨by rw [q44]; decide, by rw [q44]; decide, by rw [q44]; decide, by rw [q44]; decide, by rw [q44]; decide, by rw [q44]; decide, by rw [q44]; decide⟩
    refine r_tIn (xv := (44 : Int32)) 175 dX9_both_1 q44 (by decide) (by decide) rfl (by decide) ?_
    refine r_iload_n (x := x2) dX9_both_175 rfl ?_
    refine r_if_ne 183 dX9_both_176 (by decide) (fun q => ?_) (fun q => ?_)
    · have h := h.1 q
      refine r_iconst (v := (1 : Int32)) dX9_both_183 (by decide) ?_
      refine r_goto 188 dX9_both_184 (by decide) ?_
      exact r_iret dX9_both_188 rfl ⟨Nat.le_of_ble_eq_true rfl, Nat.le_of_ble_eq_true rfl⟩ ⟨rfl, _, rfl, h⟩
    · have h := h.2 q
      refine r_iload_n (x := x3) dX9_both_179 rfl ?_
      refine r_if_eq 187 dX9_both_180 (by decide) (fun q => ?_) (fun q => ?_)
      · have h := h.1 q
        refine r_iconst (v := (0 : Int32)) dX9_both_187 (by decide) ?_
        exact r_iret dX9_both_188 rfl ⟨Nat.le_of_ble_eq_true rfl, Nat.le_of_ble_eq_true rfl⟩ ⟨rfl, _, rfl, h⟩
      · have h := h.2 q
        refine r_iconst (v := (1 : Int32)) dX9_both_183 (by decide) ?_
        refine r_goto 188 dX9_both_184 (by decide) ?_
        exact r_iret dX9_both_188 rfl ⟨Nat.le_of_ble_eq_true rfl, Nat.le_of_ble_eq_true rfl⟩ ⟨rfl, _, rfl, h⟩
  by_cases q46 : x1 = (46 : Int32)
  · have h := h.2.2.2.2.2.2.2 ⟨by rw [q46]; decide, by rw [q46]; decide, by rw [q46]; decide, by rw [q46]; decide, by rw [q46]; decide, by rw [q46]; decide, by rw [q46]; decide⟩
    refine r_tIn (xv := (46 : Int32)) 175 dX9_both_1 q46 (by decide) (by decide) rfl (by decide) ?_
    refine r_iload_n (x := x2) dX9_both_175 rfl ?_
    refine r_if_ne 183 dX9_both_176 (by decide) (fun q => ?_) (fun q => ?_)
    · have h := h.1 q
      refine r_iconst (v := (1 : Int32)) dX9_both_183 (by decide) ?_
      refine r_goto 188 dX9_both_184 (by decide) ?_
      exact r_iret dX9_both_188 rfl ⟨Nat.le_of_ble_eq_true rfl, Nat.le_of_ble_eq_true rfl⟩ ⟨rfl, _, rfl, h⟩
    · have h := h.2 q
      refine r_iload_n (x := x3) dX9_both_179 rfl ?_
      refine r_if_eq 187 dX9_both_180 (by decide) (fun q => ?_) (fun q => ?_)
      · have h := h.1 q
        refine r_iconst (v := (0 : Int32)) dX9_both_187 (by decide) ?_
        exact r_iret dX9_both_188 rfl ⟨Nat.le_of_ble_eq_true rfl, Nat.le_of_ble_eq_true rfl⟩ ⟨rfl, _, rfl, h⟩
      · have h := h.2 q
        refine r_iconst (v := (1 : Int32)) dX9_both_183 (by decide) ?_
        refine r_goto 188 dX9_both_184 (by decide) ?_
        exact r_iret dX9_both_188 rfl ⟨Nat.le_of_ble_eq_true rfl, Nat.le_of_ble_eq_true rfl⟩ ⟨rfl, _, rfl, h⟩
  by_cases q47 : x1 = (47 : Int32)
  · have h := h.2.2.2.2.2.2.2 ⟨by rw [q47]; decide, by rw [q47]; decide, by rw [q47]; decide, by rw [q47]; decide, by rw [q47]; decide, by rw [q47]; decide, by rw [q47]; decide⟩
    refine r_tIn (xv := (47 : Int32)) 175 dX9_both_1 q47 (by decide) (by decide) rfl (by decide) ?_
    refine r_iload_n (x := x2) dX9_both_175 rfl ?_
    refine r_if_ne 183 dX9_both_176 (by decide) (fun q => ?_) (fun q => ?_)
    · have h := h.1 q
      refine r_iconst (v := (1 : Int32)) dX9_both_183 (by decide) ?_
      refine r_goto 188 dX9_both_184 (by decide) ?_
      exact r_iret dX9_both_188 rfl ⟨Nat.le_of_ble_eq_true rfl, Nat.le_of_ble_eq_true rfl⟩ ⟨rfl, _, rfl, h⟩
    · have h := h.2 q
      refine r_iload_n (x := x3) dX9_both_179 rfl ?_
      refine r_if_eq 187 dX9_both_180 (by decide) (fun q => ?_) (fun q => ?_)
      · have h := h.1 q
        refine r_iconst (v := (0 : Int32)) dX9_both_187 (by decide) ?_
        exact r_iret dX9_both_188 rfl ⟨Nat.le_of_ble_eq_true rfl, Nat.le_of_ble_eq_true rfl⟩ ⟨rfl, _, rfl, h⟩
      · have h := h.2 q
        refine r_iconst (v := (1 : Int32)) dX9_both_183 (by decide) ?_
        refine r_goto 188 dX9_both_184 (by decide) ?_
        exact r_iret dX9_both_188 rfl ⟨Nat.le_of_ble_eq_true rfl, Nat.le_of_ble_eq_true rfl⟩ ⟨rfl, _, rfl, h⟩
  by_cases q48 : x1 = (48 : Int32)
  · have h := h.2.2.2.2.2.2.2 ⟨by rw [q48]; decide, by rw [q48]; decide, by rw [q48]; decide, by rw [q48]; decide, by rw [q48]; decide, by rw [q48]; decide, by rw [q48]; decide⟩
    refine r_tIn (xv := (48 : Int32)) 175 dX9_both_1 q48 (by decide) (by decide) rfl (by decide) ?_
    refine r_iload_n (x := x2) dX9_both_175 rfl ?_
    refine r_if_ne 183 dX9_both_176 (by decide) (fun q => ?_) (fun q => ?_)
    · have h := h.1 q
      refine r_iconst (v := (1 : Int32)) dX9_both_183 (by decide) ?_
      refine r_goto 188 dX9_both_184 (by decide) ?_
      exact r_iret dX9_both_188 rfl ⟨Nat.le_of_ble_eq_true rfl, Nat.le_of_ble_eq_true rfl⟩ ⟨rfl, _, rfl, h⟩
    · have h := h.2 q
      refine r_iload_n (x := x3) dX9_both_179 rfl ?_
      refine r_if_eq 187 dX9_both_180 (by decide) (fun q => ?_) (fun q => ?_)
      · have h := h.1 q
        refine r_iconst (v := (0 : Int32)) dX9_both_187 (by decide) ?_
        exact r_iret dX9_both_188 rfl ⟨Nat.le_of_ble_eq_true rfl, Nat.le_of_ble_eq_true rfl⟩ ⟨rfl, _, rfl, h⟩
      · have h := h.2 q
        refine r_iconst (v := (1 : Int32)) dX9_both_183 (by decide) ?_
        refine r_goto 188 dX9_both_184 (by decide) ?_
        exact r_iret dX9_both_188 rfl ⟨Nat.le_of_ble_eq_true rfl, Nat.le_of_ble_eq_true rfl⟩ ⟨rfl, _, rfl, h⟩
  by_cases q49 : x1 = (49 : Int32)
  · have h := h.2.2.2.2.2.2.2 ⟨by rw [q49]; decide, by rw [q49]; decide, by rw [q49]; decide, by rw [q49]; decide, by rw [q49]; decide, by rw [q49]; decide, by rw [q49]; decide⟩
    refine r_tIn (xv := (49 : Int32)) 175 dX9_both_1 q49 (by decide) (by decide) rfl (by decide) ?_
    refine r_iload_n (x := x2) dX9_both_175 rfl ?_
    refine r_if_ne 183 dX9_both_176 (by decide) (fun q => ?_) (fun q => ?_)
    · have h := h.1 q
      refine r_iconst (v := (1 : Int32)) dX9_both_183 (by decide) ?_
      refine r_goto 188 dX9_both_184 (by decide) ?_
      exact r_iret dX9_both_188 rfl ⟨Nat.le_of_ble_eq_true rfl, Nat.le_of_ble_eq_true rfl⟩ ⟨rfl, _, rfl, h⟩
    · have h := h.2 q
      refine r_iload_n (x := x3) dX9_both_179 rfl ?_
      refine r_if_eq 187 dX9_both_180 (by decide) (fun q => ?_) (fun q => ?_)
      · have h := h.1 q
        refine r_iconst (v := (0 : Int32)) dX9_both_187 (by decide) ?_
        exact r_iret dX9_both_188 rfl ⟨Nat.le_of_ble_eq_true rfl, Nat.le_of_ble_eq_true rfl⟩ ⟨rfl, _, rfl, h⟩
      · have h := h.2 q
        refine r_iconst (v := (1 : Int32)) dX9_both_183 (by decide) ?_
        refine r_goto 188 dX9_both_184 (by decide) ?_
        exact r_iret dX9_both_188 rfl ⟨Nat.le_of_ble_eq_true rfl, Nat.le_of_ble_eq_true rfl⟩ ⟨rfl, _, rfl, h⟩
  by_cases q50 : x1 = (50 : Int32)
  · have h := h.2.2.2.2.2.2.2 ⟨by rw [q50]; decide, by rw [q50]; decide, by rw [q50]; decide, by rw [q50]; decide, by rw [q50]; decide, by rw [q50]; decide, by rw [q50]; decide⟩
    refine r_tIn (xv := (50 : Int32)) 175 dX9_both_1 q50 (by decide) (by decide) rfl (by decide) ?_
    refine r_iload_n (x := x2) dX9_both_175 rfl ?_
    refine r_if_ne 183 dX9_both_176 (by decide) (fun q => ?_) (fun q => ?_)
    · have h := h.1 q
      refine r_iconst (v := (1 : Int32)) dX9_both_183 (by decide) ?_
      refine r_goto 188 dX9_both_184 (by decide) ?_
      exact r_iret dX9_both_188 rfl ⟨Nat.le_of_ble_eq_true rfl, Nat.le_of_ble_eq_true rfl⟩ ⟨rfl, _, rfl, h⟩
    · have h := h.2 q
      refine r_iload_n (x := x3) dX9_both_179 rfl ?_
      refine r_if_eq 187 dX9_both_180 (by decide) (fun q => ?_) (fun q => ?_)
      · have h := h.1 q
        refine r_iconst (v := (0 : Int32)) dX9_both_187 (by decide) ?_
        exact r_iret dX9_both_188 rfl ⟨Nat.le_of_ble_eq_true rfl, Nat.le_of_ble_eq_true rfl⟩ ⟨rfl, _, rfl, h⟩
      · have h := h.2 q
        refine r_iconst (v := (1 : Int32)) dX9_both_183 (by decide) ?_
        refine r_goto 188 dX9_both_184 (by decide) ?_
        exact r_iret dX9_both_188 rfl ⟨Nat.le_of_ble_eq_true rfl, Nat.le_of_ble_eq_true rfl⟩ ⟨rfl, _, rfl, h⟩
  by_cases q51 : x1 = (51 : Int32)
  · have h := h.2.2.2.2.2.2.2 ⟨by rw [q51]; decide, by rw [q51]; decide, by rw [q51]; decide, by rw [q51]; decide, by rw [q51]; decide, by rw [q51]; decide, by rw [q51]; decide⟩
    refine r_tIn (xv := (51 : Int32)) 175 dX9_both_1 q51 (by decide) (by decide) rfl (by decide) ?_
    refine r_iload_n (x := x2) dX9_both_175 rfl ?_
    refine r_if_ne 183 dX9_both_176 (by decide) (fun q => ?_) (fun q => ?_)
    · have h := h.1 q
      refine r_iconst (v := (1 : Int32)) dX9_both_183 (by decide) ?_
      refine r_goto 188 dX9_both_184 (by decide) ?_
      exact r_iret dX9_both_188 rfl ⟨Nat.le_of_ble_eq_true rfl, Nat.le_of_ble_eq_true rfl⟩ ⟨rfl, _, rfl, h⟩
    · have h := h.2 q
      refine r_iload_n (x := x3) dX9_both_179 rfl ?_
      refine r_if_eq 187 dX9_both_180 (by decide) (fun q => ?_) (fun q => ?_)
      · have h := h.1 q
        refine r_iconst (v := (0 : Int32)) dX9_both_187 (by decide) ?_
        exact r_iret dX9_both_188 rfl ⟨Nat.le_of_ble_eq_true rfl, Nat.le_of_ble_eq_true rfl⟩ ⟨rfl, _, rfl, h⟩
      · have h := h.2 q
        refine r_iconst (v := (1 : Int32)) dX9_both_183 (by decide) ?_
        refine r_goto 188 dX9_both_184 (by decide) ?_
        exact r_iret dX9_both_188 rfl ⟨Nat.le_of_ble_eq_true rfl, Nat.le_of_ble_eq_true rfl⟩ ⟨rfl, _, rfl, h⟩
  by_cases q52 : x1 = (52 : Int32)
  · have h := h.2.2.2.2.2.2.2 ⟨by rw [q52]; decide, by rw [q52]; decide, by rw [q52]; decide, by rw [q52]; decide, by rw [q52]; decide, by rw [q52]; decide, by rw [q52]; decide⟩
    refine r_tIn (xv := (52 : Int32)) 175 dX9_both_1 q52 (by decide) (by decide) rfl (by decide) ?_
    refine r_iload_n (x := x2) dX9_both_175 rfl ?_
    refine r_if_ne 183 dX9_both_176 (by decide) (fun q => ?_) (fun q => ?_)
    · have h := h.1 q
      refine r_iconst (v := (1 : Int32)) dX9_both_183 (by decide) ?_
      refine r_goto 188 dX9_both_184 (by decide) ?_
      exact r_iret dX9_both_188 rfl ⟨Nat.le_of_ble_eq_true rfl, Nat.le_of_ble_eq_true rfl⟩ ⟨rfl, _, rfl, h⟩
    · have h := h.2 q
      refine r_iload_n (x := x3) dX9_both_179 rfl ?_
      refine r_if_eq 187 dX9_both_180 (by decide) (fun q => ?_) (fun q => ?_)
      · have h := h.1 q
        refine r_iconst (v := (0 : Int32)) dX9_both_187 (by decide) ?_
        exact r_iret dX9_both_188 rfl ⟨Nat.le_of_ble_eq_true rfl, Nat.le_of_ble_eq_true rfl⟩ ⟨rfl, _, rfl, h⟩
      · have h := h.2 q
        refine r_iconst (v := (1 : Int32)) dX9_both_183 (by decide) ?_
        refine r_goto 188 dX9_both_184 (by decide) ?_
        exact r_iret dX9_both_188 rfl ⟨Nat.le_of_ble_eq_true rfl, Nat.le_of_ble_eq_true rfl⟩ ⟨rfl, _, rfl, h⟩
  by_cases q53 : x1 = (53 : Int32)
  · have h := h.2.2.2.2.2.2.2 ⟨by rw [q53]; decide, by rw [q53]; decide, by rw [q53]; decide, by rw [q53]; decide, by rw [q53]; decide, by rw [q53]; decide, by rw [q53]; decide⟩
    refine r_tIn (xv := (53 : Int32)) 175 dX9_both_1 q53 (by decide) (by decide) rfl (by decide) ?_
    refine r_iload_n (x := x2) dX9_both_175 rfl ?_
    refine r_if_ne 183 dX9_both_176 (by decide) (fun q => ?_) (fun q => ?_)
    · have h := h.1 q
      refine r_iconst (v := (1 : Int32)) dX9_both_183 (by decide) ?_
      refine r_goto 188 dX9_both_184 (by decide) ?_
      exact r_iret dX9_both_188 rfl ⟨Nat.le_of_ble_eq_true rfl, Nat.le_of_ble_eq_true rfl⟩ ⟨rfl, _, rfl, h⟩
    · have h := h.2 q
      refine r_iload_n (x := x3) dX9_both_179 rfl ?_
      refine r_if_eq 187 dX9_both_180 (by decide) (fun q => ?_) (fun q => ?_)
      · have h := h.1 q
        refine r_iconst (v := (0 : Int32)) dX9_both_187 (by decide) ?_
        exact r_iret dX9_both_188 rfl ⟨Nat.le_of_ble_eq_true rfl, Nat.le_of_ble_eq_true rfl⟩ ⟨rfl, _, rfl, h⟩
      · have h := h.2 q
        refine r_iconst (v := (1 : Int32)) dX9_both_183 (by decide) ?_
        refine r_goto 188 dX9_both_184 (by decide) ?_
        exact r_iret dX9_both_188 rfl ⟨Nat.le_of_ble_eq_true rfl, Nat.le_of_ble_eq_true rfl⟩ ⟨rfl, _, rfl, h⟩
  by_cases q54 : x1 = (54 : Int32)
  · have h := h.2.2.2.2.2.2.2 ⟨by rw [q54]; decide, by rw [q54]; decide, by rw [q54]; decide, by rw [q54]; decide, by rw [q54]; decide, by rw [q54]; decide, by rw [q54]; decide⟩
    refine r_tIn (xv := (54 : Int32)) 175 dX9_both_1 q54 (by decide) (by decide) rfl (by decide) ?_
    refine r_iload_n (x := x2) dX9_both_175 rfl ?_
    refine r_if_ne 183 dX9_both_176 (by decide) (fun q => ?_) (fun q => ?_)
    · have h := h.1 q
      refine r_iconst (v := (1 : Int32)) dX9_both_183 (by decide) ?_
      refine r_goto 188 dX9_both_184 (by decide) ?_
      exact r_iret dX9_both_188 rfl ⟨Nat.le_of_ble_eq_true rfl, Nat.le_of_ble_eq_true rfl⟩ ⟨rfl, _, rfl, h⟩
    · have h := h.2 q
      refine r_iload_n (x := x3) dX9_both_179 rfl ?_
      refine r_if_eq 187 dX9_both_180 (by decide) (fun q => ?_) (fun q => ?_)
      · have h := h.1 q
        refine r_iconst (v := (0 : Int32)) dX9_both_187 (by decide) ?_
        exact r_iret dX9_both_188 rfl ⟨Nat.le_of_ble_eq_true rfl, Nat.le_of_ble_eq_true rfl⟩ ⟨rfl, _, rfl, h⟩
      · have h := h.2 q
        refine r_iconst (v := (1 : Int32)) dX9_both_183 (by decide) ?_
        refine r_goto 188 dX9_both_184 (by decide) ?_
        exact r_iret dX9_both_188 rfl ⟨Nat.le_of_ble_eq_true rfl, Nat.le_of_ble_eq_true rfl⟩ ⟨rfl, _, rfl, h⟩
  by_cases q55 : x1 = (55 : Int32)
  · have h := h.2.2.2.2.2.2.2 ⟨by rw [q55]; decide, by rw [q55]; decide, by rw [q55]; decide, by rw [q55]; decide, by rw [q55]; decide, by rw [q55]; decide, by rw [q55]; decide⟩
    refine r_tIn (xv := (55 : Int32)) 175 dX9_both_1 q55 (by decide) (by decide) rfl (by decide) ?_
    refine r_iload_n (x := x2) dX9_both_175 rfl ?_
    refine r_if_ne 183 dX9_both_176 (by decide) (fun q => ?_) (fun q => ?_)
    · have h := h.1 q
      refine r_iconst (v := (1 : Int32)) dX9_both_183 (by decide) ?_
      refine r_goto 188 dX9_both_184 (by decide) ?_
      exact r_iret dX9_both_188 rfl ⟨Nat.le_of_ble_eq_true rfl, Nat.le_of_ble_eq_true rfl⟩ ⟨rfl, _, rfl, h⟩
    · have h := h.2 q
      refine r_iload_n (x := x3) dX9_both_179 rfl ?_
      refine r_if_eq 187 dX9_both_180 (by decide) (fun q => ?_) (fun q => ?_)
      · have h := h.1 q
        refine r_iconst (v := (0 : Int32)) dX9_both_187 (by decide) ?_
        exact r_iret dX9_both_188 rfl ⟨Nat.le_of_ble_eq_true rfl, Nat.le_of_ble_eq_true rfl⟩ ⟨rfl, _, rfl, h⟩
      · have h := h.2 q
        refine r_iconst (v := (1 : Int32)) dX9_both_183 (by decide) ?_
        refine r_goto 188 dX9_both_184 (by decide) ?_
        exact r_iret dX9_both_188 rfl ⟨Nat.le_of_ble_eq_true rfl, Nat.le_of_ble_eq_true rfl⟩ ⟨rfl, _, rfl, h⟩
  by_cases q56 : x1 = (56 : Int32)
  · have h := h.2.2.2.2.2.2.2 ⟨by rw [q56]; decide, by rw [q56]; decide, by rw [q56]; decide, by rw [q56]; decide, by rw [q56]; decide, by rw [q56]; decide, by rw [q56]; decide⟩
    refine r_tIn (xv := (56 : Int32)) 175 dX9_both_1 q56 (by decide) (by decide) rfl (by decide) ?_
    refine r_iload_n (x := x2) dX9_both_175 rfl ?_
    refine r_if_ne 183 dX9_both_176 (by decide) (fun q => ?_) (fun q => ?_)
    · have h := h.1 q
      refine r_iconst (v := (1 : Int32)) dX9_both_183 (by decide) ?_
      refine r_goto 188 dX9_both_184 (by decide) ?_
      exact r_iret dX9_both_188 rfl ⟨Nat.le_of_ble_eq_true rfl, Nat.le_of_ble_eq_true rfl⟩ ⟨rfl, _, rfl, h⟩
    · have h := h.2 q
      refine r_iload_n (x := x3) dX9_both_179 rfl ?_
      refine r_if_eq 187 dX9_both_180 (by decide) (fun q => ?_) (fun q => ?_)
      · have h := h.1 q
        refine r_iconst (v := (0 : Int32)) dX9_both_187 (by decide) ?_
        exact r_iret dX9_both_188 rfl ⟨Nat.le_of_ble_eq_true rfl, Nat.le_of_ble_eq_true rfl⟩ ⟨rfl, _, rfl, h⟩
      · have h := h.2 q
        refine r_iconst (v := (1 : Int32)) dX9_both_183 (by decide) ?_
        refine r_goto 188 dX9_both_184 (by decide) ?_
        exact r_iret dX9_both_188 rfl ⟨Nat.le_of_ble_eq_true rfl, Nat.le_of_ble_eq_true rfl⟩ ⟨rfl, _, rfl, h⟩
  by_cases q57 : x1 = (57 : Int32)
  · have h := h.2.2.2.2.2.2.2 ⟨by rw [q57]; decide, by rw [q57]; decide, by rw [q57]; decide, by rw [q57]; decide, by rw [q57]; decide, by rw [q57]; decide, by rw [q57]; decide⟩
    refine r_tIn (xv := (57 : Int32)) 175 dX9_both_1 q57 (by decide) (by decide) rfl (by decide) ?_
    refine r_iload_n (x := x2) dX9_both_175 rfl ?_
    refine r_if_ne 183 dX9_both_176 (by decide) (fun q => ?_) (fun q => ?_)
    · have h := h.1 q
      refine r_iconst (v := (1 : Int32)) dX9_both_183 (by decide) ?_
      refine r_goto 188 dX9_both_184 (by decide) ?_
      exact r_iret dX9_both_188 rfl ⟨Nat.le_of_ble_eq_true rfl, Nat.le_of_ble_eq_true rfl⟩ ⟨rfl, _, rfl, h⟩
    · have h := h.2 q
      refine r_iload_n (x := x3) dX9_both_179 rfl ?_
      refine r_if_eq 187 dX9_both_180 (by decide) (fun q => ?_) (fun q => ?_)
      · have h := h.1 q
        refine r_iconst (v := (0 : Int32)) dX9_both_187 (by decide) ?_
        exact r_iret dX9_both_188 rfl ⟨Nat.le_of_ble_eq_true rfl, Nat.le_of_ble_eq_true rfl⟩ ⟨rfl, _, rfl, h⟩
      · have h := h.2 q
        refine r_iconst (v := (1 : Int32)) dX9_both_183 (by decide) ?_
        refine r_goto 188 dX9_both_184 (by decide) ?_
        exact r_iret dX9_both_188 rfl ⟨Nat.le_of_ble_eq_true rfl, Nat.le_of_ble_eq_true rfl⟩ ⟨rfl, _, rfl, h⟩
  by_cases q58 : x1 = (58 : Int32)
  · have h := h.2.2.2.2.2.2.2 ⟨by rw [q58]; decide, by rw [q58]; decide, by rw [q58]; decide, by rw [q58]; decide, by rw [q58]; decide, by rw [q58]; decide, by rw [q58]; decide⟩
    refine r_tIn (xv := (58 : Int32)) 175 dX9_both_1 q58 (by decide) (by decide) rfl (by decide) ?_
    refine r_iload_n (x := x2) dX9_both_175 rfl ?_
    refine r_if_ne 183 dX9_both_176 (by decide) (fun q => ?_) (fun q => ?_)
    · have h := h.1 q
      refine r_iconst (v := (1 : Int32)) dX9_both_183 (by decide) ?_
      refine r_goto 188 dX9_both_184 (by decide) ?_
      exact r_iret dX9_both_188 rfl ⟨Nat.le_of_ble_eq_true rfl, Nat.le_of_ble_eq_true rfl⟩ ⟨rfl, _, rfl, h⟩
    · have h := h.2 q
      refine r_iload_n (x := x3) dX9_both_179 rfl ?_
      refine r_if_eq 187 dX9_both_180 (by decide) (fun q => ?_) (fun q => ?_)
      · have h := h.1 q
        refine r_iconst (v := (0 : Int32)) dX9_both_187 (by decide) ?_
        exact r_iret dX9_both_188 rfl ⟨Nat.le_of_ble_eq_true rfl, Nat.le_of_ble_eq_true rfl⟩ ⟨rfl, _, rfl, h⟩
      · have h := h.2 q
        refine r_iconst (v := (1 : Int32)) dX9_both_183 (by decide) ?_
        refine r_goto 188 dX9_both_184 (by decide) ?_
        exact r_iret dX9_both_188 rfl ⟨Nat.le_of_ble_eq_true rfl, Nat.le_of_ble_eq_true rfl⟩ ⟨rfl, _, rfl, h⟩
  by_cases q59 : x1 = (59 : Int32)
  · have h := h.2.2.2.2.2.2.2 ⟨by rw [q59]; decide, by rw [q59]; decide, by rw [q59]; decide, by rw [q59]; decide, by rw [q59]; decide, by rw [q59]; decide, by rw [q59]; decide⟩
    refine r_tIn (xv := (59 : Int32)) 175 dX9_both_1 q59 (by decide) (by decide) rfl (by decide) ?_
    refine r_iload_n (x := x2) dX9_both_175 rfl ?_
    refine r_if_ne 183 dX9_both_176 (by decide) (fun q => ?_) (fun q => ?_)
    · have h := h.1 q
      refine r_iconst (v := (1 : Int32)) dX9_both_183 (by decide) ?_
      refine r_goto 188 dX9_both_184 (by decide) ?_
      exact r_iret dX9_both_188 rfl ⟨Nat.le_of_ble_eq_true rfl, Nat.le_of_ble_eq_true rfl⟩ ⟨rfl, _, rfl, h⟩
    · have h := h.2 q
      refine r_iload_n (x := x3) dX9_both_179 rfl ?_
      refine r_if_eq 187 dX9_both_180 (by decide) (fun q => ?_) (fun q => ?_)
      · have h := h.1 q
        refine r_iconst (v := (0 : Int32)) dX9_both_187 (by decide) ?_
        exact r_iret dX9_both_188 rfl ⟨Nat.le_of_ble_eq_true rfl, Nat.le_of_ble_eq_true rfl⟩ ⟨rfl, _, rfl, h⟩
      · have h := h.2 q
        refine r_iconst (v := (1 : Int32)) dX9_both_183 (by decide) ?_
        refine r_goto 188 dX9_both_184 (by decide) ?_
        exact r_iret dX9_both_188 rfl ⟨Nat.le_of_ble_eq_true rfl, Nat.le_of_ble_eq_true rfl⟩ ⟨rfl, _, rfl, h⟩
  · have h := h.2.2.2.2.2.2.2 ⟨q38, q42, q43, q45, q60, q61, q62⟩
    refine r_tOut 175 dX9_both_1 (by have a38 := lv_neT q38 (a := 38) rfl; have a39 := lv_neT q39 (a := 39) rfl; have a40 := lv_neT q40 (a := 40) rfl; have a41 := lv_neT q41 (a := 41) rfl; have a42 := lv_neT q42 (a := 42) rfl; have a43 := lv_neT q43 (a := 43) rfl; have a44 := lv_neT q44 (a := 44) rfl; have a45 := lv_neT q45 (a := 45) rfl; have a46 := lv_neT q46 (a := 46) rfl; have a47 := lv_neT q47 (a := 47) rfl; have a48 := lv_neT q48 (a := 48) rfl; have a49 := lv_neT q49 (a := 49) rfl; have a50 := lv_neT q50 (a := 50) rfl; have a51 := lv_neT q51 (a := 51) rfl; have a52 := lv_neT q52 (a := 52) rfl; have a53 := lv_neT q53 (a := 53) rfl; have a54 := lv_neT q54 (a := 54) rfl; have a55 := lv_neT q55 (a := 55) rfl; have a56 := lv_neT q56 (a := 56) rfl; have a57 := lv_neT q57 (a := 57) rfl; have a58 := lv_neT q58 (a := 58) rfl; have a59 := lv_neT q59 (a := 59) rfl; have a60 := lv_neT q60 (a := 60) rfl; have a61 := lv_neT q61 (a := 61) rfl; have a62 := lv_neT q62 (a := 62) rfl; omega) (by decide) ?_
    refine r_iload_n (x := x2) dX9_both_175 rfl ?_
    refine r_if_ne 183 dX9_both_176 (by decide) (fun q => ?_) (fun q => ?_)
    · have h := h.1 q
      refine r_iconst (v := (1 : Int32)) dX9_both_183 (by decide) ?_
      refine r_goto 188 dX9_both_184 (by decide) ?_
      exact r_iret dX9_both_188 rfl ⟨Nat.le_of_ble_eq_true rfl, Nat.le_of_ble_eq_true rfl⟩ ⟨rfl, _, rfl, h⟩
    · have h := h.2 q
      refine r_iload_n (x := x3) dX9_both_179 rfl ?_
      refine r_if_eq 187 dX9_both_180 (by decide) (fun q => ?_) (fun q => ?_)
      · have h := h.1 q
        refine r_iconst (v := (0 : Int32)) dX9_both_187 (by decide) ?_
        exact r_iret dX9_both_188 rfl ⟨Nat.le_of_ble_eq_true rfl, Nat.le_of_ble_eq_true rfl⟩ ⟨rfl, _, rfl, h⟩
      · have h := h.2 q
        refine r_iconst (v := (1 : Int32)) dX9_both_183 (by decide) ?_
        refine r_goto 188 dX9_both_184 (by decide) ?_
        exact r_iret dX9_both_188 rfl ⟨Nat.le_of_ble_eq_true rfl, Nat.le_of_ble_eq_true rfl⟩ ⟨rfl, _, rfl, h⟩
abbrev rm_X9_says : Room := { frames := 2, cells := 0, slots := 0, locals := 43 }
def C_X9_says (l : Launch) (G : Gt) (E : Et) (V : Vt) (x1 : Int32) (x2 : Int32) (K : Int32 → Vt → Prop) : Prop := Cl l G yX9_says cX9_says 6 (some .int) rm_X9_says E V [.ref (eA E 9 0), .int x1, .int x2] (Qi E K)
def A_X9_says_14 (l : Launch) (G : Gt) (E : Et) (V : Vt) (x1 : Int32) (x2 : Int32) (x3 : Int32) (x4 : Int32) (K : Int32 → Vt → Prop) : Prop := Ev l G RX9 cX9_says 6 (some .int) rm_X9_says E 0 0 V 14 [(0, .ref (eA E 9 0)), (1, .int x1), (2, .int x2), (3, .int x3), (4, .int x4)] [] (Qi E K)
def vc_X9_says (l : Launch) (G : Gt) (E : Et) (V : Vt) (x1 : Int32) (x2 : Int32) (K : Int32 → Vt → Prop) : Prop := (vp_in (x1 + (1 : Int32)) 51) ∧ A_X9_says_14 l G E V x1 x2 (0 : Int32) ((V 1033 0 ((x1 + (1 : Int32))).toNatClampNeg) - (1 : Int32)) K
def vc_X9_says_14 (l : Launch) (G : Gt) (E : Et) (V : Vt) (x1 : Int32) (x2 : Int32) (x3 : Int32) (x4 : Int32) (K : Int32 → Vt → Prop) : Prop := (vp_in x1 51) ∧ ((x4 < (V 1033 0 (x1).toNatClampNeg) → (vp_in (0 : Int32) 100) ∧ K (V 1037 0 ((0 : Int32)).toNatClampNeg) V) ∧ (¬ x4 < (V 1033 0 (x1).toNatClampNeg) → (vp_in x4 5100) ∧ (((V 1034 0 (x4).toNatClampNeg) < (0 : Int32) → (((0 : Int32) ≤ (V 1034 0 (x4).toNatClampNeg) → (C_X9_named l G E V (V 1034 0 (x4).toNatClampNeg) x2 (fun x22 V21 => (vp_in x3 100) ∧ A_X9_says_14 l G E (up3 V21 1037 0 (x3).toNatClampNeg x22) x1 x2 (x3 + (1 : Int32)) (x4 + (-1 : Int32)) K))) ∧ (¬ (0 : Int32) ≤ (V 1034 0 (x4).toNatClampNeg) → (vp_in x3 100) ∧ A_X9_says_14 l G E (up3 V 1037 0 (x3).toNatClampNeg ((-1 : Int32) - (V 1034 0 (x4).toNatClampNeg))) x1 x2 (x3 + (1 : Int32)) (x4 + (-1 : Int32)) K))) ∧ (¬ (V 1034 0 (x4).toNatClampNeg) < (0 : Int32) → (C_X9_isName l G E V (V 1034 0 (x4).toNatClampNeg) (fun x24 V23 => ((x24 = (0 : Int32) → ((¬ (V 1034 0 (x4).toNatClampNeg) = (33 : Int32) → (vp_in (x3 + (-1 : Int32)) 100) ∧ (vp_in ((x3 + (-1 : Int32)) - (1 : Int32)) 100) ∧ (C_X9_both l G E V23 (V 1034 0 (x4).toNatClampNeg) (V23 1037 0 ((x3 + (-1 : Int32))).toNatClampNeg) (V23 1037 0 (((x3 + (-1 : Int32)) - (1 : Int32))).toNatClampNeg) (fun x26 V25 => (vp_in ((x3 + (-1 : Int32)) - (1 : Int32)) 100) ∧ A_X9_says_14 l G E (up3 V25 1037 0 (((x3 + (-1 : Int32)) - (1 : Int32))).toNatClampNeg x26) x1 x2 (x3 + (-1 : Int32)) (x4 + (-1 : Int32)) K))) ∧ ((V 1034 0 (x4).toNatClampNeg) = (33 : Int32) → (vp_in (x3 - (1 : Int32)) 100) ∧ ((¬ (V23 1037 0 ((x3 - (1 : Int32))).toNatClampNeg) = (0 : Int32) → (vp_in (x3 - (1 : Int32)) 100) ∧ A_X9_says_14 l G E (up3 V23 1037 0 ((x3 - (1 : Int32))).toNatClampNeg (0 : Int32)) x1 x2 x3 (x4 + (-1 : Int32)) K) ∧ ((V23 1037 0 ((x3 - (1 : Int32))).toNatClampNeg) = (0 : Int32) → (vp_in (x3 - (1 : Int32)) 100) ∧ A_X9_says_14 l G E (up3 V23 1037 0 ((x3 - (1 : Int32))).toNatClampNeg (1 : Int32)) x1 x2 x3 (x4 + (-1 : Int32)) K))))) ∧ (¬ x24 = (0 : Int32) → (((0 : Int32) ≤ (V 1034 0 (x4).toNatClampNeg) → (C_X9_named l G E V23 (V 1034 0 (x4).toNatClampNeg) x2 (fun x28 V27 => (vp_in x3 100) ∧ A_X9_says_14 l G E (up3 V27 1037 0 (x3).toNatClampNeg x28) x1 x2 (x3 + (1 : Int32)) (x4 + (-1 : Int32)) K))) ∧ (¬ (0 : Int32) ≤ (V 1034 0 (x4).toNatClampNeg) → (vp_in x3 100) ∧ A_X9_says_14 l G E (up3 V23 1037 0 (x3).toNatClampNeg ((-1 : Int32) - (V 1034 0 (x4).toNatClampNeg))) x1 x2 (x3 + (1 : Int32)) (x4 + (-1 : Int32)) K))))))))))
theorem ok_X9_says {l : Launch} {G : Gt} {E : Et} {V : Vt} {x1 : Int32} {x2 : Int32} {K : Int32 → Vt → Prop} (hE : Sg E)  (h : vc_X9_says l G E V x1 x2 K) : C_X9_says l G E V x1 x2 K := by
  unfold vc_X9_says at h
  refine Cl.of (by decide +kernel) (Nat.le_of_ble_eq_true rfl) (show Ev l G RX9 cX9_says 6 (some .int) rm_X9_says E 0 0 V 0 [(0, .ref (eA E 9 0)), (1, .int x1), (2, .int x2)] [] (Qi E K) from ?_)
  refine r_iconst (v := (0 : Int32)) dX9_says_0 (by decide) ?_
  refine r_istore_n dX9_says_1 (by decide) ?_
  refine r_aload_n (v := .ref (eA E 9 0)) dX9_says_2 rfl (rl_ref _) ?_
  refine r_get (v := .ref (eA E 1033 0)) dX9_says_3 fl_RX9_85 (hE.1 9 (by decide)) rfl ?_
  refine r_iload_n (x := x1) dX9_says_6 rfl ?_
  refine r_iconst (v := (1 : Int32)) dX9_says_7 (by decide) ?_
  refine r_iadd dX9_says_8 ?_
  obtain ⟨hb, h⟩ := h
  refine r_iald dX9_says_9 rfl (by decide) (hE.1 9 (by decide)) (ix hE (by decide) rfl hb) ?_
  refine r_iconst (v := (1 : Int32)) dX9_says_10 (by decide) ?_
  refine r_isub dX9_says_11 ?_
  refine r_istore dX9_says_12 (by decide) ?_
  exact Ev.loc [0, 1, 2, 3, 4] rfl h
theorem ok_X9_says_14 {l : Launch} {G : Gt} {E : Et} {V : Vt} {x1 : Int32} {x2 : Int32} {x3 : Int32} {x4 : Int32} {K : Int32 → Vt → Prop} (hE : Sg E)  (h : vc_X9_says_14 l G E V x1 x2 x3 x4 K) : A_X9_says_14 l G E V x1 x2 x3 x4 K := by
  unfold vc_X9_says_14 at h
  unfold A_X9_says_14
  refine r_iload (x := x4) dX9_says_14 rfl ?_
  refine r_aload_n (v := .ref (eA E 9 0)) dX9_says_16 rfl (rl_ref _) ?_
  refine r_get (v := .ref (eA E 1033 0)) dX9_says_17 fl_RX9_85 (hE.1 9 (by decide)) rfl ?_
  refine r_iload_n (x := x1) dX9_says_20 rfl ?_
  obtain ⟨hb, h⟩ := h
  refine r_iald dX9_says_21 rfl (by decide) (hE.1 9 (by decide)) (ix hE (by decide) rfl hb) ?_
  refine r_icmp_lt 148 dX9_says_22 (by decide) (fun q => ?_) (fun q => ?_)
  · have h := h.1 q
    refine r_aload_n (v := .ref (eA E 9 0)) dX9_says_148 rfl (rl_ref _) ?_
    refine r_get (v := .ref (eA E 1037 0)) dX9_says_149 fl_RX9_94 (hE.1 9 (by decide)) rfl ?_
    refine r_iconst (v := (0 : Int32)) dX9_says_152 (by decide) ?_
    obtain ⟨hb, h⟩ := h
    refine r_iald dX9_says_153 rfl (by decide) (hE.1 9 (by decide)) (ix hE (by decide) rfl hb) ?_
    exact r_iret dX9_says_154 rfl ⟨Nat.le_of_ble_eq_true rfl, Nat.le_of_ble_eq_true rfl⟩ ⟨rfl, _, rfl, h⟩
  · have h := h.2 q
    refine r_aload_n (v := .ref (eA E 9 0)) dX9_says_25 rfl (rl_ref _) ?_
    refine r_get (v := .ref (eA E 1034 0)) dX9_says_26 fl_RX9_88 (hE.1 9 (by decide)) rfl ?_
    refine r_iload (x := x4) dX9_says_29 rfl ?_
    obtain ⟨hb, h⟩ := h
    refine r_iald dX9_says_31 rfl (by decide) (hE.1 9 (by decide)) (ix hE (by decide) rfl hb) ?_
    refine r_istore dX9_says_32 (by decide) ?_
    refine r_iload (x := (V 1034 0 (x4).toNatClampNeg)) dX9_says_34 rfl ?_
    refine r_if_lt 47 dX9_says_36 (by decide) (fun q => ?_) (fun q => ?_)
    · have h := h.1 q
      refine r_aload_n (v := .ref (eA E 9 0)) dX9_says_47 rfl (rl_ref _) ?_
      refine r_get (v := .ref (eA E 1037 0)) dX9_says_48 fl_RX9_94 (hE.1 9 (by decide)) rfl ?_
      refine r_iload_n (x := x3) dX9_says_51 rfl ?_
      refine r_iload (x := (V 1034 0 (x4).toNatClampNeg)) dX9_says_52 rfl ?_
      refine r_if_ge 64 dX9_says_54 (by decide) (fun q => ?_) (fun q => ?_)
      · have h := h.1 q
        refine r_aload_n (v := .ref (eA E 9 0)) dX9_says_64 rfl (rl_ref _) ?_
        refine r_iload (x := (V 1034 0 (x4).toNatClampNeg)) dX9_says_65 rfl ?_
        refine r_iload_n (x := x2) dX9_says_67 rfl ?_
        refine r_cVi (As := [.int (V 1034 0 (x4).toNatClampNeg), .int x2]) (rest := [.int x3, .ref (eA E 1037 0)]) dX9_says_68 mv_X9_named ml_RX9_203 ⟨_, _, rfl⟩ (hE.1 9 (by decide)) ⟨Nat.le_of_ble_eq_true rfl, Nat.le_of_ble_eq_true rfl⟩ ⟨rfl, rfl⟩ rfl rfl (Nat.le_of_ble_eq_true rfl) h (fun x22 V21 h => ?_)
        obtain ⟨hb, h⟩ := h
        refine r_iast dX9_says_71 rfl (by decide) (hE.1 9 (by decide)) (ix hE (by decide) rfl hb) ?_
        refine r_iinc (x := x3) (v := (1 : Int32)) dX9_says_72 rfl (by decide) (by decide) ?_
        refine r_goto 142 dX9_says_75 (by decide) ?_
        refine r_iinc (x := x4) (v := (-1 : Int32)) dX9_says_142 rfl (by decide) (by decide) ?_
        refine r_goto 14 dX9_says_145 (by decide) ?_
        exact Ev.loc [0, 1, 2, 3, 4] rfl h
      · have h := h.2 q
        refine r_iconst (v := (-1 : Int32)) dX9_says_57 (by decide) ?_
        refine r_iload (x := (V 1034 0 (x4).toNatClampNeg)) dX9_says_58 rfl ?_
        refine r_isub dX9_says_60 ?_
        refine r_goto 71 dX9_says_61 (by decide) ?_
        obtain ⟨hb, h⟩ := h
        refine r_iast dX9_says_71 rfl (by decide) (hE.1 9 (by decide)) (ix hE (by decide) rfl hb) ?_
        refine r_iinc (x := x3) (v := (1 : Int32)) dX9_says_72 rfl (by decide) (by decide) ?_
        refine r_goto 142 dX9_says_75 (by decide) ?_
        refine r_iinc (x := x4) (v := (-1 : Int32)) dX9_says_142 rfl (by decide) (by decide) ?_
        refine r_goto 14 dX9_says_145 (by decide) ?_
        exact Ev.loc [0, 1, 2, 3, 4] rfl h
    · have h := h.2 q
      refine r_iload (x := (V 1034 0 (x4).toNatClampNeg)) dX9_says_39 rfl ?_
      refine r_cSi (As := [.int (V 1034 0 (x4).toNatClampNeg)]) (rest := []) dX9_says_41 ms_X9_isName ml_RX9_188 ⟨Nat.le_of_ble_eq_true rfl, Nat.le_of_ble_eq_true rfl⟩ ⟨rfl, rfl⟩ rfl rfl (Nat.le_of_ble_eq_true rfl) h (fun x24 V23 h => ?_)
      refine r_if_eq 78 dX9_says_44 (by decide) (fun q => ?_) (fun q => ?_)
      · have h := h.1 q
        refine r_iload (x := (V 1034 0 (x4).toNatClampNeg)) dX9_says_78 rfl ?_
        refine r_bipush (v := (33 : Int32)) dX9_says_80 (by decide) ?_
        refine r_icmp_ne 112 dX9_says_82 (by decide) (fun q => ?_) (fun q => ?_)
        · have h := h.1 q
          refine r_iinc (x := x3) (v := (-1 : Int32)) dX9_says_112 rfl (by decide) (by decide) ?_
          refine r_aload_n (v := .ref (eA E 9 0)) dX9_says_115 rfl (rl_ref _) ?_
          refine r_get (v := .ref (eA E 1037 0)) dX9_says_116 fl_RX9_94 (hE.1 9 (by decide)) rfl ?_
          refine r_iload_n (x := (x3 + (-1 : Int32))) dX9_says_119 rfl ?_
          refine r_iconst (v := (1 : Int32)) dX9_says_120 (by decide) ?_
          refine r_isub dX9_says_121 ?_
          refine r_iload (x := (V 1034 0 (x4).toNatClampNeg)) dX9_says_122 rfl ?_
          refine r_aload_n (v := .ref (eA E 9 0)) dX9_says_124 rfl (rl_ref _) ?_
          refine r_get (v := .ref (eA E 1037 0)) dX9_says_125 fl_RX9_94 (hE.1 9 (by decide)) rfl ?_
          refine r_iload_n (x := (x3 + (-1 : Int32))) dX9_says_128 rfl ?_
          obtain ⟨hb, h⟩ := h
          refine r_iald dX9_says_129 rfl (by decide) (hE.1 9 (by decide)) (ix hE (by decide) rfl hb) ?_
          refine r_aload_n (v := .ref (eA E 9 0)) dX9_says_130 rfl (rl_ref _) ?_
          refine r_get (v := .ref (eA E 1037 0)) dX9_says_131 fl_RX9_94 (hE.1 9 (by decide)) rfl ?_
          refine r_iload_n (x := (x3 + (-1 : Int32))) dX9_says_134 rfl ?_
          refine r_iconst (v := (1 : Int32)) dX9_says_135 (by decide) ?_
          refine r_isub dX9_says_136 ?_
          obtain ⟨hb, h⟩ := h
          refine r_iald dX9_says_137 rfl (by decide) (hE.1 9 (by decide)) (ix hE (by decide) rfl hb) ?_
          refine r_cSi (As := [.int (V 1034 0 (x4).toNatClampNeg), .int (V23 1037 0 ((x3 + (-1 : Int32))).toNatClampNeg), .int (V23 1037 0 (((x3 + (-1 : Int32)) - (1 : Int32))).toNatClampNeg)]) (rest := [.int ((x3 + (-1 : Int32)) - (1 : Int32)), .ref (eA E 1037 0)]) dX9_says_138 ms_X9_both ml_RX9_206 ⟨Nat.le_of_ble_eq_true rfl, Nat.le_of_ble_eq_true rfl⟩ ⟨rfl, rfl⟩ rfl rfl (Nat.le_of_ble_eq_true rfl) h (fun x26 V25 h => ?_)
          obtain ⟨hb, h⟩ := h
          refine r_iast dX9_says_141 rfl (by decide) (hE.1 9 (by decide)) (ix hE (by decide) rfl hb) ?_
          refine r_iinc (x := x4) (v := (-1 : Int32)) dX9_says_142 rfl (by decide) (by decide) ?_
          refine r_goto 14 dX9_says_145 (by decide) ?_
          exact Ev.loc [0, 1, 2, 3, 4] rfl h
        · have h := h.2 q
          refine r_aload_n (v := .ref (eA E 9 0)) dX9_says_85 rfl (rl_ref _) ?_
          refine r_get (v := .ref (eA E 1037 0)) dX9_says_86 fl_RX9_94 (hE.1 9 (by decide)) rfl ?_
          refine r_iload_n (x := x3) dX9_says_89 rfl ?_
          refine r_iconst (v := (1 : Int32)) dX9_says_90 (by decide) ?_
          refine r_isub dX9_says_91 ?_
          refine r_aload_n (v := .ref (eA E 9 0)) dX9_says_92 rfl (rl_ref _) ?_
          refine r_get (v := .ref (eA E 1037 0)) dX9_says_93 fl_RX9_94 (hE.1 9 (by decide)) rfl ?_
          refine r_iload_n (x := x3) dX9_says_96 rfl ?_
          refine r_iconst (v := (1 : Int32)) dX9_says_97 (by decide) ?_
          refine r_isub dX9_says_98 ?_
          obtain ⟨hb, h⟩ := h
          refine r_iald dX9_says_99 rfl (by decide) (hE.1 9 (by decide)) (ix hE (by decide) rfl hb) ?_
          refine r_if_ne 107 dX9_says_100 (by decide) (fun q => ?_) (fun q => ?_)
          · have h := h.1 q
            refine r_iconst (v := (0 : Int32)) dX9_says_107 (by decide) ?_
            obtain ⟨hb, h⟩ := h
            refine r_iast dX9_says_108 rfl (by decide) (hE.1 9 (by decide)) (ix hE (by decide) rfl hb) ?_
            refine r_goto 142 dX9_says_109 (by decide) ?_
            refine r_iinc (x := x4) (v := (-1 : Int32)) dX9_says_142 rfl (by decide) (by decide) ?_
            refine r_goto 14 dX9_says_145 (by decide) ?_
            exact Ev.loc [0, 1, 2, 3, 4] rfl h
          · have h := h.2 q
            refine r_iconst (v := (1 : Int32)) dX9_says_103 (by decide) ?_
            refine r_goto 108 dX9_says_104 (by decide) ?_
            obtain ⟨hb, h⟩ := h
            refine r_iast dX9_says_108 rfl (by decide) (hE.1 9 (by decide)) (ix hE (by decide) rfl hb) ?_
            refine r_goto 142 dX9_says_109 (by decide) ?_
            refine r_iinc (x := x4) (v := (-1 : Int32)) dX9_says_142 rfl (by decide) (by decide) ?_
            refine r_goto 14 dX9_says_145 (by decide) ?_
            exact Ev.loc [0, 1, 2, 3, 4] rfl h
      · have h := h.2 q
        refine r_aload_n (v := .ref (eA E 9 0)) dX9_says_47 rfl (rl_ref _) ?_
        refine r_get (v := .ref (eA E 1037 0)) dX9_says_48 fl_RX9_94 (hE.1 9 (by decide)) rfl ?_
        refine r_iload_n (x := x3) dX9_says_51 rfl ?_
        refine r_iload (x := (V 1034 0 (x4).toNatClampNeg)) dX9_says_52 rfl ?_
        refine r_if_ge 64 dX9_says_54 (by decide) (fun q => ?_) (fun q => ?_)
        · have h := h.1 q
          refine r_aload_n (v := .ref (eA E 9 0)) dX9_says_64 rfl (rl_ref _) ?_
          refine r_iload (x := (V 1034 0 (x4).toNatClampNeg)) dX9_says_65 rfl ?_
          refine r_iload_n (x := x2) dX9_says_67 rfl ?_
          refine r_cVi (As := [.int (V 1034 0 (x4).toNatClampNeg), .int x2]) (rest := [.int x3, .ref (eA E 1037 0)]) dX9_says_68 mv_X9_named ml_RX9_203 ⟨_, _, rfl⟩ (hE.1 9 (by decide)) ⟨Nat.le_of_ble_eq_true rfl, Nat.le_of_ble_eq_true rfl⟩ ⟨rfl, rfl⟩ rfl rfl (Nat.le_of_ble_eq_true rfl) h (fun x28 V27 h => ?_)
          obtain ⟨hb, h⟩ := h
          refine r_iast dX9_says_71 rfl (by decide) (hE.1 9 (by decide)) (ix hE (by decide) rfl hb) ?_
          refine r_iinc (x := x3) (v := (1 : Int32)) dX9_says_72 rfl (by decide) (by decide) ?_
          refine r_goto 142 dX9_says_75 (by decide) ?_
          refine r_iinc (x := x4) (v := (-1 : Int32)) dX9_says_142 rfl (by decide) (by decide) ?_
          refine r_goto 14 dX9_says_145 (by decide) ?_
          exact Ev.loc [0, 1, 2, 3, 4] rfl h
        · have h := h.2 q
          refine r_iconst (v := (-1 : Int32)) dX9_says_57 (by decide) ?_
          refine r_iload (x := (V 1034 0 (x4).toNatClampNeg)) dX9_says_58 rfl ?_
          refine r_isub dX9_says_60 ?_
          refine r_goto 71 dX9_says_61 (by decide) ?_
          obtain ⟨hb, h⟩ := h
          refine r_iast dX9_says_71 rfl (by decide) (hE.1 9 (by decide)) (ix hE (by decide) rfl hb) ?_
          refine r_iinc (x := x3) (v := (1 : Int32)) dX9_says_72 rfl (by decide) (by decide) ?_
          refine r_goto 142 dX9_says_75 (by decide) ?_
          refine r_iinc (x := x4) (v := (-1 : Int32)) dX9_says_142 rfl (by decide) (by decide) ?_
          refine r_goto 14 dX9_says_145 (by decide) ?_
          exact Ev.loc [0, 1, 2, 3, 4] rfl h
abbrev rm_X9_isGift : Room := { frames := 1, cells := 0, slots := 0, locals := 22 }
def C_X9_isGift (l : Launch) (G : Gt) (E : Et) (V : Vt) (x1 : Int32) (K : Int32 → Vt → Prop) : Prop := Cl l G yX9_isGift cX9_isGift 2 (some .boolean) rm_X9_isGift E V [.ref (eA E 9 0), .int x1] (Qi E K)
def vc_X9_isGift (l : Launch) (G : Gt) (E : Et) (V : Vt) (x1 : Int32) (K : Int32 → Vt → Prop) : Prop := (C_X9_in l G E V x1 (0 : Int32) ((V 1038 0 0) - (1 : Int32)) (fun x22 V21 => (x22 = (0 : Int32) ∨ x22 = (1 : Int32)) ∧ K x22 V21))
theorem ok_X9_isGift {l : Launch} {G : Gt} {E : Et} {V : Vt} {x1 : Int32} {K : Int32 → Vt → Prop} (hE : Sg E)  (h : vc_X9_isGift l G E V x1 K) : C_X9_isGift l G E V x1 K := by
  unfold vc_X9_isGift at h
  refine Cl.of (by decide +kernel) (Nat.le_of_ble_eq_true rfl) (show Ev l G RX9 cX9_isGift 2 (some .boolean) rm_X9_isGift E 0 0 V 0 [(0, .ref (eA E 9 0)), (1, .int x1)] [] (Qi E K) from ?_)
  refine r_iload_n (x := x1) dX9_isGift_0 rfl ?_
  refine r_iconst (v := (0 : Int32)) dX9_isGift_1 (by decide) ?_
  refine r_aload_n (v := .ref (eA E 9 0)) dX9_isGift_2 rfl (rl_ref _) ?_
  refine r_get (v := .int (V 1038 0 0)) dX9_isGift_3 fl_RX9_210 (hE.1 9 (by decide)) rfl ?_
  refine r_iconst (v := (1 : Int32)) dX9_isGift_6 (by decide) ?_
  refine r_isub dX9_isGift_7 ?_
  refine r_cSi (As := [.int x1, .int (0 : Int32), .int ((V 1038 0 0) - (1 : Int32))]) (rest := []) dX9_isGift_8 ms_X9_in ml_RX9_125 ⟨Nat.le_of_ble_eq_true rfl, Nat.le_of_ble_eq_true rfl⟩ ⟨rfl, rfl⟩ rfl rfl (Nat.le_of_ble_eq_true rfl) h (fun x22 V21 h => ?_)
  obtain ⟨hz, h⟩ := h
  exact r_zret dX9_isGift_11 rfl (nbz hz) ⟨Nat.le_of_ble_eq_true rfl, Nat.le_of_ble_eq_true rfl⟩ ⟨rfl, _, rfl, h⟩
abbrev rm_X9_gift : Room := { frames := 2, cells := 0, slots := 0, locals := 46 }
def C_X9_gift (l : Launch) (G : Gt) (E : Et) (V : Vt) (x1 : Int32) (K : Int32 → Vt → Prop) : Prop := Cl l G yX9_gift cX9_gift 4 (some .int) rm_X9_gift E V [.ref (eA E 9 0), .int x1] (Qi E K)
def vc_X9_gift (l : Launch) (G : Gt) (E : Et) (V : Vt) (x1 : Int32) (K : Int32 → Vt → Prop) : Prop := (C_X9_in l G E V x1 (1 : Int32) (1000000 : Int32) (fun x22 V21 => ((¬ x22 = (0 : Int32) → ((¬ (V21 1038 0 0) = (30 : Int32) → (((V21 1031 0 0) ≤ (0 : Int32) → (vp_in (V21 1038 0 0) 30) ∧ (vp_in ((up3 V21 1039 0 ((V21 1038 0 0)).toNatClampNeg x1) 1038 0 0) 30) ∧ (vp_in ((up3 (up3 V21 1039 0 ((V21 1038 0 0)).toNatClampNeg x1) 1040 0 (((up3 V21 1039 0 ((V21 1038 0 0)).toNatClampNeg x1) 1038 0 0)).toNatClampNeg x1) 1038 0 0) 30) ∧ K (((up3 (up3 (up3 (up3 V21 1039 0 ((V21 1038 0 0)).toNatClampNeg x1) 1040 0 (((up3 V21 1039 0 ((V21 1038 0 0)).toNatClampNeg x1) 1038 0 0)).toNatClampNeg x1) 1041 0 (((up3 (up3 V21 1039 0 ((V21 1038 0 0)).toNatClampNeg x1) 1040 0 (((up3 V21 1039 0 ((V21 1038 0 0)).toNatClampNeg x1) 1038 0 0)).toNatClampNeg x1) 1038 0 0)).toNatClampNeg (-1 : Int32)) 1038 0 0 (((up3 (up3 (up3 V21 1039 0 ((V21 1038 0 0)).toNatClampNeg x1) 1040 0 (((up3 V21 1039 0 ((V21 1038 0 0)).toNatClampNeg x1) 1038 0 0)).toNatClampNeg x1) 1041 0 (((up3 (up3 V21 1039 0 ((V21 1038 0 0)).toNatClampNeg x1) 1040 0 (((up3 V21 1039 0 ((V21 1038 0 0)).toNatClampNeg x1) 1038 0 0)).toNatClampNeg x1) 1038 0 0)).toNatClampNeg (-1 : Int32)) 1038 0 0) + (1 : Int32))) 1038 0 0) - (1 : Int32)) (up3 (up3 (up3 (up3 V21 1039 0 ((V21 1038 0 0)).toNatClampNeg x1) 1040 0 (((up3 V21 1039 0 ((V21 1038 0 0)).toNatClampNeg x1) 1038 0 0)).toNatClampNeg x1) 1041 0 (((up3 (up3 V21 1039 0 ((V21 1038 0 0)).toNatClampNeg x1) 1040 0 (((up3 V21 1039 0 ((V21 1038 0 0)).toNatClampNeg x1) 1038 0 0)).toNatClampNeg x1) 1038 0 0)).toNatClampNeg (-1 : Int32)) 1038 0 0 (((up3 (up3 (up3 V21 1039 0 ((V21 1038 0 0)).toNatClampNeg x1) 1040 0 (((up3 V21 1039 0 ((V21 1038 0 0)).toNatClampNeg x1) 1038 0 0)).toNatClampNeg x1) 1041 0 (((up3 (up3 V21 1039 0 ((V21 1038 0 0)).toNatClampNeg x1) 1040 0 (((up3 V21 1039 0 ((V21 1038 0 0)).toNatClampNeg x1) 1038 0 0)).toNatClampNeg x1) 1038 0 0)).toNatClampNeg (-1 : Int32)) 1038 0 0) + (1 : Int32)))) ∧ (¬ (V21 1031 0 0) ≤ (0 : Int32) → (C_X9_read l G E V21 (fun x24 V23 => ((x24 < (0 : Int32) → (C_X9_keep l G E V23 (fun x26 V25 => (vp_in (V25 1038 0 0) 30) ∧ (vp_in ((up3 V25 1039 0 ((V25 1038 0 0)).toNatClampNeg x1) 1038 0 0) 30) ∧ (vp_in ((up3 (up3 V25 1039 0 ((V25 1038 0 0)).toNatClampNeg x1) 1040 0 (((up3 V25 1039 0 ((V25 1038 0 0)).toNatClampNeg x1) 1038 0 0)).toNatClampNeg x1) 1038 0 0) 30) ∧ K (((up3 (up3 (up3 (up3 V25 1039 0 ((V25 1038 0 0)).toNatClampNeg x1) 1040 0 (((up3 V25 1039 0 ((V25 1038 0 0)).toNatClampNeg x1) 1038 0 0)).toNatClampNeg x1) 1041 0 (((up3 (up3 V25 1039 0 ((V25 1038 0 0)).toNatClampNeg x1) 1040 0 (((up3 V25 1039 0 ((V25 1038 0 0)).toNatClampNeg x1) 1038 0 0)).toNatClampNeg x1) 1038 0 0)).toNatClampNeg x26) 1038 0 0 (((up3 (up3 (up3 V25 1039 0 ((V25 1038 0 0)).toNatClampNeg x1) 1040 0 (((up3 V25 1039 0 ((V25 1038 0 0)).toNatClampNeg x1) 1038 0 0)).toNatClampNeg x1) 1041 0 (((up3 (up3 V25 1039 0 ((V25 1038 0 0)).toNatClampNeg x1) 1040 0 (((up3 V25 1039 0 ((V25 1038 0 0)).toNatClampNeg x1) 1038 0 0)).toNatClampNeg x1) 1038 0 0)).toNatClampNeg x26) 1038 0 0) + (1 : Int32))) 1038 0 0) - (1 : Int32)) (up3 (up3 (up3 (up3 V25 1039 0 ((V25 1038 0 0)).toNatClampNeg x1) 1040 0 (((up3 V25 1039 0 ((V25 1038 0 0)).toNatClampNeg x1) 1038 0 0)).toNatClampNeg x1) 1041 0 (((up3 (up3 V25 1039 0 ((V25 1038 0 0)).toNatClampNeg x1) 1040 0 (((up3 V25 1039 0 ((V25 1038 0 0)).toNatClampNeg x1) 1038 0 0)).toNatClampNeg x1) 1038 0 0)).toNatClampNeg x26) 1038 0 0 (((up3 (up3 (up3 V25 1039 0 ((V25 1038 0 0)).toNatClampNeg x1) 1040 0 (((up3 V25 1039 0 ((V25 1038 0 0)).toNatClampNeg x1) 1038 0 0)).toNatClampNeg x1) 1041 0 (((up3 (up3 V25 1039 0 ((V25 1038 0 0)).toNatClampNeg x1) 1040 0 (((up3 V25 1039 0 ((V25 1038 0 0)).toNatClampNeg x1) 1038 0 0)).toNatClampNeg x1) 1038 0 0)).toNatClampNeg x26) 1038 0 0) + (1 : Int32)))))) ∧ (¬ x24 < (0 : Int32) → K ((-100 : Int32) - x24) (up3 V23 1031 0 0 (0 : Int32))))))))) ∧ ((V21 1038 0 0) = (30 : Int32) → K (-3 : Int32) V21))) ∧ (x22 = (0 : Int32) → K (-1 : Int32) V21))))
theorem ok_X9_gift {l : Launch} {G : Gt} {E : Et} {V : Vt} {x1 : Int32} {K : Int32 → Vt → Prop} (hE : Sg E)  (h : vc_X9_gift l G E V x1 K) : C_X9_gift l G E V x1 K := by
  unfold vc_X9_gift at h
  refine Cl.of (by decide +kernel) (Nat.le_of_ble_eq_true rfl) (show Ev l G RX9 cX9_gift 4 (some .int) rm_X9_gift E 0 0 V 0 [(0, .ref (eA E 9 0)), (1, .int x1)] [] (Qi E K) from ?_)
  refine r_iload_n (x := x1) dX9_gift_0 rfl ?_
  refine r_iconst (v := (1 : Int32)) dX9_gift_1 (by decide) ?_
  refine r_ldc dX9_gift_2 kc_RX9_129 ?_
  refine r_cSi (As := [.int x1, .int (1 : Int32), .int (1000000 : Int32)]) (rest := []) dX9_gift_4 ms_X9_in ml_RX9_125 ⟨Nat.le_of_ble_eq_true rfl, Nat.le_of_ble_eq_true rfl⟩ ⟨rfl, rfl⟩ rfl rfl (Nat.le_of_ble_eq_true rfl) h (fun x22 V21 h => ?_)
  refine r_if_ne 12 dX9_gift_7 (by decide) (fun q => ?_) (fun q => ?_)
  · have h := h.1 q
    refine r_aload_n (v := .ref (eA E 9 0)) dX9_gift_12 rfl (rl_ref _) ?_
    refine r_get (v := .int (V21 1038 0 0)) dX9_gift_13 fl_RX9_210 (hE.1 9 (by decide)) rfl ?_
    refine r_bipush (v := (30 : Int32)) dX9_gift_16 (by decide) ?_
    refine r_icmp_ne 24 dX9_gift_18 (by decide) (fun q => ?_) (fun q => ?_)
    · have h := h.1 q
      refine r_iconst (v := (-1 : Int32)) dX9_gift_24 (by decide) ?_
      refine r_istore_n dX9_gift_25 (by decide) ?_
      refine r_aload_n (v := .ref (eA E 9 0)) dX9_gift_26 rfl (rl_ref _) ?_
      refine r_get (v := .int (V21 1031 0 0)) dX9_gift_27 fl_RX9_169 (hE.1 9 (by decide)) rfl ?_
      refine r_if_le 57 dX9_gift_30 (by decide) (fun q => ?_) (fun q => ?_)
      · have h := h.1 q
        refine r_aload_n (v := .ref (eA E 9 0)) dX9_gift_57 rfl (rl_ref _) ?_
        refine r_get (v := .ref (eA E 1039 0)) dX9_gift_58 fl_RX9_97 (hE.1 9 (by decide)) rfl ?_
        refine r_aload_n (v := .ref (eA E 9 0)) dX9_gift_61 rfl (rl_ref _) ?_
        refine r_get (v := .int (V21 1038 0 0)) dX9_gift_62 fl_RX9_210 (hE.1 9 (by decide)) rfl ?_
        refine r_iload_n (x := x1) dX9_gift_65 rfl ?_
        obtain ⟨hb, h⟩ := h
        refine r_iast dX9_gift_66 rfl (by decide) (hE.1 9 (by decide)) (ix hE (by decide) rfl hb) ?_
        refine r_aload_n (v := .ref (eA E 9 0)) dX9_gift_67 rfl (rl_ref _) ?_
        refine r_get (v := .ref (eA E 1040 0)) dX9_gift_68 fl_RX9_100 (hE.1 9 (by decide)) rfl ?_
        refine r_aload_n (v := .ref (eA E 9 0)) dX9_gift_71 rfl (rl_ref _) ?_
        refine r_get (v := .int ((up3 V21 1039 0 ((V21 1038 0 0)).toNatClampNeg x1) 1038 0 0)) dX9_gift_72 fl_RX9_210 (hE.1 9 (by decide)) rfl ?_
        refine r_iload_n (x := x1) dX9_gift_75 rfl ?_
        obtain ⟨hb, h⟩ := h
        refine r_iast dX9_gift_76 rfl (by decide) (hE.1 9 (by decide)) (ix hE (by decide) rfl hb) ?_
        refine r_aload_n (v := .ref (eA E 9 0)) dX9_gift_77 rfl (rl_ref _) ?_
        refine r_get (v := .ref (eA E 1041 0)) dX9_gift_78 fl_RX9_103 (hE.1 9 (by decide)) rfl ?_
        refine r_aload_n (v := .ref (eA E 9 0)) dX9_gift_81 rfl (rl_ref _) ?_
        refine r_get (v := .int ((up3 (up3 V21 1039 0 ((V21 1038 0 0)).toNatClampNeg x1) 1040 0 (((up3 V21 1039 0 ((V21 1038 0 0)).toNatClampNeg x1) 1038 0 0)).toNatClampNeg x1) 1038 0 0)) dX9_gift_82 fl_RX9_210 (hE.1 9 (by decide)) rfl ?_
        refine r_iload_n (x := (-1 : Int32)) dX9_gift_85 rfl ?_
        obtain ⟨hb, h⟩ := h
        refine r_iast dX9_gift_86 rfl (by decide) (hE.1 9 (by decide)) (ix hE (by decide) rfl hb) ?_
        refine r_aload_n (v := .ref (eA E 9 0)) dX9_gift_87 rfl (rl_ref _) ?_
        refine r_dup dX9_gift_88 rfl ?_
        refine r_get (v := .int ((up3 (up3 (up3 V21 1039 0 ((V21 1038 0 0)).toNatClampNeg x1) 1040 0 (((up3 V21 1039 0 ((V21 1038 0 0)).toNatClampNeg x1) 1038 0 0)).toNatClampNeg x1) 1041 0 (((up3 (up3 V21 1039 0 ((V21 1038 0 0)).toNatClampNeg x1) 1040 0 (((up3 V21 1039 0 ((V21 1038 0 0)).toNatClampNeg x1) 1038 0 0)).toNatClampNeg x1) 1038 0 0)).toNatClampNeg (-1 : Int32)) 1038 0 0)) dX9_gift_89 fl_RX9_210 (hE.1 9 (by decide)) rfl ?_
        refine r_iconst (v := (1 : Int32)) dX9_gift_92 (by decide) ?_
        refine r_iadd dX9_gift_93 ?_
        refine r_put dX9_gift_94 fp_RX9_210 rfl (hE.1 9 (by decide)) rfl rfl ?_
        refine r_aload_n (v := .ref (eA E 9 0)) dX9_gift_97 rfl (rl_ref _) ?_
        refine r_get (v := .int ((up3 (up3 (up3 (up3 V21 1039 0 ((V21 1038 0 0)).toNatClampNeg x1) 1040 0 (((up3 V21 1039 0 ((V21 1038 0 0)).toNatClampNeg x1) 1038 0 0)).toNatClampNeg x1) 1041 0 (((up3 (up3 V21 1039 0 ((V21 1038 0 0)).toNatClampNeg x1) 1040 0 (((up3 V21 1039 0 ((V21 1038 0 0)).toNatClampNeg x1) 1038 0 0)).toNatClampNeg x1) 1038 0 0)).toNatClampNeg (-1 : Int32)) 1038 0 0 (((up3 (up3 (up3 V21 1039 0 ((V21 1038 0 0)).toNatClampNeg x1) 1040 0 (((up3 V21 1039 0 ((V21 1038 0 0)).toNatClampNeg x1) 1038 0 0)).toNatClampNeg x1) 1041 0 (((up3 (up3 V21 1039 0 ((V21 1038 0 0)).toNatClampNeg x1) 1040 0 (((up3 V21 1039 0 ((V21 1038 0 0)).toNatClampNeg x1) 1038 0 0)).toNatClampNeg x1) 1038 0 0)).toNatClampNeg (-1 : Int32)) 1038 0 0) + (1 : Int32))) 1038 0 0)) dX9_gift_98 fl_RX9_210 (hE.1 9 (by decide)) rfl ?_
        refine r_iconst (v := (1 : Int32)) dX9_gift_101 (by decide) ?_
        refine r_isub dX9_gift_102 ?_
        exact r_iret dX9_gift_103 rfl ⟨Nat.le_of_ble_eq_true rfl, Nat.le_of_ble_eq_true rfl⟩ ⟨rfl, _, rfl, h⟩
      · have h := h.2 q
        refine r_aload_n (v := .ref (eA E 9 0)) dX9_gift_33 rfl (rl_ref _) ?_
        refine r_cVi (As := []) (rest := []) dX9_gift_34 mv_X9_read ml_RX9_213 ⟨_, _, rfl⟩ (hE.1 9 (by decide)) ⟨Nat.le_of_ble_eq_true rfl, Nat.le_of_ble_eq_true rfl⟩ ⟨rfl, rfl⟩ rfl rfl (Nat.le_of_ble_eq_true rfl) h (fun x24 V23 h => ?_)
        refine r_istore_n dX9_gift_37 (by decide) ?_
        refine r_iload_n (x := x24) dX9_gift_38 rfl ?_
        refine r_if_lt 52 dX9_gift_39 (by decide) (fun q => ?_) (fun q => ?_)
        · have h := h.1 q
          refine r_aload_n (v := .ref (eA E 9 0)) dX9_gift_52 rfl (rl_ref _) ?_
          refine r_cVi (As := []) (rest := []) dX9_gift_53 mv_X9_keep ml_RX9_216 ⟨_, _, rfl⟩ (hE.1 9 (by decide)) ⟨Nat.le_of_ble_eq_true rfl, Nat.le_of_ble_eq_true rfl⟩ ⟨rfl, rfl⟩ rfl rfl (Nat.le_of_ble_eq_true rfl) h (fun x26 V25 h => ?_)
          refine r_istore_n dX9_gift_56 (by decide) ?_
          refine r_aload_n (v := .ref (eA E 9 0)) dX9_gift_57 rfl (rl_ref _) ?_
          refine r_get (v := .ref (eA E 1039 0)) dX9_gift_58 fl_RX9_97 (hE.1 9 (by decide)) rfl ?_
          refine r_aload_n (v := .ref (eA E 9 0)) dX9_gift_61 rfl (rl_ref _) ?_
          refine r_get (v := .int (V25 1038 0 0)) dX9_gift_62 fl_RX9_210 (hE.1 9 (by decide)) rfl ?_
          refine r_iload_n (x := x1) dX9_gift_65 rfl ?_
          obtain ⟨hb, h⟩ := h
          refine r_iast dX9_gift_66 rfl (by decide) (hE.1 9 (by decide)) (ix hE (by decide) rfl hb) ?_
          refine r_aload_n (v := .ref (eA E 9 0)) dX9_gift_67 rfl (rl_ref _) ?_
          refine r_get (v := .ref (eA E 1040 0)) dX9_gift_68 fl_RX9_100 (hE.1 9 (by decide)) rfl ?_
          refine r_aload_n (v := .ref (eA E 9 0)) dX9_gift_71 rfl (rl_ref _) ?_
          refine r_get (v := .int ((up3 V25 1039 0 ((V25 1038 0 0)).toNatClampNeg x1) 1038 0 0)) dX9_gift_72 fl_RX9_210 (hE.1 9 (by decide)) rfl ?_
          refine r_iload_n (x := x1) dX9_gift_75 rfl ?_
          obtain ⟨hb, h⟩ := h
          refine r_iast dX9_gift_76 rfl (by decide) (hE.1 9 (by decide)) (ix hE (by decide) rfl hb) ?_
          refine r_aload_n (v := .ref (eA E 9 0)) dX9_gift_77 rfl (rl_ref _) ?_
          refine r_get (v := .ref (eA E 1041 0)) dX9_gift_78 fl_RX9_103 (hE.1 9 (by decide)) rfl ?_
          refine r_aload_n (v := .ref (eA E 9 0)) dX9_gift_81 rfl (rl_ref _) ?_
          refine r_get (v := .int ((up3 (up3 V25 1039 0 ((V25 1038 0 0)).toNatClampNeg x1) 1040 0 (((up3 V25 1039 0 ((V25 1038 0 0)).toNatClampNeg x1) 1038 0 0)).toNatClampNeg x1) 1038 0 0)) dX9_gift_82 fl_RX9_210 (hE.1 9 (by decide)) rfl ?_
          refine r_iload_n (x := x26) dX9_gift_85 rfl ?_
          obtain ⟨hb, h⟩ := h
          refine r_iast dX9_gift_86 rfl (by decide) (hE.1 9 (by decide)) (ix hE (by decide) rfl hb) ?_
          refine r_aload_n (v := .ref (eA E 9 0)) dX9_gift_87 rfl (rl_ref _) ?_
          refine r_dup dX9_gift_88 rfl ?_
          refine r_get (v := .int ((up3 (up3 (up3 V25 1039 0 ((V25 1038 0 0)).toNatClampNeg x1) 1040 0 (((up3 V25 1039 0 ((V25 1038 0 0)).toNatClampNeg x1) 1038 0 0)).toNatClampNeg x1) 1041 0 (((up3 (up3 V25 1039 0 ((V25 1038 0 0)).toNatClampNeg x1) 1040 0 (((up3 V25 1039 0 ((V25 1038 0 0)).toNatClampNeg x1) 1038 0 0)).toNatClampNeg x1) 1038 0 0)).toNatClampNeg x26) 1038 0 0)) dX9_gift_89 fl_RX9_210 (hE.1 9 (by decide)) rfl ?_
          refine r_iconst (v := (1 : Int32)) dX9_gift_92 (by decide) ?_
          refine r_iadd dX9_gift_93 ?_
          refine r_put dX9_gift_94 fp_RX9_210 rfl (hE.1 9 (by decide)) rfl rfl ?_
          refine r_aload_n (v := .ref (eA E 9 0)) dX9_gift_97 rfl (rl_ref _) ?_
          refine r_get (v := .int ((up3 (up3 (up3 (up3 V25 1039 0 ((V25 1038 0 0)).toNatClampNeg x1) 1040 0 (((up3 V25 1039 0 ((V25 1038 0 0)).toNatClampNeg x1) 1038 0 0)).toNatClampNeg x1) 1041 0 (((up3 (up3 V25 1039 0 ((V25 1038 0 0)).toNatClampNeg x1) 1040 0 (((up3 V25 1039 0 ((V25 1038 0 0)).toNatClampNeg x1) 1038 0 0)).toNatClampNeg x1) 1038 0 0)).toNatClampNeg x26) 1038 0 0 (((up3 (up3 (up3 V25 1039 0 ((V25 1038 0 0)).toNatClampNeg x1) 1040 0 (((up3 V25 1039 0 ((V25 1038 0 0)).toNatClampNeg x1) 1038 0 0)).toNatClampNeg x1) 1041 0 (((up3 (up3 V25 1039 0 ((V25 1038 0 0)).toNatClampNeg x1) 1040 0 (((up3 V25 1039 0 ((V25 1038 0 0)).toNatClampNeg x1) 1038 0 0)).toNatClampNeg x1) 1038 0 0)).toNatClampNeg x26) 1038 0 0) + (1 : Int32))) 1038 0 0)) dX9_gift_98 fl_RX9_210 (hE.1 9 (by decide)) rfl ?_
          refine r_iconst (v := (1 : Int32)) dX9_gift_101 (by decide) ?_
          refine r_isub dX9_gift_102 ?_
          exact r_iret dX9_gift_103 rfl ⟨Nat.le_of_ble_eq_true rfl, Nat.le_of_ble_eq_true rfl⟩ ⟨rfl, _, rfl, h⟩
        · have h := h.2 q
          refine r_aload_n (v := .ref (eA E 9 0)) dX9_gift_42 rfl (rl_ref _) ?_
          refine r_iconst (v := (0 : Int32)) dX9_gift_43 (by decide) ?_
          refine r_put dX9_gift_44 fp_RX9_169 rfl (hE.1 9 (by decide)) rfl rfl ?_
          refine r_bipush (v := (-100 : Int32)) dX9_gift_47 (by decide) ?_
          refine r_iload_n (x := x24) dX9_gift_49 rfl ?_
          refine r_isub dX9_gift_50 ?_
          exact r_iret dX9_gift_51 rfl ⟨Nat.le_of_ble_eq_true rfl, Nat.le_of_ble_eq_true rfl⟩ ⟨rfl, _, rfl, h⟩
    · have h := h.2 q
      refine r_bipush (v := (-3 : Int32)) dX9_gift_21 (by decide) ?_
      exact r_iret dX9_gift_23 rfl ⟨Nat.le_of_ble_eq_true rfl, Nat.le_of_ble_eq_true rfl⟩ ⟨rfl, _, rfl, h⟩
  · have h := h.2 q
    refine r_iconst (v := (-1 : Int32)) dX9_gift_10 (by decide) ?_
    exact r_iret dX9_gift_11 rfl ⟨Nat.le_of_ble_eq_true rfl, Nat.le_of_ble_eq_true rfl⟩ ⟨rfl, _, rfl, h⟩
abbrev rm_X9_statute : Room := { frames := 2, cells := 0, slots := 0, locals := 46 }
def C_X9_statute (l : Launch) (G : Gt) (E : Et) (V : Vt) (x1 : Int32) (K : Int32 → Vt → Prop) : Prop := Cl l G yX9_statute cX9_statute 3 (some .int) rm_X9_statute E V [.ref (eA E 9 0), .int x1] (Qi E K)
def vc_X9_statute (l : Launch) (G : Gt) (E : Et) (V : Vt) (x1 : Int32) (K : Int32 → Vt → Prop) : Prop := (C_X9_in l G E V x1 (V 1018 0 0) (1200 : Int32) (fun x22 V21 => ((¬ x22 = (0 : Int32) → ((¬ (V21 1042 0 0) = (20 : Int32) → (C_X9_read l G E V21 (fun x24 V23 => ((x24 < (0 : Int32) → (C_X9_keep l G E V23 (fun x26 V25 => (vp_in (V23 1042 0 0) 20) ∧ (vp_in ((up3 V25 1043 0 ((V23 1042 0 0)).toNatClampNeg x26) 1042 0 0) 20) ∧ K ((up3 (up3 (up3 V25 1043 0 ((V23 1042 0 0)).toNatClampNeg x26) 1044 0 (((up3 V25 1043 0 ((V23 1042 0 0)).toNatClampNeg x26) 1042 0 0)).toNatClampNeg x1) 1042 0 0 (((up3 (up3 V25 1043 0 ((V23 1042 0 0)).toNatClampNeg x26) 1044 0 (((up3 V25 1043 0 ((V23 1042 0 0)).toNatClampNeg x26) 1042 0 0)).toNatClampNeg x1) 1042 0 0) + (1 : Int32))) 1042 0 0) (up3 (up3 (up3 V25 1043 0 ((V23 1042 0 0)).toNatClampNeg x26) 1044 0 (((up3 V25 1043 0 ((V23 1042 0 0)).toNatClampNeg x26) 1042 0 0)).toNatClampNeg x1) 1042 0 0 (((up3 (up3 V25 1043 0 ((V23 1042 0 0)).toNatClampNeg x26) 1044 0 (((up3 V25 1043 0 ((V23 1042 0 0)).toNatClampNeg x26) 1042 0 0)).toNatClampNeg x1) 1042 0 0) + (1 : Int32)))))) ∧ (¬ x24 < (0 : Int32) → K ((-100 : Int32) - x24) (up3 V23 1031 0 0 (0 : Int32))))))) ∧ ((V21 1042 0 0) = (20 : Int32) → K (-3 : Int32) V21))) ∧ (x22 = (0 : Int32) → K (-1 : Int32) V21))))
theorem ok_X9_statute {l : Launch} {G : Gt} {E : Et} {V : Vt} {x1 : Int32} {K : Int32 → Vt → Prop} (hE : Sg E)  (h : vc_X9_statute l G E V x1 K) : C_X9_statute l G E V x1 K := by
  unfold vc_X9_statute at h
  refine Cl.of (by decide +kernel) (Nat.le_of_ble_eq_true rfl) (show Ev l G RX9 cX9_statute 3 (some .int) rm_X9_statute E 0 0 V 0 [(0, .ref (eA E 9 0)), (1, .int x1)] [] (Qi E K) from ?_)
  refine r_iload_n (x := x1) dX9_statute_0 rfl ?_
  refine r_aload_n (v := .ref (eA E 9 0)) dX9_statute_1 rfl (rl_ref _) ?_
  refine r_get (v := .int (V 1018 0 0)) dX9_statute_2 fl_RX9_194 (hE.1 9 (by decide)) rfl ?_
  refine r_sipush (v := (1200 : Int32)) dX9_statute_5 (by decide) ?_
  refine r_cSi (As := [.int x1, .int (V 1018 0 0), .int (1200 : Int32)]) (rest := []) dX9_statute_8 ms_X9_in ml_RX9_125 ⟨Nat.le_of_ble_eq_true rfl, Nat.le_of_ble_eq_true rfl⟩ ⟨rfl, rfl⟩ rfl rfl (Nat.le_of_ble_eq_true rfl) h (fun x22 V21 h => ?_)
  refine r_if_ne 16 dX9_statute_11 (by decide) (fun q => ?_) (fun q => ?_)
  · have h := h.1 q
    refine r_aload_n (v := .ref (eA E 9 0)) dX9_statute_16 rfl (rl_ref _) ?_
    refine r_get (v := .int (V21 1042 0 0)) dX9_statute_17 fl_RX9_219 (hE.1 9 (by decide)) rfl ?_
    refine r_bipush (v := (20 : Int32)) dX9_statute_20 (by decide) ?_
    refine r_icmp_ne 28 dX9_statute_22 (by decide) (fun q => ?_) (fun q => ?_)
    · have h := h.1 q
      refine r_aload_n (v := .ref (eA E 9 0)) dX9_statute_28 rfl (rl_ref _) ?_
      refine r_cVi (As := []) (rest := []) dX9_statute_29 mv_X9_read ml_RX9_213 ⟨_, _, rfl⟩ (hE.1 9 (by decide)) ⟨Nat.le_of_ble_eq_true rfl, Nat.le_of_ble_eq_true rfl⟩ ⟨rfl, rfl⟩ rfl rfl (Nat.le_of_ble_eq_true rfl) h (fun x24 V23 h => ?_)
      refine r_istore_n dX9_statute_32 (by decide) ?_
      refine r_iload_n (x := x24) dX9_statute_33 rfl ?_
      refine r_if_lt 47 dX9_statute_34 (by decide) (fun q => ?_) (fun q => ?_)
      · have h := h.1 q
        refine r_aload_n (v := .ref (eA E 9 0)) dX9_statute_47 rfl (rl_ref _) ?_
        refine r_get (v := .ref (eA E 1043 0)) dX9_statute_48 fl_RX9_106 (hE.1 9 (by decide)) rfl ?_
        refine r_aload_n (v := .ref (eA E 9 0)) dX9_statute_51 rfl (rl_ref _) ?_
        refine r_get (v := .int (V23 1042 0 0)) dX9_statute_52 fl_RX9_219 (hE.1 9 (by decide)) rfl ?_
        refine r_aload_n (v := .ref (eA E 9 0)) dX9_statute_55 rfl (rl_ref _) ?_
        refine r_cVi (As := []) (rest := [.int (V23 1042 0 0), .ref (eA E 1043 0)]) dX9_statute_56 mv_X9_keep ml_RX9_216 ⟨_, _, rfl⟩ (hE.1 9 (by decide)) ⟨Nat.le_of_ble_eq_true rfl, Nat.le_of_ble_eq_true rfl⟩ ⟨rfl, rfl⟩ rfl rfl (Nat.le_of_ble_eq_true rfl) h (fun x26 V25 h => ?_)
        obtain ⟨hb, h⟩ := h
        refine r_iast dX9_statute_59 rfl (by decide) (hE.1 9 (by decide)) (ix hE (by decide) rfl hb) ?_
        refine r_aload_n (v := .ref (eA E 9 0)) dX9_statute_60 rfl (rl_ref _) ?_
        refine r_get (v := .ref (eA E 1044 0)) dX9_statute_61 fl_RX9_109 (hE.1 9 (by decide)) rfl ?_
        refine r_aload_n (v := .ref (eA E 9 0)) dX9_statute_64 rfl (rl_ref _) ?_
        refine r_get (v := .int ((up3 V25 1043 0 ((V23 1042 0 0)).toNatClampNeg x26) 1042 0 0)) dX9_statute_65 fl_RX9_219 (hE.1 9 (by decide)) rfl ?_
        refine r_iload_n (x := x1) dX9_statute_68 rfl ?_
        obtain ⟨hb, h⟩ := h
        refine r_iast dX9_statute_69 rfl (by decide) (hE.1 9 (by decide)) (ix hE (by decide) rfl hb) ?_
        refine r_aload_n (v := .ref (eA E 9 0)) dX9_statute_70 rfl (rl_ref _) ?_
        refine r_dup dX9_statute_71 rfl ?_
        refine r_get (v := .int ((up3 (up3 V25 1043 0 ((V23 1042 0 0)).toNatClampNeg x26) 1044 0 (((up3 V25 1043 0 ((V23 1042 0 0)).toNatClampNeg x26) 1042 0 0)).toNatClampNeg x1) 1042 0 0)) dX9_statute_72 fl_RX9_219 (hE.1 9 (by decide)) rfl ?_
        refine r_iconst (v := (1 : Int32)) dX9_statute_75 (by decide) ?_
        refine r_iadd dX9_statute_76 ?_
        refine r_put dX9_statute_77 fp_RX9_219 rfl (hE.1 9 (by decide)) rfl rfl ?_
        refine r_aload_n (v := .ref (eA E 9 0)) dX9_statute_80 rfl (rl_ref _) ?_
        refine r_get (v := .int ((up3 (up3 (up3 V25 1043 0 ((V23 1042 0 0)).toNatClampNeg x26) 1044 0 (((up3 V25 1043 0 ((V23 1042 0 0)).toNatClampNeg x26) 1042 0 0)).toNatClampNeg x1) 1042 0 0 (((up3 (up3 V25 1043 0 ((V23 1042 0 0)).toNatClampNeg x26) 1044 0 (((up3 V25 1043 0 ((V23 1042 0 0)).toNatClampNeg x26) 1042 0 0)).toNatClampNeg x1) 1042 0 0) + (1 : Int32))) 1042 0 0)) dX9_statute_81 fl_RX9_219 (hE.1 9 (by decide)) rfl ?_
        exact r_iret dX9_statute_84 rfl ⟨Nat.le_of_ble_eq_true rfl, Nat.le_of_ble_eq_true rfl⟩ ⟨rfl, _, rfl, h⟩
      · have h := h.2 q
        refine r_aload_n (v := .ref (eA E 9 0)) dX9_statute_37 rfl (rl_ref _) ?_
        refine r_iconst (v := (0 : Int32)) dX9_statute_38 (by decide) ?_
        refine r_put dX9_statute_39 fp_RX9_169 rfl (hE.1 9 (by decide)) rfl rfl ?_
        refine r_bipush (v := (-100 : Int32)) dX9_statute_42 (by decide) ?_
        refine r_iload_n (x := x24) dX9_statute_44 rfl ?_
        refine r_isub dX9_statute_45 ?_
        exact r_iret dX9_statute_46 rfl ⟨Nat.le_of_ble_eq_true rfl, Nat.le_of_ble_eq_true rfl⟩ ⟨rfl, _, rfl, h⟩
    · have h := h.2 q
      refine r_bipush (v := (-3 : Int32)) dX9_statute_25 (by decide) ?_
      exact r_iret dX9_statute_27 rfl ⟨Nat.le_of_ble_eq_true rfl, Nat.le_of_ble_eq_true rfl⟩ ⟨rfl, _, rfl, h⟩
  · have h := h.2 q
    refine r_iconst (v := (-1 : Int32)) dX9_statute_14 (by decide) ?_
    exact r_iret dX9_statute_15 rfl ⟨Nat.le_of_ble_eq_true rfl, Nat.le_of_ble_eq_true rfl⟩ ⟨rfl, _, rfl, h⟩
abbrev rm_X9_work : Room := { frames := 3, cells := 0, slots := 0, locals := 68 }
def C_X9_work (l : Launch) (G : Gt) (E : Et) (V : Vt)  (K : Int32 → Vt → Prop) : Prop := Cl l G yX9_work cX9_work 3 (some .int) rm_X9_work E V [.ref (eA E 9 0)] (Qi E K)
def A_X9_work_7 (l : Launch) (G : Gt) (E : Et) (V : Vt) (x1 : Int32) (K : Int32 → Vt → Prop) : Prop := Ev l G RX9 cX9_work 3 (some .int) rm_X9_work E 0 0 V 7 [(0, .ref (eA E 9 0)), (1, .int x1)] [] (Qi E K)
def vc_X9_work (l : Launch) (G : Gt) (E : Et) (V : Vt)  (K : Int32 → Vt → Prop) : Prop := A_X9_work_7 l G E V ((V 1042 0 0) - (1 : Int32)) K
def vc_X9_work_7 (l : Launch) (G : Gt) (E : Et) (V : Vt) (x1 : Int32) (K : Int32 → Vt → Prop) : Prop := ((x1 < (0 : Int32) → K (10 : Int32) V) ∧ (¬ x1 < (0 : Int32) → (vp_in x1 20) ∧ (((V 1044 0 (x1).toNatClampNeg) ≤ (V 1018 0 0) → (vp_in x1 20) ∧ (C_X9_says l G E V (V 1043 0 (x1).toNatClampNeg) (-1 : Int32) (fun x22 V21 => (((0 : Int32) ≤ x22 → K x22 V21) ∧ (¬ (0 : Int32) ≤ x22 → K (0 : Int32) V21))))) ∧ (¬ (V 1044 0 (x1).toNatClampNeg) ≤ (V 1018 0 0) → A_X9_work_7 l G E V (x1 + (-1 : Int32)) K))))
theorem ok_X9_work {l : Launch} {G : Gt} {E : Et} {V : Vt}  {K : Int32 → Vt → Prop} (hE : Sg E)  (h : vc_X9_work l G E V  K) : C_X9_work l G E V  K := by
  unfold vc_X9_work at h
  refine Cl.of (by decide +kernel) (Nat.le_of_ble_eq_true rfl) (show Ev l G RX9 cX9_work 3 (some .int) rm_X9_work E 0 0 V 0 [(0, .ref (eA E 9 0))] [] (Qi E K) from ?_)
  refine r_aload_n (v := .ref (eA E 9 0)) dX9_work_0 rfl (rl_ref _) ?_
  refine r_get (v := .int (V 1042 0 0)) dX9_work_1 fl_RX9_219 (hE.1 9 (by decide)) rfl ?_
  refine r_iconst (v := (1 : Int32)) dX9_work_4 (by decide) ?_
  refine r_isub dX9_work_5 ?_
  refine r_istore_n dX9_work_6 (by decide) ?_
  exact Ev.loc [0, 1] rfl h
theorem ok_X9_work_7 {l : Launch} {G : Gt} {E : Et} {V : Vt} {x1 : Int32} {K : Int32 → Vt → Prop} (hE : Sg E)  (h : vc_X9_work_7 l G E V x1 K) : A_X9_work_7 l G E V x1 K := by
  unfold vc_X9_work_7 at h
  unfold A_X9_work_7
  refine r_iload_n (x := x1) dX9_work_7 rfl ?_
  refine r_if_lt 55 dX9_work_8 (by decide) (fun q => ?_) (fun q => ?_)
  · have h := h.1 q
    refine r_bipush (v := (10 : Int32)) dX9_work_55 (by decide) ?_
    exact r_iret dX9_work_57 rfl ⟨Nat.le_of_ble_eq_true rfl, Nat.le_of_ble_eq_true rfl⟩ ⟨rfl, _, rfl, h⟩
  · have h := h.2 q
    refine r_aload_n (v := .ref (eA E 9 0)) dX9_work_11 rfl (rl_ref _) ?_
    refine r_get (v := .ref (eA E 1044 0)) dX9_work_12 fl_RX9_109 (hE.1 9 (by decide)) rfl ?_
    refine r_iload_n (x := x1) dX9_work_15 rfl ?_
    obtain ⟨hb, h⟩ := h
    refine r_iald dX9_work_16 rfl (by decide) (hE.1 9 (by decide)) (ix hE (by decide) rfl hb) ?_
    refine r_aload_n (v := .ref (eA E 9 0)) dX9_work_17 rfl (rl_ref _) ?_
    refine r_get (v := .int (V 1018 0 0)) dX9_work_18 fl_RX9_194 (hE.1 9 (by decide)) rfl ?_
    refine r_icmp_le 27 dX9_work_21 (by decide) (fun q => ?_) (fun q => ?_)
    · have h := h.1 q
      refine r_aload_n (v := .ref (eA E 9 0)) dX9_work_27 rfl (rl_ref _) ?_
      refine r_aload_n (v := .ref (eA E 9 0)) dX9_work_28 rfl (rl_ref _) ?_
      refine r_get (v := .ref (eA E 1043 0)) dX9_work_29 fl_RX9_106 (hE.1 9 (by decide)) rfl ?_
      refine r_iload_n (x := x1) dX9_work_32 rfl ?_
      obtain ⟨hb, h⟩ := h
      refine r_iald dX9_work_33 rfl (by decide) (hE.1 9 (by decide)) (ix hE (by decide) rfl hb) ?_
      refine r_iconst (v := (-1 : Int32)) dX9_work_34 (by decide) ?_
      refine r_cVi (As := [.int (V 1043 0 (x1).toNatClampNeg), .int (-1 : Int32)]) (rest := []) dX9_work_35 mv_X9_says ml_RX9_222 ⟨_, _, rfl⟩ (hE.1 9 (by decide)) ⟨Nat.le_of_ble_eq_true rfl, Nat.le_of_ble_eq_true rfl⟩ ⟨rfl, rfl⟩ rfl rfl (Nat.le_of_ble_eq_true rfl) h (fun x22 V21 h => ?_)
      refine r_istore_n dX9_work_38 (by decide) ?_
      refine r_iload_n (x := x22) dX9_work_39 rfl ?_
      refine r_if_ge 47 dX9_work_40 (by decide) (fun q => ?_) (fun q => ?_)
      · have h := h.1 q
        refine r_iload_n (x := x22) dX9_work_47 rfl ?_
        exact r_iret dX9_work_48 rfl ⟨Nat.le_of_ble_eq_true rfl, Nat.le_of_ble_eq_true rfl⟩ ⟨rfl, _, rfl, h⟩
      · have h := h.2 q
        refine r_iconst (v := (0 : Int32)) dX9_work_43 (by decide) ?_
        refine r_goto 48 dX9_work_44 (by decide) ?_
        exact r_iret dX9_work_48 rfl ⟨Nat.le_of_ble_eq_true rfl, Nat.le_of_ble_eq_true rfl⟩ ⟨rfl, _, rfl, h⟩
    · have h := h.2 q
      refine r_goto 49 dX9_work_24 (by decide) ?_
      refine r_iinc (x := x1) (v := (-1 : Int32)) dX9_work_49 rfl (by decide) (by decide) ?_
      refine r_goto 7 dX9_work_52 (by decide) ?_
      exact Ev.loc [0, 1] rfl h
abbrev rm_X9_endFor : Room := { frames := 3, cells := 0, slots := 0, locals := 68 }
def C_X9_endFor (l : Launch) (G : Gt) (E : Et) (V : Vt) (x1 : Int32) (x2 : Int32) (K : Int32 → Vt → Prop) : Prop := Cl l G yX9_endFor cX9_endFor 3 (some .int) rm_X9_endFor E V [.ref (eA E 9 0), .int x1, .int x2] (Qi E K)
def vc_X9_endFor (l : Launch) (G : Gt) (E : Et) (V : Vt) (x1 : Int32) (x2 : Int32) (K : Int32 → Vt → Prop) : Prop := (vp_in x1 30) ∧ (((0 : Int32) ≤ (V 1041 0 (x1).toNatClampNeg) → (vp_in x1 30) ∧ (C_X9_says l G E V (V 1041 0 (x1).toNatClampNeg) x2 (fun x22 V21 => K x22 V21))) ∧ (¬ (0 : Int32) ≤ (V 1041 0 (x1).toNatClampNeg) → K (1 : Int32) V))
theorem ok_X9_endFor {l : Launch} {G : Gt} {E : Et} {V : Vt} {x1 : Int32} {x2 : Int32} {K : Int32 → Vt → Prop} (hE : Sg E)  (h : vc_X9_endFor l G E V x1 x2 K) : C_X9_endFor l G E V x1 x2 K := by
  unfold vc_X9_endFor at h
  refine Cl.of (by decide +kernel) (Nat.le_of_ble_eq_true rfl) (show Ev l G RX9 cX9_endFor 3 (some .int) rm_X9_endFor E 0 0 V 0 [(0, .ref (eA E 9 0)), (1, .int x1), (2, .int x2)] [] (Qi E K) from ?_)
  refine r_aload_n (v := .ref (eA E 9 0)) dX9_endFor_0 rfl (rl_ref _) ?_
  refine r_get (v := .ref (eA E 1041 0)) dX9_endFor_1 fl_RX9_103 (hE.1 9 (by decide)) rfl ?_
  refine r_iload_n (x := x1) dX9_endFor_4 rfl ?_
  obtain ⟨hb, h⟩ := h
  refine r_iald dX9_endFor_5 rfl (by decide) (hE.1 9 (by decide)) (ix hE (by decide) rfl hb) ?_
  refine r_if_ge 13 dX9_endFor_6 (by decide) (fun q => ?_) (fun q => ?_)
  · have h := h.1 q
    refine r_aload_n (v := .ref (eA E 9 0)) dX9_endFor_13 rfl (rl_ref _) ?_
    refine r_aload_n (v := .ref (eA E 9 0)) dX9_endFor_14 rfl (rl_ref _) ?_
    refine r_get (v := .ref (eA E 1041 0)) dX9_endFor_15 fl_RX9_103 (hE.1 9 (by decide)) rfl ?_
    refine r_iload_n (x := x1) dX9_endFor_18 rfl ?_
    obtain ⟨hb, h⟩ := h
    refine r_iald dX9_endFor_19 rfl (by decide) (hE.1 9 (by decide)) (ix hE (by decide) rfl hb) ?_
    refine r_iload_n (x := x2) dX9_endFor_20 rfl ?_
    refine r_cVi (As := [.int (V 1041 0 (x1).toNatClampNeg), .int x2]) (rest := []) dX9_endFor_21 mv_X9_says ml_RX9_222 ⟨_, _, rfl⟩ (hE.1 9 (by decide)) ⟨Nat.le_of_ble_eq_true rfl, Nat.le_of_ble_eq_true rfl⟩ ⟨rfl, rfl⟩ rfl rfl (Nat.le_of_ble_eq_true rfl) h (fun x22 V21 h => ?_)
    exact r_iret dX9_endFor_24 rfl ⟨Nat.le_of_ble_eq_true rfl, Nat.le_of_ble_eq_true rfl⟩ ⟨rfl, _, rfl, h⟩
  · have h := h.2 q
    refine r_iconst (v := (1 : Int32)) dX9_endFor_9 (by decide) ?_
    refine r_goto 24 dX9_endFor_10 (by decide) ?_
    exact r_iret dX9_endFor_24 rfl ⟨Nat.le_of_ble_eq_true rfl, Nat.le_of_ble_eq_true rfl⟩ ⟨rfl, _, rfl, h⟩
abbrev rm_X9_end : Room := { frames := 4, cells := 0, slots := 0, locals := 90 }
def C_X9_end (l : Launch) (G : Gt) (E : Et) (V : Vt) (x1 : Int32) (x2 : Int32) (K : Int32 → Vt → Prop) : Prop := Cl l G yX9_end cX9_end 3 (some .int) rm_X9_end E V [.ref (eA E 9 0), .int x1, .int x2] (Qi E K)
def vc_X9_end (l : Launch) (G : Gt) (E : Et) (V : Vt) (x1 : Int32) (x2 : Int32) (K : Int32 → Vt → Prop) : Prop := (C_X9_isGift l G E V x1 (fun x22 V21 => ((x22 = (0 : Int32) → K (-2000000000 : Int32) V21) ∧ (¬ x22 = (0 : Int32) → (C_X9_isPart l G E V21 x2 (fun x24 V23 => ((x24 = (0 : Int32) → K (-2000000000 : Int32) V23) ∧ (¬ x24 = (0 : Int32) → (C_X9_endFor l G E V23 x1 x2 (fun x26 V25 => K x26 V25))))))))))
theorem ok_X9_end {l : Launch} {G : Gt} {E : Et} {V : Vt} {x1 : Int32} {x2 : Int32} {K : Int32 → Vt → Prop} (hE : Sg E)  (h : vc_X9_end l G E V x1 x2 K) : C_X9_end l G E V x1 x2 K := by
  unfold vc_X9_end at h
  refine Cl.of (by decide +kernel) (Nat.le_of_ble_eq_true rfl) (show Ev l G RX9 cX9_end 3 (some .int) rm_X9_end E 0 0 V 0 [(0, .ref (eA E 9 0)), (1, .int x1), (2, .int x2)] [] (Qi E K) from ?_)
  refine r_aload_n (v := .ref (eA E 9 0)) dX9_end_0 rfl (rl_ref _) ?_
  refine r_iload_n (x := x1) dX9_end_1 rfl ?_
  refine r_cVi (As := [.int x1]) (rest := []) dX9_end_2 mv_X9_isGift ml_RX9_225 ⟨_, _, rfl⟩ (hE.1 9 (by decide)) ⟨Nat.le_of_ble_eq_true rfl, Nat.le_of_ble_eq_true rfl⟩ ⟨rfl, rfl⟩ rfl rfl (Nat.le_of_ble_eq_true rfl) h (fun x22 V21 h => ?_)
  refine r_if_eq 25 dX9_end_5 (by decide) (fun q => ?_) (fun q => ?_)
  · have h := h.1 q
    refine r_ldc dX9_end_25 kc_RX9_231 ?_
    exact r_iret dX9_end_27 rfl ⟨Nat.le_of_ble_eq_true rfl, Nat.le_of_ble_eq_true rfl⟩ ⟨rfl, _, rfl, h⟩
  · have h := h.2 q
    refine r_aload_n (v := .ref (eA E 9 0)) dX9_end_8 rfl (rl_ref _) ?_
    refine r_iload_n (x := x2) dX9_end_9 rfl ?_
    refine r_cVi (As := [.int x2]) (rest := []) dX9_end_10 mv_X9_isPart ml_RX9_137 ⟨_, _, rfl⟩ (hE.1 9 (by decide)) ⟨Nat.le_of_ble_eq_true rfl, Nat.le_of_ble_eq_true rfl⟩ ⟨rfl, rfl⟩ rfl rfl (Nat.le_of_ble_eq_true rfl) h (fun x24 V23 h => ?_)
    refine r_if_eq 25 dX9_end_13 (by decide) (fun q => ?_) (fun q => ?_)
    · have h := h.1 q
      refine r_ldc dX9_end_25 kc_RX9_231 ?_
      exact r_iret dX9_end_27 rfl ⟨Nat.le_of_ble_eq_true rfl, Nat.le_of_ble_eq_true rfl⟩ ⟨rfl, _, rfl, h⟩
    · have h := h.2 q
      refine r_aload_n (v := .ref (eA E 9 0)) dX9_end_16 rfl (rl_ref _) ?_
      refine r_iload_n (x := x1) dX9_end_17 rfl ?_
      refine r_iload_n (x := x2) dX9_end_18 rfl ?_
      refine r_cVi (As := [.int x1, .int x2]) (rest := []) dX9_end_19 mv_X9_endFor ml_RX9_228 ⟨_, _, rfl⟩ (hE.1 9 (by decide)) ⟨Nat.le_of_ble_eq_true rfl, Nat.le_of_ble_eq_true rfl⟩ ⟨rfl, rfl⟩ rfl rfl (Nat.le_of_ble_eq_true rfl) h (fun x26 V25 h => ?_)
      refine r_goto 27 dX9_end_22 (by decide) ?_
      exact r_iret dX9_end_27 rfl ⟨Nat.le_of_ble_eq_true rfl, Nat.le_of_ble_eq_true rfl⟩ ⟨rfl, _, rfl, h⟩
abbrev rm_X9_hinders : Room := { frames := 4, cells := 0, slots := 0, locals := 90 }
def C_X9_hinders (l : Launch) (G : Gt) (E : Et) (V : Vt) (x1 : Int32) (K : Int32 → Vt → Prop) : Prop := Cl l G yX9_hinders cX9_hinders 5 (some .int) rm_X9_hinders E V [.ref (eA E 9 0), .int x1] (Qi E K)
def A_X9_hinders_19 (l : Launch) (G : Gt) (E : Et) (V : Vt) (x1 : Int32) (x2 : Int32) (K : Int32 → Vt → Prop) : Prop := Ev l G RX9 cX9_hinders 5 (some .int) rm_X9_hinders E 0 0 V 19 [(0, .ref (eA E 9 0)), (1, .int x1), (2, .int x2)] [] (Qi E K)
def A_X9_hinders_90 (l : Launch) (G : Gt) (E : Et) (V : Vt) (x1 : Int32) (x2 : Int64) (x4 : Int32) (K : Int32 → Vt → Prop) : Prop := Ev l G RX9 cX9_hinders 5 (some .int) rm_X9_hinders E 0 0 V 90 [(0, .ref (eA E 9 0)), (1, .int x1), (2, .long x2), (4, .int x4)] [] (Qi E K)
def vc_X9_hinders (l : Launch) (G : Gt) (E : Et) (V : Vt) (x1 : Int32) (K : Int32 → Vt → Prop) : Prop := (vp_in x1 40) ∧ (vp_in x1 40) ∧ ((¬ (V 1012 0 (x1).toNatClampNeg) = (V 1003 0 (x1).toNatClampNeg) → A_X9_hinders_19 l G E V x1 (0 : Int32) K) ∧ ((V 1012 0 (x1).toNatClampNeg) = (V 1003 0 (x1).toNatClampNeg) → K (1 : Int32) V))
def vc_X9_hinders_19 (l : Launch) (G : Gt) (E : Et) (V : Vt) (x1 : Int32) (x2 : Int32) (K : Int32 → Vt → Prop) : Prop := (vp_in x1 40) ∧ (((V 1015 0 (x1).toNatClampNeg) ≤ x2 → (C_X9_work l G E V (fun x22 V21 => (((V 1019 0 0) < x22 → A_X9_hinders_90 l G E V21 x1 (0 : Int64) (0 : Int32) K) ∧ (¬ (V 1019 0 0) < x22 → K (3 : Int32) V21))))) ∧ (¬ (V 1015 0 (x1).toNatClampNeg) ≤ x2 → (vp_in (((4 : Int32) * x1) + x2) 160) ∧ (vp_in (V 1016 0 ((((4 : Int32) * x1) + x2)).toNatClampNeg) 40) ∧ (vp_in (V 1016 0 ((((4 : Int32) * x1) + x2)).toNatClampNeg) 40) ∧ (((V 1012 0 ((V 1016 0 ((((4 : Int32) * x1) + x2)).toNatClampNeg)).toNatClampNeg) < (V 1003 0 ((V 1016 0 ((((4 : Int32) * x1) + x2)).toNatClampNeg)).toNatClampNeg) → K (2 : Int32) V) ∧ (¬ (V 1012 0 ((V 1016 0 ((((4 : Int32) * x1) + x2)).toNatClampNeg)).toNatClampNeg) < (V 1003 0 ((V 1016 0 ((((4 : Int32) * x1) + x2)).toNatClampNeg)).toNatClampNeg) → (vp_in (V 1016 0 ((((4 : Int32) * x1) + x2)).toNatClampNeg) 40) ∧ (((V 1014 0 ((V 1016 0 ((((4 : Int32) * x1) + x2)).toNatClampNeg)).toNatClampNeg) = (0 : Int32) → A_X9_hinders_19 l G E V x1 (x2 + (1 : Int32)) K) ∧ (¬ (V 1014 0 ((V 1016 0 ((((4 : Int32) * x1) + x2)).toNatClampNeg)).toNatClampNeg) = (0 : Int32) → K (2 : Int32) V))))))
def vc_X9_hinders_90 (l : Launch) (G : Gt) (E : Et) (V : Vt) (x1 : Int32) (x2 : Int64) (x4 : Int32) (K : Int32 → Vt → Prop) : Prop := (((V 1038 0 0) ≤ x4 → (vp_in x1 40) ∧ (((0 : Int32) ≤ (lg_cmp x2 ((V 1006 0 (x1).toNatClampNeg)).toInt64) → (C_X9_fallingBy l G E V x1 (fun x24 V23 => ((¬ x24 = (-5 : Int32) → K (5 : Int32) V23) ∧ (x24 = (-5 : Int32) → K (0 : Int32) V23))))) ∧ (¬ (0 : Int32) ≤ (lg_cmp x2 ((V 1006 0 (x1).toNatClampNeg)).toInt64) → K (4 : Int32) V))) ∧ (¬ (V 1038 0 0) ≤ x4 → (vp_in x4 30) ∧ (((V 1040 0 (x4).toNatClampNeg) ≤ (0 : Int32) → A_X9_hinders_90 l G E V x1 (x2 + (0 : Int64)) (x4 + (1 : Int32)) K) ∧ (¬ (V 1040 0 (x4).toNatClampNeg) ≤ (0 : Int32) → (C_X9_endFor l G E V x4 x1 (fun x26 V25 => ((x26 = (0 : Int32) → A_X9_hinders_90 l G E V25 x1 (x2 + (0 : Int64)) (x4 + (1 : Int32)) K) ∧ (¬ x26 = (0 : Int32) → (vp_in x4 30) ∧ A_X9_hinders_90 l G E V25 x1 (x2 + ((V25 1040 0 (x4).toNatClampNeg)).toInt64) (x4 + (1 : Int32)) K))))))))
theorem ok_X9_hinders {l : Launch} {G : Gt} {E : Et} {V : Vt} {x1 : Int32} {K : Int32 → Vt → Prop} (hE : Sg E)  (h : vc_X9_hinders l G E V x1 K) : C_X9_hinders l G E V x1 K := by
  unfold vc_X9_hinders at h
  refine Cl.of (by decide +kernel) (Nat.le_of_ble_eq_true rfl) (show Ev l G RX9 cX9_hinders 5 (some .int) rm_X9_hinders E 0 0 V 0 [(0, .ref (eA E 9 0)), (1, .int x1)] [] (Qi E K) from ?_)
  refine r_aload_n (v := .ref (eA E 9 0)) dX9_hinders_0 rfl (rl_ref _) ?_
  refine r_get (v := .ref (eA E 1012 0)) dX9_hinders_1 fl_RX9_40 (hE.1 9 (by decide)) rfl ?_
  refine r_iload_n (x := x1) dX9_hinders_4 rfl ?_
  obtain ⟨hb, h⟩ := h
  refine r_iald dX9_hinders_5 rfl (by decide) (hE.1 9 (by decide)) (ix hE (by decide) rfl hb) ?_
  refine r_aload_n (v := .ref (eA E 9 0)) dX9_hinders_6 rfl (rl_ref _) ?_
  refine r_get (v := .ref (eA E 1003 0)) dX9_hinders_7 fl_RX9_13 (hE.1 9 (by decide)) rfl ?_
  refine r_iload_n (x := x1) dX9_hinders_10 rfl ?_
  obtain ⟨hb, h⟩ := h
  refine r_iald dX9_hinders_11 rfl (by decide) (hE.1 9 (by decide)) (ix hE (by decide) rfl hb) ?_
  refine r_icmp_ne 17 dX9_hinders_12 (by decide) (fun q => ?_) (fun q => ?_)
  · have h := h.1 q
    refine r_iconst (v := (0 : Int32)) dX9_hinders_17 (by decide) ?_
    refine r_istore_n dX9_hinders_18 (by decide) ?_
    exact Ev.loc [0, 1, 2] rfl h
  · have h := h.2 q
    refine r_iconst (v := (1 : Int32)) dX9_hinders_15 (by decide) ?_
    exact r_iret dX9_hinders_16 rfl ⟨Nat.le_of_ble_eq_true rfl, Nat.le_of_ble_eq_true rfl⟩ ⟨rfl, _, rfl, h⟩
theorem ok_X9_hinders_19 {l : Launch} {G : Gt} {E : Et} {V : Vt} {x1 : Int32} {x2 : Int32} {K : Int32 → Vt → Prop} (hE : Sg E)  (h : vc_X9_hinders_19 l G E V x1 x2 K) : A_X9_hinders_19 l G E V x1 x2 K := by
  unfold vc_X9_hinders_19 at h
  unfold A_X9_hinders_19
  refine r_iload_n (x := x2) dX9_hinders_19 rfl ?_
  refine r_aload_n (v := .ref (eA E 9 0)) dX9_hinders_20 rfl (rl_ref _) ?_
  refine r_get (v := .ref (eA E 1015 0)) dX9_hinders_21 fl_RX9_50 (hE.1 9 (by decide)) rfl ?_
  refine r_iload_n (x := x1) dX9_hinders_24 rfl ?_
  obtain ⟨hb, h⟩ := h
  refine r_iald dX9_hinders_25 rfl (by decide) (hE.1 9 (by decide)) (ix hE (by decide) rfl hb) ?_
  refine r_icmp_ge 72 dX9_hinders_26 (by decide) (fun q => ?_) (fun q => ?_)
  · have h := h.1 q
    refine r_aload_n (v := .ref (eA E 9 0)) dX9_hinders_72 rfl (rl_ref _) ?_
    refine r_get (v := .int (V 1019 0 0)) dX9_hinders_73 fl_RX9_200 (hE.1 9 (by decide)) rfl ?_
    refine r_aload_n (v := .ref (eA E 9 0)) dX9_hinders_76 rfl (rl_ref _) ?_
    refine r_cVi (As := []) (rest := [.int (V 1019 0 0)]) dX9_hinders_77 mv_X9_work ml_RX9_232 ⟨_, _, rfl⟩ (hE.1 9 (by decide)) ⟨Nat.le_of_ble_eq_true rfl, Nat.le_of_ble_eq_true rfl⟩ ⟨rfl, rfl⟩ rfl rfl (Nat.le_of_ble_eq_true rfl) h (fun x22 V21 h => ?_)
    refine r_icmp_lt 85 dX9_hinders_80 (by decide) (fun q => ?_) (fun q => ?_)
    · have h := h.1 q
      refine r_lconst (v := (0 : Int64)) dX9_hinders_85 (by decide) ?_
      refine r_lstore_n dX9_hinders_86 (by decide) ?_
      refine r_iconst (v := (0 : Int32)) dX9_hinders_87 (by decide) ?_
      refine r_istore dX9_hinders_88 (by decide) ?_
      exact Ev.loc [1, 2, 0, 3] rfl h
    · have h := h.2 q
      refine r_iconst (v := (3 : Int32)) dX9_hinders_83 (by decide) ?_
      exact r_iret dX9_hinders_84 rfl ⟨Nat.le_of_ble_eq_true rfl, Nat.le_of_ble_eq_true rfl⟩ ⟨rfl, _, rfl, h⟩
  · have h := h.2 q
    refine r_aload_n (v := .ref (eA E 9 0)) dX9_hinders_29 rfl (rl_ref _) ?_
    refine r_get (v := .ref (eA E 1016 0)) dX9_hinders_30 fl_RX9_53 (hE.1 9 (by decide)) rfl ?_
    refine r_iconst (v := (4 : Int32)) dX9_hinders_33 (by decide) ?_
    refine r_iload_n (x := x1) dX9_hinders_34 rfl ?_
    refine r_imul dX9_hinders_35 ?_
    refine r_iload_n (x := x2) dX9_hinders_36 rfl ?_
    refine r_iadd dX9_hinders_37 ?_
    obtain ⟨hb, h⟩ := h
    refine r_iald dX9_hinders_38 rfl (by decide) (hE.1 9 (by decide)) (ix hE (by decide) rfl hb) ?_
    refine r_istore_n dX9_hinders_39 (by decide) ?_
    refine r_aload_n (v := .ref (eA E 9 0)) dX9_hinders_40 rfl (rl_ref _) ?_
    refine r_get (v := .ref (eA E 1012 0)) dX9_hinders_41 fl_RX9_40 (hE.1 9 (by decide)) rfl ?_
    refine r_iload_n (x := (V 1016 0 ((((4 : Int32) * x1) + x2)).toNatClampNeg)) dX9_hinders_44 rfl ?_
    obtain ⟨hb, h⟩ := h
    refine r_iald dX9_hinders_45 rfl (by decide) (hE.1 9 (by decide)) (ix hE (by decide) rfl hb) ?_
    refine r_aload_n (v := .ref (eA E 9 0)) dX9_hinders_46 rfl (rl_ref _) ?_
    refine r_get (v := .ref (eA E 1003 0)) dX9_hinders_47 fl_RX9_13 (hE.1 9 (by decide)) rfl ?_
    refine r_iload_n (x := (V 1016 0 ((((4 : Int32) * x1) + x2)).toNatClampNeg)) dX9_hinders_50 rfl ?_
    obtain ⟨hb, h⟩ := h
    refine r_iald dX9_hinders_51 rfl (by decide) (hE.1 9 (by decide)) (ix hE (by decide) rfl hb) ?_
    refine r_icmp_lt 64 dX9_hinders_52 (by decide) (fun q => ?_) (fun q => ?_)
    · have h := h.1 q
      refine r_iconst (v := (2 : Int32)) dX9_hinders_64 (by decide) ?_
      exact r_iret dX9_hinders_65 rfl ⟨Nat.le_of_ble_eq_true rfl, Nat.le_of_ble_eq_true rfl⟩ ⟨rfl, _, rfl, h⟩
    · have h := h.2 q
      refine r_aload_n (v := .ref (eA E 9 0)) dX9_hinders_55 rfl (rl_ref _) ?_
      refine r_get (v := .ref (eA E 1014 0)) dX9_hinders_56 fl_RX9_46 (hE.1 9 (by decide)) rfl ?_
      refine r_iload_n (x := (V 1016 0 ((((4 : Int32) * x1) + x2)).toNatClampNeg)) dX9_hinders_59 rfl ?_
      obtain ⟨hb, h⟩ := h
      refine r_zald dX9_hinders_60 rfl (by decide) (hE.1 9 (by decide)) (ix hE (by decide) rfl hb) ?_
      refine r_if_eq 66 dX9_hinders_61 (by decide) (fun q => ?_) (fun q => ?_)
      · have h := h.1 q
        refine r_iinc (x := x2) (v := (1 : Int32)) dX9_hinders_66 rfl (by decide) (by decide) ?_
        refine r_goto 19 dX9_hinders_69 (by decide) ?_
        exact Ev.loc [0, 1, 2] rfl h
      · have h := h.2 q
        refine r_iconst (v := (2 : Int32)) dX9_hinders_64 (by decide) ?_
        exact r_iret dX9_hinders_65 rfl ⟨Nat.le_of_ble_eq_true rfl, Nat.le_of_ble_eq_true rfl⟩ ⟨rfl, _, rfl, h⟩
theorem ok_X9_hinders_90 {l : Launch} {G : Gt} {E : Et} {V : Vt} {x1 : Int32} {x2 : Int64} {x4 : Int32} {K : Int32 → Vt → Prop} (hE : Sg E)  (h : vc_X9_hinders_90 l G E V x1 x2 x4 K) : A_X9_hinders_90 l G E V x1 x2 x4 K := by
  unfold vc_X9_hinders_90 at h
  unfold A_X9_hinders_90
  refine r_iload (x := x4) dX9_hinders_90 rfl ?_
  refine r_aload_n (v := .ref (eA E 9 0)) dX9_hinders_92 rfl (rl_ref _) ?_
  refine r_get (v := .int (V 1038 0 0)) dX9_hinders_93 fl_RX9_210 (hE.1 9 (by decide)) rfl ?_
  refine r_icmp_ge 140 dX9_hinders_96 (by decide) (fun q => ?_) (fun q => ?_)
  · have h := h.1 q
    refine r_lload_n (x := x2) dX9_hinders_140 rfl ?_
    refine r_aload_n (v := .ref (eA E 9 0)) dX9_hinders_141 rfl (rl_ref _) ?_
    refine r_get (v := .ref (eA E 1006 0)) dX9_hinders_142 fl_RX9_22 (hE.1 9 (by decide)) rfl ?_
    refine r_iload_n (x := x1) dX9_hinders_145 rfl ?_
    obtain ⟨hb, h⟩ := h
    refine r_iald dX9_hinders_146 rfl (by decide) (hE.1 9 (by decide)) (ix hE (by decide) rfl hb) ?_
    refine r_i2l dX9_hinders_147 ?_
    refine r_lcmp dX9_hinders_148 ?_
    refine r_if_ge 154 dX9_hinders_149 (by decide) (fun q => ?_) (fun q => ?_)
    · have h := h.1 q
      refine r_aload_n (v := .ref (eA E 9 0)) dX9_hinders_154 rfl (rl_ref _) ?_
      refine r_iload_n (x := x1) dX9_hinders_155 rfl ?_
      refine r_cVi (As := [.int x1]) (rest := []) dX9_hinders_156 mv_X9_fallingBy ml_RX9_235 ⟨_, _, rfl⟩ (hE.1 9 (by decide)) ⟨Nat.le_of_ble_eq_true rfl, Nat.le_of_ble_eq_true rfl⟩ ⟨rfl, rfl⟩ rfl rfl (Nat.le_of_ble_eq_true rfl) h (fun x24 V23 h => ?_)
      refine r_bipush (v := (-5 : Int32)) dX9_hinders_159 (by decide) ?_
      refine r_icmp_ne 168 dX9_hinders_161 (by decide) (fun q => ?_) (fun q => ?_)
      · have h := h.1 q
        refine r_iconst (v := (5 : Int32)) dX9_hinders_168 (by decide) ?_
        exact r_iret dX9_hinders_169 rfl ⟨Nat.le_of_ble_eq_true rfl, Nat.le_of_ble_eq_true rfl⟩ ⟨rfl, _, rfl, h⟩
      · have h := h.2 q
        refine r_iconst (v := (0 : Int32)) dX9_hinders_164 (by decide) ?_
        refine r_goto 169 dX9_hinders_165 (by decide) ?_
        exact r_iret dX9_hinders_169 rfl ⟨Nat.le_of_ble_eq_true rfl, Nat.le_of_ble_eq_true rfl⟩ ⟨rfl, _, rfl, h⟩
    · have h := h.2 q
      refine r_iconst (v := (4 : Int32)) dX9_hinders_152 (by decide) ?_
      exact r_iret dX9_hinders_153 rfl ⟨Nat.le_of_ble_eq_true rfl, Nat.le_of_ble_eq_true rfl⟩ ⟨rfl, _, rfl, h⟩
  · have h := h.2 q
    refine r_lload_n (x := x2) dX9_hinders_99 rfl ?_
    refine r_aload_n (v := .ref (eA E 9 0)) dX9_hinders_100 rfl (rl_ref _) ?_
    refine r_get (v := .ref (eA E 1040 0)) dX9_hinders_101 fl_RX9_100 (hE.1 9 (by decide)) rfl ?_
    refine r_iload (x := x4) dX9_hinders_104 rfl ?_
    obtain ⟨hb, h⟩ := h
    refine r_iald dX9_hinders_106 rfl (by decide) (hE.1 9 (by decide)) (ix hE (by decide) rfl hb) ?_
    refine r_if_le 131 dX9_hinders_107 (by decide) (fun q => ?_) (fun q => ?_)
    · have h := h.1 q
      refine r_lconst (v := (0 : Int64)) dX9_hinders_131 (by decide) ?_
      refine r_ladd dX9_hinders_132 ?_
      refine r_lstore_n dX9_hinders_133 (by decide) ?_
      refine r_iinc (x := x4) (v := (1 : Int32)) dX9_hinders_134 rfl (by decide) (by decide) ?_
      refine r_goto 90 dX9_hinders_137 (by decide) ?_
      exact Ev.loc [1, 2, 0, 3] rfl h
    · have h := h.2 q
      refine r_aload_n (v := .ref (eA E 9 0)) dX9_hinders_110 rfl (rl_ref _) ?_
      refine r_iload (x := x4) dX9_hinders_111 rfl ?_
      refine r_iload_n (x := x1) dX9_hinders_113 rfl ?_
      refine r_cVi (As := [.int x4, .int x1]) (rest := [.long x2]) dX9_hinders_114 mv_X9_endFor ml_RX9_228 ⟨_, _, rfl⟩ (hE.1 9 (by decide)) ⟨Nat.le_of_ble_eq_true rfl, Nat.le_of_ble_eq_true rfl⟩ ⟨rfl, rfl⟩ rfl rfl (Nat.le_of_ble_eq_true rfl) h (fun x26 V25 h => ?_)
      refine r_if_eq 131 dX9_hinders_117 (by decide) (fun q => ?_) (fun q => ?_)
      · have h := h.1 q
        refine r_lconst (v := (0 : Int64)) dX9_hinders_131 (by decide) ?_
        refine r_ladd dX9_hinders_132 ?_
        refine r_lstore_n dX9_hinders_133 (by decide) ?_
        refine r_iinc (x := x4) (v := (1 : Int32)) dX9_hinders_134 rfl (by decide) (by decide) ?_
        refine r_goto 90 dX9_hinders_137 (by decide) ?_
        exact Ev.loc [1, 2, 0, 3] rfl h
      · have h := h.2 q
        refine r_aload_n (v := .ref (eA E 9 0)) dX9_hinders_120 rfl (rl_ref _) ?_
        refine r_get (v := .ref (eA E 1040 0)) dX9_hinders_121 fl_RX9_100 (hE.1 9 (by decide)) rfl ?_
        refine r_iload (x := x4) dX9_hinders_124 rfl ?_
        obtain ⟨hb, h⟩ := h
        refine r_iald dX9_hinders_126 rfl (by decide) (hE.1 9 (by decide)) (ix hE (by decide) rfl hb) ?_
        refine r_i2l dX9_hinders_127 ?_
        refine r_goto 132 dX9_hinders_128 (by decide) ?_
        refine r_ladd dX9_hinders_132 ?_
        refine r_lstore_n dX9_hinders_133 (by decide) ?_
        refine r_iinc (x := x4) (v := (1 : Int32)) dX9_hinders_134 rfl (by decide) (by decide) ?_
        refine r_goto 90 dX9_hinders_137 (by decide) ?_
        exact Ev.loc [1, 2, 0, 3] rfl h
abbrev rm_X9_may : Room := { frames := 5, cells := 0, slots := 0, locals := 114 }
def C_X9_may (l : Launch) (G : Gt) (E : Et) (V : Vt) (x1 : Int32) (K : Int32 → Vt → Prop) : Prop := Cl l G yX9_may cX9_may 2 (some .int) rm_X9_may E V [.ref (eA E 9 0), .int x1] (Qi E K)
def vc_X9_may (l : Launch) (G : Gt) (E : Et) (V : Vt) (x1 : Int32) (K : Int32 → Vt → Prop) : Prop := (C_X9_isPart l G E V x1 (fun x22 V21 => ((x22 = (0 : Int32) → K (-1 : Int32) V21) ∧ (¬ x22 = (0 : Int32) → (C_X9_hinders l G E V21 x1 (fun x24 V23 => K x24 V23))))))
theorem ok_X9_may {l : Launch} {G : Gt} {E : Et} {V : Vt} {x1 : Int32} {K : Int32 → Vt → Prop} (hE : Sg E)  (h : vc_X9_may l G E V x1 K) : C_X9_may l G E V x1 K := by
  unfold vc_X9_may at h
  refine Cl.of (by decide +kernel) (Nat.le_of_ble_eq_true rfl) (show Ev l G RX9 cX9_may 2 (some .int) rm_X9_may E 0 0 V 0 [(0, .ref (eA E 9 0)), (1, .int x1)] [] (Qi E K) from ?_)
  refine r_aload_n (v := .ref (eA E 9 0)) dX9_may_0 rfl (rl_ref _) ?_
  refine r_iload_n (x := x1) dX9_may_1 rfl ?_
  refine r_cVi (As := [.int x1]) (rest := []) dX9_may_2 mv_X9_isPart ml_RX9_137 ⟨_, _, rfl⟩ (hE.1 9 (by decide)) ⟨Nat.le_of_ble_eq_true rfl, Nat.le_of_ble_eq_true rfl⟩ ⟨rfl, rfl⟩ rfl rfl (Nat.le_of_ble_eq_true rfl) h (fun x22 V21 h => ?_)
  refine r_if_eq 16 dX9_may_5 (by decide) (fun q => ?_) (fun q => ?_)
  · have h := h.1 q
    refine r_iconst (v := (-1 : Int32)) dX9_may_16 (by decide) ?_
    exact r_iret dX9_may_17 rfl ⟨Nat.le_of_ble_eq_true rfl, Nat.le_of_ble_eq_true rfl⟩ ⟨rfl, _, rfl, h⟩
  · have h := h.2 q
    refine r_aload_n (v := .ref (eA E 9 0)) dX9_may_8 rfl (rl_ref _) ?_
    refine r_iload_n (x := x1) dX9_may_9 rfl ?_
    refine r_cVi (As := [.int x1]) (rest := []) dX9_may_10 mv_X9_hinders ml_RX9_238 ⟨_, _, rfl⟩ (hE.1 9 (by decide)) ⟨Nat.le_of_ble_eq_true rfl, Nat.le_of_ble_eq_true rfl⟩ ⟨rfl, rfl⟩ rfl rfl (Nat.le_of_ble_eq_true rfl) h (fun x24 V23 h => ?_)
    refine r_goto 17 dX9_may_13 (by decide) ?_
    exact r_iret dX9_may_17 rfl ⟨Nat.le_of_ble_eq_true rfl, Nat.le_of_ble_eq_true rfl⟩ ⟨rfl, _, rfl, h⟩
abbrev rm_X9_falls : Room := { frames := 4, cells := 0, slots := 0, locals := 90 }
def C_X9_falls (l : Launch) (G : Gt) (E : Et) (V : Vt) (x1 : Int32) (K : Int32 → Vt → Prop) : Prop := Cl l G yX9_falls cX9_falls 2 (some .int) rm_X9_falls E V [.ref (eA E 9 0), .int x1] (Qi E K)
def vc_X9_falls (l : Launch) (G : Gt) (E : Et) (V : Vt) (x1 : Int32) (K : Int32 → Vt → Prop) : Prop := (C_X9_isPart l G E V x1 (fun x22 V21 => ((x22 = (0 : Int32) → K (-1 : Int32) V21) ∧ (¬ x22 = (0 : Int32) → (C_X9_fallingBy l G E V21 x1 (fun x24 V23 => K x24 V23))))))
theorem ok_X9_falls {l : Launch} {G : Gt} {E : Et} {V : Vt} {x1 : Int32} {K : Int32 → Vt → Prop} (hE : Sg E)  (h : vc_X9_falls l G E V x1 K) : C_X9_falls l G E V x1 K := by
  unfold vc_X9_falls at h
  refine Cl.of (by decide +kernel) (Nat.le_of_ble_eq_true rfl) (show Ev l G RX9 cX9_falls 2 (some .int) rm_X9_falls E 0 0 V 0 [(0, .ref (eA E 9 0)), (1, .int x1)] [] (Qi E K) from ?_)
  refine r_aload_n (v := .ref (eA E 9 0)) dX9_falls_0 rfl (rl_ref _) ?_
  refine r_iload_n (x := x1) dX9_falls_1 rfl ?_
  refine r_cVi (As := [.int x1]) (rest := []) dX9_falls_2 mv_X9_isPart ml_RX9_137 ⟨_, _, rfl⟩ (hE.1 9 (by decide)) ⟨Nat.le_of_ble_eq_true rfl, Nat.le_of_ble_eq_true rfl⟩ ⟨rfl, rfl⟩ rfl rfl (Nat.le_of_ble_eq_true rfl) h (fun x22 V21 h => ?_)
  refine r_if_eq 16 dX9_falls_5 (by decide) (fun q => ?_) (fun q => ?_)
  · have h := h.1 q
    refine r_iconst (v := (-1 : Int32)) dX9_falls_16 (by decide) ?_
    exact r_iret dX9_falls_17 rfl ⟨Nat.le_of_ble_eq_true rfl, Nat.le_of_ble_eq_true rfl⟩ ⟨rfl, _, rfl, h⟩
  · have h := h.2 q
    refine r_aload_n (v := .ref (eA E 9 0)) dX9_falls_8 rfl (rl_ref _) ?_
    refine r_iload_n (x := x1) dX9_falls_9 rfl ?_
    refine r_cVi (As := [.int x1]) (rest := []) dX9_falls_10 mv_X9_fallingBy ml_RX9_235 ⟨_, _, rfl⟩ (hE.1 9 (by decide)) ⟨Nat.le_of_ble_eq_true rfl, Nat.le_of_ble_eq_true rfl⟩ ⟨rfl, rfl⟩ rfl rfl (Nat.le_of_ble_eq_true rfl) h (fun x24 V23 h => ?_)
    refine r_goto 17 dX9_falls_13 (by decide) ?_
    exact r_iret dX9_falls_17 rfl ⟨Nat.le_of_ble_eq_true rfl, Nat.le_of_ble_eq_true rfl⟩ ⟨rfl, _, rfl, h⟩
abbrev rm_X9_lay : Room := { frames := 5, cells := 0, slots := 0, locals := 114 }
def C_X9_lay (l : Launch) (G : Gt) (E : Et) (V : Vt) (x1 : Int32) (K : Int32 → Vt → Prop) : Prop := Cl l G yX9_lay cX9_lay 6 (some .int) rm_X9_lay E V [.ref (eA E 9 0), .int x1] (Qi E K)
def A_X9_lay_35 (l : Launch) (G : Gt) (E : Et) (V : Vt) (x1 : Int32) (x3 : Int32) (x4 : Int32) (K : Int32 → Vt → Prop) : Prop := Ev l G RX9 cX9_lay 6 (some .int) rm_X9_lay E 0 0 V 35 [(0, .ref (eA E 9 0)), (1, .int x1), (3, .int x3), (4, .int x4)] [] (Qi E K)
def A_X9_lay_75 (l : Launch) (G : Gt) (E : Et) (V : Vt) (x1 : Int32) (x3 : Int32) (x4 : Int32) (K : Int32 → Vt → Prop) : Prop := Ev l G RX9 cX9_lay 6 (some .int) rm_X9_lay E 0 0 V 75 [(0, .ref (eA E 9 0)), (1, .int x1), (3, .int x3), (4, .int x4)] [] (Qi E K)
def vc_X9_lay (l : Launch) (G : Gt) (E : Et) (V : Vt) (x1 : Int32) (K : Int32 → Vt → Prop) : Prop := (C_X9_isPart l G E V x1 (fun x22 V21 => ((¬ x22 = (0 : Int32) → (C_X9_hinders l G E V21 x1 (fun x24 V23 => ((x24 ≤ (0 : Int32) → (vp_in x1 40) ∧ A_X9_lay_35 l G E V23 x1 (V23 1006 0 (x1).toNatClampNeg) (0 : Int32) K) ∧ (¬ x24 ≤ (0 : Int32) → K ((-10 : Int32) - x24) V23))))) ∧ (x22 = (0 : Int32) → K (-1 : Int32) V21))))
def vc_X9_lay_35 (l : Launch) (G : Gt) (E : Et) (V : Vt) (x1 : Int32) (x3 : Int32) (x4 : Int32) (K : Int32 → Vt → Prop) : Prop := (((V 1038 0 0) ≤ x4 → A_X9_lay_75 l G E V x1 x3 (0 : Int32) K) ∧ (¬ (V 1038 0 0) ≤ x4 → (C_X9_endFor l G E V x4 x1 (fun x26 V25 => ((x26 = (0 : Int32) → (vp_in x4 30) ∧ A_X9_lay_35 l G E (up3 V25 1045 0 (x4).toNatClampNeg (vp_nar .boolean (0 : Int32))) x1 x3 (x4 + (1 : Int32)) K) ∧ (¬ x26 = (0 : Int32) → (vp_in x4 30) ∧ A_X9_lay_35 l G E (up3 V25 1045 0 (x4).toNatClampNeg (vp_nar .boolean (1 : Int32))) x1 x3 (x4 + (1 : Int32)) K))))))
def vc_X9_lay_75 (l : Launch) (G : Gt) (E : Et) (V : Vt) (x1 : Int32) (x3 : Int32) (x4 : Int32) (K : Int32 → Vt → Prop) : Prop := (((V 1038 0 0) ≤ x4 → (vp_in x1 40) ∧ (vp_in x1 40) ∧ ((¬ ((up3 V 1020 0 0 ((V 1020 0 0) + (V 1006 0 (x1).toNatClampNeg))) 1014 0 (x1).toNatClampNeg) = (0 : Int32) → (vp_in x1 40) ∧ (vp_in x1 40) ∧ (vp_in x1 40) ∧ (vp_in x1 40) ∧ (vp_in x1 40) ∧ K ((up3 (up3 (up3 (up3 (up3 V 1020 0 0 ((V 1020 0 0) + (V 1006 0 (x1).toNatClampNeg))) 1014 0 (x1).toNatClampNeg (vp_nar .boolean (1 : Int32))) 1012 0 (x1).toNatClampNeg (((up3 (up3 V 1020 0 0 ((V 1020 0 0) + (V 1006 0 (x1).toNatClampNeg))) 1014 0 (x1).toNatClampNeg (vp_nar .boolean (1 : Int32))) 1012 0 (x1).toNatClampNeg) + (1 : Int32))) 1013 0 (x1).toNatClampNeg (0 : Int32)) 1019 0 0 (((up3 (up3 (up3 (up3 V 1020 0 0 ((V 1020 0 0) + (V 1006 0 (x1).toNatClampNeg))) 1014 0 (x1).toNatClampNeg (vp_nar .boolean (1 : Int32))) 1012 0 (x1).toNatClampNeg (((up3 (up3 V 1020 0 0 ((V 1020 0 0) + (V 1006 0 (x1).toNatClampNeg))) 1014 0 (x1).toNatClampNeg (vp_nar .boolean (1 : Int32))) 1012 0 (x1).toNatClampNeg) + (1 : Int32))) 1013 0 (x1).toNatClampNeg (0 : Int32)) 1019 0 0) + (1 : Int32))) 1012 0 (x1).toNatClampNeg) (up3 (up3 (up3 (up3 (up3 V 1020 0 0 ((V 1020 0 0) + (V 1006 0 (x1).toNatClampNeg))) 1014 0 (x1).toNatClampNeg (vp_nar .boolean (1 : Int32))) 1012 0 (x1).toNatClampNeg (((up3 (up3 V 1020 0 0 ((V 1020 0 0) + (V 1006 0 (x1).toNatClampNeg))) 1014 0 (x1).toNatClampNeg (vp_nar .boolean (1 : Int32))) 1012 0 (x1).toNatClampNeg) + (1 : Int32))) 1013 0 (x1).toNatClampNeg (0 : Int32)) 1019 0 0 (((up3 (up3 (up3 (up3 V 1020 0 0 ((V 1020 0 0) + (V 1006 0 (x1).toNatClampNeg))) 1014 0 (x1).toNatClampNeg (vp_nar .boolean (1 : Int32))) 1012 0 (x1).toNatClampNeg (((up3 (up3 V 1020 0 0 ((V 1020 0 0) + (V 1006 0 (x1).toNatClampNeg))) 1014 0 (x1).toNatClampNeg (vp_nar .boolean (1 : Int32))) 1012 0 (x1).toNatClampNeg) + (1 : Int32))) 1013 0 (x1).toNatClampNeg (0 : Int32)) 1019 0 0) + (1 : Int32)))) ∧ (((up3 V 1020 0 0 ((V 1020 0 0) + (V 1006 0 (x1).toNatClampNeg))) 1014 0 (x1).toNatClampNeg) = (0 : Int32) → (vp_in x1 40) ∧ ((¬ ((up3 V 1020 0 0 ((V 1020 0 0) + (V 1006 0 (x1).toNatClampNeg))) 1002 0 (x1).toNatClampNeg) = (1 : Int32) → (vp_in x1 40) ∧ (vp_in x1 40) ∧ (vp_in x1 40) ∧ (vp_in x1 40) ∧ (vp_in x1 40) ∧ K ((up3 (up3 (up3 (up3 (up3 V 1020 0 0 ((V 1020 0 0) + (V 1006 0 (x1).toNatClampNeg))) 1014 0 (x1).toNatClampNeg (vp_nar .boolean (0 : Int32))) 1012 0 (x1).toNatClampNeg (((up3 (up3 V 1020 0 0 ((V 1020 0 0) + (V 1006 0 (x1).toNatClampNeg))) 1014 0 (x1).toNatClampNeg (vp_nar .boolean (0 : Int32))) 1012 0 (x1).toNatClampNeg) + (1 : Int32))) 1013 0 (x1).toNatClampNeg (0 : Int32)) 1019 0 0 (((up3 (up3 (up3 (up3 V 1020 0 0 ((V 1020 0 0) + (V 1006 0 (x1).toNatClampNeg))) 1014 0 (x1).toNatClampNeg (vp_nar .boolean (0 : Int32))) 1012 0 (x1).toNatClampNeg (((up3 (up3 V 1020 0 0 ((V 1020 0 0) + (V 1006 0 (x1).toNatClampNeg))) 1014 0 (x1).toNatClampNeg (vp_nar .boolean (0 : Int32))) 1012 0 (x1).toNatClampNeg) + (1 : Int32))) 1013 0 (x1).toNatClampNeg (0 : Int32)) 1019 0 0) + (1 : Int32))) 1012 0 (x1).toNatClampNeg) (up3 (up3 (up3 (up3 (up3 V 1020 0 0 ((V 1020 0 0) + (V 1006 0 (x1).toNatClampNeg))) 1014 0 (x1).toNatClampNeg (vp_nar .boolean (0 : Int32))) 1012 0 (x1).toNatClampNeg (((up3 (up3 V 1020 0 0 ((V 1020 0 0) + (V 1006 0 (x1).toNatClampNeg))) 1014 0 (x1).toNatClampNeg (vp_nar .boolean (0 : Int32))) 1012 0 (x1).toNatClampNeg) + (1 : Int32))) 1013 0 (x1).toNatClampNeg (0 : Int32)) 1019 0 0 (((up3 (up3 (up3 (up3 V 1020 0 0 ((V 1020 0 0) + (V 1006 0 (x1).toNatClampNeg))) 1014 0 (x1).toNatClampNeg (vp_nar .boolean (0 : Int32))) 1012 0 (x1).toNatClampNeg (((up3 (up3 V 1020 0 0 ((V 1020 0 0) + (V 1006 0 (x1).toNatClampNeg))) 1014 0 (x1).toNatClampNeg (vp_nar .boolean (0 : Int32))) 1012 0 (x1).toNatClampNeg) + (1 : Int32))) 1013 0 (x1).toNatClampNeg (0 : Int32)) 1019 0 0) + (1 : Int32)))) ∧ (((up3 V 1020 0 0 ((V 1020 0 0) + (V 1006 0 (x1).toNatClampNeg))) 1002 0 (x1).toNatClampNeg) = (1 : Int32) → (vp_in x1 40) ∧ ((¬ ((up3 V 1020 0 0 ((V 1020 0 0) + (V 1006 0 (x1).toNatClampNeg))) 1012 0 (x1).toNatClampNeg) = (0 : Int32) → (vp_in x1 40) ∧ (vp_in x1 40) ∧ (vp_in x1 40) ∧ (vp_in x1 40) ∧ (vp_in x1 40) ∧ K ((up3 (up3 (up3 (up3 (up3 V 1020 0 0 ((V 1020 0 0) + (V 1006 0 (x1).toNatClampNeg))) 1014 0 (x1).toNatClampNeg (vp_nar .boolean (0 : Int32))) 1012 0 (x1).toNatClampNeg (((up3 (up3 V 1020 0 0 ((V 1020 0 0) + (V 1006 0 (x1).toNatClampNeg))) 1014 0 (x1).toNatClampNeg (vp_nar .boolean (0 : Int32))) 1012 0 (x1).toNatClampNeg) + (1 : Int32))) 1013 0 (x1).toNatClampNeg (0 : Int32)) 1019 0 0 (((up3 (up3 (up3 (up3 V 1020 0 0 ((V 1020 0 0) + (V 1006 0 (x1).toNatClampNeg))) 1014 0 (x1).toNatClampNeg (vp_nar .boolean (0 : Int32))) 1012 0 (x1).toNatClampNeg (((up3 (up3 V 1020 0 0 ((V 1020 0 0) + (V 1006 0 (x1).toNatClampNeg))) 1014 0 (x1).toNatClampNeg (vp_nar .boolean (0 : Int32))) 1012 0 (x1).toNatClampNeg) + (1 : Int32))) 1013 0 (x1).toNatClampNeg (0 : Int32)) 1019 0 0) + (1 : Int32))) 1012 0 (x1).toNatClampNeg) (up3 (up3 (up3 (up3 (up3 V 1020 0 0 ((V 1020 0 0) + (V 1006 0 (x1).toNatClampNeg))) 1014 0 (x1).toNatClampNeg (vp_nar .boolean (0 : Int32))) 1012 0 (x1).toNatClampNeg (((up3 (up3 V 1020 0 0 ((V 1020 0 0) + (V 1006 0 (x1).toNatClampNeg))) 1014 0 (x1).toNatClampNeg (vp_nar .boolean (0 : Int32))) 1012 0 (x1).toNatClampNeg) + (1 : Int32))) 1013 0 (x1).toNatClampNeg (0 : Int32)) 1019 0 0 (((up3 (up3 (up3 (up3 V 1020 0 0 ((V 1020 0 0) + (V 1006 0 (x1).toNatClampNeg))) 1014 0 (x1).toNatClampNeg (vp_nar .boolean (0 : Int32))) 1012 0 (x1).toNatClampNeg (((up3 (up3 V 1020 0 0 ((V 1020 0 0) + (V 1006 0 (x1).toNatClampNeg))) 1014 0 (x1).toNatClampNeg (vp_nar .boolean (0 : Int32))) 1012 0 (x1).toNatClampNeg) + (1 : Int32))) 1013 0 (x1).toNatClampNeg (0 : Int32)) 1019 0 0) + (1 : Int32)))) ∧ (((up3 V 1020 0 0 ((V 1020 0 0) + (V 1006 0 (x1).toNatClampNeg))) 1012 0 (x1).toNatClampNeg) = (0 : Int32) → (vp_in x1 40) ∧ (vp_in x1 40) ∧ (vp_in x1 40) ∧ (vp_in x1 40) ∧ (vp_in x1 40) ∧ K ((up3 (up3 (up3 (up3 (up3 V 1020 0 0 ((V 1020 0 0) + (V 1006 0 (x1).toNatClampNeg))) 1014 0 (x1).toNatClampNeg (vp_nar .boolean (1 : Int32))) 1012 0 (x1).toNatClampNeg (((up3 (up3 V 1020 0 0 ((V 1020 0 0) + (V 1006 0 (x1).toNatClampNeg))) 1014 0 (x1).toNatClampNeg (vp_nar .boolean (1 : Int32))) 1012 0 (x1).toNatClampNeg) + (1 : Int32))) 1013 0 (x1).toNatClampNeg (0 : Int32)) 1019 0 0 (((up3 (up3 (up3 (up3 V 1020 0 0 ((V 1020 0 0) + (V 1006 0 (x1).toNatClampNeg))) 1014 0 (x1).toNatClampNeg (vp_nar .boolean (1 : Int32))) 1012 0 (x1).toNatClampNeg (((up3 (up3 V 1020 0 0 ((V 1020 0 0) + (V 1006 0 (x1).toNatClampNeg))) 1014 0 (x1).toNatClampNeg (vp_nar .boolean (1 : Int32))) 1012 0 (x1).toNatClampNeg) + (1 : Int32))) 1013 0 (x1).toNatClampNeg (0 : Int32)) 1019 0 0) + (1 : Int32))) 1012 0 (x1).toNatClampNeg) (up3 (up3 (up3 (up3 (up3 V 1020 0 0 ((V 1020 0 0) + (V 1006 0 (x1).toNatClampNeg))) 1014 0 (x1).toNatClampNeg (vp_nar .boolean (1 : Int32))) 1012 0 (x1).toNatClampNeg (((up3 (up3 V 1020 0 0 ((V 1020 0 0) + (V 1006 0 (x1).toNatClampNeg))) 1014 0 (x1).toNatClampNeg (vp_nar .boolean (1 : Int32))) 1012 0 (x1).toNatClampNeg) + (1 : Int32))) 1013 0 (x1).toNatClampNeg (0 : Int32)) 1019 0 0 (((up3 (up3 (up3 (up3 V 1020 0 0 ((V 1020 0 0) + (V 1006 0 (x1).toNatClampNeg))) 1014 0 (x1).toNatClampNeg (vp_nar .boolean (1 : Int32))) 1012 0 (x1).toNatClampNeg (((up3 (up3 V 1020 0 0 ((V 1020 0 0) + (V 1006 0 (x1).toNatClampNeg))) 1014 0 (x1).toNatClampNeg (vp_nar .boolean (1 : Int32))) 1012 0 (x1).toNatClampNeg) + (1 : Int32))) 1013 0 (x1).toNatClampNeg (0 : Int32)) 1019 0 0) + (1 : Int32)))))))))) ∧ (¬ (V 1038 0 0) ≤ x4 → (vp_in x4 30) ∧ ((¬ (V 1045 0 (x4).toNatClampNeg) = (0 : Int32) → (vp_in x4 30) ∧ ((x3 ≤ (V 1040 0 (x4).toNatClampNeg) → (vp_in x4 30) ∧ (vp_in x4 30) ∧ A_X9_lay_75 l G E (up3 V 1040 0 (x4).toNatClampNeg ((V 1040 0 (x4).toNatClampNeg) - x3)) x1 (x3 - x3) (x4 + (1 : Int32)) K) ∧ (¬ x3 ≤ (V 1040 0 (x4).toNatClampNeg) → (vp_in x4 30) ∧ (vp_in x4 30) ∧ (vp_in x4 30) ∧ A_X9_lay_75 l G E (up3 V 1040 0 (x4).toNatClampNeg ((V 1040 0 (x4).toNatClampNeg) - (V 1040 0 (x4).toNatClampNeg))) x1 (x3 - (V 1040 0 (x4).toNatClampNeg)) (x4 + (1 : Int32)) K))) ∧ ((V 1045 0 (x4).toNatClampNeg) = (0 : Int32) → A_X9_lay_75 l G E V x1 x3 (x4 + (1 : Int32)) K))))
theorem ok_X9_lay {l : Launch} {G : Gt} {E : Et} {V : Vt} {x1 : Int32} {K : Int32 → Vt → Prop} (hE : Sg E)  (h : vc_X9_lay l G E V x1 K) : C_X9_lay l G E V x1 K := by
  unfold vc_X9_lay at h
  refine Cl.of (by decide +kernel) (Nat.le_of_ble_eq_true rfl) (show Ev l G RX9 cX9_lay 6 (some .int) rm_X9_lay E 0 0 V 0 [(0, .ref (eA E 9 0)), (1, .int x1)] [] (Qi E K) from ?_)
  refine r_aload_n (v := .ref (eA E 9 0)) dX9_lay_0 rfl (rl_ref _) ?_
  refine r_iload_n (x := x1) dX9_lay_1 rfl ?_
  refine r_cVi (As := [.int x1]) (rest := []) dX9_lay_2 mv_X9_isPart ml_RX9_137 ⟨_, _, rfl⟩ (hE.1 9 (by decide)) ⟨Nat.le_of_ble_eq_true rfl, Nat.le_of_ble_eq_true rfl⟩ ⟨rfl, rfl⟩ rfl rfl (Nat.le_of_ble_eq_true rfl) h (fun x22 V21 h => ?_)
  refine r_if_ne 10 dX9_lay_5 (by decide) (fun q => ?_) (fun q => ?_)
  · have h := h.1 q
    refine r_aload_n (v := .ref (eA E 9 0)) dX9_lay_10 rfl (rl_ref _) ?_
    refine r_iload_n (x := x1) dX9_lay_11 rfl ?_
    refine r_cVi (As := [.int x1]) (rest := []) dX9_lay_12 mv_X9_hinders ml_RX9_238 ⟨_, _, rfl⟩ (hE.1 9 (by decide)) ⟨Nat.le_of_ble_eq_true rfl, Nat.le_of_ble_eq_true rfl⟩ ⟨rfl, rfl⟩ rfl rfl (Nat.le_of_ble_eq_true rfl) h (fun x24 V23 h => ?_)
    refine r_istore_n dX9_lay_15 (by decide) ?_
    refine r_iload_n (x := x24) dX9_lay_16 rfl ?_
    refine r_if_le 25 dX9_lay_17 (by decide) (fun q => ?_) (fun q => ?_)
    · have h := h.1 q
      refine r_aload_n (v := .ref (eA E 9 0)) dX9_lay_25 rfl (rl_ref _) ?_
      refine r_get (v := .ref (eA E 1006 0)) dX9_lay_26 fl_RX9_22 (hE.1 9 (by decide)) rfl ?_
      refine r_iload_n (x := x1) dX9_lay_29 rfl ?_
      obtain ⟨hb, h⟩ := h
      refine r_iald dX9_lay_30 rfl (by decide) (hE.1 9 (by decide)) (ix hE (by decide) rfl hb) ?_
      refine r_istore_n dX9_lay_31 (by decide) ?_
      refine r_iconst (v := (0 : Int32)) dX9_lay_32 (by decide) ?_
      refine r_istore dX9_lay_33 (by decide) ?_
      exact Ev.loc [0, 1, 3, 4] rfl h
    · have h := h.2 q
      refine r_bipush (v := (-10 : Int32)) dX9_lay_20 (by decide) ?_
      refine r_iload_n (x := x24) dX9_lay_22 rfl ?_
      refine r_isub dX9_lay_23 ?_
      exact r_iret dX9_lay_24 rfl ⟨Nat.le_of_ble_eq_true rfl, Nat.le_of_ble_eq_true rfl⟩ ⟨rfl, _, rfl, h⟩
  · have h := h.2 q
    refine r_iconst (v := (-1 : Int32)) dX9_lay_8 (by decide) ?_
    exact r_iret dX9_lay_9 rfl ⟨Nat.le_of_ble_eq_true rfl, Nat.le_of_ble_eq_true rfl⟩ ⟨rfl, _, rfl, h⟩
theorem ok_X9_lay_35 {l : Launch} {G : Gt} {E : Et} {V : Vt} {x1 : Int32} {x3 : Int32} {x4 : Int32} {K : Int32 → Vt → Prop} (hE : Sg E)  (h : vc_X9_lay_35 l G E V x1 x3 x4 K) : A_X9_lay_35 l G E V x1 x3 x4 K := by
  unfold vc_X9_lay_35 at h
  unfold A_X9_lay_35
  refine r_iload (x := x4) dX9_lay_35 rfl ?_
  refine r_aload_n (v := .ref (eA E 9 0)) dX9_lay_37 rfl (rl_ref _) ?_
  refine r_get (v := .int (V 1038 0 0)) dX9_lay_38 fl_RX9_210 (hE.1 9 (by decide)) rfl ?_
  refine r_icmp_ge 72 dX9_lay_41 (by decide) (fun q => ?_) (fun q => ?_)
  · have h := h.1 q
    refine r_iconst (v := (0 : Int32)) dX9_lay_72 (by decide) ?_
    refine r_istore dX9_lay_73 (by decide) ?_
    exact Ev.loc [0, 1, 2, 3] rfl h
  · have h := h.2 q
    refine r_aload_n (v := .ref (eA E 9 0)) dX9_lay_44 rfl (rl_ref _) ?_
    refine r_get (v := .ref (eA E 1045 0)) dX9_lay_45 fl_RX9_112 (hE.1 9 (by decide)) rfl ?_
    refine r_iload (x := x4) dX9_lay_48 rfl ?_
    refine r_aload_n (v := .ref (eA E 9 0)) dX9_lay_50 rfl (rl_ref _) ?_
    refine r_iload (x := x4) dX9_lay_51 rfl ?_
    refine r_iload_n (x := x1) dX9_lay_53 rfl ?_
    refine r_cVi (As := [.int x4, .int x1]) (rest := [.int x4, .ref (eA E 1045 0)]) dX9_lay_54 mv_X9_endFor ml_RX9_228 ⟨_, _, rfl⟩ (hE.1 9 (by decide)) ⟨Nat.le_of_ble_eq_true rfl, Nat.le_of_ble_eq_true rfl⟩ ⟨rfl, rfl⟩ rfl rfl (Nat.le_of_ble_eq_true rfl) h (fun x26 V25 h => ?_)
    refine r_if_eq 64 dX9_lay_57 (by decide) (fun q => ?_) (fun q => ?_)
    · have h := h.1 q
      refine r_iconst (v := (0 : Int32)) dX9_lay_64 (by decide) ?_
      obtain ⟨hb, h⟩ := h
      refine r_zast dX9_lay_65 rfl (by decide) (hE.1 9 (by decide)) (ix hE (by decide) rfl hb) ?_
      refine r_iinc (x := x4) (v := (1 : Int32)) dX9_lay_66 rfl (by decide) (by decide) ?_
      refine r_goto 35 dX9_lay_69 (by decide) ?_
      exact Ev.loc [0, 1, 2, 3] rfl h
    · have h := h.2 q
      refine r_iconst (v := (1 : Int32)) dX9_lay_60 (by decide) ?_
      refine r_goto 65 dX9_lay_61 (by decide) ?_
      obtain ⟨hb, h⟩ := h
      refine r_zast dX9_lay_65 rfl (by decide) (hE.1 9 (by decide)) (ix hE (by decide) rfl hb) ?_
      refine r_iinc (x := x4) (v := (1 : Int32)) dX9_lay_66 rfl (by decide) (by decide) ?_
      refine r_goto 35 dX9_lay_69 (by decide) ?_
      exact Ev.loc [0, 1, 2, 3] rfl h
theorem ok_X9_lay_75 {l : Launch} {G : Gt} {E : Et} {V : Vt} {x1 : Int32} {x3 : Int32} {x4 : Int32} {K : Int32 → Vt → Prop} (hE : Sg E)  (h : vc_X9_lay_75 l G E V x1 x3 x4 K) : A_X9_lay_75 l G E V x1 x3 x4 K := by
  unfold vc_X9_lay_75 at h
  unfold A_X9_lay_75
  refine r_iload (x := x4) dX9_lay_75 rfl ?_
  refine r_aload_n (v := .ref (eA E 9 0)) dX9_lay_77 rfl (rl_ref _) ?_
  refine r_get (v := .int (V 1038 0 0)) dX9_lay_78 fl_RX9_210 (hE.1 9 (by decide)) rfl ?_
  refine r_icmp_ge 144 dX9_lay_81 (by decide) (fun q => ?_) (fun q => ?_)
  · have h := h.1 q
    refine r_aload_n (v := .ref (eA E 9 0)) dX9_lay_144 rfl (rl_ref _) ?_
    refine r_dup dX9_lay_145 rfl ?_
    refine r_get (v := .int (V 1020 0 0)) dX9_lay_146 fl_RX9_241 (hE.1 9 (by decide)) rfl ?_
    refine r_aload_n (v := .ref (eA E 9 0)) dX9_lay_149 rfl (rl_ref _) ?_
    refine r_get (v := .ref (eA E 1006 0)) dX9_lay_150 fl_RX9_22 (hE.1 9 (by decide)) rfl ?_
    refine r_iload_n (x := x1) dX9_lay_153 rfl ?_
    obtain ⟨hb, h⟩ := h
    refine r_iald dX9_lay_154 rfl (by decide) (hE.1 9 (by decide)) (ix hE (by decide) rfl hb) ?_
    refine r_iadd dX9_lay_155 ?_
    refine r_put dX9_lay_156 fp_RX9_241 rfl (hE.1 9 (by decide)) rfl rfl ?_
    refine r_aload_n (v := .ref (eA E 9 0)) dX9_lay_159 rfl (rl_ref _) ?_
    refine r_get (v := .ref (eA E 1014 0)) dX9_lay_160 fl_RX9_46 (hE.1 9 (by decide)) rfl ?_
    refine r_iload_n (x := x1) dX9_lay_163 rfl ?_
    refine r_aload_n (v := .ref (eA E 9 0)) dX9_lay_164 rfl (rl_ref _) ?_
    refine r_get (v := .ref (eA E 1014 0)) dX9_lay_165 fl_RX9_46 (hE.1 9 (by decide)) rfl ?_
    refine r_iload_n (x := x1) dX9_lay_168 rfl ?_
    obtain ⟨hb, h⟩ := h
    refine r_zald dX9_lay_169 rfl (by decide) (hE.1 9 (by decide)) (ix hE (by decide) rfl hb) ?_
    refine r_if_ne 192 dX9_lay_170 (by decide) (fun q => ?_) (fun q => ?_)
    · have h := h.1 q
      refine r_iconst (v := (1 : Int32)) dX9_lay_192 (by decide) ?_
      refine r_goto 197 dX9_lay_193 (by decide) ?_
      obtain ⟨hb, h⟩ := h
      refine r_zast dX9_lay_197 rfl (by decide) (hE.1 9 (by decide)) (ix hE (by decide) rfl hb) ?_
      refine r_aload_n (v := .ref (eA E 9 0)) dX9_lay_198 rfl (rl_ref _) ?_
      refine r_get (v := .ref (eA E 1012 0)) dX9_lay_199 fl_RX9_40 (hE.1 9 (by decide)) rfl ?_
      refine r_iload_n (x := x1) dX9_lay_202 rfl ?_
      refine r_dup2 dX9_lay_203 rfl rfl ?_
      obtain ⟨hb, h⟩ := h
      refine r_iald dX9_lay_204 rfl (by decide) (hE.1 9 (by decide)) (ix hE (by decide) rfl hb) ?_
      refine r_iconst (v := (1 : Int32)) dX9_lay_205 (by decide) ?_
      refine r_iadd dX9_lay_206 ?_
      obtain ⟨hb, h⟩ := h
      refine r_iast dX9_lay_207 rfl (by decide) (hE.1 9 (by decide)) (ix hE (by decide) rfl hb) ?_
      refine r_aload_n (v := .ref (eA E 9 0)) dX9_lay_208 rfl (rl_ref _) ?_
      refine r_get (v := .ref (eA E 1013 0)) dX9_lay_209 fl_RX9_43 (hE.1 9 (by decide)) rfl ?_
      refine r_iload_n (x := x1) dX9_lay_212 rfl ?_
      refine r_iconst (v := (0 : Int32)) dX9_lay_213 (by decide) ?_
      obtain ⟨hb, h⟩ := h
      refine r_iast dX9_lay_214 rfl (by decide) (hE.1 9 (by decide)) (ix hE (by decide) rfl hb) ?_
      refine r_aload_n (v := .ref (eA E 9 0)) dX9_lay_215 rfl (rl_ref _) ?_
      refine r_dup dX9_lay_216 rfl ?_
      refine r_get (v := .int ((up3 (up3 (up3 (up3 V 1020 0 0 ((V 1020 0 0) + (V 1006 0 (x1).toNatClampNeg))) 1014 0 (x1).toNatClampNeg (vp_nar .boolean (1 : Int32))) 1012 0 (x1).toNatClampNeg (((up3 (up3 V 1020 0 0 ((V 1020 0 0) + (V 1006 0 (x1).toNatClampNeg))) 1014 0 (x1).toNatClampNeg (vp_nar .boolean (1 : Int32))) 1012 0 (x1).toNatClampNeg) + (1 : Int32))) 1013 0 (x1).toNatClampNeg (0 : Int32)) 1019 0 0)) dX9_lay_217 fl_RX9_200 (hE.1 9 (by decide)) rfl ?_
      refine r_iconst (v := (1 : Int32)) dX9_lay_220 (by decide) ?_
      refine r_iadd dX9_lay_221 ?_
      refine r_put dX9_lay_222 fp_RX9_200 rfl (hE.1 9 (by decide)) rfl rfl ?_
      refine r_aload_n (v := .ref (eA E 9 0)) dX9_lay_225 rfl (rl_ref _) ?_
      refine r_get (v := .ref (eA E 1012 0)) dX9_lay_226 fl_RX9_40 (hE.1 9 (by decide)) rfl ?_
      refine r_iload_n (x := x1) dX9_lay_229 rfl ?_
      obtain ⟨hb, h⟩ := h
      refine r_iald dX9_lay_230 rfl (by decide) (hE.1 9 (by decide)) (ix hE (by decide) rfl hb) ?_
      exact r_iret dX9_lay_231 rfl ⟨Nat.le_of_ble_eq_true rfl, Nat.le_of_ble_eq_true rfl⟩ ⟨rfl, _, rfl, h⟩
    · have h := h.2 q
      refine r_aload_n (v := .ref (eA E 9 0)) dX9_lay_173 rfl (rl_ref _) ?_
      refine r_get (v := .ref (eA E 1002 0)) dX9_lay_174 fl_RX9_7 (hE.1 9 (by decide)) rfl ?_
      refine r_iload_n (x := x1) dX9_lay_177 rfl ?_
      obtain ⟨hb, h⟩ := h
      refine r_iald dX9_lay_178 rfl (by decide) (hE.1 9 (by decide)) (ix hE (by decide) rfl hb) ?_
      refine r_iconst (v := (1 : Int32)) dX9_lay_179 (by decide) ?_
      refine r_icmp_ne 196 dX9_lay_180 (by decide) (fun q => ?_) (fun q => ?_)
      · have h := h.1 q
        refine r_iconst (v := (0 : Int32)) dX9_lay_196 (by decide) ?_
        obtain ⟨hb, h⟩ := h
        refine r_zast dX9_lay_197 rfl (by decide) (hE.1 9 (by decide)) (ix hE (by decide) rfl hb) ?_
        refine r_aload_n (v := .ref (eA E 9 0)) dX9_lay_198 rfl (rl_ref _) ?_
        refine r_get (v := .ref (eA E 1012 0)) dX9_lay_199 fl_RX9_40 (hE.1 9 (by decide)) rfl ?_
        refine r_iload_n (x := x1) dX9_lay_202 rfl ?_
        refine r_dup2 dX9_lay_203 rfl rfl ?_
        obtain ⟨hb, h⟩ := h
        refine r_iald dX9_lay_204 rfl (by decide) (hE.1 9 (by decide)) (ix hE (by decide) rfl hb) ?_
        refine r_iconst (v := (1 : Int32)) dX9_lay_205 (by decide) ?_
        refine r_iadd dX9_lay_206 ?_
        obtain ⟨hb, h⟩ := h
        refine r_iast dX9_lay_207 rfl (by decide) (hE.1 9 (by decide)) (ix hE (by decide) rfl hb) ?_
        refine r_aload_n (v := .ref (eA E 9 0)) dX9_lay_208 rfl (rl_ref _) ?_
        refine r_get (v := .ref (eA E 1013 0)) dX9_lay_209 fl_RX9_43 (hE.1 9 (by decide)) rfl ?_
        refine r_iload_n (x := x1) dX9_lay_212 rfl ?_
        refine r_iconst (v := (0 : Int32)) dX9_lay_213 (by decide) ?_
        obtain ⟨hb, h⟩ := h
        refine r_iast dX9_lay_214 rfl (by decide) (hE.1 9 (by decide)) (ix hE (by decide) rfl hb) ?_
        refine r_aload_n (v := .ref (eA E 9 0)) dX9_lay_215 rfl (rl_ref _) ?_
        refine r_dup dX9_lay_216 rfl ?_
        refine r_get (v := .int ((up3 (up3 (up3 (up3 V 1020 0 0 ((V 1020 0 0) + (V 1006 0 (x1).toNatClampNeg))) 1014 0 (x1).toNatClampNeg (vp_nar .boolean (0 : Int32))) 1012 0 (x1).toNatClampNeg (((up3 (up3 V 1020 0 0 ((V 1020 0 0) + (V 1006 0 (x1).toNatClampNeg))) 1014 0 (x1).toNatClampNeg (vp_nar .boolean (0 : Int32))) 1012 0 (x1).toNatClampNeg) + (1 : Int32))) 1013 0 (x1).toNatClampNeg (0 : Int32)) 1019 0 0)) dX9_lay_217 fl_RX9_200 (hE.1 9 (by decide)) rfl ?_
        refine r_iconst (v := (1 : Int32)) dX9_lay_220 (by decide) ?_
        refine r_iadd dX9_lay_221 ?_
        refine r_put dX9_lay_222 fp_RX9_200 rfl (hE.1 9 (by decide)) rfl rfl ?_
        refine r_aload_n (v := .ref (eA E 9 0)) dX9_lay_225 rfl (rl_ref _) ?_
        refine r_get (v := .ref (eA E 1012 0)) dX9_lay_226 fl_RX9_40 (hE.1 9 (by decide)) rfl ?_
        refine r_iload_n (x := x1) dX9_lay_229 rfl ?_
        obtain ⟨hb, h⟩ := h
        refine r_iald dX9_lay_230 rfl (by decide) (hE.1 9 (by decide)) (ix hE (by decide) rfl hb) ?_
        exact r_iret dX9_lay_231 rfl ⟨Nat.le_of_ble_eq_true rfl, Nat.le_of_ble_eq_true rfl⟩ ⟨rfl, _, rfl, h⟩
      · have h := h.2 q
        refine r_aload_n (v := .ref (eA E 9 0)) dX9_lay_183 rfl (rl_ref _) ?_
        refine r_get (v := .ref (eA E 1012 0)) dX9_lay_184 fl_RX9_40 (hE.1 9 (by decide)) rfl ?_
        refine r_iload_n (x := x1) dX9_lay_187 rfl ?_
        obtain ⟨hb, h⟩ := h
        refine r_iald dX9_lay_188 rfl (by decide) (hE.1 9 (by decide)) (ix hE (by decide) rfl hb) ?_
        refine r_if_ne 196 dX9_lay_189 (by decide) (fun q => ?_) (fun q => ?_)
        · have h := h.1 q
          refine r_iconst (v := (0 : Int32)) dX9_lay_196 (by decide) ?_
          obtain ⟨hb, h⟩ := h
          refine r_zast dX9_lay_197 rfl (by decide) (hE.1 9 (by decide)) (ix hE (by decide) rfl hb) ?_
          refine r_aload_n (v := .ref (eA E 9 0)) dX9_lay_198 rfl (rl_ref _) ?_
          refine r_get (v := .ref (eA E 1012 0)) dX9_lay_199 fl_RX9_40 (hE.1 9 (by decide)) rfl ?_
          refine r_iload_n (x := x1) dX9_lay_202 rfl ?_
          refine r_dup2 dX9_lay_203 rfl rfl ?_
          obtain ⟨hb, h⟩ := h
          refine r_iald dX9_lay_204 rfl (by decide) (hE.1 9 (by decide)) (ix hE (by decide) rfl hb) ?_
          refine r_iconst (v := (1 : Int32)) dX9_lay_205 (by decide) ?_
          refine r_iadd dX9_lay_206 ?_
          obtain ⟨hb, h⟩ := h
          refine r_iast dX9_lay_207 rfl (by decide) (hE.1 9 (by decide)) (ix hE (by decide) rfl hb) ?_
          refine r_aload_n (v := .ref (eA E 9 0)) dX9_lay_208 rfl (rl_ref _) ?_
          refine r_get (v := .ref (eA E 1013 0)) dX9_lay_209 fl_RX9_43 (hE.1 9 (by decide)) rfl ?_
          refine r_iload_n (x := x1) dX9_lay_212 rfl ?_
          refine r_iconst (v := (0 : Int32)) dX9_lay_213 (by decide) ?_
          obtain ⟨hb, h⟩ := h
          refine r_iast dX9_lay_214 rfl (by decide) (hE.1 9 (by decide)) (ix hE (by decide) rfl hb) ?_
          refine r_aload_n (v := .ref (eA E 9 0)) dX9_lay_215 rfl (rl_ref _) ?_
          refine r_dup dX9_lay_216 rfl ?_
          refine r_get (v := .int ((up3 (up3 (up3 (up3 V 1020 0 0 ((V 1020 0 0) + (V 1006 0 (x1).toNatClampNeg))) 1014 0 (x1).toNatClampNeg (vp_nar .boolean (0 : Int32))) 1012 0 (x1).toNatClampNeg (((up3 (up3 V 1020 0 0 ((V 1020 0 0) + (V 1006 0 (x1).toNatClampNeg))) 1014 0 (x1).toNatClampNeg (vp_nar .boolean (0 : Int32))) 1012 0 (x1).toNatClampNeg) + (1 : Int32))) 1013 0 (x1).toNatClampNeg (0 : Int32)) 1019 0 0)) dX9_lay_217 fl_RX9_200 (hE.1 9 (by decide)) rfl ?_
          refine r_iconst (v := (1 : Int32)) dX9_lay_220 (by decide) ?_
          refine r_iadd dX9_lay_221 ?_
          refine r_put dX9_lay_222 fp_RX9_200 rfl (hE.1 9 (by decide)) rfl rfl ?_
          refine r_aload_n (v := .ref (eA E 9 0)) dX9_lay_225 rfl (rl_ref _) ?_
          refine r_get (v := .ref (eA E 1012 0)) dX9_lay_226 fl_RX9_40 (hE.1 9 (by decide)) rfl ?_
          refine r_iload_n (x := x1) dX9_lay_229 rfl ?_
          obtain ⟨hb, h⟩ := h
          refine r_iald dX9_lay_230 rfl (by decide) (hE.1 9 (by decide)) (ix hE (by decide) rfl hb) ?_
          exact r_iret dX9_lay_231 rfl ⟨Nat.le_of_ble_eq_true rfl, Nat.le_of_ble_eq_true rfl⟩ ⟨rfl, _, rfl, h⟩
        · have h := h.2 q
          refine r_iconst (v := (1 : Int32)) dX9_lay_192 (by decide) ?_
          refine r_goto 197 dX9_lay_193 (by decide) ?_
          obtain ⟨hb, h⟩ := h
          refine r_zast dX9_lay_197 rfl (by decide) (hE.1 9 (by decide)) (ix hE (by decide) rfl hb) ?_
          refine r_aload_n (v := .ref (eA E 9 0)) dX9_lay_198 rfl (rl_ref _) ?_
          refine r_get (v := .ref (eA E 1012 0)) dX9_lay_199 fl_RX9_40 (hE.1 9 (by decide)) rfl ?_
          refine r_iload_n (x := x1) dX9_lay_202 rfl ?_
          refine r_dup2 dX9_lay_203 rfl rfl ?_
          obtain ⟨hb, h⟩ := h
          refine r_iald dX9_lay_204 rfl (by decide) (hE.1 9 (by decide)) (ix hE (by decide) rfl hb) ?_
          refine r_iconst (v := (1 : Int32)) dX9_lay_205 (by decide) ?_
          refine r_iadd dX9_lay_206 ?_
          obtain ⟨hb, h⟩ := h
          refine r_iast dX9_lay_207 rfl (by decide) (hE.1 9 (by decide)) (ix hE (by decide) rfl hb) ?_
          refine r_aload_n (v := .ref (eA E 9 0)) dX9_lay_208 rfl (rl_ref _) ?_
          refine r_get (v := .ref (eA E 1013 0)) dX9_lay_209 fl_RX9_43 (hE.1 9 (by decide)) rfl ?_
          refine r_iload_n (x := x1) dX9_lay_212 rfl ?_
          refine r_iconst (v := (0 : Int32)) dX9_lay_213 (by decide) ?_
          obtain ⟨hb, h⟩ := h
          refine r_iast dX9_lay_214 rfl (by decide) (hE.1 9 (by decide)) (ix hE (by decide) rfl hb) ?_
          refine r_aload_n (v := .ref (eA E 9 0)) dX9_lay_215 rfl (rl_ref _) ?_
          refine r_dup dX9_lay_216 rfl ?_
          refine r_get (v := .int ((up3 (up3 (up3 (up3 V 1020 0 0 ((V 1020 0 0) + (V 1006 0 (x1).toNatClampNeg))) 1014 0 (x1).toNatClampNeg (vp_nar .boolean (1 : Int32))) 1012 0 (x1).toNatClampNeg (((up3 (up3 V 1020 0 0 ((V 1020 0 0) + (V 1006 0 (x1).toNatClampNeg))) 1014 0 (x1).toNatClampNeg (vp_nar .boolean (1 : Int32))) 1012 0 (x1).toNatClampNeg) + (1 : Int32))) 1013 0 (x1).toNatClampNeg (0 : Int32)) 1019 0 0)) dX9_lay_217 fl_RX9_200 (hE.1 9 (by decide)) rfl ?_
          refine r_iconst (v := (1 : Int32)) dX9_lay_220 (by decide) ?_
          refine r_iadd dX9_lay_221 ?_
          refine r_put dX9_lay_222 fp_RX9_200 rfl (hE.1 9 (by decide)) rfl rfl ?_
          refine r_aload_n (v := .ref (eA E 9 0)) dX9_lay_225 rfl (rl_ref _) ?_
          refine r_get (v := .ref (eA E 1012 0)) dX9_lay_226 fl_RX9_40 (hE.1 9 (by decide)) rfl ?_
          refine r_iload_n (x := x1) dX9_lay_229 rfl ?_
          obtain ⟨hb, h⟩ := h
          refine r_iald dX9_lay_230 rfl (by decide) (hE.1 9 (by decide)) (ix hE (by decide) rfl hb) ?_
          exact r_iret dX9_lay_231 rfl ⟨Nat.le_of_ble_eq_true rfl, Nat.le_of_ble_eq_true rfl⟩ ⟨rfl, _, rfl, h⟩
  · have h := h.2 q
    refine r_aload_n (v := .ref (eA E 9 0)) dX9_lay_84 rfl (rl_ref _) ?_
    refine r_get (v := .ref (eA E 1045 0)) dX9_lay_85 fl_RX9_112 (hE.1 9 (by decide)) rfl ?_
    refine r_iload (x := x4) dX9_lay_88 rfl ?_
    obtain ⟨hb, h⟩ := h
    refine r_zald dX9_lay_90 rfl (by decide) (hE.1 9 (by decide)) (ix hE (by decide) rfl hb) ?_
    refine r_if_ne 97 dX9_lay_91 (by decide) (fun q => ?_) (fun q => ?_)
    · have h := h.1 q
      refine r_aload_n (v := .ref (eA E 9 0)) dX9_lay_97 rfl (rl_ref _) ?_
      refine r_get (v := .ref (eA E 1040 0)) dX9_lay_98 fl_RX9_100 (hE.1 9 (by decide)) rfl ?_
      refine r_iload (x := x4) dX9_lay_101 rfl ?_
      obtain ⟨hb, h⟩ := h
      refine r_iald dX9_lay_103 rfl (by decide) (hE.1 9 (by decide)) (ix hE (by decide) rfl hb) ?_
      refine r_iload_n (x := x3) dX9_lay_104 rfl ?_
      refine r_icmp_ge 118 dX9_lay_105 (by decide) (fun q => ?_) (fun q => ?_)
      · have h := h.1 q
        refine r_iload_n (x := x3) dX9_lay_118 rfl ?_
        refine r_istore dX9_lay_119 (by decide) ?_
        refine r_aload_n (v := .ref (eA E 9 0)) dX9_lay_121 rfl (rl_ref _) ?_
        refine r_get (v := .ref (eA E 1040 0)) dX9_lay_122 fl_RX9_100 (hE.1 9 (by decide)) rfl ?_
        refine r_iload (x := x4) dX9_lay_125 rfl ?_
        refine r_dup2 dX9_lay_127 rfl rfl ?_
        obtain ⟨hb, h⟩ := h
        refine r_iald dX9_lay_128 rfl (by decide) (hE.1 9 (by decide)) (ix hE (by decide) rfl hb) ?_
        refine r_iload (x := x3) dX9_lay_129 rfl ?_
        refine r_isub dX9_lay_131 ?_
        obtain ⟨hb, h⟩ := h
        refine r_iast dX9_lay_132 rfl (by decide) (hE.1 9 (by decide)) (ix hE (by decide) rfl hb) ?_
        refine r_iload_n (x := x3) dX9_lay_133 rfl ?_
        refine r_iload (x := x3) dX9_lay_134 rfl ?_
        refine r_isub dX9_lay_136 ?_
        refine r_istore_n dX9_lay_137 (by decide) ?_
        refine r_iinc (x := x4) (v := (1 : Int32)) dX9_lay_138 rfl (by decide) (by decide) ?_
        refine r_goto 75 dX9_lay_141 (by decide) ?_
        exact Ev.loc [0, 1, 2, 3] rfl h
      · have h := h.2 q
        refine r_aload_n (v := .ref (eA E 9 0)) dX9_lay_108 rfl (rl_ref _) ?_
        refine r_get (v := .ref (eA E 1040 0)) dX9_lay_109 fl_RX9_100 (hE.1 9 (by decide)) rfl ?_
        refine r_iload (x := x4) dX9_lay_112 rfl ?_
        obtain ⟨hb, h⟩ := h
        refine r_iald dX9_lay_114 rfl (by decide) (hE.1 9 (by decide)) (ix hE (by decide) rfl hb) ?_
        refine r_goto 119 dX9_lay_115 (by decide) ?_
        refine r_istore dX9_lay_119 (by decide) ?_
        refine r_aload_n (v := .ref (eA E 9 0)) dX9_lay_121 rfl (rl_ref _) ?_
        refine r_get (v := .ref (eA E 1040 0)) dX9_lay_122 fl_RX9_100 (hE.1 9 (by decide)) rfl ?_
        refine r_iload (x := x4) dX9_lay_125 rfl ?_
        refine r_dup2 dX9_lay_127 rfl rfl ?_
        obtain ⟨hb, h⟩ := h
        refine r_iald dX9_lay_128 rfl (by decide) (hE.1 9 (by decide)) (ix hE (by decide) rfl hb) ?_
        refine r_iload (x := (V 1040 0 (x4).toNatClampNeg)) dX9_lay_129 rfl ?_
        refine r_isub dX9_lay_131 ?_
        obtain ⟨hb, h⟩ := h
        refine r_iast dX9_lay_132 rfl (by decide) (hE.1 9 (by decide)) (ix hE (by decide) rfl hb) ?_
        refine r_iload_n (x := x3) dX9_lay_133 rfl ?_
        refine r_iload (x := (V 1040 0 (x4).toNatClampNeg)) dX9_lay_134 rfl ?_
        refine r_isub dX9_lay_136 ?_
        refine r_istore_n dX9_lay_137 (by decide) ?_
        refine r_iinc (x := x4) (v := (1 : Int32)) dX9_lay_138 rfl (by decide) (by decide) ?_
        refine r_goto 75 dX9_lay_141 (by decide) ?_
        exact Ev.loc [0, 1, 2, 3] rfl h
    · have h := h.2 q
      refine r_goto 138 dX9_lay_94 (by decide) ?_
      refine r_iinc (x := x4) (v := (1 : Int32)) dX9_lay_138 rfl (by decide) (by decide) ?_
      refine r_goto 75 dX9_lay_141 (by decide) ?_
      exact Ev.loc [0, 1, 2, 3] rfl h
abbrev rm_X9_strike : Room := { frames := 3, cells := 0, slots := 0, locals := 67 }
def C_X9_strike (l : Launch) (G : Gt) (E : Et) (V : Vt) (x1 : Int32) (K : Int32 → Vt → Prop) : Prop := Cl l G yX9_strike cX9_strike 2 (some .int) rm_X9_strike E V [.ref (eA E 9 0), .int x1] (Qi E K)
def vc_X9_strike (l : Launch) (G : Gt) (E : Et) (V : Vt) (x1 : Int32) (K : Int32 → Vt → Prop) : Prop := (C_X9_isPart l G E V x1 (fun x22 V21 => ((¬ x22 = (0 : Int32) → (vp_in x1 40) ∧ ((¬ (V21 1014 0 (x1).toNatClampNeg) = (0 : Int32) → (vp_in x1 40) ∧ (vp_in x1 40) ∧ (((V21 1003 0 (x1).toNatClampNeg) ≤ (V21 1012 0 (x1).toNatClampNeg) → (vp_in x1 40) ∧ (vp_in x1 40) ∧ (((V21 1010 0 (x1).toNatClampNeg) ≤ (V21 1013 0 (x1).toNatClampNeg) → (vp_in x1 40) ∧ (C_X9_falling l G E (up3 V21 1014 0 (x1).toNatClampNeg (vp_nar .boolean (0 : Int32))) (fun x24 V23 => ((¬ x24 = (-5 : Int32) → (vp_in x1 40) ∧ K (-15 : Int32) (up3 V23 1014 0 (x1).toNatClampNeg (vp_nar .boolean (1 : Int32)))) ∧ (x24 = (-5 : Int32) → K (1 : Int32) V23))))) ∧ (¬ (V21 1010 0 (x1).toNatClampNeg) ≤ (V21 1013 0 (x1).toNatClampNeg) → K (-13 : Int32) V21))) ∧ (¬ (V21 1003 0 (x1).toNatClampNeg) ≤ (V21 1012 0 (x1).toNatClampNeg) → K (-12 : Int32) V21))) ∧ ((V21 1014 0 (x1).toNatClampNeg) = (0 : Int32) → K (-11 : Int32) V21))) ∧ (x22 = (0 : Int32) → K (-1 : Int32) V21))))
theorem ok_X9_strike {l : Launch} {G : Gt} {E : Et} {V : Vt} {x1 : Int32} {K : Int32 → Vt → Prop} (hE : Sg E)  (h : vc_X9_strike l G E V x1 K) : C_X9_strike l G E V x1 K := by
  unfold vc_X9_strike at h
  refine Cl.of (by decide +kernel) (Nat.le_of_ble_eq_true rfl) (show Ev l G RX9 cX9_strike 2 (some .int) rm_X9_strike E 0 0 V 0 [(0, .ref (eA E 9 0)), (1, .int x1)] [] (Qi E K) from ?_)
  refine r_aload_n (v := .ref (eA E 9 0)) dX9_strike_0 rfl (rl_ref _) ?_
  refine r_iload_n (x := x1) dX9_strike_1 rfl ?_
  refine r_cVi (As := [.int x1]) (rest := []) dX9_strike_2 mv_X9_isPart ml_RX9_137 ⟨_, _, rfl⟩ (hE.1 9 (by decide)) ⟨Nat.le_of_ble_eq_true rfl, Nat.le_of_ble_eq_true rfl⟩ ⟨rfl, rfl⟩ rfl rfl (Nat.le_of_ble_eq_true rfl) h (fun x22 V21 h => ?_)
  refine r_if_ne 10 dX9_strike_5 (by decide) (fun q => ?_) (fun q => ?_)
  · have h := h.1 q
    refine r_aload_n (v := .ref (eA E 9 0)) dX9_strike_10 rfl (rl_ref _) ?_
    refine r_get (v := .ref (eA E 1014 0)) dX9_strike_11 fl_RX9_46 (hE.1 9 (by decide)) rfl ?_
    refine r_iload_n (x := x1) dX9_strike_14 rfl ?_
    obtain ⟨hb, h⟩ := h
    refine r_zald dX9_strike_15 rfl (by decide) (hE.1 9 (by decide)) (ix hE (by decide) rfl hb) ?_
    refine r_if_ne 22 dX9_strike_16 (by decide) (fun q => ?_) (fun q => ?_)
    · have h := h.1 q
      refine r_aload_n (v := .ref (eA E 9 0)) dX9_strike_22 rfl (rl_ref _) ?_
      refine r_get (v := .ref (eA E 1012 0)) dX9_strike_23 fl_RX9_40 (hE.1 9 (by decide)) rfl ?_
      refine r_iload_n (x := x1) dX9_strike_26 rfl ?_
      obtain ⟨hb, h⟩ := h
      refine r_iald dX9_strike_27 rfl (by decide) (hE.1 9 (by decide)) (ix hE (by decide) rfl hb) ?_
      refine r_aload_n (v := .ref (eA E 9 0)) dX9_strike_28 rfl (rl_ref _) ?_
      refine r_get (v := .ref (eA E 1003 0)) dX9_strike_29 fl_RX9_13 (hE.1 9 (by decide)) rfl ?_
      refine r_iload_n (x := x1) dX9_strike_32 rfl ?_
      obtain ⟨hb, h⟩ := h
      refine r_iald dX9_strike_33 rfl (by decide) (hE.1 9 (by decide)) (ix hE (by decide) rfl hb) ?_
      refine r_icmp_ge 40 dX9_strike_34 (by decide) (fun q => ?_) (fun q => ?_)
      · have h := h.1 q
        refine r_aload_n (v := .ref (eA E 9 0)) dX9_strike_40 rfl (rl_ref _) ?_
        refine r_get (v := .ref (eA E 1013 0)) dX9_strike_41 fl_RX9_43 (hE.1 9 (by decide)) rfl ?_
        refine r_iload_n (x := x1) dX9_strike_44 rfl ?_
        obtain ⟨hb, h⟩ := h
        refine r_iald dX9_strike_45 rfl (by decide) (hE.1 9 (by decide)) (ix hE (by decide) rfl hb) ?_
        refine r_aload_n (v := .ref (eA E 9 0)) dX9_strike_46 rfl (rl_ref _) ?_
        refine r_get (v := .ref (eA E 1010 0)) dX9_strike_47 fl_RX9_34 (hE.1 9 (by decide)) rfl ?_
        refine r_iload_n (x := x1) dX9_strike_50 rfl ?_
        obtain ⟨hb, h⟩ := h
        refine r_iald dX9_strike_51 rfl (by decide) (hE.1 9 (by decide)) (ix hE (by decide) rfl hb) ?_
        refine r_icmp_ge 58 dX9_strike_52 (by decide) (fun q => ?_) (fun q => ?_)
        · have h := h.1 q
          refine r_aload_n (v := .ref (eA E 9 0)) dX9_strike_58 rfl (rl_ref _) ?_
          refine r_get (v := .ref (eA E 1014 0)) dX9_strike_59 fl_RX9_46 (hE.1 9 (by decide)) rfl ?_
          refine r_iload_n (x := x1) dX9_strike_62 rfl ?_
          refine r_iconst (v := (0 : Int32)) dX9_strike_63 (by decide) ?_
          obtain ⟨hb, h⟩ := h
          refine r_zast dX9_strike_64 rfl (by decide) (hE.1 9 (by decide)) (ix hE (by decide) rfl hb) ?_
          refine r_aload_n (v := .ref (eA E 9 0)) dX9_strike_65 rfl (rl_ref _) ?_
          refine r_cVi (As := []) (rest := []) dX9_strike_66 mv_X9_falling ml_RX9_164 ⟨_, _, rfl⟩ (hE.1 9 (by decide)) ⟨Nat.le_of_ble_eq_true rfl, Nat.le_of_ble_eq_true rfl⟩ ⟨rfl, rfl⟩ rfl rfl (Nat.le_of_ble_eq_true rfl) h (fun x24 V23 h => ?_)
          refine r_bipush (v := (-5 : Int32)) dX9_strike_69 (by decide) ?_
          refine r_icmp_ne 76 dX9_strike_71 (by decide) (fun q => ?_) (fun q => ?_)
          · have h := h.1 q
            refine r_aload_n (v := .ref (eA E 9 0)) dX9_strike_76 rfl (rl_ref _) ?_
            refine r_get (v := .ref (eA E 1014 0)) dX9_strike_77 fl_RX9_46 (hE.1 9 (by decide)) rfl ?_
            refine r_iload_n (x := x1) dX9_strike_80 rfl ?_
            refine r_iconst (v := (1 : Int32)) dX9_strike_81 (by decide) ?_
            obtain ⟨hb, h⟩ := h
            refine r_zast dX9_strike_82 rfl (by decide) (hE.1 9 (by decide)) (ix hE (by decide) rfl hb) ?_
            refine r_bipush (v := (-15 : Int32)) dX9_strike_83 (by decide) ?_
            exact r_iret dX9_strike_85 rfl ⟨Nat.le_of_ble_eq_true rfl, Nat.le_of_ble_eq_true rfl⟩ ⟨rfl, _, rfl, h⟩
          · have h := h.2 q
            refine r_iconst (v := (1 : Int32)) dX9_strike_74 (by decide) ?_
            exact r_iret dX9_strike_75 rfl ⟨Nat.le_of_ble_eq_true rfl, Nat.le_of_ble_eq_true rfl⟩ ⟨rfl, _, rfl, h⟩
        · have h := h.2 q
          refine r_bipush (v := (-13 : Int32)) dX9_strike_55 (by decide) ?_
          exact r_iret dX9_strike_57 rfl ⟨Nat.le_of_ble_eq_true rfl, Nat.le_of_ble_eq_true rfl⟩ ⟨rfl, _, rfl, h⟩
      · have h := h.2 q
        refine r_bipush (v := (-12 : Int32)) dX9_strike_37 (by decide) ?_
        exact r_iret dX9_strike_39 rfl ⟨Nat.le_of_ble_eq_true rfl, Nat.le_of_ble_eq_true rfl⟩ ⟨rfl, _, rfl, h⟩
    · have h := h.2 q
      refine r_bipush (v := (-11 : Int32)) dX9_strike_19 (by decide) ?_
      exact r_iret dX9_strike_21 rfl ⟨Nat.le_of_ble_eq_true rfl, Nat.le_of_ble_eq_true rfl⟩ ⟨rfl, _, rfl, h⟩
  · have h := h.2 q
    refine r_iconst (v := (-1 : Int32)) dX9_strike_8 (by decide) ?_
    exact r_iret dX9_strike_9 rfl ⟨Nat.le_of_ble_eq_true rfl, Nat.le_of_ble_eq_true rfl⟩ ⟨rfl, _, rfl, h⟩
abbrev rm_X9_prop : Room := { frames := 3, cells := 0, slots := 0, locals := 67 }
def C_X9_prop (l : Launch) (G : Gt) (E : Et) (V : Vt) (x1 : Int32) (x2 : Int32) (K : Int32 → Vt → Prop) : Prop := Cl l G yX9_prop cX9_prop 4 (some .int) rm_X9_prop E V [.ref (eA E 9 0), .int x1, .int x2] (Qi E K)
def vc_X9_prop (l : Launch) (G : Gt) (E : Et) (V : Vt) (x1 : Int32) (x2 : Int32) (K : Int32 → Vt → Prop) : Prop := (C_X9_isPart l G E V x1 (fun x22 V21 => ((x22 = (0 : Int32) → K (-1 : Int32) V21) ∧ (¬ x22 = (0 : Int32) → (C_X9_in l G E V21 x2 (0 : Int32) (100000 : Int32) (fun x24 V23 => ((¬ x24 = (0 : Int32) → (vp_in x1 40) ∧ (vp_in x1 40) ∧ (((V23 1011 0 (x1).toNatClampNeg) ≤ x2 → K (V23 1011 0 (x1).toNatClampNeg) (up3 V23 1011 0 (x1).toNatClampNeg x2)) ∧ (¬ (V23 1011 0 (x1).toNatClampNeg) ≤ x2 → (C_X9_falling l G E (up3 V23 1011 0 (x1).toNatClampNeg x2) (fun x26 V25 => ((¬ x26 = (-5 : Int32) → (vp_in x1 40) ∧ K (-15 : Int32) (up3 V25 1011 0 (x1).toNatClampNeg (V23 1011 0 (x1).toNatClampNeg))) ∧ (x26 = (-5 : Int32) → K (V23 1011 0 (x1).toNatClampNeg) V25))))))) ∧ (x24 = (0 : Int32) → K (-1 : Int32) V23))))))))
theorem ok_X9_prop {l : Launch} {G : Gt} {E : Et} {V : Vt} {x1 : Int32} {x2 : Int32} {K : Int32 → Vt → Prop} (hE : Sg E)  (h : vc_X9_prop l G E V x1 x2 K) : C_X9_prop l G E V x1 x2 K := by
  unfold vc_X9_prop at h
  refine Cl.of (by decide +kernel) (Nat.le_of_ble_eq_true rfl) (show Ev l G RX9 cX9_prop 4 (some .int) rm_X9_prop E 0 0 V 0 [(0, .ref (eA E 9 0)), (1, .int x1), (2, .int x2)] [] (Qi E K) from ?_)
  refine r_aload_n (v := .ref (eA E 9 0)) dX9_prop_0 rfl (rl_ref _) ?_
  refine r_iload_n (x := x1) dX9_prop_1 rfl ?_
  refine r_cVi (As := [.int x1]) (rest := []) dX9_prop_2 mv_X9_isPart ml_RX9_137 ⟨_, _, rfl⟩ (hE.1 9 (by decide)) ⟨Nat.le_of_ble_eq_true rfl, Nat.le_of_ble_eq_true rfl⟩ ⟨rfl, rfl⟩ rfl rfl (Nat.le_of_ble_eq_true rfl) h (fun x22 V21 h => ?_)
  refine r_if_eq 18 dX9_prop_5 (by decide) (fun q => ?_) (fun q => ?_)
  · have h := h.1 q
    refine r_iconst (v := (-1 : Int32)) dX9_prop_18 (by decide) ?_
    exact r_iret dX9_prop_19 rfl ⟨Nat.le_of_ble_eq_true rfl, Nat.le_of_ble_eq_true rfl⟩ ⟨rfl, _, rfl, h⟩
  · have h := h.2 q
    refine r_iload_n (x := x2) dX9_prop_8 rfl ?_
    refine r_iconst (v := (0 : Int32)) dX9_prop_9 (by decide) ?_
    refine r_ldc dX9_prop_10 kc_RX9_168 ?_
    refine r_cSi (As := [.int x2, .int (0 : Int32), .int (100000 : Int32)]) (rest := []) dX9_prop_12 ms_X9_in ml_RX9_125 ⟨Nat.le_of_ble_eq_true rfl, Nat.le_of_ble_eq_true rfl⟩ ⟨rfl, rfl⟩ rfl rfl (Nat.le_of_ble_eq_true rfl) h (fun x24 V23 h => ?_)
    refine r_if_ne 20 dX9_prop_15 (by decide) (fun q => ?_) (fun q => ?_)
    · have h := h.1 q
      refine r_aload_n (v := .ref (eA E 9 0)) dX9_prop_20 rfl (rl_ref _) ?_
      refine r_get (v := .ref (eA E 1011 0)) dX9_prop_21 fl_RX9_37 (hE.1 9 (by decide)) rfl ?_
      refine r_iload_n (x := x1) dX9_prop_24 rfl ?_
      obtain ⟨hb, h⟩ := h
      refine r_iald dX9_prop_25 rfl (by decide) (hE.1 9 (by decide)) (ix hE (by decide) rfl hb) ?_
      refine r_istore_n dX9_prop_26 (by decide) ?_
      refine r_aload_n (v := .ref (eA E 9 0)) dX9_prop_27 rfl (rl_ref _) ?_
      refine r_get (v := .ref (eA E 1011 0)) dX9_prop_28 fl_RX9_37 (hE.1 9 (by decide)) rfl ?_
      refine r_iload_n (x := x1) dX9_prop_31 rfl ?_
      refine r_iload_n (x := x2) dX9_prop_32 rfl ?_
      obtain ⟨hb, h⟩ := h
      refine r_iast dX9_prop_33 rfl (by decide) (hE.1 9 (by decide)) (ix hE (by decide) rfl hb) ?_
      refine r_iload_n (x := x2) dX9_prop_34 rfl ?_
      refine r_iload_n (x := (V23 1011 0 (x1).toNatClampNeg)) dX9_prop_35 rfl ?_
      refine r_icmp_ge 48 dX9_prop_36 (by decide) (fun q => ?_) (fun q => ?_)
      · have h := h.1 q
        refine r_iload_n (x := (V23 1011 0 (x1).toNatClampNeg)) dX9_prop_48 rfl ?_
        exact r_iret dX9_prop_49 rfl ⟨Nat.le_of_ble_eq_true rfl, Nat.le_of_ble_eq_true rfl⟩ ⟨rfl, _, rfl, h⟩
      · have h := h.2 q
        refine r_aload_n (v := .ref (eA E 9 0)) dX9_prop_39 rfl (rl_ref _) ?_
        refine r_cVi (As := []) (rest := []) dX9_prop_40 mv_X9_falling ml_RX9_164 ⟨_, _, rfl⟩ (hE.1 9 (by decide)) ⟨Nat.le_of_ble_eq_true rfl, Nat.le_of_ble_eq_true rfl⟩ ⟨rfl, rfl⟩ rfl rfl (Nat.le_of_ble_eq_true rfl) h (fun x26 V25 h => ?_)
        refine r_bipush (v := (-5 : Int32)) dX9_prop_43 (by decide) ?_
        refine r_icmp_ne 50 dX9_prop_45 (by decide) (fun q => ?_) (fun q => ?_)
        · have h := h.1 q
          refine r_aload_n (v := .ref (eA E 9 0)) dX9_prop_50 rfl (rl_ref _) ?_
          refine r_get (v := .ref (eA E 1011 0)) dX9_prop_51 fl_RX9_37 (hE.1 9 (by decide)) rfl ?_
          refine r_iload_n (x := x1) dX9_prop_54 rfl ?_
          refine r_iload_n (x := (V23 1011 0 (x1).toNatClampNeg)) dX9_prop_55 rfl ?_
          obtain ⟨hb, h⟩ := h
          refine r_iast dX9_prop_56 rfl (by decide) (hE.1 9 (by decide)) (ix hE (by decide) rfl hb) ?_
          refine r_bipush (v := (-15 : Int32)) dX9_prop_57 (by decide) ?_
          exact r_iret dX9_prop_59 rfl ⟨Nat.le_of_ble_eq_true rfl, Nat.le_of_ble_eq_true rfl⟩ ⟨rfl, _, rfl, h⟩
        · have h := h.2 q
          refine r_iload_n (x := (V23 1011 0 (x1).toNatClampNeg)) dX9_prop_48 rfl ?_
          exact r_iret dX9_prop_49 rfl ⟨Nat.le_of_ble_eq_true rfl, Nat.le_of_ble_eq_true rfl⟩ ⟨rfl, _, rfl, h⟩
    · have h := h.2 q
      refine r_iconst (v := (-1 : Int32)) dX9_prop_18 (by decide) ?_
      exact r_iret dX9_prop_19 rfl ⟨Nat.le_of_ble_eq_true rfl, Nat.le_of_ble_eq_true rfl⟩ ⟨rfl, _, rfl, h⟩
abbrev rm_X9_month : Room := { frames := 1, cells := 0, slots := 0, locals := 22 }
def C_X9_month (l : Launch) (G : Gt) (E : Et) (V : Vt) (x1 : Int32) (K : Int32 → Vt → Prop) : Prop := Cl l G yX9_month cX9_month 5 (some .int) rm_X9_month E V [.ref (eA E 9 0), .int x1] (Qi E K)
def A_X9_month_26 (l : Launch) (G : Gt) (E : Et) (V : Vt) (x1 : Int32) (x2 : Int32) (K : Int32 → Vt → Prop) : Prop := Ev l G RX9 cX9_month 5 (some .int) rm_X9_month E 0 0 V 26 [(0, .ref (eA E 9 0)), (1, .int x1), (2, .int x2)] [] (Qi E K)
def A_X9_month_43 (l : Launch) (G : Gt) (E : Et) (V : Vt) (x1 : Int32) (x2 : Int32) (x3 : Int32) (x4 : Int32) (K : Int32 → Vt → Prop) : Prop := Ev l G RX9 cX9_month 5 (some .int) rm_X9_month E 0 0 V 43 [(0, .ref (eA E 9 0)), (1, .int x1), (2, .int x2), (3, .int x3), (4, .int x4)] [] (Qi E K)
def vc_X9_month (l : Launch) (G : Gt) (E : Et) (V : Vt) (x1 : Int32) (K : Int32 → Vt → Prop) : Prop := (C_X9_in l G E V x1 (1 : Int32) (100 : Int32) (fun x22 V21 => ((x22 = (0 : Int32) → K (-1 : Int32) V21) ∧ (¬ x22 = (0 : Int32) → ((((V21 1018 0 0) + x1) ≤ (1200 : Int32) → A_X9_month_26 l G E V21 x1 (0 : Int32) K) ∧ (¬ ((V21 1018 0 0) + x1) ≤ (1200 : Int32) → K (-1 : Int32) V21))))))
def vc_X9_month_26 (l : Launch) (G : Gt) (E : Et) (V : Vt) (x1 : Int32) (x2 : Int32) (K : Int32 → Vt → Prop) : Prop := ((x1 ≤ x2 → K (V 1018 0 0) V) ∧ (¬ x1 ≤ x2 → (C_X9_isFrost l G E V (V 1018 0 0) (fun x24 V23 => A_X9_month_43 l G E V23 x1 x2 x24 (0 : Int32) K))))
def vc_X9_month_43 (l : Launch) (G : Gt) (E : Et) (V : Vt) (x1 : Int32) (x2 : Int32) (x3 : Int32) (x4 : Int32) (K : Int32 → Vt → Prop) : Prop := (((V 1001 0 0) ≤ x4 → A_X9_month_26 l G E (up3 (up3 V 1018 0 0 ((V 1018 0 0) + (1 : Int32))) 1019 0 0 (0 : Int32)) x1 (x2 + (1 : Int32)) K) ∧ (¬ (V 1001 0 0) ≤ x4 → (vp_in x4 40) ∧ (vp_in (((1201 : Int32) * x4) + (V 1018 0 0)) 48040) ∧ (vp_in x4 40) ∧ (vp_in x4 40) ∧ ((((up3 V 1023 0 ((((1201 : Int32) * x4) + (V 1018 0 0))).toNatClampNeg (V 1012 0 (x4).toNatClampNeg)) 1012 0 (x4).toNatClampNeg) ≤ (0 : Int32) → (vp_in x4 40) ∧ A_X9_month_43 l G E (up3 (up3 V 1023 0 ((((1201 : Int32) * x4) + (V 1018 0 0))).toNatClampNeg (V 1012 0 (x4).toNatClampNeg)) 1013 0 (x4).toNatClampNeg (((up3 V 1023 0 ((((1201 : Int32) * x4) + (V 1018 0 0))).toNatClampNeg (V 1012 0 (x4).toNatClampNeg)) 1013 0 (x4).toNatClampNeg) + (0 : Int32))) x1 x2 x3 (x4 + (1 : Int32)) K) ∧ (¬ ((up3 V 1023 0 ((((1201 : Int32) * x4) + (V 1018 0 0))).toNatClampNeg (V 1012 0 (x4).toNatClampNeg)) 1012 0 (x4).toNatClampNeg) ≤ (0 : Int32) → ((¬ x3 = (0 : Int32) → (vp_in x4 40) ∧ A_X9_month_43 l G E (up3 (up3 V 1023 0 ((((1201 : Int32) * x4) + (V 1018 0 0))).toNatClampNeg (V 1012 0 (x4).toNatClampNeg)) 1013 0 (x4).toNatClampNeg (((up3 V 1023 0 ((((1201 : Int32) * x4) + (V 1018 0 0))).toNatClampNeg (V 1012 0 (x4).toNatClampNeg)) 1013 0 (x4).toNatClampNeg) + (0 : Int32))) x1 x2 x3 (x4 + (1 : Int32)) K) ∧ (x3 = (0 : Int32) → (vp_in x4 40) ∧ A_X9_month_43 l G E (up3 (up3 V 1023 0 ((((1201 : Int32) * x4) + (V 1018 0 0))).toNatClampNeg (V 1012 0 (x4).toNatClampNeg)) 1013 0 (x4).toNatClampNeg (((up3 V 1023 0 ((((1201 : Int32) * x4) + (V 1018 0 0))).toNatClampNeg (V 1012 0 (x4).toNatClampNeg)) 1013 0 (x4).toNatClampNeg) + (1 : Int32))) x1 x2 x3 (x4 + (1 : Int32)) K))))))
theorem ok_X9_month {l : Launch} {G : Gt} {E : Et} {V : Vt} {x1 : Int32} {K : Int32 → Vt → Prop} (hE : Sg E)  (h : vc_X9_month l G E V x1 K) : C_X9_month l G E V x1 K := by
  unfold vc_X9_month at h
  refine Cl.of (by decide +kernel) (Nat.le_of_ble_eq_true rfl) (show Ev l G RX9 cX9_month 5 (some .int) rm_X9_month E 0 0 V 0 [(0, .ref (eA E 9 0)), (1, .int x1)] [] (Qi E K) from ?_)
  refine r_iload_n (x := x1) dX9_month_0 rfl ?_
  refine r_iconst (v := (1 : Int32)) dX9_month_1 (by decide) ?_
  refine r_bipush (v := (100 : Int32)) dX9_month_2 (by decide) ?_
  refine r_cSi (As := [.int x1, .int (1 : Int32), .int (100 : Int32)]) (rest := []) dX9_month_4 ms_X9_in ml_RX9_125 ⟨Nat.le_of_ble_eq_true rfl, Nat.le_of_ble_eq_true rfl⟩ ⟨rfl, rfl⟩ rfl rfl (Nat.le_of_ble_eq_true rfl) h (fun x22 V21 h => ?_)
  refine r_if_eq 22 dX9_month_7 (by decide) (fun q => ?_) (fun q => ?_)
  · have h := h.1 q
    refine r_iconst (v := (-1 : Int32)) dX9_month_22 (by decide) ?_
    exact r_iret dX9_month_23 rfl ⟨Nat.le_of_ble_eq_true rfl, Nat.le_of_ble_eq_true rfl⟩ ⟨rfl, _, rfl, h⟩
  · have h := h.2 q
    refine r_aload_n (v := .ref (eA E 9 0)) dX9_month_10 rfl (rl_ref _) ?_
    refine r_get (v := .int (V21 1018 0 0)) dX9_month_11 fl_RX9_194 (hE.1 9 (by decide)) rfl ?_
    refine r_iload_n (x := x1) dX9_month_14 rfl ?_
    refine r_iadd dX9_month_15 ?_
    refine r_sipush (v := (1200 : Int32)) dX9_month_16 (by decide) ?_
    refine r_icmp_le 24 dX9_month_19 (by decide) (fun q => ?_) (fun q => ?_)
    · have h := h.1 q
      refine r_iconst (v := (0 : Int32)) dX9_month_24 (by decide) ?_
      refine r_istore_n dX9_month_25 (by decide) ?_
      exact Ev.loc [0, 1, 2] rfl h
    · have h := h.2 q
      refine r_iconst (v := (-1 : Int32)) dX9_month_22 (by decide) ?_
      exact r_iret dX9_month_23 rfl ⟨Nat.le_of_ble_eq_true rfl, Nat.le_of_ble_eq_true rfl⟩ ⟨rfl, _, rfl, h⟩
theorem ok_X9_month_26 {l : Launch} {G : Gt} {E : Et} {V : Vt} {x1 : Int32} {x2 : Int32} {K : Int32 → Vt → Prop} (hE : Sg E)  (h : vc_X9_month_26 l G E V x1 x2 K) : A_X9_month_26 l G E V x1 x2 K := by
  unfold vc_X9_month_26 at h
  unfold A_X9_month_26
  refine r_iload_n (x := x2) dX9_month_26 rfl ?_
  refine r_iload_n (x := x1) dX9_month_27 rfl ?_
  refine r_icmp_ge 131 dX9_month_28 (by decide) (fun q => ?_) (fun q => ?_)
  · have h := h.1 q
    refine r_aload_n (v := .ref (eA E 9 0)) dX9_month_131 rfl (rl_ref _) ?_
    refine r_get (v := .int (V 1018 0 0)) dX9_month_132 fl_RX9_194 (hE.1 9 (by decide)) rfl ?_
    exact r_iret dX9_month_135 rfl ⟨Nat.le_of_ble_eq_true rfl, Nat.le_of_ble_eq_true rfl⟩ ⟨rfl, _, rfl, h⟩
  · have h := h.2 q
    refine r_aload_n (v := .ref (eA E 9 0)) dX9_month_31 rfl (rl_ref _) ?_
    refine r_aload_n (v := .ref (eA E 9 0)) dX9_month_32 rfl (rl_ref _) ?_
    refine r_get (v := .int (V 1018 0 0)) dX9_month_33 fl_RX9_194 (hE.1 9 (by decide)) rfl ?_
    refine r_cVi (As := [.int (V 1018 0 0)]) (rest := []) dX9_month_36 mv_X9_isFrost ml_RX9_197 ⟨_, _, rfl⟩ (hE.1 9 (by decide)) ⟨Nat.le_of_ble_eq_true rfl, Nat.le_of_ble_eq_true rfl⟩ ⟨rfl, rfl⟩ rfl rfl (Nat.le_of_ble_eq_true rfl) h (fun x24 V23 h => ?_)
    refine r_istore_n dX9_month_39 (by decide) ?_
    refine r_iconst (v := (0 : Int32)) dX9_month_40 (by decide) ?_
    refine r_istore dX9_month_41 (by decide) ?_
    exact Ev.loc [0, 1, 2, 3, 4] rfl h
theorem ok_X9_month_43 {l : Launch} {G : Gt} {E : Et} {V : Vt} {x1 : Int32} {x2 : Int32} {x3 : Int32} {x4 : Int32} {K : Int32 → Vt → Prop} (hE : Sg E)  (h : vc_X9_month_43 l G E V x1 x2 x3 x4 K) : A_X9_month_43 l G E V x1 x2 x3 x4 K := by
  unfold vc_X9_month_43 at h
  unfold A_X9_month_43
  refine r_iload (x := x4) dX9_month_43 rfl ?_
  refine r_aload_n (v := .ref (eA E 9 0)) dX9_month_45 rfl (rl_ref _) ?_
  refine r_get (v := .int (V 1001 0 0)) dX9_month_46 fl_RX9_122 (hE.1 9 (by decide)) rfl ?_
  refine r_icmp_ge 110 dX9_month_49 (by decide) (fun q => ?_) (fun q => ?_)
  · have h := h.1 q
    refine r_aload_n (v := .ref (eA E 9 0)) dX9_month_110 rfl (rl_ref _) ?_
    refine r_dup dX9_month_111 rfl ?_
    refine r_get (v := .int (V 1018 0 0)) dX9_month_112 fl_RX9_194 (hE.1 9 (by decide)) rfl ?_
    refine r_iconst (v := (1 : Int32)) dX9_month_115 (by decide) ?_
    refine r_iadd dX9_month_116 ?_
    refine r_put dX9_month_117 fp_RX9_194 rfl (hE.1 9 (by decide)) rfl rfl ?_
    refine r_aload_n (v := .ref (eA E 9 0)) dX9_month_120 rfl (rl_ref _) ?_
    refine r_iconst (v := (0 : Int32)) dX9_month_121 (by decide) ?_
    refine r_put dX9_month_122 fp_RX9_200 rfl (hE.1 9 (by decide)) rfl rfl ?_
    refine r_iinc (x := x2) (v := (1 : Int32)) dX9_month_125 rfl (by decide) (by decide) ?_
    refine r_goto 26 dX9_month_128 (by decide) ?_
    exact Ev.loc [0, 1, 2] rfl h
  · have h := h.2 q
    refine r_aload_n (v := .ref (eA E 9 0)) dX9_month_52 rfl (rl_ref _) ?_
    refine r_get (v := .ref (eA E 1023 0)) dX9_month_53 fl_RX9_63 (hE.1 9 (by decide)) rfl ?_
    refine r_sipush (v := (1201 : Int32)) dX9_month_56 (by decide) ?_
    refine r_iload (x := x4) dX9_month_59 rfl ?_
    refine r_imul dX9_month_61 ?_
    refine r_aload_n (v := .ref (eA E 9 0)) dX9_month_62 rfl (rl_ref _) ?_
    refine r_get (v := .int (V 1018 0 0)) dX9_month_63 fl_RX9_194 (hE.1 9 (by decide)) rfl ?_
    refine r_iadd dX9_month_66 ?_
    refine r_aload_n (v := .ref (eA E 9 0)) dX9_month_67 rfl (rl_ref _) ?_
    refine r_get (v := .ref (eA E 1012 0)) dX9_month_68 fl_RX9_40 (hE.1 9 (by decide)) rfl ?_
    refine r_iload (x := x4) dX9_month_71 rfl ?_
    obtain ⟨hb, h⟩ := h
    refine r_iald dX9_month_73 rfl (by decide) (hE.1 9 (by decide)) (ix hE (by decide) rfl hb) ?_
    obtain ⟨hb, h⟩ := h
    refine r_iast dX9_month_74 rfl (by decide) (hE.1 9 (by decide)) (ix hE (by decide) rfl hb) ?_
    refine r_aload_n (v := .ref (eA E 9 0)) dX9_month_75 rfl (rl_ref _) ?_
    refine r_get (v := .ref (eA E 1013 0)) dX9_month_76 fl_RX9_43 (hE.1 9 (by decide)) rfl ?_
    refine r_iload (x := x4) dX9_month_79 rfl ?_
    refine r_dup2 dX9_month_81 rfl rfl ?_
    obtain ⟨hb, h⟩ := h
    refine r_iald dX9_month_82 rfl (by decide) (hE.1 9 (by decide)) (ix hE (by decide) rfl hb) ?_
    refine r_aload_n (v := .ref (eA E 9 0)) dX9_month_83 rfl (rl_ref _) ?_
    refine r_get (v := .ref (eA E 1012 0)) dX9_month_84 fl_RX9_40 (hE.1 9 (by decide)) rfl ?_
    refine r_iload (x := x4) dX9_month_87 rfl ?_
    obtain ⟨hb, h⟩ := h
    refine r_iald dX9_month_89 rfl (by decide) (hE.1 9 (by decide)) (ix hE (by decide) rfl hb) ?_
    refine r_if_le 101 dX9_month_90 (by decide) (fun q => ?_) (fun q => ?_)
    · have h := h.1 q
      refine r_iconst (v := (0 : Int32)) dX9_month_101 (by decide) ?_
      refine r_iadd dX9_month_102 ?_
      obtain ⟨hb, h⟩ := h
      refine r_iast dX9_month_103 rfl (by decide) (hE.1 9 (by decide)) (ix hE (by decide) rfl hb) ?_
      refine r_iinc (x := x4) (v := (1 : Int32)) dX9_month_104 rfl (by decide) (by decide) ?_
      refine r_goto 43 dX9_month_107 (by decide) ?_
      exact Ev.loc [0, 1, 2, 3, 4] rfl h
    · have h := h.2 q
      refine r_iload_n (x := x3) dX9_month_93 rfl ?_
      refine r_if_ne 101 dX9_month_94 (by decide) (fun q => ?_) (fun q => ?_)
      · have h := h.1 q
        refine r_iconst (v := (0 : Int32)) dX9_month_101 (by decide) ?_
        refine r_iadd dX9_month_102 ?_
        obtain ⟨hb, h⟩ := h
        refine r_iast dX9_month_103 rfl (by decide) (hE.1 9 (by decide)) (ix hE (by decide) rfl hb) ?_
        refine r_iinc (x := x4) (v := (1 : Int32)) dX9_month_104 rfl (by decide) (by decide) ?_
        refine r_goto 43 dX9_month_107 (by decide) ?_
        exact Ev.loc [0, 1, 2, 3, 4] rfl h
      · have h := h.2 q
        refine r_iconst (v := (1 : Int32)) dX9_month_97 (by decide) ?_
        refine r_goto 102 dX9_month_98 (by decide) ?_
        refine r_iadd dX9_month_102 ?_
        obtain ⟨hb, h⟩ := h
        refine r_iast dX9_month_103 rfl (by decide) (hE.1 9 (by decide)) (ix hE (by decide) rfl hb) ?_
        refine r_iinc (x := x4) (v := (1 : Int32)) dX9_month_104 rfl (by decide) (by decide) ?_
        refine r_goto 43 dX9_month_107 (by decide) ?_
        exact Ev.loc [0, 1, 2, 3, 4] rfl h
abbrev rm_X9_frost : Room := { frames := 1, cells := 0, slots := 0, locals := 22 }
def C_X9_frost (l : Launch) (G : Gt) (E : Et) (V : Vt) (x1 : Int32) (K : Int32 → Vt → Prop) : Prop := Cl l G yX9_frost cX9_frost 3 (some .int) rm_X9_frost E V [.ref (eA E 9 0), .int x1] (Qi E K)
def vc_X9_frost (l : Launch) (G : Gt) (E : Et) (V : Vt) (x1 : Int32) (K : Int32 → Vt → Prop) : Prop := (C_X9_in l G E V x1 (0 : Int32) (4095 : Int32) (fun x22 V21 => ((¬ x22 = (0 : Int32) → K (V21 1021 0 0) (up3 V21 1021 0 0 x1)) ∧ (x22 = (0 : Int32) → K (-1 : Int32) V21))))
theorem ok_X9_frost {l : Launch} {G : Gt} {E : Et} {V : Vt} {x1 : Int32} {K : Int32 → Vt → Prop} (hE : Sg E)  (h : vc_X9_frost l G E V x1 K) : C_X9_frost l G E V x1 K := by
  unfold vc_X9_frost at h
  refine Cl.of (by decide +kernel) (Nat.le_of_ble_eq_true rfl) (show Ev l G RX9 cX9_frost 3 (some .int) rm_X9_frost E 0 0 V 0 [(0, .ref (eA E 9 0)), (1, .int x1)] [] (Qi E K) from ?_)
  refine r_iload_n (x := x1) dX9_frost_0 rfl ?_
  refine r_iconst (v := (0 : Int32)) dX9_frost_1 (by decide) ?_
  refine r_sipush (v := (4095 : Int32)) dX9_frost_2 (by decide) ?_
  refine r_cSi (As := [.int x1, .int (0 : Int32), .int (4095 : Int32)]) (rest := []) dX9_frost_5 ms_X9_in ml_RX9_125 ⟨Nat.le_of_ble_eq_true rfl, Nat.le_of_ble_eq_true rfl⟩ ⟨rfl, rfl⟩ rfl rfl (Nat.le_of_ble_eq_true rfl) h (fun x22 V21 h => ?_)
  refine r_if_ne 13 dX9_frost_8 (by decide) (fun q => ?_) (fun q => ?_)
  · have h := h.1 q
    refine r_aload_n (v := .ref (eA E 9 0)) dX9_frost_13 rfl (rl_ref _) ?_
    refine r_get (v := .int (V21 1021 0 0)) dX9_frost_14 fl_RX9_191 (hE.1 9 (by decide)) rfl ?_
    refine r_istore_n dX9_frost_17 (by decide) ?_
    refine r_aload_n (v := .ref (eA E 9 0)) dX9_frost_18 rfl (rl_ref _) ?_
    refine r_iload_n (x := x1) dX9_frost_19 rfl ?_
    refine r_put dX9_frost_20 fp_RX9_191 rfl (hE.1 9 (by decide)) rfl rfl ?_
    refine r_iload_n (x := (V21 1021 0 0)) dX9_frost_23 rfl ?_
    exact r_iret dX9_frost_24 rfl ⟨Nat.le_of_ble_eq_true rfl, Nat.le_of_ble_eq_true rfl⟩ ⟨rfl, _, rfl, h⟩
  · have h := h.2 q
    refine r_iconst (v := (-1 : Int32)) dX9_frost_11 (by decide) ?_
    exact r_iret dX9_frost_12 rfl ⟨Nat.le_of_ble_eq_true rfl, Nat.le_of_ble_eq_true rfl⟩ ⟨rfl, _, rfl, h⟩
abbrev rm_X9_bitter : Room := { frames := 1, cells := 0, slots := 0, locals := 22 }
def C_X9_bitter (l : Launch) (G : Gt) (E : Et) (V : Vt) (x1 : Int32) (K : Int32 → Vt → Prop) : Prop := Cl l G yX9_bitter cX9_bitter 3 (some .int) rm_X9_bitter E V [.ref (eA E 9 0), .int x1] (Qi E K)
def vc_X9_bitter (l : Launch) (G : Gt) (E : Et) (V : Vt) (x1 : Int32) (K : Int32 → Vt → Prop) : Prop := (C_X9_in l G E V x1 (V 1018 0 0) (1200 : Int32) (fun x22 V21 => ((¬ x22 = (0 : Int32) → (vp_in x1 1201) ∧ (((V21 1022 0 (x1).toNatClampNeg) = (0 : Int32) → (vp_in x1 1201) ∧ K (1 : Int32) (up3 V21 1022 0 (x1).toNatClampNeg (vp_nar .boolean (1 : Int32)))) ∧ (¬ (V21 1022 0 (x1).toNatClampNeg) = (0 : Int32) → (vp_in x1 1201) ∧ K (0 : Int32) (up3 V21 1022 0 (x1).toNatClampNeg (vp_nar .boolean (1 : Int32)))))) ∧ (x22 = (0 : Int32) → K (-1 : Int32) V21))))
theorem ok_X9_bitter {l : Launch} {G : Gt} {E : Et} {V : Vt} {x1 : Int32} {K : Int32 → Vt → Prop} (hE : Sg E)  (h : vc_X9_bitter l G E V x1 K) : C_X9_bitter l G E V x1 K := by
  unfold vc_X9_bitter at h
  refine Cl.of (by decide +kernel) (Nat.le_of_ble_eq_true rfl) (show Ev l G RX9 cX9_bitter 3 (some .int) rm_X9_bitter E 0 0 V 0 [(0, .ref (eA E 9 0)), (1, .int x1)] [] (Qi E K) from ?_)
  refine r_iload_n (x := x1) dX9_bitter_0 rfl ?_
  refine r_aload_n (v := .ref (eA E 9 0)) dX9_bitter_1 rfl (rl_ref _) ?_
  refine r_get (v := .int (V 1018 0 0)) dX9_bitter_2 fl_RX9_194 (hE.1 9 (by decide)) rfl ?_
  refine r_sipush (v := (1200 : Int32)) dX9_bitter_5 (by decide) ?_
  refine r_cSi (As := [.int x1, .int (V 1018 0 0), .int (1200 : Int32)]) (rest := []) dX9_bitter_8 ms_X9_in ml_RX9_125 ⟨Nat.le_of_ble_eq_true rfl, Nat.le_of_ble_eq_true rfl⟩ ⟨rfl, rfl⟩ rfl rfl (Nat.le_of_ble_eq_true rfl) h (fun x22 V21 h => ?_)
  refine r_if_ne 16 dX9_bitter_11 (by decide) (fun q => ?_) (fun q => ?_)
  · have h := h.1 q
    refine r_aload_n (v := .ref (eA E 9 0)) dX9_bitter_16 rfl (rl_ref _) ?_
    refine r_get (v := .ref (eA E 1022 0)) dX9_bitter_17 fl_RX9_59 (hE.1 9 (by decide)) rfl ?_
    refine r_iload_n (x := x1) dX9_bitter_20 rfl ?_
    obtain ⟨hb, h⟩ := h
    refine r_zald dX9_bitter_21 rfl (by decide) (hE.1 9 (by decide)) (ix hE (by decide) rfl hb) ?_
    refine r_if_eq 29 dX9_bitter_22 (by decide) (fun q => ?_) (fun q => ?_)
    · have h := h.1 q
      refine r_iconst (v := (1 : Int32)) dX9_bitter_29 (by decide) ?_
      refine r_istore_n dX9_bitter_30 (by decide) ?_
      refine r_aload_n (v := .ref (eA E 9 0)) dX9_bitter_31 rfl (rl_ref _) ?_
      refine r_get (v := .ref (eA E 1022 0)) dX9_bitter_32 fl_RX9_59 (hE.1 9 (by decide)) rfl ?_
      refine r_iload_n (x := x1) dX9_bitter_35 rfl ?_
      refine r_iconst (v := (1 : Int32)) dX9_bitter_36 (by decide) ?_
      obtain ⟨hb, h⟩ := h
      refine r_zast dX9_bitter_37 rfl (by decide) (hE.1 9 (by decide)) (ix hE (by decide) rfl hb) ?_
      refine r_iload_n (x := (1 : Int32)) dX9_bitter_38 rfl ?_
      exact r_iret dX9_bitter_39 rfl ⟨Nat.le_of_ble_eq_true rfl, Nat.le_of_ble_eq_true rfl⟩ ⟨rfl, _, rfl, h⟩
    · have h := h.2 q
      refine r_iconst (v := (0 : Int32)) dX9_bitter_25 (by decide) ?_
      refine r_goto 30 dX9_bitter_26 (by decide) ?_
      refine r_istore_n dX9_bitter_30 (by decide) ?_
      refine r_aload_n (v := .ref (eA E 9 0)) dX9_bitter_31 rfl (rl_ref _) ?_
      refine r_get (v := .ref (eA E 1022 0)) dX9_bitter_32 fl_RX9_59 (hE.1 9 (by decide)) rfl ?_
      refine r_iload_n (x := x1) dX9_bitter_35 rfl ?_
      refine r_iconst (v := (1 : Int32)) dX9_bitter_36 (by decide) ?_
      obtain ⟨hb, h⟩ := h
      refine r_zast dX9_bitter_37 rfl (by decide) (hE.1 9 (by decide)) (ix hE (by decide) rfl hb) ?_
      refine r_iload_n (x := (0 : Int32)) dX9_bitter_38 rfl ?_
      exact r_iret dX9_bitter_39 rfl ⟨Nat.le_of_ble_eq_true rfl, Nat.le_of_ble_eq_true rfl⟩ ⟨rfl, _, rfl, h⟩
  · have h := h.2 q
    refine r_iconst (v := (-1 : Int32)) dX9_bitter_14 (by decide) ?_
    exact r_iret dX9_bitter_15 rfl ⟨Nat.le_of_ble_eq_true rfl, Nat.le_of_ble_eq_true rfl⟩ ⟨rfl, _, rfl, h⟩
abbrev rm_X9_stands : Room := { frames := 0, cells := 0, slots := 0, locals := 0 }
def C_X9_stands (l : Launch) (G : Gt) (E : Et) (V : Vt) (x1 : Int32) (x2 : Int32) (K : Int32 → Vt → Prop) : Prop := Cl l G yX9_stands cX9_stands 4 (some .boolean) rm_X9_stands E V [.ref (eA E 9 0), .int x1, .int x2] (Qi E K)
def A_X9_stands_2 (l : Launch) (G : Gt) (E : Et) (V : Vt) (x1 : Int32) (x2 : Int32) (x3 : Int32) (K : Int32 → Vt → Prop) : Prop := Ev l G RX9 cX9_stands 4 (some .boolean) rm_X9_stands E 0 0 V 2 [(0, .ref (eA E 9 0)), (1, .int x1), (2, .int x2), (3, .int x3)] [] (Qi E K)
def vc_X9_stands (l : Launch) (G : Gt) (E : Et) (V : Vt) (x1 : Int32) (x2 : Int32) (K : Int32 → Vt → Prop) : Prop := A_X9_stands_2 l G E V x1 x2 (0 : Int32) K
def vc_X9_stands_2 (l : Launch) (G : Gt) (E : Et) (V : Vt) (x1 : Int32) (x2 : Int32) (x3 : Int32) (K : Int32 → Vt → Prop) : Prop := (vp_in x1 40) ∧ (((V 1015 0 (x1).toNatClampNeg) ≤ x3 → K (0 : Int32) V) ∧ (¬ (V 1015 0 (x1).toNatClampNeg) ≤ x3 → (vp_in (((4 : Int32) * x1) + x3) 160) ∧ ((¬ (V 1016 0 ((((4 : Int32) * x1) + x3)).toNatClampNeg) = x2 → A_X9_stands_2 l G E V x1 x2 (x3 + (1 : Int32)) K) ∧ ((V 1016 0 ((((4 : Int32) * x1) + x3)).toNatClampNeg) = x2 → K (1 : Int32) V))))
theorem ok_X9_stands {l : Launch} {G : Gt} {E : Et} {V : Vt} {x1 : Int32} {x2 : Int32} {K : Int32 → Vt → Prop} (hE : Sg E)  (h : vc_X9_stands l G E V x1 x2 K) : C_X9_stands l G E V x1 x2 K := by
  unfold vc_X9_stands at h
  refine Cl.of (by decide +kernel) (Nat.le_of_ble_eq_true rfl) (show Ev l G RX9 cX9_stands 4 (some .boolean) rm_X9_stands E 0 0 V 0 [(0, .ref (eA E 9 0)), (1, .int x1), (2, .int x2)] [] (Qi E K) from ?_)
  refine r_iconst (v := (0 : Int32)) dX9_stands_0 (by decide) ?_
  refine r_istore_n dX9_stands_1 (by decide) ?_
  exact Ev.loc [0, 1, 2, 3] rfl h
theorem ok_X9_stands_2 {l : Launch} {G : Gt} {E : Et} {V : Vt} {x1 : Int32} {x2 : Int32} {x3 : Int32} {K : Int32 → Vt → Prop} (hE : Sg E)  (h : vc_X9_stands_2 l G E V x1 x2 x3 K) : A_X9_stands_2 l G E V x1 x2 x3 K := by
  unfold vc_X9_stands_2 at h
  unfold A_X9_stands_2
  refine r_iload_n (x := x3) dX9_stands_2 rfl ?_
  refine r_aload_n (v := .ref (eA E 9 0)) dX9_stands_3 rfl (rl_ref _) ?_
  refine r_get (v := .ref (eA E 1015 0)) dX9_stands_4 fl_RX9_50 (hE.1 9 (by decide)) rfl ?_
  refine r_iload_n (x := x1) dX9_stands_7 rfl ?_
  obtain ⟨hb, h⟩ := h
  refine r_iald dX9_stands_8 rfl (by decide) (hE.1 9 (by decide)) (ix hE (by decide) rfl hb) ?_
  refine r_icmp_ge 34 dX9_stands_9 (by decide) (fun q => ?_) (fun q => ?_)
  · have h := h.1 q
    refine r_iconst (v := (0 : Int32)) dX9_stands_34 (by decide) ?_
    exact r_zret dX9_stands_35 rfl rfl ⟨Nat.le_of_ble_eq_true rfl, Nat.le_of_ble_eq_true rfl⟩ ⟨rfl, _, rfl, h⟩
  · have h := h.2 q
    refine r_aload_n (v := .ref (eA E 9 0)) dX9_stands_12 rfl (rl_ref _) ?_
    refine r_get (v := .ref (eA E 1016 0)) dX9_stands_13 fl_RX9_53 (hE.1 9 (by decide)) rfl ?_
    refine r_iconst (v := (4 : Int32)) dX9_stands_16 (by decide) ?_
    refine r_iload_n (x := x1) dX9_stands_17 rfl ?_
    refine r_imul dX9_stands_18 ?_
    refine r_iload_n (x := x3) dX9_stands_19 rfl ?_
    refine r_iadd dX9_stands_20 ?_
    obtain ⟨hb, h⟩ := h
    refine r_iald dX9_stands_21 rfl (by decide) (hE.1 9 (by decide)) (ix hE (by decide) rfl hb) ?_
    refine r_iload_n (x := x2) dX9_stands_22 rfl ?_
    refine r_icmp_ne 28 dX9_stands_23 (by decide) (fun q => ?_) (fun q => ?_)
    · have h := h.1 q
      refine r_iinc (x := x3) (v := (1 : Int32)) dX9_stands_28 rfl (by decide) (by decide) ?_
      refine r_goto 2 dX9_stands_31 (by decide) ?_
      exact Ev.loc [0, 1, 2, 3] rfl h
    · have h := h.2 q
      refine r_iconst (v := (1 : Int32)) dX9_stands_26 (by decide) ?_
      exact r_zret dX9_stands_27 rfl rfl ⟨Nat.le_of_ble_eq_true rfl, Nat.le_of_ble_eq_true rfl⟩ ⟨rfl, _, rfl, h⟩
abbrev rm_X9_about : Room := { frames := 2, cells := 0, slots := 0, locals := 46 }
def C_X9_about (l : Launch) (G : Gt) (E : Et) (V : Vt) (x1 : Int32) (x2 : Int32) (K : Int32 → Vt → Prop) : Prop := Cl l G yX9_about cX9_about 5 (some .int) rm_X9_about E V [.ref (eA E 9 0), .int x1, .int x2] (Qi E K)
def A_X9_about_180 (l : Launch) (G : Gt) (E : Et) (V : Vt) (x1 : Int32) (x3 : Int32) (x4 : Int32) (K : Int32 → Vt → Prop) : Prop := Ev l G RX9 cX9_about 5 (some .int) rm_X9_about E 0 0 V 180 [(0, .ref (eA E 9 0)), (1, .int x1), (3, .int x3), (4, .int x4)] [] (Qi E K)
def vc_X9_about (l : Launch) (G : Gt) (E : Et) (V : Vt) (x1 : Int32) (x2 : Int32) (K : Int32 → Vt → Prop) : Prop := (C_X9_isPart l G E V x1 (fun x22 V21 => ((¬ x22 = (0 : Int32) → ((x2 = (0 : Int32) → (vp_in x1 40) ∧ K (V21 1002 0 (x1).toNatClampNeg) V21) ∧ (x2 = (1 : Int32) → (vp_in x1 40) ∧ K (V21 1003 0 (x1).toNatClampNeg) V21) ∧ (x2 = (2 : Int32) → (vp_in x1 40) ∧ K (V21 1012 0 (x1).toNatClampNeg) V21) ∧ (x2 = (3 : Int32) → (C_X9_weigh l G E V21 (fun V23 => (vp_in x1 40) ∧ K (V23 1028 0 (x1).toNatClampNeg) V23))) ∧ (x2 = (4 : Int32) → (vp_in x1 40) ∧ K (V21 1013 0 (x1).toNatClampNeg) V21) ∧ (x2 = (5 : Int32) → (vp_in x1 40) ∧ (((V21 1014 0 (x1).toNatClampNeg) = (0 : Int32) → K (0 : Int32) V21) ∧ (¬ (V21 1014 0 (x1).toNatClampNeg) = (0 : Int32) → K (1 : Int32) V21))) ∧ (x2 = (6 : Int32) → (C_X9_weigh l G E V21 (fun V24 => (C_X9_net l G E V24 x1 (fun x26 V25 => K x26 V25))))) ∧ (x2 = (7 : Int32) → (C_X9_weigh l G E V21 (fun V27 => (vp_in x1 40) ∧ (((V27 1029 0 (x1).toNatClampNeg) ≤ (0 : Int32) → K (0 : Int32) V27) ∧ (¬ (V27 1029 0 (x1).toNatClampNeg) ≤ (0 : Int32) → K (1 : Int32) V27))))) ∧ (x2 = (8 : Int32) → (vp_in x1 40) ∧ K (V21 1011 0 (x1).toNatClampNeg) V21) ∧ (x2 = (9 : Int32) → (vp_in x1 40) ∧ K (V21 1015 0 (x1).toNatClampNeg) V21) ∧ (x2 = (10 : Int32) → A_X9_about_180 l G E V21 x1 (0 : Int32) (0 : Int32) K) ∧ (x2 = (11 : Int32) → (vp_in x1 40) ∧ K (V21 1005 0 (x1).toNatClampNeg) V21) ∧ (x2 = (12 : Int32) → (vp_in x1 40) ∧ K (V21 1006 0 (x1).toNatClampNeg) V21) ∧ (¬ x2 = (0 : Int32) ∧ ¬ x2 = (1 : Int32) ∧ ¬ x2 = (2 : Int32) ∧ ¬ x2 = (3 : Int32) ∧ ¬ x2 = (4 : Int32) ∧ ¬ x2 = (5 : Int32) ∧ ¬ x2 = (6 : Int32) ∧ ¬ x2 = (7 : Int32) ∧ ¬ x2 = (8 : Int32) ∧ ¬ x2 = (9 : Int32) ∧ ¬ x2 = (10 : Int32) ∧ ¬ x2 = (11 : Int32) ∧ ¬ x2 = (12 : Int32) → K (-1 : Int32) V21))) ∧ (x22 = (0 : Int32) → K (-1 : Int32) V21))))
def vc_X9_about_180 (l : Launch) (G : Gt) (E : Et) (V : Vt) (x1 : Int32) (x3 : Int32) (x4 : Int32) (K : Int32 → Vt → Prop) : Prop := (((V 1001 0 0) ≤ x4 → K x3 V) ∧ (¬ (V 1001 0 0) ≤ x4 → (C_X9_stands l G E V x4 x1 (fun x29 V28 => ((x29 = (0 : Int32) → A_X9_about_180 l G E V28 x1 (x3 + (0 : Int32)) (x4 + (1 : Int32)) K) ∧ (¬ x29 = (0 : Int32) → A_X9_about_180 l G E V28 x1 (x3 + (1 : Int32)) (x4 + (1 : Int32)) K))))))
theorem ok_X9_about {l : Launch} {G : Gt} {E : Et} {V : Vt} {x1 : Int32} {x2 : Int32} {K : Int32 → Vt → Prop} (hE : Sg E)  (h : vc_X9_about l G E V x1 x2 K) : C_X9_about l G E V x1 x2 K := by
  unfold vc_X9_about at h
  refine Cl.of (by decide +kernel) (Nat.le_of_ble_eq_true rfl) (show Ev l G RX9 cX9_about 5 (some .int) rm_X9_about E 0 0 V 0 [(0, .ref (eA E 9 0)), (1, .int x1), (2, .int x2)] [] (Qi E K) from ?_)
  refine r_aload_n (v := .ref (eA E 9 0)) dX9_about_0 rfl (rl_ref _) ?_
  refine r_iload_n (x := x1) dX9_about_1 rfl ?_
  refine r_cVi (As := [.int x1]) (rest := []) dX9_about_2 mv_X9_isPart ml_RX9_137 ⟨_, _, rfl⟩ (hE.1 9 (by decide)) ⟨Nat.le_of_ble_eq_true rfl, Nat.le_of_ble_eq_true rfl⟩ ⟨rfl, rfl⟩ rfl rfl (Nat.le_of_ble_eq_true rfl) h (fun x22 V21 h => ?_)
  refine r_if_ne 10 dX9_about_5 (by decide) (fun q => ?_) (fun q => ?_)
  · have h := h.1 q
    refine r_iconst (v := (0 : Int32)) dX9_about_10 (by decide) ?_
    refine r_istore_n dX9_about_11 (by decide) ?_
    refine r_iload_n (x := x2) dX9_about_12 rfl ?_
    by_cases q0 : x2 = (0 : Int32)
    · have h := h.1 q0
      refine r_tIn (xv := (0 : Int32)) 80 dX9_about_13 q0 (by decide) (by decide) rfl (by decide) ?_
      refine r_aload_n (v := .ref (eA E 9 0)) dX9_about_80 rfl (rl_ref _) ?_
      refine r_get (v := .ref (eA E 1002 0)) dX9_about_81 fl_RX9_7 (hE.1 9 (by decide)) rfl ?_
      refine r_iload_n (x := x1) dX9_about_84 rfl ?_
      obtain ⟨hb, h⟩ := h
      refine r_iald dX9_about_85 rfl (by decide) (hE.1 9 (by decide)) (ix hE (by decide) rfl hb) ?_
      exact r_iret dX9_about_86 rfl ⟨Nat.le_of_ble_eq_true rfl, Nat.le_of_ble_eq_true rfl⟩ ⟨rfl, _, rfl, h⟩
    by_cases q1 : x2 = (1 : Int32)
    · have h := h.2.1 q1
      refine r_tIn (xv := (1 : Int32)) 87 dX9_about_13 q1 (by decide) (by decide) rfl (by decide) ?_
      refine r_aload_n (v := .ref (eA E 9 0)) dX9_about_87 rfl (rl_ref _) ?_
      refine r_get (v := .ref (eA E 1003 0)) dX9_about_88 fl_RX9_13 (hE.1 9 (by decide)) rfl ?_
      refine r_iload_n (x := x1) dX9_about_91 rfl ?_
      obtain ⟨hb, h⟩ := h
      refine r_iald dX9_about_92 rfl (by decide) (hE.1 9 (by decide)) (ix hE (by decide) rfl hb) ?_
      exact r_iret dX9_about_93 rfl ⟨Nat.le_of_ble_eq_true rfl, Nat.le_of_ble_eq_true rfl⟩ ⟨rfl, _, rfl, h⟩
    by_cases q2 : x2 = (2 : Int32)
    · have h := h.2.2.1 q2
      refine r_tIn (xv := (2 : Int32)) 94 dX9_about_13 q2 (by decide) (by decide) rfl (by decide) ?_
      refine r_aload_n (v := .ref (eA E 9 0)) dX9_about_94 rfl (rl_ref _) ?_
      refine r_get (v := .ref (eA E 1012 0)) dX9_about_95 fl_RX9_40 (hE.1 9 (by decide)) rfl ?_
      refine r_iload_n (x := x1) dX9_about_98 rfl ?_
      obtain ⟨hb, h⟩ := h
      refine r_iald dX9_about_99 rfl (by decide) (hE.1 9 (by decide)) (ix hE (by decide) rfl hb) ?_
      exact r_iret dX9_about_100 rfl ⟨Nat.le_of_ble_eq_true rfl, Nat.le_of_ble_eq_true rfl⟩ ⟨rfl, _, rfl, h⟩
    by_cases q3 : x2 = (3 : Int32)
    · have h := h.2.2.2.1 q3
      refine r_tIn (xv := (3 : Int32)) 101 dX9_about_13 q3 (by decide) (by decide) rfl (by decide) ?_
      refine r_aload_n (v := .ref (eA E 9 0)) dX9_about_101 rfl (rl_ref _) ?_
      refine r_cVv (As := []) (rest := []) dX9_about_102 mv_X9_weigh ml_RX9_157 ⟨_, _, rfl⟩ (hE.1 9 (by decide)) ⟨Nat.le_of_ble_eq_true rfl, Nat.le_of_ble_eq_true rfl⟩ ⟨rfl, rfl⟩ rfl rfl (Nat.le_of_ble_eq_true rfl) h (fun V23 h => ?_)
      refine r_aload_n (v := .ref (eA E 9 0)) dX9_about_105 rfl (rl_ref _) ?_
      refine r_get (v := .ref (eA E 1028 0)) dX9_about_106 fl_RX9_75 (hE.1 9 (by decide)) rfl ?_
      refine r_iload_n (x := x1) dX9_about_109 rfl ?_
      obtain ⟨hb, h⟩ := h
      refine r_iald dX9_about_110 rfl (by decide) (hE.1 9 (by decide)) (ix hE (by decide) rfl hb) ?_
      exact r_iret dX9_about_111 rfl ⟨Nat.le_of_ble_eq_true rfl, Nat.le_of_ble_eq_true rfl⟩ ⟨rfl, _, rfl, h⟩
    by_cases q4 : x2 = (4 : Int32)
    · have h := h.2.2.2.2.1 q4
      refine r_tIn (xv := (4 : Int32)) 112 dX9_about_13 q4 (by decide) (by decide) rfl (by decide) ?_
      refine r_aload_n (v := .ref (eA E 9 0)) dX9_about_112 rfl (rl_ref _) ?_
      refine r_get (v := .ref (eA E 1013 0)) dX9_about_113 fl_RX9_43 (hE.1 9 (by decide)) rfl ?_
      refine r_iload_n (x := x1) dX9_about_116 rfl ?_
      obtain ⟨hb, h⟩ := h
      refine r_iald dX9_about_117 rfl (by decide) (hE.1 9 (by decide)) (ix hE (by decide) rfl hb) ?_
      exact r_iret dX9_about_118 rfl ⟨Nat.le_of_ble_eq_true rfl, Nat.le_of_ble_eq_true rfl⟩ ⟨rfl, _, rfl, h⟩
    by_cases q5 : x2 = (5 : Int32)
    · have h := h.2.2.2.2.2.1 q5
      refine r_tIn (xv := (5 : Int32)) 119 dX9_about_13 q5 (by decide) (by decide) rfl (by decide) ?_
      refine r_aload_n (v := .ref (eA E 9 0)) dX9_about_119 rfl (rl_ref _) ?_
      refine r_get (v := .ref (eA E 1014 0)) dX9_about_120 fl_RX9_46 (hE.1 9 (by decide)) rfl ?_
      refine r_iload_n (x := x1) dX9_about_123 rfl ?_
      obtain ⟨hb, h⟩ := h
      refine r_zald dX9_about_124 rfl (by decide) (hE.1 9 (by decide)) (ix hE (by decide) rfl hb) ?_
      refine r_if_eq 132 dX9_about_125 (by decide) (fun q => ?_) (fun q => ?_)
      · have h := h.1 q
        refine r_iconst (v := (0 : Int32)) dX9_about_132 (by decide) ?_
        exact r_iret dX9_about_133 rfl ⟨Nat.le_of_ble_eq_true rfl, Nat.le_of_ble_eq_true rfl⟩ ⟨rfl, _, rfl, h⟩
      · have h := h.2 q
        refine r_iconst (v := (1 : Int32)) dX9_about_128 (by decide) ?_
        refine r_goto 133 dX9_about_129 (by decide) ?_
        exact r_iret dX9_about_133 rfl ⟨Nat.le_of_ble_eq_true rfl, Nat.le_of_ble_eq_true rfl⟩ ⟨rfl, _, rfl, h⟩
    by_cases q6 : x2 = (6 : Int32)
    · have h := h.2.2.2.2.2.2.1 q6
      refine r_tIn (xv := (6 : Int32)) 134 dX9_about_13 q6 (by decide) (by decide) rfl (by decide) ?_
      refine r_aload_n (v := .ref (eA E 9 0)) dX9_about_134 rfl (rl_ref _) ?_
      refine r_cVv (As := []) (rest := []) dX9_about_135 mv_X9_weigh ml_RX9_157 ⟨_, _, rfl⟩ (hE.1 9 (by decide)) ⟨Nat.le_of_ble_eq_true rfl, Nat.le_of_ble_eq_true rfl⟩ ⟨rfl, rfl⟩ rfl rfl (Nat.le_of_ble_eq_true rfl) h (fun V24 h => ?_)
      refine r_aload_n (v := .ref (eA E 9 0)) dX9_about_138 rfl (rl_ref _) ?_
      refine r_iload_n (x := x1) dX9_about_139 rfl ?_
      refine r_cVi (As := [.int x1]) (rest := []) dX9_about_140 mv_X9_net ml_RX9_160 ⟨_, _, rfl⟩ (hE.1 9 (by decide)) ⟨Nat.le_of_ble_eq_true rfl, Nat.le_of_ble_eq_true rfl⟩ ⟨rfl, rfl⟩ rfl rfl (Nat.le_of_ble_eq_true rfl) h (fun x26 V25 h => ?_)
      exact r_iret dX9_about_143 rfl ⟨Nat.le_of_ble_eq_true rfl, Nat.le_of_ble_eq_true rfl⟩ ⟨rfl, _, rfl, h⟩
    by_cases q7 : x2 = (7 : Int32)
    · have h := h.2.2.2.2.2.2.2.1 q7
      refine r_tIn (xv := (7 : Int32)) 144 dX9_about_13 q7 (by decide) (by decide) rfl (by decide) ?_
      refine r_aload_n (v := .ref (eA E 9 0)) dX9_about_144 rfl (rl_ref _) ?_
      refine r_cVv (As := []) (rest := []) dX9_about_145 mv_X9_weigh ml_RX9_157 ⟨_, _, rfl⟩ (hE.1 9 (by decide)) ⟨Nat.le_of_ble_eq_true rfl, Nat.le_of_ble_eq_true rfl⟩ ⟨rfl, rfl⟩ rfl rfl (Nat.le_of_ble_eq_true rfl) h (fun V27 h => ?_)
      refine r_aload_n (v := .ref (eA E 9 0)) dX9_about_148 rfl (rl_ref _) ?_
      refine r_get (v := .ref (eA E 1029 0)) dX9_about_149 fl_RX9_78 (hE.1 9 (by decide)) rfl ?_
      refine r_iload_n (x := x1) dX9_about_152 rfl ?_
      obtain ⟨hb, h⟩ := h
      refine r_iald dX9_about_153 rfl (by decide) (hE.1 9 (by decide)) (ix hE (by decide) rfl hb) ?_
      refine r_if_le 161 dX9_about_154 (by decide) (fun q => ?_) (fun q => ?_)
      · have h := h.1 q
        refine r_iconst (v := (0 : Int32)) dX9_about_161 (by decide) ?_
        exact r_iret dX9_about_162 rfl ⟨Nat.le_of_ble_eq_true rfl, Nat.le_of_ble_eq_true rfl⟩ ⟨rfl, _, rfl, h⟩
      · have h := h.2 q
        refine r_iconst (v := (1 : Int32)) dX9_about_157 (by decide) ?_
        refine r_goto 162 dX9_about_158 (by decide) ?_
        exact r_iret dX9_about_162 rfl ⟨Nat.le_of_ble_eq_true rfl, Nat.le_of_ble_eq_true rfl⟩ ⟨rfl, _, rfl, h⟩
    by_cases q8 : x2 = (8 : Int32)
    · have h := h.2.2.2.2.2.2.2.2.1 q8
      refine r_tIn (xv := (8 : Int32)) 163 dX9_about_13 q8 (by decide) (by decide) rfl (by decide) ?_
      refine r_aload_n (v := .ref (eA E 9 0)) dX9_about_163 rfl (rl_ref _) ?_
      refine r_get (v := .ref (eA E 1011 0)) dX9_about_164 fl_RX9_37 (hE.1 9 (by decide)) rfl ?_
      refine r_iload_n (x := x1) dX9_about_167 rfl ?_
      obtain ⟨hb, h⟩ := h
      refine r_iald dX9_about_168 rfl (by decide) (hE.1 9 (by decide)) (ix hE (by decide) rfl hb) ?_
      exact r_iret dX9_about_169 rfl ⟨Nat.le_of_ble_eq_true rfl, Nat.le_of_ble_eq_true rfl⟩ ⟨rfl, _, rfl, h⟩
    by_cases q9 : x2 = (9 : Int32)
    · have h := h.2.2.2.2.2.2.2.2.2.1 q9
      refine r_tIn (xv := (9 : Int32)) 170 dX9_about_13 q9 (by decide) (by decide) rfl (by decide) ?_
      refine r_aload_n (v := .ref (eA E 9 0)) dX9_about_170 rfl (rl_ref _) ?_
      refine r_get (v := .ref (eA E 1015 0)) dX9_about_171 fl_RX9_50 (hE.1 9 (by decide)) rfl ?_
      refine r_iload_n (x := x1) dX9_about_174 rfl ?_
      obtain ⟨hb, h⟩ := h
      refine r_iald dX9_about_175 rfl (by decide) (hE.1 9 (by decide)) (ix hE (by decide) rfl hb) ?_
      exact r_iret dX9_about_176 rfl ⟨Nat.le_of_ble_eq_true rfl, Nat.le_of_ble_eq_true rfl⟩ ⟨rfl, _, rfl, h⟩
    by_cases q10 : x2 = (10 : Int32)
    · have h := h.2.2.2.2.2.2.2.2.2.2.1 q10
      refine r_tIn (xv := (10 : Int32)) 177 dX9_about_13 q10 (by decide) (by decide) rfl (by decide) ?_
      refine r_iconst (v := (0 : Int32)) dX9_about_177 (by decide) ?_
      refine r_istore dX9_about_178 (by decide) ?_
      exact Ev.loc [0, 1, 3, 4] rfl h
    by_cases q11 : x2 = (11 : Int32)
    · have h := h.2.2.2.2.2.2.2.2.2.2.2.1 q11
      refine r_tIn (xv := (11 : Int32)) 215 dX9_about_13 q11 (by decide) (by decide) rfl (by decide) ?_
      refine r_aload_n (v := .ref (eA E 9 0)) dX9_about_215 rfl (rl_ref _) ?_
      refine r_get (v := .ref (eA E 1005 0)) dX9_about_216 fl_RX9_19 (hE.1 9 (by decide)) rfl ?_
      refine r_iload_n (x := x1) dX9_about_219 rfl ?_
      obtain ⟨hb, h⟩ := h
      refine r_iald dX9_about_220 rfl (by decide) (hE.1 9 (by decide)) (ix hE (by decide) rfl hb) ?_
      exact r_iret dX9_about_221 rfl ⟨Nat.le_of_ble_eq_true rfl, Nat.le_of_ble_eq_true rfl⟩ ⟨rfl, _, rfl, h⟩
    by_cases q12 : x2 = (12 : Int32)
    · have h := h.2.2.2.2.2.2.2.2.2.2.2.2.1 q12
      refine r_tIn (xv := (12 : Int32)) 222 dX9_about_13 q12 (by decide) (by decide) rfl (by decide) ?_
      refine r_aload_n (v := .ref (eA E 9 0)) dX9_about_222 rfl (rl_ref _) ?_
      refine r_get (v := .ref (eA E 1006 0)) dX9_about_223 fl_RX9_22 (hE.1 9 (by decide)) rfl ?_
      refine r_iload_n (x := x1) dX9_about_226 rfl ?_
      obtain ⟨hb, h⟩ := h
      refine r_iald dX9_about_227 rfl (by decide) (hE.1 9 (by decide)) (ix hE (by decide) rfl hb) ?_
      exact r_iret dX9_about_228 rfl ⟨Nat.le_of_ble_eq_true rfl, Nat.le_of_ble_eq_true rfl⟩ ⟨rfl, _, rfl, h⟩
    · have h := h.2.2.2.2.2.2.2.2.2.2.2.2.2 ⟨q0, q1, q2, q3, q4, q5, q6, q7, q8, q9, q10, q11, q12⟩
      refine r_tOut 229 dX9_about_13 (by have a0 := lv_neT q0 (a := 0) rfl; have a1 := lv_neT q1 (a := 1) rfl; have a2 := lv_neT q2 (a := 2) rfl; have a3 := lv_neT q3 (a := 3) rfl; have a4 := lv_neT q4 (a := 4) rfl; have a5 := lv_neT q5 (a := 5) rfl; have a6 := lv_neT q6 (a := 6) rfl; have a7 := lv_neT q7 (a := 7) rfl; have a8 := lv_neT q8 (a := 8) rfl; have a9 := lv_neT q9 (a := 9) rfl; have a10 := lv_neT q10 (a := 10) rfl; have a11 := lv_neT q11 (a := 11) rfl; have a12 := lv_neT q12 (a := 12) rfl; omega) (by decide) ?_
      refine r_iconst (v := (-1 : Int32)) dX9_about_229 (by decide) ?_
      exact r_iret dX9_about_230 rfl ⟨Nat.le_of_ble_eq_true rfl, Nat.le_of_ble_eq_true rfl⟩ ⟨rfl, _, rfl, h⟩
  · have h := h.2 q
    refine r_iconst (v := (-1 : Int32)) dX9_about_8 (by decide) ?_
    exact r_iret dX9_about_9 rfl ⟨Nat.le_of_ble_eq_true rfl, Nat.le_of_ble_eq_true rfl⟩ ⟨rfl, _, rfl, h⟩
theorem ok_X9_about_180 {l : Launch} {G : Gt} {E : Et} {V : Vt} {x1 : Int32} {x3 : Int32} {x4 : Int32} {K : Int32 → Vt → Prop} (hE : Sg E)  (h : vc_X9_about_180 l G E V x1 x3 x4 K) : A_X9_about_180 l G E V x1 x3 x4 K := by
  unfold vc_X9_about_180 at h
  unfold A_X9_about_180
  refine r_iload (x := x4) dX9_about_180 rfl ?_
  refine r_aload_n (v := .ref (eA E 9 0)) dX9_about_182 rfl (rl_ref _) ?_
  refine r_get (v := .int (V 1001 0 0)) dX9_about_183 fl_RX9_122 (hE.1 9 (by decide)) rfl ?_
  refine r_icmp_ge 213 dX9_about_186 (by decide) (fun q => ?_) (fun q => ?_)
  · have h := h.1 q
    refine r_iload_n (x := x3) dX9_about_213 rfl ?_
    exact r_iret dX9_about_214 rfl ⟨Nat.le_of_ble_eq_true rfl, Nat.le_of_ble_eq_true rfl⟩ ⟨rfl, _, rfl, h⟩
  · have h := h.2 q
    refine r_iload_n (x := x3) dX9_about_189 rfl ?_
    refine r_aload_n (v := .ref (eA E 9 0)) dX9_about_190 rfl (rl_ref _) ?_
    refine r_iload (x := x4) dX9_about_191 rfl ?_
    refine r_iload_n (x := x1) dX9_about_193 rfl ?_
    refine r_cVi (As := [.int x4, .int x1]) (rest := [.int x3]) dX9_about_194 mv_X9_stands ml_RX9_244 ⟨_, _, rfl⟩ (hE.1 9 (by decide)) ⟨Nat.le_of_ble_eq_true rfl, Nat.le_of_ble_eq_true rfl⟩ ⟨rfl, rfl⟩ rfl rfl (Nat.le_of_ble_eq_true rfl) h (fun x29 V28 h => ?_)
    refine r_if_eq 204 dX9_about_197 (by decide) (fun q => ?_) (fun q => ?_)
    · have h := h.1 q
      refine r_iconst (v := (0 : Int32)) dX9_about_204 (by decide) ?_
      refine r_iadd dX9_about_205 ?_
      refine r_istore_n dX9_about_206 (by decide) ?_
      refine r_iinc (x := x4) (v := (1 : Int32)) dX9_about_207 rfl (by decide) (by decide) ?_
      refine r_goto 180 dX9_about_210 (by decide) ?_
      exact Ev.loc [0, 1, 2, 3] rfl h
    · have h := h.2 q
      refine r_iconst (v := (1 : Int32)) dX9_about_200 (by decide) ?_
      refine r_goto 205 dX9_about_201 (by decide) ?_
      refine r_iadd dX9_about_205 ?_
      refine r_istore_n dX9_about_206 (by decide) ?_
      refine r_iinc (x := x4) (v := (1 : Int32)) dX9_about_207 rfl (by decide) (by decide) ?_
      refine r_goto 180 dX9_about_210 (by decide) ?_
      exact Ev.loc [0, 1, 2, 3] rfl h
abbrev rm_X9_support : Room := { frames := 2, cells := 0, slots := 0, locals := 43 }
def C_X9_support (l : Launch) (G : Gt) (E : Et) (V : Vt) (x1 : Int32) (x2 : Int32) (K : Int32 → Vt → Prop) : Prop := Cl l G yX9_support cX9_support 3 (some .int) rm_X9_support E V [.ref (eA E 9 0), .int x1, .int x2] (Qi E K)
def vc_X9_support (l : Launch) (G : Gt) (E : Et) (V : Vt) (x1 : Int32) (x2 : Int32) (K : Int32 → Vt → Prop) : Prop := (C_X9_isPart l G E V x1 (fun x22 V21 => ((x22 = (0 : Int32) → K (-1 : Int32) V21) ∧ (¬ x22 = (0 : Int32) → (vp_in x1 40) ∧ (C_X9_in l G E V21 x2 (0 : Int32) ((V21 1015 0 (x1).toNatClampNeg) - (1 : Int32)) (fun x24 V23 => ((x24 = (0 : Int32) → K (-1 : Int32) V23) ∧ (¬ x24 = (0 : Int32) → (vp_in (((4 : Int32) * x1) + x2) 160) ∧ (vp_in (((4 : Int32) * x1) + x2) 160) ∧ K (((100 : Int32) * (V23 1016 0 ((((4 : Int32) * x1) + x2)).toNatClampNeg)) + (V23 1017 0 ((((4 : Int32) * x1) + x2)).toNatClampNeg)) V23))))))))
theorem ok_X9_support {l : Launch} {G : Gt} {E : Et} {V : Vt} {x1 : Int32} {x2 : Int32} {K : Int32 → Vt → Prop} (hE : Sg E)  (h : vc_X9_support l G E V x1 x2 K) : C_X9_support l G E V x1 x2 K := by
  unfold vc_X9_support at h
  refine Cl.of (by decide +kernel) (Nat.le_of_ble_eq_true rfl) (show Ev l G RX9 cX9_support 3 (some .int) rm_X9_support E 0 0 V 0 [(0, .ref (eA E 9 0)), (1, .int x1), (2, .int x2)] [] (Qi E K) from ?_)
  refine r_aload_n (v := .ref (eA E 9 0)) dX9_support_0 rfl (rl_ref _) ?_
  refine r_iload_n (x := x1) dX9_support_1 rfl ?_
  refine r_cVi (As := [.int x1]) (rest := []) dX9_support_2 mv_X9_isPart ml_RX9_137 ⟨_, _, rfl⟩ (hE.1 9 (by decide)) ⟨Nat.le_of_ble_eq_true rfl, Nat.le_of_ble_eq_true rfl⟩ ⟨rfl, rfl⟩ rfl rfl (Nat.le_of_ble_eq_true rfl) h (fun x22 V21 h => ?_)
  refine r_if_eq 51 dX9_support_5 (by decide) (fun q => ?_) (fun q => ?_)
  · have h := h.1 q
    refine r_iconst (v := (-1 : Int32)) dX9_support_51 (by decide) ?_
    exact r_iret dX9_support_52 rfl ⟨Nat.le_of_ble_eq_true rfl, Nat.le_of_ble_eq_true rfl⟩ ⟨rfl, _, rfl, h⟩
  · have h := h.2 q
    refine r_iload_n (x := x2) dX9_support_8 rfl ?_
    refine r_iconst (v := (0 : Int32)) dX9_support_9 (by decide) ?_
    refine r_aload_n (v := .ref (eA E 9 0)) dX9_support_10 rfl (rl_ref _) ?_
    refine r_get (v := .ref (eA E 1015 0)) dX9_support_11 fl_RX9_50 (hE.1 9 (by decide)) rfl ?_
    refine r_iload_n (x := x1) dX9_support_14 rfl ?_
    obtain ⟨hb, h⟩ := h
    refine r_iald dX9_support_15 rfl (by decide) (hE.1 9 (by decide)) (ix hE (by decide) rfl hb) ?_
    refine r_iconst (v := (1 : Int32)) dX9_support_16 (by decide) ?_
    refine r_isub dX9_support_17 ?_
    refine r_cSi (As := [.int x2, .int (0 : Int32), .int ((V21 1015 0 (x1).toNatClampNeg) - (1 : Int32))]) (rest := []) dX9_support_18 ms_X9_in ml_RX9_125 ⟨Nat.le_of_ble_eq_true rfl, Nat.le_of_ble_eq_true rfl⟩ ⟨rfl, rfl⟩ rfl rfl (Nat.le_of_ble_eq_true rfl) h (fun x24 V23 h => ?_)
    refine r_if_eq 51 dX9_support_21 (by decide) (fun q => ?_) (fun q => ?_)
    · have h := h.1 q
      refine r_iconst (v := (-1 : Int32)) dX9_support_51 (by decide) ?_
      exact r_iret dX9_support_52 rfl ⟨Nat.le_of_ble_eq_true rfl, Nat.le_of_ble_eq_true rfl⟩ ⟨rfl, _, rfl, h⟩
    · have h := h.2 q
      refine r_bipush (v := (100 : Int32)) dX9_support_24 (by decide) ?_
      refine r_aload_n (v := .ref (eA E 9 0)) dX9_support_26 rfl (rl_ref _) ?_
      refine r_get (v := .ref (eA E 1016 0)) dX9_support_27 fl_RX9_53 (hE.1 9 (by decide)) rfl ?_
      refine r_iconst (v := (4 : Int32)) dX9_support_30 (by decide) ?_
      refine r_iload_n (x := x1) dX9_support_31 rfl ?_
      refine r_imul dX9_support_32 ?_
      refine r_iload_n (x := x2) dX9_support_33 rfl ?_
      refine r_iadd dX9_support_34 ?_
      obtain ⟨hb, h⟩ := h
      refine r_iald dX9_support_35 rfl (by decide) (hE.1 9 (by decide)) (ix hE (by decide) rfl hb) ?_
      refine r_imul dX9_support_36 ?_
      refine r_aload_n (v := .ref (eA E 9 0)) dX9_support_37 rfl (rl_ref _) ?_
      refine r_get (v := .ref (eA E 1017 0)) dX9_support_38 fl_RX9_56 (hE.1 9 (by decide)) rfl ?_
      refine r_iconst (v := (4 : Int32)) dX9_support_41 (by decide) ?_
      refine r_iload_n (x := x1) dX9_support_42 rfl ?_
      refine r_imul dX9_support_43 ?_
      refine r_iload_n (x := x2) dX9_support_44 rfl ?_
      refine r_iadd dX9_support_45 ?_
      obtain ⟨hb, h⟩ := h
      refine r_iald dX9_support_46 rfl (by decide) (hE.1 9 (by decide)) (ix hE (by decide) rfl hb) ?_
      refine r_iadd dX9_support_47 ?_
      refine r_goto 52 dX9_support_48 (by decide) ?_
      exact r_iret dX9_support_52 rfl ⟨Nat.le_of_ble_eq_true rfl, Nat.le_of_ble_eq_true rfl⟩ ⟨rfl, _, rfl, h⟩
abbrev rm_X9_left : Room := { frames := 2, cells := 0, slots := 0, locals := 43 }
def C_X9_left (l : Launch) (G : Gt) (E : Et) (V : Vt) (x1 : Int32) (x2 : Int32) (K : Int32 → Vt → Prop) : Prop := Cl l G yX9_left cX9_left 3 (some .int) rm_X9_left E V [.ref (eA E 9 0), .int x1, .int x2] (Qi E K)
def vc_X9_left (l : Launch) (G : Gt) (E : Et) (V : Vt) (x1 : Int32) (x2 : Int32) (K : Int32 → Vt → Prop) : Prop := (C_X9_isGift l G E V x1 (fun x22 V21 => ((x22 = (0 : Int32) → K (-1 : Int32) V21) ∧ (¬ x22 = (0 : Int32) → (C_X9_in l G E V21 x2 (0 : Int32) (1 : Int32) (fun x24 V23 => ((¬ x24 = (0 : Int32) → ((¬ x2 = (0 : Int32) → (vp_in x1 30) ∧ K (V23 1039 0 (x1).toNatClampNeg) V23) ∧ (x2 = (0 : Int32) → (vp_in x1 30) ∧ K (V23 1040 0 (x1).toNatClampNeg) V23))) ∧ (x24 = (0 : Int32) → K (-1 : Int32) V23))))))))
theorem ok_X9_left {l : Launch} {G : Gt} {E : Et} {V : Vt} {x1 : Int32} {x2 : Int32} {K : Int32 → Vt → Prop} (hE : Sg E)  (h : vc_X9_left l G E V x1 x2 K) : C_X9_left l G E V x1 x2 K := by
  unfold vc_X9_left at h
  refine Cl.of (by decide +kernel) (Nat.le_of_ble_eq_true rfl) (show Ev l G RX9 cX9_left 3 (some .int) rm_X9_left E 0 0 V 0 [(0, .ref (eA E 9 0)), (1, .int x1), (2, .int x2)] [] (Qi E K) from ?_)
  refine r_aload_n (v := .ref (eA E 9 0)) dX9_left_0 rfl (rl_ref _) ?_
  refine r_iload_n (x := x1) dX9_left_1 rfl ?_
  refine r_cVi (As := [.int x1]) (rest := []) dX9_left_2 mv_X9_isGift ml_RX9_225 ⟨_, _, rfl⟩ (hE.1 9 (by decide)) ⟨Nat.le_of_ble_eq_true rfl, Nat.le_of_ble_eq_true rfl⟩ ⟨rfl, rfl⟩ rfl rfl (Nat.le_of_ble_eq_true rfl) h (fun x22 V21 h => ?_)
  refine r_if_eq 17 dX9_left_5 (by decide) (fun q => ?_) (fun q => ?_)
  · have h := h.1 q
    refine r_iconst (v := (-1 : Int32)) dX9_left_17 (by decide) ?_
    refine r_goto 40 dX9_left_18 (by decide) ?_
    exact r_iret dX9_left_40 rfl ⟨Nat.le_of_ble_eq_true rfl, Nat.le_of_ble_eq_true rfl⟩ ⟨rfl, _, rfl, h⟩
  · have h := h.2 q
    refine r_iload_n (x := x2) dX9_left_8 rfl ?_
    refine r_iconst (v := (0 : Int32)) dX9_left_9 (by decide) ?_
    refine r_iconst (v := (1 : Int32)) dX9_left_10 (by decide) ?_
    refine r_cSi (As := [.int x2, .int (0 : Int32), .int (1 : Int32)]) (rest := []) dX9_left_11 ms_X9_in ml_RX9_125 ⟨Nat.le_of_ble_eq_true rfl, Nat.le_of_ble_eq_true rfl⟩ ⟨rfl, rfl⟩ rfl rfl (Nat.le_of_ble_eq_true rfl) h (fun x24 V23 h => ?_)
    refine r_if_ne 21 dX9_left_14 (by decide) (fun q => ?_) (fun q => ?_)
    · have h := h.1 q
      refine r_iload_n (x := x2) dX9_left_21 rfl ?_
      refine r_if_ne 34 dX9_left_22 (by decide) (fun q => ?_) (fun q => ?_)
      · have h := h.1 q
        refine r_aload_n (v := .ref (eA E 9 0)) dX9_left_34 rfl (rl_ref _) ?_
        refine r_get (v := .ref (eA E 1039 0)) dX9_left_35 fl_RX9_97 (hE.1 9 (by decide)) rfl ?_
        refine r_iload_n (x := x1) dX9_left_38 rfl ?_
        obtain ⟨hb, h⟩ := h
        refine r_iald dX9_left_39 rfl (by decide) (hE.1 9 (by decide)) (ix hE (by decide) rfl hb) ?_
        exact r_iret dX9_left_40 rfl ⟨Nat.le_of_ble_eq_true rfl, Nat.le_of_ble_eq_true rfl⟩ ⟨rfl, _, rfl, h⟩
      · have h := h.2 q
        refine r_aload_n (v := .ref (eA E 9 0)) dX9_left_25 rfl (rl_ref _) ?_
        refine r_get (v := .ref (eA E 1040 0)) dX9_left_26 fl_RX9_100 (hE.1 9 (by decide)) rfl ?_
        refine r_iload_n (x := x1) dX9_left_29 rfl ?_
        obtain ⟨hb, h⟩ := h
        refine r_iald dX9_left_30 rfl (by decide) (hE.1 9 (by decide)) (ix hE (by decide) rfl hb) ?_
        refine r_goto 40 dX9_left_31 (by decide) ?_
        exact r_iret dX9_left_40 rfl ⟨Nat.le_of_ble_eq_true rfl, Nat.le_of_ble_eq_true rfl⟩ ⟨rfl, _, rfl, h⟩
    · have h := h.2 q
      refine r_iconst (v := (-1 : Int32)) dX9_left_17 (by decide) ?_
      refine r_goto 40 dX9_left_18 (by decide) ?_
      exact r_iret dX9_left_40 rfl ⟨Nat.le_of_ble_eq_true rfl, Nat.le_of_ble_eq_true rfl⟩ ⟨rfl, _, rfl, h⟩
abbrev rm_X9_as : Room := { frames := 2, cells := 0, slots := 0, locals := 43 }
def C_X9_as (l : Launch) (G : Gt) (E : Et) (V : Vt) (x1 : Int32) (x2 : Int32) (K : Int32 → Vt → Prop) : Prop := Cl l G yX9_as cX9_as 3 (some .int) rm_X9_as E V [.ref (eA E 9 0), .int x1, .int x2] (Qi E K)
def vc_X9_as (l : Launch) (G : Gt) (E : Et) (V : Vt) (x1 : Int32) (x2 : Int32) (K : Int32 → Vt → Prop) : Prop := (C_X9_isPart l G E V x1 (fun x22 V21 => ((x22 = (0 : Int32) → K (-1 : Int32) V21) ∧ (¬ x22 = (0 : Int32) → (C_X9_in l G E V21 x2 (0 : Int32) (V21 1018 0 0) (fun x24 V23 => ((¬ x24 = (0 : Int32) → ((¬ x2 = (V23 1018 0 0) → (vp_in (((1201 : Int32) * x1) + x2) 48040) ∧ K (V23 1023 0 ((((1201 : Int32) * x1) + x2)).toNatClampNeg) V23) ∧ (x2 = (V23 1018 0 0) → (vp_in x1 40) ∧ K (V23 1012 0 (x1).toNatClampNeg) V23))) ∧ (x24 = (0 : Int32) → K (-1 : Int32) V23))))))))
theorem ok_X9_as {l : Launch} {G : Gt} {E : Et} {V : Vt} {x1 : Int32} {x2 : Int32} {K : Int32 → Vt → Prop} (hE : Sg E)  (h : vc_X9_as l G E V x1 x2 K) : C_X9_as l G E V x1 x2 K := by
  unfold vc_X9_as at h
  refine Cl.of (by decide +kernel) (Nat.le_of_ble_eq_true rfl) (show Ev l G RX9 cX9_as 3 (some .int) rm_X9_as E 0 0 V 0 [(0, .ref (eA E 9 0)), (1, .int x1), (2, .int x2)] [] (Qi E K) from ?_)
  refine r_aload_n (v := .ref (eA E 9 0)) dX9_as_0 rfl (rl_ref _) ?_
  refine r_iload_n (x := x1) dX9_as_1 rfl ?_
  refine r_cVi (As := [.int x1]) (rest := []) dX9_as_2 mv_X9_isPart ml_RX9_137 ⟨_, _, rfl⟩ (hE.1 9 (by decide)) ⟨Nat.le_of_ble_eq_true rfl, Nat.le_of_ble_eq_true rfl⟩ ⟨rfl, rfl⟩ rfl rfl (Nat.le_of_ble_eq_true rfl) h (fun x22 V21 h => ?_)
  refine r_if_eq 20 dX9_as_5 (by decide) (fun q => ?_) (fun q => ?_)
  · have h := h.1 q
    refine r_iconst (v := (-1 : Int32)) dX9_as_20 (by decide) ?_
    refine r_goto 53 dX9_as_21 (by decide) ?_
    exact r_iret dX9_as_53 rfl ⟨Nat.le_of_ble_eq_true rfl, Nat.le_of_ble_eq_true rfl⟩ ⟨rfl, _, rfl, h⟩
  · have h := h.2 q
    refine r_iload_n (x := x2) dX9_as_8 rfl ?_
    refine r_iconst (v := (0 : Int32)) dX9_as_9 (by decide) ?_
    refine r_aload_n (v := .ref (eA E 9 0)) dX9_as_10 rfl (rl_ref _) ?_
    refine r_get (v := .int (V21 1018 0 0)) dX9_as_11 fl_RX9_194 (hE.1 9 (by decide)) rfl ?_
    refine r_cSi (As := [.int x2, .int (0 : Int32), .int (V21 1018 0 0)]) (rest := []) dX9_as_14 ms_X9_in ml_RX9_125 ⟨Nat.le_of_ble_eq_true rfl, Nat.le_of_ble_eq_true rfl⟩ ⟨rfl, rfl⟩ rfl rfl (Nat.le_of_ble_eq_true rfl) h (fun x24 V23 h => ?_)
    refine r_if_ne 24 dX9_as_17 (by decide) (fun q => ?_) (fun q => ?_)
    · have h := h.1 q
      refine r_iload_n (x := x2) dX9_as_24 rfl ?_
      refine r_aload_n (v := .ref (eA E 9 0)) dX9_as_25 rfl (rl_ref _) ?_
      refine r_get (v := .int (V23 1018 0 0)) dX9_as_26 fl_RX9_194 (hE.1 9 (by decide)) rfl ?_
      refine r_icmp_ne 41 dX9_as_29 (by decide) (fun q => ?_) (fun q => ?_)
      · have h := h.1 q
        refine r_aload_n (v := .ref (eA E 9 0)) dX9_as_41 rfl (rl_ref _) ?_
        refine r_get (v := .ref (eA E 1023 0)) dX9_as_42 fl_RX9_63 (hE.1 9 (by decide)) rfl ?_
        refine r_sipush (v := (1201 : Int32)) dX9_as_45 (by decide) ?_
        refine r_iload_n (x := x1) dX9_as_48 rfl ?_
        refine r_imul dX9_as_49 ?_
        refine r_iload_n (x := x2) dX9_as_50 rfl ?_
        refine r_iadd dX9_as_51 ?_
        obtain ⟨hb, h⟩ := h
        refine r_iald dX9_as_52 rfl (by decide) (hE.1 9 (by decide)) (ix hE (by decide) rfl hb) ?_
        exact r_iret dX9_as_53 rfl ⟨Nat.le_of_ble_eq_true rfl, Nat.le_of_ble_eq_true rfl⟩ ⟨rfl, _, rfl, h⟩
      · have h := h.2 q
        refine r_aload_n (v := .ref (eA E 9 0)) dX9_as_32 rfl (rl_ref _) ?_
        refine r_get (v := .ref (eA E 1012 0)) dX9_as_33 fl_RX9_40 (hE.1 9 (by decide)) rfl ?_
        refine r_iload_n (x := x1) dX9_as_36 rfl ?_
        obtain ⟨hb, h⟩ := h
        refine r_iald dX9_as_37 rfl (by decide) (hE.1 9 (by decide)) (ix hE (by decide) rfl hb) ?_
        refine r_goto 53 dX9_as_38 (by decide) ?_
        exact r_iret dX9_as_53 rfl ⟨Nat.le_of_ble_eq_true rfl, Nat.le_of_ble_eq_true rfl⟩ ⟨rfl, _, rfl, h⟩
    · have h := h.2 q
      refine r_iconst (v := (-1 : Int32)) dX9_as_20 (by decide) ?_
      refine r_goto 53 dX9_as_21 (by decide) ?_
      exact r_iret dX9_as_53 rfl ⟨Nat.le_of_ble_eq_true rfl, Nat.le_of_ble_eq_true rfl⟩ ⟨rfl, _, rfl, h⟩
abbrev rm_X9_down : Room := { frames := 2, cells := 0, slots := 0, locals := 46 }
def C_X9_down (l : Launch) (G : Gt) (E : Et) (V : Vt) (x1 : Int32) (K : Int32 → Vt → Prop) : Prop := Cl l G yX9_down cX9_down 4 (some .int) rm_X9_down E V [.ref (eA E 9 0), .int x1] (Qi E K)
def A_X9_down_39 (l : Launch) (G : Gt) (E : Et) (V : Vt) (x1 : Int32) (x2 : Int32) (x3 : Int32) (K : Int32 → Vt → Prop) : Prop := Ev l G RX9 cX9_down 4 (some .int) rm_X9_down E 0 0 V 39 [(0, .ref (eA E 9 0)), (1, .int x1), (2, .int x2), (3, .int x3)] [] (Qi E K)
def vc_X9_down (l : Launch) (G : Gt) (E : Et) (V : Vt) (x1 : Int32) (K : Int32 → Vt → Prop) : Prop := (C_X9_isPart l G E V x1 (fun x22 V21 => ((¬ x22 = (0 : Int32) → (vp_in x1 40) ∧ (((V21 1015 0 (x1).toNatClampNeg) = (0 : Int32) → K (-5 : Int32) V21) ∧ (¬ (V21 1015 0 (x1).toNatClampNeg) = (0 : Int32) → (vp_in x1 40) ∧ (((V21 1014 0 (x1).toNatClampNeg) = (0 : Int32) → (C_X9_weigh l G E V21 (fun V23 => A_X9_down_39 l G E V23 x1 (0 : Int32) (1 : Int32) K))) ∧ (¬ (V21 1014 0 (x1).toNatClampNeg) = (0 : Int32) → K (-5 : Int32) V21))))) ∧ (x22 = (0 : Int32) → K (-1 : Int32) V21))))
def vc_X9_down_39 (l : Launch) (G : Gt) (E : Et) (V : Vt) (x1 : Int32) (x2 : Int32) (x3 : Int32) (K : Int32 → Vt → Prop) : Prop := (vp_in x1 40) ∧ (((V 1015 0 (x1).toNatClampNeg) ≤ x3 → (vp_in (((4 : Int32) * x1) + x2) 160) ∧ K (V 1016 0 ((((4 : Int32) * x1) + x2)).toNatClampNeg) V) ∧ (¬ (V 1015 0 (x1).toNatClampNeg) ≤ x3 → (C_X9_goes l G E V x1 x3 (fun x25 V24 => (C_X9_goes l G E V24 x1 x2 (fun x27 V26 => ((x25 ≤ x27 → A_X9_down_39 l G E V26 x1 x2 (x3 + (1 : Int32)) K) ∧ (¬ x25 ≤ x27 → A_X9_down_39 l G E V26 x1 x3 (x3 + (1 : Int32)) K))))))))
theorem ok_X9_down {l : Launch} {G : Gt} {E : Et} {V : Vt} {x1 : Int32} {K : Int32 → Vt → Prop} (hE : Sg E)  (h : vc_X9_down l G E V x1 K) : C_X9_down l G E V x1 K := by
  unfold vc_X9_down at h
  refine Cl.of (by decide +kernel) (Nat.le_of_ble_eq_true rfl) (show Ev l G RX9 cX9_down 4 (some .int) rm_X9_down E 0 0 V 0 [(0, .ref (eA E 9 0)), (1, .int x1)] [] (Qi E K) from ?_)
  refine r_aload_n (v := .ref (eA E 9 0)) dX9_down_0 rfl (rl_ref _) ?_
  refine r_iload_n (x := x1) dX9_down_1 rfl ?_
  refine r_cVi (As := [.int x1]) (rest := []) dX9_down_2 mv_X9_isPart ml_RX9_137 ⟨_, _, rfl⟩ (hE.1 9 (by decide)) ⟨Nat.le_of_ble_eq_true rfl, Nat.le_of_ble_eq_true rfl⟩ ⟨rfl, rfl⟩ rfl rfl (Nat.le_of_ble_eq_true rfl) h (fun x22 V21 h => ?_)
  refine r_if_ne 10 dX9_down_5 (by decide) (fun q => ?_) (fun q => ?_)
  · have h := h.1 q
    refine r_aload_n (v := .ref (eA E 9 0)) dX9_down_10 rfl (rl_ref _) ?_
    refine r_get (v := .ref (eA E 1015 0)) dX9_down_11 fl_RX9_50 (hE.1 9 (by decide)) rfl ?_
    refine r_iload_n (x := x1) dX9_down_14 rfl ?_
    obtain ⟨hb, h⟩ := h
    refine r_iald dX9_down_15 rfl (by decide) (hE.1 9 (by decide)) (ix hE (by decide) rfl hb) ?_
    refine r_if_eq 28 dX9_down_16 (by decide) (fun q => ?_) (fun q => ?_)
    · have h := h.1 q
      refine r_bipush (v := (-5 : Int32)) dX9_down_28 (by decide) ?_
      exact r_iret dX9_down_30 rfl ⟨Nat.le_of_ble_eq_true rfl, Nat.le_of_ble_eq_true rfl⟩ ⟨rfl, _, rfl, h⟩
    · have h := h.2 q
      refine r_aload_n (v := .ref (eA E 9 0)) dX9_down_19 rfl (rl_ref _) ?_
      refine r_get (v := .ref (eA E 1014 0)) dX9_down_20 fl_RX9_46 (hE.1 9 (by decide)) rfl ?_
      refine r_iload_n (x := x1) dX9_down_23 rfl ?_
      obtain ⟨hb, h⟩ := h
      refine r_zald dX9_down_24 rfl (by decide) (hE.1 9 (by decide)) (ix hE (by decide) rfl hb) ?_
      refine r_if_eq 31 dX9_down_25 (by decide) (fun q => ?_) (fun q => ?_)
      · have h := h.1 q
        refine r_aload_n (v := .ref (eA E 9 0)) dX9_down_31 rfl (rl_ref _) ?_
        refine r_cVv (As := []) (rest := []) dX9_down_32 mv_X9_weigh ml_RX9_157 ⟨_, _, rfl⟩ (hE.1 9 (by decide)) ⟨Nat.le_of_ble_eq_true rfl, Nat.le_of_ble_eq_true rfl⟩ ⟨rfl, rfl⟩ rfl rfl (Nat.le_of_ble_eq_true rfl) h (fun V23 h => ?_)
        refine r_iconst (v := (0 : Int32)) dX9_down_35 (by decide) ?_
        refine r_istore_n dX9_down_36 (by decide) ?_
        refine r_iconst (v := (1 : Int32)) dX9_down_37 (by decide) ?_
        refine r_istore_n dX9_down_38 (by decide) ?_
        exact Ev.loc [0, 1, 2, 3] rfl h
      · have h := h.2 q
        refine r_bipush (v := (-5 : Int32)) dX9_down_28 (by decide) ?_
        exact r_iret dX9_down_30 rfl ⟨Nat.le_of_ble_eq_true rfl, Nat.le_of_ble_eq_true rfl⟩ ⟨rfl, _, rfl, h⟩
  · have h := h.2 q
    refine r_iconst (v := (-1 : Int32)) dX9_down_8 (by decide) ?_
    exact r_iret dX9_down_9 rfl ⟨Nat.le_of_ble_eq_true rfl, Nat.le_of_ble_eq_true rfl⟩ ⟨rfl, _, rfl, h⟩
theorem ok_X9_down_39 {l : Launch} {G : Gt} {E : Et} {V : Vt} {x1 : Int32} {x2 : Int32} {x3 : Int32} {K : Int32 → Vt → Prop} (hE : Sg E)  (h : vc_X9_down_39 l G E V x1 x2 x3 K) : A_X9_down_39 l G E V x1 x2 x3 K := by
  unfold vc_X9_down_39 at h
  unfold A_X9_down_39
  refine r_iload_n (x := x3) dX9_down_39 rfl ?_
  refine r_aload_n (v := .ref (eA E 9 0)) dX9_down_40 rfl (rl_ref _) ?_
  refine r_get (v := .ref (eA E 1015 0)) dX9_down_41 fl_RX9_50 (hE.1 9 (by decide)) rfl ?_
  refine r_iload_n (x := x1) dX9_down_44 rfl ?_
  obtain ⟨hb, h⟩ := h
  refine r_iald dX9_down_45 rfl (by decide) (hE.1 9 (by decide)) (ix hE (by decide) rfl hb) ?_
  refine r_icmp_ge 72 dX9_down_46 (by decide) (fun q => ?_) (fun q => ?_)
  · have h := h.1 q
    refine r_aload_n (v := .ref (eA E 9 0)) dX9_down_72 rfl (rl_ref _) ?_
    refine r_get (v := .ref (eA E 1016 0)) dX9_down_73 fl_RX9_53 (hE.1 9 (by decide)) rfl ?_
    refine r_iconst (v := (4 : Int32)) dX9_down_76 (by decide) ?_
    refine r_iload_n (x := x1) dX9_down_77 rfl ?_
    refine r_imul dX9_down_78 ?_
    refine r_iload_n (x := x2) dX9_down_79 rfl ?_
    refine r_iadd dX9_down_80 ?_
    obtain ⟨hb, h⟩ := h
    refine r_iald dX9_down_81 rfl (by decide) (hE.1 9 (by decide)) (ix hE (by decide) rfl hb) ?_
    exact r_iret dX9_down_82 rfl ⟨Nat.le_of_ble_eq_true rfl, Nat.le_of_ble_eq_true rfl⟩ ⟨rfl, _, rfl, h⟩
  · have h := h.2 q
    refine r_aload_n (v := .ref (eA E 9 0)) dX9_down_49 rfl (rl_ref _) ?_
    refine r_iload_n (x := x1) dX9_down_50 rfl ?_
    refine r_iload_n (x := x3) dX9_down_51 rfl ?_
    refine r_cVi (As := [.int x1, .int x3]) (rest := []) dX9_down_52 mv_X9_goes ml_RX9_151 ⟨_, _, rfl⟩ (hE.1 9 (by decide)) ⟨Nat.le_of_ble_eq_true rfl, Nat.le_of_ble_eq_true rfl⟩ ⟨rfl, rfl⟩ rfl rfl (Nat.le_of_ble_eq_true rfl) h (fun x25 V24 h => ?_)
    refine r_aload_n (v := .ref (eA E 9 0)) dX9_down_55 rfl (rl_ref _) ?_
    refine r_iload_n (x := x1) dX9_down_56 rfl ?_
    refine r_iload_n (x := x2) dX9_down_57 rfl ?_
    refine r_cVi (As := [.int x1, .int x2]) (rest := [.int x25]) dX9_down_58 mv_X9_goes ml_RX9_151 ⟨_, _, rfl⟩ (hE.1 9 (by decide)) ⟨Nat.le_of_ble_eq_true rfl, Nat.le_of_ble_eq_true rfl⟩ ⟨rfl, rfl⟩ rfl rfl (Nat.le_of_ble_eq_true rfl) h (fun x27 V26 h => ?_)
    refine r_icmp_le 66 dX9_down_61 (by decide) (fun q => ?_) (fun q => ?_)
    · have h := h.1 q
      refine r_iinc (x := x3) (v := (1 : Int32)) dX9_down_66 rfl (by decide) (by decide) ?_
      refine r_goto 39 dX9_down_69 (by decide) ?_
      exact Ev.loc [0, 1, 2, 3] rfl h
    · have h := h.2 q
      refine r_iload_n (x := x3) dX9_down_64 rfl ?_
      refine r_istore_n dX9_down_65 (by decide) ?_
      refine r_iinc (x := x3) (v := (1 : Int32)) dX9_down_66 rfl (by decide) (by decide) ?_
      refine r_goto 39 dX9_down_69 (by decide) ?_
      exact Ev.loc [0, 1, 2, 3] rfl h
abbrev rm_X9_needs : Room := { frames := 2, cells := 0, slots := 0, locals := 43 }
def C_X9_needs (l : Launch) (G : Gt) (E : Et) (V : Vt) (x1 : Int32) (K : Int32 → Vt → Prop) : Prop := Cl l G yX9_needs cX9_needs 5 (some .int) rm_X9_needs E V [.ref (eA E 9 0), .int x1] (Qi E K)
def A_X9_needs_12 (l : Launch) (G : Gt) (E : Et) (V : Vt) (x1 : Int32) (x2 : Int32) (K : Int32 → Vt → Prop) : Prop := Ev l G RX9 cX9_needs 5 (some .int) rm_X9_needs E 0 0 V 12 [(0, .ref (eA E 9 0)), (1, .int x1), (2, .int x2)] [] (Qi E K)
def A_X9_needs_46 (l : Launch) (G : Gt) (E : Et) (V : Vt) (x2 : Int32) (x3 : Int32) (K : Int32 → Vt → Prop) : Prop := Ev l G RX9 cX9_needs 5 (some .int) rm_X9_needs E 0 0 V 46 [(0, .ref (eA E 9 0)), (2, .int x2), (3, .int x3)] [] (Qi E K)
def A_X9_needs_81 (l : Launch) (G : Gt) (E : Et) (V : Vt) (x2 : Int32) (x3 : Int32) (x4 : Int32) (K : Int32 → Vt → Prop) : Prop := Ev l G RX9 cX9_needs 5 (some .int) rm_X9_needs E 0 0 V 81 [(0, .ref (eA E 9 0)), (2, .int x2), (3, .int x3), (4, .int x4)] [] (Qi E K)
def vc_X9_needs (l : Launch) (G : Gt) (E : Et) (V : Vt) (x1 : Int32) (K : Int32 → Vt → Prop) : Prop := (C_X9_isPart l G E V x1 (fun x22 V21 => ((¬ x22 = (0 : Int32) → A_X9_needs_12 l G E V21 x1 (0 : Int32) K) ∧ (x22 = (0 : Int32) → K (-1 : Int32) V21))))
def vc_X9_needs_12 (l : Launch) (G : Gt) (E : Et) (V : Vt) (x1 : Int32) (x2 : Int32) (K : Int32 → Vt → Prop) : Prop := (((V 1001 0 0) ≤ x2 → A_X9_needs_46 l G E V (0 : Int32) x1 K) ∧ (¬ (V 1001 0 0) ≤ x2 → ((¬ x2 = x1 → (vp_in x2 40) ∧ A_X9_needs_12 l G E (up3 V 1046 0 (x2).toNatClampNeg (vp_nar .boolean (0 : Int32))) x1 (x2 + (1 : Int32)) K) ∧ (x2 = x1 → (vp_in x2 40) ∧ A_X9_needs_12 l G E (up3 V 1046 0 (x2).toNatClampNeg (vp_nar .boolean (1 : Int32))) x1 (x2 + (1 : Int32)) K))))
def vc_X9_needs_46 (l : Launch) (G : Gt) (E : Et) (V : Vt) (x2 : Int32) (x3 : Int32) (K : Int32 → Vt → Prop) : Prop := ((x3 < (0 : Int32) → K x2 V) ∧ (¬ x3 < (0 : Int32) → (vp_in x3 40) ∧ ((¬ (V 1046 0 (x3).toNatClampNeg) = (0 : Int32) → (vp_in x3 40) ∧ (vp_in x3 40) ∧ A_X9_needs_81 l G E V (x2 + ((V 1003 0 (x3).toNatClampNeg) - (V 1012 0 (x3).toNatClampNeg))) x3 (0 : Int32) K) ∧ ((V 1046 0 (x3).toNatClampNeg) = (0 : Int32) → A_X9_needs_46 l G E V x2 (x3 + (-1 : Int32)) K))))
def vc_X9_needs_81 (l : Launch) (G : Gt) (E : Et) (V : Vt) (x2 : Int32) (x3 : Int32) (x4 : Int32) (K : Int32 → Vt → Prop) : Prop := (vp_in x3 40) ∧ (((V 1015 0 (x3).toNatClampNeg) ≤ x4 → A_X9_needs_46 l G E V x2 (x3 + (-1 : Int32)) K) ∧ (¬ (V 1015 0 (x3).toNatClampNeg) ≤ x4 → (vp_in (((4 : Int32) * x3) + x4) 160) ∧ (vp_in (V 1016 0 ((((4 : Int32) * x3) + x4)).toNatClampNeg) 40) ∧ A_X9_needs_81 l G E (up3 V 1046 0 ((V 1016 0 ((((4 : Int32) * x3) + x4)).toNatClampNeg)).toNatClampNeg (vp_nar .boolean (1 : Int32))) x2 x3 (x4 + (1 : Int32)) K))
theorem ok_X9_needs {l : Launch} {G : Gt} {E : Et} {V : Vt} {x1 : Int32} {K : Int32 → Vt → Prop} (hE : Sg E)  (h : vc_X9_needs l G E V x1 K) : C_X9_needs l G E V x1 K := by
  unfold vc_X9_needs at h
  refine Cl.of (by decide +kernel) (Nat.le_of_ble_eq_true rfl) (show Ev l G RX9 cX9_needs 5 (some .int) rm_X9_needs E 0 0 V 0 [(0, .ref (eA E 9 0)), (1, .int x1)] [] (Qi E K) from ?_)
  refine r_aload_n (v := .ref (eA E 9 0)) dX9_needs_0 rfl (rl_ref _) ?_
  refine r_iload_n (x := x1) dX9_needs_1 rfl ?_
  refine r_cVi (As := [.int x1]) (rest := []) dX9_needs_2 mv_X9_isPart ml_RX9_137 ⟨_, _, rfl⟩ (hE.1 9 (by decide)) ⟨Nat.le_of_ble_eq_true rfl, Nat.le_of_ble_eq_true rfl⟩ ⟨rfl, rfl⟩ rfl rfl (Nat.le_of_ble_eq_true rfl) h (fun x22 V21 h => ?_)
  refine r_if_ne 10 dX9_needs_5 (by decide) (fun q => ?_) (fun q => ?_)
  · have h := h.1 q
    refine r_iconst (v := (0 : Int32)) dX9_needs_10 (by decide) ?_
    refine r_istore_n dX9_needs_11 (by decide) ?_
    exact Ev.loc [0, 1, 2] rfl h
  · have h := h.2 q
    refine r_iconst (v := (-1 : Int32)) dX9_needs_8 (by decide) ?_
    exact r_iret dX9_needs_9 rfl ⟨Nat.le_of_ble_eq_true rfl, Nat.le_of_ble_eq_true rfl⟩ ⟨rfl, _, rfl, h⟩
theorem ok_X9_needs_12 {l : Launch} {G : Gt} {E : Et} {V : Vt} {x1 : Int32} {x2 : Int32} {K : Int32 → Vt → Prop} (hE : Sg E)  (h : vc_X9_needs_12 l G E V x1 x2 K) : A_X9_needs_12 l G E V x1 x2 K := by
  unfold vc_X9_needs_12 at h
  unfold A_X9_needs_12
  refine r_iload_n (x := x2) dX9_needs_12 rfl ?_
  refine r_aload_n (v := .ref (eA E 9 0)) dX9_needs_13 rfl (rl_ref _) ?_
  refine r_get (v := .int (V 1001 0 0)) dX9_needs_14 fl_RX9_122 (hE.1 9 (by decide)) rfl ?_
  refine r_icmp_ge 42 dX9_needs_17 (by decide) (fun q => ?_) (fun q => ?_)
  · have h := h.1 q
    refine r_iconst (v := (0 : Int32)) dX9_needs_42 (by decide) ?_
    refine r_istore_n dX9_needs_43 (by decide) ?_
    refine r_iload_n (x := x1) dX9_needs_44 rfl ?_
    refine r_istore_n dX9_needs_45 (by decide) ?_
    exact Ev.loc [0, 2, 3] rfl h
  · have h := h.2 q
    refine r_aload_n (v := .ref (eA E 9 0)) dX9_needs_20 rfl (rl_ref _) ?_
    refine r_get (v := .ref (eA E 1046 0)) dX9_needs_21 fl_RX9_115 (hE.1 9 (by decide)) rfl ?_
    refine r_iload_n (x := x2) dX9_needs_24 rfl ?_
    refine r_iload_n (x := x2) dX9_needs_25 rfl ?_
    refine r_iload_n (x := x1) dX9_needs_26 rfl ?_
    refine r_icmp_ne 34 dX9_needs_27 (by decide) (fun q => ?_) (fun q => ?_)
    · have h := h.1 q
      refine r_iconst (v := (0 : Int32)) dX9_needs_34 (by decide) ?_
      obtain ⟨hb, h⟩ := h
      refine r_zast dX9_needs_35 rfl (by decide) (hE.1 9 (by decide)) (ix hE (by decide) rfl hb) ?_
      refine r_iinc (x := x2) (v := (1 : Int32)) dX9_needs_36 rfl (by decide) (by decide) ?_
      refine r_goto 12 dX9_needs_39 (by decide) ?_
      exact Ev.loc [0, 1, 2] rfl h
    · have h := h.2 q
      refine r_iconst (v := (1 : Int32)) dX9_needs_30 (by decide) ?_
      refine r_goto 35 dX9_needs_31 (by decide) ?_
      obtain ⟨hb, h⟩ := h
      refine r_zast dX9_needs_35 rfl (by decide) (hE.1 9 (by decide)) (ix hE (by decide) rfl hb) ?_
      refine r_iinc (x := x2) (v := (1 : Int32)) dX9_needs_36 rfl (by decide) (by decide) ?_
      refine r_goto 12 dX9_needs_39 (by decide) ?_
      exact Ev.loc [0, 1, 2] rfl h
theorem ok_X9_needs_46 {l : Launch} {G : Gt} {E : Et} {V : Vt} {x2 : Int32} {x3 : Int32} {K : Int32 → Vt → Prop} (hE : Sg E)  (h : vc_X9_needs_46 l G E V x2 x3 K) : A_X9_needs_46 l G E V x2 x3 K := by
  unfold vc_X9_needs_46 at h
  unfold A_X9_needs_46
  refine r_iload_n (x := x3) dX9_needs_46 rfl ?_
  refine r_if_lt 121 dX9_needs_47 (by decide) (fun q => ?_) (fun q => ?_)
  · have h := h.1 q
    refine r_iload_n (x := x2) dX9_needs_121 rfl ?_
    exact r_iret dX9_needs_122 rfl ⟨Nat.le_of_ble_eq_true rfl, Nat.le_of_ble_eq_true rfl⟩ ⟨rfl, _, rfl, h⟩
  · have h := h.2 q
    refine r_aload_n (v := .ref (eA E 9 0)) dX9_needs_50 rfl (rl_ref _) ?_
    refine r_get (v := .ref (eA E 1046 0)) dX9_needs_51 fl_RX9_115 (hE.1 9 (by decide)) rfl ?_
    refine r_iload_n (x := x3) dX9_needs_54 rfl ?_
    obtain ⟨hb, h⟩ := h
    refine r_zald dX9_needs_55 rfl (by decide) (hE.1 9 (by decide)) (ix hE (by decide) rfl hb) ?_
    refine r_if_ne 62 dX9_needs_56 (by decide) (fun q => ?_) (fun q => ?_)
    · have h := h.1 q
      refine r_iload_n (x := x2) dX9_needs_62 rfl ?_
      refine r_aload_n (v := .ref (eA E 9 0)) dX9_needs_63 rfl (rl_ref _) ?_
      refine r_get (v := .ref (eA E 1003 0)) dX9_needs_64 fl_RX9_13 (hE.1 9 (by decide)) rfl ?_
      refine r_iload_n (x := x3) dX9_needs_67 rfl ?_
      obtain ⟨hb, h⟩ := h
      refine r_iald dX9_needs_68 rfl (by decide) (hE.1 9 (by decide)) (ix hE (by decide) rfl hb) ?_
      refine r_aload_n (v := .ref (eA E 9 0)) dX9_needs_69 rfl (rl_ref _) ?_
      refine r_get (v := .ref (eA E 1012 0)) dX9_needs_70 fl_RX9_40 (hE.1 9 (by decide)) rfl ?_
      refine r_iload_n (x := x3) dX9_needs_73 rfl ?_
      obtain ⟨hb, h⟩ := h
      refine r_iald dX9_needs_74 rfl (by decide) (hE.1 9 (by decide)) (ix hE (by decide) rfl hb) ?_
      refine r_isub dX9_needs_75 ?_
      refine r_iadd dX9_needs_76 ?_
      refine r_istore_n dX9_needs_77 (by decide) ?_
      refine r_iconst (v := (0 : Int32)) dX9_needs_78 (by decide) ?_
      refine r_istore dX9_needs_79 (by decide) ?_
      exact Ev.loc [0, 1, 2, 3] rfl h
    · have h := h.2 q
      refine r_goto 115 dX9_needs_59 (by decide) ?_
      refine r_iinc (x := x3) (v := (-1 : Int32)) dX9_needs_115 rfl (by decide) (by decide) ?_
      refine r_goto 46 dX9_needs_118 (by decide) ?_
      exact Ev.loc [0, 1, 2] rfl h
theorem ok_X9_needs_81 {l : Launch} {G : Gt} {E : Et} {V : Vt} {x2 : Int32} {x3 : Int32} {x4 : Int32} {K : Int32 → Vt → Prop} (hE : Sg E)  (h : vc_X9_needs_81 l G E V x2 x3 x4 K) : A_X9_needs_81 l G E V x2 x3 x4 K := by
  unfold vc_X9_needs_81 at h
  unfold A_X9_needs_81
  refine r_iload (x := x4) dX9_needs_81 rfl ?_
  refine r_aload_n (v := .ref (eA E 9 0)) dX9_needs_83 rfl (rl_ref _) ?_
  refine r_get (v := .ref (eA E 1015 0)) dX9_needs_84 fl_RX9_50 (hE.1 9 (by decide)) rfl ?_
  refine r_iload_n (x := x3) dX9_needs_87 rfl ?_
  obtain ⟨hb, h⟩ := h
  refine r_iald dX9_needs_88 rfl (by decide) (hE.1 9 (by decide)) (ix hE (by decide) rfl hb) ?_
  refine r_icmp_ge 115 dX9_needs_89 (by decide) (fun q => ?_) (fun q => ?_)
  · have h := h.1 q
    refine r_iinc (x := x3) (v := (-1 : Int32)) dX9_needs_115 rfl (by decide) (by decide) ?_
    refine r_goto 46 dX9_needs_118 (by decide) ?_
    exact Ev.loc [0, 1, 2] rfl h
  · have h := h.2 q
    refine r_aload_n (v := .ref (eA E 9 0)) dX9_needs_92 rfl (rl_ref _) ?_
    refine r_get (v := .ref (eA E 1046 0)) dX9_needs_93 fl_RX9_115 (hE.1 9 (by decide)) rfl ?_
    refine r_aload_n (v := .ref (eA E 9 0)) dX9_needs_96 rfl (rl_ref _) ?_
    refine r_get (v := .ref (eA E 1016 0)) dX9_needs_97 fl_RX9_53 (hE.1 9 (by decide)) rfl ?_
    refine r_iconst (v := (4 : Int32)) dX9_needs_100 (by decide) ?_
    refine r_iload_n (x := x3) dX9_needs_101 rfl ?_
    refine r_imul dX9_needs_102 ?_
    refine r_iload (x := x4) dX9_needs_103 rfl ?_
    refine r_iadd dX9_needs_105 ?_
    obtain ⟨hb, h⟩ := h
    refine r_iald dX9_needs_106 rfl (by decide) (hE.1 9 (by decide)) (ix hE (by decide) rfl hb) ?_
    refine r_iconst (v := (1 : Int32)) dX9_needs_107 (by decide) ?_
    obtain ⟨hb, h⟩ := h
    refine r_zast dX9_needs_108 rfl (by decide) (hE.1 9 (by decide)) (ix hE (by decide) rfl hb) ?_
    refine r_iinc (x := x4) (v := (1 : Int32)) dX9_needs_109 rfl (by decide) (by decide) ?_
    refine r_goto 81 dX9_needs_112 (by decide) ?_
    exact Ev.loc [0, 1, 2, 3] rfl h
abbrev rm_X9_count : Room := { frames := 0, cells := 0, slots := 0, locals := 0 }
def C_X9_count (l : Launch) (G : Gt) (E : Et) (V : Vt) (x1 : Int32) (K : Int32 → Vt → Prop) : Prop := Cl l G yX9_count cX9_count 4 (some .int) rm_X9_count E V [.ref (eA E 9 0), .int x1] (Qi E K)
def A_X9_count_83 (l : Launch) (G : Gt) (E : Et) (V : Vt) (x2 : Int32) (x3 : Int32) (K : Int32 → Vt → Prop) : Prop := Ev l G RX9 cX9_count 4 (some .int) rm_X9_count E 0 0 V 83 [(0, .ref (eA E 9 0)), (2, .int x2), (3, .int x3)] [] (Qi E K)
def A_X9_count_110 (l : Launch) (G : Gt) (E : Et) (V : Vt) (x2 : Int32) (x3 : Int32) (K : Int32 → Vt → Prop) : Prop := Ev l G RX9 cX9_count 4 (some .int) rm_X9_count E 0 0 V 110 [(0, .ref (eA E 9 0)), (2, .int x2), (3, .int x3)] [] (Qi E K)
def vc_X9_count (l : Launch) (G : Gt) (E : Et) (V : Vt) (x1 : Int32) (K : Int32 → Vt → Prop) : Prop := ((x1 = (0 : Int32) → K (V 1001 0 0) V) ∧ (x1 = (1 : Int32) → K (V 1038 0 0) V) ∧ (x1 = (2 : Int32) → K (V 1018 0 0) V) ∧ (x1 = (3 : Int32) → K (V 1024 0 0) V) ∧ (x1 = (4 : Int32) → K (V 1019 0 0) V) ∧ (x1 = (5 : Int32) → A_X9_count_83 l G E V (0 : Int32) (0 : Int32) K) ∧ (x1 = (6 : Int32) → A_X9_count_110 l G E V (0 : Int32) (0 : Int32) K) ∧ (x1 = (7 : Int32) → K (V 1020 0 0) V) ∧ (x1 = (8 : Int32) → K (V 1042 0 0) V) ∧ (x1 = (9 : Int32) → K (V 1031 0 0) V) ∧ (¬ x1 = (0 : Int32) ∧ ¬ x1 = (1 : Int32) ∧ ¬ x1 = (2 : Int32) ∧ ¬ x1 = (3 : Int32) ∧ ¬ x1 = (4 : Int32) ∧ ¬ x1 = (5 : Int32) ∧ ¬ x1 = (6 : Int32) ∧ ¬ x1 = (7 : Int32) ∧ ¬ x1 = (8 : Int32) ∧ ¬ x1 = (9 : Int32) → K (-1 : Int32) V))
def vc_X9_count_83 (l : Launch) (G : Gt) (E : Et) (V : Vt) (x2 : Int32) (x3 : Int32) (K : Int32 → Vt → Prop) : Prop := (((V 1001 0 0) ≤ x3 → K x2 V) ∧ (¬ (V 1001 0 0) ≤ x3 → (vp_in x3 40) ∧ A_X9_count_83 l G E V (x2 + (V 1012 0 (x3).toNatClampNeg)) (x3 + (1 : Int32)) K))
def vc_X9_count_110 (l : Launch) (G : Gt) (E : Et) (V : Vt) (x2 : Int32) (x3 : Int32) (K : Int32 → Vt → Prop) : Prop := (((V 1038 0 0) ≤ x3 → K x2 V) ∧ (¬ (V 1038 0 0) ≤ x3 → (vp_in x3 30) ∧ A_X9_count_110 l G E V (x2 + (V 1040 0 (x3).toNatClampNeg)) (x3 + (1 : Int32)) K))
theorem ok_X9_count {l : Launch} {G : Gt} {E : Et} {V : Vt} {x1 : Int32} {K : Int32 → Vt → Prop} (hE : Sg E)  (h : vc_X9_count l G E V x1 K) : C_X9_count l G E V x1 K := by
  unfold vc_X9_count at h
  refine Cl.of (by decide +kernel) (Nat.le_of_ble_eq_true rfl) (show Ev l G RX9 cX9_count 4 (some .int) rm_X9_count E 0 0 V 0 [(0, .ref (eA E 9 0)), (1, .int x1)] [] (Qi E K) from ?_)
  refine r_iconst (v := (0 : Int32)) dX9_count_0 (by decide) ?_
  refine r_istore_n dX9_count_1 (by decide) ?_
  refine r_iload_n (x := x1) dX9_count_2 rfl ?_
  by_cases q0 : x1 = (0 : Int32)
  · have h := h.1 q0
    refine r_tIn (xv := (0 : Int32)) 56 dX9_count_3 q0 (by decide) (by decide) rfl (by decide) ?_
    refine r_aload_n (v := .ref (eA E 9 0)) dX9_count_56 rfl (rl_ref _) ?_
    refine r_get (v := .int (V 1001 0 0)) dX9_count_57 fl_RX9_122 (hE.1 9 (by decide)) rfl ?_
    exact r_iret dX9_count_60 rfl ⟨Nat.le_of_ble_eq_true rfl, Nat.le_of_ble_eq_true rfl⟩ ⟨rfl, _, rfl, h⟩
  by_cases q1 : x1 = (1 : Int32)
  · have h := h.2.1 q1
    refine r_tIn (xv := (1 : Int32)) 61 dX9_count_3 q1 (by decide) (by decide) rfl (by decide) ?_
    refine r_aload_n (v := .ref (eA E 9 0)) dX9_count_61 rfl (rl_ref _) ?_
    refine r_get (v := .int (V 1038 0 0)) dX9_count_62 fl_RX9_210 (hE.1 9 (by decide)) rfl ?_
    exact r_iret dX9_count_65 rfl ⟨Nat.le_of_ble_eq_true rfl, Nat.le_of_ble_eq_true rfl⟩ ⟨rfl, _, rfl, h⟩
  by_cases q2 : x1 = (2 : Int32)
  · have h := h.2.2.1 q2
    refine r_tIn (xv := (2 : Int32)) 66 dX9_count_3 q2 (by decide) (by decide) rfl (by decide) ?_
    refine r_aload_n (v := .ref (eA E 9 0)) dX9_count_66 rfl (rl_ref _) ?_
    refine r_get (v := .int (V 1018 0 0)) dX9_count_67 fl_RX9_194 (hE.1 9 (by decide)) rfl ?_
    exact r_iret dX9_count_70 rfl ⟨Nat.le_of_ble_eq_true rfl, Nat.le_of_ble_eq_true rfl⟩ ⟨rfl, _, rfl, h⟩
  by_cases q3 : x1 = (3 : Int32)
  · have h := h.2.2.2.1 q3
    refine r_tIn (xv := (3 : Int32)) 71 dX9_count_3 q3 (by decide) (by decide) rfl (by decide) ?_
    refine r_aload_n (v := .ref (eA E 9 0)) dX9_count_71 rfl (rl_ref _) ?_
    refine r_get (v := .int (V 1024 0 0)) dX9_count_72 fl_RX9_145 (hE.1 9 (by decide)) rfl ?_
    exact r_iret dX9_count_75 rfl ⟨Nat.le_of_ble_eq_true rfl, Nat.le_of_ble_eq_true rfl⟩ ⟨rfl, _, rfl, h⟩
  by_cases q4 : x1 = (4 : Int32)
  · have h := h.2.2.2.2.1 q4
    refine r_tIn (xv := (4 : Int32)) 76 dX9_count_3 q4 (by decide) (by decide) rfl (by decide) ?_
    refine r_aload_n (v := .ref (eA E 9 0)) dX9_count_76 rfl (rl_ref _) ?_
    refine r_get (v := .int (V 1019 0 0)) dX9_count_77 fl_RX9_200 (hE.1 9 (by decide)) rfl ?_
    exact r_iret dX9_count_80 rfl ⟨Nat.le_of_ble_eq_true rfl, Nat.le_of_ble_eq_true rfl⟩ ⟨rfl, _, rfl, h⟩
  by_cases q5 : x1 = (5 : Int32)
  · have h := h.2.2.2.2.2.1 q5
    refine r_tIn (xv := (5 : Int32)) 81 dX9_count_3 q5 (by decide) (by decide) rfl (by decide) ?_
    refine r_iconst (v := (0 : Int32)) dX9_count_81 (by decide) ?_
    refine r_istore_n dX9_count_82 (by decide) ?_
    exact Ev.loc [0, 2, 3] rfl h
  by_cases q6 : x1 = (6 : Int32)
  · have h := h.2.2.2.2.2.2.1 q6
    refine r_tIn (xv := (6 : Int32)) 108 dX9_count_3 q6 (by decide) (by decide) rfl (by decide) ?_
    refine r_iconst (v := (0 : Int32)) dX9_count_108 (by decide) ?_
    refine r_istore_n dX9_count_109 (by decide) ?_
    exact Ev.loc [0, 2, 3] rfl h
  by_cases q7 : x1 = (7 : Int32)
  · have h := h.2.2.2.2.2.2.2.1 q7
    refine r_tIn (xv := (7 : Int32)) 135 dX9_count_3 q7 (by decide) (by decide) rfl (by decide) ?_
    refine r_aload_n (v := .ref (eA E 9 0)) dX9_count_135 rfl (rl_ref _) ?_
    refine r_get (v := .int (V 1020 0 0)) dX9_count_136 fl_RX9_241 (hE.1 9 (by decide)) rfl ?_
    exact r_iret dX9_count_139 rfl ⟨Nat.le_of_ble_eq_true rfl, Nat.le_of_ble_eq_true rfl⟩ ⟨rfl, _, rfl, h⟩
  by_cases q8 : x1 = (8 : Int32)
  · have h := h.2.2.2.2.2.2.2.2.1 q8
    refine r_tIn (xv := (8 : Int32)) 140 dX9_count_3 q8 (by decide) (by decide) rfl (by decide) ?_
    refine r_aload_n (v := .ref (eA E 9 0)) dX9_count_140 rfl (rl_ref _) ?_
    refine r_get (v := .int (V 1042 0 0)) dX9_count_141 fl_RX9_219 (hE.1 9 (by decide)) rfl ?_
    exact r_iret dX9_count_144 rfl ⟨Nat.le_of_ble_eq_true rfl, Nat.le_of_ble_eq_true rfl⟩ ⟨rfl, _, rfl, h⟩
  by_cases q9 : x1 = (9 : Int32)
  · have h := h.2.2.2.2.2.2.2.2.2.1 q9
    refine r_tIn (xv := (9 : Int32)) 145 dX9_count_3 q9 (by decide) (by decide) rfl (by decide) ?_
    refine r_aload_n (v := .ref (eA E 9 0)) dX9_count_145 rfl (rl_ref _) ?_
    refine r_get (v := .int (V 1031 0 0)) dX9_count_146 fl_RX9_169 (hE.1 9 (by decide)) rfl ?_
    exact r_iret dX9_count_149 rfl ⟨Nat.le_of_ble_eq_true rfl, Nat.le_of_ble_eq_true rfl⟩ ⟨rfl, _, rfl, h⟩
  · have h := h.2.2.2.2.2.2.2.2.2.2 ⟨q0, q1, q2, q3, q4, q5, q6, q7, q8, q9⟩
    refine r_tOut 150 dX9_count_3 (by have a0 := lv_neT q0 (a := 0) rfl; have a1 := lv_neT q1 (a := 1) rfl; have a2 := lv_neT q2 (a := 2) rfl; have a3 := lv_neT q3 (a := 3) rfl; have a4 := lv_neT q4 (a := 4) rfl; have a5 := lv_neT q5 (a := 5) rfl; have a6 := lv_neT q6 (a := 6) rfl; have a7 := lv_neT q7 (a := 7) rfl; have a8 := lv_neT q8 (a := 8) rfl; have a9 := lv_neT q9 (a := 9) rfl; omega) (by decide) ?_
    refine r_iconst (v := (-1 : Int32)) dX9_count_150 (by decide) ?_
    exact r_iret dX9_count_151 rfl ⟨Nat.le_of_ble_eq_true rfl, Nat.le_of_ble_eq_true rfl⟩ ⟨rfl, _, rfl, h⟩
theorem ok_X9_count_83 {l : Launch} {G : Gt} {E : Et} {V : Vt} {x2 : Int32} {x3 : Int32} {K : Int32 → Vt → Prop} (hE : Sg E)  (h : vc_X9_count_83 l G E V x2 x3 K) : A_X9_count_83 l G E V x2 x3 K := by
  unfold vc_X9_count_83 at h
  unfold A_X9_count_83
  refine r_iload_n (x := x3) dX9_count_83 rfl ?_
  refine r_aload_n (v := .ref (eA E 9 0)) dX9_count_84 rfl (rl_ref _) ?_
  refine r_get (v := .int (V 1001 0 0)) dX9_count_85 fl_RX9_122 (hE.1 9 (by decide)) rfl ?_
  refine r_icmp_ge 106 dX9_count_88 (by decide) (fun q => ?_) (fun q => ?_)
  · have h := h.1 q
    refine r_iload_n (x := x2) dX9_count_106 rfl ?_
    exact r_iret dX9_count_107 rfl ⟨Nat.le_of_ble_eq_true rfl, Nat.le_of_ble_eq_true rfl⟩ ⟨rfl, _, rfl, h⟩
  · have h := h.2 q
    refine r_iload_n (x := x2) dX9_count_91 rfl ?_
    refine r_aload_n (v := .ref (eA E 9 0)) dX9_count_92 rfl (rl_ref _) ?_
    refine r_get (v := .ref (eA E 1012 0)) dX9_count_93 fl_RX9_40 (hE.1 9 (by decide)) rfl ?_
    refine r_iload_n (x := x3) dX9_count_96 rfl ?_
    obtain ⟨hb, h⟩ := h
    refine r_iald dX9_count_97 rfl (by decide) (hE.1 9 (by decide)) (ix hE (by decide) rfl hb) ?_
    refine r_iadd dX9_count_98 ?_
    refine r_istore_n dX9_count_99 (by decide) ?_
    refine r_iinc (x := x3) (v := (1 : Int32)) dX9_count_100 rfl (by decide) (by decide) ?_
    refine r_goto 83 dX9_count_103 (by decide) ?_
    exact Ev.loc [0, 1, 2] rfl h
theorem ok_X9_count_110 {l : Launch} {G : Gt} {E : Et} {V : Vt} {x2 : Int32} {x3 : Int32} {K : Int32 → Vt → Prop} (hE : Sg E)  (h : vc_X9_count_110 l G E V x2 x3 K) : A_X9_count_110 l G E V x2 x3 K := by
  unfold vc_X9_count_110 at h
  unfold A_X9_count_110
  refine r_iload_n (x := x3) dX9_count_110 rfl ?_
  refine r_aload_n (v := .ref (eA E 9 0)) dX9_count_111 rfl (rl_ref _) ?_
  refine r_get (v := .int (V 1038 0 0)) dX9_count_112 fl_RX9_210 (hE.1 9 (by decide)) rfl ?_
  refine r_icmp_ge 133 dX9_count_115 (by decide) (fun q => ?_) (fun q => ?_)
  · have h := h.1 q
    refine r_iload_n (x := x2) dX9_count_133 rfl ?_
    exact r_iret dX9_count_134 rfl ⟨Nat.le_of_ble_eq_true rfl, Nat.le_of_ble_eq_true rfl⟩ ⟨rfl, _, rfl, h⟩
  · have h := h.2 q
    refine r_iload_n (x := x2) dX9_count_118 rfl ?_
    refine r_aload_n (v := .ref (eA E 9 0)) dX9_count_119 rfl (rl_ref _) ?_
    refine r_get (v := .ref (eA E 1040 0)) dX9_count_120 fl_RX9_100 (hE.1 9 (by decide)) rfl ?_
    refine r_iload_n (x := x3) dX9_count_123 rfl ?_
    obtain ⟨hb, h⟩ := h
    refine r_iald dX9_count_124 rfl (by decide) (hE.1 9 (by decide)) (ix hE (by decide) rfl hb) ?_
    refine r_iadd dX9_count_125 ?_
    refine r_istore_n dX9_count_126 (by decide) ?_
    refine r_iinc (x := x3) (v := (1 : Int32)) dX9_count_127 rfl (by decide) (by decide) ?_
    refine r_goto 110 dX9_count_130 (by decide) ?_
    exact Ev.loc [0, 1, 2] rfl h

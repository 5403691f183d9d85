/-! a new part: the coupling grows -/
theorem rsum_0 (sh : Nat → Int32) : ∀ m, rsum 0 sh m = 0
  | 0 => rfl
  | m + 1 => by
    unfold rsum
    rw [rsum_0 sh m, Int32.zero_mul]
    rfl
theorem por_0 (sh : Nat → Int32) (s i : Nat) : por 0 sh s i = 0 := by
  unfold por
  split
  · exact rsum_0 sh _
  · rw [Int32.zero_mul]
    rfl
theorem passd_0 {sh : Nat → Int32} {on : Nat → Nat} {s : Nat} {L : Nat → Int32} : ∀ i q, passd 0 sh on s L i q = L q
  | 0, q => rfl
  | i + 1, q => by
    show upd (passd 0 sh on s L i) (on i) (passd 0 sh on s L i (on i) + por 0 sh s i) q = L q
    rw [por_0, Int32.add_zero]
    by_cases e : q = on i
    · rw [e, pk_us]
      exact passd_0 i _
    · rw [pk_un e]
      exact passd_0 i q
theorem wg_new {pv : Int32 → Int32 → Int32} {lw lw' : Nat → Int32} {ce ce' ar ar' : Nat → Bool} {sc sc' : Nat → Nat} {on on' : Nat → Nat → Nat} {sh sh' : Nat → Nat → Int32} {th th' : Nat → Int32} {n : Nat}
    (h1 : ∀ p, p < n → lw' p = lw p ∧ ce' p = ce p ∧ ar' p = ar p ∧ th' p = th p ∧ sc' p = sc p ∧ on' p = on p ∧ sh' p = sh p) (ho : ∀ p, p < n → (∀ i, i < sc p → on p i < p) ∧ (ar p = true → 2 ≤ sc p)) (h2 : lw' n = 0) (h3 : ar' n = false) :
    ∀ m, m ≤ n → ∀ q, q < n → (wg pv lw' ce' ar' sc' on' sh' th' (n + 1) (m + 1)).1 q = (wg pv lw ce ar sc on sh th n m).1 q ∧ (wg pv lw' ce' ar' sc' on' sh' th' (n + 1) (m + 1)).2 q = (wg pv lw ce ar sc on sh th n m).2 q := by
  intro m
  induction m with
  | zero =>
    intro hm q hq
    have e0 : n + 1 - (0 + 1) = n := by omega
    show (if ce' (n + 1 - (0 + 1)) then (lw', fun _ => 0) else _).1 q = lw q ∧ (if ce' (n + 1 - (0 + 1)) then (lw', fun _ => 0) else _).2 q = (0 : Int32)
    rw [e0]
    by_cases hc : ce' n = true
    · rw [if_pos hc]
      exact ⟨(h1 q hq).1, rfl⟩
    · rw [if_neg hc]
      refine ⟨?_, ?_⟩
      · show passd (lw' n) (sh' n) (on' n) (sc' n) lw' (sc' n) q = lw q
        rw [h2, passd_0]
        exact (h1 q hq).1
      · show (if ar' n = true then _ else fun _ => (0 : Int32)) q = 0
        rw [h3, if_neg (by decide)]
  | succ m ih =>
    intro hm q hq
    have ih := ih (by omega)
    obtain ⟨p, hp⟩ : ∃ p, p = n - (m + 1) := ⟨_, rfl⟩
    have ep : n + 1 - (m + 1 + 1) = p := by omega
    have hpn : p < n := by omega
    obtain ⟨a1, a2, a3, a4, a5, a6, a7⟩ := h1 p hpn
    obtain ⟨o1, o2⟩ := ho p hpn
    obtain ⟨i1, i2⟩ := ih p hpn
    obtain ⟨W', hW'⟩ : ∃ W', W' = wg pv lw' ce' ar' sc' on' sh' th' (n + 1) (m + 1) := ⟨_, rfl⟩
    obtain ⟨W0, hW0⟩ : ∃ W0, W0 = wg pv lw ce ar sc on sh th n m := ⟨_, rfl⟩
    have ihq : ∀ q, q < n → W'.1 q = W0.1 q ∧ W'.2 q = W0.2 q := fun q hq => by rw [hW', hW0]; exact ih q hq
    show (if ce' (n + 1 - (m + 1 + 1)) then wg pv lw' ce' ar' sc' on' sh' th' (n + 1) (m + 1) else _).1 q = (if ce (n - (m + 1)) then wg pv lw ce ar sc on sh th n m else _).1 q ∧ (if ce' (n + 1 - (m + 1 + 1)) then wg pv lw' ce' ar' sc' on' sh' th' (n + 1) (m + 1) else _).2 q = (if ce (n - (m + 1)) then wg pv lw ce ar sc on sh th n m else _).2 q
    rw [ep, ← hp, a2, a3, a4, a5, a6, a7, ← hW', ← hW0]
    by_cases hc : ce p = true
    · rw [if_pos hc, if_pos hc]
      exact ihq q hq
    · rw [if_neg hc, if_neg hc]
      refine ⟨?_, ?_⟩
      · show passd (W'.1 p) (sh p) (on p) (sc p) W'.1 (sc p) q = passd (W0.1 p) (sh p) (on p) (sc p) W0.1 (sc p) q
        rw [(ihq p hpn).1]
        exact passd_eqL (r := n) (fun q hq => (ihq q hq).1) (sc p) (fun k hk => Nat.lt_trans (o1 k hk) hpn) q hq
      · show (if ar p = true then upd (upd W'.2 (on p 0) (W'.2 (on p 0) - pv (W'.1 p) (th p))) (on p 1) (upd W'.2 (on p 0) (W'.2 (on p 0) - pv (W'.1 p) (th p)) (on p 1) + pv (W'.1 p) (th p)) else W'.2) q = (if ar p = true then upd (upd W0.2 (on p 0) (W0.2 (on p 0) - pv (W0.1 p) (th p))) (on p 1) (upd W0.2 (on p 0) (W0.2 (on p 0) - pv (W0.1 p) (th p)) (on p 1) + pv (W0.1 p) (th p)) else W0.2) q
        by_cases ha : ar p = true
        · have h0 : on p 0 < n := Nat.lt_trans (o1 0 (by have := o2 ha; omega)) hpn
          have h1' : on p 1 < n := Nat.lt_trans (o1 1 (by have := o2 ha; omega)) hpn
          rw [if_pos ha, if_pos ha, (ihq p hpn).1, (ihq _ h0).2]
          by_cases e1 : q = on p 1
          · rw [e1, pk_us, pk_us]
            by_cases e0 : on p 1 = on p 0
            · rw [e0, pk_us, pk_us]
            · rw [pk_un e0, pk_un e0, (ihq _ h1').2]
          · rw [pk_un e1, pk_un e1]
            by_cases e0 : q = on p 0
            · rw [e0, pk_us, pk_us]
            · rw [pk_un e0, pk_un e0]
              exact (ihq q hq).2
        · rw [if_neg ha, if_neg ha]
          exact (ihq q hq).2
def newD (D : Nat → Nat → Nat) (n s x w pr : Nat) : Nat → Nat → Nat := fun k p => if p = n then (if k = 0 then s else if k = 1 then x else if k = 2 then w else if k = 3 then pr else if k = 6 then 50 else 0) else D k p
theorem newD_p {D : Nat → Nat → Nat} {n s x w pr k p : Nat} (h : p ≠ n) : newD D n s x w pr k p = D k p := if_neg h
theorem newD_n {D : Nat → Nat → Nat} {n s x w pr k : Nat} : newD D n s x w pr k n = if k = 0 then s else if k = 1 then x else if k = 2 then w else if k = 3 then pr else if k = 6 then 50 else 0 := if_pos rfl
def newO (on : Nat → Nat → Nat) (n : Nat) (f : Nat → Nat) : Nat → Nat → Nat := fun p => if p = n then f else on p
theorem newO_p {on : Nat → Nat → Nat} {n p : Nat} {f : Nat → Nat} (h : p ≠ n) : newO on n f p = on p := if_neg h
theorem newO_n {on : Nat → Nat → Nat} {n : Nat} {f : Nat → Nat} : newO on n f n = f := if_pos rfl
def mrows : List Nat := [1002, 1003, 1004, 1005, 1006, 1007, 1008, 1009, 1010, 1011, 1012, 1013, 1014, 1015]
section New
variable {l : Launch} {G : Gt} {E E' : Et} {V V' : Vt} {n m fr gc tc sc tl ec : Nat} {D on sn ti tx : Nat → Nat → Nat} {yb gl tn tb es : Nat → Nat}
/-- the values of the new part n in both worlds -/
def NP (V' : Vt) (n s x w pr : Nat) (kd : Int32) (f sf : Nat → Nat) : Prop :=
  (V' 300 n 0 = kd ∧ V' 301 n 0 = nI x ∧ V' 302 n 0 = nI w ∧ V' 303 n 0 = nI pr ∧ V' 304 n 0 = 1000000 ∧ V' 304 n 1 = 0 ∧ V' 304 n 2 = nI 50 ∧ V' 304 n 3 = 3 ∧ V' 308 n 0 = nI s ∧ V' 309 n 0 = nI x ∧ V' 310 n 0 = 0 ∧ V' 311 n 0 = 0 ∧ V' 312 n 0 = 0 ∧ V' 313 n 0 = 0) ∧
  (V' 1002 0 n = kd ∧ V' 1003 0 n = nI x ∧ V' 1004 0 n = nI x ∧ V' 1005 0 n = nI w ∧ V' 1006 0 n = nI pr ∧ V' 1007 0 n = 1000000 ∧ V' 1008 0 n = 0 ∧ V' 1009 0 n = nI 50 ∧ V' 1010 0 n = 3 ∧ V' 1011 0 n = 0 ∧ V' 1012 0 n = 0 ∧ V' 1013 0 n = 0 ∧ V' 1014 0 n = 0 ∧ V' 1015 0 n = nI s) ∧
  (∀ i, i < s → V' 305 n i = nI (f i) ∧ V' 306 n i = nI (sf i) ∧ V' 1016 0 (4 * n + i) = nI (f i) ∧ V' 1017 0 (4 * n + i) = nI (sf i))
/-- what stays -/
def NS (V V' : Vt) (n : Nat) : Prop := (∀ f p, 300 ≤ f → f < 314 → p ≠ n → V' f p = V f p) ∧ (∀ f p, f ∈ mrows → p ≠ n → V' f 0 p = V f 0 p) ∧ (∀ f j, f = 1016 ∨ f = 1017 → j < 4 * n → V' f 0 j = V f 0 j) ∧ V' 405 0 0 = nI (n + 1) ∧ V' 1001 0 0 = nI (n + 1)
theorem IP.new {s x w pr : Nat} {kd : Int32} {f sf : Nat → Nat} (h : IP E V n D on sn) (hn : n < 40) (hN : NP V' n s x w pr kd f sf) (hS : NS V V' n) (hx : 1 ≤ x ∧ x ≤ 30) (hw : w ≤ 999) (hpr : pr ≤ 999) (hkd : kd = 0 ∨ kd = 1) (hs : s ≤ 4) (hk2 : kd = 1 → 2 ≤ s) (hf : ∀ i, i < s → f i < n ∧ 1 ≤ sf i ∧ sf i ≤ 12) (hsum : 0 < s → sm sf s = 12)
    (hE : ∀ p, p < n + 1 → eR E' 400 p = some p ∧ eL E' 2 p) : IP E' V' (n + 1) (newD D n s x w pr) (newO on n f) (newO sn n sf) := by
  obtain ⟨h1, h2, h3⟩ := h
  obtain ⟨s1, s2, s3, s4, s5⟩ := hS
  obtain ⟨⟨c0, c1, c2, c3, c40, c41, c42, c43, c8, c9, c10, c11, c12, c13⟩, ⟨d2, d3, d4, d5, d6, d7, d8, d9, d10, d11, d12, d13, d14, d15⟩, d16⟩ := hN
  have D0 : newD D n s x w pr 0 n = s := newD_n
  refine ⟨⟨s4, by omega, fun p hp => ?_⟩, ⟨s5, by omega, fun p hp => ?_⟩, fun p hp => ?_⟩
  · by_cases e : p = n
    · subst e
      rw [D0, newO_n]
      exact ⟨(hE p hp).1, (hE p hp).2, hs, c8, by rw [c0]; exact hk2, fun i hi => ⟨(hf i hi).1, (d16 i hi).1⟩⟩
    · obtain ⟨b1, b2, b3, b4, b5, b6⟩ := h1.2.2 p (by omega)
      rw [newD_p e, newO_p e, s1 308 p (by decide) (by decide) e, s1 300 p (by decide) (by decide) e, s1 305 p (by decide) (by decide) e]
      exact ⟨(hE p hp).1, (hE p hp).2, b3, b4, b5, b6⟩
  · by_cases e : p = n
    · subst e
      rw [D0, newO_n, d15, d2]
      exact ⟨hs, rfl, hkd, hk2, fun i hi => ⟨(hf i hi).1, (d16 i hi).2.2.1⟩⟩
    · obtain ⟨b3, b4, b5, b6, b7⟩ := h2.2.2 p (by omega)
      rw [newD_p e, newO_p e, s2 1015 p (by decide) e, s2 1002 p (by decide) e]
      exact ⟨b3, b4, b5, b6, fun i hi => ⟨(b7 i hi).1, by rw [s3 1016 _ (Or.inl rfl) (by omega)]; exact (b7 i hi).2⟩⟩
  · by_cases e : p = n
    · subst e
      have hc : cenB V' p = false := by
        unfold cenB
        rw [c10]
        simp
      unfold IPp
      rw [newO_n, hc]
      simp only [newD_n, if_pos, if_true]
      rw [c0, c1, c2, c3, c40, c41, c42, c43, c9, c10, c11, c12, c13, d2, d3, d4, d5, d6, d7, d8, d9, d10, d11, d12, d13, d14]
      refine ⟨rfl, ⟨rfl, rfl, hx.1, hx.2⟩, rfl, ⟨rfl, rfl, hw⟩, ⟨rfl, rfl, hpr⟩, ⟨rfl, rfl, rfl, show 0 ≤ 100000 by decide, rfl, rfl, show 50 ≤ 100 by decide, rfl⟩, ⟨rfl, rfl, show 0 ≤ 100000 by decide⟩, ⟨rfl, rfl, Nat.zero_le _⟩, rfl, ⟨Or.inl rfl, rfl⟩, fun i hi => ⟨(d16 i hi).2.1, (d16 i hi).2.2.2, (hf i hi).2⟩, hsum, fun z => absurd (show 0 < 0 from z) (by decide)⟩
    · obtain ⟨a1, a2, a3, a4, a5, a6, a7, a8, a9, a10, a11, a12, a13⟩ := h3 p (by omega)
      have hc : cenB V' p = cenB V p := by
        unfold cenB
        rw [s1 300 p (by decide) (by decide) e, s1 310 p (by decide) (by decide) e, s1 313 p (by decide) (by decide) e]
      have g : ∀ k, newD D n s x w pr k p = D k p := fun k => newD_p e
      have b5 := (h1.2.2 p (by omega)).2.2.2.2.2
      unfold IPp
      rw [newO_p e, newO_p e, hc, g 0, g 1, g 2, g 3, g 4, g 5, g 6, g 7, s1 300 p (by decide) (by decide) e, s1 301 p (by decide) (by decide) e, s1 302 p (by decide) (by decide) e, s1 303 p (by decide) (by decide) e, s1 304 p (by decide) (by decide) e, s1 306 p (by decide) (by decide) e, s1 309 p (by decide) (by decide) e, s1 310 p (by decide) (by decide) e, s1 311 p (by decide) (by decide) e, s1 312 p (by decide) (by decide) e, s1 313 p (by decide) (by decide) e, s2 1002 p (by decide) e, s2 1003 p (by decide) e, s2 1004 p (by decide) e, s2 1005 p (by decide) e, s2 1006 p (by decide) e, s2 1007 p (by decide) e, s2 1008 p (by decide) e, s2 1009 p (by decide) e, s2 1010 p (by decide) e, s2 1011 p (by decide) e, s2 1012 p (by decide) e, s2 1013 p (by decide) e, s2 1014 p (by decide) e]
      refine ⟨a1, a2, a3, a4, a5, a6, a7, a8, a9, a10, fun i hi => ?_, a12, fun z i hi => ?_⟩
      · obtain ⟨z1, z2, z3⟩ := a11 i hi
        have := (h1.2.2 p (by omega)).2.2.1
        exact ⟨z1, by rw [s3 1017 _ (Or.inr rfl) (by omega)]; exact z2, z3⟩
      · rw [newD_p (by have := (b5 i hi).1; omega)]
        exact a13 z i hi
theorem IS.new {s x w pr : Nat} {kd : Int32} {f sf : Nat → Nat} (h : IS V n D on) (hI : IP E V n D on sn) (hn : n < 40) (hN : NP V' n s x w pr kd f sf) (hS : NS V V' n) : IS V' (n + 1) (newD D n s x w pr) (newO on n f) := by
  obtain ⟨s1, s2, s3, s4, s5⟩ := hS
  obtain ⟨⟨c0, c1, c2, c3, c40, c41, c42, c43, c8, c9, c10, c11, c12, c13⟩, -, -⟩ := hN
  have cc : ∀ p, p ≠ n → cenB V' p = cenB V p := fun p e => by
    unfold cenB
    rw [s1 300 p (by decide) (by decide) e, s1 310 p (by decide) (by decide) e, s1 313 p (by decide) (by decide) e]
  have hW := wg_new (pv := pvC) (lw := cLW V) (lw' := cLW V') (ce := cenB V) (ce' := cenB V') (ar := arB V) (ar' := arB V') (sc := D 0) (sc' := newD D n s x w pr 0) (on := on) (on' := newO on n f) (sh := fun p => V 306 p) (sh' := fun p => V' 306 p) (th := fun p => V 304 p 2) (th' := fun p => V' 304 p 2) (n := n) (fun p hp => by
    have e : p ≠ n := by omega
    unfold cLW arB
    rw [s1 310 p (by decide) (by decide) e, s1 302 p (by decide) (by decide) e, s1 300 p (by decide) (by decide) e, s1 304 p (by decide) (by decide) e, s1 306 p (by decide) (by decide) e]
    exact ⟨rfl, cc p e, rfl, rfl, newD_p e, newO_p e, rfl⟩) (fun p hp => ⟨fun i hi => ((hI.1.2.2 p hp).2.2.2.2.2 i hi).1, fun ha => by
    unfold arB at ha
    rw [Bool.and_eq_true, decide_eq_true_eq] at ha
    exact (hI.1.2.2 p hp).2.2.2.2.1 ha.1⟩) (by
    unfold cLW
    rw [c10, Int32.zero_mul]) (by
    unfold arB
    rw [c10]
    simp) n (Nat.le_refl _)
  unfold IS cF at h ⊢
  rw [fal_iff (by omega) n (Nat.le_refl _)] at h
  rw [fal_iff (by omega) (n + 1) (Nat.le_refl _)]
  intro p h1 h2 hb
  by_cases e : p = n
  · subst e
    unfold bgB at hb
    rw [c10] at hb
    simp at hb
  · obtain ⟨w1, w2⟩ := hW p (by omega)
    have hb' : bgB V p = true := by
      unfold bgB at hb ⊢
      rw [cc p e, s1 310 p (by decide) (by decide) e] at hb
      exact hb
    have := h p (by omega) (by omega) hb'
    rw [show (cW V' (newD D n s x w pr 0) (newO on n f) (n + 1) (n + 1)).1 p = (cW V (D 0) on n n).1 p from w1, show (cW V' (newD D n s x w pr 0) (newO on n f) (n + 1) (n + 1)).2 p = (cW V (D 0) on n n).2 p from w2, s1 304 p (by decide) (by decide) e, s1 312 p (by decide) (by decide) e]
    exact this
theorem clog_no {V : Vt} {p : Nat} : ∀ e, (∀ k, 1 ≤ k → k ≤ e → V 401 0 k ≠ nI p) → clog V e p = V 301 p 0
  | 0, _ => rfl
  | e + 1, h => by
    unfold clog
    rw [if_neg (h (e + 1) (by omega) (Nat.le_refl _))]
    exact clog_no e (fun k h1 h2 => h k h1 (by omega))
theorem IE.new {s x w pr : Nat} {kd : Int32} {f sf : Nat → Nat} (h : IE V n ec es) (hn : n < 40) (hN : NP V' n s x w pr kd f sf) (hS : NS V V' n) (hO : ∀ f, f ∈ ([401, 402, 403, 406, 1024, 1025, 1026] : List Nat) → V' f = V f) : IE V' (n + 1) ec es := by
  obtain ⟨e1, e2, e3, e4, e5⟩ := h
  obtain ⟨s1, -⟩ := hS
  have lg : ∀ e p, p ≠ n → clog V' e p = clog V e p := fun e p hp => clog_of e (by rw [s1 301 p (by decide) (by decide) hp]) (fun k _ _ => by rw [hO 401 (by decide), hO 402 (by decide)]; exact ⟨rfl, rfl⟩)
  refine ⟨by rw [hO 406 (by decide)]; exact e1, by rw [hO 1024 (by decide)]; exact e2, e3, fun e h1 h2 => ?_, fun p hp => ?_⟩
  · obtain ⟨f1, f2, f3, ⟨q, f4, f5⟩, f6⟩ := e4 e h1 h2
    refine ⟨by rw [hO 403 (by decide)]; exact f1, by rw [hO 1025 (by decide)]; exact f2, by omega, ⟨q, by omega, by rw [hO 401 (by decide)]; exact f5⟩, fun p hp => ?_⟩
    rw [hO 1026 (by decide), lg e p (by omega)]
    exact f6 p hp
  · by_cases z : p = n
    · subst z
      rw [clog_no ec (fun k h1 h2 q => ?_)]
      · rw [hN.1.2.2.2.2.2.2.2.2.2.1, hN.1.2.1]
      · obtain ⟨f1, f2, f3, ⟨y, f4, f5⟩, f6⟩ := e4 k h1 h2
        rw [hO 401 (by decide), f5] at q
        have := (nI_eq (by omega) (by omega)).mp q
        omega
    · rw [lg ec p z, s1 309 p (by decide) (by decide) z]
      exact e5 p (by omega)
theorem IL.new {s x w pr : Nat} (h : IL V n m D ti) (hn : n < 40) (hm : m ≤ 1200) (hS : NS V V' n) (hO : V' 1023 = V 1023) : IL V' (n + 1) m (newD D n s x w pr) ti := by
  obtain ⟨h1, h2⟩ := h
  refine ⟨fun p hp => ?_, fun p k hp hp2 hk => by rw [hO]; exact h2 p k (by omega) hp2 hk⟩
  by_cases e : p = n
  · subst e
    have d4 : newD D p s x w pr 4 p = 0 := newD_n
    rw [d4]
    refine ⟨fun i hi => by omega, fun k hk => ?_⟩
    rw [hO, h2 p k (Nat.le_refl _) hn (by omega)]
    rfl
  · rw [newD_p e, hO, hS.1 307 p (by decide) (by decide) e]
    exact h1 p (by omega)
theorem IX.gr (h : IX E V tc tn tx) (h1 : ∀ t, t < tc → eL E' 7 t ∧ eN E' 800 t = eN E 800 t) : IX E' V tc tn tx :=
  ⟨h.1, h.2.1, h.2.2.1, fun t ht => ⟨(h1 t ht).1, by rw [(h1 t ht).2]; exact (h.2.2.2 t ht).2.1, (h.2.2.2 t ht).2.2⟩⟩
theorem IG.gr (h : IG E V gc tc gl) (h1 : ∀ g, g < gc → eR E' 905 g = eR E 905 g ∧ eL E' 1 g ∧ eR E' 201 g = eR E 201 g) : IG E' V gc tc gl :=
  ⟨h.1, h.2.1, h.2.2.1, fun g hg => by
    obtain ⟨a1, a2, a3, a4, a5, a6, a7⟩ := h.2.2.2 g hg
    obtain ⟨b1, b2, b3⟩ := h1 g hg
    rw [b1, b3]
    exact ⟨a1, b2, a3, a4, a5, a6, a7⟩⟩
theorem IU.gr (h : IU E V sc tc) (h1 : ∀ s, s < sc → eR E' 906 s = eR E 906 s) : IU E' V sc tc :=
  ⟨h.1, h.2.1, h.2.2.1, fun s hs => by
    rw [h1 s hs]
    exact h.2.2.2 s hs⟩
theorem WE.part (h : WE E n gc tc) (hn : n < 40) (q b4 b5 b6 b7 : Nat) : WE (setR (addP E n q b4 b5 b6 b7) 400 n n) (n + 1) gc tc := by
  obtain ⟨hS, hR, ho, hp, hg, ht⟩ := h
  refine ⟨⟨fun c hc => Or.inl (hS.1 c hc), hS.2⟩, fun id j t hj => ?_, fun c hc i hi => ?_, fun p => ?_, fun g => ?_, fun t => ?_⟩
  · by_cases e : id = 400 ∧ j = n
    · obtain ⟨rfl, rfl⟩ := e
      rw [setR_s] at hj
      cases hj
      exact ⟨fun _ => Or.inr ⟨rfl, rfl⟩, fun z => absurd z (by decide), fun z => absurd z (by decide)⟩
    · rw [setR_n e] at hj
      obtain ⟨r1, r2, r3⟩ := hR id j t hj
      exact ⟨fun z => Or.inl (r1 z), fun z => Or.inl (r2 z), fun z => Or.inl (r3 z)⟩
  · rcases hi with hi | hi
    · exact ho c hc i hi
    · rw [hi.1] at hc
      exact absurd hc (by decide)
  · refine ⟨fun z => ?_, fun z => ?_⟩
    · rcases z with z | z
      · have := (hp p).mp z
        omega
      · omega
    · by_cases e : p = n
      · exact Or.inr ⟨rfl, e⟩
      · exact Or.inl ((hp p).mpr (by omega))
  · refine ⟨fun z => ?_, fun z => Or.inl ((hg g).mpr z)⟩
    rcases z with z | z
    · exact (hg g).mp z
    · omega
  · refine ⟨fun z => ?_, fun z => Or.inl ((ht t).mpr z)⟩
    rcases z with z | z
    · exact (ht t).mp z
    · omega
def newPV (V : Vt) (n : Nat) (x1 x2 x3 x4 : Int32) : Vt := up3 (up3 (up3 (up3 (up3 (up3 (up3 (up3 (up3 (up3 (up3 (up3 (up3 (up3 (up3 V 1002 0 n x1) 1003 0 n x2) 1004 0 n x2) 1005 0 n x3) 1006 0 n x4) 1007 0 n 1000000) 1008 0 n 0) 1009 0 n 50) 1010 0 n 3) 1011 0 n 0) 1012 0 n 0) 1013 0 n 0) 1014 0 n 0) 1015 0 n 0) 1001 0 0 (nI (n + 1))
theorem sp_newPart {x1 x2 x3 x4 : Int32} {K : Int32 → Vt → Prop} (hE : Sg E) (h1 : V 1001 0 0 = nI n) (hn : n < 40) (h : K (nI n) (newPV V n x1 x2 x3 x4)) : C_X9_newPart l G E V x1 x2 x3 x4 K := by
  refine ok_X9_newPart hE ?_
  unfold vc_X9_newPart
  have ii : vp_in (nI n) 40 := inI hn (by decide)
  rw [h1, cl (by omega)]
  refine ⟨ii, ii, ii, ii, ii, ii, ii, ii, ii, ii, ii, ii, ii, ii, ?_⟩
  rw [up3_f (f' := 1001) (by decide), up3_f (f' := 1001) (by decide), up3_f (f' := 1001) (by decide), up3_f (f' := 1001) (by decide), up3_f (f' := 1001) (by decide), up3_f (f' := 1001) (by decide), up3_f (f' := 1001) (by decide), up3_f (f' := 1001) (by decide), up3_f (f' := 1001) (by decide), up3_f (f' := 1001) (by decide), up3_f (f' := 1001) (by decide), up3_f (f' := 1001) (by decide), up3_f (f' := 1001) (by decide), up3_f (f' := 1001) (by decide), h1, nI_1]
  exact h
def partS : List Nat := [300, 301, 302, 303, 304, 305, 306, 307, 308, 309, 310, 311, 312, 313, 405, 1001, 1002, 1003, 1004, 1005, 1006, 1007, 1008, 1009, 1010, 1011, 1012, 1013, 1014, 1015, 1016, 1017]
theorem addPV_of (V : Vt) (n : Nat) (kd x w pr : Int32) : Of partS V (addPV V n kd x w pr) := fun f hf => addPV_f (by
  refine Decidable.not_not.mp (fun z => hf ?_)
  have : ∀ k, k < 14 → 300 + k ∈ partS := by decide
  have := this (f - 300) (by omega)
  rw [show 300 + (f - 300) = f by omega] at this
  exact this)
theorem newPV_of (V : Vt) (n : Nat) (x1 x2 x3 x4 : Int32) : Of partS V (newPV V n x1 x2 x3 x4) := (((((((((((((((Of.rf _ V).up (by decide)).up (by decide)).up (by decide)).up (by decide)).up (by decide)).up (by decide)).up (by decide)).up (by decide)).up (by decide)).up (by decide)).up (by decide)).up (by decide)).up (by decide)).up (by decide)).up (by decide)
/-- the two objects stay where they are -/
def AE (E E1 : Et) : Prop := eA E1 8 0 = eA E 8 0 ∧ eA E1 9 0 = eA E 9 0 ∧ (eL E 9 0 → eL E1 9 0)
theorem AE_rf (E : Et) : AE E E := ⟨rfl, rfl, fun h => h⟩
theorem AE_part {E : Et} {i q b4 b5 b6 b7 f j t : Nat} : AE E (setR (addP E i q b4 b5 b6 b7) f j t) := by
  refine ⟨?_, ?_, fun h => Or.inl h⟩
  · show (if 0 = i then eA E 8 0 else eA E 8 0) = _
    split <;> rfl
  · show (if 0 = i then eA E 9 0 else eA E 9 0) = _
    split <;> rfl
theorem bo_part {x y z : Int32} {K : Int32 → Int32 → Et → Vt → Prop} (hW : WE E n gc tc) (hI : IP E V n D on sn) (hS : IS V n D on) (hX : IE V n ec es) (hC : IC V m fr yb) (hL : IL V n m D ti) (hT : IX E V tc tn tx) (hG : IG E V gc tc gl) (hU : IU E V sc tc) (h0 : ∀ r, K r r E V)
    (hK : ∀ r E2 V2 D' on' sn', WE E2 (n + 1) gc tc → IP E2 V2 (n + 1) D' on' sn' → IS V2 (n + 1) D' on' → IE V2 (n + 1) ec es → IL V2 (n + 1) m D' ti → IX E2 V2 tc tn tx → IG E2 V2 gc tc gl → IU E2 V2 sc tc → Of partS V V2 → K r r E2 V2) : Cl l G yX8_part cX8_part 4 (some .int) rm_X8_part E V [.ref (eA E 8 0), .int x, .int y, .int z] (Qe (fun r E1 V1 => AE E E1 ∧ C_X9_part l G E1 V1 x y z (fun r' V2 => K r r' E1 V2))) := by
  have hn := hI.1.2.1
  have hE := hW.1
  refine sp_part hW hI.1.1 hn (fun q => ?_) (fun q e => ?_) (fun q hlt a b4 b5 b6 b7 => ?_)
  · refine ⟨by first | exact AE_rf _ | exact AE_part, ?_⟩
    refine ok_X9_part hE ?_
    unfold vc_X9_part
    exact sp_mmsr hE (fun w => absurd w q) (fun _ => nb_f rfl (h0 _))
  · refine ⟨by first | exact AE_rf _ | exact AE_part, ?_⟩
    refine ok_X9_part hE ?_
    unfold vc_X9_part
    refine sp_mmsr hE (fun _ => nb_t (by decide) (nb_f (by rw [hI.2.1.1, e]; rfl) (h0 _))) (fun w => absurd q w)
  · refine ⟨by first | exact AE_rf _ | exact AE_part, ?_⟩
    obtain ⟨⟨q1, q2⟩, ⟨q3, q4⟩, ⟨q5, q6⟩⟩ := q
    have lo : ∀ (u a : Int32), (0 : Int32) ≤ a → a ≤ u → ¬ u < 0 := fun u a w1 w2 => by
      rw [i_lt]
      rw [i_le] at w1 w2
      omega
    obtain ⟨x', hx', rfl⟩ := nI_of2 (M := 30) (n := 30) (by decide) (lo x 1 (by decide) q1) q2
    obtain ⟨y', hy', rfl⟩ := nI_of2 (M := 999) (n := 999) (by decide) (lo y 1 (by decide) q3) q4
    obtain ⟨z', hz', rfl⟩ := nI_of2 (M := 999) (n := 999) (by decide) (lo z 0 (by decide) q5) q6
    have hx1 : 1 ≤ x' := (nI_leI (a := 1) (by decide) (by omega)).mp q1
    have hW2 := hW.part hlt a b4 b5 b6 b7
    have hE2 := hW2.1
    refine ok_X9_part hE2 ?_
    unfold vc_X9_part
    refine sp_mmsr hE2 (fun _ => nb_t (by decide) (nb_t ?_ ?_)) (fun w => absurd ⟨⟨q1, q2⟩, ⟨q3, q4⟩, ⟨q5, q6⟩⟩ w)
    · rw [up3_f (by decide), addPV_f (by decide), hI.2.1.1, li 40, nI_eq (by omega) (by decide)]
      omega
    · refine sp_newPart hE2 (by rw [up3_f (by decide), addPV_f (by decide)]; exact hI.2.1.1) hlt ?_
      obtain ⟨V2, hV2⟩ : ∃ V2, V2 = newPV (up3 (addPV V n 0 (nI x') (nI y') (nI z')) 405 0 0 (nI (n + 1))) n 0 (nI x') (nI y') (nI z') := ⟨_, rfl⟩
      rw [← hV2]
      have hO : Of partS V V2 := by
        rw [hV2]
        exact ((addPV_of V n 0 (nI x') (nI y') (nI z')).up (by decide)).tr (newPV_of _ _ _ _ _ _)
      have cl3 : ∀ f p, f < 1000 → f ≠ 405 → V2 f p = addPV V n 0 (nI x') (nI y') (nI z') f p := fun f p h1 h2 => by
        rw [hV2]
        unfold newPV
        rw [up3_row0 (by omega), up3_row0 (by omega), up3_row0 (by omega), up3_row0 (by omega), up3_row0 (by omega), up3_row0 (by omega), up3_row0 (by omega), up3_row0 (by omega), up3_row0 (by omega), up3_row0 (by omega), up3_row0 (by omega), up3_row0 (by omega), up3_row0 (by omega), up3_row0 (by omega), up3_row0 (by omega), up3_row0 (by omega)]
      have nw : ∀ f j, 300 ≤ f → f < 314 → V2 f n j = if f = 300 then 0 else if f = 301 then nI x' else if f = 302 then nI y' else if f = 303 then nI z' else if f = 304 then toldF j else if f = 309 then nI x' else 0 := fun f j h1 h2 => by
        rw [cl3 f n (by omega) (by omega), addPV_in ⟨h1, h2⟩]
      have mo : ∀ f p, f ∈ mrows → p ≠ n → V2 f 0 p = V f 0 p := fun f p hf hp => by
        rw [hV2]
        unfold newPV
        have h3 : 1000 ≤ f ∧ f ≠ 1001 := (show ∀ f, f ∈ mrows → 1000 ≤ f ∧ f ≠ 1001 by decide) f hf
        rw [up3_f h3.2, up3_j hp, up3_j hp, up3_j hp, up3_j hp, up3_j hp, up3_j hp, up3_j hp, up3_j hp, up3_j hp, up3_j hp, up3_j hp, up3_j hp, up3_j hp, up3_j hp, up3_f (by omega), addPV_f (by omega)]
      have hNS : NS V V2 n := by
        refine ⟨fun f p h1 h2 hp => ?_, mo, fun f j hf hj => ?_, ?_, ?_⟩
        · rw [cl3 f p (by omega) (by omega), addPV_q hp]
        · rw [hV2]
          unfold newPV
          rcases hf with rfl | rfl <;> rw [up3_f (by decide), up3_f (by decide), up3_f (by decide), up3_f (by decide), up3_f (by decide), up3_f (by decide), up3_f (by decide), up3_f (by decide), up3_f (by decide), up3_f (by decide), up3_f (by decide), up3_f (by decide), up3_f (by decide), up3_f (by decide), up3_f (by decide), up3_f (by decide), addPV_f (by decide)]
        · rw [hV2]
          unfold newPV
          rw [up3_f (by decide), up3_f (by decide), up3_f (by decide), up3_f (by decide), up3_f (by decide), up3_f (by decide), up3_f (by decide), up3_f (by decide), up3_f (by decide), up3_f (by decide), up3_f (by decide), up3_f (by decide), up3_f (by decide), up3_f (by decide), up3_f (by decide), up3_s]
        · rw [hV2]
          exact up3_s _ _ _ _ _
      have hNP : NP V2 n 0 x' y' z' 0 (fun _ => 0) (fun _ => 0) := by
        refine ⟨⟨nw 300 0 (by decide) (by decide), nw 301 0 (by decide) (by decide), nw 302 0 (by decide) (by decide), nw 303 0 (by decide) (by decide), nw 304 0 (by decide) (by decide), nw 304 1 (by decide) (by decide), nw 304 2 (by decide) (by decide), nw 304 3 (by decide) (by decide), nw 308 0 (by decide) (by decide), nw 309 0 (by decide) (by decide), nw 310 0 (by decide) (by decide), nw 311 0 (by decide) (by decide), nw 312 0 (by decide) (by decide), nw 313 0 (by decide) (by decide)⟩, ?_, fun i hi => by omega⟩
        rw [hV2]
        unfold newPV
        simp [up3]
        exact ⟨rfl, rfl⟩
      refine hK _ _ V2 (newD D n 0 x' y' z') (newO on n (fun _ => 0)) (newO sn n (fun _ => 0)) hW2 (hI.new hlt hNP hNS ⟨hx1, hx'⟩ hy' hz' (Or.inl rfl) (by decide) (fun w => absurd w (by decide)) (fun i hi => by omega) (fun w => absurd w (by decide)) (fun p hp => ⟨?_, (hW2.2.2.2.1 p).mpr hp⟩)) (hS.new hI hlt hNP hNS) (hX.new hlt hNP hNS (fun f hf => hO f ((show ∀ f, f ∈ ([401, 402, 403, 406, 1024, 1025, 1026] : List Nat) → f ∉ partS by decide) f hf))) (hL.new hlt hC.2.2.1 hNS (hO 1023 (by decide))) ((hT.of hO (by decide)).gr (fun t ht => ⟨Or.inl (hT.2.2.2 t ht).1, rfl⟩)) ((hG.of hO (by decide)).gr (fun g hg => ⟨setR_n (fun w => absurd w.1 (by decide)), Or.inl (hG.2.2.2 g hg).2.1, setR_n (fun w => absurd w.1 (by decide))⟩)) ((hU.of hO (by decide)).gr (fun s hs => setR_n (fun w => absurd w.1 (by decide)))) hO
      by_cases e : p = n
      · subst e
        exact setR_s _ _ _ _
      · rw [setR_n (fun w => e w.2)]
        exact (hI.1.2.2 p (by omega)).1
end New

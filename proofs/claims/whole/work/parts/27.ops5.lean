/-! OPS: down, needs -/
section Ops5
variable {l : Launch} {G : Gt} {E : Et} {V : Vt} {n : Nat} {D on sn : Nat → Nat → Nat}
theorem sp_heavy {p s : Nat} {x : Int32} {K : Int32 → Vt → Prop} (hE : Sg E) (hl : eL E 2 p) (hs : V 308 p 0 = nI s) (hs4 : s ≤ 4) (hs0 : 0 < s) (h : K (nI (bst (por x (V 306 p) s) (s - 1))) V) : C_X2_heaviestWay l G E V p x K := by
  have loop : ∀ (m i : Nat), i + m = s - 1 → A_X2_heaviestWay_4 l G E V p x (nI (bst (por x (V 306 p) s) i)) (nI (i + 1)) K := by
    intro m
    induction m with
    | zero =>
      intro i hi
      refine ok_X2_heaviestWay_4 hE hl ?_
      unfold vc_X2_heaviestWay_4
      rw [hs]
      refine br_t (nI_le (by omega) (by omega)) ?_
      rw [show i = s - 1 by omega]
      exact h
    | succ m ih =>
      intro i hi
      have hb := bst_le (por x (V 306 p) s) i
      refine ok_X2_heaviestWay_4 hE hl ?_
      unfold vc_X2_heaviestWay_4
      rw [hs, nI_1]
      refine br_f (nI_ge (by omega) (by omega)) (sp_por hE hl hs hs4 (by omega) (sp_por hE hl hs hs4 (by omega) ⟨fun z => ?_, fun z => ?_⟩))
      · have := ih (i + 1) (by omega)
        unfold bst at this
        rw [if_neg (le_nlt z)] at this
        exact this
      · have := ih (i + 1) (by omega)
        unfold bst at this
        rw [if_pos (nle_lt z)] at this
        exact this
  refine ok_X2_heaviestWay hE hl ?_
  unfold vc_X2_heaviestWay
  exact loop (s - 1) 0 (by omega)
theorem mdown_loop {p : Nat} {K : Int32 → Vt → Prop} (hE : Sg E) (hP : PM V n (D 0) on) (hp : p < n) (h0 : 0 < D 0 p) (h : K (nI (on p (bst (por (V 1028 0 p) (mSh V p) (D 0 p)) (D 0 p - 1)))) V) : A_X9_down_39 l G E V (nI p) 0 1 K := by
  have hn := hP.2.1
  obtain ⟨h4, hs, -, -, ho⟩ := hP.2.2 p hp
  have loop : ∀ (m i : Nat), i + m = D 0 p - 1 → A_X9_down_39 l G E V (nI p) (nI (bst (por (V 1028 0 p) (mSh V p) (D 0 p)) i)) (nI (i + 1)) K := by
    intro m
    induction m with
    | zero =>
      intro i hi
      have hi : i = D 0 p - 1 := by omega
      subst hi
      have hb := bst_le (por (V 1028 0 p) (mSh V p) (D 0 p)) (D 0 p - 1)
      refine ok_X9_down_39 hE ?_
      unfold vc_X9_down_39
      rw [cl (by omega), hs, n4, cl (by omega), (ho _ (by omega)).2]
      exact ⟨inI (by omega) (by decide), br_t (nI_le (by omega) (by omega)) ⟨inI (by omega) (by decide), h⟩⟩
    | succ m ih =>
      intro i hi
      have hb := bst_le (por (V 1028 0 p) (mSh V p) (D 0 p)) i
      refine ok_X9_down_39 hE ?_
      unfold vc_X9_down_39
      rw [cl (by omega), hs, nI_1]
      refine ⟨inI (by omega) (by decide), br_f (nI_ge (by omega) (by omega)) (sp_goes hE (by omega) hs h4 (by omega) (sp_goes hE (by omega) hs h4 (by omega) ⟨fun z => ?_, fun z => ?_⟩))⟩
      · have := ih (i + 1) (by omega)
        unfold bst at this
        rw [if_neg (le_nlt z)] at this
        exact this
      · have := ih (i + 1) (by omega)
        unfold bst at this
        rw [if_pos (nle_lt z)] at this
        exact this
  exact loop (D 0 p - 1) 0 (by omega)
theorem bo_down {x : Int32} {K : Int32 → Int32 → Vt → Prop} (hE : Sg E) (hI : IP E V n D on sn) (hK : ∀ r V2, Of scF V V2 → K r r V2) : C_X8_down l G E V x (fun r V1 => C_X9_down l G E V1 x (fun r' V2 => K r r' V2)) := by
  have hn := hI.1.2.1
  have hk0 : ∀ r, K r r V := fun r => hK r V (Of.rf _ _)
  refine ok_X8_down hE ?_
  unfold vc_X8_down
  refine sp_find hE hI.1 (fun q => ⟨fun _ => ?_, fun t ht => by cases ht⟩) (fun p hp e => ⟨fun q => (by cases q), fun t ht => ?_⟩)
  · refine ok_X9_down hE ?_
    unfold vc_X9_down
    exact sp_isPart hE hI.2.1 (fun _ => nb_f rfl (hk0 _)) (fun p hp e => (no_part hn q hp e).elim)
  · cases ht
    subst e
    have ip : vp_in (nI p) 40 := inI (by omega) (by omega)
    obtain ⟨-, hl, h4, hs, -, ho⟩ := hI.1.2.2 p hp
    obtain ⟨-, m2, -, -, m5⟩ := hI.2.1.2.2 p hp
    obtain ⟨a1, a2, a3, a4, a5, a6, a7, a8, a9, a10, a11, a12, a13⟩ := hI.2.2 p hp
    rw [hs]
    refine ⟨hl, fun q => ?_, fun q => ?_⟩
    · refine ok_X9_down hE ?_
      unfold vc_X9_down
      refine sp_isPartp hE hI.2.1 hp (nb_t (by decide) ⟨ip, ?_⟩)
      rw [cl (by omega), m2]
      exact br_t q (hk0 _)
    · have h0 : 0 < D 0 p := by
        rcases Nat.eq_zero_or_pos (D 0 p) with z | z
        · exact absurd (by rw [z]; rfl) q
        · exact z
      refine sp_cent hE hl ⟨fun q2 => ?_, fun q2 => ?_⟩
      · rw [bz0] at q2
        refine ok_X8_loadOf hE ?_
        unfold vc_X8_loadOf
        refine sp_weigh hE hI.1 (fun V1 hO hW => ⟨ip, ?_⟩)
        rw [cl (by omega), (hW p hp).1]
        refine sp_heavy hE hl (s := D 0 p) (by rw [hO 308 (by decide)]; exact hs) h4 h0 ?_
        rw [hO 306 (by decide)]
        have hb := bst_le (por ((cW V (D 0) on n n).1 p) (V 306 p) (D 0 p)) (D 0 p - 1)
        refine ⟨inI (by omega) (by decide), ?_⟩
        rw [cl (by omega), hO 305 (by decide), (ho _ (by omega)).2]
        have hI1 := hI.of hO (by decide)
        refine ok_X9_down hE ?_
        unfold vc_X9_down
        refine sp_isPartp hE hI1.2.1 hp (nb_t (by decide) ⟨ip, ?_⟩)
        rw [cl (by omega), hO 1015 (by decide), m2]
        refine br_f q ⟨ip, br_t (by rw [hO 1014 (by decide), a10.2, bz_f q2]) ?_⟩
        refine sp_mweigh hE hI1.2.1 (fun V2 hO2 hW2 => ?_)
        have hI2 := hI1.of hO2 (by decide)
        have hO12 := (hO.mono (S' := scF) (by decide)).tr (hO2.mono (by decide))
        have hw := hI1.w.same hn p hp
        rw [cW_of hO (by decide) (by decide) (by decide) (by decide) (by decide) (by decide)] at hw
        refine mdown_loop hE hI2.2.1 hp h0 ?_
        rw [(hW2 p hp).1, ← hw.1]
        have e : bst (por ((cW V (D 0) on n n).1 p) (mSh V2 p) (D 0 p)) (D 0 p - 1) = bst (por ((cW V (D 0) on n n).1 p) (V 306 p) (D 0 p)) (D 0 p - 1) := by
          refine bst_cong _ (fun i hi => por_cong (fun j hj => ?_) (by omega))
          unfold mSh
          rw [hO12 1017 (by decide), (a11 j hj).1, (a11 j hj).2.1]
        rw [e]
        exact hK _ _ hO12
      · rw [bz0] at q2
        refine ok_X9_down hE ?_
        unfold vc_X9_down
        refine sp_isPartp hE hI.2.1 hp (nb_t (by decide) ⟨ip, ?_⟩)
        rw [cl (by omega), m2]
        exact br_f q ⟨ip, br_f (by rw [a10.2, bz_t (Decidable.not_not.mp q2)]; decide) (hk0 _)⟩
/-! needs -/
def mks (on : Nat → Nat) (mk : Nat → Bool) : Nat → Nat → Bool
  | 0 => mk
  | i + 1 => fun k => if k = on i then true else mks on mk i k
def nds (sc : Nat → Nat) (on : Nat → Nat → Nat) (co ld : Nat → Nat) : Nat → (Nat → Bool) → Int32 → Int32
  | 0, _, a => a
  | r + 1, km, a => if km r then nds sc on co ld r (mks (on r) km (sc r)) (a + (nI (co r) - nI (ld r))) else nds sc on co ld r km a
theorem sp_mark {p : Nat} {K : Vt → Prop} {mk : Nat → Bool} (hE : Sg E) (hP : PC E V n (D 0) on) (hp : p < n) (hm : ∀ q, q < n → (V 908 0 q = 1 ↔ mk q = true)) (h : ∀ V', Of [908] V V' → (∀ q, q < n → (V' 908 0 q = 1 ↔ mks (on p) mk (D 0 p) q = true)) → K V') : C_X2_markSupports l G E V p K := by
  have hn := hP.2.1
  obtain ⟨-, hl, h4, hs, -, ho⟩ := hP.2.2 p hp
  have loop : ∀ (m i : Nat) (V1 : Vt), i + m = D 0 p → Of [908] V V1 → (∀ q, q < n → (V1 908 0 q = 1 ↔ mks (on p) mk i q = true)) → A_X2_markSupports_2 l G E V1 p (nI i) K := by
    intro m
    induction m with
    | zero =>
      intro i V1 hi hO hm1
      have hi : i = D 0 p := by omega
      subst hi
      refine ok_X2_markSupports_2 hE hl ?_
      unfold vc_X2_markSupports_2
      rw [hO 308 (by decide), hs]
      exact br_t (nI_le (Nat.le_refl _) (by omega)) (h V1 hO hm1)
    | succ m ih =>
      intro i V1 hi hO hm1
      refine ok_X2_markSupports_2 hE hl ?_
      unfold vc_X2_markSupports_2
      obtain ⟨o1, o2⟩ := ho i (by omega)
      rw [hO 308 (by decide), hO 305 (by decide), hs, cl (by omega), o2, cl (by omega), nI_1]
      refine br_f (nI_ge (by omega) (by omega)) ⟨inI (by omega) (by decide), inI (by omega) (by decide), ih (i + 1) _ (by omega) (hO.up (by decide)) (fun q hq => ?_)⟩
      unfold mks
      by_cases e : q = on p i
      · subst e
        rw [up3_s, if_pos rfl]
        simp
      · rw [up3_j e, if_neg e]
        exact hm1 q hq
  refine ok_X2_markSupports hE hl ?_
  unfold vc_X2_markSupports
  exact loop (D 0 p) 0 V (by omega) (Of.rf _ _) hm
theorem needs_loop {K : Int32 → Vt → Prop} {V0 : Vt} (hE : Sg E) (hI : IP E V0 n D on sn) {a0 : Int32} (h : ∀ V', Of [908] V0 V' → K a0 V') : ∀ (r : Nat) (V1 : Vt) (mk : Nat → Bool) (a : Int32), r ≤ n → Of [908] V0 V1 → (∀ q, q < n → (V1 908 0 q = 1 ↔ mk q = true)) → nds (D 0) on (D 1) (D 4) r mk a = a0 → A_X8_needs_32 l G E V1 a (nI r - 1) K := by
  have hn := hI.1.2.1
  intro r
  induction r with
  | zero =>
    intro V1 mk a hr hO hm hnd
    refine ok_X8_needs_32 hE ?_
    unfold vc_X8_needs_32
    unfold nds at hnd
    rw [hnd]
    exact br_t (by decide) (h V1 hO)
  | succ r ih =>
    intro V1 mk a hr hO hm hnd
    have hI1 := hI.of hO (by decide)
    obtain ⟨a1, a2, a3, a4, a5, a6, a7, a8, -⟩ := hI.2.2 r (by omega)
    refine ok_X8_needs_32 hE ?_
    unfold vc_X8_needs_32
    rw [nI_pred]
    have hnx : nI r + (-1) = nI r - 1 := by rw [Int32.sub_eq_add_neg]
    refine br_f (nI_pos (by omega)) (sp_findp hE hI1.1 (by omega) ⟨fun z => (by cases z), fun t ht => ?_⟩)
    cases ht
    unfold nds at hnd
    refine ⟨(hI.1.2.2 r (by omega)).2.1, inI (by omega) (by decide), fun z => ?_, fun z => ?_⟩
    · rw [cl (by omega)] at z
      rw [if_neg (fun y => z ((hm r (by omega)).mpr y))] at hnd
      rw [hnx]
      exact ih V1 mk a (by omega) hO hm hnd
    · rw [cl (by omega)] at z
      rw [if_pos ((hm r (by omega)).mp z)] at hnd
      rw [hO 309 (by decide), hO 310 (by decide), a2.1, a8.1]
      refine sp_mark hE hI1.1 (by omega) hm (fun V2 hO2 hm2 => ?_)
      rw [hnx]
      exact ih V2 _ _ (by omega) (hO.tr hO2) hm2 hnd
theorem mneeds_loop {K : Int32 → Vt → Prop} {V0 : Vt} (hE : Sg E) (hI : IP E V0 n D on sn) {a0 : Int32} (h : ∀ V', Of [1046] V0 V' → K a0 V') : ∀ (r : Nat) (V1 : Vt) (mk : Nat → Bool) (a : Int32), r ≤ n → Of [1046] V0 V1 → (∀ q, q < n → (V1 1046 0 q = 0 ↔ mk q = false)) → nds (D 0) on (D 1) (D 4) r mk a = a0 → A_X9_needs_46 l G E V1 a (nI r - 1) K := by
  have hn := hI.1.2.1
  intro r
  induction r with
  | zero =>
    intro V1 mk a hr hO hm hnd
    refine ok_X9_needs_46 hE ?_
    unfold vc_X9_needs_46
    unfold nds at hnd
    rw [hnd]
    exact br_t (by decide) (h V1 hO)
  | succ r ih =>
    intro V1 mk a hr hO hm hnd
    obtain ⟨a1, a2, a3, a4, a5, a6, a7, a8, -⟩ := hI.2.2 r (by omega)
    obtain ⟨h4, hs, -, -, ho⟩ := hI.2.1.2.2 r (by omega)
    have ip : vp_in (nI r) 40 := inI (by omega) (by decide)
    refine ok_X9_needs_46 hE ?_
    unfold vc_X9_needs_46
    rw [nI_pred]
    have hnx : nI r + (-1) = nI r - 1 := by rw [Int32.sub_eq_add_neg]
    unfold nds at hnd
    rw [cl (by omega), hO 1003 (by decide), hO 1012 (by decide), a2.2.1, a8.2.1]
    refine br_f (nI_pos (by omega)) ⟨ip, fun z => ⟨ip, ip, ?_⟩, fun z => ?_⟩
    · have hmr : mk r = true := by
        rcases hb : mk r with _ | _
        · exact absurd ((hm r (by omega)).mpr hb) z
        · rfl
      rw [if_pos hmr] at hnd
      have loop : ∀ (m i : Nat) (V2 : Vt), i + m = D 0 r → Of [1046] V0 V2 → (∀ q, q < n → (V2 1046 0 q = 0 ↔ mks (on r) mk i q = false)) → A_X9_needs_81 l G E V2 (a + (nI (D 1 r) - nI (D 4 r))) (nI r) (nI i) K := by
        intro m
        induction m with
        | zero =>
          intro i V2 hi hO2 hm2
          have hi : i = D 0 r := by omega
          subst hi
          refine ok_X9_needs_81 hE ?_
          unfold vc_X9_needs_81
          rw [cl (by omega), hO2 1015 (by decide), hs, hnx]
          exact ⟨ip, br_t (nI_le (Nat.le_refl _) (by omega)) (ih V2 _ _ (by omega) hO2 hm2 hnd)⟩
        | succ m ih2 =>
          intro i V2 hi hO2 hm2
          refine ok_X9_needs_81 hE ?_
          unfold vc_X9_needs_81
          obtain ⟨o1, o2⟩ := ho i (by omega)
          rw [cl (by omega), hO2 1015 (by decide), hs, n4, cl (by omega), hO2 1016 (by decide), o2, cl (by omega), nI_1]
          refine ⟨ip, br_f (nI_ge (by omega) (by omega)) ⟨inI (by omega) (by decide), inI (by omega) (by decide), ih2 (i + 1) _ (by omega) (hO2.up (by decide)) (fun q hq => ?_)⟩⟩
          unfold mks
          by_cases e : q = on r i
          · subst e
            rw [up3_s, if_pos rfl]
            exact ⟨fun z => absurd z (by decide), fun z => absurd z (by decide)⟩
          · rw [up3_j e, if_neg e]
            exact hm2 q hq
      exact loop (D 0 r) 0 V1 (by omega) hO hm
    · rw [if_neg (show ¬ mk r = true by rw [(hm r (by omega)).mp z]; decide)] at hnd
      rw [hnx]
      exact ih V1 mk a (by omega) hO hm hnd
theorem bo_needs {x : Int32} {K : Int32 → Int32 → Vt → Prop} (hE : Sg E) (hI : IP E V n D on sn) (hK : ∀ r V2, Of [908, 1046] V V2 → K r r V2) : C_X8_needs l G E V x (fun r V1 => C_X9_needs l G E V1 x (fun r' V2 => K r r' V2)) := by
  have hn := hI.1.2.1
  have hk0 : ∀ r, K r r V := fun r => hK r V (Of.rf _ _)
  refine ok_X8_needs hE ?_
  unfold vc_X8_needs
  refine sp_find hE hI.1 (fun q => ⟨fun _ => ?_, fun t ht => by cases ht⟩) (fun p hp e => ⟨fun q => (by cases q), fun t ht => ?_⟩)
  · refine ok_X9_needs hE ?_
    unfold vc_X9_needs
    exact sp_isPart hE hI.2.1 (fun _ => nb_f rfl (hk0 _)) (fun p hp e => (no_part hn q hp e).elim)
  · cases ht
    subst e
    refine ⟨(hI.1.2.2 p hp).2.1, fill_spec (n := 40) rfl (by decide) (hE.1 8 (by decide)) (hE.2 908 0 (by decide)) (by decide) ⟨inI (by omega) (by decide), ?_⟩⟩
    rw [cl (by omega)]
    have hO : Of [908] V (up3 (fillV V 908 0 40 0) 908 0 p 1) := (Of.fill (Of.rf _ _) (by decide)).up (by decide)
    have := needs_loop (l := l) (G := G) (K := fun r V1 => C_X9_needs l G E V1 (nI p) (fun r' V2 => K r r' V2)) hE hI (a0 := nds (D 0) on (D 1) (D 4) (p + 1) (fun q => q == p) 0) ?_ (p + 1) _ (fun q => q == p) 0 (by omega) hO ?_ rfl
    · rw [nI_pred] at this
      exact this
    · intro V1 hO1
      have hI1 := hI.of hO1 (by decide)
      refine ok_X9_needs hE ?_
      unfold vc_X9_needs
      refine sp_isPartp hE hI1.2.1 hp (nb_t (by decide) ?_)
      have loop : ∀ (m i : Nat) (V2 : Vt), i + m = n → Of [1046] V1 V2 → (∀ q, q < i → (V2 1046 0 q = 0 ↔ (q == p) = false)) → A_X9_needs_12 l G E V2 (nI p) (nI i) (fun r' V2 => K (nds (D 0) on (D 1) (D 4) (p + 1) (fun q => q == p) 0) r' V2) := by
        intro m
        induction m with
        | zero =>
          intro i V2 hi hO2 hm
          have hi : i = n := by omega
          subst hi
          refine ok_X9_needs_12 hE ?_
          unfold vc_X9_needs_12
          rw [hO2 1001 (by decide), hI1.2.1.1]
          refine br_t (nI_le (Nat.le_refl _) (by omega)) ?_
          have := mneeds_loop (l := l) (G := G) (K := fun r' V2 => K (nds (D 0) on (D 1) (D 4) (p + 1) (fun q => q == p) 0) r' V2) hE hI1 (a0 := nds (D 0) on (D 1) (D 4) (p + 1) (fun q => q == p) 0) (fun V3 hO3 => hK _ _ ((hO1.mono (by decide)).tr (hO3.mono (by decide)))) (p + 1) V2 (fun q => q == p) 0 (by omega) hO2 hm rfl
          rw [nI_pred] at this
          exact this
        | succ m ih =>
          intro i V2 hi hO2 hm
          refine ok_X9_needs_12 hE ?_
          unfold vc_X9_needs_12
          rw [hO2 1001 (by decide), hI1.2.1.1, cl (by omega), nI_1]
          refine br_f (nI_ge (by omega) (by omega)) ⟨fun z => ⟨inI (by omega) (by decide), ih (i + 1) _ (by omega) (hO2.up (by decide)) (fun q hq => ?_)⟩, fun z => ⟨inI (by omega) (by decide), ih (i + 1) _ (by omega) (hO2.up (by decide)) (fun q hq => ?_)⟩⟩
          · by_cases e : q = i
            · subst e
              rw [up3_s]
              have : q ≠ p := fun y => z (by rw [y])
              exact ⟨fun _ => by simpa using this, fun _ => rfl⟩
            · rw [up3_j e]
              exact hm q (by omega)
          · have z := (nI_eq (by omega) (by omega)).mp z
            subst z
            by_cases e : q = i
            · subst e
              rw [up3_s]
              exact ⟨fun y => absurd y (by decide), fun y => by simp at y⟩
            · rw [up3_j e]
              exact hm q (by omega)
      exact loop n 0 V1 (by omega) (Of.rf _ _) (fun q hq => by omega)
    · intro q hq
      by_cases e : q = p
      · subst e
        rw [up3_s]
        simp
      · rw [up3_j e]
        unfold fillV
        rw [if_pos (by omega)]
        exact ⟨fun y => absurd y (by decide), fun y => by simp at y; exact absurd y e⟩
end Ops5

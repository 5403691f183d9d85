/-! THE LAW'S LOOP -/
def Qone : Option Value → Et → Vt → Prop := fun r _ _ => r = some (.int 1)
section LLoop
variable {l : Launch} {G : Gt} {bs Ls : Nat} {xs : Nat → Int32} {a8 a9 : Nat}
theorem law_end {E : Et} {V : Vt} {k n : Nat} {ll : List (Nat × Value)} (hk : k ≤ 5000) (hn : n ≤ 200000) : EvL l G bs Ls xs E k n V 956 ll [] Qone := by
  refine l_iconst (v := (1 : Int32)) dL_law_956 rfl ?_
  exact l_zret (ty := .boolean) dL_law_957 rfl rfl ⟨by show k ≤ 600000; omega, by show n ≤ 7302250; omega⟩ rfl
theorem law_loop (hL : Ls ≤ 3072) : ∀ (r t : Nat) (E : Et) (V : Vt), Ls < 6 * (t + r) + 6 → 6 * t ≤ Ls → INV E V → eA E 8 0 = a8 → eA E 9 0 = a9 → EvL l G bs Ls xs E (60 + 5 * t) (60000 + 104 * t) V 18 (LLo bs a8 a9 t) [] Qone := by
  have head : ∀ (t : Nat) (E : Et) (V : Vt), 6 * t ≤ Ls → (6 * t + 6 ≤ Ls → EvL l G bs Ls xs E (60 + 5 * t) (60000 + 104 * t) V 27 (LLo bs a8 a9 t) [] Qone) → EvL l G bs Ls xs E (60 + 5 * t) (60000 + 104 * t) V 18 (LLo bs a8 a9 t) [] Qone := by
    intro t E V ht kk
    refine l_iload_n (x := nI (6 * t)) dL_law_18 rfl ?_
    refine l_aload_n (v := .ref bs) dL_law_19 rfl (rl_ref _) ?_
    refine l_slen dL_law_20 ?_
    refine l_bipush (v := nI 6) dL_law_21 (by decide) ?_
    refine l_isub dL_law_23 ?_
    have h1 : (nI Ls - nI 6).toInt = (Ls : Int) - 6 := pk_sub_toInt (by omega) (by decide)
    have h2 : (nI (6 * t)).toInt = ((6 * t : Nat) : Int) := nI_toInt (by omega)
    refine l_icmp_gt 956 dL_law_24 (by decide) (fun _ => law_end (by omega) (by omega)) (fun z => ?_)
    rw [i_lt, h1, h2] at z
    exact kk (by omega)
  intro r
  induction r with
  | zero =>
    intro t E V h1 h2 hV h8 h9
    exact head t E V h2 (fun h => by omega)
  | succ r ih =>
    intro t E V h1 h2 hV h8 h9
    refine head t E V h2 (fun hb => ?_)
    have hk : 60 + 5 * t ≤ 5000 := by omega
    have hn : 60000 + 104 * t ≤ 200000 := by omega
    have hN : ∀ E2 V2, INV E2 V2 → eA E2 8 0 = a8 → eA E2 9 0 = a9 → EvL l G bs Ls xs E2 (60 + 5 * t + 5) (60000 + 104 * t + 104) V2 950 (LLo bs a8 a9 t) [] Qone := fun E2 V2 hV2 g8 g9 => by
      refine l_iinc (x := nI (6 * t)) (v := nI 6) dL_law_950 rfl rfl (by decide) ?_
      rw [nI_add]
      refine l_goto 18 dL_law_953 (by decide) ?_
      exact l_widen (by omega) (by omega) (ih (t + 1) E2 V2 (by omega) (by omega) hV2 g8 g9)
    refine l_aload_n (v := .ref bs) dL_law_27 rfl (rl_ref _) ?_
    refine l_iload_n (x := nI (6 * t)) dL_law_28 rfl ?_
    refine l_sld dL_law_29 (inI (by omega) (by omega)) ?_
    rw [cl (by omega)]
    refine l_bipush (v := (31 : Int32)) dL_law_30 (by decide) ?_
    refine l_iand dL_law_32 ?_
    obtain ⟨v, hv, e⟩ := pk_andE (xs (6 * t)) (m := 31) 5 (by decide)
    rw [e]
    have hv : v < 32 := hv
    have hv : v = 0 ∨ v = 1 ∨ v = 2 ∨ v = 3 ∨ v = 4 ∨ v = 5 ∨ v = 6 ∨ v = 7 ∨ v = 8 ∨ v = 9 ∨ v = 10 ∨ v = 11 ∨ v = 12 ∨ v = 13 ∨ v = 14 ∨ v = 15 ∨ v = 16 ∨ v = 17 ∨ v = 18 ∨ v = 19 ∨ v = 20 ∨ v = 21 ∨ v = 22 ∨ v = 23 ∨ v = 24 ∨ v = 25 ∨ v = 26 ∨ v = 27 ∨ v = 28 ∨ v = 29 ∨ v = 30 ∨ v = 31 := by omega
    rcases hv with rfl | rfl | rfl | rfl | rfl | rfl | rfl | rfl | rfl | rfl | rfl | rfl | rfl | rfl | rfl | rfl | rfl | rfl | rfl | rfl | rfl | rfl | rfl | rfl | rfl | rfl | rfl | rfl | rfl | rfl | rfl | rfl
    · exact l_tIn 152 dL_law_33 rfl (by decide) (by decide) rfl (by decide) (la_part hV h8 h9 hk hn hb hL hN)
    · exact l_tIn 195 dL_law_33 rfl (by decide) (by decide) rfl (by decide) (la_arch hV h8 h9 hk hn hb hL hN)
    · exact l_tIn 258 dL_law_33 rfl (by decide) (by decide) rfl (by decide) (la_bear hV h8 h9 hk hn hb hL hN)
    · exact l_tIn 321 dL_law_33 rfl (by decide) (by decide) rfl (by decide) (la_edit hV h8 h9 hk hn hb hL hN)
    · exact l_tIn 354 dL_law_33 rfl (by decide) (by decide) rfl (by decide) (la_wanted hV h8 h9 hk hn hb hL hN)
    · exact l_tIn 387 dL_law_33 rfl (by decide) (by decide) rfl (by decide) (la_tell hV h8 h9 hk hn hb hL hN)
    · exact l_tIn 430 dL_law_33 rfl (by decide) (by decide) rfl (by decide) (la_lay hV h8 h9 hk hn hb hL hN)
    · exact l_tIn 453 dL_law_33 rfl (by decide) (by decide) rfl (by decide) (la_may hV h8 h9 hk hn hb hL hN)
    · exact l_tIn 476 dL_law_33 rfl (by decide) (by decide) rfl (by decide) (la_falls hV h8 h9 hk hn hb hL hN)
    · exact l_tIn 499 dL_law_33 rfl (by decide) (by decide) rfl (by decide) (la_strike hV h8 h9 hk hn hb hL hN)
    · exact l_tIn 522 dL_law_33 rfl (by decide) (by decide) rfl (by decide) (la_prop hV h8 h9 hk hn hb hL hN)
    · exact l_tIn 555 dL_law_33 rfl (by decide) (by decide) rfl (by decide) (la_month hV h8 h9 hk hn hb hL hN)
    · exact l_tIn 578 dL_law_33 rfl (by decide) (by decide) rfl (by decide) (la_frost hV h8 h9 hk hn hb hL hN)
    · exact l_tIn 601 dL_law_33 rfl (by decide) (by decide) rfl (by decide) (la_bitter hV h8 h9 hk hn hb hL hN)
    · exact l_tIn 624 dL_law_33 rfl (by decide) (by decide) rfl (by decide) (la_feed hV h8 h9 hk hn hb hL hN)
    · exact l_tIn 657 dL_law_33 rfl (by decide) (by decide) rfl (by decide) (la_gift hV h8 h9 hk hn hb hL hN)
    · exact l_tIn 680 dL_law_33 rfl (by decide) (by decide) rfl (by decide) (la_statute hV h8 h9 hk hn hb hL hN)
    · exact l_tIn 703 dL_law_33 rfl (by decide) (by decide) rfl (by decide) (la_end hV h8 h9 hk hn hb hL hN)
    · exact l_tIn 736 dL_law_33 rfl (by decide) (by decide) rfl (by decide) (la_about hV h8 h9 hk hn hb hL hN)
    · exact l_tIn 769 dL_law_33 rfl (by decide) (by decide) rfl (by decide) (la_support hV h8 h9 hk hn hb hL hN)
    · exact l_tIn 802 dL_law_33 rfl (by decide) (by decide) rfl (by decide) (la_left hV h8 h9 hk hn hb hL hN)
    · exact l_tIn 835 dL_law_33 rfl (by decide) (by decide) rfl (by decide) (la_work hV h8 h9 hk hn hb hL hN)
    · exact l_tIn 848 dL_law_33 rfl (by decide) (by decide) rfl (by decide) (la_as hV h8 h9 hk hn hb hL hN)
    · exact l_tIn 881 dL_law_33 rfl (by decide) (by decide) rfl (by decide) (la_down hV h8 h9 hk hn hb hL hN)
    · exact l_tIn 904 dL_law_33 rfl (by decide) (by decide) rfl (by decide) (la_needs hV h8 h9 hk hn hb hL hN)
    · exact l_tIn 927 dL_law_33 rfl (by decide) (by decide) rfl (by decide) (la_count hV h8 h9 hk hn hb hL hN)
    · exact l_tOut 950 dL_law_33 (by decide) (by decide) (l_widen (by omega) (by omega) (hN E V hV h8 h9))
    · exact l_tOut 950 dL_law_33 (by decide) (by decide) (l_widen (by omega) (by omega) (hN E V hV h8 h9))
    · exact l_tOut 950 dL_law_33 (by decide) (by decide) (l_widen (by omega) (by omega) (hN E V hV h8 h9))
    · exact l_tOut 950 dL_law_33 (by decide) (by decide) (l_widen (by omega) (by omega) (hN E V hV h8 h9))
    · exact l_tOut 950 dL_law_33 (by decide) (by decide) (l_widen (by omega) (by omega) (hN E V hV h8 h9))
    · exact l_tOut 950 dL_law_33 (by decide) (by decide) (l_widen (by omega) (by omega) (hN E V hV h8 h9))
end LLoop

/-! PURE: loads, pushes, what falls -/
/-- what is left for the first support behind m others -/
def rsum (x : Int32) (sh : Nat → Int32) : Nat → Int32
  | 0 => x
  | m + 1 => rsum x sh m - x * sh (m + 1) / 12
def por (x : Int32) (sh : Nat → Int32) (s i : Nat) : Int32 := if i = 0 then rsum x sh (s - 1) else x * sh i / 12
def passd (x : Int32) (sh : Nat → Int32) (on : Nat → Nat) (s : Nat) (L : Nat → Int32) : Nat → Nat → Int32
  | 0 => L
  | i + 1 => upd (passd x sh on s L i) (on i) (passd x sh on s L i (on i) + por x sh s i)
/-- loads and pushes behind the m last of n parts; pv: the push of a load and a thrust -/
def wg (pv : Int32 → Int32 → Int32) (lw : Nat → Int32) (ce ar : Nat → Bool) (sc : Nat → Nat) (on : Nat → Nat → Nat) (sh : Nat → Nat → Int32) (th : Nat → Int32) (n : Nat) : Nat → (Nat → Int32) × (Nat → Int32)
  | 0 => (lw, fun _ => 0)
  | m + 1 =>
    let q := wg pv lw ce ar sc on sh th n m
    let p := n - (m + 1)
    if ce p then q else
      (passd (q.1 p) (sh p) (on p) (sc p) q.1 (sc p),
        if ar p then upd (upd q.2 (on p 0) (q.2 (on p 0) - pv (q.1 p) (th p))) (on p 1) (upd q.2 (on p 0) (q.2 (on p 0) - pv (q.1 p) (th p)) (on p 1) + pv (q.1 p) (th p)) else q.2)
def iabs (x : Int32) : Int32 := if x < 0 then -x else x
/-- the least part that falls, of the last m of n; bg: it is begun and not on centring -/
def fal (L P : Nat → Int32) (bg : Nat → Bool) (be ho pr : Nat → Int32) (n : Nat) : Nat → Int32
  | 0 => -5
  | m + 1 =>
    let p := n - (m + 1)
    if bg p then (if be p < L p then nI p else if ho p + pr p + L p / 4 < iabs (P p) then nI (100 + p) else fal L P bg be ho pr n m) else fal L P bg be ho pr n m
theorem passd_ne {x : Int32} {sh : Nat → Int32} {on : Nat → Nat} {s : Nat} {L : Nat → Int32} {q : Nat} : ∀ i, (∀ k, k < i → on k ≠ q) → passd x sh on s L i q = L q
  | 0, _ => rfl
  | i + 1, h => by
    unfold passd
    rw [pk_un (fun e => h i (Nat.lt_succ_self i) e.symm)]
    exact passd_ne i (fun k hk => h k (Nat.lt_succ_of_lt hk))
theorem passd_cong {x : Int32} {sh : Nat → Int32} {on on' : Nat → Nat} {s : Nat} {L : Nat → Int32} : ∀ i, (∀ k, k < i → on k = on' k) → passd x sh on s L i = passd x sh on' s L i
  | 0, _ => rfl
  | i + 1, h => by
    unfold passd
    rw [passd_cong i (fun k hk => h k (Nat.lt_succ_of_lt hk)), h i (Nat.lt_succ_self i)]

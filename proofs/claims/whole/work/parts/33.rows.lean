/-! Rows: the loops -/
theorem orp {a d p : Nat} (h : a < 8 ^ p) : a ||| d * 8 ^ p = a + d * 8 ^ p := by
  rw [pow8] at h ⊢
  rw [Nat.or_comm, Nat.mul_comm, ← Nat.two_pow_add_eq_or_of_lt h, Nat.add_comm]
def pX7_step : Spc := fun As g Q => ∃ n m : Nat, n ≤ 8 ∧ 1 ≤ n ∧ m < 512 ∧ As = [.int (nI m), .int (nI n)] ∧ Q (some (.int (nI (stN n m)))) g
theorem bq_int {m q : Nat} (hm : m < 512) (hq : q < 32) : (nI m >>> (nI q &&& 31) &&& 1) = 1 ↔ bq m q = true := by
  rw [nx_shr hq (by omega), and1]
  have : nI (m / 2 ^ q % 2) = 1 ↔ m / 2 ^ q % 2 = 1 := nI_eq (b := 1) (by omega) (by omega)
  rw [this]
  unfold bq
  rw [beq_iff_eq]
theorem oX7_step : Ok 0 yX7_step cX7_step 4 (some .int) pX7_step := by
  refine ok_all fun As g Q h => ?_
  obtain ⟨n, m, hn, hn1, hm, rfl, hQ⟩ := h
  refine at_of (fun pc => pc == 4) 40 (fun k pc ls st g' => ∃ p, pc = 4 ∧ ls = [.int (nI m), .int (nI n), .int (nI (pq (fun p => if swf n m p = true then 7 else 0) p)), .int (nI (p + 1))] ∧ st = [] ∧ g' = g ∧ k = n - p ∧ p ≤ n ∧ vis m p = true) (by decide) rfl sX7_step (nl (n := 2) rfl rfl rfl) ?_ ?_
  · exact ⟨n, 0, rfl, rfl, rfl, rfl, by omega, by omega, rfl⟩
  · rintro k pc ls st g' ⟨p, rfl, rfl, rfl, rfl, rfl, hp, hv⟩
    have h24 := p824 (show p ≤ 8 by omega)
    have hlt : pq (fun p => if swf n m p = true then 7 else 0) p < 8 ^ p := pq_lt (fun p _ => by show (if _ then 7 else 0) < 8; split <;> omega)
    refine br_c (fun h => ?_) (fun h => ?_)
    · have h : n ≤ p + 1 := (nI_leI (by omega) (by omega)).mp h
      have e : stN n m = pq (fun p => if swf n m p = true then 7 else 0) p := by
        rcases (show p = n ∨ n = p + 1 by omega) with e | e
        · rw [e]; rfl
        · subst e
          show pq _ p + (if swf (p + 1) m p = true then 7 else 0) * 8 ^ p = _
          rw [if_neg (by simp [swf]), Nat.zero_mul, Nat.add_zero]
      rw [e] at hQ
      exact hQ
    · have h : ¬ n ≤ p + 1 := fun q => h ((nI_leI (by omega) (by omega)).mpr q)
      refine And.intro (fun hb => ?_) (fun hb => ?_)
      · have hb : bq m (p + 1) = false := by
          cases hc : bq m (p + 1) with
          | false => rfl
          | true => exact absurd ((bq_int hm (by omega)).mpr hc) hb
        have hs : swf n m p = true := by simp [swf, hv, hb]; omega
        have e3 : nI (p + 1) + 2 = nI (p + 2 + 1) := nI_add (p + 1) 2
        refine ⟨n - (p + 2), by omega, p + 2, rfl, ?_, rfl, rfl, rfl, by omega, vis_go hv hb⟩
        have e : nI (pq (fun p => if swf n m p = true then 7 else 0) p) ||| 7 <<< ((3 * (nI (p + 1) - 1)) &&& 31) = nI (pq (fun p => if swf n m p = true then 7 else 0) (p + 2)) := by
          rw [nI_pred, show (3 : Int32) = nI 3 from rfl, show (7 : Int32) = nI 7 from rfl, nx_mul, nx_shl (by omega) (by rw [← pow8]; omega), nx_or, ← pow8, orp hlt]
          congr 1
          show _ = pq _ p + (if swf n m p = true then 7 else 0) * 8 ^ p + (if swf n m (p + 1) = true then 7 else 0) * 8 ^ (p + 1)
          rw [if_pos hs, if_neg (by rw [swf_apart hs]; simp), Nat.zero_mul, Nat.add_zero]
        show [Value.int (nI m), .int (nI n), .int _, .int _] = _
        rw [e, e3]
      · have hb : bq m (p + 1) = true := (bq_int hm (by omega)).mp hb
        have hs : swf n m p = false := by simp [swf, hb]
        refine ⟨n - (p + 1), by omega, p + 1, rfl, ?_, rfl, rfl, rfl, by omega, vis_stay hv hb⟩
        have e3 : nI (p + 1) + 1 = nI (p + 1 + 1) := nI_add (p + 1) 1
        have e : pq (fun p => if swf n m p = true then 7 else 0) (p + 1) = pq (fun p => if swf n m p = true then 7 else 0) p := by
          show pq _ p + (if swf n m p = true then 7 else 0) * 8 ^ p = _
          rw [if_neg (by rw [hs]; simp), Nat.zero_mul, Nat.add_zero]
        show [Value.int (nI m), .int (nI n), .int _, .int _] = _
        rw [e, e3]
/-- rounds -/
def rds (n : Nat) : Nat := pq (fun p => p) n
def pX7_rounds : Spc := fun As g Q => ∃ n : Nat, n ≤ 8 ∧ As = [.int (nI n)] ∧ Q (some (.int (nI (rds n)))) g
theorem oX7_rounds : Ok 0 yX7_rounds cX7_rounds 3 (some .int) pX7_rounds := by
  refine ok_all fun As g Q h => ?_
  obtain ⟨n, hn, rfl, hQ⟩ := h
  refine at_of (fun pc => pc == 4) 40 (fun k pc ls st g' => ∃ p, pc = 4 ∧ ls = [.int (nI n), .int (nI (pq (fun p => p) p)), .int (nI p)] ∧ st = [] ∧ g' = g ∧ k = n - p ∧ p ≤ n) (by decide) rfl sX7_rounds (nl (n := 1) rfl rfl rfl) ?_ ?_
  · exact ⟨n, 0, rfl, rfl, rfl, rfl, by omega, by omega⟩
  · rintro k pc ls st g' ⟨p, rfl, rfl, rfl, rfl, rfl, hp⟩
    have h24 := p824 (show p ≤ 8 by omega)
    have hlt : pq (fun p => p) p < 8 ^ p := pq_lt (fun q hq => by show q < 8; omega)
    refine br_c (fun h => ?_) (fun h => ?_)
    · have h : n ≤ p := (nI_leI (by omega) (by omega)).mp h
      have e : p = n := by omega
      subst e
      exact hQ
    · have h : ¬ n ≤ p := fun q => h ((nI_leI (by omega) (by omega)).mpr q)
      refine ⟨n - (p + 1), by omega, p + 1, rfl, ?_, rfl, rfl, rfl, by omega⟩
      have h3 : p * 8 ^ p ≤ 8 * 8 ^ p := Nat.mul_le_mul_right _ (by omega)
      have e : nI (pq (fun p => p) p) ||| nI p <<< ((3 * nI p) &&& 31) = nI (pq (fun p => p) (p + 1)) := by
        rw [show (3 : Int32) = nI 3 from rfl, nx_mul, nx_shl (by omega) (by rw [← pow8]; omega), nx_or, ← pow8, orp hlt]
        rfl
      show [Value.int (nI n), .int _, .int _] = _
      rw [e, nI_1]
def fct : Nat → Nat
  | 0 => 1
  | n + 1 => (n + 1) * fct n
def pX7_howMany : Spc := fun As g Q => ∃ n : Nat, 1 ≤ n ∧ n ≤ 8 ∧ As = [.int (nI n)] ∧ Q (some (.int (nI (fct n)))) g
theorem oX7_howMany : Ok 0 yX7_howMany cX7_howMany 3 (some .int) pX7_howMany := by
  refine ok_all fun As g Q h => ?_
  obtain ⟨n, hn1, hn, rfl, hQ⟩ := h
  refine at_of (fun pc => pc == 4) 40 (fun k pc ls st g' => ∃ p, pc = 4 ∧ ls = [.int (nI n), .int (nI (fct p)), .int (nI (p + 1))] ∧ st = [] ∧ g' = g ∧ k = n - p ∧ 1 ≤ p ∧ p ≤ n) (by decide) rfl sX7_howMany (nl (n := 1) rfl rfl rfl) ?_ ?_
  · exact ⟨n - 1, 1, rfl, rfl, rfl, rfl, by omega, by omega, by omega⟩
  · rintro k pc ls st g' ⟨p, rfl, rfl, rfl, rfl, rfl, hp1, hp⟩
    refine br_c (fun h => ?_) (fun h => ?_)
    · have h : n < p + 1 := (nI_ltI (by omega) (by omega)).mp h
      have e : p = n := by omega
      subst e
      exact hQ
    · have h : ¬ n < p + 1 := fun q => h ((nI_ltI (by omega) (by omega)).mpr q)
      refine ⟨n - (p + 1), by omega, p + 1, rfl, ?_, rfl, rfl, rfl, by omega, by omega⟩
      show [Value.int (nI n), .int (nI (fct p) * nI (p + 1)), .int (nI (p + 1) + 1)] = _
      rw [nx_mul, nI_1, Nat.mul_comm]
      rfl
def pX7_placeOf : Spc := fun As g Q => ∃ b x n p : Nat, x < 2 ^ 24 ∧ n ≤ 8 ∧ b < 9 ∧ p < n ∧ dg x p + 1 = b ∧ (∀ q, q < p → dg x q + 1 ≠ b) ∧ As = [.int (nI b), .int (nI x), .int (nI n)] ∧ Q (some (.int (nI (p + 1)))) g
theorem oX7_placeOf : Ok 1 yX7_placeOf cX7_placeOf 4 (some .int) pX7_placeOf := by
  refine ok_all fun As g Q h => ?_
  obtain ⟨b, x, n, p, hx, hn, hb, hpn, hpb, hq, rfl, hQ⟩ := h
  refine at_of (fun pc => pc == 2) 40 (fun k pc ls st g' => ∃ i, pc = 2 ∧ ls = [.int (nI b), .int (nI x), .int (nI n), .int (nI (i + 1))] ∧ st = [] ∧ g' = g ∧ k = n - i ∧ i ≤ p) (by decide) rfl sX7_placeOf (nl (n := 3) rfl rfl rfl) ?_ ?_
  · exact ⟨n, 0, rfl, rfl, rfl, rfl, by omega, by omega⟩
  · rintro k pc ls st g' ⟨i, rfl, rfl, rfl, rfl, rfl, hi⟩
    have hd := dg_lt x i
    refine br_c (fun h => ?_) (fun h => ?_)
    · have h : n ≤ i + 1 := (nI_leI (by omega) (by omega)).mp h
      have e : n = p + 1 := by omega
      subst e
      exact hQ
    · have h : ¬ n ≤ i + 1 := fun q => h ((nI_leI (by omega) (by omega)).mpr q)
      have eb := bell_at (x := x) (p := i) hx (by omega)
      refine And.intro (fun h1 => ?_) (fun h1 => ?_)
      · have h2 : dg x i + 1 ≠ b := fun e => h1 (by rw [eb, e])
        have h3 : i ≠ p := fun e => h2 (by rw [e]; exact hpb)
        refine ⟨n - (i + 1), by omega, i + 1, rfl, ?_, rfl, rfl, rfl, by omega⟩
        show [Value.int (nI b), .int (nI x), .int (nI n), .int (nI (i + 1) + 1)] = _
        rw [nI_1]
      · have h2 : dg x i + 1 = b := (nI_eq (by omega) (by omega)).mp (by rw [← eb]; exact h1)
        have h3 : i = p := by
          rcases Nat.lt_or_ge i p with h | h
          · exact absurd h2 (hq i h)
          · omega
        subst h3
        exact hQ
/-- the number of a row -/
def numTo (x : Nat) : Nat → Nat
  | 0 => 0
  | p + 1 => numTo x p * 10 + (dg x p + 1)
def num (n x : Nat) : Nat := numTo x n
theorem numTo_lt (x : Nat) : ∀ p, numTo x p < 10 ^ p
  | 0 => Nat.zero_lt_one
  | p + 1 => by
    have h1 := numTo_lt x p
    have h2 := dg_lt x p
    show numTo x p * 10 + (dg x p + 1) < 10 ^ (p + 1)
    rw [Nat.pow_succ]
    omega
def pX7_number : Spc := fun As g Q => ∃ x n : Nat, x < 2 ^ 24 ∧ n ≤ 8 ∧ As = [.int (nI x), .int (nI n)] ∧ Q (some (.int (nI (num n x)))) g
theorem oX7_number : Ok 1 yX7_number cX7_number 4 (some .int) pX7_number := by
  refine ok_all fun As g Q h => ?_
  obtain ⟨x, n, hx, hn, rfl, hQ⟩ := h
  refine at_of (fun pc => pc == 4) 40 (fun k pc ls st g' => ∃ i, pc = 4 ∧ ls = [.int (nI x), .int (nI n), .int (nI (numTo x i)), .int (nI (i + 1))] ∧ st = [] ∧ g' = g ∧ k = n - i ∧ i ≤ n) (by decide) rfl sX7_number (nl (n := 2) rfl rfl rfl) ?_ ?_
  · exact ⟨n, 0, rfl, rfl, rfl, rfl, by omega, by omega⟩
  · rintro k pc ls st g' ⟨i, rfl, rfl, rfl, rfl, rfl, hi⟩
    refine br_c (fun h => ?_) (fun h => ?_)
    · have h : n < i + 1 := (nI_ltI (by omega) (by omega)).mp h
      have e : i = n := by omega
      subst e
      exact hQ
    · have h : ¬ n < i + 1 := fun q => h ((nI_ltI (by omega) (by omega)).mpr q)
      refine ⟨n - (i + 1), by omega, i + 1, rfl, ?_, rfl, rfl, rfl, by omega⟩
      show [Value.int (nI x), .int (nI n), .int (nI (numTo x i) * 10 + ((ushr (nI x) (3 * (nI (i + 1) - 1)) &&& 7) + 1)), .int (nI (i + 1) + 1)] = _
      rw [bell_at hx (by omega), show (10 : Int32) = nI 10 from rfl, nx_mul, nI_add, nI_1]
      rfl
/-- what comes of a row by all that makes the other one of rounds -/
def thr (n x o : Nat) : Nat := pq (fun p => dg x (dg o p)) n
def pX7_through : Spc := fun As g Q => ∃ x o n : Nat, x < 2 ^ 24 ∧ o < 2 ^ 24 ∧ n ≤ 8 ∧ As = [.int (nI x), .int (nI o), .int (nI n)] ∧ Q (some (.int (nI (thr n x o)))) g
theorem dgI {x p : Nat} (hx : x < 2 ^ 24) (hp : p < 8) : ushr (nI x) (nI (3 * p)) &&& 7 = nI (dg x p) := by
  rw [nx_ushr (by omega) (by omega), and7, ← pow8]
  rfl
theorem oX7_through : Ok 0 yX7_through cX7_through 6 (some .int) pX7_through := by
  refine ok_all fun As g Q h => ?_
  obtain ⟨x, o, n, hx, ho, hn, rfl, hQ⟩ := h
  refine at_of (fun pc => pc == 10) 40 (fun k pc ls st g' => ∃ i, pc = 10 ∧ ls = [.int (nI x), .int (nI o), .int (nI n), .int (nI (pq (fun p => dg x (dg o p)) i)), .int (nI (3 * n)), .int (nI (3 * i))] ∧ st = [] ∧ g' = g ∧ k = n - i ∧ i ≤ n) (by decide) rfl sX7_through (nl (n := 3) rfl rfl rfl) ?_ ?_
  · refine ⟨n, 0, rfl, ?_, rfl, rfl, by omega, by omega⟩
    show [Value.int (nI x), .int (nI o), .int (nI n), .int 0, .int (nI 3 * nI n), .int 0] = _
    rw [nx_mul]
    rfl
  · rintro k pc ls st g' ⟨i, rfl, rfl, rfl, rfl, rfl, hi⟩
    have h24 := p824 (show i ≤ 8 by omega)
    have hlt : pq (fun p => dg x (dg o p)) i < 8 ^ i := pq_lt (fun _ _ => dg_lt _ _)
    refine br_c (fun h => ?_) (fun h => ?_)
    · have h : 3 * n ≤ 3 * i := (nI_leI (by omega) (by omega)).mp h
      have e : i = n := by omega
      subst e
      exact hQ
    · have h : ¬ 3 * n ≤ 3 * i := fun q => h ((nI_leI (by omega) (by omega)).mpr q)
      refine ⟨n - (i + 1), by omega, i + 1, rfl, ?_, rfl, rfl, rfl, by omega⟩
      have h1 := dg_lt o i
      have h2 := dg_lt x (dg o i)
      have h3 : dg x (dg o i) * 8 ^ i ≤ 8 * 8 ^ i := Nat.mul_le_mul_right _ (by omega)
      show [Value.int (nI x), .int (nI o), .int (nI n), .int (nI (pq (fun p => dg x (dg o p)) i) ||| (ushr (nI x) (3 * (ushr (nI o) (nI (3 * i)) &&& 7)) &&& 7) <<< (nI (3 * i) &&& 31)), .int (nI (3 * n)), .int (nI (3 * i) + 3)] = _
      rw [dgI ho (by omega), show (3 : Int32) = nI 3 from rfl, nx_mul, dgI hx h1, nx_shl (by omega) (by rw [← pow8]; omega), nx_or, ← pow8, orp hlt, nI_add]
      rfl
theorem dg_at (d q p : Nat) (hd : d < 8) : dg (d * 8 ^ q) p = if p = q then d else 0 := by
  have e : d * 8 ^ q = pq (fun i => if i = q then d else 0) (q + 1) := by
    show _ = pq _ q + (if q = q then d else 0) * 8 ^ q
    rw [if_pos rfl, pq_congr (g := fun _ => 0) (fun p hp => if_neg (by omega))]
    have z : ∀ n, pq (fun _ => 0) n = 0 := by
      intro n
      induction n with
      | zero => rfl
      | succ n ih => show pq _ n + 0 * 8 ^ n = 0; rw [ih, Nat.zero_mul]
    rw [z, Nat.zero_add]
  by_cases hp : p < q + 1
  · rw [e, dg_pq (fun p _ => by show (if _ then d else 0) < 8; split <;> omega) hp]
  · rw [if_neg (by omega)]
    refine dg_big (n := q + 1) ?_ (by omega)
    rw [Nat.pow_succ, Nat.mul_comm]
    exact (Nat.mul_lt_mul_left (p8 q)).mpr hd
def pX7_back : Spc := fun As g Q => ∃ a o n : Nat, a < 2 ^ 24 ∧ o < 2 ^ 24 ∧ n ≤ 8 ∧ (∀ p, p < n → dg o p < n) ∧ (∀ p q, p < n → q < n → dg o p = dg o q → p = q) ∧ As = [.int (nI a), .int (nI o), .int (nI n)] ∧ ∀ y, y < 8 ^ n → (∀ p, p < n → dg y (dg o p) = dg a p) → Q (some (.int (nI y))) g
theorem oX7_back : Ok 0 yX7_back cX7_back 6 (some .int) pX7_back := by
  refine ok_all fun As g Q h => ?_
  obtain ⟨a, o, n, ha, ho, hn, hlo, hinj, rfl, hQ⟩ := h
  refine at_of (fun pc => pc == 10) 40 (fun k pc ls st g' => ∃ i y, pc = 10 ∧ ls = [.int (nI a), .int (nI o), .int (nI n), .int (nI y), .int (nI (3 * n)), .int (nI (3 * i))] ∧ st = [] ∧ g' = g ∧ k = n - i ∧ i ≤ n ∧ y < 8 ^ n ∧ (∀ p, p < i → dg y (dg o p) = dg a p) ∧ (∀ q, (∀ p, p < i → dg o p ≠ q) → dg y q = 0)) (by decide) rfl sX7_back (nl (n := 3) rfl rfl rfl) ?_ ?_
  · refine ⟨n, 0, 0, rfl, ?_, rfl, rfl, by omega, by omega, p8 n, fun p h => absurd h (by omega), fun q _ => by unfold dg; rw [Nat.zero_div]⟩
    show [Value.int (nI a), .int (nI o), .int (nI n), .int 0, .int (nI 3 * nI n), .int 0] = _
    rw [nx_mul]
    rfl
  · rintro k pc ls st g' ⟨i, y, rfl, rfl, rfl, rfl, rfl, hi, hy, h1, h2⟩
    have h24 := p824 hn
    refine br_c (fun h => ?_) (fun h => ?_)
    · have h : 3 * n ≤ 3 * i := (nI_leI (by omega) (by omega)).mp h
      have e : i = n := by omega
      subst e
      exact hQ y hy h1
    · have h : ¬ 3 * n ≤ 3 * i := fun q => h ((nI_leI (by omega) (by omega)).mpr q)
      have hin : i < n := by omega
      have h3 := hlo i hin
      have h4 := dg_lt a i
      have h6 : dg a i * 8 ^ dg o i < 8 ^ n := by
        have : 8 ^ (dg o i + 1) ≤ 8 ^ n := Nat.pow_le_pow_right (by decide) (by omega)
        refine Nat.lt_of_lt_of_le ?_ this
        rw [Nat.pow_succ, Nat.mul_comm]
        exact (Nat.mul_lt_mul_left (p8 _)).mpr h4
      refine ⟨n - (i + 1), by omega, i + 1, y ||| dg a i * 8 ^ dg o i, rfl, ?_, rfl, rfl, rfl, by omega, ?_, ?_, ?_⟩
      · show [Value.int (nI a), .int (nI o), .int (nI n), .int (nI y ||| (ushr (nI a) (nI (3 * i)) &&& 7) <<< ((3 * (ushr (nI o) (nI (3 * i)) &&& 7)) &&& 31)), .int (nI (3 * n)), .int (nI (3 * i) + 3)] = _
        rw [dgI ho (by omega), dgI ha (by omega), show (3 : Int32) = nI 3 from rfl, nx_mul, nx_shl (by omega) (by rw [← pow8]; omega), nx_or, ← pow8, nI_add]
        rfl
      · rw [pow8 n] at hy h6 ⊢
        exact Nat.or_lt_two_pow hy h6
      · intro p hp
        rw [dg_or, dg_at _ _ _ h4]
        by_cases hpi : p = i
        · subst hpi
          rw [if_pos rfl, h2 (dg o p) (fun q hq e => by have := hinj q p (by omega) (by omega) e; omega), Nat.zero_or]
        · rw [if_neg (fun e => hpi (hinj p i (by omega) (by omega) e)), Nat.or_zero]
          exact h1 p (by omega)
      · intro q hq
        rw [dg_or, dg_at _ _ _ h4, if_neg (fun e => hq i (by omega) e.symm), Nat.or_zero]
        exact h2 q (fun p hp => hq p (by omega))

/-! rows as numbers: three bits a place, place 0 lowest -/
def dg (x p : Nat) : Nat := x / 8 ^ p % 8
def pq (f : Nat → Nat) : Nat → Nat
  | 0 => 0
  | n + 1 => pq f n + f n * 8 ^ n
theorem dg_lt (x p : Nat) : dg x p < 8 := Nat.mod_lt _ (by decide)
theorem p8 (n : Nat) : 0 < 8 ^ n := Nat.pow_pos (by decide)
theorem pq_lt {f : Nat → Nat} : ∀ {n : Nat}, (∀ p, p < n → f p < 8) → pq f n < 8 ^ n
  | 0, _ => Nat.zero_lt_one
  | n + 1, h => by
    have h1 := pq_lt (n := n) (fun p hp => h p (by omega))
    have h2 := h n (by omega)
    have h3 : f n * 8 ^ n ≤ 7 * 8 ^ n := Nat.mul_le_mul_right _ (by omega)
    show pq f n + f n * 8 ^ n < 8 ^ (n + 1)
    rw [Nat.pow_succ]
    omega
theorem pq_congr {f g : Nat → Nat} : ∀ {n : Nat}, (∀ p, p < n → f p = g p) → pq f n = pq g n
  | 0, _ => rfl
  | n + 1, h => by
    show pq f n + f n * 8 ^ n = pq g n + g n * 8 ^ n
    rw [pq_congr (n := n) (fun p hp => h p (by omega)), h n (by omega)]
theorem dg_pq {f : Nat → Nat} : ∀ {n : Nat}, (∀ p, p < n → f p < 8) → ∀ {p : Nat}, p < n → dg (pq f n) p = f p
  | 0, _, p, hp => by omega
  | n + 1, h, p, hp => by
    have hl := pq_lt (f := f) (n := n) (fun p hp => h p (by omega))
    show (pq f n + f n * 8 ^ n) / 8 ^ p % 8 = f p
    by_cases hpn : p = n
    · subst hpn
      rw [Nat.add_mul_div_right _ _ (p8 p), Nat.div_eq_of_lt hl, Nat.zero_add, Nat.mod_eq_of_lt (h p hp)]
    · have ih := dg_pq (n := n) (fun p hp => h p (by omega)) (show p < n by omega)
      obtain ⟨m, hm⟩ : ∃ m, n = p + (m + 1) := ⟨n - p - 1, by omega⟩
      have e : f n * 8 ^ n = (f n * 8 ^ m * 8) * 8 ^ p := by
        rw [hm, Nat.pow_add, Nat.pow_succ, Nat.mul_comm (8 ^ p) _, ← Nat.mul_assoc, ← Nat.mul_assoc]
      rw [e, Nat.add_mul_div_right _ _ (p8 p), Nat.add_mul_mod_self_right]
      exact ih
theorem pq_mod (x : Nat) : ∀ n, pq (dg x) n = x % 8 ^ n
  | 0 => by show 0 = x % 1; rw [Nat.mod_one]
  | n + 1 => by
    show pq (dg x) n + dg x n * 8 ^ n = x % 8 ^ (n + 1)
    rw [pq_mod x n, Nat.pow_succ, Nat.mod_mul, Nat.mul_comm (8 ^ n)]
    rfl
theorem pq_dg {x n : Nat} (h : x < 8 ^ n) : pq (dg x) n = x := by rw [pq_mod, Nat.mod_eq_of_lt h]
theorem dg_ext {x y n : Nat} (hx : x < 8 ^ n) (hy : y < 8 ^ n) (h : ∀ p, p < n → dg x p = dg y p) : x = y := by
  rw [← pq_dg hx, ← pq_dg hy]
  exact pq_congr h
theorem pow8 (p : Nat) : 8 ^ p = 2 ^ (3 * p) := by rw [Nat.pow_mul]
theorem dg_shr (x p : Nat) : dg x p = (x >>> (3 * p)) % 2 ^ 3 := by
  rw [Nat.shiftRight_eq_div_pow, ← pow8]
  rfl
theorem dg_xor (x y p : Nat) : dg (x ^^^ y) p = dg x p ^^^ dg y p := by
  rw [dg_shr, dg_shr, dg_shr, Nat.shiftRight_xor_distrib, Nat.xor_mod_two_pow]
theorem dg_and (x y p : Nat) : dg (x &&& y) p = dg x p &&& dg y p := by
  rw [dg_shr, dg_shr, dg_shr, Nat.shiftRight_and_distrib, Nat.and_mod_two_pow]
theorem dg_or (x y p : Nat) : dg (x ||| y) p = dg x p ||| dg y p := by
  rw [dg_shr, dg_shr, dg_shr, Nat.shiftRight_or_distrib, Nat.or_mod_two_pow]
theorem dg_div8 (x p : Nat) : dg (x / 8) p = dg x (p + 1) := by
  unfold dg
  rw [Nat.div_div_eq_div_mul, Nat.pow_succ, Nat.mul_comm]
theorem dg_mul8_0 (x : Nat) : dg (x * 8) 0 = 0 := by
  unfold dg
  rw [Nat.pow_zero, Nat.div_one, Nat.mul_mod_left]
theorem dg_mul8 (x p : Nat) : dg (x * 8) (p + 1) = dg x p := by
  unfold dg
  rw [Nat.pow_succ, Nat.mul_comm (8 ^ p) 8, ← Nat.div_div_eq_div_mul, Nat.mul_div_cancel _ (by decide)]
theorem dg_big {x n p : Nat} (h : x < 8 ^ n) (hp : n ≤ p) : dg x p = 0 := by
  unfold dg
  rw [Nat.div_eq_of_lt (Nat.lt_of_lt_of_le h (Nat.pow_le_pow_right (by decide) hp))]
theorem lt8_of {x n : Nat} (h : ∀ p, n ≤ p → dg x p = 0) : ∀ m, x < 8 ^ (n + m) → x < 8 ^ n
  | 0, hm => hm
  | m + 1, hm => by
    refine lt8_of h m ?_
    have e := h (n + m) (by omega)
    unfold dg at e
    have h1 : x / 8 ^ (n + m) < 8 := by
      rw [Nat.div_lt_iff_lt_mul (p8 _), Nat.mul_comm, ← Nat.pow_succ]
      exact hm
    rw [Nat.mod_eq_of_lt h1] at e
    exact (Nat.div_eq_zero_iff_lt (p8 _)).mp e
/-! the ints -/
theorem nx_and (a b : Nat) : nI a &&& nI b = nI (a &&& b) := by
  apply Int32.toBitVec_inj.1
  show BitVec.ofNat 32 a &&& BitVec.ofNat 32 b = BitVec.ofNat 32 (a &&& b)
  apply BitVec.eq_of_getLsbD_eq
  intro i hi
  simp [hi]
theorem nx_or (a b : Nat) : nI a ||| nI b = nI (a ||| b) := by
  apply Int32.toBitVec_inj.1
  show BitVec.ofNat 32 a ||| BitVec.ofNat 32 b = BitVec.ofNat 32 (a ||| b)
  apply BitVec.eq_of_getLsbD_eq
  intro i hi
  simp [hi]
theorem nx_xor (a b : Nat) : nI a ^^^ nI b = nI (a ^^^ b) := by
  apply Int32.toBitVec_inj.1
  show BitVec.ofNat 32 a ^^^ BitVec.ofNat 32 b = BitVec.ofNat 32 (a ^^^ b)
  apply BitVec.eq_of_getLsbD_eq
  intro i hi
  simp [hi]
theorem shc : ∀ j, j < 32 → ((nI j &&& 31).toBitVec.smod 32).toNat = j := by decide +kernel
theorem shcu : ∀ j, j < 32 → (((nI j).toUInt32 &&& Int32.toUInt32 31).toBitVec % 32).toNat = j := by decide +kernel
theorem nx_shl {a j : Nat} (hj : j < 32) (h : a * 2 ^ j < 2 ^ 32) : nI a <<< (nI j &&& 31) = nI (a * 2 ^ j) := pk_shlN _ j (shc j hj) h
theorem nx_shr {a j : Nat} (hj : j < 32) (h : a < 2 ^ 31) : nI a >>> (nI j &&& 31) = nI (a / 2 ^ j) := pk_shrN h _ j (shc j hj)
theorem nx_ushr {a j : Nat} (hj : j < 32) (h : a < 2 ^ 32) : ushr (nI a) (nI j) = nI (a / 2 ^ j) := pk_ushrN h _ j (shcu j hj)
theorem nx_mul (a b : Nat) : nI a * nI b = nI (a * b) := pk_mul a b
theorem nx_sub {a b : Nat} (h : b ≤ a) : nI a - nI b = nI (a - b) := pk_sub h
theorem nx_add (a b : Nat) : nI a + nI b = nI (a + b) := nI_add a b
theorem lit (n : Nat) : (OfNat.ofNat n : Int32) = nI n := rfl
theorem and7 (a : Nat) : nI a &&& 7 = nI (a % 8) := by
  show nI a &&& nI 7 = _
  rw [nx_and, show (7 : Nat) = 2 ^ 3 - 1 from rfl, Nat.and_two_pow_sub_one_eq_mod]
theorem and1 (a : Nat) : nI a &&& 1 = nI (a % 2) := by
  show nI a &&& nI 1 = _
  rw [nx_and, show (1 : Nat) = 2 ^ 1 - 1 from rfl, Nat.and_two_pow_sub_one_eq_mod]
/-- Rows.bellAt of a row -/
theorem bell_at {x p : Nat} (hx : x < 2 ^ 24) (hp : p < 8) : (ushr (nI x) (3 * (nI (p + 1) - 1)) &&& 7) + 1 = nI (dg x p + 1) := by
  rw [nI_pred, show (3 : Int32) = nI 3 from rfl, nx_mul, nx_ushr (by omega) (by omega), and7, nI_1, ← pow8]
  rfl

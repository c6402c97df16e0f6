/-! numbers of rows -/
def d10 (w j : Nat) : Nat := w / 10 ^ j % 10
theorem p10 (n : Nat) : 0 < 10 ^ n := Nat.pow_pos (by decide)
theorem d10_ext {w v : Nat} : ∀ n, (∀ j, j < n → d10 w j = d10 v j) → w % 10 ^ n = v % 10 ^ n
  | 0, _ => by rw [Nat.pow_zero, Nat.mod_one, Nat.mod_one]
  | n + 1, h => by
    have ih := d10_ext n (fun j hj => h j (by omega))
    have e := h n (by omega)
    unfold d10 at e
    rw [Nat.pow_succ, Nat.mod_mul, Nat.mod_mul, ih, e]
theorem num_div {x : Nat} : ∀ (n j : Nat), j ≤ n → numTo x n / 10 ^ j = numTo x (n - j)
  | n, 0, _ => by rw [Nat.pow_zero, Nat.div_one]; rfl
  | n, j + 1, h => by
    rw [Nat.pow_succ, ← Nat.div_div_eq_div_mul, num_div n j (by omega), show n - j = (n - (j + 1)) + 1 by omega]
    have := dg_lt x (n - (j + 1))
    show (numTo x (n - (j + 1)) * 10 + (dg x (n - (j + 1)) + 1)) / 10 = _
    omega
theorem d10_num {x n j : Nat} (h : j < n) : d10 (num n x) j = dg x (n - 1 - j) + 1 := by
  unfold d10 num
  rw [num_div n j (by omega), show n - j = (n - 1 - j) + 1 by omega]
  have := dg_lt x (n - 1 - j)
  show (numTo x (n - 1 - j) * 10 + (dg x (n - 1 - j) + 1)) % 10 = _
  omega
theorem num_lt {x n : Nat} : num n x < 10 ^ n := numTo_lt x n
/-- w is the number of a row -/
def NV (n w : Nat) : Prop := w < 10 ^ n ∧ (∀ j, j < n → 1 ≤ d10 w j ∧ d10 w j ≤ n) ∧ ∀ i j, i < n → j < n → d10 w i = d10 w j → i = j
/-- the row of a number -/
def ofN (n w : Nat) : Nat := pq (fun q => d10 w (n - 1 - q) - 1) n
theorem dg_ofN {n w q : Nat} (hq : q < n) (h : ∀ j, j < n → d10 w j ≤ 8) : dg (ofN n w) q = d10 w (n - 1 - q) - 1 := dg_pq (f := fun q => d10 w (n - 1 - q) - 1) (fun p hp => by have := h (n - 1 - p) (by omega); show d10 w (n - 1 - p) - 1 < 8; omega) hq
theorem NV.row {n w : Nat} (hn : n ≤ 8) (h : NV n w) : Pm n (ofN n w) ∧ num n (ofN n w) = w := by
  have h8 : ∀ j, j < n → d10 w j ≤ 8 := fun j hj => by have := (h.2.1 j hj).2; omega
  refine ⟨⟨pq_lt (fun p hp => by have := h8 (n - 1 - p) (by omega); show d10 w (n - 1 - p) - 1 < 8; omega), fun p hp => ?_, fun p q hp hq e => ?_⟩, ?_⟩
  · rw [dg_ofN hp h8]
    have := h.2.1 (n - 1 - p) (by omega)
    omega
  · rw [dg_ofN hp h8, dg_ofN hq h8] at e
    have h1 := h.2.1 (n - 1 - p) (by omega)
    have h2 := h.2.1 (n - 1 - q) (by omega)
    have := h.2.2 (n - 1 - p) (n - 1 - q) (by omega) (by omega) (by omega)
    omega
  · have e := d10_ext (w := num n (ofN n w)) (v := w) n (fun j hj => by
      rw [d10_num hj, dg_ofN (by omega) h8, show n - 1 - (n - 1 - j) = j by omega]
      have := (h.2.1 j hj).1
      omega)
    rw [Nat.mod_eq_of_lt num_lt, Nat.mod_eq_of_lt h.1] at e
    exact e
theorem NV_of {n x : Nat} (hx : Pm n x) : NV n (num n x) := by
  refine ⟨num_lt, fun j hj => ?_, fun i j hi hj e => ?_⟩
  · rw [d10_num hj]
    have := hx.2.1 (n - 1 - j) (by omega)
    omega
  · rw [d10_num hi, d10_num hj] at e
    have := hx.2.2 (n - 1 - i) (n - 1 - j) (by omega) (by omega) (by omega)
    omega
theorem p108 {n : Nat} (hn : n ≤ 8) : 10 ^ n ≤ 100000000 := by
  have := Nat.pow_le_pow_right (n := 10) (by decide) hn
  exact Nat.le_trans this (by decide)
/-- the digits that were met, from behind -/
def ors (w : Nat) : Nat → Nat
  | 0 => 0
  | k + 1 => ors w k ||| 2 ^ d10 w k
theorem d10_lt (w j : Nat) : d10 w j < 10 := Nat.mod_lt _ (by decide)
theorem ors_lt (w : Nat) : ∀ k, ors w k < 2 ^ 10
  | 0 => by show 0 < 2 ^ 10; decide
  | k + 1 => Nat.or_lt_two_pow (ors_lt w k) (Nat.pow_lt_pow_right (by decide) (d10_lt w k))
theorem ors_bit {w b : Nat} : ∀ k, (ors w k).testBit b = true ↔ ∃ j, j < k ∧ d10 w j = b
  | 0 => by
    constructor
    · intro h; rw [show ors w 0 = 0 from rfl, Nat.zero_testBit] at h; cases h
    · rintro ⟨j, h, -⟩; omega
  | k + 1 => by
    show (ors w k ||| 2 ^ d10 w k).testBit b = true ↔ _
    rw [Nat.testBit_or, Bool.or_eq_true, ors_bit k, Nat.testBit_two_pow, decide_eq_true_eq]
    constructor
    · rintro (⟨j, h1, h2⟩ | h)
      · exact ⟨j, by omega, h2⟩
      · exact ⟨k, by omega, h⟩
    · rintro ⟨j, h1, h2⟩
      by_cases e : j = k
      · exact Or.inr (by rw [← e]; exact h2)
      · exact Or.inl ⟨j, by omega, h2⟩
theorem full_bit : ∀ n, n ≤ 8 → ∀ b, b < 32 → (2 ^ (n + 1) - 2).testBit b = (decide (1 ≤ b) && decide (b ≤ n)) := by decide +kernel
theorem full_lt : ∀ n, n ≤ 8 → 2 ^ (n + 1) - 2 < 2 ^ 10 := by decide +kernel
theorem NV_iff {n w : Nat} (hn : n ≤ 8) : NV n w ↔ (w / 10 ^ n = 0 ∧ ors w n = 2 ^ (n + 1) - 2) := by
  have hfull : ors w n = 2 ^ (n + 1) - 2 ↔ ∀ b, (∃ j, j < n ∧ d10 w j = b) ↔ (1 ≤ b ∧ b ≤ n) := by
    constructor
    · intro h b
      rw [← ors_bit n, h]
      by_cases hb : b < 32
      · rw [full_bit n hn b hb, Bool.and_eq_true, decide_eq_true_eq, decide_eq_true_eq]
      · rw [Nat.testBit_lt_two_pow (Nat.lt_of_lt_of_le (full_lt n hn) (Nat.pow_le_pow_right (by decide) (by omega)))]
        constructor
        · intro z; cases z
        · intro z; omega
    · intro h
      apply Nat.eq_of_testBit_eq
      intro b
      by_cases hb : b < 32
      · rw [full_bit n hn b hb]
        cases hc : (ors w n).testBit b with
        | true =>
          have := (h b).mp ((ors_bit n).mp hc)
          simp [this.1, this.2]
        | false =>
          cases hd : (decide (1 ≤ b) && decide (b ≤ n)) with
          | false => rfl
          | true =>
            rw [Bool.and_eq_true, decide_eq_true_eq, decide_eq_true_eq] at hd
            rw [(ors_bit n).mpr ((h b).mpr hd)] at hc
            cases hc
      · rw [Nat.testBit_lt_two_pow (Nat.lt_of_lt_of_le (full_lt n hn) (Nat.pow_le_pow_right (by decide) (by omega))), Nat.testBit_lt_two_pow (Nat.lt_of_lt_of_le (ors_lt w n) (Nat.pow_le_pow_right (by decide) (by omega)))]
  rw [hfull, Nat.div_eq_zero_iff_lt (p10 n)]
  constructor
  · rintro ⟨h1, h2, h3⟩
    refine ⟨h1, fun b => ⟨?_, ?_⟩⟩
    · rintro ⟨j, hj, rfl⟩; exact h2 j hj
    · intro hb
      obtain ⟨hP, hw⟩ := NV.row hn ⟨h1, h2, h3⟩
      obtain ⟨p, hp, e⟩ := hP.onto (show b - 1 < n by omega)
      refine ⟨n - 1 - p, by omega, ?_⟩
      rw [← hw, d10_num (by omega), show n - 1 - (n - 1 - p) = p by omega, e]
      omega
  · rintro ⟨h1, h2⟩
    refine ⟨h1, fun j hj => (h2 _).mp ⟨j, hj, rfl⟩, ?_⟩
    have hc : ∀ v, ∃ j, v < n → j < n ∧ d10 w j = v + 1 := fun v => by
      by_cases hv : v < n
      · obtain ⟨j, hj⟩ := (h2 (v + 1)).mpr ⟨by omega, by omega⟩
        exact ⟨j, fun _ => hj⟩
      · exact ⟨0, fun z => absurd z hv⟩
    obtain ⟨gi, hgi⟩ := Classical.axiomOfChoice hc
    have hinj : ∀ p q, p < n → q < n → gi p = gi q → p = q := by
      intro p q hp hq e
      have a1 := (hgi p hp).2
      have a2 := (hgi q hq).2
      rw [e] at a1
      omega
    have honto : ∀ v, v < n → ∃ p, p < n ∧ gi p = v := by
      intro v hv
      have h5 := sm_perm n gi (fun q hq => (hgi q hq).1) hinj (fun w => if w = v then 1 else 0)
      rw [sm_one v hv] at h5
      obtain ⟨p, hp, h6⟩ := sm_pos (f := fun q => (fun w => if w = v then 1 else 0) (gi q)) (n := n) (by rw [h5]; decide)
      refine ⟨p, hp, ?_⟩
      have h6 : 0 < if gi p = v then 1 else 0 := h6
      split at h6
      · assumption
      · omega
    intro i j hi hj e
    obtain ⟨p, hp, rfl⟩ := honto i hi
    obtain ⟨q, hq, rfl⟩ := honto j hj
    have a1 := (hgi p hp).2
    have a2 := (hgi q hq).2
    have : p = q := by omega
    rw [this]
theorem neg_or (v : Int32) : v < 0 ∨ ∃ w, w < 2 ^ 31 ∧ v = nI w := by
  by_cases h : v < 0
  · exact Or.inl h
  · exact Or.inr (nI_of h)
def pX11_layNumber : Spc := fun As g Q => ∃ L iF aI aL n v, g = Mg L iF aI aL ∧ As = [.ref 32, .int v] ∧ 4 ≤ n ∧ n ≤ 8 ∧ aI 33 0 = nI n ∧ (∀ w f, NV n w → v = nI w → MR n (ofN n w) f → Q (some (.int 1)) (Mg L iF (up1 aI 38 f) aL)) ∧ ∀ f, (∀ w, NV n w → v ≠ nI w) → Q (some (.int 0)) (Mg L iF (up1 aI 38 f) aL)
set_option maxHeartbeats 4000000 in
theorem oX11_layNumber : Ok 1 yX11_layNumber cX11_layNumber 5 (some .boolean) pX11_layNumber := by
  refine ok_all fun As g Q h => ?_
  obtain ⟨L, iF, aI, aL, n, v, rfl, rfl, hn4, hn, hN, hQ1, hQ0⟩ := h
  have i0 : vp_in 0 85 := vp_in_nI (n := 0) (N := 85) (by omega) (by omega)
  refine at_of (fun pc => pc == 10) 80 (fun m pc ls st g' => ∃ p r s f, pc = 10 ∧ ls = [.ref 32, .int v, .int r, .int s, .int (nI p)] ∧ st = [] ∧ g' = Mg L iF (up1 aI 38 f) aL ∧ m = p ∧ p ≤ n ∧ (∀ w, w < 2 ^ 31 → v = nI w → r = nI (w / 10 ^ (n - p)) ∧ s = nI (ors w (n - p)) ∧ ∀ q, p ≤ q → q < n → f (q + 1) = nI (d10 w (n - 1 - q)))) (by decide) rfl sX11_layNumber (nl (n := 2) rfl rfl rfl) ?_ ?_
  · refine And.intro i0 ?_
    refine ⟨n, n, v, 0, aI 38, rfl, ?_, rfl, ?_, rfl, by omega, fun w hw e => ⟨?_, ?_, fun q h1 h2 => by omega⟩⟩
    · show [Value.ref 32, .int v, .int v, .int 0, .int (aI 33 0)] = _
      rw [hN]
    · show (SH (true, L), iF, aI, aL) = (SH (true, L), iF, up1 aI 38 (aI 38), aL)
      rw [up1_id]
    · rw [Nat.sub_self, Nat.pow_zero, Nat.div_one]; exact e
    · rw [Nat.sub_self]; rfl
  · rintro m pc ls st g' ⟨p, r, s, f, rfl, rfl, rfl, rfl, rfl, hp, hw⟩
    refine br_c (fun h => ?_) (fun h => ?_)
    · have h : m < 1 := (nI_ltI (b := 1) (by omega) (by omega)).mp h
      have e : m = 0 := by omega
      subst e
      rw [Nat.sub_zero] at hw
      have no : (∀ w, NV n w → v ≠ nI w) → ((0 : Int32) = 0 ∨ (0 : Int32) = 1) ∧ Q (some (.int 0)) (Mg L iF (up1 aI 38 f) aL) := fun hno => ⟨Or.inl rfl, hQ0 f hno⟩
      have nvlt : ∀ w, NV n w → w < 2 ^ 31 := fun w h => by
        have := h.1
        have := p108 hn
        omega
      refine br_c (fun h1 => ?_) (fun h1 => ?_)
      · have h1 : v ≤ 0 := h1
        refine no (fun w hw2 e => ?_)
        subst e
        have h3 : w ≤ 0 := (nI_leI (b := 0) (nvlt w hw2) (by omega)).mp h1
        have h4 := (hw2.2.1 0 (by omega)).1
        have e0 : w = 0 := by omega
        subst e0
        exact absurd h4 (by unfold d10; rw [Nat.zero_div]; decide)
      · have h1 : ¬ v ≤ 0 := h1
        obtain ⟨w, hwl, rfl⟩ : ∃ w, w < 2 ^ 31 ∧ v = nI w := by
          rcases neg_or v with z | z
          · exact absurd (Int32.le_of_lt z) h1
          · exact z
        obtain ⟨a1, a2, a3⟩ := hw w hwl rfl
        have uq : ∀ w', NV n w' → nI w = nI w' → w = w' := fun w' h e => (nI_eq hwl (nvlt w' h)).mp e
        refine And.intro (fun h2 => ?_) (fun h2 => ?_)
        · have h2 : ¬ r = 0 := h2
          rw [a1] at h2
          refine no (fun w' hw2 e => ?_)
          have e := uq w' hw2 e
          subst e
          exact h2 (by rw [((NV_iff hn).mp hw2).1]; rfl)
        · have h2 : r = 0 := h2
          rw [a1] at h2
          have h2 : w / 10 ^ n = 0 := (nI_eq (b := 0) (Nat.lt_of_le_of_lt (Nat.div_le_self _ _) hwl) (by omega)).mp h2
          refine And.intro i0 ?_
          have e1 : (1 : Int32) <<< ((aI 33 0 + 1) &&& 31) - 2 = nI (2 ^ (n + 1) - 2) := by
            have h9 : 2 ^ (n + 1) ≤ 2 ^ 9 := Nat.pow_le_pow_right (by decide) (by omega)
            have h8 : 2 ^ 1 ≤ 2 ^ (n + 1) := Nat.pow_le_pow_right (by decide) (by omega)
            rw [hN, nI_1, show (1 : Int32) = nI 1 from rfl, nx_shl (by omega) (by omega), Nat.one_mul, show (2 : Int32) = nI 2 from rfl, nx_sub (by omega)]
          have hol := ors_lt w n
          have hfl := full_lt n hn
          refine And.intro (fun h3 => ?_) (fun h3 => ?_)
          · have h3 : ¬ s = (1 : Int32) <<< ((aI 33 0 + 1) &&& 31) - 2 := h3
            rw [e1, a2] at h3
            refine no (fun w' hw2 e => ?_)
            have e := uq w' hw2 e
            subst e
            exact h3 (by rw [((NV_iff hn).mp hw2).2])
          · have h3 : s = (1 : Int32) <<< ((aI 33 0 + 1) &&& 31) - 2 := h3
            rw [e1, a2] at h3
            have h3 : ors w n = 2 ^ (n + 1) - 2 := (nI_eq (by omega) (by omega)).mp h3
            have hnv : NV n w := (NV_iff hn).mpr ⟨h2, h3⟩
            refine And.intro (Or.inr rfl) (hQ1 w f hnv rfl (fun q hq => ?_))
            rw [a3 q (by omega) hq, dg_ofN hq (fun j hj => by have := (hnv.2.1 j hj).2; omega)]
            have := (hnv.2.1 (n - 1 - q) (by omega)).1
            rw [show d10 w (n - 1 - q) - 1 + 1 = d10 w (n - 1 - q) by omega]
    · have h : ¬ m < 1 := fun q => h ((nI_ltI (b := 1) (by omega) (by omega)).mpr q)
      obtain ⟨p, rfl⟩ : ∃ z, m = z + 1 := ⟨m - 1, by omega⟩
      refine And.intro (by decide) (And.intro (vp_in_nI (by omega) (by omega)) (And.intro (vp_in_nI (by omega) (by omega)) (And.intro (by decide) ?_)))
      refine ⟨p, by omega, p, r / 10, s ||| 1 <<< ((r - r / 10 * 10) &&& 31), up1 f (p + 1) (r - r / 10 * 10), rfl, ?_, rfl, ?_, rfl, by omega, fun w hwl e => ?_⟩
      · show [Value.ref 32, .int v, .int (r / 10), .int (s ||| 1 <<< ((up1 f (nI (p + 1)).toNatClampNeg (r - r / 10 * 10) (nI (p + 1)).toNatClampNeg) &&& 31)), .int (nI (p + 1) + (-1))] = _
        rw [up1_s, pk_m1]
      · show (SH (true, L), iF, up1 (up1 aI 38 f) 38 (up1 (up1 aI 38 f 38) (nI (p + 1)).toNatClampNeg (r - r / 10 * 10)), aL) = _
        rw [up1_up1, up1_s, cl1 (by omega)]
      · obtain ⟨a1, a2, a3⟩ := hw w hwl e
        have hdl : w / 10 ^ (n - (p + 1)) < 2 ^ 31 := Nat.lt_of_le_of_lt (Nat.div_le_self _ _) hwl
        have e10 : r - r / 10 * 10 = nI (d10 w (n - (p + 1))) := by rw [a1]; exact pk_rem (d := 10) hdl (by omega) (by omega)
        have ed : r / 10 = nI (w / 10 ^ (n - p)) := by
          rw [a1, show n - p = n - (p + 1) + 1 by omega, Nat.pow_succ, ← Nat.div_div_eq_div_mul]
          exact pk_div (d := 10) hdl (by omega) (by omega)
        have hd := d10_lt w (n - (p + 1))
        have h2p : 2 ^ d10 w (n - (p + 1)) ≤ 2 ^ 9 := Nat.pow_le_pow_right (by decide) (by omega)
        refine ⟨ed, ?_, fun q h1 h2 => ?_⟩
        · rw [e10, a2, show (1 : Int32) = nI 1 from rfl, nx_shl (by omega) (by omega), Nat.one_mul, nx_or, show n - p = n - (p + 1) + 1 by omega]
          rfl
        · by_cases hqp : q = p
          · subst hqp
            rw [up1_s, e10, show n - 1 - q = n - (q + 1) by omega]
          · rw [up1_n _ _ (by omega)]
            exact a3 q (by omega) h2
def pX7_ofNumber : Spc := fun As g Q => ∃ n v, As = [.int v, .int (nI n)] ∧ 4 ≤ n ∧ n ≤ 8 ∧ (∀ w, NV n w → v = nI w → Q (some (.int (nI (ofN n w)))) g) ∧ ((∀ w, NV n w → v ≠ nI w) → Q (some (.int (-1))) g)

theorem tb_iff (m q : Nat) : m.testBit q = true ↔ m / 2 ^ q % 2 = 1 := by
  first
    | (rw [Nat.testBit_to_div_mod, decide_eq_true_eq]; done)
    | (rw [Nat.testBit_eq_decide_div_mod_eq, decide_eq_true_eq]; done)
    | (simp [Nat.testBit, Nat.shiftRight_eq_div_pow, Nat.and_comm, Nat.and_one_is_mod]; done)
theorem tb_int {m q : Nat} (hm : m < 2 ^ 30) (hq : q < 32) : (nI m >>> (nI q &&& 31) &&& 1) = 1 ↔ m.testBit q = true := by
  rw [nx_shr hq (by omega), and1, tb_iff]
  exact nI_eq (b := 1) (by omega) (by omega)
theorem neg_rem {v : Int32} (h : v < 0) : v - v / 10 * 10 < 1 := by
  rw [Int32.lt_iff_toInt_lt, rem_toInt]
  have h1 : v.toInt < 0 := by simpa using Int32.lt_iff_toInt_lt.mp h
  have e : v.toInt.tmod (10 : Int32).toInt = -((-v.toInt).tmod 10) := by
    rw [show (10 : Int32).toInt = 10 from by decide]
    first | (rw [Int.neg_tmod, Int.neg_neg]; done) | (simp [Int.neg_tmod]; done)
  rw [e, show (1 : Int32).toInt = 1 from by decide]
  have : 0 ≤ (-v.toInt).tmod 10 := by
    rw [Int.tmod_eq_emod_of_nonneg (by omega)]
    exact Int.emod_nonneg _ (by decide)
  omega
set_option maxHeartbeats 4000000 in
theorem oX7_ofNumber : Ok 0 yX7_ofNumber cX7_ofNumber 7 (some .int) pX7_ofNumber := by
  refine ok_all fun As g Q h => ?_
  obtain ⟨n, v, rfl, hn4, hn, hQ1, hQ0⟩ := h
  have nvlt : ∀ w, NV n w → w < 2 ^ 31 := fun w h => by
    have := h.1
    have := p108 hn
    omega
  refine at_of (fun pc => pc == 10) 80 (fun m pc ls st g' => ∃ p r u y z, pc = 10 ∧ ls = [.int v, .int (nI n), .int (nI y), .int r, .int u, .int (nI p), z] ∧ st = [] ∧ g' = g ∧ m = p ∧ p ≤ n ∧ (v < 0 → p = n ∧ r = v) ∧ (∀ w, w < 2 ^ 31 → v = nI w → r = nI (w / 10 ^ (n - p)) ∧ u = nI (ors w (n - p)) ∧ y < 8 ^ n ∧ (∀ q, p ≤ q → q < n → dg y q = d10 w (n - 1 - q) - 1) ∧ (∀ q, q < p → dg y q = 0) ∧ (∀ j, j < n - p → 1 ≤ d10 w j ∧ d10 w j ≤ n) ∧ ∀ i j, i < n - p → j < n - p → d10 w i = d10 w j → i = j)) (by decide) rfl sX7_ofNumber (nl (n := 2) rfl rfl rfl) ?_ ?_
  · refine ⟨n, n, v, 0, 0, U_, rfl, rfl, rfl, rfl, rfl, by omega, fun _ => ⟨rfl, rfl⟩, fun w hw e => ⟨?_, ?_, p8 n, fun q h1 h2 => by omega, fun q hq => ?_, fun j hj => by omega, fun i j hi => by omega⟩⟩
    · rw [Nat.sub_self, Nat.pow_zero, Nat.div_one]; exact e
    · rw [Nat.sub_self]; rfl
    · unfold dg; rw [Nat.zero_div]
  · rintro m pc ls st g' ⟨p, r, u, y, z, rfl, rfl, rfl, rfl, rfl, hp, hneg, hw⟩
    refine br_c (fun h => ?_) (fun h => ?_)
    · have h : m < 1 := (nI_ltI (b := 1) (by omega) (by omega)).mp h
      have e : m = 0 := by omega
      subst e
      rw [Nat.sub_zero] at hw
      obtain ⟨w, hwl, rfl⟩ : ∃ w, w < 2 ^ 31 ∧ v = nI w := by
        rcases neg_or v with z | z
        · have := (hneg z).1; omega
        · exact z
      obtain ⟨a1, a2, a3, a4, a5, a6, a7⟩ := hw w hwl rfl
      refine And.intro (fun h2 => ?_) (fun h2 => ?_)
      · have h2 : ¬ r = 0 := h2
        rw [a1] at h2
        refine hQ0 (fun w' hw2 e => ?_)
        have e := (nI_eq hwl (nvlt w' hw2)).mp e
        subst e
        exact h2 (by rw [((NV_iff hn).mp hw2).1]; rfl)
      · have h2 : r = 0 := h2
        rw [a1] at h2
        have h2 : w / 10 ^ n = 0 := (nI_eq (b := 0) (Nat.lt_of_le_of_lt (Nat.div_le_self _ _) hwl) (by omega)).mp h2
        have hnv : NV n w := ⟨(Nat.div_eq_zero_iff_lt (p10 n)).mp h2, a6, a7⟩
        have e : y = ofN n w := by
          refine dg_ext a3 (NV.row hn hnv).1.1 (fun q hq => ?_)
          rw [a4 q (by omega) hq, dg_ofN hq (fun j hj => by have := (a6 j hj).2; omega)]
        rw [e]
        exact hQ1 w hnv rfl
    · have h : ¬ m < 1 := fun q => h ((nI_ltI (b := 1) (by omega) (by omega)).mpr q)
      obtain ⟨p, rfl⟩ : ∃ z, m = z + 1 := ⟨m - 1, by omega⟩
      refine And.intro (by decide) ?_
      rcases neg_or v with hv | ⟨w, hwl, rfl⟩
      · have hr := (hneg hv).2
        subst hr
        refine br_t (neg_rem hv) (hQ0 (fun w hw2 e => ?_))
        rw [e] at hv
        exact absurd hv (nI_pos (nvlt w hw2))
      · obtain ⟨a1, a2, a3, a4, a5, a6, a7⟩ := hw w hwl rfl
        have hdl : w / 10 ^ (n - (p + 1)) < 2 ^ 31 := Nat.lt_of_le_of_lt (Nat.div_le_self _ _) hwl
        have e10 : r - r / 10 * 10 = nI (d10 w (n - (p + 1))) := by rw [a1]; exact pk_rem (d := 10) hdl (by omega) (by omega)
        have ed : r / 10 = nI (w / 10 ^ (n - p)) := by
          rw [a1, show n - p = n - (p + 1) + 1 by omega, Nat.pow_succ, ← Nat.div_div_eq_div_mul]
          exact pk_div (d := 10) hdl (by omega) (by omega)
        have hd := d10_lt w (n - (p + 1))
        have hol := ors_lt w (n - (p + 1))
        have no : (∀ hnv : NV n w, False) → Q (some (.int (-1))) g' := fun hno => hQ0 (fun w' hw2 e => by
          have e := (nI_eq hwl (nvlt w' hw2)).mp e
          subst e
          exact hno hw2)
        refine br_c (fun h1 => ?_) (fun h1 => ?_)
        · have h1 : r - r / 10 * 10 < 1 := h1
          rw [e10] at h1
          have h1 : d10 w (n - (p + 1)) < 1 := (nI_ltI (b := 1) (by omega) (by omega)).mp h1
          refine no (fun hnv => ?_)
          have := (hnv.2.1 (n - (p + 1)) (by omega)).1
          omega
        · have h1 : ¬ r - r / 10 * 10 < 1 := h1
          rw [e10] at h1
          have h1 : ¬ d10 w (n - (p + 1)) < 1 := fun z => h1 ((nI_ltI (b := 1) (by omega) (by omega)).mpr z)
          refine br_c (fun h2 => ?_) (fun h2 => ?_)
          · have h2 : nI n < r - r / 10 * 10 := h2
            rw [e10] at h2
            have h2 : n < d10 w (n - (p + 1)) := (nI_ltI (by omega) (by omega)).mp h2
            refine no (fun hnv => ?_)
            have := (hnv.2.1 (n - (p + 1)) (by omega)).2
            omega
          · have h2 : ¬ nI n < r - r / 10 * 10 := h2
            rw [e10] at h2
            have h2 : ¬ n < d10 w (n - (p + 1)) := fun z => h2 ((nI_ltI (by omega) (by omega)).mpr z)
            refine And.intro (fun h3 => ?_) (fun h3 => ?_)
            · have h3 : ¬ (u >>> ((r - r / 10 * 10) &&& 31) &&& 1) = 1 := h3
              rw [e10, a2, tb_int (by omega) (by omega), ors_bit] at h3
              have h2p : 2 ^ d10 w (n - (p + 1)) ≤ 2 ^ 9 := Nat.pow_le_pow_right (by decide) (by omega)
              have h4 : d10 w (n - (p + 1)) - 1 < 8 := by omega
              have h6 : (d10 w (n - (p + 1)) - 1) * 8 ^ p < 8 ^ n := by
                have : 8 ^ (p + 1) ≤ 8 ^ n := Nat.pow_le_pow_right (by decide) (by omega)
                refine Nat.lt_of_lt_of_le ?_ this
                rw [Nat.pow_succ, Nat.mul_comm]
                exact (Nat.mul_lt_mul_left (p8 _)).mpr h4
              have h824 := p824 hn
              refine And.intro (by decide) ?_
              refine ⟨p, by omega, p, r / 10, u ||| 1 <<< ((r - r / 10 * 10) &&& 31), y ||| (d10 w (n - (p + 1)) - 1) * 8 ^ p, .int (r - r / 10 * 10), rfl, ?_, rfl, rfl, rfl, by omega, fun z => absurd z (nI_pos hwl), fun w2 hw2 e2 => ?_⟩
              · show [Value.int (nI w), .int (nI n), .int (nI y ||| (r - r / 10 * 10 - 1) <<< ((3 * (nI (p + 1) - 1)) &&& 31)), .int (r / 10), .int (u ||| 1 <<< ((r - r / 10 * 10) &&& 31)), .int (nI (p + 1) + (-1)), .int (r - r / 10 * 10)] = _
                have ey : nI y ||| (r - r / 10 * 10 - 1) <<< ((3 * (nI (p + 1) - 1)) &&& 31) = nI (y ||| (d10 w (n - (p + 1)) - 1) * 8 ^ p) := by
                  rw [e10, nI_pred, show (1 : Int32) = nI 1 from rfl, nx_sub (by omega), show (3 : Int32) = nI 3 from rfl, nx_mul, nx_shl (by omega) (by rw [← pow8]; omega), nx_or, ← pow8]
                rw [ey, pk_m1]
              · have e2 := (nI_eq hwl hw2).mp e2
                subst e2
                refine ⟨ed, ?_, ?_, fun q q1 q2 => ?_, fun q hq => ?_, fun j hj => ?_, fun i j hi hj e => ?_⟩
                · rw [e10, a2, show (1 : Int32) = nI 1 from rfl, nx_shl (by omega) (by omega), Nat.one_mul, nx_or, show n - p = n - (p + 1) + 1 by omega]
                  rfl
                · rw [pow8 n] at a3 h6 ⊢
                  exact Nat.or_lt_two_pow a3 h6
                · rw [dg_or, dg_at _ _ _ h4]
                  by_cases hqp : q = p
                  · subst hqp
                    rw [if_pos rfl, a5 q (by omega), Nat.zero_or, show n - 1 - q = n - (q + 1) by omega]
                  · rw [if_neg hqp, Nat.or_zero]
                    exact a4 q (by omega) q2
                · rw [dg_or, dg_at _ _ _ h4, if_neg (by omega), Nat.or_zero]
                  exact a5 q (by omega)
                · by_cases ej : j = n - (p + 1)
                  · subst ej; omega
                  · exact a6 j (by omega)
                · by_cases ei : i = n - (p + 1)
                  · by_cases ej : j = n - (p + 1)
                    · omega
                    · exfalso
                      exact h3 ⟨j, by omega, by rw [← e, ei]⟩
                  · by_cases ej : j = n - (p + 1)
                    · exfalso
                      exact h3 ⟨i, by omega, by rw [e, ej]⟩
                    · exact a7 i j (by omega) (by omega) e
            · have h3 : (u >>> ((r - r / 10 * 10) &&& 31) &&& 1) = 1 := h3
              rw [e10, a2, tb_int (by omega) (by omega), ors_bit] at h3
              obtain ⟨j, hj, ej⟩ := h3
              refine no (fun hnv => ?_)
              have := hnv.2.2 j (n - (p + 1)) (by omega) (by omega) ej
              omega
/-! letters of a touch by its number -/
def pX11_letterIn : Spc := fun As g Q => ∃ w n l, As = [.ref 32, .int (nI w), .int (nI n), .int (nI l)] ∧ w < 2 ^ 31 ∧ l < n ∧ n ≤ 5 ∧ Q (some (.int (nI (w / 3 ^ (n - 1 - l) % 3)))) g
theorem oX11_letterIn : Ok 0 yX11_letterIn cX11_letterIn 6 (some .int) pX11_letterIn := by
  refine ok_all fun As g Q h => ?_
  obtain ⟨w, n, l, rfl, hw, hl, hn, hQ⟩ := h
  refine at_of (fun pc => pc == 8) 60 (fun m pc ls st g' => ∃ k, pc = 8 ∧ ls = [.ref 32, .int (nI w), .int (nI n), .int (nI l), .int (nI (w / 3 ^ (n - 1 - k))), .int (nI k)] ∧ st = [] ∧ g' = g ∧ m = k ∧ l ≤ k ∧ k < n) (by decide) rfl sX11_letterIn (nl (n := 4) rfl rfl rfl) ?_ ?_
  · refine ⟨n - 1, n - 1, rfl, ?_, rfl, rfl, rfl, by omega, by omega⟩
    show [Value.ref 32, .int (nI w), .int (nI n), .int (nI l), .int (nI w), .int (nI n - nI 1)] = _
    rw [Nat.sub_self, Nat.pow_zero, Nat.div_one, nx_sub (by omega)]
  · rintro m pc ls st g' ⟨k, rfl, rfl, rfl, rfl, rfl, hk, hkn⟩
    have hdl : w / 3 ^ (n - 1 - m) < 2 ^ 31 := Nat.lt_of_le_of_lt (Nat.div_le_self _ _) hw
    refine br_c (fun h => ?_) (fun h => ?_)
    · have h : m ≤ l := (nI_leI (by omega) (by omega)).mp h
      have e : m = l := by omega
      subst e
      refine And.intro (by decide) ?_
      have e1 : nI (w / 3 ^ (n - 1 - m)) - nI (w / 3 ^ (n - 1 - m)) / 3 * 3 = nI (w / 3 ^ (n - 1 - m) % 3) := pk_rem (d := 3) hdl (by omega) (by omega)
      rw [← e1] at hQ
      exact hQ
    · have h : ¬ m ≤ l := fun q => h ((nI_leI (by omega) (by omega)).mpr q)
      obtain ⟨m, rfl⟩ : ∃ z, m = z + 1 := ⟨m - 1, by omega⟩
      refine And.intro (by decide) ?_
      refine ⟨m, by omega, m, rfl, ?_, rfl, rfl, rfl, by omega, by omega⟩
      have e1 : nI (w / 3 ^ (n - 1 - (m + 1))) / 3 = nI (w / 3 ^ (n - 1 - (m + 1)) / 3) := pk_div (d := 3) hdl (by omega) (by omega)
      show [Value.ref 32, .int (nI w), .int (nI n), .int (nI l), .int (nI (w / 3 ^ (n - 1 - (m + 1))) / 3), .int (nI (m + 1) + (-1))] = _
      rw [e1, pk_m1, Nat.div_div_eq_div_mul, ← Nat.pow_succ, show (n - 1 - (m + 1)).succ = n - 1 - m by omega]

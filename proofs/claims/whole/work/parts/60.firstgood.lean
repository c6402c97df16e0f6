def fnd (P : Nat → Bool) (i : Nat) : Nat → Option Nat
  | 0 => none
  | k + 1 => if P i = true then some i else fnd P (i + 1) k
theorem fnd_lt {P : Nat → Bool} : ∀ {k i w : Nat}, fnd P i k = some w → i ≤ w ∧ w < i + k
  | 0, _, _, h => by cases h
  | k + 1, i, w, h => by
    have h : (if P i = true then some i else fnd P (i + 1) k) = some w := h
    split at h
    · cases h; omega
    · have := fnd_lt h; omega
def oI (o : Option Nat) : Int32 := match o with
  | some w => nI w
  | none => -6
theorem p3_le {n : Nat} (h : n ≤ 5) : 3 ^ n ≤ 243 := by
  have := Nat.pow_le_pow_right (n := 3) (by decide) h
  exact Nat.le_trans this (by decide)
def pX11_firstGood : Spc := fun As g Q => ∃ L iF aI aL S sr n, g = Mg L iF aI aL ∧ As = [.ref 32, .int (nI n)] ∧ RS (aI 33) S ∧ VS S ∧ sr + 400 < 2 ^ 30 ∧ 1 ≤ n ∧ n ≤ 5 ∧ (sC S).length ≠ 0 ∧ iF 32 17 = nI sr ∧ MI sr (aI 41) ∧
  ∀ iF' aI' sr', agS aI aI' → (∀ k, k ≠ 32 → iF' k = iF k) → (∀ j, j ≠ 17 → j ≠ 19 → iF' 32 j = iF 32 j) → sr' ≤ sr + 3 ^ n → iF' 32 17 = nI sr' → MI sr' (aI' 41) → Q (some (.int (oI (fnd (gdB S n) 0 (3 ^ n))))) (Mg L iF' aI' aL)
set_option maxHeartbeats 4000000 in
theorem oX11_firstGood : Ok 3 yX11_firstGood cX11_firstGood 4 (some .int) pX11_firstGood := by
  refine ok_all fun As g Q h => ?_
  obtain ⟨L, iF, aI, aL, S, sr, n, rfl, rfl, hR, hS, hsr, hn1, hn5, hK, h17, hMI, hQ⟩ := h
  have h3 := p3_le hn5
  refine at_of (fun pc => pc == 4 || pc == 21) 100 (fun m pc ls st g' => (∃ k, pc = 4 ∧ ls = [.ref 32, .int (nI n), .int (nI (3 ^ k)), .int (nI k)] ∧ st = [] ∧ g' = Mg L iF aI aL ∧ m = 1000 - k ∧ k ≤ n)
      ∨ (∃ w iF' aI' sr', pc = 21 ∧ ls = [.ref 32, .int (nI n), .int (nI (3 ^ n)), .int (nI w)] ∧ st = [] ∧ g' = Mg L iF' aI' aL ∧ m = 500 - w ∧ w ≤ 3 ^ n ∧ agS aI aI' ∧ (∀ k, k ≠ 32 → iF' k = iF k) ∧ (∀ j, j ≠ 17 → j ≠ 19 → iF' 32 j = iF 32 j) ∧ sr' = sr + w ∧ iF' 32 17 = nI sr' ∧ MI sr' (aI' 41) ∧ fnd (gdB S n) 0 (3 ^ n) = fnd (gdB S n) w (3 ^ n - w))) (by decide) rfl sX11_firstGood (nl (n := 2) rfl rfl rfl) ?_ ?_
  · exact ⟨1000, Or.inl ⟨0, rfl, rfl, rfl, rfl, rfl, by omega⟩⟩
  · rintro m pc ls st g' (⟨k, rfl, rfl, rfl, rfl, rfl, hk⟩ | ⟨w, iF', aI', sr', rfl, rfl, rfl, rfl, rfl, hw, g1, g2, g3, rfl, g4, g5, g6⟩)
    · refine br_c (fun h => ?_) (fun h => ?_)
      · have h : n ≤ k := (nI_leI (by omega) (by omega)).mp h
        have e : k = n := by omega
        subst e
        exact ⟨500, by omega, Or.inr ⟨0, iF, aI, sr, rfl, rfl, rfl, rfl, rfl, Nat.zero_le _, agS.rf, fun _ _ => rfl, fun _ _ _ => rfl, rfl, h17, hMI, rfl⟩⟩
      · have h : ¬ n ≤ k := fun q => h ((nI_leI (by omega) (by omega)).mpr q)
        refine ⟨1000 - (k + 1), by omega, Or.inl ⟨k + 1, rfl, ?_, rfl, rfl, rfl, by omega⟩⟩
        show [Value.ref 32, .int (nI n), .int (nI (3 ^ k) * nI 3), .int (nI k + 1)] = _
        rw [nx_mul, nI_1, Nat.pow_succ]
    · refine br_c (fun h => ?_) (fun h => ?_)
      · have h : 3 ^ n ≤ w := (nI_leI (by omega) (by omega)).mp h
        rw [g6, show 3 ^ n - w = 0 by omega] at hQ
        exact hQ iF' aI' (sr + w) g1 g2 g3 (by omega) g4 g5
      · have h : ¬ 3 ^ n ≤ w := fun q => h ((nI_leI (by omega) (by omega)).mpr q)
        have hR2 : RS (aI' 33) S := by rw [g1 33 (by omega)]; exact hR
        rw [show 3 ^ n - w = (3 ^ n - (w + 1)) + 1 by omega] at g6
        have g6 : fnd (gdB S n) 0 (3 ^ n) = if gdB S n w = true then some w else fnd (gdB S n) (w + 1) (3 ^ n - (w + 1)) := g6
        refine ⟨L, iF', aI', aL, S, sr + w, w, n, rfl, rfl, hR2, hS, by omega, by omega, hn1, hn5, hK, g4, g5, fun iF2 aI2 k1 k2 k3 k4 k5 => ?_⟩
        refine br_c (fun h1 => ?_) (fun h1 => ?_)
        · have hb : gdB S n w = false := by
            cases hc : gdB S n w with
            | false => rfl
            | true => rw [hc] at h1; exact absurd h1 (by decide)
          rw [if_neg (by rw [hb]; simp)] at g6
          refine ⟨500 - (w + 1), by omega, Or.inr ⟨w + 1, iF2, aI2, sr + (w + 1), rfl, ?_, rfl, rfl, rfl, by omega, g1.tr k1, fun k hk => (k2 k hk).trans (g2 k hk), fun j j1 j2 => (k3 j j1 j2).trans (g3 j j1 j2), rfl, k4, k5, g6⟩⟩
          show [Value.ref 32, .int (nI n), .int (nI (3 ^ n)), .int (nI w + 1)] = _
          rw [nI_1]
        · have hb : gdB S n w = true := by
            cases hc : gdB S n w with
            | true => rfl
            | false => rw [hc] at h1; exact absurd rfl h1
          rw [if_pos hb] at g6
          rw [g6] at hQ
          exact hQ iF2 aI2 (sr + w + 1) (g1.tr k1) (fun k hk => (k2 k hk).trans (g2 k hk)) (fun j j1 j2 => (k3 j j1 j2).trans (g3 j j1 j2)) (by omega) k4 k5
/-- what is told of the longest touch: with n leads and number w -/
def lgW (S : Stg) (i : Int32) (n w : Nat) : Int32 := if i = -1 then nI (n * (sC S).length) else if i < 0 ∨ nI n - 1 < i then -6 else nI (w / 3 ^ (n - 1 - i.toNatClampNeg) % 3)
noncomputable def lgF (S : Stg) (i : Int32) : Nat → Int32
  | 0 => -6
  | k + 1 => match fnd (gdB S (k + 1)) 0 (3 ^ (k + 1)) with
    | some w => lgW S i (k + 1) w
    | none => lgF S i k
noncomputable def ansLong (S : Stg) (n i : Int32) : Int32 := if n < 1 ∨ 5 < n then -2 else if (sC S).length = 0 then -3 else lgF S i n.toNatClampNeg

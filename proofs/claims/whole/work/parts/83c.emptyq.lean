/-! a table is emptied, and grows where it must -/
theorem SH_big {z : Zt} {k : Nat} (h : 49 ≤ k) : SH z k = none := by
  unfold SH
  repeat rw [if_neg (by omega)]
theorem nrfA {z : Zt} {nm k : Nat} (hc : ∀ b : Bool, ∀ i, i < 49 → i ≠ k → (match SH (b, Lmx) i with | some s => nrf nm s | none => true) = true) : ∀ i s, i ≠ k → SH z i = some s → nrf nm s = true := by
  intro i s hi hs
  by_cases h49 : 49 ≤ i
  · rw [SH_big h49] at hs; cases hs
  · by_cases e : i = 19 ∨ i = 25 ∨ i = 26 ∨ i = 31
    · rcases e with rfl | rfl | rfl | rfl <;> (cases hs; rfl)
    · have h := hc z.1 i (by omega) hi
      rw [← SH_cg (z := z) (z' := (z.1, Lmx)) i rfl (fun q => absurd q e), hs] at h
      exact h
theorem nrf_48 {z : Zt} : ∀ i s, SH z i = some s → nrf 48 s = true := fun i s hs => by
  by_cases h49 : i = 99
  · rw [h49] at hs
    rw [SH_big (by omega)] at hs; cases hs
  · exact nrfA (nm := 48) (k := 99) (by decide +kernel) i s h49 hs
theorem nrf_48' {z : Zt} {kd n : Nat} : ∀ i s, up1 (SH z) 48 (some (.inr (kd, n))) i = some s → nrf 48 s = true := fun i s hs => by
  by_cases e : i = 48
  · rw [e, up1_s] at hs; cases hs; rfl
  · rw [up1_n _ _ e] at hs; exact nrf_48 i s hs
theorem nrf_t' {z : Zt} {nm k kd n : Nat} (hc : ∀ b : Bool, ∀ i, i < 49 → i ≠ k → (match SH (b, Lmx) i with | some s => nrf nm s | none => true) = true) : ∀ i s, i ≠ k → up1 (SH z) 48 (some (.inr (kd, n))) i = some s → nrf nm s = true := fun i s hi hs => by
  by_cases e : i = 48
  · rw [e, up1_s] at hs; cases hs; rfl
  · rw [up1_n _ _ e] at hs; exact nrfA hc i s hi hs
theorem pow_le_c {c d : Nat} (h : 2 ^ c ≤ 2 ^ d) : c ≤ d := (Nat.pow_le_pow_iff_right (by decide)).mp h
def tmx (t : Nat) : Nat := if t = 18 then 12 else if t = 24 then 16 else 9
def pX6_empty : Spc := fun As g Q => ∃ z iF aI aL t c fl r, g = Cg z iF aI aL ∧ tc t ∧ As = [.ref t, .int (nI r)] ∧ r + r / 2 ≤ 2 ^ tmx t ∧ Lok z.2 ∧ RT0 t c fl z iF aL ∧ fl + 1 < 2 ^ 30 ∧ ∀ z' iF' aI' aL' c' b, z'.1 = z.1 → (∀ k, k ≠ t + 1 → z'.2 k = z.2 k) → Lok z'.2 → (∀ k, k ≠ t → iF' k = iF k) → (∀ k, k ≠ t + 1 → k ≠ 48 → aI' k = aI k ∧ aL' k = aL k) → RT t c' b (fl + 1) [] z' iF' aL' → r < 2 ^ b → Q none (Cg z' iF' aI' aL')
theorem rlt {r b : Nat} (hb1 : 1 ≤ b) (h : r + r / 2 ≤ 2 ^ b) : r < 2 ^ b := by
  have h0 := p2 (b - 1)
  have e : 2 ^ b = 2 ^ (b - 1) * 2 := by
    rw [← Nat.pow_succ]; congr 1; omega
  omega
theorem tmx_le (t : Nat) : tmx t ≤ 16 := by unfold tmx; split; omega; split <;> omega
theorem Lok_t {L : Nat → Nat} {t b : Nat} (ht : tc t) (h : Lok L) (hb : b ≤ tmx t) : Lok (up1 L (t + 1) (2 ^ b)) := by
  have h0 := p2 b
  have h1 : 2 ^ b ≤ 2 ^ tmx t := Nat.pow_le_pow_right (by decide) hb
  unfold Lok at h ⊢
  rcases ht with rfl | rfl | rfl
  · have h1 : 2 ^ b ≤ 4096 := h1
    show (1 ≤ 2 ^ b ∧ 2 ^ b ≤ 4096) ∧ (1 ≤ L 25 ∧ L 25 ≤ 65536) ∧ (1 ≤ L 26 ∧ L 26 ≤ 40320) ∧ 1 ≤ L 31 ∧ L 31 ≤ 512
    omega
  · have h1 : 2 ^ b ≤ 65536 := h1
    show (1 ≤ L 19 ∧ L 19 ≤ 4096) ∧ (1 ≤ 2 ^ b ∧ 2 ^ b ≤ 65536) ∧ (1 ≤ L 26 ∧ L 26 ≤ 40320) ∧ 1 ≤ L 31 ∧ L 31 ≤ 512
    omega
  · have h1 : 2 ^ b ≤ 512 := h1
    show (1 ≤ L 19 ∧ L 19 ≤ 4096) ∧ (1 ≤ L 25 ∧ L 25 ≤ 65536) ∧ (1 ≤ L 26 ∧ L 26 ≤ 40320) ∧ 1 ≤ 2 ^ b ∧ 2 ^ b ≤ 512
    omega

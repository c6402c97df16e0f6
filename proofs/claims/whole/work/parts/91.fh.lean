/-! false heads: plain rows, numbers in order -/
def pX0_ringPlainRows : Spc := fun As g Q => ∃ z iF aI aL S, g = Cg z iF aI aL ∧ As = [.ref 20, .ref 14] ∧ VS S ∧ LD iF aI S ∧ ∀ a, (∀ j, j < (sC S).length → a j = nI (plr S j)) → Q none (Cg z iF (up1 aI 21 a) aL)
theorem oX0_ringPlainRows : Ok 1 yX0_ringPlainRows cX0_ringPlainRows 4 none pX0_ringPlainRows := by
  refine ok_all fun As g Q h => ?_
  obtain ⟨z, iF, aI, aL, S, rfl, rfl, hS, hD, hQ⟩ := h
  have hn := hS.1.2
  have hc := hS.2.1.1
  refine at_of (fun pc => pc == 7) 80 (fun k pc ls st g' => ∃ i a, pc = 7 ∧ ls = [.ref 20, .ref 14, .int (nI (plr S i)), .int (nI i)] ∧ st = [] ∧ g' = Cg z iF (up1 aI 21 a) aL ∧ k = 50 - i ∧ i ≤ (sC S).length ∧ ∀ j, j < i → a j = nI (plr S j)) (by decide) rfl sX0_ringPlainRows (nl (n := 2) rfl rfl rfl) ?_ ?_
  · refine ⟨50, 0, aI 21, rfl, ?_, rfl, ?_, rfl, Nat.zero_le _, fun j h => absurd h (Nat.not_lt_zero j)⟩
    · show [Value.ref 20, .ref 14, .int (iF 14 1), .int 0] = _
      rw [hD.2.1]; rfl
    · rw [up1_id]
  · rintro k pc ls st g' ⟨i, a, rfl, rfl, rfl, rfl, rfl, hi, ha⟩
    refine pk_le (sC S).length i (fun h => ?_) (fun h => ?_) hD.2.2.1
    · exact hQ a (fun j hj => ha j (by omega))
    · refine And.intro (vp_in_nI (by omega) (by omega)) (And.intro (vp_in_nI (by omega) (by omega)) ?_)
      refine ⟨50 - (i + 1), (by omega), i + 1, up1 a (nI i).toNatClampNeg (nI (plr S i)), rfl, ?_, rfl, ?_, rfl, (by omega), fun j hj => ?_⟩
      · show [Value.ref 20, .ref 14, .int (stpd (nI (plr S i)) (aI 15 (nI i).toNatClampNeg)), .int (nI i + 1)] = _
        rw [cl1 (by omega), hD.2.2.2.1 i h, stpd_eq hn (plr_Pm hS i).1, nI_1]
        show _ = [Value.ref 20, .ref 14, .int (nI (chg (sN S) (chOf S 0 i) (plr S i))), .int (nI (i + 1))]
        rw [chOf_0]
      · show Cg z iF (up1 (up1 aI 21 a) 21 (up1 a (nI i).toNatClampNeg (nI (plr S i)))) aL = _
        rw [up1_up1]
      · rw [cl1 (by omega)]
        by_cases e : j = i
        · rw [e, up1_s]
        · rw [up1_n _ _ e]; exact ha j (by omega)
/-- numbers, rising -/
def FN (iF aI : Nat → Nat → Int32) (len : Nat) (f : Nat → Nat) : Prop := iF 20 2 = nI len ∧ len ≤ 1600 ∧ (∀ i, i < len → aI 22 i = nI (f i) ∧ f i < 10 ^ 9) ∧ ∀ i j, i < j → j < len → f i < f j
def pX0_firstNotBelow : Spc := fun As g Q => ∃ z iF aI aL len f w, g = Cg z iF aI aL ∧ As = [.ref 20, .int (nI w)] ∧ FN iF aI len f ∧ w < 10 ^ 9 ∧ ∀ p, p ≤ len → (∀ i, i < p → f i < w) → (∀ i, p ≤ i → i < len → w ≤ f i) → Q (some (.int (nI p))) g
theorem oX0_firstNotBelow : Ok 0 yX0_firstNotBelow cX0_firstNotBelow 6 (some .int) pX0_firstNotBelow := by
  refine ok_all fun As g Q h => ?_
  obtain ⟨z, iF, aI, aL, len, f, w, rfl, rfl, ⟨h1, h2, h3, h4⟩, hw, hQ⟩ := h
  refine at_of (fun pc => pc == 10) 80 (fun k pc ls st g' => ∃ lo hi i v, pc = 10 ∧ ls = [.ref 20, .int (nI w), .int (nI lo), .int (nI hi), .int (nI i), v] ∧ st = [] ∧ g' = Cg z iF aI aL ∧ k = 32 - i ∧ i ≤ 32 ∧ lo ≤ hi ∧ hi ≤ len ∧ hi - lo < 2 ^ (32 - i) ∧ (∀ j, j < lo → f j < w) ∧ ∀ j, hi ≤ j → j < len → w ≤ f j) (by decide) rfl sX0_firstNotBelow (nl (n := 2) rfl rfl rfl) ?_ ?_
  · refine ⟨32, 0, len, 0, U_, rfl, ?_, rfl, rfl, rfl, Nat.zero_le _, Nat.zero_le _, Nat.le_refl _, (by show len - 0 < 4294967296; omega), fun j h => absurd h (Nat.not_lt_zero j), fun j h h' => (by omega)⟩
    show [Value.ref 20, _, .int 0, .int (iF 20 2), .int 0, U_] = _
    rw [h1]; rfl
  · rintro k pc ls st g' ⟨lo, hi, i, v, rfl, rfl, rfl, rfl, rfl, hi32, hlh, hhl, hd, hlo, hhi⟩
    have fin : hi ≤ lo → Q (some (.int (nI lo))) (Cg z iF aI aL) := fun q => hQ lo (by omega) hlo (fun j a b => hhi j (by omega) b)
    refine pk_le 32 i (fun h => ?_) (fun h => ?_)
    · refine fin ?_
      rw [show 32 - i = 0 by omega] at hd
      have : hi - lo < 1 := hd
      omega
    · refine pk_le hi lo fin (fun h2 => ?_)
      have em : (nI lo + nI hi) / 2 = nI ((lo + hi) / 2) := by rw [nI_add, show (2 : Int32) = nI 2 from rfl, pk_div (by omega) (by omega) (by omega)]
      have hm : (lo + hi) / 2 < len := by omega
      have e32 : 2 ^ (32 - i) = 2 ^ (32 - (i + 1)) * 2 := by rw [← Nat.pow_succ]; congr 1; omega
      have ef : aI 22 ((nI lo + nI hi) / 2).toNatClampNeg = nI (f ((lo + hi) / 2)) := by rw [em, cl1 (by omega)]; exact (h3 _ hm).1
      have hf9 := (h3 _ hm).2
      refine And.intro (by decide) (And.intro (pk_in ((lo + hi) / 2) 1600 (by omega) em) (pk_le w (f ((lo + hi) / 2)) (fun h5 => ?_) (fun h5 => ?_) rfl ef))
      · refine ⟨32 - (i + 1), (by omega), lo, (lo + hi) / 2, i + 1, .int (nI ((lo + hi) / 2)), rfl, ?_, rfl, rfl, rfl, (by omega), (by omega), (by omega), (by omega), hlo, fun j a b => ?_⟩
        · show [Value.ref 20, _, .int (nI lo), .int ((nI lo + nI hi) / 2), .int (nI i + 1), .int ((nI lo + nI hi) / 2)] = _
          rw [em, nI_1]
        · rcases Nat.eq_or_lt_of_le a with q | q
          · rw [← q]; exact h5
          · have := h4 _ j q b; omega
      · refine ⟨32 - (i + 1), (by omega), (lo + hi) / 2 + 1, hi, i + 1, .int (nI ((lo + hi) / 2)), rfl, ?_, rfl, rfl, rfl, (by omega), (by omega), (by omega), (by omega), fun j a => ?_, hhi⟩
        · show [Value.ref 20, _, .int ((nI lo + nI hi) / 2 + 1), .int (nI hi), .int (nI i + 1), .int ((nI lo + nI hi) / 2)] = _
          rw [em, nI_1, nI_1]
        · rcases Nat.eq_or_lt_of_le (Nat.le_of_lt_succ a) with q | q
          · rw [q]; exact h5
          · have := h4 j _ q hm; omega

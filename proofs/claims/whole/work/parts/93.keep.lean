def pX0_keep : Spc := fun As g Q => ∃ z iF aI aL len f w, g = Cg z iF aI aL ∧ As = [.ref 20, .int (nI w)] ∧ FN iF aI len f ∧ len < 1600 ∧ w < 10 ^ 9 ∧ ∀ q a len' f', FN (up1 iF 20 q) (up1 aI 22 a) len' f' → len' ≤ len + 1 → q 3 = iF 20 3 → (∀ y, (∃ i, i < len' ∧ f' i = y) ↔ (∃ i, i < len ∧ f i = y) ∨ y = w) → Q none (Cg z (up1 iF 20 q) (up1 aI 22 a) aL)
theorem oX0_keep : Ok 1 yX0_keep cX0_keep 3 none pX0_keep := by
  refine ok_all fun As g Q h => ?_
  obtain ⟨z, iF, aI, aL, len, f, w, rfl, rfl, hF, hlen, hw, hQ⟩ := h
  have h1 := hF.1
  have h3 := hF.2.2.1
  have h4 := hF.2.2.2
  refine at0 80 (by decide) rfl sX0_keep (nl (n := 2) rfl rfl rfl) ?_
  refine ⟨z, iF, aI, aL, len, f, w, rfl, rfl, hF, hw, fun p hp p1 p2 => ?_⟩
  have new : (p = len ∨ p < len ∧ w < f p) → Q none (Cg z (up1 iF 20 (up1 (iF 20) 2 (iF 20 2 + 1))) (up1 (up1 aI 22 (va_cpy (aI 22) (aI 22) (nI p).toNatClampNeg (nI p + 1).toNatClampNeg (iF 20 2 - nI p).toNatClampNeg)) 22 (up1 (va_cpy (aI 22) (aI 22) (nI p).toNatClampNeg (nI p + 1).toNatClampNeg (iF 20 2 - nI p).toNatClampNeg) (nI p).toNatClampNeg (nI w))) aL) := by
    intro hpw
    rw [h1, nx_sub hp, nI_1, nI_1, cl1 (by omega), cl1 (by omega), cl1 (by omega), up1_up1]
    have key : ∀ i, i < len + 1 → up1 (va_cpy (aI 22) (aI 22) p (p + 1) (len - p)) p (nI w) i = nI (if i < p then f i else if i = p then w else f (i - 1)) := by
      intro i hi
      by_cases e : i = p
      · rw [e, up1_s, if_neg (by omega), if_pos rfl]
      · rw [up1_n _ _ e]
        by_cases e2 : i < p
        · rw [if_pos e2, pk_cpy_out (by omega)]; exact (h3 i (by omega)).1
        · rw [if_neg e2, if_neg e, pk_cpy_in (by omega) (by omega), show p + (i - (p + 1)) = i - 1 by omega]; exact (h3 (i - 1) (by omega)).1
    refine hQ _ _ (len + 1) (fun i => if i < p then f i else if i = p then w else f (i - 1)) ⟨rfl, (by omega), fun i hi => ⟨(by rw [up1_s]; exact key i hi), ?_⟩, fun i j hij hj => ?_⟩ (Nat.le_refl _) rfl (fun y => ⟨?_, ?_⟩)
    · show (if i < p then f i else if i = p then w else f (i - 1)) < 10 ^ 9
      split
      · exact (h3 i (by omega)).2
      · split
        · exact hw
        · exact (h3 (i - 1) (by omega)).2
    · show (if i < p then f i else if i = p then w else f (i - 1)) < (if j < p then f j else if j = p then w else f (j - 1))
      have fp : ∀ q, p ≤ q → q < len → w < f q := by
        intro q a b
        rcases hpw with z | z
        · omega
        · rcases Nat.eq_or_lt_of_le a with r | r
          · rw [← r]; exact z.2
          · have := h4 p q r b; omega
      by_cases a1 : i < p
      · rw [if_pos a1]
        by_cases b1 : j < p
        · rw [if_pos b1]; exact h4 i j hij (by omega)
        · rw [if_neg b1]
          by_cases b2 : j = p
          · rw [if_pos b2]; exact p1 i a1
          · rw [if_neg b2]; exact h4 i (j - 1) (by omega) (by omega)
      · rw [if_neg a1, if_neg (show ¬ j < p by omega), if_neg (show ¬ j = p by omega)]
        by_cases a2 : i = p
        · rw [if_pos a2]; exact fp (j - 1) (by omega) (by omega)
        · rw [if_neg a2]; exact h4 (i - 1) (j - 1) (by omega) (by omega)
    · rintro ⟨i, hi, rfl⟩
      show (∃ i', i' < len ∧ f i' = (if i < p then f i else if i = p then w else f (i - 1))) ∨ (if i < p then f i else if i = p then w else f (i - 1)) = w
      split
      · exact Or.inl ⟨i, by omega, rfl⟩
      · split
        · exact Or.inr rfl
        · exact Or.inl ⟨i - 1, by omega, rfl⟩
    · rintro (⟨i, hi, rfl⟩ | rfl)
      · by_cases e : i < p
        · exact ⟨i, by omega, if_pos e⟩
        · refine ⟨i + 1, by omega, ?_⟩
          show (if i + 1 < p then f (i + 1) else if i + 1 = p then w else f (i + 1 - 1)) = f i
          rw [if_neg (by omega), if_neg (by omega)]
          rfl
      · refine ⟨p, by omega, ?_⟩
        show (if p < p then f p else if p = p then y else f (p - 1)) = y
        rw [if_neg (Nat.lt_irrefl p), if_pos rfl]
  have i40 : ∀ q, q < 1600 → vp_in (nI q) 1600 := fun q h => vp_in_nI h (by omega)
  have cpy : (¬ nI p < 0 ∧ ¬ nI p + 1 < 0 ∧ ¬ iF 20 2 - nI p < 0 ∧ (nI p).toNatClampNeg + (iF 20 2 - nI p).toNatClampNeg ≤ 1600 ∧ (nI p + 1).toNatClampNeg + (iF 20 2 - nI p).toNatClampNeg ≤ 1600) := by
    rw [h1, nx_sub hp, nI_1, cl1 (by omega), cl1 (by omega), cl1 (by omega)]
    exact ⟨nI_ge0 (by omega), nI_ge0 (by omega), nI_ge0 (by omega), (by omega), (by omega)⟩
  refine pk_le 1600 len (fun h => absurd h (by omega)) (fun h => ?_) rfl h1
  refine pk_le len p (fun h2 => ?_) (fun h2 => ?_) h1
  · exact And.intro cpy (And.intro (i40 p (by omega)) (new (Or.inl (by omega))))
  · have hf9 := (h3 p h2).2
    refine And.intro (i40 p (by omega)) (pk_ne (f p) w (fun h5 => ?_) (fun h5 => ?_) (by rw [cl1 (by omega)]; exact (h3 p h2).1))
    · have := p2 p (Nat.le_refl _) h2
      exact And.intro cpy (And.intro (i40 p (by omega)) (new (Or.inr ⟨h2, by omega⟩)))
    · have := hQ (iF 20) (aI 22) len f (by rw [up1_id, up1_id]; exact hF) (by omega) rfl (fun y => ⟨Or.inl, ?_⟩)
      · rw [up1_id, up1_id] at this
        exact this
      · rintro (q | rfl)
        · exact q
        · exact ⟨p, h2, h5⟩

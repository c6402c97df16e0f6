/-! the class reads a sign; it writes the method that it read -/
theorem rX3_take : Ok 2 yX3_take cX3_take 2 (some .boolean) qX3_take := by
  refine ok_all fun As g Q h => ?_
  obtain ⟨z, iF, aI, aL, mt, n, i, P, s, rfl, rfl, hs, hn, hM, hP, hi, hQ⟩ := h
  refine at0 100 (by decide) rfl sX3_take_q (nl (n := 2) rfl rfl rfl) ?_
  unfold stp1 at hQ
  refine pk_eq s 44 (fun h => ?_) (fun h => pk_eq s 46 (fun h2 => ?_) (fun h2 => pk_eq s 120 (fun h3 => ?_) (fun h3 => ?_)))
  · rw [if_neg (by omega), if_neg (by omega), if_pos h] at hQ
    exact ⟨z, iF, aI, aL, mt, n, i, P, rfl, rfl, hn, hM, hP, hi, fun iF' aI' a b => ⟨b01_or _, hQ iF' aI' a b⟩⟩
  · rw [if_neg (by omega), if_pos h2] at hQ
    exact ⟨z, iF, aI, aL, mt, n, i, P, rfl, rfl, hn, hM, hP, hi, fun iF' aI' a b => ⟨b01_or _, hQ iF' aI' a b⟩⟩
  · rw [if_pos h3] at hQ
    exact ⟨z, iF, aI, aL, mt, n, i, P, rfl, rfl, hn, hM, hP, hi, fun iF' aI' a b => ⟨b01_or _, hQ iF' aI' a b⟩⟩
  · rw [if_neg h3, if_neg h2, if_neg h] at hQ
    exact ⟨z, iF, aI, aL, mt, n, i, P, s, rfl, rfl, hs, hn, hM, hP, hi, fun iF' aI' a b => ⟨b01_or _, hQ iF' aI' a b⟩⟩
def pX3_writeTo : Spc := fun As g Q => ∃ z iF aI aL mt n i P, g = Cg z iF aI aL ∧ As = [.ref 12, .ref 2] ∧ NP mt n iF aI P ∧ PV n i P ∧ i ≤ 40 ∧ cEnd n P.1 = true ∧ (mch P).length ≤ 40 ∧ ∀ a, (∀ j, j < (mch P).length → a j = nI ((mch P).getD j 0)) → Q (some (.int (nI (mch P).length))) (Cg z iF (up1 aI 2 a) aL)
theorem oX3_writeTo : Ok 1 yX3_writeTo cX3_writeTo 3 (some .int) pX3_writeTo := by
  refine ok_all fun As g Q h => ?_
  obtain ⟨z, iF, aI, aL, mt, n, i, P, rfl, rfl, hM, hP, hi, he, h40, hQ⟩ := h
  have hM' := hM
  obtain ⟨m1, m2, m3, m4, m5, m6⟩ := hM'
  have hl := hP.1
  refine at0 100 (by decide) rfl sX3_writeTo (nl (n := 2) rfl rfl rfl) ?_
  have hln := lnP_eq hP he
  obtain ⟨l1, l2⟩ := mch_len hP he
  refine ⟨z, iF, aI, aL, mt, n, i, P, rfl, rfl, hM, hP, hi, pk_le (lnP P) 40 (fun _ => ?_) (fun h => absurd h (by omega))⟩
  cases ec : P.2.2 with
  | none =>
    have e5 : iF 12 5 = -6 := by rw [m5, ec]; rfl
    refine br_nf e5 ?_
    have hcl : (iF 12 4).toNatClampNeg = P.2.1.length := by rw [m4]; exact cl1 (by omega)
    have hmc : mch P = P.2.1 := by unfold mch; rw [ec]
    refine And.intro ⟨by decide, by decide, (by show ¬ iF 12 4 < 0; rw [m4]; exact nI_ge0 (by omega)), (by show 0 + (iF 12 4).toNatClampNeg ≤ 40; omega), (by show 0 + (iF 12 4).toNatClampNeg ≤ 40; omega)⟩ ?_
    have := hQ (va_cpy (aI 13) (aI 2) 0 0 (iF 12 4).toNatClampNeg) (fun j hj => by
      rw [hmc] at hj ⊢
      rw [pk_cpy_in (Nat.zero_le _) (by omega)]
      show aI 13 (0 + (j - 0)) = _
      rw [Nat.zero_add, Nat.sub_zero]
      exact m6 j hj)
    rw [l1 ec, ← m4] at this
    exact this
  | some k =>
    obtain ⟨k1, k2, k3⟩ := l2 k ec
    have e5 : iF 12 5 = nI k := by rw [m5, ec]; rfl
    refine br_nt (by show ¬ iF 12 5 = -6; rw [e5]; exact nI_ne6 (by omega)) ?_
    refine ⟨z, iF, aI, aL, 0, k, 0, rfl, (by show [Value.ref 12, .ref 2, .int 0, .int 0, .int (iF 12 5)] = _; rw [e5]; rfl), (by omega), (by omega), (by omega), fun f f1 f2 => ?_⟩
    refine ⟨z, iF, up1 aI 2 f, aL, k, P.2.1.length, 0 + (2 * (k - 0) - 1), rfl, (by show [Value.ref 12, .ref 2, _, .int (iF 12 5), .int (iF 12 4)] = _; rw [e5, m4]), (by omega), (by omega), (by omega), fun g g1 g2 => ?_⟩
    have := hQ g (fun j hj => by
      rw [k3] at hj
      rw [mch_get ec k1 k2 hj]
      by_cases z : j < 2 * k - 1
      · rw [if_pos z, g2 j (by omega)]
        show f j = _
        have := f1 j (by omega)
        rw [Nat.zero_add] at this
        rw [this]
        exact m6 _ (by unfold tb; split <;> omega)
      · rw [if_neg z]
        have := g1 (j - (2 * k - 1)) (by omega)
        rw [show 0 + (2 * (k - 0) - 1) + (j - (2 * k - 1)) = j by omega] at this
        rw [this]
        exact m6 _ (by unfold tb; split <;> omega))
    rw [k3] at this
    rw [show 0 + (2 * (k - 0) - 1) + (2 * (P.2.1.length - k) - 1) = 2 * P.2.1.length - 2 by omega, up1_up1]
    exact this

/-! the reference: rows -/
def pX11_layRounds : Spc := fun As g Q => ∃ L iF aI aL, g = Mg L iF aI aL ∧ As = [.ref 32] ∧ ∀ f, (∀ p, p < 8 → f (p + 1) = nI (p + 1)) → Q none (Mg L iF (up1 aI 38 f) aL)
theorem oX11_layRounds : Ok 0 yX11_layRounds cX11_layRounds 2 none pX11_layRounds := by
  refine ok_all fun As g Q h => ?_
  obtain ⟨L, iF, aI, aL, rfl, rfl, hQ⟩ := h
  refine at_of (fun pc => pc == 2) 40 (fun k pc ls st g' => ∃ p f, pc = 2 ∧ ls = [.ref 32, .int (nI (p + 1))] ∧ st = [] ∧ g' = Mg L iF (up1 aI 38 f) aL ∧ k = 8 - p ∧ p ≤ 8 ∧ (∀ q, q < p → f (q + 1) = nI (q + 1))) (by decide) rfl sX11_layRounds (nl (n := 1) rfl rfl rfl) ?_ ?_
  · refine ⟨8, 0, aI 38, rfl, rfl, rfl, ?_, by omega, by omega, fun q h => absurd h (by omega)⟩
    show _ = (SH (true, L), iF, up1 aI 38 (aI 38), aL)
    have : up1 aI 38 (aI 38) = aI := by funext j; unfold up1; split <;> simp_all
    rw [this]
  · rintro k pc ls st g' ⟨p, f, rfl, rfl, rfl, rfl, rfl, hp, hf⟩
    refine br_c (fun h => ?_) (fun h => ?_)
    · have h : 9 ≤ p + 1 := (nI_leI (a := 9) (by omega) (by omega)).mp h
      exact hQ f (fun q hq => hf q (by omega))
    · have h : ¬ 9 ≤ p + 1 := fun q => h ((nI_leI (a := 9) (by omega) (by omega)).mpr q)
      refine And.intro (vp_in_nI (by omega) (by omega)) ?_
      refine ⟨8 - (p + 1), by omega, p + 1, up1 f (p + 1) (nI (p + 1)), rfl, ?_, rfl, ?_, rfl, by omega, ?_⟩
      · show [Value.ref 32, .int (nI (p + 1) + 1)] = _
        rw [nI_1]
      · show (SH (true, L), iF, up1 (up1 aI 38 f) 38 (up1 (up1 aI 38 f 38) (nI (p + 1)).toNatClampNeg (nI (p + 1))), aL) = _
        rw [up1_up1, up1_s, cl1 (by omega)]
      · intro q hq
        by_cases e : q = p
        · subst e; rw [up1_s]
        · rw [up1_n _ _ (by omega)]; exact hf q (by omega)
def pX11_ring : Spc := fun As g Q => ∃ L iF aI aL n m x, g = Mg L iF aI aL ∧ As = [.ref 32, .int (nI m)] ∧ 4 ≤ n ∧ n ≤ 8 ∧ m < 512 ∧ vis m n = true ∧ aI 33 0 = nI n ∧ MR n x (aI 38) ∧ ∀ f, MR n (chg n m x) f → Q none (Mg L iF (up1 aI 38 f) aL)
theorem bq_int0 {m q : Nat} (hm : m < 512) (hq : q < 32) : (nI m >>> (nI q &&& 31) &&& 1) = 0 ↔ bq m q = false := by
  rw [nx_shr hq (by omega), and1]
  have : nI (m / 2 ^ q % 2) = 0 ↔ m / 2 ^ q % 2 = 0 := nI_eq (b := 0) (by omega) (by omega)
  rw [this]
  unfold bq
  cases h : m / 2 ^ q % 2 == 1 with
  | true => rw [beq_iff_eq] at h; simp [h]
  | false => simp at h; simp; omega
theorem oX11_ring : Ok 1 yX11_ring cX11_ring 4 none pX11_ring := by
  refine ok_all fun As g Q h => ?_
  obtain ⟨L, iF, aI, aL, n, m, x, rfl, rfl, hn4, hn, hm, hv, hN, hR, hQ⟩ := h
  refine at_of (fun pc => pc == 2) 60 (fun k pc ls st g' => ∃ p f w, pc = 2 ∧ ls = [.ref 32, .int (nI m), .int (nI (p + 1)), w] ∧ st = [] ∧ g' = Mg L iF (up1 aI 38 f) aL ∧ k = 9 - p ∧ p ≤ n ∧ vis m p = true ∧ (∀ q, q < n → f (q + 1) = nI (dg x (if q < p then sg n m q else q) + 1))) (by decide) rfl sX11_ring (nl (n := 2) rfl rfl rfl) ?_ ?_
  · refine ⟨9, 0, aI 38, U_, rfl, rfl, rfl, ?_, by omega, by omega, rfl, fun q h => ?_⟩
    · show _ = (SH (true, L), iF, up1 aI 38 (aI 38), aL)
      have : up1 aI 38 (aI 38) = aI := by funext j; unfold up1; split <;> simp_all
      rw [this]
    · rw [if_neg (by omega)]; exact hR q h
  · rintro k pc ls st g' ⟨p, f, w, rfl, rfl, rfl, rfl, rfl, hp, hvp, hf⟩
    refine And.intro (vp_in_nI (n := 0) (N := 85) (by omega) (by omega)) ?_
    refine br_c (fun h => ?_) (fun h => ?_)
    · have h : aI 33 0 < nI (p + 1) := h
      rw [hN] at h
      have h : n < p + 1 := (nI_ltI (by omega) (by omega)).mp h
      refine hQ f (fun q hq => ?_)
      rw [hf q hq, if_pos (by omega), dg_chg hq]
    · have h : ¬ aI 33 0 < nI (p + 1) := h
      rw [hN] at h
      have h : ¬ n < p + 1 := fun q => h ((nI_ltI (by omega) (by omega)).mpr q)
      refine And.intro (fun hb => ?_) (fun hb => ?_)
      · have hb : bq m (p + 1) = true := by
          cases hc : bq m (p + 1) with
          | true => rfl
          | false => exact absurd ((bq_int0 hm (by omega)).mpr hc) hb
        refine ⟨9 - (p + 1), by omega, p + 1, f, U_, rfl, ?_, rfl, rfl, rfl, by omega, vis_stay hvp hb, fun q hq => ?_⟩
        · show [Value.ref 32, .int (nI m), .int (nI (p + 1) + 1), U_] = _
          rw [nI_1]
        · rw [hf q hq]
          by_cases e : q = p
          · subst e
            rw [if_neg (by omega), if_pos (by omega)]
            have e1 : sg n m q = q := by
              unfold sg
              rw [if_neg (by simp [swf, hb]), if_neg]
              rintro ⟨h1, h2⟩
              obtain ⟨z, rfl⟩ : ∃ z, q = z + 1 := ⟨q - 1, by omega⟩
              simp only [swf, Bool.and_eq_true, Bool.not_eq_true', Nat.add_sub_cancel] at h2
              rw [vis_apart z h2.1 h2.2.1] at hvp
              cases hvp
            rw [e1]
          · by_cases e2 : q < p
            · rw [if_pos e2, if_pos (by omega)]
            · rw [if_neg e2, if_neg (by omega)]
      · have hb : bq m (p + 1) = false := (bq_int0 hm (by omega)).mp hb
        have hpn : p + 1 < n := by
          rcases Nat.lt_or_ge (p + 1) n with q | q
          · exact q
          · have e : p + 1 = n := by omega
            have := vis_apart p hvp hb
            rw [e, hv] at this; cases this
        have hs : swf n m p = true := by simp [swf, hvp, hb]; omega
        have e2 : nI (p + 1) + 1 = nI (p + 2) := nI_add (p + 1) 1
        have i1 : vp_in (nI (p + 1)) 9 := vp_in_nI (by omega) (by omega)
        have i2 : vp_in (nI (p + 1) + 1) 9 := by rw [e2]; exact vp_in_nI (by omega) (by omega)
        refine And.intro i1 (And.intro i2 (And.intro i1 (And.intro i2 ?_)))
        refine ⟨9 - (p + 2), by omega, p + 2, up1 (up1 f (p + 1) (f (p + 2))) (p + 2) (f (p + 1)), .int (f (p + 1)), rfl, ?_, rfl, ?_, rfl, by omega, vis_go hvp hb, fun q hq => ?_⟩
        · show [Value.ref 32, .int (nI m), .int (nI (p + 1) + 1 + 1), .int (up1 aI 38 f 38 (nI (p + 1)).toNatClampNeg)] = _
          rw [cl1 (by omega), up1_s, e2, nI_1]
        · show (SH (true, L), iF, up1 (up1 (up1 aI 38 f) 38 (up1 (up1 aI 38 f 38) (nI (p + 1)).toNatClampNeg (up1 aI 38 f 38 (nI (p + 1) + 1).toNatClampNeg))) 38 (up1 (up1 (up1 aI 38 f) 38 (up1 (up1 aI 38 f 38) (nI (p + 1)).toNatClampNeg (up1 aI 38 f 38 (nI (p + 1) + 1).toNatClampNeg)) 38) (nI (p + 1) + 1).toNatClampNeg (up1 aI 38 f 38 (nI (p + 1)).toNatClampNeg)), aL) = _
          rw [e2, cl1 (by omega), cl1 (by omega), up1_up1, up1_up1, up1_s, up1_s]
        · have s1 : sg n m p = p + 1 := if_pos hs
          have s2 : sg n m (p + 1) = p := by
            have := sg_sg (n := n) (m := m) (p := p)
            rw [s1] at this; exact this
          by_cases c1 : q = p
          · subst c1
            rw [up1_n _ _ (by omega), up1_s, if_pos (by omega), s1, hf (q + 1) (by omega), if_neg (by omega)]
          · by_cases c2 : q = p + 1
            · subst c2
              rw [up1_s, if_pos (by omega), s2, hf p (by omega), if_neg (by omega)]
            · rw [up1_n _ _ (by omega), up1_n _ _ (by omega), hf q hq]
              by_cases c3 : q < p
              · rw [if_pos c3, if_pos (by omega)]
              · rw [if_neg c3, if_neg (by omega)]
def pX11_number : Spc := fun As g Q => ∃ L iF aI aL n x, g = Mg L iF aI aL ∧ As = [.ref 32] ∧ n ≤ 8 ∧ aI 33 0 = nI n ∧ MR n x (aI 38) ∧ Q (some (.int (nI (num n x)))) (Mg L iF aI aL)
theorem oX11_number : Ok 1 yX11_number cX11_number 3 (some .int) pX11_number := by
  refine ok_all fun As g Q h => ?_
  obtain ⟨L, iF, aI, aL, n, x, rfl, rfl, hn, hN, hR, hQ⟩ := h
  refine at_of (fun pc => pc == 4) 60 (fun k pc ls st g' => ∃ i, pc = 4 ∧ ls = [.ref 32, .int (nI (numTo x i)), .int (nI (i + 1))] ∧ st = [] ∧ g' = Mg L iF aI aL ∧ k = 9 - i ∧ i ≤ n) (by decide) rfl sX11_number (nl (n := 1) rfl rfl rfl) ?_ ?_
  · exact ⟨9, 0, rfl, rfl, rfl, rfl, by omega, by omega⟩
  · rintro k pc ls st g' ⟨i, rfl, rfl, rfl, rfl, rfl, hi⟩
    refine And.intro (vp_in_nI (n := 0) (N := 85) (by omega) (by omega)) ?_
    refine br_c (fun h => ?_) (fun h => ?_)
    · have h : aI 33 0 < nI (i + 1) := h
      rw [hN] at h
      have h : n < i + 1 := (nI_ltI (by omega) (by omega)).mp h
      have e : i = n := by omega
      subst e
      exact hQ
    · have h : ¬ aI 33 0 < nI (i + 1) := h
      rw [hN] at h
      have h : ¬ n < i + 1 := fun q => h ((nI_ltI (by omega) (by omega)).mpr q)
      refine And.intro (vp_in_nI (by omega) (by omega)) ?_
      refine ⟨9 - (i + 1), by omega, i + 1, rfl, ?_, rfl, rfl, rfl, by omega⟩
      show [Value.ref 32, .int (10 * nI (numTo x i) + aI 38 (nI (i + 1)).toNatClampNeg), .int (nI (i + 1) + 1)] = _
      rw [cl1 (by omega), hR i (by omega), show (10 : Int32) = nI 10 from rfl, nx_mul, nI_add, nI_1, Nat.mul_comm]
      rfl

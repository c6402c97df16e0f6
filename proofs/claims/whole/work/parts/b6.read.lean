/-! the class reads a pad -/
def pX3_read : Spc := fun As g Q => ∃ z iF aI aL mt n pd, g = Cg z iF aI aL ∧ As = [.ref 12, .ref 10, .int (nI n), .int (b01 mt)] ∧ 4 ≤ n ∧ n ≤ 8 ∧ VP pd ∧ iF 10 1 = nI pd.length ∧ RP (aI 11) pd ∧ ∀ iF' aI', NF iF aI iF' aI' → (∀ P, (rdP mt n pd 0 P0).2 = some P → NP mt n iF' aI' P) → Q (some (.int (flt mt n pd))) (Cg z iF' aI' aL)
theorem oX3_read : Ok 3 yX3_read cX3_read 5 (some .int) pX3_read := by
  refine ok_all fun As g Q h => ?_
  obtain ⟨z, iF, aI, aL, mt, n, pd, rfl, rfl, hn4, hn, hV, h4, hR, hQ⟩ := h
  have hl := hV.1
  refine at_of (fun pc => pc == 29) 100 (fun k pc ls st g' => ∃ i P iF' aI', pc = 29 ∧ ls = [.ref 12, .ref 10, .int (nI n), .int (b01 mt), .int (nI i)] ∧ st = [] ∧ g' = Cg z iF' aI' aL ∧ k = 40 - i ∧ i ≤ pd.length ∧ NF iF aI iF' aI' ∧ NP mt n iF' aI' P ∧ PV n i P ∧ rdP mt n pd 0 P0 = rdP mt n (pd.drop i) i P) (by decide) rfl sX3_read (nl (n := 4) rfl rfl rfl) ?_ ?_
  · exact And.intro (b01_or mt) ⟨40, 0, P0, _, _, rfl, rfl, rfl, rfl, rfl, (by omega), (((((NF.refl iF aI).fld _).fld _).fld _).fld _).fld _, ⟨rfl, rfl, rfl, rfl, rfl, fun j hj => absurd hj (Nat.not_lt_zero j)⟩, PVP0 n, rfl⟩
  · rintro k pc ls st g' ⟨i, P, iF1, aI1, rfl, rfl, rfl, rfl, rfl, hi, hF, hM, hP, he⟩
    have h4' : iF1 10 1 = nI pd.length := by rw [hF.1 10 (by omega)]; exact h4
    have hR' : RP (aI1 11) pd := by rw [hF.2 11 (by omega)]; exact hR
    refine pk_le pd.length i (fun h => ?_) (fun h => ?_) h4'
    · rw [List.drop_eq_nil_of_le h] at he
      have he : (rdP mt n pd 0 P0).2 = some P := by rw [he]; rfl
      have hQ := hQ iF1 aI1 hF (fun P' z => by rw [he] at z; cases z; exact hM)
      unfold flt at hQ
      rw [he] at hQ
      have hQ : Q (some (.int (if cEnd n P.1 = true then -6 else nI pd.length))) (Cg z iF1 aI1 aL) := hQ
      obtain ⟨c1, c2, c3⟩ := hP.c3 hn
      refine ⟨z, iF1, aI1, aL, n, P.1, rfl, rfl, hn, hM.1, hM.2.2.1, c1, c2, c3, br_c (fun h => ?_) (fun h => ?_)⟩
      · have h : cEnd n P.1 = false := (i1 rfl).mp h
        rw [if_neg (by rw [h]; decide)] at hQ
        show Q (some (.int (iF1 10 1))) (Cg z iF1 aI1 aL)
        rw [h4']; exact hQ
      · have h : cEnd n P.1 = true := (i2 rfl).mp h
        rw [if_pos h] at hQ
        exact hQ
    · rw [rdP_at h] at he
      have e1 : aI1 11 (nI i).toNatClampNeg = nI (pd.getD i 0) := by rw [cl1 (by omega)]; exact hR' i h
      have hs : pd.getD i 0 < 1000 := hV.2 _ (getD_mem h)
      refine And.intro (vp_in_nI (by omega) (by omega)) ⟨z, iF1, aI1, aL, mt, n, i, P, pd.getD i 0, rfl, (by show [Value.ref 12, .int (aI1 11 (nI i).toNatClampNeg)] = _; rw [e1]), hs, hn, hM, hP, (by omega), fun iF2 aI2 hF2 hm => ?_⟩
      cases e : stp1 mt n P (pd.getD i 0) with
      | none =>
        rw [e] at he
        have hQ := hQ iF2 aI2 (hF.trans hF2) (fun P' z => by rw [he] at z; cases z)
        unfold flt at hQ
        rw [he] at hQ
        exact br_nf rfl hQ
      | some P' =>
        rw [e] at he
        exact br_nt n10 ⟨40 - (i + 1), (by omega), i + 1, P', iF2, aI2, rfl, (by show [Value.ref 12, .ref 10, _, _, .int (nI i + 1)] = _; rw [nI_1]), rfl, rfl, rfl, h, hF.trans hF2, hm P' e, hP.step hn hn4 e, he⟩

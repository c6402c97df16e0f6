/-! the reference: the rows of the touch, and what is told of them -/
theorem tln_lt {S : Stg} {l k : Nat} (hl : l < (sL S).length) (hk : k < (sC S).length) : l * (sC S).length + k < tln S := by
  have : (l + 1) * (sC S).length ≤ (sL S).length * (sC S).length := Nat.mul_le_mul_right _ hl
  rw [Nat.add_mul, Nat.one_mul] at this
  unfold tln
  omega
theorem tln_le {S : Stg} (h : VS S) : tln S ≤ 1600 := Nat.le_trans (Nat.mul_le_mul h.2.2.2.2.1 h.2.1.1) (by decide)
theorem trw_at {S : Stg} {l k : Nat} (hk : k < (sC S).length) : trw S (l * (sC S).length + k + 1) = chg (sN S) (chOf S ((sL S).getD l 0) k) (trw S (l * (sC S).length + k)) := by
  show chg (sN S) (chOf S ((sL S).getD ((l * (sC S).length + k) / (sC S).length) 0) ((l * (sC S).length + k) % (sC S).length)) _ = _
  rw [Nat.mul_comm l, Nat.mul_add_div (by omega), Nat.div_eq_of_lt hk, Nat.mul_add_mod, Nat.mod_eq_of_lt hk, Nat.add_zero]
def pX11_layTouch : Spc := fun As g Q => ∃ L iF aI aL S, g = Mg L iF aI aL ∧ As = [.ref 32] ∧ RS (aI 33) S ∧ VS S ∧ ∀ f r, RK (sN S) (tln S) (trw S) r → Q none (Mg L (up1 iF 32 (up1 (iF 32) 15 (nI (tln S + 1)))) (up1 (up1 aI 38 f) 40 r) aL)
theorem oX11_layTouch : Ok 2 yX11_layTouch cX11_layTouch 3 none pX11_layTouch := by
  refine ok_all fun As g Q h => ?_
  obtain ⟨L, iF, aI, aL, S, rfl, rfl, hR, hS, hQ⟩ := h
  have hc := hS.2.1.1
  have hl := hS.2.2.2.2.1
  have hT := tln_le hS
  have hn := hS.1.2
  refine at_of (fun pc => pc == 18 || pc == 31) 80 (fun k pc ls st g' => (∃ l f r w, pc = 18 ∧ ls = [.ref 32, .int (nI l), w] ∧ st = [] ∧ g' = Mg L (up1 iF 32 (up1 (iF 32) 15 (nI (l * (sC S).length + 1)))) (up1 (up1 aI 38 f) 40 r) aL ∧ k = 100 * (41 - l) ∧ l ≤ (sL S).length ∧ MR (sN S) (trw S (l * (sC S).length)) f ∧ RK (sN S) (l * (sC S).length) (trw S) r)
      ∨ (∃ l j f r, pc = 31 ∧ ls = [.ref 32, .int (nI l), .int (nI j)] ∧ st = [] ∧ g' = Mg L (up1 iF 32 (up1 (iF 32) 15 (nI (l * (sC S).length + j + 1)))) (up1 (up1 aI 38 f) 40 r) aL ∧ k = 100 * (41 - l) - 1 - j ∧ l < (sL S).length ∧ j ≤ (sC S).length ∧ MR (sN S) (trw S (l * (sC S).length + j)) f ∧ RK (sN S) (l * (sC S).length + j) (trw S) r)) (by decide) rfl sX11_layTouch (nl (n := 1) rfl rfl rfl) ?_ ?_
  · refine ⟨L, iF, aI, aL, rfl, rfl, fun f hf => ?_⟩
    refine And.intro (vp_in_nI (n := 0) (N := 1601) (by omega) (by omega)) ?_
    refine ⟨4100, Or.inl ⟨0, f, up1 (aI 40) 0 0, U_, rfl, rfl, rfl, ?_, rfl, by omega, ?_, ?_⟩⟩
    · show (SH (true, L), up1 iF 32 (up1 (iF 32) 15 1), up1 (up1 aI 38 f) 40 (up1 (up1 aI 38 f 40) 0 0), aL) = _
      rw [Nat.zero_mul]
      rfl
    · rw [Nat.zero_mul]
      intro p hp
      rw [hf p (by omega)]
      show _ = nI (dg (rds (sN S)) p + 1)
      rw [dg_rds hn hp]
    · rw [Nat.zero_mul]
      intro i hi
      have e : i = 0 := by omega
      subst e
      show up1 (aI 40) 0 0 0 = nI (rk (sN S) (rds (sN S)))
      rw [up1_s, rk_rds hn]
      rfl
  · rintro k pc ls st g' (⟨l, f, r, w, rfl, rfl, rfl, rfl, rfl, hl2, hf, hr⟩ | ⟨l, j, f, r, rfl, rfl, rfl, rfl, rfl, hl2, hj, hf, hr⟩)
    · refine And.intro (vp_in_nI (n := 44) (N := 85) (by omega) (by omega)) ?_
      refine br_c (fun h => ?_) (fun h => ?_)
      · have h : aI 33 44 ≤ nI l := h
        rw [hR.2.2.2.2.2.1] at h
        have h : (sL S).length ≤ l := (nI_leI (by omega) (by omega)).mp h
        have e : l = (sL S).length := by omega
        subst e
        exact hQ f r hr
      · have h : ¬ aI 33 44 ≤ nI l := h
        rw [hR.2.2.2.2.2.1] at h
        have h : ¬ (sL S).length ≤ l := fun q => h ((nI_leI (by omega) (by omega)).mpr q)
        exact ⟨100 * (41 - l) - 1, by omega, Or.inr ⟨l, 0, f, r, rfl, rfl, rfl, rfl, rfl, by omega, by omega, hf, hr⟩⟩
    · refine And.intro (vp_in_nI (n := 1) (N := 85) (by omega) (by omega)) ?_
      refine br_c (fun h => ?_) (fun h => ?_)
      · have h : aI 33 1 ≤ nI j := h
        rw [hR.2.1] at h
        have h : (sC S).length ≤ j := (nI_leI (by omega) (by omega)).mp h
        have e : j = (sC S).length := by omega
        subst e
        have e2 : l * (sC S).length + (sC S).length = (l + 1) * (sC S).length := by rw [Nat.add_mul, Nat.one_mul]
        rw [e2] at hf hr
        refine ⟨100 * (41 - (l + 1)), by omega, Or.inl ⟨l + 1, f, r, .int (nI (sC S).length), rfl, ?_, rfl, ?_, rfl, by omega, hf, hr⟩⟩
        · show [Value.ref 32, .int (nI l + 1), .int (nI (sC S).length)] = _
          rw [nI_1]
        · rw [e2]
      · have h : ¬ aI 33 1 ≤ nI j := h
        rw [hR.2.1] at h
        have h : ¬ (sC S).length ≤ j := fun q => h ((nI_leI (by omega) (by omega)).mpr q)
        have hv := chOf_VM hS (l := (sL S).getD l 0) (k := j) (by omega)
        have hlt := tln_lt (S := S) hl2 (show j < (sC S).length by omega)
        have hll : (sL S).getD l 0 ≤ 2 := hS.2.2.2.2.2 _ (getD_mem hl2)
        have e45 : (45 : Int32) + nI l = nI (45 + l) := nI_add 45 l
        refine And.intro (by rw [e45]; exact vp_in_nI (by omega) (by omega)) ?_
        refine ⟨L, _, _, aL, S, (sL S).getD l 0, j, rfl, ?_, hR, hS, hll, by omega, ?_⟩
        · show [Value.ref 32, .int (aI 33 ((45 : Int32) + nI l).toNatClampNeg), .int (nI j)] = _
          rw [e45, cl1 (by omega), hR.2.2.2.2.2.2 l hl2]
        refine ⟨L, _, _, aL, sN S, chOf S ((sL S).getD l 0) j, trw S (l * (sC S).length + j), rfl, rfl, hS.1.1, hS.1.2, hv.1, hv.2.2, hR.1, hf, fun f2 hf2 => ?_⟩
        rw [← trw_at (by omega)] at hf2
        refine ⟨L, _, _, aL, sN S, _, rfl, rfl, hS.1.2, hR.1, hf2, ?_⟩
        refine And.intro (vp_in_nI (by omega) (by omega)) ?_
        refine ⟨100 * (41 - l) - 1 - (j + 1), by omega, Or.inr ⟨l, j + 1, f2, up1 r (l * (sC S).length + j + 1) (nI (rk (sN S) (trw S (l * (sC S).length + j + 1)))), rfl, ?_, rfl, ?_, rfl, by omega, by omega, hf2, fun i hi => ?_⟩⟩
        · show [Value.ref 32, .int (nI l), .int (nI j + 1)] = _
          rw [nI_1]
        · show (SH (true, L), up1 (up1 iF 32 (up1 (iF 32) 15 (nI (l * (sC S).length + j + 1)))) 32 (up1 (up1 iF 32 (up1 (iF 32) 15 (nI (l * (sC S).length + j + 1))) 32) 15 (nI (l * (sC S).length + j + 1) + 1)), up1 (up1 (up1 (up1 aI 38 f) 40 r) 38 f2) 40 (up1 (up1 (up1 (up1 aI 38 f) 40 r) 38 f2 40) (nI (l * (sC S).length + j + 1)).toNatClampNeg (nI (rk (sN S) (trw S (l * (sC S).length + j + 1))))), aL) = _
          rw [up1_up1, up1_s, up1_up1, nI_1, cl1 (by omega), show l * (sC S).length + j + 1 + 1 = l * (sC S).length + (j + 1) + 1 by omega]
          congr 3
          funext a
          unfold up1
          by_cases h40 : a = 40
          · subst h40; simp
          · by_cases h38 : a = 38
            · subst h38; simp
            · simp [h40, h38]
        · by_cases e : i = l * (sC S).length + j + 1
          · subst e; rw [up1_s]
          · rw [up1_n _ _ e]; exact hr i (by omega)
def pX11_falseMany : Spc := fun As g Q => ∃ L iF aI aL n T R, g = Mg L iF aI aL ∧ As = [.ref 32] ∧ n ≤ 8 ∧ (∀ j, Pm n (R j)) ∧ RK n T R (aI 40) ∧ T ≤ 1600 ∧ iF 32 15 = nI (T + 1) ∧ Q (some (.int (nI (sm (fun i => if isF R i = true then 1 else 0) (T + 1))))) g
theorem oX11_falseMany : Ok 1 yX11_falseMany cX11_falseMany 3 (some .int) pX11_falseMany := by
  refine ok_all fun As g Q h => ?_
  obtain ⟨L, iF, aI, aL, n, T, R, rfl, rfl, hn, hP, hR, hT, hM, hQ⟩ := h
  refine at_of (fun pc => pc == 4) 60 (fun k pc ls st g' => ∃ j, pc = 4 ∧ ls = [.ref 32, .int (nI (sm (fun i => if isF R i = true then 1 else 0) (j + 1))), .int (nI (j + 1))] ∧ st = [] ∧ g' = Mg L iF aI aL ∧ k = 2000 - j ∧ j ≤ T) (by decide) rfl sX11_falseMany (nl (n := 1) rfl rfl rfl) ?_ ?_
  · exact ⟨2000, 0, rfl, rfl, rfl, rfl, rfl, by omega⟩
  · rintro k pc ls st g' ⟨j, rfl, rfl, rfl, rfl, rfl, hj⟩
    refine br_c (fun h => ?_) (fun h => ?_)
    · have h : iF 32 15 ≤ nI (j + 1) := h
      rw [hM] at h
      have h : T + 1 ≤ j + 1 := (nI_leI (by omega) (by omega)).mp h
      have e : j = T := by omega
      subst e
      exact hQ
    · have h : ¬ iF 32 15 ≤ nI (j + 1) := h
      rw [hM] at h
      have h : ¬ T + 1 ≤ j + 1 := fun q => h ((nI_leI (by omega) (by omega)).mpr q)
      refine ⟨L, iF, aI, aL, n, T, R, j + 1, rfl, rfl, hn, hP, hR, hT, by omega, ?_⟩
      have es : sm (fun i => if isF R i = true then 1 else 0) (j + 1 + 1) = sm (fun i => if isF R i = true then 1 else 0) (j + 1) + (if isF R (j + 1) = true then 1 else 0) := rfl
      refine br_c (fun h1 => ?_) (fun h1 => ?_)
      · have hf : isF R (j + 1) = false := by
          cases hc : isF R (j + 1) with
          | false => rfl
          | true => rw [hc] at h1; exact absurd h1 (by decide)
        refine ⟨2000 - (j + 1), by omega, j + 1, rfl, ?_, rfl, rfl, rfl, by omega⟩
        show [Value.ref 32, .int (nI (sm (fun i => if isF R i = true then 1 else 0) (j + 1)) + nI 0), .int (nI (j + 1) + 1)] = _
        rw [nI_add, nI_1, es, hf]
        rfl
      · have hf : isF R (j + 1) = true := by
          cases hc : isF R (j + 1) with
          | true => rfl
          | false => rw [hc] at h1; exact absurd rfl h1
        refine ⟨2000 - (j + 1), by omega, j + 1, rfl, ?_, rfl, rfl, rfl, by omega⟩
        show [Value.ref 32, .int (nI (sm (fun i => if isF R i = true then 1 else 0) (j + 1)) + nI 1), .int (nI (j + 1) + 1)] = _
        rw [nI_add, nI_1, es, hf]
        rfl
def pX11_firstFalse : Spc := fun As g Q => ∃ L iF aI aL n T R, g = Mg L iF aI aL ∧ As = [.ref 32] ∧ n ≤ 8 ∧ (∀ j, Pm n (R j)) ∧ RK n T R (aI 40) ∧ T ≤ 1600 ∧ iF 32 15 = nI (T + 1) ∧ Q (some (.int (fstI (isF R) 1 T))) g
theorem oX11_firstFalse : Ok 1 yX11_firstFalse cX11_firstFalse 2 (some .int) pX11_firstFalse := by
  refine ok_all fun As g Q h => ?_
  obtain ⟨L, iF, aI, aL, n, T, R, rfl, rfl, hn, hP, hR, hT, hM, hQ⟩ := h
  refine at_of (fun pc => pc == 2) 60 (fun k pc ls st g' => ∃ j, pc = 2 ∧ ls = [.ref 32, .int (nI (j + 1))] ∧ st = [] ∧ g' = Mg L iF aI aL ∧ k = 2000 - j ∧ j ≤ T ∧ fstI (isF R) 1 T = fstI (isF R) (j + 1) (T - j)) (by decide) rfl sX11_firstFalse (nl (n := 1) rfl rfl rfl) ?_ ?_
  · exact ⟨2000, 0, rfl, rfl, rfl, rfl, rfl, by omega, rfl⟩
  · rintro k pc ls st g' ⟨j, rfl, rfl, rfl, rfl, rfl, hj, he⟩
    refine br_c (fun h => ?_) (fun h => ?_)
    · have h : iF 32 15 ≤ nI (j + 1) := h
      rw [hM] at h
      have h : T + 1 ≤ j + 1 := (nI_leI (by omega) (by omega)).mp h
      rw [he, show T - j = 0 by omega] at hQ
      exact hQ
    · have h : ¬ iF 32 15 ≤ nI (j + 1) := h
      rw [hM] at h
      have h : ¬ T + 1 ≤ j + 1 := fun q => h ((nI_leI (by omega) (by omega)).mpr q)
      have e0 : T - j = (T - (j + 1)) + 1 := by omega
      rw [e0] at he
      have he : fstI (isF R) 1 T = if isF R (j + 1) = true then nI (j + 1) else fstI (isF R) (j + 1 + 1) (T - (j + 1)) := he
      refine ⟨L, iF, aI, aL, n, T, R, j + 1, rfl, rfl, hn, hP, hR, hT, by omega, ?_⟩
      refine br_c (fun h1 => ?_) (fun h1 => ?_)
      · have hf : isF R (j + 1) = false := by
          cases hc : isF R (j + 1) with
          | false => rfl
          | true => rw [hc] at h1; exact absurd h1 (by decide)
        rw [if_neg (by rw [hf]; simp)] at he
        refine ⟨2000 - (j + 1), by omega, j + 1, rfl, ?_, rfl, rfl, rfl, by omega, he⟩
        show [Value.ref 32, .int (nI (j + 1) + 1)] = _
        rw [nI_1]
      · have hf : isF R (j + 1) = true := by
          cases hc : isF R (j + 1) with
          | true => rfl
          | false => rw [hc] at h1; exact absurd rfl h1
        rw [if_pos hf] at he
        rw [he] at hQ
        exact hQ
def pX11_likedMany : Spc := fun As g Q => ∃ L iF aI aL n T R, g = Mg L iF aI aL ∧ As = [.ref 32] ∧ 4 ≤ n ∧ n ≤ 8 ∧ aI 33 0 = nI n ∧ (∀ j, Pm n (R j)) ∧ RK n T R (aI 40) ∧ T ≤ 1600 ∧ iF 32 15 = nI (T + 1) ∧ ∀ f u, Q (some (.int (nI (sm (fun i => if 1 ≤ i ∧ lik n (R i) = true then 1 else 0) (T + 1))))) (Mg L iF (up1 (up1 aI 38 f) 39 u) aL)
theorem up_3839 {f u f2 u2 : Nat → Int32} (aI : Nat → Nat → Int32) : up1 (up1 (up1 (up1 aI 38 f) 39 u) 38 f2) 39 u2 = up1 (up1 aI 38 f2) 39 u2 := by
  funext a
  unfold up1
  by_cases h39 : a = 39
  · subst h39; simp
  · by_cases h38 : a = 38
    · subst h38; simp
    · simp [h39, h38]
theorem up_id3839 (aI : Nat → Nat → Int32) : up1 (up1 aI 38 (aI 38)) 39 (aI 39) = aI := by
  rw [up1_id]; exact up1_id _ _
theorem oX11_likedMany : Ok 2 yX11_likedMany cX11_likedMany 3 (some .int) pX11_likedMany := by
  refine ok_all fun As g Q h => ?_
  obtain ⟨L, iF, aI, aL, n, T, R, rfl, rfl, hn4, hn, hN, hP, hR, hT, hM, hQ⟩ := h
  refine at_of (fun pc => pc == 4) 60 (fun k pc ls st g' => ∃ j f u, pc = 4 ∧ ls = [.ref 32, .int (nI (sm (fun i => if 1 ≤ i ∧ lik n (R i) = true then 1 else 0) (j + 1))), .int (nI (j + 1))] ∧ st = [] ∧ g' = Mg L iF (up1 (up1 aI 38 f) 39 u) aL ∧ k = 2000 - j ∧ j ≤ T) (by decide) rfl sX11_likedMany (nl (n := 1) rfl rfl rfl) ?_ ?_
  · refine ⟨2000, 0, aI 38, aI 39, rfl, rfl, rfl, ?_, rfl, by omega⟩
    show (SH (true, L), iF, aI, aL) = (SH (true, L), iF, up1 (up1 aI 38 (aI 38)) 39 (aI 39), aL)
    rw [up_id3839]
  · rintro k pc ls st g' ⟨j, f, u, rfl, rfl, rfl, rfl, rfl, hj⟩
    refine br_c (fun h => ?_) (fun h => ?_)
    · have h : iF 32 15 ≤ nI (j + 1) := h
      rw [hM] at h
      have h : T + 1 ≤ j + 1 := (nI_leI (by omega) (by omega)).mp h
      have e : j = T := by omega
      subst e
      exact hQ f u
    · have h : ¬ iF 32 15 ≤ nI (j + 1) := h
      rw [hM] at h
      have h : ¬ T + 1 ≤ j + 1 := fun q => h ((nI_leI (by omega) (by omega)).mpr q)
      refine And.intro (vp_in_nI (by omega) (by omega)) ?_
      have e1 : aI 40 (nI (j + 1)).toNatClampNeg = nI (rk n (R (j + 1))) := by rw [cl1 (by omega)]; exact hR (j + 1) (by omega)
      refine ⟨L, iF, _, aL, n, R (j + 1), rfl, ?_, hn4, hn, hN, hP _, fun f2 u2 hf2 => ?_⟩
      · show [Value.ref 32, .int (aI 40 (nI (j + 1)).toNatClampNeg)] = _
        rw [e1]
      refine ⟨L, iF, _, aL, n, R (j + 1), rfl, rfl, hn4, hn, hN, hf2, ?_⟩
      have es : sm (fun i => if 1 ≤ i ∧ lik n (R i) = true then 1 else 0) (j + 1 + 1) = sm (fun i => if 1 ≤ i ∧ lik n (R i) = true then 1 else 0) (j + 1) + (if 1 ≤ j + 1 ∧ lik n (R (j + 1)) = true then 1 else 0) := rfl
      refine br_c (fun h1 => ?_) (fun h1 => ?_)
      · have hf : lik n (R (j + 1)) = false := by
          cases hc : lik n (R (j + 1)) with
          | false => rfl
          | true => rw [hc] at h1; exact absurd h1 (by decide)
        refine ⟨2000 - (j + 1), by omega, j + 1, f2, u2, rfl, ?_, rfl, ?_, rfl, by omega⟩
        · show [Value.ref 32, .int (nI (sm (fun i => if 1 ≤ i ∧ lik n (R i) = true then 1 else 0) (j + 1)) + nI 0), .int (nI (j + 1) + 1)] = _
          rw [nI_add, nI_1, es, if_neg (fun z => by rw [hf] at z; cases z.2)]
        · show (SH (true, L), iF, up1 (up1 (up1 (up1 aI 38 f) 39 u) 38 f2) 39 u2, aL) = _
          rw [up_3839]
      · have hf : lik n (R (j + 1)) = true := by
          cases hc : lik n (R (j + 1)) with
          | true => rfl
          | false => rw [hc] at h1; exact absurd rfl h1
        refine ⟨2000 - (j + 1), by omega, j + 1, f2, u2, rfl, ?_, rfl, ?_, rfl, by omega⟩
        · show [Value.ref 32, .int (nI (sm (fun i => if 1 ≤ i ∧ lik n (R i) = true then 1 else 0) (j + 1)) + nI 1), .int (nI (j + 1) + 1)] = _
          rw [nI_add, nI_1, es, if_pos ⟨by omega, hf⟩]
        · show (SH (true, L), iF, up1 (up1 (up1 (up1 aI 38 f) 39 u) 38 f2) 39 u2, aL) = _
          rw [up_3839]
def pX11_placeIn : Spc := fun As g Q => ∃ L iF aI aL n T R i b p, g = Mg L iF aI aL ∧ As = [.ref 32, .int (nI i), .int (nI b)] ∧ 4 ≤ n ∧ n ≤ 8 ∧ aI 33 0 = nI n ∧ (∀ j, Pm n (R j)) ∧ RK n T R (aI 40) ∧ T ≤ 1600 ∧ i ≤ T ∧ p < n ∧ dg (R i) p + 1 = b ∧ ∀ f u, Q (some (.int (nI (p + 1)))) (Mg L iF (up1 (up1 aI 38 f) 39 u) aL)
theorem oX11_placeIn : Ok 2 yX11_placeIn cX11_placeIn 4 (some .int) pX11_placeIn := by
  refine ok_all fun As g Q h => ?_
  obtain ⟨L, iF, aI, aL, n, T, R, i, b, p, rfl, rfl, hn4, hn, hN, hP, hR, hT, hi, hp, hb, hQ⟩ := h
  have dp := dg_lt (R i) p
  refine at_of (fun pc => pc == 12) 60 (fun k pc ls st g' => ∃ q f u, pc = 12 ∧ ls = [.ref 32, .int (nI i), .int (nI b), .int (nI (q + 1))] ∧ st = [] ∧ g' = Mg L iF (up1 (up1 aI 38 f) 39 u) aL ∧ k = 10 - q ∧ q ≤ p ∧ MR n (R i) f) (by decide) rfl sX11_placeIn (nl (n := 3) rfl rfl rfl) ?_ ?_
  · refine And.intro (vp_in_nI (by omega) (by omega)) ?_
    refine ⟨L, iF, aI, aL, n, R i, rfl, ?_, hn4, hn, hN, hP _, fun f u hf => ?_⟩
    · show [Value.ref 32, .int (aI 40 (nI i).toNatClampNeg)] = _
      rw [cl1 (by omega), hR i hi]
    exact ⟨10, 0, f, u, rfl, rfl, rfl, rfl, rfl, by omega, hf⟩
  · rintro k pc ls st g' ⟨q, f, u, rfl, rfl, rfl, rfl, rfl, hq, hf⟩
    have dq := dg_lt (R i) q
    refine And.intro (vp_in_nI (by omega) (by omega)) ?_
    have e1 : f (nI (q + 1)).toNatClampNeg = nI (dg (R i) q + 1) := by rw [cl1 (by omega)]; exact hf q (by omega)
    refine br_c (fun h => ?_) (fun h => ?_)
    · have h : f (nI (q + 1)).toNatClampNeg = nI b := h
      rw [e1] at h
      have h : dg (R i) q + 1 = b := (nI_eq (by omega) (by omega)).mp h
      have e : q = p := (hP i).2.2 q p (by omega) hp (by omega)
      subst e
      exact hQ f u
    · have h : ¬ f (nI (q + 1)).toNatClampNeg = nI b := h
      rw [e1] at h
      have e : q ≠ p := fun e => h (by rw [e, hb])
      refine ⟨10 - (q + 1), by omega, q + 1, f, u, rfl, ?_, rfl, rfl, rfl, by omega, hf⟩
      show [Value.ref 32, .int (nI i), .int (nI b), .int (nI (q + 1) + 1)] = _
      rw [nI_1]

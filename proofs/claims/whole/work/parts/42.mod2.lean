def pX11_ringLead : Spc := fun As g Q => ∃ L iF aI aL S l x, g = Mg L iF aI aL ∧ As = [.ref 32, .int (nI l)] ∧ RS (aI 33) S ∧ VS S ∧ l ≤ 2 ∧ MR (sN S) x (aI 38) ∧ ∀ f, MR (sN S) (led S l x) f → Q none (Mg L iF (up1 aI 38 f) aL)
theorem oX11_ringLead : Ok 2 yX11_ringLead cX11_ringLead 3 none pX11_ringLead := by
  refine ok_all fun As g Q h => ?_
  obtain ⟨L, iF, aI, aL, S, l, x, rfl, rfl, hR, hS, hl, hx, hQ⟩ := h
  have hc := hS.2.1.1
  refine at_of (fun pc => pc == 2) 60 (fun k pc ls st g' => ∃ j f, pc = 2 ∧ ls = [.ref 32, .int (nI l), .int (nI j)] ∧ st = [] ∧ g' = Mg L iF (up1 aI 38 f) aL ∧ k = 41 - j ∧ j ≤ (sC S).length ∧ MR (sN S) (rgTo S l x j) f) (by decide) rfl sX11_ringLead (nl (n := 2) rfl rfl rfl) ?_ ?_
  · refine ⟨41, 0, aI 38, rfl, rfl, rfl, ?_, rfl, by omega, hx⟩
    show (SH (true, L), iF, aI, aL) = (SH (true, L), iF, up1 aI 38 (aI 38), aL)
    rw [up1_id]
  · rintro k pc ls st g' ⟨j, f, rfl, rfl, rfl, rfl, rfl, hj, hf⟩
    refine And.intro (vp_in_nI (n := 1) (N := 85) (by omega) (by omega)) ?_
    refine br_c (fun h => ?_) (fun h => ?_)
    · have h : aI 33 1 ≤ nI j := h
      rw [hR.2.1] at h
      have h : (sC S).length ≤ j := (nI_leI (by omega) (by omega)).mp h
      have e : j = (sC S).length := by omega
      subst e
      exact hQ f hf
    · have h : ¬ aI 33 1 ≤ nI j := h
      rw [hR.2.1] at h
      have h : ¬ (sC S).length ≤ j := fun q => h ((nI_leI (by omega) (by omega)).mpr q)
      have hv := chOf_VM hS (l := l) (k := j) (by omega)
      refine ⟨L, iF, up1 aI 38 f, aL, S, l, j, rfl, rfl, hR, hS, hl, by omega, ?_⟩
      refine ⟨L, iF, up1 aI 38 f, aL, sN S, chOf S l j, rgTo S l x j, rfl, rfl, hS.1.1, hS.1.2, hv.1, hv.2.2, hR.1, hf, fun f2 hf2 => ?_⟩
      refine ⟨41 - (j + 1), by omega, j + 1, f2, rfl, ?_, rfl, ?_, rfl, by omega, hf2⟩
      · show [Value.ref 32, .int (nI l), .int (nI j + 1)] = _
        rw [nI_1]
      · show (SH (true, L), iF, up1 (up1 aI 38 f) 38 f2, aL) = _
        rw [up1_up1]
/-! rows of the touch that are as an earlier one -/
def isF (R : Nat → Nat) (i : Nat) : Bool := (List.range i).any (fun j => decide (1 ≤ j) && R j == R i)
theorem isF_iff {R : Nat → Nat} {i : Nat} : isF R i = true ↔ ∃ j, 1 ≤ j ∧ j < i ∧ R j = R i := by
  unfold isF
  rw [List.any_eq_true]
  constructor
  · rintro ⟨j, h1, h2⟩
    simp only [Bool.and_eq_true, decide_eq_true_eq, beq_iff_eq] at h2
    exact ⟨j, h2.1, List.mem_range.mp h1, h2.2⟩
  · rintro ⟨j, h1, h2, h3⟩
    exact ⟨j, List.mem_range.mpr h2, by simp [h1, h3]⟩
/-- the reference's rows: ranks -/
def RK (n T : Nat) (R : Nat → Nat) (f : Nat → Int32) : Prop := ∀ i, i ≤ T → f i = nI (rk n (R i))
theorem rkI_eq {n x y : Nat} (hn : n ≤ 8) (hx : Pm n x) (hy : Pm n y) : nI (rk n x) = nI (rk n y) ↔ x = y := by
  have h1 := rk_lt (x := x) hn
  have h2 := rk_lt (x := y) hn
  have h3 := fct_le n hn
  constructor
  · intro h; exact rk_inj hx hy ((nI_eq (by omega) (by omega)).mp h)
  · rintro rfl; rfl
def b01 (b : Bool) : Int32 := cond b 1 0
theorem b01_or (b : Bool) : b01 b = 0 ∨ b01 b = 1 := by cases b <;> simp [b01]
def pX11_isFalse : Spc := fun As g Q => ∃ L iF aI aL n T R i, g = Mg L iF aI aL ∧ As = [.ref 32, .int (nI i)] ∧ n ≤ 8 ∧ (∀ j, Pm n (R j)) ∧ RK n T R (aI 40) ∧ T ≤ 1600 ∧ i ≤ T ∧ Q (some (.int (b01 (isF R i)))) g
theorem oX11_isFalse : Ok 0 yX11_isFalse cX11_isFalse 4 (some .boolean) pX11_isFalse := by
  refine ok_all fun As g Q h => ?_
  obtain ⟨L, iF, aI, aL, n, T, R, i, rfl, rfl, hn, hP, hR, hT, hi, hQ⟩ := h
  refine at_of (fun pc => pc == 4) 60 (fun k pc ls st g' => ∃ j b, pc = 4 ∧ ls = [.ref 32, .int (nI i), .int (b01 b), .int (nI (j + 1))] ∧ st = [] ∧ g' = Mg L iF aI aL ∧ k = 2000 - j ∧ j ≤ 1600 ∧ (b = true ↔ ∃ q, 1 ≤ q ∧ q < j + 1 ∧ q < i ∧ R q = R i)) (by decide) rfl sX11_isFalse (nl (n := 2) rfl rfl rfl) ?_ ?_
  · refine ⟨2000, 0, false, rfl, rfl, rfl, rfl, rfl, by omega, ?_⟩
    constructor
    · intro h; cases h
    · rintro ⟨q, h1, h2, -⟩; omega
  · rintro k pc ls st g' ⟨j, b, rfl, rfl, rfl, rfl, rfl, hj, hb⟩
    refine br_c (fun h => ?_) (fun h => ?_)
    · have h : i ≤ j + 1 := (nI_leI (by omega) (by omega)).mp h
      have e : b = isF R i := by
        cases hc : isF R i with
        | true =>
          obtain ⟨q, h1, h2, h3⟩ := isF_iff.mp hc
          exact hb.mpr ⟨q, h1, by omega, h2, h3⟩
        | false =>
          cases hb2 : b with
          | false => rfl
          | true =>
            obtain ⟨q, h1, h2, h3, h4⟩ := hb.mp hb2
            rw [isF_iff.mpr ⟨q, h1, h3, h4⟩] at hc; cases hc
      subst e
      exact And.intro (b01_or _) hQ
    · have h : ¬ i ≤ j + 1 := fun q => h ((nI_leI (by omega) (by omega)).mpr q)
      refine And.intro (fun h1 => ?_) (fun h1 => ?_)
      · have hbt : b = true := by
          cases b with
          | true => rfl
          | false => exact absurd rfl h1
        obtain ⟨q, a1, a2, a3, a4⟩ := hb.mp hbt
        have e : b = isF R i := by rw [hbt, isF_iff.mpr ⟨q, a1, a3, a4⟩]
        subst e
        exact And.intro (b01_or _) hQ
      · have hbf : b = false := by
          cases b with
          | false => rfl
          | true => exact absurd h1 (by decide)
        refine And.intro (vp_in_nI (by omega) (by omega)) (And.intro (vp_in_nI (by omega) (by omega)) ?_)
        have e1 : aI 40 (nI (j + 1)).toNatClampNeg = nI (rk n (R (j + 1))) := by rw [cl1 (by omega)]; exact hR (j + 1) (by omega)
        have e2 : aI 40 (nI i).toNatClampNeg = nI (rk n (R i)) := by rw [cl1 (by omega)]; exact hR i (by omega)
        refine And.intro (fun h2 => ?_) (fun h2 => ?_)
        · have h2 : ¬ aI 40 (nI (j + 1)).toNatClampNeg = aI 40 (nI i).toNatClampNeg := h2
          rw [e1, e2, rkI_eq hn (hP _) (hP _)] at h2
          refine ⟨2000 - (j + 1), by omega, j + 1, false, rfl, ?_, rfl, rfl, rfl, by omega, ?_⟩
          · show [Value.ref 32, .int (nI i), .int 0, .int (nI (j + 1) + 1)] = _
            rw [nI_1]; rfl
          · constructor
            · intro z; cases z
            · rintro ⟨q, a1, a2, a3, a4⟩
              by_cases e : q = j + 1
              · subst e; exact absurd a4 h2
              · have := hb.mpr ⟨q, a1, by omega, a3, a4⟩
                rw [hbf] at this; cases this
        · have h2 : aI 40 (nI (j + 1)).toNatClampNeg = aI 40 (nI i).toNatClampNeg := h2
          rw [e1, e2, rkI_eq hn (hP _) (hP _)] at h2
          refine ⟨2000 - (j + 1), by omega, j + 1, true, rfl, ?_, rfl, rfl, rfl, by omega, ?_⟩
          · show [Value.ref 32, .int (nI i), .int 1, .int (nI (j + 1) + 1)] = _
            rw [nI_1]; rfl
          · exact ⟨fun _ => ⟨j + 1, by omega, by omega, by omega, h2⟩, fun _ => rfl⟩
/-- the first of 'k' numbers from i on of which P holds, or NONE -/
def fstI (P : Nat → Bool) (i : Nat) : Nat → Int32
  | 0 => -6
  | k + 1 => if P i = true then nI i else fstI P (i + 1) k
def pX11_comesRound : Spc := fun As g Q => ∃ L iF aI aL n T R, g = Mg L iF aI aL ∧ As = [.ref 32] ∧ n ≤ 8 ∧ (∀ j, Pm n (R j)) ∧ RK n T R (aI 40) ∧ T ≤ 1600 ∧ iF 32 15 = nI (T + 1) ∧ Q (some (.int (fstI (fun i => R i == rds n) 1 T))) g
theorem oX11_comesRound : Ok 0 yX11_comesRound cX11_comesRound 2 (some .int) pX11_comesRound := by
  refine ok_all fun As g Q h => ?_
  obtain ⟨L, iF, aI, aL, n, T, R, rfl, rfl, hn, hP, hR, hT, hM, hQ⟩ := h
  refine at_of (fun pc => pc == 2) 60 (fun k pc ls st g' => ∃ j, pc = 2 ∧ ls = [.ref 32, .int (nI (j + 1))] ∧ st = [] ∧ g' = Mg L iF aI aL ∧ k = 2000 - j ∧ j ≤ T ∧ fstI (fun i => R i == rds n) 1 T = fstI (fun i => R i == rds n) (j + 1) (T - j)) (by decide) rfl sX11_comesRound (nl (n := 1) rfl rfl rfl) ?_ ?_
  · exact ⟨2000, 0, rfl, rfl, rfl, rfl, rfl, by omega, rfl⟩
  · rintro k pc ls st g' ⟨j, rfl, rfl, rfl, rfl, rfl, hj, he⟩
    refine br_c (fun h => ?_) (fun h => ?_)
    · have h : iF 32 15 ≤ nI (j + 1) := h
      rw [hM] at h
      have h : T + 1 ≤ j + 1 := (nI_leI (by omega) (by omega)).mp h
      rw [he, show T - j = 0 by omega] at hQ
      exact hQ
    · have h : ¬ iF 32 15 ≤ nI (j + 1) := h
      rw [hM] at h
      have h : ¬ T + 1 ≤ j + 1 := fun q => h ((nI_leI (by omega) (by omega)).mpr q)
      have e0 : T - j = (T - (j + 1)) + 1 := by omega
      rw [e0] at he
      have he : fstI (fun i => R i == rds n) 1 T = if (R (j + 1) == rds n) = true then nI (j + 1) else fstI (fun i => R i == rds n) (j + 1 + 1) (T - (j + 1)) := he
      refine And.intro (vp_in_nI (by omega) (by omega)) ?_
      have e1 : aI 40 (nI (j + 1)).toNatClampNeg = nI (rk n (R (j + 1))) := by rw [cl1 (by omega)]; exact hR (j + 1) (by omega)
      have e2 : nI (rk n (R (j + 1))) = 0 ↔ R (j + 1) = rds n := by
        have := rkI_eq hn (hP (j + 1)) (Pm_rds hn)
        rw [rk_rds hn] at this
        exact this
      refine And.intro (fun h2 => ?_) (fun h2 => ?_)
      · have h2 : ¬ aI 40 (nI (j + 1)).toNatClampNeg = 0 := h2
        rw [e1, e2] at h2
        rw [if_neg (by simpa using h2)] at he
        refine ⟨2000 - (j + 1), by omega, j + 1, rfl, ?_, rfl, rfl, rfl, by omega, he⟩
        show [Value.ref 32, .int (nI (j + 1) + 1)] = _
        rw [nI_1]
      · have h2 : aI 40 (nI (j + 1)).toNatClampNeg = 0 := h2
        rw [e1, e2] at h2
        rw [if_pos (by simpa using h2)] at he
        rw [he] at hQ
        exact hQ

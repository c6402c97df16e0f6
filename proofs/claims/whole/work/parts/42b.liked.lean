/-- a row is liked -/
def lik (n x : Nat) : Bool := (decide (dg x (n - 2) = dg x (n - 3) + 1) && decide (dg x (n - 1) = dg x (n - 2) + 1)) || (decide (dg x (n - 3) = dg x (n - 2) + 1) && decide (dg x (n - 2) = dg x (n - 1) + 1))
theorem subI_eq {a b c d : Nat} (ha : a < 100) (hb : b < 100) (hc : c < 100) (hd : d < 100) : (nI a - nI b = nI c - nI d) ↔ a + d = c + b := by
  have e : ∀ x y : Nat, x < 100 → y < 100 → (nI x - nI y).toInt = (x : Int) - y := fun x y hx hy => pk_sub_toInt (by omega) (by omega)
  rw [← Int32.toInt_inj, e a b ha hb, e c d hc hd]
  omega
theorem subI_1 {a b : Nat} (ha : a < 100) (hb : b < 100) : (nI a - nI b = 1) ↔ a = b + 1 := by
  have := subI_eq (a := a) (b := b) (c := 1) (d := 0) ha hb (by omega) (by omega)
  rw [show (nI 1 - nI 0 : Int32) = 1 from by decide] at this
  rw [this]; omega
theorem subI_m1 {a b : Nat} (ha : a < 100) (hb : b < 100) : (nI a - nI b = -1) ↔ b = a + 1 := by
  have := subI_eq (a := a) (b := b) (c := 0) (d := 1) ha hb (by omega) (by omega)
  rw [show (nI 0 - nI 1 : Int32) = -1 from by decide] at this
  rw [this]; omega
def qX11_isLiked : Spc := fun As g Q => ∃ L iF aI aL n x, g = Mg L iF aI aL ∧ As = [.ref 32] ∧ 4 ≤ n ∧ n ≤ 8 ∧ aI 33 0 = nI n ∧ MR n x (aI 38) ∧ Q (some (.int (b01 (lik n x)))) g
theorem rX11_isLiked : Ok 1 yX11_isLiked cX11_isLiked 4 (some .boolean) qX11_isLiked := by
  refine ok_weak (fun As g Q h => ?_) oX11_isLiked
  obtain ⟨L, iF, aI, aL, n, x, rfl, rfl, hn4, hn, hN, hR, hQ⟩ := h
  have i0 : vp_in 0 85 := vp_in_nI (n := 0) (N := 85) (by omega) (by omega)
  have e2 : aI 33 0 - 2 = nI (n - 2) := by rw [hN, show (2 : Int32) = nI 2 from rfl, nx_sub (by omega)]
  have e1 : aI 33 0 - 1 = nI (n - 1) := by rw [hN, show (1 : Int32) = nI 1 from rfl, nx_sub (by omega)]
  have ra : aI 38 (aI 33 0 - 2).toNatClampNeg = nI (dg x (n - 3) + 1) := by rw [e2, cl1 (by omega), show n - 2 = n - 3 + 1 by omega]; exact hR _ (by omega)
  have rb : aI 38 (aI 33 0 - 1).toNatClampNeg = nI (dg x (n - 2) + 1) := by rw [e1, cl1 (by omega), show n - 1 = n - 2 + 1 by omega]; exact hR _ (by omega)
  have rc : aI 38 (aI 33 0).toNatClampNeg = nI (dg x (n - 1) + 1) := by rw [hN, cl1 (by omega)]; have := hR (n - 1) (by omega); rw [show n - 1 + 1 = n by omega] at this; exact this
  have d1 := dg_lt x (n - 3)
  have d2 := dg_lt x (n - 2)
  have d3 := dg_lt x (n - 1)
  refine And.intro i0 (And.intro ?_ (And.intro i0 (And.intro ?_ (And.intro i0 (And.intro ?_ ?_)))))
  · show vp_in (aI 33 0 - 2) 9
    rw [e2]; exact vp_in_nI (by omega) (by omega)
  · show vp_in (aI 33 0 - 1) 9
    rw [e1]; exact vp_in_nI (by omega) (by omega)
  · show vp_in (aI 33 0) 9
    rw [hN]; exact vp_in_nI (by omega) (by omega)
  have no : lik n x = false → ((0 : Int32) = 0 ∨ (0 : Int32) = 1) ∧ Q (some (.int 0)) (Mg L iF aI aL) := by
    intro e; rw [e] at hQ; exact ⟨Or.inl rfl, hQ⟩
  have yes : lik n x = true → ((1 : Int32) = 0 ∨ (1 : Int32) = 1) ∧ Q (some (.int 1)) (Mg L iF aI aL) := by
    intro e; rw [e] at hQ; exact ⟨Or.inr rfl, hQ⟩
  refine And.intro (fun h => ?_) (fun h => ?_)
  · have h : ¬ aI 38 (aI 33 0 - 1).toNatClampNeg - aI 38 (aI 33 0 - 2).toNatClampNeg = aI 38 (aI 33 0).toNatClampNeg - aI 38 (aI 33 0 - 1).toNatClampNeg := h
    rw [ra, rb, rc, subI_eq (by omega) (by omega) (by omega) (by omega)] at h
    refine no ?_
    unfold lik
    simp
    omega
  · have h : aI 38 (aI 33 0 - 1).toNatClampNeg - aI 38 (aI 33 0 - 2).toNatClampNeg = aI 38 (aI 33 0).toNatClampNeg - aI 38 (aI 33 0 - 1).toNatClampNeg := h
    rw [ra, rb, rc, subI_eq (by omega) (by omega) (by omega) (by omega)] at h
    refine br_c (fun h1 => ?_) (fun h1 => ?_)
    · have h1 : aI 38 (aI 33 0 - 1).toNatClampNeg - aI 38 (aI 33 0 - 2).toNatClampNeg = 1 := h1
      rw [ra, rb, subI_1 (by omega) (by omega)] at h1
      refine yes ?_
      unfold lik
      simp
      omega
    · have h1 : ¬ aI 38 (aI 33 0 - 1).toNatClampNeg - aI 38 (aI 33 0 - 2).toNatClampNeg = 1 := h1
      rw [ra, rb, subI_1 (by omega) (by omega)] at h1
      refine And.intro (fun h2 => ?_) (fun h2 => ?_)
      · have h2 : ¬ aI 38 (aI 33 0 - 1).toNatClampNeg - aI 38 (aI 33 0 - 2).toNatClampNeg = -1 := h2
        rw [ra, rb, subI_m1 (by omega) (by omega)] at h2
        refine no ?_
        unfold lik
        simp
        omega
      · have h2 : aI 38 (aI 33 0 - 1).toNatClampNeg - aI 38 (aI 33 0 - 2).toNatClampNeg = -1 := h2
        rw [ra, rb, subI_m1 (by omega) (by omega)] at h2
        refine yes ?_
        unfold lik
        simp
        omega

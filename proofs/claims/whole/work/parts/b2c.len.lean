def lnP (P : Prs) : Nat := if P.2.2 = none then P.2.1.length else 2 * P.2.1.length - 2
theorem lnP_eq {n i : Nat} {P : Prs} (h : PV n i P) (he : cEnd n P.1 = true) : (mch P).length = lnP P := by
  obtain ⟨h1, h2⟩ := mch_len h he
  unfold lnP
  cases e : P.2.2 with
  | none => rw [if_pos rfl]; exact h1 e
  | some k => rw [if_neg (by simp)]; exact (h2 k e).2.2
def qX3_length : Spc := fun As g Q => ∃ z iF aI aL mt n i P, g = Cg z iF aI aL ∧ As = [.ref 12] ∧ NP mt n iF aI P ∧ PV n i P ∧ i ≤ 40 ∧ Q (some (.int (nI (lnP P)))) g
theorem rX3_length : Ok 0 yX3_length cX3_length 1 (some .int) qX3_length := by
  refine ok_weak (fun As g Q h => ?_) oX3_length
  obtain ⟨z, iF, aI, aL, mt, n, i, P, rfl, rfl, ⟨m1, m2, m3, m4, m5, m6⟩, hP, hi, hQ⟩ := h
  have hl := hP.1
  have h6 : oI P.2.2 = -6 ↔ P.2.2 = none := oI_6 (n := 40) (fun k e => by have := (hP.2.2.2.1 k e).2.1; omega) (by omega)
  unfold lnP at hQ
  refine And.intro (fun h => ?_) (fun h => ?_)
  · have h : ¬ iF 12 5 = -6 := h
    rw [m5, h6] at h
    rw [if_neg h] at hQ
    have hl1 : 1 ≤ P.2.1.length := by
      cases e : P.2.2 with
      | none => exact absurd e h
      | some k => have := hP.2.2.2.1 k e; omega
    show Q (some (.int (2 * iF 12 4 - 2))) _
    rw [m4, show (2 : Int32) = nI 2 from rfl, nx_mul, nx_sub (by omega)]
    exact hQ
  · have h : iF 12 5 = -6 := h
    rw [m5, h6] at h
    rw [if_pos h, ← m4] at hQ
    exact hQ
def qX3_firstChange : Spc := fun As g Q => ∃ z iF aI aL, g = Cg z iF aI aL ∧ As = [.ref 12] ∧ Q (some (.int (aI 13 0))) g
theorem rX3_firstChange : Ok 0 yX3_firstChange cX3_firstChange 1 (some .int) qX3_firstChange := by
  refine ok_weak (fun As g Q h => ?_) oX3_firstChange
  obtain ⟨z, iF, aI, aL, rfl, rfl, hQ⟩ := h
  exact And.intro (vp_in_nI (n := 0) (N := 40) (by omega) (by omega)) hQ

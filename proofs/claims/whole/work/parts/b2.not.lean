/-! the class reads a sign -/
theorem rX3_takeCross : Ok 1 yX3_takeCross cX3_takeCross 2 (some .boolean) qX3_takeCross := by
  refine ok_all fun As g Q h => ?_
  obtain ⟨z, iF, aI, aL, mt, n, i, P, rfl, rfl, hn, ⟨m1, m2, m3, m4, m5, m6⟩, hP, hi, hQ⟩ := h
  refine at0 100 (by decide) rfl sX3_takeCross_q (nl (n := 1) rfl rfl rfl) ?_
  have hl := hP.1
  obtain ⟨c1, c2, c3⟩ := hP.c3 hn
  obtain ⟨l1, l2, l3, l4, l5⟩ := lsI_all P.1 c1 c2
  have no : ¬ (n % 2 = 0 ∧ (P.1 = 0 ∨ (mt = true ∧ (P.1 = 102 ∨ cEnd n P.1 = true)))) → ((0 : Int32) = 0 ∨ (0 : Int32) = 1) ∧ Q (some (.int 0)) (Cg z iF aI aL) := by
    intro e
    have h1 : stpX mt n P = none := if_neg e
    have := hQ iF aI (NF.refl _ _) (fun P' z => by rw [h1] at z; cases z)
    rw [h1] at this
    exact ⟨Or.inl rfl, this⟩
  have e2 : iF 12 0 - iF 12 0 / 2 * 2 = nI (n % 2) := by rw [m1, show (2 : Int32) = nI 2 from rfl, pk_rem (by omega) (by omega) (by omega)]
  have od : ¬ iF 12 0 - iF 12 0 / 2 * 2 = 0 → ¬ n % 2 = 0 := fun h q => h (by rw [e2, q]; rfl)
  have ev : iF 12 0 - iF 12 0 / 2 * 2 = 0 → n % 2 = 0 := fun h => (nI_eq (b := 0) (by omega) (by omega)).mp (e2.symm.trans h)
  have go : n % 2 = 0 → (P.1 = 0 ∨ (mt = true ∧ (P.1 = 102 ∨ cEnd n P.1 = true))) → ((1 : Int32) = 0 ∨ (1 : Int32) = 1) ∧ Q (some (.int 1)) (Cg z (up1 (up1 iF 12 (up1 (iF 12) 2 (-1))) 12 (up1 (up1 (iF 12) 2 (-1)) 4 (nI (P.2.1.length + 1)))) (up1 aI 13 (up1 (aI 13) P.2.1.length 0)) aL) := by
    intro he hc
    have h1 : stpX mt n P = some (100, P.2.1 ++ [0], P.2.2) := if_pos ⟨he, hc⟩
    have := hQ _ _ (((NF.refl iF aI).fld (up1 (iF 12) 2 (-1))).fld (up1 (up1 (iF 12) 2 (-1)) 4 (nI (P.2.1.length + 1))) |>.arr (up1 (aI 13) P.2.1.length 0)) (fun P' z => by
      rw [h1] at z
      cases z
      refine ⟨m1, m2, rfl, ?_, m5, fun j hj => ?_⟩
      · show nI (P.2.1.length + 1) = _
        rw [List.length_append]; rfl
      · show up1 (aI 13) P.2.1.length 0 j = _
        rw [List.length_append] at hj
        by_cases e : j = P.2.1.length
        · rw [e, up1_s, getD_last]; rfl
        · have hj : j < P.2.1.length := by simp at hj; omega
          rw [up1_n _ _ e, getD_app hj]; exact m6 j hj)
    rw [h1] at this
    exact ⟨Or.inr rfl, this⟩
  refine br_c (fun h => ?_) (fun h => ?_)
  · have h : iF 12 2 = 0 := h
    rw [m3, l2] at h
    exact And.intro (by decide) (And.intro (fun q => no (fun y => od q y.1)) (fun q => br_nt n10 ⟨z, _, _, aL, P.2.1.length, rfl, rfl, m4, (by omega), go (ev q) (Or.inl h)⟩))
  · have h : ¬ iF 12 2 = 0 := h
    rw [m3, l2] at h
    refine br_c (fun h2 => ?_) (fun h2 => ?_)
    · have h2 : mt = false := (i1 m2).mp h2
      have nn := no (fun y => by rcases y.2 with y | y; exact h y; rw [h2] at y; cases y.1)
      exact And.intro (by decide) (And.intro (fun q => nn) (fun q => br_nf rfl nn))
    · have h2 : mt = true := (i2 m2).mp h2
      refine br_c (fun h3 => ?_) (fun h3 => ?_)
      · have h3 : iF 12 2 = -3 := h3
        rw [m3, l3] at h3
        exact And.intro (by decide) (And.intro (fun q => no (fun y => od q y.1)) (fun q => br_nt n10 ⟨z, _, _, aL, P.2.1.length, rfl, rfl, m4, (by omega), go (ev q) (Or.inr ⟨h2, Or.inl h3⟩)⟩))
      · have h3 : ¬ iF 12 2 = -3 := h3
        rw [m3, l3] at h3
        refine ⟨z, iF, aI, aL, n, P.1, rfl, rfl, hn, m1, m3, c1, c2, c3, br_c (fun h4 => ?_) (fun h4 => ?_)⟩
        · have h4 : cEnd n P.1 = false := (i1 rfl).mp h4
          have nn := no (fun y => by
            rcases y.2 with y | y
            · exact h y
            · rcases y.2 with y | y
              · exact h3 y
              · rw [h4] at y; cases y)
          exact And.intro (by decide) (And.intro (fun q => nn) (fun q => br_nf rfl nn))
        · have h4 : cEnd n P.1 = true := (i2 rfl).mp h4
          exact And.intro (by decide) (And.intro (fun q => no (fun y => od q y.1)) (fun q => br_nt n10 ⟨z, _, _, aL, P.2.1.length, rfl, rfl, m4, (by omega), go (ev q) (Or.inr ⟨h2, Or.inr h4⟩)⟩))
theorem rX3_takePoint : Ok 1 yX3_takePoint cX3_takePoint 1 (some .boolean) qX3_takePoint := by
  refine ok_all fun As g Q h => ?_
  obtain ⟨z, iF, aI, aL, mt, n, i, P, rfl, rfl, hn, ⟨m1, m2, m3, m4, m5, m6⟩, hP, hi, hQ⟩ := h
  refine at0 100 (by decide) rfl sX3_takePoint_q (nl (n := 1) rfl rfl rfl) ?_
  obtain ⟨c1, c2, c3⟩ := hP.c3 hn
  obtain ⟨l1, l2, l3, l4, l5⟩ := lsI_all P.1 c1 c2
  have no : ¬ (mt = true ∧ P.1 ≠ 100 ∧ cEnd n P.1 = true) → ((0 : Int32) = 0 ∨ (0 : Int32) = 1) ∧ Q (some (.int 0)) (Cg z iF aI aL) := by
    intro e
    have h1 : stpP mt n P = none := if_neg e
    have := hQ iF aI (NF.refl _ _) (fun P' z => by rw [h1] at z; cases z)
    rw [h1] at this
    exact ⟨Or.inl rfl, this⟩
  refine br_c (fun h => ?_) (fun h => ?_)
  · have h : mt = false := (i1 m2).mp h
    exact no (fun y => by rw [h] at y; cases y.1)
  · have h : mt = true := (i2 m2).mp h
    refine br_c (fun h2 => ?_) (fun h2 => ?_)
    · have h2 : iF 12 2 = -1 := h2
      rw [m3, l1] at h2
      exact no (fun y => y.2.1 h2)
    · have h2 : ¬ iF 12 2 = -1 := h2
      rw [m3, l1] at h2
      refine ⟨z, iF, aI, aL, n, P.1, rfl, rfl, hn, m1, m3, c1, c2, c3, And.intro (fun h4 => ?_) (fun h4 => ?_)⟩
      · have h4 : cEnd n P.1 = true := (i2 rfl).mp h4
        have h1 : stpP mt n P = some (101, P.2.1, P.2.2) := if_pos ⟨h, h2, h4⟩
        have := hQ _ _ ((NF.refl iF aI).fld (up1 (iF 12) 2 (-2))) (fun P' z => by
          rw [h1] at z
          cases z
          exact ⟨m1, m2, rfl, m4, m5, m6⟩)
        rw [h1] at this
        exact ⟨Or.inr rfl, this⟩
      · have h4 : cEnd n P.1 = false := (i1 rfl).mp h4
        exact no (fun y => by rw [h4] at y; cases y.2.2)
theorem oI_6 {o : Option Nat} {n : Nat} (h : ∀ k, o = some k → k ≤ n) (hn : n < 2 ^ 31) : oI o = -6 ↔ o = none := by
  cases o with
  | none => exact ⟨fun _ => rfl, fun _ => rfl⟩
  | some k =>
    have := h k rfl
    exact ⟨fun q => absurd q (nI_ne6 (by omega)), fun q => by cases q⟩
theorem rX3_takeComma : Ok 1 yX3_takeComma cX3_takeComma 1 (some .boolean) qX3_takeComma := by
  refine ok_all fun As g Q h => ?_
  obtain ⟨z, iF, aI, aL, mt, n, i, P, rfl, rfl, hn, ⟨m1, m2, m3, m4, m5, m6⟩, hP, hi, hQ⟩ := h
  refine at0 100 (by decide) rfl sX3_takeComma_q (nl (n := 1) rfl rfl rfl) ?_
  have hl := hP.1
  obtain ⟨c1, c2, c3⟩ := hP.c3 hn
  have h6 : oI P.2.2 = -6 ↔ P.2.2 = none := oI_6 (n := 40) (fun k e => by have := (hP.2.2.2.1 k e).2.1; omega) (by omega)
  have no : ¬ (mt = true ∧ P.2.2 = none ∧ cEnd n P.1 = true) → ((0 : Int32) = 0 ∨ (0 : Int32) = 1) ∧ Q (some (.int 0)) (Cg z iF aI aL) := by
    intro e
    have h1 : stpC mt n P = none := if_neg e
    have := hQ iF aI (NF.refl _ _) (fun P' z => by rw [h1] at z; cases z)
    rw [h1] at this
    exact ⟨Or.inl rfl, this⟩
  refine br_c (fun h => ?_) (fun h => ?_)
  · have h : mt = false := (i1 m2).mp h
    exact no (fun y => by rw [h] at y; cases y.1)
  · have h : mt = true := (i2 m2).mp h
    refine And.intro (fun h2 => ?_) (fun h2 => ?_)
    · have h2 : ¬ iF 12 5 = -6 := h2
      rw [m5, h6] at h2
      exact no (fun y => h2 y.2.1)
    · have h2 : iF 12 5 = -6 := h2
      rw [m5, h6] at h2
      refine ⟨z, iF, aI, aL, n, P.1, rfl, rfl, hn, m1, m3, c1, c2, c3, And.intro (fun h4 => ?_) (fun h4 => ?_)⟩
      · have h4 : cEnd n P.1 = true := (i2 rfl).mp h4
        have h1 : stpC mt n P = some (102, P.2.1, some P.2.1.length) := if_pos ⟨h, h2, h4⟩
        have := hQ _ _ (((NF.refl iF aI).fld (up1 (iF 12) 5 (iF 12 4))).fld (up1 (up1 (iF 12) 5 (iF 12 4)) 2 (-3))) (fun P' z => by
          rw [h1] at z
          cases z
          exact ⟨m1, m2, rfl, m4, m4, m6⟩)
        rw [h1] at this
        exact ⟨Or.inr rfl, this⟩
      · have h4 : cEnd n P.1 = false := (i1 rfl).mp h4
        exact no (fun y => by rw [h4] at y; cases y.2.2)

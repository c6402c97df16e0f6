/-! the class reads a pad: the small ones -/
def lsI (c : Nat) : Int32 := if c ≤ 8 then nI c else if c = 100 then -1 else if c = 101 then -2 else -3
theorem lsI_all : ∀ c, c < 103 → (c ≤ 8 ∨ 100 ≤ c) → (lsI c = -1 ↔ c = 100) ∧ (lsI c = 0 ↔ c = 0) ∧ (lsI c = -3 ↔ c = 102) ∧ (lsI c ≤ 0 ↔ ¬ (1 ≤ c ∧ c ≤ 8)) ∧ (if lsI c < 0 then 0 else lsI c) = nI (fgr c) := by decide +kernel
theorem PV.c3 {n i : Nat} {P : Prs} (hn : n ≤ 8) (h : PV n i P) : P.1 < 103 ∧ (P.1 ≤ 8 ∨ 100 ≤ P.1) ∧ (P.1 ≤ n ∨ 100 ≤ P.1) := by
  have := h.2.1
  omega
def NP (mt : Bool) (n : Nat) (iF aI : Nat → Nat → Int32) (P : Prs) : Prop := iF 12 0 = nI n ∧ iF 12 1 = b01 mt ∧ iF 12 2 = lsI P.1 ∧ iF 12 4 = nI P.2.1.length ∧ iF 12 5 = oI P.2.2 ∧ ∀ j, j < P.2.1.length → aI 13 j = nI (P.2.1.getD j 0)
/-- a reading touches its own cells only -/
def NF (iF aI iF' aI' : Nat → Nat → Int32) : Prop := (∀ k, k ≠ 12 → iF' k = iF k) ∧ ∀ k, k ≠ 13 → aI' k = aI k
theorem NF.refl (iF aI : Nat → Nat → Int32) : NF iF aI iF aI := ⟨fun _ _ => rfl, fun _ _ => rfl⟩
theorem NF.trans {iF aI iF1 aI1 iF2 aI2 : Nat → Nat → Int32} (h : NF iF aI iF1 aI1) (h2 : NF iF1 aI1 iF2 aI2) : NF iF aI iF2 aI2 := ⟨fun k q => (h2.1 k q).trans (h.1 k q), fun k q => (h2.2 k q).trans (h.2 k q)⟩
theorem NF.fld {iF aI iF1 aI1 : Nat → Nat → Int32} (h : NF iF aI iF1 aI1) (f : Nat → Int32) : NF iF aI (up1 iF1 12 f) aI1 := ⟨fun k q => by rw [up1_n _ _ q]; exact h.1 k q, h.2⟩
theorem NF.arr {iF aI iF1 aI1 : Nat → Nat → Int32} (h : NF iF aI iF1 aI1) (f : Nat → Int32) : NF iF aI iF1 (up1 aI1 13 f) := ⟨h.1, fun k q => by rw [up1_n _ _ q]; exact h.2 k q⟩
def qX3_changeCanEnd : Spc := fun As g Q => ∃ z iF aI aL n c, g = Cg z iF aI aL ∧ As = [.ref 12] ∧ n ≤ 8 ∧ iF 12 0 = nI n ∧ iF 12 2 = lsI c ∧ c < 103 ∧ (c ≤ 8 ∨ 100 ≤ c) ∧ (c ≤ n ∨ 100 ≤ c) ∧ Q (some (.int (b01 (cEnd n c)))) g
theorem rX3_changeCanEnd : Ok 0 yX3_changeCanEnd cX3_changeCanEnd 1 (some .boolean) qX3_changeCanEnd := by
  refine ok_weak (fun As g Q h => ?_) oX3_changeCanEnd
  obtain ⟨z, iF, aI, aL, n, c, rfl, rfl, hn, h0, h2, hc1, hc2, hc3, hQ⟩ := h
  obtain ⟨l1, l2, l3, l4, l5⟩ := lsI_all c hc1 hc2
  have no : cEnd n c = false → ((0 : Int32) = 0 ∨ (0 : Int32) = 1) ∧ Q (some (.int 0)) (Cg z iF aI aL) := by
    intro e; rw [e] at hQ; exact ⟨Or.inl rfl, hQ⟩
  have yes : cEnd n c = true → ((1 : Int32) = 0 ∨ (1 : Int32) = 1) ∧ Q (some (.int 1)) (Cg z iF aI aL) := by
    intro e; rw [e] at hQ; exact ⟨Or.inr rfl, hQ⟩
  refine br_c (fun h => ?_) (fun h => ?_)
  · have h : iF 12 2 = -1 := h
    rw [h2, l1] at h
    exact yes (by rw [h]; rfl)
  · have h : ¬ iF 12 2 = -1 := h
    rw [h2, l1] at h
    refine br_c (fun h3 => ?_) (fun h3 => ?_)
    · have h3 : iF 12 2 ≤ 0 := h3
      rw [h2, l4] at h3
      refine no ?_
      unfold cEnd
      simp [h]
      omega
    · have h3 : ¬ iF 12 2 ≤ 0 := h3
      rw [h2, l4] at h3
      have h3 : 1 ≤ c ∧ c ≤ 8 := Classical.byContradiction h3
      have ec : lsI c = nI c := if_pos h3.2
      have e : iF 12 0 - iF 12 2 - (iF 12 0 - iF 12 2) / 2 * 2 = nI ((n - c) % 2) := by
        rw [h0, h2, ec, nx_sub (by omega), show (2 : Int32) = nI 2 from rfl, pk_rem (by omega) (by omega) (by omega)]
      refine And.intro (by decide) (pk_ne ((n - c) % 2) 0 (fun h4 => ?_) (fun h4 => ?_) e)
      · refine no ?_
        unfold cEnd
        simp [h]
        omega
      · refine yes ?_
        unfold cEnd
        simp [h]
        omega
def qX3_addSet : Spc := fun As g Q => ∃ z iF aI aL k, g = Cg z iF aI aL ∧ As = [.ref 12] ∧ iF 12 4 = nI k ∧ k < 40 ∧ Q (some (.int 1)) (Cg z (up1 iF 12 (up1 (iF 12) 4 (nI (k + 1)))) (up1 aI 13 (up1 (aI 13) k 0)) aL)
theorem rX3_addSet : Ok 0 yX3_addSet cX3_addSet 1 (some .boolean) qX3_addSet := by
  refine ok_weak (fun As g Q h => ?_) oX3_addSet
  obtain ⟨z, iF, aI, aL, k, rfl, rfl, h4, hk, hQ⟩ := h
  refine pk_lt k 40 (fun _ => ?_) (fun h => absurd h (by omega)) h4
  refine And.intro (pk_in k 40 hk h4) (And.intro (Or.inr rfl) ?_)
  show Q (some (.int 1)) (Cg z (up1 iF 12 (up1 (iF 12) 4 (iF 12 4 + 1))) (up1 aI 13 (up1 (aI 13) (iF 12 4).toNatClampNeg 0)) aL)
  rw [h4, nI_1, cl1 (by omega)]
  exact hQ
def qX4_kindOf : Spc := fun As g Q => ∃ s, s < 1000 ∧ As = [.int (nI s)] ∧ Q (some (.int (oI (kd s)))) g
theorem rX4_kindOf : Ok 0 yX4_kindOf cX4_kindOf 1 (some .int) qX4_kindOf := by
  refine ok_weak (fun As g Q h => ?_) oX4_kindOf
  obtain ⟨s, hs, rfl, hQ⟩ := h
  unfold kd at hQ
  refine pk_eq s 98 (fun h => ?_) (fun h => pk_eq s 112 (fun h2 => ?_) (fun h2 => pk_eq s 115 (fun h3 => ?_) (fun h3 => ?_)))
  · rw [if_neg (by omega), if_pos h] at hQ; exact hQ
  · rw [if_pos h2] at hQ; exact hQ
  · rw [if_neg h2, if_neg h, if_pos h3] at hQ; exact hQ
  · rw [if_neg h2, if_neg h, if_neg h3] at hQ; exact hQ
def qX3_takeCross : Spc := fun As g Q => ∃ z iF aI aL mt n i P, g = Cg z iF aI aL ∧ As = [.ref 12] ∧ n ≤ 8 ∧ NP mt n iF aI P ∧ PV n i P ∧ i < 40 ∧ ∀ iF' aI', NF iF aI iF' aI' → (∀ P', stpX mt n P = some P' → NP mt n iF' aI' P') → Q (some (.int (b01 (stpX mt n P).isSome))) (Cg z iF' aI' aL)
def qX3_takePoint : Spc := fun As g Q => ∃ z iF aI aL mt n i P, g = Cg z iF aI aL ∧ As = [.ref 12] ∧ n ≤ 8 ∧ NP mt n iF aI P ∧ PV n i P ∧ i < 40 ∧ ∀ iF' aI', NF iF aI iF' aI' → (∀ P', stpP mt n P = some P' → NP mt n iF' aI' P') → Q (some (.int (b01 (stpP mt n P).isSome))) (Cg z iF' aI' aL)
def qX3_takeComma : Spc := fun As g Q => ∃ z iF aI aL mt n i P, g = Cg z iF aI aL ∧ As = [.ref 12] ∧ n ≤ 8 ∧ NP mt n iF aI P ∧ PV n i P ∧ i < 40 ∧ ∀ iF' aI', NF iF aI iF' aI' → (∀ P', stpC mt n P = some P' → NP mt n iF' aI' P') → Q (some (.int (b01 (stpC mt n P).isSome))) (Cg z iF' aI' aL)
def qX3_takeFigure : Spc := fun As g Q => ∃ z iF aI aL mt n i P s, g = Cg z iF aI aL ∧ As = [.ref 12, .int (nI s - 48)] ∧ s < 1000 ∧ n ≤ 8 ∧ NP mt n iF aI P ∧ PV n i P ∧ i < 40 ∧ ∀ iF' aI', NF iF aI iF' aI' → (∀ P', stpF mt n P s = some P' → NP mt n iF' aI' P') → Q (some (.int (b01 (stpF mt n P s).isSome))) (Cg z iF' aI' aL)
def qX3_take : Spc := fun As g Q => ∃ z iF aI aL mt n i P s, g = Cg z iF aI aL ∧ As = [.ref 12, .int (nI s)] ∧ s < 1000 ∧ n ≤ 8 ∧ NP mt n iF aI P ∧ PV n i P ∧ i < 40 ∧ ∀ iF' aI', NF iF aI iF' aI' → (∀ P', stp1 mt n P s = some P' → NP mt n iF' aI' P') → Q (some (.int (b01 (stp1 mt n P s).isSome))) (Cg z iF' aI' aL)

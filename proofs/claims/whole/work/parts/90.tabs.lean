/-! how often a lead is rung until rounds come; rows that come twice -/
def pX1_untilRounds : Spc := fun As g Q => ∃ z iF aI aL S l, g = Cg z iF aI aL ∧ As = [.ref 14, .int (nI l)] ∧ VS S ∧ LD iF aI S ∧ (sC S).length ≠ 0 ∧ l ≤ 2 ∧ Q (some (.int (nI (ord S l)))) g
theorem oX1_untilRounds : Ok 2 yX1_untilRounds cX1_untilRounds 5 (some .int) pX1_untilRounds := by
  refine ok_all fun As g Q h => ?_
  obtain ⟨z, iF, aI, aL, S, l, rfl, rfl, hS, hD, h0, hl, hQ⟩ := h
  have hn := hS.1.2
  have hn4 := hS.1.1
  have hf := fct_le _ hn
  obtain ⟨o1, o2, o3, o4⟩ := ord_spec hS l
  refine at_of (fun pc => pc == 16) 80 (fun k pc ls st g' => ∃ j, pc = 16 ∧ ls = [.ref 14, .int (nI l), .int (nI (lpw S l j)), .int (nI (fct (sN S))), .int (nI (j + 1))] ∧ st = [] ∧ g' = Cg z iF aI aL ∧ k = 50000 - j ∧ j < ord S l) (by decide) rfl sX1_untilRounds (nl (n := 2) rfl rfl rfl) ?_ ?_
  · refine ⟨sN S, (by omega), hn, (by show [Value.int (iF 14 0)] = _; rw [hD.1]), ?_⟩
    refine ⟨50000, 0, rfl, ?_, rfl, rfl, rfl, o1⟩
    show [Value.ref 14, _, .int (iF 14 1), _, _] = _
    rw [hD.2.1]
    rfl
  · rintro k pc ls st g' ⟨j, rfl, rfl, rfl, rfl, rfl, hj⟩
    refine pk_lt (fct (sN S)) (j + 1) (fun h => absurd h (by omega)) (fun h => ?_)
    refine ⟨z, iF, aI, aL, S, l, lpw S l j, rfl, rfl, hS, hD, h0, hl, lpw_Pm hS l j, ?_⟩
    have l1 := (lpw_Pm hS l (j + 1)).lt24 hn
    have l2 := (Pm_rds hn).lt24 hn
    refine pk_ne (lpw S l (j + 1)) (rds (sN S)) (fun h2 => ?_) (fun h2 => ?_) rfl hD.2.1
    · refine ⟨50000 - (j + 1), (by omega), j + 1, rfl, ?_, rfl, rfl, rfl, ?_⟩
      · show [Value.ref 14, .int (nI l), .int (nI (led S l (lpw S l j))), .int (nI (fct (sN S))), .int (nI (j + 1) + 1)] = _
        rw [nI_1]; rfl
      · rcases Nat.lt_or_ge (j + 1) (ord S l) with q | q
        · exact q
        · rw [show ord S l = j + 1 by omega] at o3; exact absurd o3 h2
    · have e : ord S l = j + 1 := by
        rcases Nat.lt_or_ge (j + 1) (ord S l) with q | q
        · exact absurd h2 (o4 (j + 1) (by omega) q)
        · omega
      rw [e] at hQ
      exact hQ
/-- what a use of a table leaves as it was -/
def TF (t : Nat) (z : Zt) (iF aI : Nat → Nat → Int32) (aL : Nat → Nat → Int64) (z' : Zt) (iF' aI' : Nat → Nat → Int32) (aL' : Nat → Nat → Int64) : Prop := z'.1 = z.1 ∧ (∀ k, k ≠ t + 1 → z'.2 k = z.2 k) ∧ Lok z'.2 ∧ (∀ k, k ≠ t → iF' k = iF k) ∧ ∀ k, k ≠ t + 1 → k ≠ 48 → aI' k = aI k ∧ aL' k = aL k
theorem TF.al {t : Nat} {z z' : Zt} {iF aI iF' aI' : Nat → Nat → Int32} {aL aL' aL'' : Nat → Nat → Int64} (h : TF t z iF aI aL z' iF' aI' aL') (h2 : ∀ k, k ≠ t + 1 → aL'' k = aL' k) : TF t z iF aI aL z' iF' aI' aL'' := ⟨h.1, h.2.1, h.2.2.1, h.2.2.2.1, fun k h3 h4 => ⟨(h.2.2.2.2 k h3 h4).1, (h2 k h3).trans (h.2.2.2.2 k h3 h4).2⟩⟩
def rwM (S : Stg) (j : Nat) (M : Asc) : Prop := M.length ≤ j ∧ ∀ x, x ∈ ksA M ↔ ∃ q, 1 ≤ q ∧ q ≤ j ∧ x = trw S q
theorem rwM.nil (S : Stg) : rwM S 0 [] := ⟨Nat.le_refl 0, fun x => ⟨fun h => absurd h List.not_mem_nil, fun ⟨q, h1, h2, _⟩ => by omega⟩⟩
theorem rwM.isF {S : Stg} {j : Nat} {M : Asc} (h : rwM S j M) : trw S (j + 1) ∈ ksA M ↔ isF (trw S) (j + 1) = true := by
  rw [h.2, isF_iff]
  constructor
  · rintro ⟨q, h1, h2, h3⟩; exact ⟨q, h1, by omega, h3.symm⟩
  · rintro ⟨q, h1, h2, h3⟩; exact ⟨q, h1, by omega, h3.symm⟩
theorem rwM.old {S : Stg} {j : Nat} {M : Asc} (h : rwM S j M) (h1 : trw S (j + 1) ∈ ksA M) : rwM S (j + 1) M := by
  refine ⟨by have := h.1; omega, fun x => ?_⟩
  rw [h.2]
  constructor
  · rintro ⟨q, a, b, c⟩; exact ⟨q, a, by omega, c⟩
  · rintro ⟨q, a, b, c⟩
    by_cases e : q = j + 1
    · subst e; rw [c]; exact (h.2 _).mp h1
    · exact ⟨q, a, by omega, c⟩
theorem rwM.new {S : Stg} {j : Nat} {M : Asc} (h : rwM S j M) : rwM S (j + 1) (M ++ [(trw S (j + 1), 0)]) := by
  refine ⟨by have := h.1; rw [List.length_append]; exact Nat.succ_le_succ this, fun x => ?_⟩
  unfold ksA
  rw [List.map_append, List.mem_append]
  constructor
  · rintro (q | q)
    · obtain ⟨q, a, b, c⟩ := (h.2 x).mp q
      exact ⟨q, a, by omega, c⟩
    · exact ⟨j + 1, by omega, Nat.le_refl _, by simpa using q⟩
  · rintro ⟨q, a, b, c⟩
    by_cases e : q = j + 1
    · subst e; right; simp [c]
    · left; exact (h.2 x).mpr ⟨q, a, by omega, c⟩
def tabq (ans : Stg → Int32) : Spc := fun As g Q => ∃ z iF aI aL S c fl, g = Cg z iF aI aL ∧ As = [.ref 16] ∧ VS S ∧ RG iF aI S ∧ Lok z.2 ∧ RT0 18 c fl z iF aL ∧ fl + 1 < 2 ^ 30 ∧ ∀ z' iF' aI' aL' c', TF 18 z iF aI aL z' iF' aI' aL' → RT0 18 c' (fl + 1) z' iF' aL' → Q (some (.int (ans S))) (Cg z' iF' aI' aL')
def pX5_falseRows : Spc := tabq (fun S => nI (sm (fun i => if isF (trw S) i = true then 1 else 0) (tln S + 1)))
theorem oX5_falseRows : Ok 2 yX5_falseRows cX5_falseRows 3 (some .int) pX5_falseRows := by
  refine ok_all fun As g Q h => ?_
  obtain ⟨z, iF, aI, aL, S, c, fl, rfl, rfl, hS, hR, hL, hT0, hfl, hQ⟩ := h
  have hn := hS.1.2
  have hT := tln_le hS
  refine at_of (fun pc => pc == 15) 80 (fun k pc ls st g' => ∃ j z' iF' aI' aL' c' b M, pc = 15 ∧ ls = [.ref 16, .int (nI (sm (fun i => if isF (trw S) i = true then 1 else 0) (j + 1))), .int (nI (j + 1))] ∧ st = [] ∧ g' = Cg z' iF' aI' aL' ∧ k = 2000 - j ∧ j ≤ tln S ∧ TF 18 z iF aI aL z' iF' aI' aL' ∧ RT 18 c' b (fl + 1) M z' iF' aL' ∧ tln S < 2 ^ b ∧ rwM S j M) (by decide) rfl sX5_falseRows (nl (n := 1) rfl rfl rfl) ?_ ?_
  · refine ⟨z, iF, aI, aL, 18, c, fl, tln S, rfl, Or.inl rfl, (by show [Value.ref 18, .int (iF 16 1)] = _; rw [hR.1]), (by show _ ≤ 4096; omega), hL, hT0, hfl, fun z' iF' aI' aL' c' b y1 y2 y3 y4 y5 y6 y7 => ?_⟩
    exact ⟨2000, 0, z', iF', aI', aL', c', b, [], rfl, rfl, rfl, rfl, rfl, Nat.zero_le _, ⟨y1, y2, y3, y4, y5⟩, y6, y7, rwM.nil S⟩
  · rintro k pc ls st g' ⟨j, z', iF', aI', aL', c', b, M, rfl, rfl, rfl, rfl, rfl, hj, hF, hM, hb, hw⟩
    have hR' : RG iF' aI' S := hR.of (hF.2.2.2.1 16 (by omega)) (hF.2.2.2.2 17 (by omega) (by omega)).1
    refine pk_lt (tln S) (j + 1) (fun h => ?_) (fun h => ?_) hR'.1
    · have := hQ z' iF' aI' aL' c' hF hM.RT0
      simp only [] at this
      rw [show tln S + 1 = j + 1 by omega] at this
      exact this
    · have es : sm (fun i => if isF (trw S) i = true then 1 else 0) (j + 1 + 1) = sm (fun i => if isF (trw S) i = true then 1 else 0) (j + 1) + (if isF (trw S) (j + 1) = true then 1 else 0) := rfl
      have hwl := hw.1
      refine And.intro (vp_in_nI (by omega) (by omega)) ⟨z', iF', aI', aL', 18, c', b, fl + 1, M, trw S (j + 1), 0, rfl, Or.inl rfl, (by show [Value.ref 18, .int (aI' 17 (nI (j + 1)).toNatClampNeg), .int 0] = _; rw [cl1 (by omega), hR'.2.2 _ h]; rfl), (trw_Pm hS _).lt24 hn, (by omega), hM, (by omega), fun hx => br_nf rfl ?_, fun hx aL2 a1 a2 => br_nt n10 ?_⟩
      · refine ⟨2000 - (j + 1), (by omega), j + 1, z', iF', aI', aL', c', b, M, rfl, ?_, rfl, rfl, rfl, h, hF, hM, hb, hw.old hx⟩
        show [Value.ref 16, .int (nI (sm (fun i => if isF (trw S) i = true then 1 else 0) (j + 1)) + 1), .int (nI (j + 1) + 1)] = _
        rw [es, if_pos (hw.isF.mp hx), nI_1, nI_1]
      · refine ⟨2000 - (j + 1), (by omega), j + 1, z', iF', aI', aL2, c', b, _, rfl, ?_, rfl, rfl, rfl, h, hF.al a1, a2, hb, hw.new⟩
        show [Value.ref 16, .int (nI (sm (fun i => if isF (trw S) i = true then 1 else 0) (j + 1))), .int (nI (j + 1) + 1)] = _
        rw [es, if_neg (fun q => hx (hw.isF.mpr q)), nI_1]
        rfl
def pX5_firstFalse : Spc := tabq (fun S => fstI (isF (trw S)) 1 (tln S))
theorem oX5_firstFalse : Ok 2 yX5_firstFalse cX5_firstFalse 2 (some .int) pX5_firstFalse := by
  refine ok_all fun As g Q h => ?_
  obtain ⟨z, iF, aI, aL, S, c, fl, rfl, rfl, hS, hR, hL, hT0, hfl, hQ⟩ := h
  have hn := hS.1.2
  have hT := tln_le hS
  refine at_of (fun pc => pc == 13) 80 (fun k pc ls st g' => ∃ j z' iF' aI' aL' c' b M, pc = 13 ∧ ls = [.ref 16, .int (nI (j + 1))] ∧ st = [] ∧ g' = Cg z' iF' aI' aL' ∧ k = 2000 - j ∧ j ≤ tln S ∧ TF 18 z iF aI aL z' iF' aI' aL' ∧ RT 18 c' b (fl + 1) M z' iF' aL' ∧ tln S < 2 ^ b ∧ rwM S j M ∧ fstI (isF (trw S)) 1 (tln S) = fstI (isF (trw S)) (j + 1) (tln S - j)) (by decide) rfl sX5_firstFalse (nl (n := 1) rfl rfl rfl) ?_ ?_
  · refine ⟨z, iF, aI, aL, 18, c, fl, tln S, rfl, Or.inl rfl, (by show [Value.ref 18, .int (iF 16 1)] = _; rw [hR.1]), (by show _ ≤ 4096; omega), hL, hT0, hfl, fun z' iF' aI' aL' c' b y1 y2 y3 y4 y5 y6 y7 => ?_⟩
    exact ⟨2000, 0, z', iF', aI', aL', c', b, [], rfl, rfl, rfl, rfl, rfl, Nat.zero_le _, ⟨y1, y2, y3, y4, y5⟩, y6, y7, rwM.nil S, rfl⟩
  · rintro k pc ls st g' ⟨j, z', iF', aI', aL', c', b, M, rfl, rfl, rfl, rfl, rfl, hj, hF, hM, hb, hw, he⟩
    have hR' : RG iF' aI' S := hR.of (hF.2.2.2.1 16 (by omega)) (hF.2.2.2.2 17 (by omega) (by omega)).1
    refine pk_lt (tln S) (j + 1) (fun h => ?_) (fun h => ?_) hR'.1
    · have := hQ z' iF' aI' aL' c' hF hM.RT0
      simp only [] at this
      rw [he, show tln S - j = 0 by omega] at this
      exact this
    · rw [show tln S - j = (tln S - (j + 1)) + 1 by omega] at he
      have he : fstI (isF (trw S)) 1 (tln S) = if isF (trw S) (j + 1) = true then nI (j + 1) else fstI (isF (trw S)) (j + 1 + 1) (tln S - (j + 1)) := he
      have hwl := hw.1
      refine And.intro (vp_in_nI (by omega) (by omega)) ⟨z', iF', aI', aL', 18, c', b, fl + 1, M, trw S (j + 1), 0, rfl, Or.inl rfl, (by show [Value.ref 18, .int (aI' 17 (nI (j + 1)).toNatClampNeg), .int 0] = _; rw [cl1 (by omega), hR'.2.2 _ h]; rfl), (trw_Pm hS _).lt24 hn, (by omega), hM, (by omega), fun hx => br_nf rfl ?_, fun hx aL2 a1 a2 => br_nt n10 ?_⟩
      · have := hQ z' iF' aI' aL' c' hF hM.RT0
        simp only [] at this
        rw [he, if_pos (hw.isF.mp hx)] at this
        exact this
      · rw [if_neg (fun q => hx (hw.isF.mpr q))] at he
        exact ⟨2000 - (j + 1), (by omega), j + 1, z', iF', aI', aL2, c', b, _, rfl, (by show [Value.ref 16, .int (nI (j + 1) + 1)] = _; rw [nI_1]), rfl, rfl, rfl, h, hF.al a1, a2, hb, hw.new, he⟩

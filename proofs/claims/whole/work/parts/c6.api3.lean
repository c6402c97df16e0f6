/-! the class's calls, second half -/
theorem CIv.tf18 {W : WS} {K c' fl' : Nat} {z z' : Zt} {iF aI iF' aI' : Nat → Nat → Int32} {aL aL' : Nat → Nat → Int64} (h : CIv W K z iF aI aL) (hf : TF 18 z iF aI aL z' iF' aI' aL') (ht : RT0 18 c' fl' z' iF' aL') (hfl : fl' ≤ K + 1000) : CIv W (K + 1000) z' iF' aI' aL' := by
  obtain ⟨a, b, ⟨fl, c1, c2⟩, d, e⟩ := h
  exact ⟨a.of (fun k q _ => hf.2.2.2.1 k (by omega)) (fun k q _ => (hf.2.2.2.2 k (by omega) (by omega)).1), b.of (hf.2.2.2.1 20 (by omega)) (hf.2.2.2.2 22 (by omega) (by omega)).1, ⟨fl, by omega, c2.of hf.2.2.1 (hf.2.1 25 (by omega)) (hf.2.1 26 (by omega)) (hf.2.2.2.1 23 (by omega)) (hf.2.2.2.1 24 (by omega)) (hf.2.2.2.2 27 (by omega) (by omega)).1 (hf.2.2.2.2 25 (by omega) (by omega)).2⟩, ⟨c', fl', hfl, ht⟩, e.of (by omega) (hf.2.1 31 (by omega)) (hf.2.2.2.1 30 (by omega)) (hf.2.2.2.2 31 (by omega) (by omega)).2⟩
theorem TF.FC {t : Nat} {z z' : Zt} {iF aI iF' aI' : Nat → Nat → Int32} {aL aL' : Nat → Nat → Int64} (h : TF t z iF aI aL z' iF' aI' aL') (ht : t < 31) : FC iF aI iF' aI' := ⟨fun k q => h.2.2.2.1 k (by omega), fun k q r => (h.2.2.2.2 k (by omega) r).1⟩
theorem CIv.a29 {W : WS} {K : Nat} {z : Zt} {iF aI : Nat → Nat → Int32} {aL : Nat → Nat → Int64} (h : CIv W K z iF aI aL) (x : Nat → Int32) : CIv W K z iF (up1 aI 29 x) aL := by
  obtain ⟨a, b, ⟨fl, c1, c2⟩, d, e⟩ := h
  exact ⟨a.of (fun k q _ => rfl) (fun k q _ => up1_n _ _ (by omega)), b.of rfl rfl, ⟨fl, c1, c2.of c2.1 rfl rfl rfl rfl rfl rfl⟩, d, e⟩
theorem CIv.tf30 {W : WS} {K c' fl' : Nat} {z z' : Zt} {iF aI iF' aI' : Nat → Nat → Int32} {aL aL' : Nat → Nat → Int64} (h : CIv W K z iF aI aL) (hf : TF 30 z iF aI aL z' iF' aI' aL') (ht : RT0 30 c' fl' z' iF' aL') (hfl : fl' ≤ K + 1000) : CIv W (K + 1000) z' iF' aI' aL' := by
  obtain ⟨a, b, ⟨fl, c1, c2⟩, d, e⟩ := h
  exact ⟨a.of (fun k q _ => hf.2.2.2.1 k (by omega)) (fun k q _ => (hf.2.2.2.2 k (by omega) (by omega)).1), b.of (hf.2.2.2.1 20 (by omega)) (hf.2.2.2.2 22 (by omega) (by omega)).1, ⟨fl, by omega, c2.of hf.2.2.1 (hf.2.1 25 (by omega)) (hf.2.1 26 (by omega)) (hf.2.2.2.1 23 (by omega)) (hf.2.2.2.1 24 (by omega)) (hf.2.2.2.2 27 (by omega) (by omega)).1 (hf.2.2.2.2 25 (by omega) (by omega)).2⟩, d.of (by omega) (hf.2.1 19 (by omega)) (hf.2.2.2.1 18 (by omega)) (hf.2.2.2.2 19 (by omega) (by omega)).2, ⟨c', fl', hfl, ht⟩⟩
theorem CIv.sf {W : WS} {K fl' : Nat} {z z' : Zt} {iF aI iF' aI' : Nat → Nat → Int32} {aL aL' : Nat → Nat → Int64} (h : CIv W K z iF aI aL) (hf : SF 27 z iF aI aL z' iF' aI' aL') (hs : SS (wS W) fl' z' iF' aI' aL') (hfl : fl' ≤ K + 1000) : CIv W (K + 1000) z' iF' aI' aL' := by
  obtain ⟨a, b, -, d, e⟩ := h
  exact ⟨a.of (fun k q _ => hf.2.2.1 k (by omega) (by omega)) (fun k q _ => (hf.2.2.2 k (by omega) (by omega) (by omega) (by omega)).1), b.of (hf.2.2.1 20 (by omega) (by omega)) (hf.2.2.2 22 (by omega) (by omega) (by omega) (by omega)).1, ⟨fl', hfl, hs⟩, d.of (by omega) (hf.2.1 19 (by omega) (by omega)) (hf.2.2.1 18 (by omega) (by omega)) (hf.2.2.2 19 (by omega) (by omega) (by omega) (by omega)).2, e.of (by omega) (hf.2.1 31 (by omega) (by omega)) (hf.2.2.1 30 (by omega) (by omega)) (hf.2.2.2 31 (by omega) (by omega) (by omega) (by omega)).2⟩
theorem SF.FC {z z' : Zt} {iF aI iF' aI' : Nat → Nat → Int32} {aL aL' : Nat → Nat → Int64} (h : SF 27 z iF aI aL z' iF' aI' aL') : FC iF aI iF' aI' := ⟨fun k q => h.2.2.1 k (by omega) (by omega), fun k q r => (h.2.2.2 k (by omega) (by omega) (by omega) r).1⟩
def zX10_row : Spc := fun As g Q => ∃ v, amc [v] (aRow v) As g Q
theorem tX10_row : Ok 2 yX10_row cX10_row 2 (some .int) zX10_row := by
  refine ok_all fun As g Q h => ?_
  obtain ⟨v, z, iF, aI, aL, W, K, rfl, rfl, hW, hI, hK, hQ⟩ := h
  refine at0 80 (by decide) rfl sX10_row (nl (n := 2) rfl rfl rfl) ?_
  have hB := hI.1
  obtain ⟨r1, r2, r3⟩ := hB.2.2.2.2.2.2.2
  have hT := tln_le hW.1
  have hQ := hQ z iF aI aL rfl (FC.refl _ _) (hI.K (by omega))
  unfold aRow at hQ
  refine ⟨z, iF, aI, aL, wS W, rfl, rfl, hW.1, hB.1, fun h => br_nf rfl ?_, fun h => br_nt n10 ?_⟩
  · rw [if_pos h] at hQ; exact hQ
  · rw [if_neg (by rw [h]; decide)] at hQ
    refine ⟨z, iF, aI, aL, tln (wS W), v, rfl, rfl, r1, fun q => br_t rfl ?_, fun q => br_f n10 ?_⟩
    · rw [if_pos q] at hQ; exact hQ
    · rw [if_neg q] at hQ
      obtain ⟨c1, c2⟩ := clamp_ge (v := v) (a := 0) (by omega) (fun y => q (Or.inl y))
      have c3 := clamp_lt (v := v) (b := tln (wS W)) (by omega) (fun y => q (Or.inr y))
      refine ⟨z, iF, aI, aL, tln (wS W), v.toNatClampNeg, rfl, (by rw [← c2]), r1, hT, c3, ?_⟩
      exact ⟨trw (wS W) v.toNatClampNeg, sN (wS W), (trw_Pm hW.1 _).lt24 hW.1.1.2, hW.1.1.2, (by show [Value.int (aI 17 v.toNatClampNeg), .int (iF 1 0)] = _; rw [r3 _ c3, hB.1.1]), hQ⟩
def zX10_told : Spc := fun As g Q => ∃ v, amc [v] (aTold v) As g Q
theorem tX10_told : Ok 3 yX10_told cX10_told 2 (some .int) zX10_told := by
  refine ok_all fun As g Q h => ?_
  obtain ⟨w, z, iF, aI, aL, W, K, rfl, rfl, hW, hI, hK, hQ⟩ := h
  refine at0 80 (by decide) rfl sX10_told (nl (n := 2) rfl rfl rfl) ?_
  have hB := hI.1
  have hR := hB.2.2.2.2.2.2.2
  have hS := hW.1
  have hQ0 := hQ z iF aI aL rfl (FC.refl _ _) (hI.K (by omega))
  unfold aTold at hQ hQ0
  have no : w < 0 ∨ 6 < w → Q (some (.int (-2))) (Cg z iF aI aL) := fun h => by
    simp only [] at hQ0
    rw [if_pos h] at hQ0
    exact hQ0
  refine br_c (fun h => no (Or.inl h)) (fun h => br_c (fun h2 => ?_) (fun h2 => no (Or.inr (nle h2))))
  have hin : ¬ (w < 0 ∨ 6 < w) := fun q => q.elim h (nle' h2)
  refine ⟨z, iF, aI, aL, wS W, rfl, rfl, hW.1, hB.1, fun hr => br_nf rfl ?_, fun hr => br_nt n10 ?_⟩
  · rw [if_neg hin, if_pos hr] at hQ0; exact hQ0
  · rw [if_neg hin, if_neg (by rw [hr]; decide)] at hQ0
    have hr' : ¬ rdy (wS W) = false := by rw [hr]; decide
    obtain ⟨c18, fl18, f1, f2⟩ := hI.2.2.2.1
    have hLk : Lok z.2 := by obtain ⟨fl, -, q⟩ := hI.2.2.1; exact q.1
    have tab : ∀ z' iF' aI' aL' c', TF 18 z iF aI aL z' iF' aI' aL' → RT0 18 c' (fl18 + 1) z' iF' aL' → Q (some (.int (tol (wS W) w))) (Cg z' iF' aI' aL') := fun z' iF' aI' aL' c' y1 y2 => by
      have := hQ z' iF' aI' aL' y1.1 (y1.FC (by omega)) (hI.tf18 y1 y2 (by omega))
      rw [if_neg hin, if_neg hr'] at this
      exact this
    unfold tol at hQ0 tab
    refine br_c (fun q0 => ?_) (fun q0 => br_c (fun q1 => ?_) (fun q1 => br_c (fun q2 => ?_) (fun q2 => br_c (fun q3 => ?_) (fun q3 => br_c (fun q4 => ?_) (fun q4 => br_c (fun q5 => ?_) (fun q5 => ?_))))))
    · rw [if_pos (show w = 0 from q0), ← hR.1] at hQ0; exact hQ0
    · refine ⟨z, iF, aI, aL, wS W, c18, fl18, rfl, rfl, hS, hR, hLk, f2, (by omega), fun z' iF' aI' aL' c' y1 y2 => ?_⟩
      have := tab z' iF' aI' aL' c' y1 y2
      rw [if_neg (show ¬ w = 0 from q0), if_pos (show w = 1 from q1)] at this
      refine And.intro (fun q => ?_) (fun q => ?_)
      · rw [if_neg (show ¬ fstI (isF (trw (wS W))) 1 (tln (wS W)) = -6 from q)] at this; exact this
      · rw [if_pos (show fstI (isF (trw (wS W))) 1 (tln (wS W)) = -6 from q)] at this; exact this
    · refine ⟨z, iF, aI, aL, wS W, c18, fl18, rfl, rfl, hS, hR, hLk, f2, (by omega), fun z' iF' aI' aL' c' y1 y2 => ?_⟩
      have := tab z' iF' aI' aL' c' y1 y2
      rw [if_neg (show ¬ w = 0 from q0), if_neg (show ¬ w = 1 from q1), if_pos (show w = 2 from q2)] at this
      exact this
    · refine ⟨z, iF, aI, aL, wS W, c18, fl18, rfl, rfl, hS, hR, hLk, f2, (by omega), fun z' iF' aI' aL' c' y1 y2 => ?_⟩
      have := tab z' iF' aI' aL' c' y1 y2
      rw [if_neg (show ¬ w = 0 from q0), if_neg (show ¬ w = 1 from q1), if_neg (show ¬ w = 2 from q2), if_pos (show w = 3 from q3)] at this
      exact this
    · rw [if_neg (show ¬ w = 0 from q0), if_neg (show ¬ w = 1 from q1), if_neg (show ¬ w = 2 from q2), if_neg (show ¬ w = 3 from q3), if_pos (show w = 4 from q4)] at hQ0
      exact ⟨z, iF, aI, aL, wS W, rfl, rfl, hS, hR, hQ0⟩
    · rw [if_neg (show ¬ w = 0 from q0), if_neg (show ¬ w = 1 from q1), if_neg (show ¬ w = 2 from q2), if_neg (show ¬ w = 3 from q3), if_neg (show ¬ w = 4 from q4), if_pos (show w = 5 from q5)] at hQ0
      exact ⟨z, iF, aI, aL, wS W, rfl, rfl, hS, hR, hQ0⟩
    · rw [if_neg (show ¬ w = 0 from q0), if_neg (show ¬ w = 1 from q1), if_neg (show ¬ w = 2 from q2), if_neg (show ¬ w = 3 from q3), if_neg (show ¬ w = 4 from q4), if_neg (show ¬ w = 5 from q5), ← hB.1.2.2.2.2.1] at hQ0
      exact hQ0
def zX10_bell : Spc := fun As g Q => ∃ b i w, amc [b, i, w] (aBell b i w) As g Q
theorem tX10_bell : Ok 3 yX10_bell cX10_bell 4 (some .int) zX10_bell := by
  refine ok_all fun As g Q h => ?_
  obtain ⟨b, i, w, z, iF, aI, aL, W, K, rfl, rfl, hW, hI, hK, hQ⟩ := h
  refine at0 100 (by decide) rfl sX10_bell (nl (n := 4) rfl rfl rfl) ?_
  have hB := hI.1
  have hR := hB.2.2.2.2.2.2.2
  obtain ⟨r1, r2, r3⟩ := hR
  have hS := hW.1
  have hn := hS.1.2
  have hT := tln_le hS
  have hQ := hQ z iF aI aL rfl (FC.refl _ _) (hI.K (by omega))
  unfold aBell at hQ
  simp only [] at hQ
  have no1 : b < 1 ∨ nI (sN (wS W)) < b → Q (some (.int (-1))) (Cg z iF aI aL) := fun h => by
    rw [if_pos h] at hQ
    exact hQ
  refine br_c (fun h => no1 (Or.inl h)) (fun h => br_c (fun h2 => ?_) (fun h2 => no1 (Or.inr (by rw [← hB.1.1]; exact nle h2))))
  have h2 : b ≤ iF 1 0 := h2
  rw [hB.1.1] at h2
  have hb : ¬ (b < 1 ∨ nI (sN (wS W)) < b) := fun q => q.elim h (nle' h2)
  rw [if_neg hb] at hQ
  have no2 : w < 0 ∨ 3 < w → Q (some (.int (-2))) (Cg z iF aI aL) := fun h => by
    rw [if_pos h] at hQ
    exact hQ
  refine br_c (fun h3 => no2 (Or.inl h3)) (fun h3 => br_c (fun h4 => ?_) (fun h4 => no2 (Or.inr (nle h4))))
  have hw : ¬ (w < 0 ∨ 3 < w) := fun q => q.elim h3 (nle' h4)
  rw [if_neg hw] at hQ
  obtain ⟨b1, b2⟩ := clamp_ge (v := b) (a := 1) (by omega) h
  have b3 := clamp_lt (v := b) (b := sN (wS W)) (by omega) (nle' h2)
  obtain ⟨w1, w2⟩ := clamp_ge (v := w) (a := 0) (by omega) h3
  have w3 := clamp_lt (v := w) (b := 3) (by omega) (nle' h4)
  refine ⟨z, iF, aI, aL, wS W, rfl, rfl, hW.1, hB.1, fun hr => br_nf rfl ?_, fun hr => br_nt n10 ?_⟩
  · rw [if_pos hr] at hQ; exact hQ
  · rw [if_neg (by rw [hr]; decide)] at hQ
    have wn : ∀ k : Nat, k < 4 → (¬ w = nI k ↔ w.toNatClampNeg ≠ k) := fun k hk => by
      rw [w2, nI_eq (by omega) (by omega), ← w2]
    refine br_c (fun q0 => ?_) (fun q0 => ?_)
    · rw [if_pos (show w = 0 from q0)] at hQ
      refine ⟨z, iF, aI, aL, tln (wS W), i, rfl, rfl, r1, fun q => br_t rfl ?_, fun q => br_f n10 ?_⟩
      · rw [if_pos q] at hQ; exact hQ
      · rw [if_neg q] at hQ
        obtain ⟨c1, c2⟩ := clamp_ge (v := i) (a := 0) (by omega) (fun y => q (Or.inl y))
        have c3 := clamp_lt (v := i) (b := tln (wS W)) (by omega) (fun y => q (Or.inr y))
        refine ⟨z, iF, aI, aL, tln (wS W), i.toNatClampNeg, rfl, (by rw [← c2]), r1, hT, c3, ?_⟩
        obtain ⟨p1, p2, p3⟩ := pls_spec hS b1 b3 i.toNatClampNeg
        exact ⟨b.toNatClampNeg, trw (wS W) i.toNatClampNeg, sN (wS W), pls (wS W) b.toNatClampNeg i.toNatClampNeg, (trw_Pm hS _).lt24 hn, hn, (by omega), p1, p2, p3, (by show [Value.int b, .int (aI 17 i.toNatClampNeg), .int (iF 1 0)] = _; rw [r3 _ c3, hB.1.1, ← b2]), hQ⟩
    · rw [if_neg (show ¬ w = 0 from q0)] at hQ
      have v0 := (wn 0 (by omega)).mp q0
      refine br_c (fun q1 => ?_) (fun q1 => br_c (fun q2 => ?_) (fun q2 => ?_))
      · have e : w.toNatClampNeg = 1 := by rw [show w = nI 1 from q1]; rfl
        rw [e] at hQ
        exact ⟨z, iF, aI, aL, wS W, b.toNatClampNeg, rfl, (by rw [← b2]), hS, ⟨r1, r2, r3⟩, b1, b3, hQ⟩
      · have e : w.toNatClampNeg = 2 := by rw [show w = nI 2 from q2]; rfl
        rw [e] at hQ
        exact ⟨z, iF, aI, aL, wS W, b.toNatClampNeg, rfl, (by rw [← b2]), hS, ⟨r1, r2, r3⟩, b1, b3, hQ⟩
      · have v1 := (wn 1 (by omega)).mp q1
        have v2 := (wn 2 (by omega)).mp q2
        have e : w.toNatClampNeg = 3 := by omega
        rw [e] at hQ
        exact ⟨z, iF, aI, aL, wS W, b.toNatClampNeg, rfl, (by rw [← b2]), hS, ⟨r1, r2, r3⟩, b1, b3, hQ⟩

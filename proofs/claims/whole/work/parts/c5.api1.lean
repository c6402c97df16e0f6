/-! the class's calls, first half -/
theorem nle {a v : Int32} (h : ¬ v ≤ a) : a < v := by
  rw [Int32.lt_iff_toInt_lt]
  rw [Int32.le_iff_toInt_le] at h
  omega
theorem nle' {a v : Int32} (h : v ≤ a) : ¬ a < v := by
  rw [Int32.lt_iff_toInt_lt]
  rw [Int32.le_iff_toInt_le] at h
  omega
theorem CIv.NF {W : WS} {K : Nat} {z : Zt} {iF aI iF' aI' : Nat → Nat → Int32} {aL : Nat → Nat → Int64} (h : CIv W K z iF aI aL) (hf : NF iF aI iF' aI') : CIv W K z iF' aI' aL := by
  obtain ⟨a, b, ⟨fl, c1, c2⟩, d, e⟩ := h
  exact ⟨a.of (fun k _ q => hf.1 k q) (fun k _ q => hf.2 k q), b.of (hf.1 20 (by omega)) (hf.2 22 (by omega)), ⟨fl, c1, c2.of c2.1 rfl rfl (hf.1 23 (by omega)) (hf.1 24 (by omega)) (hf.2 27 (by omega)) rfl⟩, d.of (Nat.le_refl _) rfl (hf.1 18 (by omega)) rfl, e.of (Nat.le_refl _) rfl (hf.1 30 (by omega)) rfl⟩
def zX10_bells : Spc := fun As g Q => ∃ v, amc [v] (aBells v) As g Q
theorem tX10_bells : Ok 4 yX10_bells cX10_bells 3 (some .int) zX10_bells := by
  refine ok_all fun As g Q h => ?_
  obtain ⟨v, z, iF, aI, aL, W, K, rfl, rfl, hW, hI, hK, hQ⟩ := h
  refine at0 60 (by decide) rfl sX10_bells (nl (n := 2) rfl rfl rfl) ?_
  have no : v < 4 ∨ 8 < v → Q (some (.int (-2))) (Cg z iF aI aL) := fun h => by
    have e : aBells v W = (-2, W) := if_pos h
    rw [e] at hQ
    exact hQ z iF aI aL rfl (FC.refl _ _) (hI.K (by omega))
  refine br_c (fun h => no (Or.inl h)) (fun h => br_c (fun h2 => ?_) (fun h2 => no (Or.inr (nle h2))))
  have h3 : ¬ (v < 4 ∨ 8 < v) := fun q => q.elim h (nle' h2)
  have e : aBells v W = _ := if_neg h3
  rw [e] at hQ
  obtain ⟨c1, c2⟩ := clamp_ge (v := v) (a := 4) (by omega) h
  have c3 := clamp_lt (v := v) (b := 8) (by omega) (nle' h2)
  refine ⟨z, iF, aI, aL, v.toNatClampNeg, rfl, (by rw [← c2]), c1, c3, fun f hf => ?_⟩
  refine ⟨z, _, _, aL, bgS v.toNatClampNeg, rfl, rfl, VS_bg c1 c3, hf, fun iF' aI' b1 b2 b3 b4 b5 b6 b7 => ?_⟩
  have hB := hI.1
  have := hQ z iF' aI' aL rfl (((FC.refl iF aI).fld 1 (by omega) f).settle b1 b2) (hI.settle (fun k q => up1_n _ _ (by omega)) ⟨hf, hB.2.1, hB.2.2.1, hB.2.2.2.1, fun S' q => (hB.2.2.2.2.1 S' q).of rfl rfl rfl, fun S' q => (hB.2.2.2.2.2.1 S' q).of rfl rfl rfl⟩ b1 b2 b3 b4 b5 b6 b7)
  show Q (some (.int (iF 1 0))) _
  rw [hB.1.1]
  exact this
def zX10_say : Spc := fun As g Q => ∃ v, amc [v] (aSay v) As g Q
theorem tX10_say : Ok 1 yX10_say cX10_say 2 (some .int) zX10_say := by
  refine ok_weak (fun As g Q h => ?_) oX10_say
  obtain ⟨v, z, iF, aI, aL, W, K, rfl, rfl, hW, hI, hK, hQ⟩ := h
  have no : v < 33 ∨ 126 < v → Q (some (.int (-2))) (Cg z iF aI aL) := fun h => by
    have e : aSay v W = (-2, W) := if_pos h
    rw [e] at hQ
    exact hQ z iF aI aL rfl (FC.refl _ _) (hI.K (by omega))
  refine br_c (fun h => no (Or.inl h)) (fun h => br_c (fun h2 => ?_) (fun h2 => no (Or.inr (nle h2))))
  have h3 : ¬ (v < 33 ∨ 126 < v) := fun q => q.elim h (nle' h2)
  have e : aSay v W = _ := if_neg h3
  rw [e] at hQ
  have hB := hI.1
  have h4 := hB.2.1
  have hl := hW.2.1.1
  refine pk_lt (wP W).length 40 (fun hlt => ?_) (fun hge => ?_) h4
  · rw [if_neg (by omega)] at hQ
    obtain ⟨c1, c2⟩ := clamp_ge (v := v) (a := 33) (by omega) h
    refine And.intro (pk_in (wP W).length 40 hlt h4) (And.intro (Or.inr rfl) (br_f n10 ?_))
    show Q (some (.int (iF 10 1 + 1))) (Cg z (up1 iF 10 (up1 (iF 10) 1 (iF 10 1 + 1))) (up1 aI 11 (up1 (aI 11) (iF 10 1).toNatClampNeg v)) aL)
    have e1 : iF 10 1 + 1 = nI ((wP W).length + 1) := by rw [h4, nI_1]
    have e2 : (iF 10 1).toNatClampNeg = (wP W).length := by rw [h4]; exact cl1 (by omega)
    rw [e1, e2]
    refine hQ z _ _ aL rfl (((FC.refl iF aI).fld 10 (by omega) _).arr 11 (by omega) _) ?_
    obtain ⟨a, b, ⟨fl, k1, k2⟩, d, ee⟩ := hI
    refine ⟨⟨a.1.of rfl rfl rfl, ?_, ?_, a.2.2.2.1, fun S' q => (a.2.2.2.2.1 S' q).of rfl rfl rfl, fun S' q => (a.2.2.2.2.2.1 S' q).of rfl rfl rfl, a.2.2.2.2.2.2.1.of rfl rfl ⟨rfl, rfl, rfl, rfl⟩, a.2.2.2.2.2.2.2.of rfl rfl⟩, b.of rfl rfl, ⟨fl, by omega, k2.of k2.1 rfl rfl rfl rfl rfl rfl⟩, d.of (by omega) rfl rfl rfl, ee.of (by omega) rfl rfl rfl⟩
    · show nI ((wP W).length + 1) = nI (wP W ++ [v.toNatClampNeg]).length
      rw [List.length_append]; rfl
    · intro i hi
      show up1 (aI 11) (wP W).length v i = nI ((wP W ++ [v.toNatClampNeg]).getD i 0)
      have hi : i < (wP W ++ [v.toNatClampNeg]).length := hi
      rw [List.length_append] at hi
      by_cases e : i = (wP W).length
      · rw [e, up1_s, getD_last]; exact c2
      · have hi : i < (wP W).length := by simp at hi; omega
        rw [up1_n _ _ e, getD_app hi]; exact hB.2.2.1 i hi
  · rw [if_pos (by omega)] at hQ
    exact And.intro (Or.inl rfl) (br_t rfl (hQ z iF aI aL rfl (FC.refl _ _) (hI.K (by omega))))
/-- the pad is empty then -/
theorem CB0.pad {W : WS} {iF aI : Nat → Nat → Int32} (h : CB0 W iF aI) : CB0 (W.1, [], W.2.2) (up1 iF 10 (up1 (iF 10) 1 0)) aI := ⟨h.1.of rfl rfl rfl, rfl, fun i hi => absurd hi (Nat.not_lt_zero i), h.2.2.2.1, fun S' q => (h.2.2.2.2.1 S' q).of rfl rfl rfl, fun S' q => (h.2.2.2.2.2 S' q).of rfl rfl rfl⟩
def zX10_wipe : Spc := fun As g Q => amc [] aWipe As g Q
theorem tX10_wipe : Ok 0 yX10_wipe cX10_wipe 2 (some .int) zX10_wipe := by
  refine ok_weak (fun As g Q h => ?_) oX10_wipe
  obtain ⟨z, iF, aI, aL, W, K, rfl, rfl, hW, hI, hK, hQ⟩ := h
  have hB := hI.1
  show Q (some (.int (iF 10 1))) (Cg z (up1 iF 10 (up1 (iF 10) 1 0)) aI aL)
  rw [hB.2.1]
  refine hQ z _ _ aL rfl ((FC.refl iF aI).fld 10 (by omega) _) ?_
  obtain ⟨a, b, ⟨fl, k1, k2⟩, d, ee⟩ := hI
  obtain ⟨q1, q2, q3, q4, q5, q6⟩ := hB.c0.pad
  exact ⟨⟨q1, q2, q3, q4, q5, q6, a.2.2.2.2.2.2.1.of rfl rfl ⟨rfl, rfl, rfl, rfl⟩, a.2.2.2.2.2.2.2.of rfl rfl⟩, b.of rfl rfl, ⟨fl, by omega, k2.of k2.1 rfl rfl rfl rfl rfl rfl⟩, d.of (by omega) rfl rfl rfl, ee.of (by omega) rfl rfl rfl⟩
def zX10_fault : Spc := fun As g Q => ∃ v, amc [v] (aFault v) As g Q
theorem tX10_fault : Ok 4 yX10_fault cX10_fault 2 (some .int) zX10_fault := by
  refine ok_all fun As g Q h => ?_
  obtain ⟨v, z, iF, aI, aL, W, K, rfl, rfl, hW, hI, hK, hQ⟩ := h
  refine at0 60 (by decide) rfl sX10_fault (nl (n := 2) rfl rfl rfl) ?_
  have hB := hI.1
  unfold aFault at hQ
  refine br_c (fun h => ?_) (fun h => br_c (fun h2 => ?_) (fun h2 => br_c (fun h3 => ?_) (fun h3 => ?_)))
  · rw [if_pos (show v = 0 from h)] at hQ
    exact ⟨z, iF, aI, aL, true, sN (wS W), wP W, rfl, (by show [Value.ref 12, .ref 10, .int (iF 1 0), .int 1] = _; rw [hB.1.1]; rfl), hW.1.1.1, hW.1.1.2, hW.2.1, hB.2.1, hB.2.2.1, fun iF' aI' hf _ => hQ z iF' aI' aL rfl hf.FC ((hI.NF hf).K (by omega))⟩
  · rw [if_neg (show ¬ v = 0 from h), if_pos (show v = 1 from h2)] at hQ
    exact ⟨z, iF, aI, aL, false, sN (wS W), wP W, rfl, (by show [Value.ref 12, .ref 10, .int (iF 1 0), .int 0] = _; rw [hB.1.1]; rfl), hW.1.1.1, hW.1.1.2, hW.2.1, hB.2.1, hB.2.2.1, fun iF' aI' hf _ => hQ z iF' aI' aL rfl hf.FC ((hI.NF hf).K (by omega))⟩
  · rw [if_neg (show ¬ v = 0 from h), if_neg (show ¬ v = 1 from h2), if_pos (show v = 2 from h3)] at hQ
    exact ⟨z, iF, aI, aL, wP W, rfl, rfl, hW.2.1, hB.2.1, hB.2.2.1, hQ z iF aI aL rfl (FC.refl _ _) (hI.K (by omega))⟩
  · rw [if_neg (show ¬ v = 0 from h), if_neg (show ¬ v = 1 from h2), if_neg (show ¬ v = 2 from h3)] at hQ
    exact hQ z iF aI aL rfl (FC.refl _ _) (hI.K (by omega))
def zX10_method : Spc := fun As g Q => amc [] aMethod As g Q
theorem tX10_method : Ok 4 yX10_method cX10_method 1 (some .int) zX10_method := by
  refine ok_all fun As g Q h => ?_
  obtain ⟨z, iF, aI, aL, W, K, rfl, rfl, hW, hI, hK, hQ⟩ := h
  refine at0 80 (by decide) rfl sX10_method (nl (n := 1) rfl rfl rfl) ?_
  have hB := hI.1
  have hl := hW.2.1.1
  unfold aMethod at hQ
  refine ⟨z, iF, aI, aL, true, sN (wS W), wP W, rfl, (by show [Value.ref 12, .ref 10, .int (iF 1 0), .int 1] = _; rw [hB.1.1]; rfl), hW.1.1.1, hW.1.1.2, hW.2.1, hB.2.1, hB.2.2.1, fun iF1 aI1 hf hm => ?_⟩
  have hI1 := hI.NF hf
  have hB1 := hI1.1
  cases e : mok true (sN (wS W)) (wP W) with
  | none =>
    obtain ⟨i, i1, i2⟩ := flt_no hW.1.1.2 hW.1.1.1 hl e
    rw [i2]
    rw [e] at hQ
    exact br_f (nI_ne6 (by omega)) (hQ z iF1 aI1 aL rfl hf.FC (hI1.K (by omega)))
  | some P =>
    rw [flt_yes e]
    rw [e] at hQ
    simp only [] at hQ
    obtain ⟨p1, p2, p3⟩ := mok_PV hW.1.1.2 hW.1.1.1 e
    have hM := hm P p1
    have hln := lnP_eq p2 p3
    have hpl := p2.1
    have hlb : lnP P ≤ 100 := by unfold lnP; split <;> omega
    refine br_t rfl ⟨z, iF1, aI1, aL, true, sN (wS W), (wP W).length, P, rfl, rfl, hM, p2, hl, pk_le (lnP P) 40 (fun h => ?_) (fun h => ?_)⟩
    · rw [if_neg (by omega)] at hQ
      refine ⟨z, iF1, aI1, aL, true, sN (wS W), (wP W).length, P, rfl, rfl, hM, p2, hl, p3, (by omega), fun a ha => ?_⟩
      have hVS : VS (sN (wS W), mch P, (wS W).2.2) := ⟨hW.1.1, ⟨(by show (mch P).length ≤ 40; omega), mch_VM hW.1.1.2 p2 p3⟩, hW.1.2.2⟩
      have hC : CS 1 (up1 iF1 1 (up1 (iF1 1) 2 (nI (mch P).length))) (up1 aI1 2 a) (sN (wS W), mch P, (wS W).2.2) := ⟨hB1.1.1, rfl, hB1.1.2.2.1, hB1.1.2.2.2.1, hB1.1.2.2.2.2.1, ha, hB1.1.2.2.2.2.2.2⟩
      have hC0 : CB0 ((sN (wS W), mch P, (wS W).2.2), wP W, W.2.2) (up1 iF1 1 (up1 (iF1 1) 2 (nI (mch P).length))) (up1 aI1 2 a) := ⟨hC, hB1.2.1, hB1.2.2.1, hB1.2.2.2.1, fun S' q => (hB1.2.2.2.2.1 S' q).of rfl rfl rfl, fun S' q => (hB1.2.2.2.2.2.1 S' q).of rfl rfl rfl⟩
      refine ⟨z, _, _, aL, (sN (wS W), mch P, (wS W).2.2), rfl, rfl, hVS, hC0.pad.1, fun iF' aI' b1 b2 b3 b4 b5 b6 b7 => ?_⟩
      have := hQ z iF' aI' aL rfl (((hf.FC.fld 1 (by omega) _).arr 2 (by omega) a).fld 10 (by omega) _ |>.settle b1 b2) (hI1.settle (W' := ((sN (wS W), mch P, (wS W).2.2), [], W.2.2)) (fun k q => (up1_n _ _ (by omega)).trans (up1_n iF1 _ (by omega))) hC0.pad b1 b2 b3 b4 b5 b6 b7)
      show Q (some (.int (iF' 1 2))) _
      rw [b1 1 (by omega) (by omega) (by omega) (by omega)]
      exact this
    · rw [if_pos (by omega)] at hQ
      exact hQ z iF1 aI1 aL rfl hf.FC (hI1.K (by omega))

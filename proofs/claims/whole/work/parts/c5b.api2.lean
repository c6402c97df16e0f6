/-! call, touch, change, images, count of the class -/
def zX10_call : Spc := fun As g Q => ∃ v, amc [v] (aCall v) As g Q
theorem tX10_call : Ok 4 yX10_call cX10_call 3 (some .int) zX10_call := by
  refine ok_all fun As g Q h => ?_
  obtain ⟨v, z, iF, aI, aL, W, K, rfl, rfl, hW, hI, hK, hQ⟩ := h
  refine at0 80 (by decide) rfl sX10_call (nl (n := 2) rfl rfl rfl) ?_
  have hB := hI.1
  have hl := hW.2.1.1
  have no : v < 0 ∨ 1 < v → Q (some (.int (-2))) (Cg z iF aI aL) := fun h => by
    have e : aCall v W = (-2, W) := if_pos h
    rw [e] at hQ
    exact hQ z iF aI aL rfl (FC.refl _ _) (hI.K (by omega))
  refine br_c (fun h => no (Or.inl h)) (fun h => br_c (fun h2 => ?_) (fun h2 => no (Or.inr (nle h2))))
  have e : aCall v W = _ := if_neg (fun q => q.elim h (nle' h2))
  rw [e] at hQ
  refine ⟨z, iF, aI, aL, false, sN (wS W), wP W, rfl, (by show [Value.ref 12, .ref 10, .int (iF 1 0), .int 0] = _; rw [hB.1.1]; rfl), hW.1.1.1, hW.1.1.2, hW.2.1, hB.2.1, hB.2.2.1, fun iF1 aI1 hf hm => ?_⟩
  have hI1 := hI.NF hf
  have hB1 := hI1.1
  cases e : mok false (sN (wS W)) (wP W) with
  | none =>
    obtain ⟨i, i1, i2⟩ := flt_no hW.1.1.2 hW.1.1.1 hl e
    rw [i2]
    rw [e] at hQ
    exact br_f (nI_ne6 (by omega)) (hQ z iF1 aI1 aL rfl hf.FC (hI1.K (by omega)))
  | some P =>
    rw [flt_yes e]
    rw [e] at hQ
    simp only [] at hQ
    obtain ⟨p1, p2, p3⟩ := mok_PV hW.1.1.2 hW.1.1.1 e
    obtain ⟨m1, m2⟩ := mok_1 hW.1.1.2 hW.1.1.1 e
    have hM := hm P p1
    have e0 : aI1 13 0 = nI (P.2.1.getD 0 0) := hM.2.2.2.2.2 0 m1
    have ebc : bcI (aI1 13 0) = nI (pct (P.2.1.getD 0 0) 8) := by rw [e0]; exact bcI_pct _ m2.1 m2.2.1
    refine br_t rfl ⟨z, iF1, aI1, aL, rfl, rfl, And.intro (fun h3 => ?_) (fun h3 => ?_)⟩
    · rw [if_neg (show ¬ v = 0 from h3)] at hQ
      have hVS : VS (sN (wS W), sC (wS W), sB (wS W), P.2.1.getD 0 0, sL (wS W)) := ⟨hW.1.1, hW.1.2.1, hW.1.2.2.1, m2, hW.1.2.2.2.2⟩
      have hC : CS 1 (up1 iF1 1 (up1 (iF1 1) 4 (aI1 13 0))) aI1 (sN (wS W), sC (wS W), sB (wS W), P.2.1.getD 0 0, sL (wS W)) := ⟨hB1.1.1, hB1.1.2.1, hB1.1.2.2.1, e0, hB1.1.2.2.2.2.1, hB1.1.2.2.2.2.2.1, hB1.1.2.2.2.2.2.2⟩
      have hC0 : CB0 ((sN (wS W), sC (wS W), sB (wS W), P.2.1.getD 0 0, sL (wS W)), wP W, W.2.2) (up1 iF1 1 (up1 (iF1 1) 4 (aI1 13 0))) aI1 := ⟨hC, hB1.2.1, hB1.2.2.1, hB1.2.2.2.1, fun S' q => (hB1.2.2.2.2.1 S' q).of rfl rfl rfl, fun S' q => (hB1.2.2.2.2.2.1 S' q).of rfl rfl rfl⟩
      refine ⟨z, _, _, aL, (sN (wS W), sC (wS W), sB (wS W), P.2.1.getD 0 0, sL (wS W)), rfl, rfl, hVS, hC0.pad.1, fun iF' aI' b1 b2 b3 b4 b5 b6 b7 => ?_⟩
      have := hQ z iF' aI' aL rfl ((hf.FC.fld 1 (by omega) _).fld 10 (by omega) _ |>.settle b1 b2) (hI1.settle (W' := ((sN (wS W), sC (wS W), sB (wS W), P.2.1.getD 0 0, sL (wS W)), [], W.2.2)) (fun k q => (up1_n _ _ (by omega)).trans (up1_n iF1 _ (by omega))) hC0.pad b1 b2 b3 b4 b5 b6 b7)
      show Q (some (.int (bcI (aI1 13 0)))) _
      rw [ebc]
      exact this
    · rw [if_pos (show v = 0 from h3)] at hQ
      have hVS : VS (sN (wS W), sC (wS W), P.2.1.getD 0 0, sS (wS W), sL (wS W)) := ⟨hW.1.1, hW.1.2.1, m2, hW.1.2.2.2.1, hW.1.2.2.2.2⟩
      have hC : CS 1 (up1 iF1 1 (up1 (iF1 1) 3 (aI1 13 0))) aI1 (sN (wS W), sC (wS W), P.2.1.getD 0 0, sS (wS W), sL (wS W)) := ⟨hB1.1.1, hB1.1.2.1, e0, hB1.1.2.2.2.1, hB1.1.2.2.2.2.1, hB1.1.2.2.2.2.2.1, hB1.1.2.2.2.2.2.2⟩
      have hC0 : CB0 ((sN (wS W), sC (wS W), P.2.1.getD 0 0, sS (wS W), sL (wS W)), wP W, W.2.2) (up1 iF1 1 (up1 (iF1 1) 3 (aI1 13 0))) aI1 := ⟨hC, hB1.2.1, hB1.2.2.1, hB1.2.2.2.1, fun S' q => (hB1.2.2.2.2.1 S' q).of rfl rfl rfl, fun S' q => (hB1.2.2.2.2.2.1 S' q).of rfl rfl rfl⟩
      refine ⟨z, _, _, aL, (sN (wS W), sC (wS W), P.2.1.getD 0 0, sS (wS W), sL (wS W)), rfl, rfl, hVS, hC0.pad.1, fun iF' aI' b1 b2 b3 b4 b5 b6 b7 => ?_⟩
      have := hQ z iF' aI' aL rfl ((hf.FC.fld 1 (by omega) _).fld 10 (by omega) _ |>.settle b1 b2) (hI1.settle (W' := ((sN (wS W), sC (wS W), P.2.1.getD 0 0, sS (wS W), sL (wS W)), [], W.2.2)) (fun k q => (up1_n _ _ (by omega)).trans (up1_n iF1 _ (by omega))) hC0.pad b1 b2 b3 b4 b5 b6 b7)
      show Q (some (.int (bcI (aI1 13 0)))) _
      rw [ebc]
      exact this
def zX10_touch : Spc := fun As g Q => amc [] aTouch As g Q
theorem tX10_touch : Ok 3 yX10_touch cX10_touch 1 (some .int) zX10_touch := by
  refine ok_all fun As g Q h => ?_
  obtain ⟨z, iF, aI, aL, W, K, rfl, rfl, hW, hI, hK, hQ⟩ := h
  refine at0 80 (by decide) rfl sX10_touch (nl (n := 1) rfl rfl rfl) ?_
  have hB := hI.1
  have hl := hW.2.1.1
  unfold aTouch at hQ
  refine ⟨z, iF, aI, aL, wP W, rfl, rfl, hW.2.1, hB.2.1, hB.2.2.1, br_c (fun h => ?_) (fun h => ?_)⟩
  · rw [if_pos (show tfl (wP W) = -6 from h)] at hQ
    have hk : ∀ s ∈ wP W, kd s ≠ none := by
      rcases tfl_cases hl with ⟨-, -, q⟩ | ⟨i, i1, i2⟩
      · exact q
      · exact absurd (i2.symm.trans h) (nI_ne6 (by omega))
    refine ⟨z, iF, aI, aL, wP W, rfl, rfl, hW.2.1, hB.2.1, hB.2.2.1, hk, fun a ha => ?_⟩
    have htl : (tlt (wP W)).length = (wP W).length := by unfold tlt; rw [List.length_map]
    have hVS : VS (wtc (wS W) (tlt (wP W))) := ⟨hW.1.1, hW.1.2.1, hW.1.2.2.1, hW.1.2.2.2.1, (by show (tlt (wP W)).length ≤ 40; omega), tlt_le _⟩
    have hC : CS 1 (up1 iF 1 (up1 (iF 1) 6 (nI (wP W).length))) (up1 aI 3 a) (wtc (wS W) (tlt (wP W))) := ⟨hB.1.1, hB.1.2.1, hB.1.2.2.1, hB.1.2.2.2.1, (by show nI (wP W).length = nI (tlt (wP W)).length; rw [htl]), hB.1.2.2.2.2.2.1, fun i hi => ha i (by have hi : i < (tlt (wP W)).length := hi; omega)⟩
    have hC0 : CB0 (wtc (wS W) (tlt (wP W)), wP W, W.2.2) (up1 iF 1 (up1 (iF 1) 6 (nI (wP W).length))) (up1 aI 3 a) := ⟨hC, hB.2.1, hB.2.2.1, hB.2.2.2.1, fun S' q => (hB.2.2.2.2.1 S' q).of rfl rfl rfl, fun S' q => (hB.2.2.2.2.2.1 S' q).of rfl rfl rfl⟩
    obtain ⟨q1, q2, q3, q4, q5, q6⟩ := hC0.pad
    have hD : LD (up1 (up1 iF 1 (up1 (iF 1) 6 (nI (wP W).length))) 10 (up1 (iF 10) 1 0)) (up1 aI 3 a) (wtc (wS W) (tlt (wP W))) := hB.2.2.2.2.2.2.1.of rfl rfl ⟨rfl, rfl, rfl, rfl⟩
    refine ⟨z, _, _, aL, wtc (wS W) (tlt (wP W)), rfl, rfl, hVS, q1, hD, fun f2 a2 hR => ?_⟩
    obtain ⟨aa, b, ⟨fl, k1, k2⟩, d, ee⟩ := hI
    have hsp : SP (wtc (wS W) (tlt (wP W))) (K + 1000) z (up1 (up1 (up1 iF 1 (up1 (iF 1) 6 (nI (wP W).length))) 10 (up1 (iF 10) 1 0)) 16 f2) (up1 (up1 aI 3 a) 17 a2) aL := SP.w ⟨fl, by omega, k2.of k2.1 rfl rfl rfl rfl rfl rfl⟩
    refine hQ z _ _ aL rfl ((((FC.refl iF aI).fld 1 (by omega) _).arr 3 (by omega) a).fld 10 (by omega) _ |>.fld 16 (by omega) f2 |>.arr 17 (by omega) a2) ⟨⟨q1.of rfl rfl rfl, q2, q3, q4, fun S' q => (q5 S' q).of rfl rfl rfl, fun S' q => (q6 S' q).of rfl rfl rfl, hD.of rfl rfl ⟨rfl, rfl, rfl, rfl⟩, hR⟩, FP.w (b.of rfl rfl), hsp, d.of (by omega) rfl rfl rfl, ee.of (by omega) rfl rfl rfl⟩
  · rw [if_neg (show ¬ tfl (wP W) = -6 from h)] at hQ
    exact hQ z iF aI aL rfl (FC.refl _ _) (hI.K (by omega))
def zX10_change : Spc := fun As g Q => ∃ v, amc [v] (aChange v) As g Q
theorem tX10_change : Ok 0 yX10_change cX10_change 2 (some .int) zX10_change := by
  refine ok_weak (fun As g Q h => ?_) oX10_change
  obtain ⟨v, z, iF, aI, aL, W, K, rfl, rfl, hW, hI, hK, hQ⟩ := h
  have hB := hI.1
  have hc := hW.1.2.1.1
  have hQ := hQ z iF aI aL rfl (FC.refl _ _) (hI.K (by omega))
  unfold aChange at hQ
  refine And.intro (fun h => ?_) (fun h => ?_)
  · refine And.intro (fun h2 => ?_) (fun h2 => ?_)
    · rw [if_neg (show ¬ v = -1 from h), if_neg (show ¬ v = -2 from h2)] at hQ
      refine br_c (fun h3 => ?_) (fun h3 => br_c (fun h4 => ?_) (fun h4 => ?_))
      · rw [if_pos (Or.inl h3)] at hQ; exact hQ
      · have h4 : iF 1 2 ≤ v := h4
        rw [hB.1.2.1] at h4
        rw [if_pos (Or.inr h4)] at hQ; exact hQ
      · have h4 : ¬ iF 1 2 ≤ v := h4
        rw [hB.1.2.1] at h4
        rw [if_neg (fun q => q.elim h3 h4)] at hQ
        obtain ⟨c1, c2⟩ := clamp_ge (v := v) (a := 0) (by omega) h3
        have c3 : v.toNatClampNeg < (sC (wS W)).length := by
          rw [c2] at h4
          exact Classical.byContradiction fun q => h4 ((nI_leI (by omega) (by have := Int32.toNatClampNeg_lt v; omega)).mpr (by omega))
        refine And.intro (by rw [c2]; exact vp_in_nI (by omega) (by omega)) ?_
        show Q (some (.int (aI 2 v.toNatClampNeg))) _
        rw [show aI 2 v.toNatClampNeg = _ from hB.1.2.2.2.2.2.1 _ c3]
        exact hQ
    · rw [if_neg (show ¬ v = -1 from h), if_pos (show v = -2 from h2), ← hB.1.2.2.2.1] at hQ
      exact hQ
  · rw [if_pos (show v = -1 from h), ← hB.1.2.2.1] at hQ
    exact hQ
def zX10_count : Spc := fun As g Q => ∃ v, amc [v] (aCount v) As g Q
theorem tX10_count : Ok 0 yX10_count cX10_count 2 (some .int) zX10_count := by
  refine ok_weak (fun As g Q h => ?_) oX10_count
  obtain ⟨v, z, iF, aI, aL, W, K, rfl, rfl, hW, hI, hK, hQ⟩ := h
  have hB := hI.1
  have hQ := hQ z iF aI aL rfl (FC.refl _ _) (hI.K (by omega))
  unfold aCount at hQ
  refine br_c (fun h => ?_) (fun h => br_c (fun h2 => ?_) (fun h2 => br_c (fun h3 => ?_) (fun h3 => br_c (fun h4 => ?_) (fun h4 => br_c (fun h5 => ?_) (fun h5 => ?_)))))
  · rw [if_pos (show v = 0 from h), ← hB.1.1] at hQ; exact hQ
  · rw [if_neg (show ¬ v = 0 from h), if_pos (show v = 1 from h2), ← hB.1.2.1] at hQ; exact hQ
  · rw [if_neg (show ¬ v = 0 from h), if_neg (show ¬ v = 1 from h2), if_pos (show v = 2 from h3), ← hB.1.2.2.2.2.1] at hQ; exact hQ
  · rw [if_neg (show ¬ v = 0 from h), if_neg (show ¬ v = 1 from h2), if_neg (show ¬ v = 2 from h3), if_pos (show v = 3 from h4), ← hB.2.1] at hQ; exact hQ
  · rw [if_neg (show ¬ v = 0 from h), if_neg (show ¬ v = 1 from h2), if_neg (show ¬ v = 2 from h3), if_neg (show ¬ v = 3 from h4), if_pos (show v = 4 from h5), ← hB.2.2.2.1] at hQ; exact hQ
  · rw [if_neg (show ¬ v = 0 from h), if_neg (show ¬ v = 1 from h2), if_neg (show ¬ v = 2 from h3), if_neg (show ¬ v = 3 from h4), if_neg (show ¬ v = 4 from h5)] at hQ; exact hQ
theorem k01 {v : Int32} (h : ¬ v < 0) (h2 : v ≤ 1) : v = 0 ∨ v = 1 := by
  obtain ⟨c1, c2⟩ := clamp_ge (v := v) (a := 0) (by omega) h
  have c3 := clamp_lt (v := v) (b := 1) (by omega) (nle' h2)
  have : v.toNatClampNeg = 0 ∨ v.toNatClampNeg = 1 := by omega
  rcases this with q | q
  · left; rw [c2, q]; rfl
  · right; rw [c2, q]; rfl
def ikB (p q : Bool) : Nat := (if p = true then 1 else 0) + (if q = true then 2 else 0)
theorem ikB_or : ∀ p q : Bool, nI (ikB p q) ||| (1 : Int32) <<< ((0 : Int32) &&& 31) = nI (ikB true q) ∧ nI (ikB p q) ||| (1 : Int32) <<< ((1 : Int32) &&& 31) = nI (ikB p true) := by decide +kernel
theorem ikB_bit : ∀ p q : Bool, (nI (ikB p q) >>> ((0 : Int32) &&& 31) &&& 1 = b01 p) ∧ (nI (ikB p q) >>> ((1 : Int32) &&& 31) &&& 1 = b01 q) := by decide +kernel
theorem ikp_or (W : WS) (S : Stg) : nI (ikp W) ||| (1 : Int32) <<< ((0 : Int32) &&& 31) = nI (ikp (W.1, W.2.1, some S, W.2.2.2)) ∧ nI (ikp W) ||| (1 : Int32) <<< ((1 : Int32) &&& 31) = nI (ikp (W.1, W.2.1, W.2.2.1, some S)) := ikB_or W.2.2.1.isSome W.2.2.2.isSome
theorem ikp_bit (W : WS) : (nI (ikp W) >>> ((0 : Int32) &&& 31) &&& 1 = b01 W.2.2.1.isSome) ∧ (nI (ikp W) >>> ((1 : Int32) &&& 31) &&& 1 = b01 W.2.2.2.isSome) := ikB_bit W.2.2.1.isSome W.2.2.2.isSome
def zX10_image : Spc := fun As g Q => ∃ v, amc [v] (aImage v) As g Q
set_option maxRecDepth 20000 in
theorem tX10_image : Ok 2 yX10_image cX10_image 2 (some .int) zX10_image := by
  refine ok_all fun As g Q h => ?_
  obtain ⟨v, z, iF, aI, aL, W, K, rfl, rfl, hW, hI, hK, hQ⟩ := h
  refine at0 80 (by decide) rfl sX10_image_q (nl (n := 2) rfl rfl rfl) ?_
  have hB := hI.1
  have no : v < 0 ∨ 1 < v → Q (some (.int (-2))) (Cg z iF aI aL) := fun h => by
    have e : aImage v W = (-2, W) := if_pos h
    rw [e] at hQ
    exact hQ z iF aI aL rfl (FC.refl _ _) (hI.K (by omega))
  refine br_c (fun h => no (Or.inl h)) (fun h => br_c (fun h2 => ?_) (fun h2 => no (Or.inr (nle h2))))
  have e : aImage v W = _ := if_neg (fun q => q.elim h (nle' h2))
  rw [e] at hQ
  obtain ⟨aa, b, ⟨fl, k1, k2⟩, d, ee⟩ := hI
  rcases k01 h h2 with rfl | rfl
  · refine br_nf rfl ⟨z, iF, aI, aL, 4, 1, wS W, rfl, rfl, Or.inl ⟨rfl, rfl⟩, hW.1, hB.1, fun f a b' hC => ?_⟩
    rw [if_pos rfl] at hQ
    have e3 : iF 0 3 ||| (1 : Int32) <<< ((0 : Int32) &&& 31) = nI (ikp (W.1, W.2.1, some W.1, W.2.2.2)) := by rw [hB.2.2.2.1]; exact (ikp_or W W.1).1
    refine hQ z (up1 (up1 iF 4 f) 0 (up1 (iF 0) 3 (iF 0 3 ||| (1 : Int32) <<< ((0 : Int32) &&& 31)))) (up1 (up1 aI 5 a) 6 b') aL rfl ((((FC.refl iF aI).fld 4 (by omega) f).arr 5 (by omega) a).arr 6 (by omega) b' |>.fld 0 (by omega) _) ⟨⟨hB.1.of rfl rfl rfl, hB.2.1, hB.2.2.1, e3, fun S' q => ?_, fun S' q => (hB.2.2.2.2.2.1 S' q).of rfl rfl rfl, hB.2.2.2.2.2.2.1.of rfl rfl ⟨rfl, rfl, rfl, rfl⟩, hB.2.2.2.2.2.2.2.of rfl rfl⟩, b.of rfl rfl, ⟨fl, by omega, k2.of k2.1 rfl rfl rfl rfl rfl rfl⟩, d.of (by omega) rfl rfl rfl, ee.of (by omega) rfl rfl rfl⟩
    cases q
    exact hC.of rfl rfl rfl
  · refine br_nt n10 ⟨z, iF, aI, aL, 7, 1, wS W, rfl, rfl, Or.inr (Or.inl ⟨rfl, rfl⟩), hW.1, hB.1, fun f a b' hC => ?_⟩
    rw [if_neg n10] at hQ
    have e3 : iF 0 3 ||| (1 : Int32) <<< ((1 : Int32) &&& 31) = nI (ikp (W.1, W.2.1, W.2.2.1, some W.1)) := by rw [hB.2.2.2.1]; exact (ikp_or W W.1).2
    refine hQ z (up1 (up1 iF 7 f) 0 (up1 (iF 0) 3 (iF 0 3 ||| (1 : Int32) <<< ((1 : Int32) &&& 31)))) (up1 (up1 aI 8 a) 9 b') aL rfl ((((FC.refl iF aI).fld 7 (by omega) f).arr 8 (by omega) a).arr 9 (by omega) b' |>.fld 0 (by omega) _) ⟨⟨hB.1.of rfl rfl rfl, hB.2.1, hB.2.2.1, e3, fun S' q => (hB.2.2.2.2.1 S' q).of rfl rfl rfl, fun S' q => ?_, hB.2.2.2.2.2.2.1.of rfl rfl ⟨rfl, rfl, rfl, rfl⟩, hB.2.2.2.2.2.2.2.of rfl rfl⟩, b.of rfl rfl, ⟨fl, by omega, k2.of k2.1 rfl rfl rfl rfl rfl rfl⟩, d.of (by omega) rfl rfl rfl, ee.of (by omega) rfl rfl rfl⟩
    cases q
    exact hC.of rfl rfl rfl
def zX10_restore : Spc := fun As g Q => ∃ v, amc [v] (aRestore v) As g Q
set_option maxRecDepth 20000 in
theorem tX10_restore : Ok 4 yX10_restore cX10_restore 2 (some .int) zX10_restore := by
  refine ok_all fun As g Q h => ?_
  obtain ⟨v, z, iF, aI, aL, W, K, rfl, rfl, hW, hI, hK, hQ⟩ := h
  refine at0 80 (by decide) rfl sX10_restore (nl (n := 2) rfl rfl rfl) ?_
  have hB := hI.1
  have no : v < 0 ∨ 1 < v → Q (some (.int (-2))) (Cg z iF aI aL) := fun h => by
    have e : aRestore v W = (-2, W) := if_pos h
    rw [e] at hQ
    exact hQ z iF aI aL rfl (FC.refl _ _) (hI.K (by omega))
  refine br_c (fun h => no (Or.inl h)) (fun h => br_c (fun h2 => ?_) (fun h2 => no (Or.inr (nle h2))))
  have e : aRestore v W = _ := if_neg (fun q => q.elim h (nle' h2))
  rw [e] at hQ
  rcases k01 h h2 with rfl | rfl
  · have eb : iF 0 3 >>> ((0 : Int32) &&& 31) &&& 1 = b01 W.2.2.1.isSome := by rw [hB.2.2.2.1]; exact (ikp_bit W).1
    have ew : wI W (0 : Int32).toNatClampNeg = W.2.2.1 := rfl
    rw [ew] at hQ
    cases hs : W.2.2.1 with
    | none =>
      rw [hs] at hQ eb
      exact br_nf eb (hQ z iF aI aL rfl (FC.refl _ _) (hI.K (by omega)))
    | some S' =>
      rw [hs] at hQ eb
      have hVS : VS S' := hW.2.2 0 S' hs
      refine br_nt (by show ¬ iF 0 3 >>> ((0 : Int32) &&& 31) &&& 1 = 0; rw [eb]; exact n10) (br_nf rfl ⟨z, iF, aI, aL, 1, 4, S', rfl, rfl, Or.inr (Or.inr (Or.inl ⟨rfl, rfl⟩)), hVS, hB.2.2.2.2.1 S' hs, fun f a b' hC => ?_⟩)
      refine ⟨z, _, _, aL, S', rfl, rfl, hVS, hC, fun iF' aI' b1 b2 b3 b4 b5 b6 b7 => ?_⟩
      exact hQ z iF' aI' aL rfl ((((FC.refl iF aI).fld 1 (by omega) f).arr 2 (by omega) a).arr 3 (by omega) b' |>.settle b1 b2) (hI.settle (W' := (S', W.2)) (fun k q => up1_n iF _ (by omega)) ⟨hC, hB.2.1, hB.2.2.1, hB.2.2.2.1, fun S'' q => (hB.2.2.2.2.1 S'' q).of rfl rfl rfl, fun S'' q => (hB.2.2.2.2.2.1 S'' q).of rfl rfl rfl⟩ b1 b2 b3 b4 b5 b6 b7)
  · have eb : iF 0 3 >>> ((1 : Int32) &&& 31) &&& 1 = b01 W.2.2.2.isSome := by rw [hB.2.2.2.1]; exact (ikp_bit W).2
    have ew : wI W (1 : Int32).toNatClampNeg = W.2.2.2 := rfl
    rw [ew] at hQ
    cases hs : W.2.2.2 with
    | none =>
      rw [hs] at hQ eb
      exact br_nf eb (hQ z iF aI aL rfl (FC.refl _ _) (hI.K (by omega)))
    | some S' =>
      rw [hs] at hQ eb
      have hVS : VS S' := hW.2.2 1 S' hs
      refine br_nt (by show ¬ iF 0 3 >>> ((1 : Int32) &&& 31) &&& 1 = 0; rw [eb]; exact n10) (br_nt n10 ⟨z, iF, aI, aL, 1, 7, S', rfl, rfl, Or.inr (Or.inr (Or.inr ⟨rfl, rfl⟩)), hVS, hB.2.2.2.2.2.1 S' hs, fun f a b' hC => ?_⟩)
      refine ⟨z, _, _, aL, S', rfl, rfl, hVS, hC, fun iF' aI' b1 b2 b3 b4 b5 b6 b7 => ?_⟩
      exact hQ z iF' aI' aL rfl ((((FC.refl iF aI).fld 1 (by omega) f).arr 2 (by omega) a).arr 3 (by omega) b' |>.settle b1 b2) (hI.settle (W' := (S', W.2)) (fun k q => up1_n iF _ (by omega)) ⟨hC, hB.2.1, hB.2.2.1, hB.2.2.2.1, fun S'' q => (hB.2.2.2.2.1 S'' q).of rfl rfl rfl, fun S'' q => (hB.2.2.2.2.2.1 S'' q).of rfl rfl rfl⟩ b1 b2 b3 b4 b5 b6 b7)

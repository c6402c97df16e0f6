/-! head, falseHead, reached, by, longest of the class -/
def zX10_head : Spc := fun As g Q => ∃ l w, amc [l, w] (aHead l w) As g Q
theorem tX10_head : Ok 3 yX10_head cX10_head 3 (some .int) zX10_head := by
  refine ok_all fun As g Q h => ?_
  obtain ⟨l, w, z, iF, aI, aL, W, K, rfl, rfl, hW, hI, hK, hQ⟩ := h
  refine at0 100 (by decide) rfl sX10_head (nl (n := 3) rfl rfl rfl) ?_
  have hB := hI.1
  have hD := hB.2.2.2.2.2.2.1
  have hS := hW.1
  have hn := hS.1.2
  have hQ := hQ z iF aI aL rfl (FC.refl _ _) (hI.K (by omega))
  unfold aHead at hQ
  simp only [] at hQ
  have no : l < 0 ∨ 2 < l ∨ w < 0 ∨ 1 < w → Q (some (.int (-2))) (Cg z iF aI aL) := fun h => by
    rw [if_pos h] at hQ
    exact hQ
  have l3 : (3 : Int32) ≤ l ↔ 2 < l := by
    rw [Int32.lt_iff_toInt_lt, Int32.le_iff_toInt_le]
    have e3 : (3 : Int32).toInt = 3 := by decide
    have e2 : (2 : Int32).toInt = 2 := by decide
    omega
  refine br_c (fun h => no (Or.inl h)) (fun h => br_c (fun h2 => no (Or.inr (Or.inl (l3.mp h2)))) (fun h2 => br_c (fun h3 => no (Or.inr (Or.inr (Or.inl h3)))) (fun h3 => br_c (fun h4 => ?_) (fun h4 => no (Or.inr (Or.inr (Or.inr (nle h4))))))))
  rw [if_neg (fun q => q.elim h (fun q => q.elim (fun q => h2 (l3.mpr q)) (fun q => q.elim h3 (nle' h4))))] at hQ
  obtain ⟨c1, c2⟩ := clamp_ge (v := l) (a := 0) (by omega) h
  have c3 := clamp_lt (v := l) (b := 2) (by omega) (fun q => h2 (l3.mpr q))
  refine ⟨z, iF, aI, aL, wS W, rfl, rfl, hS, hB.1, fun hr => br_nf rfl ?_, fun hr => br_nt n10 ?_⟩
  · rw [if_pos hr] at hQ; exact hQ
  · rw [if_neg hr] at hQ
    refine And.intro (fun h5 => ?_) (fun h5 => ?_)
    · rw [if_neg (show ¬ w = 0 from h5)] at hQ
      exact ⟨z, iF, aI, aL, wS W, l.toNatClampNeg, rfl, (by rw [← c2]), hS, hD, hr, c3, hQ⟩
    · rw [if_pos (show w = 0 from h5)] at hQ
      refine ⟨z, iF, aI, aL, wS W, l.toNatClampNeg, rds (sN (wS W)), rfl, (by show [Value.ref 14, .int (iF 14 1), .int l] = _; rw [hD.2.1, ← c2]), hS, hD, hr, c3, Pm_rds hn, ?_⟩
      exact ⟨led (wS W) l.toNatClampNeg (rds (sN (wS W))), sN (wS W), (led_Pm (Pm_rds hn)).lt24 hn, hn, (by show [_, Value.int (iF 1 0)] = _; rw [hB.1.1]), hQ⟩
def zX10_falseHead : Spc := fun As g Q => ∃ i, amc [i] (aFH i) As g Q
theorem tX10_falseHead : Ok 3 yX10_falseHead cX10_falseHead 2 (some .int) zX10_falseHead := by
  refine ok_all fun As g Q h => ?_
  obtain ⟨i, z, iF, aI, aL, W, K, rfl, rfl, hW, hI, hK, hQ⟩ := h
  refine at0 100 (by decide) rfl sX10_falseHead (nl (n := 2) rfl rfl rfl) ?_
  have hB := hI.1
  have hD := hB.2.2.2.2.2.2.1
  have hS := hW.1
  unfold aFH at hQ
  simp only [] at hQ
  refine ⟨z, iF, aI, aL, wS W, rfl, rfl, hS, hB.1, fun hr => br_nf rfl ?_, fun hr => br_nt n10 ?_⟩
  · rw [if_pos hr] at hQ
    exact hQ z iF aI aL rfl (FC.refl _ _) (hI.K (by omega))
  · rw [if_neg hr] at hQ
    obtain ⟨a, ⟨kn, k1, k2⟩, ⟨fl, s1, s2⟩, d, e⟩ := hI
    refine ⟨z, iF, aI, aL, wS W, kn, rfl, rfl, hS, hD, k1, k2, fun q x y q3 hF => ?_⟩
    have hQ := hQ z (up1 iF 20 q) (up1 (up1 aI 21 y) 22 x) aL rfl (((FC.refl iF aI).fld 20 (by omega) q).arr 21 (by omega) y |>.arr 22 (by omega) x) ⟨a.of (fun k q1 _ => up1_n _ _ (by omega)) (fun k q1 _ => (up1_n _ _ (by omega)).trans (up1_n aI _ (by omega))), ⟨true, q3, fun _ => hF⟩, ⟨fl, by omega, s2.of s2.1 rfl rfl rfl rfl rfl rfl⟩, d.of (by omega) rfl rfl rfl, e.of (by omega) rfl rfl rfl⟩
    obtain ⟨len, f, hN, f1, f2, f3⟩ := hF.ans hS
    unfold fhA at hQ
    refine And.intro (fun h => ?_) (fun h => ?_)
    · rw [if_neg (show ¬ i = -1 from h)] at hQ
      refine ⟨z, _, _, aL, len, f, i, rfl, rfl, hN, fun j hj e1 => ?_, fun hno => ?_⟩
      · rw [e1, f2 j hj] at hQ; exact hQ
      · rw [f3 i hno] at hQ; exact hQ
    · rw [if_pos (show i = -1 from h), f1] at hQ
      show Q (some (.int (q 2))) _
      rw [show q 2 = nI len from hN.1]
      exact hQ
def zX10_reached : Spc := fun As g Q => ∃ v, amc [v] (aReached v) As g Q
theorem tX10_reached : Ok 5 yX10_reached cX10_reached 2 (some .int) zX10_reached := by
  refine ok_all fun As g Q h => ?_
  obtain ⟨v, z, iF, aI, aL, W, K, rfl, rfl, hW, hI, hK, hQ⟩ := h
  refine at0 100 (by decide) rfl sX10_reached (nl (n := 2) rfl rfl rfl) ?_
  have hB := hI.1
  have hD := hB.2.2.2.2.2.2.1
  have hS := hW.1
  unfold aReached ansReached at hQ
  simp only [] at hQ
  have no : v < 1 ∨ 7 < v → Q (some (.int (-2))) (Cg z iF aI aL) := fun h => by
    rw [if_pos h] at hQ
    exact hQ z iF aI aL rfl (FC.refl _ _) (hI.K (by omega))
  refine br_c (fun h => no (Or.inl h)) (fun h => br_c (fun h2 => ?_) (fun h2 => no (Or.inr (nle h2))))
  rw [if_neg (fun q => q.elim h (nle' h2))] at hQ
  obtain ⟨c1, c2⟩ := clamp_ge (v := v) (a := 1) (by omega) h
  have c3 := clamp_lt (v := v) (b := 7) (by omega) (nle' h2)
  refine ⟨z, iF, aI, aL, wS W, rfl, rfl, hS, hB.1, fun hr => br_t rfl ?_, fun hr => br_f n10 ?_⟩
  · rw [if_pos hr] at hQ
    exact hQ z iF aI aL rfl (FC.refl _ _) (hI.K (by omega))
  · rw [if_neg hr] at hQ
    obtain ⟨fl, s1, s2⟩ := hI.2.2.1
    exact ⟨z, iF, aI, aL, wS W, v.toNatClampNeg, fl, rfl, (by rw [← c2]), hS, hD, hr, (by omega), s2, (by omega), fun z' iF' aI' aL' fl' y1 y2 y3 => hQ z' iF' aI' aL' y2.1 y2.FC (hI.sf y2 y3 (by omega))⟩
theorem nI_ne1 {i : Nat} (h : i < 2 ^ 31) : ¬ nI i = -1 := by
  intro q
  have := congrArg Int32.toInt q
  rw [nI_toInt h] at this
  have e6 : (-1 : Int32).toInt = -1 := by decide
  omega
def zX10_by : Spc := fun As g Q => ∃ v i, amc [v, i] (aBy v i) As g Q
theorem tX10_by : Ok 5 yX10_by cX10_by 5 (some .int) zX10_by := by
  refine ok_all fun As g Q h => ?_
  obtain ⟨v, i, z, iF, aI, aL, W, K, rfl, rfl, hW, hI, hK, hQ⟩ := h
  refine at0 100 (by decide) rfl sX10_by (nl (n := 3) rfl rfl rfl) ?_
  have hB := hI.1
  have hD := hB.2.2.2.2.2.2.1
  have hS := hW.1
  have hn := hS.1.2
  have ans : ∀ r z' iF' aI' aL', isBy (wS W) v i r → z'.1 = z.1 → FC iF aI iF' aI' → CIv W (K + 1000) z' iF' aI' aL' → Q (some (.int r)) (Cg z' iF' aI' aL') := fun r z' iF' aI' aL' hr y1 y2 y3 => by
    rw [isBy_eps hS hr]
    exact hQ z' iF' aI' aL' y1 y2 y3
  have ans0 : ∀ r, isBy (wS W) v i r → Q (some (.int r)) (Cg z iF aI aL) := fun r hr => ans r z iF aI aL hr rfl (FC.refl _ _) (hI.K (by omega))
  refine ⟨sN (wS W), v, (by show [Value.int v, .int (iF 1 0)] = _; rw [hB.1.1]), hS.1.1, hn, fun w hw hv => ?_, fun hno => br_nf rfl (ans0 (-2) (Or.inl ⟨hno, rfl⟩))⟩
  have hP := (hw.row hn).1
  have h24 := hP.lt24 hn
  refine br_nt (nI_ne1 (by omega)) ?_
  refine ⟨z, iF, aI, aL, wS W, rfl, rfl, hS, hB.1, fun hr => br_nf rfl (ans0 (-3) (Or.inr ⟨w, hw, hv, Or.inl ⟨hr, rfl⟩⟩)), fun hr => br_nt n10 ?_⟩
  obtain ⟨fl, s1, s2⟩ := hI.2.2.1
  refine ⟨z, iF, aI, aL, wS W, ofN (sN (wS W)) w, fl, rfl, rfl, hS, hD, hr, h24, s2, (by omega), fun z' iF' aI' aL' fl' y1 y2 y3 => ⟨fun hno => ?_, fun e he hex => ?_⟩⟩
  · have a := ans (-6) z' iF' aI' aL' (Or.inr ⟨w, hw, hv, Or.inr ⟨hr, Or.inl ⟨hno, rfl⟩⟩⟩) y2.1 y2.FC (hI.sf y2 y3.SS (by omega))
    exact br_c (fun _ => a) (fun _ => br_nf rfl a)
  · have hdl := dep_lt hS he
    have hD' : LD iF' aI' (wS W) := hD.of (y2.2.2.1 14 (by omega) (by omega)) (y2.2.2.2 15 (by omega) (by omega) (by omega) (by omega)).1 ⟨rfl, rfl, rfl, rfl⟩
    have fin : ∀ r, ((i = -1 ∧ r = nI e.2.2.2) ∨ (i ≠ -1 ∧ ((∃ d, d < e.2.2.2 ∧ i = nI d ∧ r = nI (anc (BFS (wS W) 7) e (e.2.2.2 - 1 - d)).2.2.1) ∨ ((∀ d, d < e.2.2.2 → i ≠ nI d) ∧ r = -6)))) → Q (some (.int r)) (Cg z' iF' aI' aL') := fun r hc => ans r z' iF' aI' aL' (Or.inr ⟨w, hw, hv, Or.inr ⟨hr, Or.inr ⟨e, he, hex, hc⟩⟩⟩) y2.1 y2.FC (hI.sf y2 y3.SS (by omega))
    refine br_c (fun q => fin _ (Or.inl ⟨q, rfl⟩)) (fun q => br_nt (nI_ne6 (by omega)) (br_c (fun q2 => ?_) (fun q2 => br_c (fun q3 => ?_) (fun q3 => ?_))))
    · refine fin (-6) (Or.inr ⟨q, Or.inr ⟨fun d hd ed => ?_, rfl⟩⟩)
      have q2 : i < 0 := q2
      rw [ed] at q2
      exact nI_ge0 (by omega) q2
    · refine fin (-6) (Or.inr ⟨q, Or.inr ⟨fun d hd ed => ?_, rfl⟩⟩)
      have q3 : nI e.2.2.2 ≤ i := q3
      rw [ed] at q3
      exact absurd ((nI_leI (by omega) (by omega)).mp q3) (by omega)
    · obtain ⟨c1, c2⟩ := clamp_ge (v := i) (a := 0) (by omega) q2
      have c3 : i.toNatClampNeg < e.2.2.2 := by
        have q3 : ¬ nI e.2.2.2 ≤ i := q3
        rw [c2] at q3
        exact Classical.byContradiction fun r => q3 ((nI_leI (by omega) (by have := Int32.toNatClampNeg_lt i; omega)).mpr (by omega))
      have eI : nI e.2.2.2 - 1 - i = nI (e.2.2.2 - 1 - i.toNatClampNeg) := by
        conv => lhs; rw [c2]
        rw [show (1 : Int32) = nI 1 from rfl, nx_sub (by omega), nx_sub (by omega)]
      refine ⟨z', iF', aI', aL', wS W, fl', e, e.2.2.2 - 1 - i.toNatClampNeg, rfl, (by show [Value.ref 23, .ref 14, .int (nI (ofN (sN (wS W)) w)), .int (nI e.2.2.2 - 1 - i)] = _; rw [eI, hex]), hS, hD', hr, y3, he, (by omega), fin _ (Or.inr ⟨q, Or.inl ⟨i.toNatClampNeg, c3, c2, rfl⟩⟩)⟩
def zX10_longest : Spc := fun As g Q => ∃ v i, amc [v, i] (aLong v i) As g Q
theorem tX10_longest : Ok 5 yX10_longest cX10_longest 5 (some .int) zX10_longest := by
  refine ok_all fun As g Q h => ?_
  obtain ⟨v, i, z, iF, aI, aL, W, K, rfl, rfl, hW, hI, hK, hQ⟩ := h
  refine at0 100 (by decide) rfl sX10_longest (nl (n := 3) rfl rfl rfl) ?_
  have hB := hI.1
  have hD := hB.2.2.2.2.2.2.1
  have hS := hW.1
  have hc := hS.2.1.1
  unfold aLong ansLong at hQ
  simp only [] at hQ
  have no : v < 1 ∨ 5 < v → Q (some (.int (-2))) (Cg z iF aI aL) := fun h => by
    rw [if_pos h] at hQ
    exact hQ z iF aI aL rfl (FC.refl _ _) (hI.K (by omega))
  refine br_c (fun h => no (Or.inl h)) (fun h => br_c (fun h2 => ?_) (fun h2 => no (Or.inr (nle h2))))
  rw [if_neg (fun q => q.elim h (nle' h2))] at hQ
  obtain ⟨c1, c2⟩ := clamp_ge (v := v) (a := 1) (by omega) h
  have c3 := clamp_lt (v := v) (b := 5) (by omega) (nle' h2)
  refine ⟨z, iF, aI, aL, wS W, rfl, rfl, hS, hB.1, fun hr => br_nf rfl ?_, fun hr => br_nt n10 ?_⟩
  · rw [if_pos hr] at hQ
    exact hQ z iF aI aL rfl (FC.refl _ _) (hI.K (by omega))
  · rw [if_neg hr] at hQ
    obtain ⟨c30, fl, f1, f2⟩ := hI.2.2.2.2
    have hLk : Lok z.2 := by obtain ⟨fl, -, q⟩ := hI.2.2.1; exact q.1
    refine ⟨z, iF, aI, aL, wS W, v.toNatClampNeg, c30, fl, rfl, (by rw [← c2]), hS, hD, hr, c1, c3, hLk, f2, (by omega), fun x z' iF' aI' aL' c' fl' y1 y2 y3 => ?_⟩
    have hQ := hQ z' iF' aI' aL' y1.1 (((FC.refl iF aI).arr 29 (by omega) x).trans (y1.FC (by omega))) ((hI.a29 x).tf30 y1 y3 (by omega))
    obtain ⟨d1, d2, d3⟩ := lgP_le (wS W) v.toNatClampNeg
    rw [d3 i] at hQ
    generalize (lgP (wS W) v.toNatClampNeg).1 = d at d1 d2 hQ ⊢
    generalize (lgP (wS W) v.toNatClampNeg).2 = w at d2 hQ ⊢
    have ei1 : iF' 1 2 = nI (sC (wS W)).length := by rw [y1.2.2.2.1 1 (by omega)]; exact hB.1.2.1
    refine ⟨z', iF', aI', aL', d, w, rfl, (by omega), d2, rfl, pk_ne d 0 (fun h0 => ?_) (fun h0 => ?_)⟩
    · rw [if_neg h0] at hQ
      unfold lgW at hQ
      refine And.intro (fun q => ?_) (fun q => ?_)
      · rw [if_neg (show ¬ i = -1 from q)] at hQ
        have ed : nI d - 1 = nI (d - 1) := by rw [show (1 : Int32) = nI 1 from rfl, nx_sub (by omega)]
        rw [ed] at hQ
        refine br_c (fun q2 => ?_) (fun q2 => br_c (fun q3 => ?_) (fun q3 => ?_))
        · rw [if_pos (Or.inl q2)] at hQ; exact hQ
        · have q3 : nI d ≤ i := q3
          rw [if_pos (Or.inr ?_)] at hQ
          · exact hQ
          · rw [Int32.lt_iff_toInt_lt, nI_toInt (by omega)]
            rw [Int32.le_iff_toInt_le, nI_toInt (by omega)] at q3
            omega
        · have q3 : ¬ nI d ≤ i := q3
          have q4 : ¬ nI (d - 1) < i := by
            rw [Int32.lt_iff_toInt_lt, nI_toInt (by omega)]
            rw [Int32.le_iff_toInt_le, nI_toInt (by omega)] at q3
            omega
          rw [if_neg (fun y => y.elim q2 q4)] at hQ
          obtain ⟨i1, i2⟩ := clamp_ge (v := i) (a := 0) (by omega) q2
          have i3 := clamp_lt (v := i) (b := d - 1) (by omega) q4
          have eI : nI d - 1 - i = nI (d - 1 - i.toNatClampNeg) := by
            conv => lhs; rw [i2]
            rw [ed, nx_sub (by omega)]
          exact ⟨z', iF', aI', aL', d, w, d - 1 - i.toNatClampNeg, rfl, (by omega), d2, (by omega), (by show [Value.ref 28, .int (nI (fd d + w)), .int (nI d - 1 - i)] = _; rw [eI]), hQ⟩
      · rw [if_pos (show i = -1 from q), ← nx_mul, ← ei1] at hQ
        exact hQ
    · rw [if_pos h0] at hQ
      exact hQ

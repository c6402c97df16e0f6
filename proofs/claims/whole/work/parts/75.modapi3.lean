/-! the reference's calls, third part -/
theorem fstI_cases {P : Nat → Bool} : ∀ (k i : Nat), fstI P i k = -6 ∨ ∃ j, i ≤ j ∧ j < i + k ∧ fstI P i k = nI j
  | 0, i => Or.inl rfl
  | k + 1, i => by
    unfold fstI
    split
    · exact Or.inr ⟨i, (by omega), (by omega), rfl⟩
    · rcases fstI_cases (P := P) k (i + 1) with h | ⟨j, h1, h2, h3⟩
      · exact Or.inl h
      · exact Or.inr ⟨j, (by omega), (by omega), h3⟩
def zX11_told : Spc := fun As g Q => ∃ v, amq [v] (aTold v) As g Q
theorem tX11_told : Ok 3 yX11_told cX11_told 2 (some .int) zX11_told := by
  refine ok_all fun As g Q h => ?_
  obtain ⟨v, L, iF, aI, aL, W, sr, rfl, rfl, hW, hR, hsr, hQ⟩ := h
  refine at0 60 (by decide) rfl sX11_told (nl (n := 2) rfl rfl rfl) ?_
  unfold aTold at hQ
  refine ⟨v, 0, 6, rfl, fun h => br_nf rfl ?_, fun h => br_nt n10 ?_⟩
  · rw [if_pos h] at hQ
    exact hQ iF aI sr (FM.refl _ _) (by omega) hR
  · rw [if_neg h] at hQ
    refine ⟨L, iF, aI, aL, wS W, rfl, rfl, hR.1, hW.1, ?_⟩
    refine And.intro (fun h => ?_) (fun h => ?_)
    · have h : rdy (wS W) = true := (i2 rfl).mp h
      rw [if_neg (by rw [h]; decide)] at hQ
      have hT := tln_le hW.1
      refine ⟨L, iF, aI, aL, wS W, rfl, rfl, hR.1, hW.1, fun f r hr => ?_⟩
      have e15 : nI (tln (wS W) + 1) - 1 = nI (tln (wS W)) := by rw [show (1 : Int32) = nI 1 from rfl, nx_sub (by omega)]; rfl
      have hF : FM iF aI (up1 iF 32 (up1 (iF 32) 15 (nI (tln (wS W) + 1)))) (up1 (up1 aI 38 f) 40 r) := ((FM.refl _ _).fld _).arr 38 (by omega) _ |>.arr 40 (by omega) _
      have hR1 : RM W sr (up1 iF 32 (up1 (iF 32) 15 (nI (tln (wS W) + 1)))) (up1 (up1 aI 38 f) 40 r) := hR.of (fun k h1 h2 => by rw [up1_n _ _ (by omega), up1_n _ _ (by omega)]) rfl hR.2.2.2.1 hR.2.2.2.2.1
      have hQ1 := hQ _ _ sr hF (by omega) hR1
      unfold tol at hQ hQ1
      refine br_c (fun h => ?_) (fun h => br_c (fun h2 => ?_) (fun h2 => br_c (fun h3 => ?_) (fun h3 => br_c (fun h4 => ?_) (fun h4 => br_c (fun h5 => ?_) (fun h5 => br_c (fun h6 => ?_) (fun h6 => ?_))))))
      · rw [if_pos (show v = 0 from h)] at hQ1
        show Q (some (.int (nI (tln (wS W) + 1) - 1))) _
        rw [e15]; exact hQ1
      · rw [if_neg (show ¬ v = 0 from h), if_pos (show v = 1 from h2)] at hQ1
        refine ⟨L, _, _, aL, sN (wS W), tln (wS W), trw (wS W), rfl, rfl, hW.1.1.2, trw_Pm hW.1, hr, hT, rfl, ?_⟩
        rcases fstI_cases (P := isF (trw (wS W))) (tln (wS W)) 1 with z | ⟨j, z1, z2, z⟩
        · rw [if_pos z] at hQ1
          rw [z]
          exact br_f (c := (0 : Int32) ≤ -6) (by decide) hQ1
        · rw [if_neg (by
            rw [z]; intro q
            have := congrArg Int32.toInt q
            rw [nI_toInt (by omega)] at this
            have e6 : (-6 : Int32).toInt = -6 := by decide
            omega)] at hQ1
          rw [z]
          exact br_t ((nI_leI (a := 0) (by omega) (by omega)).mpr (Nat.zero_le j)) hQ1
      · rw [if_neg (show ¬ v = 0 from h), if_neg (show ¬ v = 1 from h2), if_pos (show v = 2 from h3)] at hQ1
        exact ⟨L, _, _, aL, sN (wS W), tln (wS W), trw (wS W), rfl, rfl, hW.1.1.2, trw_Pm hW.1, hr, hT, rfl, hQ1⟩
      · rw [if_neg (show ¬ v = 0 from h), if_neg (show ¬ v = 1 from h2), if_neg (show ¬ v = 2 from h3), if_pos (show v = 3 from h4)] at hQ1
        exact ⟨L, _, _, aL, sN (wS W), tln (wS W), trw (wS W), rfl, rfl, hW.1.1.2, trw_Pm hW.1, hr, hT, rfl, hQ1⟩
      · rw [if_neg (show ¬ v = 0 from h), if_neg (show ¬ v = 1 from h2), if_neg (show ¬ v = 2 from h3), if_neg (show ¬ v = 3 from h4), if_pos (show v = 4 from h5)] at hQ1
        exact ⟨L, _, _, aL, sN (wS W), tln (wS W), trw (wS W), rfl, rfl, hW.1.1.2, trw_Pm hW.1, hr, hT, rfl, hQ1⟩
      · rw [if_neg (show ¬ v = 0 from h), if_neg (show ¬ v = 1 from h2), if_neg (show ¬ v = 2 from h3), if_neg (show ¬ v = 3 from h4), if_neg (show ¬ v = 4 from h5), if_pos (show v = 5 from h6)] at hQ
        refine ⟨L, _, _, aL, sN (wS W), tln (wS W), trw (wS W), rfl, rfl, hW.1.1.1, hW.1.1.2, hR.1.1, trw_Pm hW.1, hr, hT, rfl, fun f2 u => ?_⟩
        exact hQ _ _ sr ((hF.arr 38 (by omega) _).arr 39 (by omega) _) (by omega) (hR1.of (fun k h1 h2 => by rw [up1_n _ _ (by omega), up1_n _ _ (by omega)]) rfl hR.2.2.2.1 hR.2.2.2.2.1)
      · rw [if_neg (show ¬ v = 0 from h), if_neg (show ¬ v = 1 from h2), if_neg (show ¬ v = 2 from h3), if_neg (show ¬ v = 3 from h4), if_neg (show ¬ v = 4 from h5), if_neg (show ¬ v = 5 from h6)] at hQ1
        refine And.intro (in85' (k := 44) (by omega)) ?_
        show Q (some (.int (aI 33 44))) _
        rw [hR.1.2.2.2.2.2.1]
        exact hQ1
    · have h : rdy (wS W) = false := (i1 rfl).mp h
      rw [if_pos h] at hQ
      exact hQ iF aI sr (FM.refl _ _) (by omega) hR
def zX11_bell : Spc := fun As g Q => ∃ b i w, amq [b, i, w] (aBell b i w) As g Q
theorem tX11_bell : Ok 4 yX11_bell cX11_bell 4 (some .int) zX11_bell := by
  refine ok_all fun As g Q h => ?_
  obtain ⟨b, v, w, L, iF, aI, aL, W, sr, rfl, rfl, hW, hR, hsr, hQ⟩ := h
  refine at0 80 (by decide) rfl sX11_bell (nl (n := 4) rfl rfl rfl) ?_
  unfold aBell at hQ
  refine And.intro in85 ⟨b, 1, aI 33 0, rfl, fun h => br_nf rfl ?_, fun h => br_nt n10 ?_⟩
  · rw [hR.1.1] at h
    rw [if_pos h] at hQ
    exact hQ iF aI sr (FM.refl _ _) (by omega) hR
  · rw [hR.1.1] at h
    rw [if_neg h] at hQ
    obtain ⟨b1, b2⟩ := clamp_ge (v := b) (a := 1) (by omega) (fun q => h (Or.inl q))
    have b3 := clamp_lt (v := b) (b := sN (wS W)) (by have := hW.1.1.2; omega) (fun q => h (Or.inr q))
    refine ⟨w, 0, 3, rfl, fun h => br_nf rfl ?_, fun h => br_nt n10 ?_⟩
    · rw [if_pos h] at hQ
      exact hQ iF aI sr (FM.refl _ _) (by omega) hR
    · rw [if_neg h] at hQ
      obtain ⟨w1, w2⟩ := clamp_ge (v := w) (a := 0) (by omega) (fun q => h (Or.inl q))
      have w3 := clamp_lt (v := w) (b := 3) (by omega) (fun q => h (Or.inr q))
      refine ⟨L, iF, aI, aL, wS W, rfl, rfl, hR.1, hW.1, ?_⟩
      refine And.intro (fun h => ?_) (fun h => ?_)
      · have h : rdy (wS W) = true := (i2 rfl).mp h
        rw [if_neg (by rw [h]; decide)] at hQ
        have hT := tln_le hW.1
        refine ⟨L, iF, aI, aL, wS W, rfl, rfl, hR.1, hW.1, fun f r hr => ?_⟩
        have e15 : nI (tln (wS W) + 1) - 1 = nI (tln (wS W)) := by rw [show (1 : Int32) = nI 1 from rfl, nx_sub (by omega)]; rfl
        have hF : FM iF aI (up1 iF 32 (up1 (iF 32) 15 (nI (tln (wS W) + 1)))) (up1 (up1 aI 38 f) 40 r) := ((FM.refl _ _).fld _).arr 38 (by omega) _ |>.arr 40 (by omega) _
        have hR1 : RM W sr (up1 iF 32 (up1 (iF 32) 15 (nI (tln (wS W) + 1)))) (up1 (up1 aI 38 f) 40 r) := hR.of (fun k h1 h2 => by rw [up1_n _ _ (by omega), up1_n _ _ (by omega)]) rfl hR.2.2.2.1 hR.2.2.2.2.1
        have hpl : ∀ i, plc (sN (wS W)) (trw (wS W) i) (b.toNatClampNeg - 1) < sN (wS W) ∧ dg (trw (wS W) i) (plc (sN (wS W)) (trw (wS W) i) (b.toNatClampNeg - 1)) + 1 = b.toNatClampNeg := fun i => by
          obtain ⟨z1, z2⟩ := plc_spec (n := sN (wS W)) (x := trw (wS W) i) (v := b.toNatClampNeg - 1) (trw_Pm hW.1 i) (by omega)
          exact ⟨z1, (by omega)⟩
        refine br_c (fun h => ?_) (fun h => ?_)
        · have h : w ≤ 0 := h
          rw [w2] at h
          have h := (nI_leI (b := 0) (by omega) (by omega)).mp h
          rw [if_pos (show w = 0 by rw [w2, show w.toNatClampNeg = 0 by omega]; rfl)] at hQ
          refine ⟨v, 0, nI (tln (wS W) + 1) - 1, rfl, fun h2 => br_t rfl ?_, fun h2 => br_f n10 ?_⟩
          · rw [e15] at h2
            rw [if_pos h2] at hQ
            exact hQ _ _ sr hF (by omega) hR1
          · rw [e15] at h2
            rw [if_neg h2] at hQ
            obtain ⟨c1, c2⟩ := clamp_ge (v := v) (a := 0) (by omega) (fun q => h2 (Or.inl q))
            have c3 := clamp_lt (v := v) (b := tln (wS W)) (by omega) (fun q => h2 (Or.inr q))
            refine ⟨L, _, _, aL, sN (wS W), tln (wS W), trw (wS W), v.toNatClampNeg, b.toNatClampNeg, _, rfl, (by rw [← b2, ← c2]), hW.1.1.1, hW.1.1.2, hR.1.1, trw_Pm hW.1, hr, hT, c3, (hpl _).1, (hpl _).2, fun f2 u => ?_⟩
            exact hQ _ _ sr ((hF.arr 38 (by omega) _).arr 39 (by omega) _) (by omega) (hR1.of (fun k h1 h2 => by rw [up1_n _ _ (by omega), up1_n _ _ (by omega)]) rfl hR.2.2.2.1 hR.2.2.2.2.1)
        · have h : ¬ w ≤ 0 := h
          rw [w2] at h
          have h : ¬ w.toNatClampNeg ≤ 0 := fun q => h ((nI_leI (b := 0) (by omega) (by omega)).mpr q)
          rw [if_neg (show ¬ w = 0 from fun q => h (by rw [q]; decide))] at hQ
          refine ⟨L, _, _, aL, sN (wS W), tln (wS W), trw (wS W), b.toNatClampNeg, w.toNatClampNeg, _, rfl, (by rw [← b2, ← w2]), hW.1.1.1, hW.1.1.2, hR.1.1, trw_Pm hW.1, hr, hT, rfl, (by omega), w3, fun i _ => hpl i, fun f2 u => ?_⟩
          exact hQ _ _ sr ((hF.arr 38 (by omega) _).arr 39 (by omega) _) (by omega) (hR1.of (fun k h1 h2 => by rw [up1_n _ _ (by omega), up1_n _ _ (by omega)]) rfl hR.2.2.2.1 hR.2.2.2.2.1)
      · have h : rdy (wS W) = false := (i1 rfl).mp h
        rw [if_pos h] at hQ
        exact hQ iF aI sr (FM.refl _ _) (by omega) hR
def zX11_head : Spc := fun As g Q => ∃ l w, amq [l, w] (aHead l w) As g Q
theorem tX11_head : Ok 4 yX11_head cX11_head 3 (some .int) zX11_head := by
  refine ok_all fun As g Q h => ?_
  obtain ⟨l, w, L, iF, aI, aL, W, sr, rfl, rfl, hW, hR, hsr, hQ⟩ := h
  refine at0 80 (by decide) rfl sX11_head (nl (n := 3) rfl rfl rfl) ?_
  unfold aHead at hQ
  refine ⟨l, 0, 2, rfl, fun h => br_t rfl ?_, fun h => br_f n10 ⟨w, 0, 1, rfl, fun h2 => br_nf rfl ?_, fun h2 => br_nt n10 ?_⟩⟩
  · rw [if_pos (by rcases h with z | z; exact Or.inl z; exact Or.inr (Or.inl z))] at hQ
    exact hQ iF aI sr (FM.refl _ _) (by omega) hR
  · rw [if_pos (by rcases h2 with z | z; exact Or.inr (Or.inr (Or.inl z)); exact Or.inr (Or.inr (Or.inr z)))] at hQ
    exact hQ iF aI sr (FM.refl _ _) (by omega) hR
  · rw [if_neg (by rintro (z | z | z | z); exact h (Or.inl z); exact h (Or.inr z); exact h2 (Or.inl z); exact h2 (Or.inr z))] at hQ
    obtain ⟨l1, l2⟩ := clamp_ge (v := l) (a := 0) (by omega) (fun q => h (Or.inl q))
    have l3 := clamp_lt (v := l) (b := 2) (by omega) (fun q => h (Or.inr q))
    obtain ⟨w1, w2⟩ := clamp_ge (v := w) (a := 0) (by omega) (fun q => h2 (Or.inl q))
    have w3 := clamp_lt (v := w) (b := 1) (by omega) (fun q => h2 (Or.inr q))
    have hc := hW.1.2.1.1
    have hn8 := hW.1.1.2
    refine And.intro (in85' (k := 1) (by omega)) (And.intro (fun h3 => ?_) (fun h3 => ?_))
    · have h3 : ¬ aI 33 1 = 0 := h3
      rw [hR.1.2.1] at h3
      have h3 : ¬ (sC (wS W)).length = 0 := fun q => h3 (by rw [q]; rfl)
      rw [if_neg h3] at hQ
      refine And.intro (fun h4 => ?_) (fun h4 => ?_)
      · have h4 : ¬ w = 1 := h4
        have e : w = 0 := by
          rw [w2] at h4
          have : ¬ w.toNatClampNeg = 1 := fun q => h4 (by rw [q]; rfl)
          rw [w2, show w.toNatClampNeg = 0 by omega]; rfl
        rw [if_pos e] at hQ
        refine ⟨L, iF, aI, aL, rfl, rfl, fun f hf => ?_⟩
        refine ⟨L, _, _, aL, wS W, l.toNatClampNeg, rds (sN (wS W)), rfl, (by rw [← l2]), hR.1, hW.1, l3, fun p hp => ?_, fun f2 hf2 => ?_⟩
        · show f (p + 1) = _
          rw [dg_rds hn8 hp]; exact hf p (by omega)
        · refine ⟨L, _, _, aL, sN (wS W), _, rfl, rfl, hn8, hR.1.1, hf2, ?_⟩
          exact hQ _ _ sr (((FM.refl _ _).arr 38 (by omega) _).arr 38 (by omega) _) (by omega) (hR.of (fun k h1 h2 => by rw [up1_n _ _ (by omega), up1_n _ _ (by omega)]) rfl hR.2.2.2.1 hR.2.2.2.2.1)
      · have h4 : w = 1 := h4
        rw [if_neg (by rw [h4]; decide)] at hQ
        obtain ⟨o1, o2, o3, o4⟩ := ord_spec hW.1 l.toNatClampNeg
        have := fct_le _ hn8
        refine ⟨L, iF, aI, aL, wS W, l.toNatClampNeg, ord (wS W) l.toNatClampNeg, rfl, (by rw [← l2]), hR.1, hW.1, l3, o1, (by omega), o3, o4, fun f => ?_⟩
        exact hQ _ _ sr ((FM.refl _ _).arr 38 (by omega) _) (by omega) (hR.of (fun k h1 h2 => by rw [up1_n _ _ (by omega)]) rfl hR.2.2.2.1 hR.2.2.2.2.1)
    · have h3 : aI 33 1 = 0 := h3
      rw [hR.1.2.1] at h3
      have h3 := (nI_eq (b := 0) (by omega) (by omega)).mp h3
      rw [if_pos h3] at hQ
      exact hQ iF aI sr (FM.refl _ _) (by omega) hR
def zX11_falseHead : Spc := fun As g Q => ∃ v, amq [v] (aFH v) As g Q
theorem tX11_falseHead : Ok 4 yX11_falseHead cX11_falseHead 4 (some .int) zX11_falseHead := by
  refine ok_weak (fun As g Q h => ?_) oX11_falseHead
  obtain ⟨v, L, iF, aI, aL, W, sr, rfl, rfl, hW, hR, hsr, hQ⟩ := h
  exact ⟨L, iF, aI, aL, wS W, sr, v, rfl, rfl, hR.1, hW.1, (by omega), hR.2.2.2.1, hR.2.2.2.2.1, hR.qry hQ⟩
def zX11_reached : Spc := fun As g Q => ∃ v, amq [v] (aReached v) As g Q
theorem tX11_reached : Ok 5 yX11_reached cX11_reached 2 (some .int) zX11_reached := by
  refine ok_weak (fun As g Q h => ?_) oX11_reached
  obtain ⟨v, L, iF, aI, aL, W, sr, rfl, rfl, hW, hR, hsr, hQ⟩ := h
  exact ⟨L, iF, aI, aL, wS W, sr, v, rfl, rfl, hR.1, hW.1, (by omega), hR.2.2.2.1, hR.2.2.2.2.1, hR.qry hQ⟩
def zX11_by : Spc := fun As g Q => ∃ v i, amq [v, i] (aBy v i) As g Q
theorem tX11_by : Ok 5 yX11_by cX11_by 5 (some .int) zX11_by := by
  refine ok_weak (fun As g Q h => ?_) oX11_by
  obtain ⟨v, i, L, iF, aI, aL, W, sr, rfl, rfl, hW, hR, hsr, hQ⟩ := h
  refine ⟨L, iF, aI, aL, wS W, sr, v, i, rfl, rfl, hR.1, hW.1, (by omega), hR.2.2.2.1, hR.2.2.2.2.1, fun r hr => ?_⟩
  rw [isBy_eps hW.1 hr]
  exact hR.qry hQ
def zX11_longest : Spc := fun As g Q => ∃ v i, amq [v, i] (aLong v i) As g Q
theorem tX11_longest : Ok 4 yX11_longest cX11_longest 5 (some .int) zX11_longest := by
  refine ok_weak (fun As g Q h => ?_) oX11_longest
  obtain ⟨v, i, L, iF, aI, aL, W, sr, rfl, rfl, hW, hR, hsr, hQ⟩ := h
  exact ⟨L, iF, aI, aL, wS W, sr, v, i, rfl, rfl, hR.1, hW.1, (by omega), hR.2.2.2.1, hR.2.2.2.2.1, hR.qry hQ⟩

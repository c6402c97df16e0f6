/-! the reference's calls, second half -/
def zX11_change : Spc := fun As g Q => ∃ v, amq [v] (aChange v) As g Q
theorem tX11_change : Ok 1 yX11_change cX11_change 2 (some .int) zX11_change := by
  refine ok_all fun As g Q h => ?_
  obtain ⟨v, L, iF, aI, aL, W, sr, rfl, rfl, hW, hR, hsr, hQ⟩ := h
  refine at0 60 (by decide) rfl sX11_change_q (nl (n := 2) rfl rfl rfl) ?_
  have hQ := hQ iF aI sr (FM.refl _ _) (by omega) hR
  unfold aChange at hQ
  obtain ⟨r1, r2, r3, r4, r5, r6, r7⟩ := hR.1
  have hc := hW.1.2.1.1
  refine br_c (fun h => ?_) (fun h => ?_)
  · have h : v = -1 := h
    subst h
    rw [if_pos rfl] at hQ
    refine And.intro (in85' (k := 42) (by omega)) ?_
    show Q (some (.int (aI 33 42))) _
    rw [r4]; exact hQ
  · have h : ¬ v = -1 := h
    rw [if_neg h] at hQ
    refine And.intro (fun h2 => ?_) (fun h2 => ?_)
    · have h2 : ¬ v = -2 := h2
      rw [if_neg h2] at hQ
      refine And.intro (in85' (k := 1) (by omega)) ⟨v, 0, aI 33 1 - 1, rfl, fun h3 => br_t rfl ?_, fun h3 => br_f n10 ?_⟩
      · rw [if_pos ?_] at hQ
        · exact hQ
        · rcases h3 with z | z
          · exact Or.inl z
          · right
            rw [r2] at z
            have z := Int32.lt_iff_toInt_lt.mp z
            rw [show (1 : Int32) = nI 1 from rfl, pk_sub_toInt (by omega) (by omega)] at z
            rw [Int32.le_iff_toInt_le, nI_toInt (by omega)]
            omega
      · obtain ⟨c1, c2⟩ := clamp_ge (v := v) (a := 0) (by omega) (fun q => h3 (Or.inl q))
        have c3 : v.toNatClampNeg < (sC (wS W)).length := by
          have z : ¬ aI 33 1 - 1 < v := fun q => h3 (Or.inr q)
          rw [r2] at z
          have z : ¬ (nI (sC (wS W)).length - 1).toInt < v.toInt := fun q => z (Int32.lt_iff_toInt_lt.mpr q)
          rw [show (1 : Int32) = nI 1 from rfl, pk_sub_toInt (by omega) (by omega)] at z
          have : v.toNatClampNeg = v.toInt.toNat := rfl
          have : v.toInt = v.toNatClampNeg := by
            have := congrArg Int32.toInt c2
            rw [nI_toInt (by have := Int32.toInt_lt v; omega)] at this
            exact this
          omega
        have z : ¬ (v < 0 ∨ nI (sC (wS W)).length ≤ v) := by
          rintro (q | q)
          · exact h3 (Or.inl q)
          · rw [c2] at q
            have := (nI_leI (by omega) (by omega)).mp q
            omega
        rw [if_neg z] at hQ
        have e : (2 : Int32) + v = nI (2 + v.toNatClampNeg) := by rw [← nI_add, ← c2]; rfl
        refine And.intro (by rw [e]; exact vp_in_nI (by omega) (by omega)) ?_
        show Q (some (.int (aI 33 (2 + v).toNatClampNeg))) _
        rw [e, cl1 (by omega), r3 _ c3]
        exact hQ
    · have h2 : v = -2 := h2
      subst h2
      rw [if_pos rfl] at hQ
      refine And.intro (in85' (k := 43) (by omega)) ?_
      show Q (some (.int (aI 33 43))) _
      rw [r5]; exact hQ
def zX11_count : Spc := fun As g Q => ∃ v, amq [v] (aCount v) As g Q
theorem tX11_count : Ok 1 yX11_count cX11_count 2 (some .int) zX11_count := by
  refine ok_all fun As g Q h => ?_
  obtain ⟨v, L, iF, aI, aL, W, sr, rfl, rfl, hW, hR, hsr, hQ⟩ := h
  refine at0 80 (by decide) rfl sX11_count_q (nl (n := 2) rfl rfl rfl) ?_
  have hQ := hQ iF aI sr (FM.refl _ _) (by omega) hR
  unfold aCount at hQ
  obtain ⟨r1, r2, r3, r4, r5, r6, r7⟩ := hR.1
  refine br_c (fun h => ?_) (fun h => br_c (fun h2 => ?_) (fun h2 => br_c (fun h3 => ?_) (fun h3 => br_c (fun h4 => ?_) (fun h4 => br_c (fun h5 => ?_) (fun h5 => ?_)))))
  · rw [if_pos (show v = 0 from h)] at hQ
    refine And.intro in85 ?_
    show Q (some (.int (aI 33 0))) _
    rw [r1]; exact hQ
  · rw [if_neg (show ¬ v = 0 from h), if_pos (show v = 1 from h2)] at hQ
    refine And.intro (in85' (k := 1) (by omega)) ?_
    show Q (some (.int (aI 33 1))) _
    rw [r2]; exact hQ
  · rw [if_neg (show ¬ v = 0 from h), if_neg (show ¬ v = 1 from h2), if_pos (show v = 2 from h3)] at hQ
    refine And.intro (in85' (k := 44) (by omega)) ?_
    show Q (some (.int (aI 33 44))) _
    rw [r6]; exact hQ
  · rw [if_neg (show ¬ v = 0 from h), if_neg (show ¬ v = 1 from h2), if_neg (show ¬ v = 2 from h3), if_pos (show v = 3 from h4)] at hQ
    show Q (some (.int (iF 32 4))) _
    rw [hR.2.1]; exact hQ
  · rw [if_neg (show ¬ v = 0 from h), if_neg (show ¬ v = 1 from h2), if_neg (show ¬ v = 2 from h3), if_neg (show ¬ v = 3 from h4), if_pos (show v = 4 from h5)] at hQ
    have k0 := (hR.2.2.2.2.2 0 (by omega)).1
    have k1 := (hR.2.2.2.2.2 1 (by omega)).1
    have k0 : aI 35 0 = b01 W.2.2.1.isSome := k0
    have k1 : aI 35 1 = b01 W.2.2.2.isSome := k1
    unfold ikp at hQ
    have j0 : vp_in 0 2 := vp_in_nI (n := 0) (by omega) (by omega)
    have j1 : vp_in 1 2 := vp_in_nI (n := 1) (by omega) (by omega)
    refine And.intro j0 (br_c (fun z => ?_) (fun z => ?_))
    · have z := (i1 k0).mp z
      rw [z] at hQ
      refine And.intro j1 (br_c (fun y => ?_) (fun y => ?_))
      · have y := (i1 k1).mp y
        rw [y] at hQ
        exact hQ
      · have y := (i2 k1).mp y
        rw [y] at hQ
        exact hQ
    · have z := (i2 k0).mp z
      rw [z] at hQ
      refine And.intro j1 (br_c (fun y => ?_) (fun y => ?_))
      · have y := (i1 k1).mp y
        rw [y] at hQ
        exact hQ
      · have y := (i2 k1).mp y
        rw [y] at hQ
        exact hQ
  · rw [if_neg (show ¬ v = 0 from h), if_neg (show ¬ v = 1 from h2), if_neg (show ¬ v = 2 from h3), if_neg (show ¬ v = 3 from h4), if_neg (show ¬ v = 4 from h5)] at hQ
    exact hQ
def zX11_row : Spc := fun As g Q => ∃ v, amq [v] (aRow v) As g Q
theorem tX11_row : Ok 3 yX11_row cX11_row 2 (some .int) zX11_row := by
  refine ok_all fun As g Q h => ?_
  obtain ⟨v, L, iF, aI, aL, W, sr, rfl, rfl, hW, hR, hsr, hQ⟩ := h
  refine at0 60 (by decide) rfl sX11_row (nl (n := 2) rfl rfl rfl) ?_
  unfold aRow at hQ
  refine ⟨L, iF, aI, aL, wS W, rfl, rfl, hR.1, hW.1, ?_⟩
  refine And.intro (fun h => ?_) (fun h => ?_)
  · have h : rdy (wS W) = true := (i2 rfl).mp h
    rw [if_neg (by rw [h]; decide)] at hQ
    have hT : tln (wS W) ≤ 1600 := by
      have := Nat.mul_le_mul hW.1.2.2.2.2.1 hW.1.2.1.1
      exact this
    refine ⟨L, iF, aI, aL, wS W, rfl, rfl, hR.1, hW.1, fun f r hr => ?_⟩
    have e15 : nI (tln (wS W) + 1) - 1 = nI (tln (wS W)) := by rw [show (1 : Int32) = nI 1 from rfl, nx_sub (by omega)]; rfl
    have hF : FM iF aI (up1 iF 32 (up1 (iF 32) 15 (nI (tln (wS W) + 1)))) (up1 (up1 aI 38 f) 40 r) := ((FM.refl _ _).fld _).arr 38 (by omega) _ |>.arr 40 (by omega) _
    have hR1 : RM W sr (up1 iF 32 (up1 (iF 32) 15 (nI (tln (wS W) + 1)))) (up1 (up1 aI 38 f) 40 r) := hR.of (fun k h1 h2 => by rw [up1_n _ _ (by omega), up1_n _ _ (by omega)]) rfl hR.2.2.2.1 hR.2.2.2.2.1
    refine ⟨v, 0, nI (tln (wS W) + 1) - 1, rfl, fun h2 => br_nf rfl ?_, fun h2 => br_nt n10 ?_⟩
    · rw [e15] at h2
      rw [if_pos h2] at hQ
      exact hQ _ _ sr hF (by omega) hR1
    · rw [e15] at h2
      rw [if_neg h2] at hQ
      obtain ⟨c1, c2⟩ := clamp_ge (v := v) (a := 0) (by omega) (fun q => h2 (Or.inl q))
      have c3 := clamp_lt (v := v) (b := tln (wS W)) (by omega) (fun q => h2 (Or.inr q))
      have hP := trw_Pm hW.1 v.toNatClampNeg
      refine And.intro (by rw [c2]; exact vp_in_nI (by omega) (by omega)) ⟨L, _, _, aL, sN (wS W), trw (wS W) v.toNatClampNeg, rfl, (by show [Value.ref 32, .int (r v.toNatClampNeg)] = _; rw [hr _ c3]), hW.1.1.1, hW.1.1.2, hR.1.1, hP, fun f2 u hf2 => ?_⟩
      refine ⟨L, _, _, aL, sN (wS W), trw (wS W) v.toNatClampNeg, rfl, rfl, hW.1.1.2, hR.1.1, hf2, ?_⟩
      exact hQ _ _ sr ((hF.arr 38 (by omega) _).arr 39 (by omega) _) (by omega) (hR1.of (fun k h1 h2 => by rw [up1_n _ _ (by omega), up1_n _ _ (by omega)]) rfl hR.2.2.2.1 hR.2.2.2.2.1)
  · have h : rdy (wS W) = false := (i1 rfl).mp h
    rw [if_pos h] at hQ
    exact hQ iF aI sr (FM.refl _ _) (by omega) hR

/-! the reference's calls, first half -/
def zX11_bells : Spc := fun As g Q => ∃ v, amq [v] (aBells v) As g Q
theorem tX11_bells : Ok 1 yX11_bells cX11_bells 3 (some .int) zX11_bells := by
  refine ok_all fun As g Q h => ?_
  obtain ⟨v, L, iF, aI, aL, W, sr, rfl, rfl, hW, hR, hsr, hQ⟩ := h
  refine at0 60 (by decide) rfl sX11_bells_q (nl (n := 2) rfl rfl rfl) ?_
  refine ⟨v, 4, 8, rfl, fun h => br_nf rfl ?_, fun h => br_nt n10 ?_⟩
  · have e : aBells v W = (-2, W) := if_pos h
    rw [e] at hQ
    exact hQ iF aI sr (FM.refl _ _) (by omega) hR
  · have e : aBells v W = _ := if_neg h
    rw [e] at hQ
    obtain ⟨c1, c2⟩ := clamp_ge (v := v) (a := 4) (by omega) (fun q => h (Or.inl q))
    have c3 := clamp_lt (v := v) (b := 8) (by omega) (fun q => h (Or.inr q))
    refine And.intro in85 ⟨L, iF, aI, aL, v.toNatClampNeg, rfl, (by rw [← c2]), c1, c3, fun f hf => ?_⟩
    have hQ := hQ iF (up1 aI 33 f) sr ((FM.refl _ _).arr 33 (by omega) f) (by omega) ⟨hf, hR.2.1, hR.2.2.1, hR.2.2.2.1, hR.2.2.2.2.1, hR.2.2.2.2.2⟩
    show Q (some (.int (aI 33 0))) _
    rw [hR.1.1]
    exact hQ
def zX11_say : Spc := fun As g Q => ∃ v, amq [v] (aSay v) As g Q
theorem tX11_say : Ok 1 yX11_say cX11_say 2 (some .int) zX11_say := by
  refine ok_all fun As g Q h => ?_
  obtain ⟨v, L, iF, aI, aL, W, sr, rfl, rfl, hW, hR, hsr, hQ⟩ := h
  refine at0 60 (by decide) rfl sX11_say_q (nl (n := 2) rfl rfl rfl) ?_
  refine ⟨v, 33, 126, rfl, fun h => br_nf rfl ?_, fun h => br_nt n10 ?_⟩
  · have e : aSay v W = (-2, W) := if_pos h
    rw [e] at hQ
    exact hQ iF aI sr (FM.refl _ _) (by omega) hR
  · have e : aSay v W = _ := if_neg h
    rw [e] at hQ
    have h4 := hR.2.1
    have hl := hW.2.1.1
    refine And.intro (fun h2 => ?_) (fun h2 => ?_)
    · have h2 : ¬ iF 32 4 = 40 := h2
      rw [h4] at h2
      have h2 : ¬ (wP W).length = 40 := fun q => h2 (by rw [q]; rfl)
      rw [if_neg h2] at hQ
      obtain ⟨c1, c2⟩ := clamp_ge (v := v) (a := 33) (by omega) (fun q => h (Or.inl q))
      refine And.intro (by show vp_in (iF 32 4) 40; rw [h4]; exact vp_in_nI (by omega) (by omega)) ?_
      have hQ := hQ (up1 iF 32 (up1 (iF 32) 4 (iF 32 4 + 1))) (up1 aI 36 (up1 (aI 36) (iF 32 4).toNatClampNeg v)) sr (((FM.refl _ _).fld _).arr 36 (by omega) _) (by omega) ⟨hR.1, (by show iF 32 4 + 1 = nI (wP W ++ [v.toNatClampNeg]).length; rw [h4, nI_1, List.length_append]; rfl), ?_, hR.2.2.2.1, hR.2.2.2.2.1, hR.2.2.2.2.2⟩
      · show Q (some (.int (iF 32 4 + 1))) _
        have e4 : iF 32 4 + 1 = nI ((wP W).length + 1) := by rw [h4, nI_1]
        have hQ : Q (some (.int (nI ((wP W).length + 1)))) _ := hQ
        rw [← e4] at hQ
        exact hQ
      · intro i hi
        show up1 (aI 36) (iF 32 4).toNatClampNeg v i = nI ((wP W ++ [v.toNatClampNeg]).getD i 0)
        rw [h4, cl1 (by omega)]
        have hi : i < (wP W ++ [v.toNatClampNeg]).length := hi
        rw [List.length_append] at hi
        by_cases e : i = (wP W).length
        · rw [e, up1_s, getD_last]; exact c2
        · have hi : i < (wP W).length := by simp at hi; omega
          rw [up1_n _ _ e, getD_app hi]; exact hR.2.2.1 i hi
    · have h2 : iF 32 4 = 40 := h2
      rw [h4] at h2
      have h2 := (nI_eq (b := 40) (by omega) (by omega)).mp h2
      rw [if_pos h2] at hQ
      exact hQ iF aI sr (FM.refl _ _) (by omega) hR
theorem RM.pad0 {W W' : WS} {sr : Nat} {iF aI : Nat → Nat → Int32} (h : RM W sr iF aI) (hW : W' = (W.1, [], W.2.2)) : RM W' sr (up1 iF 32 (up1 (iF 32) 4 0)) aI := by
  subst hW
  exact ⟨h.1, rfl, fun i hi => absurd hi (Nat.not_lt_zero i), h.2.2.2.1, h.2.2.2.2.1, h.2.2.2.2.2⟩
def zX11_wipe : Spc := fun As g Q => amq [] aWipe As g Q
theorem tX11_wipe : Ok 0 yX11_wipe cX11_wipe 2 (some .int) zX11_wipe := by
  refine ok_all fun As g Q h => ?_
  obtain ⟨L, iF, aI, aL, W, sr, rfl, rfl, hW, hR, hsr, hQ⟩ := h
  refine at0 60 (by decide) rfl sX11_wipe_q (nl (n := 1) rfl rfl rfl) ?_
  have hQ := hQ (up1 iF 32 (up1 (iF 32) 4 0)) aI sr ((FM.refl _ _).fld _) (by omega) (hR.pad0 rfl)
  show Q (some (.int (iF 32 4))) _
  rw [hR.2.1]
  exact hQ
theorem fltT {n : Nat} {pd : List Nat} : ∀ b, (b = true → mok b n pd = mok true n pd) := fun b h => by rw [h]
def zX11_fault : Spc := fun As g Q => ∃ v, amq [v] (aFault v) As g Q
theorem RM.PF {W : WS} {sr : Nat} {iF aI iF' aI' : Nat → Nat → Int32} (h : RM W sr iF aI) (hp : PF iF aI iF' aI') : RM W sr iF' aI' := h.of (fun k _ _ => hp.2 k (by omega)) (hp.1 32 4 (by omega)) ((hp.1 32 17 (by omega)).trans h.2.2.2.1) (by rw [hp.2 41 (by omega)]; exact h.2.2.2.2.1)
theorem tX11_fault : Ok 6 yX11_fault cX11_fault 2 (some .int) zX11_fault := by
  refine ok_all fun As g Q h => ?_
  obtain ⟨v, L, iF, aI, aL, W, sr, rfl, rfl, hW, hR, hsr, hQ⟩ := h
  refine at0 60 (by decide) rfl sX11_fault (nl (n := 2) rfl rfl rfl) ?_
  unfold aFault at hQ
  refine br_c (fun h => ?_) (fun h => br_c (fun h2 => ?_) (fun h2 => br_c (fun h3 => ?_) (fun h3 => ?_)))
  · rw [if_pos (show v = 0 from h)] at hQ
    exact ⟨L, iF, aI, aL, _, _, rfl, rfl, hW.1.1.1, hW.1.1.2, hR.1.1, hW.2.1, hR.2.1, hR.2.2.1, fun iF' aI' hp _ => hQ iF' aI' sr hp.FM (by omega) (hR.PF hp)⟩
  · rw [if_neg (show ¬ v = 0 from h), if_pos (show v = 1 from h2)] at hQ
    exact ⟨L, iF, aI, aL, _, _, rfl, rfl, hW.1.1.1, hW.1.1.2, hR.1.1, hW.2.1, hR.2.1, hR.2.2.1, fun iF' aI' hp _ => hQ iF' aI' sr hp.FM (by omega) (hR.PF hp)⟩
  · rw [if_neg (show ¬ v = 0 from h), if_neg (show ¬ v = 1 from h2), if_pos (show v = 2 from h3)] at hQ
    exact ⟨L, iF, aI, aL, _, rfl, rfl, hW.2.1, hR.2.1, hR.2.2.1, hQ iF aI sr (FM.refl _ _) (by omega) hR⟩
  · rw [if_neg (show ¬ v = 0 from h), if_neg (show ¬ v = 1 from h2), if_neg (show ¬ v = 2 from h3)] at hQ
    exact hQ iF aI sr (FM.refl _ _) (by omega) hR
theorem flt_no {mt : Bool} {n : Nat} {pd : List Nat} (hn : n ≤ 8) (hn4 : 4 ≤ n) (hp : pd.length ≤ 40) (h : mok mt n pd = none) : ∃ i, i ≤ 40 ∧ flt mt n pd = nI i := by
  unfold mok at h
  unfold flt
  cases e : (rdP mt n pd 0 P0).2 with
  | none =>
    refine ⟨(rdP mt n pd 0 P0).1, ?_, rfl⟩
    have : ∀ (l : List Nat) (i : Nat) (P : Prs), (rdP mt n l i P).1 ≤ i + l.length := by
      intro l
      induction l with
      | nil => intro i P; exact Nat.le_refl _
      | cons s l ih =>
        intro i P
        unfold rdP
        cases stp1 mt n P s with
        | none => exact Nat.le_add_right _ _
        | some P1 => have := ih (i + 1) P1; rw [List.length_cons]; show (rdP mt n l (i + 1) P1).1 ≤ _; omega
    have := this pd 0 P0
    omega
  | some P =>
    rw [e] at h
    have h : (if cEnd n P.1 = true then some P else none) = none := h
    split at h
    · cases h
    · rename_i hc
      refine ⟨pd.length, hp, ?_⟩
      show (if cEnd n P.1 = true then -6 else nI pd.length) = _
      rw [if_neg hc]
theorem flt_yes {mt : Bool} {n : Nat} {pd : List Nat} {P : Prs} (h : mok mt n pd = some P) : flt mt n pd = -6 := by
  unfold mok at h
  unfold flt
  cases e : (rdP mt n pd 0 P0).2 with
  | none => rw [e] at h; cases h
  | some P1 =>
    rw [e] at h
    have h : (if cEnd n P1.1 = true then some P1 else none) = some P := h
    split at h
    · rename_i hc
      show (if cEnd n P1.1 = true then -6 else nI pd.length) = _
      rw [if_pos hc]
    · cases h
theorem nI_ge0 {a : Nat} (h : a < 2 ^ 31) : ¬ nI a < 0 := fun q => absurd ((nI_ltI (b := 0) h (by omega)).mp q) (by omega)
def zX11_call : Spc := fun As g Q => ∃ v, amq [v] (aCall v) As g Q
theorem tX11_call : Ok 4 yX11_call cX11_call 2 (some .int) zX11_call := by
  refine ok_all fun As g Q h => ?_
  obtain ⟨v, L, iF, aI, aL, W, sr, rfl, rfl, hW, hR, hsr, hQ⟩ := h
  refine at0 60 (by decide) rfl sX11_call (nl (n := 2) rfl rfl rfl) ?_
  refine ⟨v, 0, 1, rfl, fun h => br_nf rfl ?_, fun h => br_nt n10 ?_⟩
  · have e : aCall v W = (-2, W) := if_pos h
    rw [e] at hQ
    exact hQ iF aI sr (FM.refl _ _) (by omega) hR
  · have e : aCall v W = _ := if_neg h
    rw [e] at hQ
    refine ⟨L, iF, aI, aL, _, _, rfl, rfl, hW.1.1.1, hW.1.1.2, hR.1.1, hW.2.1, hR.2.1, hR.2.2.1, fun iF1 aI1 hp hm => ?_⟩
    have hR1 := hR.PF hp
    cases e : mok false (sN (wS W)) (wP W) with
    | none =>
      obtain ⟨i, i1, i2⟩ := flt_no hW.1.1.2 hW.1.1.1 hW.2.1.1 e
      rw [i2]
      rw [e] at hQ
      exact br_f (nI_ge0 (by omega)) (hQ iF1 aI1 sr hp.FM (by omega) hR1)
    | some P =>
      rw [flt_yes e]
      rw [e] at hQ
      obtain ⟨p1, p2, p3⟩ := mok_PV hW.1.1.2 hW.1.1.1 e
      obtain ⟨m1, m2⟩ := mok_1 hW.1.1.2 hW.1.1.1 e
      have hM := hm P p1
      have e0 : aI1 37 0 = nI (P.2.1.getD 0 0) := hM.2.2.2.2.2 0 m1
      obtain ⟨c1, c2⟩ := clamp_ge (v := v) (a := 0) (by omega) (fun q => h (Or.inl q))
      have c3 := clamp_lt (v := v) (b := 1) (by omega) (fun q => h (Or.inr q))
      have e42 : (42 : Int32) + v = nI (42 + v.toNatClampNeg) := by rw [← nI_add, ← c2]; rfl
      have i40 : vp_in 0 40 := vp_in_nI (n := 0) (by omega) (by omega)
      refine br_t (by decide) (And.intro i40 (And.intro (by rw [e42]; exact vp_in_nI (by omega) (by omega)) (And.intro i40 ⟨P.2.1.getD 0 0, m2.1, (by show [Value.int (aI1 37 0)] = _; rw [e0]), ?_⟩)))
      have hQ := hQ (up1 iF1 32 (up1 (iF1 32) 4 0)) (up1 aI1 33 (up1 (aI1 33) (42 + v).toNatClampNeg (aI1 37 0))) sr (hp.FM.fld _ |>.arr 33 (by omega) _) (by omega)
      refine hQ ⟨?_, rfl, fun i hi => absurd hi (Nat.not_lt_zero i), hR1.2.2.2.1, hR1.2.2.2.2.1, hR1.2.2.2.2.2⟩
      obtain ⟨r1, r2, r3, r4, r5, r6, r7⟩ := hR1.1
      have hc := hW.1.2.1.1
      have hl := hW.1.2.2.2.2.1
      show RS (up1 (aI1 33) (42 + v).toNatClampNeg (aI1 37 0)) (if v = 0 then (sN (wS W), sC (wS W), P.2.1.getD 0 0, sS (wS W), sL (wS W)) else (sN (wS W), sC (wS W), sB (wS W), P.2.1.getD 0 0, sL (wS W)))
      rw [e42, cl1 (by omega), e0]
      have hvv : v.toNatClampNeg = 0 ∨ v.toNatClampNeg = 1 := by omega
      rcases hvv with z | z
      · rw [if_pos (by rw [c2, z]; rfl), z]
        refine ⟨r1, r2, fun i hi => ?_, up1_s _ _ _, r5, r6, fun i hi => ?_⟩
        · have hi : i < (sC (wS W)).length := hi
          rw [up1_n _ _ (by omega)]; exact r3 i hi
        · have hi : i < (sL (wS W)).length := hi
          rw [up1_n _ _ (by omega)]; exact r7 i hi
      · rw [if_neg (by rw [c2, z]; decide), z]
        refine ⟨r1, r2, fun i hi => ?_, r4, up1_s _ _ _, r6, fun i hi => ?_⟩
        · have hi : i < (sC (wS W)).length := hi
          rw [up1_n _ _ (by omega)]; exact r3 i hi
        · have hi : i < (sL (wS W)).length := hi
          rw [up1_n _ _ (by omega)]; exact r7 i hi

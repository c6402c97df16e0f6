/-! the reference's calls that write -/
theorem tfP_none : ∀ (l : List Nat) (i : Nat), tfP l i = none → ∀ s ∈ l, kd s ≠ none
  | [], _, _, s, hs => absurd hs List.not_mem_nil
  | a :: l, i, h, s, hs => by
    unfold tfP at h
    split at h
    · cases h
    · rename_i z
      rcases List.mem_cons.mp hs with e | e
      · rw [e]; exact z
      · exact tfP_none l (i + 1) h s e
theorem tfP_some : ∀ (l : List Nat) (i j : Nat), tfP l i = some j → j < i + l.length
  | [], _, _, h => by cases h
  | a :: l, i, j, h => by
    unfold tfP at h
    rw [List.length_cons]
    split at h
    · cases h; omega
    · have := tfP_some l (i + 1) j h; omega
theorem tfl_cases {pd : List Nat} (h : pd.length ≤ 40) : (tfl pd = -6 ∧ pd.length ≠ 0 ∧ ∀ s ∈ pd, kd s ≠ none) ∨ ∃ i, i ≤ 40 ∧ tfl pd = nI i := by
  unfold tfl
  cases e : tfP pd 0 with
  | none =>
    by_cases z : pd.length = 0
    · exact Or.inr ⟨0, (by omega), if_pos z⟩
    · exact Or.inl ⟨if_neg z, z, tfP_none pd 0 e⟩
  | some j => exact Or.inr ⟨j, (by have := tfP_some pd 0 j e; omega), rfl⟩
theorem nI_ne6 {i : Nat} (h : i < 2 ^ 31) : ¬ nI i = -6 := by
  intro q
  have := congrArg Int32.toInt q
  rw [nI_toInt h] at this
  have e6 : (-6 : Int32).toInt = -6 := by decide
  omega
theorem tlt_get {pd : List Nat} {i l : Nat} (h : i < pd.length) (e : kd (pd.getD i 0) = some l) : (tlt pd).getD i 0 = l := by
  unfold tlt
  rw [List.getD_eq_getElem?_getD, List.getElem?_map, List.getElem?_eq_getElem h]
  rw [List.getD_eq_getElem?_getD, List.getElem?_eq_getElem h] at e
  have e : kd pd[i] = some l := e
  show (kd pd[i]).getD 0 = l
  rw [e]; rfl
def zX11_touch : Spc := fun As g Q => amq [] aTouch As g Q
theorem tX11_touch : Ok 2 yX11_touch cX11_touch 2 (some .int) zX11_touch := by
  refine ok_all fun As g Q h => ?_
  obtain ⟨L, iF, aI, aL, W, sr, rfl, rfl, hW, hR, hsr, hQ⟩ := h
  have hl := hW.2.1.1
  obtain ⟨r1, r2, r3, r4, r5, r6, r7⟩ := hR.1
  refine at_of (fun pc => pc == 12) 100 (fun k pc ls st g' => ∃ j f, pc = 12 ∧ ls = [.ref 32, .int (nI j)] ∧ st = [] ∧ g' = Mg L iF (up1 aI 33 f) aL ∧ k = 40 - j ∧ j ≤ (wP W).length ∧ tfl (wP W) = -6 ∧ (∀ s ∈ wP W, kd s ≠ none) ∧ (∀ i, i < j → f (45 + i) = nI ((tlt (wP W)).getD i 0)) ∧ ∀ x, x < 45 → f x = aI 33 x) (by decide) rfl sX11_touch (nl (n := 1) rfl rfl rfl) ?_ ?_
  · refine ⟨L, iF, aI, aL, wP W, rfl, rfl, hW.2.1, hR.2.1, hR.2.2.1, ?_⟩
    rcases tfl_cases hl with ⟨z1, z2, z3⟩ | ⟨i, z1, z2⟩
    · rw [z1]
      exact br_t (by decide) ⟨40, 0, aI 33, rfl, rfl, rfl, (by rw [up1_id]), rfl, (by omega), rfl, z3, fun i h => absurd h (Nat.not_lt_zero i), fun _ _ => rfl⟩
    · unfold aTouch at hQ
      rw [if_neg (by rw [z2]; exact nI_ne6 (by omega))] at hQ
      rw [z2]
      exact br_f (nI_ge0 (by omega)) (hQ iF aI sr (FM.refl _ _) (by omega) hR)
  · rintro k pc ls st g' ⟨j, f, rfl, rfl, rfl, rfl, rfl, hj, hz, hk, h1, h2⟩
    refine br_c (fun h => ?_) (fun h => ?_)
    · have h : iF 32 4 ≤ nI j := h
      rw [hR.2.1] at h
      have h : (wP W).length ≤ j := (nI_leI (by omega) (by omega)).mp h
      unfold aTouch at hQ
      rw [if_pos hz] at hQ
      refine And.intro (in85' (k := 44) (by omega)) (And.intro (in85' (k := 44) (by omega)) ?_)
      have hQ := hQ (up1 iF 32 (up1 (iF 32) 4 0)) (up1 aI 33 (up1 f 44 (iF 32 4))) sr (((FM.refl _ _).fld _).arr 33 (by omega) _) (by omega) ⟨?_, rfl, fun i hi => absurd hi (Nat.not_lt_zero i), hR.2.2.2.1, hR.2.2.2.2.1, hR.2.2.2.2.2⟩
      · show Q (some (.int (iF 32 4))) (Mg L (up1 iF 32 (up1 (iF 32) 4 0)) (up1 (up1 aI 33 f) 33 (up1 f 44 (iF 32 4))) aL)
        rw [up1_up1]
        have hQ : Q (some (.int (nI (wP W).length))) _ := hQ
        rw [← hR.2.1] at hQ
        exact hQ
      · have hc := hW.1.2.1.1
        refine ⟨(h2 0 (by omega)).trans r1, (h2 1 (by omega)).trans r2, fun i hi => ?_, (h2 42 (by omega)).trans r4, (h2 43 (by omega)).trans r5, ?_, fun i hi => ?_⟩
        · have hi : i < (sC (wS W)).length := hi
          show up1 f 44 (iF 32 4) (2 + i) = _
          rw [up1_n _ _ (by omega), h2 _ (by omega)]; exact r3 i hi
        · show iF 32 4 = nI (tlt (wP W)).length
          rw [hR.2.1]; unfold tlt; rw [List.length_map]
        · have hi : i < (tlt (wP W)).length := hi
          unfold tlt at hi
          rw [List.length_map] at hi
          show up1 f 44 (iF 32 4) (45 + i) = _
          rw [up1_n _ _ (by omega)]; exact h1 i (by omega)
    · have h : ¬ iF 32 4 ≤ nI j := h
      rw [hR.2.1] at h
      have h : ¬ (wP W).length ≤ j := fun q => h ((nI_leI (by omega) (by omega)).mpr q)
      have e1 : aI 36 (nI j).toNatClampNeg = nI ((wP W).getD j 0) := by rw [cl1 (by omega)]; exact hR.2.2.1 j (by omega)
      refine And.intro (vp_in_nI (by omega) (by omega)) ⟨(wP W).getD j 0, hW.2.1.2 _ (getD_mem (by omega)), (by show [Value.int (aI 36 (nI j).toNatClampNeg)] = _; rw [e1]), ?_⟩
      cases e : kd ((wP W).getD j 0) with
      | none => exact absurd e (hk _ (getD_mem (by omega)))
      | some l =>
        have e45 : (45 : Int32) + nI j = nI (45 + j) := by rw [← nI_add]; rfl
        refine And.intro (by rw [e45]; exact vp_in_nI (by omega) (by omega)) ⟨40 - (j + 1), (by omega), j + 1, up1 f (45 + j) (nI l), rfl, ?_, rfl, ?_, rfl, (by omega), hz, hk, fun i hi => ?_, fun x hx => ?_⟩
        · show [Value.ref 32, .int (nI j + 1)] = _
          rw [nI_1]
        · show Mg L iF (up1 (up1 aI 33 f) 33 (up1 f ((45 : Int32) + nI j).toNatClampNeg (nI l))) aL = _
          rw [e45, cl1 (by omega), up1_up1]
        · by_cases z : i = j
          · rw [z, up1_s, tlt_get (by omega) e]
          · rw [up1_n _ _ (by omega)]; exact h1 i (by omega)
        · rw [up1_n _ _ (by omega)]; exact h2 x hx
theorem RS.shift {f g : Nat → Int32} {S : Stg} (hS : VS S) (h : RS f S) (e : ∀ i, i < 85 → g i = f i) : RS g S := by
  obtain ⟨r1, r2, r3, r4, r5, r6, r7⟩ := h
  have hc := hS.2.1.1
  have hl := hS.2.2.2.2.1
  exact ⟨(e 0 (by omega)).trans r1, (e 1 (by omega)).trans r2, fun i hi => (e _ (by omega)).trans (r3 i hi), (e 42 (by omega)).trans r4, (e 43 (by omega)).trans r5, (e 44 (by omega)).trans r6, fun i hi => (e _ (by omega)).trans (r7 i hi)⟩
def zX11_image : Spc := fun As g Q => ∃ v, amq [v] (aImage v) As g Q
theorem tX11_image : Ok 1 yX11_image cX11_image 3 (some .int) zX11_image := by
  refine ok_all fun As g Q h => ?_
  obtain ⟨v, L, iF, aI, aL, W, sr, rfl, rfl, hW, hR, hsr, hQ⟩ := h
  refine at_of (fun pc => pc == 14) 100 (fun k pc ls st g' => ∃ j f q, pc = 14 ∧ q < 2 ∧ v = nI q ∧ ls = [.ref 32, .int v, .int (nI j)] ∧ st = [] ∧ g' = Mg L iF (up1 aI 34 f) aL ∧ k = 85 - j ∧ j ≤ 85 ∧ (∀ i, i < j → f (85 * q + i) = aI 33 i) ∧ ∀ x, x < 85 * q ∨ 85 * q + 85 ≤ x → f x = aI 34 x) (by decide) rfl sX11_image (nl (n := 2) rfl rfl rfl) ?_ ?_
  · refine ⟨v, 0, 1, rfl, fun h => br_nf rfl ?_, fun h => br_nt n10 ?_⟩
    · have e : aImage v W = (-2, W) := if_pos h
      rw [e] at hQ
      exact hQ iF aI sr (FM.refl _ _) (by omega) hR
    · obtain ⟨c1, c2⟩ := clamp_ge (v := v) (a := 0) (by omega) (fun q => h (Or.inl q))
      have c3 := clamp_lt (v := v) (b := 1) (by omega) (fun q => h (Or.inr q))
      exact ⟨85, 0, aI 34, v.toNatClampNeg, rfl, (by omega), c2, rfl, rfl, (by rw [up1_id]), rfl, (by omega), fun i h => absurd h (Nat.not_lt_zero i), fun _ _ => rfl⟩
  · rintro k pc ls st g' ⟨j, f, q, rfl, hq, hv, rfl, rfl, rfl, rfl, hj, h1, h2⟩
    refine br_c (fun h => ?_) (fun h => ?_)
    · have h : 85 ≤ j := (nI_leI (a := 85) (by omega) (by omega)).mp h
      have en : ¬ (v < 0 ∨ 1 < v) := by
        rw [hv]
        rintro (z | z)
        · exact nI_ge0 (by omega) z
        · have := (nI_ltI (a := 1) (by omega) (by omega)).mp z; omega
      have e : aImage v W = (1, (W.1, W.2.1, if v = 0 then (some W.1, W.2.2.2) else (W.2.2.1, some W.1))) := if_neg en
      rw [e] at hQ
      refine And.intro (Or.inr rfl) (And.intro (by show vp_in v 2; rw [hv]; exact vp_in_nI (by omega) (by omega)) ?_)
      refine hQ iF (up1 (up1 aI 34 f) 35 (up1 (aI 35) v.toNatClampNeg 1)) sr (((FM.refl _ _).arr 34 (by omega) _).arr 35 (by omega) _) (by omega) ⟨hR.1, hR.2.1, hR.2.2.1, hR.2.2.2.1, hR.2.2.2.2.1, fun k hk => ?_⟩
      show up1 (aI 35) v.toNatClampNeg 1 k = _ ∧ ∀ S', _ → RS (fun i => f (85 * k + i)) S'
      have hwI : wI (W.1, W.2.1, if v = 0 then (some W.1, W.2.2.2) else (W.2.2.1, some W.1)) k = if k = q then some W.1 else wI W k := by
        have : q = 0 ∨ q = 1 := by omega
        have : k = 0 ∨ k = 1 := by omega
        unfold wI
        rcases this with rfl | rfl <;> rcases ‹q = 0 ∨ q = 1› with rfl | rfl <;> rw [hv] <;> rfl
      show up1 (aI 35) v.toNatClampNeg 1 k = b01 (wI (W.1, W.2.1, if v = 0 then (some W.1, W.2.2.2) else (W.2.2.1, some W.1)) k).isSome ∧ ∀ S', wI (W.1, W.2.1, if v = 0 then (some W.1, W.2.2.2) else (W.2.2.1, some W.1)) k = some S' → RS (fun i => f (85 * k + i)) S'
      rw [hwI]
      by_cases e : k = q
      · rw [if_pos e, e, hv, cl1 (by omega), up1_s]
        refine ⟨rfl, fun S' z => ?_⟩
        cases z
        exact hR.1.shift hW.1 (fun i hi => h1 i (by omega))
      · rw [if_neg e, hv, cl1 (by omega), up1_n _ _ e]
        obtain ⟨k1, k2⟩ := hR.2.2.2.2.2 k hk
        exact ⟨k1, fun S' z => (k2 S' z).shift (hW.2.2 k S' z) (fun i hi => h2 _ (by omega))⟩
    · have h : ¬ 85 ≤ j := fun z => h ((nI_leI (a := 85) (by omega) (by omega)).mpr z)
      have e : (85 : Int32) * v + nI j = nI (85 * q + j) := by rw [hv, show (85 : Int32) = nI 85 from rfl, nx_mul, nI_add]
      refine And.intro (vp_in_nI (by omega) (by omega)) (And.intro (by show vp_in ((85 : Int32) * v + nI j) 170; rw [e]; exact vp_in_nI (by omega) (by omega)) ⟨85 - (j + 1), (by omega), j + 1, up1 f (85 * q + j) (aI 33 j), q, rfl, hq, hv, ?_, rfl, ?_, rfl, (by omega), fun i hi => ?_, fun x hx => ?_⟩)
      · show [Value.ref 32, .int v, .int (nI j + 1)] = _
        rw [nI_1]
      · show Mg L iF (up1 (up1 aI 34 f) 34 (up1 f ((85 : Int32) * v + nI j).toNatClampNeg (aI 33 (nI j).toNatClampNeg))) aL = _
        rw [e, cl1 (by omega), cl1 (by omega), up1_up1]
      · by_cases z : i = j
        · rw [z, up1_s]
        · rw [up1_n _ _ (by omega)]; exact h1 i (by omega)
      · rw [up1_n _ _ (by omega)]; exact h2 x hx
def zX11_restore : Spc := fun As g Q => ∃ v, amq [v] (aRestore v) As g Q
theorem tX11_restore : Ok 1 yX11_restore cX11_restore 3 (some .int) zX11_restore := by
  refine ok_all fun As g Q h => ?_
  obtain ⟨v, L, iF, aI, aL, W, sr, rfl, rfl, hW, hR, hsr, hQ⟩ := h
  refine at_of (fun pc => pc == 26) 100 (fun k pc ls st g' => ∃ j f q S', pc = 26 ∧ q < 2 ∧ v = nI q ∧ wI W q = some S' ∧ ls = [.ref 32, .int v, .int (nI j)] ∧ st = [] ∧ g' = Mg L iF (up1 aI 33 f) aL ∧ k = 85 - j ∧ j ≤ 85 ∧ (∀ i, i < j → f i = aI 34 (85 * q + i))) (by decide) rfl sX11_restore (nl (n := 2) rfl rfl rfl) ?_ ?_
  · refine ⟨v, 0, 1, rfl, fun h => br_nf rfl ?_, fun h => br_nt n10 ?_⟩
    · have e : aRestore v W = (-2, W) := if_pos h
      rw [e] at hQ
      exact hQ iF aI sr (FM.refl _ _) (by omega) hR
    · have e : aRestore v W = _ := if_neg h
      rw [e] at hQ
      obtain ⟨c1, c2⟩ := clamp_ge (v := v) (a := 0) (by omega) (fun q => h (Or.inl q))
      have c3 := clamp_lt (v := v) (b := 1) (by omega) (fun q => h (Or.inr q))
      have k1 := (hR.2.2.2.2.2 v.toNatClampNeg (by omega)).1
      refine And.intro (by rw [c2]; exact vp_in_nI (by omega) (by omega)) ?_
      cases e : wI W v.toNatClampNeg with
      | none =>
        rw [e] at hQ k1
        exact br_nf k1 (hQ iF aI sr (FM.refl _ _) (by omega) hR)
      | some S' =>
        rw [e] at k1
        refine br_nt (fun z => n10 (k1.symm.trans z)) ?_
        exact ⟨85, 0, aI 33, v.toNatClampNeg, S', rfl, (by omega), c2, e, rfl, rfl, (by rw [up1_id]), rfl, (by omega), fun i h => absurd h (Nat.not_lt_zero i)⟩
  · rintro k pc ls st g' ⟨j, f, q, S', rfl, hq, hv, hS', rfl, rfl, rfl, rfl, hj, h1⟩
    refine br_c (fun h => ?_) (fun h => ?_)
    · have h : 85 ≤ j := (nI_leI (a := 85) (by omega) (by omega)).mp h
      have en : ¬ (v < 0 ∨ 1 < v) := by
        rw [hv]
        rintro (z | z)
        · exact nI_ge0 (by omega) z
        · have := (nI_ltI (a := 1) (by omega) (by omega)).mp z; omega
      have e : aRestore v W = (1, (S', W.2)) := by
        unfold aRestore
        rw [if_neg en, hv, cl1 (by omega), hS']
      rw [e] at hQ
      exact hQ iF (up1 aI 33 f) sr ((FM.refl _ _).arr 33 (by omega) _) (by omega) ⟨((hR.2.2.2.2.2 q hq).2 S' hS').shift (hW.2.2 q S' hS') (fun i hi => h1 i (by omega)), hR.2.1, hR.2.2.1, hR.2.2.2.1, hR.2.2.2.2.1, hR.2.2.2.2.2⟩
    · have h : ¬ 85 ≤ j := fun z => h ((nI_leI (a := 85) (by omega) (by omega)).mpr z)
      have e : (85 : Int32) * v + nI j = nI (85 * q + j) := by rw [hv, show (85 : Int32) = nI 85 from rfl, nx_mul, nI_add]
      refine And.intro (by show vp_in ((85 : Int32) * v + nI j) 170; rw [e]; exact vp_in_nI (by omega) (by omega)) (And.intro (vp_in_nI (by omega) (by omega)) ⟨85 - (j + 1), (by omega), j + 1, up1 f j (aI 34 (85 * q + j)), q, S', rfl, hq, hv, hS', ?_, rfl, ?_, rfl, (by omega), fun i hi => ?_⟩)
      · show [Value.ref 32, .int v, .int (nI j + 1)] = _
        rw [nI_1]
      · show Mg L iF (up1 (up1 aI 33 f) 33 (up1 f (nI j).toNatClampNeg (aI 34 ((85 : Int32) * v + nI j).toNatClampNeg))) aL = _
        rw [e, cl1 (by omega), cl1 (by omega), up1_up1]
      · by_cases z : i = j
        · rw [z, up1_s]
        · rw [up1_n _ _ (by omega)]; exact h1 i (by omega)

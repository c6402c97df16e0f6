/-! the reference takes a method -/
theorem mapR_get {f : Nat → Nat} {n i : Nat} (h : i < n) : ((List.range n).map f).getD i 0 = f i := by
  rw [List.getD_eq_getElem?_getD, List.getElem?_map, List.getElem?_range h]; rfl
theorem mch_get {P : Prs} {k i : Nat} (e : P.2.2 = some k) (h1 : 1 ≤ k) (h2 : k < P.2.1.length) (hi : i < 2 * P.2.1.length - 2) : (mch P).getD i 0 = if i < 2 * k - 1 then P.2.1.getD (tb 0 k i) 0 else P.2.1.getD (tb k P.2.1.length (i - (2 * k - 1))) 0 := by
  unfold mch
  rw [e]
  show (List.map _ _ ++ List.map _ _).getD i 0 = _
  by_cases z : i < 2 * k - 1
  · rw [if_pos z, List.getD_eq_getElem?_getD, List.getElem?_append_left (by rw [List.length_map, List.length_range]; exact z), ← List.getD_eq_getElem?_getD, mapR_get z]
  · rw [if_neg z, List.getD_eq_getElem?_getD, List.getElem?_append_right (by rw [List.length_map, List.length_range]; omega), List.length_map, List.length_range, ← List.getD_eq_getElem?_getD, mapR_get (by omega)]
theorem RS.meth {f g : Nat → Int32} {S : Stg} {C : List Nat} (hS : VS S) (h : RS f S) (hC : C.length ≤ 40) (g1 : ∀ i, i < C.length → g (2 + i) = nI (C.getD i 0)) (g2 : ∀ x, x = 0 ∨ 42 ≤ x → g x = f x) : RS (up1 g 1 (nI C.length)) (sN S, C, S.2.2) := by
  obtain ⟨r1, r2, r3, r4, r5, r6, r7⟩ := h
  refine ⟨(g2 0 (by omega)).trans r1, rfl, fun i hi => ?_, (g2 42 (by omega)).trans r4, (g2 43 (by omega)).trans r5, (g2 44 (by omega)).trans r6, fun i hi => ?_⟩
  · have hi : i < C.length := hi
    show up1 g 1 _ (2 + i) = nI (C.getD i 0)
    rw [up1_n _ _ (by omega)]; exact g1 i hi
  · have hi : i < (sL S).length := hi
    show up1 g 1 _ (45 + i) = nI ((sL S).getD i 0)
    rw [up1_n _ _ (by omega), g2 _ (by omega)]; exact r7 i hi
def zX11_method : Spc := fun As g Q => amq [] aMethod As g Q
theorem tX11_method : Ok 6 yX11_method cX11_method 3 (some .int) zX11_method := by
  refine ok_all fun As g Q h => ?_
  obtain ⟨L, iF, aI, aL, W, sr, rfl, rfl, hW, hR, hsr, hQ⟩ := h
  have hl := hW.2.1.1
  have fin : ∀ (P : Prs) (iF1 aI1 : Nat → Nat → Int32) (g : Nat → Int32), mok true (sN (wS W)) (wP W) = some P → (mch P).length ≤ 40 → FM iF aI iF1 aI1 → RM W sr iF1 aI1 → (∀ i, i < (mch P).length → g (2 + i) = nI ((mch P).getD i 0)) → (∀ x, x = 0 ∨ 42 ≤ x → g x = aI1 33 x) → vp_in 1 85 ∧ Q (some (.int (nI (mch P).length))) (Mg L (up1 iF1 32 (up1 (iF1 32) 4 0)) (up1 (up1 aI1 33 g) 33 (up1 g 1 (nI (mch P).length))) aL) := by
    intro P iF1 aI1 g hP h40 hF hR1 g1 g2
    refine ⟨in85' (k := 1) (by omega), ?_⟩
    rw [up1_up1]
    unfold aMethod at hQ
    rw [hP] at hQ
    have hQ := hQ
    simp only [] at hQ
    rw [if_neg (by omega)] at hQ
    exact hQ _ _ sr ((hF.fld _).arr 33 (by omega) _) (by omega) ⟨hR1.1.meth hW.1 h40 g1 g2, rfl, fun i hi => absurd hi (Nat.not_lt_zero i), hR1.2.2.2.1, hR1.2.2.2.2.1, hR1.2.2.2.2.2⟩
  refine at_of (fun pc => pc == 80) 100 (fun k pc ls st g' => ∃ j f P iF1 aI1, pc = 80 ∧ mok true (sN (wS W)) (wP W) = some P ∧ P.2.2 = none ∧ (mch P).length ≤ 40 ∧ MP iF1 aI1 P ∧ FM iF aI iF1 aI1 ∧ RM W sr iF1 aI1 ∧ ls = [.ref 32, .int (nI P.2.1.length), .int (nI j)] ∧ st = [] ∧ g' = Mg L iF1 (up1 aI1 33 f) aL ∧ k = 40 - j ∧ j ≤ P.2.1.length ∧ (∀ i, i < j → f (2 + i) = nI (P.2.1.getD i 0)) ∧ ∀ x, x < 2 ∨ 42 ≤ x → f x = aI1 33 x) (by decide) rfl sX11_method (nl (n := 1) rfl rfl rfl) ?_ ?_
  · refine ⟨L, iF, aI, aL, _, _, rfl, rfl, hW.1.1.1, hW.1.1.2, hR.1.1, hW.2.1, hR.2.1, hR.2.2.1, fun iF1 aI1 hp hm => ?_⟩
    have hR1 := hR.PF hp
    cases e : mok true (sN (wS W)) (wP W) with
    | none =>
      obtain ⟨i, i1, i2⟩ := flt_no hW.1.1.2 hW.1.1.1 hW.2.1.1 e
      rw [i2]
      unfold aMethod at hQ
      rw [e] at hQ
      exact br_f (nI_ge0 (by omega)) (hQ iF1 aI1 sr hp.FM (by omega) hR1)
    | some P =>
      rw [flt_yes e]
      obtain ⟨p1, p2, p3⟩ := mok_PV hW.1.1.2 hW.1.1.1 e
      have hM := hm P p1
      have hlen := p2.1
      obtain ⟨l1, l2⟩ := mch_len p2 p3
      have h6 := p2.2.2.2.2.2.1 (cEnd_ne p3).1
      refine br_t (by decide) ?_
      have full : 40 < (mch P).length → Q (some (.int (-4))) (Mg L iF1 aI1 aL) := by
        intro z
        unfold aMethod at hQ
        rw [e] at hQ
        simp only [] at hQ
        rw [if_pos z] at hQ
        exact hQ iF1 aI1 sr hp.FM (by omega) hR1
      cases ec : P.2.2 with
      | none =>
        have hm2 : iF1 32 7 = -6 := by rw [hM.2.1, ec]; rfl
        refine br_f (by show ¬ 0 ≤ iF1 32 7; rw [hm2]; decide) ?_
        refine br_c (fun h => ?_) (fun h => ?_)
        · have h : iF1 32 6 ≤ 40 := h
          rw [hM.1] at h
          have h := (nI_leI (b := 40) (by omega) (by omega)).mp h
          refine br_t (by show iF1 32 7 < 0; rw [hm2]; decide) ?_
          refine ⟨40, 0, aI1 33, P, up1 iF1 32 (up1 (iF1 32) 11 0), aI1, rfl, rfl, ec, (by rw [l1 ec]; exact h), hM, hp.FM.fld _, hR1, ?_, rfl, (by rw [up1_id]; rfl), rfl, (by omega), fun i h => absurd h (Nat.not_lt_zero i), fun _ _ => rfl⟩
          show [Value.ref 32, .int (iF1 32 6), .int 0] = _
          rw [hM.1]; rfl
        · have h : ¬ iF1 32 6 ≤ 40 := h
          rw [hM.1] at h
          have h : ¬ P.2.1.length ≤ 40 := fun q => h ((nI_leI (b := 40) (by omega) (by omega)).mpr q)
          omega
      | some k =>
        obtain ⟨k1, k2, k3⟩ := l2 k ec
        have hm2 : iF1 32 7 = nI k := by rw [hM.2.1, ec]; rfl
        have e2 : (2 : Int32) * iF1 32 6 - 2 = nI (mch P).length := by rw [hM.1, show (2 : Int32) = nI 2 from rfl, nx_mul, nx_sub (by omega), k3]
        refine br_t (by show 0 ≤ iF1 32 7; rw [hm2]; exact (nI_leI (a := 0) (by omega) (by omega)).mpr (Nat.zero_le k)) ?_
        refine br_c (fun h => ?_) (fun h => ?_)
        · have h : (2 : Int32) * iF1 32 6 - 2 ≤ 40 := h
          rw [e2] at h
          have h := (nI_leI (b := 40) (by omega) (by omega)).mp h
          refine br_f (by show ¬ iF1 32 7 < 0; rw [hm2]; exact nI_ge0 (by omega)) ?_
          refine ⟨L, up1 iF1 32 (up1 (iF1 32) 11 0), aI1, aL, 0, k, 0, rfl, (by show [Value.ref 32, .int 0, .int (iF1 32 7)] = _; rw [hm2]; rfl), (by omega), (by omega), rfl, (by omega), fun iF2 f2 y1 y2 y3 y4 y5 => ?_⟩
          have b6 : iF2 32 6 = nI P.2.1.length := (y2 6 (by omega)).trans hM.1
          have b7 : iF2 32 7 = nI k := (y2 7 (by omega)).trans hm2
          refine ⟨L, iF2, up1 aI1 33 f2, aL, k, P.2.1.length, 0 + (2 * (k - 0) - 1), rfl, (by show [Value.ref 32, .int (iF2 32 7), .int (iF2 32 6)] = _; rw [b6, b7]), (by omega), (by omega), y3, (by omega), fun iF3 f3 z1 z2 z3 z4 z5 => ?_⟩
          have h4' : iF3 32 4 = iF1 32 4 := (z2 4 (by omega)).trans (y2 4 (by omega))
          have hF3 : FM iF aI iF3 (up1 aI1 33 f2) := (hp.FM.trans ⟨fun q hq => (z1 q hq).trans ((y1 q hq).trans (up1_n _ _ hq)), fun _ _ => rfl⟩).arr 33 (by omega) _
          have hg := fin P iF3 aI1 f3 e h (hp.FM.trans ⟨fun q hq => (z1 q hq).trans ((y1 q hq).trans (up1_n _ _ hq)), fun _ _ => rfl⟩) (hR1.of (fun _ _ _ => rfl) h4' ((z2 17 (by omega)).trans ((y2 17 (by omega)).trans hR1.2.2.2.1)) hR1.2.2.2.2.1) (fun i hi => ?_) (fun x hx => ?_)
          · obtain ⟨g1, g2⟩ := hg
            refine And.intro g1 ?_
            show Q (some (.int ((2 : Int32) * iF1 32 6 - 2))) (Mg L (up1 iF3 32 (up1 (iF3 32) 4 0)) (up1 (up1 (up1 aI1 33 f2) 33 f3) 33 (up1 f3 1 ((2 : Int32) * iF1 32 6 - 2))) aL)
            rw [e2, up1_up1 aI1]
            exact g2
          · rw [mch_get ec k1 k2 (by omega)]
            by_cases z : i < 2 * k - 1
            · rw [if_pos z, z5 (2 + i) (by omega)]
              show f2 (2 + i) = _
              have := y4 i (by omega)
              rw [Nat.zero_add] at this
              rw [this]
              exact hM.2.2.2.2.2 _ (by unfold tb; split <;> omega)
            · rw [if_neg z]
              have := z4 (i - (2 * k - 1)) (by omega)
              rw [show 2 + (0 + (2 * (k - 0) - 1) + (i - (2 * k - 1))) = 2 + i by omega] at this
              rw [this]
              exact hM.2.2.2.2.2 _ (by unfold tb; split <;> omega)
          · rw [z5 x (by omega)]
            show f2 x = _
            exact y5 x (by omega)
        · have h : ¬ (2 : Int32) * iF1 32 6 - 2 ≤ 40 := h
          rw [e2] at h
          have h : ¬ (mch P).length ≤ 40 := fun q => h ((nI_leI (b := 40) (by omega) (by omega)).mpr q)
          exact full (by omega)
  · rintro k pc ls st g' ⟨j, f, P, iF1, aI1, rfl, e, ec, h40, hM, hF, hR1, rfl, rfl, rfl, rfl, hj, h1, h2⟩
    obtain ⟨p1, p2, p3⟩ := mok_PV hW.1.1.2 hW.1.1.1 e
    have hlen := p2.1
    have l1 := (mch_len p2 p3).1 ec
    have hmc : mch P = P.2.1 := by unfold mch; rw [ec]
    refine br_c (fun h => ?_) (fun h => ?_)
    · have h : iF1 32 6 ≤ nI j := h
      rw [hM.1] at h
      have h : P.2.1.length ≤ j := (nI_leI (by omega) (by omega)).mp h
      have hg := fin P iF1 aI1 f e h40 hF hR1 (fun i hi => by rw [hmc]; exact h1 i (by omega)) (fun x hx => h2 x (by omega))
      rw [l1] at hg
      exact hg
    · have h : ¬ iF1 32 6 ≤ nI j := h
      rw [hM.1] at h
      have h : ¬ P.2.1.length ≤ j := fun q => h ((nI_leI (by omega) (by omega)).mpr q)
      have e45 : (2 : Int32) + nI j = nI (2 + j) := by rw [← nI_add]; rfl
      have e37 : aI1 37 (nI j).toNatClampNeg = nI (P.2.1.getD j 0) := by rw [cl1 (by omega)]; exact hM.2.2.2.2.2 j (by omega)
      refine And.intro (vp_in_nI (by omega) (by omega)) (And.intro (by rw [e45]; exact vp_in_nI (by omega) (by omega)) ⟨40 - (j + 1), (by omega), j + 1, up1 f (2 + j) (nI (P.2.1.getD j 0)), P, iF1, aI1, rfl, e, ec, h40, hM, hF, hR1, ?_, rfl, ?_, rfl, (by omega), fun i hi => ?_, fun x hx => ?_⟩)
      · show [Value.ref 32, _, .int (nI j + 1)] = _
        rw [nI_1]
      · show Mg L iF1 (up1 (up1 aI1 33 f) 33 (up1 f ((2 : Int32) + nI j).toNatClampNeg (aI1 37 (nI j).toNatClampNeg))) aL = _
        rw [e37, e45, cl1 (by omega), up1_up1]
      · by_cases z : i = j
        · rw [z, up1_s]
        · rw [up1_n _ _ (by omega)]; exact h1 i (by omega)
      · rw [up1_n _ _ (by omega)]; exact h2 x hx

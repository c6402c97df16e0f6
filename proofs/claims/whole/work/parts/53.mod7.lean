def pX11_falseHead : Spc := fun As g Q => ∃ L iF aI aL S sr i, g = Mg L iF aI aL ∧ As = [.ref 32, .int i] ∧ RS (aI 33) S ∧ VS S ∧ sr + 400 < 2 ^ 30 ∧ iF 32 17 = nI sr ∧ MI sr (aI 41) ∧ qry L iF aI aL sr Q (if (sC S).length = 0 then -3 else fhA S i)
set_option maxHeartbeats 4000000 in
theorem oX11_falseHead : Ok 4 yX11_falseHead cX11_falseHead 4 (some .int) pX11_falseHead := by
  refine ok_all fun As g Q h => ?_
  obtain ⟨L, iF, aI, aL, S, sr, i, rfl, rfl, hR, hS, hsr, h17, hMI, hQ⟩ := h
  have hn := hS.1.2
  have hc := hS.2.1.1
  refine at_of (fun pc => pc == 30) 80 (fun m pc ls st g' => ∃ r c V iF' aI', pc = 30 ∧ ls = [.ref 32, .int i, .int (nI c), .int (nI r)] ∧ st = [] ∧ g' = Mg L iF' aI' aL ∧ m = 50000 - r ∧ r ≤ 40320 ∧ c ≤ r ∧ (sC S).length ≠ 0 ∧ agS aI aI' ∧ (∀ k, k ≠ 32 → iF' k = iF k) ∧ (∀ j, j ≠ 15 → j ≠ 17 → j ≠ 19 → iF' 32 j = iF 32 j) ∧ iF' 32 17 = nI (sr + 1) ∧ MW (sN S) (sr + 1) V (aI' 41) (aI' 42) ∧ isFH S V ∧ fhA S i = fhF S i (40320 - r) r c) (by decide) rfl sX11_falseHead (nl (n := 2) rfl rfl rfl) ?_ ?_
  · refine And.intro (vp_in_nI (n := 1) (N := 85) (by omega) (by omega)) ?_
    refine And.intro (fun h => ?_) (fun h => ?_)
    · have h : ¬ aI 33 1 = 0 := h
      rw [hR.2.1] at h
      have h : (sC S).length ≠ 0 := fun e => h (by rw [e]; rfl)
      rw [if_neg h] at hQ
      refine ⟨L, iF, aI, aL, S, sr, rfl, rfl, hR, hS, by omega, h17, hMI, fun V iF' aI' g1 g2 g3 g4 g5 g6 g7 => ?_⟩
      refine And.intro (fun h1 => ?_) (fun h1 => ?_)
      · have h1 : ¬ i = -1 := h1
        exact ⟨50000, 0, 0, V, iF', aI', rfl, rfl, rfl, rfl, rfl, by omega, by omega, h, g1, g2, g3, g4, g6, g7, if_neg h1⟩
      · have h1 : i = -1 := h1
        have e : iF' 32 19 = fhA S i := by rw [g5, fhN_len hS g7 g6.2.1]; unfold fhA; rw [if_pos h1]
        show Q (some (.int (iF' 32 19))) (Mg L iF' aI' aL)
        rw [e]
        exact hQ iF' aI' (sr + 1) g1 g2 (g3 4 (by decide) (by decide) (by decide)) (by omega) g4 g6.MI
    · have h : aI 33 1 = 0 := h
      rw [hR.2.1] at h
      have h : (sC S).length = 0 := (nI_eq (b := 0) (by omega) (by omega)).mp h
      rw [if_pos h] at hQ
      exact hQ iF aI sr agS.rf (fun _ _ => rfl) rfl (by omega) h17 hMI
  · rintro m pc ls st g' ⟨r, c, V, iF', aI', rfl, rfl, rfl, rfl, rfl, hr, hcr, hK, g1, g2, g3, g4, g6, g7, he⟩
    rw [if_neg hK] at hQ
    have q4 : iF' 32 4 = iF 32 4 := g3 4 (by decide) (by decide) (by decide)
    refine br_c (fun h => ?_) (fun h => ?_)
    · have h : 40320 ≤ r := (nI_leI (a := 40320) (by omega) (by omega)).mp h
      have e : fhA S i = -6 := by rw [he, show 40320 - r = 0 by omega]; rfl
      rw [e] at hQ
      exact hQ iF' aI' (sr + 1) g1 g2 q4 (by omega) g4 g6.MI
    · have h : ¬ 40320 ≤ r := fun q => h ((nI_leI (a := 40320) (by omega) (by omega)).mpr q)
      rw [show 40320 - r = (40320 - (r + 1)) + 1 by omega] at he
      have he : fhA S i = if fhB S r = true then (if nI c = i then nI (num (sN S) (unr (sN S) r)) else fhF S i (40320 - (r + 1)) (r + 1) (c + 1)) else fhF S i (40320 - (r + 1)) (r + 1) c := he
      obtain ⟨c', c1, c2, c3⟩ := g6.2.2.1 r (by omega)
      have hb : fhB S r = true ↔ c' = sr + 1 := by
        rw [fhB_iff, c3]
        constructor
        · rintro ⟨x, hx, e⟩; exact ⟨x, (g7 x).mpr hx, e⟩
        · rintro ⟨x, hx, e⟩; exact ⟨x, (g7 x).mp hx, e⟩
      have em : aI' 41 (nI r).toNatClampNeg = nI c' := by rw [cl1 (by omega)]; exact c2
      refine And.intro (vp_in_nI (by omega) (by omega)) ?_
      refine And.intro (fun h1 => ?_) (fun h1 => ?_)
      · have h1 : ¬ aI' 41 (nI r).toNatClampNeg = iF' 32 17 := h1
        rw [em, g4] at h1
        rw [if_neg (fun z => h1 (by rw [hb.mp z]))] at he
        refine ⟨50000 - (r + 1), by omega, r + 1, c, V, iF', aI', rfl, ?_, rfl, rfl, rfl, by omega, by omega, hK, g1, g2, g3, g4, g6, g7, he⟩
        show [Value.ref 32, .int i, .int (nI c), .int (nI r + 1)] = _
        rw [nI_1]
      · have h1 : aI' 41 (nI r).toNatClampNeg = iF' 32 17 := h1
        rw [em, g4] at h1
        have h1 : c' = sr + 1 := (nI_eq (by omega) (by omega)).mp h1
        rw [if_pos (hb.mpr h1)] at he
        refine And.intro (fun h2 => ?_) (fun h2 => ?_)
        · have h2 : ¬ nI c = i := h2
          rw [if_neg h2] at he
          refine ⟨50000 - (r + 1), by omega, r + 1, c + 1, V, iF', aI', rfl, ?_, rfl, rfl, rfl, by omega, by omega, hK, g1, g2, g3, g4, g6, g7, he⟩
          show [Value.ref 32, .int i, .int (nI c + 1), .int (nI r + 1)] = _
          rw [nI_1, nI_1]
        · have h2 : nI c = i := h2
          rw [if_pos h2] at he
          obtain ⟨x, hx, ex⟩ := c3.mp h1
          have hPx := g6.1 x hx
          have hN : aI' 33 0 = nI (sN S) := by rw [g1 33 (by omega)]; exact hR.1
          rw [← ex, unr_rk hPx] at he
          refine ⟨L, iF', aI', aL, sN S, x, rfl, by rw [ex], hS.1.1, hn, hN, hPx, fun f u hf => ?_⟩
          refine ⟨L, iF', _, aL, sN S, x, rfl, rfl, hn, hN, hf, ?_⟩
          rw [he] at hQ
          exact hQ iF' _ (sr + 1) ((g1.up (by omega)).up (by omega)) g2 q4 (by omega) g4 g6.MI
def pX11_layReached : Spc := fun As g Q => ∃ L iF aI aL S sr ls, g = Mg L iF aI aL ∧ As = [.ref 32, .int (nI ls)] ∧ RS (aI 33) S ∧ VS S ∧ sr + 1 < 2 ^ 30 ∧ ls < 8 ∧ iF 32 17 = nI sr ∧ MI sr (aI 41) ∧
  ∀ iF' aI', agS aI aI' → (∀ k, k ≠ 32 → iF' k = iF k) → (∀ j, j ≠ 17 → j ≠ 19 → iF' 32 j = iF 32 j) → iF' 32 17 = nI (sr + 1) → iF' 32 19 = nI (BFS S ls).length → MW (sN S) (sr + 1) (kys (BFS S ls)) (aI' 41) (aI' 42) → BD (sN S) (BFS S ls) (aI' 45) (aI' 46) (aI' 47) → Q none (Mg L iF' aI' aL)
theorem ad_pre (E : List Ent) (e : Ent) : ∃ F, ad E e = E ++ F := by
  unfold ad
  split
  · exact ⟨[], (List.append_nil _).symm⟩
  · exact ⟨[e], rfl⟩
theorem adT_pre (S : Stg) (ls : Nat) (e : Ent) (E : List Ent) : ∀ j, ∃ F, adT S ls e E j = E ++ F
  | 0 => ⟨[], (List.append_nil _).symm⟩
  | j + 1 => by
    obtain ⟨F, hF⟩ := adT_pre S ls e E j
    show ∃ F, (if bq ls j = true then ad (adT S ls e E j) _ else adT S ls e E j) = E ++ F
    split
    · obtain ⟨G, hG⟩ := ad_pre (adT S ls e E j) (led S j e.1, e.1, j, e.2.2.2 + 1)
      exact ⟨F ++ G, by rw [hG, hF, List.append_assoc]⟩
    · exact ⟨F, hF⟩
theorem entD_pre {E F : List Ent} {i : Nat} (h : i < E.length) : (E ++ F).getD i (0, 0, 0, 0) = E.getD i (0, 0, 0, 0) := by
  rw [List.getD_eq_getElem?_getD, List.getD_eq_getElem?_getD, List.getElem?_append_left h]
/-- depths are at most the place in the list -/
def DL (E : List Ent) : Prop := ∀ i, i < E.length → (E.getD i (0, 0, 0, 0)).2.2.2 ≤ i
theorem DL.ad {E : List Ent} {e : Ent} {k : Nat} (h : DL E) (hk : k < E.length) (he : e.2.2.2 ≤ k + 1) : DL (ad E e) := by
  unfold Jvm.Pilot.CBellTouchesLaw_law_r3018_e1d17a.ad
  split
  · exact h
  · intro i hi
    rw [List.length_append] at hi
    by_cases hl : i < E.length
    · rw [entD_pre hl]; exact h i hl
    · have e1 : i = E.length := by simp at hi; omega
      rw [List.getD_eq_getElem?_getD, List.getElem?_append_right (by omega), e1, Nat.sub_self]
      show e.2.2.2 ≤ E.length
      omega
theorem DL.adT {S : Stg} {ls k : Nat} {E : List Ent} (h : DL E) (hk : k < E.length) : ∀ j, DL (adT S ls (E.getD k (0, 0, 0, 0)) E j)
  | 0 => h
  | j + 1 => by
    have ih := DL.adT (S := S) (ls := ls) h hk j
    show DL (if bq ls j = true then Jvm.Pilot.CBellTouchesLaw_law_r3018_e1d17a.ad (Jvm.Pilot.CBellTouchesLaw_law_r3018_e1d17a.adT S ls _ E j) _ else Jvm.Pilot.CBellTouchesLaw_law_r3018_e1d17a.adT S ls _ E j)
    split
    · obtain ⟨F, hF⟩ := adT_pre S ls (E.getD k (0, 0, 0, 0)) E j
      refine ih.ad (k := k) (by rw [hF, List.length_append]; omega) ?_
      have := h k hk
      show _ + 1 ≤ k + 1
      omega
    · exact ih
set_option maxHeartbeats 4000000 in
theorem oX11_layReached : Ok 4 yX11_layReached cX11_layReached 4 none pX11_layReached := by
  refine ok_all fun As g Q h => ?_
  obtain ⟨L, iF, aI, aL, S, sr, ls, rfl, rfl, hR, hS, hsr, hls, h17, hMI, hQ⟩ := h
  have hn := hS.1.2
  have hfc := fct_le _ hn
  refine at_of (fun pc => pc == 19 || pc == 29) 80 (fun m pc lv st g' => (∃ i w E iF' aI', pc = 19 ∧ lv = [.ref 32, .int (nI ls), .int (nI i), w] ∧ st = [] ∧ g' = Mg L iF' aI' aL ∧ m = 10 * (50000 - i) ∧ i ≤ E.length ∧ DL E ∧ BFS S ls = bfs S ls (50000 - i) i E ∧ agS aI aI' ∧ (∀ k, k ≠ 32 → iF' k = iF k) ∧ (∀ j, j ≠ 17 → j ≠ 19 → iF' 32 j = iF 32 j) ∧ iF' 32 17 = nI (sr + 1) ∧ iF' 32 19 = nI E.length ∧ MW (sN S) (sr + 1) (kys E) (aI' 41) (aI' 42) ∧ BD (sN S) E (aI' 45) (aI' 46) (aI' 47))
      ∨ (∃ i j E iF' aI', pc = 29 ∧ lv = [.ref 32, .int (nI ls), .int (nI i), .int (nI j)] ∧ st = [] ∧ g' = Mg L iF' aI' aL ∧ m = 10 * (50000 - i) - 1 - j ∧ i < E.length ∧ j ≤ 3 ∧ DL E ∧ BFS S ls = bfs S ls (50000 - (i + 1)) (i + 1) (adT S ls (E.getD i (0, 0, 0, 0)) E 3) ∧ agS aI aI' ∧ (∀ k, k ≠ 32 → iF' k = iF k) ∧ (∀ j, j ≠ 17 → j ≠ 19 → iF' 32 j = iF 32 j) ∧ iF' 32 17 = nI (sr + 1) ∧ iF' 32 19 = nI (adT S ls (E.getD i (0, 0, 0, 0)) E j).length ∧ MW (sN S) (sr + 1) (kys (adT S ls (E.getD i (0, 0, 0, 0)) E j)) (aI' 41) (aI' 42) ∧ BD (sN S) (adT S ls (E.getD i (0, 0, 0, 0)) E j) (aI' 45) (aI' 46) (aI' 47))) (by decide) rfl sX11_layReached (nl (n := 2) rfl rfl rfl) ?_ ?_
  · refine ⟨L, _, aI, aL, sN S, sr + 1, [], rds (sN S), rfl, ?_, hn, hsr, Pm_rds hn, ?_, rfl, MI.nil hMI, fun h => (by cases h), fun _ => ?_⟩
    · rw [rk_rds hn]; rfl
    · show iF 32 17 + 1 = _
      rw [h17, nI_1]
    · obtain ⟨hM2, -⟩ := (MI.nil (n := sN S) (wave := aI 42) hMI).add hn (Pm_rds hn) (fun h => by cases h)
      rw [rk_rds hn] at hM2 ⊢
      refine And.intro (vp_in_nI (n := 0) (N := 40320) (by omega) (by omega)) ?_
      refine ⟨500000, Or.inl ⟨0, U_, [(rds (sN S), 0, 3, 0)], _, _, rfl, rfl, rfl, rfl, rfl, by simp, ?_, rfl, (((agS.rf.up (by omega)).up (by omega)).up (by omega)), ?_, ?_, ?_, rfl, hM2, ?_⟩⟩
      · intro i hi
        have e : i = 0 := by simp at hi; omega
        subst e
        exact Nat.le_refl 0
      · intro k hk
        show up1 (up1 (up1 iF 32 _) 32 _) 32 _ k = _
        rw [up1_n _ _ hk, up1_n _ _ hk, up1_n _ _ hk]
      · intro j j1 j2
        show (up1 (up1 (up1 (iF 32) 17 (iF 32 17 + 1)) 19 0) 19 (nI (0 + 1))) j = _
        rw [up1_n _ _ j2, up1_n _ _ j2, up1_n _ _ j1]
      · show iF 32 17 + 1 = _
        rw [h17, nI_1]
      · intro e he
        rw [List.mem_singleton.mp he]
        refine ⟨?_, fun z => absurd z (Nat.lt_irrefl 0)⟩
        show up1 (aI 47) 0 0 (rk (sN S) (rds (sN S))) = nI 0
        rw [rk_rds hn, up1_s]
        rfl
  · rintro m pc lv st g' (⟨i, w, E, iF', aI', rfl, rfl, rfl, rfl, rfl, hi, hD, hB, g1, g2, g3, g4, g5, g6, g7⟩ | ⟨i, j, E, iF', aI', rfl, rfl, rfl, rfl, rfl, hi, hj, hD, hB, g1, g2, g3, g4, g5, g6, g7⟩)
    · have hlen := g6.len hn
      rw [kys_len] at hlen
      refine br_c (fun h => ?_) (fun h => ?_)
      · have h : iF' 32 19 ≤ nI i := h
        rw [g5] at h
        have h : E.length ≤ i := (nI_leI (by omega) (by omega)).mp h
        have e : BFS S ls = E := by
          rw [hB, show 50000 - i = (50000 - i - 1) + 1 by omega]
          exact if_neg (by omega)
        rw [e] at hQ
        exact hQ iF' aI' g1 g2 g3 g4 g5 g6 g7
      · have h : ¬ iF' 32 19 ≤ nI i := h
        rw [g5] at h
        have h : ¬ E.length ≤ i := fun q => h ((nI_leI (by omega) (by omega)).mpr q)
        refine ⟨10 * (50000 - i) - 1, by omega, Or.inr ⟨i, 0, E, iF', aI', rfl, rfl, rfl, rfl, rfl, by omega, by omega, hD, ?_, g1, g2, g3, g4, g5, g6, g7⟩⟩
        rw [hB, show 50000 - i = (50000 - (i + 1)) + 1 by omega]
        exact if_pos (by omega)
    · have hlen := g6.len hn
      rw [kys_len] at hlen
      obtain ⟨F, hF⟩ := adT_pre S ls (E.getD i (0, 0, 0, 0)) E j
      have hlE : E.length ≤ (adT S ls (E.getD i (0, 0, 0, 0)) E j).length := by rw [hF, List.length_append]; omega
      refine br_c (fun h => ?_) (fun h => ?_)
      · have h : 3 ≤ j := (nI_leI (a := 3) (by omega) (by omega)).mp h
        have e : j = 3 := by omega
        subst e
        refine ⟨10 * (50000 - (i + 1)), by omega, Or.inl ⟨i + 1, .int (nI 3), _, iF', aI', rfl, ?_, rfl, rfl, rfl, by omega, hD.adT hi 3, hB, g1, g2, g3, g4, g5, g6, g7⟩⟩
        show [Value.ref 32, .int (nI ls), .int (nI i + 1), .int (nI 3)] = _
        rw [nI_1]
      · have h : ¬ 3 ≤ j := fun q => h ((nI_leI (a := 3) (by omega) (by omega)).mpr q)
        refine And.intro (fun h1 => ?_) (fun h1 => ?_)
        · have hb : bq ls j = false := by
            cases hc : bq ls j with
            | false => rfl
            | true => exact absurd ((bq_int (by omega) (by omega)).mpr hc) h1
          have e : adT S ls (E.getD i (0, 0, 0, 0)) E (j + 1) = adT S ls (E.getD i (0, 0, 0, 0)) E j := if_neg (by rw [hb]; simp)
          refine ⟨10 * (50000 - i) - 1 - (j + 1), by omega, Or.inr ⟨i, j + 1, E, iF', aI', rfl, ?_, rfl, rfl, rfl, hi, by omega, hD, hB, g1, g2, g3, g4, ?_, ?_, ?_⟩⟩
          · show [Value.ref 32, .int (nI ls), .int (nI i), .int (nI j + 1)] = _
            rw [nI_1]
          · rw [e]; exact g5
          · rw [e]; exact g6
          · rw [e]; exact g7
        · have hb : bq ls j = true := (bq_int (by omega) (by omega)).mp h1
          have e : adT S ls (E.getD i (0, 0, 0, 0)) E (j + 1) = ad (adT S ls (E.getD i (0, 0, 0, 0)) E j) (led S j (E.getD i (0, 0, 0, 0)).1, (E.getD i (0, 0, 0, 0)).1, j, (E.getD i (0, 0, 0, 0)).2.2.2 + 1) := if_pos hb
          have ew : aI' 42 (nI i).toNatClampNeg = nI (rk (sN S) (E.getD i (0, 0, 0, 0)).1) := by
            rw [cl1 (by omega), g6.2.2.2 i (by rw [kys_len]; omega), kys_getD (by omega), hF, entD_pre hi]
          have hmem : E.getD i (0, 0, 0, 0) ∈ adT S ls (E.getD i (0, 0, 0, 0)) E j := by
            have := entD_mem hi
            generalize E.getD i (0, 0, 0, 0) = ee at this hF ⊢
            rw [hF]
            exact List.mem_append_left _ this
          have hdep := hD i hi
          have hR2 : RS (aI' 33) S := by rw [g1 33 (by omega)]; exact hR
          refine And.intro (vp_in_nI (by omega) (by omega)) ?_
          refine ⟨L, iF', aI', aL, S, sr + 1, _, E.getD i (0, 0, 0, 0), j, rfl, ?_, hR2, hS, hsr, by omega, hmem, by omega, g4, g5, g6, g7, fun iF2 aI2 k1 k2 k3 k4 k5 k6 => ?_⟩
          · show [Value.ref 32, .int (aI' 42 (nI i).toNatClampNeg), .int (nI j)] = _
            rw [ew]
          refine ⟨10 * (50000 - i) - 1 - (j + 1), by omega, Or.inr ⟨i, j + 1, E, iF2, aI2, rfl, ?_, rfl, rfl, rfl, hi, by omega, hD, hB, g1.tr k1, fun k hk => (k2 k hk).trans (g2 k hk), fun j' a1 a2 => (k3 j' a2).trans (g3 j' a1 a2), ?_, ?_, ?_, ?_⟩⟩
          · show [Value.ref 32, .int (nI ls), .int (nI i), .int (nI j + 1)] = _
            rw [nI_1]
          · rw [k3 17 (by decide)]; exact g4
          · rw [e]; exact k4
          · rw [e]; exact k5
          · rw [e]; exact k6

theorem WE.nil (S : Stg) : WE S [] := ⟨fun e h => absurd h List.not_mem_nil, fun e h => absurd h List.not_mem_nil, List.nodup_nil, fun e h => absurd h List.not_mem_nil, fun i h => absurd h (Nat.not_lt_zero i)⟩
theorem WE.one {S : Stg} (hn : sN S ≤ 8) : WE S [(rds (sN S), 0, 3, 0)] := by
  refine ⟨fun e he _ => ?_, fun e he h0 => ?_, ?_, fun e he => ?_, fun i hi => ?_⟩
  · rw [List.mem_singleton.mp he]
  · rw [List.mem_singleton.mp he] at h0; exact absurd h0 (Nat.lt_irrefl 0)
  · show [rds (sN S)].Nodup
    simp
  · rw [List.mem_singleton.mp he]; exact Pm_rds hn
  · have e : i = 0 := by simp at hi; omega
    subst e
    exact Nat.le_refl 0
theorem ad_y {E : List Ent} {e : Ent} (h : e.1 ∈ kys E) : ad E e = E := if_pos h
theorem ad_n {E : List Ent} {e : Ent} (h : e.1 ∉ kys E) : ad E e = E ++ [e] := if_neg h
theorem add_SR {S : Stg} {ls fl : Nat} {E : List Ent} {z : Zt} {iF aI : Nat → Nat → Int32} {aL : Nat → Nat → Int64} (e : Ent) (hn : sN S ≤ 8) (h : SR S ls fl E z iF aI aL) (hW : WE S (ad E e)) :
    ∃ c b, RT 24 c b fl (BM E) z iF aL ∧ (BM E).length + 1 < 2 ^ b ∧ z.2 26 ≤ 40320 ∧ (BM E).length ≤ 40320 ∧ (e.1 ∉ ksA (BM E) → (BM E).length < z.2 26) ∧ iF 23 2 = nI (BM E).length ∧ (e.1 ∈ ksA (BM E) → SR S ls fl (ad E e) z iF aI aL) ∧ (e.1 ∉ ksA (BM E) → ∀ aL', (∀ k, k ≠ 25 → aL' k = aL k) → RT 24 c b fl (BM E ++ [(e.1, e.2.2.1)]) z (up1 iF 23 (up1 (iF 23) 2 (nI ((BM E).length + 1)))) aL' → SR S ls fl (ad E e) z (up1 iF 23 (up1 (iF 23) 2 (nI ((BM E).length + 1)))) (up1 aI 26 (up1 (aI 26) (BM E).length (nI e.1))) aL' ∧ SF 25 z iF aI aL z (up1 iF 23 (up1 (iF 23) 2 (nI ((BM E).length + 1)))) (up1 aI 26 (up1 (aI 26) (BM E).length (nI e.1))) aL') := by
  have h0 := h
  obtain ⟨hL, hq, hf, ⟨c, b, hM, hb⟩, h2, h3, h26, hWE⟩ := h
  have hlen := hWE.len hn
  have hfc := fct_le _ hn
  refine ⟨c, b, hM, (by rw [BM_len]; omega), hL.2.2.1.2, (by rw [BM_len]; omega), fun hx => ?_, (by rw [BM_len]; exact h2), fun hx => ?_, fun hx aL' a1 a2 => ?_⟩
  · rw [ksA_BM] at hx
    rw [ad_n hx] at hW
    have := hW.len hn
    rw [List.length_append] at this
    have : E.length + 1 ≤ fct (sN S) := this
    rw [BM_len]
    omega
  · rw [ksA_BM] at hx
    rw [ad_y hx]
    exact h0
  · rw [ksA_BM] at hx
    rw [BM_len] at a2 ⊢
    refine ⟨?_, ((SF.rf.fld _).arr _).al a1⟩
    rw [ad_n hx] at hW ⊢
    refine ⟨hL, hq, hf, ⟨c, b, (by rw [BM_app]; exact a2), hb⟩, (by show nI (E.length + 1) = _; rw [List.length_append]; rfl), h3, fun i hi => ?_, hW⟩
    rw [List.length_append] at hi
    rw [up1_s]
    by_cases e1 : i < E.length
    · rw [up1_n _ _ (by omega), entD_pre e1]; exact h26 i e1
    · have e2 : i = E.length := by simp at hi; omega
      rw [e2, up1_s, List.getD_eq_getElem?_getD, List.getElem?_append_right (Nat.le_refl _), Nat.sub_self]
      rfl
def pX8_find : Spc := fun As g Q => ∃ z iF aI aL S ls c fl, g = Cg z iF aI aL ∧ As = [.ref 23, .ref 14, .int (nI ls)] ∧ VS S ∧ LD iF aI S ∧ (sC S).length ≠ 0 ∧ ls < 8 ∧ Lok z.2 ∧ QL z ∧ RT0 24 c fl z iF aL ∧ fl + 1 < 2 ^ 30 ∧ ∀ z' iF' aI' aL', SF 25 z iF aI aL z' iF' aI' aL' → SR S ls (fl + 1) (BFS S ls) z' iF' aI' aL' → Q none (Cg z' iF' aI' aL')
theorem Lok_q {L : Nat → Nat} {n : Nat} (h : Lok L) (h1 : 1 ≤ n) (h2 : n ≤ 40320) : Lok (up1 L 26 n) := by
  unfold Lok at h ⊢
  show (1 ≤ L 19 ∧ L 19 ≤ 4096) ∧ (1 ≤ L 25 ∧ L 25 ≤ 65536) ∧ (1 ≤ n ∧ n ≤ 40320) ∧ 1 ≤ L 31 ∧ L 31 ≤ 512
  omega
set_option maxHeartbeats 2000000 in
theorem oX8_find : Ok 3 yX8_find cX8_find 7 none pX8_find := by
  refine ok_all fun As g Q h => ?_
  obtain ⟨z, iF, aI, aL, S, ls, c, fl, rfl, rfl, hS, hD, h0, hls, hL, hq, hT0, hfl, hQ⟩ := h
  have hn := hS.1.2
  have hn4 := hS.1.1
  have hfc := fct_le _ hn
  obtain ⟨hf24, hfe⟩ := fct_24 (sN S) (by omega) hn4
  refine at_of (fun pc => pc == 24 || (pc == 54 || pc == 96)) 100 (fun k pc lv st g' => (∃ z1 aI1 aL1 c1, pc = 24 ∧ lv = [.ref 23, .ref 14, .int (nI ls), .int (nI (fct (sN S))), U_, U_, U_] ∧ st = [] ∧ g' = Cg z1 iF aI1 aL1 ∧ k = 600000 ∧ SF 25 z iF aI aL z1 iF aI1 aL1 ∧ Lok z1.2 ∧ QL z1 ∧ fct (sN S) ≤ z1.2 26 ∧ RT0 24 c1 fl z1 iF aL1)
      ∨ (∃ i E z2 iF2 aI2 aL2 w5 w6, pc = 54 ∧ lv = [.ref 23, .ref 14, .int (nI ls), .int (nI (fct (sN S))), .int (nI i), w5, w6] ∧ st = [] ∧ g' = Cg z2 iF2 aI2 aL2 ∧ k = 10 * (50000 - i) ∧ i ≤ E.length ∧ BFS S ls = bfs S ls (50000 - i) i E ∧ SF 25 z iF aI aL z2 iF2 aI2 aL2 ∧ SR S ls (fl + 1) E z2 iF2 aI2 aL2)
      ∨ (∃ i j E z2 iF2 aI2 aL2, pc = 96 ∧ lv = [.ref 23, .ref 14, .int (nI ls), .int (nI (fct (sN S))), .int (nI i), .int (nI (thr (sN S) (E.getD i (0, 0, 0, 0)).1 (bdy S))), .int (nI j)] ∧ st = [] ∧ g' = Cg z2 iF2 aI2 aL2 ∧ k = 10 * (50000 - i) - 1 - j ∧ i < E.length ∧ j ≤ 3 ∧ WE S E ∧ BFS S ls = bfs S ls (50000 - (i + 1)) (i + 1) (adT S ls (E.getD i (0, 0, 0, 0)) E 3) ∧ SF 25 z iF aI aL z2 iF2 aI2 aL2 ∧ SR S ls (fl + 1) (adT S ls (E.getD i (0, 0, 0, 0)) E j) z2 iF2 aI2 aL2)) (by decide) rfl sX8_find (nl (n := 3) rfl rfl rfl) ?_ ?_
  · refine ⟨sN S, (by omega), hn, (by show [Value.int (iF 14 0)] = _; rw [hD.1]), ?_⟩
    have hz26 := hL.2.2.1.2
    refine pk_le (fct (sN S)) (z.2 26) (fun h => ?_) (fun h => ?_)
    · exact ⟨600000, Or.inl ⟨z, aI, aL, c, rfl, rfl, rfl, rfl, rfl, SF.rf, hL, hq, h, hT0⟩⟩
    · have hcl : (nI (fct (sN S))).toNatClampNeg = fct (sN S) := cl1 (by omega)
      refine And.intro ⟨nI_ge0 (by omega), (by rw [hcl]; omega), rfl, nrf_48, Fit_48 hL (by rw [hcl]; omega)⟩ ?_
      have hsh : ∀ n, up1 (up1 (up1 (SH z) 48 (some (.inr (0, n)))) 26 ((up1 (SH z) 48 (some (.inr (0, n)))) 48)) 48 none = SH (z.1, up1 z.2 26 n) := fun n => SH_gr (by decide) (fun _ => rfl)
      refine And.intro ⟨rfl, rfl, rfl, rfl, hL.2.2.1.1, (by show 2 * z.2 26 ≤ (nI (fct (sN S))).toNatClampNeg; rw [hcl]; exact hq.dbl hn4 hn h), nrf_t' (by decide +kernel), rfl, nrf_48', ?_⟩ ?_
      · show Fit (up1 (up1 (up1 (SH z) 48 (some (.inr (0, _)))) 26 ((up1 (SH z) 48 (some (.inr (0, _)))) 48)) 48 none)
        rw [hsh]
        refine Fit_SH ?_
        show Lok (up1 z.2 26 (nI (fct (sN S))).toNatClampNeg)
        rw [hcl]
        exact Lok_q hL (by omega) hfc
      · refine ⟨600000, Or.inl ⟨(z.1, up1 z.2 26 (fct (sN S))), up1 (up1 aI 48 (fun _ => 0)) 26 (up1 aI 48 (fun _ => 0) 48), up1 (up1 aL 48 (fun _ => 0)) 26 (up1 aL 48 (fun _ => 0) 48), c, rfl, rfl, rfl, ?_, rfl, ⟨rfl, fun k a b => up1_n _ _ b, fun _ _ _ => rfl, fun k a b _ d => ⟨(up1_n _ _ b).trans (up1_n aI _ d), (up1_n _ _ b).trans (up1_n aL _ d)⟩⟩, Lok_q hL (by omega) hfc, Or.inr ⟨sN S, hn4, hn, up1_s z.2 26 _⟩, Nat.le_of_eq (up1_s z.2 26 _).symm, hT0.of rfl rfl rfl⟩⟩
        show ((up1 (up1 (up1 (SH z) 48 (some (.inr (0, (nI (fct (sN S))).toNatClampNeg)))) 26 ((up1 (SH z) 48 (some (.inr (0, (nI (fct (sN S))).toNatClampNeg)))) 48)) 48 none, _, _, _) : Sto) = _
        rw [hsh, hcl]
        rfl
  · rintro k pc lv st g' (⟨z1, aI1, aL1, c1, rfl, rfl, rfl, rfl, rfl, g1, g2, g3, g4, g5⟩ | ⟨i, E, z2, iF2, aI2, aL2, w5, w6, rfl, rfl, rfl, rfl, rfl, hi, hB, g1, g2⟩ | ⟨i, j, E, z2, iF2, aI2, aL2, rfl, rfl, rfl, rfl, rfl, hi, hj, hWE, hB, g1, g2⟩)
    · refine ⟨z1, iF, aI1, aL1, 24, c1, fl, fct (sN S), rfl, Or.inr (Or.inl rfl), rfl, (by show _ ≤ 65536; omega), g2, g5, hfl, fun z' iF' aI' aL' c' b y1 y2 y3 y4 y5 y6 y7 => ?_⟩
      have hSR : SR S ls (fl + 1) [] z' (up1 (up1 iF' 23 (up1 (iF' 23) 2 0)) 23 (up1 (up1 (iF' 23) 2 0) 3 (nI ls))) aI' aL' := by
        refine ⟨y3, (by unfold QL; rw [y2 26 (by omega)]; exact g3), (by rw [y2 26 (by omega)]; exact g4), ⟨c', b, y6.of rfl rfl rfl, b_two y6.2.1 y7 hfe⟩, rfl, rfl, fun i h => absurd h (Nat.not_lt_zero i), WE.nil S⟩
      have q1 : SF 25 z1 iF aI1 aL1 z' iF' aI' aL' := ⟨y1, fun k a b => y2 k a, fun k a b => y4 k b, fun k a b _ d => y5 k a d⟩
      have q2 : SF 25 z1 iF aI1 aL1 z' (up1 (up1 iF' 23 (up1 (iF' 23) 2 0)) 23 (up1 (up1 (iF' 23) 2 0) 3 (nI ls))) aI' aL' := (q1.fld _).fld _
      obtain ⟨c2, b2, a1, a2, a3, a4, a5, a6, a7, a8⟩ := add_SR (rds (sN S), 0, 3, 0) hn hSR (WE.one hn)
      refine ⟨z', _, aI', aL', c2, b2, fl + 1, BM [], rds (sN S), 3, rfl, ?_, (Pm_rds hn).lt24 hn, (by omega), a1, a2, a3, a4, a5, a6, fun hx => ?_, fun hx aL3 k1 k2 => ?_⟩
      · show [Value.ref 23, .int (iF' 14 1), .int 3] = _
        rw [y4 14 (by omega), hD.2.1]
        rfl
      · exact absurd hx List.not_mem_nil
      · obtain ⟨k3, k4⟩ := a8 hx aL3 k1 k2
        exact ⟨500000, (by omega), Or.inr (Or.inl ⟨0, [(rds (sN S), 0, 3, 0)], z', _, _, aL3, U_, U_, rfl, rfl, rfl, rfl, rfl, Nat.zero_le _, rfl, g1.tr (q2.tr k4), k3⟩)⟩
    · have hlen := g2.2.2.2.2.2.2.2.len hn
      have h2 := g2.2.2.2.2.1
      have h26 := g2.2.2.2.2.2.2.1
      have hq1 := g2.2.2.1
      have hLz := g2.1.2.2.1.2
      refine pk_le E.length i (fun h => ?_) (fun h => ?_) h2
      · have e : BFS S ls = E := by
          rw [hB, show 50000 - i = (50000 - i - 1) + 1 by omega]
          exact if_neg (by omega)
        rw [e] at hQ
        exact hQ z2 iF2 aI2 aL2 g1 g2
      · refine pk_le (z2.2 26) i (fun h5 => absurd h5 (by omega)) (fun h5 => ?_)
        have hP : Pm (sN S) (E.getD i (0, 0, 0, 0)).1 := g2.2.2.2.2.2.2.2.2.2.2.1 _ (entD_mem h)
        have hiF : iF2 14 = iF 14 := g1.2.2.1 14 (by omega) (by omega)
        refine And.intro (vp_in_nI (by omega) (by omega)) ⟨(E.getD i (0, 0, 0, 0)).1, bdy S, sN S, hP.lt24 hn, (bdy_Pm hS).lt24 hn, hn, (by show [Value.int (aI2 26 (nI i).toNatClampNeg), .int (iF2 14 4), .int (iF2 14 0)] = _; rw [cl1 (by omega), h26 i h, hiF, hD.2.2.2.2.1, hD.1]), ?_⟩
        refine ⟨10 * (50000 - i) - 1, (by omega), Or.inr (Or.inr ⟨i, 0, E, z2, iF2, aI2, aL2, rfl, rfl, rfl, rfl, rfl, h, Nat.zero_le _, g2.2.2.2.2.2.2.2, ?_, g1, g2⟩)⟩
        rw [hB, show 50000 - i = (50000 - (i + 1)) + 1 by omega]
        exact if_pos h
    · have hlen := g2.2.2.2.2.2.2.2.len hn
      obtain ⟨F, hF⟩ := adT_pre S ls (E.getD i (0, 0, 0, 0)) E j
      have hlE : E.length ≤ (adT S ls (E.getD i (0, 0, 0, 0)) E j).length := by rw [hF, List.length_append]; omega
      refine pk_le 3 j (fun h => ?_) (fun h => ?_)
      · have e : j = 3 := by omega
        subst e
        exact ⟨10 * (50000 - (i + 1)), (by omega), Or.inr (Or.inl ⟨i + 1, _, z2, iF2, aI2, aL2, .int (nI (thr (sN S) (E.getD i (0, 0, 0, 0)).1 (bdy S))), .int (nI 3), rfl, (by show [Value.ref 23, .ref 14, .int (nI ls), .int (nI (fct (sN S))), .int (nI i + 1), _, _] = _; rw [nI_1]), rfl, rfl, rfl, (by omega), hB, g1, g2⟩)⟩
      · refine And.intro (fun h1 => ?_) (fun h1 => ?_)
        · have hb : bq ls j = false := by
            cases hc : bq ls j with
            | false => rfl
            | true => exact absurd ((bq_int (by omega) (by omega)).mpr hc) h1
          have e : adT S ls (E.getD i (0, 0, 0, 0)) E (j + 1) = adT S ls (E.getD i (0, 0, 0, 0)) E j := if_neg (by rw [hb]; simp)
          exact ⟨10 * (50000 - i) - 1 - (j + 1), (by omega), Or.inr (Or.inr ⟨i, j + 1, E, z2, iF2, aI2, aL2, rfl, (by show [Value.ref 23, .ref 14, .int (nI ls), .int (nI (fct (sN S))), .int (nI i), _, .int (nI j + 1)] = _; rw [nI_1]), rfl, rfl, rfl, hi, (by omega), hWE, hB, g1, (by rw [e]; exact g2)⟩)⟩
        · have hb : bq ls j = true := (bq_int (by omega) (by omega)).mp h1
          have e : adT S ls (E.getD i (0, 0, 0, 0)) E (j + 1) = ad (adT S ls (E.getD i (0, 0, 0, 0)) E j) (led S j (E.getD i (0, 0, 0, 0)).1, (E.getD i (0, 0, 0, 0)).1, j, (E.getD i (0, 0, 0, 0)).2.2.2 + 1) := if_pos hb
          have hP : Pm (sN S) (E.getD i (0, 0, 0, 0)).1 := hWE.2.2.2.1 _ (entD_mem hi)
          have hD2 : LD iF2 aI2 S := hD.of (g1.2.2.1 14 (by omega) (by omega)) (g1.2.2.2 15 (by omega) (by omega) (by omega) (by omega)).1 ⟨rfl, rfl, rfl, rfl⟩
          refine ⟨z2, iF2, aI2, aL2, S, j, rfl, rfl, hD2, h0, (by omega), ?_⟩
          have hW2 := hWE.adT (ls := ls) hi (j + 1) (by omega)
          rw [e] at hW2
          obtain ⟨c2, b2, a1, a2, a3, a4, a5, a6, a7, a8⟩ := add_SR (led S j (E.getD i (0, 0, 0, 0)).1, (E.getD i (0, 0, 0, 0)).1, j, (E.getD i (0, 0, 0, 0)).2.2.2 + 1) hn g2 hW2
          rw [← e] at a7 a8
          refine ⟨z2, iF2, aI2, aL2, c2, b2, fl + 1, _, led S j (E.getD i (0, 0, 0, 0)).1, j, rfl, ?_, (led_Pm hP).lt24 hn, (by omega), a1, a2, a3, a4, a5, a6, fun hx => ?_, fun hx aL3 k1 k2 => ?_⟩
          · show [Value.ref 23, .int (stpd (nI (thr (sN S) (E.getD i (0, 0, 0, 0)).1 (bdy S))) (nI (stN (sN S) (lch S j)))), .int (nI j)] = _
            rw [stpd_eq hn (thr_lt _ _ _), ← led_thr hS h0 hP]
          · exact ⟨10 * (50000 - i) - 1 - (j + 1), (by omega), Or.inr (Or.inr ⟨i, j + 1, E, z2, iF2, aI2, aL2, rfl, (by show [Value.ref 23, .ref 14, .int (nI ls), .int (nI (fct (sN S))), .int (nI i), _, .int (nI j + 1)] = _; rw [nI_1]), rfl, rfl, rfl, hi, (by omega), hWE, hB, g1, a7 hx⟩)⟩
          · obtain ⟨k3, k4⟩ := a8 hx aL3 k1 k2
            exact ⟨10 * (50000 - i) - 1 - (j + 1), (by omega), Or.inr (Or.inr ⟨i, j + 1, E, z2, _, _, aL3, rfl, (by show [Value.ref 23, .ref 14, .int (nI ls), .int (nI (fct (sN S))), .int (nI i), _, .int (nI j + 1)] = _; rw [nI_1]), rfl, rfl, rfl, hi, (by omega), hWE, hB, g1.tr k4, k3⟩)⟩

/-! touches of few leads, by number -/
def lts (w n : Nat) : List Nat := (List.range n).map (fun j => w / 3 ^ (n - 1 - j) % 3)
theorem lts_len (w n : Nat) : (lts w n).length = n := by unfold lts; rw [List.length_map, List.length_range]
theorem lts_get {w n j : Nat} (h : j < n) : (lts w n).getD j 0 = w / 3 ^ (n - 1 - j) % 3 := by
  unfold lts
  rw [List.getD_eq_getElem?_getD, List.getElem?_map, List.getElem?_range h]
  rfl
/-- the setting with another touch -/
abbrev wtc (S : Stg) (lt : List Nat) : Stg := (sN S, sC S, sB S, sS S, lt)
theorem VS_wtc {S : Stg} (h : VS S) {w n : Nat} (hn : n ≤ 5) : VS (wtc S (lts w n)) := by
  refine ⟨h.1, h.2.1, h.2.2.1, h.2.2.2.1, ?_, fun l hl => ?_⟩
  · show (lts w n).length ≤ 40
    rw [lts_len]; omega
  · obtain ⟨j, -, rfl⟩ := List.mem_map.mp hl
    omega
/-- true, and round at its last row -/
def GD (S : Stg) : Prop := (∀ i j, 1 ≤ i → i < j → j ≤ tln S → trw S i ≠ trw S j) ∧ trw S (tln S) = rds (sN S)
noncomputable def gdB (S : Stg) (n w : Nat) : Bool := @decide (GD (wtc S (lts w n))) (Classical.propDecidable _)
theorem gdB_iff {S : Stg} {n w : Nat} : gdB S n w = true ↔ GD (wtc S (lts w n)) := @decide_eq_true_iff _ (Classical.propDecidable _)
def rwl (S : Stg) (i : Nat) : List Nat := (List.range i).map (fun j => trw S (j + 1))
theorem rwl_len (S : Stg) (i : Nat) : (rwl S i).length = i := by unfold rwl; rw [List.length_map, List.length_range]
theorem rwl_succ (S : Stg) (i : Nat) : rwl S (i + 1) = rwl S i ++ [trw S (i + 1)] := by
  unfold rwl
  rw [List.range_succ, List.map_append]
  rfl
theorem mem_rwl {S : Stg} {i x : Nat} : x ∈ rwl S i ↔ ∃ j, 1 ≤ j ∧ j ≤ i ∧ x = trw S j := by
  unfold rwl
  rw [List.mem_map]
  constructor
  · rintro ⟨j, h1, h2⟩
    have := List.mem_range.mp h1
    exact ⟨j + 1, by omega, by omega, h2.symm⟩
  · rintro ⟨j, h1, h2, h3⟩
    exact ⟨j - 1, List.mem_range.mpr (by omega), by rw [show j - 1 + 1 = j by omega]; exact h3.symm⟩
def rvl (S : Stg) (i : Nat) : Int32 := if i = 0 then -6 else nI (rk (sN S) (trw S i))
def pX11_isGood : Spc := fun As g Q => ∃ L iF aI aL S sr w n, g = Mg L iF aI aL ∧ As = [.ref 32, .int (nI w), .int (nI n)] ∧ RS (aI 33) S ∧ VS S ∧ sr + 1 < 2 ^ 30 ∧ w < 2 ^ 31 ∧ 1 ≤ n ∧ n ≤ 5 ∧ (sC S).length ≠ 0 ∧ iF 32 17 = nI sr ∧ MI sr (aI 41) ∧
  ∀ iF' aI', agS aI aI' → (∀ k, k ≠ 32 → iF' k = iF k) → (∀ j, j ≠ 17 → j ≠ 19 → iF' 32 j = iF 32 j) → iF' 32 17 = nI (sr + 1) → MI (sr + 1) (aI' 41) → Q (some (.int (b01 (gdB S n w)))) (Mg L iF' aI' aL)
set_option maxHeartbeats 8000000 in
theorem oX11_isGood : Ok 2 yX11_isGood cX11_isGood 8 (some .boolean) pX11_isGood := by
  refine ok_all fun As g Q h => ?_
  obtain ⟨L, iF, aI, aL, S, sr, w, n, rfl, rfl, hR, hS, hsr, hw, hn1, hn5, hK, h17, hMI, hQ⟩ := h
  have hn := hS.1.2
  have hc := hS.2.1.1
  have hfc := fct_le _ hn
  have hS' := VS_wtc hS (w := w) hn5
  have hT : tln (wtc S (lts w n)) = n * (sC S).length := by
    show (lts w n).length * (sC S).length = _
    rw [lts_len]
  have hT2 : n * (sC S).length ≤ 5 * 40 := Nat.mul_le_mul hn5 hc
  have hbad : ∀ iF' aI', ¬ GD (wtc S (lts w n)) → agS aI aI' → (∀ k, k ≠ 32 → iF' k = iF k) → (∀ j, j ≠ 17 → j ≠ 19 → iF' 32 j = iF 32 j) → iF' 32 17 = nI (sr + 1) → MI (sr + 1) (aI' 41) → ((0 : Int32) = 0 ∨ (0 : Int32) = 1) ∧ Q (some (.int 0)) (Mg L iF' aI' aL) := by
    intro iF' aI' hg g1 g2 g3 g4 g5
    have e : gdB S n w = false := by
      cases hb : gdB S n w with
      | false => rfl
      | true => exact absurd (gdB_iff.mp hb) hg
    rw [e] at hQ
    exact ⟨Or.inl rfl, hQ iF' aI' g1 g2 g3 g4 g5⟩
  refine at_of (fun pc => pc == 24 || pc == 43) 100 (fun m pc ls st g' => (∃ l z z' iF' aI', pc = 24 ∧ ls = [.ref 32, .int (nI w), .int (nI n), .int (rvl (wtc S (lts w n)) (l * (sC S).length)), .int (nI (n * (sC S).length - l * (sC S).length)), .int (nI l), z, z'] ∧ st = [] ∧ g' = Mg L iF' aI' aL ∧ m = 100 * (6 - l) ∧ l ≤ n ∧ agS aI aI' ∧ (∀ k, k ≠ 32 → iF' k = iF k) ∧ (∀ j, j ≠ 17 → j ≠ 19 → iF' 32 j = iF 32 j) ∧ iF' 32 17 = nI (sr + 1) ∧ iF' 32 19 = nI (l * (sC S).length) ∧ MW (sN S) (sr + 1) (rwl (wtc S (lts w n)) (l * (sC S).length)) (aI' 41) (aI' 42) ∧ MR (sN S) (trw (wtc S (lts w n)) (l * (sC S).length)) (aI' 38))
      ∨ (∃ l j iF' aI', pc = 43 ∧ ls = [.ref 32, .int (nI w), .int (nI n), .int (rvl (wtc S (lts w n)) (l * (sC S).length + j)), .int (nI (n * (sC S).length - (l * (sC S).length + j))), .int (nI l), .int (nI (w / 3 ^ (n - 1 - l) % 3)), .int (nI j)] ∧ st = [] ∧ g' = Mg L iF' aI' aL ∧ m = 100 * (6 - l) - 1 - j ∧ l < n ∧ j ≤ (sC S).length ∧ agS aI aI' ∧ (∀ k, k ≠ 32 → iF' k = iF k) ∧ (∀ j, j ≠ 17 → j ≠ 19 → iF' 32 j = iF 32 j) ∧ iF' 32 17 = nI (sr + 1) ∧ iF' 32 19 = nI (l * (sC S).length + j) ∧ MW (sN S) (sr + 1) (rwl (wtc S (lts w n)) (l * (sC S).length + j)) (aI' 41) (aI' 42) ∧ MR (sN S) (trw (wtc S (lts w n)) (l * (sC S).length + j)) (aI' 38))) (by decide) rfl sX11_isGood (nl (n := 3) rfl rfl rfl) ?_ ?_
  · refine ⟨L, _, aI, aL, rfl, rfl, fun f hf => ?_⟩
    refine And.intro (vp_in_nI (n := 1) (N := 85) (by omega) (by omega)) ?_
    refine ⟨600, Or.inl ⟨0, U_, U_, _, _, rfl, ?_, rfl, rfl, rfl, by omega, agS.rf.up (by omega), ?_, ?_, ?_, ?_, ?_, ?_⟩⟩
    · show [Value.ref 32, .int (nI w), .int (nI n), .int (-6), .int (nI n * aI 33 1), .int 0, U_, U_] = _
      rw [hR.2.1, nx_mul, Nat.zero_mul, Nat.sub_zero]
      rfl
    · intro k hk
      show up1 (up1 iF 32 _) 32 _ k = _
      rw [up1_n _ _ hk, up1_n _ _ hk]
    · intro j j1 j2
      show (up1 (up1 (iF 32) 17 (iF 32 17 + 1)) 19 0) j = _
      rw [up1_n _ _ j2, up1_n _ _ j1]
    · show iF 32 17 + 1 = _
      rw [h17, nI_1]
    · rw [Nat.zero_mul]; rfl
    · rw [Nat.zero_mul]; exact MI.nil hMI
    · rw [Nat.zero_mul]
      intro p hp
      show f (p + 1) = nI (dg (rds (sN S)) p + 1)
      rw [hf p (by omega), dg_rds hn hp]
  · rintro m pc ls st g' (⟨l, z, z', iF', aI', rfl, rfl, rfl, rfl, rfl, hl, g1, g2, g3, g4, g5, g6, g7⟩ | ⟨l, j, iF', aI', rfl, rfl, rfl, rfl, rfl, hl, hj, g1, g2, g3, g4, g5, g6, g7⟩)
    · refine br_c (fun h => ?_) (fun h => ?_)
      · have h : n ≤ l := (nI_leI (by omega) (by omega)).mp h
        have e : l = n := by omega
        subst e
        have hpos : l * (sC S).length ≠ 0 := Nat.mul_ne_zero (by omega) hK
        have er : rvl (wtc S (lts w l)) (l * (sC S).length) = nI (rk (sN S) (trw (wtc S (lts w l)) (l * (sC S).length))) := if_neg hpos
        have e2 : nI (rk (sN S) (trw (wtc S (lts w l)) (l * (sC S).length))) = 0 ↔ trw (wtc S (lts w l)) (l * (sC S).length) = rds (sN S) := by
          have := rkI_eq hn (trw_Pm hS' (l * (sC S).length)) (Pm_rds hn)
          rw [rk_rds hn] at this
          exact this
        refine And.intro (fun h1 => ?_) (fun h1 => ?_)
        · have h1 : ¬ rvl (wtc S (lts w l)) (l * (sC S).length) = 0 := h1
          rw [er, e2] at h1
          exact hbad iF' aI' (fun hg => h1 (by rw [← hT]; exact hg.2)) g1 g2 g3 g4 g6.MI
        · have h1 : rvl (wtc S (lts w l)) (l * (sC S).length) = 0 := h1
          rw [er, e2] at h1
          have hg : GD (wtc S (lts w l)) := by
            refine ⟨fun i j h1 h2 h3 e => ?_, by rw [hT]; exact h1⟩
            rw [hT] at h3
            have hnd := g6.2.1
            have q1 : (rwl (wtc S (lts w l)) (l * (sC S).length))[i - 1]'(by rw [rwl_len]; omega) = (rwl (wtc S (lts w l)) (l * (sC S).length))[j - 1]'(by rw [rwl_len]; omega) := by
              unfold rwl
              rw [List.getElem_map, List.getElem_map, List.getElem_range, List.getElem_range, show i - 1 + 1 = i by omega, show j - 1 + 1 = j by omega]
              exact e
            have := (List.getElem_inj hnd).mp q1
            omega
          have e3 : gdB S l w = true := gdB_iff.mpr hg
          rw [e3] at hQ
          exact And.intro (Or.inr rfl) (hQ iF' aI' g1 g2 g3 g4 g6.MI)
      · have h : ¬ n ≤ l := fun q => h ((nI_leI (by omega) (by omega)).mpr q)
        refine ⟨w, n, l, rfl, hw, by omega, hn5, ?_⟩
        exact ⟨100 * (6 - l) - 1, by omega, Or.inr ⟨l, 0, iF', aI', rfl, rfl, rfl, rfl, rfl, by omega, by omega, g1, g2, g3, g4, g5, g6, g7⟩⟩
    · have hR2 : RS (aI' 33) S := by rw [g1 33 (by omega)]; exact hR
      refine And.intro (vp_in_nI (n := 1) (N := 85) (by omega) (by omega)) ?_
      refine br_c (fun h => ?_) (fun h => ?_)
      · have h : aI' 33 1 ≤ nI j := h
        rw [hR2.2.1] at h
        have h : (sC S).length ≤ j := (nI_leI (by omega) (by omega)).mp h
        have e : j = (sC S).length := by omega
        subst e
        have e2 : l * (sC S).length + (sC S).length = (l + 1) * (sC S).length := by rw [Nat.add_mul, Nat.one_mul]
        rw [e2] at g5 g6 g7
        refine ⟨100 * (6 - (l + 1)), by omega, Or.inl ⟨l + 1, .int (nI (w / 3 ^ (n - 1 - l) % 3)), .int (nI (sC S).length), iF', aI', rfl, ?_, rfl, rfl, rfl, by omega, g1, g2, g3, g4, g5, g6, g7⟩⟩
        show [Value.ref 32, .int (nI w), .int (nI n), .int (rvl (wtc S (lts w n)) (l * (sC S).length + (sC S).length)), .int (nI (n * (sC S).length - (l * (sC S).length + (sC S).length))), .int (nI l + 1), .int (nI (w / 3 ^ (n - 1 - l) % 3)), .int (nI (sC S).length)] = _
        rw [e2, nI_1]
      · have h : ¬ aI' 33 1 ≤ nI j := h
        rw [hR2.2.1] at h
        have h : ¬ (sC S).length ≤ j := fun q => h ((nI_leI (by omega) (by omega)).mpr q)
        have hl3 : w / 3 ^ (n - 1 - l) % 3 ≤ 2 := by omega
        have hv := chOf_VM hS (l := w / 3 ^ (n - 1 - l) % 3) (k := j) (by omega)
        have hlt : l * (sC S).length + j < n * (sC S).length := by
          have := tln_lt (S := wtc S (lts w n)) (l := l) (k := j) (by show l < (lts w n).length; rw [lts_len]; exact hl) (by show j < (sC S).length; omega)
          rw [hT] at this
          exact this
        have hstep : trw (wtc S (lts w n)) (l * (sC S).length + j + 1) = chg (sN S) (chOf S (w / 3 ^ (n - 1 - l) % 3) j) (trw (wtc S (lts w n)) (l * (sC S).length + j)) := by
          have := trw_at (S := wtc S (lts w n)) (l := l) (k := j) (by show j < (sC S).length; omega)
          rw [this]
          show chg (sN S) (chOf S ((lts w n).getD l 0) j) _ = _
          rw [lts_get hl]
        have hP := trw_Pm hS' (l * (sC S).length + j + 1)
        have hrl := rk_lt (x := trw (wtc S (lts w n)) (l * (sC S).length + j + 1)) hn
        refine ⟨L, iF', aI', aL, S, w / 3 ^ (n - 1 - l) % 3, j, rfl, rfl, hR2, hS, hl3, by omega, ?_⟩
        refine ⟨L, iF', aI', aL, sN S, _, _, rfl, rfl, hS.1.1, hn, hv.1, hv.2.2, hR2.1, g7, fun f2 hf2 => ?_⟩
        rw [← hstep] at hf2
        refine ⟨L, iF', _, aL, sN S, _, rfl, rfl, hn, hR2.1, hf2, ?_⟩
        refine ⟨L, iF', _, aL, sN S, sr + 1, rwl (wtc S (lts w n)) (l * (sC S).length + j), _, rfl, rfl, hn, hsr, hP, g4, by rw [rwl_len]; exact g5, g6, fun hv2 => ?_, fun hv2 => ?_⟩
        · refine br_t rfl ?_
          refine hbad iF' _ (fun hg => ?_) (g1.up (by omega)) g2 g3 g4 g6.MI
          obtain ⟨q, q1, q2, q3⟩ := mem_rwl.mp hv2
          exact hg.1 q (l * (sC S).length + j + 1) q1 (by omega) (by rw [hT]; omega) q3.symm
        · refine br_f (by decide) ?_
          obtain ⟨hM2, hlen⟩ := g6.add hn hP hv2
          rw [← rwl_succ] at hM2
          rw [rwl_len] at hM2
          have e2 : nI (rk (sN S) (trw (wtc S (lts w n)) (l * (sC S).length + j + 1))) = 0 ↔ trw (wtc S (lts w n)) (l * (sC S).length + j + 1) = rds (sN S) := by
            have := rkI_eq hn hP (Pm_rds hn)
            rw [rk_rds hn] at this
            exact this
          have eleft : nI (n * (sC S).length - (l * (sC S).length + j)) + (-1) = nI (n * (sC S).length - (l * (sC S).length + j + 1)) := by
            rw [show n * (sC S).length - (l * (sC S).length + j) = (n * (sC S).length - (l * (sC S).length + j + 1)) + 1 by omega, pk_m1]
          have nxt : ∃ n', n' < 100 * (6 - l) - 1 - j ∧ ((∃ l' z z' iF2 aI2, 43 = 24 ∧ [Value.ref 32, .int (nI w), .int (nI n), .int (nI (rk (sN S) (trw (wtc S (lts w n)) (l * (sC S).length + j + 1)))), .int (nI (n * (sC S).length - (l * (sC S).length + j)) + (-1)), .int (nI l), .int (nI (w / 3 ^ (n - 1 - l) % 3)), .int (nI j + 1)] = [.ref 32, .int (nI w), .int (nI n), .int (rvl (wtc S (lts w n)) (l' * (sC S).length)), .int (nI (n * (sC S).length - l' * (sC S).length)), .int (nI l'), z, z'] ∧ ([] : List Value) = [] ∧ gM (Mg L iF' (up1 aI' 38 f2) aL) (rk (sN S) (trw (wtc S (lts w n)) (l * (sC S).length + j + 1))) (sr + 1) (rwl (wtc S (lts w n)) (l * (sC S).length + j)).length = Mg L iF2 aI2 aL ∧ n' = 100 * (6 - l') ∧ l' ≤ n ∧ agS aI aI2 ∧ (∀ k, k ≠ 32 → iF2 k = iF k) ∧ (∀ j, j ≠ 17 → j ≠ 19 → iF2 32 j = iF 32 j) ∧ iF2 32 17 = nI (sr + 1) ∧ iF2 32 19 = nI (l' * (sC S).length) ∧ MW (sN S) (sr + 1) (rwl (wtc S (lts w n)) (l' * (sC S).length)) (aI2 41) (aI2 42) ∧ MR (sN S) (trw (wtc S (lts w n)) (l' * (sC S).length)) (aI2 38))
      ∨ (∃ l' j' iF2 aI2, 43 = 43 ∧ [Value.ref 32, .int (nI w), .int (nI n), .int (nI (rk (sN S) (trw (wtc S (lts w n)) (l * (sC S).length + j + 1)))), .int (nI (n * (sC S).length - (l * (sC S).length + j)) + (-1)), .int (nI l), .int (nI (w / 3 ^ (n - 1 - l) % 3)), .int (nI j + 1)] = [.ref 32, .int (nI w), .int (nI n), .int (rvl (wtc S (lts w n)) (l' * (sC S).length + j')), .int (nI (n * (sC S).length - (l' * (sC S).length + j'))), .int (nI l'), .int (nI (w / 3 ^ (n - 1 - l') % 3)), .int (nI j')] ∧ ([] : List Value) = [] ∧ gM (Mg L iF' (up1 aI' 38 f2) aL) (rk (sN S) (trw (wtc S (lts w n)) (l * (sC S).length + j + 1))) (sr + 1) (rwl (wtc S (lts w n)) (l * (sC S).length + j)).length = Mg L iF2 aI2 aL ∧ n' = 100 * (6 - l') - 1 - j' ∧ l' < n ∧ j' ≤ (sC S).length ∧ agS aI aI2 ∧ (∀ k, k ≠ 32 → iF2 k = iF k) ∧ (∀ j, j ≠ 17 → j ≠ 19 → iF2 32 j = iF 32 j) ∧ iF2 32 17 = nI (sr + 1) ∧ iF2 32 19 = nI (l' * (sC S).length + j') ∧ MW (sN S) (sr + 1) (rwl (wtc S (lts w n)) (l' * (sC S).length + j')) (aI2 41) (aI2 42) ∧ MR (sN S) (trw (wtc S (lts w n)) (l' * (sC S).length + j')) (aI2 38))) := by
            refine ⟨100 * (6 - l) - 1 - (j + 1), by omega, Or.inr ⟨l, j + 1, _, _, rfl, ?_, rfl, rfl, rfl, hl, by omega, ((g1.up (by omega)).up (by omega)).up (by omega), ?_, ?_, ?_, ?_, ?_, hf2⟩⟩
            · rw [eleft, nI_1]
              show _ = [Value.ref 32, .int (nI w), .int (nI n), .int (if l * (sC S).length + (j + 1) = 0 then -6 else nI (rk (sN S) (trw (wtc S (lts w n)) (l * (sC S).length + j + 1)))), .int (nI (n * (sC S).length - (l * (sC S).length + j + 1))), .int (nI l), .int (nI (w / 3 ^ (n - 1 - l) % 3)), .int (nI (j + 1))]
              rw [if_neg (by omega)]
            · intro k hk
              show up1 iF' 32 _ k = _
              rw [up1_n _ _ hk]; exact g2 k hk
            · intro i i1 i2
              show up1 iF' 32 (up1 (iF' 32) 19 _) 32 i = _
              rw [up1_s, up1_n _ _ i2]; exact g3 i i1 i2
            · show up1 iF' 32 (up1 (iF' 32) 19 _) 32 17 = _
              rw [up1_s, up1_n _ _ (by decide)]; exact g4
            · show up1 iF' 32 (up1 (iF' 32) 19 (nI ((rwl (wtc S (lts w n)) (l * (sC S).length + j)).length + 1))) 32 19 = _
              rw [up1_s, up1_s, rwl_len]
              rfl
            · show MW (sN S) (sr + 1) (rwl (wtc S (lts w n)) (l * (sC S).length + j + 1)) (up1 (aI' 41) _ _) (up1 (aI' 42) (rwl (wtc S (lts w n)) (l * (sC S).length + j)).length _)
              rw [rwl_len]
              exact hM2
          refine And.intro (fun h1 => nxt) (fun h1 => ?_)
          have h1 := e2.mp h1
          refine br_c (fun _ => nxt) (fun h3 => ?_)
          have h3 : ¬ nI (n * (sC S).length - (l * (sC S).length + j)) + (-1) ≤ 0 := h3
          rw [eleft] at h3
          have h3 : ¬ n * (sC S).length - (l * (sC S).length + j + 1) ≤ 0 := fun z => h3 ((nI_leI (b := 0) (by omega) (by omega)).mpr z)
          refine hbad _ _ (fun hg => ?_) (((g1.up (by omega)).up (by omega)).up (by omega)) (fun k hk => ?_) (fun i i1 i2 => ?_) ?_ ?_
          · refine hg.1 (l * (sC S).length + j + 1) (tln (wtc S (lts w n))) (by omega) (by rw [hT]; omega) (Nat.le_refl _) ?_
            rw [h1, hg.2]
          · show up1 iF' 32 _ k = _
            rw [up1_n _ _ hk]; exact g2 k hk
          · show up1 iF' 32 (up1 (iF' 32) 19 _) 32 i = _
            rw [up1_s, up1_n _ _ i2]; exact g3 i i1 i2
          · show up1 iF' 32 (up1 (iF' 32) 19 _) 32 17 = _
            rw [up1_s, up1_n _ _ (by decide)]; exact g4
          · exact hM2.MI

def pX11_longest : Spc := fun As g Q => ∃ L iF aI aL S sr v i, g = Mg L iF aI aL ∧ As = [.ref 32, .int v, .int i] ∧ RS (aI 33) S ∧ VS S ∧ sr + 800 < 2 ^ 30 ∧ iF 32 17 = nI sr ∧ MI sr (aI 41) ∧ qry L iF aI aL sr Q (ansLong S v i)
/-- leads of so many numbers in all -/
def s3 : Nat → Nat
  | 0 => 0
  | k + 1 => s3 k + 3 ^ (k + 1)
theorem s3_le : ∀ k, k ≤ 5 → s3 k ≤ 363 := by decide +kernel
set_option maxHeartbeats 4000000 in
theorem oX11_longest : Ok 4 yX11_longest cX11_longest 5 (some .int) pX11_longest := by
  refine ok_all fun As g Q h => ?_
  obtain ⟨L, iF, aI, aL, S, sr, v, i, rfl, rfl, hR, hS, hsr, h17, hMI, hQ⟩ := h
  have hn := hS.1.2
  have hc := hS.2.1.1
  refine at_of (fun pc => pc == 26) 120 (fun m pc ls st g' => ∃ k z iF' aI' sr', pc = 26 ∧ ls = [.ref 32, .int v, .int i, .int (nI k), z] ∧ st = [] ∧ g' = Mg L iF' aI' aL ∧ m = k ∧ k ≤ 5 ∧ (sC S).length ≠ 0 ∧ agS aI aI' ∧ (∀ k, k ≠ 32 → iF' k = iF k) ∧ (∀ j, j ≠ 17 → j ≠ 19 → iF' 32 j = iF 32 j) ∧ sr' + s3 k ≤ sr + 363 ∧ iF' 32 17 = nI sr' ∧ MI sr' (aI' 41) ∧ ansLong S v i = lgF S i k) (by decide) rfl sX11_longest (nl (n := 3) rfl rfl rfl) ?_ ?_
  · have bad : (v < 1 ∨ 5 < v) → Q (some (.int (-2))) (Mg L iF aI aL) := fun hb => by
      unfold ansLong at hQ
      rw [if_pos hb] at hQ
      exact hQ iF aI sr agS.rf (fun _ _ => rfl) rfl (by omega) h17 hMI
    refine br_c (fun h1 => ?_) (fun h1 => ?_)
    · exact And.intro (Or.inl rfl) (br_nf rfl (bad (Or.inl h1)))
    · have h1 : ¬ v < 1 := h1
      refine br_c (fun h2 => ?_) (fun h2 => ?_)
      · exact And.intro (Or.inl rfl) (br_nf rfl (bad (Or.inr h2)))
      · have h2 : ¬ 5 < v := h2
        obtain ⟨w, hw, rfl⟩ : ∃ w, w ≤ 5 ∧ v = nI w := nI_of2 (M := 5) (n := 5) (by decide) (fun z => h1 (Int32.lt_of_lt_of_le z (by decide))) (Int32.not_lt.mp h2)
        refine And.intro (Or.inr rfl) (br_nt (by decide) ?_)
        refine And.intro (vp_in_nI (n := 1) (N := 85) (by omega) (by omega)) ?_
        refine And.intro (fun h3 => ?_) (fun h3 => ?_)
        · have h3 : ¬ aI 33 1 = 0 := h3
          rw [hR.2.1] at h3
          have h3 : (sC S).length ≠ 0 := fun e => h3 (by rw [e]; rfl)
          have hs := s3_le w hw
          refine ⟨w, w, U_, iF, aI, sr, rfl, rfl, rfl, rfl, rfl, hw, h3, agS.rf, fun _ _ => rfl, fun _ _ _ => rfl, by omega, h17, hMI, ?_⟩
          unfold ansLong
          rw [if_neg (fun z => z.elim h1 h2), if_neg h3, cl1 (by omega)]
        · have h3 : aI 33 1 = 0 := h3
          rw [hR.2.1] at h3
          have h3 : (sC S).length = 0 := (nI_eq (b := 0) (by omega) (by omega)).mp h3
          unfold ansLong at hQ
          rw [if_neg (fun z => z.elim h1 h2), if_pos h3] at hQ
          exact hQ iF aI sr agS.rf (fun _ _ => rfl) rfl (by omega) h17 hMI
  · rintro m pc ls st g' ⟨k, z, iF', aI', sr', rfl, rfl, rfl, rfl, rfl, hk, hK, g1, g2, g3, g4, g5, g6, g7⟩
    have q4 : iF' 32 4 = iF 32 4 := g3 4 (by decide) (by decide)
    refine br_c (fun h => ?_) (fun h => ?_)
    · have h : m ≤ 0 := (nI_leI (b := 0) (by omega) (by omega)).mp h
      have e : m = 0 := by omega
      subst e
      rw [g7] at hQ
      exact hQ iF' aI' sr' g1 g2 q4 (by have : s3 0 = 0 := rfl; omega) g5 g6
    · have h : ¬ m ≤ 0 := fun q => h ((nI_leI (b := 0) (by omega) (by omega)).mpr q)
      obtain ⟨k, rfl⟩ : ∃ z, m = z + 1 := ⟨m - 1, by omega⟩
      have es : s3 (k + 1) = s3 k + 3 ^ (k + 1) := rfl
      have h3 := p3_le hk
      have hR2 : RS (aI' 33) S := by rw [g1 33 (by omega)]; exact hR
      have g7 : ansLong S v i = match fnd (gdB S (k + 1)) 0 (3 ^ (k + 1)) with | some w => lgW S i (k + 1) w | none => lgF S i k := g7
      refine ⟨L, iF', aI', aL, S, sr', k + 1, rfl, rfl, hR2, hS, by omega, by omega, hk, hK, g5, g6, fun iF2 aI2 sr2 k1 k2 k3 k4 k5 k6 => ?_⟩
      have r1 := g1.tr k1
      have r2 : ∀ k, k ≠ 32 → iF2 k = iF k := fun k hk => (k2 k hk).trans (g2 k hk)
      have r3 : ∀ j, j ≠ 17 → j ≠ 19 → iF2 32 j = iF 32 j := fun j j1 j2 => (k3 j j1 j2).trans (g3 j j1 j2)
      have r4 : iF2 32 4 = iF 32 4 := r3 4 (by decide) (by decide)
      have hR3 : RS (aI2 33) S := by rw [r1 33 (by omega)]; exact hR
      cases ho : fnd (gdB S (k + 1)) 0 (3 ^ (k + 1)) with
      | none =>
        rw [ho] at g7
        refine br_t (show (-6 : Int32) < 0 by decide) ?_
        refine ⟨k, by omega, k, .int (-6), iF2, aI2, sr2, rfl, ?_, rfl, rfl, rfl, by omega, hK, r1, r2, r3, by omega, k5, k6, g7⟩
        show [Value.ref 32, .int v, .int i, .int (nI (k + 1) + (-1)), .int (-6)] = _
        rw [pk_m1]
      | some w =>
        rw [ho] at g7
        have hwl := fnd_lt ho
        have g7 : ansLong S v i = lgW S i (k + 1) w := g7
        rw [g7] at hQ
        refine br_f (show ¬ nI w < 0 from nI_pos (by omega)) ?_
        refine And.intro (fun h1 => ?_) (fun h1 => ?_)
        · have h1 : ¬ i = -1 := h1
          have fin := hQ iF2 aI2 sr2 r1 r2 r4 (by omega) k5 k6
          unfold lgW at fin
          rw [if_neg h1] at fin
          refine br_c (fun h2 => ?_) (fun h2 => ?_)
          · have h2 : i < 0 := h2
            rw [if_pos (Or.inl h2)] at fin
            exact And.intro (Or.inl rfl) (br_t rfl fin)
          · have h2 : ¬ i < 0 := h2
            refine br_c (fun h4 => ?_) (fun h4 => ?_)
            · have h4 : nI (k + 1) - 1 < i := h4
              rw [if_pos (Or.inr h4)] at fin
              exact And.intro (Or.inl rfl) (br_t rfl fin)
            · have h4 : ¬ nI (k + 1) - 1 < i := h4
              rw [if_neg (fun z => z.elim h2 h4)] at fin
              obtain ⟨d, hd, rfl⟩ := nI_of h2
              have hdk : d ≤ k := by
                rw [nI_pred] at h4
                rcases Nat.lt_or_ge k d with q | q
                · exact absurd (nI_lt q hd) h4
                · exact q
              rw [cl1 hd] at fin
              refine And.intro (Or.inr rfl) (br_f (by decide) ?_)
              exact ⟨w, k + 1, d, rfl, by omega, by omega, hk, fin⟩
        · have h1 : i = -1 := h1
          have fin := hQ iF2 aI2 sr2 r1 r2 r4 (by omega) k5 k6
          unfold lgW at fin
          rw [if_pos h1] at fin
          refine And.intro (vp_in_nI (n := 1) (N := 85) (by omega) (by omega)) ?_
          show Q (some (.int (nI (k + 1) * aI2 33 1))) (Mg L iF2 aI2 aL)
          rw [hR3.2.1, nx_mul]
          exact fin

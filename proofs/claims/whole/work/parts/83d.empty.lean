set_option maxHeartbeats 2000000 in
theorem oX6_empty : Ok 0 yX6_empty cX6_empty 2 none pX6_empty := by
  refine ok_all fun As g Q h => ?_
  obtain ⟨z, iF, aI, aL, t, c, fl, r, rfl, ht, rfl, hr, hL, ⟨hLt, h2, E, hE⟩, hfl, hQ⟩ := h
  have hmx := tmx_le t
  have hmp := p216 hmx
  have hrI : nI r + nI r / 2 = nI (r + r / 2) := by rw [show (2 : Int32) = nI 2 from rfl, pk_div (by omega) (by omega) (by omega), nI_add]
  have hc16 : c ≤ 16 := by
    refine pow_le_c (d := 16) ?_
    rw [← hLt]
    unfold Lok at hL
    rcases ht with rfl | rfl | rfl
    · show z.2 19 ≤ 65536; omega
    · show z.2 25 ≤ 65536; omega
    · show z.2 31 ≤ 65536; omega
  have hb31 : ∀ b, b ≤ tmx t → 2 ^ b ≤ 65536 := fun b hb => p216 (by omega)
  have fin1 : ∀ b, 1 ≤ b → b ≤ c → r + r / 2 ≤ 2 ^ b → Q none (Cg z (up1 (up1 iF t (up1 (iF t) 1 (nI b))) t (up1 (up1 (iF t) 1 (nI b)) 2 (iF t 2 + 1))) aI aL) := by
    intro b hb1 hb2 hb3
    refine hQ z _ aI aL c b rfl (fun _ _ => rfl) hL (fun k hk => by rw [up1_n _ _ hk, up1_n _ _ hk]) (fun _ _ _ => ⟨rfl, rfl⟩) ⟨hLt, hb1, hb2, hc16, hfl, ?_, ?_, E, fun i hi => ?_, TB.nil (fun i hi => ?_)⟩ (rlt hb1 hb3)
    · rw [up1_s]; exact (up1_n _ _ (by decide)).trans (up1_s _ _ _)
    · rw [up1_s, up1_s, h2, nI_1]
    · obtain ⟨q1, q2, q3⟩ := hE i hi
      exact ⟨q1, q2, (by omega)⟩
    · have := (hE i (Nat.lt_of_lt_of_le hi (Nat.pow_le_pow_right (by decide) hb2))).2.2
      omega
  have fin2 : ∀ b aI' aL', 1 ≤ b → b ≤ tmx t → r + r / 2 ≤ 2 ^ b → (∀ k, k ≠ t + 1 → k ≠ 48 → aI' k = aI k ∧ aL' k = aL k) → (∀ i, aL' (t + 1) i = 0) → Q none (Cg (z.1, up1 z.2 (t + 1) (2 ^ b)) (up1 (up1 iF t (up1 (iF t) 1 (nI b))) t (up1 (up1 (iF t) 1 (nI b)) 2 (iF t 2 + 1))) aI' aL') := by
    intro b aI' aL' hb1 hb2 hb3 ha h0
    refine hQ (z.1, up1 z.2 (t + 1) (2 ^ b)) _ aI' aL' b b rfl (fun k hk => up1_n _ _ hk) (Lok_t ht hL hb2) (fun k hk => by rw [up1_n _ _ hk, up1_n _ _ hk]) ha ⟨up1_s _ _ _, hb1, Nat.le_refl b, (by omega), hfl, ?_, ?_, fun _ => 0, fun i hi => ⟨h0 i, (by show (0 : Nat) < 2 ^ 63; decide), (by show 0 / 2 ^ 32 ≤ fl + 1; omega)⟩, TB.nil (fun i hi => by show 0 / 2 ^ 32 ≠ fl + 1; omega)⟩ (rlt hb1 hb3)
    · rw [up1_s]; exact (up1_n _ _ (by decide)).trans (up1_s _ _ _)
    · rw [up1_s, up1_s, h2, nI_1]
  rcases ht with rfl | rfl | rfl
  · refine at_of (fun pc => pc == 5) 100 (fun k pc ls st g' => ∃ b, pc = 5 ∧ ls = [.ref 18, .int (nI r)] ∧ st = [] ∧ g' = Cg z (up1 iF 18 (up1 (iF 18) 1 (nI b))) aI aL ∧ k = 100 - b ∧ 1 ≤ b ∧ b ≤ tmx 18) (by decide) rfl (sX6_empty (18 + 1)) (nl (n := 2) rfl rfl rfl) ?_ ?_
    · exact ⟨99, 1, rfl, rfl, rfl, rfl, rfl, Nat.le_refl 1, (by decide)⟩
    · rintro k pc ls st g' ⟨b, rfl, rfl, rfl, rfl, rfl, hb1, hb2⟩
      have hp := hb31 b hb2
      have hp0 := p2 b
      have hbits : ¬ (24 : Int32) ≤ nI b := fun q => absurd ((nI_leI (a := 24) (by omega) (by omega)).mp q) (by omega)
      refine br_f hbits ?_
      refine And.intro (by decide) (br_c (fun h => ?_) (fun h => ?_))
      · have h : nI r + nI r / 2 ≤ (1 : Int32) <<< (nI b &&& 31) := h
        rw [hrI, up1_0 b (by omega)] at h
        have hge := (nI_leI (by omega) (by omega)).mp h
        refine br_c (fun h => ?_) (fun h => ?_)
        · have h : (1 : Int32) <<< (nI b &&& 31) ≤ nI (z.2 (18 + 1)) := h
          rw [up1_0 b (by omega), hLt] at h
          have hpc := p216 hc16
          have h := (nI_leI (by omega) (by omega)).mp h
          exact fin1 b hb1 (pow_le_c h) hge
        · have h : ¬ (1 : Int32) <<< (nI b &&& 31) ≤ nI (z.2 (18 + 1)) := h
          rw [up1_0 b (by omega), hLt] at h
          have hpc := p216 hc16
          have h : ¬ 2 ^ b ≤ 2 ^ c := fun q => h ((nI_leI (by omega) (by omega)).mpr q)
          have hcb : c < b := Classical.byContradiction fun q => h (Nat.pow_le_pow_right (by decide) (by omega))
          have e1 : ((1 : Int32) <<< (nI b &&& 31)) = nI (2 ^ b) := up1_0 b (by omega)
          have e2 : ((1 : Int32) <<< (nI b &&& 31)).toNatClampNeg = 2 ^ b := by rw [e1, cl1 (by omega)]
          have hd : 2 * 2 ^ c ≤ 2 ^ b := by
            have := Nat.pow_le_pow_right (n := 2) (by decide) (show c + 1 ≤ b from hcb)
            rw [Nat.pow_succ] at this
            omega
          refine And.intro ⟨(by show ¬ (1 : Int32) <<< (nI b &&& 31) < 0; rw [e1]; exact nI_ge0 (by omega)), (by show ((1 : Int32) <<< (nI b &&& 31)).toNatClampNeg ≤ 65536; rw [e2]; exact hp), rfl, nrf_48, Fit_48 hL (by show ((1 : Int32) <<< (nI b &&& 31)).toNatClampNeg ≤ 65536; rw [e2]; exact hp)⟩ ?_
          have hsh : ∀ n, up1 (up1 (up1 (SH z) 48 (some (.inr (1, n)))) (18 + 1) ((up1 (SH z) 48 (some (.inr (1, n)))) 48)) 48 none = SH (z.1, up1 z.2 (18 + 1) n) := fun n => SH_gr (by decide) (fun _ => rfl)
          refine And.intro ⟨rfl, rfl, rfl, rfl, (by show 1 ≤ z.2 (18 + 1); rw [hLt]; exact p2 c), (by show 2 * z.2 (18 + 1) ≤ ((1 : Int32) <<< (nI b &&& 31)).toNatClampNeg; rw [e2, hLt]; exact hd), nrf_t' (by decide +kernel), rfl, nrf_48', ?_⟩ ?_
          · show Fit (up1 (up1 (up1 (SH z) 48 (some (.inr (1, _)))) (18 + 1) ((up1 (SH z) 48 (some (.inr (1, _)))) 48)) 48 none)
            rw [hsh]
            refine Fit_SH ?_
            show Lok (up1 z.2 (18 + 1) ((1 : Int32) <<< (nI b &&& 31)).toNatClampNeg)
            rw [e2]
            exact Lok_t (Or.inl rfl) hL hb2
          · show Q none (up1 (up1 (up1 (SH z) 48 (some (.inr (1, ((1 : Int32) <<< (nI b &&& 31)).toNatClampNeg)))) (18 + 1) ((up1 (SH z) 48 (some (.inr (1, ((1 : Int32) <<< (nI b &&& 31)).toNatClampNeg)))) 48)) 48 none, _, _, _)
            rw [hsh, e2]
            refine fin2 b _ _ hb1 hb2 hge (fun k h1 h2 => ?_) (fun i => ?_)
            · exact ⟨(up1_n _ _ h1).trans (up1_n aI _ h2), (up1_n _ _ h1).trans (up1_n aL _ h2)⟩
            · exact (congrFun (up1_s _ _ _) i).trans (congrFun (up1_s aL 48 (fun _ => 0)) i)
      · have h : ¬ nI r + nI r / 2 ≤ (1 : Int32) <<< (nI b &&& 31) := h
        rw [hrI, up1_0 b (by omega)] at h
        have h : ¬ r + r / 2 ≤ 2 ^ b := fun q => h ((nI_leI (by omega) (by omega)).mpr q)
        have hlt : b < tmx 18 := Classical.byContradiction fun q => h (Nat.le_trans hr (Nat.pow_le_pow_right (by decide) (by omega)))
        refine ⟨100 - (b + 1), (by omega), b + 1, rfl, rfl, rfl, ?_, rfl, (by omega), (by omega)⟩
        show Cg z (up1 (up1 iF 18 (up1 (iF 18) 1 (nI b))) 18 (up1 (up1 (iF 18) 1 (nI b)) 1 (nI b + 1))) aI aL = _
        rw [up1_up1, up1_up1, nI_1]
  · refine at_of (fun pc => pc == 5) 100 (fun k pc ls st g' => ∃ b, pc = 5 ∧ ls = [.ref 24, .int (nI r)] ∧ st = [] ∧ g' = Cg z (up1 iF 24 (up1 (iF 24) 1 (nI b))) aI aL ∧ k = 100 - b ∧ 1 ≤ b ∧ b ≤ tmx 24) (by decide) rfl (sX6_empty (24 + 1)) (nl (n := 2) rfl rfl rfl) ?_ ?_
    · exact ⟨99, 1, rfl, rfl, rfl, rfl, rfl, Nat.le_refl 1, (by decide)⟩
    · rintro k pc ls st g' ⟨b, rfl, rfl, rfl, rfl, rfl, hb1, hb2⟩
      have hp := hb31 b hb2
      have hp0 := p2 b
      have hbits : ¬ (24 : Int32) ≤ nI b := fun q => absurd ((nI_leI (a := 24) (by omega) (by omega)).mp q) (by omega)
      refine br_f hbits ?_
      refine And.intro (by decide) (br_c (fun h => ?_) (fun h => ?_))
      · have h : nI r + nI r / 2 ≤ (1 : Int32) <<< (nI b &&& 31) := h
        rw [hrI, up1_0 b (by omega)] at h
        have hge := (nI_leI (by omega) (by omega)).mp h
        refine br_c (fun h => ?_) (fun h => ?_)
        · have h : (1 : Int32) <<< (nI b &&& 31) ≤ nI (z.2 (24 + 1)) := h
          rw [up1_0 b (by omega), hLt] at h
          have hpc := p216 hc16
          have h := (nI_leI (by omega) (by omega)).mp h
          exact fin1 b hb1 (pow_le_c h) hge
        · have h : ¬ (1 : Int32) <<< (nI b &&& 31) ≤ nI (z.2 (24 + 1)) := h
          rw [up1_0 b (by omega), hLt] at h
          have hpc := p216 hc16
          have h : ¬ 2 ^ b ≤ 2 ^ c := fun q => h ((nI_leI (by omega) (by omega)).mpr q)
          have hcb : c < b := Classical.byContradiction fun q => h (Nat.pow_le_pow_right (by decide) (by omega))
          have e1 : ((1 : Int32) <<< (nI b &&& 31)) = nI (2 ^ b) := up1_0 b (by omega)
          have e2 : ((1 : Int32) <<< (nI b &&& 31)).toNatClampNeg = 2 ^ b := by rw [e1, cl1 (by omega)]
          have hd : 2 * 2 ^ c ≤ 2 ^ b := by
            have := Nat.pow_le_pow_right (n := 2) (by decide) (show c + 1 ≤ b from hcb)
            rw [Nat.pow_succ] at this
            omega
          refine And.intro ⟨(by show ¬ (1 : Int32) <<< (nI b &&& 31) < 0; rw [e1]; exact nI_ge0 (by omega)), (by show ((1 : Int32) <<< (nI b &&& 31)).toNatClampNeg ≤ 65536; rw [e2]; exact hp), rfl, nrf_48, Fit_48 hL (by show ((1 : Int32) <<< (nI b &&& 31)).toNatClampNeg ≤ 65536; rw [e2]; exact hp)⟩ ?_
          have hsh : ∀ n, up1 (up1 (up1 (SH z) 48 (some (.inr (1, n)))) (24 + 1) ((up1 (SH z) 48 (some (.inr (1, n)))) 48)) 48 none = SH (z.1, up1 z.2 (24 + 1) n) := fun n => SH_gr (by decide) (fun _ => rfl)
          refine And.intro ⟨rfl, rfl, rfl, rfl, (by show 1 ≤ z.2 (24 + 1); rw [hLt]; exact p2 c), (by show 2 * z.2 (24 + 1) ≤ ((1 : Int32) <<< (nI b &&& 31)).toNatClampNeg; rw [e2, hLt]; exact hd), nrf_t' (by decide +kernel), rfl, nrf_48', ?_⟩ ?_
          · show Fit (up1 (up1 (up1 (SH z) 48 (some (.inr (1, _)))) (24 + 1) ((up1 (SH z) 48 (some (.inr (1, _)))) 48)) 48 none)
            rw [hsh]
            refine Fit_SH ?_
            show Lok (up1 z.2 (24 + 1) ((1 : Int32) <<< (nI b &&& 31)).toNatClampNeg)
            rw [e2]
            exact Lok_t (Or.inr (Or.inl rfl)) hL hb2
          · show Q none (up1 (up1 (up1 (SH z) 48 (some (.inr (1, ((1 : Int32) <<< (nI b &&& 31)).toNatClampNeg)))) (24 + 1) ((up1 (SH z) 48 (some (.inr (1, ((1 : Int32) <<< (nI b &&& 31)).toNatClampNeg)))) 48)) 48 none, _, _, _)
            rw [hsh, e2]
            refine fin2 b _ _ hb1 hb2 hge (fun k h1 h2 => ?_) (fun i => ?_)
            · exact ⟨(up1_n _ _ h1).trans (up1_n aI _ h2), (up1_n _ _ h1).trans (up1_n aL _ h2)⟩
            · exact (congrFun (up1_s _ _ _) i).trans (congrFun (up1_s aL 48 (fun _ => 0)) i)
      · have h : ¬ nI r + nI r / 2 ≤ (1 : Int32) <<< (nI b &&& 31) := h
        rw [hrI, up1_0 b (by omega)] at h
        have h : ¬ r + r / 2 ≤ 2 ^ b := fun q => h ((nI_leI (by omega) (by omega)).mpr q)
        have hlt : b < tmx 24 := Classical.byContradiction fun q => h (Nat.le_trans hr (Nat.pow_le_pow_right (by decide) (by omega)))
        refine ⟨100 - (b + 1), (by omega), b + 1, rfl, rfl, rfl, ?_, rfl, (by omega), (by omega)⟩
        show Cg z (up1 (up1 iF 24 (up1 (iF 24) 1 (nI b))) 24 (up1 (up1 (iF 24) 1 (nI b)) 1 (nI b + 1))) aI aL = _
        rw [up1_up1, up1_up1, nI_1]
  · refine at_of (fun pc => pc == 5) 100 (fun k pc ls st g' => ∃ b, pc = 5 ∧ ls = [.ref 30, .int (nI r)] ∧ st = [] ∧ g' = Cg z (up1 iF 30 (up1 (iF 30) 1 (nI b))) aI aL ∧ k = 100 - b ∧ 1 ≤ b ∧ b ≤ tmx 30) (by decide) rfl (sX6_empty (30 + 1)) (nl (n := 2) rfl rfl rfl) ?_ ?_
    · exact ⟨99, 1, rfl, rfl, rfl, rfl, rfl, Nat.le_refl 1, (by decide)⟩
    · rintro k pc ls st g' ⟨b, rfl, rfl, rfl, rfl, rfl, hb1, hb2⟩
      have hp := hb31 b hb2
      have hp0 := p2 b
      have hbits : ¬ (24 : Int32) ≤ nI b := fun q => absurd ((nI_leI (a := 24) (by omega) (by omega)).mp q) (by omega)
      refine br_f hbits ?_
      refine And.intro (by decide) (br_c (fun h => ?_) (fun h => ?_))
      · have h : nI r + nI r / 2 ≤ (1 : Int32) <<< (nI b &&& 31) := h
        rw [hrI, up1_0 b (by omega)] at h
        have hge := (nI_leI (by omega) (by omega)).mp h
        refine br_c (fun h => ?_) (fun h => ?_)
        · have h : (1 : Int32) <<< (nI b &&& 31) ≤ nI (z.2 (30 + 1)) := h
          rw [up1_0 b (by omega), hLt] at h
          have hpc := p216 hc16
          have h := (nI_leI (by omega) (by omega)).mp h
          exact fin1 b hb1 (pow_le_c h) hge
        · have h : ¬ (1 : Int32) <<< (nI b &&& 31) ≤ nI (z.2 (30 + 1)) := h
          rw [up1_0 b (by omega), hLt] at h
          have hpc := p216 hc16
          have h : ¬ 2 ^ b ≤ 2 ^ c := fun q => h ((nI_leI (by omega) (by omega)).mpr q)
          have hcb : c < b := Classical.byContradiction fun q => h (Nat.pow_le_pow_right (by decide) (by omega))
          have e1 : ((1 : Int32) <<< (nI b &&& 31)) = nI (2 ^ b) := up1_0 b (by omega)
          have e2 : ((1 : Int32) <<< (nI b &&& 31)).toNatClampNeg = 2 ^ b := by rw [e1, cl1 (by omega)]
          have hd : 2 * 2 ^ c ≤ 2 ^ b := by
            have := Nat.pow_le_pow_right (n := 2) (by decide) (show c + 1 ≤ b from hcb)
            rw [Nat.pow_succ] at this
            omega
          refine And.intro ⟨(by show ¬ (1 : Int32) <<< (nI b &&& 31) < 0; rw [e1]; exact nI_ge0 (by omega)), (by show ((1 : Int32) <<< (nI b &&& 31)).toNatClampNeg ≤ 65536; rw [e2]; exact hp), rfl, nrf_48, Fit_48 hL (by show ((1 : Int32) <<< (nI b &&& 31)).toNatClampNeg ≤ 65536; rw [e2]; exact hp)⟩ ?_
          have hsh : ∀ n, up1 (up1 (up1 (SH z) 48 (some (.inr (1, n)))) (30 + 1) ((up1 (SH z) 48 (some (.inr (1, n)))) 48)) 48 none = SH (z.1, up1 z.2 (30 + 1) n) := fun n => SH_gr (by decide) (fun _ => rfl)
          refine And.intro ⟨rfl, rfl, rfl, rfl, (by show 1 ≤ z.2 (30 + 1); rw [hLt]; exact p2 c), (by show 2 * z.2 (30 + 1) ≤ ((1 : Int32) <<< (nI b &&& 31)).toNatClampNeg; rw [e2, hLt]; exact hd), nrf_t' (by decide +kernel), rfl, nrf_48', ?_⟩ ?_
          · show Fit (up1 (up1 (up1 (SH z) 48 (some (.inr (1, _)))) (30 + 1) ((up1 (SH z) 48 (some (.inr (1, _)))) 48)) 48 none)
            rw [hsh]
            refine Fit_SH ?_
            show Lok (up1 z.2 (30 + 1) ((1 : Int32) <<< (nI b &&& 31)).toNatClampNeg)
            rw [e2]
            exact Lok_t (Or.inr (Or.inr rfl)) hL hb2
          · show Q none (up1 (up1 (up1 (SH z) 48 (some (.inr (1, ((1 : Int32) <<< (nI b &&& 31)).toNatClampNeg)))) (30 + 1) ((up1 (SH z) 48 (some (.inr (1, ((1 : Int32) <<< (nI b &&& 31)).toNatClampNeg)))) 48)) 48 none, _, _, _)
            rw [hsh, e2]
            refine fin2 b _ _ hb1 hb2 hge (fun k h1 h2 => ?_) (fun i => ?_)
            · exact ⟨(up1_n _ _ h1).trans (up1_n aI _ h2), (up1_n _ _ h1).trans (up1_n aL _ h2)⟩
            · exact (congrFun (up1_s _ _ _) i).trans (congrFun (up1_s aL 48 (fun _ => 0)) i)
      · have h : ¬ nI r + nI r / 2 ≤ (1 : Int32) <<< (nI b &&& 31) := h
        rw [hrI, up1_0 b (by omega)] at h
        have h : ¬ r + r / 2 ≤ 2 ^ b := fun q => h ((nI_leI (by omega) (by omega)).mpr q)
        have hlt : b < tmx 30 := Classical.byContradiction fun q => h (Nat.le_trans hr (Nat.pow_le_pow_right (by decide) (by omega)))
        refine ⟨100 - (b + 1), (by omega), b + 1, rfl, rfl, rfl, ?_, rfl, (by omega), (by omega)⟩
        show Cg z (up1 (up1 iF 30 (up1 (iF 30) 1 (nI b))) 30 (up1 (up1 (iF 30) 1 (nI b)) 1 (nI b + 1))) aI aL = _
        rw [up1_up1, up1_up1, nI_1]

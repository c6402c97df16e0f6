/-! where a row is, or can be put -/
theorem up1_0 (b : Nat) (h : b ≤ 24) : (1 : Int32) <<< (nI b &&& 31) = nI (2 ^ b) := by
  have hp := Nat.pow_le_pow_right (n := 2) (by decide) h
  rw [show (1 : Int32) = nI 1 from rfl, nx_shl (by omega) (by omega), Nat.one_mul]
theorem mskI (b : Nat) (h : b ≤ 24) : (1 : Int32) <<< (nI b &&& 31) - 1 = nI (2 ^ b - 1) := by
  rw [up1_0 b h, show (1 : Int32) = nI 1 from rfl, nx_sub (p2 b)]
theorem p216 {b : Nat} (h : b ≤ 16) : 2 ^ b ≤ 65536 := Nat.pow_le_pow_right (n := 2) (by decide) h
def pX6_slotOf : Spc := fun As g Q => ∃ z iF aI aL t c b fl E M x, g = Cg z iF aI aL ∧ tc t ∧ As = [.ref t, .int (nI x)] ∧ x < 2 ^ 24 ∧ z.2 (t + 1) = 2 ^ c ∧ 1 ≤ b ∧ b ≤ c ∧ c ≤ 16 ∧ fl < 2 ^ 30 ∧ iF t 1 = nI b ∧ iF t 2 = nI fl ∧ (∀ i, i < 2 ^ c → aL (t + 1) i = nL (E i) ∧ E i < 2 ^ 63 ∧ E i / 2 ^ 32 ≤ fl) ∧ TB b fl E M ∧ ∀ d, fnS b fl E x d → Q (some (.int (nI (prb b x d)))) g
set_option maxHeartbeats 1000000 in
theorem oX6_slotOf : Ok 0 yX6_slotOf cX6_slotOf 7 (some .int) pX6_slotOf := by
  refine ok_all fun As g Q h => ?_
  obtain ⟨z, iF, aI, aL, t, c, b, fl, E, M, x, rfl, ht, rfl, hx, hL, hb1, hbc, hc, hfl, h1, h2, hE, hT, hQ⟩ := h
  have hb : b ≤ 16 := by omega
  have hp := p216 hb
  have hpc := p216 hc
  have hp0 := p2 b
  have hbp : 2 ^ b ≤ 2 ^ c := Nat.pow_le_pow_right (by decide) hbc
  have fa : ∀ j, (lushr (aL (t + 1) (nI (prb b x j)).toNatClampNeg) 32).toInt32 = iF t 2 ↔ E (prb b x j) / 2 ^ 32 = fl := by
    intro j
    have hpj := prb_lt b x j
    obtain ⟨e1, e2, e3⟩ := hE (prb b x j) (by omega)
    rw [cl1 (by omega), e1, l_top (by omega), h2]
    exact nI_eq (by omega) (by omega)
  have fb : ∀ j, (aL (t + 1) (nI (prb b x j)).toNatClampNeg).toInt32 &&& 16777215 = nI x ↔ E (prb b x j) % 2 ^ 24 = x := by
    intro j
    have hpj := prb_lt b x j
    obtain ⟨e1, e2, e3⟩ := hE (prb b x j) (by omega)
    rw [cl1 (by omega), e1, l_low, and24]
    exact nI_eq (by omega) (by omega)
  have last : (∀ d', d' < 2 ^ b - 1 → E (prb b x d') / 2 ^ 32 = fl ∧ E (prb b x d') % 2 ^ 24 ≠ x) → fnS b fl E x (2 ^ b - 1) := by
    intro hd
    refine ⟨(by omega), hd, fun q => ?_⟩
    obtain ⟨i, i1, i2⟩ := hT.free
    obtain ⟨d, d1, rfl⟩ := prb_onto (x := x) i1
    by_cases e : d = 2 ^ b - 1
    · rw [e] at i2; exact absurd q i2
    · exact absurd (hd d (by omega)).1 i2
  have hstart : ushr (nI x * (-1640531535)) (32 - nI b) &&& nI (2 ^ b - 1) = nI (prb b x 0) := by
    rw [andV_eq]
    unfold prb
    rw [Nat.add_zero, Nat.mod_eq_of_lt (show hm b x < 2 ^ b from andV_lt _ _)]
    rfl
  have hstep : ∀ j, (nI (prb b x j) + 1) &&& nI (2 ^ b - 1) = nI (prb b x (j + 1)) := by
    intro j
    rw [nI_1, andN]
    unfold prb
    rw [← Nat.add_assoc, Nat.mod_add_mod]
  rcases ht with rfl | rfl | rfl
  · refine at_of (fun pc => pc == 27) 100 (fun k pc ls st g' => ∃ j v w, pc = 27 ∧ ls = [.ref 18, .int (nI x), .int (nI (2 ^ b - 1)), .int (nI (prb b x j)), .int (nI j), v, w] ∧ st = [] ∧ g' = Cg z iF aI aL ∧ k = 70000 - j ∧ j ≤ 2 ^ b - 1 ∧ ∀ d', d' < j → E (prb b x d') / 2 ^ 32 = fl ∧ E (prb b x d') % 2 ^ 24 ≠ x) (by decide) rfl sX6_slotOf (nl (n := 2) rfl rfl rfl) ?_ ?_
    · refine ⟨70000, 0, U_, U_, rfl, ?_, rfl, rfl, rfl, Nat.zero_le _, fun d' h => absurd h (Nat.not_lt_zero d')⟩
      show [_, _, Value.int ((1 : Int32) <<< (iF 18 1 &&& 31) - 1), .int (ushr (nI x * (-1640531535)) (32 - iF 18 1) &&& ((1 : Int32) <<< (iF 18 1 &&& 31) - 1)), _, _, _] = _
      rw [h1, mskI b (by omega), hstart]
      rfl
    · rintro k pc ls st g' ⟨j, v, w, rfl, rfl, rfl, rfl, rfl, hj, hd⟩
      have hpj := prb_lt b x j
      refine br_c (fun h => ?_) (fun h => ?_)
      · have h : 2 ^ b - 1 ≤ j := (nI_leI (by omega) (by omega)).mp h
        have e : j = 2 ^ b - 1 := by omega
        subst e
        exact hQ _ (last hd)
      · have h : ¬ 2 ^ b - 1 ≤ j := fun q => h ((nI_leI (by omega) (by omega)).mpr q)
        refine And.intro (by show vp_in (nI (prb b x j)) (z.2 (18 + 1)); rw [hL]; exact vp_in_nI (by omega) (by omega)) ?_
        refine And.intro (fun q => ?_) (fun q => And.intro (fun r => ?_) (fun r => ?_))
        · have q : ¬ E (prb b x j) / 2 ^ 32 = fl := fun y => q ((fa j).mpr y)
          exact hQ _ ⟨(by omega), hd, fun y => absurd y q⟩
        · have q : E (prb b x j) / 2 ^ 32 = fl := (fa j).mp q
          have r : ¬ E (prb b x j) % 2 ^ 24 = x := fun y => r ((fb j).mpr y)
          refine ⟨70000 - (j + 1), (by omega), j + 1, .long (aL (18 + 1) (nI (prb b x j)).toNatClampNeg), U_, rfl, ?_, rfl, rfl, rfl, (by omega), fun d' hd' => ?_⟩
          · show [_, _, _, Value.int ((nI (prb b x j) + 1) &&& nI (2 ^ b - 1)), .int (nI j + 1), _, _] = _
            rw [hstep, nI_1]
          · by_cases e : d' = j
            · rw [e]; exact ⟨q, r⟩
            · exact hd d' (by omega)
        · have r : E (prb b x j) % 2 ^ 24 = x := (fb j).mp r
          exact hQ _ ⟨(by omega), hd, fun _ => r⟩
  · refine at_of (fun pc => pc == 27) 100 (fun k pc ls st g' => ∃ j v w, pc = 27 ∧ ls = [.ref 24, .int (nI x), .int (nI (2 ^ b - 1)), .int (nI (prb b x j)), .int (nI j), v, w] ∧ st = [] ∧ g' = Cg z iF aI aL ∧ k = 70000 - j ∧ j ≤ 2 ^ b - 1 ∧ ∀ d', d' < j → E (prb b x d') / 2 ^ 32 = fl ∧ E (prb b x d') % 2 ^ 24 ≠ x) (by decide) rfl sX6_slotOf (nl (n := 2) rfl rfl rfl) ?_ ?_
    · refine ⟨70000, 0, U_, U_, rfl, ?_, rfl, rfl, rfl, Nat.zero_le _, fun d' h => absurd h (Nat.not_lt_zero d')⟩
      show [_, _, Value.int ((1 : Int32) <<< (iF 24 1 &&& 31) - 1), .int (ushr (nI x * (-1640531535)) (32 - iF 24 1) &&& ((1 : Int32) <<< (iF 24 1 &&& 31) - 1)), _, _, _] = _
      rw [h1, mskI b (by omega), hstart]
      rfl
    · rintro k pc ls st g' ⟨j, v, w, rfl, rfl, rfl, rfl, rfl, hj, hd⟩
      have hpj := prb_lt b x j
      refine br_c (fun h => ?_) (fun h => ?_)
      · have h : 2 ^ b - 1 ≤ j := (nI_leI (by omega) (by omega)).mp h
        have e : j = 2 ^ b - 1 := by omega
        subst e
        exact hQ _ (last hd)
      · have h : ¬ 2 ^ b - 1 ≤ j := fun q => h ((nI_leI (by omega) (by omega)).mpr q)
        refine And.intro (by show vp_in (nI (prb b x j)) (z.2 (24 + 1)); rw [hL]; exact vp_in_nI (by omega) (by omega)) ?_
        refine And.intro (fun q => ?_) (fun q => And.intro (fun r => ?_) (fun r => ?_))
        · have q : ¬ E (prb b x j) / 2 ^ 32 = fl := fun y => q ((fa j).mpr y)
          exact hQ _ ⟨(by omega), hd, fun y => absurd y q⟩
        · have q : E (prb b x j) / 2 ^ 32 = fl := (fa j).mp q
          have r : ¬ E (prb b x j) % 2 ^ 24 = x := fun y => r ((fb j).mpr y)
          refine ⟨70000 - (j + 1), (by omega), j + 1, .long (aL (24 + 1) (nI (prb b x j)).toNatClampNeg), U_, rfl, ?_, rfl, rfl, rfl, (by omega), fun d' hd' => ?_⟩
          · show [_, _, _, Value.int ((nI (prb b x j) + 1) &&& nI (2 ^ b - 1)), .int (nI j + 1), _, _] = _
            rw [hstep, nI_1]
          · by_cases e : d' = j
            · rw [e]; exact ⟨q, r⟩
            · exact hd d' (by omega)
        · have r : E (prb b x j) % 2 ^ 24 = x := (fb j).mp r
          exact hQ _ ⟨(by omega), hd, fun _ => r⟩
  · refine at_of (fun pc => pc == 27) 100 (fun k pc ls st g' => ∃ j v w, pc = 27 ∧ ls = [.ref 30, .int (nI x), .int (nI (2 ^ b - 1)), .int (nI (prb b x j)), .int (nI j), v, w] ∧ st = [] ∧ g' = Cg z iF aI aL ∧ k = 70000 - j ∧ j ≤ 2 ^ b - 1 ∧ ∀ d', d' < j → E (prb b x d') / 2 ^ 32 = fl ∧ E (prb b x d') % 2 ^ 24 ≠ x) (by decide) rfl sX6_slotOf (nl (n := 2) rfl rfl rfl) ?_ ?_
    · refine ⟨70000, 0, U_, U_, rfl, ?_, rfl, rfl, rfl, Nat.zero_le _, fun d' h => absurd h (Nat.not_lt_zero d')⟩
      show [_, _, Value.int ((1 : Int32) <<< (iF 30 1 &&& 31) - 1), .int (ushr (nI x * (-1640531535)) (32 - iF 30 1) &&& ((1 : Int32) <<< (iF 30 1 &&& 31) - 1)), _, _, _] = _
      rw [h1, mskI b (by omega), hstart]
      rfl
    · rintro k pc ls st g' ⟨j, v, w, rfl, rfl, rfl, rfl, rfl, hj, hd⟩
      have hpj := prb_lt b x j
      refine br_c (fun h => ?_) (fun h => ?_)
      · have h : 2 ^ b - 1 ≤ j := (nI_leI (by omega) (by omega)).mp h
        have e : j = 2 ^ b - 1 := by omega
        subst e
        exact hQ _ (last hd)
      · have h : ¬ 2 ^ b - 1 ≤ j := fun q => h ((nI_leI (by omega) (by omega)).mpr q)
        refine And.intro (by show vp_in (nI (prb b x j)) (z.2 (30 + 1)); rw [hL]; exact vp_in_nI (by omega) (by omega)) ?_
        refine And.intro (fun q => ?_) (fun q => And.intro (fun r => ?_) (fun r => ?_))
        · have q : ¬ E (prb b x j) / 2 ^ 32 = fl := fun y => q ((fa j).mpr y)
          exact hQ _ ⟨(by omega), hd, fun y => absurd y q⟩
        · have q : E (prb b x j) / 2 ^ 32 = fl := (fa j).mp q
          have r : ¬ E (prb b x j) % 2 ^ 24 = x := fun y => r ((fb j).mpr y)
          refine ⟨70000 - (j + 1), (by omega), j + 1, .long (aL (30 + 1) (nI (prb b x j)).toNatClampNeg), U_, rfl, ?_, rfl, rfl, rfl, (by omega), fun d' hd' => ?_⟩
          · show [_, _, _, Value.int ((nI (prb b x j) + 1) &&& nI (2 ^ b - 1)), .int (nI j + 1), _, _] = _
            rw [hstep, nI_1]
          · by_cases e : d' = j
            · rw [e]; exact ⟨q, r⟩
            · exact hd d' (by omega)
        · have r : E (prb b x j) % 2 ^ 24 = x := (fb j).mp r
          exact hQ _ ⟨(by omega), hd, fun _ => r⟩

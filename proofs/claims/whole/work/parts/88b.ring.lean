/-! the class rings the touch, and looks at its rows -/
def pX5_ring : Spc := fun As g Q => ∃ z iF aI aL S, g = Cg z iF aI aL ∧ As = [.ref 16, .ref 1, .ref 14] ∧ VS S ∧ CS 1 iF aI S ∧ LD iF aI S ∧ ∀ f a, RG (up1 iF 16 f) (up1 aI 17 a) S → Q none (Cg z (up1 iF 16 f) (up1 aI 17 a) aL)
theorem oX5_ring : Ok 2 yX5_ring cX5_ring 5 none pX5_ring := by
  refine ok_all fun As g Q h => ?_
  obtain ⟨z, iF, aI, aL, S, rfl, rfl, hS, ⟨c1, c2, c3, c4, c5, c6, c7⟩, hD, hQ⟩ := h
  have hn := hS.1.2
  have hc := hS.2.1.1
  have hl := hS.2.2.2.2.1
  have hT := tln_le hS
  have d3 := hD.2.2.1
  have d4 := hD.2.2.2.1
  have c7 : ∀ i, i < (sL S).length → aI 3 i = nI ((sL S).getD i 0) := c7
  refine at_of (fun pc => pc == 25 || pc == 36) 100 (fun k pc ls st g' => (∃ l f a w, pc = 25 ∧ ls = [.ref 16, .ref 1, .ref 14, .int (nI l), w] ∧ st = [] ∧ g' = Cg z (up1 iF 16 f) (up1 aI 17 a) aL ∧ k = 100 * (41 - l) ∧ l ≤ (sL S).length ∧ f 1 = nI (l * (sC S).length) ∧ f 2 = nI (sN S) ∧ ∀ j, j ≤ l * (sC S).length → a j = nI (trw S j))
      ∨ (∃ l i f a, pc = 36 ∧ ls = [.ref 16, .ref 1, .ref 14, .int (nI l), .int (nI i)] ∧ st = [] ∧ g' = Cg z (up1 iF 16 f) (up1 aI 17 a) aL ∧ k = 100 * (41 - l) - 1 - i ∧ l < (sL S).length ∧ i ≤ (sC S).length - 1 ∧ f 1 = nI (l * (sC S).length + i) ∧ f 2 = nI (sN S) ∧ ∀ j, j ≤ l * (sC S).length + i → a j = nI (trw S j))) (by decide) rfl sX5_ring (nl (n := 3) rfl rfl rfl) ?_ ?_
  · refine And.intro (vp_in_nI (n := 0) (N := 1601) (by omega) (by omega)) ⟨100 * 41, Or.inl ⟨0, up1 (up1 (iF 16) 2 (iF 14 0)) 1 0, up1 (aI 17) 0 (iF 14 1), U_, rfl, rfl, rfl, ?_, rfl, Nat.zero_le _, ?_, hD.1, fun j hj => ?_⟩⟩
    · show Cg z (up1 (up1 iF 16 (up1 (iF 16) 2 (iF 14 0))) 16 (up1 (up1 (iF 16) 2 (iF 14 0)) 1 0)) (up1 aI 17 (up1 (aI 17) 0 (iF 14 1))) aL = _
      rw [up1_up1]
    · rw [Nat.zero_mul]; rfl
    · rw [Nat.zero_mul] at hj
      rw [show j = 0 by omega, up1_s]
      exact hD.2.1
  · rintro k pc ls st g' (⟨l, f, a, w, rfl, rfl, rfl, rfl, rfl, hll, f1, f2, ha⟩ | ⟨l, i, f, a, rfl, rfl, rfl, rfl, rfl, hll, hi, f1, f2, ha⟩)
    · refine pk_le (sL S).length l (fun h => ?_) (fun h => ?_) c5
      · have e : l = (sL S).length := by omega
        subst e
        exact hQ f a ⟨f1, f2, ha⟩
      · exact ⟨100 * (41 - l) - 1, (by omega), Or.inr ⟨l, 0, f, a, rfl, rfl, rfl, rfl, (by omega), h, Nat.zero_le _, f1, f2, ha⟩⟩
    · have key : ∀ m, i < (sC S).length → chOf S ((sL S).getD l 0) i = m → Cg z (up1 (up1 iF 16 f) 16 (up1 f 1 (nI (l * (sC S).length + i + 1)))) (up1 (up1 aI 17 a) 17 (up1 a (l * (sC S).length + i + 1) (nI (chg (sN S) m (trw S (l * (sC S).length + i)))))) aL = Cg z (up1 iF 16 (up1 f 1 (nI (l * (sC S).length + i + 1)))) (up1 aI 17 (up1 a (l * (sC S).length + i + 1) (nI (trw S (l * (sC S).length + i + 1))))) aL := by
        intro m hi2 hm
        rw [← hm, ← trw_at hi2, up1_up1, up1_up1]
      have ha' : ∀ j, j ≤ l * (sC S).length + i + 1 → up1 a (l * (sC S).length + i + 1) (nI (trw S (l * (sC S).length + i + 1))) j = nI (trw S j) := by
        intro j hj
        by_cases e : j = l * (sC S).length + i + 1
        · rw [e, up1_s]
        · rw [up1_n _ _ e]; exact ha j (by omega)
      by_cases h0 : (sC S).length = 0
      · refine br_t (by show iF 14 3 - 1 ≤ nI i; rw [d3, h0, show i = 0 by omega]; decide) (br_t (by show iF 14 3 ≤ 0; rw [d3, h0]; decide) ?_)
        refine ⟨100 * (41 - (l + 1)), (by omega), Or.inl ⟨l + 1, f, a, .int (nI i), rfl, (by show [Value.ref 16, .ref 1, .ref 14, .int (nI l + 1), _] = _; rw [nI_1]), rfl, rfl, rfl, (by omega), ?_, f2, fun j hj => ha j ?_⟩⟩
        · rw [f1, h0, show i = 0 by omega, Nat.mul_zero, Nat.mul_zero]
        · rw [h0, Nat.mul_zero] at hj ⊢; omega
      · have e3 : iF 14 3 - 1 = nI ((sC S).length - 1) := by rw [d3, show (1 : Int32) = nI 1 from rfl, nx_sub (by omega)]
        have hTl := tln_lt hll (show i < (sC S).length by omega)
        refine pk_le ((sC S).length - 1) i (fun h => ?_) (fun h => ?_) e3
        · have ei : i = (sC S).length - 1 := by omega
          refine br_f (by show ¬ iF 14 3 ≤ 0; rw [d3]; exact fun q => absurd ((nI_leI (b := 0) (by omega) (by omega)).mp q) (by omega)) ?_
          refine And.intro (vp_in_nI (by omega) (by omega)) ?_
          have hlt : (sL S).getD l 0 ≤ 2 := hS.2.2.2.2.2 _ (getD_mem hll)
          refine ⟨z, _, _, aL, S, (sL S).getD l 0, rfl, (by show [Value.ref 14, .int (aI 3 (nI l).toNatClampNeg)] = _; rw [cl1 (by omega), c7 l hll]), hD, h0, hlt, ?_⟩
          refine ⟨z, _, _, aL, l * (sC S).length + i, trw S (l * (sC S).length + i), sN S, lch S ((sL S).getD l 0), rfl, rfl, hn, (trw_Pm hS _).1, (by omega), f1, ha _ (Nat.le_refl _), ?_⟩
          refine ⟨100 * (41 - (l + 1)), (by omega), Or.inl ⟨l + 1, _, _, .int (nI i), rfl, (by show [Value.ref 16, .ref 1, .ref 14, .int (nI l + 1), _] = _; rw [nI_1]), rfl, key _ (by omega) (by rw [ei]), rfl, (by omega), ?_, f2, fun j hj => ha' j ?_⟩⟩
          · show nI (l * (sC S).length + i + 1) = _
            rw [Nat.succ_mul, ei]; congr 1; omega
          · rw [Nat.succ_mul] at hj; omega
        · refine And.intro (vp_in_nI (by omega) (by omega)) ?_
          refine ⟨z, _, _, aL, l * (sC S).length + i, trw S (l * (sC S).length + i), sN S, (sC S).getD i 0, rfl, (by show [Value.ref 16, .int (aI 15 (nI i).toNatClampNeg)] = _; rw [cl1 (by omega), d4 i (by omega)]), hn, (trw_Pm hS _).1, (by omega), f1, ha _ (Nat.le_refl _), ?_⟩
          exact ⟨100 * (41 - l) - 1 - (i + 1), (by omega), Or.inr ⟨l, i + 1, _, _, rfl, (by show [Value.ref 16, .ref 1, .ref 14, .int (nI l), .int (nI i + 1)] = _; rw [nI_1]), rfl, key _ (by omega) (chOf_in (by omega)), rfl, hll, (by omega), rfl, f2, ha'⟩⟩
def pX5_comesRoundAt : Spc := fun As g Q => ∃ z iF aI aL S, g = Cg z iF aI aL ∧ As = [.ref 16] ∧ VS S ∧ RG iF aI S ∧ Q (some (.int (fstI (fun i => trw S i == rds (sN S)) 1 (tln S)))) g
theorem oX5_comesRoundAt : Ok 0 yX5_comesRoundAt cX5_comesRoundAt 2 (some .int) pX5_comesRoundAt := by
  refine ok_all fun As g Q h => ?_
  obtain ⟨z, iF, aI, aL, S, rfl, rfl, hS, ⟨r1, r2, r3⟩, hQ⟩ := h
  have hn := hS.1.2
  have hT := tln_le hS
  refine at_of (fun pc => pc == 2) 60 (fun k pc ls st g' => ∃ j, pc = 2 ∧ ls = [.ref 16, .int (nI (j + 1))] ∧ st = [] ∧ g' = Cg z iF aI aL ∧ k = 2000 - j ∧ j ≤ tln S ∧ fstI (fun i => trw S i == rds (sN S)) 1 (tln S) = fstI (fun i => trw S i == rds (sN S)) (j + 1) (tln S - j)) (by decide) rfl sX5_comesRoundAt (nl (n := 1) rfl rfl rfl) ?_ ?_
  · exact ⟨2000, 0, rfl, rfl, rfl, rfl, rfl, Nat.zero_le _, rfl⟩
  · rintro k pc ls st g' ⟨j, rfl, rfl, rfl, rfl, rfl, hj, he⟩
    refine pk_lt (tln S) (j + 1) (fun h => ?_) (fun h => ?_) r1
    · rw [he, show tln S - j = 0 by omega] at hQ
      exact hQ
    · rw [show tln S - j = (tln S - (j + 1)) + 1 by omega] at he
      have he : fstI (fun i => trw S i == rds (sN S)) 1 (tln S) = if (trw S (j + 1) == rds (sN S)) = true then nI (j + 1) else fstI (fun i => trw S i == rds (sN S)) (j + 1 + 1) (tln S - (j + 1)) := he
      have l1 := (trw_Pm hS (j + 1)).lt24 hn
      have l2 := (Pm_rds hn).lt24 hn
      refine And.intro (vp_in_nI (by omega) (by omega)) (And.intro (vp_in_nI (n := 0) (N := 1601) (by omega) (by omega)) (pk_ne (trw S (j + 1)) (rds (sN S)) (fun h2 => ?_) (fun h2 => ?_) (by rw [cl1 (by omega)]; exact r3 _ h) (r3 0 (Nat.zero_le _))))
      · rw [if_neg (by simpa using h2)] at he
        exact ⟨2000 - (j + 1), (by omega), j + 1, rfl, (by show [Value.ref 16, .int (nI (j + 1) + 1)] = _; rw [nI_1]), rfl, rfl, rfl, h, he⟩
      · rw [if_pos (by simpa using h2)] at he
        rw [he] at hQ
        exact hQ
def pX5_likedRows : Spc := fun As g Q => ∃ z iF aI aL S, g = Cg z iF aI aL ∧ As = [.ref 16] ∧ VS S ∧ RG iF aI S ∧ Q (some (.int (nI (sm (fun i => if 1 ≤ i ∧ lik (sN S) (trw S i) = true then 1 else 0) (tln S + 1))))) g
theorem oX5_likedRows : Ok 2 yX5_likedRows cX5_likedRows 3 (some .int) pX5_likedRows := by
  refine ok_all fun As g Q h => ?_
  obtain ⟨z, iF, aI, aL, S, rfl, rfl, hS, ⟨r1, r2, r3⟩, hQ⟩ := h
  have hn := hS.1.2
  have hT := tln_le hS
  refine at_of (fun pc => pc == 4) 60 (fun k pc ls st g' => ∃ j, pc = 4 ∧ ls = [.ref 16, .int (nI (sm (fun i => if 1 ≤ i ∧ lik (sN S) (trw S i) = true then 1 else 0) (j + 1))), .int (nI (j + 1))] ∧ st = [] ∧ g' = Cg z iF aI aL ∧ k = 2000 - j ∧ j ≤ tln S) (by decide) rfl sX5_likedRows (nl (n := 1) rfl rfl rfl) ?_ ?_
  · exact ⟨2000, 0, rfl, rfl, rfl, rfl, rfl, Nat.zero_le _⟩
  · rintro k pc ls st g' ⟨j, rfl, rfl, rfl, rfl, rfl, hj⟩
    refine pk_lt (tln S) (j + 1) (fun h => ?_) (fun h => ?_) r1
    · rw [show tln S + 1 = j + 1 by omega] at hQ
      exact hQ
    · refine And.intro (vp_in_nI (by omega) (by omega)) ⟨sN S, trw S (j + 1), (by show [Value.int (aI 17 (nI (j + 1)).toNatClampNeg), .int (iF 16 2)] = _; rw [cl1 (by omega), r3 _ h, r2]), hS.1.1, hn, (trw_Pm hS _).lt24 hn, ?_⟩
      have fin : ∀ v : Int32, v = nI (sm (fun i => if 1 ≤ i ∧ lik (sN S) (trw S i) = true then 1 else 0) (j + 1 + 1)) → ∃ n', n' < 2000 - j ∧ ∃ j', 4 = 4 ∧ [Value.ref 16, .int v, .int (nI (j + 1) + 1)] = [Value.ref 16, .int (nI (sm (fun i => if 1 ≤ i ∧ lik (sN S) (trw S i) = true then 1 else 0) (j' + 1))), .int (nI (j' + 1))] ∧ ([] : List Value) = [] ∧ Cg z iF aI aL = Cg z iF aI aL ∧ n' = 2000 - j' ∧ j' ≤ tln S := by
        intro v hv
        exact ⟨2000 - (j + 1), (by omega), j + 1, rfl, (by rw [hv, nI_1]), rfl, rfl, rfl, h⟩
      have e : sm (fun i => if 1 ≤ i ∧ lik (sN S) (trw S i) = true then 1 else 0) (j + 1 + 1) = sm (fun i => if 1 ≤ i ∧ lik (sN S) (trw S i) = true then 1 else 0) (j + 1) + (if 1 ≤ j + 1 ∧ lik (sN S) (trw S (j + 1)) = true then 1 else 0) := rfl
      refine And.intro (fun h2 => ?_) (fun h2 => ?_)
      · have h2 := (i1 rfl).mp h2
        exact fin _ (by rw [e, if_neg (fun q => by rw [h2] at q; cases q.2)]; rfl)
      · have h2 := (i2 rfl).mp h2
        exact fin _ (by rw [e, if_pos ⟨by omega, h2⟩, nI_1])
/-- the place of a bell, row by row -/
abbrev pls (S : Stg) (b i : Nat) : Nat := plc (sN S) (trw S i) (b - 1)
theorem pls_spec {S : Stg} (h : VS S) {b : Nat} (hb1 : 1 ≤ b) (hb : b ≤ sN S) (i : Nat) : pls S b i < sN S ∧ dg (trw S i) (pls S b i) + 1 = b ∧ ∀ q, q < pls S b i → dg (trw S i) q + 1 ≠ b := by
  obtain ⟨h1, h2⟩ : pls S b i < sN S ∧ dg (trw S i) (pls S b i) = b - 1 := plc_spec (trw_Pm h i) (show b - 1 < sN S by omega)
  refine ⟨h1, (by omega), fun q hq e => ?_⟩
  have := (trw_Pm h i).2.2 q (pls S b i) (by omega) h1 (by omega)
  omega
def pX5_placesEverOf : Spc := fun As g Q => ∃ z iF aI aL S b, g = Cg z iF aI aL ∧ As = [.ref 16, .int (nI b)] ∧ VS S ∧ RG iF aI S ∧ 1 ≤ b ∧ b ≤ sN S ∧ Q (some (.int (nI (gws (pls S b) (tln S) 1)))) g
theorem oX5_placesEverOf : Ok 2 yX5_placesEverOf cX5_placesEverOf 4 (some .int) pX5_placesEverOf := by
  refine ok_all fun As g Q h => ?_
  obtain ⟨z, iF, aI, aL, S, b, rfl, rfl, hS, ⟨r1, r2, r3⟩, hb1, hb, hQ⟩ := h
  have hn := hS.1.2
  have hT := tln_le hS
  have hor := orN_lt (pl := pls S b) (T := tln S) (fun i hi => by have := (pls_spec hS hb1 hb i).1; omega)
  refine at_of (fun pc => pc == 4) 60 (fun k pc ls st g' => ∃ j, pc = 4 ∧ ls = [.ref 16, .int (nI b), .int (nI (orN (pls S b) j)), .int (nI (j + 1))] ∧ st = [] ∧ g' = Cg z iF aI aL ∧ k = 2000 - j ∧ j ≤ tln S) (by decide) rfl sX5_placesEverOf (nl (n := 2) rfl rfl rfl) ?_ ?_
  · exact ⟨2000, 0, rfl, rfl, rfl, rfl, rfl, Nat.zero_le _⟩
  · rintro k pc ls st g' ⟨j, rfl, rfl, rfl, rfl, rfl, hj⟩
    refine pk_lt (tln S) (j + 1) (fun h => ?_) (fun h => ?_) r1
    · rw [show tln S = j by omega] at hQ
      obtain ⟨o1, o2⟩ := hor j hj
      show Q (some (.int (bcI (nI (orN (pls S b) j))))) _
      rw [bcI_pct _ o1 o2]
      exact hQ
    · obtain ⟨p1, p2, p3⟩ := pls_spec hS hb1 hb (j + 1)
      refine And.intro (vp_in_nI (by omega) (by omega)) ⟨b, trw S (j + 1), sN S, pls S b (j + 1), (trw_Pm hS _).lt24 hn, hn, (by omega), p1, p2, p3, (by show [_, Value.int (aI 17 (nI (j + 1)).toNatClampNeg), .int (iF 16 2)] = _; rw [cl1 (by omega), r3 _ h, r2]), ?_⟩
      refine ⟨2000 - (j + 1), (by omega), j + 1, rfl, ?_, rfl, rfl, rfl, h⟩
      show [Value.ref 16, _, .int (nI (orN (pls S b) j) ||| (1 : Int32) <<< (nI (pls S b (j + 1) + 1) &&& 31)), .int (nI (j + 1) + 1)] = _
      rw [show (1 : Int32) = nI 1 from rfl, nx_shl (by omega) (by
            have : 2 ^ (pls S b (j + 1) + 1) < 2 ^ 9 := Nat.pow_lt_pow_right (by decide) (by omega)
            omega), nx_or, nI_add, Nat.one_mul]
      rfl
def pX5_timesFirst : Spc := fun As g Q => ∃ z iF aI aL S b, g = Cg z iF aI aL ∧ As = [.ref 16, .int (nI b)] ∧ VS S ∧ RG iF aI S ∧ 1 ≤ b ∧ b ≤ sN S ∧ Q (some (.int (nI (gws (pls S b) (tln S) 2)))) g
theorem oX5_timesFirst : Ok 1 yX5_timesFirst cX5_timesFirst 4 (some .int) pX5_timesFirst := by
  refine ok_all fun As g Q h => ?_
  obtain ⟨z, iF, aI, aL, S, b, rfl, rfl, hS, ⟨r1, r2, r3⟩, hb1, hb, hQ⟩ := h
  have hn := hS.1.2
  have hT := tln_le hS
  refine at_of (fun pc => pc == 4) 60 (fun k pc ls st g' => ∃ j, pc = 4 ∧ ls = [.ref 16, .int (nI b), .int (nI (ct1 (pls S b) j)), .int (nI (j + 1))] ∧ st = [] ∧ g' = Cg z iF aI aL ∧ k = 2000 - j ∧ j ≤ tln S) (by decide) rfl sX5_timesFirst (nl (n := 2) rfl rfl rfl) ?_ ?_
  · exact ⟨2000, 0, rfl, rfl, rfl, rfl, rfl, Nat.zero_le _⟩
  · rintro k pc ls st g' ⟨j, rfl, rfl, rfl, rfl, rfl, hj⟩
    refine pk_lt (tln S) (j + 1) (fun h => ?_) (fun h => ?_) r1
    · rw [show tln S = j by omega] at hQ
      exact hQ
    · obtain ⟨p1, p2, p3⟩ := pls_spec hS hb1 hb (j + 1)
      have hb8 := bell_at (x := trw S (j + 1)) (p := 0) ((trw_Pm hS _).lt24 hn) (by omega)
      have hd := dg_lt (trw S (j + 1)) 0
      have e : ct1 (pls S b) (j + 1) = ct1 (pls S b) j + (if pls S b (j + 1) = 0 then 1 else 0) := rfl
      refine And.intro (vp_in_nI (by omega) (by omega)) (pk_ne (dg (trw S (j + 1)) 0 + 1) b (fun h2 => ?_) (fun h2 => ?_) (by
          show (ushr (aI 17 (nI (j + 1)).toNatClampNeg) (3 * (1 - 1)) &&& 7) + 1 = _
          rw [cl1 (by omega), r3 _ h]; exact hb8))
      · refine ⟨2000 - (j + 1), (by omega), j + 1, rfl, ?_, rfl, rfl, rfl, h⟩
        show [Value.ref 16, _, .int (nI (ct1 (pls S b) j)), .int (nI (j + 1) + 1)] = _
        rw [e, if_neg (fun q => h2 (by rw [q] at p2; exact p2)), nI_1]
        rfl
      · refine ⟨2000 - (j + 1), (by omega), j + 1, rfl, ?_, rfl, rfl, rfl, h⟩
        show [Value.ref 16, _, .int (nI (ct1 (pls S b) j) + 1), .int (nI (j + 1) + 1)] = _
        have h3 : pls S b (j + 1) = 0 := by
          rcases Nat.eq_zero_or_pos (pls S b (j + 1)) with q | q
          · exact q
          · exact absurd h2 (p3 0 q)
        rw [e, if_pos h3, nI_1, nI_1]
def pX5_longestStay : Spc := fun As g Q => ∃ z iF aI aL S b, g = Cg z iF aI aL ∧ As = [.ref 16, .int (nI b)] ∧ VS S ∧ RG iF aI S ∧ 1 ≤ b ∧ b ≤ sN S ∧ Q (some (.int (nI (gws (pls S b) (tln S) 3)))) g
theorem oX5_longestStay : Ok 2 yX5_longestStay cX5_longestStay 7 (some .int) pX5_longestStay := by
  refine ok_all fun As g Q h => ?_
  obtain ⟨z, iF, aI, aL, S, b, rfl, rfl, hS, ⟨r1, r2, r3⟩, hb1, hb, hQ⟩ := h
  have hn := hS.1.2
  have hT := tln_le hS
  refine at_of (fun pc => pc == 10) 80 (fun k pc ls st g' => ∃ j mo sy pb w, pc = 10 ∧ ls = [.ref 16, .int (nI b), .int (nI mo), .int (nI sy), .int (nI pb), .int (nI j), w] ∧ st = [] ∧ g' = Cg z iF aI aL ∧ k = 2000 - j ∧ j ≤ tln S + 1 ∧ ((j = 0 ∧ mo = 0 ∧ sy = 0 ∧ pb = 0) ∨ ∃ q, j = q + 1 ∧ mo = lng (pls S b) q ∧ sy = sty (pls S b) q ∧ pb = pls S b q + 1)) (by decide) rfl sX5_longestStay (nl (n := 2) rfl rfl rfl) ?_ ?_
  · exact ⟨2000, 0, 0, 0, 0, U_, rfl, rfl, rfl, rfl, rfl, Nat.zero_le _, Or.inl ⟨rfl, rfl, rfl, rfl⟩⟩
  · rintro k pc ls st g' ⟨j, mo, sy, pb, w, rfl, rfl, rfl, rfl, rfl, hj, hI⟩
    refine pk_lt (tln S) j (fun h => ?_) (fun h => ?_) r1
    · rcases hI with q | ⟨q, e, rfl, rfl, rfl⟩
      · omega
      · rw [show tln S = q by omega] at hQ
        exact hQ
    · obtain ⟨p1, p2, p3⟩ := pls_spec hS hb1 hb j
      have hb3 : sy ≤ j + 1 ∧ mo ≤ j + 1 ∧ pb ≤ 9 := by
        rcases hI with q | ⟨q, e, rfl, rfl, rfl⟩
        · omega
        · have := sty_le (pls S b) q
          have := lng_le (pls S b) q
          have := (pls_spec hS hb1 hb q).1
          omega
      have fin : ∀ sy' : Nat, sy' ≤ j + 2 → (∀ q, j = q + 1 → sy' = sty (pls S b) j) → (j = 0 → sy' = 1) → ∃ n', n' < 2000 - j ∧ ∃ j' mo' sy'' pb' w', 10 = 10 ∧ [Value.ref 16, .int (nI b), .int (if nI mo < nI sy' then nI sy' else nI mo), .int (nI sy'), .int (nI (pls S b j + 1)), .int (nI j + 1), .int (nI (pls S b j + 1))] = [.ref 16, .int (nI b), .int (nI mo'), .int (nI sy''), .int (nI pb'), .int (nI j'), w'] ∧ ([] : List Value) = [] ∧ Cg z iF aI aL = Cg z iF aI aL ∧ n' = 2000 - j' ∧ j' ≤ tln S + 1 ∧ ((j' = 0 ∧ mo' = 0 ∧ sy'' = 0 ∧ pb' = 0) ∨ ∃ q, j' = q + 1 ∧ mo' = lng (pls S b) q ∧ sy'' = sty (pls S b) q ∧ pb' = pls S b q + 1) := by
        intro sy' hs h1 h2
        refine ⟨2000 - (j + 1), (by omega), j + 1, (if mo < sy' then sy' else mo), sy', pls S b j + 1, .int (nI (pls S b j + 1)), rfl, ?_, rfl, rfl, rfl, (by omega), Or.inr ⟨j, rfl, ?_, ?_, rfl⟩⟩
        · have e : (if nI mo < nI sy' then nI sy' else nI mo) = nI (if mo < sy' then sy' else mo) := by
            by_cases q : mo < sy'
            · rw [if_pos q, if_pos ((nI_ltI (by omega) (by omega)).mpr q)]
            · rw [if_neg q, if_neg (fun y => q ((nI_ltI (by omega) (by omega)).mp y))]
          rw [e, nI_1]
        · rcases hI with ⟨rfl, rfl, rfl, rfl⟩ | ⟨q, rfl, rfl, rfl, rfl⟩
          · rw [h2 rfl]; rfl
          · rw [h1 q rfl]; rfl
        · rcases hI with ⟨rfl, rfl, rfl, rfl⟩ | ⟨q, rfl, rfl, rfl, rfl⟩
          · rw [h2 rfl]; rfl
          · exact h1 q rfl
      refine And.intro (vp_in_nI (by omega) (by omega)) ⟨b, trw S j, sN S, pls S b j, (trw_Pm hS _).lt24 hn, hn, (by omega), p1, p2, p3, (by show [_, Value.int (aI 17 (nI j).toNatClampNeg), .int (iF 16 2)] = _; rw [cl1 (by omega), r3 _ h, r2]), pk_ne (pls S b j + 1) pb (fun h2 => ?_) (fun h2 => ?_)⟩
      · refine fin 1 (by omega) (fun q e => ?_) (fun _ => rfl)
        rcases hI with y | ⟨q', e', rfl, rfl, rfl⟩
        · omega
        · subst e'
          show 1 = if pls S b (q' + 1) = pls S b q' then _ else 1
          rw [if_neg (by omega)]
      · have e1 : nI sy + 1 = nI (sy + 1) := nI_1 sy
        have := fin (sy + 1) (by omega) (fun q e => ?_) (fun e => ?_)
        · rw [← e1] at this
          exact this
        · rcases hI with y | ⟨q', e', rfl, rfl, rfl⟩
          · omega
          · subst e'
            show _ = if pls S b (q' + 1) = pls S b q' then _ else 1
            rw [if_pos (by omega)]
        · rcases hI with ⟨-, -, -, y⟩ | ⟨q', e', -⟩
          · omega
          · omega

/-! rows are put into a table, and looked up -/
def pX6_put : Spc := fun As g Q => ∃ z iF aI aL t c b fl M x tg, g = Cg z iF aI aL ∧ tc t ∧ As = [.ref t, .int (nI x), .int (nI tg)] ∧ x < 2 ^ 24 ∧ tg < 4 ∧ RT t c b fl M z iF aL ∧ M.length + 1 < 2 ^ b ∧ (x ∈ ksA M → Q (some (.int 0)) g) ∧ (x ∉ ksA M → ∀ aL', (∀ k, k ≠ t + 1 → aL' k = aL k) → RT t c b fl (M ++ [(x, tg)]) z iF aL' → Q (some (.int 1)) (Cg z iF aI aL'))
def pX6_tagOf : Spc := fun As g Q => ∃ z iF aI aL t c b fl M x, g = Cg z iF aI aL ∧ tc t ∧ As = [.ref t, .int (nI x)] ∧ x < 2 ^ 24 ∧ RT t c b fl M z iF aL ∧ (∀ tg, (x, tg) ∈ M → Q (some (.int (nI tg))) g) ∧ (x ∉ ksA M → Q (some (.int (-6))) g)
theorem e24 {e : Nat} : nI (e % 2 ^ 32) = nI e := by
  apply Int32.toBitVec_inj.1
  show BitVec.ofNat 32 (e % 2 ^ 32) = BitVec.ofNat 32 e
  apply BitVec.eq_of_toNat_eq
  simp
theorem tagI (e : Nat) : ushr (nI e) 24 = nI (e / 2 ^ 24 % 256) := by
  rw [← e24, show (24 : Int32) = nI 24 from rfl, nx_ushr (by omega) (by omega)]
  congr 1
  omega
set_option maxHeartbeats 1000000 in
theorem oX6_put : Ok 1 yX6_put cX6_put 4 (some .boolean) pX6_put := by
  refine ok_all fun As g Q h => ?_
  obtain ⟨z, iF, aI, aL, t, c, b, fl, M, x, tg, rfl, ht, rfl, hx, htg, ⟨hL, hb1, hbc, hc, hfl, h1, h2, E, hE, hT⟩, hM, hQ1, hQ2⟩ := h
  have hpc := p216 hc
  have hbp : 2 ^ b ≤ 2 ^ c := Nat.pow_le_pow_right (by decide) hbc
  have fa : ∀ j, (lushr (aL (t + 1) (nI (prb b x j)).toNatClampNeg) 32).toInt32 = iF t 2 ↔ E (prb b x j) / 2 ^ 32 = fl := by
    intro j
    have hpj := prb_lt b x j
    obtain ⟨e1, e2, e3⟩ := hE (prb b x j) (by omega)
    rw [cl1 (by omega), e1, l_top (by omega), h2]
    exact nI_eq (by omega) (by omega)
  have fin : ∀ d, fnS b fl E x d → E (prb b x d) / 2 ^ 32 ≠ fl → Q (some (.int 1)) (Cg z iF aI (up1 aL (t + 1) (up1 (aL (t + 1)) (nI (prb b x d)).toNatClampNeg (((iF t 2).toInt64 <<< ((32 : Int32).toInt64 &&& 63)) ||| (nI tg <<< ((24 : Int32) &&& 31)).toInt64 ||| (nI x).toInt64)))) := by
    intro d hd hn
    have hpj := prb_lt b x d
    rw [h2, l_mk (by omega) htg hx, cl1 (by omega)]
    refine hQ2 (hT.no hd hn) _ (fun k hk => up1_n _ _ hk) ⟨hL, hb1, hbc, hc, hfl, h1, h2, up1 E (prb b x d) (fl * 2 ^ 32 + (tg * 2 ^ 24 + x)), fun i hi => ?_, hT.put hd hn hx htg hM⟩
    rw [up1_s]
    by_cases e : i = prb b x d
    · rw [e, up1_s, up1_s]
      exact ⟨rfl, (by omega), (by omega)⟩
    · rw [up1_n _ _ e, up1_n _ _ e]
      exact hE i hi
  rcases ht with rfl | rfl | rfl
  · refine at0 100 (by decide) rfl sX6_put (nl (n := 3) rfl rfl rfl) ?_
    refine ⟨z, iF, aI, aL, 18, c, b, fl, E, M, x, rfl, Or.inl rfl, rfl, hx, hL, hb1, hbc, hc, hfl, h1, h2, hE, hT, fun d hd => ?_⟩
    have hpj := prb_lt b x d
    have iv : vp_in (nI (prb b x d)) (z.2 (18 + 1)) := by rw [hL]; exact vp_in_nI (by omega) (by omega)
    refine And.intro iv (And.intro (fun q => ?_) (fun q => ?_))
    · have q : E (prb b x d) / 2 ^ 32 ≠ fl := fun y => q ((fa d).mpr y)
      exact And.intro (Or.inl rfl) (br_t rfl (And.intro iv (And.intro (Or.inr rfl) (fin d hd q))))
    · have q : E (prb b x d) / 2 ^ 32 = fl := (fa d).mp q
      exact And.intro (Or.inr rfl) (br_f n10 (And.intro (Or.inl rfl) (hQ1 (List.mem_map.mpr ⟨_, hT.yes hd q, rfl⟩))))
  · refine at0 100 (by decide) rfl sX6_put (nl (n := 3) rfl rfl rfl) ?_
    refine ⟨z, iF, aI, aL, 24, c, b, fl, E, M, x, rfl, Or.inr (Or.inl rfl), rfl, hx, hL, hb1, hbc, hc, hfl, h1, h2, hE, hT, fun d hd => ?_⟩
    have hpj := prb_lt b x d
    have iv : vp_in (nI (prb b x d)) (z.2 (24 + 1)) := by rw [hL]; exact vp_in_nI (by omega) (by omega)
    refine And.intro iv (And.intro (fun q => ?_) (fun q => ?_))
    · have q : E (prb b x d) / 2 ^ 32 ≠ fl := fun y => q ((fa d).mpr y)
      exact And.intro (Or.inl rfl) (br_t rfl (And.intro iv (And.intro (Or.inr rfl) (fin d hd q))))
    · have q : E (prb b x d) / 2 ^ 32 = fl := (fa d).mp q
      exact And.intro (Or.inr rfl) (br_f n10 (And.intro (Or.inl rfl) (hQ1 (List.mem_map.mpr ⟨_, hT.yes hd q, rfl⟩))))
  · refine at0 100 (by decide) rfl sX6_put (nl (n := 3) rfl rfl rfl) ?_
    refine ⟨z, iF, aI, aL, 30, c, b, fl, E, M, x, rfl, Or.inr (Or.inr rfl), rfl, hx, hL, hb1, hbc, hc, hfl, h1, h2, hE, hT, fun d hd => ?_⟩
    have hpj := prb_lt b x d
    have iv : vp_in (nI (prb b x d)) (z.2 (30 + 1)) := by rw [hL]; exact vp_in_nI (by omega) (by omega)
    refine And.intro iv (And.intro (fun q => ?_) (fun q => ?_))
    · have q : E (prb b x d) / 2 ^ 32 ≠ fl := fun y => q ((fa d).mpr y)
      exact And.intro (Or.inl rfl) (br_t rfl (And.intro iv (And.intro (Or.inr rfl) (fin d hd q))))
    · have q : E (prb b x d) / 2 ^ 32 = fl := (fa d).mp q
      exact And.intro (Or.inr rfl) (br_f n10 (And.intro (Or.inl rfl) (hQ1 (List.mem_map.mpr ⟨_, hT.yes hd q, rfl⟩))))
set_option maxHeartbeats 1000000 in
theorem oX6_tagOf : Ok 1 yX6_tagOf cX6_tagOf 3 (some .int) pX6_tagOf := by
  refine ok_all fun As g Q h => ?_
  obtain ⟨z, iF, aI, aL, t, c, b, fl, M, x, rfl, ht, rfl, hx, ⟨hL, hb1, hbc, hc, hfl, h1, h2, E, hE, hT⟩, hQ1, hQ2⟩ := h
  have hpc := p216 hc
  have hbp : 2 ^ b ≤ 2 ^ c := Nat.pow_le_pow_right (by decide) hbc
  have fa : ∀ j, (lushr (aL (t + 1) (nI (prb b x j)).toNatClampNeg) 32).toInt32 = iF t 2 ↔ E (prb b x j) / 2 ^ 32 = fl := by
    intro j
    have hpj := prb_lt b x j
    obtain ⟨e1, e2, e3⟩ := hE (prb b x j) (by omega)
    rw [cl1 (by omega), e1, l_top (by omega), h2]
    exact nI_eq (by omega) (by omega)
  have fb : ∀ j, (aL (t + 1) (nI (prb b x j)).toNatClampNeg).toInt32 &&& 16777215 = nI x ↔ E (prb b x j) % 2 ^ 24 = x := by
    intro j
    have hpj := prb_lt b x j
    obtain ⟨e1, e2, e3⟩ := hE (prb b x j) (by omega)
    rw [cl1 (by omega), e1, l_low, and24]
    exact nI_eq (by omega) (by omega)
  have fc : ∀ j, ushr (aL (t + 1) (nI (prb b x j)).toNatClampNeg).toInt32 24 = nI (E (prb b x j) / 2 ^ 24 % 256) := by
    intro j
    have hpj := prb_lt b x j
    rw [cl1 (by omega), (hE (prb b x j) (by omega)).1, l_low, tagI]
  rcases ht with rfl | rfl | rfl
  · refine at0 100 (by decide) rfl sX6_tagOf (nl (n := 2) rfl rfl rfl) ?_
    refine ⟨z, iF, aI, aL, 18, c, b, fl, E, M, x, rfl, Or.inl rfl, rfl, hx, hL, hb1, hbc, hc, hfl, h1, h2, hE, hT, fun d hd => ?_⟩
    have hpj := prb_lt b x d
    have iv : vp_in (nI (prb b x d)) (z.2 (18 + 1)) := by rw [hL]; exact vp_in_nI (by omega) (by omega)
    refine And.intro iv (And.intro (fun q => ?_) (fun q => ?_))
    · have q : E (prb b x d) / 2 ^ 32 ≠ fl := fun y => q ((fa d).mpr y)
      exact And.intro (Or.inl rfl) (br_t rfl (hQ2 (hT.no hd q)))
    · have q : E (prb b x d) / 2 ^ 32 = fl := (fa d).mp q
      refine And.intro (Or.inr rfl) (br_f n10 (And.intro iv (br_t ((fb d).mpr (hd.2.2 q)) (And.intro iv ?_))))
      show Q (some (.int (ushr (aL (18 + 1) (nI (prb b x d)).toNatClampNeg).toInt32 24))) _
      rw [fc d]
      exact hQ1 _ (hT.yes hd q)
  · refine at0 100 (by decide) rfl sX6_tagOf (nl (n := 2) rfl rfl rfl) ?_
    refine ⟨z, iF, aI, aL, 24, c, b, fl, E, M, x, rfl, Or.inr (Or.inl rfl), rfl, hx, hL, hb1, hbc, hc, hfl, h1, h2, hE, hT, fun d hd => ?_⟩
    have hpj := prb_lt b x d
    have iv : vp_in (nI (prb b x d)) (z.2 (24 + 1)) := by rw [hL]; exact vp_in_nI (by omega) (by omega)
    refine And.intro iv (And.intro (fun q => ?_) (fun q => ?_))
    · have q : E (prb b x d) / 2 ^ 32 ≠ fl := fun y => q ((fa d).mpr y)
      exact And.intro (Or.inl rfl) (br_t rfl (hQ2 (hT.no hd q)))
    · have q : E (prb b x d) / 2 ^ 32 = fl := (fa d).mp q
      refine And.intro (Or.inr rfl) (br_f n10 (And.intro iv (br_t ((fb d).mpr (hd.2.2 q)) (And.intro iv ?_))))
      show Q (some (.int (ushr (aL (24 + 1) (nI (prb b x d)).toNatClampNeg).toInt32 24))) _
      rw [fc d]
      exact hQ1 _ (hT.yes hd q)
  · refine at0 100 (by decide) rfl sX6_tagOf (nl (n := 2) rfl rfl rfl) ?_
    refine ⟨z, iF, aI, aL, 30, c, b, fl, E, M, x, rfl, Or.inr (Or.inr rfl), rfl, hx, hL, hb1, hbc, hc, hfl, h1, h2, hE, hT, fun d hd => ?_⟩
    have hpj := prb_lt b x d
    have iv : vp_in (nI (prb b x d)) (z.2 (30 + 1)) := by rw [hL]; exact vp_in_nI (by omega) (by omega)
    refine And.intro iv (And.intro (fun q => ?_) (fun q => ?_))
    · have q : E (prb b x d) / 2 ^ 32 ≠ fl := fun y => q ((fa d).mpr y)
      exact And.intro (Or.inl rfl) (br_t rfl (hQ2 (hT.no hd q)))
    · have q : E (prb b x d) / 2 ^ 32 = fl := (fa d).mp q
      refine And.intro (Or.inr rfl) (br_f n10 (And.intro iv (br_t ((fb d).mpr (hd.2.2 q)) (And.intro iv ?_))))
      show Q (some (.int (ushr (aL (30 + 1) (nI (prb b x d)).toNatClampNeg).toInt32 24))) _
      rw [fc d]
      exact hQ1 _ (hT.yes hd q)

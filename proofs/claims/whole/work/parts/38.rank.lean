/-! the reference: ranks -/
def pX11_rank : Spc := fun As g Q => ∃ L iF aI aL n x, g = Mg L iF aI aL ∧ As = [.ref 32] ∧ n ≤ 8 ∧ aI 33 0 = nI n ∧ MR n x (aI 38) ∧ Q (some (.int (nI (rk n x)))) (Mg L iF aI aL)
theorem ffc_le : ∀ n, n ≤ 8 → ∀ p, p ≤ n → ffc n p ≤ 40320 := by decide +kernel
theorem rkTo_le {n x p : Nat} (hn : n ≤ 8) (hp : p ≤ n) : rkTo n x p < 40320 := Nat.lt_of_lt_of_le (rkTo_lt hp) (ffc_le n hn p hp)
theorem oX11_rank : Ok 1 yX11_rank cX11_rank 5 (some .int) pX11_rank := by
  refine ok_all fun As g Q h => ?_
  obtain ⟨L, iF, aI, aL, n, x, rfl, rfl, hn, hN, hR, hQ⟩ := h
  refine at_of (fun pc => pc == 4 || pc == 19) 60 (fun k pc ls st g' => (∃ p w w', pc = 4 ∧ ls = [.ref 32, .int (nI (rkTo n x p)), .int (nI (p + 1)), w, w'] ∧ st = [] ∧ g' = Mg L iF aI aL ∧ k = 20 * (9 - p) ∧ p ≤ n)
      ∨ (∃ p q, pc = 19 ∧ ls = [.ref 32, .int (nI (rkTo n x p)), .int (nI (p + 1)), .int (nI (lct x p q)), .int (nI (q + 1))] ∧ st = [] ∧ g' = Mg L iF aI aL ∧ k = 20 * (9 - p) - 1 - q ∧ p < q ∧ q ≤ n)) (by decide) rfl sX11_rank (nl (n := 1) rfl rfl rfl) ?_ ?_
  · exact ⟨180, Or.inl ⟨0, U_, U_, rfl, rfl, rfl, rfl, rfl, by omega⟩⟩
  · rintro k pc ls st g' (⟨p, w, w', rfl, rfl, rfl, rfl, rfl, hp⟩ | ⟨p, q, rfl, rfl, rfl, rfl, rfl, hpq, hq⟩)
    · refine And.intro (vp_in_nI (n := 0) (N := 85) (by omega) (by omega)) ?_
      refine br_c (fun h => ?_) (fun h => ?_)
      · have h : aI 33 0 < nI (p + 1) := h
        rw [hN] at h
        have h : n < p + 1 := (nI_ltI (by omega) (by omega)).mp h
        have e : p = n := by omega
        subst e
        exact hQ
      · have h : ¬ aI 33 0 < nI (p + 1) := h
        rw [hN] at h
        have h : ¬ n < p + 1 := fun q => h ((nI_ltI (by omega) (by omega)).mpr q)
        refine ⟨20 * (9 - p) - 1 - (p + 1), by omega, Or.inr ⟨p, p + 1, rfl, ?_, rfl, rfl, rfl, by omega, by omega⟩⟩
        show [Value.ref 32, .int (nI (rkTo n x p)), .int (nI (p + 1)), .int 0, .int (nI (p + 1) + 1)] = _
        have e : lct x p (p + 1) = 0 := sm_zero fun q hq => if_neg (fun z => by omega)
        rw [e, nI_1]
        rfl
    · refine And.intro (vp_in_nI (n := 0) (N := 85) (by omega) (by omega)) ?_
      refine br_c (fun h => ?_) (fun h => ?_)
      · have h : aI 33 0 < nI (q + 1) := h
        rw [hN] at h
        have h : n < q + 1 := (nI_ltI (by omega) (by omega)).mp h
        have e : q = n := by omega
        subst e
        refine And.intro (vp_in_nI (n := 0) (N := 85) (by omega) (by omega)) ?_
        refine ⟨20 * (9 - (p + 1)), by omega, Or.inl ⟨p + 1, .int (nI (lct x p q)), .int (nI (q + 1)), rfl, ?_, rfl, rfl, rfl, by omega⟩⟩
        show [Value.ref 32, .int (nI (rkTo q x p) * (aI 33 0 + 1 - nI (p + 1)) + nI (lct x p q)), .int (nI (p + 1) + 1), .int (nI (lct x p q)), .int (nI (q + 1))] = _
        rw [hN, nI_1, nx_sub (by omega), nx_mul, nI_add, nI_1, show q + 1 - (p + 1) = q - p by omega]
        rfl
      · have h : ¬ aI 33 0 < nI (q + 1) := h
        rw [hN] at h
        have h : ¬ n < q + 1 := fun z => h ((nI_ltI (by omega) (by omega)).mpr z)
        refine And.intro (vp_in_nI (by omega) (by omega)) (And.intro (vp_in_nI (by omega) (by omega)) ?_)
        have e1 : aI 38 (nI (p + 1)).toNatClampNeg = nI (dg x p + 1) := by rw [cl1 (by omega)]; exact hR p (by omega)
        have e2 : aI 38 (nI (q + 1)).toNatClampNeg = nI (dg x q + 1) := by rw [cl1 (by omega)]; exact hR q (by omega)
        have d1 := dg_lt x p
        have d2 := dg_lt x q
        refine br_c (fun hc => ?_) (fun hc => ?_)
        · have hc : aI 38 (nI (p + 1)).toNatClampNeg ≤ aI 38 (nI (q + 1)).toNatClampNeg := hc
          rw [e1, e2] at hc
          have hc : dg x p + 1 ≤ dg x q + 1 := (nI_leI (by omega) (by omega)).mp hc
          refine ⟨20 * (9 - p) - 1 - (q + 1), by omega, Or.inr ⟨p, q + 1, rfl, ?_, rfl, rfl, rfl, by omega, by omega⟩⟩
          show [Value.ref 32, .int (nI (rkTo n x p)), .int (nI (p + 1)), .int (nI (lct x p q) + 0), .int (nI (q + 1) + 1)] = _
          have e : lct x p (q + 1) = lct x p q := by
            show sm _ q + (if p < q ∧ dg x q < dg x p then 1 else 0) = _
            rw [if_neg (fun z => by omega)]
            rfl
          rw [e, nI_1, show (0 : Int32) = nI 0 from rfl, nI_add]
          rfl
        · have hc : ¬ aI 38 (nI (p + 1)).toNatClampNeg ≤ aI 38 (nI (q + 1)).toNatClampNeg := hc
          rw [e1, e2] at hc
          have hc : ¬ dg x p + 1 ≤ dg x q + 1 := fun z => hc ((nI_leI (by omega) (by omega)).mpr z)
          refine ⟨20 * (9 - p) - 1 - (q + 1), by omega, Or.inr ⟨p, q + 1, rfl, ?_, rfl, rfl, rfl, by omega, by omega⟩⟩
          show [Value.ref 32, .int (nI (rkTo n x p)), .int (nI (p + 1)), .int (nI (lct x p q) + 1), .int (nI (q + 1) + 1)] = _
          have e : lct x p (q + 1) = lct x p q + 1 := by
            show sm _ q + (if p < q ∧ dg x q < dg x p then 1 else 0) = _
            rw [if_pos ⟨by omega, by omega⟩]
            rfl
          rw [e, nI_1, nI_1]
theorem uct_le {n x i v : Nat} (h : Pm n x) (hi : i < n) (hv : v ≤ dg x i) : uct x i v ≤ lct x i n := by
  rw [lct_uct h hi]
  exact sm_mono hv
def pX11_layRank : Spc := fun As g Q => ∃ L iF aI aL n x, g = Mg L iF aI aL ∧ As = [.ref 32, .int (nI (rk n x))] ∧ 4 ≤ n ∧ n ≤ 8 ∧ aI 33 0 = nI n ∧ Pm n x ∧ ∀ f u, MR n x f → Q none (Mg L iF (up1 (up1 aI 38 f) 39 u) aL)
theorem up1_id {α : Type} (f : Nat → α) (k : Nat) : up1 f k (f k) = f := by funext j; unfold up1; split <;> simp_all
theorem oX11_layRank : Ok 1 yX11_layRank cX11_layRank 6 none pX11_layRank := by
  refine ok_all fun As g Q h => ?_
  obtain ⟨L, iF, aI, aL, n, x, rfl, rfl, hn4, hn, hN, hx, hQ⟩ := h
  have i0 : vp_in 0 85 := vp_in_nI (n := 0) (N := 85) (by omega) (by omega)
  refine at_of (fun pc => pc == 7 || pc == 54 || pc == 73) 80 (fun k pc ls st g' => (∃ j f u, pc = 7 ∧ ls = [.ref 32, .int (nI (rk n x)), .int (nI (rkTo n x j)), .int (nI j), U_, U_] ∧ st = [] ∧ g' = Mg L iF (up1 (up1 aI 38 f) 39 u) aL ∧ k = 2000 + j ∧ j ≤ n ∧ (∀ q, j ≤ q → q < n → f (q + 1) = nI (lct x q n) ∧ u (q + 1) = 0))
      ∨ (∃ i f u w w' r, pc = 54 ∧ ls = [.ref 32, .int (nI (rk n x)), .int r, .int (nI (i + 1)), w, w'] ∧ st = [] ∧ g' = Mg L iF (up1 (up1 aI 38 f) 39 u) aL ∧ k = 100 * (9 - i) ∧ i ≤ n ∧ (∀ q, q < n → f (q + 1) = if q < i then nI (dg x q + 1) else nI (lct x q n)) ∧ (∀ v, v < n → u (v + 1) = if usd x i v = true then 1 else 0))
      ∨ (∃ i v f u r, pc = 73 ∧ ls = [.ref 32, .int (nI (rk n x)), .int r, .int (nI (i + 1)), .int (nI (lct x i n - uct x i v)), .int (nI (v + 1))] ∧ st = [] ∧ g' = Mg L iF (up1 (up1 aI 38 f) 39 u) aL ∧ k = 100 * (9 - i) - 1 - v ∧ i < n ∧ v ≤ dg x i ∧ (∀ q, q < n → f (q + 1) = if q < i then nI (dg x q + 1) else nI (lct x q n)) ∧ (∀ v, v < n → u (v + 1) = if usd x i v = true then 1 else 0))) (by decide) rfl sX11_layRank (nl (n := 2) rfl rfl rfl) ?_ ?_
  · refine And.intro i0 ?_
    refine ⟨2000 + n, Or.inl ⟨n, aI 38, aI 39, rfl, ?_, rfl, ?_, rfl, by omega, fun q h1 h2 => by omega⟩⟩
    · show [Value.ref 32, .int (nI (rk n x)), .int (nI (rk n x)), .int (aI 33 0), U_, U_] = _
      rw [hN]; rfl
    · show (SH (true, L), iF, aI, aL) = (SH (true, L), iF, up1 (up1 aI 38 (aI 38)) 39 (aI 39), aL)
      have e : aI 39 = up1 aI 38 (aI 38) 39 := by rw [up1_id]
      rw [e, up1_id, up1_id]
  · rintro k pc ls st g' (⟨j, f, u, rfl, rfl, rfl, rfl, rfl, hj, hf⟩ | ⟨i, f, u, w, w', r, rfl, rfl, rfl, rfl, rfl, hi, hf, hu⟩ | ⟨i, v, f, u, r, rfl, rfl, rfl, rfl, rfl, hi, hv, hf, hu⟩)
    · refine br_c (fun h => ?_) (fun h => ?_)
      · have h : j < 1 := (nI_ltI (b := 1) (by omega) (by omega)).mp h
        have e : j = 0 := by omega
        subst e
        refine ⟨900, by omega, Or.inr (Or.inl ⟨0, f, u, U_, U_, nI 0, rfl, rfl, rfl, rfl, rfl, by omega, fun q hq => ?_, fun v hv => ?_⟩)⟩
        · rw [if_neg (by omega)]; exact (hf q (by omega) hq).1
        · rw [(hf v (by omega) hv).2]; rfl
      · have h : ¬ j < 1 := fun q => h ((nI_ltI (b := 1) (by omega) (by omega)).mpr q)
        obtain ⟨j, rfl⟩ : ∃ z, j = z + 1 := ⟨j - 1, by omega⟩
        have hd : (aI 33 0 + 1 - nI (j + 1) : Int32) = nI (n - j) := by rw [hN, nI_1, nx_sub (by omega), show n + 1 - (j + 1) = n - j by omega]
        have hne : ¬ nI (n - j) = 0 := fun e => by have := (nI_eq (b := 0) (by omega) (by omega)).mp e; omega
        have hb := rkTo_le (x := x) hn hj
        have hl := lct_lt (x := x) (show j < n by omega)
        have e0 : rkTo n x (j + 1) = rkTo n x j * (n - j) + lct x j n := rfl
        have e1 : rkTo n x (j + 1) % (n - j) = lct x j n := by rw [e0, Nat.mul_add_mod_self_right, Nat.mod_eq_of_lt hl]
        have e2 : rkTo n x (j + 1) / (n - j) = rkTo n x j := by rw [e0, Nat.mul_comm, Nat.mul_add_div (by omega), Nat.div_eq_of_lt hl, Nat.add_zero]
        refine And.intro i0 (And.intro (by rw [show (¬ (Mg L iF (up1 (up1 aI 38 f) 39 u) aL).2.2.1 33 (Int32.toNatClampNeg 0) + 1 - nI (j + 1) = 0) = (¬ (aI 33 0 + 1 - nI (j + 1) : Int32) = 0) from rfl, hd]; exact hne) ?_)
        refine And.intro (vp_in_nI (by omega) (by omega)) (And.intro i0 (And.intro (by rw [show (¬ (gA' (Mg L iF (up1 (up1 aI 38 f) 39 u) aL) 38 (nI (j + 1)).toNatClampNeg _).2.2.1 33 (Int32.toNatClampNeg 0) + 1 - nI (j + 1) = 0) = (¬ (aI 33 0 + 1 - nI (j + 1) : Int32) = 0) from rfl, hd]; exact hne) ?_))
        refine And.intro (Or.inl rfl) (And.intro (vp_in_nI (by omega) (by omega)) ?_)
        refine ⟨2000 + j, by omega, Or.inl ⟨j, up1 f (j + 1) (nI (lct x j n)), up1 u (j + 1) 0, rfl, ?_, rfl, ?_, rfl, by omega, fun q h1 h2 => ?_⟩⟩
        · show [Value.ref 32, .int (nI (rk n x)), .int (nI (rkTo n x (j + 1)) / (aI 33 0 + 1 - nI (j + 1))), .int (nI (j + 1) + (-1)), U_, U_] = _
          rw [hd, pk_div (by omega) (by omega) (by omega), e2, pk_m1]
        · show (SH (true, L), iF, up1 (up1 (up1 (up1 aI 38 f) 39 u) 38 (up1 (up1 (up1 aI 38 f) 39 u 38) (nI (j + 1)).toNatClampNeg (nI (rkTo n x (j + 1)) - nI (rkTo n x (j + 1)) / (aI 33 0 + 1 - nI (j + 1)) * (aI 33 0 + 1 - nI (j + 1))))) 39 (up1 (up1 (up1 (up1 aI 38 f) 39 u) 38 (up1 (up1 (up1 aI 38 f) 39 u 38) (nI (j + 1)).toNatClampNeg (nI (rkTo n x (j + 1)) - nI (rkTo n x (j + 1)) / (aI 33 0 + 1 - nI (j + 1)) * (aI 33 0 + 1 - nI (j + 1)))) 39) (nI (j + 1)).toNatClampNeg 0), aL) = _
          rw [hd, pk_rem (by omega) (by omega) (by omega), e1, cl1 (by omega)]
          congr 3
          funext a
          unfold up1
          by_cases h39 : a = 39
          · subst h39; simp
          · by_cases h38 : a = 38
            · subst h38; simp
            · simp [h39, h38]
        · by_cases e : q = j
          · subst e; rw [up1_s, up1_s]; exact ⟨rfl, rfl⟩
          · rw [up1_n _ _ (by omega), up1_n _ _ (by omega)]; exact hf q (by omega) h2
    · refine And.intro i0 ?_
      refine br_c (fun h => ?_) (fun h => ?_)
      · have h : aI 33 0 < nI (i + 1) := h
        rw [hN] at h
        have h : n < i + 1 := (nI_ltI (by omega) (by omega)).mp h
        refine hQ f u (fun q hq => ?_)
        rw [hf q hq, if_pos (by omega)]
      · have h : ¬ aI 33 0 < nI (i + 1) := h
        rw [hN] at h
        have h : ¬ n < i + 1 := fun q => h ((nI_ltI (by omega) (by omega)).mpr q)
        refine And.intro (vp_in_nI (by omega) (by omega)) ?_
        refine ⟨100 * (9 - i) - 1, by omega, Or.inr (Or.inr ⟨i, 0, f, u, r, rfl, ?_, rfl, rfl, rfl, by omega, by omega, hf, hu⟩)⟩
        show [Value.ref 32, .int (nI (rk n x)), .int r, .int (nI (i + 1)), .int (f (nI (i + 1)).toNatClampNeg), .int 1] = _
        rw [cl1 (by omega), hf i (by omega), if_neg (by omega)]
        rfl
    · have hd := hx.2.1 i hi
      have hul := uct_le hx hi hv
      have hll := lct_lt (x := x) hi
      have iv : vp_in (nI (v + 1)) 9 := vp_in_nI (by omega) (by omega)
      have eu : u (nI (v + 1)).toNatClampNeg = if usd x i v = true then 1 else 0 := by rw [cl1 (by omega)]; exact hu v (by omega)
      have us1 : uct x i (v + 1) = uct x i v + (if usd x i v = true then 0 else 1) := rfl
      refine And.intro iv (And.intro (fun h1 => ?_) (fun h1 => ?_))
      · have h1 : ¬ u (nI (v + 1)).toNatClampNeg = 0 := h1
        have hus : usd x i v = true := by
          cases hc : usd x i v with
          | true => rfl
          | false => rw [eu, hc] at h1; exact absurd rfl h1
        have hvd : v ≠ dg x i := fun e => by rw [e, usd_self hx hi] at hus; cases hus
        refine And.intro iv (br_f h1 ?_)
        refine ⟨100 * (9 - i) - 1 - (v + 1), by omega, Or.inr (Or.inr ⟨i, v + 1, f, u, r, rfl, ?_, rfl, rfl, rfl, hi, by omega, hf, hu⟩)⟩
        show [Value.ref 32, .int (nI (rk n x)), .int r, .int (nI (i + 1)), .int (nI (lct x i n - uct x i v) - nI 0), .int (nI (v + 1) + 1)] = _
        rw [us1, if_pos hus, nx_sub (by omega), nI_1]
        rfl
      · have h1 : u (nI (v + 1)).toNatClampNeg = 0 := h1
        have hus : usd x i v = false := by
          cases hc : usd x i v with
          | false => rfl
          | true => rw [eu, hc] at h1; exact absurd h1 (by decide)
        refine br_c (fun h2 => ?_) (fun h2 => ?_)
        · have h2 : lct x i n - uct x i v ≤ 0 := (nI_leI (b := 0) (by omega) (by omega)).mp h2
          have hvd : v = dg x i := by
            rcases Nat.lt_or_ge v (dg x i) with h | h
            · have := uct_lt hus h
              rw [lct_uct hx hi] at h2
              omega
            · omega
          refine And.intro (Or.inr rfl) (And.intro iv (And.intro (vp_in_nI (by omega) (by omega)) ?_))
          refine ⟨100 * (9 - (i + 1)), by omega, Or.inr (Or.inl ⟨i + 1, up1 f (i + 1) (nI (v + 1)), up1 u (v + 1) 1, .int (nI (lct x i n - uct x i v)), .int (nI (v + 1)), r, rfl, ?_, rfl, ?_, rfl, by omega, fun q hq => ?_, fun w hw => ?_⟩)⟩
          · show [Value.ref 32, .int (nI (rk n x)), .int r, .int (nI (i + 1) + 1), .int (nI (lct x i n - uct x i v)), .int (nI (v + 1))] = _
            rw [nI_1]
          · show (SH (true, L), iF, up1 (up1 (up1 (up1 aI 38 f) 39 u) 39 (up1 (up1 (up1 aI 38 f) 39 u 39) (nI (v + 1)).toNatClampNeg 1)) 38 (up1 (up1 (up1 (up1 aI 38 f) 39 u) 39 (up1 (up1 (up1 aI 38 f) 39 u 39) (nI (v + 1)).toNatClampNeg 1) 38) (nI (i + 1)).toNatClampNeg (nI (v + 1))), aL) = _
            rw [cl1 (by omega), cl1 (by omega)]
            congr 3
            funext a
            unfold up1
            by_cases h39 : a = 39
            · subst h39; simp
            · by_cases h38 : a = 38
              · subst h38; simp
              · simp [h39, h38]
          · by_cases e : q = i
            · subst e; rw [up1_s, if_pos (by omega), hvd]
            · rw [up1_n _ _ (by omega), hf q hq]
              by_cases e2 : q < i
              · rw [if_pos e2, if_pos (by omega)]
              · rw [if_neg e2, if_neg (by omega)]
          · have e3 : usd x (i + 1) w = true ↔ (usd x i w = true ∨ w = v) := by
              rw [usd_iff, usd_iff]
              constructor
              · rintro ⟨q, h3, h4⟩
                by_cases e : q = i
                · right; rw [← h4, e, hvd]
                · left; exact ⟨q, by omega, h4⟩
              · rintro (⟨q, h3, h4⟩ | h3)
                · exact ⟨q, by omega, h4⟩
                · exact ⟨i, by omega, by rw [h3, hvd]⟩
            by_cases e : w = v
            · subst e; rw [up1_s, if_pos (e3.mpr (Or.inr rfl))]
            · rw [up1_n _ _ (by omega), hu w hw]
              by_cases e4 : usd x i w = true
              · rw [if_pos e4, if_pos (e3.mpr (Or.inl e4))]
              · rw [if_neg e4, if_neg (fun z => (e3.mp z).elim e4 e)]
        · have h2 : ¬ lct x i n - uct x i v ≤ 0 := fun z => h2 ((nI_leI (b := 0) (by omega) (by omega)).mpr z)
          have hvd : v ≠ dg x i := fun e => by rw [e, ← lct_uct hx hi] at h2; omega
          refine And.intro iv (br_t h1 ?_)
          refine ⟨100 * (9 - i) - 1 - (v + 1), by omega, Or.inr (Or.inr ⟨i, v + 1, f, u, r, rfl, ?_, rfl, rfl, rfl, hi, by omega, hf, hu⟩)⟩
          show [Value.ref 32, .int (nI (rk n x)), .int r, .int (nI (i + 1)), .int (nI (lct x i n - uct x i v) - nI 1), .int (nI (v + 1) + 1)] = _
          rw [us1, if_neg (by rw [hus]; simp), nx_sub (by omega), nI_1, show lct x i n - uct x i v - 1 = lct x i n - (uct x i v + 1) by omega]
/-! how many places are in a set -/
def pct (m : Nat) : Nat → Nat
  | 0 => 0
  | p + 1 => pct m p + m / 2 ^ (p + 1) % 2
def pX11_size : Spc := fun As g Q => ∃ m, m < 512 ∧ As = [.int (nI m)] ∧ Q (some (.int (nI (pct m 8)))) g
theorem oX11_size : Ok 0 yX11_size cX11_size 3 (some .int) pX11_size := by
  refine ok_all fun As g Q h => ?_
  obtain ⟨m, hm, rfl, hQ⟩ := h
  refine at_of (fun pc => pc == 4) 40 (fun k pc ls st g' => ∃ p, pc = 4 ∧ ls = [.int (nI m), .int (nI (pct m p)), .int (nI (p + 1))] ∧ st = [] ∧ g' = g ∧ k = 8 - p ∧ p ≤ 8) (by decide) rfl sX11_size (nl (n := 1) rfl rfl rfl) ?_ ?_
  · exact ⟨8, 0, rfl, rfl, rfl, rfl, by omega, by omega⟩
  · rintro k pc ls st g' ⟨p, rfl, rfl, rfl, rfl, rfl, hp⟩
    refine br_c (fun h => ?_) (fun h => ?_)
    · have h : 9 ≤ p + 1 := (nI_leI (a := 9) (by omega) (by omega)).mp h
      have e : p = 8 := by omega
      subst e
      exact hQ
    · have h : ¬ 9 ≤ p + 1 := fun q => h ((nI_leI (a := 9) (by omega) (by omega)).mpr q)
      refine ⟨8 - (p + 1), by omega, p + 1, rfl, ?_, rfl, rfl, rfl, by omega⟩
      show [Value.int (nI m), .int (nI (pct m p) + (nI m >>> (nI (p + 1) &&& 31) &&& 1)), .int (nI (p + 1) + 1)] = _
      rw [nx_shr (by omega) (by omega), and1, nI_add, nI_1]
      rfl
/-- Integer.bitCount of a set of places -/
theorem bcI_pct : ∀ m, m < 512 → m % 2 = 0 → bcI (nI m) = nI (pct m 8) := by decide +kernel

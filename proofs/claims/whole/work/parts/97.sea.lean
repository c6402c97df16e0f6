/-! the search of the class -/
theorem RT.of {t c b fl : Nat} {M : Asc} {z z' : Zt} {iF iF' : Nat → Nat → Int32} {aL aL' : Nat → Nat → Int64} (h : RT t c b fl M z iF aL) (h1 : z'.2 (t + 1) = z.2 (t + 1)) (h2 : iF' t = iF t) (h3 : aL' (t + 1) = aL (t + 1)) : RT t c b fl M z' iF' aL' := by
  unfold RT at h ⊢
  rw [h1, h2, h3]
  exact h
theorem RT0.of {t c fl : Nat} {z z' : Zt} {iF iF' : Nat → Nat → Int32} {aL aL' : Nat → Nat → Int64} (h : RT0 t c fl z iF aL) (h1 : z'.2 (t + 1) = z.2 (t + 1)) (h2 : iF' t = iF t) (h3 : aL' (t + 1) = aL (t + 1)) : RT0 t c fl z' iF' aL' := by
  unfold Jvm.Pilot.CBellTouchesLaw_law_r3018_e1d17a.RT0 at h ⊢
  rw [h1, h2, h3]
  exact h
def pX8_forget : Spc := fun As g Q => ∃ z iF aI aL, g = Cg z iF aI aL ∧ As = [.ref 23] ∧ ∀ a, (∀ i, i < 8 → a i = 0) → Q none (Cg z (up1 iF 23 (up1 (iF 23) 3 0)) (up1 aI 27 a) aL)
theorem oX8_forget : Ok 0 yX8_forget cX8_forget 2 none pX8_forget := by
  refine ok_all fun As g Q h => ?_
  obtain ⟨z, iF, aI, aL, rfl, rfl, hQ⟩ := h
  refine at_of (fun pc => pc == 7) 80 (fun k pc ls st g' => ∃ j a, pc = 7 ∧ ls = [.ref 23, .int (nI j)] ∧ st = [] ∧ g' = Cg z (up1 iF 23 (up1 (iF 23) 3 0)) (up1 aI 27 a) aL ∧ k = 8 - j ∧ j ≤ 8 ∧ ∀ i, i < j → a i = 0) (by decide) rfl sX8_forget (nl (n := 1) rfl rfl rfl) ?_ ?_
  · refine ⟨8, 0, aI 27, rfl, rfl, rfl, ?_, rfl, Nat.zero_le _, fun j h => absurd h (Nat.not_lt_zero j)⟩
    rw [up1_id]
    rfl
  · rintro k pc ls st g' ⟨j, a, rfl, rfl, rfl, rfl, rfl, hj, ha⟩
    refine pk_lt 7 j (fun h => ?_) (fun h => ?_)
    · exact hQ a (fun i hi => ha i (by omega))
    · refine And.intro (vp_in_nI (by omega) (by omega)) ⟨8 - (j + 1), (by omega), j + 1, up1 a j 0, rfl, (by show [Value.ref 23, .int (nI j + 1)] = _; rw [nI_1]), rfl, ?_, rfl, (by omega), fun i hi => ?_⟩
      · show Cg z _ (up1 (up1 aI 27 a) 27 (up1 a (nI j).toNatClampNeg 0)) aL = _
        rw [up1_up1, cl1 (by omega)]
      · by_cases e : i = j
        · rw [e, up1_s]
        · rw [up1_n _ _ e]; exact ha i (by omega)
def pX8_add : Spc := fun As g Q => ∃ z iF aI aL c b fl M x tg, g = Cg z iF aI aL ∧ As = [.ref 23, .int (nI x), .int (nI tg)] ∧ x < 2 ^ 24 ∧ tg < 4 ∧ RT 24 c b fl M z iF aL ∧ M.length + 1 < 2 ^ b ∧ z.2 26 ≤ 40320 ∧ M.length ≤ 40320 ∧ (x ∉ ksA M → M.length < z.2 26) ∧ iF 23 2 = nI M.length ∧ (x ∈ ksA M → Q none g) ∧ (x ∉ ksA M → ∀ aL', (∀ k, k ≠ 25 → aL' k = aL k) → RT 24 c b fl (M ++ [(x, tg)]) z (up1 iF 23 (up1 (iF 23) 2 (nI (M.length + 1)))) aL' → Q none (Cg z (up1 iF 23 (up1 (iF 23) 2 (nI (M.length + 1)))) (up1 aI 26 (up1 (aI 26) M.length (nI x))) aL'))
theorem oX8_add : Ok 2 yX8_add cX8_add 3 none pX8_add := by
  refine ok_all fun As g Q h => ?_
  obtain ⟨z, iF, aI, aL, c, b, fl, M, x, tg, rfl, rfl, hx, htg, hM, hMb, hz, hMl, hnew, h2, hQ1, hQ2⟩ := h
  refine at0 80 (by decide) rfl sX8_add (nl (n := 3) rfl rfl rfl) ?_
  refine pk_le (z.2 26) M.length (fun h => ?_) (fun h => ?_) rfl h2
  · exact hQ1 (Classical.byContradiction fun q => by have := hnew q; omega)
  · refine ⟨z, iF, aI, aL, 24, c, b, fl, M, x, tg, rfl, Or.inr (Or.inl rfl), rfl, hx, htg, hM, hMb, fun q => br_t rfl (hQ1 q), fun q aL' a1 a2 => br_f n10 ?_⟩
    refine And.intro (pk_in M.length (z.2 26) h h2) ?_
    show Q none (Cg z (up1 iF 23 (up1 (iF 23) 2 (iF 23 2 + 1))) (up1 aI 26 (up1 (aI 26) (iF 23 2).toNatClampNeg (nI x))) aL')
    rw [h2, nI_1, cl1 (by omega)]
    exact hQ2 q aL' a1 (a2.of rfl rfl rfl)
/-- what a search leaves as it was -/
def SF (w : Nat) (z : Zt) (iF aI : Nat → Nat → Int32) (aL : Nat → Nat → Int64) (z' : Zt) (iF' aI' : Nat → Nat → Int32) (aL' : Nat → Nat → Int64) : Prop := z'.1 = z.1 ∧ (∀ k, k ≠ 25 → k ≠ 26 → z'.2 k = z.2 k) ∧ (∀ k, k ≠ 23 → k ≠ 24 → iF' k = iF k) ∧ ∀ k, k ≠ 25 → k ≠ 26 → k ≠ w → k ≠ 48 → aI' k = aI k ∧ aL' k = aL k
theorem SF.rf {w : Nat} {z : Zt} {iF aI : Nat → Nat → Int32} {aL : Nat → Nat → Int64} : SF w z iF aI aL z iF aI aL := ⟨rfl, fun _ _ _ => rfl, fun _ _ _ => rfl, fun _ _ _ _ _ => ⟨rfl, rfl⟩⟩
theorem SF.wk {w w' : Nat} {z z' : Zt} {iF aI iF' aI' : Nat → Nat → Int32} {aL aL' : Nat → Nat → Int64} (h : SF w z iF aI aL z' iF' aI' aL') (hw : w = w' ∨ w = 25) : SF w' z iF aI aL z' iF' aI' aL' := ⟨h.1, h.2.1, h.2.2.1, fun k a b c d => h.2.2.2 k a b (by omega) d⟩
theorem SF.fld {w : Nat} {z z' : Zt} {iF aI iF' aI' : Nat → Nat → Int32} {aL aL' : Nat → Nat → Int64} (h : SF w z iF aI aL z' iF' aI' aL') (f : Nat → Int32) : SF w z iF aI aL z' (up1 iF' 23 f) aI' aL' := ⟨h.1, h.2.1, fun k a b => by rw [up1_n _ _ a]; exact h.2.2.1 k a b, h.2.2.2⟩
theorem SF.arr {w : Nat} {z z' : Zt} {iF aI iF' aI' : Nat → Nat → Int32} {aL aL' : Nat → Nat → Int64} (h : SF w z iF aI aL z' iF' aI' aL') (f : Nat → Int32) : SF w z iF aI aL z' iF' (up1 aI' 26 f) aL' := ⟨h.1, h.2.1, h.2.2.1, fun k a b c d => by rw [up1_n _ _ b]; exact h.2.2.2 k a b c d⟩
theorem SF.arw {w : Nat} {z z' : Zt} {iF aI iF' aI' : Nat → Nat → Int32} {aL aL' : Nat → Nat → Int64} (h : SF w z iF aI aL z' iF' aI' aL') (f : Nat → Int32) : SF w z iF aI aL z' iF' (up1 aI' w f) aL' := ⟨h.1, h.2.1, h.2.2.1, fun k a b c d => by rw [up1_n _ _ c]; exact h.2.2.2 k a b c d⟩
theorem SF.al {w : Nat} {z z' : Zt} {iF aI iF' aI' : Nat → Nat → Int32} {aL aL' aL'' : Nat → Nat → Int64} (h : SF w z iF aI aL z' iF' aI' aL') (h2 : ∀ k, k ≠ 25 → aL'' k = aL' k) : SF w z iF aI aL z' iF' aI' aL'' := ⟨h.1, h.2.1, h.2.2.1, fun k a b c d => ⟨(h.2.2.2 k a b c d).1, (h2 k a).trans (h.2.2.2 k a b c d).2⟩⟩
theorem SF.tr {w : Nat} {z z' z2 : Zt} {iF aI iF' aI' iF2 aI2 : Nat → Nat → Int32} {aL aL' aL2 : Nat → Nat → Int64} (h : SF w z iF aI aL z' iF' aI' aL') (h2 : SF w z' iF' aI' aL' z2 iF2 aI2 aL2) : SF w z iF aI aL z2 iF2 aI2 aL2 := ⟨h2.1.trans h.1, fun k a b => (h2.2.1 k a b).trans (h.2.1 k a b), fun k a b => (h2.2.2.1 k a b).trans (h.2.2.1 k a b), fun k a b c d => ⟨(h2.2.2.2 k a b c d).1.trans (h.2.2.2 k a b c d).1, (h2.2.2.2 k a b c d).2.trans (h.2.2.2 k a b c d).2⟩⟩
def QL (z : Zt) : Prop := z.2 26 = 1 ∨ ∃ n, 4 ≤ n ∧ n ≤ 8 ∧ z.2 26 = fct n
theorem fct_dbl : ∀ m, m < 9 → ∀ n, n < 9 → 4 ≤ m → 4 ≤ n → fct m < fct n → 2 * fct m ≤ fct n := by decide +kernel
theorem fct_24 : ∀ n, n < 9 → 4 ≤ n → 24 ≤ fct n ∧ fct n % 2 = 0 := by decide +kernel
theorem QL.dbl {z : Zt} (h : QL z) {n : Nat} (h4 : 4 ≤ n) (h8 : n ≤ 8) (hl : z.2 26 < fct n) : 2 * z.2 26 ≤ fct n := by
  rcases h with h | ⟨m, m1, m2, h⟩
  · have := (fct_24 n (by omega) h4).1; omega
  · rw [h] at hl ⊢; exact fct_dbl m (by omega) n (by omega) m1 h4 hl
/-- the rows of a search with their letters -/
def BM (E : List Ent) : Asc := E.map (fun e => (e.1, e.2.2.1))
theorem ksA_BM (E : List Ent) : ksA (BM E) = kys E := by
  unfold ksA BM kys
  rw [List.map_map]
  rfl
theorem BM_len (E : List Ent) : (BM E).length = E.length := List.length_map _
theorem BM_app (E : List Ent) (e : Ent) : BM (E ++ [e]) = BM E ++ [(e.1, e.2.2.1)] := by unfold BM; rw [List.map_append]; rfl
theorem WE.len {S : Stg} {E : List Ent} (h : WE S E) (hn : sN S ≤ 8) : E.length ≤ fct (sN S) := by
  have h1 : ∀ x ∈ kys E, Pm (sN S) x := fun x hx => by
    obtain ⟨e, he, rfl⟩ := List.mem_map.mp hx
    exact h.2.2.2.1 e he
  have := nodup_len h.2.2.1 (fun x _ => rk_lt hn) (fun x hx y hy e => rk_inj (h1 x hx) (h1 y hy) e)
  rw [kys_len] at this
  exact this
theorem b_two {b r : Nat} (hb : 1 ≤ b) (h : r < 2 ^ b) (hr : r % 2 = 0) : r + 1 < 2 ^ b := by
  have e : 2 ^ b = 2 ^ (b - 1) * 2 := by rw [← Nat.pow_succ]; congr 1; omega
  omega
/-- the store of a search under way -/
def SR (S : Stg) (ls fl : Nat) (E : List Ent) (z : Zt) (iF aI : Nat → Nat → Int32) (aL : Nat → Nat → Int64) : Prop := Lok z.2 ∧ QL z ∧ fct (sN S) ≤ z.2 26 ∧ (∃ c b, RT 24 c b fl (BM E) z iF aL ∧ fct (sN S) + 1 < 2 ^ b) ∧ iF 23 2 = nI E.length ∧ iF 23 3 = nI ls ∧ (∀ i, i < E.length → aI 26 i = nI (E.getD i (0, 0, 0, 0)).1) ∧ WE S E

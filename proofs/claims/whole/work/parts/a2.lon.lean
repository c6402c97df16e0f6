/-! the tree's small methods -/
def pX2_firstOfDepth : Spc := fun As g Q => ∃ d, d ≤ 6 ∧ As = [.int (nI d)] ∧ Q (some (.int (nI (fd d)))) g
theorem oX2_firstOfDepth : Ok 0 yX2_firstOfDepth cX2_firstOfDepth 3 (some .int) pX2_firstOfDepth := by
  refine ok_all fun As g Q h => ?_
  obtain ⟨d, hd, rfl, hQ⟩ := h
  refine at_of (fun pc => pc == 4) 60 (fun k pc ls st g' => ∃ i, pc = 4 ∧ ls = [.int (nI d), .int (nI (fd i)), .int (nI i)] ∧ st = [] ∧ g' = g ∧ k = 10 - i ∧ i ≤ d) (by decide) rfl sX2_firstOfDepth (nl (n := 1) rfl rfl rfl) ?_ ?_
  · exact ⟨10, 0, rfl, rfl, rfl, rfl, rfl, Nat.zero_le _⟩
  · rintro k pc ls st g' ⟨i, rfl, rfl, rfl, rfl, rfl, hi⟩
    refine pk_le d i (fun h => ?_) (fun h => ?_)
    · have e : i = d := by omega
      subst e
      exact hQ
    · refine ⟨10 - (i + 1), (by omega), i + 1, rfl, ?_, rfl, rfl, rfl, h⟩
      show [Value.int (nI d), .int (3 * nI (fd i) + 1), .int (nI i + 1)] = _
      rw [show (3 : Int32) = nI 3 from rfl, nx_mul, nI_1, nI_1]
      rfl
def pX2_depthOf : Spc := fun As g Q => ∃ z iF aI aL d w, g = Cg z iF aI aL ∧ d ≤ 5 ∧ w < 3 ^ d ∧ As = [.ref 28, .int (nI (fd d + w))] ∧ Q (some (.int (nI d))) g
theorem oX2_depthOf : Ok 1 yX2_depthOf cX2_depthOf 4 (some .int) pX2_depthOf := by
  refine ok_all fun As g Q h => ?_
  obtain ⟨z, iF, aI, aL, d, w, rfl, hd, hw, rfl, hQ⟩ := h
  refine at_of (fun pc => pc == 4) 60 (fun k pc ls st g' => ∃ i, pc = 4 ∧ ls = [.ref 28, .int (nI (fd d + w)), .int (nI (fd (d - i) + w / 3 ^ i)), .int (nI i)] ∧ st = [] ∧ g' = Cg z iF aI aL ∧ k = 10 - i ∧ i ≤ d) (by decide) rfl sX2_depthOf (nl (n := 2) rfl rfl rfl) ?_ ?_
  · refine ⟨10, 0, rfl, ?_, rfl, rfl, rfl, Nat.zero_le _⟩
    show [Value.ref 28, _, .int (nI (fd d + w)), .int 0] = _
    rw [Nat.pow_zero, Nat.div_one]
    rfl
  · rintro k pc ls st g' ⟨i, rfl, rfl, rfl, rfl, rfl, hi⟩
    have hlt := nd_lt hd hi hw
    refine pk_le (fd (d - i) + w / 3 ^ i) 0 (fun h => ?_) (fun h => ?_)
    · have e : i = d := by
        rcases Nat.lt_or_ge i d with q | q
        · exact absurd h (Nat.not_le.mpr (Nat.lt_of_lt_of_le (fd_pos (show 1 ≤ d - i by omega)) (Nat.le_add_right _ _)))
        · omega
      subst e
      exact hQ
    · have hid : i < d := by
        rcases Nat.lt_or_ge i d with q | q
        · exact q
        · have e : i = d := by omega
          rw [e, Nat.sub_self, div3_0 hw] at h
          exact absurd h (by decide)
      refine pk_le 5 i (fun q => absurd q (by omega)) (fun _ => ?_)
      obtain ⟨m, m1, m2, m3⟩ := fd_up w hid
      refine ⟨m, (by rw [m1]), (by omega), ?_⟩
      refine ⟨10 - (i + 1), (by omega), i + 1, rfl, ?_, rfl, rfl, rfl, hid⟩
      show [Value.ref 28, _, .int (nI (m / 3)), .int (nI i + 1)] = _
      rw [m2, nI_1]
def pX2_letterFromEnd : Spc := fun As g Q => ∃ z iF aI aL d w b, g = Cg z iF aI aL ∧ d ≤ 5 ∧ w < 3 ^ d ∧ b < d ∧ As = [.ref 28, .int (nI (fd d + w)), .int (nI b)] ∧ Q (some (.int (nI (w / 3 ^ b % 3)))) g
theorem oX2_letterFromEnd : Ok 1 yX2_letterFromEnd cX2_letterFromEnd 5 (some .int) pX2_letterFromEnd := by
  refine ok_all fun As g Q h => ?_
  obtain ⟨z, iF, aI, aL, d, w, b, rfl, hd, hw, hb, rfl, hQ⟩ := h
  refine at_of (fun pc => pc == 5) 60 (fun k pc ls st g' => ∃ i, pc = 5 ∧ ls = [.ref 28, .int (nI (fd d + w)), .int (nI b), .int (nI (fd (d - i) + w / 3 ^ i)), .int (nI i)] ∧ st = [] ∧ g' = Cg z iF aI aL ∧ k = 10 - i ∧ i ≤ b) (by decide) rfl sX2_letterFromEnd (nl (n := 3) rfl rfl rfl) ?_ ?_
  · refine ⟨10, 0, rfl, ?_, rfl, rfl, rfl, Nat.zero_le _⟩
    show [Value.ref 28, _, _, .int (nI (fd d + w)), .int 0] = _
    rw [Nat.pow_zero, Nat.div_one]
    rfl
  · rintro k pc ls st g' ⟨i, rfl, rfl, rfl, rfl, rfl, hi⟩
    have hlt := nd_lt hd (show i ≤ d by omega) hw
    obtain ⟨m, m1, m2, m3⟩ := fd_up w (show i < d by omega)
    refine pk_le b i (fun h => ?_) (fun h => ?_)
    · have e : i = b := by omega
      subst e
      refine ⟨m, (by rw [m1]), (by omega), ?_⟩
      rw [m3]
      exact hQ
    · refine ⟨m, (by rw [m1]), (by omega), ?_⟩
      refine ⟨10 - (i + 1), (by omega), i + 1, rfl, ?_, rfl, rfl, rfl, h⟩
      show [Value.ref 28, _, _, .int (nI (m / 3)), .int (nI i + 1)] = _
      rw [m2, nI_1]
/-- rows are new in a table, one behind another -/
def pX2_insideIsNew : Spc := fun As g Q => ∃ z iF aI aL S x c b fl M, g = Cg z iF aI aL ∧ As = [.ref 28, .int (nI x), .ref 14] ∧ VS S ∧ LD iF aI S ∧ (sC S).length ≠ 0 ∧ Pm (sN S) x ∧ RT 30 c b fl M z iF aL ∧ M.length + (sC S).length ≤ 2 ^ b ∧
  (∀ aL' M', (∀ k, k ≠ 31 → aL' k = aL k) → RT 30 c b fl M' z iF aL' → (∃ k, 1 ≤ k ∧ k < (sC S).length ∧ (rgTo S 0 x k ∈ ksA M ∨ ∃ k', 1 ≤ k' ∧ k' < k ∧ rgTo S 0 x k' = rgTo S 0 x k)) → Q (some (.int 0)) (Cg z iF aI aL')) ∧
  ∀ aL' M', (∀ k, k ≠ 31 → aL' k = aL k) → RT 30 c b fl M' z iF aL' → M'.length + 1 = M.length + (sC S).length → (∀ y, y ∈ ksA M' ↔ y ∈ ksA M ∨ ∃ k, 1 ≤ k ∧ k < (sC S).length ∧ y = rgTo S 0 x k) → (∀ k, 1 ≤ k → k < (sC S).length → rgTo S 0 x k ∉ ksA M) → (∀ k k', 1 ≤ k' → k' < k → k < (sC S).length → rgTo S 0 x k' ≠ rgTo S 0 x k) → Q (some (.int 1)) (Cg z iF aI aL')
theorem oX2_insideIsNew : Ok 2 yX2_insideIsNew cX2_insideIsNew 5 (some .boolean) pX2_insideIsNew := by
  refine ok_all fun As g Q h => ?_
  obtain ⟨z, iF, aI, aL, S, x, c, b, fl, M, rfl, rfl, hS, hD, h0, hx, hM, hMb, hQ1, hQ2⟩ := h
  have hn := hS.1.2
  have hc := hS.2.1.1
  have e3 : iF 14 3 - 1 = nI ((sC S).length - 1) := by rw [hD.2.2.1, show (1 : Int32) = nI 1 from rfl, nx_sub (by omega)]
  refine at_of (fun pc => pc == 5) 60 (fun k pc ls st g' => ∃ i aL' M', pc = 5 ∧ ls = [.ref 28, .int (nI x), .ref 14, .int (nI (rgTo S 0 x i)), .int (nI i)] ∧ st = [] ∧ g' = Cg z iF aI aL' ∧ k = 50 - i ∧ i ≤ (sC S).length - 1 ∧ (∀ k, k ≠ 31 → aL' k = aL k) ∧ RT 30 c b fl M' z iF aL' ∧ M'.length = M.length + i ∧ (∀ y, y ∈ ksA M' ↔ y ∈ ksA M ∨ ∃ k, 1 ≤ k ∧ k ≤ i ∧ y = rgTo S 0 x k) ∧ (∀ k, 1 ≤ k → k ≤ i → rgTo S 0 x k ∉ ksA M) ∧ ∀ k k', 1 ≤ k' → k' < k → k ≤ i → rgTo S 0 x k' ≠ rgTo S 0 x k) (by decide) rfl sX2_insideIsNew (nl (n := 3) rfl rfl rfl) ?_ ?_
  · exact ⟨50, 0, aL, M, rfl, rfl, rfl, rfl, rfl, Nat.zero_le _, fun _ _ => rfl, hM, rfl, fun y => ⟨Or.inl, fun q => q.elim id (fun ⟨k, a, b, _⟩ => by omega)⟩, fun k a b => (by omega), fun k k' a b c => (by omega)⟩
  · rintro k pc ls st g' ⟨i, aL', M', rfl, rfl, rfl, rfl, rfl, hi, ha, hM', hl, hk, hn1, hn2⟩
    refine pk_le ((sC S).length - 1) i (fun h => ?_) (fun h => ?_) e3
    · refine And.intro (Or.inr rfl) (hQ2 aL' M' ha hM' (by omega) (fun y => ?_) (fun k a b => hn1 k a (by omega)) (fun k k' a b c => hn2 k k' a b (by omega)))
      rw [hk]
      exact ⟨fun q => q.imp id (fun ⟨k, a, b, d⟩ => ⟨k, a, by omega, d⟩), fun q => q.imp id (fun ⟨k, a, b, d⟩ => ⟨k, a, by omega, d⟩)⟩
    · have eS : stpd (nI (rgTo S 0 x i)) (aI 15 (nI i).toNatClampNeg) = nI (rgTo S 0 x (i + 1)) := by
        rw [cl1 (by omega), hD.2.2.2.1 i (by omega), stpd_eq hn (rgTo_Pm hx i).1]
        show _ = nI (chg (sN S) (chOf S 0 i) (rgTo S 0 x i))
        rw [chOf_0]
      refine And.intro (vp_in_nI (by omega) (by omega)) ⟨z, iF, aI, aL', 30, c, b, fl, M', rgTo S 0 x (i + 1), 0, rfl, Or.inr (Or.inr rfl), (by show [Value.ref 30, .int (stpd (nI (rgTo S 0 x i)) (aI 15 (nI i).toNatClampNeg)), .int 0] = _; rw [eS]; rfl), (rgTo_Pm hx _).lt24 hn, (by omega), hM', (by omega), fun hy => br_nf rfl (And.intro (Or.inl rfl) ?_), fun hy aL2 a1 a2 => br_nt n10 ?_⟩
      · refine hQ1 aL' M' ha hM' ⟨i + 1, (by omega), (by omega), ?_⟩
        rcases (hk _).mp hy with q | ⟨k, a, b, d⟩
        · exact Or.inl q
        · exact Or.inr ⟨k, a, (by omega), d.symm⟩
      · have hy' : ¬ (rgTo S 0 x (i + 1) ∈ ksA M ∨ ∃ k, 1 ≤ k ∧ k ≤ i ∧ rgTo S 0 x (i + 1) = rgTo S 0 x k) := fun q => hy ((hk _).mpr q)
        refine ⟨50 - (i + 1), (by omega), i + 1, aL2, _, rfl, ?_, rfl, rfl, rfl, (by omega), fun k q => (a1 k q).trans (ha k q), a2, (by rw [List.length_append, hl]; rfl), fun y => ?_, fun k a b => ?_, fun k k' a b d => ?_⟩
        · show [Value.ref 28, .int (nI x), .ref 14, .int (stpd (nI (rgTo S 0 x i)) (aI 15 (nI i).toNatClampNeg)), .int (nI i + 1)] = _
          rw [eS, nI_1]
        · unfold ksA
          rw [List.map_append, List.mem_append]
          have := hk y
          unfold ksA at this
          rw [this]
          constructor
          · rintro ((q | ⟨k, a, b, d⟩) | q)
            · exact Or.inl q
            · exact Or.inr ⟨k, a, by omega, d⟩
            · exact Or.inr ⟨i + 1, by omega, Nat.le_refl _, by simpa using q⟩
          · rintro (q | ⟨k, a, b, d⟩)
            · exact Or.inl (Or.inl q)
            · by_cases e : k = i + 1
              · right; subst e; simp [d]
              · exact Or.inl (Or.inr ⟨k, a, by omega, d⟩)
        · by_cases e : k = i + 1
          · subst e; exact fun q => hy' (Or.inl q)
          · exact hn1 k a (by omega)
        · by_cases e : k = i + 1
          · subst e; exact fun q => hy' (Or.inr ⟨k', a, by omega, q.symm⟩)
          · exact hn2 k k' a b (by omega)

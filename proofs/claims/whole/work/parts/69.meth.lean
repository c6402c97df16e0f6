/-! the reference's fault of a method; there and back -/
def pX11_methodFault : Spc := fun As g Q => ∃ L iF aI aL n pd, g = Mg L iF aI aL ∧ As = [.ref 32] ∧ 4 ≤ n ∧ n ≤ 8 ∧ aI 33 0 = nI n ∧ VP pd ∧ iF 32 4 = nI pd.length ∧ RP (aI 36) pd ∧
  ∀ iF' aI', PF iF aI iF' aI' → (∀ P, (rdP true n pd 0 P0).2 = some P → MP iF' aI' P) → Q (some (.int (flt true n pd))) (Mg L iF' aI' aL)
theorem oX11_methodFault : Ok 5 yX11_methodFault cX11_methodFault 2 (some .int) pX11_methodFault := by
  refine ok_all fun As g Q h => ?_
  obtain ⟨L, iF, aI, aL, n, pd, rfl, rfl, hn4, hn, hN, hV, h4, hR, hQ⟩ := h
  refine at_of (fun pc => pc == 6) 100 (fun k pc ls st g' => ∃ i P iF' aI', pc = 6 ∧ ls = [.ref 32, .int (nI i)] ∧ st = [] ∧ g' = Mg L iF' aI' aL ∧ k = 40 - i ∧ i ≤ pd.length ∧ PF iF aI iF' aI' ∧ MP iF' aI' P ∧ PV n i P ∧ rdP true n pd 0 P0 = rdP true n (pd.drop i) i P) (by decide) rfl sX11_methodFault (nl (n := 1) rfl rfl rfl) ?_ ?_
  · refine And.intro (Or.inl rfl) (And.intro (Or.inl rfl) ⟨40, 0, P0, _, _, rfl, rfl, rfl, rfl, rfl, (by omega), (((((PF.refl iF aI).fld 6 0 (by omega)).fld 7 (-6) (by omega)).fld 8 0 (by omega)).fld 9 0 (by omega)).fld 10 0 (by omega), ⟨rfl, rfl, rfl, rfl, rfl, fun j hj => absurd hj (Nat.not_lt_zero j)⟩, PVP0 n, rfl⟩)
  · rintro k pc ls st g' ⟨i, P, iF1, aI1, rfl, rfl, rfl, rfl, rfl, hi, hF, hM, hP, he⟩
    have hl := hV.1
    have h4' : iF1 32 4 = nI pd.length := (hF.1 32 4 (by omega)).trans h4
    have hN' : aI1 33 0 = nI n := by rw [hF.2 33 (by omega)]; exact hN
    have hR' : RP (aI1 36) pd := by rw [hF.2 36 (by omega)]; exact hR
    refine br_c (fun h => ?_) (fun h => ?_)
    · have h : iF1 32 4 ≤ nI i := h
      rw [h4'] at h
      have h : pd.length ≤ i := (nI_leI (by omega) (by omega)).mp h
      rw [List.drop_eq_nil_of_le h] at he
      have he : (rdP true n pd 0 P0).2 = some P := by rw [he]; rfl
      have hQ := hQ iF1 aI1 hF (fun P' z => by rw [he] at z; cases z; exact hM)
      unfold flt at hQ
      rw [he] at hQ
      have hQ : Q (some (.int (if cEnd n P.1 = true then -6 else nI pd.length))) (Mg L iF1 aI1 aL) := hQ
      refine ⟨L, iF1, aI1, aL, n, i, P, rfl, rfl, hn, hN', hM, hP, (by omega), ?_⟩
      refine br_c (fun h => ?_) (fun h => ?_)
      · have h : cEnd n P.1 = false := (i1 rfl).mp h
        rw [if_neg (by rw [h]; decide)] at hQ
        show Q (some (.int (iF1 32 4))) (Mg L iF1 aI1 aL)
        rw [h4']; exact hQ
      · have h : cEnd n P.1 = true := (i2 rfl).mp h
        rw [if_pos h] at hQ
        exact hQ
    · have h : ¬ iF1 32 4 ≤ nI i := h
      rw [h4'] at h
      have h : ¬ pd.length ≤ i := fun q => h ((nI_leI (by omega) (by omega)).mpr q)
      rw [rdP_at (by omega)] at he
      have e1 : aI1 36 (nI i).toNatClampNeg = nI (pd.getD i 0) := by rw [cl1 (by omega)]; exact hR' i (by omega)
      have hs : pd.getD i 0 < 1000 := hV.2 _ (getD_mem (by omega))
      have inn : vp_in (nI i) 40 := vp_in_nI (by omega) (by omega)
      refine And.intro inn ⟨L, iF1, aI1, aL, n, i, P, pd.getD i 0, rfl, (by show [Value.ref 32, .int (aI1 36 (nI i).toNatClampNeg)] = _; rw [e1]), hs, hn, hN', hM, hP, (by omega), fun iF2 aI2 hF2 hm => ?_⟩
      cases e : stp1 true n P (pd.getD i 0) with
      | none =>
        rw [e] at he
        have hQ := hQ iF2 aI2 (hF.trans hF2) (fun P' z => by rw [he] at z; cases z)
        unfold flt at hQ
        rw [he] at hQ
        exact br_nf rfl hQ
      | some P' =>
        rw [e] at he
        refine br_nt n10 ⟨40 - (i + 1), (by omega), i + 1, P', iF2, aI2, rfl, ?_, rfl, rfl, rfl, (by omega), hF.trans hF2, hm P' e, hP.step hn hn4 e, he⟩
        show [Value.ref 32, .int (nI i + 1)] = _
        rw [nI_1]
/-- there and back -/
def tb (a b j : Nat) : Nat := if j < b - a then a + j else b - 2 - (j - (b - a))
def pX11_putThere : Spc := fun As g Q => ∃ L iF aI aL a b q, g = Mg L iF aI aL ∧ As = [.ref 32, .int (nI a), .int (nI b)] ∧ a < b ∧ b ≤ 40 ∧ iF 32 11 = nI q ∧ q + (2 * (b - a) - 1) ≤ 40 ∧
  ∀ iF' f, (∀ k, k ≠ 32 → iF' k = iF k) → (∀ i, i ≠ 11 → iF' 32 i = iF 32 i) → iF' 32 11 = nI (q + (2 * (b - a) - 1)) → (∀ j, j < 2 * (b - a) - 1 → f (2 + (q + j)) = aI 37 (tb a b j)) → (∀ x, x < 2 + q ∨ 2 + (q + (2 * (b - a) - 1)) ≤ x → f x = aI 33 x) → Q none (Mg L iF' (up1 aI 33 f) aL)
theorem subI_21 {b : Nat} (h : 1 ≤ b) (hb : b < 2 ^ 30) : nI b - 2 = nI (b - 1) - 1 := by
  rw [← Int32.toInt_inj, show (2 : Int32) = nI 2 from rfl, show (1 : Int32) = nI 1 from rfl, pk_sub_toInt (by omega) (by omega), pk_sub_toInt (by omega) (by omega)]
  omega
theorem oX11_putThere : Ok 0 yX11_putThere cX11_putThere 4 none pX11_putThere := by
  refine ok_all fun As g Q h => ?_
  obtain ⟨L, iF, aI, aL, a, b, q, rfl, rfl, hab, hb, hq, hq2, hQ⟩ := h
  refine at_of (fun pc => pc == 2 || pc == 44) 100 (fun k pc ls st g' => ∃ j iF' f, st = [] ∧ g' = Mg L iF' (up1 aI 33 f) aL ∧ j ≤ 2 * (b - a) - 1 ∧ (∀ k, k ≠ 32 → iF' k = iF k) ∧ (∀ i, i ≠ 11 → iF' 32 i = iF 32 i) ∧ iF' 32 11 = nI (q + j) ∧ (∀ i, i < j → f (2 + (q + i)) = aI 37 (tb a b i)) ∧ (∀ x, x < 2 + q ∨ 2 + (q + j) ≤ x → f x = aI 33 x) ∧
      ((pc = 2 ∧ k = 400 - 2 * j ∧ j ≤ b - a ∧ ls = [.ref 32, .int (nI a), .int (nI b), .int (nI (a + j))]) ∨ (pc = 44 ∧ k = 399 - 2 * j ∧ b - a ≤ j ∧ ls = [.ref 32, .int (nI a), .int (nI b), .int (nI (b - 1 - (j - (b - a))) - 1)]))) (by decide) rfl sX11_putThere (nl (n := 3) rfl rfl rfl) ?_ ?_
  · refine ⟨400, 0, iF, aI 33, rfl, (by rw [up1_id]), (by omega), fun _ _ => rfl, fun _ _ => rfl, hq, fun i h => absurd h (Nat.not_lt_zero i), fun _ _ => rfl, Or.inl ⟨rfl, rfl, (by omega), rfl⟩⟩
  · have nxt : ∀ (iF' : Nat → Nat → Int32) (f : Nat → Int32) (j : Nat) (v : Int32), j < 2 * (b - a) - 1 → (∀ k, k ≠ 32 → iF' k = iF k) → (∀ i, i ≠ 11 → iF' 32 i = iF 32 i) → iF' 32 11 = nI (q + j) → (∀ i, i < j → f (2 + (q + i)) = aI 37 (tb a b i)) → (∀ x, x < 2 + q ∨ 2 + (q + j) ≤ x → f x = aI 33 x) → v = aI 37 (tb a b j) →
        vp_in (2 + iF' 32 11) 85 ∧ Mg L (up1 iF' 32 (up1 (iF' 32) 11 (iF' 32 11 + 1))) (up1 (up1 aI 33 f) 33 (up1 f (2 + iF' 32 11).toNatClampNeg v)) aL = Mg L (up1 iF' 32 (up1 (iF' 32) 11 (iF' 32 11 + 1))) (up1 aI 33 (up1 f (2 + (q + j)) v)) aL ∧
        (∀ k, k ≠ 32 → (up1 iF' 32 (up1 (iF' 32) 11 (iF' 32 11 + 1))) k = iF k) ∧ (∀ i, i ≠ 11 → (up1 iF' 32 (up1 (iF' 32) 11 (iF' 32 11 + 1))) 32 i = iF 32 i) ∧ (up1 iF' 32 (up1 (iF' 32) 11 (iF' 32 11 + 1))) 32 11 = nI (q + (j + 1)) ∧ (∀ i, i < j + 1 → (up1 f (2 + (q + j)) v) (2 + (q + i)) = aI 37 (tb a b i)) ∧ (∀ x, x < 2 + q ∨ 2 + (q + (j + 1)) ≤ x → (up1 f (2 + (q + j)) v) x = aI 33 x) := by
      intro iF' f j v hj k1 k2 k3 k4 k5 hv
      have e : (2 : Int32) + iF' 32 11 = nI (2 + (q + j)) := by rw [k3, show (2 : Int32) = nI 2 from rfl, nI_add]
      refine ⟨(by rw [e]; exact vp_in_nI (by omega) (by omega)), (by rw [e, cl1 (by omega), up1_up1]), fun k hk => (by rw [up1_n _ _ hk]; exact k1 k hk), fun i hi => (by rw [up1_s, up1_n _ _ hi]; exact k2 i hi), (by rw [up1_s, up1_s, k3, nI_1, Nat.add_assoc]), fun i hi => ?_, fun x hx => ?_⟩
      · by_cases e2 : i = j
        · rw [e2, up1_s]; exact hv
        · rw [up1_n _ _ (by omega)]; exact k4 i (by omega)
      · rw [up1_n _ _ (by omega)]; exact k5 x (by omega)
    rintro k pc ls st g' ⟨j, iF', f, rfl, rfl, hj, k1, k2, k3, k4, k5, ⟨rfl, rfl, hj2, rfl⟩ | ⟨rfl, rfl, hj2, rfl⟩⟩
    · refine br_c (fun h => ?_) (fun h => ?_)
      · have h : b ≤ a + j := (nI_leI (by omega) (by omega)).mp h
        refine ⟨399 - 2 * j, (by omega), j, iF', f, rfl, rfl, hj, k1, k2, k3, k4, k5, Or.inr ⟨rfl, rfl, (by omega), ?_⟩⟩
        show [Value.ref 32, .int (nI a), .int (nI b), .int (nI b - 2)] = _
        rw [subI_21 (by omega) (by omega), show j - (b - a) = 0 by omega, Nat.sub_zero]
      · have h : ¬ b ≤ a + j := fun z => h ((nI_leI (by omega) (by omega)).mpr z)
        obtain ⟨y1, y2, y3, y4, y5, y6, y7⟩ := nxt iF' f j (aI 37 (nI (a + j)).toNatClampNeg) (by omega) k1 k2 k3 k4 k5 (by rw [cl1 (by omega)]; unfold tb; rw [if_pos (by omega)])
        refine And.intro (vp_in_nI (by omega) (by omega)) (And.intro y1 ⟨400 - 2 * (j + 1), (by omega), j + 1, _, _, rfl, y2, (by omega), y3, y4, y5, y6, y7, Or.inl ⟨rfl, rfl, (by omega), ?_⟩⟩)
        show [Value.ref 32, .int (nI a), .int (nI b), .int (nI (a + j) + 1)] = _
        rw [nI_1, Nat.add_assoc]
    · refine br_c (fun h => ?_) (fun h => ?_)
      · have h := (subI_lt (b := 1) (by omega) (by omega) (by omega)).mp h
        have e : j = 2 * (b - a) - 1 := by omega
        rw [e] at k3 k4 k5
        exact hQ iF' f k1 k2 k3 k4 k5
      · have h : ¬ b - 1 - (j - (b - a)) < 1 + a := fun z => h ((subI_lt (b := 1) (by omega) (by omega) (by omega)).mpr z)
        have e1 : nI (b - 1 - (j - (b - a))) - 1 = nI (b - 1 - (j - (b - a)) - 1) := by rw [show (1 : Int32) = nI 1 from rfl, nx_sub (by omega)]
        obtain ⟨y1, y2, y3, y4, y5, y6, y7⟩ := nxt iF' f j (aI 37 (nI (b - 1 - (j - (b - a))) - 1).toNatClampNeg) (by omega) k1 k2 k3 k4 k5 (by rw [e1, cl1 (by omega)]; unfold tb; rw [if_neg (by omega)]; congr 1; omega)
        refine And.intro (by rw [e1]; exact vp_in_nI (by omega) (by omega)) (And.intro y1 ⟨399 - 2 * (j + 1), (by omega), j + 1, _, _, rfl, y2, (by omega), y3, y4, y5, y6, y7, Or.inr ⟨rfl, rfl, (by omega), ?_⟩⟩)
        show [Value.ref 32, .int (nI a), .int (nI b), .int (nI (b - 1 - (j - (b - a))) - 1 + -1)] = _
        rw [e1, show b - 1 - (j + 1 - (b - a)) = b - 1 - (j - (b - a)) - 1 by omega, Int32.sub_eq_add_neg]

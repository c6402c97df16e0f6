def pX11_orderOf : Spc := fun As g Q => ∃ L iF aI aL S l k, g = Mg L iF aI aL ∧ As = [.ref 32, .int (nI l)] ∧ RS (aI 33) S ∧ VS S ∧ l ≤ 2 ∧ 1 ≤ k ∧ k ≤ 40320 ∧ lpw S l k = rds (sN S) ∧ (∀ j, 1 ≤ j → j < k → lpw S l j ≠ rds (sN S)) ∧ ∀ f, Q (some (.int (nI k))) (Mg L iF (up1 aI 38 f) aL)
theorem oX11_orderOf : Ok 3 yX11_orderOf cX11_orderOf 4 (some .int) pX11_orderOf := by
  refine ok_all fun As g Q h => ?_
  obtain ⟨L, iF, aI, aL, S, l, k, rfl, rfl, hR, hS, hl, hk1, hk2, hk3, hk4, hQ⟩ := h
  have hn := hS.1.2
  refine at_of (fun pc => pc == 8) 60 (fun m pc ls st g' => ∃ j b f, pc = 8 ∧ ls = [.ref 32, .int (nI l), .int (nI j), .int (b01 b)] ∧ st = [] ∧ g' = Mg L iF (up1 aI 38 f) aL ∧ m = 50000 - j ∧ j ≤ k ∧ MR (sN S) (lpw S l j) f ∧ (b = true ↔ j < k)) (by decide) rfl sX11_orderOf (nl (n := 2) rfl rfl rfl) ?_ ?_
  · refine ⟨L, iF, aI, aL, rfl, rfl, fun f hf => ?_⟩
    refine ⟨50000, 0, true, f, rfl, rfl, rfl, rfl, rfl, by omega, fun p hp => ?_, ?_⟩
    · rw [hf p (by omega)]
      show _ = nI (dg (rds (sN S)) p + 1)
      rw [dg_rds hn hp]
    · exact ⟨fun _ => by omega, fun _ => rfl⟩
  · rintro m pc ls st g' ⟨j, b, f, rfl, rfl, rfl, rfl, rfl, hj, hf, hb⟩
    refine br_c (fun h => ?_) (fun h => ?_)
    · have hbf : b = false := by
        cases b with
        | false => rfl
        | true => exact absurd h (by decide)
      have e : j = k := by
        rcases Nat.lt_or_ge j k with q | q
        · rw [hb.mpr q] at hbf; cases hbf
        · omega
      subst e
      exact hQ f
    · have hbt : b = true := by
        cases b with
        | true => rfl
        | false => exact absurd rfl h
      have hjk := hb.mp hbt
      refine ⟨L, iF, _, aL, S, l, lpw S l j, rfl, rfl, hR, hS, hl, hf, fun f2 hf2 => ?_⟩
      have hf2 : MR (sN S) (lpw S l (j + 1)) f2 := hf2
      refine ⟨L, iF, _, aL, sN S, lpw S l (j + 1), rfl, rfl, hn, hR.1, hf2, ?_⟩
      have hP := lpw_Pm hS l (j + 1)
      have e2 : nI (rk (sN S) (lpw S l (j + 1))) = 0 ↔ lpw S l (j + 1) = rds (sN S) := by
        have := rkI_eq hn hP (Pm_rds hn)
        rw [rk_rds hn] at this
        exact this
      refine br_c (fun h1 => ?_) (fun h1 => ?_)
      · have h1 := e2.mp h1
        have e : j + 1 = k := by
          rcases Nat.lt_or_ge (j + 1) k with q | q
          · exact absurd h1 (hk4 _ (by omega) q)
          · omega
        refine ⟨50000 - (j + 1), by omega, j + 1, false, f2, rfl, ?_, rfl, ?_, rfl, by omega, hf2, ⟨fun z => (by cases z), fun z => (by omega)⟩⟩
        · show [Value.ref 32, .int (nI l), .int (nI j + 1), .int 0] = _
          rw [nI_1]; rfl
        · show (SH (true, L), iF, up1 (up1 aI 38 f) 38 f2, aL) = _
          rw [up1_up1]
      · have h1 : ¬ lpw S l (j + 1) = rds (sN S) := fun z => h1 (e2.mpr z)
        have e : j + 1 ≠ k := fun e => h1 (by rw [e]; exact hk3)
        refine ⟨50000 - (j + 1), by omega, j + 1, true, f2, rfl, ?_, rfl, ?_, rfl, by omega, hf2, ⟨fun _ => by omega, fun _ => rfl⟩⟩
        · show [Value.ref 32, .int (nI l), .int (nI j + 1), .int 1] = _
          rw [nI_1]; rfl
        · show (SH (true, L), iF, up1 (up1 aI 38 f) 38 f2, aL) = _
          rw [up1_up1]
/-- the i-th plain row -/
def plr (S : Stg) (i : Nat) : Nat := rgTo S 0 (rds (sN S)) i
theorem plr_Pm {S : Stg} (h : VS S) (i : Nat) : Pm (sN S) (plr S i) := rgTo_Pm (Pm_rds h.1.2) i
theorem chOf_0 (S : Stg) (k : Nat) : chOf S 0 k = (sC S).getD k 0 := if_neg (fun z => by omega)
theorem up_3840 {f r f2 r2 : Nat → Int32} (aI : Nat → Nat → Int32) : up1 (up1 (up1 (up1 aI 38 f) 40 r) 40 r2) 38 f2 = up1 (up1 aI 38 f2) 40 r2 := by
  funext a
  unfold up1
  by_cases h39 : a = 40
  · subst h39; simp
  · by_cases h38 : a = 38
    · subst h38; simp
    · simp [h39, h38]
def pX11_layPlain : Spc := fun As g Q => ∃ L iF aI aL S, g = Mg L iF aI aL ∧ As = [.ref 32] ∧ RS (aI 33) S ∧ VS S ∧ ∀ f r, (∀ i, i < (sC S).length → r i = nI (rk (sN S) (plr S i))) → Q none (Mg L (up1 iF 32 (up1 (iF 32) 15 (nI (sC S).length))) (up1 (up1 aI 38 f) 40 r) aL)
theorem oX11_layPlain : Ok 2 yX11_layPlain cX11_layPlain 2 none pX11_layPlain := by
  refine ok_all fun As g Q h => ?_
  obtain ⟨L, iF, aI, aL, S, rfl, rfl, hR, hS, hQ⟩ := h
  have hc := hS.2.1.1
  have hn := hS.1.2
  refine at_of (fun pc => pc == 11) 60 (fun m pc ls st g' => ∃ j f r, pc = 11 ∧ ls = [.ref 32, .int (nI j)] ∧ st = [] ∧ g' = Mg L (up1 iF 32 (up1 (iF 32) 15 (nI j))) (up1 (up1 aI 38 f) 40 r) aL ∧ m = 41 - j ∧ j ≤ (sC S).length ∧ MR (sN S) (plr S j) f ∧ (∀ i, i < j → r i = nI (rk (sN S) (plr S i)))) (by decide) rfl sX11_layPlain (nl (n := 1) rfl rfl rfl) ?_ ?_
  · refine ⟨L, iF, aI, aL, rfl, rfl, fun f hf => ?_⟩
    refine ⟨41, 0, f, aI 40, rfl, rfl, rfl, ?_, rfl, by omega, fun p hp => ?_, fun i hi => absurd hi (by omega)⟩
    · show (SH (true, L), up1 iF 32 (up1 (iF 32) 15 0), up1 aI 38 f, aL) = (SH (true, L), up1 iF 32 (up1 (iF 32) 15 (nI 0)), up1 (up1 aI 38 f) 40 (aI 40), aL)
      have : aI 40 = up1 aI 38 f 40 := (up1_n _ _ (by decide)).symm
      rw [this, up1_id]
      rfl
    · rw [hf p (by omega)]
      show _ = nI (dg (rds (sN S)) p + 1)
      rw [dg_rds hn hp]
  · rintro m pc ls st g' ⟨j, f, r, rfl, rfl, rfl, rfl, rfl, hj, hf, hr⟩
    refine And.intro (vp_in_nI (n := 1) (N := 85) (by omega) (by omega)) ?_
    refine br_c (fun h => ?_) (fun h => ?_)
    · have h : aI 33 1 ≤ nI j := h
      rw [hR.2.1] at h
      have h : (sC S).length ≤ j := (nI_leI (by omega) (by omega)).mp h
      have e : j = (sC S).length := by omega
      subst e
      exact hQ f r hr
    · have h : ¬ aI 33 1 ≤ nI j := h
      rw [hR.2.1] at h
      have h : ¬ (sC S).length ≤ j := fun q => h ((nI_leI (by omega) (by omega)).mpr q)
      have hv := chOf_VM hS (l := 0) (k := j) (by omega)
      refine ⟨L, _, _, aL, sN S, plr S j, rfl, rfl, hn, hR.1, hf, ?_⟩
      refine And.intro (vp_in_nI (by omega) (by omega)) ?_
      have e2 : (2 : Int32) + nI j = nI (2 + j) := nI_add 2 j
      refine And.intro (by rw [e2]; exact vp_in_nI (by omega) (by omega)) ?_
      refine ⟨L, _, _, aL, sN S, chOf S 0 j, plr S j, rfl, ?_, hS.1.1, hn, hv.1, hv.2.2, hR.1, hf, fun f2 hf2 => ?_⟩
      · show [Value.ref 32, .int (aI 33 ((2 : Int32) + nI j).toNatClampNeg)] = _
        rw [e2, cl1 (by omega), hR.2.2.1 j (by omega), chOf_0]
      have hf2 : MR (sN S) (plr S (j + 1)) f2 := hf2
      refine ⟨41 - (j + 1), by omega, j + 1, f2, up1 r j (nI (rk (sN S) (plr S j))), rfl, ?_, rfl, ?_, rfl, by omega, hf2, fun i hi => ?_⟩
      · show [Value.ref 32, .int (nI j + 1)] = _
        rw [nI_1]
      · show (SH (true, L), up1 (up1 iF 32 (up1 (iF 32) 15 (nI j))) 32 (up1 (up1 iF 32 (up1 (iF 32) 15 (nI j)) 32) 15 (nI j + 1)), up1 (up1 (up1 (up1 aI 38 f) 40 r) 40 (up1 (up1 (up1 aI 38 f) 40 r 40) (nI j).toNatClampNeg (nI (rk (sN S) (plr S j))))) 38 f2, aL) = _
        rw [up1_up1, up1_s, up1_up1, nI_1, cl1 (by omega), up1_s, up_3840]
      · by_cases e : i = j
        · subst e; rw [up1_s]
        · rw [up1_n _ _ e]; exact hr i (by omega)
/-- the row with which another lead begins that has row b where a was -/
theorem head_ex {n a b : Nat} (hn : n ≤ 8) (ha : Pm n a) (hb : Pm n b) : ∃ y, Pm n y ∧ ∀ p, p < n → dg y (dg a p) = dg b p := by
  have h1 : ∀ v, ∃ p, v < n → p < n ∧ dg a p = v := fun v => by
    by_cases hv : v < n
    · obtain ⟨p, h⟩ := ha.onto hv; exact ⟨p, fun _ => h⟩
    · exact ⟨0, fun h => absurd h hv⟩
  obtain ⟨iv, hiv⟩ := Classical.axiomOfChoice h1
  have hd : ∀ v, v < n → dg (pq (fun v => dg b (iv v)) n) v = dg b (iv v) := fun v hv => dg_pq (f := fun v => dg b (iv v)) (fun _ _ => dg_lt _ _) hv
  refine ⟨pq (fun v => dg b (iv v)) n, ⟨pq_lt (fun _ _ => dg_lt _ _), fun v hv => by rw [hd v hv]; exact hb.2.1 _ (hiv v hv).1, fun v w hv hw e => ?_⟩, fun p hp => ?_⟩
  · rw [hd v hv, hd w hw] at e
    have := hb.2.2 _ _ (hiv v hv).1 (hiv w hw).1 e
    rw [← (hiv v hv).2, this, (hiv w hw).2]
  · have hv := ha.2.1 p hp
    rw [hd _ hv]
    have := ha.2.2 (iv (dg a p)) p (hiv _ hv).1 hp (hiv _ hv).2
    rw [this]
theorem head_uniq {n a b x y : Nat} (ha : Pm n a) (hx : x < 8 ^ n) (hy : y < 8 ^ n) (h1 : ∀ p, p < n → dg x (dg a p) = dg b p) (h2 : ∀ p, p < n → dg y (dg a p) = dg b p) : x = y := by
  refine dg_ext hx hy (fun v hv => ?_)
  obtain ⟨p, hp, rfl⟩ := ha.onto hv
  rw [h1 p hp, h2 p hp]
/-- the reference's scratch rows 38, 39, 43, 44 -/
def scr (aI : Nat → Nat → Int32) (f u o w : Nat → Int32) : Nat → Nat → Int32 := up1 (up1 (up1 (up1 aI 38 f) 39 u) 43 o) 44 w
theorem scr_n {aI : Nat → Nat → Int32} {f u o w : Nat → Int32} {k : Nat} (h : k ≠ 38 ∧ k ≠ 39 ∧ k ≠ 43 ∧ k ≠ 44) : scr aI f u o w k = aI k := by
  unfold scr
  rw [up1_n _ _ h.2.2.2, up1_n _ _ h.2.2.1, up1_n _ _ h.2.1, up1_n _ _ h.1]
theorem scr_eq {aI aJ : Nat → Nat → Int32} {f u o w : Nat → Int32} (h : ∀ k, k ≠ 38 → k ≠ 39 → k ≠ 43 → k ≠ 44 → aJ k = aI k) (h1 : aJ 38 = f) (h2 : aJ 39 = u) (h3 : aJ 43 = o) (h4 : aJ 44 = w) : aJ = scr aI f u o w := by
  funext k
  unfold scr up1
  by_cases e4 : k = 44
  · rw [if_pos e4, e4, h4]
  · by_cases e3 : k = 43
    · rw [if_neg e4, if_pos e3, e3, h3]
    · by_cases e2 : k = 39
      · rw [if_neg e4, if_neg e3, if_pos e2, e2, h2]
      · by_cases e1 : k = 38
        · rw [if_neg e4, if_neg e3, if_neg e2, if_pos e1, e1, h1]
        · rw [if_neg e4, if_neg e3, if_neg e2, if_neg e1, h k e1 e2 e3 e4]
def pX11_layHead : Spc := fun As g Q => ∃ L iF aI aL n a b i j y, g = Mg L iF aI aL ∧ As = [.ref 32, .int (nI i), .int (nI j)] ∧ 4 ≤ n ∧ n ≤ 8 ∧ aI 33 0 = nI n ∧ i < 1601 ∧ j < 1601 ∧ aI 40 i = nI (rk n a) ∧ aI 40 j = nI (rk n b) ∧ Pm n a ∧ Pm n b ∧ Pm n y ∧ (∀ p, p < n → dg y (dg a p) = dg b p) ∧ ∀ f u o w, MR n y f → Q none (Mg L iF (scr aI f u o w) aL)
theorem oX11_layHead : Ok 2 yX11_layHead cX11_layHead 5 none pX11_layHead := by
  refine ok_all fun As g Q h => ?_
  obtain ⟨L, iF, aI, aL, n, a, b, i, j, y, rfl, rfl, hn4, hn, hN, hi, hj, hia, hjb, ha, hb, hy, hyd, hQ⟩ := h
  have i0 : vp_in 0 85 := vp_in_nI (n := 0) (N := 85) (by omega) (by omega)
  refine at_of (fun pc => pc == 12 || pc == 56 || pc == 90) 80 (fun m pc ls st g' => (∃ p f u o, pc = 12 ∧ ls = [.ref 32, .int (nI i), .int (nI j), .int (nI (p + 1)), U_] ∧ st = [] ∧ g' = Mg L iF (scr aI f u o (aI 44)) aL ∧ m = 300 - p ∧ p ≤ n ∧ MR n a f ∧ (∀ q, q < p → o (q + 1) = nI (dg a q + 1)))
      ∨ (∃ p f u o w, pc = 56 ∧ ls = [.ref 32, .int (nI i), .int (nI j), .ref 44, .int (nI (p + 1))] ∧ st = [] ∧ g' = Mg L iF (scr aI f u o w) aL ∧ m = 200 - p ∧ p ≤ n ∧ MR n b f ∧ MR n a o ∧ (∀ q, q < p → w (dg a q + 1) = nI (dg b q + 1)))
      ∨ (∃ p f u o w, pc = 90 ∧ ls = [.ref 32, .int (nI i), .int (nI j), .ref 44, .int (nI (p + 1))] ∧ st = [] ∧ g' = Mg L iF (scr aI f u o w) aL ∧ m = 100 - p ∧ p ≤ n ∧ MR n y w ∧ (∀ q, q < p → f (q + 1) = nI (dg y q + 1)))) (by decide) rfl sX11_layHead (nl (n := 3) rfl rfl rfl) ?_ ?_
  · refine And.intro (vp_in_nI (by omega) (by omega)) ?_
    refine ⟨L, iF, aI, aL, n, a, rfl, ?_, hn4, hn, hN, ha, fun f u hf => ?_⟩
    · show [Value.ref 32, .int (aI 40 (nI i).toNatClampNeg)] = _
      rw [cl1 (by omega), hia]
    refine ⟨300, Or.inl ⟨0, f, u, aI 43, rfl, rfl, rfl, ?_, rfl, by omega, hf, fun q hq => absurd hq (by omega)⟩⟩
    show (SH (true, L), iF, up1 (up1 aI 38 f) 39 u, aL) = _
    congr 3
    exact scr_eq (fun k h1 h2 _ _ => by rw [up1_n _ _ h2, up1_n _ _ h1]) rfl rfl rfl rfl
  · rintro m pc ls st g' (⟨p, f, u, o, rfl, rfl, rfl, rfl, rfl, hp, hf, ho⟩ | ⟨p, f, u, o, w, rfl, rfl, rfl, rfl, rfl, hp, hf, ho, hw⟩ | ⟨p, f, u, o, w, rfl, rfl, rfl, rfl, rfl, hp, hw, hf⟩)
    · refine And.intro i0 ?_
      refine br_c (fun h => ?_) (fun h => ?_)
      · have h : aI 33 0 < nI (p + 1) := h
        rw [hN] at h
        have h : n < p + 1 := (nI_ltI (by omega) (by omega)).mp h
        refine And.intro (vp_in_nI (by omega) (by omega)) ?_
        refine ⟨L, iF, _, aL, n, b, rfl, ?_, hn4, hn, hN, hb, fun f2 u2 hf2 => ?_⟩
        · show [Value.ref 32, .int (aI 40 (nI j).toNatClampNeg)] = _
          rw [cl1 (by omega), hjb]
        refine ⟨200, by omega, Or.inr (Or.inl ⟨0, f2, u2, o, aI 44, rfl, rfl, rfl, ?_, rfl, by omega, hf2, fun q hq => ho q (by omega), fun q hq => absurd hq (by omega)⟩)⟩
        show (SH (true, L), iF, up1 (up1 (scr aI f u o (aI 44)) 38 f2) 39 u2, aL) = _
        congr 3
        exact scr_eq (fun k h1 h2 h3 h4 => by rw [up1_n _ _ h2, up1_n _ _ h1, scr_n ⟨h1, h2, h3, h4⟩]) rfl rfl rfl rfl
      · have h : ¬ aI 33 0 < nI (p + 1) := h
        rw [hN] at h
        have h : ¬ n < p + 1 := fun q => h ((nI_ltI (by omega) (by omega)).mpr q)
        refine And.intro (vp_in_nI (by omega) (by omega)) (And.intro (vp_in_nI (by omega) (by omega)) ?_)
        refine ⟨300 - (p + 1), by omega, Or.inl ⟨p + 1, f, u, up1 o (p + 1) (f (p + 1)), rfl, ?_, rfl, ?_, rfl, by omega, hf, fun q hq => ?_⟩⟩
        · show [Value.ref 32, .int (nI i), .int (nI j), .int (nI (p + 1) + 1), U_] = _
          rw [nI_1]
        · show (SH (true, L), iF, up1 (scr aI f u o (aI 44)) 43 (up1 (scr aI f u o (aI 44) 43) (nI (p + 1)).toNatClampNeg (scr aI f u o (aI 44) 38 (nI (p + 1)).toNatClampNeg)), aL) = _
          rw [cl1 (by omega)]
          congr 3
          exact scr_eq (fun k h1 h2 h3 h4 => by rw [up1_n _ _ h3, scr_n ⟨h1, h2, h3, h4⟩]) rfl rfl rfl rfl
        · by_cases e : q = p
          · subst e; rw [up1_s]; exact hf q (by omega)
          · rw [up1_n _ _ (by omega)]; exact ho q (by omega)
    · refine And.intro i0 ?_
      refine br_c (fun h => ?_) (fun h => ?_)
      · have h : aI 33 0 < nI (p + 1) := h
        rw [hN] at h
        have h : n < p + 1 := (nI_ltI (by omega) (by omega)).mp h
        refine ⟨100, by omega, Or.inr (Or.inr ⟨0, f, u, o, w, rfl, rfl, rfl, rfl, rfl, by omega, fun v hv => ?_, fun q hq => absurd hq (by omega)⟩)⟩
        obtain ⟨q, hq, rfl⟩ := ha.onto hv
        rw [hw q (by omega), hyd q hq]
      · have h : ¬ aI 33 0 < nI (p + 1) := h
        rw [hN] at h
        have h : ¬ n < p + 1 := fun q => h ((nI_ltI (by omega) (by omega)).mpr q)
        have hda := ha.2.1 p (by omega)
        have eo : o (nI (p + 1)).toNatClampNeg = nI (dg a p + 1) := by rw [cl1 (by omega)]; exact ho p (by omega)
        refine And.intro (vp_in_nI (by omega) (by omega)) (And.intro (vp_in_nI (by omega) (by omega)) (And.intro ?_ ?_))
        · show vp_in (o (nI (p + 1)).toNatClampNeg) 9
          rw [eo]; exact vp_in_nI (by omega) (by omega)
        refine ⟨200 - (p + 1), by omega, Or.inr (Or.inl ⟨p + 1, f, u, o, up1 w (dg a p + 1) (nI (dg b p + 1)), rfl, ?_, rfl, ?_, rfl, by omega, hf, ho, fun q hq => ?_⟩)⟩
        · show [Value.ref 32, .int (nI i), .int (nI j), .ref 44, .int (nI (p + 1) + 1)] = _
          rw [nI_1]
        · show (SH (true, L), iF, up1 (scr aI f u o w) 44 (up1 (scr aI f u o w 44) (o (nI (p + 1)).toNatClampNeg).toNatClampNeg (f (nI (p + 1)).toNatClampNeg)), aL) = _
          rw [eo, cl1 (by omega), cl1 (by omega), hf p (by omega)]
          congr 3
          exact scr_eq (fun k h1 h2 h3 h4 => by rw [up1_n _ _ h4, scr_n ⟨h1, h2, h3, h4⟩]) rfl rfl rfl rfl
        · by_cases e : q = p
          · subst e; rw [up1_s]
          · rw [up1_n _ _ (fun z => e (ha.2.2 q p (by omega) (by omega) (by omega)))]; exact hw q (by omega)
    · refine And.intro i0 ?_
      refine br_c (fun h => ?_) (fun h => ?_)
      · have h : aI 33 0 < nI (p + 1) := h
        rw [hN] at h
        have h : n < p + 1 := (nI_ltI (by omega) (by omega)).mp h
        exact hQ f u o w (fun q hq => hf q (by omega))
      · have h : ¬ aI 33 0 < nI (p + 1) := h
        rw [hN] at h
        have h : ¬ n < p + 1 := fun q => h ((nI_ltI (by omega) (by omega)).mpr q)
        refine And.intro (vp_in_nI (by omega) (by omega)) (And.intro (vp_in_nI (by omega) (by omega)) ?_)
        refine ⟨100 - (p + 1), by omega, Or.inr (Or.inr ⟨p + 1, up1 f (p + 1) (w (p + 1)), u, o, w, rfl, ?_, rfl, ?_, rfl, by omega, hw, fun q hq => ?_⟩)⟩
        · show [Value.ref 32, .int (nI i), .int (nI j), .ref 44, .int (nI (p + 1) + 1)] = _
          rw [nI_1]
        · show (SH (true, L), iF, up1 (scr aI f u o w) 38 (up1 (scr aI f u o w 38) (nI (p + 1)).toNatClampNeg (w (nI (p + 1)).toNatClampNeg)), aL) = _
          rw [cl1 (by omega)]
          congr 3
          exact scr_eq (fun k h1 h2 h3 h4 => by rw [up1_n _ _ h1, scr_n ⟨h1, h2, h3, h4⟩]) rfl rfl rfl rfl
        · by_cases e : q = p
          · subst e; rw [up1_s]; exact hw q (by omega)
          · rw [up1_n _ _ (by omega)]; exact hf q (by omega)

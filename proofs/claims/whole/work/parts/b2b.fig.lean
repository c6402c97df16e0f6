/-! the class reads a figure; there and back; the pad -/
theorem rX3_takeFigure : Ok 1 yX3_takeFigure cX3_takeFigure 4 (some .boolean) qX3_takeFigure := by
  refine ok_all fun As g Q h => ?_
  obtain ⟨z, iF, aI, aL, mt, n, i, P, s, rfl, rfl, hs1, hn, ⟨m1, m2, m3, m4, m5, m6⟩, hP, hi, hQ⟩ := h
  refine at0 120 (by decide) rfl sX3_takeFigure_q (nl (n := 2) rfl rfl rfl) ?_
  have hl := hP.1
  obtain ⟨c1, c2, c3⟩ := hP.c3 hn
  obtain ⟨l1, l2, l3, l4, l5⟩ := lsI_all P.1 c1 c2
  have hf8 : fgr P.1 ≤ 8 := by unfold fgr; split <;> omega
  have eB : (if iF 12 2 < 0 then 0 else iF 12 2) = nI (fgr P.1) := by rw [m3]; exact l5
  have no : ¬ (48 + fgr P.1 < s ∧ s ≤ 48 + n ∧ (s - 48 - fgr P.1) % 2 = 1 ∧ ¬ (mt = false ∧ P.1 = 100)) → ((0 : Int32) = 0 ∨ (0 : Int32) = 1) ∧ Q (some (.int 0)) (Cg z iF aI aL) := by
    intro e
    have h1 : stpF mt n P s = none := if_neg e
    have := hQ iF aI (NF.refl _ _) (fun P' z => by rw [h1] at z; cases z)
    rw [h1] at this
    exact ⟨Or.inl rfl, this⟩
  by_cases hA : s ≤ 48 + fgr P.1
  · have hle : nI s - 48 ≤ (if iF 12 2 < 0 then 0 else iF 12 2) := by
      rw [eB, Int32.le_iff_toInt_le, show (48 : Int32) = nI 48 from rfl, pk_sub_toInt (by omega) (by omega), nI_toInt (by omega)]
      omega
    have nn := no (fun y => by omega)
    exact And.intro (by decide) (And.intro (fun _ => br_t hle nn) (fun _ => br_t hle nn))
  · have eL : nI s - 48 = nI (s - 48) := by rw [show (48 : Int32) = nI 48 from rfl, nx_sub (by omega)]
    have hnle : ¬ nI s - 48 ≤ (if iF 12 2 < 0 then 0 else iF 12 2) := by
      rw [eB, eL]
      exact fun q => absurd ((nI_leI (by omega) (by omega)).mp q) (by omega)
    have eR : nI s - 48 - (if iF 12 2 < 0 then 0 else iF 12 2) - (nI s - 48 - (if iF 12 2 < 0 then 0 else iF 12 2)) / 2 * 2 = nI ((s - 48 - fgr P.1) % 2) := by
      rw [eB, eL, nx_sub (by omega), show (2 : Int32) = nI 2 from rfl, pk_rem (by omega) (by omega) (by omega)]
    refine And.intro (by decide) (pk_ne ((s - 48 - fgr P.1) % 2) 1 (fun hr => ?_) (fun hr => ?_) eR)
    · have nn := no (fun y => hr y.2.2.1)
      exact br_f hnle (br_c (fun _ => nn) (fun _ => br_t rfl nn))
    · refine br_f hnle (pk_lt n (s - 48) (fun h => no (fun y => by omega)) (fun h => ?_) m1 eL)
      refine br_f n10 ?_
      have e1 : (1 : Int32) <<< ((nI s - 48) &&& 31) = nI (2 ^ (s - 48)) := by
        have hp := Nat.pow_le_pow_right (n := 2) (by decide) (show s - 48 ≤ 8 by omega)
        rw [eL, show (1 : Int32) = nI 1 from rfl, nx_shl (by omega) (by omega), Nat.one_mul]
      have iB : vp_in (nI (P.2.1.length + 1) - 1) 40 := by rw [nI_pred]; exact vp_in_nI (by omega) (by omega)
      have eLs : lsI (s - 48) = nI (s - 48) := if_pos (by omega)
      have goA : fgr P.1 ≠ 0 → stpF mt n P s = some (s - 48, (if fgr P.1 = 0 then P.2.1 ++ [2 ^ (s - 48)] else addB P.2.1 (s - 48)), P.2.2) → Q (some (.int 1)) (Cg z (up1 iF 12 (up1 (iF 12) 2 (nI s - 48))) (up1 aI 13 (up1 (aI 13) (iF 12 4 - 1).toNatClampNeg (aI 13 (iF 12 4 - 1).toNatClampNeg ||| (1 : Int32) <<< ((nI s - 48) &&& 31)))) aL) := by
        intro hb h1
        have hP8 : P.1 ≤ 8 := Classical.byContradiction fun q => hb (fgr_big (by omega))
        have e0 : fgr P.1 = P.1 := fgr_eq hP8
        have hl1 := hP.2.2.2.2.2.1 (by omega)
        have eR' : iF 12 4 - 1 = nI (P.2.1.length - 1) := by rw [m4, show (1 : Int32) = nI 1 from rfl, nx_sub (by omega)]
        have := hQ _ _ (((NF.refl iF aI).fld (up1 (iF 12) 2 (nI s - 48))).arr (up1 (aI 13) (iF 12 4 - 1).toNatClampNeg (aI 13 (iF 12 4 - 1).toNatClampNeg ||| (1 : Int32) <<< ((nI s - 48) &&& 31)))) (fun P' y => by
          rw [h1, if_neg hb] at y
          cases y
          have hlen : (addB P.2.1 (s - 48)).length = P.2.1.length := by unfold addB; rw [List.length_set]
          refine ⟨m1, m2, ?_, ?_, m5, fun j hj => ?_⟩
          · show nI s - 48 = lsI (s - 48)
            rw [eLs]; exact eL
          · show iF 12 4 = nI (addB P.2.1 (s - 48)).length
            rw [hlen]; exact m4
          · have hj : j < (addB P.2.1 (s - 48)).length := hj
            rw [hlen] at hj
            show up1 (aI 13) (iF 12 4 - 1).toNatClampNeg (aI 13 (iF 12 4 - 1).toNatClampNeg ||| (1 : Int32) <<< ((nI s - 48) &&& 31)) j = nI ((addB P.2.1 (s - 48)).getD j 0)
            rw [e1, eR', cl1 (by omega)]
            unfold addB
            rw [getD_setL (by omega)]
            by_cases e : j = P.2.1.length - 1
            · rw [e, up1_s, if_pos rfl, m6 _ (by omega), nx_or]
              have ho := (hP.2.2.2.2.2.2 (P.2.1.length - 1) (by omega)).1 ⟨(by omega), hP8, (by omega)⟩
              rw [or2 (Nat.lt_of_lt_of_le ho.1 (Nat.pow_le_pow_right (by decide) (by omega)))]
            · rw [up1_n _ _ e, if_neg e]; exact m6 j hj)
        rw [h1] at this
        exact this
      have goB : fgr P.1 = 0 → stpF mt n P s = some (s - 48, (if fgr P.1 = 0 then P.2.1 ++ [2 ^ (s - 48)] else addB P.2.1 (s - 48)), P.2.2) → Q (some (.int 1)) (Cg z (up1 (up1 iF 12 (up1 (iF 12) 4 (nI (P.2.1.length + 1)))) 12 (up1 (up1 (iF 12) 4 (nI (P.2.1.length + 1))) 2 (nI s - 48))) (up1 (up1 aI 13 (up1 (aI 13) P.2.1.length 0)) 13 (up1 (up1 (aI 13) P.2.1.length 0) (nI (P.2.1.length + 1) - 1).toNatClampNeg (up1 (aI 13) P.2.1.length 0 (nI (P.2.1.length + 1) - 1).toNatClampNeg ||| (1 : Int32) <<< ((nI s - 48) &&& 31)))) aL) := by
        intro hb h1
        have := hQ _ _ ((((NF.refl iF aI).fld (up1 (iF 12) 4 (nI (P.2.1.length + 1)))).fld (up1 (up1 (iF 12) 4 (nI (P.2.1.length + 1))) 2 (nI s - 48))).arr (up1 (aI 13) P.2.1.length 0) |>.arr (up1 (up1 (aI 13) P.2.1.length 0) (nI (P.2.1.length + 1) - 1).toNatClampNeg (up1 (aI 13) P.2.1.length 0 (nI (P.2.1.length + 1) - 1).toNatClampNeg ||| (1 : Int32) <<< ((nI s - 48) &&& 31)))) (fun P' y => by
          rw [h1, if_pos hb] at y
          cases y
          refine ⟨m1, m2, ?_, ?_, m5, fun j hj => ?_⟩
          · show nI s - 48 = lsI (s - 48)
            rw [eLs]; exact eL
          · show nI (P.2.1.length + 1) = nI (P.2.1 ++ [2 ^ (s - 48)]).length
            rw [List.length_append]; rfl
          · have hj : j < (P.2.1 ++ [2 ^ (s - 48)]).length := hj
            show up1 (up1 (aI 13) P.2.1.length 0) (nI (P.2.1.length + 1) - 1).toNatClampNeg (up1 (aI 13) P.2.1.length 0 (nI (P.2.1.length + 1) - 1).toNatClampNeg ||| (1 : Int32) <<< ((nI s - 48) &&& 31)) j = nI ((P.2.1 ++ [2 ^ (s - 48)]).getD j 0)
            rw [e1, nI_pred, cl1 (by omega), up1_s]
            rw [List.length_append] at hj
            by_cases e : j = P.2.1.length
            · rw [e, up1_s, getD_last, show (0 : Int32) = nI 0 from rfl, nx_or, Nat.zero_or]
            · have hj : j < P.2.1.length := by simp at hj; omega
              rw [up1_n _ _ e, up1_n _ _ e, getD_app hj]; exact m6 j hj)
        rw [h1] at this
        exact this
      refine And.intro (fun hm => ?_) (fun hm => ?_)
      · have hm : mt = true := (i2 m2).mp hm
        have hs : stpF mt n P s = some (s - 48, (if fgr P.1 = 0 then P.2.1 ++ [2 ^ (s - 48)] else addB P.2.1 (s - 48)), P.2.2) := if_pos ⟨by omega, by omega, hr, fun q => by rw [hm] at q; cases q.1⟩
        by_cases hb : fgr P.1 = 0
        · refine br_nf (show (if iF 12 2 < 0 then 0 else iF 12 2) = 0 by rw [m3, l5, hb]; rfl) ⟨z, _, _, aL, P.2.1.length, rfl, rfl, m4, (by omega), br_nt n10 (br_f (show ¬ nI (P.2.1.length + 1) ≤ 0 from fun q => absurd ((nI_leI (b := 0) (by omega) (by omega)).mp q) (by omega)) (And.intro iB (And.intro iB (And.intro (Or.inr rfl) (goB hb hs)))))⟩
        · refine br_nt (show ¬ (if iF 12 2 < 0 then 0 else iF 12 2) = 0 from fun q => hb (by rw [m3, l5] at q; exact (nI_eq (b := 0) (by omega) (by omega)).mp q)) ?_
          have hl1 := hP.2.2.2.2.2.1 (fun q => hb (by rw [q]; rfl))
          have iA : vp_in (iF 12 4 - 1) 40 := by rw [m4, show (1 : Int32) = nI 1 from rfl, nx_sub (by omega)]; exact vp_in_nI (by omega) (by omega)
          exact br_f (show ¬ iF 12 4 ≤ 0 from fun q => by rw [m4] at q; exact absurd ((nI_leI (b := 0) (by omega) (by omega)).mp q) (by omega)) (And.intro iA (And.intro iA (And.intro (Or.inr rfl) (goA hb hs))))
      · have hm : mt = false := (i1 m2).mp hm
        refine And.intro (fun h3 => ?_) (fun h3 => ?_)
        · have h3 : ¬ iF 12 2 = -1 := h3
          rw [m3, l1] at h3
          have hs : stpF mt n P s = some (s - 48, (if fgr P.1 = 0 then P.2.1 ++ [2 ^ (s - 48)] else addB P.2.1 (s - 48)), P.2.2) := if_pos ⟨by omega, by omega, hr, fun q => h3 q.2⟩
          by_cases hb : fgr P.1 = 0
          · refine br_nf (show (if iF 12 2 < 0 then 0 else iF 12 2) = 0 by rw [m3, l5, hb]; rfl) ⟨z, _, _, aL, P.2.1.length, rfl, rfl, m4, (by omega), br_nt n10 (br_f (show ¬ nI (P.2.1.length + 1) ≤ 0 from fun q => absurd ((nI_leI (b := 0) (by omega) (by omega)).mp q) (by omega)) (And.intro iB (And.intro iB (And.intro (Or.inr rfl) (goB hb hs)))))⟩
          · refine br_nt (show ¬ (if iF 12 2 < 0 then 0 else iF 12 2) = 0 from fun q => hb (by rw [m3, l5] at q; exact (nI_eq (b := 0) (by omega) (by omega)).mp q)) ?_
            have hl1 := hP.2.2.2.2.2.1 (fun q => hb (by rw [q]; rfl))
            have iA : vp_in (iF 12 4 - 1) 40 := by rw [m4, show (1 : Int32) = nI 1 from rfl, nx_sub (by omega)]; exact vp_in_nI (by omega) (by omega)
            exact br_f (show ¬ iF 12 4 ≤ 0 from fun q => by rw [m4] at q; exact absurd ((nI_leI (b := 0) (by omega) (by omega)).mp q) (by omega)) (And.intro iA (And.intro iA (And.intro (Or.inr rfl) (goA hb hs))))
        · have h3 : iF 12 2 = -1 := h3
          rw [m3, l1] at h3
          exact no (fun y => y.2.2.2 ⟨hm, h3⟩)
def pX3_writeThereAndBack : Spc := fun As g Q => ∃ z iF aI aL a b q, g = Cg z iF aI aL ∧ As = [.ref 12, .ref 2, .int (nI q), .int (nI a), .int (nI b)] ∧ a < b ∧ b ≤ 40 ∧ q + (2 * (b - a) - 1) ≤ 40 ∧ ∀ f, (∀ j, j < 2 * (b - a) - 1 → f (q + j) = aI 13 (tb a b j)) → (∀ x, x < q → f x = aI 2 x) → Q (some (.int (nI (q + (2 * (b - a) - 1))))) (Cg z iF (up1 aI 2 f) aL)
theorem oX3_writeThereAndBack : Ok 0 yX3_writeThereAndBack cX3_writeThereAndBack 7 (some .int) pX3_writeThereAndBack := by
  refine ok_all fun As g Q h => ?_
  obtain ⟨z, iF, aI, aL, a, b, q, rfl, rfl, hab, hb, hq, hQ⟩ := h
  refine at_of (fun pc => pc == 6 || pc == 46) 100 (fun k pc ls st g' => ∃ j f, st = [] ∧ g' = Cg z iF (up1 aI 2 f) aL ∧ j ≤ 2 * (b - a) - 1 ∧ (∀ i, i < j → f (q + i) = aI 13 (tb a b i)) ∧ (∀ x, x < q → f x = aI 2 x) ∧
      ((pc = 6 ∧ k = 400 - 2 * j ∧ j ≤ b - a ∧ ls = [.ref 12, .ref 2, .int (nI q), .int (nI a), .int (nI b), .int (nI (q + j)), .int (nI (a + j))]) ∨ (pc = 46 ∧ k = 399 - 2 * j ∧ b - a ≤ j ∧ ls = [.ref 12, .ref 2, .int (nI q), .int (nI a), .int (nI b), .int (nI (q + j)), .int (nI (b - 1 - (j - (b - a))) - 1)]))) (by decide) rfl sX3_writeThereAndBack (nl (n := 5) rfl rfl rfl) ?_ ?_
  · exact ⟨400, 0, aI 2, rfl, (by rw [up1_id]), (by omega), fun i h => absurd h (Nat.not_lt_zero i), fun _ _ => rfl, Or.inl ⟨rfl, rfl, (by omega), rfl⟩⟩
  · have nxt : ∀ (f : Nat → Int32) (j : Nat) (v : Int32), j < 2 * (b - a) - 1 → (∀ i, i < j → f (q + i) = aI 13 (tb a b i)) → (∀ x, x < q → f x = aI 2 x) → v = aI 13 (tb a b j) → Cg z iF (up1 (up1 aI 2 f) 2 (up1 f (nI (q + j)).toNatClampNeg v)) aL = Cg z iF (up1 aI 2 (up1 f (q + j) v)) aL ∧ (∀ i, i < j + 1 → (up1 f (q + j) v) (q + i) = aI 13 (tb a b i)) ∧ ∀ x, x < q → (up1 f (q + j) v) x = aI 2 x := by
      intro f j v hj k4 k5 hv
      refine ⟨(by rw [cl1 (by omega), up1_up1]), fun i hi => ?_, fun x hx => ?_⟩
      · by_cases e2 : i = j
        · rw [e2, up1_s]; exact hv
        · rw [up1_n _ _ (by omega)]; exact k4 i (by omega)
      · rw [up1_n _ _ (by omega)]; exact k5 x hx
    rintro k pc ls st g' ⟨j, f, rfl, rfl, hj, k4, k5, ⟨rfl, rfl, hj2, rfl⟩ | ⟨rfl, rfl, hj2, rfl⟩⟩
    · refine pk_le b (a + j) (fun h => ?_) (fun h => ?_)
      · refine ⟨399 - 2 * j, (by omega), j, f, rfl, rfl, hj, k4, k5, Or.inr ⟨rfl, rfl, (by omega), ?_⟩⟩
        show [Value.ref 12, .ref 2, .int (nI q), .int (nI a), .int (nI b), .int (nI (q + j)), .int (nI b - 2)] = _
        rw [subI_21 (by omega) (by omega), show j - (b - a) = 0 by omega, Nat.sub_zero]
      · refine pk_le 40 (q + j) (fun h2 => absurd h2 (by omega)) (fun h2 => ?_)
        obtain ⟨y2, y6, y7⟩ := nxt f j (aI 13 (nI (a + j)).toNatClampNeg) (by omega) k4 k5 (by rw [cl1 (by omega)]; unfold tb; rw [if_pos (by omega)])
        refine And.intro (vp_in_nI (by omega) (by omega)) (And.intro (vp_in_nI (by omega) (by omega)) ⟨400 - 2 * (j + 1), (by omega), j + 1, _, rfl, y2, (by omega), y6, y7, Or.inl ⟨rfl, rfl, (by omega), ?_⟩⟩)
        show [Value.ref 12, .ref 2, .int (nI q), .int (nI a), .int (nI b), .int (nI (q + j) + 1), .int (nI (a + j) + 1)] = _
        rw [nI_1, nI_1, Nat.add_assoc, Nat.add_assoc]
    · refine br_c (fun h => ?_) (fun h => ?_)
      · have h := (subI_lt (b := 1) (by omega) (by omega) (by omega)).mp h
        have e : j = 2 * (b - a) - 1 := by omega
        rw [e] at k4
        have := hQ f k4 k5
        rw [← e] at this
        exact this
      · have h : ¬ b - 1 - (j - (b - a)) < 1 + a := fun z => h ((subI_lt (b := 1) (by omega) (by omega) (by omega)).mpr z)
        refine pk_le 40 (q + j) (fun h2 => absurd h2 (by omega)) (fun h2 => ?_)
        have e1 : nI (b - 1 - (j - (b - a))) - 1 = nI (b - 1 - (j - (b - a)) - 1) := by rw [show (1 : Int32) = nI 1 from rfl, nx_sub (by omega)]
        obtain ⟨y2, y6, y7⟩ := nxt f j (aI 13 (nI (b - 1 - (j - (b - a))) - 1).toNatClampNeg) (by omega) k4 k5 (by rw [e1, cl1 (by omega)]; unfold tb; rw [if_neg (by omega)]; congr 1; omega)
        refine And.intro (by rw [e1]; exact vp_in_nI (by omega) (by omega)) (And.intro (vp_in_nI (by omega) (by omega)) ⟨399 - 2 * (j + 1), (by omega), j + 1, _, rfl, y2, (by omega), y6, y7, Or.inr ⟨rfl, rfl, (by omega), ?_⟩⟩)
        show [Value.ref 12, .ref 2, .int (nI q), .int (nI a), .int (nI b), .int (nI (q + j) + 1), .int (nI (b - 1 - (j - (b - a))) - 1 + -1)] = _
        rw [e1, show b - 1 - (j + 1 - (b - a)) = b - 1 - (j - (b - a)) - 1 by omega, Int32.sub_eq_add_neg, nI_1, Nat.add_assoc]
def pX4_faultAsTouch : Spc := fun As g Q => ∃ z iF aI aL pd, g = Cg z iF aI aL ∧ As = [.ref 10] ∧ VP pd ∧ iF 10 1 = nI pd.length ∧ RP (aI 11) pd ∧ Q (some (.int (tfl pd))) g
theorem oX4_faultAsTouch : Ok 1 yX4_faultAsTouch cX4_faultAsTouch 2 (some .int) pX4_faultAsTouch := by
  refine ok_all fun As g Q h => ?_
  obtain ⟨z, iF, aI, aL, pd, rfl, rfl, hV, h4, hR, hQ⟩ := h
  have hl := hV.1
  refine at_of (fun pc => pc == 2) 60 (fun k pc ls st g' => ∃ i, pc = 2 ∧ ls = [.ref 10, .int (nI i)] ∧ st = [] ∧ g' = Cg z iF aI aL ∧ k = 40 - i ∧ i ≤ pd.length ∧ tfP pd 0 = tfP (pd.drop i) i) (by decide) rfl sX4_faultAsTouch (nl (n := 1) rfl rfl rfl) ?_ ?_
  · exact ⟨40, 0, rfl, rfl, rfl, rfl, rfl, (by omega), rfl⟩
  · rintro k pc ls st g' ⟨i, rfl, rfl, rfl, rfl, rfl, hi, he⟩
    refine pk_le pd.length i (fun h => ?_) (fun h => ?_) h4
    · rw [List.drop_eq_nil_of_le h] at he
      have he : tfP pd 0 = none := he
      unfold tfl at hQ
      rw [he] at hQ
      have hQ : Q (some (.int (if pd.length = 0 then 0 else -6))) (Cg z iF aI aL) := hQ
      refine pk_ne pd.length 0 (fun h2 => ?_) (fun h2 => ?_) h4
      · rw [if_neg h2] at hQ; exact hQ
      · rw [if_pos h2] at hQ; exact hQ
    · rw [drop_get h] at he
      have he : tfP pd 0 = if kd (pd.getD i 0) = none then some i else tfP (pd.drop (i + 1)) (i + 1) := he
      have e1 : aI 11 (nI i).toNatClampNeg = nI (pd.getD i 0) := by rw [cl1 (by omega)]; exact hR i h
      refine And.intro (vp_in_nI (by omega) (by omega)) ⟨pd.getD i 0, hV.2 _ (getD_mem h), (by show [Value.int (aI 11 (nI i).toNatClampNeg)] = _; rw [e1]), ?_⟩
      cases e : kd (pd.getD i 0) with
      | none =>
        rw [if_pos e] at he
        unfold tfl at hQ
        rw [he] at hQ
        exact br_nf rfl hQ
      | some l =>
        rw [if_neg (by rw [e]; intro z; cases z)] at he
        have hl3 := kd_le e
        exact br_nt (nI_ne6 (by omega)) ⟨40 - (i + 1), (by omega), i + 1, rfl, (by show [Value.ref 10, .int (nI i + 1)] = _; rw [nI_1]), rfl, rfl, rfl, h, he⟩
def pX4_writeTouchTo : Spc := fun As g Q => ∃ z iF aI aL pd, g = Cg z iF aI aL ∧ As = [.ref 10, .ref 3] ∧ VP pd ∧ iF 10 1 = nI pd.length ∧ RP (aI 11) pd ∧ (∀ s ∈ pd, kd s ≠ none) ∧ ∀ a, (∀ i, i < pd.length → a i = nI ((tlt pd).getD i 0)) → Q (some (.int (nI pd.length))) (Cg z iF (up1 aI 3 a) aL)
theorem oX4_writeTouchTo : Ok 1 yX4_writeTouchTo cX4_writeTouchTo 4 (some .int) pX4_writeTouchTo := by
  refine ok_all fun As g Q h => ?_
  obtain ⟨z, iF, aI, aL, pd, rfl, rfl, hV, h4, hR, hk, hQ⟩ := h
  have hl := hV.1
  have emin : (if (40 : Int32) < iF 10 1 then 40 else iF 10 1) = nI pd.length := by
    rw [h4]; exact if_neg (fun q => absurd ((nI_ltI (a := 40) (by omega) (by omega)).mp q) (by omega))
  refine at_of (fun pc => pc == 12) 60 (fun k pc ls st g' => ∃ i a, pc = 12 ∧ ls = [.ref 10, .ref 3, .int (nI pd.length), .int (nI i)] ∧ st = [] ∧ g' = Cg z iF (up1 aI 3 a) aL ∧ k = 40 - i ∧ i ≤ pd.length ∧ ∀ j, j < i → a j = nI ((tlt pd).getD j 0)) (by decide) rfl sX4_writeTouchTo (nl (n := 2) rfl rfl rfl) ?_ ?_
  · refine ⟨40, 0, aI 3, rfl, ?_, rfl, (by rw [up1_id]), rfl, Nat.zero_le _, fun j h => absurd h (Nat.not_lt_zero j)⟩
    show [Value.ref 10, .ref 3, .int (if (40 : Int32) < iF 10 1 then 40 else iF 10 1), .int 0] = _
    rw [emin]; rfl
  · rintro k pc ls st g' ⟨i, a, rfl, rfl, rfl, rfl, rfl, hi, ha⟩
    refine pk_le pd.length i (fun h => ?_) (fun h => ?_)
    · exact hQ a (fun j hj => ha j (by omega))
    · have e1 : aI 11 (nI i).toNatClampNeg = nI (pd.getD i 0) := by rw [cl1 (by omega)]; exact hR i h
      refine And.intro (vp_in_nI (by omega) (by omega)) ⟨pd.getD i 0, hV.2 _ (getD_mem h), (by show [Value.int (aI 11 (nI i).toNatClampNeg)] = _; rw [e1]), ?_⟩
      cases e : kd (pd.getD i 0) with
      | none => exact absurd e (hk _ (getD_mem h))
      | some l =>
        refine And.intro (vp_in_nI (by omega) (by omega)) ⟨40 - (i + 1), (by omega), i + 1, up1 a (nI i).toNatClampNeg (nI l), rfl, (by show [Value.ref 10, .ref 3, _, .int (nI i + 1)] = _; rw [nI_1]), rfl, ?_, rfl, h, fun j hj => ?_⟩
        · show Cg z iF (up1 (up1 aI 3 a) 3 (up1 a (nI i).toNatClampNeg (nI l))) aL = _
          rw [up1_up1]
        · rw [cl1 (by omega)]
          by_cases e2 : j = i
          · rw [e2, up1_s, tlt_get h e]
          · rw [up1_n _ _ e2]; exact ha j (by omega)

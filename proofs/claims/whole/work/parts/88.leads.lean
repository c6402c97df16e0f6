/-! the class prepares its leads, and rings -/
def pX1_prepare : Spc := fun As g Q => ∃ z iF aI aL S, g = Cg z iF aI aL ∧ As = [.ref 14, .ref 1] ∧ VS S ∧ CS 1 iF aI S ∧ ∀ f a, LD (up1 iF 14 f) (up1 aI 15 a) S → Q none (Cg z (up1 iF 14 f) (up1 aI 15 a) aL)
theorem oX1_prepare : Ok 1 yX1_prepare cX1_prepare 3 none pX1_prepare := by
  refine ok_all fun As g Q h => ?_
  obtain ⟨z, iF, aI, aL, S, rfl, rfl, hS, ⟨c1, c2, c3, c4, c5, c6, c7⟩, hQ⟩ := h
  have hn := hS.1.2
  have hn4 := hS.1.1
  have hc := hS.2.1.1
  have c6 : ∀ i, i < (sC S).length → aI 2 i = nI ((sC S).getD i 0) := c6
  refine at_of (fun pc => pc == 37) 200 (fun k pc ls st g' => ∃ i f a, pc = 37 ∧ ls = [.ref 14, .ref 1, .int (nI i)] ∧ st = [] ∧ g' = Cg z (up1 iF 14 f) (up1 aI 15 a) aL ∧ k = 50 - i ∧ i ≤ (sC S).length ∧ f 0 = nI (sN S) ∧ f 1 = nI (rds (sN S)) ∧ f 3 = nI (sC S).length ∧ f 4 = nI (rgTo S 0 (rds (sN S)) (min i ((sC S).length - 1))) ∧ ∀ j, j < i → a j = nI (stN (sN S) ((sC S).getD j 0))) (by decide) rfl sX1_prepare (nl (n := 2) rfl rfl rfl) ?_ ?_
  · refine ⟨sN S, hn, (by show [Value.int (iF 1 0)] = _; rw [c1]), ?_⟩
    refine ⟨50, 0, up1 (up1 (up1 (up1 (iF 14) 0 (iF 1 0)) 1 (nI (rds (sN S)))) 3 (iF 1 2)) 4 (nI (rds (sN S))), aI 15, rfl, rfl, rfl, ?_, rfl, Nat.zero_le _, c1, rfl, c2, ?_, fun j h => absurd h (Nat.not_lt_zero j)⟩
    · show Cg z (up1 (up1 (up1 (up1 iF 14 (up1 (iF 14) 0 (iF 1 0))) 14 (up1 (up1 (iF 14) 0 (iF 1 0)) 1 (nI (rds (sN S))))) 14 (up1 (up1 (up1 (iF 14) 0 (iF 1 0)) 1 (nI (rds (sN S)))) 3 (iF 1 2))) 14 (up1 (up1 (up1 (up1 (iF 14) 0 (iF 1 0)) 1 (nI (rds (sN S)))) 3 (iF 1 2)) 4 (nI (rds (sN S))))) aI aL = _
      rw [up1_up1, up1_up1, up1_up1, up1_id aI 15]
    · show nI (rds (sN S)) = _
      rw [Nat.zero_min]; rfl
  · rintro k pc ls st g' ⟨i, f, a, rfl, rfl, rfl, rfl, rfl, hi, f0, f1, f3, f4, ha⟩
    refine pk_le (sC S).length i (fun h => ?_) (fun h => ?_) f3
    · have e : i = (sC S).length := by omega
      have fin : ∀ v, ((sC S).length ≠ 0 → v = nI (stN (sN S) ((sC S).getD ((sC S).length - 1) 0))) → Q none (Cg z (up1 (up1 (up1 (up1 iF 14 f) 14 (up1 f 5 v)) 14 (up1 (up1 f 5 v) 6 (nI (stN (sN S) (sB S))))) 14 (up1 (up1 (up1 f 5 v) 6 (nI (stN (sN S) (sB S)))) 7 (nI (stN (sN S) (sS S))))) (up1 aI 15 a) aL) := by
        intro v hv
        rw [up1_up1, up1_up1, up1_up1]
        refine hQ _ a ⟨f0, f1, f3, fun j hj => ha j (by omega), ?_, hv, rfl, rfl⟩
        show f 4 = _
        rw [f4, e, show min (sC S).length ((sC S).length - 1) = (sC S).length - 1 by omega]
        rfl
      refine pk_le (sC S).length 0 (fun h0 => ?_) (fun h0 => ?_) f3
      · refine ⟨sN S, sB S, hn, (by omega), hS.2.2.1.1, (by show [Value.int (iF 1 3), .int (f 0)] = _; rw [c3, f0]), ?_⟩
        refine ⟨sN S, sS S, hn, (by omega), hS.2.2.2.1.1, (by show [Value.int (iF 1 4), .int (f 0)] = _; rw [c4, f0]), ?_⟩
        exact fin 0 (fun q => absurd q (by omega))
      · have e3 : f 3 - 1 = nI ((sC S).length - 1) := by rw [f3, show (1 : Int32) = nI 1 from rfl, nx_sub (by omega)]
        refine And.intro (pk_in ((sC S).length - 1) 40 (by omega) e3) ?_
        refine ⟨sN S, sB S, hn, (by omega), hS.2.2.1.1, (by show [Value.int (iF 1 3), .int (f 0)] = _; rw [c3, f0]), ?_⟩
        refine ⟨sN S, sS S, hn, (by omega), hS.2.2.2.1.1, (by show [Value.int (iF 1 4), .int (f 0)] = _; rw [c4, f0]), ?_⟩
        exact fin (a (f 3 - 1).toNatClampNeg) (fun q => by rw [e3, cl1 (by omega)]; exact ha _ (by omega))
    · have iv : vp_in (nI i) 40 := vp_in_nI (by omega) (by omega)
      have hv := hS.2.1.2 _ (getD_mem h)
      have e3 : f 3 - 1 = nI ((sC S).length - 1) := by rw [f3, show (1 : Int32) = nI 1 from rfl, nx_sub (by omega)]
      have ha' : ∀ j, j < i + 1 → up1 a (nI i).toNatClampNeg (nI (stN (sN S) ((sC S).getD i 0))) j = nI (stN (sN S) ((sC S).getD j 0)) := by
        intro j hj
        rw [cl1 (by omega)]
        by_cases e : j = i
        · rw [e, up1_s]
        · rw [up1_n _ _ e]; exact ha j (by omega)
      refine And.intro iv ⟨sN S, (sC S).getD i 0, hn, (by omega), hv.1, (by show [Value.int (aI 2 (nI i).toNatClampNeg), .int (f 0)] = _; rw [cl1 (by omega), c6 i h, f0]), And.intro iv (pk_le ((sC S).length - 1) i (fun h2 => ?_) (fun h2 => ?_) e3)⟩
      · refine ⟨50 - (i + 1), (by omega), i + 1, f, up1 a (nI i).toNatClampNeg (nI (stN (sN S) ((sC S).getD i 0))), rfl, (by show [Value.ref 14, .ref 1, .int (nI i + 1)] = _; rw [nI_1]), rfl, ?_, rfl, (by omega), f0, f1, f3, ?_, ha'⟩
        · show Cg z (up1 iF 14 f) (up1 (up1 aI 15 a) 15 (up1 a (nI i).toNatClampNeg (nI (stN (sN S) ((sC S).getD i 0))))) aL = _
          rw [up1_up1]
        · rw [f4, show min i ((sC S).length - 1) = min (i + 1) ((sC S).length - 1) by omega]
      · refine And.intro iv ⟨50 - (i + 1), (by omega), i + 1, up1 f 4 (stpd (f 4) (up1 a (nI i).toNatClampNeg (nI (stN (sN S) ((sC S).getD i 0))) (nI i).toNatClampNeg)), up1 a (nI i).toNatClampNeg (nI (stN (sN S) ((sC S).getD i 0))), rfl, (by show [Value.ref 14, .ref 1, .int (nI i + 1)] = _; rw [nI_1]), rfl, ?_, rfl, (by omega), f0, f1, f3, ?_, ha'⟩
        · show Cg z (up1 (up1 iF 14 f) 14 (up1 f 4 (stpd (f 4) (up1 a (nI i).toNatClampNeg (nI (stN (sN S) ((sC S).getD i 0))) (nI i).toNatClampNeg)))) (up1 (up1 aI 15 a) 15 (up1 a (nI i).toNatClampNeg (nI (stN (sN S) ((sC S).getD i 0))))) aL = _
          rw [up1_up1, up1_up1]
        · show stpd (f 4) (up1 a (nI i).toNatClampNeg (nI (stN (sN S) ((sC S).getD i 0))) (nI i).toNatClampNeg) = _
          rw [up1_s, f4, show min i ((sC S).length - 1) = i by omega, show min (i + 1) ((sC S).length - 1) = i + 1 by omega, stpd_eq hn (rgTo_Pm (Pm_rds hn) i).1]
          show _ = nI (chg (sN S) (chOf S 0 i) (rgTo S 0 (rds (sN S)) i))
          rw [chOf_0]
def pX1_after : Spc := fun As g Q => ∃ z iF aI aL S l x, g = Cg z iF aI aL ∧ As = [.ref 14, .int (nI x), .int (nI l)] ∧ VS S ∧ LD iF aI S ∧ (sC S).length ≠ 0 ∧ l ≤ 2 ∧ Pm (sN S) x ∧ Q (some (.int (nI (led S l x)))) g
theorem oX1_after : Ok 1 yX1_after cX1_after 3 (some .int) pX1_after := by
  refine ok_all fun As g Q h => ?_
  obtain ⟨z, iF, aI, aL, S, l, x, rfl, rfl, hS, hD, h0, hl, hx, hQ⟩ := h
  have hn := hS.1.2
  refine at0 60 (by decide) rfl sX1_after (nl (n := 3) rfl rfl rfl) ?_
  refine ⟨x, bdy S, sN S, hx.lt24 hn, (bdy_Pm hS).lt24 hn, hn, (by show [_, Value.int (iF 14 4), .int (iF 14 0)] = _; rw [hD.2.2.2.2.1, hD.1]), ?_⟩
  refine ⟨z, iF, aI, aL, S, l, rfl, rfl, hD, h0, hl, ?_⟩
  show Q (some (.int (stpd (nI (thr (sN S) x (bdy S))) (nI (stN (sN S) (lch S l)))))) _
  rw [stpd_eq hn (thr_lt _ _ _), ← led_thr hS h0 hx]
  exact hQ
def pX1_ahead : Spc := fun As g Q => ∃ z iF aI aL S l x e, g = Cg z iF aI aL ∧ As = [.ref 14, .int (nI x), .int (nI l)] ∧ VS S ∧ LD iF aI S ∧ (sC S).length ≠ 0 ∧ l ≤ 2 ∧ Pm (sN S) e ∧ led S l e = x ∧ Q (some (.int (nI e))) g
theorem oX1_ahead : Ok 1 yX1_ahead cX1_ahead 3 (some .int) pX1_ahead := by
  refine ok_all fun As g Q h => ?_
  obtain ⟨z, iF, aI, aL, S, l, x, e, rfl, rfl, hS, hD, h0, hl, he, rfl, hQ⟩ := h
  have hn := hS.1.2
  have hx : Pm (sN S) (led S l e) := led_Pm he
  refine at0 60 (by decide) rfl sX1_ahead (nl (n := 3) rfl rfl rfl) ?_
  refine ⟨z, iF, aI, aL, S, l, rfl, rfl, hD, h0, hl, ?_⟩
  have hb := bdy_Pm hS
  have e1 : stpd (nI (led S l e)) (nI (stN (sN S) (lch S l))) = nI (thr (sN S) e (bdy S)) := by
    rw [stpd_eq hn hx.1, led_thr hS h0 he, chg_chg (thr_lt _ _ _)]
  refine ⟨thr (sN S) e (bdy S), bdy S, sN S, Nat.lt_of_lt_of_le (thr_lt _ _ _) (p824 hn), hb.lt24 hn, hn, hb.2.1, hb.2.2, (by show [Value.int (stpd (nI (led S l e)) (nI (stN (sN S) (lch S l)))), Value.int (iF 14 4), .int (iF 14 0)] = _; rw [e1, hD.2.2.2.2.1, hD.1]), fun y hy h1 => ?_⟩
  have : y = e := bk_uniq hb hy he.1 h1 (fun p hp => (dg_thr hp).symm)
  rw [this]
  exact hQ

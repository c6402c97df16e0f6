/-! the reference reads a sign -/
/-- a method without loops -/
theorem at0 {d : Nat} {own : String} {cc : ByteArray} {nL : Nat} {ret : Option FieldType} {y : MethodName} {code : Nat → Stq} {a : List Value} {g : Sto} {Q : Rsl} (fuel : Nat) (hy : plainName y.cls = true) (hown : y.cls = own) (hs : ∀ pc, Snd d own cc nL ret (inM y.name) pc (code pc)) (hn : a.length ≤ nL ∧ a.all cat1 = true)
    (entry : frc (a ++ List.replicate (nL - a.length) U_) (fun ls0 => wp code (fun _ => false) (fun _ _ _ _ => ∃ n : Nat, False) Q fuel 0 ls0 [] g)) : OkAt d y cc nL ret a g Q :=
  at_of (fun _ => false) fuel (fun _ _ _ _ _ => False) hy hown hs hn entry (fun _ _ _ _ _ h => h.elim)
def qX11_readCross : Spc := fun As g Q => ∃ L iF aI aL n i P, g = Mg L iF aI aL ∧ As = [.ref 32] ∧ n ≤ 8 ∧ aI 33 0 = nI n ∧ MP iF aI P ∧ PV n i P ∧ i < 40 ∧ ∀ iF' aI', PF iF aI iF' aI' → (∀ P', stpX true n P = some P' → MP iF' aI' P') → Q (some (.int (b01 (stpX true n P).isSome))) (Mg L iF' aI' aL)
def qX11_readPoint : Spc := fun As g Q => ∃ L iF aI aL n i P, g = Mg L iF aI aL ∧ As = [.ref 32] ∧ n ≤ 8 ∧ aI 33 0 = nI n ∧ MP iF aI P ∧ PV n i P ∧ i < 40 ∧ ∀ iF' aI', PF iF aI iF' aI' → (∀ P', stpP true n P = some P' → MP iF' aI' P') → Q (some (.int (b01 (stpP true n P).isSome))) (Mg L iF' aI' aL)
def qX11_readComma : Spc := fun As g Q => ∃ L iF aI aL n i P, g = Mg L iF aI aL ∧ As = [.ref 32] ∧ n ≤ 8 ∧ aI 33 0 = nI n ∧ MP iF aI P ∧ PV n i P ∧ i < 40 ∧ ∀ iF' aI', PF iF aI iF' aI' → (∀ P', stpC true n P = some P' → MP iF' aI' P') → Q (some (.int (b01 (stpC true n P).isSome))) (Mg L iF' aI' aL)
def qX11_readFigure : Spc := fun As g Q => ∃ L iF aI aL n i P s, g = Mg L iF aI aL ∧ As = [.ref 32, .int (nI s)] ∧ s < 1000 ∧ n ≤ 8 ∧ aI 33 0 = nI n ∧ MP iF aI P ∧ PV n i P ∧ i < 40 ∧ ∀ iF' aI', PF iF aI iF' aI' → (∀ P', stpF true n P s = some P' → MP iF' aI' P') → Q (some (.int (b01 (stpF true n P s).isSome))) (Mg L iF' aI' aL)
theorem whl_c {n c : Nat} (h : whl n c = true) : 1 ≤ c ∧ c ≤ 8 ∧ (n - c) % 2 = 0 := by
  unfold whl fo at h
  simp only [Bool.and_eq_true, decide_eq_true_eq] at h
  omega
theorem fgr_big {c : Nat} (h : 8 < c) : fgr c = 0 := if_neg (by omega)
theorem rX11_readCross : Ok 2 yX11_readCross cX11_readCross 1 (some .boolean) qX11_readCross := by
  refine ok_all fun As g Q h => ?_
  obtain ⟨L, iF, aI, aL, n, i, P, rfl, rfl, hn, hN, ⟨m1, m2, m3, m4, m5, m6⟩, hP, hi, hQ⟩ := h
  refine at0 100 (by decide) rfl sX11_readCross_q (nl (n := 1) rfl rfl rfl) ?_
  · have hl := hP.1
    have no : ¬ (n % 2 = 0 ∧ (P.1 = 0 ∨ ((true : Bool) = true ∧ (P.1 = 102 ∨ cEnd n P.1 = true)))) → ((0 : Int32) = 0 ∨ (0 : Int32) = 1) ∧ Q (some (.int 0)) (Mg L iF aI aL) := by
      intro e
      have h1 : stpX true n P = none := if_neg e
      have := hQ iF aI (PF.refl _ _) (fun P' z => by rw [h1] at z; cases z)
      rw [h1] at this
      exact ⟨Or.inl rfl, this⟩
    have e2 : aI 33 0 - aI 33 0 / 2 * 2 = nI (n % 2) := by rw [hN, show (2 : Int32) = nI 2 from rfl, pk_rem (by omega) (by omega) (by omega)]
    refine And.intro in85 (And.intro (by decide) (br_c (fun h => ?_) (fun h => ?_)))
    · have h : aI 33 0 - aI 33 0 / 2 * 2 = 1 := h
      rw [e2] at h
      have h := (nI_eq (b := 1) (by omega) (by omega)).mp h
      exact no (by omega)
    · have h : ¬ aI 33 0 - aI 33 0 / 2 * 2 = 1 := h
      rw [e2] at h
      have h1 : ¬ n % 2 = 1 := fun q => h (by rw [q]; rfl)
      have ev : n % 2 = 0 := by omega
      have go : (P.1 = 0 ∨ (P.1 = 102 ∨ cEnd n P.1 = true)) → vp_in (iF 32 6) 40 ∧ ((1 : Int32) = 0 ∨ (1 : Int32) = 1) ∧ Q (some (.int 1)) (Mg L (up1 (up1 (up1 iF 32 (up1 (iF 32) 9 0)) 32 (up1 ((up1 iF 32 (up1 (iF 32) 9 0)) 32) 8 0)) 32 (up1 ((up1 (up1 iF 32 (up1 (iF 32) 9 0)) 32 (up1 ((up1 iF 32 (up1 (iF 32) 9 0)) 32) 8 0)) 32) 6 (iF 32 6 + 1))) (up1 aI 37 (up1 (aI 37) (iF 32 6).toNatClampNeg 0)) aL) := by
        intro hc
        have h1 : stpX true n P = some (100, P.2.1 ++ [0], P.2.2) := if_pos ⟨ev, (by rcases hc with z | z; exact Or.inl z; exact Or.inr ⟨rfl, z⟩)⟩
        have := hQ _ _ ((((PF.refl iF aI).fld 9 0 (by omega)).fld 8 0 (by omega)).fld 6 (iF 32 6 + 1) (by omega) |>.arr (up1 (aI 37) (iF 32 6).toNatClampNeg 0)) (fun P' z => by
          rw [h1] at z
          cases z
          refine ⟨?_, m2, rfl, rfl, ?_, fun j hj => ?_⟩
          · show iF 32 6 + 1 = _
            rw [m1, nI_1, List.length_append]; rfl
          · show iF 32 10 = _
            rw [m5]
            have : P.1 ≠ 101 := by
              rcases hc with z | z | z
              · omega
              · omega
              · rw [cEnd_eq] at z
                intro e
                rw [e] at z
                simp [whl, fo] at z
            rw [decide_eq_false this]; rfl
          · show up1 (aI 37) (iF 32 6).toNatClampNeg 0 j = _
            rw [m1, cl1 (by omega)]
            rw [List.length_append] at hj
            by_cases e : j = P.2.1.length
            · rw [e, up1_s, getD_last]; rfl
            · have hj : j < P.2.1.length := by simp at hj; omega
              rw [up1_n _ _ e, getD_app hj]; exact m6 j hj)
        rw [h1] at this
        exact ⟨(by rw [m1]; exact vp_in_nI (by omega) (by omega)), Or.inr rfl, this⟩
      refine And.intro (fun h => ?_) (fun h => ?_)
      · have h := of_decide_eq_true ((i2 m5).mp h)
        refine no (fun z => ?_)
        rcases z.2 with z | ⟨-, z | z⟩
        · omega
        · omega
        · rw [cEnd_eq, h] at z
          simp [whl, fo] at z
      · have h5 := of_decide_eq_false ((i1 m5).mp h)
        refine br_c (fun h => ?_) (fun h => ?_)
        · have h := of_decide_eq_false ((i1 m4).mp h)
          refine And.intro (Or.inl rfl) (go ?_)
          rcases hP.2.1 with z | z | z | z
          · left; omega
          · right; right; rw [cEnd_eq, z]; rfl
          · omega
          · right; left; exact z
        · have h := of_decide_eq_true ((i2 m4).mp h)
          refine ⟨L, iF, aI, aL, n, P.1, rfl, rfl, hn, hN, m3, m4, hP.cc, ?_⟩
          refine And.intro (fun h => ?_) (fun h => ?_)
          · have h : whl n P.1 = true := (i2 rfl).mp h
            exact And.intro (Or.inl rfl) (go (Or.inr (Or.inr (by rw [cEnd_eq, h, Bool.or_true]))))
          · have h : whl n P.1 = false := (i1 rfl).mp h
            refine no (fun z => ?_)
            rcases z.2 with z | ⟨-, z | z⟩
            · omega
            · omega
            · rw [cEnd_eq, h, Bool.or_false] at z
              have := of_decide_eq_true z
              omega

theorem rX11_readPoint : Ok 2 yX11_readPoint cX11_readPoint 1 (some .boolean) qX11_readPoint := by
  refine ok_all fun As g Q h => ?_
  obtain ⟨L, iF, aI, aL, n, i, P, rfl, rfl, hn, hN, ⟨m1, m2, m3, m4, m5, m6⟩, hP, hi, hQ⟩ := h
  refine at0 100 (by decide) rfl sX11_readPoint_q (nl (n := 1) rfl rfl rfl) ?_
  refine ⟨L, iF, aI, aL, n, P.1, rfl, rfl, hn, hN, m3, m4, hP.cc, ?_⟩
  refine And.intro (fun h => ?_) (fun h => ?_)
  · have h : whl n P.1 = true := (i2 rfl).mp h
    have hc := whl_c h
    have h1 : stpP true n P = some (101, P.2.1, P.2.2) := if_pos ⟨rfl, (by omega), (by rw [cEnd_eq, h, Bool.or_true])⟩
    rw [h1] at hQ
    refine And.intro (Or.inl rfl) (And.intro (Or.inr rfl) (And.intro (Or.inr rfl) (hQ _ _ ((((PF.refl iF aI).fld 9 0 (by omega)).fld 8 0 (by omega)).fld 10 1 (by omega)) (fun P' z => ?_))))
    cases z
    exact ⟨m1, m2, rfl, rfl, rfl, m6⟩
  · have h : whl n P.1 = false := (i1 rfl).mp h
    have h1 : stpP true n P = none := if_neg (fun z => by
      have := z.2.2
      rw [cEnd_eq, h, Bool.or_false] at this
      exact z.2.1 (of_decide_eq_true this))
    rw [h1] at hQ
    exact ⟨Or.inl rfl, hQ _ _ (PF.refl iF aI) (fun P' z => by cases z)⟩
theorem rX11_readComma : Ok 3 yX11_readComma cX11_readComma 1 (some .boolean) qX11_readComma := by
  refine ok_all fun As g Q h => ?_
  obtain ⟨L, iF, aI, aL, n, i, P, rfl, rfl, hn, hN, ⟨m1, m2, m3, m4, m5, m6⟩, hP, hi, hQ⟩ := h
  refine at0 100 (by decide) rfl sX11_readComma_q (nl (n := 1) rfl rfl rfl) ?_
  have no : ¬ ((true : Bool) = true ∧ P.2.2 = none ∧ cEnd n P.1 = true) → ((0 : Int32) = 0 ∨ (0 : Int32) = 1) ∧ Q (some (.int 0)) (Mg L iF aI aL) := by
    intro e
    have h1 : stpC true n P = none := if_neg e
    rw [h1] at hQ
    exact ⟨Or.inl rfl, hQ _ _ (PF.refl iF aI) (fun P' z => by cases z)⟩
  have hl := hP.1
  refine br_c (fun h => ?_) (fun h => ?_)
  · have h : 0 ≤ iF 32 7 := h
    rw [m2] at h
    refine no (fun z => ?_)
    rw [z.2.1] at h
    exact absurd h (by decide)
  · have h : ¬ 0 ≤ iF 32 7 := h
    rw [m2] at h
    have hN2 : P.2.2 = none := by
      cases e : P.2.2 with
      | none => rfl
      | some k =>
        rw [e] at h
        have hk := hP.2.2.2.1 k e
        exact absurd ((nI_leI (a := 0) (b := k) (by omega) (by omega)).mpr (Nat.zero_le k)) h
    refine ⟨L, iF, aI, aL, n, i, P, rfl, rfl, hn, hN, ⟨m1, m2, m3, m4, m5, m6⟩, hP, (by omega), ?_⟩
    refine And.intro (fun h => ?_) (fun h => ?_)
    · have h : cEnd n P.1 = true := (i2 rfl).mp h
      have h1 : stpC true n P = some (102, P.2.1, some P.2.1.length) := if_pos ⟨rfl, hN2, h⟩
      rw [h1] at hQ
      refine And.intro (Or.inl rfl) (And.intro (Or.inr rfl) (hQ _ _ ((((PF.refl iF aI).fld 9 0 (by omega)).fld 8 0 (by omega)).fld 7 (iF 32 6) (by omega)) (fun P' z => ?_)))
      cases z
      refine ⟨m1, m1, rfl, rfl, ?_, m6⟩
      show iF 32 10 = _
      rw [m5]
      have : P.1 ≠ 101 := by
        intro e
        rw [cEnd_eq, e] at h
        simp [whl, fo] at h
      rw [decide_eq_false this]; rfl
    · have h : cEnd n P.1 = false := (i1 rfl).mp h
      exact no (fun z => by rw [h] at z; exact absurd z.2.2 (by decide))
theorem or2 {m q : Nat} (h : m < 2 ^ q) : m ||| 2 ^ q = m + 2 ^ q := by
  have := Nat.two_pow_add_eq_or_of_lt h 1
  rw [Nat.mul_one] at this
  rw [Nat.or_comm, ← this, Nat.add_comm]
theorem rX11_readFigure : Ok 2 yX11_readFigure cX11_readFigure 2 (some .boolean) qX11_readFigure := by
  refine ok_all fun As g Q h => ?_
  obtain ⟨L, iF, aI, aL, n, i, P, s, rfl, rfl, hs, hn, hN, ⟨m1, m2, m3, m4, m5, m6⟩, hP, hi, hQ⟩ := h
  refine at0 100 (by decide) rfl sX11_readFigure_q (nl (n := 2) rfl rfl rfl) ?_
  have hl := hP.1
  have hf8 : fgr P.1 ≤ 8 := by unfold fgr; split <;> omega
  refine ⟨L, iF, aI, aL, n, fgr P.1, s, rfl, rfl, hs, hn, hN, m3, hf8, ?_⟩
  refine And.intro (fun h => ?_) (fun h => ?_)
  · have h := of_decide_eq_true ((i2 rfl).mp h)
    have h1 : stpF true n P s = some (s - 48, (if fgr P.1 = 0 then P.2.1 ++ [2 ^ (s - 48)] else addB P.2.1 (s - 48)), P.2.2) := if_pos ⟨h.1, h.2.1, h.2.2, fun z => (by cases z.1)⟩
    rw [h1] at hQ
    have eL : nI s - 48 = nI (s - 48) := by rw [show (48 : Int32) = nI 48 from rfl, nx_sub (by omega)]
    have e1 : (1 : Int32) <<< ((nI s - 48) &&& 31) = nI (2 ^ (s - 48)) := by
      have hp := Nat.pow_le_pow_right (n := 2) (by decide) (show s - 48 ≤ 8 by omega)
      rw [eL, show (1 : Int32) = nI 1 from rfl, nx_shl (by omega) (by omega), Nat.one_mul]
    refine And.intro (fun h3 => ?_) (fun h3 => ?_)
    · have h3 := of_decide_eq_true ((i2 m4).mp h3)
      have e0 : fgr P.1 = P.1 := fgr_eq h3.2
      rw [e0] at h
      have hl1 := hP.2.2.2.2.2.1 (by omega)
      have eR : iF 32 6 - 1 = nI (P.2.1.length - 1) := by rw [m1, show (1 : Int32) = nI 1 from rfl, nx_sub (by omega)]
      have iR : vp_in (iF 32 6 - 1) 40 := by rw [eR]; exact vp_in_nI (by omega) (by omega)
      refine And.intro (Or.inr rfl) (And.intro (Or.inl rfl) (And.intro iR (And.intro iR (And.intro (Or.inr rfl) (hQ _ _ ((((PF.refl iF aI).fld 9 1 (by omega)).fld 10 0 (by omega)).fld 8 (nI s - 48) (by omega) |>.arr _) (fun P' z => ?_))))))
      cases z
      rw [if_neg (show ¬ fgr P.1 = 0 by omega)]
      have hlen : (addB P.2.1 (s - 48)).length = P.2.1.length := by unfold addB; rw [List.length_set]
      refine ⟨?_, m2, ?_, ?_, ?_, fun j hj => ?_⟩
      · show iF 32 6 = nI (addB P.2.1 (s - 48)).length
        rw [hlen]; exact m1
      · show nI s - 48 = nI (fgr (s - 48))
        rw [fgr_eq (by omega)]; exact eL
      · show (1 : Int32) = b01 (fo (s - 48))
        rw [fo_y (by omega)]; rfl
      · show (0 : Int32) = b01 (decide (s - 48 = 101))
        rw [decide_eq_false (by omega)]; rfl
      · have hj : j < (addB P.2.1 (s - 48)).length := hj
        rw [hlen] at hj
        show up1 (aI 37) (iF 32 6 - 1).toNatClampNeg (aI 37 (iF 32 6 - 1).toNatClampNeg ||| (1 : Int32) <<< ((nI s - 48) &&& 31)) j = nI ((addB P.2.1 (s - 48)).getD j 0)
        rw [e1, eR, cl1 (by omega)]
        unfold addB
        rw [getD_setL (by omega)]
        by_cases e : j = P.2.1.length - 1
        · rw [e, up1_s, if_pos rfl, m6 _ (by omega), nx_or]
          have ho := (hP.2.2.2.2.2.2 (P.2.1.length - 1) (by omega)).1 ⟨h3.1, h3.2, (by omega)⟩
          rw [or2 (Nat.lt_of_lt_of_le ho.1 (Nat.pow_le_pow_right (by decide) (by omega)))]
        · rw [up1_n _ _ e, if_neg e]; exact m6 j hj
    · have h3 := of_decide_eq_false ((i1 m4).mp h3)
      have e0 : fgr P.1 = 0 := by unfold fgr; split <;> omega
      rw [e0] at h
      have iR0 : vp_in (iF 32 6) 40 := by rw [m1]; exact vp_in_nI (by omega) (by omega)
      have eR : iF 32 6 + 1 - 1 = nI P.2.1.length := by rw [m1, nI_1, show (1 : Int32) = nI 1 from rfl, nx_sub (by omega)]; rfl
      have iR : vp_in (iF 32 6 + 1 - 1) 40 := by rw [eR]; exact vp_in_nI (by omega) (by omega)
      refine And.intro iR0 (And.intro (Or.inr rfl) (And.intro (Or.inl rfl) (And.intro iR (And.intro iR (And.intro (Or.inr rfl) (hQ _ _ (((((PF.refl iF aI).arr _).fld 6 (iF 32 6 + 1) (by omega)).fld 9 1 (by omega)).fld 10 0 (by omega) |>.fld 8 (nI s - 48) (by omega) |>.arr _) (fun P' z => ?_)))))))
      cases z
      rw [if_pos e0]
      refine ⟨?_, m2, ?_, ?_, ?_, fun j hj => ?_⟩
      · show iF 32 6 + 1 = nI (P.2.1 ++ [2 ^ (s - 48)]).length
        rw [m1, nI_1, List.length_append]; rfl
      · show nI s - 48 = nI (fgr (s - 48))
        rw [fgr_eq (by omega)]; exact eL
      · show (1 : Int32) = b01 (fo (s - 48))
        rw [fo_y (by omega)]; rfl
      · show (0 : Int32) = b01 (decide (s - 48 = 101))
        rw [decide_eq_false (by omega)]; rfl
      · have hj : j < (P.2.1 ++ [2 ^ (s - 48)]).length := hj
        show up1 (up1 (aI 37) (iF 32 6).toNatClampNeg 0) (iF 32 6 + 1 - 1).toNatClampNeg (up1 (aI 37) (iF 32 6).toNatClampNeg 0 (iF 32 6 + 1 - 1).toNatClampNeg ||| (1 : Int32) <<< ((nI s - 48) &&& 31)) j = nI ((P.2.1 ++ [2 ^ (s - 48)]).getD j 0)
        rw [e1, eR, m1, cl1 (by omega), up1_s]
        rw [List.length_append] at hj
        by_cases e : j = P.2.1.length
        · rw [e, up1_s, getD_last, show (0 : Int32) = nI 0 from rfl, nx_or, Nat.zero_or]
        · have hj : j < P.2.1.length := by simp at hj; omega
          rw [up1_n _ _ e, up1_n _ _ e, getD_app hj]; exact m6 j hj
  · have h := of_decide_eq_false ((i1 rfl).mp h)
    have h1 : stpF true n P s = none := if_neg (fun z => h ⟨z.1, z.2.1, z.2.2.1⟩)
    rw [h1] at hQ
    exact ⟨Or.inl rfl, hQ _ _ (PF.refl iF aI) (fun P' z => by cases z)⟩

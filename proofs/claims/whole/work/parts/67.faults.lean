/-! the reference's faults -/
theorem rX11_readSign : Ok 4 yX11_readSign cX11_readSign 2 (some .boolean) qX11_readSign := by
  refine ok_all fun As g Q h => ?_
  obtain ⟨L, iF, aI, aL, n, i, P, s, rfl, rfl, hs, hn, hN, hM, hP, hi, hQ⟩ := h
  refine at0 100 (by decide) rfl sX11_readSign_q (nl (n := 2) rfl rfl rfl) ?_
  unfold stp1 at hQ
  refine br_c (fun h => ?_) (fun h => br_c (fun h2 => ?_) (fun h2 => br_c (fun h3 => ?_) (fun h3 => ?_)))
  · have h : s = 44 := (nI_eq (b := 44) (by omega) (by omega)).mp h
    subst h
    exact ⟨L, iF, aI, aL, n, i, P, rfl, rfl, hn, hN, hM, hP, hi, fun iF' aI' z1 z2 => ⟨b01_or _, hQ iF' aI' z1 z2⟩⟩
  · have h2 : s = 46 := (nI_eq (b := 46) (by omega) (by omega)).mp h2
    subst h2
    exact ⟨L, iF, aI, aL, n, i, P, rfl, rfl, hn, hN, hM, hP, hi, fun iF' aI' z1 z2 => ⟨b01_or _, hQ iF' aI' z1 z2⟩⟩
  · have h3 : s = 120 := (nI_eq (b := 120) (by omega) (by omega)).mp h3
    subst h3
    exact ⟨L, iF, aI, aL, n, i, P, rfl, rfl, hn, hN, hM, hP, hi, fun iF' aI' z1 z2 => ⟨b01_or _, hQ iF' aI' z1 z2⟩⟩
  · have h : ¬ s = 44 := fun q => h (by rw [q]; rfl)
    have h2 : ¬ s = 46 := fun q => h2 (by rw [q]; rfl)
    have h3 : ¬ s = 120 := fun q => h3 (by rw [q]; rfl)
    rw [if_neg h, if_neg h2, if_neg h3] at hQ
    exact ⟨L, iF, aI, aL, n, i, P, s, rfl, rfl, hs, hn, hN, hM, hP, hi, fun iF' aI' z1 z2 => ⟨b01_or _, hQ iF' aI' z1 z2⟩⟩
def pX11_touchFault : Spc := fun As g Q => ∃ L iF aI aL pd, g = Mg L iF aI aL ∧ As = [.ref 32] ∧ VP pd ∧ iF 32 4 = nI pd.length ∧ RP (aI 36) pd ∧ Q (some (.int (tfl pd))) g
theorem oX11_touchFault : Ok 1 yX11_touchFault cX11_touchFault 2 (some .int) pX11_touchFault := by
  refine ok_all fun As g Q h => ?_
  obtain ⟨L, iF, aI, aL, pd, rfl, rfl, hV, h4, hR, hQ⟩ := h
  refine at_of (fun pc => pc == 2) 60 (fun k pc ls st g' => ∃ i, pc = 2 ∧ ls = [.ref 32, .int (nI i)] ∧ st = [] ∧ g' = Mg L iF aI aL ∧ k = 40 - i ∧ i ≤ pd.length ∧ tfP pd 0 = tfP (pd.drop i) i) (by decide) rfl sX11_touchFault (nl (n := 1) rfl rfl rfl) ?_ ?_
  · exact ⟨40, 0, rfl, rfl, rfl, rfl, rfl, (by omega), rfl⟩
  · rintro k pc ls st g' ⟨i, rfl, rfl, rfl, rfl, rfl, hi, he⟩
    have hl := hV.1
    refine br_c (fun h => ?_) (fun h => ?_)
    · have h : iF 32 4 ≤ nI i := h
      rw [h4] at h
      have h : pd.length ≤ i := (nI_leI (by omega) (by omega)).mp h
      rw [List.drop_eq_nil_of_le h] at he
      have he : tfP pd 0 = none := he
      unfold tfl at hQ
      rw [he] at hQ
      refine br_c (fun h => ?_) (fun h => ?_)
      · have h : iF 32 4 ≤ 0 := h
        rw [h4] at h
        have h : pd.length ≤ 0 := (nI_leI (b := 0) (by omega) (by omega)).mp h
        have hQ : Q (some (.int (if pd.length = 0 then 0 else -6))) (Mg L iF aI aL) := hQ
        rw [if_pos (by omega)] at hQ
        exact hQ
      · have h : ¬ iF 32 4 ≤ 0 := h
        rw [h4] at h
        have h : ¬ pd.length ≤ 0 := fun q => h ((nI_leI (b := 0) (by omega) (by omega)).mpr q)
        have hQ : Q (some (.int (if pd.length = 0 then 0 else -6))) (Mg L iF aI aL) := hQ
        rw [if_neg (by omega)] at hQ
        exact hQ
    · have h : ¬ iF 32 4 ≤ nI i := h
      rw [h4] at h
      have h : ¬ pd.length ≤ i := fun q => h ((nI_leI (by omega) (by omega)).mpr q)
      rw [drop_get (by omega)] at he
      have he : tfP pd 0 = if kd (pd.getD i 0) = none then some i else tfP (pd.drop (i + 1)) (i + 1) := he
      have e1 : aI 36 (nI i).toNatClampNeg = nI (pd.getD i 0) := by rw [cl1 (by omega)]; exact hR i (by omega)
      refine And.intro (vp_in_nI (by omega) (by omega)) ⟨pd.getD i 0, hV.2 _ (getD_mem (by omega)), (by show [Value.int (aI 36 (nI i).toNatClampNeg)] = _; rw [e1]), ?_⟩
      cases e : kd (pd.getD i 0) with
      | none =>
        rw [if_pos e] at he
        unfold tfl at hQ
        rw [he] at hQ
        exact br_f (c := (0 : Int32) ≤ -6) (by decide) hQ
      | some l =>
        rw [if_neg (by rw [e]; intro z; cases z)] at he
        have hl3 : l ≤ 2 := by
          unfold kd at e
          split at e
          · cases e; omega
          · split at e
            · cases e; omega
            · split at e
              · cases e; omega
              · cases e
        refine br_t ((nI_leI (a := 0) (by omega) (by omega)).mpr (Nat.zero_le l)) ?_
        refine ⟨40 - (i + 1), (by omega), i + 1, rfl, ?_, rfl, rfl, rfl, (by omega), he⟩
        show [Value.ref 32, .int (nI i + 1)] = _
        rw [nI_1]

theorem PVP0 (n : Nat) : PV n 0 P0 := PV.nil n
theorem rdP_at {mt : Bool} {n : Nat} {l : List Nat} {i : Nat} {P : Prs} (h : i < l.length) : rdP mt n (l.drop i) i P = match stp1 mt n P (l.getD i 0) with
    | some P' => rdP mt n (l.drop (i + 1)) (i + 1) P'
    | none => (i, none) := by rw [drop_get h]; rfl
theorem stp_fig {n s : Nat} {P : Prs} (h : ¬ s = 120) (h1 : P.1 ≠ 100) : stp1 false n P s = stpF true n P s := by
  unfold stp1
  rw [if_neg h]
  have e : stpF false n P s = stpF true n P s := by unfold stpF; simp [h1]
  by_cases h2 : s = 46
  · subst h2; unfold stpP stpF; simp
  · rw [if_neg h2]
    by_cases h3 : s = 44
    · subst h3; unfold stpC stpF; simp
    · rw [if_neg h3, e]
theorem stp_100 {n s : Nat} {P : Prs} (h : ¬ s = 120) (h1 : P.1 = 100) : stp1 false n P s = none := by
  unfold stp1 stpP stpC stpF
  rw [if_neg h]
  split
  · simp
  · split
    · simp
    · simp [h1]
theorem stp_x1 {n : Nat} {P : Prs} (h1 : P.1 ≠ 0) : stp1 false n P 120 = none := by
  unfold stp1 stpX
  simp [h1]
theorem stp_x0 {n : Nat} {P : Prs} (h1 : P.1 = 0) : stp1 false n P 120 = stpX true n P := by
  unfold stp1 stpX
  simp [h1]
def pX11_changeFault : Spc := fun As g Q => ∃ L iF aI aL n pd, g = Mg L iF aI aL ∧ As = [.ref 32] ∧ 4 ≤ n ∧ n ≤ 8 ∧ aI 33 0 = nI n ∧ VP pd ∧ iF 32 4 = nI pd.length ∧ RP (aI 36) pd ∧
  ∀ iF' aI', PF iF aI iF' aI' → (∀ P, (rdP false n pd 0 P0).2 = some P → MP iF' aI' P) → Q (some (.int (flt false n pd))) (Mg L iF' aI' aL)
def cfI (L : Nat → Nat) (aL : Nat → Nat → Int64) (iF aI : Nat → Nat → Int32) (n : Nat) (pd : List Nat) : Nat → Kon := fun k pc ls st g' => ∃ i P v iF' aI', pc = 6 ∧ ls = [.ref 32, .int (nI i), v] ∧ st = [] ∧ g' = Mg L iF' aI' aL ∧ k = 40 - i ∧ i ≤ pd.length ∧ PF iF aI iF' aI' ∧ MP iF' aI' P ∧ PV n i P ∧ (P.1 = 0 ↔ i = 0) ∧ P.1 ≠ 101 ∧ P.1 ≠ 102 ∧ rdP false n pd 0 P0 = rdP false n (pd.drop i) i P
theorem oX11_changeFault : Ok 3 yX11_changeFault cX11_changeFault 3 (some .int) pX11_changeFault := by
  refine ok_all fun As g Q h => ?_
  obtain ⟨L, iF, aI, aL, n, pd, rfl, rfl, hn4, hn, hN, hV, h4, hR, hQ⟩ := h
  refine at_of (fun pc => pc == 6) 100 (cfI L aL iF aI n pd) (by decide) rfl sX11_changeFault (nl (n := 1) rfl rfl rfl) ?_ ?_
  · refine And.intro (Or.inl rfl) (And.intro (Or.inl rfl) ⟨40, 0, P0, _, _, _, rfl, rfl, rfl, rfl, rfl, (by omega), (((((PF.refl iF aI).fld 6 0 (by omega)).fld 7 (-6) (by omega)).fld 8 0 (by omega)).fld 9 0 (by omega)).fld 10 0 (by omega), ⟨rfl, rfl, rfl, rfl, rfl, fun j hj => absurd hj (Nat.not_lt_zero j)⟩, PVP0 n, ⟨fun _ => rfl, fun _ => rfl⟩, (by decide), (by decide), rfl⟩)
  · rintro k pc ls st g' ⟨i, P, v, iF1, aI1, rfl, rfl, rfl, rfl, rfl, hi, hF, hM, hP, hz, hz1, hz2, he⟩
    have hl := hV.1
    have h4' : iF1 32 4 = nI pd.length := (hF.1 32 4 (by omega)).trans h4
    have hN' : aI1 33 0 = nI n := by rw [hF.2 33 (by omega)]; exact hN
    have hR' : RP (aI1 36) pd := by rw [hF.2 36 (by omega)]; exact hR
    refine br_c (fun h => ?_) (fun h => ?_)
    · have h : iF1 32 4 ≤ nI i := h
      rw [h4'] at h
      have h : pd.length ≤ i := (nI_leI (by omega) (by omega)).mp h
      rw [List.drop_eq_nil_of_le h] at he
      have he : (rdP false n pd 0 P0).2 = some P := by rw [he]; rfl
      have hQ := hQ iF1 aI1 hF (fun P' z => by rw [he] at z; cases z; exact hM)
      unfold flt at hQ
      rw [he] at hQ
      have hQ : Q (some (.int (if cEnd n P.1 = true then -6 else nI pd.length))) (Mg L iF1 aI1 aL) := hQ
      refine ⟨L, iF1, aI1, aL, n, i, P, rfl, rfl, hn, hN', hM, hP, (by omega), ?_⟩
      refine br_c (fun h => ?_) (fun h => ?_)
      · have h : cEnd n P.1 = false := (i1 rfl).mp h
        rw [if_neg (by rw [h]; decide)] at hQ
        show Q (some (.int (iF1 32 4))) (Mg L iF1 aI1 aL)
        rw [h4']; exact hQ
      · have h : cEnd n P.1 = true := (i2 rfl).mp h
        rw [if_pos h] at hQ
        exact hQ
    · have h : ¬ iF1 32 4 ≤ nI i := h
      rw [h4'] at h
      have h : ¬ pd.length ≤ i := fun q => h ((nI_leI (by omega) (by omega)).mpr q)
      rw [rdP_at (by omega)] at he
      have e1 : aI1 36 (nI i).toNatClampNeg = nI (pd.getD i 0) := by rw [cl1 (by omega)]; exact hR' i (by omega)
      have hs : pd.getD i 0 < 1000 := hV.2 _ (getD_mem (by omega))
      have inn : vp_in (nI i) 40 := vp_in_nI (by omega) (by omega)
      have no : ∀ iF2 aI2, PF iF1 aI1 iF2 aI2 → stp1 false n P (pd.getD i 0) = none → Q (some (.int (nI i))) (Mg L iF2 aI2 aL) := by
        intro iF2 aI2 hF2 e
        rw [e] at he
        have hQ := hQ iF2 aI2 (hF.trans hF2) (fun P' z => by rw [he] at z; cases z)
        unfold flt at hQ
        rw [he] at hQ
        exact hQ
      have yes : ∀ iF2 aI2 P', PF iF1 aI1 iF2 aI2 → stp1 false n P (pd.getD i 0) = some P' → MP iF2 aI2 P' → ∀ w, ∃ n', n' < 40 - i ∧ cfI L aL iF aI n pd n' 6 [.ref 32, .int (nI (i + 1)), w] [] (Mg L iF2 aI2 aL) := by
        intro iF2 aI2 P' hF2 e hM2 w
        rw [e] at he
        have hP' := hP.step hn hn4 e
        refine ⟨40 - (i + 1), (by omega), i + 1, P', w, iF2, aI2, rfl, rfl, rfl, rfl, rfl, (by omega), hF.trans hF2, hM2, hP', ?_, ?_, ?_, he⟩
        all_goals (
          unfold stp1 stpX stpP stpC stpF at e
          have := hP'.2.1
          split at e
          · split at e
            · cases e; simp
            · cases e
          · split at e
            · simp at e
            · split at e
              · simp at e
              · split at e
                · rename_i hh
                  cases e
                  simp only
                  omega
                · cases e)
      have n0 : (¬ (0 : Int32) = 0 → ∃ n', n' < 40 - i ∧ cfI L aL iF aI n pd n' 6 [.ref 32, .int (nI i + 1), .int 0] [] (Mg L iF1 aI1 aL)) ∧ ((0 : Int32) = 0 → Q (some (.int (nI i))) (Mg L iF1 aI1 aL)) ∨ stp1 false n P (pd.getD i 0) ≠ none := by
        cases e : stp1 false n P (pd.getD i 0) with
        | none => exact Or.inl ⟨fun z => absurd rfl z, fun _ => no iF1 aI1 (PF.refl _ _) e⟩
        | some P' => exact Or.inr (by simp)
      have cont : ∀ iF2 aI2, PF iF1 aI1 iF2 aI2 → ∀ X : Option Prs, X = stp1 false n P (pd.getD i 0) → (∀ P', X = some P' → MP iF2 aI2 P') → (b01 X.isSome = 0 → (¬ (0 : Int32) = 0 → ∃ n', n' < 40 - i ∧ cfI L aL iF aI n pd n' 6 [.ref 32, .int (nI i + 1), .int 0] [] (Mg L iF2 aI2 aL)) ∧ ((0 : Int32) = 0 → Q (some (.int (nI i))) (Mg L iF2 aI2 aL))) ∧ (¬ b01 X.isSome = 0 → (¬ (1 : Int32) = 0 → ∃ n', n' < 40 - i ∧ cfI L aL iF aI n pd n' 6 [.ref 32, .int (nI i + 1), .int 1] [] (Mg L iF2 aI2 aL)) ∧ ((1 : Int32) = 0 → Q (some (.int (nI i))) (Mg L iF2 aI2 aL))) := by
        intro iF2 aI2 hF2 X hX hm
        cases X with
        | none => exact ⟨fun _ => ⟨fun z => absurd rfl z, fun _ => no iF2 aI2 hF2 hX.symm⟩, fun z => absurd rfl z⟩
        | some P' =>
          refine ⟨fun z => absurd z n10, fun _ => ⟨fun _ => ?_, fun z => absurd z n10⟩⟩
          rw [nI_1]
          exact yes iF2 aI2 P' hF2 hX.symm (hm P' rfl) _
      refine And.intro inn (And.intro (fun h2 => ?_) (fun h2 => ?_))
      · have h2 : ¬ aI1 36 (nI i).toNatClampNeg = 120 := h2
        rw [e1] at h2
        have h2 : ¬ pd.getD i 0 = 120 := fun q => h2 (by rw [q]; rfl)
        have fig : P.1 ≠ 100 → vp_in (nI i) 40 ∧ qX11_readFigure [.ref 32, .int (aI1 36 (nI i).toNatClampNeg)] (Mg L iF1 aI1 aL) (fun v g' => ∃ b, v = some (.int b) ∧ ((b = 0 → (¬ (0 : Int32) = 0 → ∃ n', n' < 40 - i ∧ cfI L aL iF aI n pd n' 6 [.ref 32, .int (nI i + 1), .int 0] [] g') ∧ ((0 : Int32) = 0 → Q (some (.int (nI i))) g')) ∧ (¬ b = 0 → (¬ (1 : Int32) = 0 → ∃ n', n' < 40 - i ∧ cfI L aL iF aI n pd n' 6 [.ref 32, .int (nI i + 1), .int 1] [] g') ∧ ((1 : Int32) = 0 → Q (some (.int (nI i))) g')))) := by
          intro hne
          refine ⟨inn, L, iF1, aI1, aL, n, i, P, pd.getD i 0, rfl, (by rw [e1]), hs, hn, hN', hM, hP, (by omega), fun iF2 aI2 hF2 hm => ⟨_, rfl, ?_⟩⟩
          exact cont iF2 aI2 hF2 _ (stp_fig h2 hne).symm hm
        refine br_c (fun h3 => ?_) (fun h3 => ?_)
        · have h3 : nI i = 0 := h3
          have h3 : i = 0 := (nI_eq (b := 0) (by omega) (by omega)).mp h3
          have := hz.mpr h3
          obtain ⟨f1, f2⟩ := fig (by omega)
          refine And.intro f1 ?_
          obtain ⟨L', iF', aI', aL', n', i', P', s', z1, z2, z3, z4, z5, z6, z7, z8, z9⟩ := f2
          refine ⟨L', iF', aI', aL', n', i', P', s', z1, z2, z3, z4, z5, z6, z7, z8, fun iF2 aI2 y1 y2 => ?_⟩
          obtain ⟨b, y3, y4⟩ := z9 iF2 aI2 y1 y2
          cases y3
          exact y4
        · have h3 : ¬ nI i = 0 := h3
          have h3 : ¬ i = 0 := fun q => h3 (by rw [q]; rfl)
          refine br_c (fun h4 => ?_) (fun h4 => ?_)
          · have h4 := of_decide_eq_false ((i1 hM.2.2.2.1).mp h4)
            have hc : P.1 = 100 := by
              rcases hP.2.1 with z | z | z | z
              · omega
              · exact z
              · omega
              · omega
            rcases n0 with z | z
            · exact z
            · exact absurd (stp_100 h2 hc) z
          · have h4 := of_decide_eq_true ((i2 hM.2.2.2.1).mp h4)
            obtain ⟨f1, f2⟩ := fig (by omega)
            refine And.intro f1 ?_
            obtain ⟨L', iF', aI', aL', n', i', P', s', z1, z2, z3, z4, z5, z6, z7, z8, z9⟩ := f2
            refine ⟨L', iF', aI', aL', n', i', P', s', z1, z2, z3, z4, z5, z6, z7, z8, fun iF2 aI2 y1 y2 => ?_⟩
            obtain ⟨b, y3, y4⟩ := z9 iF2 aI2 y1 y2
            cases y3
            exact y4
      · have h2 : aI1 36 (nI i).toNatClampNeg = 120 := h2
        rw [e1] at h2
        have h2 : pd.getD i 0 = 120 := (nI_eq (b := 120) (by omega) (by omega)).mp h2
        refine And.intro (fun h3 => ?_) (fun h3 => ?_)
        · have h3 : ¬ nI i = 0 := h3
          have h3 : ¬ i = 0 := fun q => h3 (by rw [q]; rfl)
          rcases n0 with z | z
          · exact z
          · exact absurd (by rw [h2]; exact stp_x1 (fun q => h3 (hz.mp q))) z
        · have h3 : nI i = 0 := h3
          have h3 : i = 0 := (nI_eq (b := 0) (by omega) (by omega)).mp h3
          refine ⟨L, iF1, aI1, aL, n, i, P, rfl, rfl, hn, hN', hM, hP, (by omega), fun iF2 aI2 hF2 hm => ?_⟩
          exact cont iF2 aI2 hF2 _ (by rw [h2]; exact (stp_x0 (hz.mpr h3)).symm) hm

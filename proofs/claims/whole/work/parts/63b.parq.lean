/-! the reference reads a pad: the small ones -/
def fo (c : Nat) : Bool := decide (1 ≤ c ∧ c ≤ 8)
def MP (iF aI : Nat → Nat → Int32) (P : Prs) : Prop := iF 32 6 = nI P.2.1.length ∧ iF 32 7 = oI P.2.2 ∧ iF 32 8 = nI (fgr P.1) ∧ iF 32 9 = b01 (fo P.1) ∧ iF 32 10 = b01 (decide (P.1 = 101)) ∧ ∀ j, j < P.2.1.length → aI 37 j = nI (P.2.1.getD j 0)
/-- a reading touches its own cells only -/
def PF (iF aI iF' aI' : Nat → Nat → Int32) : Prop := (∀ k i, ¬ (k = 32 ∧ 6 ≤ i ∧ i ≤ 10) → iF' k i = iF k i) ∧ ∀ k, k ≠ 37 → aI' k = aI k
theorem PF.refl (iF aI : Nat → Nat → Int32) : PF iF aI iF aI := ⟨fun _ _ _ => rfl, fun _ _ => rfl⟩
theorem PF.trans {iF aI iF1 aI1 iF2 aI2 : Nat → Nat → Int32} (h : PF iF aI iF1 aI1) (h2 : PF iF1 aI1 iF2 aI2) : PF iF aI iF2 aI2 := ⟨fun k i q => (h2.1 k i q).trans (h.1 k i q), fun k q => (h2.2 k q).trans (h.2 k q)⟩
theorem PF.fld {iF aI iF1 aI1 : Nat → Nat → Int32} (h : PF iF aI iF1 aI1) (i : Nat) (v : Int32) (hi : 6 ≤ i ∧ i ≤ 10) : PF iF aI (up1 iF1 32 (up1 (iF1 32) i v)) aI1 := by
  refine ⟨fun k j q => ?_, h.2⟩
  by_cases e : k = 32
  · subst e; rw [up1_s, up1_n _ _ (fun z => q ⟨rfl, by omega⟩)]; exact h.1 _ _ q
  · rw [up1_n _ _ e]; exact h.1 _ _ q
theorem PF.arr {iF aI iF1 aI1 : Nat → Nat → Int32} (h : PF iF aI iF1 aI1) (f : Nat → Int32) : PF iF aI iF1 (up1 aI1 37 f) := ⟨h.1, fun k q => by rw [up1_n _ _ q]; exact h.2 k q⟩
theorem fo_y {c : Nat} (h : 1 ≤ c ∧ c ≤ 8) : fo c = true := decide_eq_true h
theorem fo_n {c : Nat} (h : ¬ (1 ≤ c ∧ c ≤ 8)) : fo c = false := decide_eq_false h
theorem b1 {b : Bool} (h : b = true) : b01 b = 1 := by rw [h]; rfl
theorem b0 {b : Bool} (h : b = false) : b01 b = 0 := by rw [h]; rfl
theorem n10 : ¬ (1 : Int32) = 0 := by decide
theorem i1 {x : Int32} {b : Bool} (h : x = b01 b) : x = 0 ↔ b = false := by rw [h]; cases b <;> decide
theorem i2 {x : Int32} {b : Bool} (h : x = b01 b) : ¬ x = 0 ↔ b = true := by rw [h]; cases b <;> decide
theorem ok01 {b : Bool} {Q : Option Value → Prop} (h : Q (some (.int (b01 b)))) {c : Int32} (e : c = b01 b) : (c = 0 ∨ c = 1) ∧ Q (some (.int c)) := by
  subst e; exact ⟨b01_or b, h⟩
def whl (n c : Nat) : Bool := fo c && decide ((n - c) % 2 = 0)
theorem in85 : vp_in 0 85 := vp_in_nI (n := 0) (N := 85) (by omega) (by omega)
theorem cEnd_eq (n c : Nat) : cEnd n c = (decide (c = 100) || whl n c) := by
  unfold cEnd whl fo
  by_cases h1 : c = 100
  · simp [h1]
  · by_cases h2 : 1 ≤ c
    · by_cases h3 : c ≤ 8
      · simp [h1, h2, h3]
      · simp [h1, h2, h3]
    · simp [h1, h2]
def qX11_isWhole : Spc := fun As g Q => ∃ L iF aI aL n c, g = Mg L iF aI aL ∧ As = [.ref 32] ∧ n ≤ 8 ∧ aI 33 0 = nI n ∧ iF 32 8 = nI (fgr c) ∧ iF 32 9 = b01 (fo c) ∧ (c ≤ n ∨ 100 ≤ c) ∧ Q (some (.int (b01 (whl n c)))) g
theorem wX11_isWhole {As : List Value} {g : Sto} {Q : Rsl} (h : qX11_isWhole As g Q) : pX11_isWhole As g Q := by
  obtain ⟨L, iF, aI, aL, n, c, rfl, rfl, hn, hN, h8, h9, hc, hQ⟩ := h
  refine br_c (fun h => ?_) (fun h => ?_)
  · have h : fo c = false := (i1 h9).mp h
    have e : whl n c = false := by unfold whl; rw [h]; rfl
    rw [e] at hQ
    exact ⟨Or.inl rfl, hQ⟩
  · have h : fo c = true := (i2 h9).mp h
    have hf := of_decide_eq_true h
    have e : aI 33 0 - iF 32 8 - (aI 33 0 - iF 32 8) / 2 * 2 = nI ((n - c) % 2) := by
      rw [hN, h8, fgr_eq hf.2, nx_sub (by omega), show (2 : Int32) = nI 2 from rfl, pk_rem (by omega) (by omega) (by omega)]
    refine And.intro in85 (And.intro (by decide) (And.intro (fun h2 => ?_) (fun h2 => ?_)))
    · have h2 : ¬ aI 33 0 - iF 32 8 - (aI 33 0 - iF 32 8) / 2 * 2 = 0 := h2
      rw [e] at h2
      have e : whl n c = false := by
        unfold whl; rw [h, Bool.true_and]; exact decide_eq_false (fun z => h2 (by rw [z]; rfl))
      rw [e] at hQ
      exact ⟨Or.inl rfl, hQ⟩
    · have h2 : aI 33 0 - iF 32 8 - (aI 33 0 - iF 32 8) / 2 * 2 = 0 := h2
      rw [e] at h2
      have e : whl n c = true := by
        unfold whl; rw [h, Bool.true_and]; exact decide_eq_true ((nI_eq (b := 0) (by omega) (by omega)).mp h2)
      rw [e] at hQ
      exact ⟨Or.inr rfl, hQ⟩
theorem rX11_isWhole : Ok 1 yX11_isWhole cX11_isWhole 1 (some .boolean) qX11_isWhole := ok_weak (fun _ _ _ => wX11_isWhole) oX11_isWhole
def qX11_mayEnd : Spc := fun As g Q => ∃ L iF aI aL n i P, g = Mg L iF aI aL ∧ As = [.ref 32] ∧ n ≤ 8 ∧ aI 33 0 = nI n ∧ MP iF aI P ∧ PV n i P ∧ i ≤ 40 ∧ Q (some (.int (b01 (cEnd n P.1)))) g
theorem PV.cc {n i : Nat} {P : Prs} (h : PV n i P) : P.1 ≤ n ∨ 100 ≤ P.1 := by
  rcases h.2.1 with z | z | z | z
  · exact Or.inl z
  all_goals right; omega
theorem rX11_mayEnd : Ok 2 yX11_mayEnd cX11_mayEnd 1 (some .boolean) qX11_mayEnd := by
  refine ok_weak (fun As g Q h => ?_) oX11_mayEnd
  obtain ⟨L, iF, aI, aL, n, i, P, rfl, rfl, hn, hN, ⟨m1, m2, m3, m4, m5, m6⟩, hP, hi, hQ⟩ := h
  rw [cEnd_eq] at hQ
  have no : (decide (P.1 = 100) || whl n P.1) = false → ((0 : Int32) = 0 ∨ (0 : Int32) = 1) ∧ Q (some (.int 0)) (Mg L iF aI aL) := by
    intro e; rw [e] at hQ; exact ⟨Or.inl rfl, hQ⟩
  have yes : (decide (P.1 = 100) || whl n P.1) = true → ((1 : Int32) = 0 ∨ (1 : Int32) = 1) ∧ Q (some (.int 1)) (Mg L iF aI aL) := by
    intro e; rw [e] at hQ; exact ⟨Or.inr rfl, hQ⟩
  have h1 := hP.1
  refine wX11_isWhole ⟨L, iF, aI, aL, n, P.1, rfl, rfl, hn, hN, m3, m4, hP.cc, ?_⟩
  refine And.intro (fun h => ?_) (fun h => ?_)
  · have h : whl n P.1 = true := (i2 rfl).mp h
    exact yes (by rw [h, Bool.or_true])
  · have h : whl n P.1 = false := (i1 rfl).mp h
    rw [h, Bool.or_false] at yes no
    refine And.intro (fun h => ?_) (fun h => ?_)
    · have h : fo P.1 = true := (i2 m4).mp h
      have := of_decide_eq_true h
      exact no (decide_eq_false (by omega))
    · have h : fo P.1 = false := (i1 m4).mp h
      have h3 := of_decide_eq_false h
      refine And.intro (fun h => ?_) (fun h => ?_)
      · have h := of_decide_eq_true ((i2 m5).mp h)
        exact no (decide_eq_false (by omega))
      · have h4 := of_decide_eq_false ((i1 m5).mp h)
        refine br_c (fun h => ?_) (fun h => ?_)
        · have h : iF 32 6 ≤ 0 := h
          rw [m1] at h
          have h : P.2.1.length ≤ 0 := (nI_leI (b := 0) (by omega) (by omega)).mp h
          refine no (decide_eq_false (fun z => ?_))
          have := hP.2.2.2.2.2.1 (by omega)
          omega
        · have h : ¬ iF 32 6 ≤ 0 := h
          rw [m1] at h
          have h : ¬ P.2.1.length ≤ 0 := fun q => h ((nI_leI (b := 0) (by omega) (by omega)).mpr q)
          have h5 : P.1 ≠ 0 := fun z => by rw [(hP.2.2.1 z).1] at h; exact h (Nat.le_refl 0)
          refine br_c (fun h => ?_) (fun h => ?_)
          · have h : iF 32 6 = iF 32 7 := h
            rw [m1, m2] at h
            refine no (decide_eq_false (fun z => ?_))
            cases e : P.2.2 with
            | none =>
              rw [e] at h
              have h : nI P.2.1.length = -6 := h
              have := congrArg Int32.toInt h
              rw [nI_toInt (by omega)] at this
              have e6 : (-6 : Int32).toInt = -6 := by decide
              omega
            | some k =>
              rw [e] at h
              have h : nI P.2.1.length = nI k := h
              have hk := hP.2.2.2.1 k e
              have := (nI_eq (by omega) (by omega)).mp h
              have := hk.2.2.mpr this.symm
              omega
          · have h : ¬ iF 32 6 = iF 32 7 := h
            rw [m1, m2] at h
            refine yes (decide_eq_true ?_)
            rcases hP.2.1 with z | z | z | z
            · omega
            · exact z
            · omega
            · cases e : P.2.2 with
              | none => exact absurd z (hP.2.2.2.2.1 e)
              | some k =>
                rw [e] at h
                have hk := (hP.2.2.2.1 k e).2.2.mp z
                rw [hk] at h
                exact absurd rfl h
def cst (n s c : Nat) : Bool := decide (48 + c < s ∧ s ≤ 48 + n ∧ (s - 48 - c) % 2 = 1)
def qX11_canStay : Spc := fun As g Q => ∃ L iF aI aL n c s, g = Mg L iF aI aL ∧ As = [.ref 32, .int (nI s)] ∧ s < 1000 ∧ n ≤ 8 ∧ aI 33 0 = nI n ∧ iF 32 8 = nI c ∧ c ≤ 8 ∧ Q (some (.int (b01 (cst n s c)))) g
theorem subI_lt {a b c : Nat} (ha : a < 2 ^ 30) (hb : b < 2 ^ 30) (hc : c < 2 ^ 30) : nI a - nI b < nI c ↔ a < b + c := by
  rw [Int32.lt_iff_toInt_lt, pk_sub_toInt ha hb, nI_toInt (by omega)]; omega
theorem subI_gt {a b c : Nat} (ha : a < 2 ^ 30) (hb : b < 2 ^ 30) (hc : c < 2 ^ 30) : nI c < nI a - nI b ↔ b + c < a := by
  rw [Int32.lt_iff_toInt_lt, pk_sub_toInt ha hb, nI_toInt (by omega)]; omega
theorem rX11_canStay : Ok 1 yX11_canStay cX11_canStay 3 (some .boolean) qX11_canStay := by
  refine ok_weak (fun As g Q h => ?_) oX11_canStay
  obtain ⟨L, iF, aI, aL, n, c, s, rfl, rfl, hs, hn, hN, h8, hc, hQ⟩ := h
  have no : ¬ (48 + c < s ∧ s ≤ 48 + n ∧ (s - 48 - c) % 2 = 1) → ((0 : Int32) = 0 ∨ (0 : Int32) = 1) ∧ Q (some (.int 0)) (Mg L iF aI aL) := by
    intro e; unfold cst at hQ; rw [decide_eq_false e] at hQ; exact ⟨Or.inl rfl, hQ⟩
  have yes : (48 + c < s ∧ s ≤ 48 + n ∧ (s - 48 - c) % 2 = 1) → ((1 : Int32) = 0 ∨ (1 : Int32) = 1) ∧ Q (some (.int 1)) (Mg L iF aI aL) := by
    intro e; unfold cst at hQ; rw [decide_eq_true e] at hQ; exact ⟨Or.inr rfl, hQ⟩
  have e1 : iF 32 8 + 1 = nI (c + 1) := by rw [h8, show (1 : Int32) = nI 1 from rfl, nI_add]
  refine And.intro in85 (br_c (fun h => ?_) (fun h => ?_))
  · have h : nI s - 48 < iF 32 8 + 1 := h
    rw [e1] at h
    have h := (subI_lt (b := 48) (by omega) (by omega) (by omega)).mp h
    refine And.intro (Or.inl rfl) ?_
    refine br_t rfl ?_
    exact no (by omega)
  · have h : ¬ nI s - 48 < iF 32 8 + 1 := h
    rw [e1] at h
    have h1 : ¬ s < 48 + (c + 1) := fun q => h ((subI_lt (b := 48) (by omega) (by omega) (by omega)).mpr q)
    refine br_c (fun h => ?_) (fun h => ?_)
    · have h : aI 33 0 < nI s - 48 := h
      rw [hN] at h
      have h := (subI_gt (b := 48) (by omega) (by omega) (by omega)).mp h
      refine And.intro (Or.inl rfl) ?_
      refine br_t rfl ?_
      exact no (by omega)
    · have h : ¬ aI 33 0 < nI s - 48 := h
      rw [hN] at h
      have h2 : ¬ 48 + n < s := fun q => h ((subI_gt (b := 48) (by omega) (by omega) (by omega)).mpr q)
      refine And.intro (Or.inr rfl) ?_
      refine br_f (by decide) ?_
      have e : nI s - 48 - iF 32 8 - (nI s - 48 - iF 32 8) / 2 * 2 = nI ((s - 48 - c) % 2) := by
        rw [h8, show (48 : Int32) = nI 48 from rfl, nx_sub (by omega), nx_sub (by omega), show (2 : Int32) = nI 2 from rfl, pk_rem (by omega) (by omega) (by omega)]
      refine And.intro (by decide) (And.intro (fun h => ?_) (fun h => ?_))
      · have h : ¬ nI s - 48 - iF 32 8 - (nI s - 48 - iF 32 8) / 2 * 2 = 1 := h
        rw [e] at h
        exact no (fun z => h (by rw [z.2.2]; rfl))
      · have h : nI s - 48 - iF 32 8 - (nI s - 48 - iF 32 8) / 2 * 2 = 1 := h
        rw [e] at h
        exact yes ⟨by omega, by omega, (nI_eq (b := 1) (by omega) (by omega)).mp h⟩

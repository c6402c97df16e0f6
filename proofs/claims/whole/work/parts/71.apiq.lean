/-! the reference's whole state -/
def RM (W : WS) (sr : Nat) (iF aI : Nat → Nat → Int32) : Prop := RS (aI 33) (wS W) ∧ iF 32 4 = nI (wP W).length ∧ RP (aI 36) (wP W) ∧ iF 32 17 = nI sr ∧ MI sr (aI 41) ∧ ∀ k, k < 2 → aI 35 k = b01 (wI W k).isSome ∧ ∀ S', wI W k = some S' → RS (fun i => aI 34 (85 * k + i)) S'
def FM (iF aI iF' aI' : Nat → Nat → Int32) : Prop := (∀ k, k ≠ 32 → iF' k = iF k) ∧ ∀ k, k < 32 → aI' k = aI k
theorem FM.refl (iF aI : Nat → Nat → Int32) : FM iF aI iF aI := ⟨fun _ _ => rfl, fun _ _ => rfl⟩
theorem FM.trans {iF aI iF1 aI1 iF2 aI2 : Nat → Nat → Int32} (h : FM iF aI iF1 aI1) (h2 : FM iF1 aI1 iF2 aI2) : FM iF aI iF2 aI2 := ⟨fun k q => (h2.1 k q).trans (h.1 k q), fun k q => (h2.2 k q).trans (h.2 k q)⟩
theorem FM.fld {iF aI iF1 aI1 : Nat → Nat → Int32} (h : FM iF aI iF1 aI1) (f : Nat → Int32) : FM iF aI (up1 iF1 32 f) aI1 := ⟨fun k q => (by rw [up1_n _ _ q]; exact h.1 k q), h.2⟩
theorem FM.arr {iF aI iF1 aI1 : Nat → Nat → Int32} (h : FM iF aI iF1 aI1) (k : Nat) (hk : 32 ≤ k) (f : Nat → Int32) : FM iF aI iF1 (up1 aI1 k f) := ⟨h.1, fun j q => (by rw [up1_n _ _ (by omega)]; exact h.2 j q)⟩
theorem PF.FM {iF aI iF' aI' : Nat → Nat → Int32} (h : PF iF aI iF' aI') : FM iF aI iF' aI' := ⟨fun k q => funext fun i => h.1 k i (fun z => q z.1), fun k q => h.2 k (by omega)⟩
/-- a call of the reference: what it answers and what becomes of the state -/
def amq (args : List Int32) (ans : WS → Int32 × WS) : Spc := fun As g Q => ∃ L iF aI aL W sr, g = Mg L iF aI aL ∧ As = .ref 32 :: args.map .int ∧ VW W ∧ RM W sr iF aI ∧ sr + 1000 < 2 ^ 30 ∧ ∀ iF' aI' sr', FM iF aI iF' aI' → sr' ≤ sr + 1000 → RM (ans W).2 sr' iF' aI' → Q (some (.int (ans W).1)) (Mg L iF' aI' aL)
theorem RM.of {W : WS} {sr sr' : Nat} {iF aI iF' aI' : Nat → Nat → Int32} (h : RM W sr iF aI) (ha : ∀ k, 33 ≤ k → k ≤ 36 → aI' k = aI k) (h4 : iF' 32 4 = iF 32 4) (h17 : iF' 32 17 = nI sr') (hm : MI sr' (aI' 41)) : RM W sr' iF' aI' := by
  obtain ⟨a1, a2, a3, a4, a5, a6⟩ := h
  refine ⟨(by rw [ha 33 (by omega) (by omega)]; exact a1), h4.trans a2, (by rw [ha 36 (by omega) (by omega)]; exact a3), h17, hm, fun k hk => ?_⟩
  rw [ha 35 (by omega) (by omega), ha 34 (by omega) (by omega)]
  exact a6 k hk
theorem RM.qry {W : WS} {sr : Nat} {L : Nat → Nat} {iF aI : Nat → Nat → Int32} {aL : Nat → Nat → Int64} {Q : Rsl} {v : Int32} (h : RM W sr iF aI) (hQ : ∀ iF' aI' sr', FM iF aI iF' aI' → sr' ≤ sr + 1000 → RM W sr' iF' aI' → Q (some (.int v)) (Mg L iF' aI' aL)) : qry L iF aI aL sr Q v := fun iF' aI' sr' z1 z2 z3 z4 z5 z6 => hQ iF' aI' sr' ⟨z2, fun k hk => z1 k (by omega)⟩ (by omega) (h.of (fun k _ hk => z1 k (by omega)) z3 z5 z6)
def qX11_in : Spc := fun As g Q => ∃ v lo hi, As = [.int v, .int lo, .int hi] ∧ (v < lo ∨ hi < v → Q (some (.int 0)) g) ∧ (¬ (v < lo ∨ hi < v) → Q (some (.int 1)) g)
theorem rX11_in : Ok 0 yX11_in cX11_in 3 (some .boolean) qX11_in := by
  refine ok_weak (fun As g Q h => ?_) oX11_in
  obtain ⟨v, lo, hi, rfl, h1, h2⟩ := h
  refine br_c (fun h => ⟨Or.inl rfl, h1 (Or.inl h)⟩) (fun h => br_c (fun h3 => ⟨Or.inl rfl, h1 (Or.inr h3)⟩) (fun h3 => ⟨Or.inr rfl, h2 (fun z => ?_)⟩))
  rcases z with z | z
  · exact h z
  · exact h3 z
def qX11_isReady : Spc := fun As g Q => ∃ L iF aI aL S, g = Mg L iF aI aL ∧ As = [.ref 32] ∧ RS (aI 33) S ∧ VS S ∧ Q (some (.int (b01 (rdy S)))) g
theorem in85' {k : Nat} (h : k < 85) : vp_in (nI k) 85 := vp_in_nI h (by omega)
theorem rX11_isReady : Ok 0 yX11_isReady cX11_isReady 1 (some .boolean) qX11_isReady := by
  refine ok_weak (fun As g Q h => ?_) oX11_isReady
  obtain ⟨L, iF, aI, aL, S, rfl, rfl, hR, hS, hQ⟩ := h
  have hc := hS.2.1.1
  have hl := hS.2.2.2.2.1
  have no : ¬ ((sC S).length ≠ 0 ∧ (sL S).length ≠ 0) → ((0 : Int32) = 0 ∨ (0 : Int32) = 1) ∧ Q (some (.int 0)) (Mg L iF aI aL) := by
    intro e; unfold rdy at hQ; rw [decide_eq_false e] at hQ; exact ⟨Or.inl rfl, hQ⟩
  refine And.intro (in85' (k := 1) (by omega)) (br_c (fun h => ?_) (fun h => ?_))
  · have h : aI 33 1 ≤ 0 := h
    rw [hR.2.1] at h
    have h : (sC S).length ≤ 0 := (nI_leI (b := 0) (by omega) (by omega)).mp h
    exact no (by omega)
  · have h : ¬ aI 33 1 ≤ 0 := h
    rw [hR.2.1] at h
    have h : ¬ (sC S).length ≤ 0 := fun q => h ((nI_leI (b := 0) (by omega) (by omega)).mpr q)
    refine And.intro (in85' (k := 44) (by omega)) (br_c (fun h2 => ?_) (fun h2 => ?_))
    · have h2 : aI 33 44 ≤ 0 := h2
      rw [hR.2.2.2.2.2.1] at h2
      have h2 : (sL S).length ≤ 0 := (nI_leI (b := 0) (by omega) (by omega)).mp h2
      exact no (by omega)
    · have h2 : ¬ aI 33 44 ≤ 0 := h2
      rw [hR.2.2.2.2.2.1] at h2
      have h2 : ¬ (sL S).length ≤ 0 := fun q => h2 ((nI_leI (b := 0) (by omega) (by omega)).mpr q)
      unfold rdy at hQ
      rw [decide_eq_true (by omega)] at hQ
      exact ⟨Or.inr rfl, hQ⟩
def lsb (n : Nat) : Nat := if n % 2 = 1 then 2 ^ n else 0
def qX11_lay : Spc := fun As g Q => ∃ L iF aI aL n, g = Mg L iF aI aL ∧ As = [.ref 32, .int (nI n)] ∧ 4 ≤ n ∧ n ≤ 8 ∧ ∀ f, RS f (bgS n) → Q none (Mg L iF (up1 aI 33 f) aL)
theorem orl : ∀ n, n < 9 → 4 ≤ n → (18 : Int32) ||| nI (lsb n) = nI (18 + (if n % 2 = 1 then 2 ^ n else 0)) ∧ (30 : Int32) ||| nI (lsb n) = nI (30 + (if n % 2 = 1 then 2 ^ n else 0)) := by decide +kernel
theorem rX11_lay : Ok 0 yX11_lay cX11_lay 3 none qX11_lay := by
  refine ok_weak (fun As g Q h => ?_) oX11_lay
  obtain ⟨L, iF, aI, aL, n, rfl, rfl, hn4, hn, hQ⟩ := h
  obtain ⟨o1, o2⟩ := orl n (by omega) hn4
  have e2 : nI n - nI n / 2 * 2 = nI (n % 2) := by rw [show (2 : Int32) = nI 2 from rfl, pk_rem (by omega) (by omega) (by omega)]
  have key : ∀ x : Int32, x = nI (lsb n) → Q none (Mg L iF (up1 (up1 (up1 (up1 (up1 aI 33 (up1 (aI 33) 0 (nI n))) 33 (up1 (up1 (aI 33) 0 (nI n)) 1 0)) 33 (up1 (up1 (up1 (aI 33) 0 (nI n)) 1 0) 44 0)) 33 (up1 (up1 (up1 (up1 (aI 33) 0 (nI n)) 1 0) 44 0) 42 (18 ||| x))) 33 (up1 (up1 (up1 (up1 (up1 (aI 33) 0 (nI n)) 1 0) 44 0) 42 (18 ||| x)) 43 (30 ||| x))) aL) := by
    intro x hx
    rw [up1_up1, up1_up1, up1_up1, up1_up1]
    refine hQ _ ⟨rfl, rfl, fun i h => absurd h (Nat.not_lt_zero i), ?_, ?_, rfl, fun i h => absurd h (Nat.not_lt_zero i)⟩
    · show 18 ||| x = _
      rw [hx]; exact o1
    · show 30 ||| x = _
      rw [hx]; exact o2
  refine And.intro in85 (And.intro (in85' (k := 1) (by omega)) (And.intro (in85' (k := 44) (by omega)) (And.intro (by decide) (And.intro (fun h => ?_) (fun h => ?_)))))
  · have h : ¬ nI n - nI n / 2 * 2 = 1 := h
    rw [e2] at h
    have h : ¬ n % 2 = 1 := fun q => h (by rw [q]; rfl)
    exact And.intro (in85' (k := 42) (by omega)) (And.intro (in85' (k := 43) (by omega)) (key 0 (by unfold lsb; rw [if_neg h]; rfl)))
  · have h : nI n - nI n / 2 * 2 = 1 := h
    rw [e2] at h
    have h : n % 2 = 1 := (nI_eq (b := 1) (by omega) (by omega)).mp h
    have hp := Nat.pow_le_pow_right (n := 2) (by decide) (show n ≤ 8 by omega)
    exact And.intro (in85' (k := 42) (by omega)) (And.intro (in85' (k := 43) (by omega)) (key ((1 : Int32) <<< (nI n &&& 31)) (by unfold lsb; rw [if_pos h, show (1 : Int32) = nI 1 from rfl, nx_shl (by omega) (by omega), Nat.one_mul])))

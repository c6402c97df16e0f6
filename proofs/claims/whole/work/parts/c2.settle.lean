/-! all that follows from the setting is laid anew -/
def pX10_settle : Spc := fun As g Q => ∃ z iF aI aL S, g = Cg z iF aI aL ∧ As = [.ref 0] ∧ VS S ∧ CS 1 iF aI S ∧ ∀ iF' aI', (∀ k, k ≠ 14 → k ≠ 16 → k ≠ 20 → k ≠ 23 → iF' k = iF k) → (∀ k, k ≠ 15 → k ≠ 17 → k ≠ 27 → aI' k = aI k) → LD iF' aI' S → RG iF' aI' S → iF' 20 3 = 0 → iF' 23 3 = 0 → (∀ l, l < 8 → aI' 27 l = 0) → Q none (Cg z iF' aI' aL)
theorem oX10_settle : Ok 3 yX10_settle cX10_settle 1 none pX10_settle := by
  refine ok_all fun As g Q h => ?_
  obtain ⟨z, iF, aI, aL, S, rfl, rfl, hS, hC, hQ⟩ := h
  refine at0 60 (by decide) rfl sX10_settle (nl (n := 1) rfl rfl rfl) ?_
  refine ⟨z, iF, aI, aL, S, rfl, rfl, hS, hC, fun f a hD => ?_⟩
  refine ⟨z, _, _, aL, S, rfl, rfl, hS, hC.of rfl rfl rfl, hD, fun f2 a2 hR => ?_⟩
  refine And.intro (Or.inl rfl) ?_
  refine ⟨z, _, _, aL, rfl, rfl, fun a3 h3 => ?_⟩
  refine hQ _ _ (fun k k1 k2 k3 k4 => ?_) (fun k k1 k2 k3 => ?_) (hD.of rfl rfl ⟨rfl, rfl, rfl, rfl⟩) (hR.of rfl rfl) rfl rfl h3
  · exact (up1_n _ _ k4).trans ((up1_n _ _ k3).trans ((up1_n _ _ k2).trans (up1_n iF _ k1)))
  · exact (up1_n _ _ k3).trans ((up1_n _ _ k2).trans (up1_n aI _ k1))
def CB0 (W : WS) (iF aI : Nat → Nat → Int32) : Prop := CS 1 iF aI (wS W) ∧ iF 10 1 = nI (wP W).length ∧ RP (aI 11) (wP W) ∧ iF 0 3 = nI (ikp W) ∧ (∀ S', W.2.2.1 = some S' → CS 4 iF aI S') ∧ (∀ S', W.2.2.2 = some S' → CS 7 iF aI S')
theorem CB.c0 {W : WS} {iF aI : Nat → Nat → Int32} (h : CB W iF aI) : CB0 W iF aI := ⟨h.1, h.2.1, h.2.2.1, h.2.2.2.1, h.2.2.2.2.1, h.2.2.2.2.2.1⟩
theorem CIv.settle {W W' : WS} {K : Nat} {z : Zt} {iF aI iF1 aI1 iF' aI' : Nat → Nat → Int32} {aL : Nat → Nat → Int64} (h : CIv W K z iF aI aL) (e1 : ∀ k, 18 ≤ k → iF1 k = iF k) (h0 : CB0 W' iF1 aI1) (h1 : ∀ k, k ≠ 14 → k ≠ 16 → k ≠ 20 → k ≠ 23 → iF' k = iF1 k) (h2 : ∀ k, k ≠ 15 → k ≠ 17 → k ≠ 27 → aI' k = aI1 k) (hD : LD iF' aI' (wS W')) (hR : RG iF' aI' (wS W')) (h3 : iF' 20 3 = 0) (h4 : iF' 23 3 = 0) (h5 : ∀ l, l < 8 → aI' 27 l = 0) : CIv W' (K + 1000) z iF' aI' aL := by
  obtain ⟨a, b, ⟨fl, c1, c2⟩, d, e⟩ := h
  obtain ⟨a1, a2, a3, a4, a5, a6⟩ := h0
  have g1 : ∀ k, 18 ≤ k → k ≠ 20 → k ≠ 23 → iF' k = iF k := fun k q1 q2 q3 => (h1 k (by omega) (by omega) q2 q3).trans (e1 k q1)
  refine ⟨⟨a1.of (h1 1 (by omega) (by omega) (by omega) (by omega)) (h2 2 (by omega) (by omega) (by omega)) (h2 3 (by omega) (by omega) (by omega)), ?_, ?_, ?_, fun S' q => (a5 S' q).of (h1 4 (by omega) (by omega) (by omega) (by omega)) (h2 5 (by omega) (by omega) (by omega)) (h2 6 (by omega) (by omega) (by omega)), fun S' q => (a6 S' q).of (h1 7 (by omega) (by omega) (by omega) (by omega)) (h2 8 (by omega) (by omega) (by omega)) (h2 9 (by omega) (by omega) (by omega)), hD, hR⟩, ⟨false, h3, fun q => by cases q⟩, ⟨fl, by omega, ?_⟩, d.of (by omega) rfl (g1 18 (by omega) (by omega) (by omega)) rfl, e.of (by omega) rfl (g1 30 (by omega) (by omega) (by omega)) rfl⟩
  · rw [h1 10 (by omega) (by omega) (by omega) (by omega)]; exact a2
  · rw [h2 11 (by omega) (by omega) (by omega)]; exact a3
  · rw [h1 0 (by omega) (by omega) (by omega) (by omega)]; exact a4
  · obtain ⟨s1, s2, ⟨c, s3⟩, -, -⟩ := c2
    exact ⟨s1, s2, ⟨c, s3.of rfl (g1 24 (by omega) (by omega) (by omega)) rfl⟩, ⟨0, by omega, h4, fun q => absurd q (by omega)⟩, fun l hl => Or.inl (h5 l hl)⟩
theorem FC.settle {iF aI iF1 aI1 iF' aI' : Nat → Nat → Int32} (h : FC iF aI iF1 aI1) (h1 : ∀ k, k ≠ 14 → k ≠ 16 → k ≠ 20 → k ≠ 23 → iF' k = iF1 k) (h2 : ∀ k, k ≠ 15 → k ≠ 17 → k ≠ 27 → aI' k = aI1 k) : FC iF aI iF' aI' := ⟨fun k q => (h1 k (by omega) (by omega) (by omega) (by omega)).trans (h.1 k q), fun k q r => (h2 k (by omega) (by omega) (by omega)).trans (h.2 k q r)⟩

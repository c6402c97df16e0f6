/-! the law: its entry -/
theorem VW_W0 : VW W0 := ⟨VS_bg (by omega) (by omega), VP_nil, fun k S' e => by
  have q : wI W0 k = none := by unfold wI W0; split <;> rfl
  rw [q] at e
  cases e⟩
theorem CIv.zb {W : WS} {K : Nat} {L : Nat → Nat} {iF aI iF' aI' : Nat → Nat → Int32} {aL aL' : Nat → Nat → Int64} (h : CIv W K (false, L) iF aI aL) (h1 : ∀ k, k ≠ 32 → iF' k = iF k) (h2 : ∀ k, k < 32 → aI' k = aI k) (h3 : ∀ k, k < 32 → aL' k = aL k) : CIv W K (true, L) iF' aI' aL' := by
  obtain ⟨a, b, ⟨fl, c1, c2⟩, d, e⟩ := h
  exact ⟨a.of (fun k q _ => h1 k (by omega)) (fun k q _ => h2 k (by omega)), b.of (h1 20 (by omega)) (h2 22 (by omega)), ⟨fl, c1, c2.of c2.1 rfl rfl (h1 23 (by omega)) (h1 24 (by omega)) (h2 27 (by omega)) (h3 25 (by omega))⟩, d.of (Nat.le_refl _) rfl (h1 18 (by omega)) (h3 19 (by omega)), e.of (Nat.le_refl _) rfl (h1 30 (by omega)) (h3 31 (by omega))⟩
set_option maxRecDepth 100000 in
set_option maxHeartbeats 8000000 in
theorem law_entry {L : Nat} {xs : Nat → Int32} : wp (kL_law L xs) (fun pc => pc == 18) (fun pc ls st g' => ∃ n', lawI n' pc ls st g') lawQ 100 0 [.ref 49, U_, U_, U_] [] gE := by
  refine And.intro ⟨(by decide +kernel), (by decide +kernel)⟩ ?_
  refine ⟨rfl, rfl, fun iF' aI' aL' hC => ?_⟩
  refine And.intro ⟨(by dsimp only [g_new]; decide +kernel), (by dsimp only [g_new]; decide +kernel)⟩ ?_
  refine ⟨iF', aI', aL', rfl, rfl, fun iF2 aI2 aL2 c1 c2 c3 hR => ?_⟩
  exact ⟨600, 0, W0, 1, 0, fun _ => 1, iF2, aI2, aL2, rfl, rfl, rfl, rfl, rfl, Nat.zero_le _, VW_W0, hC.zb c1 c2 c3, hR, Nat.le_refl _, Nat.le_refl _⟩

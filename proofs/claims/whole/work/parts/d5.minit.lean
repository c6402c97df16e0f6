/-! the reference's constructor -/
def pX11_init : Spc := fun As g Q => ∃ iF aI aL, As = [.ref 32] ∧ g = g_new (Cg (false, fun _ => 1) iF aI aL) 10 32 [.null, .null, .null, .null, .int 0, .null, .int 0, .int 0, .int 0, .int 0, .int 0, .int 0, .null, .null, .null, .int 0, .null, .int 0, .null, .int 0, .null, .null, .null, .null, .null] ∧ ∀ iF' aI' aL', (∀ k, k ≠ 32 → iF' k = iF k) → (∀ k, k < 32 → aI' k = aI k) → (∀ k, k < 32 → aL' k = aL k) → RM W0 0 iF' aI' → Q none (Cg (true, fun _ => 1) iF' aI' aL')
set_option maxRecDepth 100000 in
set_option maxHeartbeats 4000000 in
theorem oX11_init : Ok 1 yX11_init cX11_init 1 none pX11_init := by
  refine ok_all fun As g Q h => ?_
  obtain ⟨iF, aI, aL, rfl, rfl, hQ⟩ := h
  refine at0 200 (by decide) rfl sX11_init (nl (n := 1) rfl rfl rfl) ?_
  refine And.intro ⟨(by decide), (by decide +kernel), (by dsimp only [g_newa, g_new, g_putr]; decide +kernel), (by dsimp only [g_newa, g_new, g_putr]; decide +kernel)⟩ ?_
  refine And.intro ⟨(by decide), (by decide +kernel), (by dsimp only [g_newa, g_new, g_putr]; decide +kernel), (by dsimp only [g_newa, g_new, g_putr]; decide +kernel)⟩ ?_
  refine And.intro ⟨(by decide), (by decide +kernel), (by dsimp only [g_newa, g_new, g_putr]; decide +kernel), (by dsimp only [g_newa, g_new, g_putr]; decide +kernel)⟩ ?_
  refine And.intro ⟨(by decide), (by decide +kernel), (by dsimp only [g_newa, g_new, g_putr]; decide +kernel), (by dsimp only [g_newa, g_new, g_putr]; decide +kernel)⟩ ?_
  refine And.intro ⟨(by decide), (by decide +kernel), (by dsimp only [g_newa, g_new, g_putr]; decide +kernel), (by dsimp only [g_newa, g_new, g_putr]; decide +kernel)⟩ ?_
  refine And.intro ⟨(by decide), (by decide +kernel), (by dsimp only [g_newa, g_new, g_putr]; decide +kernel), (by dsimp only [g_newa, g_new, g_putr]; decide +kernel)⟩ ?_
  refine And.intro ⟨(by decide), (by decide +kernel), (by dsimp only [g_newa, g_new, g_putr]; decide +kernel), (by dsimp only [g_newa, g_new, g_putr]; decide +kernel)⟩ ?_
  refine And.intro ⟨(by decide), (by decide +kernel), (by dsimp only [g_newa, g_new, g_putr]; decide +kernel), (by dsimp only [g_newa, g_new, g_putr]; decide +kernel)⟩ ?_
  refine And.intro ⟨(by decide), (by decide +kernel), (by dsimp only [g_newa, g_new, g_putr]; decide +kernel), (by dsimp only [g_newa, g_new, g_putr]; decide +kernel)⟩ ?_
  refine And.intro ⟨(by decide), (by decide +kernel), (by dsimp only [g_newa, g_new, g_putr]; decide +kernel), (by dsimp only [g_newa, g_new, g_putr]; decide +kernel)⟩ ?_
  refine And.intro ⟨(by decide), (by decide +kernel), (by dsimp only [g_newa, g_new, g_putr]; decide +kernel), (by dsimp only [g_newa, g_new, g_putr]; decide +kernel)⟩ ?_
  refine And.intro ⟨(by decide), (by decide +kernel), (by dsimp only [g_newa, g_new, g_putr]; decide +kernel), (by dsimp only [g_newa, g_new, g_putr]; decide +kernel)⟩ ?_
  refine And.intro ⟨(by decide), (by decide +kernel), (by dsimp only [g_newa, g_new, g_putr]; decide +kernel), (by dsimp only [g_newa, g_new, g_putr]; decide +kernel)⟩ ?_
  refine And.intro ⟨(by decide), (by decide +kernel), (by dsimp only [g_newa, g_new, g_putr]; decide +kernel), (by dsimp only [g_newa, g_new, g_putr]; decide +kernel)⟩ ?_
  refine And.intro ⟨(by decide), (by decide +kernel), (by dsimp only [g_newa, g_new, g_putr]; decide +kernel), (by dsimp only [g_newa, g_new, g_putr]; decide +kernel)⟩ ?_
  refine And.intro (all49 ⟨rfl, rfl, rfl, rfl, rfl, rfl, rfl, rfl, rfl, rfl, rfl, rfl, rfl, rfl, rfl, rfl, rfl, rfl, rfl, rfl, rfl, rfl, rfl, rfl, rfl, rfl, rfl, rfl, rfl, rfl, rfl, rfl, rfl, rfl, rfl, rfl, rfl, rfl, rfl, rfl, rfl, rfl, rfl, rfl, rfl, rfl, rfl, rfl, rfl⟩) ?_
  refine ⟨fun _ => 1, _, _, _, 6, rfl, rfl, (by omega), (by omega), fun f hf => ?_⟩
  refine hQ _ _ _ (fun k hk => ?_) (fun k hk => ?_) (fun k hk => ?_) ⟨hf, rfl, fun i hi => absurd hi (Nat.not_lt_zero i), rfl, fun r hr => ⟨0, Nat.le_refl _, rfl⟩, fun k hk => ⟨?_, fun S' q => ?_⟩⟩
  · exact up1_n iF _ hk
  · dsimp only [g_newa, g_new, g_putr]
    repeat rw [up1_n _ _ (by omega)]
  · dsimp only [g_newa, g_new, g_putr]
    repeat rw [up1_n _ _ (by omega)]
  · have e : wI W0 k = none := by unfold wI W0; split <;> rfl
    rw [e]
    rfl
  · have e : wI W0 k = none := by unfold wI W0; split <;> rfl
    rw [e] at q
    cases q

def pX11_goOn : Spc := fun As g Q => ∃ L iF aI aL S sr E e l, g = Mg L iF aI aL ∧ As = [.ref 32, .int (nI (rk (sN S) e.1)), .int (nI l)] ∧ RS (aI 33) S ∧ VS S ∧ sr < 2 ^ 30 ∧ l ≤ 2 ∧ e ∈ E ∧ e.2.2.2 < 50000 ∧ iF 32 17 = nI sr ∧ iF 32 19 = nI E.length ∧ MW (sN S) sr (kys E) (aI 41) (aI 42) ∧ BD (sN S) E (aI 45) (aI 46) (aI 47) ∧
  ∀ iF' aI', agS aI aI' → (∀ k, k ≠ 32 → iF' k = iF k) → (∀ j, j ≠ 19 → iF' 32 j = iF 32 j) → iF' 32 19 = nI (ad E (led S l e.1, e.1, l, e.2.2.2 + 1)).length → MW (sN S) sr (kys (ad E (led S l e.1, e.1, l, e.2.2.2 + 1))) (aI' 41) (aI' 42) → BD (sN S) (ad E (led S l e.1, e.1, l, e.2.2.2 + 1)) (aI' 45) (aI' 46) (aI' 47) → Q none (Mg L iF' aI' aL)
set_option maxHeartbeats 4000000 in
theorem oX11_goOn : Ok 3 yX11_goOn cX11_goOn 4 none pX11_goOn := by
  refine ok_all fun As g Q h => ?_
  obtain ⟨L, iF, aI, aL, S, sr, E, e, l, rfl, rfl, hR, hS, hsr, hl, he, hed, h17, h19, hM, hB, hQ⟩ := h
  have hn := hS.1.2
  have hP := hM.1 _ (mem_kys he)
  have hy := led_Pm (S := S) (l := l) hP
  have hr1 := rk_lt (x := e.1) hn
  have hr2 := rk_lt (x := led S l e.1) hn
  have hf := fct_le _ hn
  refine at_of (fun pc => false) 80 (fun m pc ls st g' => False) (by decide) rfl sX11_goOn (nl (n := 3) rfl rfl rfl) ?_ (fun _ _ _ _ _ h => h.elim)
  refine ⟨L, iF, aI, aL, sN S, e.1, rfl, rfl, hS.1.1, hn, hR.1, hP, fun f u hf1 => ?_⟩
  refine ⟨L, iF, _, aL, S, l, e.1, rfl, rfl, hR, hS, hl, hf1, fun f2 hf2 => ?_⟩
  refine ⟨L, iF, _, aL, sN S, led S l e.1, rfl, rfl, hn, hR.1, hf2, ?_⟩
  refine ⟨L, iF, _, aL, sN S, sr, kys E, led S l e.1, rfl, rfl, hn, hsr, hy, h17, by rw [kys_len]; exact h19, hM, fun hv => ?_, fun hv => ?_⟩
  · refine br_t rfl ?_
    have e1 : ad E (led S l e.1, e.1, l, e.2.2.2 + 1) = E := if_pos hv
    rw [e1] at hQ
    exact hQ iF _ (((agS.rf.up (by omega)).up (by omega)).up (by omega)) (fun _ _ => rfl) (fun _ _ => rfl) h19 hM hB
  · refine br_f (by decide) ?_
    have e1 : ad E (led S l e.1, e.1, l, e.2.2.2 + 1) = E ++ [(led S l e.1, e.1, l, e.2.2.2 + 1)] := if_neg hv
    rw [e1] at hQ
    obtain ⟨hM2, hlt⟩ := hM.add hn hy hv
    have ir : vp_in (nI (rk (sN S) (led S l e.1))) 40320 := vp_in_nI (by omega) (by omega)
    refine And.intro ir (And.intro ir (And.intro (vp_in_nI (by omega) (by omega)) (And.intro ir ?_)))
    refine hQ _ _ ?_ (fun k hk => up1_n _ _ hk) (fun j hj => ?_) ?_ ?_ ?_
    · exact (((((((agS.rf.up (by omega)).up (by omega)).up (by omega)).up (by omega)).up (by omega)).up (by omega)).up (by omega)).up (by omega)
    · show up1 iF 32 (up1 (iF 32) 19 _) 32 j = _
      rw [up1_s, up1_n _ _ hj]
    · show up1 iF 32 (up1 (iF 32) 19 (nI ((kys E).length + 1))) 32 19 = _
      rw [up1_s, up1_s, kys_len, List.length_append]
      rfl
    · rw [kys_app]
      exact hM2
    · intro x hx
      have ecl : (nI (rk (sN S) (led S l e.1))).toNatClampNeg = rk (sN S) (led S l e.1) := cl1 (by omega)
      have ecl2 : (nI (rk (sN S) e.1)).toNatClampNeg = rk (sN S) e.1 := cl1 (by omega)
      show up1 (aI 47) (nI (rk (sN S) (led S l e.1))).toNatClampNeg (aI 47 (nI (rk (sN S) e.1)).toNatClampNeg + 1) (rk (sN S) x.1) = nI x.2.2.2 ∧ (0 < x.2.2.2 → up1 (aI 45) (nI (rk (sN S) (led S l e.1))).toNatClampNeg (nI (rk (sN S) e.1)) (rk (sN S) x.1) = nI (rk (sN S) x.2.1) ∧ up1 (aI 46) (nI (rk (sN S) (led S l e.1))).toNatClampNeg (nI l) (rk (sN S) x.1) = nI x.2.2.1)
      rw [ecl, ecl2, (hB e he).1, nI_1]
      rcases List.mem_append.mp hx with hx | hx
      · have hne : rk (sN S) x.1 ≠ rk (sN S) (led S l e.1) := fun z => hv (by rw [← rk_inj (hM.1 _ (mem_kys hx)) hy z]; exact mem_kys hx)
        rw [up1_n _ _ hne, up1_n _ _ hne, up1_n _ _ hne]
        exact hB x hx
      · rw [List.mem_singleton.mp hx]
        rw [up1_s, up1_s, up1_s]
        exact ⟨rfl, fun _ => ⟨rfl, rfl⟩⟩
/-- the head by which row b is where row a was -/
noncomputable def hdx (n a b : Nat) : Nat := Classical.epsilon (fun y => Pm n y ∧ ∀ p, p < n → dg y (dg a p) = dg b p)
theorem hdx_spec {n a b : Nat} (hn : n ≤ 8) (ha : Pm n a) (hb : Pm n b) : Pm n (hdx n a b) ∧ ∀ p, p < n → dg (hdx n a b) (dg a p) = dg b p := Classical.epsilon_spec (head_ex hn ha hb)
/-- the false heads, in any order -/
def isFH (S : Stg) (V : List Nat) : Prop := ∀ x, x ∈ V ↔ ∃ a b, a < (sC S).length ∧ b < (sC S).length ∧ x = hdx (sN S) (plr S a) (plr S b) ∧ dg x 0 = 0
def pX11_layFalseHeads : Spc := fun As g Q => ∃ L iF aI aL S sr, g = Mg L iF aI aL ∧ As = [.ref 32] ∧ RS (aI 33) S ∧ VS S ∧ sr + 1 < 2 ^ 30 ∧ iF 32 17 = nI sr ∧ MI sr (aI 41) ∧
  ∀ V iF' aI', agS aI aI' → (∀ k, k ≠ 32 → iF' k = iF k) → (∀ j, j ≠ 15 → j ≠ 17 → j ≠ 19 → iF' 32 j = iF 32 j) → iF' 32 17 = nI (sr + 1) → iF' 32 19 = nI V.length → MW (sN S) (sr + 1) V (aI' 41) (aI' 42) → isFH S V → Q none (Mg L iF' aI' aL)
set_option maxHeartbeats 4000000 in
theorem oX11_layFalseHeads : Ok 3 yX11_layFalseHeads cX11_layFalseHeads 3 none pX11_layFalseHeads := by
  refine ok_all fun As g Q h => ?_
  obtain ⟨L, iF, aI, aL, S, sr, rfl, rfl, hR, hS, hsr, h17, hMI, hQ⟩ := h
  have hn := hS.1.2
  have hc := hS.2.1.1
  have key : ∀ (a b : Nat) (iF' aI' : Nat → Nat → Int32) (V : List Nat), True → True := fun _ _ _ _ _ _ => trivial
  refine at_of (fun pc => pc == 10 || pc == 20) 80 (fun m pc ls st g' => (∃ a w V iF' aI', pc = 10 ∧ ls = [.ref 32, .int (nI a), w] ∧ st = [] ∧ g' = Mg L iF' aI' aL ∧ m = 100 * (41 - a) ∧ a ≤ (sC S).length ∧ agS aI aI' ∧ (∀ k, k ≠ 32 → iF' k = iF k) ∧ (∀ j, j ≠ 15 → j ≠ 17 → j ≠ 19 → iF' 32 j = iF 32 j) ∧ iF' 32 15 = nI (sC S).length ∧ iF' 32 17 = nI (sr + 1) ∧ iF' 32 19 = nI V.length ∧ MW (sN S) (sr + 1) V (aI' 41) (aI' 42) ∧ (∀ i, i < (sC S).length → aI' 40 i = nI (rk (sN S) (plr S i))) ∧ (∀ x, x ∈ V ↔ ∃ i j, i < a ∧ j < (sC S).length ∧ x = hdx (sN S) (plr S i) (plr S j) ∧ dg x 0 = 0))
      ∨ (∃ a b V iF' aI', pc = 20 ∧ ls = [.ref 32, .int (nI a), .int (nI b)] ∧ st = [] ∧ g' = Mg L iF' aI' aL ∧ m = 100 * (41 - a) - 1 - b ∧ a < (sC S).length ∧ b ≤ (sC S).length ∧ agS aI aI' ∧ (∀ k, k ≠ 32 → iF' k = iF k) ∧ (∀ j, j ≠ 15 → j ≠ 17 → j ≠ 19 → iF' 32 j = iF 32 j) ∧ iF' 32 15 = nI (sC S).length ∧ iF' 32 17 = nI (sr + 1) ∧ iF' 32 19 = nI V.length ∧ MW (sN S) (sr + 1) V (aI' 41) (aI' 42) ∧ (∀ i, i < (sC S).length → aI' 40 i = nI (rk (sN S) (plr S i))) ∧ (∀ x, x ∈ V ↔ ∃ i j, (i < a ∨ (i = a ∧ j < b)) ∧ j < (sC S).length ∧ x = hdx (sN S) (plr S i) (plr S j) ∧ dg x 0 = 0))) (by decide) rfl sX11_layFalseHeads (nl (n := 1) rfl rfl rfl) ?_ ?_
  · refine ⟨L, iF, aI, aL, S, rfl, rfl, hR, hS, fun f r hr => ?_⟩
    refine ⟨4100, Or.inl ⟨0, U_, [], _, _, rfl, rfl, rfl, rfl, rfl, by omega, ((agS.rf.up (by omega)).up (by omega)), ?_, ?_, ?_, ?_, rfl, ?_, hr, ?_⟩⟩
    · intro k hk
      show up1 (up1 (up1 iF 32 _) 32 _) 32 _ k = _
      rw [up1_n _ _ hk, up1_n _ _ hk, up1_n _ _ hk]
    · intro j j1 j2 j3
      show (up1 (up1 (up1 (iF 32) 15 (nI (sC S).length)) 17 (iF 32 17 + 1)) 19 0) j = _
      rw [up1_n _ _ j3, up1_n _ _ j2, up1_n _ _ j1]
    · rfl
    · show iF 32 17 + 1 = _
      rw [h17, nI_1]
    · exact MI.nil hMI
    · intro x
      constructor
      · intro h; cases h
      · rintro ⟨i, j, h1, -⟩; omega
  · rintro m pc ls st g' (⟨a, w, V, iF', aI', rfl, rfl, rfl, rfl, rfl, ha, g1, g2, g3, g4, g5, g6, g7, g8, g9⟩ | ⟨a, b, V, iF', aI', rfl, rfl, rfl, rfl, rfl, ha, hb, g1, g2, g3, g4, g5, g6, g7, g8, g9⟩)
    · refine br_c (fun h => ?_) (fun h => ?_)
      · have h : iF' 32 15 ≤ nI a := h
        rw [g4] at h
        have h : (sC S).length ≤ a := (nI_leI (by omega) (by omega)).mp h
        refine hQ V iF' aI' g1 g2 g3 g5 g6 g7 (fun x => (g9 x).trans ⟨?_, ?_⟩)
        · rintro ⟨i, j, h1, h2, h3⟩; exact ⟨i, j, by omega, h2, h3⟩
        · rintro ⟨i, j, h1, h2, h3⟩; exact ⟨i, j, by omega, h2, h3⟩
      · have h : ¬ iF' 32 15 ≤ nI a := h
        rw [g4] at h
        have h : ¬ (sC S).length ≤ a := fun q => h ((nI_leI (by omega) (by omega)).mpr q)
        refine ⟨100 * (41 - a) - 1, by omega, Or.inr ⟨a, 0, V, iF', aI', rfl, rfl, rfl, rfl, rfl, by omega, by omega, g1, g2, g3, g4, g5, g6, g7, g8, fun x => (g9 x).trans ⟨?_, ?_⟩⟩⟩
        · rintro ⟨i, j, h1, h2, h3⟩; exact ⟨i, j, Or.inl h1, h2, h3⟩
        · rintro ⟨i, j, h1, h2, h3⟩; exact ⟨i, j, by omega, h2, h3⟩
    · refine br_c (fun h => ?_) (fun h => ?_)
      · have h : iF' 32 15 ≤ nI b := h
        rw [g4] at h
        have h : (sC S).length ≤ b := (nI_leI (by omega) (by omega)).mp h
        refine ⟨100 * (41 - (a + 1)), by omega, Or.inl ⟨a + 1, .int (nI b), V, iF', aI', rfl, ?_, rfl, rfl, rfl, by omega, g1, g2, g3, g4, g5, g6, g7, g8, fun x => (g9 x).trans ⟨?_, ?_⟩⟩⟩
        · show [Value.ref 32, .int (nI a + 1), .int (nI b)] = _
          rw [nI_1]
        · rintro ⟨i, j, h1, h2, h3⟩; exact ⟨i, j, by omega, h2, h3⟩
        · rintro ⟨i, j, h1, h2, h3⟩; exact ⟨i, j, by omega, h2, h3⟩
      · have h : ¬ iF' 32 15 ≤ nI b := h
        rw [g4] at h
        have h : ¬ (sC S).length ≤ b := fun q => h ((nI_leI (by omega) (by omega)).mpr q)
        obtain ⟨y1, y2⟩ := hdx_spec hn (plr_Pm hS a) (plr_Pm hS b)
        have hN : aI' 33 0 = nI (sN S) := by rw [g1 33 (by omega)]; exact hR.1
        refine ⟨L, iF', aI', aL, sN S, plr S a, plr S b, a, b, hdx (sN S) (plr S a) (plr S b), rfl, rfl, hS.1.1, hn, hN, by omega, by omega, g8 a (by omega), g8 b (by omega), plr_Pm hS a, plr_Pm hS b, y1, y2, fun f u o w hf => ?_⟩
        refine And.intro (vp_in_nI (n := 1) (N := 9) (by omega) (by omega)) ?_
        have gs : agS aI (scr aI' f u o w) := fun k hk => by rw [scr_n ⟨by omega, by omega, by omega, by omega⟩]; exact g1 k hk
        have e1 : f 1 = nI (dg (hdx (sN S) (plr S a) (plr S b)) 0 + 1) := hf 0 (by have := hS.1.1; omega)
        have d0 := dg_lt (hdx (sN S) (plr S a) (plr S b)) 0
        have nxt : ∀ iF2 aI2 V2, agS aI aI2 → (∀ k, k ≠ 32 → iF2 k = iF k) → (∀ j, j ≠ 15 → j ≠ 17 → j ≠ 19 → iF2 32 j = iF 32 j) → iF2 32 15 = nI (sC S).length → iF2 32 17 = nI (sr + 1) → iF2 32 19 = nI V2.length → MW (sN S) (sr + 1) V2 (aI2 41) (aI2 42) → (∀ i, i < (sC S).length → aI2 40 i = nI (rk (sN S) (plr S i))) → (∀ x, x ∈ V2 ↔ (x ∈ V ∨ (x = hdx (sN S) (plr S a) (plr S b) ∧ dg x 0 = 0))) → ∃ n', n' < 100 * (41 - a) - 1 - b ∧ ((∃ a' w V iF' aI', 20 = 10 ∧ [Value.ref 32, .int (nI a), .int (nI b + 1)] = [.ref 32, .int (nI a'), w] ∧ ([] : List Value) = [] ∧ Mg L iF2 aI2 aL = Mg L iF' aI' aL ∧ n' = 100 * (41 - a') ∧ a' ≤ (sC S).length ∧ agS aI aI' ∧ (∀ k, k ≠ 32 → iF' k = iF k) ∧ (∀ j, j ≠ 15 → j ≠ 17 → j ≠ 19 → iF' 32 j = iF 32 j) ∧ iF' 32 15 = nI (sC S).length ∧ iF' 32 17 = nI (sr + 1) ∧ iF' 32 19 = nI V.length ∧ MW (sN S) (sr + 1) V (aI' 41) (aI' 42) ∧ (∀ i, i < (sC S).length → aI' 40 i = nI (rk (sN S) (plr S i))) ∧ (∀ x, x ∈ V ↔ ∃ i j, i < a' ∧ j < (sC S).length ∧ x = hdx (sN S) (plr S i) (plr S j) ∧ dg x 0 = 0))
      ∨ (∃ a' b' V iF' aI', 20 = 20 ∧ [Value.ref 32, .int (nI a), .int (nI b + 1)] = [.ref 32, .int (nI a'), .int (nI b')] ∧ ([] : List Value) = [] ∧ Mg L iF2 aI2 aL = Mg L iF' aI' aL ∧ n' = 100 * (41 - a') - 1 - b' ∧ a' < (sC S).length ∧ b' ≤ (sC S).length ∧ agS aI aI' ∧ (∀ k, k ≠ 32 → iF' k = iF k) ∧ (∀ j, j ≠ 15 → j ≠ 17 → j ≠ 19 → iF' 32 j = iF 32 j) ∧ iF' 32 15 = nI (sC S).length ∧ iF' 32 17 = nI (sr + 1) ∧ iF' 32 19 = nI V.length ∧ MW (sN S) (sr + 1) V (aI' 41) (aI' 42) ∧ (∀ i, i < (sC S).length → aI' 40 i = nI (rk (sN S) (plr S i))) ∧ (∀ x, x ∈ V ↔ ∃ i j, (i < a' ∨ (i = a' ∧ j < b')) ∧ j < (sC S).length ∧ x = hdx (sN S) (plr S i) (plr S j) ∧ dg x 0 = 0))) := by
          intro iF2 aI2 V2 k1 k2 k3 k4 k5 k6 k7 k8 k9
          refine ⟨100 * (41 - a) - 1 - (b + 1), by omega, Or.inr ⟨a, b + 1, V2, iF2, aI2, rfl, by rw [nI_1], rfl, rfl, rfl, by omega, by omega, k1, k2, k3, k4, k5, k6, k7, k8, fun x => (k9 x).trans ⟨?_, ?_⟩⟩⟩
          · rintro (hx | ⟨hx, h0⟩)
            · obtain ⟨i, j, h1, h2, h3⟩ := (g9 x).mp hx
              exact ⟨i, j, by omega, h2, h3⟩
            · exact ⟨a, b, Or.inr ⟨rfl, by omega⟩, by omega, hx, h0⟩
          · rintro ⟨i, j, h1, h2, h3, h4⟩
            by_cases hij : i = a ∧ j = b
            · obtain ⟨rfl, rfl⟩ := hij
              exact Or.inr ⟨h3, h4⟩
            · exact Or.inl ((g9 x).mpr ⟨i, j, by omega, h2, h3, h4⟩)
        refine And.intro (fun h1 => ?_) (fun h1 => ?_)
        · have h1 : ¬ f 1 = 1 := h1
          rw [e1] at h1
          have h1 : dg (hdx (sN S) (plr S a) (plr S b)) 0 ≠ 0 := fun z => h1 (by rw [z]; rfl)
          refine nxt iF' (scr aI' f u o w) V gs g2 g3 g4 g5 g6 ?_ ?_ (fun x => ⟨Or.inl, ?_⟩)
          · rw [scr_n (by decide), scr_n (by decide)]; exact g7
          · intro i hi; rw [scr_n (by decide)]; exact g8 i hi
          · rintro (hx | ⟨rfl, h0⟩)
            · exact hx
            · exact absurd h0 h1
        · have h1 : f 1 = 1 := h1
          rw [e1] at h1
          have h1 : dg (hdx (sN S) (plr S a) (plr S b)) 0 + 1 = 1 := (nI_eq (b := 1) (by omega) (by omega)).mp h1
          have hN2 : scr aI' f u o w 33 0 = nI (sN S) := by rw [scr_n (by decide)]; exact hN
          have g72 : MW (sN S) (sr + 1) V (scr aI' f u o w 41) (scr aI' f u o w 42) := by rw [scr_n (by decide), scr_n (by decide)]; exact g7
          have g82 : ∀ i, i < (sC S).length → scr aI' f u o w 40 i = nI (rk (sN S) (plr S i)) := fun i hi => by rw [scr_n (by decide)]; exact g8 i hi
          refine ⟨L, iF', _, aL, sN S, hdx (sN S) (plr S a) (plr S b), rfl, rfl, hn, hN2, hf, ?_⟩
          refine ⟨L, iF', _, aL, sN S, sr + 1, V, hdx (sN S) (plr S a) (plr S b), rfl, rfl, hn, hsr, y1, g5, g6, g72, fun hv => ?_, fun hv => ?_⟩
          · refine nxt iF' (scr aI' f u o w) V gs g2 g3 g4 g5 g6 g72 g82 (fun x => ⟨Or.inl, ?_⟩)
            rintro (hx | ⟨rfl, h0⟩)
            · exact hx
            · exact hv
          · obtain ⟨hM2, hlt⟩ := g72.add hn y1 hv
            refine nxt _ _ (V ++ [hdx (sN S) (plr S a) (plr S b)]) ((gs.up (by omega)).up (by omega)) (fun k hk => ?_) (fun j j1 j2 j3 => ?_) ?_ ?_ ?_ hM2 g82 (fun x => ?_)
            · show up1 iF' 32 _ k = _
              rw [up1_n _ _ hk]; exact g2 k hk
            · show up1 iF' 32 (up1 (iF' 32) 19 _) 32 j = _
              rw [up1_s, up1_n _ _ j3]; exact g3 j j1 j2 j3
            · show up1 iF' 32 (up1 (iF' 32) 19 _) 32 15 = _
              rw [up1_s, up1_n _ _ (by decide)]; exact g4
            · show up1 iF' 32 (up1 (iF' 32) 19 _) 32 17 = _
              rw [up1_s, up1_n _ _ (by decide)]; exact g5
            · show up1 iF' 32 (up1 (iF' 32) 19 (nI (V.length + 1))) 32 19 = _
              rw [up1_s, up1_s, List.length_append]
              rfl
            · rw [List.mem_append, List.mem_singleton]
              constructor
              · rintro (hx | rfl)
                · exact Or.inl hx
                · exact Or.inr ⟨rfl, by omega⟩
              · rintro (hx | ⟨rfl, -⟩)
                · exact Or.inl hx
                · exact Or.inr rfl

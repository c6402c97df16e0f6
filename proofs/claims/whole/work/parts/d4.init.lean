/-! the class's constructor -/
theorem all49 {P : Nat → Prop} (h : P 0 ∧ P 1 ∧ P 2 ∧ P 3 ∧ P 4 ∧ P 5 ∧ P 6 ∧ P 7 ∧ P 8 ∧ P 9 ∧ P 10 ∧ P 11 ∧ P 12 ∧ P 13 ∧ P 14 ∧ P 15 ∧ P 16 ∧ P 17 ∧ P 18 ∧ P 19 ∧ P 20 ∧ P 21 ∧ P 22 ∧ P 23 ∧ P 24 ∧ P 25 ∧ P 26 ∧ P 27 ∧ P 28 ∧ P 29 ∧ P 30 ∧ P 31 ∧ P 32 ∧ P 33 ∧ P 34 ∧ P 35 ∧ P 36 ∧ P 37 ∧ P 38 ∧ P 39 ∧ P 40 ∧ P 41 ∧ P 42 ∧ P 43 ∧ P 44 ∧ P 45 ∧ P 46 ∧ P 47 ∧ P 48) : ∀ k, k < 49 → P k := by
  obtain ⟨h0, h1, h2, h3, h4, h5, h6, h7, h8, h9, h10, h11, h12, h13, h14, h15, h16, h17, h18, h19, h20, h21, h22, h23, h24, h25, h26, h27, h28, h29, h30, h31, h32, h33, h34, h35, h36, h37, h38, h39, h40, h41, h42, h43, h44, h45, h46, h47, h48⟩ := h
  intro k hk
  match k, hk with
  | 0, _ => exact h0
  | 1, _ => exact h1
  | 2, _ => exact h2
  | 3, _ => exact h3
  | 4, _ => exact h4
  | 5, _ => exact h5
  | 6, _ => exact h6
  | 7, _ => exact h7
  | 8, _ => exact h8
  | 9, _ => exact h9
  | 10, _ => exact h10
  | 11, _ => exact h11
  | 12, _ => exact h12
  | 13, _ => exact h13
  | 14, _ => exact h14
  | 15, _ => exact h15
  | 16, _ => exact h16
  | 17, _ => exact h17
  | 18, _ => exact h18
  | 19, _ => exact h19
  | 20, _ => exact h20
  | 21, _ => exact h21
  | 22, _ => exact h22
  | 23, _ => exact h23
  | 24, _ => exact h24
  | 25, _ => exact h25
  | 26, _ => exact h26
  | 27, _ => exact h27
  | 28, _ => exact h28
  | 29, _ => exact h29
  | 30, _ => exact h30
  | 31, _ => exact h31
  | 32, _ => exact h32
  | 33, _ => exact h33
  | 34, _ => exact h34
  | 35, _ => exact h35
  | 36, _ => exact h36
  | 37, _ => exact h37
  | 38, _ => exact h38
  | 39, _ => exact h39
  | 40, _ => exact h40
  | 41, _ => exact h41
  | 42, _ => exact h42
  | 43, _ => exact h43
  | 44, _ => exact h44
  | 45, _ => exact h45
  | 46, _ => exact h46
  | 47, _ => exact h47
  | 48, _ => exact h48
  | n + 49, hk => exact absurd hk (by omega)
def gE : Sto := (fun _ => none, fun _ _ => 0, fun _ _ => 0, fun _ _ => 0)
def W0 : WS := (bgS 6, [], none, none)
def pX10_init : Spc := fun As g Q => As = [.ref 0] ∧ g = g_new gE 9 0 [.null, .null, .null, .int 0, .null, .null, .null, .null, .null, .null, .null] ∧ ∀ iF' aI' aL', CIv W0 1 (false, fun _ => 1) iF' aI' aL' → Q none (Cg (false, fun _ => 1) iF' aI' aL')
set_option maxRecDepth 100000 in
set_option maxHeartbeats 4000000 in
theorem oX10_init : Ok 4 yX10_init cX10_init 1 none pX10_init := by
  refine ok_all fun As g Q h => ?_
  obtain ⟨rfl, rfl, hQ⟩ := h
  refine at0 200 (by decide) rfl sX10_init (nl (n := 1) rfl rfl rfl) ?_
  refine And.intro ⟨(by decide +kernel), (by decide +kernel)⟩ ?_
  refine And.intro ⟨(by decide), (by decide +kernel), (by decide +kernel), (by decide +kernel)⟩ ?_
  refine And.intro ⟨(by decide), (by decide +kernel), (by decide +kernel), (by decide +kernel)⟩ ?_
  refine And.intro ⟨(by decide +kernel), (by decide +kernel)⟩ ?_
  refine And.intro ⟨(by decide), (by decide +kernel), (by decide +kernel), (by decide +kernel)⟩ ?_
  refine And.intro ⟨(by decide), (by decide +kernel), (by decide +kernel), (by decide +kernel)⟩ ?_
  refine And.intro ⟨(by decide +kernel), (by decide +kernel)⟩ ?_
  refine And.intro ⟨(by decide), (by decide +kernel), (by decide +kernel), (by decide +kernel)⟩ ?_
  refine And.intro ⟨(by decide), (by decide +kernel), (by decide +kernel), (by decide +kernel)⟩ ?_
  refine And.intro ⟨(by decide +kernel), (by decide +kernel)⟩ ?_
  refine And.intro ⟨(by decide), (by decide +kernel), (by decide +kernel), (by decide +kernel)⟩ ?_
  refine And.intro ⟨(by decide +kernel), (by decide +kernel)⟩ ?_
  refine And.intro (Or.inl rfl) ?_
  refine And.intro ⟨(by decide), (by decide +kernel), (by decide +kernel), (by decide +kernel)⟩ ?_
  refine And.intro ⟨(by decide +kernel), (by decide +kernel)⟩ ?_
  refine And.intro ⟨(by decide), (by decide +kernel), (by decide +kernel), (by decide +kernel)⟩ ?_
  refine And.intro ⟨(by decide +kernel), (by decide +kernel)⟩ ?_
  refine And.intro ⟨(by decide), (by decide +kernel), (by decide +kernel), (by decide +kernel)⟩ ?_
  refine And.intro ⟨(by decide +kernel), (by decide +kernel)⟩ ?_
  refine And.intro ⟨(by decide), (by decide +kernel), (by decide +kernel), (by decide +kernel)⟩ ?_
  refine And.intro ⟨(by decide +kernel), (by decide +kernel)⟩ ?_
  refine And.intro ⟨(by decide), (by decide +kernel), (by decide +kernel), (by decide +kernel)⟩ ?_
  refine And.intro ⟨(by decide), (by decide +kernel), (by decide +kernel), (by decide +kernel)⟩ ?_
  refine And.intro (Or.inl rfl) ?_
  refine And.intro ⟨(by decide +kernel), (by decide +kernel)⟩ ?_
  refine And.intro ⟨(by decide +kernel), (by decide +kernel)⟩ ?_
  refine And.intro ⟨(by decide), (by decide +kernel), (by decide +kernel), (by decide +kernel)⟩ ?_
  refine And.intro ⟨(by decide), (by decide +kernel), (by decide +kernel), (by decide +kernel)⟩ ?_
  refine And.intro ⟨(by decide), (by decide +kernel), (by decide +kernel), (by decide +kernel)⟩ ?_
  refine And.intro ⟨(by decide +kernel), (by decide +kernel)⟩ ?_
  refine And.intro ⟨(by decide), (by decide +kernel), (by decide +kernel), (by decide +kernel)⟩ ?_
  refine And.intro ⟨(by decide +kernel), (by decide +kernel)⟩ ?_
  refine And.intro ⟨(by decide), (by decide +kernel), (by decide +kernel), (by decide +kernel)⟩ ?_
  refine And.intro (all49 ⟨rfl, rfl, rfl, rfl, rfl, rfl, rfl, rfl, rfl, rfl, rfl, rfl, rfl, rfl, rfl, rfl, rfl, rfl, rfl, rfl, rfl, rfl, rfl, rfl, rfl, rfl, rfl, rfl, rfl, rfl, rfl, rfl, rfl, rfl, rfl, rfl, rfl, rfl, rfl, rfl, rfl, rfl, rfl, rfl, rfl, rfl, rfl, rfl, rfl⟩) ?_
  refine ⟨(false, fun _ => 1), _, _, _, 6, rfl, rfl, (by omega), (by omega), fun f hf => ?_⟩
  refine ⟨(false, fun _ => 1), _, _, _, bgS 6, rfl, rfl, VS_bg (by omega) (by omega), hf, fun iF' aI' b1 b2 b3 b4 b5 b6 b7 => ?_⟩
  refine hQ iF' aI' _ ?_
  have h10 : iF' 10 1 = nI 0 := (congrFun (b1 10 (by omega) (by omega) (by omega) (by omega)) 1).trans rfl
  have h03 : iF' 0 3 = nI 0 := (congrFun (b1 0 (by omega) (by omega) (by omega) (by omega)) 3).trans rfl
  have h18 : iF' 18 2 = nI 1 := (congrFun (b1 18 (by omega) (by omega) (by omega) (by omega)) 2).trans rfl
  have h24 : iF' 24 2 = nI 1 := (congrFun (b1 24 (by omega) (by omega) (by omega) (by omega)) 2).trans rfl
  have h30 : iF' 30 2 = nI 1 := (congrFun (b1 30 (by omega) (by omega) (by omega) (by omega)) 2).trans rfl
  have hz : ∀ i, i < 2 ^ 0 → (0 : Int64) = nL 0 ∧ (0 : Nat) < 2 ^ 63 ∧ 0 / 2 ^ 32 ≤ 1 := fun i _ => ⟨rfl, by decide, by decide⟩
  refine ⟨⟨hf.of (b1 1 (by omega) (by omega) (by omega) (by omega)) (b2 2 (by omega) (by omega) (by omega)) (b2 3 (by omega) (by omega) (by omega)), h10, fun i hi => absurd hi (Nat.not_lt_zero i), h03, fun S' q => (by cases q), fun S' q => (by cases q), b3, b4⟩, ⟨false, b5, fun q => by cases q⟩, ⟨1, Nat.le_refl _, ⟨?_, Or.inl rfl, ⟨0, rfl, h24, fun _ => 0, fun i hi => hz i hi⟩, ⟨0, by omega, b6, fun q => absurd q (by omega)⟩, fun l hl => Or.inl (b7 l hl)⟩⟩, ⟨0, 1, Nat.le_refl _, rfl, h18, fun _ => 0, fun i hi => hz i hi⟩, ⟨0, 1, Nat.le_refl _, rfl, h30, fun _ => 0, fun i hi => hz i hi⟩⟩
  show (1 ≤ 1 ∧ 1 ≤ 4096) ∧ (1 ≤ 1 ∧ 1 ≤ 65536) ∧ (1 ≤ 1 ∧ 1 ≤ 40320) ∧ 1 ≤ 1 ∧ 1 ≤ 512
  decide

/-! the pad, its letters and faults -/
def kd (s : Nat) : Option Nat := if s = 112 then some 0 else if s = 98 then some 1 else if s = 115 then some 2 else none
def tfP : List Nat → Nat → Option Nat
  | [], _ => none
  | s :: l, i => if kd s = none then some i else tfP l (i + 1)
/-- the fault as a touch -/
def tfl (pd : List Nat) : Int32 := match tfP pd 0 with
  | some i => nI i
  | none => if pd.length = 0 then 0 else -6
def P0 : Prs := (0, [], none)
/-- the fault as a method, or as a change -/
def flt (mt : Bool) (n : Nat) (pd : List Nat) : Int32 := match (rdP mt n pd 0 P0).2 with
  | some P => if cEnd n P.1 = true then -6 else nI pd.length
  | none => nI (rdP mt n pd 0 P0).1
def VP (pd : List Nat) : Prop := pd.length ≤ 40 ∧ ∀ s ∈ pd, s < 1000
def RP (f : Nat → Int32) (pd : List Nat) : Prop := ∀ i, i < pd.length → f i = nI (pd.getD i 0)
theorem drop_get {l : List Nat} {i : Nat} (h : i < l.length) : l.drop i = l.getD i 0 :: l.drop (i + 1) := by
  rw [List.drop_eq_getElem_cons h, List.getD_eq_getElem?_getD, List.getElem?_eq_getElem h]; rfl
theorem rdP_PV {mt : Bool} {n : Nat} (hn : n ≤ 8) (hn4 : 4 ≤ n) : ∀ (l : List Nat) (i : Nat) (P P' : Prs), PV n i P → (rdP mt n l i P).2 = some P' → PV n (i + l.length) P' ∧ (rdP mt n l i P).1 = i + l.length
  | [], i, P, P', h, e => by cases e; exact ⟨h, rfl⟩
  | s :: l, i, P, P', h, e => by
    unfold rdP at e ⊢
    cases hs : stp1 mt n P s with
    | none => rw [hs] at e; cases e
    | some P1 =>
      rw [hs] at e
      have := rdP_PV hn hn4 l (i + 1) P1 P' (h.step hn hn4 hs) e
      rw [show i + (s :: l).length = i + 1 + l.length by rw [List.length_cons]; omega]
      exact this
def qX11_letterOf : Spc := fun As g Q => ∃ s, s < 1000 ∧ As = [.int (nI s)] ∧ Q (some (.int (oI (kd s)))) g
theorem nI_lit {a : Nat} (ha : a < 2 ^ 31) (b : Nat) (hb : b < 2 ^ 31) : nI a = nI b ↔ a = b := nI_eq ha hb
theorem rX11_letterOf : Ok 0 yX11_letterOf cX11_letterOf 1 (some .int) qX11_letterOf := by
  refine ok_weak (fun As g Q h => ?_) oX11_letterOf
  obtain ⟨s, hs, rfl, hQ⟩ := h
  unfold kd at hQ
  refine And.intro (fun h => ?_) (fun h => ?_)
  · have h : ¬ s = 112 := fun q => h (by rw [q]; rfl)
    rw [if_neg h] at hQ
    refine And.intro (fun h => ?_) (fun h => ?_)
    · have h : ¬ s = 98 := fun q => h (by rw [q]; rfl)
      rw [if_neg h] at hQ
      refine And.intro (fun h => ?_) (fun h => ?_)
      · have h : ¬ s = 115 := fun q => h (by rw [q]; rfl)
        rw [if_neg h] at hQ
        exact hQ
      · have h : s = 115 := (nI_eq (b := 115) (by omega) (by omega)).mp h
        rw [if_pos h] at hQ
        exact hQ
    · have h : s = 98 := (nI_eq (b := 98) (by omega) (by omega)).mp h
      rw [if_pos h] at hQ
      exact hQ
  · have h : s = 112 := (nI_eq (b := 112) (by omega) (by omega)).mp h
    rw [if_pos h] at hQ
    exact hQ
def qX11_readSign : Spc := fun As g Q => ∃ L iF aI aL n i P s, g = Mg L iF aI aL ∧ As = [.ref 32, .int (nI s)] ∧ s < 1000 ∧ n ≤ 8 ∧ aI 33 0 = nI n ∧ MP iF aI P ∧ PV n i P ∧ i < 40 ∧ ∀ iF' aI', PF iF aI iF' aI' → (∀ P', stp1 true n P s = some P' → MP iF' aI' P') → Q (some (.int (b01 (stp1 true n P s).isSome))) (Mg L iF' aI' aL)

/-! texts: a reading is (what was read last, the sets, how many sets ahead of the comma). Last: 0 nothing, 1 to 8 a figure, 100 a cross, 101 a point, 102 a comma -/
abbrev Prs : Type := Nat × List Nat × Option Nat
/-- the figure that was read last, or 0 -/
def fgr (c : Nat) : Nat := if c ≤ 8 then c else 0
def cEnd (n c : Nat) : Bool := decide (c = 100) || (decide (1 ≤ c) && (decide (c ≤ 8) && decide ((n - c) % 2 = 0)))
def addB (ms : List Nat) (q : Nat) : List Nat := ms.set (ms.length - 1) (ms.getD (ms.length - 1) 0 + 2 ^ q)
def stpX (mt : Bool) (n : Nat) (P : Prs) : Option Prs := if n % 2 = 0 ∧ (P.1 = 0 ∨ (mt = true ∧ (P.1 = 102 ∨ cEnd n P.1 = true))) then some (100, P.2.1 ++ [0], P.2.2) else none
def stpP (mt : Bool) (n : Nat) (P : Prs) : Option Prs := if mt = true ∧ P.1 ≠ 100 ∧ cEnd n P.1 = true then some (101, P.2.1, P.2.2) else none
def stpC (mt : Bool) (n : Nat) (P : Prs) : Option Prs := if mt = true ∧ P.2.2 = none ∧ cEnd n P.1 = true then some (102, P.2.1, some P.2.1.length) else none
def stpF (mt : Bool) (n : Nat) (P : Prs) (s : Nat) : Option Prs := if 48 + fgr P.1 < s ∧ s ≤ 48 + n ∧ (s - 48 - fgr P.1) % 2 = 1 ∧ ¬ (mt = false ∧ P.1 = 100) then some (s - 48, (if fgr P.1 = 0 then P.2.1 ++ [2 ^ (s - 48)] else addB P.2.1 (s - 48)), P.2.2) else none
def stp1 (mt : Bool) (n : Nat) (P : Prs) (s : Nat) : Option Prs := if s = 120 then stpX mt n P else if s = 46 then stpP mt n P else if s = 44 then stpC mt n P else stpF mt n P s
/-- the reading of a pad; the place of the fault where it stops -/
def rdP (mt : Bool) (n : Nat) : List Nat → Nat → Prs → Nat × Option Prs
  | [], i, P => (i, some P)
  | s :: l, i, P => match stp1 mt n P s with
    | some P' => rdP mt n l (i + 1) P'
    | none => (i, none)
/-- how the places of a set of places above c are free -/
theorem bq_lt {m c q : Nat} (h : m < 2 ^ (c + 1)) (hq : c < q) : bq m q = false := by
  unfold bq
  rw [Nat.div_eq_of_lt (Nat.lt_of_lt_of_le h (Nat.pow_le_pow_right (by decide) hq))]
  rfl
theorem vis_pairs {m c : Nat} (h : m < 2 ^ (c + 1)) (hv : vis m c = true) : ∀ k, vis m (c + 2 * k) = true
  | 0 => hv
  | k + 1 => by
    have ih := vis_pairs h hv k
    rw [show c + 2 * (k + 1) = c + 2 * k + 2 by omega]
    exact vis_go ih (bq_lt h (by omega))
theorem vis_congr {m m' : Nat} : ∀ p, (∀ q, q ≤ p → bq m q = bq m' q) → vis m p = vis m' p ∧ vis m (p - 1) = vis m' (p - 1)
  | 0, _ => ⟨rfl, rfl⟩
  | 1, h => ⟨h 1 (by omega), rfl⟩
  | p + 2, h => by
    obtain ⟨h1, h2⟩ := vis_congr (p + 1) (fun q hq => h q (by omega))
    have h2 : vis m p = vis m' p := h2
    refine ⟨?_, h1⟩
    show ((vis m (p + 1) && bq m (p + 2)) || (vis m p && !bq m (p + 1))) = ((vis m' (p + 1) && bq m' (p + 2)) || (vis m' p && !bq m' (p + 1)))
    rw [h1, h2, h (p + 2) (by omega), h (p + 1) (by omega)]
theorem bq_add {m c p q : Nat} (h : m < 2 ^ (c + 1)) (hcp : c < p) (hq : q < p) : bq (m + 2 ^ p) q = bq m q := by
  unfold bq
  obtain ⟨k, rfl⟩ : ∃ k, p = q + (k + 1) := ⟨p - q - 1, (by omega)⟩
  rw [Nat.pow_add, Nat.mul_comm, Nat.add_mul_div_right _ _ (Nat.pow_pos (by decide)), Nat.pow_succ, Nat.add_mul_mod_self_right]
theorem bq_self {m c p : Nat} (h : m < 2 ^ (c + 1)) (hcp : c < p) : bq (m + 2 ^ p) p = true := by
  unfold bq
  have h2 : m < 2 ^ p := Nat.lt_of_lt_of_le h (Nat.pow_le_pow_right (by decide) hcp)
  have e : (m + 2 ^ p) / 2 ^ p = 1 := by
    rw [Nat.add_div_right _ (Nat.pow_pos (by decide)), Nat.div_eq_of_lt h2]
  rw [e]
  rfl
/-- a set that is being read, its last figure c -/
def OM (c m : Nat) : Prop := m < 2 ^ (c + 1) ∧ m % 2 = 0 ∧ vis m c = true
theorem OM.go {c m p : Nat} (h : OM c m) (hcp : c < p) (hpar : (p - c) % 2 = 1) : OM p (m + 2 ^ p) := by
  have h2 : m < 2 ^ p := Nat.lt_of_lt_of_le h.1 (Nat.pow_le_pow_right (by decide) hcp)
  refine ⟨(by rw [Nat.pow_succ]; omega), ?_, ?_⟩
  · obtain ⟨q, rfl⟩ : ∃ q, p = q + 1 := ⟨p - 1, (by omega)⟩
    have := h.2.1
    rw [Nat.pow_succ]
    omega
  · obtain ⟨k, rfl⟩ : ∃ k, p = c + 2 * k + 1 := ⟨(p - c) / 2, (by omega)⟩
    have h3 := vis_pairs h.1 h.2.2 k
    have h4 := (vis_congr (m := m + 2 ^ (c + 2 * k + 1)) (m' := m) (c + 2 * k) (fun q hq => bq_add h.1 hcp (by omega))).1
    exact vis_stay (h4.trans h3) (bq_self h.1 hcp)
theorem OM.zero : OM 0 0 := ⟨(by decide), rfl, rfl⟩
theorem OM.end {n c m : Nat} (h : OM c m) (hn : n ≤ 8) (hc : c ≤ n) (hpar : (n - c) % 2 = 0) : VM n m := by
  obtain ⟨k, rfl⟩ : ∃ k, n = c + 2 * k := ⟨(n - c) / 2, (by omega)⟩
  refine ⟨Nat.lt_of_lt_of_le h.1 ?_, h.2.1, vis_pairs h.1 h.2.2 k⟩
  have := Nat.pow_le_pow_right (n := 2) (by decide) (show c + 1 ≤ 9 by omega)
  exact this
theorem VM_zero {n : Nat} (hn : n ≤ 8) (h : n % 2 = 0) : VM n 0 := OM.zero.end hn (by omega) (by omega)
/-- what holds of a reading behind i signs -/
def PV (n i : Nat) (P : Prs) : Prop := P.2.1.length ≤ i ∧ (P.1 ≤ n ∨ P.1 = 100 ∨ P.1 = 101 ∨ P.1 = 102) ∧ (P.1 = 0 → P.2.1 = [] ∧ P.2.2 = none) ∧
  (∀ k, P.2.2 = some k → 1 ≤ k ∧ k ≤ P.2.1.length ∧ (P.1 = 102 ↔ k = P.2.1.length)) ∧ (P.2.2 = none → P.1 ≠ 102) ∧ (P.1 ≠ 0 → 1 ≤ P.2.1.length) ∧
  (∀ j, j < P.2.1.length → (1 ≤ P.1 ∧ P.1 ≤ 8 ∧ j + 1 = P.2.1.length → OM P.1 (P.2.1.getD j 0)) ∧ (¬ (1 ≤ P.1 ∧ P.1 ≤ 8 ∧ j + 1 = P.2.1.length) → VM n (P.2.1.getD j 0)))
theorem PV.nil (n : Nat) : PV n 0 (0, [], none) := ⟨Nat.le_refl 0, Or.inl (Nat.zero_le _), fun _ => ⟨rfl, rfl⟩, fun k h => (by cases h), fun _ => (by decide), fun h => absurd rfl h, fun j h => absurd h (Nat.not_lt_zero j)⟩
theorem fgr_eq {c : Nat} (h : c ≤ 8) : fgr c = c := if_pos h
/-- ended: all sets are changes -/
theorem PV.all {n i : Nat} {P : Prs} (hn : n ≤ 8) (h : PV n i P) (he : cEnd n P.1 = true) : ∀ j, j < P.2.1.length → VM n (P.2.1.getD j 0) := by
  intro j hj
  by_cases hc : 1 ≤ P.1 ∧ P.1 ≤ 8 ∧ j + 1 = P.2.1.length
  · have h1 := (h.2.2.2.2.2.2 j hj).1 hc
    refine h1.end hn ?_ ?_
    · rcases h.2.1 with z | z | z | z <;> omega
    · simp only [cEnd, Bool.or_eq_true, Bool.and_eq_true, decide_eq_true_eq] at he
      rcases he with z | z
      · omega
      · exact z.2.2
  · exact (h.2.2.2.2.2.2 j hj).2 hc
theorem getD_setL {l : List Nat} {i j v : Nat} (hi : i < l.length) : (l.set i v).getD j 0 = if j = i then v else l.getD j 0 := by
  rw [List.getD_eq_getElem?_getD, List.getD_eq_getElem?_getD, List.getElem?_set]
  by_cases h : i = j
  · subst h; rw [if_pos rfl, if_pos hi, if_pos rfl]; rfl
  · rw [if_neg h, if_neg (fun e => h e.symm)]
theorem PV.step {mt : Bool} {n i s : Nat} {P P' : Prs} (hn : n ≤ 8) (hn4 : 4 ≤ n) (h : PV n i P) (hs : stp1 mt n P s = some P') : PV n (i + 1) P' := by
  obtain ⟨a1, a2, a3, a4, a5, a6, a7⟩ := h
  have all : cEnd n P.1 = true → ∀ j, j < P.2.1.length → VM n (P.2.1.getD j 0) := PV.all (i := i) hn ⟨a1, a2, a3, a4, a5, a6, a7⟩
  have allc : P.1 = 0 ∨ P.1 = 102 ∨ P.1 = 101 ∨ cEnd n P.1 = true → ∀ j, j < P.2.1.length → VM n (P.2.1.getD j 0) := by
    rintro (z | z | z | z)
    · intro j hj; rw [(a3 z).1] at hj; exact absurd hj (Nat.not_lt_zero j)
    · intro j hj; exact (a7 j hj).2 (fun q => by omega)
    · intro j hj; exact (a7 j hj).2 (fun q => by omega)
    · exact all z
  have e102 : cEnd n 102 = false := by simp [cEnd]
  have hc0 : cEnd n P.1 = true → P.1 ≠ 0 ∧ P.1 ≠ 102 ∧ P.1 ≠ 101 := fun q => by
    simp only [cEnd, Bool.or_eq_true, Bool.and_eq_true, decide_eq_true_eq] at q
    omega
  unfold stp1 at hs
  split at hs
  · unfold stpX at hs
    split at hs
    · rename_i hc
      cases hs
      have hall := allc (by rcases hc.2 with z | ⟨-, z | z⟩ <;> simp_all)
      refine ⟨(by rw [List.length_append]; simp; omega), Or.inr (Or.inl rfl), fun z => (by cases z), fun k hk => ?_, fun _ => (by show (100 : Nat) ≠ 102; decide), fun _ => (by rw [List.length_append]; simp), fun j hj => ⟨fun q => (by omega), fun _ => ?_⟩⟩
      · obtain ⟨b1, b2, b3⟩ := a4 k hk
        rw [List.length_append]
        exact ⟨b1, (by simp; omega), ⟨fun z => (by cases z), fun z => (by simp at z; omega)⟩⟩
      · rw [List.length_append] at hj
        by_cases e : j < P.2.1.length
        · show VM n ((P.2.1 ++ [0]).getD j 0)
          rw [getD_app e]; exact hall j e
        · have e2 : j = P.2.1.length := by simp at hj; omega
          show VM n ((P.2.1 ++ [0]).getD j 0)
          rw [e2, getD_last]
          exact VM_zero hn hc.1
    · cases hs
  · split at hs
    · unfold stpP at hs
      split at hs
      · rename_i hc
        cases hs
        have hz := hc0 hc.2.2
        refine ⟨(by show P.2.1.length ≤ _; omega), Or.inr (Or.inr (Or.inl rfl)), fun z => (by cases z), fun k hk => ?_, fun _ => (by show (101 : Nat) ≠ 102; decide), fun _ => a6 hz.1, fun j hj => ⟨fun q => (by omega), fun _ => all hc.2.2 j hj⟩⟩
        obtain ⟨b1, b2, b3⟩ := a4 k hk
        exact ⟨b1, b2, ⟨fun z => (by cases z), fun z => absurd (b3.mpr z) hz.2.1⟩⟩
      · cases hs
    · split at hs
      · unfold stpC at hs
        split at hs
        · rename_i hc
          cases hs
          have hz := hc0 hc.2.2
          refine ⟨(by show P.2.1.length ≤ _; omega), Or.inr (Or.inr (Or.inr rfl)), fun z => (by cases z), fun k hk => ?_, fun z => (by cases z), fun _ => a6 hz.1, fun j hj => ⟨fun q => (by omega), fun _ => all hc.2.2 j hj⟩⟩
          cases hk
          exact ⟨a6 hz.1, Nat.le_refl _, ⟨fun _ => rfl, fun _ => rfl⟩⟩
        · cases hs
      · unfold stpF at hs
        split at hs
        · rename_i hc
          cases hs
          obtain ⟨c1, c2, c3, c4⟩ := hc
          by_cases hf : fgr P.1 = 0
          · rw [if_pos hf]
            have hall : ∀ j, j < P.2.1.length → VM n (P.2.1.getD j 0) := by
              intro j hj
              refine (a7 j hj).2 (fun q => ?_)
              rw [fgr_eq q.2.1] at hf
              omega
            refine ⟨(by rw [List.length_append]; simp; omega), Or.inl (by show s - 48 ≤ n; omega), fun z => (by have : s - 48 = 0 := z; omega), fun k hk => ?_, fun _ => (by show s - 48 ≠ 102; omega), fun _ => (by rw [List.length_append]; simp), fun j hj => ?_⟩
            · obtain ⟨b1, b2, b3⟩ := a4 k hk
              rw [List.length_append]
              refine ⟨b1, (by simp; omega), ⟨fun z => (by have : s - 48 = 102 := z; omega), fun z => (by simp at z; omega)⟩⟩
            · rw [List.length_append] at hj
              by_cases e : j < P.2.1.length
              · refine ⟨fun q => (by have := q.2.2; rw [List.length_append] at this; simp at this; omega), fun _ => ?_⟩
                show VM n ((P.2.1 ++ [2 ^ (s - 48)]).getD j 0)
                rw [getD_app e]; exact hall j e
              · have e2 : j = P.2.1.length := by simp at hj; omega
                refine ⟨fun _ => ?_, fun q => absurd ⟨(by show 1 ≤ s - 48; omega), (by show s - 48 ≤ 8; omega), (by rw [List.length_append, e2]; rfl)⟩ q⟩
                show OM (s - 48) ((P.2.1 ++ [2 ^ (s - 48)]).getD j 0)
                rw [e2, getD_last]
                have := OM.zero.go (p := s - 48) (by omega) (by rw [hf] at c3; exact c3)
                rw [Nat.zero_add] at this
                exact this
          · have hP8 : P.1 ≤ 8 := by
              unfold fgr at hf
              split at hf
              · assumption
              · exact absurd rfl hf
            rw [if_neg hf]
            rw [fgr_eq hP8] at hf c1 c3
            have hl1 := a6 (by omega)
            have hlen : (addB P.2.1 (s - 48)).length = P.2.1.length := by unfold addB; rw [List.length_set]
            refine ⟨(by show (addB P.2.1 (s - 48)).length ≤ _; rw [hlen]; omega), Or.inl (by show s - 48 ≤ n; omega), fun z => (by have : s - 48 = 0 := z; omega), fun k hk => ?_, fun _ => (by show s - 48 ≠ 102; omega), fun _ => (by show 1 ≤ (addB P.2.1 (s - 48)).length; rw [hlen]; omega), fun j hj => ?_⟩
            · obtain ⟨b1, b2, b3⟩ := a4 k hk
              show 1 ≤ k ∧ k ≤ (addB P.2.1 (s - 48)).length ∧ (s - 48 = 102 ↔ k = (addB P.2.1 (s - 48)).length)
              rw [hlen]
              exact ⟨b1, b2, ⟨fun z => (by omega), fun z => absurd (b3.mpr z) (by omega)⟩⟩
            · have hj : j < (addB P.2.1 (s - 48)).length := hj
              rw [hlen] at hj
              show (1 ≤ s - 48 ∧ s - 48 ≤ 8 ∧ j + 1 = (addB P.2.1 (s - 48)).length → OM (s - 48) ((addB P.2.1 (s - 48)).getD j 0)) ∧ (¬ (1 ≤ s - 48 ∧ s - 48 ≤ 8 ∧ j + 1 = (addB P.2.1 (s - 48)).length) → VM n ((addB P.2.1 (s - 48)).getD j 0))
              rw [hlen]
              unfold addB
              rw [getD_setL (by omega)]
              by_cases e : j = P.2.1.length - 1
              · rw [if_pos e]
                refine ⟨fun _ => ?_, fun q => absurd ⟨(by omega), (by omega), (by omega)⟩ q⟩
                have h1 := (a7 (P.2.1.length - 1) (by omega)).1 ⟨(by omega), hP8, (by omega)⟩
                exact h1.go (by omega) (by rw [← c3])
              · rw [if_neg e]
                exact ⟨fun q => (by omega), fun _ => (a7 j hj).2 (fun q => by omega)⟩
        · cases hs

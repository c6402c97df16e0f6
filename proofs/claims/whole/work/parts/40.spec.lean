/-! what is told: the setting, its leads and rows, as plain mathematics -/
theorem ok_weak {d : Nat} {y : MethodName} {cc : ByteArray} {nL : Nat} {ret : Option FieldType} {sp sp' : Spc} (h : ∀ As g Q, sp' As g Q → sp As g Q) (o : Ok d y cc nL ret sp) : Ok d y cc nL ret sp' := fun l D cy bs ad As g Q hs => o l D cy bs ad As g Q (h As g Q hs)
/-- bells, changes of the method, bob, single, letters of the touch -/
abbrev Stg : Type := Nat × List Nat × Nat × Nat × List Nat
abbrev sN (S : Stg) : Nat := S.1
abbrev sC (S : Stg) : List Nat := S.2.1
abbrev sB (S : Stg) : Nat := S.2.2.1
abbrev sS (S : Stg) : Nat := S.2.2.2.1
abbrev sL (S : Stg) : List Nat := S.2.2.2.2
/-- a change of n bells -/
def VM (n m : Nat) : Prop := m < 512 ∧ m % 2 = 0 ∧ vis m n = true
def VS (S : Stg) : Prop := (4 ≤ sN S ∧ sN S ≤ 8) ∧ ((sC S).length ≤ 40 ∧ ∀ m ∈ sC S, VM (sN S) m) ∧ VM (sN S) (sB S) ∧ VM (sN S) (sS S) ∧ (sL S).length ≤ 40 ∧ ∀ l ∈ sL S, l ≤ 2
/-- the setting in one array -/
def RS (f : Nat → Int32) (S : Stg) : Prop := f 0 = nI (sN S) ∧ f 1 = nI (sC S).length ∧ (∀ i, i < (sC S).length → f (2 + i) = nI ((sC S).getD i 0)) ∧ f 42 = nI (sB S) ∧ f 43 = nI (sS S) ∧ f 44 = nI (sL S).length ∧ ∀ i, i < (sL S).length → f (45 + i) = nI ((sL S).getD i 0)
/-- the k-th change of a lead of a letter -/
def chOf (S : Stg) (l k : Nat) : Nat := if 0 < l ∧ k + 1 = (sC S).length then (if l = 1 then sB S else sS S) else (sC S).getD k 0
def rgTo (S : Stg) (l x : Nat) : Nat → Nat
  | 0 => x
  | k + 1 => chg (sN S) (chOf S l k) (rgTo S l x k)
/-- the row at the end of a lead -/
def led (S : Stg) (l x : Nat) : Nat := rgTo S l x (sC S).length
/-- the rows of the touch -/
def trw (S : Stg) : Nat → Nat
  | 0 => rds (sN S)
  | i + 1 => chg (sN S) (chOf S ((sL S).getD (i / (sC S).length) 0) (i % (sC S).length)) (trw S i)
def tln (S : Stg) : Nat := (sL S).length * (sC S).length
theorem getD_mem {l : List Nat} {i : Nat} (h : i < l.length) : l.getD i 0 ∈ l := by
  rw [List.getD_eq_getElem?_getD, List.getElem?_eq_getElem h]
  exact List.getElem_mem h
theorem chOf_VM {S : Stg} (h : VS S) {l k : Nat} (hk : k < (sC S).length) : VM (sN S) (chOf S l k) := by
  unfold chOf
  split
  · split
    · exact h.2.2.1
    · exact h.2.2.2.1
  · exact h.2.1.2 _ (getD_mem hk)
theorem rgTo_Pm {S : Stg} {l x : Nat} (hx : Pm (sN S) x) : ∀ k, Pm (sN S) (rgTo S l x k)
  | 0 => hx
  | k + 1 => Pm_chg (rgTo_Pm hx k)
theorem trw_Pm {S : Stg} (h : VS S) : ∀ i, Pm (sN S) (trw S i)
  | 0 => Pm_rds h.1.2
  | i + 1 => Pm_chg (trw_Pm h i)
theorem Pm.lt24 {n x : Nat} (h : Pm n x) (hn : n ≤ 8) : x < 2 ^ 24 := Nat.lt_of_lt_of_le h.1 (p824 hn)
/-! the reference's k-th change of a lead -/
def qX11_changeOf : Spc := fun As g Q => ∃ L iF aI aL S l k, g = Mg L iF aI aL ∧ As = [.ref 32, .int (nI l), .int (nI k)] ∧ RS (aI 33) S ∧ VS S ∧ l ≤ 2 ∧ k < (sC S).length ∧ Q (some (.int (nI (chOf S l k)))) g
theorem rX11_changeOf : Ok 0 yX11_changeOf cX11_changeOf 3 (some .int) qX11_changeOf := by
  refine ok_weak (fun As g Q h => ?_) oX11_changeOf
  obtain ⟨L, iF, aI, aL, S, l, k, rfl, rfl, hR, hS, hl, hk, hQ⟩ := h
  have hc := hS.2.1.1
  have h2 : chOf S l k = (sC S).getD k 0 → vp_in (2 + nI k) 85 ∧ Q (some (.int (aI 33 (2 + nI k).toNatClampNeg))) (Mg L iF aI aL) := by
    intro e
    rw [e] at hQ
    rw [show (2 : Int32) = nI 2 from rfl, nI_add]
    refine ⟨vp_in_nI (by omega) (by omega), ?_⟩
    rw [cl1 (by omega), hR.2.2.1 k hk]
    exact hQ
  refine br_c (fun h => ?_) (fun h => ?_)
  · have h : l ≤ 0 := (nI_leI (b := 0) (by omega) (by omega)).mp h
    exact h2 (if_neg (fun z => by omega))
  · have h : ¬ l ≤ 0 := fun q => h ((nI_leI (b := 0) (by omega) (by omega)).mpr q)
    refine And.intro (vp_in_nI (n := 1) (N := 85) (by omega) (by omega)) ?_
    have e1 : aI 33 1 - 1 = nI ((sC S).length - 1) := by rw [hR.2.1, show (1 : Int32) = nI 1 from rfl, nx_sub (by omega)]
    refine And.intro (fun hc => ?_) (fun hc => ?_)
    · have hc : ¬ nI k = aI 33 1 - 1 := hc
      rw [e1] at hc
      exact h2 (if_neg (fun z => hc (by rw [← z.2]; rfl)))
    · have hc : nI k = aI 33 1 - 1 := hc
      rw [e1] at hc
      have hk1 : k = (sC S).length - 1 := (nI_eq (by omega) (by omega)).mp hc
      have e2 : chOf S l k = if l = 1 then sB S else sS S := if_pos ⟨by omega, by omega⟩
      rw [e2] at hQ
      rcases (show l = 1 ∨ l = 2 by omega) with e | e
      · subst e
        rw [if_pos rfl, ← hR.2.2.2.1] at hQ
        exact And.intro (vp_in_nI (n := 42) (N := 85) (by omega) (by omega)) hQ
      · subst e
        rw [if_neg (by omega), ← hR.2.2.2.2.1] at hQ
        exact And.intro (vp_in_nI (n := 43) (N := 85) (by omega) (by omega)) hQ

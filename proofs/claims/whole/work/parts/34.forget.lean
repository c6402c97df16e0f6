/-- a local is forgotten ahead of a step -/
def s_frg (i : Nat) (f : Stq) : Stq := fun ls st g K Q => f (ls.set i U_) st g K Q
theorem snd_frg {d : Nat} {own : String} {cc : ByteArray} {nL : Nat} {ret : Option FieldType} {ini : Inq} {pc i : Nat} {f : Stq} (h : Snd d own cc nL ret ini pc f) : Snd d own cc nL ret ini pc (s_frg i f) := by
  intro p l e s m args below meth c Q D cy bs g0 ad0 C hi ls st g K Qr hf hK hQ ad H locs k n lsA P
  refine h p l e s m args below meth c Q D cy bs g0 ad0 C hi (ls.set i U_) st g K Qr hf hK hQ ad H locs k n lsA (P.ls ?_)
  obtain ⟨h1, h2, h3, h4⟩ := P.2.2.2.1
  refine ⟨by rw [List.length_set]; exact h1, h2, h3, fun j v hj hv => ?_⟩
  by_cases hji : i = j
  · subst hji
    have hlt : i < ls.length := by
      have := (List.getElem?_eq_some_iff.mp hj).1
      rwa [List.length_set] at this
    rw [List.getElem?_set_self hlt] at hj
    cases hj
    cases hv
  · rw [List.getElem?_set_ne hji] at hj
    exact h4 j v hj hv
/-! the reference's store -/
abbrev Mg (L : Nat → Nat) (iF aI : Nat → Nat → Int32) (aL : Nat → Nat → Int64) : Sto := (SH (true, L), iF, aI, aL)
/-- the row x in the reference's array: bell at place p + 1 -/
def MR (n x : Nat) (f : Nat → Int32) : Prop := ∀ p, p < n → f (p + 1) = nI (dg x p + 1)
theorem up1_up1 {α : Type} (f : Nat → α) (k : Nat) (a b : α) : up1 (up1 f k a) k b = up1 f k b := by
  funext j
  unfold up1
  split <;> rfl
theorem cl1 {n : Nat} (h : n < 2 ^ 31) : (nI n).toNatClampNeg = n := nI_clamp h

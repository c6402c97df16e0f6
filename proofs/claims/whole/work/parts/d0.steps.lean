/-! makings where the whole shape is known: the checks are computed -/
def chN (f : Nat → Option Shp) (nm : Nat) : Bool := (f nm).isNone && (List.range 49).all (fun j => match f j with
  | some s => nrf nm s
  | none => true)
def ftN (f : Nat → Option Shp) : Bool := decide (cU f ≤ 60000) && decide (sU f ≤ 730225)
theorem chN_spec {f : Nat → Option Shp} {nm : Nat} (h : chN f nm = true) (h4 : ∀ k, 49 ≤ k → f k = none) : f nm = none ∧ ∀ j s, f j = some s → nrf nm s = true := by
  unfold chN at h
  rw [Bool.and_eq_true] at h
  refine ⟨Option.isNone_iff_eq_none.mp h.1, fun j s hj => ?_⟩
  have hl : j < 49 := by
    rcases Nat.lt_or_ge j 49 with q | q
    · exact q
    · rw [h4 j q] at hj; cases hj
  have := List.all_eq_true.mp h.2 j (List.mem_range.mpr hl)
  rw [hj] at this
  exact this
theorem ftN_spec {f : Nat → Option Shp} (h : ftN f = true) : Fit f := by
  unfold ftN at h
  rw [Bool.and_eq_true, decide_eq_true_eq, decide_eq_true_eq] at h
  exact h
section StepsN
variable {d : Nat} {own : String} {cc : ByteArray} {nL : Nat} {ret : Option FieldType} {ini : Inq} {pc : Nat}
def s_new2 (ci : Nat) (fs : List Value) (nm nx : Nat) : Stq := fun ls st g K _ => (chN g.1 nm = true ∧ ftN (up1 g.1 nm (some (.inl (ci, fs)))) = true) ∧ cond (decide (nm < 49) && (ls.all (nov nm) && st.all (nov nm))) (K nx ls (.ref nm :: st) (g_new g ci nm fs)) False
theorem snd_new2 {ci nm nx : Nat} {fs : List Value} (h : Snd d own cc nL ret ini pc (s_new ci fs nm nx)) : Snd d own cc nL ret ini pc (s_new2 ci fs nm nx) := by
  intro p l e s m args below meth c Q D cy bs g0 ad0 C hi ls st g K Qr hf hK hQ ad H locs k n lsA P
  obtain ⟨⟨h1, h2⟩, h3⟩ := hf
  obtain ⟨q1, q2⟩ := chN_spec h1 P.1.2.2.2.1
  exact h p l e s m args below meth c Q D cy bs g0 ad0 C hi ls st g K Qr ⟨⟨q1, q2, ftN_spec h2⟩, h3⟩ hK hQ ad H locs k n lsA P
def s_newa2 (kd nm nx : Nat) : Stq := fun ls st g K _ => match st with
  | .int x :: st => (¬ x < 0 ∧ x.toNatClampNeg ≤ 65536 ∧ chN g.1 nm = true ∧ ftN (up1 g.1 nm (some (.inr (kd, x.toNatClampNeg)))) = true) ∧ cond (decide (nm < 49) && (ls.all (nov nm) && st.all (nov nm))) (K nx ls (.ref nm :: st) (g_newa g kd nm x.toNatClampNeg)) False
  | _ => False
theorem snd_newa2 {kd nm nx : Nat} (h : Snd d own cc nL ret ini pc (s_newa kd nm nx)) : Snd d own cc nL ret ini pc (s_newa2 kd nm nx) := by
  intro p l e s m args below meth c Q D cy bs g0 ad0 C hi ls st g K Qr hf hK hQ ad H locs k n lsA P
  refine h p l e s m args below meth c Q D cy bs g0 ad0 C hi ls st g K Qr ?_ hK hQ ad H locs k n lsA P
  simp only [s_newa2] at hf
  simp only [s_newa]
  split at hf
  · obtain ⟨⟨h1, h2, h3, h4⟩, h5⟩ := hf
    obtain ⟨q1, q2⟩ := chN_spec h3 P.1.2.2.2.1
    exact ⟨⟨h1, h2, q1, q2, ftN_spec h4⟩, h5⟩
  · exact hf.elim
/-- the shape by another name, ahead of a step -/
def s_shp (f' : Nat → Option Shp) (stp : Stq) : Stq := fun ls st g K Q => (∀ k, k < 49 → g.1 k = f' k) ∧ stp ls st (f', g.2) K Q
theorem snd_shp {f' : Nat → Option Shp} {stp : Stq} (h' : ∀ k, 49 ≤ k → f' k = none) (h : Snd d own cc nL ret ini pc stp) : Snd d own cc nL ret ini pc (s_shp f' stp) := by
  intro p l e s m args below meth c Q D cy bs g0 ad0 C hi ls st g K Qr hf hK hQ ad H locs k n lsA P
  obtain ⟨h1, h2⟩ := hf
  have eg : g.1 = f' := by
    funext j
    rcases Nat.lt_or_ge j 49 with q | q
    · exact h1 j q
    · rw [P.1.2.2.2.1 j q, h' j q]
  have e2 : (f', g.2) = g := by rw [← eg]
  rw [e2] at h2
  exact h p l e s m args below meth c Q D cy bs g0 ad0 C hi ls st g K Qr h2 hK hQ ad H locs k n lsA P
/-! the law's script, at the number 49 -/
def inL (L : Nat) (xs : Nat → Int32) : Inq := fun s _ ad0 bs => va_X (ad0 49) L xs s s.heap ∧ ad0 49 < s.heap.size ∧ ad0 49 < bs
def s_sld (L : Nat) (xs : Nat → Int32) (nx : Nat) : Stq := fun ls st g K _ => match st with
  | .int i :: .ref 49 :: st => vp_in i L ∧ K nx ls (.int (xs i.toNatClampNeg) :: st) g
  | _ => False
theorem snd_sld {L : Nat} {xs : Nat → Int32} (hd : decode cc pc = .ok (.iaload, 1)) : Snd d own cc nL ret (inL L xs) pc (s_sld L xs (pc + 1)) := by
  intro p l e s m args below meth c Q D cy bs g0 ad0 C hi ls st g K Qr hf hK hQ ad H locs k n lsA P
  simp only [s_sld] at hf
  split at hf
  · have ea : ad 49 = ad0 49 := P.2.2.2.2.1 49 (Or.inl (Nat.le_refl _)) rfl
    have := va_sld (A := fun q => bs ≤ q) (rest := _) C.1 C.2.1 hi.1 hi.2.1 (Nat.not_le.mpr hi.2.2) P.2.1 hf.1 hd (hK _ _ _ _ hf.2 ad H locs k n lsA P)
    rw [← ea] at this
    exact this
  · exact hf.elim
def s_slen (L : Nat) (nx : Nat) : Stq := fun ls st g K _ => match st with
  | .ref 49 :: st => K nx ls (.int (nI L) :: st) g
  | _ => False
theorem snd_slen {L : Nat} {xs : Nat → Int32} (hd : decode cc pc = .ok (.arraylength, 1)) : Snd d own cc nL ret (inL L xs) pc (s_slen L (pc + 1)) := by
  intro p l e s m args below meth c Q D cy bs g0 ad0 C hi ls st g K Qr hf hK hQ ad H locs k n lsA P
  simp only [s_slen] at hf
  split at hf
  · have ea : ad 49 = ad0 49 := P.2.2.2.2.1 49 (Or.inl (Nat.le_refl _)) rfl
    have := va_slen (A := fun q => bs ≤ q) (rest := _) C.1 C.2.1 hi.1 hi.2.1 (Nat.not_le.mpr hi.2.2) P.2.1 hd (hK _ _ _ _ hf ad H locs k n lsA P)
    rw [← ea] at this
    exact this
  · exact hf.elim
end StepsN

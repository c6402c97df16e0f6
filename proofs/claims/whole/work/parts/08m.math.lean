/-! Math.max, Math.min, by the kit's own rows -/
section Steps7
variable {d : Nat} {own : String} {cc : ByteArray} {nL : Nat} {ret : Option FieldType} {ini : Inq} {pc : Nat}
def s_mmax (nx : Nat) : Stq := fun ls st g K _ => match st with
  | .int y :: .int x :: st => cond (decide ((st.map fun v => v.category).sum ≤ 8)) (K nx ls (.int (if x < y then y else x) :: st) g) False
  | _ => False
theorem snd_mmax {index : Nat} (hd1 : 1 ≤ d) (hl : Cond.methodLink own index Lib.Math.max.name ∈ gtb) (h2 : Cond.static Lib.Math.max.name ∈ gtb) (h3 : Cond.initialized "java/lang/Math" ∈ gtb) (h4 : Cond.code Lib.Math.max.name Lib.Math.max.code 2 (some .int) ∈ gtb) (hd : decode cc pc = .ok (.invokestatic index, 3)) : Snd d own cc nL ret ini pc (s_mmax (pc + 3)) := by
  intro p l e s m args below meth c Q D cy bs g0 ad0 Cc hi ls st g K Qr hf hK hQ ad H locs k n lsA P
  simp only [s_mmax] at hf
  split at hf
  · rename_i y x st'
    cases hc : decide ((st'.map fun v => v.category).sum ≤ 8) with
    | false => rw [hc] at hf; exact hf.elim
    | true =>
      rw [hc] at hf
      have hc := of_decide_eq_true hc
      have hft : cU g.1 ≤ 60000 ∧ sU g.1 ≤ 730225 := P.1.2.2.2.2
      have hcn := P.2.2.1
      exact va_mmax Cc.1 Cc.2.1 (by rw [Cc.2.2.1, P.2.2.2.1.2.1]) Cc.2.2.2.1 (Cc.2.2.2.2.1 _ hl) (Cc.2.2.2.2.1 _ h2) (Cc.2.2.2.2.1 _ h3) (Cc.2.2.2.2.1 _ h4) hd1 (by rw [cat_map]; show _ + 13 ≤ 32 * d + 8; omega) (by show k ≤ (d + 1) * 60000; omega) (by show n ≤ (d + 1) * 730225; omega) hd (hK _ _ _ _ hf ad H locs k n lsA P)
  · exact hf.elim
def s_mmin (nx : Nat) : Stq := fun ls st g K _ => match st with
  | .int y :: .int x :: st => cond (decide ((st.map fun v => v.category).sum ≤ 8)) (K nx ls (.int (if y < x then y else x) :: st) g) False
  | _ => False
theorem snd_mmin {index : Nat} (hd1 : 1 ≤ d) (hl : Cond.methodLink own index Lib.Math.min.name ∈ gtb) (h2 : Cond.static Lib.Math.min.name ∈ gtb) (h3 : Cond.initialized "java/lang/Math" ∈ gtb) (h4 : Cond.code Lib.Math.min.name Lib.Math.min.code 2 (some .int) ∈ gtb) (hd : decode cc pc = .ok (.invokestatic index, 3)) : Snd d own cc nL ret ini pc (s_mmin (pc + 3)) := by
  intro p l e s m args below meth c Q D cy bs g0 ad0 Cc hi ls st g K Qr hf hK hQ ad H locs k n lsA P
  simp only [s_mmin] at hf
  split at hf
  · rename_i y x st'
    cases hc : decide ((st'.map fun v => v.category).sum ≤ 8) with
    | false => rw [hc] at hf; exact hf.elim
    | true =>
      rw [hc] at hf
      have hc := of_decide_eq_true hc
      have hft : cU g.1 ≤ 60000 ∧ sU g.1 ≤ 730225 := P.1.2.2.2.2
      have hcn := P.2.2.1
      exact va_mmin Cc.1 Cc.2.1 (by rw [Cc.2.2.1, P.2.2.2.1.2.1]) Cc.2.2.2.1 (Cc.2.2.2.2.1 _ hl) (Cc.2.2.2.2.1 _ h2) (Cc.2.2.2.2.1 _ h3) (Cc.2.2.2.2.1 _ h4) hd1 (by rw [cat_map]; show _ + 13 ≤ 32 * d + 8; omega) (by show k ≤ (d + 1) * 60000; omega) (by show n ≤ (d + 1) * 730225; omega) hd (hK _ _ _ _ hf ad H locs k n lsA P)
  · exact hf.elim
end Steps7

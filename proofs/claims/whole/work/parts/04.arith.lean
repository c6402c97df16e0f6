/-! arithmetic, branches, returns -/
def ushr (x y : Int32) : Int32 := (x.toUInt32 >>> (y.toUInt32 &&& Int32.toUInt32 31)).toInt32
def lushr (x : Int64) (y : Int32) : Int64 := (x.toUInt64 >>> (y.toInt64.toUInt64 &&& Int64.toUInt64 63)).toInt64
section Steps2
variable {d : Nat} {own : String} {cc : ByteArray} {nL : Nat} {ret : Option FieldType} {ini : Inq} {pc : Nat}
def s_iadd (nx : Nat) : Stq := fun ls st g K _ => match st with
  | .int y :: .int x :: st => K nx ls (.int (x + y) :: st) g
  | _ => False
theorem snd_iadd (hd : decode cc pc = .ok (.iadd, 1)) : Snd d own cc nL ret ini pc (s_iadd (pc + 1)) := by
  intro p l e s m args below meth c Q D cy bs g0 ad0 C hi ls st g K Qr hf hK hQ ad H locs k n lsA P
  simp only [s_iadd] at hf
  split at hf
  · exact lv_iadd C.1 C.2.1 hd (hK _ _ _ _ hf ad H locs k n lsA P)
  · exact hf.elim
def s_isub (nx : Nat) : Stq := fun ls st g K _ => match st with
  | .int y :: .int x :: st => K nx ls (.int (x - y) :: st) g
  | _ => False
theorem snd_isub (hd : decode cc pc = .ok (.isub, 1)) : Snd d own cc nL ret ini pc (s_isub (pc + 1)) := by
  intro p l e s m args below meth c Q D cy bs g0 ad0 C hi ls st g K Qr hf hK hQ ad H locs k n lsA P
  simp only [s_isub] at hf
  split at hf
  · exact lv_isub C.1 C.2.1 hd (hK _ _ _ _ hf ad H locs k n lsA P)
  · exact hf.elim
def s_imul (nx : Nat) : Stq := fun ls st g K _ => match st with
  | .int y :: .int x :: st => K nx ls (.int (x * y) :: st) g
  | _ => False
theorem snd_imul (hd : decode cc pc = .ok (.imul, 1)) : Snd d own cc nL ret ini pc (s_imul (pc + 1)) := by
  intro p l e s m args below meth c Q D cy bs g0 ad0 C hi ls st g K Qr hf hK hQ ad H locs k n lsA P
  simp only [s_imul] at hf
  split at hf
  · exact lv_imul C.1 C.2.1 hd (hK _ _ _ _ hf ad H locs k n lsA P)
  · exact hf.elim
def s_iand (nx : Nat) : Stq := fun ls st g K _ => match st with
  | .int y :: .int x :: st => K nx ls (.int (x &&& y) :: st) g
  | _ => False
theorem snd_iand (hd : decode cc pc = .ok (.iand, 1)) : Snd d own cc nL ret ini pc (s_iand (pc + 1)) := by
  intro p l e s m args below meth c Q D cy bs g0 ad0 C hi ls st g K Qr hf hK hQ ad H locs k n lsA P
  simp only [s_iand] at hf
  split at hf
  · exact lv_iand C.1 C.2.1 hd (hK _ _ _ _ hf ad H locs k n lsA P)
  · exact hf.elim
def s_ior (nx : Nat) : Stq := fun ls st g K _ => match st with
  | .int y :: .int x :: st => K nx ls (.int (x ||| y) :: st) g
  | _ => False
theorem snd_ior (hd : decode cc pc = .ok (.ior, 1)) : Snd d own cc nL ret ini pc (s_ior (pc + 1)) := by
  intro p l e s m args below meth c Q D cy bs g0 ad0 C hi ls st g K Qr hf hK hQ ad H locs k n lsA P
  simp only [s_ior] at hf
  split at hf
  · exact lv_ior C.1 C.2.1 hd (hK _ _ _ _ hf ad H locs k n lsA P)
  · exact hf.elim
def s_ixor (nx : Nat) : Stq := fun ls st g K _ => match st with
  | .int y :: .int x :: st => K nx ls (.int (x ^^^ y) :: st) g
  | _ => False
theorem snd_ixor (hd : decode cc pc = .ok (.ixor, 1)) : Snd d own cc nL ret ini pc (s_ixor (pc + 1)) := by
  intro p l e s m args below meth c Q D cy bs g0 ad0 C hi ls st g K Qr hf hK hQ ad H locs k n lsA P
  simp only [s_ixor] at hf
  split at hf
  · exact lv_ixor C.1 C.2.1 hd (hK _ _ _ _ hf ad H locs k n lsA P)
  · exact hf.elim
def s_ishl (nx : Nat) : Stq := fun ls st g K _ => match st with
  | .int y :: .int x :: st => K nx ls (.int (x <<< (y &&& 31)) :: st) g
  | _ => False
theorem snd_ishl (hd : decode cc pc = .ok (.ishl, 1)) : Snd d own cc nL ret ini pc (s_ishl (pc + 1)) := by
  intro p l e s m args below meth c Q D cy bs g0 ad0 C hi ls st g K Qr hf hK hQ ad H locs k n lsA P
  simp only [s_ishl] at hf
  split at hf
  · exact lv_ishl C.1 C.2.1 hd (hK _ _ _ _ hf ad H locs k n lsA P)
  · exact hf.elim
def s_ishr (nx : Nat) : Stq := fun ls st g K _ => match st with
  | .int y :: .int x :: st => K nx ls (.int (x >>> (y &&& 31)) :: st) g
  | _ => False
theorem snd_ishr (hd : decode cc pc = .ok (.ishr, 1)) : Snd d own cc nL ret ini pc (s_ishr (pc + 1)) := by
  intro p l e s m args below meth c Q D cy bs g0 ad0 C hi ls st g K Qr hf hK hQ ad H locs k n lsA P
  simp only [s_ishr] at hf
  split at hf
  · exact lv_ishr C.1 C.2.1 hd (hK _ _ _ _ hf ad H locs k n lsA P)
  · exact hf.elim
def s_iushr (nx : Nat) : Stq := fun ls st g K _ => match st with
  | .int y :: .int x :: st => K nx ls (.int (ushr x y) :: st) g
  | _ => False
theorem snd_iushr (hd : decode cc pc = .ok (.iushr, 1)) : Snd d own cc nL ret ini pc (s_iushr (pc + 1)) := by
  intro p l e s m args below meth c Q D cy bs g0 ad0 C hi ls st g K Qr hf hK hQ ad H locs k n lsA P
  simp only [s_iushr] at hf
  split at hf
  · exact lv_iushr C.1 C.2.1 hd rfl (hK _ _ _ _ hf ad H locs k n lsA P)
  · exact hf.elim
def s_idiv (nx : Nat) : Stq := fun ls st g K _ => match st with
  | .int y :: .int x :: st => ¬ y = 0 ∧ K nx ls (.int (x / y) :: st) g
  | _ => False
theorem snd_idiv (hd : decode cc pc = .ok (.idiv, 1)) : Snd d own cc nL ret ini pc (s_idiv (pc + 1)) := by
  intro p l e s m args below meth c Q D cy bs g0 ad0 C hi ls st g K Qr hf hK hQ ad H locs k n lsA P
  simp only [s_idiv] at hf
  split at hf
  · exact lv_idiv C.1 C.2.1 hd hf.1 (hK _ _ _ _ hf.2 ad H locs k n lsA P)
  · exact hf.elim
def s_irem (nx : Nat) : Stq := fun ls st g K _ => match st with
  | .int y :: .int x :: st => ¬ y = 0 ∧ K nx ls (.int (x - x / y * y) :: st) g
  | _ => False
theorem snd_irem (hd : decode cc pc = .ok (.irem, 1)) : Snd d own cc nL ret ini pc (s_irem (pc + 1)) := by
  intro p l e s m args below meth c Q D cy bs g0 ad0 C hi ls st g K Qr hf hK hQ ad H locs k n lsA P
  simp only [s_irem] at hf
  split at hf
  · exact lv_irem C.1 C.2.1 hd hf.1 (hK _ _ _ _ hf.2 ad H locs k n lsA P)
  · exact hf.elim
def s_i2l (nx : Nat) : Stq := fun ls st g K _ => match st with
  | .int x :: st => K nx ls (.long x.toInt64 :: st) g
  | _ => False
theorem snd_i2l (hd : decode cc pc = .ok (.i2l, 1)) : Snd d own cc nL ret ini pc (s_i2l (pc + 1)) := by
  intro p l e s m args below meth c Q D cy bs g0 ad0 C hi ls st g K Qr hf hK hQ ad H locs k n lsA P
  simp only [s_i2l] at hf
  split at hf
  · exact lv_i2l C.1 C.2.1 hd rfl (hK _ _ _ _ hf ad H locs k n lsA P)
  · exact hf.elim
def s_l2i (nx : Nat) : Stq := fun ls st g K _ => match st with
  | .long x :: st => K nx ls (.int x.toInt32 :: st) g
  | _ => False
theorem snd_l2i (hd : decode cc pc = .ok (.l2i, 1)) : Snd d own cc nL ret ini pc (s_l2i (pc + 1)) := by
  intro p l e s m args below meth c Q D cy bs g0 ad0 C hi ls st g K Qr hf hK hQ ad H locs k n lsA P
  simp only [s_l2i] at hf
  split at hf
  · exact lv_l2i C.1 C.2.1 hd rfl (hK _ _ _ _ hf ad H locs k n lsA P)
  · exact hf.elim
def s_lor (nx : Nat) : Stq := fun ls st g K _ => match st with
  | .long y :: .long x :: st => K nx ls (.long (x ||| y) :: st) g
  | _ => False
theorem snd_lor (hd : decode cc pc = .ok (.lor, 1)) : Snd d own cc nL ret ini pc (s_lor (pc + 1)) := by
  intro p l e s m args below meth c Q D cy bs g0 ad0 C hi ls st g K Qr hf hK hQ ad H locs k n lsA P
  simp only [s_lor] at hf
  split at hf
  · exact lv_lor C.1 C.2.1 hd (hK _ _ _ _ hf ad H locs k n lsA P)
  · exact hf.elim
def s_lshl (nx : Nat) : Stq := fun ls st g K _ => match st with
  | .int y :: .long x :: st => K nx ls (.long (x <<< (y.toInt64 &&& 63)) :: st) g
  | _ => False
theorem snd_lshl (hd : decode cc pc = .ok (.lshl, 1)) : Snd d own cc nL ret ini pc (s_lshl (pc + 1)) := by
  intro p l e s m args below meth c Q D cy bs g0 ad0 C hi ls st g K Qr hf hK hQ ad H locs k n lsA P
  simp only [s_lshl] at hf
  split at hf
  · exact lv_lshl C.1 C.2.1 hd rfl (hK _ _ _ _ hf ad H locs k n lsA P)
  · exact hf.elim
def s_lushr (nx : Nat) : Stq := fun ls st g K _ => match st with
  | .int y :: .long x :: st => K nx ls (.long (lushr x y) :: st) g
  | _ => False
theorem snd_lushr (hd : decode cc pc = .ok (.lushr, 1)) : Snd d own cc nL ret ini pc (s_lushr (pc + 1)) := by
  intro p l e s m args below meth c Q D cy bs g0 ad0 C hi ls st g K Qr hf hK hQ ad H locs k n lsA P
  simp only [s_lushr] at hf
  split at hf
  · exact lv_lushr C.1 C.2.1 hd rfl (hK _ _ _ _ hf ad H locs k n lsA P)
  · exact hf.elim
def s_dup (nx : Nat) : Stq := fun ls st g K _ => match st with
  | .int x :: st => K nx ls (.int x :: .int x :: st) g
  | .ref x :: st => K nx ls (.ref x :: .ref x :: st) g
  | _ => False
theorem snd_dup (hd : decode cc pc = .ok (.dup, 1)) : Snd d own cc nL ret ini pc (s_dup (pc + 1)) := by
  intro p l e s m args below meth c Q D cy bs g0 ad0 C hi ls st g K Qr hf hK hQ ad H locs k n lsA P
  simp only [s_dup] at hf
  split at hf
  · exact lv_dup C.1 C.2.1 hd rfl (hK _ _ _ _ hf ad H locs k n lsA P)
  · exact lv_dup C.1 C.2.1 hd rfl (hK _ _ _ _ hf ad H locs k n lsA P)
  · exact hf.elim
def s_pop (nx : Nat) : Stq := fun ls st g K _ => match st with
  | .int x :: st => K nx ls st g
  | .ref x :: st => K nx ls st g
  | _ => False
theorem snd_pop (hd : decode cc pc = .ok (.pop, 1)) : Snd d own cc nL ret ini pc (s_pop (pc + 1)) := by
  intro p l e s m args below meth c Q D cy bs g0 ad0 C hi ls st g K Qr hf hK hQ ad H locs k n lsA P
  simp only [s_pop] at hf
  split at hf
  · rename_i x st
    exact lv_pop (va := .int x) C.1 C.2.1 hd rfl (hK _ _ _ _ hf ad H locs k n lsA P)
  · rename_i x st
    exact lv_pop (va := .ref (ad x)) C.1 C.2.1 hd rfl (hK _ _ _ _ hf ad H locs k n lsA P)
  · exact hf.elim
def s_dup2 (nx : Nat) : Stq := fun ls st g K _ => match st with
  | .int x :: .ref y :: st => K nx ls (.int x :: .ref y :: .int x :: .ref y :: st) g
  | _ => False
theorem snd_dup2 (hd : decode cc pc = .ok (.dup2, 1)) : Snd d own cc nL ret ini pc (s_dup2 (pc + 1)) := by
  intro p l e s m args below meth c Q D cy bs g0 ad0 C hi ls st g K Qr hf hK hQ ad H locs k n lsA P
  simp only [s_dup2] at hf
  split at hf
  · exact lv_dup2_11 C.1 C.2.1 hd rfl rfl (hK _ _ _ _ hf ad H locs k n lsA P)
  · exact hf.elim
def s_goto (t : Nat) : Stq := fun ls st g K _ => K t ls st g
theorem snd_goto {off : Int} {t : Nat} (hd : decode cc pc = .ok (.goto off, 3)) (ht : (pc : Int) + off = (t : Int)) : Snd d own cc nL ret ini pc (s_goto t) := by
  intro p l e s m args below meth c Q D cy bs g0 ad0 C hi ls st g K Qr hf hK hQ ad H locs k n lsA P
  exact lv_goto C.1 C.2.1 hd ht (hK _ _ _ _ hf ad H locs k n lsA P)
def s_ifeq (t nx : Nat) : Stq := fun ls st g K _ => match st with
  | .int x :: st => (x = 0 → K t ls st g) ∧ (¬ x = 0 → K nx ls st g)
  | _ => False
theorem snd_ifeq {off : Int} {t : Nat} (hd : decode cc pc = .ok (.ifCond .eq off, 3)) (ht : (pc : Int) + off = (t : Int)) : Snd d own cc nL ret ini pc (s_ifeq t (pc + 3)) := by
  intro p l e s m args below meth c Q D cy bs g0 ad0 C hi ls st g K Qr hf hK hQ ad H locs k n lsA P
  simp only [s_ifeq] at hf
  split at hf
  · exact lv_if_eq C.1 C.2.1 hd ht (fun h => hK _ _ _ _ (hf.1 h) ad H locs k n lsA P) (fun h => hK _ _ _ _ (hf.2 h) ad H locs k n lsA P)
  · exact hf.elim
def s_iceq (t nx : Nat) : Stq := fun ls st g K _ => match st with
  | .int y :: .int x :: st => (x = y → K t ls st g) ∧ (¬ x = y → K nx ls st g)
  | _ => False
theorem snd_iceq {off : Int} {t : Nat} (hd : decode cc pc = .ok (.if_icmp .eq off, 3)) (ht : (pc : Int) + off = (t : Int)) : Snd d own cc nL ret ini pc (s_iceq t (pc + 3)) := by
  intro p l e s m args below meth c Q D cy bs g0 ad0 C hi ls st g K Qr hf hK hQ ad H locs k n lsA P
  simp only [s_iceq] at hf
  split at hf
  · exact lv_icmp_eq C.1 C.2.1 hd ht (fun h => hK _ _ _ _ (hf.1 h) ad H locs k n lsA P) (fun h => hK _ _ _ _ (hf.2 h) ad H locs k n lsA P)
  · exact hf.elim
def s_ifne (t nx : Nat) : Stq := fun ls st g K _ => match st with
  | .int x :: st => (¬ x = 0 → K t ls st g) ∧ (x = 0 → K nx ls st g)
  | _ => False
theorem snd_ifne {off : Int} {t : Nat} (hd : decode cc pc = .ok (.ifCond .ne off, 3)) (ht : (pc : Int) + off = (t : Int)) : Snd d own cc nL ret ini pc (s_ifne t (pc + 3)) := by
  intro p l e s m args below meth c Q D cy bs g0 ad0 C hi ls st g K Qr hf hK hQ ad H locs k n lsA P
  simp only [s_ifne] at hf
  split at hf
  · exact lv_if_ne C.1 C.2.1 hd ht (fun h => hK _ _ _ _ (hf.1 h) ad H locs k n lsA P) (fun h => hK _ _ _ _ (hf.2 h) ad H locs k n lsA P)
  · exact hf.elim
def s_icne (t nx : Nat) : Stq := fun ls st g K _ => match st with
  | .int y :: .int x :: st => (¬ x = y → K t ls st g) ∧ (x = y → K nx ls st g)
  | _ => False
theorem snd_icne {off : Int} {t : Nat} (hd : decode cc pc = .ok (.if_icmp .ne off, 3)) (ht : (pc : Int) + off = (t : Int)) : Snd d own cc nL ret ini pc (s_icne t (pc + 3)) := by
  intro p l e s m args below meth c Q D cy bs g0 ad0 C hi ls st g K Qr hf hK hQ ad H locs k n lsA P
  simp only [s_icne] at hf
  split at hf
  · exact lv_icmp_ne C.1 C.2.1 hd ht (fun h => hK _ _ _ _ (hf.1 h) ad H locs k n lsA P) (fun h => hK _ _ _ _ (hf.2 h) ad H locs k n lsA P)
  · exact hf.elim
def s_iflt (t nx : Nat) : Stq := fun ls st g K _ => match st with
  | .int x :: st => (x < 0 → K t ls st g) ∧ (¬ x < 0 → K nx ls st g)
  | _ => False
theorem snd_iflt {off : Int} {t : Nat} (hd : decode cc pc = .ok (.ifCond .lt off, 3)) (ht : (pc : Int) + off = (t : Int)) : Snd d own cc nL ret ini pc (s_iflt t (pc + 3)) := by
  intro p l e s m args below meth c Q D cy bs g0 ad0 C hi ls st g K Qr hf hK hQ ad H locs k n lsA P
  simp only [s_iflt] at hf
  split at hf
  · exact lv_if_lt C.1 C.2.1 hd ht (fun h => hK _ _ _ _ (hf.1 h) ad H locs k n lsA P) (fun h => hK _ _ _ _ (hf.2 h) ad H locs k n lsA P)
  · exact hf.elim
def s_iclt (t nx : Nat) : Stq := fun ls st g K _ => match st with
  | .int y :: .int x :: st => (x < y → K t ls st g) ∧ (¬ x < y → K nx ls st g)
  | _ => False
theorem snd_iclt {off : Int} {t : Nat} (hd : decode cc pc = .ok (.if_icmp .lt off, 3)) (ht : (pc : Int) + off = (t : Int)) : Snd d own cc nL ret ini pc (s_iclt t (pc + 3)) := by
  intro p l e s m args below meth c Q D cy bs g0 ad0 C hi ls st g K Qr hf hK hQ ad H locs k n lsA P
  simp only [s_iclt] at hf
  split at hf
  · exact lv_icmp_lt C.1 C.2.1 hd ht (fun h => hK _ _ _ _ (hf.1 h) ad H locs k n lsA P) (fun h => hK _ _ _ _ (hf.2 h) ad H locs k n lsA P)
  · exact hf.elim
def s_ifge (t nx : Nat) : Stq := fun ls st g K _ => match st with
  | .int x :: st => (0 ≤ x → K t ls st g) ∧ (¬ 0 ≤ x → K nx ls st g)
  | _ => False
theorem snd_ifge {off : Int} {t : Nat} (hd : decode cc pc = .ok (.ifCond .ge off, 3)) (ht : (pc : Int) + off = (t : Int)) : Snd d own cc nL ret ini pc (s_ifge t (pc + 3)) := by
  intro p l e s m args below meth c Q D cy bs g0 ad0 C hi ls st g K Qr hf hK hQ ad H locs k n lsA P
  simp only [s_ifge] at hf
  split at hf
  · exact lv_if_ge C.1 C.2.1 hd ht (fun h => hK _ _ _ _ (hf.1 h) ad H locs k n lsA P) (fun h => hK _ _ _ _ (hf.2 h) ad H locs k n lsA P)
  · exact hf.elim
def s_icge (t nx : Nat) : Stq := fun ls st g K _ => match st with
  | .int y :: .int x :: st => (y ≤ x → K t ls st g) ∧ (¬ y ≤ x → K nx ls st g)
  | _ => False
theorem snd_icge {off : Int} {t : Nat} (hd : decode cc pc = .ok (.if_icmp .ge off, 3)) (ht : (pc : Int) + off = (t : Int)) : Snd d own cc nL ret ini pc (s_icge t (pc + 3)) := by
  intro p l e s m args below meth c Q D cy bs g0 ad0 C hi ls st g K Qr hf hK hQ ad H locs k n lsA P
  simp only [s_icge] at hf
  split at hf
  · exact lv_icmp_ge C.1 C.2.1 hd ht (fun h => hK _ _ _ _ (hf.1 h) ad H locs k n lsA P) (fun h => hK _ _ _ _ (hf.2 h) ad H locs k n lsA P)
  · exact hf.elim
def s_ifgt (t nx : Nat) : Stq := fun ls st g K _ => match st with
  | .int x :: st => (0 < x → K t ls st g) ∧ (¬ 0 < x → K nx ls st g)
  | _ => False
theorem snd_ifgt {off : Int} {t : Nat} (hd : decode cc pc = .ok (.ifCond .gt off, 3)) (ht : (pc : Int) + off = (t : Int)) : Snd d own cc nL ret ini pc (s_ifgt t (pc + 3)) := by
  intro p l e s m args below meth c Q D cy bs g0 ad0 C hi ls st g K Qr hf hK hQ ad H locs k n lsA P
  simp only [s_ifgt] at hf
  split at hf
  · exact lv_if_gt C.1 C.2.1 hd ht (fun h => hK _ _ _ _ (hf.1 h) ad H locs k n lsA P) (fun h => hK _ _ _ _ (hf.2 h) ad H locs k n lsA P)
  · exact hf.elim
def s_icgt (t nx : Nat) : Stq := fun ls st g K _ => match st with
  | .int y :: .int x :: st => (y < x → K t ls st g) ∧ (¬ y < x → K nx ls st g)
  | _ => False
theorem snd_icgt {off : Int} {t : Nat} (hd : decode cc pc = .ok (.if_icmp .gt off, 3)) (ht : (pc : Int) + off = (t : Int)) : Snd d own cc nL ret ini pc (s_icgt t (pc + 3)) := by
  intro p l e s m args below meth c Q D cy bs g0 ad0 C hi ls st g K Qr hf hK hQ ad H locs k n lsA P
  simp only [s_icgt] at hf
  split at hf
  · exact lv_icmp_gt C.1 C.2.1 hd ht (fun h => hK _ _ _ _ (hf.1 h) ad H locs k n lsA P) (fun h => hK _ _ _ _ (hf.2 h) ad H locs k n lsA P)
  · exact hf.elim
def s_ifle (t nx : Nat) : Stq := fun ls st g K _ => match st with
  | .int x :: st => (x ≤ 0 → K t ls st g) ∧ (¬ x ≤ 0 → K nx ls st g)
  | _ => False
theorem snd_ifle {off : Int} {t : Nat} (hd : decode cc pc = .ok (.ifCond .le off, 3)) (ht : (pc : Int) + off = (t : Int)) : Snd d own cc nL ret ini pc (s_ifle t (pc + 3)) := by
  intro p l e s m args below meth c Q D cy bs g0 ad0 C hi ls st g K Qr hf hK hQ ad H locs k n lsA P
  simp only [s_ifle] at hf
  split at hf
  · exact lv_if_le C.1 C.2.1 hd ht (fun h => hK _ _ _ _ (hf.1 h) ad H locs k n lsA P) (fun h => hK _ _ _ _ (hf.2 h) ad H locs k n lsA P)
  · exact hf.elim
def s_icle (t nx : Nat) : Stq := fun ls st g K _ => match st with
  | .int y :: .int x :: st => (x ≤ y → K t ls st g) ∧ (¬ x ≤ y → K nx ls st g)
  | _ => False
theorem snd_icle {off : Int} {t : Nat} (hd : decode cc pc = .ok (.if_icmp .le off, 3)) (ht : (pc : Int) + off = (t : Int)) : Snd d own cc nL ret ini pc (s_icle t (pc + 3)) := by
  intro p l e s m args below meth c Q D cy bs g0 ad0 C hi ls st g K Qr hf hK hQ ad H locs k n lsA P
  simp only [s_icle] at hf
  split at hf
  · exact lv_icmp_le C.1 C.2.1 hd ht (fun h => hK _ _ _ _ (hf.1 h) ad H locs k n lsA P) (fun h => hK _ _ _ _ (hf.2 h) ad H locs k n lsA P)
  · exact hf.elim
/-! returns -/
def s_vret : Stq := fun _ st g _ Q => match st with
  | [] => Q none g
  | _ => False
theorem snd_vret (hd : decode cc pc = .ok (.return_, 1)) : Snd d own cc nL none ini pc s_vret := by
  intro p l e s m args below meth c Q D cy bs g0 ad0 C hi ls st g K Qr hf hK hQ ad H locs k n lsA P
  simp only [s_vret] at hf
  split at hf
  · exact hQ _ _ hf pc _ ad H locs k n lsA ls P hd (Or.inl ⟨rfl, rfl, rfl⟩)
  · exact hf.elim
def s_iret : Stq := fun _ st g _ Q => match st with
  | [.int x] => Q (some (.int x)) g
  | _ => False
theorem snd_iret (hd : decode cc pc = .ok (.ireturn, 1)) : Snd d own cc nL (some .int) ini pc s_iret := by
  intro p l e s m args below meth c Q D cy bs g0 ad0 C hi ls st g K Qr hf hK hQ ad H locs k n lsA P
  simp only [s_iret] at hf
  split at hf
  · exact hQ _ _ hf pc _ ad H locs k n lsA ls P hd (Or.inr (Or.inl ⟨_, _, rfl, rfl, rfl, rfl⟩))
  · exact hf.elim
def s_zret : Stq := fun _ st g _ Q => match st with
  | [.int x] => (x = 0 ∨ x = 1) ∧ Q (some (.int x)) g
  | _ => False
theorem snd_zret (hd : decode cc pc = .ok (.ireturn, 1)) : Snd d own cc nL (some .boolean) ini pc s_zret := by
  intro p l e s m args below meth c Q D cy bs g0 ad0 C hi ls st g K Qr hf hK hQ ad H locs k n lsA P
  simp only [s_zret] at hf
  split at hf
  · refine hQ _ _ hf.2 pc _ ad H locs k n lsA ls P hd (Or.inr (Or.inl ⟨_, _, rfl, rfl, rfl, ?_⟩))
    rcases hf.1 with h | h <;> subst h <;> decide
  · exact hf.elim
def s_aret : Stq := fun _ st g _ Q => match st with
  | [.ref x] => Q (some (.ref x)) g
  | _ => False
theorem snd_aret {C : String} (hd : decode cc pc = .ok (.areturn, 1)) : Snd d own cc nL (some (.object C)) ini pc s_aret := by
  intro p l e s m args below meth c Q D cy bs g0 ad0 C1 hi ls st g K Qr hf hK hQ ad H locs k n lsA P
  simp only [s_aret] at hf
  split at hf
  · exact hQ _ _ hf pc _ ad H locs k n lsA ls P hd (Or.inr (Or.inr ⟨_, _, rfl, rfl, rfl, Or.inl ⟨_, rfl⟩⟩))
  · exact hf.elim
/-! switches -/
def swc (x : Int32) (ls st : List Value) (g : Sto) (K : Kon) (dt : Nat) : List (Int32 × Nat) → Prop
  | [] => K dt ls st g
  | (v, t) :: r => (x = v → K t ls st g) ∧ (¬ x = v → swc x ls st g K dt r)
def s_sw (cs : List (Int32 × Nat)) (dt : Nat) : Stq := fun ls st g K _ => match st with
  | .int x :: st => swc x ls st g K dt cs
  | _ => False
theorem swc_spec {x : Int32} {ls st : List Value} {g : Sto} {K : Kon} {dt : Nat} : ∀ (cs : List (Int32 × Nat)), swc x ls st g K dt cs → (∃ q ∈ cs, x = q.1 ∧ K q.2 ls st g) ∨ ((∀ q ∈ cs, ¬ x = q.1) ∧ K dt ls st g)
  | [], h => Or.inr ⟨fun _ h => absurd h List.not_mem_nil, h⟩
  | (v, t) :: r, h => by
    by_cases hx : x = v
    · exact Or.inl ⟨(v, t), List.mem_cons_self, hx, h.1 hx⟩
    · rcases swc_spec r (h.2 hx) with ⟨q, h1, h2⟩ | ⟨h1, h2⟩
      · exact Or.inl ⟨q, List.mem_cons_of_mem _ h1, h2⟩
      · exact Or.inr ⟨fun q hq => (List.mem_cons.mp hq).elim (fun e => by rw [e]; exact hx) (h1 q), h2⟩
theorem snd_tsw {dflt lo hi : Int} {offs : Array Int} {len dt : Nat} (cs : List (Int32 × Nat)) (hd : decode cc pc = .ok (.tableswitch dflt lo hi offs, len)) (hdt : (pc : Int) + dflt = (dt : Int))
    (h1 : cs.all (fun q => decide (lo ≤ q.1.toInt) && (decide (q.1.toInt ≤ hi) && (match offs[(q.1.toInt - lo).toNat]? with | some off => decide ((pc : Int) + off = (q.2 : Int)) | none => false))) = true)
    (h2 : (List.range ((hi - lo).toNat + 1)).all (fun i => cs.any (fun q => decide (q.1.toInt = lo + (i : Int)))) = true) : Snd d own cc nL ret ini pc (s_sw cs dt) := by
  intro p l e s m args below meth c Q D cy bs g0 ad0 C hini ls st g K Qr hf hK hQ ad H locs k n lsA P
  simp only [s_sw] at hf
  split at hf
  · rename_i x st
    rcases swc_spec cs hf with ⟨q, hq, hx, hk⟩ | ⟨hn, hk⟩
    · have h3 := List.all_eq_true.mp h1 q hq
      simp only [Bool.and_eq_true, decide_eq_true_eq] at h3
      obtain ⟨a1, a2, a3⟩ := h3
      split at a3
      · rename_i off ho
        subst hx
        exact lv_tableIn C.1 C.2.1 hd (by omega) (by omega) ho (of_decide_eq_true a3) (hK _ _ _ _ hk ad H locs k n lsA P)
      · cases a3
    · refine lv_tableOut C.1 C.2.1 hd ?_ hdt (hK _ _ _ _ hk ad H locs k n lsA P)
      by_cases hr : x.toInt < lo ∨ hi < x.toInt
      · exact hr
      · exfalso
        have h3 := List.all_eq_true.mp h2 (x.toInt - lo).toNat (List.mem_range.mpr (by omega))
        obtain ⟨q, hq, h4⟩ := List.any_eq_true.mp h3
        have h5 := of_decide_eq_true h4
        exact hn q hq (Int32.toInt_inj.mp (by rw [h5]; omega))
  · exact hf.elim
theorem lsw_off {x : Int32} {ls st : List Value} {g : Sto} {K : Kon} {dt pc : Nat} {dflt : Int} (hdt : (pc : Int) + dflt = (dt : Int)) : ∀ (cs : List (Int32 × Nat)) (ps : List (Int × Int)), ps = cs.map (fun q => (q.1.toInt, (q.2 : Int) - (pc : Int))) → swc x ls st g K dt cs → ∃ (off : Int) (t : Nat), Op.lookupswitch.offset ps dflt x.toInt = off ∧ (pc : Int) + off = (t : Int) ∧ K t ls st g
  | [], ps, hp, h => by subst hp; exact ⟨dflt, dt, by first | rfl | simp [Op.lookupswitch.offset], hdt, h⟩
  | (v, t) :: r, ps, hp, h => by
    subst hp
    by_cases hx : x = v
    · refine ⟨(t : Int) - (pc : Int), t, ?_, by omega, h.1 hx⟩
      rw [List.map_cons, Op.lookupswitch.offset_cons, if_pos (by rw [hx])]
    · obtain ⟨off, t', a1, a2, a3⟩ := lsw_off hdt r _ rfl (h.2 hx)
      refine ⟨off, t', ?_, a2, a3⟩
      rw [List.map_cons]
      exact (lv_osw hx rfl).trans a1
theorem snd_lsw {dflt : Int} {ps : Array (Int × Int)} {len dt : Nat} (cs : List (Int32 × Nat)) (hd : decode cc pc = .ok (.lookupswitch dflt ps, len)) (hdt : (pc : Int) + dflt = (dt : Int)) (hp : (ps.toList.zip (ps.toList.drop 1)).all (fun (a, next) => a.1 < next.1) = true)
    (h1 : ps.toList = cs.map (fun q => (q.1.toInt, (q.2 : Int) - (pc : Int)))) : Snd d own cc nL ret ini pc (s_sw cs dt) := by
  intro p l e s m args below meth c Q D cy bs g0 ad0 C hi ls st g K Qr hf hK hQ ad H locs k n lsA P
  simp only [s_sw] at hf
  split at hf
  · obtain ⟨off, t, a1, a2, a3⟩ := lsw_off hdt cs _ h1 hf
    exact lv_lookup C.1 C.2.1 hd hp a1 a2 (hK _ _ _ _ a3 ad H locs k n lsA P)
  · exact hf.elim
end Steps2

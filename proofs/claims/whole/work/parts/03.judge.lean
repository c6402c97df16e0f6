/-! THE ABSTRACT MACHINE: a step says what must hold ahead of an instruction; wp runs a method's table of steps from one cut to the next; Snd: a step is sound for the instruction at pc -/
abbrev Kon : Type := Nat → List Value → List Value → Sto → Prop
abbrev Rsl : Type := Option Value → Sto → Prop
abbrev Stq : Type := List Value → List Value → Sto → Kon → Rsl → Prop
abbrev Spc : Type := List Value → Sto → Rsl → Prop
abbrev Inq : Type := State → Method → (Nat → Nat) → Nat → Prop
def wp (code : Nat → Stq) (cut : Nat → Bool) (K : Kon) (Q : Rsl) : Nat → Kon
  | 0, _, _, _, _ => False
  | n + 1, pc, ls, st, g => code pc ls st g (fun pc' ls' st' g' => cond (cut pc') (K pc' ls' st' g') (wp code cut K Q n pc' ls' st' g')) Q
/-- a list laid open cell by cell (so that a walk shows it evaluated) -/
def frc : List Value → (List Value → Prop) → Prop
  | [], k => k []
  | v :: l, k => frc l (fun l' => k (v :: l'))
theorem frc_eq : ∀ (l : List Value) (k : List Value → Prop), frc l k = k l
  | [], _ => rfl
  | _ :: l, k => frc_eq l _
/-- a local of which nothing is known -/
abbrev U_ : Value := .float 0
def trk (v : Value) : Bool := match v with
  | .float _ => false
  | .double _ => false
  | _ => true
def LR (lsA : Array Slot) (nL : Nat) (ad : Nat → Nat) (ls : List Value) : Prop := ls.length ≤ nL ∧ lsA.size = nL ∧ lv_wf lsA ∧ ∀ (i : Nat) (v : Value), ls[i]? = some v → trk v = true → lsA[i]? = some (.val (cnc ad v))
def lvl (ad : Nat → Nat) (ls : List Value) (nL : Nat) : List (Nat × Value) := (List.range nL).filterMap (fun j => match ls[j]? with
  | some w => if trk w = true then some (j, cnc ad w) else none
  | none => none)
theorem lvl_mem {ad : Nat → Nat} {ls : List Value} {nL : Nat} {q : Nat × Value} : q ∈ lvl ad ls nL ↔ ∃ w, q.1 < nL ∧ ls[q.1]? = some w ∧ trk w = true ∧ q.2 = cnc ad w := by
  unfold lvl
  rw [List.mem_filterMap]
  constructor
  · rintro ⟨j, hj, h⟩
    split at h
    · rename_i w hw
      split at h
      · rename_i ht
        cases h
        exact ⟨w, List.mem_range.mp hj, hw, ht, rfl⟩
      · cases h
    · cases h
  · rintro ⟨w, h1, h2, h3, h4⟩
    refine ⟨q.1, List.mem_range.mpr h1, ?_⟩
    rw [h2]
    simp only [h3, if_true]
    rw [← h4]
theorem LR.has {lsA : Array Slot} {nL : Nat} {ad : Nat → Nat} {ls : List Value} (h : LR lsA nL ad ls) : lv_has lsA nL (lvl ad ls nL) := by
  refine ⟨h.2.1, h.2.2.1, fun q hq => ?_⟩
  obtain ⟨w, h1, h2, h3, h4⟩ := lvl_mem.mp hq
  rw [h4]
  exact h.2.2.2 _ _ h2 h3
def okst (ls : List Value) (i : Nat) : Bool := match i with
  | 0 => true
  | j + 1 => match ls[j]? with
    | some (.long _) => false
    | _ => true
theorem cnc_cat (ad : Nat → Nat) (v : Value) : (cnc ad v).category = v.category := by cases v <;> rfl
theorem LR.of1 {ls' : Array Slot} {nL : Nat} {ad : Nat → Nat} {ls : List Value} {i : Nat} {v : Value} (h : lv_has ls' nL ((i, cnc ad v) :: (lvl ad ls nL).filter (fun q => !(q.1 == i) && !(q.1 + 1 == i && q.2.category == 2)))) (hok : okst ls i = true) (hl : ls.length ≤ nL) : LR ls' nL ad (ls.set i v) := by
  refine ⟨by rw [List.length_set]; exact hl, h.1, h.2.1, fun j w hj hw => ?_⟩
  by_cases hji : j = i
  · subst hji
    have hlt : j < ls.length := by
      have := (List.getElem?_eq_some_iff.mp hj).1
      rwa [List.length_set] at this
    rw [List.getElem?_set_self hlt] at hj
    cases hj
    exact h.2.2 (j, cnc ad v) List.mem_cons_self
  · rw [List.getElem?_set_ne (fun e => hji e.symm)] at hj
    have hlt : j < nL := Nat.lt_of_lt_of_le (List.getElem?_eq_some_iff.mp hj).1 hl
    refine h.2.2 (j, cnc ad w) (List.mem_cons_of_mem _ (List.mem_filter.mpr ⟨lvl_mem.mpr ⟨w, hlt, hj, hw, rfl⟩, ?_⟩))
    show (!(j == i) && !(j + 1 == i && (cnc ad w).category == 2)) = true
    have e1 : (j == i) = false := by simpa using hji
    rw [e1, cnc_cat]
    by_cases h2 : j + 1 = i
    · subst h2
      have h3 : ¬ w.category = 2 := by
        intro hc
        cases w with
        | long x => simp [okst, hj] at hok
        | double x => cases hw
        | _ => simp [Value.category] at hc
      have e2 : (w.category == 2) = false := by simpa using h3
      rw [e2]; simp
    · have e2 : (j + 1 == i) = false := by simpa using h2
      rw [e2]; rfl
theorem LR.of2 {ls' : Array Slot} {nL : Nat} {ad : Nat → Nat} {ls : List Value} {i : Nat} {v : Value} (h : lv_has ls' nL ((i, cnc ad v) :: (lvl ad ls nL).filter (fun q => !(q.1 == i) && (!(q.1 == i + 1) && !(q.1 + 1 == i && q.2.category == 2))))) (hok : okst ls i = true) (hl : ls.length ≤ nL) : LR ls' nL ad ((ls.set i v).set (i + 1) U_) := by
  refine ⟨by rw [List.length_set, List.length_set]; exact hl, h.1, h.2.1, fun j w hj hw => ?_⟩
  by_cases hj1 : j = i + 1
  · subst hj1
    have hlt : i + 1 < (ls.set i v).length := by
      have := (List.getElem?_eq_some_iff.mp hj).1
      rwa [List.length_set] at this
    rw [List.getElem?_set_self hlt] at hj
    cases hj
    cases hw
  · rw [List.getElem?_set_ne (fun e => hj1 e.symm)] at hj
    by_cases hji : j = i
    · subst hji
      have hlt : j < ls.length := by
        have := (List.getElem?_eq_some_iff.mp hj).1
        rwa [List.length_set] at this
      rw [List.getElem?_set_self hlt] at hj
      cases hj
      exact h.2.2 (j, cnc ad v) List.mem_cons_self
    · rw [List.getElem?_set_ne (fun e => hji e.symm)] at hj
      have hlt : j < nL := Nat.lt_of_lt_of_le (List.getElem?_eq_some_iff.mp hj).1 hl
      refine h.2.2 (j, cnc ad w) (List.mem_cons_of_mem _ (List.mem_filter.mpr ⟨lvl_mem.mpr ⟨w, hlt, hj, hw, rfl⟩, ?_⟩))
      show (!(j == i) && (!(j == i + 1) && !(j + 1 == i && (cnc ad w).category == 2))) = true
      have e1 : (j == i) = false := by simpa using hji
      have e3 : (j == i + 1) = false := by simpa using hj1
      rw [e1, e3, cnc_cat]
      by_cases h2 : j + 1 = i
      · subst h2
        have h3 : ¬ w.category = 2 := by
          intro hc
          cases w with
          | long x => simp [okst, hj] at hok
          | double x => cases hw
          | _ => simp [Value.category] at hc
        have e2 : (w.category == 2) = false := by simpa using h3
        rw [e2]; simp
      · have e2 : (j + 1 == i) = false := by simpa using h2
        rw [e2]; rfl
def tysL (cy : Nat → ClassId) : List (ClassId × FieldType) := [(cy 0, .int), (cy 1, .long), (cy 2, .boolean)]
def Cx (own : String) (cc : ByteArray) (nL : Nat) (p : Program) (s : State) (m : MethodId) (args : Array Value) (c : Code) (D : va_G) (cy : Nat → ClassId) (bs : Nat) : Prop :=
  p.tables.exec = Jvm.exec ∧ c.code = cc ∧ c.maxLocals = nL ∧ s.vm.findClass own = some m.cls ∧ (∀ w ∈ gtb, w.before args s = true) ∧ (∀ w ∈ ntb, va_Nw w s) ∧ va_K D vwCl (tysL cy) s ∧ bs ≤ s.heap.size
def Pnt (nL : Nat) (D : va_G) (cy : Nat → ClassId) (bs : Nat) (s : State) (g0 : Sto) (ad0 ad : Nat → Nat) (g : Sto) (H : Heap) (locs : List Loc) (k n : Nat) (lsA : Array Slot) (ls : List Value) : Prop :=
  Rep D cy bs ad g H ∧ va_S (fun q => bs ≤ q) s.heap H locs ∧ (k + cU g0.1 ≤ cU g.1 ∧ n + sU g0.1 ≤ sU g.1) ∧ LR lsA nL ad ls ∧ (∀ j, (49 ≤ j ∨ g0.1 j ≠ none) → grw j = false → ad j = ad0 j) ∧ ∀ j, g0.1 j ≠ none → grw j = false → g.1 j ≠ none
def Lvl (d : Nat) : Room := { frames := d, cells := (d + 1) * 60000, slots := (d + 1) * 730225, locals := 32 * d + 8 }
def rtn (v : Option Value) (i : Instr) (ret : Option FieldType) : Prop :=
  (v = none ∧ i = .return_ ∧ ret = none) ∨ (∃ (x : Int32) (ty : FieldType), v = some (.int x) ∧ i = .ireturn ∧ ret = some ty ∧ narrow ty (.int x) = .int x) ∨ ∃ (x : Nat) (rt : FieldType), v = some (.ref x) ∧ i = .areturn ∧ ret = some rt ∧ ((∃ n, rt = .object n) ∨ ∃ t, rt = .array t)
section BWs
variable (p : Program) (l : Launch) (e : Env) (R : Room) (s : State) (m : MethodId) (args : Array Value) (below : List Frame) (meth : Method) (c : Code) (Q : State → Prop) (nL : Nat) (D : va_G) (cy : Nat → ClassId) (bs : Nat) (g0 : Sto) (ad0 : Nat → Nat)
def BW (pc : Nat) (ls st : List Value) (g : Sto) : Prop := ∀ (ad : Nat → Nat) (H : Heap) (locs : List Loc) (k n : Nat) (lsA : Array Slot), Pnt nL D cy bs s g0 ad0 ad g H locs k n lsA ls → W p l e R s m args below meth c H locs k n Q (F0 m pc lsA (st.map (cnc ad)))
def Fnd (cc : ByteArray) (ret : Option FieldType) (v : Option Value) (g : Sto) : Prop := ∀ (pc : Nat) (i : Instr) (ad : Nat → Nat) (H : Heap) (locs : List Loc) (k n : Nat) (lsA : Array Slot) (ls : List Value), Pnt nL D cy bs s g0 ad0 ad g H locs k n lsA ls → decode cc pc = .ok (i, 1) → rtn v i ret → W p l e R s m args below meth c H locs k n Q (F0 m pc lsA (v.toList.map (cnc ad)))
end BWs
def Snd (d : Nat) (own : String) (cc : ByteArray) (nL : Nat) (ret : Option FieldType) (ini : Inq) (pc : Nat) (f : Stq) : Prop :=
  ∀ (p : Program) (l : Launch) (e : Env) (s : State) (m : MethodId) (args : Array Value) (below : List Frame) (meth : Method) (c : Code) (Q : State → Prop) (D : va_G) (cy : Nat → ClassId) (bs : Nat) (g0 : Sto) (ad0 : Nat → Nat),
    Cx own cc nL p s m args c D cy bs → ini s meth ad0 bs → ∀ (ls st : List Value) (g : Sto) (K : Kon) (Qr : Rsl), f ls st g K Qr →
    (∀ pc ls st g, K pc ls st g → BW p l e (Lvl d) s m args below meth c Q nL D cy bs g0 ad0 pc ls st g) → (∀ v g, Qr v g → Fnd p l e (Lvl d) s m args below meth c Q nL D cy bs g0 ad0 cc ret v g) →
    BW p l e (Lvl d) s m args below meth c Q nL D cy bs g0 ad0 pc ls st g
def s_bad : Stq := fun _ _ _ _ _ => False
section Steps
variable {d : Nat} {own : String} {cc : ByteArray} {nL : Nat} {ret : Option FieldType} {ini : Inq} {pc : Nat}
theorem snd_bad : Snd d own cc nL ret ini pc s_bad := by
  intro p l e s m args below meth c Q D cy bs g0 ad0 C hi ls st g K Qr hf
  exact hf.elim
/-- a table of steps, as a tree -/
theorem snd_ite {P : Prop} {inst : Decidable P} {A B : Stq} (ha : Snd d own cc nL ret ini pc A) (hb : Snd d own cc nL ret ini pc B) : Snd d own cc nL ret ini pc (@ite _ P inst A B) := by
  cases inst with
  | isTrue h => exact ha
  | isFalse h => exact hb
theorem snd_leaf {k : Nat} {A : Stq} (ha : Snd d own cc nL ret ini k A) : Snd d own cc nL ret ini pc (if pc = k then A else s_bad) := by
  by_cases h : pc = k
  · subst h
    rw [if_pos rfl]
    exact ha
  · rw [if_neg h]
    exact snd_bad
/-! constants and locals -/
def s_push (v : Value) (nx : Nat) : Stq := fun ls st g K _ => K nx ls (v :: st) g
theorem snd_iconst {n : Int} {v : Int32} (hd : decode cc pc = .ok (.iconst n, 1)) (hv : Int32.ofInt n = v) : Snd d own cc nL ret ini pc (s_push (.int v) (pc + 1)) := by
  intro p l e s m args below meth c Q D cy bs g0 ad0 C hi ls st g K Qr hf hK hQ ad H locs k n lsA P
  exact lv_iconst C.1 C.2.1 hd hv (hK _ _ _ _ hf ad H locs k n lsA P)
theorem snd_bipush {n : Int} {v : Int32} (hd : decode cc pc = .ok (.bipush n, 2)) (hv : (Int8.ofInt n).toInt32 = v) : Snd d own cc nL ret ini pc (s_push (.int v) (pc + 2)) := by
  intro p l e s m args below meth c Q D cy bs g0 ad0 C hi ls st g K Qr hf hK hQ ad H locs k n lsA P
  exact lv_bipush C.1 C.2.1 hd hv (hK _ _ _ _ hf ad H locs k n lsA P)
theorem snd_sipush {n : Int} {v : Int32} (hd : decode cc pc = .ok (.sipush n, 3)) (hv : (Int16.ofInt n).toInt32 = v) : Snd d own cc nL ret ini pc (s_push (.int v) (pc + 3)) := by
  intro p l e s m args below meth c Q D cy bs g0 ad0 C hi ls st g K Qr hf hK hQ ad H locs k n lsA P
  exact lv_sipush C.1 C.2.1 hd hv (hK _ _ _ _ hf ad H locs k n lsA P)
theorem snd_ldc {index : Nat} {v : Int32} (hd : decode cc pc = .ok (.ldc index, 2)) (hw : Cond.constant own index v ∈ gtb) : Snd d own cc nL ret ini pc (s_push (.int v) (pc + 2)) := by
  intro p l e s m args below meth c Q D cy bs g0 ad0 C hi ls st g K Qr hf hK hQ ad H locs k n lsA P
  exact lv_ldc C.1 C.2.1 C.2.2.2.1 (C.2.2.2.2.1 _ hw) hd (hK _ _ _ _ hf ad H locs k n lsA P)
theorem snd_ldcw {index : Nat} {v : Int32} (hd : decode cc pc = .ok (.ldc_w index, 3)) (hw : Cond.constant own index v ∈ gtb) : Snd d own cc nL ret ini pc (s_push (.int v) (pc + 3)) := by
  intro p l e s m args below meth c Q D cy bs g0 ad0 C hi ls st g K Qr hf hK hQ ad H locs k n lsA P
  exact lv_ldcw C.1 C.2.1 C.2.2.2.1 (C.2.2.2.2.1 _ hw) hd (hK _ _ _ _ hf ad H locs k n lsA P)
def s_ild (i nx : Nat) : Stq := fun ls st g K _ => match ls[i]? with
  | some (.int x) => K nx ls (.int x :: st) g
  | _ => False
def s_ald (i nx : Nat) : Stq := fun ls st g K _ => match ls[i]? with
  | some (.ref x) => K nx ls (.ref x :: st) g
  | _ => False
def s_lld (i nx : Nat) : Stq := fun ls st g K _ => match ls[i]? with
  | some (.long x) => K nx ls (.long x :: st) g
  | _ => False
theorem snd_iload_n {j : Fin 4} {i : Nat} (hd : decode cc pc = .ok (.iload_n j, 1)) (hj : (j : Nat) = i) : Snd d own cc nL ret ini pc (s_ild i (pc + 1)) := by
  intro p l e s m args below meth c Q D cy bs g0 ad0 C hi ls st g K Qr hf hK hQ ad H locs k n lsA P
  simp only [s_ild] at hf
  split at hf
  · rename_i x hx
    exact lv_iload_n C.1 C.2.1 hd hj (P.2.2.2.1.2.2.2 _ _ hx rfl) (hK _ _ _ _ hf ad H locs k n lsA P)
  · exact hf.elim
theorem snd_iload {i : Nat} (hd : decode cc pc = .ok (.iload i, 2)) : Snd d own cc nL ret ini pc (s_ild i (pc + 2)) := by
  intro p l e s m args below meth c Q D cy bs g0 ad0 C hi ls st g K Qr hf hK hQ ad H locs k n lsA P
  simp only [s_ild] at hf
  split at hf
  · rename_i x hx
    exact lv_iload C.1 C.2.1 hd (P.2.2.2.1.2.2.2 _ _ hx rfl) (hK _ _ _ _ hf ad H locs k n lsA P)
  · exact hf.elim
theorem snd_lload {i : Nat} (hd : decode cc pc = .ok (.lload i, 2)) : Snd d own cc nL ret ini pc (s_lld i (pc + 2)) := by
  intro p l e s m args below meth c Q D cy bs g0 ad0 C hi ls st g K Qr hf hK hQ ad H locs k n lsA P
  simp only [s_lld] at hf
  split at hf
  · rename_i x hx
    exact lv_lload C.1 C.2.1 hd (P.2.2.2.1.2.2.2 _ _ hx rfl) (hK _ _ _ _ hf ad H locs k n lsA P)
  · exact hf.elim
theorem snd_aload_n {j : Fin 4} {i : Nat} (hd : decode cc pc = .ok (.aload_n j, 1)) (hj : (j : Nat) = i) : Snd d own cc nL ret ini pc (s_ald i (pc + 1)) := by
  intro p l e s m args below meth c Q D cy bs g0 ad0 C hi ls st g K Qr hf hK hQ ad H locs k n lsA P
  simp only [s_ald] at hf
  split at hf
  · rename_i x hx
    exact lv_aload_n C.1 C.2.1 hd hj (P.2.2.2.1.2.2.2 _ _ hx rfl) (hK _ _ _ _ hf ad H locs k n lsA P)
  · exact hf.elim
theorem snd_aload {i : Nat} (hd : decode cc pc = .ok (.aload i, 2)) : Snd d own cc nL ret ini pc (s_ald i (pc + 2)) := by
  intro p l e s m args below meth c Q D cy bs g0 ad0 C hi ls st g K Qr hf hK hQ ad H locs k n lsA P
  simp only [s_ald] at hf
  split at hf
  · rename_i x hx
    exact lv_aload C.1 C.2.1 hd (P.2.2.2.1.2.2.2 _ _ hx rfl) (hK _ _ _ _ hf ad H locs k n lsA P)
  · exact hf.elim
def lst (ls : List Value) (i : Nat) : Bool := okst ls i && decide (i < ls.length)
def s_ist (i nx : Nat) : Stq := fun ls st g K _ => match st with
  | .int x :: st => cond (lst ls i) (K nx (ls.set i (.int x)) st g) False
  | _ => False
def s_ast (i nx : Nat) : Stq := fun ls st g K _ => match st with
  | .ref x :: st => cond (lst ls i) (K nx (ls.set i (.ref x)) st g) False
  | _ => False
def s_lst (i nx : Nat) : Stq := fun ls st g K _ => match st with
  | .long x :: st => cond (lst ls i && decide (i + 1 < ls.length)) (K nx ((ls.set i (.long x)).set (i + 1) U_) st g) False
  | _ => False
def s_inc (i : Nat) (y : Int32) (nx : Nat) : Stq := fun ls st g K _ => match ls[i]? with
  | some (.int x) => cond (lst ls i) (K nx (ls.set i (.int (x + y))) st g) False
  | _ => False
theorem Pnt.ls {D : va_G} {cy : Nat → ClassId} {bs : Nat} {s : State} {g0 : Sto} {ad0 ad : Nat → Nat} {g : Sto} {H : Heap} {locs : List Loc} {k n : Nat} {lsA lsB : Array Slot} {ls ls' : List Value} (P : Pnt nL D cy bs s g0 ad0 ad g H locs k n lsA ls) (h : LR lsB nL ad ls') : Pnt nL D cy bs s g0 ad0 ad g H locs k n lsB ls' := ⟨P.1, P.2.1, P.2.2.1, h, P.2.2.2.2⟩
theorem snd_istore_n {j : Fin 4} {i : Nat} (hd : decode cc pc = .ok (.istore_n j, 1)) (hj : (j : Nat) = i) : Snd d own cc nL ret ini pc (s_ist i (pc + 1)) := by
  intro p l e s m args below meth c Q D cy bs g0 ad0 C hi ls st g K Qr hf hK hQ ad H locs k n lsA P
  simp only [s_ist] at hf
  split at hf
  · rename_i x st
    cases hc : lst ls i with
    | false => rw [hc] at hf; exact hf.elim
    | true =>
      rw [hc] at hf
      simp only [lst, Bool.and_eq_true, decide_eq_true_eq] at hc
      exact lv_istore_n C.1 C.2.1 hd hj P.2.2.2.1.has (Nat.lt_of_lt_of_le hc.2 P.2.2.2.1.1) rfl (fun ls' hl => hK _ _ _ _ hf ad H locs k n ls' (P.ls (LR.of1 (v := .int x) hl hc.1 P.2.2.2.1.1)))
  · exact hf.elim
theorem snd_istore {i : Nat} (hd : decode cc pc = .ok (.istore i, 2)) : Snd d own cc nL ret ini pc (s_ist i (pc + 2)) := by
  intro p l e s m args below meth c Q D cy bs g0 ad0 C hi ls st g K Qr hf hK hQ ad H locs k n lsA P
  simp only [s_ist] at hf
  split at hf
  · rename_i x st
    cases hc : lst ls i with
    | false => rw [hc] at hf; exact hf.elim
    | true =>
      rw [hc] at hf
      simp only [lst, Bool.and_eq_true, decide_eq_true_eq] at hc
      exact lv_istore C.1 C.2.1 hd P.2.2.2.1.has (Nat.lt_of_lt_of_le hc.2 P.2.2.2.1.1) rfl (fun ls' hl => hK _ _ _ _ hf ad H locs k n ls' (P.ls (LR.of1 (v := .int x) hl hc.1 P.2.2.2.1.1)))
  · exact hf.elim
theorem snd_astore_n {j : Fin 4} {i : Nat} (hd : decode cc pc = .ok (.astore_n j, 1)) (hj : (j : Nat) = i) : Snd d own cc nL ret ini pc (s_ast i (pc + 1)) := by
  intro p l e s m args below meth c Q D cy bs g0 ad0 C hi ls st g K Qr hf hK hQ ad H locs k n lsA P
  simp only [s_ast] at hf
  split at hf
  · rename_i x st
    cases hc : lst ls i with
    | false => rw [hc] at hf; exact hf.elim
    | true =>
      rw [hc] at hf
      simp only [lst, Bool.and_eq_true, decide_eq_true_eq] at hc
      exact lv_astore_n C.1 C.2.1 hd hj P.2.2.2.1.has (Nat.lt_of_lt_of_le hc.2 P.2.2.2.1.1) rfl (fun ls' hl => hK _ _ _ _ hf ad H locs k n ls' (P.ls (LR.of1 (v := .ref x) hl hc.1 P.2.2.2.1.1)))
  · exact hf.elim
theorem snd_lstore {i : Nat} (hd : decode cc pc = .ok (.lstore i, 2)) : Snd d own cc nL ret ini pc (s_lst i (pc + 2)) := by
  intro p l e s m args below meth c Q D cy bs g0 ad0 C hi ls st g K Qr hf hK hQ ad H locs k n lsA P
  simp only [s_lst] at hf
  split at hf
  · rename_i x st
    cases hc : lst ls i && decide (i + 1 < ls.length) with
    | false => rw [hc] at hf; exact hf.elim
    | true =>
      rw [hc] at hf
      simp only [lst, Bool.and_eq_true, decide_eq_true_eq] at hc
      exact lv_lstore C.1 C.2.1 hd P.2.2.2.1.has (Nat.lt_of_lt_of_le hc.2 P.2.2.2.1.1) rfl (fun ls' hl => hK _ _ _ _ hf ad H locs k n ls' (P.ls (LR.of2 (v := .long x) hl hc.1.1 P.2.2.2.1.1)))
  · exact hf.elim
theorem snd_iinc {i : Nat} {y : Int} {z : Int32} (hd : decode cc pc = .ok (.iinc i y, 3)) (hz : Int32.ofInt y = z) : Snd d own cc nL ret ini pc (s_inc i z (pc + 3)) := by
  intro p l e s m args below meth c Q D cy bs g0 ad0 C hi ls st g K Qr hf hK hQ ad H locs k n lsA P
  simp only [s_inc] at hf
  split at hf
  · rename_i x hx
    cases hc : lst ls i with
    | false => rw [hc] at hf; exact hf.elim
    | true =>
      rw [hc] at hf
      simp only [lst, Bool.and_eq_true, decide_eq_true_eq] at hc
      have hlt := Nat.lt_of_lt_of_le hc.2 P.2.2.2.1.1
      obtain ⟨q, hq⟩ := List.getElem?_of_mem (lvl_mem (ad := ad) (ls := ls) (nL := nL) (q := (i, .int x)) |>.mpr ⟨.int x, hlt, hx, rfl, rfl⟩)
      exact lv_iinc (v := x + z) C.1 C.2.1 hd P.2.2.2.1.has hq (by rw [hz]) hlt rfl (fun ls' hl => hK _ _ _ _ hf ad H locs k n ls' (P.ls (LR.of1 (v := .int (x + z)) hl hc.1 P.2.2.2.1.1)))
  · exact hf.elim
end Steps

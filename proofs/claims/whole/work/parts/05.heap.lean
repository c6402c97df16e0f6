/-! steps over the heap -/
def ClI (ci : Nat) (C : String) (T : u_T) (N : Nat) (ty : Nat → FieldType) : Prop := vwCl[ci]? = some (C, T, N) ∧ (∀ w ∈ u_ws C T N, w ∈ gtb) ∧ (∀ k, k < N → parseFieldDescriptor (T k).2.2.1 = some (ty k)) ∧ ∀ a, a < N → ∀ b, b < N → a ≠ b → (T a).2.1 ≠ (T b).2.1
theorem lays_g {C : String} {T : u_T} {N : Nat} (h : ∀ w ∈ u_ws C T N, w ∈ lw_tbl) : ∀ w ∈ u_ws C T N, w ∈ gtb := by
  intro w hw
  refine List.mem_filter.mpr ⟨h w hw, ?_⟩
  obtain ⟨k, -, rfl⟩ := List.mem_map.mp hw
  unfold u_lay
  split <;> rfl
theorem Rep.put {D : va_G} {cy : Nat → ClassId} {bs : Nat} {ad : Nat → Nat} {g g' : Sto} {H H1 : Heap} {k : Nat} {s' : Shp} (R : Rep D cy bs ad g H) (hl : g.1 k ≠ none) (hk : g'.1 k = some s') (ho : ∀ j, j ≠ k → g'.1 j = g.1 j) (hc : ∀ j s, j ≠ k → cel cy ad g' j s = cel cy ad g j s)
    (he : va_at D vwCl (ad k, cel cy ad g' k s') H1) (hw : ∀ (j : Nat) (s : Shp), j ≠ k → g.1 j = some s → va_at D vwCl (ad j, cel cy ad g j s) H1) (hfit : Fit g'.1) : Rep D cy bs ad g' H1 := by
  have hn : ∀ j, g'.1 j ≠ none → g.1 j ≠ none := fun j hj => by
    by_cases h : j = k
    · rw [h]; exact hl
    · rw [← ho j h]; exact hj
  refine ⟨fun j s hj => ?_, fun i j hi hj hij => R.2.1 i j (hn i hi) (hn j hj) hij, fun j hj => R.2.2.1 j (hn j hj), fun j hj => ?_, hfit⟩
  · by_cases h : j = k
    · subst h
      rw [hk] at hj
      cases hj
      exact he
    · rw [hc j s h]
      exact hw j s h (by rw [← ho j h]; exact hj)
  · by_cases h : j = k
    · subst h
      exact absurd (R.2.2.2.1 j hj) hl
    · rw [ho j h]; exact R.2.2.2.1 j hj
theorem Pnt.wr {nL : Nat} {D : va_G} {cy : Nat → ClassId} {bs : Nat} {s : State} {g0 : Sto} {ad0 ad : Nat → Nat} {g g' : Sto} {H H1 : Heap} {locs locs1 : List Loc} {k n : Nat} {lsA : Array Slot} {ls : List Value} (P : Pnt nL D cy bs s g0 ad0 ad g H locs k n lsA ls) (hR : Rep D cy bs ad g' H1) (hS : va_S (fun q => bs ≤ q) s.heap H1 locs1) (hsh : g'.1 = g.1) : Pnt nL D cy bs s g0 ad0 ad g' H1 locs1 k n lsA ls := by
  refine ⟨hR, hS, ?_, P.2.2.2.1, P.2.2.2.2.1, ?_⟩
  · rw [hsh]; exact P.2.2.1
  · rw [hsh]; exact P.2.2.2.2.2
theorem fv_set {ad : Nat → Nat} {F F' : Nat → Int32} {fs : List Value} {f : Nat} {x y : Int32} (h : fs[f]? = some (.int y)) (hF : F' f = x) (ho : ∀ j, j ≠ f → F' j = F j) : (fs.mapIdx (fun i v => fvl ad (F i) v)).set f (.int x) = fs.mapIdx (fun i v => fvl ad (F' i) v) := by
  apply List.ext_getElem?
  intro j
  rw [List.getElem?_set, List.getElem?_mapIdx, List.getElem?_mapIdx]
  by_cases hj : f = j
  · subst hj
    have hl := (List.getElem?_eq_some_iff.mp h).1
    rw [if_pos rfl, if_pos (by rw [List.length_mapIdx]; exact hl), h]
    simp [fvl, hF]
  · rw [if_neg hj, ho j (fun e => hj e.symm)]
section Steps3
variable {d : Nat} {own : String} {cc : ByteArray} {nL : Nat} {ret : Option FieldType} {ini : Inq} {pc : Nat}
def s_getf (ci f nx : Nat) : Stq := fun ls st g K _ => match st with
  | .ref k :: st => match g.1 k with
    | some (.inl (ci', fs)) => if ci' = ci then (match fs[f]? with
      | some (.int _) => K nx ls (.int (g.2.1 k f) :: st) g
      | some (.ref j) => K nx ls (.ref j :: st) g
      | _ => False) else False
    | _ => False
  | _ => False
theorem getf_spec {ci f nx : Nat} {ls st : List Value} {g : Sto} {K : Kon} {Q : Rsl} (h : s_getf ci f nx ls st g K Q) : ∃ (k : Nat) (st' : List Value) (fs : List Value) (v w : Value), st = .ref k :: st' ∧ g.1 k = some (.inl (ci, fs)) ∧ fs[f]? = some v ∧ K nx ls (w :: st') g ∧ ∀ ad, cnc ad w = fvl ad (g.2.1 k f) v := by
  simp only [s_getf] at h
  split at h
  · rename_i k st'
    split at h
    · rename_i ci' fs hk
      split at h
      · rename_i hci
        subst hci
        split at h
        · rename_i y hv
          exact ⟨k, st', fs, _, _, rfl, hk, hv, h, fun _ => rfl⟩
        · rename_i j hv
          exact ⟨k, st', fs, _, _, rfl, hk, hv, h, fun _ => rfl⟩
        · exact h.elim
      · exact h.elim
    · exact h.elim
  · exact h.elim
theorem snd_getf {ci f N index : Nat} {C : String} {T : u_T} {ty : Nat → FieldType} (CI : ClI ci C T N ty) (hN : f < N) (hl : Cond.fieldLink own index (T f).1 (T f).2.1 (T f).2.2.1 ∈ gtb) (hd : decode cc pc = .ok (.getfield index, 3)) : Snd d own cc nL ret ini pc (s_getf ci f (pc + 3)) := by
  intro p l e s m args below meth c Q D cy bs g0 ad0 Cc hi ls st g K Qr hf hK hQ ad H locs k n lsA P
  obtain ⟨j, st', fs, v, w, rfl, hj, hv, hk, hc⟩ := getf_spec hf
  obtain ⟨ws, hP, hD, hin, -⟩ := P.1.list
  obtain ⟨q0, hq0⟩ := hin j _ hj
  have h1 := hK _ _ _ _ hk ad H locs k n lsA P
  rw [List.map_cons, hc ad] at h1
  exact va_get Cc.1 Cc.2.1 Cc.2.2.2.2.1 CI.2.1 Cc.2.2.2.1 Cc.2.2.2.2.2.2.1 hP q0 hq0 CI.1 f hN (Cc.2.2.2.2.1 _ hl) (fun _ h => h) (by rw [List.getElem?_mapIdx, hv]; rfl) hd h1
theorem snd_getfN {ci f N index : Nat} {C host : String} {T : u_T} {ty : Nat → FieldType} (CI : ClI ci C T N ty) (hN : f < N) (hl : Cond.fieldLinkNest own index (T f).1 (T f).2.1 (T f).2.2.1 host ∈ ntb) (hd : decode cc pc = .ok (.getfield index, 3)) : Snd d own cc nL ret ini pc (s_getf ci f (pc + 3)) := by
  intro p l e s m args below meth c Q D cy bs g0 ad0 Cc hi ls st g K Qr hf hK hQ ad H locs k n lsA P
  obtain ⟨j, st', fs, v, w, rfl, hj, hv, hk, hc⟩ := getf_spec hf
  obtain ⟨ws, hP, hD, hin, -⟩ := P.1.list
  obtain ⟨q0, hq0⟩ := hin j _ hj
  have h1 := hK _ _ _ _ hk ad H locs k n lsA P
  rw [List.map_cons, hc ad] at h1
  exact va_getN Cc.1 Cc.2.1 Cc.2.2.2.2.1 CI.2.1 Cc.2.2.2.1 Cc.2.2.2.2.2.2.1 hP q0 hq0 CI.1 f hN (va_Nw.use rfl (Cc.2.2.2.2.2.1 _ hl)) (fun _ h => h) (by rw [List.getElem?_mapIdx, hv]; rfl) hd h1
def gI' (g : Sto) (k f : Nat) (x : Int32) : Sto := (g.1, up1 g.2.1 k (up1 (g.2.1 k) f x), g.2.2)
def s_puti (ci f nx : Nat) : Stq := fun ls st g K _ => match st with
  | .int x :: .ref k :: st => match g.1 k with
    | some (.inl (ci', fs)) => if ci' = ci then (match fs[f]? with
      | some (.int _) => K nx ls st (gI' g k f x)
      | _ => False) else False
    | _ => False
  | _ => False
theorem puti_spec {ci f nx : Nat} {ls st : List Value} {g : Sto} {K : Kon} {Q : Rsl} (h : s_puti ci f nx ls st g K Q) : ∃ (k : Nat) (x y : Int32) (st' : List Value) (fs : List Value), st = .int x :: .ref k :: st' ∧ g.1 k = some (.inl (ci, fs)) ∧ fs[f]? = some (.int y) ∧ K nx ls st' (gI' g k f x) := by
  simp only [s_puti] at h
  split at h
  · rename_i x k st'
    split at h
    · rename_i ci' fs hk
      split at h
      · rename_i hci
        subst hci
        split at h
        · rename_i y hv
          exact ⟨k, x, y, st', fs, rfl, hk, hv, h⟩
        · exact h.elim
      · exact h.elim
    · exact h.elim
  · exact h.elim
theorem puti_rep {D : va_G} {cy : Nat → ClassId} {bs : Nat} {ad : Nat → Nat} {g : Sto} {H H1 : Heap} {k f ci : Nat} {x y : Int32} {fs : List Value} {q0 : Nat} {ws : va_W} (R : Rep D cy bs ad g H) (hk : g.1 k = some (.inl (ci, fs))) (hf : fs[f]? = some (.int y))
    (hw : ∀ (q0 k : Nat) (e0 e : va_E) (H1 : Heap), g.1 k ≠ none → ws[q0]? = some (ad k, e0) → va_P D vwCl (ws.set q0 (ad k, e)) H1 → va_at D vwCl (ad k, e) H1 ∧ ∀ (j : Nat) (s : Shp), j ≠ k → g.1 j = some s → va_at D vwCl (ad j, cel cy ad g j s) H1)
    (hq0 : ws[q0]? = some (ad k, cel cy ad g k (.inl (ci, fs)))) (hP : va_P D vwCl (ws.set q0 (ad k, .inr (ci, (fs.mapIdx (fun i v => fvl ad (g.2.1 k i) v)).set f (.int x)))) H1) : Rep D cy bs ad (gI' g k f x) H1 := by
  obtain ⟨h1, h2⟩ := hw q0 k _ _ H1 (by rw [hk]; simp) hq0 hP
  refine R.put (k := k) (s' := .inl (ci, fs)) (by rw [hk]; simp) hk (fun _ _ => rfl) (fun j s hj => ?_) ?_ h2 R.2.2.2.2
  · unfold cel gI'
    simp only [up1_n _ _ hj]
  · rw [fv_set (F' := up1 (g.2.1 k) f x) hf (up1_s _ _ _) (fun j hj => up1_n _ _ hj)] at h1
    unfold cel gI'
    simp only [up1_s]
    exact h1
theorem snd_puti {ci f N index : Nat} {C : String} {T : u_T} {ty : Nat → FieldType} (CI : ClI ci C T N ty) (hN : f < N) (hl : Cond.fieldLink own index (T f).1 (T f).2.1 (T f).2.2.1 ∈ gtb) (hfin : (T f).2.2.2 = false) (hty : parseFieldDescriptor (T f).2.2.1 = some .int) (hd : decode cc pc = .ok (.putfield index, 3)) : Snd d own cc nL ret ini pc (s_puti ci f (pc + 3)) := by
  intro p l e s m args below meth c Q D cy bs g0 ad0 Cc hi ls st g K Qr hf hK hQ ad H locs k n lsA P
  obtain ⟨j, x, y, st', fs, rfl, hj, hv, hk⟩ := puti_spec hf
  obtain ⟨ws, hP, hD, hin, hw⟩ := P.1.list
  obtain ⟨q0, hq0⟩ := hin j _ hj
  refine va_put Cc.1 Cc.2.1 Cc.2.2.2.2.1 CI.2.1 ty CI.2.2.1 CI.2.2.2 Cc.2.2.2.1 Cc.2.2.2.2.2.2.1 hP hD P.2.1 q0 hq0 CI.1 f hN (Cc.2.2.2.2.1 _ hl) (fun _ h => h) hfin (v := .int x) hty rfl rfl (by rw [List.length_mapIdx]; exact (List.getElem?_eq_some_iff.mp hv).1) hd (fun H1 locs1 hP1 hD1 hS1 => ?_)
  exact hK _ _ _ _ hk ad H1 locs1 k n lsA (P.wr (puti_rep P.1 hj hv hw hq0 hP1) hS1 rfl)
theorem snd_putiN {ci f N index : Nat} {C host : String} {T : u_T} {ty : Nat → FieldType} (CI : ClI ci C T N ty) (hN : f < N) (hl : Cond.fieldLinkNest own index (T f).1 (T f).2.1 (T f).2.2.1 host ∈ ntb) (hfin : (T f).2.2.2 = false) (hty : parseFieldDescriptor (T f).2.2.1 = some .int) (hd : decode cc pc = .ok (.putfield index, 3)) : Snd d own cc nL ret ini pc (s_puti ci f (pc + 3)) := by
  intro p l e s m args below meth c Q D cy bs g0 ad0 Cc hi ls st g K Qr hf hK hQ ad H locs k n lsA P
  obtain ⟨j, x, y, st', fs, rfl, hj, hv, hk⟩ := puti_spec hf
  obtain ⟨ws, hP, hD, hin, hw⟩ := P.1.list
  obtain ⟨q0, hq0⟩ := hin j _ hj
  refine va_putN Cc.1 Cc.2.1 Cc.2.2.2.2.1 CI.2.1 ty CI.2.2.1 CI.2.2.2 Cc.2.2.2.1 Cc.2.2.2.2.2.2.1 hP hD P.2.1 q0 hq0 CI.1 f hN (va_Nw.use rfl (Cc.2.2.2.2.2.1 _ hl)) (fun _ h => h) hfin (v := .int x) hty rfl rfl (by rw [List.length_mapIdx]; exact (List.getElem?_eq_some_iff.mp hv).1) hd (fun H1 locs1 hP1 hD1 hS1 => ?_)
  exact hK _ _ _ _ hk ad H1 locs1 k n lsA (P.wr (puti_rep P.1 hj hv hw hq0 hP1) hS1 rfl)
def s_putz (ci f nx : Nat) : Stq := fun ls st g K Q => match st with
  | .int x :: _ => (x = 0 ∨ x = 1) ∧ s_puti ci f nx ls st g K Q
  | _ => False
theorem snd_putz {ci f N index : Nat} {C : String} {T : u_T} {ty : Nat → FieldType} (CI : ClI ci C T N ty) (hN : f < N) (hl : Cond.fieldLink own index (T f).1 (T f).2.1 (T f).2.2.1 ∈ gtb) (hfin : (T f).2.2.2 = false) (hty : parseFieldDescriptor (T f).2.2.1 = some .boolean) (hd : decode cc pc = .ok (.putfield index, 3)) : Snd d own cc nL ret ini pc (s_putz ci f (pc + 3)) := by
  intro p l e s m args below meth c Q D cy bs g0 ad0 Cc hi ls st g K Qr hf hK hQ ad H locs k n lsA P
  simp only [s_putz] at hf
  split at hf
  · obtain ⟨h01, hf⟩ := hf
    obtain ⟨j, x, y, st', fs, he, hj, hv, hk⟩ := puti_spec hf
    injection he with he1 he2
    injection he1 with he1
    subst he1
    subst he2
    obtain ⟨ws, hP, hD, hin, hw⟩ := P.1.list
    obtain ⟨q0, hq0⟩ := hin j _ hj
    refine va_put Cc.1 Cc.2.1 Cc.2.2.2.2.1 CI.2.1 ty CI.2.2.1 CI.2.2.2 Cc.2.2.2.1 Cc.2.2.2.2.2.2.1 hP hD P.2.1 q0 hq0 CI.1 f hN (Cc.2.2.2.2.1 _ hl) (fun _ h => h) hfin (v := .int _) hty (by rcases h01 with h | h <;> subst h <;> decide) (by rcases h01 with h | h <;> subst h <;> decide) (by rw [List.length_mapIdx]; exact (List.getElem?_eq_some_iff.mp hv).1) hd (fun H1 locs1 hP1 hD1 hS1 => ?_)
    exact hK _ _ _ _ hk ad H1 locs1 k n lsA (P.wr (puti_rep P.1 hj hv hw hq0 hP1) hS1 rfl)
  · exact hf.elim
/-! arrays -/
def gA' (g : Sto) (k i : Nat) (x : Int32) : Sto := (g.1, g.2.1, up1 g.2.2.1 k (up1 (g.2.2.1 k) i x), g.2.2.2)
def gL' (g : Sto) (k i : Nat) (x : Int64) : Sto := (g.1, g.2.1, g.2.2.1, up1 g.2.2.2 k (up1 (g.2.2.2 k) i x))
def s_iald (nx : Nat) : Stq := fun ls st g K _ => match st with
  | .int i :: .ref k :: st => match g.1 k with
    | some (.inr (0, n)) => vp_in i n ∧ K nx ls (.int (g.2.2.1 k i.toNatClampNeg) :: st) g
    | _ => False
  | _ => False
theorem snd_iald (hd : decode cc pc = .ok (.iaload, 1)) : Snd d own cc nL ret ini pc (s_iald (pc + 1)) := by
  intro p l e s m args below meth c Q D cy bs g0 ad0 Cc hi ls st g K Qr hf hK hQ ad H locs k n lsA P
  simp only [s_iald] at hf
  split at hf
  · rename_i i j st'
    split at hf
    · rename_i n' hj
      obtain ⟨ws, hP, hD, hin, hw⟩ := P.1.list
      obtain ⟨q0, hq0⟩ := hin j _ hj
      exact va_iald Cc.1 Cc.2.1 Cc.2.2.2.2.2.2.1 hP q0 0 hq0 rfl hf.1 hd (hK _ _ _ _ hf.2 ad H locs k n lsA P)
    · exact hf.elim
  · exact hf.elim
def s_zald (nx : Nat) : Stq := fun ls st g K _ => match st with
  | .int i :: .ref k :: st => match g.1 k with
    | some (.inr (2, n)) => vp_in i n ∧ K nx ls (.int (g.2.2.1 k i.toNatClampNeg) :: st) g
    | _ => False
  | _ => False
theorem snd_zald (hd : decode cc pc = .ok (.baload, 1)) : Snd d own cc nL ret ini pc (s_zald (pc + 1)) := by
  intro p l e s m args below meth c Q D cy bs g0 ad0 Cc hi ls st g K Qr hf hK hQ ad H locs k n lsA P
  simp only [s_zald] at hf
  split at hf
  · rename_i i j st'
    split at hf
    · rename_i n' hj
      obtain ⟨ws, hP, hD, hin, hw⟩ := P.1.list
      obtain ⟨q0, hq0⟩ := hin j _ hj
      exact va_zald Cc.1 Cc.2.1 Cc.2.2.2.2.2.2.1 hP q0 2 hq0 rfl hf.1 hd (hK _ _ _ _ hf.2 ad H locs k n lsA P)
    · exact hf.elim
  · exact hf.elim
def s_lald (nx : Nat) : Stq := fun ls st g K _ => match st with
  | .int i :: .ref k :: st => match g.1 k with
    | some (.inr (1, n)) => vp_in i n ∧ K nx ls (.long (g.2.2.2 k i.toNatClampNeg) :: st) g
    | _ => False
  | _ => False
theorem snd_lald (hd : decode cc pc = .ok (.laload, 1)) : Snd d own cc nL ret ini pc (s_lald (pc + 1)) := by
  intro p l e s m args below meth c Q D cy bs g0 ad0 Cc hi ls st g K Qr hf hK hQ ad H locs k n lsA P
  simp only [s_lald] at hf
  split at hf
  · rename_i i j st'
    split at hf
    · rename_i n' hj
      obtain ⟨ws, hP, hD, hin, hw⟩ := P.1.list
      obtain ⟨q0, hq0⟩ := hin j _ hj
      exact va_lald Cc.1 Cc.2.1 Cc.2.2.2.2.2.2.1 hP q0 1 hq0 rfl hf.1 hd (hK _ _ _ _ hf.2 ad H locs k n lsA P)
    · exact hf.elim
  · exact hf.elim
theorem gA_rep {D : va_G} {cy : Nat → ClassId} {bs : Nat} {ad : Nat → Nat} {g : Sto} {H H1 : Heap} {k kd n : Nat} {q0 : Nat} {ws : va_W} {e1 : va_E} {a0 : Nat → Int32} (R : Rep D cy bs ad g H) (hk : g.1 k = some (.inr (kd, n)))
    (hw : ∀ (q0 k : Nat) (e0 e : va_E) (H1 : Heap), g.1 k ≠ none → ws[q0]? = some (ad k, e0) → va_P D vwCl (ws.set q0 (ad k, e)) H1 → va_at D vwCl (ad k, e) H1 ∧ ∀ (j : Nat) (s : Shp), j ≠ k → g.1 j = some s → va_at D vwCl (ad j, cel cy ad g j s) H1)
    (hq0 : ws[q0]? = some (ad k, cel cy ad g k (.inr (kd, n)))) (hP : va_P D vwCl (ws.set q0 (ad k, e1)) H1) (he : e1 = cel cy ad (g.1, g.2.1, up1 g.2.2.1 k a0, g.2.2.2) k (.inr (kd, n))) : Rep D cy bs ad (g.1, g.2.1, up1 g.2.2.1 k a0, g.2.2.2) H1 := by
  obtain ⟨h1, h2⟩ := hw q0 k _ _ H1 (by rw [hk]; simp) hq0 hP
  refine R.put (k := k) (s' := .inr (kd, n)) (by rw [hk]; simp) hk (fun _ _ => rfl) (fun j s hj => ?_) (by rw [← he]; exact h1) h2 R.2.2.2.2
  unfold cel
  simp only [up1_n _ _ hj]
def s_iast (nx : Nat) : Stq := fun ls st g K _ => match st with
  | .int x :: .int i :: .ref k :: st => match g.1 k with
    | some (.inr (0, n)) => vp_in i n ∧ K nx ls st (gA' g k i.toNatClampNeg x)
    | _ => False
  | _ => False
theorem snd_iast (hd : decode cc pc = .ok (.iastore, 1)) : Snd d own cc nL ret ini pc (s_iast (pc + 1)) := by
  intro p l e s m args below meth c Q D cy bs g0 ad0 Cc hi ls st g K Qr hf hK hQ ad H locs k n lsA P
  simp only [s_iast] at hf
  split at hf
  · rename_i x i j st'
    split at hf
    · rename_i n' hj
      obtain ⟨ws, hP, hD, hin, hw⟩ := P.1.list
      obtain ⟨q0, hq0⟩ := hin j _ hj
      refine va_iast Cc.1 Cc.2.1 Cc.2.2.2.2.2.2.1 hP hD P.2.1 q0 0 hq0 rfl hf.1 hd (fun H1 locs1 hP1 hD1 hS1 => ?_)
      exact hK _ _ _ _ hf.2 ad H1 locs1 k n lsA (P.wr (gA_rep P.1 hj hw hq0 hP1 (by unfold cel; simp only [up1_s]; rfl)) hS1 rfl)
    · exact hf.elim
  · exact hf.elim
def s_zast (nx : Nat) : Stq := fun ls st g K _ => match st with
  | .int x :: .int i :: .ref k :: st => match g.1 k with
    | some (.inr (2, n)) => (x = 0 ∨ x = 1) ∧ vp_in i n ∧ K nx ls st (gA' g k i.toNatClampNeg x)
    | _ => False
  | _ => False
theorem snd_zast (hd : decode cc pc = .ok (.bastore, 1)) : Snd d own cc nL ret ini pc (s_zast (pc + 1)) := by
  intro p l e s m args below meth c Q D cy bs g0 ad0 Cc hi ls st g K Qr hf hK hQ ad H locs k n lsA P
  simp only [s_zast] at hf
  split at hf
  · rename_i x i j st'
    split at hf
    · rename_i n' hj
      obtain ⟨h01, hf⟩ := hf
      obtain ⟨ws, hP, hD, hin, hw⟩ := P.1.list
      obtain ⟨q0, hq0⟩ := hin j _ hj
      have hx : vp_nar .boolean x = x := by rcases h01 with h | h <;> subst h <;> decide
      refine va_zast Cc.1 Cc.2.1 Cc.2.2.2.2.2.2.1 hP hD P.2.1 q0 2 hq0 rfl hf.1 hd (fun H1 locs1 hP1 hD1 hS1 => ?_)
      rw [hx] at hP1
      exact hK _ _ _ _ hf.2 ad H1 locs1 k n lsA (P.wr (gA_rep P.1 hj hw hq0 hP1 (by unfold cel; simp only [up1_s]; rfl)) hS1 rfl)
    · exact hf.elim
  · exact hf.elim
def s_last (nx : Nat) : Stq := fun ls st g K _ => match st with
  | .long x :: .int i :: .ref k :: st => match g.1 k with
    | some (.inr (1, n)) => vp_in i n ∧ K nx ls st (gL' g k i.toNatClampNeg x)
    | _ => False
  | _ => False
theorem snd_last (hd : decode cc pc = .ok (.lastore, 1)) : Snd d own cc nL ret ini pc (s_last (pc + 1)) := by
  intro p l e s m args below meth c Q D cy bs g0 ad0 Cc hi ls st g K Qr hf hK hQ ad H locs k n lsA P
  simp only [s_last] at hf
  split at hf
  · rename_i x i j st'
    split at hf
    · rename_i n' hj
      obtain ⟨ws, hP, hD, hin, hw⟩ := P.1.list
      obtain ⟨q0, hq0⟩ := hin j _ hj
      refine va_last Cc.1 Cc.2.1 Cc.2.2.2.2.2.2.1 hP hD P.2.1 q0 1 hq0 rfl hf.1 hd (fun H1 locs1 hP1 hD1 hS1 => ?_)
      refine hK _ _ _ _ hf.2 ad H1 locs1 k n lsA (P.wr ?_ hS1 rfl)
      obtain ⟨h1, h2⟩ := hw q0 j _ _ H1 (by rw [hj]; simp) hq0 hP1
      refine P.1.put (k := j) (s' := .inr (1, n')) (by rw [hj]; simp) hj (fun _ _ => rfl) (fun j' s hj' => ?_) ?_ h2 P.1.2.2.2.2
      · unfold cel gL'
        simp only [up1_n _ _ hj']
      · have e1 : cel cy ad (gL' g j i.toNatClampNeg x) j (.inr (1, n')) = .inl (cy 1, n', .inr (.inl (vp_updL (g.2.2.2 j) i.toNatClampNeg x))) := by unfold cel gL'; simp only [up1_s]; rfl
        rw [e1]
        exact h1
    · exact hf.elim
  · exact hf.elim
def s_alen (nx : Nat) : Stq := fun ls st g K _ => match st with
  | .ref k :: st => match g.1 k with
    | some (.inr (0, n)) => K nx ls (.int (nI n) :: st) g
    | some (.inr (1, n)) => K nx ls (.int (nI n) :: st) g
    | _ => False
  | _ => False
theorem snd_alen (hd : decode cc pc = .ok (.arraylength, 1)) : Snd d own cc nL ret ini pc (s_alen (pc + 1)) := by
  intro p l e s m args below meth c Q D cy bs g0 ad0 Cc hi ls st g K Qr hf hK hQ ad H locs k n lsA P
  simp only [s_alen] at hf
  split at hf
  · rename_i j st'
    split at hf
    · rename_i n' hj
      obtain ⟨ws, hP, hD, hin, hw⟩ := P.1.list
      obtain ⟨q0, hq0⟩ := hin j _ hj
      exact va_alen Cc.1 Cc.2.1 Cc.2.2.2.2.2.2.1 hP q0 0 hq0 rfl rfl hd (hK _ _ _ _ hf ad H locs k n lsA P)
    · rename_i n' hj
      obtain ⟨ws, hP, hD, hin, hw⟩ := P.1.list
      obtain ⟨q0, hq0⟩ := hin j _ hj
      exact va_alen Cc.1 Cc.2.1 Cc.2.2.2.2.2.2.1 hP q0 1 hq0 rfl rfl hd (hK _ _ _ _ hf ad H locs k n lsA P)
    · exact hf.elim
  · exact hf.elim
/-- System.arraycopy of ints -/
def s_copy (nx : Nat) : Stq := fun ls st g K _ => match st with
  | .int n :: .int dp :: .ref b :: .int sp :: .ref a :: st => match g.1 a, g.1 b with
    | some (.inr (0, n0)), some (.inr (0, n1)) => (¬ sp < 0 ∧ ¬ dp < 0 ∧ ¬ n < 0 ∧ sp.toNatClampNeg + n.toNatClampNeg ≤ n0 ∧ dp.toNatClampNeg + n.toNatClampNeg ≤ n1) ∧ cond (decide ((st.map fun v => v.category).sum ≤ 8)) (K nx ls st (g.1, g.2.1, up1 g.2.2.1 b (va_cpy (g.2.2.1 a) (g.2.2.1 b) sp.toNatClampNeg dp.toNatClampNeg n.toNatClampNeg), g.2.2.2)) False
    | _, _ => False
  | _ => False
theorem cat_map (ad : Nat → Nat) (st : List Value) : ((st.map (cnc ad)).map fun v => v.category) = st.map fun v => v.category := by
  rw [List.map_map]
  exact List.map_congr_left fun v _ => cnc_cat ad v
theorem snd_copy {index : Nat} (hd1 : 1 ≤ d) (hl : Cond.methodLink own index arraycopyName ∈ gtb) (h2 : Cond.native arraycopyName ∈ gtb) (h3 : Cond.static arraycopyName ∈ gtb) (h4 : Cond.initialized "java/lang/System" ∈ gtb) (hd : decode cc pc = .ok (.invokestatic index, 3)) : Snd d own cc nL ret ini pc (s_copy (pc + 3)) := by
  intro p l e s m args below meth c Q D cy bs g0 ad0 Cc hi ls st g K Qr hf hK hQ ad H locs k n lsA P
  simp only [s_copy] at hf
  split at hf
  · rename_i n2 dp b sp a st'
    split at hf
    · rename_i n0 n1 ha hb
      obtain ⟨⟨q1, q2, q3, q4, q5⟩, hf⟩ := hf
      cases hc : decide ((st'.map fun v => v.category).sum ≤ 8) with
      | false => rw [hc] at hf; exact hf.elim
      | true =>
        rw [hc] at hf
        have hc := of_decide_eq_true hc
        obtain ⟨ws, hP, hD, hin, hw⟩ := P.1.list
        obtain ⟨i0, hi0⟩ := hin a _ ha
        obtain ⟨i1, hi1⟩ := hin b _ hb
        refine va_copyi Cc.1 Cc.2.1 (by rw [Cc.2.2.1, P.2.2.2.1.2.1]) Cc.2.2.2.1 (Cc.2.2.2.2.1 _ hl) (Cc.2.2.2.2.1 _ h2) (Cc.2.2.2.2.1 _ h3) (Cc.2.2.2.2.1 _ h4) Cc.2.2.2.2.2.2.1 hP hD P.2.1 i0 i1 0 0 hi0 hi1 rfl rfl rfl q1 q2 q3 q4 q5 (fun _ _ => rfl) hd1 (by rw [cat_map]; show _ + (5 + 2 + 11) ≤ 32 * d + 8; omega) hd (fun H1 locs1 hP1 hD1 hS1 => ?_)
        exact hK _ _ _ _ hf ad H1 locs1 k n lsA (P.wr (gA_rep P.1 hb hw hi1 hP1 (by unfold cel; simp only [up1_s])) hS1 rfl)
    · exact hf.elim
  · exact hf.elim
/-- the call of Object's own constructor -/
def s_oini (nx : Nat) : Stq := fun ls st g K _ => match st with
  | .ref _ :: st => cond (decide ((st.map fun v => v.category).sum ≤ 8)) (K nx ls st g) False
  | _ => False
theorem snd_oini {index : Nat} (hd1 : 1 ≤ d) (hl : Cond.methodLink own index objectInit ∈ gtb) (h2 : Cond.instanceMethod objectInit ∈ gtb) (h3 : Cond.code objectInit ⟨#[0xb1]⟩ 1 none ∈ gtb) (hd : decode cc pc = .ok (.invokespecial index, 3)) : Snd d own cc nL ret ini pc (s_oini (pc + 3)) := by
  intro p l e s m args below meth c Q D cy bs g0 ad0 Cc hi ls st g K Qr hf hK hQ ad H locs k n lsA P
  simp only [s_oini] at hf
  split at hf
  · rename_i a st'
    cases hc : decide ((st'.map fun v => v.category).sum ≤ 8) with
    | false => rw [hc] at hf; exact hf.elim
    | true =>
      rw [hc] at hf
      have hc := of_decide_eq_true hc
      refine W.objInit Cc.1 Cc.2.1 Cc.2.2.2.1 (Cc.2.2.2.2.1 _ hl) (Cc.2.2.2.2.1 _ h2) (Cc.2.2.2.2.1 _ h3) (rest := st'.map (cnc ad)) rfl (by show lsA.size = _; rw [Cc.2.2.1, P.2.2.2.1.2.1]) rfl hd hd1 (by rw [cat_map]; show 2 * 0 + _ + 12 ≤ 32 * d + 8; omega) ?_
      exact hK _ _ _ _ hf ad H locs k n lsA P
  · exact hf.elim
end Steps3

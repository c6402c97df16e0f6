/-! references put into fields -/
theorem fv_setr {ad ad' : Nat → Nat} {F : Nat → Int32} {fs : List Value} {f j q : Nat} (hl : f < fs.length) (hj : ad' j = q) (ho : ∀ (i : Nat) (v : Value), i ≠ f → fs[i]? = some v → ∀ x, fvl ad' x v = fvl ad x v) : (fs.mapIdx (fun i v => fvl ad (F i) v)).set f (.ref q) = (fs.set f (.ref j)).mapIdx (fun i v => fvl ad' (F i) v) := by
  apply List.ext_getElem?
  intro i
  rw [List.getElem?_set, List.getElem?_mapIdx, List.getElem?_mapIdx, List.getElem?_set, List.length_mapIdx]
  by_cases hi : f = i
  · subst hi
    rw [if_pos rfl, if_pos hl, if_pos rfl, if_pos hl]
    show some (Value.ref q) = some (Value.ref (ad' j))
    rw [hj]
  · rw [if_neg hi, if_neg hi]
    cases hv : fs[i]? with
    | none => rfl
    | some v =>
      show some (fvl ad (F i) v) = some (fvl ad' (F i) v)
      rw [ho i v (fun e => hi e.symm) hv]
theorem cel_arr {cy : Nat → ClassId} {ad ad' : Nat → Nat} {g g' : Sto} {k k' kd n : Nat} (ha : g'.2.2.1 k' = g.2.2.1 k) (hl : g'.2.2.2 k' = g.2.2.2 k) : cel cy ad' g' k' (.inr (kd, n)) = cel cy ad g k (.inr (kd, n)) := by
  unfold cel
  rw [ha, hl]
  rcases kd with _ | _ | z <;> rfl
section Steps6
variable {d : Nat} {own : String} {cc : ByteArray} {nL : Nat} {ret : Option FieldType} {ini : Inq} {pc : Nat}
def g_putr (g : Sto) (k ci f : Nat) (fs : List Value) (j : Nat) : Sto := (up1 g.1 k (some (.inl (ci, fs.set f (.ref j)))), g.2)
def s_putr (ci f nx : Nat) : Stq := fun ls st g K _ => match st with
  | .ref j :: .ref k :: st => match g.1 k with
    | some (.inl (ci', fs)) => if ci' = ci ∧ f < fs.length then K nx ls st (g_putr g k ci f fs j) else False
    | _ => False
  | _ => False
theorem putr_spec {ci f nx : Nat} {ls st : List Value} {g : Sto} {K : Kon} {Q : Rsl} (h : s_putr ci f nx ls st g K Q) : ∃ (k j : Nat) (st' : List Value) (fs : List Value), st = .ref j :: .ref k :: st' ∧ g.1 k = some (.inl (ci, fs)) ∧ f < fs.length ∧ K nx ls st' (g_putr g k ci f fs j) := by
  simp only [s_putr] at h
  split at h
  · rename_i j k st'
    split at h
    · rename_i ci' fs hk
      split at h
      · rename_i hci
        obtain ⟨rfl, hl⟩ := hci
        exact ⟨k, j, st', fs, rfl, hk, hl, h⟩
      · exact h.elim
    · exact h.elim
  · exact h.elim
theorem putr_pnt {D : va_G} {cy : Nat → ClassId} {bs : Nat} {s : State} {g0 : Sto} {ad0 ad : Nat → Nat} {g : Sto} {H H1 : Heap} {locs locs1 : List Loc} {k n b f ci j : Nat} {lsA : Array Slot} {ls fs : List Value} {q0 : Nat} {ws : va_W} (P : Pnt nL D cy bs s g0 ad0 ad g H locs k n lsA ls) (hk : g.1 b = some (.inl (ci, fs))) (hl : f < fs.length)
    (hw : ∀ (q0 k : Nat) (e0 e : va_E) (H1 : Heap), g.1 k ≠ none → ws[q0]? = some (ad k, e0) → va_P D vwCl (ws.set q0 (ad k, e)) H1 → va_at D vwCl (ad k, e) H1 ∧ ∀ (j : Nat) (s : Shp), j ≠ k → g.1 j = some s → va_at D vwCl (ad j, cel cy ad g j s) H1)
    (hq0 : ws[q0]? = some (ad b, cel cy ad g b (.inl (ci, fs)))) (hP : va_P D vwCl (ws.set q0 (ad b, .inr (ci, (fs.mapIdx (fun i v => fvl ad (g.2.1 b i) v)).set f (.ref (ad j))))) H1) (hS : va_S (fun q => bs ≤ q) s.heap H1 locs1) : Pnt nL D cy bs s g0 ad0 ad (g_putr g b ci f fs j) H1 locs1 k n lsA ls := by
  obtain ⟨h1, h2⟩ := hw q0 b _ _ H1 (by rw [hk]; simp) hq0 hP
  have hb : b < 49 := by
    rcases Nat.lt_or_ge b 49 with q | q
    · exact q
    · rw [P.1.2.2.2.1 b q] at hk; cases hk
  have hc := cU_up (sh := g.1) (sh' := (g_putr g b ci f fs j).1) hb (fun j hj => up1_n _ _ hj)
  have hs := sU_up (sh := g.1) (sh' := (g_putr g b ci f fs j).1) hb (fun j hj => up1_n _ _ hj)
  have e1 : (g_putr g b ci f fs j).1 b = some (.inl (ci, fs.set f (.ref j))) := up1_s _ _ _
  rw [hk, e1] at hc hs
  have e2 : cwt b (some (.inl (ci, fs))) = cwt b (some (.inl (ci, fs.set f (.ref j)))) := rfl
  have e3 : swt b (some (.inl (ci, fs))) = swt b (some (.inl (ci, fs.set f (.ref j)))) := by show fs.length = (fs.set f (.ref j)).length; rw [List.length_set]
  have hcnt := P.2.2.1
  have hfit : cU g.1 ≤ 60000 ∧ sU g.1 ≤ 730225 := P.1.2.2.2.2
  refine ⟨?_, hS, ⟨by omega, by omega⟩, P.2.2.2.1, P.2.2.2.2.1, fun i hi hg => ?_⟩
  · refine P.1.put (k := b) (s' := .inl (ci, fs.set f (.ref j))) (by rw [hk]; simp) e1 (fun i hi => up1_n _ _ hi) (fun i s hi => rfl) ?_ h2 ⟨by omega, by omega⟩
    rw [fv_setr (ad' := ad) (j := j) hl rfl (fun _ _ _ _ _ => rfl)] at h1
    exact h1
  · by_cases h : i = b
    · subst h; rw [e1]; simp
    · show up1 g.1 b _ i ≠ none
      rw [up1_n _ _ h]; exact P.2.2.2.2.2 i hi hg
def isR (ty : FieldType) : Bool := match ty with
  | .object _ => true
  | .array _ => true
  | _ => false
theorem isR_fit {ty : FieldType} (h : isR ty = true) (a : Nat) : narrow ty (.ref a) = .ref a ∧ fits ty (.ref a) = true := by
  cases ty <;> first | exact ⟨rfl, rfl⟩ | cases h
theorem snd_putr {ci f N index : Nat} {C : String} {T : u_T} {ty : Nat → FieldType} {t : FieldType} (CI : ClI ci C T N ty) (hN : f < N) (hl : Cond.fieldLink own index (T f).1 (T f).2.1 (T f).2.2.1 ∈ gtb) (hfin : (T f).2.2.2 = false) (hty : parseFieldDescriptor (T f).2.2.1 = some t) (ht : isR t = true) (hd : decode cc pc = .ok (.putfield index, 3)) : Snd d own cc nL ret ini pc (s_putr ci f (pc + 3)) := by
  intro p l e s m args below meth c Q D cy bs g0 ad0 Cc hi ls st g K Qr hf hK hQ ad H locs k n lsA P
  obtain ⟨b, j, st', fs, rfl, hb, hfl, hk⟩ := putr_spec hf
  obtain ⟨ws, hP, hD, hin, hw⟩ := P.1.list
  obtain ⟨q0, hq0⟩ := hin b _ hb
  refine va_put Cc.1 Cc.2.1 Cc.2.2.2.2.1 CI.2.1 ty CI.2.2.1 CI.2.2.2 Cc.2.2.2.1 Cc.2.2.2.2.2.2.1 hP hD P.2.1 q0 hq0 CI.1 f hN (Cc.2.2.2.2.1 _ hl) (fun _ h => h) hfin (v := .ref (ad j)) hty (isR_fit ht _).1 (isR_fit ht _).2 (by rw [List.length_mapIdx]; exact hfl) hd (fun H1 locs1 hP1 hD1 hS1 => ?_)
  exact hK _ _ _ _ hk ad H1 locs1 k n lsA (putr_pnt P hb hfl hw hq0 hP1 hS1)
/-- of every method: its name -/
def inM (nm : String) : Inq := fun _ meth _ _ => meth.name = nm
theorem snd_putrF {ci f N index : Nat} {C : String} {T : u_T} {ty : Nat → FieldType} {t : FieldType} (CI : ClI ci C T N ty) (hN : f < N) (hl : Cond.fieldLink own index (T f).1 (T f).2.1 (T f).2.2.1 ∈ gtb) (hfin : (T f).2.2.2 = true) (hdecl : (T f).1 = own) (hty : parseFieldDescriptor (T f).2.2.1 = some t) (ht : isR t = true) (hd : decode cc pc = .ok (.putfield index, 3)) : Snd d own cc nL ret (inM "<init>") pc (s_putr ci f (pc + 3)) := by
  intro p l e s m args below meth c Q D cy bs g0 ad0 Cc hi ls st g K Qr hf hK hQ ad H locs k n lsA P
  obtain ⟨b, j, st', fs, rfl, hb, hfl, hk⟩ := putr_spec hf
  obtain ⟨ws, hP, hD, hin, hw⟩ := P.1.list
  obtain ⟨q0, hq0⟩ := hin b _ hb
  refine va_putF Cc.1 Cc.2.1 Cc.2.2.2.2.1 CI.2.1 ty CI.2.2.1 CI.2.2.2 Cc.2.2.2.1 Cc.2.2.2.2.2.2.1 hP hD P.2.1 q0 hq0 CI.1 f hN (Cc.2.2.2.2.1 _ hl) (fun _ h => h) hfin hi hdecl (v := .ref (ad j)) hty (isR_fit ht _).1 (isR_fit ht _).2 (by rw [List.length_mapIdx]; exact hfl) hd (fun H1 locs1 hP1 hD1 hS1 => ?_)
  exact hK _ _ _ _ hk ad H1 locs1 k n lsA (putr_pnt P hb hfl hw hq0 hP1 hS1)
/-- cell 48, just made, takes the place of cell t, to which the field alone pointed -/
def g_grow (g : Sto) (t : Nat) : Sto := (up1 (up1 g.1 t (g.1 48)) 48 none, g.2.1, up1 g.2.2.1 t (g.2.2.1 48), up1 g.2.2.2 t (g.2.2.2 48))
def s_grow (ci f t nx : Nat) : Stq := fun ls st g K _ => match st with
  | .ref j :: .ref k :: st => match g.1 k with
    | some (.inl (ci', fs)) => match g.1 t, g.1 48 with
      | some (.inr (kd, m)), some (.inr (kd', n)) => (j = 48 ∧ ci' = ci ∧ kd' = kd ∧ fs[f]? = some (.ref t) ∧ 1 ≤ m ∧ 2 * m ≤ n ∧ (∀ i s, i ≠ k → g.1 i = some s → nrf t s = true) ∧ nrf t (.inl (ci, fs.set f .null)) = true ∧ (∀ i s, g.1 i = some s → nrf 48 s = true) ∧ Fit (g_grow g t).1) ∧ cond (grw t && (decide (t ≠ 48) && (ls.all (nov t) && (ls.all (nov 48) && (st.all (nov t) && st.all (nov 48)))))) (K nx ls st (g_grow g t)) False
      | _, _ => False
    | _ => False
  | _ => False
theorem log2_grow {m n : Nat} (h1 : 1 ≤ m) (h2 : 2 * m ≤ n) : Nat.log2 m + 1 ≤ Nat.log2 n := by
  rw [Nat.le_log2 (by omega), Nat.pow_succ]
  have := Nat.log2_self_le (n := m) (by omega)
  omega
theorem snd_grow {ci f N index t0 : Nat} {C : String} {T : u_T} {ty : Nat → FieldType} {t : FieldType} (CI : ClI ci C T N ty) (hN : f < N) (hl : Cond.fieldLink own index (T f).1 (T f).2.1 (T f).2.2.1 ∈ gtb) (hfin : (T f).2.2.2 = false) (hty : parseFieldDescriptor (T f).2.2.1 = some t) (ht : isR t = true) (hd : decode cc pc = .ok (.putfield index, 3)) : Snd d own cc nL ret ini pc (s_grow ci f t0 (pc + 3)) := by
  intro p l e s m args below meth c Q D cy bs g0 ad0 Cc hi ls st g K Qr hf hK hQ ad H locs k n lsA P
  simp only [s_grow] at hf
  split at hf
  · rename_i j b st'
    split at hf
    · rename_i ci' fs hb
      split at hf
      · rename_i kd m1 kd' n1 ht1 ht2
        obtain ⟨⟨rfl, rfl, rfl, hft, hm, hmn, hr1, hr2, hr3, hfit⟩, hf⟩ := hf
        cases hc : (grw t0 && (decide (t0 ≠ 48) && (ls.all (nov t0) && (ls.all (nov 48) && (st'.all (nov t0) && st'.all (nov 48)))))) with
        | false => rw [hc] at hf; exact hf.elim
        | true =>
          rw [hc] at hf
          simp only [Bool.and_eq_true, decide_eq_true_eq] at hc
          obtain ⟨c1, c2, c3, c4, c5, c6⟩ := hc
          obtain ⟨ws, hP, hD, hin, hw⟩ := P.1.list
          obtain ⟨q0, hq0⟩ := hin b _ hb
          have hfl := (List.getElem?_eq_some_iff.mp hft).1
          refine va_put Cc.1 Cc.2.1 Cc.2.2.2.2.1 CI.2.1 ty CI.2.2.1 CI.2.2.2 Cc.2.2.2.1 Cc.2.2.2.2.2.2.1 hP hD P.2.1 q0 hq0 CI.1 f hN (Cc.2.2.2.2.1 _ hl) (fun _ h => h) hfin (v := .ref (ad 48)) hty (isR_fit ht _).1 (isR_fit ht _).2 (by rw [List.length_mapIdx]; exact hfl) hd (fun H1 locs1 hP1 hD1 hS1 => ?_)
          obtain ⟨h1, h2⟩ := hw q0 b _ _ H1 (by rw [hb]; simp) hq0 hP1
          have hbt : b ≠ t0 := by intro e; subst e; rw [hb] at ht1; cases ht1
          have hb48 : b ≠ 48 := by intro e; subst e; rw [hb] at ht2; cases ht2
          have lt49 : ∀ i s, g.1 i = some s → i < 49 := by
            intro i s h
            rcases Nat.lt_or_ge i 49 with q | q
            · exact q
            · rw [P.1.2.2.2.1 i q] at h; cases h
          have es : ∀ i, i ≠ t0 → i ≠ 48 → (g_grow g t0).1 i = g.1 i := fun i a1 a2 => by show up1 (up1 g.1 t0 _) 48 none i = _; rw [up1_n _ _ a2, up1_n _ _ a1]
          have et : (g_grow g t0).1 t0 = some (.inr (kd', n1)) := by show up1 (up1 g.1 t0 _) 48 none t0 = _; rw [up1_n _ _ c2, up1_s]; exact ht2
          have e48 : (g_grow g t0).1 48 = none := by show up1 (up1 g.1 t0 (g.1 48)) 48 none 48 = none; exact up1_s _ _ _
          have hu1 := cU_up (sh := g.1) (sh' := up1 g.1 t0 (g.1 48)) (lt49 _ _ ht1) (fun i hi => up1_n _ _ hi)
          have hu2 := cU_up (sh := up1 g.1 t0 (g.1 48)) (sh' := (g_grow g t0).1) (lt49 _ _ ht2) (fun i hi => up1_n _ _ hi)
          have hv1 := sU_up (sh := g.1) (sh' := up1 g.1 t0 (g.1 48)) (lt49 _ _ ht1) (fun i hi => up1_n _ _ hi)
          have hv2 := sU_up (sh := up1 g.1 t0 (g.1 48)) (sh' := (g_grow g t0).1) (lt49 _ _ ht2) (fun i hi => up1_n _ _ hi)
          rw [up1_s, ht1, ht2] at hu1 hv1
          rw [up1_n _ _ (fun e => c2 e.symm), e48, ht2] at hu2 hv2
          have w1 : cwt t0 (some (.inr (kd', m1))) = 1 + Nat.log2 m1 := by show (if t0 = 48 then 1 else _) = _; rw [if_neg c2]
          have w2 : cwt t0 (some (.inr (kd', n1))) = 1 + Nat.log2 n1 := by show (if t0 = 48 then 1 else _) = _; rw [if_neg c2]
          have w3 : cwt 48 (some (.inr (kd', n1))) = 1 := rfl
          have w4 : cwt 48 none = 0 := rfl
          have w5 : swt t0 (some (.inr (kd', m1))) = 2 * m1 := by show (if t0 = 48 then m1 else _) = _; rw [if_neg c2]
          have w6 : swt t0 (some (.inr (kd', n1))) = 2 * n1 := by show (if t0 = 48 then n1 else _) = _; rw [if_neg c2]
          have w7 : swt 48 (some (.inr (kd', n1))) = n1 := rfl
          have w8 : swt 48 none = 0 := rfl
          rw [w1, w2] at hu1
          rw [w3, w4] at hu2
          rw [w5, w6] at hv1
          rw [w7, w8] at hv2
          have hlg := log2_grow hm hmn
          have hcnt := P.2.2.1
          have Pn : Pnt nL D cy bs s g0 ad0 (up1 ad t0 (ad 48)) (g_grow g t0) H1 locs1 k n lsA ls := by
            refine ⟨⟨fun i si hi => ?_, fun i i' hi hi' hii => ?_, fun i hi => ?_, fun i hi => ?_, hfit⟩, hS1, ⟨by omega, by omega⟩, P.2.2.2.1.up c3, fun i hi hg => ?_, fun i hi hg => ?_⟩
            · by_cases hit : i = t0
              · subst hit
                rw [et] at hi
                cases hi
                rw [up1_s]
                have h3 := h2 48 _ (fun e => hb48 e.symm) ht2
                have e5 : cel cy (up1 ad i (ad 48)) (g_grow g i) i (.inr (kd', n1)) = cel cy ad g 48 (.inr (kd', n1)) := cel_arr (up1_s _ _ _) (up1_s _ _ _)
                rw [e5]
                exact h3
              · by_cases hi48 : i = 48
                · subst hi48; rw [e48] at hi; cases hi
                · rw [es i hit hi48] at hi
                  rw [up1_n _ _ hit]
                  by_cases hib : i = b
                  · subst hib
                    rw [hb] at hi
                    cases hi
                    have e6 := fv_setr (ad := ad) (ad' := up1 ad t0 (ad 48)) (F := g.2.1 i) (j := t0) (q := ad 48) hfl (up1_s _ _ _) (fun i' v hne hv x => nov_fvl (List.all_eq_true.mp (nrf_all hr2) v (by
                      have : (fs.set f .null)[i']? = some v := by rw [List.getElem?_set_ne (fun e => hne e.symm)]; exact hv
                      exact List.mem_of_getElem? this)))
                    have e7 : fs.set f (.ref t0) = fs := by
                      apply List.ext_getElem?
                      intro i'
                      rw [List.getElem?_set]
                      by_cases hq : f = i'
                      · subst hq; rw [if_pos rfl, if_pos hfl, hft]
                      · rw [if_neg hq]
                    rw [e7] at e6
                    rw [e6] at h1
                    exact h1
                  · rw [nrf_cel (g := g) (g' := g_grow g t0) (k := i) (hr1 i si hib hi) rfl (up1_n _ _ hit) (up1_n _ _ hit)]
                    exact h2 i si hib hi
            · have hx : ∀ i, (g_grow g t0).1 i ≠ none → i ≠ 48 ∧ (i = t0 ∨ g.1 i ≠ none) := fun i hi => by
                refine ⟨fun e => hi (by rw [e]; exact e48), ?_⟩
                by_cases hit : i = t0
                · exact Or.inl hit
                · refine Or.inr ?_
                  rw [← es i hit (fun e => hi (by rw [e]; exact e48))]
                  exact hi
              obtain ⟨a1, a2⟩ := hx i hi
              obtain ⟨b1, b2⟩ := hx i' hi'
              have l48 : g.1 48 ≠ none := by rw [ht2]; simp
              by_cases hit : i = t0
              · by_cases hit' : i' = t0
                · rw [hit, hit']
                · rw [hit, up1_s, up1_n _ _ hit'] at hii
                  exact absurd (P.1.2.1 48 i' l48 (b2.resolve_left hit') hii).symm b1
              · by_cases hit' : i' = t0
                · rw [hit', up1_s, up1_n _ _ hit] at hii
                  exact absurd (P.1.2.1 i 48 (a2.resolve_left hit) l48 hii) a1
                · rw [up1_n _ _ hit, up1_n _ _ hit'] at hii
                  exact P.1.2.1 i i' (a2.resolve_left hit) (b2.resolve_left hit') hii
            · by_cases hit : i = t0
              · rw [hit, up1_s]; exact P.1.2.2.1 48 (by rw [ht2]; simp)
              · rw [up1_n _ _ hit]
                refine P.1.2.2.1 i ?_
                rw [← es i hit (fun e => hi (by rw [e]; exact e48))]
                exact hi
            · have := lt49 _ _ ht1
              rw [es i (by omega) (by omega)]
              exact P.1.2.2.2.1 i hi
            · have hit : i ≠ t0 := by intro e; subst e; rw [c1] at hg; cases hg
              rw [up1_n _ _ hit]
              exact P.2.2.2.2.1 i hi hg
            · have hit : i ≠ t0 := by intro e; subst e; rw [c1] at hg; cases hg
              have hi48 : i ≠ 48 := by intro e; subst e; cases hg
              rw [es i hit hi48]
              exact P.2.2.2.2.2 i hi hg
          have hf2 := hK _ _ _ _ hf (up1 ad t0 (ad 48)) H1 locs1 k n lsA Pn
          rw [nov_map c5] at hf2
          exact hf2
      · exact hf.elim
    · exact hf.elim
  · exact hf.elim
end Steps6
/-! a method out of its table -/
theorem W.mono {p : Program} {l : Launch} {e : Env} {R : Room} {s : State} {m : MethodId} {args : Array Value} {below : List Frame} {meth : Method} {c : Code} {H : Heap} {locs : List Loc} {k n : Nat} {Q Q' : State → Prop} {g : JFrame} (h : ∀ t, Q t → Q' t) (w : W p l e R s m args below meth c H locs k n Q g) : W p l e R s m args below meth c H locs k n Q' g := fun T hT X => by
  obtain ⟨t, a, b⟩ := w T hT X
  exact ⟨t, a, h t b⟩
theorem bw_wp {d : Nat} {own : String} {cc : ByteArray} {nL : Nat} {ret : Option FieldType} {ini : Inq} {code : Nat → Stq} (hs : ∀ pc, Snd d own cc nL ret ini pc (code pc)) {p : Program} {l : Launch} {e : Env} {s : State} {m : MethodId} {args : Array Value} {below : List Frame} {meth : Method} {c : Code} {Q : State → Prop} {D : va_G} {cy : Nat → ClassId} {bs : Nat} {g0 : Sto} {ad0 : Nat → Nat}
    (C : Cx own cc nL p s m args c D cy bs) (hi : ini s meth ad0 bs) {cut : Nat → Bool} {K : Kon} {Qr : Rsl} (hK : ∀ pc ls st g, K pc ls st g → BW p l e (Lvl d) s m args below meth c Q nL D cy bs g0 ad0 pc ls st g) (hQ : ∀ v g, Qr v g → Fnd p l e (Lvl d) s m args below meth c Q nL D cy bs g0 ad0 cc ret v g) :
    ∀ (fuel pc : Nat) (ls st : List Value) (g : Sto), wp code cut K Qr fuel pc ls st g → BW p l e (Lvl d) s m args below meth c Q nL D cy bs g0 ad0 pc ls st g := by
  intro fuel
  induction fuel with
  | zero => intro pc ls st g h; exact h.elim
  | succ n ih =>
    intro pc ls st g h
    refine hs pc p l e s m args below meth c Q D cy bs g0 ad0 C hi ls st g _ Qr h (fun pc' ls' st' g' h' => ?_) hQ
    cases hc : cut pc' with
    | true => rw [hc] at h'; exact hK _ _ _ _ h'
    | false => rw [hc] at h'; exact ih _ _ _ _ h'
theorem lv_args1 : ∀ (vs : List Value) (i : Nat), (∀ v ∈ vs, v.category = 1) → ∀ (j : Nat) (v : Value), vs[j]? = some v → (i + j, v) ∈ lv_args i vs
  | [], i, _, j, v, hj => by simp at hj
  | w :: vs, i, hc, j, v, hj => by
    have hw : ¬ w.category = 2 := by rw [hc w List.mem_cons_self]; decide
    unfold lv_args
    rw [if_neg hw]
    cases j with
    | zero => rw [List.getElem?_cons_zero] at hj; cases hj; exact List.mem_cons_self
    | succ j =>
      rw [List.getElem?_cons_succ] at hj
      refine List.mem_cons_of_mem _ ?_
      have := lv_args1 vs (i + 1) (fun v h => hc v (List.mem_cons_of_mem _ h)) j v hj
      rw [show i + (j + 1) = i + 1 + j by omega]
      exact this
theorem lg_sl1 : ∀ (vs : List Value), (∀ v ∈ vs, v.category = 1) → (lg_sl vs).length = vs.length
  | [], _ => rfl
  | w :: vs, hc => by
    have hw : ¬ w.category = 2 := by rw [hc w List.mem_cons_self]; decide
    have := lg_sl1 vs (fun v h => hc v (List.mem_cons_of_mem _ h))
    simp only [lg_sl, List.flatMap_cons, List.length_append, List.length_cons] at this ⊢
    rw [if_neg hw, this]
    simp
    omega
def cat1 (v : Value) : Bool := match v with
  | .int _ => true
  | .ref _ => true
  | _ => false
theorem entry_LR {nL : Nat} {ad : Nat → Nat} {As : List Value} (hl : As.length ≤ nL) (hc : As.all cat1 = true) : LR ((lg_sl (As.map (cnc ad)) ++ List.replicate (nL - (lg_sl (As.map (cnc ad))).length) Slot.unset).toArray) nL ad (As ++ List.replicate (nL - As.length) U_) := by
  have hcat : ∀ v ∈ As.map (cnc ad), v.category = 1 := by
    intro v hv
    obtain ⟨w, hw, rfl⟩ := List.mem_map.mp hv
    have := List.all_eq_true.mp hc w hw
    rw [cnc_cat]
    cases w <;> first | rfl | cases this
  have h := lv_entry (As.map (cnc ad)) (n := nL) (by rw [lg_sl1 _ hcat, List.length_map]; exact hl)
  refine ⟨by rw [List.length_append, List.length_replicate]; omega, h.1, h.2.1, fun i v hi hv => ?_⟩
  by_cases hlt : i < As.length
  · rw [List.getElem?_append_left hlt] at hi
    have := lv_args1 (As.map (cnc ad)) 0 hcat i (cnc ad v) (by rw [List.getElem?_map, hi]; rfl)
    rw [Nat.zero_add] at this
    exact h.2.2 _ this
  · rw [List.getElem?_append_right (by omega)] at hi
    have := List.eq_of_mem_replicate (List.mem_of_getElem? hi)
    subst this
    cases hv
theorem ok_of {d : Nat} {own : String} {cc : ByteArray} {nL : Nat} {ret : Option FieldType} {y : MethodName} {sp : Spc} {code : Nat → Stq} (cut : Nat → Bool) (fuel : Nat) (I : List Value → Sto → Rsl → Nat → Kon) (hy : plainName y.cls = true) (hown : y.cls = own) (hs : ∀ pc, Snd d own cc nL ret (inM y.name) pc (code pc))
    (hn : ∀ As g Qr, sp As g Qr → As.length ≤ nL ∧ As.all cat1 = true)
    (entry : ∀ As g Qr, sp As g Qr → frc (As ++ List.replicate (nL - As.length) U_) (fun ls0 => wp code cut (fun pc ls st g' => ∃ n, I As g Qr n pc ls st g') Qr fuel 0 ls0 [] g))
    (body : ∀ As g Qr, sp As g Qr → ∀ n pc ls st g', I As g Qr n pc ls st g' → wp code cut (fun pc ls st g'' => ∃ n', n' < n ∧ I As g Qr n' pc ls st g'') Qr fuel pc ls st g') : Ok d y cc nL ret sp := by
  intro l D cy bs ad As g Qr hsp
  refine MetFree.of_bodyS (code := cc) (maxLocals := nL) (ret := ret) hy ?_ ?_
  · intro args s m h hn
    obtain ⟨meth, c, h1, h2, h3, h4, h5, h6, -, -⟩ := Cond.code_spec hn (atoms_spec (ws := wsY y cc nL ret) h _ List.mem_cons_self)
    exact ⟨meth, c, h1, h2, h3, h4, h5, h6⟩
  · intro p e s m args below meth c s₁ B hml hP _
    obtain ⟨rfl, hR, hKk, hnw, hbs⟩ := hP
    have hh0 : s₁.heap = s.heap := by rw [B.state]; rfl
    have hts := atoms_spec (ws := wsY y cc nL ret) B.pre
    have C : Cx own cc nL p s m _ c D cy bs := ⟨B.exec, B.bytes, hml, by rw [← hown]; exact findClass_of_methodNamed B.named, fun w hw => hts w (List.mem_cons_of_mem _ hw), hnw, hKk, hbs⟩
    have hnm : meth.name = y.name := (name_of_methodNamed B.named B.method).1
    have hlocks : meth.locks = false := B.notSynchronized
    have hQ : ∀ v g', Qr v g' → Fnd p l e (Lvl d) s m (As.map (cnc ad)).toArray below meth c (fun t => ∃ o, t.status = .running ∧ Ended t below o ∧ EndM D cy bs ad g Qr (As.map (cnc ad)).toArray s o t) nL D cy bs g ad cc ret v g' := by
      intro v g' hq pc i ad' H locs k n lsA ls P hdec hrt
      have hend : ∀ t : State, t.heap = H → PstM D cy bs ad g Qr (As.map (cnc ad)).toArray s (.returned (v.map (cnc ad'))) t k n := fun t ht => ⟨v, g', ad', rfl, hq, by rw [ht]; exact P.1, P.2.2.2.2.1, P.2.2.2.2.2, P.2.2.1, P.2.1.F ht⟩
      have hmq : ∀ t, MQ below (fun a s o t => PstM D cy bs ad g Qr a s o t k n) (As.map (cnc ad)).toArray s k n (fun q => bs ≤ q) t → ∃ o, t.status = .running ∧ Ended t below o ∧ EndM D cy bs ad g Qr (As.map (cnc ad)).toArray s o t := by
        rintro t ⟨o, h1, h2, h3, L, h4, h5⟩
        exact ⟨o, h1, h2, L, k, n, h3, h4, h5⟩
      refine W.mono hmq ?_
      rcases hrt with ⟨rfl, rfl, hr⟩ | ⟨x, ty, rfl, rfl, hr, hnar⟩ | ⟨x, rt, rfl, rfl, hr, hrt⟩
      · exact W.vret B.exec B.bytes (by rw [B.returns]; exact hr) (fun t ht _ => hend t ht) P.2.1.2.2 hdec
      · exact W.zret B.exec B.bytes (by rw [B.returns]; exact hr) hnar (fun t ht _ => hend t ht) P.2.1.2.2 hdec
      · exact W.aret B.exec B.bytes (by rw [B.returns]; exact hr) hrt (Or.inr ⟨_, rfl⟩) (fun t ht _ => hend t ht) P.2.1.2.2 hdec
    have hL : ∀ (n pc : Nat) (ls st : List Value) (g' : Sto), I As g Qr n pc ls st g' → BW p l e (Lvl d) s m (As.map (cnc ad)).toArray below meth c (fun t => ∃ o, t.status = .running ∧ Ended t below o ∧ EndM D cy bs ad g Qr (As.map (cnc ad)).toArray s o t) nL D cy bs g ad pc ls st g' := by
      intro n
      induction n using Nat.strongRecOn with
      | _ n ih =>
        intro pc ls st g' hI
        exact bw_wp hs C hnm (fun pc' ls' st' g'' ⟨n', h1, h2⟩ => ih n' h1 pc' ls' st' g'' h2) hQ fuel pc ls st g' (body As g Qr hsp n pc ls st g' hI)
    have h0 := bw_wp hs C hnm (fun pc' ls' st' g'' ⟨n', h2⟩ => hL n' pc' ls' st' g'' h2) hQ fuel 0 _ [] g ((frc_eq _ _).mp (entry As g Qr hsp))
    obtain ⟨h1, h2⟩ := hn As g Qr hsp
    have K0 := h0 ad s.heap [] 0 0 _ ⟨hR, va_S.rf, ⟨by omega, by omega⟩, entry_LR h1 h2, fun _ _ _ => rfl, fun _ h _ => h⟩
    rw [show F0 m 0 ((lg_sl (As.map (cnc ad)) ++ List.replicate (nL - (lg_sl (As.map (cnc ad))).length) Slot.unset).toArray) (([] : List Value).map (cnc ad)) = entryFrame m (As.map (cnc ad)).toArray nL from (lg_entry_eq m (As.map (cnc ad)) nL).symm] at K0
    obtain ⟨t, a1, o, b1, b2, b3⟩ := K0 s₁ hh0 (Stand.of_body B)
    exact ⟨t, o, a1, b1, b2, b3⟩
/-- a method without a loop: its contract is the run of its own table -/
def inl (code : Nat → Stq) (nL fuel : Nat) : Spc := fun As g Q => cond (As.all cat1 && decide (As.length ≤ nL)) (frc (As ++ List.replicate (nL - As.length) U_) (fun ls => wp code (fun _ => false) (fun _ _ _ _ => False) Q fuel 0 ls [] g)) False
theorem ok_inl {d : Nat} {own : String} {cc : ByteArray} {nL fuel : Nat} {ret : Option FieldType} {y : MethodName} {code : Nat → Stq} (hy : plainName y.cls = true) (hown : y.cls = own) (hs : ∀ pc, Snd d own cc nL ret (inM y.name) pc (code pc)) : Ok d y cc nL ret (inl code nL fuel) := by
  have key : ∀ As g Qr, inl code nL fuel As g Qr → (As.all cat1 = true ∧ As.length ≤ nL) ∧ frc (As ++ List.replicate (nL - As.length) U_) (fun ls => wp code (fun _ => false) (fun _ _ _ _ => False) Qr fuel 0 ls [] g) := by
    intro As g Qr h
    simp only [inl] at h
    cases hc : (As.all cat1 && decide (As.length ≤ nL)) with
    | false => rw [hc] at h; exact h.elim
    | true =>
      rw [hc] at h
      simp only [Bool.and_eq_true, decide_eq_true_eq] at hc
      exact ⟨hc, h⟩
  have mono : ∀ (K K' : Kon) (Q : Rsl), (∀ pc ls st g, ¬ K pc ls st g) → ∀ (n pc : Nat) (ls st : List Value) (g : Sto), wp code (fun _ => false) K Q n pc ls st g = wp code (fun _ => false) K' Q n pc ls st g := by
    intro K K' Q hK n
    induction n with
    | zero => intros; rfl
    | succ n ih =>
      intro pc ls st g
      show code pc ls st g _ Q = code pc ls st g _ Q
      congr 1
      funext pc' ls' st' g'
      exact ih pc' ls' st' g'
  refine ok_of (fun _ => false) fuel (fun _ _ _ _ _ _ _ _ => False) hy hown hs (fun As g Q h => ⟨(key As g Q h).1.2, (key As g Q h).1.1⟩) (fun As g Q h => ?_) (fun _ _ _ _ _ _ _ _ _ h => h.elim)
  have h2 := (key As g Q h).2
  rw [frc_eq] at h2 ⊢
  rw [mono _ (fun _ _ _ _ => False) Q (fun _ _ _ _ => fun ⟨_, h⟩ => h)]
  exact h2

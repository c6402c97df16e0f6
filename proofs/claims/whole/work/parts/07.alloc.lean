/-! new cells -/
def nrf (nm : Nat) (s : Shp) : Bool := match s with
  | .inl (_, fs) => fs.all (fun v => match v with
    | .ref j => !(j == nm)
    | _ => true)
  | .inr _ => true
def nov (nm : Nat) (v : Value) : Bool := match v with
  | .ref j => !(j == nm)
  | _ => true
theorem nov_cnc {nm q : Nat} {ad : Nat → Nat} {v : Value} (h : nov nm v = true) : cnc (up1 ad nm q) v = cnc ad v := by
  cases v with
  | ref j =>
    have hj : j ≠ nm := by simpa [nov] using h
    show Value.ref (up1 ad nm q j) = Value.ref (ad j)
    rw [up1_n _ _ hj]
  | _ => rfl
theorem nov_fvl {nm q : Nat} {ad : Nat → Nat} {v : Value} {x : Int32} (h : nov nm v = true) : fvl (up1 ad nm q) x v = fvl ad x v := by
  cases v with
  | ref j =>
    have hj : j ≠ nm := by simpa [nov] using h
    show Value.ref (up1 ad nm q j) = Value.ref (ad j)
    rw [up1_n _ _ hj]
  | _ => rfl
theorem nov_map {nm q : Nat} {ad : Nat → Nat} {st : List Value} (h : st.all (nov nm) = true) : st.map (cnc (up1 ad nm q)) = st.map (cnc ad) :=
  List.map_congr_left fun v h1 => nov_cnc (List.all_eq_true.mp h v h1)
theorem nrf_all {nm ci : Nat} {fs : List Value} (h : nrf nm (.inl (ci, fs)) = true) : fs.all (nov nm) = true := h
theorem nrf_cel {nm q k : Nat} {cy : Nat → ClassId} {ad : Nat → Nat} {g g' : Sto} {s : Shp} (h : nrf nm s = true) (hg : g'.2.1 k = g.2.1 k) (ha : g'.2.2.1 k = g.2.2.1 k) (hl : g'.2.2.2 k = g.2.2.2 k) : cel cy (up1 ad nm q) g' k s = cel cy ad g k s := by
  unfold cel
  rw [hg, ha, hl]
  split
  · rename_i ci fs
    congr 2
    apply List.ext_getElem?
    intro i
    rw [List.getElem?_mapIdx, List.getElem?_mapIdx]
    cases hi : fs[i]? with
    | none => rfl
    | some v =>
      show some (fvl (up1 ad nm q) (g.2.1 k i) v) = some (fvl ad (g.2.1 k i) v)
      rw [nov_fvl (List.all_eq_true.mp (nrf_all h) v (List.mem_of_getElem? hi))]
  · rfl
  · rfl
  · rfl
theorem LR.up {lsA : Array Slot} {nL nm q : Nat} {ad : Nat → Nat} {ls : List Value} (h : LR lsA nL ad ls) (hn : ls.all (nov nm) = true) : LR lsA nL (up1 ad nm q) ls :=
  ⟨h.1, h.2.1, h.2.2.1, fun i v hi hv => by rw [nov_cnc (List.all_eq_true.mp hn v (List.mem_of_getElem? hi))]; exact h.2.2.2 i v hi hv⟩
/-- the point behind a making -/
theorem Pnt.mk {nL : Nat} {D : va_G} {cy : Nat → ClassId} {bs : Nat} {s : State} {g0 : Sto} {ad0 ad : Nat → Nat} {g g' : Sto} {H H1 : Heap} {locs : List Loc} {k n nm q w : Nat} {lsA : Array Slot} {ls : List Value} {sp : Shp} {ws : va_W}
    (P : Pnt nL D cy bs s g0 ad0 ad g H locs k n lsA ls) (hnm : nm < 49) (hno : g.1 nm = none) (hrf : ∀ j s, g.1 j = some s → nrf nm s = true) (hsh : g'.1 = up1 g.1 nm (some sp)) (hfit : Fit g'.1)
    (hin : ∀ (k : Nat) (s : Shp), g.1 k = some s → ∃ q0 : Nat, ws[q0]? = some (ad k, cel cy ad g k s)) (ho : ∀ j, j ≠ nm → g'.2.1 j = g.2.1 j ∧ g'.2.2.1 j = g.2.2.1 j ∧ g'.2.2.2 j = g.2.2.2 j)
    (hP : va_P D vwCl (ws ++ [(q, cel cy (up1 ad nm q) g' nm sp)]) H1) (hD : va_D (fun q => bs ≤ q) (ws ++ [(q, cel cy (up1 ad nm q) g' nm sp)])) (hS : va_S (fun q => bs ≤ q) s.heap H1 locs) (hls : ls.all (nov nm) = true) (hw : w ≤ swt nm (some sp)) :
    Pnt nL D cy bs s g0 ad0 (up1 ad nm q) g' H1 locs (k + 1) (n + w) lsA ls ∧ k + 1 ≤ 60000 ∧ n + w ≤ 730225 := by
  have hc := cU_up (sh := g.1) (sh' := g'.1) hnm (fun j hj => by rw [hsh, up1_n _ _ hj])
  have hs := sU_up (sh := g.1) (sh' := g'.1) hnm (fun j hj => by rw [hsh, up1_n _ _ hj])
  have hn1 : g'.1 nm = some sp := by rw [hsh, up1_s]
  rw [hno, hn1] at hc hs
  have hc1 : 1 ≤ cwt nm (some sp) := by
    unfold cwt
    split
    · rename_i h; cases h
    · exact Nat.le_refl 1
    · split <;> omega
  have e0 : cwt nm none = 0 := rfl
  have e1 : swt nm none = 0 := rfl
  have hcnt := P.2.2.1
  have hlast : (ws ++ [(q, cel cy (up1 ad nm q) g' nm sp)])[ws.length]? = some (q, cel cy (up1 ad nm q) g' nm sp) := by simp
  have hne : ∀ j, g.1 j ≠ none → j ≠ nm := fun j hj e => by subst e; exact hj hno
  have hq : ∀ j, g.1 j ≠ none → ad j ≠ q := by
    intro j hj e
    obtain ⟨sj, hsj⟩ := Option.ne_none_iff_exists'.mp hj
    obtain ⟨i, hi⟩ := hin j sj hsj
    have hil := (List.getElem?_eq_some_iff.mp hi).1
    have := hD.1 i ws.length _ _ (by rw [List.getElem?_append_left hil]; exact hi) hlast e
    omega
  have hg : ∀ j, g'.1 j ≠ none → j ≠ nm → g.1 j ≠ none := fun j hj hn => by rw [hsh, up1_n _ _ hn] at hj; exact hj
  have hfit' : cU g'.1 ≤ 60000 ∧ sU g'.1 ≤ 730225 := hfit
  refine ⟨⟨⟨fun j sj hj => ?_, fun i j hi hj hij => ?_, fun j hj => ?_, fun j hj => ?_, hfit⟩, hS, ⟨by omega, by omega⟩, P.2.2.2.1.up hls, fun j hj hgr => ?_, fun j hj hgr => ?_⟩, by omega, by omega⟩
  · by_cases h : j = nm
    · subst h
      rw [hn1] at hj
      cases hj
      rw [up1_s]
      exact hP _ _ hlast
    · rw [hsh, up1_n _ _ h] at hj
      obtain ⟨i, hi⟩ := hin j sj hj
      have hil := (List.getElem?_eq_some_iff.mp hi).1
      rw [up1_n _ _ h, nrf_cel (hrf j sj hj) (ho j h).1 (ho j h).2.1 (ho j h).2.2]
      exact hP i _ (by rw [List.getElem?_append_left hil]; exact hi)
  · by_cases h1 : i = nm
    · by_cases h2 : j = nm
      · rw [h1, h2]
      · rw [h1, up1_s, up1_n _ _ h2] at hij
        exact absurd hij.symm (hq j (hg j hj h2))
    · by_cases h2 : j = nm
      · rw [h2, up1_s, up1_n _ _ h1] at hij
        exact absurd hij (hq i (hg i hi h1))
      · rw [up1_n _ _ h1, up1_n _ _ h2] at hij
        exact P.1.2.1 i j (hg i hi h1) (hg j hj h2) hij
  · by_cases h : j = nm
    · rw [h, up1_s]; exact hD.2 _ _ hlast
    · rw [up1_n _ _ h]; exact P.1.2.2.1 j (hg j hj h)
  · rw [hsh, up1_n _ _ (by omega)]; exact P.1.2.2.2.1 j hj
  · have h : j ≠ nm := by
      intro e
      subst e
      rcases hj with hj | hj
      · omega
      · exact P.2.2.2.2.2 j hj hgr hno
    rw [up1_n _ _ h]
    exact P.2.2.2.2.1 j hj hgr
  · have h1 := P.2.2.2.2.2 j hj hgr
    rw [hsh, up1_n _ _ (hne j h1)]
    exact h1
section Steps5
variable {d : Nat} {own : String} {cc : ByteArray} {nL : Nat} {ret : Option FieldType} {ini : Inq} {pc : Nat}
def g_newa (g : Sto) (kd nm n : Nat) : Sto := (up1 g.1 nm (some (.inr (kd, n))), g.2.1, up1 g.2.2.1 nm (fun _ => 0), up1 g.2.2.2 nm (fun _ => 0))
def s_newa (kd nm nx : Nat) : Stq := fun ls st g K _ => match st with
  | .int x :: st => (¬ x < 0 ∧ x.toNatClampNeg ≤ 65536 ∧ g.1 nm = none ∧ (∀ j s, g.1 j = some s → nrf nm s = true) ∧ Fit (g_newa g kd nm x.toNatClampNeg).1) ∧ cond (decide (nm < 49) && (ls.all (nov nm) && st.all (nov nm))) (K nx ls (.ref nm :: st) (g_newa g kd nm x.toNatClampNeg)) False
  | _ => False
theorem swt_arr {nm kd n : Nat} : n ≤ swt nm (some (.inr (kd, n))) := by
  show n ≤ if nm = 48 then n else 2 * n
  split <;> omega
theorem snd_newai {nm : Nat} (hw : Cond.arrayClass .int ∈ gtb) (hd : decode cc pc = .ok (.newarray .int, 2)) : Snd d own cc nL ret ini pc (s_newa 0 nm (pc + 2)) := by
  intro p l e s m args below meth c Q D cy bs g0 ad0 Cc hi ls st g K Qr hf hK hQ ad H locs k n lsA P
  simp only [s_newa] at hf
  split at hf
  · rename_i x st'
    obtain ⟨⟨h1, h2, h3, h4, h5⟩, hf⟩ := hf
    cases hc : decide (nm < 49) && (ls.all (nov nm) && st'.all (nov nm)) with
    | false => rw [hc] at hf; exact hf.elim
    | true =>
      rw [hc] at hf
      simp only [Bool.and_eq_true, decide_eq_true_eq] at hc
      obtain ⟨c1, c2, c3⟩ := hc
      obtain ⟨ws, hP, hD, hin, -⟩ := P.1.list
      have hA := cU_up (sh := g.1) (sh' := (g_newa g 0 nm x.toNatClampNeg).1) c1 (fun j hj => up1_n _ _ hj)
      have hB := sU_up (sh := g.1) (sh' := (g_newa g 0 nm x.toNatClampNeg).1) c1 (fun j hj => up1_n _ _ hj)
      have e1 : (g_newa g 0 nm x.toNatClampNeg).1 nm = some (.inr (0, x.toNatClampNeg)) := up1_s _ _ _
      rw [h3, e1] at hA hB
      have e2 : cwt nm none = 0 := rfl
      have e3 : swt nm none = 0 := rfl
      have e4 : x.toNatClampNeg ≤ swt nm (some (.inr (0, x.toNatClampNeg))) := swt_arr
      have e5 : 1 ≤ cwt nm (some (.inr (0, x.toNatClampNeg))) := by show 1 ≤ if nm = 48 then 1 else _; split <;> omega
      have e6 : cU (g_newa g 0 nm x.toNatClampNeg).1 ≤ 60000 ∧ sU (g_newa g 0 nm x.toNatClampNeg).1 ≤ 730225 := h5
      have e7 := P.2.2.1
      refine va_newa (atype := .int) (ty := .int) (a0 := (x.toNatClampNeg, .inl (fun _ => 0))) Cc.1 Cc.2.1 (Cc.2.2.2.2.1 _ hw) rfl Cc.2.2.2.2.2.2.1 hP hD P.2.1 (fun q hq => Nat.le_trans Cc.2.2.2.2.2.2.2 hq) (fun _ => rfl) h1 rfl (by show _ * 4 ≤ _; omega) (by show k + 1 ≤ (d + 1) * 60000; omega) (by show n + _ ≤ (d + 1) * 730225; omega) hd (fun q cA H1 hK1 hP1 hD1 hS1 => ?_)
      have hcA : cA = cy 0 := by
        have r1 := (hK1.2 3 (cA, .int) rfl).2
        have r2 := (hK1.2 0 (cy 0, .int) rfl).2
        exact Option.some.inj ((show s.vm.findClass _ = some cA from r1).symm.trans (show s.vm.findClass _ = some (cy 0) from r2))
      subst hcA
      have ec : cel cy (up1 ad nm q) (g_newa g 0 nm x.toNatClampNeg) nm (.inr (0, x.toNatClampNeg)) = .inl (cy 0, x.toNatClampNeg, .inl (fun _ => 0)) := by
        unfold cel g_newa
        simp only [up1_s]
      rw [← ec] at hP1 hD1
      have hz := (P.mk (g' := g_newa g 0 nm x.toNatClampNeg) (w := x.toNatClampNeg) c1 h3 h4 rfl h5 hin (fun j hj => ⟨rfl, up1_n _ _ hj, up1_n _ _ hj⟩) hP1 hD1 hS1 c2 swt_arr).1
      have hf2 := hK _ _ _ _ hf (up1 ad nm q) H1 locs (k + 1) (n + x.toNatClampNeg) lsA hz
      rw [List.map_cons, nov_map c3] at hf2
      have e8 : cnc (up1 ad nm q) (.ref nm) = .ref q := by show Value.ref _ = _; rw [up1_s]
      rw [e8] at hf2
      exact hf2
  · exact hf.elim
theorem snd_newal {nm : Nat} (hw : Cond.arrayClass .long ∈ gtb) (hd : decode cc pc = .ok (.newarray .long, 2)) : Snd d own cc nL ret ini pc (s_newa 1 nm (pc + 2)) := by
  intro p l e s m args below meth c Q D cy bs g0 ad0 Cc hi ls st g K Qr hf hK hQ ad H locs k n lsA P
  simp only [s_newa] at hf
  split at hf
  · rename_i x st'
    obtain ⟨⟨h1, h2, h3, h4, h5⟩, hf⟩ := hf
    cases hc : decide (nm < 49) && (ls.all (nov nm) && st'.all (nov nm)) with
    | false => rw [hc] at hf; exact hf.elim
    | true =>
      rw [hc] at hf
      simp only [Bool.and_eq_true, decide_eq_true_eq] at hc
      obtain ⟨c1, c2, c3⟩ := hc
      obtain ⟨ws, hP, hD, hin, -⟩ := P.1.list
      have hA := cU_up (sh := g.1) (sh' := (g_newa g 1 nm x.toNatClampNeg).1) c1 (fun j hj => up1_n _ _ hj)
      have hB := sU_up (sh := g.1) (sh' := (g_newa g 1 nm x.toNatClampNeg).1) c1 (fun j hj => up1_n _ _ hj)
      have e1 : (g_newa g 1 nm x.toNatClampNeg).1 nm = some (.inr (1, x.toNatClampNeg)) := up1_s _ _ _
      rw [h3, e1] at hA hB
      have e2 : cwt nm none = 0 := rfl
      have e3 : swt nm none = 0 := rfl
      have e4 : x.toNatClampNeg ≤ swt nm (some (.inr (1, x.toNatClampNeg))) := swt_arr
      have e5 : 1 ≤ cwt nm (some (.inr (1, x.toNatClampNeg))) := by show 1 ≤ if nm = 48 then 1 else _; split <;> omega
      have e6 : cU (g_newa g 1 nm x.toNatClampNeg).1 ≤ 60000 ∧ sU (g_newa g 1 nm x.toNatClampNeg).1 ≤ 730225 := h5
      have e7 := P.2.2.1
      refine va_newa (atype := .long) (ty := .long) (a0 := (x.toNatClampNeg, .inr (.inl (fun _ => 0)))) Cc.1 Cc.2.1 (Cc.2.2.2.2.1 _ hw) rfl Cc.2.2.2.2.2.2.1 hP hD P.2.1 (fun q hq => Nat.le_trans Cc.2.2.2.2.2.2.2 hq) (fun _ => rfl) h1 rfl (by show _ * 8 ≤ _; omega) (by show k + 1 ≤ (d + 1) * 60000; omega) (by show n + _ ≤ (d + 1) * 730225; omega) hd (fun q cA H1 hK1 hP1 hD1 hS1 => ?_)
      have hcA : cA = cy 1 := by
        have r1 := (hK1.2 3 (cA, .long) rfl).2
        have r2 := (hK1.2 1 (cy 1, .long) rfl).2
        exact Option.some.inj ((show s.vm.findClass _ = some cA from r1).symm.trans (show s.vm.findClass _ = some (cy 1) from r2))
      subst hcA
      have ec : cel cy (up1 ad nm q) (g_newa g 1 nm x.toNatClampNeg) nm (.inr (1, x.toNatClampNeg)) = .inl (cy 1, x.toNatClampNeg, .inr (.inl (fun _ => 0))) := by
        unfold cel g_newa
        simp only [up1_s]
      rw [← ec] at hP1 hD1
      have hz := (P.mk (g' := g_newa g 1 nm x.toNatClampNeg) (w := x.toNatClampNeg) c1 h3 h4 rfl h5 hin (fun j hj => ⟨rfl, up1_n _ _ hj, up1_n _ _ hj⟩) hP1 hD1 hS1 c2 swt_arr).1
      have hf2 := hK _ _ _ _ hf (up1 ad nm q) H1 locs (k + 1) (n + x.toNatClampNeg) lsA hz
      rw [List.map_cons, nov_map c3] at hf2
      have e8 : cnc (up1 ad nm q) (.ref nm) = .ref q := by show Value.ref _ = _; rw [up1_s]
      rw [e8] at hf2
      exact hf2
  · exact hf.elim
theorem snd_newaz {nm : Nat} (hw : Cond.arrayClass .boolean ∈ gtb) (hd : decode cc pc = .ok (.newarray .boolean, 2)) : Snd d own cc nL ret ini pc (s_newa 2 nm (pc + 2)) := by
  intro p l e s m args below meth c Q D cy bs g0 ad0 Cc hi ls st g K Qr hf hK hQ ad H locs k n lsA P
  simp only [s_newa] at hf
  split at hf
  · rename_i x st'
    obtain ⟨⟨h1, h2, h3, h4, h5⟩, hf⟩ := hf
    cases hc : decide (nm < 49) && (ls.all (nov nm) && st'.all (nov nm)) with
    | false => rw [hc] at hf; exact hf.elim
    | true =>
      rw [hc] at hf
      simp only [Bool.and_eq_true, decide_eq_true_eq] at hc
      obtain ⟨c1, c2, c3⟩ := hc
      obtain ⟨ws, hP, hD, hin, -⟩ := P.1.list
      have hA := cU_up (sh := g.1) (sh' := (g_newa g 2 nm x.toNatClampNeg).1) c1 (fun j hj => up1_n _ _ hj)
      have hB := sU_up (sh := g.1) (sh' := (g_newa g 2 nm x.toNatClampNeg).1) c1 (fun j hj => up1_n _ _ hj)
      have e1 : (g_newa g 2 nm x.toNatClampNeg).1 nm = some (.inr (2, x.toNatClampNeg)) := up1_s _ _ _
      rw [h3, e1] at hA hB
      have e2 : cwt nm none = 0 := rfl
      have e3 : swt nm none = 0 := rfl
      have e4 : x.toNatClampNeg ≤ swt nm (some (.inr (2, x.toNatClampNeg))) := swt_arr
      have e5 : 1 ≤ cwt nm (some (.inr (2, x.toNatClampNeg))) := by show 1 ≤ if nm = 48 then 1 else _; split <;> omega
      have e6 : cU (g_newa g 2 nm x.toNatClampNeg).1 ≤ 60000 ∧ sU (g_newa g 2 nm x.toNatClampNeg).1 ≤ 730225 := h5
      have e7 := P.2.2.1
      refine va_newa (atype := .boolean) (ty := .boolean) (a0 := (x.toNatClampNeg, .inl (fun _ => 0))) Cc.1 Cc.2.1 (Cc.2.2.2.2.1 _ hw) rfl Cc.2.2.2.2.2.2.1 hP hD P.2.1 (fun q hq => Nat.le_trans Cc.2.2.2.2.2.2.2 hq) (fun _ => rfl) h1 rfl (by show _ * 1 ≤ _; omega) (by show k + 1 ≤ (d + 1) * 60000; omega) (by show n + _ ≤ (d + 1) * 730225; omega) hd (fun q cA H1 hK1 hP1 hD1 hS1 => ?_)
      have hcA : cA = cy 2 := by
        have r1 := (hK1.2 3 (cA, .boolean) rfl).2
        have r2 := (hK1.2 2 (cy 2, .boolean) rfl).2
        exact Option.some.inj ((show s.vm.findClass _ = some cA from r1).symm.trans (show s.vm.findClass _ = some (cy 2) from r2))
      subst hcA
      have ec : cel cy (up1 ad nm q) (g_newa g 2 nm x.toNatClampNeg) nm (.inr (2, x.toNatClampNeg)) = .inl (cy 2, x.toNatClampNeg, .inl (fun _ => 0)) := by
        unfold cel g_newa
        simp only [up1_s]
      rw [← ec] at hP1 hD1
      have hz := (P.mk (g' := g_newa g 2 nm x.toNatClampNeg) (w := x.toNatClampNeg) c1 h3 h4 rfl h5 hin (fun j hj => ⟨rfl, up1_n _ _ hj, up1_n _ _ hj⟩) hP1 hD1 hS1 c2 swt_arr).1
      have hf2 := hK _ _ _ _ hf (up1 ad nm q) H1 locs (k + 1) (n + x.toNatClampNeg) lsA hz
      rw [List.map_cons, nov_map c3] at hf2
      have e8 : cnc (up1 ad nm q) (.ref nm) = .ref q := by show Value.ref _ = _; rw [up1_s]
      rw [e8] at hf2
      exact hf2
  · exact hf.elim
theorem dfl_map {ad : Nat → Nat} {fs : List Value} (hall : fs.all (fun v => v == .int 0 || v == .null) = true) : fs.mapIdx (fun _ v => fvl ad 0 v) = fs := by
  apply List.ext_getElem?
  intro i
  rw [List.getElem?_mapIdx]
  cases hi : fs[i]? with
  | none => rfl
  | some v =>
    have h6 := List.all_eq_true.mp hall v (List.mem_of_getElem? hi)
    simp only [Bool.or_eq_true, beq_iff_eq] at h6
    rcases h6 with h6 | h6 <;> subst h6 <;> rfl
def g_new (g : Sto) (ci nm : Nat) (fs : List Value) : Sto := (up1 g.1 nm (some (.inl (ci, fs))), up1 g.2.1 nm (fun _ => 0), g.2.2)
def s_new (ci : Nat) (fs : List Value) (nm nx : Nat) : Stq := fun ls st g K _ => (g.1 nm = none ∧ (∀ j s, g.1 j = some s → nrf nm s = true) ∧ Fit (g_new g ci nm fs).1) ∧ cond (decide (nm < 49) && (ls.all (nov nm) && st.all (nov nm))) (K nx ls (.ref nm :: st) (g_new g ci nm fs)) False
theorem snd_new {ci N nm index : Nat} {C : String} {T : u_T} {ty : Nat → FieldType} {fs : List Value} (CI : ClI ci C T N ty) (hfs : ∀ j, j < N → defaultValue (ty j) = vp_V fs j) (hall : fs.all (fun v => v == .int 0 || v == .null) = true) (hlen : fs.length = N) (hw : Cond.classLink own index C ∈ gtb) (hw2 : Cond.instantiable C N ∈ gtb) (hw3 : Cond.initialized C ∈ gtb) (hd : decode cc pc = .ok (.new index, 3)) : Snd d own cc nL ret ini pc (s_new ci fs nm (pc + 3)) := by
  intro p l e s m args below meth c Q D cy bs g0 ad0 Cc hi ls st g K Qr hf hK hQ ad H locs k n lsA P
  obtain ⟨⟨h3, h4, h5⟩, hf⟩ := hf
  cases hc : decide (nm < 49) && (ls.all (nov nm) && st.all (nov nm)) with
  | false => rw [hc] at hf; exact hf.elim
  | true =>
    rw [hc] at hf
    simp only [Bool.and_eq_true, decide_eq_true_eq] at hc
    obtain ⟨c1, c2, c3⟩ := hc
    obtain ⟨ws, hP, hD, hin, -⟩ := P.1.list
    have hA := cU_up (sh := g.1) (sh' := (g_new g ci nm fs).1) c1 (fun j hj => up1_n _ _ hj)
    have hB := sU_up (sh := g.1) (sh' := (g_new g ci nm fs).1) c1 (fun j hj => up1_n _ _ hj)
    have e1 : (g_new g ci nm fs).1 nm = some (.inl (ci, fs)) := up1_s _ _ _
    rw [h3, e1] at hA hB
    have e2 : cwt nm none = 0 := rfl
    have e3 : swt nm none = 0 := rfl
    have e4 : N ≤ swt nm (some (.inl (ci, fs))) := by show N ≤ fs.length; omega
    have e5 : cwt nm (some (.inl (ci, fs))) = 1 := rfl
    have e6 : cU (g_new g ci nm fs).1 ≤ 60000 ∧ sU (g_new g ci nm fs).1 ≤ 730225 := h5
    have e7 := P.2.2.1
    refine va_new (ci := ci) (fs := fs) Cc.1 Cc.2.1 Cc.2.2.2.2.1 CI.2.1 ty CI.2.2.1 Cc.2.2.2.1 (Cc.2.2.2.2.1 _ hw) (Cc.2.2.2.2.1 _ hw2) (Cc.2.2.2.2.1 _ hw3) Cc.2.2.2.2.2.2.1 hP hD P.2.1 (fun q hq => Nat.le_trans Cc.2.2.2.2.2.2.2 hq) CI.1 hfs (by show k + 1 ≤ (d + 1) * 60000; omega) (by show n + _ ≤ (d + 1) * 730225; omega) hd (fun q H1 hP1 hD1 hS1 => ?_)
    have ec : cel cy (up1 ad nm q) (g_new g ci nm fs) nm (.inl (ci, fs)) = .inr (ci, fs) := by
      show Sum.inr (ci, fs.mapIdx (fun f v => fvl (up1 ad nm q) ((up1 g.2.1 nm (fun _ => 0)) nm f) v)) = _
      rw [up1_s, dfl_map hall]
    rw [← ec] at hP1 hD1
    have hz := (P.mk (g' := g_new g ci nm fs) (w := N) c1 h3 h4 rfl h5 hin (fun j hj => ⟨up1_n _ _ hj, rfl, rfl⟩) hP1 hD1 hS1 c2 e4).1
    have hf2 := hK _ _ _ _ hf (up1 ad nm q) H1 locs (k + 1) (n + N) lsA hz
    rw [List.map_cons, nov_map c3] at hf2
    have e8 : cnc (up1 ad nm q) (.ref nm) = .ref q := by show Value.ref _ = _; rw [up1_s]
    rw [e8] at hf2
    exact hf2
end Steps5

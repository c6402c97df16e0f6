/-! contracts of methods, calls -/
def Wld (D : va_G) (cy : Nat → ClassId) (bs : Nat) (ad : Nat → Nat) (g : Sto) (U : State) : Prop := Rep D cy bs ad g U.heap ∧ va_K D vwCl (tysL cy) U ∧ (∀ w ∈ ntb, va_Nw w U) ∧ bs ≤ U.heap.size
def wsY (y : MethodName) (cc : ByteArray) (nL : Nat) (ret : Option FieldType) : List Cond := .code y cc nL ret :: gtb
def PreM (D : va_G) (cy : Nat → ClassId) (bs : Nat) (ad : Nat → Nat) (As : List Value) (g : Sto) : Array Value → State → Prop := fun a U => a = (As.map (cnc ad)).toArray ∧ Wld D cy bs ad g U
def PstM (D : va_G) (cy : Nat → ClassId) (bs : Nat) (ad : Nat → Nat) (g : Sto) (Qr : Rsl) : Array Value → State → Outcome → State → Nat → Nat → Prop := fun _ st o t k n =>
  ∃ (v : Option Value) (g' : Sto) (ad' : Nat → Nat), o = .returned (v.map (cnc ad')) ∧ Qr v g' ∧ Rep D cy bs ad' g' t.heap ∧ (∀ j, (49 ≤ j ∨ g.1 j ≠ none) → grw j = false → ad' j = ad j) ∧ (∀ j, g.1 j ≠ none → grw j = false → g'.1 j ≠ none) ∧ (k + cU g.1 ≤ cU g'.1 ∧ n + sU g.1 ≤ sU g'.1) ∧ va_F (fun q => bs ≤ q) st t
def EndM (D : va_G) (cy : Nat → ClassId) (bs : Nat) (ad : Nat → Nat) (g : Sto) (Qr : Rsl) : Array Value → State → Outcome → State → Prop := fun a st o t => ∃ (L : List Loc) (k n : Nat), PstM D cy bs ad g Qr a st o t k n ∧ FrameEnd st o t L k n ∧ ∀ q ∈ L, bs ≤ q.base
/-- the contract: from every store at which sp says Qr of the answer and the store behind it, the method comes back so -/
def Ok (d : Nat) (y : MethodName) (cc : ByteArray) (nL : Nat) (ret : Option FieldType) (sp : Spc) : Prop :=
  ∀ (l : Launch) (D : va_G) (cy : Nat → ClassId) (bs : Nat) (ad : Nat → Nat) (As : List Value) (g : Sto) (Qr : Rsl), sp As g Qr → MetFree l y (headSpec (wsY y cc nL ret) (Lvl d)) (PreM D cy bs ad As g) (fun _ _ _ _ _ => True) (EndM D cy bs ad g Qr)
theorem gtb_good {w : Cond} (h : w ∈ gtb) : (w.onTables && w.keeps) = true ∨ ∃ ty, w = .arrayClass ty := good_of_word (List.mem_filter.mp h).2
theorem ntb_warm {w : Cond} (h : w ∈ ntb) {s U : State} (hW : s.WarmedH U.vm) (hn : va_Nw w s) : va_Nw w U := by
  have h1 := (List.mem_filter.mp h).2
  cases w <;> first | exact va_Nw.warmF hW hn | exact va_Nw.warmM hW hn | cases h1
theorem ntb_same {w : Cond} (h : w ∈ ntb) {s U : State} (hW : s.vm = U.vm) (hn : va_Nw w s) : va_Nw w U := by
  have h1 := (List.mem_filter.mp h).2
  cases w <;> first | exact va_Nw.same rfl hW hn | cases h1
theorem preM_blind {D : va_G} {cy : Nat → ClassId} {bs : Nat} {ad : Nat → Nat} {As : List Value} {g : Sto} : FrameBlind (PreM D cy bs ad As g) := by
  intro a U f mk h
  obtain ⟨h1, h2, h3, h4, h5⟩ := h
  exact ⟨h1, h2, va_K.moved (u := U) (U := U.calling f mk a) (Vm.Alike.refl U.vm) h3, fun w hw => ntb_same hw (rfl : U.vm = (U.calling f mk a).vm) (h4 w hw), h5⟩
section Back2
variable {l : Launch} {R : Room} {p : Program} {e : Env} {below : List Frame} {s : State} {sargs : Array Value} {y : MethodName} {len : Nat}
theorem back2 {d nL : Nat} {cc : ByteArray} {ret : Option FieldType} {D : va_G} {cy : Nat → ClassId} {bs : Nat} {ad : Nat → Nat} {As : List Value} {g : Sto} {Qr : Rsl}
    (hM : MetFree l y (headSpec (wsY y cc nL ret) (Lvl d)) (PreM D cy bs ad As g) (fun _ _ _ _ _ => True) (EndM D cy bs ad g Qr)) (hframes : d + 1 ≤ R.frames) (hlocals : 8 + (nL + 11) + (32 * d + 8) ≤ R.locals)
    (hws : ∀ w ∈ gtb, w.before sargs s = true) (hcode : Cond.code y cc nL ret ∈ gtb) (hinit : (Cond.initialized y.cls).before sargs s = true) :
    Back l R p e below s sargs y len 8 (fun A a => A.cells + (d + 1) * 60000 ≤ R.cells ∧ A.slots + (d + 1) * 730225 ≤ R.slots ∧ PreM D cy bs ad As g a A.U)
      (fun A a v B => ∃ (f : JFrame) (mk : MethodId) (t : State) (L : List Loc) (k n : Nat), B.U.heap = t.heap ∧ B.U.vm = t.vm ∧ PstM D cy bs ad g Qr a (A.U.calling f mk a) (.returned v) t k n ∧ B.locs = A.locs ++ L ∧ (∀ q ∈ L, bs ≤ q.base) ∧ B.cells = A.cells + k ∧ B.slots = A.slots + n) := by
  have hw : ∀ w ∈ gtb, ∀ (a' : Array Value) (U : State), s.WarmedH U.vm → w.before a' U = true := fun w h a' U hW => word_at hW (gtb_good h) (hws w h)
  refine Back.of_free (bytes := cc) (maxL := nL) (ret := ret) (E := fun a st o t L k n => PstM D cy bs ad g Qr a st o t k n ∧ ∀ q ∈ L, bs ≤ q.base) hM hframes hlocals ?_ ?_ (fun _ _ _ _ _ _ _ _ _ => trivial) ?_ ?_
  · intro m meth c A a X hp
    refine ⟨atoms_intro fun w h => ?_, hw _ hcode _ _ X.warmed, word_at X.warmed (Or.inl (by first | rfl | simp [Cond.onTables, Cond.keeps, Cond.steady])) hinit, hp.1, hp.2.1⟩
    rcases List.mem_cons.mp h with h | h
    · rw [h]; exact hw _ hcode _ _ X.warmed
    · exact hw _ h _ _ X.warmed
  · intro m meth c A a f mk X hp
    exact preM_blind _ _ _ _ hp.2.2
  · intro a st o t hq
    obtain ⟨L, k, n, h1, h2, h3⟩ := hq
    exact ⟨L, k, n, h2, h1, h3⟩
  · intro m meth c A a f mk v t L k n X hp hq hF hE
    exact ⟨f, mk, t, L, k, n, rfl, rfl, hE.1, rfl, hE.2, rfl, rfl⟩
end Back2
def okv (g : Sto) (v : Value) : Bool := match v with
  | .ref j => (decide (49 ≤ j) || (g.1 j).isSome) && !(grw j)
  | _ => true
def chk (g : Sto) (ls rest : List Value) : Bool := (ls.all (okv g) && rest.all (okv g)) && decide ((rest.map fun v => v.category).sum ≤ 8)
theorem okv_cnc {g : Sto} {ad ad' : Nat → Nat} (h : ∀ j, (49 ≤ j ∨ g.1 j ≠ none) → grw j = false → ad' j = ad j) {v : Value} (hv : okv g v = true) : cnc ad' v = cnc ad v := by
  cases v with
  | ref j =>
    simp only [okv, Bool.and_eq_true, Bool.or_eq_true, decide_eq_true_eq, Bool.not_eq_true'] at hv
    show Value.ref _ = Value.ref _
    rw [h j (hv.1.imp id (fun q z => by rw [z] at q; cases q)) hv.2]
  | _ => rfl
theorem okv_map {g : Sto} {ad ad' : Nat → Nat} (h : ∀ j, (49 ≤ j ∨ g.1 j ≠ none) → grw j = false → ad' j = ad j) {st : List Value} (hv : st.all (okv g) = true) : st.map (cnc ad') = st.map (cnc ad) :=
  List.map_congr_left fun v h1 => okv_cnc h (List.all_eq_true.mp hv v h1)
def s_inv (n : Nat) (sp : Spc) (nx : Nat) : Stq := fun ls st g K _ => cond (chk g ls (st.drop n) && decide (n ≤ st.length)) (frc (st.take n).reverse (fun As => sp As g (fun v g' => frc (v.toList ++ st.drop n) (fun st' => K nx ls st' g')))) False
theorem inv_spec {n nx : Nat} {sp : Spc} {ls st : List Value} {g : Sto} {K : Kon} {Q : Rsl} (h : s_inv n sp nx ls st g K Q) : ∃ As rest, st = As.reverse ++ rest ∧ As.length = n ∧ ls.all (okv g) = true ∧ rest.all (okv g) = true ∧ (rest.map fun v => v.category).sum ≤ 8 ∧ sp As g (fun v g' => K nx ls (v.toList ++ rest) g') := by
  simp only [s_inv, frc_eq] at h
  cases hc : chk g ls (st.drop n) && decide (n ≤ st.length) with
  | false => rw [hc] at h; exact h.elim
  | true =>
    rw [hc] at h
    simp only [chk, Bool.and_eq_true, decide_eq_true_eq] at hc
    exact ⟨(st.take n).reverse, st.drop n, by rw [List.reverse_reverse, List.take_append_drop], by rw [List.length_reverse, List.length_take]; omega, hc.1.1.1, hc.1.1.2, hc.1.2, h⟩
section Steps4
variable {d : Nat} {own : String} {cc : ByteArray} {nL : Nat} {ret : Option FieldType} {ini : Inq} {pc : Nat}
/-- behind a call -/
theorem call_end {p : Program} {l : Launch} {e : Env} {R : Room} {s : State} {m : MethodId} {args : Array Value} {below : List Frame} {meth : Method} {c : Code} {Q : State → Prop} {D : va_G} {cy : Nat → ClassId} {bs : Nat} {g0 : Sto} {ad0 : Nat → Nat}
    {ls rest : List Value} {g : Sto} {K : Kon} {ad : Nat → Nat} {H : Heap} {locs : List Loc} {k n : Nat} {lsA : Array Slot} {nx : Nat} {T : State} {a : Array Value} {v : Option Value} {vm₁ : Vm} {B : Pt} {pc : Nat} {st0 : List Value}
    (P : Pnt nL D cy bs s g0 ad0 ad g H locs k n lsA ls) (hT : T.heap = H) (hls : ls.all (okv g) = true) (hrest : rest.all (okv g) = true)
    (hK : ∀ pc ls st g, K pc ls st g → BW p l e R s m args below meth c Q nL D cy bs g0 ad0 pc ls st g)
    (X' : Stand p l e R s m args below meth c B.U B.locs B.cells B.slots)
    (hpost : ∃ (f : JFrame) (mk : MethodId) (t : State) (L : List Loc) (k' n' : Nat), B.U.heap = t.heap ∧ B.U.vm = t.vm ∧ PstM D cy bs ad g (fun v g' => K nx ls (v.toList ++ rest) g') a ((T.setVm vm₁).calling f mk a) (.returned v) t k' n' ∧ B.locs = locs ++ L ∧ (∀ q ∈ L, bs ≤ q.base) ∧ B.cells = k + k' ∧ B.slots = n + n')
    (hnx : nx = pc + 3)
    (st : ∀ target, Steps p.tables e below (B.U.setTop { (F0 m pc lsA st0) with pc := (F0 m pc lsA st0).pc + 3, stack := v.toList ++ rest.map (cnc ad) }) target → Steps p.tables e below (T.setTop (F0 m pc lsA st0)) target) :
    ∃ t, Steps p.tables e below (T.setTop (F0 m pc lsA st0)) t ∧ Q t := by
  subst hnx
  obtain ⟨f, mk, t, L, k', n', e1, e2, ⟨v', g', ad', hv, hk', hR, ha, hlv, hcnt, hF⟩, h1, hL, h2, h3⟩ := hpost
  have hh : B.U.heap = t.heap := e1
  have hst : ((T.setVm vm₁).calling f mk a).heap = H := hT
  have P' : Pnt nL D cy bs s g0 ad0 ad' g' B.U.heap B.locs B.cells B.slots lsA ls := by
    refine ⟨by rw [hh]; exact hR, ?_, ?_, ?_, ?_, ?_⟩
    · obtain ⟨z1, z2⟩ := hF
      rw [hst] at z1 z2
      refine ⟨by rw [hh]; exact Nat.le_trans P.2.1.1 z1, fun q q1 q2 => ?_, fun q hq => ?_⟩
      · rw [hh, z2 q (Nat.lt_of_lt_of_le q1 P.2.1.1) q2]
        exact P.2.1.2.1 q q1 q2
      · rw [h1] at hq
        rcases List.mem_append.mp hq with hq | hq
        · exact P.2.1.2.2 q hq
        · exact hL q hq
    · rw [h2, h3]
      have := P.2.2.1
      omega
    · refine ⟨P.2.2.2.1.1, P.2.2.2.1.2.1, P.2.2.2.1.2.2.1, fun i w hi hw => ?_⟩
      rw [okv_cnc ha (List.all_eq_true.mp hls w (List.mem_of_getElem? hi))]
      exact P.2.2.2.1.2.2.2 i w hi hw
    · intro j hj hg
      rw [ha j (hj.imp id (fun q => P.2.2.2.2.2 j q hg)) hg]
      exact P.2.2.2.2.1 j hj hg
    · exact fun j hj hg => hlv j (P.2.2.2.2.2 j hj hg) hg
  obtain ⟨t2, a1, b1⟩ := hK _ _ _ _ hk' ad' B.U.heap B.locs B.cells B.slots lsA P' B.U rfl X'
  refine ⟨t2, st t2 ?_, b1⟩
  injection hv with hv
  rw [hv]
  rw [List.map_append, okv_map ha hrest] at a1
  have e3 : (v'.map (cnc ad')).toList = v'.toList.map (cnc ad') := by cases v' <;> rfl
  rw [e3]
  exact a1
theorem pre_call {p : Program} {s : State} {m : MethodId} {args : Array Value} {c : Code} {D : va_G} {cy : Nat → ClassId} {bs : Nat} {g0 : Sto} {ad0 : Nat → Nat} {ls As : List Value} {g : Sto} {ad : Nat → Nat} {H : Heap} {locs : List Loc} {k n d' : Nat} {lsA : Array Slot} {T : State} {vm₁ : Vm}
    (Cc : Cx own cc nL p s m args c D cy bs) (P : Pnt nL D cy bs s g0 ad0 ad g H locs k n lsA ls) (hT : T.heap = H) (hd : d' < d) (hW : s.WarmedH vm₁) :
    k + (d' + 1) * 60000 ≤ (Lvl d).cells ∧ n + (d' + 1) * 730225 ≤ (Lvl d).slots ∧ PreM D cy bs ad As g (As.map (cnc ad)).toArray (T.setVm vm₁) := by
  have hf : cU g.1 ≤ 60000 ∧ sU g.1 ≤ 730225 := P.1.2.2.2.2
  have h1 := P.2.2.1
  refine ⟨?_, ?_, rfl, ?_, va_K.moved hW.alike Cc.2.2.2.2.2.2.1, fun w hw => ntb_warm (U := T.setVm vm₁) hw hW (Cc.2.2.2.2.2.1 w hw), ?_⟩
  · show k + (d' + 1) * 60000 ≤ (d + 1) * 60000
    omega
  · show n + (d' + 1) * 730225 ≤ (d + 1) * 730225
    omega
  · show Rep D cy bs ad g T.heap
    rw [hT]; exact P.1
  · show bs ≤ T.heap.size
    rw [hT]; exact Nat.le_trans Cc.2.2.2.2.2.2.2 P.2.1.1
def yok (y : MethodName) (n : Nat) : Prop := y.cls ≠ "java/lang/invoke/MethodHandle" ∧ y.cls ≠ "java/lang/invoke/VarHandle" ∧ (parseMethodDescriptor y.desc).map (fun d => d.parameters.length) = some n
theorem yok_len {y : MethodName} {n : Nat} (h : yok y n) {As : List Value} (hl : As.length = n) : ∀ sig, parseMethodDescriptor y.desc = some sig → As.length = sig.parameters.length := by
  intro sig hs
  have h2 := h.2.2
  rw [hs] at h2
  rw [hl]
  exact (Option.some.inj h2).symm
theorem snd_invs {y : MethodName} {cc' : ByteArray} {nL' d' n index : Nat} {ret' : Option FieldType} {sp : Spc} (hO : Ok d' y cc' nL' ret' sp) (hdd : d' < d) (hnl : nL' ≤ 13) (hcode : Cond.code y cc' nL' ret' ∈ gtb) (hlink : Cond.methodLink own index y ∈ gtb) (hst : Cond.static y ∈ gtb) (hini : Cond.initialized y.cls ∈ gtb) (hy : yok y n) (hd : decode cc pc = .ok (.invokestatic index, 3)) :
    Snd d own cc nL ret ini pc (s_inv n sp (pc + 3)) := by
  intro p l e s m args below meth c Q D cy bs g0 ad0 Cc hi ls st g K Qr hf hK hQ ad H locs k n2 lsA P
  obtain ⟨As, rest, rfl, hlen, hls, hrest, hsum, hsp⟩ := inv_spec hf
  intro T hT X
  have hB := back2 (p := p) (e := e) (below := below) (R := Lvl d) (s := s) (sargs := args) (len := 3) (hO l D cy bs ad As g _ hsp) (show d' + 1 ≤ d by omega) (show 8 + (nL' + 11) + (32 * d' + 8) ≤ 32 * d + 8 by omega) Cc.2.2.2.2.1 hcode (Cc.2.2.2.2.1 _ hini)
  obtain ⟨v, vm₁, B, hW₁, X', hpost, st⟩ := callS X Cc.1 (bytes := cc') (maxL := nL') (ret := ret') Cc.2.2.2.1 (Cc.2.2.2.2.1 _ hlink) (Cc.2.2.2.2.1 _ hst) (Cc.2.2.2.2.1 _ hini) (Cc.2.2.2.2.1 _ hcode) ⟨hy.1, hy.2.1⟩ hB (g := F0 m pc lsA ((As.reverse ++ rest).map (cnc ad))) rfl (by rw [Cc.2.2.1]; exact P.2.2.2.1.2.1)
    (argsL := As.map (cnc ad)) (rest := rest.map (cnc ad)) (yok_len hy (by rw [List.length_map]; exact hlen)) (by show (As.reverse ++ rest).map (cnc ad) = _; rw [List.map_append, List.map_reverse]) (by show 2 * 0 + _ ≤ 8; rw [cat_map]; omega) (by rw [Cc.2.1]; exact hd)
    (fun vm₁ hW₁ => pre_call Cc P hT hdd hW₁)
  exact call_end P hT hls hrest hK X' hpost rfl st
theorem snd_invsN {y : MethodName} {host : String} {cc' : ByteArray} {nL' d' n index : Nat} {ret' : Option FieldType} {sp : Spc} (hO : Ok d' y cc' nL' ret' sp) (hdd : d' < d) (hnl : nL' ≤ 13) (hcode : Cond.code y cc' nL' ret' ∈ gtb) (hlink : Cond.methodLinkNest own index y host ∈ ntb) (hst : Cond.static y ∈ gtb) (hini : Cond.initialized y.cls ∈ gtb) (hy : yok y n) (hd : decode cc pc = .ok (.invokestatic index, 3)) :
    Snd d own cc nL ret ini pc (s_inv n sp (pc + 3)) := by
  intro p l e s m args below meth c Q D cy bs g0 ad0 Cc hi ls st g K Qr hf hK hQ ad H locs k n2 lsA P
  obtain ⟨As, rest, rfl, hlen, hls, hrest, hsum, hsp⟩ := inv_spec hf
  intro T hT X
  have hB := back2 (p := p) (e := e) (below := below) (R := Lvl d) (s := s) (sargs := args) (len := 3) (hO l D cy bs ad As g _ hsp) (show d' + 1 ≤ d by omega) (show 8 + (nL' + 11) + (32 * d' + 8) ≤ 32 * d + 8 by omega) Cc.2.2.2.2.1 hcode (Cc.2.2.2.2.1 _ hini)
  obtain ⟨v, vm₁, B, hW₁, X', hpost, st⟩ := va_callSN X Cc.1 (bytes := cc') (maxL := nL') (ret := ret') Cc.2.2.2.1 (va_Nw.use rfl (Cc.2.2.2.2.2.1 _ hlink)) (Cc.2.2.2.2.1 _ hst) (Cc.2.2.2.2.1 _ hini) (Cc.2.2.2.2.1 _ hcode) ⟨hy.1, hy.2.1⟩ hB (g := F0 m pc lsA ((As.reverse ++ rest).map (cnc ad))) rfl (by rw [Cc.2.2.1]; exact P.2.2.2.1.2.1)
    (argsL := As.map (cnc ad)) (rest := rest.map (cnc ad)) (yok_len hy (by rw [List.length_map]; exact hlen)) (by show (As.reverse ++ rest).map (cnc ad) = _; rw [List.map_append, List.map_reverse]) (by show 2 * 0 + _ ≤ 8; rw [cat_map]; omega) (by rw [Cc.2.1]; exact hd)
    (fun vm₁ hW₁ => pre_call Cc P hT hdd hW₁)
  exact call_end P hT hls hrest hK X' hpost rfl st
/-- a call on an object of a class -/
def rcv (g : Sto) (ci : Nat) (v : Option Value) : Bool := match v with
  | some (.ref k) => match g.1 k with
    | some (.inl (ci', _)) => ci' == ci
    | _ => false
  | _ => false
def s_invv (ci n : Nat) (sp : Spc) (nx : Nat) : Stq := fun ls st g K Q => cond (rcv g ci st[n]?) (s_inv (n + 1) sp nx ls st g K Q) False
theorem invv_spec {ci n nx : Nat} {sp : Spc} {ls st : List Value} {g : Sto} {K : Kon} {Q : Rsl} (h : s_invv ci n sp nx ls st g K Q) : ∃ (b : Nat) (fs As rest : List Value), st = As.reverse ++ .ref b :: rest ∧ g.1 b = some (.inl (ci, fs)) ∧ As.length = n ∧ ls.all (okv g) = true ∧ rest.all (okv g) = true ∧ (rest.map fun v => v.category).sum ≤ 8 ∧ sp (.ref b :: As) g (fun v g' => K nx ls (v.toList ++ rest) g') := by
  simp only [s_invv] at h
  cases hc : rcv g ci st[n]? with
  | false => rw [hc] at h; exact h.elim
  | true =>
    rw [hc] at h
    obtain ⟨As, rest, rfl, hlen, hls, hrest, hsum, hsp⟩ := inv_spec (show s_inv (n + 1) sp nx ls _ g K Q from h)
    cases As with
    | nil => simp at hlen
    | cons a As =>
      have hl2 : As.length = n := by simpa using hlen
      have ha : ((a :: As).reverse ++ rest)[n]? = some a := by
        rw [List.reverse_cons, List.append_assoc, List.getElem?_append_right (by rw [List.length_reverse]; omega), List.length_reverse, hl2, Nat.sub_self]
        rfl
      rw [ha] at hc
      simp only [rcv] at hc
      split at hc
      · rename_i b hb
        injection hb with hb
        subst hb
        split at hc
        · rename_i ci' fs hk
          have e := beq_iff_eq.mp hc
          subst e
          refine ⟨b, fs, As, rest, by rw [List.reverse_cons, List.append_assoc]; rfl, hk, hl2, hls, hrest, hsum, hsp⟩
        · cases hc
      · cases hc
theorem snd_invv {y : MethodName} {C : String} {T0 : u_T} {N ci : Nat} {ty0 : Nat → FieldType} {cc' : ByteArray} {nL' d' n index : Nat} {ret' : Option FieldType} {sp : Spc} (CI : ClI ci C T0 N ty0) (hO : Ok d' y cc' nL' ret' sp) (hdd : d' < d) (hnl : nL' ≤ 13) (hcode : Cond.code y cc' nL' ret' ∈ gtb) (hlink : Cond.methodLink own index y ∈ gtb) (hinst : Cond.instanceMethod y ∈ gtb) (hsel : Cond.selects C y y ∈ gtb) (hini : Cond.initialized y.cls ∈ gtb) (hy : yok y n) (hd : decode cc pc = .ok (.invokevirtual index, 3)) :
    Snd d own cc nL ret ini pc (s_invv ci n sp (pc + 3)) := by
  intro p l e s m args below meth c Q D cy bs g0 ad0 Cc hi ls st g K Qr hf hK hQ ad H locs k n2 lsA P
  obtain ⟨b, fs, As, rest, rfl, hb, hlen, hls, hrest, hsum, hsp⟩ := invv_spec hf
  intro T hT X
  have hB := back2 (p := p) (e := e) (below := below) (R := Lvl d) (s := s) (sargs := args) (len := 3) (hO l D cy bs ad (.ref b :: As) g _ hsp) (show d' + 1 ≤ d by omega) (show 8 + (nL' + 11) + (32 * d' + 8) ≤ 32 * d + 8 by omega) Cc.2.2.2.2.1 hcode (Cc.2.2.2.2.1 _ hini)
  obtain ⟨ws, hP, hD, hin, -⟩ := P.1.list
  obtain ⟨q0, hq0⟩ := hin b _ hb
  obtain ⟨cell, r1, r2, r3⟩ := va_recv Cc.2.2.2.2.2.2.1 hP CI.1 hq0
  obtain ⟨v, vm₁, B, hW₁, X', hpost, st⟩ := callV X Cc.1 (C := C) (bytes := cc') (maxL := nL') (ret := ret') Cc.2.2.2.1 (Cc.2.2.2.2.1 _ hlink) (Cc.2.2.2.2.1 _ hinst) (Cc.2.2.2.2.1 _ hsel) (Cc.2.2.2.2.1 _ hcode) ⟨hy.1, hy.2.1⟩ hB (b := ad b) (by rw [hT]; exact r1) r2 r3 (g := F0 m pc lsA ((As.reverse ++ .ref b :: rest).map (cnc ad))) rfl (by rw [Cc.2.2.1]; exact P.2.2.2.1.2.1)
    (argsL := As.map (cnc ad)) (rest := rest.map (cnc ad)) (yok_len hy (by rw [List.length_map]; exact hlen)) (by show (As.reverse ++ .ref b :: rest).map (cnc ad) = _; rw [List.map_append, List.map_reverse, List.map_cons]; rfl) (by show 2 * 0 + _ ≤ 8; rw [cat_map]; omega) (by rw [Cc.2.1]; exact hd)
    (fun vm₁ hW₁ => pre_call (As := .ref b :: As) Cc P hT hdd hW₁)
  exact call_end P hT hls hrest hK X' hpost rfl st
theorem snd_invvN {y : MethodName} {C host : String} {T0 : u_T} {N ci : Nat} {ty0 : Nat → FieldType} {cc' : ByteArray} {nL' d' n index : Nat} {ret' : Option FieldType} {sp : Spc} (CI : ClI ci C T0 N ty0) (hO : Ok d' y cc' nL' ret' sp) (hdd : d' < d) (hnl : nL' ≤ 13) (hcode : Cond.code y cc' nL' ret' ∈ gtb) (hlink : Cond.methodLinkNest own index y host ∈ ntb) (hinst : Cond.instanceMethod y ∈ gtb) (hsel : Cond.selects C y y ∈ gtb) (hini : Cond.initialized y.cls ∈ gtb) (hy : yok y n) (hd : decode cc pc = .ok (.invokevirtual index, 3)) :
    Snd d own cc nL ret ini pc (s_invv ci n sp (pc + 3)) := by
  intro p l e s m args below meth c Q D cy bs g0 ad0 Cc hi ls st g K Qr hf hK hQ ad H locs k n2 lsA P
  obtain ⟨b, fs, As, rest, rfl, hb, hlen, hls, hrest, hsum, hsp⟩ := invv_spec hf
  intro T hT X
  have hB := back2 (p := p) (e := e) (below := below) (R := Lvl d) (s := s) (sargs := args) (len := 3) (hO l D cy bs ad (.ref b :: As) g _ hsp) (show d' + 1 ≤ d by omega) (show 8 + (nL' + 11) + (32 * d' + 8) ≤ 32 * d + 8 by omega) Cc.2.2.2.2.1 hcode (Cc.2.2.2.2.1 _ hini)
  obtain ⟨ws, hP, hD, hin, -⟩ := P.1.list
  obtain ⟨q0, hq0⟩ := hin b _ hb
  obtain ⟨cell, r1, r2, r3⟩ := va_recv Cc.2.2.2.2.2.2.1 hP CI.1 hq0
  obtain ⟨v, vm₁, B, hW₁, X', hpost, st⟩ := va_callVN X Cc.1 (C := C) (bytes := cc') (maxL := nL') (ret := ret') Cc.2.2.2.1 (va_Nw.use rfl (Cc.2.2.2.2.2.1 _ hlink)) (Cc.2.2.2.2.1 _ hinst) (Cc.2.2.2.2.1 _ hsel) (Cc.2.2.2.2.1 _ hcode) ⟨hy.1, hy.2.1⟩ hB (b := ad b) (by rw [hT]; exact r1) r2 r3 (g := F0 m pc lsA ((As.reverse ++ .ref b :: rest).map (cnc ad))) rfl (by rw [Cc.2.2.1]; exact P.2.2.2.1.2.1)
    (argsL := As.map (cnc ad)) (rest := rest.map (cnc ad)) (yok_len hy (by rw [List.length_map]; exact hlen)) (by show (As.reverse ++ .ref b :: rest).map (cnc ad) = _; rw [List.map_append, List.map_reverse, List.map_cons]; rfl) (by show 2 * 0 + _ ≤ 8; rw [cat_map]; omega) (by rw [Cc.2.1]; exact hd)
    (fun vm₁ hW₁ => pre_call (As := .ref b :: As) Cc P hT hdd hW₁)
  exact call_end P hT hls hrest hK X' hpost rfl st
/-- a constructor's call -/
theorem snd_invi {y : MethodName} {C : String} {T0 : u_T} {N ci : Nat} {ty0 : Nat → FieldType} {cc' : ByteArray} {nL' d' n index : Nat} {sp : Spc} (CI : ClI ci C T0 N ty0) (hO : Ok d' y cc' nL' none sp) (hdd : d' < d) (hnl : nL' ≤ 13) (hcode : Cond.code y cc' nL' none ∈ gtb) (hlink : Cond.methodLink own index y ∈ gtb) (hinst : Cond.instanceMethod y ∈ gtb) (hnm : y.name = "<init>") (hini : Cond.initialized y.cls ∈ gtb) (hy : yok y n) (hd : decode cc pc = .ok (.invokespecial index, 3)) :
    Snd d own cc nL ret ini pc (s_invv ci n sp (pc + 3)) := by
  intro p l e s m args below meth c Q D cy bs g0 ad0 Cc hi ls st g K Qr hf hK hQ ad H locs k n2 lsA P
  obtain ⟨b, fs, As, rest, rfl, hb, hlen, hls, hrest, hsum, hsp⟩ := invv_spec hf
  intro T hT X
  have hB := back2 (p := p) (e := e) (below := below) (R := Lvl d) (s := s) (sargs := args) (len := 3) (hO l D cy bs ad (.ref b :: As) g _ hsp) (show d' + 1 ≤ d by omega) (show 8 + (nL' + 11) + (32 * d' + 8) ≤ 32 * d + 8 by omega) Cc.2.2.2.2.1 hcode (Cc.2.2.2.2.1 _ hini)
  obtain ⟨v, vm₁, B, hW₁, X', hpost, st⟩ := callI X Cc.1 (bytes := cc') (maxL := nL') Cc.2.2.2.1 hnm (Cc.2.2.2.2.1 _ hlink) (Cc.2.2.2.2.1 _ hinst) (Cc.2.2.2.2.1 _ hcode) ⟨hy.1, hy.2.1⟩ hB (g := F0 m pc lsA ((As.reverse ++ .ref b :: rest).map (cnc ad))) rfl (by rw [Cc.2.2.1]; exact P.2.2.2.1.2.1) (a := ad b)
    (argsL := As.map (cnc ad)) (rest := rest.map (cnc ad)) (yok_len hy (by rw [List.length_map]; exact hlen)) (by show (As.reverse ++ .ref b :: rest).map (cnc ad) = _; rw [List.map_append, List.map_reverse, List.map_cons]; rfl) (by show 2 * 0 + _ ≤ 8; rw [cat_map]; omega) (by rw [Cc.2.1]; exact hd)
    (fun vm₁ hW₁ => pre_call (As := .ref b :: As) Cc P hT hdd hW₁)
  exact call_end P hT hls hrest hK X' hpost rfl st
theorem snd_inviN {y : MethodName} {C host : String} {T0 : u_T} {N ci : Nat} {ty0 : Nat → FieldType} {cc' : ByteArray} {nL' d' n index : Nat} {sp : Spc} (CI : ClI ci C T0 N ty0) (hO : Ok d' y cc' nL' none sp) (hdd : d' < d) (hnl : nL' ≤ 13) (hcode : Cond.code y cc' nL' none ∈ gtb) (hlink : Cond.methodLinkNest own index y host ∈ ntb) (hinst : Cond.instanceMethod y ∈ gtb) (hnm : y.name = "<init>") (hini : Cond.initialized y.cls ∈ gtb) (hy : yok y n) (hd : decode cc pc = .ok (.invokespecial index, 3)) :
    Snd d own cc nL ret ini pc (s_invv ci n sp (pc + 3)) := by
  intro p l e s m args below meth c Q D cy bs g0 ad0 Cc hi ls st g K Qr hf hK hQ ad H locs k n2 lsA P
  obtain ⟨b, fs, As, rest, rfl, hb, hlen, hls, hrest, hsum, hsp⟩ := invv_spec hf
  intro T hT X
  have hB := back2 (p := p) (e := e) (below := below) (R := Lvl d) (s := s) (sargs := args) (len := 3) (hO l D cy bs ad (.ref b :: As) g _ hsp) (show d' + 1 ≤ d by omega) (show 8 + (nL' + 11) + (32 * d' + 8) ≤ 32 * d + 8 by omega) Cc.2.2.2.2.1 hcode (Cc.2.2.2.2.1 _ hini)
  obtain ⟨v, vm₁, B, hW₁, X', hpost, st⟩ := va_callIN X Cc.1 (bytes := cc') (maxL := nL') Cc.2.2.2.1 hnm (va_Nw.use rfl (Cc.2.2.2.2.2.1 _ hlink)) (Cc.2.2.2.2.1 _ hinst) (Cc.2.2.2.2.1 _ hcode) ⟨hy.1, hy.2.1⟩ hB (g := F0 m pc lsA ((As.reverse ++ .ref b :: rest).map (cnc ad))) rfl (by rw [Cc.2.2.1]; exact P.2.2.2.1.2.1) (a := ad b)
    (argsL := As.map (cnc ad)) (rest := rest.map (cnc ad)) (yok_len hy (by rw [List.length_map]; exact hlen)) (by show (As.reverse ++ .ref b :: rest).map (cnc ad) = _; rw [List.map_append, List.map_reverse, List.map_cons]; rfl) (by show 2 * 0 + _ ≤ 8; rw [cat_map]; omega) (by rw [Cc.2.1]; exact hd)
    (fun vm₁ hW₁ => pre_call (As := .ref b :: As) Cc P hT hdd hW₁)
  exact call_end P hT hls hrest hK X' hpost rfl st
end Steps4

/-! the law's walk, out of its table -/
theorem ntb_on {w : Cond} (h : w ∈ ntb) : w.onTables = true := by
  have h1 := (List.mem_filter.mp h).2
  cases w <;> first | rfl | cases h1
theorem eR9 : Lvl 9 = room_1 := rfl
theorem kn_all {s : State} {args : Array Value} (hg : ∀ w ∈ gtb, w.before args s = true) : ∃ D : va_G, ∀ (k : Nat) (q : vw_C), vwCl[k]? = some q → u_Kn s q.1 q.2.1 q.2.2 (D.1 k) (D.2 k) := by
  have h0 := u_known (n := 4) hg cI_0.2.1 (hg _ g_261)
  have h1 := u_known (n := 8) hg cI_1.2.1 (hg _ g_178)
  have h2 := u_known (n := 2) hg cI_2.2.1 (hg _ g_305)
  have h3 := u_known (n := 6) hg cI_3.2.1 (hg _ g_153)
  have h4 := u_known (n := 2) hg cI_4.2.1 (hg _ g_137)
  have h5 := u_known (n := 4) hg cI_5.2.1 (hg _ g_224)
  have h6 := u_known (n := 3) hg cI_6.2.1 (hg _ g_230)
  have h7 := u_known (n := 5) hg cI_7.2.1 (hg _ g_281)
  have h8 := u_known (n := 7) hg cI_8.2.1 (hg _ g_94)
  have h9 := u_known (n := 11) hg cI_9.2.1 (hg _ g_86)
  have h10 := u_known (n := 25) hg cI_10.2.1 (hg _ g_759)
  have key : ∀ k : Nat, ∃ (cC : ClassId) (iS : Nat → Nat), ∀ q : vw_C, vwCl[k]? = some q → u_Kn s q.1 q.2.1 q.2.2 cC iS := by
    intro k
    match k with
    | 0 => obtain ⟨a, b, h⟩ := h0; exact ⟨a, b, fun q e => by cases e; exact h⟩
    | 1 => obtain ⟨a, b, h⟩ := h1; exact ⟨a, b, fun q e => by cases e; exact h⟩
    | 2 => obtain ⟨a, b, h⟩ := h2; exact ⟨a, b, fun q e => by cases e; exact h⟩
    | 3 => obtain ⟨a, b, h⟩ := h3; exact ⟨a, b, fun q e => by cases e; exact h⟩
    | 4 => obtain ⟨a, b, h⟩ := h4; exact ⟨a, b, fun q e => by cases e; exact h⟩
    | 5 => obtain ⟨a, b, h⟩ := h5; exact ⟨a, b, fun q e => by cases e; exact h⟩
    | 6 => obtain ⟨a, b, h⟩ := h6; exact ⟨a, b, fun q e => by cases e; exact h⟩
    | 7 => obtain ⟨a, b, h⟩ := h7; exact ⟨a, b, fun q e => by cases e; exact h⟩
    | 8 => obtain ⟨a, b, h⟩ := h8; exact ⟨a, b, fun q e => by cases e; exact h⟩
    | 9 => obtain ⟨a, b, h⟩ := h9; exact ⟨a, b, fun q e => by cases e; exact h⟩
    | 10 => obtain ⟨a, b, h⟩ := h10; exact ⟨a, b, fun q e => by cases e; exact h⟩
    | k + 11 => obtain ⟨a, b, h⟩ := h0; exact ⟨a, b, fun q e => by simp [vwCl] at e⟩
  exact ⟨(fun k => Classical.choose (key k), fun k => Classical.choose (Classical.choose_spec (key k))), fun k q e => Classical.choose_spec (Classical.choose_spec (key k)) q e⟩
theorem arr_k {s : State} {args : Array Value} {ty : FieldType} (h : (Cond.arrayClass ty).before args s = true) : ∃ cA : ClassId, ArrOfT s cA ty ∧ s.vm.findClass ("[" ++ ty.toString) = some cA := by
  obtain ⟨cA, kA, comp, h1, h2, h3⟩ := Cond.arrayClass_spec h
  exact ⟨cA, fun n z => ⟨fun k h => (by cases h), kA, h2, comp, h3⟩, h1⟩
/-- YOUR PART: from the entry, for every script of at most 2048 ints, the law comes to its end with true ('hflags': the launch's flags, for a law that throws: no stack traces) -/
theorem whole_start {p : Program} {e : Env} {s : State} {m : MethodId} {below : List Frame} {meth : Method} {c : Code} (l : Launch) (hflags : l.flags = flags0) {b L : Nat} {xs : Nat → Int32} (hL : L ≤ 2048) (C0 : lw_At p s m meth c b L xs) : W p l e room_1 s m #[Value.ref b] below meth c s.heap [] 0 0 (lw_Z below #[Value.ref b] s) (entryFrame m ([Value.ref b] : List Value).toArray 4) := by
  obtain ⟨hx, hb, hr, hml, hown, hts, hX, hbl, hlocks, hgv⟩ := id C0
  have hg : ∀ w ∈ gtb, w.before #[Value.ref b] s = true := fun w hw => hts w (List.mem_filter.mp hw).1
  have hn : ∀ w ∈ ntb, va_Nw w s := fun w hw => va_Nw.of (ntb_on hw) (hts w (List.mem_filter.mp hw).1)
  obtain ⟨D, hKn⟩ := kn_all hg
  obtain ⟨c0, a0, f0⟩ := arr_k (hg _ g_135)
  obtain ⟨c1, a1, f1⟩ := arr_k (hg _ g_245)
  obtain ⟨c2, a2, f2⟩ := arr_k (hg _ g_845)
  have hK : va_K D vwCl (tysL (fun k => if k = 0 then c0 else if k = 1 then c1 else c2)) s := by
    refine ⟨hKn, fun k q h => ?_⟩
    match k, h with
    | 0, h => cases h; exact ⟨a0, f0⟩
    | 1, h => cases h; exact ⟨a1, f1⟩
    | 2, h => cases h; exact ⟨a2, f2⟩
    | k + 3, h => simp [tysL] at h
  have C : Cx RL code 4 p s m #[Value.ref b] c D (fun k => if k = 0 then c0 else if k = 1 then c1 else c2) s.heap.size := ⟨hx, hb, hml, hown, hg, hn, hK, Nat.le_refl _⟩
  have hi : inL L xs s meth (fun _ => b) s.heap.size := ⟨hX, hbl, hbl⟩
  have hQ : ∀ v g', lawQ v g' → Fnd p l e (Lvl 9) s m #[Value.ref b] below meth c (lw_Z below #[Value.ref b] s) 4 D (fun k => if k = 0 then c0 else if k = 1 then c1 else c2) s.heap.size gE (fun _ => b) code (some .boolean) v g' := by
    intro v g' hv pc i ad' H locs k n lsA ls P hdec hrt
    have hv : v = some (.int 1) := hv
    subst hv
    have hf : cU g'.1 ≤ 60000 ∧ sU g'.1 ≤ 730225 := P.1.2.2.2.2
    have hc := P.2.2.1
    rcases hrt with ⟨q, -⟩ | ⟨x, ty, -, q, -⟩ | ⟨x, rt, q, -⟩
    · cases q
    · subst q
      refine va_forget P.2.1.2.2 (W.widen (k := 600000) (n := 7302250) (by omega) (by omega) ?_)
      rw [eR9]
      exact lw_ret hx hb hr hlocks hdec
    · cases q
  have hI : ∀ (n pc : Nat) (ls st : List Value) (g' : Sto), lawI n pc ls st g' → BW p l e (Lvl 9) s m #[Value.ref b] below meth c (lw_Z below #[Value.ref b] s) 4 D (fun k => if k = 0 then c0 else if k = 1 then c1 else c2) s.heap.size gE (fun _ => b) pc ls st g' := by
    intro n
    induction n using Nat.strongRecOn with
    | _ n ih =>
      intro pc ls st g' h
      exact bw_wp (sL_law L xs) C hi (fun pc' ls' st' g'' ⟨n', q1, q2⟩ => ih n' q1 pc' ls' st' g'' q2) hQ 100 pc ls st g' (law_body hL n pc ls st g' h)
  have h0 := bw_wp (sL_law L xs) C hi (fun pc' ls' st' g'' ⟨n', q2⟩ => hI n' pc' ls' st' g'' q2) hQ 100 0 [.ref 49, U_, U_, U_] [] gE law_entry
  have hRep : Rep D (fun k => if k = 0 then c0 else if k = 1 then c1 else c2) s.heap.size (fun _ => b) gE s.heap := ⟨fun k s h => (by cases h), fun j k h => absurd rfl h, fun k h => absurd rfl h, fun k _ => rfl, ftN_spec (by decide +kernel)⟩
  have K0 := h0 (fun _ => b) s.heap [] 0 0 _ ⟨hRep, va_S.rf, ⟨by omega, by omega⟩, entry_LR (nL := 4) (As := [.ref 49]) (by decide) rfl, fun _ _ _ => rfl, fun _ h _ => h⟩
  rw [eR9] at K0
  exact K0

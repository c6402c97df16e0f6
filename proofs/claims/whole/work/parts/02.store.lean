/-! THE ABSTRACT STORE: cells by number (0 .. 48), what each is (its shape: an object's class with its fields, or an array's kind and length), ints by cell and field, ints and longs by cell and place -/
abbrev Shp : Type := (Nat × List Value) ⊕ (Nat × Nat)
abbrev Sto : Type := (Nat → Option Shp) × (Nat → Nat → Int32) × (Nat → Nat → Int32) × (Nat → Nat → Int64)
def up1 {α : Type} (f : Nat → α) (k : Nat) (h : α) : Nat → α := fun a => if a = k then h else f a
theorem up1_s {α : Type} (f : Nat → α) (k : Nat) (h : α) : up1 f k h k = h := if_pos rfl
theorem up1_n {α : Type} (f : Nat → α) {k a : Nat} (h : α) (hn : a ≠ k) : up1 f k h a = f a := if_neg hn
def cnc (ad : Nat → Nat) (v : Value) : Value := match v with
  | .ref k => .ref (ad k)
  | v => v
def fvl (ad : Nat → Nat) (x : Int32) (v : Value) : Value := match v with
  | .int _ => .int x
  | .ref k => .ref (ad k)
  | v => v
def cel (cy : Nat → ClassId) (ad : Nat → Nat) (g : Sto) (k : Nat) (s : Shp) : va_E := match s with
  | .inl (ci, fs) => .inr (ci, fs.mapIdx (fun f v => fvl ad (g.2.1 k f) v))
  | .inr (0, n) => .inl (cy 0, n, .inl (g.2.2.1 k))
  | .inr (1, n) => .inl (cy 1, n, .inr (.inl (g.2.2.2 k)))
  | .inr (_, n) => .inl (cy 2, n, .inl (g.2.2.1 k))
def grw (k : Nat) : Bool := k == 19 || k == 25 || k == 26 || k == 31 || k == 48
def cwt (k : Nat) (s : Option Shp) : Nat := match s with
  | none => 0
  | some (.inl _) => 1
  | some (.inr (_, n)) => if k = 48 then 1 else 1 + Nat.log2 n
def swt (k : Nat) (s : Option Shp) : Nat := match s with
  | none => 0
  | some (.inl (_, fs)) => fs.length
  | some (.inr (_, n)) => if k = 48 then n else 2 * n
def cU (sh : Nat → Option Shp) : Nat := ((List.range 49).map (fun k => cwt k (sh k))).sum
def sU (sh : Nat → Option Shp) : Nat := ((List.range 49).map (fun k => swt k (sh k))).sum
def Fit (sh : Nat → Option Shp) : Prop := cU sh ≤ 60000 ∧ sU sh ≤ 730225
/-- the heap holds the store, cell j at the address ad j; cells are apart, none below bs -/
def Rep (D : va_G) (cy : Nat → ClassId) (bs : Nat) (ad : Nat → Nat) (g : Sto) (H : Heap) : Prop :=
  (∀ (k : Nat) (s : Shp), g.1 k = some s → va_at D vwCl (ad k, cel cy ad g k s) H) ∧ (∀ j k : Nat, g.1 j ≠ none → g.1 k ≠ none → ad j = ad k → j = k) ∧ (∀ k : Nat, g.1 k ≠ none → bs ≤ ad k) ∧ (∀ k : Nat, 49 ≤ k → g.1 k = none) ∧ Fit g.1
/-- a world of the kit with all cells of the store -/
theorem Rep.list {D : va_G} {cy : Nat → ClassId} {bs : Nat} {ad : Nat → Nat} {g : Sto} {H : Heap} (h : Rep D cy bs ad g H) :
    ∃ ws : va_W, va_P D vwCl ws H ∧ va_D (fun q => bs ≤ q) ws ∧ (∀ (k : Nat) (s : Shp), g.1 k = some s → ∃ q0 : Nat, ws[q0]? = some (ad k, cel cy ad g k s)) ∧
      ∀ (q0 k : Nat) (e0 e : va_E) (H1 : Heap), g.1 k ≠ none → ws[q0]? = some (ad k, e0) → va_P D vwCl (ws.set q0 (ad k, e)) H1 → va_at D vwCl (ad k, e) H1 ∧ ∀ (j : Nat) (s : Shp), j ≠ k → g.1 j = some s → va_at D vwCl (ad j, cel cy ad g j s) H1 := by
  obtain ⟨h1, h2, h3, h4, -⟩ := h
  have hm : ∀ q : Nat × va_E, q ∈ (List.range 49).filterMap (fun k => (g.1 k).map (fun s => (ad k, cel cy ad g k s))) ↔ ∃ (k : Nat) (s : Shp), g.1 k = some s ∧ q = (ad k, cel cy ad g k s) := by
    intro q
    rw [List.mem_filterMap]
    constructor
    · rintro ⟨k, -, hk⟩
      cases hs : g.1 k with
      | none => rw [hs] at hk; cases hk
      | some s => rw [hs] at hk; cases hk; exact ⟨k, s, hs, rfl⟩
    · rintro ⟨k, s, hs, rfl⟩
      refine ⟨k, List.mem_range.mpr ?_, by rw [hs]; rfl⟩
      rcases Nat.lt_or_ge k 49 with q | q
      · exact q
      · rw [h4 k q] at hs; cases hs
  generalize hw : (List.range 49).filterMap (fun k => (g.1 k).map (fun s => (ad k, cel cy ad g k s))) = ws at hm
  have hinj : ∀ (i j : Nat) (p q : Nat × va_E), ws[i]? = some p → ws[j]? = some q → p.1 = q.1 → i = j := by
    have hnd : ∀ (l : List Nat), l.Nodup → ∀ (i j : Nat) (p q : Nat × va_E), (l.filterMap (fun k => (g.1 k).map (fun s => (ad k, cel cy ad g k s))))[i]? = some p → (l.filterMap (fun k => (g.1 k).map (fun s => (ad k, cel cy ad g k s))))[j]? = some q → p.1 = q.1 → i = j := by
      intro l
      induction l with
      | nil => intro _ i j p q hi; simp at hi
      | cons a l ih =>
        intro hn i j p q hi hj hpq
        rw [List.nodup_cons] at hn
        cases hs : g.1 a with
        | none =>
          rw [List.filterMap_cons_none (by rw [hs]; rfl)] at hi hj
          exact ih hn.2 i j p q hi hj hpq
        | some s =>
          rw [List.filterMap_cons_some (b := (ad a, cel cy ad g a s)) (by rw [hs]; rfl)] at hi hj
          have hx : ∀ (i : Nat) (p : Nat × va_E), (l.filterMap (fun k => (g.1 k).map (fun s => (ad k, cel cy ad g k s))))[i]? = some p → p.1 ≠ ad a := by
            intro i p hp e
            obtain ⟨k, hk, hk2⟩ := List.mem_filterMap.mp (List.mem_of_getElem? hp)
            cases hs2 : g.1 k with
            | none => rw [hs2] at hk2; cases hk2
            | some s2 =>
              rw [hs2] at hk2
              cases hk2
              have := h2 k a (by rw [hs2]; simp) (by rw [hs]; simp) e
              subst this
              exact hn.1 hk
          cases i with
          | zero =>
            cases j with
            | zero => rfl
            | succ j =>
              rw [List.getElem?_cons_zero] at hi
              rw [List.getElem?_cons_succ] at hj
              cases hi
              exact absurd hpq.symm (hx j q hj)
          | succ i =>
            rw [List.getElem?_cons_succ] at hi
            cases j with
            | zero =>
              rw [List.getElem?_cons_zero] at hj
              cases hj
              exact absurd hpq (hx i p hi)
            | succ j =>
              rw [List.getElem?_cons_succ] at hj
              rw [ih hn.2 i j p q hi hj hpq]
    rw [← hw]
    exact hnd _ List.nodup_range
  refine ⟨ws, ?_, ⟨hinj, ?_⟩, ?_, ?_⟩
  · intro k q hq
    obtain ⟨j, s, hs, rfl⟩ := (hm q).mp (List.mem_of_getElem? hq)
    exact h1 j s hs
  · intro k q hq
    obtain ⟨j, s, hs, rfl⟩ := (hm q).mp (List.mem_of_getElem? hq)
    exact h3 j (by rw [hs]; simp)
  · intro k s hs
    exact List.getElem?_of_mem ((hm _).mpr ⟨k, s, hs, rfl⟩)
  · intro q0 k e0 e H1 hk h0 hP
    have hl := (List.getElem?_eq_some_iff.mp h0).1
    refine ⟨hP q0 _ (List.getElem?_set_self hl), fun j s hj hs => ?_⟩
    obtain ⟨i, hi⟩ := List.getElem?_of_mem ((hm _).mpr ⟨j, s, hs, rfl⟩)
    have hne : q0 ≠ i := by
      intro e1
      subst e1
      rw [h0] at hi
      have e2 := congrArg (fun z : Nat × va_E => z.1) (Option.some.inj hi)
      exact hj (h2 j k (by rw [hs]; simp) hk e2.symm)
    exact hP i _ (by rw [List.getElem?_set_ne hne]; exact hi)
theorem sum_up (f : Nat → Nat) (f' : Nat → Nat) (k : Nat) (hf : ∀ j, j ≠ k → f' j = f j) : ∀ n, k < n → ((List.range n).map f').sum + f k = ((List.range n).map f).sum + f' k := by
  intro n
  induction n with
  | zero => intro h; omega
  | succ n ih =>
    intro h
    rw [List.range_succ, List.map_append, List.map_append, List.sum_append_nat, List.sum_append_nat]
    simp only [List.map_cons, List.map_nil, List.sum_cons, List.sum_nil, Nat.add_zero]
    by_cases hk : k = n
    · subst hk
      have h2 : (List.range k).map f' = (List.range k).map f := List.map_congr_left fun j hj => hf j (by have := List.mem_range.mp hj; omega)
      rw [h2]; omega
    · have := ih (by omega)
      rw [hf n (fun e => hk e.symm)]
      omega
theorem cU_up {sh sh' : Nat → Option Shp} {k : Nat} (hk : k < 49) (h : ∀ j, j ≠ k → sh' j = sh j) : cU sh' + cwt k (sh k) = cU sh + cwt k (sh' k) :=
  sum_up (fun k => cwt k (sh k)) (fun k => cwt k (sh' k)) k (fun j hj => by show cwt j (sh' j) = cwt j (sh j); rw [h j hj]) 49 hk
theorem sU_up {sh sh' : Nat → Option Shp} {k : Nat} (hk : k < 49) (h : ∀ j, j ≠ k → sh' j = sh j) : sU sh' + swt k (sh k) = sU sh + swt k (sh' k) :=
  sum_up (fun k => swt k (sh k)) (fun k => swt k (sh' k)) k (fun j hj => by show swt j (sh' j) = swt j (sh j); rw [h j hj]) 49 hk

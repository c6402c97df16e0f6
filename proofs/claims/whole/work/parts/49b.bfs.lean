/-! what leads can bring: entries (row, the row ahead, the letter, how many leads) -/
abbrev Ent : Type := Nat × Nat × Nat × Nat
def kys (E : List Ent) : List Nat := E.map (fun e => e.1)
def ad (E : List Ent) (e : Ent) : List Ent := if e.1 ∈ kys E then E else E ++ [e]
def adT (S : Stg) (ls : Nat) (e : Ent) (E : List Ent) : Nat → List Ent
  | 0 => E
  | j + 1 => if bq ls j = true then ad (adT S ls e E j) (led S j e.1, e.1, j, e.2.2.2 + 1) else adT S ls e E j
def bfs (S : Stg) (ls : Nat) : Nat → Nat → List Ent → List Ent
  | 0, _, E => E
  | k + 1, i, E => if i < E.length then bfs S ls k (i + 1) (adT S ls (E.getD i (0, 0, 0, 0)) E 3) else E
def BFS (S : Stg) (ls : Nat) : List Ent := bfs S ls 50000 0 [(rds (sN S), 0, 3, 0)]
/-- agreement on all that lasts in the reference (and on the class) -/
def agS (aI aJ : Nat → Nat → Int32) : Prop := ∀ k, k ≤ 37 → aJ k = aI k
theorem agS.rf {aI : Nat → Nat → Int32} : agS aI aI := fun _ _ => rfl
theorem agS.tr {aI aJ aK : Nat → Nat → Int32} (h : agS aI aJ) (h' : agS aJ aK) : agS aI aK := fun k hk => (h' k hk).trans (h k hk)
theorem agS.up {aI aJ : Nat → Nat → Int32} {k : Nat} {f : Nat → Int32} (h : agS aI aJ) (hk : 38 ≤ k) : agS aI (up1 aJ k f) := fun j hj => by rw [up1_n _ _ (by omega)]; exact h j hj
/-- all met numbers are at most the counter -/
def MI (sr : Nat) (met : Nat → Int32) : Prop := ∀ r, r < 40320 → ∃ c, c ≤ sr ∧ met r = nI c
theorem MW.MI {n sr : Nat} {V : List Nat} {met wave : Nat → Int32} (h : MW n sr V met wave) : MI sr met := fun r hr => by
  obtain ⟨c, c1, c2, -⟩ := h.2.2.1 r hr
  exact ⟨c, c1, c2⟩
theorem MI.nil {n sr : Nat} {met wave : Nat → Int32} (h : MI sr met) : MW n (sr + 1) [] met wave := by
  refine ⟨fun x hx => (by cases hx), List.nodup_nil, fun r hr => ?_, fun i hi => absurd hi (Nat.not_lt_zero i)⟩
  obtain ⟨c, c1, c2⟩ := h r hr
  exact ⟨c, by omega, c2, fun e => (by omega), fun ⟨x, hx, _⟩ => (by cases hx)⟩
theorem MI.mono {sr sr' : Nat} {met : Nat → Int32} (h : MI sr met) (hs : sr ≤ sr') : MI sr' met := fun r hr => by
  obtain ⟨c, c1, c2⟩ := h r hr
  exact ⟨c, by omega, c2⟩
/-- the reference's arrays cameFrom, cameBy, deep -/
def BD (n : Nat) (E : List Ent) (cf cb dp : Nat → Int32) : Prop := ∀ e ∈ E, dp (rk n e.1) = nI e.2.2.2 ∧ (0 < e.2.2.2 → cf (rk n e.1) = nI (rk n e.2.1) ∧ cb (rk n e.1) = nI e.2.2.1)
theorem kys_len (E : List Ent) : (kys E).length = E.length := List.length_map _
theorem kys_app (E : List Ent) (e : Ent) : kys (E ++ [e]) = kys E ++ [e.1] := by unfold kys; rw [List.map_append]; rfl
theorem kys_getD {E : List Ent} {i : Nat} (h : i < E.length) : (kys E).getD i 0 = (E.getD i (0, 0, 0, 0)).1 := by
  unfold kys
  rw [List.getD_eq_getElem?_getD, List.getD_eq_getElem?_getD, List.getElem?_map, List.getElem?_eq_getElem h]
  rfl
theorem mem_kys {E : List Ent} {e : Ent} (h : e ∈ E) : e.1 ∈ kys E := List.mem_map_of_mem h
theorem entD_mem {E : List Ent} {i : Nat} (h : i < E.length) : E.getD i (0, 0, 0, 0) ∈ E := by
  rw [List.getD_eq_getElem?_getD, List.getElem?_eq_getElem h]
  exact List.getElem_mem h

/-! false heads by their order; what a question leaves of the reference's store -/
theorem sm_any {f : Nat → Nat} {N : Nat} : ∀ (V : List Nat), V.Nodup → (∀ x ∈ V, f x < N) → (∀ x ∈ V, ∀ y ∈ V, f x = f y → x = y) → sm (fun r => if V.any (fun x => f x == r) = true then 1 else 0) N = V.length
  | [], _, _, _ => sm_zero fun _ _ => rfl
  | x :: V, hn, hl, hi => by
    have hn2 := List.nodup_cons.mp hn
    have ih := sm_any V hn2.2 (fun y hy => hl y (List.mem_cons_of_mem _ hy)) (fun y hy z hz => hi y (List.mem_cons_of_mem _ hy) z (List.mem_cons_of_mem _ hz))
    have hx : V.any (fun y => f y == f x) = false := by
      cases hc : V.any (fun y => f y == f x) with
      | false => rfl
      | true =>
        obtain ⟨y, hy, e⟩ := List.any_eq_true.mp hc
        have := hi y (List.mem_cons_of_mem _ hy) x List.mem_cons_self (beq_iff_eq.mp e)
        rw [this] at hy
        exact absurd hy hn2.1
    have h1 := sm_up (f := fun r => if (x :: V).any (fun x => f x == r) = true then 1 else 0) (g := fun r => if V.any (fun x => f x == r) = true then 1 else 0) (a := f x) (fun r hr => by
      show (if (f x == r || V.any (fun x => f x == r)) = true then 1 else 0) = _
      have : (f x == r) = false := by simpa using fun e => hr e.symm
      rw [this, Bool.false_or]) (hl x List.mem_cons_self)
    rw [ih, hx] at h1
    have e : (if (x :: V).any (fun y => f y == f x) = true then 1 else 0) = 1 := by
      rw [if_pos]
      show (f x == f x || _) = true
      simp
    rw [e] at h1
    have h1 : sm (fun r => if (x :: V).any (fun x => f x == r) = true then 1 else 0) N + 0 = V.length + 1 := h1
    rw [List.length_cons]
    omega
def FHx (S : Stg) (x : Nat) : Prop := ∃ a b, a < (sC S).length ∧ b < (sC S).length ∧ x = hdx (sN S) (plr S a) (plr S b) ∧ dg x 0 = 0
noncomputable def fhB (S : Stg) (r : Nat) : Bool := @decide (∃ x, FHx S x ∧ rk (sN S) x = r) (Classical.propDecidable _)
theorem fhB_iff {S : Stg} {r : Nat} : fhB S r = true ↔ ∃ x, FHx S x ∧ rk (sN S) x = r := @decide_eq_true_iff _ (Classical.propDecidable _)
theorem FHx_Pm {S : Stg} (h : VS S) {x : Nat} (hx : FHx S x) : Pm (sN S) x := by
  obtain ⟨a, b, -, -, rfl, -⟩ := hx
  exact (hdx_spec h.1.2 (plr_Pm h a) (plr_Pm h b)).1
/-- the row of a rank -/
noncomputable def unr (n r : Nat) : Nat := Classical.epsilon (fun x => Pm n x ∧ rk n x = r)
theorem unr_rk {n x : Nat} (hx : Pm n x) : unr n (rk n x) = x := by
  have h := Classical.epsilon_spec (p := fun y => Pm n y ∧ rk n y = rk n x) ⟨x, hx, rfl⟩
  exact rk_inj h.1 hx h.2
/-- how many false heads there are, and the i-th of them -/
noncomputable def fhN (S : Stg) : Nat := sm (fun r => if fhB S r = true then 1 else 0) 40320
noncomputable def fhF (S : Stg) (i : Int32) : Nat → Nat → Nat → Int32
  | 0, _, _ => -6
  | k + 1, r, c => if fhB S r = true then (if nI c = i then nI (num (sN S) (unr (sN S) r)) else fhF S i k (r + 1) (c + 1)) else fhF S i k (r + 1) c
noncomputable def fhA (S : Stg) (i : Int32) : Int32 := if i = -1 then nI (fhN S) else fhF S i 40320 0 0
theorem fhN_len {S : Stg} (h : VS S) {V : List Nat} (hV : isFH S V) (hn : V.Nodup) : V.length = fhN S := by
  have hP : ∀ x ∈ V, Pm (sN S) x := fun x hx => FHx_Pm h ((hV x).mp hx)
  have h1 := sm_any (f := rk (sN S)) (N := 40320) V hn (fun x hx => Nat.lt_of_lt_of_le (rk_lt h.1.2) (fct_le _ h.1.2)) (fun x hx y hy e => rk_inj (hP x hx) (hP y hy) e)
  rw [← h1]
  refine sm_congr fun r hr => ?_
  congr 1
  apply propext
  rw [fhB_iff, List.any_eq_true]
  constructor
  · rintro ⟨x, hx, e⟩; exact ⟨x, (hV x).mp hx, beq_iff_eq.mp e⟩
  · rintro ⟨x, hx, e⟩; exact ⟨x, (hV x).mpr hx, beq_iff_eq.mpr e⟩
/-- behind a question to the reference: all that lasts is as it was -/
def qry (L : Nat → Nat) (iF aI : Nat → Nat → Int32) (aL : Nat → Nat → Int64) (sr : Nat) (Q : Rsl) (v : Int32) : Prop := ∀ iF' aI' sr', agS aI aI' → (∀ k, k ≠ 32 → iF' k = iF k) → iF' 32 4 = iF 32 4 → sr' ≤ sr + 400 → iF' 32 17 = nI sr' → MI sr' (aI' 41) → Q (some (.int v)) (Mg L iF' aI' aL)

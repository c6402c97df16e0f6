/-! the room for a larger table -/
theorem SH_48 (z : Zt) : SH z 48 = none := rfl
theorem SH_cg {z z' : Zt} (k : Nat) (h1 : z.1 = z'.1) (h : k = 19 ∨ k = 25 ∨ k = 26 ∨ k = 31 → z.2 k = z'.2 k) : SH z k = SH z' k := by
  have e : ∀ (q kd : Nat), (q = 19 ∨ q = 25 ∨ q = 26 ∨ q = 31) → (if k = q then some (Sum.inr (kd, z.2 q)) else none : Option Shp) = if k = q then some (Sum.inr (kd, z'.2 q)) else none := by
    intro q kd hq
    by_cases e : k = q
    · subst e; rw [if_pos rfl, if_pos rfl, h hq]
    · rw [if_neg e, if_neg e]
  unfold SH
  rw [h1, e 19 1 (by omega), e 25 1 (by omega), e 26 0 (by omega), e 31 1 (by omega)]
/-- the lengths of the arrays that grow -/
def Lok (L : Nat → Nat) : Prop := (1 ≤ L 19 ∧ L 19 ≤ 4096) ∧ (1 ≤ L 25 ∧ L 25 ≤ 65536) ∧ (1 ≤ L 26 ∧ L 26 ≤ 40320) ∧ 1 ≤ L 31 ∧ L 31 ≤ 512
def Lmx : Nat → Nat := fun j => if j = 19 then 4096 else if j = 25 then 65536 else if j = 26 then 40320 else 512
theorem sum_mono {f g : Nat → Nat} (h : ∀ k, f k ≤ g k) : ∀ l : List Nat, (l.map f).sum ≤ (l.map g).sum
  | [] => Nat.le_refl _
  | a :: l => by
    rw [List.map_cons, List.map_cons, List.sum_cons, List.sum_cons]
    exact Nat.add_le_add (h a) (sum_mono h l)
theorem lg_le {n c : Nat} (h : n < 2 ^ (c + 1)) : Nat.log2 n ≤ c := by
  by_cases e : n = 0
  · subst e; exact Nat.zero_le _
  · exact Nat.le_of_lt_succ ((Nat.log2_lt e).mpr h)
theorem wt_mx {b : Bool} {L : Nat → Nat} (h : Lok L) (k : Nat) : swt k (SH (b, L) k) ≤ swt k (SH (b, Lmx) k) ∧ cwt k (SH (b, L) k) ≤ cwt k (SH (b, Lmx) k) := by
  obtain ⟨⟨-, h1⟩, ⟨-, h2⟩, ⟨-, h3⟩, -, h4⟩ := h
  by_cases e1 : k = 19
  · subst e1
    exact ⟨show 2 * L 19 ≤ 2 * 4096 by omega, show 1 + Nat.log2 (L 19) ≤ 1 + Nat.log2 4096 from Nat.add_le_add_left (lg_le (c := 12) (by omega)) 1⟩
  · by_cases e2 : k = 25
    · subst e2
      exact ⟨show 2 * L 25 ≤ 2 * 65536 by omega, show 1 + Nat.log2 (L 25) ≤ 1 + Nat.log2 65536 from Nat.add_le_add_left (lg_le (c := 16) (by omega)) 1⟩
    · by_cases e3 : k = 26
      · subst e3
        exact ⟨show 2 * L 26 ≤ 2 * 40320 by omega, show 1 + Nat.log2 (L 26) ≤ 1 + Nat.log2 40320 from Nat.add_le_add_left (lg_le (c := 15) (by omega)) 1⟩
      · by_cases e4 : k = 31
        · subst e4
          exact ⟨show 2 * L 31 ≤ 2 * 512 by omega, show 1 + Nat.log2 (L 31) ≤ 1 + Nat.log2 512 from Nat.add_le_add_left (lg_le (c := 9) (by omega)) 1⟩
        · have e : SH (b, L) k = SH (b, Lmx) k := SH_cg k rfl (fun q => by omega)
          rw [e]
          exact ⟨Nat.le_refl _, Nat.le_refl _⟩
theorem fit_cl : ∀ b : Bool, (sU (up1 (SH (b, Lmx)) 48 (some (.inr (0, 65536)))) ≤ 730225 ∧ sU (SH (b, Lmx)) ≤ 730225) ∧ cU (up1 (SH (b, Lmx)) 48 (some (.inr (0, 65536)))) ≤ 60000 ∧ cU (SH (b, Lmx)) ≤ 60000 := by decide +kernel
theorem Fit_SH {z : Zt} (h : Lok z.2) : Fit (SH z) := by
  obtain ⟨b, L⟩ := z
  exact ⟨Nat.le_trans (sum_mono (fun k => (wt_mx h k).2) _) (fit_cl b).2.2, Nat.le_trans (sum_mono (fun k => (wt_mx h k).1) _) (fit_cl b).1.2⟩
theorem Fit_48 {z : Zt} (h : Lok z.2) {kd n : Nat} (hn : n ≤ 65536) : Fit (up1 (SH z) 48 (some (.inr (kd, n)))) := by
  obtain ⟨b, L⟩ := z
  refine ⟨Nat.le_trans (sum_mono (fun k => ?_) _) (fit_cl b).2.1, Nat.le_trans (sum_mono (fun k => ?_) _) (fit_cl b).1.1⟩
  · by_cases e : k = 48
    · subst e; exact Nat.le_refl 1
    · rw [up1_n _ _ e, up1_n _ _ e]; exact (wt_mx h k).2
  · by_cases e : k = 48
    · subst e; exact hn
    · rw [up1_n _ _ e, up1_n _ _ e]; exact (wt_mx h k).1
theorem SH_gr {z : Zt} {t n kd : Nat} (ht : t ≠ 48) (hs : ∀ z', SH z' t = some (.inr (kd, z'.2 t))) : up1 (up1 (up1 (SH z) 48 (some (.inr (kd, n)))) t ((up1 (SH z) 48 (some (.inr (kd, n)))) 48)) 48 none = SH (z.1, up1 z.2 t n) := by
  funext k
  by_cases e : k = 48
  · rw [e, up1_s]; rfl
  · rw [up1_n _ _ e]
    by_cases e2 : k = t
    · rw [e2, up1_s, up1_s, hs]
      show _ = some (Sum.inr (kd, up1 z.2 t n t))
      rw [up1_s]
    · rw [up1_n _ _ e2, up1_n _ _ e]
      exact SH_cg k rfl (fun _ => (up1_n _ _ e2).symm)

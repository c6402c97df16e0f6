/-! the tree of touches of few leads: node fd d + w has d leads, its letters are the figures of w -/
def fd : Nat → Nat
  | 0 => 0
  | d + 1 => 3 * fd d + 1
theorem fd_p : ∀ d, fd (d + 1) = fd d + 3 ^ d
  | 0 => rfl
  | d + 1 => by
    have h := fd_p d
    show 3 * fd (d + 1) + 1 = fd (d + 1) + 3 ^ (d + 1)
    rw [Nat.pow_succ]
    have : fd (d + 1) = 3 * fd d + 1 := rfl
    omega
theorem fd_le : ∀ d, d ≤ 6 → fd d ≤ 364 := by decide +kernel
theorem fd_pos {d : Nat} (h : 1 ≤ d) : 1 ≤ fd d := by
  obtain ⟨k, rfl⟩ : ∃ k, d = k + 1 := ⟨d - 1, by omega⟩
  show 1 ≤ 3 * fd k + 1
  omega
theorem div3 (w i : Nat) : w / 3 ^ i / 3 = w / 3 ^ (i + 1) := by rw [Nat.div_div_eq_div_mul, Nat.pow_succ]
/-- a node's parent and letter -/
theorem fd_up {d i : Nat} (w : Nat) (h : i < d) : ∃ m, fd (d - i) + w / 3 ^ i = m + 1 ∧ m / 3 = fd (d - (i + 1)) + w / 3 ^ (i + 1) ∧ m % 3 = w / 3 ^ i % 3 := by
  have e : fd (d - i) = 3 * fd (d - (i + 1)) + 1 := by
    rw [show d - i = (d - (i + 1)) + 1 by omega]
    rfl
  refine ⟨3 * fd (d - (i + 1)) + w / 3 ^ i, by omega, ?_, by omega⟩
  rw [← div3]
  omega
theorem div3_0 {w d : Nat} (h : w < 3 ^ d) : w / 3 ^ d = 0 := Nat.div_eq_of_lt h
theorem nd_lt {w d i : Nat} (hd : d ≤ 5) (hi : i ≤ d) (h : w < 3 ^ d) : fd (d - i) + w / 3 ^ i < 364 := by
  have h1 : w / 3 ^ i < 3 ^ (d - i) := by
    rw [Nat.div_lt_iff_lt_mul (Nat.pow_pos (by decide)), ← Nat.pow_add, show d - i + i = d by omega]
    exact h
  have h2 := fd_p (d - i)
  have h3 := fd_le (d - i + 1) (by omega)
  omega
def qX2_parentOf : Spc := fun As g Q => ∃ m, As = [.int (nI (m + 1))] ∧ m < 2 ^ 30 ∧ Q (some (.int (nI (m / 3)))) g
theorem rX2_parentOf : Ok 0 yX2_parentOf cX2_parentOf 1 (some .int) qX2_parentOf := by
  refine ok_weak (fun As g Q h => ?_) oX2_parentOf
  obtain ⟨m, rfl, hm, hQ⟩ := h
  refine And.intro (by decide) ?_
  show Q (some (.int ((nI (m + 1) - 1) / 3))) g
  rw [nI_pred, show (3 : Int32) = nI 3 from rfl, pk_div (by omega) (by omega) (by omega)]
  exact hQ
def qX2_letterOf : Spc := fun As g Q => ∃ m, As = [.int (nI (m + 1))] ∧ m < 2 ^ 30 ∧ Q (some (.int (nI (m % 3)))) g
theorem rX2_letterOf : Ok 0 yX2_letterOf cX2_letterOf 1 (some .int) qX2_letterOf := by
  refine ok_weak (fun As g Q h => ?_) oX2_letterOf
  obtain ⟨m, rfl, hm, hQ⟩ := h
  refine And.intro (by decide) ?_
  show Q (some (.int ((nI (m + 1) - 1) - (nI (m + 1) - 1) / 3 * 3))) g
  rw [nI_pred, show (3 : Int32) = nI 3 from rfl, pk_rem (by omega) (by omega) (by omega)]
  exact hQ
/-- the row of a node -/
def ndF (S : Stg) : Nat → Nat → Nat
  | 0, _ => rds (sN S)
  | k + 1, m => if m = 0 then rds (sN S) else led S ((m - 1) % 3) (ndF S k ((m - 1) / 3))
def nd (S : Stg) (m : Nat) : Nat := ndF S m m
theorem ndF_eq (S : Stg) : ∀ k k' m, m ≤ k → m ≤ k' → ndF S k m = ndF S k' m := by
  intro k
  induction k with
  | zero =>
    intro k' m h1 h2
    have : m = 0 := by omega
    subst this
    cases k' with
    | zero => rfl
    | succ k' => exact (if_pos rfl).symm
  | succ k ih =>
    intro k' m h1 h2
    by_cases e : m = 0
    · subst e
      cases k' with
      | zero => exact if_pos rfl
      | succ k' => exact (if_pos rfl).trans (if_pos rfl).symm
    · cases k' with
      | zero => omega
      | succ k' =>
        show (if m = 0 then _ else _) = (if m = 0 then _ else _)
        rw [if_neg e, if_neg e, ih k' ((m - 1) / 3) (by omega) (by omega)]
theorem nd_0 (S : Stg) : nd S 0 = rds (sN S) := rfl
theorem nd_s (S : Stg) (m : Nat) : nd S (m + 1) = led S (m % 3) (nd S (m / 3)) := by
  show (if m + 1 = 0 then rds (sN S) else led S ((m + 1 - 1) % 3) (ndF S m ((m + 1 - 1) / 3))) = _
  rw [if_neg (by omega)]
  show led S (m % 3) (ndF S m (m / 3)) = led S (m % 3) (ndF S (m / 3) (m / 3))
  rw [ndF_eq S m (m / 3) (m / 3) (by omega) (Nat.le_refl _)]
theorem ndF_Pm {S : Stg} (h : sN S ≤ 8) : ∀ k m, Pm (sN S) (ndF S k m)
  | 0, _ => Pm_rds h
  | k + 1, m => by
    show Pm (sN S) (if m = 0 then _ else _)
    split
    · exact Pm_rds h
    · exact led_Pm (ndF_Pm h k _)
theorem nd_Pm {S : Stg} (h : sN S ≤ 8) (m : Nat) : Pm (sN S) (nd S m) := ndF_Pm h m m
/-- rows of the touch within a lead -/
theorem trw_in {T : Stg} (l : Nat) : ∀ k, k ≤ (sC T).length → trw T (l * (sC T).length + k) = rgTo T ((sL T).getD l 0) (trw T (l * (sC T).length)) k
  | 0, _ => rfl
  | k + 1, hk => by
    show trw T (l * (sC T).length + k + 1) = chg (sN T) (chOf T ((sL T).getD l 0) k) (rgTo T ((sL T).getD l 0) (trw T (l * (sC T).length)) k)
    rw [trw_at (by omega), trw_in l k (by omega)]
theorem trw_led {T : Stg} (l : Nat) : trw T ((l + 1) * (sC T).length) = led T ((sL T).getD l 0) (trw T (l * (sC T).length)) := by
  rw [Nat.succ_mul, trw_in l _ (Nat.le_refl _)]
  rfl
theorem rgTo_w {S : Stg} {lt : List Nat} {q x : Nat} : ∀ k, rgTo (wtc S lt) q x k = rgTo S q x k
  | 0 => rfl
  | k + 1 => by
    show chg (sN S) (chOf (wtc S lt) q k) (rgTo (wtc S lt) q x k) = chg (sN S) (chOf S q k) (rgTo S q x k)
    rw [rgTo_w k]
    rfl
theorem trw_nd {S : Stg} {w d : Nat} (hw : w < 3 ^ d) : ∀ l, l ≤ d → trw (wtc S (lts w d)) (l * (sC S).length) = nd S (fd l + w / 3 ^ (d - l))
  | 0, _ => by
    rw [Nat.zero_mul, Nat.sub_zero, div3_0 hw]
    rfl
  | l + 1, hl => by
    have ih := trw_nd (S := S) hw l (by omega)
    have h1 := trw_led (T := wtc S (lts w d)) l
    have h2 : (sL (wtc S (lts w d))).getD l 0 = w / 3 ^ (d - 1 - l) % 3 := lts_get (by omega)
    rw [h2] at h1
    have h1 : trw (wtc S (lts w d)) ((l + 1) * (sC S).length) = led (wtc S (lts w d)) (w / 3 ^ (d - 1 - l) % 3) (trw (wtc S (lts w d)) (l * (sC S).length)) := h1
    rw [h1, ih]
    obtain ⟨m, m1, m2, m3⟩ := fd_up (d := d) (i := d - (l + 1)) w (by omega)
    rw [show d - (d - (l + 1)) = l + 1 by omega] at m1
    rw [show d - (d - (l + 1) + 1) = l by omega, show d - (l + 1) + 1 = d - l by omega] at m2
    rw [m1, nd_s, m2, m3, show d - 1 - l = d - (l + 1) by omega]
    exact rgTo_w _

/-! a contract at fixed arguments and store -/
def OkAt (d : Nat) (y : MethodName) (cc : ByteArray) (nL : Nat) (ret : Option FieldType) (a : List Value) (g : Sto) (Q : Rsl) : Prop :=
  ∀ (l : Launch) (D : va_G) (cy : Nat → ClassId) (bs : Nat) (ad : Nat → Nat), MetFree l y (headSpec (wsY y cc nL ret) (Lvl d)) (PreM D cy bs ad a g) (fun _ _ _ _ _ => True) (EndM D cy bs ad g Q)
theorem ok_all {d : Nat} {y : MethodName} {cc : ByteArray} {nL : Nat} {ret : Option FieldType} {sp : Spc} (h : ∀ As g Q, sp As g Q → OkAt d y cc nL ret As g Q) : Ok d y cc nL ret sp := fun l D cy bs ad As g Q hs => h As g Q hs l D cy bs ad
theorem at_of {d : Nat} {own : String} {cc : ByteArray} {nL : Nat} {ret : Option FieldType} {y : MethodName} {code : Nat → Stq} {a : List Value} {g : Sto} {Q : Rsl} (cut : Nat → Bool) (fuel : Nat) (I : Nat → Kon) (hy : plainName y.cls = true) (hown : y.cls = own) (hs : ∀ pc, Snd d own cc nL ret (inM y.name) pc (code pc)) (hn : a.length ≤ nL ∧ a.all cat1 = true)
    (entry : frc (a ++ List.replicate (nL - a.length) U_) (fun ls0 => wp code cut (fun pc ls st g' => ∃ n, I n pc ls st g') Q fuel 0 ls0 [] g))
    (body : ∀ n pc ls st g', I n pc ls st g' → wp code cut (fun pc ls st g'' => ∃ n', n' < n ∧ I n' pc ls st g'') Q fuel pc ls st g') : OkAt d y cc nL ret a g Q := by
  intro l D cy bs ad
  have h : Ok d y cc nL ret (fun As g' Q' => As = a ∧ g' = g ∧ Q' = Q) := by
    refine ok_of cut fuel (fun _ _ _ => I) hy hown hs ?_ ?_ ?_
    · rintro As g' Q' ⟨rfl, rfl, rfl⟩; exact hn
    · rintro As g' Q' ⟨rfl, rfl, rfl⟩; exact entry
    · rintro As g' Q' ⟨rfl, rfl, rfl⟩; exact body
  exact h l D cy bs ad a g Q ⟨rfl, rfl, rfl⟩
theorem cut_in {b : Bool} {A B : Prop} (hb : b = true) (h : A) : cond b A B := by subst hb; exact h
theorem nl {n m : Nat} {l : List Value} (h : Nat.ble n m = true) (hl : l.length = n) (hc : l.all cat1 = true) : l.length ≤ m ∧ l.all cat1 = true := ⟨by rw [hl]; exact Nat.le_of_ble_eq_true h, hc⟩
/-! changes: which places change with the one behind -/
def bq (m q : Nat) : Bool := m / 2 ^ q % 2 == 1
/-- the places at which the reading of a set of places stops, from 0 on -/
def vis (m : Nat) : Nat → Bool
  | 0 => true
  | 1 => bq m 1
  | p + 2 => (vis m (p + 1) && bq m (p + 2)) || (vis m p && !bq m (p + 1))
theorem vis_apart {m : Nat} : ∀ p, vis m p = true → bq m (p + 1) = false → vis m (p + 1) = false
  | 0, _, h => h
  | p + 1, h1, h2 => by
    show ((vis m (p + 1) && bq m (p + 2)) || (vis m p && !bq m (p + 1))) = false
    rw [h2, Bool.and_false, Bool.false_or]
    cases h3 : vis m p with
    | false => rfl
    | true =>
      cases h4 : bq m (p + 1) with
      | true => rfl
      | false =>
        have := vis_apart p h3 h4
        rw [this] at h1; cases h1
theorem vis_stay {m p : Nat} (h1 : vis m p = true) (h2 : bq m (p + 1) = true) : vis m (p + 1) = true := by
  cases p with
  | zero => exact h2
  | succ p =>
    show ((vis m (p + 1) && bq m (p + 2)) || (vis m p && !bq m (p + 1))) = true
    rw [h1, h2]; rfl
theorem vis_go {m p : Nat} (h1 : vis m p = true) (h2 : bq m (p + 1) = false) : vis m (p + 2) = true := by
  show ((vis m (p + 1) && bq m (p + 2)) || (vis m p && !bq m (p + 1))) = true
  rw [h1, h2]; simp
def swf (n m p : Nat) : Bool := vis m p && (!bq m (p + 1) && decide (p + 1 < n))
theorem swf_apart {n m p : Nat} (h : swf n m p = true) : swf n m (p + 1) = false := by
  simp only [swf, Bool.and_eq_true, Bool.not_eq_true', decide_eq_true_eq] at h
  simp only [swf, vis_apart p h.1 h.2.1, Bool.false_and]
/-- where the bell comes from that is at place p behind the change -/
def sg (n m p : Nat) : Nat := if swf n m p = true then p + 1 else if 1 ≤ p ∧ swf n m (p - 1) = true then p - 1 else p
/-- a change's bits for all places -/
def stN (n m : Nat) : Nat := pq (fun p => if swf n m p = true then 7 else 0) n
/-- the row that a change makes of a row -/
def chg (n m x : Nat) : Nat := pq (fun p => dg x (sg n m p)) n
theorem sg_lt {n m p : Nat} (hp : p < n) : sg n m p < n := by
  unfold sg
  split
  · rename_i h
    simp only [swf, Bool.and_eq_true, decide_eq_true_eq] at h
    exact h.2.2
  · split <;> omega
theorem sg_sg {n m p : Nat} : sg n m (sg n m p) = p := by
  by_cases h1 : swf n m p = true
  · have e1 : sg n m p = p + 1 := if_pos h1
    rw [e1]
    unfold sg
    rw [if_neg (by rw [swf_apart h1]; simp), if_pos ⟨by omega, by simpa using h1⟩]
    omega
  · by_cases h2 : 1 ≤ p ∧ swf n m (p - 1) = true
    · have e1 : sg n m p = p - 1 := by unfold sg; rw [if_neg h1, if_pos h2]
      rw [e1]
      unfold sg
      rw [if_pos h2.2]
      omega
    · have e1 : sg n m p = p := by unfold sg; rw [if_neg h1, if_neg h2]
      rw [e1, e1]
theorem dg_chg {n m x p : Nat} (hp : p < n) : dg (chg n m x) p = dg x (sg n m p) := dg_pq (fun _ _ => dg_lt _ _) hp
theorem chg_lt (n m x : Nat) : chg n m x < 8 ^ n := pq_lt (fun _ _ => dg_lt _ _)
theorem chg_chg {n m x : Nat} (hx : x < 8 ^ n) : chg n m (chg n m x) = x := by
  refine dg_ext (chg_lt _ _ _) hx (fun p hp => ?_)
  rw [dg_chg hp, dg_chg (sg_lt hp), sg_sg]
theorem and70 (a : Nat) (h : a < 8) : a &&& 7 = a := by
  rw [show (7 : Nat) = 2 ^ 3 - 1 from rfl, Nat.and_two_pow_sub_one_eq_mod]
  exact Nat.mod_eq_of_lt h
theorem p824 {n : Nat} (hn : n ≤ 8) : 8 ^ n ≤ 2 ^ 24 := by
  have := Nat.pow_le_pow_right (n := 8) (by decide) hn
  exact Nat.le_trans this (by decide)
theorem stN_lt (n m : Nat) : stN n m < 8 ^ n := pq_lt (fun p _ => by show (if _ then 7 else 0) < 8; split <;> omega)
theorem dg_stN {n m p : Nat} (hp : p < n) : dg (stN n m) p = if swf n m p = true then 7 else 0 := dg_pq (f := fun p => if swf n m p = true then 7 else 0) (fun p _ => by show (if _ then 7 else 0) < 8; split <;> omega) hp
/-- Rows.stepped -/
theorem stpd_eq {n m x : Nat} (hn : n ≤ 8) (hx : x < 8 ^ n) : stpd (nI x) (nI (stN n m)) = nI (chg n m x) := by
  have h24 := p824 hn
  have hs := stN_lt n m
  have hd : (x ^^^ x / 8) &&& stN n m < 8 ^ n := Nat.lt_of_le_of_lt Nat.and_le_right hs
  have e1 : stpd (nI x) (nI (stN n m)) = nI (x ^^^ ((x ^^^ x / 8) &&& stN n m) ^^^ ((x ^^^ x / 8) &&& stN n m) * 8) := by
    unfold stpd
    rw [show (3 : Int32) = nI 3 from rfl, nx_ushr (by omega) (by omega), show (2 : Nat) ^ 3 = 8 from rfl, nx_xor, nx_and, nx_xor, nx_shl (by omega) (by omega), nx_xor, show (2 : Nat) ^ 3 = 8 from rfl]
  rw [e1]
  congr 1
  generalize hdd : (x ^^^ x / 8) &&& stN n m = dd at hd
  have hdig : ∀ p, p < n → dg dd p = if swf n m p = true then dg x p ^^^ dg x (p + 1) else 0 := by
    intro p hp
    rw [← hdd, dg_and, dg_xor, dg_div8, dg_stN hp]
    split
    · exact and70 _ (Nat.xor_lt_two_pow (n := 3) (dg_lt _ _) (dg_lt _ _))
    · exact Nat.and_zero _
  have hdn : ∀ p, n ≤ p + 1 → p < n → dg dd p = 0 := by
    intro p h1 h2
    rw [hdig p h2, if_neg]
    simp only [swf, Bool.and_eq_true, decide_eq_true_eq]
    intro h3
    omega
  have hb : ∀ p, n ≤ p → dg (x ^^^ dd ^^^ dd * 8) p = 0 := by
    intro p hp
    rw [dg_xor, dg_xor, dg_big hx hp, dg_big hd hp]
    cases p with
    | zero => rw [dg_mul8_0]; rfl
    | succ p =>
      rw [dg_mul8]
      by_cases h : n ≤ p
      · rw [dg_big hd h]; rfl
      · rw [hdn p hp (by omega)]; rfl
  have hlt : x ^^^ dd ^^^ dd * 8 < 8 ^ n := by
    refine lt8_of hb (9 - n) ?_
    rw [show n + (9 - n) = 9 by omega]
    have h27 : (8 : Nat) ^ 9 = 2 ^ 27 := by decide
    rw [h27]
    exact Nat.xor_lt_two_pow (Nat.xor_lt_two_pow (by omega) (by omega)) (by omega)
  refine dg_ext hlt (chg_lt _ _ _) (fun p hp => ?_)
  rw [dg_chg hp, dg_xor, dg_xor, hdig p hp]
  unfold sg
  by_cases h1 : swf n m p = true
  · rw [if_pos h1, if_pos h1]
    have h0 : dg (dd * 8) p = 0 := by
      cases p with
      | zero => exact dg_mul8_0 _
      | succ p =>
        rw [dg_mul8, hdig p (by omega), if_neg]
        intro h2
        rw [swf_apart h2] at h1; cases h1
    rw [h0, Nat.xor_zero, ← Nat.xor_assoc, Nat.xor_self, Nat.zero_xor]
  · rw [if_neg h1, if_neg h1, Nat.xor_zero]
    by_cases h2 : 1 ≤ p ∧ swf n m (p - 1) = true
    · rw [if_pos h2]
      obtain ⟨q, rfl⟩ : ∃ q, p = q + 1 := ⟨p - 1, by omega⟩
      have h3 : swf n m q = true := h2.2
      rw [dg_mul8, hdig q (by omega), if_pos h3, Nat.xor_comm (dg x q), ← Nat.xor_assoc, Nat.xor_self, Nat.zero_xor]
      rfl
    · rw [if_neg h2]
      have h0 : dg (dd * 8) p = 0 := by
        cases p with
        | zero => exact dg_mul8_0 _
        | succ p =>
          rw [dg_mul8, hdig p (by omega), if_neg]
          intro h3
          exact h2 ⟨by omega, h3⟩
      rw [h0, Nat.xor_zero]

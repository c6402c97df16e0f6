/-! where a bell goes: pl i is its place, from 0 on, in row i -/
def orN (pl : Nat → Nat) : Nat → Nat
  | 0 => 0
  | i + 1 => orN pl i ||| 2 ^ (pl (i + 1) + 1)
def ct1 (pl : Nat → Nat) : Nat → Nat
  | 0 => 0
  | i + 1 => ct1 pl i + (if pl (i + 1) = 0 then 1 else 0)
def sty (pl : Nat → Nat) : Nat → Nat
  | 0 => 1
  | i + 1 => if pl (i + 1) = pl i then sty pl i + 1 else 1
def lng (pl : Nat → Nat) : Nat → Nat
  | 0 => 1
  | i + 1 => if lng pl i < sty pl (i + 1) then sty pl (i + 1) else lng pl i
theorem orN_lt {pl : Nat → Nat} {T : Nat} (h : ∀ i, i ≤ T → pl i < 8) : ∀ i, i ≤ T → orN pl i < 2 ^ 9 ∧ orN pl i % 2 = 0
  | 0, _ => ⟨by show 0 < 2 ^ 9; decide, rfl⟩
  | i + 1, hi => by
    obtain ⟨h1, h2⟩ := orN_lt h i (by omega)
    have h3 := h (i + 1) hi
    have h4 : 2 ^ (pl (i + 1) + 1) < 2 ^ 9 := Nat.pow_lt_pow_right (by decide) (by omega)
    refine ⟨Nat.or_lt_two_pow h1 h4, ?_⟩
    show (orN pl i ||| 2 ^ (pl (i + 1) + 1)) % 2 = 0
    have := Nat.or_mod_two_pow (a := orN pl i) (b := 2 ^ (pl (i + 1) + 1)) (n := 1)
    rw [show (2 : Nat) ^ 1 = 2 from rfl] at this
    rw [this, h2, Nat.pow_succ, Nat.mul_mod_left]
    rfl
theorem sty_le (pl : Nat → Nat) : ∀ i, sty pl i ≤ i + 1
  | 0 => Nat.le_refl 1
  | i + 1 => by
    have h1 := sty_le pl i
    show (if pl (i + 1) = pl i then sty pl i + 1 else 1) ≤ i + 1 + 1
    split <;> omega
theorem lng_le (pl : Nat → Nat) : ∀ i, lng pl i ≤ i + 1
  | 0 => Nat.le_refl 1
  | i + 1 => by
    have h1 := lng_le pl i
    have h2 := sty_le pl (i + 1)
    have e : lng pl (i + 1) = if lng pl i < sty pl (i + 1) then sty pl (i + 1) else lng pl i := rfl
    rw [e]
    generalize sty pl (i + 1) = s at h2 ⊢
    split <;> omega
def gws (pl : Nat → Nat) (T w : Nat) : Nat := if w = 1 then pct (orN pl T) 8 else if w = 2 then ct1 pl T else lng pl T
def pX11_goesWhere : Spc := fun As g Q => ∃ L iF aI aL n T R b w pl, g = Mg L iF aI aL ∧ As = [.ref 32, .int (nI b), .int (nI w)] ∧ 4 ≤ n ∧ n ≤ 8 ∧ aI 33 0 = nI n ∧ (∀ j, Pm n (R j)) ∧ RK n T R (aI 40) ∧ T ≤ 1600 ∧ iF 32 15 = nI (T + 1) ∧ 1 ≤ w ∧ w ≤ 3 ∧ (∀ i, i ≤ T → pl i < n ∧ dg (R i) (pl i) + 1 = b) ∧ ∀ f u, Q (some (.int (nI (gws pl T w)))) (Mg L iF (up1 (up1 aI 38 f) 39 u) aL)
theorem oX11_goesWhere : Ok 3 yX11_goesWhere cX11_goesWhere 10 (some .int) pX11_goesWhere := by
  refine ok_all fun As g Q h => ?_
  obtain ⟨L, iF, aI, aL, n, T, R, b, w, pl, rfl, rfl, hn4, hn, hN, hP, hR, hT, hM, hw1, hw3, hpl, hQ⟩ := h
  have hor := orN_lt (pl := pl) (T := T) (fun i hi => by have := (hpl i hi).1; omega)
  refine at_of (fun pc => pc == 22) 100 (fun k pc ls st g' => ∃ i f u z, pc = 22 ∧ ls = [.ref 32, .int (nI b), .int (nI w), .int (nI (orN pl i)), .int (nI (ct1 pl i)), .int (nI (sty pl i)), .int (nI (lng pl i)), .int (nI (pl i + 1)), .int (nI (i + 1)), z] ∧ st = [] ∧ g' = Mg L iF (up1 (up1 aI 38 f) 39 u) aL ∧ k = 2000 - i ∧ i ≤ T) (by decide) rfl sX11_goesWhere (nl (n := 3) rfl rfl rfl) ?_ ?_
  · obtain ⟨h1, h2⟩ := hpl 0 (by omega)
    refine ⟨L, iF, aI, aL, n, T, R, 0, b, pl 0, rfl, rfl, hn4, hn, hN, hP, hR, hT, by omega, h1, h2, fun f u => ?_⟩
    exact ⟨2000, 0, f, u, U_, rfl, rfl, rfl, rfl, rfl, by omega⟩
  · rintro k pc ls st g' ⟨i, f, u, z, rfl, rfl, rfl, rfl, rfl, hi⟩
    refine br_c (fun h => ?_) (fun h => ?_)
    · have h : iF 32 15 ≤ nI (i + 1) := h
      rw [hM] at h
      have h : T + 1 ≤ i + 1 := (nI_leI (by omega) (by omega)).mp h
      have e : i = T := by omega
      subst e
      refine And.intro (fun h1 => ?_) (fun h1 => ?_)
      · have h1 : w ≠ 1 := fun e => h1 (by rw [e]; rfl)
        refine And.intro (fun h2 => ?_) (fun h2 => ?_)
        · have h2 : w ≠ 2 := fun e => h2 (by rw [e]; rfl)
          have := hQ f u
          unfold gws at this
          rw [if_neg h1, if_neg h2] at this
          exact this
        · have h2 : w = 2 := (nI_eq (b := 2) (by omega) (by omega)).mp h2
          have := hQ f u
          unfold gws at this
          rw [if_neg h1, if_pos h2] at this
          exact this
      · have h1 : w = 1 := (nI_eq (b := 1) (by omega) (by omega)).mp h1
        have := hQ f u
        unfold gws at this
        rw [if_pos h1] at this
        exact ⟨orN pl i, (hor i (by omega)).1, rfl, this⟩
    · have h : ¬ iF 32 15 ≤ nI (i + 1) := h
      rw [hM] at h
      have h : ¬ T + 1 ≤ i + 1 := fun q => h ((nI_leI (by omega) (by omega)).mpr q)
      obtain ⟨h1, h2⟩ := hpl (i + 1) (by omega)
      obtain ⟨h3, -⟩ := hpl i (by omega)
      have hs := sty_le pl i
      have hl := lng_le pl i
      refine ⟨L, iF, _, aL, n, T, R, i + 1, b, pl (i + 1), rfl, rfl, hn4, hn, hN, hP, hR, hT, by omega, h1, h2, fun f2 u2 => ?_⟩
      have key : ∀ (c s m : Int32), c = nI (ct1 pl (i + 1)) → s = nI (sty pl (i + 1)) → m = nI (lng pl (i + 1)) → ∃ n', n' < 2000 - i ∧ ∃ j f' u' z, 22 = 22 ∧ [Value.ref 32, .int (nI b), .int (nI w), .int (nI (orN pl i) ||| 1 <<< (nI (pl (i + 1) + 1) &&& 31)), .int c, .int s, .int m, .int (nI (pl (i + 1) + 1)), .int (nI (i + 1) + 1), .int (nI (pl (i + 1) + 1))] = [.ref 32, .int (nI b), .int (nI w), .int (nI (orN pl j)), .int (nI (ct1 pl j)), .int (nI (sty pl j)), .int (nI (lng pl j)), .int (nI (pl j + 1)), .int (nI (j + 1)), z] ∧ ([] : List Value) = [] ∧ Mg L iF (up1 (up1 (up1 (up1 aI 38 f) 39 u) 38 f2) 39 u2) aL = Mg L iF (up1 (up1 aI 38 f') 39 u') aL ∧ n' = 2000 - j ∧ j ≤ T := by
        intro c s m ec es em
        refine ⟨2000 - (i + 1), by omega, i + 1, f2, u2, .int (nI (pl (i + 1) + 1)), rfl, ?_, rfl, ?_, rfl, by omega⟩
        · rw [ec, es, em, show (1 : Int32) = nI 1 from rfl, nx_shl (by omega) (by
            have : 2 ^ (pl (i + 1) + 1) < 2 ^ 9 := Nat.pow_lt_pow_right (by decide) (by omega)
            omega), nx_or, nI_add, Nat.one_mul]
          rfl
        · rw [up_3839]
      have hst : sty pl (i + 1) = if pl (i + 1) = pl i then sty pl i + 1 else 1 := rfl
      have hln : lng pl (i + 1) = if lng pl i < sty pl (i + 1) then sty pl (i + 1) else lng pl i := rfl
      have hs1 := sty_le pl (i + 1)
      have fin : ∀ (c s : Int32), c = nI (ct1 pl (i + 1)) → s = nI (sty pl (i + 1)) → (s ≤ nI (lng pl i) → ∃ n', n' < 2000 - i ∧ ∃ j f' u' z, 22 = 22 ∧ [Value.ref 32, .int (nI b), .int (nI w), .int (nI (orN pl i) ||| 1 <<< (nI (pl (i + 1) + 1) &&& 31)), .int c, .int s, .int (nI (lng pl i)), .int (nI (pl (i + 1) + 1)), .int (nI (i + 1) + 1), .int (nI (pl (i + 1) + 1))] = [.ref 32, .int (nI b), .int (nI w), .int (nI (orN pl j)), .int (nI (ct1 pl j)), .int (nI (sty pl j)), .int (nI (lng pl j)), .int (nI (pl j + 1)), .int (nI (j + 1)), z] ∧ ([] : List Value) = [] ∧ Mg L iF (up1 (up1 (up1 (up1 aI 38 f) 39 u) 38 f2) 39 u2) aL = Mg L iF (up1 (up1 aI 38 f') 39 u') aL ∧ n' = 2000 - j ∧ j ≤ T) ∧ (¬ s ≤ nI (lng pl i) → ∃ n', n' < 2000 - i ∧ ∃ j f' u' z, 22 = 22 ∧ [Value.ref 32, .int (nI b), .int (nI w), .int (nI (orN pl i) ||| 1 <<< (nI (pl (i + 1) + 1) &&& 31)), .int c, .int s, .int s, .int (nI (pl (i + 1) + 1)), .int (nI (i + 1) + 1), .int (nI (pl (i + 1) + 1))] = [.ref 32, .int (nI b), .int (nI w), .int (nI (orN pl j)), .int (nI (ct1 pl j)), .int (nI (sty pl j)), .int (nI (lng pl j)), .int (nI (pl j + 1)), .int (nI (j + 1)), z] ∧ ([] : List Value) = [] ∧ Mg L iF (up1 (up1 (up1 (up1 aI 38 f) 39 u) 38 f2) 39 u2) aL = Mg L iF (up1 (up1 aI 38 f') 39 u') aL ∧ n' = 2000 - j ∧ j ≤ T) := by
        intro c s ec es
        refine ⟨fun q => key c s _ ec es ?_, fun q => key c s _ ec es ?_⟩
        · rw [es] at q
          have q := (nI_leI (by omega) (by omega)).mp q
          rw [hln, if_neg (by omega)]
        · rw [es] at q ⊢
          have q : ¬ sty pl (i + 1) ≤ lng pl i := fun z => q ((nI_leI (by omega) (by omega)).mpr z)
          rw [hln, if_pos (by omega)]
      refine And.intro (fun q => ?_) (fun q => ?_)
      · have q : pl (i + 1) ≠ 0 := fun e => q (by rw [e]; rfl)
        have ec : nI (ct1 pl i) + 0 = nI (ct1 pl (i + 1)) := by
          show nI (ct1 pl i) + nI 0 = nI (ct1 pl i + (if pl (i + 1) = 0 then 1 else 0))
          rw [nI_add, if_neg q]
        refine And.intro (fun q2 => ?_) (fun q2 => ?_)
        · have q2 : pl (i + 1) ≠ pl i := fun e => q2 (by rw [e])
          exact fin _ _ ec (by rw [hst, if_neg q2]; rfl)
        · have q2 : pl (i + 1) + 1 = pl i + 1 := (nI_eq (by omega) (by omega)).mp q2
          exact fin _ _ ec (by rw [hst, if_pos (by omega), nI_1])
      · have q : pl (i + 1) + 1 = 1 := (nI_eq (b := 1) (by omega) (by omega)).mp q
        have ec : nI (ct1 pl i) + 1 = nI (ct1 pl (i + 1)) := by
          show nI (ct1 pl i) + nI 1 = nI (ct1 pl i + (if pl (i + 1) = 0 then 1 else 0))
          rw [nI_add, if_pos (by omega)]
        refine And.intro (fun q2 => ?_) (fun q2 => ?_)
        · have q2 : pl (i + 1) ≠ pl i := fun e => q2 (by rw [e])
          exact fin _ _ ec (by rw [hst, if_neg q2]; rfl)
        · have q2 : pl (i + 1) + 1 = pl i + 1 := (nI_eq (by omega) (by omega)).mp q2
          exact fin _ _ ec (by rw [hst, if_pos (by omega), nI_1])

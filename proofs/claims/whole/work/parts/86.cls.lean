/-! the class's store: settings, leads, rows of the touch -/
theorem pk_ne {x y : Int32} {A B : Prop} (a b : Nat) (f : a ≠ b → A) (g : a = b → B) (hx : x = nI a := by rfl) (hy : y = nI b := by rfl) (ha : a < 2 ^ 31 := by omega) (hb : b < 2 ^ 31 := by omega) : (¬ x = y → A) ∧ (x = y → B) := by
  subst hx hy
  rw [nI_eq ha hb]
  exact ⟨f, g⟩
def CS (c : Nat) (iF aI : Nat → Nat → Int32) (S : Stg) : Prop := iF c 0 = nI (sN S) ∧ iF c 2 = nI (sC S).length ∧ iF c 3 = nI (sB S) ∧ iF c 4 = nI (sS S) ∧ iF c 6 = nI (sL S).length ∧ (∀ i, i < (sC S).length → aI (c + 1) i = nI ((sC S).getD i 0)) ∧ ∀ i, i < (sL S).length → aI (c + 2) i = nI ((sL S).getD i 0)
/-- the row that all changes of a lead but the last one make of rounds -/
def bdy (S : Stg) : Nat := rgTo S 0 (rds (sN S)) ((sC S).length - 1)
abbrev lch (S : Stg) (l : Nat) : Nat := chOf S l ((sC S).length - 1)
def LD (iF aI : Nat → Nat → Int32) (S : Stg) : Prop := iF 14 0 = nI (sN S) ∧ iF 14 1 = nI (rds (sN S)) ∧ iF 14 3 = nI (sC S).length ∧ (∀ i, i < (sC S).length → aI 15 i = nI (stN (sN S) ((sC S).getD i 0))) ∧ iF 14 4 = nI (bdy S) ∧ ((sC S).length ≠ 0 → iF 14 5 = nI (stN (sN S) ((sC S).getD ((sC S).length - 1) 0))) ∧ iF 14 6 = nI (stN (sN S) (sB S)) ∧ iF 14 7 = nI (stN (sN S) (sS S))
def RG (iF aI : Nat → Nat → Int32) (S : Stg) : Prop := iF 16 1 = nI (tln S) ∧ iF 16 2 = nI (sN S) ∧ ∀ i, i ≤ tln S → aI 17 i = nI (trw S i)
theorem rgTo_L {n b s q x : Nat} {c l l' : List Nat} : ∀ k, rgTo (n, c, b, s, l) q x k = rgTo (n, c, b, s, l') q x k
  | 0 => rfl
  | k + 1 => by
    show chg n (chOf (n, c, b, s, l) q k) (rgTo (n, c, b, s, l) q x k) = chg n (chOf (n, c, b, s, l') q k) (rgTo (n, c, b, s, l') q x k)
    rw [rgTo_L k]
    rfl
theorem LD.of {iF aI iF' aI' : Nat → Nat → Int32} {S S' : Stg} (h : LD iF aI S) (h1 : iF' 14 = iF 14) (h2 : aI' 15 = aI 15) (hS : sN S' = sN S ∧ sC S' = sC S ∧ sB S' = sB S ∧ sS S' = sS S) : LD iF' aI' S' := by
  obtain ⟨n, c, b, s, l⟩ := S
  obtain ⟨n', c', b', s', l'⟩ := S'
  obtain ⟨e1, e2, e3, e4⟩ := hS
  have e1 : n' = n := e1
  have e2 : c' = c := e2
  have e3 : b' = b := e3
  have e4 : s' = s := e4
  subst e1 e2 e3 e4
  unfold LD at h ⊢
  rw [h1, h2]
  have e : bdy (n', c', b', s', l') = bdy (n', c', b', s', l) := rgTo_L _
  rw [e]
  exact h
theorem RG.of {iF aI iF' aI' : Nat → Nat → Int32} {S : Stg} (h : RG iF aI S) (h1 : iF' 16 = iF 16) (h2 : aI' 17 = aI 17) : RG iF' aI' S := by
  unfold RG at h ⊢
  rw [h1, h2]
  exact h
/-! leads as one step: the body and the last change -/
theorem dg_thr {n x o p : Nat} (hp : p < n) : dg (thr n x o) p = dg x (dg o p) := dg_pq (f := fun p => dg x (dg o p)) (fun _ _ => dg_lt _ _) hp
theorem thr_lt (n x o : Nat) : thr n x o < 8 ^ n := pq_lt (fun _ _ => dg_lt _ _)
theorem thr_chg {n m x y : Nat} : thr n x (chg n m y) = chg n m (thr n x y) := by
  refine dg_ext (thr_lt _ _ _) (chg_lt _ _ _) (fun p hp => ?_)
  rw [dg_thr hp, dg_chg hp, dg_chg hp, dg_thr (sg_lt hp)]
theorem thr_rds {n x : Nat} (hn : n ≤ 8) (hx : x < 8 ^ n) : thr n x (rds n) = x := by
  refine dg_ext (thr_lt _ _ _) hx (fun p hp => ?_)
  rw [dg_thr hp, dg_rds hn hp]
theorem chOf_in {S : Stg} {l k : Nat} (hk : k + 1 < (sC S).length) : chOf S l k = (sC S).getD k 0 := if_neg (by omega)
theorem rgTo_thr {S : Stg} (h : VS S) {l x : Nat} (hx : Pm (sN S) x) : ∀ k, k + 1 ≤ (sC S).length → rgTo S l x k = thr (sN S) x (rgTo S 0 (rds (sN S)) k)
  | 0, _ => (thr_rds h.1.2 hx.1).symm
  | k + 1, hk => by
    show chg (sN S) (chOf S l k) (rgTo S l x k) = thr (sN S) x (chg (sN S) (chOf S 0 k) (rgTo S 0 (rds (sN S)) k))
    rw [rgTo_thr h hx k (by omega), thr_chg, chOf_in (by omega), chOf_in (by omega)]
theorem led_last {S : Stg} {l x : Nat} (h0 : (sC S).length ≠ 0) : led S l x = chg (sN S) (lch S l) (rgTo S l x ((sC S).length - 1)) := by
  unfold led lch
  obtain ⟨k, hk⟩ : ∃ k, (sC S).length = k + 1 := ⟨(sC S).length - 1, by omega⟩
  rw [hk]
  rfl
theorem led_thr {S : Stg} (h : VS S) {l x : Nat} (h0 : (sC S).length ≠ 0) (hx : Pm (sN S) x) : led S l x = chg (sN S) (lch S l) (thr (sN S) x (bdy S)) := by
  rw [led_last h0, rgTo_thr h hx _ (by omega)]
  rfl
theorem bdy_Pm {S : Stg} (h : VS S) : Pm (sN S) (bdy S) := rgTo_Pm (Pm_rds h.1.2) _
theorem lch_VM {S : Stg} (h : VS S) (h0 : (sC S).length ≠ 0) (l : Nat) : VM (sN S) (lch S l) := chOf_VM h (by omega)
/-- the row with which a lead begins that ends with a row -/
theorem bk_uniq {n o a y e : Nat} (ho : Pm n o) (hy : y < 8 ^ n) (he : e < 8 ^ n) (h1 : ∀ p, p < n → dg y (dg o p) = dg a p) (h2 : ∀ p, p < n → dg e (dg o p) = dg a p) : y = e := by
  refine dg_ext hy he (fun q hq => ?_)
  obtain ⟨p, hp, rfl⟩ := ho.onto hq
  rw [h1 p hp, h2 p hp]
def qX1_endOf : Spc := fun As g Q => ∃ z iF aI aL S l, g = Cg z iF aI aL ∧ As = [.ref 14, .int (nI l)] ∧ LD iF aI S ∧ (sC S).length ≠ 0 ∧ l ≤ 2 ∧ Q (some (.int (nI (stN (sN S) (lch S l))))) g
theorem rX1_endOf : Ok 0 yX1_endOf cX1_endOf 2 (some .int) qX1_endOf := by
  refine ok_weak (fun As g Q h => ?_) oX1_endOf
  obtain ⟨z, iF, aI, aL, S, l, rfl, rfl, ⟨d1, d2, d3, d4, d5, d6, d7, d8⟩, h0, hl, hQ⟩ := h
  refine pk_ne l 0 (fun h => ?_) (fun h => ?_)
  · refine pk_ne l 1 (fun h2 => ?_) (fun h2 => ?_)
    · have e : lch S l = sS S := by
        unfold lch chOf
        rw [if_pos ⟨by omega, by omega⟩, if_neg h2]
      rw [e, ← d8] at hQ
      exact hQ
    · have e : lch S l = sB S := by
        unfold lch chOf
        rw [if_pos ⟨by omega, by omega⟩, if_pos h2]
      rw [e, ← d7] at hQ
      exact hQ
  · have e : lch S l = (sC S).getD ((sC S).length - 1) 0 := by rw [h]; exact chOf_0 S _
    rw [e, ← d6 h0] at hQ
    exact hQ
def qX5_add : Spc := fun As g Q => ∃ z iF aI aL T x n m, g = Cg z iF aI aL ∧ As = [.ref 16, .int (nI (stN n m))] ∧ n ≤ 8 ∧ x < 8 ^ n ∧ T < 1600 ∧ iF 16 1 = nI T ∧ aI 17 T = nI x ∧ Q none (Cg z (up1 iF 16 (up1 (iF 16) 1 (nI (T + 1)))) (up1 aI 17 (up1 (aI 17) (T + 1) (nI (chg n m x)))) aL)
theorem rX5_add : Ok 1 yX5_add cX5_add 2 none qX5_add := by
  refine ok_weak (fun As g Q h => ?_) oX5_add
  obtain ⟨z, iF, aI, aL, T, x, n, m, rfl, rfl, hn, hx, hT, h1, h2, hQ⟩ := h
  have e1 : iF 16 1 + 1 = nI (T + 1) := by rw [h1, nI_1]
  refine pk_le 1601 (T + 1) (fun h => absurd h (by omega)) (fun h => ?_) rfl e1
  refine And.intro (pk_in T 1601 (by omega) h1) (And.intro (pk_in (T + 1) 1601 (by omega) e1) ?_)
  show Q none (Cg z (up1 iF 16 (up1 (iF 16) 1 (iF 16 1 + 1))) (up1 aI 17 (up1 (aI 17) (iF 16 1 + 1).toNatClampNeg (stpd (aI 17 (iF 16 1).toNatClampNeg) (nI (stN n m))))) aL)
  rw [e1, h1, cl1 (by omega), cl1 (by omega), h2, stpd_eq hn hx]
  exact hQ
def qX5_has : Spc := fun As g Q => ∃ z iF aI aL T v, g = Cg z iF aI aL ∧ As = [.ref 16, .int v] ∧ iF 16 1 = nI T ∧ (v < 0 ∨ nI T < v → Q (some (.int 0)) g) ∧ (¬ (v < 0 ∨ nI T < v) → Q (some (.int 1)) g)
theorem wX5_has {As : List Value} {g : Sto} {Q : Rsl} (h : qX5_has As g Q) : pX5_has As g Q := by
  obtain ⟨z, iF, aI, aL, T, v, rfl, rfl, h1, hQ1, hQ2⟩ := h
  refine br_c (fun h => ⟨Or.inl rfl, hQ1 (Or.inl h)⟩) (fun h => br_c (fun h3 => ⟨Or.inl rfl, hQ1 (Or.inr ?_)⟩) (fun h3 => ⟨Or.inr rfl, hQ2 (fun z => ?_)⟩))
  · rw [← h1]; exact h3
  · rcases z with z | z
    · exact h z
    · rw [← h1] at z; exact h3 z
theorem rX5_has : Ok 0 yX5_has cX5_has 2 (some .boolean) qX5_has := ok_weak (fun _ _ _ => wX5_has) oX5_has
def qX5_rowAt : Spc := fun As g Q => ∃ z iF aI aL T i, g = Cg z iF aI aL ∧ As = [.ref 16, .int (nI i)] ∧ iF 16 1 = nI T ∧ T ≤ 1600 ∧ i ≤ T ∧ Q (some (.int (aI 17 i))) g
theorem rX5_rowAt : Ok 1 yX5_rowAt cX5_rowAt 2 (some .int) qX5_rowAt := by
  refine ok_weak (fun As g Q h => ?_) oX5_rowAt
  obtain ⟨z, iF, aI, aL, T, i, rfl, rfl, h1, hT, hi, hQ⟩ := h
  refine wX5_has ⟨z, iF, aI, aL, T, nI i, rfl, rfl, h1, fun h => ?_, fun h => ?_⟩
  · rcases h with h | h
    · exact absurd h (nI_ge0 (by omega))
    · exact absurd ((nI_ltI (by omega) (by omega)).mp h) (by omega)
  · refine br_f n10 (And.intro (vp_in_nI (by omega) (by omega)) ?_)
    show Q (some (.int (aI 17 (nI i).toNatClampNeg))) _
    rw [cl1 (by omega)]
    exact hQ
def qX7_liked : Spc := fun As g Q => ∃ n x, As = [.int (nI x), .int (nI n)] ∧ 4 ≤ n ∧ n ≤ 8 ∧ x < 2 ^ 24 ∧ Q (some (.int (b01 (lik n x)))) g
theorem rX7_liked : Ok 1 yX7_liked cX7_liked 3 (some .boolean) qX7_liked := by
  refine ok_weak (fun As g Q h => ?_) oX7_liked
  obtain ⟨n, x, rfl, hn4, hn, hx, hQ⟩ := h
  have ra : (ushr (nI x) (3 * (nI n - 2 - 1)) &&& 7) + 1 = nI (dg x (n - 3) + 1) := by
    have := bell_at (x := x) (p := n - 3) hx (by omega)
    rw [show (2 : Int32) = nI 2 from rfl, nx_sub (by omega), show n - 2 = n - 3 + 1 by omega]; exact this
  have rb : (ushr (nI x) (3 * (nI n - 1 - 1)) &&& 7) + 1 = nI (dg x (n - 2) + 1) := by
    have := bell_at (x := x) (p := n - 2) hx (by omega)
    have e : nI n - 1 = nI (n - 2 + 1) := by rw [show (1 : Int32) = nI 1 from rfl, nx_sub (by omega), show n - 1 = n - 2 + 1 by omega]
    rw [e]; exact this
  have rc : (ushr (nI x) (3 * (nI n - 1)) &&& 7) + 1 = nI (dg x (n - 1) + 1) := by
    have := bell_at (x := x) (p := n - 1) hx (by omega)
    rw [show n - 1 + 1 = n by omega] at this; exact this
  have d1 := dg_lt x (n - 3)
  have d2 := dg_lt x (n - 2)
  have d3 := dg_lt x (n - 1)
  have no : lik n x = false → ((0 : Int32) = 0 ∨ (0 : Int32) = 1) ∧ Q (some (.int 0)) g := by
    intro e; rw [e] at hQ; exact ⟨Or.inl rfl, hQ⟩
  have yes : lik n x = true → ((1 : Int32) = 0 ∨ (1 : Int32) = 1) ∧ Q (some (.int 1)) g := by
    intro e; rw [e] at hQ; exact ⟨Or.inr rfl, hQ⟩
  have last : dg x (n - 1) = dg x (n - 2) + 1 ∨ dg x (n - 2) = dg x (n - 1) + 1 → (¬ ((ushr (nI x) (3 * (nI n - 1 - 1)) &&& 7) + 1) - ((ushr (nI x) (3 * (nI n - 2 - 1)) &&& 7) + 1) = ((ushr (nI x) (3 * (nI n - 1)) &&& 7) + 1) - ((ushr (nI x) (3 * (nI n - 1 - 1)) &&& 7) + 1) → ((0 : Int32) = 0 ∨ (0 : Int32) = 1) ∧ Q (some (.int 0)) g) ∧ (((ushr (nI x) (3 * (nI n - 1 - 1)) &&& 7) + 1) - ((ushr (nI x) (3 * (nI n - 2 - 1)) &&& 7) + 1) = ((ushr (nI x) (3 * (nI n - 1)) &&& 7) + 1) - ((ushr (nI x) (3 * (nI n - 1 - 1)) &&& 7) + 1) → ((1 : Int32) = 0 ∨ (1 : Int32) = 1) ∧ Q (some (.int 1)) g) := by
    intro hk
    rw [ra, rb, rc, subI_eq (by omega) (by omega) (by omega) (by omega)]
    refine ⟨fun h => no ?_, fun h => yes ?_⟩
    · unfold lik; simp; omega
    · unfold lik; simp; omega
  refine br_c (fun h => ?_) (fun h => ?_)
  · have h : ((ushr (nI x) (3 * (nI n - 1)) &&& 7) + 1) - ((ushr (nI x) (3 * (nI n - 1 - 1)) &&& 7) + 1) = 1 := h
    rw [rb, rc, subI_1 (by omega) (by omega)] at h
    exact last (by omega)
  · have h : ¬ ((ushr (nI x) (3 * (nI n - 1)) &&& 7) + 1) - ((ushr (nI x) (3 * (nI n - 1 - 1)) &&& 7) + 1) = 1 := h
    rw [rb, rc, subI_1 (by omega) (by omega)] at h
    refine And.intro (fun h2 => ?_) (fun h2 => ?_)
    · have h2 : ¬ ((ushr (nI x) (3 * (nI n - 1)) &&& 7) + 1) - ((ushr (nI x) (3 * (nI n - 1 - 1)) &&& 7) + 1) = -1 := h2
      rw [rb, rc, subI_m1 (by omega) (by omega)] at h2
      refine no ?_
      unfold lik; simp; omega
    · have h2 : ((ushr (nI x) (3 * (nI n - 1)) &&& 7) + 1) - ((ushr (nI x) (3 * (nI n - 1 - 1)) &&& 7) + 1) = -1 := h2
      rw [rb, rc, subI_m1 (by omega) (by omega)] at h2
      exact last (by omega)

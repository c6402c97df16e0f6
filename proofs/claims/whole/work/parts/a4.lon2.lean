/-! the tree is grown; a node's touch is true -/
def pX2_growTo : Spc := fun As g Q => ∃ z iF aI aL S B, g = Cg z iF aI aL ∧ As = [.ref 28, .int (nI B), .ref 14] ∧ VS S ∧ LD iF aI S ∧ (sC S).length ≠ 0 ∧ 1 ≤ B ∧ B ≤ 364 ∧ ∀ a, (∀ j, j < B → a j = nI (nd S j)) → Q none (Cg z iF (up1 aI 29 a) aL)
theorem oX2_growTo : Ok 2 yX2_growTo cX2_growTo 4 none pX2_growTo := by
  refine ok_all fun As g Q h => ?_
  obtain ⟨z, iF, aI, aL, S, B, rfl, rfl, hS, hD, h0, hB1, hB, hQ⟩ := h
  have hn := hS.1.2
  refine at_of (fun pc => pc == 12) 80 (fun k pc ls st g' => ∃ m a, pc = 12 ∧ ls = [.ref 28, .int (nI B), .ref 14, .int (nI (m + 1))] ∧ st = [] ∧ g' = Cg z iF (up1 aI 29 a) aL ∧ k = 400 - m ∧ m + 1 ≤ B ∧ ∀ j, j ≤ m → a j = nI (nd S j)) (by decide) rfl sX2_growTo (nl (n := 3) rfl rfl rfl) ?_ ?_
  · refine And.intro (vp_in_nI (n := 0) (N := 364) (by omega) (by omega)) ⟨400, 0, up1 (aI 29) 0 (iF 14 1), rfl, rfl, rfl, rfl, rfl, hB1, fun j hj => ?_⟩
    rw [show j = 0 by omega, up1_s, hD.2.1]
    rfl
  · rintro k pc ls st g' ⟨m, a, rfl, rfl, rfl, rfl, rfl, hm, ha⟩
    refine pk_le B (m + 1) (fun h => ?_) (fun h => ?_)
    · exact hQ a (fun j hj => ha j (by omega))
    · refine ⟨m, rfl, (by omega), ?_⟩
      refine And.intro (vp_in_nI (by omega) (by omega)) ⟨m, rfl, (by omega), ?_⟩
      refine ⟨z, iF, up1 aI 29 a, aL, S, m % 3, nd S (m / 3), rfl, (by show [Value.ref 14, .int (a (nI (m / 3)).toNatClampNeg), .int (nI (m % 3))] = _; rw [cl1 (by omega), ha _ (by omega)]), hS, hD.of rfl rfl ⟨rfl, rfl, rfl, rfl⟩, h0, (by omega), nd_Pm hn _, ?_⟩
      refine And.intro (vp_in_nI (by omega) (by omega)) ⟨400 - (m + 1), (by omega), m + 1, up1 a (nI (m + 1)).toNatClampNeg (nI (led S (m % 3) (nd S (m / 3)))), rfl, (by show [Value.ref 28, .int (nI B), .ref 14, .int (nI (m + 1) + 1)] = _; rw [nI_1]), rfl, ?_, rfl, h, fun j hj => ?_⟩
      · show Cg z iF (up1 (up1 aI 29 a) 29 (up1 a (nI (m + 1)).toNatClampNeg (nI (led S (m % 3) (nd S (m / 3)))))) aL = _
        rw [up1_up1]
      · rw [cl1 (by omega)]
        by_cases e : j = m + 1
        · rw [e, up1_s, nd_s]
        · rw [up1_n _ _ e]; exact ha j (by omega)
theorem mul_ne {a b k n : Nat} (h1 : 1 ≤ k) (h2 : k < n) : a * n + k ≠ b * n := by
  intro e
  have : (a * n + k) % n = (b * n) % n := congrArg (fun q => q % n) e
  rw [Nat.add_comm, Nat.add_mul_mod_self_right, Nat.mul_mod_left, Nat.mod_eq_of_lt h2] at this
  omega
theorem mul_eq {a b k k' n : Nat} (h1 : k < n) (h2 : k' < n) (e : a * n + k = b * n + k') : a = b ∧ k = k' := by
  have e1 : ∀ a k, k < n → (a * n + k) / n = a := fun a k h => by rw [Nat.add_comm, Nat.add_mul_div_right _ _ (by omega), Nat.div_eq_of_lt h, Nat.zero_add]
  have : (a * n + k) / n = (b * n + k') / n := congrArg (fun q => q / n) e
  rw [e1 a k h1, e1 b k' h2] at this
  subst this
  exact ⟨rfl, by omega⟩
theorem mul_in {l d k n : Nat} (hl : l < d) (hk : k ≤ n) : l * n + k ≤ d * n := by
  have := Nat.mul_le_mul_right n (show l + 1 ≤ d from hl)
  rw [Nat.succ_mul] at this
  omega
/-- no row comes twice -/
def DS (T : Stg) : Prop := ∀ i j, 1 ≤ i → i < j → j ≤ tln T → trw T i ≠ trw T j
theorem DS.no {T : Stg} {i j : Nat} (h1 : 1 ≤ i) (h2 : 1 ≤ j) (h3 : i ≤ tln T) (h4 : j ≤ tln T) (hne : i ≠ j) (e : trw T i = trw T j) : ¬ DS T := by
  intro h
  rcases Nat.lt_or_ge i j with q | q
  · exact h i j h1 q h4 e
  · exact h j i h2 (by omega) h3 e.symm
def TI (T : Stg) (P : Nat → Prop) (M : Asc) : Prop := (∀ x, x ∈ ksA M ↔ ∃ j, P j ∧ x = trw T j) ∧ ∀ j j', P j → P j' → trw T j = trw T j' → j = j'
theorem rgTo_in {S : Stg} {l x : Nat} : ∀ k, k + 1 ≤ (sC S).length → rgTo S l x k = rgTo S 0 x k
  | 0, _ => rfl
  | k + 1, hk => by
    show chg (sN S) (chOf S l k) (rgTo S l x k) = chg (sN S) (chOf S 0 k) (rgTo S 0 x k)
    rw [rgTo_in k (by omega), chOf_in (by omega), chOf_in (by omega)]
theorem trw_ins {S : Stg} {lt : List Nat} {l k : Nat} (hk : k < (sC S).length) : trw (wtc S lt) (l * (sC S).length + k) = rgTo S 0 (trw (wtc S lt) (l * (sC S).length)) k := by
  have h := trw_in (T := wtc S lt) l k (by show k ≤ (sC S).length; omega)
  have h : trw (wtc S lt) (l * (sC S).length + k) = rgTo (wtc S lt) (lt.getD l 0) (trw (wtc S lt) (l * (sC S).length)) k := h
  rw [h, rgTo_w, rgTo_in k (by omega)]
def P1 (d n i : Nat) (j : Nat) : Prop := ∃ q, q < i ∧ j = (d - q) * n
def P2 (d n i : Nat) (j : Nat) : Prop := (∃ q, q < d ∧ j = (d - q) * n) ∨ ∃ q k, q < i ∧ 1 ≤ k ∧ k < n ∧ j = (d - 1 - q) * n + k
theorem ksA_app {M : Asc} {x t y : Nat} : y ∈ ksA (M ++ [(x, t)]) ↔ y ∈ ksA M ∨ y = x := by
  unfold ksA
  rw [List.map_append, List.mem_append]
  simp
def pX2_isTrue : Spc := fun As g Q => ∃ z iF aI aL S d w c fl, g = Cg z iF aI aL ∧ As = [.ref 28, .int (nI (fd d + w)), .ref 14] ∧ VS S ∧ LD iF aI S ∧ (sC S).length ≠ 0 ∧ 1 ≤ d ∧ d ≤ 5 ∧ w < 3 ^ d ∧ Lok z.2 ∧ RT0 30 c fl z iF aL ∧ fl + 1 < 2 ^ 30 ∧ (∀ j, j < fd (d + 1) → aI 29 j = nI (nd S j)) ∧ ∀ z' iF' aI' aL' c', TF 30 z iF aI aL z' iF' aI' aL' → RT0 30 c' (fl + 1) z' iF' aL' → (DS (wtc S (lts w d)) → Q (some (.int 1)) (Cg z' iF' aI' aL')) ∧ (¬ DS (wtc S (lts w d)) → Q (some (.int 0)) (Cg z' iF' aI' aL'))
set_option maxHeartbeats 2000000 in
theorem oX2_isTrue : Ok 3 yX2_isTrue cX2_isTrue 6 (some .boolean) pX2_isTrue := by
  refine ok_all fun As g Q h => ?_
  obtain ⟨z, iF, aI, aL, S, d, w, c, fl, rfl, rfl, hS, hD, h0, hd1, hd, hw, hL, hT0, hfl, hE, hQ⟩ := h
  have hn := hS.1.2
  have hc := hS.2.1.1
  have htl : tln (wtc S (lts w d)) = d * (sC S).length := by
    show (lts w d).length * (sC S).length = _
    rw [lts_len]
  have hS2 : VS (wtc S (lts w d)) := VS_wtc hS hd
  have h24 : ∀ j, trw (wtc S (lts w d)) j < 2 ^ 24 := fun j => (trw_Pm hS2 j).lt24 hn
  have hend : ∀ i, i ≤ d → fd (d - i) + w / 3 ^ i < fd (d + 1) ∧ nd S (fd (d - i) + w / 3 ^ i) = trw (wtc S (lts w d)) ((d - i) * (sC S).length) := by
    intro i hi
    refine ⟨?_, ?_⟩
    · have h1 : w / 3 ^ i < 3 ^ (d - i) := by
        rw [Nat.div_lt_iff_lt_mul (Nat.pow_pos (by decide)), ← Nat.pow_add, show d - i + i = d by omega]
        exact hw
      have h2 := fd_p (d - i)
      have h3 : ∀ a b, a ≤ b → fd a ≤ fd b := by
        intro a b hab
        induction b with
        | zero => rw [show a = 0 by omega]; exact Nat.le_refl _
        | succ b ih =>
          rcases Nat.eq_or_lt_of_le hab with q | q
          · rw [q]; exact Nat.le_refl _
          · have := ih (by omega)
            show fd a ≤ 3 * fd b + 1
            omega
      have := h3 (d - i + 1) (d + 1) (by omega)
      omega
    · have := trw_nd (S := S) hw (d - i) (by omega)
      rw [show d - (d - i) = i by omega] at this
      exact this.symm
  have hlt : ∀ i, i ≤ d → fd (d - i) + w / 3 ^ i < 364 := fun i hi => nd_lt hd hi hw
  have hpos : ∀ i, i < d → 1 ≤ (d - i) * (sC S).length := fun i hi => Nat.mul_pos (by omega) (by omega)
  have hin1 : ∀ i, (d - i) * (sC S).length ≤ d * (sC S).length := fun i => Nat.mul_le_mul_right _ (by omega)
  refine at_of (fun pc => pc == 22 || pc == 67) 80 (fun k pc ls st g' => ∃ z' iF' aI' aL' c' b M, TF 30 z iF aI aL z' iF' aI' aL' ∧ RT 30 c' b (fl + 1) M z' iF' aL' ∧ 200 < 2 ^ b ∧ st = [] ∧ g' = Cg z' iF' aI' aL' ∧ ((∃ i, pc = 22 ∧ ls = [.ref 28, .int (nI (fd d + w)), .ref 14, .int (nI d), .int (nI (fd (d - i) + w / 3 ^ i)), .int (nI i)] ∧ k = 100 - i ∧ i ≤ d ∧ M.length = i ∧ TI (wtc S (lts w d)) (P1 d (sC S).length i) M)
      ∨ (∃ i, pc = 67 ∧ ls = [.ref 28, .int (nI (fd d + w)), .ref 14, .int (nI d), .int (nI (fd (d - i) + w / 3 ^ i)), .int (nI i)] ∧ k = 50 - i ∧ i ≤ d ∧ M.length = d + i * ((sC S).length - 1) ∧ TI (wtc S (lts w d)) (P2 d (sC S).length i) M))) (by decide) rfl sX2_isTrue (nl (n := 3) rfl rfl rfl) ?_ ?_
  · refine ⟨z, iF, aI, aL, 30, c, fl, 200, rfl, Or.inr (Or.inr rfl), rfl, (by show _ ≤ 512; omega), hL, hT0, hfl, fun z' iF' aI' aL' c' b y1 y2 y3 y4 y5 y6 y7 => ?_⟩
    refine ⟨z', iF', aI', aL', d, w, rfl, hd, hw, rfl, ?_⟩
    refine ⟨100, z', iF', aI', aL', c', b, [], ⟨y1, y2, y3, y4, y5⟩, y6, y7, rfl, rfl, Or.inl ⟨0, rfl, ?_, rfl, Nat.zero_le _, rfl, fun x => ⟨fun q => absurd q List.not_mem_nil, fun ⟨j, ⟨q, a, _⟩, _⟩ => absurd a (Nat.not_lt_zero q)⟩, fun j j' ⟨q, a, _⟩ => absurd a (Nat.not_lt_zero q)⟩⟩
    show [Value.ref 28, _, _, _, .int (nI (fd d + w)), .int 0] = _
    rw [Nat.pow_zero, Nat.div_one]
    rfl
  · rintro k pc ls st g' ⟨z', iF', aI', aL', c', b, M, hF, hM, hb, rfl, rfl, (⟨i, rfl, rfl, rfl, hi, hl, hT⟩ | ⟨i, rfl, rfl, rfl, hi, hl, hT⟩)⟩
    · have e29 : aI' 29 = aI 29 := (hF.2.2.2.2 29 (by omega) (by omega)).1
      refine pk_le d i (fun h => ?_) (fun h => ?_)
      · have e : i = d := by omega
        subst e
        refine ⟨50, (by omega), z', iF', aI', aL', c', b, M, hF, hM, hb, rfl, rfl, Or.inr ⟨0, rfl, ?_, rfl, Nat.zero_le _, (by rw [hl, Nat.zero_mul]; rfl), fun x => (hT.1 x).trans ?_, fun j j' a b => ?_⟩⟩
        · show [Value.ref 28, _, _, _, .int (nI (fd i + w)), .int 0] = _
          rw [Nat.pow_zero, Nat.div_one]
          rfl
        · exact ⟨fun ⟨j, a, b⟩ => ⟨j, Or.inl a, b⟩, fun ⟨j, a, b⟩ => ⟨j, a.elim id (fun ⟨q, _, q1, _⟩ => absurd q1 (Nat.not_lt_zero q)), b⟩⟩
        · exact hT.2 j j' (a.elim id (fun ⟨q, _, q1, _⟩ => absurd q1 (Nat.not_lt_zero q))) (b.elim id (fun ⟨q, _, q1, _⟩ => absurd q1 (Nat.not_lt_zero q)))
      · obtain ⟨e1, e2⟩ := hend i hi
        have hlt' := hlt i hi
        obtain ⟨m, m1, m2, m3⟩ := fd_up w h
        refine And.intro (vp_in_nI hlt' (by omega)) ⟨z', iF', aI', aL', 30, c', b, fl + 1, M, trw (wtc S (lts w d)) ((d - i) * (sC S).length), 0, rfl, Or.inr (Or.inr rfl), (by show [Value.ref 30, .int (aI' 29 (nI (fd (d - i) + w / 3 ^ i)).toNatClampNeg), .int 0] = _; rw [cl1 (by omega), e29, hE _ e1, e2]; rfl), h24 _, (by omega), hM, (by omega), fun hx => br_nf rfl (And.intro (Or.inl rfl) ?_), fun hx aL2 a1 a2 => br_nt n10 ?_⟩
        · refine (hQ z' iF' aI' aL' c' hF hM.RT0).2 ?_
          obtain ⟨j, ⟨q, q1, rfl⟩, q2⟩ := (hT.1 _).mp hx
          refine DS.no (hpos i h) (hpos q (by omega)) (by rw [htl]; exact hin1 i) (by rw [htl]; exact hin1 q) (fun e => ?_) q2
          have := Nat.eq_of_mul_eq_mul_right (show 0 < (sC S).length by omega) e
          omega
        · refine ⟨m, (by rw [m1]), (by omega), ?_⟩
          refine ⟨100 - (i + 1), (by omega), z', iF', aI', aL2, c', b, _, hF.al a1, a2, hb, rfl, rfl, Or.inl ⟨i + 1, rfl, ?_, rfl, h, (by rw [List.length_append, hl]; rfl), fun x => ?_, fun j j' a b e => ?_⟩⟩
          · show [Value.ref 28, _, _, _, .int (nI (m / 3)), .int (nI i + 1)] = _
            rw [m2, nI_1]
          · rw [ksA_app, hT.1]
            constructor
            · rintro (⟨j, ⟨q, q1, q2⟩, q3⟩ | q)
              · exact ⟨j, ⟨q, by omega, q2⟩, q3⟩
              · exact ⟨_, ⟨i, by omega, rfl⟩, q⟩
            · rintro ⟨j, ⟨q, q1, q2⟩, q3⟩
              by_cases e : q = i
              · subst e; right; rw [q3, q2]
              · exact Or.inl ⟨j, ⟨q, by omega, q2⟩, q3⟩
          · have hx' : ∀ j, P1 d (sC S).length i j → trw (wtc S (lts w d)) ((d - i) * (sC S).length) ≠ trw (wtc S (lts w d)) j := fun j hj q => hx ((hT.1 _).mpr ⟨j, hj, q⟩)
            obtain ⟨q, q1, q2⟩ := a
            obtain ⟨r, r1, r2⟩ := b
            by_cases eq : q = i
            · by_cases er : r = i
              · rw [q2, r2, eq, er]
              · subst eq
                rw [q2] at e
                exact absurd e (hx' j' ⟨r, by omega, r2⟩)
            · by_cases er : r = i
              · subst er
                rw [r2] at e
                exact absurd e.symm (hx' j ⟨q, by omega, q2⟩)
              · exact hT.2 j j' ⟨q, by omega, q2⟩ ⟨r, by omega, r2⟩ e
    · have e29 : aI' 29 = aI 29 := (hF.2.2.2.2 29 (by omega) (by omega)).1
      refine pk_le d i (fun h => ?_) (fun h => ?_)
      · have e : i = d := by omega
        subst e
        refine And.intro (Or.inr rfl) ((hQ z' iF' aI' aL' c' hF hM.RT0).1 (fun a b ha1 hab hb e => ?_))
        have all : ∀ j, 1 ≤ j → j ≤ tln (wtc S (lts w i)) → P2 i (sC S).length i j := by
          intro j j1 j2
          rw [htl] at j2
          obtain ⟨l, r, hlr, hr, hli⟩ : ∃ l r, j = l * (sC S).length + r + 1 ∧ r < (sC S).length ∧ l < i := by
            refine ⟨(j - 1) / (sC S).length, (j - 1) % (sC S).length, ?_, Nat.mod_lt _ (by omega), ?_⟩
            · have hdiv := Nat.div_add_mod (j - 1) (sC S).length
              rw [Nat.mul_comm] at hdiv
              rw [hdiv]
              omega
            · rw [Nat.div_lt_iff_lt_mul (by omega)]
              omega
          by_cases ek : r + 1 = (sC S).length
          · refine Or.inl ⟨i - 1 - l, by omega, ?_⟩
            rw [show i - (i - 1 - l) = l + 1 by omega, Nat.succ_mul]
            omega
          · refine Or.inr ⟨i - 1 - l, r + 1, by omega, by omega, by omega, ?_⟩
            rw [show i - 1 - (i - 1 - l) = l by omega]
            omega
        have := hT.2 a b (all a ha1 (by omega)) (all b (by omega) hb) e
        omega
      · obtain ⟨e1, e2⟩ := hend (i + 1) h
        have hlt' := hlt (i + 1) h
        have hlt0 := hlt i hi
        obtain ⟨m, m1, m2, m3⟩ := fd_up w h
        have hD' : LD iF' aI' S := hD.of (hF.2.2.2.1 14 (by omega)) (hF.2.2.2.2 15 (by omega) (by omega)).1 ⟨rfl, rfl, rfl, rfl⟩
        rw [show d - (i + 1) = d - 1 - i by omega] at e1 e2 hlt' m2
        refine ⟨m, (by rw [m1]), (by omega), ?_⟩
        have hcap : M.length + (sC S).length ≤ 2 ^ b := by
          have := Nat.mul_le_mul (show i ≤ 4 by omega) (show (sC S).length - 1 ≤ 39 by omega)
          omega
        have hl0 : d - 1 - i < d := by omega
        have hrow : ∀ k, k < (sC S).length → rgTo S 0 (trw (wtc S (lts w d)) ((d - 1 - i) * (sC S).length)) k = trw (wtc S (lts w d)) ((d - 1 - i) * (sC S).length + k) := fun k hk => (trw_ins hk).symm
        refine And.intro (by rw [m2]; exact vp_in_nI hlt' (by omega)) ⟨z', iF', aI', aL', S, trw (wtc S (lts w d)) ((d - 1 - i) * (sC S).length), c', b, fl + 1, M, rfl, (by show [Value.ref 28, .int (aI' 29 (nI (m / 3)).toNatClampNeg), .ref 14] = _; rw [m2, cl1 (by omega), e29, hE _ e1, e2]), hS, hD', h0, trw_Pm hS2 _, hM, hcap, fun aL2 M2 a1 a2 hx => br_nf rfl (And.intro (Or.inl rfl) ?_), fun aL2 M2 a1 a2 hl2 hk hn1 hn2 => br_nt n10 ?_⟩
        · refine (hQ z' iF' aI' aL2 c' (hF.al a1) a2.RT0).2 ?_
          obtain ⟨k, k1, k2, hx⟩ := hx
          have hin : (d - 1 - i) * (sC S).length + k ≤ tln (wtc S (lts w d)) := by rw [htl]; exact mul_in hl0 (by omega)
          rcases hx with hx | ⟨k', k3, k4, hx⟩
          · rw [hrow k k2] at hx
            obtain ⟨j, hj, q2⟩ := (hT.1 _).mp hx
            rcases hj with ⟨q, q1, rfl⟩ | ⟨q, k', q1, q3, q4, rfl⟩
            · exact DS.no (by omega) (hpos q q1) hin (by rw [htl]; exact hin1 q) (mul_ne k1 k2) q2
            · refine DS.no (by omega) (by omega) hin (by rw [htl]; exact mul_in (by omega) (by omega)) (fun e => ?_) q2
              have := (mul_eq k2 q4 e).1
              omega
          · rw [hrow k k2, hrow k' (by omega)] at hx
            exact DS.no (by omega) (by omega) (by rw [htl]; exact mul_in hl0 (by omega)) hin (by omega) hx
        · refine ⟨50 - (i + 1), (by omega), z', iF', aI', aL2, c', b, M2, hF.al a1, a2, hb, rfl, rfl, Or.inr ⟨i + 1, rfl, ?_, rfl, h, ?_, fun x => ?_, fun j j' a b e => ?_⟩⟩
          · show [Value.ref 28, _, _, _, .int (nI (m / 3)), .int (nI i + 1)] = _
            rw [m2, nI_1, show d - (i + 1) = d - 1 - i by omega]
          · rw [Nat.succ_mul]; omega
          · rw [hk, hT.1]
            constructor
            · rintro (⟨j, q, q3⟩ | ⟨k, k1, k2, k3⟩)
              · exact ⟨j, q.imp id (fun ⟨q, k, q1, r⟩ => ⟨q, k, by omega, r⟩), q3⟩
              · exact ⟨_, Or.inr ⟨i, k, by omega, k1, k2, rfl⟩, by rw [k3, hrow k k2]⟩
            · rintro ⟨j, (q | ⟨q, k, q1, k1, k2, q3⟩), q4⟩
              · exact Or.inl ⟨j, Or.inl q, q4⟩
              · by_cases e : q = i
                · subst e
                  exact Or.inr ⟨k, k1, k2, by rw [q4, q3, hrow k k2]⟩
                · exact Or.inl ⟨j, Or.inr ⟨q, k, by omega, k1, k2, q3⟩, q4⟩
          · have old : ∀ j, P2 d (sC S).length (i + 1) j → P2 d (sC S).length i j ∨ ∃ k, 1 ≤ k ∧ k < (sC S).length ∧ j = (d - 1 - i) * (sC S).length + k := by
              rintro j (q | ⟨q, k, q1, k1, k2, q3⟩)
              · exact Or.inl (Or.inl q)
              · by_cases e : q = i
                · subst e; exact Or.inr ⟨k, k1, k2, q3⟩
                · exact Or.inl (Or.inr ⟨q, k, by omega, k1, k2, q3⟩)
            have hx' : ∀ j k, P2 d (sC S).length i j → 1 ≤ k → k < (sC S).length → trw (wtc S (lts w d)) ((d - 1 - i) * (sC S).length + k) ≠ trw (wtc S (lts w d)) j := fun j k hj k1 k2 q => hn1 k k1 k2 (by rw [hrow k k2]; exact (hT.1 _).mpr ⟨j, hj, q⟩)
            rcases old j a with q | ⟨k, k1, k2, rfl⟩
            · rcases old j' b with r | ⟨k', k1', k2', rfl⟩
              · exact hT.2 j j' q r e
              · exact absurd e.symm (hx' j k' q k1' k2')
            · rcases old j' b with r | ⟨k', k1', k2', rfl⟩
              · exact absurd e (hx' j' k r k1 k2)
              · rw [← hrow k k2, ← hrow k' k2'] at e
                rcases Nat.lt_trichotomy k k' with y | y | y
                · exact absurd e (hn2 k' k k1 y k2')
                · rw [y]
                · exact absurd e.symm (hn2 k k' k1' y k2)

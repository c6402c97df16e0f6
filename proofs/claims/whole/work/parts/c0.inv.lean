/-! the whole state of the class -/
theorem CS.of {c : Nat} {iF aI iF' aI' : Nat → Nat → Int32} {S : Stg} (h : CS c iF aI S) (h1 : iF' c = iF c) (h2 : aI' (c + 1) = aI (c + 1)) (h3 : aI' (c + 2) = aI (c + 2)) : CS c iF' aI' S := by
  unfold CS at h ⊢
  rw [h1, h2, h3]
  exact h
/-- what the setting, the pad, the images and the leads are held in -/
def CB (W : WS) (iF aI : Nat → Nat → Int32) : Prop := CS 1 iF aI (wS W) ∧ iF 10 1 = nI (wP W).length ∧ RP (aI 11) (wP W) ∧ iF 0 3 = nI (ikp W) ∧ (∀ S', W.2.2.1 = some S' → CS 4 iF aI S') ∧ (∀ S', W.2.2.2 = some S' → CS 7 iF aI S') ∧ LD iF aI (wS W) ∧ RG iF aI (wS W)
theorem CB.of {W : WS} {iF aI iF' aI' : Nat → Nat → Int32} (h : CB W iF aI) (h1 : ∀ k, k < 18 → k ≠ 12 → iF' k = iF k) (h2 : ∀ k, k < 18 → k ≠ 13 → aI' k = aI k) : CB W iF' aI' := by
  obtain ⟨a1, a2, a3, a4, a5, a6, a7, a8⟩ := h
  refine ⟨a1.of (h1 1 (by omega) (by omega)) (h2 2 (by omega) (by omega)) (h2 3 (by omega) (by omega)), ?_, ?_, ?_, fun S' e => (a5 S' e).of (h1 4 (by omega) (by omega)) (h2 5 (by omega) (by omega)) (h2 6 (by omega) (by omega)), fun S' e => (a6 S' e).of (h1 7 (by omega) (by omega)) (h2 8 (by omega) (by omega)) (h2 9 (by omega) (by omega)), a7.of (h1 14 (by omega) (by omega)) (h2 15 (by omega) (by omega)) ⟨rfl, rfl, rfl, rfl⟩, a8.of (h1 16 (by omega) (by omega)) (h2 17 (by omega) (by omega))⟩
  · rw [h1 10 (by omega) (by omega)]; exact a2
  · rw [h2 11 (by omega) (by omega)]; exact a3
  · rw [h1 0 (by omega) (by omega)]; exact a4
def FP (S : Stg) (iF aI : Nat → Nat → Int32) : Prop := ∃ kn, iF 20 3 = b01 kn ∧ (kn = true → FHK S iF aI)
theorem FP.of {S : Stg} {iF aI iF' aI' : Nat → Nat → Int32} (h : FP S iF aI) (h1 : iF' 20 = iF 20) (h2 : aI' 22 = aI 22) : FP S iF' aI' := by
  obtain ⟨kn, a, b⟩ := h
  exact ⟨kn, by rw [h1]; exact a, fun q => (b q).of h1 h2⟩
theorem SS.of {S : Stg} {fl : Nat} {z z' : Zt} {iF aI iF' aI' : Nat → Nat → Int32} {aL aL' : Nat → Nat → Int64} (h : SS S fl z iF aI aL) (h0 : Lok z'.2) (h1 : z'.2 25 = z.2 25) (h2 : z'.2 26 = z.2 26) (h3 : iF' 23 = iF 23) (h4 : iF' 24 = iF 24) (h5 : aI' 27 = aI 27) (h6 : aL' 25 = aL 25) : SS S fl z' iF' aI' aL' := by
  obtain ⟨a1, a2, ⟨c, a3⟩, ⟨lf, a4, a5, a6⟩, a7⟩ := h
  refine ⟨h0, (by unfold QL at a2 ⊢; rw [h2]; exact a2), ⟨c, a3.of h1 h4 h6⟩, ⟨lf, a4, (by rw [h3]; exact a5), fun e => ?_⟩, (by rw [h5]; exact a7)⟩
  obtain ⟨⟨c, b, q⟩, r⟩ := a6 e
  exact ⟨⟨c, b, q.of h1 h4 h6⟩, by rw [h3]; exact r⟩
def TP (t K : Nat) (z : Zt) (iF : Nat → Nat → Int32) (aL : Nat → Nat → Int64) : Prop := ∃ c fl, fl ≤ K ∧ RT0 t c fl z iF aL
theorem TP.of {t K K' : Nat} {z z' : Zt} {iF iF' : Nat → Nat → Int32} {aL aL' : Nat → Nat → Int64} (h : TP t K z iF aL) (hK : K ≤ K') (h1 : z'.2 (t + 1) = z.2 (t + 1)) (h2 : iF' t = iF t) (h3 : aL' (t + 1) = aL (t + 1)) : TP t K' z' iF' aL' := by
  obtain ⟨c, fl, a, b⟩ := h
  exact ⟨c, fl, by omega, b.of h1 h2 h3⟩
def SP (S : Stg) (K : Nat) (z : Zt) (iF aI : Nat → Nat → Int32) (aL : Nat → Nat → Int64) : Prop := ∃ fl, fl ≤ K ∧ SS S fl z iF aI aL
def CIv (W : WS) (K : Nat) (z : Zt) (iF aI : Nat → Nat → Int32) (aL : Nat → Nat → Int64) : Prop := CB W iF aI ∧ FP (wS W) iF aI ∧ SP (wS W) K z iF aI aL ∧ TP 18 K z iF aL ∧ TP 30 K z iF aL
/-- what a call of the class leaves as it was -/
def FC (iF aI iF' aI' : Nat → Nat → Int32) : Prop := (∀ k, 32 ≤ k → iF' k = iF k) ∧ ∀ k, 32 ≤ k → k ≠ 48 → aI' k = aI k
theorem FC.refl (iF aI : Nat → Nat → Int32) : FC iF aI iF aI := ⟨fun _ _ => rfl, fun _ _ _ => rfl⟩
theorem FC.trans {iF aI iF1 aI1 iF2 aI2 : Nat → Nat → Int32} (h : FC iF aI iF1 aI1) (h2 : FC iF1 aI1 iF2 aI2) : FC iF aI iF2 aI2 := ⟨fun k q => (h2.1 k q).trans (h.1 k q), fun k q r => (h2.2 k q r).trans (h.2 k q r)⟩
theorem FC.fld {iF aI iF1 aI1 : Nat → Nat → Int32} (h : FC iF aI iF1 aI1) (k : Nat) (hk : k < 32) (f : Nat → Int32) : FC iF aI (up1 iF1 k f) aI1 := ⟨fun j q => by rw [up1_n _ _ (by omega)]; exact h.1 j q, h.2⟩
theorem FC.arr {iF aI iF1 aI1 : Nat → Nat → Int32} (h : FC iF aI iF1 aI1) (k : Nat) (hk : k < 32) (f : Nat → Int32) : FC iF aI iF1 (up1 aI1 k f) := ⟨h.1, fun j q r => by rw [up1_n _ _ (by omega)]; exact h.2 j q r⟩
theorem NF.FC {iF aI iF' aI' : Nat → Nat → Int32} (h : NF iF aI iF' aI') : FC iF aI iF' aI' := ⟨fun k q => h.1 k (by omega), fun k q _ => h.2 k (by omega)⟩
theorem CIv.K {W : WS} {K K' : Nat} {z : Zt} {iF aI : Nat → Nat → Int32} {aL : Nat → Nat → Int64} (h : CIv W K z iF aI aL) (hK : K ≤ K') : CIv W K' z iF aI aL := by
  obtain ⟨a, b, ⟨fl, c1, c2⟩, d, e⟩ := h
  exact ⟨a, b, ⟨fl, by omega, c2⟩, d.of hK rfl rfl rfl, e.of hK rfl rfl rfl⟩
/-- a call of the class: what it answers and what becomes of the state -/
def amc (args : List Int32) (ans : WS → Int32 × WS) : Spc := fun As g Q => ∃ z iF aI aL W K, g = Cg z iF aI aL ∧ As = .ref 0 :: args.map .int ∧ VW W ∧ CIv W K z iF aI aL ∧ K + 1000 < 2 ^ 30 ∧ ∀ z' iF' aI' aL', z'.1 = z.1 → FC iF aI iF' aI' → CIv (ans W).2 (K + 1000) z' iF' aI' aL' → Q (some (.int (ans W).1)) (Cg z' iF' aI' aL')
/-! what does not depend on the touch -/
theorem led_w {S : Stg} {lt : List Nat} {l x : Nat} : led (wtc S lt) l x = led S l x := rgTo_w _
theorem adT_w {S : Stg} {lt : List Nat} {ls : Nat} {e : Ent} {E : List Ent} : ∀ j, adT (wtc S lt) ls e E j = adT S ls e E j
  | 0 => rfl
  | j + 1 => by
    show (if bq ls j = true then ad (adT (wtc S lt) ls e E j) (led (wtc S lt) j e.1, e.1, j, e.2.2.2 + 1) else adT (wtc S lt) ls e E j) = if bq ls j = true then ad (adT S ls e E j) (led S j e.1, e.1, j, e.2.2.2 + 1) else adT S ls e E j
    rw [adT_w j, led_w]
theorem bfs_w {S : Stg} {lt : List Nat} {ls : Nat} : ∀ k i E, bfs (wtc S lt) ls k i E = bfs S ls k i E
  | 0, _, _ => rfl
  | k + 1, i, E => by
    show (if i < E.length then bfs (wtc S lt) ls k (i + 1) (adT (wtc S lt) ls (E.getD i (0, 0, 0, 0)) E 3) else E) = if i < E.length then bfs S ls k (i + 1) (adT S ls (E.getD i (0, 0, 0, 0)) E 3) else E
    rw [adT_w, bfs_w k]
theorem BFS_w {S : Stg} {lt : List Nat} {ls : Nat} : BFS (wtc S lt) ls = BFS S ls := bfs_w _ _ _
theorem FHx_w {S : Stg} {lt : List Nat} {x : Nat} : FHx (wtc S lt) x ↔ FHx S x := by
  have e : ∀ a, plr (wtc S lt) a = plr S a := fun a => rgTo_w a
  unfold FHx
  constructor
  · rintro ⟨a, b, h1, h2, h3, h4⟩
    rw [e, e] at h3
    exact ⟨a, b, h1, h2, h3, h4⟩
  · rintro ⟨a, b, h1, h2, h3, h4⟩
    refine ⟨a, b, h1, h2, ?_, h4⟩
    rw [e, e]
    exact h3
theorem FP.w {S : Stg} {lt : List Nat} {iF aI : Nat → Nat → Int32} (h : FP S iF aI) : FP (wtc S lt) iF aI := by
  obtain ⟨kn, a, b⟩ := h
  refine ⟨kn, a, fun q => ?_⟩
  obtain ⟨len, f, c, d⟩ := b q
  refine ⟨len, f, c, fun y => (d y).trans ?_⟩
  exact ⟨fun ⟨x, h1, h2⟩ => ⟨x, FHx_w.mpr h1, h2⟩, fun ⟨x, h1, h2⟩ => ⟨x, FHx_w.mp h1, h2⟩⟩
theorem SP.w {S : Stg} {lt : List Nat} {K : Nat} {z : Zt} {iF aI : Nat → Nat → Int32} {aL : Nat → Nat → Int64} (h : SP S K z iF aI aL) : SP (wtc S lt) K z iF aI aL := by
  obtain ⟨fl, a, b⟩ := h
  refine ⟨fl, a, ?_⟩
  unfold SS RC at b ⊢
  simp only [BFS_w]
  exact b
/-! small ones -/
def qX10_hasMethod : Spc := fun As g Q => ∃ z iF aI aL S, g = Cg z iF aI aL ∧ As = [.ref 0] ∧ VS S ∧ CS 1 iF aI S ∧ ((sC S).length = 0 → Q (some (.int 0)) g) ∧ ((sC S).length ≠ 0 → Q (some (.int 1)) g)
theorem rX10_hasMethod : Ok 0 yX10_hasMethod cX10_hasMethod 1 (some .boolean) qX10_hasMethod := by
  refine ok_weak (fun As g Q h => ?_) oX10_hasMethod
  obtain ⟨z, iF, aI, aL, S, rfl, rfl, hS, hC, hQ1, hQ2⟩ := h
  have hc := hS.2.1.1
  exact pk_le (sC S).length 0 (fun h => ⟨Or.inl rfl, hQ1 (by omega)⟩) (fun h => ⟨Or.inr rfl, hQ2 (by omega)⟩) hC.2.1
def qX10_hasMethodAndTouch : Spc := fun As g Q => ∃ z iF aI aL S, g = Cg z iF aI aL ∧ As = [.ref 0] ∧ VS S ∧ CS 1 iF aI S ∧ (rdy S = false → Q (some (.int 0)) g) ∧ (rdy S = true → Q (some (.int 1)) g)
theorem rX10_hasMethodAndTouch : Ok 0 yX10_hasMethodAndTouch cX10_hasMethodAndTouch 1 (some .boolean) qX10_hasMethodAndTouch := by
  refine ok_weak (fun As g Q h => ?_) oX10_hasMethodAndTouch
  obtain ⟨z, iF, aI, aL, S, rfl, rfl, hS, hC, hQ1, hQ2⟩ := h
  have hc := hS.2.1.1
  have hl := hS.2.2.2.2.1
  refine pk_le (sC S).length 0 (fun h => ⟨Or.inl rfl, hQ1 (decide_eq_false (by omega))⟩) (fun h => ?_) hC.2.1
  exact pk_le (sL S).length 0 (fun h2 => ⟨Or.inl rfl, hQ1 (decide_eq_false (by omega))⟩) (fun h2 => ⟨Or.inr rfl, hQ2 (decide_eq_true (by omega))⟩) hC.2.2.2.2.1
def qX0_numberAt : Spc := fun As g Q => ∃ z iF aI aL len f v, g = Cg z iF aI aL ∧ As = [.ref 20, .int v] ∧ FN iF aI len f ∧ (∀ i, i < len → v = nI i → Q (some (.int (nI (f i)))) g) ∧ ((∀ i, i < len → v ≠ nI i) → Q (some (.int (-6))) g)
theorem rX0_numberAt : Ok 0 yX0_numberAt cX0_numberAt 2 (some .int) qX0_numberAt := by
  refine ok_weak (fun As g Q h => ?_) oX0_numberAt
  obtain ⟨z, iF, aI, aL, len, f, v, rfl, rfl, ⟨h1, h2, h3, h4⟩, hQ1, hQ2⟩ := h
  rcases pk_ix v (n := len) (by omega) with q | q | ⟨j, j1, rfl⟩
  · refine br_t q (hQ2 (fun i hi e => ?_))
    rw [e] at q
    exact nI_ge0 (by omega) q
  · refine br_f (fun r => ?_) (br_t (by show iF 20 2 ≤ v; rw [h1]; exact q) (hQ2 (fun i hi e => ?_)))
    · have a1 := Int32.le_iff_toInt_le.mp q
      have a2 := Int32.lt_iff_toInt_lt.mp r
      rw [nI_toInt (by omega)] at a1
      have e0 : (0 : Int32).toInt = 0 := by decide
      omega
    · rw [e] at q
      exact absurd ((nI_leI (by omega) (by omega)).mp q) (by omega)
  · refine br_f (nI_ge0 (by omega)) (pk_le len j (fun h => absurd h (by omega)) (fun h => ?_) h1)
    refine And.intro (vp_in_nI (by omega) (by omega)) ?_
    show Q (some (.int (aI 22 (nI j).toNatClampNeg))) _
    rw [cl1 (by omega), (h3 j j1).1]
    exact hQ1 j j1 rfl
def qX9_begin : Spc := fun As g Q => ∃ z iF aI aL n, g = Cg z iF aI aL ∧ As = [.ref 1, .int (nI n)] ∧ 4 ≤ n ∧ n ≤ 8 ∧ ∀ f, CS 1 (up1 iF 1 f) aI (bgS n) → Q none (Cg z (up1 iF 1 f) aI aL)
set_option maxRecDepth 20000 in
theorem rX9_begin : Ok 0 yX9_begin cX9_begin 3 none qX9_begin := by
  refine ok_weak (fun As g Q h => ?_) oX9_begin
  obtain ⟨z, iF, aI, aL, n, rfl, rfl, hn4, hn, hQ⟩ := h
  obtain ⟨o1, o2⟩ := orl n (by omega) hn4
  have e2 : nI n - nI n / 2 * 2 = nI (n % 2) := by rw [show (2 : Int32) = nI 2 from rfl, pk_rem (by omega) (by omega) (by omega)]
  have key : ∀ x : Int32, x = nI (lsb n) → Q none (Cg z (up1 (up1 (up1 (up1 (up1 iF 1 (up1 (iF 1) 0 (nI n))) 1 (up1 (up1 (iF 1) 0 (nI n)) 2 0)) 1 (up1 (up1 (up1 (iF 1) 0 (nI n)) 2 0) 6 0)) 1 (up1 (up1 (up1 (up1 (iF 1) 0 (nI n)) 2 0) 6 0) 3 (18 ||| x))) 1 (up1 (up1 (up1 (up1 (up1 (iF 1) 0 (nI n)) 2 0) 6 0) 3 (18 ||| x)) 4 (30 ||| x))) aI aL) := by
    intro x hx
    rw [up1_up1, up1_up1, up1_up1, up1_up1]
    refine hQ _ ⟨rfl, rfl, ?_, ?_, rfl, fun i h => absurd h (Nat.not_lt_zero i), fun i h => absurd h (Nat.not_lt_zero i)⟩
    · show 18 ||| x = _
      rw [hx]; exact o1
    · show 30 ||| x = _
      rw [hx]; exact o2
  refine And.intro (by decide) (pk_ne (n % 2) 1 (fun h => ?_) (fun h => ?_) e2)
  · exact key 0 (by unfold lsb; rw [if_neg h]; rfl)
  · have hp := Nat.pow_le_pow_right (n := 2) (by decide) (show n ≤ 8 by omega)
    exact key ((1 : Int32) <<< (nI n &&& 31)) (by unfold lsb; rw [if_pos h, show (1 : Int32) = nI 1 from rfl, nx_shl (by omega) (by omega), Nat.one_mul])
def cpl (c d : Nat) : Prop := (c = 4 ∧ d = 1) ∨ (c = 7 ∧ d = 1) ∨ (c = 1 ∧ d = 4) ∨ (c = 1 ∧ d = 7)
def qX9_copyFrom : Spc := fun As g Q => ∃ z iF aI aL c d S, g = Cg z iF aI aL ∧ As = [.ref c, .ref d] ∧ cpl c d ∧ VS S ∧ CS d iF aI S ∧ ∀ f a b, CS c (up1 iF c f) (up1 (up1 aI (c + 1) a) (c + 2) b) S → Q none (Cg z (up1 iF c f) (up1 (up1 aI (c + 1) a) (c + 2) b) aL)
theorem cpy40 {f g : Nat → Int32} {j : Nat} (h : j < 40) : va_cpy f g (0 : Int32).toNatClampNeg (0 : Int32).toNatClampNeg (40 : Int32).toNatClampNeg j = f j := by
  show va_cpy f g 0 0 40 j = f j
  rw [pk_cpy_in (Nat.zero_le _) (by omega)]
  rw [Nat.zero_add, Nat.sub_zero]
set_option maxRecDepth 20000 in
theorem rX9_copyFrom : Ok 1 yX9_copyFrom cX9_copyFrom 2 none qX9_copyFrom := by
  refine ok_weak (fun As g Q h => ?_) oX9_copyFrom
  obtain ⟨z, iF, aI, aL, c, d, S, rfl, rfl, hcd, hS, ⟨c1, c2, c3, c4, c5, c6, c7⟩, hQ⟩ := h
  have hc := hS.2.1.1
  have hl := hS.2.2.2.2.1
  have key : ∀ g : Sto, g = Cg z (up1 (up1 (up1 (up1 (up1 iF c (up1 (iF c) 0 (iF d 0))) c (up1 (up1 (iF c) 0 (iF d 0)) 2 (iF d 2))) c (up1 (up1 (up1 (iF c) 0 (iF d 0)) 2 (iF d 2)) 3 (iF d 3))) c (up1 (up1 (up1 (up1 (iF c) 0 (iF d 0)) 2 (iF d 2)) 3 (iF d 3)) 4 (iF d 4))) c (up1 (up1 (up1 (up1 (up1 (iF c) 0 (iF d 0)) 2 (iF d 2)) 3 (iF d 3)) 4 (iF d 4)) 6 (iF d 6))) (up1 (up1 aI (c + 1) (va_cpy (aI (d + 1)) (aI (c + 1)) (0 : Int32).toNatClampNeg (0 : Int32).toNatClampNeg (40 : Int32).toNatClampNeg)) (c + 2) (va_cpy (aI (d + 2)) (aI (c + 2)) (0 : Int32).toNatClampNeg (0 : Int32).toNatClampNeg (40 : Int32).toNatClampNeg)) aL → Q none g := by
    rintro g rfl
    rw [up1_up1, up1_up1, up1_up1, up1_up1]
    refine hQ _ _ _ ⟨?_, ?_, ?_, ?_, ?_, fun i hi => ?_, fun i hi => ?_⟩
    · rw [up1_s]; exact c1
    · rw [up1_s]; exact c2
    · rw [up1_s]; exact c3
    · rw [up1_s]; exact c4
    · rw [up1_s]; exact c5
    · rw [up1_n _ _ (by omega), up1_s, cpy40 (by omega)]; exact c6 i hi
    · rw [up1_s, cpy40 (by omega)]; exact c7 i hi
  have k1 : ¬ (0 : Int32) < 0 ∧ ¬ (0 : Int32) < 0 ∧ ¬ (40 : Int32) < 0 ∧ (0 : Int32).toNatClampNeg + (40 : Int32).toNatClampNeg ≤ 40 ∧ (0 : Int32).toNatClampNeg + (40 : Int32).toNatClampNeg ≤ 40 := by decide
  rcases hcd with ⟨rfl, rfl⟩ | ⟨rfl, rfl⟩ | ⟨rfl, rfl⟩ | ⟨rfl, rfl⟩
  · exact And.intro k1 (And.intro k1 (key _ rfl))
  · exact And.intro k1 (And.intro k1 (key _ rfl))
  · exact And.intro k1 (And.intro k1 (key _ rfl))
  · exact And.intro k1 (And.intro k1 (key _ rfl))

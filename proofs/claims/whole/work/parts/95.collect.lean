/-! the false heads are collected -/
def FHK (S : Stg) (iF aI : Nat → Nat → Int32) : Prop := ∃ len f, FN iF aI len f ∧ ∀ y, (∃ i, i < len ∧ f i = y) ↔ ∃ x, FHx S x ∧ num (sN S) x = y
theorem FHK.of {S : Stg} {iF aI iF' aI' : Nat → Nat → Int32} (h : FHK S iF aI) (h1 : iF' 20 = iF 20) (h2 : aI' 22 = aI 22) : FHK S iF' aI' := by
  obtain ⟨len, f, h3, h4⟩ := h
  refine ⟨len, f, ?_, h4⟩
  unfold FN at h3 ⊢
  rw [h1, h2]
  exact h3
/-- pairs of plain rows ahead of a pair -/
def PB (S : Stg) (a b y : Nat) : Prop := ∃ a' b', a' < (sC S).length ∧ b' < (sC S).length ∧ (a' < a ∨ a' = a ∧ b' < b) ∧ dg (hdx (sN S) (plr S a') (plr S b')) 0 = 0 ∧ num (sN S) (hdx (sN S) (plr S a') (plr S b')) = y
theorem PB.next {S : Stg} {a b : Nat} (ha : a < (sC S).length) (hb : b < (sC S).length) (y : Nat) : PB S a (b + 1) y ↔ PB S a b y ∨ (dg (hdx (sN S) (plr S a) (plr S b)) 0 = 0 ∧ y = num (sN S) (hdx (sN S) (plr S a) (plr S b))) := by
  constructor
  · rintro ⟨a', b', h1, h2, h3, h4, h5⟩
    by_cases e : a' = a ∧ b' = b
    · obtain ⟨rfl, rfl⟩ := e
      exact Or.inr ⟨h4, h5.symm⟩
    · exact Or.inl ⟨a', b', h1, h2, by omega, h4, h5⟩
  · rintro (⟨a', b', h1, h2, h3, h4, h5⟩ | ⟨h1, h2⟩)
    · exact ⟨a', b', h1, h2, by omega, h4, h5⟩
    · exact ⟨a, b, ha, hb, by omega, h1, h2.symm⟩
theorem PB.row {S : Stg} {a : Nat} (y : Nat) : PB S a (sC S).length y ↔ PB S (a + 1) 0 y := by
  constructor
  · rintro ⟨a', b', h1, h2, h3, h4, h5⟩; exact ⟨a', b', h1, h2, by omega, h4, h5⟩
  · rintro ⟨a', b', h1, h2, h3, h4, h5⟩; exact ⟨a', b', h1, h2, by omega, h4, h5⟩
theorem PB.all {S : Stg} (y : Nat) : PB S (sC S).length 0 y ↔ ∃ x, FHx S x ∧ num (sN S) x = y := by
  constructor
  · rintro ⟨a', b', h1, h2, h3, h4, h5⟩; exact ⟨_, ⟨a', b', h1, h2, rfl, h4⟩, h5⟩
  · rintro ⟨x, ⟨a', b', h1, h2, rfl, h4⟩, h5⟩; exact ⟨a', b', h1, h2, by omega, h4, h5⟩
def pX0_collect : Spc := fun As g Q => ∃ z iF aI aL S kn, g = Cg z iF aI aL ∧ As = [.ref 20, .ref 14] ∧ VS S ∧ LD iF aI S ∧ iF 20 3 = b01 kn ∧ (kn = true → FHK S iF aI) ∧ ∀ q a b, q 3 = 1 → FHK S (up1 iF 20 q) (up1 (up1 aI 21 b) 22 a) → Q none (Cg z (up1 iF 20 q) (up1 (up1 aI 21 b) 22 a) aL)
theorem oX0_collect : Ok 2 yX0_collect cX0_collect 5 none pX0_collect := by
  refine ok_all fun As g Q h => ?_
  obtain ⟨z, iF, aI, aL, S, kn, rfl, rfl, hS, hD, hk, hkn, hQ⟩ := h
  have hn := hS.1.2
  have hc := hS.2.1.1
  have d3 := hD.2.2.1
  refine at_of (fun pc => pc == 25 || pc == 35) 80 (fun k pc ls st g' => ∃ q pb ar cnt f, q 3 = 1 ∧ (∀ j, j < (sC S).length → pb j = nI (plr S j)) ∧ FN (up1 iF 20 q) (up1 (up1 aI 21 pb) 22 ar) cnt f ∧ st = [] ∧ g' = Cg z (up1 iF 20 q) (up1 (up1 aI 21 pb) 22 ar) aL ∧ ((∃ a v w, pc = 25 ∧ ls = [.ref 20, .ref 14, .int (nI a), v, w] ∧ k = 100 * (41 - a) ∧ a ≤ (sC S).length ∧ cnt ≤ a * (sC S).length ∧ ∀ y, (∃ i, i < cnt ∧ f i = y) ↔ PB S a 0 y)
      ∨ (∃ a b w, pc = 35 ∧ ls = [.ref 20, .ref 14, .int (nI a), .int (nI b), w] ∧ k = 100 * (41 - a) - 1 - b ∧ a < (sC S).length ∧ b ≤ (sC S).length ∧ cnt ≤ a * (sC S).length + b ∧ ∀ y, (∃ i, i < cnt ∧ f i = y) ↔ PB S a b y))) (by decide) rfl sX0_collect (nl (n := 2) rfl rfl rfl) ?_ ?_
  · refine br_c (fun h => ?_) (fun h => ?_)
    · refine And.intro (Or.inr rfl) ?_
      refine ⟨z, _, _, aL, S, rfl, rfl, hS, hD.of rfl rfl ⟨rfl, rfl, rfl, rfl⟩, fun pb hpb => ?_⟩
      refine ⟨4100, up1 (up1 (iF 20) 3 1) 2 0, pb, aI 22, 0, fun _ => 0, rfl, hpb, ⟨rfl, Nat.zero_le _, fun i h => absurd h (Nat.not_lt_zero i), fun i j _ h => absurd h (Nat.not_lt_zero j)⟩, rfl, ?_, Or.inl ⟨0, U_, U_, rfl, rfl, rfl, Nat.zero_le _, Nat.zero_le _, fun y => ⟨fun ⟨i, h, _⟩ => absurd h (Nat.not_lt_zero i), ?_⟩⟩⟩
      · show Cg z (up1 (up1 iF 20 (up1 (iF 20) 3 1)) 20 (up1 (up1 (iF 20) 3 1) 2 0)) (up1 aI 21 pb) aL = Cg z (up1 iF 20 (up1 (up1 (iF 20) 3 1) 2 0)) (up1 (up1 aI 21 pb) 22 (up1 aI 21 pb 22)) aL
        rw [up1_up1, up1_id]
      · rintro ⟨a', b', h1, h2, h3, h4, h5⟩; omega
    · have h := (i2 hk).mp h
      have := hQ (iF 20) (aI 22) (aI 21) (by rw [hk, h]; rfl) (by rw [up1_id, up1_id, up1_id]; exact hkn h)
      rw [up1_id, up1_id, up1_id] at this
      exact this
  · rintro k pc ls st g' ⟨q, pb, ar, cnt, f, q3, hpb, hF, rfl, rfl, (⟨a, v, w, rfl, rfl, rfl, ha, hcnt, hset⟩ | ⟨a, b, w, rfl, rfl, rfl, ha, hb, hcnt, hset⟩)⟩
    · refine pk_le (sC S).length a (fun h => ?_) (fun h => ?_) d3
      · have e : a = (sC S).length := by omega
        subst e
        exact hQ q ar pb q3 ⟨cnt, f, hF, fun y => (hset y).trans (PB.all y)⟩
      · exact ⟨100 * (41 - a) - 1, (by omega), q, pb, ar, cnt, f, q3, hpb, hF, rfl, rfl, Or.inr ⟨a, 0, U_, rfl, rfl, rfl, h, Nat.zero_le _, hcnt, hset⟩⟩
    · refine pk_le (sC S).length b (fun h => ?_) (fun h => ?_) d3
      · have e : b = (sC S).length := by omega
        subst e
        refine ⟨100 * (41 - (a + 1)), (by omega), q, pb, ar, cnt, f, q3, hpb, hF, rfl, rfl, Or.inl ⟨a + 1, .int (nI (sC S).length), U_, rfl, (by show [Value.ref 20, .ref 14, .int (nI a + 1), _, _] = _; rw [nI_1]), rfl, (by omega), (by rw [Nat.succ_mul]; exact hcnt), fun y => (hset y).trans (PB.row y)⟩⟩
      · have hPa := plr_Pm hS a
        have hPb := plr_Pm hS b
        obtain ⟨hx1, hx2⟩ := hdx_spec hn hPa hPb
        refine And.intro (vp_in_nI (by omega) (by omega)) (And.intro (vp_in_nI (by omega) (by omega)) ?_)
        refine ⟨plr S b, plr S a, sN S, hPb.lt24 hn, hPa.lt24 hn, hn, hPa.2.1, hPa.2.2, (by show [Value.int (pb (nI b).toNatClampNeg), .int (pb (nI a).toNatClampNeg), .int (iF 14 0)] = _; rw [cl1 (by omega), cl1 (by omega), hpb b h, hpb a ha, hD.1]), fun y hy hy2 => ?_⟩
        have ey : y = hdx (sN S) (plr S a) (plr S b) := bk_uniq hPa hy hx1.1 hy2 hx2
        subst ey
        have h24 := hx1.lt24 hn
        have hd0 := dg_lt (hdx (sN S) (plr S a) (plr S b)) 0
        have hb8 := bell_at (x := hdx (sN S) (plr S a) (plr S b)) (p := 0) h24 (by omega)
        refine pk_ne (dg (hdx (sN S) (plr S a) (plr S b)) 0 + 1) 1 (fun h2 => ?_) (fun h2 => ?_) hb8
        · refine ⟨100 * (41 - a) - 1 - (b + 1), (by omega), q, pb, ar, cnt, f, q3, hpb, hF, rfl, rfl, Or.inr ⟨a, b + 1, .int (nI (hdx (sN S) (plr S a) (plr S b))), rfl, (by show [Value.ref 20, .ref 14, .int (nI a), .int (nI b + 1), _] = _; rw [nI_1]), rfl, ha, (by omega), (by omega), fun y => (hset y).trans ?_⟩⟩
          rw [PB.next ha h]
          exact ⟨Or.inl, fun z => z.elim id (fun z => absurd z.1 (by omega))⟩
        · refine ⟨hdx (sN S) (plr S a) (plr S b), sN S, h24, hn, (by show [_, Value.int (iF 14 0)] = _; rw [hD.1]), ?_⟩
          have hnum : num (sN S) (hdx (sN S) (plr S a) (plr S b)) < 10 ^ 9 := Nat.lt_of_lt_of_le (numTo_lt _ _) (Nat.pow_le_pow_right (by decide) (by omega))
          have hcl : cnt < 1600 := by
            have h6 : (a + 1) * (sC S).length ≤ (sC S).length * (sC S).length := Nat.mul_le_mul_right _ ha
            have h7 : (sC S).length * (sC S).length ≤ 40 * 40 := Nat.mul_le_mul hc hc
            rw [Nat.succ_mul] at h6
            omega
          refine ⟨z, _, _, aL, cnt, f, num (sN S) (hdx (sN S) (plr S a) (plr S b)), rfl, rfl, hF, hcl, hnum, fun q' ar' len' f' a1 a2 a3 a4 => ?_⟩
          rw [up1_up1, up1_up1] at a1
          refine ⟨100 * (41 - a) - 1 - (b + 1), (by omega), q', pb, ar', len', f', a3.trans q3, hpb, a1, rfl, (by rw [up1_up1, up1_up1]), Or.inr ⟨a, b + 1, .int (nI (hdx (sN S) (plr S a) (plr S b))), rfl, (by show [Value.ref 20, .ref 14, .int (nI a), .int (nI b + 1), _] = _; rw [nI_1]), rfl, ha, (by omega), (by omega), fun y => ?_⟩⟩
          rw [a4, PB.next ha h, hset]
          exact ⟨fun z => z.elim Or.inl (fun z => Or.inr ⟨by omega, z⟩), fun z => z.elim Or.inl (fun z => Or.inr z.2)⟩
/-! what is told of them -/
theorem fhF_go {S : Stg} {len : Nat} {f R : Nat → Nat} (hl : len ≤ 1600) (h1 : ∀ i, i < len → fhB S (R i) = true ∧ num (sN S) (unr (sN S) (R i)) = f i ∧ R i < 40320) (h2 : ∀ r, fhB S r = true → ∃ i, i < len ∧ R i = r) (h3 : ∀ i j, i < j → j < len → R i < R j) :
    ∀ k r c, r + k = 40320 → c ≤ len → (∀ i, i < c → R i < r) → (∀ i, c ≤ i → i < len → r ≤ R i) → (∀ i, c ≤ i → i < len → fhF S (nI i) k r c = nI (f i)) ∧ ∀ v, (∀ i, c ≤ i → i < len → v ≠ nI i) → fhF S v k r c = -6 := by
  intro k
  induction k with
  | zero =>
    intro r c hr hc g1 g2
    refine ⟨fun i a b => ?_, fun v _ => rfl⟩
    have := g2 i a b
    have := (h1 i b).2.2
    omega
  | succ k ih =>
    intro r c hr hc g1 g2
    have eF : ∀ v, fhF S v (k + 1) r c = if fhB S r = true then (if nI c = v then nI (num (sN S) (unr (sN S) r)) else fhF S v k (r + 1) (c + 1)) else fhF S v k (r + 1) c := fun v => rfl
    by_cases hB : fhB S r = true
    · obtain ⟨i, i1, i2⟩ := h2 r hB
      have hci : c ≤ i := Classical.byContradiction fun q => by have := g1 i (by omega); omega
      have hic : i = c := by
        rcases Nat.eq_or_lt_of_le hci with q | q
        · exact q.symm
        · have := h3 c i q i1
          have := g2 c (Nat.le_refl _) (by omega)
          omega
      subst hic
      obtain ⟨k1, k2⟩ := ih (r + 1) (i + 1) (by omega) i1 (fun j hj => by
        rcases Nat.eq_or_lt_of_le (Nat.le_of_lt_succ hj) with q | q
        · rw [q]; omega
        · have := g1 j q; omega) (fun j a b => by have := h3 i j a b; omega)
      refine ⟨fun j a b => ?_, fun v hv => ?_⟩
      · rw [eF, if_pos hB]
        by_cases e : i = j
        · subst e
          rw [if_pos rfl, ← i2, (h1 i i1).2.1]
        · rw [if_neg (fun q => e ((nI_eq (by omega) (by omega)).mp q))]
          exact k1 j (by omega) b
      · rw [eF, if_pos hB, if_neg (fun q => hv i (Nat.le_refl _) i1 q.symm)]
        exact k2 v (fun j a b => hv j (by omega) b)
    · obtain ⟨k1, k2⟩ := ih (r + 1) c (by omega) hc (fun j hj => by have := g1 j hj; omega) (fun j a b => by
        have := g2 j a b
        rcases Nat.eq_or_lt_of_le this with q | q
        · rw [q] at hB; exact absurd (h1 j b).1 hB
        · exact q)
      refine ⟨fun j a b => ?_, fun v hv => ?_⟩
      · rw [eF, if_neg hB]; exact k1 j a b
      · rw [eF, if_neg hB]; exact k2 v hv
theorem FHK.ans {S : Stg} (hS : VS S) {iF aI : Nat → Nat → Int32} (h : FHK S iF aI) : ∃ len f, FN iF aI len f ∧ fhN S = len ∧ (∀ i, i < len → fhF S (nI i) 40320 0 0 = nI (f i)) ∧ ∀ v, (∀ i, i < len → v ≠ nI i) → fhF S v 40320 0 0 = -6 := by
  obtain ⟨len, f, hF, hset⟩ := h
  have hX : ∀ i, i < len → FHx S (Classical.epsilon (fun x => FHx S x ∧ num (sN S) x = f i)) ∧ num (sN S) (Classical.epsilon (fun x => FHx S x ∧ num (sN S) x = f i)) = f i := fun i hi => Classical.epsilon_spec ((hset (f i)).mp ⟨i, hi, rfl⟩)
  generalize hXd : (fun i => Classical.epsilon (fun x => FHx S x ∧ num (sN S) x = f i)) = X at hX
  have hX : ∀ i, i < len → FHx S (X i) ∧ num (sN S) (X i) = f i := by rw [← hXd]; exact hX
  have hP : ∀ i, i < len → Pm (sN S) (X i) := fun i hi => FHx_Pm hS (hX i hi).1
  have h1 : ∀ i, i < len → fhB S (rk (sN S) (X i)) = true ∧ num (sN S) (unr (sN S) (rk (sN S) (X i))) = f i ∧ rk (sN S) (X i) < 40320 := fun i hi => ⟨fhB_iff.mpr ⟨X i, (hX i hi).1, rfl⟩, by rw [unr_rk (hP i hi)]; exact (hX i hi).2, Nat.lt_of_lt_of_le (rk_lt hS.1.2) (fct_le _ hS.1.2)⟩
  have h2' : ∀ x, FHx S x → ∃ i, i < len ∧ X i = x := fun x hx => by
    obtain ⟨i, i1, i2⟩ := (hset (num (sN S) x)).mpr ⟨x, hx, rfl⟩
    exact ⟨i, i1, num_inj (hP i i1) (FHx_Pm hS hx) (by rw [(hX i i1).2, i2])⟩
  have h2 : ∀ r, fhB S r = true → ∃ i, i < len ∧ rk (sN S) (X i) = r := fun r hr => by
    obtain ⟨x, hx, rfl⟩ := fhB_iff.mp hr
    obtain ⟨i, i1, i2⟩ := h2' x hx
    exact ⟨i, i1, by rw [i2]⟩
  have h3 : ∀ i j, i < j → j < len → rk (sN S) (X i) < rk (sN S) (X j) := fun i j a b => by
    rw [rk_num (hP i (by omega)) (hP j b), (hX i (by omega)).2, (hX j b).2]
    exact hF.2.2.2 i j a b
  obtain ⟨k1, k2⟩ := fhF_go (S := S) (f := f) (R := fun i => rk (sN S) (X i)) hF.2.1 h1 h2 h3 40320 0 0 (by omega) (Nat.zero_le _) (fun i h => absurd h (Nat.not_lt_zero i)) (fun _ _ _ => Nat.zero_le _)
  refine ⟨len, f, hF, ?_, fun i hi => k1 i (Nat.zero_le _) hi, fun v hv => k2 v (fun i _ hi => hv i hi)⟩
  have := fhN_len hS (V := (List.range len).map X) (fun x => ?_) ?_
  · rw [← this, List.length_map, List.length_range]
  · rw [List.mem_map]
    constructor
    · rintro ⟨i, i1, rfl⟩; exact (hX i (List.mem_range.mp i1)).1
    · intro hx
      obtain ⟨i, i1, i2⟩ := h2' x hx
      exact ⟨i, List.mem_range.mpr i1, i2⟩
  · refine List.pairwise_map.mpr (List.Pairwise.imp_of_mem (fun {a b} ha hb hab => ?_) List.pairwise_lt_range)
    intro e
    have := h3 a b hab (List.mem_range.mp hb)
    rw [e] at this
    omega

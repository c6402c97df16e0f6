/-! the longest touch of few leads -/
noncomputable def lgP (S : Stg) : Nat → Nat × Nat
  | 0 => (0, 0)
  | d + 1 => match fnd (gdB S (d + 1)) 0 (3 ^ (d + 1)) with
    | some w => (d + 1, w)
    | none => lgP S d
theorem lgP_s (S : Stg) {d w : Nat} (h : fnd (gdB S (d + 1)) 0 (3 ^ (d + 1)) = some w) : lgP S (d + 1) = (d + 1, w) := by
  unfold lgP
  rw [h]
theorem lgP_n (S : Stg) {d : Nat} (h : fnd (gdB S (d + 1)) 0 (3 ^ (d + 1)) = none) : lgP S (d + 1) = lgP S d := by
  conv => lhs; unfold lgP
  rw [h]
theorem lgP_le (S : Stg) : ∀ n, (lgP S n).1 ≤ n ∧ (lgP S n).2 < 3 ^ (lgP S n).1 ∧ ∀ i, lgF S i n = if (lgP S n).1 = 0 then -6 else lgW S i (lgP S n).1 (lgP S n).2
  | 0 => ⟨Nat.le_refl 0, Nat.zero_lt_one, fun i => (if_pos rfl).symm⟩
  | n + 1 => by
    cases h : fnd (gdB S (n + 1)) 0 (3 ^ (n + 1)) with
    | none =>
      obtain ⟨h1, h2, h3⟩ := lgP_le S n
      rw [lgP_n S h]
      refine ⟨by omega, h2, fun i => ?_⟩
      rw [← h3 i]
      conv => lhs; unfold lgF
      rw [h]
    | some w =>
      have := fnd_lt h
      rw [lgP_s S h]
      refine ⟨Nat.le_refl _, by show w < 3 ^ (n + 1); omega, fun i => ?_⟩
      rw [if_neg (show ¬ n + 1 = 0 by omega)]
      conv => lhs; unfold lgF
      rw [h]
theorem fd_mono : ∀ {b a : Nat}, a ≤ b → fd a ≤ fd b
  | 0, a, h => by rw [show a = 0 by omega]; exact Nat.le_refl _
  | b + 1, a, h => by
    rcases Nat.eq_or_lt_of_le h with q | q
    · rw [q]; exact Nat.le_refl _
    · have := fd_mono (b := b) (a := a) (by omega)
      show fd a ≤ 3 * fd b + 1
      omega
theorem TF.tr {t : Nat} {z z1 z2 : Zt} {iF aI iF1 aI1 iF2 aI2 : Nat → Nat → Int32} {aL aL1 aL2 : Nat → Nat → Int64} (h : TF t z iF aI aL z1 iF1 aI1 aL1) (h2 : TF t z1 iF1 aI1 aL1 z2 iF2 aI2 aL2) : TF t z iF aI aL z2 iF2 aI2 aL2 := ⟨h2.1.trans h.1, fun k a => (h2.2.1 k a).trans (h.2.1 k a), h2.2.2.1, fun k a => (h2.2.2.2.1 k a).trans (h.2.2.2.1 k a), fun k a b => ⟨(h2.2.2.2.2 k a b).1.trans (h.2.2.2.2 k a b).1, (h2.2.2.2.2 k a b).2.trans (h.2.2.2.2 k a b).2⟩⟩
theorem TF.rf {t : Nat} {z : Zt} {iF aI : Nat → Nat → Int32} {aL : Nat → Nat → Int64} (h : Lok z.2) : TF t z iF aI aL z iF aI aL := ⟨rfl, fun _ _ => rfl, h, fun _ _ => rfl, fun _ _ _ => ⟨rfl, rfl⟩⟩
theorem fnd_0 {P : Nat → Bool} {i : Nat} : fnd P i 0 = none := rfl
theorem fnd_y {P : Nat → Bool} {i k : Nat} (h : P i = true) : fnd P i (k + 1) = some i := if_pos h
theorem fnd_n {P : Nat → Bool} {i k : Nat} (h : ¬ P i = true) : fnd P i (k + 1) = fnd P (i + 1) k := if_neg h
def pX2_find : Spc := fun As g Q => ∃ z iF aI aL S n c fl, g = Cg z iF aI aL ∧ As = [.ref 28, .ref 14, .int (nI n)] ∧ VS S ∧ LD iF aI S ∧ (sC S).length ≠ 0 ∧ 1 ≤ n ∧ n ≤ 5 ∧ Lok z.2 ∧ RT0 30 c fl z iF aL ∧ fl + 400 < 2 ^ 30 ∧ ∀ a z' iF' aI' aL' c' fl', TF 30 z iF (up1 aI 29 a) aL z' iF' aI' aL' → fl' ≤ fl + 400 → RT0 30 c' fl' z' iF' aL' → Q (some (.int (nI (fd (lgP S n).1 + (lgP S n).2)))) (Cg z' iF' aI' aL')
set_option maxHeartbeats 2000000 in
theorem oX2_find : Ok 4 yX2_find cX2_find 7 (some .int) pX2_find := by
  refine ok_all fun As g Q h => ?_
  obtain ⟨z, iF, aI, aL, S, n, c, fl, rfl, rfl, hS, hD, h0, hn1, hn5, hL, hT0, hfl, hQ⟩ := h
  have hn := hS.1.2
  refine at_of (fun pc => pc == 22 || pc == 39) 80 (fun k pc ls st g' => ∃ a z' iF' aI' aL' c' fl', (∀ j, j < fd (n + 1) → a j = nI (nd S j)) ∧ TF 30 z iF (up1 aI 29 a) aL z' iF' aI' aL' ∧ RT0 30 c' fl' z' iF' aL' ∧ st = [] ∧ g' = Cg z' iF' aI' aL' ∧ ((∃ d v w, pc = 22 ∧ ls = [.ref 28, .ref 14, .int (nI n), .int (nI (fd (d + 1))), .int (nI d), v, w] ∧ k = 1000 * d + 500 ∧ d ≤ n ∧ lgP S n = lgP S d ∧ fl' + fd (d + 1) ≤ fl + 364)
      ∨ (∃ d w, pc = 39 ∧ ls = [.ref 28, .ref 14, .int (nI n), .int (nI (fd (d + 1 + 1))), .int (nI (d + 1)), .int (nI (fd (d + 1))), .int (nI (fd (d + 1) + w))] ∧ k = 1000 * (d + 1) + 400 - w ∧ d + 1 ≤ n ∧ w ≤ 3 ^ (d + 1) ∧ lgP S n = lgP S (d + 1) ∧ fnd (gdB S (d + 1)) 0 (3 ^ (d + 1)) = fnd (gdB S (d + 1)) w (3 ^ (d + 1) - w) ∧ fl' + fd (d + 1 + 1) ≤ fl + 364 + w))) (by decide) rfl sX2_find (nl (n := 3) rfl rfl rfl) ?_ ?_
  · refine ⟨n + 1, (by omega), (by show [Value.int (nI n + 1)] = _; rw [nI_1]), ?_⟩
    have h364 := fd_le (n + 1) (by omega)
    have h1 := fd_pos (show 1 ≤ n + 1 by omega)
    have emin : (if 364 < nI (fd (n + 1)) then 364 else nI (fd (n + 1))) = nI (fd (n + 1)) := if_neg (fun q => absurd ((nI_ltI (a := 364) (by omega) (by omega)).mp q) (by omega))
    refine ⟨z, iF, aI, aL, S, fd (n + 1), rfl, ?_, hS, hD, h0, h1, h364, fun a ha => ?_⟩
    · show [Value.ref 28, .int (if 364 < nI (fd (n + 1)) then 364 else nI (fd (n + 1))), .ref 14] = _
      rw [emin]
    · refine ⟨1000 * n + 500, a, z, iF, up1 aI 29 a, aL, c, fl, ha, TF.rf hL, hT0, rfl, rfl, Or.inl ⟨n, U_, U_, rfl, ?_, rfl, Nat.le_refl _, rfl, (by omega)⟩⟩
      show [Value.ref 28, .ref 14, .int (nI n), .int (if 364 < nI (fd (n + 1)) then 364 else nI (fd (n + 1))), .int (nI n), U_, U_] = _
      rw [emin]
  · rintro k pc ls st g' ⟨a, z', iF', aI', aL', c', fl', ha, hF, hT, rfl, rfl, (⟨d, v, w, rfl, rfl, rfl, hd, hlg, hfl'⟩ | ⟨d, w, rfl, rfl, rfl, hd, hw, hlg, hfn, hfl'⟩)⟩
    · have hfp := fd_pos (show 1 ≤ d + 1 by omega)
      refine pk_lt d 1 (fun h => ?_) (fun h => ?_)
      · have e : d = 0 := by omega
        subst e
        have := hQ a z' iF' aI' aL' c' fl' hF (by omega) hT
        rw [hlg] at this
        exact this
      · obtain ⟨e, rfl⟩ : ∃ e, d = e + 1 := ⟨d - 1, by omega⟩
        refine ⟨e + 1, (by omega), rfl, ?_⟩
        exact ⟨1000 * (e + 1) + 400, (by omega), a, z', iF', aI', aL', c', fl', ha, hF, hT, rfl, rfl, Or.inr ⟨e, 0, rfl, rfl, rfl, hd, Nat.zero_le _, hlg, rfl, hfl'⟩⟩
    · have hp3 := p3_le (show d + 1 ≤ 5 by omega)
      have hfp := fd_p (d + 1)
      have hfp1 := fd_pos (show 1 ≤ d + 1 by omega)
      have h364 := fd_le (d + 1 + 1) (by omega)
      have hmono : fd (d + 1 + 1) ≤ fd (n + 1) := fd_mono (by omega)
      have e29 : aI' 29 = a := (hF.2.2.2.2 29 (by omega) (by omega)).1.trans (up1_s _ _ _)
      have hD' : LD iF' aI' S := hD.of (hF.2.2.2.1 14 (by omega)) (hF.2.2.2.2 15 (by omega) (by omega)).1 ⟨rfl, rfl, rfl, rfl⟩
      refine pk_le (fd (d + 1 + 1)) (fd (d + 1) + w) (fun h => ?_) (fun h => ?_)
      · have ew : 3 ^ (d + 1) - w = 0 := by omega
        rw [ew, fnd_0] at hfn
        refine ⟨1000 * d + 500, (by omega), a, z', iF', aI', aL', c', fl', ha, hF, hT, rfl, rfl, Or.inl ⟨d, .int (nI (fd (d + 1))), .int (nI (fd (d + 1) + w)), rfl, ?_, rfl, (by omega), hlg.trans (lgP_n S hfn), (by omega)⟩⟩
        show [Value.ref 28, .ref 14, .int (nI n), .int (nI (fd (d + 1))), .int (nI (d + 1) + (-1)), _, _] = _
        rw [pk_m1]
      · have hw3 : w < 3 ^ (d + 1) := by omega
        rw [show 3 ^ (d + 1) - w = (3 ^ (d + 1) - (w + 1)) + 1 by omega] at hfn
        have hend : nd S (fd (d + 1) + w) = trw (wtc S (lts w (d + 1))) (tln (wtc S (lts w (d + 1)))) := by
          have h1 := trw_nd (S := S) hw3 (d + 1) (Nat.le_refl _)
          rw [Nat.sub_self, Nat.pow_zero, Nat.div_one] at h1
          rw [← h1]
          show _ = trw _ ((lts w (d + 1)).length * (sC S).length)
          rw [lts_len]
        have eE : aI' 29 (nI (fd (d + 1) + w)).toNatClampNeg = nI (nd S (fd (d + 1) + w)) := by
          rw [cl1 (by omega), e29]; exact ha _ (by omega)
        have l1 := (nd_Pm (S := S) hn (fd (d + 1) + w)).lt24 hn
        have l2 := (Pm_rds hn).lt24 hn
        have hr14 : iF' 14 1 = nI (rds (sN S)) := hD'.2.1
        have lsE : [Value.ref 28, .ref 14, .int (nI n), .int (nI (fd (d + 1 + 1))), .int (nI (d + 1)), .int (nI (fd (d + 1))), .int (nI (fd (d + 1) + w) + 1)] = [Value.ref 28, .ref 14, .int (nI n), .int (nI (fd (d + 1 + 1))), .int (nI (d + 1)), .int (nI (fd (d + 1))), .int (nI (fd (d + 1) + (w + 1)))] := by
          rw [nI_1]
          rfl
        refine And.intro (vp_in_nI (by omega) (by omega)) (pk_ne (nd S (fd (d + 1) + w)) (rds (sN S)) (fun h2 => ?_) (fun h2 => ?_) eE hr14)
        · exact ⟨1000 * (d + 1) + 400 - (w + 1), (by omega), a, z', iF', aI', aL', c', fl', ha, hF, hT, rfl, rfl, Or.inr ⟨d, w + 1, rfl, lsE, rfl, hd, hw3, hlg, (by rw [hfn, fnd_n (fun q => h2 (by rw [hend]; exact (gdB_iff.mp q).2))]), (by omega)⟩⟩
        · refine ⟨z', iF', aI', aL', S, d + 1, w, c', fl', rfl, rfl, hS, hD', h0, (by omega), (by omega), hw3, hF.2.2.1, hT, (by omega), fun j hj => (by rw [e29]; exact ha j (by omega)), fun z2 iF2 aI2 aL2 c2 b1 b2 => ⟨fun hds => br_f n10 ?_, fun hds => br_t rfl ?_⟩⟩
          · have hg : gdB S (d + 1) w = true := gdB_iff.mpr ⟨hds, by rw [← hend]; exact h2⟩
            rw [fnd_y hg] at hfn
            have := hQ a z2 iF2 aI2 aL2 c2 (fl' + 1) (hF.tr b1) (by omega) b2
            rw [hlg, lgP_s S hfn] at this
            exact this
          · exact ⟨1000 * (d + 1) + 400 - (w + 1), (by omega), a, z2, iF2, aI2, aL2, c2, fl' + 1, ha, hF.tr b1, b2, rfl, rfl, Or.inr ⟨d, w + 1, rfl, lsE, rfl, hd, hw3, hlg, (by rw [hfn, fnd_n (fun q => hds (gdB_iff.mp q).1)]), (by omega)⟩⟩

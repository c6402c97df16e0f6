/-! what is told of a search -/
def RC (S : Stg) (a : Nat → Int32) : Prop := ∀ l, l < 8 → a l = 0 ∨ a l = nI (BFS S l).length
def SS (S : Stg) (fl : Nat) (z : Zt) (iF aI : Nat → Nat → Int32) (aL : Nat → Nat → Int64) : Prop := Lok z.2 ∧ QL z ∧ (∃ c, RT0 24 c fl z iF aL) ∧ (∃ lf, lf < 8 ∧ iF 23 3 = nI lf ∧ (lf = 7 → (∃ c b, RT 24 c b fl (BM (BFS S 7)) z iF aL) ∧ iF 23 2 = nI (BFS S 7).length)) ∧ RC S (aI 27)
def S7 (S : Stg) (fl : Nat) (z : Zt) (iF aI : Nat → Nat → Int32) (aL : Nat → Nat → Int64) : Prop := Lok z.2 ∧ QL z ∧ (∃ c b, RT 24 c b fl (BM (BFS S 7)) z iF aL) ∧ iF 23 2 = nI (BFS S 7).length ∧ iF 23 3 = nI 7 ∧ RC S (aI 27)
theorem S7.SS {S : Stg} {fl : Nat} {z : Zt} {iF aI : Nat → Nat → Int32} {aL : Nat → Nat → Int64} (h : S7 S fl z iF aI aL) : SS S fl z iF aI aL := by
  obtain ⟨h1, h2, ⟨c, b, h3⟩, h4, h5, h6⟩ := h
  exact ⟨h1, h2, ⟨c, h3.RT0⟩, ⟨7, by omega, h5, fun _ => ⟨⟨c, b, h3⟩, h4⟩⟩, h6⟩
theorem SR.SS {S : Stg} {ls fl : Nat} {z : Zt} {iF aI : Nat → Nat → Int32} {aL : Nat → Nat → Int64} (h : SR S ls fl (BFS S ls) z iF aI aL) (hl : ls < 8) (hr : RC S (aI 27)) : SS S fl z iF aI aL := by
  obtain ⟨h1, h2, h3, ⟨c, b, h4, h5⟩, h6, h7, h8, h9⟩ := h
  refine ⟨h1, h2, ⟨c, h4.RT0⟩, ⟨ls, hl, h7, fun e => ?_⟩, hr⟩
  subst e
  exact ⟨⟨c, b, h4⟩, h6⟩
theorem SR.S7 {S : Stg} {fl : Nat} {z : Zt} {iF aI : Nat → Nat → Int32} {aL : Nat → Nat → Int64} (h : SR S 7 fl (BFS S 7) z iF aI aL) (hr : RC S (aI 27)) : S7 S fl z iF aI aL := by
  obtain ⟨h1, h2, h3, ⟨c, b, h4, h5⟩, h6, h7, h8, h9⟩ := h
  exact ⟨h1, h2, ⟨c, b, h4⟩, h6, h7, hr⟩
def pX8_rowsReached : Spc := fun As g Q => ∃ z iF aI aL S ls fl, g = Cg z iF aI aL ∧ As = [.ref 23, .ref 14, .int (nI ls)] ∧ VS S ∧ LD iF aI S ∧ (sC S).length ≠ 0 ∧ ls < 8 ∧ SS S fl z iF aI aL ∧ fl + 1 < 2 ^ 30 ∧ ∀ z' iF' aI' aL' fl', fl' ≤ fl + 1 → SF 27 z iF aI aL z' iF' aI' aL' → SS S fl' z' iF' aI' aL' → Q (some (.int (nI (BFS S ls).length))) (Cg z' iF' aI' aL')
theorem oX8_rowsReached : Ok 4 yX8_rowsReached cX8_rowsReached 3 (some .int) pX8_rowsReached := by
  refine ok_all fun As g Q h => ?_
  obtain ⟨z, iF, aI, aL, S, ls, fl, rfl, rfl, hS, hD, h0, hls, hSS, hfl, hQ⟩ := h
  refine at0 100 (by decide) rfl sX8_rowsReached (nl (n := 3) rfl rfl rfl) ?_
  have iv : vp_in (nI ls) 8 := vp_in_nI hls (by omega)
  refine br_f (nI_ge0 (by omega)) (pk_le ls 7 (fun _ => ?_) (fun h => absurd h (by omega)))
  refine And.intro iv (And.intro (fun h => ?_) (fun h => ?_))
  · have h : ¬ aI 27 (nI ls).toNatClampNeg = 0 := h
    refine And.intro iv ?_
    show Q (some (.int (aI 27 (nI ls).toNatClampNeg))) _
    rw [cl1 (by omega)] at h ⊢
    rw [(hSS.2.2.2.2 ls hls).resolve_left h]
    exact hQ z iF aI aL fl (by omega) SF.rf hSS
  · obtain ⟨q1, q2, ⟨c, q3⟩, q4, q5⟩ := hSS
    refine ⟨z, iF, aI, aL, S, ls, c, fl, rfl, rfl, hS, hD, h0, hls, q1, q2, q3, hfl, fun z' iF' aI' aL' k1 k2 => ?_⟩
    refine And.intro iv (And.intro iv ?_)
    show Q (some (.int (up1 (aI' 27) (nI ls).toNatClampNeg (iF' 23 2) (nI ls).toNatClampNeg))) (Cg z' iF' (up1 aI' 27 (up1 (aI' 27) (nI ls).toNatClampNeg (iF' 23 2))) aL')
    have e27 : aI' 27 = aI 27 := (k1.2.2.2 27 (by omega) (by omega) (by omega) (by omega)).1
    rw [up1_s, cl1 (by omega), k2.2.2.2.2.1]
    refine hQ _ _ _ _ (fl + 1) (Nat.le_refl _) ((k1.wk (Or.inr rfl)).arw _) ?_
    have hrc : RC S (up1 (aI' 27) ls (nI (BFS S ls).length)) := by
      intro l hl
      by_cases e : l = ls
      · rw [e, up1_s]; exact Or.inr rfl
      · rw [up1_n _ _ e, e27]; exact q5 l hl
    have k3 : SS S (fl + 1) z' iF' aI' aL' := k2.SS hls (by rw [e27]; exact q5)
    exact ⟨k3.1, k3.2.1, k3.2.2.1, k3.2.2.2.1, hrc⟩
theorem bfs_pre (S : Stg) (ls : Nat) : ∀ (k i : Nat) (E : List Ent), ∃ F, bfs S ls k i E = E ++ F
  | 0, _, E => ⟨[], (List.append_nil _).symm⟩
  | k + 1, i, E => by
    show ∃ F, (if i < E.length then bfs S ls k (i + 1) (adT S ls (E.getD i (0, 0, 0, 0)) E 3) else E) = E ++ F
    split
    · obtain ⟨F, hF⟩ := adT_pre S ls (E.getD i (0, 0, 0, 0)) E 3
      obtain ⟨G, hG⟩ := bfs_pre S ls k (i + 1) (adT S ls (E.getD i (0, 0, 0, 0)) E 3)
      exact ⟨F ++ G, by rw [hG, hF, List.append_assoc]⟩
    · exact ⟨[], (List.append_nil _).symm⟩
theorem BFS_root (S : Stg) (ls : Nat) : (rds (sN S), 0, 3, 0) ∈ BFS S ls := by
  obtain ⟨F, hF⟩ := bfs_pre S ls 50000 0 [(rds (sN S), 0, 3, 0)]
  unfold BFS
  rw [hF]
  exact List.mem_append_left _ (List.mem_singleton.mpr rfl)
theorem BM_tag {S : Stg} {ls : Nat} (h : VS S) {e : Ent} {tg : Nat} (he : e ∈ BFS S ls) (h2 : (e.1, tg) ∈ BM (BFS S ls)) : tg = e.2.2.1 := by
  obtain ⟨e', h3, h4⟩ := List.mem_map.mp h2
  have h5 : e'.1 = e.1 := congrArg (fun q : Nat × Nat => q.1) h4
  have h6 : e'.2.2.1 = tg := congrArg (fun q : Nat × Nat => q.2) h4
  rw [← h6, (WE_BFS h ls).uniq h3 he h5]
theorem BFS_tag3 {S : Stg} {ls : Nat} (h : VS S) {e : Ent} (he : e ∈ BFS S ls) (h0 : e.2.2.2 = 0) : e.2.2.1 = 3 := by
  rw [(WE_BFS h ls).uniq he (BFS_root S ls) ((WE_BFS h ls).1 e he h0)]
theorem BFS_key {S : Stg} {ls : Nat} {e : Ent} (he : e ∈ BFS S ls) : (e.1, e.2.2.1) ∈ BM (BFS S ls) := List.mem_map.mpr ⟨e, he, rfl⟩
theorem BFS_no {S : Stg} {ls x : Nat} (h : ∀ e ∈ BFS S ls, e.1 ≠ x) : x ∉ ksA (BM (BFS S ls)) := by
  rw [ksA_BM]
  intro q
  obtain ⟨e, h1, h2⟩ := List.mem_map.mp q
  exact h e h1 h2
theorem ksA_mem {M : Asc} {x t : Nat} (h : (x, t) ∈ M) : x ∈ ksA M := List.mem_map.mpr ⟨_, h, rfl⟩
theorem dep_len {S : Stg} (h : VS S) {ls : Nat} {e : Ent} (he : e ∈ BFS S ls) : e.2.2.2 < (BFS S ls).length := by
  obtain ⟨i, hi, rfl⟩ := List.getElem_of_mem he
  have h1 := (WE_BFS h ls).2.2.2.2 i hi
  rw [List.getD_eq_getElem?_getD, List.getElem?_eq_getElem hi] at h1
  exact Nat.lt_of_le_of_lt h1 hi
/-- one lead back -/
theorem anc_back {S : Stg} {ls k : Nat} (h : VS S) {e : Ent} (he : e ∈ BFS S ls) (hk : k < e.2.2.2) : (anc (BFS S ls) e k).2.2.1 ≤ 2 ∧ Pm (sN S) (anc (BFS S ls) e (k + 1)).1 ∧ led S (anc (BFS S ls) e k).2.2.1 (anc (BFS S ls) e (k + 1)).1 = (anc (BFS S ls) e k).1 := by
  have hW := WE_BFS h ls
  obtain ⟨h1, h2⟩ := anc_spec hW he k (by omega)
  obtain ⟨h3, h4⟩ := anc_spec hW he (k + 1) (by omega)
  obtain ⟨h5, h6, -⟩ := hW.2.1 _ h1 (by omega)
  refine ⟨h5, hW.2.2.2.1 _ h3, ?_⟩
  rw [anc_key hW he hk]
  exact h6
def pX8_letterFromEnd : Spc := fun As g Q => ∃ z iF aI aL S fl e bk, g = Cg z iF aI aL ∧ As = [.ref 23, .ref 14, .int (nI e.1), .int (nI bk)] ∧ VS S ∧ LD iF aI S ∧ (sC S).length ≠ 0 ∧ S7 S fl z iF aI aL ∧ e ∈ BFS S 7 ∧ bk < e.2.2.2 ∧ Q (some (.int (nI (anc (BFS S 7) e bk).2.2.1))) g
theorem oX8_letterFromEnd : Ok 2 yX8_letterFromEnd cX8_letterFromEnd 6 (some .int) pX8_letterFromEnd := by
  refine ok_all fun As g Q h => ?_
  obtain ⟨z, iF, aI, aL, S, fl, e, bk, rfl, rfl, hS, hD, h0, ⟨-, -, ⟨c, b, hM⟩, -⟩, he, hbk, hQ⟩ := h
  have hW := WE_BFS hS 7
  have hn := hS.1.2
  have hdl := dep_lt hS he
  have tag : ∀ k, k ≤ e.2.2.2 → ∀ tg, ((anc (BFS S 7) e k).1, tg) ∈ BM (BFS S 7) → tg = (anc (BFS S 7) e k).2.2.1 := fun k hk tg ht => BM_tag hS (anc_spec hW he k hk).1 ht
  have key : ∀ k, k ≤ e.2.2.2 → (anc (BFS S 7) e k).1 ∈ ksA (BM (BFS S 7)) := fun k hk => ksA_mem (BFS_key (anc_spec hW he k hk).1)
  have h24 : ∀ k, k ≤ e.2.2.2 → (anc (BFS S 7) e k).1 < 2 ^ 24 := fun k hk => (hW.2.2.2.1 _ (anc_spec hW he k hk).1).lt24 hn
  refine at_of (fun pc => pc == 6) 80 (fun k pc lv st g' => ∃ i, pc = 6 ∧ lv = [.ref 23, .ref 14, .int (nI e.1), .int (nI bk), .int (nI (anc (BFS S 7) e i).1), .int (nI i)] ∧ st = [] ∧ g' = Cg z iF aI aL ∧ k = 50000 - i ∧ i ≤ bk) (by decide) rfl sX8_letterFromEnd (nl (n := 4) rfl rfl rfl) ?_ ?_
  · exact ⟨50000, 0, rfl, rfl, rfl, rfl, rfl, Nat.zero_le _⟩
  · rintro k pc lv st g' ⟨i, rfl, rfl, rfl, rfl, rfl, hi⟩
    refine pk_le bk i (fun h => ?_) (fun h => ?_)
    · have ei : i = bk := by omega
      subst ei
      refine ⟨z, iF, aI, aL, 24, c, b, fl, _, _, rfl, Or.inr (Or.inl rfl), rfl, h24 i (by omega), hM, fun tg ht => ?_, fun q => absurd (key i (by omega)) q⟩
      rw [tag i (by omega) tg ht]
      exact hQ
    · refine ⟨z, iF, aI, aL, 24, c, b, fl, _, _, rfl, Or.inr (Or.inl rfl), rfl, h24 i (by omega), hM, fun tg ht => ?_, fun q => absurd (key i (by omega)) q⟩
      rw [tag i (by omega) tg ht]
      obtain ⟨b1, b2, b3⟩ := anc_back hS he (show i < e.2.2.2 by omega)
      refine ⟨z, iF, aI, aL, S, _, _, _, rfl, rfl, hS, hD, h0, b1, b2, b3, ?_⟩
      exact ⟨50000 - (i + 1), (by omega), i + 1, rfl, (by show [Value.ref 23, .ref 14, .int (nI e.1), .int (nI bk), _, .int (nI i + 1)] = _; rw [nI_1]), rfl, rfl, rfl, h⟩
def pX8_fewestLeads : Spc := fun As g Q => ∃ z iF aI aL S x fl, g = Cg z iF aI aL ∧ As = [.ref 23, .ref 14, .int (nI x)] ∧ VS S ∧ LD iF aI S ∧ (sC S).length ≠ 0 ∧ x < 2 ^ 24 ∧ SS S fl z iF aI aL ∧ fl + 1 < 2 ^ 30 ∧ ∀ z' iF' aI' aL' fl', fl' ≤ fl + 1 → SF 27 z iF aI aL z' iF' aI' aL' → S7 S fl' z' iF' aI' aL' → ((∀ e ∈ BFS S 7, e.1 ≠ x) → Q (some (.int (-6))) (Cg z' iF' aI' aL')) ∧ ∀ e ∈ BFS S 7, e.1 = x → Q (some (.int (nI e.2.2.2))) (Cg z' iF' aI' aL')
theorem oX8_fewestLeads : Ok 4 yX8_fewestLeads cX8_fewestLeads 6 (some .int) pX8_fewestLeads := by
  refine ok_all fun As g Q h => ?_
  obtain ⟨z, iF, aI, aL, S, x, fl, rfl, rfl, hS, hD, h0, hx, hSS, hfl, hQ⟩ := h
  have hW := WE_BFS hS 7
  have hn := hS.1.2
  have hlen := hW.len hn
  have hfc := fct_le _ hn
  refine at_of (fun pc => pc == 16 || pc == 21) 100 (fun k pc lv st g' => ∃ z' iF' aI' aL' fl', fl' ≤ fl + 1 ∧ SF 27 z iF aI aL z' iF' aI' aL' ∧ S7 S fl' z' iF' aI' aL' ∧ st = [] ∧ g' = Cg z' iF' aI' aL' ∧ ((pc = 16 ∧ lv = [.ref 23, .ref 14, .int (nI x), U_, U_, U_] ∧ k = 100000)
      ∨ (∃ w, pc = 21 ∧ lv = [.ref 23, .ref 14, .int (nI x), .int (nI x), .int 0, w] ∧ k = 60000 ∧ ∀ e ∈ BFS S 7, e.1 ≠ x)
      ∨ ∃ e bk w, e ∈ BFS S 7 ∧ e.1 = x ∧ pc = 21 ∧ lv = [.ref 23, .ref 14, .int (nI x), .int (nI (anc (BFS S 7) e bk).1), .int (nI bk), w] ∧ k = 60000 - bk ∧ bk ≤ e.2.2.2)) (by decide) rfl sX8_fewestLeads (nl (n := 3) rfl rfl rfl) ?_ ?_
  · obtain ⟨q1, q2, ⟨c, q3⟩, ⟨lf, q4, q5, q6⟩, q7⟩ := hSS
    refine pk_eq lf 7 (fun h => ?_) (fun h => ?_) q5
    · subst h
      exact ⟨100000, z, iF, aI, aL, fl, (by omega), SF.rf, ⟨q1, q2, (q6 rfl).1, (q6 rfl).2, q5, q7⟩, rfl, rfl, Or.inl ⟨rfl, rfl, rfl⟩⟩
    · refine ⟨z, iF, aI, aL, S, 7, c, fl, rfl, rfl, hS, hD, h0, (by omega), q1, q2, q3, hfl, fun z' iF' aI' aL' k1 k2 => ?_⟩
      have e27 : aI' 27 = aI 27 := (k1.2.2.2 27 (by omega) (by omega) (by omega) (by omega)).1
      exact ⟨100000, z', iF', aI', aL', fl + 1, Nat.le_refl _, k1.wk (Or.inr rfl), k2.S7 (by rw [e27]; exact q7), rfl, rfl, Or.inl ⟨rfl, rfl, rfl⟩⟩
  · rintro k pc lv st g' ⟨z', iF', aI', aL', fl', hf', hF, h7, rfl, rfl, hcase⟩
    obtain ⟨y1, y2⟩ := hQ z' iF' aI' aL' fl' hf' hF h7
    have hD' : LD iF' aI' S := hD.of (hF.2.2.1 14 (by omega) (by omega)) (hF.2.2.2 15 (by omega) (by omega) (by omega) (by omega)).1 ⟨rfl, rfl, rfl, rfl⟩
    have h7' := h7
    obtain ⟨-, -, ⟨c, b, hM⟩, hsz, -⟩ := h7'
    rcases hcase with ⟨rfl, rfl, rfl⟩ | ⟨w, rfl, rfl, rfl, hno⟩ | ⟨e, bk, w, he, hex, rfl, rfl, rfl, hbk⟩
    · by_cases hex : ∃ e ∈ BFS S 7, e.1 = x
      · obtain ⟨e, he, hex⟩ := hex
        exact ⟨60000, (by omega), z', iF', aI', aL', fl', hf', hF, h7, rfl, rfl, Or.inr (Or.inr ⟨e, 0, U_, he, hex, rfl, (by show [Value.ref 23, .ref 14, .int (nI x), .int (nI x), .int 0, U_] = [.ref 23, .ref 14, .int (nI x), .int (nI e.1), .int (nI 0), U_]; rw [hex]; rfl), rfl, Nat.zero_le _⟩)⟩
      · exact ⟨60000, (by omega), z', iF', aI', aL', fl', hf', hF, h7, rfl, rfl, Or.inr (Or.inl ⟨U_, rfl, rfl, rfl, fun e he q => hex ⟨e, he, q⟩⟩)⟩
    · have hpos := dep_len hS (BFS_root S 7)
      refine pk_le (BFS S 7).length 0 (fun h => absurd h (by omega)) (fun _ => ?_) hsz
      refine ⟨z', iF', aI', aL', 24, c, b, fl', _, x, rfl, Or.inr (Or.inl rfl), rfl, hx, hM, fun tg ht => absurd (ksA_mem ht) (BFS_no hno), fun _ => br_nt (by decide) (br_nf rfl (y1 hno))⟩
    · have hdl := dep_lt hS he
      have hdn := dep_len hS he
      obtain ⟨s1, s2⟩ := anc_spec hW he bk hbk
      refine pk_le (BFS S 7).length bk (fun h => absurd h (by omega)) (fun _ => ?_) hsz
      refine ⟨z', iF', aI', aL', 24, c, b, fl', _, _, rfl, Or.inr (Or.inl rfl), rfl, (hW.2.2.2.1 _ s1).lt24 hn, hM, fun tg ht => ?_, fun q => absurd (ksA_mem (BFS_key s1)) q⟩
      rw [BM_tag hS s1 ht]
      by_cases hd : bk = e.2.2.2
      · have t3 := BFS_tag3 hS s1 (by omega)
        rw [t3]
        refine br_nf rfl ?_
        have := y2 e he hex
        rw [← hd] at this
        exact this
      · obtain ⟨b1, b2, b3⟩ := anc_back hS he (show bk < e.2.2.2 by omega)
        refine pk_ne (anc (BFS S 7) e bk).2.2.1 3 (fun _ => ?_) (fun q => absurd q (by omega))
        refine br_nt (fun q => ?_) ?_
        · have := congrArg Int32.toInt q
          rw [nI_toInt (by omega)] at this
          have e6 : (-6 : Int32).toInt = -6 := by decide
          omega
        · refine ⟨z', iF', aI', aL', S, _, _, _, rfl, rfl, hS, hD', h0, b1, b2, b3, ?_⟩
          exact ⟨60000 - (bk + 1), (by omega), z', iF', aI', aL', fl', hf', hF, h7, rfl, rfl, Or.inr (Or.inr ⟨e, bk + 1, .int (nI (anc (BFS S 7) e bk).2.2.1), he, hex, rfl, (by show [Value.ref 23, .ref 14, .int (nI x), _, .int (nI bk + 1), _] = _; rw [nI_1]), rfl, (by omega)⟩)⟩

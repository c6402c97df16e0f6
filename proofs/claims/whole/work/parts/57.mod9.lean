/-! the reference: reached, by -/
def ansReached (S : Stg) (v : Int32) : Int32 := if v < 1 ∨ 7 < v then -2 else if (sC S).length = 0 then -3 else nI (BFS S v.toNatClampNeg).length
def pX11_reached : Spc := fun As g Q => ∃ L iF aI aL S sr v, g = Mg L iF aI aL ∧ As = [.ref 32, .int v] ∧ RS (aI 33) S ∧ VS S ∧ sr + 400 < 2 ^ 30 ∧ iF 32 17 = nI sr ∧ MI sr (aI 41) ∧ qry L iF aI aL sr Q (ansReached S v)
theorem oX11_reached : Ok 5 yX11_reached cX11_reached 2 (some .int) pX11_reached := by
  refine ok_all fun As g Q h => ?_
  obtain ⟨L, iF, aI, aL, S, sr, v, rfl, rfl, hR, hS, hsr, h17, hMI, hQ⟩ := h
  have hn := hS.1.2
  have hc := hS.2.1.1
  refine at_of (fun pc => false) 80 (fun m pc ls st g' => False) (by decide) rfl sX11_reached (nl (n := 2) rfl rfl rfl) ?_ (fun _ _ _ _ _ h => h.elim)
  have bad : (v < 1 ∨ 7 < v) → Q (some (.int (-2))) (Mg L iF aI aL) := fun hb => by
    unfold ansReached at hQ
    rw [if_pos hb] at hQ
    exact hQ iF aI sr agS.rf (fun _ _ => rfl) rfl (by omega) h17 hMI
  refine br_c (fun h1 => ?_) (fun h1 => ?_)
  · exact And.intro (Or.inl rfl) (br_nf rfl (bad (Or.inl h1)))
  · have h1 : ¬ v < 1 := h1
    refine br_c (fun h2 => ?_) (fun h2 => ?_)
    · exact And.intro (Or.inl rfl) (br_nf rfl (bad (Or.inr h2)))
    · have h2 : ¬ 7 < v := h2
      unfold ansReached at hQ
      rw [if_neg (fun z => z.elim h1 h2)] at hQ
      obtain ⟨w, hw, rfl⟩ : ∃ w, w ≤ 7 ∧ v = nI w := nI_of2 (M := 7) (n := 7) (by decide) (fun z => h1 (Int32.lt_of_lt_of_le z (by decide))) (Int32.not_lt.mp h2)
      refine And.intro (Or.inr rfl) (br_nt (by decide) ?_)
      refine And.intro (vp_in_nI (n := 1) (N := 85) (by omega) (by omega)) ?_
      refine And.intro (fun h3 => ?_) (fun h3 => ?_)
      · have h3 : ¬ aI 33 1 = 0 := h3
        rw [hR.2.1] at h3
        have h3 : (sC S).length ≠ 0 := fun e => h3 (by rw [e]; rfl)
        rw [if_neg h3, cl1 (by omega)] at hQ
        refine ⟨L, iF, aI, aL, S, sr, w, rfl, rfl, hR, hS, by omega, by omega, h17, hMI, fun iF' aI' g1 g2 g3 g4 g5 g6 g7 => ?_⟩
        show Q (some (.int (iF' 32 19))) (Mg L iF' aI' aL)
        rw [g5]
        exact hQ iF' aI' (sr + 1) g1 g2 (g3 4 (by decide) (by decide)) (by omega) g4 g6.MI
      · have h3 : aI 33 1 = 0 := h3
        rw [hR.2.1] at h3
        have h3 : (sC S).length = 0 := (nI_eq (b := 0) (by omega) (by omega)).mp h3
        rw [if_pos h3] at hQ
        exact hQ iF aI sr agS.rf (fun _ _ => rfl) rfl (by omega) h17 hMI
/-! entries of the search: each but the first has an entry ahead -/
def WE (S : Stg) (E : List Ent) : Prop := (∀ e ∈ E, e.2.2.2 = 0 → e.1 = rds (sN S)) ∧ (∀ e ∈ E, 0 < e.2.2.2 → e.2.2.1 ≤ 2 ∧ led S e.2.2.1 e.2.1 = e.1 ∧ ∃ e' ∈ E, e'.1 = e.2.1 ∧ e'.2.2.2 + 1 = e.2.2.2) ∧ (kys E).Nodup ∧ (∀ e ∈ E, Pm (sN S) e.1) ∧ DL E
theorem WE.ad {S : Stg} {E : List Ent} {k j : Nat} (h : WE S E) (hk : k < E.length) (hj : j ≤ 2) : WE S (ad E (led S j (E.getD k (0, 0, 0, 0)).1, (E.getD k (0, 0, 0, 0)).1, j, (E.getD k (0, 0, 0, 0)).2.2.2 + 1)) := by
  have hd := h.2.2.2.2.ad (e := (led S j (E.getD k (0, 0, 0, 0)).1, (E.getD k (0, 0, 0, 0)).1, j, (E.getD k (0, 0, 0, 0)).2.2.2 + 1)) hk (by have := h.2.2.2.2 k hk; show _ + 1 ≤ k + 1; omega)
  unfold Jvm.Pilot.CBellTouchesLaw_law_r3018_e1d17a.ad at hd ⊢
  split
  · exact h
  · rename_i hv
    rw [if_neg hv] at hd
    have hm := entD_mem hk
    refine ⟨fun e he h0 => ?_, fun e he h0 => ?_, ?_, fun e he => ?_, hd⟩
    · rcases List.mem_append.mp he with he | he
      · exact h.1 e he h0
      · rw [List.mem_singleton.mp he] at h0
        exact absurd h0 (Nat.succ_ne_zero _)
    · rcases List.mem_append.mp he with he | he
      · obtain ⟨a, b, e', c1, c2⟩ := h.2.1 e he h0
        exact ⟨a, b, e', List.mem_append_left _ c1, c2⟩
      · rw [List.mem_singleton.mp he]
        exact ⟨hj, rfl, _, List.mem_append_left _ hm, rfl, rfl⟩
    · rw [kys_app, List.nodup_append]
      refine ⟨h.2.2.1, by simp, fun a ha b hb => ?_⟩
      rw [List.mem_singleton.mp hb]
      intro e
      rw [e] at ha
      exact hv ha
    · rcases List.mem_append.mp he with he | he
      · exact h.2.2.2.1 e he
      · rw [List.mem_singleton.mp he]
        exact led_Pm (h.2.2.2.1 _ hm)
theorem WE.adT {S : Stg} {ls k : Nat} {E : List Ent} (h : WE S E) (hk : k < E.length) : ∀ j, j ≤ 3 → WE S (adT S ls (E.getD k (0, 0, 0, 0)) E j)
  | 0, _ => h
  | j + 1, hj => by
    have ih := WE.adT (S := S) (ls := ls) h hk j (by omega)
    show WE S (if bq ls j = true then Jvm.Pilot.CBellTouchesLaw_law_r3018_e1d17a.ad (Jvm.Pilot.CBellTouchesLaw_law_r3018_e1d17a.adT S ls (E.getD k (0, 0, 0, 0)) E j) _ else Jvm.Pilot.CBellTouchesLaw_law_r3018_e1d17a.adT S ls (E.getD k (0, 0, 0, 0)) E j)
    split
    · obtain ⟨F, hF⟩ := adT_pre S ls (E.getD k (0, 0, 0, 0)) E j
      have e1 : (Jvm.Pilot.CBellTouchesLaw_law_r3018_e1d17a.adT S ls (E.getD k (0, 0, 0, 0)) E j).getD k (0, 0, 0, 0) = E.getD k (0, 0, 0, 0) := by rw [hF, entD_pre hk]
      have := ih.ad (k := k) (j := j) (by rw [hF, List.length_append]; omega) (by omega)
      rw [e1] at this
      exact this
    · exact ih
theorem WE.bfs {S : Stg} {ls : Nat} : ∀ (k i : Nat) (E : List Ent), WE S E → WE S (bfs S ls k i E)
  | 0, _, _, h => h
  | k + 1, i, E, h => by
    show WE S (if i < E.length then Jvm.Pilot.CBellTouchesLaw_law_r3018_e1d17a.bfs S ls k (i + 1) _ else E)
    split
    · rename_i hi
      exact WE.bfs k (i + 1) _ (h.adT hi 3 (by omega))
    · exact h
theorem WE_BFS {S : Stg} (h : VS S) (ls : Nat) : WE S (BFS S ls) := by
  refine WE.bfs _ _ _ ⟨fun e he _ => ?_, fun e he h0 => ?_, ?_, fun e he => ?_, fun i hi => ?_⟩
  · rw [List.mem_singleton.mp he]
  · rw [List.mem_singleton.mp he] at h0; exact absurd h0 (Nat.lt_irrefl 0)
  · show [rds (sN S)].Nodup
    simp
  · rw [List.mem_singleton.mp he]; exact Pm_rds h.1.2
  · have e : i = 0 := by simp at hi; omega
    subst e
    exact Nat.le_refl 0
theorem WE.uniq {S : Stg} {E : List Ent} (h : WE S E) {e e' : Ent} (he : e ∈ E) (he' : e' ∈ E) (hk : e.1 = e'.1) : e = e' := by
  obtain ⟨i, hi, rfl⟩ := List.getElem_of_mem he
  obtain ⟨j, hj, rfl⟩ := List.getElem_of_mem he'
  have h1 : (kys E)[i]'(by rw [kys_len]; exact hi) = (kys E)[j]'(by rw [kys_len]; exact hj) := by
    unfold kys
    rw [List.getElem_map, List.getElem_map]
    exact hk
  have := (List.getElem_inj h.2.2.1).mp h1
  subst this
  rfl
/-- the entry ahead, and the k-th ahead -/
noncomputable def prd (E : List Ent) (e : Ent) : Ent := Classical.epsilon (fun e' => e' ∈ E ∧ e'.1 = e.2.1)
noncomputable def anc (E : List Ent) (e : Ent) : Nat → Ent
  | 0 => e
  | k + 1 => prd E (anc E e k)
theorem anc_spec {S : Stg} {E : List Ent} (h : WE S E) {e : Ent} (he : e ∈ E) : ∀ k, k ≤ e.2.2.2 → anc E e k ∈ E ∧ (anc E e k).2.2.2 + k = e.2.2.2
  | 0, _ => ⟨he, rfl⟩
  | k + 1, hk => by
    obtain ⟨h1, h2⟩ := anc_spec h he k (by omega)
    obtain ⟨-, -, e', c1, c2, c3⟩ := h.2.1 _ h1 (by omega)
    have h3 := Classical.epsilon_spec (p := fun e' => e' ∈ E ∧ e'.1 = (anc E e k).2.1) ⟨e', c1, c2⟩
    have h4 : prd E (anc E e k) = e' := h.uniq h3.1 c1 (by show (Classical.epsilon _ : Ent).1 = _; rw [h3.2, c2])
    show prd E (anc E e k) ∈ E ∧ (prd E (anc E e k)).2.2.2 + (k + 1) = _
    rw [h4]
    exact ⟨c1, by omega⟩
theorem anc_key {S : Stg} {E : List Ent} (h : WE S E) {e : Ent} (he : e ∈ E) {k : Nat} (hk : k < e.2.2.2) : (anc E e (k + 1)).1 = (anc E e k).2.1 := by
  obtain ⟨h1, h2⟩ := anc_spec h he k (by omega)
  obtain ⟨-, -, e', c1, c2, c3⟩ := h.2.1 _ h1 (by omega)
  exact (Classical.epsilon_spec (p := fun e' => e' ∈ E ∧ e'.1 = (anc E e k).2.1) ⟨e', c1, c2⟩).2
/-- what 'by' tells -/
def isBy (S : Stg) (v i r : Int32) : Prop :=
  ((∀ w, NV (sN S) w → v ≠ nI w) ∧ r = -2) ∨ ∃ w, NV (sN S) w ∧ v = nI w ∧ (((sC S).length = 0 ∧ r = -3) ∨ ((sC S).length ≠ 0 ∧ (((∀ e ∈ BFS S 7, e.1 ≠ ofN (sN S) w) ∧ r = -6) ∨ ∃ e ∈ BFS S 7, e.1 = ofN (sN S) w ∧ ((i = -1 ∧ r = nI e.2.2.2) ∨ (i ≠ -1 ∧ ((∃ d, d < e.2.2.2 ∧ i = nI d ∧ r = nI (anc (BFS S 7) e (e.2.2.2 - 1 - d)).2.2.1) ∨ ((∀ d, d < e.2.2.2 → i ≠ nI d) ∧ r = -6)))))))
theorem dep_lt {S : Stg} (h : VS S) {ls : Nat} {e : Ent} (he : e ∈ BFS S ls) : e.2.2.2 < 40320 := by
  have hW := WE_BFS h ls
  obtain ⟨i, hi, rfl⟩ := List.getElem_of_mem he
  have h1 := hW.2.2.2.2 i hi
  rw [List.getD_eq_getElem?_getD, List.getElem?_eq_getElem hi] at h1
  have h2 : (kys (BFS S ls)).length ≤ fct (sN S) := nodup_len (f := rk (sN S)) hW.2.2.1 (fun x _ => rk_lt h.1.2) (fun x hx y hy e => by
    obtain ⟨a, ha, rfl⟩ := List.mem_map.mp hx
    obtain ⟨b, hb, rfl⟩ := List.mem_map.mp hy
    exact rk_inj (hW.2.2.2.1 a ha) (hW.2.2.2.1 b hb) e)
  rw [kys_len] at h2
  have h3 := fct_le _ h.1.2
  have h1 : (BFS S ls)[i].2.2.2 ≤ i := h1
  omega
theorem isBy_uniq {S : Stg} (h : VS S) {v i r r' : Int32} (h1 : isBy S v i r) (h2 : isBy S v i r') : r = r' := by
  have nvlt : ∀ w, NV (sN S) w → w < 2 ^ 31 := fun w hw => by
    have := hw.1
    have := p108 h.1.2
    omega
  rcases h1 with ⟨a, rfl⟩ | ⟨w, hw, rfl, h1⟩
  · rcases h2 with ⟨_, rfl⟩ | ⟨w, hw, e, -⟩
    · rfl
    · exact absurd e (a w hw)
  · rcases h2 with ⟨a, -⟩ | ⟨w', hw', e, h2⟩
    · exact absurd rfl (a w hw)
    · have e := (nI_eq (nvlt w hw) (nvlt w' hw')).mp e
      subst e
      rcases h1 with ⟨k1, rfl⟩ | ⟨k1, h1⟩ <;> rcases h2 with ⟨k2, rfl⟩ | ⟨k2, h2⟩
      · rfl
      · exact absurd k1 k2
      · exact absurd k2 k1
      · rcases h1 with ⟨a1, rfl⟩ | ⟨e1, m1, x1, h1⟩ <;> rcases h2 with ⟨a2, rfl⟩ | ⟨e2, m2, x2, h2⟩
        · rfl
        · exact absurd x2 (a1 e2 m2)
        · exact absurd x1 (a2 e1 m1)
        · have e := (WE_BFS h 7).uniq m1 m2 (x1.trans x2.symm)
          subst e
          have hd := dep_lt h m1
          rcases h1 with ⟨b1, rfl⟩ | ⟨b1, h1⟩ <;> rcases h2 with ⟨b2, rfl⟩ | ⟨b2, h2⟩
          · rfl
          · exact absurd b1 b2
          · exact absurd b2 b1
          · rcases h1 with ⟨d1, l1, i1, rfl⟩ | ⟨c1, rfl⟩ <;> rcases h2 with ⟨d2, l2, i2, rfl⟩ | ⟨c2, rfl⟩
            · have := (nI_eq (by omega) (by omega)).mp (i1.symm.trans i2)
              subst this
              rfl
            · exact absurd i1 (c2 d1 l1)
            · exact absurd i2 (c1 d2 l2)
            · rfl
def pX11_by : Spc := fun As g Q => ∃ L iF aI aL S sr v i, g = Mg L iF aI aL ∧ As = [.ref 32, .int v, .int i] ∧ RS (aI 33) S ∧ VS S ∧ sr + 400 < 2 ^ 30 ∧ iF 32 17 = nI sr ∧ MI sr (aI 41) ∧ ∀ r, isBy S v i r → qry L iF aI aL sr Q r
set_option maxHeartbeats 4000000 in
theorem oX11_by : Ok 5 yX11_by cX11_by 5 (some .int) pX11_by := by
  refine ok_all fun As g Q h => ?_
  obtain ⟨L, iF, aI, aL, S, sr, v, i, rfl, rfl, hR, hS, hsr, h17, hMI, hQ⟩ := h
  have hn := hS.1.2
  have hc := hS.2.1.1
  have hfc := fct_le _ hn
  have hW := WE_BFS hS 7
  refine at_of (fun pc => pc == 84) 120 (fun m pc ls st g' => ∃ k e d w iF' aI', pc = 84 ∧ ls = [.ref 32, .int v, .int i, .int (nI (rk (sN S) e.1)), .int (nI (rk (sN S) (anc (BFS S 7) e k).1))] ∧ st = [] ∧ g' = Mg L iF' aI' aL ∧ m = 50000 - k ∧ e ∈ BFS S 7 ∧ d < e.2.2.2 ∧ k + d + 1 ≤ e.2.2.2 ∧ i = nI d ∧ i ≠ -1 ∧ NV (sN S) w ∧ v = nI w ∧ e.1 = ofN (sN S) w ∧ (sC S).length ≠ 0 ∧ agS aI aI' ∧ (∀ k, k ≠ 32 → iF' k = iF k) ∧ (∀ j, j ≠ 17 → j ≠ 19 → iF' 32 j = iF 32 j) ∧ iF' 32 17 = nI (sr + 1) ∧ MW (sN S) (sr + 1) (kys (BFS S 7)) (aI' 41) (aI' 42) ∧ BD (sN S) (BFS S 7) (aI' 45) (aI' 46) (aI' 47)) (by decide) rfl sX11_by (nl (n := 3) rfl rfl rfl) ?_ ?_
  · refine ⟨L, iF, aI, aL, sN S, v, rfl, rfl, hS.1.1, hn, hR.1, fun w f hw ev hf => ?_, fun f hno => ?_⟩
    · refine br_nt (by decide) ?_
      refine And.intro (vp_in_nI (n := 1) (N := 85) (by omega) (by omega)) ?_
      refine And.intro (fun h3 => ?_) (fun h3 => ?_)
      · have h3 : ¬ aI 33 1 = 0 := h3
        rw [hR.2.1] at h3
        have h3 : (sC S).length ≠ 0 := fun e => h3 (by rw [e]; rfl)
        have hP := (NV.row hn hw).1
        have hrl := rk_lt (x := ofN (sN S) w) hn
        refine ⟨L, iF, _, aL, sN S, ofN (sN S) w, rfl, rfl, hn, hR.1, hf, ?_⟩
        refine ⟨L, iF, _, aL, S, sr, 7, rfl, rfl, hR, hS, by omega, by omega, h17, hMI, fun iF' aI' g1 g2 g3 g4 g5 g6 g7 => ?_⟩
        have g1 : agS aI aI' := (agS.rf.up (by omega)).tr g1
        have q4 : iF' 32 4 = iF 32 4 := g3 4 (by decide) (by decide)
        have ir : vp_in (nI (rk (sN S) (ofN (sN S) w))) 40320 := vp_in_nI (by omega) (by omega)
        obtain ⟨c, c1, c2, c3⟩ := g6.2.2.1 (rk (sN S) (ofN (sN S) w)) (by omega)
        have em : aI' 41 (nI (rk (sN S) (ofN (sN S) w))).toNatClampNeg = nI c := by rw [cl1 (by omega)]; exact c2
        refine And.intro ir ?_
        refine br_c (fun h4 => ?_) (fun h4 => ?_)
        · have h4 : aI' 41 (nI (rk (sN S) (ofN (sN S) w))).toNatClampNeg = iF' 32 17 := h4
          rw [em, g4] at h4
          have h4 : c = sr + 1 := (nI_eq (by omega) (by omega)).mp h4
          obtain ⟨x, hx, ex⟩ := c3.mp h4
          have ex := rk_inj (g6.1 x hx) hP ex
          subst ex
          obtain ⟨e, he, ek⟩ := List.mem_map.mp hx
          have ek : e.1 = ofN (sN S) w := ek
          have hdl := dep_lt hS he
          have ed : aI' 47 (nI (rk (sN S) (ofN (sN S) w))).toNatClampNeg = nI e.2.2.2 := by rw [cl1 (by omega), ← ek]; exact (g7 e he).1
          refine And.intro (fun h5 => ?_) (fun h5 => ?_)
          · have h5 : ¬ i = -1 := h5
            have no : (∀ d, d < e.2.2.2 → i ≠ nI d) → Q (some (.int (-6))) (Mg L iF' aI' aL) := fun hno => hQ (-6) (Or.inr ⟨w, hw, ev, Or.inr ⟨h3, Or.inr ⟨e, he, ek, Or.inr ⟨h5, Or.inr ⟨hno, rfl⟩⟩⟩⟩⟩) iF' aI' (sr + 1) g1 g2 q4 (by omega) g4 g6.MI
            refine And.intro ir ?_
            refine br_c (fun h6 => ?_) (fun h6 => ?_)
            · have h6 : i < 0 := h6
              exact And.intro (Or.inl rfl) (br_nf rfl (no (fun d _ z => by rw [z] at h6; exact absurd h6 (nI_pos (by omega)))))
            · have h6 : ¬ i < 0 := h6
              obtain ⟨d, hd2, rfl⟩ := nI_of h6
              have e1 : aI' 47 (nI (rk (sN S) (ofN (sN S) w))).toNatClampNeg - 1 = nI e.2.2.2 - 1 := by rw [ed]
              have hlt : nI e.2.2.2 - 1 < nI d ↔ e.2.2.2 ≤ d := by
                rw [Int32.lt_iff_toInt_lt, show (1 : Int32) = nI 1 from rfl, pk_sub_toInt (by omega) (by omega), nI_toInt hd2]
                omega
              refine br_c (fun h7 => ?_) (fun h7 => ?_)
              · have h7 : aI' 47 (nI (rk (sN S) (ofN (sN S) w))).toNatClampNeg - 1 < nI d := h7
                rw [e1, hlt] at h7
                exact And.intro (Or.inl rfl) (br_nf rfl (no (fun d' hd' z => by have := (nI_eq hd2 (by omega)).mp z; omega)))
              · have h7 : ¬ aI' 47 (nI (rk (sN S) (ofN (sN S) w))).toNatClampNeg - 1 < nI d := h7
                rw [e1, hlt] at h7
                refine And.intro (Or.inr rfl) (br_nt (by decide) ?_)
                refine ⟨50000, 0, e, d, w, iF', aI', rfl, ?_, rfl, rfl, rfl, he, by omega, by omega, rfl, h5, hw, ev, ek, h3, g1, g2, g3, g4, g6, g7⟩
                show [Value.ref 32, .int v, .int (nI d), .int (nI (rk (sN S) (ofN (sN S) w))), .int (nI (rk (sN S) (ofN (sN S) w)))] = _
                rw [← ek]
                rfl
          · have h5 : i = -1 := h5
            refine And.intro ir ?_
            show Q (some (.int (aI' 47 (nI (rk (sN S) (ofN (sN S) w))).toNatClampNeg))) (Mg L iF' aI' aL)
            rw [ed]
            exact hQ _ (Or.inr ⟨w, hw, ev, Or.inr ⟨h3, Or.inr ⟨e, he, ek, Or.inl ⟨h5, rfl⟩⟩⟩⟩) iF' aI' (sr + 1) g1 g2 q4 (by omega) g4 g6.MI
        · have h4 : ¬ aI' 41 (nI (rk (sN S) (ofN (sN S) w))).toNatClampNeg = iF' 32 17 := h4
          rw [em, g4] at h4
          refine hQ (-6) (Or.inr ⟨w, hw, ev, Or.inr ⟨h3, Or.inl ⟨fun e he ek => h4 ?_, rfl⟩⟩⟩) iF' aI' (sr + 1) g1 g2 q4 (by omega) g4 g6.MI
          rw [c3.mpr ⟨e.1, mem_kys he, by rw [ek]⟩]
      · have h3 : aI 33 1 = 0 := h3
        rw [hR.2.1] at h3
        have h3 : (sC S).length = 0 := (nI_eq (b := 0) (by omega) (by omega)).mp h3
        exact hQ (-3) (Or.inr ⟨w, hw, ev, Or.inl ⟨h3, rfl⟩⟩) iF _ sr (agS.rf.up (by omega)) (fun _ _ => rfl) rfl (by omega) h17 hMI
    · refine br_nf rfl ?_
      exact hQ (-2) (Or.inl ⟨hno, rfl⟩) iF _ sr (agS.rf.up (by omega)) (fun _ _ => rfl) rfl (by omega) h17 hMI
  · rintro m pc ls st g' ⟨k, e, d, w, iF', aI', rfl, rfl, rfl, rfl, rfl, he, hd, hk, rfl, hi1, hw, ev, ek, hK, g1, g2, g3, g4, g6, g7⟩
    have hdl := dep_lt hS he
    obtain ⟨a1, a2⟩ := anc_spec hW he k (by omega)
    have hal := rk_lt (x := (anc (BFS S 7) e k).1) hn
    obtain ⟨b1, b2⟩ := g7 _ a1
    obtain ⟨b3, b4⟩ := b2 (by omega)
    have ir : vp_in (nI (rk (sN S) (anc (BFS S 7) e k).1)) 40320 := vp_in_nI (by omega) (by omega)
    have ed : aI' 47 (nI (rk (sN S) (anc (BFS S 7) e k).1)).toNatClampNeg = nI (anc (BFS S 7) e k).2.2.2 := by rw [cl1 (by omega)]; exact b1
    refine And.intro ir ?_
    refine br_c (fun h => ?_) (fun h => ?_)
    · have h : aI' 47 (nI (rk (sN S) (anc (BFS S 7) e k).1)).toNatClampNeg ≤ nI d + 1 := h
      rw [ed, nI_1] at h
      have h : (anc (BFS S 7) e k).2.2.2 ≤ d + 1 := (nI_leI (by omega) (by omega)).mp h
      have e2 : k = e.2.2.2 - 1 - d := by omega
      refine And.intro ir ?_
      show Q (some (.int (aI' 46 (nI (rk (sN S) (anc (BFS S 7) e k).1)).toNatClampNeg))) (Mg L iF' aI' aL)
      rw [cl1 (by omega), b4]
      exact hQ _ (Or.inr ⟨w, hw, ev, Or.inr ⟨hK, Or.inr ⟨e, he, ek, Or.inr ⟨hi1, Or.inl ⟨d, hd, rfl, by rw [← e2]⟩⟩⟩⟩⟩) iF' aI' (sr + 1) g1 g2 (g3 4 (by decide) (by decide)) (by omega) g4 g6.MI
    · have h : ¬ aI' 47 (nI (rk (sN S) (anc (BFS S 7) e k).1)).toNatClampNeg ≤ nI d + 1 := h
      rw [ed, nI_1] at h
      have h : ¬ (anc (BFS S 7) e k).2.2.2 ≤ d + 1 := fun z => h ((nI_leI (by omega) (by omega)).mpr z)
      refine And.intro ir ?_
      refine ⟨50000 - (k + 1), by omega, k + 1, e, d, w, iF', aI', rfl, ?_, rfl, rfl, rfl, he, hd, by omega, rfl, hi1, hw, ev, ek, hK, g1, g2, g3, g4, g6, g7⟩
      show [Value.ref 32, .int v, .int (nI d), .int (nI (rk (sN S) e.1)), .int (aI' 45 (nI (rk (sN S) (anc (BFS S 7) e k).1)).toNatClampNeg)] = _
      rw [cl1 (by omega), b3, ← anc_key hW he (by omega)]

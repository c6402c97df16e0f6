/-! leads can be undone; a letter comes back to rounds; the reference's search -/
theorem pigeon {N : Nat} {f : Nat → Nat} (h : ∀ q, q < N + 1 → f q < N) : ∃ p q, p < q ∧ q < N + 1 ∧ f p = f q := by
  by_cases hi : ∀ p q, p < N + 1 → q < N + 1 → f p = f q → p = q
  · have h1 := sm_perm (N + 1) f (fun q hq => by have := h q hq; omega) hi (fun v => if v = N then 1 else 0)
    rw [sm_one N (by omega), sm_zero (fun q hq => if_neg (by have := h q hq; omega))] at h1
    cases h1
  · have : ∃ p q, p < N + 1 ∧ q < N + 1 ∧ f p = f q ∧ p ≠ q := by
      apply Classical.byContradiction
      intro hn
      exact hi fun p q hp hq e => Classical.byContradiction fun hpq => hn ⟨p, q, hp, hq, e, hpq⟩
    obtain ⟨p, q, hp, hq, e, hne⟩ := this
    rcases Nat.lt_or_gt_of_ne hne with hlt | hlt
    · exact ⟨p, q, hlt, hq, e⟩
    · exact ⟨q, p, hlt, hp, e.symm⟩
theorem chg_inj {n m x y : Nat} (hx : x < 8 ^ n) (hy : y < 8 ^ n) (h : chg n m x = chg n m y) : x = y := by
  rw [← chg_chg (m := m) hx, h, chg_chg hy]
theorem rgTo_lt {S : Stg} {l x : Nat} (hx : x < 8 ^ sN S) : ∀ k, rgTo S l x k < 8 ^ sN S
  | 0 => hx
  | _ + 1 => chg_lt _ _ _
theorem rgTo_inj {S : Stg} {l x y : Nat} (hx : x < 8 ^ sN S) (hy : y < 8 ^ sN S) : ∀ k, rgTo S l x k = rgTo S l y k → x = y
  | 0, h => h
  | k + 1, h => rgTo_inj hx hy k (chg_inj (rgTo_lt hx k) (rgTo_lt hy k) h)
theorem led_inj {S : Stg} {l x y : Nat} (hx : x < 8 ^ sN S) (hy : y < 8 ^ sN S) (h : led S l x = led S l y) : x = y := rgTo_inj hx hy _ h
theorem led_Pm {S : Stg} {l x : Nat} (hx : Pm (sN S) x) : Pm (sN S) (led S l x) := rgTo_Pm hx _
/-- leads of one letter, from rounds on -/
def lpw (S : Stg) (l : Nat) : Nat → Nat
  | 0 => rds (sN S)
  | k + 1 => led S l (lpw S l k)
theorem lpw_Pm {S : Stg} (h : VS S) (l : Nat) : ∀ k, Pm (sN S) (lpw S l k)
  | 0 => Pm_rds h.1.2
  | k + 1 => led_Pm (lpw_Pm h l k)
theorem lpw_back {S : Stg} (h : VS S) (l : Nat) : ∀ p d, lpw S l p = lpw S l (p + d) → lpw S l d = rds (sN S)
  | 0, d, e => by rw [Nat.zero_add] at e; exact e.symm
  | p + 1, d, e => by
    refine lpw_back h l p d (led_inj (l := l) (lpw_Pm h l p).1 (lpw_Pm h l (p + d)).1 ?_)
    have e : led S l (lpw S l p) = lpw S l (p + 1 + d) := e
    rw [show p + 1 + d = (p + d) + 1 by omega] at e
    exact e
theorem lpw_ex {S : Stg} (h : VS S) (l : Nat) : ∃ k, 1 ≤ k ∧ k ≤ fct (sN S) ∧ lpw S l k = rds (sN S) ∧ ∀ j, 1 ≤ j → j < k → lpw S l j ≠ rds (sN S) := by
  obtain ⟨p, q, h1, h2, h3⟩ := pigeon (N := fct (sN S)) (f := fun k => rk (sN S) (lpw S l k)) (fun q _ => rk_lt h.1.2)
  have h4 := rk_inj (lpw_Pm h l p) (lpw_Pm h l q) h3
  rw [show q = p + (q - p) by omega] at h4
  have h5 := lpw_back h l p (q - p) h4
  have key : ∀ m, (∃ k, 1 ≤ k ∧ k ≤ m ∧ lpw S l k = rds (sN S)) → ∃ k, 1 ≤ k ∧ k ≤ m ∧ lpw S l k = rds (sN S) ∧ ∀ j, 1 ≤ j → j < k → lpw S l j ≠ rds (sN S) := by
    intro m
    induction m with
    | zero => rintro ⟨k, a, b, -⟩; omega
    | succ m ih =>
      rintro ⟨k, a, b, c⟩
      by_cases hm : ∃ k, 1 ≤ k ∧ k ≤ m ∧ lpw S l k = rds (sN S)
      · obtain ⟨k, a, b, c, d⟩ := ih hm
        exact ⟨k, a, by omega, c, d⟩
      · refine ⟨k, a, b, c, fun j j1 j2 e => hm ⟨j, j1, by omega, e⟩⟩
  exact key _ ⟨q - p, by omega, by omega, h5⟩
theorem nodup_len {N : Nat} {f : Nat → Nat} {V : List Nat} (hn : V.Nodup) (hf : ∀ x ∈ V, f x < N) (hi : ∀ x ∈ V, ∀ y ∈ V, f x = f y → x = y) : V.length ≤ N := by
  rcases Nat.lt_or_ge N V.length with h | h
  · exfalso
    obtain ⟨p, q, h1, h2, h3⟩ := pigeon (N := N) (f := fun i => f (V.getD i 0)) (fun i hi => hf _ (getD_mem (by omega)))
    have h4 := hi _ (getD_mem (show p < V.length by omega)) _ (getD_mem (show q < V.length by omega)) h3
    rw [List.getD_eq_getElem?_getD, List.getD_eq_getElem?_getD, List.getElem?_eq_getElem (show p < V.length by omega), List.getElem?_eq_getElem (show q < V.length by omega)] at h4
    have h5 : V[p]'(by omega) = V[q]'(by omega) := h4
    have := (List.getElem_inj hn).mp h5
    omega
  · exact h
/-- rows that were met, in order: V; the arrays met and wave, the counter sr -/
def MW (n sr : Nat) (V : List Nat) (met wave : Nat → Int32) : Prop := (∀ x ∈ V, Pm n x) ∧ V.Nodup ∧ (∀ r, r < 40320 → ∃ c, c ≤ sr ∧ met r = nI c ∧ (c = sr ↔ ∃ x, x ∈ V ∧ rk n x = r)) ∧ ∀ i, i < V.length → wave i = nI (rk n (V.getD i 0))
theorem MW.len {n sr : Nat} {V : List Nat} {met wave : Nat → Int32} (h : MW n sr V met wave) (hn : n ≤ 8) : V.length ≤ fct n := nodup_len h.2.1 (fun x _ => rk_lt hn) (fun x hx y hy e => rk_inj (h.1 x hx) (h.1 y hy) e)
theorem getD_app {V : List Nat} {x i : Nat} (h : i < V.length) : (V ++ [x]).getD i 0 = V.getD i 0 := by
  rw [List.getD_eq_getElem?_getD, List.getD_eq_getElem?_getD, List.getElem?_append_left h]
theorem getD_last {V : List Nat} {x : Nat} : (V ++ [x]).getD V.length 0 = x := by
  rw [List.getD_eq_getElem?_getD, List.getElem?_append_right (Nat.le_refl _), Nat.sub_self]
  rfl
theorem MW.add {n sr x : Nat} {V : List Nat} {met wave : Nat → Int32} (h : MW n sr V met wave) (hn : n ≤ 8) (hx : Pm n x) (hv : x ∉ V) : MW n sr (V ++ [x]) (up1 met (rk n x) (nI sr)) (up1 wave V.length (nI (rk n x))) ∧ V.length < 40320 := by
  have hm : MW n sr (V ++ [x]) (up1 met (rk n x) (nI sr)) (up1 wave V.length (nI (rk n x))) := by
    refine ⟨fun y hy => ?_, ?_, fun r hr => ?_, fun i hi => ?_⟩
    · rcases List.mem_append.mp hy with hy | hy
      · exact h.1 y hy
      · rw [List.mem_singleton.mp hy]; exact hx
    · rw [List.nodup_append]
      refine ⟨h.2.1, by simp, fun a ha b hb => ?_⟩
      rw [List.mem_singleton.mp hb]
      intro e
      rw [e] at ha
      exact hv ha
    · by_cases e : r = rk n x
      · subst e
        rw [up1_s]
        exact ⟨sr, Nat.le_refl _, rfl, fun _ => ⟨x, by simp, rfl⟩, fun _ => rfl⟩
      · rw [up1_n _ _ e]
        obtain ⟨c, c1, c2, c3⟩ := h.2.2.1 r hr
        refine ⟨c, c1, c2, c3.trans ⟨?_, ?_⟩⟩
        · rintro ⟨y, y1, y2⟩; exact ⟨y, by simp [y1], y2⟩
        · rintro ⟨y, y1, y2⟩
          rcases List.mem_append.mp y1 with hy | hy
          · exact ⟨y, hy, y2⟩
          · rw [List.mem_singleton.mp hy] at y2; exact absurd y2.symm e
    · rw [List.length_append] at hi
      by_cases e : i = V.length
      · subst e; rw [up1_s, getD_last]
      · have hi : i < V.length := by simp at hi; omega
        rw [up1_n _ _ e, getD_app hi]
        exact h.2.2.2 i hi
  refine ⟨hm, ?_⟩
  have h1 := hm.len hn
  have h2 := fct_le n hn
  rw [List.length_append] at h1
  simp at h1
  omega
/-- the store behind a meeting -/
def gM (g : Sto) (r : Nat) (sr k : Nat) : Sto := (g.1, up1 g.2.1 32 (up1 (g.2.1 32) 19 (nI (k + 1))), up1 (up1 g.2.2.1 41 (up1 (g.2.2.1 41) r (nI sr))) 42 (up1 (g.2.2.1 42) k (nI r)), g.2.2.2)
def qX11_meet : Spc := fun As g Q => ∃ L iF aI aL n sr V x, g = Mg L iF aI aL ∧ As = [.ref 32, .int (nI (rk n x))] ∧ n ≤ 8 ∧ sr < 2 ^ 30 ∧ Pm n x ∧ iF 32 17 = nI sr ∧ iF 32 19 = nI V.length ∧ MW n sr V (aI 41) (aI 42) ∧ (x ∈ V → Q (some (.int 0)) g) ∧ (x ∉ V → Q (some (.int 1)) (gM g (rk n x) sr V.length))
theorem rX11_meet : Ok 0 yX11_meet cX11_meet 2 (some .boolean) qX11_meet := by
  refine ok_weak (fun As g Q h => ?_) oX11_meet
  obtain ⟨L, iF, aI, aL, n, sr, V, x, rfl, rfl, hn, hsr, hx, h17, h19, hM, hQ1, hQ2⟩ := h
  have hr := rk_lt (x := x) hn
  have hf := fct_le n hn
  obtain ⟨c, c1, c2, c3⟩ := hM.2.2.1 (rk n x) (by omega)
  have e1 : aI 41 (nI (rk n x)).toNatClampNeg = nI c := by rw [cl1 (by omega)]; exact c2
  have ir : vp_in (nI (rk n x)) 40320 := vp_in_nI (by omega) (by omega)
  refine And.intro ir (And.intro (fun h => ?_) (fun h => ?_))
  · have h : ¬ aI 41 (nI (rk n x)).toNatClampNeg = iF 32 17 := h
    rw [e1, h17] at h
    have hv : x ∉ V := fun hv => h (by rw [c3.mpr ⟨x, hv, rfl⟩])
    obtain ⟨-, hl⟩ := hM.add hn hx hv
    refine And.intro ir (And.intro ?_ (And.intro (Or.inr rfl) ?_))
    · show vp_in (iF 32 19) 40320
      rw [h19]; exact vp_in_nI (by omega) (by omega)
    · have e := hQ2 hv
      show Q _ (SH (true, L), up1 iF 32 (up1 (iF 32) 19 (iF 32 19 + 1)), up1 (up1 aI 41 (up1 (aI 41) (nI (rk n x)).toNatClampNeg (iF 32 17))) 42 (up1 (up1 aI 41 (up1 (aI 41) (nI (rk n x)).toNatClampNeg (iF 32 17)) 42) (iF 32 19).toNatClampNeg (nI (rk n x))), aL)
      rw [h17, h19, cl1 (by omega), cl1 (by omega), nI_1]
      exact e
  · have h : aI 41 (nI (rk n x)).toNatClampNeg = iF 32 17 := h
    rw [e1, h17] at h
    have hc : c = sr := (nI_eq (by omega) (by omega)).mp h
    obtain ⟨y, y1, y2⟩ := c3.mp hc
    have e := rk_inj (hM.1 y y1) hx y2
    subst e
    exact And.intro (Or.inl rfl) (hQ1 y1)

/-! what the object is, and what each call answers -/
abbrev WS : Type := Stg × List Nat × Option Stg × Option Stg
abbrev wS (W : WS) : Stg := W.1
abbrev wP (W : WS) : List Nat := W.2.1
def wI (W : WS) (k : Nat) : Option Stg := if k = 0 then W.2.2.1 else W.2.2.2
def VW (W : WS) : Prop := VS (wS W) ∧ VP (wP W) ∧ ∀ k, ∀ S', wI W k = some S' → VS S'
def bgS (n : Nat) : Stg := (n, [], 18 + (if n % 2 = 1 then 2 ^ n else 0), 30 + (if n % 2 = 1 then 2 ^ n else 0), [])
def aBells (v : Int32) (W : WS) : Int32 × WS := if v < 4 ∨ 8 < v then (-2, W) else (nI (sN (wS W)), (bgS v.toNatClampNeg, W.2))
def aSay (v : Int32) (W : WS) : Int32 × WS := if v < 33 ∨ 126 < v then (-2, W) else if (wP W).length = 40 then (-4, W) else (nI ((wP W).length + 1), (W.1, wP W ++ [v.toNatClampNeg], W.2.2))
def aWipe (W : WS) : Int32 × WS := (nI (wP W).length, (W.1, [], W.2.2))
def aFault (v : Int32) (W : WS) : Int32 × WS := (if v = 0 then flt true (sN (wS W)) (wP W) else if v = 1 then flt false (sN (wS W)) (wP W) else if v = 2 then tfl (wP W) else -2, W)
/-- a whole text -/
def mok (mt : Bool) (n : Nat) (pd : List Nat) : Option Prs := match (rdP mt n pd 0 P0).2 with
  | some P => if cEnd n P.1 = true then some P else none
  | none => none
/-- the changes of a method that was read -/
def mch (P : Prs) : List Nat := match P.2.2 with
  | none => P.2.1
  | some k => (List.range (2 * k - 1)).map (fun j => P.2.1.getD (tb 0 k j) 0) ++ (List.range (2 * (P.2.1.length - k) - 1)).map (fun j => P.2.1.getD (tb k P.2.1.length j) 0)
def aMethod (W : WS) : Int32 × WS := match mok true (sN (wS W)) (wP W) with
  | none => (-7, W)
  | some P => if 40 < (mch P).length then (-4, W) else (nI (mch P).length, ((sN (wS W), mch P, (wS W).2.2), [], W.2.2))
def aCall (v : Int32) (W : WS) : Int32 × WS := if v < 0 ∨ 1 < v then (-2, W) else match mok false (sN (wS W)) (wP W) with
  | none => (-7, W)
  | some P => (nI (pct (P.2.1.getD 0 0) 8), ((if v = 0 then (sN (wS W), sC (wS W), P.2.1.getD 0 0, sS (wS W), sL (wS W)) else (sN (wS W), sC (wS W), sB (wS W), P.2.1.getD 0 0, sL (wS W))), [], W.2.2))
def tlt (pd : List Nat) : List Nat := pd.map (fun s => (kd s).getD 0)
def aTouch (W : WS) : Int32 × WS := if tfl (wP W) = -6 then (nI (wP W).length, ((sN (wS W), sC (wS W), sB (wS W), sS (wS W), tlt (wP W)), [], W.2.2)) else (-7, W)
def aChange (i : Int32) (W : WS) : Int32 × WS := (if i = -1 then nI (sB (wS W)) else if i = -2 then nI (sS (wS W)) else if i < 0 ∨ nI (sC (wS W)).length ≤ i then -6 else nI ((sC (wS W)).getD i.toNatClampNeg 0), W)
def rdy (S : Stg) : Bool := decide ((sC S).length ≠ 0 ∧ (sL S).length ≠ 0)
def aRow (i : Int32) (W : WS) : Int32 × WS := (if rdy (wS W) = false then -3 else if i < 0 ∨ nI (tln (wS W)) < i then -6 else nI (num (sN (wS W)) (trw (wS W) i.toNatClampNeg)), W)
def tol (S : Stg) (w : Int32) : Int32 := if w = 0 then nI (tln S) else if w = 1 then (if fstI (isF (trw S)) 1 (tln S) = -6 then 1 else 0) else if w = 2 then nI (sm (fun i => if isF (trw S) i = true then 1 else 0) (tln S + 1)) else if w = 3 then fstI (isF (trw S)) 1 (tln S) else if w = 4 then fstI (fun i => trw S i == rds (sN S)) 1 (tln S) else if w = 5 then nI (sm (fun i => if 1 ≤ i ∧ lik (sN S) (trw S i) = true then 1 else 0) (tln S + 1)) else nI (sL S).length
def aTold (w : Int32) (W : WS) : Int32 × WS := (if w < 0 ∨ 6 < w then -2 else if rdy (wS W) = false then -3 else tol (wS W) w, W)
/-- the place of a bell in a row -/
def plc (n x v : Nat) : Nat := match (List.range n).find? (fun p => dg x p == v) with
  | some p => p
  | none => 0
def aBell (b i w : Int32) (W : WS) : Int32 × WS := (if b < 1 ∨ nI (sN (wS W)) < b then -1 else if w < 0 ∨ 3 < w then -2 else if rdy (wS W) = false then -3 else if w = 0 then (if i < 0 ∨ nI (tln (wS W)) < i then -6 else nI (plc (sN (wS W)) (trw (wS W) i.toNatClampNeg) (b.toNatClampNeg - 1) + 1)) else nI (gws (fun i => plc (sN (wS W)) (trw (wS W) i) (b.toNatClampNeg - 1)) (tln (wS W)) w.toNatClampNeg), W)
theorem ord_ex (S : Stg) (l : Nat) : ∃ k, VS S → 1 ≤ k ∧ k ≤ fct (sN S) ∧ lpw S l k = rds (sN S) ∧ ∀ j, 1 ≤ j → j < k → lpw S l j ≠ rds (sN S) := by
  by_cases h : VS S
  · obtain ⟨k, hk⟩ := lpw_ex h l
    exact ⟨k, fun _ => hk⟩
  · exact ⟨0, fun z => absurd z h⟩
noncomputable def ord (S : Stg) (l : Nat) : Nat := Classical.choose (ord_ex S l)
theorem ord_spec {S : Stg} (h : VS S) (l : Nat) : 1 ≤ ord S l ∧ ord S l ≤ fct (sN S) ∧ lpw S l (ord S l) = rds (sN S) ∧ ∀ j, 1 ≤ j → j < ord S l → lpw S l j ≠ rds (sN S) := Classical.choose_spec (ord_ex S l) h
noncomputable def aHead (l w : Int32) (W : WS) : Int32 × WS := (if l < 0 ∨ 2 < l ∨ w < 0 ∨ 1 < w then -2 else if (sC (wS W)).length = 0 then -3 else if w = 0 then nI (num (sN (wS W)) (led (wS W) l.toNatClampNeg (rds (sN (wS W))))) else nI (ord (wS W) l.toNatClampNeg), W)
noncomputable def aFH (i : Int32) (W : WS) : Int32 × WS := (if (sC (wS W)).length = 0 then -3 else fhA (wS W) i, W)
def aReached (v : Int32) (W : WS) : Int32 × WS := (ansReached (wS W) v, W)
noncomputable def aBy (v i : Int32) (W : WS) : Int32 × WS := (Classical.epsilon (isBy (wS W) v i), W)
noncomputable def aLong (v i : Int32) (W : WS) : Int32 × WS := (ansLong (wS W) v i, W)
def aImage (k : Int32) (W : WS) : Int32 × WS := if k < 0 ∨ 1 < k then (-2, W) else (1, (W.1, W.2.1, if k = 0 then (some W.1, W.2.2.2) else (W.2.2.1, some W.1)))
def aRestore (k : Int32) (W : WS) : Int32 × WS := if k < 0 ∨ 1 < k then (-2, W) else match wI W k.toNatClampNeg with
  | none => (-3, W)
  | some S' => (1, (S', W.2))
def ikp (W : WS) : Nat := (if W.2.2.1.isSome = true then 1 else 0) + (if W.2.2.2.isSome = true then 2 else 0)
def aCount (v : Int32) (W : WS) : Int32 × WS := (if v = 0 then nI (sN (wS W)) else if v = 1 then nI (sC (wS W)).length else if v = 2 then nI (sL (wS W)).length else if v = 3 then nI (wP W).length else if v = 4 then nI (ikp W) else -2, W)
theorem isBy_eps {S : Stg} (h : VS S) {v i r : Int32} (hr : isBy S v i r) : r = Classical.epsilon (isBy S v i) := isBy_uniq h hr (Classical.epsilon_spec ⟨r, hr⟩)
theorem plc_spec {n x v : Nat} (hx : Pm n x) (hv : v < n) : plc n x v < n ∧ dg x (plc n x v) = v := by
  obtain ⟨p, hp, hd⟩ := hx.onto hv
  unfold plc
  cases e : (List.range n).find? (fun p => dg x p == v) with
  | none =>
    have := List.find?_eq_none.mp e p (List.mem_range.mpr hp)
    simp [hd] at this
  | some q =>
    have h1 := List.find?_some e
    have h2 := List.mem_of_find?_eq_some e
    exact ⟨List.mem_range.mp h2, (by simpa using h1)⟩
theorem VM_bg : ∀ n, 4 ≤ n → n ≤ 8 → VM n (18 + (if n % 2 = 1 then 2 ^ n else 0)) ∧ VM n (30 + (if n % 2 = 1 then 2 ^ n else 0)) := by
  intro n h1 h2
  have : n = 4 ∨ n = 5 ∨ n = 6 ∨ n = 7 ∨ n = 8 := by omega
  rcases this with rfl | rfl | rfl | rfl | rfl <;> (unfold VM; decide)
theorem VS_bg {n : Nat} (h1 : 4 ≤ n) (h2 : n ≤ 8) : VS (bgS n) := ⟨⟨h1, h2⟩, ⟨Nat.zero_le _, fun m h => absurd h List.not_mem_nil⟩, (VM_bg n h1 h2).1, (VM_bg n h1 h2).2, Nat.zero_le _, fun m h => absurd h List.not_mem_nil⟩
theorem mok_PV {mt : Bool} {n : Nat} {pd : List Nat} {P : Prs} (hn : n ≤ 8) (hn4 : 4 ≤ n) (h : mok mt n pd = some P) : (rdP mt n pd 0 P0).2 = some P ∧ PV n pd.length P ∧ cEnd n P.1 = true := by
  unfold mok at h
  cases e : (rdP mt n pd 0 P0).2 with
  | none => rw [e] at h; cases h
  | some P1 =>
    rw [e] at h
    have h : (if cEnd n P1.1 = true then some P1 else none) = some P := h
    split at h
    · cases h
      have := (rdP_PV hn hn4 pd 0 P0 _ (PVP0 n) e).1
      rw [Nat.zero_add] at this
      exact ⟨rfl, this, (by assumption)⟩
    · cases h
theorem cEnd_ne {n : Nat} {P : Prs} (h : cEnd n P.1 = true) : P.1 ≠ 0 ∧ P.1 ≠ 102 ∧ P.1 ≠ 101 := by
  simp only [cEnd, Bool.or_eq_true, Bool.and_eq_true, decide_eq_true_eq] at h
  omega
theorem mch_len {n i : Nat} {P : Prs} (h : PV n i P) (he : cEnd n P.1 = true) : (P.2.2 = none → (mch P).length = P.2.1.length) ∧ ∀ k, P.2.2 = some k → 1 ≤ k ∧ k < P.2.1.length ∧ (mch P).length = 2 * P.2.1.length - 2 := by
  refine ⟨fun e => (by unfold mch; rw [e]), fun k e => ?_⟩
  obtain ⟨b1, b2, b3⟩ := h.2.2.2.1 k e
  have hk : k < P.2.1.length := by
    have := (cEnd_ne he).2.1
    have : k ≠ P.2.1.length := fun z => this (b3.mpr z)
    omega
  refine ⟨b1, hk, ?_⟩
  unfold mch
  rw [e]
  simp only [List.length_append, List.length_map, List.length_range]
  omega
theorem mch_VM {n i : Nat} {P : Prs} (hn : n ≤ 8) (h : PV n i P) (he : cEnd n P.1 = true) : ∀ m ∈ mch P, VM n m := by
  have hall := h.all hn he
  intro m hm
  unfold mch at hm
  split at hm
  · obtain ⟨j, hj, rfl⟩ := List.getElem_of_mem hm
    have := hall j hj
    rw [List.getD_eq_getElem?_getD, List.getElem?_eq_getElem hj] at this
    exact this
  · rename_i k hk
    obtain ⟨b1, b2, -⟩ := (mch_len h he).2 k hk
    rw [List.mem_append, List.mem_map, List.mem_map] at hm
    rcases hm with ⟨j, hj, rfl⟩ | ⟨j, hj, rfl⟩
    · have hj := List.mem_range.mp hj
      exact hall _ (by unfold tb; split <;> omega)
    · have hj := List.mem_range.mp hj
      exact hall _ (by unfold tb; split <;> omega)
theorem kd_le {s l : Nat} (e : kd s = some l) : l ≤ 2 := by
  unfold kd at e
  split at e
  · cases e; omega
  · split at e
    · cases e; omega
    · split at e
      · cases e; omega
      · cases e
theorem tlt_le (pd : List Nat) : ∀ l ∈ tlt pd, l ≤ 2 := by
  intro l hl
  obtain ⟨s, -, rfl⟩ := List.mem_map.mp hl
  show (kd s).getD 0 ≤ 2
  cases e : kd s with
  | none => exact Nat.zero_le 2
  | some l => exact kd_le e
theorem clamp_lt {v : Int32} {b : Nat} (hb : b < 2 ^ 31) (h : ¬ nI b < v) : v.toNatClampNeg ≤ b := by
  have h : ¬ (nI b).toInt < v.toInt := fun z => h (Int32.lt_iff_toInt_lt.mpr z)
  rw [nI_toInt hb] at h
  have : v.toNatClampNeg = v.toInt.toNat := rfl
  omega
theorem clamp_ge {v : Int32} {a : Nat} (ha : a < 2 ^ 31) (h : ¬ v < nI a) : a ≤ v.toNatClampNeg ∧ v = nI v.toNatClampNeg := by
  have h : ¬ v.toInt < (nI a).toInt := fun z => h (Int32.lt_iff_toInt_lt.mpr z)
  rw [nI_toInt ha] at h
  have e : v.toNatClampNeg = v.toInt.toNat := rfl
  refine ⟨(by omega), ?_⟩
  rw [← Int32.toInt_inj]
  have := Int32.toInt_lt v
  rw [nI_toInt (by omega)]
  omega
theorem VW_set {W : WS} (h : VW W) {S : Stg} {pd : List Nat} (hS : VS S) (hp : VP pd) : VW (S, pd, W.2.2) := ⟨hS, hp, h.2.2⟩
theorem VP_nil : VP [] := ⟨Nat.zero_le _, fun s h => absurd h List.not_mem_nil⟩
theorem VW_bells {v : Int32} {W : WS} (h : VW W) : VW (aBells v W).2 := by
  unfold aBells
  split
  · exact h
  · rename_i z
    exact VW_set h (VS_bg (clamp_ge (a := 4) (by omega) (fun q => z (Or.inl q))).1 (clamp_lt (b := 8) (by omega) (fun q => z (Or.inr q)))) h.2.1
theorem VW_say {v : Int32} {W : WS} (h : VW W) : VW (aSay v W).2 := by
  unfold aSay
  split
  · exact h
  · rename_i z
    split
    · exact h
    · rename_i z2
      refine VW_set h h.1 ⟨?_, fun s hs => ?_⟩
      · have := h.2.1.1
        rw [List.length_append]
        show (wP W).length + 1 ≤ 40
        omega
      · rcases List.mem_append.mp hs with q | q
        · exact h.2.1.2 s q
        · rw [List.mem_singleton.mp q]
          have := clamp_lt (v := v) (b := 126) (by omega) (fun q => z (Or.inr q))
          omega
theorem VW_wipe {W : WS} (h : VW W) : VW (aWipe W).2 := VW_set h h.1 VP_nil
theorem VW_method {W : WS} (h : VW W) : VW (aMethod W).2 := by
  unfold aMethod
  split
  · exact h
  · rename_i P hP
    obtain ⟨h1, h2, h3⟩ := mok_PV h.1.1.2 h.1.1.1 hP
    split
    · exact h
    · rename_i z
      exact VW_set h ⟨h.1.1, ⟨(by show (mch P).length ≤ 40; omega), mch_VM h.1.1.2 h2 h3⟩, h.1.2.2⟩ VP_nil
theorem mok_1 {n : Nat} {pd : List Nat} {P : Prs} {mt : Bool} (hn : n ≤ 8) (hn4 : 4 ≤ n) (h : mok mt n pd = some P) : 0 < P.2.1.length ∧ VM n (P.2.1.getD 0 0) := by
  obtain ⟨h1, h2, h3⟩ := mok_PV hn hn4 h
  have := h2.2.2.2.2.2.1 (cEnd_ne h3).1
  exact ⟨(by omega), h2.all hn h3 0 (by omega)⟩
theorem VW_call {v : Int32} {W : WS} (h : VW W) : VW (aCall v W).2 := by
  unfold aCall
  split
  · exact h
  · split
    · exact h
    · rename_i P hP
      have hm := (mok_1 h.1.1.2 h.1.1.1 hP).2
      refine VW_set h ?_ VP_nil
      split
      · exact ⟨h.1.1, h.1.2.1, hm, h.1.2.2.2.1, h.1.2.2.2.2⟩
      · exact ⟨h.1.1, h.1.2.1, h.1.2.2.1, hm, h.1.2.2.2.2⟩
theorem VW_touch {W : WS} (h : VW W) : VW (aTouch W).2 := by
  unfold aTouch
  split
  · exact VW_set h ⟨h.1.1, h.1.2.1, h.1.2.2.1, h.1.2.2.2.1, (by show (tlt (wP W)).length ≤ 40; unfold tlt; rw [List.length_map]; exact h.2.1.1), tlt_le _⟩ VP_nil
  · exact h
theorem VW_image {v : Int32} {W : WS} (h : VW W) : VW (aImage v W).2 := by
  unfold aImage
  split
  · exact h
  · refine ⟨h.1, h.2.1, fun k S' e => ?_⟩
    unfold wI at e
    split at e
    · split at e
      · cases e; exact h.1
      · exact h.2.2 0 S' e
    · split at e
      · exact h.2.2 1 S' e
      · cases e; exact h.1
theorem VW_restore {v : Int32} {W : WS} (h : VW W) : VW (aRestore v W).2 := by
  unfold aRestore
  split
  · exact h
  · split
    · exact h
    · rename_i S' e
      exact VW_set h (h.2.2 _ S' e) h.2.1

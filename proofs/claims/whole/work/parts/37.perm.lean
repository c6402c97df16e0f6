/-! sums, permutations, ranks -/
def sm (f : Nat → Nat) : Nat → Nat
  | 0 => 0
  | n + 1 => sm f n + f n
theorem sm_congr {f g : Nat → Nat} : ∀ {n : Nat}, (∀ q, q < n → f q = g q) → sm f n = sm g n
  | 0, _ => rfl
  | n + 1, h => by
    show sm f n + f n = sm g n + g n
    rw [sm_congr (n := n) (fun q hq => h q (by omega)), h n (by omega)]
theorem sm_zero {f : Nat → Nat} : ∀ {n : Nat}, (∀ q, q < n → f q = 0) → sm f n = 0
  | 0, _ => rfl
  | n + 1, h => by
    show sm f n + f n = 0
    rw [sm_zero (n := n) (fun q hq => h q (by omega)), h n (by omega)]
theorem sm_up {f g : Nat → Nat} {a : Nat} (h : ∀ q, q ≠ a → f q = g q) : ∀ {n : Nat}, a < n → sm f n + g a = sm g n + f a
  | 0, ha => by omega
  | n + 1, ha => by
    show sm f n + f n + g a = sm g n + g n + f a
    by_cases e : a = n
    · subst e
      rw [sm_congr (n := a) (fun q hq => h q (by omega))]
      omega
    · have := sm_up h (n := n) (by omega)
      rw [h n (fun q => e q.symm)]
      omega
theorem sm_le {f g : Nat → Nat} : ∀ {n : Nat}, (∀ q, q < n → f q ≤ g q) → sm f n ≤ sm g n
  | 0, _ => Nat.le_refl 0
  | n + 1, h => by
    have h1 := sm_le (n := n) (fun q hq => h q (by omega))
    have h2 := h n (by omega)
    show sm f n + f n ≤ sm g n + g n
    omega
theorem sm_mono {f : Nat → Nat} {a b : Nat} (h : a ≤ b) : sm f a ≤ sm f b := by
  induction b with
  | zero => rw [Nat.le_zero.mp h]; exact Nat.le_refl _
  | succ b ih =>
    by_cases e : a = b + 1
    · rw [e]; exact Nat.le_refl _
    · have := ih (by omega)
      show sm f a ≤ sm f b + f b
      omega
theorem sm_perm : ∀ (n : Nat) (f : Nat → Nat), (∀ q, q < n → f q < n) → (∀ p q, p < n → q < n → f p = f q → p = q) → ∀ g : Nat → Nat, sm (fun q => g (f q)) n = sm g n
  | 0, _, _, _, _ => rfl
  | n + 1, f, hl, hi, g => by
    show sm (fun q => g (f q)) n + g (f n) = sm g n + g n
    by_cases ha : f n = n
    · have h1 : ∀ q, q < n → f q < n := fun q hq => by
        have := hl q (by omega)
        have h2 : f q ≠ n := fun e => by have := hi q n (by omega) (by omega) (by rw [e, ha]); omega
        omega
      rw [sm_perm n f h1 (fun p q hp hq => hi p q (by omega) (by omega)) g, ha]
    · have han : f n < n := by have := hl n (by omega); omega
      have h1 : ∀ q, q < n → (fun q => if f q = n then f n else f q) q < n := fun q hq => by
        show (if f q = n then f n else f q) < n
        split
        · exact han
        · have := hl q (by omega); omega
      have h2 : ∀ p q, p < n → q < n → (fun q => if f q = n then f n else f q) p = (fun q => if f q = n then f n else f q) q → p = q := by
        intro p q hp hq e
        have e : (if f p = n then f n else f p) = (if f q = n then f n else f q) := e
        split at e <;> split at e
        · rename_i a b
          exact hi p q (by omega) (by omega) (a.trans b.symm)
        · have := hi n q (by omega) (by omega) e
          omega
        · have := hi p n (by omega) (by omega) e
          omega
        · exact hi p q (by omega) (by omega) e
      have ih := sm_perm n _ h1 h2 (fun v => if v = f n then g n else g v)
      have e1 : sm (fun q => (fun v => if v = f n then g n else g v) ((fun q => if f q = n then f n else f q) q)) n = sm (fun q => g (f q)) n := by
        refine sm_congr fun q hq => ?_
        show (if (if f q = n then f n else f q) = f n then g n else g (if f q = n then f n else f q)) = g (f q)
        by_cases e : f q = n
        · rw [if_pos e, if_pos rfl, e]
        · rw [if_neg e, if_neg (fun e2 => by have := hi q n (by omega) (by omega) e2; omega)]
      rw [e1] at ih
      rw [ih]
      have := sm_up (f := fun v => if v = f n then g n else g v) (g := g) (a := f n) (fun q hq => if_neg hq) han
      rw [if_pos rfl] at this
      exact this
theorem sm_pos {f : Nat → Nat} : ∀ {n : Nat}, 0 < sm f n → ∃ q, q < n ∧ 0 < f q
  | 0, h => absurd h (Nat.lt_irrefl 0)
  | n + 1, h => by
    have h : 0 < sm f n + f n := h
    by_cases e : 0 < f n
    · exact ⟨n, by omega, e⟩
    · obtain ⟨q, h1, h2⟩ := sm_pos (n := n) (f := f) (by omega)
      exact ⟨q, by omega, h2⟩
theorem sm_one (a : Nat) {n : Nat} (h : a < n) : sm (fun v => if v = a then 1 else 0) n = 1 := by
  have := sm_up (f := fun v => if v = a then 1 else 0) (g := fun _ => 0) (a := a) (fun q hq => if_neg hq) h
  rw [if_pos rfl, sm_zero (f := fun _ => 0) (fun _ _ => rfl)] at this
  omega
/-- a row of n bells -/
def Pm (n x : Nat) : Prop := x < 8 ^ n ∧ (∀ p, p < n → dg x p < n) ∧ ∀ p q, p < n → q < n → dg x p = dg x q → p = q
theorem Pm.onto {n x v : Nat} (h : Pm n x) (hv : v < n) : ∃ p, p < n ∧ dg x p = v := by
  have h1 := sm_perm n (dg x) h.2.1 h.2.2 (fun w => if w = v then 1 else 0)
  rw [sm_one v hv] at h1
  obtain ⟨p, hp, h2⟩ := sm_pos (f := fun q => (fun w => if w = v then 1 else 0) (dg x q)) (n := n) (by rw [h1]; decide)
  refine ⟨p, hp, ?_⟩
  have h2 : 0 < if dg x p = v then 1 else 0 := h2
  split at h2
  · assumption
  · omega
/-- lesser bells behind -/
def lct (x i n : Nat) : Nat := sm (fun q => if i < q ∧ dg x q < dg x i then 1 else 0) n
def usd (x i v : Nat) : Bool := (List.range i).any (fun q => dg x q == v)
theorem usd_iff {x i v : Nat} : usd x i v = true ↔ ∃ q, q < i ∧ dg x q = v := by
  unfold usd
  rw [List.any_eq_true]
  constructor
  · rintro ⟨q, h1, h2⟩; exact ⟨q, List.mem_range.mp h1, beq_iff_eq.mp h2⟩
  · rintro ⟨q, h1, h2⟩; exact ⟨q, List.mem_range.mpr h1, beq_iff_eq.mpr h2⟩
/-- bells not yet used below v -/
def uct (x i v : Nat) : Nat := sm (fun v => if usd x i v = true then 0 else 1) v
theorem lct_uct {n x i : Nat} (h : Pm n x) (hi : i < n) : lct x i n = uct x i (dg x i) := by
  have h1 := sm_perm n (dg x) h.2.1 h.2.2 (fun v => if v < dg x i ∧ ¬ usd x (i + 1) v = true then 1 else 0)
  have e1 : lct x i n = sm (fun q => (fun v => if v < dg x i ∧ ¬ usd x (i + 1) v = true then 1 else 0) (dg x q)) n := by
    refine sm_congr fun q hq => ?_
    show (if i < q ∧ dg x q < dg x i then 1 else 0) = (if dg x q < dg x i ∧ ¬ usd x (i + 1) (dg x q) = true then 1 else 0)
    congr 1
    apply propext
    constructor
    · rintro ⟨a, b⟩
      refine ⟨b, fun hu => ?_⟩
      obtain ⟨r, hr, er⟩ := usd_iff.mp hu
      have := h.2.2 r q (by omega) hq er
      omega
    · rintro ⟨a, b⟩
      refine ⟨?_, a⟩
      rcases Nat.lt_or_ge i q with c | c
      · exact c
      · exact absurd (usd_iff.mpr ⟨q, by omega, rfl⟩) b
  rw [e1, h1]
  have hd := h.2.1 i hi
  unfold uct
  have key : ∀ m, dg x i ≤ m → sm (fun v => if v < dg x i ∧ ¬ usd x (i + 1) v = true then 1 else 0) m = sm (fun v => if usd x i v = true then 0 else 1) (dg x i) := by
    intro m
    induction m with
    | zero =>
      intro hm
      rw [Nat.le_zero.mp hm]; rfl
    | succ m ih =>
      intro hm
      by_cases e : dg x i = m + 1
      · rw [e]
        refine sm_congr fun v hv => ?_
        by_cases hu : usd x i v = true
        · have hu2 : usd x (i + 1) v = true := by
            obtain ⟨r, hr, er⟩ := usd_iff.mp hu
            exact usd_iff.mpr ⟨r, by omega, er⟩
          rw [if_pos hu, if_neg (fun z => z.2 hu2)]
        · have hz : ¬ usd x (i + 1) v = true := fun z => by
            obtain ⟨r, hr, er⟩ := usd_iff.mp z
            by_cases hri : r = i
            · subst hri; omega
            · exact hu (usd_iff.mpr ⟨r, by omega, er⟩)
          rw [if_neg hu, if_pos ⟨hv, hz⟩]
      · show sm _ m + (if m < dg x i ∧ _ then 1 else 0) = _
        rw [if_neg (fun z => by omega), Nat.add_zero]
        exact ih (by omega)
  exact key n (by omega)
theorem lct_lt {n x i : Nat} (hi : i < n) : lct x i n < n - i := by
  have key : ∀ m, sm (fun q => if i < q ∧ dg x q < dg x i then 1 else 0) m ≤ m - (i + 1) := by
    intro m
    induction m with
    | zero => exact Nat.le_of_eq (by show 0 = _; omega)
    | succ m ih =>
      show sm _ m + (if i < m ∧ _ then 1 else 0) ≤ _
      by_cases h : i < m
      · have : (if i < m ∧ dg x m < dg x i then 1 else 0) ≤ 1 := by split <;> omega
        omega
      · rw [if_neg (fun z => h z.1)]
        omega
  have := key n
  show sm _ n < _
  omega
def rkTo (n x : Nat) : Nat → Nat
  | 0 => 0
  | p + 1 => rkTo n x p * (n - p) + lct x p n
/-- how many rows go ahead of the row -/
def rk (n x : Nat) : Nat := rkTo n x n
def ffc (n : Nat) : Nat → Nat
  | 0 => 1
  | p + 1 => ffc n p * (n - p)
theorem rkTo_lt {n x : Nat} : ∀ {p : Nat}, p ≤ n → rkTo n x p < ffc n p
  | 0, _ => Nat.zero_lt_one
  | p + 1, h => by
    have h1 := rkTo_lt (n := n) (x := x) (p := p) (by omega)
    have h2 := lct_lt (x := x) (show p < n by omega)
    show rkTo n x p * (n - p) + lct x p n < ffc n p * (n - p)
    have h3 : (rkTo n x p + 1) * (n - p) ≤ ffc n p * (n - p) := Nat.mul_le_mul_right _ h1
    rw [Nat.add_mul, Nat.one_mul] at h3
    omega
theorem ffc_fct : ∀ n, n ≤ 8 → ffc n n = fct n := by decide +kernel
theorem rk_lt {n x : Nat} (hn : n ≤ 8) : rk n x < fct n := by rw [← ffc_fct n hn]; exact rkTo_lt (Nat.le_refl n)
theorem fct_le : ∀ n, n ≤ 8 → fct n ≤ 40320 := by decide +kernel
theorem uct_lt {x i v w : Nat} (hv : usd x i v = false) (h : v < w) : uct x i v < uct x i w := by
  have h1 : uct x i (v + 1) = uct x i v + 1 := by
    show sm _ v + (if usd x i v = true then 0 else 1) = _
    rw [hv]; rfl
  have h2 : uct x i (v + 1) ≤ uct x i w := sm_mono h
  omega
theorem usd_self {n x i : Nat} (h : Pm n x) (hi : i < n) : usd x i (dg x i) = false := by
  cases hu : usd x i (dg x i) with
  | false => rfl
  | true =>
    obtain ⟨r, hr, er⟩ := usd_iff.mp hu
    have := h.2.2 r i (by omega) hi er
    omega
theorem usd_congr {x y i : Nat} (h : ∀ q, q < i → dg x q = dg y q) (v : Nat) : usd x i v = usd y i v := by
  cases hu : usd y i v with
  | true =>
    obtain ⟨r, hr, er⟩ := usd_iff.mp hu
    exact usd_iff.mpr ⟨r, hr, by rw [h r hr]; exact er⟩
  | false =>
    cases hx : usd x i v with
    | false => rfl
    | true =>
      obtain ⟨r, hr, er⟩ := usd_iff.mp hx
      have : usd y i v = true := usd_iff.mpr ⟨r, hr, by rw [← h r hr]; exact er⟩
      rw [hu] at this; cases this
theorem uct_congr {x y i : Nat} (h : ∀ q, q < i → dg x q = dg y q) (v : Nat) : uct x i v = uct y i v := sm_congr fun w _ => by rw [usd_congr h w]
/-- the first place at which two rows differ decides both orders -/
theorem lex {n x y i : Nat} (hx : Pm n x) (hy : Pm n y) (hi : i < n) (he : ∀ q, q < i → dg x q = dg y q) (hl : dg x i < dg y i) : rk n x < rk n y ∧ num n x < num n y := by
  have h1 : lct x i n < lct y i n := by
    rw [lct_uct hx hi, lct_uct hy hi, ← uct_congr he]
    exact uct_lt (usd_self hx hi) hl
  have pre : ∀ j, j ≤ i → rkTo n x j = rkTo n y j ∧ numTo x j = numTo y j := by
    intro j
    induction j with
    | zero => intro _; exact ⟨rfl, rfl⟩
    | succ j ih =>
      intro hj
      obtain ⟨a, b⟩ := ih (by omega)
      have e : lct x j n = lct y j n := by
        rw [lct_uct hx (by omega), lct_uct hy (by omega), ← he j (by omega)]
        exact uct_congr (fun q hq => he q (by omega)) _
      refine ⟨?_, ?_⟩
      · show rkTo n x j * (n - j) + lct x j n = rkTo n y j * (n - j) + lct y j n
        rw [a, e]
      · show numTo x j * 10 + (dg x j + 1) = numTo y j * 10 + (dg y j + 1)
        rw [b, he j (by omega)]
  obtain ⟨p1, p2⟩ := pre i (Nat.le_refl i)
  have post : ∀ j, i + 1 + j ≤ n → rkTo n x (i + 1 + j) < rkTo n y (i + 1 + j) ∧ numTo x (i + 1 + j) < numTo y (i + 1 + j) := by
    intro j
    induction j with
    | zero =>
      intro _
      refine ⟨?_, ?_⟩
      · show rkTo n x i * (n - i) + lct x i n < rkTo n y i * (n - i) + lct y i n
        rw [p1]; omega
      · show numTo x i * 10 + (dg x i + 1) < numTo y i * 10 + (dg y i + 1)
        rw [p2]; omega
    | succ j ih =>
      intro hj
      obtain ⟨a, b⟩ := ih (by omega)
      have c1 := lct_lt (x := x) (show i + 1 + j < n by omega)
      have c2 := hx.2.1 (i + 1 + j) (by omega)
      have c3 := dg_lt x (i + 1 + j)
      refine ⟨?_, ?_⟩
      · show rkTo n x (i + 1 + j) * (n - (i + 1 + j)) + lct x (i + 1 + j) n < rkTo n y (i + 1 + j) * (n - (i + 1 + j)) + lct y (i + 1 + j) n
        have h3 : (rkTo n x (i + 1 + j) + 1) * (n - (i + 1 + j)) ≤ rkTo n y (i + 1 + j) * (n - (i + 1 + j)) := Nat.mul_le_mul_right _ a
        rw [Nat.add_mul, Nat.one_mul] at h3
        omega
      · show numTo x (i + 1 + j) * 10 + (dg x (i + 1 + j) + 1) < numTo y (i + 1 + j) * 10 + (dg y (i + 1 + j) + 1)
        omega
  have := post (n - (i + 1)) (by omega)
  rw [show i + 1 + (n - (i + 1)) = n by omega] at this
  exact this
theorem first_diff {x y : Nat} : ∀ n, (∀ p, p < n → dg x p = dg y p) ∨ ∃ i, i < n ∧ (∀ q, q < i → dg x q = dg y q) ∧ dg x i ≠ dg y i
  | 0 => Or.inl fun p h => absurd h (by omega)
  | n + 1 => by
    rcases first_diff (x := x) (y := y) n with h | ⟨i, h1, h2, h3⟩
    · by_cases e : dg x n = dg y n
      · left
        intro p hp
        by_cases hpn : p = n
        · rw [hpn]; exact e
        · exact h p (by omega)
      · exact Or.inr ⟨n, by omega, h, e⟩
    · exact Or.inr ⟨i, by omega, h2, h3⟩
theorem rk_cases {n x y : Nat} (hx : Pm n x) (hy : Pm n y) : x = y ∨ (rk n x < rk n y ∧ num n x < num n y) ∨ (rk n y < rk n x ∧ num n y < num n x) := by
  rcases first_diff (x := x) (y := y) n with h | ⟨i, h1, h2, h3⟩
  · exact Or.inl (dg_ext hx.1 hy.1 h)
  · rcases Nat.lt_or_gt_of_ne h3 with h | h
    · exact Or.inr (Or.inl (lex hx hy h1 h2 h))
    · exact Or.inr (Or.inr (lex hy hx h1 (fun q hq => (h2 q hq).symm) h))
theorem rk_inj {n x y : Nat} (hx : Pm n x) (hy : Pm n y) (h : rk n x = rk n y) : x = y := by
  rcases rk_cases hx hy with e | e | e
  · exact e
  · omega
  · omega
theorem num_inj {n x y : Nat} (hx : Pm n x) (hy : Pm n y) (h : num n x = num n y) : x = y := by
  rcases rk_cases hx hy with e | e | e
  · exact e
  · omega
  · omega
theorem rk_num {n x y : Nat} (hx : Pm n x) (hy : Pm n y) : rk n x < rk n y ↔ num n x < num n y := by
  rcases rk_cases hx hy with e | e | e
  · subst e; omega
  · omega
  · omega
theorem dg_rds {n p : Nat} (hn : n ≤ 8) (hp : p < n) : dg (rds n) p = p := dg_pq (f := fun p => p) (fun q hq => by show q < 8; omega) hp
theorem Pm_rds {n : Nat} (hn : n ≤ 8) : Pm n (rds n) := by
  refine ⟨pq_lt (fun q hq => by show q < 8; omega), fun p hp => by rw [dg_rds hn hp]; exact hp, fun p q hp hq h => ?_⟩
  rw [dg_rds hn hp, dg_rds hn hq] at h
  exact h
theorem rk_rds {n : Nat} (hn : n ≤ 8) : rk n (rds n) = 0 := by
  have key : ∀ p, p ≤ n → rkTo n (rds n) p = 0 := by
    intro p
    induction p with
    | zero => intro _; rfl
    | succ p ih =>
      intro hp
      show rkTo n (rds n) p * (n - p) + lct (rds n) p n = 0
      rw [ih (by omega), Nat.zero_mul, Nat.zero_add]
      refine sm_zero fun q hq => ?_
      rw [dg_rds hn hq, dg_rds hn (show p < n by omega)]
      exact if_neg (fun z => by omega)
  exact key n (Nat.le_refl n)
theorem rk_zero {n x : Nat} (hn : n ≤ 8) (hx : Pm n x) : rk n x = 0 ↔ x = rds n := by
  constructor
  · intro h; exact rk_inj hx (Pm_rds hn) (by rw [h, rk_rds hn])
  · rintro rfl; exact rk_rds hn
theorem Pm_chg {n m x : Nat} (hx : Pm n x) : Pm n (chg n m x) := by
  refine ⟨chg_lt _ _ _, fun p hp => by rw [dg_chg hp]; exact hx.2.1 _ (sg_lt hp), fun p q hp hq h => ?_⟩
  rw [dg_chg hp, dg_chg hq] at h
  have := hx.2.2 _ _ (sg_lt hp) (sg_lt hq) h
  rw [← sg_sg (n := n) (m := m) (p := p), this, sg_sg]

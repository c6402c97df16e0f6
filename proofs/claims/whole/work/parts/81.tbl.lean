/-! a set of rows with tags, in slots -/
def andV (y : Int32) (b : Nat) : Nat := y.toBitVec.toNat % 2 ^ b
theorem andV_eq (y : Int32) (b : Nat) : y &&& nI (2 ^ b - 1) = nI (andV y b) := by
  have e : y = nI y.toBitVec.toNat := by
    apply Int32.toBitVec_inj.1
    show y.toBitVec = BitVec.ofNat 32 y.toBitVec.toNat
    rw [BitVec.ofNat_toNat, BitVec.setWidth_eq]
  unfold andV
  conv => lhs; rw [e]
  rw [nx_and, Nat.and_two_pow_sub_one_eq_mod]
theorem p2 (b : Nat) : 0 < 2 ^ b := Nat.pow_pos (by decide)
theorem andV_lt (y : Int32) (b : Nat) : andV y b < 2 ^ b := Nat.mod_lt _ (p2 b)
/-- where a row is looked for first -/
def hm (b x : Nat) : Nat := andV (ushr (nI x * (-1640531535)) (32 - nI b)) b
def prb (b x d : Nat) : Nat := (hm b x + d) % 2 ^ b
theorem prb_lt (b x d : Nat) : prb b x d < 2 ^ b := Nat.mod_lt _ (p2 b)
abbrev Asc : Type := List (Nat × Nat)
def ksA (M : Asc) : List Nat := M.map (fun m => m.1)
def TB (b fl : Nat) (E : Nat → Nat) (M : Asc) : Prop :=
  (∀ i, i < 2 ^ b → E i / 2 ^ 32 = fl → (E i % 2 ^ 24, E i / 2 ^ 24 % 256) ∈ M) ∧
  (∀ i j, i < 2 ^ b → j < 2 ^ b → E i / 2 ^ 32 = fl → E j / 2 ^ 32 = fl → E i % 2 ^ 24 = E j % 2 ^ 24 → i = j) ∧
  (∀ m ∈ M, ∃ d, d < 2 ^ b ∧ E (prb b m.1 d) / 2 ^ 32 = fl ∧ E (prb b m.1 d) % 2 ^ 24 = m.1 ∧ E (prb b m.1 d) / 2 ^ 24 % 256 = m.2 ∧ ∀ d', d' < d → E (prb b m.1 d') / 2 ^ 32 = fl) ∧
  (ksA M).Nodup ∧ M.length < 2 ^ b
theorem prb_onto {b x i : Nat} (hi : i < 2 ^ b) : ∃ d, d < 2 ^ b ∧ prb b x d = i := by
  have h1 : hm b x < 2 ^ b := andV_lt _ _
  by_cases h : hm b x ≤ i
  · exact ⟨i - hm b x, (by omega), (by unfold prb; rw [show hm b x + (i - hm b x) = i by omega, Nat.mod_eq_of_lt hi])⟩
  · refine ⟨i + 2 ^ b - hm b x, (by omega), ?_⟩
    unfold prb
    rw [show hm b x + (i + 2 ^ b - hm b x) = i + 2 ^ b by omega, Nat.add_mod_right, Nat.mod_eq_of_lt hi]
theorem prb_inj {b x d d' : Nat} (hd : d < 2 ^ b) (hd' : d' < 2 ^ b) (h : prb b x d = prb b x d') : d = d' := by
  have h1 : hm b x < 2 ^ b := andV_lt _ _
  unfold prb at h
  have e : ∀ d, d < 2 ^ b → (hm b x + d) % 2 ^ b = if hm b x + d < 2 ^ b then hm b x + d else hm b x + d - 2 ^ b := by
    intro d hd
    split
    · rename_i z; exact Nat.mod_eq_of_lt z
    · rename_i z
      rw [Nat.mod_eq_sub_mod (by omega), Nat.mod_eq_of_lt (by omega)]
  rw [e d hd, e d' hd'] at h
  split at h <;> split at h <;> omega
theorem TB.free {b fl : Nat} {E : Nat → Nat} {M : Asc} (h : TB b fl E M) : ∃ i, i < 2 ^ b ∧ E i / 2 ^ 32 ≠ fl := by
  apply Classical.byContradiction
  intro hn
  have hall : ∀ i, i < 2 ^ b → E i / 2 ^ 32 = fl := fun i hi => Classical.byContradiction fun z => hn ⟨i, hi, z⟩
  have hmem : ∀ i, i < 2 ^ b → E i % 2 ^ 24 ∈ ksA M := fun i hi => List.mem_map.mpr ⟨_, h.1 i hi (hall i hi), rfl⟩
  have := nodup_len (f := fun i => (ksA M).idxOf (E i % 2 ^ 24)) (N := M.length) (V := List.range (2 ^ b)) List.nodup_range (fun i hi => by
    have := List.idxOf_lt_length_of_mem (hmem i (List.mem_range.mp hi))
    unfold ksA at this ⊢
    rw [List.length_map] at this
    exact this) (fun i hi j hj e => by
    have hi := List.mem_range.mp hi
    have hj := List.mem_range.mp hj
    refine h.2.1 i j hi hj (hall i hi) (hall j hj) ?_
    have e : (ksA M).idxOf (E i % 2 ^ 24) = (ksA M).idxOf (E j % 2 ^ 24) := e
    have e1 := List.getElem_idxOf (List.idxOf_lt_length_of_mem (hmem i hi))
    have e2 := List.getElem_idxOf (List.idxOf_lt_length_of_mem (hmem j hj))
    rw [← e1, ← e2]
    simp only [e])
  rw [List.length_range] at this
  have := h.2.2.2.2
  omega
/-- what a look at the slots finds -/
def fnS (b fl : Nat) (E : Nat → Nat) (x d : Nat) : Prop := d < 2 ^ b ∧ (∀ d', d' < d → E (prb b x d') / 2 ^ 32 = fl ∧ E (prb b x d') % 2 ^ 24 ≠ x) ∧ (E (prb b x d) / 2 ^ 32 = fl → E (prb b x d) % 2 ^ 24 = x)
theorem TB.no {b fl x d : Nat} {E : Nat → Nat} {M : Asc} (h : TB b fl E M) (hf : fnS b fl E x d) (hn : E (prb b x d) / 2 ^ 32 ≠ fl) : x ∉ ksA M := by
  intro hx
  obtain ⟨m, hm1, rfl⟩ := List.mem_map.mp hx
  obtain ⟨d0, k1, k2, k3, k4, k5⟩ := h.2.2.1 m hm1
  rcases Nat.lt_trichotomy d d0 with z | z | z
  · exact hn (k5 d z)
  · subst z; exact hn k2
  · exact (hf.2.1 d0 z).2 k3
theorem TB.yes {b fl x d : Nat} {E : Nat → Nat} {M : Asc} (h : TB b fl E M) (hf : fnS b fl E x d) (hn : E (prb b x d) / 2 ^ 32 = fl) : (x, E (prb b x d) / 2 ^ 24 % 256) ∈ M := by
  have := h.1 _ (prb_lt b x d) hn
  rw [hf.2.2 hn] at this
  exact this
theorem ksA_uniq {M : Asc} (h : (ksA M).Nodup) {x a b : Nat} (h1 : (x, a) ∈ M) (h2 : (x, b) ∈ M) : a = b := by
  induction M with
  | nil => exact absurd h1 List.not_mem_nil
  | cons m M ih =>
    have h : (m.1 :: ksA M).Nodup := h
    have hn := List.nodup_cons.mp h
    rcases List.mem_cons.mp h1 with e1 | e1
    · rcases List.mem_cons.mp h2 with e2 | e2
      · rw [← e2] at e1; cases e1; rfl
      · rw [← e1] at hn; exact absurd (List.mem_map.mpr ⟨_, e2, rfl⟩) hn.1
    · rcases List.mem_cons.mp h2 with e2 | e2
      · rw [← e2] at hn; exact absurd (List.mem_map.mpr ⟨_, e1, rfl⟩) hn.1
      · exact ih hn.2 e1 e2
theorem ent_f {fl tg x : Nat} (ht : tg < 4) (hx : x < 2 ^ 24) : (fl * 2 ^ 32 + (tg * 2 ^ 24 + x)) / 2 ^ 32 = fl ∧ (fl * 2 ^ 32 + (tg * 2 ^ 24 + x)) % 2 ^ 24 = x ∧ (fl * 2 ^ 32 + (tg * 2 ^ 24 + x)) / 2 ^ 24 % 256 = tg := by omega
theorem TB.put {b fl x d tg : Nat} {E : Nat → Nat} {M : Asc} (h : TB b fl E M) (hf : fnS b fl E x d) (hn : E (prb b x d) / 2 ^ 32 ≠ fl) (hx : x < 2 ^ 24) (ht : tg < 4) (hl : M.length + 1 < 2 ^ b) : TB b fl (up1 E (prb b x d) (fl * 2 ^ 32 + (tg * 2 ^ 24 + x))) (M ++ [(x, tg)]) := by
  obtain ⟨e1, e2, e3⟩ := ent_f (fl := fl) ht hx
  have hno := h.no hf hn
  have mono : ∀ i, E i / 2 ^ 32 = fl → up1 E (prb b x d) (fl * 2 ^ 32 + (tg * 2 ^ 24 + x)) i = E i := fun i z => up1_n _ _ (fun q => hn (by rw [← q]; exact z))
  have kx : ∀ i, i < 2 ^ b → E i / 2 ^ 32 = fl → E i % 2 ^ 24 ≠ x := fun i hi z q => hno (by rw [← q]; exact List.mem_map.mpr ⟨_, h.1 i hi z, rfl⟩)
  refine ⟨fun i hi z => ?_, fun i j hi hj z1 z2 z3 => ?_, fun m hm1 => ?_, ?_, (by rw [List.length_append]; exact hl)⟩
  · by_cases q : i = prb b x d
    · rw [q, up1_s, e2, e3]; simp
    · rw [up1_n _ _ q] at z ⊢
      exact List.mem_append_left _ (h.1 i hi z)
  · by_cases q : i = prb b x d
    · by_cases r : j = prb b x d
      · rw [q, r]
      · rw [q, up1_s] at z3
        rw [up1_n _ _ r] at z2 z3
        rw [e2] at z3
        exact absurd z3.symm (kx j hj z2)
    · by_cases r : j = prb b x d
      · rw [r, up1_s] at z3
        rw [up1_n _ _ q] at z1 z3
        rw [e2] at z3
        exact absurd z3 (kx i hi z1)
      · rw [up1_n _ _ q] at z1 z3
        rw [up1_n _ _ r] at z2 z3
        exact h.2.1 i j hi hj z1 z2 z3
  · rcases List.mem_append.mp hm1 with q | q
    · obtain ⟨d0, k1, k2, k3, k4, k5⟩ := h.2.2.1 m q
      refine ⟨d0, k1, ?_, ?_, ?_, fun d' hd' => ?_⟩
      · rw [mono _ k2]; exact k2
      · rw [mono _ k2]; exact k3
      · rw [mono _ k2]; exact k4
      · rw [mono _ (k5 d' hd')]; exact k5 d' hd'
    · rw [List.mem_singleton.mp q]
      refine ⟨d, hf.1, ?_, ?_, ?_, fun d' hd' => ?_⟩
      · rw [up1_s]; exact e1
      · rw [up1_s]; exact e2
      · rw [up1_s]; exact e3
      · rw [mono _ (hf.2.1 d' hd').1]; exact (hf.2.1 d' hd').1
  · unfold ksA
    rw [List.map_append, List.nodup_append]
    refine ⟨h.2.2.2.1, (by simp), fun a ha c hc => ?_⟩
    simp at hc
    rw [hc]
    exact fun z => hno (by rw [← z]; exact ha)
theorem TB.nil {b fl : Nat} {E : Nat → Nat} (h : ∀ i, i < 2 ^ b → E i / 2 ^ 32 ≠ fl) : TB b fl E [] := ⟨fun i hi z => absurd z (h i hi), fun i j hi hj z => absurd z (h i hi), fun m hm1 => absurd hm1 List.not_mem_nil, List.nodup_nil, p2 b⟩
/-- the store of the class, with or without the reference -/
abbrev Cg (z : Zt) (iF aI : Nat → Nat → Int32) (aL : Nat → Nat → Int64) : Sto := (SH z, iF, aI, aL)
def tc (t : Nat) : Prop := t = 18 ∨ t = 24 ∨ t = 30
/-- a table of rows, ready to be filled -/
def RT0 (t c fl : Nat) (z : Zt) (iF : Nat → Nat → Int32) (aL : Nat → Nat → Int64) : Prop := z.2 (t + 1) = 2 ^ c ∧ iF t 2 = nI fl ∧ ∃ E : Nat → Nat, ∀ i, i < 2 ^ c → aL (t + 1) i = nL (E i) ∧ E i < 2 ^ 63 ∧ E i / 2 ^ 32 ≤ fl
/-- a table that holds rows -/
def RT (t c b fl : Nat) (M : Asc) (z : Zt) (iF : Nat → Nat → Int32) (aL : Nat → Nat → Int64) : Prop := z.2 (t + 1) = 2 ^ c ∧ 1 ≤ b ∧ b ≤ c ∧ c ≤ 16 ∧ fl < 2 ^ 30 ∧ iF t 1 = nI b ∧ iF t 2 = nI fl ∧ ∃ E : Nat → Nat, (∀ i, i < 2 ^ c → aL (t + 1) i = nL (E i) ∧ E i < 2 ^ 63 ∧ E i / 2 ^ 32 ≤ fl) ∧ TB b fl E M
theorem RT.RT0 {t c b fl : Nat} {M : Asc} {z : Zt} {iF : Nat → Nat → Int32} {aL : Nat → Nat → Int64} (h : RT t c b fl M z iF aL) : RT0 t c fl z iF aL := by
  obtain ⟨h1, -, -, -, -, -, h7, E, h8, -⟩ := h
  exact ⟨h1, h7, E, h8⟩

def stpd (row step : Int32) : Int32 := row ^^^ ((row ^^^ ushr row 3) &&& step) ^^^ ((row ^^^ ushr row 3) &&& step) <<< ((3 : Int32) &&& 31)
def bc1 (x : Int32) : Int32 := x - (ushr x 1 &&& 1431655765)
def bc2 (x : Int32) : Int32 := (x &&& 858993459) + (ushr x 2 &&& 858993459)
def bc3 (x : Int32) : Int32 := (x + ushr x 4) &&& 252645135
def bcI (x : Int32) : Int32 := (bc3 (bc2 (bc1 x)) + ushr (bc3 (bc2 (bc1 x))) 8 + ushr (bc3 (bc2 (bc1 x)) + ushr (bc3 (bc2 (bc1 x))) 8) 16) &&& 63
theorem br_nt {c A B : Prop} (h : ¬ c) (a : A) : (¬ c → A) ∧ (c → B) := ⟨fun _ => a, fun q => absurd q h⟩
theorem br_nf {c A B : Prop} (h : c) (b : B) : (¬ c → A) ∧ (c → B) := ⟨fun q => absurd h q, fun _ => b⟩

def kX7_bellAt : Nat → Stq := fun pc => if pc < 6 then (if pc < 3 then (if pc < 1 then (if pc = 0 then s_ild 1 1 else s_bad) else (if pc < 2 then (if pc = 1 then s_push (.int 3) 2 else s_bad) else (if pc = 2 then s_ild 0 3 else s_bad))) else (if pc < 4 then (if pc = 3 then s_push (.int 1) 4 else s_bad) else (if pc < 5 then (if pc = 4 then s_isub 5 else s_bad) else (if pc = 5 then s_imul 6 else s_bad)))) else (if pc < 10 then (if pc < 7 then (if pc = 6 then s_iushr 7 else s_bad) else (if pc < 9 then (if pc = 7 then s_push (.int 7) 9 else s_bad) else (if pc = 9 then s_iand 10 else s_bad))) else (if pc < 11 then (if pc = 10 then s_push (.int 1) 11 else s_bad) else (if pc < 12 then (if pc = 11 then s_iadd 12 else s_bad) else (if pc = 12 then s_iret else s_bad))))
set_option maxRecDepth 20000 in
theorem sX7_bellAt : ∀ pc, Snd 0 RX7 cX7_bellAt 2 (some .int) (inM "bellAt") pc (kX7_bellAt pc) := by
  have h0 : Snd 0 RX7 cX7_bellAt 2 (some .int) (inM "bellAt") 0 (s_ild 1 1) := snd_iload_n (j := 1) (by decide +kernel) rfl
  have h1 : Snd 0 RX7 cX7_bellAt 2 (some .int) (inM "bellAt") 1 (s_push (.int 3) 2) := snd_iconst (n := 3) (by decide +kernel) (by decide)
  have h2 : Snd 0 RX7 cX7_bellAt 2 (some .int) (inM "bellAt") 2 (s_ild 0 3) := snd_iload_n (j := 0) (by decide +kernel) rfl
  have h3 : Snd 0 RX7 cX7_bellAt 2 (some .int) (inM "bellAt") 3 (s_push (.int 1) 4) := snd_iconst (n := 1) (by decide +kernel) (by decide)
  have h4 : Snd 0 RX7 cX7_bellAt 2 (some .int) (inM "bellAt") 4 (s_isub 5) := snd_isub (by decide +kernel)
  have h5 : Snd 0 RX7 cX7_bellAt 2 (some .int) (inM "bellAt") 5 (s_imul 6) := snd_imul (by decide +kernel)
  have h6 : Snd 0 RX7 cX7_bellAt 2 (some .int) (inM "bellAt") 6 (s_iushr 7) := snd_iushr (by decide +kernel)
  have h7 : Snd 0 RX7 cX7_bellAt 2 (some .int) (inM "bellAt") 7 (s_push (.int 7) 9) := snd_bipush (n := 7) (by decide +kernel) (by decide)
  have h9 : Snd 0 RX7 cX7_bellAt 2 (some .int) (inM "bellAt") 9 (s_iand 10) := snd_iand (by decide +kernel)
  have h10 : Snd 0 RX7 cX7_bellAt 2 (some .int) (inM "bellAt") 10 (s_push (.int 1) 11) := snd_iconst (n := 1) (by decide +kernel) (by decide)
  have h11 : Snd 0 RX7 cX7_bellAt 2 (some .int) (inM "bellAt") 11 (s_iadd 12) := snd_iadd (by decide +kernel)
  have h12 : Snd 0 RX7 cX7_bellAt 2 (some .int) (inM "bellAt") 12 (s_iret) := snd_iret (by decide +kernel)
  exact fun pc => snd_ite (snd_ite (snd_ite (snd_leaf (k := 0) h0) (snd_ite (snd_leaf (k := 1) h1) (snd_leaf (k := 2) h2))) (snd_ite (snd_leaf (k := 3) h3) (snd_ite (snd_leaf (k := 4) h4) (snd_leaf (k := 5) h5)))) (snd_ite (snd_ite (snd_leaf (k := 6) h6) (snd_ite (snd_leaf (k := 7) h7) (snd_leaf (k := 9) h9))) (snd_ite (snd_leaf (k := 10) h10) (snd_ite (snd_leaf (k := 11) h11) (snd_leaf (k := 12) h12))))
def pX7_bellAt : Spc := fun As g Q => match As with
  | [.int place, .int row] => Q (some (.int ((ushr row (3 * (place - 1)) &&& 7) + 1))) g
  | _ => False

set_option maxRecDepth 20000 in
theorem oX7_bellAt : Ok 0 yX7_bellAt cX7_bellAt 2 (some .int) pX7_bellAt := by
  refine ok_of (fun _ => false) 17 (fun _ _ _ _ _ _ _ _ => False) (by decide) rfl sX7_bellAt (fun As g Q h => ?_) (fun As g Q h => ?_) (fun _ _ _ _ _ _ _ _ _ h => h.elim)
  · simp only [pX7_bellAt] at h
    split at h
    · exact ⟨Nat.le_of_ble_eq_true rfl, rfl⟩
    · exact h.elim
  · simp only [pX7_bellAt] at h
    split at h
    · exact h
    · exact h.elim

def kX7_stepped : Nat → Stq := fun pc => if pc < 8 then (if pc < 4 then (if pc < 2 then (if pc < 1 then (if pc = 0 then s_ild 0 1 else s_bad) else (if pc = 1 then s_ild 0 2 else s_bad)) else (if pc < 3 then (if pc = 2 then s_push (.int 3) 3 else s_bad) else (if pc = 3 then s_iushr 4 else s_bad))) else (if pc < 6 then (if pc < 5 then (if pc = 4 then s_ixor 5 else s_bad) else (if pc = 5 then s_ild 1 6 else s_bad)) else (if pc < 7 then (if pc = 6 then s_iand 7 else s_bad) else (if pc = 7 then s_ist 2 8 else s_bad)))) else (if pc < 12 then (if pc < 10 then (if pc < 9 then (if pc = 8 then s_ild 0 9 else s_bad) else (if pc = 9 then s_ild 2 10 else s_bad)) else (if pc < 11 then (if pc = 10 then s_ixor 11 else s_bad) else (if pc = 11 then s_ild 2 12 else s_bad))) else (if pc < 14 then (if pc < 13 then (if pc = 12 then s_push (.int 3) 13 else s_bad) else (if pc = 13 then s_ishl 14 else s_bad)) else (if pc < 15 then (if pc = 14 then s_ixor 15 else s_bad) else (if pc = 15 then s_iret else s_bad))))
set_option maxRecDepth 20000 in
theorem sX7_stepped : ∀ pc, Snd 0 RX7 cX7_stepped 3 (some .int) (inM "stepped") pc (kX7_stepped pc) := by
  have h0 : Snd 0 RX7 cX7_stepped 3 (some .int) (inM "stepped") 0 (s_ild 0 1) := snd_iload_n (j := 0) (by decide +kernel) rfl
  have h1 : Snd 0 RX7 cX7_stepped 3 (some .int) (inM "stepped") 1 (s_ild 0 2) := snd_iload_n (j := 0) (by decide +kernel) rfl
  have h2 : Snd 0 RX7 cX7_stepped 3 (some .int) (inM "stepped") 2 (s_push (.int 3) 3) := snd_iconst (n := 3) (by decide +kernel) (by decide)
  have h3 : Snd 0 RX7 cX7_stepped 3 (some .int) (inM "stepped") 3 (s_iushr 4) := snd_iushr (by decide +kernel)
  have h4 : Snd 0 RX7 cX7_stepped 3 (some .int) (inM "stepped") 4 (s_ixor 5) := snd_ixor (by decide +kernel)
  have h5 : Snd 0 RX7 cX7_stepped 3 (some .int) (inM "stepped") 5 (s_ild 1 6) := snd_iload_n (j := 1) (by decide +kernel) rfl
  have h6 : Snd 0 RX7 cX7_stepped 3 (some .int) (inM "stepped") 6 (s_iand 7) := snd_iand (by decide +kernel)
  have h7 : Snd 0 RX7 cX7_stepped 3 (some .int) (inM "stepped") 7 (s_ist 2 8) := snd_istore_n (j := 2) (by decide +kernel) rfl
  have h8 : Snd 0 RX7 cX7_stepped 3 (some .int) (inM "stepped") 8 (s_ild 0 9) := snd_iload_n (j := 0) (by decide +kernel) rfl
  have h9 : Snd 0 RX7 cX7_stepped 3 (some .int) (inM "stepped") 9 (s_ild 2 10) := snd_iload_n (j := 2) (by decide +kernel) rfl
  have h10 : Snd 0 RX7 cX7_stepped 3 (some .int) (inM "stepped") 10 (s_ixor 11) := snd_ixor (by decide +kernel)
  have h11 : Snd 0 RX7 cX7_stepped 3 (some .int) (inM "stepped") 11 (s_ild 2 12) := snd_iload_n (j := 2) (by decide +kernel) rfl
  have h12 : Snd 0 RX7 cX7_stepped 3 (some .int) (inM "stepped") 12 (s_push (.int 3) 13) := snd_iconst (n := 3) (by decide +kernel) (by decide)
  have h13 : Snd 0 RX7 cX7_stepped 3 (some .int) (inM "stepped") 13 (s_ishl 14) := snd_ishl (by decide +kernel)
  have h14 : Snd 0 RX7 cX7_stepped 3 (some .int) (inM "stepped") 14 (s_ixor 15) := snd_ixor (by decide +kernel)
  have h15 : Snd 0 RX7 cX7_stepped 3 (some .int) (inM "stepped") 15 (s_iret) := snd_iret (by decide +kernel)
  exact fun pc => snd_ite (snd_ite (snd_ite (snd_ite (snd_leaf (k := 0) h0) (snd_leaf (k := 1) h1)) (snd_ite (snd_leaf (k := 2) h2) (snd_leaf (k := 3) h3))) (snd_ite (snd_ite (snd_leaf (k := 4) h4) (snd_leaf (k := 5) h5)) (snd_ite (snd_leaf (k := 6) h6) (snd_leaf (k := 7) h7)))) (snd_ite (snd_ite (snd_ite (snd_leaf (k := 8) h8) (snd_leaf (k := 9) h9)) (snd_ite (snd_leaf (k := 10) h10) (snd_leaf (k := 11) h11))) (snd_ite (snd_ite (snd_leaf (k := 12) h12) (snd_leaf (k := 13) h13)) (snd_ite (snd_leaf (k := 14) h14) (snd_leaf (k := 15) h15))))
def pX7_stepped : Spc := fun As g Q => match As with
  | [.int row, .int step] => Q (some (.int (stpd row step))) g
  | _ => False

set_option maxRecDepth 20000 in
theorem oX7_stepped : Ok 0 yX7_stepped cX7_stepped 3 (some .int) pX7_stepped := by
  refine ok_of (fun _ => false) 21 (fun _ _ _ _ _ _ _ _ => False) (by decide) rfl sX7_stepped (fun As g Q h => ?_) (fun As g Q h => ?_) (fun _ _ _ _ _ _ _ _ _ h => h.elim)
  · simp only [pX7_stepped] at h
    split at h
    · exact ⟨Nat.le_of_ble_eq_true rfl, rfl⟩
    · exact h.elim
  · simp only [pX7_stepped] at h
    split at h
    · exact h
    · exact h.elim

def kJ6_bitCount_0f7a4 : Nat → Stq := fun pc => if pc < 27 then (if pc < 14 then (if pc < 7 then (if pc < 2 then (if pc < 1 then (if pc = 0 then s_ild 0 1 else s_bad) else (if pc = 1 then s_ild 0 2 else s_bad)) else (if pc < 3 then (if pc = 2 then s_push (.int 1) 3 else s_bad) else (if pc < 4 then (if pc = 3 then s_iushr 4 else s_bad) else (if pc = 4 then s_push (.int 1431655765) 7 else s_bad)))) else (if pc < 9 then (if pc < 8 then (if pc = 7 then s_iand 8 else s_bad) else (if pc = 8 then s_isub 9 else s_bad)) else (if pc < 10 then (if pc = 9 then s_ist 0 10 else s_bad) else (if pc < 11 then (if pc = 10 then s_ild 0 11 else s_bad) else (if pc = 11 then s_push (.int 858993459) 14 else s_bad))))) else (if pc < 21 then (if pc < 16 then (if pc < 15 then (if pc = 14 then s_iand 15 else s_bad) else (if pc = 15 then s_ild 0 16 else s_bad)) else (if pc < 17 then (if pc = 16 then s_push (.int 2) 17 else s_bad) else (if pc < 18 then (if pc = 17 then s_iushr 18 else s_bad) else (if pc = 18 then s_push (.int 858993459) 21 else s_bad)))) else (if pc < 24 then (if pc < 22 then (if pc = 21 then s_iand 22 else s_bad) else (if pc < 23 then (if pc = 22 then s_iadd 23 else s_bad) else (if pc = 23 then s_ist 0 24 else s_bad))) else (if pc < 25 then (if pc = 24 then s_ild 0 25 else s_bad) else (if pc < 26 then (if pc = 25 then s_ild 0 26 else s_bad) else (if pc = 26 then s_push (.int 4) 27 else s_bad)))))) else (if pc < 40 then (if pc < 34 then (if pc < 29 then (if pc < 28 then (if pc = 27 then s_iushr 28 else s_bad) else (if pc = 28 then s_iadd 29 else s_bad)) else (if pc < 32 then (if pc = 29 then s_push (.int 252645135) 32 else s_bad) else (if pc < 33 then (if pc = 32 then s_iand 33 else s_bad) else (if pc = 33 then s_ist 0 34 else s_bad)))) else (if pc < 36 then (if pc < 35 then (if pc = 34 then s_ild 0 35 else s_bad) else (if pc = 35 then s_ild 0 36 else s_bad)) else (if pc < 38 then (if pc = 36 then s_push (.int 8) 38 else s_bad) else (if pc < 39 then (if pc = 38 then s_iushr 39 else s_bad) else (if pc = 39 then s_iadd 40 else s_bad))))) else (if pc < 46 then (if pc < 42 then (if pc < 41 then (if pc = 40 then s_ist 0 41 else s_bad) else (if pc = 41 then s_ild 0 42 else s_bad)) else (if pc < 43 then (if pc = 42 then s_ild 0 43 else s_bad) else (if pc < 45 then (if pc = 43 then s_push (.int 16) 45 else s_bad) else (if pc = 45 then s_iushr 46 else s_bad)))) else (if pc < 49 then (if pc < 47 then (if pc = 46 then s_iadd 47 else s_bad) else (if pc < 48 then (if pc = 47 then s_ist 0 48 else s_bad) else (if pc = 48 then s_ild 0 49 else s_bad))) else (if pc < 51 then (if pc = 49 then s_push (.int 63) 51 else s_bad) else (if pc < 52 then (if pc = 51 then s_iand 52 else s_bad) else (if pc = 52 then s_iret else s_bad))))))
set_option maxRecDepth 20000 in
theorem sJ6_bitCount_0f7a4 : ∀ pc, Snd 0 RJ6 cJ6_bitCount_0f7a4 1 (some .int) (inM "bitCount") pc (kJ6_bitCount_0f7a4 pc) := by
  have h0 : Snd 0 RJ6 cJ6_bitCount_0f7a4 1 (some .int) (inM "bitCount") 0 (s_ild 0 1) := snd_iload_n (j := 0) (by decide +kernel) rfl
  have h1 : Snd 0 RJ6 cJ6_bitCount_0f7a4 1 (some .int) (inM "bitCount") 1 (s_ild 0 2) := snd_iload_n (j := 0) (by decide +kernel) rfl
  have h2 : Snd 0 RJ6 cJ6_bitCount_0f7a4 1 (some .int) (inM "bitCount") 2 (s_push (.int 1) 3) := snd_iconst (n := 1) (by decide +kernel) (by decide)
  have h3 : Snd 0 RJ6 cJ6_bitCount_0f7a4 1 (some .int) (inM "bitCount") 3 (s_iushr 4) := snd_iushr (by decide +kernel)
  have h4 : Snd 0 RJ6 cJ6_bitCount_0f7a4 1 (some .int) (inM "bitCount") 4 (s_push (.int 1431655765) 7) := snd_ldcw (by decide +kernel) g_488
  have h7 : Snd 0 RJ6 cJ6_bitCount_0f7a4 1 (some .int) (inM "bitCount") 7 (s_iand 8) := snd_iand (by decide +kernel)
  have h8 : Snd 0 RJ6 cJ6_bitCount_0f7a4 1 (some .int) (inM "bitCount") 8 (s_isub 9) := snd_isub (by decide +kernel)
  have h9 : Snd 0 RJ6 cJ6_bitCount_0f7a4 1 (some .int) (inM "bitCount") 9 (s_ist 0 10) := snd_istore_n (j := 0) (by decide +kernel) rfl
  have h10 : Snd 0 RJ6 cJ6_bitCount_0f7a4 1 (some .int) (inM "bitCount") 10 (s_ild 0 11) := snd_iload_n (j := 0) (by decide +kernel) rfl
  have h11 : Snd 0 RJ6 cJ6_bitCount_0f7a4 1 (some .int) (inM "bitCount") 11 (s_push (.int 858993459) 14) := snd_ldcw (by decide +kernel) g_489
  have h14 : Snd 0 RJ6 cJ6_bitCount_0f7a4 1 (some .int) (inM "bitCount") 14 (s_iand 15) := snd_iand (by decide +kernel)
  have h15 : Snd 0 RJ6 cJ6_bitCount_0f7a4 1 (some .int) (inM "bitCount") 15 (s_ild 0 16) := snd_iload_n (j := 0) (by decide +kernel) rfl
  have h16 : Snd 0 RJ6 cJ6_bitCount_0f7a4 1 (some .int) (inM "bitCount") 16 (s_push (.int 2) 17) := snd_iconst (n := 2) (by decide +kernel) (by decide)
  have h17 : Snd 0 RJ6 cJ6_bitCount_0f7a4 1 (some .int) (inM "bitCount") 17 (s_iushr 18) := snd_iushr (by decide +kernel)
  have h18 : Snd 0 RJ6 cJ6_bitCount_0f7a4 1 (some .int) (inM "bitCount") 18 (s_push (.int 858993459) 21) := snd_ldcw (by decide +kernel) g_489
  have h21 : Snd 0 RJ6 cJ6_bitCount_0f7a4 1 (some .int) (inM "bitCount") 21 (s_iand 22) := snd_iand (by decide +kernel)
  have h22 : Snd 0 RJ6 cJ6_bitCount_0f7a4 1 (some .int) (inM "bitCount") 22 (s_iadd 23) := snd_iadd (by decide +kernel)
  have h23 : Snd 0 RJ6 cJ6_bitCount_0f7a4 1 (some .int) (inM "bitCount") 23 (s_ist 0 24) := snd_istore_n (j := 0) (by decide +kernel) rfl
  have h24 : Snd 0 RJ6 cJ6_bitCount_0f7a4 1 (some .int) (inM "bitCount") 24 (s_ild 0 25) := snd_iload_n (j := 0) (by decide +kernel) rfl
  have h25 : Snd 0 RJ6 cJ6_bitCount_0f7a4 1 (some .int) (inM "bitCount") 25 (s_ild 0 26) := snd_iload_n (j := 0) (by decide +kernel) rfl
  have h26 : Snd 0 RJ6 cJ6_bitCount_0f7a4 1 (some .int) (inM "bitCount") 26 (s_push (.int 4) 27) := snd_iconst (n := 4) (by decide +kernel) (by decide)
  have h27 : Snd 0 RJ6 cJ6_bitCount_0f7a4 1 (some .int) (inM "bitCount") 27 (s_iushr 28) := snd_iushr (by decide +kernel)
  have h28 : Snd 0 RJ6 cJ6_bitCount_0f7a4 1 (some .int) (inM "bitCount") 28 (s_iadd 29) := snd_iadd (by decide +kernel)
  have h29 : Snd 0 RJ6 cJ6_bitCount_0f7a4 1 (some .int) (inM "bitCount") 29 (s_push (.int 252645135) 32) := snd_ldcw (by decide +kernel) g_490
  have h32 : Snd 0 RJ6 cJ6_bitCount_0f7a4 1 (some .int) (inM "bitCount") 32 (s_iand 33) := snd_iand (by decide +kernel)
  have h33 : Snd 0 RJ6 cJ6_bitCount_0f7a4 1 (some .int) (inM "bitCount") 33 (s_ist 0 34) := snd_istore_n (j := 0) (by decide +kernel) rfl
  have h34 : Snd 0 RJ6 cJ6_bitCount_0f7a4 1 (some .int) (inM "bitCount") 34 (s_ild 0 35) := snd_iload_n (j := 0) (by decide +kernel) rfl
  have h35 : Snd 0 RJ6 cJ6_bitCount_0f7a4 1 (some .int) (inM "bitCount") 35 (s_ild 0 36) := snd_iload_n (j := 0) (by decide +kernel) rfl
  have h36 : Snd 0 RJ6 cJ6_bitCount_0f7a4 1 (some .int) (inM "bitCount") 36 (s_push (.int 8) 38) := snd_bipush (n := 8) (by decide +kernel) (by decide)
  have h38 : Snd 0 RJ6 cJ6_bitCount_0f7a4 1 (some .int) (inM "bitCount") 38 (s_iushr 39) := snd_iushr (by decide +kernel)
  have h39 : Snd 0 RJ6 cJ6_bitCount_0f7a4 1 (some .int) (inM "bitCount") 39 (s_iadd 40) := snd_iadd (by decide +kernel)
  have h40 : Snd 0 RJ6 cJ6_bitCount_0f7a4 1 (some .int) (inM "bitCount") 40 (s_ist 0 41) := snd_istore_n (j := 0) (by decide +kernel) rfl
  have h41 : Snd 0 RJ6 cJ6_bitCount_0f7a4 1 (some .int) (inM "bitCount") 41 (s_ild 0 42) := snd_iload_n (j := 0) (by decide +kernel) rfl
  have h42 : Snd 0 RJ6 cJ6_bitCount_0f7a4 1 (some .int) (inM "bitCount") 42 (s_ild 0 43) := snd_iload_n (j := 0) (by decide +kernel) rfl
  have h43 : Snd 0 RJ6 cJ6_bitCount_0f7a4 1 (some .int) (inM "bitCount") 43 (s_push (.int 16) 45) := snd_bipush (n := 16) (by decide +kernel) (by decide)
  have h45 : Snd 0 RJ6 cJ6_bitCount_0f7a4 1 (some .int) (inM "bitCount") 45 (s_iushr 46) := snd_iushr (by decide +kernel)
  have h46 : Snd 0 RJ6 cJ6_bitCount_0f7a4 1 (some .int) (inM "bitCount") 46 (s_iadd 47) := snd_iadd (by decide +kernel)
  have h47 : Snd 0 RJ6 cJ6_bitCount_0f7a4 1 (some .int) (inM "bitCount") 47 (s_ist 0 48) := snd_istore_n (j := 0) (by decide +kernel) rfl
  have h48 : Snd 0 RJ6 cJ6_bitCount_0f7a4 1 (some .int) (inM "bitCount") 48 (s_ild 0 49) := snd_iload_n (j := 0) (by decide +kernel) rfl
  have h49 : Snd 0 RJ6 cJ6_bitCount_0f7a4 1 (some .int) (inM "bitCount") 49 (s_push (.int 63) 51) := snd_bipush (n := 63) (by decide +kernel) (by decide)
  have h51 : Snd 0 RJ6 cJ6_bitCount_0f7a4 1 (some .int) (inM "bitCount") 51 (s_iand 52) := snd_iand (by decide +kernel)
  have h52 : Snd 0 RJ6 cJ6_bitCount_0f7a4 1 (some .int) (inM "bitCount") 52 (s_iret) := snd_iret (by decide +kernel)
  exact fun pc => snd_ite (snd_ite (snd_ite (snd_ite (snd_ite (snd_leaf (k := 0) h0) (snd_leaf (k := 1) h1)) (snd_ite (snd_leaf (k := 2) h2) (snd_ite (snd_leaf (k := 3) h3) (snd_leaf (k := 4) h4)))) (snd_ite (snd_ite (snd_leaf (k := 7) h7) (snd_leaf (k := 8) h8)) (snd_ite (snd_leaf (k := 9) h9) (snd_ite (snd_leaf (k := 10) h10) (snd_leaf (k := 11) h11))))) (snd_ite (snd_ite (snd_ite (snd_leaf (k := 14) h14) (snd_leaf (k := 15) h15)) (snd_ite (snd_leaf (k := 16) h16) (snd_ite (snd_leaf (k := 17) h17) (snd_leaf (k := 18) h18)))) (snd_ite (snd_ite (snd_leaf (k := 21) h21) (snd_ite (snd_leaf (k := 22) h22) (snd_leaf (k := 23) h23))) (snd_ite (snd_leaf (k := 24) h24) (snd_ite (snd_leaf (k := 25) h25) (snd_leaf (k := 26) h26)))))) (snd_ite (snd_ite (snd_ite (snd_ite (snd_leaf (k := 27) h27) (snd_leaf (k := 28) h28)) (snd_ite (snd_leaf (k := 29) h29) (snd_ite (snd_leaf (k := 32) h32) (snd_leaf (k := 33) h33)))) (snd_ite (snd_ite (snd_leaf (k := 34) h34) (snd_leaf (k := 35) h35)) (snd_ite (snd_leaf (k := 36) h36) (snd_ite (snd_leaf (k := 38) h38) (snd_leaf (k := 39) h39))))) (snd_ite (snd_ite (snd_ite (snd_leaf (k := 40) h40) (snd_leaf (k := 41) h41)) (snd_ite (snd_leaf (k := 42) h42) (snd_ite (snd_leaf (k := 43) h43) (snd_leaf (k := 45) h45)))) (snd_ite (snd_ite (snd_leaf (k := 46) h46) (snd_ite (snd_leaf (k := 47) h47) (snd_leaf (k := 48) h48))) (snd_ite (snd_leaf (k := 49) h49) (snd_ite (snd_leaf (k := 51) h51) (snd_leaf (k := 52) h52))))))
def pJ6_bitCount_0f7a4 : Spc := fun As g Q => match As with
  | [.int x] => Q (some (.int (bcI x))) g
  | _ => False

set_option maxRecDepth 20000 in
theorem oJ6_bitCount_0f7a4 : Ok 0 yJ6_bitCount_0f7a4 cJ6_bitCount_0f7a4 1 (some .int) pJ6_bitCount_0f7a4 := by
  refine ok_of (fun _ => false) 47 (fun _ _ _ _ _ _ _ _ => False) (by decide) rfl sJ6_bitCount_0f7a4 (fun As g Q h => ?_) (fun As g Q h => ?_) (fun _ _ _ _ _ _ _ _ _ h => h.elim)
  · simp only [pJ6_bitCount_0f7a4] at h
    split at h
    · exact ⟨Nat.le_of_ble_eq_true rfl, rfl⟩
    · exact h.elim
  · simp only [pJ6_bitCount_0f7a4] at h
    split at h
    · exact h
    · exact h.elim
def kX10_change : Nat → Stq := fun pc => if pc < 27 then (if pc < 13 then (if pc < 5 then (if pc < 1 then (if pc = 0 then s_ild 1 1 else s_bad) else (if pc < 2 then (if pc = 1 then s_push (.int (-1)) 2 else s_bad) else (if pc = 2 then s_icne 13 5 else s_bad))) else (if pc < 9 then (if pc < 6 then (if pc = 5 then s_ald 0 6 else s_bad) else (if pc = 6 then s_getf 9 0 9 else s_bad)) else (if pc < 12 then (if pc = 9 then s_getf 8 3 12 else s_bad) else (if pc = 12 then s_iret else s_bad)))) else (if pc < 19 then (if pc < 14 then (if pc = 13 then s_ild 1 14 else s_bad) else (if pc < 16 then (if pc = 14 then s_push (.int (-2)) 16 else s_bad) else (if pc = 16 then s_icne 27 19 else s_bad))) else (if pc < 23 then (if pc < 20 then (if pc = 19 then s_ald 0 20 else s_bad) else (if pc = 20 then s_getf 9 0 23 else s_bad)) else (if pc < 26 then (if pc = 23 then s_getf 8 4 26 else s_bad) else (if pc = 26 then s_iret else s_bad))))) else (if pc < 42 then (if pc < 32 then (if pc < 28 then (if pc = 27 then s_ild 1 28 else s_bad) else (if pc < 31 then (if pc = 28 then s_iflt 54 31 else s_bad) else (if pc = 31 then s_ild 1 32 else s_bad))) else (if pc < 36 then (if pc < 33 then (if pc = 32 then s_ald 0 33 else s_bad) else (if pc = 33 then s_getf 9 0 36 else s_bad)) else (if pc < 39 then (if pc = 36 then s_getf 8 2 39 else s_bad) else (if pc = 39 then s_icge 54 42 else s_bad)))) else (if pc < 50 then (if pc < 46 then (if pc < 43 then (if pc = 42 then s_ald 0 43 else s_bad) else (if pc = 43 then s_getf 9 0 46 else s_bad)) else (if pc < 49 then (if pc = 46 then s_getf 8 1 49 else s_bad) else (if pc = 49 then s_ild 1 50 else s_bad))) else (if pc < 54 then (if pc < 51 then (if pc = 50 then s_iald 51 else s_bad) else (if pc = 51 then s_goto 56 else s_bad)) else (if pc < 56 then (if pc = 54 then s_push (.int (-6)) 56 else s_bad) else (if pc = 56 then s_iret else s_bad)))))
set_option maxRecDepth 20000 in
theorem sX10_change : ∀ pc, Snd 0 RX10 cX10_change 2 (some .int) (inM "change") pc (kX10_change pc) := by
  have h0 : Snd 0 RX10 cX10_change 2 (some .int) (inM "change") 0 (s_ild 1 1) := snd_iload_n (j := 1) (by decide +kernel) rfl
  have h1 : Snd 0 RX10 cX10_change 2 (some .int) (inM "change") 1 (s_push (.int (-1)) 2) := snd_iconst (n := -1) (by decide +kernel) (by decide)
  have h2 : Snd 0 RX10 cX10_change 2 (some .int) (inM "change") 2 (s_icne 13 5) := snd_icne (off := 11) (by decide +kernel) (by decide)
  have h5 : Snd 0 RX10 cX10_change 2 (some .int) (inM "change") 5 (s_ald 0 6) := snd_aload_n (j := 0) (by decide +kernel) rfl
  have h6 : Snd 0 RX10 cX10_change 2 (some .int) (inM "change") 6 (s_getf 9 0 9) := snd_getf (T := TX10) (f := 0) cI_9 (by decide) g_361 (by decide +kernel)
  have h9 : Snd 0 RX10 cX10_change 2 (some .int) (inM "change") 9 (s_getf 8 3 12) := snd_getfN (T := TX9) (f := 3) cI_8 (by decide) g_110 (by decide +kernel)
  have h12 : Snd 0 RX10 cX10_change 2 (some .int) (inM "change") 12 (s_iret) := snd_iret (by decide +kernel)
  have h13 : Snd 0 RX10 cX10_change 2 (some .int) (inM "change") 13 (s_ild 1 14) := snd_iload_n (j := 1) (by decide +kernel) rfl
  have h14 : Snd 0 RX10 cX10_change 2 (some .int) (inM "change") 14 (s_push (.int (-2)) 16) := snd_bipush (n := -2) (by decide +kernel) (by decide)
  have h16 : Snd 0 RX10 cX10_change 2 (some .int) (inM "change") 16 (s_icne 27 19) := snd_icne (off := 11) (by decide +kernel) (by decide)
  have h19 : Snd 0 RX10 cX10_change 2 (some .int) (inM "change") 19 (s_ald 0 20) := snd_aload_n (j := 0) (by decide +kernel) rfl
  have h20 : Snd 0 RX10 cX10_change 2 (some .int) (inM "change") 20 (s_getf 9 0 23) := snd_getf (T := TX10) (f := 0) cI_9 (by decide) g_361 (by decide +kernel)
  have h23 : Snd 0 RX10 cX10_change 2 (some .int) (inM "change") 23 (s_getf 8 4 26) := snd_getfN (T := TX9) (f := 4) cI_8 (by decide) g_113 (by decide +kernel)
  have h26 : Snd 0 RX10 cX10_change 2 (some .int) (inM "change") 26 (s_iret) := snd_iret (by decide +kernel)
  have h27 : Snd 0 RX10 cX10_change 2 (some .int) (inM "change") 27 (s_ild 1 28) := snd_iload_n (j := 1) (by decide +kernel) rfl
  have h28 : Snd 0 RX10 cX10_change 2 (some .int) (inM "change") 28 (s_iflt 54 31) := snd_iflt (off := 26) (by decide +kernel) (by decide)
  have h31 : Snd 0 RX10 cX10_change 2 (some .int) (inM "change") 31 (s_ild 1 32) := snd_iload_n (j := 1) (by decide +kernel) rfl
  have h32 : Snd 0 RX10 cX10_change 2 (some .int) (inM "change") 32 (s_ald 0 33) := snd_aload_n (j := 0) (by decide +kernel) rfl
  have h33 : Snd 0 RX10 cX10_change 2 (some .int) (inM "change") 33 (s_getf 9 0 36) := snd_getf (T := TX10) (f := 0) cI_9 (by decide) g_361 (by decide +kernel)
  have h36 : Snd 0 RX10 cX10_change 2 (some .int) (inM "change") 36 (s_getf 8 2 39) := snd_getfN (T := TX9) (f := 2) cI_8 (by decide) g_107 (by decide +kernel)
  have h39 : Snd 0 RX10 cX10_change 2 (some .int) (inM "change") 39 (s_icge 54 42) := snd_icge (off := 15) (by decide +kernel) (by decide)
  have h42 : Snd 0 RX10 cX10_change 2 (some .int) (inM "change") 42 (s_ald 0 43) := snd_aload_n (j := 0) (by decide +kernel) rfl
  have h43 : Snd 0 RX10 cX10_change 2 (some .int) (inM "change") 43 (s_getf 9 0 46) := snd_getf (T := TX10) (f := 0) cI_9 (by decide) g_361 (by decide +kernel)
  have h46 : Snd 0 RX10 cX10_change 2 (some .int) (inM "change") 46 (s_getf 8 1 49) := snd_getfN (T := TX9) (f := 1) cI_8 (by decide) g_104 (by decide +kernel)
  have h49 : Snd 0 RX10 cX10_change 2 (some .int) (inM "change") 49 (s_ild 1 50) := snd_iload_n (j := 1) (by decide +kernel) rfl
  have h50 : Snd 0 RX10 cX10_change 2 (some .int) (inM "change") 50 (s_iald 51) := snd_iald (by decide +kernel)
  have h51 : Snd 0 RX10 cX10_change 2 (some .int) (inM "change") 51 (s_goto 56) := snd_goto (off := 5) (by decide +kernel) (by decide)
  have h54 : Snd 0 RX10 cX10_change 2 (some .int) (inM "change") 54 (s_push (.int (-6)) 56) := snd_bipush (n := -6) (by decide +kernel) (by decide)
  have h56 : Snd 0 RX10 cX10_change 2 (some .int) (inM "change") 56 (s_iret) := snd_iret (by decide +kernel)
  exact fun pc => snd_ite (snd_ite (snd_ite (snd_ite (snd_leaf (k := 0) h0) (snd_ite (snd_leaf (k := 1) h1) (snd_leaf (k := 2) h2))) (snd_ite (snd_ite (snd_leaf (k := 5) h5) (snd_leaf (k := 6) h6)) (snd_ite (snd_leaf (k := 9) h9) (snd_leaf (k := 12) h12)))) (snd_ite (snd_ite (snd_leaf (k := 13) h13) (snd_ite (snd_leaf (k := 14) h14) (snd_leaf (k := 16) h16))) (snd_ite (snd_ite (snd_leaf (k := 19) h19) (snd_leaf (k := 20) h20)) (snd_ite (snd_leaf (k := 23) h23) (snd_leaf (k := 26) h26))))) (snd_ite (snd_ite (snd_ite (snd_leaf (k := 27) h27) (snd_ite (snd_leaf (k := 28) h28) (snd_leaf (k := 31) h31))) (snd_ite (snd_ite (snd_leaf (k := 32) h32) (snd_leaf (k := 33) h33)) (snd_ite (snd_leaf (k := 36) h36) (snd_leaf (k := 39) h39)))) (snd_ite (snd_ite (snd_ite (snd_leaf (k := 42) h42) (snd_leaf (k := 43) h43)) (snd_ite (snd_leaf (k := 46) h46) (snd_leaf (k := 49) h49))) (snd_ite (snd_ite (snd_leaf (k := 50) h50) (snd_leaf (k := 51) h51)) (snd_ite (snd_leaf (k := 54) h54) (snd_leaf (k := 56) h56)))))
def pX10_change : Spc := inl kX10_change 2 34
theorem oX10_change : Ok 0 yX10_change cX10_change 2 (some .int) pX10_change := ok_inl (by decide) rfl sX10_change

def kX10_count : Nat → Stq := fun pc => if pc < 53 then (if pc < 43 then (if pc < 36 then (if pc < 1 then (if pc = 0 then s_ild 1 1 else s_bad) else (if pc = 1 then s_sw [(0, 36), (1, 44), (2, 52), (3, 60), (4, 68)] 73 else s_bad)) else (if pc < 37 then (if pc = 36 then s_ald 0 37 else s_bad) else (if pc < 40 then (if pc = 37 then s_getf 9 0 40 else s_bad) else (if pc = 40 then s_getf 8 0 43 else s_bad)))) else (if pc < 48 then (if pc < 44 then (if pc = 43 then s_iret else s_bad) else (if pc < 45 then (if pc = 44 then s_ald 0 45 else s_bad) else (if pc = 45 then s_getf 9 0 48 else s_bad))) else (if pc < 51 then (if pc = 48 then s_getf 8 2 51 else s_bad) else (if pc < 52 then (if pc = 51 then s_iret else s_bad) else (if pc = 52 then s_ald 0 53 else s_bad))))) else (if pc < 67 then (if pc < 60 then (if pc < 56 then (if pc = 53 then s_getf 9 0 56 else s_bad) else (if pc < 59 then (if pc = 56 then s_getf 8 6 59 else s_bad) else (if pc = 59 then s_iret else s_bad))) else (if pc < 61 then (if pc = 60 then s_ald 0 61 else s_bad) else (if pc < 64 then (if pc = 61 then s_getf 9 4 64 else s_bad) else (if pc = 64 then s_getf 4 1 67 else s_bad)))) else (if pc < 72 then (if pc < 68 then (if pc = 67 then s_iret else s_bad) else (if pc < 69 then (if pc = 68 then s_ald 0 69 else s_bad) else (if pc = 69 then s_getf 9 3 72 else s_bad))) else (if pc < 73 then (if pc = 72 then s_iret else s_bad) else (if pc < 75 then (if pc = 73 then s_push (.int (-2)) 75 else s_bad) else (if pc = 75 then s_iret else s_bad)))))
set_option maxRecDepth 20000 in
theorem sX10_count : ∀ pc, Snd 0 RX10 cX10_count 2 (some .int) (inM "count") pc (kX10_count pc) := by
  have h0 : Snd 0 RX10 cX10_count 2 (some .int) (inM "count") 0 (s_ild 1 1) := snd_iload_n (j := 1) (by decide +kernel) rfl
  have h1 : Snd 0 RX10 cX10_count 2 (some .int) (inM "count") 1 (s_sw [(0, 36), (1, 44), (2, 52), (3, 60), (4, 68)] 73) := snd_tsw (dflt := 72) (lo := 0) (hi := 4) (offs := #[35, 43, 51, 59, 67]) (len := 35) [(0, 36), (1, 44), (2, 52), (3, 60), (4, 68)] (by decide +kernel) (by decide) (by decide +kernel) (by decide +kernel)
  have h36 : Snd 0 RX10 cX10_count 2 (some .int) (inM "count") 36 (s_ald 0 37) := snd_aload_n (j := 0) (by decide +kernel) rfl
  have h37 : Snd 0 RX10 cX10_count 2 (some .int) (inM "count") 37 (s_getf 9 0 40) := snd_getf (T := TX10) (f := 0) cI_9 (by decide) g_361 (by decide +kernel)
  have h40 : Snd 0 RX10 cX10_count 2 (some .int) (inM "count") 40 (s_getf 8 0 43) := snd_getfN (T := TX9) (f := 0) cI_8 (by decide) g_101 (by decide +kernel)
  have h43 : Snd 0 RX10 cX10_count 2 (some .int) (inM "count") 43 (s_iret) := snd_iret (by decide +kernel)
  have h44 : Snd 0 RX10 cX10_count 2 (some .int) (inM "count") 44 (s_ald 0 45) := snd_aload_n (j := 0) (by decide +kernel) rfl
  have h45 : Snd 0 RX10 cX10_count 2 (some .int) (inM "count") 45 (s_getf 9 0 48) := snd_getf (T := TX10) (f := 0) cI_9 (by decide) g_361 (by decide +kernel)
  have h48 : Snd 0 RX10 cX10_count 2 (some .int) (inM "count") 48 (s_getf 8 2 51) := snd_getfN (T := TX9) (f := 2) cI_8 (by decide) g_107 (by decide +kernel)
  have h51 : Snd 0 RX10 cX10_count 2 (some .int) (inM "count") 51 (s_iret) := snd_iret (by decide +kernel)
  have h52 : Snd 0 RX10 cX10_count 2 (some .int) (inM "count") 52 (s_ald 0 53) := snd_aload_n (j := 0) (by decide +kernel) rfl
  have h53 : Snd 0 RX10 cX10_count 2 (some .int) (inM "count") 53 (s_getf 9 0 56) := snd_getf (T := TX10) (f := 0) cI_9 (by decide) g_361 (by decide +kernel)
  have h56 : Snd 0 RX10 cX10_count 2 (some .int) (inM "count") 56 (s_getf 8 6 59) := snd_getfN (T := TX9) (f := 6) cI_8 (by decide) g_119 (by decide +kernel)
  have h59 : Snd 0 RX10 cX10_count 2 (some .int) (inM "count") 59 (s_iret) := snd_iret (by decide +kernel)
  have h60 : Snd 0 RX10 cX10_count 2 (some .int) (inM "count") 60 (s_ald 0 61) := snd_aload_n (j := 0) (by decide +kernel) rfl
  have h61 : Snd 0 RX10 cX10_count 2 (some .int) (inM "count") 61 (s_getf 9 4 64) := snd_getf (T := TX10) (f := 4) cI_9 (by decide) g_365 (by decide +kernel)
  have h64 : Snd 0 RX10 cX10_count 2 (some .int) (inM "count") 64 (s_getf 4 1 67) := snd_getfN (T := TX4) (f := 1) cI_4 (by decide) g_146 (by decide +kernel)
  have h67 : Snd 0 RX10 cX10_count 2 (some .int) (inM "count") 67 (s_iret) := snd_iret (by decide +kernel)
  have h68 : Snd 0 RX10 cX10_count 2 (some .int) (inM "count") 68 (s_ald 0 69) := snd_aload_n (j := 0) (by decide +kernel) rfl
  have h69 : Snd 0 RX10 cX10_count 2 (some .int) (inM "count") 69 (s_getf 9 3 72) := snd_getf (T := TX10) (f := 3) cI_9 (by decide) g_364 (by decide +kernel)
  have h72 : Snd 0 RX10 cX10_count 2 (some .int) (inM "count") 72 (s_iret) := snd_iret (by decide +kernel)
  have h73 : Snd 0 RX10 cX10_count 2 (some .int) (inM "count") 73 (s_push (.int (-2)) 75) := snd_bipush (n := -2) (by decide +kernel) (by decide)
  have h75 : Snd 0 RX10 cX10_count 2 (some .int) (inM "count") 75 (s_iret) := snd_iret (by decide +kernel)
  exact fun pc => snd_ite (snd_ite (snd_ite (snd_ite (snd_leaf (k := 0) h0) (snd_leaf (k := 1) h1)) (snd_ite (snd_leaf (k := 36) h36) (snd_ite (snd_leaf (k := 37) h37) (snd_leaf (k := 40) h40)))) (snd_ite (snd_ite (snd_leaf (k := 43) h43) (snd_ite (snd_leaf (k := 44) h44) (snd_leaf (k := 45) h45))) (snd_ite (snd_leaf (k := 48) h48) (snd_ite (snd_leaf (k := 51) h51) (snd_leaf (k := 52) h52))))) (snd_ite (snd_ite (snd_ite (snd_leaf (k := 53) h53) (snd_ite (snd_leaf (k := 56) h56) (snd_leaf (k := 59) h59))) (snd_ite (snd_leaf (k := 60) h60) (snd_ite (snd_leaf (k := 61) h61) (snd_leaf (k := 64) h64)))) (snd_ite (snd_ite (snd_leaf (k := 67) h67) (snd_ite (snd_leaf (k := 68) h68) (snd_leaf (k := 69) h69))) (snd_ite (snd_leaf (k := 72) h72) (snd_ite (snd_leaf (k := 73) h73) (snd_leaf (k := 75) h75)))))
def pX10_count : Spc := inl kX10_count 2 28
theorem oX10_count : Ok 0 yX10_count cX10_count 2 (some .int) pX10_count := ok_inl (by decide) rfl sX10_count

def kX10_hasMethod : Nat → Stq := fun pc => if pc < 10 then (if pc < 4 then (if pc < 1 then (if pc = 0 then s_ald 0 1 else s_bad) else (if pc = 1 then s_getf 9 0 4 else s_bad)) else (if pc < 7 then (if pc = 4 then s_getf 8 2 7 else s_bad) else (if pc = 7 then s_ifle 14 10 else s_bad))) else (if pc < 14 then (if pc < 11 then (if pc = 10 then s_push (.int 1) 11 else s_bad) else (if pc = 11 then s_goto 15 else s_bad)) else (if pc < 15 then (if pc = 14 then s_push (.int 0) 15 else s_bad) else (if pc = 15 then s_zret else s_bad)))
set_option maxRecDepth 20000 in
theorem sX10_hasMethod : ∀ pc, Snd 0 RX10 cX10_hasMethod 1 (some .boolean) (inM "hasMethod") pc (kX10_hasMethod pc) := by
  have h0 : Snd 0 RX10 cX10_hasMethod 1 (some .boolean) (inM "hasMethod") 0 (s_ald 0 1) := snd_aload_n (j := 0) (by decide +kernel) rfl
  have h1 : Snd 0 RX10 cX10_hasMethod 1 (some .boolean) (inM "hasMethod") 1 (s_getf 9 0 4) := snd_getf (T := TX10) (f := 0) cI_9 (by decide) g_361 (by decide +kernel)
  have h4 : Snd 0 RX10 cX10_hasMethod 1 (some .boolean) (inM "hasMethod") 4 (s_getf 8 2 7) := snd_getfN (T := TX9) (f := 2) cI_8 (by decide) g_107 (by decide +kernel)
  have h7 : Snd 0 RX10 cX10_hasMethod 1 (some .boolean) (inM "hasMethod") 7 (s_ifle 14 10) := snd_ifle (off := 7) (by decide +kernel) (by decide)
  have h10 : Snd 0 RX10 cX10_hasMethod 1 (some .boolean) (inM "hasMethod") 10 (s_push (.int 1) 11) := snd_iconst (n := 1) (by decide +kernel) (by decide)
  have h11 : Snd 0 RX10 cX10_hasMethod 1 (some .boolean) (inM "hasMethod") 11 (s_goto 15) := snd_goto (off := 4) (by decide +kernel) (by decide)
  have h14 : Snd 0 RX10 cX10_hasMethod 1 (some .boolean) (inM "hasMethod") 14 (s_push (.int 0) 15) := snd_iconst (n := 0) (by decide +kernel) (by decide)
  have h15 : Snd 0 RX10 cX10_hasMethod 1 (some .boolean) (inM "hasMethod") 15 (s_zret) := snd_zret (by decide +kernel)
  exact fun pc => snd_ite (snd_ite (snd_ite (snd_leaf (k := 0) h0) (snd_leaf (k := 1) h1)) (snd_ite (snd_leaf (k := 4) h4) (snd_leaf (k := 7) h7))) (snd_ite (snd_ite (snd_leaf (k := 10) h10) (snd_leaf (k := 11) h11)) (snd_ite (snd_leaf (k := 14) h14) (snd_leaf (k := 15) h15)))
def pX10_hasMethod : Spc := inl kX10_hasMethod 1 13
theorem oX10_hasMethod : Ok 0 yX10_hasMethod cX10_hasMethod 1 (some .boolean) pX10_hasMethod := ok_inl (by decide) rfl sX10_hasMethod

def kX10_hasMethodAndTouch : Nat → Stq := fun pc => if pc < 14 then (if pc < 7 then (if pc < 1 then (if pc = 0 then s_ald 0 1 else s_bad) else (if pc < 4 then (if pc = 1 then s_getf 9 0 4 else s_bad) else (if pc = 4 then s_getf 8 2 7 else s_bad))) else (if pc < 10 then (if pc = 7 then s_ifle 24 10 else s_bad) else (if pc < 11 then (if pc = 10 then s_ald 0 11 else s_bad) else (if pc = 11 then s_getf 9 0 14 else s_bad)))) else (if pc < 21 then (if pc < 17 then (if pc = 14 then s_getf 8 6 17 else s_bad) else (if pc < 20 then (if pc = 17 then s_ifle 24 20 else s_bad) else (if pc = 20 then s_push (.int 1) 21 else s_bad))) else (if pc < 24 then (if pc = 21 then s_goto 25 else s_bad) else (if pc < 25 then (if pc = 24 then s_push (.int 0) 25 else s_bad) else (if pc = 25 then s_zret else s_bad))))
set_option maxRecDepth 20000 in
theorem sX10_hasMethodAndTouch : ∀ pc, Snd 0 RX10 cX10_hasMethodAndTouch 1 (some .boolean) (inM "hasMethodAndTouch") pc (kX10_hasMethodAndTouch pc) := by
  have h0 : Snd 0 RX10 cX10_hasMethodAndTouch 1 (some .boolean) (inM "hasMethodAndTouch") 0 (s_ald 0 1) := snd_aload_n (j := 0) (by decide +kernel) rfl
  have h1 : Snd 0 RX10 cX10_hasMethodAndTouch 1 (some .boolean) (inM "hasMethodAndTouch") 1 (s_getf 9 0 4) := snd_getf (T := TX10) (f := 0) cI_9 (by decide) g_361 (by decide +kernel)
  have h4 : Snd 0 RX10 cX10_hasMethodAndTouch 1 (some .boolean) (inM "hasMethodAndTouch") 4 (s_getf 8 2 7) := snd_getfN (T := TX9) (f := 2) cI_8 (by decide) g_107 (by decide +kernel)
  have h7 : Snd 0 RX10 cX10_hasMethodAndTouch 1 (some .boolean) (inM "hasMethodAndTouch") 7 (s_ifle 24 10) := snd_ifle (off := 17) (by decide +kernel) (by decide)
  have h10 : Snd 0 RX10 cX10_hasMethodAndTouch 1 (some .boolean) (inM "hasMethodAndTouch") 10 (s_ald 0 11) := snd_aload_n (j := 0) (by decide +kernel) rfl
  have h11 : Snd 0 RX10 cX10_hasMethodAndTouch 1 (some .boolean) (inM "hasMethodAndTouch") 11 (s_getf 9 0 14) := snd_getf (T := TX10) (f := 0) cI_9 (by decide) g_361 (by decide +kernel)
  have h14 : Snd 0 RX10 cX10_hasMethodAndTouch 1 (some .boolean) (inM "hasMethodAndTouch") 14 (s_getf 8 6 17) := snd_getfN (T := TX9) (f := 6) cI_8 (by decide) g_119 (by decide +kernel)
  have h17 : Snd 0 RX10 cX10_hasMethodAndTouch 1 (some .boolean) (inM "hasMethodAndTouch") 17 (s_ifle 24 20) := snd_ifle (off := 7) (by decide +kernel) (by decide)
  have h20 : Snd 0 RX10 cX10_hasMethodAndTouch 1 (some .boolean) (inM "hasMethodAndTouch") 20 (s_push (.int 1) 21) := snd_iconst (n := 1) (by decide +kernel) (by decide)
  have h21 : Snd 0 RX10 cX10_hasMethodAndTouch 1 (some .boolean) (inM "hasMethodAndTouch") 21 (s_goto 25) := snd_goto (off := 4) (by decide +kernel) (by decide)
  have h24 : Snd 0 RX10 cX10_hasMethodAndTouch 1 (some .boolean) (inM "hasMethodAndTouch") 24 (s_push (.int 0) 25) := snd_iconst (n := 0) (by decide +kernel) (by decide)
  have h25 : Snd 0 RX10 cX10_hasMethodAndTouch 1 (some .boolean) (inM "hasMethodAndTouch") 25 (s_zret) := snd_zret (by decide +kernel)
  exact fun pc => snd_ite (snd_ite (snd_ite (snd_leaf (k := 0) h0) (snd_ite (snd_leaf (k := 1) h1) (snd_leaf (k := 4) h4))) (snd_ite (snd_leaf (k := 7) h7) (snd_ite (snd_leaf (k := 10) h10) (snd_leaf (k := 11) h11)))) (snd_ite (snd_ite (snd_leaf (k := 14) h14) (snd_ite (snd_leaf (k := 17) h17) (snd_leaf (k := 20) h20))) (snd_ite (snd_leaf (k := 21) h21) (snd_ite (snd_leaf (k := 24) h24) (snd_leaf (k := 25) h25))))
def pX10_hasMethodAndTouch : Spc := inl kX10_hasMethodAndTouch 1 17
theorem oX10_hasMethodAndTouch : Ok 0 yX10_hasMethodAndTouch cX10_hasMethodAndTouch 1 (some .boolean) pX10_hasMethodAndTouch := ok_inl (by decide) rfl sX10_hasMethodAndTouch

def kX10_imageOf : Nat → Stq := fun pc => if pc < 8 then (if pc < 4 then (if pc < 1 then (if pc = 0 then s_ild 1 1 else s_bad) else (if pc = 1 then s_ifne 11 4 else s_bad)) else (if pc < 5 then (if pc = 4 then s_ald 0 5 else s_bad) else (if pc = 5 then s_getf 9 1 8 else s_bad))) else (if pc < 12 then (if pc < 11 then (if pc = 8 then s_goto 15 else s_bad) else (if pc = 11 then s_ald 0 12 else s_bad)) else (if pc < 15 then (if pc = 12 then s_getf 9 2 15 else s_bad) else (if pc = 15 then s_aret else s_bad)))
set_option maxRecDepth 20000 in
theorem sX10_imageOf : ∀ pc, Snd 0 RX10 cX10_imageOf 2 (some (.object "BellTouches$Setting")) (inM "imageOf") pc (kX10_imageOf pc) := by
  have h0 : Snd 0 RX10 cX10_imageOf 2 (some (.object "BellTouches$Setting")) (inM "imageOf") 0 (s_ild 1 1) := snd_iload_n (j := 1) (by decide +kernel) rfl
  have h1 : Snd 0 RX10 cX10_imageOf 2 (some (.object "BellTouches$Setting")) (inM "imageOf") 1 (s_ifne 11 4) := snd_ifne (off := 10) (by decide +kernel) (by decide)
  have h4 : Snd 0 RX10 cX10_imageOf 2 (some (.object "BellTouches$Setting")) (inM "imageOf") 4 (s_ald 0 5) := snd_aload_n (j := 0) (by decide +kernel) rfl
  have h5 : Snd 0 RX10 cX10_imageOf 2 (some (.object "BellTouches$Setting")) (inM "imageOf") 5 (s_getf 9 1 8) := snd_getf (T := TX10) (f := 1) cI_9 (by decide) g_362 (by decide +kernel)
  have h8 : Snd 0 RX10 cX10_imageOf 2 (some (.object "BellTouches$Setting")) (inM "imageOf") 8 (s_goto 15) := snd_goto (off := 7) (by decide +kernel) (by decide)
  have h11 : Snd 0 RX10 cX10_imageOf 2 (some (.object "BellTouches$Setting")) (inM "imageOf") 11 (s_ald 0 12) := snd_aload_n (j := 0) (by decide +kernel) rfl
  have h12 : Snd 0 RX10 cX10_imageOf 2 (some (.object "BellTouches$Setting")) (inM "imageOf") 12 (s_getf 9 2 15) := snd_getf (T := TX10) (f := 2) cI_9 (by decide) g_363 (by decide +kernel)
  have h15 : Snd 0 RX10 cX10_imageOf 2 (some (.object "BellTouches$Setting")) (inM "imageOf") 15 (s_aret) := snd_aret (by decide +kernel)
  exact fun pc => snd_ite (snd_ite (snd_ite (snd_leaf (k := 0) h0) (snd_leaf (k := 1) h1)) (snd_ite (snd_leaf (k := 4) h4) (snd_leaf (k := 5) h5))) (snd_ite (snd_ite (snd_leaf (k := 8) h8) (snd_leaf (k := 11) h11)) (snd_ite (snd_leaf (k := 12) h12) (snd_leaf (k := 15) h15)))
def pX10_imageOf : Spc := inl kX10_imageOf 2 13
theorem oX10_imageOf : Ok 0 yX10_imageOf cX10_imageOf 2 (some (.object "BellTouches$Setting")) pX10_imageOf := ok_inl (by decide) rfl sX10_imageOf

def kX10_wipe : Nat → Stq := fun pc => if pc < 9 then (if pc < 4 then (if pc < 1 then (if pc = 0 then s_ald 0 1 else s_bad) else (if pc = 1 then s_getf 9 4 4 else s_bad)) else (if pc < 7 then (if pc = 4 then s_getf 4 1 7 else s_bad) else (if pc < 8 then (if pc = 7 then s_ist 1 8 else s_bad) else (if pc = 8 then s_ald 0 9 else s_bad)))) else (if pc < 13 then (if pc < 12 then (if pc = 9 then s_getf 9 4 12 else s_bad) else (if pc = 12 then s_push (.int 0) 13 else s_bad)) else (if pc < 16 then (if pc = 13 then s_puti 4 1 16 else s_bad) else (if pc < 17 then (if pc = 16 then s_ild 1 17 else s_bad) else (if pc = 17 then s_iret else s_bad))))
set_option maxRecDepth 20000 in
theorem sX10_wipe : ∀ pc, Snd 0 RX10 cX10_wipe 2 (some .int) (inM "wipe") pc (kX10_wipe pc) := by
  have h0 : Snd 0 RX10 cX10_wipe 2 (some .int) (inM "wipe") 0 (s_ald 0 1) := snd_aload_n (j := 0) (by decide +kernel) rfl
  have h1 : Snd 0 RX10 cX10_wipe 2 (some .int) (inM "wipe") 1 (s_getf 9 4 4) := snd_getf (T := TX10) (f := 4) cI_9 (by decide) g_365 (by decide +kernel)
  have h4 : Snd 0 RX10 cX10_wipe 2 (some .int) (inM "wipe") 4 (s_getf 4 1 7) := snd_getfN (T := TX4) (f := 1) cI_4 (by decide) g_146 (by decide +kernel)
  have h7 : Snd 0 RX10 cX10_wipe 2 (some .int) (inM "wipe") 7 (s_ist 1 8) := snd_istore_n (j := 1) (by decide +kernel) rfl
  have h8 : Snd 0 RX10 cX10_wipe 2 (some .int) (inM "wipe") 8 (s_ald 0 9) := snd_aload_n (j := 0) (by decide +kernel) rfl
  have h9 : Snd 0 RX10 cX10_wipe 2 (some .int) (inM "wipe") 9 (s_getf 9 4 12) := snd_getf (T := TX10) (f := 4) cI_9 (by decide) g_365 (by decide +kernel)
  have h12 : Snd 0 RX10 cX10_wipe 2 (some .int) (inM "wipe") 12 (s_push (.int 0) 13) := snd_iconst (n := 0) (by decide +kernel) (by decide)
  have h13 : Snd 0 RX10 cX10_wipe 2 (some .int) (inM "wipe") 13 (s_puti 4 1 16) := snd_putiN (T := TX4) (f := 1) cI_4 (by decide) g_146 (by decide) (by decide +kernel) (by decide +kernel)
  have h16 : Snd 0 RX10 cX10_wipe 2 (some .int) (inM "wipe") 16 (s_ild 1 17) := snd_iload_n (j := 1) (by decide +kernel) rfl
  have h17 : Snd 0 RX10 cX10_wipe 2 (some .int) (inM "wipe") 17 (s_iret) := snd_iret (by decide +kernel)
  exact fun pc => snd_ite (snd_ite (snd_ite (snd_leaf (k := 0) h0) (snd_leaf (k := 1) h1)) (snd_ite (snd_leaf (k := 4) h4) (snd_ite (snd_leaf (k := 7) h7) (snd_leaf (k := 8) h8)))) (snd_ite (snd_ite (snd_leaf (k := 9) h9) (snd_leaf (k := 12) h12)) (snd_ite (snd_leaf (k := 13) h13) (snd_ite (snd_leaf (k := 16) h16) (snd_leaf (k := 17) h17))))
def pX10_wipe : Spc := inl kX10_wipe 2 15
theorem oX10_wipe : Ok 0 yX10_wipe cX10_wipe 2 (some .int) pX10_wipe := ok_inl (by decide) rfl sX10_wipe

def kX0_forget : Nat → Stq := fun pc => if pc < 2 then (if pc < 1 then (if pc = 0 then s_ald 0 1 else s_bad) else (if pc = 1 then s_push (.int 0) 2 else s_bad)) else (if pc < 5 then (if pc = 2 then s_putz 0 3 5 else s_bad) else (if pc = 5 then s_vret else s_bad))
set_option maxRecDepth 20000 in
theorem sX0_forget : ∀ pc, Snd 0 RX0 cX0_forget 1 none (inM "forget") pc (kX0_forget pc) := by
  have h0 : Snd 0 RX0 cX0_forget 1 none (inM "forget") 0 (s_ald 0 1) := snd_aload_n (j := 0) (by decide +kernel) rfl
  have h1 : Snd 0 RX0 cX0_forget 1 none (inM "forget") 1 (s_push (.int 0) 2) := snd_iconst (n := 0) (by decide +kernel) (by decide)
  have h2 : Snd 0 RX0 cX0_forget 1 none (inM "forget") 2 (s_putz 0 3 5) := snd_putz (T := TX0) (f := 3) cI_0 (by decide) g_270 (by decide) (by decide +kernel) (by decide +kernel)
  have h5 : Snd 0 RX0 cX0_forget 1 none (inM "forget") 5 (s_vret) := snd_vret (by decide +kernel)
  exact fun pc => snd_ite (snd_ite (snd_leaf (k := 0) h0) (snd_leaf (k := 1) h1)) (snd_ite (snd_leaf (k := 2) h2) (snd_leaf (k := 5) h5))
def pX0_forget : Spc := inl kX0_forget 1 9
theorem oX0_forget : Ok 0 yX0_forget cX0_forget 1 none pX0_forget := ok_inl (by decide) rfl sX0_forget

def kX0_numberAt : Nat → Stq := fun pc => if pc < 12 then (if pc < 5 then (if pc < 1 then (if pc = 0 then s_ild 1 1 else s_bad) else (if pc < 4 then (if pc = 1 then s_iflt 21 4 else s_bad) else (if pc = 4 then s_ild 1 5 else s_bad))) else (if pc < 6 then (if pc = 5 then s_ald 0 6 else s_bad) else (if pc < 9 then (if pc = 6 then s_getf 0 2 9 else s_bad) else (if pc = 9 then s_icge 21 12 else s_bad)))) else (if pc < 17 then (if pc < 13 then (if pc = 12 then s_ald 0 13 else s_bad) else (if pc < 16 then (if pc = 13 then s_getf 0 1 16 else s_bad) else (if pc = 16 then s_ild 1 17 else s_bad))) else (if pc < 21 then (if pc < 18 then (if pc = 17 then s_iald 18 else s_bad) else (if pc = 18 then s_goto 23 else s_bad)) else (if pc < 23 then (if pc = 21 then s_push (.int (-6)) 23 else s_bad) else (if pc = 23 then s_iret else s_bad))))
set_option maxRecDepth 20000 in
theorem sX0_numberAt : ∀ pc, Snd 0 RX0 cX0_numberAt 2 (some .int) (inM "numberAt") pc (kX0_numberAt pc) := by
  have h0 : Snd 0 RX0 cX0_numberAt 2 (some .int) (inM "numberAt") 0 (s_ild 1 1) := snd_iload_n (j := 1) (by decide +kernel) rfl
  have h1 : Snd 0 RX0 cX0_numberAt 2 (some .int) (inM "numberAt") 1 (s_iflt 21 4) := snd_iflt (off := 20) (by decide +kernel) (by decide)
  have h4 : Snd 0 RX0 cX0_numberAt 2 (some .int) (inM "numberAt") 4 (s_ild 1 5) := snd_iload_n (j := 1) (by decide +kernel) rfl
  have h5 : Snd 0 RX0 cX0_numberAt 2 (some .int) (inM "numberAt") 5 (s_ald 0 6) := snd_aload_n (j := 0) (by decide +kernel) rfl
  have h6 : Snd 0 RX0 cX0_numberAt 2 (some .int) (inM "numberAt") 6 (s_getf 0 2 9) := snd_getf (T := TX0) (f := 2) cI_0 (by decide) g_268 (by decide +kernel)
  have h9 : Snd 0 RX0 cX0_numberAt 2 (some .int) (inM "numberAt") 9 (s_icge 21 12) := snd_icge (off := 12) (by decide +kernel) (by decide)
  have h12 : Snd 0 RX0 cX0_numberAt 2 (some .int) (inM "numberAt") 12 (s_ald 0 13) := snd_aload_n (j := 0) (by decide +kernel) rfl
  have h13 : Snd 0 RX0 cX0_numberAt 2 (some .int) (inM "numberAt") 13 (s_getf 0 1 16) := snd_getf (T := TX0) (f := 1) cI_0 (by decide) g_267 (by decide +kernel)
  have h16 : Snd 0 RX0 cX0_numberAt 2 (some .int) (inM "numberAt") 16 (s_ild 1 17) := snd_iload_n (j := 1) (by decide +kernel) rfl
  have h17 : Snd 0 RX0 cX0_numberAt 2 (some .int) (inM "numberAt") 17 (s_iald 18) := snd_iald (by decide +kernel)
  have h18 : Snd 0 RX0 cX0_numberAt 2 (some .int) (inM "numberAt") 18 (s_goto 23) := snd_goto (off := 5) (by decide +kernel) (by decide)
  have h21 : Snd 0 RX0 cX0_numberAt 2 (some .int) (inM "numberAt") 21 (s_push (.int (-6)) 23) := snd_bipush (n := -6) (by decide +kernel) (by decide)
  have h23 : Snd 0 RX0 cX0_numberAt 2 (some .int) (inM "numberAt") 23 (s_iret) := snd_iret (by decide +kernel)
  exact fun pc => snd_ite (snd_ite (snd_ite (snd_leaf (k := 0) h0) (snd_ite (snd_leaf (k := 1) h1) (snd_leaf (k := 4) h4))) (snd_ite (snd_leaf (k := 5) h5) (snd_ite (snd_leaf (k := 6) h6) (snd_leaf (k := 9) h9)))) (snd_ite (snd_ite (snd_leaf (k := 12) h12) (snd_ite (snd_leaf (k := 13) h13) (snd_leaf (k := 16) h16))) (snd_ite (snd_ite (snd_leaf (k := 17) h17) (snd_leaf (k := 18) h18)) (snd_ite (snd_leaf (k := 21) h21) (snd_leaf (k := 23) h23))))
def pX0_numberAt : Spc := inl kX0_numberAt 2 18
theorem oX0_numberAt : Ok 0 yX0_numberAt cX0_numberAt 2 (some .int) pX0_numberAt := ok_inl (by decide) rfl sX0_numberAt

def kX1_endOf : Nat → Stq := fun pc => if pc < 11 then (if pc < 5 then (if pc < 1 then (if pc = 0 then s_ild 1 1 else s_bad) else (if pc < 4 then (if pc = 1 then s_ifne 9 4 else s_bad) else (if pc = 4 then s_ald 0 5 else s_bad))) else (if pc < 9 then (if pc < 8 then (if pc = 5 then s_getf 1 5 8 else s_bad) else (if pc = 8 then s_iret else s_bad)) else (if pc < 10 then (if pc = 9 then s_ild 1 10 else s_bad) else (if pc = 10 then s_push (.int 1) 11 else s_bad)))) else (if pc < 18 then (if pc < 14 then (if pc = 11 then s_icne 21 14 else s_bad) else (if pc < 15 then (if pc = 14 then s_ald 0 15 else s_bad) else (if pc = 15 then s_getf 1 6 18 else s_bad))) else (if pc < 22 then (if pc < 21 then (if pc = 18 then s_goto 25 else s_bad) else (if pc = 21 then s_ald 0 22 else s_bad)) else (if pc < 25 then (if pc = 22 then s_getf 1 7 25 else s_bad) else (if pc = 25 then s_iret else s_bad))))
set_option maxRecDepth 20000 in
theorem sX1_endOf : ∀ pc, Snd 0 RX1 cX1_endOf 2 (some .int) (inM "endOf") pc (kX1_endOf pc) := by
  have h0 : Snd 0 RX1 cX1_endOf 2 (some .int) (inM "endOf") 0 (s_ild 1 1) := snd_iload_n (j := 1) (by decide +kernel) rfl
  have h1 : Snd 0 RX1 cX1_endOf 2 (some .int) (inM "endOf") 1 (s_ifne 9 4) := snd_ifne (off := 8) (by decide +kernel) (by decide)
  have h4 : Snd 0 RX1 cX1_endOf 2 (some .int) (inM "endOf") 4 (s_ald 0 5) := snd_aload_n (j := 0) (by decide +kernel) rfl
  have h5 : Snd 0 RX1 cX1_endOf 2 (some .int) (inM "endOf") 5 (s_getf 1 5 8) := snd_getf (T := TX1) (f := 5) cI_1 (by decide) g_203 (by decide +kernel)
  have h8 : Snd 0 RX1 cX1_endOf 2 (some .int) (inM "endOf") 8 (s_iret) := snd_iret (by decide +kernel)
  have h9 : Snd 0 RX1 cX1_endOf 2 (some .int) (inM "endOf") 9 (s_ild 1 10) := snd_iload_n (j := 1) (by decide +kernel) rfl
  have h10 : Snd 0 RX1 cX1_endOf 2 (some .int) (inM "endOf") 10 (s_push (.int 1) 11) := snd_iconst (n := 1) (by decide +kernel) (by decide)
  have h11 : Snd 0 RX1 cX1_endOf 2 (some .int) (inM "endOf") 11 (s_icne 21 14) := snd_icne (off := 10) (by decide +kernel) (by decide)
  have h14 : Snd 0 RX1 cX1_endOf 2 (some .int) (inM "endOf") 14 (s_ald 0 15) := snd_aload_n (j := 0) (by decide +kernel) rfl
  have h15 : Snd 0 RX1 cX1_endOf 2 (some .int) (inM "endOf") 15 (s_getf 1 6 18) := snd_getf (T := TX1) (f := 6) cI_1 (by decide) g_204 (by decide +kernel)
  have h18 : Snd 0 RX1 cX1_endOf 2 (some .int) (inM "endOf") 18 (s_goto 25) := snd_goto (off := 7) (by decide +kernel) (by decide)
  have h21 : Snd 0 RX1 cX1_endOf 2 (some .int) (inM "endOf") 21 (s_ald 0 22) := snd_aload_n (j := 0) (by decide +kernel) rfl
  have h22 : Snd 0 RX1 cX1_endOf 2 (some .int) (inM "endOf") 22 (s_getf 1 7 25) := snd_getf (T := TX1) (f := 7) cI_1 (by decide) g_205 (by decide +kernel)
  have h25 : Snd 0 RX1 cX1_endOf 2 (some .int) (inM "endOf") 25 (s_iret) := snd_iret (by decide +kernel)
  exact fun pc => snd_ite (snd_ite (snd_ite (snd_leaf (k := 0) h0) (snd_ite (snd_leaf (k := 1) h1) (snd_leaf (k := 4) h4))) (snd_ite (snd_ite (snd_leaf (k := 5) h5) (snd_leaf (k := 8) h8)) (snd_ite (snd_leaf (k := 9) h9) (snd_leaf (k := 10) h10)))) (snd_ite (snd_ite (snd_leaf (k := 11) h11) (snd_ite (snd_leaf (k := 14) h14) (snd_leaf (k := 15) h15))) (snd_ite (snd_ite (snd_leaf (k := 18) h18) (snd_leaf (k := 21) h21)) (snd_ite (snd_leaf (k := 22) h22) (snd_leaf (k := 25) h25))))
def pX1_endOf : Spc := inl kX1_endOf 2 19
theorem oX1_endOf : Ok 0 yX1_endOf cX1_endOf 2 (some .int) pX1_endOf := ok_inl (by decide) rfl sX1_endOf

def kX2_letterOf : Nat → Stq := fun pc => if pc < 3 then (if pc < 1 then (if pc = 0 then s_ild 0 1 else s_bad) else (if pc < 2 then (if pc = 1 then s_push (.int 1) 2 else s_bad) else (if pc = 2 then s_isub 3 else s_bad))) else (if pc < 4 then (if pc = 3 then s_push (.int 3) 4 else s_bad) else (if pc < 5 then (if pc = 4 then s_irem 5 else s_bad) else (if pc = 5 then s_iret else s_bad)))
set_option maxRecDepth 20000 in
theorem sX2_letterOf : ∀ pc, Snd 0 RX2 cX2_letterOf 1 (some .int) (inM "letterOf") pc (kX2_letterOf pc) := by
  have h0 : Snd 0 RX2 cX2_letterOf 1 (some .int) (inM "letterOf") 0 (s_ild 0 1) := snd_iload_n (j := 0) (by decide +kernel) rfl
  have h1 : Snd 0 RX2 cX2_letterOf 1 (some .int) (inM "letterOf") 1 (s_push (.int 1) 2) := snd_iconst (n := 1) (by decide +kernel) (by decide)
  have h2 : Snd 0 RX2 cX2_letterOf 1 (some .int) (inM "letterOf") 2 (s_isub 3) := snd_isub (by decide +kernel)
  have h3 : Snd 0 RX2 cX2_letterOf 1 (some .int) (inM "letterOf") 3 (s_push (.int 3) 4) := snd_iconst (n := 3) (by decide +kernel) (by decide)
  have h4 : Snd 0 RX2 cX2_letterOf 1 (some .int) (inM "letterOf") 4 (s_irem 5) := snd_irem (by decide +kernel)
  have h5 : Snd 0 RX2 cX2_letterOf 1 (some .int) (inM "letterOf") 5 (s_iret) := snd_iret (by decide +kernel)
  exact fun pc => snd_ite (snd_ite (snd_leaf (k := 0) h0) (snd_ite (snd_leaf (k := 1) h1) (snd_leaf (k := 2) h2))) (snd_ite (snd_leaf (k := 3) h3) (snd_ite (snd_leaf (k := 4) h4) (snd_leaf (k := 5) h5)))
def pX2_letterOf : Spc := inl kX2_letterOf 1 11
theorem oX2_letterOf : Ok 0 yX2_letterOf cX2_letterOf 1 (some .int) pX2_letterOf := ok_inl (by decide) rfl sX2_letterOf

def kX2_parentOf : Nat → Stq := fun pc => if pc < 3 then (if pc < 1 then (if pc = 0 then s_ild 0 1 else s_bad) else (if pc < 2 then (if pc = 1 then s_push (.int 1) 2 else s_bad) else (if pc = 2 then s_isub 3 else s_bad))) else (if pc < 4 then (if pc = 3 then s_push (.int 3) 4 else s_bad) else (if pc < 5 then (if pc = 4 then s_idiv 5 else s_bad) else (if pc = 5 then s_iret else s_bad)))
set_option maxRecDepth 20000 in
theorem sX2_parentOf : ∀ pc, Snd 0 RX2 cX2_parentOf 1 (some .int) (inM "parentOf") pc (kX2_parentOf pc) := by
  have h0 : Snd 0 RX2 cX2_parentOf 1 (some .int) (inM "parentOf") 0 (s_ild 0 1) := snd_iload_n (j := 0) (by decide +kernel) rfl
  have h1 : Snd 0 RX2 cX2_parentOf 1 (some .int) (inM "parentOf") 1 (s_push (.int 1) 2) := snd_iconst (n := 1) (by decide +kernel) (by decide)
  have h2 : Snd 0 RX2 cX2_parentOf 1 (some .int) (inM "parentOf") 2 (s_isub 3) := snd_isub (by decide +kernel)
  have h3 : Snd 0 RX2 cX2_parentOf 1 (some .int) (inM "parentOf") 3 (s_push (.int 3) 4) := snd_iconst (n := 3) (by decide +kernel) (by decide)
  have h4 : Snd 0 RX2 cX2_parentOf 1 (some .int) (inM "parentOf") 4 (s_idiv 5) := snd_idiv (by decide +kernel)
  have h5 : Snd 0 RX2 cX2_parentOf 1 (some .int) (inM "parentOf") 5 (s_iret) := snd_iret (by decide +kernel)
  exact fun pc => snd_ite (snd_ite (snd_leaf (k := 0) h0) (snd_ite (snd_leaf (k := 1) h1) (snd_leaf (k := 2) h2))) (snd_ite (snd_leaf (k := 3) h3) (snd_ite (snd_leaf (k := 4) h4) (snd_leaf (k := 5) h5)))
def pX2_parentOf : Spc := inl kX2_parentOf 1 11
theorem oX2_parentOf : Ok 0 yX2_parentOf cX2_parentOf 1 (some .int) pX2_parentOf := ok_inl (by decide) rfl sX2_parentOf

def kX3_addSet : Nat → Stq := fun pc => if pc < 19 then (if pc < 10 then (if pc < 4 then (if pc < 1 then (if pc = 0 then s_ald 0 1 else s_bad) else (if pc = 1 then s_getf 3 4 4 else s_bad)) else (if pc < 6 then (if pc = 4 then s_push (.int 40) 6 else s_bad) else (if pc < 9 then (if pc = 6 then s_iclt 11 9 else s_bad) else (if pc = 9 then s_push (.int 0) 10 else s_bad)))) else (if pc < 12 then (if pc < 11 then (if pc = 10 then s_zret else s_bad) else (if pc = 11 then s_ald 0 12 else s_bad)) else (if pc < 15 then (if pc = 12 then s_getf 3 3 15 else s_bad) else (if pc < 16 then (if pc = 15 then s_ald 0 16 else s_bad) else (if pc = 16 then s_getf 3 4 19 else s_bad))))) else (if pc < 26 then (if pc < 21 then (if pc < 20 then (if pc = 19 then s_push (.int 0) 20 else s_bad) else (if pc = 20 then s_iast 21 else s_bad)) else (if pc < 22 then (if pc = 21 then s_ald 0 22 else s_bad) else (if pc < 23 then (if pc = 22 then s_dup 23 else s_bad) else (if pc = 23 then s_getf 3 4 26 else s_bad)))) else (if pc < 28 then (if pc < 27 then (if pc = 26 then s_push (.int 1) 27 else s_bad) else (if pc = 27 then s_iadd 28 else s_bad)) else (if pc < 31 then (if pc = 28 then s_puti 3 4 31 else s_bad) else (if pc < 32 then (if pc = 31 then s_push (.int 1) 32 else s_bad) else (if pc = 32 then s_zret else s_bad)))))
set_option maxRecDepth 20000 in
theorem sX3_addSet : ∀ pc, Snd 0 RX3 cX3_addSet 1 (some .boolean) (inM "addSet") pc (kX3_addSet pc) := by
  have h0 : Snd 0 RX3 cX3_addSet 1 (some .boolean) (inM "addSet") 0 (s_ald 0 1) := snd_aload_n (j := 0) (by decide +kernel) rfl
  have h1 : Snd 0 RX3 cX3_addSet 1 (some .boolean) (inM "addSet") 1 (s_getf 3 4 4) := snd_getf (T := TX3) (f := 4) cI_3 (by decide) g_162 (by decide +kernel)
  have h4 : Snd 0 RX3 cX3_addSet 1 (some .boolean) (inM "addSet") 4 (s_push (.int 40) 6) := snd_bipush (n := 40) (by decide +kernel) (by decide)
  have h6 : Snd 0 RX3 cX3_addSet 1 (some .boolean) (inM "addSet") 6 (s_iclt 11 9) := snd_iclt (off := 5) (by decide +kernel) (by decide)
  have h9 : Snd 0 RX3 cX3_addSet 1 (some .boolean) (inM "addSet") 9 (s_push (.int 0) 10) := snd_iconst (n := 0) (by decide +kernel) (by decide)
  have h10 : Snd 0 RX3 cX3_addSet 1 (some .boolean) (inM "addSet") 10 (s_zret) := snd_zret (by decide +kernel)
  have h11 : Snd 0 RX3 cX3_addSet 1 (some .boolean) (inM "addSet") 11 (s_ald 0 12) := snd_aload_n (j := 0) (by decide +kernel) rfl
  have h12 : Snd 0 RX3 cX3_addSet 1 (some .boolean) (inM "addSet") 12 (s_getf 3 3 15) := snd_getf (T := TX3) (f := 3) cI_3 (by decide) g_161 (by decide +kernel)
  have h15 : Snd 0 RX3 cX3_addSet 1 (some .boolean) (inM "addSet") 15 (s_ald 0 16) := snd_aload_n (j := 0) (by decide +kernel) rfl
  have h16 : Snd 0 RX3 cX3_addSet 1 (some .boolean) (inM "addSet") 16 (s_getf 3 4 19) := snd_getf (T := TX3) (f := 4) cI_3 (by decide) g_162 (by decide +kernel)
  have h19 : Snd 0 RX3 cX3_addSet 1 (some .boolean) (inM "addSet") 19 (s_push (.int 0) 20) := snd_iconst (n := 0) (by decide +kernel) (by decide)
  have h20 : Snd 0 RX3 cX3_addSet 1 (some .boolean) (inM "addSet") 20 (s_iast 21) := snd_iast (by decide +kernel)
  have h21 : Snd 0 RX3 cX3_addSet 1 (some .boolean) (inM "addSet") 21 (s_ald 0 22) := snd_aload_n (j := 0) (by decide +kernel) rfl
  have h22 : Snd 0 RX3 cX3_addSet 1 (some .boolean) (inM "addSet") 22 (s_dup 23) := snd_dup (by decide +kernel)
  have h23 : Snd 0 RX3 cX3_addSet 1 (some .boolean) (inM "addSet") 23 (s_getf 3 4 26) := snd_getf (T := TX3) (f := 4) cI_3 (by decide) g_162 (by decide +kernel)
  have h26 : Snd 0 RX3 cX3_addSet 1 (some .boolean) (inM "addSet") 26 (s_push (.int 1) 27) := snd_iconst (n := 1) (by decide +kernel) (by decide)
  have h27 : Snd 0 RX3 cX3_addSet 1 (some .boolean) (inM "addSet") 27 (s_iadd 28) := snd_iadd (by decide +kernel)
  have h28 : Snd 0 RX3 cX3_addSet 1 (some .boolean) (inM "addSet") 28 (s_puti 3 4 31) := snd_puti (T := TX3) (f := 4) cI_3 (by decide) g_162 (by decide) (by decide +kernel) (by decide +kernel)
  have h31 : Snd 0 RX3 cX3_addSet 1 (some .boolean) (inM "addSet") 31 (s_push (.int 1) 32) := snd_iconst (n := 1) (by decide +kernel) (by decide)
  have h32 : Snd 0 RX3 cX3_addSet 1 (some .boolean) (inM "addSet") 32 (s_zret) := snd_zret (by decide +kernel)
  exact fun pc => snd_ite (snd_ite (snd_ite (snd_ite (snd_leaf (k := 0) h0) (snd_leaf (k := 1) h1)) (snd_ite (snd_leaf (k := 4) h4) (snd_ite (snd_leaf (k := 6) h6) (snd_leaf (k := 9) h9)))) (snd_ite (snd_ite (snd_leaf (k := 10) h10) (snd_leaf (k := 11) h11)) (snd_ite (snd_leaf (k := 12) h12) (snd_ite (snd_leaf (k := 15) h15) (snd_leaf (k := 16) h16))))) (snd_ite (snd_ite (snd_ite (snd_leaf (k := 19) h19) (snd_leaf (k := 20) h20)) (snd_ite (snd_leaf (k := 21) h21) (snd_ite (snd_leaf (k := 22) h22) (snd_leaf (k := 23) h23)))) (snd_ite (snd_ite (snd_leaf (k := 26) h26) (snd_leaf (k := 27) h27)) (snd_ite (snd_leaf (k := 28) h28) (snd_ite (snd_leaf (k := 31) h31) (snd_leaf (k := 32) h32)))))
def pX3_addSet : Spc := inl kX3_addSet 1 25
theorem oX3_addSet : Ok 0 yX3_addSet cX3_addSet 1 (some .boolean) pX3_addSet := ok_inl (by decide) rfl sX3_addSet

def kX3_changeCanEnd : Nat → Stq := fun pc => if pc < 19 then (if pc < 8 then (if pc < 4 then (if pc < 1 then (if pc = 0 then s_ald 0 1 else s_bad) else (if pc = 1 then s_getf 3 2 4 else s_bad)) else (if pc < 5 then (if pc = 4 then s_push (.int (-1)) 5 else s_bad) else (if pc = 5 then s_iceq 29 8 else s_bad))) else (if pc < 12 then (if pc < 9 then (if pc = 8 then s_ald 0 9 else s_bad) else (if pc = 9 then s_getf 3 2 12 else s_bad)) else (if pc < 15 then (if pc = 12 then s_ifle 33 15 else s_bad) else (if pc < 16 then (if pc = 15 then s_ald 0 16 else s_bad) else (if pc = 16 then s_getf 3 0 19 else s_bad))))) else (if pc < 26 then (if pc < 23 then (if pc < 20 then (if pc = 19 then s_ald 0 20 else s_bad) else (if pc = 20 then s_getf 3 2 23 else s_bad)) else (if pc < 24 then (if pc = 23 then s_isub 24 else s_bad) else (if pc < 25 then (if pc = 24 then s_push (.int 2) 25 else s_bad) else (if pc = 25 then s_irem 26 else s_bad)))) else (if pc < 30 then (if pc < 29 then (if pc = 26 then s_ifne 33 29 else s_bad) else (if pc = 29 then s_push (.int 1) 30 else s_bad)) else (if pc < 33 then (if pc = 30 then s_goto 34 else s_bad) else (if pc < 34 then (if pc = 33 then s_push (.int 0) 34 else s_bad) else (if pc = 34 then s_zret else s_bad)))))
set_option maxRecDepth 20000 in
theorem sX3_changeCanEnd : ∀ pc, Snd 0 RX3 cX3_changeCanEnd 1 (some .boolean) (inM "changeCanEnd") pc (kX3_changeCanEnd pc) := by
  have h0 : Snd 0 RX3 cX3_changeCanEnd 1 (some .boolean) (inM "changeCanEnd") 0 (s_ald 0 1) := snd_aload_n (j := 0) (by decide +kernel) rfl
  have h1 : Snd 0 RX3 cX3_changeCanEnd 1 (some .boolean) (inM "changeCanEnd") 1 (s_getf 3 2 4) := snd_getf (T := TX3) (f := 2) cI_3 (by decide) g_160 (by decide +kernel)
  have h4 : Snd 0 RX3 cX3_changeCanEnd 1 (some .boolean) (inM "changeCanEnd") 4 (s_push (.int (-1)) 5) := snd_iconst (n := -1) (by decide +kernel) (by decide)
  have h5 : Snd 0 RX3 cX3_changeCanEnd 1 (some .boolean) (inM "changeCanEnd") 5 (s_iceq 29 8) := snd_iceq (off := 24) (by decide +kernel) (by decide)
  have h8 : Snd 0 RX3 cX3_changeCanEnd 1 (some .boolean) (inM "changeCanEnd") 8 (s_ald 0 9) := snd_aload_n (j := 0) (by decide +kernel) rfl
  have h9 : Snd 0 RX3 cX3_changeCanEnd 1 (some .boolean) (inM "changeCanEnd") 9 (s_getf 3 2 12) := snd_getf (T := TX3) (f := 2) cI_3 (by decide) g_160 (by decide +kernel)
  have h12 : Snd 0 RX3 cX3_changeCanEnd 1 (some .boolean) (inM "changeCanEnd") 12 (s_ifle 33 15) := snd_ifle (off := 21) (by decide +kernel) (by decide)
  have h15 : Snd 0 RX3 cX3_changeCanEnd 1 (some .boolean) (inM "changeCanEnd") 15 (s_ald 0 16) := snd_aload_n (j := 0) (by decide +kernel) rfl
  have h16 : Snd 0 RX3 cX3_changeCanEnd 1 (some .boolean) (inM "changeCanEnd") 16 (s_getf 3 0 19) := snd_getf (T := TX3) (f := 0) cI_3 (by decide) g_158 (by decide +kernel)
  have h19 : Snd 0 RX3 cX3_changeCanEnd 1 (some .boolean) (inM "changeCanEnd") 19 (s_ald 0 20) := snd_aload_n (j := 0) (by decide +kernel) rfl
  have h20 : Snd 0 RX3 cX3_changeCanEnd 1 (some .boolean) (inM "changeCanEnd") 20 (s_getf 3 2 23) := snd_getf (T := TX3) (f := 2) cI_3 (by decide) g_160 (by decide +kernel)
  have h23 : Snd 0 RX3 cX3_changeCanEnd 1 (some .boolean) (inM "changeCanEnd") 23 (s_isub 24) := snd_isub (by decide +kernel)
  have h24 : Snd 0 RX3 cX3_changeCanEnd 1 (some .boolean) (inM "changeCanEnd") 24 (s_push (.int 2) 25) := snd_iconst (n := 2) (by decide +kernel) (by decide)
  have h25 : Snd 0 RX3 cX3_changeCanEnd 1 (some .boolean) (inM "changeCanEnd") 25 (s_irem 26) := snd_irem (by decide +kernel)
  have h26 : Snd 0 RX3 cX3_changeCanEnd 1 (some .boolean) (inM "changeCanEnd") 26 (s_ifne 33 29) := snd_ifne (off := 7) (by decide +kernel) (by decide)
  have h29 : Snd 0 RX3 cX3_changeCanEnd 1 (some .boolean) (inM "changeCanEnd") 29 (s_push (.int 1) 30) := snd_iconst (n := 1) (by decide +kernel) (by decide)
  have h30 : Snd 0 RX3 cX3_changeCanEnd 1 (some .boolean) (inM "changeCanEnd") 30 (s_goto 34) := snd_goto (off := 4) (by decide +kernel) (by decide)
  have h33 : Snd 0 RX3 cX3_changeCanEnd 1 (some .boolean) (inM "changeCanEnd") 33 (s_push (.int 0) 34) := snd_iconst (n := 0) (by decide +kernel) (by decide)
  have h34 : Snd 0 RX3 cX3_changeCanEnd 1 (some .boolean) (inM "changeCanEnd") 34 (s_zret) := snd_zret (by decide +kernel)
  exact fun pc => snd_ite (snd_ite (snd_ite (snd_ite (snd_leaf (k := 0) h0) (snd_leaf (k := 1) h1)) (snd_ite (snd_leaf (k := 4) h4) (snd_leaf (k := 5) h5))) (snd_ite (snd_ite (snd_leaf (k := 8) h8) (snd_leaf (k := 9) h9)) (snd_ite (snd_leaf (k := 12) h12) (snd_ite (snd_leaf (k := 15) h15) (snd_leaf (k := 16) h16))))) (snd_ite (snd_ite (snd_ite (snd_leaf (k := 19) h19) (snd_leaf (k := 20) h20)) (snd_ite (snd_leaf (k := 23) h23) (snd_ite (snd_leaf (k := 24) h24) (snd_leaf (k := 25) h25)))) (snd_ite (snd_ite (snd_leaf (k := 26) h26) (snd_leaf (k := 29) h29)) (snd_ite (snd_leaf (k := 30) h30) (snd_ite (snd_leaf (k := 33) h33) (snd_leaf (k := 34) h34)))))
def pX3_changeCanEnd : Spc := inl kX3_changeCanEnd 1 24
theorem oX3_changeCanEnd : Ok 0 yX3_changeCanEnd cX3_changeCanEnd 1 (some .boolean) pX3_changeCanEnd := ok_inl (by decide) rfl sX3_changeCanEnd

def kX3_firstChange : Nat → Stq := fun pc => if pc < 4 then (if pc < 1 then (if pc = 0 then s_ald 0 1 else s_bad) else (if pc = 1 then s_getf 3 3 4 else s_bad)) else (if pc < 5 then (if pc = 4 then s_push (.int 0) 5 else s_bad) else (if pc < 6 then (if pc = 5 then s_iald 6 else s_bad) else (if pc = 6 then s_iret else s_bad)))
set_option maxRecDepth 20000 in
theorem sX3_firstChange : ∀ pc, Snd 0 RX3 cX3_firstChange 1 (some .int) (inM "firstChange") pc (kX3_firstChange pc) := by
  have h0 : Snd 0 RX3 cX3_firstChange 1 (some .int) (inM "firstChange") 0 (s_ald 0 1) := snd_aload_n (j := 0) (by decide +kernel) rfl
  have h1 : Snd 0 RX3 cX3_firstChange 1 (some .int) (inM "firstChange") 1 (s_getf 3 3 4) := snd_getf (T := TX3) (f := 3) cI_3 (by decide) g_161 (by decide +kernel)
  have h4 : Snd 0 RX3 cX3_firstChange 1 (some .int) (inM "firstChange") 4 (s_push (.int 0) 5) := snd_iconst (n := 0) (by decide +kernel) (by decide)
  have h5 : Snd 0 RX3 cX3_firstChange 1 (some .int) (inM "firstChange") 5 (s_iald 6) := snd_iald (by decide +kernel)
  have h6 : Snd 0 RX3 cX3_firstChange 1 (some .int) (inM "firstChange") 6 (s_iret) := snd_iret (by decide +kernel)
  exact fun pc => snd_ite (snd_ite (snd_leaf (k := 0) h0) (snd_leaf (k := 1) h1)) (snd_ite (snd_leaf (k := 4) h4) (snd_ite (snd_leaf (k := 5) h5) (snd_leaf (k := 6) h6)))
def pX3_firstChange : Spc := inl kX3_firstChange 1 10
theorem oX3_firstChange : Ok 0 yX3_firstChange cX3_firstChange 1 (some .int) pX3_firstChange := ok_inl (by decide) rfl sX3_firstChange

def kX3_length : Nat → Stq := fun pc => if pc < 16 then (if pc < 6 then (if pc < 1 then (if pc = 0 then s_ald 0 1 else s_bad) else (if pc < 4 then (if pc = 1 then s_getf 3 5 4 else s_bad) else (if pc = 4 then s_push (.int (-6)) 6 else s_bad))) else (if pc < 10 then (if pc < 9 then (if pc = 6 then s_icne 16 9 else s_bad) else (if pc = 9 then s_ald 0 10 else s_bad)) else (if pc < 13 then (if pc = 10 then s_getf 3 4 13 else s_bad) else (if pc = 13 then s_goto 24 else s_bad)))) else (if pc < 21 then (if pc < 17 then (if pc = 16 then s_push (.int 2) 17 else s_bad) else (if pc < 18 then (if pc = 17 then s_ald 0 18 else s_bad) else (if pc = 18 then s_getf 3 4 21 else s_bad))) else (if pc < 23 then (if pc < 22 then (if pc = 21 then s_imul 22 else s_bad) else (if pc = 22 then s_push (.int 2) 23 else s_bad)) else (if pc < 24 then (if pc = 23 then s_isub 24 else s_bad) else (if pc = 24 then s_iret else s_bad))))
set_option maxRecDepth 20000 in
theorem sX3_length : ∀ pc, Snd 0 RX3 cX3_length 1 (some .int) (inM "length") pc (kX3_length pc) := by
  have h0 : Snd 0 RX3 cX3_length 1 (some .int) (inM "length") 0 (s_ald 0 1) := snd_aload_n (j := 0) (by decide +kernel) rfl
  have h1 : Snd 0 RX3 cX3_length 1 (some .int) (inM "length") 1 (s_getf 3 5 4) := snd_getf (T := TX3) (f := 5) cI_3 (by decide) g_163 (by decide +kernel)
  have h4 : Snd 0 RX3 cX3_length 1 (some .int) (inM "length") 4 (s_push (.int (-6)) 6) := snd_bipush (n := -6) (by decide +kernel) (by decide)
  have h6 : Snd 0 RX3 cX3_length 1 (some .int) (inM "length") 6 (s_icne 16 9) := snd_icne (off := 10) (by decide +kernel) (by decide)
  have h9 : Snd 0 RX3 cX3_length 1 (some .int) (inM "length") 9 (s_ald 0 10) := snd_aload_n (j := 0) (by decide +kernel) rfl
  have h10 : Snd 0 RX3 cX3_length 1 (some .int) (inM "length") 10 (s_getf 3 4 13) := snd_getf (T := TX3) (f := 4) cI_3 (by decide) g_162 (by decide +kernel)
  have h13 : Snd 0 RX3 cX3_length 1 (some .int) (inM "length") 13 (s_goto 24) := snd_goto (off := 11) (by decide +kernel) (by decide)
  have h16 : Snd 0 RX3 cX3_length 1 (some .int) (inM "length") 16 (s_push (.int 2) 17) := snd_iconst (n := 2) (by decide +kernel) (by decide)
  have h17 : Snd 0 RX3 cX3_length 1 (some .int) (inM "length") 17 (s_ald 0 18) := snd_aload_n (j := 0) (by decide +kernel) rfl
  have h18 : Snd 0 RX3 cX3_length 1 (some .int) (inM "length") 18 (s_getf 3 4 21) := snd_getf (T := TX3) (f := 4) cI_3 (by decide) g_162 (by decide +kernel)
  have h21 : Snd 0 RX3 cX3_length 1 (some .int) (inM "length") 21 (s_imul 22) := snd_imul (by decide +kernel)
  have h22 : Snd 0 RX3 cX3_length 1 (some .int) (inM "length") 22 (s_push (.int 2) 23) := snd_iconst (n := 2) (by decide +kernel) (by decide)
  have h23 : Snd 0 RX3 cX3_length 1 (some .int) (inM "length") 23 (s_isub 24) := snd_isub (by decide +kernel)
  have h24 : Snd 0 RX3 cX3_length 1 (some .int) (inM "length") 24 (s_iret) := snd_iret (by decide +kernel)
  exact fun pc => snd_ite (snd_ite (snd_ite (snd_leaf (k := 0) h0) (snd_ite (snd_leaf (k := 1) h1) (snd_leaf (k := 4) h4))) (snd_ite (snd_ite (snd_leaf (k := 6) h6) (snd_leaf (k := 9) h9)) (snd_ite (snd_leaf (k := 10) h10) (snd_leaf (k := 13) h13)))) (snd_ite (snd_ite (snd_leaf (k := 16) h16) (snd_ite (snd_leaf (k := 17) h17) (snd_leaf (k := 18) h18))) (snd_ite (snd_ite (snd_leaf (k := 21) h21) (snd_leaf (k := 22) h22)) (snd_ite (snd_leaf (k := 23) h23) (snd_leaf (k := 24) h24))))
def pX3_length : Spc := inl kX3_length 1 19
theorem oX3_length : Ok 0 yX3_length cX3_length 1 (some .int) pX3_length := ok_inl (by decide) rfl sX3_length

def kX4_add : Nat → Stq := fun pc => if pc < 19 then (if pc < 10 then (if pc < 4 then (if pc < 1 then (if pc = 0 then s_ald 0 1 else s_bad) else (if pc = 1 then s_getf 4 1 4 else s_bad)) else (if pc < 6 then (if pc = 4 then s_push (.int 40) 6 else s_bad) else (if pc < 9 then (if pc = 6 then s_iclt 11 9 else s_bad) else (if pc = 9 then s_push (.int 0) 10 else s_bad)))) else (if pc < 12 then (if pc < 11 then (if pc = 10 then s_zret else s_bad) else (if pc = 11 then s_ald 0 12 else s_bad)) else (if pc < 15 then (if pc = 12 then s_getf 4 0 15 else s_bad) else (if pc < 16 then (if pc = 15 then s_ald 0 16 else s_bad) else (if pc = 16 then s_getf 4 1 19 else s_bad))))) else (if pc < 26 then (if pc < 21 then (if pc < 20 then (if pc = 19 then s_ild 1 20 else s_bad) else (if pc = 20 then s_iast 21 else s_bad)) else (if pc < 22 then (if pc = 21 then s_ald 0 22 else s_bad) else (if pc < 23 then (if pc = 22 then s_dup 23 else s_bad) else (if pc = 23 then s_getf 4 1 26 else s_bad)))) else (if pc < 28 then (if pc < 27 then (if pc = 26 then s_push (.int 1) 27 else s_bad) else (if pc = 27 then s_iadd 28 else s_bad)) else (if pc < 31 then (if pc = 28 then s_puti 4 1 31 else s_bad) else (if pc < 32 then (if pc = 31 then s_push (.int 1) 32 else s_bad) else (if pc = 32 then s_zret else s_bad)))))
set_option maxRecDepth 20000 in
theorem sX4_add : ∀ pc, Snd 0 RX4 cX4_add 2 (some .boolean) (inM "add") pc (kX4_add pc) := by
  have h0 : Snd 0 RX4 cX4_add 2 (some .boolean) (inM "add") 0 (s_ald 0 1) := snd_aload_n (j := 0) (by decide +kernel) rfl
  have h1 : Snd 0 RX4 cX4_add 2 (some .boolean) (inM "add") 1 (s_getf 4 1 4) := snd_getf (T := TX4) (f := 1) cI_4 (by decide) g_144 (by decide +kernel)
  have h4 : Snd 0 RX4 cX4_add 2 (some .boolean) (inM "add") 4 (s_push (.int 40) 6) := snd_bipush (n := 40) (by decide +kernel) (by decide)
  have h6 : Snd 0 RX4 cX4_add 2 (some .boolean) (inM "add") 6 (s_iclt 11 9) := snd_iclt (off := 5) (by decide +kernel) (by decide)
  have h9 : Snd 0 RX4 cX4_add 2 (some .boolean) (inM "add") 9 (s_push (.int 0) 10) := snd_iconst (n := 0) (by decide +kernel) (by decide)
  have h10 : Snd 0 RX4 cX4_add 2 (some .boolean) (inM "add") 10 (s_zret) := snd_zret (by decide +kernel)
  have h11 : Snd 0 RX4 cX4_add 2 (some .boolean) (inM "add") 11 (s_ald 0 12) := snd_aload_n (j := 0) (by decide +kernel) rfl
  have h12 : Snd 0 RX4 cX4_add 2 (some .boolean) (inM "add") 12 (s_getf 4 0 15) := snd_getf (T := TX4) (f := 0) cI_4 (by decide) g_142 (by decide +kernel)
  have h15 : Snd 0 RX4 cX4_add 2 (some .boolean) (inM "add") 15 (s_ald 0 16) := snd_aload_n (j := 0) (by decide +kernel) rfl
  have h16 : Snd 0 RX4 cX4_add 2 (some .boolean) (inM "add") 16 (s_getf 4 1 19) := snd_getf (T := TX4) (f := 1) cI_4 (by decide) g_144 (by decide +kernel)
  have h19 : Snd 0 RX4 cX4_add 2 (some .boolean) (inM "add") 19 (s_ild 1 20) := snd_iload_n (j := 1) (by decide +kernel) rfl
  have h20 : Snd 0 RX4 cX4_add 2 (some .boolean) (inM "add") 20 (s_iast 21) := snd_iast (by decide +kernel)
  have h21 : Snd 0 RX4 cX4_add 2 (some .boolean) (inM "add") 21 (s_ald 0 22) := snd_aload_n (j := 0) (by decide +kernel) rfl
  have h22 : Snd 0 RX4 cX4_add 2 (some .boolean) (inM "add") 22 (s_dup 23) := snd_dup (by decide +kernel)
  have h23 : Snd 0 RX4 cX4_add 2 (some .boolean) (inM "add") 23 (s_getf 4 1 26) := snd_getf (T := TX4) (f := 1) cI_4 (by decide) g_144 (by decide +kernel)
  have h26 : Snd 0 RX4 cX4_add 2 (some .boolean) (inM "add") 26 (s_push (.int 1) 27) := snd_iconst (n := 1) (by decide +kernel) (by decide)
  have h27 : Snd 0 RX4 cX4_add 2 (some .boolean) (inM "add") 27 (s_iadd 28) := snd_iadd (by decide +kernel)
  have h28 : Snd 0 RX4 cX4_add 2 (some .boolean) (inM "add") 28 (s_puti 4 1 31) := snd_puti (T := TX4) (f := 1) cI_4 (by decide) g_144 (by decide) (by decide +kernel) (by decide +kernel)
  have h31 : Snd 0 RX4 cX4_add 2 (some .boolean) (inM "add") 31 (s_push (.int 1) 32) := snd_iconst (n := 1) (by decide +kernel) (by decide)
  have h32 : Snd 0 RX4 cX4_add 2 (some .boolean) (inM "add") 32 (s_zret) := snd_zret (by decide +kernel)
  exact fun pc => snd_ite (snd_ite (snd_ite (snd_ite (snd_leaf (k := 0) h0) (snd_leaf (k := 1) h1)) (snd_ite (snd_leaf (k := 4) h4) (snd_ite (snd_leaf (k := 6) h6) (snd_leaf (k := 9) h9)))) (snd_ite (snd_ite (snd_leaf (k := 10) h10) (snd_leaf (k := 11) h11)) (snd_ite (snd_leaf (k := 12) h12) (snd_ite (snd_leaf (k := 15) h15) (snd_leaf (k := 16) h16))))) (snd_ite (snd_ite (snd_ite (snd_leaf (k := 19) h19) (snd_leaf (k := 20) h20)) (snd_ite (snd_leaf (k := 21) h21) (snd_ite (snd_leaf (k := 22) h22) (snd_leaf (k := 23) h23)))) (snd_ite (snd_ite (snd_leaf (k := 26) h26) (snd_leaf (k := 27) h27)) (snd_ite (snd_leaf (k := 28) h28) (snd_ite (snd_leaf (k := 31) h31) (snd_leaf (k := 32) h32)))))
def pX4_add : Spc := inl kX4_add 2 25
theorem oX4_add : Ok 0 yX4_add cX4_add 2 (some .boolean) pX4_add := ok_inl (by decide) rfl sX4_add

def kX4_kindOf : Nat → Stq := fun pc => if pc < 39 then (if pc < 36 then (if pc < 1 then (if pc = 0 then s_ild 0 1 else s_bad) else (if pc = 1 then s_sw [(98, 38), (112, 36), (115, 40)] 42 else s_bad)) else (if pc < 37 then (if pc = 36 then s_push (.int 0) 37 else s_bad) else (if pc < 38 then (if pc = 37 then s_iret else s_bad) else (if pc = 38 then s_push (.int 1) 39 else s_bad)))) else (if pc < 41 then (if pc < 40 then (if pc = 39 then s_iret else s_bad) else (if pc = 40 then s_push (.int 2) 41 else s_bad)) else (if pc < 42 then (if pc = 41 then s_iret else s_bad) else (if pc < 44 then (if pc = 42 then s_push (.int (-6)) 44 else s_bad) else (if pc = 44 then s_iret else s_bad))))
set_option maxRecDepth 20000 in
theorem sX4_kindOf : ∀ pc, Snd 0 RX4 cX4_kindOf 1 (some .int) (inM "kindOf") pc (kX4_kindOf pc) := by
  have h0 : Snd 0 RX4 cX4_kindOf 1 (some .int) (inM "kindOf") 0 (s_ild 0 1) := snd_iload_n (j := 0) (by decide +kernel) rfl
  have h1 : Snd 0 RX4 cX4_kindOf 1 (some .int) (inM "kindOf") 1 (s_sw [(98, 38), (112, 36), (115, 40)] 42) := snd_lsw (dflt := 41) (ps := #[(98, 37), (112, 35), (115, 39)]) (len := 35) [(98, 38), (112, 36), (115, 40)] (by decide +kernel) (by decide) (by decide +kernel) (by decide +kernel)
  have h36 : Snd 0 RX4 cX4_kindOf 1 (some .int) (inM "kindOf") 36 (s_push (.int 0) 37) := snd_iconst (n := 0) (by decide +kernel) (by decide)
  have h37 : Snd 0 RX4 cX4_kindOf 1 (some .int) (inM "kindOf") 37 (s_iret) := snd_iret (by decide +kernel)
  have h38 : Snd 0 RX4 cX4_kindOf 1 (some .int) (inM "kindOf") 38 (s_push (.int 1) 39) := snd_iconst (n := 1) (by decide +kernel) (by decide)
  have h39 : Snd 0 RX4 cX4_kindOf 1 (some .int) (inM "kindOf") 39 (s_iret) := snd_iret (by decide +kernel)
  have h40 : Snd 0 RX4 cX4_kindOf 1 (some .int) (inM "kindOf") 40 (s_push (.int 2) 41) := snd_iconst (n := 2) (by decide +kernel) (by decide)
  have h41 : Snd 0 RX4 cX4_kindOf 1 (some .int) (inM "kindOf") 41 (s_iret) := snd_iret (by decide +kernel)
  have h42 : Snd 0 RX4 cX4_kindOf 1 (some .int) (inM "kindOf") 42 (s_push (.int (-6)) 44) := snd_bipush (n := -6) (by decide +kernel) (by decide)
  have h44 : Snd 0 RX4 cX4_kindOf 1 (some .int) (inM "kindOf") 44 (s_iret) := snd_iret (by decide +kernel)
  exact fun pc => snd_ite (snd_ite (snd_ite (snd_leaf (k := 0) h0) (snd_leaf (k := 1) h1)) (snd_ite (snd_leaf (k := 36) h36) (snd_ite (snd_leaf (k := 37) h37) (snd_leaf (k := 38) h38)))) (snd_ite (snd_ite (snd_leaf (k := 39) h39) (snd_leaf (k := 40) h40)) (snd_ite (snd_leaf (k := 41) h41) (snd_ite (snd_leaf (k := 42) h42) (snd_leaf (k := 44) h44))))
def pX4_kindOf : Spc := inl kX4_kindOf 1 15
theorem oX4_kindOf : Ok 0 yX4_kindOf cX4_kindOf 1 (some .int) pX4_kindOf := ok_inl (by decide) rfl sX4_kindOf

def kX5_has : Nat → Stq := fun pc => if pc < 9 then (if pc < 4 then (if pc < 1 then (if pc = 0 then s_ild 1 1 else s_bad) else (if pc = 1 then s_iflt 16 4 else s_bad)) else (if pc < 5 then (if pc = 4 then s_ild 1 5 else s_bad) else (if pc < 6 then (if pc = 5 then s_ald 0 6 else s_bad) else (if pc = 6 then s_getf 5 1 9 else s_bad)))) else (if pc < 13 then (if pc < 12 then (if pc = 9 then s_icgt 16 12 else s_bad) else (if pc = 12 then s_push (.int 1) 13 else s_bad)) else (if pc < 16 then (if pc = 13 then s_goto 17 else s_bad) else (if pc < 17 then (if pc = 16 then s_push (.int 0) 17 else s_bad) else (if pc = 17 then s_zret else s_bad))))
set_option maxRecDepth 20000 in
theorem sX5_has : ∀ pc, Snd 0 RX5 cX5_has 2 (some .boolean) (inM "has") pc (kX5_has pc) := by
  have h0 : Snd 0 RX5 cX5_has 2 (some .boolean) (inM "has") 0 (s_ild 1 1) := snd_iload_n (j := 1) (by decide +kernel) rfl
  have h1 : Snd 0 RX5 cX5_has 2 (some .boolean) (inM "has") 1 (s_iflt 16 4) := snd_iflt (off := 15) (by decide +kernel) (by decide)
  have h4 : Snd 0 RX5 cX5_has 2 (some .boolean) (inM "has") 4 (s_ild 1 5) := snd_iload_n (j := 1) (by decide +kernel) rfl
  have h5 : Snd 0 RX5 cX5_has 2 (some .boolean) (inM "has") 5 (s_ald 0 6) := snd_aload_n (j := 0) (by decide +kernel) rfl
  have h6 : Snd 0 RX5 cX5_has 2 (some .boolean) (inM "has") 6 (s_getf 5 1 9) := snd_getf (T := TX5) (f := 1) cI_5 (by decide) g_247 (by decide +kernel)
  have h9 : Snd 0 RX5 cX5_has 2 (some .boolean) (inM "has") 9 (s_icgt 16 12) := snd_icgt (off := 7) (by decide +kernel) (by decide)
  have h12 : Snd 0 RX5 cX5_has 2 (some .boolean) (inM "has") 12 (s_push (.int 1) 13) := snd_iconst (n := 1) (by decide +kernel) (by decide)
  have h13 : Snd 0 RX5 cX5_has 2 (some .boolean) (inM "has") 13 (s_goto 17) := snd_goto (off := 4) (by decide +kernel) (by decide)
  have h16 : Snd 0 RX5 cX5_has 2 (some .boolean) (inM "has") 16 (s_push (.int 0) 17) := snd_iconst (n := 0) (by decide +kernel) (by decide)
  have h17 : Snd 0 RX5 cX5_has 2 (some .boolean) (inM "has") 17 (s_zret) := snd_zret (by decide +kernel)
  exact fun pc => snd_ite (snd_ite (snd_ite (snd_leaf (k := 0) h0) (snd_leaf (k := 1) h1)) (snd_ite (snd_leaf (k := 4) h4) (snd_ite (snd_leaf (k := 5) h5) (snd_leaf (k := 6) h6)))) (snd_ite (snd_ite (snd_leaf (k := 9) h9) (snd_leaf (k := 12) h12)) (snd_ite (snd_leaf (k := 13) h13) (snd_ite (snd_leaf (k := 16) h16) (snd_leaf (k := 17) h17))))
def pX5_has : Spc := inl kX5_has 2 15
theorem oX5_has : Ok 0 yX5_has cX5_has 2 (some .boolean) pX5_has := ok_inl (by decide) rfl sX5_has

def kX6_isTaken : Nat → Stq := fun pc => if pc < 10 then (if pc < 5 then (if pc < 1 then (if pc = 0 then s_ald 0 1 else s_bad) else (if pc < 4 then (if pc = 1 then s_getf 6 0 4 else s_bad) else (if pc = 4 then s_ild 1 5 else s_bad))) else (if pc < 8 then (if pc < 6 then (if pc = 5 then s_lald 6 else s_bad) else (if pc = 6 then s_push (.int 32) 8 else s_bad)) else (if pc < 9 then (if pc = 8 then s_lushr 9 else s_bad) else (if pc = 9 then s_l2i 10 else s_bad)))) else (if pc < 17 then (if pc < 11 then (if pc = 10 then s_ald 0 11 else s_bad) else (if pc < 14 then (if pc = 11 then s_getf 6 2 14 else s_bad) else (if pc = 14 then s_icne 21 17 else s_bad))) else (if pc < 21 then (if pc < 18 then (if pc = 17 then s_push (.int 1) 18 else s_bad) else (if pc = 18 then s_goto 22 else s_bad)) else (if pc < 22 then (if pc = 21 then s_push (.int 0) 22 else s_bad) else (if pc = 22 then s_zret else s_bad))))
set_option maxRecDepth 20000 in
theorem sX6_isTaken : ∀ pc, Snd 0 RX6 cX6_isTaken 2 (some .boolean) (inM "isTaken") pc (kX6_isTaken pc) := by
  have h0 : Snd 0 RX6 cX6_isTaken 2 (some .boolean) (inM "isTaken") 0 (s_ald 0 1) := snd_aload_n (j := 0) (by decide +kernel) rfl
  have h1 : Snd 0 RX6 cX6_isTaken 2 (some .boolean) (inM "isTaken") 1 (s_getf 6 0 4) := snd_getf (T := TX6) (f := 0) cI_6 (by decide) g_235 (by decide +kernel)
  have h4 : Snd 0 RX6 cX6_isTaken 2 (some .boolean) (inM "isTaken") 4 (s_ild 1 5) := snd_iload_n (j := 1) (by decide +kernel) rfl
  have h5 : Snd 0 RX6 cX6_isTaken 2 (some .boolean) (inM "isTaken") 5 (s_lald 6) := snd_lald (by decide +kernel)
  have h6 : Snd 0 RX6 cX6_isTaken 2 (some .boolean) (inM "isTaken") 6 (s_push (.int 32) 8) := snd_bipush (n := 32) (by decide +kernel) (by decide)
  have h8 : Snd 0 RX6 cX6_isTaken 2 (some .boolean) (inM "isTaken") 8 (s_lushr 9) := snd_lushr (by decide +kernel)
  have h9 : Snd 0 RX6 cX6_isTaken 2 (some .boolean) (inM "isTaken") 9 (s_l2i 10) := snd_l2i (by decide +kernel)
  have h10 : Snd 0 RX6 cX6_isTaken 2 (some .boolean) (inM "isTaken") 10 (s_ald 0 11) := snd_aload_n (j := 0) (by decide +kernel) rfl
  have h11 : Snd 0 RX6 cX6_isTaken 2 (some .boolean) (inM "isTaken") 11 (s_getf 6 2 14) := snd_getf (T := TX6) (f := 2) cI_6 (by decide) g_237 (by decide +kernel)
  have h14 : Snd 0 RX6 cX6_isTaken 2 (some .boolean) (inM "isTaken") 14 (s_icne 21 17) := snd_icne (off := 7) (by decide +kernel) (by decide)
  have h17 : Snd 0 RX6 cX6_isTaken 2 (some .boolean) (inM "isTaken") 17 (s_push (.int 1) 18) := snd_iconst (n := 1) (by decide +kernel) (by decide)
  have h18 : Snd 0 RX6 cX6_isTaken 2 (some .boolean) (inM "isTaken") 18 (s_goto 22) := snd_goto (off := 4) (by decide +kernel) (by decide)
  have h21 : Snd 0 RX6 cX6_isTaken 2 (some .boolean) (inM "isTaken") 21 (s_push (.int 0) 22) := snd_iconst (n := 0) (by decide +kernel) (by decide)
  have h22 : Snd 0 RX6 cX6_isTaken 2 (some .boolean) (inM "isTaken") 22 (s_zret) := snd_zret (by decide +kernel)
  exact fun pc => snd_ite (snd_ite (snd_ite (snd_leaf (k := 0) h0) (snd_ite (snd_leaf (k := 1) h1) (snd_leaf (k := 4) h4))) (snd_ite (snd_ite (snd_leaf (k := 5) h5) (snd_leaf (k := 6) h6)) (snd_ite (snd_leaf (k := 8) h8) (snd_leaf (k := 9) h9)))) (snd_ite (snd_ite (snd_leaf (k := 10) h10) (snd_ite (snd_leaf (k := 11) h11) (snd_leaf (k := 14) h14))) (snd_ite (snd_ite (snd_leaf (k := 17) h17) (snd_leaf (k := 18) h18)) (snd_ite (snd_leaf (k := 21) h21) (snd_leaf (k := 22) h22))))
def pX6_isTaken : Spc := inl kX6_isTaken 2 19
theorem oX6_isTaken : Ok 0 yX6_isTaken cX6_isTaken 2 (some .boolean) pX6_isTaken := ok_inl (by decide) rfl sX6_isTaken

def kX9_begin : Nat → Stq := fun pc => if pc < 21 then (if pc < 9 then (if pc < 3 then (if pc < 1 then (if pc = 0 then s_ild 1 1 else s_bad) else (if pc < 2 then (if pc = 1 then s_push (.int 2) 2 else s_bad) else (if pc = 2 then s_irem 3 else s_bad))) else (if pc < 7 then (if pc < 4 then (if pc = 3 then s_push (.int 1) 4 else s_bad) else (if pc = 4 then s_icne 13 7 else s_bad)) else (if pc < 8 then (if pc = 7 then s_push (.int 1) 8 else s_bad) else (if pc = 8 then s_ild 1 9 else s_bad)))) else (if pc < 15 then (if pc < 13 then (if pc < 10 then (if pc = 9 then s_ishl 10 else s_bad) else (if pc = 10 then s_goto 14 else s_bad)) else (if pc < 14 then (if pc = 13 then s_push (.int 0) 14 else s_bad) else (if pc = 14 then s_ist 2 15 else s_bad))) else (if pc < 17 then (if pc < 16 then (if pc = 15 then s_ald 0 16 else s_bad) else (if pc = 16 then s_ild 1 17 else s_bad)) else (if pc < 20 then (if pc = 17 then s_puti 8 0 20 else s_bad) else (if pc = 20 then s_ald 0 21 else s_bad))))) else (if pc < 34 then (if pc < 27 then (if pc < 25 then (if pc < 22 then (if pc = 21 then s_push (.int 0) 22 else s_bad) else (if pc = 22 then s_puti 8 2 25 else s_bad)) else (if pc < 26 then (if pc = 25 then s_ald 0 26 else s_bad) else (if pc = 26 then s_push (.int 0) 27 else s_bad))) else (if pc < 31 then (if pc < 30 then (if pc = 27 then s_puti 8 6 30 else s_bad) else (if pc = 30 then s_ald 0 31 else s_bad)) else (if pc < 33 then (if pc = 31 then s_push (.int 18) 33 else s_bad) else (if pc = 33 then s_ild 2 34 else s_bad)))) else (if pc < 41 then (if pc < 38 then (if pc < 35 then (if pc = 34 then s_ior 35 else s_bad) else (if pc = 35 then s_puti 8 3 38 else s_bad)) else (if pc < 39 then (if pc = 38 then s_ald 0 39 else s_bad) else (if pc = 39 then s_push (.int 30) 41 else s_bad))) else (if pc < 43 then (if pc < 42 then (if pc = 41 then s_ild 2 42 else s_bad) else (if pc = 42 then s_ior 43 else s_bad)) else (if pc < 46 then (if pc = 43 then s_puti 8 4 46 else s_bad) else (if pc = 46 then s_vret else s_bad)))))
set_option maxRecDepth 20000 in
theorem sX9_begin : ∀ pc, Snd 0 RX9 cX9_begin 3 none (inM "begin") pc (kX9_begin pc) := by
  have h0 : Snd 0 RX9 cX9_begin 3 none (inM "begin") 0 (s_ild 1 1) := snd_iload_n (j := 1) (by decide +kernel) rfl
  have h1 : Snd 0 RX9 cX9_begin 3 none (inM "begin") 1 (s_push (.int 2) 2) := snd_iconst (n := 2) (by decide +kernel) (by decide)
  have h2 : Snd 0 RX9 cX9_begin 3 none (inM "begin") 2 (s_irem 3) := snd_irem (by decide +kernel)
  have h3 : Snd 0 RX9 cX9_begin 3 none (inM "begin") 3 (s_push (.int 1) 4) := snd_iconst (n := 1) (by decide +kernel) (by decide)
  have h4 : Snd 0 RX9 cX9_begin 3 none (inM "begin") 4 (s_icne 13 7) := snd_icne (off := 9) (by decide +kernel) (by decide)
  have h7 : Snd 0 RX9 cX9_begin 3 none (inM "begin") 7 (s_push (.int 1) 8) := snd_iconst (n := 1) (by decide +kernel) (by decide)
  have h8 : Snd 0 RX9 cX9_begin 3 none (inM "begin") 8 (s_ild 1 9) := snd_iload_n (j := 1) (by decide +kernel) rfl
  have h9 : Snd 0 RX9 cX9_begin 3 none (inM "begin") 9 (s_ishl 10) := snd_ishl (by decide +kernel)
  have h10 : Snd 0 RX9 cX9_begin 3 none (inM "begin") 10 (s_goto 14) := snd_goto (off := 4) (by decide +kernel) (by decide)
  have h13 : Snd 0 RX9 cX9_begin 3 none (inM "begin") 13 (s_push (.int 0) 14) := snd_iconst (n := 0) (by decide +kernel) (by decide)
  have h14 : Snd 0 RX9 cX9_begin 3 none (inM "begin") 14 (s_ist 2 15) := snd_istore_n (j := 2) (by decide +kernel) rfl
  have h15 : Snd 0 RX9 cX9_begin 3 none (inM "begin") 15 (s_ald 0 16) := snd_aload_n (j := 0) (by decide +kernel) rfl
  have h16 : Snd 0 RX9 cX9_begin 3 none (inM "begin") 16 (s_ild 1 17) := snd_iload_n (j := 1) (by decide +kernel) rfl
  have h17 : Snd 0 RX9 cX9_begin 3 none (inM "begin") 17 (s_puti 8 0 20) := snd_puti (T := TX9) (f := 0) cI_8 (by decide) g_99 (by decide) (by decide +kernel) (by decide +kernel)
  have h20 : Snd 0 RX9 cX9_begin 3 none (inM "begin") 20 (s_ald 0 21) := snd_aload_n (j := 0) (by decide +kernel) rfl
  have h21 : Snd 0 RX9 cX9_begin 3 none (inM "begin") 21 (s_push (.int 0) 22) := snd_iconst (n := 0) (by decide +kernel) (by decide)
  have h22 : Snd 0 RX9 cX9_begin 3 none (inM "begin") 22 (s_puti 8 2 25) := snd_puti (T := TX9) (f := 2) cI_8 (by decide) g_105 (by decide) (by decide +kernel) (by decide +kernel)
  have h25 : Snd 0 RX9 cX9_begin 3 none (inM "begin") 25 (s_ald 0 26) := snd_aload_n (j := 0) (by decide +kernel) rfl
  have h26 : Snd 0 RX9 cX9_begin 3 none (inM "begin") 26 (s_push (.int 0) 27) := snd_iconst (n := 0) (by decide +kernel) (by decide)
  have h27 : Snd 0 RX9 cX9_begin 3 none (inM "begin") 27 (s_puti 8 6 30) := snd_puti (T := TX9) (f := 6) cI_8 (by decide) g_117 (by decide) (by decide +kernel) (by decide +kernel)
  have h30 : Snd 0 RX9 cX9_begin 3 none (inM "begin") 30 (s_ald 0 31) := snd_aload_n (j := 0) (by decide +kernel) rfl
  have h31 : Snd 0 RX9 cX9_begin 3 none (inM "begin") 31 (s_push (.int 18) 33) := snd_bipush (n := 18) (by decide +kernel) (by decide)
  have h33 : Snd 0 RX9 cX9_begin 3 none (inM "begin") 33 (s_ild 2 34) := snd_iload_n (j := 2) (by decide +kernel) rfl
  have h34 : Snd 0 RX9 cX9_begin 3 none (inM "begin") 34 (s_ior 35) := snd_ior (by decide +kernel)
  have h35 : Snd 0 RX9 cX9_begin 3 none (inM "begin") 35 (s_puti 8 3 38) := snd_puti (T := TX9) (f := 3) cI_8 (by decide) g_108 (by decide) (by decide +kernel) (by decide +kernel)
  have h38 : Snd 0 RX9 cX9_begin 3 none (inM "begin") 38 (s_ald 0 39) := snd_aload_n (j := 0) (by decide +kernel) rfl
  have h39 : Snd 0 RX9 cX9_begin 3 none (inM "begin") 39 (s_push (.int 30) 41) := snd_bipush (n := 30) (by decide +kernel) (by decide)
  have h41 : Snd 0 RX9 cX9_begin 3 none (inM "begin") 41 (s_ild 2 42) := snd_iload_n (j := 2) (by decide +kernel) rfl
  have h42 : Snd 0 RX9 cX9_begin 3 none (inM "begin") 42 (s_ior 43) := snd_ior (by decide +kernel)
  have h43 : Snd 0 RX9 cX9_begin 3 none (inM "begin") 43 (s_puti 8 4 46) := snd_puti (T := TX9) (f := 4) cI_8 (by decide) g_111 (by decide) (by decide +kernel) (by decide +kernel)
  have h46 : Snd 0 RX9 cX9_begin 3 none (inM "begin") 46 (s_vret) := snd_vret (by decide +kernel)
  exact fun pc => snd_ite (snd_ite (snd_ite (snd_ite (snd_leaf (k := 0) h0) (snd_ite (snd_leaf (k := 1) h1) (snd_leaf (k := 2) h2))) (snd_ite (snd_ite (snd_leaf (k := 3) h3) (snd_leaf (k := 4) h4)) (snd_ite (snd_leaf (k := 7) h7) (snd_leaf (k := 8) h8)))) (snd_ite (snd_ite (snd_ite (snd_leaf (k := 9) h9) (snd_leaf (k := 10) h10)) (snd_ite (snd_leaf (k := 13) h13) (snd_leaf (k := 14) h14))) (snd_ite (snd_ite (snd_leaf (k := 15) h15) (snd_leaf (k := 16) h16)) (snd_ite (snd_leaf (k := 17) h17) (snd_leaf (k := 20) h20))))) (snd_ite (snd_ite (snd_ite (snd_ite (snd_leaf (k := 21) h21) (snd_leaf (k := 22) h22)) (snd_ite (snd_leaf (k := 25) h25) (snd_leaf (k := 26) h26))) (snd_ite (snd_ite (snd_leaf (k := 27) h27) (snd_leaf (k := 30) h30)) (snd_ite (snd_leaf (k := 31) h31) (snd_leaf (k := 33) h33)))) (snd_ite (snd_ite (snd_ite (snd_leaf (k := 34) h34) (snd_leaf (k := 35) h35)) (snd_ite (snd_leaf (k := 38) h38) (snd_leaf (k := 39) h39))) (snd_ite (snd_ite (snd_leaf (k := 41) h41) (snd_leaf (k := 42) h42)) (snd_ite (snd_leaf (k := 43) h43) (snd_leaf (k := 46) h46)))))
def pX9_begin : Spc := inl kX9_begin 3 36
theorem oX9_begin : Ok 0 yX9_begin cX9_begin 3 none pX9_begin := ok_inl (by decide) rfl sX9_begin

def kX11_addChange : Nat → Stq := fun pc => if pc < 10 then (if pc < 5 then (if pc < 1 then (if pc = 0 then s_ald 0 1 else s_bad) else (if pc < 4 then (if pc = 1 then s_getf 10 5 4 else s_bad) else (if pc = 4 then s_ald 0 5 else s_bad))) else (if pc < 8 then (if pc = 5 then s_getf 10 6 8 else s_bad) else (if pc < 9 then (if pc = 8 then s_ild 1 9 else s_bad) else (if pc = 9 then s_iast 10 else s_bad)))) else (if pc < 15 then (if pc < 11 then (if pc = 10 then s_ald 0 11 else s_bad) else (if pc < 12 then (if pc = 11 then s_dup 12 else s_bad) else (if pc = 12 then s_getf 10 6 15 else s_bad))) else (if pc < 17 then (if pc < 16 then (if pc = 15 then s_push (.int 1) 16 else s_bad) else (if pc = 16 then s_iadd 17 else s_bad)) else (if pc < 20 then (if pc = 17 then s_puti 10 6 20 else s_bad) else (if pc = 20 then s_vret else s_bad))))
set_option maxRecDepth 20000 in
theorem sX11_addChange : ∀ pc, Snd 0 RX11 cX11_addChange 2 none (inM "addChange") pc (kX11_addChange pc) := by
  have h0 : Snd 0 RX11 cX11_addChange 2 none (inM "addChange") 0 (s_ald 0 1) := snd_aload_n (j := 0) (by decide +kernel) rfl
  have h1 : Snd 0 RX11 cX11_addChange 2 none (inM "addChange") 1 (s_getf 10 5 4) := snd_getf (T := TX11) (f := 5) cI_10 (by decide) g_774 (by decide +kernel)
  have h4 : Snd 0 RX11 cX11_addChange 2 none (inM "addChange") 4 (s_ald 0 5) := snd_aload_n (j := 0) (by decide +kernel) rfl
  have h5 : Snd 0 RX11 cX11_addChange 2 none (inM "addChange") 5 (s_getf 10 6 8) := snd_getf (T := TX11) (f := 6) cI_10 (by decide) g_775 (by decide +kernel)
  have h8 : Snd 0 RX11 cX11_addChange 2 none (inM "addChange") 8 (s_ild 1 9) := snd_iload_n (j := 1) (by decide +kernel) rfl
  have h9 : Snd 0 RX11 cX11_addChange 2 none (inM "addChange") 9 (s_iast 10) := snd_iast (by decide +kernel)
  have h10 : Snd 0 RX11 cX11_addChange 2 none (inM "addChange") 10 (s_ald 0 11) := snd_aload_n (j := 0) (by decide +kernel) rfl
  have h11 : Snd 0 RX11 cX11_addChange 2 none (inM "addChange") 11 (s_dup 12) := snd_dup (by decide +kernel)
  have h12 : Snd 0 RX11 cX11_addChange 2 none (inM "addChange") 12 (s_getf 10 6 15) := snd_getf (T := TX11) (f := 6) cI_10 (by decide) g_775 (by decide +kernel)
  have h15 : Snd 0 RX11 cX11_addChange 2 none (inM "addChange") 15 (s_push (.int 1) 16) := snd_iconst (n := 1) (by decide +kernel) (by decide)
  have h16 : Snd 0 RX11 cX11_addChange 2 none (inM "addChange") 16 (s_iadd 17) := snd_iadd (by decide +kernel)
  have h17 : Snd 0 RX11 cX11_addChange 2 none (inM "addChange") 17 (s_puti 10 6 20) := snd_puti (T := TX11) (f := 6) cI_10 (by decide) g_775 (by decide) (by decide +kernel) (by decide +kernel)
  have h20 : Snd 0 RX11 cX11_addChange 2 none (inM "addChange") 20 (s_vret) := snd_vret (by decide +kernel)
  exact fun pc => snd_ite (snd_ite (snd_ite (snd_leaf (k := 0) h0) (snd_ite (snd_leaf (k := 1) h1) (snd_leaf (k := 4) h4))) (snd_ite (snd_leaf (k := 5) h5) (snd_ite (snd_leaf (k := 8) h8) (snd_leaf (k := 9) h9)))) (snd_ite (snd_ite (snd_leaf (k := 10) h10) (snd_ite (snd_leaf (k := 11) h11) (snd_leaf (k := 12) h12))) (snd_ite (snd_ite (snd_leaf (k := 15) h15) (snd_leaf (k := 16) h16)) (snd_ite (snd_leaf (k := 17) h17) (snd_leaf (k := 20) h20))))
def pX11_addChange : Spc := inl kX11_addChange 2 18
theorem oX11_addChange : Ok 0 yX11_addChange cX11_addChange 2 none pX11_addChange := ok_inl (by decide) rfl sX11_addChange

def kX11_begin : Nat → Stq := fun pc => if pc < 13 then (if pc < 6 then (if pc < 2 then (if pc < 1 then (if pc = 0 then s_ald 0 1 else s_bad) else (if pc = 1 then s_push (.int 0) 2 else s_bad)) else (if pc < 5 then (if pc = 2 then s_puti 10 6 5 else s_bad) else (if pc = 5 then s_ald 0 6 else s_bad))) else (if pc < 11 then (if pc < 8 then (if pc = 6 then s_push (.int (-6)) 8 else s_bad) else (if pc = 8 then s_puti 10 7 11 else s_bad)) else (if pc < 12 then (if pc = 11 then s_ald 0 12 else s_bad) else (if pc = 12 then s_push (.int 0) 13 else s_bad)))) else (if pc < 21 then (if pc < 17 then (if pc < 16 then (if pc = 13 then s_puti 10 8 16 else s_bad) else (if pc = 16 then s_ald 0 17 else s_bad)) else (if pc < 18 then (if pc = 17 then s_push (.int 0) 18 else s_bad) else (if pc = 18 then s_putz 10 9 21 else s_bad))) else (if pc < 23 then (if pc < 22 then (if pc = 21 then s_ald 0 22 else s_bad) else (if pc = 22 then s_push (.int 0) 23 else s_bad)) else (if pc < 26 then (if pc = 23 then s_putz 10 10 26 else s_bad) else (if pc = 26 then s_vret else s_bad))))
set_option maxRecDepth 20000 in
theorem sX11_begin : ∀ pc, Snd 0 RX11 cX11_begin 1 none (inM "begin") pc (kX11_begin pc) := by
  have h0 : Snd 0 RX11 cX11_begin 1 none (inM "begin") 0 (s_ald 0 1) := snd_aload_n (j := 0) (by decide +kernel) rfl
  have h1 : Snd 0 RX11 cX11_begin 1 none (inM "begin") 1 (s_push (.int 0) 2) := snd_iconst (n := 0) (by decide +kernel) (by decide)
  have h2 : Snd 0 RX11 cX11_begin 1 none (inM "begin") 2 (s_puti 10 6 5) := snd_puti (T := TX11) (f := 6) cI_10 (by decide) g_775 (by decide) (by decide +kernel) (by decide +kernel)
  have h5 : Snd 0 RX11 cX11_begin 1 none (inM "begin") 5 (s_ald 0 6) := snd_aload_n (j := 0) (by decide +kernel) rfl
  have h6 : Snd 0 RX11 cX11_begin 1 none (inM "begin") 6 (s_push (.int (-6)) 8) := snd_bipush (n := -6) (by decide +kernel) (by decide)
  have h8 : Snd 0 RX11 cX11_begin 1 none (inM "begin") 8 (s_puti 10 7 11) := snd_puti (T := TX11) (f := 7) cI_10 (by decide) g_776 (by decide) (by decide +kernel) (by decide +kernel)
  have h11 : Snd 0 RX11 cX11_begin 1 none (inM "begin") 11 (s_ald 0 12) := snd_aload_n (j := 0) (by decide +kernel) rfl
  have h12 : Snd 0 RX11 cX11_begin 1 none (inM "begin") 12 (s_push (.int 0) 13) := snd_iconst (n := 0) (by decide +kernel) (by decide)
  have h13 : Snd 0 RX11 cX11_begin 1 none (inM "begin") 13 (s_puti 10 8 16) := snd_puti (T := TX11) (f := 8) cI_10 (by decide) g_777 (by decide) (by decide +kernel) (by decide +kernel)
  have h16 : Snd 0 RX11 cX11_begin 1 none (inM "begin") 16 (s_ald 0 17) := snd_aload_n (j := 0) (by decide +kernel) rfl
  have h17 : Snd 0 RX11 cX11_begin 1 none (inM "begin") 17 (s_push (.int 0) 18) := snd_iconst (n := 0) (by decide +kernel) (by decide)
  have h18 : Snd 0 RX11 cX11_begin 1 none (inM "begin") 18 (s_putz 10 9 21) := snd_putz (T := TX11) (f := 9) cI_10 (by decide) g_778 (by decide) (by decide +kernel) (by decide +kernel)
  have h21 : Snd 0 RX11 cX11_begin 1 none (inM "begin") 21 (s_ald 0 22) := snd_aload_n (j := 0) (by decide +kernel) rfl
  have h22 : Snd 0 RX11 cX11_begin 1 none (inM "begin") 22 (s_push (.int 0) 23) := snd_iconst (n := 0) (by decide +kernel) (by decide)
  have h23 : Snd 0 RX11 cX11_begin 1 none (inM "begin") 23 (s_putz 10 10 26) := snd_putz (T := TX11) (f := 10) cI_10 (by decide) g_779 (by decide) (by decide +kernel) (by decide +kernel)
  have h26 : Snd 0 RX11 cX11_begin 1 none (inM "begin") 26 (s_vret) := snd_vret (by decide +kernel)
  exact fun pc => snd_ite (snd_ite (snd_ite (snd_ite (snd_leaf (k := 0) h0) (snd_leaf (k := 1) h1)) (snd_ite (snd_leaf (k := 2) h2) (snd_leaf (k := 5) h5))) (snd_ite (snd_ite (snd_leaf (k := 6) h6) (snd_leaf (k := 8) h8)) (snd_ite (snd_leaf (k := 11) h11) (snd_leaf (k := 12) h12)))) (snd_ite (snd_ite (snd_ite (snd_leaf (k := 13) h13) (snd_leaf (k := 16) h16)) (snd_ite (snd_leaf (k := 17) h17) (snd_leaf (k := 18) h18))) (snd_ite (snd_ite (snd_leaf (k := 21) h21) (snd_leaf (k := 22) h22)) (snd_ite (snd_leaf (k := 23) h23) (snd_leaf (k := 26) h26))))
def pX11_begin : Spc := inl kX11_begin 1 21
theorem oX11_begin : Ok 0 yX11_begin cX11_begin 1 none pX11_begin := ok_inl (by decide) rfl sX11_begin

def kX11_beginSearch : Nat → Stq := fun pc => if pc < 7 then (if pc < 2 then (if pc < 1 then (if pc = 0 then s_ald 0 1 else s_bad) else (if pc = 1 then s_dup 2 else s_bad)) else (if pc < 5 then (if pc = 2 then s_getf 10 17 5 else s_bad) else (if pc < 6 then (if pc = 5 then s_push (.int 1) 6 else s_bad) else (if pc = 6 then s_iadd 7 else s_bad)))) else (if pc < 11 then (if pc < 10 then (if pc = 7 then s_puti 10 17 10 else s_bad) else (if pc = 10 then s_ald 0 11 else s_bad)) else (if pc < 12 then (if pc = 11 then s_push (.int 0) 12 else s_bad) else (if pc < 15 then (if pc = 12 then s_puti 10 19 15 else s_bad) else (if pc = 15 then s_vret else s_bad))))
set_option maxRecDepth 20000 in
theorem sX11_beginSearch : ∀ pc, Snd 0 RX11 cX11_beginSearch 1 none (inM "beginSearch") pc (kX11_beginSearch pc) := by
  have h0 : Snd 0 RX11 cX11_beginSearch 1 none (inM "beginSearch") 0 (s_ald 0 1) := snd_aload_n (j := 0) (by decide +kernel) rfl
  have h1 : Snd 0 RX11 cX11_beginSearch 1 none (inM "beginSearch") 1 (s_dup 2) := snd_dup (by decide +kernel)
  have h2 : Snd 0 RX11 cX11_beginSearch 1 none (inM "beginSearch") 2 (s_getf 10 17 5) := snd_getf (T := TX11) (f := 17) cI_10 (by decide) g_786 (by decide +kernel)
  have h5 : Snd 0 RX11 cX11_beginSearch 1 none (inM "beginSearch") 5 (s_push (.int 1) 6) := snd_iconst (n := 1) (by decide +kernel) (by decide)
  have h6 : Snd 0 RX11 cX11_beginSearch 1 none (inM "beginSearch") 6 (s_iadd 7) := snd_iadd (by decide +kernel)
  have h7 : Snd 0 RX11 cX11_beginSearch 1 none (inM "beginSearch") 7 (s_puti 10 17 10) := snd_puti (T := TX11) (f := 17) cI_10 (by decide) g_786 (by decide) (by decide +kernel) (by decide +kernel)
  have h10 : Snd 0 RX11 cX11_beginSearch 1 none (inM "beginSearch") 10 (s_ald 0 11) := snd_aload_n (j := 0) (by decide +kernel) rfl
  have h11 : Snd 0 RX11 cX11_beginSearch 1 none (inM "beginSearch") 11 (s_push (.int 0) 12) := snd_iconst (n := 0) (by decide +kernel) (by decide)
  have h12 : Snd 0 RX11 cX11_beginSearch 1 none (inM "beginSearch") 12 (s_puti 10 19 15) := snd_puti (T := TX11) (f := 19) cI_10 (by decide) g_788 (by decide) (by decide +kernel) (by decide +kernel)
  have h15 : Snd 0 RX11 cX11_beginSearch 1 none (inM "beginSearch") 15 (s_vret) := snd_vret (by decide +kernel)
  exact fun pc => snd_ite (snd_ite (snd_ite (snd_leaf (k := 0) h0) (snd_leaf (k := 1) h1)) (snd_ite (snd_leaf (k := 2) h2) (snd_ite (snd_leaf (k := 5) h5) (snd_leaf (k := 6) h6)))) (snd_ite (snd_ite (snd_leaf (k := 7) h7) (snd_leaf (k := 10) h10)) (snd_ite (snd_leaf (k := 11) h11) (snd_ite (snd_leaf (k := 12) h12) (snd_leaf (k := 15) h15))))
def pX11_beginSearch : Spc := inl kX11_beginSearch 1 15
theorem oX11_beginSearch : Ok 0 yX11_beginSearch cX11_beginSearch 1 none pX11_beginSearch := ok_inl (by decide) rfl sX11_beginSearch

def kX11_changeOf : Nat → Stq := fun pc => if pc < 22 then (if pc < 10 then (if pc < 5 then (if pc < 1 then (if pc = 0 then s_ild 1 1 else s_bad) else (if pc < 4 then (if pc = 1 then s_ifle 30 4 else s_bad) else (if pc = 4 then s_ild 2 5 else s_bad))) else (if pc < 6 then (if pc = 5 then s_ald 0 6 else s_bad) else (if pc < 9 then (if pc = 6 then s_getf 10 0 9 else s_bad) else (if pc = 9 then s_push (.int 1) 10 else s_bad)))) else (if pc < 13 then (if pc < 11 then (if pc = 10 then s_iald 11 else s_bad) else (if pc < 12 then (if pc = 11 then s_push (.int 1) 12 else s_bad) else (if pc = 12 then s_isub 13 else s_bad))) else (if pc < 17 then (if pc < 16 then (if pc = 13 then s_icne 30 16 else s_bad) else (if pc = 16 then s_ald 0 17 else s_bad)) else (if pc < 20 then (if pc = 17 then s_getf 10 0 20 else s_bad) else (if pc = 20 then s_push (.int 42) 22 else s_bad))))) else (if pc < 30 then (if pc < 25 then (if pc < 23 then (if pc = 22 then s_ild 1 23 else s_bad) else (if pc < 24 then (if pc = 23 then s_iadd 24 else s_bad) else (if pc = 24 then s_push (.int 1) 25 else s_bad))) else (if pc < 26 then (if pc = 25 then s_isub 26 else s_bad) else (if pc < 27 then (if pc = 26 then s_iald 27 else s_bad) else (if pc = 27 then s_goto 38 else s_bad)))) else (if pc < 35 then (if pc < 31 then (if pc = 30 then s_ald 0 31 else s_bad) else (if pc < 34 then (if pc = 31 then s_getf 10 0 34 else s_bad) else (if pc = 34 then s_push (.int 2) 35 else s_bad))) else (if pc < 37 then (if pc < 36 then (if pc = 35 then s_ild 2 36 else s_bad) else (if pc = 36 then s_iadd 37 else s_bad)) else (if pc < 38 then (if pc = 37 then s_iald 38 else s_bad) else (if pc = 38 then s_iret else s_bad)))))
set_option maxRecDepth 20000 in
theorem sX11_changeOf : ∀ pc, Snd 0 RX11 cX11_changeOf 3 (some .int) (inM "changeOf") pc (kX11_changeOf pc) := by
  have h0 : Snd 0 RX11 cX11_changeOf 3 (some .int) (inM "changeOf") 0 (s_ild 1 1) := snd_iload_n (j := 1) (by decide +kernel) rfl
  have h1 : Snd 0 RX11 cX11_changeOf 3 (some .int) (inM "changeOf") 1 (s_ifle 30 4) := snd_ifle (off := 29) (by decide +kernel) (by decide)
  have h4 : Snd 0 RX11 cX11_changeOf 3 (some .int) (inM "changeOf") 4 (s_ild 2 5) := snd_iload_n (j := 2) (by decide +kernel) rfl
  have h5 : Snd 0 RX11 cX11_changeOf 3 (some .int) (inM "changeOf") 5 (s_ald 0 6) := snd_aload_n (j := 0) (by decide +kernel) rfl
  have h6 : Snd 0 RX11 cX11_changeOf 3 (some .int) (inM "changeOf") 6 (s_getf 10 0 9) := snd_getf (T := TX11) (f := 0) cI_10 (by decide) g_769 (by decide +kernel)
  have h9 : Snd 0 RX11 cX11_changeOf 3 (some .int) (inM "changeOf") 9 (s_push (.int 1) 10) := snd_iconst (n := 1) (by decide +kernel) (by decide)
  have h10 : Snd 0 RX11 cX11_changeOf 3 (some .int) (inM "changeOf") 10 (s_iald 11) := snd_iald (by decide +kernel)
  have h11 : Snd 0 RX11 cX11_changeOf 3 (some .int) (inM "changeOf") 11 (s_push (.int 1) 12) := snd_iconst (n := 1) (by decide +kernel) (by decide)
  have h12 : Snd 0 RX11 cX11_changeOf 3 (some .int) (inM "changeOf") 12 (s_isub 13) := snd_isub (by decide +kernel)
  have h13 : Snd 0 RX11 cX11_changeOf 3 (some .int) (inM "changeOf") 13 (s_icne 30 16) := snd_icne (off := 17) (by decide +kernel) (by decide)
  have h16 : Snd 0 RX11 cX11_changeOf 3 (some .int) (inM "changeOf") 16 (s_ald 0 17) := snd_aload_n (j := 0) (by decide +kernel) rfl
  have h17 : Snd 0 RX11 cX11_changeOf 3 (some .int) (inM "changeOf") 17 (s_getf 10 0 20) := snd_getf (T := TX11) (f := 0) cI_10 (by decide) g_769 (by decide +kernel)
  have h20 : Snd 0 RX11 cX11_changeOf 3 (some .int) (inM "changeOf") 20 (s_push (.int 42) 22) := snd_bipush (n := 42) (by decide +kernel) (by decide)
  have h22 : Snd 0 RX11 cX11_changeOf 3 (some .int) (inM "changeOf") 22 (s_ild 1 23) := snd_iload_n (j := 1) (by decide +kernel) rfl
  have h23 : Snd 0 RX11 cX11_changeOf 3 (some .int) (inM "changeOf") 23 (s_iadd 24) := snd_iadd (by decide +kernel)
  have h24 : Snd 0 RX11 cX11_changeOf 3 (some .int) (inM "changeOf") 24 (s_push (.int 1) 25) := snd_iconst (n := 1) (by decide +kernel) (by decide)
  have h25 : Snd 0 RX11 cX11_changeOf 3 (some .int) (inM "changeOf") 25 (s_isub 26) := snd_isub (by decide +kernel)
  have h26 : Snd 0 RX11 cX11_changeOf 3 (some .int) (inM "changeOf") 26 (s_iald 27) := snd_iald (by decide +kernel)
  have h27 : Snd 0 RX11 cX11_changeOf 3 (some .int) (inM "changeOf") 27 (s_goto 38) := snd_goto (off := 11) (by decide +kernel) (by decide)
  have h30 : Snd 0 RX11 cX11_changeOf 3 (some .int) (inM "changeOf") 30 (s_ald 0 31) := snd_aload_n (j := 0) (by decide +kernel) rfl
  have h31 : Snd 0 RX11 cX11_changeOf 3 (some .int) (inM "changeOf") 31 (s_getf 10 0 34) := snd_getf (T := TX11) (f := 0) cI_10 (by decide) g_769 (by decide +kernel)
  have h34 : Snd 0 RX11 cX11_changeOf 3 (some .int) (inM "changeOf") 34 (s_push (.int 2) 35) := snd_iconst (n := 2) (by decide +kernel) (by decide)
  have h35 : Snd 0 RX11 cX11_changeOf 3 (some .int) (inM "changeOf") 35 (s_ild 2 36) := snd_iload_n (j := 2) (by decide +kernel) rfl
  have h36 : Snd 0 RX11 cX11_changeOf 3 (some .int) (inM "changeOf") 36 (s_iadd 37) := snd_iadd (by decide +kernel)
  have h37 : Snd 0 RX11 cX11_changeOf 3 (some .int) (inM "changeOf") 37 (s_iald 38) := snd_iald (by decide +kernel)
  have h38 : Snd 0 RX11 cX11_changeOf 3 (some .int) (inM "changeOf") 38 (s_iret) := snd_iret (by decide +kernel)
  exact fun pc => snd_ite (snd_ite (snd_ite (snd_ite (snd_leaf (k := 0) h0) (snd_ite (snd_leaf (k := 1) h1) (snd_leaf (k := 4) h4))) (snd_ite (snd_leaf (k := 5) h5) (snd_ite (snd_leaf (k := 6) h6) (snd_leaf (k := 9) h9)))) (snd_ite (snd_ite (snd_leaf (k := 10) h10) (snd_ite (snd_leaf (k := 11) h11) (snd_leaf (k := 12) h12))) (snd_ite (snd_ite (snd_leaf (k := 13) h13) (snd_leaf (k := 16) h16)) (snd_ite (snd_leaf (k := 17) h17) (snd_leaf (k := 20) h20))))) (snd_ite (snd_ite (snd_ite (snd_leaf (k := 22) h22) (snd_ite (snd_leaf (k := 23) h23) (snd_leaf (k := 24) h24))) (snd_ite (snd_leaf (k := 25) h25) (snd_ite (snd_leaf (k := 26) h26) (snd_leaf (k := 27) h27)))) (snd_ite (snd_ite (snd_leaf (k := 30) h30) (snd_ite (snd_leaf (k := 31) h31) (snd_leaf (k := 34) h34))) (snd_ite (snd_ite (snd_leaf (k := 35) h35) (snd_leaf (k := 36) h36)) (snd_ite (snd_leaf (k := 37) h37) (snd_leaf (k := 38) h38)))))
def pX11_changeOf : Spc := inl kX11_changeOf 3 31
theorem oX11_changeOf : Ok 0 yX11_changeOf cX11_changeOf 3 (some .int) pX11_changeOf := ok_inl (by decide) rfl sX11_changeOf

def kX11_close : Nat → Stq := fun pc => if pc < 5 then (if pc < 1 then (if pc = 0 then s_ald 0 1 else s_bad) else (if pc < 2 then (if pc = 1 then s_push (.int 0) 2 else s_bad) else (if pc = 2 then s_putz 10 9 5 else s_bad))) else (if pc < 7 then (if pc < 6 then (if pc = 5 then s_ald 0 6 else s_bad) else (if pc = 6 then s_push (.int 0) 7 else s_bad)) else (if pc < 10 then (if pc = 7 then s_puti 10 8 10 else s_bad) else (if pc = 10 then s_vret else s_bad)))
set_option maxRecDepth 20000 in
theorem sX11_close : ∀ pc, Snd 0 RX11 cX11_close 1 none (inM "close") pc (kX11_close pc) := by
  have h0 : Snd 0 RX11 cX11_close 1 none (inM "close") 0 (s_ald 0 1) := snd_aload_n (j := 0) (by decide +kernel) rfl
  have h1 : Snd 0 RX11 cX11_close 1 none (inM "close") 1 (s_push (.int 0) 2) := snd_iconst (n := 0) (by decide +kernel) (by decide)
  have h2 : Snd 0 RX11 cX11_close 1 none (inM "close") 2 (s_putz 10 9 5) := snd_putz (T := TX11) (f := 9) cI_10 (by decide) g_778 (by decide) (by decide +kernel) (by decide +kernel)
  have h5 : Snd 0 RX11 cX11_close 1 none (inM "close") 5 (s_ald 0 6) := snd_aload_n (j := 0) (by decide +kernel) rfl
  have h6 : Snd 0 RX11 cX11_close 1 none (inM "close") 6 (s_push (.int 0) 7) := snd_iconst (n := 0) (by decide +kernel) (by decide)
  have h7 : Snd 0 RX11 cX11_close 1 none (inM "close") 7 (s_puti 10 8 10) := snd_puti (T := TX11) (f := 8) cI_10 (by decide) g_777 (by decide) (by decide +kernel) (by decide +kernel)
  have h10 : Snd 0 RX11 cX11_close 1 none (inM "close") 10 (s_vret) := snd_vret (by decide +kernel)
  exact fun pc => snd_ite (snd_ite (snd_leaf (k := 0) h0) (snd_ite (snd_leaf (k := 1) h1) (snd_leaf (k := 2) h2))) (snd_ite (snd_ite (snd_leaf (k := 5) h5) (snd_leaf (k := 6) h6)) (snd_ite (snd_leaf (k := 7) h7) (snd_leaf (k := 10) h10)))
def pX11_close : Spc := inl kX11_close 1 12
theorem oX11_close : Ok 0 yX11_close cX11_close 1 none pX11_close := ok_inl (by decide) rfl sX11_close

def kX11_in : Nat → Stq := fun pc => if pc < 7 then (if pc < 2 then (if pc < 1 then (if pc = 0 then s_ild 0 1 else s_bad) else (if pc = 1 then s_ild 1 2 else s_bad)) else (if pc < 5 then (if pc = 2 then s_iclt 14 5 else s_bad) else (if pc < 6 then (if pc = 5 then s_ild 0 6 else s_bad) else (if pc = 6 then s_ild 2 7 else s_bad)))) else (if pc < 11 then (if pc < 10 then (if pc = 7 then s_icgt 14 10 else s_bad) else (if pc = 10 then s_push (.int 1) 11 else s_bad)) else (if pc < 14 then (if pc = 11 then s_goto 15 else s_bad) else (if pc < 15 then (if pc = 14 then s_push (.int 0) 15 else s_bad) else (if pc = 15 then s_zret else s_bad))))
set_option maxRecDepth 20000 in
theorem sX11_in : ∀ pc, Snd 0 RX11 cX11_in 3 (some .boolean) (inM "in") pc (kX11_in pc) := by
  have h0 : Snd 0 RX11 cX11_in 3 (some .boolean) (inM "in") 0 (s_ild 0 1) := snd_iload_n (j := 0) (by decide +kernel) rfl
  have h1 : Snd 0 RX11 cX11_in 3 (some .boolean) (inM "in") 1 (s_ild 1 2) := snd_iload_n (j := 1) (by decide +kernel) rfl
  have h2 : Snd 0 RX11 cX11_in 3 (some .boolean) (inM "in") 2 (s_iclt 14 5) := snd_iclt (off := 12) (by decide +kernel) (by decide)
  have h5 : Snd 0 RX11 cX11_in 3 (some .boolean) (inM "in") 5 (s_ild 0 6) := snd_iload_n (j := 0) (by decide +kernel) rfl
  have h6 : Snd 0 RX11 cX11_in 3 (some .boolean) (inM "in") 6 (s_ild 2 7) := snd_iload_n (j := 2) (by decide +kernel) rfl
  have h7 : Snd 0 RX11 cX11_in 3 (some .boolean) (inM "in") 7 (s_icgt 14 10) := snd_icgt (off := 7) (by decide +kernel) (by decide)
  have h10 : Snd 0 RX11 cX11_in 3 (some .boolean) (inM "in") 10 (s_push (.int 1) 11) := snd_iconst (n := 1) (by decide +kernel) (by decide)
  have h11 : Snd 0 RX11 cX11_in 3 (some .boolean) (inM "in") 11 (s_goto 15) := snd_goto (off := 4) (by decide +kernel) (by decide)
  have h14 : Snd 0 RX11 cX11_in 3 (some .boolean) (inM "in") 14 (s_push (.int 0) 15) := snd_iconst (n := 0) (by decide +kernel) (by decide)
  have h15 : Snd 0 RX11 cX11_in 3 (some .boolean) (inM "in") 15 (s_zret) := snd_zret (by decide +kernel)
  exact fun pc => snd_ite (snd_ite (snd_ite (snd_leaf (k := 0) h0) (snd_leaf (k := 1) h1)) (snd_ite (snd_leaf (k := 2) h2) (snd_ite (snd_leaf (k := 5) h5) (snd_leaf (k := 6) h6)))) (snd_ite (snd_ite (snd_leaf (k := 7) h7) (snd_leaf (k := 10) h10)) (snd_ite (snd_leaf (k := 11) h11) (snd_ite (snd_leaf (k := 14) h14) (snd_leaf (k := 15) h15))))
def pX11_in : Spc := inl kX11_in 3 15
theorem oX11_in : Ok 0 yX11_in cX11_in 3 (some .boolean) pX11_in := ok_inl (by decide) rfl sX11_in

def kX11_isReady : Nat → Stq := fun pc => if pc < 13 then (if pc < 5 then (if pc < 1 then (if pc = 0 then s_ald 0 1 else s_bad) else (if pc < 4 then (if pc = 1 then s_getf 10 0 4 else s_bad) else (if pc = 4 then s_push (.int 1) 5 else s_bad))) else (if pc < 9 then (if pc < 6 then (if pc = 5 then s_iald 6 else s_bad) else (if pc = 6 then s_ifle 23 9 else s_bad)) else (if pc < 10 then (if pc = 9 then s_ald 0 10 else s_bad) else (if pc = 10 then s_getf 10 0 13 else s_bad)))) else (if pc < 19 then (if pc < 15 then (if pc = 13 then s_push (.int 44) 15 else s_bad) else (if pc < 16 then (if pc = 15 then s_iald 16 else s_bad) else (if pc = 16 then s_ifle 23 19 else s_bad))) else (if pc < 23 then (if pc < 20 then (if pc = 19 then s_push (.int 1) 20 else s_bad) else (if pc = 20 then s_goto 24 else s_bad)) else (if pc < 24 then (if pc = 23 then s_push (.int 0) 24 else s_bad) else (if pc = 24 then s_zret else s_bad))))
set_option maxRecDepth 20000 in
theorem sX11_isReady : ∀ pc, Snd 0 RX11 cX11_isReady 1 (some .boolean) (inM "isReady") pc (kX11_isReady pc) := by
  have h0 : Snd 0 RX11 cX11_isReady 1 (some .boolean) (inM "isReady") 0 (s_ald 0 1) := snd_aload_n (j := 0) (by decide +kernel) rfl
  have h1 : Snd 0 RX11 cX11_isReady 1 (some .boolean) (inM "isReady") 1 (s_getf 10 0 4) := snd_getf (T := TX11) (f := 0) cI_10 (by decide) g_769 (by decide +kernel)
  have h4 : Snd 0 RX11 cX11_isReady 1 (some .boolean) (inM "isReady") 4 (s_push (.int 1) 5) := snd_iconst (n := 1) (by decide +kernel) (by decide)
  have h5 : Snd 0 RX11 cX11_isReady 1 (some .boolean) (inM "isReady") 5 (s_iald 6) := snd_iald (by decide +kernel)
  have h6 : Snd 0 RX11 cX11_isReady 1 (some .boolean) (inM "isReady") 6 (s_ifle 23 9) := snd_ifle (off := 17) (by decide +kernel) (by decide)
  have h9 : Snd 0 RX11 cX11_isReady 1 (some .boolean) (inM "isReady") 9 (s_ald 0 10) := snd_aload_n (j := 0) (by decide +kernel) rfl
  have h10 : Snd 0 RX11 cX11_isReady 1 (some .boolean) (inM "isReady") 10 (s_getf 10 0 13) := snd_getf (T := TX11) (f := 0) cI_10 (by decide) g_769 (by decide +kernel)
  have h13 : Snd 0 RX11 cX11_isReady 1 (some .boolean) (inM "isReady") 13 (s_push (.int 44) 15) := snd_bipush (n := 44) (by decide +kernel) (by decide)
  have h15 : Snd 0 RX11 cX11_isReady 1 (some .boolean) (inM "isReady") 15 (s_iald 16) := snd_iald (by decide +kernel)
  have h16 : Snd 0 RX11 cX11_isReady 1 (some .boolean) (inM "isReady") 16 (s_ifle 23 19) := snd_ifle (off := 7) (by decide +kernel) (by decide)
  have h19 : Snd 0 RX11 cX11_isReady 1 (some .boolean) (inM "isReady") 19 (s_push (.int 1) 20) := snd_iconst (n := 1) (by decide +kernel) (by decide)
  have h20 : Snd 0 RX11 cX11_isReady 1 (some .boolean) (inM "isReady") 20 (s_goto 24) := snd_goto (off := 4) (by decide +kernel) (by decide)
  have h23 : Snd 0 RX11 cX11_isReady 1 (some .boolean) (inM "isReady") 23 (s_push (.int 0) 24) := snd_iconst (n := 0) (by decide +kernel) (by decide)
  have h24 : Snd 0 RX11 cX11_isReady 1 (some .boolean) (inM "isReady") 24 (s_zret) := snd_zret (by decide +kernel)
  exact fun pc => snd_ite (snd_ite (snd_ite (snd_leaf (k := 0) h0) (snd_ite (snd_leaf (k := 1) h1) (snd_leaf (k := 4) h4))) (snd_ite (snd_ite (snd_leaf (k := 5) h5) (snd_leaf (k := 6) h6)) (snd_ite (snd_leaf (k := 9) h9) (snd_leaf (k := 10) h10)))) (snd_ite (snd_ite (snd_leaf (k := 13) h13) (snd_ite (snd_leaf (k := 15) h15) (snd_leaf (k := 16) h16))) (snd_ite (snd_ite (snd_leaf (k := 19) h19) (snd_leaf (k := 20) h20)) (snd_ite (snd_leaf (k := 23) h23) (snd_leaf (k := 24) h24))))
def pX11_isReady : Spc := inl kX11_isReady 1 19
theorem oX11_isReady : Ok 0 yX11_isReady cX11_isReady 1 (some .boolean) pX11_isReady := ok_inl (by decide) rfl sX11_isReady

def kX11_lay : Nat → Stq := fun pc => if pc < 29 then (if pc < 14 then (if pc < 7 then (if pc < 4 then (if pc < 1 then (if pc = 0 then s_ald 0 1 else s_bad) else (if pc = 1 then s_getf 10 0 4 else s_bad)) else (if pc < 5 then (if pc = 4 then s_push (.int 0) 5 else s_bad) else (if pc < 6 then (if pc = 5 then s_ild 1 6 else s_bad) else (if pc = 6 then s_iast 7 else s_bad)))) else (if pc < 11 then (if pc < 8 then (if pc = 7 then s_ald 0 8 else s_bad) else (if pc = 8 then s_getf 10 0 11 else s_bad)) else (if pc < 12 then (if pc = 11 then s_push (.int 1) 12 else s_bad) else (if pc < 13 then (if pc = 12 then s_push (.int 0) 13 else s_bad) else (if pc = 13 then s_iast 14 else s_bad))))) else (if pc < 22 then (if pc < 18 then (if pc < 15 then (if pc = 14 then s_ald 0 15 else s_bad) else (if pc = 15 then s_getf 10 0 18 else s_bad)) else (if pc < 20 then (if pc = 18 then s_push (.int 44) 20 else s_bad) else (if pc < 21 then (if pc = 20 then s_push (.int 0) 21 else s_bad) else (if pc = 21 then s_iast 22 else s_bad)))) else (if pc < 24 then (if pc < 23 then (if pc = 22 then s_ild 1 23 else s_bad) else (if pc = 23 then s_push (.int 2) 24 else s_bad)) else (if pc < 25 then (if pc = 24 then s_irem 25 else s_bad) else (if pc < 26 then (if pc = 25 then s_push (.int 1) 26 else s_bad) else (if pc = 26 then s_icne 35 29 else s_bad)))))) else (if pc < 45 then (if pc < 36 then (if pc < 31 then (if pc < 30 then (if pc = 29 then s_push (.int 1) 30 else s_bad) else (if pc = 30 then s_ild 1 31 else s_bad)) else (if pc < 32 then (if pc = 31 then s_ishl 32 else s_bad) else (if pc < 35 then (if pc = 32 then s_goto 36 else s_bad) else (if pc = 35 then s_push (.int 0) 36 else s_bad)))) else (if pc < 38 then (if pc < 37 then (if pc = 36 then s_ist 2 37 else s_bad) else (if pc = 37 then s_ald 0 38 else s_bad)) else (if pc < 41 then (if pc = 38 then s_getf 10 0 41 else s_bad) else (if pc < 43 then (if pc = 41 then s_push (.int 42) 43 else s_bad) else (if pc = 43 then s_push (.int 18) 45 else s_bad))))) else (if pc < 52 then (if pc < 47 then (if pc < 46 then (if pc = 45 then s_ild 2 46 else s_bad) else (if pc = 46 then s_ior 47 else s_bad)) else (if pc < 48 then (if pc = 47 then s_iast 48 else s_bad) else (if pc < 49 then (if pc = 48 then s_ald 0 49 else s_bad) else (if pc = 49 then s_getf 10 0 52 else s_bad)))) else (if pc < 57 then (if pc < 54 then (if pc = 52 then s_push (.int 43) 54 else s_bad) else (if pc < 56 then (if pc = 54 then s_push (.int 30) 56 else s_bad) else (if pc = 56 then s_ild 2 57 else s_bad))) else (if pc < 58 then (if pc = 57 then s_ior 58 else s_bad) else (if pc < 59 then (if pc = 58 then s_iast 59 else s_bad) else (if pc = 59 then s_vret else s_bad))))))
set_option maxRecDepth 20000 in
theorem sX11_lay : ∀ pc, Snd 0 RX11 cX11_lay 3 none (inM "lay") pc (kX11_lay pc) := by
  have h0 : Snd 0 RX11 cX11_lay 3 none (inM "lay") 0 (s_ald 0 1) := snd_aload_n (j := 0) (by decide +kernel) rfl
  have h1 : Snd 0 RX11 cX11_lay 3 none (inM "lay") 1 (s_getf 10 0 4) := snd_getf (T := TX11) (f := 0) cI_10 (by decide) g_769 (by decide +kernel)
  have h4 : Snd 0 RX11 cX11_lay 3 none (inM "lay") 4 (s_push (.int 0) 5) := snd_iconst (n := 0) (by decide +kernel) (by decide)
  have h5 : Snd 0 RX11 cX11_lay 3 none (inM "lay") 5 (s_ild 1 6) := snd_iload_n (j := 1) (by decide +kernel) rfl
  have h6 : Snd 0 RX11 cX11_lay 3 none (inM "lay") 6 (s_iast 7) := snd_iast (by decide +kernel)
  have h7 : Snd 0 RX11 cX11_lay 3 none (inM "lay") 7 (s_ald 0 8) := snd_aload_n (j := 0) (by decide +kernel) rfl
  have h8 : Snd 0 RX11 cX11_lay 3 none (inM "lay") 8 (s_getf 10 0 11) := snd_getf (T := TX11) (f := 0) cI_10 (by decide) g_769 (by decide +kernel)
  have h11 : Snd 0 RX11 cX11_lay 3 none (inM "lay") 11 (s_push (.int 1) 12) := snd_iconst (n := 1) (by decide +kernel) (by decide)
  have h12 : Snd 0 RX11 cX11_lay 3 none (inM "lay") 12 (s_push (.int 0) 13) := snd_iconst (n := 0) (by decide +kernel) (by decide)
  have h13 : Snd 0 RX11 cX11_lay 3 none (inM "lay") 13 (s_iast 14) := snd_iast (by decide +kernel)
  have h14 : Snd 0 RX11 cX11_lay 3 none (inM "lay") 14 (s_ald 0 15) := snd_aload_n (j := 0) (by decide +kernel) rfl
  have h15 : Snd 0 RX11 cX11_lay 3 none (inM "lay") 15 (s_getf 10 0 18) := snd_getf (T := TX11) (f := 0) cI_10 (by decide) g_769 (by decide +kernel)
  have h18 : Snd 0 RX11 cX11_lay 3 none (inM "lay") 18 (s_push (.int 44) 20) := snd_bipush (n := 44) (by decide +kernel) (by decide)
  have h20 : Snd 0 RX11 cX11_lay 3 none (inM "lay") 20 (s_push (.int 0) 21) := snd_iconst (n := 0) (by decide +kernel) (by decide)
  have h21 : Snd 0 RX11 cX11_lay 3 none (inM "lay") 21 (s_iast 22) := snd_iast (by decide +kernel)
  have h22 : Snd 0 RX11 cX11_lay 3 none (inM "lay") 22 (s_ild 1 23) := snd_iload_n (j := 1) (by decide +kernel) rfl
  have h23 : Snd 0 RX11 cX11_lay 3 none (inM "lay") 23 (s_push (.int 2) 24) := snd_iconst (n := 2) (by decide +kernel) (by decide)
  have h24 : Snd 0 RX11 cX11_lay 3 none (inM "lay") 24 (s_irem 25) := snd_irem (by decide +kernel)
  have h25 : Snd 0 RX11 cX11_lay 3 none (inM "lay") 25 (s_push (.int 1) 26) := snd_iconst (n := 1) (by decide +kernel) (by decide)
  have h26 : Snd 0 RX11 cX11_lay 3 none (inM "lay") 26 (s_icne 35 29) := snd_icne (off := 9) (by decide +kernel) (by decide)
  have h29 : Snd 0 RX11 cX11_lay 3 none (inM "lay") 29 (s_push (.int 1) 30) := snd_iconst (n := 1) (by decide +kernel) (by decide)
  have h30 : Snd 0 RX11 cX11_lay 3 none (inM "lay") 30 (s_ild 1 31) := snd_iload_n (j := 1) (by decide +kernel) rfl
  have h31 : Snd 0 RX11 cX11_lay 3 none (inM "lay") 31 (s_ishl 32) := snd_ishl (by decide +kernel)
  have h32 : Snd 0 RX11 cX11_lay 3 none (inM "lay") 32 (s_goto 36) := snd_goto (off := 4) (by decide +kernel) (by decide)
  have h35 : Snd 0 RX11 cX11_lay 3 none (inM "lay") 35 (s_push (.int 0) 36) := snd_iconst (n := 0) (by decide +kernel) (by decide)
  have h36 : Snd 0 RX11 cX11_lay 3 none (inM "lay") 36 (s_ist 2 37) := snd_istore_n (j := 2) (by decide +kernel) rfl
  have h37 : Snd 0 RX11 cX11_lay 3 none (inM "lay") 37 (s_ald 0 38) := snd_aload_n (j := 0) (by decide +kernel) rfl
  have h38 : Snd 0 RX11 cX11_lay 3 none (inM "lay") 38 (s_getf 10 0 41) := snd_getf (T := TX11) (f := 0) cI_10 (by decide) g_769 (by decide +kernel)
  have h41 : Snd 0 RX11 cX11_lay 3 none (inM "lay") 41 (s_push (.int 42) 43) := snd_bipush (n := 42) (by decide +kernel) (by decide)
  have h43 : Snd 0 RX11 cX11_lay 3 none (inM "lay") 43 (s_push (.int 18) 45) := snd_bipush (n := 18) (by decide +kernel) (by decide)
  have h45 : Snd 0 RX11 cX11_lay 3 none (inM "lay") 45 (s_ild 2 46) := snd_iload_n (j := 2) (by decide +kernel) rfl
  have h46 : Snd 0 RX11 cX11_lay 3 none (inM "lay") 46 (s_ior 47) := snd_ior (by decide +kernel)
  have h47 : Snd 0 RX11 cX11_lay 3 none (inM "lay") 47 (s_iast 48) := snd_iast (by decide +kernel)
  have h48 : Snd 0 RX11 cX11_lay 3 none (inM "lay") 48 (s_ald 0 49) := snd_aload_n (j := 0) (by decide +kernel) rfl
  have h49 : Snd 0 RX11 cX11_lay 3 none (inM "lay") 49 (s_getf 10 0 52) := snd_getf (T := TX11) (f := 0) cI_10 (by decide) g_769 (by decide +kernel)
  have h52 : Snd 0 RX11 cX11_lay 3 none (inM "lay") 52 (s_push (.int 43) 54) := snd_bipush (n := 43) (by decide +kernel) (by decide)
  have h54 : Snd 0 RX11 cX11_lay 3 none (inM "lay") 54 (s_push (.int 30) 56) := snd_bipush (n := 30) (by decide +kernel) (by decide)
  have h56 : Snd 0 RX11 cX11_lay 3 none (inM "lay") 56 (s_ild 2 57) := snd_iload_n (j := 2) (by decide +kernel) rfl
  have h57 : Snd 0 RX11 cX11_lay 3 none (inM "lay") 57 (s_ior 58) := snd_ior (by decide +kernel)
  have h58 : Snd 0 RX11 cX11_lay 3 none (inM "lay") 58 (s_iast 59) := snd_iast (by decide +kernel)
  have h59 : Snd 0 RX11 cX11_lay 3 none (inM "lay") 59 (s_vret) := snd_vret (by decide +kernel)
  exact fun pc => snd_ite (snd_ite (snd_ite (snd_ite (snd_ite (snd_leaf (k := 0) h0) (snd_leaf (k := 1) h1)) (snd_ite (snd_leaf (k := 4) h4) (snd_ite (snd_leaf (k := 5) h5) (snd_leaf (k := 6) h6)))) (snd_ite (snd_ite (snd_leaf (k := 7) h7) (snd_leaf (k := 8) h8)) (snd_ite (snd_leaf (k := 11) h11) (snd_ite (snd_leaf (k := 12) h12) (snd_leaf (k := 13) h13))))) (snd_ite (snd_ite (snd_ite (snd_leaf (k := 14) h14) (snd_leaf (k := 15) h15)) (snd_ite (snd_leaf (k := 18) h18) (snd_ite (snd_leaf (k := 20) h20) (snd_leaf (k := 21) h21)))) (snd_ite (snd_ite (snd_leaf (k := 22) h22) (snd_leaf (k := 23) h23)) (snd_ite (snd_leaf (k := 24) h24) (snd_ite (snd_leaf (k := 25) h25) (snd_leaf (k := 26) h26)))))) (snd_ite (snd_ite (snd_ite (snd_ite (snd_leaf (k := 29) h29) (snd_leaf (k := 30) h30)) (snd_ite (snd_leaf (k := 31) h31) (snd_ite (snd_leaf (k := 32) h32) (snd_leaf (k := 35) h35)))) (snd_ite (snd_ite (snd_leaf (k := 36) h36) (snd_leaf (k := 37) h37)) (snd_ite (snd_leaf (k := 38) h38) (snd_ite (snd_leaf (k := 41) h41) (snd_leaf (k := 43) h43))))) (snd_ite (snd_ite (snd_ite (snd_leaf (k := 45) h45) (snd_leaf (k := 46) h46)) (snd_ite (snd_leaf (k := 47) h47) (snd_ite (snd_leaf (k := 48) h48) (snd_leaf (k := 49) h49)))) (snd_ite (snd_ite (snd_leaf (k := 52) h52) (snd_ite (snd_leaf (k := 54) h54) (snd_leaf (k := 56) h56))) (snd_ite (snd_leaf (k := 57) h57) (snd_ite (snd_leaf (k := 58) h58) (snd_leaf (k := 59) h59))))))
def pX11_lay : Spc := inl kX11_lay 3 46
theorem oX11_lay : Ok 0 yX11_lay cX11_lay 3 none pX11_lay := ok_inl (by decide) rfl sX11_lay

def kX11_letterOf : Nat → Stq := fun pc => if pc < 16 then (if pc < 7 then (if pc < 3 then (if pc < 1 then (if pc = 0 then s_ild 0 1 else s_bad) else (if pc = 1 then s_push (.int 112) 3 else s_bad)) else (if pc < 6 then (if pc = 3 then s_icne 10 6 else s_bad) else (if pc = 6 then s_push (.int 0) 7 else s_bad))) else (if pc < 11 then (if pc < 10 then (if pc = 7 then s_goto 32 else s_bad) else (if pc = 10 then s_ild 0 11 else s_bad)) else (if pc < 13 then (if pc = 11 then s_push (.int 98) 13 else s_bad) else (if pc = 13 then s_icne 20 16 else s_bad)))) else (if pc < 23 then (if pc < 20 then (if pc < 17 then (if pc = 16 then s_push (.int 1) 17 else s_bad) else (if pc = 17 then s_goto 32 else s_bad)) else (if pc < 21 then (if pc = 20 then s_ild 0 21 else s_bad) else (if pc = 21 then s_push (.int 115) 23 else s_bad))) else (if pc < 27 then (if pc < 26 then (if pc = 23 then s_icne 30 26 else s_bad) else (if pc = 26 then s_push (.int 2) 27 else s_bad)) else (if pc < 30 then (if pc = 27 then s_goto 32 else s_bad) else (if pc < 32 then (if pc = 30 then s_push (.int (-6)) 32 else s_bad) else (if pc = 32 then s_iret else s_bad)))))
set_option maxRecDepth 20000 in
theorem sX11_letterOf : ∀ pc, Snd 0 RX11 cX11_letterOf 1 (some .int) (inM "letterOf") pc (kX11_letterOf pc) := by
  have h0 : Snd 0 RX11 cX11_letterOf 1 (some .int) (inM "letterOf") 0 (s_ild 0 1) := snd_iload_n (j := 0) (by decide +kernel) rfl
  have h1 : Snd 0 RX11 cX11_letterOf 1 (some .int) (inM "letterOf") 1 (s_push (.int 112) 3) := snd_bipush (n := 112) (by decide +kernel) (by decide)
  have h3 : Snd 0 RX11 cX11_letterOf 1 (some .int) (inM "letterOf") 3 (s_icne 10 6) := snd_icne (off := 7) (by decide +kernel) (by decide)
  have h6 : Snd 0 RX11 cX11_letterOf 1 (some .int) (inM "letterOf") 6 (s_push (.int 0) 7) := snd_iconst (n := 0) (by decide +kernel) (by decide)
  have h7 : Snd 0 RX11 cX11_letterOf 1 (some .int) (inM "letterOf") 7 (s_goto 32) := snd_goto (off := 25) (by decide +kernel) (by decide)
  have h10 : Snd 0 RX11 cX11_letterOf 1 (some .int) (inM "letterOf") 10 (s_ild 0 11) := snd_iload_n (j := 0) (by decide +kernel) rfl
  have h11 : Snd 0 RX11 cX11_letterOf 1 (some .int) (inM "letterOf") 11 (s_push (.int 98) 13) := snd_bipush (n := 98) (by decide +kernel) (by decide)
  have h13 : Snd 0 RX11 cX11_letterOf 1 (some .int) (inM "letterOf") 13 (s_icne 20 16) := snd_icne (off := 7) (by decide +kernel) (by decide)
  have h16 : Snd 0 RX11 cX11_letterOf 1 (some .int) (inM "letterOf") 16 (s_push (.int 1) 17) := snd_iconst (n := 1) (by decide +kernel) (by decide)
  have h17 : Snd 0 RX11 cX11_letterOf 1 (some .int) (inM "letterOf") 17 (s_goto 32) := snd_goto (off := 15) (by decide +kernel) (by decide)
  have h20 : Snd 0 RX11 cX11_letterOf 1 (some .int) (inM "letterOf") 20 (s_ild 0 21) := snd_iload_n (j := 0) (by decide +kernel) rfl
  have h21 : Snd 0 RX11 cX11_letterOf 1 (some .int) (inM "letterOf") 21 (s_push (.int 115) 23) := snd_bipush (n := 115) (by decide +kernel) (by decide)
  have h23 : Snd 0 RX11 cX11_letterOf 1 (some .int) (inM "letterOf") 23 (s_icne 30 26) := snd_icne (off := 7) (by decide +kernel) (by decide)
  have h26 : Snd 0 RX11 cX11_letterOf 1 (some .int) (inM "letterOf") 26 (s_push (.int 2) 27) := snd_iconst (n := 2) (by decide +kernel) (by decide)
  have h27 : Snd 0 RX11 cX11_letterOf 1 (some .int) (inM "letterOf") 27 (s_goto 32) := snd_goto (off := 5) (by decide +kernel) (by decide)
  have h30 : Snd 0 RX11 cX11_letterOf 1 (some .int) (inM "letterOf") 30 (s_push (.int (-6)) 32) := snd_bipush (n := -6) (by decide +kernel) (by decide)
  have h32 : Snd 0 RX11 cX11_letterOf 1 (some .int) (inM "letterOf") 32 (s_iret) := snd_iret (by decide +kernel)
  exact fun pc => snd_ite (snd_ite (snd_ite (snd_ite (snd_leaf (k := 0) h0) (snd_leaf (k := 1) h1)) (snd_ite (snd_leaf (k := 3) h3) (snd_leaf (k := 6) h6))) (snd_ite (snd_ite (snd_leaf (k := 7) h7) (snd_leaf (k := 10) h10)) (snd_ite (snd_leaf (k := 11) h11) (snd_leaf (k := 13) h13)))) (snd_ite (snd_ite (snd_ite (snd_leaf (k := 16) h16) (snd_leaf (k := 17) h17)) (snd_ite (snd_leaf (k := 20) h20) (snd_leaf (k := 21) h21))) (snd_ite (snd_ite (snd_leaf (k := 23) h23) (snd_leaf (k := 26) h26)) (snd_ite (snd_leaf (k := 27) h27) (snd_ite (snd_leaf (k := 30) h30) (snd_leaf (k := 32) h32)))))
def pX11_letterOf : Spc := inl kX11_letterOf 1 22
theorem oX11_letterOf : Ok 0 yX11_letterOf cX11_letterOf 1 (some .int) pX11_letterOf := ok_inl (by decide) rfl sX11_letterOf

def kX11_many : Nat → Stq := fun pc => if pc < 4 then (if pc < 1 then (if pc = 0 then s_ald 0 1 else s_bad) else (if pc = 1 then s_getf 10 0 4 else s_bad)) else (if pc < 5 then (if pc = 4 then s_push (.int 0) 5 else s_bad) else (if pc < 6 then (if pc = 5 then s_iald 6 else s_bad) else (if pc = 6 then s_iret else s_bad)))
set_option maxRecDepth 20000 in
theorem sX11_many : ∀ pc, Snd 0 RX11 cX11_many 1 (some .int) (inM "many") pc (kX11_many pc) := by
  have h0 : Snd 0 RX11 cX11_many 1 (some .int) (inM "many") 0 (s_ald 0 1) := snd_aload_n (j := 0) (by decide +kernel) rfl
  have h1 : Snd 0 RX11 cX11_many 1 (some .int) (inM "many") 1 (s_getf 10 0 4) := snd_getf (T := TX11) (f := 0) cI_10 (by decide) g_769 (by decide +kernel)
  have h4 : Snd 0 RX11 cX11_many 1 (some .int) (inM "many") 4 (s_push (.int 0) 5) := snd_iconst (n := 0) (by decide +kernel) (by decide)
  have h5 : Snd 0 RX11 cX11_many 1 (some .int) (inM "many") 5 (s_iald 6) := snd_iald (by decide +kernel)
  have h6 : Snd 0 RX11 cX11_many 1 (some .int) (inM "many") 6 (s_iret) := snd_iret (by decide +kernel)
  exact fun pc => snd_ite (snd_ite (snd_leaf (k := 0) h0) (snd_leaf (k := 1) h1)) (snd_ite (snd_leaf (k := 4) h4) (snd_ite (snd_leaf (k := 5) h5) (snd_leaf (k := 6) h6)))
def pX11_many : Spc := inl kX11_many 1 10
theorem oX11_many : Ok 0 yX11_many cX11_many 1 (some .int) pX11_many := ok_inl (by decide) rfl sX11_many

def kX11_meet : Nat → Stq := fun pc => if pc < 24 then (if pc < 13 then (if pc < 5 then (if pc < 1 then (if pc = 0 then s_ald 0 1 else s_bad) else (if pc < 4 then (if pc = 1 then s_getf 10 16 4 else s_bad) else (if pc = 4 then s_ild 1 5 else s_bad))) else (if pc < 7 then (if pc < 6 then (if pc = 5 then s_iald 6 else s_bad) else (if pc = 6 then s_ald 0 7 else s_bad)) else (if pc < 10 then (if pc = 7 then s_getf 10 17 10 else s_bad) else (if pc = 10 then s_icne 15 13 else s_bad)))) else (if pc < 16 then (if pc < 14 then (if pc = 13 then s_push (.int 0) 14 else s_bad) else (if pc < 15 then (if pc = 14 then s_zret else s_bad) else (if pc = 15 then s_ald 0 16 else s_bad))) else (if pc < 20 then (if pc < 19 then (if pc = 16 then s_getf 10 16 19 else s_bad) else (if pc = 19 then s_ild 1 20 else s_bad)) else (if pc < 21 then (if pc = 20 then s_ald 0 21 else s_bad) else (if pc = 21 then s_getf 10 17 24 else s_bad))))) else (if pc < 35 then (if pc < 29 then (if pc < 25 then (if pc = 24 then s_iast 25 else s_bad) else (if pc < 26 then (if pc = 25 then s_ald 0 26 else s_bad) else (if pc = 26 then s_getf 10 18 29 else s_bad))) else (if pc < 33 then (if pc < 30 then (if pc = 29 then s_ald 0 30 else s_bad) else (if pc = 30 then s_getf 10 19 33 else s_bad)) else (if pc < 34 then (if pc = 33 then s_ild 1 34 else s_bad) else (if pc = 34 then s_iast 35 else s_bad)))) else (if pc < 41 then (if pc < 37 then (if pc < 36 then (if pc = 35 then s_ald 0 36 else s_bad) else (if pc = 36 then s_dup 37 else s_bad)) else (if pc < 40 then (if pc = 37 then s_getf 10 19 40 else s_bad) else (if pc = 40 then s_push (.int 1) 41 else s_bad))) else (if pc < 45 then (if pc < 42 then (if pc = 41 then s_iadd 42 else s_bad) else (if pc = 42 then s_puti 10 19 45 else s_bad)) else (if pc < 46 then (if pc = 45 then s_push (.int 1) 46 else s_bad) else (if pc = 46 then s_zret else s_bad)))))
set_option maxRecDepth 20000 in
theorem sX11_meet : ∀ pc, Snd 0 RX11 cX11_meet 2 (some .boolean) (inM "meet") pc (kX11_meet pc) := by
  have h0 : Snd 0 RX11 cX11_meet 2 (some .boolean) (inM "meet") 0 (s_ald 0 1) := snd_aload_n (j := 0) (by decide +kernel) rfl
  have h1 : Snd 0 RX11 cX11_meet 2 (some .boolean) (inM "meet") 1 (s_getf 10 16 4) := snd_getf (T := TX11) (f := 16) cI_10 (by decide) g_785 (by decide +kernel)
  have h4 : Snd 0 RX11 cX11_meet 2 (some .boolean) (inM "meet") 4 (s_ild 1 5) := snd_iload_n (j := 1) (by decide +kernel) rfl
  have h5 : Snd 0 RX11 cX11_meet 2 (some .boolean) (inM "meet") 5 (s_iald 6) := snd_iald (by decide +kernel)
  have h6 : Snd 0 RX11 cX11_meet 2 (some .boolean) (inM "meet") 6 (s_ald 0 7) := snd_aload_n (j := 0) (by decide +kernel) rfl
  have h7 : Snd 0 RX11 cX11_meet 2 (some .boolean) (inM "meet") 7 (s_getf 10 17 10) := snd_getf (T := TX11) (f := 17) cI_10 (by decide) g_786 (by decide +kernel)
  have h10 : Snd 0 RX11 cX11_meet 2 (some .boolean) (inM "meet") 10 (s_icne 15 13) := snd_icne (off := 5) (by decide +kernel) (by decide)
  have h13 : Snd 0 RX11 cX11_meet 2 (some .boolean) (inM "meet") 13 (s_push (.int 0) 14) := snd_iconst (n := 0) (by decide +kernel) (by decide)
  have h14 : Snd 0 RX11 cX11_meet 2 (some .boolean) (inM "meet") 14 (s_zret) := snd_zret (by decide +kernel)
  have h15 : Snd 0 RX11 cX11_meet 2 (some .boolean) (inM "meet") 15 (s_ald 0 16) := snd_aload_n (j := 0) (by decide +kernel) rfl
  have h16 : Snd 0 RX11 cX11_meet 2 (some .boolean) (inM "meet") 16 (s_getf 10 16 19) := snd_getf (T := TX11) (f := 16) cI_10 (by decide) g_785 (by decide +kernel)
  have h19 : Snd 0 RX11 cX11_meet 2 (some .boolean) (inM "meet") 19 (s_ild 1 20) := snd_iload_n (j := 1) (by decide +kernel) rfl
  have h20 : Snd 0 RX11 cX11_meet 2 (some .boolean) (inM "meet") 20 (s_ald 0 21) := snd_aload_n (j := 0) (by decide +kernel) rfl
  have h21 : Snd 0 RX11 cX11_meet 2 (some .boolean) (inM "meet") 21 (s_getf 10 17 24) := snd_getf (T := TX11) (f := 17) cI_10 (by decide) g_786 (by decide +kernel)
  have h24 : Snd 0 RX11 cX11_meet 2 (some .boolean) (inM "meet") 24 (s_iast 25) := snd_iast (by decide +kernel)
  have h25 : Snd 0 RX11 cX11_meet 2 (some .boolean) (inM "meet") 25 (s_ald 0 26) := snd_aload_n (j := 0) (by decide +kernel) rfl
  have h26 : Snd 0 RX11 cX11_meet 2 (some .boolean) (inM "meet") 26 (s_getf 10 18 29) := snd_getf (T := TX11) (f := 18) cI_10 (by decide) g_787 (by decide +kernel)
  have h29 : Snd 0 RX11 cX11_meet 2 (some .boolean) (inM "meet") 29 (s_ald 0 30) := snd_aload_n (j := 0) (by decide +kernel) rfl
  have h30 : Snd 0 RX11 cX11_meet 2 (some .boolean) (inM "meet") 30 (s_getf 10 19 33) := snd_getf (T := TX11) (f := 19) cI_10 (by decide) g_788 (by decide +kernel)
  have h33 : Snd 0 RX11 cX11_meet 2 (some .boolean) (inM "meet") 33 (s_ild 1 34) := snd_iload_n (j := 1) (by decide +kernel) rfl
  have h34 : Snd 0 RX11 cX11_meet 2 (some .boolean) (inM "meet") 34 (s_iast 35) := snd_iast (by decide +kernel)
  have h35 : Snd 0 RX11 cX11_meet 2 (some .boolean) (inM "meet") 35 (s_ald 0 36) := snd_aload_n (j := 0) (by decide +kernel) rfl
  have h36 : Snd 0 RX11 cX11_meet 2 (some .boolean) (inM "meet") 36 (s_dup 37) := snd_dup (by decide +kernel)
  have h37 : Snd 0 RX11 cX11_meet 2 (some .boolean) (inM "meet") 37 (s_getf 10 19 40) := snd_getf (T := TX11) (f := 19) cI_10 (by decide) g_788 (by decide +kernel)
  have h40 : Snd 0 RX11 cX11_meet 2 (some .boolean) (inM "meet") 40 (s_push (.int 1) 41) := snd_iconst (n := 1) (by decide +kernel) (by decide)
  have h41 : Snd 0 RX11 cX11_meet 2 (some .boolean) (inM "meet") 41 (s_iadd 42) := snd_iadd (by decide +kernel)
  have h42 : Snd 0 RX11 cX11_meet 2 (some .boolean) (inM "meet") 42 (s_puti 10 19 45) := snd_puti (T := TX11) (f := 19) cI_10 (by decide) g_788 (by decide) (by decide +kernel) (by decide +kernel)
  have h45 : Snd 0 RX11 cX11_meet 2 (some .boolean) (inM "meet") 45 (s_push (.int 1) 46) := snd_iconst (n := 1) (by decide +kernel) (by decide)
  have h46 : Snd 0 RX11 cX11_meet 2 (some .boolean) (inM "meet") 46 (s_zret) := snd_zret (by decide +kernel)
  exact fun pc => snd_ite (snd_ite (snd_ite (snd_ite (snd_leaf (k := 0) h0) (snd_ite (snd_leaf (k := 1) h1) (snd_leaf (k := 4) h4))) (snd_ite (snd_ite (snd_leaf (k := 5) h5) (snd_leaf (k := 6) h6)) (snd_ite (snd_leaf (k := 7) h7) (snd_leaf (k := 10) h10)))) (snd_ite (snd_ite (snd_leaf (k := 13) h13) (snd_ite (snd_leaf (k := 14) h14) (snd_leaf (k := 15) h15))) (snd_ite (snd_ite (snd_leaf (k := 16) h16) (snd_leaf (k := 19) h19)) (snd_ite (snd_leaf (k := 20) h20) (snd_leaf (k := 21) h21))))) (snd_ite (snd_ite (snd_ite (snd_leaf (k := 24) h24) (snd_ite (snd_leaf (k := 25) h25) (snd_leaf (k := 26) h26))) (snd_ite (snd_ite (snd_leaf (k := 29) h29) (snd_leaf (k := 30) h30)) (snd_ite (snd_leaf (k := 33) h33) (snd_leaf (k := 34) h34)))) (snd_ite (snd_ite (snd_ite (snd_leaf (k := 35) h35) (snd_leaf (k := 36) h36)) (snd_ite (snd_leaf (k := 37) h37) (snd_leaf (k := 40) h40))) (snd_ite (snd_ite (snd_leaf (k := 41) h41) (snd_leaf (k := 42) h42)) (snd_ite (snd_leaf (k := 45) h45) (snd_leaf (k := 46) h46)))))
def pX11_meet : Spc := inl kX11_meet 2 34
theorem oX11_meet : Ok 0 yX11_meet cX11_meet 2 (some .boolean) pX11_meet := ok_inl (by decide) rfl sX11_meet

def kX11_wipe : Nat → Stq := fun pc => if pc < 6 then (if pc < 4 then (if pc < 1 then (if pc = 0 then s_ald 0 1 else s_bad) else (if pc = 1 then s_getf 10 4 4 else s_bad)) else (if pc < 5 then (if pc = 4 then s_ist 1 5 else s_bad) else (if pc = 5 then s_ald 0 6 else s_bad))) else (if pc < 10 then (if pc < 7 then (if pc = 6 then s_push (.int 0) 7 else s_bad) else (if pc = 7 then s_puti 10 4 10 else s_bad)) else (if pc < 11 then (if pc = 10 then s_ild 1 11 else s_bad) else (if pc = 11 then s_iret else s_bad)))
set_option maxRecDepth 20000 in
theorem sX11_wipe : ∀ pc, Snd 0 RX11 cX11_wipe 2 (some .int) (inM "wipe") pc (kX11_wipe pc) := by
  have h0 : Snd 0 RX11 cX11_wipe 2 (some .int) (inM "wipe") 0 (s_ald 0 1) := snd_aload_n (j := 0) (by decide +kernel) rfl
  have h1 : Snd 0 RX11 cX11_wipe 2 (some .int) (inM "wipe") 1 (s_getf 10 4 4) := snd_getf (T := TX11) (f := 4) cI_10 (by decide) g_773 (by decide +kernel)
  have h4 : Snd 0 RX11 cX11_wipe 2 (some .int) (inM "wipe") 4 (s_ist 1 5) := snd_istore_n (j := 1) (by decide +kernel) rfl
  have h5 : Snd 0 RX11 cX11_wipe 2 (some .int) (inM "wipe") 5 (s_ald 0 6) := snd_aload_n (j := 0) (by decide +kernel) rfl
  have h6 : Snd 0 RX11 cX11_wipe 2 (some .int) (inM "wipe") 6 (s_push (.int 0) 7) := snd_iconst (n := 0) (by decide +kernel) (by decide)
  have h7 : Snd 0 RX11 cX11_wipe 2 (some .int) (inM "wipe") 7 (s_puti 10 4 10) := snd_puti (T := TX11) (f := 4) cI_10 (by decide) g_773 (by decide) (by decide +kernel) (by decide +kernel)
  have h10 : Snd 0 RX11 cX11_wipe 2 (some .int) (inM "wipe") 10 (s_ild 1 11) := snd_iload_n (j := 1) (by decide +kernel) rfl
  have h11 : Snd 0 RX11 cX11_wipe 2 (some .int) (inM "wipe") 11 (s_iret) := snd_iret (by decide +kernel)
  exact fun pc => snd_ite (snd_ite (snd_ite (snd_leaf (k := 0) h0) (snd_leaf (k := 1) h1)) (snd_ite (snd_leaf (k := 4) h4) (snd_leaf (k := 5) h5))) (snd_ite (snd_ite (snd_leaf (k := 6) h6) (snd_leaf (k := 7) h7)) (snd_ite (snd_leaf (k := 10) h10) (snd_leaf (k := 11) h11)))
def pX11_wipe : Spc := inl kX11_wipe 2 13
theorem oX11_wipe : Ok 0 yX11_wipe cX11_wipe 2 (some .int) pX11_wipe := ok_inl (by decide) rfl sX11_wipe

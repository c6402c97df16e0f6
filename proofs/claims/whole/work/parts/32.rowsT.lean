def kX7_step : Nat → Stq := fun pc => if pc < 21 then (if pc < 9 then (if pc < 3 then (if pc < 1 then (if pc = 0 then s_push (.int 0) 1 else s_bad) else (if pc < 2 then (if pc = 1 then s_ist 2 2 else s_bad) else (if pc = 2 then s_push (.int 1) 3 else s_bad))) else (if pc < 5 then (if pc < 4 then (if pc = 3 then s_ist 3 4 else s_bad) else (if pc = 4 then s_ild 3 5 else s_bad)) else (if pc < 6 then (if pc = 5 then s_ild 1 6 else s_bad) else (if pc = 6 then s_icge 41 9 else s_bad)))) else (if pc < 13 then (if pc < 11 then (if pc < 10 then (if pc = 9 then s_ild 0 10 else s_bad) else (if pc = 10 then s_ild 3 11 else s_bad)) else (if pc < 12 then (if pc = 11 then s_ishr 12 else s_bad) else (if pc = 12 then s_push (.int 1) 13 else s_bad))) else (if pc < 15 then (if pc < 14 then (if pc = 13 then s_iand 14 else s_bad) else (if pc = 14 then s_push (.int 1) 15 else s_bad)) else (if pc < 18 then (if pc = 15 then s_icne 24 18 else s_bad) else (if pc = 18 then s_inc 3 1 21 else s_bad))))) else (if pc < 31 then (if pc < 27 then (if pc < 24 then (if pc = 21 then s_goto 4 else s_bad) else (if pc < 25 then (if pc = 24 then s_ild 2 25 else s_bad) else (if pc = 25 then s_push (.int 7) 27 else s_bad))) else (if pc < 29 then (if pc < 28 then (if pc = 27 then s_push (.int 3) 28 else s_bad) else (if pc = 28 then s_ild 3 29 else s_bad)) else (if pc < 30 then (if pc = 29 then s_push (.int 1) 30 else s_bad) else (if pc = 30 then s_isub 31 else s_bad)))) else (if pc < 35 then (if pc < 33 then (if pc < 32 then (if pc = 31 then s_imul 32 else s_bad) else (if pc = 32 then s_ishl 33 else s_bad)) else (if pc < 34 then (if pc = 33 then s_ior 34 else s_bad) else (if pc = 34 then s_ist 2 35 else s_bad))) else (if pc < 41 then (if pc < 38 then (if pc = 35 then s_inc 3 2 38 else s_bad) else (if pc = 38 then s_goto 4 else s_bad)) else (if pc < 42 then (if pc = 41 then s_ild 2 42 else s_bad) else (if pc = 42 then s_iret else s_bad)))))
set_option maxRecDepth 20000 in
theorem sX7_step : ∀ pc, Snd 0 RX7 cX7_step 4 (some .int) (inM "step") pc (kX7_step pc) := by
  have h0 : Snd 0 RX7 cX7_step 4 (some .int) (inM "step") 0 (s_push (.int 0) 1) := snd_iconst (n := 0) (by decide +kernel) (by decide)
  have h1 : Snd 0 RX7 cX7_step 4 (some .int) (inM "step") 1 (s_ist 2 2) := snd_istore_n (j := 2) (by decide +kernel) rfl
  have h2 : Snd 0 RX7 cX7_step 4 (some .int) (inM "step") 2 (s_push (.int 1) 3) := snd_iconst (n := 1) (by decide +kernel) (by decide)
  have h3 : Snd 0 RX7 cX7_step 4 (some .int) (inM "step") 3 (s_ist 3 4) := snd_istore_n (j := 3) (by decide +kernel) rfl
  have h4 : Snd 0 RX7 cX7_step 4 (some .int) (inM "step") 4 (s_ild 3 5) := snd_iload_n (j := 3) (by decide +kernel) rfl
  have h5 : Snd 0 RX7 cX7_step 4 (some .int) (inM "step") 5 (s_ild 1 6) := snd_iload_n (j := 1) (by decide +kernel) rfl
  have h6 : Snd 0 RX7 cX7_step 4 (some .int) (inM "step") 6 (s_icge 41 9) := snd_icge (off := 35) (by decide +kernel) (by decide)
  have h9 : Snd 0 RX7 cX7_step 4 (some .int) (inM "step") 9 (s_ild 0 10) := snd_iload_n (j := 0) (by decide +kernel) rfl
  have h10 : Snd 0 RX7 cX7_step 4 (some .int) (inM "step") 10 (s_ild 3 11) := snd_iload_n (j := 3) (by decide +kernel) rfl
  have h11 : Snd 0 RX7 cX7_step 4 (some .int) (inM "step") 11 (s_ishr 12) := snd_ishr (by decide +kernel)
  have h12 : Snd 0 RX7 cX7_step 4 (some .int) (inM "step") 12 (s_push (.int 1) 13) := snd_iconst (n := 1) (by decide +kernel) (by decide)
  have h13 : Snd 0 RX7 cX7_step 4 (some .int) (inM "step") 13 (s_iand 14) := snd_iand (by decide +kernel)
  have h14 : Snd 0 RX7 cX7_step 4 (some .int) (inM "step") 14 (s_push (.int 1) 15) := snd_iconst (n := 1) (by decide +kernel) (by decide)
  have h15 : Snd 0 RX7 cX7_step 4 (some .int) (inM "step") 15 (s_icne 24 18) := snd_icne (off := 9) (by decide +kernel) (by decide)
  have h18 : Snd 0 RX7 cX7_step 4 (some .int) (inM "step") 18 (s_inc 3 1 21) := snd_iinc (y := 1) (by decide +kernel) (by decide)
  have h21 : Snd 0 RX7 cX7_step 4 (some .int) (inM "step") 21 (s_goto 4) := snd_goto (off := -17) (by decide +kernel) (by decide)
  have h24 : Snd 0 RX7 cX7_step 4 (some .int) (inM "step") 24 (s_ild 2 25) := snd_iload_n (j := 2) (by decide +kernel) rfl
  have h25 : Snd 0 RX7 cX7_step 4 (some .int) (inM "step") 25 (s_push (.int 7) 27) := snd_bipush (n := 7) (by decide +kernel) (by decide)
  have h27 : Snd 0 RX7 cX7_step 4 (some .int) (inM "step") 27 (s_push (.int 3) 28) := snd_iconst (n := 3) (by decide +kernel) (by decide)
  have h28 : Snd 0 RX7 cX7_step 4 (some .int) (inM "step") 28 (s_ild 3 29) := snd_iload_n (j := 3) (by decide +kernel) rfl
  have h29 : Snd 0 RX7 cX7_step 4 (some .int) (inM "step") 29 (s_push (.int 1) 30) := snd_iconst (n := 1) (by decide +kernel) (by decide)
  have h30 : Snd 0 RX7 cX7_step 4 (some .int) (inM "step") 30 (s_isub 31) := snd_isub (by decide +kernel)
  have h31 : Snd 0 RX7 cX7_step 4 (some .int) (inM "step") 31 (s_imul 32) := snd_imul (by decide +kernel)
  have h32 : Snd 0 RX7 cX7_step 4 (some .int) (inM "step") 32 (s_ishl 33) := snd_ishl (by decide +kernel)
  have h33 : Snd 0 RX7 cX7_step 4 (some .int) (inM "step") 33 (s_ior 34) := snd_ior (by decide +kernel)
  have h34 : Snd 0 RX7 cX7_step 4 (some .int) (inM "step") 34 (s_ist 2 35) := snd_istore_n (j := 2) (by decide +kernel) rfl
  have h35 : Snd 0 RX7 cX7_step 4 (some .int) (inM "step") 35 (s_inc 3 2 38) := snd_iinc (y := 2) (by decide +kernel) (by decide)
  have h38 : Snd 0 RX7 cX7_step 4 (some .int) (inM "step") 38 (s_goto 4) := snd_goto (off := -34) (by decide +kernel) (by decide)
  have h41 : Snd 0 RX7 cX7_step 4 (some .int) (inM "step") 41 (s_ild 2 42) := snd_iload_n (j := 2) (by decide +kernel) rfl
  have h42 : Snd 0 RX7 cX7_step 4 (some .int) (inM "step") 42 (s_iret) := snd_iret (by decide +kernel)
  exact fun pc => snd_ite (snd_ite (snd_ite (snd_ite (snd_leaf (k := 0) h0) (snd_ite (snd_leaf (k := 1) h1) (snd_leaf (k := 2) h2))) (snd_ite (snd_ite (snd_leaf (k := 3) h3) (snd_leaf (k := 4) h4)) (snd_ite (snd_leaf (k := 5) h5) (snd_leaf (k := 6) h6)))) (snd_ite (snd_ite (snd_ite (snd_leaf (k := 9) h9) (snd_leaf (k := 10) h10)) (snd_ite (snd_leaf (k := 11) h11) (snd_leaf (k := 12) h12))) (snd_ite (snd_ite (snd_leaf (k := 13) h13) (snd_leaf (k := 14) h14)) (snd_ite (snd_leaf (k := 15) h15) (snd_leaf (k := 18) h18))))) (snd_ite (snd_ite (snd_ite (snd_leaf (k := 21) h21) (snd_ite (snd_leaf (k := 24) h24) (snd_leaf (k := 25) h25))) (snd_ite (snd_ite (snd_leaf (k := 27) h27) (snd_leaf (k := 28) h28)) (snd_ite (snd_leaf (k := 29) h29) (snd_leaf (k := 30) h30)))) (snd_ite (snd_ite (snd_ite (snd_leaf (k := 31) h31) (snd_leaf (k := 32) h32)) (snd_ite (snd_leaf (k := 33) h33) (snd_leaf (k := 34) h34))) (snd_ite (snd_ite (snd_leaf (k := 35) h35) (snd_leaf (k := 38) h38)) (snd_ite (snd_leaf (k := 41) h41) (snd_leaf (k := 42) h42)))))

def kX7_rounds : Nat → Stq := fun pc => if pc < 11 then (if pc < 4 then (if pc < 2 then (if pc < 1 then (if pc = 0 then s_push (.int 0) 1 else s_bad) else (if pc = 1 then s_ist 1 2 else s_bad)) else (if pc < 3 then (if pc = 2 then s_push (.int 0) 3 else s_bad) else (if pc = 3 then s_ist 2 4 else s_bad))) else (if pc < 6 then (if pc < 5 then (if pc = 4 then s_ild 2 5 else s_bad) else (if pc = 5 then s_ild 0 6 else s_bad)) else (if pc < 9 then (if pc = 6 then s_icge 23 9 else s_bad) else (if pc < 10 then (if pc = 9 then s_ild 1 10 else s_bad) else (if pc = 10 then s_ild 2 11 else s_bad))))) else (if pc < 16 then (if pc < 13 then (if pc < 12 then (if pc = 11 then s_push (.int 3) 12 else s_bad) else (if pc = 12 then s_ild 2 13 else s_bad)) else (if pc < 14 then (if pc = 13 then s_imul 14 else s_bad) else (if pc < 15 then (if pc = 14 then s_ishl 15 else s_bad) else (if pc = 15 then s_ior 16 else s_bad)))) else (if pc < 20 then (if pc < 17 then (if pc = 16 then s_ist 1 17 else s_bad) else (if pc = 17 then s_inc 2 1 20 else s_bad)) else (if pc < 23 then (if pc = 20 then s_goto 4 else s_bad) else (if pc < 24 then (if pc = 23 then s_ild 1 24 else s_bad) else (if pc = 24 then s_iret else s_bad)))))
set_option maxRecDepth 20000 in
theorem sX7_rounds : ∀ pc, Snd 0 RX7 cX7_rounds 3 (some .int) (inM "rounds") pc (kX7_rounds pc) := by
  have h0 : Snd 0 RX7 cX7_rounds 3 (some .int) (inM "rounds") 0 (s_push (.int 0) 1) := snd_iconst (n := 0) (by decide +kernel) (by decide)
  have h1 : Snd 0 RX7 cX7_rounds 3 (some .int) (inM "rounds") 1 (s_ist 1 2) := snd_istore_n (j := 1) (by decide +kernel) rfl
  have h2 : Snd 0 RX7 cX7_rounds 3 (some .int) (inM "rounds") 2 (s_push (.int 0) 3) := snd_iconst (n := 0) (by decide +kernel) (by decide)
  have h3 : Snd 0 RX7 cX7_rounds 3 (some .int) (inM "rounds") 3 (s_ist 2 4) := snd_istore_n (j := 2) (by decide +kernel) rfl
  have h4 : Snd 0 RX7 cX7_rounds 3 (some .int) (inM "rounds") 4 (s_ild 2 5) := snd_iload_n (j := 2) (by decide +kernel) rfl
  have h5 : Snd 0 RX7 cX7_rounds 3 (some .int) (inM "rounds") 5 (s_ild 0 6) := snd_iload_n (j := 0) (by decide +kernel) rfl
  have h6 : Snd 0 RX7 cX7_rounds 3 (some .int) (inM "rounds") 6 (s_icge 23 9) := snd_icge (off := 17) (by decide +kernel) (by decide)
  have h9 : Snd 0 RX7 cX7_rounds 3 (some .int) (inM "rounds") 9 (s_ild 1 10) := snd_iload_n (j := 1) (by decide +kernel) rfl
  have h10 : Snd 0 RX7 cX7_rounds 3 (some .int) (inM "rounds") 10 (s_ild 2 11) := snd_iload_n (j := 2) (by decide +kernel) rfl
  have h11 : Snd 0 RX7 cX7_rounds 3 (some .int) (inM "rounds") 11 (s_push (.int 3) 12) := snd_iconst (n := 3) (by decide +kernel) (by decide)
  have h12 : Snd 0 RX7 cX7_rounds 3 (some .int) (inM "rounds") 12 (s_ild 2 13) := snd_iload_n (j := 2) (by decide +kernel) rfl
  have h13 : Snd 0 RX7 cX7_rounds 3 (some .int) (inM "rounds") 13 (s_imul 14) := snd_imul (by decide +kernel)
  have h14 : Snd 0 RX7 cX7_rounds 3 (some .int) (inM "rounds") 14 (s_ishl 15) := snd_ishl (by decide +kernel)
  have h15 : Snd 0 RX7 cX7_rounds 3 (some .int) (inM "rounds") 15 (s_ior 16) := snd_ior (by decide +kernel)
  have h16 : Snd 0 RX7 cX7_rounds 3 (some .int) (inM "rounds") 16 (s_ist 1 17) := snd_istore_n (j := 1) (by decide +kernel) rfl
  have h17 : Snd 0 RX7 cX7_rounds 3 (some .int) (inM "rounds") 17 (s_inc 2 1 20) := snd_iinc (y := 1) (by decide +kernel) (by decide)
  have h20 : Snd 0 RX7 cX7_rounds 3 (some .int) (inM "rounds") 20 (s_goto 4) := snd_goto (off := -16) (by decide +kernel) (by decide)
  have h23 : Snd 0 RX7 cX7_rounds 3 (some .int) (inM "rounds") 23 (s_ild 1 24) := snd_iload_n (j := 1) (by decide +kernel) rfl
  have h24 : Snd 0 RX7 cX7_rounds 3 (some .int) (inM "rounds") 24 (s_iret) := snd_iret (by decide +kernel)
  exact fun pc => snd_ite (snd_ite (snd_ite (snd_ite (snd_leaf (k := 0) h0) (snd_leaf (k := 1) h1)) (snd_ite (snd_leaf (k := 2) h2) (snd_leaf (k := 3) h3))) (snd_ite (snd_ite (snd_leaf (k := 4) h4) (snd_leaf (k := 5) h5)) (snd_ite (snd_leaf (k := 6) h6) (snd_ite (snd_leaf (k := 9) h9) (snd_leaf (k := 10) h10))))) (snd_ite (snd_ite (snd_ite (snd_leaf (k := 11) h11) (snd_leaf (k := 12) h12)) (snd_ite (snd_leaf (k := 13) h13) (snd_ite (snd_leaf (k := 14) h14) (snd_leaf (k := 15) h15)))) (snd_ite (snd_ite (snd_leaf (k := 16) h16) (snd_leaf (k := 17) h17)) (snd_ite (snd_leaf (k := 20) h20) (snd_ite (snd_leaf (k := 23) h23) (snd_leaf (k := 24) h24)))))

def kX7_howMany : Nat → Stq := fun pc => if pc < 9 then (if pc < 3 then (if pc < 1 then (if pc = 0 then s_push (.int 1) 1 else s_bad) else (if pc < 2 then (if pc = 1 then s_ist 1 2 else s_bad) else (if pc = 2 then s_push (.int 2) 3 else s_bad))) else (if pc < 5 then (if pc < 4 then (if pc = 3 then s_ist 2 4 else s_bad) else (if pc = 4 then s_ild 2 5 else s_bad)) else (if pc < 6 then (if pc = 5 then s_ild 0 6 else s_bad) else (if pc = 6 then s_icgt 19 9 else s_bad)))) else (if pc < 13 then (if pc < 11 then (if pc < 10 then (if pc = 9 then s_ild 1 10 else s_bad) else (if pc = 10 then s_ild 2 11 else s_bad)) else (if pc < 12 then (if pc = 11 then s_imul 12 else s_bad) else (if pc = 12 then s_ist 1 13 else s_bad))) else (if pc < 19 then (if pc < 16 then (if pc = 13 then s_inc 2 1 16 else s_bad) else (if pc = 16 then s_goto 4 else s_bad)) else (if pc < 20 then (if pc = 19 then s_ild 1 20 else s_bad) else (if pc = 20 then s_iret else s_bad))))
set_option maxRecDepth 20000 in
theorem sX7_howMany : ∀ pc, Snd 0 RX7 cX7_howMany 3 (some .int) (inM "howMany") pc (kX7_howMany pc) := by
  have h0 : Snd 0 RX7 cX7_howMany 3 (some .int) (inM "howMany") 0 (s_push (.int 1) 1) := snd_iconst (n := 1) (by decide +kernel) (by decide)
  have h1 : Snd 0 RX7 cX7_howMany 3 (some .int) (inM "howMany") 1 (s_ist 1 2) := snd_istore_n (j := 1) (by decide +kernel) rfl
  have h2 : Snd 0 RX7 cX7_howMany 3 (some .int) (inM "howMany") 2 (s_push (.int 2) 3) := snd_iconst (n := 2) (by decide +kernel) (by decide)
  have h3 : Snd 0 RX7 cX7_howMany 3 (some .int) (inM "howMany") 3 (s_ist 2 4) := snd_istore_n (j := 2) (by decide +kernel) rfl
  have h4 : Snd 0 RX7 cX7_howMany 3 (some .int) (inM "howMany") 4 (s_ild 2 5) := snd_iload_n (j := 2) (by decide +kernel) rfl
  have h5 : Snd 0 RX7 cX7_howMany 3 (some .int) (inM "howMany") 5 (s_ild 0 6) := snd_iload_n (j := 0) (by decide +kernel) rfl
  have h6 : Snd 0 RX7 cX7_howMany 3 (some .int) (inM "howMany") 6 (s_icgt 19 9) := snd_icgt (off := 13) (by decide +kernel) (by decide)
  have h9 : Snd 0 RX7 cX7_howMany 3 (some .int) (inM "howMany") 9 (s_ild 1 10) := snd_iload_n (j := 1) (by decide +kernel) rfl
  have h10 : Snd 0 RX7 cX7_howMany 3 (some .int) (inM "howMany") 10 (s_ild 2 11) := snd_iload_n (j := 2) (by decide +kernel) rfl
  have h11 : Snd 0 RX7 cX7_howMany 3 (some .int) (inM "howMany") 11 (s_imul 12) := snd_imul (by decide +kernel)
  have h12 : Snd 0 RX7 cX7_howMany 3 (some .int) (inM "howMany") 12 (s_ist 1 13) := snd_istore_n (j := 1) (by decide +kernel) rfl
  have h13 : Snd 0 RX7 cX7_howMany 3 (some .int) (inM "howMany") 13 (s_inc 2 1 16) := snd_iinc (y := 1) (by decide +kernel) (by decide)
  have h16 : Snd 0 RX7 cX7_howMany 3 (some .int) (inM "howMany") 16 (s_goto 4) := snd_goto (off := -12) (by decide +kernel) (by decide)
  have h19 : Snd 0 RX7 cX7_howMany 3 (some .int) (inM "howMany") 19 (s_ild 1 20) := snd_iload_n (j := 1) (by decide +kernel) rfl
  have h20 : Snd 0 RX7 cX7_howMany 3 (some .int) (inM "howMany") 20 (s_iret) := snd_iret (by decide +kernel)
  exact fun pc => snd_ite (snd_ite (snd_ite (snd_leaf (k := 0) h0) (snd_ite (snd_leaf (k := 1) h1) (snd_leaf (k := 2) h2))) (snd_ite (snd_ite (snd_leaf (k := 3) h3) (snd_leaf (k := 4) h4)) (snd_ite (snd_leaf (k := 5) h5) (snd_leaf (k := 6) h6)))) (snd_ite (snd_ite (snd_ite (snd_leaf (k := 9) h9) (snd_leaf (k := 10) h10)) (snd_ite (snd_leaf (k := 11) h11) (snd_leaf (k := 12) h12))) (snd_ite (snd_ite (snd_leaf (k := 13) h13) (snd_leaf (k := 16) h16)) (snd_ite (snd_leaf (k := 19) h19) (snd_leaf (k := 20) h20))))

def kX7_placeOf : Nat → Stq := fun pc => if pc < 12 then (if pc < 4 then (if pc < 2 then (if pc < 1 then (if pc = 0 then s_push (.int 1) 1 else s_bad) else (if pc = 1 then s_ist 3 2 else s_bad)) else (if pc < 3 then (if pc = 2 then s_ild 3 3 else s_bad) else (if pc = 3 then s_ild 2 4 else s_bad))) else (if pc < 8 then (if pc < 7 then (if pc = 4 then s_icge 24 7 else s_bad) else (if pc = 7 then s_ild 3 8 else s_bad)) else (if pc < 9 then (if pc = 8 then s_ild 1 9 else s_bad) else (if pc = 9 then s_inv 2 pX7_bellAt 12 else s_bad)))) else (if pc < 18 then (if pc < 16 then (if pc < 13 then (if pc = 12 then s_ild 0 13 else s_bad) else (if pc = 13 then s_icne 18 16 else s_bad)) else (if pc < 17 then (if pc = 16 then s_ild 3 17 else s_bad) else (if pc = 17 then s_iret else s_bad))) else (if pc < 24 then (if pc < 21 then (if pc = 18 then s_inc 3 1 21 else s_bad) else (if pc = 21 then s_goto 2 else s_bad)) else (if pc < 25 then (if pc = 24 then s_ild 2 25 else s_bad) else (if pc = 25 then s_iret else s_bad))))
set_option maxRecDepth 20000 in
theorem sX7_placeOf : ∀ pc, Snd 1 RX7 cX7_placeOf 4 (some .int) (inM "placeOf") pc (kX7_placeOf pc) := by
  have h0 : Snd 1 RX7 cX7_placeOf 4 (some .int) (inM "placeOf") 0 (s_push (.int 1) 1) := snd_iconst (n := 1) (by decide +kernel) (by decide)
  have h1 : Snd 1 RX7 cX7_placeOf 4 (some .int) (inM "placeOf") 1 (s_ist 3 2) := snd_istore_n (j := 3) (by decide +kernel) rfl
  have h2 : Snd 1 RX7 cX7_placeOf 4 (some .int) (inM "placeOf") 2 (s_ild 3 3) := snd_iload_n (j := 3) (by decide +kernel) rfl
  have h3 : Snd 1 RX7 cX7_placeOf 4 (some .int) (inM "placeOf") 3 (s_ild 2 4) := snd_iload_n (j := 2) (by decide +kernel) rfl
  have h4 : Snd 1 RX7 cX7_placeOf 4 (some .int) (inM "placeOf") 4 (s_icge 24 7) := snd_icge (off := 20) (by decide +kernel) (by decide)
  have h7 : Snd 1 RX7 cX7_placeOf 4 (some .int) (inM "placeOf") 7 (s_ild 3 8) := snd_iload_n (j := 3) (by decide +kernel) rfl
  have h8 : Snd 1 RX7 cX7_placeOf 4 (some .int) (inM "placeOf") 8 (s_ild 1 9) := snd_iload_n (j := 1) (by decide +kernel) rfl
  have h9 : Snd 1 RX7 cX7_placeOf 4 (some .int) (inM "placeOf") 9 (s_inv 2 pX7_bellAt 12) := snd_invs oX7_bellAt (by decide) (by decide) g_528 g_526 g_527 g_80 ⟨by decide, by decide, by decide +kernel⟩ (by decide +kernel)
  have h12 : Snd 1 RX7 cX7_placeOf 4 (some .int) (inM "placeOf") 12 (s_ild 0 13) := snd_iload_n (j := 0) (by decide +kernel) rfl
  have h13 : Snd 1 RX7 cX7_placeOf 4 (some .int) (inM "placeOf") 13 (s_icne 18 16) := snd_icne (off := 5) (by decide +kernel) (by decide)
  have h16 : Snd 1 RX7 cX7_placeOf 4 (some .int) (inM "placeOf") 16 (s_ild 3 17) := snd_iload_n (j := 3) (by decide +kernel) rfl
  have h17 : Snd 1 RX7 cX7_placeOf 4 (some .int) (inM "placeOf") 17 (s_iret) := snd_iret (by decide +kernel)
  have h18 : Snd 1 RX7 cX7_placeOf 4 (some .int) (inM "placeOf") 18 (s_inc 3 1 21) := snd_iinc (y := 1) (by decide +kernel) (by decide)
  have h21 : Snd 1 RX7 cX7_placeOf 4 (some .int) (inM "placeOf") 21 (s_goto 2) := snd_goto (off := -19) (by decide +kernel) (by decide)
  have h24 : Snd 1 RX7 cX7_placeOf 4 (some .int) (inM "placeOf") 24 (s_ild 2 25) := snd_iload_n (j := 2) (by decide +kernel) rfl
  have h25 : Snd 1 RX7 cX7_placeOf 4 (some .int) (inM "placeOf") 25 (s_iret) := snd_iret (by decide +kernel)
  exact fun pc => snd_ite (snd_ite (snd_ite (snd_ite (snd_leaf (k := 0) h0) (snd_leaf (k := 1) h1)) (snd_ite (snd_leaf (k := 2) h2) (snd_leaf (k := 3) h3))) (snd_ite (snd_ite (snd_leaf (k := 4) h4) (snd_leaf (k := 7) h7)) (snd_ite (snd_leaf (k := 8) h8) (snd_leaf (k := 9) h9)))) (snd_ite (snd_ite (snd_ite (snd_leaf (k := 12) h12) (snd_leaf (k := 13) h13)) (snd_ite (snd_leaf (k := 16) h16) (snd_leaf (k := 17) h17))) (snd_ite (snd_ite (snd_leaf (k := 18) h18) (snd_leaf (k := 21) h21)) (snd_ite (snd_leaf (k := 24) h24) (snd_leaf (k := 25) h25))))

def kX7_number : Nat → Stq := fun pc => if pc < 12 then (if pc < 4 then (if pc < 2 then (if pc < 1 then (if pc = 0 then s_push (.int 0) 1 else s_bad) else (if pc = 1 then s_ist 2 2 else s_bad)) else (if pc < 3 then (if pc = 2 then s_push (.int 1) 3 else s_bad) else (if pc = 3 then s_ist 3 4 else s_bad))) else (if pc < 6 then (if pc < 5 then (if pc = 4 then s_ild 3 5 else s_bad) else (if pc = 5 then s_ild 1 6 else s_bad)) else (if pc < 9 then (if pc = 6 then s_icgt 26 9 else s_bad) else (if pc < 10 then (if pc = 9 then s_ild 2 10 else s_bad) else (if pc = 10 then s_push (.int 10) 12 else s_bad))))) else (if pc < 19 then (if pc < 14 then (if pc < 13 then (if pc = 12 then s_imul 13 else s_bad) else (if pc = 13 then s_ild 3 14 else s_bad)) else (if pc < 15 then (if pc = 14 then s_ild 0 15 else s_bad) else (if pc < 18 then (if pc = 15 then s_inv 2 pX7_bellAt 18 else s_bad) else (if pc = 18 then s_iadd 19 else s_bad)))) else (if pc < 23 then (if pc < 20 then (if pc = 19 then s_ist 2 20 else s_bad) else (if pc = 20 then s_inc 3 1 23 else s_bad)) else (if pc < 26 then (if pc = 23 then s_goto 4 else s_bad) else (if pc < 27 then (if pc = 26 then s_ild 2 27 else s_bad) else (if pc = 27 then s_iret else s_bad)))))
set_option maxRecDepth 20000 in
theorem sX7_number : ∀ pc, Snd 1 RX7 cX7_number 4 (some .int) (inM "number") pc (kX7_number pc) := by
  have h0 : Snd 1 RX7 cX7_number 4 (some .int) (inM "number") 0 (s_push (.int 0) 1) := snd_iconst (n := 0) (by decide +kernel) (by decide)
  have h1 : Snd 1 RX7 cX7_number 4 (some .int) (inM "number") 1 (s_ist 2 2) := snd_istore_n (j := 2) (by decide +kernel) rfl
  have h2 : Snd 1 RX7 cX7_number 4 (some .int) (inM "number") 2 (s_push (.int 1) 3) := snd_iconst (n := 1) (by decide +kernel) (by decide)
  have h3 : Snd 1 RX7 cX7_number 4 (some .int) (inM "number") 3 (s_ist 3 4) := snd_istore_n (j := 3) (by decide +kernel) rfl
  have h4 : Snd 1 RX7 cX7_number 4 (some .int) (inM "number") 4 (s_ild 3 5) := snd_iload_n (j := 3) (by decide +kernel) rfl
  have h5 : Snd 1 RX7 cX7_number 4 (some .int) (inM "number") 5 (s_ild 1 6) := snd_iload_n (j := 1) (by decide +kernel) rfl
  have h6 : Snd 1 RX7 cX7_number 4 (some .int) (inM "number") 6 (s_icgt 26 9) := snd_icgt (off := 20) (by decide +kernel) (by decide)
  have h9 : Snd 1 RX7 cX7_number 4 (some .int) (inM "number") 9 (s_ild 2 10) := snd_iload_n (j := 2) (by decide +kernel) rfl
  have h10 : Snd 1 RX7 cX7_number 4 (some .int) (inM "number") 10 (s_push (.int 10) 12) := snd_bipush (n := 10) (by decide +kernel) (by decide)
  have h12 : Snd 1 RX7 cX7_number 4 (some .int) (inM "number") 12 (s_imul 13) := snd_imul (by decide +kernel)
  have h13 : Snd 1 RX7 cX7_number 4 (some .int) (inM "number") 13 (s_ild 3 14) := snd_iload_n (j := 3) (by decide +kernel) rfl
  have h14 : Snd 1 RX7 cX7_number 4 (some .int) (inM "number") 14 (s_ild 0 15) := snd_iload_n (j := 0) (by decide +kernel) rfl
  have h15 : Snd 1 RX7 cX7_number 4 (some .int) (inM "number") 15 (s_inv 2 pX7_bellAt 18) := snd_invs oX7_bellAt (by decide) (by decide) g_528 g_526 g_527 g_80 ⟨by decide, by decide, by decide +kernel⟩ (by decide +kernel)
  have h18 : Snd 1 RX7 cX7_number 4 (some .int) (inM "number") 18 (s_iadd 19) := snd_iadd (by decide +kernel)
  have h19 : Snd 1 RX7 cX7_number 4 (some .int) (inM "number") 19 (s_ist 2 20) := snd_istore_n (j := 2) (by decide +kernel) rfl
  have h20 : Snd 1 RX7 cX7_number 4 (some .int) (inM "number") 20 (s_inc 3 1 23) := snd_iinc (y := 1) (by decide +kernel) (by decide)
  have h23 : Snd 1 RX7 cX7_number 4 (some .int) (inM "number") 23 (s_goto 4) := snd_goto (off := -19) (by decide +kernel) (by decide)
  have h26 : Snd 1 RX7 cX7_number 4 (some .int) (inM "number") 26 (s_ild 2 27) := snd_iload_n (j := 2) (by decide +kernel) rfl
  have h27 : Snd 1 RX7 cX7_number 4 (some .int) (inM "number") 27 (s_iret) := snd_iret (by decide +kernel)
  exact fun pc => snd_ite (snd_ite (snd_ite (snd_ite (snd_leaf (k := 0) h0) (snd_leaf (k := 1) h1)) (snd_ite (snd_leaf (k := 2) h2) (snd_leaf (k := 3) h3))) (snd_ite (snd_ite (snd_leaf (k := 4) h4) (snd_leaf (k := 5) h5)) (snd_ite (snd_leaf (k := 6) h6) (snd_ite (snd_leaf (k := 9) h9) (snd_leaf (k := 10) h10))))) (snd_ite (snd_ite (snd_ite (snd_leaf (k := 12) h12) (snd_leaf (k := 13) h13)) (snd_ite (snd_leaf (k := 14) h14) (snd_ite (snd_leaf (k := 15) h15) (snd_leaf (k := 18) h18)))) (snd_ite (snd_ite (snd_leaf (k := 19) h19) (snd_leaf (k := 20) h20)) (snd_ite (snd_leaf (k := 23) h23) (snd_ite (snd_leaf (k := 26) h26) (snd_leaf (k := 27) h27)))))

def kX7_ofNumber : Nat → Stq := fun pc => if pc < 47 then (if pc < 22 then (if pc < 8 then (if pc < 3 then (if pc < 1 then (if pc = 0 then s_push (.int 0) 1 else s_bad) else (if pc < 2 then (if pc = 1 then s_ist 2 2 else s_bad) else (if pc = 2 then s_ild 0 3 else s_bad))) else (if pc < 5 then (if pc < 4 then (if pc = 3 then s_ist 3 4 else s_bad) else (if pc = 4 then s_push (.int 0) 5 else s_bad)) else (if pc < 7 then (if pc = 5 then s_ist 4 7 else s_bad) else (if pc = 7 then s_ild 1 8 else s_bad)))) else (if pc < 16 then (if pc < 12 then (if pc < 10 then (if pc = 8 then s_ist 5 10 else s_bad) else (if pc = 10 then s_ild 5 12 else s_bad)) else (if pc < 13 then (if pc = 12 then s_push (.int 1) 13 else s_bad) else (if pc = 13 then s_iclt 81 16 else s_bad))) else (if pc < 19 then (if pc < 17 then (if pc = 16 then s_ild 3 17 else s_bad) else (if pc = 17 then s_push (.int 10) 19 else s_bad)) else (if pc < 20 then (if pc = 19 then s_irem 20 else s_bad) else (if pc = 20 then s_ist 6 22 else s_bad))))) else (if pc < 36 then (if pc < 28 then (if pc < 24 then (if pc = 22 then s_ild 6 24 else s_bad) else (if pc < 25 then (if pc = 24 then s_push (.int 1) 25 else s_bad) else (if pc = 25 then s_iclt 45 28 else s_bad))) else (if pc < 31 then (if pc < 30 then (if pc = 28 then s_ild 6 30 else s_bad) else (if pc = 30 then s_ild 1 31 else s_bad)) else (if pc < 34 then (if pc = 31 then s_icgt 45 34 else s_bad) else (if pc = 34 then s_ild 4 36 else s_bad)))) else (if pc < 41 then (if pc < 39 then (if pc < 38 then (if pc = 36 then s_ild 6 38 else s_bad) else (if pc = 38 then s_ishr 39 else s_bad)) else (if pc < 40 then (if pc = 39 then s_push (.int 1) 40 else s_bad) else (if pc = 40 then s_iand 41 else s_bad))) else (if pc < 45 then (if pc < 42 then (if pc = 41 then s_push (.int 1) 42 else s_bad) else (if pc = 42 then s_icne 47 45 else s_bad)) else (if pc < 46 then (if pc = 45 then s_push (.int (-1)) 46 else s_bad) else (if pc = 46 then s_iret else s_bad)))))) else (if pc < 67 then (if pc < 57 then (if pc < 52 then (if pc < 49 then (if pc = 47 then s_ild 4 49 else s_bad) else (if pc < 50 then (if pc = 49 then s_push (.int 1) 50 else s_bad) else (if pc = 50 then s_ild 6 52 else s_bad))) else (if pc < 54 then (if pc < 53 then (if pc = 52 then s_ishl 53 else s_bad) else (if pc = 53 then s_ior 54 else s_bad)) else (if pc < 56 then (if pc = 54 then s_ist 4 56 else s_bad) else (if pc = 56 then s_ild 2 57 else s_bad)))) else (if pc < 62 then (if pc < 60 then (if pc < 59 then (if pc = 57 then s_ild 6 59 else s_bad) else (if pc = 59 then s_push (.int 1) 60 else s_bad)) else (if pc < 61 then (if pc = 60 then s_isub 61 else s_bad) else (if pc = 61 then s_push (.int 3) 62 else s_bad))) else (if pc < 65 then (if pc < 64 then (if pc = 62 then s_ild 5 64 else s_bad) else (if pc = 64 then s_push (.int 1) 65 else s_bad)) else (if pc < 66 then (if pc = 65 then s_isub 66 else s_bad) else (if pc = 66 then s_imul 67 else s_bad))))) else (if pc < 75 then (if pc < 70 then (if pc < 68 then (if pc = 67 then s_ishl 68 else s_bad) else (if pc < 69 then (if pc = 68 then s_ior 69 else s_bad) else (if pc = 69 then s_ist 2 70 else s_bad))) else (if pc < 73 then (if pc < 71 then (if pc = 70 then s_ild 3 71 else s_bad) else (if pc = 71 then s_push (.int 10) 73 else s_bad)) else (if pc < 74 then (if pc = 73 then s_idiv 74 else s_bad) else (if pc = 74 then s_ist 3 75 else s_bad)))) else (if pc < 85 then (if pc < 81 then (if pc < 78 then (if pc = 75 then s_inc 5 (-1) 78 else s_bad) else (if pc = 78 then s_goto 10 else s_bad)) else (if pc < 82 then (if pc = 81 then s_ild 3 82 else s_bad) else (if pc = 82 then s_ifne 89 85 else s_bad))) else (if pc < 89 then (if pc < 86 then (if pc = 85 then s_ild 2 86 else s_bad) else (if pc = 86 then s_goto 90 else s_bad)) else (if pc < 90 then (if pc = 89 then s_push (.int (-1)) 90 else s_bad) else (if pc = 90 then s_iret else s_bad))))))
set_option maxRecDepth 20000 in
theorem sX7_ofNumber : ∀ pc, Snd 0 RX7 cX7_ofNumber 7 (some .int) (inM "ofNumber") pc (kX7_ofNumber pc) := by
  have h0 : Snd 0 RX7 cX7_ofNumber 7 (some .int) (inM "ofNumber") 0 (s_push (.int 0) 1) := snd_iconst (n := 0) (by decide +kernel) (by decide)
  have h1 : Snd 0 RX7 cX7_ofNumber 7 (some .int) (inM "ofNumber") 1 (s_ist 2 2) := snd_istore_n (j := 2) (by decide +kernel) rfl
  have h2 : Snd 0 RX7 cX7_ofNumber 7 (some .int) (inM "ofNumber") 2 (s_ild 0 3) := snd_iload_n (j := 0) (by decide +kernel) rfl
  have h3 : Snd 0 RX7 cX7_ofNumber 7 (some .int) (inM "ofNumber") 3 (s_ist 3 4) := snd_istore_n (j := 3) (by decide +kernel) rfl
  have h4 : Snd 0 RX7 cX7_ofNumber 7 (some .int) (inM "ofNumber") 4 (s_push (.int 0) 5) := snd_iconst (n := 0) (by decide +kernel) (by decide)
  have h5 : Snd 0 RX7 cX7_ofNumber 7 (some .int) (inM "ofNumber") 5 (s_ist 4 7) := snd_istore (by decide +kernel)
  have h7 : Snd 0 RX7 cX7_ofNumber 7 (some .int) (inM "ofNumber") 7 (s_ild 1 8) := snd_iload_n (j := 1) (by decide +kernel) rfl
  have h8 : Snd 0 RX7 cX7_ofNumber 7 (some .int) (inM "ofNumber") 8 (s_ist 5 10) := snd_istore (by decide +kernel)
  have h10 : Snd 0 RX7 cX7_ofNumber 7 (some .int) (inM "ofNumber") 10 (s_ild 5 12) := snd_iload (by decide +kernel)
  have h12 : Snd 0 RX7 cX7_ofNumber 7 (some .int) (inM "ofNumber") 12 (s_push (.int 1) 13) := snd_iconst (n := 1) (by decide +kernel) (by decide)
  have h13 : Snd 0 RX7 cX7_ofNumber 7 (some .int) (inM "ofNumber") 13 (s_iclt 81 16) := snd_iclt (off := 68) (by decide +kernel) (by decide)
  have h16 : Snd 0 RX7 cX7_ofNumber 7 (some .int) (inM "ofNumber") 16 (s_ild 3 17) := snd_iload_n (j := 3) (by decide +kernel) rfl
  have h17 : Snd 0 RX7 cX7_ofNumber 7 (some .int) (inM "ofNumber") 17 (s_push (.int 10) 19) := snd_bipush (n := 10) (by decide +kernel) (by decide)
  have h19 : Snd 0 RX7 cX7_ofNumber 7 (some .int) (inM "ofNumber") 19 (s_irem 20) := snd_irem (by decide +kernel)
  have h20 : Snd 0 RX7 cX7_ofNumber 7 (some .int) (inM "ofNumber") 20 (s_ist 6 22) := snd_istore (by decide +kernel)
  have h22 : Snd 0 RX7 cX7_ofNumber 7 (some .int) (inM "ofNumber") 22 (s_ild 6 24) := snd_iload (by decide +kernel)
  have h24 : Snd 0 RX7 cX7_ofNumber 7 (some .int) (inM "ofNumber") 24 (s_push (.int 1) 25) := snd_iconst (n := 1) (by decide +kernel) (by decide)
  have h25 : Snd 0 RX7 cX7_ofNumber 7 (some .int) (inM "ofNumber") 25 (s_iclt 45 28) := snd_iclt (off := 20) (by decide +kernel) (by decide)
  have h28 : Snd 0 RX7 cX7_ofNumber 7 (some .int) (inM "ofNumber") 28 (s_ild 6 30) := snd_iload (by decide +kernel)
  have h30 : Snd 0 RX7 cX7_ofNumber 7 (some .int) (inM "ofNumber") 30 (s_ild 1 31) := snd_iload_n (j := 1) (by decide +kernel) rfl
  have h31 : Snd 0 RX7 cX7_ofNumber 7 (some .int) (inM "ofNumber") 31 (s_icgt 45 34) := snd_icgt (off := 14) (by decide +kernel) (by decide)
  have h34 : Snd 0 RX7 cX7_ofNumber 7 (some .int) (inM "ofNumber") 34 (s_ild 4 36) := snd_iload (by decide +kernel)
  have h36 : Snd 0 RX7 cX7_ofNumber 7 (some .int) (inM "ofNumber") 36 (s_ild 6 38) := snd_iload (by decide +kernel)
  have h38 : Snd 0 RX7 cX7_ofNumber 7 (some .int) (inM "ofNumber") 38 (s_ishr 39) := snd_ishr (by decide +kernel)
  have h39 : Snd 0 RX7 cX7_ofNumber 7 (some .int) (inM "ofNumber") 39 (s_push (.int 1) 40) := snd_iconst (n := 1) (by decide +kernel) (by decide)
  have h40 : Snd 0 RX7 cX7_ofNumber 7 (some .int) (inM "ofNumber") 40 (s_iand 41) := snd_iand (by decide +kernel)
  have h41 : Snd 0 RX7 cX7_ofNumber 7 (some .int) (inM "ofNumber") 41 (s_push (.int 1) 42) := snd_iconst (n := 1) (by decide +kernel) (by decide)
  have h42 : Snd 0 RX7 cX7_ofNumber 7 (some .int) (inM "ofNumber") 42 (s_icne 47 45) := snd_icne (off := 5) (by decide +kernel) (by decide)
  have h45 : Snd 0 RX7 cX7_ofNumber 7 (some .int) (inM "ofNumber") 45 (s_push (.int (-1)) 46) := snd_iconst (n := -1) (by decide +kernel) (by decide)
  have h46 : Snd 0 RX7 cX7_ofNumber 7 (some .int) (inM "ofNumber") 46 (s_iret) := snd_iret (by decide +kernel)
  have h47 : Snd 0 RX7 cX7_ofNumber 7 (some .int) (inM "ofNumber") 47 (s_ild 4 49) := snd_iload (by decide +kernel)
  have h49 : Snd 0 RX7 cX7_ofNumber 7 (some .int) (inM "ofNumber") 49 (s_push (.int 1) 50) := snd_iconst (n := 1) (by decide +kernel) (by decide)
  have h50 : Snd 0 RX7 cX7_ofNumber 7 (some .int) (inM "ofNumber") 50 (s_ild 6 52) := snd_iload (by decide +kernel)
  have h52 : Snd 0 RX7 cX7_ofNumber 7 (some .int) (inM "ofNumber") 52 (s_ishl 53) := snd_ishl (by decide +kernel)
  have h53 : Snd 0 RX7 cX7_ofNumber 7 (some .int) (inM "ofNumber") 53 (s_ior 54) := snd_ior (by decide +kernel)
  have h54 : Snd 0 RX7 cX7_ofNumber 7 (some .int) (inM "ofNumber") 54 (s_ist 4 56) := snd_istore (by decide +kernel)
  have h56 : Snd 0 RX7 cX7_ofNumber 7 (some .int) (inM "ofNumber") 56 (s_ild 2 57) := snd_iload_n (j := 2) (by decide +kernel) rfl
  have h57 : Snd 0 RX7 cX7_ofNumber 7 (some .int) (inM "ofNumber") 57 (s_ild 6 59) := snd_iload (by decide +kernel)
  have h59 : Snd 0 RX7 cX7_ofNumber 7 (some .int) (inM "ofNumber") 59 (s_push (.int 1) 60) := snd_iconst (n := 1) (by decide +kernel) (by decide)
  have h60 : Snd 0 RX7 cX7_ofNumber 7 (some .int) (inM "ofNumber") 60 (s_isub 61) := snd_isub (by decide +kernel)
  have h61 : Snd 0 RX7 cX7_ofNumber 7 (some .int) (inM "ofNumber") 61 (s_push (.int 3) 62) := snd_iconst (n := 3) (by decide +kernel) (by decide)
  have h62 : Snd 0 RX7 cX7_ofNumber 7 (some .int) (inM "ofNumber") 62 (s_ild 5 64) := snd_iload (by decide +kernel)
  have h64 : Snd 0 RX7 cX7_ofNumber 7 (some .int) (inM "ofNumber") 64 (s_push (.int 1) 65) := snd_iconst (n := 1) (by decide +kernel) (by decide)
  have h65 : Snd 0 RX7 cX7_ofNumber 7 (some .int) (inM "ofNumber") 65 (s_isub 66) := snd_isub (by decide +kernel)
  have h66 : Snd 0 RX7 cX7_ofNumber 7 (some .int) (inM "ofNumber") 66 (s_imul 67) := snd_imul (by decide +kernel)
  have h67 : Snd 0 RX7 cX7_ofNumber 7 (some .int) (inM "ofNumber") 67 (s_ishl 68) := snd_ishl (by decide +kernel)
  have h68 : Snd 0 RX7 cX7_ofNumber 7 (some .int) (inM "ofNumber") 68 (s_ior 69) := snd_ior (by decide +kernel)
  have h69 : Snd 0 RX7 cX7_ofNumber 7 (some .int) (inM "ofNumber") 69 (s_ist 2 70) := snd_istore_n (j := 2) (by decide +kernel) rfl
  have h70 : Snd 0 RX7 cX7_ofNumber 7 (some .int) (inM "ofNumber") 70 (s_ild 3 71) := snd_iload_n (j := 3) (by decide +kernel) rfl
  have h71 : Snd 0 RX7 cX7_ofNumber 7 (some .int) (inM "ofNumber") 71 (s_push (.int 10) 73) := snd_bipush (n := 10) (by decide +kernel) (by decide)
  have h73 : Snd 0 RX7 cX7_ofNumber 7 (some .int) (inM "ofNumber") 73 (s_idiv 74) := snd_idiv (by decide +kernel)
  have h74 : Snd 0 RX7 cX7_ofNumber 7 (some .int) (inM "ofNumber") 74 (s_ist 3 75) := snd_istore_n (j := 3) (by decide +kernel) rfl
  have h75 : Snd 0 RX7 cX7_ofNumber 7 (some .int) (inM "ofNumber") 75 (s_inc 5 (-1) 78) := snd_iinc (y := -1) (by decide +kernel) (by decide)
  have h78 : Snd 0 RX7 cX7_ofNumber 7 (some .int) (inM "ofNumber") 78 (s_goto 10) := snd_goto (off := -68) (by decide +kernel) (by decide)
  have h81 : Snd 0 RX7 cX7_ofNumber 7 (some .int) (inM "ofNumber") 81 (s_ild 3 82) := snd_iload_n (j := 3) (by decide +kernel) rfl
  have h82 : Snd 0 RX7 cX7_ofNumber 7 (some .int) (inM "ofNumber") 82 (s_ifne 89 85) := snd_ifne (off := 7) (by decide +kernel) (by decide)
  have h85 : Snd 0 RX7 cX7_ofNumber 7 (some .int) (inM "ofNumber") 85 (s_ild 2 86) := snd_iload_n (j := 2) (by decide +kernel) rfl
  have h86 : Snd 0 RX7 cX7_ofNumber 7 (some .int) (inM "ofNumber") 86 (s_goto 90) := snd_goto (off := 4) (by decide +kernel) (by decide)
  have h89 : Snd 0 RX7 cX7_ofNumber 7 (some .int) (inM "ofNumber") 89 (s_push (.int (-1)) 90) := snd_iconst (n := -1) (by decide +kernel) (by decide)
  have h90 : Snd 0 RX7 cX7_ofNumber 7 (some .int) (inM "ofNumber") 90 (s_iret) := snd_iret (by decide +kernel)
  exact fun pc => snd_ite (snd_ite (snd_ite (snd_ite (snd_ite (snd_leaf (k := 0) h0) (snd_ite (snd_leaf (k := 1) h1) (snd_leaf (k := 2) h2))) (snd_ite (snd_ite (snd_leaf (k := 3) h3) (snd_leaf (k := 4) h4)) (snd_ite (snd_leaf (k := 5) h5) (snd_leaf (k := 7) h7)))) (snd_ite (snd_ite (snd_ite (snd_leaf (k := 8) h8) (snd_leaf (k := 10) h10)) (snd_ite (snd_leaf (k := 12) h12) (snd_leaf (k := 13) h13))) (snd_ite (snd_ite (snd_leaf (k := 16) h16) (snd_leaf (k := 17) h17)) (snd_ite (snd_leaf (k := 19) h19) (snd_leaf (k := 20) h20))))) (snd_ite (snd_ite (snd_ite (snd_leaf (k := 22) h22) (snd_ite (snd_leaf (k := 24) h24) (snd_leaf (k := 25) h25))) (snd_ite (snd_ite (snd_leaf (k := 28) h28) (snd_leaf (k := 30) h30)) (snd_ite (snd_leaf (k := 31) h31) (snd_leaf (k := 34) h34)))) (snd_ite (snd_ite (snd_ite (snd_leaf (k := 36) h36) (snd_leaf (k := 38) h38)) (snd_ite (snd_leaf (k := 39) h39) (snd_leaf (k := 40) h40))) (snd_ite (snd_ite (snd_leaf (k := 41) h41) (snd_leaf (k := 42) h42)) (snd_ite (snd_leaf (k := 45) h45) (snd_leaf (k := 46) h46)))))) (snd_ite (snd_ite (snd_ite (snd_ite (snd_leaf (k := 47) h47) (snd_ite (snd_leaf (k := 49) h49) (snd_leaf (k := 50) h50))) (snd_ite (snd_ite (snd_leaf (k := 52) h52) (snd_leaf (k := 53) h53)) (snd_ite (snd_leaf (k := 54) h54) (snd_leaf (k := 56) h56)))) (snd_ite (snd_ite (snd_ite (snd_leaf (k := 57) h57) (snd_leaf (k := 59) h59)) (snd_ite (snd_leaf (k := 60) h60) (snd_leaf (k := 61) h61))) (snd_ite (snd_ite (snd_leaf (k := 62) h62) (snd_leaf (k := 64) h64)) (snd_ite (snd_leaf (k := 65) h65) (snd_leaf (k := 66) h66))))) (snd_ite (snd_ite (snd_ite (snd_leaf (k := 67) h67) (snd_ite (snd_leaf (k := 68) h68) (snd_leaf (k := 69) h69))) (snd_ite (snd_ite (snd_leaf (k := 70) h70) (snd_leaf (k := 71) h71)) (snd_ite (snd_leaf (k := 73) h73) (snd_leaf (k := 74) h74)))) (snd_ite (snd_ite (snd_ite (snd_leaf (k := 75) h75) (snd_leaf (k := 78) h78)) (snd_ite (snd_leaf (k := 81) h81) (snd_leaf (k := 82) h82))) (snd_ite (snd_ite (snd_leaf (k := 85) h85) (snd_leaf (k := 86) h86)) (snd_ite (snd_leaf (k := 89) h89) (snd_leaf (k := 90) h90))))))

def kX7_through : Nat → Stq := fun pc => if pc < 21 then (if pc < 8 then (if pc < 3 then (if pc < 1 then (if pc = 0 then s_push (.int 0) 1 else s_bad) else (if pc < 2 then (if pc = 1 then s_ist 3 2 else s_bad) else (if pc = 2 then s_push (.int 3) 3 else s_bad))) else (if pc < 5 then (if pc < 4 then (if pc = 3 then s_ild 2 4 else s_bad) else (if pc = 4 then s_imul 5 else s_bad)) else (if pc < 7 then (if pc = 5 then s_ist 4 7 else s_bad) else (if pc = 7 then s_push (.int 0) 8 else s_bad)))) else (if pc < 17 then (if pc < 12 then (if pc < 10 then (if pc = 8 then s_ist 5 10 else s_bad) else (if pc = 10 then s_ild 5 12 else s_bad)) else (if pc < 14 then (if pc = 12 then s_ild 4 14 else s_bad) else (if pc = 14 then s_icge 43 17 else s_bad))) else (if pc < 19 then (if pc < 18 then (if pc = 17 then s_ild 3 18 else s_bad) else (if pc = 18 then s_ild 0 19 else s_bad)) else (if pc < 20 then (if pc = 19 then s_push (.int 3) 20 else s_bad) else (if pc = 20 then s_ild 1 21 else s_bad))))) else (if pc < 32 then (if pc < 27 then (if pc < 24 then (if pc < 23 then (if pc = 21 then s_ild 5 23 else s_bad) else (if pc = 23 then s_iushr 24 else s_bad)) else (if pc < 26 then (if pc = 24 then s_push (.int 7) 26 else s_bad) else (if pc = 26 then s_iand 27 else s_bad))) else (if pc < 29 then (if pc < 28 then (if pc = 27 then s_imul 28 else s_bad) else (if pc = 28 then s_iushr 29 else s_bad)) else (if pc < 31 then (if pc = 29 then s_push (.int 7) 31 else s_bad) else (if pc = 31 then s_iand 32 else s_bad)))) else (if pc < 37 then (if pc < 35 then (if pc < 34 then (if pc = 32 then s_ild 5 34 else s_bad) else (if pc = 34 then s_ishl 35 else s_bad)) else (if pc < 36 then (if pc = 35 then s_ior 36 else s_bad) else (if pc = 36 then s_ist 3 37 else s_bad))) else (if pc < 43 then (if pc < 40 then (if pc = 37 then s_inc 5 3 40 else s_bad) else (if pc = 40 then s_goto 10 else s_bad)) else (if pc < 44 then (if pc = 43 then s_ild 3 44 else s_bad) else (if pc = 44 then s_iret else s_bad)))))
set_option maxRecDepth 20000 in
theorem sX7_through : ∀ pc, Snd 0 RX7 cX7_through 6 (some .int) (inM "through") pc (kX7_through pc) := by
  have h0 : Snd 0 RX7 cX7_through 6 (some .int) (inM "through") 0 (s_push (.int 0) 1) := snd_iconst (n := 0) (by decide +kernel) (by decide)
  have h1 : Snd 0 RX7 cX7_through 6 (some .int) (inM "through") 1 (s_ist 3 2) := snd_istore_n (j := 3) (by decide +kernel) rfl
  have h2 : Snd 0 RX7 cX7_through 6 (some .int) (inM "through") 2 (s_push (.int 3) 3) := snd_iconst (n := 3) (by decide +kernel) (by decide)
  have h3 : Snd 0 RX7 cX7_through 6 (some .int) (inM "through") 3 (s_ild 2 4) := snd_iload_n (j := 2) (by decide +kernel) rfl
  have h4 : Snd 0 RX7 cX7_through 6 (some .int) (inM "through") 4 (s_imul 5) := snd_imul (by decide +kernel)
  have h5 : Snd 0 RX7 cX7_through 6 (some .int) (inM "through") 5 (s_ist 4 7) := snd_istore (by decide +kernel)
  have h7 : Snd 0 RX7 cX7_through 6 (some .int) (inM "through") 7 (s_push (.int 0) 8) := snd_iconst (n := 0) (by decide +kernel) (by decide)
  have h8 : Snd 0 RX7 cX7_through 6 (some .int) (inM "through") 8 (s_ist 5 10) := snd_istore (by decide +kernel)
  have h10 : Snd 0 RX7 cX7_through 6 (some .int) (inM "through") 10 (s_ild 5 12) := snd_iload (by decide +kernel)
  have h12 : Snd 0 RX7 cX7_through 6 (some .int) (inM "through") 12 (s_ild 4 14) := snd_iload (by decide +kernel)
  have h14 : Snd 0 RX7 cX7_through 6 (some .int) (inM "through") 14 (s_icge 43 17) := snd_icge (off := 29) (by decide +kernel) (by decide)
  have h17 : Snd 0 RX7 cX7_through 6 (some .int) (inM "through") 17 (s_ild 3 18) := snd_iload_n (j := 3) (by decide +kernel) rfl
  have h18 : Snd 0 RX7 cX7_through 6 (some .int) (inM "through") 18 (s_ild 0 19) := snd_iload_n (j := 0) (by decide +kernel) rfl
  have h19 : Snd 0 RX7 cX7_through 6 (some .int) (inM "through") 19 (s_push (.int 3) 20) := snd_iconst (n := 3) (by decide +kernel) (by decide)
  have h20 : Snd 0 RX7 cX7_through 6 (some .int) (inM "through") 20 (s_ild 1 21) := snd_iload_n (j := 1) (by decide +kernel) rfl
  have h21 : Snd 0 RX7 cX7_through 6 (some .int) (inM "through") 21 (s_ild 5 23) := snd_iload (by decide +kernel)
  have h23 : Snd 0 RX7 cX7_through 6 (some .int) (inM "through") 23 (s_iushr 24) := snd_iushr (by decide +kernel)
  have h24 : Snd 0 RX7 cX7_through 6 (some .int) (inM "through") 24 (s_push (.int 7) 26) := snd_bipush (n := 7) (by decide +kernel) (by decide)
  have h26 : Snd 0 RX7 cX7_through 6 (some .int) (inM "through") 26 (s_iand 27) := snd_iand (by decide +kernel)
  have h27 : Snd 0 RX7 cX7_through 6 (some .int) (inM "through") 27 (s_imul 28) := snd_imul (by decide +kernel)
  have h28 : Snd 0 RX7 cX7_through 6 (some .int) (inM "through") 28 (s_iushr 29) := snd_iushr (by decide +kernel)
  have h29 : Snd 0 RX7 cX7_through 6 (some .int) (inM "through") 29 (s_push (.int 7) 31) := snd_bipush (n := 7) (by decide +kernel) (by decide)
  have h31 : Snd 0 RX7 cX7_through 6 (some .int) (inM "through") 31 (s_iand 32) := snd_iand (by decide +kernel)
  have h32 : Snd 0 RX7 cX7_through 6 (some .int) (inM "through") 32 (s_ild 5 34) := snd_iload (by decide +kernel)
  have h34 : Snd 0 RX7 cX7_through 6 (some .int) (inM "through") 34 (s_ishl 35) := snd_ishl (by decide +kernel)
  have h35 : Snd 0 RX7 cX7_through 6 (some .int) (inM "through") 35 (s_ior 36) := snd_ior (by decide +kernel)
  have h36 : Snd 0 RX7 cX7_through 6 (some .int) (inM "through") 36 (s_ist 3 37) := snd_istore_n (j := 3) (by decide +kernel) rfl
  have h37 : Snd 0 RX7 cX7_through 6 (some .int) (inM "through") 37 (s_inc 5 3 40) := snd_iinc (y := 3) (by decide +kernel) (by decide)
  have h40 : Snd 0 RX7 cX7_through 6 (some .int) (inM "through") 40 (s_goto 10) := snd_goto (off := -30) (by decide +kernel) (by decide)
  have h43 : Snd 0 RX7 cX7_through 6 (some .int) (inM "through") 43 (s_ild 3 44) := snd_iload_n (j := 3) (by decide +kernel) rfl
  have h44 : Snd 0 RX7 cX7_through 6 (some .int) (inM "through") 44 (s_iret) := snd_iret (by decide +kernel)
  exact fun pc => snd_ite (snd_ite (snd_ite (snd_ite (snd_leaf (k := 0) h0) (snd_ite (snd_leaf (k := 1) h1) (snd_leaf (k := 2) h2))) (snd_ite (snd_ite (snd_leaf (k := 3) h3) (snd_leaf (k := 4) h4)) (snd_ite (snd_leaf (k := 5) h5) (snd_leaf (k := 7) h7)))) (snd_ite (snd_ite (snd_ite (snd_leaf (k := 8) h8) (snd_leaf (k := 10) h10)) (snd_ite (snd_leaf (k := 12) h12) (snd_leaf (k := 14) h14))) (snd_ite (snd_ite (snd_leaf (k := 17) h17) (snd_leaf (k := 18) h18)) (snd_ite (snd_leaf (k := 19) h19) (snd_leaf (k := 20) h20))))) (snd_ite (snd_ite (snd_ite (snd_ite (snd_leaf (k := 21) h21) (snd_leaf (k := 23) h23)) (snd_ite (snd_leaf (k := 24) h24) (snd_leaf (k := 26) h26))) (snd_ite (snd_ite (snd_leaf (k := 27) h27) (snd_leaf (k := 28) h28)) (snd_ite (snd_leaf (k := 29) h29) (snd_leaf (k := 31) h31)))) (snd_ite (snd_ite (snd_ite (snd_leaf (k := 32) h32) (snd_leaf (k := 34) h34)) (snd_ite (snd_leaf (k := 35) h35) (snd_leaf (k := 36) h36))) (snd_ite (snd_ite (snd_leaf (k := 37) h37) (snd_leaf (k := 40) h40)) (snd_ite (snd_leaf (k := 43) h43) (snd_leaf (k := 44) h44)))))

def kX7_back : Nat → Stq := fun pc => if pc < 22 then (if pc < 8 then (if pc < 3 then (if pc < 1 then (if pc = 0 then s_push (.int 0) 1 else s_bad) else (if pc < 2 then (if pc = 1 then s_ist 3 2 else s_bad) else (if pc = 2 then s_push (.int 3) 3 else s_bad))) else (if pc < 5 then (if pc < 4 then (if pc = 3 then s_ild 2 4 else s_bad) else (if pc = 4 then s_imul 5 else s_bad)) else (if pc < 7 then (if pc = 5 then s_ist 4 7 else s_bad) else (if pc = 7 then s_push (.int 0) 8 else s_bad)))) else (if pc < 17 then (if pc < 12 then (if pc < 10 then (if pc = 8 then s_ist 5 10 else s_bad) else (if pc = 10 then s_ild 5 12 else s_bad)) else (if pc < 14 then (if pc = 12 then s_ild 4 14 else s_bad) else (if pc = 14 then s_icge 43 17 else s_bad))) else (if pc < 19 then (if pc < 18 then (if pc = 17 then s_ild 3 18 else s_bad) else (if pc = 18 then s_ild 0 19 else s_bad)) else (if pc < 21 then (if pc = 19 then s_ild 5 21 else s_bad) else (if pc = 21 then s_iushr 22 else s_bad))))) else (if pc < 33 then (if pc < 27 then (if pc < 25 then (if pc < 24 then (if pc = 22 then s_push (.int 7) 24 else s_bad) else (if pc = 24 then s_iand 25 else s_bad)) else (if pc < 26 then (if pc = 25 then s_push (.int 3) 26 else s_bad) else (if pc = 26 then s_ild 1 27 else s_bad))) else (if pc < 30 then (if pc < 29 then (if pc = 27 then s_ild 5 29 else s_bad) else (if pc = 29 then s_iushr 30 else s_bad)) else (if pc < 32 then (if pc = 30 then s_push (.int 7) 32 else s_bad) else (if pc = 32 then s_iand 33 else s_bad)))) else (if pc < 37 then (if pc < 35 then (if pc < 34 then (if pc = 33 then s_imul 34 else s_bad) else (if pc = 34 then s_ishl 35 else s_bad)) else (if pc < 36 then (if pc = 35 then s_ior 36 else s_bad) else (if pc = 36 then s_ist 3 37 else s_bad))) else (if pc < 43 then (if pc < 40 then (if pc = 37 then s_inc 5 3 40 else s_bad) else (if pc = 40 then s_goto 10 else s_bad)) else (if pc < 44 then (if pc = 43 then s_ild 3 44 else s_bad) else (if pc = 44 then s_iret else s_bad)))))
set_option maxRecDepth 20000 in
theorem sX7_back : ∀ pc, Snd 0 RX7 cX7_back 6 (some .int) (inM "back") pc (kX7_back pc) := by
  have h0 : Snd 0 RX7 cX7_back 6 (some .int) (inM "back") 0 (s_push (.int 0) 1) := snd_iconst (n := 0) (by decide +kernel) (by decide)
  have h1 : Snd 0 RX7 cX7_back 6 (some .int) (inM "back") 1 (s_ist 3 2) := snd_istore_n (j := 3) (by decide +kernel) rfl
  have h2 : Snd 0 RX7 cX7_back 6 (some .int) (inM "back") 2 (s_push (.int 3) 3) := snd_iconst (n := 3) (by decide +kernel) (by decide)
  have h3 : Snd 0 RX7 cX7_back 6 (some .int) (inM "back") 3 (s_ild 2 4) := snd_iload_n (j := 2) (by decide +kernel) rfl
  have h4 : Snd 0 RX7 cX7_back 6 (some .int) (inM "back") 4 (s_imul 5) := snd_imul (by decide +kernel)
  have h5 : Snd 0 RX7 cX7_back 6 (some .int) (inM "back") 5 (s_ist 4 7) := snd_istore (by decide +kernel)
  have h7 : Snd 0 RX7 cX7_back 6 (some .int) (inM "back") 7 (s_push (.int 0) 8) := snd_iconst (n := 0) (by decide +kernel) (by decide)
  have h8 : Snd 0 RX7 cX7_back 6 (some .int) (inM "back") 8 (s_ist 5 10) := snd_istore (by decide +kernel)
  have h10 : Snd 0 RX7 cX7_back 6 (some .int) (inM "back") 10 (s_ild 5 12) := snd_iload (by decide +kernel)
  have h12 : Snd 0 RX7 cX7_back 6 (some .int) (inM "back") 12 (s_ild 4 14) := snd_iload (by decide +kernel)
  have h14 : Snd 0 RX7 cX7_back 6 (some .int) (inM "back") 14 (s_icge 43 17) := snd_icge (off := 29) (by decide +kernel) (by decide)
  have h17 : Snd 0 RX7 cX7_back 6 (some .int) (inM "back") 17 (s_ild 3 18) := snd_iload_n (j := 3) (by decide +kernel) rfl
  have h18 : Snd 0 RX7 cX7_back 6 (some .int) (inM "back") 18 (s_ild 0 19) := snd_iload_n (j := 0) (by decide +kernel) rfl
  have h19 : Snd 0 RX7 cX7_back 6 (some .int) (inM "back") 19 (s_ild 5 21) := snd_iload (by decide +kernel)
  have h21 : Snd 0 RX7 cX7_back 6 (some .int) (inM "back") 21 (s_iushr 22) := snd_iushr (by decide +kernel)
  have h22 : Snd 0 RX7 cX7_back 6 (some .int) (inM "back") 22 (s_push (.int 7) 24) := snd_bipush (n := 7) (by decide +kernel) (by decide)
  have h24 : Snd 0 RX7 cX7_back 6 (some .int) (inM "back") 24 (s_iand 25) := snd_iand (by decide +kernel)
  have h25 : Snd 0 RX7 cX7_back 6 (some .int) (inM "back") 25 (s_push (.int 3) 26) := snd_iconst (n := 3) (by decide +kernel) (by decide)
  have h26 : Snd 0 RX7 cX7_back 6 (some .int) (inM "back") 26 (s_ild 1 27) := snd_iload_n (j := 1) (by decide +kernel) rfl
  have h27 : Snd 0 RX7 cX7_back 6 (some .int) (inM "back") 27 (s_ild 5 29) := snd_iload (by decide +kernel)
  have h29 : Snd 0 RX7 cX7_back 6 (some .int) (inM "back") 29 (s_iushr 30) := snd_iushr (by decide +kernel)
  have h30 : Snd 0 RX7 cX7_back 6 (some .int) (inM "back") 30 (s_push (.int 7) 32) := snd_bipush (n := 7) (by decide +kernel) (by decide)
  have h32 : Snd 0 RX7 cX7_back 6 (some .int) (inM "back") 32 (s_iand 33) := snd_iand (by decide +kernel)
  have h33 : Snd 0 RX7 cX7_back 6 (some .int) (inM "back") 33 (s_imul 34) := snd_imul (by decide +kernel)
  have h34 : Snd 0 RX7 cX7_back 6 (some .int) (inM "back") 34 (s_ishl 35) := snd_ishl (by decide +kernel)
  have h35 : Snd 0 RX7 cX7_back 6 (some .int) (inM "back") 35 (s_ior 36) := snd_ior (by decide +kernel)
  have h36 : Snd 0 RX7 cX7_back 6 (some .int) (inM "back") 36 (s_ist 3 37) := snd_istore_n (j := 3) (by decide +kernel) rfl
  have h37 : Snd 0 RX7 cX7_back 6 (some .int) (inM "back") 37 (s_inc 5 3 40) := snd_iinc (y := 3) (by decide +kernel) (by decide)
  have h40 : Snd 0 RX7 cX7_back 6 (some .int) (inM "back") 40 (s_goto 10) := snd_goto (off := -30) (by decide +kernel) (by decide)
  have h43 : Snd 0 RX7 cX7_back 6 (some .int) (inM "back") 43 (s_ild 3 44) := snd_iload_n (j := 3) (by decide +kernel) rfl
  have h44 : Snd 0 RX7 cX7_back 6 (some .int) (inM "back") 44 (s_iret) := snd_iret (by decide +kernel)
  exact fun pc => snd_ite (snd_ite (snd_ite (snd_ite (snd_leaf (k := 0) h0) (snd_ite (snd_leaf (k := 1) h1) (snd_leaf (k := 2) h2))) (snd_ite (snd_ite (snd_leaf (k := 3) h3) (snd_leaf (k := 4) h4)) (snd_ite (snd_leaf (k := 5) h5) (snd_leaf (k := 7) h7)))) (snd_ite (snd_ite (snd_ite (snd_leaf (k := 8) h8) (snd_leaf (k := 10) h10)) (snd_ite (snd_leaf (k := 12) h12) (snd_leaf (k := 14) h14))) (snd_ite (snd_ite (snd_leaf (k := 17) h17) (snd_leaf (k := 18) h18)) (snd_ite (snd_leaf (k := 19) h19) (snd_leaf (k := 21) h21))))) (snd_ite (snd_ite (snd_ite (snd_ite (snd_leaf (k := 22) h22) (snd_leaf (k := 24) h24)) (snd_ite (snd_leaf (k := 25) h25) (snd_leaf (k := 26) h26))) (snd_ite (snd_ite (snd_leaf (k := 27) h27) (snd_leaf (k := 29) h29)) (snd_ite (snd_leaf (k := 30) h30) (snd_leaf (k := 32) h32)))) (snd_ite (snd_ite (snd_ite (snd_leaf (k := 33) h33) (snd_leaf (k := 34) h34)) (snd_ite (snd_leaf (k := 35) h35) (snd_leaf (k := 36) h36))) (snd_ite (snd_ite (snd_leaf (k := 37) h37) (snd_leaf (k := 40) h40)) (snd_ite (snd_leaf (k := 43) h43) (snd_leaf (k := 44) h44)))))

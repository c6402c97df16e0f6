def kX8_forget : Nat → Stq := fun pc => if pc < 13 then (if pc < 6 then (if pc < 2 then (if pc < 1 then (if pc = 0 then s_ald 0 1 else s_bad) else (if pc = 1 then s_push (.int 0) 2 else s_bad)) else (if pc < 5 then (if pc = 2 then s_puti 7 3 5 else s_bad) else (if pc = 5 then s_push (.int 0) 6 else s_bad))) else (if pc < 8 then (if pc < 7 then (if pc = 6 then s_ist 1 7 else s_bad) else (if pc = 7 then s_ild 1 8 else s_bad)) else (if pc < 10 then (if pc = 8 then s_push (.int 7) 10 else s_bad) else (if pc = 10 then s_icgt 26 13 else s_bad)))) else (if pc < 19 then (if pc < 17 then (if pc < 14 then (if pc = 13 then s_ald 0 14 else s_bad) else (if pc = 14 then s_getf 7 4 17 else s_bad)) else (if pc < 18 then (if pc = 17 then s_ild 1 18 else s_bad) else (if pc = 18 then s_push (.int 0) 19 else s_bad))) else (if pc < 23 then (if pc < 20 then (if pc = 19 then s_iast 20 else s_bad) else (if pc = 20 then s_inc 1 1 23 else s_bad)) else (if pc < 26 then (if pc = 23 then s_goto 7 else s_bad) else (if pc = 26 then s_vret else s_bad))))
set_option maxRecDepth 20000 in
theorem sX8_forget : ∀ pc, Snd 0 RX8 cX8_forget 2 none (inM "forget") pc (kX8_forget pc) := by
  have h0 : Snd 0 RX8 cX8_forget 2 none (inM "forget") 0 (s_ald 0 1) := snd_aload_n (j := 0) (by decide +kernel) rfl
  have h1 : Snd 0 RX8 cX8_forget 2 none (inM "forget") 1 (s_push (.int 0) 2) := snd_iconst (n := 0) (by decide +kernel) (by decide)
  have h2 : Snd 0 RX8 cX8_forget 2 none (inM "forget") 2 (s_puti 7 3 5) := snd_puti (T := TX8) (f := 3) cI_7 (by decide) g_291 (by decide) (by decide +kernel) (by decide +kernel)
  have h5 : Snd 0 RX8 cX8_forget 2 none (inM "forget") 5 (s_push (.int 0) 6) := snd_iconst (n := 0) (by decide +kernel) (by decide)
  have h6 : Snd 0 RX8 cX8_forget 2 none (inM "forget") 6 (s_ist 1 7) := snd_istore_n (j := 1) (by decide +kernel) rfl
  have h7 : Snd 0 RX8 cX8_forget 2 none (inM "forget") 7 (s_ild 1 8) := snd_iload_n (j := 1) (by decide +kernel) rfl
  have h8 : Snd 0 RX8 cX8_forget 2 none (inM "forget") 8 (s_push (.int 7) 10) := snd_bipush (n := 7) (by decide +kernel) (by decide)
  have h10 : Snd 0 RX8 cX8_forget 2 none (inM "forget") 10 (s_icgt 26 13) := snd_icgt (off := 16) (by decide +kernel) (by decide)
  have h13 : Snd 0 RX8 cX8_forget 2 none (inM "forget") 13 (s_ald 0 14) := snd_aload_n (j := 0) (by decide +kernel) rfl
  have h14 : Snd 0 RX8 cX8_forget 2 none (inM "forget") 14 (s_getf 7 4 17) := snd_getf (T := TX8) (f := 4) cI_7 (by decide) g_292 (by decide +kernel)
  have h17 : Snd 0 RX8 cX8_forget 2 none (inM "forget") 17 (s_ild 1 18) := snd_iload_n (j := 1) (by decide +kernel) rfl
  have h18 : Snd 0 RX8 cX8_forget 2 none (inM "forget") 18 (s_push (.int 0) 19) := snd_iconst (n := 0) (by decide +kernel) (by decide)
  have h19 : Snd 0 RX8 cX8_forget 2 none (inM "forget") 19 (s_iast 20) := snd_iast (by decide +kernel)
  have h20 : Snd 0 RX8 cX8_forget 2 none (inM "forget") 20 (s_inc 1 1 23) := snd_iinc (y := 1) (by decide +kernel) (by decide)
  have h23 : Snd 0 RX8 cX8_forget 2 none (inM "forget") 23 (s_goto 7) := snd_goto (off := -16) (by decide +kernel) (by decide)
  have h26 : Snd 0 RX8 cX8_forget 2 none (inM "forget") 26 (s_vret) := snd_vret (by decide +kernel)
  exact fun pc => snd_ite (snd_ite (snd_ite (snd_ite (snd_leaf (k := 0) h0) (snd_leaf (k := 1) h1)) (snd_ite (snd_leaf (k := 2) h2) (snd_leaf (k := 5) h5))) (snd_ite (snd_ite (snd_leaf (k := 6) h6) (snd_leaf (k := 7) h7)) (snd_ite (snd_leaf (k := 8) h8) (snd_leaf (k := 10) h10)))) (snd_ite (snd_ite (snd_ite (snd_leaf (k := 13) h13) (snd_leaf (k := 14) h14)) (snd_ite (snd_leaf (k := 17) h17) (snd_leaf (k := 18) h18))) (snd_ite (snd_ite (snd_leaf (k := 19) h19) (snd_leaf (k := 20) h20)) (snd_ite (snd_leaf (k := 23) h23) (snd_leaf (k := 26) h26))))

def kX8_add : Nat → Stq := fun pc => if pc < 24 then (if pc < 12 then (if pc < 5 then (if pc < 1 then (if pc = 0 then s_ald 0 1 else s_bad) else (if pc < 4 then (if pc = 1 then s_getf 7 2 4 else s_bad) else (if pc = 4 then s_ald 0 5 else s_bad))) else (if pc < 8 then (if pc = 5 then s_getf 7 1 8 else s_bad) else (if pc < 9 then (if pc = 8 then s_alen 9 else s_bad) else (if pc = 9 then s_icge 44 12 else s_bad)))) else (if pc < 17 then (if pc < 13 then (if pc = 12 then s_ald 0 13 else s_bad) else (if pc < 16 then (if pc = 13 then s_getf 7 0 16 else s_bad) else (if pc = 16 then s_ild 1 17 else s_bad))) else (if pc < 18 then (if pc = 17 then s_ild 2 18 else s_bad) else (if pc < 21 then (if pc = 18 then s_invv 6 2 pX6_put 21 else s_bad) else (if pc = 21 then s_ifeq 44 24 else s_bad))))) else (if pc < 34 then (if pc < 29 then (if pc < 25 then (if pc = 24 then s_ald 0 25 else s_bad) else (if pc < 28 then (if pc = 25 then s_getf 7 1 28 else s_bad) else (if pc = 28 then s_ald 0 29 else s_bad))) else (if pc < 32 then (if pc = 29 then s_getf 7 2 32 else s_bad) else (if pc < 33 then (if pc = 32 then s_ild 1 33 else s_bad) else (if pc = 33 then s_iast 34 else s_bad)))) else (if pc < 39 then (if pc < 35 then (if pc = 34 then s_ald 0 35 else s_bad) else (if pc < 36 then (if pc = 35 then s_dup 36 else s_bad) else (if pc = 36 then s_getf 7 2 39 else s_bad))) else (if pc < 41 then (if pc < 40 then (if pc = 39 then s_push (.int 1) 40 else s_bad) else (if pc = 40 then s_iadd 41 else s_bad)) else (if pc < 44 then (if pc = 41 then s_puti 7 2 44 else s_bad) else (if pc = 44 then s_vret else s_bad)))))
set_option maxRecDepth 20000 in
theorem sX8_add : ∀ pc, Snd 2 RX8 cX8_add 3 none (inM "add") pc (kX8_add pc) := by
  have h0 : Snd 2 RX8 cX8_add 3 none (inM "add") 0 (s_ald 0 1) := snd_aload_n (j := 0) (by decide +kernel) rfl
  have h1 : Snd 2 RX8 cX8_add 3 none (inM "add") 1 (s_getf 7 2 4) := snd_getf (T := TX8) (f := 2) cI_7 (by decide) g_290 (by decide +kernel)
  have h4 : Snd 2 RX8 cX8_add 3 none (inM "add") 4 (s_ald 0 5) := snd_aload_n (j := 0) (by decide +kernel) rfl
  have h5 : Snd 2 RX8 cX8_add 3 none (inM "add") 5 (s_getf 7 1 8) := snd_getf (T := TX8) (f := 1) cI_7 (by decide) g_289 (by decide +kernel)
  have h8 : Snd 2 RX8 cX8_add 3 none (inM "add") 8 (s_alen 9) := snd_alen (by decide +kernel)
  have h9 : Snd 2 RX8 cX8_add 3 none (inM "add") 9 (s_icge 44 12) := snd_icge (off := 35) (by decide +kernel) (by decide)
  have h12 : Snd 2 RX8 cX8_add 3 none (inM "add") 12 (s_ald 0 13) := snd_aload_n (j := 0) (by decide +kernel) rfl
  have h13 : Snd 2 RX8 cX8_add 3 none (inM "add") 13 (s_getf 7 0 16) := snd_getf (T := TX8) (f := 0) cI_7 (by decide) g_288 (by decide +kernel)
  have h16 : Snd 2 RX8 cX8_add 3 none (inM "add") 16 (s_ild 1 17) := snd_iload_n (j := 1) (by decide +kernel) rfl
  have h17 : Snd 2 RX8 cX8_add 3 none (inM "add") 17 (s_ild 2 18) := snd_iload_n (j := 2) (by decide +kernel) rfl
  have h18 : Snd 2 RX8 cX8_add 3 none (inM "add") 18 (s_invv 6 2 pX6_put 21) := snd_invv cI_6 oX6_put (by decide) (by decide) g_544 g_666 g_542 g_543 g_76 ⟨by decide, by decide, by decide +kernel⟩ (by decide +kernel)
  have h21 : Snd 2 RX8 cX8_add 3 none (inM "add") 21 (s_ifeq 44 24) := snd_ifeq (off := 23) (by decide +kernel) (by decide)
  have h24 : Snd 2 RX8 cX8_add 3 none (inM "add") 24 (s_ald 0 25) := snd_aload_n (j := 0) (by decide +kernel) rfl
  have h25 : Snd 2 RX8 cX8_add 3 none (inM "add") 25 (s_getf 7 1 28) := snd_getf (T := TX8) (f := 1) cI_7 (by decide) g_289 (by decide +kernel)
  have h28 : Snd 2 RX8 cX8_add 3 none (inM "add") 28 (s_ald 0 29) := snd_aload_n (j := 0) (by decide +kernel) rfl
  have h29 : Snd 2 RX8 cX8_add 3 none (inM "add") 29 (s_getf 7 2 32) := snd_getf (T := TX8) (f := 2) cI_7 (by decide) g_290 (by decide +kernel)
  have h32 : Snd 2 RX8 cX8_add 3 none (inM "add") 32 (s_ild 1 33) := snd_iload_n (j := 1) (by decide +kernel) rfl
  have h33 : Snd 2 RX8 cX8_add 3 none (inM "add") 33 (s_iast 34) := snd_iast (by decide +kernel)
  have h34 : Snd 2 RX8 cX8_add 3 none (inM "add") 34 (s_ald 0 35) := snd_aload_n (j := 0) (by decide +kernel) rfl
  have h35 : Snd 2 RX8 cX8_add 3 none (inM "add") 35 (s_dup 36) := snd_dup (by decide +kernel)
  have h36 : Snd 2 RX8 cX8_add 3 none (inM "add") 36 (s_getf 7 2 39) := snd_getf (T := TX8) (f := 2) cI_7 (by decide) g_290 (by decide +kernel)
  have h39 : Snd 2 RX8 cX8_add 3 none (inM "add") 39 (s_push (.int 1) 40) := snd_iconst (n := 1) (by decide +kernel) (by decide)
  have h40 : Snd 2 RX8 cX8_add 3 none (inM "add") 40 (s_iadd 41) := snd_iadd (by decide +kernel)
  have h41 : Snd 2 RX8 cX8_add 3 none (inM "add") 41 (s_puti 7 2 44) := snd_puti (T := TX8) (f := 2) cI_7 (by decide) g_290 (by decide) (by decide +kernel) (by decide +kernel)
  have h44 : Snd 2 RX8 cX8_add 3 none (inM "add") 44 (s_vret) := snd_vret (by decide +kernel)
  exact fun pc => snd_ite (snd_ite (snd_ite (snd_ite (snd_leaf (k := 0) h0) (snd_ite (snd_leaf (k := 1) h1) (snd_leaf (k := 4) h4))) (snd_ite (snd_leaf (k := 5) h5) (snd_ite (snd_leaf (k := 8) h8) (snd_leaf (k := 9) h9)))) (snd_ite (snd_ite (snd_leaf (k := 12) h12) (snd_ite (snd_leaf (k := 13) h13) (snd_leaf (k := 16) h16))) (snd_ite (snd_leaf (k := 17) h17) (snd_ite (snd_leaf (k := 18) h18) (snd_leaf (k := 21) h21))))) (snd_ite (snd_ite (snd_ite (snd_leaf (k := 24) h24) (snd_ite (snd_leaf (k := 25) h25) (snd_leaf (k := 28) h28))) (snd_ite (snd_leaf (k := 29) h29) (snd_ite (snd_leaf (k := 32) h32) (snd_leaf (k := 33) h33)))) (snd_ite (snd_ite (snd_leaf (k := 34) h34) (snd_ite (snd_leaf (k := 35) h35) (snd_leaf (k := 36) h36))) (snd_ite (snd_ite (snd_leaf (k := 39) h39) (snd_leaf (k := 40) h40)) (snd_ite (snd_leaf (k := 41) h41) (snd_leaf (k := 44) h44)))))

def kX5_init : Nat → Stq := fun pc => if pc < 18 then (if pc < 8 then (if pc < 4 then (if pc < 1 then (if pc = 0 then s_ald 0 1 else s_bad) else (if pc = 1 then s_oini 4 else s_bad)) else (if pc < 5 then (if pc = 4 then s_ald 0 5 else s_bad) else (if pc = 5 then s_push (.int 1601) 8 else s_bad))) else (if pc < 13 then (if pc < 10 then (if pc = 8 then s_newa2 0 17 10 else s_bad) else (if pc = 10 then s_putr 5 0 13 else s_bad)) else (if pc < 14 then (if pc = 13 then s_ald 0 14 else s_bad) else (if pc < 15 then (if pc = 14 then s_push (.int 0) 15 else s_bad) else (if pc = 15 then s_puti 5 1 18 else s_bad))))) else (if pc < 25 then (if pc < 21 then (if pc < 19 then (if pc = 18 then s_ald 0 19 else s_bad) else (if pc = 19 then s_push (.int 6) 21 else s_bad)) else (if pc < 24 then (if pc = 21 then s_puti 5 2 24 else s_bad) else (if pc = 24 then s_ald 0 25 else s_bad))) else (if pc < 29 then (if pc < 28 then (if pc = 25 then s_new2 6 [.null, .int 0, .int 0] 18 28 else s_bad) else (if pc = 28 then s_dup 29 else s_bad)) else (if pc < 32 then (if pc = 29 then s_invv 6 0 (pX6_init 19) 32 else s_bad) else (if pc < 35 then (if pc = 32 then s_putr 5 3 35 else s_bad) else (if pc = 35 then s_vret else s_bad)))))
set_option maxRecDepth 20000 in
theorem sX5_init : ∀ pc, Snd 2 RX5 cX5_init 1 none (inM "<init>") pc (kX5_init pc) := by
  have h0 : Snd 2 RX5 cX5_init 1 none (inM "<init>") 0 (s_ald 0 1) := snd_aload_n (j := 0) (by decide +kernel) rfl
  have h1 : Snd 2 RX5 cX5_init 1 none (inM "<init>") 1 (s_oini 4) := snd_oini (by decide) g_228 g_91 g_92 (by decide +kernel)
  have h4 : Snd 2 RX5 cX5_init 1 none (inM "<init>") 4 (s_ald 0 5) := snd_aload_n (j := 0) (by decide +kernel) rfl
  have h5 : Snd 2 RX5 cX5_init 1 none (inM "<init>") 5 (s_push (.int 1601) 8) := snd_sipush (n := 1601) (by decide +kernel) (by decide)
  have h8 : Snd 2 RX5 cX5_init 1 none (inM "<init>") 8 (s_newa2 0 17 10) := snd_newa2 (snd_newai g_135 (by decide +kernel))
  have h10 : Snd 2 RX5 cX5_init 1 none (inM "<init>") 10 (s_putr 5 0 13) := snd_putrF (T := TX5) (f := 0) (t := tyX5 0) cI_5 (by decide) g_246 (by decide) (by decide) (by decide +kernel) (by decide +kernel) (by decide +kernel)
  have h13 : Snd 2 RX5 cX5_init 1 none (inM "<init>") 13 (s_ald 0 14) := snd_aload_n (j := 0) (by decide +kernel) rfl
  have h14 : Snd 2 RX5 cX5_init 1 none (inM "<init>") 14 (s_push (.int 0) 15) := snd_iconst (n := 0) (by decide +kernel) (by decide)
  have h15 : Snd 2 RX5 cX5_init 1 none (inM "<init>") 15 (s_puti 5 1 18) := snd_puti (T := TX5) (f := 1) cI_5 (by decide) g_247 (by decide) (by decide +kernel) (by decide +kernel)
  have h18 : Snd 2 RX5 cX5_init 1 none (inM "<init>") 18 (s_ald 0 19) := snd_aload_n (j := 0) (by decide +kernel) rfl
  have h19 : Snd 2 RX5 cX5_init 1 none (inM "<init>") 19 (s_push (.int 6) 21) := snd_bipush (n := 6) (by decide +kernel) (by decide)
  have h21 : Snd 2 RX5 cX5_init 1 none (inM "<init>") 21 (s_puti 5 2 24) := snd_puti (T := TX5) (f := 2) cI_5 (by decide) g_249 (by decide) (by decide +kernel) (by decide +kernel)
  have h24 : Snd 2 RX5 cX5_init 1 none (inM "<init>") 24 (s_ald 0 25) := snd_aload_n (j := 0) (by decide +kernel) rfl
  have h25 : Snd 2 RX5 cX5_init 1 none (inM "<init>") 25 (s_new2 6 [.null, .int 0, .int 0] 18 28) := snd_new2 (snd_new (N := 3) (fs := [.null, .int 0, .int 0]) cI_6 (by decide) (by decide) (by decide) g_229 g_230 g_76 (by decide +kernel))
  have h28 : Snd 2 RX5 cX5_init 1 none (inM "<init>") 28 (s_dup 29) := snd_dup (by decide +kernel)
  have h29 : Snd 2 RX5 cX5_init 1 none (inM "<init>") 29 (s_invv 6 0 (pX6_init 19) 32) := snd_inviN cI_6 (oX6_init 19) (by decide) (by decide) g_233 g_231 g_232 rfl g_76 ⟨by decide, by decide, by decide +kernel⟩ (by decide +kernel)
  have h32 : Snd 2 RX5 cX5_init 1 none (inM "<init>") 32 (s_putr 5 3 35) := snd_putrF (T := TX5) (f := 3) (t := tyX5 3) cI_5 (by decide) g_250 (by decide) (by decide) (by decide +kernel) (by decide +kernel) (by decide +kernel)
  have h35 : Snd 2 RX5 cX5_init 1 none (inM "<init>") 35 (s_vret) := snd_vret (by decide +kernel)
  exact fun pc => snd_ite (snd_ite (snd_ite (snd_ite (snd_leaf (k := 0) h0) (snd_leaf (k := 1) h1)) (snd_ite (snd_leaf (k := 4) h4) (snd_leaf (k := 5) h5))) (snd_ite (snd_ite (snd_leaf (k := 8) h8) (snd_leaf (k := 10) h10)) (snd_ite (snd_leaf (k := 13) h13) (snd_ite (snd_leaf (k := 14) h14) (snd_leaf (k := 15) h15))))) (snd_ite (snd_ite (snd_ite (snd_leaf (k := 18) h18) (snd_leaf (k := 19) h19)) (snd_ite (snd_leaf (k := 21) h21) (snd_leaf (k := 24) h24))) (snd_ite (snd_ite (snd_leaf (k := 25) h25) (snd_leaf (k := 28) h28)) (snd_ite (snd_leaf (k := 29) h29) (snd_ite (snd_leaf (k := 32) h32) (snd_leaf (k := 35) h35)))))
def pX5_init : Spc := inl (kX5_init) 1 23
theorem oX5_init : Ok 2 yX5_init cX5_init 1 none (pX5_init) := ok_inl (by decide) rfl (sX5_init)

def kX8_init : Nat → Stq := fun pc => if pc < 22 then (if pc < 9 then (if pc < 4 then (if pc < 1 then (if pc = 0 then s_ald 0 1 else s_bad) else (if pc = 1 then s_oini 4 else s_bad)) else (if pc < 5 then (if pc = 4 then s_ald 0 5 else s_bad) else (if pc < 8 then (if pc = 5 then s_new2 6 [.null, .int 0, .int 0] 24 8 else s_bad) else (if pc = 8 then s_dup 9 else s_bad)))) else (if pc < 16 then (if pc < 12 then (if pc = 9 then s_invv 6 0 (pX6_init 25) 12 else s_bad) else (if pc < 15 then (if pc = 12 then s_putr 7 0 15 else s_bad) else (if pc = 15 then s_ald 0 16 else s_bad))) else (if pc < 17 then (if pc = 16 then s_push (.int 1) 17 else s_bad) else (if pc < 19 then (if pc = 17 then s_newa2 0 26 19 else s_bad) else (if pc = 19 then s_putr 7 1 22 else s_bad))))) else (if pc < 29 then (if pc < 24 then (if pc < 23 then (if pc = 22 then s_ald 0 23 else s_bad) else (if pc = 23 then s_push (.int 0) 24 else s_bad)) else (if pc < 27 then (if pc = 24 then s_puti 7 2 27 else s_bad) else (if pc < 28 then (if pc = 27 then s_ald 0 28 else s_bad) else (if pc = 28 then s_push (.int 0) 29 else s_bad)))) else (if pc < 35 then (if pc < 32 then (if pc = 29 then s_puti 7 3 32 else s_bad) else (if pc < 33 then (if pc = 32 then s_ald 0 33 else s_bad) else (if pc = 33 then s_push (.int 8) 35 else s_bad))) else (if pc < 37 then (if pc = 35 then s_newa2 0 27 37 else s_bad) else (if pc < 40 then (if pc = 37 then s_putr 7 4 40 else s_bad) else (if pc = 40 then s_vret else s_bad)))))
set_option maxRecDepth 20000 in
theorem sX8_init : ∀ pc, Snd 2 RX8 cX8_init 1 none (inM "<init>") pc (kX8_init pc) := by
  have h0 : Snd 2 RX8 cX8_init 1 none (inM "<init>") 0 (s_ald 0 1) := snd_aload_n (j := 0) (by decide +kernel) rfl
  have h1 : Snd 2 RX8 cX8_init 1 none (inM "<init>") 1 (s_oini 4) := snd_oini (by decide) g_285 g_91 g_92 (by decide +kernel)
  have h4 : Snd 2 RX8 cX8_init 1 none (inM "<init>") 4 (s_ald 0 5) := snd_aload_n (j := 0) (by decide +kernel) rfl
  have h5 : Snd 2 RX8 cX8_init 1 none (inM "<init>") 5 (s_new2 6 [.null, .int 0, .int 0] 24 8) := snd_new2 (snd_new (N := 3) (fs := [.null, .int 0, .int 0]) cI_6 (by decide) (by decide) (by decide) g_286 g_230 g_76 (by decide +kernel))
  have h8 : Snd 2 RX8 cX8_init 1 none (inM "<init>") 8 (s_dup 9) := snd_dup (by decide +kernel)
  have h9 : Snd 2 RX8 cX8_init 1 none (inM "<init>") 9 (s_invv 6 0 (pX6_init 25) 12) := snd_inviN cI_6 (oX6_init 25) (by decide) (by decide) g_233 g_287 g_232 rfl g_76 ⟨by decide, by decide, by decide +kernel⟩ (by decide +kernel)
  have h12 : Snd 2 RX8 cX8_init 1 none (inM "<init>") 12 (s_putr 7 0 15) := snd_putrF (T := TX8) (f := 0) (t := tyX8 0) cI_7 (by decide) g_288 (by decide) (by decide) (by decide +kernel) (by decide +kernel) (by decide +kernel)
  have h15 : Snd 2 RX8 cX8_init 1 none (inM "<init>") 15 (s_ald 0 16) := snd_aload_n (j := 0) (by decide +kernel) rfl
  have h16 : Snd 2 RX8 cX8_init 1 none (inM "<init>") 16 (s_push (.int 1) 17) := snd_iconst (n := 1) (by decide +kernel) (by decide)
  have h17 : Snd 2 RX8 cX8_init 1 none (inM "<init>") 17 (s_newa2 0 26 19) := snd_newa2 (snd_newai g_135 (by decide +kernel))
  have h19 : Snd 2 RX8 cX8_init 1 none (inM "<init>") 19 (s_putr 7 1 22) := snd_putr (T := TX8) (f := 1) (t := tyX8 1) cI_7 (by decide) g_289 (by decide) (by decide +kernel) (by decide +kernel) (by decide +kernel)
  have h22 : Snd 2 RX8 cX8_init 1 none (inM "<init>") 22 (s_ald 0 23) := snd_aload_n (j := 0) (by decide +kernel) rfl
  have h23 : Snd 2 RX8 cX8_init 1 none (inM "<init>") 23 (s_push (.int 0) 24) := snd_iconst (n := 0) (by decide +kernel) (by decide)
  have h24 : Snd 2 RX8 cX8_init 1 none (inM "<init>") 24 (s_puti 7 2 27) := snd_puti (T := TX8) (f := 2) cI_7 (by decide) g_290 (by decide) (by decide +kernel) (by decide +kernel)
  have h27 : Snd 2 RX8 cX8_init 1 none (inM "<init>") 27 (s_ald 0 28) := snd_aload_n (j := 0) (by decide +kernel) rfl
  have h28 : Snd 2 RX8 cX8_init 1 none (inM "<init>") 28 (s_push (.int 0) 29) := snd_iconst (n := 0) (by decide +kernel) (by decide)
  have h29 : Snd 2 RX8 cX8_init 1 none (inM "<init>") 29 (s_puti 7 3 32) := snd_puti (T := TX8) (f := 3) cI_7 (by decide) g_291 (by decide) (by decide +kernel) (by decide +kernel)
  have h32 : Snd 2 RX8 cX8_init 1 none (inM "<init>") 32 (s_ald 0 33) := snd_aload_n (j := 0) (by decide +kernel) rfl
  have h33 : Snd 2 RX8 cX8_init 1 none (inM "<init>") 33 (s_push (.int 8) 35) := snd_bipush (n := 8) (by decide +kernel) (by decide)
  have h35 : Snd 2 RX8 cX8_init 1 none (inM "<init>") 35 (s_newa2 0 27 37) := snd_newa2 (snd_newai g_135 (by decide +kernel))
  have h37 : Snd 2 RX8 cX8_init 1 none (inM "<init>") 37 (s_putr 7 4 40) := snd_putrF (T := TX8) (f := 4) (t := tyX8 4) cI_7 (by decide) g_292 (by decide) (by decide) (by decide +kernel) (by decide +kernel) (by decide +kernel)
  have h40 : Snd 2 RX8 cX8_init 1 none (inM "<init>") 40 (s_vret) := snd_vret (by decide +kernel)
  exact fun pc => snd_ite (snd_ite (snd_ite (snd_ite (snd_leaf (k := 0) h0) (snd_leaf (k := 1) h1)) (snd_ite (snd_leaf (k := 4) h4) (snd_ite (snd_leaf (k := 5) h5) (snd_leaf (k := 8) h8)))) (snd_ite (snd_ite (snd_leaf (k := 9) h9) (snd_ite (snd_leaf (k := 12) h12) (snd_leaf (k := 15) h15))) (snd_ite (snd_leaf (k := 16) h16) (snd_ite (snd_leaf (k := 17) h17) (snd_leaf (k := 19) h19))))) (snd_ite (snd_ite (snd_ite (snd_leaf (k := 22) h22) (snd_leaf (k := 23) h23)) (snd_ite (snd_leaf (k := 24) h24) (snd_ite (snd_leaf (k := 27) h27) (snd_leaf (k := 28) h28)))) (snd_ite (snd_ite (snd_leaf (k := 29) h29) (snd_ite (snd_leaf (k := 32) h32) (snd_leaf (k := 33) h33))) (snd_ite (snd_leaf (k := 35) h35) (snd_ite (snd_leaf (k := 37) h37) (snd_leaf (k := 40) h40)))))
def pX8_init : Spc := inl (kX8_init) 1 27
theorem oX8_init : Ok 2 yX8_init cX8_init 1 none (pX8_init) := ok_inl (by decide) rfl (sX8_init)

def kX2_init : Nat → Stq := fun pc => if pc < 13 then (if pc < 5 then (if pc < 1 then (if pc = 0 then s_ald 0 1 else s_bad) else (if pc < 4 then (if pc = 1 then s_oini 4 else s_bad) else (if pc = 4 then s_ald 0 5 else s_bad))) else (if pc < 8 then (if pc = 5 then s_push (.int 364) 8 else s_bad) else (if pc < 10 then (if pc = 8 then s_newa2 0 29 10 else s_bad) else (if pc = 10 then s_putr 2 0 13 else s_bad)))) else (if pc < 18 then (if pc < 14 then (if pc = 13 then s_ald 0 14 else s_bad) else (if pc < 17 then (if pc = 14 then s_new2 6 [.null, .int 0, .int 0] 30 17 else s_bad) else (if pc = 17 then s_dup 18 else s_bad))) else (if pc < 21 then (if pc = 18 then s_invv 6 0 (pX6_init 31) 21 else s_bad) else (if pc < 24 then (if pc = 21 then s_putr 2 1 24 else s_bad) else (if pc = 24 then s_vret else s_bad))))
set_option maxRecDepth 20000 in
theorem sX2_init : ∀ pc, Snd 2 RX2 cX2_init 1 none (inM "<init>") pc (kX2_init pc) := by
  have h0 : Snd 2 RX2 cX2_init 1 none (inM "<init>") 0 (s_ald 0 1) := snd_aload_n (j := 0) (by decide +kernel) rfl
  have h1 : Snd 2 RX2 cX2_init 1 none (inM "<init>") 1 (s_oini 4) := snd_oini (by decide) g_309 g_91 g_92 (by decide +kernel)
  have h4 : Snd 2 RX2 cX2_init 1 none (inM "<init>") 4 (s_ald 0 5) := snd_aload_n (j := 0) (by decide +kernel) rfl
  have h5 : Snd 2 RX2 cX2_init 1 none (inM "<init>") 5 (s_push (.int 364) 8) := snd_sipush (n := 364) (by decide +kernel) (by decide)
  have h8 : Snd 2 RX2 cX2_init 1 none (inM "<init>") 8 (s_newa2 0 29 10) := snd_newa2 (snd_newai g_135 (by decide +kernel))
  have h10 : Snd 2 RX2 cX2_init 1 none (inM "<init>") 10 (s_putr 2 0 13) := snd_putrF (T := TX2) (f := 0) (t := tyX2 0) cI_2 (by decide) g_312 (by decide) (by decide) (by decide +kernel) (by decide +kernel) (by decide +kernel)
  have h13 : Snd 2 RX2 cX2_init 1 none (inM "<init>") 13 (s_ald 0 14) := snd_aload_n (j := 0) (by decide +kernel) rfl
  have h14 : Snd 2 RX2 cX2_init 1 none (inM "<init>") 14 (s_new2 6 [.null, .int 0, .int 0] 30 17) := snd_new2 (snd_new (N := 3) (fs := [.null, .int 0, .int 0]) cI_6 (by decide) (by decide) (by decide) g_310 g_230 g_76 (by decide +kernel))
  have h17 : Snd 2 RX2 cX2_init 1 none (inM "<init>") 17 (s_dup 18) := snd_dup (by decide +kernel)
  have h18 : Snd 2 RX2 cX2_init 1 none (inM "<init>") 18 (s_invv 6 0 (pX6_init 31) 21) := snd_inviN cI_6 (oX6_init 31) (by decide) (by decide) g_233 g_311 g_232 rfl g_76 ⟨by decide, by decide, by decide +kernel⟩ (by decide +kernel)
  have h21 : Snd 2 RX2 cX2_init 1 none (inM "<init>") 21 (s_putr 2 1 24) := snd_putrF (T := TX2) (f := 1) (t := tyX2 1) cI_2 (by decide) g_313 (by decide) (by decide) (by decide +kernel) (by decide +kernel) (by decide +kernel)
  have h24 : Snd 2 RX2 cX2_init 1 none (inM "<init>") 24 (s_vret) := snd_vret (by decide +kernel)
  exact fun pc => snd_ite (snd_ite (snd_ite (snd_leaf (k := 0) h0) (snd_ite (snd_leaf (k := 1) h1) (snd_leaf (k := 4) h4))) (snd_ite (snd_leaf (k := 5) h5) (snd_ite (snd_leaf (k := 8) h8) (snd_leaf (k := 10) h10)))) (snd_ite (snd_ite (snd_leaf (k := 13) h13) (snd_ite (snd_leaf (k := 14) h14) (snd_leaf (k := 17) h17))) (snd_ite (snd_leaf (k := 18) h18) (snd_ite (snd_leaf (k := 21) h21) (snd_leaf (k := 24) h24))))
def pX2_init : Spc := inl (kX2_init) 1 17
theorem oX2_init : Ok 2 yX2_init cX2_init 1 none (pX2_init) := ok_inl (by decide) rfl (sX2_init)

def kX9_init (a b : Nat) : Nat → Stq := fun pc => if pc < 24 then (if pc < 11 then (if pc < 5 then (if pc < 1 then (if pc = 0 then s_ald 0 1 else s_bad) else (if pc < 4 then (if pc = 1 then s_oini 4 else s_bad) else (if pc = 4 then s_ald 0 5 else s_bad))) else (if pc < 7 then (if pc = 5 then s_push (.int 6) 7 else s_bad) else (if pc < 10 then (if pc = 7 then s_puti 8 0 10 else s_bad) else (if pc = 10 then s_ald 0 11 else s_bad)))) else (if pc < 18 then (if pc < 13 then (if pc = 11 then s_push (.int 40) 13 else s_bad) else (if pc < 15 then (if pc = 13 then s_newa2 0 a 15 else s_bad) else (if pc = 15 then s_putr 8 1 18 else s_bad))) else (if pc < 20 then (if pc < 19 then (if pc = 18 then s_ald 0 19 else s_bad) else (if pc = 19 then s_push (.int 0) 20 else s_bad)) else (if pc < 23 then (if pc = 20 then s_puti 8 2 23 else s_bad) else (if pc = 23 then s_ald 0 24 else s_bad))))) else (if pc < 34 then (if pc < 29 then (if pc < 25 then (if pc = 24 then s_push (.int 0) 25 else s_bad) else (if pc < 28 then (if pc = 25 then s_puti 8 3 28 else s_bad) else (if pc = 28 then s_ald 0 29 else s_bad))) else (if pc < 30 then (if pc = 29 then s_push (.int 0) 30 else s_bad) else (if pc < 33 then (if pc = 30 then s_puti 8 4 33 else s_bad) else (if pc = 33 then s_ald 0 34 else s_bad)))) else (if pc < 41 then (if pc < 36 then (if pc = 34 then s_push (.int 40) 36 else s_bad) else (if pc < 38 then (if pc = 36 then s_newa2 0 b 38 else s_bad) else (if pc = 38 then s_putr 8 5 41 else s_bad))) else (if pc < 43 then (if pc < 42 then (if pc = 41 then s_ald 0 42 else s_bad) else (if pc = 42 then s_push (.int 0) 43 else s_bad)) else (if pc < 46 then (if pc = 43 then s_puti 8 6 46 else s_bad) else (if pc = 46 then s_vret else s_bad)))))
set_option maxRecDepth 20000 in
theorem sX9_init (a b : Nat) : ∀ pc, Snd 1 RX9 cX9_init 1 none (inM "<init>") pc (kX9_init a b pc) := by
  have h0 : Snd 1 RX9 cX9_init 1 none (inM "<init>") 0 (s_ald 0 1) := snd_aload_n (j := 0) (by decide +kernel) rfl
  have h1 : Snd 1 RX9 cX9_init 1 none (inM "<init>") 1 (s_oini 4) := snd_oini (by decide) g_98 g_91 g_92 (by decide +kernel)
  have h4 : Snd 1 RX9 cX9_init 1 none (inM "<init>") 4 (s_ald 0 5) := snd_aload_n (j := 0) (by decide +kernel) rfl
  have h5 : Snd 1 RX9 cX9_init 1 none (inM "<init>") 5 (s_push (.int 6) 7) := snd_bipush (n := 6) (by decide +kernel) (by decide)
  have h7 : Snd 1 RX9 cX9_init 1 none (inM "<init>") 7 (s_puti 8 0 10) := snd_puti (T := TX9) (f := 0) cI_8 (by decide) g_99 (by decide) (by decide +kernel) (by decide +kernel)
  have h10 : Snd 1 RX9 cX9_init 1 none (inM "<init>") 10 (s_ald 0 11) := snd_aload_n (j := 0) (by decide +kernel) rfl
  have h11 : Snd 1 RX9 cX9_init 1 none (inM "<init>") 11 (s_push (.int 40) 13) := snd_bipush (n := 40) (by decide +kernel) (by decide)
  have h13 : Snd 1 RX9 cX9_init 1 none (inM "<init>") 13 (s_newa2 0 a 15) := snd_newa2 (snd_newai g_135 (by decide +kernel))
  have h15 : Snd 1 RX9 cX9_init 1 none (inM "<init>") 15 (s_putr 8 1 18) := snd_putrF (T := TX9) (f := 1) (t := tyX9 1) cI_8 (by decide) g_102 (by decide) (by decide) (by decide +kernel) (by decide +kernel) (by decide +kernel)
  have h18 : Snd 1 RX9 cX9_init 1 none (inM "<init>") 18 (s_ald 0 19) := snd_aload_n (j := 0) (by decide +kernel) rfl
  have h19 : Snd 1 RX9 cX9_init 1 none (inM "<init>") 19 (s_push (.int 0) 20) := snd_iconst (n := 0) (by decide +kernel) (by decide)
  have h20 : Snd 1 RX9 cX9_init 1 none (inM "<init>") 20 (s_puti 8 2 23) := snd_puti (T := TX9) (f := 2) cI_8 (by decide) g_105 (by decide) (by decide +kernel) (by decide +kernel)
  have h23 : Snd 1 RX9 cX9_init 1 none (inM "<init>") 23 (s_ald 0 24) := snd_aload_n (j := 0) (by decide +kernel) rfl
  have h24 : Snd 1 RX9 cX9_init 1 none (inM "<init>") 24 (s_push (.int 0) 25) := snd_iconst (n := 0) (by decide +kernel) (by decide)
  have h25 : Snd 1 RX9 cX9_init 1 none (inM "<init>") 25 (s_puti 8 3 28) := snd_puti (T := TX9) (f := 3) cI_8 (by decide) g_108 (by decide) (by decide +kernel) (by decide +kernel)
  have h28 : Snd 1 RX9 cX9_init 1 none (inM "<init>") 28 (s_ald 0 29) := snd_aload_n (j := 0) (by decide +kernel) rfl
  have h29 : Snd 1 RX9 cX9_init 1 none (inM "<init>") 29 (s_push (.int 0) 30) := snd_iconst (n := 0) (by decide +kernel) (by decide)
  have h30 : Snd 1 RX9 cX9_init 1 none (inM "<init>") 30 (s_puti 8 4 33) := snd_puti (T := TX9) (f := 4) cI_8 (by decide) g_111 (by decide) (by decide +kernel) (by decide +kernel)
  have h33 : Snd 1 RX9 cX9_init 1 none (inM "<init>") 33 (s_ald 0 34) := snd_aload_n (j := 0) (by decide +kernel) rfl
  have h34 : Snd 1 RX9 cX9_init 1 none (inM "<init>") 34 (s_push (.int 40) 36) := snd_bipush (n := 40) (by decide +kernel) (by decide)
  have h36 : Snd 1 RX9 cX9_init 1 none (inM "<init>") 36 (s_newa2 0 b 38) := snd_newa2 (snd_newai g_135 (by decide +kernel))
  have h38 : Snd 1 RX9 cX9_init 1 none (inM "<init>") 38 (s_putr 8 5 41) := snd_putrF (T := TX9) (f := 5) (t := tyX9 5) cI_8 (by decide) g_114 (by decide) (by decide) (by decide +kernel) (by decide +kernel) (by decide +kernel)
  have h41 : Snd 1 RX9 cX9_init 1 none (inM "<init>") 41 (s_ald 0 42) := snd_aload_n (j := 0) (by decide +kernel) rfl
  have h42 : Snd 1 RX9 cX9_init 1 none (inM "<init>") 42 (s_push (.int 0) 43) := snd_iconst (n := 0) (by decide +kernel) (by decide)
  have h43 : Snd 1 RX9 cX9_init 1 none (inM "<init>") 43 (s_puti 8 6 46) := snd_puti (T := TX9) (f := 6) cI_8 (by decide) g_117 (by decide) (by decide +kernel) (by decide +kernel)
  have h46 : Snd 1 RX9 cX9_init 1 none (inM "<init>") 46 (s_vret) := snd_vret (by decide +kernel)
  exact fun pc => snd_ite (snd_ite (snd_ite (snd_ite (snd_leaf (k := 0) h0) (snd_ite (snd_leaf (k := 1) h1) (snd_leaf (k := 4) h4))) (snd_ite (snd_leaf (k := 5) h5) (snd_ite (snd_leaf (k := 7) h7) (snd_leaf (k := 10) h10)))) (snd_ite (snd_ite (snd_leaf (k := 11) h11) (snd_ite (snd_leaf (k := 13) h13) (snd_leaf (k := 15) h15))) (snd_ite (snd_ite (snd_leaf (k := 18) h18) (snd_leaf (k := 19) h19)) (snd_ite (snd_leaf (k := 20) h20) (snd_leaf (k := 23) h23))))) (snd_ite (snd_ite (snd_ite (snd_leaf (k := 24) h24) (snd_ite (snd_leaf (k := 25) h25) (snd_leaf (k := 28) h28))) (snd_ite (snd_leaf (k := 29) h29) (snd_ite (snd_leaf (k := 30) h30) (snd_leaf (k := 33) h33)))) (snd_ite (snd_ite (snd_leaf (k := 34) h34) (snd_ite (snd_leaf (k := 36) h36) (snd_leaf (k := 38) h38))) (snd_ite (snd_ite (snd_leaf (k := 41) h41) (snd_leaf (k := 42) h42)) (snd_ite (snd_leaf (k := 43) h43) (snd_leaf (k := 46) h46)))))
def pX9_init (a b : Nat) : Spc := inl (kX9_init a b) 1 31
theorem oX9_init (a b : Nat) : Ok 1 yX9_init cX9_init 1 none (pX9_init a b) := ok_inl (by decide) rfl (sX9_init a b)

def kX4_init : Nat → Stq := fun pc => if pc < 9 then (if pc < 4 then (if pc < 1 then (if pc = 0 then s_ald 0 1 else s_bad) else (if pc = 1 then s_oini 4 else s_bad)) else (if pc < 5 then (if pc = 4 then s_ald 0 5 else s_bad) else (if pc < 7 then (if pc = 5 then s_push (.int 40) 7 else s_bad) else (if pc = 7 then s_newa2 0 11 9 else s_bad)))) else (if pc < 13 then (if pc < 12 then (if pc = 9 then s_putr 4 0 12 else s_bad) else (if pc = 12 then s_ald 0 13 else s_bad)) else (if pc < 14 then (if pc = 13 then s_push (.int 0) 14 else s_bad) else (if pc < 17 then (if pc = 14 then s_puti 4 1 17 else s_bad) else (if pc = 17 then s_vret else s_bad))))
set_option maxRecDepth 20000 in
theorem sX4_init : ∀ pc, Snd 1 RX4 cX4_init 1 none (inM "<init>") pc (kX4_init pc) := by
  have h0 : Snd 1 RX4 cX4_init 1 none (inM "<init>") 0 (s_ald 0 1) := snd_aload_n (j := 0) (by decide +kernel) rfl
  have h1 : Snd 1 RX4 cX4_init 1 none (inM "<init>") 1 (s_oini 4) := snd_oini (by decide) g_141 g_91 g_92 (by decide +kernel)
  have h4 : Snd 1 RX4 cX4_init 1 none (inM "<init>") 4 (s_ald 0 5) := snd_aload_n (j := 0) (by decide +kernel) rfl
  have h5 : Snd 1 RX4 cX4_init 1 none (inM "<init>") 5 (s_push (.int 40) 7) := snd_bipush (n := 40) (by decide +kernel) (by decide)
  have h7 : Snd 1 RX4 cX4_init 1 none (inM "<init>") 7 (s_newa2 0 11 9) := snd_newa2 (snd_newai g_135 (by decide +kernel))
  have h9 : Snd 1 RX4 cX4_init 1 none (inM "<init>") 9 (s_putr 4 0 12) := snd_putrF (T := TX4) (f := 0) (t := tyX4 0) cI_4 (by decide) g_142 (by decide) (by decide) (by decide +kernel) (by decide +kernel) (by decide +kernel)
  have h12 : Snd 1 RX4 cX4_init 1 none (inM "<init>") 12 (s_ald 0 13) := snd_aload_n (j := 0) (by decide +kernel) rfl
  have h13 : Snd 1 RX4 cX4_init 1 none (inM "<init>") 13 (s_push (.int 0) 14) := snd_iconst (n := 0) (by decide +kernel) (by decide)
  have h14 : Snd 1 RX4 cX4_init 1 none (inM "<init>") 14 (s_puti 4 1 17) := snd_puti (T := TX4) (f := 1) cI_4 (by decide) g_144 (by decide) (by decide +kernel) (by decide +kernel)
  have h17 : Snd 1 RX4 cX4_init 1 none (inM "<init>") 17 (s_vret) := snd_vret (by decide +kernel)
  exact fun pc => snd_ite (snd_ite (snd_ite (snd_leaf (k := 0) h0) (snd_leaf (k := 1) h1)) (snd_ite (snd_leaf (k := 4) h4) (snd_ite (snd_leaf (k := 5) h5) (snd_leaf (k := 7) h7)))) (snd_ite (snd_ite (snd_leaf (k := 9) h9) (snd_leaf (k := 12) h12)) (snd_ite (snd_leaf (k := 13) h13) (snd_ite (snd_leaf (k := 14) h14) (snd_leaf (k := 17) h17))))
def pX4_init : Spc := inl (kX4_init) 1 15
theorem oX4_init : Ok 1 yX4_init cX4_init 1 none (pX4_init) := ok_inl (by decide) rfl (sX4_init)

def kX3_init : Nat → Stq := fun pc => if pc < 20 then (if pc < 10 then (if pc < 4 then (if pc < 1 then (if pc = 0 then s_ald 0 1 else s_bad) else (if pc = 1 then s_oini 4 else s_bad)) else (if pc < 5 then (if pc = 4 then s_ald 0 5 else s_bad) else (if pc < 7 then (if pc = 5 then s_push (.int 6) 7 else s_bad) else (if pc = 7 then s_puti 3 0 10 else s_bad)))) else (if pc < 15 then (if pc < 11 then (if pc = 10 then s_ald 0 11 else s_bad) else (if pc < 12 then (if pc = 11 then s_push (.int 0) 12 else s_bad) else (if pc = 12 then s_putz 3 1 15 else s_bad))) else (if pc < 16 then (if pc = 15 then s_ald 0 16 else s_bad) else (if pc < 17 then (if pc = 16 then s_push (.int 0) 17 else s_bad) else (if pc = 17 then s_puti 3 2 20 else s_bad))))) else (if pc < 29 then (if pc < 23 then (if pc < 21 then (if pc = 20 then s_ald 0 21 else s_bad) else (if pc = 21 then s_push (.int 40) 23 else s_bad)) else (if pc < 25 then (if pc = 23 then s_newa2 0 13 25 else s_bad) else (if pc < 28 then (if pc = 25 then s_putr 3 3 28 else s_bad) else (if pc = 28 then s_ald 0 29 else s_bad)))) else (if pc < 34 then (if pc < 30 then (if pc = 29 then s_push (.int 0) 30 else s_bad) else (if pc < 33 then (if pc = 30 then s_puti 3 4 33 else s_bad) else (if pc = 33 then s_ald 0 34 else s_bad))) else (if pc < 36 then (if pc = 34 then s_push (.int (-6)) 36 else s_bad) else (if pc < 39 then (if pc = 36 then s_puti 3 5 39 else s_bad) else (if pc = 39 then s_vret else s_bad)))))
set_option maxRecDepth 20000 in
theorem sX3_init : ∀ pc, Snd 1 RX3 cX3_init 1 none (inM "<init>") pc (kX3_init pc) := by
  have h0 : Snd 1 RX3 cX3_init 1 none (inM "<init>") 0 (s_ald 0 1) := snd_aload_n (j := 0) (by decide +kernel) rfl
  have h1 : Snd 1 RX3 cX3_init 1 none (inM "<init>") 1 (s_oini 4) := snd_oini (by decide) g_157 g_91 g_92 (by decide +kernel)
  have h4 : Snd 1 RX3 cX3_init 1 none (inM "<init>") 4 (s_ald 0 5) := snd_aload_n (j := 0) (by decide +kernel) rfl
  have h5 : Snd 1 RX3 cX3_init 1 none (inM "<init>") 5 (s_push (.int 6) 7) := snd_bipush (n := 6) (by decide +kernel) (by decide)
  have h7 : Snd 1 RX3 cX3_init 1 none (inM "<init>") 7 (s_puti 3 0 10) := snd_puti (T := TX3) (f := 0) cI_3 (by decide) g_158 (by decide) (by decide +kernel) (by decide +kernel)
  have h10 : Snd 1 RX3 cX3_init 1 none (inM "<init>") 10 (s_ald 0 11) := snd_aload_n (j := 0) (by decide +kernel) rfl
  have h11 : Snd 1 RX3 cX3_init 1 none (inM "<init>") 11 (s_push (.int 0) 12) := snd_iconst (n := 0) (by decide +kernel) (by decide)
  have h12 : Snd 1 RX3 cX3_init 1 none (inM "<init>") 12 (s_putz 3 1 15) := snd_putz (T := TX3) (f := 1) cI_3 (by decide) g_159 (by decide) (by decide +kernel) (by decide +kernel)
  have h15 : Snd 1 RX3 cX3_init 1 none (inM "<init>") 15 (s_ald 0 16) := snd_aload_n (j := 0) (by decide +kernel) rfl
  have h16 : Snd 1 RX3 cX3_init 1 none (inM "<init>") 16 (s_push (.int 0) 17) := snd_iconst (n := 0) (by decide +kernel) (by decide)
  have h17 : Snd 1 RX3 cX3_init 1 none (inM "<init>") 17 (s_puti 3 2 20) := snd_puti (T := TX3) (f := 2) cI_3 (by decide) g_160 (by decide) (by decide +kernel) (by decide +kernel)
  have h20 : Snd 1 RX3 cX3_init 1 none (inM "<init>") 20 (s_ald 0 21) := snd_aload_n (j := 0) (by decide +kernel) rfl
  have h21 : Snd 1 RX3 cX3_init 1 none (inM "<init>") 21 (s_push (.int 40) 23) := snd_bipush (n := 40) (by decide +kernel) (by decide)
  have h23 : Snd 1 RX3 cX3_init 1 none (inM "<init>") 23 (s_newa2 0 13 25) := snd_newa2 (snd_newai g_135 (by decide +kernel))
  have h25 : Snd 1 RX3 cX3_init 1 none (inM "<init>") 25 (s_putr 3 3 28) := snd_putrF (T := TX3) (f := 3) (t := tyX3 3) cI_3 (by decide) g_161 (by decide) (by decide) (by decide +kernel) (by decide +kernel) (by decide +kernel)
  have h28 : Snd 1 RX3 cX3_init 1 none (inM "<init>") 28 (s_ald 0 29) := snd_aload_n (j := 0) (by decide +kernel) rfl
  have h29 : Snd 1 RX3 cX3_init 1 none (inM "<init>") 29 (s_push (.int 0) 30) := snd_iconst (n := 0) (by decide +kernel) (by decide)
  have h30 : Snd 1 RX3 cX3_init 1 none (inM "<init>") 30 (s_puti 3 4 33) := snd_puti (T := TX3) (f := 4) cI_3 (by decide) g_162 (by decide) (by decide +kernel) (by decide +kernel)
  have h33 : Snd 1 RX3 cX3_init 1 none (inM "<init>") 33 (s_ald 0 34) := snd_aload_n (j := 0) (by decide +kernel) rfl
  have h34 : Snd 1 RX3 cX3_init 1 none (inM "<init>") 34 (s_push (.int (-6)) 36) := snd_bipush (n := -6) (by decide +kernel) (by decide)
  have h36 : Snd 1 RX3 cX3_init 1 none (inM "<init>") 36 (s_puti 3 5 39) := snd_puti (T := TX3) (f := 5) cI_3 (by decide) g_163 (by decide) (by decide +kernel) (by decide +kernel)
  have h39 : Snd 1 RX3 cX3_init 1 none (inM "<init>") 39 (s_vret) := snd_vret (by decide +kernel)
  exact fun pc => snd_ite (snd_ite (snd_ite (snd_ite (snd_leaf (k := 0) h0) (snd_leaf (k := 1) h1)) (snd_ite (snd_leaf (k := 4) h4) (snd_ite (snd_leaf (k := 5) h5) (snd_leaf (k := 7) h7)))) (snd_ite (snd_ite (snd_leaf (k := 10) h10) (snd_ite (snd_leaf (k := 11) h11) (snd_leaf (k := 12) h12))) (snd_ite (snd_leaf (k := 15) h15) (snd_ite (snd_leaf (k := 16) h16) (snd_leaf (k := 17) h17))))) (snd_ite (snd_ite (snd_ite (snd_leaf (k := 20) h20) (snd_leaf (k := 21) h21)) (snd_ite (snd_leaf (k := 23) h23) (snd_ite (snd_leaf (k := 25) h25) (snd_leaf (k := 28) h28)))) (snd_ite (snd_ite (snd_leaf (k := 29) h29) (snd_ite (snd_leaf (k := 30) h30) (snd_leaf (k := 33) h33))) (snd_ite (snd_leaf (k := 34) h34) (snd_ite (snd_leaf (k := 36) h36) (snd_leaf (k := 39) h39)))))
def pX3_init : Spc := inl (kX3_init) 1 27
theorem oX3_init : Ok 1 yX3_init cX3_init 1 none (pX3_init) := ok_inl (by decide) rfl (sX3_init)

def kX6_init (a : Nat) : Nat → Stq := fun pc => if pc < 11 then (if pc < 5 then (if pc < 1 then (if pc = 0 then s_ald 0 1 else s_bad) else (if pc < 4 then (if pc = 1 then s_oini 4 else s_bad) else (if pc = 4 then s_ald 0 5 else s_bad))) else (if pc < 6 then (if pc = 5 then s_push (.int 1) 6 else s_bad) else (if pc < 8 then (if pc = 6 then s_newa2 1 a 8 else s_bad) else (if pc = 8 then s_putr 6 0 11 else s_bad)))) else (if pc < 16 then (if pc < 12 then (if pc = 11 then s_ald 0 12 else s_bad) else (if pc < 13 then (if pc = 12 then s_push (.int 0) 13 else s_bad) else (if pc = 13 then s_puti 6 1 16 else s_bad))) else (if pc < 18 then (if pc < 17 then (if pc = 16 then s_ald 0 17 else s_bad) else (if pc = 17 then s_push (.int 1) 18 else s_bad)) else (if pc < 21 then (if pc = 18 then s_puti 6 2 21 else s_bad) else (if pc = 21 then s_vret else s_bad))))
set_option maxRecDepth 20000 in
theorem sX6_init (a : Nat) : ∀ pc, Snd 1 RX6 cX6_init 1 none (inM "<init>") pc (kX6_init a pc) := by
  have h0 : Snd 1 RX6 cX6_init 1 none (inM "<init>") 0 (s_ald 0 1) := snd_aload_n (j := 0) (by decide +kernel) rfl
  have h1 : Snd 1 RX6 cX6_init 1 none (inM "<init>") 1 (s_oini 4) := snd_oini (by decide) g_234 g_91 g_92 (by decide +kernel)
  have h4 : Snd 1 RX6 cX6_init 1 none (inM "<init>") 4 (s_ald 0 5) := snd_aload_n (j := 0) (by decide +kernel) rfl
  have h5 : Snd 1 RX6 cX6_init 1 none (inM "<init>") 5 (s_push (.int 1) 6) := snd_iconst (n := 1) (by decide +kernel) (by decide)
  have h6 : Snd 1 RX6 cX6_init 1 none (inM "<init>") 6 (s_newa2 1 a 8) := snd_newa2 (snd_newal g_245 (by decide +kernel))
  have h8 : Snd 1 RX6 cX6_init 1 none (inM "<init>") 8 (s_putr 6 0 11) := snd_putr (T := TX6) (f := 0) (t := tyX6 0) cI_6 (by decide) g_235 (by decide) (by decide +kernel) (by decide +kernel) (by decide +kernel)
  have h11 : Snd 1 RX6 cX6_init 1 none (inM "<init>") 11 (s_ald 0 12) := snd_aload_n (j := 0) (by decide +kernel) rfl
  have h12 : Snd 1 RX6 cX6_init 1 none (inM "<init>") 12 (s_push (.int 0) 13) := snd_iconst (n := 0) (by decide +kernel) (by decide)
  have h13 : Snd 1 RX6 cX6_init 1 none (inM "<init>") 13 (s_puti 6 1 16) := snd_puti (T := TX6) (f := 1) cI_6 (by decide) g_236 (by decide) (by decide +kernel) (by decide +kernel)
  have h16 : Snd 1 RX6 cX6_init 1 none (inM "<init>") 16 (s_ald 0 17) := snd_aload_n (j := 0) (by decide +kernel) rfl
  have h17 : Snd 1 RX6 cX6_init 1 none (inM "<init>") 17 (s_push (.int 1) 18) := snd_iconst (n := 1) (by decide +kernel) (by decide)
  have h18 : Snd 1 RX6 cX6_init 1 none (inM "<init>") 18 (s_puti 6 2 21) := snd_puti (T := TX6) (f := 2) cI_6 (by decide) g_237 (by decide) (by decide +kernel) (by decide +kernel)
  have h21 : Snd 1 RX6 cX6_init 1 none (inM "<init>") 21 (s_vret) := snd_vret (by decide +kernel)
  exact fun pc => snd_ite (snd_ite (snd_ite (snd_leaf (k := 0) h0) (snd_ite (snd_leaf (k := 1) h1) (snd_leaf (k := 4) h4))) (snd_ite (snd_leaf (k := 5) h5) (snd_ite (snd_leaf (k := 6) h6) (snd_leaf (k := 8) h8)))) (snd_ite (snd_ite (snd_leaf (k := 11) h11) (snd_ite (snd_leaf (k := 12) h12) (snd_leaf (k := 13) h13))) (snd_ite (snd_ite (snd_leaf (k := 16) h16) (snd_leaf (k := 17) h17)) (snd_ite (snd_leaf (k := 18) h18) (snd_leaf (k := 21) h21))))
def pX6_init (a : Nat) : Spc := inl (kX6_init a) 1 18
theorem oX6_init (a : Nat) : Ok 1 yX6_init cX6_init 1 none (pX6_init a) := ok_inl (by decide) rfl (sX6_init a)

def kX1_init : Nat → Stq := fun pc => if pc < 25 then (if pc < 12 then (if pc < 5 then (if pc < 1 then (if pc = 0 then s_ald 0 1 else s_bad) else (if pc < 4 then (if pc = 1 then s_oini 4 else s_bad) else (if pc = 4 then s_ald 0 5 else s_bad))) else (if pc < 10 then (if pc < 7 then (if pc = 5 then s_push (.int 6) 7 else s_bad) else (if pc = 7 then s_puti 1 0 10 else s_bad)) else (if pc < 11 then (if pc = 10 then s_ald 0 11 else s_bad) else (if pc = 11 then s_push (.int 0) 12 else s_bad)))) else (if pc < 18 then (if pc < 15 then (if pc = 12 then s_puti 1 1 15 else s_bad) else (if pc < 16 then (if pc = 15 then s_ald 0 16 else s_bad) else (if pc = 16 then s_push (.int 40) 18 else s_bad))) else (if pc < 23 then (if pc < 20 then (if pc = 18 then s_newa2 0 15 20 else s_bad) else (if pc = 20 then s_putr 1 2 23 else s_bad)) else (if pc < 24 then (if pc = 23 then s_ald 0 24 else s_bad) else (if pc = 24 then s_push (.int 0) 25 else s_bad))))) else (if pc < 38 then (if pc < 30 then (if pc < 28 then (if pc = 25 then s_puti 1 3 28 else s_bad) else (if pc < 29 then (if pc = 28 then s_ald 0 29 else s_bad) else (if pc = 29 then s_push (.int 0) 30 else s_bad))) else (if pc < 34 then (if pc < 33 then (if pc = 30 then s_puti 1 4 33 else s_bad) else (if pc = 33 then s_ald 0 34 else s_bad)) else (if pc < 35 then (if pc = 34 then s_push (.int 0) 35 else s_bad) else (if pc = 35 then s_puti 1 5 38 else s_bad)))) else (if pc < 43 then (if pc < 39 then (if pc = 38 then s_ald 0 39 else s_bad) else (if pc < 40 then (if pc = 39 then s_push (.int 0) 40 else s_bad) else (if pc = 40 then s_puti 1 6 43 else s_bad))) else (if pc < 45 then (if pc < 44 then (if pc = 43 then s_ald 0 44 else s_bad) else (if pc = 44 then s_push (.int 0) 45 else s_bad)) else (if pc < 48 then (if pc = 45 then s_puti 1 7 48 else s_bad) else (if pc = 48 then s_vret else s_bad)))))
set_option maxRecDepth 20000 in
theorem sX1_init : ∀ pc, Snd 1 RX1 cX1_init 1 none (inM "<init>") pc (kX1_init pc) := by
  have h0 : Snd 1 RX1 cX1_init 1 none (inM "<init>") 0 (s_ald 0 1) := snd_aload_n (j := 0) (by decide +kernel) rfl
  have h1 : Snd 1 RX1 cX1_init 1 none (inM "<init>") 1 (s_oini 4) := snd_oini (by decide) g_182 g_91 g_92 (by decide +kernel)
  have h4 : Snd 1 RX1 cX1_init 1 none (inM "<init>") 4 (s_ald 0 5) := snd_aload_n (j := 0) (by decide +kernel) rfl
  have h5 : Snd 1 RX1 cX1_init 1 none (inM "<init>") 5 (s_push (.int 6) 7) := snd_bipush (n := 6) (by decide +kernel) (by decide)
  have h7 : Snd 1 RX1 cX1_init 1 none (inM "<init>") 7 (s_puti 1 0 10) := snd_puti (T := TX1) (f := 0) cI_1 (by decide) g_183 (by decide) (by decide +kernel) (by decide +kernel)
  have h10 : Snd 1 RX1 cX1_init 1 none (inM "<init>") 10 (s_ald 0 11) := snd_aload_n (j := 0) (by decide +kernel) rfl
  have h11 : Snd 1 RX1 cX1_init 1 none (inM "<init>") 11 (s_push (.int 0) 12) := snd_iconst (n := 0) (by decide +kernel) (by decide)
  have h12 : Snd 1 RX1 cX1_init 1 none (inM "<init>") 12 (s_puti 1 1 15) := snd_puti (T := TX1) (f := 1) cI_1 (by decide) g_187 (by decide) (by decide +kernel) (by decide +kernel)
  have h15 : Snd 1 RX1 cX1_init 1 none (inM "<init>") 15 (s_ald 0 16) := snd_aload_n (j := 0) (by decide +kernel) rfl
  have h16 : Snd 1 RX1 cX1_init 1 none (inM "<init>") 16 (s_push (.int 40) 18) := snd_bipush (n := 40) (by decide +kernel) (by decide)
  have h18 : Snd 1 RX1 cX1_init 1 none (inM "<init>") 18 (s_newa2 0 15 20) := snd_newa2 (snd_newai g_135 (by decide +kernel))
  have h20 : Snd 1 RX1 cX1_init 1 none (inM "<init>") 20 (s_putr 1 2 23) := snd_putrF (T := TX1) (f := 2) (t := tyX1 2) cI_1 (by decide) g_193 (by decide) (by decide) (by decide +kernel) (by decide +kernel) (by decide +kernel)
  have h23 : Snd 1 RX1 cX1_init 1 none (inM "<init>") 23 (s_ald 0 24) := snd_aload_n (j := 0) (by decide +kernel) rfl
  have h24 : Snd 1 RX1 cX1_init 1 none (inM "<init>") 24 (s_push (.int 0) 25) := snd_iconst (n := 0) (by decide +kernel) (by decide)
  have h25 : Snd 1 RX1 cX1_init 1 none (inM "<init>") 25 (s_puti 1 3 28) := snd_puti (T := TX1) (f := 3) cI_1 (by decide) g_197 (by decide) (by decide +kernel) (by decide +kernel)
  have h28 : Snd 1 RX1 cX1_init 1 none (inM "<init>") 28 (s_ald 0 29) := snd_aload_n (j := 0) (by decide +kernel) rfl
  have h29 : Snd 1 RX1 cX1_init 1 none (inM "<init>") 29 (s_push (.int 0) 30) := snd_iconst (n := 0) (by decide +kernel) (by decide)
  have h30 : Snd 1 RX1 cX1_init 1 none (inM "<init>") 30 (s_puti 1 4 33) := snd_puti (T := TX1) (f := 4) cI_1 (by decide) g_201 (by decide) (by decide +kernel) (by decide +kernel)
  have h33 : Snd 1 RX1 cX1_init 1 none (inM "<init>") 33 (s_ald 0 34) := snd_aload_n (j := 0) (by decide +kernel) rfl
  have h34 : Snd 1 RX1 cX1_init 1 none (inM "<init>") 34 (s_push (.int 0) 35) := snd_iconst (n := 0) (by decide +kernel) (by decide)
  have h35 : Snd 1 RX1 cX1_init 1 none (inM "<init>") 35 (s_puti 1 5 38) := snd_puti (T := TX1) (f := 5) cI_1 (by decide) g_203 (by decide) (by decide +kernel) (by decide +kernel)
  have h38 : Snd 1 RX1 cX1_init 1 none (inM "<init>") 38 (s_ald 0 39) := snd_aload_n (j := 0) (by decide +kernel) rfl
  have h39 : Snd 1 RX1 cX1_init 1 none (inM "<init>") 39 (s_push (.int 0) 40) := snd_iconst (n := 0) (by decide +kernel) (by decide)
  have h40 : Snd 1 RX1 cX1_init 1 none (inM "<init>") 40 (s_puti 1 6 43) := snd_puti (T := TX1) (f := 6) cI_1 (by decide) g_204 (by decide) (by decide +kernel) (by decide +kernel)
  have h43 : Snd 1 RX1 cX1_init 1 none (inM "<init>") 43 (s_ald 0 44) := snd_aload_n (j := 0) (by decide +kernel) rfl
  have h44 : Snd 1 RX1 cX1_init 1 none (inM "<init>") 44 (s_push (.int 0) 45) := snd_iconst (n := 0) (by decide +kernel) (by decide)
  have h45 : Snd 1 RX1 cX1_init 1 none (inM "<init>") 45 (s_puti 1 7 48) := snd_puti (T := TX1) (f := 7) cI_1 (by decide) g_205 (by decide) (by decide +kernel) (by decide +kernel)
  have h48 : Snd 1 RX1 cX1_init 1 none (inM "<init>") 48 (s_vret) := snd_vret (by decide +kernel)
  exact fun pc => snd_ite (snd_ite (snd_ite (snd_ite (snd_leaf (k := 0) h0) (snd_ite (snd_leaf (k := 1) h1) (snd_leaf (k := 4) h4))) (snd_ite (snd_ite (snd_leaf (k := 5) h5) (snd_leaf (k := 7) h7)) (snd_ite (snd_leaf (k := 10) h10) (snd_leaf (k := 11) h11)))) (snd_ite (snd_ite (snd_leaf (k := 12) h12) (snd_ite (snd_leaf (k := 15) h15) (snd_leaf (k := 16) h16))) (snd_ite (snd_ite (snd_leaf (k := 18) h18) (snd_leaf (k := 20) h20)) (snd_ite (snd_leaf (k := 23) h23) (snd_leaf (k := 24) h24))))) (snd_ite (snd_ite (snd_ite (snd_leaf (k := 25) h25) (snd_ite (snd_leaf (k := 28) h28) (snd_leaf (k := 29) h29))) (snd_ite (snd_ite (snd_leaf (k := 30) h30) (snd_leaf (k := 33) h33)) (snd_ite (snd_leaf (k := 34) h34) (snd_leaf (k := 35) h35)))) (snd_ite (snd_ite (snd_leaf (k := 38) h38) (snd_ite (snd_leaf (k := 39) h39) (snd_leaf (k := 40) h40))) (snd_ite (snd_ite (snd_leaf (k := 43) h43) (snd_leaf (k := 44) h44)) (snd_ite (snd_leaf (k := 45) h45) (snd_leaf (k := 48) h48)))))
def pX1_init : Spc := inl (kX1_init) 1 33
theorem oX1_init : Ok 1 yX1_init cX1_init 1 none (pX1_init) := ok_inl (by decide) rfl (sX1_init)

def kX0_init : Nat → Stq := fun pc => if pc < 16 then (if pc < 7 then (if pc < 4 then (if pc < 1 then (if pc = 0 then s_ald 0 1 else s_bad) else (if pc = 1 then s_oini 4 else s_bad)) else (if pc < 5 then (if pc = 4 then s_ald 0 5 else s_bad) else (if pc = 5 then s_push (.int 40) 7 else s_bad))) else (if pc < 12 then (if pc < 9 then (if pc = 7 then s_newa2 0 21 9 else s_bad) else (if pc = 9 then s_putr 0 0 12 else s_bad)) else (if pc < 13 then (if pc = 12 then s_ald 0 13 else s_bad) else (if pc = 13 then s_push (.int 1600) 16 else s_bad)))) else (if pc < 23 then (if pc < 21 then (if pc < 18 then (if pc = 16 then s_newa2 0 22 18 else s_bad) else (if pc = 18 then s_putr 0 1 21 else s_bad)) else (if pc < 22 then (if pc = 21 then s_ald 0 22 else s_bad) else (if pc = 22 then s_push (.int 0) 23 else s_bad))) else (if pc < 27 then (if pc < 26 then (if pc = 23 then s_puti 0 2 26 else s_bad) else (if pc = 26 then s_ald 0 27 else s_bad)) else (if pc < 28 then (if pc = 27 then s_push (.int 0) 28 else s_bad) else (if pc < 31 then (if pc = 28 then s_putz 0 3 31 else s_bad) else (if pc = 31 then s_vret else s_bad)))))
set_option maxRecDepth 20000 in
theorem sX0_init : ∀ pc, Snd 1 RX0 cX0_init 1 none (inM "<init>") pc (kX0_init pc) := by
  have h0 : Snd 1 RX0 cX0_init 1 none (inM "<init>") 0 (s_ald 0 1) := snd_aload_n (j := 0) (by decide +kernel) rfl
  have h1 : Snd 1 RX0 cX0_init 1 none (inM "<init>") 1 (s_oini 4) := snd_oini (by decide) g_265 g_91 g_92 (by decide +kernel)
  have h4 : Snd 1 RX0 cX0_init 1 none (inM "<init>") 4 (s_ald 0 5) := snd_aload_n (j := 0) (by decide +kernel) rfl
  have h5 : Snd 1 RX0 cX0_init 1 none (inM "<init>") 5 (s_push (.int 40) 7) := snd_bipush (n := 40) (by decide +kernel) (by decide)
  have h7 : Snd 1 RX0 cX0_init 1 none (inM "<init>") 7 (s_newa2 0 21 9) := snd_newa2 (snd_newai g_135 (by decide +kernel))
  have h9 : Snd 1 RX0 cX0_init 1 none (inM "<init>") 9 (s_putr 0 0 12) := snd_putrF (T := TX0) (f := 0) (t := tyX0 0) cI_0 (by decide) g_266 (by decide) (by decide) (by decide +kernel) (by decide +kernel) (by decide +kernel)
  have h12 : Snd 1 RX0 cX0_init 1 none (inM "<init>") 12 (s_ald 0 13) := snd_aload_n (j := 0) (by decide +kernel) rfl
  have h13 : Snd 1 RX0 cX0_init 1 none (inM "<init>") 13 (s_push (.int 1600) 16) := snd_sipush (n := 1600) (by decide +kernel) (by decide)
  have h16 : Snd 1 RX0 cX0_init 1 none (inM "<init>") 16 (s_newa2 0 22 18) := snd_newa2 (snd_newai g_135 (by decide +kernel))
  have h18 : Snd 1 RX0 cX0_init 1 none (inM "<init>") 18 (s_putr 0 1 21) := snd_putrF (T := TX0) (f := 1) (t := tyX0 1) cI_0 (by decide) g_267 (by decide) (by decide) (by decide +kernel) (by decide +kernel) (by decide +kernel)
  have h21 : Snd 1 RX0 cX0_init 1 none (inM "<init>") 21 (s_ald 0 22) := snd_aload_n (j := 0) (by decide +kernel) rfl
  have h22 : Snd 1 RX0 cX0_init 1 none (inM "<init>") 22 (s_push (.int 0) 23) := snd_iconst (n := 0) (by decide +kernel) (by decide)
  have h23 : Snd 1 RX0 cX0_init 1 none (inM "<init>") 23 (s_puti 0 2 26) := snd_puti (T := TX0) (f := 2) cI_0 (by decide) g_268 (by decide) (by decide +kernel) (by decide +kernel)
  have h26 : Snd 1 RX0 cX0_init 1 none (inM "<init>") 26 (s_ald 0 27) := snd_aload_n (j := 0) (by decide +kernel) rfl
  have h27 : Snd 1 RX0 cX0_init 1 none (inM "<init>") 27 (s_push (.int 0) 28) := snd_iconst (n := 0) (by decide +kernel) (by decide)
  have h28 : Snd 1 RX0 cX0_init 1 none (inM "<init>") 28 (s_putz 0 3 31) := snd_putz (T := TX0) (f := 3) cI_0 (by decide) g_270 (by decide) (by decide +kernel) (by decide +kernel)
  have h31 : Snd 1 RX0 cX0_init 1 none (inM "<init>") 31 (s_vret) := snd_vret (by decide +kernel)
  exact fun pc => snd_ite (snd_ite (snd_ite (snd_ite (snd_leaf (k := 0) h0) (snd_leaf (k := 1) h1)) (snd_ite (snd_leaf (k := 4) h4) (snd_leaf (k := 5) h5))) (snd_ite (snd_ite (snd_leaf (k := 7) h7) (snd_leaf (k := 9) h9)) (snd_ite (snd_leaf (k := 12) h12) (snd_leaf (k := 13) h13)))) (snd_ite (snd_ite (snd_ite (snd_leaf (k := 16) h16) (snd_leaf (k := 18) h18)) (snd_ite (snd_leaf (k := 21) h21) (snd_leaf (k := 22) h22))) (snd_ite (snd_ite (snd_leaf (k := 23) h23) (snd_leaf (k := 26) h26)) (snd_ite (snd_leaf (k := 27) h27) (snd_ite (snd_leaf (k := 28) h28) (snd_leaf (k := 31) h31)))))
def pX0_init : Spc := inl (kX0_init) 1 22
theorem oX0_init : Ok 1 yX0_init cX0_init 1 none (pX0_init) := ok_inl (by decide) rfl (sX0_init)

/-! the shape of the whole store: the class (cells 0 to 31), the reference (32 to 47, where z.1); z.2: the lengths of the arrays that grow (19, 25, 26, 31) -/
abbrev Zt : Type := Bool × (Nat → Nat)
def SH (z : Zt) : Nat → Option Shp := fun k => if k < 24 then (if k < 12 then (if k < 6 then (if k < 3 then (if k < 1 then (if k = 0 then some (.inl (9, [.ref 1, .ref 4, .ref 7, .int 0, .ref 10, .ref 12, .ref 14, .ref 16, .ref 20, .ref 23, .ref 28])) else none) else (if k < 2 then (if k = 1 then some (.inl (8, [.int 0, .ref 2, .int 0, .int 0, .int 0, .ref 3, .int 0])) else none) else (if k = 2 then some (.inr (0, 40)) else none))) else (if k < 4 then (if k = 3 then some (.inr (0, 40)) else none) else (if k < 5 then (if k = 4 then some (.inl (8, [.int 0, .ref 5, .int 0, .int 0, .int 0, .ref 6, .int 0])) else none) else (if k = 5 then some (.inr (0, 40)) else none)))) else (if k < 9 then (if k < 7 then (if k = 6 then some (.inr (0, 40)) else none) else (if k < 8 then (if k = 7 then some (.inl (8, [.int 0, .ref 8, .int 0, .int 0, .int 0, .ref 9, .int 0])) else none) else (if k = 8 then some (.inr (0, 40)) else none))) else (if k < 10 then (if k = 9 then some (.inr (0, 40)) else none) else (if k < 11 then (if k = 10 then some (.inl (4, [.ref 11, .int 0])) else none) else (if k = 11 then some (.inr (0, 40)) else none))))) else (if k < 18 then (if k < 15 then (if k < 13 then (if k = 12 then some (.inl (3, [.int 0, .int 0, .int 0, .ref 13, .int 0, .int 0])) else none) else (if k < 14 then (if k = 13 then some (.inr (0, 40)) else none) else (if k = 14 then some (.inl (1, [.int 0, .int 0, .ref 15, .int 0, .int 0, .int 0, .int 0, .int 0])) else none))) else (if k < 16 then (if k = 15 then some (.inr (0, 40)) else none) else (if k < 17 then (if k = 16 then some (.inl (5, [.ref 17, .int 0, .int 0, .ref 18])) else none) else (if k = 17 then some (.inr (0, 1601)) else none)))) else (if k < 21 then (if k < 19 then (if k = 18 then some (.inl (6, [.ref 19, .int 0, .int 0])) else none) else (if k < 20 then (if k = 19 then some (.inr (1, z.2 19)) else none) else (if k = 20 then some (.inl (0, [.ref 21, .ref 22, .int 0, .int 0])) else none))) else (if k < 22 then (if k = 21 then some (.inr (0, 40)) else none) else (if k < 23 then (if k = 22 then some (.inr (0, 1600)) else none) else (if k = 23 then some (.inl (7, [.ref 24, .ref 26, .int 0, .int 0, .ref 27])) else none)))))) else (if k < 36 then (if k < 30 then (if k < 27 then (if k < 25 then (if k = 24 then some (.inl (6, [.ref 25, .int 0, .int 0])) else none) else (if k < 26 then (if k = 25 then some (.inr (1, z.2 25)) else none) else (if k = 26 then some (.inr (0, z.2 26)) else none))) else (if k < 28 then (if k = 27 then some (.inr (0, 8)) else none) else (if k < 29 then (if k = 28 then some (.inl (2, [.ref 29, .ref 30])) else none) else (if k = 29 then some (.inr (0, 364)) else none)))) else (if k < 33 then (if k < 31 then (if k = 30 then some (.inl (6, [.ref 31, .int 0, .int 0])) else none) else (if k < 32 then (if k = 31 then some (.inr (1, z.2 31)) else none) else (if k = 32 then cond z.1 (some (.inl (10, [.ref 33, .ref 34, .ref 35, .ref 36, .int 0, .ref 37, .int 0, .int 0, .int 0, .int 0, .int 0, .int 0, .ref 38, .ref 39, .ref 40, .int 0, .ref 41, .int 0, .ref 42, .int 0, .ref 43, .ref 44, .ref 45, .ref 46, .ref 47]))) none else none))) else (if k < 34 then (if k = 33 then cond z.1 (some (.inr (0, 85))) none else none) else (if k < 35 then (if k = 34 then cond z.1 (some (.inr (0, 170))) none else none) else (if k = 35 then cond z.1 (some (.inr (2, 2))) none else none))))) else (if k < 42 then (if k < 39 then (if k < 37 then (if k = 36 then cond z.1 (some (.inr (0, 40))) none else none) else (if k < 38 then (if k = 37 then cond z.1 (some (.inr (0, 40))) none else none) else (if k = 38 then cond z.1 (some (.inr (0, 9))) none else none))) else (if k < 40 then (if k = 39 then cond z.1 (some (.inr (2, 9))) none else none) else (if k < 41 then (if k = 40 then cond z.1 (some (.inr (0, 1601))) none else none) else (if k = 41 then cond z.1 (some (.inr (0, 40320))) none else none)))) else (if k < 45 then (if k < 43 then (if k = 42 then cond z.1 (some (.inr (0, 40320))) none else none) else (if k < 44 then (if k = 43 then cond z.1 (some (.inr (0, 9))) none else none) else (if k = 44 then cond z.1 (some (.inr (0, 9))) none else none))) else (if k < 46 then (if k = 45 then cond z.1 (some (.inr (0, 40320))) none else none) else (if k < 47 then (if k = 46 then cond z.1 (some (.inr (0, 40320))) none else none) else (if k = 47 then cond z.1 (some (.inr (0, 40320))) none else none))))))
theorem SH_0 (z : Zt) : SH z 0 = some (.inl (9, [.ref 1, .ref 4, .ref 7, .int 0, .ref 10, .ref 12, .ref 14, .ref 16, .ref 20, .ref 23, .ref 28])) := rfl
theorem SH_1 (z : Zt) : SH z 1 = some (.inl (8, [.int 0, .ref 2, .int 0, .int 0, .int 0, .ref 3, .int 0])) := rfl
theorem SH_2 (z : Zt) : SH z 2 = some (.inr (0, 40)) := rfl
theorem SH_3 (z : Zt) : SH z 3 = some (.inr (0, 40)) := rfl
theorem SH_4 (z : Zt) : SH z 4 = some (.inl (8, [.int 0, .ref 5, .int 0, .int 0, .int 0, .ref 6, .int 0])) := rfl
theorem SH_5 (z : Zt) : SH z 5 = some (.inr (0, 40)) := rfl
theorem SH_6 (z : Zt) : SH z 6 = some (.inr (0, 40)) := rfl
theorem SH_7 (z : Zt) : SH z 7 = some (.inl (8, [.int 0, .ref 8, .int 0, .int 0, .int 0, .ref 9, .int 0])) := rfl
theorem SH_8 (z : Zt) : SH z 8 = some (.inr (0, 40)) := rfl
theorem SH_9 (z : Zt) : SH z 9 = some (.inr (0, 40)) := rfl
theorem SH_10 (z : Zt) : SH z 10 = some (.inl (4, [.ref 11, .int 0])) := rfl
theorem SH_11 (z : Zt) : SH z 11 = some (.inr (0, 40)) := rfl
theorem SH_12 (z : Zt) : SH z 12 = some (.inl (3, [.int 0, .int 0, .int 0, .ref 13, .int 0, .int 0])) := rfl
theorem SH_13 (z : Zt) : SH z 13 = some (.inr (0, 40)) := rfl
theorem SH_14 (z : Zt) : SH z 14 = some (.inl (1, [.int 0, .int 0, .ref 15, .int 0, .int 0, .int 0, .int 0, .int 0])) := rfl
theorem SH_15 (z : Zt) : SH z 15 = some (.inr (0, 40)) := rfl
theorem SH_16 (z : Zt) : SH z 16 = some (.inl (5, [.ref 17, .int 0, .int 0, .ref 18])) := rfl
theorem SH_17 (z : Zt) : SH z 17 = some (.inr (0, 1601)) := rfl
theorem SH_18 (z : Zt) : SH z 18 = some (.inl (6, [.ref 19, .int 0, .int 0])) := rfl
theorem SH_19 (z : Zt) : SH z 19 = some (.inr (1, z.2 19)) := rfl
theorem SH_20 (z : Zt) : SH z 20 = some (.inl (0, [.ref 21, .ref 22, .int 0, .int 0])) := rfl
theorem SH_21 (z : Zt) : SH z 21 = some (.inr (0, 40)) := rfl
theorem SH_22 (z : Zt) : SH z 22 = some (.inr (0, 1600)) := rfl
theorem SH_23 (z : Zt) : SH z 23 = some (.inl (7, [.ref 24, .ref 26, .int 0, .int 0, .ref 27])) := rfl
theorem SH_24 (z : Zt) : SH z 24 = some (.inl (6, [.ref 25, .int 0, .int 0])) := rfl
theorem SH_25 (z : Zt) : SH z 25 = some (.inr (1, z.2 25)) := rfl
theorem SH_26 (z : Zt) : SH z 26 = some (.inr (0, z.2 26)) := rfl
theorem SH_27 (z : Zt) : SH z 27 = some (.inr (0, 8)) := rfl
theorem SH_28 (z : Zt) : SH z 28 = some (.inl (2, [.ref 29, .ref 30])) := rfl
theorem SH_29 (z : Zt) : SH z 29 = some (.inr (0, 364)) := rfl
theorem SH_30 (z : Zt) : SH z 30 = some (.inl (6, [.ref 31, .int 0, .int 0])) := rfl
theorem SH_31 (z : Zt) : SH z 31 = some (.inr (1, z.2 31)) := rfl
theorem SH_32 (z : Zt) : SH z 32 = cond z.1 (some (.inl (10, [.ref 33, .ref 34, .ref 35, .ref 36, .int 0, .ref 37, .int 0, .int 0, .int 0, .int 0, .int 0, .int 0, .ref 38, .ref 39, .ref 40, .int 0, .ref 41, .int 0, .ref 42, .int 0, .ref 43, .ref 44, .ref 45, .ref 46, .ref 47]))) none := rfl
theorem SH_33 (z : Zt) : SH z 33 = cond z.1 (some (.inr (0, 85))) none := rfl
theorem SH_34 (z : Zt) : SH z 34 = cond z.1 (some (.inr (0, 170))) none := rfl
theorem SH_35 (z : Zt) : SH z 35 = cond z.1 (some (.inr (2, 2))) none := rfl
theorem SH_36 (z : Zt) : SH z 36 = cond z.1 (some (.inr (0, 40))) none := rfl
theorem SH_37 (z : Zt) : SH z 37 = cond z.1 (some (.inr (0, 40))) none := rfl
theorem SH_38 (z : Zt) : SH z 38 = cond z.1 (some (.inr (0, 9))) none := rfl
theorem SH_39 (z : Zt) : SH z 39 = cond z.1 (some (.inr (2, 9))) none := rfl
theorem SH_40 (z : Zt) : SH z 40 = cond z.1 (some (.inr (0, 1601))) none := rfl
theorem SH_41 (z : Zt) : SH z 41 = cond z.1 (some (.inr (0, 40320))) none := rfl
theorem SH_42 (z : Zt) : SH z 42 = cond z.1 (some (.inr (0, 40320))) none := rfl
theorem SH_43 (z : Zt) : SH z 43 = cond z.1 (some (.inr (0, 9))) none := rfl
theorem SH_44 (z : Zt) : SH z 44 = cond z.1 (some (.inr (0, 9))) none := rfl
theorem SH_45 (z : Zt) : SH z 45 = cond z.1 (some (.inr (0, 40320))) none := rfl
theorem SH_46 (z : Zt) : SH z 46 = cond z.1 (some (.inr (0, 40320))) none := rfl
theorem SH_47 (z : Zt) : SH z 47 = cond z.1 (some (.inr (0, 40320))) none := rfl

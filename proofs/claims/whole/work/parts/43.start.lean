def ad0 (a b : Nat) (z1 z2 aK aV : Nat → Nat) (tK : Nat) : Nat → Nat → Nat := fun f => match f with
  | 0 => fun i => ([z1 0] : List Nat).getD i 0
  | 1 => fun i => ([z1 51] : List Nat).getD i 0
  | 2 => fun i => ([z1 4, z1 28, z1 50] : List Nat).getD i 0
  | 3 => fun i => ([z1 14, z1 16, z1 18, z1 20, z1 22, z1 24, z1 38, z1 40, z1 42, z1 44, z1 46, z1 48] : List Nat).getD i 0
  | 4 => fun i => ([z1 5, z1 8, z1 11, z1 29, z1 32, z1 35] : List Nat).getD i 0
  | 5 => fun i => ([z1 2, z1 26] : List Nat).getD i 0
  | 6 => fun i => ([z1 56, z1 58, z1 60, z1 62, z1 64, z1 66] : List Nat).getD i 0
  | 7 => fun i => ([a] : List Nat).getD i 0
  | 8 => fun i => ([b] : List Nat).getD i 0
  | 9 => fun i => ([z1 53] : List Nat).getD i 0
  | 10 => fun i => ([z1 54] : List Nat).getD i 0
  | 11 => fun i => ([z1 55] : List Nat).getD i 0
  | 12 => fun i => ([z1 3, z1 27] : List Nat).getD i 0
  | 13 => fun i => ([z1 15, z1 17, z1 19, z1 21, z1 23, z1 25, z1 39, z1 41, z1 43, z1 45, z1 47, z1 49] : List Nat).getD i 0
  | 14 => fun i => ([z1 6, z1 9, z1 12, z1 30, z1 33, z1 36] : List Nat).getD i 0
  | 15 => fun i => ([z1 7, z1 10, z1 13, z1 31, z1 34, z1 37] : List Nat).getD i 0
  | 16 => fun i => ([z1 1] : List Nat).getD i 0
  | 17 => fun i => ([z1 52] : List Nat).getD i 0
  | 18 => fun i => ([z1 57, z1 59, z1 61, z1 63, z1 65, z1 67] : List Nat).getD i 0
  | 22 => fun i => ([z2 0] : List Nat).getD i 0
  | 23 => fun i => ([z2 1] : List Nat).getD i 0
  | 24 => fun i => ([z2 2] : List Nat).getD i 0
  | 25 => fun i => ([z2 3] : List Nat).getD i 0
  | 26 => fun i => ([z2 4] : List Nat).getD i 0
  | 27 => fun i => ([z2 5] : List Nat).getD i 0
  | 28 => fun i => ([z2 6] : List Nat).getD i 0
  | 29 => fun i => ([z2 7] : List Nat).getD i 0
  | 30 => fun i => ([z2 8] : List Nat).getD i 0
  | 31 => fun i => ([z2 9] : List Nat).getD i 0
  | 32 => fun i => ([z2 10] : List Nat).getD i 0
  | 33 => fun i => ([z2 11] : List Nat).getD i 0
  | 34 => fun i => ([z2 12] : List Nat).getD i 0
  | 35 => fun i => ([z2 13] : List Nat).getD i 0
  | 36 => fun i => ([z2 14] : List Nat).getD i 0
  | 37 => fun i => ([z2 15] : List Nat).getD i 0
  | 38 => fun i => ([z2 16] : List Nat).getD i 0
  | 39 => fun i => ([z2 17] : List Nat).getD i 0
  | 40 => fun i => ([z2 18] : List Nat).getD i 0
  | 41 => fun i => ([z2 19] : List Nat).getD i 0
  | 42 => fun i => ([z2 20] : List Nat).getD i 0
  | 43 => fun i => ([z2 21] : List Nat).getD i 0
  | 44 => fun i => ([z2 22] : List Nat).getD i 0
  | 45 => fun i => ([z2 23] : List Nat).getD i 0
  | 46 => fun i => ([z2 24] : List Nat).getD i 0
  | 47 => fun i => ([z2 25] : List Nat).getD i 0
  | 48 => fun i => ([z2 26] : List Nat).getD i 0
  | 49 => fun i => ([z2 27] : List Nat).getD i 0
  | 50 => fun i => ([z2 28] : List Nat).getD i 0
  | 51 => fun i => ([z2 29] : List Nat).getD i 0
  | 52 => fun i => ([z2 30] : List Nat).getD i 0
  | 53 => fun i => ([z2 31] : List Nat).getD i 0
  | 54 => fun i => ([z2 32] : List Nat).getD i 0
  | 55 => fun i => ([z2 33] : List Nat).getD i 0
  | 56 => fun i => ([z2 34] : List Nat).getD i 0
  | 19 => aK
  | 20 => aV
  | 21 => fun _ => tK
  | _ => fun _ => 0
def pos0 : Nat → Nat → Nat := fun f i => match f with
  | 0 => ([1] : List Nat).getD i 0
  | 1 => ([52] : List Nat).getD i 0
  | 2 => ([5, 29, 51] : List Nat).getD i 0
  | 3 => ([15, 17, 19, 21, 23, 25, 39, 41, 43, 45, 47, 49] : List Nat).getD i 0
  | 4 => ([6, 9, 12, 30, 33, 36] : List Nat).getD i 0
  | 5 => ([3, 27] : List Nat).getD i 0
  | 6 => ([57, 59, 61, 63, 65, 67] : List Nat).getD i 0
  | 7 => ([0] : List Nat).getD i 0
  | 8 => ([69] : List Nat).getD i 0
  | 9 => ([54] : List Nat).getD i 0
  | 10 => ([55] : List Nat).getD i 0
  | 11 => ([56] : List Nat).getD i 0
  | 12 => ([4, 28] : List Nat).getD i 0
  | 13 => ([16, 18, 20, 22, 24, 26, 40, 42, 44, 46, 48, 50] : List Nat).getD i 0
  | 14 => ([7, 10, 13, 31, 34, 37] : List Nat).getD i 0
  | 15 => ([8, 11, 14, 32, 35, 38] : List Nat).getD i 0
  | 16 => ([2] : List Nat).getD i 0
  | 17 => ([53] : List Nat).getD i 0
  | 18 => ([58, 60, 62, 64, 66, 68] : List Nat).getD i 0
  | 22 => ([70] : List Nat).getD i 0
  | 23 => ([71] : List Nat).getD i 0
  | 24 => ([72] : List Nat).getD i 0
  | 25 => ([73] : List Nat).getD i 0
  | 26 => ([74] : List Nat).getD i 0
  | 27 => ([75] : List Nat).getD i 0
  | 28 => ([76] : List Nat).getD i 0
  | 29 => ([77] : List Nat).getD i 0
  | 30 => ([78] : List Nat).getD i 0
  | 31 => ([79] : List Nat).getD i 0
  | 32 => ([80] : List Nat).getD i 0
  | 33 => ([81] : List Nat).getD i 0
  | 34 => ([82] : List Nat).getD i 0
  | 35 => ([83] : List Nat).getD i 0
  | 36 => ([84] : List Nat).getD i 0
  | 37 => ([85] : List Nat).getD i 0
  | 38 => ([86] : List Nat).getD i 0
  | 39 => ([87] : List Nat).getD i 0
  | 40 => ([88] : List Nat).getD i 0
  | 41 => ([89] : List Nat).getD i 0
  | 42 => ([90] : List Nat).getD i 0
  | 43 => ([91] : List Nat).getD i 0
  | 44 => ([92] : List Nat).getD i 0
  | 45 => ([93] : List Nat).getD i 0
  | 46 => ([94] : List Nat).getD i 0
  | 47 => ([95] : List Nat).getD i 0
  | 48 => ([96] : List Nat).getD i 0
  | 49 => ([97] : List Nat).getD i 0
  | 50 => ([98] : List Nat).getD i 0
  | 51 => ([99] : List Nat).getD i 0
  | 52 => ([100] : List Nat).getD i 0
  | 53 => ([101] : List Nat).getD i 0
  | 54 => ([102] : List Nat).getD i 0
  | 55 => ([103] : List Nat).getD i 0
  | 56 => ([104] : List Nat).getD i 0
  | _ => 0
def inv0 : Nat → Nat × Nat := fun k => ([(7, 0), (0, 0), (16, 0), (5, 0), (12, 0), (2, 0), (4, 0), (14, 0), (15, 0), (4, 1), (14, 1), (15, 1), (4, 2), (14, 2), (15, 2), (3, 0), (13, 0), (3, 1), (13, 1), (3, 2), (13, 2), (3, 3), (13, 3), (3, 4), (13, 4), (3, 5), (13, 5), (5, 1), (12, 1), (2, 1), (4, 3), (14, 3), (15, 3), (4, 4), (14, 4), (15, 4), (4, 5), (14, 5), (15, 5), (3, 6), (13, 6), (3, 7), (13, 7), (3, 8), (13, 8), (3, 9), (13, 9), (3, 10), (13, 10), (3, 11), (13, 11), (2, 2), (1, 0), (17, 0), (9, 0), (10, 0), (11, 0), (6, 0), (18, 0), (6, 1), (18, 1), (6, 2), (18, 2), (6, 3), (18, 3), (6, 4), (18, 4), (6, 5), (18, 5), (8, 0), (22, 0), (23, 0), (24, 0), (25, 0), (26, 0), (27, 0), (28, 0), (29, 0), (30, 0), (31, 0), (32, 0), (33, 0), (34, 0), (35, 0), (36, 0), (37, 0), (38, 0), (39, 0), (40, 0), (41, 0), (42, 0), (43, 0), (44, 0), (45, 0), (46, 0), (47, 0), (48, 0), (49, 0), (50, 0), (51, 0), (52, 0), (53, 0), (54, 0), (55, 0), (56, 0)] : List (Nat × Nat)).getD k (0, 0)
theorem inv_pos : ∀ f, f < 64 → ∀ i, i < 16 → (i < nX 0 f ∨ i < nM f) → inv0 (pos0 f i) = (f, i) := by decide +kernel
def WS0 (cy : Nat → ClassId) (a b : Nat) (z1 z2 : Nat → Nat) : va_W := [(a, .inr (7, [.ref (z1 0), .ref (z1 2), .ref (z1 26), .ref (z1 50), .ref (z1 51), .ref (z1 53), .ref (z1 54), .ref (z1 55), .int (0 : Int32), .int (0 : Int32), .int (0 : Int32)])), (z1 0, .inr (0, [.ref (z1 1), .int (0 : Int32), .int (400 : Int32), .int (80 : Int32)])), (z1 1, .inl (cy 0, (100, .inl (fun _ => 0)))), (z1 2, .inr (5, [.ref (z1 3), .ref (z1 4), .ref (z1 5), .ref (z1 8), .ref (z1 11), .int (0 : Int32), .int (-5 : Int32), .int (60 : Int32), .ref (z1 0)])), (z1 3, .inl (cy 5, (6, .inr (.inr (.inr (.inr (va_up (va_up (va_up (va_up (va_up (va_up (fun _ => none) 0 (some (z1 14))) 1 (some (z1 16))) 2 (some (z1 18))) 3 (some (z1 20))) 4 (some (z1 22))) 5 (some (z1 24))))))))), (z1 4, .inr (2, [.int (0 : Int32), .int (100 : Int32), .int (0 : Int32)])), (z1 5, .inr (4, [.ref (z1 6), .ref (z1 7), .int (0 : Int32)])), (z1 6, .inl (cy 0, (4, .inl (fun _ => 0)))), (z1 7, .inl (cy 0, (4, .inl (fun _ => 0)))), (z1 8, .inr (4, [.ref (z1 9), .ref (z1 10), .int (0 : Int32)])), (z1 9, .inl (cy 0, (5, .inl (fun _ => 0)))), (z1 10, .inl (cy 0, (5, .inl (fun _ => 0)))), (z1 11, .inr (4, [.ref (z1 12), .ref (z1 13), .int (0 : Int32)])), (z1 12, .inl (cy 0, (8, .inl (fun _ => 0)))), (z1 13, .inl (cy 0, (8, .inl (fun _ => 0)))), (z1 14, .inr (3, [.int (0 : Int32), .ref (z1 15), .int (0 : Int32), .int (0 : Int32), .int (0 : Int32), .int (0 : Int32), .null, .int (0 : Int32), .int (0 : Int32), .int (0 : Int32)])), (z1 15, .inl (cy 0, (4, .inl (fun _ => 0)))), (z1 16, .inr (3, [.int (1 : Int32), .ref (z1 17), .int (0 : Int32), .int (0 : Int32), .int (0 : Int32), .int (0 : Int32), .null, .int (0 : Int32), .int (0 : Int32), .int (0 : Int32)])), (z1 17, .inl (cy 0, (4, .inl (fun _ => 0)))), (z1 18, .inr (3, [.int (2 : Int32), .ref (z1 19), .int (0 : Int32), .int (0 : Int32), .int (0 : Int32), .int (0 : Int32), .null, .int (0 : Int32), .int (0 : Int32), .int (0 : Int32)])), (z1 19, .inl (cy 0, (4, .inl (fun _ => 0)))), (z1 20, .inr (3, [.int (3 : Int32), .ref (z1 21), .int (0 : Int32), .int (0 : Int32), .int (0 : Int32), .int (0 : Int32), .null, .int (0 : Int32), .int (0 : Int32), .int (0 : Int32)])), (z1 21, .inl (cy 0, (4, .inl (fun _ => 0)))), (z1 22, .inr (3, [.int (4 : Int32), .ref (z1 23), .int (0 : Int32), .int (0 : Int32), .int (0 : Int32), .int (0 : Int32), .null, .int (0 : Int32), .int (0 : Int32), .int (0 : Int32)])), (z1 23, .inl (cy 0, (4, .inl (fun _ => 0)))), (z1 24, .inr (3, [.int (5 : Int32), .ref (z1 25), .int (0 : Int32), .int (0 : Int32), .int (0 : Int32), .int (0 : Int32), .null, .int (0 : Int32), .int (0 : Int32), .int (0 : Int32)])), (z1 25, .inl (cy 0, (4, .inl (fun _ => 0)))), (z1 26, .inr (5, [.ref (z1 27), .ref (z1 28), .ref (z1 29), .ref (z1 32), .ref (z1 35), .int (0 : Int32), .int (-5 : Int32), .int (60 : Int32), .ref (z1 0)])), (z1 27, .inl (cy 5, (6, .inr (.inr (.inr (.inr (va_up (va_up (va_up (va_up (va_up (va_up (fun _ => none) 0 (some (z1 38))) 1 (some (z1 40))) 2 (some (z1 42))) 3 (some (z1 44))) 4 (some (z1 46))) 5 (some (z1 48))))))))), (z1 28, .inr (2, [.int (0 : Int32), .int (100 : Int32), .int (0 : Int32)])), (z1 29, .inr (4, [.ref (z1 30), .ref (z1 31), .int (0 : Int32)])), (z1 30, .inl (cy 0, (4, .inl (fun _ => 0)))), (z1 31, .inl (cy 0, (4, .inl (fun _ => 0)))), (z1 32, .inr (4, [.ref (z1 33), .ref (z1 34), .int (0 : Int32)])), (z1 33, .inl (cy 0, (5, .inl (fun _ => 0)))), (z1 34, .inl (cy 0, (5, .inl (fun _ => 0)))), (z1 35, .inr (4, [.ref (z1 36), .ref (z1 37), .int (0 : Int32)])), (z1 36, .inl (cy 0, (8, .inl (fun _ => 0)))), (z1 37, .inl (cy 0, (8, .inl (fun _ => 0)))), (z1 38, .inr (3, [.int (0 : Int32), .ref (z1 39), .int (0 : Int32), .int (0 : Int32), .int (0 : Int32), .int (0 : Int32), .null, .int (0 : Int32), .int (0 : Int32), .int (0 : Int32)])), (z1 39, .inl (cy 0, (4, .inl (fun _ => 0)))), (z1 40, .inr (3, [.int (1 : Int32), .ref (z1 41), .int (0 : Int32), .int (0 : Int32), .int (0 : Int32), .int (0 : Int32), .null, .int (0 : Int32), .int (0 : Int32), .int (0 : Int32)])), (z1 41, .inl (cy 0, (4, .inl (fun _ => 0)))), (z1 42, .inr (3, [.int (2 : Int32), .ref (z1 43), .int (0 : Int32), .int (0 : Int32), .int (0 : Int32), .int (0 : Int32), .null, .int (0 : Int32), .int (0 : Int32), .int (0 : Int32)])), (z1 43, .inl (cy 0, (4, .inl (fun _ => 0)))), (z1 44, .inr (3, [.int (3 : Int32), .ref (z1 45), .int (0 : Int32), .int (0 : Int32), .int (0 : Int32), .int (0 : Int32), .null, .int (0 : Int32), .int (0 : Int32), .int (0 : Int32)])), (z1 45, .inl (cy 0, (4, .inl (fun _ => 0)))), (z1 46, .inr (3, [.int (4 : Int32), .ref (z1 47), .int (0 : Int32), .int (0 : Int32), .int (0 : Int32), .int (0 : Int32), .null, .int (0 : Int32), .int (0 : Int32), .int (0 : Int32)])), (z1 47, .inl (cy 0, (4, .inl (fun _ => 0)))), (z1 48, .inr (3, [.int (5 : Int32), .ref (z1 49), .int (0 : Int32), .int (0 : Int32), .int (0 : Int32), .int (0 : Int32), .null, .int (0 : Int32), .int (0 : Int32), .int (0 : Int32)])), (z1 49, .inl (cy 0, (4, .inl (fun _ => 0)))), (z1 50, .inr (2, [.int (0 : Int32), .int (100 : Int32), .int (0 : Int32)])), (z1 51, .inr (1, [.ref (z1 52), .int (0 : Int32), .int (0 : Int32), .ref (z1 0)])), (z1 52, .inl (cy 1, (100, .inl (fun _ => 0)))), (z1 53, .inl (cy 4, (6, .inr (.inr (.inr (.inr (fun _ => none))))))), (z1 54, .inl (cy 0, (20, .inl (fun _ => 0)))), (z1 55, .inl (cy 6, (6, .inr (.inr (.inr (.inr (va_up (va_up (va_up (va_up (va_up (va_up (fun _ => none) 0 (some (z1 56))) 1 (some (z1 58))) 2 (some (z1 60))) 3 (some (z1 62))) 4 (some (z1 64))) 5 (some (z1 66))))))))), (z1 56, .inr (6, [.ref (z1 57), .int (-1 : Int32), .int (0 : Int32)])), (z1 57, .inl (cy 3, (60, .inr (.inl (fun _ => 0))))), (z1 58, .inr (6, [.ref (z1 59), .int (-1 : Int32), .int (0 : Int32)])), (z1 59, .inl (cy 3, (60, .inr (.inl (fun _ => 0))))), (z1 60, .inr (6, [.ref (z1 61), .int (-1 : Int32), .int (0 : Int32)])), (z1 61, .inl (cy 3, (60, .inr (.inl (fun _ => 0))))), (z1 62, .inr (6, [.ref (z1 63), .int (-1 : Int32), .int (0 : Int32)])), (z1 63, .inl (cy 3, (60, .inr (.inl (fun _ => 0))))), (z1 64, .inr (6, [.ref (z1 65), .int (-1 : Int32), .int (0 : Int32)])), (z1 65, .inl (cy 3, (60, .inr (.inl (fun _ => 0))))), (z1 66, .inr (6, [.ref (z1 67), .int (-1 : Int32), .int (0 : Int32)])), (z1 67, .inl (cy 3, (60, .inr (.inl (fun _ => 0))))), (b, .inr (8, [.int (0 : Int32), .int (0 : Int32), .int (0 : Int32), .int (100 : Int32), .int (-1 : Int32), .int (60 : Int32), .ref (z2 0), .ref (z2 1), .ref (z2 2), .ref (z2 3), .ref (z2 4), .int (0 : Int32), .int (-1 : Int32), .int (0 : Int32), .int (0 : Int32), .int (0 : Int32), .ref (z2 5), .ref (z2 6), .ref (z2 7), .ref (z2 8), .ref (z2 9), .ref (z2 10), .ref (z2 11), .ref (z2 12), .int (0 : Int32), .int (0 : Int32), .int (0 : Int32), .ref (z2 13), .ref (z2 14), .int (0 : Int32), .int (0 : Int32), .int (0 : Int32), .int (0 : Int32), .int (-5 : Int32), .int (-5 : Int32), .int (-5 : Int32), .int (0 : Int32), .ref (z2 15), .ref (z2 16), .int (0 : Int32), .ref (z2 17), .int (0 : Int32), .ref (z2 18), .ref (z2 19), .int (0 : Int32), .int (-1 : Int32), .int (0 : Int32), .int (0 : Int32), .int (0 : Int32), .int (100 : Int32), .int (-1 : Int32), .int (60 : Int32), .int (0 : Int32), .int (0 : Int32), .int (0 : Int32), .ref (z2 20), .ref (z2 21), .ref (z2 22), .ref (z2 23), .ref (z2 24), .ref (z2 25), .ref (z2 26), .ref (z2 27), .ref (z2 28), .ref (z2 29), .int (0 : Int32), .ref (z2 30), .ref (z2 31), .ref (z2 32), .ref (z2 33), .ref (z2 34)])), (z2 0, .inl (cy 0, (6, .inl (fun _ => 0)))), (z2 1, .inl (cy 0, (6, .inl (fun _ => 0)))), (z2 2, .inl (cy 0, (6, .inl (fun _ => 0)))), (z2 3, .inl (cy 0, (6, .inl (fun _ => 0)))), (z2 4, .inl (cy 0, (24, .inl (fun _ => 0)))), (z2 5, .inl (cy 0, (100, .inl (fun _ => 0)))), (z2 6, .inl (cy 0, (6, .inl (fun _ => 0)))), (z2 7, .inl (cy 0, (60, .inl (fun _ => 0)))), (z2 8, .inl (cy 0, (60, .inl (fun _ => 0)))), (z2 9, .inl (cy 0, (60, .inl (fun _ => 0)))), (z2 10, .inl (cy 0, (60, .inl (fun _ => 0)))), (z2 11, .inl (cy 0, (600, .inl (fun _ => 0)))), (z2 12, .inl (cy 0, (101, .inl (fun _ => 0)))), (z2 13, .inl (cy 0, (14, .inl (upd (upd (upd (upd (upd (upd (upd (upd (upd (upd (upd (upd (upd (upd (fun _ => 0) 0 (117 : Int32)) 1 (112 : Int32)) 2 (100 : Int32)) 3 (111 : Int32)) 4 (119 : Int32)) 5 (110 : Int32)) 6 (98 : Int32)) 7 (97 : Int32)) 8 (115 : Int32)) 9 (101 : Int32)) 10 (115 : Int32)) 11 (97 : Int32)) 12 (102 : Int32)) 13 (101 : Int32))))), (z2 14, .inl (cy 2, (100, .inl (fun _ => 0)))), (z2 15, .inl (cy 0, (4, .inl (fun _ => 0)))), (z2 16, .inl (cy 0, (4, .inl (fun _ => 0)))), (z2 17, .inl (cy 0, (5, .inl (fun _ => 0)))), (z2 18, .inl (cy 0, (8, .inl (fun _ => 0)))), (z2 19, .inl (cy 0, (8, .inl (fun _ => 0)))), (z2 20, .inl (cy 0, (6, .inl (fun _ => 0)))), (z2 21, .inl (cy 0, (6, .inl (fun _ => 0)))), (z2 22, .inl (cy 0, (6, .inl (fun _ => 0)))), (z2 23, .inl (cy 0, (6, .inl (fun _ => 0)))), (z2 24, .inl (cy 0, (24, .inl (fun _ => 0)))), (z2 25, .inl (cy 0, (4, .inl (fun _ => 0)))), (z2 26, .inl (cy 0, (4, .inl (fun _ => 0)))), (z2 27, .inl (cy 0, (5, .inl (fun _ => 0)))), (z2 28, .inl (cy 0, (8, .inl (fun _ => 0)))), (z2 29, .inl (cy 0, (8, .inl (fun _ => 0)))), (z2 30, .inl (cy 0, (20, .inl (fun _ => 0)))), (z2 31, .inl (cy 0, (6, .inl (upd (upd (upd (upd (upd (upd (fun _ => 0) 0 (-1 : Int32)) 1 (-1 : Int32)) 2 (-1 : Int32)) 3 (-1 : Int32)) 4 (-1 : Int32)) 5 (-1 : Int32))))), (z2 32, .inl (cy 0, (6, .inl (fun _ => 0)))), (z2 33, .inl (cy 3, (360, .inr (.inl (fun _ => 0))))), (z2 34, .inl (cy 3, (60, .inr (.inl (fun _ => 0)))))]
theorem va_refs {D : va_G} {a n : Nat} {cA : ClassId} {f g : Nat → Option Nat} {H : Heap} (h : va_at D vwCl (a, .inl (cA, (n, .inr (.inr (.inr (.inr f)))))) H) (hfg : ∀ j, j < n → f j = g j) : va_at D vwCl (a, .inl (cA, (n, .inr (.inr (.inr (.inr g)))))) H := by
  have h : H[a]? = some (arrV cA n (fun j => va_rf (f j))) := h
  show H[a]? = some (arrV cA n (fun j => va_rf (g j)))
  rw [h]
  unfold arrV
  congr 3
  funext j
  show va_rf (f j.val) = va_rf (g j.val)
  rw [hfg j.val j.isLt]
set_option maxRecDepth 20000 in
theorem W0_x {cy : Nat → ClassId} {a b : Nat} {z1 z2 aK aV : Nat → Nat} {tK : Nat} {D : va_G} {H : Heap} (hP : va_P D vwCl (WS0 cy a b z1 z2) H) : ∀ f i, f < 64 → i < nX 0 f → va_at D vwCl ((ad0 a b z1 z2 aK aV tK) f i, ct cy (ad0 a b z1 z2 aK aV tK) S0x f i) H := by
  intro f i hf hi
  rcases (show f = 0 ∨ f = 1 ∨ f = 2 ∨ f = 3 ∨ f = 4 ∨ f = 5 ∨ f = 6 ∨ f = 7 ∨ f = 8 ∨ f = 9 ∨ f = 10 ∨ f = 11 ∨ f = 12 ∨ f = 13 ∨ f = 14 ∨ f = 15 ∨ f = 16 ∨ f = 17 ∨ f = 18 ∨ f = 19 ∨ f = 20 ∨ f = 21 ∨ f = 22 ∨ f = 23 ∨ f = 24 ∨ f = 25 ∨ f = 26 ∨ f = 27 ∨ f = 28 ∨ f = 29 ∨ f = 30 ∨ f = 31 ∨ f = 32 ∨ f = 33 ∨ f = 34 ∨ f = 35 ∨ f = 36 ∨ f = 37 ∨ f = 38 ∨ f = 39 ∨ f = 40 ∨ f = 41 ∨ f = 42 ∨ f = 43 ∨ f = 44 ∨ f = 45 ∨ f = 46 ∨ f = 47 ∨ f = 48 ∨ f = 49 ∨ f = 50 ∨ f = 51 ∨ f = 52 ∨ f = 53 ∨ f = 54 ∨ f = 55 ∨ f = 56 ∨ f = 57 ∨ f = 58 ∨ f = 59 ∨ f = 60 ∨ f = 61 ∨ f = 62 ∨ f = 63 by omega) with rfl | rfl | rfl | rfl | rfl | rfl | rfl | rfl | rfl | rfl | rfl | rfl | rfl | rfl | rfl | rfl | rfl | rfl | rfl | rfl | rfl | rfl | rfl | rfl | rfl | rfl | rfl | rfl | rfl | rfl | rfl | rfl | rfl | rfl | rfl | rfl | rfl | rfl | rfl | rfl | rfl | rfl | rfl | rfl | rfl | rfl | rfl | rfl | rfl | rfl | rfl | rfl | rfl | rfl | rfl | rfl | rfl | rfl | rfl | rfl | rfl | rfl | rfl | rfl
  · have hi : i < 1 := hi
    rcases (show i = 0 by omega) with rfl
    · exact hP 1 _ rfl
  · have hi : i < 1 := hi
    rcases (show i = 0 by omega) with rfl
    · exact hP 52 _ rfl
  · have hi : i < 3 := hi
    rcases (show i = 0 ∨ i = 1 ∨ i = 2 by omega) with rfl | rfl | rfl
    · exact hP 5 _ rfl
    · exact hP 29 _ rfl
    · exact hP 51 _ rfl
  · have hi : i < 12 := hi
    rcases (show i = 0 ∨ i = 1 ∨ i = 2 ∨ i = 3 ∨ i = 4 ∨ i = 5 ∨ i = 6 ∨ i = 7 ∨ i = 8 ∨ i = 9 ∨ i = 10 ∨ i = 11 by omega) with rfl | rfl | rfl | rfl | rfl | rfl | rfl | rfl | rfl | rfl | rfl | rfl
    · exact hP 15 _ rfl
    · exact hP 17 _ rfl
    · exact hP 19 _ rfl
    · exact hP 21 _ rfl
    · exact hP 23 _ rfl
    · exact hP 25 _ rfl
    · exact hP 39 _ rfl
    · exact hP 41 _ rfl
    · exact hP 43 _ rfl
    · exact hP 45 _ rfl
    · exact hP 47 _ rfl
    · exact hP 49 _ rfl
  · have hi : i < 6 := hi
    rcases (show i = 0 ∨ i = 1 ∨ i = 2 ∨ i = 3 ∨ i = 4 ∨ i = 5 by omega) with rfl | rfl | rfl | rfl | rfl | rfl
    · exact hP 6 _ rfl
    · exact hP 9 _ rfl
    · exact hP 12 _ rfl
    · exact hP 30 _ rfl
    · exact hP 33 _ rfl
    · exact hP 36 _ rfl
  · have hi : i < 2 := hi
    rcases (show i = 0 ∨ i = 1 by omega) with rfl | rfl
    · exact hP 3 _ rfl
    · exact hP 27 _ rfl
  · have hi : i < 6 := hi
    rcases (show i = 0 ∨ i = 1 ∨ i = 2 ∨ i = 3 ∨ i = 4 ∨ i = 5 by omega) with rfl | rfl | rfl | rfl | rfl | rfl
    · exact hP 57 _ rfl
    · exact hP 59 _ rfl
    · exact hP 61 _ rfl
    · exact hP 63 _ rfl
    · exact hP 65 _ rfl
    · exact hP 67 _ rfl
  · have hi : i < 1 := hi
    rcases (show i = 0 by omega) with rfl
    · exact hP 0 _ rfl
  · exact absurd hi (Nat.not_lt_zero _)
  · have hi : i < 1 := hi
    rcases (show i = 0 by omega) with rfl
    · exact hP 54 _ rfl
  · have hi : i < 1 := hi
    rcases (show i = 0 by omega) with rfl
    · exact hP 55 _ rfl
  · have hi : i < 1 := hi
    rcases (show i = 0 by omega) with rfl
    · exact va_refs (hP 56 _ rfl) (fun j hj => by have hj : j < 6 := hj; rcases (show j = 0 ∨ j = 1 ∨ j = 2 ∨ j = 3 ∨ j = 4 ∨ j = 5 by omega) with rfl | rfl | rfl | rfl | rfl | rfl <;> rfl)
  · have hi : i < 2 := hi
    rcases (show i = 0 ∨ i = 1 by omega) with rfl | rfl
    · exact va_refs (hP 4 _ rfl) (fun j hj => by have hj : j < 6 := hj; rcases (show j = 0 ∨ j = 1 ∨ j = 2 ∨ j = 3 ∨ j = 4 ∨ j = 5 by omega) with rfl | rfl | rfl | rfl | rfl | rfl <;> rfl)
    · exact va_refs (hP 28 _ rfl) (fun j hj => by have hj : j < 6 := hj; rcases (show j = 0 ∨ j = 1 ∨ j = 2 ∨ j = 3 ∨ j = 4 ∨ j = 5 by omega) with rfl | rfl | rfl | rfl | rfl | rfl <;> rfl)
  · have hi : i < 12 := hi
    rcases (show i = 0 ∨ i = 1 ∨ i = 2 ∨ i = 3 ∨ i = 4 ∨ i = 5 ∨ i = 6 ∨ i = 7 ∨ i = 8 ∨ i = 9 ∨ i = 10 ∨ i = 11 by omega) with rfl | rfl | rfl | rfl | rfl | rfl | rfl | rfl | rfl | rfl | rfl | rfl
    · exact hP 16 _ rfl
    · exact hP 18 _ rfl
    · exact hP 20 _ rfl
    · exact hP 22 _ rfl
    · exact hP 24 _ rfl
    · exact hP 26 _ rfl
    · exact hP 40 _ rfl
    · exact hP 42 _ rfl
    · exact hP 44 _ rfl
    · exact hP 46 _ rfl
    · exact hP 48 _ rfl
    · exact hP 50 _ rfl
  · have hi : i < 6 := hi
    rcases (show i = 0 ∨ i = 1 ∨ i = 2 ∨ i = 3 ∨ i = 4 ∨ i = 5 by omega) with rfl | rfl | rfl | rfl | rfl | rfl
    · exact hP 7 _ rfl
    · exact hP 10 _ rfl
    · exact hP 13 _ rfl
    · exact hP 31 _ rfl
    · exact hP 34 _ rfl
    · exact hP 37 _ rfl
  · have hi : i < 6 := hi
    rcases (show i = 0 ∨ i = 1 ∨ i = 2 ∨ i = 3 ∨ i = 4 ∨ i = 5 by omega) with rfl | rfl | rfl | rfl | rfl | rfl
    · exact hP 8 _ rfl
    · exact hP 11 _ rfl
    · exact hP 14 _ rfl
    · exact hP 32 _ rfl
    · exact hP 35 _ rfl
    · exact hP 38 _ rfl
  · have hi : i < 1 := hi
    rcases (show i = 0 by omega) with rfl
    · exact hP 2 _ rfl
  · have hi : i < 1 := hi
    rcases (show i = 0 by omega) with rfl
    · exact hP 53 _ rfl
  · have hi : i < 6 := hi
    rcases (show i = 0 ∨ i = 1 ∨ i = 2 ∨ i = 3 ∨ i = 4 ∨ i = 5 by omega) with rfl | rfl | rfl | rfl | rfl | rfl
    · exact hP 58 _ rfl
    · exact hP 60 _ rfl
    · exact hP 62 _ rfl
    · exact hP 64 _ rfl
    · exact hP 66 _ rfl
    · exact hP 68 _ rfl
  · exact absurd hi (Nat.not_lt_zero _)
  · exact absurd hi (Nat.not_lt_zero _)
  · exact absurd hi (Nat.not_lt_zero _)
  · exact absurd hi (Nat.not_lt_zero _)
  · exact absurd hi (Nat.not_lt_zero _)
  · exact absurd hi (Nat.not_lt_zero _)
  · exact absurd hi (Nat.not_lt_zero _)
  · exact absurd hi (Nat.not_lt_zero _)
  · exact absurd hi (Nat.not_lt_zero _)
  · exact absurd hi (Nat.not_lt_zero _)
  · exact absurd hi (Nat.not_lt_zero _)
  · exact absurd hi (Nat.not_lt_zero _)
  · exact absurd hi (Nat.not_lt_zero _)
  · exact absurd hi (Nat.not_lt_zero _)
  · exact absurd hi (Nat.not_lt_zero _)
  · exact absurd hi (Nat.not_lt_zero _)
  · exact absurd hi (Nat.not_lt_zero _)
  · exact absurd hi (Nat.not_lt_zero _)
  · exact absurd hi (Nat.not_lt_zero _)
  · exact absurd hi (Nat.not_lt_zero _)
  · exact absurd hi (Nat.not_lt_zero _)
  · exact absurd hi (Nat.not_lt_zero _)
  · exact absurd hi (Nat.not_lt_zero _)
  · exact absurd hi (Nat.not_lt_zero _)
  · exact absurd hi (Nat.not_lt_zero _)
  · exact absurd hi (Nat.not_lt_zero _)
  · exact absurd hi (Nat.not_lt_zero _)
  · exact absurd hi (Nat.not_lt_zero _)
  · exact absurd hi (Nat.not_lt_zero _)
  · exact absurd hi (Nat.not_lt_zero _)
  · exact absurd hi (Nat.not_lt_zero _)
  · exact absurd hi (Nat.not_lt_zero _)
  · exact absurd hi (Nat.not_lt_zero _)
  · exact absurd hi (Nat.not_lt_zero _)
  · exact absurd hi (Nat.not_lt_zero _)
  · exact absurd hi (Nat.not_lt_zero _)
  · exact absurd hi (Nat.not_lt_zero _)
  · exact absurd hi (Nat.not_lt_zero _)
  · exact absurd hi (Nat.not_lt_zero _)
  · exact absurd hi (Nat.not_lt_zero _)
  · exact absurd hi (Nat.not_lt_zero _)
  · exact absurd hi (Nat.not_lt_zero _)
  · exact absurd hi (Nat.not_lt_zero _)
  · exact absurd hi (Nat.not_lt_zero _)
  · exact absurd hi (Nat.not_lt_zero _)
set_option maxRecDepth 20000 in
set_option maxHeartbeats 4000000 in
theorem W0_m {cy : Nat → ClassId} {a b : Nat} {z1 z2 aK aV : Nat → Nat} {tK : Nat} {D : va_G} {H : Heap} (hP : va_P D vwCl (WS0 cy a b z1 z2) H) : ∀ f i, f < 64 → i < nM f → va_at D vwCl ((ad0 a b z1 z2 aK aV tK) f i, ct cy (ad0 a b z1 z2 aK aV tK) S0m f i) H := by
  intro f i hf hi
  rcases (show f = 0 ∨ f = 1 ∨ f = 2 ∨ f = 3 ∨ f = 4 ∨ f = 5 ∨ f = 6 ∨ f = 7 ∨ f = 8 ∨ f = 9 ∨ f = 10 ∨ f = 11 ∨ f = 12 ∨ f = 13 ∨ f = 14 ∨ f = 15 ∨ f = 16 ∨ f = 17 ∨ f = 18 ∨ f = 19 ∨ f = 20 ∨ f = 21 ∨ f = 22 ∨ f = 23 ∨ f = 24 ∨ f = 25 ∨ f = 26 ∨ f = 27 ∨ f = 28 ∨ f = 29 ∨ f = 30 ∨ f = 31 ∨ f = 32 ∨ f = 33 ∨ f = 34 ∨ f = 35 ∨ f = 36 ∨ f = 37 ∨ f = 38 ∨ f = 39 ∨ f = 40 ∨ f = 41 ∨ f = 42 ∨ f = 43 ∨ f = 44 ∨ f = 45 ∨ f = 46 ∨ f = 47 ∨ f = 48 ∨ f = 49 ∨ f = 50 ∨ f = 51 ∨ f = 52 ∨ f = 53 ∨ f = 54 ∨ f = 55 ∨ f = 56 ∨ f = 57 ∨ f = 58 ∨ f = 59 ∨ f = 60 ∨ f = 61 ∨ f = 62 ∨ f = 63 by omega) with rfl | rfl | rfl | rfl | rfl | rfl | rfl | rfl | rfl | rfl | rfl | rfl | rfl | rfl | rfl | rfl | rfl | rfl | rfl | rfl | rfl | rfl | rfl | rfl | rfl | rfl | rfl | rfl | rfl | rfl | rfl | rfl | rfl | rfl | rfl | rfl | rfl | rfl | rfl | rfl | rfl | rfl | rfl | rfl | rfl | rfl | rfl | rfl | rfl | rfl | rfl | rfl | rfl | rfl | rfl | rfl | rfl | rfl | rfl | rfl | rfl | rfl | rfl | rfl
  · exact absurd hi (Nat.not_lt_zero _)
  · exact absurd hi (Nat.not_lt_zero _)
  · exact absurd hi (Nat.not_lt_zero _)
  · exact absurd hi (Nat.not_lt_zero _)
  · exact absurd hi (Nat.not_lt_zero _)
  · exact absurd hi (Nat.not_lt_zero _)
  · exact absurd hi (Nat.not_lt_zero _)
  · exact absurd hi (Nat.not_lt_zero _)
  · have hi : i < 1 := hi
    rcases (show i = 0 by omega) with rfl
    · exact hP 69 _ rfl
  · exact absurd hi (Nat.not_lt_zero _)
  · exact absurd hi (Nat.not_lt_zero _)
  · exact absurd hi (Nat.not_lt_zero _)
  · exact absurd hi (Nat.not_lt_zero _)
  · exact absurd hi (Nat.not_lt_zero _)
  · exact absurd hi (Nat.not_lt_zero _)
  · exact absurd hi (Nat.not_lt_zero _)
  · exact absurd hi (Nat.not_lt_zero _)
  · exact absurd hi (Nat.not_lt_zero _)
  · exact absurd hi (Nat.not_lt_zero _)
  · exact absurd hi (Nat.not_lt_zero _)
  · exact absurd hi (Nat.not_lt_zero _)
  · exact absurd hi (Nat.not_lt_zero _)
  · have hi : i < 1 := hi
    rcases (show i = 0 by omega) with rfl
    · exact hP 70 _ rfl
  · have hi : i < 1 := hi
    rcases (show i = 0 by omega) with rfl
    · exact hP 71 _ rfl
  · have hi : i < 1 := hi
    rcases (show i = 0 by omega) with rfl
    · exact hP 72 _ rfl
  · have hi : i < 1 := hi
    rcases (show i = 0 by omega) with rfl
    · exact hP 73 _ rfl
  · have hi : i < 1 := hi
    rcases (show i = 0 by omega) with rfl
    · exact hP 74 _ rfl
  · have hi : i < 1 := hi
    rcases (show i = 0 by omega) with rfl
    · exact hP 75 _ rfl
  · have hi : i < 1 := hi
    rcases (show i = 0 by omega) with rfl
    · exact hP 76 _ rfl
  · have hi : i < 1 := hi
    rcases (show i = 0 by omega) with rfl
    · exact hP 77 _ rfl
  · have hi : i < 1 := hi
    rcases (show i = 0 by omega) with rfl
    · exact hP 78 _ rfl
  · have hi : i < 1 := hi
    rcases (show i = 0 by omega) with rfl
    · exact hP 79 _ rfl
  · have hi : i < 1 := hi
    rcases (show i = 0 by omega) with rfl
    · exact hP 80 _ rfl
  · have hi : i < 1 := hi
    rcases (show i = 0 by omega) with rfl
    · exact hP 81 _ rfl
  · have hi : i < 1 := hi
    rcases (show i = 0 by omega) with rfl
    · exact hP 82 _ rfl
  · have hi : i < 1 := hi
    rcases (show i = 0 by omega) with rfl
    · exact hP 83 _ rfl
  · have hi : i < 1 := hi
    rcases (show i = 0 by omega) with rfl
    · exact hP 84 _ rfl
  · have hi : i < 1 := hi
    rcases (show i = 0 by omega) with rfl
    · exact hP 85 _ rfl
  · have hi : i < 1 := hi
    rcases (show i = 0 by omega) with rfl
    · exact hP 86 _ rfl
  · have hi : i < 1 := hi
    rcases (show i = 0 by omega) with rfl
    · exact hP 87 _ rfl
  · have hi : i < 1 := hi
    rcases (show i = 0 by omega) with rfl
    · exact hP 88 _ rfl
  · have hi : i < 1 := hi
    rcases (show i = 0 by omega) with rfl
    · exact hP 89 _ rfl
  · have hi : i < 1 := hi
    rcases (show i = 0 by omega) with rfl
    · exact hP 90 _ rfl
  · have hi : i < 1 := hi
    rcases (show i = 0 by omega) with rfl
    · exact hP 91 _ rfl
  · have hi : i < 1 := hi
    rcases (show i = 0 by omega) with rfl
    · exact hP 92 _ rfl
  · have hi : i < 1 := hi
    rcases (show i = 0 by omega) with rfl
    · exact hP 93 _ rfl
  · have hi : i < 1 := hi
    rcases (show i = 0 by omega) with rfl
    · exact hP 94 _ rfl
  · have hi : i < 1 := hi
    rcases (show i = 0 by omega) with rfl
    · exact hP 95 _ rfl
  · have hi : i < 1 := hi
    rcases (show i = 0 by omega) with rfl
    · exact hP 96 _ rfl
  · have hi : i < 1 := hi
    rcases (show i = 0 by omega) with rfl
    · exact hP 97 _ rfl
  · have hi : i < 1 := hi
    rcases (show i = 0 by omega) with rfl
    · exact hP 98 _ rfl
  · have hi : i < 1 := hi
    rcases (show i = 0 by omega) with rfl
    · exact hP 99 _ rfl
  · have hi : i < 1 := hi
    rcases (show i = 0 by omega) with rfl
    · exact hP 100 _ rfl
  · have hi : i < 1 := hi
    rcases (show i = 0 by omega) with rfl
    · exact hP 101 _ rfl
  · have hi : i < 1 := hi
    rcases (show i = 0 by omega) with rfl
    · exact hP 102 _ rfl
  · have hi : i < 1 := hi
    rcases (show i = 0 by omega) with rfl
    · exact hP 103 _ rfl
  · have hi : i < 1 := hi
    rcases (show i = 0 by omega) with rfl
    · exact hP 104 _ rfl
  · exact absurd hi (Nat.not_lt_zero _)
  · exact absurd hi (Nat.not_lt_zero _)
  · exact absurd hi (Nat.not_lt_zero _)
  · exact absurd hi (Nat.not_lt_zero _)
  · exact absurd hi (Nat.not_lt_zero _)
  · exact absurd hi (Nat.not_lt_zero _)
  · exact absurd hi (Nat.not_lt_zero _)
set_option maxRecDepth 20000 in
theorem W0_kx {cy : Nat → ClassId} {a b : Nat} {z1 z2 aK aV : Nat → Nat} {tK : Nat} : ∀ f i, f < 64 → i < nX 0 f → ∃ e, (WS0 cy a b z1 z2)[pos0 f i]? = some ((ad0 a b z1 z2 aK aV tK) f i, e) := by
  intro f i hf hi
  rcases (show f = 0 ∨ f = 1 ∨ f = 2 ∨ f = 3 ∨ f = 4 ∨ f = 5 ∨ f = 6 ∨ f = 7 ∨ f = 8 ∨ f = 9 ∨ f = 10 ∨ f = 11 ∨ f = 12 ∨ f = 13 ∨ f = 14 ∨ f = 15 ∨ f = 16 ∨ f = 17 ∨ f = 18 ∨ f = 19 ∨ f = 20 ∨ f = 21 ∨ f = 22 ∨ f = 23 ∨ f = 24 ∨ f = 25 ∨ f = 26 ∨ f = 27 ∨ f = 28 ∨ f = 29 ∨ f = 30 ∨ f = 31 ∨ f = 32 ∨ f = 33 ∨ f = 34 ∨ f = 35 ∨ f = 36 ∨ f = 37 ∨ f = 38 ∨ f = 39 ∨ f = 40 ∨ f = 41 ∨ f = 42 ∨ f = 43 ∨ f = 44 ∨ f = 45 ∨ f = 46 ∨ f = 47 ∨ f = 48 ∨ f = 49 ∨ f = 50 ∨ f = 51 ∨ f = 52 ∨ f = 53 ∨ f = 54 ∨ f = 55 ∨ f = 56 ∨ f = 57 ∨ f = 58 ∨ f = 59 ∨ f = 60 ∨ f = 61 ∨ f = 62 ∨ f = 63 by omega) with rfl | rfl | rfl | rfl | rfl | rfl | rfl | rfl | rfl | rfl | rfl | rfl | rfl | rfl | rfl | rfl | rfl | rfl | rfl | rfl | rfl | rfl | rfl | rfl | rfl | rfl | rfl | rfl | rfl | rfl | rfl | rfl | rfl | rfl | rfl | rfl | rfl | rfl | rfl | rfl | rfl | rfl | rfl | rfl | rfl | rfl | rfl | rfl | rfl | rfl | rfl | rfl | rfl | rfl | rfl | rfl | rfl | rfl | rfl | rfl | rfl | rfl | rfl | rfl
  · have hi : i < 1 := hi
    rcases (show i = 0 by omega) with rfl
    · exact ⟨_, rfl⟩
  · have hi : i < 1 := hi
    rcases (show i = 0 by omega) with rfl
    · exact ⟨_, rfl⟩
  · have hi : i < 3 := hi
    rcases (show i = 0 ∨ i = 1 ∨ i = 2 by omega) with rfl | rfl | rfl
    · exact ⟨_, rfl⟩
    · exact ⟨_, rfl⟩
    · exact ⟨_, rfl⟩
  · have hi : i < 12 := hi
    rcases (show i = 0 ∨ i = 1 ∨ i = 2 ∨ i = 3 ∨ i = 4 ∨ i = 5 ∨ i = 6 ∨ i = 7 ∨ i = 8 ∨ i = 9 ∨ i = 10 ∨ i = 11 by omega) with rfl | rfl | rfl | rfl | rfl | rfl | rfl | rfl | rfl | rfl | rfl | rfl
    · exact ⟨_, rfl⟩
    · exact ⟨_, rfl⟩
    · exact ⟨_, rfl⟩
    · exact ⟨_, rfl⟩
    · exact ⟨_, rfl⟩
    · exact ⟨_, rfl⟩
    · exact ⟨_, rfl⟩
    · exact ⟨_, rfl⟩
    · exact ⟨_, rfl⟩
    · exact ⟨_, rfl⟩
    · exact ⟨_, rfl⟩
    · exact ⟨_, rfl⟩
  · have hi : i < 6 := hi
    rcases (show i = 0 ∨ i = 1 ∨ i = 2 ∨ i = 3 ∨ i = 4 ∨ i = 5 by omega) with rfl | rfl | rfl | rfl | rfl | rfl
    · exact ⟨_, rfl⟩
    · exact ⟨_, rfl⟩
    · exact ⟨_, rfl⟩
    · exact ⟨_, rfl⟩
    · exact ⟨_, rfl⟩
    · exact ⟨_, rfl⟩
  · have hi : i < 2 := hi
    rcases (show i = 0 ∨ i = 1 by omega) with rfl | rfl
    · exact ⟨_, rfl⟩
    · exact ⟨_, rfl⟩
  · have hi : i < 6 := hi
    rcases (show i = 0 ∨ i = 1 ∨ i = 2 ∨ i = 3 ∨ i = 4 ∨ i = 5 by omega) with rfl | rfl | rfl | rfl | rfl | rfl
    · exact ⟨_, rfl⟩
    · exact ⟨_, rfl⟩
    · exact ⟨_, rfl⟩
    · exact ⟨_, rfl⟩
    · exact ⟨_, rfl⟩
    · exact ⟨_, rfl⟩
  · have hi : i < 1 := hi
    rcases (show i = 0 by omega) with rfl
    · exact ⟨_, rfl⟩
  · exact absurd hi (Nat.not_lt_zero _)
  · have hi : i < 1 := hi
    rcases (show i = 0 by omega) with rfl
    · exact ⟨_, rfl⟩
  · have hi : i < 1 := hi
    rcases (show i = 0 by omega) with rfl
    · exact ⟨_, rfl⟩
  · have hi : i < 1 := hi
    rcases (show i = 0 by omega) with rfl
    · exact ⟨_, rfl⟩
  · have hi : i < 2 := hi
    rcases (show i = 0 ∨ i = 1 by omega) with rfl | rfl
    · exact ⟨_, rfl⟩
    · exact ⟨_, rfl⟩
  · have hi : i < 12 := hi
    rcases (show i = 0 ∨ i = 1 ∨ i = 2 ∨ i = 3 ∨ i = 4 ∨ i = 5 ∨ i = 6 ∨ i = 7 ∨ i = 8 ∨ i = 9 ∨ i = 10 ∨ i = 11 by omega) with rfl | rfl | rfl | rfl | rfl | rfl | rfl | rfl | rfl | rfl | rfl | rfl
    · exact ⟨_, rfl⟩
    · exact ⟨_, rfl⟩
    · exact ⟨_, rfl⟩
    · exact ⟨_, rfl⟩
    · exact ⟨_, rfl⟩
    · exact ⟨_, rfl⟩
    · exact ⟨_, rfl⟩
    · exact ⟨_, rfl⟩
    · exact ⟨_, rfl⟩
    · exact ⟨_, rfl⟩
    · exact ⟨_, rfl⟩
    · exact ⟨_, rfl⟩
  · have hi : i < 6 := hi
    rcases (show i = 0 ∨ i = 1 ∨ i = 2 ∨ i = 3 ∨ i = 4 ∨ i = 5 by omega) with rfl | rfl | rfl | rfl | rfl | rfl
    · exact ⟨_, rfl⟩
    · exact ⟨_, rfl⟩
    · exact ⟨_, rfl⟩
    · exact ⟨_, rfl⟩
    · exact ⟨_, rfl⟩
    · exact ⟨_, rfl⟩
  · have hi : i < 6 := hi
    rcases (show i = 0 ∨ i = 1 ∨ i = 2 ∨ i = 3 ∨ i = 4 ∨ i = 5 by omega) with rfl | rfl | rfl | rfl | rfl | rfl
    · exact ⟨_, rfl⟩
    · exact ⟨_, rfl⟩
    · exact ⟨_, rfl⟩
    · exact ⟨_, rfl⟩
    · exact ⟨_, rfl⟩
    · exact ⟨_, rfl⟩
  · have hi : i < 1 := hi
    rcases (show i = 0 by omega) with rfl
    · exact ⟨_, rfl⟩
  · have hi : i < 1 := hi
    rcases (show i = 0 by omega) with rfl
    · exact ⟨_, rfl⟩
  · have hi : i < 6 := hi
    rcases (show i = 0 ∨ i = 1 ∨ i = 2 ∨ i = 3 ∨ i = 4 ∨ i = 5 by omega) with rfl | rfl | rfl | rfl | rfl | rfl
    · exact ⟨_, rfl⟩
    · exact ⟨_, rfl⟩
    · exact ⟨_, rfl⟩
    · exact ⟨_, rfl⟩
    · exact ⟨_, rfl⟩
    · exact ⟨_, rfl⟩
  · exact absurd hi (Nat.not_lt_zero _)
  · exact absurd hi (Nat.not_lt_zero _)
  · exact absurd hi (Nat.not_lt_zero _)
  · exact absurd hi (Nat.not_lt_zero _)
  · exact absurd hi (Nat.not_lt_zero _)
  · exact absurd hi (Nat.not_lt_zero _)
  · exact absurd hi (Nat.not_lt_zero _)
  · exact absurd hi (Nat.not_lt_zero _)
  · exact absurd hi (Nat.not_lt_zero _)
  · exact absurd hi (Nat.not_lt_zero _)
  · exact absurd hi (Nat.not_lt_zero _)
  · exact absurd hi (Nat.not_lt_zero _)
  · exact absurd hi (Nat.not_lt_zero _)
  · exact absurd hi (Nat.not_lt_zero _)
  · exact absurd hi (Nat.not_lt_zero _)
  · exact absurd hi (Nat.not_lt_zero _)
  · exact absurd hi (Nat.not_lt_zero _)
  · exact absurd hi (Nat.not_lt_zero _)
  · exact absurd hi (Nat.not_lt_zero _)
  · exact absurd hi (Nat.not_lt_zero _)
  · exact absurd hi (Nat.not_lt_zero _)
  · exact absurd hi (Nat.not_lt_zero _)
  · exact absurd hi (Nat.not_lt_zero _)
  · exact absurd hi (Nat.not_lt_zero _)
  · exact absurd hi (Nat.not_lt_zero _)
  · exact absurd hi (Nat.not_lt_zero _)
  · exact absurd hi (Nat.not_lt_zero _)
  · exact absurd hi (Nat.not_lt_zero _)
  · exact absurd hi (Nat.not_lt_zero _)
  · exact absurd hi (Nat.not_lt_zero _)
  · exact absurd hi (Nat.not_lt_zero _)
  · exact absurd hi (Nat.not_lt_zero _)
  · exact absurd hi (Nat.not_lt_zero _)
  · exact absurd hi (Nat.not_lt_zero _)
  · exact absurd hi (Nat.not_lt_zero _)
  · exact absurd hi (Nat.not_lt_zero _)
  · exact absurd hi (Nat.not_lt_zero _)
  · exact absurd hi (Nat.not_lt_zero _)
  · exact absurd hi (Nat.not_lt_zero _)
  · exact absurd hi (Nat.not_lt_zero _)
  · exact absurd hi (Nat.not_lt_zero _)
  · exact absurd hi (Nat.not_lt_zero _)
  · exact absurd hi (Nat.not_lt_zero _)
  · exact absurd hi (Nat.not_lt_zero _)
  · exact absurd hi (Nat.not_lt_zero _)
set_option maxRecDepth 20000 in
theorem W0_km {cy : Nat → ClassId} {a b : Nat} {z1 z2 aK aV : Nat → Nat} {tK : Nat} : ∀ f i, f < 64 → i < nM f → ∃ e, (WS0 cy a b z1 z2)[pos0 f i]? = some ((ad0 a b z1 z2 aK aV tK) f i, e) := by
  intro f i hf hi
  rcases (show f = 0 ∨ f = 1 ∨ f = 2 ∨ f = 3 ∨ f = 4 ∨ f = 5 ∨ f = 6 ∨ f = 7 ∨ f = 8 ∨ f = 9 ∨ f = 10 ∨ f = 11 ∨ f = 12 ∨ f = 13 ∨ f = 14 ∨ f = 15 ∨ f = 16 ∨ f = 17 ∨ f = 18 ∨ f = 19 ∨ f = 20 ∨ f = 21 ∨ f = 22 ∨ f = 23 ∨ f = 24 ∨ f = 25 ∨ f = 26 ∨ f = 27 ∨ f = 28 ∨ f = 29 ∨ f = 30 ∨ f = 31 ∨ f = 32 ∨ f = 33 ∨ f = 34 ∨ f = 35 ∨ f = 36 ∨ f = 37 ∨ f = 38 ∨ f = 39 ∨ f = 40 ∨ f = 41 ∨ f = 42 ∨ f = 43 ∨ f = 44 ∨ f = 45 ∨ f = 46 ∨ f = 47 ∨ f = 48 ∨ f = 49 ∨ f = 50 ∨ f = 51 ∨ f = 52 ∨ f = 53 ∨ f = 54 ∨ f = 55 ∨ f = 56 ∨ f = 57 ∨ f = 58 ∨ f = 59 ∨ f = 60 ∨ f = 61 ∨ f = 62 ∨ f = 63 by omega) with rfl | rfl | rfl | rfl | rfl | rfl | rfl | rfl | rfl | rfl | rfl | rfl | rfl | rfl | rfl | rfl | rfl | rfl | rfl | rfl | rfl | rfl | rfl | rfl | rfl | rfl | rfl | rfl | rfl | rfl | rfl | rfl | rfl | rfl | rfl | rfl | rfl | rfl | rfl | rfl | rfl | rfl | rfl | rfl | rfl | rfl | rfl | rfl | rfl | rfl | rfl | rfl | rfl | rfl | rfl | rfl | rfl | rfl | rfl | rfl | rfl | rfl | rfl | rfl
  · exact absurd hi (Nat.not_lt_zero _)
  · exact absurd hi (Nat.not_lt_zero _)
  · exact absurd hi (Nat.not_lt_zero _)
  · exact absurd hi (Nat.not_lt_zero _)
  · exact absurd hi (Nat.not_lt_zero _)
  · exact absurd hi (Nat.not_lt_zero _)
  · exact absurd hi (Nat.not_lt_zero _)
  · exact absurd hi (Nat.not_lt_zero _)
  · have hi : i < 1 := hi
    rcases (show i = 0 by omega) with rfl
    · exact ⟨_, rfl⟩
  · exact absurd hi (Nat.not_lt_zero _)
  · exact absurd hi (Nat.not_lt_zero _)
  · exact absurd hi (Nat.not_lt_zero _)
  · exact absurd hi (Nat.not_lt_zero _)
  · exact absurd hi (Nat.not_lt_zero _)
  · exact absurd hi (Nat.not_lt_zero _)
  · exact absurd hi (Nat.not_lt_zero _)
  · exact absurd hi (Nat.not_lt_zero _)
  · exact absurd hi (Nat.not_lt_zero _)
  · exact absurd hi (Nat.not_lt_zero _)
  · exact absurd hi (Nat.not_lt_zero _)
  · exact absurd hi (Nat.not_lt_zero _)
  · exact absurd hi (Nat.not_lt_zero _)
  · have hi : i < 1 := hi
    rcases (show i = 0 by omega) with rfl
    · exact ⟨_, rfl⟩
  · have hi : i < 1 := hi
    rcases (show i = 0 by omega) with rfl
    · exact ⟨_, rfl⟩
  · have hi : i < 1 := hi
    rcases (show i = 0 by omega) with rfl
    · exact ⟨_, rfl⟩
  · have hi : i < 1 := hi
    rcases (show i = 0 by omega) with rfl
    · exact ⟨_, rfl⟩
  · have hi : i < 1 := hi
    rcases (show i = 0 by omega) with rfl
    · exact ⟨_, rfl⟩
  · have hi : i < 1 := hi
    rcases (show i = 0 by omega) with rfl
    · exact ⟨_, rfl⟩
  · have hi : i < 1 := hi
    rcases (show i = 0 by omega) with rfl
    · exact ⟨_, rfl⟩
  · have hi : i < 1 := hi
    rcases (show i = 0 by omega) with rfl
    · exact ⟨_, rfl⟩
  · have hi : i < 1 := hi
    rcases (show i = 0 by omega) with rfl
    · exact ⟨_, rfl⟩
  · have hi : i < 1 := hi
    rcases (show i = 0 by omega) with rfl
    · exact ⟨_, rfl⟩
  · have hi : i < 1 := hi
    rcases (show i = 0 by omega) with rfl
    · exact ⟨_, rfl⟩
  · have hi : i < 1 := hi
    rcases (show i = 0 by omega) with rfl
    · exact ⟨_, rfl⟩
  · have hi : i < 1 := hi
    rcases (show i = 0 by omega) with rfl
    · exact ⟨_, rfl⟩
  · have hi : i < 1 := hi
    rcases (show i = 0 by omega) with rfl
    · exact ⟨_, rfl⟩
  · have hi : i < 1 := hi
    rcases (show i = 0 by omega) with rfl
    · exact ⟨_, rfl⟩
  · have hi : i < 1 := hi
    rcases (show i = 0 by omega) with rfl
    · exact ⟨_, rfl⟩
  · have hi : i < 1 := hi
    rcases (show i = 0 by omega) with rfl
    · exact ⟨_, rfl⟩
  · have hi : i < 1 := hi
    rcases (show i = 0 by omega) with rfl
    · exact ⟨_, rfl⟩
  · have hi : i < 1 := hi
    rcases (show i = 0 by omega) with rfl
    · exact ⟨_, rfl⟩
  · have hi : i < 1 := hi
    rcases (show i = 0 by omega) with rfl
    · exact ⟨_, rfl⟩
  · have hi : i < 1 := hi
    rcases (show i = 0 by omega) with rfl
    · exact ⟨_, rfl⟩
  · have hi : i < 1 := hi
    rcases (show i = 0 by omega) with rfl
    · exact ⟨_, rfl⟩
  · have hi : i < 1 := hi
    rcases (show i = 0 by omega) with rfl
    · exact ⟨_, rfl⟩
  · have hi : i < 1 := hi
    rcases (show i = 0 by omega) with rfl
    · exact ⟨_, rfl⟩
  · have hi : i < 1 := hi
    rcases (show i = 0 by omega) with rfl
    · exact ⟨_, rfl⟩
  · have hi : i < 1 := hi
    rcases (show i = 0 by omega) with rfl
    · exact ⟨_, rfl⟩
  · have hi : i < 1 := hi
    rcases (show i = 0 by omega) with rfl
    · exact ⟨_, rfl⟩
  · have hi : i < 1 := hi
    rcases (show i = 0 by omega) with rfl
    · exact ⟨_, rfl⟩
  · have hi : i < 1 := hi
    rcases (show i = 0 by omega) with rfl
    · exact ⟨_, rfl⟩
  · have hi : i < 1 := hi
    rcases (show i = 0 by omega) with rfl
    · exact ⟨_, rfl⟩
  · have hi : i < 1 := hi
    rcases (show i = 0 by omega) with rfl
    · exact ⟨_, rfl⟩
  · have hi : i < 1 := hi
    rcases (show i = 0 by omega) with rfl
    · exact ⟨_, rfl⟩
  · have hi : i < 1 := hi
    rcases (show i = 0 by omega) with rfl
    · exact ⟨_, rfl⟩
  · have hi : i < 1 := hi
    rcases (show i = 0 by omega) with rfl
    · exact ⟨_, rfl⟩
  · have hi : i < 1 := hi
    rcases (show i = 0 by omega) with rfl
    · exact ⟨_, rfl⟩
  · exact absurd hi (Nat.not_lt_zero _)
  · exact absurd hi (Nat.not_lt_zero _)
  · exact absurd hi (Nat.not_lt_zero _)
  · exact absurd hi (Nat.not_lt_zero _)
  · exact absurd hi (Nat.not_lt_zero _)
  · exact absurd hi (Nat.not_lt_zero _)
  · exact absurd hi (Nat.not_lt_zero _)
/-! what lies outside: strings, static fields, at the start -/
def tmK (i : Nat) : Term := .string RX1 (([75, 77, 79, 81, 89, 97] : List Nat).getD i 0)
theorem EX_start {args : Array Value} {s : State} (hts : ∀ w ∈ lw_tbl, w.before args s = true) (hgv : (Jvm.Cond.and given_1 narrow_1).before args s = true) : ∃ (aK aV : Nat → Nat) (tK : Nat), ∀ ad : Nat → Nat → Nat, ad 19 = aK → ad 20 = aV → ad 21 0 = tK → EX ad (lwB s) s s.heap := by
  have hs := flat_of_before _ hgv
  have hA : ∀ a : Nat, a < s.heap.size → ¬ lwB s a := fun a h => Nat.not_le.mpr h
  have f1 : ∀ i, i < 6 → Cond.exactly (tmK i) "java/lang/String" ∈ flatC (Jvm.Cond.and given_1 narrow_1) := by decide +kernel
  have f2 : ∀ i, i < 6 → Cond.eq (.field (tmK i) "java/lang/String" "coder" "B") (.int 0) ∈ flatC (Jvm.Cond.and given_1 narrow_1) := by decide +kernel
  have f3 : ∀ i, i < 6 → Cond.arrayOf (.field (tmK i) "java/lang/String" "value" "[B") .byte ∈ flatC (Jvm.Cond.and given_1 narrow_1) := by decide +kernel
  have f4 : ∀ i, i < 6 → Cond.eq (.length (.field (tmK i) "java/lang/String" "value" "[B")) (.int (Int32.ofNat (lenK.getD i 0))) ∈ flatC (Jvm.Cond.and given_1 narrow_1) := by decide +kernel
  have f5 : ∀ i, i < 6 → ∀ j, j < lenK.getD i 0 → Cond.eq (.elem (.field (tmK i) "java/lang/String" "value" "[B") (.int (Int32.ofNat j))) (.int ((bytK.getD i []).getD j 0)) ∈ flatC (Jvm.Cond.and given_1 narrow_1) := by decide +kernel
  have f6 : ∀ i, i < 6 → ∀ j, j < 6 → i ≠ j → Cond.not (Cond.eq (tmK i) (tmK j)) ∈ flatC (Jvm.Cond.and given_1 narrow_1) ∨ Cond.not (Cond.eq (tmK j) (tmK i)) ∈ flatC (Jvm.Cond.and given_1 narrow_1) := by decide +kernel
  have f0 : ∀ i, i < 6 → lenK.getD i 0 < 2 ^ 31 := by decide +kernel
  obtain ⟨aK, aV, hS, hE⟩ := vk_Sof (args := args) (s := s) (N := 6) (tm := tmK) (len := lenK) (byt := bytK) (A := lwB s) f0 (fun i hi => hs _ (f1 i hi)) (fun i hi => hs _ (f2 i hi)) (fun i hi => hs _ (f3 i hi)) (fun i hi => hs _ (f4 i hi)) (fun i hi j hj => hs _ (f5 i hi j hj)) (fun i j hi hj hne => (f6 i hi j hj hne).imp (fun h => hs _ h) (fun h => hs _ h)) hA
  have g1 : Cond.arrayOf (.static RX7 "KIND_ABOVE" "[I") .int ∈ flatC (Jvm.Cond.and given_1 narrow_1) := by decide +kernel
  have g2 : Cond.eq (.length (.static RX7 "KIND_ABOVE" "[I")) (.int (Int32.ofNat 7)) ∈ flatC (Jvm.Cond.and given_1 narrow_1) := by decide +kernel
  have g3 : ∀ j, j < 7 → Cond.eq (.elem (.static RX7 "KIND_ABOVE" "[I") (.int (Int32.ofNat j))) (.int (kaK.getD j 0)) ∈ flatC (Jvm.Cond.and given_1 narrow_1) := by decide +kernel
  have g4 : Cond.eq (.static RJ0 "COMPACT_STRINGS" "Z") (.int 1) ∈ flatC (Jvm.Cond.and given_1 narrow_1) := by decide +kernel
  have g5 : Cond.isRef (.static "jdk/internal/util/Preconditions" "SIOOBE_FORMATTER" "Ljava/util/function/BiFunction;") ∈ flatC (Jvm.Cond.and given_1 narrow_1) := by decide +kernel
  obtain ⟨tK, ht, hT⟩ := va_Tof (args := args) (s := s) (tm := .static RX7 "KIND_ABOVE" "[I") (ty := .int) (N := 7) (f := fun j => .int (kaK.getD j 0)) (A := lwB s) (by decide) (hs _ g1) (va_eqt (hs _ g2)) (fun j hj => va_eqt (hs _ (g3 j hj))) hA
  refine ⟨aK, aV, tK, fun ad e1 e2 e3 => ?_⟩
  unfold EX
  rw [e1, e2, e3]
  exact ⟨va_Zref (hts _ (inT 733 (by decide +kernel))) (hts _ (inT 1 (by decide +kernel))) ht hA, hT, va_Zof (hts _ (inT 363 (by decide +kernel))) (hts _ (inT 12 (by decide +kernel))) (va_eqi (hs _ g4)) hA, va_Zqof (hts _ (inT 379 (by decide +kernel))) (hts _ (inT 14 (by decide +kernel))) (hs _ g5) hA, hS,
    vk_R.of (hts _ (inT 346 (by decide +kernel))) (hE 0 (by decide)), vk_R.of (hts _ (inT 347 (by decide +kernel))) (hE 1 (by decide)), vk_R.of (hts _ (inT 348 (by decide +kernel))) (hE 2 (by decide)), vk_R.of (hts _ (inT 349 (by decide +kernel))) (hE 3 (by decide)), vk_R.of (hts _ (inT 430 (by decide +kernel))) (hE 4 (by decide)), vk_R.of (hts _ (inT 486 (by decide +kernel))) (hE 5 (by decide))⟩
/-! the classes and the classes of arrays, at the start -/
theorem K_start {args : Array Value} {s : State} (hts : ∀ w ∈ lw_tbl, w.before args s = true) : ∃ (D : va_G) (cy : Nat → ClassId), va_K D vwCl (tyl cy) s ∧ KAO true s := by
  obtain ⟨c0, iS0, h0⟩ := u_known (C := RX0) (T := TX0) (N := 4) (n := 4) hts inX0 (hts _ (inT 27 (by decide +kernel)))
  obtain ⟨c1, iS1, h1⟩ := u_known (C := RX1) (T := TX1) (N := 4) (n := 4) hts inX1 (hts _ (inT 183 (by decide +kernel)))
  obtain ⟨c2, iS2, h2⟩ := u_known (C := RX2) (T := TX2) (N := 3) (n := 3) hts inX2 (hts _ (inT 60 (by decide +kernel)))
  obtain ⟨c3, iS3, h3⟩ := u_known (C := RX3) (T := TX3) (N := 10) (n := 10) hts inX3 (hts _ (inT 97 (by decide +kernel)))
  obtain ⟨c4, iS4, h4⟩ := u_known (C := RX4) (T := TX4) (N := 3) (n := 3) hts inX4 (hts _ (inT 79 (by decide +kernel)))
  obtain ⟨c5, iS5, h5⟩ := u_known (C := RX5) (T := TX5) (N := 9) (n := 9) hts inX5 (hts _ (inT 52 (by decide +kernel)))
  obtain ⟨c6, iS6, h6⟩ := u_known (C := RX6) (T := TX6) (N := 3) (n := 3) hts inX6 (hts _ (inT 208 (by decide +kernel)))
  obtain ⟨c7, iS7, h7⟩ := u_known (C := RX7) (T := TX7) (N := 11) (n := 11) hts inX7 (hts _ (inT 19 (by decide +kernel)))
  obtain ⟨c8, iS8, h8⟩ := u_known (C := RX8) (T := TX8) (N := 71) (n := 71) hts inX8 (hts _ (inT 767 (by decide +kernel)))
  have aI := hts (.arrayClass .int) (inT 50 (by decide +kernel))
  have aB := hts (.arrayClass .byte) (inT 204 (by decide +kernel))
  have aZ := hts (.arrayClass .boolean) (inT 986 (by decide +kernel))
  have aJ := hts (.arrayClass .long) (inT 226 (by decide +kernel))
  have o0 : va_AO RX0 s := va_AO.of (hts (.arrayOver (.object RX0)) (inT 205 (by decide +kernel)))
  have o3 : va_AO RX3 s := va_AO.of (hts (.arrayOver (.object RX3)) (inT 58 (by decide +kernel)))
  have o6 : va_AO RX6 s := va_AO.of (hts (.arrayOver (.object RX6)) (inT 207 (by decide +kernel)))
  have prim : ∀ ty : FieldType, (Cond.arrayClass ty).before args s = true → (∀ C, ty ≠ .object C) → ∃ cA, ArrOfT s cA ty ∧ va_RA s cA ty := by
    intro ty h hne
    obtain ⟨cA, kA, comp, q1, q2, q3⟩ := Cond.arrayClass_spec h
    refine ⟨cA, fun n z => ⟨fun k h => (by cases h), kA, q2, comp, q3⟩, ?_⟩
    cases ty with
    | object C => exact absurd rfl (hne C)
    | _ => exact q1
  have obj : ∀ C : String, va_AO C s → ∃ cA, ArrOfT s cA (.object C) ∧ va_RA s cA (.object C) := by
    intro C h
    obtain ⟨comp, cA, kA, q1, q2, q3, q4, q5⟩ := Cond.arrayOver_spec h
    exact ⟨cA, fun n z => ⟨fun k h => (by cases h), kA, q3, comp, q4⟩, kA, comp, q3, q4, q1, q5⟩
  obtain ⟨d0, e0⟩ := prim .int aI (fun C h => by cases h)
  obtain ⟨d1, e1⟩ := prim .byte aB (fun C h => by cases h)
  obtain ⟨d2, e2⟩ := prim .boolean aZ (fun C h => by cases h)
  obtain ⟨d3, e3⟩ := prim .long aJ (fun C h => by cases h)
  obtain ⟨d4, e4⟩ := obj RX0 o0
  obtain ⟨d5, e5⟩ := obj RX3 o3
  obtain ⟨d6, e6⟩ := obj RX6 o6
  refine ⟨(fun k => match k with | 0 => c0 | 1 => c1 | 2 => c2 | 3 => c3 | 4 => c4 | 5 => c5 | 6 => c6 | 7 => c7 | _ => c8, fun k => match k with | 0 => iS0 | 1 => iS1 | 2 => iS2 | 3 => iS3 | 4 => iS4 | 5 => iS5 | 6 => iS6 | 7 => iS7 | _ => iS8), fun k => match k with | 0 => d0 | 1 => d1 | 2 => d2 | 3 => d3 | 4 => d4 | 5 => d5 | _ => d6, ⟨?_, ?_⟩, fun _ => ⟨o0, o3, o6⟩⟩
  · intro k q hq
    match k, hq with
    | 0, hq => cases hq; exact h0
    | 1, hq => cases hq; exact h1
    | 2, hq => cases hq; exact h2
    | 3, hq => cases hq; exact h3
    | 4, hq => cases hq; exact h4
    | 5, hq => cases hq; exact h5
    | 6, hq => cases hq; exact h6
    | 7, hq => cases hq; exact h7
    | 8, hq => cases hq; exact h8
    | k + 9, hq => simp [vwCl] at hq
  · intro k q hq
    match k, hq with
    | 0, hq => cases hq; exact e0
    | 1, hq => cases hq; exact e1
    | 2, hq => cases hq; exact e2
    | 3, hq => cases hq; exact e3
    | 4, hq => cases hq; exact e4
    | 5, hq => cases hq; exact e5
    | 6, hq => cases hq; exact e6
    | k + 7, hq => simp [tyl] at hq
theorem LJ_start {cy : Nat → ClassId} {a b : Nat} {z1 z2 aK aV : Nat → Nat} {tK : Nat} {s : State} (hD : va_D (lwB s) (WS0 cy a b z1 z2)) (hE : EX (ad0 a b z1 z2 aK aV tK) (lwB s) s s.heap) : LJ (ad0 a b z1 z2 aK aV tK) 0 s := by
  have n1 : ∀ f, nX 0 f ≤ 16 := by intro f; unfold nX; split <;> decide
  have n2 : ∀ f, nM f ≤ 16 := by intro f; unfold nM; split <;> decide
  have at' : ∀ f i, f < 64 → (i < nX 0 f ∨ i < nM f) → ∃ e, (WS0 cy a b z1 z2)[pos0 f i]? = some (ad0 a b z1 z2 aK aV tK f i, e) := by
    intro f i hf h
    rcases h with h | h
    · exact W0_kx f i hf h
    · exact W0_km f i hf h
  have inj : ∀ f i f' i', f < 64 → f' < 64 → (i < nX 0 f ∨ i < nM f) → (i' < nX 0 f' ∨ i' < nM f') → ad0 a b z1 z2 aK aV tK f i = ad0 a b z1 z2 aK aV tK f' i' → f = f' ∧ i = i' := by
    intro f i f' i' hf hf' h h' he
    obtain ⟨e, q⟩ := at' f i hf h
    obtain ⟨e', q'⟩ := at' f' i' hf' h'
    have hp := hD.1 _ _ _ _ q q' he
    have l1 : i < 16 := h.elim (fun h => Nat.lt_of_lt_of_le h (n1 f)) (fun h => Nat.lt_of_lt_of_le h (n2 f))
    have l2 : i' < 16 := h'.elim (fun h => Nat.lt_of_lt_of_le h (n1 f')) (fun h => Nat.lt_of_lt_of_le h (n2 f'))
    have q1 := inv_pos f hf i l1 h
    have q2 := inv_pos f' hf' i' l2 h'
    rw [hp, q2] at q1
    exact ⟨(congrArg Prod.fst q1).symm, (congrArg Prod.snd q1).symm⟩
  have big : ∀ f i, f < 64 → (i < nX 0 f ∨ i < nM f) → s.heap.size ≤ ad0 a b z1 z2 aK aV tK f i := by
    intro f i hf h
    obtain ⟨e, q⟩ := at' f i hf h
    exact hD.2 _ _ q
  refine ⟨⟨n1, fun f i f' i' hf hf' hi hi' he => inj f i f' i' hf hf' (Or.inl hi) (Or.inl hi') he⟩, ⟨n2, fun f i f' i' hf hf' hi hi' he => inj f i f' i' hf hf' (Or.inr hi) (Or.inr hi') he⟩, fun f i f' i' hf hi hf' hi' he => ?_, fun f i hf hi => big f i hf (Or.inl hi), fun f i hf hi => big f i hf (Or.inr hi), hE⟩
  obtain ⟨rfl, rfl⟩ := inj f i f' i' hf hf' (Or.inl hi) (Or.inr hi') he
  have hno : ∀ f, f < 64 → nX 0 f = 0 ∨ nM f = 0 := by decide +kernel
  rcases hno f hf with h | h
  · rw [h] at hi; exact absurd hi (Nat.not_lt_zero _)
  · rw [h] at hi'; exact absurd hi' (Nat.not_lt_zero _)
set_option maxRecDepth 20000 in
set_option maxHeartbeats 4000000 in
theorem whole_start {p : Program} {e : Env} {s : State} {m : MethodId} {below : List Frame} {meth : Method} {c : Code} (l : Launch) (hflags : l.flags = flags0) {b0 L : Nat} {xs : Nat → Int32} (hL : L ≤ 3072) (C0 : lw_At p s m meth c b0 L xs) : W p l e room_1 s m #[Value.ref b0] below meth c s.heap [] 0 0 (lw_Z below #[Value.ref b0] s) (entryFrame m ([Value.ref b0] : List Value).toArray 4) := by
  obtain ⟨hx, hb, hr, hml, hown, hts, hX, hbl, hlocks, hgv⟩ := id C0
  obtain ⟨D, cy, hK, hO⟩ := K_start hts
  obtain ⟨aK, aV, tK, hE⟩ := EX_start hts hgv
  have ck : CK true p room_1 s m meth c #[Value.ref b0] cL_law RL 4 D cy (lwB s) := ⟨hx, hb, hml, hown, fun w hw => hts w (List.mem_filter.mp hw).1, hK, fun q h => h, hO⟩
  have tk : TK p l e room_1 s m #[Value.ref b0] below meth c D (lwB s) (lw_Z below #[Value.ref b0] s) 0 0 [] 0 [(0, .ref b0)] [] := by
    refine K_new (q := 3) (f := 7) (N := 11) (C := RX7) (T := TX7) (ty := tyX7) (fs := [.null, .null, .null, .null, .null, .null, .null, .null, .int (0 : Int32), .int (0 : Int32), .int (0 : Int32)]) ck dL_law_0 rfl rfl (fun w h => cf_7.2.1 w h) tyX7_ok ⟨inG (inT 18 (by decide +kernel)) rfl, inG (inT 19 (by decide +kernel)) rfl, inG (inT 1 (by decide +kernel)) rfl⟩ (by decide +kernel) ⟨Nat.le_of_ble_eq_true rfl, Nat.le_of_ble_eq_true rfl⟩ (fun a => ?_)
    refine K_dup (q := 4) ck dL_law_3 rfl rfl ?_
    refine K_call (q := 7) (d' := 3) (mc := 68) (ms := 911) (As := []) (rest := [.ref a]) (wr := []) (ws' := fun z1 => [(a, .inr (7, [.ref (z1 0), .ref (z1 2), .ref (z1 26), .ref (z1 50), .ref (z1 51), .ref (z1 53), .ref (z1 54), .ref (z1 55), .int (0 : Int32), .int (0 : Int32), .int (0 : Int32)])), (z1 0, .inr (0, [.ref (z1 1), .int (0 : Int32), .int (400 : Int32), .int (80 : Int32)])), (z1 1, .inl (cy 0, (100, .inl (fun _ => 0)))), (z1 2, .inr (5, [.ref (z1 3), .ref (z1 4), .ref (z1 5), .ref (z1 8), .ref (z1 11), .int (0 : Int32), .int (-5 : Int32), .int (60 : Int32), .ref (z1 0)])), (z1 3, .inl (cy 5, (6, .inr (.inr (.inr (.inr (va_up (va_up (va_up (va_up (va_up (va_up (fun _ => none) 0 (some (z1 14))) 1 (some (z1 16))) 2 (some (z1 18))) 3 (some (z1 20))) 4 (some (z1 22))) 5 (some (z1 24))))))))), (z1 4, .inr (2, [.int (0 : Int32), .int (100 : Int32), .int (0 : Int32)])), (z1 5, .inr (4, [.ref (z1 6), .ref (z1 7), .int (0 : Int32)])), (z1 6, .inl (cy 0, (4, .inl (fun _ => 0)))), (z1 7, .inl (cy 0, (4, .inl (fun _ => 0)))), (z1 8, .inr (4, [.ref (z1 9), .ref (z1 10), .int (0 : Int32)])), (z1 9, .inl (cy 0, (5, .inl (fun _ => 0)))), (z1 10, .inl (cy 0, (5, .inl (fun _ => 0)))), (z1 11, .inr (4, [.ref (z1 12), .ref (z1 13), .int (0 : Int32)])), (z1 12, .inl (cy 0, (8, .inl (fun _ => 0)))), (z1 13, .inl (cy 0, (8, .inl (fun _ => 0)))), (z1 14, .inr (3, [.int (0 : Int32), .ref (z1 15), .int (0 : Int32), .int (0 : Int32), .int (0 : Int32), .int (0 : Int32), .null, .int (0 : Int32), .int (0 : Int32), .int (0 : Int32)])), (z1 15, .inl (cy 0, (4, .inl (fun _ => 0)))), (z1 16, .inr (3, [.int (1 : Int32), .ref (z1 17), .int (0 : Int32), .int (0 : Int32), .int (0 : Int32), .int (0 : Int32), .null, .int (0 : Int32), .int (0 : Int32), .int (0 : Int32)])), (z1 17, .inl (cy 0, (4, .inl (fun _ => 0)))), (z1 18, .inr (3, [.int (2 : Int32), .ref (z1 19), .int (0 : Int32), .int (0 : Int32), .int (0 : Int32), .int (0 : Int32), .null, .int (0 : Int32), .int (0 : Int32), .int (0 : Int32)])), (z1 19, .inl (cy 0, (4, .inl (fun _ => 0)))), (z1 20, .inr (3, [.int (3 : Int32), .ref (z1 21), .int (0 : Int32), .int (0 : Int32), .int (0 : Int32), .int (0 : Int32), .null, .int (0 : Int32), .int (0 : Int32), .int (0 : Int32)])), (z1 21, .inl (cy 0, (4, .inl (fun _ => 0)))), (z1 22, .inr (3, [.int (4 : Int32), .ref (z1 23), .int (0 : Int32), .int (0 : Int32), .int (0 : Int32), .int (0 : Int32), .null, .int (0 : Int32), .int (0 : Int32), .int (0 : Int32)])), (z1 23, .inl (cy 0, (4, .inl (fun _ => 0)))), (z1 24, .inr (3, [.int (5 : Int32), .ref (z1 25), .int (0 : Int32), .int (0 : Int32), .int (0 : Int32), .int (0 : Int32), .null, .int (0 : Int32), .int (0 : Int32), .int (0 : Int32)])), (z1 25, .inl (cy 0, (4, .inl (fun _ => 0)))), (z1 26, .inr (5, [.ref (z1 27), .ref (z1 28), .ref (z1 29), .ref (z1 32), .ref (z1 35), .int (0 : Int32), .int (-5 : Int32), .int (60 : Int32), .ref (z1 0)])), (z1 27, .inl (cy 5, (6, .inr (.inr (.inr (.inr (va_up (va_up (va_up (va_up (va_up (va_up (fun _ => none) 0 (some (z1 38))) 1 (some (z1 40))) 2 (some (z1 42))) 3 (some (z1 44))) 4 (some (z1 46))) 5 (some (z1 48))))))))), (z1 28, .inr (2, [.int (0 : Int32), .int (100 : Int32), .int (0 : Int32)])), (z1 29, .inr (4, [.ref (z1 30), .ref (z1 31), .int (0 : Int32)])), (z1 30, .inl (cy 0, (4, .inl (fun _ => 0)))), (z1 31, .inl (cy 0, (4, .inl (fun _ => 0)))), (z1 32, .inr (4, [.ref (z1 33), .ref (z1 34), .int (0 : Int32)])), (z1 33, .inl (cy 0, (5, .inl (fun _ => 0)))), (z1 34, .inl (cy 0, (5, .inl (fun _ => 0)))), (z1 35, .inr (4, [.ref (z1 36), .ref (z1 37), .int (0 : Int32)])), (z1 36, .inl (cy 0, (8, .inl (fun _ => 0)))), (z1 37, .inl (cy 0, (8, .inl (fun _ => 0)))), (z1 38, .inr (3, [.int (0 : Int32), .ref (z1 39), .int (0 : Int32), .int (0 : Int32), .int (0 : Int32), .int (0 : Int32), .null, .int (0 : Int32), .int (0 : Int32), .int (0 : Int32)])), (z1 39, .inl (cy 0, (4, .inl (fun _ => 0)))), (z1 40, .inr (3, [.int (1 : Int32), .ref (z1 41), .int (0 : Int32), .int (0 : Int32), .int (0 : Int32), .int (0 : Int32), .null, .int (0 : Int32), .int (0 : Int32), .int (0 : Int32)])), (z1 41, .inl (cy 0, (4, .inl (fun _ => 0)))), (z1 42, .inr (3, [.int (2 : Int32), .ref (z1 43), .int (0 : Int32), .int (0 : Int32), .int (0 : Int32), .int (0 : Int32), .null, .int (0 : Int32), .int (0 : Int32), .int (0 : Int32)])), (z1 43, .inl (cy 0, (4, .inl (fun _ => 0)))), (z1 44, .inr (3, [.int (3 : Int32), .ref (z1 45), .int (0 : Int32), .int (0 : Int32), .int (0 : Int32), .int (0 : Int32), .null, .int (0 : Int32), .int (0 : Int32), .int (0 : Int32)])), (z1 45, .inl (cy 0, (4, .inl (fun _ => 0)))), (z1 46, .inr (3, [.int (4 : Int32), .ref (z1 47), .int (0 : Int32), .int (0 : Int32), .int (0 : Int32), .int (0 : Int32), .null, .int (0 : Int32), .int (0 : Int32), .int (0 : Int32)])), (z1 47, .inl (cy 0, (4, .inl (fun _ => 0)))), (z1 48, .inr (3, [.int (5 : Int32), .ref (z1 49), .int (0 : Int32), .int (0 : Int32), .int (0 : Int32), .int (0 : Int32), .null, .int (0 : Int32), .int (0 : Int32), .int (0 : Int32)])), (z1 49, .inl (cy 0, (4, .inl (fun _ => 0)))), (z1 50, .inr (2, [.int (0 : Int32), .int (100 : Int32), .int (0 : Int32)])), (z1 51, .inr (1, [.ref (z1 52), .int (0 : Int32), .int (0 : Int32), .ref (z1 0)])), (z1 52, .inl (cy 1, (100, .inl (fun _ => 0)))), (z1 53, .inl (cy 4, (6, .inr (.inr (.inr (.inr (fun _ => none))))))), (z1 54, .inl (cy 0, (20, .inl (fun _ => 0)))), (z1 55, .inl (cy 6, (6, .inr (.inr (.inr (.inr (va_up (va_up (va_up (va_up (va_up (va_up (fun _ => none) 0 (some (z1 56))) 1 (some (z1 58))) 2 (some (z1 60))) 3 (some (z1 62))) 4 (some (z1 64))) 5 (some (z1 66))))))))), (z1 56, .inr (6, [.ref (z1 57), .int (-1 : Int32), .int (0 : Int32)])), (z1 57, .inl (cy 3, (60, .inr (.inl (fun _ => 0))))), (z1 58, .inr (6, [.ref (z1 59), .int (-1 : Int32), .int (0 : Int32)])), (z1 59, .inl (cy 3, (60, .inr (.inl (fun _ => 0))))), (z1 60, .inr (6, [.ref (z1 61), .int (-1 : Int32), .int (0 : Int32)])), (z1 61, .inl (cy 3, (60, .inr (.inl (fun _ => 0))))), (z1 62, .inr (6, [.ref (z1 63), .int (-1 : Int32), .int (0 : Int32)])), (z1 63, .inl (cy 3, (60, .inr (.inl (fun _ => 0))))), (z1 64, .inr (6, [.ref (z1 65), .int (-1 : Int32), .int (0 : Int32)])), (z1 65, .inl (cy 3, (60, .inr (.inl (fun _ => 0))))), (z1 66, .inr (6, [.ref (z1 67), .int (-1 : Int32), .int (0 : Int32)])), (z1 67, .inl (cy 3, (60, .inr (.inl (fun _ => 0)))))]) ck [0] [] dL_law_4 rfl rfl ⟨inG (inT 20 (by decide +kernel)) rfl, kw_X7⟩ rfl (Nat.le_of_ble_eq_true rfl) ⟨Nat.le_of_ble_eq_true rfl, Nat.le_of_ble_eq_true rfl⟩ ⟨Nat.le_of_ble_eq_true rfl, Nat.le_of_ble_eq_true rfl⟩ (n_X7 l D cy a) rfl rfl rfl rfl (by decide) (fun _ => rfl) (fun z1 => ?_)
    refine K_astore_n (q := 8) (ls' := [(1, .ref a), (0, .ref b0)]) ck dL_law_7 rfl rfl (Nat.le_of_ble_eq_true rfl) rfl ?_
    refine K_new (q := 11) (f := 8) (N := 71) (C := RX8) (T := TX8) (ty := tyX8) (fs := [.int (0 : Int32), .int (0 : Int32), .int (0 : Int32), .int (0 : Int32), .int (0 : Int32), .int (0 : Int32), .null, .null, .null, .null, .null, .int (0 : Int32), .int (0 : Int32), .int (0 : Int32), .int (0 : Int32), .int (0 : Int32), .null, .null, .null, .null, .null, .null, .null, .null, .int (0 : Int32), .int (0 : Int32), .int (0 : Int32), .null, .null, .int (0 : Int32), .int (0 : Int32), .int (0 : Int32), .int (0 : Int32), .int (0 : Int32), .int (0 : Int32), .int (0 : Int32), .int (0 : Int32), .null, .null, .int (0 : Int32), .null, .int (0 : Int32), .null, .null, .int (0 : Int32), .int (0 : Int32), .int (0 : Int32), .int (0 : Int32), .int (0 : Int32), .int (0 : Int32), .int (0 : Int32), .int (0 : Int32), .int (0 : Int32), .int (0 : Int32), .int (0 : Int32), .null, .null, .null, .null, .null, .null, .null, .null, .null, .null, .int (0 : Int32), .null, .null, .null, .null, .null]) ck dL_law_8 rfl rfl (fun w h => cf_8.2.1 w h) tyX8_ok ⟨inG (inT 766 (by decide +kernel)) rfl, inG (inT 767 (by decide +kernel)) rfl, inG (inT 9 (by decide +kernel)) rfl⟩ (by decide +kernel) ⟨Nat.le_of_ble_eq_true rfl, Nat.le_of_ble_eq_true rfl⟩ (fun b => ?_)
    refine K_dup (q := 12) ck dL_law_11 rfl rfl ?_
    refine K_call (q := 15) (d' := 1) (mc := 35) (ms := 1767) (As := []) (rest := [.ref b]) (wr := [(a, .inr (7, [.ref (z1 0), .ref (z1 2), .ref (z1 26), .ref (z1 50), .ref (z1 51), .ref (z1 53), .ref (z1 54), .ref (z1 55), .int (0 : Int32), .int (0 : Int32), .int (0 : Int32)])), (z1 0, .inr (0, [.ref (z1 1), .int (0 : Int32), .int (400 : Int32), .int (80 : Int32)])), (z1 1, .inl (cy 0, (100, .inl (fun _ => 0)))), (z1 2, .inr (5, [.ref (z1 3), .ref (z1 4), .ref (z1 5), .ref (z1 8), .ref (z1 11), .int (0 : Int32), .int (-5 : Int32), .int (60 : Int32), .ref (z1 0)])), (z1 3, .inl (cy 5, (6, .inr (.inr (.inr (.inr (va_up (va_up (va_up (va_up (va_up (va_up (fun _ => none) 0 (some (z1 14))) 1 (some (z1 16))) 2 (some (z1 18))) 3 (some (z1 20))) 4 (some (z1 22))) 5 (some (z1 24))))))))), (z1 4, .inr (2, [.int (0 : Int32), .int (100 : Int32), .int (0 : Int32)])), (z1 5, .inr (4, [.ref (z1 6), .ref (z1 7), .int (0 : Int32)])), (z1 6, .inl (cy 0, (4, .inl (fun _ => 0)))), (z1 7, .inl (cy 0, (4, .inl (fun _ => 0)))), (z1 8, .inr (4, [.ref (z1 9), .ref (z1 10), .int (0 : Int32)])), (z1 9, .inl (cy 0, (5, .inl (fun _ => 0)))), (z1 10, .inl (cy 0, (5, .inl (fun _ => 0)))), (z1 11, .inr (4, [.ref (z1 12), .ref (z1 13), .int (0 : Int32)])), (z1 12, .inl (cy 0, (8, .inl (fun _ => 0)))), (z1 13, .inl (cy 0, (8, .inl (fun _ => 0)))), (z1 14, .inr (3, [.int (0 : Int32), .ref (z1 15), .int (0 : Int32), .int (0 : Int32), .int (0 : Int32), .int (0 : Int32), .null, .int (0 : Int32), .int (0 : Int32), .int (0 : Int32)])), (z1 15, .inl (cy 0, (4, .inl (fun _ => 0)))), (z1 16, .inr (3, [.int (1 : Int32), .ref (z1 17), .int (0 : Int32), .int (0 : Int32), .int (0 : Int32), .int (0 : Int32), .null, .int (0 : Int32), .int (0 : Int32), .int (0 : Int32)])), (z1 17, .inl (cy 0, (4, .inl (fun _ => 0)))), (z1 18, .inr (3, [.int (2 : Int32), .ref (z1 19), .int (0 : Int32), .int (0 : Int32), .int (0 : Int32), .int (0 : Int32), .null, .int (0 : Int32), .int (0 : Int32), .int (0 : Int32)])), (z1 19, .inl (cy 0, (4, .inl (fun _ => 0)))), (z1 20, .inr (3, [.int (3 : Int32), .ref (z1 21), .int (0 : Int32), .int (0 : Int32), .int (0 : Int32), .int (0 : Int32), .null, .int (0 : Int32), .int (0 : Int32), .int (0 : Int32)])), (z1 21, .inl (cy 0, (4, .inl (fun _ => 0)))), (z1 22, .inr (3, [.int (4 : Int32), .ref (z1 23), .int (0 : Int32), .int (0 : Int32), .int (0 : Int32), .int (0 : Int32), .null, .int (0 : Int32), .int (0 : Int32), .int (0 : Int32)])), (z1 23, .inl (cy 0, (4, .inl (fun _ => 0)))), (z1 24, .inr (3, [.int (5 : Int32), .ref (z1 25), .int (0 : Int32), .int (0 : Int32), .int (0 : Int32), .int (0 : Int32), .null, .int (0 : Int32), .int (0 : Int32), .int (0 : Int32)])), (z1 25, .inl (cy 0, (4, .inl (fun _ => 0)))), (z1 26, .inr (5, [.ref (z1 27), .ref (z1 28), .ref (z1 29), .ref (z1 32), .ref (z1 35), .int (0 : Int32), .int (-5 : Int32), .int (60 : Int32), .ref (z1 0)])), (z1 27, .inl (cy 5, (6, .inr (.inr (.inr (.inr (va_up (va_up (va_up (va_up (va_up (va_up (fun _ => none) 0 (some (z1 38))) 1 (some (z1 40))) 2 (some (z1 42))) 3 (some (z1 44))) 4 (some (z1 46))) 5 (some (z1 48))))))))), (z1 28, .inr (2, [.int (0 : Int32), .int (100 : Int32), .int (0 : Int32)])), (z1 29, .inr (4, [.ref (z1 30), .ref (z1 31), .int (0 : Int32)])), (z1 30, .inl (cy 0, (4, .inl (fun _ => 0)))), (z1 31, .inl (cy 0, (4, .inl (fun _ => 0)))), (z1 32, .inr (4, [.ref (z1 33), .ref (z1 34), .int (0 : Int32)])), (z1 33, .inl (cy 0, (5, .inl (fun _ => 0)))), (z1 34, .inl (cy 0, (5, .inl (fun _ => 0)))), (z1 35, .inr (4, [.ref (z1 36), .ref (z1 37), .int (0 : Int32)])), (z1 36, .inl (cy 0, (8, .inl (fun _ => 0)))), (z1 37, .inl (cy 0, (8, .inl (fun _ => 0)))), (z1 38, .inr (3, [.int (0 : Int32), .ref (z1 39), .int (0 : Int32), .int (0 : Int32), .int (0 : Int32), .int (0 : Int32), .null, .int (0 : Int32), .int (0 : Int32), .int (0 : Int32)])), (z1 39, .inl (cy 0, (4, .inl (fun _ => 0)))), (z1 40, .inr (3, [.int (1 : Int32), .ref (z1 41), .int (0 : Int32), .int (0 : Int32), .int (0 : Int32), .int (0 : Int32), .null, .int (0 : Int32), .int (0 : Int32), .int (0 : Int32)])), (z1 41, .inl (cy 0, (4, .inl (fun _ => 0)))), (z1 42, .inr (3, [.int (2 : Int32), .ref (z1 43), .int (0 : Int32), .int (0 : Int32), .int (0 : Int32), .int (0 : Int32), .null, .int (0 : Int32), .int (0 : Int32), .int (0 : Int32)])), (z1 43, .inl (cy 0, (4, .inl (fun _ => 0)))), (z1 44, .inr (3, [.int (3 : Int32), .ref (z1 45), .int (0 : Int32), .int (0 : Int32), .int (0 : Int32), .int (0 : Int32), .null, .int (0 : Int32), .int (0 : Int32), .int (0 : Int32)])), (z1 45, .inl (cy 0, (4, .inl (fun _ => 0)))), (z1 46, .inr (3, [.int (4 : Int32), .ref (z1 47), .int (0 : Int32), .int (0 : Int32), .int (0 : Int32), .int (0 : Int32), .null, .int (0 : Int32), .int (0 : Int32), .int (0 : Int32)])), (z1 47, .inl (cy 0, (4, .inl (fun _ => 0)))), (z1 48, .inr (3, [.int (5 : Int32), .ref (z1 49), .int (0 : Int32), .int (0 : Int32), .int (0 : Int32), .int (0 : Int32), .null, .int (0 : Int32), .int (0 : Int32), .int (0 : Int32)])), (z1 49, .inl (cy 0, (4, .inl (fun _ => 0)))), (z1 50, .inr (2, [.int (0 : Int32), .int (100 : Int32), .int (0 : Int32)])), (z1 51, .inr (1, [.ref (z1 52), .int (0 : Int32), .int (0 : Int32), .ref (z1 0)])), (z1 52, .inl (cy 1, (100, .inl (fun _ => 0)))), (z1 53, .inl (cy 4, (6, .inr (.inr (.inr (.inr (fun _ => none))))))), (z1 54, .inl (cy 0, (20, .inl (fun _ => 0)))), (z1 55, .inl (cy 6, (6, .inr (.inr (.inr (.inr (va_up (va_up (va_up (va_up (va_up (va_up (fun _ => none) 0 (some (z1 56))) 1 (some (z1 58))) 2 (some (z1 60))) 3 (some (z1 62))) 4 (some (z1 64))) 5 (some (z1 66))))))))), (z1 56, .inr (6, [.ref (z1 57), .int (-1 : Int32), .int (0 : Int32)])), (z1 57, .inl (cy 3, (60, .inr (.inl (fun _ => 0))))), (z1 58, .inr (6, [.ref (z1 59), .int (-1 : Int32), .int (0 : Int32)])), (z1 59, .inl (cy 3, (60, .inr (.inl (fun _ => 0))))), (z1 60, .inr (6, [.ref (z1 61), .int (-1 : Int32), .int (0 : Int32)])), (z1 61, .inl (cy 3, (60, .inr (.inl (fun _ => 0))))), (z1 62, .inr (6, [.ref (z1 63), .int (-1 : Int32), .int (0 : Int32)])), (z1 63, .inl (cy 3, (60, .inr (.inl (fun _ => 0))))), (z1 64, .inr (6, [.ref (z1 65), .int (-1 : Int32), .int (0 : Int32)])), (z1 65, .inl (cy 3, (60, .inr (.inl (fun _ => 0))))), (z1 66, .inr (6, [.ref (z1 67), .int (-1 : Int32), .int (0 : Int32)])), (z1 67, .inl (cy 3, (60, .inr (.inl (fun _ => 0)))))]) (ws' := fun z2 => WS0 cy a b z1 z2) ck [69] (List.range 69) dL_law_12 rfl rfl ⟨inG (inT 768 (by decide +kernel)) rfl, kw_X8⟩ rfl (Nat.le_of_ble_eq_true rfl) ⟨Nat.le_of_ble_eq_true rfl, Nat.le_of_ble_eq_true rfl⟩ ⟨Nat.le_of_ble_eq_true rfl, Nat.le_of_ble_eq_true rfl⟩ (n_X8 l D cy b) rfl rfl rfl rfl (by decide) (fun _ => rfl) (fun z2 => ?_)
    refine K_astore_n (q := 16) (ls' := [(2, .ref b), (1, .ref a), (0, .ref b0)]) ck dL_law_15 rfl rfl (Nat.le_of_ble_eq_true rfl) rfl ?_
    refine K_iconst (q := 17) (v := (0 : Int32)) ck dL_law_16 rfl (by decide) ?_
    refine K_istore_n (q := 18) (ls' := [(3, .int (0 : Int32)), (2, .ref b), (1, .ref a), (0, .ref b0)]) ck dL_law_17 rfl rfl (Nat.le_of_ble_eq_true rfl) rfl ?_
    intro H locs la hl hP hD hS
    have hl : lv_has la 4 [(3, .int (0 : Int32)), (2, .ref b), (1, .ref a), (0, .ref b0)] := by rw [← hml]; exact hl
    have lj := LJ_start (aK := aK) (aV := aV) (tK := tK) hD (hE _ rfl rfl rfl)
    have lt := law_loop (p := p) (l := l) (e := e) (s := s) (m := m) (below := below) (meth := meth) (c := c) (b := b0) (L := L) (xs := xs) (D := D) (cy := cy) C0 hL hK (L + 1) 0 (ad0 a b z1 z2 aK aV tK) 0 105 2760 S0x S0m (Nat.zero_le _) (by omega) Rel_0 lj (by omega) (by omega)
    exact lt H locs la (lv_sub hl [3, 2, 1, 0] rfl) ⟨W0_x hP, fun f i j x h => R0_x f i j x h⟩ ⟨W0_m hP, fun f i j x h => by cases h⟩ hS
  rw [lg_entry_eq]
  have hl := lv_entry ([.ref b0]) (n := 4) (Nat.le_of_ble_eq_true rfl)
  exact tk s.heap [] _ (by rw [hml]; exact hl) (fun k q h => by simp at h) ⟨fun i j p q h => by simp at h, fun k q h => by simp at h⟩ va_S.rf

